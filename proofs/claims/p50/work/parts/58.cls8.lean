/-! THE CLASS, a bench copied from another; a key told anew -/
def tB (M : LM) (B : Nat) : BT := (fun t j => mI M (B + t) j, fun i => (fun t j => mI M (cc B i + t) j, fun t j => mL M (cc B i + t) j))
def cpR (n : Nat) (g f : Nat → Int32) : Nat → Int32 := fun j => if j < n then g j else f j
section Cu
variable {M : LM} {B C D K R k i j t n o a : Nat} {T P : BT} {S : CS} {v x : Int32} {y : Int64} {z : Option (LO × LM)} {H : Nat → Nat → Int32} {Q : Nat → CS} {g : Nat → Int32}
theorem j_cpI (d : Nat) (h : aI M a n) (h2 : aI M o n) (hn : n ≤ 1000) (hoa : o ≠ a) : f_X10_copy (d + 1) M o a = some (.inl none, wRI M a (cpR n (mI M o) (mI M a))) := by
  obtain ⟨k3, k4, a3⟩ := h
  obtain ⟨k1, k2, b3⟩ := h2
  have hl : ¬ nI n < nI n := fun e => by have := (lt_iL (j := n) (k := n) (by omega) (by omega)).mp e; omega
  have n0 : (0 : Int32).toInt = 0 := rfl
  have n1 : (nI n).toInt = n := lt_iT (by omega)
  have n2 : (0 : Int32).toNatClampNeg = 0 := rfl
  have n3 : (nI n).toNatClampNeg = n := lt_iN (by omega)
  rw [e_X10_copy, lt_al_t (by omega), lt_al_t (by omega), k2, k4, if_neg hl, lt_al_t (by omega)]
  unfold lt_cp
  rw [if_pos ⟨by omega, by omega, by omega, by omega, by rw [k2]; omega, by rw [k4]; omega⟩, if_pos ⟨k1, k3⟩, n2, n3]
  have e : va_cpy (mI M o) (mI M a) 0 0 n = cpR n (mI M o) (mI M a) := funext fun j => by
    unfold va_cpy cpR
    by_cases q : j < n
    · rw [if_pos (by omega), if_pos q, Nat.sub_zero, Nat.zero_add]
    · rw [if_neg (by omega), if_neg q]
  rw [e]
theorem bM_rI (ht : t < 9) : wRI (bM M B T) (B + t) g = bM M B (u1 T.1 t g, T.2) := by
  refine Prod.ext (funext fun b => funext fun i => ?_) rfl
  show u1 (mI (bM M B T)) (B + t) g b i = (if B ≤ b ∧ b < B + 9 then u1 T.1 t g (b - B) i else _)
  by_cases hb : b = B + t
  · subst hb
    rw [if_pos (by omega), Nat.add_sub_cancel_left, u1e, u1e]
  · rw [u1_n hb]
    show (if B ≤ b ∧ b < B + 9 then T.1 (b - B) i else _) = _
    by_cases q : B ≤ b ∧ b < B + 9
    · rw [if_pos q, if_pos q, u1_n (by omega)]
    · rw [if_neg q, if_neg q]
theorem bMo (h : o < B ∨ B + 100 ≤ o) : mI (bM M B T) o = mI M o := funext fun j => by
  show (if B ≤ o ∧ o < B + 9 then _ else if B + 9 ≤ o ∧ o < B + 24 then _ else if B + 25 ≤ o ∧ o < B + 100 then _ else _) = _
  rw [if_neg (by omega), if_neg (by omega), if_neg (by omega)]
theorem bMoL (h : o < B ∨ B + 100 ≤ o) : mL (bM M B T) o = mL M o := funext fun j => by
  show (if B + 9 ≤ o ∧ o < B + 24 then _ else if B + 25 ≤ o ∧ o < B + 100 then _ else _) = _
  rw [if_neg (by omega), if_neg (by omega)]
theorem cc_ge (hi : i < 6) : B + 9 ≤ cc B i ∧ cc B i + 15 ≤ B + 100 := by unfold cc; split <;> omega
theorem bM_id : bM M B (tB M B) = M := by
  refine Prod.ext (funext fun b => funext fun i => ?_) (Prod.ext (funext fun b => funext fun i => ?_) rfl)
  · show (if B ≤ b ∧ b < B + 9 then mI M (B + (b - B)) i else if B + 9 ≤ b ∧ b < B + 24 then mI M (cc B 0 + (b - (B + 9))) i else if B + 25 ≤ b ∧ b < B + 100 then mI M (cc B ((b - (B + 10)) / 15) + (b - (B + 10)) % 15) i else mI M b i) = mI M b i
    by_cases q1 : B ≤ b ∧ b < B + 9
    · rw [if_pos q1, show B + (b - B) = b by omega]
    · rw [if_neg q1]
      by_cases q2 : B + 9 ≤ b ∧ b < B + 24
      · rw [if_pos q2, cc_0, show B + 9 + (b - (B + 9)) = b by omega]
      · rw [if_neg q2]
        by_cases q3 : B + 25 ≤ b ∧ b < B + 100
        · rw [if_pos q3, cc_p (by omega), show B + 10 + 15 * ((b - (B + 10)) / 15) + (b - (B + 10)) % 15 = b by omega]
        · rw [if_neg q3]
  · show (if B + 9 ≤ b ∧ b < B + 24 then mL M (cc B 0 + (b - (B + 9))) i else if B + 25 ≤ b ∧ b < B + 100 then mL M (cc B ((b - (B + 10)) / 15) + (b - (B + 10)) % 15) i else mL M b i) = mL M b i
    by_cases q2 : B + 9 ≤ b ∧ b < B + 24
    · rw [if_pos q2, cc_0, show B + 9 + (b - (B + 9)) = b by omega]
    · rw [if_neg q2]
      by_cases q3 : B + 25 ≤ b ∧ b < B + 100
      · rw [if_pos q3, cc_p (by omega), show B + 10 + 15 * ((b - (B + 10)) / 15) + (b - (B + 10)) % 15 = b by omega]
      · rw [if_neg q3]
theorem b_cpI (d : Nat) (ht : t < 9) (h : aI M (B + t) n) (h2 : aI M o n) (hn : n ≤ 1000) (ho : o < B ∨ B + 100 ≤ o) : f_X10_copy (d + 1) (bM M B T) o (B + t) = some (.inl none, bM M B (u1 T.1 t (cpR n (mI M o) (T.1 t)), T.2)) := by
  rw [j_cpI (M := bM M B T) d h h2 hn (by omega), bM_rI ht, bMI ht, bMo ho]
def kCpH (H G : Nat → Nat → Int32) : Nat → Nat → Int32 :=
  u2 (u1 (u1 (u1 (u1 (u1 (u1 H 2 (cpR 26 (G 2) (H 2))) 3 (cpR 26 (G 3) (H 3))) 4 (cpR 26 (G 4) (H 4))) 6 (cpR 300 (G 6) (H 6))) 7 (cpR 300 (G 7) (H 7))) 8 (cpR 300 (G 8) (H 8))) 5 3 (G 5 3)
theorem b_cpKeys (d : Nat) (h : bA M B) (h2 : bA M D) (hD : D + 100 ≤ B ∨ B + 100 ≤ D) : f_X3_copyKeys (d + 2) (bM M B T) (B + 1) (D + 1) = some (.inl none, bM M B (u1 (u1 (u1 T.1 2 (cpR 26 (mI M (D + 2)) (T.1 2))) 3 (cpR 26 (mI M (D + 3)) (T.1 3))) 4 (cpR 26 (mI M (D + 4)) (T.1 4)), T.2)) := by
  have ck : ∀ {T : BT} {z : Option (LO × LM)}, lt_ck (bM M B T) (D + 1) 19 z = z := fun {T z} => lt_ck_t (M := bM M B T) h2.2.2.2.2.2.1.1
  have p0 : ∀ {T : BT}, mP (bM M B T) (D + 1) 0 = some (D + 2) := fun {T} => h2.2.2.2.2.2.1.2.1
  have p1 : ∀ {T : BT}, mP (bM M B T) (D + 1) 1 = some (D + 3) := fun {T} => h2.2.2.2.2.2.1.2.2.1
  have p2 : ∀ {T : BT}, mP (bM M B T) (D + 1) 2 = some (D + 4) := fun {T} => h2.2.2.2.2.2.1.2.2.2.1
  have c2 := fun T => b_cpI (T := T) (t := 2) (o := D + 2) d (by omega) (b_a2 h) (b_a2 h2) (by omega) (by omega)
  have c3 := fun T => b_cpI (T := T) (t := 3) (o := D + 3) d (by omega) (b_a3 h) (b_a3 h2) (by omega) (by omega)
  have c4 := fun T => b_cpI (T := T) (t := 4) (o := D + 4) d (by omega) (b_a4 h) (b_a4 h2) (by omega) (by omega)
  rw [e_X3_copyKeys, ck, p0, x_rf, b_ckk h, b_k0 h, x_rf, c2, lt_bv_r, ck, p1, x_rf, b_ckk h, b_k1 h, x_rf, c3, lt_bv_r, ck, p2, x_rf, b_ckk h, b_k2 h, x_rf, c4, lt_bv_r]
  dsimp only
  rw [u1_n (f := T.1) (show 3 ≠ 2 by decide), u1_n (show 4 ≠ 3 by decide), u1_n (show 4 ≠ 2 by decide)]
theorem b_cpRow (d : Nat) (h : bA M B) (h2 : bA M D) (hD : D + 100 ≤ B ∨ B + 100 ≤ D) : f_X4_copyRow (d + 2) (bM M B T) (B + 5) (D + 5) = some (.inl none, bM M B (u2 (u1 (u1 (u1 T.1 6 (cpR 300 (mI M (D + 6)) (T.1 6))) 7 (cpR 300 (mI M (D + 7)) (T.1 7))) 8 (cpR 300 (mI M (D + 8)) (T.1 8))) 5 3 (mI M (D + 5) 3), T.2)) := by
  have ck : ∀ {T : BT} {z : Option (LO × LM)}, lt_ck (bM M B T) (D + 5) 20 z = z := fun {T z} => lt_ck_t (M := bM M B T) h2.2.2.2.2.2.2.1.1
  have p0 : ∀ {T : BT}, mP (bM M B T) (D + 5) 0 = some (D + 6) := fun {T} => h2.2.2.2.2.2.2.1.2.1
  have p1 : ∀ {T : BT}, mP (bM M B T) (D + 5) 1 = some (D + 7) := fun {T} => h2.2.2.2.2.2.2.1.2.2.1
  have p2 : ∀ {T : BT}, mP (bM M B T) (D + 5) 2 = some (D + 8) := fun {T} => h2.2.2.2.2.2.2.1.2.2.2.1
  have c2 := fun T => b_cpI (T := T) (t := 6) (o := D + 6) d (by omega) (b_a6 h) (b_a6 h2) (by omega) (by omega)
  have c3 := fun T => b_cpI (T := T) (t := 7) (o := D + 7) d (by omega) (b_a7 h) (b_a7 h2) (by omega) (by omega)
  have c4 := fun T => b_cpI (T := T) (t := 8) (o := D + 8) d (by omega) (b_a8 h) (b_a8 h2) (by omega) (by omega)
  rw [e_X4_copyRow, ck, p0, x_rf, b_ckr h, b_r0 h, x_rf, c2, lt_bv_r, ck, p1, x_rf, b_ckr h, b_r1 h, x_rf, c3, lt_bv_r, ck, p2, x_rf, b_ckr h, b_r2 h, x_rf, c4, lt_bv_r, ck, b_ckr h, x_m, bMo (by omega), bMw (by omega)]
  dsimp only
  rw [u1_n (f := T.1) (show 7 ≠ 6 by decide), u1_n (show 8 ≠ 7 by decide), u1_n (show 8 ≠ 6 by decide)]
theorem cc_sep (hD : D + 100 ≤ B ∨ B + 100 ≤ D) (hi : i < 6) (ht : t < 15) : cc D i + t < B ∨ B + 100 ≤ cc D i + t := by
  have := cc_ge (B := D) hi
  omega
/-- the caches of one bench copied to another's -/
theorem b_cp1 (d : Nat) (h : bA M B) (h2 : bA M D) (hD : D + 100 ≤ B ∨ B + 100 ≤ D) (hi : i < 6) : ∃ P : CS, (∀ t, t < 15 → P.1 t = (tB M D |>.2 i).1 t ∧ P.2 t = ((tB M D).2 i).2 t) ∧ f_X1_copyCache (d + 3) (bM M B T) (cc B i) (cc D i) = some (.inl none, bM M B (T.1, u1 T.2 i (kCopy (T.2 i) P))) := by
  have g1 := cc_ge (B := D) hi
  have g2 := cc_ge (B := B) hi
  have := k_copy (M := bM M B T) (C := cc B i) (D := cc D i) (S := T.2 i) d (bCA h hi) (bCA (T := tB M D) h2 hi) (by omega)
  rw [bM_ci hi, bM_c hi] at this
  refine ⟨_, fun t ht => ⟨funext fun j => ?_, funext fun j => ?_⟩, this⟩
  · show mI (bM M B T) (cc D i + t) j = mI M (cc D i + t) j
    rw [bMo (cc_sep hD hi ht)]
  · show mL (bM M B T) (cc D i + t) j = mL M (cc D i + t) j
    rw [bMoL (cc_sep hD hi ht)]
/-- kCopy looks at the cells of a cache only -/
theorem kCopy_P {P P' : CS} (h : ∀ t, t < 15 → P.1 t = P'.1 t ∧ P.2 t = P'.2 t) : kCopy S P = kCopy S P' := by
  unfold kCopy kCpT
  dsimp only
  rw [(h 0 (by omega)).1, (h 0 (by omega)).2, (h 1 (by omega)).1, (h 2 (by omega)).1, (h 3 (by omega)).2, (h 4 (by omega)).2, (h 5 (by omega)).2, (h 6 (by omega)).1, (h 7 (by omega)).1, (h 8 (by omega)).1, (h 9 (by omega)).1, (h 10 (by omega)).1, (h 11 (by omega)).2, (h 12 (by omega)).2, (h 13 (by omega)).1, (h 14 (by omega)).1]
theorem b_copy1 (d : Nat) (h : bA M B) (h2 : bA M D) (hD : D + 100 ≤ B ∨ B + 100 ≤ D) (hi : i < 6) : f_X1_copyCache (d + 3) (bM M B T) (cc B i) (cc D i) = some (.inl none, bM M B (T.1, u1 T.2 i (kCopy (T.2 i) ((tB M D).2 i)))) := by
  obtain ⟨P, hP, e⟩ := b_cp1 (T := T) d h h2 hD hi
  rw [e, kCopy_P hP]
/-- the other bench's caches, looked up from this window -/
theorem b_cacheO (d : Nat) (h2 : bA M D) (hi : i < 6) : f_X0_cache (d + 1) (bM M B T) D (nI i) = some (.inl (some (.ref (cc D i))), bM M B T) := by
  have := b_cache (M := bM M B T) (B := D) (T := tB (bM M B T) D) d h2 hi
  rwa [bM_id] at this
def kCpB (T P : BT) : BT := (u2 (kCpH T.1 P.1) 0 4 (P.1 0 4), fun i => if i < 6 then kCopy (T.2 i) (P.2 i) else T.2 i)
theorem b_copy_24 (d : Nat) (h : bA M B) (h2 : bA M D) (hD : D + 100 ≤ B ∨ B + 100 ≤ D) : ∀ (m : Nat) (Q Q0 : Nat → CS), m ≤ 6 → (∀ i, i < 6 → 6 - m ≤ i → Q i = Q0 i) → (∀ i, i < 6 - m → Q i = kCopy (Q0 i) ((tB M D).2 i)) → (∀ i, 6 ≤ i → Q i = Q0 i) →
    f_X0_copyBench_24 (d + 4) (bM M B (H, Q)) B D (nI (6 - m)) = some (.inl none, bM M B (u2 H 0 4 (mI M D 4), fun i => if i < 6 then kCopy (Q0 i) ((tB M D).2 i) else Q0 i))
  | 0, Q, Q0, _, _, h2', h3 => by
    have ck : lt_ck (bM M B (H, Q)) D 16 = fun z => z := funext fun z => lt_ck_t (M := bM M B (H, Q)) h2.1
    rw [e_X0_copyBench_24, if_neg (by decide), ck]
    dsimp only
    rw [b_ck h, x_m, bMo (by omega), bMw0]
    have : Q = fun i => if i < 6 then kCopy (Q0 i) ((tB M D).2 i) else Q0 i := funext fun i => by
      by_cases q : i < 6
      · rw [if_pos q, h2' i (by omega)]
      · rw [if_neg q, h3 i (by omega)]
    rw [this]
  | m + 1, Q, Q0, hm, h1, h2', h3 => by
    obtain ⟨g1, g2, g3⟩ := lt_suc6 hm
    have hi : 5 - m < 6 := by omega
    have e1 := h1 (5 - m) hi (by omega)
    have ck : ∀ {T : BT} {z : Option (LO × LM)}, lt_ck (bM M B T) D 16 z = z := fun {T z} => lt_ck_t (M := bM M B T) h2.1
    have ih := b_copy_24 d h h2 hD m (u1 Q (5 - m) (kCopy (Q (5 - m)) ((tB M D).2 (5 - m)))) Q0 (by omega)
      (fun i a b => by rw [u1_n (by omega)]; exact h1 i a (by omega))
      (fun i a => by
        by_cases q : i = 5 - m
        · rw [q, u1e, e1]
        · rw [u1_n q]; exact h2' i (by omega))
      (fun i a => by rw [u1_n (by omega)]; exact h3 i a)
    rw [g1, e_X0_copyBench_24, if_pos g3, b_ck h, b_cache (d + 2) h hi, lt_br_r, ck, b_cacheO (d + 2) h2 hi, lt_br_r, b_ckc h hi, b_copy1 d h h2 hD hi, lt_bv_r, g2]
    exact ih
/-- a bench copied -/
theorem b_copyBench (d : Nat) (h : bA M B) (h2 : bA M D) (hD : D + 100 ≤ B ∨ B + 100 ≤ D) : f_X0_copyBench (d + 4) (bM M B T) B D = some (.inl none, bM M B (kCpB T (tB M D))) := by
  have ck : ∀ {T : BT} {z : Option (LO × LM)}, lt_ck (bM M B T) D 16 z = z := fun {T z} => lt_ck_t (M := bM M B T) h2.1
  have p0 : ∀ {T : BT}, mP (bM M B T) D 0 = some (D + 1) := fun {T} => h2.2.1
  have p1 : ∀ {T : BT}, mP (bM M B T) D 1 = some (D + 5) := fun {T} => h2.2.2.1
  rw [e_X0_copyBench, b_ck h, b_p0 h, x_rf, ck, p0, x_rf, b_ckk h, b_cpKeys (d + 1) h h2 hD, lt_bv_r, b_ck h, b_p1 h, x_rf, ck, p1, x_rf, b_ckr h, b_cpRow (d + 1) h h2 hD, lt_bv_r]
  exact b_copy_24 d h h2 hD 6 T.2 T.2 (Nat.le_refl _) (fun _ _ _ => rfl) (fun i hi => by omega) (fun _ _ => rfl)
/-- a key told -/
theorem b_tell (d : Nat) (h : bA M B) (hk : k < 26) {a b e : Int32} : f_X3_tell (d + 2) (bM M B T) (B + 1) (nI k) a b e = some (.inl (some (.int (T.1 2 k))), bM M B (u2 (u2 (u2 T.1 2 k a) 3 k b) 4 k e, T.2)) := by
  rw [e_X3_tell]
  simp (maxSteps := 1000000) (disch := first | assumption | omega) only [Bool.false_eq_true, Int.reduceEq, x_rf, x_m, lt_bv_r, lt_bi_r, lt_bl_r, lt_br_r, ↓b_ck, b_ckr, b_ckk, b_p0, b_p1, b_p2, b_p3, b_r0, b_r1, b_r2, b_k0, b_k1, b_k2, bMI, bMI0, bMw, bMw0, z2_eq, z2_n1, z2_n2, lt_iN, lt_b1_0, lt_b1_1, x_if1, x_eq1, x_10, x_01, x_11, x_00, ↓reduceIte, s10_bit, s10_has, c_pop, j_max, j_min, b_put2, b_put3, b_put4, b_put6, b_put7, b_put8, b_at2, b_at3, b_at4, b_at6, b_at7, b_at8]
end Cu
