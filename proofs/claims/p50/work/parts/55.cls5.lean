/-! THE CLASS, a Bench as a window: its cells B .. B + 99; heads (keys, row, time) and six caches -/
abbrev BT : Type := (Nat → Nat → Int32) × (Nat → CS)
def cc (B i : Nat) : Nat := if i = 0 then B + 9 else B + 10 + 15 * i
def bM (M : LM) (B : Nat) (T : BT) : LM :=
  (fun b j => if B ≤ b ∧ b < B + 9 then T.1 (b - B) j else if B + 9 ≤ b ∧ b < B + 24 then (T.2 0).1 (b - (B + 9)) j else if B + 25 ≤ b ∧ b < B + 100 then (T.2 ((b - (B + 10)) / 15)).1 ((b - (B + 10)) % 15) j else mI M b j,
   fun b j => if B + 9 ≤ b ∧ b < B + 24 then (T.2 0).2 (b - (B + 9)) j else if B + 25 ≤ b ∧ b < B + 100 then (T.2 ((b - (B + 10)) / 15)).2 ((b - (B + 10)) % 15) j else mL M b j, M.2.2)
/-- a bench's object, keys, row, caches -/
def bA (M : LM) (B : Nat) : Prop := mK M B = 16 ∧ mP M B 0 = some (B + 1) ∧ mP M B 1 = some (B + 5) ∧ mP M B 2 = some (B + 9) ∧ mP M B 3 = some (B + 24) ∧ kA M (B + 1) (B + 2) (B + 3) (B + 4) ∧
  (mK M (B + 5) = 20 ∧ mP M (B + 5) 0 = some (B + 6) ∧ mP M (B + 5) 1 = some (B + 7) ∧ mP M (B + 5) 2 = some (B + 8) ∧ aI M (B + 6) 300 ∧ aI M (B + 7) 300 ∧ aI M (B + 8) 300) ∧
  mK M (B + 24) = 6 ∧ mZ M (B + 24) = 6 ∧ ∀ i, i < 6 → mP M (B + 24) i = some (cc B i) ∧ cA M (cc B i)
section Cr
variable {M : LM} {B C D K R k i j t n o : Nat} {T : BT} {S : CS} {v x : Int32} {y : Int64} {z : Option (LO × LM)}
theorem bMI (ht : t < 9) : mI (bM M B T) (B + t) = T.1 t := funext fun j => by
  show (if B ≤ B + t ∧ B + t < B + 9 then T.1 (B + t - B) j else _) = _
  rw [if_pos (by omega), Nat.add_sub_cancel_left]
theorem cc_0 : cc B 0 = B + 9 := rfl
theorem cc_p (h : 0 < i) : cc B i = B + 10 + 15 * i := if_neg (by omega)
theorem u1_n {α : Type} {f : Nat → α} {v : α} {a b : Nat} (h : b ≠ a) : u1 f a v b = f b := if_neg h
/-- seen as the window of one of its caches -/
theorem bM_c (hi : i < 6) : cM (bM M B T) (cc B i) S = bM M B (T.1, u1 T.2 i S) := by
  have ue : u1 T.2 i S i = S := if_pos rfl
  have un : ∀ {n : Nat}, n ≠ i → u1 T.2 i S n = T.2 n := fun h => if_neg h
  refine Prod.ext (funext fun b => funext fun j => ?_) (Prod.ext (funext fun b => funext fun j => ?_) rfl)
  · show (if cc B i ≤ b ∧ b < cc B i + 15 then S.1 (b - cc B i) j else (if B ≤ b ∧ b < B + 9 then T.1 (b - B) j else if B + 9 ≤ b ∧ b < B + 24 then (T.2 0).1 (b - (B + 9)) j else if B + 25 ≤ b ∧ b < B + 100 then (T.2 ((b - (B + 10)) / 15)).1 ((b - (B + 10)) % 15) j else mI M b j)) =
      (if B ≤ b ∧ b < B + 9 then T.1 (b - B) j else if B + 9 ≤ b ∧ b < B + 24 then (u1 T.2 i S 0).1 (b - (B + 9)) j else if B + 25 ≤ b ∧ b < B + 100 then (u1 T.2 i S ((b - (B + 10)) / 15)).1 ((b - (B + 10)) % 15) j else mI M b j)
    rcases Nat.eq_zero_or_pos i with h0 | h0
    · subst h0
      rw [cc_0, ue]
      by_cases q1 : B ≤ b ∧ b < B + 9
      · rw [if_neg (show ¬(B + 9 ≤ b ∧ b < B + 9 + 15) by omega), if_pos q1, if_pos q1]
      · rw [if_neg q1, if_neg q1]
        by_cases q : B + 9 ≤ b ∧ b < B + 24
        · rw [if_pos (show B + 9 ≤ b ∧ b < B + 9 + 15 by omega), if_pos q]
        · rw [if_neg (show ¬(B + 9 ≤ b ∧ b < B + 9 + 15) by omega), if_neg q, if_neg q]
          by_cases q2 : B + 25 ≤ b ∧ b < B + 100
          · rw [if_pos q2, if_pos q2, un (by omega)]
          · rw [if_neg q2, if_neg q2]
    · rw [cc_p h0, un (n := 0) (by omega)]
      by_cases q : B + 10 + 15 * i ≤ b ∧ b < B + 10 + 15 * i + 15
      · rw [if_pos q, if_neg (show ¬(B ≤ b ∧ b < B + 9) by omega), if_neg (show ¬(B + 9 ≤ b ∧ b < B + 24) by omega), if_pos (show B + 25 ≤ b ∧ b < B + 100 by omega), show (b - (B + 10)) / 15 = i by omega, ue, show (b - (B + 10)) % 15 = b - (B + 10 + 15 * i) by omega]
      · rw [if_neg q]
        by_cases q2 : B + 25 ≤ b ∧ b < B + 100
        · rw [un (n := (b - (B + 10)) / 15) (by omega)]
        · rw [if_neg q2, if_neg q2]
  · show (if cc B i ≤ b ∧ b < cc B i + 15 then S.2 (b - cc B i) j else (if B + 9 ≤ b ∧ b < B + 24 then (T.2 0).2 (b - (B + 9)) j else if B + 25 ≤ b ∧ b < B + 100 then (T.2 ((b - (B + 10)) / 15)).2 ((b - (B + 10)) % 15) j else mL M b j)) =
      (if B + 9 ≤ b ∧ b < B + 24 then (u1 T.2 i S 0).2 (b - (B + 9)) j else if B + 25 ≤ b ∧ b < B + 100 then (u1 T.2 i S ((b - (B + 10)) / 15)).2 ((b - (B + 10)) % 15) j else mL M b j)
    rcases Nat.eq_zero_or_pos i with h0 | h0
    · subst h0
      rw [cc_0, ue]
      by_cases q : B + 9 ≤ b ∧ b < B + 24
      · rw [if_pos (show B + 9 ≤ b ∧ b < B + 9 + 15 by omega), if_pos q]
      · rw [if_neg (show ¬(B + 9 ≤ b ∧ b < B + 9 + 15) by omega), if_neg q, if_neg q]
        by_cases q2 : B + 25 ≤ b ∧ b < B + 100
        · rw [if_pos q2, if_pos q2, un (by omega)]
        · rw [if_neg q2, if_neg q2]
    · rw [cc_p h0, un (n := 0) (by omega)]
      by_cases q : B + 10 + 15 * i ≤ b ∧ b < B + 10 + 15 * i + 15
      · rw [if_pos q, if_neg (show ¬(B + 9 ≤ b ∧ b < B + 24) by omega), if_pos (show B + 25 ≤ b ∧ b < B + 100 by omega), show (b - (B + 10)) / 15 = i by omega, ue, show (b - (B + 10)) % 15 = b - (B + 10 + 15 * i) by omega]
      · rw [if_neg q]
        by_cases q2 : B + 25 ≤ b ∧ b < B + 100
        · rw [un (n := (b - (B + 10)) / 15) (by omega)]
        · rw [if_neg q2, if_neg q2]
theorem u1i {α : Type} {f : Nat → α} : u1 f i (f i) = f := funext fun b => by
  unfold u1
  split
  · rename_i h; rw [h]
  · rfl
theorem u1e {α : Type} {f : Nat → α} {v : α} : u1 f i v i = v := if_pos rfl
theorem bM_ci (hi : i < 6) : cM (bM M B T) (cc B i) (T.2 i) = bM M B T := by rw [bM_c hi, u1i]
theorem bMw (ht : t < 9) : wI (bM M B T) (B + t) j v = bM M B (u2 T.1 t j v, T.2) := by
  refine Prod.ext (funext fun b => funext fun i => ?_) rfl
  show (if b = B + t ∧ i = j then v else (if B ≤ b ∧ b < B + 9 then T.1 (b - B) i else _)) = (if B ≤ b ∧ b < B + 9 then u2 T.1 t j v (b - B) i else _)
  unfold u2
  by_cases hb : b = B + t
  · subst hb
    rw [if_pos (show B ≤ B + t ∧ B + t < B + 9 by omega), if_pos (show B ≤ B + t ∧ B + t < B + 9 by omega), Nat.add_sub_cancel_left]
    by_cases hi : i = j
    · rw [if_pos ⟨rfl, hi⟩, if_pos ⟨rfl, hi⟩]
    · rw [if_neg (fun e => hi e.2), if_neg (fun e => hi e.2)]
  · rw [if_neg (fun e => hb e.1)]
    by_cases q : B ≤ b ∧ b < B + 9
    · rw [if_pos q, if_pos q, if_neg (by omega)]
    · rw [if_neg q, if_neg q]
theorem bMI0 : mI (bM M B T) B = T.1 0 := bMI (t := 0) (by omega)
theorem bMw0 : wI (bM M B T) B j v = bM M B (u2 T.1 0 j v, T.2) := bMw (t := 0) (by omega)
theorem bKO (h : bA M B) (hi : i < 6) : KO (bM M B T) (cc B i) (B + 1) := ⟨h.2.2.2.2.2.1, by unfold cc; split <;> omega⟩
theorem bRO (h : bA M B) (hi : i < 6) : RO (bM M B T) (cc B i) (B + 5) := by
  obtain ⟨-, -, -, -, -, -, ⟨r1, r2, r3, r4, r5, r6, r7⟩, -⟩ := h
  exact ⟨r1, r2, r3, r4, r5, r6, r7, by unfold cc; split <;> omega⟩
theorem bCA (h : bA M B) (hi : i < 6) : cA (bM M B T) (cc B i) := (h.2.2.2.2.2.2.2.2.2 i hi).2
theorem b_ck (h : bA M B) : lt_ck (bM M B T) B 16 z = z := lt_ck_t (M := bM M B T) h.1
theorem b_p0 (h : bA M B) : mP (bM M B T) B 0 = some (B + 1) := h.2.1
theorem b_p1 (h : bA M B) : mP (bM M B T) B 1 = some (B + 5) := h.2.2.1
theorem b_p2 (h : bA M B) : mP (bM M B T) B 2 = some (B + 9) := h.2.2.2.1
theorem b_p3 (h : bA M B) : mP (bM M B T) B 3 = some (B + 24) := h.2.2.2.2.1
theorem b_ckc (h : bA M B) (hi : i < 6) : lt_ck (bM M B T) (cc B i) 17 z = z := lt_ck_t (M := bM M B T) (bCA (T := T) h hi).1.1
theorem b_ckr (h : bA M B) : lt_ck (bM M B T) (B + 5) 20 z = z := lt_ck_t (M := bM M B T) h.2.2.2.2.2.2.1.1
theorem lt_br_r {q : Nat} {M : LM} {hl : List (Nat × Int32)} {K : Nat → LM → Option (LO × LM)} : lt_br (some (.inl (some (.ref q)), M)) hl K = K q M := rfl
theorem b_cache (d : Nat) (h : bA M B) (hi : i < 6) : f_X0_cache (d + 1) (bM M B T) B (nI i) = some (.inl (some (.ref (cc B i))), bM M B T) := by
  have k1 : mK (bM M B T) (B + 24) = 6 := h.2.2.2.2.2.2.2.1
  have k2 : mZ (bM M B T) (B + 24) = 6 := h.2.2.2.2.2.2.2.2.1
  have k3 : mP (bM M B T) (B + 24) i = some (cc B i) := (h.2.2.2.2.2.2.2.2.2 i hi).1
  have hl : nI i < nI 6 := (lt_iL (by omega) (by omega)).mpr hi
  have aa : ∀ z : Option (LO × LM), lt_aa (bM M B T) (B + 24) (nI i) z = z := fun z => if_pos ⟨by omega, by rw [k2]; exact lt_iI hi (by omega)⟩
  rw [e_X0_cache, if_neg (lt_neg (by omega)), b_ck h, b_p3 h, x_rf, lt_al_t (by omega), k2, if_pos hl, b_ck h, x_rf, aa, lt_iN (by omega), k3]
  rfl
/-- the keys' heads -/
def bH (T : BT) (W : Nat → Nat) : Prop := (∀ k, k < 26 → T.1 4 k = nI (W k) ∧ W k < 4) ∧ ∀ k, k < 26 → 0 < T.1 2 k
theorem b_feed (d : Nat) (h : bA M B) (hi : i < 6) {W : Nat → Nat} (hH : bH T W) (hk : k < 26) (hn : n < 300) (hx : T.1 6 n = nI k) {l ahead : Option Nat} (hlS : (T.2 i).2 11 k = Int32.toInt64 (oI l)) (hl : LA (T.1 6) l ahead) (hl2 : ∀ j, l = some j → j < 300) :
    f_X1_feed (d + 6) (bM M B T) (cc B i) (B + 1) (B + 5) (nI n) = some (.inl (some (.int (bI (bt ((T.2 i).1 0 5) k)))), bM M B (T.1, u1 T.2 i (kFeed (T.1 2) (T.1 3) (T.1 4) W k ahead (T.1 8 n) (T.1 7 n) n (T.2 i)))) := by
  have e2 : mI (bM M B T) (B + 1 + 1) = T.1 2 := by rw [show B + 1 + 1 = B + 2 by omega]; exact bMI (by omega)
  have e3 : mI (bM M B T) (B + 1 + 2) = T.1 3 := by rw [show B + 1 + 2 = B + 3 by omega]; exact bMI (by omega)
  have e4 : mI (bM M B T) (B + 1 + 3) = T.1 4 := by rw [show B + 1 + 3 = B + 4 by omega]; exact bMI (by omega)
  have e6 : mI (bM M B T) (B + 5 + 1) = T.1 6 := by rw [show B + 5 + 1 = B + 6 by omega]; exact bMI (by omega)
  have e7 : mI (bM M B T) (B + 5 + 2) = T.1 7 := by rw [show B + 5 + 2 = B + 7 by omega]; exact bMI (by omega)
  have e8 : mI (bM M B T) (B + 5 + 3) = T.1 8 := by rw [show B + 5 + 3 = B + 8 by omega]; exact bMI (by omega)
  have := k_feed (M := bM M B T) (C := cc B i) (S := T.2 i) (K := B + 1) (R := B + 5) (k := k) (i := n) (W := W) d (bCA h hi) (bKO h hi) (bRO h hi) (by rw [e4]; exact hH.1) (by rw [e2]; exact hH.2) hk hn (by rw [e6]; exact hx) hlS (by rw [e6]; exact hl) hl2
  rw [bM_ci hi, bM_c hi, e2, e3, e4, e7, e8] at this
  exact this
theorem b_lapse1 (d : Nat) (h : bA M B) (hi : i < 6) : f_X1_lapseAt (d + 3) (bM M B T) (cc B i) x = some (.inl (some (.int (kLapseAt x (T.2 i)).2)), bM M B (T.1, u1 T.2 i (kLapseAt x (T.2 i)).1)) := by
  have := k_lapseAt (M := bM M B T) (C := cc B i) (S := T.2 i) (x := x) d (bCA h hi)
  rw [bM_ci hi, bM_c hi] at this
  exact this
theorem b_empty1 (d : Nat) (h : bA M B) (hi : i < 6) : f_X1_empty (d + 3) (bM M B T) (cc B i) x = some (.inl none, bM M B (T.1, u1 T.2 i (kEmpty (T.2 i) x))) := by
  have := k_empty (M := bM M B T) (C := cc B i) (S := T.2 i) (nx := x) d (bCA h hi)
  rw [bM_ci hi, bM_c hi] at this
  exact this
theorem lt_suc6 {n : Nat} (hn : n + 1 ≤ 6) : nI (6 - (n + 1)) = nI (5 - n) ∧ nI (5 - n) + 1 = nI (6 - n) ∧ nI (5 - n) < (6 : Int32) := by
  refine ⟨by congr 1; omega, ?_, (lt_iL (j := 5 - n) (k := 6) (by omega) (by omega)).mpr (by omega)⟩
  rw [show nI (5 - n) + 1 = nI (5 - n + 1) from lt_iA (j := 5 - n) (k := 1)]
  congr 1
  omega
/-- all caches lapse -/
def kLapses (x : Int32) : Nat → (Nat → CS) → Int32 → (Nat → CS) × Int32
  | 0, T, m => (T, m)
  | n + 1, T, m => kLapses x n (u1 T (5 - n) (kLapseAt x (T (5 - n))).1) (m + (kLapseAt x (T (5 - n))).2)
theorem b_lapse_4 (d : Nat) (h : bA M B) : ∀ (n : Nat) (T : BT) (m : Int32), n ≤ 6 → f_X0_lapseAt_4 (d + 4) (bM M B T) B x m (nI (6 - n)) = some (.inl (some (.int (kLapses x n T.2 m).2)), bM M B (T.1, (kLapses x n T.2 m).1))
  | 0, T, m, _ => by
    rw [e_X0_lapseAt_4, if_neg (by decide)]
    rfl
  | n + 1, T, m, hn => by
    obtain ⟨g1, g2, g3⟩ := lt_suc6 hn
    have hi : 5 - n < 6 := by omega
    rw [g1, e_X0_lapseAt_4, if_pos g3, b_ck h, b_cache (d + 2) h hi, lt_br_r, b_ckc h hi, b_lapse1 d h hi, lt_bi_r, g2, b_lapse_4 d h n _ _ (by omega)]
    rfl
theorem b_lapseAt (d : Nat) (h : bA M B) : f_X0_lapseAt (d + 4) (bM M B T) B x = some (.inl (some (.int (kLapses x 6 T.2 0).2)), bM M B (T.1, (kLapses x 6 T.2 0).1)) := by
  rw [e_X0_lapseAt]
  exact b_lapse_4 d h 6 T 0 (Nat.le_refl _)
def kEmpties : Nat → (Nat → CS) → (Nat → CS)
  | 0, T => T
  | n + 1, T => kEmpties n (u1 T (5 - n) (kEmpty (T (5 - n)) 0))
theorem b_empties_2 (d : Nat) (h : bA M B) : ∀ (n : Nat) (T : BT), n ≤ 6 → f_X0_emptyCaches_2 (d + 4) (bM M B T) B (nI (6 - n)) = some (.inl none, bM M B (T.1, kEmpties n T.2))
  | 0, T, _ => by
    rw [e_X0_emptyCaches_2, if_neg (by decide)]
    rfl
  | n + 1, T, hn => by
    obtain ⟨g1, g2, g3⟩ := lt_suc6 hn
    have hi : 5 - n < 6 := by omega
    rw [g1, e_X0_emptyCaches_2, if_pos g3, b_ck h, b_cache (d + 2) h hi, lt_br_r, b_ckc h hi, b_empty1 d h hi, lt_bv_r, g2, b_empties_2 d h n _ (by omega)]
    rfl
theorem b_emptyCaches (d : Nat) (h : bA M B) : f_X0_emptyCaches (d + 4) (bM M B T) B = some (.inl none, bM M B (T.1, kEmpties 6 T.2)) := by
  rw [e_X0_emptyCaches]
  exact b_empties_2 d h 6 T (Nat.le_refl _)
/-- whether a key is anywhere -/
def kAny (T : Nat → CS) : Nat → Int32 → Int32
  | 0, e => e
  | n + 1, e => kAny T n (e ||| (((T (5 - n)).1 0 5 ||| (T (5 - n)).1 13 0) ||| (T (5 - n)).1 14 0))
theorem b_any_4 (d : Nat) (h : bA M B) (hk : k < 26) : ∀ (n : Nat) (e : Int32), n ≤ 6 → f_X0_isAnywhere_4 (d + 2) (bM M B T) B (nI k) e (nI (6 - n)) = some (.inl (some (.int (bI (bt (kAny T.2 n e) k)))), bM M B T)
  | 0, e, _ => by
    have hb1' : ∀ (b : Bool) (z : Option (LO × LM)), lt_b1 (bI b) z = z := fun b z => by cases b <;> rfl
    rw [e_X0_isAnywhere_4, if_neg (by decide), s10_has d hk, lt_bi_r]
    exact hb1' (bt e k) _
  | n + 1, e, hn => by
    obtain ⟨g1, g2, g3⟩ := lt_suc6 hn
    have hi : 5 - n < 6 := by omega
    have hc := bCA (T := T) h hi
    have m0 : mI (bM M B T) (cc B (5 - n)) 5 = (T.2 (5 - n)).1 0 5 := by
      conv => lhs; rw [← bM_ci (M := M) (B := B) (T := T) hi]
      rw [cI0]
    have m13 : mI (bM M B T) (cc B (5 - n) + 13) 0 = (T.2 (5 - n)).1 13 0 := by
      conv => lhs; rw [← bM_ci (M := M) (B := B) (T := T) hi]
      rw [cIt (by omega)]
    have m14 : mI (bM M B T) (cc B (5 - n) + 14) 0 = (T.2 (5 - n)).1 14 0 := by
      conv => lhs; rw [← bM_ci (M := M) (B := B) (T := T) hi]
      rw [cIt (by omega)]
    have p18 : mP (bM M B T) (cc B (5 - n)) 18 = some (cc B (5 - n) + 13) := hc.1.2.2.2.2.2.2.2.1
    have p19 : mP (bM M B T) (cc B (5 - n)) 19 = some (cc B (5 - n) + 14) := hc.1.2.2.2.2.2.2.2.2
    rw [g1, e_X0_isAnywhere_4, if_pos g3, b_ck h, b_cache d h hi, lt_br_r, b_ckc h hi, b_ckc h hi, p18, x_rf, lt_ck_t hc.2.2.1.1, b_ckc h hi, p19, x_rf, lt_ck_t hc.2.2.1.2, m0, m13, m14, g2, b_any_4 d h hk n _ (by omega)]
    rfl
theorem b_isAnywhere (d : Nat) (h : bA M B) (hk : k < 26) : f_X0_isAnywhere (d + 2) (bM M B T) B (nI k) = some (.inl (some (.int (bI (bt (kAny T.2 6 0) k)))), bM M B T) := by
  rw [e_X0_isAnywhere]
  exact b_any_4 d h hk 6 0 (Nat.le_refl _)
end Cr
