/-! THE LAW'S OWN CELLS: what is drawn, new arrays, and what a step of the law leaves alone -/
def drS (M : LM) : Int64 := mL M 1 0 * 6364136223846793005 + 1442695040888963407
def drw (M : LM) : LM := wL M 1 0 (drS M)
def drv (M : LM) (m : Nat) : Nat := ((drS M).toBitVec.toNat >>> 33) % m
def LW (M : LM) (T : BT) (R : Nat → BT) (c : Nat) : Prop := SO M T R c ∧ mK M 1 = 27
/-- but for the cells of the class, that of the draws, and some -/
def FX (P : Nat → Prop) (c s : Nat) (M M' : LM) : Prop := mN M ≤ mN M' ∧ (∀ a, a < mN M → ¬ OWN M a → mK M' a = mK M a ∧ mZ M' a = mZ M a) ∧ (∀ a, a < mN M → ¬ OWN M a → a ≠ 1 → ¬ P a → SAM M M' a) ∧ (∀ a, a < mN M → OWN M' a → OWN M a) ∧ mC M' + 100 * nnP (mP M' 103) ≤ mC M + 100 * nnP (mP M 103) + c ∧ mS M' + 4314 * nnP (mP M' 103) ≤ mS M + 4314 * nnP (mP M 103) + s
/-- an array of ints of the law -/
def AR (M : LM) (o n : Nat) (g : Nat → Int32) : Prop := aI M o n ∧ o < mN M ∧ ¬ OWN M o ∧ o ≠ 1 ∧ ∀ i, i < n → mI M o i = g i
section Da
variable {M M' M1 N : LM} {B D i j k t w f n c e r a o m s c' s' : Nat} {x y v b1 b2 : Int32} {z : Option (LO × LM)} {b : Bool} {T T' T2 : BT} {R : Nat → BT} {P Q : Nat → Prop} {g : Nat → Int32}
theorem i64_of {q : Int64} {k : Nat} (h : q.toBitVec.toNat = k) (hk : k < 2147483648) : q.toInt = (k : Int) := by
  show q.toBitVec.toInt = _
  rw [BitVec.toInt_eq_toNat_cond, h]
  split <;> omega
theorem drv_lt (h : 0 < m) : drv M m < m := Nat.mod_lt _ h
theorem wL_rd {q : Int64} : mL (wL M a i q) a i = q := z2_eq (F := mL M)
theorem wL_K {q : Int64} : mK (wL M a i q) = mK M := rfl
theorem lus_mod {q : Int64} {A : Nat} (hqi : q.toInt = (A : Int)) (hb : A < 2147483648) (hm : m < 2147483648) : Int64.toInt32 (q - q / Int32.toInt64 (nI m) * Int32.toInt64 (nI m)) = nI (A % m) := by
  have hmi : (Int32.toInt64 (nI m)).toInt = (m : Int) := by rw [Int32.toInt_toInt64, lt_iT hm]
  have h1 := Nat.div_add_mod A m
  have h2 : A / m * m + A % m = A := by rw [Nat.mul_comm]; exact h1
  have h3 : A / m ≤ A := Nat.div_le_self A m
  have e1 : (q / Int32.toInt64 (nI m)).toInt = ((A / m : Nat) : Int) := by
    rw [Int64.toInt_div, hqi, hmi, show ((A : Int).tdiv (m : Int)) = ((A / m : Nat) : Int) from rfl]
    generalize A / m = X at h3 ⊢
    exact Int.bmod_eq_of_le (by omega) (by omega)
  have e2 : (q / Int32.toInt64 (nI m) * Int32.toInt64 (nI m)).toInt = ((A / m * m : Nat) : Int) := by
    rw [Int64.toInt_mul, e1, hmi, ← Int.natCast_mul]
    generalize A / m * m = X at h2 ⊢
    exact Int.bmod_eq_of_le (by omega) (by omega)
  have e3 : (q - q / Int32.toInt64 (nI m) * Int32.toInt64 (nI m)) = Int32.toInt64 (nI (A % m)) := by
    refine Int64.toInt_inj.mp ?_
    rw [Int64.toInt_sub, hqi, e2, Int32.toInt_toInt64, lt_iT (by omega)]
    generalize A / m * m = X at h2 ⊢
    rw [show ((A : Int) - (X : Int)) = ((A % m : Nat) : Int) by omega]
    exact Int.bmod_eq_of_le (by omega) (by omega)
  rw [e3, Int32.toInt32_toInt64]
theorem drw_K : mK (drw M) = mK M := wL_K
theorem drw_L : mL (drw M) 1 0 = drS M := wL_rd
theorem draw_n (d : Nat) (hk : mK M 1 = 27) (h0 : 0 < m) (hm : m < 2147483648) : f_X11_n (d + 1) M 1 (nI m) = some (.inl (some (.int (nI (drv M m)))), drw M) := by
  have hk' : mK (drw M) 1 = 27 := by rw [drw_K]; exact hk
  have hq : (lt_lus (drS M) 33).toBitVec.toNat = (drS M).toBitVec.toNat >>> 33 := lus_N (n := 33) (by omega)
  have hb : (drS M).toBitVec.toNat >>> 33 < 2147483648 := by
    have := (drS M).toBitVec.isLt
    rw [Nat.shiftRight_eq_div_pow]
    omega
  have hqi := i64_of hq hb
  have hmi : (Int32.toInt64 (nI m)).toInt = (m : Int) := by rw [Int32.toInt_toInt64, lt_iT hm]
  have hm0 : ¬ Int32.toInt64 (nI m) = 0 := fun e => by
    have := congrArg Int64.toInt e
    rw [hmi] at this
    have : (m : Int) = 0 := this
    omega
  have key := lus_mod hqi hb hm
  have e0 : wL M 1 0 (mL M 1 0 * 6364136223846793005 + 1442695040888963407) = drw M := rfl
  rw [e_X11_n, lt_ck_t hk, lt_ck_t hk, x_m, e0, lt_ck_t hk', drw_L, key]
  exact if_neg hm0
theorem FX.rf : FX P 0 0 M M := ⟨Nat.le_refl _, fun _ _ _ => ⟨rfl, rfl⟩, fun _ _ _ _ _ => SAM.rf, fun _ _ h => h, Nat.le_refl _, Nat.le_refl _⟩
theorem FX.tr (h : FX P c s M M') (g : FX P c' s' M' N) : FX P (c + c') (s + s') M N := by
  obtain ⟨h1, h2, h3, h4, h5, h6⟩ := h
  obtain ⟨g1, g2, g3, g4, g5, g6⟩ := g
  refine ⟨Nat.le_trans h1 g1, fun a ha ho => ?_, fun a ha ho h1 hp => (h3 a ha ho h1 hp).tr (g3 a (by omega) (fun q => ho (h4 a ha q)) h1 hp), fun a ha q => h4 a ha (g4 a (by omega) q), by omega, by omega⟩
  have u := h2 a ha ho
  have w := g2 a (by omega) (fun q => ho (h4 a ha q))
  exact ⟨w.1.trans u.1, w.2.trans u.2⟩
theorem FX.mo (h : FX P c s M M') (hp : ∀ a, a < mN M → P a → Q a) (hc : c ≤ c') (hs : s ≤ s') : FX Q c' s' M M' := by
  obtain ⟨h1, h2, h3, h4, h5, h6⟩ := h
  exact ⟨h1, h2, fun a ha ho h1 hq => h3 a ha ho h1 (fun p => hq (hp a ha p)), h4, by omega, by omega⟩
theorem FX.of (h : FR M M') : FX P 0 0 M M' := ⟨h.1, fun a ha ho => ⟨(h.2.1 a ha ho).2.2.2.1, (h.2.1 a ha ho).2.2.2.2⟩, fun a ha ho _ _ => h.2.1 a ha ho, h.2.2.1, h.2.2.2.1, h.2.2.2.2⟩
/-- what is new is left alone too -/
theorem FX.nw (h : FX (fun a => P a ∨ mN M ≤ a) c s M M') : FX P c s M M' := h.mo (fun a ha q => by
  rcases q with q | q
  · exact q
  · omega) (Nat.le_refl _) (Nat.le_refl _)
theorem SO_keep (h : SO M T R c) (hN : mN M ≤ mN M') (h2 : ∀ a, a < mN M → OWN M a → SAM M M' a) : SO M' T R c := by
  obtain ⟨hk, hB, e, g1, g2, g3, g4, g5⟩ := h
  have n := t_n hk
  have lo : ∀ a, 2 ≤ a → a < 124 → SAM M M' a := fun a q1 q2 => h2 a (by omega) (OWN_lo q1 q2)
  have sm : ∀ lo' hi, 2 ≤ lo' → hi ≤ 124 → SM M M' lo' hi := fun lo' hi q1 q2 a q3 q4 => by
    have := lo a (by omega) (by omega)
    exact ⟨this.2.2.2.1, this.2.2.2.2, this.2.2.1⟩
  have p103 : mP M' 103 = mP M 103 := (lo 103 (by omega) (by omega)).2.2.1
  have pa : ∀ j Q, j < 6 → mP M 103 j = some Q → ∀ a, Q ≤ a → a < Q + 100 → SAM M M' a := fun j Q hj hq a q1 q2 => h2 a (by have := (t_pa hk hj hq).2.2; omega) (Or.inr ⟨j, Q, hj, hq, q1, q2⟩)
  have l2 := lo 2 (by omega) (by omega)
  have l3 := lo 103 (by omega) (by omega)
  refine ⟨⟨⟨l2.2.2.2.1.trans hk.1.1, ?_, ?_, ?_, ?_, ?_⟩, ⟨l3.2.2.2.1.trans (t_past hk).1, l3.2.2.2.2.trans (t_past hk).2⟩, bA_cg (t_b hk) (sm _ _ (by omega) (by omega)), QA_cg (t_q hk) (sm _ _ (by omega) (by omega)), SA_cg (t_s hk) (sm _ _ (by omega) (by omega)), PA_cg (t_h hk) (sm _ _ (by omega) (by omega)), by omega, fun j Q hj hq => ?_, fun i j P Q hi hj hij hP hQ => ?_⟩, hB.tr (tB_o fun a q1 q2 => ⟨(lo a (by omega) (by omega)).1, (lo a (by omega) (by omega)).2.1⟩), e, ?_, ?_, g3, g4, fun i hi => ?_⟩
  · rw [l2.2.2.1]; exact t_p0 hk
  · rw [l2.2.2.1]; exact t_p1 hk
  · rw [l2.2.2.1]; exact t_p4 hk
  · rw [l2.2.2.1]; exact t_p6 hk
  · rw [l2.2.2.1]; exact t_p7 hk
  · rw [p103] at hq
    obtain ⟨u1, u2, u3⟩ := t_pa hk hj hq
    exact ⟨bA_cg u1 (fun a q1 q2 => by
      have := pa j Q hj hq a q1 q2
      exact ⟨this.2.2.2.1, this.2.2.2.2, this.2.2.1⟩), u2, by omega⟩
  · rw [p103] at hP hQ
    exact t_pd hk hi hj hij hP hQ
  · rw [l2.1]; exact g1
  · rw [l2.1]; exact g2
  · obtain ⟨P, u1, u2⟩ := g5 i hi
    exact ⟨P, by rw [p103]; exact u1, u2.tr (tB_o fun a q1 q2 => ⟨(pa _ P slt_lt u1 a q1 q2).1, (pa _ P slt_lt u1 a q1 q2).2.1⟩)⟩
theorem OWN_new (h : CSK M) : ¬ OWN M (mN M) := fun q => by
  have := t_n h
  rcases q with ⟨q1, q2⟩ | ⟨j, P, j1, j2, j3, j4⟩
  · omega
  · have := (t_pa h j1 j2).2.2
    omega
theorem LW_drw (h : LW M T R c) : LW (drw M) T R c := ⟨SO_keep h.1 (Nat.le_refl _) (fun a _ ho => ⟨rfl, funext fun j => if_neg (fun q => by
  have hn := t_n h.1.1
  rcases ho with ⟨q1, q2⟩ | ⟨j', P, j1, j2, j3, j4⟩
  · omega
  · have := (t_pa h.1.1 j1 j2).2.1
    omega), rfl, rfl, rfl⟩), h.2⟩
theorem FX_drw : FX P 0 0 M (drw M) := ⟨Nat.le_refl _, fun _ _ _ => ⟨rfl, rfl⟩, fun a _ _ h1 _ => ⟨rfl, funext fun j => if_neg (fun q => h1 q.1), rfl, rfl, rfl⟩, fun _ _ h => h, Nat.le_refl _, Nat.le_refl _⟩
/-- a place of an array of the law's own -/
theorem LW_wI (h : LW M T R c) (ho : ¬ OWN M o) : LW (wI M o i x) T R c := ⟨SO_keep h.1 (Nat.le_refl _) (fun a _ hA => ⟨funext fun j => if_neg (fun q => ho (by rw [← q.1]; exact hA)), rfl, rfl, rfl, rfl⟩), h.2⟩
theorem FX_wI (hp : P o) : FX P 0 0 M (wI M o i x) := ⟨Nat.le_refl _, fun _ _ _ => ⟨rfl, rfl⟩, fun a _ _ _ h2 => ⟨funext fun j => if_neg (fun q => h2 (by rw [q.1]; exact hp)), rfl, rfl, rfl, rfl⟩, fun _ _ h => h, Nat.le_refl _, Nat.le_refl _⟩
/-- a new cell -/
theorem LW_new (h : LW M T R c) : LW (aNew M k n m) T R c := ⟨SO_keep h.1 (Nat.le_succ _) (fun a ha _ => by
  have q : a ≠ mN M := by omega
  exact ⟨if_neg q, if_neg q, if_neg q, if_neg q, if_neg q⟩), by
  have := t_n h.1.1
  show (if 1 = mN M then k else mK M 1) = 27
  rw [if_neg (by omega)]
  exact h.2⟩
theorem FX_new (h : 103 < mN M) : FX P 1 m M (aNew M k n m) := by
  have p103 : mP (aNew M k n m) 103 = mP M 103 := if_neg (by omega)
  refine ⟨Nat.le_succ _, fun a ha _ => ⟨if_neg (by omega), if_neg (by omega)⟩, fun a ha _ _ _ => ?_, fun a ha q => ?_, ?_, ?_⟩
  · have q : a ≠ mN M := by omega
    exact ⟨if_neg q, if_neg q, if_neg q, if_neg q, if_neg q⟩
  · unfold OWN at q ⊢
    rw [p103] at q
    exact q
  · rw [p103]
    show mC M + 1 + _ ≤ _
    omega
  · rw [p103]
    show mS M + m + _ ≤ _
    omega
theorem nN_new : mN (aNew M k n m) = mN M + 1 := rfl
theorem nOWN (h : LW M T R c) : ¬ OWN (aNew M k n m) (mN M) := fun q => by
  have hn := t_n h.1.1
  apply OWN_new h.1.1
  have p103 : mP (aNew M k n m) 103 = mP M 103 := if_neg (by omega)
  unfold OWN at q ⊢
  rw [p103] at q
  exact q
theorem AR_new (h : LW M T R c) (hn : n < 2147483648) : AR (aNew M 1 n m) (mN M) n (fun _ => 0) := by
  have h1 := t_n h.1.1
  refine ⟨⟨if_pos rfl, if_pos rfl, hn⟩, Nat.lt_succ_self _, nOWN h, by omega, fun i _ => ?_⟩
  exact congrFun (if_pos rfl : (if mN M = mN M then (fun _ => (0 : Int32)) else mI M (mN M)) = fun _ => 0) i
theorem AR.kp (h : AR M o n g) (f : FX P c s M M') (hp : ¬ P o) : AR M' o n g := by
  obtain ⟨⟨h1, h2, h3⟩, h4, h5, h6, h7⟩ := h
  obtain ⟨f1, f2, f3, f4, -⟩ := f
  have g2 := f2 o h4 h5
  have g3 := f3 o h4 h5 h6 hp
  exact ⟨⟨g2.1.trans h1, g2.2.trans h2, h3⟩, by omega, fun q => h5 (f4 o h4 q), h6, fun i hi => by rw [g3.1]; exact h7 i hi⟩
theorem AR.wr (h : AR M o n g) : AR (wI M o i x) o n (fun j => if j = i then x else g j) := by
  obtain ⟨h1, h4, h5, h6, h7⟩ := h
  refine ⟨h1, h4, h5, h6, fun j hj => ?_⟩
  show (if o = o ∧ j = i then x else mI M o j) = if j = i then x else g j
  by_cases q : j = i
  · rw [if_pos ⟨rfl, q⟩, if_pos q]
  · rw [if_neg (fun e => q e.2), if_neg q, h7 j hj]
theorem AR.ar (h : AR M o n g) (hi : i < n) : lt_ar M o 1 (nI i) z = z := lt_ar_t h.1.1 (by rw [h.1.2.1]; exact lt_iI hi (by have := h.1.2.2; omega))
theorem AR.rd (h : AR M o n g) (hi : i < n) : mI M o (lt_n (nI i)) = g i := by rw [lt_iN (by have := h.1.2.2; omega)]; exact h.2.2.2.2 i hi
theorem AR.al (h : AR M o n g) : lt_al M o z = z := lt_al_t (by have := h.1.1; omega)
theorem AR.zz (h : AR M o n g) : mZ M o = n := h.1.2.1
theorem AR.own (h : AR M o n g) : ¬ OWN M o := h.2.2.1
theorem AR.cg {g' : Nat → Int32} (h : AR M o n g) (e : ∀ i, i < n → g' i = g i) : AR M o n g' := ⟨h.1, h.2.1, h.2.2.1, h.2.2.2.1, fun i hi => (h.2.2.2.2 i hi).trans (e i hi).symm⟩
theorem LW_FR {R' : Nat → BT} (h : LW M T R c) (g : FR M M') (h' : SO M' T' R' c') : LW M' T' R' c' := by
  have hn := t_n h.1.1
  refine ⟨h', ((g.2.1 1 (by omega) (fun q => ?_)).2.2.2.1).trans h.2⟩
  rcases q with ⟨q1, q2⟩ | ⟨j', P, j1, j2, j3, j4⟩
  · omega
  · have := (t_pa h.1.1 j1 j2).2.1
    omega
end Da
