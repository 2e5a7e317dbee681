/-! THE CLASS, a Cache as a window: set up, emptied, copied -/
def cfI (S : CS) (t n : Nat) (g : Nat → Int32) : CS := (u1 S.1 t (fun j => if j < n then g j else S.1 t j), S.2)
def cfL (S : CS) (t n : Nat) (g : Nat → Int64) : CS := (S.1, u1 S.2 t (fun j => if j < n then g j else S.2 t j))
section Cq
variable {M : LM} {C D K R k i j t n o : Nat} {S : CS} {v x : Int32} {y : Int64} {z : Option (LO × LM)} {g : Nat → Int32} {gl : Nat → Int64}
theorem cM_rI (ht : t < 15) : wRI (cM M C S) (C + t) g = cM M C (u1 S.1 t g, S.2) := by
  refine Prod.ext (funext fun b => funext fun i => ?_) rfl
  show u1 (mI (cM M C S)) (C + t) g b i = if C ≤ b ∧ b < C + 15 then u1 S.1 t g (b - C) i else mI M b i
  by_cases hb : b = C + t
  · subst hb
    have q : C ≤ C + t ∧ C + t < C + 15 := by omega
    rw [if_pos q, Nat.add_sub_cancel_left]
    unfold u1
    rw [if_pos rfl, if_pos rfl]
  · have e1 : u1 (mI (cM M C S)) (C + t) g b = mI (cM M C S) b := if_neg hb
    rw [e1]
    show (if C ≤ b ∧ b < C + 15 then S.1 (b - C) i else mI M b i) = _
    by_cases q : C ≤ b ∧ b < C + 15
    · rw [if_pos q, if_pos q]
      unfold u1
      rw [if_neg (by omega)]
    · rw [if_neg q, if_neg q]
theorem cM_rL (ht : t < 15) : wRL (cM M C S) (C + t) gl = cM M C (S.1, u1 S.2 t gl) := by
  refine Prod.ext rfl (Prod.ext (funext fun b => funext fun i => ?_) rfl)
  show u1 (mL (cM M C S)) (C + t) gl b i = if C ≤ b ∧ b < C + 15 then u1 S.2 t gl (b - C) i else mL M b i
  by_cases hb : b = C + t
  · subst hb
    have q : C ≤ C + t ∧ C + t < C + 15 := by omega
    rw [if_pos q, Nat.add_sub_cancel_left]
    unfold u1
    rw [if_pos rfl, if_pos rfl]
  · have e1 : u1 (mL (cM M C S)) (C + t) gl b = mL (cM M C S) b := if_neg hb
    rw [e1]
    show (if C ≤ b ∧ b < C + 15 then S.2 (b - C) i else mL M b i) = _
    by_cases q : C ≤ b ∧ b < C + 15
    · rw [if_pos q, if_pos q]
      unfold u1
      rw [if_neg (by omega)]
    · rw [if_neg q, if_neg q]
/-- Arrays.fill -/
theorem j_fillI (d : Nat) (h : aI M o n) : f_J7_fill_53178 (d + 1) M o v = some (.inl none, wRI M o (fun j => if j < n then v else mI M o j)) := by
  obtain ⟨h1, h2, h3⟩ := h
  have key : ∀ (m : Nat) (N : LM), m ≤ n → mK N o = 1 → mZ N o = n → f_J7_fill_53178_5 (d + 1) N o v (nI (n - m)) (nI n) = some (.inl none, wRI N o (fun j => if n - m ≤ j ∧ j < n then v else mI N o j)) := by
    intro m
    induction m with
    | zero =>
      intro N _ k1 k2
      have hl : ¬ nI (n - 0) < nI n := fun e => by have := (lt_iL (j := n - 0) (k := n) (by omega) h3).mp e; omega
      rw [e_J7_fill_53178_5, if_neg hl]
      have : (fun j => if n - 0 ≤ j ∧ j < n then v else mI N o j) = mI N o := funext fun j => if_neg (by omega)
      rw [this, wRI_id]
    | succ m ih =>
      intro N hm k1 k2
      have hl : nI (n - (m + 1)) < nI n := (lt_iL (by omega) h3).mpr (by omega)
      have g2 : nI (n - (m + 1)) + 1 = nI (n - m) := by
        rw [show nI (n - (m + 1)) + 1 = nI (n - (m + 1) + 1) from lt_iA (j := n - (m + 1)) (k := 1)]
        congr 1
        omega
      rw [e_J7_fill_53178_5, if_pos hl, lt_ar_t k1 (by rw [k2]; exact lt_iI (by omega) (by omega)), x_m, lt_iN (by omega), g2, ih (wI N o (n - (m + 1)) v) (by omega) k1 k2]
      congr 2
      refine Prod.ext (funext fun b => funext fun i => ?_) rfl
      show u1 (mI (wI N o (n - (m + 1)) v)) o _ b i = u1 (mI N) o _ b i
      unfold u1
      by_cases hb : b = o
      · rw [if_pos hb, if_pos hb]
        by_cases c1 : n - m ≤ i ∧ i < n
        · rw [if_pos c1, if_pos (by omega)]
        · rw [if_neg c1, mI_wI]
          by_cases c2 : i = n - (m + 1)
          · rw [if_pos ⟨rfl, c2⟩, if_pos (by omega)]
          · rw [if_neg (fun e => c2 e.2), if_neg (by omega)]
      · rw [if_neg hb, if_neg hb, mI_wI, if_neg (fun e => hb e.1)]
  rw [e_J7_fill_53178, lt_al_t (by omega), h2]
  have := key n M (Nat.le_refl _) h1 h2
  rw [Nat.sub_self] at this
  refine Eq.trans this ?_
  simp only [Nat.zero_le, true_and]
theorem j_fillL (d : Nat) (h : aL M o n) : f_J7_fill_d0a16 (d + 1) M o y = some (.inl none, wRL M o (fun j => if j < n then y else mL M o j)) := by
  obtain ⟨h1, h2, h3⟩ := h
  have idL : ∀ (N : LM), wRL N o (mL N o) = N := fun N => by
    refine Prod.ext rfl (Prod.ext (funext fun b => ?_) rfl)
    show (if b = o then mL N o else mL N b) = mL N b
    by_cases hb : b = o
    · rw [if_pos hb, hb]
    · rw [if_neg hb]
  have key : ∀ (m : Nat) (N : LM), m ≤ n → mK N o = 2 → mZ N o = n → f_J7_fill_d0a16_6 (d + 1) N o y (nI (n - m)) (nI n) = some (.inl none, wRL N o (fun j => if n - m ≤ j ∧ j < n then y else mL N o j)) := by
    intro m
    induction m with
    | zero =>
      intro N _ k1 k2
      have hl : ¬ nI (n - 0) < nI n := fun e => by have := (lt_iL (j := n - 0) (k := n) (by omega) h3).mp e; omega
      rw [e_J7_fill_d0a16_6, if_neg hl]
      have : (fun j => if n - 0 ≤ j ∧ j < n then y else mL N o j) = mL N o := funext fun j => if_neg (by omega)
      rw [this, idL]
    | succ m ih =>
      intro N hm k1 k2
      have hl : nI (n - (m + 1)) < nI n := (lt_iL (by omega) h3).mpr (by omega)
      have g2 : nI (n - (m + 1)) + 1 = nI (n - m) := by
        rw [show nI (n - (m + 1)) + 1 = nI (n - (m + 1) + 1) from lt_iA (j := n - (m + 1)) (k := 1)]
        congr 1
        omega
      rw [e_J7_fill_d0a16_6, if_pos hl, lt_ar_t k1 (by rw [k2]; exact lt_iI (by omega) (by omega)), x_m, lt_iN (by omega), g2, ih (wL N o (n - (m + 1)) y) (by omega) k1 k2]
      congr 2
      refine Prod.ext rfl (Prod.ext (funext fun b => funext fun i => ?_) rfl)
      show u1 (mL (wL N o (n - (m + 1)) y)) o _ b i = u1 (mL N) o _ b i
      unfold u1
      by_cases hb : b = o
      · rw [if_pos hb, if_pos hb]
        by_cases c1 : n - m ≤ i ∧ i < n
        · rw [if_pos c1, if_pos (by omega)]
        · rw [if_neg c1, mL_wL]
          by_cases c2 : i = n - (m + 1)
          · rw [if_pos ⟨rfl, c2⟩, if_pos (by omega)]
          · rw [if_neg (fun e => c2 e.2), if_neg (by omega)]
      · rw [if_neg hb, if_neg hb, mL_wL, if_neg (fun e => hb e.1)]
  rw [e_J7_fill_d0a16, lt_al_t (by omega), h2]
  have := key n M (Nat.le_refl _) h1 h2
  rw [Nat.sub_self] at this
  refine Eq.trans this ?_
  simp only [Nat.zero_le, true_and]
theorem k_fillI (d : Nat) (ht : t < 15) (h : aI M (C + t) n) : f_J7_fill_53178 (d + 1) (cM M C S) (C + t) v = some (.inl none, cM M C (cfI S t n (fun _ => v))) := by
  rw [j_fillI (M := cM M C S) d h, cM_rI ht, cIt ht]
  rfl
theorem k_fillL (d : Nat) (ht : t < 15) (h : aL M (C + t) n) : f_J7_fill_d0a16 (d + 1) (cM M C S) (C + t) y = some (.inl none, cM M C (cfL S t n (fun _ => y))) := by
  rw [j_fillL (M := cM M C S) d h, cM_rL ht, cLt ht]
  rfl
def kSetUp (S : CS) (rule room lapse mode : Int32) : CS := cfI (cwi (cwi (cwi (cwi S 0 0 rule) 0 1 room) 0 2 lapse) 0 3 mode) 1 4 (fun _ => 0)
theorem k_setUp (d : Nat) (h : cA M C) {a b e f : Int32} : f_X1_setUp (d + 2) (cM M C S) C a b e f = some (.inl none, cM M C (kSetUp S a b e f)) := by
  have f1 := fun S v => k_fillI (S := S) (v := v) (t := 1) d (by omega) h.2.2.2.1
  rw [e_X1_setUp]
  simp (maxSteps := 1000000) (disch := first | assumption | omega) only [Bool.false_eq_true, Int.reduceEq, x_rf, x_m, lt_bv_r, lt_bi_r, lt_bl_r, ↓k_ck, k_ck6, k_ck13, k_ck14, cI0, cIt, cL0, cLt, cwI0, cwIt, cwL0, cwLt, cwi_1, cwi_2, cwl_1, cwl_2, z2_eq, z2_n1, z2_n2, lt_iN, lt_b1_0, lt_b1_1, x_if1, x_eq1, x_10, x_01, x_11, x_00, ↓reduceIte, s10_bit, s10_has, c_pop, j_max, j_min, k_p4, k_p13, k_p14, k_p15, k_p16, k_p17, k_p18, k_p19, k_q0, k_q1, k_q2, k_q3, k_q4, k_q5, k_at1, k_put1, k_add1, k_ar1, k_al1, k_z1, k_at2, k_put2, k_add2, k_ar2, k_al2, k_z2, k_at7, k_put7, k_add7, k_ar7, k_al7, k_z7, k_at8, k_put8, k_add8, k_ar8, k_al8, k_z8, k_at9, k_put9, k_add9, k_ar9, k_al9, k_z9, k_at10, k_put10, k_add10, k_ar10, k_al10, k_z10, k_at1_0, k_at1_1, k_at1_2, k_at1_3, k_put1_0, k_put1_1, k_put1_2, k_put1_3, k_add7_0, k_add7_1, k_add7_2, k_add7_3, k_add7_4, k_add7_5, k_add7_6, k_add7_7, k_add7_8, k_atL3, k_putL3, k_least3, k_atL4, k_putL4, k_least4, k_atL5, k_putL5, k_least5, k_atL11, k_putL11, k_least11, k_atL12, k_putL12, k_least12, k_ckK, k_pK0, k_pK1, k_pK2, k_atK1, k_atK2, k_atK3, k_units, k_owner, k_ckR, k_pR0, k_pR1, k_pR2, k_atR1, k_atR2, k_atR3, f1]
  rfl
def kShare (S : CS) (a b e f : Int32) : CS := cwi (cwi (cwi (cwi S 1 0 a) 1 1 b) 1 2 e) 1 3 f
theorem k_share (d : Nat) (h : cA M C) {a b e f : Int32} : f_X1_share (d + 2) (cM M C S) C a b e f = some (.inl none, cM M C (kShare S a b e f)) := by
  rw [e_X1_share]
  simp (maxSteps := 1000000) (disch := first | assumption | omega) only [Bool.false_eq_true, Int.reduceEq, x_rf, x_m, lt_bv_r, lt_bi_r, lt_bl_r, ↓k_ck, k_ck6, k_ck13, k_ck14, cI0, cIt, cL0, cLt, cwI0, cwIt, cwL0, cwLt, cwi_1, cwi_2, cwl_1, cwl_2, z2_eq, z2_n1, z2_n2, lt_iN, lt_b1_0, lt_b1_1, x_if1, x_eq1, x_10, x_01, x_11, x_00, ↓reduceIte, s10_bit, s10_has, c_pop, j_max, j_min, k_p4, k_p13, k_p14, k_p15, k_p16, k_p17, k_p18, k_p19, k_q0, k_q1, k_q2, k_q3, k_q4, k_q5, k_at1, k_put1, k_add1, k_ar1, k_al1, k_z1, k_at2, k_put2, k_add2, k_ar2, k_al2, k_z2, k_at7, k_put7, k_add7, k_ar7, k_al7, k_z7, k_at8, k_put8, k_add8, k_ar8, k_al8, k_z8, k_at9, k_put9, k_add9, k_ar9, k_al9, k_z9, k_at10, k_put10, k_add10, k_ar10, k_al10, k_z10, k_at1_0, k_at1_1, k_at1_2, k_at1_3, k_put1_0, k_put1_1, k_put1_2, k_put1_3, k_add7_0, k_add7_1, k_add7_2, k_add7_3, k_add7_4, k_add7_5, k_add7_6, k_add7_7, k_add7_8, k_atL3, k_putL3, k_least3, k_atL4, k_putL4, k_least4, k_atL5, k_putL5, k_least5, k_atL11, k_putL11, k_least11, k_atL12, k_putL12, k_least12, k_ckK, k_pK0, k_pK1, k_pK2, k_atK1, k_atK2, k_atK3, k_units, k_owner, k_ckR, k_pR0, k_pR1, k_pR2, k_atR1, k_atR2, k_atR3]
  rfl
def kStart (S : CS) (nx : Int32) : CS := cwi (cwi (cfL (cfL (cfI (cfI (cfI S 7 9 (fun _ => 0)) 8 26 (fun _ => 0)) 9 26 (fun _ => 0)) 11 26 (fun _ => -1)) 12 26 (fun _ => 0)) 6 6 nx) 6 7 nx
theorem k_start (d : Nat) (h : cA M C) {nx : Int32} : f_X8_start (d + 2) (cM M C S) (C + 6) nx = some (.inl none, cM M C (kStart S nx)) := by
  have f7 := fun S v => k_fillI (S := S) (v := v) (t := 7) d (by omega) h.2.2.2.2.2.2.2.2.1
  have f8 := fun S v => k_fillI (S := S) (v := v) (t := 8) d (by omega) h.2.2.2.2.2.2.2.2.2.1
  have f9 := fun S v => k_fillI (S := S) (v := v) (t := 9) d (by omega) h.2.2.2.2.2.2.2.2.2.2.1
  have f11 := fun S v => k_fillL (S := S) (y := v) (t := 11) d (by omega) h.2.2.2.2.2.2.2.2.2.2.2.2.1
  have f12 := fun S v => k_fillL (S := S) (y := v) (t := 12) d (by omega) h.2.2.2.2.2.2.2.2.2.2.2.2.2
  rw [e_X8_start]
  simp (maxSteps := 1000000) (disch := first | assumption | omega) only [Bool.false_eq_true, Int.reduceEq, x_rf, x_m, lt_bv_r, lt_bi_r, lt_bl_r, ↓k_ck, k_ck6, k_ck13, k_ck14, cI0, cIt, cL0, cLt, cwI0, cwIt, cwL0, cwLt, cwi_1, cwi_2, cwl_1, cwl_2, z2_eq, z2_n1, z2_n2, lt_iN, lt_b1_0, lt_b1_1, x_if1, x_eq1, x_10, x_01, x_11, x_00, ↓reduceIte, s10_bit, s10_has, c_pop, j_max, j_min, k_p4, k_p13, k_p14, k_p15, k_p16, k_p17, k_p18, k_p19, k_q0, k_q1, k_q2, k_q3, k_q4, k_q5, k_at1, k_put1, k_add1, k_ar1, k_al1, k_z1, k_at2, k_put2, k_add2, k_ar2, k_al2, k_z2, k_at7, k_put7, k_add7, k_ar7, k_al7, k_z7, k_at8, k_put8, k_add8, k_ar8, k_al8, k_z8, k_at9, k_put9, k_add9, k_ar9, k_al9, k_z9, k_at10, k_put10, k_add10, k_ar10, k_al10, k_z10, k_at1_0, k_at1_1, k_at1_2, k_at1_3, k_put1_0, k_put1_1, k_put1_2, k_put1_3, k_add7_0, k_add7_1, k_add7_2, k_add7_3, k_add7_4, k_add7_5, k_add7_6, k_add7_7, k_add7_8, k_atL3, k_putL3, k_least3, k_atL4, k_putL4, k_least4, k_atL5, k_putL5, k_least5, k_atL11, k_putL11, k_least11, k_atL12, k_putL12, k_least12, k_ckK, k_pK0, k_pK1, k_pK2, k_atK1, k_atK2, k_atK3, k_units, k_owner, k_ckR, k_pR0, k_pR1, k_pR2, k_atR1, k_atR2, k_atR3, f7, f8, f9, f11, f12]
  rfl
def kEmpty (S : CS) (nx : Int32) : CS := cwi (cwi (cwi (cwi (kStart (cwi (cwl (cwi (cwi (cwi (cwi (cwi (cwi S 0 5 0) 0 6 0) 0 7 0) 0 8 0) 0 9 0) 0 10 0) 0 11 0) 0 12 0) nx) 13 0 0) 13 1 0) 14 0 0) 14 1 0
theorem k_empty (d : Nat) (h : cA M C) {nx : Int32} : f_X1_empty (d + 3) (cM M C S) C nx = some (.inl none, cM M C (kEmpty S nx)) := by
  rw [e_X1_empty]
  simp (maxSteps := 1000000) (disch := first | assumption | omega) only [Bool.false_eq_true, Int.reduceEq, x_rf, x_m, lt_bv_r, lt_bi_r, lt_bl_r, ↓k_ck, k_ck6, k_ck13, k_ck14, cI0, cIt, cL0, cLt, cwI0, cwIt, cwL0, cwLt, cwi_1, cwi_2, cwl_1, cwl_2, z2_eq, z2_n1, z2_n2, lt_iN, lt_b1_0, lt_b1_1, x_if1, x_eq1, x_10, x_01, x_11, x_00, ↓reduceIte, s10_bit, s10_has, c_pop, j_max, j_min, k_p4, k_p13, k_p14, k_p15, k_p16, k_p17, k_p18, k_p19, k_q0, k_q1, k_q2, k_q3, k_q4, k_q5, k_at1, k_put1, k_add1, k_ar1, k_al1, k_z1, k_at2, k_put2, k_add2, k_ar2, k_al2, k_z2, k_at7, k_put7, k_add7, k_ar7, k_al7, k_z7, k_at8, k_put8, k_add8, k_ar8, k_al8, k_z8, k_at9, k_put9, k_add9, k_ar9, k_al9, k_z9, k_at10, k_put10, k_add10, k_ar10, k_al10, k_z10, k_at1_0, k_at1_1, k_at1_2, k_at1_3, k_put1_0, k_put1_1, k_put1_2, k_put1_3, k_add7_0, k_add7_1, k_add7_2, k_add7_3, k_add7_4, k_add7_5, k_add7_6, k_add7_7, k_add7_8, k_atL3, k_putL3, k_least3, k_atL4, k_putL4, k_least4, k_atL5, k_putL5, k_least5, k_atL11, k_putL11, k_least11, k_atL12, k_putL12, k_least12, k_ckK, k_pK0, k_pK1, k_pK2, k_atK1, k_atK2, k_atK3, k_units, k_owner, k_ckR, k_pR0, k_pR1, k_pR2, k_atR1, k_atR2, k_atR3, k_start, e_X5_start]
  rfl
/-- rows copied from another cache -/
theorem k_cpI (ht : t < 15) (h : aI M (C + t) n) (h2 : aI M o n) (ho : o < C ∨ C + 15 ≤ o) (hn : n ≤ 1000) {d : Nat} : f_X10_copy (d + 1) (cM M C S) o (C + t) = some (.inl none, cM M C (cfI S t n (mI M o))) := by
  obtain ⟨a1, a2, a3⟩ := h
  obtain ⟨b1, b2, b3⟩ := h2
  have k1 : mK (cM M C S) o = 1 := b1
  have k2 : mZ (cM M C S) o = n := b2
  have k3 : mK (cM M C S) (C + t) = 1 := a1
  have k4 : mZ (cM M C S) (C + t) = n := a2
  have hl : ¬ nI n < nI n := fun e => by have := (lt_iL (j := n) (k := n) (by omega) (by omega)).mp e; omega
  have n0 : (0 : Int32).toInt = 0 := rfl
  have n1 : (nI n).toInt = n := lt_iT (by omega)
  have n2 : (0 : Int32).toNatClampNeg = 0 := rfl
  have n3 : (nI n).toNatClampNeg = n := lt_iN (by omega)
  have eo : mI (cM M C S) o = mI M o := funext fun j => if_neg (by omega)
  rw [e_X10_copy, lt_al_t (by omega), lt_al_t (by omega), k2, k4, if_neg hl, lt_al_t (by omega)]
  unfold lt_cp
  rw [if_pos ⟨by omega, by omega, by omega, by omega, by rw [k2]; omega, by rw [k4]; omega⟩, if_pos ⟨k1, k3⟩, n2, n3, eo, cIt ht, cM_rI ht]
  have e : va_cpy (mI M o) (S.1 t) 0 0 n = fun j => if j < n then mI M o j else S.1 t j := funext fun j => by
    unfold va_cpy
    by_cases q : j < n
    · rw [if_pos (by omega), if_pos q, Nat.sub_zero, Nat.zero_add]
    · rw [if_neg (by omega), if_neg q]
  rw [e]
  rfl
theorem k_cpL (ht : t < 15) (h : aL M (C + t) n) (h2 : aL M o n) (ho : o < C ∨ C + 15 ≤ o) (hn : n ≤ 1000) {d : Nat} : f_X10_copy_ (d + 1) (cM M C S) o (C + t) = some (.inl none, cM M C (cfL S t n (mL M o))) := by
  obtain ⟨a1, a2, a3⟩ := h
  obtain ⟨b1, b2, b3⟩ := h2
  have k1 : mK (cM M C S) o = 2 := b1
  have k2 : mZ (cM M C S) o = n := b2
  have k3 : mK (cM M C S) (C + t) = 2 := a1
  have k4 : mZ (cM M C S) (C + t) = n := a2
  have hl : ¬ nI n < nI n := fun e => by have := (lt_iL (j := n) (k := n) (by omega) (by omega)).mp e; omega
  have n0 : (0 : Int32).toInt = 0 := rfl
  have n1 : (nI n).toInt = n := lt_iT (by omega)
  have n2 : (0 : Int32).toNatClampNeg = 0 := rfl
  have n3 : (nI n).toNatClampNeg = n := lt_iN (by omega)
  have eo : mL (cM M C S) o = mL M o := funext fun j => if_neg (by omega)
  rw [e_X10_copy_, lt_al_t (by omega), lt_al_t (by omega), k2, k4, if_neg hl, lt_al_t (by omega)]
  unfold lt_cp
  rw [if_pos ⟨by omega, by omega, by omega, by omega, by rw [k2]; omega, by rw [k4]; omega⟩, if_neg (fun e => by omega), if_pos ⟨k1, k3⟩, n2, n3, eo, cLt ht, cM_rL ht]
  have e : va_cpy (mL M o) (S.2 t) 0 0 n = fun j => if j < n then mL M o j else S.2 t j := funext fun j => by
    unfold va_cpy
    by_cases q : j < n
    · rw [if_pos (by omega), if_pos q, Nat.sub_zero, Nat.zero_add]
    · rw [if_neg (by omega), if_neg q]
  rw [e]
  rfl
/-- what a cache takes over from another -/
def kCpT (S : CS) (P : CS) : CS := cwi (cwi (cfL (cfL (cfI (cfI (cfI (cfI S 7 9 (P.1 7)) 8 26 (P.1 8)) 9 26 (P.1 9)) 10 300 (P.1 10)) 11 26 (P.2 11)) 12 26 (P.2 12)) 6 6 (P.1 6 6)) 6 7 (P.1 6 7)
def kCopy (S : CS) (P : CS) : CS :=
  let S1 := cfI (cwi (cwi (cwi (cwi S 0 0 (P.1 0 0)) 0 1 (P.1 0 1)) 0 2 (P.1 0 2)) 0 3 (P.1 0 3)) 1 4 (P.1 1)
  let S2 := cwi (cwl (cwi (cwi (cwi (cwi (cwi (cwi S1 0 5 (P.1 0 5)) 0 6 (P.1 0 6)) 0 7 (P.1 0 7)) 0 8 (P.1 0 8)) 0 9 (P.1 0 9)) 0 10 (P.1 0 10)) 0 11 (P.2 0 11)) 0 12 (P.1 0 12)
  let S3 := cfL (cfL (cfL (cfI S2 2 26 (P.1 2)) 3 26 (P.2 3)) 4 26 (P.2 4)) 5 26 (P.2 5)
  cwi (cwi (cwi (cwi (kCpT S3 P) 13 0 (P.1 13 0)) 13 1 (P.1 13 1)) 14 0 (P.1 14 0)) 14 1 (P.1 14 1)
theorem k_copy (d : Nat) (h : cA M C) (h2 : cA M D) (hD : D + 15 ≤ C ∨ C + 15 ≤ D) : f_X1_copyCache (d + 3) (cM M C S) C D = some (.inl none, cM M C (kCopy S (fun t j => mI M (D + t) j, fun t j => mL M (D + t) j))) := by
  have ck : ∀ {S : CS} {z : Option (LO × LM)}, lt_ck (cM M C S) D 17 z = z := fun {S z} => lt_ck_t (M := cM M C S) h2.1.1
  have ck6 : ∀ {S : CS} {z : Option (LO × LM)}, lt_ck (cM M C S) (D + 6) 24 z = z := fun {S z} => lt_ck_t (M := cM M C S) h2.2.1.1
  have ck13 : ∀ {S : CS} {z : Option (LO × LM)}, lt_ck (cM M C S) (D + 13) 21 z = z := fun {S z} => lt_ck_t (M := cM M C S) h2.2.2.1.1
  have ck14 : ∀ {S : CS} {z : Option (LO × LM)}, lt_ck (cM M C S) (D + 14) 21 z = z := fun {S z} => lt_ck_t (M := cM M C S) h2.2.2.1.2
  have mo : ∀ {S : CS} {t : Nat}, t < 15 → mI (cM M C S) (D + t) = mI M (D + t) := fun {S t} ht => funext fun j => if_neg (by omega)
  have mo0 : ∀ {S : CS}, mI (cM M C S) D = mI M D := fun {S} => mo (t := 0) (by omega)
  have lo0 : ∀ {S : CS}, mL (cM M C S) D = mL M D := fun {S} => funext fun j => if_neg (by omega)
  obtain ⟨⟨-, a2, a3, a4, a5, a6, a7, a8, a9⟩, ⟨-, q1, q2, q3, q4, q5, q6⟩, -, ⟨b1, b2, b3, b4, b5, b6, b7, b8, b9, b10, b11⟩⟩ := h2
  have h' := h
  obtain ⟨-, -, -, ⟨c1, c2, c3, c4, c5, c6, c7, c8, c9, c10, c11⟩⟩ := h'
  have p4 : ∀ {S : CS}, mP (cM M C S) D 4 = some (D + 1) := fun {S} => a2
  have p13 : ∀ {S : CS}, mP (cM M C S) D 13 = some (D + 2) := fun {S} => a3
  have p14 : ∀ {S : CS}, mP (cM M C S) D 14 = some (D + 3) := fun {S} => a4
  have p15 : ∀ {S : CS}, mP (cM M C S) D 15 = some (D + 4) := fun {S} => a5
  have p16 : ∀ {S : CS}, mP (cM M C S) D 16 = some (D + 5) := fun {S} => a6
  have p17 : ∀ {S : CS}, mP (cM M C S) D 17 = some (D + 6) := fun {S} => a7
  have p18 : ∀ {S : CS}, mP (cM M C S) D 18 = some (D + 13) := fun {S} => a8
  have p19 : ∀ {S : CS}, mP (cM M C S) D 19 = some (D + 14) := fun {S} => a9
  have r0 : ∀ {S : CS}, mP (cM M C S) (D + 6) 0 = some (D + 7) := fun {S} => q1
  have r1 : ∀ {S : CS}, mP (cM M C S) (D + 6) 1 = some (D + 8) := fun {S} => q2
  have r2 : ∀ {S : CS}, mP (cM M C S) (D + 6) 2 = some (D + 9) := fun {S} => q3
  have r3 : ∀ {S : CS}, mP (cM M C S) (D + 6) 3 = some (D + 10) := fun {S} => q4
  have r4 : ∀ {S : CS}, mP (cM M C S) (D + 6) 4 = some (D + 11) := fun {S} => q5
  have r5 : ∀ {S : CS}, mP (cM M C S) (D + 6) 5 = some (D + 12) := fun {S} => q6
  have e1 : ∀ {d : Nat} {S : CS}, f_X10_copy (d + 1) (cM M C S) (D + 1) (C + 1) = _ := fun {d S} => k_cpI (S := S) (t := 1) (d := d) (by omega) c1 b1 (by omega) (by omega)
  have e2 : ∀ {d : Nat} {S : CS}, f_X10_copy (d + 1) (cM M C S) (D + 2) (C + 2) = _ := fun {d S} => k_cpI (S := S) (t := 2) (d := d) (by omega) c2 b2 (by omega) (by omega)
  have e3 : ∀ {d : Nat} {S : CS}, f_X10_copy_ (d + 1) (cM M C S) (D + 3) (C + 3) = _ := fun {d S} => k_cpL (S := S) (t := 3) (d := d) (by omega) c3 b3 (by omega) (by omega)
  have e4 : ∀ {d : Nat} {S : CS}, f_X10_copy_ (d + 1) (cM M C S) (D + 4) (C + 4) = _ := fun {d S} => k_cpL (S := S) (t := 4) (d := d) (by omega) c4 b4 (by omega) (by omega)
  have e5 : ∀ {d : Nat} {S : CS}, f_X10_copy_ (d + 1) (cM M C S) (D + 5) (C + 5) = _ := fun {d S} => k_cpL (S := S) (t := 5) (d := d) (by omega) c5 b5 (by omega) (by omega)
  have e7 : ∀ {d : Nat} {S : CS}, f_X10_copy (d + 1) (cM M C S) (D + 7) (C + 7) = _ := fun {d S} => k_cpI (S := S) (t := 7) (d := d) (by omega) c6 b6 (by omega) (by omega)
  have e8 : ∀ {d : Nat} {S : CS}, f_X10_copy (d + 1) (cM M C S) (D + 8) (C + 8) = _ := fun {d S} => k_cpI (S := S) (t := 8) (d := d) (by omega) c7 b7 (by omega) (by omega)
  have e9 : ∀ {d : Nat} {S : CS}, f_X10_copy (d + 1) (cM M C S) (D + 9) (C + 9) = _ := fun {d S} => k_cpI (S := S) (t := 9) (d := d) (by omega) c8 b8 (by omega) (by omega)
  have e10 : ∀ {d : Nat} {S : CS}, f_X10_copy (d + 1) (cM M C S) (D + 10) (C + 10) = _ := fun {d S} => k_cpI (S := S) (t := 10) (d := d) (by omega) c9 b9 (by omega) (by omega)
  have e11 : ∀ {d : Nat} {S : CS}, f_X10_copy_ (d + 1) (cM M C S) (D + 11) (C + 11) = _ := fun {d S} => k_cpL (S := S) (t := 11) (d := d) (by omega) c10 b10 (by omega) (by omega)
  have e12 : ∀ {d : Nat} {S : CS}, f_X10_copy_ (d + 1) (cM M C S) (D + 12) (C + 12) = _ := fun {d S} => k_cpL (S := S) (t := 12) (d := d) (by omega) c11 b11 (by omega) (by omega)
  have et : ∀ {S : CS}, f_X8_copyTally (d + 2) (cM M C S) (C + 6) (D + 6) = some (.inl none, cM M C (kCpT S (fun t j => mI M (D + t) j, fun t j => mL M (D + t) j))) := fun {S} => by
    rw [e_X8_copyTally, ck6, r0, x_rf, k_ck6 h, k_q0 h, x_rf, e7, lt_bv_r, ck6, r1, x_rf, k_ck6 h, k_q1 h, x_rf, e8, lt_bv_r, ck6, r2, x_rf, k_ck6 h, k_q2 h, x_rf, e9, lt_bv_r, ck6, r3, x_rf, k_ck6 h, k_q3 h, x_rf, e10, lt_bv_r, ck6, r4, x_rf, k_ck6 h, k_q4 h, x_rf, e11, lt_bv_r, ck6, r5, x_rf, k_ck6 h, k_q5 h, x_rf, e12, lt_bv_r, ck6, k_ck6 h, x_m, mo (by omega), cwIt (by omega), ck6, k_ck6 h, x_m, mo (by omega), cwIt (by omega)]
    rfl
  have es13 : ∀ {S : CS}, f_X5_copyShadow (d + 2) (cM M C S) (C + 13) (D + 13) = some (.inl none, cM M C (cwi (cwi S 13 0 (mI M (D + 13) 0)) 13 1 (mI M (D + 13) 1))) := fun {S} => by
    rw [e_X5_copyShadow, ck13, k_ck13 h, x_m, mo (by omega), cwIt (by omega), ck13, k_ck13 h, x_m, mo (by omega), cwIt (by omega)]
  have es14 : ∀ {S : CS}, f_X5_copyShadow (d + 2) (cM M C S) (C + 14) (D + 14) = some (.inl none, cM M C (cwi (cwi S 14 0 (mI M (D + 14) 0)) 14 1 (mI M (D + 14) 1))) := fun {S} => by
    rw [e_X5_copyShadow, ck14, k_ck14 h, x_m, mo (by omega), cwIt (by omega), ck14, k_ck14 h, x_m, mo (by omega), cwIt (by omega)]
  rw [e_X1_copyCache, ck, k_ck h, x_m, mo0, cwI0, ck, k_ck h, x_m, mo0, cwI0, ck, k_ck h, x_m, mo0, cwI0, ck, k_ck h, x_m, mo0, cwI0, ck, p4, x_rf, k_ck h, k_p4 h, x_rf, e1, lt_bv_r,
    ck, k_ck h, x_m, mo0, cwI0, ck, k_ck h, x_m, mo0, cwI0, ck, k_ck h, x_m, mo0, cwI0, ck, k_ck h, x_m, mo0, cwI0, ck, k_ck h, x_m, mo0, cwI0, ck, k_ck h, x_m, mo0, cwI0, ck, k_ck h, x_m, lo0, cwL0, ck, k_ck h, x_m, mo0, cwI0,
    ck, p13, x_rf, k_ck h, k_p13 h, x_rf, e2, lt_bv_r, ck, p14, x_rf, k_ck h, k_p14 h, x_rf, e3, lt_bv_r, ck, p15, x_rf, k_ck h, k_p15 h, x_rf, e4, lt_bv_r]
  simp (maxSteps := 1000000) (disch := first | assumption | omega) only [Bool.false_eq_true, Int.reduceEq, x_rf, x_m, lt_bv_r, lt_bi_r, lt_bl_r, ↓k_ck, k_ck6, k_ck13, k_ck14, cI0, cIt, cL0, cLt, cwI0, cwIt, cwL0, cwLt, cwi_1, cwi_2, cwl_1, cwl_2, z2_eq, z2_n1, z2_n2, lt_iN, lt_b1_0, lt_b1_1, x_if1, x_eq1, x_10, x_01, x_11, x_00, ↓reduceIte, s10_bit, s10_has, c_pop, j_max, j_min, k_p4, k_p13, k_p14, k_p15, k_p16, k_p17, k_p18, k_p19, k_q0, k_q1, k_q2, k_q3, k_q4, k_q5, k_at1, k_put1, k_add1, k_ar1, k_al1, k_z1, k_at2, k_put2, k_add2, k_ar2, k_al2, k_z2, k_at7, k_put7, k_add7, k_ar7, k_al7, k_z7, k_at8, k_put8, k_add8, k_ar8, k_al8, k_z8, k_at9, k_put9, k_add9, k_ar9, k_al9, k_z9, k_at10, k_put10, k_add10, k_ar10, k_al10, k_z10, k_at1_0, k_at1_1, k_at1_2, k_at1_3, k_put1_0, k_put1_1, k_put1_2, k_put1_3, k_add7_0, k_add7_1, k_add7_2, k_add7_3, k_add7_4, k_add7_5, k_add7_6, k_add7_7, k_add7_8, k_atL3, k_putL3, k_least3, k_atL4, k_putL4, k_least4, k_atL5, k_putL5, k_least5, k_atL11, k_putL11, k_least11, k_atL12, k_putL12, k_least12, k_ckK, k_pK0, k_pK1, k_pK2, k_atK1, k_atK2, k_atK3, k_units, k_owner, k_ckR, k_pR0, k_pR1, k_pR2, k_atR1, k_atR2, k_atR3, ck, p16, e5, p17, ck6, et, p18, ck13, es13, p19, ck14, es14]
  rfl
end Cq
