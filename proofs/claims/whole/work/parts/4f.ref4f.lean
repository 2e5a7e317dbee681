/-! THE REFERENCE: the order, the cursor, what is asked of keys, row, caches -/
def insA (lt : Nat → Nat → Bool) (k : Nat) : Nat → (Nat → Int32) → (Nat → Int32)
  | 0, A => upd A 0 (nI k)
  | t + 1, A => if lt k (lt_n (A t)) = true then insA lt k t (upd A (t + 1) (A t)) else upd A (t + 1) (nI k)
def qLay (U : Nat → Int32) (lt : Nat → Nat → Bool) : Nat → Nat → (Nat → Int32) → Nat × (Nat → Int32)
  | 0, m, A => (m, A)
  | n + 1, m, A => if U (24 + (25 - n)) = 1 then qLay U lt n (m + 1) (insA lt (25 - n) m A) else qLay U lt n m A
def XO (X X' : Nat → Nat → Int32) : Prop := (∀ t, t ≠ 0 → (t < 9 ∨ 14 < t) → X' t = X t) ∧ ∀ j, j ≠ 8 → j ≠ 12 → X' 0 j = X 0 j
section Rw
variable {M M' : LM} {o i j k u w y f t c q n x m : Nat} {H : Nat → Int32} {V V' X : Nat → Nat → Int32} {S U W A : Nat → Int32} {p : Nat → Nat} {g : Nat → Option Nat} {v a b e r : Int32} {z : Option (LO × LM)} {kf fs : Nat → Nat} {lt : Nat → Nat → Bool}
theorem XO.of {X' : Nat → Nat → Int32} (h : XS X X') : XO X X' := ⟨fun t a b => h.1 t a (by omega), fun j a _ => h.2 j a⟩
theorem XO.trans {X' X'' : Nat → Nat → Int32} (h1 : XO X X') (h2 : XO X' X'') : XO X X'' := ⟨fun t a b => (h2.1 t a b).trans (h1.1 t a b), fun j a b => (h2.2 j a b).trans (h1.2 j a b)⟩
theorem XO.w14 : XO X (u2 X 14 j v) := ⟨fun t' a b => funext fun i => if_neg (by omega), fun i a b => if_neg (by omega)⟩
theorem XO.w12 : XO X (u2 X 0 12 v) := ⟨fun t' a b => funext fun i => if_neg (by omega), fun i a b => if_neg (by omega)⟩
theorem XO.refl : XO X X := ⟨fun _ _ _ => rfl, fun _ _ _ => rfl⟩
theorem insA_keys (hk : k < 26) : ∀ (t : Nat) (A : Nat → Int32), (∀ j, j < t → ∃ i, i < 26 ∧ A j = nI i) → ∀ j, j < t + 1 → ∃ i, i < 26 ∧ insA lt k t A j = nI i
  | 0, A, _, j, hj => ⟨k, hk, by
    have : j = 0 := by omega
    subst this
    exact upd_s⟩
  | t + 1, A, hA, j, hj => by
    unfold insA
    split
    · by_cases q : j = t + 1
      · subst q
        have key : ∀ (t : Nat) (A : Nat → Int32) (j : Nat), t < j → insA lt k t A j = A j := by
          intro t
          induction t with
          | zero => intro A j hj; exact upd_o (by omega)
          | succ t ih =>
            intro A j hj
            unfold insA
            split
            · rw [ih _ _ (by omega), upd_o (by omega)]
            · exact upd_o (by omega)
        obtain ⟨i, hi, e⟩ := hA t (by omega)
        exact ⟨i, hi, by rw [key _ _ _ (by omega), upd_s, e]⟩
      · exact insA_keys hk t _ (fun j hj => by rw [upd_o (by omega)]; exact hA j (by omega)) j (by omega)
    · by_cases q : j = t + 1
      · subst q
        exact ⟨k, hk, upd_s⟩
      · rw [upd_o q]
        exact hA j (by omega)
theorem r_lays_48 (d : Nat) (h : RA M o) (hu : u < 18) (hk : k < 26) (hm : m < 26) {A0 B0 : Nat → Int32} : ∀ (t : Nat) (X : Nat → Nat → Int32), t ≤ m → (∀ j, j < t → ∃ i, i < 26 ∧ X 14 j = nI i) → X 12 = A0 → X 13 = B0 → X 0 12 = nI m →
    ∃ X', XO X X' ∧ X' 12 = A0 ∧ X' 13 = B0 ∧ X' 14 = insA (qAhead U A0 B0 (if r = 6 then 0 else r)) k t (X 14) ∧ X' 0 12 = nI (m + 1) ∧
      f_X11_laysOrder_48 (d + 4) (rM M o H (u1 V u U) X) o (nI u) r (nI k) (nI t) = f_X11_laysOrder_24 (d + 4) (rM M o H (u1 V u U) X') o (nI u) r (nI k + 1)
  | 0, X, ht, hX, hA, hB, h12 => by
    have hs : nI m + 1 = nI (m + 1) := lt_iA (j := m) (k := 1)
    have hl : ¬ (0 : Int32) < nI 0 := by decide
    have l0 : lt_n (nI 0) = 0 := by decide
    refine ⟨u2 (u2 X 14 0 (nI k)) 0 12 (nI (m + 1)), XO.w14.trans XO.w12, by simp (disch := omega) only [u2_eq, u2_n1, u2_n2]; exact hA, by simp (disch := omega) only [u2_eq, u2_n1, u2_n2]; exact hB, ?_, u2_eq, ?_⟩
    · simp (disch := omega) only [u2_eq, u2_n1, u2_n2]
      unfold insA
      funext j
      unfold u2 upd
      by_cases q : j = 0
      · rw [if_pos ⟨rfl, q⟩, if_pos q]
      · rw [if_neg (fun e => q e.2), if_neg q]
    · rw [e_X11_laysOrder_48, if_neg hl]
      simp (maxSteps := 1000000) (disch := first | assumption | omega) only [x_rf, x_m, lt_bv_r, lt_bi_r, lt_bl_r, ↓r_ck, r_get, r_put, r_more, rM_h, rM_f, rM_x, rM_wf, rM_wx, rM_wh, lt_iN, lt_b1_0, lt_b1_1, x_if1, x_eq1, x_10, x_01, x_11, x_00, ↓reduceIte, r_nz, r_ar1L0, r_ar1L1, lt_n0_, lt_n1_, upd_s, upd_o, u2_eq, u2_n1, u2_n2, r_p1, r_p5, r_p6, r_p7, r_p9, r_p10, r_p11, r_p13, r_p19, r_p23, r_p26, r_p27, r_p32, r_p33, r_p34, r_ar1, r_ar9, r_ar10, r_ar11, r_ar12, r_ar13, r_ar14, r_ar15, r_ar16, r_ar17, r_ar18, r_ar19, r_ar74, r_ar75, r_ar76, n2_, n4_, n12_, n24_, n28_, n50_, n54_, n76_, n80_, n102_, n128_, n154_, n180_, n206_, n232_, n258_, n284_, n310_, n336_, n362_, n380_, n680_, r_get0, r_get1, r_get2, r_get3, r_get4, r_get8, r_get9, r_get10, r_get11, r_get12, r_get13, r_put0, r_put1, r_put2, r_put3, r_put4, r_put5, r_put6, r_put7, r_put8, r_put9, r_put10, r_put11, r_more10, r_more12, r_more13, r_more14, r_more15, r_more16, r_more17, r_more18, r_more19, r_more20, h12, hs, l0]
  | t + 1, X, ht, hX, hA, hB, h12 => by
    obtain ⟨i, hi, ei⟩ := hX t (by omega)
    have hl : (0 : Int32) < nI (t + 1) := (lt_iL (j := 0) (k := t + 1) (by omega) (by omega)).mpr (by omega)
    have hs : nI m + 1 = nI (m + 1) := lt_iA (j := m) (k := 1)
    have g4 : nI (t + 1) - 1 = nI t := by
      rw [show nI (t + 1) = nI t + 1 from (lt_iA (j := t) (k := 1)).symm]
      exact Int32.add_sub_cancel ..
    have g5 : nI (t + 1) + -1 = nI t := by rw [← Int32.sub_eq_add_neg, g4]
    have hii : lt_n (nI i) = i := lt_iN (by omega)
    have e66 : ∀ rr, rr = (if r = 6 then (0 : Int32) else r) → f_X11_laysOrder_66 (d + 4) (rM M o H (u1 V u U) X) o (nI u) r (nI k) (nI (t + 1)) rr (nI u) o = if qAhead U A0 B0 rr k i = true then f_X11_laysOrder_48 (d + 4) (rM M o H (u1 V u U) (u2 X 14 (t + 1) (nI i))) o (nI u) r (nI k) (nI t) else f_X11_laysOrder_24 (d + 4) (rM M o H (u1 V u U) (u2 (u2 X 14 (t + 1) (nI k)) 0 12 (nI (m + 1)))) o (nI u) r (nI k + 1) := by
      intro rr _
      have ea := r_isAhead (M := M) (o := o) (H := H) (V := V) (U := U) (X := X) (u := u) (r := rr) (i := k) (j := i) d h hu hk hi
      rw [hA, hB] at ea
      rw [e_X11_laysOrder_66]
      simp (maxSteps := 1000000) (disch := first | assumption | omega) only [x_rf, x_m, lt_bv_r, lt_bi_r, lt_bl_r, ↓r_ck, r_get, r_put, r_more, rM_h, rM_f, rM_x, rM_wf, rM_wx, rM_wh, lt_iN, lt_b1_0, lt_b1_1, x_if1, x_eq1, x_10, x_01, x_11, x_00, ↓reduceIte, r_nz, r_ar1L0, r_ar1L1, lt_n0_, lt_n1_, upd_s, upd_o, u2_eq, u2_n1, u2_n2, r_p1, r_p5, r_p6, r_p7, r_p9, r_p10, r_p11, r_p13, r_p19, r_p23, r_p26, r_p27, r_p32, r_p33, r_p34, r_ar1, r_ar9, r_ar10, r_ar11, r_ar12, r_ar13, r_ar14, r_ar15, r_ar16, r_ar17, r_ar18, r_ar19, r_ar74, r_ar75, r_ar76, n2_, n4_, n12_, n24_, n28_, n50_, n54_, n76_, n80_, n102_, n128_, n154_, n180_, n206_, n232_, n258_, n284_, n310_, n336_, n362_, n380_, n680_, r_get0, r_get1, r_get2, r_get3, r_get4, r_get8, r_get9, r_get10, r_get11, r_get12, r_get13, r_put0, r_put1, r_put2, r_put3, r_put4, r_put5, r_put6, r_put7, r_put8, r_put9, r_put10, r_put11, r_more10, r_more12, r_more13, r_more14, r_more15, r_more16, r_more17, r_more18, r_more19, r_more20, g4, g5, ei, ea, bI0, h12, hs]
    have e48 : f_X11_laysOrder_48 (d + 4) (rM M o H (u1 V u U) X) o (nI u) r (nI k) (nI (t + 1)) = if qAhead U A0 B0 (if r = 6 then 0 else r) k i = true then f_X11_laysOrder_48 (d + 4) (rM M o H (u1 V u U) (u2 X 14 (t + 1) (nI i))) o (nI u) r (nI k) (nI t) else f_X11_laysOrder_24 (d + 4) (rM M o H (u1 V u U) (u2 (u2 X 14 (t + 1) (nI k)) 0 12 (nI (m + 1)))) o (nI u) r (nI k + 1) := by
      rw [e_X11_laysOrder_48, if_pos hl]
      by_cases h6 : r = 6
      · rw [if_pos h6, if_pos h6]
        exact e66 0 (by rw [if_pos h6])
      · rw [if_neg h6, if_neg h6]
        exact e66 r (by rw [if_neg h6])
    have hup : ∀ v, (u2 X 14 (t + 1) v) 14 = upd (X 14) (t + 1) v := fun v => funext fun j => by
      unfold u2 upd
      by_cases q : j = t + 1
      · rw [if_pos ⟨rfl, q⟩, if_pos q]
      · rw [if_neg (fun e => q e.2), if_neg q]
    rw [e48]
    unfold insA
    rw [ei, hii]
    by_cases hq : qAhead U A0 B0 (if r = 6 then 0 else r) k i = true
    · obtain ⟨X', a1, a2, a3, a4, a5, a6⟩ := r_lays_48 d h hu hk hm (A0 := A0) (B0 := B0) t (u2 X 14 (t + 1) (nI i)) (by omega) (fun j hj => by rw [u2_n2 (by omega)]; exact hX j (by omega)) (by simp (disch := omega) only [u2_eq, u2_n1, u2_n2]; exact hA) (by simp (disch := omega) only [u2_eq, u2_n1, u2_n2]; exact hB) (by simp (disch := omega) only [u2_eq, u2_n1, u2_n2]; exact h12)
      rw [hup] at a4
      refine ⟨X', XO.w14.trans a1, a2, a3, ?_, a5, ?_⟩
      · rw [if_pos hq]
        exact a4
      · rw [if_pos hq]
        exact a6
    · refine ⟨u2 (u2 X 14 (t + 1) (nI k)) 0 12 (nI (m + 1)), XO.w14.trans XO.w12, by simp (disch := omega) only [u2_eq, u2_n1, u2_n2]; exact hA, by simp (disch := omega) only [u2_eq, u2_n1, u2_n2]; exact hB, ?_, u2_eq, ?_⟩
      · rw [if_neg hq, u2_n1 (by omega), hup]
      · rw [if_neg hq]
theorem r_lays_24 (d : Nat) (h : RA M o) (hu : u < 18) {A0 B0 : Nat → Int32} : ∀ (n m : Nat) (X : Nat → Nat → Int32), n ≤ 26 → m + n ≤ 26 → (∀ j, j < m → ∃ i, i < 26 ∧ X 14 j = nI i) → X 12 = A0 → X 13 = B0 → X 0 12 = nI m →
    ∃ X', XO X X' ∧ X' 14 = (qLay U (qAhead U A0 B0 (if r = 6 then 0 else r)) n m (X 14)).2 ∧ X' 0 12 = nI (qLay U (qAhead U A0 B0 (if r = 6 then 0 else r)) n m (X 14)).1 ∧ (qLay U (qAhead U A0 B0 (if r = 6 then 0 else r)) n m (X 14)).1 ≤ m + n ∧
      (∀ j, j < (qLay U (qAhead U A0 B0 (if r = 6 then 0 else r)) n m (X 14)).1 → ∃ i, i < 26 ∧ X' 14 j = nI i) ∧ f_X11_laysOrder_24 (d + 4) (rM M o H (u1 V u U) X) o (nI u) r (nI (26 - n)) = some (.inl none, rM M o H (u1 V u U) X')
  | 0, m, X, _, hmn, hX, hA, hB, h12 => by
    refine ⟨X, XO.refl, rfl, h12, Nat.le_refl _, hX, ?_⟩
    rw [e_X11_laysOrder_24, if_neg lt_end]
  | n + 1, m, X, hn, hmn, hX, hA, hB, h12 => by
    obtain ⟨g1, g2, -⟩ := lt_suc hn
    have hk : 25 - n < 26 := by omega
    rw [g1, e_X11_laysOrder_24, if_pos (lt_suc2 hn)]
    unfold qLay
    by_cases a : U (24 + (25 - n)) = 1
    · obtain ⟨X1, a1, a2, a3, a4, a5, a6⟩ := r_lays_48 (M := M) (o := o) (H := H) (V := V) (U := U) (r := r) d h hu hk (show m < 26 by omega) (A0 := A0) (B0 := B0) m X (Nat.le_refl _) hX hA hB h12
      have hk1 : ∀ j, j < m + 1 → ∃ i, i < 26 ∧ X1 14 j = nI i := fun j hj => by rw [a4]; exact insA_keys hk m _ hX j hj
      obtain ⟨X2, b1, b2, b3, b4, b5, b6⟩ := r_lays_24 d h hu (A0 := A0) (B0 := B0) n (m + 1) X1 (by omega) (by omega) hk1 a2 a3 a5
      rw [if_pos a]
      rw [a4] at b2 b3 b4 b5
      refine ⟨X2, a1.trans b1, b2, b3, by omega, b5, ?_⟩
      simp (maxSteps := 1000000) (disch := first | assumption | omega) only [x_rf, x_m, lt_bv_r, lt_bi_r, lt_bl_r, ↓r_ck, r_get, r_put, r_more, rM_h, rM_f, rM_x, rM_wf, rM_wx, rM_wh, lt_iN, lt_b1_0, lt_b1_1, x_if1, x_eq1, x_10, x_01, x_11, x_00, ↓reduceIte, r_nz, r_ar1L0, r_ar1L1, lt_n0_, lt_n1_, upd_s, upd_o, u2_eq, u2_n1, u2_n2, r_p1, r_p5, r_p6, r_p7, r_p9, r_p10, r_p11, r_p13, r_p19, r_p23, r_p26, r_p27, r_p32, r_p33, r_p34, r_ar1, r_ar9, r_ar10, r_ar11, r_ar12, r_ar13, r_ar14, r_ar15, r_ar16, r_ar17, r_ar18, r_ar19, r_ar74, r_ar75, r_ar76, n2_, n4_, n12_, n24_, n28_, n50_, n54_, n76_, n80_, n102_, n128_, n154_, n180_, n206_, n232_, n258_, n284_, n310_, n336_, n362_, n380_, n680_, r_get0, r_get1, r_get2, r_get3, r_get4, r_get8, r_get9, r_get10, r_get11, r_get12, r_get13, r_put0, r_put1, r_put2, r_put3, r_put4, r_put5, r_put6, r_put7, r_put8, r_put9, r_put10, r_put11, r_more10, r_more12, r_more13, r_more14, r_more15, r_more16, r_more17, r_more18, r_more19, r_more20, r_holds2, a, h12, a6, g2]
      exact b6
    · obtain ⟨X2, b1, b2, b3, b4, b5, b6⟩ := r_lays_24 d h hu (A0 := A0) (B0 := B0) n m X (by omega) (by omega) hX hA hB h12
      rw [if_neg a]
      refine ⟨X2, b1, b2, b3, by omega, b5, ?_⟩
      simp (maxSteps := 1000000) (disch := first | assumption | omega) only [x_rf, x_m, lt_bv_r, lt_bi_r, lt_bl_r, ↓r_ck, r_get, r_put, r_more, rM_h, rM_f, rM_x, rM_wf, rM_wx, rM_wh, lt_iN, lt_b1_0, lt_b1_1, x_if1, x_eq1, x_10, x_01, x_11, x_00, ↓reduceIte, r_nz, r_ar1L0, r_ar1L1, lt_n0_, lt_n1_, upd_s, upd_o, u2_eq, u2_n1, u2_n2, r_p1, r_p5, r_p6, r_p7, r_p9, r_p10, r_p11, r_p13, r_p19, r_p23, r_p26, r_p27, r_p32, r_p33, r_p34, r_ar1, r_ar9, r_ar10, r_ar11, r_ar12, r_ar13, r_ar14, r_ar15, r_ar16, r_ar17, r_ar18, r_ar19, r_ar74, r_ar75, r_ar76, n2_, n4_, n12_, n24_, n28_, n50_, n54_, n76_, n80_, n102_, n128_, n154_, n180_, n206_, n232_, n258_, n284_, n310_, n336_, n362_, n380_, n680_, r_get0, r_get1, r_get2, r_get3, r_get4, r_get8, r_get9, r_get10, r_get11, r_get12, r_get13, r_put0, r_put1, r_put2, r_put3, r_put4, r_put5, r_put6, r_put7, r_put8, r_put9, r_put10, r_put11, r_more10, r_more12, r_more13, r_more14, r_more15, r_more16, r_more17, r_more18, r_more19, r_more20, r_holds2, a, g2]
      exact b6
theorem qLay_cong {lt' : Nat → Nat → Bool} (hl : ∀ i j, i < 26 → j < 26 → lt i j = lt' i j) : ∀ (n m : Nat) (A : Nat → Int32), n ≤ 26 → (∀ j, j < m → ∃ i, i < 26 ∧ A j = nI i) → qLay U lt n m A = qLay U lt' n m A
  | 0, m, A, _, _ => rfl
  | n + 1, m, A, hn, hA => by
    have key : ∀ (t : Nat) (A : Nat → Int32), (∀ j, j < t → ∃ i, i < 26 ∧ A j = nI i) → insA lt (25 - n) t A = insA lt' (25 - n) t A := by
      intro t
      induction t with
      | zero => intro A _; rfl
      | succ t ih =>
        intro A hA
        obtain ⟨i, hi, e⟩ := hA t (by omega)
        unfold insA
        rw [e, lt_iN (by omega), hl _ _ (by omega) hi, ih _ (fun j hj => by rw [upd_o (by omega)]; exact hA j (by omega))]
    unfold qLay
    split
    · rw [key m A hA]
      refine qLay_cong hl n (m + 1) _ (by omega) (fun j hj => ?_)
      rw [← key m A hA]
      exact insA_keys (by omega) m A hA j hj
    · exact qLay_cong hl n m A (by omega) hA
/-- the order of a cache: how many, and the row -/
def qOrd (U : Nat → Int32) (kf : Nat → Nat) (f t : Nat) (A : Nat → Int32) : Nat × (Nat → Int32) := qLay U (qAhead U (qA kf f t) (qB kf f t) (if U 0 = 6 then 0 else U 0)) 26 0 A
theorem r_laysOrder (d : Nat) (h : RA M o) (hu : u < 18) (hK : RK H kf t) (ht : t ≤ 300) (hf : f ≤ t) (h4 : X 0 4 = nI t) (h9 : U 9 = nI f) (hr : ∃ r, r < 7 ∧ U 0 = nI r) :
    ∃ X', XO X X' ∧ X' 14 = (qOrd U kf f t (X 14)).2 ∧ X' 0 12 = nI (qOrd U kf f t (X 14)).1 ∧ (qOrd U kf f t (X 14)).1 ≤ 26 ∧ (∀ j, j < (qOrd U kf f t (X 14)).1 → ∃ i, i < 26 ∧ X' 14 j = nI i) ∧
      f_X11_laysOrder (d + 5) (rM M o H (u1 V u U) X) o (nI u) = some (.inl none, rM M o H (u1 V u U) X') := by
  rw [e_X11_laysOrder]
  have hc : ∀ (A B : Nat → Int32), (U 0 = 1 → (∀ k, k < 26 → A k = qA kf f t k) ∧ ∀ k, k < 26 → B k = qB kf f t k) → ∀ A14, qLay U (qAhead U A B (if U 0 = 6 then 0 else U 0)) 26 0 A14 = qOrd U kf f t A14 := by
    intro A B hAB A14
    unfold qOrd
    by_cases h1 : U 0 = 1
    · refine qLay_cong (fun i j hi hj => qAhead_cong (hAB h1).1 (hAB h1).2 hi hj) 26 0 _ (Nat.le_refl _) (fun j hj => by omega)
    · obtain ⟨r, hr7, er⟩ := hr
      rw [qAhead_AB (A' := qA kf f t) (B' := qB kf f t)]
      rw [er] at h1 ⊢
      have hr' : r = 0 ∨ r = 1 ∨ r = 2 ∨ r = 3 ∨ r = 4 ∨ r = 5 ∨ r = 6 := by omega
      rcases hr' with e | e | e | e | e | e | e <;> subst e
      · exact Or.inl rfl
      · exact absurd rfl h1
      · exact Or.inr (Or.inl rfl)
      · exact Or.inr (Or.inr (Or.inl rfl))
      · exact Or.inr (Or.inr (Or.inr (Or.inl rfl)))
      · exact Or.inr (Or.inr (Or.inr (Or.inr rfl)))
      · exact Or.inl rfl
  by_cases h1 : U 0 = 1
  · obtain ⟨X1, c1, c0, c2, c3⟩ := r_tallies (M := M) (o := o) (H := H) (V := V) (U := U) (X := X) (d + 2) h hu hK ht hf h9 h4
    obtain ⟨X2, a1, a2, a3, a4, a5, a6⟩ := r_lays_24 (M := M) (o := o) (H := H) (V := V) (U := U) (u := u) (r := U 0) (d + 1) h hu (A0 := X1 12) (B0 := X1 13) 26 0 (u2 X1 0 12 0) (Nat.le_refl _) (by omega) (fun j hj => by omega) (by simp (disch := omega) only [u2_eq, u2_n1, u2_n2]) (by simp (disch := omega) only [u2_eq, u2_n1, u2_n2]) u2_eq
    have e14 : (u2 X1 0 12 0) 14 = X 14 := by rw [u2_n1 (by omega), c0 14 (by omega) (by omega)]
    rw [e14, hc (X1 12) (X1 13) (fun _ => ⟨fun k hk => (c2 k hk).1, fun k hk => (c2 k hk).2⟩)] at a2 a3 a4 a5
    refine ⟨X2, ((XO.of c1).trans XO.w12).trans a1, a2, a3, by omega, a5, ?_⟩
    have a6' : f_X11_laysOrder_24 (d + 5) (rM M o H (u1 V u U) (u2 X1 0 12 0)) o (nI u) (U 0) 0 = _ := a6
    rw [h1] at a6'
    simp (maxSteps := 1000000) (disch := first | assumption | omega) only [x_rf, x_m, lt_bv_r, lt_bi_r, lt_bl_r, ↓r_ck, r_get, r_put, r_more, rM_h, rM_f, rM_x, rM_wf, rM_wx, rM_wh, lt_iN, lt_b1_0, lt_b1_1, x_if1, x_eq1, x_10, x_01, x_11, x_00, ↓reduceIte, r_nz, r_ar1L0, r_ar1L1, lt_n0_, lt_n1_, upd_s, upd_o, u2_eq, u2_n1, u2_n2, r_p1, r_p5, r_p6, r_p7, r_p9, r_p10, r_p11, r_p13, r_p19, r_p23, r_p26, r_p27, r_p32, r_p33, r_p34, r_ar1, r_ar9, r_ar10, r_ar11, r_ar12, r_ar13, r_ar14, r_ar15, r_ar16, r_ar17, r_ar18, r_ar19, r_ar74, r_ar75, r_ar76, n2_, n4_, n12_, n24_, n28_, n50_, n54_, n76_, n80_, n102_, n128_, n154_, n180_, n206_, n232_, n258_, n284_, n310_, n336_, n362_, n380_, n680_, r_get0, r_get1, r_get2, r_get3, r_get4, r_get8, r_get9, r_get10, r_get11, r_get12, r_get13, r_put0, r_put1, r_put2, r_put3, r_put4, r_put5, r_put6, r_put7, r_put8, r_put9, r_put10, r_put11, r_more10, r_more12, r_more13, r_more14, r_more15, r_more16, r_more17, r_more18, r_more19, r_more20, h1, c3]
    exact a6'
  · obtain ⟨X2, a1, a2, a3, a4, a5, a6⟩ := r_lays_24 (M := M) (o := o) (H := H) (V := V) (U := U) (u := u) (r := U 0) (d + 1) h hu (A0 := X 12) (B0 := X 13) 26 0 (u2 X 0 12 0) (Nat.le_refl _) (by omega) (fun j hj => by omega) (by simp (disch := omega) only [u2_eq, u2_n1, u2_n2]) (by simp (disch := omega) only [u2_eq, u2_n1, u2_n2]) u2_eq
    have e14 : (u2 X 0 12 0) 14 = X 14 := u2_n1 (by omega)
    rw [e14, hc (X 12) (X 13) (fun q => absurd q h1)] at a2 a3 a4 a5
    refine ⟨X2, XO.w12.trans a1, a2, a3, by omega, a5, ?_⟩
    simp (maxSteps := 1000000) (disch := first | assumption | omega) only [x_rf, x_m, lt_bv_r, lt_bi_r, lt_bl_r, ↓r_ck, r_get, r_put, r_more, rM_h, rM_f, rM_x, rM_wf, rM_wx, rM_wh, lt_iN, lt_b1_0, lt_b1_1, x_if1, x_eq1, x_10, x_01, x_11, x_00, ↓reduceIte, r_nz, r_ar1L0, r_ar1L1, lt_n0_, lt_n1_, upd_s, upd_o, u2_eq, u2_n1, u2_n2, r_p1, r_p5, r_p6, r_p7, r_p9, r_p10, r_p11, r_p13, r_p19, r_p23, r_p26, r_p27, r_p32, r_p33, r_p34, r_ar1, r_ar9, r_ar10, r_ar11, r_ar12, r_ar13, r_ar14, r_ar15, r_ar16, r_ar17, r_ar18, r_ar19, r_ar74, r_ar75, r_ar76, n2_, n4_, n12_, n24_, n28_, n50_, n54_, n76_, n80_, n102_, n128_, n154_, n180_, n206_, n232_, n258_, n284_, n310_, n336_, n362_, n380_, n680_, r_get0, r_get1, r_get2, r_get3, r_get4, r_get8, r_get9, r_get10, r_get11, r_get12, r_get13, r_put0, r_put1, r_put2, r_put3, r_put4, r_put5, r_put6, r_put7, r_put8, r_put9, r_put10, r_put11, r_more10, r_more12, r_more13, r_more14, r_more15, r_more16, r_more17, r_more18, r_more19, r_more20, h1]
    exact a6
end Rw
