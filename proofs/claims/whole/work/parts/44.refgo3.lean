/-! THE REFERENCE, methods of one unit: who is ahead, the first -/
/-- one key ahead of another by a rule; A, B: requests and the latest of them, by keys -/
def qAhead0 (U A B : Nat → Int32) (r : Int32) (i j : Nat) : Bool :=
  if r = 0 then decide (U (76 + i) < U (76 + j)) else if r = 2 then decide (U (50 + i) < U (50 + j)) else if r = 3 then decide (U (102 + i) < U (102 + j)) else
  if r = 5 then (decide (U (284 + i) < U (284 + j)) || (decide (U (284 + i) = U (284 + j)) && decide (i < j))) else
  (decide (A i < A j) || (decide (A i = A j) && decide (B i < B j)))
def qAhead (U A B : Nat → Int32) (r : Int32) (i j : Nat) : Bool :=
  if r = 4 then (if U (232 + i) = 1 then (if U (232 + j) = 1 then qAhead0 U A B 2 i j else true) else (if U (232 + j) = 1 then false else qAhead0 U A B 0 i j)) else qAhead0 U A B r i j
/-- the first of the keys that can, by an order -/
def qStep (lt : Nat → Nat → Bool) (k : Nat) : Option Nat → Option Nat
  | none => some k
  | some j => if lt k j = true then some k else some j
def qFst (can : Nat → Bool) (lt : Nat → Nat → Bool) : Nat → Option Nat → Option Nat
  | 0, b => b
  | n + 1, b => qFst can lt n (if can (25 - n) = true then qStep lt (25 - n) b else b)
theorem qFst_lt {can : Nat → Bool} {lt : Nat → Nat → Bool} : ∀ (n : Nat) (b : Option Nat), (∀ j, b = some j → j < 26) → ∀ j, qFst can lt n b = some j → j < 26
  | 0, b, h => h
  | n + 1, b, h => by
    refine qFst_lt n _ ?_
    intro j
    split
    · cases b with
      | none => intro e; cases e; omega
      | some i =>
        show (if lt (25 - n) i = true then some (25 - n) else some i) = some j → j < 26
        split
        · intro e; cases e; omega
        · exact h j
    · exact h j
section Rk
variable {M : LM} {o i j k u w y : Nat} {H : Nat → Int32} {V X : Nat → Nat → Int32} {U : Nat → Int32} {v r : Int32} {kf : Nat → Nat} {kept : Option Nat}
theorem r_isAhead0 (d : Nat) (h : RA M o) (hu : u < 18) (hi : i < 26) (hj : j < 26) (hr : r ≠ 4) : f_X11_isAhead (d + 2) (rM M o H (u1 V u U) X) o (nI u) r (nI i) (nI j) = some (.inl (some (.int (bI (qAhead0 U (X 12) (X 13) r i j)))), rM M o H (u1 V u U) X) := by
  rw [e_X11_isAhead]
  unfold qAhead0 bI
  by_cases r0 : r = 0
  · simp (maxSteps := 1000000) (disch := first | assumption | omega) only [x_rf, x_m, lt_bv_r, lt_bi_r, lt_bl_r, ↓r_ck, r_get, r_put, r_more, rM_h, rM_f, rM_x, rM_wf, rM_wx, rM_wh, lt_iN, lt_b1_0, lt_b1_1, x_if1, x_eq1, x_10, x_01, x_11, x_00, ↓reduceIte, r_nz, r_ar1L0, r_ar1L1, lt_n0_, lt_n1_, upd_s, upd_o, u2_eq, u2_n1, u2_n2, r_p1, r_p5, r_p6, r_p7, r_p9, r_p10, r_p11, r_p13, r_p19, r_p23, r_p26, r_p27, r_p32, r_p33, r_p34, r_ar1, r_ar9, r_ar10, r_ar11, r_ar12, r_ar13, r_ar14, r_ar15, r_ar16, r_ar17, r_ar18, r_ar19, r_ar74, r_ar75, r_ar76, n2_, n4_, n12_, n24_, n28_, n50_, n54_, n76_, n80_, n102_, n128_, n154_, n180_, n206_, n232_, n258_, n284_, n310_, n336_, n362_, n380_, n680_, r_get0, r_get1, r_get2, r_get3, r_get4, r_get8, r_get9, r_get10, r_get11, r_get12, r_get13, r_put0, r_put1, r_put2, r_put3, r_put4, r_put5, r_put6, r_put7, r_put8, r_put9, r_put10, r_put11, r_more10, r_more12, r_more13, r_more14, r_more15, r_more16, r_more17, r_more18, r_more19, r_more20, r0, x_res]
    simp only [decide_eq_true_eq]
  · by_cases r2 : r = 2
    · rw [if_neg r0, if_pos r2, if_neg r0, if_pos r2]
      simp (maxSteps := 1000000) (disch := first | assumption | omega) only [x_rf, x_m, lt_bv_r, lt_bi_r, lt_bl_r, ↓r_ck, r_get, r_put, r_more, rM_h, rM_f, rM_x, rM_wf, rM_wx, rM_wh, lt_iN, lt_b1_0, lt_b1_1, x_if1, x_eq1, x_10, x_01, x_11, x_00, ↓reduceIte, r_nz, r_ar1L0, r_ar1L1, lt_n0_, lt_n1_, upd_s, upd_o, u2_eq, u2_n1, u2_n2, r_p1, r_p5, r_p6, r_p7, r_p9, r_p10, r_p11, r_p13, r_p19, r_p23, r_p26, r_p27, r_p32, r_p33, r_p34, r_ar1, r_ar9, r_ar10, r_ar11, r_ar12, r_ar13, r_ar14, r_ar15, r_ar16, r_ar17, r_ar18, r_ar19, r_ar74, r_ar75, r_ar76, n2_, n4_, n12_, n24_, n28_, n50_, n54_, n76_, n80_, n102_, n128_, n154_, n180_, n206_, n232_, n258_, n284_, n310_, n336_, n362_, n380_, n680_, r_get0, r_get1, r_get2, r_get3, r_get4, r_get8, r_get9, r_get10, r_get11, r_get12, r_get13, r_put0, r_put1, r_put2, r_put3, r_put4, r_put5, r_put6, r_put7, r_put8, r_put9, r_put10, r_put11, r_more10, r_more12, r_more13, r_more14, r_more15, r_more16, r_more17, r_more18, r_more19, r_more20, x_res]
      simp only [decide_eq_true_eq]
    · by_cases r3 : r = 3
      · rw [if_neg r0, if_neg r2, if_pos r3, if_neg r0, if_neg r2, if_pos r3]
        simp (maxSteps := 1000000) (disch := first | assumption | omega) only [x_rf, x_m, lt_bv_r, lt_bi_r, lt_bl_r, ↓r_ck, r_get, r_put, r_more, rM_h, rM_f, rM_x, rM_wf, rM_wx, rM_wh, lt_iN, lt_b1_0, lt_b1_1, x_if1, x_eq1, x_10, x_01, x_11, x_00, ↓reduceIte, r_nz, r_ar1L0, r_ar1L1, lt_n0_, lt_n1_, upd_s, upd_o, u2_eq, u2_n1, u2_n2, r_p1, r_p5, r_p6, r_p7, r_p9, r_p10, r_p11, r_p13, r_p19, r_p23, r_p26, r_p27, r_p32, r_p33, r_p34, r_ar1, r_ar9, r_ar10, r_ar11, r_ar12, r_ar13, r_ar14, r_ar15, r_ar16, r_ar17, r_ar18, r_ar19, r_ar74, r_ar75, r_ar76, n2_, n4_, n12_, n24_, n28_, n50_, n54_, n76_, n80_, n102_, n128_, n154_, n180_, n206_, n232_, n258_, n284_, n310_, n336_, n362_, n380_, n680_, r_get0, r_get1, r_get2, r_get3, r_get4, r_get8, r_get9, r_get10, r_get11, r_get12, r_get13, r_put0, r_put1, r_put2, r_put3, r_put4, r_put5, r_put6, r_put7, r_put8, r_put9, r_put10, r_put11, r_more10, r_more12, r_more13, r_more14, r_more15, r_more16, r_more17, r_more18, r_more19, r_more20, x_res]
        simp only [decide_eq_true_eq]
      · by_cases r5 : r = 5
        · rw [if_neg r0, if_neg r2, if_neg r3, if_pos r5, if_neg r0, if_neg r2, if_neg r3, if_pos r5]
          simp (maxSteps := 1000000) (disch := first | assumption | omega) only [x_rf, x_m, lt_bv_r, lt_bi_r, lt_bl_r, ↓r_ck, r_get, r_put, r_more, rM_h, rM_f, rM_x, rM_wf, rM_wx, rM_wh, lt_iN, lt_b1_0, lt_b1_1, x_if1, x_eq1, x_10, x_01, x_11, x_00, ↓reduceIte, r_nz, r_ar1L0, r_ar1L1, lt_n0_, lt_n1_, upd_s, upd_o, u2_eq, u2_n1, u2_n2, r_p1, r_p5, r_p6, r_p7, r_p9, r_p10, r_p11, r_p13, r_p19, r_p23, r_p26, r_p27, r_p32, r_p33, r_p34, r_ar1, r_ar9, r_ar10, r_ar11, r_ar12, r_ar13, r_ar14, r_ar15, r_ar16, r_ar17, r_ar18, r_ar19, r_ar74, r_ar75, r_ar76, n2_, n4_, n12_, n24_, n28_, n50_, n54_, n76_, n80_, n102_, n128_, n154_, n180_, n206_, n232_, n258_, n284_, n310_, n336_, n362_, n380_, n680_, r_get0, r_get1, r_get2, r_get3, r_get4, r_get8, r_get9, r_get10, r_get11, r_get12, r_get13, r_put0, r_put1, r_put2, r_put3, r_put4, r_put5, r_put6, r_put7, r_put8, r_put9, r_put10, r_put11, r_more10, r_more12, r_more13, r_more14, r_more15, r_more16, r_more17, r_more18, r_more19, r_more20, x_res, nI_ltP]
          by_cases a : U (284 + i) < U (284 + j)
          · simp [a]
          · by_cases b : U (284 + i) = U (284 + j)
            · simp [b]
            · simp [a, b]
        · rw [if_neg r0, if_neg r2, if_neg r3, if_neg r5, if_neg hr, if_neg r0, if_neg r2, if_neg r3, if_neg r5]
          simp (maxSteps := 1000000) (disch := first | assumption | omega) only [x_rf, x_m, lt_bv_r, lt_bi_r, lt_bl_r, ↓r_ck, r_get, r_put, r_more, rM_h, rM_f, rM_x, rM_wf, rM_wx, rM_wh, lt_iN, lt_b1_0, lt_b1_1, x_if1, x_eq1, x_10, x_01, x_11, x_00, ↓reduceIte, r_nz, r_ar1L0, r_ar1L1, lt_n0_, lt_n1_, upd_s, upd_o, u2_eq, u2_n1, u2_n2, r_p1, r_p5, r_p6, r_p7, r_p9, r_p10, r_p11, r_p13, r_p19, r_p23, r_p26, r_p27, r_p32, r_p33, r_p34, r_ar1, r_ar9, r_ar10, r_ar11, r_ar12, r_ar13, r_ar14, r_ar15, r_ar16, r_ar17, r_ar18, r_ar19, r_ar74, r_ar75, r_ar76, n2_, n4_, n12_, n24_, n28_, n50_, n54_, n76_, n80_, n102_, n128_, n154_, n180_, n206_, n232_, n258_, n284_, n310_, n336_, n362_, n380_, n680_, r_get0, r_get1, r_get2, r_get3, r_get4, r_get8, r_get9, r_get10, r_get11, r_get12, r_get13, r_put0, r_put1, r_put2, r_put3, r_put4, r_put5, r_put6, r_put7, r_put8, r_put9, r_put10, r_put11, r_more10, r_more12, r_more13, r_more14, r_more15, r_more16, r_more17, r_more18, r_more19, r_more20, x_res]
          by_cases a : X 12 i < X 12 j
          · simp [a]
          · by_cases b : X 12 i = X 12 j
            · simp [b]
            · simp [a, b]
theorem r_isAhead (d : Nat) (h : RA M o) (hu : u < 18) (hi : i < 26) (hj : j < 26) : f_X11_isAhead (d + 3) (rM M o H (u1 V u U) X) o (nI u) r (nI i) (nI j) = some (.inl (some (.int (bI (qAhead U (X 12) (X 13) r i j)))), rM M o H (u1 V u U) X) := by
  unfold qAhead
  by_cases r4 : r = 4
  · have e2 := r_isAhead0 (V := V) (U := U) (H := H) (X := X) (r := 2) d h hu hi hj (by decide)
    have e0 := r_isAhead0 (V := V) (U := U) (H := H) (X := X) (r := 0) d h hu hi hj (by decide)
    have hb : ∀ (b : Bool) (z : Option (LO × LM)), lt_b1 (bI b) z = z := fun b z => by cases b <;> rfl
    rw [e_X11_isAhead, if_pos r4, if_neg (by rw [r4]; decide), if_neg (by rw [r4]; decide), if_neg (by rw [r4]; decide), if_neg (by rw [r4]; decide), if_pos r4]
    simp (maxSteps := 1000000) (disch := first | assumption | omega) only [x_rf, x_m, lt_bv_r, lt_bi_r, lt_bl_r, ↓r_ck, r_get, r_put, r_more, rM_h, rM_f, rM_x, rM_wf, rM_wx, rM_wh, lt_iN, lt_b1_0, lt_b1_1, x_if1, x_eq1, x_10, x_01, x_11, x_00, ↓reduceIte, r_nz, r_ar1L0, r_ar1L1, lt_n0_, lt_n1_, upd_s, upd_o, u2_eq, u2_n1, u2_n2, r_p1, r_p5, r_p6, r_p7, r_p9, r_p10, r_p11, r_p13, r_p19, r_p23, r_p26, r_p27, r_p32, r_p33, r_p34, r_ar1, r_ar9, r_ar10, r_ar11, r_ar12, r_ar13, r_ar14, r_ar15, r_ar16, r_ar17, r_ar18, r_ar19, r_ar74, r_ar75, r_ar76, n2_, n4_, n12_, n24_, n28_, n50_, n54_, n76_, n80_, n102_, n128_, n154_, n180_, n206_, n232_, n258_, n284_, n310_, n336_, n362_, n380_, n680_, r_get0, r_get1, r_get2, r_get3, r_get4, r_get8, r_get9, r_get10, r_get11, r_get12, r_get13, r_put0, r_put1, r_put2, r_put3, r_put4, r_put5, r_put6, r_put7, r_put8, r_put9, r_put10, r_put11, r_more10, r_more12, r_more13, r_more14, r_more15, r_more16, r_more17, r_more18, r_more19, r_more20, e2, e0, hb]
    by_cases a : U (232 + i) = 1
    · by_cases b : U (232 + j) = 1
      · simp only [a, b, if_true]
      · simp only [a, b, if_true, if_false]
        rfl
    · by_cases b : U (232 + j) = 1
      · simp only [a, b, if_true, if_false]
        rfl
      · simp only [a, b, if_false]
  · rw [if_neg r4]
    exact r_isAhead0 (d + 1) h hu hi hj r4
/-- the first of those that can go -/
def qYoung (U : Nat → Int32) (yg : Int32) (can : Nat → Bool) (k : Nat) : Bool := can k && (decide (yg = -1) || decide (U (232 + k) = yg))
theorem r_firstOf_6 (d : Nat) (h : RA M o) (hu : u < 18) {can : Nat → Bool} (hc : ∀ k, k < 26 → X 9 k = bI (can k)) {yg : Int32} : ∀ (n : Nat) (b : Option Nat), n ≤ 26 → (∀ j, b = some j → j < 26) →
    f_X11_firstOf_6 (d + 4) (rM M o H (u1 V u U) X) o (nI u) r yg (oI b) (nI (26 - n)) = some (.inl (some (.int (oI (qFst (qYoung U yg can) (qAhead U (X 12) (X 13) r) n b)))), rM M o H (u1 V u U) X)
  | 0, b, _, _ => by
    rw [e_X11_firstOf_6, if_neg lt_end]
    rfl
  | n + 1, b, hn, hb => by
    obtain ⟨g1, g2, -⟩ := lt_suc hn
    have hk : 25 - n < 26 := by omega
    have hx9 : X 9 (25 - n) = bI (can (25 - n)) := hc _ hk
    have ih := fun b hb => r_firstOf_6 d h hu hc (yg := yg) n b (by omega) hb
    have hs : qFst (qYoung U yg can) (qAhead U (X 12) (X 13) r) (n + 1) b = qFst (qYoung U yg can) (qAhead U (X 12) (X 13) r) n (if qYoung U yg can (25 - n) = true then qStep (qAhead U (X 12) (X 13) r) (25 - n) b else b) := rfl
    have ihk := ih (some (25 - n)) (fun j e => by cases e; omega)
    have ihb := ih b hb
    rw [oI_s] at ihk
    have e46 : f_X11_firstOf_46 (d + 4) (rM M o H (u1 V u U) X) o (nI u) r yg (oI b) (nI (25 - n)) = some (.inl (some (.int (oI (qFst (qYoung U yg can) (qAhead U (X 12) (X 13) r) n (qStep (qAhead U (X 12) (X 13) r) (25 - n) b))))), rM M o H (u1 V u U) X) := by
      rw [e_X11_firstOf_46]
      cases b with
      | none =>
        rw [if_pos oI_n, g2]
        exact ihk
      | some j =>
        have hj := hb j rfl
        rw [oI_s] at ihb ⊢
        rw [if_neg (by rw [nI_ne1 (by omega)]; exact id)]
        simp (maxSteps := 1000000) (disch := first | assumption | omega) only [x_rf, x_m, lt_bv_r, lt_bi_r, lt_bl_r, ↓r_ck, r_get, r_put, r_more, rM_h, rM_f, rM_x, rM_wf, rM_wx, rM_wh, lt_iN, lt_b1_0, lt_b1_1, x_if1, x_eq1, x_10, x_01, x_11, x_00, ↓reduceIte, r_nz, r_ar1L0, r_ar1L1, lt_n0_, lt_n1_, upd_s, upd_o, u2_eq, u2_n1, u2_n2, r_p1, r_p5, r_p6, r_p7, r_p9, r_p10, r_p11, r_p13, r_p19, r_p23, r_p26, r_p27, r_p32, r_p33, r_p34, r_ar1, r_ar9, r_ar10, r_ar11, r_ar12, r_ar13, r_ar14, r_ar15, r_ar16, r_ar17, r_ar18, r_ar19, r_ar74, r_ar75, r_ar76, n2_, n4_, n12_, n24_, n28_, n50_, n54_, n76_, n80_, n102_, n128_, n154_, n180_, n206_, n232_, n258_, n284_, n310_, n336_, n362_, n380_, n680_, r_get0, r_get1, r_get2, r_get3, r_get4, r_get8, r_get9, r_get10, r_get11, r_get12, r_get13, r_put0, r_put1, r_put2, r_put3, r_put4, r_put5, r_put6, r_put7, r_put8, r_put9, r_put10, r_put11, r_more10, r_more12, r_more13, r_more14, r_more15, r_more16, r_more17, r_more18, r_more19, r_more20, r_isAhead, bI0, g2, ihk, ihb]
        show _ = some (Sum.inl (some (Value.int (oI (qFst (qYoung U yg can) (qAhead U (X 12) (X 13) r) n (if qAhead U (X 12) (X 13) r (25 - n) j = true then some (25 - n) else some j))))), _)
        by_cases hA : qAhead U (X 12) (X 13) r (25 - n) j = true
        · rw [if_pos hA, if_pos hA]
        · rw [if_neg hA, if_neg hA]
    rw [g1, e_X11_firstOf_6, if_pos (lt_suc2 hn), hs]
    simp (maxSteps := 1000000) (disch := first | assumption | omega) only [x_rf, x_m, lt_bv_r, lt_bi_r, lt_bl_r, ↓r_ck, r_get, r_put, r_more, rM_h, rM_f, rM_x, rM_wf, rM_wx, rM_wh, lt_iN, lt_b1_0, lt_b1_1, x_if1, x_eq1, x_10, x_01, x_11, x_00, ↓reduceIte, r_nz, r_ar1L0, r_ar1L1, lt_n0_, lt_n1_, upd_s, upd_o, u2_eq, u2_n1, u2_n2, r_p1, r_p5, r_p6, r_p7, r_p9, r_p10, r_p11, r_p13, r_p19, r_p23, r_p26, r_p27, r_p32, r_p33, r_p34, r_ar1, r_ar9, r_ar10, r_ar11, r_ar12, r_ar13, r_ar14, r_ar15, r_ar16, r_ar17, r_ar18, r_ar19, r_ar74, r_ar75, r_ar76, n2_, n4_, n12_, n24_, n28_, n50_, n54_, n76_, n80_, n102_, n128_, n154_, n180_, n206_, n232_, n258_, n284_, n310_, n336_, n362_, n380_, n680_, r_get0, r_get1, r_get2, r_get3, r_get4, r_get8, r_get9, r_get10, r_get11, r_get12, r_get13, r_put0, r_put1, r_put2, r_put3, r_put4, r_put5, r_put6, r_put7, r_put8, r_put9, r_put10, r_put11, r_more10, r_more12, r_more13, r_more14, r_more15, r_more16, r_more17, r_more18, r_more19, r_more20, hx9, bI0, g2, ihb, e46]
    unfold qYoung
    cases hcc : can (25 - n)
    · simp only [Bool.false_eq_true, if_false, Bool.false_and]
    · by_cases hy1 : yg = -1
      · simp only [hy1, if_true, decide_true, Bool.true_or, Bool.true_and]
      · by_cases hy2 : U (232 + (25 - n)) = yg
        · simp only [hy1, hy2, if_true, if_false, decide_true, Bool.or_true, Bool.true_and]
        · simp only [hy1, hy2, if_true, if_false, decide_false, Bool.or_false, Bool.true_and, Bool.false_eq_true]
theorem r_firstOf (d : Nat) (h : RA M o) (hu : u < 18) {can : Nat → Bool} (hc : ∀ k, k < 26 → X 9 k = bI (can k)) {yg : Int32} :
    f_X11_firstOf (d + 4) (rM M o H (u1 V u U) X) o (nI u) r yg = some (.inl (some (.int (oI (qFst (qYoung U yg can) (qAhead U (X 12) (X 13) r) 26 none)))), rM M o H (u1 V u U) X) := by
  rw [e_X11_firstOf]
  exact r_firstOf_6 d h hu hc 26 none (Nat.le_refl _) (fun j e => by cases e)
/-- two queues -/
def qYsum (H U : Nat → Int32) : Nat → Int32 → Int32
  | 0, acc => acc
  | n + 1, acc => qYsum H U n (acc + if U (24 + (25 - n)) = 1 then (if U (232 + (25 - n)) = 1 then H (2 + (25 - n)) else 0) else 0)
def qQueues (H U A B : Nat → Int32) (can : Nat → Bool) : Option Nat :=
  let yo := qFst (qYoung U 1 can) (qAhead U A B 2) 26 none
  let ol := qFst (qYoung U 0 can) (qAhead U A B 0) 26 none
  if (if 1 < U 1 / 4 then U 1 / 4 else 1) < qYsum H U 26 0 then (if yo = none then ol else yo) else if yo = none then ol else if ol = none then yo else ol
theorem oI_none {b : Option Nat} (hb : ∀ j, b = some j → j < 26) : (oI b = -1) = (b = none) := by
  cases b with
  | none => exact propext ⟨fun _ => rfl, fun _ => rfl⟩
  | some j =>
    have := hb j rfl
    rw [oI_s, nI_ne1 (by omega)]
    exact propext ⟨False.elim, fun e => by cases e⟩
theorem j_max (d : Nat) {x y : Int32} {M : LM} : f_J9_max_7cf53 (d + 1) M x y = some (.inl (some (.int (if x < y then y else x))), M) := by
  rw [e_J9_max_7cf53]
  split <;> rfl
theorem r_queues_4 (d : Nat) (h : RA M o) (hu : u < 18) {can : Nat → Bool} (hc : ∀ k, k < 26 → X 9 k = bI (can k)) : ∀ (n : Nat) (acc : Int32), n ≤ 26 →
    f_X11_firstOfQueues_4 (d + 5) (rM M o H (u1 V u U) X) o (nI u) acc (nI (26 - n)) = f_X11_firstOfQueues_4 (d + 5) (rM M o H (u1 V u U) X) o (nI u) (qYsum H U n acc) (nI 26)
  | 0, acc, _ => rfl
  | n + 1, acc, hn => by
    obtain ⟨g1, g2, -⟩ := lt_suc hn
    have hk : 25 - n < 26 := by omega
    have ih := fun acc => r_queues_4 d h hu hc n acc (by omega)
    have hs : qYsum H U (n + 1) acc = qYsum H U n (acc + if U (24 + (25 - n)) = 1 then (if U (232 + (25 - n)) = 1 then H (2 + (25 - n)) else 0) else 0) := rfl
    rw [g1, hs, ← ih, e_X11_firstOfQueues_4, if_pos (lt_suc2 hn)]
    simp (maxSteps := 1000000) (disch := first | assumption | omega) only [x_rf, x_m, lt_bv_r, lt_bi_r, lt_bl_r, ↓r_ck, r_get, r_put, r_more, rM_h, rM_f, rM_x, rM_wf, rM_wx, rM_wh, lt_iN, lt_b1_0, lt_b1_1, x_if1, x_eq1, x_10, x_01, x_11, x_00, ↓reduceIte, r_nz, r_ar1L0, r_ar1L1, lt_n0_, lt_n1_, upd_s, upd_o, u2_eq, u2_n1, u2_n2, r_p1, r_p5, r_p6, r_p7, r_p9, r_p10, r_p11, r_p13, r_p19, r_p23, r_p26, r_p27, r_p32, r_p33, r_p34, r_ar1, r_ar9, r_ar10, r_ar11, r_ar12, r_ar13, r_ar14, r_ar15, r_ar16, r_ar17, r_ar18, r_ar19, r_ar74, r_ar75, r_ar76, n2_, n4_, n12_, n24_, n28_, n50_, n54_, n76_, n80_, n102_, n128_, n154_, n180_, n206_, n232_, n258_, n284_, n310_, n336_, n362_, n380_, n680_, r_get0, r_get1, r_get2, r_get3, r_get4, r_get8, r_get9, r_get10, r_get11, r_get12, r_get13, r_put0, r_put1, r_put2, r_put3, r_put4, r_put5, r_put6, r_put7, r_put8, r_put9, r_put10, r_put11, r_more10, r_more12, r_more13, r_more14, r_more15, r_more16, r_more17, r_more18, r_more19, r_more20, r_holds2, g2]
    by_cases a : U (24 + (25 - n)) = 1
    · by_cases b : U (232 + (25 - n)) = 1
      · simp only [a, b, if_true]
      · simp only [a, b, if_true, if_false]
    · simp only [a, if_false]
theorem r_queues (d : Nat) (h : RA M o) (hu : u < 18) {can : Nat → Bool} (hc : ∀ k, k < 26 → X 9 k = bI (can k)) :
    f_X11_firstOfQueues (d + 5) (rM M o H (u1 V u U) X) o (nI u) = some (.inl (some (.int (oI (qQueues H U (X 12) (X 13) can)))), rM M o H (u1 V u U) X) := by
  have hyo := qFst_lt (can := qYoung U 1 can) (lt := qAhead U (X 12) (X 13) 2) 26 none (fun j e => by cases e)
  have hol := qFst_lt (can := qYoung U 0 can) (lt := qAhead U (X 12) (X 13) 0) 26 none (fun j e => by cases e)
  have e1 := r_firstOf (V := V) (U := U) (H := H) (r := 2) (yg := 1) d h hu hc
  have e2 := r_firstOf (V := V) (U := U) (H := H) (r := 0) (yg := 0) d h hu hc
  rw [e_X11_firstOfQueues]
  refine (r_queues_4 d h hu hc 26 0 (Nat.le_refl _)).trans ?_
  rw [e_X11_firstOfQueues_4, if_neg (by decide)]
  simp (maxSteps := 1000000) (disch := first | assumption | omega) only [x_rf, x_m, lt_bv_r, lt_bi_r, lt_bl_r, ↓r_ck, r_get, r_put, r_more, rM_h, rM_f, rM_x, rM_wf, rM_wx, rM_wh, lt_iN, lt_b1_0, lt_b1_1, x_if1, x_eq1, x_10, x_01, x_11, x_00, ↓reduceIte, r_nz, r_ar1L0, r_ar1L1, lt_n0_, lt_n1_, upd_s, upd_o, u2_eq, u2_n1, u2_n2, r_p1, r_p5, r_p6, r_p7, r_p9, r_p10, r_p11, r_p13, r_p19, r_p23, r_p26, r_p27, r_p32, r_p33, r_p34, r_ar1, r_ar9, r_ar10, r_ar11, r_ar12, r_ar13, r_ar14, r_ar15, r_ar16, r_ar17, r_ar18, r_ar19, r_ar74, r_ar75, r_ar76, n2_, n4_, n12_, n24_, n28_, n50_, n54_, n76_, n80_, n102_, n128_, n154_, n180_, n206_, n232_, n258_, n284_, n310_, n336_, n362_, n380_, n680_, r_get0, r_get1, r_get2, r_get3, r_get4, r_get8, r_get9, r_get10, r_get11, r_get12, r_get13, r_put0, r_put1, r_put2, r_put3, r_put4, r_put5, r_put6, r_put7, r_put8, r_put9, r_put10, r_put11, r_more10, r_more12, r_more13, r_more14, r_more15, r_more16, r_more17, r_more18, r_more19, r_more20, e1, e2, j_max, oI_none hyo, oI_none hol]
  rw [show ∀ z : Option (LO × LM), lt_nz 4 z = z from fun z => rfl]
  unfold qQueues
  dsimp only
  by_cases a : (if 1 < U 1 / 4 then U 1 / 4 else 1) < qYsum H U 26 0
  · by_cases b : qFst (qYoung U 1 can) (qAhead U (X 12) (X 13) 2) 26 none = none
    · simp only [a, b, if_true]
    · simp only [a, b, if_true, if_false]
  · by_cases b : qFst (qYoung U 1 can) (qAhead U (X 12) (X 13) 2) 26 none = none
    · simp only [a, b, if_true, if_false]
    · by_cases c : qFst (qYoung U 0 can) (qAhead U (X 12) (X 13) 0) 26 none = none
      · simp only [a, b, c, if_true, if_false]
      · simp only [a, b, c, if_false]
end Rk
