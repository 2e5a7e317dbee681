/-! THE REFERENCE: one more request in a queue -/
section Sh
variable {M M' : LM} {o i j k u w y f t n x m a len q room key : Nat} {H : Nat → Int32} {V V' X X' : Nat → Nat → Int32} {v b e r a' e' many : Int32} {z : Option (LO × LM)} {K : Nat → Nat} {B : Nat → Bool} {mk : Bool}
/-- after enough turns no mark stands first -/
theorem qSpin_ok : ∀ (f : Nat) (K : Nat → Nat) (B : Nat → Bool), (∀ i, f ≤ i → i < m → B i = false) → 0 < m → (qSpin m f K B).2 0 = false
  | 0, K, B, hB, hm => hB 0 (Nat.le_refl _) hm
  | f + 1, K, B, hB, hm => by
    unfold qSpin
    split
    · refine qSpin_ok f _ _ (fun i hi him => ?_) hm
      unfold qTB
      by_cases c : i + 1 < m
      · rw [if_pos c]
        exact hB (i + 1) (by omega) c
      · rw [if_neg c, if_pos (by omega)]
    · rename_i hb
      simpa using hb
theorem r_steps_148 (d : Nat) (h : RA M o) (hq : q < 26) (hm0 : 0 < m) (hk : key < 26) {hitv : Bool} : ∀ (f : Nat) (X : Nat → Nat → Int32) (K : Nat → Nat) (B : Nat → Bool), QG X q m K B → (qSpin m f K B).2 0 = false →
    ∃ X', XK q X X' ∧ QF X' q m (qTK m key (qSpin m f K B).1) (qTB m (qSpin m f K B).2) ∧ f_X11_steps_148 (d + 2) (rM M o H V X) o (nI key) (nI q) (nI m) (bI hitv) = some (.inl (some (.int (bI hitv))), rM M o H V X')
  | f, X, K, B, hQ, hs => by
    obtain ⟨q2, q3⟩ := hQ
    have h0 := q3 0 hm0
    have e0 : (0 : Int32) = nI 0 := rfl
    have l0 : lt_n (nI 0) = 0 := by decide
    have base : B 0 = false → ∃ X', XK q X X' ∧ QF X' q m (qTK m key K) (qTB m B) ∧ f_X11_steps_148 (d + 2) (rM M o H V X) o (nI key) (nI q) (nI m) (bI hitv) = some (.inl (some (.int (bI hitv))), rM M o H V X') := by
      intro hb
      obtain ⟨X1, a1, a2, a3⟩ := r_turns (M := M) (o := o) (H := H) (V := V) (key := key) d h hq hm0 hk ⟨q2, q3⟩
      have ar0 : ∀ {z : Option (LO × LM)}, lt_ar (rM M o H V X) (o + (48 + q)) 3 0 z = z := fun {z} => r_mar (i := 0) h hq (by omega)
      have x0 : X (48 + q) 0 = 0 := by rw [h0.2.2, hb]; rfl
      refine ⟨u2 X1 74 q (nI m), a1.trans (XK.w74 hq), ⟨u2_eq, a2.1, fun i hi => ?_⟩, ?_⟩
      · rw [u2_n1 (by omega), u2_n1 (by omega)]
        exact a2.2 i hi
      · rw [e_X11_steps_148]
        simp (maxSteps := 1000000) (disch := first | assumption | omega) only [x_rf, x_m, lt_bv_r, lt_bi_r, lt_bl_r, ↓r_ck, r_get, r_put, r_more, rM_h, rM_f, rM_x, rM_wf, rM_wx, rM_wh, lt_iN, lt_b1_0, lt_b1_1, x_if1, x_eq1, x_10, x_01, x_11, x_00, ↓reduceIte, r_nz, r_ar1L0, r_ar1L1, lt_n0_, lt_n1_, upd_s, upd_o, u2_eq, u2_n1, u2_n2, r_p1, r_p5, r_p6, r_p7, r_p9, r_p10, r_p11, r_p13, r_p19, r_p23, r_p26, r_p27, r_p32, r_p33, r_p34, r_ar1, r_ar9, r_ar10, r_ar11, r_ar12, r_ar13, r_ar14, r_ar15, r_ar16, r_ar17, r_ar18, r_ar19, r_ar74, r_ar75, r_ar76, n2_, n4_, n12_, n24_, n28_, n50_, n54_, n76_, n80_, n102_, n128_, n154_, n180_, n206_, n232_, n258_, n284_, n310_, n336_, n362_, n380_, n680_, r_get0, r_get1, r_get2, r_get3, r_get4, r_get8, r_get9, r_get10, r_get11, r_get12, r_get13, r_put0, r_put1, r_put2, r_put3, r_put4, r_put5, r_put6, r_put7, r_put8, r_put9, r_put10, r_put11, r_more10, r_more12, r_more13, r_more14, r_more15, r_more16, r_more17, r_more18, r_more19, r_more20, r_p31, r_maa, r_mp, ar0, x0, a3, hb1]
    cases f with
    | zero => exact base hs
    | succ f =>
      have hsp : qSpin m (f + 1) K B = if B 0 = true then qSpin m f (qTK m (K 0) K) (qTB m B) else (K, B) := rfl
      by_cases hb : B 0 = true
      · rw [hsp, if_pos hb] at hs ⊢
        obtain ⟨X1, a1, a2, a3⟩ := r_turns (M := M) (o := o) (H := H) (V := V) (key := K 0) d h hq hm0 h0.1 ⟨q2, q3⟩
        obtain ⟨X2, b1, b2, b3⟩ := r_steps_148 d h hq hm0 hk (hitv := hitv) f X1 _ _ a2 hs
        have ar0 : ∀ {z : Option (LO × LM)}, lt_ar (rM M o H V X) (o + (48 + q)) 3 0 z = z := fun {z} => r_mar (i := 0) h hq (by omega)
        have ar1 : ∀ {z : Option (LO × LM)}, lt_ar (rM M o H V X) (o + (21 + q)) 1 0 z = z := fun {z} => r_qar (i := 0) h hq (by omega)
        have x0 : X (48 + q) 0 = 1 := by rw [h0.2.2, hb]; rfl
        have x1 := h0.2.1
        refine ⟨X2, a1.trans b1, b2, ?_⟩
        rw [e_X11_steps_148]
        simp (maxSteps := 1000000) (disch := first | assumption | omega) only [x_rf, x_m, lt_bv_r, lt_bi_r, lt_bl_r, ↓r_ck, r_get, r_put, r_more, rM_h, rM_f, rM_x, rM_wf, rM_wx, rM_wh, lt_iN, lt_b1_0, lt_b1_1, x_if1, x_eq1, x_10, x_01, x_11, x_00, ↓reduceIte, r_nz, r_ar1L0, r_ar1L1, lt_n0_, lt_n1_, upd_s, upd_o, u2_eq, u2_n1, u2_n2, r_p1, r_p5, r_p6, r_p7, r_p9, r_p10, r_p11, r_p13, r_p19, r_p23, r_p26, r_p27, r_p32, r_p33, r_p34, r_ar1, r_ar9, r_ar10, r_ar11, r_ar12, r_ar13, r_ar14, r_ar15, r_ar16, r_ar17, r_ar18, r_ar19, r_ar74, r_ar75, r_ar76, n2_, n4_, n12_, n24_, n28_, n50_, n54_, n76_, n80_, n102_, n128_, n154_, n180_, n206_, n232_, n258_, n284_, n310_, n336_, n362_, n380_, n680_, r_get0, r_get1, r_get2, r_get3, r_get4, r_get8, r_get9, r_get10, r_get11, r_get12, r_get13, r_put0, r_put1, r_put2, r_put3, r_put4, r_put5, r_put6, r_put7, r_put8, r_put9, r_put10, r_put11, r_more10, r_more12, r_more13, r_more14, r_more15, r_more16, r_more17, r_more18, r_more19, r_more20, r_p31, r_p30, r_maa, r_qaa, r_mp, r_qp, ar0, ar1, x0, x1, a3, b3]
      · rw [hsp, if_neg hb]
        exact base (by simpa using hb)
theorem bI_or' {s : Bool} {p : Prop} [Decidable p] : (if p then bI s ||| 1 else bI s ||| 0) = bI (s || decide p) := by
  by_cases c : p
  · rw [if_pos c, bI_or1, decide_eq_true c, Bool.or_true]; rfl
  · rw [if_neg c, bI_or0, decide_eq_false c, Bool.or_false]
/-- the queue copied, its key marked -/
theorem r_steps_28 (d : Nat) (h : RA M o) (hq : q + 2 < 26) (hm : m ≤ 6) (hk : key < 26) {wh : Int32} {X0 : Nat → Nat → Int32} (hF : ∀ i, i < m → K i < 26 ∧ X0 (21 + q) i = nI (K i) ∧ X0 (48 + q) i = bI (B i)) : ∀ (n : Nat) (X : Nat → Nat → Int32) (s : Bool), n ≤ m → XK (q + 2) X0 X → X 74 = X0 74 → (∀ i, i < m - n → X (21 + (q + 2)) i = nI (K i) ∧ X (48 + (q + 2)) i = bI (qMk mk key K B i)) → s = qHitQ K key (m - n) →
    ∃ X', XK (q + 2) X0 X' ∧ X' 74 = X0 74 ∧ (∀ i, i < m → X' (21 + (q + 2)) i = nI (K i) ∧ X' (48 + (q + 2)) i = bI (qMk mk key K B i)) ∧
      f_X11_steps_28 (d + 3) (rM M o H V X) o wh (nI key) (bI mk) (nI q) (nI (q + 2)) (nI m) (bI s) (nI (m - n)) = f_X11_steps_28 (d + 3) (rM M o H V X') o wh (nI key) (bI mk) (nI q) (nI (q + 2)) (nI m) (bI (qHitQ K key m)) (nI m)
  | 0, X, s, _, hX, h74, hi, hs => by
    rw [Nat.sub_zero] at hi hs
    exact ⟨X, hX, h74, hi, by rw [hs, Nat.sub_zero]⟩
  | n + 1, X, s, hn, hX, h74, hi, hs => by
    have hlt : nI (m - (n + 1)) < nI m := by rw [nI_ltP (by omega) (by omega)]; omega
    have g2 : nI (m - (n + 1)) + 1 = nI (m - n) := by
      rw [show nI (m - (n + 1)) + 1 = nI (m - (n + 1) + 1) from lt_iA (j := m - (n + 1)) (k := 1)]
      congr 1
      omega
    have h1 : m - (n + 1) < 6 := by omega
    have hq0 : q < 26 := by omega
    have hf := hF (m - (n + 1)) (by omega)
    have x1 : X (21 + q) (m - (n + 1)) = nI (K (m - (n + 1))) := by rw [hX.1 (21 + q) (by omega) (by omega) (by omega)]; exact hf.2.1
    have x2 : X (48 + q) (m - (n + 1)) = bI (B (m - (n + 1))) := by rw [hX.1 (48 + q) (by omega) (by omega) (by omega)]; exact hf.2.2
    have hs' : (s || decide (K (m - (n + 1)) = key)) = qHitQ K key (m - n) := by
      rw [hs, show m - n = m - (n + 1) + 1 by omega]
      rfl
    have ih := r_steps_28 d h hq hm hk (wh := wh) hF n (u2 (u2 X (21 + (q + 2)) (m - (n + 1)) (nI (K (m - (n + 1))))) (48 + (q + 2)) (m - (n + 1)) (bI (qMk mk key K B (m - (n + 1))))) (s || decide (K (m - (n + 1)) = key)) (by omega) (hX.trans ((XK.wq hq).trans (XK.wm hq))) (by rw [u2_n1 (by omega), u2_n1 (by omega), h74]) (fun i hi' => by
      by_cases e : i = m - (n + 1)
      · subst e
        refine ⟨?_, u2_eq⟩
        rw [u2_n1 (by omega)]
        exact u2_eq
      · rw [u2_n1 (by omega), u2_n2 e, u2_n2 e, u2_n1 (by omega)]
        exact hi i (by omega)) hs'
    obtain ⟨X', i1, i2, i3, i4⟩ := ih
    refine ⟨X', i1, i2, i3, ?_⟩
    rw [← i4, e_X11_steps_28, if_pos hlt]
    have n21 : 21 + q ≠ 21 + (q + 2) := by omega
    have n48 : 21 + q ≠ 48 + (q + 2) := by omega
    have n3 : 48 + q ≠ 21 + (q + 2) := by omega
    have n4 : 48 + q ≠ 48 + (q + 2) := by omega
    have n5 : 21 + (q + 2) ≠ 48 + (q + 2) := by omega
    unfold qMk
    by_cases c : K (m - (n + 1)) = key
    · have ck : (nI (K (m - (n + 1))) = nI key) = True := eq_true (by rw [c])
      cases hB : B (m - (n + 1)) <;> cases mk
      · simp (maxSteps := 1000000) (disch := first | assumption | omega) only [x_rf, x_m, lt_bv_r, lt_bi_r, lt_bl_r, ↓r_ck, r_get, r_put, r_more, rM_h, rM_f, rM_x, rM_wf, rM_wx, rM_wh, lt_iN, lt_b1_0, lt_b1_1, x_if1, x_eq1, x_10, x_01, x_11, x_00, ↓reduceIte, r_nz, r_ar1L0, r_ar1L1, lt_n0_, lt_n1_, upd_s, upd_o, u2_eq, u2_n1, u2_n2, r_p1, r_p5, r_p6, r_p7, r_p9, r_p10, r_p11, r_p13, r_p19, r_p23, r_p26, r_p27, r_p32, r_p33, r_p34, r_ar1, r_ar9, r_ar10, r_ar11, r_ar12, r_ar13, r_ar14, r_ar15, r_ar16, r_ar17, r_ar18, r_ar19, r_ar74, r_ar75, r_ar76, n2_, n4_, n12_, n24_, n28_, n50_, n54_, n76_, n80_, n102_, n128_, n154_, n180_, n206_, n232_, n258_, n284_, n310_, n336_, n362_, n380_, n680_, r_get0, r_get1, r_get2, r_get3, r_get4, r_get8, r_get9, r_get10, r_get11, r_get12, r_get13, r_put0, r_put1, r_put2, r_put3, r_put4, r_put5, r_put6, r_put7, r_put8, r_put9, r_put10, r_put11, r_more10, r_more12, r_more13, r_more14, r_more15, r_more16, r_more17, r_more18, r_more19, r_more20, r_p30, r_p31, r_qaa, r_maa, r_qp, r_mp, r_qar, r_mar, x1, x2, hB, bI_f, bI_t, ck, c, g2, decide_true, Bool.false_or, Bool.false_and, Bool.true_and, Bool.or_true, bI_or1]
      · simp (maxSteps := 1000000) (disch := first | assumption | omega) only [x_rf, x_m, lt_bv_r, lt_bi_r, lt_bl_r, ↓r_ck, r_get, r_put, r_more, rM_h, rM_f, rM_x, rM_wf, rM_wx, rM_wh, lt_iN, lt_b1_0, lt_b1_1, x_if1, x_eq1, x_10, x_01, x_11, x_00, ↓reduceIte, r_nz, r_ar1L0, r_ar1L1, lt_n0_, lt_n1_, upd_s, upd_o, u2_eq, u2_n1, u2_n2, r_p1, r_p5, r_p6, r_p7, r_p9, r_p10, r_p11, r_p13, r_p19, r_p23, r_p26, r_p27, r_p32, r_p33, r_p34, r_ar1, r_ar9, r_ar10, r_ar11, r_ar12, r_ar13, r_ar14, r_ar15, r_ar16, r_ar17, r_ar18, r_ar19, r_ar74, r_ar75, r_ar76, n2_, n4_, n12_, n24_, n28_, n50_, n54_, n76_, n80_, n102_, n128_, n154_, n180_, n206_, n232_, n258_, n284_, n310_, n336_, n362_, n380_, n680_, r_get0, r_get1, r_get2, r_get3, r_get4, r_get8, r_get9, r_get10, r_get11, r_get12, r_get13, r_put0, r_put1, r_put2, r_put3, r_put4, r_put5, r_put6, r_put7, r_put8, r_put9, r_put10, r_put11, r_more10, r_more12, r_more13, r_more14, r_more15, r_more16, r_more17, r_more18, r_more19, r_more20, r_p30, r_p31, r_qaa, r_maa, r_qp, r_mp, r_qar, r_mar, x1, x2, hB, bI_f, bI_t, ck, c, g2, decide_true, Bool.false_or, Bool.false_and, Bool.true_and, Bool.or_true, bI_or1]
      · simp (maxSteps := 1000000) (disch := first | assumption | omega) only [x_rf, x_m, lt_bv_r, lt_bi_r, lt_bl_r, ↓r_ck, r_get, r_put, r_more, rM_h, rM_f, rM_x, rM_wf, rM_wx, rM_wh, lt_iN, lt_b1_0, lt_b1_1, x_if1, x_eq1, x_10, x_01, x_11, x_00, ↓reduceIte, r_nz, r_ar1L0, r_ar1L1, lt_n0_, lt_n1_, upd_s, upd_o, u2_eq, u2_n1, u2_n2, r_p1, r_p5, r_p6, r_p7, r_p9, r_p10, r_p11, r_p13, r_p19, r_p23, r_p26, r_p27, r_p32, r_p33, r_p34, r_ar1, r_ar9, r_ar10, r_ar11, r_ar12, r_ar13, r_ar14, r_ar15, r_ar16, r_ar17, r_ar18, r_ar19, r_ar74, r_ar75, r_ar76, n2_, n4_, n12_, n24_, n28_, n50_, n54_, n76_, n80_, n102_, n128_, n154_, n180_, n206_, n232_, n258_, n284_, n310_, n336_, n362_, n380_, n680_, r_get0, r_get1, r_get2, r_get3, r_get4, r_get8, r_get9, r_get10, r_get11, r_get12, r_get13, r_put0, r_put1, r_put2, r_put3, r_put4, r_put5, r_put6, r_put7, r_put8, r_put9, r_put10, r_put11, r_more10, r_more12, r_more13, r_more14, r_more15, r_more16, r_more17, r_more18, r_more19, r_more20, r_p30, r_p31, r_qaa, r_maa, r_qp, r_mp, r_qar, r_mar, x1, x2, hB, bI_f, bI_t, ck, c, g2, decide_true, Bool.true_or, Bool.or_true, bI_or1]
      · simp (maxSteps := 1000000) (disch := first | assumption | omega) only [x_rf, x_m, lt_bv_r, lt_bi_r, lt_bl_r, ↓r_ck, r_get, r_put, r_more, rM_h, rM_f, rM_x, rM_wf, rM_wx, rM_wh, lt_iN, lt_b1_0, lt_b1_1, x_if1, x_eq1, x_10, x_01, x_11, x_00, ↓reduceIte, r_nz, r_ar1L0, r_ar1L1, lt_n0_, lt_n1_, upd_s, upd_o, u2_eq, u2_n1, u2_n2, r_p1, r_p5, r_p6, r_p7, r_p9, r_p10, r_p11, r_p13, r_p19, r_p23, r_p26, r_p27, r_p32, r_p33, r_p34, r_ar1, r_ar9, r_ar10, r_ar11, r_ar12, r_ar13, r_ar14, r_ar15, r_ar16, r_ar17, r_ar18, r_ar19, r_ar74, r_ar75, r_ar76, n2_, n4_, n12_, n24_, n28_, n50_, n54_, n76_, n80_, n102_, n128_, n154_, n180_, n206_, n232_, n258_, n284_, n310_, n336_, n362_, n380_, n680_, r_get0, r_get1, r_get2, r_get3, r_get4, r_get8, r_get9, r_get10, r_get11, r_get12, r_get13, r_put0, r_put1, r_put2, r_put3, r_put4, r_put5, r_put6, r_put7, r_put8, r_put9, r_put10, r_put11, r_more10, r_more12, r_more13, r_more14, r_more15, r_more16, r_more17, r_more18, r_more19, r_more20, r_p30, r_p31, r_qaa, r_maa, r_qp, r_mp, r_qar, r_mar, x1, x2, hB, bI_f, bI_t, ck, c, g2, decide_true, Bool.true_or, Bool.or_true, bI_or1]
    · have ck : (nI (K (m - (n + 1))) = nI key) = False := eq_false (fun e => c ((lt_iE (by have := hf.1; omega) (by omega)).mp e))
      cases hB : B (m - (n + 1)) <;> cases mk
      · simp (maxSteps := 1000000) (disch := first | assumption | omega) only [x_rf, x_m, lt_bv_r, lt_bi_r, lt_bl_r, ↓r_ck, r_get, r_put, r_more, rM_h, rM_f, rM_x, rM_wf, rM_wx, rM_wh, lt_iN, lt_b1_0, lt_b1_1, x_if1, x_eq1, x_10, x_01, x_11, x_00, ↓reduceIte, r_nz, r_ar1L0, r_ar1L1, lt_n0_, lt_n1_, upd_s, upd_o, u2_eq, u2_n1, u2_n2, r_p1, r_p5, r_p6, r_p7, r_p9, r_p10, r_p11, r_p13, r_p19, r_p23, r_p26, r_p27, r_p32, r_p33, r_p34, r_ar1, r_ar9, r_ar10, r_ar11, r_ar12, r_ar13, r_ar14, r_ar15, r_ar16, r_ar17, r_ar18, r_ar19, r_ar74, r_ar75, r_ar76, n2_, n4_, n12_, n24_, n28_, n50_, n54_, n76_, n80_, n102_, n128_, n154_, n180_, n206_, n232_, n258_, n284_, n310_, n336_, n362_, n380_, n680_, r_get0, r_get1, r_get2, r_get3, r_get4, r_get8, r_get9, r_get10, r_get11, r_get12, r_get13, r_put0, r_put1, r_put2, r_put3, r_put4, r_put5, r_put6, r_put7, r_put8, r_put9, r_put10, r_put11, r_more10, r_more12, r_more13, r_more14, r_more15, r_more16, r_more17, r_more18, r_more19, r_more20, r_p30, r_p31, r_qaa, r_maa, r_qp, r_mp, r_qar, r_mar, x1, x2, hB, bI_f, bI_t, ck, c, g2, decide_false, Bool.false_or, Bool.and_false, Bool.or_false, bI_or0]
      · simp (maxSteps := 1000000) (disch := first | assumption | omega) only [x_rf, x_m, lt_bv_r, lt_bi_r, lt_bl_r, ↓r_ck, r_get, r_put, r_more, rM_h, rM_f, rM_x, rM_wf, rM_wx, rM_wh, lt_iN, lt_b1_0, lt_b1_1, x_if1, x_eq1, x_10, x_01, x_11, x_00, ↓reduceIte, r_nz, r_ar1L0, r_ar1L1, lt_n0_, lt_n1_, upd_s, upd_o, u2_eq, u2_n1, u2_n2, r_p1, r_p5, r_p6, r_p7, r_p9, r_p10, r_p11, r_p13, r_p19, r_p23, r_p26, r_p27, r_p32, r_p33, r_p34, r_ar1, r_ar9, r_ar10, r_ar11, r_ar12, r_ar13, r_ar14, r_ar15, r_ar16, r_ar17, r_ar18, r_ar19, r_ar74, r_ar75, r_ar76, n2_, n4_, n12_, n24_, n28_, n50_, n54_, n76_, n80_, n102_, n128_, n154_, n180_, n206_, n232_, n258_, n284_, n310_, n336_, n362_, n380_, n680_, r_get0, r_get1, r_get2, r_get3, r_get4, r_get8, r_get9, r_get10, r_get11, r_get12, r_get13, r_put0, r_put1, r_put2, r_put3, r_put4, r_put5, r_put6, r_put7, r_put8, r_put9, r_put10, r_put11, r_more10, r_more12, r_more13, r_more14, r_more15, r_more16, r_more17, r_more18, r_more19, r_more20, r_p30, r_p31, r_qaa, r_maa, r_qp, r_mp, r_qar, r_mar, x1, x2, hB, bI_f, bI_t, ck, c, g2, decide_false, Bool.false_or, Bool.and_false, Bool.or_false, bI_or0]
      · simp (maxSteps := 1000000) (disch := first | assumption | omega) only [x_rf, x_m, lt_bv_r, lt_bi_r, lt_bl_r, ↓r_ck, r_get, r_put, r_more, rM_h, rM_f, rM_x, rM_wf, rM_wx, rM_wh, lt_iN, lt_b1_0, lt_b1_1, x_if1, x_eq1, x_10, x_01, x_11, x_00, ↓reduceIte, r_nz, r_ar1L0, r_ar1L1, lt_n0_, lt_n1_, upd_s, upd_o, u2_eq, u2_n1, u2_n2, r_p1, r_p5, r_p6, r_p7, r_p9, r_p10, r_p11, r_p13, r_p19, r_p23, r_p26, r_p27, r_p32, r_p33, r_p34, r_ar1, r_ar9, r_ar10, r_ar11, r_ar12, r_ar13, r_ar14, r_ar15, r_ar16, r_ar17, r_ar18, r_ar19, r_ar74, r_ar75, r_ar76, n2_, n4_, n12_, n24_, n28_, n50_, n54_, n76_, n80_, n102_, n128_, n154_, n180_, n206_, n232_, n258_, n284_, n310_, n336_, n362_, n380_, n680_, r_get0, r_get1, r_get2, r_get3, r_get4, r_get8, r_get9, r_get10, r_get11, r_get12, r_get13, r_put0, r_put1, r_put2, r_put3, r_put4, r_put5, r_put6, r_put7, r_put8, r_put9, r_put10, r_put11, r_more10, r_more12, r_more13, r_more14, r_more15, r_more16, r_more17, r_more18, r_more19, r_more20, r_p30, r_p31, r_qaa, r_maa, r_qp, r_mp, r_qar, r_mar, x1, x2, hB, bI_f, bI_t, ck, c, g2, decide_false, Bool.true_or, Bool.or_false, bI_or0]
      · simp (maxSteps := 1000000) (disch := first | assumption | omega) only [x_rf, x_m, lt_bv_r, lt_bi_r, lt_bl_r, ↓r_ck, r_get, r_put, r_more, rM_h, rM_f, rM_x, rM_wf, rM_wx, rM_wh, lt_iN, lt_b1_0, lt_b1_1, x_if1, x_eq1, x_10, x_01, x_11, x_00, ↓reduceIte, r_nz, r_ar1L0, r_ar1L1, lt_n0_, lt_n1_, upd_s, upd_o, u2_eq, u2_n1, u2_n2, r_p1, r_p5, r_p6, r_p7, r_p9, r_p10, r_p11, r_p13, r_p19, r_p23, r_p26, r_p27, r_p32, r_p33, r_p34, r_ar1, r_ar9, r_ar10, r_ar11, r_ar12, r_ar13, r_ar14, r_ar15, r_ar16, r_ar17, r_ar18, r_ar19, r_ar74, r_ar75, r_ar76, n2_, n4_, n12_, n24_, n28_, n50_, n54_, n76_, n80_, n102_, n128_, n154_, n180_, n206_, n232_, n258_, n284_, n310_, n336_, n362_, n380_, n680_, r_get0, r_get1, r_get2, r_get3, r_get4, r_get8, r_get9, r_get10, r_get11, r_get12, r_get13, r_put0, r_put1, r_put2, r_put3, r_put4, r_put5, r_put6, r_put7, r_put8, r_put9, r_put10, r_put11, r_more10, r_more12, r_more13, r_more14, r_more15, r_more16, r_more17, r_more18, r_more19, r_more20, r_p30, r_p31, r_qaa, r_maa, r_qp, r_mp, r_qar, r_mar, x1, x2, hB, bI_f, bI_t, ck, c, g2, decide_false, Bool.true_or, Bool.or_false, bI_or0]
/-- steps(): from a queue to the one behind it -/
theorem r_steps (d : Nat) (h : RA M o) {wh dep : Nat} (hwh : wh < 2) (hdep : 2 * dep + wh + 2 < 26) (hk : key < 26) (hroom : X 75 wh = nI room) (hr0 : 0 < room) (hr6 : room ≤ 6) (hm : m ≤ room) (hQ : QF X (2 * dep + wh) m K B) :
    ∃ X', XK (2 * dep + wh + 2) X X' ∧ QF X' (2 * dep + wh + 2) (qStp mk room key (m, K, B)).2.1 (qStp mk room key (m, K, B)).2.2.1 (qStp mk room key (m, K, B)).2.2.2 ∧ (qStp mk room key (m, K, B)).2.1 ≤ room ∧
      f_X11_steps (d + 3) (rM M o H V X) o (nI wh) (nI dep) (nI key) (bI mk) = some (.inl (some (.int (bI (qStp mk room key (m, K, B)).1))), rM M o H V X') := by
  obtain ⟨q1, q2, q3⟩ := hQ
  have ei : (2 : Int32) * nI dep + nI wh = nI (2 * dep + wh) := by
    rw [show (2 : Int32) * nI dep = nI (2 * dep) from (lt_iM (j := 2) (k := dep))]
    exact lt_iA (j := 2 * dep) (k := wh)
  have ei2 : nI (2 * dep + wh) + 2 = nI (2 * dep + wh + 2) := lt_iA (j := 2 * dep + wh) (k := 2)
  obtain ⟨X1, a1, a2, a3, a4⟩ := r_steps_28 (M := M) (o := o) (H := H) (V := V) (X0 := X) (K := K) (B := B) (mk := mk) (wh := nI wh) d h (q := 2 * dep + wh) (by omega) q2 hk q3 m X false (Nat.le_refl _) XK.refl rfl (fun i hi => by omega) (by rw [Nat.sub_self]; rfl)
  have hq3 : 2 * dep + wh + 2 < 26 := hdep
  have hF1 : ∀ i, i < m → K i < 26 ∧ X1 (21 + (2 * dep + wh + 2)) i = nI (K i) ∧ X1 (48 + (2 * dep + wh + 2)) i = bI (qMk mk key K B i) := fun i hi => ⟨(q3 i hi).1, a3 i hi⟩
  have hnlt : ¬ nI m < nI m := by rw [nI_ltP (by omega) (by omega)]; omega
  have x75 : X1 75 = X 75 := a1.1 75 (by omega) (by omega) (by omega)
  have x74 : X1 74 = X 74 := a2
  have e28 : f_X11_steps (d + 3) (rM M o H V X) o (nI wh) (nI dep) (nI key) (bI mk) = f_X11_steps_28 (d + 3) (rM M o H V X1) o (nI wh) (nI key) (bI mk) (nI (2 * dep + wh)) (nI (2 * dep + wh + 2)) (nI m) (bI (qHitQ K key m)) (nI m) := by
    rw [Nat.sub_self] at a4
    have a4' : f_X11_steps_28 (d + 3) (rM M o H V X) o (nI wh) (nI key) (bI mk) (nI (2 * dep + wh)) (nI (2 * dep + wh + 2)) (nI m) 0 0 = _ := a4
    have hd26 : 2 * dep + wh < 26 := by omega
    rw [e_X11_steps]
    simp (maxSteps := 1000000) (disch := first | assumption | omega) only [x_rf, x_m, lt_bv_r, lt_bi_r, lt_bl_r, ↓r_ck, r_get, r_put, r_more, rM_h, rM_f, rM_x, rM_wf, rM_wx, rM_wh, lt_iN, lt_b1_0, lt_b1_1, x_if1, x_eq1, x_10, x_01, x_11, x_00, ↓reduceIte, r_nz, r_ar1L0, r_ar1L1, lt_n0_, lt_n1_, upd_s, upd_o, u2_eq, u2_n1, u2_n2, r_p1, r_p5, r_p6, r_p7, r_p9, r_p10, r_p11, r_p13, r_p19, r_p23, r_p26, r_p27, r_p32, r_p33, r_p34, r_ar1, r_ar9, r_ar10, r_ar11, r_ar12, r_ar13, r_ar14, r_ar15, r_ar16, r_ar17, r_ar18, r_ar19, r_ar74, r_ar75, r_ar76, n2_, n4_, n12_, n24_, n28_, n50_, n54_, n76_, n80_, n102_, n128_, n154_, n180_, n206_, n232_, n258_, n284_, n310_, n336_, n362_, n380_, n680_, r_get0, r_get1, r_get2, r_get3, r_get4, r_get8, r_get9, r_get10, r_get11, r_get12, r_get13, r_put0, r_put1, r_put2, r_put3, r_put4, r_put5, r_put6, r_put7, r_put8, r_put9, r_put10, r_put11, r_more10, r_more12, r_more13, r_more14, r_more15, r_more16, r_more17, r_more18, r_more19, r_more20, ei, ei2, q1, a4']
  rw [e28, e_X11_steps_28, if_neg hnlt]
  unfold qStp
  dsimp only
  cases hh : qHitQ K key m
  · rw [if_neg (show ¬ (false = true) by decide)]
    have hw2 : wh < 2 := hwh
    by_cases c : m = room
    · subst c
      rw [if_pos (show m = m from rfl)]
      have hsp : (qSpin m m K (qMk mk key K B)).2 0 = false := qSpin_ok m K _ (fun i h1 h2 => by omega) hr0
      -- the place behind is told its length at the end
      obtain ⟨X2, b1, b2, b3⟩ := r_steps_148 (M := M) (o := o) (H := H) (V := V) (key := key) (hitv := false) (d + 1) h hq3 hr0 hk m X1 K (qMk mk key K B) ⟨q2, hF1⟩ hsp
      refine ⟨X2, a1.trans b1, b2, Nat.le_refl _, ?_⟩
      simp (maxSteps := 1000000) (disch := first | assumption | omega) only [x_rf, x_m, lt_bv_r, lt_bi_r, lt_bl_r, ↓r_ck, r_get, r_put, r_more, rM_h, rM_f, rM_x, rM_wf, rM_wx, rM_wh, lt_iN, lt_b1_0, lt_b1_1, x_if1, x_eq1, x_10, x_01, x_11, x_00, ↓reduceIte, r_nz, r_ar1L0, r_ar1L1, lt_n0_, lt_n1_, upd_s, upd_o, u2_eq, u2_n1, u2_n2, r_p1, r_p5, r_p6, r_p7, r_p9, r_p10, r_p11, r_p13, r_p19, r_p23, r_p26, r_p27, r_p32, r_p33, r_p34, r_ar1, r_ar9, r_ar10, r_ar11, r_ar12, r_ar13, r_ar14, r_ar15, r_ar16, r_ar17, r_ar18, r_ar19, r_ar74, r_ar75, r_ar76, n2_, n4_, n12_, n24_, n28_, n50_, n54_, n76_, n80_, n102_, n128_, n154_, n180_, n206_, n232_, n258_, n284_, n310_, n336_, n362_, n380_, n680_, r_get0, r_get1, r_get2, r_get3, r_get4, r_get8, r_get9, r_get10, r_get11, r_get12, r_get13, r_put0, r_put1, r_put2, r_put3, r_put4, r_put5, r_put6, r_put7, r_put8, r_put9, r_put10, r_put11, r_more10, r_more12, r_more13, r_more14, r_more15, r_more16, r_more17, r_more18, r_more19, r_more20, x75, hroom, bI_f]
      exact b3
    · rw [if_neg c]
      have c' : ¬ nI m = nI room := fun e => c ((lt_iE (by omega) (by omega)).mp e)
      have hm6 : m < 6 := by omega
      have hs : nI m + 1 = nI (m + 1) := lt_iA (j := m) (k := 1)
      refine ⟨u2 (u2 (u2 X1 (21 + (2 * dep + wh + 2)) m (nI key)) (48 + (2 * dep + wh + 2)) m 0) 74 (2 * dep + wh + 2) (nI (m + 1)), a1.trans (((XK.wq hq3).trans (XK.wm hq3)).trans (XK.w74 hq3)), ⟨u2_eq, (show m + 1 ≤ 6 by omega), fun i hi => ?_⟩, (show m + 1 ≤ room by omega), ?_⟩
      · have hi' : i < m + 1 := hi
        show (if i = m then key else K i) < 26 ∧ _ = nI (if i = m then key else K i) ∧ _ = bI (if i = m then false else qMk mk key K B i)
        have n74 : 21 + (2 * dep + wh + 2) ≠ 74 := by omega
        have n74' : 48 + (2 * dep + wh + 2) ≠ 74 := by omega
        have n48 : 21 + (2 * dep + wh + 2) ≠ 48 + (2 * dep + wh + 2) := by omega
        have n21 : 48 + (2 * dep + wh + 2) ≠ 21 + (2 * dep + wh + 2) := by omega
        by_cases e : i = m
        · rw [if_pos e, if_pos e, e]
          exact ⟨hk, by rw [u2_n1 n74, u2_n1 n48, u2_eq], by rw [u2_n1 n74', u2_eq]; rfl⟩
        · rw [if_neg e, if_neg e]
          have hf := hF1 i (by omega)
          exact ⟨hf.1, by rw [u2_n1 n74, u2_n1 n48, u2_n2 e]; exact hf.2.1, by rw [u2_n1 n74', u2_n2 e, u2_n1 n21]; exact hf.2.2⟩
      · simp (maxSteps := 1000000) (disch := first | assumption | omega) only [x_rf, x_m, lt_bv_r, lt_bi_r, lt_bl_r, ↓r_ck, r_get, r_put, r_more, rM_h, rM_f, rM_x, rM_wf, rM_wx, rM_wh, lt_iN, lt_b1_0, lt_b1_1, x_if1, x_eq1, x_10, x_01, x_11, x_00, ↓reduceIte, r_nz, r_ar1L0, r_ar1L1, lt_n0_, lt_n1_, upd_s, upd_o, u2_eq, u2_n1, u2_n2, r_p1, r_p5, r_p6, r_p7, r_p9, r_p10, r_p11, r_p13, r_p19, r_p23, r_p26, r_p27, r_p32, r_p33, r_p34, r_ar1, r_ar9, r_ar10, r_ar11, r_ar12, r_ar13, r_ar14, r_ar15, r_ar16, r_ar17, r_ar18, r_ar19, r_ar74, r_ar75, r_ar76, n2_, n4_, n12_, n24_, n28_, n50_, n54_, n76_, n80_, n102_, n128_, n154_, n180_, n206_, n232_, n258_, n284_, n310_, n336_, n362_, n380_, n680_, r_get0, r_get1, r_get2, r_get3, r_get4, r_get8, r_get9, r_get10, r_get11, r_get12, r_get13, r_put0, r_put1, r_put2, r_put3, r_put4, r_put5, r_put6, r_put7, r_put8, r_put9, r_put10, r_put11, r_more10, r_more12, r_more13, r_more14, r_more15, r_more16, r_more17, r_more18, r_more19, r_more20, x75, hroom, c', bI_f, r_p30, r_p31, r_qaa, r_maa, r_qp, r_mp, r_qar, r_mar, hs]
  · rw [if_pos (show true = true from rfl)]
    refine ⟨u2 X1 74 (2 * dep + wh + 2) (nI m), a1.trans (XK.w74 hq3), ⟨u2_eq, q2, fun i hi => ?_⟩, hm, ?_⟩
    · rw [u2_n1 (by omega), u2_n1 (by omega)]
      exact hF1 i hi
    · simp (maxSteps := 1000000) (disch := first | assumption | omega) only [x_rf, x_m, lt_bv_r, lt_bi_r, lt_bl_r, ↓r_ck, r_get, r_put, r_more, rM_h, rM_f, rM_x, rM_wf, rM_wx, rM_wh, lt_iN, lt_b1_0, lt_b1_1, x_if1, x_eq1, x_10, x_01, x_11, x_00, ↓reduceIte, r_nz, r_ar1L0, r_ar1L1, lt_n0_, lt_n1_, upd_s, upd_o, u2_eq, u2_n1, u2_n2, r_p1, r_p5, r_p6, r_p7, r_p9, r_p10, r_p11, r_p13, r_p19, r_p23, r_p26, r_p27, r_p32, r_p33, r_p34, r_ar1, r_ar9, r_ar10, r_ar11, r_ar12, r_ar13, r_ar14, r_ar15, r_ar16, r_ar17, r_ar18, r_ar19, r_ar74, r_ar75, r_ar76, n2_, n4_, n12_, n24_, n28_, n50_, n54_, n76_, n80_, n102_, n128_, n154_, n180_, n206_, n232_, n258_, n284_, n310_, n336_, n362_, n380_, n680_, r_get0, r_get1, r_get2, r_get3, r_get4, r_get8, r_get9, r_get10, r_get11, r_get12, r_get13, r_put0, r_put1, r_put2, r_put3, r_put4, r_put5, r_put6, r_put7, r_put8, r_put9, r_put10, r_put11, r_more10, r_more12, r_more13, r_more14, r_more15, r_more16, r_more17, r_more18, r_more19, r_more20, bI_t]
end Sh
