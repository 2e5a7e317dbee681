/-! THE REFERENCE, methods of one unit: tallies, who can go, who is ahead, the first -/
/-- of the requests from f to t (t left out): how many ask a key, and the latest of them -/
def cntTo (kf : Nat → Nat) (k f : Nat) : Nat → Nat
  | 0 => 0
  | t + 1 => if f ≤ t ∧ kf t = k then cntTo kf k f t + 1 else cntTo kf k f t
def lastTo (kf : Nat → Nat) (k f : Nat) : Nat → Option Nat
  | 0 => none
  | t + 1 => if f ≤ t ∧ kf t = k then some t else lastTo kf k f t
theorem cntTo_le {kf : Nat → Nat} {k f : Nat} : ∀ t, cntTo kf k f t ≤ t
  | 0 => Nat.le_refl _
  | t + 1 => by
    have := cntTo_le (kf := kf) (k := k) (f := f) t
    unfold cntTo
    split <;> omega
theorem cntTo_0 {kf : Nat → Nat} {k f : Nat} : ∀ t, t ≤ f → cntTo kf k f t = 0
  | 0, _ => rfl
  | t + 1, h => by
    unfold cntTo
    rw [if_neg (by omega)]
    exact cntTo_0 t (by omega)
theorem lastTo_0 {kf : Nat → Nat} {k f : Nat} : ∀ t, t ≤ f → lastTo kf k f t = none
  | 0, _ => rfl
  | t + 1, h => by
    unfold lastTo
    rw [if_neg (by omega)]
    exact lastTo_0 t (by omega)
theorem lastTo_lt {kf : Nat → Nat} {k f i : Nat} : ∀ t, lastTo kf k f t = some i → i < t ∧ f ≤ i ∧ kf i = k
  | 0, h => by cases h
  | t + 1, h => by
    unfold lastTo at h
    split at h
    · rename_i hc
      cases h
      exact ⟨by omega, hc.1, hc.2⟩
    · have := lastTo_lt t h
      exact ⟨by omega, this.2⟩
/-- the keys of the row -/
def RK (H : Nat → Int32) (kf : Nat → Nat) (n : Nat) : Prop := ∀ i, i < n → kf i < 26 ∧ H (80 + i) = nI (kf i)
section Ri
variable {M : LM} {o j k u w : Nat} {H : Nat → Int32} {V X : Nat → Nat → Int32} {U : Nat → Int32} {v : Int32} {kf : Nat → Nat}
theorem r_tallies_2 (d : Nat) (h : RA M o) (hu : u < 18) : ∀ (n : Nat) (X : Nat → Nat → Int32), n ≤ 26 → (∀ k, k < 26 - n → X 12 k = 0 ∧ X 13 k = -1) →
    ∃ X', XS X X' ∧ (∀ t, t ≠ 12 → t ≠ 13 → X' t = X t) ∧ (∀ k, k < 26 → X' 12 k = 0 ∧ X' 13 k = -1) ∧ f_X11_tallies_2 (d + 2) (rM M o H (u1 V u U) X) o (nI u) (nI (26 - n)) = f_X11_tallies_36 (d + 2) (rM M o H (u1 V u U) X') o (U 9)
  | 0, X, _, hX => by
    refine ⟨X, XS.refl, (fun _ _ _ => rfl), hX, ?_⟩
    rw [e_X11_tallies_2, if_neg lt_end]
    simp (maxSteps := 1000000) (disch := first | assumption | omega) only [x_rf, x_m, lt_bv_r, lt_bi_r, lt_bl_r, ↓r_ck, r_get, r_put, r_more, rM_h, rM_f, rM_x, rM_wf, rM_wx, rM_wh, lt_iN, lt_b1_0, lt_b1_1, x_if1, x_eq1, x_10, x_01, x_11, x_00, ↓reduceIte, r_nz, r_ar1L0, r_ar1L1, lt_n0_, lt_n1_, upd_s, upd_o, u2_eq, u2_n1, u2_n2, r_p1, r_p5, r_p6, r_p7, r_p9, r_p10, r_p11, r_p13, r_p19, r_p23, r_p26, r_p27, r_p32, r_p33, r_p34, r_ar1, r_ar9, r_ar10, r_ar11, r_ar12, r_ar13, r_ar14, r_ar15, r_ar16, r_ar17, r_ar18, r_ar19, r_ar74, r_ar75, r_ar76, n2_, n4_, n12_, n24_, n28_, n50_, n54_, n76_, n80_, n102_, n128_, n154_, n180_, n206_, n232_, n258_, n284_, n310_, n336_, n362_, n380_, n680_, r_get0, r_get1, r_get2, r_get3, r_get4, r_get8, r_get9, r_get10, r_get11, r_get12, r_get13, r_put0, r_put1, r_put2, r_put3, r_put4, r_put5, r_put6, r_put7, r_put8, r_put9, r_put10, r_put11, r_more10, r_more12, r_more13, r_more14, r_more15, r_more16, r_more17, r_more18, r_more19, r_more20]
  | n + 1, X, hn, hX => by
    obtain ⟨g1, g2, -⟩ := lt_suc hn
    have hk : 25 - n < 26 := by omega
    obtain ⟨X', i1, i0, i2, i3⟩ := r_tallies_2 d h hu n (u2 (u2 X 12 (25 - n) 0) 13 (25 - n) (-1)) (by omega) (fun k hk => by
      by_cases e : k = 25 - n
      · subst e
        refine ⟨?_, ?_⟩ <;> simp (disch := omega) only [u2_eq, u2_n1, u2_n2]
      · have := hX k (by omega)
        simp (disch := omega) only [u2_eq, u2_n1, u2_n2]
        exact this)
    refine ⟨X', ((XS.wr (by omega) (by omega)).trans (XS.wr (by omega) (by omega))).trans i1, fun t h1 h2 => (i0 t h1 h2).trans (by simp (disch := omega) only [u2_eq, u2_n1, u2_n2]), i2, ?_⟩
    rw [g1, e_X11_tallies_2, if_pos (lt_suc2 hn)]
    simp (maxSteps := 1000000) (disch := first | assumption | omega) only [x_rf, x_m, lt_bv_r, lt_bi_r, lt_bl_r, ↓r_ck, r_get, r_put, r_more, rM_h, rM_f, rM_x, rM_wf, rM_wx, rM_wh, lt_iN, lt_b1_0, lt_b1_1, x_if1, x_eq1, x_10, x_01, x_11, x_00, ↓reduceIte, r_nz, r_ar1L0, r_ar1L1, lt_n0_, lt_n1_, upd_s, upd_o, u2_eq, u2_n1, u2_n2, r_p1, r_p5, r_p6, r_p7, r_p9, r_p10, r_p11, r_p13, r_p19, r_p23, r_p26, r_p27, r_p32, r_p33, r_p34, r_ar1, r_ar9, r_ar10, r_ar11, r_ar12, r_ar13, r_ar14, r_ar15, r_ar16, r_ar17, r_ar18, r_ar19, r_ar74, r_ar75, r_ar76, n2_, n4_, n12_, n24_, n28_, n50_, n54_, n76_, n80_, n102_, n128_, n154_, n180_, n206_, n232_, n258_, n284_, n310_, n336_, n362_, n380_, n680_, r_get0, r_get1, r_get2, r_get3, r_get4, r_get8, r_get9, r_get10, r_get11, r_get12, r_get13, r_put0, r_put1, r_put2, r_put3, r_put4, r_put5, r_put6, r_put7, r_put8, r_put9, r_put10, r_put11, r_more10, r_more12, r_more13, r_more14, r_more15, r_more16, r_more17, r_more18, r_more19, r_more20, g2, i3]
theorem r_tallies_36 (d : Nat) (h : RA M o) {f t : Nat} (hr : RK H kf t) (ht : t ≤ 300) : ∀ (n i : Nat) (X : Nat → Nat → Int32), i + n = t → f ≤ i → X 0 4 = nI t → (∀ k, k < 26 → X 12 k = nI (cntTo kf k f i) ∧ X 13 k = oI (lastTo kf k f i)) →
    ∃ X', XS X X' ∧ (∀ t, t ≠ 12 → t ≠ 13 → X' t = X t) ∧ (∀ k, k < 26 → X' 12 k = nI (cntTo kf k f t) ∧ X' 13 k = oI (lastTo kf k f t)) ∧ f_X11_tallies_36 (d + 1) (rM M o H (u1 V u U) X) o (nI i) = some (.inl none, rM M o H (u1 V u U) X')
  | 0, i, X, hi, hf, h4, hX => by
    have e : i = t := by omega
    subst e
    refine ⟨X, XS.refl, (fun _ _ _ => rfl), hX, ?_⟩
    rw [e_X11_tallies_36]
    simp (maxSteps := 1000000) (disch := first | assumption | omega) only [x_rf, x_m, lt_bv_r, lt_bi_r, lt_bl_r, ↓r_ck, r_get, r_put, r_more, rM_h, rM_f, rM_x, rM_wf, rM_wx, rM_wh, lt_iN, lt_b1_0, lt_b1_1, x_if1, x_eq1, x_10, x_01, x_11, x_00, ↓reduceIte, r_nz, r_ar1L0, r_ar1L1, lt_n0_, lt_n1_, upd_s, upd_o, u2_eq, u2_n1, u2_n2, r_p1, r_p5, r_p6, r_p7, r_p9, r_p10, r_p11, r_p13, r_p19, r_p23, r_p26, r_p27, r_p32, r_p33, r_p34, r_ar1, r_ar9, r_ar10, r_ar11, r_ar12, r_ar13, r_ar14, r_ar15, r_ar16, r_ar17, r_ar18, r_ar19, r_ar74, r_ar75, r_ar76, n2_, n4_, n12_, n24_, n28_, n50_, n54_, n76_, n80_, n102_, n128_, n154_, n180_, n206_, n232_, n258_, n284_, n310_, n336_, n362_, n380_, n680_, r_get0, r_get1, r_get2, r_get3, r_get4, r_get8, r_get9, r_get10, r_get11, r_get12, r_get13, r_put0, r_put1, r_put2, r_put3, r_put4, r_put5, r_put6, r_put7, r_put8, r_put9, r_put10, r_put11, r_more10, r_more12, r_more13, r_more14, r_more15, r_more16, r_more17, r_more18, r_more19, r_more20, h4]
    rw [if_neg (by rw [nI_ltP (by omega) (by omega)]; omega)]
  | n + 1, i, X, hi, hf, h4, hX => by
    obtain ⟨hk, hH⟩ := hr i (by omega)
    have h80 : 80 + i < 12896 := by omega
    have h80' : 80 + i < 980 := by omega
    have hs : nI i + 1 = nI (i + 1) := lt_iA (j := i) (k := 1)
    have hs2 : ∀ c, nI c + 1 = nI (c + 1) := fun c => lt_iA (j := c) (k := 1)
    obtain ⟨X', i1, i0, i2, i3⟩ := r_tallies_36 (f := f) d h hr ht n (i + 1) (u2 (u2 X 12 (kf i) (X 12 (kf i) + 1)) 13 (kf i) (nI i)) (by omega) (by omega) (by simp (disch := omega) only [u2_eq, u2_n1, u2_n2]; exact h4) (fun k hk' => by
      have a1 := (hX k hk').1
      have a2 := (hX k hk').2
      unfold cntTo lastTo
      by_cases e : k = kf i
      · subst e
        rw [if_pos ⟨hf, rfl⟩, if_pos ⟨hf, rfl⟩]
        simp (disch := omega) only [u2_eq, u2_n1, u2_n2]
        exact ⟨by rw [a1, hs2], rfl⟩
      · rw [if_neg (fun q => e q.2.symm), if_neg (fun q => e q.2.symm)]
        simp (disch := omega) only [u2_eq, u2_n1, u2_n2]
        exact ⟨a1, a2⟩)
    refine ⟨X', ((XS.wr (by omega) (by omega)).trans (XS.wr (by omega) (by omega))).trans i1, fun t h1 h2 => (i0 t h1 h2).trans (by simp (disch := omega) only [u2_eq, u2_n1, u2_n2]), i2, ?_⟩
    have hlt : nI i < nI t := by rw [nI_ltP (by omega) (by omega)]; omega
    rw [e_X11_tallies_36]
    simp (maxSteps := 1000000) (disch := first | assumption | omega) only [x_rf, x_m, lt_bv_r, lt_bi_r, lt_bl_r, ↓r_ck, r_get, r_put, r_more, rM_h, rM_f, rM_x, rM_wf, rM_wx, rM_wh, lt_iN, lt_b1_0, lt_b1_1, x_if1, x_eq1, x_10, x_01, x_11, x_00, ↓reduceIte, r_nz, r_ar1L0, r_ar1L1, lt_n0_, lt_n1_, upd_s, upd_o, u2_eq, u2_n1, u2_n2, r_p1, r_p5, r_p6, r_p7, r_p9, r_p10, r_p11, r_p13, r_p19, r_p23, r_p26, r_p27, r_p32, r_p33, r_p34, r_ar1, r_ar9, r_ar10, r_ar11, r_ar12, r_ar13, r_ar14, r_ar15, r_ar16, r_ar17, r_ar18, r_ar19, r_ar74, r_ar75, r_ar76, n2_, n4_, n12_, n24_, n28_, n50_, n54_, n76_, n80_, n102_, n128_, n154_, n180_, n206_, n232_, n258_, n284_, n310_, n336_, n362_, n380_, n680_, r_get0, r_get1, r_get2, r_get3, r_get4, r_get8, r_get9, r_get10, r_get11, r_get12, r_get13, r_put0, r_put1, r_put2, r_put3, r_put4, r_put5, r_put6, r_put7, r_put8, r_put9, r_put10, r_put11, r_more10, r_more12, r_more13, r_more14, r_more15, r_more16, r_more17, r_more18, r_more19, r_more20, h4, hlt, hH, hs, i3]
theorem r_tallies (d : Nat) (h : RA M o) (hu : u < 18) {f t : Nat} (hr : RK H kf t) (ht : t ≤ 300) (hf : f ≤ t) (h9 : U 9 = nI f) (h4 : X 0 4 = nI t) :
    ∃ X', XS X X' ∧ (∀ t, t ≠ 12 → t ≠ 13 → X' t = X t) ∧ (∀ k, k < 26 → X' 12 k = nI (cntTo kf k f t) ∧ X' 13 k = oI (lastTo kf k f t)) ∧ f_X11_tallies (d + 2) (rM M o H (u1 V u U) X) o (nI u) = some (.inl none, rM M o H (u1 V u U) X') := by
  obtain ⟨X1, a1, a0, a2, a3⟩ := r_tallies_2 (H := H) (V := V) (U := U) d h hu 26 X (Nat.le_refl _) (fun k hk => by omega)
  obtain ⟨X2, b1, b0, b2, b3⟩ := r_tallies_36 (V := V) (U := U) (u := u) (d + 1) h hr ht (t - f) f X1 (by omega) (Nat.le_refl _) ((a1.2 4 (by omega)).trans h4) (fun k hk => by
    rw [cntTo_0 f (Nat.le_refl _), lastTo_0 f (Nat.le_refl _)]
    exact a2 k hk)
  refine ⟨X2, a1.trans b1, fun t h1 h2 => (b0 t h1 h2).trans (a0 t h1 h2), b2, ?_⟩
  rw [e_X11_tallies]
  refine a3.trans ?_
  rw [h9]
  exact b3
/-- the latest request ahead of one that asks a key -/
theorem r_latestFor_5 (d : Nat) (h : RA M o) (hu : u < 18) {f t : Nat} (hr : RK H kf t) (ht : t ≤ 300) (hf : f ≤ t) (h9 : U 9 = nI f) (hk : k < 26) : ∀ (i : Nat), i ≤ t → f ≤ i → f_X11_latestFor_5 (d + 2) (rM M o H (u1 V u U) X) o (nI u) (nI k) (nI i + -1) = some (.inl (some (.int (oI (lastTo kf k f i)))), rM M o H (u1 V u U) X) := by
  intro i
  induction i with
  | zero =>
    intro _ h0
    have e : f = 0 := by omega
    subst e
    have hl : nI 0 + -1 < nI 0 := by decide
    rw [e_X11_latestFor_5]
    simp (maxSteps := 1000000) (disch := first | assumption | omega) only [x_rf, x_m, lt_bv_r, lt_bi_r, lt_bl_r, ↓r_ck, r_get, r_put, r_more, rM_h, rM_f, rM_x, rM_wf, rM_wx, rM_wh, lt_iN, lt_b1_0, lt_b1_1, x_if1, x_eq1, x_10, x_01, x_11, x_00, ↓reduceIte, r_nz, r_ar1L0, r_ar1L1, lt_n0_, lt_n1_, upd_s, upd_o, u2_eq, u2_n1, u2_n2, r_p1, r_p5, r_p6, r_p7, r_p9, r_p10, r_p11, r_p13, r_p19, r_p23, r_p26, r_p27, r_p32, r_p33, r_p34, r_ar1, r_ar9, r_ar10, r_ar11, r_ar12, r_ar13, r_ar14, r_ar15, r_ar16, r_ar17, r_ar18, r_ar19, r_ar74, r_ar75, r_ar76, n2_, n4_, n12_, n24_, n28_, n50_, n54_, n76_, n80_, n102_, n128_, n154_, n180_, n206_, n232_, n258_, n284_, n310_, n336_, n362_, n380_, n680_, r_get0, r_get1, r_get2, r_get3, r_get4, r_get8, r_get9, r_get10, r_get11, r_get12, r_get13, r_put0, r_put1, r_put2, r_put3, r_put4, r_put5, r_put6, r_put7, r_put8, r_put9, r_put10, r_put11, r_more10, r_more12, r_more13, r_more14, r_more15, r_more16, r_more17, r_more18, r_more19, r_more20, r_get, h9]
    simp only [hl, if_true]
    rfl
  | succ i ih =>
    intro hi hfi
    have e0 : nI (i + 1) + -1 = nI i := by
      rw [show nI (i + 1) = nI i + 1 from (lt_iA (j := i) (k := 1)).symm, Int32.add_assoc, show (1 : Int32) + -1 = 0 by decide, Int32.add_zero]
    rw [e0, e_X11_latestFor_5]
    by_cases hl : i < f
    · have e : f = i + 1 := by omega
      subst e
      have hl' : nI i < nI (i + 1) := by rw [nI_ltP (by omega) (by omega)]; omega
      rw [lastTo_0 (i + 1) (Nat.le_refl _)]
      simp (maxSteps := 1000000) (disch := first | assumption | omega) only [x_rf, x_m, lt_bv_r, lt_bi_r, lt_bl_r, ↓r_ck, r_get, r_put, r_more, rM_h, rM_f, rM_x, rM_wf, rM_wx, rM_wh, lt_iN, lt_b1_0, lt_b1_1, x_if1, x_eq1, x_10, x_01, x_11, x_00, ↓reduceIte, r_nz, r_ar1L0, r_ar1L1, lt_n0_, lt_n1_, upd_s, upd_o, u2_eq, u2_n1, u2_n2, r_p1, r_p5, r_p6, r_p7, r_p9, r_p10, r_p11, r_p13, r_p19, r_p23, r_p26, r_p27, r_p32, r_p33, r_p34, r_ar1, r_ar9, r_ar10, r_ar11, r_ar12, r_ar13, r_ar14, r_ar15, r_ar16, r_ar17, r_ar18, r_ar19, r_ar74, r_ar75, r_ar76, n2_, n4_, n12_, n24_, n28_, n50_, n54_, n76_, n80_, n102_, n128_, n154_, n180_, n206_, n232_, n258_, n284_, n310_, n336_, n362_, n380_, n680_, r_get0, r_get1, r_get2, r_get3, r_get4, r_get8, r_get9, r_get10, r_get11, r_get12, r_get13, r_put0, r_put1, r_put2, r_put3, r_put4, r_put5, r_put6, r_put7, r_put8, r_put9, r_put10, r_put11, r_more10, r_more12, r_more13, r_more14, r_more15, r_more16, r_more17, r_more18, r_more19, r_more20, h9, hl']
      rfl
    · obtain ⟨hk', hH⟩ := hr i (by omega)
      have hl' : (nI i < nI f) = False := by rw [nI_ltP (by omega) (by omega)]; exact eq_false hl
      have h80 : 80 + i < 12896 := by omega
      have h80' : 80 + i < 980 := by omega
      simp (maxSteps := 1000000) (disch := first | assumption | omega) only [x_rf, x_m, lt_bv_r, lt_bi_r, lt_bl_r, ↓r_ck, r_get, r_put, r_more, rM_h, rM_f, rM_x, rM_wf, rM_wx, rM_wh, lt_iN, lt_b1_0, lt_b1_1, x_if1, x_eq1, x_10, x_01, x_11, x_00, ↓reduceIte, r_nz, r_ar1L0, r_ar1L1, lt_n0_, lt_n1_, upd_s, upd_o, u2_eq, u2_n1, u2_n2, r_p1, r_p5, r_p6, r_p7, r_p9, r_p10, r_p11, r_p13, r_p19, r_p23, r_p26, r_p27, r_p32, r_p33, r_p34, r_ar1, r_ar9, r_ar10, r_ar11, r_ar12, r_ar13, r_ar14, r_ar15, r_ar16, r_ar17, r_ar18, r_ar19, r_ar74, r_ar75, r_ar76, n2_, n4_, n12_, n24_, n28_, n50_, n54_, n76_, n80_, n102_, n128_, n154_, n180_, n206_, n232_, n258_, n284_, n310_, n336_, n362_, n380_, n680_, r_get0, r_get1, r_get2, r_get3, r_get4, r_get8, r_get9, r_get10, r_get11, r_get12, r_get13, r_put0, r_put1, r_put2, r_put3, r_put4, r_put5, r_put6, r_put7, r_put8, r_put9, r_put10, r_put11, r_more10, r_more12, r_more13, r_more14, r_more15, r_more16, r_more17, r_more18, r_more19, r_more20, h9, hl', hH, nI_inj]
      unfold lastTo
      by_cases e : kf i = k
      · rw [if_pos e, if_pos ⟨by omega, e⟩]
        rfl
      · rw [if_neg e, if_neg (fun q => e q.2)]
        exact ih (by omega) (by omega)
theorem r_latestFor (d : Nat) (h : RA M o) (hu : u < 18) {f t : Nat} (hr : RK H kf t) (ht : t ≤ 300) (hf : f ≤ t) (h9 : U 9 = nI f) (hk : k < 26) : f_X11_latestFor (d + 2) (rM M o H (u1 V u U) X) o (nI u) (nI k) (nI t) = some (.inl (some (.int (oI (lastTo kf k f t)))), rM M o H (u1 V u U) X) := by
  rw [e_X11_latestFor, show nI t - 1 = nI t + -1 from Int32.sub_eq_add_neg ..]
  exact r_latestFor_5 d h hu hr ht hf h9 hk t (Nat.le_refl _) hf
end Ri
