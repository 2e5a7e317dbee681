/-! THE REFERENCE: run() -/
section Sf
variable {M M' : LM} {o i j k u w y f t n x m a len c : Nat} {H : Nat → Int32} {V V' X X' : Nat → Nat → Int32} {T S : Nat → Int32} {v b e r a' e' many : Int32} {z : Option (LO × LM)} {kf fs : Nat → Nat} {p : Nat → Nat}
theorem qKX_f (hp : PA p) (hc : c ≤ 6) (hj : j ≠ 3) : qKX p c X S 0 j = X 0 j := by
  have w3 : ∀ {q c : Nat}, q < 6 → qKeep X q c S 0 j = X 0 j := fun {q c} hq => by
    unfold qKeep
    rw [u2_n2 hj]
    unfold u1
    rw [if_neg (by omega)]
  unfold qKX
  split
  · exact w3 (hp.1 0 (by omega))
  · exact w3 (hp.1 c (by omega))
theorem qKX_t (hp : PA p) (hc : c ≤ 6) (ht0 : t ≠ 0) (ht : t < 3 ∨ 8 < t) : qKX p c X S t = X t := by
  have w3 : ∀ {q c : Nat}, q < 6 → qKeep X q c S t = X t := fun {q c} hq => by
    unfold qKeep
    rw [u2_n1 ht0]
    unfold u1
    rw [if_neg (by omega)]
  unfold qKX
  split
  · exact w3 (hp.1 0 (by omega))
  · exact w3 (hp.1 c (by omega))
theorem qKX_3 (hp : PA p) (hc : c ≤ 6) : qKX p c X S 0 3 = nI (if c = 6 then 6 else c + 1) := by
  unfold qKX qKeep
  split <;> exact u2_eq
theorem qBX_f (hp : PA p) (hc : c ≤ 6) (h3 : j ≠ 3) (h4 : j ≠ 4) (h18 : j ≠ 18) : qBX p c X H V 0 j = X 0 j := by
  unfold qBX
  rw [u2_n2 h4, u2_n2 h18, qKX_f hp hc h3]
theorem qBX_t (hp : PA p) (hc : c ≤ 6) (ht0 : t ≠ 0) (ht : t < 3 ∨ 8 < t) : qBX p c X H V t = X t := by
  unfold qBX
  rw [u2_n1 ht0, u2_n1 ht0, qKX_t hp hc ht0 ht]
theorem qBX_4 : qBX p c X H V 0 4 = H 0 := u2_eq
theorem qBX_18 : qBX p c X H V 0 18 = 0 := (u2_n2 (by omega)).trans u2_eq
theorem qBX_3 (hp : PA p) (hc : c ≤ 6) : qBX p c X H V 0 3 = nI (if c = 6 then 6 else c + 1) := (u2_n2 (by omega)).trans ((u2_n2 (by omega)).trans (qKX_3 hp hc))
theorem r_run (d : Nat) (h : RA M o) (hp : PA p) (hc : c ≤ 6) (hX : X 0 3 = nI c) (hS : RS H kf n V fs) (hl : len ≤ 200) (h20 : X 0 20 = nI len) {f : Nat} (q : qReads (X 16) len f = some (many, a, e)) :
    (e ≠ -1 → f_X11_run (d + 18) (rG M o p H V X) o = some (.inl (some (.int 0)), rG M o p H V (u2 (pX (qX0 X) (nI a) e) 0 0 1))) ∧
    (e = -1 → (300 : Int32) < nI n + many → f_X11_run (d + 18) (rG M o p H V X) o = some (.inl (some (.int 0)), rG M o p H V (u2 (pX (qX0 X) (nI a) e) 0 0 2))) ∧
    (e = -1 → ¬ (300 : Int32) < nI n + many → ∀ (g a' : Nat) (s' : QS), qDoes (X 16) len fs g 3 (0, H, kf, n, V) = some (a', s') →
      ∃ X', XE (qBX p c (pX (qX0 X) (nI a) (-1)) H V) X' ∧ X' 0 4 = nI s'.2.2.1 ∧ RS s'.1 s'.2.1 s'.2.2.1 s'.2.2.2 fs ∧ f_X11_run (d + 18) (rG M o p H V X) o = some (.inl (some (.int many)), rG M o (qKp p c) s'.1 s'.2.2.2 X')) := by
  have hr0 := h.rp (g := (gP o p))
  have hr := h.rp (g := (gP o (qKp p c)))
  have h0 := hS.2.2.2.1
  have q' : qReads ((qX0 X) 16) len f = some (many, a, e) := by
    rw [show (qX0 X) 16 = X 16 from u2_n1 (by omega)]
    exact q
  have er := r_reads (M := rP M o (gP o p)) (o := o) (H := H) (V := V) (X := qX0 X) (d + 1) hr0 hl ((u2_n2 (by omega)).trans h20) q'
  unfold qX0 at er
  have l300 : ∀ x : Int32, (300 : Int32) < x ↔ (300 : Int32) < x := fun _ => Iff.rfl
  unfold rG
  rw [e_X11_run]
  refine ⟨fun he => ?_, fun he hl3 => ?_, fun he hl3 g a' s' hd => ?_⟩
  · simp (maxSteps := 1000000) (disch := first | assumption | omega) only [x_rf, x_m, lt_bv_r, lt_bi_r, lt_bl_r, ↓r_ck, r_get, r_put, r_more, rM_h, rM_f, rM_x, rM_wf, rM_wx, rM_wh, lt_iN, lt_b1_0, lt_b1_1, x_if1, x_eq1, x_10, x_01, x_11, x_00, ↓reduceIte, r_nz, r_ar1L0, r_ar1L1, lt_n0_, lt_n1_, upd_s, upd_o, u2_eq, u2_n1, u2_n2, r_p1, r_p5, r_p6, r_p7, r_p9, r_p10, r_p11, r_p13, r_p19, r_p23, r_p26, r_p27, r_p32, r_p33, r_p34, r_ar1, r_ar9, r_ar10, r_ar11, r_ar12, r_ar13, r_ar14, r_ar15, r_ar16, r_ar17, r_ar18, r_ar19, r_ar74, r_ar75, r_ar76, n2_, n4_, n12_, n24_, n28_, n50_, n54_, n76_, n80_, n102_, n128_, n154_, n180_, n206_, n232_, n258_, n284_, n310_, n336_, n362_, n380_, n680_, r_get0, r_get1, r_get2, r_get3, r_get4, r_get8, r_get9, r_get10, r_get11, r_get12, r_get13, r_put0, r_put1, r_put2, r_put3, r_put4, r_put5, r_put6, r_put7, r_put8, r_put9, r_put10, r_put11, r_more10, r_more12, r_more13, r_more14, r_more15, r_more16, r_more17, r_more18, r_more19, r_more20, r_in, r_no, r_no0, r_no1, bI_t, bI_f, bI0, Bool.not_true, Bool.not_false, er, p22, he, e_X11_run_24]
    rfl
  · subst he
    simp (maxSteps := 1000000) (disch := first | assumption | omega) only [x_rf, x_m, lt_bv_r, lt_bi_r, lt_bl_r, ↓r_ck, r_get, r_put, r_more, rM_h, rM_f, rM_x, rM_wf, rM_wx, rM_wh, lt_iN, lt_b1_0, lt_b1_1, x_if1, x_eq1, x_10, x_01, x_11, x_00, ↓reduceIte, r_nz, r_ar1L0, r_ar1L1, lt_n0_, lt_n1_, upd_s, upd_o, u2_eq, u2_n1, u2_n2, r_p1, r_p5, r_p6, r_p7, r_p9, r_p10, r_p11, r_p13, r_p19, r_p23, r_p26, r_p27, r_p32, r_p33, r_p34, r_ar1, r_ar9, r_ar10, r_ar11, r_ar12, r_ar13, r_ar14, r_ar15, r_ar16, r_ar17, r_ar18, r_ar19, r_ar74, r_ar75, r_ar76, n2_, n4_, n12_, n24_, n28_, n50_, n54_, n76_, n80_, n102_, n128_, n154_, n180_, n206_, n232_, n258_, n284_, n310_, n336_, n362_, n380_, n680_, r_get0, r_get1, r_get2, r_get3, r_get4, r_get8, r_get9, r_get10, r_get11, r_get12, r_get13, r_put0, r_put1, r_put2, r_put3, r_put4, r_put5, r_put6, r_put7, r_put8, r_put9, r_put10, r_put11, r_more10, r_more12, r_more13, r_more14, r_more15, r_more16, r_more17, r_more18, r_more19, r_more20, r_in, r_no, r_no0, r_no1, bI_t, bI_f, bI0, Bool.not_true, Bool.not_false, er, p22, e_X11_run_24, h0, hl3]
    rfl
  · subst he
    have eb := r_begins (M := M) (o := o) (H := H) (V := V) (X := pX (qX0 X) (nI a) (-1)) (d + 15) h hp hc (by unfold pX; rw [u2_n2 (by omega), u2_n2 (by omega)]; exact (u2_n2 (by omega)).trans hX)
    unfold rG at eb
    have t16 : (u2 (qBX p c (pX (qX0 X) (nI a) (-1)) H V) 0 21 0) 16 = X 16 := by
      rw [u2_n1 (by omega), qBX_t hp hc (by omega) (by omega), p16]
      exact u2_n1 (by omega)
    obtain ⟨X', x1, x2, x3, x4, x5, x6⟩ := r_does (M := rP M o (gP o (qKp p c))) (o := o) (fs := fs) (T := X 16) hr hl g 3 (d + 2) (u2 (qBX p c (pX (qX0 X) (nI a) (-1)) H V) 0 21 0) 0 (H, kf, n, V) a' s' (by omega) t16
      (by rw [u2_n2 (by omega), qBX_f hp hc (by omega) (by omega) (by omega), p20]; exact (u2_n2 (by omega)).trans h20) u2_eq (by rw [u2_n2 (by omega), qBX_f hp hc (by omega) (by omega) (by omega), p22]) (by rw [u2_n2 (by omega), qBX_4, h0]) hS hd
    have x6' : f_X11_does (d + 17) (rM (rP M o (gP o (qKp p c))) o H V (u2 (qBX p c (pX (qX0 X) (nI a) (-1)) H V) 0 21 0)) o = some (.inl none, rM (rP M o (gP o (qKp p c))) o s'.1 s'.2.2.2 X') := by
      rw [e_X11_does]
      rw [show d + 2 + 3 + 12 = (d + 16) + 1 by omega, e_X11_does_0] at x6
      exact x6
    refine ⟨X', XE.w1.trans x1, x3, x5, ?_⟩
    unfold qX0 at eb x6'
    simp (maxSteps := 1000000) (disch := first | assumption | omega) only [x_rf, x_m, lt_bv_r, lt_bi_r, lt_bl_r, ↓r_ck, r_get, r_put, r_more, rM_h, rM_f, rM_x, rM_wf, rM_wx, rM_wh, lt_iN, lt_b1_0, lt_b1_1, x_if1, x_eq1, x_10, x_01, x_11, x_00, ↓reduceIte, r_nz, r_ar1L0, r_ar1L1, lt_n0_, lt_n1_, upd_s, upd_o, u2_eq, u2_n1, u2_n2, r_p1, r_p5, r_p6, r_p7, r_p9, r_p10, r_p11, r_p13, r_p19, r_p23, r_p26, r_p27, r_p32, r_p33, r_p34, r_ar1, r_ar9, r_ar10, r_ar11, r_ar12, r_ar13, r_ar14, r_ar15, r_ar16, r_ar17, r_ar18, r_ar19, r_ar74, r_ar75, r_ar76, n2_, n4_, n12_, n24_, n28_, n50_, n54_, n76_, n80_, n102_, n128_, n154_, n180_, n206_, n232_, n258_, n284_, n310_, n336_, n362_, n380_, n680_, r_get0, r_get1, r_get2, r_get3, r_get4, r_get8, r_get9, r_get10, r_get11, r_get12, r_get13, r_put0, r_put1, r_put2, r_put3, r_put4, r_put5, r_put6, r_put7, r_put8, r_put9, r_put10, r_put11, r_more10, r_more12, r_more13, r_more14, r_more15, r_more16, r_more17, r_more18, r_more19, r_more20, r_in, r_no, r_no0, r_no1, bI_t, bI_f, bI0, Bool.not_true, Bool.not_false, er, p22, e_X11_run_24, h0, hl3, eb, x6']
end Sf
