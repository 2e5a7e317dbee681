/-! THE REFERENCE: draw, clearRow, setCache, setShares, flush, drop, replay, dropTold, undo -/
section Ru
variable {M M' : LM} {o i j k u w y f t c q n x : Nat} {H : Nat → Int32} {V V' X : Nat → Nat → Int32} {S : Nat → Int32} {p : Nat → Nat} {g : Nat → Option Nat} {v a b e : Int32} {z : Option (LO × LM)} {kf fs : Nat → Nat}
def qDok (many keys writes : Int32) : Bool := qIn many 1 50 && qIn keys 1 26 && qIn writes 0 100
theorem r_draw (d : Nat) (h : RA M o) (hp : PA p) (hc : c ≤ 6) (hX : X 0 3 = nI c) (hS : RS H kf n V fs) {seed many keys writes : Int32} :
    (qDok many keys writes = false → f_X11_draw (d + 13) (rG M o p H V X) o seed many keys writes = some (.inl (some (.int 0)), rG M o p H V (qXe X 1))) ∧
    (qDok many keys writes = true → (300 : Int32) < nI n + many → f_X11_draw (d + 13) (rG M o p H V X) o seed many keys writes = some (.inl (some (.int 0)), rG M o p H V (qXe X 2))) ∧
    (∀ (m ky : Nat), m < 100 → 0 < ky → ky ≤ 26 → many = nI m → keys = nI ky → qDok many keys writes = true → n + m ≤ 300 →
      ∀ (x' : Int32) (H' : Nat → Int32) (kf' : Nat → Nat) (n' : Nat) (V' : Nat → Nat → Int32) (z' : Int32), qDrawN fs keys writes m seed H kf n V 0 = some (x', H', kf', n', V', z') →
      ∃ X', XD (qBX p c (qX0 X) H V) X' ∧ X' 0 4 = nI n' ∧ RS H' kf' n' V' fs ∧ n' = n + m ∧ f_X11_draw (d + 13) (rG M o p H V X) o seed many keys writes = some (.inl (some (.int z')), rG M o (qKp p c) H' V' X')) := by
  have hr0 := h.rp (g := (gP o p))
  have hr := h.rp (g := (gP o (qKp p c)))
  have eb := r_begins (M := M) (o := o) (H := H) (V := V) (X := qX0 X) (d + 10) h hp hc (show qX0 X 0 3 = nI c from (u2_n2 (by omega)).trans hX)
  have h0 := hS.2.2.2.1
  have hn := hS.2.2.1
  unfold rG at eb ⊢
  have eb' := eb
  unfold qX0 at eb'
  have e42 : ∀ s : Bool, f_X11_draw_42 (d + 13) (rM (rP M o (gP o p)) o H V (u2 X 0 0 0)) o seed many keys writes (bI s) o = if s = true then (if (300 : Int32) < nI n + many then some (.inl (some (.int 0)), rM (rP M o (gP o p)) o H V (qXe X 2)) else f_X11_draw_93 (d + 13) (rM (rP M o (gP o (qKp p c))) o H V (u2 (qBX p c (qX0 X) H V) 0 25 seed)) o many keys writes 0 0) else some (.inl (some (.int 0)), rM (rP M o (gP o p)) o H V (qXe X 1)) := by
    intro s
    rw [e_X11_draw_42]
    cases s
    · simp (maxSteps := 1000000) (disch := first | assumption | omega) only [x_rf, x_m, lt_bv_r, lt_bi_r, lt_bl_r, ↓r_ck, r_get, r_put, r_more, rM_h, rM_f, rM_x, rM_wf, rM_wx, rM_wh, lt_iN, lt_b1_0, lt_b1_1, x_if1, x_eq1, x_10, x_01, x_11, x_00, ↓reduceIte, r_nz, r_ar1L0, r_ar1L1, lt_n0_, lt_n1_, upd_s, upd_o, u2_eq, u2_n1, u2_n2, r_p1, r_p5, r_p6, r_p7, r_p9, r_p10, r_p11, r_p13, r_p19, r_p23, r_p26, r_p27, r_p32, r_p33, r_p34, r_ar1, r_ar9, r_ar10, r_ar11, r_ar12, r_ar13, r_ar14, r_ar15, r_ar16, r_ar17, r_ar18, r_ar19, r_ar74, r_ar75, r_ar76, n2_, n4_, n12_, n24_, n28_, n50_, n54_, n76_, n80_, n102_, n128_, n154_, n180_, n206_, n232_, n258_, n284_, n310_, n336_, n362_, n380_, n680_, r_get0, r_get1, r_get2, r_get3, r_get4, r_get8, r_get9, r_get10, r_get11, r_get12, r_get13, r_put0, r_put1, r_put2, r_put3, r_put4, r_put5, r_put6, r_put7, r_put8, r_put9, r_put10, r_put11, r_more10, r_more12, r_more13, r_more14, r_more15, r_more16, r_more17, r_more18, r_more19, r_more20, r_in, r_no, r_no0, r_no1, bI_t, bI_f, bI0, Bool.not_true, Bool.not_false]
      rfl
    · by_cases hl : (300 : Int32) < nI n + many
      · simp (maxSteps := 1000000) (disch := first | assumption | omega) only [x_rf, x_m, lt_bv_r, lt_bi_r, lt_bl_r, ↓r_ck, r_get, r_put, r_more, rM_h, rM_f, rM_x, rM_wf, rM_wx, rM_wh, lt_iN, lt_b1_0, lt_b1_1, x_if1, x_eq1, x_10, x_01, x_11, x_00, ↓reduceIte, r_nz, r_ar1L0, r_ar1L1, lt_n0_, lt_n1_, upd_s, upd_o, u2_eq, u2_n1, u2_n2, r_p1, r_p5, r_p6, r_p7, r_p9, r_p10, r_p11, r_p13, r_p19, r_p23, r_p26, r_p27, r_p32, r_p33, r_p34, r_ar1, r_ar9, r_ar10, r_ar11, r_ar12, r_ar13, r_ar14, r_ar15, r_ar16, r_ar17, r_ar18, r_ar19, r_ar74, r_ar75, r_ar76, n2_, n4_, n12_, n24_, n28_, n50_, n54_, n76_, n80_, n102_, n128_, n154_, n180_, n206_, n232_, n258_, n284_, n310_, n336_, n362_, n380_, n680_, r_get0, r_get1, r_get2, r_get3, r_get4, r_get8, r_get9, r_get10, r_get11, r_get12, r_get13, r_put0, r_put1, r_put2, r_put3, r_put4, r_put5, r_put6, r_put7, r_put8, r_put9, r_put10, r_put11, r_more10, r_more12, r_more13, r_more14, r_more15, r_more16, r_more17, r_more18, r_more19, r_more20, r_in, r_no, r_no0, r_no1, bI_t, bI_f, bI0, Bool.not_true, Bool.not_false, h0, hl]
        rfl
      · simp (maxSteps := 1000000) (disch := first | assumption | omega) only [x_rf, x_m, lt_bv_r, lt_bi_r, lt_bl_r, ↓r_ck, r_get, r_put, r_more, rM_h, rM_f, rM_x, rM_wf, rM_wx, rM_wh, lt_iN, lt_b1_0, lt_b1_1, x_if1, x_eq1, x_10, x_01, x_11, x_00, ↓reduceIte, r_nz, r_ar1L0, r_ar1L1, lt_n0_, lt_n1_, upd_s, upd_o, u2_eq, u2_n1, u2_n2, r_p1, r_p5, r_p6, r_p7, r_p9, r_p10, r_p11, r_p13, r_p19, r_p23, r_p26, r_p27, r_p32, r_p33, r_p34, r_ar1, r_ar9, r_ar10, r_ar11, r_ar12, r_ar13, r_ar14, r_ar15, r_ar16, r_ar17, r_ar18, r_ar19, r_ar74, r_ar75, r_ar76, n2_, n4_, n12_, n24_, n28_, n50_, n54_, n76_, n80_, n102_, n128_, n154_, n180_, n206_, n232_, n258_, n284_, n310_, n336_, n362_, n380_, n680_, r_get0, r_get1, r_get2, r_get3, r_get4, r_get8, r_get9, r_get10, r_get11, r_get12, r_get13, r_put0, r_put1, r_put2, r_put3, r_put4, r_put5, r_put6, r_put7, r_put8, r_put9, r_put10, r_put11, r_more10, r_more12, r_more13, r_more14, r_more15, r_more16, r_more17, r_more18, r_more19, r_more20, r_in, r_no, r_no0, r_no1, bI_t, bI_f, bI0, Bool.not_true, Bool.not_false, h0, hl, eb']
        rfl
  have etop : f_X11_draw (d + 13) (rM (rP M o (gP o p)) o H V X) o seed many keys writes = f_X11_draw_42 (d + 13) (rM (rP M o (gP o p)) o H V (u2 X 0 0 0)) o seed many keys writes (bI (qDok many keys writes)) o := by
    have e0 : ∀ {M : LM} {s : Nat}, f_X11_draw_41 (d + 13) M o seed many keys writes s = f_X11_draw_42 (d + 13) M o seed many keys writes 0 s := fun {M s} => e_X11_draw_41 ..
    rw [e_X11_draw]
    unfold qDok
    simp (maxSteps := 1000000) (disch := first | assumption | omega) only [x_rf, x_m, lt_bv_r, lt_bi_r, lt_bl_r, ↓r_ck, r_get, r_put, r_more, rM_h, rM_f, rM_x, rM_wf, rM_wx, rM_wh, lt_iN, lt_b1_0, lt_b1_1, x_if1, x_eq1, x_10, x_01, x_11, x_00, ↓reduceIte, r_nz, r_ar1L0, r_ar1L1, lt_n0_, lt_n1_, upd_s, upd_o, u2_eq, u2_n1, u2_n2, r_p1, r_p5, r_p6, r_p7, r_p9, r_p10, r_p11, r_p13, r_p19, r_p23, r_p26, r_p27, r_p32, r_p33, r_p34, r_ar1, r_ar9, r_ar10, r_ar11, r_ar12, r_ar13, r_ar14, r_ar15, r_ar16, r_ar17, r_ar18, r_ar19, r_ar74, r_ar75, r_ar76, n2_, n4_, n12_, n24_, n28_, n50_, n54_, n76_, n80_, n102_, n128_, n154_, n180_, n206_, n232_, n258_, n284_, n310_, n336_, n362_, n380_, n680_, r_get0, r_get1, r_get2, r_get3, r_get4, r_get8, r_get9, r_get10, r_get11, r_get12, r_get13, r_put0, r_put1, r_put2, r_put3, r_put4, r_put5, r_put6, r_put7, r_put8, r_put9, r_put10, r_put11, r_more10, r_more12, r_more13, r_more14, r_more15, r_more16, r_more17, r_more18, r_more19, r_more20, r_in, r_no, r_no0, r_no1, bI_t, bI_f, bI0, Bool.not_true, Bool.not_false, e0]
    cases qIn many 1 50 <;> cases qIn keys 1 26 <;> cases qIn writes 0 100 <;> rfl
  rw [etop, e42]
  refine ⟨fun hq => ?_, fun hq hl => ?_, fun m ky hm hk0 hk e1 e2 hq hl => ?_⟩
  · rw [hq]; rfl
  · rw [if_pos hq, if_pos hl]
  · intro x' H' kf' n' V' z' e
    subst e1 e2
    have hl' : ¬ (300 : Int32) < nI n + nI m := by
      rw [lt_iA, show (300 : Int32) = nI 300 from rfl, nI_ltP (by omega) (by omega)]
      omega
    have hx4 : u2 (qBX p c (qX0 X) H V) 0 25 seed 0 4 = nI n := by
      rw [u2_n2 (by omega)]
      unfold qBX
      rw [u2_eq, h0]
    obtain ⟨X', a1, a2, a3, a4, a5⟩ := r_draw_93 (M := rP M o (gP o (qKp p c))) (o := o) (fs := fs) (d + 1) hr hk0 hk hm m seed H kf n V (u2 (qBX p c (qX0 X) H V) 0 25 seed) 0 (Nat.le_refl _) hl hS u2_eq hx4 x' H' kf' n' V' z' e
    refine ⟨X', XD.wr.trans a1, a2, a3, a4, ?_⟩
    rw [if_pos hq, if_neg hl']
    rw [Nat.sub_self] at a5
    exact a5
def qClear : Nat → (Nat → Nat → Int32) → (Nat → Nat → Int32)
  | 0, V => V
  | n + 1, V => qClear n (qEmptyC V (5 - n) 0)
theorem r_clear_30 (d : Nat) (h : RA M o) : ∀ (n : Nat) (V : Nat → Nat → Int32), n ≤ 6 → f_X11_clearRow_30 (d + 4) (rM M o H V X) o v (nI (6 - n)) = some (.inl (some (.int v)), rM M o H (qClear n V) X)
  | 0, V, _ => by
    rw [e_X11_clearRow_30, if_neg (by decide)]
    rfl
  | n + 1, V, hn => by
    have hc : 5 - n < 6 := by omega
    have g1 : nI (6 - (n + 1)) = nI (5 - n) := by congr 1; omega
    have g2 : nI (5 - n) + 1 = nI (6 - n) := by
      rw [show nI (5 - n) + 1 = nI (5 - n + 1) from lt_iA (j := 5 - n) (k := 1)]
      congr 1
      omega
    have g3 : nI (5 - n) < (6 : Int32) := (lt_iL (j := 5 - n) (k := 6) (by omega) (by omega)).mpr (by omega)
    have ih := r_clear_30 d h n (qEmptyC V (5 - n) 0) (by omega)
    rw [g1, e_X11_clearRow_30, if_pos g3]
    simp (maxSteps := 1000000) (disch := first | assumption | omega) only [x_rf, x_m, lt_bv_r, lt_bi_r, lt_bl_r, ↓r_ck, r_get, r_put, r_more, rM_h, rM_f, rM_x, rM_wf, rM_wx, rM_wh, lt_iN, lt_b1_0, lt_b1_1, x_if1, x_eq1, x_10, x_01, x_11, x_00, ↓reduceIte, r_nz, r_ar1L0, r_ar1L1, lt_n0_, lt_n1_, upd_s, upd_o, u2_eq, u2_n1, u2_n2, r_p1, r_p5, r_p6, r_p7, r_p9, r_p10, r_p11, r_p13, r_p19, r_p23, r_p26, r_p27, r_p32, r_p33, r_p34, r_ar1, r_ar9, r_ar10, r_ar11, r_ar12, r_ar13, r_ar14, r_ar15, r_ar16, r_ar17, r_ar18, r_ar19, r_ar74, r_ar75, r_ar76, n2_, n4_, n12_, n24_, n28_, n50_, n54_, n76_, n80_, n102_, n128_, n154_, n180_, n206_, n232_, n258_, n284_, n310_, n336_, n362_, n380_, n680_, r_get0, r_get1, r_get2, r_get3, r_get4, r_get8, r_get9, r_get10, r_get11, r_get12, r_get13, r_put0, r_put1, r_put2, r_put3, r_put4, r_put5, r_put6, r_put7, r_put8, r_put9, r_put10, r_put11, r_more10, r_more12, r_more13, r_more14, r_more15, r_more16, r_more17, r_more18, r_more19, r_more20, r_emptiesAll, g2]
    exact ih
theorem r_clearRow (d : Nat) (h : RA M o) (hp : PA p) (hc : c ≤ 6) (hX : X 0 3 = nI c) : f_X11_clearRow (d + 5) (rG M o p H V X) o = some (.inl (some (.int (H 0))), rG M o (qKp p c) (upd H 0 0) (qClear 6 V) (u2 (qBX p c (qX0 X) H V) 0 4 0)) := by
  have hr0 := h.rp (g := (gP o p))
  have hr := h.rp (g := (gP o (qKp p c)))
  have eb := r_begins (M := M) (o := o) (H := H) (V := V) (X := qX0 X) (d + 2) h hp hc (show qX0 X 0 3 = nI c from (u2_n2 (by omega)).trans hX)
  unfold rG at eb ⊢
  have eb' := eb
  unfold qX0 at eb'
  have e30 := r_clear_30 (M := rP M o (gP o (qKp p c))) (o := o) (H := upd H 0 0) (X := u2 (qBX p c (qX0 X) H V) 0 4 0) (v := H 0) (d + 1) hr 6 V (Nat.le_refl _)
  rw [e_X11_clearRow]
  simp (maxSteps := 1000000) (disch := first | assumption | omega) only [x_rf, x_m, lt_bv_r, lt_bi_r, lt_bl_r, ↓r_ck, r_get, r_put, r_more, rM_h, rM_f, rM_x, rM_wf, rM_wx, rM_wh, lt_iN, lt_b1_0, lt_b1_1, x_if1, x_eq1, x_10, x_01, x_11, x_00, ↓reduceIte, r_nz, r_ar1L0, r_ar1L1, lt_n0_, lt_n1_, upd_s, upd_o, u2_eq, u2_n1, u2_n2, r_p1, r_p5, r_p6, r_p7, r_p9, r_p10, r_p11, r_p13, r_p19, r_p23, r_p26, r_p27, r_p32, r_p33, r_p34, r_ar1, r_ar9, r_ar10, r_ar11, r_ar12, r_ar13, r_ar14, r_ar15, r_ar16, r_ar17, r_ar18, r_ar19, r_ar74, r_ar75, r_ar76, n2_, n4_, n12_, n24_, n28_, n50_, n54_, n76_, n80_, n102_, n128_, n154_, n180_, n206_, n232_, n258_, n284_, n310_, n336_, n362_, n380_, n680_, r_get0, r_get1, r_get2, r_get3, r_get4, r_get8, r_get9, r_get10, r_get11, r_get12, r_get13, r_put0, r_put1, r_put2, r_put3, r_put4, r_put5, r_put6, r_put7, r_put8, r_put9, r_put10, r_put11, r_more10, r_more12, r_more13, r_more14, r_more15, r_more16, r_more17, r_more18, r_more19, r_more20, eb']
  exact e30
theorem qIn_c {v : Int32} (hq : qIn v 0 5 = true) : ∃ k, k < 6 ∧ v = nI k := by
  obtain ⟨k, h1, h2⟩ := qIn_g (m := 5) (by omega) hq
  exact ⟨k, by omega, h2⟩
theorem r_countV (d : Nat) (h : RA M o) (hu : u < 18) (hw : w + 26 ≤ 662) : f_X11_countAll (d + 2) (rM M o H V X) o (nI u) (nI w) = some (.inl (some (.int (qCount (V u) w 26 0))), rM M o H V X) := by
  have := r_countAll2 (M := M) (o := o) (H := H) (V := V) (U := V u) (X := X) d h hu hw
  rw [u1_id] at this
  exact this
def qSCok (rule room lapse mode : Int32) : Bool := qIn rule 0 6 && qIn room 1 20 && qIn lapse 0 1000 && qIn mode 0 3
theorem r_setCache (d : Nat) (h : RA M o) (hp : PA p) (hc : c ≤ 6) (hX : X 0 3 = nI c) {cache rule room lapse mode : Int32} :
    f_X11_setCache (d + 5) (rG M o p H V X) o cache rule room lapse mode =
      if qIn cache 0 5 = true then (if qSCok rule room lapse mode = true then some (.inl (some (.int (qCount (V (lt_n cache)) 24 26 0))), rG M o (qKp p c) H (qEmptyC (qSetUp V (lt_n cache) rule room lapse mode) (lt_n cache) (H 0)) (qBX p c (qX0 X) H V))
        else some (.inl (some (.int 0)), rG M o p H V (qXe X 2))) else some (.inl (some (.int 0)), rG M o p H V (qXe X 1)) := by
  have hr0 := h.rp (g := (gP o p))
  have hr := h.rp (g := (gP o (qKp p c)))
  have eb := r_begins (M := M) (o := o) (H := H) (V := V) (X := qX0 X) (d + 2) h hp hc (show qX0 X 0 3 = nI c from (u2_n2 (by omega)).trans hX)
  unfold rG at eb ⊢
  rw [e_X11_setCache]
  cases hq : qIn cache 0 5
  · simp (maxSteps := 1000000) (disch := first | assumption | omega) only [x_rf, x_m, lt_bv_r, lt_bi_r, lt_bl_r, ↓r_ck, r_get, r_put, r_more, rM_h, rM_f, rM_x, rM_wf, rM_wx, rM_wh, lt_iN, lt_b1_0, lt_b1_1, x_if1, x_eq1, x_10, x_01, x_11, x_00, ↓reduceIte, r_nz, r_ar1L0, r_ar1L1, lt_n0_, lt_n1_, upd_s, upd_o, u2_eq, u2_n1, u2_n2, r_p1, r_p5, r_p6, r_p7, r_p9, r_p10, r_p11, r_p13, r_p19, r_p23, r_p26, r_p27, r_p32, r_p33, r_p34, r_ar1, r_ar9, r_ar10, r_ar11, r_ar12, r_ar13, r_ar14, r_ar15, r_ar16, r_ar17, r_ar18, r_ar19, r_ar74, r_ar75, r_ar76, n2_, n4_, n12_, n24_, n28_, n50_, n54_, n76_, n80_, n102_, n128_, n154_, n180_, n206_, n232_, n258_, n284_, n310_, n336_, n362_, n380_, n680_, r_get0, r_get1, r_get2, r_get3, r_get4, r_get8, r_get9, r_get10, r_get11, r_get12, r_get13, r_put0, r_put1, r_put2, r_put3, r_put4, r_put5, r_put6, r_put7, r_put8, r_put9, r_put10, r_put11, r_more10, r_more12, r_more13, r_more14, r_more15, r_more16, r_more17, r_more18, r_more19, r_more20, r_in, r_no, r_no0, r_no1, bI_t, bI_f, bI0, Bool.not_true, Bool.not_false, r_isNoCache, hq, Bool.false_eq_true]
  · obtain ⟨ch, hch, rfl⟩ := qIn_c hq
    rw [lt_iN (by omega)]
    have ec : f_X11_countAll (d + 4) (rM (rP M o (gP o (qKp p c))) o H V (qBX p c (qX0 X) H V)) o (nI ch) 24 = _ := r_countV (w := 24) (d + 2) hr (show ch < 18 by omega) (by omega)
    have es := r_setsUp (M := rP M o (gP o (qKp p c))) (o := o) (H := H) (V := V) (X := qBX p c (qX0 X) H V) (rule := rule) (room := room) (lapse := lapse) (mode := mode) d hr hch
    have e55 : f_X11_setCache_55 (d + 5) (rM (rP M o (gP o p)) o H V (qX0 X)) o (nI ch) rule room lapse mode o = some (.inl (some (.int 0)), rM (rP M o (gP o p)) o H V (qXe X 2)) := by
      rw [e_X11_setCache_55]
      simp (maxSteps := 1000000) (disch := first | assumption | omega) only [x_rf, x_m, lt_bv_r, lt_bi_r, lt_bl_r, ↓r_ck, r_get, r_put, r_more, rM_h, rM_f, rM_x, rM_wf, rM_wx, rM_wh, lt_iN, lt_b1_0, lt_b1_1, x_if1, x_eq1, x_10, x_01, x_11, x_00, ↓reduceIte, r_nz, r_ar1L0, r_ar1L1, lt_n0_, lt_n1_, upd_s, upd_o, u2_eq, u2_n1, u2_n2, r_p1, r_p5, r_p6, r_p7, r_p9, r_p10, r_p11, r_p13, r_p19, r_p23, r_p26, r_p27, r_p32, r_p33, r_p34, r_ar1, r_ar9, r_ar10, r_ar11, r_ar12, r_ar13, r_ar14, r_ar15, r_ar16, r_ar17, r_ar18, r_ar19, r_ar74, r_ar75, r_ar76, n2_, n4_, n12_, n24_, n28_, n50_, n54_, n76_, n80_, n102_, n128_, n154_, n180_, n206_, n232_, n258_, n284_, n310_, n336_, n362_, n380_, n680_, r_get0, r_get1, r_get2, r_get3, r_get4, r_get8, r_get9, r_get10, r_get11, r_get12, r_get13, r_put0, r_put1, r_put2, r_put3, r_put4, r_put5, r_put6, r_put7, r_put8, r_put9, r_put10, r_put11, r_more10, r_more12, r_more13, r_more14, r_more15, r_more16, r_more17, r_more18, r_more19, r_more20, r_in, r_no, r_no0, r_no1, bI_t, bI_f, bI0, Bool.not_true, Bool.not_false]
      rfl
    simp (maxSteps := 1000000) (disch := first | assumption | omega) only [x_rf, x_m, lt_bv_r, lt_bi_r, lt_bl_r, ↓r_ck, r_get, r_put, r_more, rM_h, rM_f, rM_x, rM_wf, rM_wx, rM_wh, lt_iN, lt_b1_0, lt_b1_1, x_if1, x_eq1, x_10, x_01, x_11, x_00, ↓reduceIte, r_nz, r_ar1L0, r_ar1L1, lt_n0_, lt_n1_, upd_s, upd_o, u2_eq, u2_n1, u2_n2, r_p1, r_p5, r_p6, r_p7, r_p9, r_p10, r_p11, r_p13, r_p19, r_p23, r_p26, r_p27, r_p32, r_p33, r_p34, r_ar1, r_ar9, r_ar10, r_ar11, r_ar12, r_ar13, r_ar14, r_ar15, r_ar16, r_ar17, r_ar18, r_ar19, r_ar74, r_ar75, r_ar76, n2_, n4_, n12_, n24_, n28_, n50_, n54_, n76_, n80_, n102_, n128_, n154_, n180_, n206_, n232_, n258_, n284_, n310_, n336_, n362_, n380_, n680_, r_get0, r_get1, r_get2, r_get3, r_get4, r_get8, r_get9, r_get10, r_get11, r_get12, r_get13, r_put0, r_put1, r_put2, r_put3, r_put4, r_put5, r_put6, r_put7, r_put8, r_put9, r_put10, r_put11, r_more10, r_more12, r_more13, r_more14, r_more15, r_more16, r_more17, r_more18, r_more19, r_more20, r_in, r_no, r_no0, r_no1, bI_t, bI_f, bI0, Bool.not_true, Bool.not_false, r_isNoCache, hq, e55, eb, ec, es]
    unfold qSCok
    cases qIn rule 0 6 <;> cases qIn room 1 20 <;> cases qIn lapse 0 1000 <;> cases qIn mode 0 3 <;> rfl
theorem r_flush_25 (d : Nat) (h : RA M o) (hu : u < 18) {W : Nat → Int32} : ∀ (n : Nat) (U : Nat → Int32), n ≤ 26 → (∀ w, U w = if 154 ≤ w ∧ w < 180 - n then 0 else W w) →
    f_X11_flush_25 (d + 2) (rM M o H (u1 V u U) X) o (nI u) v (nI (26 - n)) = some (.inl (some (.int v)), rM M o H (u1 V u (upd (fun w => if 154 ≤ w ∧ w < 180 then 0 else W w) 16 (W 16 + v))) X)
  | 0, U, _, hU => by
    rw [e_X11_flush_25, if_neg lt_end]
    rw [show U = (fun w => if 154 ≤ w ∧ w < 180 then 0 else W w) from funext hU]
    simp (maxSteps := 1000000) (disch := first | assumption | omega) only [x_rf, x_m, lt_bv_r, lt_bi_r, lt_bl_r, ↓r_ck, r_get, r_put, r_more, rM_h, rM_f, rM_x, rM_wf, rM_wx, rM_wh, lt_iN, lt_b1_0, lt_b1_1, x_if1, x_eq1, x_10, x_01, x_11, x_00, ↓reduceIte, r_nz, r_ar1L0, r_ar1L1, lt_n0_, lt_n1_, upd_s, upd_o, u2_eq, u2_n1, u2_n2, r_p1, r_p5, r_p6, r_p7, r_p9, r_p10, r_p11, r_p13, r_p19, r_p23, r_p26, r_p27, r_p32, r_p33, r_p34, r_ar1, r_ar9, r_ar10, r_ar11, r_ar12, r_ar13, r_ar14, r_ar15, r_ar16, r_ar17, r_ar18, r_ar19, r_ar74, r_ar75, r_ar76, n2_, n4_, n12_, n24_, n28_, n50_, n54_, n76_, n80_, n102_, n128_, n154_, n180_, n206_, n232_, n258_, n284_, n310_, n336_, n362_, n380_, n680_, r_get0, r_get1, r_get2, r_get3, r_get4, r_get8, r_get9, r_get10, r_get11, r_get12, r_get13, r_put0, r_put1, r_put2, r_put3, r_put4, r_put5, r_put6, r_put7, r_put8, r_put9, r_put10, r_put11, r_more10, r_more12, r_more13, r_more14, r_more15, r_more16, r_more17, r_more18, r_more19, r_more20]
    rfl
  | n + 1, U, hn, hU => by
    obtain ⟨g1, g2, -⟩ := lt_suc hn
    have ih := r_flush_25 d h hu (W := W) n (upd U (154 + (25 - n)) 0) (by omega) (fun w => by
      have := hU w
      unfold upd
      by_cases q : w = 154 + (25 - n)
      · rw [if_pos q, if_pos (by omega)]
      · rw [if_neg q, this]
        by_cases a : 154 ≤ w ∧ w < 180 - n
        · rw [if_pos a, if_pos (by omega)]
        · rw [if_neg a, if_neg (by omega)])
    rw [g1, e_X11_flush_25, if_pos (lt_suc2 hn)]
    simp (maxSteps := 1000000) (disch := first | assumption | omega) only [x_rf, x_m, lt_bv_r, lt_bi_r, lt_bl_r, ↓r_ck, r_get, r_put, r_more, rM_h, rM_f, rM_x, rM_wf, rM_wx, rM_wh, lt_iN, lt_b1_0, lt_b1_1, x_if1, x_eq1, x_10, x_01, x_11, x_00, ↓reduceIte, r_nz, r_ar1L0, r_ar1L1, lt_n0_, lt_n1_, upd_s, upd_o, u2_eq, u2_n1, u2_n2, r_p1, r_p5, r_p6, r_p7, r_p9, r_p10, r_p11, r_p13, r_p19, r_p23, r_p26, r_p27, r_p32, r_p33, r_p34, r_ar1, r_ar9, r_ar10, r_ar11, r_ar12, r_ar13, r_ar14, r_ar15, r_ar16, r_ar17, r_ar18, r_ar19, r_ar74, r_ar75, r_ar76, n2_, n4_, n12_, n24_, n28_, n50_, n54_, n76_, n80_, n102_, n128_, n154_, n180_, n206_, n232_, n258_, n284_, n310_, n336_, n362_, n380_, n680_, r_get0, r_get1, r_get2, r_get3, r_get4, r_get8, r_get9, r_get10, r_get11, r_get12, r_get13, r_put0, r_put1, r_put2, r_put3, r_put4, r_put5, r_put6, r_put7, r_put8, r_put9, r_put10, r_put11, r_more10, r_more12, r_more13, r_more14, r_more15, r_more16, r_more17, r_more18, r_more19, r_more20, g2]
    exact ih
def qFlush (U : Nat → Int32) : Nat → Int32 := upd (fun w => if 154 ≤ w ∧ w < 180 then 0 else U w) 16 (U 16 + qCount U 154 26 0)
theorem r_flush (d : Nat) (h : RA M o) (hp : PA p) (hc : c ≤ 6) (hX : X 0 3 = nI c) {cache : Int32} :
    f_X11_flush (d + 5) (rG M o p H V X) o cache = if qIn cache 0 5 = true then some (.inl (some (.int (qCount (V (lt_n cache)) 154 26 0))), rG M o (qKp p c) H (u1 V (lt_n cache) (qFlush (V (lt_n cache)))) (qBX p c (qX0 X) H V)) else some (.inl (some (.int 0)), rG M o p H V (qXe X 1)) := by
  have hr0 := h.rp (g := (gP o p))
  have hr := h.rp (g := (gP o (qKp p c)))
  have eb := r_begins (M := M) (o := o) (H := H) (V := V) (X := qX0 X) (d + 2) h hp hc (show qX0 X 0 3 = nI c from (u2_n2 (by omega)).trans hX)
  unfold rG at eb ⊢
  rw [e_X11_flush]
  cases hq : qIn cache 0 5
  · simp (maxSteps := 1000000) (disch := first | assumption | omega) only [x_rf, x_m, lt_bv_r, lt_bi_r, lt_bl_r, ↓r_ck, r_get, r_put, r_more, rM_h, rM_f, rM_x, rM_wf, rM_wx, rM_wh, lt_iN, lt_b1_0, lt_b1_1, x_if1, x_eq1, x_10, x_01, x_11, x_00, ↓reduceIte, r_nz, r_ar1L0, r_ar1L1, lt_n0_, lt_n1_, upd_s, upd_o, u2_eq, u2_n1, u2_n2, r_p1, r_p5, r_p6, r_p7, r_p9, r_p10, r_p11, r_p13, r_p19, r_p23, r_p26, r_p27, r_p32, r_p33, r_p34, r_ar1, r_ar9, r_ar10, r_ar11, r_ar12, r_ar13, r_ar14, r_ar15, r_ar16, r_ar17, r_ar18, r_ar19, r_ar74, r_ar75, r_ar76, n2_, n4_, n12_, n24_, n28_, n50_, n54_, n76_, n80_, n102_, n128_, n154_, n180_, n206_, n232_, n258_, n284_, n310_, n336_, n362_, n380_, n680_, r_get0, r_get1, r_get2, r_get3, r_get4, r_get8, r_get9, r_get10, r_get11, r_get12, r_get13, r_put0, r_put1, r_put2, r_put3, r_put4, r_put5, r_put6, r_put7, r_put8, r_put9, r_put10, r_put11, r_more10, r_more12, r_more13, r_more14, r_more15, r_more16, r_more17, r_more18, r_more19, r_more20, r_in, r_no, r_no0, r_no1, bI_t, bI_f, bI0, Bool.not_true, Bool.not_false, r_isNoCache, hq, Bool.false_eq_true]
  · obtain ⟨ch, hch, rfl⟩ := qIn_c hq
    rw [lt_iN (by omega)]
    have ec : f_X11_countAll (d + 4) (rM (rP M o (gP o (qKp p c))) o H V (qBX p c (qX0 X) H V)) o (nI ch) 154 = _ := r_countV (w := 154) (d + 2) hr (show ch < 18 by omega) (by omega)
    have es := r_flush_25 (M := rP M o (gP o (qKp p c))) (o := o) (H := H) (V := V) (X := qBX p c (qX0 X) H V) (u := ch) (v := qCount (V ch) 154 26 0) (W := V ch) (d + 3) hr (by omega) 26 (V ch) (Nat.le_refl _) (fun w => by rw [if_neg (by omega)])
    rw [u1_id] at es
    simp (maxSteps := 1000000) (disch := first | assumption | omega) only [x_rf, x_m, lt_bv_r, lt_bi_r, lt_bl_r, ↓r_ck, r_get, r_put, r_more, rM_h, rM_f, rM_x, rM_wf, rM_wx, rM_wh, lt_iN, lt_b1_0, lt_b1_1, x_if1, x_eq1, x_10, x_01, x_11, x_00, ↓reduceIte, r_nz, r_ar1L0, r_ar1L1, lt_n0_, lt_n1_, upd_s, upd_o, u2_eq, u2_n1, u2_n2, r_p1, r_p5, r_p6, r_p7, r_p9, r_p10, r_p11, r_p13, r_p19, r_p23, r_p26, r_p27, r_p32, r_p33, r_p34, r_ar1, r_ar9, r_ar10, r_ar11, r_ar12, r_ar13, r_ar14, r_ar15, r_ar16, r_ar17, r_ar18, r_ar19, r_ar74, r_ar75, r_ar76, n2_, n4_, n12_, n24_, n28_, n50_, n54_, n76_, n80_, n102_, n128_, n154_, n180_, n206_, n232_, n258_, n284_, n310_, n336_, n362_, n380_, n680_, r_get0, r_get1, r_get2, r_get3, r_get4, r_get8, r_get9, r_get10, r_get11, r_get12, r_get13, r_put0, r_put1, r_put2, r_put3, r_put4, r_put5, r_put6, r_put7, r_put8, r_put9, r_put10, r_put11, r_more10, r_more12, r_more13, r_more14, r_more15, r_more16, r_more17, r_more18, r_more19, r_more20, r_in, r_no, r_no0, r_no1, bI_t, bI_f, bI0, Bool.not_true, Bool.not_false, r_isNoCache, hq, eb, ec]
    exact es
theorem r_drop (d : Nat) (h : RA M o) (hp : PA p) (hc : c ≤ 6) (hX : X 0 3 = nI c) {cache key : Int32} :
    f_X11_drop (d + 5) (rG M o p H V X) o cache key = if (qIn cache 0 5 && qIn key 0 25) = true then (if V (lt_n cache) (24 + lt_n key) = 1 then some (.inl (some (.int (bI (decide (V (lt_n cache) (154 + lt_n key) = 1))))), rG M o (qKp p c) H (u1 V (lt_n cache) (qLeaves (V (lt_n cache)) (lt_n key))) (qBX p c (qX0 X) H V)) else some (.inl (some (.int 0)), rG M o p H V (qXe X 2))) else some (.inl (some (.int 0)), rG M o p H V (qXe X 1)) := by
  have hr0 := h.rp (g := (gP o p))
  have hr := h.rp (g := (gP o (qKp p c)))
  have eb := r_begins (M := M) (o := o) (H := H) (V := V) (X := qX0 X) (d + 2) h hp hc (show qX0 X 0 3 = nI c from (u2_n2 (by omega)).trans hX)
  unfold rG at eb ⊢
  rw [e_X11_drop]
  cases hq : qIn cache 0 5
  · simp (maxSteps := 1000000) (disch := first | assumption | omega) only [x_rf, x_m, lt_bv_r, lt_bi_r, lt_bl_r, ↓r_ck, r_get, r_put, r_more, rM_h, rM_f, rM_x, rM_wf, rM_wx, rM_wh, lt_iN, lt_b1_0, lt_b1_1, x_if1, x_eq1, x_10, x_01, x_11, x_00, ↓reduceIte, r_nz, r_ar1L0, r_ar1L1, lt_n0_, lt_n1_, upd_s, upd_o, u2_eq, u2_n1, u2_n2, r_p1, r_p5, r_p6, r_p7, r_p9, r_p10, r_p11, r_p13, r_p19, r_p23, r_p26, r_p27, r_p32, r_p33, r_p34, r_ar1, r_ar9, r_ar10, r_ar11, r_ar12, r_ar13, r_ar14, r_ar15, r_ar16, r_ar17, r_ar18, r_ar19, r_ar74, r_ar75, r_ar76, n2_, n4_, n12_, n24_, n28_, n50_, n54_, n76_, n80_, n102_, n128_, n154_, n180_, n206_, n232_, n258_, n284_, n310_, n336_, n362_, n380_, n680_, r_get0, r_get1, r_get2, r_get3, r_get4, r_get8, r_get9, r_get10, r_get11, r_get12, r_get13, r_put0, r_put1, r_put2, r_put3, r_put4, r_put5, r_put6, r_put7, r_put8, r_put9, r_put10, r_put11, r_more10, r_more12, r_more13, r_more14, r_more15, r_more16, r_more17, r_more18, r_more19, r_more20, r_in, r_no, r_no0, r_no1, bI_t, bI_f, bI0, Bool.not_true, Bool.not_false, r_isNoCache, hq, Bool.false_eq_true, Bool.false_and]
  · obtain ⟨ch, hch, rfl⟩ := qIn_c hq
    have hch' : ch < 18 := by omega
    rw [lt_iN (by omega)]
    cases hk : qIn key 0 25
    · simp (maxSteps := 1000000) (disch := first | assumption | omega) only [x_rf, x_m, lt_bv_r, lt_bi_r, lt_bl_r, ↓r_ck, r_get, r_put, r_more, rM_h, rM_f, rM_x, rM_wf, rM_wx, rM_wh, lt_iN, lt_b1_0, lt_b1_1, x_if1, x_eq1, x_10, x_01, x_11, x_00, ↓reduceIte, r_nz, r_ar1L0, r_ar1L1, lt_n0_, lt_n1_, upd_s, upd_o, u2_eq, u2_n1, u2_n2, r_p1, r_p5, r_p6, r_p7, r_p9, r_p10, r_p11, r_p13, r_p19, r_p23, r_p26, r_p27, r_p32, r_p33, r_p34, r_ar1, r_ar9, r_ar10, r_ar11, r_ar12, r_ar13, r_ar14, r_ar15, r_ar16, r_ar17, r_ar18, r_ar19, r_ar74, r_ar75, r_ar76, n2_, n4_, n12_, n24_, n28_, n50_, n54_, n76_, n80_, n102_, n128_, n154_, n180_, n206_, n232_, n258_, n284_, n310_, n336_, n362_, n380_, n680_, r_get0, r_get1, r_get2, r_get3, r_get4, r_get8, r_get9, r_get10, r_get11, r_get12, r_get13, r_put0, r_put1, r_put2, r_put3, r_put4, r_put5, r_put6, r_put7, r_put8, r_put9, r_put10, r_put11, r_more10, r_more12, r_more13, r_more14, r_more15, r_more16, r_more17, r_more18, r_more19, r_more20, r_in, r_no, r_no0, r_no1, bI_t, bI_f, bI0, Bool.not_true, Bool.not_false, r_isNoCache, hq, hk, Bool.and_false, Bool.false_eq_true]
      rfl
    · obtain ⟨k, hk', rfl⟩ := qIn_k hk
      rw [lt_iN (by omega)]
      have eg := r_getV (M := rP M o (gP o (qKp p c))) (o := o) (H := H) (V := V) (X := qBX p c (qX0 X) H V) (u := ch) (w := 154 + k) (d + 3) hr (by omega) (by omega)
      have el := r_leaves2 (M := rP M o (gP o (qKp p c))) (o := o) (H := H) (V := V) (U := V ch) (X := qBX p c (qX0 X) H V) (u := ch) (k := k) (d + 2) hr (by omega) hk'
      rw [u1_id] at el
      by_cases a : V ch (24 + k) = 1
      · simp (maxSteps := 1000000) (disch := first | assumption | omega) only [x_rf, x_m, lt_bv_r, lt_bi_r, lt_bl_r, ↓r_ck, r_get, r_put, r_more, rM_h, rM_f, rM_x, rM_wf, rM_wx, rM_wh, lt_iN, lt_b1_0, lt_b1_1, x_if1, x_eq1, x_10, x_01, x_11, x_00, ↓reduceIte, r_nz, r_ar1L0, r_ar1L1, lt_n0_, lt_n1_, upd_s, upd_o, u2_eq, u2_n1, u2_n2, r_p1, r_p5, r_p6, r_p7, r_p9, r_p10, r_p11, r_p13, r_p19, r_p23, r_p26, r_p27, r_p32, r_p33, r_p34, r_ar1, r_ar9, r_ar10, r_ar11, r_ar12, r_ar13, r_ar14, r_ar15, r_ar16, r_ar17, r_ar18, r_ar19, r_ar74, r_ar75, r_ar76, n2_, n4_, n12_, n24_, n28_, n50_, n54_, n76_, n80_, n102_, n128_, n154_, n180_, n206_, n232_, n258_, n284_, n310_, n336_, n362_, n380_, n680_, r_get0, r_get1, r_get2, r_get3, r_get4, r_get8, r_get9, r_get10, r_get11, r_get12, r_get13, r_put0, r_put1, r_put2, r_put3, r_put4, r_put5, r_put6, r_put7, r_put8, r_put9, r_put10, r_put11, r_more10, r_more12, r_more13, r_more14, r_more15, r_more16, r_more17, r_more18, r_more19, r_more20, r_in, r_no, r_no0, r_no1, bI_t, bI_f, bI0, Bool.not_true, Bool.not_false, r_isNoCache, hq, hk, Bool.and_true, r_holdsV, a, decide_true, eb, eg, el]
        by_cases b : V ch (154 + k) = 1
        · simp only [b, if_true, decide_true, bI_t]
        · simp only [b, if_false, decide_false, bI_f]
      · simp (maxSteps := 1000000) (disch := first | assumption | omega) only [x_rf, x_m, lt_bv_r, lt_bi_r, lt_bl_r, ↓r_ck, r_get, r_put, r_more, rM_h, rM_f, rM_x, rM_wf, rM_wx, rM_wh, lt_iN, lt_b1_0, lt_b1_1, x_if1, x_eq1, x_10, x_01, x_11, x_00, ↓reduceIte, r_nz, r_ar1L0, r_ar1L1, lt_n0_, lt_n1_, upd_s, upd_o, u2_eq, u2_n1, u2_n2, r_p1, r_p5, r_p6, r_p7, r_p9, r_p10, r_p11, r_p13, r_p19, r_p23, r_p26, r_p27, r_p32, r_p33, r_p34, r_ar1, r_ar9, r_ar10, r_ar11, r_ar12, r_ar13, r_ar14, r_ar15, r_ar16, r_ar17, r_ar18, r_ar19, r_ar74, r_ar75, r_ar76, n2_, n4_, n12_, n24_, n28_, n50_, n54_, n76_, n80_, n102_, n128_, n154_, n180_, n206_, n232_, n258_, n284_, n310_, n336_, n362_, n380_, n680_, r_get0, r_get1, r_get2, r_get3, r_get4, r_get8, r_get9, r_get10, r_get11, r_get12, r_get13, r_put0, r_put1, r_put2, r_put3, r_put4, r_put5, r_put6, r_put7, r_put8, r_put9, r_put10, r_put11, r_more10, r_more12, r_more13, r_more14, r_more15, r_more16, r_more17, r_more18, r_more19, r_more20, r_in, r_no, r_no0, r_no1, bI_t, bI_f, bI0, Bool.not_true, Bool.not_false, r_isNoCache, hq, hk, Bool.and_true, r_holdsV, a, decide_false]
        rfl
end Ru
