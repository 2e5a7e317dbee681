/-! THE REFERENCE: hits, holdsAfter, bestVictim, phases, slack, measures -/
section Sa
variable {M M' : LM} {o i j k u w y f t c q n x m size : Nat} {H : Nat → Int32} {V V' X : Nat → Nat → Int32} {S U W A came : Nat → Int32} {v a b e r rule : Int32} {z : Option (LO × LM)} {kf fs : Nat → Nat} {lt : Nat → Nat → Bool}
def qPok (rule size : Int32) : Bool := qIn rule (-1) 2 && qIn size 1 26
theorem r_isNoPlay (d : Nat) {size : Int32} : f_X11_isNoPlay (d + 2) M o rule size = some (.inl (some (.int (bI (!qPok rule size)))), M) := by
  rw [e_X11_isNoPlay, r_in, lt_bi_r]
  unfold qPok
  cases qIn rule (-1) 2
  · rfl
  · rw [bI_t, if_neg (by decide), r_in, lt_bi_r]
    cases qIn size 1 26 <;> rfl
theorem qIn_s {v : Int32} {lo : Nat} {hi : Int32} (hlo : 1 ≤ lo) (hlo2 : lo ≤ 26) (hhi : hi.toInt ≤ 26) (hq : qIn v (nI lo) hi = true) : ∃ k, lo ≤ k ∧ k ≤ 26 ∧ (k : Int) ≤ hi.toInt ∧ v = nI k := by
  unfold qIn at hq
  rw [Bool.and_eq_true_iff] at hq
  have h1 : ¬ v < nI lo := by simpa using hq.1
  have h2 : ¬ hi < v := by simpa using hq.2
  rw [Int32.lt_iff_toInt_lt] at h1 h2
  rw [lt_iT (by omega)] at h1
  refine ⟨v.toInt.toNat, by omega, by omega, by omega, ?_⟩
  rw [← Int32.toInt_inj, lt_iT (by omega)]
  omega
theorem qIn_sz {v : Int32} (hq : qIn v 1 26 = true) : ∃ k, 1 ≤ k ∧ k ≤ 26 ∧ v = nI k := by
  obtain ⟨k, h1, h2, -, h3⟩ := qIn_s (lo := 1) (hi := 26) (by omega) (by omega) (by decide) hq
  exact ⟨k, h1, h2, h3⟩
theorem qPok_sz {size : Int32} (h : qPok rule size = true) : ∃ k, 1 ≤ k ∧ k ≤ 26 ∧ size = nI k := by
  unfold qPok at h
  exact qIn_sz (Bool.and_eq_true_iff.mp h).2
theorem r_hits (d : Nat) (h : RA M o) (hK : RK H kf n) (hn : n ≤ 300) (h0 : H 0 = nI n) {size : Int32} :
    (qPok rule size = false → f_X11_hits (d + 7) (rM M o H V X) o rule size = some (.inl (some (.int 0)), rM M o H V (qXe X 1))) ∧
    (qPok rule size = true → ∃ X' c0, XQ (qX0 X) X' ∧ f_X11_hits (d + 7) (rM M o H V X) o rule size = some (.inl (some (.int (qHits2 kf n rule (lt_n size) c0))), rM M o H V X')) := by
  rw [e_X11_hits]
  refine ⟨fun hq => ?_, fun hq => ?_⟩
  · simp (maxSteps := 1000000) (disch := first | assumption | omega) only [x_rf, x_m, lt_bv_r, lt_bi_r, lt_bl_r, ↓r_ck, r_get, r_put, r_more, rM_h, rM_f, rM_x, rM_wf, rM_wx, rM_wh, lt_iN, lt_b1_0, lt_b1_1, x_if1, x_eq1, x_10, x_01, x_11, x_00, ↓reduceIte, r_nz, r_ar1L0, r_ar1L1, lt_n0_, lt_n1_, upd_s, upd_o, u2_eq, u2_n1, u2_n2, r_p1, r_p5, r_p6, r_p7, r_p9, r_p10, r_p11, r_p13, r_p19, r_p23, r_p26, r_p27, r_p32, r_p33, r_p34, r_ar1, r_ar9, r_ar10, r_ar11, r_ar12, r_ar13, r_ar14, r_ar15, r_ar16, r_ar17, r_ar18, r_ar19, r_ar74, r_ar75, r_ar76, n2_, n4_, n12_, n24_, n28_, n50_, n54_, n76_, n80_, n102_, n128_, n154_, n180_, n206_, n232_, n258_, n284_, n310_, n336_, n362_, n380_, n680_, r_get0, r_get1, r_get2, r_get3, r_get4, r_get8, r_get9, r_get10, r_get11, r_get12, r_get13, r_put0, r_put1, r_put2, r_put3, r_put4, r_put5, r_put6, r_put7, r_put8, r_put9, r_put10, r_put11, r_more10, r_more12, r_more13, r_more14, r_more15, r_more16, r_more17, r_more18, r_more19, r_more20, r_in, r_no, r_no0, r_no1, bI_t, bI_f, bI0, Bool.not_true, Bool.not_false, r_isNoPlay, hq]
    rfl
  · obtain ⟨s, hs1, hs2, rfl⟩ := qPok_sz hq
    obtain ⟨X', c0, a1, a2⟩ := r_hitsOf (M := M) (o := o) (H := H) (V := V) (X := qX0 X) (rule := rule) (size := s) d h hK hn h0 (by omega) (by omega)
    rw [lt_iN (by omega)]
    refine ⟨X', c0, a1, ?_⟩
    unfold qX0 at a2
    simp (maxSteps := 1000000) (disch := first | assumption | omega) only [x_rf, x_m, lt_bv_r, lt_bi_r, lt_bl_r, ↓r_ck, r_get, r_put, r_more, rM_h, rM_f, rM_x, rM_wf, rM_wx, rM_wh, lt_iN, lt_b1_0, lt_b1_1, x_if1, x_eq1, x_10, x_01, x_11, x_00, ↓reduceIte, r_nz, r_ar1L0, r_ar1L1, lt_n0_, lt_n1_, upd_s, upd_o, u2_eq, u2_n1, u2_n2, r_p1, r_p5, r_p6, r_p7, r_p9, r_p10, r_p11, r_p13, r_p19, r_p23, r_p26, r_p27, r_p32, r_p33, r_p34, r_ar1, r_ar9, r_ar10, r_ar11, r_ar12, r_ar13, r_ar14, r_ar15, r_ar16, r_ar17, r_ar18, r_ar19, r_ar74, r_ar75, r_ar76, n2_, n4_, n12_, n24_, n28_, n50_, n54_, n76_, n80_, n102_, n128_, n154_, n180_, n206_, n232_, n258_, n284_, n310_, n336_, n362_, n380_, n680_, r_get0, r_get1, r_get2, r_get3, r_get4, r_get8, r_get9, r_get10, r_get11, r_get12, r_get13, r_put0, r_put1, r_put2, r_put3, r_put4, r_put5, r_put6, r_put7, r_put8, r_put9, r_put10, r_put11, r_more10, r_more12, r_more13, r_more14, r_more15, r_more16, r_more17, r_more18, r_more19, r_more20, r_in, r_no, r_no0, r_no1, bI_t, bI_f, bI0, Bool.not_true, Bool.not_false, r_isNoPlay, hq, a2]
def qHA (kf : Nat → Nat) (key : Nat) (size : Int32) : Nat → Int32 → Bool
  | 0, _ => false
  | j + 1, set => if kf j = key then decide (pPop set < size) else qHA kf key size j (set ||| bb (kf j))
theorem r_ha_86 (d : Nat) (h : RA M o) (hK : RK H kf n) (hn : n ≤ 300) (hk : k < 26) {size : Int32} : ∀ (j : Nat) (set : Int32), j ≤ n → f_X11_holdsAfter_86 (d + 2) (rM M o H V X) o size (nI k) set (nI j + -1) = some (.inl (some (.int (bI (qHA kf k size j set)))), rM M o H V X)
  | 0, set, _ => by
    have hl : nI 0 + -1 < 0 := by decide
    rw [e_X11_holdsAfter_86, if_pos hl]
    rfl
  | j + 1, set, hj => by
    have e0 : nI (j + 1) + -1 = nI j := by
      rw [show nI (j + 1) = nI j + 1 from (lt_iA (j := j) (k := 1)).symm, Int32.add_assoc, show (1 : Int32) + -1 = 0 by decide, Int32.add_zero]
    have hl : ¬ nI j < 0 := lt_neg (by omega)
    obtain ⟨hk1, hH1⟩ := hK j (by omega)
    have ih := r_ha_86 d h hK hn hk (size := size) j (set ||| bb (kf j)) (by omega)
    have hbb : (1 : Int32) <<< (nI (kf j) &&& 31) = bb (kf j) := rfl
    rw [e0, e_X11_holdsAfter_86, if_neg hl]
    simp (maxSteps := 1000000) (disch := first | assumption | omega) only [x_rf, x_m, lt_bv_r, lt_bi_r, lt_bl_r, ↓r_ck, r_get, r_put, r_more, rM_h, rM_f, rM_x, rM_wf, rM_wx, rM_wh, lt_iN, lt_b1_0, lt_b1_1, x_if1, x_eq1, x_10, x_01, x_11, x_00, ↓reduceIte, r_nz, r_ar1L0, r_ar1L1, lt_n0_, lt_n1_, upd_s, upd_o, u2_eq, u2_n1, u2_n2, r_p1, r_p5, r_p6, r_p7, r_p9, r_p10, r_p11, r_p13, r_p19, r_p23, r_p26, r_p27, r_p32, r_p33, r_p34, r_ar1, r_ar9, r_ar10, r_ar11, r_ar12, r_ar13, r_ar14, r_ar15, r_ar16, r_ar17, r_ar18, r_ar19, r_ar74, r_ar75, r_ar76, n2_, n4_, n12_, n24_, n28_, n50_, n54_, n76_, n80_, n102_, n128_, n154_, n180_, n206_, n232_, n258_, n284_, n310_, n336_, n362_, n380_, n680_, r_get0, r_get1, r_get2, r_get3, r_get4, r_get8, r_get9, r_get10, r_get11, r_get12, r_get13, r_put0, r_put1, r_put2, r_put3, r_put4, r_put5, r_put6, r_put7, r_put8, r_put9, r_put10, r_put11, r_more10, r_more12, r_more13, r_more14, r_more15, r_more16, r_more17, r_more18, r_more19, r_more20, hH1, nI_inj, c_pop, hbb, ih, x_res]
    rw [show qHA kf k size (j + 1) set = if kf j = k then decide (pPop set < size) else qHA kf k size j (set ||| bb (kf j)) from rfl]
    by_cases q : kf j = k
    · rw [if_pos q, if_pos q]
      simp only [bI, decide_eq_true_eq]
    · rw [if_neg q, if_neg q]
def qHAok (n : Nat) (rule size requests : Int32) : Bool := qPok rule size && qIn requests 0 (nI n)
theorem r_holdsAfter (d : Nat) (h : RA M o) (hK : RK H kf n) (hn : n ≤ 300) (h0 : H 0 = nI n) {size requests key : Int32} :
    (qIn key 0 25 = false → f_X11_holdsAfter (d + 6) (rM M o H V X) o rule size requests key = some (.inl (some (.int 0)), rM M o H V (qXe X 1))) ∧
    (qIn key 0 25 = true → qHAok n rule size requests = false → f_X11_holdsAfter (d + 6) (rM M o H V X) o rule size requests key = some (.inl (some (.int 0)), rM M o H V (qXe X 2))) ∧
    (qIn key 0 25 = true → qHAok n rule size requests = true → ∃ X' c0, XQ (qX0 X) X' ∧ f_X11_holdsAfter (d + 6) (rM M o H V X) o rule size requests key = some (.inl (some (.int (bI (if rule = 0 then qHA kf (lt_n key) size (lt_n requests) 0 else (qPlay kf n rule (lt_n size) (lt_n requests) c0).2.2.1 (lt_n key))))), rM M o H V X')) := by
  rw [e_X11_holdsAfter]
  refine ⟨fun hq => ?_, fun hq hk => ?_, fun hq hk => ?_⟩
  · simp (maxSteps := 1000000) (disch := first | assumption | omega) only [x_rf, x_m, lt_bv_r, lt_bi_r, lt_bl_r, ↓r_ck, r_get, r_put, r_more, rM_h, rM_f, rM_x, rM_wf, rM_wx, rM_wh, lt_iN, lt_b1_0, lt_b1_1, x_if1, x_eq1, x_10, x_01, x_11, x_00, ↓reduceIte, r_nz, r_ar1L0, r_ar1L1, lt_n0_, lt_n1_, upd_s, upd_o, u2_eq, u2_n1, u2_n2, r_p1, r_p5, r_p6, r_p7, r_p9, r_p10, r_p11, r_p13, r_p19, r_p23, r_p26, r_p27, r_p32, r_p33, r_p34, r_ar1, r_ar9, r_ar10, r_ar11, r_ar12, r_ar13, r_ar14, r_ar15, r_ar16, r_ar17, r_ar18, r_ar19, r_ar74, r_ar75, r_ar76, n2_, n4_, n12_, n24_, n28_, n50_, n54_, n76_, n80_, n102_, n128_, n154_, n180_, n206_, n232_, n258_, n284_, n310_, n336_, n362_, n380_, n680_, r_get0, r_get1, r_get2, r_get3, r_get4, r_get8, r_get9, r_get10, r_get11, r_get12, r_get13, r_put0, r_put1, r_put2, r_put3, r_put4, r_put5, r_put6, r_put7, r_put8, r_put9, r_put10, r_put11, r_more10, r_more12, r_more13, r_more14, r_more15, r_more16, r_more17, r_more18, r_more19, r_more20, r_in, r_no, r_no0, r_no1, bI_t, bI_f, bI0, Bool.not_true, Bool.not_false, hq]
    rfl
  · unfold qHAok at hk
    cases h1 : qPok rule size
    · simp (maxSteps := 1000000) (disch := first | assumption | omega) only [x_rf, x_m, lt_bv_r, lt_bi_r, lt_bl_r, ↓r_ck, r_get, r_put, r_more, rM_h, rM_f, rM_x, rM_wf, rM_wx, rM_wh, lt_iN, lt_b1_0, lt_b1_1, x_if1, x_eq1, x_10, x_01, x_11, x_00, ↓reduceIte, r_nz, r_ar1L0, r_ar1L1, lt_n0_, lt_n1_, upd_s, upd_o, u2_eq, u2_n1, u2_n2, r_p1, r_p5, r_p6, r_p7, r_p9, r_p10, r_p11, r_p13, r_p19, r_p23, r_p26, r_p27, r_p32, r_p33, r_p34, r_ar1, r_ar9, r_ar10, r_ar11, r_ar12, r_ar13, r_ar14, r_ar15, r_ar16, r_ar17, r_ar18, r_ar19, r_ar74, r_ar75, r_ar76, n2_, n4_, n12_, n24_, n28_, n50_, n54_, n76_, n80_, n102_, n128_, n154_, n180_, n206_, n232_, n258_, n284_, n310_, n336_, n362_, n380_, n680_, r_get0, r_get1, r_get2, r_get3, r_get4, r_get8, r_get9, r_get10, r_get11, r_get12, r_get13, r_put0, r_put1, r_put2, r_put3, r_put4, r_put5, r_put6, r_put7, r_put8, r_put9, r_put10, r_put11, r_more10, r_more12, r_more13, r_more14, r_more15, r_more16, r_more17, r_more18, r_more19, r_more20, r_in, r_no, r_no0, r_no1, bI_t, bI_f, bI0, Bool.not_true, Bool.not_false, hq, r_isNoPlay, h1]
      rfl
    · rw [h1, Bool.true_and] at hk
      simp (maxSteps := 1000000) (disch := first | assumption | omega) only [x_rf, x_m, lt_bv_r, lt_bi_r, lt_bl_r, ↓r_ck, r_get, r_put, r_more, rM_h, rM_f, rM_x, rM_wf, rM_wx, rM_wh, lt_iN, lt_b1_0, lt_b1_1, x_if1, x_eq1, x_10, x_01, x_11, x_00, ↓reduceIte, r_nz, r_ar1L0, r_ar1L1, lt_n0_, lt_n1_, upd_s, upd_o, u2_eq, u2_n1, u2_n2, r_p1, r_p5, r_p6, r_p7, r_p9, r_p10, r_p11, r_p13, r_p19, r_p23, r_p26, r_p27, r_p32, r_p33, r_p34, r_ar1, r_ar9, r_ar10, r_ar11, r_ar12, r_ar13, r_ar14, r_ar15, r_ar16, r_ar17, r_ar18, r_ar19, r_ar74, r_ar75, r_ar76, n2_, n4_, n12_, n24_, n28_, n50_, n54_, n76_, n80_, n102_, n128_, n154_, n180_, n206_, n232_, n258_, n284_, n310_, n336_, n362_, n380_, n680_, r_get0, r_get1, r_get2, r_get3, r_get4, r_get8, r_get9, r_get10, r_get11, r_get12, r_get13, r_put0, r_put1, r_put2, r_put3, r_put4, r_put5, r_put6, r_put7, r_put8, r_put9, r_put10, r_put11, r_more10, r_more12, r_more13, r_more14, r_more15, r_more16, r_more17, r_more18, r_more19, r_more20, r_in, r_no, r_no0, r_no1, bI_t, bI_f, bI0, Bool.not_true, Bool.not_false, hq, r_isNoPlay, h1, h0, hk]
      rfl
  · unfold qHAok at hk
    obtain ⟨h1, h2⟩ := Bool.and_eq_true_iff.mp hk
    obtain ⟨s, hs1, hs2, rfl⟩ := qPok_sz h1
    obtain ⟨k, hk', rfl⟩ := qIn_k hq
    obtain ⟨t, ht, rfl⟩ := qIn_g (m := n) (by omega) h2
    rw [lt_iN (show k < 2147483648 by omega), lt_iN (show t < 2147483648 by omega), lt_iN (show s < 2147483648 by omega)]
    by_cases r0 : rule = 0
    · have e := r_ha_86 (M := M) (o := o) (H := H) (V := V) (X := qX0 X) (size := nI s) (d + 4) h hK hn hk' t 0 ht
      refine ⟨qX0 X, (fun _ => 0), XQ.refl, ?_⟩
      rw [← Int32.sub_eq_add_neg] at e
      unfold qX0 at e
      rw [if_pos r0]
      simp (maxSteps := 1000000) (disch := first | assumption | omega) only [x_rf, x_m, lt_bv_r, lt_bi_r, lt_bl_r, ↓r_ck, r_get, r_put, r_more, rM_h, rM_f, rM_x, rM_wf, rM_wx, rM_wh, lt_iN, lt_b1_0, lt_b1_1, x_if1, x_eq1, x_10, x_01, x_11, x_00, ↓reduceIte, r_nz, r_ar1L0, r_ar1L1, lt_n0_, lt_n1_, upd_s, upd_o, u2_eq, u2_n1, u2_n2, r_p1, r_p5, r_p6, r_p7, r_p9, r_p10, r_p11, r_p13, r_p19, r_p23, r_p26, r_p27, r_p32, r_p33, r_p34, r_ar1, r_ar9, r_ar10, r_ar11, r_ar12, r_ar13, r_ar14, r_ar15, r_ar16, r_ar17, r_ar18, r_ar19, r_ar74, r_ar75, r_ar76, n2_, n4_, n12_, n24_, n28_, n50_, n54_, n76_, n80_, n102_, n128_, n154_, n180_, n206_, n232_, n258_, n284_, n310_, n336_, n362_, n380_, n680_, r_get0, r_get1, r_get2, r_get3, r_get4, r_get8, r_get9, r_get10, r_get11, r_get12, r_get13, r_put0, r_put1, r_put2, r_put3, r_put4, r_put5, r_put6, r_put7, r_put8, r_put9, r_put10, r_put11, r_more10, r_more12, r_more13, r_more14, r_more15, r_more16, r_more17, r_more18, r_more19, r_more20, r_in, r_no, r_no0, r_no1, bI_t, bI_f, bI0, Bool.not_true, Bool.not_false, hq, r_isNoPlay, h1, h0, h2, r0]
      rw [r0] at h1
      simp (maxSteps := 1000000) (disch := first | assumption | omega) only [x_rf, x_m, lt_bv_r, lt_bi_r, lt_bl_r, ↓r_ck, r_get, r_put, r_more, rM_h, rM_f, rM_x, rM_wf, rM_wx, rM_wh, lt_iN, lt_b1_0, lt_b1_1, x_if1, x_eq1, x_10, x_01, x_11, x_00, ↓reduceIte, r_nz, r_ar1L0, r_ar1L1, lt_n0_, lt_n1_, upd_s, upd_o, u2_eq, u2_n1, u2_n2, r_p1, r_p5, r_p6, r_p7, r_p9, r_p10, r_p11, r_p13, r_p19, r_p23, r_p26, r_p27, r_p32, r_p33, r_p34, r_ar1, r_ar9, r_ar10, r_ar11, r_ar12, r_ar13, r_ar14, r_ar15, r_ar16, r_ar17, r_ar18, r_ar19, r_ar74, r_ar75, r_ar76, n2_, n4_, n12_, n24_, n28_, n50_, n54_, n76_, n80_, n102_, n128_, n154_, n180_, n206_, n232_, n258_, n284_, n310_, n336_, n362_, n380_, n680_, r_get0, r_get1, r_get2, r_get3, r_get4, r_get8, r_get9, r_get10, r_get11, r_get12, r_get13, r_put0, r_put1, r_put2, r_put3, r_put4, r_put5, r_put6, r_put7, r_put8, r_put9, r_put10, r_put11, r_more10, r_more12, r_more13, r_more14, r_more15, r_more16, r_more17, r_more18, r_more19, r_more20, r_in, r_no, r_no0, r_no1, bI_t, bI_f, bI0, Bool.not_true, Bool.not_false, h1]
      exact e
    · obtain ⟨X', c0, a1, a2, a3, a4⟩ := r_plays (M := M) (o := o) (H := H) (V := V) (X := qX0 X) (rule := rule) (size := s) d h hK hn h0 (by omega) (by omega) ht
      refine ⟨X', c0, a1, ?_⟩
      unfold qX0 at a4
      have b18 := a2.2.1 k hk'
      have hb : ∀ (b : Bool) (z : Option (LO × LM)), lt_b1 (bI b) z = z := fun b z => by cases b <;> rfl
      rw [if_neg r0]
      simp (maxSteps := 1000000) (disch := first | assumption | omega) only [x_rf, x_m, lt_bv_r, lt_bi_r, lt_bl_r, ↓r_ck, r_get, r_put, r_more, rM_h, rM_f, rM_x, rM_wf, rM_wx, rM_wh, lt_iN, lt_b1_0, lt_b1_1, x_if1, x_eq1, x_10, x_01, x_11, x_00, ↓reduceIte, r_nz, r_ar1L0, r_ar1L1, lt_n0_, lt_n1_, upd_s, upd_o, u2_eq, u2_n1, u2_n2, r_p1, r_p5, r_p6, r_p7, r_p9, r_p10, r_p11, r_p13, r_p19, r_p23, r_p26, r_p27, r_p32, r_p33, r_p34, r_ar1, r_ar9, r_ar10, r_ar11, r_ar12, r_ar13, r_ar14, r_ar15, r_ar16, r_ar17, r_ar18, r_ar19, r_ar74, r_ar75, r_ar76, n2_, n4_, n12_, n24_, n28_, n50_, n54_, n76_, n80_, n102_, n128_, n154_, n180_, n206_, n232_, n258_, n284_, n310_, n336_, n362_, n380_, n680_, r_get0, r_get1, r_get2, r_get3, r_get4, r_get8, r_get9, r_get10, r_get11, r_get12, r_get13, r_put0, r_put1, r_put2, r_put3, r_put4, r_put5, r_put6, r_put7, r_put8, r_put9, r_put10, r_put11, r_more10, r_more12, r_more13, r_more14, r_more15, r_more16, r_more17, r_more18, r_more19, r_more20, r_in, r_no, r_no0, r_no1, bI_t, bI_f, bI0, Bool.not_true, Bool.not_false, hq, r_isNoPlay, h1, h0, h2, r0, a4, b18, hb]
theorem r_bestVictim (d : Nat) (h : RA M o) (hK : RK H kf n) (hn : n ≤ 300) (h0 : H 0 = nI n) {size rq : Int32} :
    (qIn rq 0 (nI n - 1) = false → f_X11_bestVictim (d + 6) (rM M o H V X) o size rq = some (.inl (some (.int 0)), rM M o H V (qXe X 1))) ∧
    (qIn rq 0 (nI n - 1) = true → qIn size 1 26 = false → f_X11_bestVictim (d + 6) (rM M o H V X) o size rq = some (.inl (some (.int 0)), rM M o H V (u2 (qX0 X) 0 0 2))) ∧
    (qIn rq 0 (nI n - 1) = true → qIn size 1 26 = true → ∃ X' c0, XQ (qX0 X) X' ∧ f_X11_bestVictim (d + 6) (rM M o H V X) o size rq = some (.inl (some (.int (oI (qPlay kf n (-1) (lt_n size) (lt_n rq + 1) c0).2.2.2.2))), rM M o H V X')) := by
  rw [e_X11_bestVictim]
  refine ⟨fun hq => ?_, fun hq hk => ?_, fun hq hk => ?_⟩
  · simp (maxSteps := 1000000) (disch := first | assumption | omega) only [x_rf, x_m, lt_bv_r, lt_bi_r, lt_bl_r, ↓r_ck, r_get, r_put, r_more, rM_h, rM_f, rM_x, rM_wf, rM_wx, rM_wh, lt_iN, lt_b1_0, lt_b1_1, x_if1, x_eq1, x_10, x_01, x_11, x_00, ↓reduceIte, r_nz, r_ar1L0, r_ar1L1, lt_n0_, lt_n1_, upd_s, upd_o, u2_eq, u2_n1, u2_n2, r_p1, r_p5, r_p6, r_p7, r_p9, r_p10, r_p11, r_p13, r_p19, r_p23, r_p26, r_p27, r_p32, r_p33, r_p34, r_ar1, r_ar9, r_ar10, r_ar11, r_ar12, r_ar13, r_ar14, r_ar15, r_ar16, r_ar17, r_ar18, r_ar19, r_ar74, r_ar75, r_ar76, n2_, n4_, n12_, n24_, n28_, n50_, n54_, n76_, n80_, n102_, n128_, n154_, n180_, n206_, n232_, n258_, n284_, n310_, n336_, n362_, n380_, n680_, r_get0, r_get1, r_get2, r_get3, r_get4, r_get8, r_get9, r_get10, r_get11, r_get12, r_get13, r_put0, r_put1, r_put2, r_put3, r_put4, r_put5, r_put6, r_put7, r_put8, r_put9, r_put10, r_put11, r_more10, r_more12, r_more13, r_more14, r_more15, r_more16, r_more17, r_more18, r_more19, r_more20, r_in, r_no, r_no0, r_no1, bI_t, bI_f, bI0, Bool.not_true, Bool.not_false, r_isNoRequest, h0, hq, Bool.false_eq_true]
  · simp (maxSteps := 1000000) (disch := first | assumption | omega) only [x_rf, x_m, lt_bv_r, lt_bi_r, lt_bl_r, ↓r_ck, r_get, r_put, r_more, rM_h, rM_f, rM_x, rM_wf, rM_wx, rM_wh, lt_iN, lt_b1_0, lt_b1_1, x_if1, x_eq1, x_10, x_01, x_11, x_00, ↓reduceIte, r_nz, r_ar1L0, r_ar1L1, lt_n0_, lt_n1_, upd_s, upd_o, u2_eq, u2_n1, u2_n2, r_p1, r_p5, r_p6, r_p7, r_p9, r_p10, r_p11, r_p13, r_p19, r_p23, r_p26, r_p27, r_p32, r_p33, r_p34, r_ar1, r_ar9, r_ar10, r_ar11, r_ar12, r_ar13, r_ar14, r_ar15, r_ar16, r_ar17, r_ar18, r_ar19, r_ar74, r_ar75, r_ar76, n2_, n4_, n12_, n24_, n28_, n50_, n54_, n76_, n80_, n102_, n128_, n154_, n180_, n206_, n232_, n258_, n284_, n310_, n336_, n362_, n380_, n680_, r_get0, r_get1, r_get2, r_get3, r_get4, r_get8, r_get9, r_get10, r_get11, r_get12, r_get13, r_put0, r_put1, r_put2, r_put3, r_put4, r_put5, r_put6, r_put7, r_put8, r_put9, r_put10, r_put11, r_more10, r_more12, r_more13, r_more14, r_more15, r_more16, r_more17, r_more18, r_more19, r_more20, r_in, r_no, r_no0, r_no1, bI_t, bI_f, bI0, Bool.not_true, Bool.not_false, r_isNoRequest, h0, hq, hk]
  · obtain ⟨s, hs1, hs2, rfl⟩ := qIn_sz hk
    obtain ⟨w, hw, rfl⟩ := qIn_n hn hq
    rw [lt_iN (show w < 2147483648 by omega), lt_iN (show s < 2147483648 by omega)]
    obtain ⟨X', c0, a1, a2, a3, a4⟩ := r_plays (M := M) (o := o) (H := H) (V := V) (X := qX0 X) (rule := -1) (size := s) d h hK hn h0 (by omega) (by omega) (show w + 1 ≤ n by omega)
    have hs : nI w + 1 = nI (w + 1) := lt_iA (j := w) (k := 1)
    have a3' := a3 (by omega)
    refine ⟨X', c0, a1, ?_⟩
    simp (maxSteps := 1000000) (disch := first | assumption | omega) only [x_rf, x_m, lt_bv_r, lt_bi_r, lt_bl_r, ↓r_ck, r_get, r_put, r_more, rM_h, rM_f, rM_x, rM_wf, rM_wx, rM_wh, lt_iN, lt_b1_0, lt_b1_1, x_if1, x_eq1, x_10, x_01, x_11, x_00, ↓reduceIte, r_nz, r_ar1L0, r_ar1L1, lt_n0_, lt_n1_, upd_s, upd_o, u2_eq, u2_n1, u2_n2, r_p1, r_p5, r_p6, r_p7, r_p9, r_p10, r_p11, r_p13, r_p19, r_p23, r_p26, r_p27, r_p32, r_p33, r_p34, r_ar1, r_ar9, r_ar10, r_ar11, r_ar12, r_ar13, r_ar14, r_ar15, r_ar16, r_ar17, r_ar18, r_ar19, r_ar74, r_ar75, r_ar76, n2_, n4_, n12_, n24_, n28_, n50_, n54_, n76_, n80_, n102_, n128_, n154_, n180_, n206_, n232_, n258_, n284_, n310_, n336_, n362_, n380_, n680_, r_get0, r_get1, r_get2, r_get3, r_get4, r_get8, r_get9, r_get10, r_get11, r_get12, r_get13, r_put0, r_put1, r_put2, r_put3, r_put4, r_put5, r_put6, r_put7, r_put8, r_put9, r_put10, r_put11, r_more10, r_more12, r_more13, r_more14, r_more15, r_more16, r_more17, r_more18, r_more19, r_more20, r_in, r_no, r_no0, r_no1, bI_t, bI_f, bI0, Bool.not_true, Bool.not_false, r_isNoRequest, h0, hq, hk, hs, a4, a3']
/-- phases -/
def qPh (kf : Nat → Nat) (size : Int32) (t : Nat) : Nat → Int32 → Int32 → Int32
  | 0, ph, _ => ph
  | m + 1, ph, set => if size < pPop (set ||| bb (kf (t - m))) then qPh kf size t m (ph + 1) (bb (kf (t - m))) else qPh kf size t m ph (set ||| bb (kf (t - m)))
theorem r_phaseAt_8 (d : Nat) (h : RA M o) (hK : RK H kf n) (hn : n ≤ 300) {size : Int32} {t : Nat} (ht : t < n) : ∀ (m : Nat) (ph set : Int32), m ≤ t + 1 → f_X11_phaseAt_8 (d + 2) (rM M o H V X) o size (nI t) ph set (nI (t + 1 - m)) = some (.inl (some (.int (qPh kf size t m ph set))), rM M o H V X)
  | 0, ph, set, _ => by
    have hlt : nI t < nI (t + 1 - 0) := by rw [nI_ltP (by omega) (by omega)]; omega
    rw [e_X11_phaseAt_8, if_pos hlt]
    rfl
  | m + 1, ph, set, hm => by
    have g1 : nI (t + 1 - (m + 1)) = nI (t - m) := by congr 1; omega
    have hlt : ¬ nI t < nI (t - m) := by rw [nI_ltP (by omega) (by omega)]; omega
    have g2 : nI (t - m) + 1 = nI (t + 1 - m) := by
      rw [show nI (t - m) + 1 = nI (t - m + 1) from lt_iA (j := t - m) (k := 1)]
      congr 1
      omega
    obtain ⟨hk1, hH1⟩ := hK (t - m) (by omega)
    have ih := fun ph set => r_phaseAt_8 d h hK hn (size := size) ht m ph set (by omega)
    have hbb : (1 : Int32) <<< (nI (kf (t - m)) &&& 31) = bb (kf (t - m)) := rfl
    have p0 : ph + 0 = ph := Int32.add_zero _
    rw [g1, e_X11_phaseAt_8, if_neg hlt]
    simp (maxSteps := 1000000) (disch := first | assumption | omega) only [x_rf, x_m, lt_bv_r, lt_bi_r, lt_bl_r, ↓r_ck, r_get, r_put, r_more, rM_h, rM_f, rM_x, rM_wf, rM_wx, rM_wh, lt_iN, lt_b1_0, lt_b1_1, x_if1, x_eq1, x_10, x_01, x_11, x_00, ↓reduceIte, r_nz, r_ar1L0, r_ar1L1, lt_n0_, lt_n1_, upd_s, upd_o, u2_eq, u2_n1, u2_n2, r_p1, r_p5, r_p6, r_p7, r_p9, r_p10, r_p11, r_p13, r_p19, r_p23, r_p26, r_p27, r_p32, r_p33, r_p34, r_ar1, r_ar9, r_ar10, r_ar11, r_ar12, r_ar13, r_ar14, r_ar15, r_ar16, r_ar17, r_ar18, r_ar19, r_ar74, r_ar75, r_ar76, n2_, n4_, n12_, n24_, n28_, n50_, n54_, n76_, n80_, n102_, n128_, n154_, n180_, n206_, n232_, n258_, n284_, n310_, n336_, n362_, n380_, n680_, r_get0, r_get1, r_get2, r_get3, r_get4, r_get8, r_get9, r_get10, r_get11, r_get12, r_get13, r_put0, r_put1, r_put2, r_put3, r_put4, r_put5, r_put6, r_put7, r_put8, r_put9, r_put10, r_put11, r_more10, r_more12, r_more13, r_more14, r_more15, r_more16, r_more17, r_more18, r_more19, r_more20, hH1, c_pop, hbb, e_X11_phaseAt_45, g2, ih, p0]
    rw [show qPh kf size t (m + 1) ph set = if size < pPop (set ||| bb (kf (t - m))) then qPh kf size t m (ph + 1) (bb (kf (t - m))) else qPh kf size t m ph (set ||| bb (kf (t - m))) from rfl]
    split <;> rfl
theorem r_phaseAt (d : Nat) (h : RA M o) (hK : RK H kf n) (hn : n ≤ 300) {size : Int32} {t : Nat} (ht : t < n) : f_X11_phaseAt (d + 2) (rM M o H V X) o size (nI t) = some (.inl (some (.int (qPh kf size t (t + 1) 0 0))), rM M o H V X) := by
  have e := r_phaseAt_8 (M := M) (o := o) (H := H) (V := V) (X := X) (size := size) d h hK hn ht (t + 1) 0 0 (Nat.le_refl _)
  rw [Nat.sub_self] at e
  rw [e_X11_phaseAt]
  exact e
def qPhases (kf : Nat → Nat) (size : Int32) (n : Nat) : Int32 := if n = 0 then 0 else qPh kf size (n - 1) n 0 0 + 1
theorem r_phasesOf (d : Nat) (h : RA M o) (hK : RK H kf n) (hn : n ≤ 300) (h0 : H 0 = nI n) {size : Int32} : f_X11_phasesOf (d + 3) (rM M o H V X) o size = some (.inl (some (.int (qPhases kf size n))), rM M o H V X) := by
  rw [e_X11_phasesOf]
  unfold qPhases
  by_cases q : n = 0
  · subst q
    have e : nI 0 = (0 : Int32) := rfl
    simp (maxSteps := 1000000) (disch := first | assumption | omega) only [x_rf, x_m, lt_bv_r, lt_bi_r, lt_bl_r, ↓r_ck, r_get, r_put, r_more, rM_h, rM_f, rM_x, rM_wf, rM_wx, rM_wh, lt_iN, lt_b1_0, lt_b1_1, x_if1, x_eq1, x_10, x_01, x_11, x_00, ↓reduceIte, r_nz, r_ar1L0, r_ar1L1, lt_n0_, lt_n1_, upd_s, upd_o, u2_eq, u2_n1, u2_n2, r_p1, r_p5, r_p6, r_p7, r_p9, r_p10, r_p11, r_p13, r_p19, r_p23, r_p26, r_p27, r_p32, r_p33, r_p34, r_ar1, r_ar9, r_ar10, r_ar11, r_ar12, r_ar13, r_ar14, r_ar15, r_ar16, r_ar17, r_ar18, r_ar19, r_ar74, r_ar75, r_ar76, n2_, n4_, n12_, n24_, n28_, n50_, n54_, n76_, n80_, n102_, n128_, n154_, n180_, n206_, n232_, n258_, n284_, n310_, n336_, n362_, n380_, n680_, r_get0, r_get1, r_get2, r_get3, r_get4, r_get8, r_get9, r_get10, r_get11, r_get12, r_get13, r_put0, r_put1, r_put2, r_put3, r_put4, r_put5, r_put6, r_put7, r_put8, r_put9, r_put10, r_put11, r_more10, r_more12, r_more13, r_more14, r_more15, r_more16, r_more17, r_more18, r_more19, r_more20, h0, e]
  · have e : ¬ nI n = (0 : Int32) := fun e => q ((lt_iE (j := n) (k := 0) (by omega) (by omega)).mp e)
    have e1 : nI n - 1 = nI (n - 1) := by
      rw [show nI n = nI (n - 1) + 1 from by rw [show nI (n - 1) + 1 = nI (n - 1 + 1) from lt_iA (j := n - 1) (k := 1)]; congr 1; omega]
      exact Int32.add_sub_cancel ..
    have e2 := r_phaseAt (M := M) (o := o) (H := H) (V := V) (X := X) (size := size) d h hK hn (show n - 1 < n by omega)
    rw [show n - 1 + 1 = n by omega] at e2
    simp (maxSteps := 1000000) (disch := first | assumption | omega) only [x_rf, x_m, lt_bv_r, lt_bi_r, lt_bl_r, ↓r_ck, r_get, r_put, r_more, rM_h, rM_f, rM_x, rM_wf, rM_wx, rM_wh, lt_iN, lt_b1_0, lt_b1_1, x_if1, x_eq1, x_10, x_01, x_11, x_00, ↓reduceIte, r_nz, r_ar1L0, r_ar1L1, lt_n0_, lt_n1_, upd_s, upd_o, u2_eq, u2_n1, u2_n2, r_p1, r_p5, r_p6, r_p7, r_p9, r_p10, r_p11, r_p13, r_p19, r_p23, r_p26, r_p27, r_p32, r_p33, r_p34, r_ar1, r_ar9, r_ar10, r_ar11, r_ar12, r_ar13, r_ar14, r_ar15, r_ar16, r_ar17, r_ar18, r_ar19, r_ar74, r_ar75, r_ar76, n2_, n4_, n12_, n24_, n28_, n50_, n54_, n76_, n80_, n102_, n128_, n154_, n180_, n206_, n232_, n258_, n284_, n310_, n336_, n362_, n380_, n680_, r_get0, r_get1, r_get2, r_get3, r_get4, r_get8, r_get9, r_get10, r_get11, r_get12, r_get13, r_put0, r_put1, r_put2, r_put3, r_put4, r_put5, r_put6, r_put7, r_put8, r_put9, r_put10, r_put11, r_more10, r_more12, r_more13, r_more14, r_more15, r_more16, r_more17, r_more18, r_more19, r_more20, h0, e, e1, e2, q]
theorem r_phases (d : Nat) (h : RA M o) (hK : RK H kf n) (hn : n ≤ 300) (h0 : H 0 = nI n) {size : Int32} : f_X11_phases (d + 4) (rM M o H V X) o size = if qIn size 1 26 = true then some (.inl (some (.int (qPhases kf size n))), rM M o H V (qX0 X)) else some (.inl (some (.int 0)), rM M o H V (qXe X 1)) := by
  have e1 := fun X => r_phasesOf (M := M) (o := o) (H := H) (V := V) (X := X) (size := size) d h hK hn h0
  rw [e_X11_phases]
  cases hq : qIn size 1 26
  · simp (maxSteps := 1000000) (disch := first | assumption | omega) only [x_rf, x_m, lt_bv_r, lt_bi_r, lt_bl_r, ↓r_ck, r_get, r_put, r_more, rM_h, rM_f, rM_x, rM_wf, rM_wx, rM_wh, lt_iN, lt_b1_0, lt_b1_1, x_if1, x_eq1, x_10, x_01, x_11, x_00, ↓reduceIte, r_nz, r_ar1L0, r_ar1L1, lt_n0_, lt_n1_, upd_s, upd_o, u2_eq, u2_n1, u2_n2, r_p1, r_p5, r_p6, r_p7, r_p9, r_p10, r_p11, r_p13, r_p19, r_p23, r_p26, r_p27, r_p32, r_p33, r_p34, r_ar1, r_ar9, r_ar10, r_ar11, r_ar12, r_ar13, r_ar14, r_ar15, r_ar16, r_ar17, r_ar18, r_ar19, r_ar74, r_ar75, r_ar76, n2_, n4_, n12_, n24_, n28_, n50_, n54_, n76_, n80_, n102_, n128_, n154_, n180_, n206_, n232_, n258_, n284_, n310_, n336_, n362_, n380_, n680_, r_get0, r_get1, r_get2, r_get3, r_get4, r_get8, r_get9, r_get10, r_get11, r_get12, r_get13, r_put0, r_put1, r_put2, r_put3, r_put4, r_put5, r_put6, r_put7, r_put8, r_put9, r_put10, r_put11, r_more10, r_more12, r_more13, r_more14, r_more15, r_more16, r_more17, r_more18, r_more19, r_more20, r_in, r_no, r_no0, r_no1, bI_t, bI_f, bI0, Bool.not_true, Bool.not_false, hq, Bool.false_eq_true]
    rfl
  · simp (maxSteps := 1000000) (disch := first | assumption | omega) only [x_rf, x_m, lt_bv_r, lt_bi_r, lt_bl_r, ↓r_ck, r_get, r_put, r_more, rM_h, rM_f, rM_x, rM_wf, rM_wx, rM_wh, lt_iN, lt_b1_0, lt_b1_1, x_if1, x_eq1, x_10, x_01, x_11, x_00, ↓reduceIte, r_nz, r_ar1L0, r_ar1L1, lt_n0_, lt_n1_, upd_s, upd_o, u2_eq, u2_n1, u2_n2, r_p1, r_p5, r_p6, r_p7, r_p9, r_p10, r_p11, r_p13, r_p19, r_p23, r_p26, r_p27, r_p32, r_p33, r_p34, r_ar1, r_ar9, r_ar10, r_ar11, r_ar12, r_ar13, r_ar14, r_ar15, r_ar16, r_ar17, r_ar18, r_ar19, r_ar74, r_ar75, r_ar76, n2_, n4_, n12_, n24_, n28_, n50_, n54_, n76_, n80_, n102_, n128_, n154_, n180_, n206_, n232_, n258_, n284_, n310_, n336_, n362_, n380_, n680_, r_get0, r_get1, r_get2, r_get3, r_get4, r_get8, r_get9, r_get10, r_get11, r_get12, r_get13, r_put0, r_put1, r_put2, r_put3, r_put4, r_put5, r_put6, r_put7, r_put8, r_put9, r_put10, r_put11, r_more10, r_more12, r_more13, r_more14, r_more15, r_more16, r_more17, r_more18, r_more19, r_more20, r_in, r_no, r_no0, r_no1, bI_t, bI_f, bI0, Bool.not_true, Bool.not_false, hq, e1]
    rfl
theorem r_phaseOf (d : Nat) (h : RA M o) (hK : RK H kf n) (hn : n ≤ 300) (h0 : H 0 = nI n) {size rq : Int32} : f_X11_phaseOf (d + 4) (rM M o H V X) o size rq = if qIn rq 0 (nI n - 1) = true then (if qIn size 1 26 = true then some (.inl (some (.int (qPh kf size (lt_n rq) (lt_n rq + 1) 0 0))), rM M o H V (qX0 X)) else some (.inl (some (.int 0)), rM M o H V (u2 (qX0 X) 0 0 2))) else some (.inl (some (.int 0)), rM M o H V (qXe X 1)) := by
  rw [e_X11_phaseOf]
  cases hq : qIn rq 0 (nI n - 1)
  · simp (maxSteps := 1000000) (disch := first | assumption | omega) only [x_rf, x_m, lt_bv_r, lt_bi_r, lt_bl_r, ↓r_ck, r_get, r_put, r_more, rM_h, rM_f, rM_x, rM_wf, rM_wx, rM_wh, lt_iN, lt_b1_0, lt_b1_1, x_if1, x_eq1, x_10, x_01, x_11, x_00, ↓reduceIte, r_nz, r_ar1L0, r_ar1L1, lt_n0_, lt_n1_, upd_s, upd_o, u2_eq, u2_n1, u2_n2, r_p1, r_p5, r_p6, r_p7, r_p9, r_p10, r_p11, r_p13, r_p19, r_p23, r_p26, r_p27, r_p32, r_p33, r_p34, r_ar1, r_ar9, r_ar10, r_ar11, r_ar12, r_ar13, r_ar14, r_ar15, r_ar16, r_ar17, r_ar18, r_ar19, r_ar74, r_ar75, r_ar76, n2_, n4_, n12_, n24_, n28_, n50_, n54_, n76_, n80_, n102_, n128_, n154_, n180_, n206_, n232_, n258_, n284_, n310_, n336_, n362_, n380_, n680_, r_get0, r_get1, r_get2, r_get3, r_get4, r_get8, r_get9, r_get10, r_get11, r_get12, r_get13, r_put0, r_put1, r_put2, r_put3, r_put4, r_put5, r_put6, r_put7, r_put8, r_put9, r_put10, r_put11, r_more10, r_more12, r_more13, r_more14, r_more15, r_more16, r_more17, r_more18, r_more19, r_more20, r_in, r_no, r_no0, r_no1, bI_t, bI_f, bI0, Bool.not_true, Bool.not_false, r_isNoRequest, h0, hq, Bool.false_eq_true]
  · obtain ⟨w, hw, rfl⟩ := qIn_n hn hq
    have e1 := fun X => r_phaseAt (M := M) (o := o) (H := H) (V := V) (X := X) (size := size) (d + 1) h hK hn hw
    rw [lt_iN (show w < 2147483648 by omega)]
    cases hs : qIn size 1 26
    · simp (maxSteps := 1000000) (disch := first | assumption | omega) only [x_rf, x_m, lt_bv_r, lt_bi_r, lt_bl_r, ↓r_ck, r_get, r_put, r_more, rM_h, rM_f, rM_x, rM_wf, rM_wx, rM_wh, lt_iN, lt_b1_0, lt_b1_1, x_if1, x_eq1, x_10, x_01, x_11, x_00, ↓reduceIte, r_nz, r_ar1L0, r_ar1L1, lt_n0_, lt_n1_, upd_s, upd_o, u2_eq, u2_n1, u2_n2, r_p1, r_p5, r_p6, r_p7, r_p9, r_p10, r_p11, r_p13, r_p19, r_p23, r_p26, r_p27, r_p32, r_p33, r_p34, r_ar1, r_ar9, r_ar10, r_ar11, r_ar12, r_ar13, r_ar14, r_ar15, r_ar16, r_ar17, r_ar18, r_ar19, r_ar74, r_ar75, r_ar76, n2_, n4_, n12_, n24_, n28_, n50_, n54_, n76_, n80_, n102_, n128_, n154_, n180_, n206_, n232_, n258_, n284_, n310_, n336_, n362_, n380_, n680_, r_get0, r_get1, r_get2, r_get3, r_get4, r_get8, r_get9, r_get10, r_get11, r_get12, r_get13, r_put0, r_put1, r_put2, r_put3, r_put4, r_put5, r_put6, r_put7, r_put8, r_put9, r_put10, r_put11, r_more10, r_more12, r_more13, r_more14, r_more15, r_more16, r_more17, r_more18, r_more19, r_more20, r_in, r_no, r_no0, r_no1, bI_t, bI_f, bI0, Bool.not_true, Bool.not_false, r_isNoRequest, h0, hq, hs, Bool.false_eq_true]
    · simp (maxSteps := 1000000) (disch := first | assumption | omega) only [x_rf, x_m, lt_bv_r, lt_bi_r, lt_bl_r, ↓r_ck, r_get, r_put, r_more, rM_h, rM_f, rM_x, rM_wf, rM_wx, rM_wh, lt_iN, lt_b1_0, lt_b1_1, x_if1, x_eq1, x_10, x_01, x_11, x_00, ↓reduceIte, r_nz, r_ar1L0, r_ar1L1, lt_n0_, lt_n1_, upd_s, upd_o, u2_eq, u2_n1, u2_n2, r_p1, r_p5, r_p6, r_p7, r_p9, r_p10, r_p11, r_p13, r_p19, r_p23, r_p26, r_p27, r_p32, r_p33, r_p34, r_ar1, r_ar9, r_ar10, r_ar11, r_ar12, r_ar13, r_ar14, r_ar15, r_ar16, r_ar17, r_ar18, r_ar19, r_ar74, r_ar75, r_ar76, n2_, n4_, n12_, n24_, n28_, n50_, n54_, n76_, n80_, n102_, n128_, n154_, n180_, n206_, n232_, n258_, n284_, n310_, n336_, n362_, n380_, n680_, r_get0, r_get1, r_get2, r_get3, r_get4, r_get8, r_get9, r_get10, r_get11, r_get12, r_get13, r_put0, r_put1, r_put2, r_put3, r_put4, r_put5, r_put6, r_put7, r_put8, r_put9, r_put10, r_put11, r_more10, r_more12, r_more13, r_more14, r_more15, r_more16, r_more17, r_more18, r_more19, r_more20, r_in, r_no, r_no0, r_no1, bI_t, bI_f, bI0, Bool.not_true, Bool.not_false, r_isNoRequest, h0, hq, hs, e1]
def qSlok (size other : Int32) : Bool := qIn size 1 26 && qIn other 1 size
theorem r_slack (d : Nat) (h : RA M o) (hK : RK H kf n) (hn : n ≤ 300) (h0 : H 0 = nI n) {size other : Int32} :
    (qSlok size other = false → f_X11_slack (d + 7) (rM M o H V X) o size other = some (.inl (some (.int 0)), rM M o H V (qXe X 1))) ∧
    (qSlok size other = true → ∃ X' c1 c2, XQ (qX0 X) X' ∧ f_X11_slack (d + 7) (rM M o H V X) o size other = some (.inl (some (.int (((size * (nI n - qHits2 kf n (-1) (lt_n other) c2)) + ((size - other + 1) * other)) - ((size - other + 1) * (nI n - qHits2 kf n 0 (lt_n size) c1))))), rM M o H V X')) := by
  have e29 : ∀ X s, f_X11_slack_29 (d + 7) (rM M o H V X) o size other s = f_X11_slack_30 (d + 7) (rM M o H V X) o size other 0 s := fun X s => e_X11_slack_29 ..
  rw [e_X11_slack]
  unfold qSlok
  refine ⟨fun hq => ?_, fun hq => ?_⟩
  · have e30 : f_X11_slack_30 (d + 7) (rM M o H V (u2 X 0 0 0)) o size other 0 o = some (.inl (some (.int 0)), rM M o H V (qXe X 1)) := by
      rw [e_X11_slack_30]
      simp (maxSteps := 1000000) (disch := first | assumption | omega) only [x_rf, x_m, lt_bv_r, lt_bi_r, lt_bl_r, ↓r_ck, r_get, r_put, r_more, rM_h, rM_f, rM_x, rM_wf, rM_wx, rM_wh, lt_iN, lt_b1_0, lt_b1_1, x_if1, x_eq1, x_10, x_01, x_11, x_00, ↓reduceIte, r_nz, r_ar1L0, r_ar1L1, lt_n0_, lt_n1_, upd_s, upd_o, u2_eq, u2_n1, u2_n2, r_p1, r_p5, r_p6, r_p7, r_p9, r_p10, r_p11, r_p13, r_p19, r_p23, r_p26, r_p27, r_p32, r_p33, r_p34, r_ar1, r_ar9, r_ar10, r_ar11, r_ar12, r_ar13, r_ar14, r_ar15, r_ar16, r_ar17, r_ar18, r_ar19, r_ar74, r_ar75, r_ar76, n2_, n4_, n12_, n24_, n28_, n50_, n54_, n76_, n80_, n102_, n128_, n154_, n180_, n206_, n232_, n258_, n284_, n310_, n336_, n362_, n380_, n680_, r_get0, r_get1, r_get2, r_get3, r_get4, r_get8, r_get9, r_get10, r_get11, r_get12, r_get13, r_put0, r_put1, r_put2, r_put3, r_put4, r_put5, r_put6, r_put7, r_put8, r_put9, r_put10, r_put11, r_more10, r_more12, r_more13, r_more14, r_more15, r_more16, r_more17, r_more18, r_more19, r_more20, r_in, r_no, r_no0, r_no1, bI_t, bI_f, bI0, Bool.not_true, Bool.not_false]
      rfl
    cases h1 : qIn size 1 26
    · simp (maxSteps := 1000000) (disch := first | assumption | omega) only [x_rf, x_m, lt_bv_r, lt_bi_r, lt_bl_r, ↓r_ck, r_get, r_put, r_more, rM_h, rM_f, rM_x, rM_wf, rM_wx, rM_wh, lt_iN, lt_b1_0, lt_b1_1, x_if1, x_eq1, x_10, x_01, x_11, x_00, ↓reduceIte, r_nz, r_ar1L0, r_ar1L1, lt_n0_, lt_n1_, upd_s, upd_o, u2_eq, u2_n1, u2_n2, r_p1, r_p5, r_p6, r_p7, r_p9, r_p10, r_p11, r_p13, r_p19, r_p23, r_p26, r_p27, r_p32, r_p33, r_p34, r_ar1, r_ar9, r_ar10, r_ar11, r_ar12, r_ar13, r_ar14, r_ar15, r_ar16, r_ar17, r_ar18, r_ar19, r_ar74, r_ar75, r_ar76, n2_, n4_, n12_, n24_, n28_, n50_, n54_, n76_, n80_, n102_, n128_, n154_, n180_, n206_, n232_, n258_, n284_, n310_, n336_, n362_, n380_, n680_, r_get0, r_get1, r_get2, r_get3, r_get4, r_get8, r_get9, r_get10, r_get11, r_get12, r_get13, r_put0, r_put1, r_put2, r_put3, r_put4, r_put5, r_put6, r_put7, r_put8, r_put9, r_put10, r_put11, r_more10, r_more12, r_more13, r_more14, r_more15, r_more16, r_more17, r_more18, r_more19, r_more20, r_in, r_no, r_no0, r_no1, bI_t, bI_f, bI0, Bool.not_true, Bool.not_false, h1, e29, e30]
    · rw [h1, Bool.true_and] at hq
      simp (maxSteps := 1000000) (disch := first | assumption | omega) only [x_rf, x_m, lt_bv_r, lt_bi_r, lt_bl_r, ↓r_ck, r_get, r_put, r_more, rM_h, rM_f, rM_x, rM_wf, rM_wx, rM_wh, lt_iN, lt_b1_0, lt_b1_1, x_if1, x_eq1, x_10, x_01, x_11, x_00, ↓reduceIte, r_nz, r_ar1L0, r_ar1L1, lt_n0_, lt_n1_, upd_s, upd_o, u2_eq, u2_n1, u2_n2, r_p1, r_p5, r_p6, r_p7, r_p9, r_p10, r_p11, r_p13, r_p19, r_p23, r_p26, r_p27, r_p32, r_p33, r_p34, r_ar1, r_ar9, r_ar10, r_ar11, r_ar12, r_ar13, r_ar14, r_ar15, r_ar16, r_ar17, r_ar18, r_ar19, r_ar74, r_ar75, r_ar76, n2_, n4_, n12_, n24_, n28_, n50_, n54_, n76_, n80_, n102_, n128_, n154_, n180_, n206_, n232_, n258_, n284_, n310_, n336_, n362_, n380_, n680_, r_get0, r_get1, r_get2, r_get3, r_get4, r_get8, r_get9, r_get10, r_get11, r_get12, r_get13, r_put0, r_put1, r_put2, r_put3, r_put4, r_put5, r_put6, r_put7, r_put8, r_put9, r_put10, r_put11, r_more10, r_more12, r_more13, r_more14, r_more15, r_more16, r_more17, r_more18, r_more19, r_more20, r_in, r_no, r_no0, r_no1, bI_t, bI_f, bI0, Bool.not_true, Bool.not_false, h1, hq, e29, e30]
  · obtain ⟨h1, h2⟩ := Bool.and_eq_true_iff.mp hq
    obtain ⟨s, hs1, hs2, rfl⟩ := qIn_sz h1
    obtain ⟨t, ht1, ht2, ht3, rfl⟩ := qIn_s (lo := 1) (by omega) (by omega) (by rw [lt_iT (by omega)]; omega) h2
    rw [lt_iN (show s < 2147483648 by omega), lt_iN (show t < 2147483648 by omega)]
    obtain ⟨X1, c1, a1, a2⟩ := r_hitsOf (M := M) (o := o) (H := H) (V := V) (X := qX0 X) (rule := 0) (size := s) d h hK hn h0 (by omega) (by omega)
    obtain ⟨X2, c2, b1, b2⟩ := r_hitsOf (M := M) (o := o) (H := H) (V := V) (X := X1) (rule := -1) (size := t) d h hK hn h0 (by omega) (by omega)
    refine ⟨X2, c1, c2, a1.trans b1, ?_⟩
    unfold qX0 at a2
    have e30 : f_X11_slack_30 (d + 7) (rM M o H V (u2 X 0 0 0)) o (nI s) (nI t) 1 o = some (.inl (some (.int (((nI s * (nI n - qHits2 kf n (-1) t c2)) + ((nI s - nI t + 1) * nI t)) - ((nI s - nI t + 1) * (nI n - qHits2 kf n 0 s c1))))), rM M o H V X2) := by
      rw [e_X11_slack_30]
      simp (maxSteps := 1000000) (disch := first | assumption | omega) only [x_rf, x_m, lt_bv_r, lt_bi_r, lt_bl_r, ↓r_ck, r_get, r_put, r_more, rM_h, rM_f, rM_x, rM_wf, rM_wx, rM_wh, lt_iN, lt_b1_0, lt_b1_1, x_if1, x_eq1, x_10, x_01, x_11, x_00, ↓reduceIte, r_nz, r_ar1L0, r_ar1L1, lt_n0_, lt_n1_, upd_s, upd_o, u2_eq, u2_n1, u2_n2, r_p1, r_p5, r_p6, r_p7, r_p9, r_p10, r_p11, r_p13, r_p19, r_p23, r_p26, r_p27, r_p32, r_p33, r_p34, r_ar1, r_ar9, r_ar10, r_ar11, r_ar12, r_ar13, r_ar14, r_ar15, r_ar16, r_ar17, r_ar18, r_ar19, r_ar74, r_ar75, r_ar76, n2_, n4_, n12_, n24_, n28_, n50_, n54_, n76_, n80_, n102_, n128_, n154_, n180_, n206_, n232_, n258_, n284_, n310_, n336_, n362_, n380_, n680_, r_get0, r_get1, r_get2, r_get3, r_get4, r_get8, r_get9, r_get10, r_get11, r_get12, r_get13, r_put0, r_put1, r_put2, r_put3, r_put4, r_put5, r_put6, r_put7, r_put8, r_put9, r_put10, r_put11, r_more10, r_more12, r_more13, r_more14, r_more15, r_more16, r_more17, r_more18, r_more19, r_more20, r_in, r_no, r_no0, r_no1, bI_t, bI_f, bI0, Bool.not_true, Bool.not_false, h0, a2, b2]
    simp (maxSteps := 1000000) (disch := first | assumption | omega) only [x_rf, x_m, lt_bv_r, lt_bi_r, lt_bl_r, ↓r_ck, r_get, r_put, r_more, rM_h, rM_f, rM_x, rM_wf, rM_wx, rM_wh, lt_iN, lt_b1_0, lt_b1_1, x_if1, x_eq1, x_10, x_01, x_11, x_00, ↓reduceIte, r_nz, r_ar1L0, r_ar1L1, lt_n0_, lt_n1_, upd_s, upd_o, u2_eq, u2_n1, u2_n2, r_p1, r_p5, r_p6, r_p7, r_p9, r_p10, r_p11, r_p13, r_p19, r_p23, r_p26, r_p27, r_p32, r_p33, r_p34, r_ar1, r_ar9, r_ar10, r_ar11, r_ar12, r_ar13, r_ar14, r_ar15, r_ar16, r_ar17, r_ar18, r_ar19, r_ar74, r_ar75, r_ar76, n2_, n4_, n12_, n24_, n28_, n50_, n54_, n76_, n80_, n102_, n128_, n154_, n180_, n206_, n232_, n258_, n284_, n310_, n336_, n362_, n380_, n680_, r_get0, r_get1, r_get2, r_get3, r_get4, r_get8, r_get9, r_get10, r_get11, r_get12, r_get13, r_put0, r_put1, r_put2, r_put3, r_put4, r_put5, r_put6, r_put7, r_put8, r_put9, r_put10, r_put11, r_more10, r_more12, r_more13, r_more14, r_more15, r_more16, r_more17, r_more18, r_more19, r_more20, r_in, r_no, r_no0, r_no1, bI_t, bI_f, bI0, Bool.not_true, Bool.not_false, h1, h2, e30]
/-- the mean distance: sum, how many -/
def qMD (kf : Nat → Nat) (n : Nat) : Nat → Int32 → Int32 → Int32 × Int32
  | 0, s, c => (s, c)
  | m + 1, s, c => if qDist kf (kf (n - (m + 1))) (n - (m + 1)) 0 = -1 then qMD kf n m s c else qMD kf n m (s + qDist kf (kf (n - (m + 1))) (n - (m + 1)) 0) (c + 1)
theorem r_md_11 (d : Nat) (h : RA M o) (hK : RK H kf n) (hn : n ≤ 300) (h0 : H 0 = nI n) : ∀ (m : Nat) (s c : Int32), m ≤ n → f_X11_meanDistance_11 (d + 3) (rM M o H V X) o s c (nI (n - m)) = f_X11_meanDistance_11 (d + 3) (rM M o H V X) o (qMD kf n m s c).1 (qMD kf n m s c).2 (nI n)
  | 0, s, c, _ => rfl
  | m + 1, s, c, hm => by
    have hlt : nI (n - (m + 1)) < nI n := by rw [nI_ltP (by omega) (by omega)]; omega
    have g2 : nI (n - (m + 1)) + 1 = nI (n - m) := by
      rw [show nI (n - (m + 1)) + 1 = nI (n - (m + 1) + 1) from lt_iA (j := n - (m + 1)) (k := 1)]
      congr 1
      omega
    have ih := fun s c => r_md_11 d h hK hn h0 m s c (by omega)
    have e1 := r_distanceOf (M := M) (o := o) (H := H) (V := V) (X := X) d h hK hn (show n - (m + 1) < n by omega)
    have z0 : ∀ x : Int32, x + 0 = x := fun x => Int32.add_zero _
    rw [show qMD kf n (m + 1) s c = if qDist kf (kf (n - (m + 1))) (n - (m + 1)) 0 = -1 then qMD kf n m s c else qMD kf n m (s + qDist kf (kf (n - (m + 1))) (n - (m + 1)) 0) (c + 1) from rfl, e_X11_meanDistance_11]
    by_cases q : qDist kf (kf (n - (m + 1))) (n - (m + 1)) 0 = -1
    · rw [if_pos q]
      simp (maxSteps := 1000000) (disch := first | assumption | omega) only [x_rf, x_m, lt_bv_r, lt_bi_r, lt_bl_r, ↓r_ck, r_get, r_put, r_more, rM_h, rM_f, rM_x, rM_wf, rM_wx, rM_wh, lt_iN, lt_b1_0, lt_b1_1, x_if1, x_eq1, x_10, x_01, x_11, x_00, ↓reduceIte, r_nz, r_ar1L0, r_ar1L1, lt_n0_, lt_n1_, upd_s, upd_o, u2_eq, u2_n1, u2_n2, r_p1, r_p5, r_p6, r_p7, r_p9, r_p10, r_p11, r_p13, r_p19, r_p23, r_p26, r_p27, r_p32, r_p33, r_p34, r_ar1, r_ar9, r_ar10, r_ar11, r_ar12, r_ar13, r_ar14, r_ar15, r_ar16, r_ar17, r_ar18, r_ar19, r_ar74, r_ar75, r_ar76, n2_, n4_, n12_, n24_, n28_, n50_, n54_, n76_, n80_, n102_, n128_, n154_, n180_, n206_, n232_, n258_, n284_, n310_, n336_, n362_, n380_, n680_, r_get0, r_get1, r_get2, r_get3, r_get4, r_get8, r_get9, r_get10, r_get11, r_get12, r_get13, r_put0, r_put1, r_put2, r_put3, r_put4, r_put5, r_put6, r_put7, r_put8, r_put9, r_put10, r_put11, r_more10, r_more12, r_more13, r_more14, r_more15, r_more16, r_more17, r_more18, r_more19, r_more20, h0, hlt, e1, q, g2, z0]
      exact ih s c
    · rw [if_neg q]
      simp (maxSteps := 1000000) (disch := first | assumption | omega) only [x_rf, x_m, lt_bv_r, lt_bi_r, lt_bl_r, ↓r_ck, r_get, r_put, r_more, rM_h, rM_f, rM_x, rM_wf, rM_wx, rM_wh, lt_iN, lt_b1_0, lt_b1_1, x_if1, x_eq1, x_10, x_01, x_11, x_00, ↓reduceIte, r_nz, r_ar1L0, r_ar1L1, lt_n0_, lt_n1_, upd_s, upd_o, u2_eq, u2_n1, u2_n2, r_p1, r_p5, r_p6, r_p7, r_p9, r_p10, r_p11, r_p13, r_p19, r_p23, r_p26, r_p27, r_p32, r_p33, r_p34, r_ar1, r_ar9, r_ar10, r_ar11, r_ar12, r_ar13, r_ar14, r_ar15, r_ar16, r_ar17, r_ar18, r_ar19, r_ar74, r_ar75, r_ar76, n2_, n4_, n12_, n24_, n28_, n50_, n54_, n76_, n80_, n102_, n128_, n154_, n180_, n206_, n232_, n258_, n284_, n310_, n336_, n362_, n380_, n680_, r_get0, r_get1, r_get2, r_get3, r_get4, r_get8, r_get9, r_get10, r_get11, r_get12, r_get13, r_put0, r_put1, r_put2, r_put3, r_put4, r_put5, r_put6, r_put7, r_put8, r_put9, r_put10, r_put11, r_more10, r_more12, r_more13, r_more14, r_more15, r_more16, r_more17, r_more18, r_more19, r_more20, h0, hlt, e1, q, g2]
      exact ih _ _
def qMean (kf : Nat → Nat) (n : Nat) : UInt32 := if (qMD kf n n 0 0).2 = 0 then FP.fconst0 else FP.fdiv (FP.i2f (qMD kf n n 0 0).1) (FP.i2f (qMD kf n n 0 0).2)
theorem r_meanDistance (d : Nat) (h : RA M o) (hK : RK H kf n) (hn : n ≤ 300) (h0 : H 0 = nI n) (hnan : ∀ z : Option (LO × LM), lt_n32 (qMean kf n) z = z) : f_X11_meanDistance (d + 4) (rM M o H V X) o = some (.inl (some (.float (qMean kf n))), rM M o H V (qX0 X)) := by
  have e := r_md_11 (M := M) (o := o) (H := H) (V := V) (X := qX0 X) (d + 1) h hK hn h0 n 0 0 (Nat.le_refl _)
  rw [Nat.sub_self] at e
  have hlt : ¬ nI n < nI n := by rw [nI_ltP (by omega) (by omega)]; omega
  unfold qX0 at e
  rw [e_X11_meanDistance]
  simp (maxSteps := 1000000) (disch := first | assumption | omega) only [x_rf, x_m, lt_bv_r, lt_bi_r, lt_bl_r, ↓r_ck, r_get, r_put, r_more, rM_h, rM_f, rM_x, rM_wf, rM_wx, rM_wh, lt_iN, lt_b1_0, lt_b1_1, x_if1, x_eq1, x_10, x_01, x_11, x_00, ↓reduceIte, r_nz, r_ar1L0, r_ar1L1, lt_n0_, lt_n1_, upd_s, upd_o, u2_eq, u2_n1, u2_n2, r_p1, r_p5, r_p6, r_p7, r_p9, r_p10, r_p11, r_p13, r_p19, r_p23, r_p26, r_p27, r_p32, r_p33, r_p34, r_ar1, r_ar9, r_ar10, r_ar11, r_ar12, r_ar13, r_ar14, r_ar15, r_ar16, r_ar17, r_ar18, r_ar19, r_ar74, r_ar75, r_ar76, n2_, n4_, n12_, n24_, n28_, n50_, n54_, n76_, n80_, n102_, n128_, n154_, n180_, n206_, n232_, n258_, n284_, n310_, n336_, n362_, n380_, n680_, r_get0, r_get1, r_get2, r_get3, r_get4, r_get8, r_get9, r_get10, r_get11, r_get12, r_get13, r_put0, r_put1, r_put2, r_put3, r_put4, r_put5, r_put6, r_put7, r_put8, r_put9, r_put10, r_put11, r_more10, r_more12, r_more13, r_more14, r_more15, r_more16, r_more17, r_more18, r_more19, r_more20]
  refine e.trans ?_
  rw [e_X11_meanDistance_11]
  unfold qMean at hnan ⊢
  by_cases q : (qMD kf n n 0 0).2 = 0
  · rw [if_pos q] at hnan ⊢
    simp (maxSteps := 1000000) (disch := first | assumption | omega) only [x_rf, x_m, lt_bv_r, lt_bi_r, lt_bl_r, ↓r_ck, r_get, r_put, r_more, rM_h, rM_f, rM_x, rM_wf, rM_wx, rM_wh, lt_iN, lt_b1_0, lt_b1_1, x_if1, x_eq1, x_10, x_01, x_11, x_00, ↓reduceIte, r_nz, r_ar1L0, r_ar1L1, lt_n0_, lt_n1_, upd_s, upd_o, u2_eq, u2_n1, u2_n2, r_p1, r_p5, r_p6, r_p7, r_p9, r_p10, r_p11, r_p13, r_p19, r_p23, r_p26, r_p27, r_p32, r_p33, r_p34, r_ar1, r_ar9, r_ar10, r_ar11, r_ar12, r_ar13, r_ar14, r_ar15, r_ar16, r_ar17, r_ar18, r_ar19, r_ar74, r_ar75, r_ar76, n2_, n4_, n12_, n24_, n28_, n50_, n54_, n76_, n80_, n102_, n128_, n154_, n180_, n206_, n232_, n258_, n284_, n310_, n336_, n362_, n380_, n680_, r_get0, r_get1, r_get2, r_get3, r_get4, r_get8, r_get9, r_get10, r_get11, r_get12, r_get13, r_put0, r_put1, r_put2, r_put3, r_put4, r_put5, r_put6, r_put7, r_put8, r_put9, r_put10, r_put11, r_more10, r_more12, r_more13, r_more14, r_more15, r_more16, r_more17, r_more18, r_more19, r_more20, h0, hlt, q]
    rfl
  · rw [if_neg q] at hnan ⊢
    simp (maxSteps := 1000000) (disch := first | assumption | omega) only [x_rf, x_m, lt_bv_r, lt_bi_r, lt_bl_r, ↓r_ck, r_get, r_put, r_more, rM_h, rM_f, rM_x, rM_wf, rM_wx, rM_wh, lt_iN, lt_b1_0, lt_b1_1, x_if1, x_eq1, x_10, x_01, x_11, x_00, ↓reduceIte, r_nz, r_ar1L0, r_ar1L1, lt_n0_, lt_n1_, upd_s, upd_o, u2_eq, u2_n1, u2_n2, r_p1, r_p5, r_p6, r_p7, r_p9, r_p10, r_p11, r_p13, r_p19, r_p23, r_p26, r_p27, r_p32, r_p33, r_p34, r_ar1, r_ar9, r_ar10, r_ar11, r_ar12, r_ar13, r_ar14, r_ar15, r_ar16, r_ar17, r_ar18, r_ar19, r_ar74, r_ar75, r_ar76, n2_, n4_, n12_, n24_, n28_, n50_, n54_, n76_, n80_, n102_, n128_, n154_, n180_, n206_, n232_, n258_, n284_, n310_, n336_, n362_, n380_, n680_, r_get0, r_get1, r_get2, r_get3, r_get4, r_get8, r_get9, r_get10, r_get11, r_get12, r_get13, r_put0, r_put1, r_put2, r_put3, r_put4, r_put5, r_put6, r_put7, r_put8, r_put9, r_put10, r_put11, r_more10, r_more12, r_more13, r_more14, r_more15, r_more16, r_more17, r_more18, r_more19, r_more20, h0, hlt, q, hnan]
    rfl
def qShare2 (U : Nat → Int32) : UInt64 := if U 12 + U 13 = 0 then FP.dconst0 else FP.ddiv (FP.i2d (U 12)) (FP.i2d (U 12 + U 13))
theorem r_hitShare (d : Nat) (h : RA M o) {cache : Int32} (hnan : ∀ u, u < 6 → ∀ z : Option (LO × LM), lt_n64 (qShare2 (V u)) z = z) : f_X11_hitShare (d + 3) (rM M o H V X) o cache = if qIn cache 0 5 = true then some (.inl (some (.double (qShare2 (V (lt_n cache))))), rM M o H V (qX0 X)) else some (.inl (some (.double FP.dconst0)), rM M o H V (qXe X 1)) := by
  rw [e_X11_hitShare]
  cases hq : qIn cache 0 5
  · simp (maxSteps := 1000000) (disch := first | assumption | omega) only [x_rf, x_m, lt_bv_r, lt_bi_r, lt_bl_r, ↓r_ck, r_get, r_put, r_more, rM_h, rM_f, rM_x, rM_wf, rM_wx, rM_wh, lt_iN, lt_b1_0, lt_b1_1, x_if1, x_eq1, x_10, x_01, x_11, x_00, ↓reduceIte, r_nz, r_ar1L0, r_ar1L1, lt_n0_, lt_n1_, upd_s, upd_o, u2_eq, u2_n1, u2_n2, r_p1, r_p5, r_p6, r_p7, r_p9, r_p10, r_p11, r_p13, r_p19, r_p23, r_p26, r_p27, r_p32, r_p33, r_p34, r_ar1, r_ar9, r_ar10, r_ar11, r_ar12, r_ar13, r_ar14, r_ar15, r_ar16, r_ar17, r_ar18, r_ar19, r_ar74, r_ar75, r_ar76, n2_, n4_, n12_, n24_, n28_, n50_, n54_, n76_, n80_, n102_, n128_, n154_, n180_, n206_, n232_, n258_, n284_, n310_, n336_, n362_, n380_, n680_, r_get0, r_get1, r_get2, r_get3, r_get4, r_get8, r_get9, r_get10, r_get11, r_get12, r_get13, r_put0, r_put1, r_put2, r_put3, r_put4, r_put5, r_put6, r_put7, r_put8, r_put9, r_put10, r_put11, r_more10, r_more12, r_more13, r_more14, r_more15, r_more16, r_more17, r_more18, r_more19, r_more20, r_in, r_no, r_no0, r_no1, bI_t, bI_f, bI0, Bool.not_true, Bool.not_false, r_isNoCache, hq, Bool.false_eq_true]
  · obtain ⟨ch, hch, rfl⟩ := qIn_c hq
    have hch' : ch < 18 := by omega
    rw [lt_iN (show ch < 2147483648 by omega)]
    have g12 : ∀ X, f_X11_get (d + 2) (rM M o H V X) o (nI ch) 12 = _ := fun X => r_getV (M := M) (o := o) (H := H) (V := V) (X := X) (u := ch) (w := 12) (d + 1) h hch' (by omega)
    have g13 : ∀ X, f_X11_get (d + 2) (rM M o H V X) o (nI ch) 13 = _ := fun X => r_getV (M := M) (o := o) (H := H) (V := V) (X := X) (u := ch) (w := 13) (d + 1) h hch' (by omega)
    have hz := hnan ch hch
    unfold qShare2 at hz ⊢
    by_cases q : V ch 12 + V ch 13 = 0
    · rw [if_pos q]
      simp (maxSteps := 1000000) (disch := first | assumption | omega) only [x_rf, x_m, lt_bv_r, lt_bi_r, lt_bl_r, ↓r_ck, r_get, r_put, r_more, rM_h, rM_f, rM_x, rM_wf, rM_wx, rM_wh, lt_iN, lt_b1_0, lt_b1_1, x_if1, x_eq1, x_10, x_01, x_11, x_00, ↓reduceIte, r_nz, r_ar1L0, r_ar1L1, lt_n0_, lt_n1_, upd_s, upd_o, u2_eq, u2_n1, u2_n2, r_p1, r_p5, r_p6, r_p7, r_p9, r_p10, r_p11, r_p13, r_p19, r_p23, r_p26, r_p27, r_p32, r_p33, r_p34, r_ar1, r_ar9, r_ar10, r_ar11, r_ar12, r_ar13, r_ar14, r_ar15, r_ar16, r_ar17, r_ar18, r_ar19, r_ar74, r_ar75, r_ar76, n2_, n4_, n12_, n24_, n28_, n50_, n54_, n76_, n80_, n102_, n128_, n154_, n180_, n206_, n232_, n258_, n284_, n310_, n336_, n362_, n380_, n680_, r_get0, r_get1, r_get2, r_get3, r_get4, r_get8, r_get9, r_get10, r_get11, r_get12, r_get13, r_put0, r_put1, r_put2, r_put3, r_put4, r_put5, r_put6, r_put7, r_put8, r_put9, r_put10, r_put11, r_more10, r_more12, r_more13, r_more14, r_more15, r_more16, r_more17, r_more18, r_more19, r_more20, r_in, r_no, r_no0, r_no1, bI_t, bI_f, bI0, Bool.not_true, Bool.not_false, r_isNoCache, hq, g12, g13, q]
    · rw [if_neg q] at hz ⊢
      simp (maxSteps := 1000000) (disch := first | assumption | omega) only [x_rf, x_m, lt_bv_r, lt_bi_r, lt_bl_r, ↓r_ck, r_get, r_put, r_more, rM_h, rM_f, rM_x, rM_wf, rM_wx, rM_wh, lt_iN, lt_b1_0, lt_b1_1, x_if1, x_eq1, x_10, x_01, x_11, x_00, ↓reduceIte, r_nz, r_ar1L0, r_ar1L1, lt_n0_, lt_n1_, upd_s, upd_o, u2_eq, u2_n1, u2_n2, r_p1, r_p5, r_p6, r_p7, r_p9, r_p10, r_p11, r_p13, r_p19, r_p23, r_p26, r_p27, r_p32, r_p33, r_p34, r_ar1, r_ar9, r_ar10, r_ar11, r_ar12, r_ar13, r_ar14, r_ar15, r_ar16, r_ar17, r_ar18, r_ar19, r_ar74, r_ar75, r_ar76, n2_, n4_, n12_, n24_, n28_, n50_, n54_, n76_, n80_, n102_, n128_, n154_, n180_, n206_, n232_, n258_, n284_, n310_, n336_, n362_, n380_, n680_, r_get0, r_get1, r_get2, r_get3, r_get4, r_get8, r_get9, r_get10, r_get11, r_get12, r_get13, r_put0, r_put1, r_put2, r_put3, r_put4, r_put5, r_put6, r_put7, r_put8, r_put9, r_put10, r_put11, r_more10, r_more12, r_more13, r_more14, r_more15, r_more16, r_more17, r_more18, r_more19, r_more20, r_in, r_no, r_no0, r_no1, bI_t, bI_f, bI0, Bool.not_true, Bool.not_false, r_isNoCache, hq, g12, g13, q, hz]
end Sa
