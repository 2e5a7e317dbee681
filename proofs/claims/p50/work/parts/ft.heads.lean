/-! THE LAW: isShamed(), whole -/
section Gi
variable {M M' N : LM} {T T' T2 : BT} {R R' : Nat → BT} {c o ru rm gr ks mo : Nat} {x2 : Int32} {z co W : Nat → Nat} {mk : Bool}
theorem sh_78 (d : Nat) (hx : x2 = 0 ∨ x2 = 1) (hr : ru = if mk = true then 3 else 2) (h1 : 1 ≤ rm) (h2 : rm ≤ 4) (h3 : rm + 1 ≤ gr) (h4 : gr ≤ 6) (hL : LW M T R c) (hK : KT (fun _ => 1) co W T) : ∃ M', f_L_isShamed_78 (d + 15) M 2 1 x2 (nI ru) (nI rm) (nI gr) = some (.inl (some (.int 1)), M') ∧ FX TT 160000 3400000 M M' := by
  have L1 := LW_drw hL
  have L2 := LW_drw L1
  have F2 : FX TT 0 0 M (drw (drw M)) := FX_drw.tr FX_drw
  rcases hx with rfl | rfl
  · have wa := drv_lt (M := M) (m := 4) (by omega)
    have wb := drv_lt (M := drw M) (m := 9) (by omega)
    obtain ⟨M', e, F⟩ := sh_tail (ru := ru) (rm := rm) (gr := gr) (ks := 2 + drv M 4) (mo := 1 + drv (drw M) 9) d hr h1 h2 h3 h4 (by omega) (by omega) (by omega) (by omega) L2 hK
    refine ⟨M', ?_, (F2.tr F).mo (fun _ _ q => q) (by omega) (by omega)⟩
    rw [e_L_isShamed_78, if_pos rfl, lt_ck_t hL.2, show f_X11_n (d + 14) M 1 4 = _ from draw_n (m := 4) (d + 13) hL.2 (by omega) (by omega), lt_bi_r, if_pos rfl, lt_ck_t L1.2, show f_X11_n (d + 14) (drw M) 1 9 = _ from draw_n (m := 9) (d + 13) L1.2 (by omega) (by omega), lt_bi_r, show (2 : Int32) + nI (drv M 4) = nI (2 + drv M 4) from lt_iA (j := 2), show (1 : Int32) + nI (drv (drw M) 9) = nI (1 + drv (drw M) 9) from lt_iA (j := 1)]
    exact e
  · have wa := drv_lt (M := M) (m := 2) (by omega)
    have wb := drv_lt (M := drw M) (m := 4) (by omega)
    obtain ⟨M', e, F⟩ := sh_tail (ru := ru) (rm := rm) (gr := gr) (ks := 4 + drv M 2) (mo := 6 + drv (drw M) 4) d hr h1 h2 h3 h4 (by omega) (by omega) (by omega) (by omega) L2 hK
    refine ⟨M', ?_, (F2.tr F).mo (fun _ _ q => q) (by omega) (by omega)⟩
    rw [e_L_isShamed_78, if_neg (by decide), lt_ck_t hL.2, show f_X11_n (d + 14) M 1 2 = _ from draw_n (m := 2) (d + 13) hL.2 (by omega) (by omega), lt_bi_r, if_neg (by decide), lt_ck_t L1.2, show f_X11_n (d + 14) (drw M) 1 4 = _ from draw_n (m := 4) (d + 13) L1.2 (by omega) (by omega), lt_bi_r, show (4 : Int32) + nI (drv M 2) = nI (4 + drv M 2) from lt_iA (j := 4), show (6 : Int32) + nI (drv (drw M) 4) = nI (6 + drv (drw M) 4) from lt_iA (j := 6)]
    exact e
theorem sh_51 (d : Nat) (hx : x2 = 0 ∨ x2 = 1) (hr : ru = if mk = true then 3 else 2) (h1 : 1 ≤ rm) (h2 : rm ≤ 4) (hL : LW M T R c) (hK : KT (fun _ => 1) co W T) : ∃ M', f_L_isShamed_51 (d + 15) M 2 1 x2 (nI ru) (nI rm) = some (.inl (some (.int 1)), M') ∧ FX TT 160000 3400000 M M' := by
  have L1 := LW_drw hL
  rcases hx with rfl | rfl
  · have wa := drv_lt (M := M) (m := 6 - rm) (by omega)
    obtain ⟨M', e, F⟩ := sh_78 (gr := rm + 1 + drv M (6 - rm)) d (Or.inl rfl) hr h1 h2 (by omega) (by omega) L1 hK
    refine ⟨M', ?_, (FX_drw.tr F).mo (fun _ _ q => q) (by omega) (by omega)⟩
    rw [e_L_isShamed_51, if_pos rfl, lt_ck_t hL.2, show (6 : Int32) - nI rm = nI (6 - rm) from nI_sub (a := 6) (by omega), show f_X11_n (d + 14) M 1 (nI (6 - rm)) = _ from draw_n (m := 6 - rm) (d + 13) hL.2 (by omega) (by omega), lt_bi_r, nI_p1, lt_iA]
    exact e
  · obtain ⟨M', e, F⟩ := sh_78 (gr := rm + 1) d (Or.inr rfl) hr h1 h2 (by omega) (by omega) hL hK
    refine ⟨M', ?_, F⟩
    rw [e_L_isShamed_51, if_neg (by decide), nI_p1]
    exact e
theorem sh_29 (d : Nat) (hx : x2 = 0 ∨ x2 = 1) (hr : ru = if mk = true then 3 else 2) (hL : LW M T R c) (hK : KT (fun _ => 1) co W T) : ∃ M', f_L_isShamed_29 (d + 15) M 2 1 x2 (nI ru) = some (.inl (some (.int 1)), M') ∧ FX TT 160000 3400000 M M' := by
  have L1 := LW_drw hL
  rcases hx with rfl | rfl
  · have wa := drv_lt (M := M) (m := 4) (by omega)
    obtain ⟨M', e, F⟩ := sh_51 (rm := 1 + drv M 4) d (Or.inl rfl) hr (by omega) (by omega) L1 hK
    refine ⟨M', ?_, (FX_drw.tr F).mo (fun _ _ q => q) (by omega) (by omega)⟩
    rw [e_L_isShamed_29, if_pos rfl, lt_ck_t hL.2, show f_X11_n (d + 14) M 1 4 = _ from draw_n (m := 4) (d + 13) hL.2 (by omega) (by omega), lt_bi_r, show (1 : Int32) + nI (drv M 4) = nI (1 + drv M 4) from lt_iA (j := 1)]
    exact e
  · have wa := drv_lt (M := M) (m := 2) (by omega)
    obtain ⟨M', e, F⟩ := sh_51 (rm := 2 + drv M 2) d (Or.inr rfl) hr (by omega) (by omega) L1 hK
    refine ⟨M', ?_, (FX_drw.tr F).mo (fun _ _ q => q) (by omega) (by omega)⟩
    rw [e_L_isShamed_29, if_neg (by decide), lt_ck_t hL.2, show f_X11_n (d + 14) M 1 2 = _ from draw_n (m := 2) (d + 13) hL.2 (by omega) (by omega), lt_bi_r, show (2 : Int32) + nI (drv M 2) = nI (2 + drv M 2) from lt_iA (j := 2)]
    exact e
theorem sh_13 (d : Nat) (hx : x2 = 0 ∨ x2 = 1) (hL : LW M T R c) (hK : KT (fun _ => 1) co W T) : ∃ M', f_L_isShamed_13 (d + 15) M 2 1 x2 = some (.inl (some (.int 1)), M') ∧ FX TT 160000 3400000 M M' := by
  have L1 := LW_drw hL
  rcases hx with rfl | rfl
  · have wa := drv_lt (M := M) (m := 2) (by omega)
    have hr : 2 + drv M 2 = if (decide (drv M 2 = 1)) = true then 3 else 2 := by
      by_cases q : drv M 2 = 1
      · rw [if_pos (decide_eq_true q), q]
      · rw [if_neg (by rw [decide_eq_false q]; decide)]; omega
    obtain ⟨M', e, F⟩ := sh_29 (ru := 2 + drv M 2) (mk := decide (drv M 2 = 1)) d (Or.inl rfl) hr L1 hK
    refine ⟨M', ?_, (FX_drw.tr F).mo (fun _ _ q => q) (by omega) (by omega)⟩
    rw [e_L_isShamed_13, if_pos rfl, lt_ck_t hL.2, show f_X11_n (d + 14) M 1 2 = _ from draw_n (m := 2) (d + 13) hL.2 (by omega) (by omega), lt_bi_r, show (2 : Int32) + nI (drv M 2) = nI (2 + drv M 2) from lt_iA (j := 2)]
    exact e
  · obtain ⟨M', e, F⟩ := sh_29 (ru := 3) (mk := true) d (Or.inr rfl) rfl hL hK
    refine ⟨M', ?_, F⟩
    rw [e_L_isShamed_13, if_neg (by decide)]
    exact e
theorem l_isShamed (d : Nat) (hL : LW M T R c) (hK : KT (fun _ => 1) co W T) : ∃ M', f_L_isShamed (d + 15) M 2 1 = some (.inl (some (.int 1)), M') ∧ FX TT 160000 3400000 M M' := by
  have L1 := LW_drw hL
  rw [e_L_isShamed, lt_ck_t hL.2, show f_X11_n (d + 14) M 1 2 = _ from draw_n (m := 2) (d + 13) hL.2 (by omega) (by omega), lt_bi_r]
  by_cases q : nI (drv M 2) = 0
  · rw [if_pos q]
    obtain ⟨M', e, F⟩ := sh_13 (x2 := 1) d (Or.inr rfl) L1 hK
    exact ⟨M', e, (FX_drw.tr F).mo (fun _ _ q => q) (by omega) (by omega)⟩
  · rw [if_neg q]
    obtain ⟨M', e, F⟩ := sh_13 (x2 := 0) d (Or.inl rfl) L1 hK
    exact ⟨M', e, (FX_drw.tr F).mo (fun _ _ q => q) (by omega) (by omega)⟩
end Gi
