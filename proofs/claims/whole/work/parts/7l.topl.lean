/-! CHANGES: undo() -/
section Uv
variable {M M' M1 M3 N : LM} {L B D P U i j k t w f n n' c e e' r o m ch len lo hi tot q a : Nat} {x y v u b1 b2 code cache key what rule its greater keys many seed writes room lapse mode : Int32} {z : Option (LO × LM)} {b : Bool} {T T' : BT} {kf fs W p kf' fs' W' : Nat → Nat} {xs H H' U' G : Nat → Int32} {V V' X X' X2 : Nat → Nat → Int32} {l : Option (List Nat)} {y64 : Int64} {fL fX fC : LM → Option (LO × LM)} {hl : List (Nat × Int32)} {S Z Z' : CS}
theorem o_undo (h : ST L xs M i) : OK L xs i M (fun M => f_L_undo 40 M 1 200) (fun M => f_X11_undo 40 M 123) := by
  obtain ⟨hk, hBG, hxs, hCU, hTX, ⟨l, hFO⟩, kf, fs, W, n, p, c, e, hd⟩ := id h
  obtain ⟨hp, hpa, hc6, he6, h3, h4, hm2, hm3, hB, hR, hCT⟩ := id hd
  have hx3 : xx M 0 3 = nI c := h3
  have er := fun N (hN : RA N 123) => r_undo (M := N) (o := 123) (p := p) (c := c) (H := mI M 124) (V := vv M 124) (X := xx M) 38 hN hpa hc6 hx3
  have eL : f_L_undo 40 M 1 200 = _ := e_L_undo 39 M 1 200
  have hc0 : (0 : Int32) < nI c ↔ 0 < c := iff_of_eq (nI_ltP (j := 0) (k := c) (by omega) (by omega))
  rw [t_ck hk, e_X10_undo, t_ck hk, hm3] at eL
  by_cases q1 : 0 < c
  · obtain ⟨c1, rfl⟩ : ∃ c1, c = c1 + 1 := ⟨c - 1, by omega⟩
    rw [Nat.add_sub_cancel] at er
    have hkc : CSK L (clM M) := hk
    let M3 := wI (clM M) 1 3 (nI c1)
    have hk3 : CSK L M3 := hk
    let e' := if 0 < e then e - 1 else 5
    have he' : e' < 6 := by show (if 0 < e then e - 1 else 5) < 6; split <;> omega
    let M4 := wI M3 1 2 (nI e')
    have hk4 : CSK L M4 := hk
    have es : slt e (c1 + 1) c1 = e' := by
      show slt e (c1 + 1) c1 = if 0 < e then e - 1 else 5
      unfold slt
      split <;> omega
    obtain ⟨P, hP, kf', fs', W', n', hRB, hct⟩ := hR c1 (by omega)
    rw [es] at hP
    obtain ⟨g1, g2, g3⟩ := t_pa hk he' hP
    have sb : nI (c1 + 1) - 1 = nI c1 := lt_sub1
    have v13 : mI (clM M) 1 3 = nI (c1 + 1) := (congrFun (clM_o (by omega)) 3).trans hm3
    have v12 : mI M3 1 2 = nI e := by
      show mI (wI (clM M) 1 3 (nI c1)) 1 2 = nI e
      have := (congrFun (clM_o (M := M) (a := 1) (by omega)) 2).trans hm2
      rw [← this]
      simp [wI, mI, u2]
    have w12 : mI M4 1 2 = nI e' := wI_rd
    have w13 : mI M4 1 3 = nI c1 := by
      show mI (wI (wI (clM M) 1 3 (nI c1)) 1 2 (nI e')) 1 3 = nI c1
      simp [wI, mI, u2]
    have P4 : mP M4 102 e' = some P := hP
    let T' := kCpB (tB M4 2) (tB M4 P)
    have ecp := b_copyBench (M := M4) (B := 2) (D := P) (T := tB M4 2) 34 (t_b hk4) (show bA M4 P from g1) (Or.inr (by omega))
    rw [bM_id] at ecp
    have ecp' : f_X0_copyBench 38 M4 2 P = some (.inl none, bM M4 2 T') := ecp
    have hk5 : CSK L (bM M4 2 T') := hk
    have e50 : ∀ s0 : Int32, s0 = nI e' → f_X10_undo_50 39 M3 1 s0 1 = some (.inl (some (.int (nI c1))), bM M4 2 T') := by
      intro s0 hs
      have hlt : nI e' < nI 6 := (lt_iL (j := e') (k := 6) (by omega) (by omega)).mpr he'
      rw [hs, e_X10_undo_50, t_ck hk3, x_m]
      show (lt_ck M4 1 26 (lt_ck M4 1 26 (lt_rf (mP M4 1 1) fun q5 => lt_al M4 q5 (if @LT.lt Int32 _ (mI M4 1 2) (nI (mZ M4 q5)) then (lt_ck M4 1 26 (lt_rf (mP M4 1 1) fun q6 => lt_ck M4 1 26 (lt_aa M4 q6 (mI M4 1 2) (lt_rn (mP M4 q6 (lt_n (mI M4 1 2))) (fun q7 => lt_ck M4 1 26 (lt_rf (mP M4 1 0) fun q8 => lt_ck M4 q8 16 (lt_bv (f_X0_copyBench 38 M4 q8 q7) [] fun M9 => lt_ck M9 1 26 (some (.inl (some (.int (mI M9 1 3))), M9))))) (lt_ck M4 1 26 (some (.inl (some (.int (mI M4 1 3))), M4))))))) else (lt_ck M4 1 26 (some (.inl (some (.int (mI M4 1 3))), M4)))))) : Option (LO × LM)) = _
      rw [t_ck hk4, t_ck hk4, t_p1 hk4, x_rf, t_al hk4, w12, (t_past hk4).2, if_pos hlt, t_ck hk4, x_rf, t_ck hk4, t_aa hk4 he', lt_iN (by omega), P4]
      show (lt_ck M4 1 26 (lt_rf (mP M4 1 0) fun q8 => lt_ck M4 q8 16 (lt_bv (f_X0_copyBench 38 M4 q8 P) [] fun M9 => lt_ck M9 1 26 (some (.inl (some (.int (mI M9 1 3))), M9)))) : Option (LO × LM)) = _
      rw [t_ck hk4, t_p0 hk4, x_rf, t_ckB hk4, ecp', lt_bv_r, t_ck hk5, show mI (bM M4 2 T') 1 3 = nI c1 from (congrFun (bMo (M := M4) (B := 2) (T := T') (o := 1) (by omega)) 3).trans w13]
    have eL2 : f_L_undo 40 M 1 200 = some (.inl (some (.int 0)), wL (bM M4 2 T') 200 0 (Int32.toInt64 (nI c1))) := by
      rw [if_pos (hc0.mpr q1), t_ck hk, t_p4 hk, x_rf, t_ckQ hk, k_close _ hk, lt_bv_r, t_ck hkc, t_ck hkc, v13, sb, x_m] at eL
      refine eL.trans (L_val (M1 := bM M4 2 T') ?_ hk5)
      show (lt_ck M3 1 26 (if @LT.lt Int32 _ 0 (mI M3 1 2) then (lt_ck M3 1 26 (f_X10_undo_50 39 M3 1 ((mI M3 1 2) - 1) 1)) else (f_X10_undo_50 39 M3 1 5 1)) : Option (LO × LM)) = _
      have hc9 : (0 : Int32) < nI e ↔ 0 < e := iff_of_eq (nI_ltP (j := 0) (k := e) (by omega) (by omega))
      rw [t_ck hk3, v12, t_ck hk3]
      by_cases z : 0 < e
      · rw [if_pos (hc9.mpr z)]
        refine e50 _ ?_
        show nI e - 1 = nI (if 0 < e then e - 1 else 5)
        rw [if_pos z]
        obtain ⟨e1, rfl⟩ : ∃ e1, e = e1 + 1 := ⟨e - 1, by omega⟩
        exact lt_sub1
      · rw [if_neg (fun q => z (hc9.mp q))]
        refine e50 _ ?_
        show (5 : Int32) = nI (if 0 < e then e - 1 else 5)
        rw [if_neg z]
        rfl
    let M1 := wL (bM M4 2 T') 200 0 (Int32.toInt64 (nI c1))
    have hk1 : CSK L M1 := hk
    have mo : ∀ a, (a < 2 ∨ 102 ≤ a) → a ≠ 1 → a ≠ 103 → mI M1 a = mI M a := fun a h1 h2 h3 => (bMo (M := M4) (B := 2) (T := T') (by omega)).trans ((mI_wI_ne h2).trans ((mI_wI_ne h2).trans (clM_o h3)))
    have ml : ∀ a, 102 ≤ a → a ≠ 200 → mL M1 a = mL M a := fun a h1 h2 => (mL_wL_ne h2).trans (bMoL (M := M4) (B := 2) (T := T') (by omega))
    have eN : rN M1 p (mI M 124) (vv M 124) (xx M) = M1 := by
      have := rN_id (M := M1) (p := p) hp
      rw [mo 124 (by omega) (by omega) (by omega), vv_cg (mo 124 (by omega) (by omega) (by omega))] at this
      refine Eq.trans (rN_cg fun t ht _ => ?_) this
      exact (mo (123 + t) (by omega) (by omega) (by omega)).symm
    have r1 := er M1 (t_r hk1)
    rw [if_pos q1] at r1
    let H' := qUH (xx M) (p c1) (mI M 124)
    let V' := qUV (xx M) (p c1) (vv M 124)
    let X' := u2 (u2 (u2 (qX0 (xx M)) 0 3 (nI c1)) 0 18 0) 0 4 (xx M (3 + p c1) 0)
    have r2 : f_X11_undo 40 (rN M1 p (mI M 124) (vv M 124) (xx M)) 123 = some (.inl (some (.int (nI c1))), rN M1 p H' V' X') := r1
    rw [eN] at r2
    have hpc : p c1 < 6 := hpa.1 c1 (by omega)
    have e9 : 123 + (3 + p c1) = 126 + p c1 := by omega
    have hHV : HEq' (mI M (126 + p c1)) H' (vv M (126 + p c1)) V' := by
      refine ⟨fun j hj => ?_, fun u hu w hw => ?_⟩
      · show (if j < 980 then xx M (3 + p c1) j else mI M 124 j) = _
        rw [if_pos (by omega)]
        show mI M (123 + (3 + p c1)) j = _
        rw [e9]
      · show (if u < 18 then xx M (3 + p c1) (980 + 662 * u + w) else vv M 124 u w) = _
        rw [if_pos (by omega)]
        show mI M (123 + (3 + p c1)) (980 + 662 * u + w) = _
        rw [e9]
        rfl
    have gB : BEq (tB M P) (tB M1 2) := by
      refine BEq.tr (tB_o (M := M) (M' := M4) (B := P) fun a h1 h2 => ⟨?_, rfl⟩) (BEq.tr (kCpB_eq (T := tB M4 2)) ((tB_bM (M := M4) (B := 2)).tr (tB_o fun a h1 h2 => ⟨rfl, mL_wL_ne (by omega)⟩)))
      exact (mI_wI_ne (by omega)).trans ((mI_wI_ne (by omega)).trans (clM_o (by omega)))
    have hRB' : RB kf' fs' W' n' (tB M1 2) H' V' := RB_cg hRB gB hHV
    have hct' : CT fs' n' V' := CT_cg hct hHV
    have hX0 : ∀ j, j ≠ 3 → j ≠ 18 → j ≠ 4 → j ≠ 0 → X' 0 j = mI M 123 j := fun j h1 h2 h3 h4 => (u2_n2 h3).trans ((u2_n2 h2).trans ((u2_n2 h1).trans (u2_n2 h4)))
    have hXt : ∀ t, t ≠ 0 → X' t = xx M t := fun t h1 => (u2_n1 h1).trans ((u2_n1 h1).trans ((u2_n1 h1).trans (u2_n1 h1)))
    have e123 : ∀ j, mI (rN M1 p H' V' X') 123 j = X' 0 j := fun j => congrFun rN_X0 j
    have eI : ∀ a, a < 123 ∨ 200 ≤ a → mI (rN M1 p H' V' X') a = mI M1 a := fun a ha => rN_I ha
    have eT : ∀ t, t ≠ 0 → t ≠ 1 → t < 77 → mI (rN M1 p H' V' X') (123 + t) = mI M (123 + t) := fun t h1 h2 h3 => (rN_X h2 h3).trans (hXt t h1)
    have m11 : ∀ j, mI M1 1 j = mI M4 1 j := fun j => congrFun (bMo (M := M4) (B := 2) (T := T') (o := 1) (by omega)) j
    have m103 : mI M1 103 = mI (clM M) 103 := (bMo (M := M4) (B := 2) (T := T') (o := 103) (by omega)).trans ((mI_wI_ne (by omega)).trans (mI_wI_ne (by omega)))
    obtain ⟨op, told, ch, m, a, u1, u2', u3, u4, u5, u6, u7, u8, u9, u10, u11, u12⟩ := hCU
    refine ⟨0, nI c1, M1, _, eL2, r2, (mo 0 (by omega) (by omega) (by omega)).trans hxs, hk1, (e123 0).trans ?_, fun _ => out_v (M1 := bM M4 2 T'), ⟨CSK_rN hk1, ⟨?_, ?_⟩, (eI 0 (by omega)).trans ((mo 0 (by omega) (by omega) (by omega)).trans hxs), ⟨false, told, ch, m, a, ?_, ?_, ?_, u4, ?_, u6, ?_, ?_, u9, u10, fun _ => ?_, (fun z => by cases z)⟩, TX_fr hTX ?_ ?_ ?_ ?_, ⟨l, FO_fr hFO ?_ ?_ ?_ ?_⟩, kf', fs', W', n', p, c1, e', fun j => rN_P5, hpa, by omega, he', ?_, ?_, ?_, ?_, RB_cg hRB' (tB_o fun a h1 h2 => ⟨eI a (by omega), rfl⟩) rN_HV, ?_, CT_cg hct' rN_HV⟩, rfl⟩
    · exact (u2_n2 (by decide)).trans ((u2_n2 (by decide)).trans ((u2_n2 (by decide)).trans qX0_0))
    · have ep : mP (rN M1 p H' V' X') 102 = mP M 102 := rN_P (by omega)
      rw [ep]
      show mC M + _ ≤ _
      have := hBG.1
      omega
    · have ep : mP (rN M1 p H' V' X') 102 = mP M 102 := rN_P (by omega)
      rw [ep]
      show mS M + _ ≤ _
      have := hBG.2
      omega
    · rw [eI 103 (by omega), m103]; rfl
    · rw [e123]; exact (u2_n2 (by decide)).trans u2_eq
    · rw [e123, hX0 17 (by omega) (by omega) (by omega) (by omega)]; exact u3
    · rw [e123, hX0 16 (by omega) (by omega) (by omega) (by omega)]; exact u5
    · rw [e123, hX0 14 (by omega) (by omega) (by omega) (by omega)]; exact u7
    · rw [e123, hX0 15 (by omega) (by omega) (by omega) (by omega)]; exact u8
    · rw [eI 103 (by omega), m103]; rfl
    · rw [eI 105 (by omega), mo 105 (by omega) (by omega) (by omega)]
    · rw [eI 106 (by omega), mo 106 (by omega) (by omega) (by omega)]
    · rw [e123, hX0 20 (by omega) (by omega) (by omega) (by omega)]
    · exact eT 16 (by omega) (by omega) (by omega)
    · rw [eI 116 (by omega), mo 116 (by omega) (by omega) (by omega)]
    · rw [eI 117 (by omega), mo 117 (by omega) (by omega) (by omega)]
    · rw [e123, hX0 24 (by omega) (by omega) (by omega) (by omega)]
    · exact eT 17 (by omega) (by omega) (by omega)
    · rw [e123]; exact (u2_n2 (by decide)).trans ((u2_n2 (by decide)).trans u2_eq)
    · rw [e123]
      refine u2_eq.trans ?_
      show mI M (123 + (3 + p c1)) 0 = nI n'
      rw [e9]
      exact hRB.2.2.1
    · rw [eI 1 (by omega), m11]; exact w12
    · rw [eI 1 (by omega), m11]; exact w13
    · intro i' hi'
      have es' : slt e' c1 i' = slt e (c1 + 1) i' := by
        show slt (if 0 < e then e - 1 else 5) c1 i' = _
        unfold slt
        split <;> omega
      obtain ⟨Q, q1, kf, fs, W, n, q2, q3⟩ := hR i' (by omega)
      have hQ := t_pa hk slt_lt q1
      refine ⟨Q, by rw [es']; exact q1, kf, fs, W, n, ?_⟩
      have hpi : p i' < 6 := hpa.1 i' (by omega)
      have e3 := eT (3 + p i') (by omega) (by omega) (by omega)
      rw [show 123 + (3 + p i') = 126 + p i' by omega] at e3
      rw [e3, vv_cg e3]
      refine ⟨RB_cg q2 (tB_o fun a a1 _ => ⟨(eI a (by omega)).trans (mo a (by omega) (by omega) (by omega)), ml a (by omega) (by omega)⟩) vv_rw, q3⟩
  · rw [if_neg (fun z => q1 (hc0.mp z))] at eL
    refine OK_eG (M1 := aExn M) (code := 1) (v := 0) (X' := qXe (xx M) 1) h hp LV_exn ?_ (by decide) (fun N hN => ?_) XKp_Xe qXe_0
    · rw [eL]; exact L_exn rfl rfl
    · rw [er N hN, if_neg q1]
end Uv
