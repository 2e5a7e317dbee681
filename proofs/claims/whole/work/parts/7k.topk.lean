/-! CHANGES: dropTold() -/
section Uu
variable {M M' M1 M3 N : LM} {L B D P U i j k t w f n n' c e r o m ch len lo hi tot q a : Nat} {x y v u b1 b2 code cache key what rule its greater keys many seed writes room lapse mode : Int32} {z : Option (LO × LM)} {b : Bool} {T T' : BT} {kf fs W p kf' fs' W' : Nat → Nat} {xs H H' U' G : Nat → Int32} {V V' X X' X2 : Nat → Nat → Int32} {l : Option (List Nat)} {y64 : Int64} {fL fX fC : LM → Option (LO × LM)} {hl : List (Nat × Int32)} {S Z Z' : CS}
/-- what keepForUndo() does, from the state -/
theorem K_b (h : ST L xs M i) (hd : DY M kf fs W n p c e) (d : Nat) : ∃ M' P, f_X10_keepForUndo (d + 6) M 1 = some (.inl none, M') ∧ KEPT L M M' P e c ∧ CSK L M' ∧ bA M' 2 ∧ bM M' 2 (tB M' 2) = M' ∧ RB kf fs W n (tB M' 2) (mI M 124) (vv M 124) := by
  obtain ⟨M', P, a1, a2⟩ := k_keep d h.1 hd.2.2.2.2.2.2.1 hd.2.2.2.1 hd.2.2.2.2.2.2.2.1 hd.2.2.1
  exact ⟨M', P, a1, a2, a2.1, t_b a2.1, bM_id, KE_B h.1 a2 hd.2.2.2.1 rfl (fun a ha => rfl) rfl hd.2.2.2.2.2.2.2.2.1⟩
theorem o_dropTold (h : ST L xs M i) : OK L xs i M (fun M => f_L_dropTold 40 M 1 200) (fun M => f_X11_dropTold 40 M 123) := by
  obtain ⟨hk, -, -, hCU, hTX, ⟨l, hFO⟩, kf, fs, W, n, p, c, e, hd⟩ := id h
  obtain ⟨hp, hpa, hc6, he6, h3, h4, hm2, hm3, hB, hR, hCT⟩ := id hd
  have hn : n ≤ 300 := hB.1
  have h0 : mI M 124 0 = nI n := hB.2.2.1
  have hx3 : xx M 0 3 = nI c := h3
  obtain ⟨op, told, ch, m, a, c1, c2, c3, c4, c5, c6, c7, c8, c9, c10, c11, c12⟩ := id hCU
  have er := fun N (hN : RA N 123) => r_dropTold (M := N) (o := 123) (p := p) (c := c) (H := mI M 124) (V := vv M 124) (X := xx M) 36 hN hpa hc6 hx3 (told := told) (ch := ch) c3 c4 c5 c6 (op := op) c2
  have eL : f_L_dropTold 40 M 1 200 = _ := e_L_dropTold 39 M 1 200
  rw [t_ck hk, e_X10_dropTold, t_ck hk, t_p4 hk, x_rf, t_ckQ hk] at eL
  cases op with
  | false =>
    rw [if_pos (c11 rfl)] at eL
    refine OK_eG (M1 := aExn M) (code := 1) (v := 0) (X' := qXe (xx M) 1) h hp LV_exn ?_ (by decide) (fun N hN => ?_) XKp_Xe qXe_0
    · rw [eL]; exact L_exn rfl rfl
    · rw [er N hN, if_neg (c := (false = true)) (by decide)]
  | true =>
    obtain ⟨d1, d2, d3, d4, d5, d6⟩ := c12 rfl
    cases told with
    | none =>
      have d5' : mI M 103 1 = 0 := d5.trans (by decide)
      rw [if_pos d5'] at eL
      refine OK_eG (M1 := aExn M) (code := 1) (v := 0) (X' := qXe (xx M) 1) h hp LV_exn ?_ (by decide) (fun N hN => ?_) XKp_Xe qXe_0
      · rw [eL]; exact L_exn rfl rfl
      · rw [er N hN, if_pos (c := (true = true)) rfl]
    | some k =>
      have hk26 := c4 k rfl
      obtain ⟨a1, a2⟩ := d6 k rfl
      obtain ⟨a0, rfl⟩ : ∃ a0, a = a0 + 1 := ⟨a - 1, by omega⟩
      rw [Nat.add_sub_cancel] at a2
      obtain ⟨M', P, ek, hKE, hk', hb, eb, hB'⟩ := K_b h hd 32
      have hne : ¬ mI M 103 1 = 0 := by rw [d5, decide_eq_true (show some k ≠ none from fun z => by cases z)]; decide
      have kM : ∀ a, 2 ≤ a → a < 202 → mI M' a = mI M a := fun a h1 h2 => by
        have hnM := t_n hk
        have hP := t_pa hk' he6 hKE.2.1
        exact (hKE.2.2.2.2.2.1 a (by omega) (Or.inl (by omega)) (by omega)).1
      let M4 := wI M' 103 1 0
      have hk4 : CSK L M4 := hk'
      have eb4 : bM M4 2 (tB M4 2) = M4 := bM_id
      have hB4 : RB kf fs W n (tB M4 2) (mI M 124) (vv M 124) := RB_cg hB' (tB_o fun a h1 h2 => ⟨mI_wI_ne (by omega), rfl⟩) HEq_r
      have m103 : ∀ j, mI M4 103 j = if j = 1 then 0 else mI M 103 j := fun j => by
        rw [← kM 103 (by omega) (by omega)]
        simp [M4, wI, mI, u2]
      have m104 : mI M4 104 = mI M 104 := (mI_wI_ne (by omega)).trans (kM 104 (by omega) (by omega))
      have el : f_X2_lastTold 38 M4 103 = some (.inl (some (.int (nI k))), M4) := by
        have := q_lastTold (M := M4) (U := 103) (Z := tG M4 103) (t := a0) 36 (t_q hk4) (show mI M4 103 4 = nI (a0 + 1) from (m103 4).trans d3) (by omega)
        rw [gM_id] at this
        exact this.trans (by rw [show (tG M4 103).1 1 a0 = nI k from (congrFun m104 a0).trans a2])
      have hC := RB_c hB4 c6
      have et := k_take (M := M4) (C := cc 2 ch) (S := tG M4 (cc 2 ch)) 36 (t_cA hk4 c6) hk26
      rw [t_cid, t_cM c6] at et
      have ek' : f_X10_keepForUndo 38 M 1 = _ := ek
      have ec2 : mI M4 103 2 = nI ch := (m103 2).trans d1
      have eL2 : f_L_dropTold 40 M 1 200 = some (.inl (some (.int 0)), wL (bM M4 2 ((tB M4 2).1, u1 (tB M4 2).2 ch (kTake (tG M4 (cc 2 ch)) k))) 200 0 (Int32.toInt64 (nI k))) := by
        rw [if_neg hne, t_ck hk, ek', lt_bv_r, t_ck hk', t_p4 hk', x_rf, t_ckQ hk', lt_b1_0, x_m] at eL
        refine eL.trans (L_val (M1 := bM M4 2 ((tB M4 2).1, u1 (tB M4 2).2 ch (kTake (tG M4 (cc 2 ch)) k))) ?_ hk4)
        show (lt_ck M4 1 26 (lt_rf (mP M4 1 4) fun q5 => lt_ck M4 q5 18 (lt_bi (f_X2_lastTold 38 M4 q5) [] fun v7 M6 => lt_ck M6 1 26 (lt_rf (mP M6 1 0) fun q8 => lt_ck M6 1 26 (lt_rf (mP M6 1 4) fun q9 => lt_ck M6 q9 18 (lt_ck M6 q8 16 (lt_br (f_X0_cache 38 M6 q8 (mI M6 q9 2)) [] fun q11 M10 => lt_ck M10 q11 17 (lt_bv (f_X1_takeOut 38 M10 q11 v7) [] fun M12 => some (.inl (some (.int v7)), M12)))))))) : Option (LO × LM)) = _
        rw [t_ck hk4, t_p4 hk4, x_rf, t_ckQ hk4, el, lt_bi_r, t_ck hk4, t_p0 hk4, x_rf, t_ck hk4, t_p4 hk4, x_rf, t_ckQ hk4, t_ckB hk4, ec2, t_cache 37 hk4 c6, lt_br_r, t_ckC hk4 c6, et, lt_bv_r]
      let T' : BT := ((tB M4 2).1, u1 (tB M4 2).2 ch (kTake (tG M4 (cc 2 ch)) k))
      let M1 := wL (bM M4 2 T') 200 0 (Int32.toInt64 (nI k))
      have g1 : CH M4 M1 := CH_b
      have g : CH M' M1 := by
        obtain ⟨b1, b2, b3, b4⟩ := g1
        exact ⟨fun a ha => (b1 a ha).trans (mI_wI_ne (by omega)), b2, b3, b4⟩
      have hk1 : CSK L M1 := hk4
      have go : ∀ a, 102 ≤ a → a ≠ 103 → mI M1 a = mI M' a := fun a h1 h2 => (bMo (M := M4) (B := 2) (T := T') (by omega)).trans (mI_wI_ne h2)
      have eN := KE_rN (M1 := M1) hk hKE he6 rfl (fun a ha => rfl) rfl hp g.2.2.2.2.1 (fun a h1 _ => go a (by omega) (by omega))
      have r1 := er M1 (t_r hk1)
      rw [if_pos rfl] at r1
      have r2 : f_X11_dropTold 40 (rN M1 p (mI M 124) (vv M 124) (xx M)) 123 = some (.inl (some (.int (nI k))), rN M1 (qKp p c) (mI M 124) (u1 (vv M 124) ch (qLeaves (vv M 124 ch) k)) (u2 (qKX p c (qX0 (xx M)) (rowS (mI M 124) (vv M 124))) 0 17 (-1))) := r1
      rw [eN] at r2
      let X' := u2 (qKX p c (qX0 (xx M)) (rowS (mI M 124) (vv M 124))) 0 17 (-1)
      have gB : BEq T' (tB M1 2) := (tB_bM (M := M4) (B := 2)).tr (tB_o fun a h1 h2 => ⟨rfl, mL_wL_ne (by omega)⟩)
      have hX0 : ∀ j, j ≠ 3 → j ≠ 17 → j ≠ 0 → X' 0 j = xx M 0 j := fun j h1 h2 h3 => (u2_n2 h2).trans ((qKX_f hpa hc6 h1).trans (u2_n2 h3))
      have hXt : ∀ t, t ≠ 0 → X' t = qBX p c (qX0 (xx M)) (mI M 124) (vv M 124) t := fun t h1 => by
        unfold qBX
        rw [u2_n1 h1, u2_n1 h1]
        exact u2_n1 h1
      have hXB : XBk p c n (xx M) (mI M 124) (vv M 124) X' := XBk_s (XBk_b hpa hc6 h0) (fun t ht => hXt t (by omega)) (fun j hj => by
        show u2 (qKX p c (qX0 (xx M)) (rowS (mI M 124) (vv M 124))) 0 17 (-1) 0 j = qBX p c (qX0 (xx M)) (mI M 124) (vv M 124) 0 j
        unfold qBX
        rw [u2_n2 (by omega), u2_n2 (by omega), u2_n2 (by omega)]) ((hX0 4 (by omega) (by omega) (by omega)).trans h4)
      have e123 : ∀ j, mI (rN M1 (qKp p c) (mI M 124) (u1 (vv M 124) ch (qLeaves (vv M 124 ch) k)) X') 123 j = X' 0 j := fun j => congrFun rN_X0 j
      have e103 : ∀ j, mI (rN M1 (qKp p c) (mI M 124) (u1 (vv M 124) ch (qLeaves (vv M 124 ch) k)) X') 103 j = mI M4 103 j := fun j => (congrFun (rN_I (by omega)) j).trans (congrFun (bMo (M := M4) (B := 2) (T := T') (o := 103) (by omega)) j)
      have e104 : mI (rN M1 (qKp p c) (mI M 124) (u1 (vv M 124) ch (qLeaves (vv M 124 ch) k)) X') 104 = mI M 104 := (rN_I (by omega)).trans ((bMo (M := M4) (B := 2) (T := T') (by omega)).trans m104)
      have e138 : mI (rN M1 (qKp p c) (mI M 124) (u1 (vv M 124) ch (qLeaves (vv M 124 ch) k)) X') 138 = mI M 138 := (rN_X (t := 15) (by omega) (by omega)).trans (hXB.1 15 (by omega) (by omega))
      refine ⟨0, nI k, M1, _, eL2, r2, ?_, hk1, (e123 0).trans ?_, fun _ => out_v (M1 := bM M4 2 T'), ST_F (N := M) h.1 h.2.1 h.2.2.1 hTX hFO hd rfl (fun _ _ => rfl) rfl hKE g (RB_cg (RB_up hB4 c6 (RC_take hC hk26)) gB HEq_r) (CT_take hCT hk26) hXB ?_, rfl⟩
      · rw [g.1 0 (by omega), (KE_at hk hKE he6 rfl (fun a ha => rfl) rfl (by omega) (by omega) (by omega)).1]
        exact h.2.2.1
      · exact (u2_n2 (by decide)).trans ((qKX_f hpa hc6 (by decide)).trans qX0_0)
      · refine ⟨true, none, ch, m, a0 + 1, ?_, ?_, ?_, (fun k e => by cases e), ?_, c6, ?_, ?_, c9, c10, (fun e => by cases e), fun _ => ⟨?_, ?_, ?_, fun j hj => ?_, ?_, (fun k e => by cases e)⟩⟩
        · rw [e103, m103]; exact c1
        · rw [e123, hX0 18 (by omega) (by omega) (by omega)]; exact c2
        · rw [e123]; exact u2_eq
        · rw [e123, hX0 16 (by omega) (by omega) (by omega)]; exact c5
        · rw [e123, hX0 14 (by omega) (by omega) (by omega)]; exact c7
        · rw [e123, hX0 15 (by omega) (by omega) (by omega)]; exact c8
        · rw [e103, m103]; exact d1
        · rw [e103, m103]; exact d2
        · rw [e103, m103]; exact d3
        · obtain ⟨k', b1, b2, b3⟩ := d4 j hj
          exact ⟨k', b1, by rw [e104]; exact b2, by rw [e138]; exact b3⟩
        · rw [e103, m103]; rfl
end Uu
