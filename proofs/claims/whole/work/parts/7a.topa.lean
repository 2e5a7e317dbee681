/-! CALLS: the cursor -/
section Uk
variable {M M' M1 N : LM} {L B D P U i j k t w f n c e r a o m ch len : Nat} {x y v b1 b2 code cache key what rule its greater keys most : Int32} {z : Option (LO × LM)} {b : Bool} {T : BT} {kf fs W p : Nat → Nat} {xs H H' : Nat → Int32} {V V' X X' : Nat → Nat → Int32} {l : Option (List Nat)} {y64 : Int64} {fL fX fC : LM → Option (LO × LM)} {hl : List (Nat × Int32)} {S Z Z' : CS}
theorem LB_g : LB M (gM M 103 2 Z) := ⟨fun a ha => gIo (by omega), fun a ha => gLo (by omega), rfl, rfl, rfl, rfl, Nat.le_add_right _ _, Nat.le_add_right _ _⟩
theorem t_ckQ (h : CSK L M) : lt_ck M 103 18 z = z := lt_ck_t (t_q h).1
theorem TX_lb (h : TX M) (g1 : mI M' 105 = mI M 105) (g2 : mI M' 106 = mI M 106) (g3 : mI M' 123 20 = mI M 123 20) (g4 : mI M' 139 = mI M 139) : TX M' := TX_fr h (congrFun g1 1) g2 g3 g4
theorem o_open (h : ST L xs M i) : OK L xs i M (fun M => f_L_open 40 M 1 cache 200) (fun M => f_X11_open 40 M 123 cache) := by
  obtain ⟨hk, -, -, -, -, -, kf, fs, W, n, p, c, e, hp, hpa, -, -, -, h4, -, -, hB, -⟩ := id h
  have hn : n ≤ 300 := hB.1
  have h0 : mI M 124 0 = nI n := hB.2.2.1
  have hl : mI M 7 3 = nI n := hB.2.1
  obtain ⟨-, -, -, hCU, hTX, ⟨l, hFO⟩, -⟩ := id h
  have er := fun N (hN : RA N 123) => r_open (M := N) (o := 123) (H := mI M 124) (V := vv M 124) (X := xx M) (cache := cache) 34 hN (RB_RS hB) h4
  have eL : f_L_open 40 M 1 cache 200 = _ := e_L_open 39 M 1 cache 200
  rw [t_ck hk, e_X10_open, z_cache, bv_if] at eL
  by_cases q1 : qIn cache 0 5 = true
  · obtain ⟨ch, hch, rfl⟩ := qIn_c q1
    rw [if_pos q1, t_ck hk, t_p4 hk, x_rf, t_ck hk, t_p0 hk, x_rf, t_ckB hk, t_cache 37 hk hch, lt_br_r, t_ckQ hk] at eL
    have hC := RB_c hB hch
    have hN := N_ok (fs ch) hn
    have hord := order_eq hC.1 (by omega) hN.2 hC.2.2.2.2.2.1 hn (xx M 14)
    have hKS : KS (mI M (cc 2 ch) 5) := hC.1.2.1.1
    have hpop : pPop (mI M (cc 2 ch) 5) = nI (qOrd (vv M 124 ch) kf (fs ch) n (xx M 14)).1 := by
      rw [pPop_nK hKS, hord.1]
      rfl
    have hm26 : (qOrd (vv M 124 ch) kf (fs ch) n (xx M 14)).1 ≤ 26 := by rw [hord.1]; exact nK_le 26
    generalize hlen : (qOrd (vv M 124 ch) kf (fs ch) n (xx M 14)).1 = len at *
    have eo := q_openOn (M := M) (U := 103) (Z := tG M 103) (C := cc 2 ch) (num := nI ch) 35 (t_q hk) (by unfold cc; split <;> omega) (t_cA hk hch) hm26 hpop
    rw [gM_id] at eo
    let Zk := kOpen (tG M (cc 2 ch)) len (nI ch) (tG M 103)
    have hZ : ∀ j, Zk.1 0 j = if j = 3 then nI len else if j = 4 then 0 else if j = 2 then nI ch else if j = 1 then 0 else if j = 0 then 1 else mI M 103 j := fun j => by
      show (kOpen (tG M (cc 2 ch)) len (nI ch) (tG M 103)).1 0 j = _
      unfold kOpen u1 u2
      simp [tG]
    have hZ1 : ∀ j, j < len → Zk.1 1 j = oI (kFirst (tG M (cc 2 ch)) (kLeft (tG M (cc 2 ch)) ((tG M (cc 2 ch)).1 0 5) j)) := fun j hj => by
      show (kOpen (tG M (cc 2 ch)) len (nI ch) (tG M 103)).1 1 j = _
      unfold kOpen
      simp only [u1e, if_pos hj]
    have hkZ : CSK L (gM M 103 2 Zk) := hk
    have g := LB_out (y64 := Int32.toInt64 (nI len)) (LB_g (M := M) (Z := Zk))
    have c1 : f_L_open 40 M 1 (nI ch) 200 = some (.inl (some (.int 0)), wL (gM M 103 2 Zk) 200 0 (Int32.toInt64 (nI len))) := by
      refine eL.trans (L_val ?_ hkZ)
      have eo' : f_X2_openOn 38 M 103 (nI ch) (cc 2 ch) = some (.inl none, gM M 103 2 Zk) := eo
      rw [eo', lt_bv_r, t_ck hkZ, t_p4 hkZ, x_rf, t_ckQ hkZ, gI0 (by omega), hZ]
      rfl
    obtain ⟨X', a1, a2, a3, a4, a5⟩ := (er (rP (wL (gM M 103 2 Zk) 200 0 (Int32.toInt64 (nI len))) 123 (gP 123 p)) (RA.rp (t_r (CSK_lb hk g)))).2 ch hch rfl
    rw [hlen] at a3 a4 a5
    have a5' : f_X11_open 40 (rN (wL (gM M 103 2 Zk) 200 0 (Int32.toInt64 (nI len))) p (mI M 124) (vv M 124) (xx M)) 123 (nI ch) = some (.inl (some (.int (nI len))), rN (wL (gM M 103 2 Zk) 200 0 (Int32.toInt64 (nI len))) p (mI M 124) (vv M 124) (qOpenX X' len (nI ch))) := a5
    rw [rN_lb g hp] at a5'
    let X2 := qOpenX X' len (nI ch)
    have hX0 : ∀ j, X2 0 j = if j = 18 then 1 else if j = 17 then -1 else if j = 16 then nI ch else if j = 15 then 0 else if j = 14 then nI len else X' 0 j := fun j => by
      show u2 (u2 (u2 (u2 (u2 (qCur X' len) 0 14 (nI len)) 0 15 0) 0 16 (nI ch)) 0 17 (-1)) 0 18 1 0 j = _
      unfold qCur u1 u2
      simp
    have hXt : ∀ t, t ≠ 0 → t ≠ 15 → X2 t = X' t := fun t h1 h2 => by
      funext j
      show u2 (u2 (u2 (u2 (u2 (qCur X' len) 0 14 (nI len)) 0 15 0) 0 16 (nI ch)) 0 17 (-1)) 0 18 1 t j = _
      unfold qCur u1 u2
      simp [h1, h2]
    have hX15 : ∀ j, j < len → X2 15 j = X' 14 j := fun j hj => by
      show u2 (u2 (u2 (u2 (u2 (qCur X' len) 0 14 (nI len)) 0 15 0) 0 16 (nI ch)) 0 17 (-1)) 0 18 1 15 j = _
      unfold qCur u1 u2
      simp [hj]
    have eXt : ∀ t, t ≠ 0 → t ≠ 15 → t < 9 ∨ 14 < t → X2 t = xx M t := fun t h1 h2 h3 => (hXt t h1 h2).trans ((a1.1 t h1 h3).trans (u2_n1 h1))
    have eX0 : ∀ j, j < 14 ∨ 18 < j → j ≠ 8 → j ≠ 12 → j ≠ 0 → X2 0 j = xx M 0 j := fun j h1 h2 h3 h4 => by
      rw [hX0, if_neg (by omega), if_neg (by omega), if_neg (by omega), if_neg (by omega), if_neg (by omega), a1.2 j h2 h3]
      exact u2_n2 h4
    generalize hM1 : wL (gM M 103 2 Zk) 200 0 (Int32.toInt64 (nI len)) = M1 at *
    have m103 : mI M1 103 = Zk.1 0 := by rw [← hM1]; exact gI0 (M := M) (U := 103) (n := 2) (Z := Zk) (by decide)
    have m104 : mI M1 104 = Zk.1 1 := by rw [← hM1]; exact gI (M := M) (U := 103) (n := 2) (Z := Zk) (t := 1) (by decide)
    have mo : ∀ a, 105 ≤ a → mI M1 a = mI M a := fun a ha => by rw [← hM1]; exact gIo (M := M) (U := 103) (n := 2) (Z := Zk) (by omega)
    have e123 : ∀ j, mI (rN M1 p (mI M 124) (vv M 124) X2) 123 j = X2 0 j := fun j => congrFun rN_X0 j
    refine ⟨0, nI len, M1, _, c1, a5', (g.1 0 (by omega)).trans h.2.2.1, CSK_lb hk g, (e123 0).trans ?_, fun _ => by rw [← hM1]; exact out_v (M1 := gM M 103 2 Zk), ST_B h g hp ⟨fun t h1 h2 => eXt t (by omega) (by omega) (by omega), eX0 3 (by omega) (by omega) (by omega) (by omega), eX0 4 (by omega) (by omega) (by omega) (by omega)⟩ ⟨true, none, ch, len, 0, ?_, ?_, ?_, (fun k e => by cases e), ?_, hch, ?_, ?_, hm26, Nat.zero_le _, (fun e => by cases e), fun _ => ⟨?_, ?_, ?_, fun j hj => ?_, ?_, (fun k e => by cases e)⟩⟩ (TX_lb hTX ?_ ?_ ?_ ?_) ⟨l, FO_fr hFO ?_ ?_ ?_ ?_⟩, rfl⟩
    · rw [hX0]; simp; exact (a1.2 0 (by decide) (by decide)).trans qX0_0
    · rw [rN_I (by omega), m103, hZ]; rfl
    · rw [e123, hX0]; rfl
    · rw [e123, hX0]; rfl
    · rw [e123, hX0]; rfl
    · rw [e123, hX0]; rfl
    · rw [e123, hX0]; rfl
    · rw [rN_I (by omega), m103, hZ]; rfl
    · rw [rN_I (by omega), m103, hZ]; rfl
    · rw [rN_I (by omega), m103, hZ]; rfl
    · obtain ⟨k, k1, k2, k3⟩ := hord.2 j hj
      refine ⟨k, k1, ?_, ?_⟩
      · have k2' : kFirst (tG M (cc 2 ch)) (kLeft (tG M (cc 2 ch)) ((tG M (cc 2 ch)).1 0 5) j) = some k := k2
        rw [rN_I (by omega), m104, hZ1 j hj, k2']; rfl
      · have a1' : mI (rN M1 p (mI M 124) (vv M 124) X2) 138 = X2 15 := rN_X (t := 15) (by omega) (by omega)
        rw [a1', hX15 j hj, a2, k3]
    · rw [rN_I (by omega), m103, hZ]; rfl
    · rw [rN_I (by omega), mo _ (by omega)]
    · rw [rN_I (by omega), mo _ (by omega)]
    · rw [e123]; exact eX0 20 (by omega) (by omega) (by omega) (by omega)
    · exact (rN_X (t := 16) (by omega) (by omega)).trans (eXt 16 (by omega) (by omega) (by omega))
    · rw [rN_I (by omega), mo _ (by omega)]
    · rw [rN_I (by omega), mo _ (by omega)]
    · rw [e123]; exact eX0 24 (by omega) (by omega) (by omega) (by omega)
    · exact (rN_X (t := 17) (by omega) (by omega)).trans (eXt 17 (by omega) (by omega) (by omega))
  · rw [if_neg q1] at eL
    have q1' : qIn cache 0 5 = false := by simpa using q1
    refine OK_e (M1 := aExn M) (code := 1) (v := 0) (X' := qXe (xx M) 1) h hp LV_exn ?_ (by decide) (fun N _ hN => ?_) XKp_Xe qXe_0
    · rw [eL]; exact L_exn rfl rfl
    · rw [(er N hN).1 q1']
theorem o_next (h : ST L xs M i) : OK L xs i M (fun M => f_L_next 40 M 1 200) (fun M => f_X11_next 40 M 123) := by
  obtain ⟨hk, -, -, -, -, -, kf, fs, W, n, p, c, e, hp, hpa, -, -, -, h4, -, -, hB, -⟩ := id h
  have hn : n ≤ 300 := hB.1
  have h0 : mI M 124 0 = nI n := hB.2.2.1
  have hl : mI M 7 3 = nI n := hB.2.1
  obtain ⟨-, -, -, hCU, hTX, ⟨l, hFO⟩, -⟩ := id h
  obtain ⟨op, told, ch, m, a, c1, c2, c3, c4, c5, c6, c7, c8, c9, c10, c11, c12⟩ := id hCU
  have er := fun N (hN : RA N 123) => r_next (M := N) (o := 123) (H := mI M 124) (V := vv M 124) (X := xx M) 38 hN (op := op) c2 (at_ := a) (many := m) c7 c8 c9 (by omega)
  have eL : f_L_next 40 M 1 200 = _ := e_L_next 39 M 1 200
  rw [t_ck hk, e_X10_next, t_ck hk, t_p4 hk, x_rf, t_ckQ hk, c1] at eL
  cases op with
  | false =>
    rw [if_pos (c := (bI false = 0)) rfl] at eL
    refine OK_e (M1 := aExn M) (code := 1) (v := 0) (X' := qXe (xx M) 1) h hp LV_exn ?_ (by decide) (fun N _ hN => ?_) XKp_Xe qXe_0
    · rw [eL]; exact L_exn rfl rfl
    · rw [er N hN, if_neg (c := (false = true)) (by decide)]
  | true =>
    obtain ⟨d1, d2, d3, d4, d5, d6⟩ := c12 rfl
    rw [if_neg (c := (bI true = 0)) (by decide), t_ck hk, x_rf, t_ckQ hk, t_ck hk, x_rf, t_ckQ hk, d2, d3] at eL
    have lt := nI_ltP (j := a) (k := m) (by omega) (by omega)
    by_cases q : a < m
    · obtain ⟨k, k1, k2, k3⟩ := d4 a q
      have e1 : nI a + 1 = nI (a + 1) := lt_iA (j := a) (k := 1)
      rw [if_pos (lt.mpr q), t_ck hk, x_rf, t_ckQ hk, t_ckQ hk, x_m, d3, e1] at eL
      let Ma := wI M 103 4 (nI (a + 1))
      let Mb := wI Ma 103 1 1
      have hka : CSK L Ma := hk
      have hkb : CSK L Mb := hk
      have el : f_X2_lastTold 38 Mb 103 = some (.inl (some (.int (nI k))), Mb) := by
        have := q_lastTold (M := Mb) (U := 103) (Z := tG Mb 103) (t := a) 36 (t_q hkb) (by show mI (wI (wI M 103 4 (nI (a + 1))) 103 1 1) 103 4 = nI (a + 1); simp [wI, mI, u2]) (by omega)
        rw [gM_id] at this
        exact this.trans (by rw [show (tG Mb 103).1 1 a = nI k from k2])
      have g : LB M (wL Mb 200 0 (Int32.toInt64 (nI k))) := LB_out ⟨fun a ha => (mI_wI_ne (by omega)).trans (mI_wI_ne (by omega)), fun a ha => rfl, rfl, rfl, rfl, rfl, Nat.le_add_right _ _, Nat.le_add_right _ _⟩
      have c0 : f_L_next 40 M 1 200 = some (.inl (some (.int 0)), wL Mb 200 0 (Int32.toInt64 (nI k))) := by
        refine eL.trans (L_val ?_ hkb)
        show (lt_ck Ma 1 26 (lt_rf (mP Ma 1 4) fun q6 => lt_ck Ma q6 18 (lt_b1 1 (lt_m (wI Ma q6 1 1) fun M7 => lt_ck M7 1 26 (lt_rf (mP M7 1 4) fun q8 => lt_ck M7 q8 18 (lt_bi (f_X2_lastTold 38 M7 q8) [] fun v10 M9 => some (.inl (some (.int v10)), M9)))))) : Option (LO × LM)) = _
        rw [t_ck hka, t_p4 hka, x_rf, t_ckQ hka, lt_b1_1, x_m]
        show (lt_ck Mb 1 26 (lt_rf (mP Mb 1 4) fun q8 => lt_ck Mb q8 18 (lt_bi (f_X2_lastTold 38 Mb q8) [] fun v10 M9 => some (.inl (some (.int v10)), M9))) : Option (LO × LM)) = _
        rw [t_ck hkb, t_p4 hkb, x_rf, t_ckQ hkb, el, lt_bi_r]
      have r0 := er (rP (wL Mb 200 0 (Int32.toInt64 (nI k))) 123 (gP 123 p)) (RA.rp (t_r (CSK_lb hk g)))
      rw [if_pos rfl, if_pos q, show xx M 15 a = nI k from k3] at r0
      have r1 : f_X11_next 40 (rN (wL Mb 200 0 (Int32.toInt64 (nI k))) p (mI M 124) (vv M 124) (xx M)) 123 = some (.inl (some (.int (nI k))), rN (wL Mb 200 0 (Int32.toInt64 (nI k))) p (mI M 124) (vv M 124) (u2 (u2 (qX0 (xx M)) 0 17 (nI k)) 0 15 (nI (a + 1)))) := r0
      rw [rN_lb g hp] at r1
      let X2 := u2 (u2 (qX0 (xx M)) 0 17 (nI k)) 0 15 (nI (a + 1))
      have hX0 : ∀ j, X2 0 j = if j = 15 then nI (a + 1) else if j = 17 then nI k else if j = 0 then 0 else xx M 0 j := fun j => by
        show u2 (u2 (u2 (xx M) 0 0 0) 0 17 (nI k)) 0 15 (nI (a + 1)) 0 j = _
        unfold u2
        simp
      have hXt : ∀ t, t ≠ 0 → X2 t = xx M t := fun t h1 => (u2_n1 h1).trans ((u2_n1 h1).trans (u2_n1 h1))
      have m103 : ∀ j, mI (wL Mb 200 0 (Int32.toInt64 (nI k))) 103 j = if j = 1 then 1 else if j = 4 then nI (a + 1) else mI M 103 j := fun j => by
        show mI (wI (wI M 103 4 (nI (a + 1))) 103 1 1) 103 j = _
        simp [wI, mI, u2]
      have mo : ∀ a', a' ≠ 103 → mI (wL Mb 200 0 (Int32.toInt64 (nI k))) a' = mI M a' := fun a' ha => (mI_wI_ne ha).trans (mI_wI_ne ha)
      generalize hM1 : wL Mb 200 0 (Int32.toInt64 (nI k)) = M1 at *
      have e123 : ∀ j, mI (rN M1 p (mI M 124) (vv M 124) X2) 123 j = X2 0 j := fun j => congrFun rN_X0 j
      have e138 : mI (rN M1 p (mI M 124) (vv M 124) X2) 138 = mI M 138 := (rN_X (t := 15) (by omega) (by omega)).trans (hXt 15 (by omega))
      refine ⟨0, nI k, M1, _, c0, r1, (g.1 0 (by omega)).trans h.2.2.1, CSK_lb hk g, (e123 0).trans ?_, fun _ => by rw [← hM1]; exact out_v (M1 := Mb), ST_B h g hp ⟨fun t h1 h2 => hXt t (by omega), (hX0 3).trans (by simp), (hX0 4).trans (by simp)⟩ ⟨true, some k, ch, m, a + 1, ?_, ?_, ?_, fun k' e => (Option.some.inj e) ▸ k1, ?_, c6, ?_, ?_, c9, q, (fun e => by cases e), fun _ => ⟨?_, ?_, ?_, fun j hj => ?_, ?_, fun k' e => ⟨Nat.le_add_left _ _, ?_⟩⟩⟩ (TX_lb hTX ?_ ?_ ?_ ?_) ⟨l, FO_fr hFO ?_ ?_ ?_ ?_⟩, rfl⟩
      · rw [hX0]; rfl
      · rw [rN_I (by omega), m103]; exact c1
      · rw [e123, hX0]; exact c2
      · rw [e123, hX0]; rfl
      · rw [e123, hX0]; exact c5
      · rw [e123, hX0]; exact c7
      · rw [e123, hX0]; rfl
      · rw [rN_I (by omega), m103]; exact d1
      · rw [rN_I (by omega), m103]; exact d2
      · rw [rN_I (by omega), m103]; rfl
      · obtain ⟨k', b1, b2, b3⟩ := d4 j hj
        exact ⟨k', b1, by rw [rN_I (by omega), mo _ (by omega)]; exact b2, by rw [e138]; exact b3⟩
      · rw [rN_I (by omega), m103]; rfl
      · rw [rN_I (by omega), mo _ (by omega), Nat.add_sub_cancel, k2, Option.some.inj e]
      · rw [rN_I (by omega), mo _ (by omega)]
      · rw [rN_I (by omega), mo _ (by omega)]
      · rw [e123, hX0]; rfl
      · exact (rN_X (t := 16) (by omega) (by omega)).trans (hXt 16 (by omega))
      · rw [rN_I (by omega), mo _ (by omega)]
      · rw [rN_I (by omega), mo _ (by omega)]
      · rw [e123, hX0]; rfl
      · exact (rN_X (t := 17) (by omega) (by omega)).trans (hXt 17 (by omega))
    · rw [if_neg (fun z => q (lt.mp z))] at eL
      refine OK_e (M1 := aExn M) (code := 2) (v := 0) (X' := qXe (xx M) 2) h hp LV_exn ?_ (by decide) (fun N _ hN => ?_) XKp_Xe qXe_0
      · rw [eL]; exact L_exn rfl rfl
      · rw [er N hN, if_pos (c := (true = true)) rfl, if_neg q]
end Uk
