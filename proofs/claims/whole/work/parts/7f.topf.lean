/-! CHANGES: caches -/
section Up
variable {M M' M1 N : LM} {L B D P U i j k t w f n n' c e r a o m ch len lo hi : Nat} {x y v b1 b2 code cache key what rule its greater keys most room lapse mode : Int32} {z : Option (LO × LM)} {b : Bool} {T T' : BT} {kf fs W p kf' fs' W' : Nat → Nat} {xs H H' : Nat → Int32} {V V' X X' X2 : Nat → Nat → Int32} {l : Option (List Nat)} {y64 : Int64} {fL fX fC : LM → Option (LO × LM)} {hl : List (Nat × Int32)} {S Z Z' : CS}
theorem t_cM (hi : i < 6) : cM M (cc 2 i) S = bM M 2 ((tB M 2).1, u1 (tB M 2).2 i S) := by
  have := bM_c (M := M) (B := 2) (T := tB M 2) (i := i) (S := S) hi
  rwa [bM_id] at this
theorem t_cid : cM M (cc 2 i) (tG M (cc 2 i)) = M := cM_id
theorem kEmp_6 (Q : Nat → CS) : kEmpties 6 Q = fun i => if i < 6 then kEmpty (Q i) 0 else Q i := by
  rw [kEmpties_i 6 Q (Nat.le_refl _)]
  funext i
  simp
theorem o_flush (h : ST L xs M i) : OK L xs i M (fun M => f_L_flush 40 M 1 cache 200) (fun M => f_X11_flush 40 M 123 cache) := by
  obtain ⟨hk, -, -, hCU, hTX, -, kf, fs, W, n, p, c, e, hd⟩ := id h
  obtain ⟨hp, hpa, hc6, he6, h3, h4, hm2, hm3, hB, hR, hCT⟩ := id hd
  have hn : n ≤ 300 := hB.1
  have h0 : mI M 124 0 = nI n := hB.2.2.1
  have hl : mI M 7 3 = nI n := hB.2.1
  obtain ⟨M', P, ec, hKE, hk', hb, eb, hB'⟩ := C_b h hd 31
  have hx3 : xx M 0 3 = nI c := h3
  have er := fun N (hN : RA N 123) => r_flush (M := N) (o := 123) (p := p) (c := c) (H := mI M 124) (V := vv M 124) (X := xx M) 35 hN hpa hc6 hx3 (cache := cache)
  have eL : f_L_flush 40 M 1 cache 200 = _ := e_L_flush 39 M 1 cache 200
  have ec' : f_X10_beginChange 38 M 1 = _ := ec
  rw [t_ck hk, e_X10_flush, z_cache, bv_if] at eL
  by_cases q1 : qIn cache 0 5 = true
  · obtain ⟨ch, hch, rfl⟩ := qIn_c q1
    have hC := RB_c hB' hch
    have ew := k_writeDirty (M := M') (C := cc 2 ch) (S := tG M' (cc 2 ch)) 36 (t_cA hk' hch)
    rw [t_cid, t_cM hch] at ew
    rw [if_pos q1, t_ck hk, ec', lt_bv_r, t_ck hk', t_p0 hk', x_rf, t_ckB hk', t_cache 37 hk' hch, lt_br_r, t_ckC hk' hch, ew, lt_bi_r, HB_pop (show HB ((tG M' (cc 2 ch)).1 0 6) (vv M 124 ch) 154 from hC.1.2.2.1)] at eL
    refine OKC h hd hKE (RB_up hB' hch (RC_flush hC)) (CT_flush hCT) (eL.trans (L_val rfl hk')) (fun N hN => ?_) (XBk_b hpa hc6 h0) (qBX_17 hpa hc6) qBX_18 (qBX_0 hpa hc6)
    rw [er N hN, if_pos q1, lt_iN (by omega)]
  · rw [if_neg q1] at eL
    refine OK_eG (M1 := aExn M) (code := 1) (v := 0) (X' := qXe (xx M) 1) h hp LV_exn ?_ (by decide) (fun N hN => ?_) XKp_Xe qXe_0
    · rw [eL]; exact L_exn rfl rfl
    · rw [er N hN, if_neg q1]
theorem o_drop (h : ST L xs M i) : OK L xs i M (fun M => f_L_drop 40 M 1 cache key 200) (fun M => f_X11_drop 40 M 123 cache key) := by
  obtain ⟨hk, -, -, hCU, hTX, -, kf, fs, W, n, p, c, e, hd⟩ := id h
  obtain ⟨hp, hpa, hc6, he6, h3, h4, hm2, hm3, hB, hR, hCT⟩ := id hd
  have hn : n ≤ 300 := hB.1
  have h0 : mI M 124 0 = nI n := hB.2.2.1
  have hl : mI M 7 3 = nI n := hB.2.1
  obtain ⟨M', P, ec, hKE, hk', hb, eb, hB'⟩ := C_b h hd 31
  have hx3 : xx M 0 3 = nI c := h3
  have er := fun N (hN : RA N 123) => r_drop (M := N) (o := 123) (p := p) (c := c) (H := mI M 124) (V := vv M 124) (X := xx M) 35 hN hpa hc6 hx3 (cache := cache) (key := key)
  have eL : f_L_drop 40 M 1 cache key 200 = _ := e_L_drop 39 M 1 cache key 200
  have ec' : f_X10_beginChange 38 M 1 = _ := ec
  rw [t_ck hk, e_X10_drop, z_cache, bv_if] at eL
  by_cases q1 : qIn cache 0 5 = true
  · obtain ⟨ch, hch, rfl⟩ := qIn_c q1
    rw [if_pos q1, z_key, bv_if] at eL
    by_cases q2 : qIn key 0 25 = true
    · obtain ⟨k, hk26, rfl⟩ := qIn_k q2
      have qq : (qIn (nI ch) 0 5 && qIn (nI k) 0 25) = true := by rw [q1, q2]; rfl
      have hh := HB_one (RB_c hB hch).1.2.1 hk26
      rw [if_pos q2, t_ck hk, t_p0 hk, x_rf, t_ckB hk, t_cache 37 hk hch, lt_br_r, t_ckC hk hch, t_has 37 hk26, lt_bi_r] at eL
      cases q3 : bt (mI M (cc 2 ch) 5) k with
      | true =>
        have hC := RB_c hB' hch
        have hv : vv M 124 ch (24 + k) = 1 := hh.mpr q3
        have hdd : decide (vv M 124 ch (154 + k) = 1) = bt (mI M' (cc 2 ch) 6) k := by
          have := hC.1.2.2.1.2 k hk26
          rw [this]
          show decide (bI (bt (mI M' (cc 2 ch) 6) k) = 1) = _
          cases bt (mI M' (cc 2 ch) 6) k <;> rfl
        have et := k_take (M := M') (C := cc 2 ch) (S := tG M' (cc 2 ch)) 36 (t_cA hk' hch) hk26
        rw [t_cid, t_cM hch] at et
        rw [q3, if_neg (c := (bI true = 0)) (by decide), t_ck hk, ec', lt_bv_r, t_ckC hk' hch, t_has 37 hk26, lt_bi_r, t_ckC hk' hch, et, lt_bv_r] at eL
        have hb1' : ∀ (b : Bool) (z : Option (LO × LM)), lt_b1 (bI b) z = z := fun b z => by cases b <;> rfl
        rw [hb1'] at eL
        refine OKC h hd hKE (RB_up hB' hch (RC_take hC hk26)) (CT_take hCT hk26) (eL.trans (L_bool rfl hk')) (fun N hN => ?_) (XBk_b hpa hc6 h0) (qBX_17 hpa hc6) qBX_18 (qBX_0 hpa hc6)
        rw [er N hN, if_pos qq, lt_iN (by omega), lt_iN (by omega), if_pos hv, hdd]
      | false =>
        have hv : ¬ vv M 124 ch (24 + k) = 1 := fun z => by
          have := hh.mp z
          rw [show bt (((tB M 2).2 ch).1 0 5) k = bt (mI M (cc 2 ch) 5) k from rfl, q3] at this
          cases this
        rw [q3, if_pos (c := (bI false = 0)) rfl] at eL
        refine OK_eG (M1 := aExn M) (code := 2) (v := 0) (X' := qXe (xx M) 2) h hp LV_exn ?_ (by decide) (fun N hN => ?_) XKp_Xe qXe_0
        · rw [eL]; exact L_exn rfl rfl
        · rw [er N hN, if_pos qq, lt_iN (by omega), lt_iN (by omega), if_neg hv]
    · rw [if_neg q2] at eL
      have qq : ¬ (qIn (nI ch) 0 5 && qIn key 0 25) = true := by simp [q2]
      refine OK_eG (M1 := aExn M) (code := 1) (v := 0) (X' := qXe (xx M) 1) h hp LV_exn ?_ (by decide) (fun N hN => ?_) XKp_Xe qXe_0
      · rw [eL]; exact L_exn rfl rfl
      · rw [er N hN, if_neg qq]
  · rw [if_neg q1] at eL
    have qq : ¬ (qIn cache 0 5 && qIn key 0 25) = true := by simp [q1]
    refine OK_eG (M1 := aExn M) (code := 1) (v := 0) (X' := qXe (xx M) 1) h hp LV_exn ?_ (by decide) (fun N hN => ?_) XKp_Xe qXe_0
    · rw [eL]; exact L_exn rfl rfl
    · rw [er N hN, if_neg qq]
theorem o_setCache (h : ST L xs M i) : OK L xs i M (fun M => f_L_setCache 40 M 1 cache rule room lapse mode 200) (fun M => f_X11_setCache 40 M 123 cache rule room lapse mode) := by
  obtain ⟨hk, -, -, hCU, hTX, -, kf, fs, W, n, p, c, e, hd⟩ := id h
  obtain ⟨hp, hpa, hc6, he6, h3, h4, hm2, hm3, hB, hR, hCT⟩ := id hd
  have hn : n ≤ 300 := hB.1
  have h0 : mI M 124 0 = nI n := hB.2.2.1
  have hl : mI M 7 3 = nI n := hB.2.1
  obtain ⟨M', P, ec, hKE, hk', hb, eb, hB'⟩ := C_b h hd 31
  have hx3 : xx M 0 3 = nI c := h3
  have er := fun N (hN : RA N 123) => r_setCache (M := N) (o := 123) (p := p) (c := c) (H := mI M 124) (V := vv M 124) (X := xx M) 35 hN hpa hc6 hx3 (cache := cache) (rule := rule) (room := room) (lapse := lapse) (mode := mode)
  have eL : f_L_setCache 40 M 1 cache rule room lapse mode 200 = _ := e_L_setCache 39 M 1 cache rule room lapse mode 200
  have ec' : f_X10_beginChange 38 M 1 = _ := ec
  rw [t_ck hk, e_X10_setCache, z_cache, bv_if] at eL
  by_cases q1 : qIn cache 0 5 = true
  · obtain ⟨ch, hch, rfl⟩ := qIn_c q1
    have exn : ¬ qSCok rule room lapse mode = true → f_L_setCache 40 M 1 (nI ch) rule room lapse mode 200 = lt_bi (some (.inr 1, aExn M)) lt_h270 (fun v2 M1 => lt_ar M1 200 2 0 (lt_m (wL M1 200 (lt_n 0) (Int32.toInt64 v2)) fun M3 => some (.inl (some (.int 0)), M3))) → OK L xs i M (fun M => f_L_setCache 40 M 1 (nI ch) rule room lapse mode 200) (fun M => f_X11_setCache 40 M 123 (nI ch) rule room lapse mode) := by
      intro qo eL
      refine OK_eG (M1 := aExn M) (code := 2) (v := 0) (X' := qXe (xx M) 2) h hp LV_exn ?_ (by decide) (fun N hN => ?_) XKp_Xe qXe_0
      · rw [eL]; exact L_exn rfl rfl
      · rw [er N hN, if_pos q1, if_neg qo]
    rw [if_pos q1, z_range, bv_if] at eL
    by_cases q2 : qIn rule 0 6 = true
    · rw [if_pos q2, z_range, bv_if] at eL
      by_cases q3 : qIn room 1 20 = true
      · rw [if_pos q3, z_range, bv_if] at eL
        by_cases q4 : qIn lapse 0 1000 = true
        · rw [if_pos q4, z_range, bv_if] at eL
          by_cases q5 : qIn mode 0 3 = true
          · have qo : qSCok rule room lapse mode = true := by unfold qSCok; rw [q2, q3, q4, q5]; rfl
            have hC := RB_c hB' hch
            have es := k_setUp (M := M') (C := cc 2 ch) (S := tG M' (cc 2 ch)) (a := rule) (b := room) (e := lapse) (f := mode) 36 (t_cA hk' hch)
            rw [t_cid] at es
            let S1 := kSetUp (tG M' (cc 2 ch)) rule room lapse mode
            have hk1 : CSK L (cM M' (cc 2 ch) S1) := hk'
            have ee := k_empty (M := M') (C := cc 2 ch) (S := S1) (nx := nI n) 35 (t_cA hk' hch)
            rw [t_cM hch (S := kEmpty S1 (nI n))] at ee
            have e7 : mI (cM M' (cc 2 ch) S1) 7 3 = nI n := by
              rw [t_cM hch]
              have := bMI (M := M') (B := 2) (T := ((tB M' 2).1, u1 (tB M' 2).2 ch S1)) (t := 5) (by omega)
              exact (congrFun this 3).trans hB'.2.1
            rw [if_pos q5, t_ck hk, ec', lt_bv_r, t_ck hk', t_p0 hk', x_rf, t_ckB hk', t_cache 37 hk' hch, lt_br_r, t_ckC hk' hch, c_pop, lt_bi_r, t_ckC hk' hch, es, lt_bv_r, t_ck hk1, t_p0 hk1, x_rf, t_ckB hk1, t_B1 hk1, x_rf, t_ckR hk1, t_ckC hk1 hch, e7, ee, lt_bv_r, HB_pop (show HB (mI M' (cc 2 ch) 5) (vv M 124 ch) 24 from hC.1.2.1)] at eL
            have so : SOK rule room lapse mode := by
              obtain ⟨ru, ru1, ru2, rfl⟩ := qIn_r (lo := 0) (hi := 6) (by omega) (by omega) q2
              obtain ⟨ro, ro1, ro2, rfl⟩ := qIn_r (lo := 1) (hi := 20) (by omega) (by omega) q3
              obtain ⟨mo, mo1, mo2, rfl⟩ := qIn_r (lo := 0) (hi := 3) (by omega) (by omega) q5
              exact ⟨⟨ru, by omega, rfl⟩, ⟨ro, ro1, ro2, rfl⟩, ⟨mo, by omega, rfl⟩⟩
            refine OKC h hd hKE (RB_setCache hB' hch so) (CT_set hCT hch) (eL.trans (L_val rfl hk')) (fun N hN => ?_) (XBk_b hpa hc6 h0) (qBX_17 hpa hc6) qBX_18 (qBX_0 hpa hc6)
            rw [er N hN, if_pos q1, if_pos qo, lt_iN (by omega), h0]
          · rw [if_neg q5] at eL
            exact exn (by unfold qSCok; simp [q5]) eL
        · rw [if_neg q4] at eL
          exact exn (by unfold qSCok; simp [q4]) eL
      · rw [if_neg q3] at eL
        exact exn (by unfold qSCok; simp [q3]) eL
    · rw [if_neg q2] at eL
      exact exn (by unfold qSCok; simp [q2]) eL
  · rw [if_neg q1] at eL
    refine OK_eG (M1 := aExn M) (code := 1) (v := 0) (X' := qXe (xx M) 1) h hp LV_exn ?_ (by decide) (fun N hN => ?_) XKp_Xe qXe_0
    · rw [eL]; exact L_exn rfl rfl
    · rw [er N hN, if_neg q1]
theorem o_clearRow (h : ST L xs M i) : OKd L xs i M (fun M => f_X10_clearRow 40 M 1) (fun M => f_X11_clearRow 40 M 123) := by
  obtain ⟨hk, -, -, hCU, hTX, -, kf, fs, W, n, p, c, e, hd⟩ := id h
  obtain ⟨hp, hpa, hc6, he6, h3, h4, hm2, hm3, hB, hR, hCT⟩ := id hd
  have hn : n ≤ 300 := hB.1
  have h0 : mI M 124 0 = nI n := hB.2.2.1
  have hl : mI M 7 3 = nI n := hB.2.1
  obtain ⟨M', P, ec, hKE, hk', hb, eb, hB'⟩ := C_b h hd 32
  have hx3 : xx M 0 3 = nI c := h3
  have er := fun N (hN : RA N 123) => r_clearRow (M := N) (o := 123) (p := p) (c := c) (H := mI M 124) (V := vv M 124) (X := xx M) 35 hN hpa hc6 hx3
  have eL : f_X10_clearRow 40 M 1 = _ := e_X10_clearRow 39 M 1
  have ec' : f_X10_beginChange 39 M 1 = _ := ec
  let T1 : BT := (u2 (tB M' 2).1 5 3 0, (tB M' 2).2)
  have eT : wI M' 7 3 0 = bM M' 2 T1 := by
    have := bMw (M := M') (B := 2) (T := tB M' 2) (t := 5) (j := 3) (v := 0) (by omega)
    rw [eb] at this
    exact this
  have hk1 : CSK L (bM M' 2 T1) := hk'
  have el := b_emptyCaches (M := M') (B := 2) (T := T1) 35 hb
  have e7 : mI M' 7 3 = mI M 124 0 := hB'.2.1.trans h0.symm
  rw [t_ck hk, ec', lt_bv_r, t_ck hk', t_p0 hk', x_rf, t_ckB hk', t_B1 hk', x_rf, t_ckR hk', t_ck hk', x_rf, t_ckB hk', t_B1 hk', x_rf, t_ckR hk', x_m, eT, t_ck hk1, t_p0 hk1, x_rf, t_ckB hk1, el, lt_bv_r, e7, kEmp_6] at eL
  refine OKCd h hd hKE (RB_clear (kf' := kf) hB') CT_clear eL (fun N hN => er N hN) (XBk_s (XBk_b hpa hc6 h0) (fun t ht => u2_n1 (by omega)) (fun j hj => u2_n2 (by omega)) u2_eq) ((u2_n2 (by decide)).trans (qBX_17 hpa hc6)) ((u2_n2 (by decide)).trans qBX_18)
theorem o_replay (h : ST L xs M i) : OKd L xs i M (fun M => f_X10_replay 40 M 1) (fun M => f_X11_replay 40 M 123) := by
  obtain ⟨hk, -, -, hCU, hTX, -, kf, fs, W, n, p, c, e, hd⟩ := id h
  obtain ⟨hp, hpa, hc6, he6, h3, h4, hm2, hm3, hB, hR, hCT⟩ := id hd
  have hn : n ≤ 300 := hB.1
  have h0 : mI M 124 0 = nI n := hB.2.2.1
  have hl : mI M 7 3 = nI n := hB.2.1
  obtain ⟨M', P, ec, hKE, hk', hb, eb, hB'⟩ := C_b h hd 32
  have hx3 : xx M 0 3 = nI c := h3
  obtain ⟨V', g1, g2, g3, g4⟩ := RB_replay hB'
  have er := fun N (hN : RA N 123) => r_replay (M := N) (o := 123) (p := p) (c := c) (H := mI M 124) (V := vv M 124) (X := xx M) 28 hN hpa hc6 hx3 (RB_RS hB) g1 g2
  have eL : f_X10_replay 40 M 1 = _ := e_X10_replay 39 M 1
  have ec' : f_X10_beginChange 39 M 1 = _ := ec
  have ef := b_feedAnew (M := M') (B := 2) (T := tB M' 2) (kf := kf) (n := n) (W := W) 32 hb (RB_RK hB') hn hB'.2.1 (RB_bH hB')
  rw [eb] at ef
  rw [t_ck hk, ec', lt_bv_r, t_ck hk', t_p0 hk', x_rf, t_ckB hk', ef, lt_bi_r] at eL
  have hct : CT (fun _ => 0) n (qLapses (upd (mI M 124) 1 (mI M 124 1)) 6 V' 0).1 := CT_lapses (CT_rep (fun i hi => kf26 hB i hi) n _ _ (Nat.le_refl _) g1 (by rw [Nat.sub_self]; exact CT_clear))
  refine OKCde h hd hKE g4 hct eL (fun N hN => ?_)
  obtain ⟨X', x1, x2, x3⟩ := er N hN
  refine ⟨X', by rw [x3, g3], XBk_T hpa hc6 h0 x1 x2, (x1.2 17 (by omega) (by omega)).trans (qBX_17 hpa hc6), (x1.2 18 (by omega) (by omega)).trans qBX_18⟩
end Up
