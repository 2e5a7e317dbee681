/-! CALLS: the order of a cache, its victim -/
section Uh
variable {M M' M1 N : LM} {L B D P U i j k t w f n c e r a o m ch : Nat} {x y v b1 b2 code cache key what ow rq from_ to_ place : Int32} {z : Option (LO × LM)} {b : Bool} {T : BT} {kf fs W p : Nat → Nat} {xs H H' : Nat → Int32} {V V' X X' : Nat → Nat → Int32} {l : Option (List Nat)} {y64 : Int64} {fL fX : LM → Option (LO × LM)} {hl : List (Nat × Int32)} {S : CS}
theorem r_keyInOrder (d : Nat) (h : RA M o) (hS : RS H kf n V fs) (h4 : X 0 4 = nI n) :
    (qIn cache 0 5 = false → f_X11_keyInOrder (d + 6) (rM M o H V X) o cache place = some (.inl (some (.int 0)), rM M o H V (qXe X 1))) ∧
    (∀ ch, ch < 6 → cache = nI ch → ∃ X', XO (qX0 X) X' ∧ X' 14 = (qOrd (V ch) kf (fs ch) n (X 14)).2 ∧ (∀ j, j < (qOrd (V ch) kf (fs ch) n (X 14)).1 → place = nI j → f_X11_keyInOrder (d + 6) (rM M o H V X) o cache place = some (.inl (some (.int (X' 14 j))), rM M o H V X')) ∧
      (qIn place 0 (nI (qOrd (V ch) kf (fs ch) n (X 14)).1 - 1) = false → f_X11_keyInOrder (d + 6) (rM M o H V X) o cache place = some (.inl (some (.int 0)), rM M o H V (u2 X' 0 0 2)))) := by
  refine ⟨fun hq => ?_, fun ch hch hc => ?_⟩
  · rw [e_X11_keyInOrder]
    simp (maxSteps := 1000000) (disch := first | assumption | omega) only [x_rf, x_m, lt_bv_r, lt_bi_r, lt_bl_r, ↓r_ck, r_get, r_put, r_more, rM_h, rM_f, rM_x, rM_wf, rM_wx, rM_wh, lt_iN, lt_b1_0, lt_b1_1, x_if1, x_eq1, x_10, x_01, x_11, x_00, ↓reduceIte, r_nz, r_ar1L0, r_ar1L1, lt_n0_, lt_n1_, upd_s, upd_o, u2_eq, u2_n1, u2_n2, r_p1, r_p5, r_p6, r_p7, r_p9, r_p10, r_p11, r_p13, r_p19, r_p23, r_p26, r_p27, r_p32, r_p33, r_p34, r_ar1, r_ar9, r_ar10, r_ar11, r_ar12, r_ar13, r_ar14, r_ar15, r_ar16, r_ar17, r_ar18, r_ar19, r_ar74, r_ar75, r_ar76, n2_, n4_, n12_, n24_, n28_, n50_, n54_, n76_, n80_, n102_, n128_, n154_, n180_, n206_, n232_, n258_, n284_, n310_, n336_, n362_, n380_, n680_, r_get0, r_get1, r_get2, r_get3, r_get4, r_get8, r_get9, r_get10, r_get11, r_get12, r_get13, r_put0, r_put1, r_put2, r_put3, r_put4, r_put5, r_put6, r_put7, r_put8, r_put9, r_put10, r_put11, r_more10, r_more12, r_more13, r_more14, r_more15, r_more16, r_more17, r_more18, r_more19, r_more20, r_in, r_no, r_no0, r_no1, bI_t, bI_f, bI0, Bool.not_true, Bool.not_false, r_isNoCache, hq, Bool.false_eq_true]
  · subst hc
    have hq : qIn (nI ch) 0 5 = true := qIn_0 (m := 5) (by omega) (by omega)
    obtain ⟨s1, s2, s3, s4, s5⟩ := hS
    obtain ⟨f1, f2, f3, f4⟩ := s5 ch (by omega)
    obtain ⟨X', a1, a2, a3, a4, a5, a6⟩ := r_laysOrder (M := M) (o := o) (H := H) (V := V) (U := V ch) (u := ch) (X := qX0 X) d h (by omega) s2 s3 f1 (show qX0 X 0 4 = nI n from (u2_n2 (by omega)).trans h4) f2 f3
    have e14 : qX0 X 14 = X 14 := u2_n1 (by omega)
    rw [e14] at a2 a3 a4 a5
    rw [u1_id] at a6
    refine ⟨X', a1, a2, fun j hj hpj => ?_, fun hqp => ?_⟩
    · subst hpj
      have hqp : qIn (nI j) 0 (nI (qOrd (V ch) kf (fs ch) n (X 14)).1 - 1) = true := by
        rw [qIn_i]
        refine ⟨lt_neg (by omega), ?_⟩
        rw [Int32.lt_iff_toInt_lt, nI_m (by omega), lt_iT (by omega)]
        omega
      have hj26 : j < 26 := by omega
      have ar : ∀ {X : Nat → Nat → Int32} {z : Option (LO × LM)}, lt_ar (rM M o H V X) (o + 14) 1 (nI j) z = z := fun {X z} => r_ar14 h hj26
      rw [e_X11_keyInOrder]
      simp (maxSteps := 1000000) (disch := first | assumption | omega) only [x_rf, x_m, lt_bv_r, lt_bi_r, lt_bl_r, ↓r_ck, r_get, r_put, r_more, rM_h, rM_f, rM_x, rM_wf, rM_wx, rM_wh, lt_iN, lt_b1_0, lt_b1_1, x_if1, x_eq1, x_10, x_01, x_11, x_00, ↓reduceIte, r_nz, r_ar1L0, r_ar1L1, lt_n0_, lt_n1_, upd_s, upd_o, u2_eq, u2_n1, u2_n2, r_p1, r_p5, r_p6, r_p7, r_p9, r_p10, r_p11, r_p13, r_p19, r_p23, r_p26, r_p27, r_p32, r_p33, r_p34, r_ar1, r_ar9, r_ar10, r_ar11, r_ar12, r_ar13, r_ar14, r_ar15, r_ar16, r_ar17, r_ar18, r_ar19, r_ar74, r_ar75, r_ar76, n2_, n4_, n12_, n24_, n28_, n50_, n54_, n76_, n80_, n102_, n128_, n154_, n180_, n206_, n232_, n258_, n284_, n310_, n336_, n362_, n380_, n680_, r_get0, r_get1, r_get2, r_get3, r_get4, r_get8, r_get9, r_get10, r_get11, r_get12, r_get13, r_put0, r_put1, r_put2, r_put3, r_put4, r_put5, r_put6, r_put7, r_put8, r_put9, r_put10, r_put11, r_more10, r_more12, r_more13, r_more14, r_more15, r_more16, r_more17, r_more18, r_more19, r_more20, r_in, r_no, r_no0, r_no1, bI_t, bI_f, bI0, Bool.not_true, Bool.not_false, r_isNoCache, hq, a6, a3, hqp, ar]
    · rw [e_X11_keyInOrder]
      simp (maxSteps := 1000000) (disch := first | assumption | omega) only [x_rf, x_m, lt_bv_r, lt_bi_r, lt_bl_r, ↓r_ck, r_get, r_put, r_more, rM_h, rM_f, rM_x, rM_wf, rM_wx, rM_wh, lt_iN, lt_b1_0, lt_b1_1, x_if1, x_eq1, x_10, x_01, x_11, x_00, ↓reduceIte, r_nz, r_ar1L0, r_ar1L1, lt_n0_, lt_n1_, upd_s, upd_o, u2_eq, u2_n1, u2_n2, r_p1, r_p5, r_p6, r_p7, r_p9, r_p10, r_p11, r_p13, r_p19, r_p23, r_p26, r_p27, r_p32, r_p33, r_p34, r_ar1, r_ar9, r_ar10, r_ar11, r_ar12, r_ar13, r_ar14, r_ar15, r_ar16, r_ar17, r_ar18, r_ar19, r_ar74, r_ar75, r_ar76, n2_, n4_, n12_, n24_, n28_, n50_, n54_, n76_, n80_, n102_, n128_, n154_, n180_, n206_, n232_, n258_, n284_, n310_, n336_, n362_, n380_, n680_, r_get0, r_get1, r_get2, r_get3, r_get4, r_get8, r_get9, r_get10, r_get11, r_get12, r_get13, r_put0, r_put1, r_put2, r_put3, r_put4, r_put5, r_put6, r_put7, r_put8, r_put9, r_put10, r_put11, r_more10, r_more12, r_more13, r_more14, r_more15, r_more16, r_more17, r_more18, r_more19, r_more20, r_in, r_no, r_no0, r_no1, bI_t, bI_f, bI0, Bool.not_true, Bool.not_false, r_isNoCache, hq, a6, a3, hqp, Bool.false_eq_true]
/-- the order, told by the class -/
theorem t_order (h : CSK L M) (hc : ch < 6) (d : Nat) {pl : Nat} (hpl : pl < 2147483648) : ∀ (m j : Nat), j + m = pl → f_X10_keyInOrder_45 (d + 3) M (nI pl) (cc 2 ch) (kLeft (tG M (cc 2 ch)) (mI M (cc 2 ch) 5) j) (nI j) = some (.inl (some (.int (oI (kFirst (tG M (cc 2 ch)) (kLeft (tG M (cc 2 ch)) (mI M (cc 2 ch) 5) pl))))), M)
  | 0, j, e => by
    have : j = pl := by omega
    subst this
    have g : ¬ nI j < nI j := fun q => by have := (nI_ltP hpl hpl).mp q; omega
    rw [e_X10_keyInOrder_45, if_neg g, t_ckC h hc, k_firstM d (t_cA h hc), lt_bi_r]
  | m + 1, j, e => by
    have g : nI j < nI pl := (nI_ltP (by omega) (by omega)).mpr (by omega)
    have e1 : nI j + 1 = nI (j + 1) := lt_iA (j := j) (k := 1)
    rw [e_X10_keyInOrder_45, if_pos g, t_ckC h hc, k_firstM d (t_cA h hc), lt_bi_r, k_bitO _ (fun j => kFirst_lt j), lt_bi_r, e1]
    exact t_order h hc d hpl m (j + 1) (by omega)
theorem o_keyInOrder (h : ST L xs M i) : OK L xs i M (fun M => f_L_keyInOrder 40 M 1 cache place 200) (fun M => f_X11_keyInOrder 40 M 123 cache place) := by
  obtain ⟨hk, -, -, -, -, -, kf, fs, W, n, p, c, e, hp, hpa, -, -, -, h4, -, -, hB, -⟩ := id h
  have hn : n ≤ 300 := hB.1
  have h0 : mI M 124 0 = nI n := hB.2.2.1
  have hl : mI M 7 3 = nI n := hB.2.1
  have er := fun N (hN : RA N 123) => r_keyInOrder (M := N) (o := 123) (H := mI M 124) (V := vv M 124) (X := xx M) (cache := cache) (place := place) 34 hN (RB_RS hB) h4
  have eL : f_L_keyInOrder 40 M 1 cache place 200 = _ := e_L_keyInOrder 39 M 1 cache place 200
  rw [t_ck hk, e_X10_keyInOrder, z_cache, bv_if] at eL
  by_cases q1 : qIn cache 0 5 = true
  · obtain ⟨ch, hch, rfl⟩ := qIn_c q1
    rw [if_pos q1, t_ck hk, t_p0 hk, x_rf, t_ckB hk, t_cache 37 hk hch, lt_br_r] at eL
    have hC := RB_c hB hch
    have hN := N_ok (fs ch) hn
    have hord := order_eq hC.1 (by omega) hN.2 hC.2.2.2.2.2.1 hn (xx M 14)
    have hKS : KS (mI M (cc 2 ch) 5) := hC.1.2.1.1
    have hpop : pPop (mI M (cc 2 ch) 5) = nI (qOrd (vv M 124 ch) kf (fs ch) n (xx M 14)).1 := by
      rw [pPop_nK hKS, hord.1]
      rfl
    have hm26 : (qOrd (vv M 124 ch) kf (fs ch) n (xx M 14)).1 ≤ 26 := by rw [hord.1]; exact nK_le 26
    have exn : (fun M => f_L_keyInOrder 40 M 1 (nI ch) place 200) M = some (.inl (some (.int 2)), aExn M) → qIn place 0 (nI (qOrd (vv M 124 ch) kf (fs ch) n (xx M 14)).1 - 1) = false → OK L xs i M (fun M => f_L_keyInOrder 40 M 1 (nI ch) place 200) (fun M => f_X11_keyInOrder 40 M 123 (nI ch) place) := by
      intro e1 hqp
      have hRA := RA.rp (M := aExn M) (o := 123) (g := gP 123 p) (t_r (M := aExn M) (CSK_lv hk LV_exn))
      obtain ⟨X', a1, a2, a3, a4⟩ := (er (rP (aExn M) 123 (gP 123 p)) hRA).2 ch hch rfl
      exact OKA (M1 := aExn M) (code := 2) (v := 0) (X' := u2 X' 0 0 2) h LV_exn hp e1 (a4 hqp) (XKp_X0.tr ((XKp_o a1).tr (XKp_0 (by decide)))) u2_eq (fun z => absurd z (by decide))
    by_cases q2 : place < 0
    · rw [if_pos q2] at eL
      refine exn (eL.trans (L_exn rfl rfl)) ?_
      cases q : qIn place 0 (nI (qOrd (vv M 124 ch) kf (fs ch) n (xx M 14)).1 - 1) with
      | false => rfl
      | true => exact absurd q2 (qIn_i.mp q).1
    · rw [if_neg q2, t_ckC hk hch, c_pop, lt_bi_r, hpop] at eL
      by_cases q3 : place < nI (qOrd (vv M 124 ch) kf (fs ch) n (xx M 14)).1
      · rw [if_pos q3, t_ckC hk hch] at eL
        obtain ⟨pl, hpl, rfl⟩ : ∃ pl, pl < (qOrd (vv M 124 ch) kf (fs ch) n (xx M 14)).1 ∧ place = nI pl := by
          rw [Int32.lt_iff_toInt_lt, lt_iT (by omega)] at q3
          rw [Int32.lt_iff_toInt_lt, show (0 : Int32).toInt = 0 from rfl] at q2
          refine ⟨place.toInt.toNat, by omega, Int32.toInt.inj ?_⟩
          rw [lt_iT (by omega)]; omega
        obtain ⟨k, hk26, hf, hv⟩ := hord.2 pl hpl
        have e0 := t_order hk hch 36 (pl := pl) (by omega) pl 0 (by omega)
        have e0' : f_X10_keyInOrder_45 39 M (nI pl) (cc 2 ch) (mI M (cc 2 ch) 5) 0 = some (.inl (some (.int (nI k))), M) := by
          have : kFirst (tG M (cc 2 ch)) (kLeft (tG M (cc 2 ch)) (mI M (cc 2 ch) 5) pl) = some k := hf
          rw [this] at e0
          exact e0
        have hRA := RA.rp (M := wL M 200 0 (Int32.toInt64 (nI k))) (o := 123) (g := gP 123 p) (t_r (M := wL M 200 0 (Int32.toInt64 (nI k))) (CSK_lv hk (LV_out LV.rfl')))
        obtain ⟨X', a1, a2, a3, a4⟩ := (er (rP (wL M 200 0 (Int32.toInt64 (nI k))) 123 (gP 123 p)) hRA).2 ch hch rfl
        have r1 := a3 pl hpl rfl
        rw [a2, hv] at r1
        refine OKA (M1 := wL M 200 0 (Int32.toInt64 (nI k))) (code := 0) (v := nI k) (X' := X') h (LV_out LV.rfl') hp ?_ r1 (XKp_X0.tr (XKp_o a1)) ((a1.2 0 (by decide) (by decide)).trans qX0_0) (fun _ => out_v)
        exact eL.trans (L_val e0' hk)
      · rw [if_neg q3] at eL
        refine exn (eL.trans (L_exn rfl rfl)) ?_
        cases q : qIn place 0 (nI (qOrd (vv M 124 ch) kf (fs ch) n (xx M 14)).1 - 1) with
        | false => rfl
        | true =>
          have := (qIn_i.mp q).2
          rw [Int32.lt_iff_toInt_lt, nI_m (by omega)] at this
          rw [Int32.lt_iff_toInt_lt, lt_iT (by omega)] at q3
          omega
  · rw [if_neg q1] at eL
    have q1' : qIn cache 0 5 = false := by simpa using q1
    refine OK_e (M1 := aExn M) (code := 1) (v := 0) (X' := qXe (xx M) 1) h hp LV_exn ?_ (by decide) (fun N _ hN => ?_) XKp_Xe qXe_0
    · rw [eL]; exact L_exn rfl rfl
    · rw [(er N hN).1 q1']
/-- the victim, told by the class -/
theorem t_victim (d : Nat) (h : CSK L M) (hB : RB kf fs W n (tB M 2) (mI M 124) (vv M 124)) (hc : ch < 6) (hk : k < 26) : f_X1_firstOutFor (d + 5) M (cc 2 ch) 3 (nI k) = some (.inl (some (.int (if kNoVictim (mI M 4) ((tB M 2).2 ch) k = true then -1 else oI (kChO (mI M 4) ((tB M 2).2 ch) (kGo (mI M 4) (mI M 6) W ((tB M 2).2 ch) (((tB M 2).2 ch).1 0 5) k))))), M) := by
  have hW : ∀ k, k < 26 → mI M 6 k = nI (W k) ∧ W k < 4 := fun k hk => by
    have := RB_ky hB k hk
    exact ⟨this.2.2.2.1, this.2.2.1⟩
  have e := k_firstOutFor (M := M) (C := cc 2 ch) (K := 3) (S := (tB M 2).2 ch) (W := W) (k := k) d (t_cA h hc) (t_KO h hc) hW hk
  rw [show cM M (cc 2 ch) ((tB M 2).2 ch) = M from cM_id] at e
  exact e
theorem o_victim (h : ST L xs M i) : OK L xs i M (fun M => f_L_victim 40 M 1 cache key 200) (fun M => f_X11_victim 40 M 123 cache key) := by
  obtain ⟨hk, -, -, -, -, -, kf, fs, W, n, p, c, e, hp, hpa, -, -, -, h4, -, -, hB, -⟩ := id h
  have hn : n ≤ 300 := hB.1
  have h0 : mI M 124 0 = nI n := hB.2.2.1
  have hl : mI M 7 3 = nI n := hB.2.1
  have er := fun N (hN : RA N 123) => r_victim (M := N) (o := 123) (H := mI M 124) (V := vv M 124) (X := xx M) (cache := cache) (key := key) 33 hN (RB_RS hB) h4
  have eL : f_L_victim 40 M 1 cache key 200 = _ := e_L_victim 39 M 1 cache key 200
  rw [t_ck hk, e_X10_victim, z_cache, bv_if] at eL
  by_cases q1 : qIn cache 0 5 = true
  · obtain ⟨ch, hch, rfl⟩ := qIn_c q1
    rw [if_pos q1, z_key, bv_if] at eL
    by_cases q2 : qIn key 0 25 = true
    · obtain ⟨k, hk26, rfl⟩ := qIn_k q2
      rw [if_pos q2] at eL
      have hC := RB_c hB hch
      have hNL := N_ok (fs ch) hn
      have hKY := RB_ky hB
      have hF := FewA_FW hC.2.2.2.2.2.1 hn
      have m1 : vv M 124 (6 + 2 * ch) 13 = mI M (cc 2 ch + 13) 1 := hC.2.2.2.2.2.2.2.1.2.2.2.2.2.2.2.1
      have m2 : vv M 124 (7 + 2 * ch) 13 = mI M (cc 2 ch + 14) 1 := hC.2.2.2.2.2.2.2.2.1.2.2.2.2.2.2.2.1
      have hln : LN (((tB M 2).2 ch).1 13, ((tB M 2).2 ch).1 14) (qLeans (vv M 124) ch) := by
        unfold LN qLeans
        rw [m1, m2]
        rfl
      have tv := t_victim 33 hk hB hch hk26
      have hno : kNoVictim (mI M 4) ((tB M 2).2 ch) k = qNone (mI M 124) (vv M 124 ch) k := none_eq hC.1 hKY hk26
      rw [hno] at tv
      have call : ∀ (vI : Int32) (X' : Nat → Nat → Int32), (if qNone (mI M 124) (vv M 124 ch) k = true then (-1 : Int32) else oI (kChO (mI M 4) ((tB M 2).2 ch) (kGo (mI M 4) (mI M 6) W ((tB M 2).2 ch) (((tB M 2).2 ch).1 0 5) k))) = vI → XKp (xx M) X' → X' 0 0 = 0 → f_X11_victim 40 (rN (wL M 200 0 (Int32.toInt64 vI)) p (mI M 124) (vv M 124) (xx M)) 123 (nI ch) (nI k) = some (.inl (some (.int vI)), rN (wL M 200 0 (Int32.toInt64 vI)) p (mI M 124) (vv M 124) X') → OK L xs i M (fun M => f_L_victim 40 M 1 (nI ch) (nI k) 200) (fun M => f_X11_victim 40 M 123 (nI ch) (nI k)) := by
        intro vI X' e1 e2 e3 e4
        rw [e1] at tv
        refine OKA (M1 := wL M 200 0 (Int32.toInt64 vI)) (code := 0) (v := vI) (X' := X') h (LV_out LV.rfl') hp ?_ e4 e2 e3 (fun _ => out_v)
        refine eL.trans (L_val ?_ hk)
        have tv' : f_X1_firstOutFor 38 M (cc 2 ch) 3 (nI k) = _ := tv
        simp (maxSteps := 1000000) (disch := first | assumption | omega) only [x_rf, x_m, lt_bv_r, lt_bi_r, lt_bl_r, lt_br_r, t_ck, t_p0, t_p1, t_p4, t_p5, t_p6, t_p7, t_ckB, t_B0, t_B1, t_ckK, t_K0, t_K1, t_K2, t_ckR, t_R0, t_R1, t_R2, t_ckC, t_cache, t_at2, t_at3, t_at4, t_at6, t_at7, t_at8, t_has, t_units, t_owner, t_times, t_c17, t_c4, t_c16, t_ck6, t_c60, t_c61, t_c62, t_cat1, t_cat7, t_cat8, t_cat9, t_catW, c_pop, ↓reduceIte, Int32.reduceToInt, Int.reduceEq, lt_b1_0, lt_b1_1, x_10, x_01, x_11, x_00, tv']
      have rr : ∀ (vI : Int32), RA (rP (wL M 200 0 (Int32.toInt64 vI)) 123 (gP 123 p)) 123 := fun vI => RA.rp (t_r (M := wL M 200 0 (Int32.toInt64 vI)) (CSK_lv hk (LV_out LV.rfl')))
      cases qn : qNone (mI M 124) (vv M 124 ch) k with
      | true =>
        rw [qn, if_pos rfl] at call
        exact call (-1) (qX0 (xx M)) rfl XKp_X0 qX0_0 (((er _ (rr (-1))).2 ch k hch hk26 rfl rfl).1 qn)
      | false =>
        rw [qn, if_neg (by decide)] at call
        obtain ⟨v1, v2⟩ := victim_eq hC.1 hNL.1 hNL.2 hKY hF hln hk26 qn
        by_cases q3 : vv M 124 ch 0 = 3
        · obtain ⟨g, P', m', st', t1, t2⟩ := v2 q3
          obtain ⟨X', x1, x2, x3⟩ := ((er _ (rr (nI g))).2 ch k hch hk26 rfl rfl).2.2 qn q3 60 g P' m' st' t1
          refine call (nI g) X' ?_ (XKp_X0.tr (XKp_s x1)) ((x1.2 0 (by decide)).trans qX0_0) x3
          rw [show kChO (mI M 4) ((tB M 2).2 ch) (kGo (mI M 4) (mI M 6) W ((tB M 2).2 ch) (((tB M 2).2 ch).1 0 5) k) = some g from t2]
          rfl
        · have v3 := v1 q3
          obtain ⟨X', x1, x3⟩ := ((er _ (rr (oI (qGo (mI M 124) (vv M 124 ch) (qA kf (fs ch) n) (qB kf (fs ch) n) (qLeans (vv M 124) ch) k none)))).2 ch k hch hk26 rfl rfl).2.1 qn q3
          refine call _ X' ?_ (XKp_X0.tr (XKp_s x1)) ((x1.2 0 (by decide)).trans qX0_0) x3
          rw [show kChO (mI M 4) ((tB M 2).2 ch) (kGo (mI M 4) (mI M 6) W ((tB M 2).2 ch) (((tB M 2).2 ch).1 0 5) k) = _ from v3]
    · rw [if_neg q2] at eL
      have q2' : (qIn (nI ch) 0 5 && qIn key 0 25) = false := by rw [q1]; simpa using q2
      refine OK_e (M1 := aExn M) (code := 1) (v := 0) (X' := qXe (xx M) 1) h hp LV_exn ?_ (by decide) (fun N _ hN => ?_) XKp_Xe qXe_0
      · rw [eL]; exact L_exn rfl rfl
      · rw [(er N hN).1 q2']
  · rw [if_neg q1] at eL
    have q1' : (qIn cache 0 5 && qIn key 0 25) = false := by simp [q1]
    refine OK_e (M1 := aExn M) (code := 1) (v := 0) (X' := qXe (xx M) 1) h hp LV_exn ?_ (by decide) (fun N _ hN => ?_) XKp_Xe qXe_0
    · rw [eL]; exact L_exn rfl rfl
    · rw [(er N hN).1 q1']
end Uh
