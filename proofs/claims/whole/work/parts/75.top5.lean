/-! CALLS: what is asked of caches -/
section Uf
variable {M M' M1 N : LM} {L B D P U i j k t w f n c e r a o m ch : Nat} {x y v b1 b2 code cache key what ow rq from_ to_ : Int32} {z : Option (LO × LM)} {b : Bool} {T : BT} {kf fs W p : Nat → Nat} {xs H H' : Nat → Int32} {V V' X X' : Nat → Nat → Int32} {l : Option (List Nat)} {y64 : Int64} {fL fX : LM → Option (LO × LM)} {hl : List (Nat × Int32)}
/-- a cache of the bench, and its unit -/
theorem RB_c (h : RB kf fs W n T H V) (hc : ch < 6) : RC kf (fs ch) n (T.2 ch) (V ch) (V (6 + 2 * ch)) (V (7 + 2 * ch)) := h.2.2.2.2.2.2.2 ch hc
theorem RB_ky (h : RB kf fs W n T H V) : KY (T.1 2) (T.1 3) (T.1 4) W H := h.2.2.2.2.1
theorem N_ok (f : Nat) (hn : n ≤ 300) : 2800 * (n - f) + 53 < 2147483648 ∧ 840000 * (2 * (n - f)) < 2147483648 := by omega
theorem o_holds (h : ST L xs M i) : OK L xs i M (fun M => f_L_holds 40 M 1 cache key 200) (fun M => f_X11_holds 40 M 123 cache key) := by
  obtain ⟨hk, -, -, -, -, -, kf, fs, W, n, p, c, e, hp, hpa, -, -, -, h4, -, -, hB, -⟩ := id h
  have hn : n ≤ 300 := hB.1
  have h0 : mI M 124 0 = nI n := hB.2.2.1
  have hl : mI M 7 3 = nI n := hB.2.1
  have er := fun N (hN : RA N 123) => r_holds (M := N) (o := 123) (H := mI M 124) (V := vv M 124) (X := xx M) 36 hN (cache := cache) (key := key)
  have eL : f_L_holds 40 M 1 cache key 200 = _ := e_L_holds 39 M 1 cache key 200
  rw [t_ck hk, e_X10_holds, z_cache, bv_if] at eL
  by_cases q1 : qIn cache 0 5 = true
  · obtain ⟨ch, hch, rfl⟩ := qIn_c q1
    rw [if_pos q1, z_key, bv_if] at eL
    by_cases q2 : qIn key 0 25 = true
    · obtain ⟨k, hk26, rfl⟩ := qIn_k q2
      rw [if_pos q2] at eL
      have hC := RB_c hB hch
      have hv := hC.1.2.1.2 k hk26
      refine OK_v (M1 := M) (v := bI (bt (mI M (cc 2 ch) 5) k)) (X' := qX0 (xx M)) h hp LV.rfl' ?_ (fun N _ hN => ?_) XKp_X0 qX0_0
      · rw [eL]
        refine L_bool ?_ hk
        simp (maxSteps := 1000000) (disch := first | assumption | omega) only [x_rf, x_m, lt_bv_r, lt_bi_r, lt_bl_r, lt_br_r, t_ck, t_p0, t_p1, t_p4, t_p5, t_p6, t_p7, t_ckB, t_B0, t_B1, t_ckK, t_K0, t_K1, t_K2, t_ckR, t_R0, t_R1, t_R2, t_ckC, t_cache, t_at2, t_at3, t_at4, t_at6, t_at7, t_at8, t_has, t_units, t_owner, t_times, t_c17, t_c4, t_c16, t_ck6, t_c60, t_c61, t_c62, t_cat1, t_cat7, t_cat8, t_cat9, t_catW, c_pop, ↓reduceIte, Int32.reduceToInt, Int.reduceEq, lt_b1_0, lt_b1_1, x_10, x_01, x_11, x_00, hb1]
      · rw [er N hN, q1, q2, lt_iN (by omega), lt_iN (by omega), hv]
        rw [show decide (bI (bt (((tB M 2).2 ch).1 0 5) k) = 1) = bt (mI M (cc 2 ch) 5) k by
          show decide (bI (bt (mI M (cc 2 ch) 5) k) = 1) = _
          cases bt (mI M (cc 2 ch) 5) k <;> rfl]
        rfl
    · rw [if_neg q2] at eL
      have q2' : qIn key 0 25 = false := by simpa using q2
      refine OK_e (M1 := aExn M) (code := 1) (v := 0) (X' := qXe (xx M) 1) h hp LV_exn ?_ (by decide) (fun N _ hN => ?_) XKp_Xe qXe_0
      · rw [eL]; exact L_exn rfl rfl
      · rw [er N hN, q1, q2']; rfl
  · rw [if_neg q1] at eL
    have q1' : qIn cache 0 5 = false := by simpa using q1
    refine OK_e (M1 := aExn M) (code := 1) (v := 0) (X' := qXe (xx M) 1) h hp LV_exn ?_ (by decide) (fun N _ hN => ?_) XKp_Xe qXe_0
    · rw [eL]; exact L_exn rfl rfl
    · rw [er N hN, q1']; rfl
theorem o_isDirty (h : ST L xs M i) : OK L xs i M (fun M => f_L_isDirty 40 M 1 cache key 200) (fun M => f_X11_isDirty 40 M 123 cache key) := by
  obtain ⟨hk, -, -, -, -, -, kf, fs, W, n, p, c, e, hp, hpa, -, -, -, h4, -, -, hB, -⟩ := id h
  have hn : n ≤ 300 := hB.1
  have h0 : mI M 124 0 = nI n := hB.2.2.1
  have hl : mI M 7 3 = nI n := hB.2.1
  have er := fun N (hN : RA N 123) => r_isDirty (M := N) (o := 123) (H := mI M 124) (V := vv M 124) (X := xx M) 36 hN (cache := cache) (key := key)
  have eL : f_L_isDirty 40 M 1 cache key 200 = _ := e_L_isDirty 39 M 1 cache key 200
  rw [t_ck hk, e_X10_isDirty, z_cache, bv_if] at eL
  by_cases q1 : qIn cache 0 5 = true
  · obtain ⟨ch, hch, rfl⟩ := qIn_c q1
    rw [if_pos q1, z_key, bv_if] at eL
    by_cases q2 : qIn key 0 25 = true
    · obtain ⟨k, hk26, rfl⟩ := qIn_k q2
      rw [if_pos q2] at eL
      have hC := RB_c hB hch
      have hv := hC.1.2.2.1.2 k hk26
      refine OK_v (M1 := M) (v := bI (bt (mI M (cc 2 ch) 6) k)) (X' := qX0 (xx M)) h hp LV.rfl' ?_ (fun N _ hN => ?_) XKp_X0 qX0_0
      · rw [eL]
        refine L_bool ?_ hk
        simp (maxSteps := 1000000) (disch := first | assumption | omega) only [x_rf, x_m, lt_bv_r, lt_bi_r, lt_bl_r, lt_br_r, t_ck, t_p0, t_p1, t_p4, t_p5, t_p6, t_p7, t_ckB, t_B0, t_B1, t_ckK, t_K0, t_K1, t_K2, t_ckR, t_R0, t_R1, t_R2, t_ckC, t_cache, t_at2, t_at3, t_at4, t_at6, t_at7, t_at8, t_has, t_units, t_owner, t_times, t_c17, t_c4, t_c16, t_ck6, t_c60, t_c61, t_c62, t_cat1, t_cat7, t_cat8, t_cat9, t_catW, c_pop, ↓reduceIte, Int32.reduceToInt, Int.reduceEq, lt_b1_0, lt_b1_1, x_10, x_01, x_11, x_00, hb1]
      · rw [er N hN, q1, q2, lt_iN (by omega), lt_iN (by omega), hv]
        rw [show decide (bI (bt (((tB M 2).2 ch).1 0 6) k) = 1) = bt (mI M (cc 2 ch) 6) k by
          show decide (bI (bt (mI M (cc 2 ch) 6) k) = 1) = _
          cases bt (mI M (cc 2 ch) 6) k <;> rfl]
        rfl
    · rw [if_neg q2] at eL
      have q2' : qIn key 0 25 = false := by simpa using q2
      refine OK_e (M1 := aExn M) (code := 1) (v := 0) (X' := qXe (xx M) 1) h hp LV_exn ?_ (by decide) (fun N _ hN => ?_) XKp_Xe qXe_0
      · rw [eL]; exact L_exn rfl rfl
      · rw [er N hN, q1, q2']; rfl
  · rw [if_neg q1] at eL
    have q1' : qIn cache 0 5 = false := by simpa using q1
    refine OK_e (M1 := aExn M) (code := 1) (v := 0) (X' := qXe (xx M) 1) h hp LV_exn ?_ (by decide) (fun N _ hN => ?_) XKp_Xe qXe_0
    · rw [eL]; exact L_exn rfl rfl
    · rw [er N hN, q1']; rfl
theorem o_cacheAt (h : ST L xs M i) : OK L xs i M (fun M => f_L_cacheAt 40 M 1 cache what 200) (fun M => f_X11_cacheAt 40 M 123 cache what) := by
  obtain ⟨hk, -, -, -, -, -, kf, fs, W, n, p, c, e, hp, hpa, -, -, -, h4, -, -, hB, -⟩ := id h
  have hn : n ≤ 300 := hB.1
  have h0 : mI M 124 0 = nI n := hB.2.2.1
  have hl : mI M 7 3 = nI n := hB.2.1
  have er := fun N (hN : RA N 123) => r_cacheAt (M := N) (o := 123) (H := mI M 124) (V := vv M 124) (X := xx M) 35 hN (cache := cache) (what := what)
  have eL : f_L_cacheAt 40 M 1 cache what 200 = _ := e_L_cacheAt 39 M 1 cache what 200
  rw [t_ck hk, e_X10_cacheAt, z_cache, bv_if] at eL
  by_cases q1 : qIn cache 0 5 = true
  · obtain ⟨ch, hch, rfl⟩ := qIn_c q1
    rw [if_pos q1, z_range, bv_if] at eL
    by_cases q2 : qIn what 0 7 = true
    · obtain ⟨m, hm, rfl⟩ := qIn_g (m := 7) (by omega) q2
      rw [if_pos q2] at eL
      have hC := RB_c hB hch
      refine OK_v (M1 := M) (v := qCacheAt (mI M 124) (vv M 124 ch) (nI m)) (X' := qX0 (xx M)) h hp LV.rfl' ?_ (fun N _ hN => ?_) XKp_X0 qX0_0
      · rw [eL]
        refine L_val ?_ hk
        have hS : ∀ t, ((tB M 2).2 ch).1 0 t = mI M (cc 2 ch) t := fun t => rfl
        have hR := hC.1.1.1
        have g4 := HB_pop hC.1.2.1
        have g5 := all_sum hC.1.2.1 (RB_ky hB)
        have g6 := HB_pop hC.1.2.2.1
        have g7 := rem_pop hC.1.2.2.2.2.2.2.1
        have : m = 0 ∨ m = 1 ∨ m = 2 ∨ m = 3 ∨ m = 4 ∨ m = 5 ∨ m = 6 ∨ m = 7 := by omega
        rcases this with rfl | rfl | rfl | rfl | rfl | rfl | rfl | rfl
        · rw [show Int32.toInt (nI 0) = 0 from rfl]
          simp (maxSteps := 1000000) (disch := first | assumption | omega) only [x_rf, x_m, lt_bv_r, lt_bi_r, lt_bl_r, lt_br_r, t_ck, t_p0, t_p1, t_p4, t_p5, t_p6, t_p7, t_ckB, t_B0, t_B1, t_ckK, t_K0, t_K1, t_K2, t_ckR, t_R0, t_R1, t_R2, t_ckC, t_cache, t_at2, t_at3, t_at4, t_at6, t_at7, t_at8, t_has, t_units, t_owner, t_times, t_c17, t_c4, t_c16, t_ck6, t_c60, t_c61, t_c62, t_cat1, t_cat7, t_cat8, t_cat9, t_catW, c_pop, ↓reduceIte, Int32.reduceToInt, Int.reduceEq, lt_b1_0, lt_b1_1, x_10, x_01, x_11, x_00]
          rw [← hS, hR 0 (by omega)]; rfl
        · rw [show Int32.toInt (nI 1) = 1 from rfl]
          simp (maxSteps := 1000000) (disch := first | assumption | omega) only [x_rf, x_m, lt_bv_r, lt_bi_r, lt_bl_r, lt_br_r, t_ck, t_p0, t_p1, t_p4, t_p5, t_p6, t_p7, t_ckB, t_B0, t_B1, t_ckK, t_K0, t_K1, t_K2, t_ckR, t_R0, t_R1, t_R2, t_ckC, t_cache, t_at2, t_at3, t_at4, t_at6, t_at7, t_at8, t_has, t_units, t_owner, t_times, t_c17, t_c4, t_c16, t_ck6, t_c60, t_c61, t_c62, t_cat1, t_cat7, t_cat8, t_cat9, t_catW, c_pop, ↓reduceIte, Int32.reduceToInt, Int.reduceEq, lt_b1_0, lt_b1_1, x_10, x_01, x_11, x_00]
          rw [← hS, hR 1 (by omega)]; rfl
        · rw [show Int32.toInt (nI 2) = 2 from rfl]
          simp (maxSteps := 1000000) (disch := first | assumption | omega) only [x_rf, x_m, lt_bv_r, lt_bi_r, lt_bl_r, lt_br_r, t_ck, t_p0, t_p1, t_p4, t_p5, t_p6, t_p7, t_ckB, t_B0, t_B1, t_ckK, t_K0, t_K1, t_K2, t_ckR, t_R0, t_R1, t_R2, t_ckC, t_cache, t_at2, t_at3, t_at4, t_at6, t_at7, t_at8, t_has, t_units, t_owner, t_times, t_c17, t_c4, t_c16, t_ck6, t_c60, t_c61, t_c62, t_cat1, t_cat7, t_cat8, t_cat9, t_catW, c_pop, ↓reduceIte, Int32.reduceToInt, Int.reduceEq, lt_b1_0, lt_b1_1, x_10, x_01, x_11, x_00]
          rw [← hS, hR 2 (by omega)]; rfl
        · rw [show Int32.toInt (nI 3) = 3 from rfl]
          simp (maxSteps := 1000000) (disch := first | assumption | omega) only [x_rf, x_m, lt_bv_r, lt_bi_r, lt_bl_r, lt_br_r, t_ck, t_p0, t_p1, t_p4, t_p5, t_p6, t_p7, t_ckB, t_B0, t_B1, t_ckK, t_K0, t_K1, t_K2, t_ckR, t_R0, t_R1, t_R2, t_ckC, t_cache, t_at2, t_at3, t_at4, t_at6, t_at7, t_at8, t_has, t_units, t_owner, t_times, t_c17, t_c4, t_c16, t_ck6, t_c60, t_c61, t_c62, t_cat1, t_cat7, t_cat8, t_cat9, t_catW, c_pop, ↓reduceIte, Int32.reduceToInt, Int.reduceEq, lt_b1_0, lt_b1_1, x_10, x_01, x_11, x_00]
          rw [← hS, hR 3 (by omega)]; rfl
        · rw [show Int32.toInt (nI 4) = 4 from rfl]
          simp (maxSteps := 1000000) (disch := first | assumption | omega) only [x_rf, x_m, lt_bv_r, lt_bi_r, lt_bl_r, lt_br_r, t_ck, t_p0, t_p1, t_p4, t_p5, t_p6, t_p7, t_ckB, t_B0, t_B1, t_ckK, t_K0, t_K1, t_K2, t_ckR, t_R0, t_R1, t_R2, t_ckC, t_cache, t_at2, t_at3, t_at4, t_at6, t_at7, t_at8, t_has, t_units, t_owner, t_times, t_c17, t_c4, t_c16, t_ck6, t_c60, t_c61, t_c62, t_cat1, t_cat7, t_cat8, t_cat9, t_catW, c_pop, ↓reduceIte, Int32.reduceToInt, Int.reduceEq, lt_b1_0, lt_b1_1, x_10, x_01, x_11, x_00]
          rw [← hS, g4]; rfl
        · rw [show Int32.toInt (nI 5) = 5 from rfl]
          simp (maxSteps := 1000000) (disch := first | assumption | omega) only [x_rf, x_m, lt_bv_r, lt_bi_r, lt_bl_r, lt_br_r, t_ck, t_p0, t_p1, t_p4, t_p5, t_p6, t_p7, t_ckB, t_B0, t_B1, t_ckK, t_K0, t_K1, t_K2, t_ckR, t_R0, t_R1, t_R2, t_ckC, t_cache, t_at2, t_at3, t_at4, t_at6, t_at7, t_at8, t_has, t_units, t_owner, t_times, t_c17, t_c4, t_c16, t_ck6, t_c60, t_c61, t_c62, t_cat1, t_cat7, t_cat8, t_cat9, t_catW, c_pop, ↓reduceIte, Int32.reduceToInt, Int.reduceEq, lt_b1_0, lt_b1_1, x_10, x_01, x_11, x_00]
          rw [← hS, show pSum (((tB M 2).2 ch).1 0 5) (mI M 4) 26 0 = _ from g5]; rfl
        · rw [show Int32.toInt (nI 6) = 6 from rfl]
          simp (maxSteps := 1000000) (disch := first | assumption | omega) only [x_rf, x_m, lt_bv_r, lt_bi_r, lt_bl_r, lt_br_r, t_ck, t_p0, t_p1, t_p4, t_p5, t_p6, t_p7, t_ckB, t_B0, t_B1, t_ckK, t_K0, t_K1, t_K2, t_ckR, t_R0, t_R1, t_R2, t_ckC, t_cache, t_at2, t_at3, t_at4, t_at6, t_at7, t_at8, t_has, t_units, t_owner, t_times, t_c17, t_c4, t_c16, t_ck6, t_c60, t_c61, t_c62, t_cat1, t_cat7, t_cat8, t_cat9, t_catW, c_pop, ↓reduceIte, Int32.reduceToInt, Int.reduceEq, lt_b1_0, lt_b1_1, x_10, x_01, x_11, x_00]
          rw [← hS, g6]; rfl
        · rw [show Int32.toInt (nI 7) = 7 from rfl]
          simp (maxSteps := 1000000) (disch := first | assumption | omega) only [x_rf, x_m, lt_bv_r, lt_bi_r, lt_bl_r, lt_br_r, t_ck, t_p0, t_p1, t_p4, t_p5, t_p6, t_p7, t_ckB, t_B0, t_B1, t_ckK, t_K0, t_K1, t_K2, t_ckR, t_R0, t_R1, t_R2, t_ckC, t_cache, t_at2, t_at3, t_at4, t_at6, t_at7, t_at8, t_has, t_units, t_owner, t_times, t_c17, t_c4, t_c16, t_ck6, t_c60, t_c61, t_c62, t_cat1, t_cat7, t_cat8, t_cat9, t_catW, c_pop, ↓reduceIte, Int32.reduceToInt, Int.reduceEq, lt_b1_0, lt_b1_1, x_10, x_01, x_11, x_00]
          rw [← hS, g7]; rfl
      · rw [er N hN, if_pos q1, if_pos q2, lt_iN (by omega)]
    · rw [if_neg q2] at eL
      refine OK_e (M1 := aExn M) (code := 2) (v := 0) (X' := qXe (xx M) 2) h hp LV_exn ?_ (by decide) (fun N _ hN => ?_) XKp_Xe qXe_0
      · rw [eL]; exact L_exn rfl rfl
      · rw [er N hN, if_pos q1, if_neg q2]
  · rw [if_neg q1] at eL
    refine OK_e (M1 := aExn M) (code := 1) (v := 0) (X' := qXe (xx M) 1) h hp LV_exn ?_ (by decide) (fun N _ hN => ?_) XKp_Xe qXe_0
    · rw [eL]; exact L_exn rfl rfl
    · rw [er N hN, if_neg q1]
theorem o_ownerAt {sh : Int32} (h : ST L xs M i) : OK L xs i M (fun M => f_L_ownerAt 40 M 1 cache ow sh 200) (fun M => f_X11_ownerAt 40 M 123 cache ow sh) := by
  obtain ⟨hk, -, -, -, -, -, kf, fs, W, n, p, c, e, hp, hpa, -, -, -, h4, -, -, hB, -⟩ := id h
  have hn : n ≤ 300 := hB.1
  have h0 : mI M 124 0 = nI n := hB.2.2.1
  have hl : mI M 7 3 = nI n := hB.2.1
  have er := fun N (hN : RA N 123) => r_ownerAt (M := N) (o := 123) (H := mI M 124) (V := vv M 124) (X := xx M) 35 hN (cache := cache) (ow := ow) (sh := sh)
  have eL : f_L_ownerAt 40 M 1 cache ow sh 200 = _ := e_L_ownerAt 39 M 1 cache ow sh 200
  rw [t_ck hk, e_X10_ownerAt, z_cache, bv_if] at eL
  by_cases q1 : qIn cache 0 5 = true
  · obtain ⟨ch, hch, rfl⟩ := qIn_c q1
    rw [if_pos q1, z_range, bv_if] at eL
    by_cases q2 : qIn ow 0 3 = true
    · obtain ⟨m, hm, rfl⟩ := qIn_g (m := 3) (by omega) q2
      rw [if_pos q2] at eL
      have hC := RB_c hB hch
      refine OK_v (M1 := M) (v := if sh = 0 then qUnits (mI M 124) (vv M 124 ch) (nI m) 26 0 else vv M 124 ch (4 + m)) (X' := qX0 (xx M)) h hp LV.rfl' ?_ (fun N _ hN => ?_) XKp_X0 qX0_0
      · rw [eL]
        refine L_val ?_ hk
        by_cases q3 : sh = 0
        · rw [if_pos q3]
          simp (maxSteps := 1000000) (disch := first | assumption | omega) only [x_rf, x_m, lt_bv_r, lt_bi_r, lt_bl_r, lt_br_r, t_ck, t_p0, t_p1, t_p4, t_p5, t_p6, t_p7, t_ckB, t_B0, t_B1, t_ckK, t_K0, t_K1, t_K2, t_ckR, t_R0, t_R1, t_R2, t_ckC, t_cache, t_at2, t_at3, t_at4, t_at6, t_at7, t_at8, t_has, t_units, t_owner, t_times, t_c17, t_c4, t_c16, t_ck6, t_c60, t_c61, t_c62, t_cat1, t_cat7, t_cat8, t_cat9, t_catW, c_pop, ↓reduceIte, Int32.reduceToInt, Int.reduceEq, lt_b1_0, lt_b1_1, x_10, x_01, x_11, x_00, q3]
          have := own_sum (w := m) hC.1.2.1 (RB_ky hB) (by omega)
          rw [show pSum (mI M (cc 2 ch) 5 &&& pOwn (mI M 6) (nI m) 26 0) (mI M 4) 26 0 = _ from this]
        · rw [if_neg q3]
          have hm4 : m < 4 := by omega
          simp (maxSteps := 1000000) (disch := first | assumption | omega) only [x_rf, x_m, lt_bv_r, lt_bi_r, lt_bl_r, lt_br_r, t_ck, t_p0, t_p1, t_p4, t_p5, t_p6, t_p7, t_ckB, t_B0, t_B1, t_ckK, t_K0, t_K1, t_K2, t_ckR, t_R0, t_R1, t_R2, t_ckC, t_cache, t_at2, t_at3, t_at4, t_at6, t_at7, t_at8, t_has, t_units, t_owner, t_times, t_c17, t_c4, t_c16, t_ck6, t_c60, t_c61, t_c62, t_cat1, t_cat7, t_cat8, t_cat9, t_catW, c_pop, ↓reduceIte, Int32.reduceToInt, Int.reduceEq, lt_b1_0, lt_b1_1, x_10, x_01, x_11, x_00, q3]
          have := hC.1.1.2.1 m (by omega)
          rw [show mI M (cc 2 ch + 1) m = _ from this]
      · rw [er N hN, if_pos q1, if_pos q2, lt_iN (by omega), lt_iN (by omega)]
    · rw [if_neg q2] at eL
      refine OK_e (M1 := aExn M) (code := 2) (v := 0) (X' := qXe (xx M) 2) h hp LV_exn ?_ (by decide) (fun N _ hN => ?_) XKp_Xe qXe_0
      · rw [eL]; exact L_exn rfl rfl
      · rw [er N hN, if_pos q1, if_neg q2]
  · rw [if_neg q1] at eL
    refine OK_e (M1 := aExn M) (code := 1) (v := 0) (X' := qXe (xx M) 1) h hp LV_exn ?_ (by decide) (fun N _ hN => ?_) XKp_Xe qXe_0
    · rw [eL]; exact L_exn rfl rfl
    · rw [er N hN, if_neg q1]
theorem o_count (h : ST L xs M i) : OK L xs i M (fun M => f_L_count 40 M 1 cache what 200) (fun M => f_X11_count 40 M 123 cache what) := by
  obtain ⟨hk, -, -, -, -, -, kf, fs, W, n, p, c, e, hp, hpa, -, -, -, h4, -, -, hB, -⟩ := id h
  have hn : n ≤ 300 := hB.1
  have h0 : mI M 124 0 = nI n := hB.2.2.1
  have hl : mI M 7 3 = nI n := hB.2.1
  have er := fun N (hN : RA N 123) => r_count (M := N) (o := 123) (H := mI M 124) (V := vv M 124) (X := xx M) 37 hN (cache := cache) (what := what)
  have eL : f_L_count 40 M 1 cache what 200 = _ := e_L_count 39 M 1 cache what 200
  rw [t_ck hk, e_X10_count, z_cache, bv_if] at eL
  by_cases q1 : qIn cache 0 5 = true
  · obtain ⟨ch, hch, rfl⟩ := qIn_c q1
    rw [if_pos q1, z_range, bv_if] at eL
    by_cases q2 : qIn what 0 8 = true
    · obtain ⟨m, hm, rfl⟩ := qIn_g (m := 8) (by omega) q2
      rw [if_pos q2] at eL
      have hC := RB_c hB hch
      refine OK_v (M1 := M) (v := vv M 124 ch (12 + m)) (X' := qX0 (xx M)) h hp LV.rfl' ?_ (fun N _ hN => ?_) XKp_X0 qX0_0
      · rw [eL]
        refine L_val ?_ hk
        have hm9 : m < 9 := by omega
        simp (maxSteps := 1000000) (disch := first | assumption | omega) only [x_rf, x_m, lt_bv_r, lt_bi_r, lt_bl_r, lt_br_r, t_ck, t_p0, t_p1, t_p4, t_p5, t_p6, t_p7, t_ckB, t_B0, t_B1, t_ckK, t_K0, t_K1, t_K2, t_ckR, t_R0, t_R1, t_R2, t_ckC, t_cache, t_at2, t_at3, t_at4, t_at6, t_at7, t_at8, t_has, t_units, t_owner, t_times, t_c17, t_c4, t_c16, t_ck6, t_c60, t_c61, t_c62, t_cat1, t_cat7, t_cat8, t_cat9, t_catW, c_pop, ↓reduceIte, Int32.reduceToInt, Int.reduceEq, lt_b1_0, lt_b1_1, x_10, x_01, x_11, x_00]
        have := hC.1.2.2.2.2.2.2.2.2.2.2.1.1 m hm9
        rw [show mI M (cc 2 ch + 7) m = _ from this]
      · rw [er N hN, if_pos q1, if_pos q2, lt_iN (by omega), lt_iN (by omega)]
    · rw [if_neg q2] at eL
      refine OK_e (M1 := aExn M) (code := 2) (v := 0) (X' := qXe (xx M) 2) h hp LV_exn ?_ (by decide) (fun N _ hN => ?_) XKp_Xe qXe_0
      · rw [eL]; exact L_exn rfl rfl
      · rw [er N hN, if_pos q1, if_neg q2]
  · rw [if_neg q1] at eL
    refine OK_e (M1 := aExn M) (code := 1) (v := 0) (X' := qXe (xx M) 1) h hp LV_exn ?_ (by decide) (fun N _ hN => ?_) XKp_Xe qXe_0
    · rw [eL]; exact L_exn rfl rfl
    · rw [er N hN, if_neg q1]
theorem o_countOf {hits : Int32} (h : ST L xs M i) : OK L xs i M (fun M => f_L_countOf 40 M 1 cache key hits 200) (fun M => f_X11_countOf 40 M 123 cache key hits) := by
  obtain ⟨hk, -, -, -, -, -, kf, fs, W, n, p, c, e, hp, hpa, -, -, -, h4, -, -, hB, -⟩ := id h
  have hn : n ≤ 300 := hB.1
  have h0 : mI M 124 0 = nI n := hB.2.2.1
  have hl : mI M 7 3 = nI n := hB.2.1
  have er := fun N (hN : RA N 123) => r_countOf (M := N) (o := 123) (H := mI M 124) (V := vv M 124) (X := xx M) 36 hN (cache := cache) (key := key) (hits := hits)
  have eL : f_L_countOf 40 M 1 cache key hits 200 = _ := e_L_countOf 39 M 1 cache key hits 200
  rw [t_ck hk, e_X10_countOf, z_cache, bv_if] at eL
  by_cases q1 : qIn cache 0 5 = true
  · obtain ⟨ch, hch, rfl⟩ := qIn_c q1
    rw [if_pos q1, z_key, bv_if] at eL
    by_cases q2 : qIn key 0 25 = true
    · obtain ⟨k, hk26, rfl⟩ := qIn_k q2
      rw [if_pos q2] at eL
      have hC := RB_c hB hch
      have hN8 := hC.1.2.2.2.2.2.2.2.2.2.2.1.2 k hk26
      refine OK_v (M1 := M) (v := if hits = 0 then vv M 124 ch (336 + k) else vv M 124 ch (310 + k)) (X' := qX0 (xx M)) h hp LV.rfl' ?_ (fun N _ hN => ?_) XKp_X0 qX0_0
      · rw [eL]
        refine L_val ?_ hk
        by_cases q3 : hits = 0
        · rw [if_pos q3]
          simp (maxSteps := 1000000) (disch := first | assumption | omega) only [x_rf, x_m, lt_bv_r, lt_bi_r, lt_bl_r, lt_br_r, t_ck, t_p0, t_p1, t_p4, t_p5, t_p6, t_p7, t_ckB, t_B0, t_B1, t_ckK, t_K0, t_K1, t_K2, t_ckR, t_R0, t_R1, t_R2, t_ckC, t_cache, t_at2, t_at3, t_at4, t_at6, t_at7, t_at8, t_has, t_units, t_owner, t_times, t_c17, t_c4, t_c16, t_ck6, t_c60, t_c61, t_c62, t_cat1, t_cat7, t_cat8, t_cat9, t_catW, c_pop, ↓reduceIte, Int32.reduceToInt, Int.reduceEq, lt_b1_0, lt_b1_1, x_10, x_01, x_11, x_00, q3]
          rw [show mI M (cc 2 ch + 9) k = _ from hN8.2]
        · rw [if_neg q3]
          simp (maxSteps := 1000000) (disch := first | assumption | omega) only [x_rf, x_m, lt_bv_r, lt_bi_r, lt_bl_r, lt_br_r, t_ck, t_p0, t_p1, t_p4, t_p5, t_p6, t_p7, t_ckB, t_B0, t_B1, t_ckK, t_K0, t_K1, t_K2, t_ckR, t_R0, t_R1, t_R2, t_ckC, t_cache, t_at2, t_at3, t_at4, t_at6, t_at7, t_at8, t_has, t_units, t_owner, t_times, t_c17, t_c4, t_c16, t_ck6, t_c60, t_c61, t_c62, t_cat1, t_cat7, t_cat8, t_cat9, t_catW, c_pop, ↓reduceIte, Int32.reduceToInt, Int.reduceEq, lt_b1_0, lt_b1_1, x_10, x_01, x_11, x_00, q3]
          rw [show mI M (cc 2 ch + 8) k = _ from hN8.1]
      · rw [er N hN, q1, q2, Bool.true_and, if_pos rfl, lt_iN (by omega), lt_iN (by omega)]
    · rw [if_neg q2] at eL
      have q2' : qIn key 0 25 = false := by simpa using q2
      refine OK_e (M1 := aExn M) (code := 1) (v := 0) (X' := qXe (xx M) 1) h hp LV_exn ?_ (by decide) (fun N _ hN => ?_) XKp_Xe qXe_0
      · rw [eL]; exact L_exn rfl rfl
      · rw [er N hN, q1, q2']; rfl
  · rw [if_neg q1] at eL
    have q1' : qIn cache 0 5 = false := by simpa using q1
    refine OK_e (M1 := aExn M) (code := 1) (v := 0) (X' := qXe (xx M) 1) h hp LV_exn ?_ (by decide) (fun N _ hN => ?_) XKp_Xe qXe_0
    · rw [eL]; exact L_exn rfl rfl
    · rw [er N hN, q1']; rfl
end Uf
