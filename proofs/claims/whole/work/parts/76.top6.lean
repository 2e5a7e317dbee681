/-! CALLS: outcomes, worths, the order and the victim of a cache -/
section Ug
variable {M M' M1 N : LM} {L B D P U i j k t w f n c e r a o m ch : Nat} {x y v b1 b2 code cache key what ow rq from_ to_ place : Int32} {z : Option (LO × LM)} {b : Bool} {T : BT} {kf fs W p : Nat → Nat} {xs H H' : Nat → Int32} {V V' X X' : Nat → Nat → Int32} {l : Option (List Nat)} {y64 : Int64} {fL fX : LM → Option (LO × LM)} {hl : List (Nat × Int32)}
/-- what the class tells of a request -/
theorem t_outc (d : Nat) (h : CSK L M) (hB : RB kf fs W n (tB M 2) (mI M 124) (vv M 124)) (hc : ch < 6) (hr : r < n) : f_X8_outcomeAt (d + 2) M (cc 2 ch + 6) (nI r) = some (.inl (some (.int (vv M 124 ch (362 + r)))), M) := by
  have hC := RB_c hB hc
  have hn := hB.1
  obtain ⟨g1, g2, g3⟩ := hC.2.2.2.2.2.2.1
  have := c_outcomeAt (r := r) d (t_cA h hc) (f := fs ch) (e := n) g1 g2 (by have := hC.2.2.1; omega) hn (by omega)
  rw [this, g3 r (by omega)]
  rfl
theorem o_outcome (h : ST L xs M i) : OK L xs i M (fun M => f_L_outcome 40 M 1 cache rq 200) (fun M => f_X11_outcome 40 M 123 cache rq) := by
  obtain ⟨hk, -, -, -, -, -, kf, fs, W, n, p, c, e, hp, hpa, -, -, -, h4, -, -, hB, -⟩ := id h
  have hn : n ≤ 300 := hB.1
  have h0 : mI M 124 0 = nI n := hB.2.2.1
  have hl : mI M 7 3 = nI n := hB.2.1
  have er := fun N (hN : RA N 123) => r_outcome (M := N) (o := 123) (H := mI M 124) (V := vv M 124) (X := xx M) 37 hN hn h0 (cache := cache) (rq := rq)
  have eL : f_L_outcome 40 M 1 cache rq 200 = _ := e_L_outcome 39 M 1 cache rq 200
  rw [t_ck hk, e_X10_outcome, z_cache, bv_if] at eL
  by_cases q1 : qIn cache 0 5 = true
  · obtain ⟨ch, hch, rfl⟩ := qIn_c q1
    rw [if_pos q1, t_ck hk, z_req _ hk hl hn, bv_if] at eL
    by_cases q2 : qIn rq 0 (nI n - 1) = true
    · obtain ⟨r, hr, rfl⟩ := qIn_n hn q2
      rw [if_pos q2] at eL
      refine OK_v (M1 := M) (v := vv M 124 ch (362 + r)) (X' := qX0 (qX0 (xx M))) h hp LV.rfl' ?_ (fun N _ hN => ?_) (XKp_X0.tr XKp_X0) qX0_0
      · rw [eL]
        refine L_val ?_ hk
        have := t_outc 36 hk hB hch hr
        simp (maxSteps := 1000000) (disch := first | assumption | omega) only [x_rf, x_m, lt_bv_r, lt_bi_r, lt_bl_r, lt_br_r, t_ck, t_p0, t_p1, t_p4, t_p5, t_p6, t_p7, t_ckB, t_B0, t_B1, t_ckK, t_K0, t_K1, t_K2, t_ckR, t_R0, t_R1, t_R2, t_ckC, t_cache, t_at2, t_at3, t_at4, t_at6, t_at7, t_at8, t_has, t_units, t_owner, t_times, t_c17, t_c4, t_c16, t_ck6, t_c60, t_c61, t_c62, t_cat1, t_cat7, t_cat8, t_cat9, t_catW, c_pop, ↓reduceIte, Int32.reduceToInt, Int.reduceEq, lt_b1_0, lt_b1_1, x_10, x_01, x_11, x_00, this]
      · rw [er N hN, if_pos q1, if_pos q2, lt_iN (by omega), lt_iN (by omega)]
    · rw [if_neg q2] at eL
      refine OK_e (M1 := aExn M) (code := 1) (v := 0) (X' := qXe (qX0 (xx M)) 1) h hp LV_exn ?_ (by decide) (fun N _ hN => ?_) (XKp_X0.tr XKp_Xe) qXe_0
      · rw [eL]; exact L_exn rfl rfl
      · rw [er N hN, if_pos q1, if_neg q2]
  · rw [if_neg q1] at eL
    refine OK_e (M1 := aExn M) (code := 1) (v := 0) (X' := qXe (xx M) 1) h hp LV_exn ?_ (by decide) (fun N _ hN => ?_) XKp_Xe qXe_0
    · rw [eL]; exact L_exn rfl rfl
    · rw [er N hN, if_neg q1]
theorem t_between (h : CSK L M) (hB : RB kf fs W n (tB M 2) (mI M 124) (vv M 124)) (hc : ch < 6) {b : Nat} (hb : b < n) (d : Nat) : ∀ (m : Nat) (z : Int32), m ≤ b + 1 → f_X10_hitsBetween_46 (d + 3) M (nI b) (cc 2 ch + 6) z (nI (b + 1 - m)) = some (.inl (some (.int (qBetween (vv M 124 ch) b m z))), M)
  | 0, z, _ => by
    have hn := hB.1
    rw [e_X10_hitsBetween_46, if_pos ((nI_ltP (by omega) (by omega)).mpr (by omega))]
    rfl
  | m + 1, z, hm => by
    have hn := hB.1
    have e1 : b + 1 - (m + 1) = b - m := by omega
    have e2 : nI (b - m) + 1 = nI (b + 1 - m) := by rw [show nI (b - m) + 1 = nI (b - m + 1) from lt_iA (j := b - m) (k := 1)]; congr 1; omega
    have g1 : ¬ nI b < nI (b - m) := fun q => by have := (nI_ltP (by omega) (by omega)).mp q; omega
    have g2 : nI (b - m) < (300 : Int32) := (lt_iL (j := b - m) (k := 300) (by omega) (by omega)).mpr (by omega)
    rw [e1, e_X10_hitsBetween_46, if_neg g1, if_pos g2, t_ck6 h hc, t_outc d h hB hc (by omega), lt_bi_r, e2]
    show _ = (some (.inl (some (.int (qBetween (vv M 124 ch) b m (z + if vv M 124 ch (362 + (b - m)) = 0 then 1 else 0)))), M) : Option (LO × LM))
    by_cases q : vv M 124 ch (362 + (b - m)) = 0
    · rw [if_pos q, if_pos q]
      exact t_between h hB hc hb d m _ (by omega)
    · rw [if_neg q, if_neg q, Int32.add_zero]
      exact t_between h hB hc hb d m _ (by omega)
theorem o_hitsBetween (h : ST L xs M i) : OK L xs i M (fun M => f_L_hitsBetween 40 M 1 cache from_ to_ 200) (fun M => f_X11_hitsBetween 40 M 123 cache from_ to_) := by
  obtain ⟨hk, -, -, -, -, -, kf, fs, W, n, p, c, e, hp, hpa, -, -, -, h4, -, -, hB, -⟩ := id h
  have hn : n ≤ 300 := hB.1
  have h0 : mI M 124 0 = nI n := hB.2.2.1
  have hl : mI M 7 3 = nI n := hB.2.1
  have er := fun N (hN : RA N 123) => r_hitsBetween (M := N) (o := 123) (H := mI M 124) (V := vv M 124) (X := xx M) 37 hN hn h0 (cache := cache) (from_ := from_) (to_ := to_)
  have eL : f_L_hitsBetween 40 M 1 cache from_ to_ 200 = _ := e_L_hitsBetween 39 M 1 cache from_ to_ 200
  rw [t_ck hk, e_X10_hitsBetween, z_cache, bv_if] at eL
  by_cases q1 : qIn cache 0 5 = true
  · obtain ⟨ch, hch, rfl⟩ := qIn_c q1
    rw [if_pos q1, t_ck hk, z_req _ hk hl hn, bv_if] at eL
    by_cases q2 : qIn from_ 0 (nI n - 1) = true
    · obtain ⟨r, hr, rfl⟩ := qIn_n hn q2
      rw [if_pos q2, t_ck hk, z_req _ hk hl hn, bv_if] at eL
      by_cases q3 : qIn to_ 0 (nI n - 1) = true
      · obtain ⟨b, hb, rfl⟩ := qIn_n hn q3
        rw [if_pos q3] at eL
        by_cases q4 : nI b < nI r
        · rw [if_pos q4] at eL
          refine OK_e (M1 := aExn M) (code := 2) (v := 0) (X' := u2 (qX0 (qX0 (qX0 (xx M)))) 0 0 2) h hp LV_exn ?_ (by decide) (fun N _ hN => ?_) (XKp_X0.tr (XKp_X0.tr (XKp_X0.tr (XKp_0 (by decide))))) u2_eq
          · rw [eL]; exact L_exn rfl rfl
          · rw [er N hN, if_pos q1, if_pos q2, if_pos q3, if_pos q4]
        · rw [if_neg q4] at eL
          have hrb : r ≤ b := Nat.le_of_not_lt fun z => q4 ((nI_ltP (by omega) (by omega)).mpr z)
          refine OK_v (M1 := M) (v := qBetween (vv M 124 ch) b (b + 1 - r) 0) (X' := qX0 (qX0 (qX0 (xx M)))) h hp LV.rfl' ?_ (fun N _ hN => ?_) (XKp_X0.tr (XKp_X0.tr XKp_X0)) qX0_0
          · rw [eL]
            refine L_val ?_ hk
            have := t_between hk hB hch hb 36 (b + 1 - r) 0 (by omega)
            rw [show b + 1 - (b + 1 - r) = r by omega] at this
            simp (maxSteps := 1000000) (disch := first | assumption | omega) only [x_rf, x_m, lt_bv_r, lt_bi_r, lt_bl_r, lt_br_r, t_ck, t_p0, t_p1, t_p4, t_p5, t_p6, t_p7, t_ckB, t_B0, t_B1, t_ckK, t_K0, t_K1, t_K2, t_ckR, t_R0, t_R1, t_R2, t_ckC, t_cache, t_at2, t_at3, t_at4, t_at6, t_at7, t_at8, t_has, t_units, t_owner, t_times, t_c17, t_c4, t_c16, t_ck6, t_c60, t_c61, t_c62, t_cat1, t_cat7, t_cat8, t_cat9, t_catW, c_pop, ↓reduceIte, Int32.reduceToInt, Int.reduceEq, lt_b1_0, lt_b1_1, x_10, x_01, x_11, x_00, this]
          · rw [er N hN, if_pos q1, if_pos q2, if_pos q3, if_neg q4, lt_iN (by omega), lt_iN (by omega), lt_iN (by omega)]
      · rw [if_neg q3] at eL
        refine OK_e (M1 := aExn M) (code := 1) (v := 0) (X' := qXe (qX0 (qX0 (xx M))) 1) h hp LV_exn ?_ (by decide) (fun N _ hN => ?_) (XKp_X0.tr (XKp_X0.tr XKp_Xe)) qXe_0
        · rw [eL]; exact L_exn rfl rfl
        · rw [er N hN, if_pos q1, if_pos q2, if_neg q3]
    · rw [if_neg q2] at eL
      refine OK_e (M1 := aExn M) (code := 1) (v := 0) (X' := qXe (qX0 (xx M)) 1) h hp LV_exn ?_ (by decide) (fun N _ hN => ?_) (XKp_X0.tr XKp_Xe) qXe_0
      · rw [eL]; exact L_exn rfl rfl
      · rw [er N hN, if_pos q1, if_neg q2]
  · rw [if_neg q1] at eL
    refine OK_e (M1 := aExn M) (code := 1) (v := 0) (X' := qXe (xx M) 1) h hp LV_exn ?_ (by decide) (fun N _ hN => ?_) XKp_Xe qXe_0
    · rw [eL]; exact L_exn rfl rfl
    · rw [er N hN, if_neg q1]
theorem o_remembers (h : ST L xs M i) : OK L xs i M (fun M => f_L_remembers 40 M 1 cache key 200) (fun M => f_X11_remembers 40 M 123 cache key) := by
  obtain ⟨hk, -, -, -, -, -, kf, fs, W, n, p, c, e, hp, hpa, -, -, -, h4, -, -, hB, -⟩ := id h
  have hn : n ≤ 300 := hB.1
  have h0 : mI M 124 0 = nI n := hB.2.2.1
  have hl : mI M 7 3 = nI n := hB.2.1
  have er := fun N (hN : RA N 123) => r_remembers (M := N) (o := 123) (H := mI M 124) (V := vv M 124) (X := xx M) 36 hN (cache := cache) (key := key)
  have eL : f_L_remembers 40 M 1 cache key 200 = _ := e_L_remembers 39 M 1 cache key 200
  rw [t_ck hk, e_X10_remembers, z_cache, bv_if] at eL
  by_cases q1 : qIn cache 0 5 = true
  · obtain ⟨ch, hch, rfl⟩ := qIn_c q1
    rw [if_pos q1, z_key, bv_if] at eL
    by_cases q2 : qIn key 0 25 = true
    · obtain ⟨k, hk26, rfl⟩ := qIn_k q2
      have hC := RB_c hB hch
      have hr0 : mI M (cc 2 ch) 0 = vv M 124 ch 0 := hC.1.1.1 0 (by omega)
      rw [if_pos q2, t_ck hk, z_rule 36 hk hch, bv_if, hr0] at eL
      by_cases q3 : vv M 124 ch 0 = 4
      · rw [if_pos q3] at eL
        have hv := hC.1.2.2.2.2.2.2.1.2.2 k hk26
        refine OK_v (M1 := M) (v := bI (bt (mI M (cc 2 ch) 10) k)) (X' := qX0 (xx M)) h hp LV.rfl' ?_ (fun N _ hN => ?_) XKp_X0 qX0_0
        · rw [eL]
          refine L_bool ?_ hk
          simp (maxSteps := 1000000) (disch := first | assumption | omega) only [x_rf, x_m, lt_bv_r, lt_bi_r, lt_bl_r, lt_br_r, t_ck, t_p0, t_p1, t_p4, t_p5, t_p6, t_p7, t_ckB, t_B0, t_B1, t_ckK, t_K0, t_K1, t_K2, t_ckR, t_R0, t_R1, t_R2, t_ckC, t_cache, t_at2, t_at3, t_at4, t_at6, t_at7, t_at8, t_has, t_units, t_owner, t_times, t_c17, t_c4, t_c16, t_ck6, t_c60, t_c61, t_c62, t_cat1, t_cat7, t_cat8, t_cat9, t_catW, c_pop, ↓reduceIte, Int32.reduceToInt, Int.reduceEq, lt_b1_0, lt_b1_1, x_10, x_01, x_11, x_00, hb1]
        · rw [er N hN, q1, q2, Bool.true_and, if_pos rfl, lt_iN (by omega), lt_iN (by omega), if_pos q3]
          have : decide (0 < vv M 124 ch (258 + k)) = bt (mI M (cc 2 ch) 10) k := by
            cases q : bt (mI M (cc 2 ch) 10) k with
            | true =>
              obtain ⟨a, ha, ha2, ha3⟩ := hv.1 q
              rw [ha3]
              exact decide_eq_true ((lt_iL (j := 0) (k := a) (by omega) ha2).mpr ha)
            | false => rw [hv.2 q]; rfl
          rw [this]
      · rw [if_neg q3] at eL
        refine OK_e (M1 := aExn M) (code := 2) (v := 0) (X' := qXe (xx M) 2) h hp LV_exn ?_ (by decide) (fun N _ hN => ?_) XKp_Xe qXe_0
        · rw [eL]; exact L_exn rfl rfl
        · rw [er N hN, q1, q2, Bool.true_and, if_pos rfl, lt_iN (by omega), if_neg q3]
    · rw [if_neg q2] at eL
      have q2' : qIn key 0 25 = false := by simpa using q2
      refine OK_e (M1 := aExn M) (code := 1) (v := 0) (X' := qXe (xx M) 1) h hp LV_exn ?_ (by decide) (fun N _ hN => ?_) XKp_Xe qXe_0
      · rw [eL]; exact L_exn rfl rfl
      · rw [er N hN, q1, q2']; rfl
  · rw [if_neg q1] at eL
    have q1' : qIn cache 0 5 = false := by simpa using q1
    refine OK_e (M1 := aExn M) (code := 1) (v := 0) (X' := qXe (xx M) 1) h hp LV_exn ?_ (by decide) (fun N _ hN => ?_) XKp_Xe qXe_0
    · rw [eL]; exact L_exn rfl rfl
    · rw [er N hN, q1']; rfl
theorem o_leaning (h : ST L xs M i) : OK L xs i M (fun M => f_L_leaning 40 M 1 cache 200) (fun M => f_X11_leaning 40 M 123 cache) := by
  obtain ⟨hk, -, -, -, -, -, kf, fs, W, n, p, c, e, hp, hpa, -, -, -, h4, -, -, hB, -⟩ := id h
  have hn : n ≤ 300 := hB.1
  have h0 : mI M 124 0 = nI n := hB.2.2.1
  have hl : mI M 7 3 = nI n := hB.2.1
  have er := fun N (hN : RA N 123) => r_leaning (M := N) (o := 123) (H := mI M 124) (V := vv M 124) (X := xx M) 36 hN (cache := cache)
  have eL : f_L_leaning 40 M 1 cache 200 = _ := e_L_leaning 39 M 1 cache 200
  rw [t_ck hk, e_X10_leaning, z_cache, bv_if] at eL
  by_cases q1 : qIn cache 0 5 = true
  · obtain ⟨ch, hch, rfl⟩ := qIn_c q1
    have hC := RB_c hB hch
    have hr0 : mI M (cc 2 ch) 0 = vv M 124 ch 0 := hC.1.1.1 0 (by omega)
    rw [if_pos q1, t_ck hk, z_rule 36 hk hch, bv_if, hr0] at eL
    by_cases q3 : vv M 124 ch 0 = 6
    · rw [if_pos q3] at eL
      have m1 : vv M 124 (6 + 2 * ch) 13 = mI M (cc 2 ch + 13) 1 := hC.2.2.2.2.2.2.2.1.2.2.2.2.2.2.2.1
      have m2 : vv M 124 (7 + 2 * ch) 13 = mI M (cc 2 ch + 14) 1 := hC.2.2.2.2.2.2.2.2.1.2.2.2.2.2.2.2.1
      refine OK_v (M1 := M) (v := qLeans (vv M 124) ch) (X' := qX0 (xx M)) h hp LV.rfl' ?_ (fun N _ hN => ?_) XKp_X0 qX0_0
      · rw [eL]
        refine L_val ?_ hk
        have := c_leans (M := M) 37 (t_cA hk hch)
        simp (maxSteps := 1000000) (disch := first | assumption | omega) only [x_rf, x_m, lt_bv_r, lt_bi_r, lt_bl_r, lt_br_r, t_ck, t_p0, t_p1, t_p4, t_p5, t_p6, t_p7, t_ckB, t_B0, t_B1, t_ckK, t_K0, t_K1, t_K2, t_ckR, t_R0, t_R1, t_R2, t_ckC, t_cache, t_at2, t_at3, t_at4, t_at6, t_at7, t_at8, t_has, t_units, t_owner, t_times, t_c17, t_c4, t_c16, t_ck6, t_c60, t_c61, t_c62, t_cat1, t_cat7, t_cat8, t_cat9, t_catW, c_pop, ↓reduceIte, Int32.reduceToInt, Int.reduceEq, lt_b1_0, lt_b1_1, x_10, x_01, x_11, x_00, this]
        unfold qLeans
        rw [m1, m2]
        by_cases q : mI M (cc 2 ch + 14) 1 < mI M (cc 2 ch + 13) 1
        · rw [if_pos q, if_pos rfl, if_pos q]
        · rw [if_neg q, if_neg (by decide), if_neg q]
      · rw [er N hN, if_pos q1, lt_iN (by omega), if_pos q3]
    · rw [if_neg q3] at eL
      refine OK_e (M1 := aExn M) (code := 2) (v := 0) (X' := qXe (xx M) 2) h hp LV_exn ?_ (by decide) (fun N _ hN => ?_) XKp_Xe qXe_0
      · rw [eL]; exact L_exn rfl rfl
      · rw [er N hN, if_pos q1, lt_iN (by omega), if_neg q3]
  · rw [if_neg q1] at eL
    refine OK_e (M1 := aExn M) (code := 1) (v := 0) (X' := qXe (xx M) 1) h hp LV_exn ?_ (by decide) (fun N _ hN => ?_) XKp_Xe qXe_0
    · rw [eL]; exact L_exn rfl rfl
    · rw [er N hN, if_neg q1]
/-- a long is answered -/
def OKl (L : Nat) (xs : Nat → Int32) (i : Nat) (M : LM) (fL fX : LM → Option (LO × LM)) : Prop := ∃ (code : Int32) (v : Int64) (M1 M2 : LM), fL M = some (.inl (some (.int code)), M1) ∧ fX M1 = some (.inl (some (.long v)), M2) ∧ mI M1 0 = xs ∧ CSK L M1 ∧ mI M2 123 0 = code ∧ (code = 0 → mL M2 200 0 = v) ∧ ST L xs M2 (i + 1)
theorem OKlA {v : Int64} (h : ST L xs M i) (g : LV M M1) (hp : ∀ j, mP M 125 j = gP 123 p j) (hL : fL M = some (.inl (some (.int code)), M1)) (hr : ∀ N, RA N 123 → fX (rM N 123 (mI M 124) (vv M 124) (xx M)) = some (.inl (some (.long v)), rM N 123 (mI M 124) (vv M 124) X')) (hX : XKp (xx M) X') (hc : X' 0 0 = code) (hv : code = 0 → mL M1 200 0 = v) : OKl L xs i M fL fX := by
  have hr' : fX (rN M1 p (mI M 124) (vv M 124) (xx M)) = some (.inl (some (.long v)), rN M1 p (mI M 124) (vv M 124) X') := hr (rP M1 123 (gP 123 p)) (RA.rp (t_r (CSK_lv h.1 g)))
  rw [rN_of g hp] at hr'
  exact ⟨code, v, M1, _, hL, hr', (g.1 0 (by omega)).trans h.2.2.1, CSK_lv h.1 g, (congrFun rN_X0 0).trans hc, hv, ST_A h g hp hX⟩
theorem L_long {F : Option (LO × LM)} {v : Int64} (h : F = some (.inl (some (.long v)), M1)) (hk : CSK L M1) : (lt_bl F hl fun v2 M1 => lt_ar M1 200 2 0 (lt_m (wL M1 200 (lt_n 0) v2) fun M3 => some (.inl (some (.int 0)), M3))) = some (.inl (some (.int 0)), wL M1 200 0 v) := by
  rw [h, lt_bl_r, t_oa hk, x_m]
  rfl
theorem L_exnl {F : Option (LO × LM)} {K : Int64 → LM → Option (LO × LM)} (h : F = some (.inr e, M1)) (hl' : lt_find hl e = some code) : lt_bl F hl K = some (.inl (some (.int code)), M1) := by
  rw [h]
  show lt_th hl e M1 = _
  unfold lt_th
  rw [hl']
theorem o_worth (h : ST L xs M i) : OKl L xs i M (fun M => f_L_worth 40 M 1 cache key 200) (fun M => f_X11_worth 40 M 123 cache key) := by
  obtain ⟨hk, -, -, -, -, -, kf, fs, W, n, p, c, e, hp, hpa, -, -, -, h4, -, -, hB, -⟩ := id h
  have hn : n ≤ 300 := hB.1
  have h0 : mI M 124 0 = nI n := hB.2.2.1
  have hl : mI M 7 3 = nI n := hB.2.1
  have er := fun N (hN : RA N 123) => r_worth (M := N) (o := 123) (H := mI M 124) (V := vv M 124) (X := xx M) 36 hN (cache := cache) (key := key)
  have eL : f_L_worth 40 M 1 cache key 200 = _ := e_L_worth 39 M 1 cache key 200
  rw [t_ck hk, e_X10_worth, z_cache, bv_if] at eL
  have exn : ∀ (ex : Nat) (cd : Int32), f_L_worth 40 M 1 cache key 200 = lt_bl (some (.inr ex, aExn M)) lt_h291 (fun v2 M1 => lt_ar M1 200 2 0 (lt_m (wL M1 200 (lt_n 0) v2) fun M3 => some (.inl (some (.int 0)), M3))) → lt_find lt_h291 ex = some cd → cd ≠ 0 → (∀ N, RA N 123 → f_X11_worth 40 (rM N 123 (mI M 124) (vv M 124) (xx M)) 123 cache key = some (.inl (some (.long 0)), rM N 123 (mI M 124) (vv M 124) (qXe (xx M) cd))) → OKl L xs i M (fun M => f_L_worth 40 M 1 cache key 200) (fun M => f_X11_worth 40 M 123 cache key) :=
    fun ex cd e1 e2 e3 e4 => OKlA (M1 := aExn M) (code := cd) (v := 0) (X' := qXe (xx M) cd) h LV_exn hp (e1.trans (L_exnl rfl e2)) e4 XKp_Xe qXe_0 (fun z => absurd z e3)
  have ok : ∀ (vl : Int64), f_L_worth 40 M 1 cache key 200 = lt_bl (some (.inl (some (.long vl)), M)) lt_h291 (fun v2 M1 => lt_ar M1 200 2 0 (lt_m (wL M1 200 (lt_n 0) v2) fun M3 => some (.inl (some (.int 0)), M3))) → (∀ N, RA N 123 → f_X11_worth 40 (rM N 123 (mI M 124) (vv M 124) (xx M)) 123 cache key = some (.inl (some (.long vl)), rM N 123 (mI M 124) (vv M 124) (qX0 (xx M)))) → OKl L xs i M (fun M => f_L_worth 40 M 1 cache key 200) (fun M => f_X11_worth 40 M 123 cache key) :=
    fun vl e1 e4 => OKlA (M1 := wL M 200 0 vl) (code := 0) (v := vl) (X' := qX0 (xx M)) h (LV_out LV.rfl') hp (e1.trans (L_long rfl hk)) e4 XKp_X0 qX0_0 (fun _ => out_v)
  by_cases q1 : qIn cache 0 5 = true
  · obtain ⟨ch, hch, rfl⟩ := qIn_c q1
    rw [if_pos q1] at eL
    have hC := RB_c hB hch
    have hr0 : mI M (cc 2 ch) 0 = vv M 124 ch 0 := hC.1.1.1 0 (by omega)
    have hW := hC.1.2.2.2.2.2.2.2.2.1
    by_cases q2 : key = -1
    · subst q2
      rw [if_pos rfl, e_X10_worth_13, t_ck hk, z_rule 36 hk hch, bv_if, hr0] at eL
      by_cases q3 : vv M 124 ch 0 = 5
      · rw [if_pos q3] at eL
        obtain ⟨l, -, w1, w2⟩ := hW.1
        refine ok (Int32.toInt64 (vv M 124 ch 11)) ?_ (fun N hN => ?_)
        · rw [eL]
          simp (maxSteps := 1000000) (disch := first | assumption | omega) only [x_rf, x_m, lt_bv_r, lt_bi_r, lt_bl_r, lt_br_r, t_ck, t_p0, t_p1, t_p4, t_p5, t_p6, t_p7, t_ckB, t_B0, t_B1, t_ckK, t_K0, t_K1, t_K2, t_ckR, t_R0, t_R1, t_R2, t_ckC, t_cache, t_at2, t_at3, t_at4, t_at6, t_at7, t_at8, t_has, t_units, t_owner, t_times, t_c17, t_c4, t_c16, t_ck6, t_c60, t_c61, t_c62, t_cat1, t_cat7, t_cat8, t_cat9, t_catW, c_pop, ↓reduceIte, Int32.reduceToInt, Int.reduceEq, lt_b1_0, lt_b1_1, x_10, x_01, x_11, x_00]
          rw [w1, show mL M (cc 2 ch) 11 = _ from w2]
        · rw [er N hN, if_pos q1, if_pos (by decide), lt_iN (by omega), if_pos q3, if_pos rfl]
      · rw [if_neg q3] at eL
        exact exn 1 2 eL rfl (by decide) (fun N hN => by rw [er N hN, if_pos q1, if_pos (by decide), lt_iN (by omega), if_neg q3])
    · rw [if_neg q2, z_key, bv_if] at eL
      have q12 : qIn key (-1) 25 = qIn key 0 25 := by
        have a1 : key < -1 ∨ ¬ key < -1 := Classical.em _
        have hne : key.toInt ≠ -1 := fun z => q2 (Int32.toInt.inj z)
        have : (key < -1) ↔ (key < 0) := by
          rw [Int32.lt_iff_toInt_lt, Int32.lt_iff_toInt_lt, show (-1 : Int32).toInt = -1 from rfl, show (0 : Int32).toInt = 0 from rfl]; omega
        unfold qIn
        rw [decide_eq_decide.mpr this]
      by_cases q4 : qIn key 0 25 = true
      · obtain ⟨k, hk26, rfl⟩ := qIn_k q4
        rw [if_pos q4, e_X10_worth_13, t_ck hk, z_rule 36 hk hch, bv_if, hr0] at eL
        by_cases q3 : vv M 124 ch 0 = 5
        · rw [if_pos q3, t_ck hk, t_p0 hk, x_rf, t_ckB hk, t_cache 37 hk hch, lt_br_r, if_neg q2] at eL
          have hv := hC.1.2.1.2 k hk26
          cases qb : bt (mI M (cc 2 ch) 5) k with
          | true =>
            obtain ⟨l, -, w1, w2⟩ := hW.2 k hk26 qb
            refine ok (Int32.toInt64 (vv M 124 ch (284 + k))) ?_ (fun N hN => ?_)
            · rw [eL]
              have : mL M (cc 2 ch + 5) k = Int32.toInt64 (nI l) := w2
              simp (maxSteps := 1000000) (disch := first | assumption | omega) only [x_rf, x_m, lt_bv_r, lt_bi_r, lt_bl_r, lt_br_r, t_ck, t_p0, t_p1, t_p4, t_p5, t_p6, t_p7, t_ckB, t_B0, t_B1, t_ckK, t_K0, t_K1, t_K2, t_ckR, t_R0, t_R1, t_R2, t_ckC, t_cache, t_at2, t_at3, t_at4, t_at6, t_at7, t_at8, t_has, t_units, t_owner, t_times, t_c17, t_c4, t_c16, t_ck6, t_c60, t_c61, t_c62, t_cat1, t_cat7, t_cat8, t_cat9, t_catW, c_pop, ↓reduceIte, Int32.reduceToInt, Int.reduceEq, lt_b1_0, lt_b1_1, x_10, x_01, x_11, x_00, qb]
              rw [if_neg (show ¬ bI true = 0 by decide)]
              simp (maxSteps := 1000000) (disch := first | assumption | omega) only [x_rf, x_m, lt_bv_r, lt_bi_r, lt_bl_r, lt_br_r, t_ck, t_p0, t_p1, t_p4, t_p5, t_p6, t_p7, t_ckB, t_B0, t_B1, t_ckK, t_K0, t_K1, t_K2, t_ckR, t_R0, t_R1, t_R2, t_ckC, t_cache, t_at2, t_at3, t_at4, t_at6, t_at7, t_at8, t_has, t_units, t_owner, t_times, t_c17, t_c4, t_c16, t_ck6, t_c60, t_c61, t_c62, t_cat1, t_cat7, t_cat8, t_cat9, t_catW, c_pop, ↓reduceIte, Int32.reduceToInt, Int.reduceEq, lt_b1_0, lt_b1_1, x_10, x_01, x_11, x_00]
              rw [this, w1]
            · rw [er N hN, if_pos q1, q12, if_pos q4, lt_iN (by omega), if_pos q3, if_neg q2, lt_iN (by omega), if_pos]
              rw [hv]
              exact congrArg bI qb
          | false =>
            refine exn 3 3 ?_ rfl (by decide) (fun N hN => ?_)
            · rw [eL]
              simp (maxSteps := 1000000) (disch := first | assumption | omega) only [x_rf, x_m, lt_bv_r, lt_bi_r, lt_bl_r, lt_br_r, t_ck, t_p0, t_p1, t_p4, t_p5, t_p6, t_p7, t_ckB, t_B0, t_B1, t_ckK, t_K0, t_K1, t_K2, t_ckR, t_R0, t_R1, t_R2, t_ckC, t_cache, t_at2, t_at3, t_at4, t_at6, t_at7, t_at8, t_has, t_units, t_owner, t_times, t_c17, t_c4, t_c16, t_ck6, t_c60, t_c61, t_c62, t_cat1, t_cat7, t_cat8, t_cat9, t_catW, c_pop, ↓reduceIte, Int32.reduceToInt, Int.reduceEq, lt_b1_0, lt_b1_1, x_10, x_01, x_11, x_00, qb]
              rw [if_pos (show bI false = 0 from rfl)]
            · rw [er N hN, if_pos q1, q12, if_pos q4, lt_iN (by omega), if_pos q3, if_neg q2, lt_iN (by omega), if_neg]
              rw [hv]
              intro z
              have z' : bI (bt (mI M (cc 2 ch) 5) k) = 1 := z
              rw [qb] at z'
              exact absurd z' (by decide)
        · rw [if_neg q3] at eL
          exact exn 1 2 eL rfl (by decide) (fun N hN => by rw [er N hN, if_pos q1, q12, if_pos q4, lt_iN (by omega), if_neg q3])
      · rw [if_neg q4] at eL
        exact exn 0 1 eL rfl (by decide) (fun N hN => by rw [er N hN, if_pos q1, q12, if_neg q4])
  · rw [if_neg q1] at eL
    exact exn 0 1 eL rfl (by decide) (fun N hN => by rw [er N hN, if_neg q1])
end Ug
