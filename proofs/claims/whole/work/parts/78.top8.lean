/-! CALLS: what is asked of the row -/
/-- a call whose answers the law holds against each other at once -/
def OKd (L : Nat) (xs : Nat → Int32) (i : Nat) (M : LM) (fC fX : LM → Option (LO × LM)) : Prop := ∃ (v : Int32) (M1 M2 : LM), fC M = some (.inl (some (.int v)), M1) ∧ fX M1 = some (.inl (some (.int v)), M2) ∧ mI M1 0 = xs ∧ CSK L M1 ∧ ST L xs M2 (i + 1)
section Ui
variable {M M' M1 N : LM} {L B D P U i j k t w f n c e r a o m ch : Nat} {x y v b1 b2 code cache key what ow rq from_ to_ place rule size other requests : Int32} {z : Option (LO × LM)} {b : Bool} {T : BT} {kf fs W p : Nat → Nat} {xs H H' : Nat → Int32} {V V' X X' : Nat → Nat → Int32} {l : Option (List Nat)} {y64 : Int64} {fL fX fC : LM → Option (LO × LM)} {hl : List (Nat × Int32)} {S Z Z' : CS}
theorem OKdA (h : ST L xs M i) (g : LV M M1) (hp : ∀ j, mP M 125 j = gP 123 p j) (hL : fC M = some (.inl (some (.int v)), M1)) (hr : ∀ N, RA N 123 → fX (rM N 123 (mI M 124) (vv M 124) (xx M)) = some (.inl (some (.int v)), rM N 123 (mI M 124) (vv M 124) X')) (hX : XKp (xx M) X') : OKd L xs i M fC fX := by
  have hr' : fX (rN M1 p (mI M 124) (vv M 124) (xx M)) = some (.inl (some (.int v)), rN M1 p (mI M 124) (vv M 124) X') := hr (rP M1 123 (gP 123 p)) (RA.rp (t_r (CSK_lv h.1 g)))
  rw [rN_of g hp] at hr'
  exact ⟨v, M1, _, hL, hr', (g.1 0 (by omega)).trans h.2.2.1, CSK_lv h.1 g, ST_A h g hp hX⟩
theorem LV_st : LV M (gM M 111 5 Z') := ⟨fun a ha => gIo (by omega), congrFun (gIo (o := 105) (by omega)) 1, congrFun (gIo (o := 116) (by omega)) 1, fun a ha => gLo (by omega), rfl, rfl, rfl, rfl, Nat.le_add_right _ _, Nat.le_add_right _ _⟩
theorem LV.tr' (h : LV M M') (g : LV M' M1) (hc : mC M' = mC M ∧ mS M' = mS M) : LV M M1 := by
  obtain ⟨a1, a2, a3, a4, a5, a6, a7, a8, a9, a10⟩ := h
  obtain ⟨b1, b2, b3, b4, b5, b6, b7, b8, b9, b10⟩ := g
  exact ⟨fun a ha => (b1 a ha).trans (a1 a ha), b2.trans a2, b3.trans a3, fun a ha => (b4 a ha).trans (a4 a ha), b5.trans a5, b6.trans a6, b7.trans a7, b8.trans a8, by omega, by omega⟩
theorem RKm_t (hB : RB kf fs W n (tB M 2) (mI M 124) (vv M 124)) : RKm M 7 kf n := fun i hi => by
  obtain ⟨a, b, -⟩ := hB.2.2.2.2.2.1 i hi
  exact ⟨a, b⟩
theorem RK_t (hB : RB kf fs W n (tB M 2) (mI M 124) (vv M 124)) : RK (mI M 124) kf n := (RB_RS hB).2.1
theorem kf26 (hB : RB kf fs W n T H V) : ∀ i, i < n → kf i < 26 := fun i hi => (hB.2.2.2.2.2.1 i hi).1
theorem t_ckS (h : CSK L M) : lt_ck M 111 23 z = z := lt_ck_t (t_s h).1
/-- the study, asked -/
theorem t_feed (d : Nat) (h : CSK L M) (hB : RB kf fs W n (tB M 2) (mI M 124) (vv M 124)) (ht : t ≤ n) : ∃ Z', ZP (tG M 111) Z' (sPlay rule size kf n t) ∧ f_X7_feed (d + 4) M 111 7 rule size (nI t) = some (.inl none, gM M 111 5 Z') := by
  have := st_feed (M := M) (U := 111) (R := 7) (Z := tG M 111) (rule := rule) (size := size) (kf := kf) (t := t) d (t_s h) (t_RW h) (by omega) (RKm_t hB) hB.1 hB.2.1 ht
  rw [gM_id] at this
  exact this
theorem t_hitsBy (d : Nat) (h : CSK L M) (hB : RB kf fs W n (tB M 2) (mI M 124) (vv M 124)) : ∃ Z', f_X7_hitsBy (d + 5) M 111 7 rule size = some (.inl (some (.int (kHits kf n rule size))), gM M 111 5 Z') := by
  obtain ⟨Z', -, e⟩ := st_hitsBy (M := M) (U := 111) (R := 7) (Z := tG M 111) (rule := rule) (size := size) (kf := kf) d (t_s h) (t_RW h) (by omega) (RKm_t hB) hB.1 hB.2.1
  rw [gM_id] at e
  exact ⟨Z', e⟩
theorem o_requestAt (h : ST L xs M i) : OK L xs i M (fun M => f_L_requestAt 40 M 1 rq what 200) (fun M => f_X11_requestAt 40 M 123 rq what) := by
  obtain ⟨hk, -, -, -, -, -, kf, fs, W, n, p, c, e, hp, hpa, -, -, -, h4, -, -, hB, -⟩ := id h
  have hn : n ≤ 300 := hB.1
  have h0 : mI M 124 0 = nI n := hB.2.2.1
  have hl : mI M 7 3 = nI n := hB.2.1
  have er := fun N (hN : RA N 123) => r_requestAt (M := N) (o := 123) (H := mI M 124) (V := vv M 124) (X := xx M) 37 hN hn h0 (rq := rq) (what := what)
  have eL : f_L_requestAt 40 M 1 rq what 200 = _ := e_L_requestAt 39 M 1 rq what 200
  rw [t_ck hk, e_X10_requestAt, t_ck hk, z_req _ hk hl hn, bv_if] at eL
  by_cases q1 : qIn rq 0 (nI n - 1) = true
  · obtain ⟨r, hr, rfl⟩ := qIn_n hn q1
    rw [if_pos q1, z_range, bv_if] at eL
    by_cases q2 : qIn what 0 2 = true
    · rw [if_pos q2] at eL
      have hw : what = 0 ∨ what = 1 ∨ what = 2 := by
        obtain ⟨m, hm, rfl⟩ := qIn_g (m := 2) (by omega) q2
        have : m = 0 ∨ m = 1 ∨ m = 2 := by omega
        rcases this with rfl | rfl | rfl
        · exact Or.inl rfl
        · exact Or.inr (Or.inl rfl)
        · exact Or.inr (Or.inr rfl)
      have hR := RB_row hB hr
      have hr3 : r < 300 := by omega
      refine OK_v (M1 := M) (v := if what = 0 then mI M 124 (80 + r) else if what = 1 then mI M 124 (380 + r) else mI M 124 (680 + r)) (X' := qX0 (xx M)) h hp LV.rfl' ?_ (fun N _ hN => ?_) XKp_X0 qX0_0
      · rw [eL]
        refine L_val ?_ hk
        rcases hw with rfl | rfl | rfl
        · simp (maxSteps := 1000000) (disch := first | assumption | omega) only [x_rf, x_m, lt_bv_r, lt_bi_r, lt_bl_r, lt_br_r, t_ck, t_p0, t_p1, t_p4, t_p5, t_p6, t_p7, t_ckB, t_B0, t_B1, t_ckK, t_K0, t_K1, t_K2, t_ckR, t_R0, t_R1, t_R2, t_ckC, t_cache, t_at2, t_at3, t_at4, t_at6, t_at7, t_at8, t_has, t_units, t_owner, t_times, t_c17, t_c4, t_c16, t_ck6, t_c60, t_c61, t_c62, t_cat1, t_cat7, t_cat8, t_cat9, t_catW, c_pop, ↓reduceIte, Int32.reduceToInt, Int.reduceEq, lt_b1_0, lt_b1_1, x_10, x_01, x_11, x_00]
          rw [show mI M 8 r = _ from hR.1]
        · simp (maxSteps := 1000000) (disch := first | assumption | omega) only [x_rf, x_m, lt_bv_r, lt_bi_r, lt_bl_r, lt_br_r, t_ck, t_p0, t_p1, t_p4, t_p5, t_p6, t_p7, t_ckB, t_B0, t_B1, t_ckK, t_K0, t_K1, t_K2, t_ckR, t_R0, t_R1, t_R2, t_ckC, t_cache, t_at2, t_at3, t_at4, t_at6, t_at7, t_at8, t_has, t_units, t_owner, t_times, t_c17, t_c4, t_c16, t_ck6, t_c60, t_c61, t_c62, t_cat1, t_cat7, t_cat8, t_cat9, t_catW, c_pop, ↓reduceIte, Int32.reduceToInt, Int.reduceEq, lt_b1_0, lt_b1_1, x_10, x_01, x_11, x_00]
          rw [show mI M 9 r = _ from hR.2.1]
        · simp (maxSteps := 1000000) (disch := first | assumption | omega) only [x_rf, x_m, lt_bv_r, lt_bi_r, lt_bl_r, lt_br_r, t_ck, t_p0, t_p1, t_p4, t_p5, t_p6, t_p7, t_ckB, t_B0, t_B1, t_ckK, t_K0, t_K1, t_K2, t_ckR, t_R0, t_R1, t_R2, t_ckC, t_cache, t_at2, t_at3, t_at4, t_at6, t_at7, t_at8, t_has, t_units, t_owner, t_times, t_c17, t_c4, t_c16, t_ck6, t_c60, t_c61, t_c62, t_cat1, t_cat7, t_cat8, t_cat9, t_catW, c_pop, ↓reduceIte, Int32.reduceToInt, Int.reduceEq, lt_b1_0, lt_b1_1, x_10, x_01, x_11, x_00]
          rw [show mI M 10 r = _ from hR.2.2]
          rfl
      · rw [er N hN, if_pos q1, if_pos q2, lt_iN (by omega)]
    · rw [if_neg q2] at eL
      refine OK_e (M1 := aExn M) (code := 2) (v := 0) (X' := u2 (qX0 (xx M)) 0 0 2) h hp LV_exn ?_ (by decide) (fun N _ hN => ?_) (XKp_X0.tr (XKp_0 (by decide))) u2_eq
      · rw [eL]; exact L_exn rfl rfl
      · rw [er N hN, if_pos q1, if_neg q2]
  · rw [if_neg q1] at eL
    refine OK_e (M1 := aExn M) (code := 1) (v := 0) (X' := qXe (xx M) 1) h hp LV_exn ?_ (by decide) (fun N _ hN => ?_) XKp_Xe qXe_0
    · rw [eL]; exact L_exn rfl rfl
    · rw [er N hN, if_neg q1]
theorem o_distance (h : ST L xs M i) : OK L xs i M (fun M => f_L_distance 40 M 1 rq 200) (fun M => f_X11_distance 40 M 123 rq) := by
  obtain ⟨hk, -, -, -, -, -, kf, fs, W, n, p, c, e, hp, hpa, -, -, -, h4, -, -, hB, -⟩ := id h
  have hn : n ≤ 300 := hB.1
  have h0 : mI M 124 0 = nI n := hB.2.2.1
  have hl : mI M 7 3 = nI n := hB.2.1
  have er := fun N (hN : RA N 123) => r_distance (M := N) (o := 123) (H := mI M 124) (V := vv M 124) (X := xx M) 37 hN (RK_t hB) hn h0 (rq := rq)
  have eL : f_L_distance 40 M 1 rq 200 = _ := e_L_distance 39 M 1 rq 200
  rw [t_ck hk, e_X10_distance, t_ck hk, z_req _ hk hl hn, bv_if] at eL
  by_cases q1 : qIn rq 0 (nI n - 1) = true
  · obtain ⟨r, hr, rfl⟩ := qIn_n hn q1
    rw [if_pos q1] at eL
    refine OK_v (M1 := M) (v := qDist kf (kf r) r 0) (X' := qX0 (xx M)) h hp LV.rfl' ?_ (fun N _ hN => ?_) XKp_X0 qX0_0
    · rw [eL]
      refine L_val ?_ hk
      have := w_distanceOf (M := M) (R := 7) (kf := kf) (n := n) (i := r) 36 (t_RW hk) (RKm_t hB) hn hr
      simp (maxSteps := 1000000) (disch := first | assumption | omega) only [x_rf, x_m, lt_bv_r, lt_bi_r, lt_bl_r, lt_br_r, t_ck, t_p0, t_p1, t_p4, t_p5, t_p6, t_p7, t_ckB, t_B0, t_B1, t_ckK, t_K0, t_K1, t_K2, t_ckR, t_R0, t_R1, t_R2, t_ckC, t_cache, t_at2, t_at3, t_at4, t_at6, t_at7, t_at8, t_has, t_units, t_owner, t_times, t_c17, t_c4, t_c16, t_ck6, t_c60, t_c61, t_c62, t_cat1, t_cat7, t_cat8, t_cat9, t_catW, c_pop, ↓reduceIte, Int32.reduceToInt, Int.reduceEq, lt_b1_0, lt_b1_1, x_10, x_01, x_11, x_00, this]
    · rw [er N hN, if_pos q1, lt_iN (by omega)]
  · rw [if_neg q1] at eL
    refine OK_e (M1 := aExn M) (code := 1) (v := 0) (X' := qXe (xx M) 1) h hp LV_exn ?_ (by decide) (fun N _ hN => ?_) XKp_Xe qXe_0
    · rw [eL]; exact L_exn rfl rfl
    · rw [er N hN, if_neg q1]
theorem o_phases (h : ST L xs M i) : OK L xs i M (fun M => f_L_phases 40 M 1 size 200) (fun M => f_X11_phases 40 M 123 size) := by
  obtain ⟨hk, -, -, -, -, -, kf, fs, W, n, p, c, e, hp, hpa, -, -, -, h4, -, -, hB, -⟩ := id h
  have hn : n ≤ 300 := hB.1
  have h0 : mI M 124 0 = nI n := hB.2.2.1
  have hl : mI M 7 3 = nI n := hB.2.1
  have er := fun N (hN : RA N 123) => r_phases (M := N) (o := 123) (H := mI M 124) (V := vv M 124) (X := xx M) 36 hN (RK_t hB) hn h0 (size := size)
  have eL : f_L_phases 40 M 1 size 200 = _ := e_L_phases 39 M 1 size 200
  rw [t_ck hk, e_X10_phases, z_range, bv_if] at eL
  by_cases q1 : qIn size 1 26 = true
  · obtain ⟨s, hs1, hs2, rfl⟩ := qIn_sz q1
    rw [if_pos q1] at eL
    refine OK_v (M1 := M) (v := qPhases kf (nI s) n) (X' := qX0 (xx M)) h hp LV.rfl' ?_ (fun N _ hN => ?_) XKp_X0 qX0_0
    · rw [eL]
      refine L_val ?_ hk
      have := w_phases (M := M) (R := 7) (kf := kf) (n := n) (t := n) (size := nI s) 36 (t_RW hk) (RKm_t hB) hn (Nat.le_refl _)
      rw [ph_eq (by omega) (by omega) hn (kf26 hB)] at this
      simp (maxSteps := 1000000) (disch := first | assumption | omega) only [x_rf, x_m, lt_bv_r, lt_bi_r, lt_bl_r, lt_br_r, t_ck, t_p0, t_p1, t_p4, t_p5, t_p6, t_p7, t_ckB, t_B0, t_B1, t_ckK, t_K0, t_K1, t_K2, t_ckR, t_R0, t_R1, t_R2, t_ckC, t_cache, t_at2, t_at3, t_at4, t_at6, t_at7, t_at8, t_has, t_units, t_owner, t_times, t_c17, t_c4, t_c16, t_ck6, t_c60, t_c61, t_c62, t_cat1, t_cat7, t_cat8, t_cat9, t_catW, c_pop, ↓reduceIte, Int32.reduceToInt, Int.reduceEq, lt_b1_0, lt_b1_1, x_10, x_01, x_11, x_00, hl, this]
    · rw [er N hN, if_pos q1]
  · rw [if_neg q1] at eL
    refine OK_e (M1 := aExn M) (code := 1) (v := 0) (X' := qXe (xx M) 1) h hp LV_exn ?_ (by decide) (fun N _ hN => ?_) XKp_Xe qXe_0
    · rw [eL]; exact L_exn rfl rfl
    · rw [er N hN, if_neg q1]
theorem o_phaseOf (h : ST L xs M i) : OK L xs i M (fun M => f_L_phaseOf 40 M 1 size rq 200) (fun M => f_X11_phaseOf 40 M 123 size rq) := by
  obtain ⟨hk, -, -, -, -, -, kf, fs, W, n, p, c, e, hp, hpa, -, -, -, h4, -, -, hB, -⟩ := id h
  have hn : n ≤ 300 := hB.1
  have h0 : mI M 124 0 = nI n := hB.2.2.1
  have hl : mI M 7 3 = nI n := hB.2.1
  have er := fun N (hN : RA N 123) => r_phaseOf (M := N) (o := 123) (H := mI M 124) (V := vv M 124) (X := xx M) 36 hN (RK_t hB) hn h0 (size := size) (rq := rq)
  have eL : f_L_phaseOf 40 M 1 size rq 200 = _ := e_L_phaseOf 39 M 1 size rq 200
  rw [t_ck hk, e_X10_phaseOf, t_ck hk, z_req _ hk hl hn, bv_if] at eL
  by_cases q1 : qIn rq 0 (nI n - 1) = true
  · obtain ⟨r, hr, rfl⟩ := qIn_n hn q1
    rw [if_pos q1, z_range, bv_if] at eL
    by_cases q2 : qIn size 1 26 = true
    · obtain ⟨s, hs1, hs2, rfl⟩ := qIn_sz q2
      rw [if_pos q2] at eL
      refine OK_v (M1 := M) (v := qPh kf (nI s) r (r + 1) 0 0) (X' := qX0 (xx M)) h hp LV.rfl' ?_ (fun N _ hN => ?_) XKp_X0 qX0_0
      · rw [eL]
        refine L_val ?_ hk
        have := w_phases (M := M) (R := 7) (kf := kf) (n := n) (t := r + 1) (size := nI s) 36 (t_RW hk) (RKm_t hB) hn (by omega)
        have e1 : nI r + 1 = nI (r + 1) := lt_iA (j := r) (k := 1)
        rw [← e1] at this
        have e2 := ph_at (size := s) (kf := kf) (t := r) (by omega) (by omega) (by omega) (fun i hi => kf26 hB i (by omega))
        simp (maxSteps := 1000000) (disch := first | assumption | omega) only [x_rf, x_m, lt_bv_r, lt_bi_r, lt_bl_r, lt_br_r, t_ck, t_p0, t_p1, t_p4, t_p5, t_p6, t_p7, t_ckB, t_B0, t_B1, t_ckK, t_K0, t_K1, t_K2, t_ckR, t_R0, t_R1, t_R2, t_ckC, t_cache, t_at2, t_at3, t_at4, t_at6, t_at7, t_at8, t_has, t_units, t_owner, t_times, t_c17, t_c4, t_c16, t_ck6, t_c60, t_c61, t_c62, t_cat1, t_cat7, t_cat8, t_cat9, t_catW, c_pop, ↓reduceIte, Int32.reduceToInt, Int.reduceEq, lt_b1_0, lt_b1_1, x_10, x_01, x_11, x_00, this]
        rw [e2]
      · rw [er N hN, if_pos q1, if_pos q2, lt_iN (by omega)]
    · rw [if_neg q2] at eL
      refine OK_e (M1 := aExn M) (code := 2) (v := 0) (X' := u2 (qX0 (xx M)) 0 0 2) h hp LV_exn ?_ (by decide) (fun N _ hN => ?_) (XKp_X0.tr (XKp_0 (by decide))) u2_eq
      · rw [eL]; exact L_exn rfl rfl
      · rw [er N hN, if_pos q1, if_neg q2]
  · rw [if_neg q1] at eL
    refine OK_e (M1 := aExn M) (code := 1) (v := 0) (X' := qXe (xx M) 1) h hp LV_exn ?_ (by decide) (fun N _ hN => ?_) XKp_Xe qXe_0
    · rw [eL]; exact L_exn rfl rfl
    · rw [er N hN, if_neg q1]
theorem rule_4 (h : qIn rule (-1) 2 = true) : rule = 2 ∨ rule = 1 ∨ rule = 0 ∨ rule = -1 := by
  obtain ⟨h1, h2⟩ := qIn_i.mp h
  rw [Int32.lt_iff_toInt_lt, show (-1 : Int32).toInt = -1 from rfl] at h1
  rw [Int32.lt_iff_toInt_lt, show (2 : Int32).toInt = 2 from rfl] at h2
  have : rule.toInt = -1 ∨ rule.toInt = 0 ∨ rule.toInt = 1 ∨ rule.toInt = 2 := by omega
  rcases this with q | q | q | q
  · exact Or.inr (Or.inr (Or.inr (Int32.toInt.inj q)))
  · exact Or.inr (Or.inr (Or.inl (Int32.toInt.inj q)))
  · exact Or.inr (Or.inl (Int32.toInt.inj q))
  · exact Or.inl (Int32.toInt.inj q)
theorem o_hits (h : ST L xs M i) : OK L xs i M (fun M => f_L_hits 40 M 1 rule size 200) (fun M => f_X11_hits 40 M 123 rule size) := by
  obtain ⟨hk, -, -, -, -, -, kf, fs, W, n, p, c, e, hp, hpa, -, -, -, h4, -, -, hB, -⟩ := id h
  have hn : n ≤ 300 := hB.1
  have h0 : mI M 124 0 = nI n := hB.2.2.1
  have hl : mI M 7 3 = nI n := hB.2.1
  have er := fun N (hN : RA N 123) => r_hits (M := N) (o := 123) (H := mI M 124) (V := vv M 124) (X := xx M) (rule := rule) (size := size) 33 hN (RK_t hB) hn h0
  have eL : f_L_hits 40 M 1 rule size 200 = _ := e_L_hits 39 M 1 rule size 200
  rw [t_ck hk, e_X10_hits, z_study, bv_if] at eL
  by_cases q1 : qIn rule (-1) 2 = true
  · rw [if_pos q1, z_range, bv_if] at eL
    by_cases q2 : qIn size 1 26 = true
    · obtain ⟨s, hs1, hs2, rfl⟩ := qIn_sz q2
      rw [if_pos q2] at eL
      have qp : qPok rule (nI s) = true := by unfold qPok; rw [q1, q2]; rfl
      obtain ⟨Z', ez⟩ := t_hitsBy (rule := rule) (size := nI s) 33 hk hB
      rw [hits_eq (rule_4 q1) hn (kf26 hB) (by omega) (by omega)] at ez
      have g : LV M (wL (gM M 111 5 Z') 200 0 (Int32.toInt64 (qHt kf n rule s))) := LV_out LV_st
      obtain ⟨X', c0, x1, x2⟩ := (er _ (RA.rp (t_r (CSK_lv hk g)))).2 qp
      rw [lt_iN (by omega), qHt_c] at x2
      refine OKA (code := 0) (v := qHt kf n rule s) (X' := X') h g hp ?_ x2 (XKp_X0.tr (XKp_q x1)) ((x1.2 0 (by decide) (by decide)).trans qX0_0) (fun _ => out_v)
      refine eL.trans (L_val ?_ (CSK_lv hk LV_st))
      simp (maxSteps := 1000000) (disch := first | assumption | omega) only [x_rf, x_m, lt_bv_r, lt_bi_r, lt_bl_r, lt_br_r, t_ck, t_p0, t_p1, t_p4, t_p5, t_p6, t_p7, t_ckB, t_B0, t_B1, t_ckK, t_K0, t_K1, t_K2, t_ckR, t_R0, t_R1, t_R2, t_ckC, t_cache, t_at2, t_at3, t_at4, t_at6, t_at7, t_at8, t_has, t_units, t_owner, t_times, t_c17, t_c4, t_c16, t_ck6, t_c60, t_c61, t_c62, t_cat1, t_cat7, t_cat8, t_cat9, t_catW, c_pop, ↓reduceIte, Int32.reduceToInt, Int.reduceEq, lt_b1_0, lt_b1_1, x_10, x_01, x_11, x_00, t_ckS, ez]
    · rw [if_neg q2] at eL
      have qp : qPok rule size = false := by unfold qPok; simp [q2]
      refine OK_e (M1 := aExn M) (code := 1) (v := 0) (X' := qXe (xx M) 1) h hp LV_exn ?_ (by decide) (fun N _ hN => ?_) XKp_Xe qXe_0
      · rw [eL]; exact L_exn rfl rfl
      · rw [(er N hN).1 qp]
  · rw [if_neg q1] at eL
    have qp : qPok rule size = false := by unfold qPok; simp [q1]
    refine OK_e (M1 := aExn M) (code := 1) (v := 0) (X' := qXe (xx M) 1) h hp LV_exn ?_ (by decide) (fun N _ hN => ?_) XKp_Xe qXe_0
    · rw [eL]; exact L_exn rfl rfl
    · rw [(er N hN).1 qp]
theorem o_holdsAfter (h : ST L xs M i) : OK L xs i M (fun M => f_L_holdsAfter 40 M 1 rule size requests key 200) (fun M => f_X11_holdsAfter 40 M 123 rule size requests key) := by
  obtain ⟨hk, -, -, -, -, -, kf, fs, W, n, p, c, e, hp, hpa, -, -, -, h4, -, -, hB, -⟩ := id h
  have hn : n ≤ 300 := hB.1
  have h0 : mI M 124 0 = nI n := hB.2.2.1
  have hl : mI M 7 3 = nI n := hB.2.1
  have er := fun N (hN : RA N 123) => r_holdsAfter (M := N) (o := 123) (H := mI M 124) (V := vv M 124) (X := xx M) (rule := rule) (size := size) (requests := requests) (key := key) 34 hN (RK_t hB) hn h0
  have eL : f_L_holdsAfter 40 M 1 rule size requests key 200 = _ := e_L_holdsAfter 39 M 1 rule size requests key 200
  rw [t_ck hk, e_X10_holdsAfter, z_key, bv_if] at eL
  by_cases q0 : qIn key 0 25 = true
  · rw [if_pos q0, z_study, bv_if] at eL
    by_cases q1 : qIn rule (-1) 2 = true
    · rw [if_pos q1, z_range, bv_if] at eL
      by_cases q2 : qIn size 1 26 = true
      · rw [if_pos q2, t_ck hk, t_p0 hk, x_rf, t_ckB hk, t_B1 hk, x_rf, t_ckR hk, hl, z_range, bv_if] at eL
        by_cases q3 : qIn requests 0 (nI n) = true
        · obtain ⟨s, hs1, hs2, rfl⟩ := qIn_sz q2
          obtain ⟨k, hk26, rfl⟩ := qIn_k q0
          obtain ⟨t, ht, rfl⟩ := qIn_g (m := n) (by omega) q3
          rw [if_pos q3] at eL
          have qp : qHAok n rule (nI s) (nI t) = true := by unfold qHAok qPok; rw [q1, q2, q3]; rfl
          obtain ⟨Z', ez1, ez⟩ := t_feed (rule := rule) (size := nI s) (t := t) 34 hk hB ht
          have hv : ∀ c0, (if rule = 0 then qHA kf k (nI s) t 0 else (qPlay kf n rule s t c0).2.2.1 k) = bt (sPlay rule (nI s) kf n t).1 k := by
            intro c0
            by_cases z : rule = 0
            · rw [if_pos z, z]
              exact held_0 hn (kf26 hB) (by omega) (by omega) ht hk26
            · rw [if_neg z]
              exact ((play_eq (rule_4 q1) hn (kf26 hB) (by omega) (by omega) ht c0).2.1 k hk26).symm
          have g : LV M (wL (gM M 111 5 Z') 200 0 (Int32.toInt64 (bI (bt (sPlay rule (nI s) kf n t).1 k)))) := LV_out LV_st
          obtain ⟨X', c0, x1, x2⟩ := (er _ (RA.rp (t_r (CSK_lv hk g)))).2.2 q0 qp
          rw [lt_iN (by omega), lt_iN (by omega), lt_iN (by omega), hv] at x2
          refine OKA (code := 0) (v := bI (bt (sPlay rule (nI s) kf n t).1 k)) (X' := X') h g hp ?_ x2 (XKp_X0.tr (XKp_q x1)) ((x1.2 0 (by decide) (by decide)).trans qX0_0) (fun _ => out_v)
          have hkZ : CSK L (gM M 111 5 Z') := hk
          have eh : mI (gM M 111 5 Z') 111 0 = (sPlay rule (nI s) kf n t).1 := by
            rw [gI0 (by omega)]; exact ez1.1
          refine eL.trans (L_bool ?_ hkZ)
          simp (maxSteps := 1000000) (disch := first | assumption | omega) only [x_rf, x_m, lt_bv_r, lt_bi_r, lt_bl_r, lt_br_r, t_ck, t_p0, t_p1, t_p4, t_p5, t_p6, t_p7, t_ckB, t_B0, t_B1, t_ckK, t_K0, t_K1, t_K2, t_ckR, t_R0, t_R1, t_R2, t_ckC, t_cache, t_at2, t_at3, t_at4, t_at6, t_at7, t_at8, t_has, t_units, t_owner, t_times, t_c17, t_c4, t_c16, t_ck6, t_c60, t_c61, t_c62, t_cat1, t_cat7, t_cat8, t_cat9, t_catW, c_pop, ↓reduceIte, Int32.reduceToInt, Int.reduceEq, lt_b1_0, lt_b1_1, x_10, x_01, x_11, x_00, t_ckS, ez]
          rw [eh]
          simp (maxSteps := 1000000) (disch := first | assumption | omega) only [x_rf, x_m, lt_bv_r, lt_bi_r, lt_bl_r, lt_br_r, t_ck, t_p0, t_p1, t_p4, t_p5, t_p6, t_p7, t_ckB, t_B0, t_B1, t_ckK, t_K0, t_K1, t_K2, t_ckR, t_R0, t_R1, t_R2, t_ckC, t_cache, t_at2, t_at3, t_at4, t_at6, t_at7, t_at8, t_has, t_units, t_owner, t_times, t_c17, t_c4, t_c16, t_ck6, t_c60, t_c61, t_c62, t_cat1, t_cat7, t_cat8, t_cat9, t_catW, c_pop, ↓reduceIte, Int32.reduceToInt, Int.reduceEq, lt_b1_0, lt_b1_1, x_10, x_01, x_11, x_00, hb1]
        · rw [if_neg q3] at eL
          have qp : qHAok n rule size requests = false := by unfold qHAok; simp [q3]
          refine OK_e (M1 := aExn M) (code := 2) (v := 0) (X' := qXe (xx M) 2) h hp LV_exn ?_ (by decide) (fun N _ hN => ?_) XKp_Xe qXe_0
          · rw [eL]; exact L_exn rfl rfl
          · rw [(er N hN).2.1 q0 qp]
      · rw [if_neg q2] at eL
        have qp : qHAok n rule size requests = false := by unfold qHAok qPok; simp [q2]
        refine OK_e (M1 := aExn M) (code := 2) (v := 0) (X' := qXe (xx M) 2) h hp LV_exn ?_ (by decide) (fun N _ hN => ?_) XKp_Xe qXe_0
        · rw [eL]; exact L_exn rfl rfl
        · rw [(er N hN).2.1 q0 qp]
    · rw [if_neg q1] at eL
      have qp : qHAok n rule size requests = false := by unfold qHAok qPok; simp [q1]
      refine OK_e (M1 := aExn M) (code := 2) (v := 0) (X' := qXe (xx M) 2) h hp LV_exn ?_ (by decide) (fun N _ hN => ?_) XKp_Xe qXe_0
      · rw [eL]; exact L_exn rfl rfl
      · rw [(er N hN).2.1 q0 qp]
  · rw [if_neg q0] at eL
    have q0' : qIn key 0 25 = false := by simpa using q0
    refine OK_e (M1 := aExn M) (code := 1) (v := 0) (X' := qXe (xx M) 1) h hp LV_exn ?_ (by decide) (fun N _ hN => ?_) XKp_Xe qXe_0
    · rw [eL]; exact L_exn rfl rfl
    · rw [(er N hN).1 q0']
theorem o_bestVictim (h : ST L xs M i) : OK L xs i M (fun M => f_L_bestVictim 40 M 1 size rq 200) (fun M => f_X11_bestVictim 40 M 123 size rq) := by
  obtain ⟨hk, -, -, -, -, -, kf, fs, W, n, p, c, e, hp, hpa, -, -, -, h4, -, -, hB, -⟩ := id h
  have hn : n ≤ 300 := hB.1
  have h0 : mI M 124 0 = nI n := hB.2.2.1
  have hl : mI M 7 3 = nI n := hB.2.1
  have er := fun N (hN : RA N 123) => r_bestVictim (M := N) (o := 123) (H := mI M 124) (V := vv M 124) (X := xx M) (size := size) (rq := rq) 34 hN (RK_t hB) hn h0
  have eL : f_L_bestVictim 40 M 1 size rq 200 = _ := e_L_bestVictim 39 M 1 size rq 200
  rw [t_ck hk, e_X10_bestVictim, t_ck hk, z_req _ hk hl hn, bv_if] at eL
  by_cases q1 : qIn rq 0 (nI n - 1) = true
  · rw [if_pos q1, z_range, bv_if] at eL
    by_cases q2 : qIn size 1 26 = true
    · obtain ⟨s, hs1, hs2, rfl⟩ := qIn_sz q2
      obtain ⟨r, hr, rfl⟩ := qIn_n hn q1
      rw [if_pos q2] at eL
      obtain ⟨Z', ez1, ez⟩ := t_feed (rule := -1) (size := nI s) (t := r + 1) 34 hk hB (by omega)
      have e1 : nI r + 1 = nI (r + 1) := lt_iA (j := r) (k := 1)
      rw [← e1] at ez
      have hv : ∀ c0, (qPlay kf n (-1) s (r + 1) c0).2.2.2.2 = (sPlay (-1) (nI s) kf n (r + 1)).2.1 := fun c0 => ((play_eq (rule := -1) (Or.inr (Or.inr (Or.inr rfl))) hn (kf26 hB) (by omega) (by omega) (by omega) c0).2.2.2.2.2.1).symm
      have g : LV M (wL (gM M 111 5 Z') 200 0 (Int32.toInt64 (oI (sPlay (-1) (nI s) kf n (r + 1)).2.1))) := LV_out LV_st
      obtain ⟨X', c0, x1, x2⟩ := (er _ (RA.rp (t_r (CSK_lv hk g)))).2.2 q1 q2
      rw [lt_iN (by omega), lt_iN (by omega), hv] at x2
      refine OKA (code := 0) (v := oI (sPlay (-1) (nI s) kf n (r + 1)).2.1) (X' := X') h g hp ?_ x2 (XKp_X0.tr (XKp_q x1)) ((x1.2 0 (by decide) (by decide)).trans qX0_0) (fun _ => out_v)
      have hkZ : CSK L (gM M 111 5 Z') := hk
      have eh : mI (gM M 111 5 Z') 111 1 = oI (sPlay (-1) (nI s) kf n (r + 1)).2.1 := by
        rw [gI0 (by omega)]; exact ez1.2.1
      refine eL.trans (L_val ?_ hkZ)
      simp (maxSteps := 1000000) (disch := first | assumption | omega) only [x_rf, x_m, lt_bv_r, lt_bi_r, lt_bl_r, lt_br_r, t_ck, t_p0, t_p1, t_p4, t_p5, t_p6, t_p7, t_ckB, t_B0, t_B1, t_ckK, t_K0, t_K1, t_K2, t_ckR, t_R0, t_R1, t_R2, t_ckC, t_cache, t_at2, t_at3, t_at4, t_at6, t_at7, t_at8, t_has, t_units, t_owner, t_times, t_c17, t_c4, t_c16, t_ck6, t_c60, t_c61, t_c62, t_cat1, t_cat7, t_cat8, t_cat9, t_catW, c_pop, ↓reduceIte, Int32.reduceToInt, Int.reduceEq, lt_b1_0, lt_b1_1, x_10, x_01, x_11, x_00, t_ckS, ez]
      rw [eh]
    · rw [if_neg q2] at eL
      have q2' : qIn size 1 26 = false := by simpa using q2
      refine OK_e (M1 := aExn M) (code := 2) (v := 0) (X' := u2 (qX0 (xx M)) 0 0 2) h hp LV_exn ?_ (by decide) (fun N _ hN => ?_) (XKp_X0.tr (XKp_0 (by decide))) u2_eq
      · rw [eL]; exact L_exn rfl rfl
      · rw [(er N hN).2.1 q1 q2']
  · rw [if_neg q1] at eL
    have q1' : qIn rq 0 (nI n - 1) = false := by simpa using q1
    refine OK_e (M1 := aExn M) (code := 1) (v := 0) (X' := qXe (xx M) 1) h hp LV_exn ?_ (by decide) (fun N _ hN => ?_) XKp_Xe qXe_0
    · rw [eL]; exact L_exn rfl rfl
    · rw [(er N hN).1 q1']
theorem o_slack (h : ST L xs M i) : OK L xs i M (fun M => f_L_slack 40 M 1 size other 200) (fun M => f_X11_slack 40 M 123 size other) := by
  obtain ⟨hk, -, -, -, -, -, kf, fs, W, n, p, c, e, hp, hpa, -, -, -, h4, -, -, hB, -⟩ := id h
  have hn : n ≤ 300 := hB.1
  have h0 : mI M 124 0 = nI n := hB.2.2.1
  have hl : mI M 7 3 = nI n := hB.2.1
  have er := fun N (hN : RA N 123) => r_slack (M := N) (o := 123) (H := mI M 124) (V := vv M 124) (X := xx M) (size := size) (other := other) 33 hN (RK_t hB) hn h0
  have eL : f_L_slack 40 M 1 size other 200 = _ := e_L_slack 39 M 1 size other 200
  rw [t_ck hk, e_X10_slack, z_range, bv_if] at eL
  by_cases q1 : qIn size 1 26 = true
  · rw [if_pos q1, z_range, bv_if] at eL
    by_cases q2 : qIn other 1 size = true
    · rw [if_pos q2] at eL
      have qp : qSlok size other = true := by unfold qSlok; rw [q1, q2]; rfl
      obtain ⟨s, hs1, hs2, rfl⟩ := qIn_sz q1
      obtain ⟨ot, ho1, ho2, -, rfl⟩ := qIn_s (lo := 1) (hi := nI s) (by omega) (by omega) (by rw [lt_iT (by omega)]; omega) q2
      obtain ⟨Z', ez⟩ := t_hitsBy (rule := 0) (size := nI s) 33 hk hB
      have hkZ : CSK L (gM M 111 5 Z') := hk
      have hBZ : RB kf fs W n (tB (gM M 111 5 Z') 2) (mI (gM M 111 5 Z') 124) (vv (gM M 111 5 Z') 124) := by
        have e1 : mI (gM M 111 5 Z') 124 = mI M 124 := gIo (by omega)
        rw [e1, vv_cg e1]
        exact RB_cg hB (tB_o fun a a1 a2 => ⟨gIo (by omega), gLo (by omega)⟩) vv_rw
      obtain ⟨Z2, ez2⟩ := t_hitsBy (rule := -1) (size := nI ot) 33 hkZ hBZ
      rw [hits_eq (Or.inr (Or.inr (Or.inl rfl))) hn (kf26 hB) (by omega) (by omega)] at ez
      rw [hits_eq (Or.inr (Or.inr (Or.inr rfl))) hn (kf26 hB) (by omega) (by omega)] at ez2
      have hkZ2 : CSK L (gM (gM M 111 5 Z') 111 5 Z2) := hk
      have hl2 : mI (gM M 111 5 Z') 7 3 = nI n := by rw [gIo (o := 7) (by omega)]; exact hl
      have g : LV M (wL (gM (gM M 111 5 Z') 111 5 Z2) 200 0 (Int32.toInt64 (((nI s * (nI n - qHt kf n (-1) ot)) + ((nI s - nI ot + 1) * nI ot)) - ((nI s - nI ot + 1) * (nI n - qHt kf n 0 s))))) := LV_out (LV.tr' LV_st LV_st ⟨rfl, rfl⟩)
      obtain ⟨X', c1, c2, x1, x2⟩ := (er _ (RA.rp (t_r (CSK_lv hk g)))).2 qp
      rw [lt_iN (by omega), lt_iN (by omega), qHt_c, qHt_c] at x2
      refine OKA (code := 0) (X' := X') h g hp ?_ x2 (XKp_X0.tr (XKp_q x1)) ((x1.2 0 (by decide) (by decide)).trans qX0_0) (fun _ => out_v)
      refine eL.trans (L_val ?_ hkZ2)
      simp (maxSteps := 1000000) (disch := first | assumption | omega) only [x_rf, x_m, lt_bv_r, lt_bi_r, lt_bl_r, lt_br_r, t_ck, t_p0, t_p1, t_p4, t_p5, t_p6, t_p7, t_ckB, t_B0, t_B1, t_ckK, t_K0, t_K1, t_K2, t_ckR, t_R0, t_R1, t_R2, t_ckC, t_cache, t_at2, t_at3, t_at4, t_at6, t_at7, t_at8, t_has, t_units, t_owner, t_times, t_c17, t_c4, t_c16, t_ck6, t_c60, t_c61, t_c62, t_cat1, t_cat7, t_cat8, t_cat9, t_catW, c_pop, ↓reduceIte, Int32.reduceToInt, Int.reduceEq, lt_b1_0, lt_b1_1, x_10, x_01, x_11, x_00, t_ckS, ez, ez2, hl, hl2]
    · rw [if_neg q2] at eL
      have qp : qSlok size other = false := by unfold qSlok; simp [q2]
      refine OK_e (M1 := aExn M) (code := 1) (v := 0) (X' := qXe (xx M) 1) h hp LV_exn ?_ (by decide) (fun N _ hN => ?_) XKp_Xe qXe_0
      · rw [eL]; exact L_exn rfl rfl
      · rw [(er N hN).1 qp]
  · rw [if_neg q1] at eL
    have qp : qSlok size other = false := by unfold qSlok; simp [q1]
    refine OK_e (M1 := aExn M) (code := 1) (v := 0) (X' := qXe (xx M) 1) h hp LV_exn ?_ (by decide) (fun N _ hN => ?_) XKp_Xe qXe_0
    · rw [eL]; exact L_exn rfl rfl
    · rw [(er N hN).1 qp]
theorem o_errors (h : ST L xs M i) : OKd L xs i M (fun M => f_X10_errors 40 M 1) (fun M => f_X11_errors 40 M 123) := by
  obtain ⟨hk, -, -, -, -, -, kf, fs, W, n, p, c, e, hp, hpa, -, -, -, h4, -, -, hB, -⟩ := id h
  have hn : n ≤ 300 := hB.1
  have h0 : mI M 124 0 = nI n := hB.2.2.1
  have hl : mI M 7 3 = nI n := hB.2.1
  obtain ⟨Z', ez⟩ := st_brokenSizes (M := M) (U := 111) (R := 7) (Z := tG M 111) (kf := kf) 33 (t_s hk) (t_RW hk) (by omega) (RKm_t hB) hn hl
  rw [gM_id, errors_eq hn (kf26 hB)] at ez
  have g : LV M (gM M 111 5 Z') := LV_st
  obtain ⟨X', x1, x2⟩ := r_errors (M := rP (gM M 111 5 Z') 123 (gP 123 p)) (o := 123) (H := mI M 124) (V := vv M 124) (X := xx M) (kf := kf) (n := n) 32 (RA.rp (t_r (CSK_lv hk g))) (RK_t hB) hn h0
  have x2' : f_X11_errors 40 (rN (gM M 111 5 Z') p (mI M 124) (vv M 124) (xx M)) 123 = some (.inl (some (.int (qErrs kf n 12 0))), rN (gM M 111 5 Z') p (mI M 124) (vv M 124) X') := x2
  rw [rN_of g hp] at x2'
  refine ⟨qErrs kf n 12 0, gM M 111 5 Z', _, ?_, x2', (g.1 0 (by omega)).trans h.2.2.1, CSK_lv hk g, ST_A h g hp (XKp_X0.tr (XKp_q x1))⟩
  show f_X10_errors 40 M 1 = _
  have ez' : f_X7_brokenSizes 39 M 111 7 = _ := ez
  rw [e_X10_errors]
  simp (maxSteps := 1000000) (disch := first | assumption | omega) only [x_rf, x_m, lt_bv_r, lt_bi_r, lt_bl_r, lt_br_r, t_ck, t_p0, t_p1, t_p4, t_p5, t_p6, t_p7, t_ckB, t_B0, t_B1, t_ckK, t_K0, t_K1, t_K2, t_ckR, t_R0, t_R1, t_R2, t_ckC, t_cache, t_at2, t_at3, t_at4, t_at6, t_at7, t_at8, t_has, t_units, t_owner, t_times, t_c17, t_c4, t_c16, t_ck6, t_c60, t_c61, t_c62, t_cat1, t_cat7, t_cat8, t_cat9, t_catW, c_pop, ↓reduceIte, Int32.reduceToInt, Int.reduceEq, lt_b1_0, lt_b1_1, x_10, x_01, x_11, x_00, t_ckS, ez']
theorem o_now (h : ST L xs M i) : OKd L xs i M (fun M => f_X10_now 40 M 1) (fun M => f_X11_now 40 M 123) := by
  obtain ⟨hk, -, -, -, -, -, kf, fs, W, n, p, c, e, hp, hpa, -, -, -, h4, -, -, hB, -⟩ := id h
  have hn : n ≤ 300 := hB.1
  have h0 : mI M 124 0 = nI n := hB.2.2.1
  have hl : mI M 7 3 = nI n := hB.2.1
  refine OKdA (v := mI M 124 1) (X' := qX0 (xx M)) h LV.rfl' hp ?_ (fun N hN => r_now 39 hN) XKp_X0
  show f_X10_now 40 M 1 = _
  rw [e_X10_now]
  simp (maxSteps := 1000000) (disch := first | assumption | omega) only [x_rf, x_m, lt_bv_r, lt_bi_r, lt_bl_r, lt_br_r, t_ck, t_p0, t_p1, t_p4, t_p5, t_p6, t_p7, t_ckB, t_B0, t_B1, t_ckK, t_K0, t_K1, t_K2, t_ckR, t_R0, t_R1, t_R2, t_ckC, t_cache, t_at2, t_at3, t_at4, t_at6, t_at7, t_at8, t_has, t_units, t_owner, t_times, t_c17, t_c4, t_c16, t_ck6, t_c60, t_c61, t_c62, t_cat1, t_cat7, t_cat8, t_cat9, t_catW, c_pop, ↓reduceIte, Int32.reduceToInt, Int.reduceEq, lt_b1_0, lt_b1_1, x_10, x_01, x_11, x_00]
  have : mI M 2 4 = mI M 124 1 := hB.2.2.2.1
  rw [this]
theorem o_rowLength (h : ST L xs M i) : OKd L xs i M (fun M => f_X10_rowLength 40 M 1) (fun M => f_X11_rowLength 40 M 123) := by
  obtain ⟨hk, -, -, -, -, -, kf, fs, W, n, p, c, e, hp, hpa, -, -, -, h4, -, -, hB, -⟩ := id h
  have hn : n ≤ 300 := hB.1
  have h0 : mI M 124 0 = nI n := hB.2.2.1
  have hl : mI M 7 3 = nI n := hB.2.1
  refine OKdA (v := mI M 124 0) (X' := qX0 (xx M)) h LV.rfl' hp ?_ (fun N hN => r_rowLength 39 hN) XKp_X0
  show f_X10_rowLength 40 M 1 = _
  rw [e_X10_rowLength]
  simp (maxSteps := 1000000) (disch := first | assumption | omega) only [x_rf, x_m, lt_bv_r, lt_bi_r, lt_bl_r, lt_br_r, t_ck, t_p0, t_p1, t_p4, t_p5, t_p6, t_p7, t_ckB, t_B0, t_B1, t_ckK, t_K0, t_K1, t_K2, t_ckR, t_R0, t_R1, t_R2, t_ckC, t_cache, t_at2, t_at3, t_at4, t_at6, t_at7, t_at8, t_has, t_units, t_owner, t_times, t_c17, t_c4, t_c16, t_ck6, t_c60, t_c61, t_c62, t_cat1, t_cat7, t_cat8, t_cat9, t_catW, c_pop, ↓reduceIte, Int32.reduceToInt, Int.reduceEq, lt_b1_0, lt_b1_1, x_10, x_01, x_11, x_00, hl, h0]
theorem o_shameAt (h : ST L xs M i) : OK L xs i M (fun M => f_L_shameAt 40 M 1 place 200) (fun M => f_X11_shameAt 40 M 123 place) := by
  obtain ⟨hk, -, -, -, -, ⟨l, hF⟩, kf, fs, W, n, p, c, e, hp, -⟩ := id h
  have hSX : SX (xx M) l := by
    cases l with
    | none => exact hF.1
    | some l => exact ⟨hF.1, hF.2.1, fun i hi => (hF.2.2.2 i hi).1⟩
  have er := fun N (hN : RA N 123) => r_shameAt (M := N) (o := 123) (H := mI M 124) (V := vv M 124) (X := xx M) (place := place) (l := l) 38 hN hSX
  have eL : f_L_shameAt 40 M 1 place 200 = _ := e_L_shameAt 39 M 1 place 200
  have kh : ∀ {z : Option (LO × LM)}, lt_ck M 116 22 z = z := fun {z} => lt_ck_t (t_h hk).1
  rw [t_ck hk, e_X10_shameAt] at eL
  have exn : f_L_shameAt 40 M 1 place 200 = lt_bi (some (.inr 3, aExn M)) lt_h302 (fun v2 M1 => lt_ar M1 200 2 0 (lt_m (wL M1 200 (lt_n 0) (Int32.toInt64 v2)) fun M3 => some (.inl (some (.int 0)), M3))) → ¬ qIn place 0 (nI (l.getD []).length - 1) = true → OK L xs i M (fun M => f_L_shameAt 40 M 1 place 200) (fun M => f_X11_shameAt 40 M 123 place) := by
    intro eL q
    refine OK_e (M1 := aExn M) (code := 1) (v := 0) (X' := qXe (xx M) 1) h hp LV_exn ?_ (by decide) (fun N _ hN => ?_) XKp_Xe qXe_0
    · rw [eL]; exact L_exn rfl rfl
    · rw [er N hN, if_neg q]
  by_cases q1 : place < 0
  · rw [if_pos q1] at eL
    exact exn eL (fun z => (qIn_i.mp z).1 q1)
  · rw [if_neg q1, t_ck hk, t_p7 hk, x_rf, kh] at eL
    have p0 : 0 ≤ place.toInt := by
      rw [Int32.lt_iff_toInt_lt, show (0 : Int32).toInt = 0 from rfl] at q1
      omega
    cases l with
    | none =>
      have hneg : ¬ place < mI M 116 1 := by
        rw [hF.2, Int32.lt_iff_toInt_lt, show (-1 : Int32).toInt = -1 from rfl]
        omega
      rw [if_neg hneg] at eL
      refine exn eL (fun z => (qIn_i.mp z).2 ?_)
      show nI 0 - 1 < place
      rw [Int32.lt_iff_toInt_lt, nI_m (by omega)]
      omega
    | some l =>
      obtain ⟨f1, f2, f3, f4⟩ := hF
      have hlt : (place < mI M 116 1) ↔ place.toInt < (l.length : Int) := by
        rw [f3, Int32.lt_iff_toInt_lt, lt_iT (by omega)]
      by_cases q2 : place < mI M 116 1
      · have q2' := hlt.mp q2
        have ep : place = nI place.toInt.toNat := Int32.toInt.inj (by rw [lt_iT (by omega)]; omega)
        have hpl : place.toInt.toNat < l.length := by omega
        generalize place.toInt.toNat = pl at ep hpl
        subst ep
        have qi : qIn (nI pl) 0 (nI ((some l).getD []).length - 1) = true := by
          rw [qIn_i]
          refine ⟨lt_neg (by omega), ?_⟩
          show ¬ nI l.length - 1 < nI pl
          rw [Int32.lt_iff_toInt_lt, nI_m (by omega), lt_iT (by omega)]
          omega
        rw [if_pos q2] at eL
        refine OK_v (M1 := M) (v := nI (l.getD pl 0)) (X' := qX0 (xx M)) h hp LV.rfl' ?_ (fun N _ hN => ?_) XKp_X0 qX0_0
        · rw [eL]
          refine L_val ?_ hk
          have a1 : f_X10_at 38 M 117 (nI pl) = _ := s10_at (M := M) (o := 117) 37 (h_a1 (t_h hk)) (k := pl) (by omega)
          have a2 : mP M 116 0 = some 117 := h_p0 (Z := tG M 116) (t_h hk)
          rw [t_ck hk, x_rf, kh, a2, x_rf, a1, lt_bi_r, (f4 pl hpl).2]
        · rw [er N hN, if_pos qi, lt_iN (by omega)]
          rfl
      · rw [if_neg q2] at eL
        refine exn eL (fun z => (qIn_i.mp z).2 ?_)
        show nI l.length - 1 < place
        rw [Int32.lt_iff_toInt_lt, nI_m (by omega)]
        have h9 : ¬ place.toInt < (l.length : Int) := fun z => q2 (hlt.mpr z)
        omega
end Ui
