/-! CALLS: the cursor, the text, the search for rows that shame -/
/-- live cells, but for cursor, text, the row that was found -/
def LB (M M' : LM) : Prop := (∀ a, a ≤ 102 ∨ 123 ≤ a → mI M' a = mI M a) ∧ (∀ a, a ≤ 102 ∨ 202 ≤ a → mL M' a = mL M a) ∧ mP M' = mP M ∧ mK M' = mK M ∧ mZ M' = mZ M ∧ mN M' = mN M ∧ mC M' ≤ mC M + 2 ∧ mS M' ≤ mS M + 12
section Uj
variable {M M' M1 N : LM} {L B D P U i j k t w f n c e r a o m ch len : Nat} {x y v b1 b2 code cache key what rule its greater keys most : Int32} {z : Option (LO × LM)} {b : Bool} {T : BT} {kf fs W p : Nat → Nat} {xs H H' : Nat → Int32} {V V' X X' : Nat → Nat → Int32} {l : Option (List Nat)} {y64 : Int64} {fL fX fC : LM → Option (LO × LM)} {hl : List (Nat × Int32)} {S Z Z' : CS}
theorem wI_rd : mI (wI M a k v) a k = v := by
  show (if a = a ∧ k = k then v else mI M a k) = v
  exact if_pos ⟨rfl, rfl⟩
theorem LB_out (h : LB M M') : LB M (wL M' 200 0 y64) := ⟨h.1, fun a ha => (mL_wL_ne (by omega)).trans (h.2.1 a ha), h.2.2⟩
theorem CSK_lb (h : CSK L M) (g : LB M M') : CSK L M' := CSK_cg h g.2.2.1 g.2.2.2.1 g.2.2.2.2.1 g.2.2.2.2.2.1
theorem rN_lb (g : LB M M1) (hp : ∀ j, mP M 125 j = gP 123 p j) : rN M1 p (mI M 124) (vv M 124) (xx M) = M1 := by
  have := rN_id (M := M1) (p := p) (fun j => by rw [g.2.2.1]; exact hp j)
  rw [g.1 124 (by omega), vv_cg (g.1 124 (by omega))] at this
  rw [show xx M = fun t j => mI M1 (123 + t) j from funext fun t => (g.1 (123 + t) (by omega)).symm]
  exact this
theorem ST_B (h : ST L xs M i) (g : LB M M') (hp : ∀ j, mP M 125 j = gP 123 p j) (hX : (∀ t, 3 ≤ t → t ≤ 8 → X' t = xx M t) ∧ X' 0 3 = xx M 0 3 ∧ X' 0 4 = xx M 0 4) (hCU : CU (rN M' p (mI M 124) (vv M 124) X')) (hTX : TX (rN M' p (mI M 124) (vv M 124) X')) (hFO : ∃ l, FO (rN M' p (mI M 124) (vv M 124) X') l) : ST L xs (rN M' p (mI M 124) (vv M 124) X') (i + 1) := by
  obtain ⟨h1, h2, h3, h4, h5, ⟨l, h6⟩, kf, fs, W, n, p', c, e, d1, d2, d3, d4, d5, d6, d7, d8, d9, d10, d11⟩ := h
  have hk := CSK_lb h1 g
  obtain ⟨g1, g4, g5, g6, g7, g8, g9, g10⟩ := g
  have ep : mP (rN M' p (mI M 124) (vv M 124) X') 102 = mP M 102 := (rN_P (by omega)).trans (by rw [g5])
  have eI : ∀ a, a ≤ 102 ∨ 200 ≤ a → mI (rN M' p (mI M 124) (vv M 124) X') a = mI M a := fun a ha => (rN_I (by omega)).trans (g1 a (by omega))
  have eT : ∀ t, 3 ≤ t → t ≤ 8 → mI (rN M' p (mI M 124) (vv M 124) X') (123 + t) = mI M (123 + t) := fun t h1 h2 => (rN_X (by omega) (by omega)).trans (hX.1 t h1 h2)
  have epp : ∀ j, j < 6 → p' j = p j := fun j hj => by
    have q := (d1 j).symm.trans (hp j)
    rw [gP_lt hj, gP_lt hj] at q
    have := Option.some.inj q
    omega
  refine ⟨CSK_rN hk, ⟨?_, ?_⟩, (eI 0 (by omega)).trans h3, hCU, hTX, hFO, kf, fs, W, n, p, c, e, fun j => rN_P5, ?_, d3, d4, (congrFun rN_X0 3).trans (hX.2.1.trans d5), (congrFun rN_X0 4).trans (hX.2.2.trans d6), (congrFun (eI 1 (by omega)) 2).trans d7, (congrFun (eI 1 (by omega)) 3).trans d8, ?_, ?_, CT_cg d11 rN_HV⟩
  · rw [ep, rN_C]; have := h2.1; omega
  · rw [ep, rN_S]; have := h2.2; omega
  · exact ⟨fun j hj => by rw [← epp j hj]; exact d2.1 j hj, fun i j hi hj => by rw [← epp i hi, ← epp j hj]; exact d2.2 i j hi hj⟩
  · refine RB_cg d9 (tB_o fun a a1 a2 => ⟨eI a (by omega), ?_⟩) rN_HV
    rw [rN_L]; exact g4 a (by omega)
  · intro i hi
    obtain ⟨P, q1, kf, fs, W, n, q2, q3⟩ := d10 i hi
    have hP := (t_pa h1 slt_lt q1).2.1
    have hpi : p i < 6 := by rw [← epp i (by omega)]; exact d2.1 i (by omega)
    have e3 := eT (3 + p i) (by omega) (by omega)
    rw [show 123 + (3 + p i) = 126 + p i by omega] at e3
    have e4 : vv (rN M' p (mI M 124) (vv M 124) X') (126 + p i) = vv M (126 + p i) := vv_cg e3
    refine ⟨P, by rw [ep]; exact q1, kf, fs, W, n, ?_⟩
    rw [e3, e4]
    rw [epp i (by omega)] at q2 q3
    refine ⟨RB_cg q2 (tB_o fun a a1 _ => ⟨eI a (by omega), ?_⟩) vv_rw, q3⟩
    rw [rN_L]; exact g4 a (by omega)
/-! ### the text -/
theorem LV_tx (h1 : Z'.1 1 = (tG M 105).1 1) (h2 : ∀ j, j ≠ 2 → Z'.1 0 j = (tG M 105).1 0 j) : LV M (gM M 105 6 Z') := ⟨fun a ha => by
  by_cases z : a = 106
  · rw [z]
    exact (gI (M := M) (U := 105) (n := 6) (Z := Z') (t := 1) (by omega)).trans h1
  · exact gIo (by omega), by rw [gI0 (by omega), h2 1 (by omega)]; rfl, congrFun (gIo (o := 116) (by omega)) 1, fun a ha => gLo (by omega), rfl, rfl, rfl, rfl, Nat.le_add_right _ _, Nat.le_add_right _ _⟩
/-- the text read by the class -/
theorem t_find (d : Nat) (h : CSK L M) (hl : len ≤ 200) (h1 : mI M 105 1 = nI len) : ∃ Z', f_X9_findError (d + 4) M 105 = some (.inl (some (.int (oI (txE (mI M 106) len)))), gM M 105 6 Z') ∧ LV M (gM M 105 6 Z') ∧ (txE (mI M 106) len = none → Z'.1 0 2 = nI (txL (mI M 106) len).length ∧ ∀ j r, (txL (mI M 106) len)[j]? = some r → j < 300 → Z'.1 2 j = nI r.1 ∧ Z'.1 3 j = bI r.2) := by
  obtain ⟨Z', e, a1, a2, a3, a4, a5⟩ := y_findError (M := M) (U := 105) (len := len) (Z := tG M 105) d (t_t h) hl h1
  rw [gM_id] at e
  obtain ⟨y, y1, y2, y3⟩ := text_class (T := (tG M 105).1 1) (len := len) hl
  have eT : (tG M 105).1 1 = mI M 106 := rfl
  rw [y1] at e a1 a2 a3
  rw [y2] at e
  refine ⟨Z', e, LV_tx a4 a5, fun hn => ?_⟩
  obtain ⟨b1, b2⟩ := y3 hn
  refine ⟨by rw [a1, b1]; rfl, fun j r hr hj => ?_⟩
  obtain ⟨c1, c2⟩ := b2 j r hr
  have hlt := gi_lt hr
  have := a3 j (by rw [b1]; exact hlt) hj
  rw [c1, c2] at this
  exact this
theorem o_errorPlace (h : ST L xs M i) : OKd L xs i M (fun M => f_X10_errorPlace 40 M 1) (fun M => f_X11_errorPlace 40 M 123) := by
  obtain ⟨hk, -, -, -, ⟨len, x1, x2, x3, x4⟩, -, kf, fs, W, n, p, c, e, hp, -⟩ := id h
  obtain ⟨Z', ez, g, -⟩ := t_find 35 hk x1 x2
  obtain ⟨many, a, q, -⟩ := text_ref (T := xx M 16) (len := len) x1
  have er := r_errorPlace (M := rP (gM M 105 6 Z') 123 (gP 123 p)) (o := 123) (H := mI M 124) (V := vv M 124) (X := xx M) 23 (RA.rp (t_r (CSK_lv hk g))) x1 x3 q
  have er' : f_X11_errorPlace 40 (rN (gM M 105 6 Z') p (mI M 124) (vv M 124) (xx M)) 123 = some (.inl (some (.int (oI (txE (xx M 16) len)))), rN (gM M 105 6 Z') p (mI M 124) (vv M 124) (pX (qX0 (xx M)) (nI a) (oI (txE (xx M 16) len)))) := er
  rw [rN_of g hp] at er'
  refine ⟨_, gM M 105 6 Z', _, ?_, er', (g.1 0 (by omega)).trans h.2.2.1, CSK_lv hk g, ST_A h g hp (XKp_X0.tr ((XKp_0 (by decide)).tr (XKp_0 (by decide))))⟩
  show f_X10_errorPlace 40 M 1 = _
  have kt : ∀ {z : Option (LO × LM)}, lt_ck M 105 25 z = z := fun {z} => lt_ck_t (t_t hk).1
  have ez' : f_X9_findError 39 M 105 = _ := ez
  rw [e_X10_errorPlace, t_ck hk, t_p5 hk, x_rf, kt, ez', lt_bi_r, show xx M 16 = mI M 106 from x4]
theorem o_clearText (h : ST L xs M i) : OKd L xs i M (fun M => f_X10_clearText 40 M 1) (fun M => f_X11_clearText 40 M 123) := by
  obtain ⟨hk, -, -, h4, ⟨len, x1, x2, x3, x4⟩, ⟨l, h6⟩, kf, fs, W, n, p, c, e, hp, -⟩ := id h
  have g : LB M (wI M 105 1 0) := ⟨fun a ha => mI_wI_ne (by omega), fun a ha => rfl, rfl, rfl, rfl, rfl, Nat.le_add_right _ _, Nat.le_add_right _ _⟩
  have er := r_clearText (M := rP (wI M 105 1 0) 123 (gP 123 p)) (o := 123) (H := mI M 124) (V := vv M 124) (X := xx M) 39 (RA.rp (t_r (CSK_lb hk g)))
  have er' : f_X11_clearText 40 (rN (wI M 105 1 0) p (mI M 124) (vv M 124) (xx M)) 123 = some (.inl (some (.int (mI M 123 20))), rN (wI M 105 1 0) p (mI M 124) (vv M 124) (u2 (qX0 (xx M)) 0 20 0)) := er
  rw [rN_lb g hp] at er'
  have u : ∀ t, t ≠ 0 → u2 (qX0 (xx M)) 0 20 0 t = xx M t := fun t ht => (u2_n1 ht).trans (u2_n1 ht)
  have u0 : ∀ j, j ≠ 0 → j ≠ 20 → u2 (qX0 (xx M)) 0 20 0 0 j = xx M 0 j := fun j a b => (u2_n2 b).trans (u2_n2 a)
  have eX : ∀ t, t ≠ 0 → t ≠ 1 → t < 77 → mI (rN (wI M 105 1 0) p (mI M 124) (vv M 124) (u2 (qX0 (xx M)) 0 20 0)) (123 + t) = mI M (123 + t) := fun t a b c => (rN_X b c).trans (u t a)
  have e0 : ∀ j, j ≠ 0 → j ≠ 20 → mI (rN (wI M 105 1 0) p (mI M 124) (vv M 124) (u2 (qX0 (xx M)) 0 20 0)) 123 j = mI M 123 j := fun j a b => (congrFun rN_X0 j).trans (u0 j a b)
  have eI : ∀ a, a ≠ 105 → a < 123 → mI (rN (wI M 105 1 0) p (mI M 124) (vv M 124) (u2 (qX0 (xx M)) 0 20 0)) a = mI M a := fun a h1 h2 => (rN_I (by omega)).trans (mI_wI_ne h1)
  refine ⟨mI M 123 20, wI M 105 1 0, _, ?_, er', (g.1 0 (by omega)).trans h.2.2.1, CSK_lb hk g, ST_B h g hp ⟨fun t a b => u t (by omega), u0 3 (by omega) (by omega), u0 4 (by omega) (by omega)⟩ (CU_fr h4 (eI 103 (by omega) (by omega)) (eI 104 (by omega) (by omega)) (fun j a b => e0 j (by omega) (by omega)) (eX 15 (by omega) (by omega) (by omega))) ⟨0, Nat.zero_le _, ?_, ?_, ?_⟩ ⟨l, FO_fr h6 (congrFun (eI 116 (by omega) (by omega)) 1) (eI 117 (by omega) (by omega)) (e0 24 (by omega) (by omega)) (eX 17 (by omega) (by omega) (by omega))⟩⟩
  · show f_X10_clearText 40 M 1 = _
    have kt : ∀ {z : Option (LO × LM)}, lt_ck M 105 25 z = z := fun {z} => lt_ck_t (t_t hk).1
    rw [e_X10_clearText, t_ck hk, t_p5 hk, x_rf, kt, t_ck hk, x_rf, kt, x_m, x2, x3]
  · exact (congrFun (rN_I (by omega)) 1).trans wI_rd
  · exact (congrFun rN_X0 20).trans u2_eq
  · rw [eI 106 (by omega) (by omega)]
    exact (eX 16 (by omega) (by omega) (by omega)).trans x4
theorem o_type (h : ST L xs M i) : OK L xs i M (fun M => f_L_type 40 M 1 x 200) (fun M => f_X11_type 40 M 123 x) := by
  obtain ⟨hk, -, -, h4, ⟨len, x1, x2, x3, x4⟩, ⟨l, h6⟩, kf, fs, W, n, p, c, e, hp, -⟩ := id h
  have er := fun N (hN : RA N 123) => r_type (M := N) (o := 123) (H := mI M 124) (V := vv M 124) (X := xx M) (x := x) 38 hN x3 x1
  have eL : f_L_type 40 M 1 x 200 = _ := e_L_type 39 M 1 x 200
  have kt : ∀ {z : Option (LO × LM)}, lt_ck M 105 25 z = z := fun {z} => lt_ck_t (t_t hk).1
  rw [t_ck hk, e_X10_type, z_range, bv_if] at eL
  by_cases q1 : qIn x 0 255 = true
  · rw [if_pos q1, t_ck hk, t_p5 hk, x_rf, kt, x2] at eL
    have e200 : (nI len < (200 : Int32)) ↔ len < 200 := lt_iL (j := len) (k := 200) (by omega) (by omega)
    by_cases q2 : len < 200
    · rw [if_pos (e200.mpr q2)] at eL
      let M1 := wI (wI M 106 len x) 105 1 (nI (len + 1))
      have g : LB M (wL M1 200 0 (Int32.toInt64 (nI (len + 1)))) := LB_out ⟨fun a ha => (mI_wI_ne (by omega)).trans (mI_wI_ne (by omega)), fun a ha => rfl, rfl, rfl, rfl, rfl, Nat.le_add_right _ _, Nat.le_add_right _ _⟩
      have hk1 : CSK L M1 := hk
      have c0 : f_X10_type 39 M 1 x = some (.inl (some (.int (nI (len + 1)))), M1) := by
        have e1 : nI len + 1 = nI (len + 1) := lt_iA (j := len) (k := 1)
        have p0 : mP M 105 0 = some 106 := (t_t hk).2.1
        have pu : f_X10_put 38 M 106 (nI len) x = _ := s10_put (M := M) (o := 106) 37 (t_t hk).2.2.2.2.2.2.1 q2
        let M6 := wI M 106 len x
        have h6' : CSK L M6 := hk
        have k6 : ∀ {z : Option (LO × LM)}, lt_ck M6 105 25 z = z := fun {z} => lt_ck_t (M := M6) (t_t hk).1
        have k1 : ∀ {z : Option (LO × LM)}, lt_ck M1 105 25 z = z := fun {z} => lt_ck_t (M := M1) (t_t hk).1
        have v6 : mI M6 105 1 = nI len := x2
        rw [e_X10_type, z_range, bv_if, if_pos q1, t_ck hk, t_p5 hk, x_rf, kt, x2, if_pos (e200.mpr q2), t_ck hk, x_rf, kt, p0, x_rf, t_ck hk, x_rf, kt, x2, pu, lt_bv_r]
        show (lt_ck M6 1 26 (lt_rf (mP M6 1 5) fun q7 => lt_ck M6 q7 25 (lt_ck M6 q7 25 (lt_m (wI M6 q7 1 ((mI M6 q7 1) + 1)) fun M8 => lt_ck M8 1 26 (lt_rf (mP M8 1 5) fun q9 => lt_ck M8 q9 25 (some (.inl (some (.int (mI M8 q9 1))), M8)))))) : Option (LO × LM)) = _
        rw [t_ck h6', t_p5 h6', x_rf, k6, k6, x_m, v6, e1]
        show (lt_ck M1 1 26 (lt_rf (mP M1 1 5) fun q9 => lt_ck M1 q9 25 (some (.inl (some (.int (mI M1 q9 1))), M1))) : Option (LO × LM)) = _
        rw [t_ck hk1, t_p5 hk1, x_rf, k1]
        rfl
      have hL : f_L_type 40 M 1 x 200 = some (.inl (some (.int 0)), wL M1 200 0 (Int32.toInt64 (nI (len + 1)))) := by
        rw [e_L_type, t_ck hk]
        exact L_val c0 hk1
      have r0 := er (rP (wL M1 200 0 (Int32.toInt64 (nI (len + 1)))) 123 (gP 123 p)) (RA.rp (t_r (CSK_lb hk g)))
      rw [if_pos q1, if_pos q2] at r0
      have r1 : f_X11_type 40 (rN (wL M1 200 0 (Int32.toInt64 (nI (len + 1)))) p (mI M 124) (vv M 124) (xx M)) 123 x = some (.inl (some (.int (nI (len + 1)))), rN (wL M1 200 0 (Int32.toInt64 (nI (len + 1)))) p (mI M 124) (vv M 124) (u2 (u2 (qX0 (xx M)) 16 len x) 0 20 (nI (len + 1)))) := r0
      rw [rN_lb g hp] at r1
      let X' := u2 (u2 (qX0 (xx M)) 16 len x) 0 20 (nI (len + 1))
      have u : ∀ t, t ≠ 0 → t ≠ 16 → X' t = xx M t := fun t ht h16 => (u2_n1 ht).trans ((u2_n1 h16).trans (u2_n1 ht))
      have u0 : ∀ j, j ≠ 0 → j ≠ 20 → X' 0 j = xx M 0 j := fun j a b => (u2_n2 b).trans ((congrFun (u2_n1 (by decide)) j).trans (u2_n2 a))
      have eX : ∀ t, t ≠ 0 → t ≠ 16 → t ≠ 1 → t < 77 → mI (rN (wL M1 200 0 (Int32.toInt64 (nI (len + 1)))) p (mI M 124) (vv M 124) X') (123 + t) = mI M (123 + t) := fun t a a2 b c => (rN_X b c).trans (u t a a2)
      have e0 : ∀ j, j ≠ 0 → j ≠ 20 → mI (rN (wL M1 200 0 (Int32.toInt64 (nI (len + 1)))) p (mI M 124) (vv M 124) X') 123 j = mI M 123 j := fun j a b => (congrFun rN_X0 j).trans (u0 j a b)
      have eI : ∀ a, a ≠ 105 → a ≠ 106 → a < 123 → mI (rN (wL M1 200 0 (Int32.toInt64 (nI (len + 1)))) p (mI M 124) (vv M 124) X') a = mI M a := fun a h1 h2 h3 => (rN_I (by omega)).trans ((mI_wI_ne h1).trans (mI_wI_ne h2))
      refine ⟨0, nI (len + 1), _, _, hL, r1, (g.1 0 (by omega)).trans h.2.2.1, CSK_lb hk g, (congrFun rN_X0 0).trans ?_, fun _ => out_v (M1 := M1), ST_B h g hp ⟨fun t a b => u t (by omega) (by omega), u0 3 (by omega) (by omega), u0 4 (by omega) (by omega)⟩ (CU_fr h4 (eI 103 (by omega) (by omega) (by omega)) (eI 104 (by omega) (by omega) (by omega)) (fun j a b => e0 j (by omega) (by omega)) (eX 15 (by omega) (by omega) (by omega) (by omega))) ⟨len + 1, q2, ?_, ?_, ?_⟩ ⟨l, FO_fr h6 (congrFun (eI 116 (by omega) (by omega) (by omega)) 1) (eI 117 (by omega) (by omega) (by omega)) (e0 24 (by omega) (by omega)) (eX 17 (by omega) (by omega) (by omega) (by omega))⟩, rfl⟩
      · exact (u2_n2 (by decide)).trans ((congrFun (u2_n1 (by decide)) 0).trans qX0_0)
      · exact (congrFun (rN_I (by omega)) 1).trans (show mI M1 105 1 = _ from wI_rd)
      · exact (congrFun rN_X0 20).trans u2_eq
      · have a1 : mI (rN (wL M1 200 0 (Int32.toInt64 (nI (len + 1)))) p (mI M 124) (vv M 124) X') 139 = X' 16 := rN_X (t := 16) (by omega) (by omega)
        have a2 : mI (rN (wL M1 200 0 (Int32.toInt64 (nI (len + 1)))) p (mI M 124) (vv M 124) X') 106 = mI M1 106 := rN_I (by omega)
        rw [a1, a2]
        funext j
        show u2 (u2 (qX0 (xx M)) 16 len x) 0 20 (nI (len + 1)) 16 j = mI (wI (wI M 106 len x) 105 1 (nI (len + 1))) 106 j
        refine (congrFun (u2_n1 (by decide)) j).trans ?_
        show u2 (qX0 (xx M)) 16 len x 16 j = (if 106 = 105 ∧ j = 1 then nI (len + 1) else if 106 = 106 ∧ j = len then x else mI M 106 j)
        rw [if_neg (by omega)]
        by_cases z : j = len
        · rw [z, u2_eq, if_pos ⟨rfl, rfl⟩]
        · rw [u2_n2 z, if_neg (by omega)]
          exact (congrFun (u2_n1 (by decide)) j).trans (congrFun x4 j)
    · rw [if_neg (fun z => q2 (e200.mp z))] at eL
      refine OK_e (M1 := aExn M) (code := 2) (v := 0) (X' := qXe (xx M) 2) h hp LV_exn ?_ (by decide) (fun N _ hN => ?_) XKp_Xe qXe_0
      · rw [eL]; exact L_exn rfl rfl
      · rw [er N hN, if_pos q1, if_neg q2]
  · rw [if_neg q1] at eL
    refine OK_e (M1 := aExn M) (code := 1) (v := 0) (X' := qXe (xx M) 1) h hp LV_exn ?_ (by decide) (fun N _ hN => ?_) XKp_Xe qXe_0
    · rw [eL]; exact L_exn rfl rfl
    · rw [er N hN, if_neg q1]
end Uj
