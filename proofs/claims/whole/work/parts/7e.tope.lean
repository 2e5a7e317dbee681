/-! CHANGES: keys, time -/
section Uo
variable {M M' M1 N : LM} {L B D P U i j k t w f n n' c e r a o m ch len lo hi : Nat} {x y v b1 b2 code cache key what rule its greater keys most : Int32} {z : Option (LO × LM)} {b : Bool} {T T' : BT} {kf fs W p kf' fs' W' : Nat → Nat} {xs H H' : Nat → Int32} {V V' X X' X2 : Nat → Nat → Int32} {l : Option (List Nat)} {y64 : Int64} {fL fX fC : LM → Option (LO × LM)} {hl : List (Nat × Int32)} {S Z Z' : CS}
theorem OK_eG (h : ST L xs M i) (hp : ∀ j, mP M 125 j = gP 123 p j) (g : LV M M1) (hL : fL M = some (.inl (some (.int code)), M1)) (hne : code ≠ 0) (hr : ∀ N, RA N 123 → fX (rG N 123 p (mI M 124) (vv M 124) (xx M)) = some (.inl (some (.int v)), rG N 123 p (mI M 124) (vv M 124) X')) (hX : XKp (xx M) X') (hc : X' 0 0 = code) : OK L xs i M fL fX :=
  OKA h g hp hL (hr M1 (t_r (CSK_lv h.1 g))) hX hc (fun z => absurd z hne)
theorem qAny_ex : ∀ (m : Nat) (a : Bool), m ≤ 18 → (qAny V k m a = true ↔ a = true ∨ ∃ u, 18 - m ≤ u ∧ u < 18 ∧ V u (24 + k) = 1)
  | 0, a, _ => ⟨fun h => Or.inl h, fun h => by
    rcases h with h | ⟨u, h1, h2, -⟩
    · exact h
    · omega⟩
  | m + 1, a, hm => by
    unfold qAny
    rw [qAny_ex m _ (by omega), Bool.or_eq_true, decide_eq_true_eq]
    constructor
    · rintro ((h | h) | ⟨u, h1, h2, h3⟩)
      · exact Or.inl h
      · exact Or.inr ⟨17 - m, by omega, by omega, h⟩
      · exact Or.inr ⟨u, by omega, h2, h3⟩
    · rintro (h | ⟨u, h1, h2, h3⟩)
      · exact Or.inl (Or.inl h)
      · by_cases q : u = 17 - m
        · rw [q] at h3; exact Or.inl (Or.inr h3)
        · exact Or.inr ⟨u, by omega, h2, h3⟩
theorem kAny_ex (Q : Nat → CS) : ∀ (m : Nat) (s : Int32), m ≤ 6 → (bt (kAny Q m s) k = true ↔ bt s k = true ∨ ∃ i, 6 - m ≤ i ∧ i < 6 ∧ (bt ((Q i).1 0 5) k = true ∨ bt ((Q i).1 13 0) k = true ∨ bt ((Q i).1 14 0) k = true))
  | 0, s, _ => ⟨fun h => Or.inl h, fun h => by
    rcases h with h | ⟨u, h1, h2, -⟩
    · exact h
    · omega⟩
  | m + 1, s, hm => by
    unfold kAny
    rw [kAny_ex Q m _ (by omega), b_or, b_or, b_or, Bool.or_eq_true, Bool.or_eq_true, Bool.or_eq_true]
    constructor
    · rintro ((h | ((h | h) | h)) | ⟨u, h1, h2, h3⟩)
      · exact Or.inl h
      · exact Or.inr ⟨5 - m, by omega, by omega, Or.inl h⟩
      · exact Or.inr ⟨5 - m, by omega, by omega, Or.inr (Or.inl h)⟩
      · exact Or.inr ⟨5 - m, by omega, by omega, Or.inr (Or.inr h)⟩
      · exact Or.inr ⟨u, by omega, h2, h3⟩
    · rintro (h | ⟨u, h1, h2, h3⟩)
      · exact Or.inl (Or.inl h)
      · by_cases q : u = 5 - m
        · rw [q] at h3
          rcases h3 with h | h | h
          · exact Or.inl (Or.inr (Or.inl (Or.inl h)))
          · exact Or.inl (Or.inr (Or.inl (Or.inr h)))
          · exact Or.inl (Or.inr (Or.inr h))
        · exact Or.inr ⟨u, by omega, h2, h3⟩
theorem HB_one {s : Int32} {U : Nat → Int32} (h : HB s U 24) (hk : k < 26) : U (24 + k) = 1 ↔ bt s k = true := by
  rw [h.2 k hk]
  cases bt s k <;> simp [bI]
theorem RH1_HB {r f N' c : Nat} {room sh mi : Int32} {g : Nat → Int64} {U : Nat → Int32} (h : RH1 r room f N' c sh mi g U) : HB sh U 24 := h.2.2.2.2.2.2.1
theorem any_eq (h : RB kf fs W n T H V) (hk : k < 26) : qAny V k 18 false = bt (kAny T.2 6 0) k := by
  rw [Bool.eq_iff_iff, qAny_ex 18 _ (Nat.le_refl _), kAny_ex T.2 6 0 (Nat.le_refl _), b_0]
  have hR := h.2.2.2.2.2.2.2
  constructor
  · rintro (h | ⟨u, h1, h2, h3⟩)
    · cases h
    · refine Or.inr ?_
      by_cases q : u < 6
      · exact ⟨u, by omega, q, Or.inl ((HB_one (hR u q).1.2.1 hk).mp h3)⟩
      · have hu : u = 6 + 2 * ((u - 6) / 2) ∨ u = 7 + 2 * ((u - 6) / 2) := by omega
        have hc : (u - 6) / 2 < 6 := by omega
        generalize (u - 6) / 2 = c at hu hc
        rcases hu with rfl | rfl
        · exact ⟨c, by omega, hc, Or.inr (Or.inl ((HB_one (RH1_HB (hR c hc).2.2.2.2.2.2.2.1) hk).mp h3))⟩
        · exact ⟨c, by omega, hc, Or.inr (Or.inr ((HB_one (RH1_HB (hR c hc).2.2.2.2.2.2.2.2.1) hk).mp h3))⟩
  · rintro (h | ⟨i, h1, h2, h3⟩)
    · cases h
    · refine Or.inr ?_
      rcases h3 with h3 | h3 | h3
      · exact ⟨i, by omega, by omega, (HB_one (hR i h2).1.2.1 hk).mpr h3⟩
      · exact ⟨6 + 2 * i, by omega, by omega, (HB_one (RH1_HB (hR i h2).2.2.2.2.2.2.2.1) hk).mpr h3⟩
      · exact ⟨7 + 2 * i, by omega, by omega, (HB_one (RH1_HB (hR i h2).2.2.2.2.2.2.2.2.1) hk).mpr h3⟩
theorem t_any (d : Nat) (h : CSK L M) (hk : k < 26) : f_X0_isAnywhere (d + 2) M 2 (nI k) = some (.inl (some (.int (bI (bt (kAny (tB M 2).2 6 0) k)))), M) := by
  have := b_isAnywhere (M := M) (B := 2) (T := tB M 2) d (t_b h) hk
  rwa [bM_id] at this
theorem o_setKey (h : ST L xs M i) : OK L xs i M (fun M => f_L_setKey 40 M 1 key x y v 200) (fun M => f_X11_setKey 40 M 123 key x y v) := by
  obtain ⟨hk, -, -, hCU, hTX, -, kf, fs, W, n, p, c, e, hd⟩ := id h
  obtain ⟨hp, hpa, hc6, he6, h3, h4, hm2, hm3, hB, hR, hCT⟩ := id hd
  have hn : n ≤ 300 := hB.1
  have h0 : mI M 124 0 = nI n := hB.2.2.1
  have hl : mI M 7 3 = nI n := hB.2.1
  obtain ⟨M', P, ec, hKE, hk', hb, eb, hB'⟩ := C_b h hd 31
  have hx3 : xx M 0 3 = nI c := h3
  have er := fun N (hN : RA N 123) => r_setKey (M := N) (o := 123) (p := p) (c := c) (H := mI M 124) (V := vv M 124) (X := xx M) 36 hN hpa hc6 hx3 (key := key) (x := x) (y := y) (z := v)
  have eL : f_L_setKey 40 M 1 key x y v 200 = _ := e_L_setKey 39 M 1 key x y v 200
  rw [t_ck hk, e_X10_setKey, z_key, bv_if] at eL
  by_cases q1 : qIn key 0 25 = true
  · obtain ⟨k, hk26, rfl⟩ := qIn_k q1
    rw [if_pos q1, z_range, bv_if] at eL
    by_cases q2 : qIn x 1 8 = true
    · rw [if_pos q2, z_range, bv_if] at eL
      by_cases q3 : qIn y 0 1000 = true
      · rw [if_pos q3, z_range, bv_if] at eL
        by_cases q4 : qIn v 0 3 = true
        · have qo : qSKok x y v = true := by unfold qSKok; rw [q2, q3, q4]; rfl
          have ea := any_eq hB hk26
          rw [if_pos q4, t_ck hk, t_p0 hk, x_rf, t_ckB hk, t_any 36 hk hk26, lt_bi_r] at eL
          cases q5 : bt (kAny (tB M 2).2 6 0) k with
          | true =>
            rw [q5, if_neg (c := (bI true = 0)) (by decide)] at eL
            rw [q5] at ea
            refine OK_eG (M1 := aExn M) (code := 3) (v := 0) (X' := qXe (xx M) 3) h hp LV_exn ?_ (by decide) (fun N hN => ?_) XKp_Xe qXe_0
            · rw [eL]; exact L_exn rfl rfl
            · rw [er N hN, if_pos q1, if_pos qo, lt_iN (by omega), if_pos ea]
          | false =>
            rw [q5] at ea
            obtain ⟨sz, sz1, sz2, rfl⟩ := qIn_r (lo := 1) (hi := 8) (by omega) (by omega) q2
            obtain ⟨co, co1, co2, rfl⟩ := qIn_r (lo := 0) (hi := 1000) (by omega) (by omega) q3
            obtain ⟨ow, ow1, ow2, rfl⟩ := qIn_r (lo := 0) (hi := 3) (by omega) (by omega) q4
            have et := b_tell (M := M') (B := 2) (T := tB M' 2) (k := k) (a := nI sz) (b := nI co) (e := nI ow) 36 hb hk26
            rw [eb, (RB_key hB' hk26).1] at et
            have ec' : f_X10_beginChange 38 M 1 = _ := ec
            rw [q5, if_pos (c := (bI false = 0)) rfl, t_ck hk, ec', lt_bv_r, t_ck hk', t_p0 hk', x_rf, t_ckB hk', t_B0 hk', x_rf, t_ckK hk', et, lt_bi_r] at eL
            refine OKC h hd hKE (RB_tell hB' hk26 sz1 sz2 co2 (by omega)) hCT (eL.trans (L_val rfl hk')) (fun N hN => ?_) (XBk_b hpa hc6 h0) (qBX_17 hpa hc6) qBX_18 (qBX_0 hpa hc6)
            rw [er N hN, if_pos q1, if_pos qo, lt_iN (by omega), if_neg (by rw [ea]; decide)]
        · rw [if_neg q4] at eL
          have qo : ¬ qSKok x y v = true := by unfold qSKok; simp [q4]
          refine OK_eG (M1 := aExn M) (code := 2) (v := 0) (X' := qXe (xx M) 2) h hp LV_exn ?_ (by decide) (fun N hN => ?_) XKp_Xe qXe_0
          · rw [eL]; exact L_exn rfl rfl
          · rw [er N hN, if_pos q1, if_neg qo]
      · rw [if_neg q3] at eL
        have qo : ¬ qSKok x y v = true := by unfold qSKok; simp [q3]
        refine OK_eG (M1 := aExn M) (code := 2) (v := 0) (X' := qXe (xx M) 2) h hp LV_exn ?_ (by decide) (fun N hN => ?_) XKp_Xe qXe_0
        · rw [eL]; exact L_exn rfl rfl
        · rw [er N hN, if_pos q1, if_neg qo]
    · rw [if_neg q2] at eL
      have qo : ¬ qSKok x y v = true := by unfold qSKok; simp [q2]
      refine OK_eG (M1 := aExn M) (code := 2) (v := 0) (X' := qXe (xx M) 2) h hp LV_exn ?_ (by decide) (fun N hN => ?_) XKp_Xe qXe_0
      · rw [eL]; exact L_exn rfl rfl
      · rw [er N hN, if_pos q1, if_neg qo]
  · rw [if_neg q1] at eL
    refine OK_eG (M1 := aExn M) (code := 1) (v := 0) (X' := qXe (xx M) 1) h hp LV_exn ?_ (by decide) (fun N hN => ?_) XKp_Xe qXe_0
    · rw [eL]; exact L_exn rfl rfl
    · rw [er N hN, if_neg q1]
theorem o_pass (h : ST L xs M i) : OK L xs i M (fun M => f_L_pass 40 M 1 x 200) (fun M => f_X11_pass 40 M 123 x) := by
  obtain ⟨hk, -, -, hCU, hTX, -, kf, fs, W, n, p, c, e, hd⟩ := id h
  obtain ⟨hp, hpa, hc6, he6, h3, h4, hm2, hm3, hB, hR, hCT⟩ := id hd
  have hn : n ≤ 300 := hB.1
  have h0 : mI M 124 0 = nI n := hB.2.2.1
  have hl : mI M 7 3 = nI n := hB.2.1
  obtain ⟨M', P, ec, hKE, hk', hb, eb, hB'⟩ := C_b h hd 31
  have hx3 : xx M 0 3 = nI c := h3
  have er := fun N (hN : RA N 123) => r_pass (M := N) (o := 123) (p := p) (c := c) (H := mI M 124) (V := vv M 124) (X := xx M) 36 hN hpa hc6 hx3 (x := x)
  have eL : f_L_pass 40 M 1 x 200 = _ := e_L_pass 39 M 1 x 200
  rw [t_ck hk, e_X10_pass, z_range, bv_if] at eL
  by_cases q1 : qIn x 1 1000 = true
  · have ec' : f_X10_beginChange 38 M 1 = _ := ec
    obtain ⟨g1, g2⟩ := RB_pass (x := x) hB'
    let T1 : BT := (u2 (tB M' 2).1 0 4 ((tB M' 2).1 0 4 + x), (tB M' 2).2)
    have eT : wI M' 2 4 (mI M' 2 4 + x) = bM M' 2 T1 := by
      have := bMw0 (M := M') (B := 2) (T := tB M' 2) (j := 4) (v := mI M' 2 4 + x)
      rw [eb] at this
      exact this
    have hk1 : CSK L (bM M' 2 T1) := hk'
    have el := b_lapseAt (M := M') (B := 2) (T := T1) (x := (tB M' 2).1 0 4 + x) 34 hb
    have e4 : mI (bM M' 2 T1) 2 4 = (tB M' 2).1 0 4 + x := by
      rw [bMI0]; show u2 (tB M' 2).1 0 4 ((tB M' 2).1 0 4 + x) 0 4 = _; exact u2_eq
    rw [if_pos q1, t_ck hk, ec', lt_bv_r, t_ck hk', t_p0 hk', x_rf, t_ckB hk', t_ckB hk', x_m, eT, t_ck hk1, t_p0 hk1, x_rf, t_ck hk1, x_rf, t_ckB hk1, t_ckB hk1, e4, el, lt_bi_r] at eL
    refine OKC h hd hKE g1 (CT_lapses hCT) (eL.trans (L_val rfl hk')) (fun N hN => ?_) (XBk_b hpa hc6 h0) (qBX_17 hpa hc6) qBX_18 (qBX_0 hpa hc6)
    rw [er N hN, if_pos q1, g2]
  · rw [if_neg q1] at eL
    refine OK_eG (M1 := aExn M) (code := 1) (v := 0) (X' := qXe (xx M) 1) h hp LV_exn ?_ (by decide) (fun N hN => ?_) XKp_Xe qXe_0
    · rw [eL]; exact L_exn rfl rfl
    · rw [er N hN, if_neg q1]
end Uo
