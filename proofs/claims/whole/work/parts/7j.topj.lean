/-! CHANGES: run() -/
section Ut
variable {M M' M1 N : LM} {L B D P U i j k t w f n n' c e r o m ch len lo hi tot : Nat} {x y v u b1 b2 code cache key what rule its greater keys many seed writes room lapse mode : Int32} {z : Option (LO × LM)} {b : Bool} {T T' : BT} {kf fs W p kf' fs' W' : Nat → Nat} {xs H H' U' G : Nat → Int32} {V V' X X' X2 : Nat → Nat → Int32} {l : Option (List Nat)} {y64 : Int64} {fL fX fC : LM → Option (LO × LM)} {hl : List (Nat × Int32)} {S Z Z' : CS}
theorem XBk_b2 {X0 : Nat → Nat → Int32} (hp : PA p) (hc : c ≤ 6) (h4 : H 0 = nI n) (g1 : ∀ t, t ≠ 0 → X0 t = X t) (g2 : ∀ j, (14 ≤ j ∧ j ≤ 16) ∨ j = 20 ∨ j = 24 → X0 0 j = X 0 j) : XBk p c n X H V (qBX p c X0 H V) := by
  refine ⟨fun t h1 h2 => (qBX_t hp hc (by omega) (by omega)).trans (g1 t (by omega)), fun j hj => (qBX_f hp hc (by omega) (by omega) (by omega)).trans (g2 j hj), ?_, qBX_4.trans h4, fun q hq => ?_⟩
  · rw [qBX_3 hp hc]
    congr 1
    by_cases z : c = 6
    · rw [if_pos z, if_neg (by omega)]
    · rw [if_neg z, if_pos (by omega)]
  · have e : qBX p c X0 H V (3 + q) = qKX p c X0 (rowS H V) (3 + q) := by
      unfold qBX
      rw [u2_n1 (by omega), u2_n1 (by omega)]
    rw [e]
    unfold qKX qKeep
    have eX : ∀ t, X0 (3 + t) = X (3 + t) := fun t => g1 _ (by omega)
    by_cases z : c = 6
    · rw [if_pos z, u2_n1 (by omega), if_neg (show ¬ c < 6 by omega), u1_x]
      by_cases z2 : q = p 0
      · rw [if_pos (by omega), if_pos z2, eX, z2]
      · rw [if_neg (by omega), if_neg z2, eX]
    · rw [if_neg z, u2_n1 (by omega), if_pos (show c < 6 by omega), u1_x]
      by_cases z2 : q = p c
      · rw [if_pos (by omega), if_pos z2, eX, z2]
      · rw [if_neg (by omega), if_neg z2, eX]
theorem XKp_pe {a e v : Int32} : XKp X (u2 (pX (qX0 X) a e) 0 0 v) := by
  have h1 : XKp (qX0 X) (u2 (qX0 X) 0 21 a) := XKp_0 (by decide)
  have h2 : XKp (u2 (qX0 X) 0 21 a) (pX (qX0 X) a e) := XKp_0 (by decide)
  have h3 : XKp (pX (qX0 X) a e) (u2 (pX (qX0 X) a e) 0 0 v) := XKp_0 (by decide)
  exact XKp_X0.tr (h1.tr (h2.tr h3))
theorem txE_le (hl : len ≤ 200) (h : txE G len = some k) : k ≤ len := by
  unfold txE at h
  split at h
  · rename_i q
    cases h
    omega
  · exact (pR_o (T := G) hl (len + 1) 0 0 (Nat.zero_le _) (by omega)).2 k h
theorem o_run2 (h : ST L xs M i) (hlen : len ≤ 200) (h1 : mI M 105 1 = nI len) (hE : txE (mI M 106) len = none → mI M 105 2 = nI (txL (mI M 106) len).length ∧ ∀ j r, (txL (mI M 106) len)[j]? = some r → j < 300 → mI M 107 j = nI r.1 ∧ mI M 108 j = bI r.2) {F : Option (LO × LM)}
    (eL : F = lt_bi (if oI (txE (mI M 106) len) = -1 then (lt_ck M 1 26 (lt_rf (mP M 1 5) fun q4 => lt_ck M q4 25 (lt_ck M 1 26 (lt_bv (f_X10_checkRowTakes 38 M 1 (mI M q4 2)) [] fun M5 => lt_ck M5 1 26 (lt_bv (f_X10_beginChange 38 M5 1) [] fun M6 => f_X10_run_38 39 M6 1 (mI M q4 2) 0))))) else (some (.inr 1, aExn M))) lt_h269 (fun v2 M1 => lt_ar M1 200 2 0 (lt_m (wL M1 200 (lt_n 0) (Int32.toInt64 v2)) fun M3 => some (.inl (some (.int 0)), M3)))) : OK L xs i M (fun _ => F) (fun M => f_X11_run 40 M 123) := by
  obtain ⟨hk, -, -, hCU, hTX, -, kf, fs, W, n, p, c, e, hd⟩ := id h
  obtain ⟨hp, hpa, hc6, he6, h3, h4, hm2, hm3, hB, hR, hCT⟩ := id hd
  have hn : n ≤ 300 := hB.1
  have h0 : mI M 124 0 = nI n := hB.2.2.1
  have hl : mI M 7 3 = nI n := hB.2.1
  obtain ⟨M', P, ec, hKE, hk', hb, eb, hB'⟩ := C_b h hd 31
  have hx3 : xx M 0 3 = nI c := h3
  obtain ⟨len', x1, x2, x3, x4⟩ := id hTX
  have el : len' = len := by
    have := congrArg Int32.toInt (x2.symm.trans h1)
    rw [lt_iT (by omega), lt_iT (by omega)] at this
    omega
  subst el
  have ex : xx M 16 = mI M 106 := x4
  obtain ⟨many, a, qr, qd⟩ := text_ref (T := xx M 16) (len := len') hlen
  have er := fun N (hN : RA N 123) => r_run (M := N) (o := 123) (p := p) (c := c) (H := mI M 124) (V := vv M 124) (X := xx M) 22 hN hpa hc6 hx3 (RB_RS hB) hlen x3 qr
  rw [ex] at qd er
  cases qe : txE (mI M 106) len' with
  | some pl =>
    rw [qe] at eL er
    have hpl : oI (some pl) ≠ -1 := by
      exact nI_m1 (by have := txE_le hlen qe; omega)
    rw [if_neg hpl] at eL
    refine OK_eG (M1 := aExn M) (code := 1) (v := 0) (X' := u2 (pX (qX0 (xx M)) (nI a) (oI (some pl))) 0 0 1) h hp LV_exn ?_ (by decide) (fun N hN => ?_) XKp_pe u2_eq
    · rw [eL]; exact L_exn rfl rfl
    · rw [(er N hN).1 hpl]
  | none =>
    obtain ⟨t1, t2⟩ := hE qe
    obtain ⟨q26, qlen⟩ := txL_bd hlen qe
    obtain ⟨rfl, qd'⟩ := qd qe
    rw [qe] at eL er
    have kt : ∀ {z : Option (LO × LM)}, lt_ck M 105 25 z = z := fun {z} => lt_ck_t (t_t hk).1
    rw [if_pos (c := (oI none = -1)) rfl, t_ck hk, t_p5 hk, x_rf, kt, t_ck hk, t1, z_takes 37 hk hl] at eL
    generalize hll : txL (mI M 106) len' = l at *
    have e3 : ((300 : Int32) - nI n < nI l.length) ↔ 300 < n + l.length := by
      rw [show (300 : Int32) - nI n = nI (300 - n) from lt_sb (a := 300) hn, nI_ltP (by omega) (by omega)]
      omega
    have e4 : ((300 : Int32) < nI n + nI l.length) ↔ 300 < n + l.length := by
      rw [show nI n + nI l.length = nI (n + l.length) from lt_iA (j := n) (k := l.length), show (300 : Int32) = nI 300 from rfl, nI_ltP (by omega) (by omega)]
    by_cases q4 : 300 < n + l.length
    · rw [if_pos (e3.mpr q4)] at eL
      refine OK_eG (M1 := aExn M) (code := 2) (v := 0) (X' := u2 (pX (qX0 (xx M)) (nI a) (oI none)) 0 0 2) h hp LV_exn ?_ (by decide) (fun N hN => ?_) XKp_pe u2_eq
      · rw [eL]; exact L_exn rfl rfl
      · rw [(er N hN).2.1 rfl (e4.mpr q4)]
    · have hne : ∀ a, a ≤ 1 ∨ 104 ≤ a → a < 202 → a ≠ 1 → mI M' a = mI M a := fun a h1 h2 h3 => (KE_at hk hKE he6 rfl (fun a ha => clM_o ha) rfl h3 (by omega) h2).1
      obtain ⟨T', s', i1, i2, i3, i4, i5⟩ := run_eq hk' hb 30 (show l.length < 2147483648 by omega) l 0 (tB M' 2) kf n (mI M 124) (vv M 124) q26 (fun t e he ht => by
        rw [Nat.zero_add, hne 107 (by omega) (by omega) (by omega), hne 108 (by omega) (by omega) (by omega)]
        exact t2 t e he (by omega)) (by omega) (by omega) (Nat.zero_le _) hB' hCT
      rw [eb] at i2
      have i2' : f_X10_run_38 39 M' 1 (nI l.length) 0 = _ := i2
      have ec' : f_X10_beginChange 38 M 1 = _ := ec
      rw [if_neg (fun z => q4 (e3.mp z)), lt_bv_r, t_ck hk, ec', lt_bv_r, i2'] at eL
      refine OKCe h hd hKE i3 i4 (eL.trans (L_val rfl hk')) (fun N hN => ?_)
      have qd2 := qd' fs (mI M 124, kf, n, vv M 124)
      rw [i1] at qd2
      obtain ⟨X', y1, y2, -, y4⟩ := (er N hN).2.2 rfl (fun z => q4 (e4.mp z)) _ _ _ qd2
      have u21 : ∀ j, j ≠ 21 → j ≠ 22 → pX (qX0 (xx M)) (nI a) (-1) 0 j = qX0 (xx M) 0 j := fun j h1 h2 => (u2_n2 h2).trans (u2_n2 h1)
      have ut : ∀ t, t ≠ 0 → pX (qX0 (xx M)) (nI a) (-1) t = xx M t := fun t h1 => (u2_n1 h1).trans ((u2_n1 h1).trans (u2_n1 h1))
      have hXB := XBk_b2 (X := xx M) (X0 := pX (qX0 (xx M)) (nI a) (-1)) (V := vv M 124) hpa hc6 h0 ut (fun j hj => (u21 j (by omega) (by omega)).trans (u2_n2 (by omega)))
      refine ⟨X', y4, XBk_s hXB (fun t ht => y1.1 t (by omega) (by omega)) (fun j hj => y1.2 j (by omega) (by omega) (by omega)) y2, ?_, (y1.2 18 (by omega) (by omega) (by omega)).trans qBX_18, ?_⟩
      · exact (y1.2 17 (by omega) (by omega) (by omega)).trans ((qBX_f hpa hc6 (by omega) (by omega) (by omega)).trans ((u21 17 (by omega) (by omega)).trans (u2_n2 (by omega))))
      · exact (y1.2 0 (by omega) (by omega) (by omega)).trans ((qBX_f hpa hc6 (by omega) (by omega) (by omega)).trans ((u21 0 (by omega) (by omega)).trans qX0_0))
theorem o_run (h : ST L xs M i) : OK L xs i M (fun M => f_L_run 40 M 1 200) (fun M => f_X11_run 40 M 123) := by
  obtain ⟨hk, -, -, -, ⟨len, x1, x2, x3, x4⟩, -, kf, fs, W, n, p, c, e, hp, -⟩ := id h
  obtain ⟨Z', ez, g, g2⟩ := t_find 34 hk x1 x2
  have s1 := ST_A h g hp XKp.rfl'
  rw [rN_of g hp] at s1
  have s2 : ST L xs (gM M 105 6 Z') i := ⟨s1.1, h.2.1, s1.2.2⟩
  have eL : f_L_run 40 M 1 200 = _ := e_L_run 39 M 1 200
  have kt : ∀ {z : Option (LO × LM)}, lt_ck M 105 25 z = z := fun {z} => lt_ck_t (t_t hk).1
  have ez' : f_X9_findError 38 M 105 = _ := ez
  rw [t_ck hk, e_X10_run, t_ck hk, t_p5 hk, x_rf, kt, ez', lt_bi_r] at eL
  have e6 : mI (gM M 105 6 Z') 106 = mI M 106 := g.1 106 (by omega)
  refine o_run2 s2 x1 (g.2.1.trans x2) (fun hn => ?_) (by rw [e6]; exact eL)
  rw [e6] at hn ⊢
  obtain ⟨a1, a2⟩ := g2 hn
  have m0 : mI (gM M 105 6 Z') 105 = Z'.1 0 := gI0 (M := M) (U := 105) (n := 6) (Z := Z') (by decide)
  have m2 : mI (gM M 105 6 Z') 107 = Z'.1 2 := gI (M := M) (U := 105) (n := 6) (Z := Z') (t := 2) (by decide)
  have m3 : mI (gM M 105 6 Z') 108 = Z'.1 3 := gI (M := M) (U := 105) (n := 6) (Z := Z') (t := 3) (by decide)
  rw [m0, m2, m3]
  exact ⟨a1, a2⟩
end Ut
