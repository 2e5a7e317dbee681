/-! CHANGES: requests -/
section Ur
variable {M M' M1 N : LM} {L B D P U i j k t w f n n' c e r a o m ch len lo hi : Nat} {x y v u b1 b2 code cache key what rule its greater keys many seed writes room lapse mode : Int32} {z : Option (LO × LM)} {b : Bool} {T T' : BT} {kf fs W p kf' fs' W' : Nat → Nat} {xs H H' U' : Nat → Int32} {V V' X X' X2 : Nat → Nat → Int32} {l : Option (List Nat)} {y64 : Int64} {fL fX fC : LM → Option (LO × LM)} {hl : List (Nat × Int32)} {S Z Z' : CS}
theorem A_step (hb : bA M' 2) (hR : RB kf fs W n T H V) (hC : CT fs n V) (hn : n < 300) (hk : k < 26) (wb : Bool) : ∃ T' V', (∀ d, f_X0_ask (d + 7) (bM M' 2 T) 2 (nI k) (bI wb) = some (.inl (some (.int (kBits T.2 k 6 0))), bM M' 2 T')) ∧ qFeedV (qAsk H n k (bI wb)) (kfA kf n k) fs n 6 0 V = some (kBits T.2 k 6 0, V') ∧ RB (kfA kf n k) fs W (n + 1) T' (qAsk H n k (bI wb)) V' ∧ CT fs (n + 1) V' := by
  obtain ⟨V', g1, g2⟩ := RB_ask (w := wb) hR hn hk
  have ko : ∀ i, i < n → kf i = kfA kf n k i := fun i hi => (kfA_o hi).symm
  have hrk : RKc T.1 (kfA kf n k) n := fun i hi => by
    have := RB_RK hR i hi
    rw [kfA_o hi]
    exact this
  have hls : ∀ i, i < 6 → LsA (T.2 i) (kfA kf n k) (fs i) n := fun i hi => (RC_kf (RB_c hR hi) ko).2.2.2.2.1
  have e : ∀ d, f_X0_ask (d + 7) (bM M' 2 T) 2 (nI (kfA kf n k n)) (bI wb) = _ := fun d => b_ask (M := M') (B := 2) (T := T) (kf := kfA kf n k) (fd := fs) (n := n) (w := wb) (W := W) d hb hrk (by rw [kfA_n]; exact hk) hn hR.2.1 (RB_bH hR) hls
  rw [kfA_n] at e
  refine ⟨_, V', e, g1, g2, ?_⟩
  have hxn : kfA kf n k n < 26 := by rw [kfA_n]; exact hk
  have hall : ∀ i, i < n + 1 → kfA kf n k i < 26 := fun i hi => (g2.2.2.2.2.2.1 i hi).1
  have gg := qFeedV_ct (H := qAsk H n k (bI wb)) (kf := kfA kf n k) (fs := fs) (i := n) hxn (fun u b hb => hall _ (by have := (lastTo_lt _ hb).1; omega)) 6 _ _ _ _ (Nat.le_refl _) g1
  exact CT_ct1 hC (fun c hc => (RB_c hR hc).2.2.1) (fun u hu => (gg u hu).1 (by omega))
theorem XBk_D (hp : PA p) (hc : c ≤ 6) (h4 : H 0 = nI n) (hX : XD (qBX p c (qX0 X) H V) X') (h4' : X' 0 4 = nI n') : XBk p c n' X H V X' :=
  XBk_s (XBk_b hp hc h4) (fun t ht => hX.1 t (by omega) (by omega)) (fun j hj => hX.2 j (by omega) (by omega) (by omega)) h4'
theorem o_request (wb : Bool) (h : ST L xs M i) : OK L xs i M (fun M => f_L_request 40 M 1 key (bI wb) 200) (fun M => f_X11_request 40 M 123 key (bI wb)) := by
  obtain ⟨hk, -, -, hCU, hTX, -, kf, fs, W, n, p, c, e, hd⟩ := id h
  obtain ⟨hp, hpa, hc6, he6, h3, h4, hm2, hm3, hB, hR, hCT⟩ := id hd
  have hn : n ≤ 300 := hB.1
  have h0 : mI M 124 0 = nI n := hB.2.2.1
  have hl : mI M 7 3 = nI n := hB.2.1
  obtain ⟨M', P, ec, hKE, hk', hb, eb, hB'⟩ := C_b h hd 31
  have hx3 : xx M 0 3 = nI c := h3
  have er := fun N (hN : RA N 123) (b : Int32) (V' : Nat → Nat → Int32) => r_request (b := b) (V' := V') (M := N) (o := 123) (p := p) (c := c) (H := mI M 124) (V := vv M 124) (X := xx M) (key := key) (w := bI wb) 28 hN hpa hc6 hx3 (RB_RS hB)
  have eL : f_L_request 40 M 1 key (bI wb) 200 = _ := e_L_request 39 M 1 key (bI wb) 200
  have ec' : f_X10_beginChange 38 M 1 = _ := ec
  have ew : qW (bI wb) = bI wb := by cases wb <;> rfl
  rw [t_ck hk, e_X10_request, z_key, bv_if] at eL
  by_cases q1 : qIn key 0 25 = true
  · obtain ⟨k, hk26, rfl⟩ := qIn_k q1
    rw [if_pos q1, t_ck hk, z_takes 37 hk hl] at eL
    have e3 : ((300 : Int32) - nI n < 1) ↔ n = 300 := by
      rw [show (300 : Int32) - nI n = nI (300 - n) from lt_sb (a := 300) hn, show (1 : Int32) = nI 1 from rfl, nI_ltP (by omega) (by omega)]
      omega
    by_cases q2 : n = 300
    · rw [if_pos (e3.mpr q2)] at eL
      refine OK_eG (M1 := aExn M) (code := 2) (v := 0) (X' := qXe (xx M) 2) h hp LV_exn ?_ (by decide) (fun N hN => ?_) XKp_Xe qXe_0
      · rw [eL]; exact L_exn rfl rfl
      · rw [(er N hN 0 (vv M 124)).2.1 q1 q2]
    · have hn' : n < 300 := by omega
      obtain ⟨T', V', a1, a2, a3, a4⟩ := A_step hb hB' hCT hn' hk26 wb
      have a1' : f_X0_ask 38 M' 2 (nI k) (bI wb) = some (.inl (some (.int (kBits (tB M' 2).2 k 6 0))), bM M' 2 T') := by have := a1 31; rwa [eb] at this
      rw [if_neg (fun z => q2 (e3.mp z)), lt_bv_r, t_ck hk, ec', lt_bv_r, t_ck hk', t_p0 hk', x_rf, t_ckB hk', a1', lt_bi_r] at eL
      refine OKCe h hd hKE a3 a4 (eL.trans (L_val rfl hk')) (fun N hN => ?_)
      obtain ⟨X', x1, x2, x3⟩ := (er N hN (kBits (tB M' 2).2 k 6 0) V').2.2 q1 hn' (by rw [ew, lt_iN (by omega)]; exact a2)
      rw [ew, lt_iN (by omega)] at x3
      exact ⟨X', x3, XBk_T hpa hc6 h0 x1 x2, (x1.2 17 (by omega) (by omega)).trans (qBX_17 hpa hc6), (x1.2 18 (by omega) (by omega)).trans qBX_18, (x1.2 0 (by omega) (by omega)).trans (qBX_0 hpa hc6)⟩
  · rw [if_neg q1] at eL
    have q1' : qIn key 0 25 = false := by simpa using q1
    refine OK_eG (M1 := aExn M) (code := 1) (v := 0) (X' := qXe (xx M) 1) h hp LV_exn ?_ (by decide) (fun N hN => ?_) XKp_Xe qXe_0
    · rw [eL]; exact L_exn rfl rfl
    · rw [(er N hN 0 (vv M 124)).1 q1']
/-- draws -/
theorem draw_eq (hk' : CSK L M') (hb : bA M' 2) {mm ky : Nat} (hm : mm < 100) (hk0 : 0 < ky) (hky : ky ≤ 26) (d : Nat) : ∀ (m : Nat) (x : Int32) (T : BT) (kf : Nat → Nat) (n : Nat) (H : Nat → Int32) (V : Nat → Nat → Int32) (z : Int32), m ≤ mm → n + m ≤ 300 → RB kf fs W n T H V → CT fs n V →
    ∃ T' x' H' kf' V' z', qDrawN fs (nI ky) writes m x H kf n V z = some (x', H', kf', n + m, V', z') ∧ f_X10_draw_40 (d + 9) (bM M' 2 T) 1 (nI mm) (nI ky) writes z x (nI (mm - m)) = some (.inl (some (.int z')), bM M' 2 T') ∧ RB kf' fs W (n + m) T' H' V' ∧ CT fs (n + m) V'
  | 0, x, T, kf, n, H, V, z, _, _, hR, hC => by
    have hl : ¬ nI (mm - 0) < nI mm := by rw [nI_ltP (by omega) (by omega)]; omega
    refine ⟨T, x, H, kf, V, z, rfl, ?_, hR, hC⟩
    rw [e_X10_draw_40, if_neg hl]
  | m + 1, x, T, kf, n, H, V, z, hmm, hn, hR, hC => by
    have hl : nI (mm - (m + 1)) < nI mm := by rw [nI_ltP (by omega) (by omega)]; omega
    have hl1 : nI (mm - (m + 1)) + 1 = nI (mm - m) := by
      rw [show nI (mm - (m + 1)) + 1 = nI (mm - (m + 1) + 1) from lt_iA (j := mm - (m + 1)) (k := 1)]
      congr 1
      omega
    obtain ⟨k, hkk, ek⟩ := qDr_n (x := qNext x) (m := ky) hk0 (by omega)
    have hkT : CSK L (bM M' 2 T) := hk'
    have hky0 : (0 : Int32) < nI ky := by rw [show (0 : Int32) = nI 0 from rfl, nI_ltP (by omega) (by omega)]; exact hk0
    have hkyn : nI ky ≠ 0 := fun z => by rw [z] at hky0; exact absurd hky0 (by decide)
    have ed : ∀ (N : LM) (y : Int32), f_X10_nextDraw (d + 8) N y = some (.inl (some (.int (qNext y))), N) := fun N y => e_X10_nextDraw (d + 7) N y
    obtain ⟨wb, ewb⟩ : ∃ wb : Bool, (if qDr (qNext (qNext x)) 100 < writes then (1 : Int32) else 0) = bI wb := ⟨decide (qDr (qNext (qNext x)) 100 < writes), by unfold bI; by_cases q : qDr (qNext (qNext x)) 100 < writes <;> simp [q]⟩
    obtain ⟨T1, V1, a1, a2, a3, a4⟩ := A_step hb hR hC (by omega) (show k < 26 by omega) wb
    obtain ⟨T', x', H', kf', V', z', i1, i2, i3, i4⟩ := draw_eq hk' hb hm hk0 hky d m (qNext (qNext x)) T1 (kfA kf n k) (n + 1) (qAsk H n k (bI wb)) V1 (z + pPop (kBits T.2 k 6 0)) (by omega) (by omega) a3 a4
    rw [show n + 1 + m = n + (m + 1) by omega] at i1 i3 i4
    refine ⟨T', x', H', kf', V', z', ?_, ?_, i3, i4⟩
    · unfold qDrawN
      dsimp only
      rw [ek, lt_iN (by omega), ewb, a2]
      exact i1
    · have a1' := a1 (d + 1)
      have e68 : f_X10_draw_68 (d + 9) (bM M' 2 T) 1 (nI mm) (nI ky) writes z (qNext x) (nI (mm - (m + 1))) (nI k) = some (.inl (some (.int z')), bM M' 2 T') := by
        rw [e_X10_draw_68, ed, lt_bi_r, r_nz (by decide)]
        by_cases q : lt_us (qNext (qNext x)) 16 - lt_us (qNext (qNext x)) 16 / 100 * 100 < writes
        · have q' : qDr (qNext (qNext x)) 100 < writes := q
          rw [if_pos q'] at ewb
          rw [← ewb] at a1'
          rw [if_pos q, t_ck hkT, t_p0 hkT, x_rf, t_ckB hkT, a1', lt_bi_r, c_pop, lt_bi_r, hl1]
          exact i2
        · have q' : ¬ qDr (qNext (qNext x)) 100 < writes := q
          rw [if_neg q'] at ewb
          rw [← ewb] at a1'
          rw [if_neg q, t_ck hkT, t_p0 hkT, x_rf, t_ckB hkT, a1', lt_bi_r, c_pop, lt_bi_r, hl1]
          exact i2
      rw [e_X10_draw_40, if_pos hl, ed, lt_bi_r, if_pos hky0, r_nz hkyn, ← e68]
      congr 1
end Ur
