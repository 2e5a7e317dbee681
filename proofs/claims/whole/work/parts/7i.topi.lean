/-! CHANGES: draw(), run() -/
section Us
variable {M M' M1 N : LM} {L B D P U i j k t w f n n' c e r o m ch len lo hi tot : Nat} {x y v u b1 b2 code cache key what rule its greater keys many seed writes room lapse mode : Int32} {z : Option (LO × LM)} {b : Bool} {T T' : BT} {kf fs W p kf' fs' W' : Nat → Nat} {xs H H' U' G : Nat → Int32} {V V' X X' X2 : Nat → Nat → Int32} {l : Option (List Nat)} {y64 : Int64} {fL fX fC : LM → Option (LO × LM)} {hl : List (Nat × Int32)} {S Z Z' : CS}
theorem o_draw (h : ST L xs M i) : OK L xs i M (fun M => f_L_draw 40 M 1 seed many keys writes 200) (fun M => f_X11_draw 40 M 123 seed many keys writes) := by
  obtain ⟨hk, -, -, hCU, hTX, -, kf, fs, W, n, p, c, e, hd⟩ := id h
  obtain ⟨hp, hpa, hc6, he6, h3, h4, hm2, hm3, hB, hR, hCT⟩ := id hd
  have hn : n ≤ 300 := hB.1
  have h0 : mI M 124 0 = nI n := hB.2.2.1
  have hl : mI M 7 3 = nI n := hB.2.1
  obtain ⟨M', P, ec, hKE, hk', hb, eb, hB'⟩ := C_b h hd 31
  have hx3 : xx M 0 3 = nI c := h3
  have er := fun N (hN : RA N 123) => r_draw (M := N) (o := 123) (p := p) (c := c) (H := mI M 124) (V := vv M 124) (X := xx M) (seed := seed) (many := many) (keys := keys) (writes := writes) 27 hN hpa hc6 hx3 (RB_RS hB)
  have eL : f_L_draw 40 M 1 seed many keys writes 200 = _ := e_L_draw 39 M 1 seed many keys writes 200
  have ec' : f_X10_beginChange 38 M 1 = _ := ec
  have exn : qDok many keys writes = false → f_L_draw 40 M 1 seed many keys writes 200 = lt_bi (some (.inr 1, aExn M)) lt_h268 (fun v2 M1 => lt_ar M1 200 2 0 (lt_m (wL M1 200 (lt_n 0) (Int32.toInt64 v2)) fun M3 => some (.inl (some (.int 0)), M3))) → OK L xs i M (fun M => f_L_draw 40 M 1 seed many keys writes 200) (fun M => f_X11_draw 40 M 123 seed many keys writes) := by
    intro qo eL
    refine OK_eG (M1 := aExn M) (code := 1) (v := 0) (X' := qXe (xx M) 1) h hp LV_exn ?_ (by decide) (fun N hN => ?_) XKp_Xe qXe_0
    · rw [eL]; exact L_exn rfl rfl
    · rw [(er N hN).1 qo]
  rw [t_ck hk, e_X10_draw, z_range, bv_if] at eL
  by_cases q1 : qIn many 1 50 = true
  · rw [if_pos q1, z_range, bv_if] at eL
    by_cases q2 : qIn keys 1 26 = true
    · rw [if_pos q2, z_range, bv_if] at eL
      by_cases q3 : qIn writes 0 100 = true
      · have qo : qDok many keys writes = true := by unfold qDok; rw [q1, q2, q3]; rfl
        obtain ⟨m, m1, m2, rfl⟩ := qIn_r (lo := 1) (hi := 50) (by omega) (by omega) q1
        obtain ⟨ky, k1, k2, rfl⟩ := qIn_r (lo := 1) (hi := 26) (by omega) (by omega) q2
        rw [if_pos q3, t_ck hk, z_takes 37 hk hl] at eL
        have e3 : ((300 : Int32) - nI n < nI m) ↔ 300 < n + m := by
          rw [show (300 : Int32) - nI n = nI (300 - n) from lt_sb (a := 300) hn, nI_ltP (by omega) (by omega)]
          omega
        have e4 : ((300 : Int32) < nI n + nI m) ↔ 300 < n + m := by
          rw [show nI n + nI m = nI (n + m) from lt_iA (j := n) (k := m), show (300 : Int32) = nI 300 from rfl, nI_ltP (by omega) (by omega)]
        by_cases q4 : 300 < n + m
        · rw [if_pos (e3.mpr q4)] at eL
          refine OK_eG (M1 := aExn M) (code := 2) (v := 0) (X' := qXe (xx M) 2) h hp LV_exn ?_ (by decide) (fun N hN => ?_) XKp_Xe qXe_0
          · rw [eL]; exact L_exn rfl rfl
          · rw [(er N hN).2.1 qo (e4.mpr q4)]
        · obtain ⟨T', x', H', kf', V', z', i1, i2, i3, i4⟩ := draw_eq (writes := writes) hk' hb (mm := m) (ky := ky) (by omega) k1 k2 30 m seed (tB M' 2) kf n (mI M 124) (vv M 124) 0 (Nat.le_refl _) (by omega) hB' hCT
          rw [Nat.sub_self, eb] at i2
          have i2' : f_X10_draw_40 39 M' 1 (nI m) (nI ky) writes 0 seed 0 = _ := i2
          rw [if_neg (fun z => q4 (e3.mp z)), lt_bv_r, t_ck hk, ec', lt_bv_r, i2'] at eL
          refine OKCe h hd hKE i3 i4 (eL.trans (L_val rfl hk')) (fun N hN => ?_)
          obtain ⟨X', x1, x2, -, -, x5⟩ := (er N hN).2.2 m ky (by omega) k1 k2 rfl rfl qo (by omega) _ _ _ _ _ _ i1
          exact ⟨X', x5, XBk_D hpa hc6 h0 x1 x2, (x1.2 17 (by omega) (by omega) (by omega)).trans (qBX_17 hpa hc6), (x1.2 18 (by omega) (by omega) (by omega)).trans qBX_18, (x1.2 0 (by omega) (by omega) (by omega)).trans (qBX_0 hpa hc6)⟩
      · rw [if_neg q3] at eL
        exact exn (by unfold qDok; simp [q3]) eL
    · rw [if_neg q2] at eL
      exact exn (by unfold qDok; simp [q2]) eL
  · rw [if_neg q1] at eL
    exact exn (by unfold qDok; simp [q1]) eL
/-! ### the text's requests -/
theorem rep_mem {l : List (Nat × Bool)} {e : Nat × Bool} : ∀ v, e ∈ rep l v → e ∈ l
  | 0, h => by cases h
  | v + 1, h => by
    have h' : e ∈ l ++ rep l v := h
    rcases List.mem_append.mp h' with q | q
    · exact q
    · exact rep_mem v q
theorem pR_bd {G : Nat → Int32} (hl : len ≤ 200) : ∀ (f deep a : Nat), deep ≤ 3 → a ≤ len → len - a + 1 ≤ f → (pR G len f deep a).1 = none → (∀ e, e ∈ (pR G len f deep a).2.2 → e.1 < 26) ∧ (pR G len f deep a).2.2.length ≤ 50 ^ (3 - deep) * ((pR G len f deep a).2.1 - a)
  | 0, _, _, _, _, h, _ => by omega
  | f + 1, deep, a, hd, ha, hf, hn => by
    have ih := pR_bd (G := G) hl f
    have ho := pR_o (T := G) hl f
    refine pR_c (T := G) (f := f) (deep := deep) (Q := fun r => r.1 = none → (∀ e, e ∈ r.2.2 → e.1 < 26) ∧ r.2.2.length ≤ 50 ^ (3 - deep) * (r.2.1 - a)) hl ha ?_ ?_ ?_ ?_ ?_ ?_ hn
    · intro a1 _ _ _ _ _
      exact ⟨(fun e he => absurd (show e ∈ ([] : List (Nat × Bool)) from he) (List.not_mem_nil)), Nat.zero_le _⟩
    · intro a1 _ _ _ _ _ _ _ e
      cases e
    · intro a1 _ _ _ _ _ _ e
      cases e
    · intro a1 v b a2 _ _ _ _ _ _ _ _ _ _ _ _ _ _ e
      cases e
    · intro a1 v b a2 h0 h1 h2 h3 h4 h5 h6 h7 h8 h9 h10 h11 h12 h13 e
      have g := ho (deep + 1) (a2 + 1) (by omega) (by omega)
      have i1 := ih (deep + 1) (a2 + 1) (by have := h13.2; omega) (by omega) (by omega)
      by_cases q : (pR G len f (deep + 1) (a2 + 1)).1 = none
      · rw [if_pos q] at e ⊢
        obtain ⟨g1, g2, g3⟩ := g.1 q
        by_cases q2 : (pR G len f (deep + 1) (a2 + 1)).2.1 = len
        · rw [if_pos q2] at e
          cases e
        · rw [if_neg q2] at e ⊢
          have g' := ho deep ((pR G len f (deep + 1) (a2 + 1)).2.1 + 1) (by omega) (by omega)
          have i2 := ih deep ((pR G len f (deep + 1) (a2 + 1)).2.1 + 1) hd (by omega) (by omega) e
          obtain ⟨g4, g5, -⟩ := g'.1 e
          obtain ⟨j1, j2⟩ := i1 q
          obtain ⟨j3, j4⟩ := i2
          refine ⟨fun e he => ?_, ?_⟩
          · rcases List.mem_append.mp he with z | z
            · exact j1 e (rep_mem _ z)
            · exact j3 e z
          · show (rep _ v ++ _).length ≤ 50 ^ (3 - deep) * (_ - a)
            rw [List.length_append, rep_len]
            have hpow : 50 ^ (3 - deep) = 50 ^ (3 - (deep + 1)) * 50 := by
              rw [← Nat.pow_succ]
              congr 1
              have := h13.2
              omega
            rw [hpow] at j4 ⊢
            generalize 50 ^ (3 - (deep + 1)) = R at j2 j4
            have t1 := Nat.mul_le_mul h5 j2
            have t2 := Nat.mul_le_mul_left (R * 50) (show (pR G len f (deep + 1) (a2 + 1)).2.1 - (a2 + 1) + ((pR G len f deep ((pR G len f (deep + 1) (a2 + 1)).2.1 + 1)).2.1 - ((pR G len f (deep + 1) (a2 + 1)).2.1 + 1)) ≤ (pR G len f deep ((pR G len f (deep + 1) (a2 + 1)).2.1 + 1)).2.1 - a by omega)
            rw [Nat.mul_add] at t2
            have t3 : 50 * (R * ((pR G len f (deep + 1) (a2 + 1)).2.1 - (a2 + 1))) = R * 50 * ((pR G len f (deep + 1) (a2 + 1)).2.1 - (a2 + 1)) := by ac_rfl
            exact Nat.le_trans (Nat.add_le_add (Nat.le_trans t1 (Nat.le_of_eq t3)) j4) t2
      · rw [if_neg q] at e
        exact absurd e q
    · intro a1 a2 a3 h0 h1 h2 h3 h4 h5 h6 h7 h8 h9 e
      have g := ho deep a3 h9 (by omega)
      obtain ⟨g1, g2, -⟩ := g.1 e
      obtain ⟨j1, j2⟩ := ih deep a3 hd h9 (by omega) e
      refine ⟨fun e he => ?_, ?_⟩
      · rcases List.mem_cons.mp he with z | z
        · rw [z]
          show lt_n (G a1 - 97) < 26
          obtain ⟨k, k1, k2⟩ := sub97 (v := G a1) (fun z => h3 (Or.inl z)) (fun z => h3 (Or.inr z))
          rw [k2, lt_iN (by omega)]
          exact k1
        · exact j1 e z
      · show (_ :: _).length ≤ 50 ^ (3 - deep) * (_ - a)
        rw [List.length_cons]
        have hP : 1 ≤ 50 ^ (3 - deep) := Nat.pow_pos (by decide)
        have t2 := Nat.mul_le_mul_left (50 ^ (3 - deep)) (show (pR G len f deep a3).2.1 - a3 + 1 ≤ (pR G len f deep a3).2.1 - a by omega)
        rw [Nat.mul_add, Nat.mul_one] at t2
        exact Nat.le_trans (Nat.add_le_add j2 hP) t2
theorem txL_bd (hl : len ≤ 200) (h : txE G len = none) : (∀ e, e ∈ txL G len → e.1 < 26) ∧ (txL G len).length ≤ 25000000 := by
  unfold txE at h
  have h1 : (pR G len (len + 1) 0 0).1 = none := by
    split at h
    · cases h
    · exact h
  obtain ⟨a, b⟩ := pR_bd hl (len + 1) 0 0 (by omega) (Nat.zero_le _) (by omega) h1
  have := (pR_o (T := G) hl (len + 1) 0 0 (Nat.zero_le _) (by omega)).1 h1
  refine ⟨a, Nat.le_trans b ?_⟩
  show 125000 * _ ≤ 25000000
  omega
theorem run_eq (hk' : CSK L M') (hb : bA M' 2) (d : Nat) (htot : tot < 2147483648) : ∀ (l : List (Nat × Bool)) (j : Nat) (T : BT) (kf : Nat → Nat) (n : Nat) (H : Nat → Int32) (V : Nat → Nat → Int32), (∀ e, e ∈ l → e.1 < 26) → (∀ t e, l[t]? = some e → j + t < 300 → mI M' 107 (j + t) = nI e.1 ∧ mI M' 108 (j + t) = bI e.2) → j + l.length = tot → n + l.length ≤ 300 → j ≤ n → RB kf fs W n T H V → CT fs n V →
    ∃ T' s', qAskL fs l (H, kf, n, V) = some s' ∧ f_X10_run_38 (d + 9) (bM M' 2 T) 1 (nI tot) (nI j) = some (.inl (some (.int (nI tot))), bM M' 2 T') ∧ RB s'.2.1 fs W s'.2.2.1 T' s'.1 s'.2.2.2 ∧ CT fs s'.2.2.1 s'.2.2.2 ∧ s'.2.2.1 = n + l.length
  | [], j, T, kf, n, H, V, _, _, hj, _, _, hR, hC => by
    have ej : j = tot := by simpa using hj
    have hlt : ¬ nI j < nI tot := by rw [nI_ltP (by omega) (by omega)]; omega
    refine ⟨T, (H, kf, n, V), rfl, ?_, hR, hC, rfl⟩
    rw [e_X10_run_38, if_neg hlt]
  | e :: l, j, T, kf, n, H, V, h26, hc, hj, hn, hjn, hR, hC => by
    rw [List.length_cons] at hj hn
    have hlt : nI j < nI tot := by rw [nI_ltP (by omega) (by omega)]; omega
    have hlt3 : nI j < (300 : Int32) := (lt_iL (j := j) (k := 300) (by omega) (by omega)).mpr (by omega)
    obtain ⟨c1, c2⟩ := hc 0 e rfl (by omega)
    rw [Nat.add_zero] at c1 c2
    have hkT : CSK L (bM M' 2 T) := hk'
    obtain ⟨T1, V1, a1, a2, a3, a4⟩ := A_step hb hR hC (by omega) (h26 e (List.mem_cons_self ..)) e.2
    obtain ⟨T', s', i1, i2, i3, i4, i5⟩ := run_eq hk' hb d htot l (j + 1) T1 (kfA kf n e.1) (n + 1) (qAsk H n e.1 (bI e.2)) V1 (fun x hx => h26 x (List.mem_cons_of_mem _ hx)) (fun t x hx ht => by
      have := hc (t + 1) x hx (by omega)
      rwa [show j + (t + 1) = j + 1 + t by omega] at this) (by omega) (by omega) (by omega) a3 a4
    have ew : qW (bI e.2) = bI e.2 := by cases e.2 <;> rfl
    refine ⟨T', s', ?_, ?_, i3, i4, by rw [i5, List.length_cons]; omega⟩
    · show (match qAskS fs (H, kf, n, V) e.1 (bI e.2) with | none => none | some s' => qAskL fs l s') = some s'
      have : qAskS fs (H, kf, n, V) e.1 (bI e.2) = some (qAsk H n e.1 (bI e.2), kfA kf n e.1, n + 1, V1) := by
        unfold qAskS
        rw [if_pos (show n < 300 by omega)]
        dsimp only
        rw [ew, a2]
      rw [this]
      exact i1
    · have kt : ∀ {z : Option (LO × LM)}, lt_ck (bM M' 2 T) 105 25 z = z := fun {z} => lt_ck_t (M := bM M' 2 T) (t_t hk').1
      have p3 : mP (bM M' 2 T) 105 3 = some 107 := (t_t hk').2.2.1
      have p4 : mP (bM M' 2 T) 105 4 = some 108 := (t_t hk').2.2.2.1
      have g1 : f_X10_at (d + 8) (bM M' 2 T) 107 (nI j) = some (.inl (some (.int (nI e.1))), bM M' 2 T) := by
        have := s10_at (M := bM M' 2 T) (o := 107) (d + 7) (t_t hk').2.2.2.2.2.2.2.1 (k := j) (by omega)
        rw [this, show mI (bM M' 2 T) 107 j = mI M' 107 j from congrFun (bMo (by omega)) j, c1]
      have g2 : f_X10_at (d + 8) (bM M' 2 T) 108 (nI j) = some (.inl (some (.int (bI e.2))), bM M' 2 T) := by
        have := s10_at (M := bM M' 2 T) (o := 108) (d + 7) (t_t hk').2.2.2.2.2.2.2.2.1 (k := j) (by omega)
        rw [this, show mI (bM M' 2 T) 108 j = mI M' 108 j from congrFun (bMo (by omega)) j, c2]
      have e1 : nI j + 1 = nI (j + 1) := lt_iA (j := j) (k := 1)
      have a1' := a1 (d + 1)
      rw [e_X10_run_38, if_pos hlt, if_pos hlt3, t_ck hkT, t_p0 hkT, x_rf, t_ck hkT, t_p5 hkT, x_rf, kt, p3, x_rf, g1, lt_bi_r, t_ck hkT, t_p5 hkT, x_rf, kt, p4, x_rf, g2, lt_bi_r]
      cases e2 : e.2 with
      | false =>
        rw [e2] at a1'
        have a1'' : f_X0_ask (d + 8) (bM M' 2 T) 2 (nI e.1) 0 = _ := a1'
        rw [if_pos (c := (bI false = 0)) rfl, t_ckB hkT, a1'', lt_bi_r, e1]
        exact i2
      | true =>
        rw [e2] at a1'
        have a1'' : f_X0_ask (d + 8) (bM M' 2 T) 2 (nI e.1) 1 = _ := a1'
        rw [if_neg (c := (bI true = 0)) (by decide), t_ckB hkT, a1'', lt_bi_r, e1]
        exact i2
end Us
