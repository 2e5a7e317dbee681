/-! THE LAW: areCaches(): one request, and all of them -/
def ACS (x6 : Int32) (z c W kf : Nat → Nat) (n wr tm : Nat) (M : LM) (T : BT) (R : Nat → BT) (o5 zc : Nat) (pp rr ro : Nat → Nat) : Prop := LW M T R 6 ∧ AT z c W kf n wr tm T ∧ BTH x6 M T o5 zc pp rr ro z kf n ∧ wr ≤ n
section Fc
variable {M M' M0 M1 N : LM} {T T' T2 : BT} {R R' : Nat → BT} {i j k m n x y e s t p wr tm a o5 zc key ky many : Nat} {v x6 x2 x4 x7 x8 x9 x11 : Int32} {W kf kf' fs z c pp rr ro : Nat → Nat} {w b : Bool}
theorem noV_cg (g : BEq T T2) (hi : i < 6) (hk : k < 26) : kNoVictim (T2.1 2) (T2.2 i) k = kNoVictim (T.1 2) (T.2 i) k := by
  have e := (g.2.2.2.2 i hi).1
  unfold kNoVictim
  rw [e 5 (by omega) (by omega) (by omega), e 1 (by omega) (by omega) (by omega), (g.2.2.1 k hk).1, pSum_cg (fun y hy => (g.2.2.1 y hy).1) 26 0 (Nat.le_refl _)]
theorem BTH.fr (h : BTH x6 M T o5 zc pp rr ro z kf n) (f : FR M M') : BTH x6 M' T o5 zc pp rr ro z kf n := by
  rcases h with h | ⟨h1, h2, h3⟩
  · exact Or.inl h
  · exact Or.inr ⟨h1, h2.fr f, h3⟩
theorem BTH.dr (h : BTH x6 M T o5 zc pp rr ro z kf n) : BTH x6 (drw M) T o5 zc pp rr ro z kf n := by
  rcases h with h | ⟨h1, h2, h3⟩
  · exact Or.inl h
  · exact Or.inr ⟨h1, h2.dr, h3⟩
theorem ACS.dr (h : ACS x6 z c W kf n wr tm M T R o5 zc pp rr ro) : ACS x6 z c W kf n wr tm (drw M) T R o5 zc pp rr ro := ⟨LW_drw h.1, h.2.1, h.2.2.1.dr, h.2.2.2⟩
theorem go_479 (d : Nat) (h : ACS x6 z c W kf n wr tm M T R o5 zc pp rr ro) (hk : k < 26) (hn : n < 100) (w : Bool) : ∃ T2 M', f_L_areCaches_479 (d + 14) M 2 1 x2 x4 o5 x6 x7 x8 x9 x11 (nI k) (bI w) = f_L_areCaches_566 (d + 14) M' 2 1 x2 x4 o5 x6 (x7 + bI w) x8 x9 (nI k) x11 (nI k) 0 ∧ BEq T T2 ∧ LW M' (askT kf (fun _ => 0) W n k w T2) (rpush R 6 T) 6 ∧ FR M M' := by
  obtain ⟨hL, hA, hB, -⟩ := h
  have ck : ∀ {Z : Option (LO × LM)}, lt_ck M 2 26 Z = Z := fun {Z} => t_ck hL.1.1
  obtain ⟨y, v1, v2⟩ := q_victim (i := 0) (k := k) (d + 1) hL.1 hA.1 (by omega) hk
  have v1' : f_X10_victim (d + 13) M 2 0 (nI k) = _ := v1
  have h1 := q_holds (i := 0) (k := k) (d + 1) hL.1 (by omega) hk
  have h1' : f_X10_holds (d + 13) M 2 0 (nI k) = _ := h1
  obtain ⟨T2, M', g0, g1, g2, g3⟩ := q_request (d + 1) hL.1 hA.1 hk (by omega) w
  have L' := LW_FR hL g3 g2
  have g1' : f_X10_request (d + 13) M 2 (nI k) (bI w) = _ := g1
  have hb : (kBits T2.2 k 6 0 &&& 1 = 1) ↔ bt ((T.2 0).1 0 5) k = true := by
    rw [bits_1, (g0.2.2.2.2 0 (by omega)).1 5 (by omega) (by omega) (by omega)]
  have c2 : f_X10_count (d + 13) M' 2 0 2 = _ := q_count (i := 0) (w := 2) (d + 1) L'.1 (by omega) (by omega)
  have ck' : ∀ {Z : Option (LO × LM)}, lt_ck M' 2 26 Z = Z := fun {Z} => t_ck L'.1.1
  have cne : y ≠ -1 → ((askT kf (fun _ => 0) W n k w T2).2 0).1 7 2 ≠ 0 := fun hy => (AT_ask (w := w) (AT_cg g0 hA) hk (by omega)).2 0 (by omega) (by rw [noV_cg g0 (by omega) hk]; exact v2 hy)
  -- behind the comparison
  have tl : ∀ (x7' : Int32), (if @Eq Int32 y ((-1)) then (f_L_areCaches_566 (d + 14) M' 2 1 x2 x4 o5 x6 x7' x8 x9 (nI k) x11 (nI k) 0) else (lt_ck M' 2 26 (lt_bi (f_X10_count (d + 13) M' 2 0 2) [] fun v138 M137 => if @Eq Int32 v138 0 then (lt_b1 0 (some (.inl (some (.int 0)), M137))) else (f_L_areCaches_566 (d + 14) M137 2 1 x2 x4 o5 x6 x7' x8 x9 (nI k) x11 (nI k) 0))) : Option (LO × LM)) = f_L_areCaches_566 (d + 14) M' 2 1 x2 x4 o5 x6 x7' x8 x9 (nI k) x11 (nI k) 0 := by
    intro x7'
    by_cases hy : y = -1
    · rw [if_pos hy]
    · rw [if_neg hy, ck', c2, lt_bi_r, if_neg (cne hy)]
  refine ⟨T2, M', ?_, g0, L', g3⟩
  rw [e_L_areCaches_479]
  cases w with
  | false =>
    rw [if_pos (show bI false = 0 from rfl), ck, v1', lt_bi_r, ck, h1', lt_bi_r, ck, g1', lt_bi_r]
    by_cases hh : bt ((T.2 0).1 0 5) k = true
    · rw [if_pos (hb.mpr hh), hh, if_pos (show (1 : Int32) = bI true from rfl)]
      exact tl _
    · rw [if_neg (fun q => hh (hb.mp q))]
      rw [Bool.not_eq_true] at hh
      rw [hh, if_pos (show (0 : Int32) = bI false from rfl)]
      exact tl _
  | true =>
    rw [if_neg (show ¬ bI true = 0 by decide), ck, v1', lt_bi_r, ck, h1', lt_bi_r, ck, g1', lt_bi_r]
    by_cases hh : bt ((T.2 0).1 0 5) k = true
    · rw [if_pos (hb.mpr hh), hh, if_pos (show (1 : Int32) = bI true from rfl)]
      exact tl _
    · rw [if_neg (fun q => hh (hb.mp q))]
      rw [Bool.not_eq_true] at hh
      rw [hh, if_pos (show (0 : Int32) = bI false from rfl)]
      exact tl _
/-- the law's own are asked, the whole is looked at now and then -/
theorem go_566 (d : Nat) (hs : ∀ k, k < 26 → 1 ≤ z k ∧ z k ≤ 8) (h : ACS x6 z c W kf n wr tm M T R o5 zc pp rr ro) (hk : k < 26) (hn : n < 100) (w : Bool) (hx : many < 1000) (hi : i < many) : ∃ M' T' R' wr', f_L_areCaches_479 (d + 14) M 2 1 x2 x4 o5 x6 (nI wr) (nI n) (nI many) (nI i) (nI k) (bI w) = f_L_areCaches_391 (d + 14) M' 2 1 x2 x4 o5 x6 (nI wr') (nI (n + 1)) (nI many) (nI k) (nI (i + 1)) ∧ ACS x6 z c W (kfU kf n k) (n + 1) wr' tm M' T' R' o5 zc pp rr ro ∧ FX TT 0 0 M M' := by
  obtain ⟨T2, M1, e1, e2, e3, e4⟩ := go_479 (x2 := x2) (x4 := x4) (x7 := nI wr) (x8 := nI n) (x9 := nI many) (x11 := nI i) d h hk hn w
  obtain ⟨hL, hA, hB, hw⟩ := h
  obtain ⟨A', -⟩ := AT_ask (w := w) (AT_cg e2 hA) hk (by omega)
  have B1 := hB.fr e4
  have ba := bth_ask (w := w) hB hA rfl e2 hk hn
  have ew : nI wr + bI w = nI (wr + (if bI w = 0 then 0 else 1)) := by
    cases w with
    | false => rw [if_pos (show bI false = 0 from rfl)]; exact Int32.add_zero _
    | true => rw [if_neg (show ¬ bI true = 0 by decide)]; exact lt_iA (j := wr) (k := 1)
  have wle : wr + (if bI w = 0 then 0 else 1) ≤ n + 1 := by split <;> omega
  rw [ew] at e1
  generalize wr + (if bI w = 0 then 0 else 1) = wr' at A' e1 wle
  -- behind the law's own
  have fin : ∀ (M2 : LM) (x17 : Int32), LW M2 (askT kf (fun _ => 0) W n k w T2) (rpush R 6 T) 6 → FX TT 0 0 M M2 → BTH x6 M2 (askT kf (fun _ => 0) W n k w T2) o5 zc pp rr ro z (kfU kf n k) (n + 1) → ((x6 = 0 ∧ x17 = 0) ∨ x17 = 6) → ∃ M' T' R', f_L_areCaches_566 (d + 14) M2 2 1 x2 x4 o5 x6 (nI wr') (nI n) (nI many) (nI k) (nI i) (nI k) x17 = f_L_areCaches_391 (d + 14) M' 2 1 x2 x4 o5 x6 (nI wr') (nI (n + 1)) (nI many) (nI k) (nI (i + 1)) ∧ ACS x6 z c W (kfU kf n k) (n + 1) wr' tm M' T' R' o5 zc pp rr ro ∧ FX TT 0 0 M M' := by
    intro M2 x17 L2 F2 B2 hc
    have wh : f_L_isWhole (d + 13) M2 2 (nI (n + 1)) (nI wr') = _ := l_isWhole d L2.1 A'.1 (AT_WH A') (by omega) A'.2.1 A'.2.2.1
    have body : lt_nz 8 (if @Eq Int32 (nI i - nI i / 8 * 8) 0 then (lt_bi (f_L_isWhole (d + 13) M2 2 (nI n + 1) (nI wr')) [] fun v152 M151 => if @Eq Int32 v152 0 then (lt_b1 0 (some (.inl (some (.int 0)), M151))) else (f_L_areCaches_391 (d + 14) M151 2 1 x2 x4 o5 x6 (nI wr') (nI n + 1) (nI many) (nI k) (nI i + 1))) else (f_L_areCaches_391 (d + 14) M2 2 1 x2 x4 o5 x6 (nI wr') (nI n + 1) (nI many) (nI k) (nI i + 1))) = f_L_areCaches_391 (d + 14) M2 2 1 x2 x4 o5 x6 (nI wr') (nI (n + 1)) (nI many) (nI k) (nI (i + 1)) := by
      rw [lt_nz_t (by decide), nI_p1 (a := n), nI_p1 (a := i), wh, lt_bi_r, if_neg (show ¬ (1 : Int32) = 0 by decide)]
      split <;> rfl
    refine ⟨M2, _, _, ?_, ⟨L2, A', B2, wle⟩, F2⟩
    rw [e_L_areCaches_566]
    rcases hc with ⟨c1, c2⟩ | c2
    · rw [c2, if_pos (by decide), if_pos c1]
      exact body
    · rw [c2, if_neg (by decide)]
      exact body
  rcases ba with h0 | ⟨h1, hh⟩
  · obtain ⟨M', T', R', f1, f2, f3⟩ := fin M1 0 e3 (FX.of e4) (Or.inl h0) (Or.inl ⟨h0, rfl⟩)
    exact ⟨M', T', R', wr', e1.trans f1, f2, f3⟩
  · rcases B1 with b | ⟨b1, b2, b3⟩
    · rw [b] at h1; cases h1
    · obtain ⟨M2, p1, p2, p3, p4, p5⟩ := pl_566 (key := k) (x2 := x2) (x4 := x4) (x7 := nI wr') (x8 := nI n) (x9 := nI many) (x10 := nI k) (x11 := nI i) (d + 11) hs hk (fun i hi => ⟨(b3 i hi).2.2.1, by have := (b3 i hi).1; omega⟩) 6 0 M1 _ (by omega) e3 b2 (fun j _ hj => ⟨(b3 j hj).2.2.2.1, by have := (b3 j hj).2.2.2.2.1; omega⟩)
      have p1' : f_L_areCaches_566 (d + 14) M1 2 1 x2 x4 o5 1 (nI wr') (nI n) (nI many) (nI k) (nI i) (nI k) 0 = _ := p1
      have B2 : BTH x6 M2 (askT kf (fun _ => 0) W n k w T2) o5 zc pp rr ro z (kfU kf n k) (n + 1) := by
        refine Or.inr ⟨h1, ?_, fun i hi => ?_⟩
        · obtain ⟨k1, k2, k3, k4, k5, k6⟩ := p4
          refine ⟨k1, k2, k3, k4, k5, fun i hi => ?_⟩
          obtain ⟨q1, q2, q3, q4⟩ := k6 i hi
          dsimp only at q2
          rw [if_pos (show 0 ≤ i ∧ i < 6 by omega)] at q2
          obtain ⟨cl, r1, r2, r3, r4, r5⟩ := hh i hi
          rw [← r5] at q2
          exact ⟨q1, q2, q3, q4⟩
        · obtain ⟨cl, r1, r2, r3, r4, r5⟩ := hh i hi
          exact ⟨(b3 i hi).1, (b3 i hi).2.1, (b3 i hi).2.2.1, r3, r4, cl, r1, r2⟩
      obtain ⟨M', T', R', f1, f2, f3⟩ := fin M2 6 p2 ((FX.of e4).tr p3) B2 (Or.inr rfl)
      refine ⟨M', T', R', wr', e1.trans ?_, f2, f3⟩
      rw [b1] at f1 ⊢
      exact p1'.trans f1
theorem go_464 (d : Nat) (hs : ∀ k, k < 26 → 1 ≤ z k ∧ z k ≤ 8) (h : ACS x6 z c W kf n wr tm M T R o5 zc pp rr ro) (hk : k < 26) (hn : n < 100) (hx : many < 1000) (hi : i < many) : ∃ M' T' R' wr', f_L_areCaches_464 (d + 14) M 2 1 x2 x4 o5 x6 (nI wr) (nI n) (nI many) (nI i) (nI k) = f_L_areCaches_391 (d + 14) M' 2 1 x2 x4 o5 x6 (nI wr') (nI (n + 1)) (nI many) (nI k) (nI (i + 1)) ∧ ACS x6 z c W (kfU kf n k) (n + 1) wr' tm M' T' R' o5 zc pp rr ro ∧ FX TT 0 0 M M' := by
  have en : f_X11_n (d + 13) M 1 4 = _ := draw_n (m := 4) (d + 12) h.1.2 (by omega) (by omega)
  rw [e_L_areCaches_464, lt_ck_t h.1.2, en, lt_bi_r]
  by_cases q : nI (drv M 4) = 0
  · obtain ⟨M', T', R', wr', f1, f2, f3⟩ := go_566 (x2 := x2) (x4 := x4) d hs h.dr hk hn true hx hi
    rw [if_pos q]
    exact ⟨M', T', R', wr', f1, f2, FX_drw.tr f3⟩
  · obtain ⟨M', T', R', wr', f1, f2, f3⟩ := go_566 (x2 := x2) (x4 := x4) d hs h.dr hk hn false hx hi
    rw [if_neg q]
    exact ⟨M', T', R', wr', f1, f2, FX_drw.tr f3⟩
theorem go_461 (d : Nat) (hs : ∀ k, k < 26 → 1 ≤ z k ∧ z k ≤ 8) (h : ACS x6 z c W kf n wr tm M T R o5 zc pp rr ro) (hy : 0 < y) (hyk : y ≤ ky) (hky : ky ≤ 26) (hn : n < 100) (hx : many < 1000) (hi : i < many) : ∃ M' T' R' wr' k, k < ky ∧ f_L_areCaches_461 (d + 14) M 2 1 x2 x4 o5 x6 (nI wr) (nI n) (nI many) (nI i) (nI y) 1 = f_L_areCaches_391 (d + 14) M' 2 1 x2 x4 o5 x6 (nI wr') (nI (n + 1)) (nI many) (nI k) (nI (i + 1)) ∧ ACS x6 z c W (kfU kf n k) (n + 1) wr' tm M' T' R' o5 zc pp rr ro ∧ FX TT 0 0 M M' := by
  have en : f_X11_n (d + 13) M 1 (nI y) = _ := draw_n (m := y) (d + 12) h.1.2 hy (by omega)
  have lt := drv_lt (M := M) hy
  obtain ⟨M', T', R', wr', f1, f2, f3⟩ := go_464 (k := drv M y) (x2 := x2) (x4 := x4) d hs h.dr (by omega) hn hx hi
  rw [e_L_areCaches_461, lt_ck_t h.1.2, en, lt_bi_r]
  exact ⟨M', T', R', wr', drv M y, by omega, f1, f2, FX_drw.tr f3⟩
theorem go_426 (d : Nat) (hs : ∀ k, k < 26 → 1 ≤ z k ∧ z k ≤ 8) (h : ACS x6 z c W kf n wr tm M T R o5 zc pp rr ro) (hky0 : 0 < ky) (hky : ky ≤ 26) (hl : k < ky) (hn : n < 100) (hx : many < 1000) (hi : i < many) : ∃ M' T' R' wr' k', k' < ky ∧ f_L_areCaches_426 (d + 14) M 2 1 (nI ky) x4 o5 x6 (nI wr) (nI n) (nI many) (nI k) (nI i) = f_L_areCaches_391 (d + 14) M' 2 1 (nI ky) x4 o5 x6 (nI wr') (nI (n + 1)) (nI many) (nI k') (nI (i + 1)) ∧ ACS x6 z c W (kfU kf n k') (n + 1) wr' tm M' T' R' o5 zc pp rr ro ∧ FX TT 0 0 M M' := by
  have en : f_X11_n (d + 13) M 1 3 = _ := draw_n (m := 3) (d + 12) h.1.2 (by omega) (by omega)
  have h1 := h.dr
  rw [e_L_areCaches_426, lt_ck_t h.1.2, en, lt_bi_r]
  by_cases q : nI (drv M 3) = 0
  · have hm : (k + 1) % ky < ky := Nat.mod_lt _ hky0
    obtain ⟨M', T', R', wr', f1, f2, f3⟩ := go_464 (k := (k + 1) % ky) (x2 := nI ky) (x4 := x4) d hs h1 (by omega) hn hx hi
    rw [if_pos q, lt_nz_t (show ¬ nI ky = 0 from fun e => by have := (lt_iE (j := ky) (k := 0) (by omega) (by omega)).mp e; omega), nI_p1 (a := k), nI_mod (by omega) (by omega)]
    exact ⟨M', T', R', wr', _, hm, f1, f2, FX_drw.tr f3⟩
  · have en2 : f_X11_n (d + 13) (drw M) 1 2 = _ := draw_n (m := 2) (d + 12) h1.1.2 (by omega) (by omega)
    rw [if_neg q, lt_ck_t h1.1.2, en2, lt_bi_r]
    by_cases q2 : nI (drv (drw M) 2) = 0
    · obtain ⟨M', T', R', wr', k', g0, f1, f2, f3⟩ := go_461 (ky := ky) (y := ky) (x2 := nI ky) (x4 := x4) d hs h1.dr hky0 (Nat.le_refl _) hky hn hx hi
      rw [if_pos q2]
      exact ⟨M', T', R', wr', k', g0, f1, f2, (FX_drw.tr FX_drw).tr f3⟩
    · have em : (if (4 : Int32) < nI ky then (4 : Int32) else nI ky) = nI (if 4 < ky then 4 else ky) := by
        have lt : ((4 : Int32) < nI ky) = (4 < ky) := nI_ltP (j := 4) (k := ky) (by omega) (by omega)
        by_cases w : 4 < ky
        · rw [if_pos (by rw [lt]; exact w), if_pos w]; rfl
        · rw [if_neg (by rw [lt]; exact w), if_neg w]
      obtain ⟨M', T', R', wr', k', g0, f1, f2, f3⟩ := go_461 (ky := ky) (y := if 4 < ky then 4 else ky) (x2 := nI ky) (x4 := x4) d hs h1.dr (by split <;> omega) (by split <;> omega) hky hn hx hi
      rw [if_neg q2, j_min, lt_bi_r, em]
      exact ⟨M', T', R', wr', k', g0, f1, f2, (FX_drw.tr FX_drw).tr f3⟩
/-- all requests and passes -/
theorem go_391 (d : Nat) (hs : ∀ k, k < 26 → 1 ≤ z k ∧ z k ≤ 8) (hky0 : 0 < ky) (hky : ky ≤ 26) (hmany : many ≤ 100) : ∀ (m i : Nat) (M : LM) (T : BT) (R : Nat → BT) (kf : Nat → Nat) (n wr tm k : Nat), i + m = many → n ≤ i → tm ≤ 10 * i → k < ky → ACS x6 z c W kf n wr tm M T R o5 zc pp rr ro → ∃ M' T' R' kf' n' wr' tm', f_L_areCaches_391 (d + 14) M 2 1 (nI ky) x4 o5 x6 (nI wr) (nI n) (nI many) (nI k) (nI i) = f_L_areCaches_627 (d + 14) M' 2 1 (nI ky) x4 o5 x6 (nI wr') (nI n') 0 ∧ n' ≤ many ∧ ACS x6 z c W kf' n' wr' tm' M' T' R' o5 zc pp rr ro ∧ FX TT 0 0 M M'
  | 0, i, M, T, R, kf, n, wr, tm, k, him, hn, ht, hk, h => ⟨M, T, R, kf, n, wr, tm, by rw [e_L_areCaches_391, if_neg (by rw [nI_ltP (by omega) (by omega)]; omega)], by omega, h, FX.rf⟩
  | m + 1, i, M, T, R, kf, n, wr, tm, k, him, hn, ht, hk, h => by
    have step : ∀ {M0 : LM}, ACS x6 z c W kf n wr tm M0 T R o5 zc pp rr ro → FX TT 0 0 M M0 → ∃ M' T' R' kf' n' wr' tm', f_L_areCaches_426 (d + 14) M0 2 1 (nI ky) x4 o5 x6 (nI wr) (nI n) (nI many) (nI k) (nI i) = f_L_areCaches_627 (d + 14) M' 2 1 (nI ky) x4 o5 x6 (nI wr') (nI n') 0 ∧ n' ≤ many ∧ ACS x6 z c W kf' n' wr' tm' M' T' R' o5 zc pp rr ro ∧ FX TT 0 0 M M' := by
      intro M0 h0 f0
      obtain ⟨M1, T1, R1, wr1, k1, g0, g1, g2, g3⟩ := go_426 (x4 := x4) d hs h0 hky0 hky hk (show n < 100 by omega) (show many < 1000 by omega) (show i < many by omega)
      obtain ⟨M', T', R', kf', n', wr', tm', f1, f2, f3, f4⟩ := go_391 d hs hky0 hky hmany m (i + 1) M1 T1 R1 _ (n + 1) wr1 tm k1 (by omega) (by omega) (by omega) g0 g2
      exact ⟨M', T', R', kf', n', wr', tm', g1.trans f1, f2, f3, (f0.tr g3).tr f4⟩
    rw [e_L_areCaches_391, if_pos (by rw [nI_ltP (by omega) (by omega)]; omega)]
    by_cases q : x6 = 0
    · have en : f_X11_n (d + 13) M 1 5 = _ := draw_n (m := 5) (d + 12) h.1.2 (by omega) (by omega)
      rw [if_pos q, lt_ck_t h.1.2, en, lt_bi_r]
      by_cases q2 : nI (drv M 5) = 0
      · have h1 := h.dr
        have h2 := h1.dr
        have en2 : f_X11_n (d + 13) (drw M) 1 4 = _ := draw_n (m := 4) (d + 12) h1.1.2 (by omega) (by omega)
        have w4 := drv_lt (M := drw M) (m := 4) (by omega)
        obtain ⟨T2, M1, xx, a0, a1, a2, a3⟩ := q_pass (m := 1 + drv (drw M) 4) (d + 1) h2.1.1 (by omega) (by omega)
        have a1' : f_X10_pass (d + 13) (drw (drw M)) 2 (nI (1 + drv (drw M) 4)) = _ := a1
        have A' := AT_pass (m := 1 + drv (drw M) 4) (AT_cg a0 h2.2.1) (by omega)
        obtain ⟨M', T', R', kf', n', wr', tm', f1, f2, f3, f4⟩ := go_391 d hs hky0 hky hmany m (i + 1) M1 _ _ kf n wr (tm + (1 + drv (drw M) 4)) k (by omega) (by omega) (by omega) hk ⟨LW_FR h2.1 a3 a2, A', Or.inl q, h2.2.2.2⟩
        refine ⟨M', T', R', kf', n', wr', tm', ?_, f2, f3, ((FX_drw.tr FX_drw).tr (FX.of a3)).tr f4⟩
        rw [if_pos q2, lt_ck_t h1.1.2, en2, lt_bi_r, t_ck h2.1.1.1, show (1 : Int32) + nI (drv (drw M) 4) = nI (1 + drv (drw M) 4) from lt_iA (j := 1), a1', lt_bi_r, nI_p1]
        exact f1
      · rw [if_neg q2]
        exact step h.dr FX_drw
    · rw [if_neg q]
      exact step h FX.rf
end Fc
