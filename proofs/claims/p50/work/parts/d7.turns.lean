/-! THE LAW: turns(): changes, and all of them undone -/
section Dh
variable {M M' M0 M1 N : LM} {D i j k t w f n e r a o m s y key h p fed writes ky done ch : Nat} {x v b1 b2 : Int32} {b : Bool} {T T' T2 T0 : BT} {R : Nat → BT} {kf fs W z c ro : Nat → Nat} {kz : Nat → Int32} {S S' : CS} {x3 : Int64}
theorem tail_ok (d : Nat) (hS : SO M T R 6) (hG : ∀ i, i < 6 → IG z (T.2 i)) (hc : ch < 6) {K : LM → Option (LO × LM)} : (lt_ck M 2 26 (lt_bi (f_X10_cacheAt (d + 12) M 2 (nI ch) 6) [] fun v54 M53 => lt_ck M53 2 26 (lt_bi (f_X10_cacheAt (d + 12) M53 2 (nI ch) 4) [] fun v56 M55 => if @LT.lt Int32 _ v56 v54 then (lt_b1 0 (some (.inl (some (.int 0)), M55))) else (K M55)))) = K M := by
  have c6 : f_X10_cacheAt (d + 12) M 2 (nI ch) 6 = _ := q_cacheAt d hS hc (by decide)
  have c4 : f_X10_cacheAt (d + 12) M 2 (nI ch) 4 = _ := q_cacheAt d hS hc (by decide)
  rw [caV_6] at c6
  rw [caV_4] at c4
  rw [t_ck hS.1, c6, lt_bi_r, t_ck hS.1, c4, lt_bi_r, if_neg (IG_dirty (hG ch hc))]
/-- one change of any kind, then what is told of a cache -/
theorem turn_1 (d : Nat) (hky : 1 ≤ ky) (hky2 : ky ≤ 26) (hL : LW M T R 6) (hG : GS z W T n) (hn : n ≤ 290) {K : LM → Option (LO × LM)} :
    ∃ M' T' n', (lt_ck M 1 27 (lt_bi (f_X11_n (d + 13) M 1 6) [] fun v4 M3 => lt_ck M3 1 27 (lt_bi (f_X11_n (d + 13) M3 1 6) [] fun v6 M5 => if @Eq Int32 v4 0 then (lt_ck M5 2 26 (lt_bi (f_X10_flush (d + 13) M5 2 v6) [] fun v52 M51 => lt_ck M51 2 26 (lt_bi (f_X10_cacheAt (d + 13) M51 2 v6 6) [] fun v54 M53 => lt_ck M53 2 26 (lt_bi (f_X10_cacheAt (d + 13) M53 2 v6 4) [] fun v56 M55 => if @LT.lt Int32 _ v56 v54 then (lt_b1 0 (some (.inl (some (.int 0)), M55))) else (K M55))))) else (if @Eq Int32 v4 1 then (lt_ck M5 1 27 (lt_bi (f_X11_n (d + 13) M5 1 30) [] fun v44 M43 => lt_ck M43 2 26 (lt_bi (f_X10_pass (d + 13) M43 2 (1 + v44)) [] fun v46 M45 => lt_ck M45 2 26 (lt_bi (f_X10_cacheAt (d + 13) M45 2 v6 6) [] fun v48 M47 => lt_ck M47 2 26 (lt_bi (f_X10_cacheAt (d + 13) M47 2 v6 4) [] fun v50 M49 => if @LT.lt Int32 _ v50 v48 then (lt_b1 0 (some (.inl (some (.int 0)), M49))) else (K M49)))))) else (if @Eq Int32 v4 2 then (lt_ck M5 1 27 (lt_bi (f_X11_n (d + 13) M5 1 7) [] fun v32 M31 => lt_ck M31 1 27 (lt_bi (f_X11_n (d + 13) M31 1 9) [] fun v34 M33 => lt_ck M33 1 27 (lt_bi (f_X11_n (d + 13) M33 1 4) [] fun v36 M35 => lt_ck M35 2 26 (lt_bi (f_X10_setCache (d + 13) M35 2 v6 v32 (1 + v34) 0 v36) [] fun v38 M37 => lt_ck M37 2 26 (lt_bi (f_X10_cacheAt (d + 13) M37 2 v6 6) [] fun v40 M39 => lt_ck M39 2 26 (lt_bi (f_X10_cacheAt (d + 13) M39 2 v6 4) [] fun v42 M41 => if @LT.lt Int32 _ v42 v40 then (lt_b1 0 (some (.inl (some (.int 0)), M41))) else (K M41)))))))) else (if @Eq Int32 v4 3 then (lt_ck M5 2 26 (lt_bi (f_X10_clearRow (d + 13) M5 2) [] fun v26 M25 => lt_ck M25 2 26 (lt_bi (f_X10_cacheAt (d + 13) M25 2 v6 6) [] fun v28 M27 => lt_ck M27 2 26 (lt_bi (f_X10_cacheAt (d + 13) M27 2 v6 4) [] fun v30 M29 => if @LT.lt Int32 _ v30 v28 then (lt_b1 0 (some (.inl (some (.int 0)), M29))) else (K M29))))) else (if @Eq Int32 v4 4 then (lt_ck M5 1 27 (lt_bi (f_X11_n (d + 13) M5 1 1000) [] fun v14 M13 => lt_ck M13 1 27 (lt_bi (f_X11_n (d + 13) M13 1 5) [] fun v16 M15 => lt_ck M15 1 27 (lt_bi (f_X11_n (d + 13) M15 1 101) [] fun v18 M17 => lt_ck M17 2 26 (lt_bi (f_X10_draw (d + 13) M17 2 v14 (1 + v16) (nI ky) v18) [] fun v20 M19 => lt_ck M19 2 26 (lt_bi (f_X10_cacheAt (d + 13) M19 2 v6 6) [] fun v22 M21 => lt_ck M21 2 26 (lt_bi (f_X10_cacheAt (d + 13) M21 2 v6 4) [] fun v24 M23 => if @LT.lt Int32 _ v24 v22 then (lt_b1 0 (some (.inl (some (.int 0)), M23))) else (K M23)))))))) else (lt_ck M5 2 26 (lt_bi (f_X10_replay (d + 13) M5 2) [] fun v8 M7 => lt_ck M7 2 26 (lt_bi (f_X10_cacheAt (d + 13) M7 2 v6 6) [] fun v10 M9 => lt_ck M9 2 26 (lt_bi (f_X10_cacheAt (d + 13) M9 2 v6 4) [] fun v12 M11 => if @LT.lt Int32 _ v12 v10 then (lt_b1 0 (some (.inl (some (.int 0)), M11))) else (K M11)))))))))))) = K M' ∧ LW M' T' (rpush R 6 T) 6 ∧ GS z W T' n' ∧ n' ≤ n + 5 ∧ FX (fun _ => False) 0 0 M M' := by
  have L1 := LW_drw hL
  have L2 := LW_drw L1
  have F2 : FX (fun _ => False) 0 0 M (drw (drw M)) := FX_drw.tr FX_drw
  have hch := drv_lt (M := drw M) (m := 6) (by omega)
  have en : ∀ {M0 : LM} (mm : Nat), LW M0 T R 6 → 0 < mm → mm < 10000 → f_X11_n (d + 13) M0 1 (nI mm) = some (.inl (some (.int (nI (drv M0 mm)))), drw M0) := fun {M0} mm h h1 h2 => draw_n (d + 12) h.2 h1 (by omega)
  have one : ∀ a : Nat, (1 : Int32) + nI a = nI (1 + a) := fun a => lt_iA (j := 1)
  have tl : ∀ {M0 : LM} {T0 : BT} {R0 : Nat → BT}, SO M0 T0 R0 6 → (∀ i, i < 6 → IG z (T0.2 i)) → (lt_ck M0 2 26 (lt_bi (f_X10_cacheAt (d + 13) M0 2 (nI (drv (drw M) 6)) 6) [] fun v54 M53 => lt_ck M53 2 26 (lt_bi (f_X10_cacheAt (d + 13) M53 2 (nI (drv (drw M) 6)) 4) [] fun v56 M55 => if @LT.lt Int32 _ v56 v54 then (lt_b1 0 (some (.inl (some (.int 0)), M55))) else (K M55)))) = K M0 := fun {M0 T0 R0} h1 h2 => tail_ok (d + 1) h1 h2 hch
  rw [lt_ck_t hL.2, show f_X11_n (d + 13) M 1 6 = _ from en 6 hL (by omega) (by omega), lt_bi_r, lt_ck_t L1.2, show f_X11_n (d + 13) (drw M) 1 6 = _ from en 6 L1 (by omega) (by omega), lt_bi_r]
  have ck : ∀ {M0 : LM} {Z : Option (LO × LM)}, LW M0 T R 6 → lt_ck M0 2 26 Z = Z := fun {M0 Z} h => t_ck h.1.1
  by_cases q0 : nI (drv M 6) = 0
  · obtain ⟨T2, M3, xx, e1, e2, e3, e4⟩ := q_flush (d + 1) L2.1 hch
    have g := GS_flush (GS_cg e1 hG) hch
    rw [if_pos q0, ck L2, show f_X10_flush (d + 13) (drw (drw M)) 2 (nI (drv (drw M) 6)) = _ from e2, lt_bi_r, tl e3 g.2.1]
    exact ⟨M3, _, n, rfl, LW_FR L2 e4 e3, g, by omega, F2.tr (FX.of e4)⟩
  rw [if_neg q0]
  by_cases q1 : nI (drv M 6) = 1
  · have L3 := LW_drw L2
    have v30 := drv_lt (M := drw (drw M)) (m := 30) (by omega)
    obtain ⟨T2, M3, xx, e1, e2, e3, e4⟩ := q_pass (m := 1 + drv (drw (drw M)) 30) (d + 1) L3.1 (by omega) (by omega)
    have g := GS_pass (m := 1 + drv (drw (drw M)) 30) (GS_cg e1 hG)
    rw [if_pos q1, lt_ck_t L2.2, show f_X11_n (d + 13) (drw (drw M)) 1 30 = _ from en 30 L2 (by omega) (by omega), lt_bi_r, ck L3, one, show f_X10_pass (d + 13) (drw (drw (drw M))) 2 (nI (1 + drv (drw (drw M)) 30)) = _ from e2, lt_bi_r, tl e3 g.2.1]
    exact ⟨M3, _, n, rfl, LW_FR L3 e4 e3, g, by omega, (F2.tr FX_drw).tr (FX.of e4)⟩
  rw [if_neg q1]
  by_cases q2 : nI (drv M 6) = 2
  · have L3 := LW_drw L2
    have L4 := LW_drw L3
    have L5 := LW_drw L4
    have w7 := drv_lt (M := drw (drw M)) (m := 7) (by omega)
    have w9 := drv_lt (M := drw (drw (drw M))) (m := 9) (by omega)
    have w4 := drv_lt (M := drw (drw (drw (drw M)))) (m := 4) (by omega)
    obtain ⟨⟨kf, fs, v⟩, -⟩ := id hG
    obtain ⟨T2, M3, xx, e1, e2, e3, e4⟩ := q_setCache (ch := drv (drw M) 6) (ru := drv (drw (drw M)) 7) (ro := 1 + drv (drw (drw (drw M))) 9) (la := 0) (mo := drv (drw (drw (drw (drw M)))) 4) (d + 1) L5.1 v hch (by omega) (by omega) (by omega) (by omega) (by omega)
    have g := GS_set (ru := nI (drv (drw (drw M)) 7)) (la := nI 0) (mo := nI (drv (drw (drw (drw (drw M)))) 4)) (ro := 1 + drv (drw (drw (drw M))) 9) (GS_cg e1 hG) hch (by omega)
    rw [if_pos q2, lt_ck_t L2.2, show f_X11_n (d + 13) (drw (drw M)) 1 7 = _ from en 7 L2 (by omega) (by omega), lt_bi_r, lt_ck_t L3.2, show f_X11_n (d + 13) (drw (drw (drw M))) 1 9 = _ from en 9 L3 (by omega) (by omega), lt_bi_r, lt_ck_t L4.2, show f_X11_n (d + 13) (drw (drw (drw (drw M)))) 1 4 = _ from en 4 L4 (by omega) (by omega), lt_bi_r, ck L5, one, show f_X10_setCache (d + 13) (drw (drw (drw (drw (drw M))))) 2 (nI (drv (drw M) 6)) (nI (drv (drw (drw M)) 7)) (nI (1 + drv (drw (drw (drw M))) 9)) 0 (nI (drv (drw (drw (drw (drw M)))) 4)) = _ from e2, lt_bi_r, tl e3 g.2.1]
    exact ⟨M3, _, n, rfl, LW_FR L5 e4 e3, g, by omega, (((F2.tr FX_drw).tr FX_drw).tr FX_drw).tr (FX.of e4)⟩
  rw [if_neg q2]
  by_cases q3 : nI (drv M 6) = 3
  · obtain ⟨T2, M3, xx, e1, e2, e3, e4⟩ := q_clearRow (d + 1) L2.1
    have g := GS_clear (GS_cg e1 hG)
    rw [if_pos q3, ck L2, show f_X10_clearRow (d + 13) (drw (drw M)) 2 = _ from e2, lt_bi_r, tl e3 g.2.1]
    exact ⟨M3, _, 0, rfl, LW_FR L2 e4 e3, g, by omega, F2.tr (FX.of e4)⟩
  rw [if_neg q3]
  by_cases q4 : nI (drv M 6) = 4
  · have L3 := LW_drw L2
    have L4 := LW_drw L3
    have L5 := LW_drw L4
    have w5 := drv_lt (M := drw (drw (drw M))) (m := 5) (by omega)
    have w101 := drv_lt (M := drw (drw (drw (drw M)))) (m := 101) (by omega)
    obtain ⟨⟨kf, fs, v⟩, hI, hz⟩ := id hG
    obtain ⟨T', kf', M3, z', e2, e3, e4, e5, e6⟩ := q_draw (Q := fun _ _ T => (∀ i, i < 6 → IG z (T.2 i)) ∧ SZ (T.1 2) z) (x := nI (drv (drw (drw M)) 1000)) (many := 1 + drv (drw (drw (drw M))) 5) (ky := ky) (wr := drv (drw (drw (drw (drw M)))) 101) (fun kf n T k w hq hv hk _ => ask_IG hv hq.2 hq.1 hk) (d + 1) L5.1 v (fun T2 hb => ⟨fun i hi => IG_cg (hb.2.2.2.2 i hi) (hI i hi), SZ_cg hz (fun k hk => (hb.2.2.1 k hk).1)⟩) (by omega) (by omega) hky hky2 (by omega) (by omega)
    rw [if_pos q4, lt_ck_t L2.2, show f_X11_n (d + 13) (drw (drw M)) 1 1000 = _ from en 1000 L2 (by omega) (by omega), lt_bi_r, lt_ck_t L3.2, show f_X11_n (d + 13) (drw (drw (drw M))) 1 5 = _ from en 5 L3 (by omega) (by omega), lt_bi_r, lt_ck_t L4.2, show f_X11_n (d + 13) (drw (drw (drw (drw M)))) 1 101 = _ from en 101 L4 (by omega) (by omega), lt_bi_r, ck L5, one, show f_X10_draw (d + 13) (drw (drw (drw (drw (drw M))))) 2 (nI (drv (drw (drw M)) 1000)) (nI (1 + drv (drw (drw (drw M))) 5)) (nI ky) (nI (drv (drw (drw (drw (drw M)))) 101)) = _ from e2, lt_bi_r, tl e3 e6.1]
    exact ⟨M3, T', n + (1 + drv (drw (drw (drw M))) 5), rfl, LW_FR L5 e4 e3, ⟨⟨kf', fs, e5⟩, e6.1, e6.2⟩, by omega, (((F2.tr FX_drw).tr FX_drw).tr FX_drw).tr (FX.of e4)⟩
  · obtain ⟨⟨kf, fs, v⟩, hI, hz⟩ := id hG
    obtain ⟨T2, M3, xx, e1, e2, e3, e4⟩ := q_replay (d + 1) L2.1 v
    have g := GS_repl (VL_cg v e1) (fun i hi => IG_cg (e1.2.2.2.2 i hi) (hI i hi)) (SZ_cg hz (fun k hk => (e1.2.2.1 k hk).1))
    rw [if_neg q4, ck L2, show f_X10_replay (d + 13) (drw (drw M)) 2 = _ from e2, lt_bi_r, tl e3 g.2.1]
    exact ⟨M3, _, n, rfl, LW_FR L2 e4 e3, g, by omega, F2.tr (FX.of e4)⟩
theorem turns_12 (d : Nat) (hky : 1 ≤ ky) (hky2 : ky ≤ 26) (hd : done ≤ 5) : ∀ (m j : Nat) (M : LM) (T : BT) (R : Nat → BT) (n : Nat), j + m = done → LW M T R 6 → GS z W T n → n ≤ 200 + 5 * j → (j = 0 → T = T0) → (1 ≤ j → R (6 - j) = T0) →
    ∃ M' T' R', f_L_turns_12 (d + 14) M 2 1 (nI ky) x3 (nI done) (nI j) = f_L_turns_191 (d + 14) M' 2 x3 (nI done) 0 ∧ LW M' T' R' 6 ∧ (1 ≤ done → R' (6 - done) = T0) ∧ FX (fun _ => False) 0 0 M M'
  | 0, j, M, T, R, n, hjm, hL, hG, hn, h0, h1 => ⟨M, T, R, by rw [e_L_turns_12, if_neg (by rw [nI_ltP (by omega) (by omega)]; omega)], hL, fun h => by rw [show done = j by omega]; exact h1 (by omega), FX.rf⟩
  | m + 1, j, M, T, R, n, hjm, hL, hG, hn, h0, h1 => by
    obtain ⟨M1, T1, n1, e1, e2, e3, e4, e5⟩ := turn_1 (K := fun M => f_L_turns_12 (d + 14) M 2 1 (nI ky) x3 (nI done) (nI j + 1)) d hky hky2 hL hG (by omega)
    obtain ⟨M', T', R', g1, g2, g3, g4⟩ := turns_12 d hky hky2 hd m (j + 1) M1 T1 (rpush R 6 T) n1 (by omega) e2 e3 (by omega) (fun h => by omega) (fun _ => by
      unfold rpush
      rw [if_neg (by decide)]
      by_cases q : j = 0
      · rw [if_pos (by omega)]; exact h0 q
      · rw [if_neg (by omega), show 6 - (j + 1) + 1 = 6 - j by omega]; exact h1 (by omega))
    refine ⟨M', T', R', ?_, g2, g3, e5.tr g4⟩
    rw [e_L_turns_12, if_pos (by rw [nI_ltP (by omega) (by omega)]; omega)]
    refine e1.trans ?_
    show f_L_turns_12 (d + 14) M1 2 1 (nI ky) x3 (nI done) (nI j + 1) = _
    rw [nI_p1]
    exact g1
theorem turns_191 (d : Nat) (hd : done ≤ 5) (hd1 : 1 ≤ done) (h0 : ∀ i, i < 6 → KS ((T0.2 i).1 0 5)) (hx : x3 = prT T0.2 6 0) : ∀ (m j : Nat) (M : LM) (T : BT), j + m = done → LW M T R (6 - j) → (1 ≤ j → T = R (6 - j)) → R (6 - done) = T0 →
    ∃ M', f_L_turns_191 (d + 14) M 2 x3 (nI done) (nI j) = some (.inl (some (.int 1)), M') ∧ FX (fun _ => False) 0 0 M M'
  | 0, j, M, T, hjm, hL, h1, hR => by
    have hj : j = done := by omega
    have hT : T = T0 := by rw [h1 (by omega), hj]; exact hR
    have hp := l_print d hL.1 (by rw [hT]; exact h0)
    rw [hT, ← hx] at hp
    refine ⟨M, ?_, FX.rf⟩
    rw [e_L_turns_191, if_neg (by rw [nI_ltP (by omega) (by omega)]; omega), hp]
    show (if @Eq Int32 (lg_cmp x3 x3) 0 then lt_b1 1 (some (.inl (some (.int 1)), M)) else lt_b1 0 (some (.inl (some (.int 0)), M)) : Option (LO × LM)) = _
    rw [if_pos (by rw [cmp0])]
    rfl
  | m + 1, j, M, T, hjm, hL, h1, hR => by
    have hS : SO M T R ((5 - j) + 1) := by rw [show 5 - j + 1 = 6 - j by omega]; exact hL.1
    obtain ⟨M1, e1, e2, e3⟩ := q_undo (d + 1) hS
    have L1 := LW_FR hL e3 e2
    rw [show 5 - j = 6 - (j + 1) by omega] at L1
    obtain ⟨M', g1, g2⟩ := turns_191 d hd hd1 h0 hx m (j + 1) M1 (R (6 - (j + 1))) (by omega) L1 (fun _ => rfl) hR
    refine ⟨M', ?_, (FX.of e3).tr g2⟩
    have e5 : (5 : Int32) - nI j = nI (5 - j) := nI_sub (a := 5) (by omega)
    rw [e_L_turns_191, if_pos (by rw [nI_ltP (by omega) (by omega)]; omega), t_ck hL.1.1, show f_X10_undo (d + 13) M 2 = _ from e1, lt_bi_r, e5, if_pos rfl, nI_p1]
    exact g1
theorem l_turns (d : Nat) (hky : 1 ≤ ky) (hky2 : ky ≤ 26) (hL : LW M T R 6) (hG : GS z W T n) (hn : n ≤ 200) (hx : x3 = prT T.2 6 0) : ∃ M', f_L_turns (d + 14) M 2 1 (nI ky) x3 = some (.inl (some (.int 1)), M') ∧ FX (fun _ => False) 0 0 M M' := by
  have L1 := LW_drw hL
  have w5 := drv_lt (M := M) (m := 5) (by omega)
  obtain ⟨M1, T1, R1, a1, a2, a3, a4⟩ := turns_12 (x3 := x3) (T0 := T) (done := 1 + drv M 5) d hky hky2 (by omega) (1 + drv M 5) 0 (drw M) T R n (by omega) L1 hG (by omega) (fun _ => rfl) (fun h => by omega)
  obtain ⟨M2, b1, b2⟩ := turns_191 (R := R1) (done := 1 + drv M 5) d (by omega) (by omega) (fun i hi => IG_KS (hG.2.1 i hi)) hx (1 + drv M 5) 0 M1 T1 (by omega) a2 (fun h => by omega) (a3 (by omega))
  have a1' : f_L_turns_12 (d + 14) (drw M) 2 1 (nI ky) x3 (nI (1 + drv M 5)) 0 = _ := a1
  have b1' : f_L_turns_191 (d + 14) M1 2 x3 (nI (1 + drv M 5)) 0 = _ := b1
  refine ⟨M2, ?_, (FX_drw.tr a4).tr b2⟩
  rw [e_L_turns, lt_ck_t hL.2, show f_X11_n (d + 13) M 1 5 = _ from draw_n (m := 5) (d + 12) hL.2 (by omega) (by omega), lt_bi_r, show (1 : Int32) + nI (drv M 5) = nI (1 + drv M 5) from lt_iA (j := 1), a1', b1']
end Dh
