/-! THE LAW: areCaches(): one cache set up -/
section Fh
variable {M M' M0 M1 N : LM} {T T' T2 : BT} {R R' : Nat → BT} {i j k m n x y e s t p a o3 o5 key ky ru ro la mo c ch s1 s2 s3 : Nat} {v x6 x2 x4 : Int32} {W z co : Nat → Nat} {S S' : CS}
theorem cp_ge (h : i ≤ c) (hi : i < 6) (hc : c ≤ 6) : i + 1 ≤ cpush c := by
  unfold cpush
  split <;> omega
theorem cs_set (d : Nat) (hL : LW M T R c) (hK : KT z co W T) (hI : ∀ j, j < i → SI z co (T.2 j)) (hi : i < 6) (hc : i ≤ c) (h1 : ru ≤ 6) (h2 : 1 ≤ ro) (h3 : ro ≤ 20) (h4 : la ≤ 1000) (h5 : mo ≤ 3) : ∃ M' T' R' c' xx S, f_X10_setCache (d + 14) M 2 (nI i) (nI ru) (nI ro) (nI la) (nI mo) = some (.inl (some (.int xx)), M') ∧ LW M' T' R' c' ∧ KT z co W T' ∧ (∀ j, j < i + 1 → SI z co (T'.2 j)) ∧ i + 1 ≤ c' ∧ (∀ j, j < 6 → j ≠ i → SEq (T.2 j) (T'.2 j)) ∧ T'.2 i = kEmpty (kSetUp S (nI ru) (nI ro) (nI la) (nI mo)) 0 ∧ (T'.2 i).1 0 1 = nI ro ∧ FR M M' := by
  obtain ⟨T2, M', xx, e0, e1, e2, e3⟩ := q_setCache (ch := i) (ru := ru) (ro := ro) (la := la) (mo := mo) (d + 2) hL.1 hK.1 hi h1 h2 h3 h4 h5
  refine ⟨M', _, _, _, xx, T2.2 i, e1, LW_FR hL e3 e2, KT_set (KT_cg e0 hK), fun j hj => ?_, cp_ge hc hi (SO_c hL.1), fun j hj hne => ?_, ?_, ?_, e3⟩
  · rw [set_2]
    by_cases w : j = i
    · rw [if_pos w]; exact SI_set h5 h3
    · rw [if_neg w]; exact SI_cg (e0.2.2.2.2 j (by omega)) (hI j (by omega))
  · rw [set_2, if_neg hne]; exact e0.2.2.2.2 j hj
  · rw [set_2, if_pos rfl]
  · rw [set_2, if_pos rfl]; exact (kEmpty_0.1 1 (by omega)).trans setUp_1.2.1
theorem cs_share (d : Nat) (hL : LW M T R c) (hK : KT z co W T) (hI : ∀ j, j < i + 1 → SI z co (T.2 j)) (hi : i < 6) (hc : i + 1 ≤ c) (hr : (T.2 i).1 0 1 = nI ro) (h3 : ro ≤ 20) (g1 : s1 ≤ ro) (g2 : s2 ≤ ro - s1) (g3 : s3 ≤ ro - s1 - s2) : ∃ M' T' R' c' xx, f_X10_setShares (d + 14) M 2 (nI i) (nI s1) (nI s2) (nI s3) 0 = some (.inl (some (.int xx)), M') ∧ LW M' T' R' c' ∧ KT z co W T' ∧ (∀ j, j < i + 1 → SI z co (T'.2 j)) ∧ i + 1 ≤ c' ∧ FR M M' := by
  obtain ⟨T2, M', xx, e0, e1, e2, e3⟩ := q_setShares (ch := i) (ro := ro) (s1 := s1) (s2 := s2) (s3 := s3) (d + 2) hL.1 hi hr h3 g1 g2 g3
  refine ⟨M', _, _, _, xx, e1, LW_FR hL e3 e2, KT_share (KT_cg e0 hK) hi, fun j hj => ?_, by have := SO_c hL.1; unfold cpush; split <;> omega, e3⟩
  rw [share_2]
  by_cases w : j = i
  · rw [if_pos w]; exact SI_share (SI_cg (e0.2.2.2.2 i hi) (hI i (by omega)))
  · rw [if_neg w]; exact SI_cg (e0.2.2.2.2 j (by omega)) (hI j (by omega))
/-- without the law's own -/
def CS0 (z co W : Nat → Nat) (i : Nat) (M : LM) (T : BT) (R : Nat → BT) (c : Nat) : Prop := LW M T R c ∧ KT z co W T ∧ (∀ j, j < i → SI z co (T.2 j)) ∧ i ≤ c
theorem CS0.dr (h : CS0 z co W i M T R c) : CS0 z co W i (drw M) T R c := ⟨LW_drw h.1, h.2⟩
theorem cs_279 (d : Nat) (h : CS0 z co W i M T R c) (hi : i < 6) (h1 : ru ≤ 6) (h2 : 1 ≤ ro) (h3 : ro ≤ 20) (h4 : la ≤ 1000) : ∃ M' T' R' c', f_L_areCaches_279 (d + 15) M 2 1 x2 o3 x4 o5 0 (nI i) (nI ro) (nI la) (nI ro) (nI ru) (nI i) 2 = f_L_areCaches_160 (d + 15) M' 2 1 x2 o3 x4 o5 0 (nI (i + 1)) ∧ CS0 z co W (i + 1) M' T' R' c' ∧ FX TT 0 0 M M' := by
  have en : ∀ {M0 : LM} {T0 : BT} {R0 : Nat → BT} {c0 : Nat} (mm : Nat), LW M0 T0 R0 c0 → 0 < mm → mm < 10000 → f_X11_n (d + 14) M0 1 (nI mm) = some (.inl (some (.int (nI (drv M0 mm)))), drw M0) := fun {M0 T0 R0 c0} mm h h1 h2 => draw_n (d + 13) h.2 h1 (by omega)
  have w4 := drv_lt (M := M) (m := 4) (by omega)
  obtain ⟨L0, K0, I0, C0⟩ := h.dr
  obtain ⟨M1, T1, R1, c1, xx, S1, e1, L1, K1, I1, C1, -, -, er, f1⟩ := cs_set (ru := ru) (ro := ro) (la := la) (mo := drv M 4) d L0 K0 I0 hi C0 h1 h2 h3 h4 (by omega)
  rw [e_L_areCaches_279, if_pos rfl, lt_ck_t h.1.2, show f_X11_n (d + 14) M 1 4 = _ from en 4 h.1 (by omega) (by omega), lt_bi_r, t_ck L0.1.1, e1, lt_bi_r, if_pos rfl, lt_ck_t L1.2, show f_X11_n (d + 14) M1 1 3 = _ from en 3 L1 (by omega) (by omega), lt_bi_r, nI_p1]
  have L2 := LW_drw L1
  have F2 : FX TT 0 0 M (drw M1) := (FX_drw.tr (FX.of f1)).tr FX_drw
  by_cases q : (0 : Int32) < nI (drv M1 3)
  · rw [if_pos q]
    exact ⟨drw M1, T1, R1, c1, rfl, ⟨L2, K1, I1, C1⟩, F2⟩
  · have L3 := LW_drw L2
    have L4 := LW_drw L3
    have L5 := LW_drw L4
    have a1 := drv_lt (M := drw M1) (m := ro + 1) (by omega)
    have a2 := drv_lt (M := drw (drw M1)) (m := ro - drv (drw M1) (ro + 1) + 1) (by omega)
    have a3 := drv_lt (M := drw (drw (drw M1))) (m := ro - drv (drw M1) (ro + 1) - drv (drw (drw M1)) (ro - drv (drw M1) (ro + 1) + 1) + 1) (by omega)
    obtain ⟨M2, T2, R2, c2, yy, g1, g2, g3, g4, g5, g6⟩ := cs_share (ro := ro) (s1 := drv (drw M1) (ro + 1)) (s2 := drv (drw (drw M1)) (ro - drv (drw M1) (ro + 1) + 1)) (s3 := drv (drw (drw (drw M1))) (ro - drv (drw M1) (ro + 1) - drv (drw (drw M1)) (ro - drv (drw M1) (ro + 1) + 1) + 1)) d L5 K1 I1 hi C1 er h3 (by omega) (by omega) (by omega)
    rw [if_neg q, lt_ck_t L2.2, nI_p1 (a := ro), en (ro + 1) L2 (by omega) (by omega), lt_bi_r, lt_ck_t L3.2, nI_sub (show drv (drw M1) (ro + 1) ≤ ro by omega), nI_p1, en (ro - drv (drw M1) (ro + 1) + 1) L3 (by omega) (by omega), lt_bi_r, lt_ck_t L4.2, nI_sub (show drv (drw (drw M1)) (ro - drv (drw M1) (ro + 1) + 1) ≤ ro - drv (drw M1) (ro + 1) by omega), nI_p1, en (ro - drv (drw M1) (ro + 1) - drv (drw (drw M1)) (ro - drv (drw M1) (ro + 1) + 1) + 1) L4 (by omega) (by omega), lt_bi_r, t_ck L5.1.1, g1, lt_bi_r]
    exact ⟨M2, T2, R2, c2, rfl, ⟨g2, g3, g4, g5⟩, ((F2.tr FX_drw).tr (FX_drw.tr FX_drw)).tr (FX.of g6)⟩
theorem cs_160 (d : Nat) : ∀ (m i : Nat) (M : LM) (T : BT) (R : Nat → BT) (c : Nat), i + m = 6 → CS0 z co W i M T R c → ∃ M' T' R' c', f_L_areCaches_160 (d + 15) M 2 1 x2 o3 x4 o5 0 (nI i) = f_L_areCaches_160 (d + 15) M' 2 1 x2 o3 x4 o5 0 6 ∧ CS0 z co W 6 M' T' R' c' ∧ FX TT 0 0 M M'
  | 0, i, M, T, R, c, hi, h => by
    have e6 : i = 6 := by omega
    rw [e6] at h
    exact ⟨M, T, R, c, by rw [e6]; rfl, h, FX.rf⟩
  | m + 1, i, M, T, R, c, him, h => by
    have hi : i < 6 := by omega
    have l6 : nI i < (6 : Int32) := (nI_ltP (j := i) (k := 6) (by omega) (by omega)).mpr hi
    have en : ∀ {M0 : LM} {T0 : BT} {R0 : Nat → BT} {c0 : Nat} (mm : Nat), LW M0 T0 R0 c0 → 0 < mm → mm < 10000 → f_X11_n (d + 14) M0 1 (nI mm) = some (.inl (some (.int (nI (drv M0 mm)))), drw M0) := fun {M0 T0 R0 c0} mm h h1 h2 => draw_n (d + 13) h.2 h1 (by omega)
    have h1 := h.dr
    have h2 := h1.dr
    have h3 := h2.dr
    have w7 := drv_lt (M := M) (m := 7) (by omega)
    have F3 : FX TT 0 0 M (drw (drw (drw M))) := (FX_drw.tr FX_drw).tr FX_drw
    -- behind the room
    have go : ∀ bound, 0 < bound → bound ≤ 20 → ∃ M' T' R' c', f_L_areCaches_192 (d + 15) (drw (drw M)) 2 1 x2 o3 x4 o5 0 (nI i) (nI (drv M 7)) (nI bound) 1 1 = f_L_areCaches_160 (d + 15) M' 2 1 x2 o3 x4 o5 0 6 ∧ CS0 z co W 6 M' T' R' c' ∧ FX TT 0 0 M M' := by
      intro bound hb0 hb
      have wb := drv_lt (M := drw (drw M)) hb0
      have h4 := h3.dr
      have h5 := h4.dr
      have fin : ∀ {M0 : LM} (la : Nat), la ≤ 1000 → CS0 z co W i M0 T R c → FX TT 0 0 M M0 → ∃ M' T' R' c', f_L_areCaches_279 (d + 15) M0 2 1 x2 o3 x4 o5 0 (nI i) (nI (1 + drv (drw (drw M)) bound)) (nI la) (nI (1 + drv (drw (drw M)) bound)) (nI (drv M 7)) (nI i) 2 = f_L_areCaches_160 (d + 15) M' 2 1 x2 o3 x4 o5 0 6 ∧ CS0 z co W 6 M' T' R' c' ∧ FX TT 0 0 M M' := by
        intro M0 la hla h0 f0
        obtain ⟨M1, T1, R1, c1, a1, a2, a3⟩ := cs_279 (x2 := x2) (x4 := x4) (o3 := o3) (o5 := o5) (ru := drv M 7) (ro := 1 + drv (drw (drw M)) bound) (la := la) d h0 hi (by omega) (by omega) (by omega) hla
        obtain ⟨M', T', R', c', b1, b2, b3⟩ := cs_160 d m (i + 1) M1 T1 R1 c1 (by omega) a2
        exact ⟨M', T', R', c', a1.trans b1, b2, (f0.tr a3).tr b3⟩
      rw [e_L_areCaches_192, lt_ck_t h2.1.2, en bound h2.1 hb0 (by omega), lt_bi_r, if_pos rfl, show (1 : Int32) + nI (drv (drw (drw M)) bound) = nI (1 + drv (drw (drw M)) bound) from lt_iA (j := 1), e_L_areCaches_247, if_pos rfl, lt_ck_t h3.1.2, show f_X11_n (d + 14) (drw (drw (drw M))) 1 2 = _ from en 2 h3.1 (by omega) (by omega), lt_bi_r]
      by_cases q : nI (drv (drw (drw (drw M))) 2) = 0
      · rw [if_pos q, e_L_areCaches_267]
        exact fin 0 (by omega) h4 (F3.tr FX_drw)
      · have w12 := drv_lt (M := drw (drw (drw (drw M)))) (m := 12) (by omega)
        rw [if_neg q, lt_ck_t h4.1.2, show f_X11_n (d + 14) (drw (drw (drw (drw M)))) 1 12 = _ from en 12 h4.1 (by omega) (by omega), lt_bi_r, show (1 : Int32) + nI (drv (drw (drw (drw (drw M)))) 12) = nI (1 + drv (drw (drw (drw (drw M)))) 12) from lt_iA (j := 1)]
        exact fin _ (by omega) h5 ((F3.tr FX_drw).tr FX_drw)
    rw [e_L_areCaches_160, if_pos l6, lt_ck_t h.1.2, show f_X11_n (d + 14) M 1 7 = _ from en 7 h.1 (by omega) (by omega), lt_bi_r, lt_ck_t h1.1.2, show f_X11_n (d + 14) (drw M) 1 3 = _ from en 3 h1.1 (by omega) (by omega), lt_bi_r]
    by_cases q : nI (drv (drw M) 3) = 0
    · rw [if_pos q]
      exact go 20 (by omega) (by omega)
    · rw [if_neg q]
      exact go 8 (by omega) (by omega)
end Fh
