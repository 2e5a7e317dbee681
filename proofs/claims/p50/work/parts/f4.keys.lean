/-! THE LAW: areCaches(): sizes, costs, owners of keys -/
def KT (z co W : Nat → Nat) (T : BT) : Prop := VL (fun _ => 0) (fun _ => 0) W 0 T ∧ (∀ k, k < 26 → T.1 2 k = nI (z k) ∧ T.1 3 k = nI (co k) ∧ 1 ≤ z k ∧ z k ≤ 8) ∧ T.1 0 4 = 0 ∧ ∀ i, i < 6 → ZR (T.2 i)
section Fe
variable {M M' M0 M1 N : LM} {T T' T2 : BT} {R R' : Nat → BT} {i j k m n x y e s t p a o3 key ky sz cs ow c : Nat} {v x6 x2 x4 : Int32} {W z co : Nat → Nat}
theorem KT_cg (g : BEq T T2) (h : KT z co W T) : KT z co W T2 := by
  obtain ⟨h1, h2, h3, h4⟩ := h
  exact ⟨VL_cg h1 g, fun k hk => ⟨(g.2.2.1 k hk).1.trans (h2 k hk).1, (g.2.2.1 k hk).2.1.trans (h2 k hk).2.1, (h2 k hk).2.2⟩, g.2.1.trans h3, fun i hi => ZR_cg (g.2.2.2.2 i hi) (h4 i hi)⟩
theorem KT_key (h : KT z co W T) (hk : k < 26) (h1 : 1 ≤ sz) (h2 : sz ≤ 8) (h3 : ow ≤ 3) : KT (u1 z k sz) (u1 co k cs) (u1 W k ow) (keyT k (nI sz) (nI cs) (nI ow) T) := by
  obtain ⟨⟨v1, v2, v3, v4, v5⟩, g2, g3, g4⟩ := h
  have e2 : ∀ y, (keyT k (nI sz) (nI cs) (nI ow) T).1 2 y = nI (u1 z k sz y) ∨ 26 ≤ y := fun y => by
    by_cases hy : y < 26
    · left
      show u2 (u2 (u2 T.1 2 k (nI sz)) 3 k (nI cs)) 4 k (nI ow) 2 y = _
      rw [z2_n1 (by decide), z2_n1 (by decide)]
      by_cases w : y = k
      · rw [w, z2_eq, u1e]
      · rw [z2_n2 w, u1_n w]; exact (g2 y hy).1
    · right; omega
  have e3 : ∀ y, y < 26 → (keyT k (nI sz) (nI cs) (nI ow) T).1 3 y = nI (u1 co k cs y) := fun y hy => by
    show u2 (u2 (u2 T.1 2 k (nI sz)) 3 k (nI cs)) 4 k (nI ow) 3 y = _
    rw [z2_n1 (by decide)]
    by_cases w : y = k
    · rw [w, z2_eq, u1e]
    · rw [z2_n2 w, z2_n1 (by decide), u1_n w]; exact (g2 y hy).2.1
  have e4 : ∀ y, y < 26 → (keyT k (nI sz) (nI cs) (nI ow) T).1 4 y = nI (u1 W k ow y) ∧ u1 W k ow y < 4 := fun y hy => by
    show u2 (u2 (u2 T.1 2 k (nI sz)) 3 k (nI cs)) 4 k (nI ow) 4 y = _ ∧ _
    by_cases w : y = k
    · rw [w, z2_eq, u1e]; exact ⟨rfl, by omega⟩
    · rw [z2_n2 w, z2_n1 (by decide), z2_n1 (by decide), u1_n w]; exact v4.1 y hy
  have et : ∀ t, t ≠ 2 → t ≠ 3 → t ≠ 4 → (keyT k (nI sz) (nI cs) (nI ow) T).1 t = T.1 t := fun t h1 h2 h3 => by
    show u2 (u2 (u2 T.1 2 k (nI sz)) 3 k (nI cs)) 4 k (nI ow) t = _
    rw [z2_n1 h3, z2_n1 h2, z2_n1 h1]
  have sz1 : ∀ y, y < 26 → 1 ≤ u1 z k sz y ∧ u1 z k sz y ≤ 8 := fun y hy => by
    by_cases w : y = k
    · rw [w, u1e]; exact ⟨h1, h2⟩
    · rw [u1_n w]; exact (g2 y hy).2.2
  refine ⟨⟨fun i hi => by omega, by rw [et 5 (by decide) (by decide) (by decide)]; exact v2, v3, ⟨e4, fun y hy => ?_⟩, v5⟩, fun y hy => ⟨?_, e3 y hy, sz1 y hy⟩, by rw [et 0 (by decide) (by decide) (by decide)]; exact g3, g4⟩
  · rcases e2 y with q | q
    · rw [q]
      exact (nI_ltP (j := 0) (by omega) (by have := (sz1 y hy).2; omega)).mpr (by have := (sz1 y hy).1; omega)
    · omega
  · rcases e2 y with q | q
    · exact q
    · omega
/-- the sizes' row of ones -/
theorem st_17 (d : Nat) (hL : LW M T R c) : ∀ (m i : Nat) (M : LM) (g : Nat → Int32), i + m = 26 → LW M T R c → AR M o3 26 g → (∀ j, j < i → g j = 1) → ∃ M', f_L_areCaches_17 (d + 15) M 2 1 x2 o3 (nI i) = f_L_areCaches_17 (d + 15) M' 2 1 x2 o3 26 ∧ LW M' T R c ∧ AR M' o3 26 (fun _ => nI 1) ∧ FX TT 0 0 M M'
  | 0, i, M, g, hi, h1, h2, h3 => ⟨M, by rw [show i = 26 by omega]; rfl, h1, h2.cg (fun j hj => (h3 j (by omega)).symm), FX.rf⟩
  | m + 1, i, M, g, hi, h1, h2, h3 => by
    have l26 : nI i < (26 : Int32) := (nI_ltP (j := i) (k := 26) (by omega) (by omega)).mpr (by omega)
    obtain ⟨M', g1, g2, g3, g4⟩ := st_17 d hL m (i + 1) (wI M o3 i 1) _ (by omega) (LW_wI h1 h2.own) (h2.wr (i := i) (x := 1)) (fun j hj => by
      by_cases w : j = i
      · rw [if_pos w]
      · rw [if_neg w]; exact h3 j (by omega))
    refine ⟨M', ?_, g2, g3, (FX_wI (P := TT) trivial).tr g4⟩
    rw [e_L_areCaches_17, if_pos l26, h2.ar (by omega), x_m, lt_iN (by omega), nI_p1]
    exact g1
/-- a key gets its size, cost, owner -/
theorem key_1 (d : Nat) (hL : LW M T R c) (hK : KT z co W T) (hA : AR M o3 26 (fun k => nI (z k))) (hk : k < 26) (hs1 : 1 ≤ sz) (hs2 : sz ≤ 8) (hc : cs ≤ 1000) (ho : ow ≤ 3) : ∃ M' T' R' c' xx, f_X10_setKey (d + 14) M 2 (nI k) (nI sz) (nI cs) (nI ow) = some (.inl (some (.int xx)), M') ∧ LW M' T' R' c' ∧ KT (u1 z k sz) (u1 co k cs) (u1 W k ow) T' ∧ AR M' o3 26 (fun k => nI (z k)) ∧ FX TT 0 0 M M' := by
  obtain ⟨T2, M', xx, e0, e1, e2, e3⟩ := q_setKey (ky := k) (sz := sz) (co := cs) (ow := ow) (d + 2) hL.1 hk hs1 hs2 hc ho (fun i hi => by
    obtain ⟨h5, -, -, -, -, h1, -, h2, -⟩ := hK.2.2.2 i hi
    exact ⟨h5 5 (by omega) (by omega), h1, h2⟩)
  exact ⟨M', _, _, _, xx, e1, LW_FR hL e3 e2, KT_key (KT_cg e0 hK) hk hs1 hs2 ho, hA.kp (P := fun _ => False) (FX.of e3) (fun q => q), FX.of e3⟩
end Fe
