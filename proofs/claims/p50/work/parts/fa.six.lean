/-! THE LAW: areCaches(): all six, with the law's own -/
section Fk
variable {M M' M0 M1 N : LM} {T T' T2 : BT} {R R' : Nat → BT} {j k n x y a o3 o5 zc ky ru c' s' : Nat} {x2 x4 : Int32} {W z co : Nat → Nat} {P : Nat → Prop}
theorem cp_160 (d : Nat) : ∀ (m i : Nat) (M : LM) (T : BT) (R : Nat → BT) (c : Nat) (pp rr ro : Nat → Nat), i + m = 6 → CS0 z co W i M T R c → PC1 M o5 zc pp rr ro z i → CPn z rr ro i T → ∃ M' T' R' c' pp' rr' ro', f_L_areCaches_160 (d + 15) M 2 1 x2 zc x4 o5 1 (nI i) = f_L_areCaches_160 (d + 15) M' 2 1 x2 zc x4 o5 1 6 ∧ CS0 z co W 6 M' T' R' c' ∧ PC1 M' o5 zc pp' rr' ro' z 6 ∧ CPn z rr' ro' 6 T' ∧ FX TT (3 * m) (60 * m) M M'
  | 0, i, M, T, R, c, pp, rr, ro, hi, h, hp, hq => by
    have e6 : i = 6 := by omega
    rw [e6] at h hp hq
    exact ⟨M, T, R, c, pp, rr, ro, by rw [e6]; rfl, h, hp, hq, FX.rf⟩
  | m + 1, i, M, T, R, c, pp, rr, ro, him, h, hp, hq => by
    have hi : i < 6 := by omega
    have l6 : nI i < (6 : Int32) := (nI_ltP (j := i) (k := 6) (by omega) (by omega)).mpr hi
    have en : ∀ {M0 : LM} {T0 : BT} {R0 : Nat → BT} {c0 : Nat} (mm : Nat), LW M0 T0 R0 c0 → 0 < mm → mm < 10000 → f_X11_n (d + 14) M0 1 (nI mm) = some (.inl (some (.int (nI (drv M0 mm)))), drw M0) := fun {M0 T0 R0 c0} mm h h1 h2 => draw_n (d + 13) h.2 h1 (by omega)
    have dk : ∀ {M0 : LM}, PC1 M0 o5 zc pp rr ro z i → PC1 (drw M0) o5 zc pp rr ro z i := fun {M0} g => g.kp (P := fun _ => False) FX_drw (fun q => q) (fun q => q) (fun _ _ _ _ q => q)
    have h1 := h.dr
    have h2 := h1.dr
    have h3 := h2.dr
    have p3 := dk (dk (dk hp))
    have F3 : FX TT 0 0 M (drw (drw (drw M))) := (FX_drw.tr FX_drw).tr FX_drw
    have go : ∀ bound, 0 < bound → bound ≤ 20 → ∃ M' T' R' c' pp' rr' ro', f_L_areCaches_192 (d + 15) (drw (drw M)) 2 1 x2 zc x4 o5 1 (nI i) (nI (drv M 7)) (nI bound) 1 1 = f_L_areCaches_160 (d + 15) M' 2 1 x2 zc x4 o5 1 6 ∧ CS0 z co W 6 M' T' R' c' ∧ PC1 M' o5 zc pp' rr' ro' z 6 ∧ CPn z rr' ro' 6 T' ∧ FX TT (3 * (m + 1)) (60 * (m + 1)) M M' := by
      intro bound hb0 hb
      have wb := drv_lt (M := drw (drw M)) hb0
      have fin : ∀ ru, (ru = 0 ∨ ru = 2 ∨ ru = 3) → ∃ M' T' R' c' pp' rr' ro', f_L_areCaches_228 (d + 15) (drw (drw (drw M))) 2 1 x2 zc x4 o5 1 (nI i) (nI (1 + drv (drw (drw M)) bound)) (nI ru) = f_L_areCaches_160 (d + 15) M' 2 1 x2 zc x4 o5 1 6 ∧ CS0 z co W 6 M' T' R' c' ∧ PC1 M' o5 zc pp' rr' ro' z 6 ∧ CPn z rr' ro' 6 T' ∧ FX TT (3 * (m + 1)) (60 * (m + 1)) M M' := by
        intro ru hru
        obtain ⟨M1, T1, R1, c1, p1, a1, a2, a3, a4, a5⟩ := cp_228 (x2 := x2) (x4 := x4) (rm := 1 + drv (drw (drw M)) bound) d h3 p3 hq hi hru (by omega) (by omega)
        obtain ⟨M', T', R', c', pp', rr', ro', b1, b2, b3, b4, b5⟩ := cp_160 d m (i + 1) M1 T1 R1 c1 _ _ _ (by omega) a2 a3 a4
        exact ⟨M', T', R', c', pp', rr', ro', a1.trans b1, b2, b3, b4, ((F3.tr a5).tr b5).mo (fun _ _ q => q) (by omega) (by omega)⟩
      rw [e_L_areCaches_192, lt_ck_t h2.1.2, en bound h2.1 hb0 (by omega), lt_bi_r, if_neg (by decide), show (1 : Int32) + nI (drv (drw (drw M)) bound) = nI (1 + drv (drw (drw M)) bound) from lt_iA (j := 1)]
      show ∃ M' T' R' c' pp' rr' ro', (if @Eq Int32 (nI i - nI i / 3 * 3) 1 then _ else (if @Eq Int32 (nI i - nI i / 3 * 3) 2 then _ else _)) = _ ∧ _
      by_cases q1 : nI i - nI i / 3 * 3 = 1
      · rw [if_pos q1]
        exact fin 2 (by omega)
      · rw [if_neg q1]
        by_cases q2 : nI i - nI i / 3 * 3 = 2
        · rw [if_pos q2]
          exact fin 3 (by omega)
        · rw [if_neg q2]
          exact fin 0 (by omega)
    rw [e_L_areCaches_160, if_pos l6, lt_ck_t h.1.2, show f_X11_n (d + 14) M 1 7 = _ from en 7 h.1 (by omega) (by omega), lt_bi_r, lt_ck_t h1.1.2, show f_X11_n (d + 14) (drw M) 1 3 = _ from en 3 h1.1 (by omega) (by omega), lt_bi_r]
    by_cases q : nI (drv (drw M) 3) = 0
    · rw [if_pos q]
      exact go 20 (by omega) (by omega)
    · rw [if_neg q]
      exact go 8 (by omega) (by omega)
theorem cp_BTH {M : LM} {T : BT} {pp rr ro kf : Nat → Nat} (hp : PC1 M o5 zc pp rr ro z 6) (hc : CPn z rr ro 6 T) : BTH 1 M T o5 zc pp rr ro z kf 0 := by
  obtain ⟨k1, k2, k3, k4, k5, k6, k7, k8⟩ := hp
  refine Or.inr ⟨rfl, ⟨k1, k2, k3, k4, k5, fun i hi => ?_⟩, fun i hi => ?_⟩
  · obtain ⟨a1, a2, a3, a4, a5⟩ := k8 i hi
    refine ⟨a1, a2, fun j hj hne => ?_, Or.inl a3⟩
    by_cases q : j < i
    · exact Or.inl (a4 j q)
    · exact Or.inr ((k8 j hj).2.2.2.1 i (by omega))
  · obtain ⟨a1, a2, a3, a4, a5, a6, a7⟩ := k8 i hi
    exact ⟨a5, a6, a7, ⟨rfl, Nat.zero_le _, fun j hj => absurd hj (Nat.not_lt_zero _)⟩, Nat.le_refl _, 0, by omega, hc i hi⟩
end Fk
