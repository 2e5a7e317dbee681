/-! THE RELATION: counts, marks, a key used, written to, come in -/
section Rd
variable {N L : Nat} {Q : (Nat → Int32) × (Nat → Int32)} {S S' : CS} {H U U' : Nat → Int32} {k i j t : Nat} {kz kc kw : Nat → Int32} {W : Nat → Nat} {v x : Int32}
theorem RT_o (h : RT S N U) (hi : i = 9 ∨ (11 ≤ i ∧ i < 50) ∨ (128 ≤ i ∧ i < 258) ∨ 284 ≤ i) : RT S N (upd U i v) := by
  obtain ⟨c, q, b1, b2, b3, b4, b5, b6, b7⟩ := h
  have sp : ∀ k, k < 26 → SP (upd U i v) k = SP U k := fun k hk => by
    unfold SP
    rw [upd_o (by omega), upd_o (by omega), upd_o (by omega)]
  exact ⟨c, q, b1, (upd_o (by omega)).trans b2, b3, b4, ISO_sub b5 (fun _ _ e => e) (fun k hk _ => ⟨rfl, upd_o (by omega)⟩), ISO_sub b6 (fun _ _ e => e) (fun k hk _ => ⟨rfl, sp k hk⟩), ISO_sub b7 (fun _ _ e => e) (fun k hk _ => ⟨rfl, upd_o (by omega)⟩)⟩
theorem RF_o (h : RF S U) (hi : 9 ≤ i) : RF S (upd U i v) := RF_q h (fun _ _ => rfl) rfl (fun w hw => upd_o (by omega))
theorem RX_u (h : RX N L Q S U) (hi : 362 ≤ i) : RX N L Q S (upd U i v) := by
  obtain ⟨h1, h2, h3, h4, h5, h6, h7, h8, h9, h10, ⟨c1, c2⟩, h12, h13⟩ := h
  exact ⟨RF_o h1 (by omega), HB_o h2 (by omega), HB_o h3 (by omega), HB_o h4 (by omega), HB_o h5 (by omega), RO_o h6 (by omega), RM_o h7 (by omega), fun k hk hb => (h8 k hk hb).trans (upd_o (by omega)).symm, RW_o h9 (by omega), RT_o h10 (by omega), ⟨fun j hj => (c1 j hj).trans (upd_o (by omega)).symm, fun k hk => ⟨(c2 k hk).1.trans (upd_o (by omega)).symm, (c2 k hk).2.trans (upd_o (by omega)).symm⟩⟩, h12, h13⟩
/-- the cells that this tells of -/
def SF (S S' : CS) : Prop := S'.1 0 = S.1 0 ∧ S'.1 1 = S.1 1 ∧ S'.1 2 = S.1 2 ∧ S'.1 7 = S.1 7 ∧ S'.1 8 = S.1 8 ∧ S'.1 9 = S.1 9 ∧ S'.1 13 = S.1 13 ∧ S'.1 14 = S.1 14 ∧ S'.2 0 = S.2 0 ∧ S'.2 3 = S.2 3 ∧ S'.2 4 = S.2 4 ∧ S'.2 5 = S.2 5
theorem RX_s (h : RX N L Q S U) (g : SF S S') : RX N L Q S' U := by
  obtain ⟨g0, g1, g2, g7, g8, g9, g13, g14, l0, l3, l4, l5⟩ := g
  unfold RX RF RT RN kHasSh at h ⊢
  rw [g0, g1, g2, g7, g8, g9, g13, g14, l0, l3, l4, l5]
  exact h
/-- a count grows alike -/
theorem RX_cnt (h : RX N L Q S U) (hj : j < 9) : RX N L Q (cwi S 7 j (S.1 7 j + v)) (upd U (12 + j) (U (12 + j) + v)) := by
  obtain ⟨h1, h2, h3, h4, h5, h6, h7, h8, h9, h10, ⟨c1, c2⟩, h12, h13⟩ := h
  refine ⟨RF_p h1 (Kp_cwi Kpi7 Kp.rfl') (fun w hw => upd_o (by omega)), HB_o h2 (by omega), HB_o h3 (by omega), HB_o h4 (by omega), HB_o h5 (by omega), RO_o h6 (by omega), RM_o h7 (by omega), fun k hk hb => (h8 k hk hb).trans (upd_o (by omega)).symm, RW_o h9 (by omega), RT_o h10 (by omega), ⟨fun i hi => ?_, fun k hk => ⟨(c2 k hk).1.trans (upd_o (by omega)).symm, (c2 k hk).2.trans (upd_o (by omega)).symm⟩⟩, h12, h13⟩
  by_cases e : i = j
  · rw [e, cwi_e, upd_s, c1 j hj]
  · rw [cwi_n e, upd_o (by omega), c1 i hi]
theorem RX_hits (h : RX N L Q S U) (hk : k < 26) : RX N L Q (cwi S 8 k (S.1 8 k + v)) (upd U (310 + k) (U (310 + k) + v)) := by
  obtain ⟨h1, h2, h3, h4, h5, h6, h7, h8, h9, h10, ⟨c1, c2⟩, h12, h13⟩ := h
  refine ⟨RF_q h1 (fun _ _ => rfl) rfl (fun w hw => upd_o (by omega)), HB_o h2 (by omega), HB_o h3 (by omega), HB_o h4 (by omega), HB_o h5 (by omega), RO_o h6 (by omega), RM_o h7 (by omega), fun k hk hb => (h8 k hk hb).trans (upd_o (by omega)).symm, RW_o h9 (by omega), RT_o h10 (by omega), ⟨fun i hi => (c1 i hi).trans (upd_o (by omega)).symm, fun i hi => ⟨?_, (c2 i hi).2.trans (upd_o (by omega)).symm⟩⟩, h12, h13⟩
  by_cases e : i = k
  · rw [e, cwi_e, upd_s, (c2 k hk).1]
  · rw [cwi_n e, upd_o (by omega), (c2 i hi).1]
theorem RX_miss (h : RX N L Q S U) (hk : k < 26) : RX N L Q (cwi S 9 k (S.1 9 k + v)) (upd U (336 + k) (U (336 + k) + v)) := by
  obtain ⟨h1, h2, h3, h4, h5, h6, h7, h8, h9, h10, ⟨c1, c2⟩, h12, h13⟩ := h
  refine ⟨RF_q h1 (fun _ _ => rfl) rfl (fun w hw => upd_o (by omega)), HB_o h2 (by omega), HB_o h3 (by omega), HB_o h4 (by omega), HB_o h5 (by omega), RO_o h6 (by omega), RM_o h7 (by omega), fun k hk hb => (h8 k hk hb).trans (upd_o (by omega)).symm, RW_o h9 (by omega), RT_o h10 (by omega), ⟨fun i hi => (c1 i hi).trans (upd_o (by omega)).symm, fun i hi => ⟨(c2 i hi).1.trans (upd_o (by omega)).symm, ?_⟩⟩, h12, h13⟩
  by_cases e : i = k
  · rw [e, cwi_e, upd_s, (c2 k hk).2]
  · rw [cwi_n e, upd_o (by omega), (c2 i hi).2]
/-- a set among the others changed alike -/
theorem RX_fet {s : Int32} (h : RX N L Q S U) (hk : k < 26) (hs : HB s (upd U (180 + k) v) 180) : RX N L Q (cwi S 0 9 s) (upd U (180 + k) v) := by
  obtain ⟨h1, h2, h3, h4, h5, h6, h7, h8, h9, h10, ⟨c1, c2⟩, h12, h13⟩ := h
  exact ⟨RF_p h1 (Kp_cwi (Kpi0 (by omega)) Kp.rfl') (fun w hw => upd_o (by omega)), HB_o h2 (by omega), HB_o h3 (by omega), HB_o h4 (by omega), hs, RO_o h6 (by omega), RM_o h7 (by omega), fun k hk hb => (h8 k hk hb).trans (upd_o (by omega)).symm, RW_o h9 (by omega), RT_o h10 (by omega), ⟨fun i hi => (c1 i hi).trans (upd_o (by omega)).symm, fun i hi => ⟨(c2 i hi).1.trans (upd_o (by omega)).symm, (c2 i hi).2.trans (upd_o (by omega)).symm⟩⟩, h12, h13⟩
theorem RX_mrk {s : Int32} (h : RX N L Q S U) (hk : k < 26) (hs : HB s (upd U (206 + k) v) 206) : RX N L Q (cwi S 0 7 s) (upd U (206 + k) v) := by
  obtain ⟨h1, h2, h3, h4, h5, h6, h7, h8, h9, h10, ⟨c1, c2⟩, h12, h13⟩ := h
  exact ⟨RF_p h1 (Kp_cwi (Kpi0 (by omega)) Kp.rfl') (fun w hw => upd_o (by omega)), HB_o h2 (by omega), HB_o h3 (by omega), hs, HB_o h5 (by omega), RO_o h6 (by omega), RM_o h7 (by omega), fun k hk hb => (h8 k hk hb).trans (upd_o (by omega)).symm, RW_o h9 (by omega), RT_o h10 (by omega), ⟨fun i hi => (c1 i hi).trans (upd_o (by omega)).symm, fun i hi => ⟨(c2 i hi).1.trans (upd_o (by omega)).symm, (c2 i hi).2.trans (upd_o (by omega)).symm⟩⟩, h12, h13⟩
theorem RX_dty {s : Int32} (h : RX N L Q S U) (hk : k < 26) (hs : HB s (upd U (154 + k) v) 154) : RX N L Q (cwi S 0 6 s) (upd U (154 + k) v) := by
  obtain ⟨h1, h2, h3, h4, h5, h6, h7, h8, h9, h10, ⟨c1, c2⟩, h12, h13⟩ := h
  exact ⟨RF_p h1 (Kp_cwi (Kpi0 (by omega)) Kp.rfl') (fun w hw => upd_o (by omega)), HB_o h2 (by omega), hs, HB_o h4 (by omega), HB_o h5 (by omega), RO_o h6 (by omega), RM_o h7 (by omega), fun k hk hb => (h8 k hk hb).trans (upd_o (by omega)).symm, RW_o h9 (by omega), RT_o h10 (by omega), ⟨fun i hi => (c1 i hi).trans (upd_o (by omega)).symm, fun i hi => ⟨(c2 i hi).1.trans (upd_o (by omega)).symm, (c2 i hi).2.trans (upd_o (by omega)).symm⟩⟩, h12, h13⟩
theorem RX_min (h : RX N L Q S U) (hk : k < 26) : RX N L Q (cwi S 2 k v) (upd U (128 + k) v) := by
  obtain ⟨h1, h2, h3, h4, h5, h6, h7, h8, h9, h10, ⟨c1, c2⟩, h12, h13⟩ := h
  refine ⟨RF_p h1 (Kp_cwi Kpi2 Kp.rfl') (fun w hw => upd_o (by omega)), HB_o h2 (by omega), HB_o h3 (by omega), HB_o h4 (by omega), HB_o h5 (by omega), RO_o h6 (by omega), RM_o h7 (by omega), fun j hj hb => ?_, RW_o h9 (by omega), RT_o h10 (by omega), ⟨fun i hi => (c1 i hi).trans (upd_o (by omega)).symm, fun i hi => ⟨(c2 i hi).1.trans (upd_o (by omega)).symm, (c2 i hi).2.trans (upd_o (by omega)).symm⟩⟩, h12, h13⟩
  by_cases e : j = k
  · rw [e, cwi_e, upd_s]
  · rw [cwi_n e, upd_o (by omega)]
    exact h8 j hj hb
/-- 840 times the cost, divided by the size -/
theorem KY_w (hK : KY kz kc kw W H) (hk : k < 26) : ∃ m, m ≤ 840000 ∧ 840 * kc k / kz k = nI m ∧ 840 * H (28 + k) / H (2 + k) = nI m := by
  obtain ⟨⟨z, z1, z2, z3, z4⟩, ⟨c, c1, c2, c3⟩, -⟩ := hK k hk
  have e : (840 : Int32) * nI c / nI z = nI (840 * c / z) := by
    rw [show (840 : Int32) * nI c = nI (840 * c) from lt_iM (j := 840) (k := c), nI_div (by omega) (by omega)]
  have hle : 840 * c / z ≤ 840 * c := Nat.div_le_self _ _
  exact ⟨840 * c / z, by omega, by rw [c2, z3, e], by rw [c3, z4, e]⟩
/-- a held key used -/
theorem RX_use (h : RX N L Q S U) (hK : KY kz kc kw W H) (hk : k < 26) (hb : bt (S.1 0 5) k = true) (hN : N + 1 < 2147483648) (hL : L + 840000 < 2147483648) : RX (N + 1) (L + 840000) Q (kUse kz kc S k) (qUsed H U k) := by
  obtain ⟨h1, h2, h3, h4, h5, h6, h7, h8, h9, ⟨c, q, b1, b2, b3, b4, b5, b6, b7⟩, ⟨c1, c2⟩, h12, h13⟩ := h
  obtain ⟨m, m1, m2, m3⟩ := KY_w hK hk
  have e1 : S.1 0 12 + 1 = nI (c + 1) := by rw [b1]; exact lt_iA (j := c) (k := 1)
  have e2 : U 10 + 1 = nI (q + 1) := by rw [b2]; exact lt_iA (j := q) (k := 1)
  unfold kUse qUsed
  rw [e1, e2, m2, m3]
  have lo : ∀ w, w < 10 → upd (upd (upd U 10 (nI (q + 1))) (76 + k) (nI (q + 1))) (284 + k) (U 11 + nI m) w = U w := fun w hw => by
    rw [upd_o (by omega), upd_o (by omega), upd_o (by omega)]
  have gg : ∀ w, w ≠ 10 → w ≠ 76 + k → w ≠ 284 + k → upd (upd (upd U 10 (nI (q + 1))) (76 + k) (nI (q + 1))) (284 + k) (U 11 + nI m) w = U w := fun w a1 a2 a3 => by
    rw [upd_o a3, upd_o a2, upd_o a1]
  refine ⟨RF_p h1 (Kp_cwl (by omega) (by omega) (Kp_cwl (by omega) (by omega) (Kp_cwi (Kpi0 (by omega)) Kp.rfl'))) lo, ?_, ?_, ?_, ?_, ?_, ?_, ?_, ?_, ?_, ?_, h12, h13⟩
  · exact HB_o (HB_o (HB_o h2 (by omega)) (by omega)) (by omega)
  · exact HB_o (HB_o (HB_o h3 (by omega)) (by omega)) (by omega)
  · exact HB_o (HB_o (HB_o h4 (by omega)) (by omega)) (by omega)
  · exact HB_o (HB_o (HB_o h5 (by omega)) (by omega)) (by omega)
  · exact RO_o (RO_o (RO_o h6 (by omega)) (by omega)) (by omega)
  · exact RM_o (RM_o (RM_o h7 (by omega)) (by omega)) (by omega)
  · intro j hj hb
    rw [gg _ (by omega) (by omega) (by omega)]
    exact h8 j hj hb
  · obtain ⟨⟨l, l1, l2, l3⟩, h9⟩ := h9
    refine ⟨⟨l, by omega, (gg 11 (by omega) (by omega) (by omega)).trans l2, l3⟩, fun j hj hb => ?_⟩
    by_cases e : j = k
    · refine ⟨l + m, by omega, ?_, ?_⟩
      · rw [e, upd_s, l2]
        exact lt_iA
      · rw [e]
        show u2 (u2 S.2 3 k (Int32.toInt64 (nI (c + 1)))) 5 k (S.2 0 11 + Int32.toInt64 (nI m)) 5 k = _
        rw [z2_eq, l3, L64_add (by omega)]
    · obtain ⟨l', a1, a2, a3⟩ := h9 j hj hb
      refine ⟨l', by omega, (gg _ (by omega) (by omega) (by omega)).trans a2, ?_⟩
      show u2 (u2 S.2 3 k (Int32.toInt64 (nI (c + 1)))) 5 k (S.2 0 11 + Int32.toInt64 (nI m)) 5 j = _
      rw [z2_n2 e]
      exact a3
  · refine ⟨c + 1, q + 1, rfl, ?_, by omega, by omega, ?_, ?_, ?_⟩
    · rw [upd_o (by omega), upd_o (by omega), upd_s]
    · refine ISO_new b5 hk ?_ ?_ (fun j _ _ h => h) (fun j hj hne _ => ⟨?_, gg _ (by omega) (by omega) (by omega)⟩)
      · show u2 (u2 S.2 3 k (Int32.toInt64 (nI (c + 1)))) 5 k (S.2 0 11 + Int32.toInt64 (nI m)) 3 k = _
        rw [z2_n1 (by omega), z2_eq]
      · rw [upd_o (by omega), upd_s]
      · show u2 (u2 S.2 3 k (Int32.toInt64 (nI (c + 1)))) 5 k (S.2 0 11 + Int32.toInt64 (nI m)) 3 j = _
        rw [z2_n1 (by omega), z2_n2 hne]
    · refine ISO_mono (ISO_sub b6 (fun j _ h => h) (fun j hj _ => ⟨rfl, ?_⟩)) (by omega) (by omega)
      unfold SP
      rw [lo 0 (by omega), gg _ (by omega) (by omega) (by omega), gg _ (by omega) (by omega) (by omega)]
    · exact ISO_mono (ISO_sub b7 (fun j _ h => h) (fun j hj _ => ⟨rfl, gg _ (by omega) (by omega) (by omega)⟩)) (by omega) (by omega)
  · exact ⟨fun j hj => (c1 j hj).trans (gg _ (by omega) (by omega) (by omega)).symm, fun i hi => ⟨(c2 i hi).1.trans (gg _ (by omega) (by omega) (by omega)).symm, (c2 i hi).2.trans (gg _ (by omega) (by omega) (by omega)).symm⟩⟩
end Rd
