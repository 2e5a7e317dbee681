/-! THE RELATION: a key put out -/
section Rh'
variable {N L : Nat} {Q : (Nat → Int32) × (Nat → Int32)} {S S' : CS} {H U U' A B F : Nat → Int32} {k i j t t' j' e y w r : Nat} {kz kc kw : Nat → Int32} {W : Nat → Nat} {v v' x set these beyond ln : Int32} {z : Int64} {kept : Option Nat} {can : Nat → Bool}
theorem cwi_sw (h : t ≠ t' ∨ j ≠ j') : cwi (cwi S t j v) t' j' v' = cwi (cwi S t' j' v') t j v := by
  unfold cwi
  congr 1
  funext a b
  show (if a = t' ∧ b = j' then v' else if a = t ∧ b = j then v else S.1 a b) = if a = t ∧ b = j then v else if a = t' ∧ b = j' then v' else S.1 a b
  by_cases c1 : a = t' ∧ b = j'
  · rw [if_pos c1, if_neg (by omega), if_pos c1]
  · rw [if_neg c1, if_neg c1]
theorem kTake0_10 : kTake0 (cwi S 0 10 v) k = cwi (kTake0 S k) 0 10 v := by
  show cwi (cwi (cwi (cwi (cwi (cwi S 0 10 v) 0 5 (S.1 0 5 &&& (bb k ^^^ -1))) 0 6 (S.1 0 6 &&& (bb k ^^^ -1))) 0 7 (S.1 0 7 &&& (bb k ^^^ -1))) 0 8 (S.1 0 8 &&& (bb k ^^^ -1))) 0 9 (S.1 0 9 &&& (bb k ^^^ -1)) = _
  rw [cwi_sw (j := 10) (j' := 5) (by omega), cwi_sw (j := 10) (j' := 6) (by omega), cwi_sw (j := 10) (j' := 7) (by omega), cwi_sw (j := 10) (j' := 8) (by omega), cwi_sw (j := 10) (j' := 9) (by omega)]
  rfl
theorem kTake0_12 : kTake0 (cwi S 0 12 v) k = cwi (kTake0 S k) 0 12 v := by
  show cwi (cwi (cwi (cwi (cwi (cwi S 0 12 v) 0 5 (S.1 0 5 &&& (bb k ^^^ -1))) 0 6 (S.1 0 6 &&& (bb k ^^^ -1))) 0 7 (S.1 0 7 &&& (bb k ^^^ -1))) 0 8 (S.1 0 8 &&& (bb k ^^^ -1))) 0 9 (S.1 0 9 &&& (bb k ^^^ -1)) = _
  rw [cwi_sw (j := 12) (j' := 5) (by omega), cwi_sw (j := 12) (j' := 6) (by omega), cwi_sw (j := 12) (j' := 7) (by omega), cwi_sw (j := 12) (j' := 8) (by omega), cwi_sw (j := 12) (j' := 9) (by omega)]
  rfl
theorem kTake_10 : kTake (cwi S 0 10 v) k = cwi (kTake S k) 0 10 v := by
  show kTake0 (if bt (S.1 0 6) k = true then cwi (cwi S 0 10 v) 7 4 (S.1 7 4 + 1) else cwi S 0 10 v) k = cwi (kTake0 (if bt (S.1 0 6) k = true then cwi S 7 4 (S.1 7 4 + 1) else S) k) 0 10 v
  split
  · rw [cwi_sw (j := 10) (j' := 4) (by omega), kTake0_10]
  · exact kTake0_10
theorem kTake_12 : kTake (cwi S 0 12 v) k = cwi (kTake S k) 0 12 v := by
  show kTake0 (if bt (S.1 0 6) k = true then cwi (cwi S 0 12 v) 7 4 (S.1 7 4 + 1) else cwi S 0 12 v) k = cwi (kTake0 (if bt (S.1 0 6) k = true then cwi S 7 4 (S.1 7 4 + 1) else S) k) 0 12 v
  split
  · rw [cwi_sw (j := 12) (j' := 4) (by omega), kTake0_12]
  · exact kTake0_12
theorem kTake_l : kTake (cwl S t j z) k = cwl (kTake S k) t j z := by
  show kTake0 (if bt (S.1 0 6) k = true then cwl (cwi S 7 4 (S.1 7 4 + 1)) t j z else cwl S t j z) k = cwl (kTake0 (if bt (S.1 0 6) k = true then cwi S 7 4 (S.1 7 4 + 1) else S) k) t j z
  split <;> rfl
theorem kTake_f0 (hj : j < 5 ∨ 9 < j) : (kTake S k).1 0 j = S.1 0 j := by
  unfold kTake kTake0
  split <;> simp (disch := omega) only [cwi_1, cwi_2, z2_eq, z2_n1, z2_n2]
theorem kTake_fl : (kTake S k).2 = S.2 := by
  unfold kTake kTake0
  split <;> simp only [cwi_2]
theorem kTake_Rem : kTake (kRem S k) k = kRem (kTake S k) k := by
  have a1 : (kTake S k).1 0 1 = S.1 0 1 := kTake_f0 (by omega)
  have a10 : (kTake S k).1 0 10 = S.1 0 10 := kTake_f0 (by omega)
  have a12 : (kTake S k).1 0 12 = S.1 0 12 := kTake_f0 (by omega)
  unfold kRem kRem0
  rw [a1, a10, a12, kTake_fl]
  split
  · rw [kTake_10, kTake_l, kTake_12, kTake_10]
  · rw [kTake_l, kTake_12, kTake_10]
theorem kRem_w : kRem (cwi S 7 j v) k = cwi (kRem S k) 7 j v := by
  show (if S.1 0 1 < pPop (S.1 0 10 ||| bb k) then cwi (kRem0 (cwi S 7 j v) k) 0 10 ((S.1 0 10 ||| bb k) &&& (obb (lO (S.1 0 10 ||| bb k) (u2 S.2 4 k (Int32.toInt64 (S.1 0 12 + 1)) 4)) ^^^ -1)) else kRem0 (cwi S 7 j v) k) = cwi (if S.1 0 1 < pPop (S.1 0 10 ||| bb k) then cwi (kRem0 S k) 0 10 ((S.1 0 10 ||| bb k) &&& (obb (lO (S.1 0 10 ||| bb k) (u2 S.2 4 k (Int32.toInt64 (S.1 0 12 + 1)) 4)) ^^^ -1)) else kRem0 S k) 7 j v
  have e : kRem0 (cwi S 7 j v) k = cwi (kRem0 S k) 7 j v := by
    show cwl (cwi (cwi (cwi S 7 j v) 0 10 (S.1 0 10 ||| bb k)) 0 12 (S.1 0 12 + 1)) 4 k (Int32.toInt64 (S.1 0 12 + 1)) = _
    rw [cwi_sw (t := 7) (t' := 0) (j' := 10) (by omega), cwi_sw (t := 7) (t' := 0) (j' := 12) (by omega)]
    rfl
  rw [e]
  split
  · rw [cwi_sw (t := 7) (t' := 0) (by omega)]
  · rfl
/-- a key no more remembered -/
theorem RX_forget (h : RX N L Q S U) (hk : k < 26) : RX N L Q (cwi S 0 10 (S.1 0 10 &&& (bb k ^^^ -1))) (upd U (258 + k) 0) := by
  obtain ⟨h1, h2, h3, h4, h5, h6, h7, h8, h9, ⟨c, q, b1, b2, b3, b4, b5, b6, b7⟩, ⟨c1, c2⟩, h12, h13⟩ := h
  refine ⟨RF_p h1 (Kp_cwi (Kpi0 (by omega)) Kp.rfl') (fun w hw => upd_o (by omega)), HB_o h2 (by omega), HB_o h3 (by omega), HB_o h4 (by omega), HB_o h5 (by omega), RO_o h6 (by omega), ?_, fun k hk hb => (h8 k hk hb).trans (upd_o (by omega)).symm, RW_o h9 (by omega), ?_, ⟨fun i hi => (c1 i hi).trans (upd_o (by omega)).symm, fun i hi => ⟨(c2 i hi).1.trans (upd_o (by omega)).symm, (c2 i hi).2.trans (upd_o (by omega)).symm⟩⟩, h12, h13⟩
  · show RM' (S.1 0 5) (S.1 0 10 &&& (bb k ^^^ -1)) _
    refine ⟨KS_and h7.1, fun j hj hb => h7.2.1 j hj (sub_off hk j hj hb).1, fun j hj => ?_⟩
    by_cases e : j = k
    · rw [e, bt_off hk (by omega), decide_eq_true rfl, Bool.not_true, Bool.and_false, upd_s]
      exact ⟨(fun e => by cases e), fun _ => rfl⟩
    · rw [bt_off hk (by omega), decide_eq_false e, Bool.not_false, Bool.and_true, upd_o (by omega)]
      exact h7.2.2 j hj
  · refine ⟨c, q, b1, (upd_o (by omega)).trans b2, b3, b4, ISO_sub b5 (fun _ _ e => e) (fun k hk _ => ⟨rfl, upd_o (by omega)⟩), ISO_sub b6 (fun _ _ e => e) (fun k hk _ => ⟨rfl, ?_⟩), ?_⟩
    · unfold SP
      rw [upd_o (by omega), upd_o (by omega), upd_o (by omega)]
    · show ISO c q (S.1 0 10 &&& (bb k ^^^ -1)) _ _
      exact ISO_sub b7 (fun j hj hb => (sub_off hk j hj hb).1) (fun j hj hb => ⟨rfl, upd_o (by have := (sub_off hk j hj hb).2; omega)⟩)
theorem RX_rem0 (h : RX N L Q S U) (hk : k < 26) (hb : bt (S.1 0 5) k = false) (hN : N + 1 < 2147483648) : RX (N + 1) L Q (kRem0 S k) (qRem0 U k) := by
  obtain ⟨h1, h2, h3, h4, h5, h6, h7, h8, h9, ⟨c, q, b1, b2, b3, b4, b5, b6, b7⟩, ⟨c1, c2⟩, h12, h13⟩ := h
  have e1 : S.1 0 12 + 1 = nI (c + 1) := by rw [b1]; exact lt_iA (j := c) (k := 1)
  have e2 : U 10 + 1 = nI (q + 1) := by rw [b2]; exact lt_iA (j := q) (k := 1)
  unfold kRem0 qRem0
  rw [e1, e2]
  have gg : ∀ w, w ≠ 10 → w ≠ 258 + k → upd (upd U 10 (nI (q + 1))) (258 + k) (nI (q + 1)) w = U w := fun w a1 a2 => by rw [upd_o a2, upd_o a1]
  have hne : ∀ j, bt (S.1 0 5) j = true → j ≠ k := fun j h e => by rw [e, hb] at h; cases h
  refine ⟨RF_q h1 (fun j hj => ?_) rfl (fun w hw => gg w (by omega) (by omega)), HB_o (HB_o h2 (by omega)) (by omega), HB_o (HB_o h3 (by omega)) (by omega), HB_o (HB_o h4 (by omega)) (by omega), HB_o (HB_o h5 (by omega)) (by omega), RO_o (RO_o h6 (by omega)) (by omega), ?_, fun k hk hb => (h8 k hk hb).trans (gg _ (by omega) (by omega)).symm, RW_o (RW_o h9 (by omega)) (by omega), ?_, ⟨fun i hi => (c1 i hi).trans (gg _ (by omega) (by omega)).symm, fun i hi => ⟨(c2 i hi).1.trans (gg _ (by omega) (by omega)).symm, (c2 i hi).2.trans (gg _ (by omega) (by omega)).symm⟩⟩, h12, h13⟩
  · show u2 (u2 S.1 0 10 (S.1 0 10 ||| bb k)) 0 12 (nI (c + 1)) 0 j = _
    rw [z2_n2 (by omega), z2_n2 (by omega)]
  · show RM' (S.1 0 5) (S.1 0 10 ||| bb k) _
    refine ⟨KS_or h7.1 (KS_bb hk), fun j hj hb' => ?_, fun j hj => ?_⟩
    · by_cases e : j = k
      · rw [e]; exact hb
      · rw [bt_on hk (by omega), decide_eq_false e, Bool.or_false] at hb'
        exact h7.2.1 j hj hb'
    · by_cases e : j = k
      · rw [e, bt_on hk (by omega), decide_eq_true rfl, Bool.or_true, upd_s]
        exact ⟨(fun _ => ⟨q + 1, by omega, by omega, rfl⟩), (fun e => by cases e)⟩
      · rw [bt_on hk (by omega), decide_eq_false e, Bool.or_false, gg _ (by omega) (by omega)]
        exact h7.2.2 j hj
  · refine ⟨c + 1, q + 1, rfl, ?_, by omega, by omega, ISO_mono (ISO_sub b5 (fun _ _ e => e) (fun k hk _ => ⟨rfl, gg _ (by omega) (by omega)⟩)) (by omega) (by omega), ISO_mono (ISO_sub b6 (fun _ _ e => e) (fun j hj hb => ⟨?_, ?_⟩)) (by omega) (by omega), ?_⟩
    · rw [upd_o (by omega), upd_s]
    · show u2 S.2 4 k (Int32.toInt64 (nI (c + 1))) 4 j = _
      rw [z2_n2 (hne j hb)]
    · unfold SP
      rw [gg _ (by omega) (by omega), gg _ (by omega) (by omega), gg _ (by omega) (by omega)]
    · show ISO (c + 1) (q + 1) (S.1 0 10 ||| bb k) (u2 S.2 4 k (Int32.toInt64 (nI (c + 1))) 4) _
      refine ISO_new b7 hk z2_eq ?_ (fun j hj hne hb => ?_) (fun j hj hne hb => ⟨z2_n2 hne, gg _ (by omega) (by omega)⟩)
      · rw [upd_s]
      · rw [bt_on hk (by omega), decide_eq_false hne, Bool.or_false] at hb
        exact hb
theorem rem_pop (h : RM' set x U) : pPop x = qCount U 258 26 0 := by
  rw [pPop_nK h.1, qCount_N]
  congr 1
  refine nK_cg 26 (fun k hk => ?_)
  obtain ⟨a, b⟩ := h.2.2 k hk
  cases e : bt x k
  · rw [b e]; rfl
  · obtain ⟨m, m1, m2, m3⟩ := a e
    rw [m3]
    have : ¬ nI m = 0 := fun e0 => by have := (lt_iE (j := m) (k := 0) m2 (by omega)).mp e0; omega
    rw [decide_eq_false this]
    rfl
theorem RX_rem (h : RX N L Q S U) (hk : k < 26) (hb : bt (S.1 0 5) k = false) (hN : N + 1 < 2147483648) : RX (N + 1) L Q (kRem S k) (qRem U k) := by
  have h1 := RX_rem0 h hk hb hN
  have hm := h1.2.2.2.2.2.2.1
  obtain ⟨c, q, -, -, b3, b4, -, -, b7⟩ := h1.2.2.2.2.2.2.2.2.2.1
  have e0 : S.1 0 1 = U 1 := h.1.1 1 (by omega)
  have e10 : (kRem0 S k).1 0 10 = S.1 0 10 ||| bb k := rfl
  have hp : pPop (S.1 0 10 ||| bb k) = qCount (qRem0 U k) 258 26 0 := rem_pop hm
  unfold kRem qRem
  rw [e0, hp]
  by_cases c : U 1 < qCount (qRem0 U k) 258 26 0
  · rw [if_pos c, if_pos c]
    have hl : lO (S.1 0 10 ||| bb k) (u2 S.2 4 k (Int32.toInt64 (S.1 0 12 + 1)) 4) = qElder (qRem0 U k) := by
      refine lO_q (fun j hj => ?_) (fun i j hi hj ci cj => ?_)
      · obtain ⟨a, b⟩ := hm.2.2 j hj
        cases e : bt (S.1 0 10 ||| bb k) j
        · rw [b e]; rfl
        · obtain ⟨m, m1, m2, m3⟩ := a e
          rw [m3]
          exact (decide_eq_true ((lt_iL (j := 0) (k := m) (by omega) m2).mpr m1)).symm
      · have hi' : bt (S.1 0 10 ||| bb k) i = true := by
          cases e : bt (S.1 0 10 ||| bb k) i
          · rw [(hm.2.2 i hi).2 e] at ci; cases ci
          · rfl
        have hj' : bt (S.1 0 10 ||| bb k) j = true := by
          cases e : bt (S.1 0 10 ||| bb k) j
          · rw [(hm.2.2 j (by omega)).2 e] at cj; cases cj
          · rfl
        exact ISO_dec b7 (by omega) (by omega) hi (by omega) hi' hj'
    have hk1 : bt (S.1 0 10 ||| bb k) k = true := by rw [bt_on hk (by omega), decide_eq_true rfl, Bool.or_true]
    rw [← hl]
    cases e : lO (S.1 0 10 ||| bb k) (u2 S.2 4 k (Int32.toInt64 (S.1 0 12 + 1)) 4) with
    | none =>
      have ks : KS (S.1 0 10 ||| bb k) := hm.1
      rw [(lO_none ks).mp e, b_0] at hk1
      cases hk1
    | some j =>
      exact RX_forget h1 (lO_lt j e).1
  · rw [if_neg c, if_neg c]
    exact h1
theorem RX_lev (h : RX N L Q S U) (hk : k < 26) (hb : bt (S.1 0 5) k = true) (hL : L < 2147483648) : RX N L Q (kLevel S k) (qMax U k) := by
  have e0 : S.1 0 0 = U 0 := h.1.1 0 (by omega)
  unfold kLevel qMax
  rw [e0]
  by_cases c5 : U 0 = 5
  · rw [if_pos c5, if_pos c5]
    obtain ⟨h1, h2, h3, h4, h5, h6, h7, h8, h9, h10, ⟨c1, c2⟩, h12, h13⟩ := h
    refine ⟨RF_q h1 (fun _ _ => rfl) rfl (fun w hw => upd_o (by omega)), HB_o h2 (by omega), HB_o h3 (by omega), HB_o h4 (by omega), HB_o h5 (by omega), RO_o h6 (by omega), RM_o h7 (by omega), fun k hk hb => (h8 k hk hb).trans (upd_o (by omega)).symm, ?_, RT_o h10 (by omega), ⟨fun i hi => (c1 i hi).trans (upd_o (by omega)).symm, fun i hi => ⟨(c2 i hi).1.trans (upd_o (by omega)).symm, (c2 i hi).2.trans (upd_o (by omega)).symm⟩⟩, h12, h13⟩
    obtain ⟨⟨l, l1, l2, l3⟩, h9'⟩ := h9
    obtain ⟨m, m1, m2, m3⟩ := h9' k hk hb
    refine ⟨?_, fun j hj hb => by rw [upd_o (by omega)]; exact h9' j hj hb⟩
    show ∃ l, l ≤ L ∧ _ ∧ u2 S.2 0 11 (if S.2 0 11 < S.2 5 k then S.2 5 k else S.2 0 11) 0 11 = _
    rw [z2_eq, upd_s, l2, l3, m2, m3]
    by_cases d : l < m
    · exact ⟨m, m1, if_pos ((lt_iL (by omega) (by omega)).mpr d), if_pos ((L64_lt (by omega) (by omega)).mpr d)⟩
    · exact ⟨l, l1, if_neg (fun e => d ((lt_iL (by omega) (by omega)).mp e)), if_neg (fun e => d ((L64_lt (by omega) (by omega)).mp e))⟩
  · rw [if_neg c5, if_neg c5]
    exact h
theorem qLeaves_14 (hk : k < 26) : qLeaves (upd F 14 v) k = upd (qLeaves F k) 14 v := funext fun w => by
  unfold qLeaves
  rw [show upd F 14 v 16 = F 16 from upd_o (by omega), show upd F 14 v (154 + k) = F (154 + k) from upd_o (by omega)]
  unfold upd
  by_cases c : w = 14
  · rw [if_pos c, if_neg (by omega), if_neg (by omega), if_neg (by omega), if_neg (by omega), if_neg (by omega), if_pos c]
  · rw [if_neg c, if_neg c]
theorem qLeaves_at14 (hk : k < 26) : qLeaves F k 14 = F 14 := by
  unfold qLeaves
  rw [upd_o (by omega), upd_o (by omega), upd_o (by omega), upd_o (by omega), upd_o (by omega)]
theorem RX_out0 (h : RX N L Q S U) (hk : k < 26) : RX N L Q (cwi (kTake S k) 7 2 ((kTake S k).1 7 2 + 1)) (qLeaves (upd U 14 (U 14 + 1)) k) := by
  have a := RX_cnt (j := 2) (v := 1) (RX_take h hk) (by omega)
  rw [qLeaves_14 hk]
  rw [show qLeaves U k (12 + 2) = U 14 from qLeaves_at14 hk] at a
  exact a
theorem kLevel_4 (h : S.1 0 0 ≠ 5) : kLevel S k = S := if_neg h
/-- a key put out -/
theorem RX_out1 (h : RX N L Q S U) (hk : k < 26) (hb : bt (S.1 0 5) k = true) (hN : N + 1 < 2147483648) (hL : L < 2147483648) : RX (N + 1) L Q (kOut1 S k) (qOut U k) := by
  have e0 : S.1 0 0 = U 0 := h.1.1 0 (by omega)
  have hy := h.2.2.2.2.2.1.2.2 k hk hb
  have hl := RX_lev h hk hb hL
  have h8 : (kLevel S k).1 = S.1 := by
    unfold kLevel
    split <;> rfl
  have u14 : qMax U k 14 = U 14 := by
    unfold qMax
    split
    · exact upd_o (by omega)
    · rfl
  unfold kOut1 qOut qOut0 kOld
  rw [h8, e0, hy]
  by_cases c4 : U 0 = 4
  · rw [if_pos c4]
    cases o : bt (S.1 0 8) k
    · rw [if_neg (by decide), if_pos ⟨c4, rfl⟩]
      have n5 : U 0 ≠ 5 := by rw [c4]; decide
      have e1 : kLevel S k = S := if_neg (by rw [e0]; exact n5)
      have e2 : qMax U k = U := if_neg n5
      rw [e1, e2, kTake_Rem]
      have a := RX_rem (RX_out0 h hk) hk (show bt (cwi (kTake S k) 7 2 ((kTake S k).1 7 2 + 1) |>.1 0 5) k = false by
        show bt ((kTake S k).1 0 5) k = false
        have : (kTake S k).1 0 5 = S.1 0 5 &&& (bb k ^^^ -1) := by
          unfold kTake kTake0
          split <;> simp (disch := omega) only [cwi_1, cwi_2, z2_eq, z2_n1, z2_n2]
        rw [this, bt_off hk (by omega), decide_eq_true rfl]
        exact Bool.and_false _) hN
      rw [kRem_w] at a
      have e3 : (kRem (kTake S k) k).1 7 2 = (kTake S k).1 7 2 := by
        unfold kRem kRem0
        split <;> rfl
      rw [e3]
      exact a
    · rw [if_pos rfl, if_neg (by rintro ⟨-, e⟩; cases e)]
      have a := RX_out0 hl hk
      rw [u14] at a
      exact RX_mono a (by omega) (Nat.le_refl _)
  · rw [if_neg c4, if_neg (fun e => c4 e.1)]
    have a := RX_out0 hl hk
    rw [u14] at a
    exact RX_mono a (by omega) (Nat.le_refl _)
end Rh'
