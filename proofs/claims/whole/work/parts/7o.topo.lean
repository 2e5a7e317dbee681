/-! THE LAW: the loop -/
section Uy
variable {M M' M1 M2 N : LM} {L i j m : Nat} {xs : Nat → Int32} {code v : Int32} {z K K' : Option (LO × LM)}
theorem sub6 (hb : L ≤ 3072) : (nI L - 6).toInt = (L : Int) - 6 := by
  rw [Int32.toInt_sub, lt_iT (by omega), show (6 : Int32).toInt = 6 from rfl, Int.bmod_eq_of_le (by omega) (by omega)]
theorem w_all0 (h : CSK L M) : lt_al M 0 z = z := lt_al_t (by rw [(t_sc h).1]; omega)
theorem w_skip (h : ST L xs M i) : ST L xs M (i + 1) := ⟨h.1, ⟨Nat.le_trans h.2.1.1 (by omega), Nat.le_trans h.2.1.2 (by omega)⟩, h.2.2⟩
theorem w_step (h : ST L xs M i) (hL : 6 * i + 6 ≤ L) (hb : L ≤ 3072) : ∃ M2, f_L_law_28 (40 + 1) M 0 1 123 200 201 (nI (6 * i)) = f_L_law_28 (40 + 1) M2 0 1 123 200 201 (nI (6 * (i + 1))) ∧ ST L xs M2 (i + 1) := by
  have hk := h.1
  have hn : ¬ nI (mZ M 0) - 6 < nI (6 * i) := by
    rw [(t_sc hk).2, Int32.lt_iff_toInt_lt, sub6 hb, lt_iT (by omega)]
    omega
  have s6 : nI (6 * i) + 6 = nI (6 * (i + 1)) := lt_iA (j := 6 * i) (k := 6)
  rw [e_L_law_28, w_all0 hk, if_neg hn, w_ar hk (show 6 * i < L by omega) hb]
  by_cases q0 : Int32.toInt ((mI M 0 (lt_n (nI (6 * i)))) &&& 63) = 0
  · rw [if_pos q0]; exact w_248 h hL hb
  rw [if_neg q0]
  by_cases q1 : Int32.toInt ((mI M 0 (lt_n (nI (6 * i)))) &&& 63) = 1
  · rw [if_pos q1]; exact w_340 h hL hb
  rw [if_neg q1]
  by_cases q2 : Int32.toInt ((mI M 0 (lt_n (nI (6 * i)))) &&& 63) = 2
  · rw [if_pos q2]; exact w_396 h hL hb
  rw [if_neg q2]
  by_cases q3 : Int32.toInt ((mI M 0 (lt_n (nI (6 * i)))) &&& 63) = 3
  · rw [if_pos q3]; exact w_480 h hL hb
  rw [if_neg q3]
  by_cases q4 : Int32.toInt ((mI M 0 (lt_n (nI (6 * i)))) &&& 63) = 4
  · rw [if_pos q4]; exact w_572 h hL hb
  rw [if_neg q4]
  by_cases q5 : Int32.toInt ((mI M 0 (lt_n (nI (6 * i)))) &&& 63) = 5
  · rw [if_pos q5]; exact w_616 h hL hb
  rw [if_neg q5]
  by_cases q6 : Int32.toInt ((mI M 0 (lt_n (nI (6 * i)))) &&& 63) = 6
  · rw [if_pos q6]; exact w_629 h hL hb
  rw [if_neg q6]
  by_cases q7 : Int32.toInt ((mI M 0 (lt_n (nI (6 * i)))) &&& 63) = 7
  · rw [if_pos q7]; exact w_733 h hL hb
  rw [if_neg q7]
  by_cases q8 : Int32.toInt ((mI M 0 (lt_n (nI (6 * i)))) &&& 63) = 8
  · rw [if_pos q8]; exact w_837 h hL hb
  rw [if_neg q8]
  by_cases q9 : Int32.toInt ((mI M 0 (lt_n (nI (6 * i)))) &&& 63) = 9
  · rw [if_pos q9]; exact w_893 h hL hb
  rw [if_neg q9]
  by_cases q10 : Int32.toInt ((mI M 0 (lt_n (nI (6 * i)))) &&& 63) = 10
  · rw [if_pos q10]; exact w_968 h hL hb
  rw [if_neg q10]
  by_cases q11 : Int32.toInt ((mI M 0 (lt_n (nI (6 * i)))) &&& 63) = 11
  · rw [if_pos q11]; exact w_981 h hL hb
  rw [if_neg q11]
  by_cases q12 : Int32.toInt ((mI M 0 (lt_n (nI (6 * i)))) &&& 63) = 12
  · rw [if_pos q12]; exact w_1025 h hL hb
  rw [if_neg q12]
  by_cases q13 : Int32.toInt ((mI M 0 (lt_n (nI (6 * i)))) &&& 63) = 13
  · rw [if_pos q13]; exact w_1069 h hL hb
  rw [if_neg q13]
  by_cases q14 : Int32.toInt ((mI M 0 (lt_n (nI (6 * i)))) &&& 63) = 14
  · rw [if_pos q14]; exact w_1125 h hL hb
  rw [if_neg q14]
  by_cases q15 : Int32.toInt ((mI M 0 (lt_n (nI (6 * i)))) &&& 63) = 15
  · rw [if_pos q15]; exact w_1169 h hL hb
  rw [if_neg q15]
  by_cases q16 : Int32.toInt ((mI M 0 (lt_n (nI (6 * i)))) &&& 63) = 16
  · rw [if_pos q16]; exact w_1225 h hL hb
  rw [if_neg q16]
  by_cases q17 : Int32.toInt ((mI M 0 (lt_n (nI (6 * i)))) &&& 63) = 17
  · rw [if_pos q17]; exact w_1238 h hL hb
  rw [if_neg q17]
  by_cases q18 : Int32.toInt ((mI M 0 (lt_n (nI (6 * i)))) &&& 63) = 18
  · rw [if_pos q18]; exact w_1251 h hL hb
  rw [if_neg q18]
  by_cases q19 : Int32.toInt ((mI M 0 (lt_n (nI (6 * i)))) &&& 63) = 19
  · rw [if_pos q19]; exact w_1319 h hL hb
  rw [if_neg q19]
  by_cases q20 : Int32.toInt ((mI M 0 (lt_n (nI (6 * i)))) &&& 63) = 20
  · rw [if_pos q20]; exact w_1332 h hL hb
  rw [if_neg q20]
  by_cases q21 : Int32.toInt ((mI M 0 (lt_n (nI (6 * i)))) &&& 63) = 21
  · rw [if_pos q21]; exact w_1345 h hL hb
  rw [if_neg q21]
  by_cases q22 : Int32.toInt ((mI M 0 (lt_n (nI (6 * i)))) &&& 63) = 22
  · rw [if_pos q22]; exact w_1413 h hL hb
  rw [if_neg q22]
  by_cases q23 : Int32.toInt ((mI M 0 (lt_n (nI (6 * i)))) &&& 63) = 23
  · rw [if_pos q23]; exact w_1488 h hL hb
  rw [if_neg q23]
  by_cases q24 : Int32.toInt ((mI M 0 (lt_n (nI (6 * i)))) &&& 63) = 24
  · rw [if_pos q24]; exact w_1563 h hL hb
  rw [if_neg q24]
  by_cases q25 : Int32.toInt ((mI M 0 (lt_n (nI (6 * i)))) &&& 63) = 25
  · rw [if_pos q25]; exact w_1631 h hL hb
  rw [if_neg q25]
  by_cases q26 : Int32.toInt ((mI M 0 (lt_n (nI (6 * i)))) &&& 63) = 26
  · rw [if_pos q26]; exact w_1727 h hL hb
  rw [if_neg q26]
  by_cases q27 : Int32.toInt ((mI M 0 (lt_n (nI (6 * i)))) &&& 63) = 27
  · rw [if_pos q27]; exact w_1795 h hL hb
  rw [if_neg q27]
  by_cases q28 : Int32.toInt ((mI M 0 (lt_n (nI (6 * i)))) &&& 63) = 28
  · rw [if_pos q28]; exact w_1863 h hL hb
  rw [if_neg q28]
  by_cases q29 : Int32.toInt ((mI M 0 (lt_n (nI (6 * i)))) &&& 63) = 29
  · rw [if_pos q29]; exact w_1931 h hL hb
  rw [if_neg q29]
  by_cases q30 : Int32.toInt ((mI M 0 (lt_n (nI (6 * i)))) &&& 63) = 30
  · rw [if_pos q30]; exact w_2027 h hL hb
  rw [if_neg q30]
  by_cases q31 : Int32.toInt ((mI M 0 (lt_n (nI (6 * i)))) &&& 63) = 31
  · rw [if_pos q31]; exact w_2095 h hL hb
  rw [if_neg q31]
  by_cases q32 : Int32.toInt ((mI M 0 (lt_n (nI (6 * i)))) &&& 63) = 32
  · rw [if_pos q32]; exact w_2175 h hL hb
  rw [if_neg q32]
  by_cases q33 : Int32.toInt ((mI M 0 (lt_n (nI (6 * i)))) &&& 63) = 33
  · rw [if_pos q33]; exact w_2242 h hL hb
  rw [if_neg q33]
  by_cases q34 : Int32.toInt ((mI M 0 (lt_n (nI (6 * i)))) &&& 63) = 34
  · rw [if_pos q34]; exact w_2317 h hL hb
  rw [if_neg q34]
  by_cases q35 : Int32.toInt ((mI M 0 (lt_n (nI (6 * i)))) &&& 63) = 35
  · rw [if_pos q35]; exact w_2373 h hL hb
  rw [if_neg q35]
  by_cases q36 : Int32.toInt ((mI M 0 (lt_n (nI (6 * i)))) &&& 63) = 36
  · rw [if_pos q36]; exact w_2429 h hL hb
  rw [if_neg q36]
  by_cases q37 : Int32.toInt ((mI M 0 (lt_n (nI (6 * i)))) &&& 63) = 37
  · rw [if_pos q37]; exact w_2497 h hL hb
  rw [if_neg q37]
  by_cases q38 : Int32.toInt ((mI M 0 (lt_n (nI (6 * i)))) &&& 63) = 38
  · rw [if_pos q38]; exact w_2596 h hL hb
  rw [if_neg q38]
  by_cases q39 : Int32.toInt ((mI M 0 (lt_n (nI (6 * i)))) &&& 63) = 39
  · rw [if_pos q39]; exact w_2664 h hL hb
  rw [if_neg q39]
  by_cases q40 : Int32.toInt ((mI M 0 (lt_n (nI (6 * i)))) &&& 63) = 40
  · rw [if_pos q40]; exact w_2720 h hL hb
  rw [if_neg q40]
  by_cases q41 : Int32.toInt ((mI M 0 (lt_n (nI (6 * i)))) &&& 63) = 41
  · rw [if_pos q41]; exact w_2788 h hL hb
  rw [if_neg q41]
  by_cases q42 : Int32.toInt ((mI M 0 (lt_n (nI (6 * i)))) &&& 63) = 42
  · rw [if_pos q42]; exact w_2856 h hL hb
  rw [if_neg q42]
  by_cases q43 : Int32.toInt ((mI M 0 (lt_n (nI (6 * i)))) &&& 63) = 43
  · rw [if_pos q43]; exact w_2960 h hL hb
  rw [if_neg q43]
  by_cases q44 : Int32.toInt ((mI M 0 (lt_n (nI (6 * i)))) &&& 63) = 44
  · rw [if_pos q44]; exact w_3016 h hL hb
  rw [if_neg q44]
  by_cases q45 : Int32.toInt ((mI M 0 (lt_n (nI (6 * i)))) &&& 63) = 45
  · rw [if_pos q45]; exact w_3093 h hL hb
  rw [if_neg q45]
  by_cases q46 : Int32.toInt ((mI M 0 (lt_n (nI (6 * i)))) &&& 63) = 46
  · rw [if_pos q46]; exact w_3136 h hL hb
  rw [if_neg q46]
  rw [s6]
  exact ⟨M, rfl, w_skip h⟩
theorem w_loop (hb : L ≤ 3072) : ∀ (m i : Nat) (M : LM), i + m = 513 → 6 * i ≤ 3072 → ST L xs M i → ∃ Mz, f_L_law_28 (40 + 1) M 0 1 123 200 201 (nI (6 * i)) = some (.inl (some (.int 1)), Mz) ∧ mC Mz ≤ 4000 ∧ mS Mz ≤ 300000
  | 0, i, M, e, h6, h => by omega
  | m + 1, i, M, e, h6, h => by
    have hk := h.1
    by_cases q : 6 * i + 6 ≤ L
    · obtain ⟨M2, a1, a2⟩ := w_step h q hb
      obtain ⟨Mz, b1, b2⟩ := w_loop hb m (i + 1) M2 (by omega) (by omega) a2
      exact ⟨Mz, a1.trans b1, b2⟩
    · have hn : nI (mZ M 0) - 6 < nI (6 * i) := by
        rw [(t_sc hk).2, Int32.lt_iff_toInt_lt, sub6 hb, lt_iT (by omega)]
        omega
      refine ⟨M, ?_, ?_, ?_⟩
      · rw [e_L_law_28, w_all0 hk, if_pos hn, lt_b1_1]
      · have := h.2.1.1; omega
      · have := h.2.1.2; omega
end Uy
