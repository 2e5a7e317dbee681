/-! THE CLASS: a Cache, which key goes -/
section Cf
variable {M : LM} {C K s c w k : Nat} {these : Int32}
def pLst (t : Int32) (r : Nat → Int64) : Int32 := pLeast t r 26 26 (-1) 0
def pMax1 (x : Int32) : Int32 := if 1 < x / 4 then x / 4 else 1
def pChoose (M : LM) (C s : Nat) (these : Int32) : Int32 :=
  if Int32.toInt (mI M C 0) = 1 then pLst these (mL M (C + 12)) else if Int32.toInt (mI M C 0) = 2 then pLst these (mL M (C + 4))
  else if Int32.toInt (mI M C 0) = 3 then (if these &&& (mI M C 7 ^^^ -1) = 0 then pLst these (mL M (C + 4)) else pLst (these &&& (mI M C 7 ^^^ -1)) (mL M (C + 4)))
  else if Int32.toInt (mI M C 0) = 4 then (if these &&& (mI M C 8 ^^^ -1) = 0 then pLst (these &&& mI M C 8) (mL M (C + 3)) else if pMax1 (mI M C 1) < pSum (mI M C 5 &&& (mI M C 8 ^^^ -1)) (mI M s) 26 0 ∨ these &&& mI M C 8 = 0 then pLst (these &&& (mI M C 8 ^^^ -1)) (mL M (C + 4)) else pLst (these &&& mI M C 8) (mL M (C + 3)))
  else if Int32.toInt (mI M C 0) = 5 then pLst these (mL M (C + 5)) else if Int32.toInt (mI M C 0) = 6 then (if mI M (C + 14) 1 < mI M (C + 13) 1 then pLst these (mL M (C + 12)) else pLst these (mL M (C + 3))) else pLst these (mL M (C + 3))
theorem c_leans (d : Nat) (h : cA M C) : f_X1_leansToLastUse (d + 1) M C = some (.inl (some (.int (if mI M (C + 14) 1 < mI M (C + 13) 1 then 0 else 1))), M) := by
  obtain ⟨⟨a1, a2, a3, a4, a5, a6, a7, a8, a9⟩, -, ⟨u1, u2⟩, -⟩ := h
  rw [e_X1_leansToLastUse, lt_ck_t a1, lt_rf_t a8, lt_ck_t u1, lt_ck_t a1, lt_rf_t a9, lt_ck_t u2]
  by_cases hl : mI M (C + 14) 1 < mI M (C + 13) 1
  · rw [if_pos hl, if_pos hl]; exact lt_b1_0
  · rw [if_neg hl, if_neg hl]; exact lt_b1_1
theorem c_choose (d : Nat) (h : cA M C) (hK : kA M K s c w) : f_X1_choose (d + 2) M C K these = some (.inl (some (.int (pChoose M C s these))), M) := by
  have h' := h
  obtain ⟨⟨a1, a2, a3, a4, a5, a6, a7, a8, a9⟩, ⟨t1, t2, t3, t4, t5, t6, t7⟩, ⟨u1, u2⟩, ⟨b1, b2, b3, b4, b5, b6, b7, b8, b9, b10, b11⟩⟩ := h
  have fin : ∀ (a : Nat) (t : Int32), aL M a 26 → (lt_bi (f_X10_least (d + 1) M t a) [] fun v M => some (.inl (some (.int v)), M)) = some (Sum.inl (some (Value.int (pLst t (mL M a)))), M) := fun a t ha => by
    rw [s10_least d ha (by omega)]
    rfl
  rw [e_X1_choose, lt_ck_t a1]
  unfold pChoose
  by_cases r1 : Int32.toInt (mI M C 0) = 1
  · rw [if_pos r1, if_pos r1, lt_ck_t a1, lt_rf_t a7, lt_ck_t t1, lt_rf_t t7]
    exact fin _ _ b11
  rw [if_neg r1, if_neg r1]
  by_cases r2 : Int32.toInt (mI M C 0) = 2
  · rw [if_pos r2, if_pos r2, lt_ck_t a1, lt_rf_t a5]
    exact fin _ _ b4
  rw [if_neg r2, if_neg r2]
  by_cases r3 : Int32.toInt (mI M C 0) = 3
  · rw [if_pos r3, if_pos r3, lt_ck_t a1]
    by_cases q : these &&& (mI M C 7 ^^^ -1) = 0
    · rw [if_pos q, if_pos q, lt_ck_t a1, lt_rf_t a5]
      exact fin _ _ b4
    · rw [if_neg q, if_neg q, lt_ck_t a1, lt_rf_t a5]
      exact fin _ _ b4
  rw [if_neg r3, if_neg r3]
  by_cases r4 : Int32.toInt (mI M C 0) = 4
  · have emax : f_J9_max_7cf53 (d + 1) M 1 (mI M C 1 / 4) = some (.inl (some (.int (pMax1 (mI M C 1)))), M) := by
      rw [e_J9_max_7cf53]
      unfold pMax1
      by_cases q : (1 : Int32) < mI M C 1 / 4
      · rw [if_pos q, if_pos q]
      · rw [if_neg q, if_neg q]
    rw [if_pos r4, if_pos r4, lt_ck_t a1, lt_ck_t a1, lt_ck_t a1, lt_ck_t a1, lt_ck_t hK.1, s3_units d hK, lt_bi_r, lt_ck_t a1, lt_nz_t (show ¬ (4 : Int32) = 0 by decide), emax, lt_bi_r]
    by_cases q1 : these &&& (mI M C 8 ^^^ -1) = 0
    · by_cases q2 : pMax1 (mI M C 1) < pSum (mI M C 5 &&& (mI M C 8 ^^^ -1)) (mI M s) 26 0
      · rw [if_pos q2, if_pos q1, if_pos q1, lt_ck_t a1, lt_rf_t a4]
        exact fin _ _ b3
      · rw [if_neg q2, if_pos q1, if_pos q1, lt_ck_t a1, lt_rf_t a4]
        exact fin _ _ b3
    · by_cases q2 : pMax1 (mI M C 1) < pSum (mI M C 5 &&& (mI M C 8 ^^^ -1)) (mI M s) 26 0
      · rw [if_pos q2, if_neg q1, if_neg q1, if_neg (show ¬ (1 : Int32) = 0 by decide), if_pos (Or.inl q2), lt_ck_t a1, lt_rf_t a5]
        exact fin _ _ b4
      · rw [if_neg q2, if_neg q1, if_neg q1, if_pos rfl]
        by_cases q3 : these &&& mI M C 8 = 0
        · rw [if_pos q3, if_pos (Or.inr q3), lt_ck_t a1, lt_rf_t a5]
          exact fin _ _ b4
        · rw [if_neg q3, if_neg (fun e => e.elim q2 q3), lt_ck_t a1, lt_rf_t a4]
          exact fin _ _ b3
  rw [if_neg r4, if_neg r4]
  by_cases r5 : Int32.toInt (mI M C 0) = 5
  · rw [if_pos r5, if_pos r5, lt_ck_t a1, lt_rf_t a6]
    exact fin _ _ b5
  rw [if_neg r5, if_neg r5]
  by_cases r6 : Int32.toInt (mI M C 0) = 6
  · rw [if_pos r6, if_pos r6, lt_ck_t a1, c_leans d h', lt_bi_r]
    by_cases q : mI M (C + 14) 1 < mI M (C + 13) 1
    · rw [if_pos q, if_pos q, if_pos rfl, lt_ck_t a1, lt_rf_t a7, lt_ck_t t1, lt_rf_t t7]
      exact fin _ _ b11
    · rw [if_neg q, if_neg q, if_neg (by decide), lt_ck_t a1, lt_rf_t a4]
      exact fin _ _ b3
  rw [if_neg r6, if_neg r6, lt_ck_t a1, lt_rf_t a4]
  exact fin _ _ b3
end Cf
