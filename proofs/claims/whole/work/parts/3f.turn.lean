/-! THE CLASS: a Cache, the queue turned -/
section Ci
variable {M : LM} {C k : Nat} {these : Int32}
theorem pLeast_in {t : Int32} {r : Nat → Int64} : ∀ (n : Nat) (found : Int32) (fr : Int64), n ≤ 26 → (found = -1 ∨ ∃ j, j < 26 ∧ found = nI j) → pLeast t r 26 n found fr = -1 ∨ ∃ j, j < 26 ∧ pLeast t r 26 n found fr = nI j
  | 0, found, fr, _, h => h
  | n + 1, found, fr, hn, h => by
    unfold pLeast
    have hj : (nI (26 - (n + 1)) = -1 ∨ ∃ j, j < 26 ∧ nI (26 - (n + 1)) = nI j) := Or.inr ⟨_, by omega, rfl⟩
    split
    · split
      · exact pLeast_in n _ _ (by omega) hj
      · split
        · exact pLeast_in n _ _ (by omega) hj
        · exact pLeast_in n _ _ (by omega) h
    · exact pLeast_in n _ _ (by omega) h
theorem pLst_in {t : Int32} {r : Nat → Int64} : pLst t r = -1 ∨ ∃ j, j < 26 ∧ pLst t r = nI j := pLeast_in 26 _ _ (Nat.le_refl _) (Or.inl rfl)
def pTurn1 (M : LM) (C : Nat) (these : Int32) : LM :=
  wL (wI (wI M C 7 (mI M C 7 &&& ((these &&& pBit (pLst (mI M C 5) (mL M (C + 4)))) ^^^ -1))) C 12 (mI M C 12 + 1)) (C + 4) (lt_n (pLst (mI M C 5) (mL M (C + 4)))) (Int32.toInt64 (mI M C 12 + 1))
def pTurn (C : Nat) (these : Int32) : Nat → LM → LM
  | 0, M => M
  | n + 1, M => if (these &&& (mI M C 7 ^^^ -1)) &&& pBit (pLst (mI M C 5) (mL M (C + 4))) = 0 then (if pLst (mI M C 5) (mL M (C + 4)) = -1 then M else pTurn C these n (pTurn1 M C these)) else M
theorem c_turn_2 (d : Nat) : ∀ (n : Nat) (M : LM), n ≤ 52 → cA M C → f_X1_turnQueue_2 (d + 2) M C these (nI (52 - n)) = some (.inl none, pTurn C these n M)
  | 0, M, _, _ => by
    rw [e_X1_turnQueue_2, if_neg (by decide)]
    rfl
  | n + 1, M, hn, h => by
    have h' := h
    obtain ⟨⟨a1, a2, a3, a4, a5, a6, a7, a8, a9⟩, -, -, ⟨b1, b2, b3, b4, b5, b6, b7, b8, b9, b10, b11⟩⟩ := h
    have g1 : nI (52 - (n + 1)) = nI (51 - n) := by congr 1; omega
    have g4 : nI (51 - n) < 52 := (lt_iL (j := 51 - n) (k := 52) (by omega) (by omega)).mpr (by omega)
    have g2 : nI (51 - n) + 1 = nI (52 - n) := by
      have : nI (51 - n) + 1 = nI (51 - n + 1) := (lt_iA (j := 51 - n) (k := 1))
      rw [this]
      congr 1
      omega
    rw [g1, e_X1_turnQueue_2, if_pos g4, lt_ck_t a1, lt_ck_t a1, lt_rf_t a5, s10_least d b4 (by omega), lt_bi_r, lt_ck_t a1, s10_bitG, lt_bi_r]
    show (if (these &&& (mI M C 7 ^^^ -1)) &&& pBit (pLst (mI M C 5) (mL M (C + 4))) = 0 then _ else _) = _
    unfold pTurn
    by_cases q1 : (these &&& (mI M C 7 ^^^ -1)) &&& pBit (pLst (mI M C 5) (mL M (C + 4))) = 0
    · rw [if_pos q1, if_pos q1, if_pos rfl]
      show (if pLst (mI M C 5) (mL M (C + 4)) = -1 then _ else _) = _
      by_cases q2 : pLst (mI M C 5) (mL M (C + 4)) = -1
      · rw [if_pos q2, if_pos q2]
      · rw [if_neg q2, if_neg q2]
        rcases pLst_in (t := mI M C 5) (r := mL M (C + 4)) with e | ⟨j, hj, e⟩
        · exact absurd e q2
        · have e' : pLeast (mI M C 5) (mL M (C + 4)) 26 26 (-1) 0 = nI j := e
          have ih := c_turn_2 d n (pTurn1 M C these) (by omega) h'
          unfold pTurn1 at ih ⊢
          rw [e, lt_iN (by omega)] at ih ⊢
          rw [e', lt_ck_t a1, s10_bitG, lt_bi_r, lt_ck_t a1]
          simp only [lt_ck, lt_m, lt_rf, mK_wI, mP_wI, a1, a5, if_true]
          rw [mI_wI (b := C) (j := 12), if_neg (by omega), s10_putL (M := wI (wI M C 7 (mI M C 7 &&& ((these &&& pBit (nI j)) ^^^ -1))) C 12 (mI M C 12 + 1)) d b4 hj, lt_bv_r, g2, mI_wI (b := C) (j := 12), if_pos ⟨rfl, rfl⟩]
          exact ih
    · rw [if_neg q1, if_neg q1, if_neg (by decide)]
theorem c_turn (d : Nat) (h : cA M C) : f_X1_turnQueue (d + 2) M C these = some (.inl none, pTurn C these 52 M) := by
  rw [e_X1_turnQueue]
  exact c_turn_2 d 52 M (Nat.le_refl _) h
end Ci
