/-! THE CLASS: a Cache, a key put out */ -/
section Ck
variable {M : LM} {C K s c w k : Nat} {these x : Int32}
theorem pChoose_in : pChoose M C s these = -1 ∨ ∃ j, j < 26 ∧ pChoose M C s these = nI j := by
  unfold pChoose
  repeat (first | exact pLst_in | split)
theorem c_maxL (d : Nat) {y z : Int64} : f_J9_max_f86c9 (d + 1) M y z = some (.inl (some (.long (if y < z then z else y))), M) := by
  rw [e_J9_max_f86c9]
  by_cases h : y < z
  · rw [if_pos (lt_cmp_neg.mpr h), if_pos h]
  · rw [if_neg (fun e => h (lt_cmp_neg.mp e)), if_neg h]
def pLevel (M : LM) (C j : Nat) : LM := if mI M C 0 = 5 then wL M C 11 (if mL M C 11 < mL M (C + 5) j then mL M (C + 5) j else mL M C 11) else M
def pOut13 (M : LM) (C s : Nat) (these : Int32) : LM := if pChoose M C s these = -1 then M else pOut53 (pLevel M C (lt_n (pChoose M C s these))) C (lt_n (pChoose M C s these))
theorem pLevel_cA (h : cA M C) {j : Nat} : cA (pLevel M C j) C := by
  unfold pLevel
  split <;> exact h
theorem c_out13 (d : Nat) (h : cA M C) (hK : kA M K s c w) : f_X1_putOut_13 (d + 3) M C K these = some (.inl none, pOut13 M C s these) := by
  have a1 := h.1.1
  have a6 := h.1.2.2.2.2.2.1
  have b5 := h.2.2.2.2.2.2.2.1
  rw [e_X1_putOut_13, lt_ck_t a1, c_choose d h hK, lt_bi_r]
  unfold pOut13
  by_cases q : pChoose M C s these = -1
  · rw [if_pos q, if_pos q]
  · rw [if_neg q, if_neg q]
    rcases pChoose_in (M := M) (C := C) (s := s) (these := these) with e | ⟨j, hj, e⟩
    · exact absurd e q
    · have hl := c_out53 (M := pLevel M C j) d (pLevel_cA h) hj
      rw [e, lt_iN (by omega), lt_ck_t a1]
      unfold pLevel at hl ⊢
      by_cases h5 : mI M C 0 = 5
      · rw [if_pos h5] at hl ⊢
        rw [if_pos h5, lt_ck_t a1, lt_ck_t a1, lt_rf_t a6, s10_atL (d + 1) b5 hj, lt_bl_r, c_maxL (d + 1), lt_bl_r, lt_ck_t a1]
        exact hl
      · rw [if_neg h5] at hl ⊢
        rw [if_neg h5]
        exact hl
def pOut (M : LM) (C s : Nat) (these : Int32) : LM := pOut13 (if mI M C 0 = 3 then pTurn C these 52 M else M) C s these
theorem pTurn_cA {B : Nat} : ∀ (n : Nat) (M : LM), cA M C → cA (pTurn B these n M) C
  | 0, _, h => h
  | n + 1, M, h => by
    unfold pTurn
    split
    · split
      · exact h
      · exact pTurn_cA n (pTurn1 M B these) h
    · exact h
theorem pTurn_kA {B : Nat} : ∀ (n : Nat) (M : LM), kA M K s c w → kA (pTurn B these n M) K s c w
  | 0, _, h => h
  | n + 1, M, h => by
    unfold pTurn
    split
    · split
      · exact h
      · exact pTurn_kA n (pTurn1 M B these) h
    · exact h
theorem c_out (d : Nat) (h : cA M C) (hK : kA M K s c w) : f_X1_putOut (d + 3) M C K these = some (.inl none, pOut M C s these) := by
  have a1 := h.1.1
  rw [e_X1_putOut, lt_ck_t a1]
  unfold pOut
  by_cases q : mI M C 0 = 3
  · rw [if_pos q, if_pos q, lt_ck_t a1, c_turn d h, lt_bv_r]
    exact c_out13 d (pTurn_cA 52 M h) (pTurn_kA 52 M hK)
  · rw [if_neg q, if_neg q]
    exact c_out13 d h hK
end Ck
