/-! THE CLASS: what putting out leaves alone -/
section Cl
variable {M : LM} {C C' K s c w k b B : Nat} {these : Int32}
theorem pTake_I (hb : b ≠ C) : mI (pTake M C k) b = mI M b := by
  unfold pTake
  dsimp only
  rw [mI_wI_ne hb, mI_wI_ne hb, mI_wI_ne hb, mI_wI_ne hb, mI_wI_ne hb]
theorem pTakeOut_I (hb : b ≠ C) (h7 : b ≠ C + 7) : mI (pTakeOut M C k) b = mI M b := by
  unfold pTakeOut
  rw [pTake_I hb]
  split
  · rw [mI_wI_ne h7]
  · rfl
theorem pRem0_I (hb : b ≠ C) : mI (pRem0 M C k) b = mI M b := by
  unfold pRem0
  rw [mI_wL, mI_wI_ne hb, mI_wI_ne hb]
theorem pRemember_I (hb : b ≠ C) : mI (pRemember M C k) b = mI M b := by
  unfold pRemember
  split
  · rw [mI_wI_ne hb, pRem0_I hb]
  · exact pRem0_I hb
theorem pOut53_I (hb : b ≠ C) (h7 : b ≠ C + 7) : mI (pOut53 M C k) b = mI M b := by
  unfold pOut53
  dsimp only
  rw [mI_wI_ne h7, pTakeOut_I hb h7]
  split
  · exact pRemember_I hb
  · rfl
theorem pLevel_I : mI (pLevel M C k) b = mI M b := by
  unfold pLevel
  split <;> rfl
theorem pOut13_I (hb : b ≠ C) (h7 : b ≠ C + 7) : mI (pOut13 M C s these) b = mI M b := by
  unfold pOut13
  split
  · rfl
  · rw [pOut53_I hb h7, pLevel_I]
theorem pTurn_I (hb : b ≠ C) : ∀ (n : Nat) (M : LM), mI (pTurn C these n M) b = mI M b
  | 0, _ => rfl
  | n + 1, M => by
    unfold pTurn
    split
    · split
      · rfl
      · rw [pTurn_I hb n]
        unfold pTurn1
        rw [mI_wL, mI_wI_ne hb, mI_wI_ne hb]
    · rfl
theorem pOut_I (hb : b ≠ C) (h7 : b ≠ C + 7) : mI (pOut M C s these) b = mI M b := by
  unfold pOut
  rw [pOut13_I hb h7]
  split
  · exact pTurn_I hb 52 M
  · rfl
theorem pTakeOut_kA (h : kA M K s c w) : kA (pTakeOut M B k) K s c w := by
  unfold pTakeOut pTake
  split <;> exact h
theorem pRemember_kA (h : kA M K s c w) : kA (pRemember M B k) K s c w := by
  unfold pRemember pRem0
  split <;> exact h
theorem pOut53_cA (h : cA M C) : cA (pOut53 M B k) C := by
  have h1 : cA (if mI M B 0 = 4 ∧ bt (mI M B 8) k = false then pRemember M B k else M) C := by
    split
    · exact pRemember_cA h
    · exact h
  exact pTakeOut_cA (k := k) h1 (B := B)
theorem pOut53_kA (h : kA M K s c w) : kA (pOut53 M B k) K s c w := by
  have h1 : kA (if mI M B 0 = 4 ∧ bt (mI M B 8) k = false then pRemember M B k else M) K s c w := by
    split
    · exact pRemember_kA h
    · exact h
  exact pTakeOut_kA (k := k) h1 (B := B)
theorem pLevel_cA' (h : cA M C) : cA (pLevel M B k) C := by
  unfold pLevel
  split <;> exact h
theorem pLevel_kA (h : kA M K s c w) : kA (pLevel M B k) K s c w := by
  unfold pLevel
  split <;> exact h
theorem pOut13_cA (h : cA M C) : cA (pOut13 M B s these) C := by
  unfold pOut13
  split
  · exact h
  · exact pOut53_cA (pLevel_cA' h)
theorem pOut13_kA (h : kA M K s c w) : kA (pOut13 M B s these) K s c w := by
  unfold pOut13
  split
  · exact h
  · exact pOut53_kA (pLevel_kA h)
theorem pOut_cA (h : cA M C) : cA (pOut M B s these) C := by
  unfold pOut
  refine pOut13_cA ?_
  split
  · exact pTurn_cA 52 M h
  · exact h
theorem pOut_kA (h : kA M K s c w) : kA (pOut M B s these) K s c w := by
  unfold pOut
  refine pOut13_kA ?_
  split
  · exact pTurn_kA 52 M h
  · exact h
end Cl
