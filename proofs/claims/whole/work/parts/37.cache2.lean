/-! THE CLASS: a Cache, on -/
section Cb
variable {M : LM} {C K s c w k : Nat}
/-- a key used -/
def pUse (M : LM) (C s c k : Nat) : LM := wL (wL (wI M C 12 (mI M C 12 + 1)) (C + 3) k (Int32.toInt64 (mI M C 12 + 1))) (C + 5) k (mL M C 11 + Int32.toInt64 (840 * mI M c k / mI M s k))
theorem c_use (d : Nat) (h : cA M C) (hK : kA M K s c w) (hk : k < 26) (hs : 0 < mI M s k) (h1 : s ≠ C) (h2 : c ≠ C) : f_X1_use (d + 3) M C K (nI k) = some (.inl none, pUse M C s c k) := by
  have a1 := h.1.1
  have a2 := h.1.2.2.2.1
  have a3 := h.1.2.2.2.2.2.1
  have a4 := hK.1
  have a5 := h.2.2.2.2.2.1
  have a6 := h.2.2.2.2.2.2.2.1
  rw [e_X1_use]
  simp only [lt_ck, lt_m, lt_rf, mK_wI, mP_wI, a1, a2, if_true]
  rw [s10_putL (M := wI M C 12 (mI M C 12 + 1)) (d + 1) a5 hk, lt_bv_r]
  simp only [mK_wI, mK_wL, mP_wI, mP_wL, a1, a3, a4, if_true]
  have hs' : 0 < mI (wL (wI M C 12 (mI M C 12 + 1)) (C + 3) k (Int32.toInt64 (mI (wI M C 12 (mI M C 12 + 1)) C 12))) s k := by
    rw [mI_wL, mI_wI_ne h1]; exact hs
  rw [s3_worthOf (M := wL (wI M C 12 (mI M C 12 + 1)) (C + 3) k (Int32.toInt64 (mI (wI M C 12 (mI M C 12 + 1)) C 12))) d hK hk hs', lt_bi_r, s10_putL (M := wL (wI M C 12 (mI M C 12 + 1)) (C + 3) k (Int32.toInt64 (mI (wI M C 12 (mI M C 12 + 1)) C 12))) (d + 1) a6 hk, lt_bv_r]
  rw [mI_wL, mI_wI_ne h1, mI_wI_ne h2, mI_wI, if_pos ⟨rfl, rfl⟩, mL_wL_ne (by omega), mL_wI]
  rfl
theorem pUse_cA (h : cA M C) {B : Nat} : cA (pUse M B s c k) C := h
theorem pUse_kA (h : kA M K s c w) {B t : Nat} : kA (pUse M B t t k) K s c w := h
end Cb
