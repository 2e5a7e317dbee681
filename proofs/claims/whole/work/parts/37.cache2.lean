/-! THE CLASS: a Cache, on -/
section Cb
variable {M : LM} {C K s c w k : Nat}
/-- a key used -/
def pUse (M : LM) (C s c k : Nat) : LM := wL (wL (wI M C 12 (mI M C 12 + 1)) (C + 3) k (Int32.toInt64 (mI M C 12 + 1))) (C + 5) k (mL M C 11 + Int32.toInt64 (840 * mI M c k / mI M s k))
theorem c_use (d : Nat) (h : cA M C) (hK : kA M K s c w) (hk : k < 26) (hs : 0 < mI M s k) (h1 : s ≠ C) (h2 : c ≠ C) : f_X1_use (d + 3) M C K (nI k) = some (.inl none, pUse M C s c k) := by
  have a1 := h.1.1
  have a2 := h.1.2.2.2.1
  have a3 := h.1.2.2.2.2.2.1
  have a4 := hK.1
  have a5 := h.2.2.2.2.2.1
  have a6 := h.2.2.2.2.2.2.2.1
  rw [e_X1_use]
  simp only [lt_ck, lt_m, lt_rf, mK_wI, mP_wI, a1, a2, if_true]
  rw [s10_putL (M := wI M C 12 (mI M C 12 + 1)) (d + 1) a5 hk, lt_bv_r]
  simp only [mK_wI, mK_wL, mP_wI, mP_wL, a1, a3, a4, if_true]
  have hs' : 0 < mI (wL (wI M C 12 (mI M C 12 + 1)) (C + 3) k (Int32.toInt64 (mI (wI M C 12 (mI M C 12 + 1)) C 12))) s k := by
    rw [mI_wL, mI_wI_ne h1]; exact hs
  rw [s3_worthOf (M := wL (wI M C 12 (mI M C 12 + 1)) (C + 3) k (Int32.toInt64 (mI (wI M C 12 (mI M C 12 + 1)) C 12))) d hK hk hs', lt_bi_r, s10_putL (M := wL (wI M C 12 (mI M C 12 + 1)) (C + 3) k (Int32.toInt64 (mI (wI M C 12 (mI M C 12 + 1)) C 12))) (d + 1) a6 hk, lt_bv_r]
  rw [mI_wL, mI_wI_ne h1, mI_wI_ne h2, mI_wI, if_pos ⟨rfl, rfl⟩, mL_wL_ne (by omega), mL_wI]
  rfl
theorem pUse_cA (h : cA M C) {B : Nat} : cA (pUse M B s c k) C := h
theorem pUse_kA (h : kA M K s c w) {B t : Nat} : kA (pUse M B t t k) K s c w := h
/-- a hit -/
def pMeet (M : LM) (C s c k : Nat) : LM :=
  let M1 := if bt (mI M C 9) k = true then wI (wI M C 9 (mI M C 9 &&& (bb k ^^^ -1))) (C + 7) 7 (mI M (C + 7) 7 + 1) else M
  pUse (wI M1 C 7 (mI M1 C 7 ||| bb k)) C s c k
theorem c_meet (d : Nat) (h : cA M C) (hK : kA M K s c w) (hk : k < 26) (hs : 0 < mI M s k) (h1 : s ≠ C) (h2 : c ≠ C) (h3 : s ≠ C + 7) : f_X1_meet (d + 4) M C K (nI k) = some (.inl none, pMeet M C s c k) := by
  have a1 := h.1.1
  have a2 := h.1.2.2.2.2.2.2.1
  have a3 := h.2.1.1
  have a4 := h.2.1.2.1
  have a5 := h.2.2.2.2.2.2.2.2.1
  rw [e_X1_meet, s10_has (d + 2) hk, lt_bi_r, lt_ck_t a1]
  by_cases hb : bt (mI M C 9) k = true
  · rw [if_pos hb, if_neg (by decide), s10_bit (d + 2) hk, lt_bi_r]
    simp only [lt_ck, lt_m, lt_rf, mK_wI, mP_wI, a1, a2, a3, a4, if_true]
    have e1 : f_X10_add (d + 2 + 1) (wI M C 9 (mI M C 9 &&& (bb k ^^^ -1))) (C + 7) 7 1 = _ := s10_add (M := wI M C 9 (mI M C 9 &&& (bb k ^^^ -1))) (k := 7) (v := 1) (d + 2) a5 (by omega)
    rw [e1, lt_bv_r, mI_wI_ne (show C + 7 ≠ C by omega)]
    simp only [mK_wI, a1, if_true]
    rw [s10_bit (M := wI (wI M C 9 (mI M C 9 &&& (bb k ^^^ -1))) (C + 7) 7 (mI M (C + 7) 7 + 1)) (d + 2) hk, lt_bi_r]
    simp only [mK_wI, a1, if_true]
    rw [c_use (M := wI (wI (wI M C 9 (mI M C 9 &&& (bb k ^^^ -1))) (C + 7) 7 (mI M (C + 7) 7 + 1)) C 7 (mI (wI (wI M C 9 (mI M C 9 &&& (bb k ^^^ -1))) (C + 7) 7 (mI M (C + 7) 7 + 1)) C 7 ||| bb k)) d h hK hk (by rw [mI_wI_ne h1, mI_wI_ne h3, mI_wI_ne h1]; exact hs) h1 h2, lt_bv_r]
    unfold pMeet
    rw [if_pos hb]
  · rw [if_neg hb, if_pos rfl, s10_bit (d + 2) hk, lt_bi_r]
    simp only [lt_ck, lt_m, mK_wI, a1, if_true]
    rw [c_use (M := wI M C 7 (mI M C 7 ||| bb k)) d h hK hk (by rw [mI_wI_ne h1]; exact hs) h1 h2, lt_bv_r]
    unfold pMeet
    rw [if_neg hb]
end Cb
