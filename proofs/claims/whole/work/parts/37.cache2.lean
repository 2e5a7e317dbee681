/-! THE CLASS: a Cache, on -/
section Cb
variable {M : LM} {C K s c w k : Nat}
/-- a key used -/
def pUse (M : LM) (C s c k : Nat) : LM := wL (wL (wI M C 12 (mI M C 12 + 1)) (C + 3) k (Int32.toInt64 (mI M C 12 + 1))) (C + 5) k (mL M C 11 + Int32.toInt64 (840 * mI M c k / mI M s k))
theorem c_use (d : Nat) (h : cA M C) (hK : kA M K s c w) (hk : k < 26) (hs : 0 < mI M s k) (h1 : s ≠ C) (h2 : c ≠ C) : f_X1_use (d + 3) M C K (nI k) = some (.inl none, pUse M C s c k) := by
  have a1 := h.1.1
  have a2 := h.1.2.2.2.1
  have a3 := h.1.2.2.2.2.2.1
  have a4 := hK.1
  have a5 := h.2.2.2.2.2.1
  have a6 := h.2.2.2.2.2.2.2.1
  rw [e_X1_use]
  simp only [lt_ck, lt_m, lt_rf, mK_wI, mP_wI, a1, a2, if_true]
  rw [s10_putL (M := wI M C 12 (mI M C 12 + 1)) (d + 1) a5 hk, lt_bv_r]
  simp only [mK_wI, mK_wL, mP_wI, mP_wL, a1, a3, a4, if_true]
  have hs' : 0 < mI (wL (wI M C 12 (mI M C 12 + 1)) (C + 3) k (Int32.toInt64 (mI (wI M C 12 (mI M C 12 + 1)) C 12))) s k := by
    rw [mI_wL, mI_wI_ne h1]; exact hs
  rw [s3_worthOf (M := wL (wI M C 12 (mI M C 12 + 1)) (C + 3) k (Int32.toInt64 (mI (wI M C 12 (mI M C 12 + 1)) C 12))) d hK hk hs', lt_bi_r, s10_putL (M := wL (wI M C 12 (mI M C 12 + 1)) (C + 3) k (Int32.toInt64 (mI (wI M C 12 (mI M C 12 + 1)) C 12))) (d + 1) a6 hk, lt_bv_r]
  rw [mI_wL, mI_wI_ne h1, mI_wI_ne h2, mI_wI, if_pos ⟨rfl, rfl⟩, mL_wL_ne (by omega), mL_wI]
  rfl
theorem pUse_cA (h : cA M C) {B : Nat} : cA (pUse M B s c k) C := h
theorem pUse_kA (h : kA M K s c w) {B t : Nat} : kA (pUse M B t t k) K s c w := h
/-- a hit -/
def pMeet (M : LM) (C s c k : Nat) : LM :=
  let M1 := if bt (mI M C 9) k = true then wI (wI M C 9 (mI M C 9 &&& (bb k ^^^ -1))) (C + 7) 7 (mI M (C + 7) 7 + 1) else M
  pUse (wI M1 C 7 (mI M1 C 7 ||| bb k)) C s c k
theorem c_meet (d : Nat) (h : cA M C) (hK : kA M K s c w) (hk : k < 26) (hs : 0 < mI M s k) (h1 : s ≠ C) (h2 : c ≠ C) (h3 : s ≠ C + 7) : f_X1_meet (d + 4) M C K (nI k) = some (.inl none, pMeet M C s c k) := by
  have a1 := h.1.1
  have a2 := h.1.2.2.2.2.2.2.1
  have a3 := h.2.1.1
  have a4 := h.2.1.2.1
  have a5 := h.2.2.2.2.2.2.2.2.1
  rw [e_X1_meet, s10_has (d + 2) hk, lt_bi_r, lt_ck_t a1]
  by_cases hb : bt (mI M C 9) k = true
  · rw [if_pos hb, if_neg (by decide), s10_bit (d + 2) hk, lt_bi_r]
    simp only [lt_ck, lt_m, lt_rf, mK_wI, mP_wI, a1, a2, a3, a4, if_true]
    have e1 : f_X10_add (d + 2 + 1) (wI M C 9 (mI M C 9 &&& (bb k ^^^ -1))) (C + 7) 7 1 = _ := s10_add (M := wI M C 9 (mI M C 9 &&& (bb k ^^^ -1))) (k := 7) (v := 1) (d + 2) a5 (by omega)
    rw [e1, lt_bv_r, mI_wI_ne (show C + 7 ≠ C by omega)]
    simp only [mK_wI, a1, if_true]
    rw [s10_bit (M := wI (wI M C 9 (mI M C 9 &&& (bb k ^^^ -1))) (C + 7) 7 (mI M (C + 7) 7 + 1)) (d + 2) hk, lt_bi_r]
    simp only [mK_wI, a1, if_true]
    rw [c_use (M := wI (wI (wI M C 9 (mI M C 9 &&& (bb k ^^^ -1))) (C + 7) 7 (mI M (C + 7) 7 + 1)) C 7 (mI (wI (wI M C 9 (mI M C 9 &&& (bb k ^^^ -1))) (C + 7) 7 (mI M (C + 7) 7 + 1)) C 7 ||| bb k)) d h hK hk (by rw [mI_wI_ne h1, mI_wI_ne h3, mI_wI_ne h1]; exact hs) h1 h2, lt_bv_r]
    unfold pMeet
    rw [if_pos hb]
  · rw [if_neg hb, if_pos rfl, s10_bit (d + 2) hk, lt_bi_r]
    simp only [lt_ck, lt_m, mK_wI, a1, if_true]
    rw [c_use (M := wI M C 7 (mI M C 7 ||| bb k)) d h hK hk (by rw [mI_wI_ne h1]; exact hs) h1 h2, lt_bv_r]
    unfold pMeet
    rw [if_neg hb]
/-- a key comes in -/
def pCome0 (M : LM) (C k : Nat) : LM :=
  let M1 := wI M C 5 (mI M C 5 ||| bb k)
  if bt (mI M C 10) k = true then wI (wI M1 C 10 (mI M1 C 10 &&& (bb k ^^^ -1))) C 8 (mI (wI M1 C 10 (mI M1 C 10 &&& (bb k ^^^ -1))) C 8 ||| bb k) else M1
def pCome (M : LM) (C s c k : Nat) (x : Int32) : LM :=
  let M3 := pUse (wI (pCome0 M C k) (C + 2) k x) C s c k
  wL M3 (C + 4) k (Int32.toInt64 (mI M3 C 12))
theorem pCome0_o {b : Nat} (hb : b ≠ C) : mI (pCome0 M C k) b = mI M b := by
  unfold pCome0
  dsimp only
  split
  · rw [mI_wI_ne hb, mI_wI_ne hb, mI_wI_ne hb]
  · rw [mI_wI_ne hb]
theorem c_comeIn_end (d : Nat) {N : LM} {x : Int32} (h : cA N C) (hK : kA N K s c w) (hk : k < 26) (hs : 0 < mI N s k) (h1 : s ≠ C) (h2 : c ≠ C) (h3 : s ≠ C + 2) :
    (lt_ck N C 17 (lt_rf (mP N C 13) fun q6 => lt_bv (f_X10_put (d + 3) N q6 (nI k) x) [] fun M7 => lt_ck M7 C 17 (lt_bv (f_X1_use (d + 3) M7 C K (nI k)) [] fun M8 => lt_ck M8 C 17 (lt_rf (mP M8 C 15) fun q9 => lt_ck M8 C 17 (lt_bv (f_X10_put_ (d + 3) M8 q9 (nI k) (Int32.toInt64 (mI M8 C 12))) [] fun M10 => some (.inl none, M10)))))) = some (Sum.inl none, wL (pUse (wI N (C + 2) k x) C s c k) (C + 4) k (Int32.toInt64 (mI (pUse (wI N (C + 2) k x) C s c k) C 12))) := by
  have a1 := h.1.1
  have a2 := h.1.2.2.1
  have a3 := h.1.2.2.2.2.1
  have a4 := h.2.2.2.2.1
  have a5 := h.2.2.2.2.2.2.1
  rw [lt_ck_t a1, lt_rf_t a2, s10_put (d + 2) a4 hk, lt_bv_r]
  refine (lt_ck_t (M := wI N (C + 2) k x) a1).trans ?_
  rw [c_use (M := wI N (C + 2) k x) d h hK hk (by rw [mI_wI_ne h3]; exact hs) h1 h2, lt_bv_r]
  refine (lt_ck_t (M := pUse (wI N (C + 2) k x) C s c k) a1).trans ?_
  rw [lt_rf_t (show mP (pUse (wI N (C + 2) k x) C s c k) C 15 = some (C + 4) from a3)]
  refine (lt_ck_t (M := pUse (wI N (C + 2) k x) C s c k) a1).trans ?_
  rw [s10_putL (M := pUse (wI N (C + 2) k x) C s c k) (d + 2) a5 hk, lt_bv_r]
theorem c_comeIn (d : Nat) {x : Int32} (h : cA M C) (hK : kA M K s c w) (hk : k < 26) (hs : 0 < mI M s k) (h1 : s ≠ C) (h2 : c ≠ C) (h3 : s ≠ C + 2) : f_X1_comeIn (d + 4) M C K (nI k) x = some (.inl none, pCome M C s c k x) := by
  have a1 := h.1.1
  rw [e_X1_comeIn, lt_ck_t a1, s10_bit (d + 2) hk, lt_bi_r, lt_ck_t a1]
  have e0 : mI (wI M C 5 (mI M C 5 ||| bb k)) C 10 = mI M C 10 := by rw [mI_wI, if_neg (by omega)]
  simp only [lt_m]
  refine (lt_ck_t (M := wI M C 5 (mI M C 5 ||| bb k)) a1).trans ?_
  rw [e0, s10_has (M := wI M C 5 (mI M C 5 ||| bb k)) (d + 2) hk, lt_bi_r]
  by_cases hb : bt (mI M C 10) k = true
  · have e9 : pCome0 M C k = wI (wI (wI M C 5 (mI M C 5 ||| bb k)) C 10 (mI (wI M C 5 (mI M C 5 ||| bb k)) C 10 &&& (bb k ^^^ -1))) C 8 (mI (wI (wI M C 5 (mI M C 5 ||| bb k)) C 10 (mI (wI M C 5 (mI M C 5 ||| bb k)) C 10 &&& (bb k ^^^ -1))) C 8 ||| bb k) := by
      unfold pCome0
      dsimp only
      rw [if_pos hb]
    rw [if_pos hb, if_neg (by decide)]
    refine (lt_ck_t (M := wI M C 5 (mI M C 5 ||| bb k)) a1).trans ?_
    rw [s10_bit (M := wI M C 5 (mI M C 5 ||| bb k)) (d + 2) hk, lt_bi_r]
    refine (lt_ck_t (M := wI M C 5 (mI M C 5 ||| bb k)) a1).trans ?_
    refine (lt_ck_t (M := wI (wI M C 5 (mI M C 5 ||| bb k)) C 10 (mI (wI M C 5 (mI M C 5 ||| bb k)) C 10 &&& (bb k ^^^ -1))) a1).trans ?_
    rw [s10_bit (M := wI (wI M C 5 (mI M C 5 ||| bb k)) C 10 (mI (wI M C 5 (mI M C 5 ||| bb k)) C 10 &&& (bb k ^^^ -1))) (d + 2) hk, lt_bi_r]
    refine (lt_ck_t (M := wI (wI M C 5 (mI M C 5 ||| bb k)) C 10 (mI (wI M C 5 (mI M C 5 ||| bb k)) C 10 &&& (bb k ^^^ -1))) a1).trans ?_
    rw [← e9]
    exact c_comeIn_end d (N := pCome0 M C k) (by rw [e9]; exact h) (by rw [e9]; exact hK) hk (by rw [pCome0_o h1]; exact hs) h1 h2 h3
  · have e9 : pCome0 M C k = wI M C 5 (mI M C 5 ||| bb k) := by
      unfold pCome0
      dsimp only
      rw [if_neg hb]
    rw [if_neg hb, if_pos rfl, ← e9]
    exact c_comeIn_end d (N := pCome0 M C k) (by rw [e9]; exact h) (by rw [e9]; exact hK) hk (by rw [pCome0_o h1]; exact hs) h1 h2 h3
end Cb
