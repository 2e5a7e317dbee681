/-! THE CLASS: a Cache, a key put out */ -/
section Cj
variable {M : LM} {C K s c w k : Nat} {these x : Int32}
def pPop (x : Int32) : Int32 :=
  let i1 := x - (lt_us x 1 &&& 1431655765)
  let i2 := (i1 &&& 858993459) + (lt_us i1 2 &&& 858993459)
  let i3 := (i2 + lt_us i2 4) &&& 252645135
  let i4 := i3 + lt_us i3 8
  let i5 := i4 + lt_us i4 16
  i5 &&& 63
theorem c_pop (d : Nat) : f_J6_bitCount_0f7a4 (d + 1) M x = some (.inl (some (.int (pPop x))), M) := by
  rw [e_J6_bitCount_0f7a4]
  rfl
def pRem0 (M : LM) (C k : Nat) : LM := wL (wI (wI M C 10 (mI M C 10 ||| bb k)) C 12 (mI M C 12 + 1)) (C + 4) k (Int32.toInt64 (mI M C 12 + 1))
def pRemember (M : LM) (C k : Nat) : LM := if mI M C 1 < pPop (mI M C 10 ||| bb k) then wI (pRem0 M C k) C 10 ((mI M C 10 ||| bb k) &&& (pBit (pLst (mI M C 10 ||| bb k) (mL (pRem0 M C k) (C + 4))) ^^^ -1)) else pRem0 M C k
theorem c_remember (d : Nat) (h : cA M C) (hk : k < 26) : f_X1_remember (d + 2) M C (nI k) = some (.inl none, pRemember M C k) := by
  obtain ⟨⟨a1, a2, a3, a4, a5, a6, a7, a8, a9⟩, -, -, ⟨b1, b2, b3, b4, b5, b6, b7, b8, b9, b10, b11⟩⟩ := h
  have r10 : mI (pRem0 M C k) C 10 = mI M C 10 ||| bb k := by
    unfold pRem0
    rw [mI_wL, mI_wI, if_neg (by omega), mI_wI, if_pos ⟨rfl, rfl⟩]
  have r1 : mI (pRem0 M C k) C 1 = mI M C 1 := by
    unfold pRem0
    rw [mI_wL, mI_wI, if_neg (by omega), mI_wI, if_neg (by omega)]
  have e12 : mI (wI M C 10 (mI M C 10 ||| bb k)) C 12 = mI M C 12 := by rw [mI_wI, if_neg (by omega)]
  rw [e_X1_remember, lt_ck_t a1, s10_bit d hk, lt_bi_r, lt_ck_t a1]
  simp only [lt_m]
  refine (lt_ck_t (M := wI M C 10 (mI M C 10 ||| bb k)) a1).trans ?_
  refine (lt_ck_t (M := wI M C 10 (mI M C 10 ||| bb k)) a1).trans ?_
  rw [e12]
  refine (lt_ck_t (M := wI (wI M C 10 (mI M C 10 ||| bb k)) C 12 (mI M C 12 + 1)) a1).trans ?_
  rw [lt_rf_t (show mP (wI (wI M C 10 (mI M C 10 ||| bb k)) C 12 (mI M C 12 + 1)) C 15 = some (C + 4) from a5)]
  refine (lt_ck_t (M := wI (wI M C 10 (mI M C 10 ||| bb k)) C 12 (mI M C 12 + 1)) a1).trans ?_
  rw [mI_wI (b := C) (j := 12), if_pos ⟨rfl, rfl⟩, s10_putL (M := wI (wI M C 10 (mI M C 10 ||| bb k)) C 12 (mI M C 12 + 1)) d b4 hk, lt_bv_r]
  refine (lt_ck_t (M := pRem0 M C k) a1).trans ?_
  show lt_bi (f_J6_bitCount_0f7a4 (d + 1) (pRem0 M C k) (mI (pRem0 M C k) C 10)) [] _ = _
  rw [r10, c_pop, lt_bi_r]
  refine (lt_ck_t (M := pRem0 M C k) a1).trans ?_
  rw [r1]
  unfold pRemember
  by_cases hl : mI M C 1 < pPop (mI M C 10 ||| bb k)
  · rw [if_pos hl, if_pos hl]
    refine (lt_ck_t (M := pRem0 M C k) a1).trans ?_
    refine (lt_ck_t (M := pRem0 M C k) a1).trans ?_
    refine (lt_ck_t (M := pRem0 M C k) a1).trans ?_
    rw [lt_rf_t (show mP (pRem0 M C k) C 15 = some (C + 4) from a5), r10, s10_least (M := pRem0 M C k) d b4 (by omega), lt_bi_r, s10_bitG, lt_bi_r]
    exact lt_ck_t (M := pRem0 M C k) a1
  · rw [if_neg hl, if_neg hl]
def pTakeOut (M : LM) (C k : Nat) : LM := pTake (if bt (mI M C 6) k = true then wI M (C + 7) 4 (mI M (C + 7) 4 + 1) else M) C k
theorem pTakeOut_cA (h : cA M C) {B : Nat} : cA (pTakeOut M B k) C := by
  unfold pTakeOut pTake
  split <;> exact h
theorem pRemember_cA (h : cA M C) {B : Nat} : cA (pRemember M B k) C := by
  unfold pRemember pRem0
  split <;> exact h
def pOut53 (M : LM) (C k : Nat) : LM :=
  let M2 := pTakeOut (if mI M C 0 = 4 ∧ bt (mI M C 8) k = false then pRemember M C k else M) C k
  wI M2 (C + 7) 2 (mI M2 (C + 7) 2 + 1)
theorem c_out_end (d : Nat) {N : LM} (h : cA N C) (hk : k < 26) : (lt_ck N C 17 (lt_bv (f_X1_takeOut (d + 2) N C (nI k)) [] fun M21 => lt_ck M21 C 17 (lt_rf (mP M21 C 17) fun q22 => lt_ck M21 q22 24 (lt_rf (mP M21 q22 0) fun q23 => lt_bv (f_X10_add (d + 2) M21 q23 2 1) [] fun M24 => some (.inl none, M24))))) = some (Sum.inl none, wI (pTakeOut N C k) (C + 7) 2 (mI (pTakeOut N C k) (C + 7) 2 + 1)) := by
  have h2 := pTakeOut_cA (k := k) h (B := C)
  have e1 : f_X1_takeOut (d + 2) N C (nI k) = some (.inl none, pTakeOut N C k) := c_takeOut d h hk
  rw [lt_ck_t h.1.1, e1, lt_bv_r]
  obtain ⟨⟨a1, a2, a3, a4, a5, a6, a7, a8, a9⟩, ⟨t1, t2, -⟩, -, ⟨b1, b2, b3, b4, b5, b6, -⟩⟩ := h2
  have e2 : f_X10_add (d + 1 + 1) (pTakeOut N C k) (C + 7) 2 1 = _ := s10_add (M := pTakeOut N C k) (k := 2) (v := 1) (d + 1) b6 (by omega)
  rw [lt_ck_t a1, lt_rf_t a7, lt_ck_t t1, lt_rf_t t2, e2, lt_bv_r]
theorem c_out53 (d : Nat) (h : cA M C) (hk : k < 26) : f_X1_putOut_53 (d + 3) M C (nI k) = some (.inl none, pOut53 M C k) := by
  have a1 := h.1.1
  rw [e_X1_putOut_53, lt_ck_t a1]
  unfold pOut53
  by_cases hr : mI M C 0 = 4
  · rw [if_pos hr, lt_ck_t a1, s10_has (d + 1) hk, lt_bi_r]
    cases hb : bt (mI M C 8) k with
    | true =>
      rw [if_pos rfl, if_neg (by decide), if_neg (fun q => by cases q.2)]
      exact c_out_end d h hk
    | false =>
      rw [if_neg Bool.false_ne_true, if_pos rfl, if_pos ⟨hr, rfl⟩, lt_ck_t a1, c_remember d h hk, lt_bv_r]
      exact c_out_end d (pRemember_cA h) hk
  · rw [if_neg hr, if_neg (fun q => hr q.1)]
    exact c_out_end d h hk
end Cj
