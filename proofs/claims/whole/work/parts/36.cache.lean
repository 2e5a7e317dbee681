/-! THE CLASS: a Cache at the cells C .. C + 14 -/
def cA (M : LM) (C : Nat) : Prop := (mK M C = 17 ∧ mP M C 4 = some (C + 1) ∧ mP M C 13 = some (C + 2) ∧ mP M C 14 = some (C + 3) ∧ mP M C 15 = some (C + 4) ∧ mP M C 16 = some (C + 5) ∧ mP M C 17 = some (C + 6) ∧ mP M C 18 = some (C + 13) ∧ mP M C 19 = some (C + 14)) ∧
  (mK M (C + 6) = 24 ∧ mP M (C + 6) 0 = some (C + 7) ∧ mP M (C + 6) 1 = some (C + 8) ∧ mP M (C + 6) 2 = some (C + 9) ∧ mP M (C + 6) 3 = some (C + 10) ∧ mP M (C + 6) 4 = some (C + 11) ∧ mP M (C + 6) 5 = some (C + 12)) ∧
  (mK M (C + 13) = 21 ∧ mK M (C + 14) = 21) ∧
  (aI M (C + 1) 4 ∧ aI M (C + 2) 26 ∧ aL M (C + 3) 26 ∧ aL M (C + 4) 26 ∧ aL M (C + 5) 26 ∧ aI M (C + 7) 9 ∧ aI M (C + 8) 26 ∧ aI M (C + 9) 26 ∧ aI M (C + 10) 300 ∧ aL M (C + 11) 26 ∧ aL M (C + 12) 26)
section Ca
variable {M : LM} {C k a i : Nat} {v : Int32} {y : Int64}
theorem mK_wI : mK (wI M a i v) = mK M := rfl
theorem mK_wL : mK (wL M a i y) = mK M := rfl
theorem mP_wI : mP (wI M a i v) = mP M := rfl
theorem mP_wL : mP (wL M a i y) = mP M := rfl
theorem mZ_wI : mZ (wI M a i v) = mZ M := rfl
theorem mZ_wL : mZ (wL M a i y) = mZ M := rfl
theorem mL_wI : mL (wI M a i v) = mL M := rfl
theorem mI_wL : mI (wL M a i y) = mI M := rfl
theorem cA.wi (h : cA M C) : cA (wI M a i v) C := h
theorem cA.wl (h : cA M C) : cA (wL M a i y) C := h
theorem lt_bi_r {x : Int32} {M : LM} {hl : List (Nat × Int32)} {K : Int32 → LM → Option (LO × LM)} : lt_bi (some (.inl (some (.int x)), M)) hl K = K x M := rfl
theorem lt_bl_r {x : Int64} {M : LM} {hl : List (Nat × Int32)} {K : Int64 → LM → Option (LO × LM)} : lt_bl (some (.inl (some (.long x)), M)) hl K = K x M := rfl
theorem lt_bv_r {M : LM} {hl : List (Nat × Int32)} {K : LM → Option (LO × LM)} : lt_bv (some (.inl none, M)) hl K = K M := rfl
/-- a key taken out: the sets -/
def pTake (M : LM) (C k : Nat) : LM :=
  let M1 := wI M C 5 (mI M C 5 &&& (bb k ^^^ -1))
  let M2 := wI M1 C 6 (mI M1 C 6 &&& (bb k ^^^ -1))
  let M3 := wI M2 C 7 (mI M2 C 7 &&& (bb k ^^^ -1))
  let M4 := wI M3 C 8 (mI M3 C 8 &&& (bb k ^^^ -1))
  wI M4 C 9 (mI M4 C 9 &&& (bb k ^^^ -1))
theorem c_takeOut_23 (d : Nat) (h : cA M C) (hk : k < 26) : f_X1_takeOut_23 (d + 2) M C (nI k) = some (.inl none, pTake M C k) := by
  have h1 := h.1.1
  rw [e_X1_takeOut_23, s10_bit d hk, lt_bi_r]
  simp only [lt_ck, mK_wI, h1, if_true, lt_m]
  rfl
theorem c_takeOut (d : Nat) (h : cA M C) (hk : k < 26) : f_X1_takeOut (d + 2) M C (nI k) = some (.inl none, pTake (if bt (mI M C 6) k = true then wI M (C + 7) 4 (mI M (C + 7) 4 + 1) else M) C k) := by
  have h1 := h.1.1
  have h2 := h.1.2.2.2.2.2.2.1
  have h3 := h.2.1.1
  have h4 := h.2.1.2.1
  have h5 := h.2.2.2.2.2.2.2.2.1
  rw [e_X1_takeOut, s10_has d hk, lt_bi_r, lt_ck_t h1]
  by_cases hb : bt (mI M C 6) k = true
  · rw [if_pos hb, if_pos hb, if_neg (by decide), lt_ck_t h1, lt_rf_t h2, lt_ck_t h3, lt_rf_t h4]
    have e1 := s10_add (k := 4) (v := 1) d h5 (by omega)
    have e2 : f_X10_add (d + 1) M (C + 7) 4 1 = _ := e1
    rw [e2, lt_bv_r]
    exact c_takeOut_23 d h.wi hk
  · rw [if_neg hb, if_neg hb, if_pos rfl]
    exact c_takeOut_23 d h hk
end Ca
