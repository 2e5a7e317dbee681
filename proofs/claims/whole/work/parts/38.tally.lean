/-! THE CLASS: a Tally (of the Cache at C: the cell C + 6) -/
section Ta
variable {M : LM} {C k r : Nat} {x : Int32}
/-- the rank by fewest, behind one more request -/
def pRank (y : Int64) (r : Int32) : Int64 := (y / 300 + 1) * 300 + Int32.toInt64 r
theorem c_rank (d : Nat) {y : Int64} {x : Int32} : f_X10_rankAskedAgain (d + 1) M y x = some (.inl (some (.long (pRank y x))), M) := by
  rw [e_X10_rankAskedAgain]
  exact if_neg (by decide)
def pAsked (M : LM) (C : Nat) (x : Int32) (k : Nat) : LM := wL (wL M (C + 11) k (Int32.toInt64 x)) (C + 12) k (pRank (mL M (C + 12) k) x)
theorem c_noteAsked (d : Nat) (h : cA M C) (hk : k < 26) : f_X8_noteAsked (d + 2) M (C + 6) x (nI k) = some (.inl none, pAsked M C x k) := by
  obtain ⟨-, ⟨t1, t2, t3, t4, t5, t6, t7⟩, -, ⟨b1, b2, b3, b4, b5, b6, b7, b8, b9, b10, b11⟩⟩ := h
  rw [e_X8_noteAsked, lt_ck_t t1, lt_rf_t t6, s10_putL d b10 hk, lt_bv_r]
  refine (lt_ck_t (M := wL M (C + 11) k (Int32.toInt64 x)) t1).trans ?_
  rw [lt_rf_t (show mP (wL M (C + 11) k (Int32.toInt64 x)) (C + 6) 5 = some (C + 12) from t7)]
  refine (lt_ck_t (M := wL M (C + 11) k (Int32.toInt64 x)) t1).trans ?_
  rw [lt_rf_t (show mP (wL M (C + 11) k (Int32.toInt64 x)) (C + 6) 5 = some (C + 12) from t7), s10_atL (M := wL M (C + 11) k (Int32.toInt64 x)) d b11 hk, lt_bl_r, c_rank, lt_bl_r, s10_putL (M := wL M (C + 11) k (Int32.toInt64 x)) d b11 hk, lt_bv_r, mL_wL_ne (show C + 12 ≠ C + 11 by omega)]
  rfl
/-- what an outcome leaves -/
def pNote (M : LM) (C r k : Nat) (x : Int32) : LM :=
  let M1 := wI (wI M (C + 10) r x) (C + 6) 7 (nI r + 1)
  let M2 := wI M1 (C + 7) (if x = 0 then 0 else 1) (mI M1 (C + 7) (if x = 0 then 0 else 1) + 1)
  let M3 := wI M2 (if x = 0 then C + 8 else C + 9) k (mI M2 (if x = 0 then C + 8 else C + 9) k + 1)
  if x = 2 then wI M3 (C + 7) 5 (mI M3 (C + 7) 5 + 1) else M3
theorem c_noteOutcome_29 (d : Nat) (h : cA M C) (hk : k < 26) (j : Nat) (hj : j < 9) : f_X8_noteOutcome_29 (d + 2) M (C + 6) (nI k) x (nI j) (C + 7) = some (.inl none,
    let M2 := wI M (C + 7) j (mI M (C + 7) j + 1)
    let M3 := wI M2 (if x = 0 then C + 8 else C + 9) k (mI M2 (if x = 0 then C + 8 else C + 9) k + 1)
    if x = 2 then wI M3 (C + 7) 5 (mI M3 (C + 7) 5 + 1) else M3) := by
  obtain ⟨-, ⟨t1, t2, t3, t4, t5, t6, t7⟩, -, ⟨b1, b2, b3, b4, b5, b6, b7, b8, b9, b10, b11⟩⟩ := h
  rw [e_X8_noteOutcome_29, s10_add d b6 hj, lt_bv_r]
  dsimp only
  have fin : ∀ (a : Nat), aI M a 26 → (lt_bv (f_X10_add (d + 1) (wI M (C + 7) j (mI M (C + 7) j + 1)) a (nI k) 1) [] fun M11 => if @Eq Int32 x 2 then (lt_ck M11 (C + 6) 24 (lt_rf (mP M11 (C + 6) 0) fun q12 => lt_bv (f_X10_add (d + 1) M11 q12 5 1) [] fun M13 => some (.inl none, M13))) else (some (.inl none, M11))) =
      some (Sum.inl none, if x = 2 then wI (wI (wI M (C + 7) j (mI M (C + 7) j + 1)) a k (mI (wI M (C + 7) j (mI M (C + 7) j + 1)) a k + 1)) (C + 7) 5 (mI (wI (wI M (C + 7) j (mI M (C + 7) j + 1)) a k (mI (wI M (C + 7) j (mI M (C + 7) j + 1)) a k + 1)) (C + 7) 5 + 1) else wI (wI M (C + 7) j (mI M (C + 7) j + 1)) a k (mI (wI M (C + 7) j (mI M (C + 7) j + 1)) a k + 1)) := fun a ha => by
    rw [s10_add (M := wI M (C + 7) j (mI M (C + 7) j + 1)) d ha hk, lt_bv_r]
    by_cases h2 : x = 2
    · rw [if_pos h2, if_pos h2]
      refine (lt_ck_t (M := wI (wI M (C + 7) j (mI M (C + 7) j + 1)) a k (mI (wI M (C + 7) j (mI M (C + 7) j + 1)) a k + 1)) t1).trans ?_
      rw [lt_rf_t (show mP (wI (wI M (C + 7) j (mI M (C + 7) j + 1)) a k (mI (wI M (C + 7) j (mI M (C + 7) j + 1)) a k + 1)) (C + 6) 0 = some (C + 7) from t2)]
      have e1 : f_X10_add (d + 1) (wI (wI M (C + 7) j (mI M (C + 7) j + 1)) a k (mI (wI M (C + 7) j (mI M (C + 7) j + 1)) a k + 1)) (C + 7) 5 1 = _ := s10_add (M := wI (wI M (C + 7) j (mI M (C + 7) j + 1)) a k (mI (wI M (C + 7) j (mI M (C + 7) j + 1)) a k + 1)) (k := 5) (v := 1) d b6 (by omega)
      rw [e1, lt_bv_r]
    · rw [if_neg h2, if_neg h2]
  by_cases h0 : x = 0
  · rw [if_pos h0, if_pos h0]
    refine (lt_ck_t (M := wI M (C + 7) j (mI M (C + 7) j + 1)) t1).trans ?_
    rw [lt_rf_t (show mP (wI M (C + 7) j (mI M (C + 7) j + 1)) (C + 6) 1 = some (C + 8) from t3)]
    exact fin _ b7
  · rw [if_neg h0, if_neg h0]
    refine (lt_ck_t (M := wI M (C + 7) j (mI M (C + 7) j + 1)) t1).trans ?_
    rw [lt_rf_t (show mP (wI M (C + 7) j (mI M (C + 7) j + 1)) (C + 6) 2 = some (C + 9) from t4)]
    exact fin _ b8
theorem c_noteOutcome (d : Nat) (h : cA M C) (hk : k < 26) (hr : r < 300) : f_X8_noteOutcome (d + 2) M (C + 6) (nI r) (nI k) x = some (.inl none, pNote M C r k x) := by
  have h' := h
  obtain ⟨-, ⟨t1, t2, t3, t4, t5, t6, t7⟩, -, ⟨b1, b2, b3, b4, b5, b6, b7, b8, b9, b10, b11⟩⟩ := h
  rw [e_X8_noteOutcome, lt_ck_t t1, lt_rf_t t5, s10_put d b9 hr, lt_bv_r]
  refine (lt_ck_t (M := wI M (C + 10) r x) t1).trans ?_
  simp only [lt_m]
  refine (lt_ck_t (M := wI (wI M (C + 10) r x) (C + 6) 7 (nI r + 1)) t1).trans ?_
  rw [lt_rf_t (show mP (wI (wI M (C + 10) r x) (C + 6) 7 (nI r + 1)) (C + 6) 0 = some (C + 7) from t2)]
  unfold pNote
  by_cases h0 : x = 0
  · rw [if_pos h0]
    have e1 := c_noteOutcome_29 (M := wI (wI M (C + 10) r x) (C + 6) 7 (nI r + 1)) (x := x) d h' hk 0 (by omega)
    simp only [h0, if_true] at e1 ⊢
    exact e1
  · rw [if_neg h0]
    have e1 := c_noteOutcome_29 (M := wI (wI M (C + 10) r x) (C + 6) 7 (nI r + 1)) (x := x) d h' hk 1 (by omega)
    simp only [h0, if_false] at e1 ⊢
    exact e1
end Ta
