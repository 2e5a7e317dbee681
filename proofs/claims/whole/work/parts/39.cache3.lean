/-! THE CLASS: a Cache, writes and outcomes -/
section Cc
variable {M : LM} {C K s c w k r : Nat} {x : Int32}
theorem c_outcomeAt (d : Nat) (h : cA M C) {f e : Nat} (hf : mI M (C + 6) 6 = nI f) (he : mI M (C + 6) 7 = nI e) (hf2 : f < 2147483648) (he2 : e ≤ 300) (hr : r < 2147483648) : f_X8_outcomeAt (d + 2) M (C + 6) (nI r) = some (.inl (some (.int (if f ≤ r ∧ r < e then mI M (C + 10) r else -1))), M) := by
  obtain ⟨-, ⟨t1, t2, t3, t4, t5, t6, t7⟩, -, ⟨b1, b2, b3, b4, b5, b6, b7, b8, b9, b10, b11⟩⟩ := h
  rw [e_X8_outcomeAt, lt_ck_t t1, hf]
  by_cases h1 : r < f
  · rw [if_pos ((lt_iL hr hf2).mpr h1), if_neg (by omega)]
  · rw [if_neg (fun e => h1 ((lt_iL hr hf2).mp e)), lt_ck_t t1, he]
    by_cases h2 : r < e
    · rw [if_pos ((lt_iL hr (by omega)).mpr h2), lt_ck_t t1, lt_rf_t t5, s10_at d b9 (by omega), lt_bi_r, if_pos ⟨by omega, h2⟩]
    · rw [if_neg (fun q => h2 ((lt_iL hr (by omega)).mp q)), if_neg (by omega)]
/-- a write to a key -/
def pWrite22 (N : LM) (C k : Nat) (b : Bool) : LM := if b = true ∧ ¬ mI N C 3 &&& 1 = 0 then wI N C 6 (mI N C 6 ||| bb k) else wI N (C + 7) 4 (mI N (C + 7) 4 + 1)
theorem c_writeTo_22 (d : Nat) (h : cA M C) (hk : k < 26) {b : Bool} : f_X1_writeTo_22 (d + 2) M C (nI k) (if b = true then 1 else 0) = some (.inl none, pWrite22 M C k b) := by
  obtain ⟨⟨a1, -, -, -, -, -, a7, -⟩, ⟨t1, t2, -⟩, -, ⟨-, -, -, -, -, b6, -⟩⟩ := h
  have e2 : f_X10_add (d + 1) M (C + 7) 4 1 = _ := s10_add (k := 4) (v := 1) d b6 (by omega)
  rw [e_X1_writeTo_22]
  unfold pWrite22
  cases b with
  | false =>
    rw [if_neg Bool.false_ne_true, if_pos rfl, lt_ck_t a1, lt_rf_t a7, lt_ck_t t1, lt_rf_t t2, e2, lt_bv_r, if_neg (fun q => Bool.false_ne_true q.1)]
  | true =>
    rw [if_pos rfl, if_neg (by decide), lt_ck_t a1]
    by_cases h1 : mI M C 3 &&& 1 = 0
    · rw [if_pos h1, lt_ck_t a1, lt_rf_t a7, lt_ck_t t1, lt_rf_t t2, e2, lt_bv_r, if_neg (fun q => q.2 h1)]
    · rw [if_neg h1, lt_ck_t a1, s10_bit d hk, lt_bi_r, lt_ck_t a1, if_pos ⟨rfl, h1⟩]
      rfl
def pWrite (M : LM) (C k : Nat) (x : Int32) : LM := pWrite22 (if bt (mI M C 5) k = true then wI M (C + 2) k x else M) C k (bt (mI M C 5) k)
theorem c_writeTo (d : Nat) (h : cA M C) (hk : k < 26) : f_X1_writeTo (d + 2) M C (nI k) x = some (.inl none, pWrite M C k x) := by
  have h' := h
  obtain ⟨⟨a1, a2, a3, -⟩, -, -, ⟨-, b2, -⟩⟩ := h
  rw [e_X1_writeTo, lt_ck_t a1, s10_has d hk, lt_bi_r]
  unfold pWrite
  cases hb : bt (mI M C 5) k with
  | false =>
    have := c_writeTo_22 (b := false) d h' hk
    rw [if_neg Bool.false_ne_true] at this
    rw [if_neg Bool.false_ne_true, if_pos rfl, if_neg Bool.false_ne_true]
    exact this
  | true =>
    have := c_writeTo_22 (M := wI M (C + 2) k x) (b := true) d h' hk
    rw [if_pos rfl] at this
    rw [if_pos rfl, if_neg (by decide), lt_ck_t a1, lt_rf_t a3, s10_put d b2 hk, lt_bv_r, if_pos rfl]
    exact this
end Cc
