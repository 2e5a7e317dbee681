/-! THE CLASS: a Cache, shares and owners -/
section Cd
variable {M : LM} {C K s c w k : Nat} {x set : Int32}
def pShares (M : LM) (C : Nat) : Int32 := ((mI M (C + 1) 0 ||| mI M (C + 1) 1) ||| mI M (C + 1) 2) ||| mI M (C + 1) 3
theorem c_hasShares (d : Nat) (h : cA M C) : f_X1_hasShares (d + 2) M C = some (.inl (some (.int (if pShares M C = 0 then 0 else 1))), M) := by
  obtain ⟨⟨a1, a2, -⟩, -, -, ⟨b1, -⟩⟩ := h
  have e0 : f_X10_at (d + 1) M (C + 1) 0 = _ := s10_at (k := 0) d b1 (by omega)
  have e1 : f_X10_at (d + 1) M (C + 1) 1 = _ := s10_at (k := 1) d b1 (by omega)
  have e2 : f_X10_at (d + 1) M (C + 1) 2 = _ := s10_at (k := 2) d b1 (by omega)
  have e3 : f_X10_at (d + 1) M (C + 1) 3 = _ := s10_at (k := 3) d b1 (by omega)
  rw [e_X1_hasShares, lt_ck_t a1, lt_rf_t a2, e0, lt_bi_r, lt_ck_t a1, lt_rf_t a2, e1, lt_bi_r, lt_ck_t a1, lt_rf_t a2, e2, lt_bi_r, lt_ck_t a1, lt_rf_t a2, e3, lt_bi_r]
  show (if pShares M C = 0 then _ else _) = _
  by_cases hs : pShares M C = 0
  · rw [if_pos hs, if_pos hs]; exact lt_b1_0
  · rw [if_neg hs, if_neg hs]; exact lt_b1_1
def pBeyond (M : LM) (C s w : Nat) (set : Int32) : Nat → Int32 → Int32
  | 0, b => b
  | n + 1, b => pBeyond M C s w set n (if mI M (C + 1) (3 - n) < pSum (set &&& pOwn (mI M w) (nI (3 - n)) 26 0) (mI M s) 26 0 then b ||| bb (3 - n) else b)
theorem c_ownersBeyond_14 (d : Nat) (h : cA M C) (hK : kA M K s c w) : ∀ (n : Nat) (b : Int32), n ≤ 4 → f_X1_ownersBeyond_14 (d + 2) M C K set b (nI (4 - n)) = some (.inl (some (.int (pBeyond M C s w set n b))), M)
  | 0, b, _ => by
    obtain ⟨⟨a1, a2, -⟩, -, -, ⟨⟨b1, b2, b3⟩, -⟩⟩ := h
    rw [e_X1_ownersBeyond_14, lt_ck_t a1, lt_rf_t a2, lt_al_t (by omega), b2, if_neg (fun e => by have := (lt_iL (j := 4 - 0) (k := 4) (by omega) (by omega)).mp e; omega)]
    rfl
  | n + 1, b, hn => by
    have ih := fun b => c_ownersBeyond_14 d h hK n b (by omega)
    obtain ⟨⟨a1, a2, -⟩, -, -, ⟨⟨b1, b2, b3⟩, -⟩⟩ := h
    have g1 : nI (4 - (n + 1)) = nI (3 - n) := by congr 1; omega
    have g2 : nI (3 - n) + 1 = nI (4 - n) := by
      have : nI (3 - n) + 1 = nI (3 - n + 1) := (lt_iA (j := 3 - n) (k := 1))
      rw [this]
      congr 1
      omega
    rw [g1, e_X1_ownersBeyond_14, lt_ck_t a1, lt_rf_t a2, lt_al_t (by omega), b2, if_pos ((lt_iL (by omega) (by omega)).mpr (by omega)), lt_ck_t hK.1, s3_ofOwner d hK, lt_bi_r, lt_ck_t hK.1, s3_units d hK, lt_bi_r, lt_ck_t a1, lt_rf_t a2, lt_ar_t b1 (by rw [b2]; exact lt_iI (by omega) (by omega)), lt_iN (by omega), g2]
    unfold pBeyond
    by_cases hl : mI M (C + 1) (3 - n) < pSum (set &&& pOwn (mI M w) (nI (3 - n)) 26 0) (mI M s) 26 0
    · rw [if_pos hl, if_pos hl]
      exact ih _
    · rw [if_neg hl, if_neg hl]
      exact ih _
theorem c_ownersBeyond (d : Nat) (h : cA M C) (hK : kA M K s c w) : f_X1_ownersBeyond (d + 3) M C K set = some (.inl (some (.int (if pShares M C = 0 then 0 else pBeyond M C s w set 4 0))), M) := by
  rw [e_X1_ownersBeyond, lt_ck_t h.1.1, c_hasShares d h, lt_bi_r]
  by_cases hs : pShares M C = 0
  · rw [if_pos hs, if_pos rfl, if_pos hs]
  · rw [if_neg hs, if_neg (by decide), if_neg hs]
    exact c_ownersBeyond_14 (d + 1) h hK 4 0 (Nat.le_refl _)
theorem c_canFetch (d : Nat) (h : cA M C) (hK : kA M K s c w) {j : Nat} (hj : j < 26) (hk : k < 26) : f_X1_canFetch (d + 2) M C K (nI j) (nI k) = some (.inl (some (.int (if j ≠ k ∧ bt (mI M C 5) j = false ∧ ¬ mI M C 1 < mI M s j + (if bt (mI M C 5) k = true then mI M s k else 0) then 1 else 0))), M) := by
  have fin : ∀ y : Int32, f_X1_canFetch_31 (d + 1 + 1) M C (nI j) (nI k) y (mI M s j) = some (.inl (some (.int (if j ≠ k ∧ bt (mI M C 5) j = false ∧ ¬ mI M C 1 < mI M s j + y then 1 else 0))), M) := fun y => by
    rw [e_X1_canFetch_31]
    by_cases hjk : j = k
    · rw [if_pos (by rw [hjk]), if_neg (fun q => q.1 hjk)]; exact lt_b1_0
    · rw [if_neg (fun e => hjk ((lt_iE (by omega) (by omega)).mp e)), lt_ck_t h.1.1, s10_has d hj, lt_bi_r]
      cases hb : bt (mI M C 5) j with
      | true => rw [if_pos rfl, if_neg (by decide), if_neg (fun q => by cases q.2.1)]; exact lt_b1_0
      | false =>
        rw [if_neg Bool.false_ne_true, if_pos rfl, lt_ck_t h.1.1]
        by_cases hl : mI M C 1 < mI M s j + y
        · rw [if_pos hl, if_neg (fun q => q.2.2 hl)]; exact lt_b1_0
        · rw [if_neg hl, if_pos ⟨hjk, rfl, hl⟩]; exact lt_b1_1
  rw [e_X1_canFetch, lt_ck_t hK.1, lt_rf_t hK.2.1, s10_at d hK.2.2.2.2.1 hj, lt_bi_r, lt_ck_t h.1.1, s10_has d hk, lt_bi_r]
  cases hb : bt (mI M C 5) k with
  | true =>
    rw [if_pos rfl, if_neg (by decide), lt_ck_t hK.1, lt_rf_t hK.2.1, s10_at d hK.2.2.2.2.1 hk, lt_bi_r, if_pos rfl]
    exact fin _
  | false =>
    rw [if_neg Bool.false_ne_true, if_pos rfl, if_neg Bool.false_ne_true]
    exact fin _
end Cd
