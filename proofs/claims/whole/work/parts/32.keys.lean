/-! THE CLASS: Keys -/
/-- the keys' object o: sizes, costs, owners -/
def kA (M : LM) (o s c w : Nat) : Prop := mK M o = 19 ∧ mP M o 0 = some s ∧ mP M o 1 = some c ∧ mP M o 2 = some w ∧ aI M s 26 ∧ aI M c 26 ∧ aI M w 26
def pSum (set : Int32) (S : Nat → Int32) : Nat → Int32 → Int32
  | 0, acc => acc
  | n + 1, acc => pSum set S n (if bt set (25 - n) = true then acc + S (25 - n) else acc)
def pOwn (W : Nat → Int32) (x : Int32) : Nat → Int32 → Int32
  | 0, set => set
  | n + 1, set => pOwn W x n (if W (25 - n) = x then set ||| bb (25 - n) else set)
section Ky
variable {M : LM} {o s c w k : Nat} {x : Int32}
theorem lt_suc {n : Nat} (hn : n + 1 ≤ 26) : nI (26 - (n + 1)) = nI (25 - n) ∧ nI (25 - n) + 1 = nI (26 - n) ∧ nI (25 - n) < nI 26 := by
  refine ⟨by congr 1; omega, ?_, (lt_iL (by omega) (by omega)).mpr (by omega)⟩
  have : nI (25 - n) + 1 = nI (25 - n + 1) := (lt_iA (j := 25 - n) (k := 1))
  rw [this]
  congr 1
  omega
theorem s3_units_4 (d : Nat) (h : kA M o s c w) : ∀ (n : Nat) (acc : Int32), n ≤ 26 → f_X3_units_4 (d + 1) M o x acc (nI (26 - n)) = some (.inl (some (.int (pSum x (mI M s) n acc))), M)
  | 0, acc, _ => by
    obtain ⟨h0, h1, h2, h3, ⟨h4, h5, h6⟩, -⟩ := h
    rw [e_X3_units_4, lt_ck_t h0, lt_rf_t h1, lt_al_t (by omega), h5, if_neg (fun e => by have := (lt_iL (j := 26 - 0) (k := 26) (by omega) (by omega)).mp e; omega)]
    rfl
  | n + 1, acc, hn => by
    have ih := fun acc => s3_units_4 d h n acc (by omega)
    obtain ⟨h0, h1, h2, h3, ⟨h4, h5, h6⟩, -⟩ := h
    obtain ⟨g1, g2, g3⟩ := lt_suc hn
    rw [g1, e_X3_units_4, lt_ck_t h0, lt_rf_t h1, lt_al_t (by omega), h5, if_pos g3, g2]
    unfold pSum
    by_cases hb : bt x (25 - n) = true
    · rw [if_neg (fun e => by rw [(bt_test (by omega)).mp e] at hb; cases hb), if_pos hb, lt_ck_t h0, lt_rf_t h1, lt_ar_t h4 (by rw [h5]; exact lt_iI (by omega) (by omega)), lt_iN (by omega)]
      exact ih _
    · rw [if_pos ((bt_test (by omega)).mpr (by simpa using hb)), if_neg hb]
      exact ih _
theorem s3_units (d : Nat) (h : kA M o s c w) : f_X3_units (d + 1) M o x = some (.inl (some (.int (pSum x (mI M s) 26 0))), M) := by
  rw [e_X3_units]
  exact s3_units_4 d h 26 0 (Nat.le_refl _)
theorem s3_ofOwner_4 (d : Nat) (h : kA M o s c w) : ∀ (n : Nat) (set : Int32), n ≤ 26 → f_X3_ofOwner_4 (d + 1) M o x set (nI (26 - n)) = some (.inl (some (.int (pOwn (mI M w) x n set))), M)
  | 0, acc, _ => by
    obtain ⟨h0, h1, h2, h3, -, -, h4, h5, h6⟩ := h
    rw [e_X3_ofOwner_4, lt_ck_t h0, lt_rf_t h3, lt_al_t (by omega), h5, if_neg (fun e => by have := (lt_iL (j := 26 - 0) (k := 26) (by omega) (by omega)).mp e; omega)]
    rfl
  | n + 1, acc, hn => by
    have ih := fun acc => s3_ofOwner_4 d h n acc (by omega)
    obtain ⟨h0, h1, h2, h3, -, -, h4, h5, h6⟩ := h
    obtain ⟨g1, g2, g3⟩ := lt_suc hn
    rw [g1, e_X3_ofOwner_4, lt_ck_t h0, lt_rf_t h3, lt_al_t (by omega), h5, if_pos g3, g2, lt_ck_t h0, lt_rf_t h3, lt_ar_t h4 (by rw [h5]; exact lt_iI (by omega) (by omega)), lt_iN (by omega)]
    unfold pOwn
    by_cases hb : mI M w (25 - n) = x
    · rw [if_pos hb, if_pos hb]
      exact ih _
    · rw [if_neg hb, if_neg hb]
      exact ih _
theorem s3_ofOwner (d : Nat) (h : kA M o s c w) : f_X3_ofOwner (d + 1) M o x = some (.inl (some (.int (pOwn (mI M w) x 26 0))), M) := by
  rw [e_X3_ofOwner]
  exact s3_ofOwner_4 d h 26 0 (Nat.le_refl _)
theorem s3_worthOf (d : Nat) (h : kA M o s c w) (hk : k < 26) (hs : 0 < mI M s k) : f_X3_worthOf (d + 2) M o (nI k) = some (.inl (some (.int (840 * mI M c k / mI M s k))), M) := by
  obtain ⟨h0, h1, h2, h3, h4, h5, h6⟩ := h
  have e1 := s10_at d h4 hk
  have e2 := s10_at d h5 hk
  rw [e_X3_worthOf, lt_ck_t h0, lt_rf_t h1, e1]
  show (if _ then _ else _) = _
  rw [if_pos hs, lt_ck_t h0, lt_rf_t h2, e2]
  exact if_neg (fun e => by rw [e] at hs; exact absurd hs (by decide))
/-- the bits of what an owner owns -/
theorem pOwn_bt {W : Nat → Int32} {i : Nat} (hi : i < 26) : ∀ (n : Nat) (set : Int32), n ≤ 26 → bt (pOwn W x n set) i = (bt set i || (decide (26 ≤ i + n) && decide (W i = x)))
  | 0, set, _ => by
    unfold pOwn
    rw [decide_eq_false (by omega), Bool.false_and, Bool.or_false]
  | n + 1, set, hn => by
    unfold pOwn
    rw [pOwn_bt hi n _ (by omega)]
    by_cases he : i = 25 - n
    · subst he
      by_cases hw : W (25 - n) = x
      · rw [if_pos hw, b_or, bt_bb (by omega) (by omega)]
        simp [hw]
        omega
      · rw [if_neg hw]
        simp [hw]
    · have e1 : bt (if W (25 - n) = x then set ||| bb (25 - n) else set) i = bt set i := by
        split
        · rw [b_or, bt_bb (by omega) (by omega), decide_eq_false he, Bool.or_false]
        · rfl
      rw [e1]
      have e2 : (26 ≤ i + n) ↔ (26 ≤ i + (n + 1)) := by omega
      simp only [e2]
end Ky
