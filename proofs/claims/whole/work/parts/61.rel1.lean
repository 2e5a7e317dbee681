/-! THE RELATION: orders by stamps, that need only be alike -/
def ISO (c q : Nat) (s : Int32) (r : Nat → Int64) (P : Nat → Int32) : Prop :=
  ∃ a b : Nat → Nat, (∀ k, k < 26 → bt s k = true → r k = Int32.toInt64 (nI (a k)) ∧ a k ≤ c ∧ P k = nI (b k) ∧ b k ≤ q) ∧ ∀ j k, j < 26 → k < 26 → bt s j = true → bt s k = true → ((a j < a k ↔ b j < b k) ∧ (b j = b k → j = k))
section Rb
variable {c q c' q' k i j m n N L : Nat} {s s' : Int32} {r r' : Nat → Int64} {P P' : Nat → Int32}
theorem L64 (h : m < 2147483648) : (Int32.toInt64 (nI m)).toInt = (m : Int) := by rw [Int32.toInt_toInt64, lt_iT h]
theorem L64_lt (hm : m < 2147483648) (hn : n < 2147483648) : (Int32.toInt64 (nI m) < Int32.toInt64 (nI n)) ↔ m < n := by
  rw [Int64.lt_iff_toInt_lt, L64 hm, L64 hn]
  omega
theorem L64_add (h : m + n < 2147483648) : Int32.toInt64 (nI m) + Int32.toInt64 (nI n) = Int32.toInt64 (nI (m + n)) := by
  apply Int64.toInt.inj
  rw [Int64.toInt_add, L64 (by omega), L64 (by omega), L64 h]
  rw [Int.bmod_eq_of_le (by omega) (by omega)]
  omega
theorem L64_inj {x y : Int32} : (Int32.toInt64 x = Int32.toInt64 y) = (x = y) := propext ⟨fun e => by rw [← toI3 (y := x), ← toI3 (y := y), e], fun e => by rw [e]⟩
theorem ISO_mono (h : ISO c q s r P) (hc : c ≤ c') (hq : q ≤ q') : ISO c' q' s r P := by
  obtain ⟨a, b, h1, h2⟩ := h
  exact ⟨a, b, fun k hk hb => by
    obtain ⟨e1, e2, e3, e4⟩ := h1 k hk hb
    exact ⟨e1, by omega, e3, by omega⟩, h2⟩
theorem ISO_sub (h : ISO c q s r P) (hs : ∀ k, k < 26 → bt s' k = true → bt s k = true) (hr : ∀ k, k < 26 → bt s' k = true → r' k = r k ∧ P' k = P k) : ISO c q s' r' P' := by
  obtain ⟨a, b, h1, h2⟩ := h
  refine ⟨a, b, fun k hk hb => ?_, fun j k hj hk hbj hbk => h2 j k hj hk (hs j hj hbj) (hs k hk hbk)⟩
  obtain ⟨e1, e2, e3, e4⟩ := h1 k hk (hs k hk hb)
  obtain ⟨g1, g2⟩ := hr k hk hb
  exact ⟨g1.trans e1, e2, g2.trans e3, e4⟩
/-- a key stamped anew -/
theorem ISO_new (h : ISO c q s r P) (hk : k < 26) (hr : r' k = Int32.toInt64 (nI (c + 1))) (hP : P' k = nI (q + 1)) (hs : ∀ j, j < 26 → j ≠ k → bt s' j = true → bt s j = true) (ho : ∀ j, j < 26 → j ≠ k → bt s' j = true → r' j = r j ∧ P' j = P j) : ISO (c + 1) (q + 1) s' r' P' := by
  obtain ⟨a, b, h1, h2⟩ := h
  refine ⟨fun j => if j = k then c + 1 else a j, fun j => if j = k then q + 1 else b j, fun j hj hb => ?_, fun i j hi hj hbi hbj => ?_⟩
  · by_cases e : j = k
    · rw [e]
      dsimp only
      rw [if_pos rfl, if_pos rfl]
      exact ⟨hr, Nat.le_refl _, hP, Nat.le_refl _⟩
    · dsimp only
      rw [if_neg e, if_neg e]
      obtain ⟨e1, e2, e3, e4⟩ := h1 j hj (hs j hj e hb)
      obtain ⟨g1, g2⟩ := ho j hj e hb
      exact ⟨g1.trans e1, by omega, g2.trans e3, by omega⟩
  · dsimp only
    by_cases ei : i = k
    · rw [if_pos ei, if_pos ei]
      by_cases ej : j = k
      · rw [if_pos ej, if_pos ej]
        exact ⟨by omega, fun _ => by omega⟩
      · rw [if_neg ej, if_neg ej]
        obtain ⟨e1, e2, e3, e4⟩ := h1 j hj (hs j hj ej hbj)
        exact ⟨by omega, fun _ => by omega⟩
    · rw [if_neg ei, if_neg ei]
      obtain ⟨e1, e2, e3, e4⟩ := h1 i hi (hs i hi ei hbi)
      by_cases ej : j = k
      · rw [if_pos ej, if_pos ej]
        exact ⟨by omega, fun _ => by omega⟩
      · rw [if_neg ej, if_neg ej]
        exact h2 i j hi hj (hs i hi ei hbi) (hs j hj ej hbj)
theorem ISO_lt (h : ISO c q s r P) (hc : c < 2147483648) (hq : q < 2147483648) (hi : i < 26) (hj : j < 26) (bi : bt s i = true) (bj : bt s j = true) : (r i < r j) ↔ (P i < P j) := by
  obtain ⟨a, b, h1, h2⟩ := h
  obtain ⟨e1, e2, e3, e4⟩ := h1 i hi bi
  obtain ⟨g1, g2, g3, g4⟩ := h1 j hj bj
  rw [e1, g1, e3, g3, L64_lt (by omega) (by omega), lt_iL (by omega) (by omega)]
  exact (h2 i j hi hj bi bj).1
theorem ISO_inj (h : ISO c q s r P) (hq : q < 2147483648) (hi : i < 26) (hj : j < 26) (bi : bt s i = true) (bj : bt s j = true) (e : P i = P j) : i = j := by
  obtain ⟨a, b, h1, h2⟩ := h
  obtain ⟨e1, e2, e3, e4⟩ := h1 i hi bi
  obtain ⟨g1, g2, g3, g4⟩ := h1 j hj bj
  rw [e3, g3, lt_iE (by omega) (by omega)] at e
  exact (h2 i j hi hj bi bj).2 e
theorem ISO_dec (h : ISO c q s r P) (hc : c < 2147483648) (hq : q < 2147483648) (hi : i < 26) (hj : j < 26) (bi : bt s i = true) (bj : bt s j = true) : decide (r i < r j) = decide (P i < P j) := decide_eq_decide.mpr (ISO_lt h hc hq hi hj bi bj)
theorem ISO_0 : ISO c q 0 r P := ⟨fun _ => 0, fun _ => 0, fun k _ e => (by rw [b_0] at e; cases e), fun j k _ _ e => (by rw [b_0] at e; cases e)⟩
end Rb
