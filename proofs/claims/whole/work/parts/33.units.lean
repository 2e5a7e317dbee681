/-! UNITS HELD: class and reference alike -/
/-- the keys held: a set of bits against a row of 0 and 1 -/
def rB (set : Int32) (S : Nat → Int32) (p : Nat) : Prop := ∀ k, k < 26 → (bt set k = true ↔ S (p + k) = 1)
theorem p_units {set : Int32} {S Z : Nat → Int32} {u : Nat} (h : rB set S (1004 + 662 * u)) (hz : ∀ k, k < 26 → Z k = S (2 + k)) : ∀ (n : Nat) (acc : Int32), n ≤ 26 → pUnits S u (-1) n acc = pSum set Z n acc
  | 0, _, _ => rfl
  | n + 1, acc, hn => by
    unfold pUnits pSum pU1
    rw [p_units h hz n _ (by omega), if_pos rfl]
    congr 1
    by_cases hb : bt set (25 - n) = true
    · rw [if_pos ((h (25 - n) (by omega)).mp hb), if_pos hb, hz (25 - n) (by omega)]
    · rw [if_neg (fun e => hb ((h (25 - n) (by omega)).mpr e)), if_neg hb, Int32.add_zero]
/-- of one owner -/
theorem p_unitsOf {set : Int32} {S Z W : Nat → Int32} {u : Nat} {x : Int32} (hx : x ≠ -1) (h : rB set S (1004 + 662 * u)) (hz : ∀ k, k < 26 → Z k = S (2 + k)) (hw : ∀ k, k < 26 → W k = S (54 + k)) : ∀ (n : Nat) (acc : Int32), n ≤ 26 → pUnits S u x n acc = pSum (set &&& pOwn W x 26 0) Z n acc
  | 0, _, _ => rfl
  | n + 1, acc, hn => by
    have hob : bt (pOwn W x 26 0) (25 - n) = decide (W (25 - n) = x) := by
      rw [pOwn_bt (by omega) 26 0 (Nat.le_refl _), b_0, Bool.false_or, decide_eq_true (by omega), Bool.true_and]
    unfold pUnits pSum pU1
    rw [p_unitsOf hx h hz hw n _ (by omega), if_neg hx]
    congr 1
    rw [b_and, hob, ← hw (25 - n) (by omega)]
    by_cases hb : bt set (25 - n) = true
    · rw [if_pos ((h (25 - n) (by omega)).mp hb), hb, Bool.true_and]
      by_cases ho : W (25 - n) = x
      · rw [if_pos ho, if_pos (decide_eq_true ho), hz (25 - n) (by omega)]
      · rw [if_neg ho, if_neg (by simpa using ho), Int32.add_zero]
    · rw [if_neg (fun e => hb ((h (25 - n) (by omega)).mpr e)), if_neg (fun e => by rw [Bool.and_eq_true] at e; exact hb e.1), Int32.add_zero]
