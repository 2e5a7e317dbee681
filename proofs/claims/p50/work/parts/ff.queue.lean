/-! THE LAW'S OWN CACHE with sizes 1, and the search's queues -/
def QPR (mk : Bool) (q : PQ) (s : QQ) : Prop := q.1 = s.1 ∧ q.2.2.2.1 = q.1 ∧ ∀ i, i < s.1 → q.2.1 i = s.2.1 i ∧ (mk = true → q.2.2.1 i = s.2.2 i)
section Fp
variable {K : Nat → Nat} {key m : Nat} {mk : Bool} {q : PQ} {s : QQ}
theorem fIx_ex : ∀ (n i : Nat), fIx K key n i < i + n ↔ ∃ j, i ≤ j ∧ j < i + n ∧ K j = key
  | 0, i => ⟨fun h => absurd h (Nat.lt_irrefl _), fun ⟨j, h1, h2, _⟩ => by omega⟩
  | n + 1, i => by
    rw [fIx_s]
    by_cases q : K i = key
    · rw [if_pos q]; exact ⟨fun _ => ⟨i, Nat.le_refl _, by omega, q⟩, fun _ => by omega⟩
    · rw [if_neg q]
      have ih := fIx_ex n (i + 1)
      constructor
      · intro h
        obtain ⟨j, a, b, c⟩ := ih.mp (by omega)
        exact ⟨j, by omega, by omega, c⟩
      · intro ⟨j, a, b, c⟩
        have ne : j ≠ i := fun e => q (by rw [← e]; exact c)
        have := ih.mpr ⟨j, by omega, by omega, c⟩
        omega
theorem qHitQ_ex : ∀ m, qHitQ K key m = true ↔ ∃ j, j < m ∧ K j = key
  | 0 => ⟨fun h => Bool.noConfusion h, fun ⟨j, h, _⟩ => absurd h (Nat.not_lt_zero _)⟩
  | m + 1 => by
    show (qHitQ K key m || decide (K m = key)) = true ↔ _
    rw [Bool.or_eq_true, qHitQ_ex m, decide_eq_true_iff]
    constructor
    · intro h
      rcases h with ⟨j, a, b⟩ | h
      · exact ⟨j, by omega, b⟩
      · exact ⟨m, by omega, h⟩
    · intro ⟨j, a, b⟩
      by_cases e : j = m
      · exact Or.inr (by rw [← e]; exact b)
      · exact Or.inl ⟨j, by omega, b⟩
theorem hitQ_fIx : qHitQ K key m = true ↔ fIx K key m 0 < m := by
  have h := fIx_ex (K := K) (key := key) m 0
  rw [Nat.zero_add] at h
  rw [qHitQ_ex, h]
  exact ⟨fun ⟨j, a, b⟩ => ⟨j, Nat.zero_le _, a, b⟩, fun ⟨j, _, a, b⟩ => ⟨j, a, b⟩⟩
/-- the first goes, one comes -/
theorem QPR_turn (h : QPR mk q s) (hm : 0 < s.1) : QPR mk (pInQ (fun _ => 1) key (pOutQ (fun _ => 1) q 0)) (s.1, qTK s.1 key s.2.1, qTB s.1 s.2.2) := by
  obtain ⟨h1, h2, h3⟩ := h
  refine ⟨by show q.1 - 1 + 1 = s.1; omega, by show q.2.2.2.1 - 1 + 1 = q.1 - 1 + 1; omega, fun i hi => ⟨?_, fun w => ?_⟩⟩
  · have hi' : i < s.1 := hi
    show u1 (shK 0 q.2.1) (q.1 - 1) key i = (if i + 1 < s.1 then s.2.1 (i + 1) else if i + 1 = s.1 then key else s.2.1 i)
    by_cases e : i = q.1 - 1
    · rw [u1_x, if_pos e, if_neg (by omega), if_pos (by omega)]
    · rw [u1_n e, if_pos (by omega)]
      exact (if_neg (Nat.not_lt_zero _)).trans (h3 (i + 1) (by omega)).1
  · have hi' : i < s.1 := hi
    show u1 (shK 0 q.2.2.1) (q.1 - 1) false i = (if i + 1 < s.1 then s.2.2 (i + 1) else if i + 1 = s.1 then false else s.2.2 i)
    by_cases e : i = q.1 - 1
    · rw [u1_x, if_pos e, if_neg (by omega), if_pos (by omega)]
    · rw [u1_n e, if_pos (by omega)]
      exact (if_neg (Nat.not_lt_zero _)).trans ((h3 (i + 1) (by omega)).2 w)
end Fp
