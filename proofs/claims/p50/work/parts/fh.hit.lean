/-! THE LAW'S OWN CACHE with sizes 1: a hit, as the search has it -/
section Fr
variable {key : Nat} {mk : Bool} {q : PQ} {s : QQ}
theorem QPR_hit (h : QPR mk q s) (hd : ∀ i j, i < s.1 → j < s.1 → s.2.1 i = s.2.1 j → i = j) (hp : fIx q.2.1 key q.1 0 < q.1) : QPR mk (q.1, q.2.1, u1 q.2.2.1 (fIx q.2.1 key q.1 0) true, q.2.2.2.1, q.2.2.2.2 + 1) (s.1, s.2.1, qMk mk key s.2.1 s.2.2) := by
  have e1 := h.1
  have hk : q.2.1 (fIx q.2.1 key q.1 0) = key := (fIx_le (K := q.2.1) (key := key) q.1 0).2.2 (by omega)
  have hk2 : s.2.1 (fIx q.2.1 key q.1 0) = key := by rw [← (h.2.2 _ (by omega)).1]; exact hk
  refine ⟨h.1, h.2.1, fun i hi => ⟨(h.2.2 i hi).1, fun w => ?_⟩⟩
  show u1 q.2.2.1 (fIx q.2.1 key q.1 0) true i = (s.2.2 i || (mk && decide (s.2.1 i = key)))
  have hi' : i < s.1 := hi
  by_cases e : i = fIx q.2.1 key q.1 0
  · have ek : s.2.1 i = key := by rw [e]; exact hk2
    rw [u1_x, if_pos e, w, decide_eq_true ek]
    cases s.2.2 i <;> rfl
  · have ek : ¬ s.2.1 i = key := fun v => e (hd i _ hi' (by omega) (v.trans hk2.symm))
    rw [u1_n e, (h.2.2 i hi').2 w, decide_eq_false ek, w]
    cases s.2.2 i <;> rfl
end Fr
