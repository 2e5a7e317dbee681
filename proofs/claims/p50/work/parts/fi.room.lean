/-! THE LAW'S OWN CACHE with sizes 1: a miss with room left -/
section Fs
variable {key room ru k0 n : Nat} {mk : Bool} {q : PQ} {s : QQ}
theorem qMk_miss (hn : ¬ qHitQ s.2.1 key s.1 = true) : ∀ i, i < s.1 → qMk mk key s.2.1 s.2.2 i = s.2.2 i := fun i hi => by
  have ek : ¬ s.2.1 i = key := fun v => hn (qHitQ_ex s.1 |>.mpr ⟨i, hi, v⟩)
  show (s.2.2 i || (mk && decide (s.2.1 i = key))) = s.2.2 i
  rw [decide_eq_false ek]
  cases s.2.2 i <;> cases mk <;> rfl
theorem QPR_room (h : QPR mk q s) (hr : s.1 + 1 ≤ room) (hn : ¬ qHitQ s.2.1 key s.1 = true) : QPR mk (pInQ (fun _ => 1) key (pShQ ru room (fun _ => 1) k0 n q)) (s.1 + 1, (fun i => if i = s.1 then key else s.2.1 i), (fun i => if i = s.1 then false else qMk mk key s.2.1 s.2.2 i)) := by
  obtain ⟨h1, h2, h3⟩ := h
  rw [sh_stop (show q.2.2.2.1 + 1 ≤ room by omega)]
  refine ⟨congrArg (· + 1) h1, congrArg (· + 1) h2, fun i hi => ?_⟩
  have hi' : i < s.1 + 1 := hi
  show u1 q.2.1 q.1 key i = (if i = s.1 then key else s.2.1 i) ∧ (mk = true → u1 q.2.2.1 q.1 false i = (if i = s.1 then false else qMk mk key s.2.1 s.2.2 i))
  by_cases e : i = s.1
  · rw [u1_x, if_pos (e.trans h1.symm), if_pos e, u1_x, if_pos (e.trans h1.symm), if_pos e]
    exact ⟨rfl, fun _ => rfl⟩
  · have e' : i ≠ q.1 := fun w => e (w.trans h1)
    rw [u1_n e', u1_n e', if_neg e, if_neg e, qMk_miss hn i (by omega)]
    exact h3 i (by omega)
end Fs
