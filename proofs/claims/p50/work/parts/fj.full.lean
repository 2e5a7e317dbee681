/-! THE LAW'S OWN CACHE with sizes 1: a miss without room, with marks -/
section Ft
variable {key m k0 n : Nat} {q : PQ} {K : Nat → Nat} {B : Nat → Bool}
theorem sh_spin_m (hm : 0 < m) (h : QPR true q (m, K, B)) (hn : m + 1 < n) : QPR true (pInQ (fun _ => 1) key (pShQ 3 m (fun _ => 1) k0 n q)) (m, qTK m key (qSpin m m K B).1, qTB m (qSpin m m K B).2) := by
  by_cases b : B 0 = true
  · obtain ⟨m', em⟩ : ∃ m', m = m' + 1 := ⟨m - 1, by omega⟩
    obtain ⟨n', en⟩ : ∃ n', n = n' + 1 := ⟨n - 1, by omega⟩
    have e1 : q.1 = m := h.1
    have e2 := h.2.1
    have e3 : q.2.1 0 = K 0 := (h.2.2 0 hm).1
    have e4 : q.2.2.1 0 = B 0 := (h.2.2 0 hm).2 rfl
    have st : pShQ 3 m (fun _ => 1) k0 (n' + 1) q = pShQ 3 m (fun _ => 1) k0 n' (if 3 = 3 ∧ q.2.2.1 0 = true then pInQ (fun _ => 1) (q.2.1 0) (pOutQ (fun _ => 1) q 0) else pOutQ (fun _ => 1) q 0) := if_pos (show m < q.2.2.2.1 + 1 by omega)
    have sp : ∀ f, qSpin m (f + 1) K B = qSpin m f (qTK m (K 0) K) (qTB m B) := fun f => if_pos b
    have ee : qSpin m m K B = qSpin m m' (qTK m (K 0) K) (qTB m B) := (congrArg (fun f => qSpin m f K B) em).trans (sp m')
    rw [en, st, if_pos ⟨rfl, e4.trans b⟩, ee, e3]
    refine sh_spin hm n' m' _ _ _ (QPR_turn (key := K 0) h hm) ⟨m', Nat.le_refl _, by omega, ?_⟩ (by omega)
    show (if m' + 1 < m then B (m' + 1) else if m' + 1 = m then false else B m') = false
    rw [if_neg (by omega), if_pos em.symm]
  · have bf : B 0 = false := by cases e : B 0 with
      | true => exact absurd e b
      | false => rfl
    exact sh_spin hm n m q K B h ⟨0, Nat.zero_le _, hm, bf⟩ (by omega)
end Ft
