/-! THE LAW'S OWN CACHE with sizes 1: turned as the search turns -/
section Fq
variable {key m k0 ru : Nat} {mk : Bool} {s : QQ}
theorem sh_stop {q : PQ} (h : q.2.2.2.1 + 1 ≤ m) : ∀ n, pShQ ru m (fun _ => 1) k0 n q = q
  | 0 => rfl
  | n + 1 => if_neg (show ¬ m < q.2.2.2.1 + 1 by omega)
theorem sh_spin (hm : 0 < m) : ∀ (n f : Nat) (q : PQ) (K : Nat → Nat) (B : Nat → Bool), QPR true q (m, K, B) → (∃ j, j ≤ f ∧ j < m ∧ B j = false) → f < n → QPR true (pInQ (fun _ => 1) key (pShQ 3 m (fun _ => 1) k0 n q)) (m, qTK m key (qSpin m f K B).1, qTB m (qSpin m f K B).2)
  | 0, f, q, K, B, h, hj, hf => absurd hf (Nat.not_lt_zero _)
  | n + 1, f, q, K, B, h, hj, hf => by
    obtain ⟨j, j1, j2, j3⟩ := hj
    have e1 : q.1 = m := h.1
    have e2 := h.2.1
    have e3 : q.2.1 0 = K 0 := (h.2.2 0 hm).1
    have e4 : q.2.2.1 0 = B 0 := (h.2.2 0 hm).2 rfl
    have full : m < q.2.2.2.1 + 1 := by omega
    have st : pShQ 3 m (fun _ => 1) k0 (n + 1) q = pShQ 3 m (fun _ => 1) k0 n (if 3 = 3 ∧ q.2.2.1 0 = true then pInQ (fun _ => 1) (q.2.1 0) (pOutQ (fun _ => 1) q 0) else pOutQ (fun _ => 1) q 0) := if_pos full
    rw [st]
    by_cases b : B 0 = true
    · rw [if_pos ⟨rfl, e4.trans b⟩]
      have j0 : j ≠ 0 := fun w => by
        rw [w, b] at j3
        exact Bool.noConfusion j3
      obtain ⟨f', ef⟩ : ∃ f', f = f' + 1 := ⟨f - 1, by omega⟩
      have sp : qSpin m (f' + 1) K B = qSpin m f' (qTK m (K 0) K) (qTB m B) := if_pos b
      rw [ef, sp, e3]
      refine sh_spin hm n f' _ _ _ (QPR_turn (key := K 0) h hm) ⟨j - 1, by omega, by omega, ?_⟩ (by omega)
      show (if j - 1 + 1 < m then B (j - 1 + 1) else if j - 1 + 1 = m then false else B (j - 1)) = false
      rw [if_pos (by omega), show j - 1 + 1 = j by omega]
      exact j3
    · rw [if_neg (fun w => b (e4.symm.trans w.2)), sh_stop (show q.2.2.2.1 - 1 + 1 ≤ m by omega)]
      have sp : ∀ f, qSpin m f K B = (K, B) := fun f => by
        cases f with
        | zero => rfl
        | succ f => exact if_neg b
      rw [sp]
      exact QPR_turn h hm
end Fq
