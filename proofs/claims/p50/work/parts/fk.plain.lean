/-! THE LAW'S OWN CACHE with sizes 1: a miss without room, without marks -/
section Fu
variable {key m k0 n ru : Nat} {q : PQ} {K : Nat → Nat} {B B' : Nat → Bool}
theorem sh_out (hm : 0 < m) (hru : ru ≠ 3) (h : QPR false q (m, K, B)) : QPR false (pInQ (fun _ => 1) key (pShQ ru m (fun _ => 1) k0 (n + 1) q)) (m, qTK m key K, B') := by
  have e1 : q.1 = m := h.1
  have e2 := h.2.1
  have st : pShQ ru m (fun _ => 1) k0 (n + 1) q = pShQ ru m (fun _ => 1) k0 n (if ru = 3 ∧ q.2.2.1 0 = true then pInQ (fun _ => 1) (q.2.1 0) (pOutQ (fun _ => 1) q 0) else pOutQ (fun _ => 1) q 0) := if_pos (show m < q.2.2.2.1 + 1 by omega)
  rw [st, if_neg (fun w => hru w.1), sh_stop (show q.2.2.2.1 - 1 + 1 ≤ m by omega)]
  have t := QPR_turn (key := key) h hm
  exact ⟨t.1, t.2.1, fun i hi => ⟨(t.2.2 i hi).1, fun w => Bool.noConfusion w⟩⟩
end Fu
