/-! THE CLASS: a Cache, which keys can go -/
section Ce
variable {M : LM} {C K s c w k : Nat} {these beyond : Int32}
def pGo (W : Nat → Nat) (these beyond : Int32) : Nat → Int32 → Int32
  | 0, t => if t = 0 then these else t
  | n + 1, t => if beyond = 0 then (if t = 0 then these else t) else pGo W these beyond n (if bt beyond (W (25 - n)) = true then t ||| (these &&& bb (25 - n)) else t)
theorem c_canGo_22 (d : Nat) (hK : kA M K s c w) {W : Nat → Nat} (hW : ∀ k, k < 26 → mI M w k = nI (W k) ∧ W k < 4) : ∀ (n : Nat) (t : Int32), n ≤ 26 → f_X1_canGo_22 (d + 2) M K these beyond t (nI (26 - n)) = some (.inl (some (.int (pGo W these beyond n t))), M)
  | 0, t, _ => by
    rw [e_X1_canGo_22, if_neg (by decide)]
    unfold pGo
    by_cases ht : t = 0
    · rw [if_pos ht, if_pos ht]
    · rw [if_neg ht, if_neg ht]
  | n + 1, t, hn => by
    have ih := fun t => c_canGo_22 d hK hW n t (by omega)
    obtain ⟨g1, g2, g3⟩ := lt_suc hn
    have g4 : nI (25 - n) < 26 := g3
    rw [g1, e_X1_canGo_22, if_pos g4]
    unfold pGo
    by_cases hb : beyond = 0
    · rw [if_pos hb, if_pos hb]
      by_cases ht : t = 0
      · rw [if_pos ht, if_pos ht]
      · rw [if_neg ht, if_neg ht]
    · rw [if_neg hb, if_neg hb, lt_ck_t hK.1, lt_rf_t hK.2.2.2.1, s10_at d hK.2.2.2.2.2.2 (by omega), lt_bi_r, (hW (25 - n) (by omega)).1, g2]
      have hw4 := (hW (25 - n) (by omega)).2
      by_cases hq : bt beyond (W (25 - n)) = true
      · rw [if_neg (fun e => by rw [(bt_test (by omega)).mp e] at hq; cases hq), if_pos hq, s10_bit d (by omega), lt_bi_r]
        exact ih _
      · rw [if_pos ((bt_test (by omega)).mpr (by simpa using hq)), if_neg hq]
        exact ih _
theorem c_canGo (d : Nat) (h : cA M C) (hK : kA M K s c w) {W : Nat → Nat} (hW : ∀ k, k < 26 → mI M w k = nI (W k) ∧ W k < 4) (hk : k < 26) : f_X1_canGo (d + 4) M C K these (nI k) = some (.inl (some (.int (pGo W these (if pShares M C = 0 then 0 else pBeyond M C s w (mI M C 5 ||| bb k) 4 0) 26 0))), M) := by
  rw [e_X1_canGo, lt_ck_t h.1.1, s10_bit (d + 2) hk, lt_bi_r, lt_ck_t h.1.1, c_ownersBeyond d h hK, lt_bi_r]
  exact c_canGo_22 (d + 2) hK hW 26 0 (Nat.le_refl _)
/-- of keys none of which is an owner's beyond its share all can go: the set itself -/
theorem pGo_0 {W : Nat → Nat} {n : Nat} : pGo W these 0 n 0 = these := by
  cases n with
  | zero => exact if_pos rfl
  | succ n =>
    unfold pGo
    rw [if_pos rfl, if_pos rfl]
end Ce
