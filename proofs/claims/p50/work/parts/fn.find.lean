/-! THE CLASS, the search for rows that shame: what it answers -/
section Fx
variable {p : XP} {LM most : Nat}
theorem sh_find (hp : XPO p) (hc : CAP p LM) (hLM : LM ≤ 11) (hmo : most ≤ LM + 1) {Z : CS} : match (hLayers (HPp p) most 1 0 (hStart Z)).2 with
    | none => ∀ u, xCan p u → u.length ≤ most → ¬ 16 < (xR p u).2
    | some a => 1 ≤ a.1 ∧ a.1 ≤ most ∧ (∀ u, xCan p u → u.length < a.1 → ¬ 16 < (xR p u).2) ∧ ∃ w, w.length = a.1 ∧ xCan p w ∧ 16 < (xR p w).2 ∧ ∀ F i, i < a.1 → hKeep (hLayers (HPp p) most 1 0 (hStart Z)).1 a.2.1 a.2.2 a.1 F i = nI (w.reverse.getD i 0) := by
  obtain ⟨hZ, h1⟩ := X_start (p := p) (LM := LM) (Z := Z)
  have hL := X_layers hp hc hLM hmo most 1 0 (hStart Z) (fun _ => []) (by omega) (Nat.le_refl _) hZ (fun j hj => absurd hj (Nat.not_lt_zero j)) (fun j _ _ => rfl) (Nat.zero_le _) (fun u hu hl => by
    cases u with
    | nil => show ¬ 16 < 16; decide
    | cons k u => exact absurd hl (Nat.not_succ_le_zero _)) (fun u ho hl => by
    cases u with
    | nil => exact ⟨0, by omega, rfl, Nat.le_refl _, Nat.le_refl _⟩
    | cons k u => exact absurd hl (Nat.not_succ_le_zero _))
  generalize hLayers (HPp p) most 1 0 (hStart Z) = r at hL
  obtain ⟨s1, o⟩ := r
  cases o with
  | none => exact hL
  | some a =>
    obtain ⟨R, e, he, hnd, hB, hl, hm, hcan, h16, hless, hmin⟩ := hL
    have hl1 : 1 ≤ a.1 := by have : (R a.2.1).length + 1 = a.1 := hl; omega
    exact ⟨hl1, hm, hless, _, hl, hcan, h16, fun F i hi => X_keep hB he hnd hl i hi⟩
end Fx
