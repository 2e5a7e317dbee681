/-! THE RELATION, the text: the class reads the row of requests -/
section Ryc
variable {len a i j k m n p v b x f g N deep : Nat} {T : Nat → Int32} {c e many num : Int32} {fs : Nat → Nat} {st : List (Nat × Nat)} {K K' : Nat → Nat} {W W' : Nat → Bool} {beh : Bool} {l L : List (Nat × Bool)}
/-- what is told so far -/
def TL (K : Nat → Nat) (W : Nat → Bool) (l : List (Nat × Bool)) : Prop := ∀ j r, l[j]? = some r → K j = r.1 ∧ W j = r.2
theorem gi_lt {α : Type} {l : List α} {j : Nat} {r : α} (h : l[j]? = some r) : j < l.length := by
  rcases Nat.lt_or_ge j l.length with q | q
  · exact q
  · rw [List.getElem?_eq_none q] at h
    cases h
theorem TL.add (h : TL K W l) (hN : N = l.length) {k : Nat} {w : Bool} : TL (fun j => if j = N then k else K j) (fun j => if j = N then w else W j) (l ++ [(k, w)]) := by
  intro j r hj
  rcases Nat.lt_trichotomy j l.length with q | q | q
  · rw [List.getElem?_append_left q] at hj
    have := h j r hj
    exact ⟨(if_neg (by omega)).trans this.1, (if_neg (by omega)).trans this.2⟩
  · subst q
    rw [List.getElem?_append_right (Nat.le_refl _), Nat.sub_self] at hj
    cases hj
    exact ⟨if_pos hN.symm, if_pos hN.symm⟩
  · have := gi_lt hj
    rw [List.length_append] at this
    exact absurd this (by show ¬ (j < l.length + 1); omega)
end Ryc
