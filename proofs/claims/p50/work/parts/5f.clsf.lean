/-! THE CLASS, the text: bytes, numbers, what is told -/
def TA (M : LM) (U : Nat) : Prop := mK M U = 25 ∧ mP M U 0 = some (U + 1) ∧ mP M U 3 = some (U + 2) ∧ mP M U 4 = some (U + 3) ∧ mP M U 5 = some (U + 4) ∧ mP M U 6 = some (U + 5) ∧ aI M (U + 1) 200 ∧ aI M (U + 2) 300 ∧ aI M (U + 3) 300 ∧ aI M (U + 4) 3 ∧ aI M (U + 5) 3
section Da
variable {M : LM} {U R C n m i j k t o a len N b span : Nat} {Z S S' : CS} {v c : Int32} {z : Option (LO × LM)} {T : Nat → Int32}
theorem nI_sub {a b : Nat} (h : b ≤ a) : nI a - nI b = nI (a - b) := by
  have e : nI a = nI (a - b) + nI b := by
    rw [lt_iA (j := a - b) (k := b)]
    congr 1
    omega
  rw [e]
  exact Int32.add_sub_cancel _ _
end Da
