/-! THE LAW: rows in the order of first keys, as the search sees them -/
def rwL (kf : Nat → Nat) : Nat → List Nat
  | 0 => []
  | n + 1 => kf n :: rwL kf n
section Fo
variable {p : XP} {kf : Nat → Nat} {n : Nat}
theorem rwL_A (hp : XPO p) : ∀ n, CAN kf p.2.2.2 n → xCan p (rwL kf n) ∧ fA (xR p (rwL kf n)).1 = mxK kf n
  | 0, _ => ⟨trivial, Nat.zero_div _⟩
  | n + 1, h => by
    obtain ⟨h1, h2⟩ := rwL_A hp n (fun k hk => h k (by omega))
    obtain ⟨h3, h4⟩ := h n (by omega)
    have h5 := hp.2.2.2.2
    refine ⟨⟨h1, h3, by rw [h2]; exact h4⟩, ?_⟩
    have e := (xN_f hp (xR_CV hp _ h1) (show kf n < 5 by omega)).2.2.1
    show fA (xN p (xR p (rwL kf n)).1 (kf n)) = if mxK kf n < kf n + 1 then kf n + 1 else mxK kf n
    rw [e, h2]
theorem rwL_len : ∀ n, (rwL kf n).length = n
  | 0 => rfl
  | n + 1 => congrArg (· + 1) (rwL_len n)
end Fo
