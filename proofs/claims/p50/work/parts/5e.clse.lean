/-! THE CLASS, the cursor -/
def QA (M : LM) (U : Nat) : Prop := mK M U = 18 ∧ mP M U 5 = some (U + 1) ∧ aI M (U + 1) 26
section Cz
variable {M : LM} {U R C n m i j k t o x len : Nat} {Z S S' : CS} {v num : Int32} {z : Option (LO × LM)}
theorem cwi_z (h : i ≠ t) : (cwi Z t j v).1 i = Z.1 i := z2_n1 h
theorem cwi_e : (cwi Z t j v).1 t j = v := z2_eq
theorem q_ck (h : QA M U) : lt_ck (gM M U 2 Z) U 18 z = z := lt_ck_t (M := gM M U 2 Z) h.1
theorem q_close (d : Nat) (h : QA M U) : f_X2_close (d + 1) (gM M U 2 Z) U = some (.inl none, gM M U 2 (cwi (cwi Z 0 0 0) 0 1 0)) := by
  rw [e_X2_close, q_ck h, lt_b1_0, gwI0 (by omega), x_m, q_ck h, lt_b1_0, gwI0 (by omega), x_m]
end Cz
