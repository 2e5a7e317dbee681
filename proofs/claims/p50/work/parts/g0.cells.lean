/-! THE LAW: the class's object made: its cells -/
section Gj
variable {A t u : Nat} {Wb : NW}
theorem cls_b (h1 : 1 ≤ t) (h2 : t ≤ 100) : (clsW A Wb).1 t = Wb.1 (t - 1) ∧ (clsW A Wb).2.1 t = Wb.2.1 (t - 1) ∧ (clsW A Wb).2.2.1 t = Wb.2.2.1 (t - 1) ∧ (clsW A Wb).2.2.2.1 t = Wb.2.2.2.1 (t - 1) ∧ (clsW A Wb).2.2.2.2 t = Wb.2.2.2.2 (t - 1) := by
  have a1 : t < 115 := by omega
  have a2 : t < 110 := by omega
  have a3 : t < 104 := by omega
  have a4 : t < 102 := by omega
  have a5 : t ≠ 101 := by omega
  have a6 : ¬ t < 1 := by omega
  have a7 : t ≠ 0 := by omega
  refine ⟨?_, ?_, funext fun j => ?_, ?_, ?_⟩ <;> simp [clsW, nP, nCat, nNew, u1, u2, a1, a2, a3, a4, a5, a6, a7]
theorem cls_q (h : u < 2) : (clsW A Wb).1 (102 + u) = (q0Blk (A + 102)).1 u ∧ (clsW A Wb).2.2.1 (102 + u) = (q0Blk (A + 102)).2.2.1 u ∧ (clsW A Wb).2.2.2.1 (102 + u) = (q0Blk (A + 102)).2.2.2.1 u ∧ (clsW A Wb).2.2.2.2 (102 + u) = (q0Blk (A + 102)).2.2.2.2 u := by
  have a1 : 102 + u < 115 := by omega
  have a2 : 102 + u < 110 := by omega
  have a3 : 102 + u < 104 := by omega
  have b1 : ¬ 102 + u < 102 := by omega
  have b2 : 102 + u - 102 = u := by omega
  have b3 : 102 + u ≠ 0 := by omega
  refine ⟨?_, funext fun j => ?_, ?_, ?_⟩ <;> simp [clsW, nP, nCat, nNew, u1, u2, a1, a2, a3, b1, b2, b3]
theorem cls_x (h : u < 6) : (clsW A Wb).1 (104 + u) = (x0Blk (A + 104)).1 u ∧ (clsW A Wb).2.2.1 (104 + u) = (x0Blk (A + 104)).2.2.1 u ∧ (clsW A Wb).2.2.2.1 (104 + u) = (x0Blk (A + 104)).2.2.2.1 u ∧ (clsW A Wb).2.2.2.2 (104 + u) = (x0Blk (A + 104)).2.2.2.2 u := by
  have a1 : 104 + u < 115 := by omega
  have a2 : 104 + u < 110 := by omega
  have b1 : ¬ 104 + u < 104 := by omega
  have b2 : 104 + u - 104 = u := by omega
  have b3 : 104 + u ≠ 0 := by omega
  refine ⟨?_, funext fun j => ?_, ?_, ?_⟩ <;> simp [clsW, nP, nCat, nNew, u1, u2, a1, a2, b1, b2, b3]
theorem cls_s (h : u < 5) : (clsW A Wb).1 (110 + u) = (s0Blk (A + 110)).1 u ∧ (clsW A Wb).2.2.1 (110 + u) = (s0Blk (A + 110)).2.2.1 u ∧ (clsW A Wb).2.2.2.1 (110 + u) = (s0Blk (A + 110)).2.2.2.1 u ∧ (clsW A Wb).2.2.2.2 (110 + u) = (s0Blk (A + 110)).2.2.2.2 u := by
  have a1 : 110 + u < 115 := by omega
  have b1 : ¬ 110 + u < 110 := by omega
  have b2 : 110 + u - 110 = u := by omega
  have b3 : 110 + u ≠ 0 := by omega
  refine ⟨?_, funext fun j => ?_, ?_, ?_⟩ <;> simp [clsW, nP, nCat, nNew, u1, u2, a1, b1, b2, b3]
theorem cls_h (h : u < 7) : (clsW A Wb).1 (115 + u) = (h0Blk (A + 115)).1 u ∧ (clsW A Wb).2.2.1 (115 + u) = (h0Blk (A + 115)).2.2.1 u ∧ (clsW A Wb).2.2.2.1 (115 + u) = (h0Blk (A + 115)).2.2.2.1 u ∧ (clsW A Wb).2.2.2.2 (115 + u) = (h0Blk (A + 115)).2.2.2.2 u := by
  have b1 : ¬ 115 + u < 115 := by omega
  have b2 : 115 + u - 115 = u := by omega
  have b3 : 115 + u ≠ 0 := by omega
  refine ⟨?_, funext fun j => ?_, ?_, ?_⟩ <;> simp [clsW, nP, nCat, nNew, u1, u2, b1, b2, b3]
theorem cls_0 : (clsW A Wb).1 0 = (fun _ => 0) ∧ (clsW A Wb).2.2.1 0 0 = some (A + 1) ∧ (clsW A Wb).2.2.1 0 1 = some (A + 101) ∧ (clsW A Wb).2.2.1 0 4 = some (A + 102) ∧ (clsW A Wb).2.2.1 0 5 = some (A + 104) ∧ (clsW A Wb).2.2.1 0 6 = some (A + 110) ∧ (clsW A Wb).2.2.1 0 7 = some (A + 115) ∧ (clsW A Wb).2.2.2.1 0 = 26 := by
  refine ⟨?_, ?_, ?_, ?_, ?_, ?_, ?_, ?_⟩ <;> simp [clsW, nP, nCat, nNew, n0, u1, u2]
theorem cls_101 : (clsW A Wb).2.2.1 101 = (fun _ => none) ∧ (clsW A Wb).2.2.2.1 101 = 5 ∧ (clsW A Wb).2.2.2.2 101 = 6 := by
  refine ⟨funext fun j => ?_, ?_, ?_⟩ <;> simp [clsW, nP, nCat, nNew, n0, u1, u2]
end Gj
