/-! THE CLASS made, all of it -/
section Nd
variable {M : LM} {A B C n m i j k t c s z : Nat} {W V : NW} {v x : Int32} {q : Option (LO × LM)}
def q0Blk (A : Nat) : NW := nP (nNew (nNew n0 0 18 0) 1 1 26) 0 5 (some (A + 1))
theorem i_q (d : Nat) : f_X2_init (d + 1) (nW M A 1 (nNew n0 0 18 0) c s) A = some (.inl none, nW M A 2 (q0Blk A) (c + 1) (s + 26)) := by
  rw [e_X2_init]
  simp only [ltn_3, ltn_4, ltn_6, ltn_9, ltn_12, ltn_26, ltn_27, ltn_200, ltn_300, ltn_1200, ltn_2048]
  rw [ln_26, n_new, x_m, nW_ck (by rfl) (by omega), nW_N, n_wP0 (by omega), x_m]
  rfl
def x0Blk (A : Nat) : NW := nP (nNew (nP (nNew (nP (nNew (nP (nNew (nP (nNew (nNew n0 0 25 0) 1 1 200) 0 0 (some (A + 1))) 2 1 300) 0 3 (some (A + 2))) 3 1 300) 0 4 (some (A + 3))) 4 1 3) 0 5 (some (A + 4))) 5 1 3) 0 6 (some (A + 5))
theorem i_x (d : Nat) : f_X9_init (d + 1) (nW M A 1 (nNew n0 0 25 0) c s) A = some (.inl none, nW M A 6 (x0Blk A) (c + 5) (s + 806)) := by
  rw [e_X9_init]
  simp only [ltn_3, ltn_4, ltn_6, ltn_9, ltn_12, ltn_26, ltn_27, ltn_200, ltn_300, ltn_1200, ltn_2048]
  rw [ln_200, n_new, x_m, nW_ck (by rfl) (by omega), nW_N, n_wP0 (by omega), x_m, ln_300, n_new, x_m, nW_ck (by rfl) (by omega), nW_N, n_wP0 (by omega), x_m, ln_300, n_new, x_m, nW_ck (by rfl) (by omega), nW_N, n_wP0 (by omega), x_m, ln_3, n_new, x_m, nW_ck (by rfl) (by omega), nW_N, n_wP0 (by omega), x_m, ln_3, n_new, x_m, nW_ck (by rfl) (by omega), nW_N, n_wP0 (by omega), x_m]
  rfl
def s0Blk (A : Nat) : NW := nP (nNew (nP (nNew (nP (nNew (nP (nNew (nNew n0 0 23 0) 1 2 26) 0 3 (some (A + 1))) 2 1 26) 0 4 (some (A + 2))) 3 1 300) 0 5 (some (A + 3))) 4 1 27) 0 6 (some (A + 4))
theorem i_s (d : Nat) : f_X7_init (d + 1) (nW M A 1 (nNew n0 0 23 0) c s) A = some (.inl none, nW M A 5 (s0Blk A) (c + 4) (s + 379)) := by
  rw [e_X7_init]
  simp only [ltn_3, ltn_4, ltn_6, ltn_9, ltn_12, ltn_26, ltn_27, ltn_200, ltn_300, ltn_1200, ltn_2048]
  rw [ln_26, n_new, x_m, nW_ck (by rfl) (by omega), nW_N, n_wP0 (by omega), x_m, ln_26, n_new, x_m, nW_ck (by rfl) (by omega), nW_N, n_wP0 (by omega), x_m, ln_300, n_new, x_m, nW_ck (by rfl) (by omega), nW_N, n_wP0 (by omega), x_m, ln_27, n_new, x_m, nW_ck (by rfl) (by omega), nW_N, n_wP0 (by omega), x_m]
  rfl
def h0Blk (A : Nat) : NW := nP (nNew (nP (nNew (nP (nNew (nP (nNew (nP (nNew (nI' (nP (nNew (nNew n0 0 22 0) 1 1 12) 0 0 (some (A + 1))) 0 1 (-1)) 2 2 1200) 0 7 (some (A + 2))) 3 1 1200) 0 8 (some (A + 3))) 4 1 1200) 0 9 (some (A + 4))) 5 1 1200) 0 10 (some (A + 5))) 6 1 2048) 0 11 (some (A + 6))
theorem i_h (d : Nat) : f_X6_init (d + 1) (nW M A 1 (nNew n0 0 22 0) c s) A = some (.inl none, nW M A 7 (h0Blk A) (c + 6) (s + 6860)) := by
  rw [e_X6_init]
  simp only [ltn_3, ltn_4, ltn_6, ltn_9, ltn_12, ltn_26, ltn_27, ltn_200, ltn_300, ltn_1200, ltn_2048]
  rw [ln_12, n_new, x_m, nW_ck (by rfl) (by omega), nW_N, n_wP0 (by omega), x_m, nW_ck (by rfl) (by omega), n_wI0 (by omega), x_m, ln_1200, n_new, x_m, nW_ck (by rfl) (by omega), nW_N, n_wP0 (by omega), x_m, ln_1200, n_new, x_m, nW_ck (by rfl) (by omega), nW_N, n_wP0 (by omega), x_m, ln_1200, n_new, x_m, nW_ck (by rfl) (by omega), nW_N, n_wP0 (by omega), x_m, ln_1200, n_new, x_m, nW_ck (by rfl) (by omega), nW_N, n_wP0 (by omega), x_m, ln_2048, n_new, x_m, nW_ck (by rfl) (by omega), nW_N, n_wP0 (by omega), x_m]
  rfl
theorem nW_C : mC (nW M B n W c s) = c := rfl
theorem nW_S : mS (nW M B n W c s) = s := rfl
def clsW (A : Nat) (Wb : NW) : NW :=
  nP (nCat (nP (nCat (nP (nCat (nP (nCat (nP (nNew (nP (nCat (nNew n0 0 26 0) 1 Wb) 0 0 (some (A + 1))) 101 5 6) 0 1 (some (A + 101))) 102 (q0Blk (A + 102))) 0 4 (some (A + 102))) 104 (x0Blk (A + 104))) 0 5 (some (A + 104))) 110 (s0Blk (A + 110))) 0 6 (some (A + 110))) 115 (h0Blk (A + 115))) 0 7 (some (A + 115))
theorem i_cls (d : Nat) : ∃ Wb, NB (A + 1) 6 Wb ∧ f_X10_init (d + 5) (nW M A 1 (nNew n0 0 26 0) c s) A = some (.inl none, nW M A 122 (clsW A Wb) (c + 121) (s + 12423)) := by
  obtain ⟨Wb, h1, h2⟩ := b_init (M := nW M A 1 (nNew n0 0 26 0) c s) (B := A + 1) (c := c + 1) (s := s + 5) d
  refine ⟨Wb, h2, ?_⟩
  rw [e_X10_init, n_new1 (B := A + 1) (by rfl), x_m, nW_N]
  have h1' : f_X0_init (d + 4) (nW (nW M A 1 (nNew n0 0 26 0) c s) (A + 1) 1 (nNew n0 0 16 0) (mC (nW M A 1 (nNew n0 0 26 0) c s) + 1) (mS (nW M A 1 (nNew n0 0 26 0) c s) + 5)) (A + 1) = _ := h1
  simp only [ltn_6]
  rw [h1', lt_bv_r, nW_cat, nW_ck (by rfl) (by omega), n_wP0 (by omega), x_m, ln_6, n_new, x_m, nW_ck (by rfl) (by omega), nW_N, n_wP0 (by omega), x_m,
    n_new1 (B := A + 102) (by rfl), x_m, nW_N, i_q (d + 3), lt_bv_r, nW_cat, nW_ck (by rfl) (by omega), n_wP0 (by omega), x_m,
    n_new1 (B := A + 104) (by rfl), x_m, nW_N, i_x (d + 3), lt_bv_r, nW_cat, nW_ck (by rfl) (by omega), n_wP0 (by omega), x_m,
    n_new1 (B := A + 110) (by rfl), x_m, nW_N, i_s (d + 3), lt_bv_r, nW_cat, nW_ck (by rfl) (by omega), n_wP0 (by omega), x_m,
    n_new1 (B := A + 115) (by rfl), x_m, nW_N, i_h (d + 3), lt_bv_r, nW_cat, nW_ck (by rfl) (by omega), n_wP0 (by omega), x_m]
  simp only [nW_C, nW_S, Nat.add_assoc, Nat.reduceAdd]
  rfl
end Nd
