/-! THE CLASS, its objects made -/
section Nb
variable {M : LM} {A B C n m i j k t c s z : Nat} {W V : NW} {v x : Int32} {q : Option (LO × LM)}
theorem ln_3 : lt_ln 3 q = q := ln_t (n := 3) (by decide)
theorem ltn_3 : lt_n 3 = 3 := rfl
theorem ln_4 : lt_ln 4 q = q := ln_t (n := 4) (by decide)
theorem ltn_4 : lt_n 4 = 4 := rfl
theorem ln_6 : lt_ln 6 q = q := ln_t (n := 6) (by decide)
theorem ltn_6 : lt_n 6 = 6 := rfl
theorem ln_9 : lt_ln 9 q = q := ln_t (n := 9) (by decide)
theorem ltn_9 : lt_n 9 = 9 := rfl
theorem ln_12 : lt_ln 12 q = q := ln_t (n := 12) (by decide)
theorem ltn_12 : lt_n 12 = 12 := rfl
theorem ln_26 : lt_ln 26 q = q := ln_t (n := 26) (by decide)
theorem ltn_26 : lt_n 26 = 26 := rfl
theorem ln_27 : lt_ln 27 q = q := ln_t (n := 27) (by decide)
theorem ltn_27 : lt_n 27 = 27 := rfl
theorem ln_200 : lt_ln 200 q = q := ln_t (n := 200) (by decide)
theorem ltn_200 : lt_n 200 = 200 := rfl
theorem ln_300 : lt_ln 300 q = q := ln_t (n := 300) (by decide)
theorem ltn_300 : lt_n 300 = 300 := rfl
theorem ln_1200 : lt_ln 1200 q = q := ln_t (n := 1200) (by decide)
theorem ltn_1200 : lt_n 1200 = 1200 := rfl
theorem ln_2048 : lt_ln 2048 q = q := ln_t (n := 2048) (by decide)
theorem ltn_2048 : lt_n 2048 = 2048 := rfl
def tBlk (A : Nat) : NW := nP (nNew (nP (nNew (nP (nNew (nP (nNew (nP (nNew (nP (nNew (nNew n0 0 24 0) 1 1 9) 0 0 (some (A + 1))) 2 1 26) 0 1 (some (A + 2))) 3 1 26) 0 2 (some (A + 3))) 4 1 300) 0 3 (some (A + 4))) 5 2 26) 0 4 (some (A + 5))) 6 2 26) 0 5 (some (A + 6))
theorem i_tally (d : Nat) : f_X8_init (d + 1) (nW M A 1 (nNew n0 0 24 0) c s) A = some (.inl none, nW M A 7 (tBlk A) (c + 6) (s + 413)) := by
  rw [e_X8_init]
  simp only [ltn_3, ltn_4, ltn_6, ltn_9, ltn_12, ltn_26, ltn_27, ltn_200, ltn_300, ltn_1200, ltn_2048]
  rw [ln_9, n_new, x_m, nW_ck (by rfl) (by omega), nW_N, n_wP0 (by omega), x_m, ln_26, n_new, x_m, nW_ck (by rfl) (by omega), nW_N, n_wP0 (by omega), x_m, ln_26, n_new, x_m, nW_ck (by rfl) (by omega), nW_N, n_wP0 (by omega), x_m, ln_300, n_new, x_m, nW_ck (by rfl) (by omega), nW_N, n_wP0 (by omega), x_m, ln_26, n_new, x_m, nW_ck (by rfl) (by omega), nW_N, n_wP0 (by omega), x_m, ln_26, n_new, x_m, nW_ck (by rfl) (by omega), nW_N, n_wP0 (by omega), x_m]
  rfl
def rBlk (A : Nat) : NW := nP (nNew (nP (nNew (nP (nNew (nNew n0 0 20 0) 1 1 300) 0 0 (some (A + 1))) 2 1 300) 0 1 (some (A + 2))) 3 1 300) 0 2 (some (A + 3))
theorem i_row (d : Nat) : f_X4_init (d + 1) (nW M A 1 (nNew n0 0 20 0) c s) A = some (.inl none, nW M A 4 (rBlk A) (c + 3) (s + 900)) := by
  rw [e_X4_init]
  simp only [ltn_3, ltn_4, ltn_6, ltn_9, ltn_12, ltn_26, ltn_27, ltn_200, ltn_300, ltn_1200, ltn_2048]
  rw [ln_300, n_new, x_m, nW_ck (by rfl) (by omega), nW_N, n_wP0 (by omega), x_m, ln_300, n_new, x_m, nW_ck (by rfl) (by omega), nW_N, n_wP0 (by omega), x_m, ln_300, n_new, x_m, nW_ck (by rfl) (by omega), nW_N, n_wP0 (by omega), x_m]
  rfl
def k0Blk (A : Nat) : NW := nP (nNew (nP (nNew (nP (nNew (nNew n0 0 19 0) 1 1 26) 0 0 (some (A + 1))) 2 1 26) 0 1 (some (A + 2))) 3 1 26) 0 2 (some (A + 3))
def kBlk (A : Nat) : NW := nRI (nRI (k0Blk A) 1 (fun j => if j < 26 then 1 else 0)) 2 (fun j => if j < 26 then 1 else 0)
theorem i_keys (d : Nat) : f_X3_init (d + 2) (nW M A 1 (nNew n0 0 19 0) c s) A = some (.inl none, nW M A 4 (kBlk A) (c + 3) (s + 78)) := by
  have a1 : ∀ {W : NW} {c s : Nat}, W.2.2.2.1 1 = 1 → W.2.2.2.2 1 = 26 → aI (nW M A 4 W c s) (A + 1) 26 := fun {W c s} h1 h2 => ⟨by rw [n_K (by omega), h1], by rw [n_Z (by omega), h2], by omega⟩
  have a2 : ∀ {W : NW} {c s : Nat}, W.2.2.2.1 2 = 1 → W.2.2.2.2 2 = 26 → aI (nW M A 4 W c s) (A + 2) 26 := fun {W c s} h1 h2 => ⟨by rw [n_K (by omega), h1], by rw [n_Z (by omega), h2], by omega⟩
  rw [e_X3_init]
  simp only [ltn_3, ltn_4, ltn_6, ltn_9, ltn_12, ltn_26, ltn_27, ltn_200, ltn_300, ltn_1200, ltn_2048]
  rw [ln_26, n_new, x_m, nW_ck (by rfl) (by omega), nW_N, n_wP0 (by omega), x_m, ln_26, n_new, x_m, nW_ck (by rfl) (by omega), nW_N, n_wP0 (by omega), x_m, ln_26, n_new, x_m, nW_ck (by rfl) (by omega), nW_N, n_wP0 (by omega), x_m, nW_ck (by rfl) (by omega), n_P0 (by omega), show (nP (nNew (nP (nNew (nP (nNew (nNew n0 0 19 0) 1 1 26) 0 0 (some (A + 1))) 2 1 26) 0 1 (some (A + 2))) 3 1 26) 0 2 (some (A + 3))).2.2.1 0 0 = some (A + 1) from rfl, x_rf, j_fillI d (a1 (by rfl) (by rfl)), n_wRI (by omega), n_rd (by omega), lt_bv_r, nW_ck (by rfl) (by omega), n_P0 (by omega), show (nRI (nP (nNew (nP (nNew (nP (nNew (nNew n0 0 19 0) 1 1 26) 0 0 (some (A + 1))) 2 1 26) 0 1 (some (A + 2))) 3 1 26) 0 2 (some (A + 3))) 1 _).2.2.1 0 1 = some (A + 2) from rfl, x_rf, j_fillI d (a2 (by rfl) (by rfl)), n_wRI (by omega), n_rd (by omega), lt_bv_r]
  rfl
def c0Blk (A : Nat) : NW := nP (nNew (nP (nNew (nP (nNew (nP (nNew (nP (nNew (nNew n0 0 17 0) 1 1 4) 0 4 (some (A + 1))) 2 1 26) 0 13 (some (A + 2))) 3 2 26) 0 14 (some (A + 3))) 4 2 26) 0 15 (some (A + 4))) 5 2 26) 0 16 (some (A + 5))
def cBlk (A : Nat) : NW := nP (nNew (nP (nNew (nP (nCat (c0Blk A) 6 (tBlk (A + 6))) 0 17 (some (A + 6))) 13 21 0) 0 18 (some (A + 13))) 14 21 0) 0 19 (some (A + 14))
theorem i_cache (d : Nat) : f_X1_init (d + 2) (nW M A 1 (nNew n0 0 17 0) c s) A = some (.inl none, nW M A 15 (cBlk A) (c + 14) (s + 533)) := by
  rw [e_X1_init]
  simp only [ltn_3, ltn_4, ltn_6, ltn_9, ltn_12, ltn_26, ltn_27, ltn_200, ltn_300, ltn_1200, ltn_2048]
  rw [ln_4, n_new, x_m, nW_ck (by rfl) (by omega), nW_N, n_wP0 (by omega), x_m, ln_26, n_new, x_m, nW_ck (by rfl) (by omega), nW_N, n_wP0 (by omega), x_m, ln_26, n_new, x_m, nW_ck (by rfl) (by omega), nW_N, n_wP0 (by omega), x_m, ln_26, n_new, x_m, nW_ck (by rfl) (by omega), nW_N, n_wP0 (by omega), x_m, ln_26, n_new, x_m, nW_ck (by rfl) (by omega), nW_N, n_wP0 (by omega), x_m, n_new1 (B := A + 6) (by rfl), x_m, nW_N, i_tally d, nW_cat, lt_bv_r, nW_ck (by rfl) (by omega), n_wP0 (by omega), x_m, n_new, x_m, nW_N, e_X5_init, lt_bv_r, nW_ck (by rfl) (by omega), n_wP0 (by omega), x_m, n_new, x_m, nW_N, e_X5_init, lt_bv_r, nW_ck (by rfl) (by omega), n_wP0 (by omega), x_m]
  rfl
end Nb
