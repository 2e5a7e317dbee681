/-! THE LAW: the state at its start -/
section Va
variable {M M' M1 M2 N : LM} {L i j m A t u c s a k z n : Nat} {xs : Nat → Int32} {Wb : NW} {V : Nat → Nat → Int32}
theorem aN_I (h : a ≠ mN M) : mI (aNew M k z n) a = mI M a := u1_n h
theorem aN_P (h : a ≠ mN M) : mP (aNew M k z n) a = mP M a := u1_n h
theorem aN_L (h : a ≠ mN M) : mL (aNew M k z n) a = mL M a := u1_n h
theorem aN_K (h : a ≠ mN M) : mK (aNew M k z n) a = mK M a := u1_n h
theorem aN_Z (h : a ≠ mN M) : mZ (aNew M k z n) a = mZ M a := u1_n h
def lwA (L : Nat) (xs : Nat → Int32) (Wb : NW) : LM := nW (lt_M0 L xs) 1 122 (clsW 1 Wb) 122 12431
def lwB (L : Nat) (xs : Nat → Int32) (Wb : NW) : LM := rM (nW (lwA L xs Wb) 123 77 (refW 123) 199 103595) 123 (h0At 0) (vUp 0 6 (fun _ _ => 0)) z17
def lwZ (L : Nat) (xs : Nat → Int32) (Wb : NW) : LM := aNew (aNew (lwB L xs Wb) 2 1 1) 4 1 1
theorem lz_b (h : a < 200) : mI (lwZ L xs Wb) a = mI (lwB L xs Wb) a ∧ mL (lwZ L xs Wb) a = mL (lwB L xs Wb) a ∧ mP (lwZ L xs Wb) a = mP (lwB L xs Wb) a ∧ mK (lwZ L xs Wb) a = mK (lwB L xs Wb) a ∧ mZ (lwZ L xs Wb) a = mZ (lwB L xs Wb) a := by
  have h1 : a ≠ mN (aNew (lwB L xs Wb) 2 1 1) := by show a ≠ 201; omega
  have h2 : a ≠ mN (lwB L xs Wb) := by show a ≠ 200; omega
  exact ⟨(aN_I h1).trans (aN_I h2), (aN_L h1).trans (aN_L h2), (aN_P h1).trans (aN_P h2), (aN_K h1).trans (aN_K h2), (aN_Z h1).trans (aN_Z h2)⟩
theorem lb_c (h : a < 123) : mI (lwB L xs Wb) a = mI (lwA L xs Wb) a ∧ mL (lwB L xs Wb) a = mL (lwA L xs Wb) a ∧ mP (lwB L xs Wb) a = mP (lwA L xs Wb) a ∧ mK (lwB L xs Wb) a = mK (lwA L xs Wb) a ∧ mZ (lwB L xs Wb) a = mZ (lwA L xs Wb) a := by
  refine ⟨funext fun j => ?_, funext fun j => if_neg (by omega), funext fun j => if_neg (by omega), if_neg (by omega), if_neg (by omega)⟩
  show (if a = 123 + 1 then _ else if 123 ≤ a ∧ a < 123 + 77 then _ else if 123 ≤ a ∧ a < 123 + 77 then _ else mI (lwA L xs Wb) a j) = _
  rw [if_neg (by omega), if_neg (by omega), if_neg (by omega)]
theorem lz_c (h : t < 122) : mI (lwZ L xs Wb) (1 + t) = (clsW 1 Wb).1 t ∧ mL (lwZ L xs Wb) (1 + t) = (clsW 1 Wb).2.1 t ∧ mP (lwZ L xs Wb) (1 + t) = (clsW 1 Wb).2.2.1 t ∧ mK (lwZ L xs Wb) (1 + t) = (clsW 1 Wb).2.2.2.1 t ∧ mZ (lwZ L xs Wb) (1 + t) = (clsW 1 Wb).2.2.2.2 t := by
  obtain ⟨a1, a2, a3, a4, a5⟩ := lz_b (L := L) (xs := xs) (Wb := Wb) (a := 1 + t) (by omega)
  obtain ⟨b1, b2, b3, b4, b5⟩ := lb_c (L := L) (xs := xs) (Wb := Wb) (a := 1 + t) (by omega)
  have e : 1 + t - 1 = t := by omega
  rw [a1, a2, a3, a4, a5, b1, b2, b3, b4, b5]
  refine ⟨funext fun j => ?_, funext fun j => ?_, funext fun j => ?_, ?_, ?_⟩
  · refine (if_pos (by omega)).trans ?_; rw [e]
  · refine (if_pos (by omega)).trans ?_; rw [e]
  · refine (if_pos (by omega)).trans ?_; rw [e]
  · refine (if_pos (by omega)).trans ?_; rw [e]
  · refine (if_pos (by omega)).trans ?_; rw [e]
theorem lz_x (h1 : t ≠ 1) (h : t < 77) : mI (lwZ L xs Wb) (123 + t) = z17 t := by
  rw [(lz_b (L := L) (xs := xs) (Wb := Wb) (a := 123 + t) (by omega)).1]
  funext j
  show (if 123 + t = 123 + 1 then _ else if 123 ≤ 123 + t ∧ 123 + t < 123 + 77 then z17 (123 + t - 123) j else _) = _
  rw [if_neg (by omega), if_pos (by omega), Nat.add_sub_cancel_left]
theorem lz_0 : mI (lwZ L xs Wb) 0 = xs ∧ mK (lwZ L xs Wb) 0 = 9 ∧ mZ (lwZ L xs Wb) 0 = L := by
  obtain ⟨a1, a2, a3, a4, a5⟩ := lz_b (L := L) (xs := xs) (Wb := Wb) (a := 0) (by omega)
  obtain ⟨b1, b2, b3, b4, b5⟩ := lb_c (L := L) (xs := xs) (Wb := Wb) (a := 0) (by omega)
  rw [a1, a4, a5, b1, b4, b5]
  exact ⟨funext fun j => rfl, rfl, rfl⟩
theorem lz_b2 (h : a < 100) : mI (lwZ L xs Wb) (2 + a) = Wb.1 a ∧ mL (lwZ L xs Wb) (2 + a) = Wb.2.1 a ∧ mP (lwZ L xs Wb) (2 + a) = Wb.2.2.1 a ∧ mK (lwZ L xs Wb) (2 + a) = Wb.2.2.2.1 a ∧ mZ (lwZ L xs Wb) (2 + a) = Wb.2.2.2.2 a := by
  obtain ⟨a1, a2, a3, a4, a5⟩ := lz_c (L := L) (xs := xs) (Wb := Wb) (t := a + 1) (by omega)
  obtain ⟨b1, b2, b3, b4, b5⟩ := cls_b (A := 1) (Wb := Wb) (t := a + 1) (by omega) (by omega)
  rw [Nat.add_sub_cancel] at b1 b2 b3 b4 b5
  rw [show 2 + a = 1 + (a + 1) by omega]
  exact ⟨a1.trans b1, a2.trans b2, a3.trans b3, a4.trans b4, a5.trans b5⟩
theorem lz_bA (h : NB 2 6 Wb) : bA (lwZ L xs Wb) 2 := by
  refine bA_cg (M := nW (lt_M0 L xs) 2 100 Wb 0 0) (NB_bA h) (fun a h1 h2 => ?_)
  obtain ⟨b1, b2, b3, b4, b5⟩ := lz_b2 (L := L) (xs := xs) (Wb := Wb) (a := a - 2) (by omega)
  rw [show 2 + (a - 2) = a by omega] at b1 b2 b3 b4 b5
  rw [b3, b4, b5]
  refine ⟨(if_pos (by omega)).symm, (if_pos (by omega)).symm, funext fun j => (if_pos (by omega)).symm⟩
theorem lz_BEq (h : NB 2 6 Wb) : BEq bFresh (tB (lwZ L xs Wb) 2) := by
  refine BEq.of (fun t ht => ?_) (fun i hi t ht => ?_)
  · exact (lz_b2 (L := L) (xs := xs) (Wb := Wb) (a := t) (by omega)).1.trans (NB_head h t ht).1
  · have hc : cc 0 i + t < 100 := by unfold cc; split <;> omega
    obtain ⟨b1, b2, -⟩ := lz_b2 (L := L) (xs := xs) (Wb := Wb) (a := cc 0 i + t) hc
    obtain ⟨c1, c2, -⟩ := h.2.2.2.2 i hi t ht
    have e : cc 2 i + t = 2 + (cc 0 i + t) := by rw [cc_0B]; omega
    refine ⟨?_, ?_⟩
    · show mI (lwZ L xs Wb) (cc 2 i + t) = _
      rw [e, b1, c1]; rfl
    · show mL (lwZ L xs Wb) (cc 2 i + t) = _
      rw [e, b2, c2]; rfl
theorem lz_RA : RA (lwZ L xs Wb) 123 := by
  have h0 : RA (nW (lwA L xs Wb) 123 77 (refW 123) 199 103595) 123 := rf_RA
  refine RA_cg h0 (fun a h1 h2 => ?_)
  obtain ⟨a1, a2, a3, a4, a5⟩ := lz_b (L := L) (xs := xs) (Wb := Wb) (a := a) (by omega)
  rw [a3, a4, a5]
  exact ⟨rfl, rfl, rfl⟩
theorem lz_p : ∀ j, mP (lwZ L xs Wb) 125 j = gP 123 (fun j => j) j := fun j => by
  rw [(lz_b (L := L) (xs := xs) (Wb := Wb) (a := 125) (by omega)).2.2.1]
  show mP (nW (lwA L xs Wb) 123 77 (refW 123) 199 103595) (123 + 2) j = _
  rw [n_P (by omega)]
  rfl
end Va
