/-! THE LAW: its run -/
section Vb
variable {M M' M1 M2 N : LM} {L i j m A t u c s a k z n : Nat} {xs : Nat → Int32} {Wb : NW} {V : Nat → Nat → Int32}
theorem lz_q (h : u < 2) : mI (lwZ L xs Wb) (103 + u) = (q0Blk 103).1 u ∧ mP (lwZ L xs Wb) (103 + u) = (q0Blk 103).2.2.1 u ∧ mK (lwZ L xs Wb) (103 + u) = (q0Blk 103).2.2.2.1 u ∧ mZ (lwZ L xs Wb) (103 + u) = (q0Blk 103).2.2.2.2 u := by
  obtain ⟨a1, -, a3, a4, a5⟩ := lz_c (L := L) (xs := xs) (Wb := Wb) (t := 102 + u) (by omega)
  obtain ⟨b1, b3, b4, b5⟩ := cls_q (A := 1) (Wb := Wb) h
  rw [show 103 + u = 1 + (102 + u) by omega]
  exact ⟨a1.trans b1, a3.trans b3, a4.trans b4, a5.trans b5⟩
theorem lz_t (h : u < 6) : mI (lwZ L xs Wb) (105 + u) = (x0Blk 105).1 u ∧ mP (lwZ L xs Wb) (105 + u) = (x0Blk 105).2.2.1 u ∧ mK (lwZ L xs Wb) (105 + u) = (x0Blk 105).2.2.2.1 u ∧ mZ (lwZ L xs Wb) (105 + u) = (x0Blk 105).2.2.2.2 u := by
  obtain ⟨a1, -, a3, a4, a5⟩ := lz_c (L := L) (xs := xs) (Wb := Wb) (t := 104 + u) (by omega)
  obtain ⟨b1, b3, b4, b5⟩ := cls_x (A := 1) (Wb := Wb) h
  rw [show 105 + u = 1 + (104 + u) by omega]
  exact ⟨a1.trans b1, a3.trans b3, a4.trans b4, a5.trans b5⟩
theorem lz_s (h : u < 5) : mI (lwZ L xs Wb) (111 + u) = (s0Blk 111).1 u ∧ mP (lwZ L xs Wb) (111 + u) = (s0Blk 111).2.2.1 u ∧ mK (lwZ L xs Wb) (111 + u) = (s0Blk 111).2.2.2.1 u ∧ mZ (lwZ L xs Wb) (111 + u) = (s0Blk 111).2.2.2.2 u := by
  obtain ⟨a1, -, a3, a4, a5⟩ := lz_c (L := L) (xs := xs) (Wb := Wb) (t := 110 + u) (by omega)
  obtain ⟨b1, b3, b4, b5⟩ := cls_s (A := 1) (Wb := Wb) h
  rw [show 111 + u = 1 + (110 + u) by omega]
  exact ⟨a1.trans b1, a3.trans b3, a4.trans b4, a5.trans b5⟩
theorem lz_h (h : u < 7) : mI (lwZ L xs Wb) (116 + u) = (h0Blk 116).1 u ∧ mP (lwZ L xs Wb) (116 + u) = (h0Blk 116).2.2.1 u ∧ mK (lwZ L xs Wb) (116 + u) = (h0Blk 116).2.2.2.1 u ∧ mZ (lwZ L xs Wb) (116 + u) = (h0Blk 116).2.2.2.2 u := by
  obtain ⟨a1, -, a3, a4, a5⟩ := lz_c (L := L) (xs := xs) (Wb := Wb) (t := 115 + u) (by omega)
  obtain ⟨b1, b3, b4, b5⟩ := cls_h (A := 1) (Wb := Wb) h
  rw [show 116 + u = 1 + (115 + u) by omega]
  exact ⟨a1.trans b1, a3.trans b3, a4.trans b4, a5.trans b5⟩
theorem lz_1 : mI (lwZ L xs Wb) 1 = (fun _ => 0) ∧ mK (lwZ L xs Wb) 1 = 26 ∧ mP (lwZ L xs Wb) 1 0 = some 2 ∧ mP (lwZ L xs Wb) 1 1 = some 102 ∧ mP (lwZ L xs Wb) 1 4 = some 103 ∧ mP (lwZ L xs Wb) 1 5 = some 105 ∧ mP (lwZ L xs Wb) 1 6 = some 111 ∧ mP (lwZ L xs Wb) 1 7 = some 116 := by
  obtain ⟨a1, -, a3, a4, a5⟩ := lz_c (L := L) (xs := xs) (Wb := Wb) (t := 0) (by omega)
  obtain ⟨b1, b2, b3, b4, b5, b6, b7, b8⟩ := cls_0 (A := 1) (Wb := Wb)
  exact ⟨a1.trans b1, a4.trans b8, (congrFun a3 0).trans b2, (congrFun a3 1).trans b3, (congrFun a3 4).trans b4, (congrFun a3 5).trans b5, (congrFun a3 6).trans b6, (congrFun a3 7).trans b7⟩
theorem lz_102 : mP (lwZ L xs Wb) 102 = (fun _ => none) ∧ mK (lwZ L xs Wb) 102 = 5 ∧ mZ (lwZ L xs Wb) 102 = 6 := by
  obtain ⟨a1, -, a3, a4, a5⟩ := lz_c (L := L) (xs := xs) (Wb := Wb) (t := 101) (by omega)
  obtain ⟨b1, b2, b3⟩ := cls_101 (A := 1) (Wb := Wb)
  exact ⟨a3.trans b1, a4.trans b2, a5.trans b3⟩
theorem lz_200 : mK (lwZ L xs Wb) 200 = 2 ∧ mZ (lwZ L xs Wb) 200 = 1 := by
  have h1 : 200 ≠ mN (aNew (lwB L xs Wb) 2 1 1) := by show 200 ≠ 201; omega
  have e1 : u1 (mK (lwB L xs Wb)) (mN (lwB L xs Wb)) 2 (mN (lwB L xs Wb)) = 2 := u1e
  have e2 : u1 (mZ (lwB L xs Wb)) (mN (lwB L xs Wb)) 1 (mN (lwB L xs Wb)) = 1 := u1e
  exact ⟨(aN_K h1).trans e1, (aN_Z h1).trans e2⟩
theorem lz_201 : mK (lwZ L xs Wb) 201 = 4 ∧ mZ (lwZ L xs Wb) 201 = 1 := by
  have e1 : u1 (mK (aNew (lwB L xs Wb) 2 1 1)) (mN (aNew (lwB L xs Wb) 2 1 1)) 4 (mN (aNew (lwB L xs Wb) 2 1 1)) = 4 := u1e
  have e2 : u1 (mZ (aNew (lwB L xs Wb) 2 1 1)) (mN (aNew (lwB L xs Wb) 2 1 1)) 1 (mN (aNew (lwB L xs Wb) 2 1 1)) = 1 := u1e
  exact ⟨e1, e2⟩
theorem lz_CSK (h : NB 2 6 Wb) : CSK L (lwZ L xs Wb) := by
  obtain ⟨-, o1⟩ := lz_1 (L := L) (xs := xs) (Wb := Wb)
  obtain ⟨p1, p2⟩ := lz_102 (L := L) (xs := xs) (Wb := Wb)
  have q := fun u h => (lz_q (L := L) (xs := xs) (Wb := Wb) (u := u) h).2
  have x := fun u h => (lz_t (L := L) (xs := xs) (Wb := Wb) (u := u) h).2
  have s := fun u h => (lz_s (L := L) (xs := xs) (Wb := Wb) (u := u) h).2
  have hh := fun u h => (lz_h (L := L) (xs := xs) (Wb := Wb) (u := u) h).2
  refine ⟨o1, p2, lz_bA h, ⟨(q 0 (by omega)).2.1, congrFun (q 0 (by omega)).1 5, (q 1 (by omega)).2.1, (q 1 (by omega)).2.2, by omega⟩,
    ⟨(x 0 (by omega)).2.1, congrFun (x 0 (by omega)).1 0, congrFun (x 0 (by omega)).1 3, congrFun (x 0 (by omega)).1 4, congrFun (x 0 (by omega)).1 5, congrFun (x 0 (by omega)).1 6, ⟨(x 1 (by omega)).2.1, (x 1 (by omega)).2.2, by omega⟩, ⟨(x 2 (by omega)).2.1, (x 2 (by omega)).2.2, by omega⟩, ⟨(x 3 (by omega)).2.1, (x 3 (by omega)).2.2, by omega⟩, ⟨(x 4 (by omega)).2.1, (x 4 (by omega)).2.2, by omega⟩, ⟨(x 5 (by omega)).2.1, (x 5 (by omega)).2.2, by omega⟩⟩,
    ⟨(s 0 (by omega)).2.1, congrFun (s 0 (by omega)).1 3, congrFun (s 0 (by omega)).1 4, congrFun (s 0 (by omega)).1 5, congrFun (s 0 (by omega)).1 6, ⟨(s 1 (by omega)).2.1, (s 1 (by omega)).2.2, by omega⟩, ⟨(s 2 (by omega)).2.1, (s 2 (by omega)).2.2, by omega⟩, ⟨(s 3 (by omega)).2.1, (s 3 (by omega)).2.2, by omega⟩, ⟨(s 4 (by omega)).2.1, (s 4 (by omega)).2.2, by omega⟩⟩,
    ⟨(hh 0 (by omega)).2.1, congrFun (hh 0 (by omega)).1 0, congrFun (hh 0 (by omega)).1 7, congrFun (hh 0 (by omega)).1 8, congrFun (hh 0 (by omega)).1 9, congrFun (hh 0 (by omega)).1 10, congrFun (hh 0 (by omega)).1 11, ⟨(hh 1 (by omega)).2.1, (hh 1 (by omega)).2.2, by omega⟩, ⟨(hh 2 (by omega)).2.1, (hh 2 (by omega)).2.2, by omega⟩, ⟨(hh 3 (by omega)).2.1, (hh 3 (by omega)).2.2, by omega⟩, ⟨(hh 4 (by omega)).2.1, (hh 4 (by omega)).2.2, by omega⟩, ⟨(hh 5 (by omega)).2.1, (hh 5 (by omega)).2.2, by omega⟩, ⟨(hh 6 (by omega)).2.1, (hh 6 (by omega)).2.2, by omega⟩⟩,
    lz_RA, lz_200, lz_201, lz_0.2, Nat.le_refl _, fun j P _ e => ?_, fun i j P Q _ _ _ e => ?_⟩
  · rw [p1] at e; cases e
  · rw [p1] at e; cases e
theorem lz_ST (h : NB 2 6 Wb) : ST L xs (lwZ L xs Wb) 0 := by
  obtain ⟨o0, -⟩ := lz_1 (L := L) (xs := xs) (Wb := Wb)
  obtain ⟨p1, p2⟩ := lz_102 (L := L) (xs := xs) (Wb := Wb)
  have q0 := (lz_q (L := L) (xs := xs) (Wb := Wb) (u := 0) (by omega)).1
  have x0 := (lz_t (L := L) (xs := xs) (Wb := Wb) (u := 0) (by omega)).1
  have x1 := (lz_t (L := L) (xs := xs) (Wb := Wb) (u := 1) (by omega)).1
  have h0 := (lz_h (L := L) (xs := xs) (Wb := Wb) (u := 0) (by omega)).1
  have z := fun t h1 h2 => lz_x (L := L) (xs := xs) (Wb := Wb) (t := t) h1 h2
  have z0 : mI (lwZ L xs Wb) 123 = z17 0 := z 0 (by omega) (by omega)
  have z16 : mI (lwZ L xs Wb) 139 = z17 16 := z 16 (by omega) (by omega)
  have hHV : HEq' (h0At 0) (mI (lwZ L xs Wb) 124) (vUp 0 6 (fun _ _ => 0)) (vv (lwZ L xs Wb) 124) := by
    have e := (lz_b (L := L) (xs := xs) (Wb := Wb) (a := 124) (by omega)).1
    rw [e, vv_cg e]
    exact rM_HV (M := nW (lwA L xs Wb) 123 77 (refW 123) 199 103595) (o := 123)
  refine ⟨lz_CSK h, ⟨?_, ?_⟩, lz_0.1, ⟨false, none, 0, 0, 0, congrFun q0 0, congrFun z0 18, congrFun z0 17, (fun k e => by cases e), congrFun z0 16, by omega, congrFun z0 14, congrFun z0 15, by omega, by omega, fun _ => congrFun q0 1, (fun e => by cases e)⟩, ⟨0, by omega, congrFun x0 1, congrFun z0 20, z16.trans x1.symm⟩, ⟨none, congrFun z0 24, congrFun h0 1⟩, (fun _ => 0), (fun _ => 0), (fun _ => 0), 0, (fun j => j), 0, 0, lz_p, ⟨fun j hj => hj, fun i j _ _ e => e⟩, by omega, by omega, congrFun z0 3, congrFun z0 4, congrFun o0 2, congrFun o0 3, RB_cg RB_new (lz_BEq h) hHV, fun i hi => by omega, CT_cg CT_new hHV⟩
  · rw [p1]
    show 201 + 100 * 6 ≤ 2000 + 2 * 0
    omega
  · rw [p1]
    show 103597 + 4314 * 6 ≤ 200000 + 12 * 0
    omega
/-- the law's run -/
theorem w_law (hb : L ≤ 3072) : ∃ Mz, f_L_law (40 + 1) (lt_M0 L xs) 0 = some (.inl (some (.int 1)), Mz) ∧ mC Mz ≤ 4000 ∧ mS Mz ≤ 300000 := by
  obtain ⟨Wb, h1, h2⟩ := i_cls (M := lt_M0 L xs) (A := 1) (c := 1) (s := 8) 35
  have h3 := i_ref (M := lwA L xs Wb) (A := 123) (c := 123) (s := 12466) 35
  obtain ⟨Mz, a1, a2⟩ := w_loop hb 513 0 (lwZ L xs Wb) (by omega) (by omega) (lz_ST h1)
  refine ⟨Mz, ?_, a2⟩
  have e1 : aNew (lt_M0 L xs) 26 0 8 = nW (lt_M0 L xs) 1 1 (nNew n0 0 26 0) 1 8 := n_new1 (M := lt_M0 L xs) (B := 1) rfl
  have e2 : aNew (lwA L xs Wb) 27 0 35 = nW (lwA L xs Wb) 123 1 (nNew n0 0 27 0) 123 12466 := n_new1 (M := lwA L xs Wb) (B := 123) rfl
  have h2' : f_X10_init 40 (nW (lt_M0 L xs) 1 1 (nNew n0 0 26 0) 1 8) (mN (lt_M0 L xs)) = some (.inl none, lwA L xs Wb) := h2
  have h3' : f_X11_init 40 (nW (lwA L xs Wb) 123 1 (nNew n0 0 27 0) 123 12466) (mN (lwA L xs Wb)) = some (.inl none, lwB L xs Wb) := h3
  have l1 : ∀ z : Option (LO × LM), lt_ln 1 z = z := fun z => ln_t (n := 1) (by decide)
  rw [e_L_law, x_m, e1, h2', lt_bv_r, x_m, e2, h3', lt_bv_r, l1, x_m, l1, x_m]
  exact a1
end Vb
