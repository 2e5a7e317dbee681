/-! THE LAW: the class's object fresh -/
def frM (M : LM) (Wb : NW) : LM := nW M 2 122 (clsW 2 Wb) (mC M + 122) (mS M + 12431)
section Gk
variable {M M' N : LM} {L i j m A t u c s a k z n : Nat} {xs : Nat → Int32} {Wb : NW} {R : Nat → BT}
theorem fr_c (ht : t < 122) : mI (frM M Wb) (2 + t) = (clsW 2 Wb).1 t ∧ mL (frM M Wb) (2 + t) = (clsW 2 Wb).2.1 t ∧ mP (frM M Wb) (2 + t) = (clsW 2 Wb).2.2.1 t ∧ mK (frM M Wb) (2 + t) = (clsW 2 Wb).2.2.2.1 t ∧ mZ (frM M Wb) (2 + t) = (clsW 2 Wb).2.2.2.2 t := by
  refine ⟨n_rd ht, funext fun j => ?_, funext fun j => n_P ht, n_K ht, n_Z ht⟩
  show (if 2 ≤ 2 + t ∧ 2 + t < 2 + 122 then (clsW 2 Wb).2.1 (2 + t - 2) j else _) = _
  rw [if_pos (by omega), Nat.add_sub_cancel_left]
theorem fr_b2 (h : a < 100) : mI (frM M Wb) (3 + a) = Wb.1 a ∧ mL (frM M Wb) (3 + a) = Wb.2.1 a ∧ mP (frM M Wb) (3 + a) = Wb.2.2.1 a ∧ mK (frM M Wb) (3 + a) = Wb.2.2.2.1 a ∧ mZ (frM M Wb) (3 + a) = Wb.2.2.2.2 a := by
  obtain ⟨a1, a2, a3, a4, a5⟩ := fr_c (M := M) (Wb := Wb) (t := a + 1) (by omega)
  obtain ⟨b1, b2, b3, b4, b5⟩ := cls_b (A := 2) (Wb := Wb) (t := a + 1) (by omega) (by omega)
  rw [Nat.add_sub_cancel] at b1 b2 b3 b4 b5
  rw [show 3 + a = 2 + (a + 1) by omega]
  exact ⟨a1.trans b1, a2.trans b2, a3.trans b3, a4.trans b4, a5.trans b5⟩
theorem fr_q (h : u < 2) : mP (frM M Wb) (104 + u) = (q0Blk 104).2.2.1 u ∧ mK (frM M Wb) (104 + u) = (q0Blk 104).2.2.2.1 u ∧ mZ (frM M Wb) (104 + u) = (q0Blk 104).2.2.2.2 u := by
  obtain ⟨a1, -, a3, a4, a5⟩ := fr_c (M := M) (Wb := Wb) (t := 102 + u) (by omega)
  obtain ⟨b1, b3, b4, b5⟩ := cls_q (A := 2) (Wb := Wb) h
  rw [show 104 + u = 2 + (102 + u) by omega]
  exact ⟨a3.trans b3, a4.trans b4, a5.trans b5⟩
theorem fr_s (h : u < 5) : mP (frM M Wb) (112 + u) = (s0Blk 112).2.2.1 u ∧ mK (frM M Wb) (112 + u) = (s0Blk 112).2.2.2.1 u ∧ mZ (frM M Wb) (112 + u) = (s0Blk 112).2.2.2.2 u := by
  obtain ⟨a1, -, a3, a4, a5⟩ := fr_c (M := M) (Wb := Wb) (t := 110 + u) (by omega)
  obtain ⟨b1, b3, b4, b5⟩ := cls_s (A := 2) (Wb := Wb) h
  rw [show 112 + u = 2 + (110 + u) by omega]
  exact ⟨a3.trans b3, a4.trans b4, a5.trans b5⟩
theorem fr_h (h : u < 7) : mP (frM M Wb) (117 + u) = (h0Blk 117).2.2.1 u ∧ mK (frM M Wb) (117 + u) = (h0Blk 117).2.2.2.1 u ∧ mZ (frM M Wb) (117 + u) = (h0Blk 117).2.2.2.2 u := by
  obtain ⟨a1, -, a3, a4, a5⟩ := fr_c (M := M) (Wb := Wb) (t := 115 + u) (by omega)
  obtain ⟨b1, b3, b4, b5⟩ := cls_h (A := 2) (Wb := Wb) h
  rw [show 117 + u = 2 + (115 + u) by omega]
  exact ⟨a3.trans b3, a4.trans b4, a5.trans b5⟩
theorem fr_2 : mI (frM M Wb) 2 = (fun _ => 0) ∧ mK (frM M Wb) 2 = 26 ∧ mP (frM M Wb) 2 0 = some 3 ∧ mP (frM M Wb) 2 1 = some 103 ∧ mP (frM M Wb) 2 4 = some 104 ∧ mP (frM M Wb) 2 6 = some 112 ∧ mP (frM M Wb) 2 7 = some 117 := by
  obtain ⟨a1, -, a3, a4, a5⟩ := fr_c (M := M) (Wb := Wb) (t := 0) (by omega)
  obtain ⟨b1, b2, b3, b4, b5, b6, b7, b8⟩ := cls_0 (A := 2) (Wb := Wb)
  exact ⟨a1.trans b1, a4.trans b8, (congrFun a3 0).trans b2, (congrFun a3 1).trans b3, (congrFun a3 4).trans b4, (congrFun a3 6).trans b6, (congrFun a3 7).trans b7⟩
theorem fr_103 : mP (frM M Wb) 103 = (fun _ => none) ∧ mK (frM M Wb) 103 = 5 ∧ mZ (frM M Wb) 103 = 6 := by
  obtain ⟨a1, -, a3, a4, a5⟩ := fr_c (M := M) (Wb := Wb) (t := 101) (by omega)
  obtain ⟨b1, b2, b3⟩ := cls_101 (A := 2) (Wb := Wb)
  exact ⟨a3.trans b1, a4.trans b2, a5.trans b3⟩
theorem fr_bA (h : NB 3 6 Wb) : bA (frM M Wb) 3 := by
  refine bA_cg (M := nW M 3 100 Wb 0 0) (NB_bA h) (fun a h1 h2 => ?_)
  obtain ⟨b1, b2, b3, b4, b5⟩ := fr_b2 (M := M) (Wb := Wb) (a := a - 3) (by omega)
  rw [show 3 + (a - 3) = a by omega] at b1 b2 b3 b4 b5
  rw [b3, b4, b5]
  refine ⟨(if_pos (by omega)).symm, (if_pos (by omega)).symm, funext fun j => (if_pos (by omega)).symm⟩
theorem fr_BEq (h : NB 3 6 Wb) : BEq bFresh (tB (frM M Wb) 3) := by
  refine BEq.of (fun t ht => ?_) (fun i hi t ht => ?_)
  · exact (fr_b2 (M := M) (Wb := Wb) (a := t) (by omega)).1.trans (NB_head h t ht).1
  · have hc : cc 0 i + t < 100 := by unfold cc; split <;> omega
    obtain ⟨b1, b2, -⟩ := fr_b2 (M := M) (Wb := Wb) (a := cc 0 i + t) hc
    obtain ⟨c1, c2, -⟩ := h.2.2.2.2 i hi t ht
    have e : cc 3 i + t = 3 + (cc 0 i + t) := by rw [cc_0B]; omega
    refine ⟨?_, ?_⟩
    · show mI (frM M Wb) (cc 3 i + t) = _
      rw [e, b1, c1]; rfl
    · show mL (frM M Wb) (cc 3 i + t) = _
      rw [e, b2, c2]; rfl
theorem fr_CSK (h : NB 3 6 Wb) : CSK (frM M Wb) := by
  obtain ⟨-, o1⟩ := fr_2 (M := M) (Wb := Wb)
  obtain ⟨p1, p2⟩ := fr_103 (M := M) (Wb := Wb)
  have q := fun u h => fr_q (M := M) (Wb := Wb) (u := u) h
  have s := fun u h => fr_s (M := M) (Wb := Wb) (u := u) h
  have hh := fun u h => fr_h (M := M) (Wb := Wb) (u := u) h
  refine ⟨o1, p2, fr_bA h, ⟨(q 0 (by omega)).2.1, congrFun (q 0 (by omega)).1 5, (q 1 (by omega)).2.1, (q 1 (by omega)).2.2, by omega⟩,
    ⟨(s 0 (by omega)).2.1, congrFun (s 0 (by omega)).1 3, congrFun (s 0 (by omega)).1 4, congrFun (s 0 (by omega)).1 5, congrFun (s 0 (by omega)).1 6, ⟨(s 1 (by omega)).2.1, (s 1 (by omega)).2.2, by omega⟩, ⟨(s 2 (by omega)).2.1, (s 2 (by omega)).2.2, by omega⟩, ⟨(s 3 (by omega)).2.1, (s 3 (by omega)).2.2, by omega⟩, ⟨(s 4 (by omega)).2.1, (s 4 (by omega)).2.2, by omega⟩⟩,
    ⟨(hh 0 (by omega)).2.1, congrFun (hh 0 (by omega)).1 0, congrFun (hh 0 (by omega)).1 7, congrFun (hh 0 (by omega)).1 8, congrFun (hh 0 (by omega)).1 9, congrFun (hh 0 (by omega)).1 10, congrFun (hh 0 (by omega)).1 11, ⟨(hh 1 (by omega)).2.1, (hh 1 (by omega)).2.2, by omega⟩, ⟨(hh 2 (by omega)).2.1, (hh 2 (by omega)).2.2, by omega⟩, ⟨(hh 3 (by omega)).2.1, (hh 3 (by omega)).2.2, by omega⟩, ⟨(hh 4 (by omega)).2.1, (hh 4 (by omega)).2.2, by omega⟩, ⟨(hh 5 (by omega)).2.1, (hh 5 (by omega)).2.2, by omega⟩, ⟨(hh 6 (by omega)).2.1, (hh 6 (by omega)).2.2, by omega⟩⟩,
    Nat.le_refl _, fun j P _ e => ?_, fun i j P Q _ _ _ e => ?_⟩
  · rw [p1] at e; cases e
  · rw [p1] at e; cases e
theorem fr_LW (h : NB 3 6 Wb) (hk : mK M 1 = 27) : LW (frM M Wb) bFresh R 0 := by
  obtain ⟨o0, -⟩ := fr_2 (M := M) (Wb := Wb)
  refine ⟨⟨fr_CSK h, fr_BEq h, 0, congrFun o0 2, congrFun o0 3, by omega, by omega, fun i hi => absurd hi (Nat.not_lt_zero _)⟩, ?_⟩
  show (if 2 ≤ 1 ∧ 1 < 2 + 122 then (clsW 2 Wb).2.2.2.1 (1 - 2) else mK M 1) = 27
  rw [if_neg (by omega)]
  exact hk
theorem fr_KT : KT (fun _ => 1) (fun _ => 1) (fun _ => 0) bFresh := by
  have e2 : ∀ k, k < 26 → bFresh.1 2 k = 1 := fun k hk => by
    show (if k < 26 then (1 : Int32) else 0) = 1
    exact if_pos hk
  have e3 : ∀ k, k < 26 → bFresh.1 3 k = 1 := fun k hk => by
    show (if k < 26 then (1 : Int32) else 0) = 1
    exact if_pos hk
  refine ⟨⟨fun i hi => absurd hi (Nat.not_lt_zero _), rfl, by omega, ⟨fun k hk => ⟨rfl, (show (0 : Nat) < 4 by omega)⟩, fun k hk => by rw [e2 k hk]; decide⟩, fun i hi => ⟨Nat.le_refl _, LsA_0 empty_L11 (Nat.le_refl _)⟩⟩, fun k hk => ⟨e2 k hk, e3 k hk, (show (1 : Nat) ≤ 1 by omega), (show (1 : Nat) ≤ 8 by omega)⟩, rfl, fun i hi => ZR_empty⟩
end Gk
