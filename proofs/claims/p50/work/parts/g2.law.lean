/-! THE LAW: its run -/
section Gl
variable {M M' N : LM} {L i j m t u c s a k n : Nat} {x y : Int64} {xs : Nat → Int32} {Wb : NW} {R : Nat → BT}
theorem wL_2 : wL (wL M a i x) a i y = wL M a i y := by
  refine Prod.ext rfl (Prod.ext (funext fun b => funext fun j => ?_) rfl)
  show (if b = a ∧ j = i then y else if b = a ∧ j = i then x else mL M b j) = if b = a ∧ j = i then y else mL M b j
  split <;> rfl
theorem dr_19 (d : Nat) (hk : mK M 1 = 27) (h9 : mK M 0 = 9) (hz : mZ M 0 = L) (hb : L ≤ 260) : ∀ (m i : Nat) (v : Int64), i + m = L → ∃ v', f_X11_init_19 (d + 1) (wL M 1 0 v) 1 0 (nI L) (nI i) = some (.inl none, wL M 1 0 v')
  | 0, i, v, e => by
    refine ⟨v, ?_⟩
    rw [e_X11_init_19, if_neg (show ¬ nI i < nI L by rw [nI_ltP (by omega) (by omega)]; omega)]
  | m + 1, i, v, e => by
    have ar : ∀ {Z : Option (LO × LM)}, lt_ar (wL M 1 0 v) 0 9 (nI i) Z = Z := fun {Z} => lt_ar_t h9 (by rw [show mZ (wL M 1 0 v) 0 = L from hz]; exact lt_iI (by omega) (by omega))
    have ck : ∀ {Z : Option (LO × LM)}, lt_ck (wL M 1 0 v) 1 27 Z = Z := fun {Z} => lt_ck_t hk
    rw [e_X11_init_19, if_pos (show nI i < nI L by rw [nI_ltP (by omega) (by omega)]; omega), ar, ck, ck, x_m, wL_2, nI_p1]
    exact dr_19 d hk h9 hz hb m (i + 1) _ (by omega)
theorem dr_init (d : Nat) (hk : mK M 1 = 27) (h9 : mK M 0 = 9) (hz : mZ M 0 = L) (hb : L ≤ 260) : ∃ v, f_X11_init (d + 1) M 1 0 = some (.inl none, wL M 1 0 v) := by
  obtain ⟨v, e⟩ := dr_19 d hk h9 hz hb L 0 7 (by omega)
  refine ⟨v, ?_⟩
  have ck : ∀ {Z : Option (LO × LM)}, lt_ck M 1 27 Z = Z := fun {Z} => lt_ck_t hk
  have al : ∀ {Z : Option (LO × LM)}, lt_al (wL M 1 0 7) 0 Z = Z := fun {Z} => lt_al_t (by rw [show mK (wL M 1 0 7) 0 = 9 from h9]; omega)
  rw [e_X11_init, ck, x_m, al, show mZ (wL M 1 0 7) 0 = L from hz]
  exact e
/-- the law's run -/
theorem w_law (hb : L ≤ 260) : ∃ Mz, f_L_law (15 + 1) (lt_M0 L xs) 0 = some (.inl (some (.int 1)), Mz) ∧ mC Mz ≤ 170000 ∧ mS Mz ≤ 4000000 := by
  obtain ⟨v, e1⟩ := dr_init (M := aNew (lt_M0 L xs) 27 0 1) (L := L) 14 rfl rfl rfl hb
  have k2 : mK (wL (aNew (lt_M0 L xs) 27 0 1) 1 0 v) 1 = 27 := rfl
  have e2 := draw_n (M := wL (aNew (lt_M0 L xs) 27 0 1) 1 0 v) (m := 9) 14 k2 (by omega) (by omega)
  have k3 : mK (drw (wL (aNew (lt_M0 L xs) 27 0 1) 1 0 v)) 1 = 27 := rfl
  have n3 : mN (drw (wL (aNew (lt_M0 L xs) 27 0 1) 1 0 v)) = 2 := rfl
  have c3 : mC (drw (wL (aNew (lt_M0 L xs) 27 0 1) 1 0 v)) = 1 := rfl
  have s3 : mS (drw (wL (aNew (lt_M0 L xs) 27 0 1) 1 0 v)) = 1 := rfl
  have e1' : f_X11_init 15 (aNew (lt_M0 L xs) 27 0 1) (mN (lt_M0 L xs)) 0 = _ := e1
  have e2' : f_X11_n 15 (wL (aNew (lt_M0 L xs) 27 0 1) 1 0 v) (mN (lt_M0 L xs)) 9 = _ := e2
  have ck : ∀ {Z : Option (LO × LM)}, lt_ck (wL (aNew (lt_M0 L xs) 27 0 1) 1 0 v) (mN (lt_M0 L xs)) 27 Z = Z := fun {Z} => lt_ck_t k2
  have w9 := drv_lt (M := wL (aNew (lt_M0 L xs) 27 0 1) 1 0 v) (m := 9) (by omega)
  rw [e_L_law, x_m, e1', lt_bv_r, ck, e2', lt_bi_r, x_m]
  generalize drv (wL (aNew (lt_M0 L xs) 27 0 1) 1 0 v) 9 = kd at w9 ⊢
  generalize drw (wL (aNew (lt_M0 L xs) 27 0 1) 1 0 v) = M3 at k3 n3 c3 s3 ⊢
  obtain ⟨Wb, h1, h2⟩ := i_cls (M := M3) (A := 2) (c := mC M3 + 1) (s := mS M3 + 8) 10
  have h2' : f_X10_init 15 (aNew M3 26 0 8) (mN M3) = some (.inl none, frM M3 Wb) := by
    unfold frM
    rw [n_new1 (M := M3) (B := 2) n3, n3, show mC M3 + 122 = mC M3 + 1 + 121 by omega, show mS M3 + 12431 = mS M3 + 8 + 12423 by omega]
    exact h2
  have m0 : mN (lt_M0 L xs) = 1 := rfl
  rw [h2', lt_bv_r, n3, m0]
  have hL : LW (frM M3 Wb) bFresh (fun _ => bFresh) 0 := fr_LW h1 k3
  have cN : mC (frM M3 Wb) = 123 := by show mC M3 + 122 = 123; omega
  have sN : mS (frM M3 Wb) = 12432 := by show mS M3 + 12431 = 12432; omega
  have nn : nnP (mP (frM M3 Wb) 103) = 6 := by rw [(fr_103 (M := M3) (Wb := Wb)).1]; rfl
  have fin : ∀ {P : Nat → Prop} {c s : Nat} {Mz : LM}, FX P c s (frM M3 Wb) Mz → c ≤ 160000 → s ≤ 3400000 → mC Mz ≤ 170000 ∧ mS Mz ≤ 4000000 := fun {P c s Mz} f h1 h2 => by
    have f1 := f.2.2.2.2.1
    have f2 := f.2.2.2.2.2
    rw [nn, cN] at f1
    rw [nn, sN] at f2
    omega
  by_cases q4 : kd < 4
  · obtain ⟨Mz, g1, g2⟩ := l_isRow 0 hL fr_KT.1
    have g1' : f_L_isRow 15 (frM M3 Wb) 2 1 = _ := g1
    rw [if_pos (show nI kd < 4 from (nI_ltP (j := kd) (k := 4) (by omega) (by omega)).mpr q4), g1', lt_bi_r, lt_b1_1]
    exact ⟨Mz, rfl, fin g2 (by omega) (by omega)⟩
  · rw [if_neg (show ¬ nI kd < 4 from fun e => q4 ((nI_ltP (j := kd) (k := 4) (by omega) (by omega)).mp e))]
    by_cases q8 : kd < 8
    · obtain ⟨Mz, g1, g2⟩ := l_areCaches 0 hL fr_KT
      have g1' : f_L_areCaches 15 (frM M3 Wb) 2 1 = _ := g1
      rw [if_pos (show nI kd < 8 from (nI_ltP (j := kd) (k := 8) (by omega) (by omega)).mpr q8), g1', lt_bi_r, lt_b1_1]
      exact ⟨Mz, rfl, fin g2 (by omega) (by omega)⟩
    · obtain ⟨Mz, g1, g2⟩ := l_isShamed 0 hL fr_KT
      have g1' : f_L_isShamed 15 (frM M3 Wb) 2 1 = _ := g1
      rw [if_neg (show ¬ nI kd < 8 from fun e => q8 ((nI_ltP (j := kd) (k := 8) (by omega) (by omega)).mp e)), g1', lt_bi_r, lt_b1_1]
      exact ⟨Mz, rfl, fin g2 (by omega) (by omega)⟩
end Gl
