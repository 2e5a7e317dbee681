/-! QUESTIONS: shame(), shameAt() -/
/-- the row that the class keeps -/
def SHW (M : LM) (w : List Nat) : Prop := mI M 117 1 = nI w.length ∧ ∀ i, i < w.length → mI M 118 i = nI (w.reverse.getD i 0)
section Fy
variable {M M' N : LM} {T T' : BT} {R R' : Nat → BT} {c r g k m i c' s' : Nat} {mk : Bool} {w : List Nat} {P : Nat → Prop}
theorem q_shame (d : Nat) (h : SO M T R c) (mk : Bool) (h1 : 1 ≤ r) (h2 : r ≤ 4) (h3 : r + 1 ≤ g) (h4 : g ≤ 6) (h5 : 2 ≤ k) (h6 : k ≤ 5) (h7 : 1 ≤ m) (h8 : m ≤ 9) : ∃ M', SO M' T R c ∧ FR M M' ∧ ((f_X10_shame (d + 7) M 2 (if mk = true then 3 else 2) (nI r) (nI g) (nI k) (nI m) = some (.inl (some (.int (-1))), M') ∧ ∀ u, xCan (mk, r, g, k) u → u.length ≤ m → ¬ 16 < (xR (mk, r, g, k) u).2) ∨
    ∃ w, f_X10_shame (d + 7) M 2 (if mk = true then 3 else 2) (nI r) (nI g) (nI k) (nI m) = some (.inl (some (.int (nI w.length))), M') ∧ 1 ≤ w.length ∧ w.length ≤ m ∧ xCan (mk, r, g, k) w ∧ 16 < (xR (mk, r, g, k) w).2 ∧ (∀ u, xCan (mk, r, g, k) u → u.length < w.length → ¬ 16 < (xR (mk, r, g, k) u).2) ∧ SHW M' w) := by
  have hk := h.1
  have hb : bI mk = 0 ∨ bI mk = 1 := by
    cases mk
    · exact Or.inl rfl
    · exact Or.inr rfl
  have hp : XPO (mk, r, g, k) := ⟨h1, h2, (show 1 ≤ g by omega), h4, h6⟩
  obtain ⟨Z', e1, e2⟩ := h_lookAll (M := M) (P := 117) (p := HPp (mk, r, g, k)) (Z := tG M 117) (most := m) d (t_h hk) (by omega) h1 (show r ≤ 6 by omega) (show 1 ≤ g by omega) h4 (show k ≤ 26 by omega) hb
  rw [gM_id] at e1
  have e1' : f_X6_look (d + 6) M 117 (bI mk) (nI r) (nI g) (nI k) (nI m) = _ := e1
  have fd := sh_find (p := (mk, r, g, k)) (most := m) hp (CAP_all mk r g k h1 h2 h3 h4 h5 h6) (by cases mk <;> simp) (by cases mk <;> simp <;> omega) (Z := tG M 117)
  obtain ⟨s1, s2⟩ := SO_sh (Z := Z') h
  have ee : f_X10_shame (d + 7) M 2 (if mk = true then 3 else 2) (nI r) (nI g) (nI k) (nI m) = some (.inl (some (.int (oLen (hLayers (HPp (mk, r, g, k)) m 1 0 (hStart (tG M 117))).2))), gM M 117 7 Z') := by
    have r0 : ∀ a b e : Int32, f_X10_checkRange (d + 6) M a b e = _ := fun a b e => z_range (d + 5)
    have kh : ∀ {z : Option (LO × LM)}, lt_ck M 117 22 z = z := fun {z} => lt_ck_t (t_h hk).1
    have s3 : nI r + 1 = nI (r + 1) := lt_iA (j := r) (k := 1)
    have q2 : qIn (nI r) 1 4 = true := qIn_n (lo := 1) (hi := 4) h1 h2 (by omega)
    have q3 : qIn (nI g) (nI (r + 1)) 6 = true := qIn_n (hi := 6) h3 h4 (by omega)
    have q4 : qIn (nI k) 2 5 = true := qIn_n (lo := 2) (hi := 5) h5 h6 (by omega)
    have q5 : qIn (nI m) 1 9 = true := qIn_n (lo := 1) (hi := 9) h7 h8 (by omega)
    have q6 : qIn (nI m) 1 12 = true := qIn_n (lo := 1) (hi := 12) h7 (by omega) (by omega)
    cases mk with
    | false =>
      rw [e_X10_shame, r0, bv_if, if_pos (show qIn (if false = true then 3 else 2) 2 3 = true from rfl), r0, bv_if, if_pos q2, s3, r0, bv_if, if_pos q3, r0, bv_if, if_pos q4, if_neg (show ¬ (if false = true then 3 else 2 : Int32) = 3 by decide), r0, bv_if, if_pos q6, t_ck hk, t_p7 hk, x_rf, if_neg (show ¬ (if false = true then 3 else 2 : Int32) = 3 by decide), kh, show f_X6_look (d + 6) M 117 0 (nI r) (nI g) (nI k) (nI m) = _ from e1', lt_bi_r]
    | true =>
      rw [e_X10_shame, r0, bv_if, if_pos (show qIn (if true = true then 3 else 2) 2 3 = true from rfl), r0, bv_if, if_pos q2, s3, r0, bv_if, if_pos q3, r0, bv_if, if_pos q4, if_pos (show (if true = true then 3 else 2 : Int32) = 3 by decide), r0, bv_if, if_pos q5, t_ck hk, t_p7 hk, x_rf, if_pos (show (if true = true then 3 else 2 : Int32) = 3 by decide), kh, show f_X6_look (d + 6) M 117 1 (nI r) (nI g) (nI k) (nI m) = _ from e1', lt_bi_r]
  refine ⟨_, s1, s2, ?_⟩
  rw [ee]
  unfold HF at e2
  generalize hLayers (HPp (mk, r, g, k)) m 1 0 (hStart (tG M 117)) = rr at e2 fd ⊢
  obtain ⟨s, o⟩ := rr
  cases o with
  | none => exact Or.inl ⟨rfl, fd⟩
  | some a =>
    obtain ⟨f1, f2, f3, w, f4, f5, f6, f7⟩ := fd
    refine Or.inr ⟨w, ?_, by omega, by omega, f5, f6, fun u hu hl => f3 u hu (by omega), ?_, fun i hi => ?_⟩
    · rw [f4]; rfl
    · rw [f4]
      exact (congrFun (gI0 (M := M) (U := 117) (n := 7) (Z := Z') (by decide)) 1).trans e2.2
    · refine (congrFun (gI (M := M) (U := 117) (n := 7) (Z := Z') (t := 1) (by decide)) i).trans ?_
      rw [e2.1]
      exact f7 _ i (by omega)
theorem q_shameAt (d : Nat) (h : SO M T R c) (hw : SHW M w) (hl : w.length ≤ 12) (hi : i < w.length) : f_X10_shameAt (d + 2) M 2 (nI i) = some (.inl (some (.int (nI (w.reverse.getD i 0)))), M) := by
  have hk := h.1
  have kh : ∀ {z : Option (LO × LM)}, lt_ck M 117 22 z = z := fun {z} => lt_ck_t (t_h hk).1
  have l0 : ¬ nI i < 0 := fun q => absurd ((nI_ltP (j := i) (k := 0) (by omega) (by omega)).mp q) (Nat.not_lt_zero _)
  have p0 : mP M 117 0 = some 118 := (t_h hk).2.1
  have ea : f_X10_at (d + 1) M 118 (nI i) = _ := s10_at (M := M) (o := 118) (n := 12) d (h_a1 (t_h hk)) (k := i) (by omega)
  rw [e_X10_shameAt, if_neg l0, t_ck hk, t_p7 hk, x_rf, kh, hw.1, if_pos ((nI_ltP (by omega) (by omega)).mpr hi), t_ck hk, x_rf, kh, p0, x_rf, ea, lt_bi_r, hw.2 i hi]
/-- kept by what the law does to its own -/
theorem SHW.kp (hn : 124 ≤ mN M) (h : SHW M w) (e1 : mI M' 117 = mI M 117) (e2 : mI M' 118 = mI M 118) : SHW M' w := ⟨by rw [e1]; exact h.1, fun i hi => by rw [e2]; exact h.2 i hi⟩
end Fy
