/-! THE LAW: hits() of a row, in the law's own cache -/
section Fm
variable {M M' M0 M1 N : LM} {T T' T2 : BT} {R R' : Nat → BT} {j k n x y a o p o4 zc ru ro c c' s' : Nat} {x1 x2 x3 : Int32} {kf : Nat → Nat} {g : Nat → Int32}
theorem hi_9 (d : Nat) : ∀ (m i : Nat) (M : LM) (g : Nat → Int32), i + m = 26 → LW M T R c → AR M o4 26 g → (∀ j, j < i → g j = 1) → ∃ M', f_L_hits_9 (d + 4) M o x1 x2 x3 o4 (nI i) = f_L_hits_9 (d + 4) M' o x1 x2 x3 o4 26 ∧ LW M' T R c ∧ AR M' o4 26 (fun _ => nI 1) ∧ FX (fun a => a = o4) 0 0 M M'
  | 0, i, M, g, hi, h1, h2, h3 => ⟨M, by rw [show i = 26 by omega]; rfl, h1, h2.cg (fun j hj => (h3 j (by omega)).symm), FX.rf⟩
  | m + 1, i, M, g, hi, h1, h2, h3 => by
    have l26 : nI i < (26 : Int32) := (nI_ltP (j := i) (k := 26) (by omega) (by omega)).mpr (by omega)
    obtain ⟨M', g1, g2, g3, g4⟩ := hi_9 d m (i + 1) (wI M o4 i 1) _ (by omega) (LW_wI h1 h2.own) (h2.wr (i := i) (x := 1)) (fun j hj => by
      by_cases w : j = i
      · rw [if_pos w]
      · rw [if_neg w]; exact h3 j (by omega))
    refine ⟨M', ?_, g2, g3, (FX_wI (P := fun a => a = o4) rfl).tr g4⟩
    rw [e_L_hits_9, if_pos l26, h2.ar (by omega), x_m, lt_iN (by omega), nI_p1]
    exact g1
theorem hi_44 (d : Nat) (hn : n ≤ 12) (hg : ∀ k, k < n → g k = nI (kf k) ∧ kf k < 26) (hru : ru < 10) (hro : ro ≤ 20) (hop : o < p) : ∀ (m i : Nat) (M : LM), i + m = n → LW M T R c → AR M o 12 g → PLQ M p zc ru ro (fun _ => 1) (pRunQ ru ro (fun _ => 1) kf i) → PV ro (fun _ => 1) (pRunQ ru ro (fun _ => 1) kf i) → (pRunQ ru ro (fun _ => 1) kf i).2.2.2.2 ≤ i → ∃ M', f_L_hits_44 (d + 4) M o (nI n) p (nI i) = some (.inl (some (.int (nI (pRunQ ru ro (fun _ => 1) kf n).2.2.2.2))), M') ∧ LW M' T R c ∧ FX (PRg p) 0 0 M M' ∧ (pRunQ ru ro (fun _ => 1) kf n).2.2.2.2 ≤ n
  | 0, i, M, hi, h1, h2, h3, h4, h5 => by
    have e : i = n := by omega
    rw [e] at h3 h5 ⊢
    refine ⟨M, ?_, h1, FX.rf, h5⟩
    rw [e_L_hits_44, if_neg (show ¬ nI n < nI n by rw [nI_ltP (by omega) (by omega)]; omega), lt_ck_t h3.1, h3.2.2.2.2.2.1.2.2.2.2]
  | m + 1, i, M, hi, h1, h2, h3, h4, h5 => by
    obtain ⟨gi, ki⟩ := hg i (by omega)
    obtain ⟨M1, e1, e2, e3, e4, e5⟩ := p_ask (key := kf i) (d + 1) h1 h3 h4 (fun _ _ => ⟨by omega, by omega⟩) ki hro hru (by omega)
    obtain ⟨M', f1, f2, f3, f4⟩ := hi_44 d hn hg hru hro hop m (i + 1) M1 (by omega) e2 (h2.kp e3 (by unfold PRg; omega)) e4 e5 (Nat.le_trans ask_h (by omega))
    refine ⟨M', ?_, f2, e3.tr f3, f4⟩
    rw [e_L_hits_44, if_pos (show nI i < nI n by rw [nI_ltP (by omega) (by omega)]; omega), h2.ar (by omega), lt_ck_t h3.1, lt_iN (by omega), h2.2.2.2.2 i (by omega), gi, show f_X12_ask (d + 3) M p (nI (kf i)) = _ from e1, lt_bv_r, nI_p1]
    exact f1
theorem l_hits (d : Nat) (hL : LW M T R c) (hA : AR M o 12 g) (hn : n ≤ 12) (hg : ∀ k, k < n → g k = nI (kf k) ∧ kf k < 26) (hru : ru < 10) (hro : ro ≤ 20) : ∃ M', f_L_hits (d + 4) M o (nI n) (nI ru) (nI ro) = some (.inl (some (.int (nI (pRunQ ru ro (fun _ => 1) kf n).2.2.2.2))), M') ∧ LW M' T R c ∧ AR M' o 12 g ∧ FX (fun _ => False) 4 86 M M' ∧ (pRunQ ru ro (fun _ => 1) kf n).2.2.2.2 ≤ n := by
  have hn1 := t_n hL.1.1
  have oM : o < mN M := hA.2.1
  have L2 : LW (aNew M 1 26 26) T R c := LW_new hL
  have A2 : AR (aNew M 1 26 26) (mN M) 26 (fun _ => 0) := AR_new hL (by omega)
  have F2 : FX (fun a => mN M ≤ a) 1 26 M (aNew M 1 26 26) := FX_new (by omega)
  have B2 := hA.kp F2 (by omega)
  rw [e_L_hits, ln_26, ltn_26, x_m]
  generalize aNew M 1 26 26 = Ma at L2 A2 F2 B2 ⊢
  obtain ⟨M3, e1, L3, A3, F3⟩ := hi_9 (o := o) (x1 := nI n) (x2 := nI ru) (x3 := nI ro) d 26 0 Ma _ rfl L2 A2 (fun j hj => absurd hj (Nat.not_lt_zero _))
  have B3 := B2.kp F3 (by omega)
  obtain ⟨M4, g1, L4, F4, Q4, n4⟩ := p_new (ru := ru) (ro := ro) (sz := fun _ => 1) (d + 2) L3 A3
  rw [x_m] at g1
  have B4 := B3.kp F4 (fun q => q)
  have le3 : mN M ≤ mN M3 := Nat.le_trans F2.1 F3.1
  have V0 : PV ro (fun _ => 1) (pRunQ ru ro (fun _ => 1) kf 0) := ⟨rfl, Nat.zero_le _, fun j hj => absurd hj (Nat.not_lt_zero _)⟩
  obtain ⟨M5, h1, L5, F5, h6⟩ := hi_44 (n := n) (kf := kf) d hn hg hru hro (show o < mN M3 by omega) n 0 M4 (by omega) L4 B4 Q4 V0 (Nat.le_refl _)
  have FF : FX (fun a => mN M ≤ a) 4 86 M M5 := ((F2.tr (F3.mo (fun a _ q => by omega) (Nat.le_refl _) (Nat.le_refl _))).tr (F4.mo (fun _ _ q => q.elim) (Nat.le_refl _) (Nat.le_refl _))).tr (F5.mo (fun a _ q => by unfold PRg at q; omega) (Nat.le_refl _) (Nat.le_refl _))
  refine ⟨M5, ?_, L5, B4.kp F5 (by unfold PRg; omega), FF.mo (fun a h q => by omega) (Nat.le_refl _) (Nat.le_refl _), h6⟩
  rw [show f_L_hits_9 (d + 4) Ma o (nI n) (nI ru) (nI ro) (mN M) 0 = _ from e1, e_L_hits_9, if_neg (by decide), x_m, show f_X12_init (d + 3) (aNew M3 28 0 8) (mN M3) (nI ru) (nI ro) (mN M) = _ from g1, lt_bv_r]
  exact h1
end Fm
