/-! THE LAW: a row drawn; other keys; phases -/
def lOth (kf : Nat → Nat) (x : Nat) : Nat → Int32 → Int32
  | 0, _ => -1
  | j + 1, set => if kf j = x then pPop set else lOth kf x j (set ||| bb (kf j))
def kfG (kf : Nat → Nat) : Nat → Int32 := fun i => nI (kf i)
section Db
variable {M M' M1 N : LM} {B D i j k t w f n c e r a o m s c' s' keys many ky : Nat} {x y v b1 b2 : Int32} {z : Option (LO × LM)} {b : Bool} {T T' T2 : BT} {R : Nat → BT} {P Q : Nat → Prop} {g : Nat → Int32} {kf : Nat → Nat} {set : Int32}
theorem nI_mod {a m : Nat} (ha : a < 2147483648) (hm : m < 2147483648) : nI a - nI a / nI m * nI m = nI (a % m) := by
  have h1 := Nat.div_add_mod a m
  have h2 : a / m * m + a % m = a := by rw [Nat.mul_comm]; exact h1
  rw [nI_div ha hm, lt_iM, nI_sub (by omega)]
  congr 1
  omega
theorem nI_p1 {a : Nat} : nI a + 1 = nI (a + 1) := lt_iA (j := a) (k := 1)
theorem row_21 (d : Nat) {q f0 : Nat} (h0 : 0 < ky) (hky : ky < 26) (hf : f0 < ky) (hm : many < 1000) : ∀ (m i : Nat) (M : LM) (kf : Nat → Nat) (g : Nat → Int32), i + m = many → LW M T R c → AR M o many g → (∀ j, j < i → g j = nI (kf j) ∧ kf j < ky) →
    ∃ M' kf', f_L_row_21 (d + 2) M 1 (nI ky) (nI many) o (nI q) (nI f0) (nI i) = some (.inl (some (.ref o)), M') ∧ LW M' T R c ∧ FX (fun a => a = o) 0 0 M M' ∧ AR M' o many (kfG kf') ∧ ∀ j, j < many → kf' j < ky
  | 0, i, M, kf, g, hi, hL, hA, hg => by
    refine ⟨M, kf, by rw [e_L_row_21, if_neg (by rw [nI_ltP (by omega) (by omega)]; omega)], hL, FX.rf, hA.cg (fun j hj => ((hg j (by omega)).1).symm), fun j hj => (hg j (by omega)).2⟩
  | m + 1, i, M, kf, g, hi, hL, hA, hg => by
    have fin : ∀ (M2 : LM) (k : Nat), k < ky → LW M2 T R c → FX (fun a => a = o) 0 0 M M2 → AR M2 o many g → ∃ M' kf', f_L_row_21 (d + 2) (wI M2 o (lt_n (nI i)) (nI k)) 1 (nI ky) (nI many) o (nI q) (nI f0) (nI i + 1) = some (.inl (some (.ref o)), M') ∧ LW M' T R c ∧ FX (fun a => a = o) 0 0 M M' ∧ AR M' o many (kfG kf') ∧ ∀ j, j < many → kf' j < ky := by
      intro M2 k hk hL2 hF hA2
      rw [lt_iN (by omega), nI_p1]
      obtain ⟨M', kf', e1, e2, e3, e4, e5⟩ := row_21 d h0 hky hf hm m (i + 1) (wI M2 o i (nI k)) (fun j => if j = i then k else kf j) _ (by omega) (LW_wI hL2 hA2.own) (hA2.wr (i := i) (x := nI k)) (fun j hj => by
        by_cases z : j = i
        · rw [if_pos z, if_pos z]; exact ⟨rfl, hk⟩
        · rw [if_neg z, if_neg z]; exact hg j (by omega))
      exact ⟨M', kf', e1, e2, hF.tr ((FX_wI (P := fun a => a = o) rfl).tr e3), e4, e5⟩
    have hl : nI i < nI many := by rw [nI_ltP (by omega) (by omega)]; omega
    let M1 := drw M
    have L1 : LW M1 T R c := LW_drw hL
    have F1 : FX (fun a => a = o) 0 0 M M1 := FX_drw
    have kp : ∀ {M0 : LM}, AR M0 o many g → AR (drw M0) o many g := fun {M0} h => h.kp (FX_drw (P := fun _ => False)) (fun z => z)
    have A1 : AR M1 o many g := kp hA
    have v1 := drv_lt (M := M) h0
    have en : ∀ {M0 : LM} (mm : Nat), LW M0 T R c → 0 < mm → mm < 1000 → f_X11_n (d + 1) M0 1 (nI mm) = some (.inl (some (.int (nI (drv M0 mm)))), drw M0) := fun {M0} mm h h1 h2 => draw_n d h.2 h1 (by omega)
    have ar : ∀ {M0 : LM} {z : Option (LO × LM)}, AR M0 o many g → lt_ar M0 o 1 (nI i) z = z := fun {M0 z} h => h.ar (by omega)
    rw [e_L_row_21, if_pos hl, lt_ck_t hL.2, en ky hL h0 (by omega), lt_bi_r]
    by_cases q1 : nI q = 1
    · rw [if_pos q1, lt_ck_t L1.2, show f_X11_n (d + 1) (drw M) 1 6 = _ from en 6 L1 (by omega) (by omega), lt_bi_r]
      by_cases q2 : nI (drv M1 6) = 0
      · rw [if_pos q2, ar (kp A1), x_m]
        exact fin _ _ v1 (LW_drw L1) (F1.tr FX_drw) (kp A1)
      · rw [if_neg q2, lt_nz_t (show ¬ nI ky = 0 from fun e => by have := (lt_iE (j := ky) (k := 0) (by omega) (by omega)).mp e; omega), ar (kp A1), x_m, lt_iA, nI_mod (by omega) (by omega)]
        exact fin _ _ (Nat.mod_lt _ h0) (LW_drw L1) (F1.tr FX_drw) (kp A1)
    · rw [if_neg q1]
      by_cases q3 : nI q = 2
      · rw [if_pos q3, lt_ck_t L1.2, show f_X11_n (d + 1) (drw M) 1 3 = _ from en 3 L1 (by omega) (by omega), lt_bi_r]
        by_cases q2 : nI (drv M1 3) = 0
        · rw [if_pos q2, ar (kp A1), x_m]
          exact fin _ _ hf (LW_drw L1) (F1.tr FX_drw) (kp A1)
        · rw [if_neg q2, ar (kp A1), x_m]
          exact fin _ _ v1 (LW_drw L1) (F1.tr FX_drw) (kp A1)
      · rw [if_neg q3]
        by_cases q4 : nI q = 3
        · rw [if_pos q4]
          by_cases q5 : (2 : Int32) < nI i
          · have hi2 : 2 < i := (nI_ltP (j := 2) (k := i) (by omega) (by omega)).mp q5
            rw [if_pos q5, lt_ck_t L1.2, show f_X11_n (d + 1) (drw M) 1 2 = _ from en 2 L1 (by omega) (by omega), lt_bi_r]
            have L2 := LW_drw L1
            by_cases q2 : nI (drv M1 2) = 0
            · have v3 := drv_lt (M := drw M1) (m := 3) (by omega)
              have er : nI i - 1 - nI (drv (drw M1) 3) = nI (i - 1 - drv (drw M1) 3) := by
                rw [show nI i - 1 = nI (i - 1) from nI_sub (b := 1) (by omega), nI_sub (by omega)]
              have A3 := kp (kp A1)
              rw [if_pos q2, lt_ck_t L2.2, show f_X11_n (d + 1) (drw (drw M)) 1 3 = _ from en 3 L2 (by omega) (by omega), lt_bi_r, er]
              rw [AR.ar A3 (show i - 1 - drv (drw M1) 3 < many by omega), ar A3, x_m, AR.rd A3 (show i - 1 - drv (drw M1) 3 < many by omega)]
              have hg3 := hg (i - 1 - drv (drw M1) 3) (by omega)
              rw [hg3.1]
              exact fin _ _ hg3.2 (LW_drw L2) ((F1.tr FX_drw).tr FX_drw) A3
            · rw [if_neg q2, ar (kp A1), x_m]
              exact fin _ _ v1 (LW_drw L1) (F1.tr FX_drw) (kp A1)
          · rw [if_neg q5, ar A1, x_m]
            exact fin _ _ v1 L1 F1 A1
        · rw [if_neg q4, ar A1, x_m]
          exact fin _ _ v1 L1 F1 A1
theorem l_row (d : Nat) (hL : LW M T R c) (h0 : 0 < ky) (hky : ky < 26) (hm : many < 1000) : ∃ M' kf, f_L_row (d + 3) M 1 (nI ky) (nI many) = some (.inl (some (.ref (mN M))), M') ∧ LW M' T R c ∧ FX (fun _ => False) 1 many M M' ∧ AR M' (mN M) many (kfG kf) ∧ mN M < mN M' ∧ ∀ j, j < many → kf j < ky := by
  have hn := t_n hL.1.1
  have e0 : lt_n (nI many) = many := lt_iN (by omega)
  let M1 := aNew M 1 many many
  have L1 : LW M1 T R c := LW_new hL
  have A1 := AR_new (n := many) (m := many) hL (by omega)
  have L2 := LW_drw L1
  have L3 := LW_drw L2
  have A2 := A1.kp (FX_drw (P := fun _ => False)) (fun z => z)
  have A3 := A2.kp (FX_drw (P := fun _ => False)) (fun z => z)
  obtain ⟨M', kf, e1, e2, e3, e4, e5⟩ := row_21 (d + 1) (q := drv M1 4) (f0 := drv (drw M1) ky) h0 hky (drv_lt h0) hm many 0 (drw (drw M1)) (fun _ => 0) _ (by omega) L3 A3 (fun j hj => by omega)
  have f1 : FX (fun a => a = mN M) 1 many M M' := (FX_new (by omega)).tr ((FX_drw.tr FX_drw).tr e3)
  refine ⟨M', kf, ?_, e2, f1.mo (fun a ha q => by omega) (Nat.le_refl _) (Nat.le_refl _), e4, ?_, e5⟩
  · rw [e_L_row, ln_t (by omega), e0, x_m, lt_ck_t L1.2, show f_X11_n (d + 2) (aNew M 1 many many) 1 4 = _ from draw_n (m := 4) (d + 1) L1.2 (by omega) (by omega), lt_bi_r, lt_ck_t L2.2, draw_n (d + 1) L2.2 h0 (by omega), lt_bi_r]
    exact e1
  · have := e3.1
    have h2 : mN (drw (drw M1)) = mN M + 1 := rfl
    omega
theorem oth_6 (d : Nat) (hA : AR M o n (kfG kf)) (hk : ∀ i, i < n → kf i < 26) (hi : i < n) (hn : n < 1000) : ∀ (j : Nat) (set : Int32), j ≤ i → f_L_others_6 (d + 2) M o (nI i) set (nI j - 1) = some (.inl (some (.int (lOth kf (kf i) j set))), M)
  | 0, set, _ => by
    rw [e_L_others_6, if_pos (by decide)]
    rfl
  | j + 1, set, hj => by
    have e1 : nI (j + 1) - 1 = nI j := nI_sub (b := 1) (by omega)
    have ih := oth_6 d hA hk hi hn j (set ||| bb (kf j)) (by omega)
    have e2 : nI j + -1 = nI j - 1 := (Int32.sub_eq_add_neg ..).symm
    have hkj := hk j (by omega)
    have hki := hk i hi
    have eb : (1 : Int32) <<< (kfG kf j &&& 31) = bb (kf j) := rfl
    rw [e1, e_L_others_6, if_neg (lt_neg (by omega)), hA.ar (show j < n by omega), hA.ar hi, hA.rd (show j < n by omega), hA.rd hi, c_pop, lt_bi_r, hA.ar (show j < n by omega), eb, e2]
    unfold lOth
    by_cases q : kf j = kf i
    · rw [if_pos q, if_pos (show kfG kf j = kfG kf i by unfold kfG; rw [q])]
    · rw [if_neg q, if_neg (show ¬ kfG kf j = kfG kf i from fun e => q ((lt_iE (by omega) (by omega)).mp e))]
      exact ih
theorem l_others (d : Nat) (hA : AR M o n (kfG kf)) (hk : ∀ i, i < n → kf i < 26) (hi : i < n) (hn : n < 1000) : f_L_others (d + 2) M o (nI i) = some (.inl (some (.int (lOth kf (kf i) i 0))), M) := by
  rw [e_L_others]
  exact oth_6 d hA hk hi hn i 0 (Nat.le_refl _)
/-- the other keys between are one less than the distance -/
theorem oth_dist (hx : a < 26) (hk : ∀ i, i < t → kf i < 26) : ∀ (j : Nat) (set : Int32), j ≤ t → KS set → bt set a = false → (lOth kf a j set = -1 ∧ qDist kf a j set = -1) ∨ ∃ p, p < 26 ∧ lOth kf a j set = nI p ∧ qDist kf a j set = nI (p + 1)
  | 0, _, _, _, _ => Or.inl ⟨rfl, rfl⟩
  | j + 1, set, hj, hs, hb => by
    unfold lOth qDist
    have hkj := hk j (by omega)
    by_cases q : kf j = a
    · rw [if_pos q, if_pos q]
      refine Or.inr ⟨nK (bt set) 26, ?_, pPop_nK hs, ?_⟩
      · have := nK_lt hx hb 26 hx
        omega
      · rw [pPop_nK hs, show (1 : Int32) = nI 1 from rfl, lt_iA, Nat.add_comm]
    · rw [if_neg q, if_neg q]
      exact oth_dist hx hk j (set ||| bb (kf j)) (by omega) (KS_or hs (KS_bb hkj)) (by rw [b_or, hb, bt_bb (show kf j < 32 by omega) (show a < 32 by omega), decide_eq_false (show ¬ a = kf j from fun e => q e.symm)]; rfl)
theorem ph_15 (d : Nat) (hA : AR M o n (kfG kf)) (hk : ∀ i, i < n → kf i < 26) (hn : n < 1000) {size : Int32} : ∀ (m : Nat) (p : Nat) (set : Int32), m ≤ n → p + m ≤ n → KS set → (p = 0 → set = 0) → f_L_phases_15 (d + 2) M size (nI p) set o (nI n) (nI (n - m)) = some (.inl (some (.int (kPh kf size n m (nI p) set))), M)
  | 0, p, set, _, _, _, _ => by
    rw [e_L_phases_15, if_neg (by rw [nI_ltP (by omega) (by omega)]; omega)]
    rfl
  | m + 1, p, set, hm, hp, hs, h0 => by
    have hkm := hk (n - (m + 1)) (by omega)
    have e1 : nI (n - (m + 1)) + 1 = nI (n - m) := by rw [nI_p1]; congr 1; omega
    have ih1 := ph_15 d hA hk hn (size := size) m (p + 1) (bb (kf (n - (m + 1)))) (by omega) (by omega) (KS_bb hkm) (fun e => by omega)
    have ih2 := ph_15 d hA hk hn (size := size) m p (set ||| bb (kf (n - (m + 1)))) (by omega) (by omega) (KS_or hs (KS_bb hkm))
    have eb : (1 : Int32) <<< (kfG kf (n - (m + 1)) &&& 31) = bb (kf (n - (m + 1))) := rfl
    rw [e_L_phases_15, if_pos (by rw [nI_ltP (by omega) (by omega)]; omega), hA.ar (by omega), hA.rd (by omega), eb, c_pop, lt_bi_r, e1, nI_p1, kPh_s, nI_p1]
    by_cases q : p = 0
    · have : ¬ (0 : Int32) < nI p := by rw [q]; decide
      rw [if_neg this, if_pos (Or.inl (by rw [q]; rfl))]
      exact ih1
    · have q1 : (0 : Int32) < nI p := (nI_ltP (j := 0) (k := p) (by omega) (by omega)).mpr (by omega)
      have q2 : ¬ nI p = 0 := fun e => q ((lt_iE (j := p) (k := 0) (by omega) (by omega)).mp e)
      rw [if_pos q1]
      by_cases q3 : size < pPop (set ||| bb (kf (n - (m + 1))))
      · rw [if_pos q3, if_pos (Or.inr q3)]
        exact ih1
      · rw [if_neg q3, if_neg (fun e => by rcases e with e | e <;> contradiction)]
        exact ih2 (fun e => absurd e q)
theorem l_phases (d : Nat) (hA : AR M o n (kfG kf)) (hk : ∀ i, i < n → kf i < 26) (hn : n < 1000) {size : Int32} : f_L_phases (d + 2) M o size = some (.inl (some (.int (kPh kf size n n 0 0))), M) := by
  have h := ph_15 d hA hk hn (size := size) n 0 0 (Nat.le_refl _) (by omega) KS_0 (fun _ => rfl)
  rw [Nat.sub_self] at h
  rw [e_L_phases, hA.al, hA.zz]
  exact h
end Db
