/-! THE LAW: isRow, put together -/
section Df
variable {M M' M0 M1 N : LM} {D i j k t w f n c e r a o m s y c' s' ky sz L p1 p2 key mo cc' ss ca sa : Nat} {x v b1 b2 rule : Int32} {z : Option (LO × LM)} {b : Bool} {T T' T2 : BT} {R : Nat → BT} {P Q : Nat → Prop} {g A B B' : Nat → Int32} {kf fs W : Nat → Nat} {set : Int32} {H : Nat → Nat → Int32}
theorem H_mono (hH : HKs kf n (s + 1) H) (hs1 : 1 ≤ s) (hs2 : s < 900) (hn : n ≤ 300) (hkf : ∀ i, i < n → kf i < 26) (hr : r < 4) (hr2 : nI r - 1 ≠ 2) (hr3 : nI r - 1 = 0 ∨ nI r - 1 = 1) : ¬ H r s < H r (s - 1) := by
  have e1 := (hH r hr).2 s hs1 (by omega)
  rw [e1]
  by_cases q : s = 1
  · have : H r (s - 1) = 0 := by rw [q]; exact (hH r hr).1
    rw [this]
    exact kHits_pos hn hkf (by omega) (by omega) (by rcases hr3 with h | h <;> rw [h] <;> decide)
  · have e2 := (hH r hr).2 (s - 1) (by omega) (by omega)
    obtain ⟨a, b, h1, h2, h3, h4⟩ := hits_mono (rule := nI r - 1) (n := n) (kf := kf) (sz := s - 1) (by omega) (by omega) hr2 hkf
    rw [show s - 1 + 1 = s by omega] at h4
    rw [e2, h3, h4, nI_ltP (by omega) (by omega)]
    omega
theorem H_best (hH : HKs kf n (s + 1) H) (hs1 : 1 ≤ s) (hs2 : s < 900) (hn : n ≤ 300) (hkf : ∀ i, i < n → kf i < 26) (hr : r < 4) : ¬ H 0 s < H r s := by
  have e1 : H 0 s = kHits kf n (-1) (nI s) := (hH 0 (by omega)).2 s hs1 (by omega)
  have e2 := (hH r hr).2 s hs1 (by omega)
  obtain ⟨a, b, h1, h2, h3, h4⟩ := best_ge (rule := nI r - 1) (n := n) (kf := kf) (sz := s) hn hkf (by omega) (by omega)
  rw [e1, e2, h3, h4, nI_ltP (by omega) (by omega)]
  omega
theorem row_144 (d : Nat) (v : VL kf fs W n T) (hky : ky ≤ 16) (h0 : 0 < ky) (hkf : ∀ i, i < n → kf i < ky) (hs1 : 1 ≤ s) (hs2 : s < ky + 2) (hJ : LJ T R c o n kf cc' ss M0 M) (hX : MX M mo ky H) (hH : HKs kf n (s + 1) H) :
    ∃ M', f_L_isRow_144 (d + 15) M 2 1 (nI ky) o (nI n) mo (nI s) (kHits kf n 0 (nI s)) (nI n) = f_L_isRow_97 (d + 15) M' 2 1 (nI ky) o (nI n) mo (nI (s + 1)) ∧ LJ T R c o n kf (cc' + 2) (ss + 2 * 2 ^ ky) M0 M' ∧ MX M' mo ky H := by
  have hn := v.2.2.1
  have hkf26 : ∀ i, i < n → kf i < 26 := fun i hi => (v.1 i hi).1
  have w0 : ∀ {z : Option (LO × LM)}, lt_aa M mo 0 z = z := hX.aa (r := 0) (by omega)
  have w1 : ∀ {z : Option (LO × LM)}, lt_aa M mo 1 z = z := hX.aa (r := 1) (by omega)
  have w2 : ∀ {z : Option (LO × LM)}, lt_aa M mo 2 z = z := hX.aa (r := 2) (by omega)
  have w3 : ∀ {z : Option (LO × LM)}, lt_aa M mo 3 z = z := hX.aa (r := 3) (by omega)
  have u0 : mP M mo (lt_n 0) = some (mo + 1 + 0) := hX.pp (r := 0) (by omega)
  have u1 : mP M mo (lt_n 1) = some (mo + 1 + 1) := hX.pp (r := 1) (by omega)
  have u2 : mP M mo (lt_n 2) = some (mo + 1 + 2) := hX.pp (r := 2) (by omega)
  have u3 : mP M mo (lt_n 3) = some (mo + 1 + 3) := hX.pp (r := 3) (by omega)
  have es : nI s - 1 = nI (s - 1) := nI_sub (b := 1) hs1
  have a0 : ∀ {z : Option (LO × LM)}, lt_ar M (mo + 1 + 0) 1 (nI s) z = z := hX.ar (r := 0) (by omega) hs2
  have a1 : ∀ {z : Option (LO × LM)}, lt_ar M (mo + 1 + 1) 1 (nI s) z = z := hX.ar (r := 1) (by omega) hs2
  have a2 : ∀ {z : Option (LO × LM)}, lt_ar M (mo + 1 + 2) 1 (nI s) z = z := hX.ar (r := 2) (by omega) hs2
  have a3 : ∀ {z : Option (LO × LM)}, lt_ar M (mo + 1 + 3) 1 (nI s) z = z := hX.ar (r := 3) (by omega) hs2
  have b1 : ∀ {z : Option (LO × LM)}, lt_ar M (mo + 1 + 1) 1 (nI (s - 1)) z = z := hX.ar (r := 1) (by omega) (by omega)
  have b2 : ∀ {z : Option (LO × LM)}, lt_ar M (mo + 1 + 2) 1 (nI (s - 1)) z = z := hX.ar (r := 2) (by omega) (by omega)
  have r0 : mI M (mo + 1 + 0) (lt_n (nI s)) = H 0 s := hX.rd (by omega) hs2
  have r1 : mI M (mo + 1 + 1) (lt_n (nI s)) = H 1 s := hX.rd (by omega) hs2
  have r2 : mI M (mo + 1 + 2) (lt_n (nI s)) = H 2 s := hX.rd (by omega) hs2
  have r3 : mI M (mo + 1 + 3) (lt_n (nI s)) = H 3 s := hX.rd (by omega) hs2
  have q1 : mI M (mo + 1 + 1) (lt_n (nI (s - 1))) = H 1 (s - 1) := hX.rd (by omega) (by omega)
  have q2 : mI M (mo + 1 + 2) (lt_n (nI (s - 1))) = H 2 (s - 1) := hX.rd (by omega) (by omega)
  have m1 := H_mono (r := 1) hH hs1 (by omega) hn hkf26 (by omega) (by decide) (by decide)
  have m2 := H_mono (r := 2) hH hs1 (by omega) hn hkf26 (by omega) (by decide) (by decide)
  have n1 := H_best (r := 1) hH hs1 (by omega) hn hkf26 (by omega)
  have n2 := H_best (r := 2) hH hs1 (by omega) hn hkf26 (by omega)
  have n3 := H_best (r := 3) hH hs1 (by omega) hn hkf26 (by omega)
  have e1 : H 1 s = kHits kf n 0 (nI s) := (hH 1 (by omega)).2 s hs1 (by omega)
  have e0 : H 0 s = kHits kf n (-1) (nI s) := (hH 0 (by omega)).2 s hs1 (by omega)
  -- the fewest misses
  obtain ⟨M1, r, c1, c2, c3, c4, c5⟩ := l_few (d + 11) hJ.1 hJ.2.1 hky hn (show 0 < s by omega) (by omega) hkf
  have J1 := hJ.fx c2 c3
  have X1 := hX.kp c3 (fun _ _ _ q => q)
  have c1' : f_L_fewestMisses (d + 14) M o (nI ky) (nI s) = _ := c1
  have d1 : f_L_phases (d + 14) M1 o (nI s) = _ := l_phases (d + 12) J1.2.1 hkf26 (by omega)
  have hqs : qIn (nI s) 1 26 = true := qIn_n (lo := 1) (hi := 26) hs1 (by omega) (by omega)
  have p1 : f_X10_phases (d + 14) M1 2 (nI s) = _ := q_phases (d + 2) J1.1.1 v hqs
  obtain ⟨b, r', g1, g2, g3, g4⟩ := phases_le (rule := -1) (n := n) (kf := kf) (sz := s) hn hkf26 (by omega) (by omega)
  have hbr : b = r := by
    rw [c5] at g3
    have := (lt_iE (by omega) (by omega)).mp g3
    omega
  have dif : nI n - H 0 s = nI r := by
    rw [e0, c5, nI_sub (by omega)]
    congr 1
    omega
  have l358 : ∃ M', f_L_isRow_358 (d + 15) M1 2 1 (nI ky) o (nI n) mo (nI s) 1 = f_L_isRow_97 (d + 15) M' 2 1 (nI ky) o (nI n) mo (nI (s + 1)) ∧ LJ T R c o n kf (cc' + 2) (ss + 2 * 2 ^ ky) M0 M' ∧ MX M' mo ky H := row_358 d v (by omega) hs1 hs2 hH s 1 M1 (by omega) (Nat.le_refl _) J1 X1
  rw [e_L_isRow_144, if_neg (by rw [nI_ltP (by omega) (by omega)]; omega)]
  simp only [w0, w1, w2, w3, u0, u1, u2, u3, x_rf, es, a0, a1, a2, a3, b1, b2, r0, r1, r2, r3, q1, q2]
  rw [if_pos e1, if_neg m1, if_neg m2, if_neg n1, if_neg n2, if_neg n3, c1', lt_bi_r, dif, if_pos rfl, d1, lt_bi_r, J1.ck, p1, lt_bi_r, if_pos rfl, g4, if_neg (by rw [nI_ltP (by omega) (by omega)]; omega)]
  by_cases q : (0 : Int32) < nI n
  · have hn0 : 0 < n := (nI_ltP (j := 0) (k := n) (by omega) (by omega)).mp q
    obtain ⟨n', en⟩ : ∃ n', n = n' + 1 := ⟨n - 1, by omega⟩
    have po := q_phaseOf (x := nI s) (t := n') (d + 2) J1.1.1 v hqs (by omega)
    rw [← en, g4] at po
    have em : nI n - 1 = nI n' := by rw [en]; exact nI_sub (b := 1) (by omega)
    have po' : f_X10_phaseOf (d + 14) M1 2 (nI s) (nI n') = _ := po
    rw [if_pos q, J1.ck, em, po', lt_bi_r, if_pos rfl]
    exact l358
  · rw [if_neg q]
    exact l358
theorem row_97 (d : Nat) (v : VL kf fs W n T) (hky : ky ≤ 16) (h0 : 0 < ky) (hkf : ∀ i, i < n → kf i < ky) (hmo : mN M0 ≤ mo) (hoo : o < mN M0) : ∀ (m s : Nat) (M : LM) (H : Nat → Nat → Int32) (cc' ss : Nat), s + m = ky + 2 → 1 ≤ s → LJ T R c o n kf cc' ss M0 M → MX M mo ky H → HKs kf n s H →
    ∃ M', f_L_isRow_97 (d + 15) M 2 1 (nI ky) o (nI n) mo (nI s) = f_L_isRow_444 (d + 15) M' 2 1 (nI ky) o (nI n) 0 ∧ LJ T R c o n kf (cc' + 2 * m) (ss + m * (2 * 2 ^ ky)) M0 M'
  | 0, s, M, H, cc', ss, hsm, h1, hJ, hX, hH => ⟨M, by rw [e_L_isRow_97, nI_p1, if_pos (by rw [nI_ltP (by omega) (by omega)]; omega)], by rw [Nat.zero_mul]; exact hJ⟩
  | m + 1, s, M, H, cc', ss, hsm, h1, hJ, hX, hH => by
    have hn := v.2.2.1
    have hkf26 : ∀ i, i < n → kf i < 26 := fun i hi => (v.1 i hi).1
    obtain ⟨M1, H1, a1, a2, a3, a4⟩ := row_108 d v (by omega) h1 (by omega) hmo hoo 4 0 M H (by omega) hJ hX hH (fun u hu => by omega)
    have a1' : f_L_isRow_108 (d + 15) M 2 1 (nI ky) o (nI n) mo (nI s) (-1) = _ := a1
    obtain ⟨p', b1, b2⟩ := near_144 (ky := ky) (mo := mo) d v a2.2.1 h1 (by omega) n 0 0 (Nat.le_refl _) (by omega) rfl
    rw [Nat.sub_self] at b1
    have b1' : f_L_isRow_144 (d + 15) M1 2 1 (nI ky) o (nI n) mo (nI s) 0 0 = _ := b1
    rw [b2, ← hits_0 hn hkf26 (show 0 < s by omega) (by omega)] at b1'
    obtain ⟨M2, c1, c2, c3⟩ := row_144 d v hky h0 hkf h1 (by omega) a2 a3 a4
    obtain ⟨M', g1, g2⟩ := row_97 d v hky h0 hkf hmo hoo m (s + 1) M2 H1 _ _ (by omega) (by omega) c2 c3 a4
    refine ⟨M', ?_, ?_⟩
    · rw [e_L_isRow_97, nI_p1, if_neg (by rw [nI_ltP (by omega) (by omega)]; omega), a1', b1', c1]
      exact g1
    · have e1 : cc' + 2 * (m + 1) = cc' + 2 + 2 * m := by omega
      have e2 : ss + (m + 1) * (2 * 2 ^ ky) = ss + 2 * 2 ^ ky + m * (2 * 2 ^ ky) := by rw [Nat.add_mul, Nat.one_mul]; omega
      rw [e1, e2]
      exact g2
theorem row_444 (d : Nat) (v : VL kf fs W n T) (hJ : LJ T R c o n kf cc' ss M0 M) : ∀ (m i : Nat), i + m = n → f_L_isRow_444 (d + 15) M 2 1 (nI ky) o (nI n) (nI i) = f_L_isRow_493 (d + 15) M 2 1 (nI ky) o 0
  | 0, i, hi => by
    have hn := v.2.2.1
    rw [e_L_isRow_444, if_neg (by rw [nI_ltP (by omega) (by omega)]; omega)]
  | m + 1, i, hi => by
    have hn := v.2.2.1
    have hkf : ∀ i, i < n → kf i < 26 := fun i hi => (v.1 i hi).1
    have ed : f_X10_distance (d + 14) M 2 (nI i) = _ := q_distance (d + 2) hJ.1.1 v (show i < n by omega)
    have eo : f_L_others (d + 14) M o (nI i) = _ := l_others (d + 12) hJ.2.1 hkf (show i < n by omega) (by omega)
    have od := oth_dist (kf := kf) (a := kf i) (t := i) (hkf _ (by omega)) (fun j hj => hkf j (by omega)) i 0 (Nat.le_refl _) KS_0 (b_0 _)
    have ih := row_444 d v hJ m (i + 1) (by omega)
    rw [e_L_isRow_444, if_pos (by rw [nI_ltP (by omega) (by omega)]; omega), hJ.ck, ed, lt_bi_r, eo, lt_bi_r, nI_p1 (a := i)]
    rcases od with ⟨o1, o2⟩ | ⟨q, hq, o1, o2⟩
    · rw [o1, o2, if_pos rfl, if_pos rfl]
      exact ih
    · rw [o1, o2, if_neg (show ¬ nI q = -1 from fun e => by
        have h1 := congrArg Int32.toInt e
        rw [lt_iT (by omega)] at h1
        have h2 : (-1 : Int32).toInt = -1 := rfl
        omega), eo, lt_bi_r, o1, nI_p1, if_pos rfl]
      exact ih
theorem row_493 (d : Nat) (v : VL kf fs W n T) (hky : ky ≤ 24) (h0 : 0 < ky) (hkf : ∀ i, i < n → kf i < ky) : ∀ (m i : Nat) (M : LM), i + m = 6 → LJ T R c o n kf cc' ss M0 M → ∃ M', f_L_isRow_493 (d + 15) M 2 1 (nI ky) o (nI i) = some (.inl (some (.int 1)), M') ∧ LJ T R c o n kf cc' ss M0 M'
  | 0, i, M, hi, hJ => by
    obtain ⟨M1, a1, a2, a3⟩ := q_errors (d + 2) hJ.1.1 v
    have a1' : f_X10_errors (d + 14) M 2 = _ := a1
    have l6 : ¬ nI i < (6 : Int32) := by
      show ¬ nI i < nI 6
      rw [nI_ltP (by omega) (by omega)]; omega
    exact ⟨M1, by rw [e_L_isRow_493, if_neg l6, hJ.ck, a1', lt_bi_r, if_pos rfl]; rfl, hJ.fr a2 a3⟩
  | m + 1, i, M, hi, hJ => by
    obtain ⟨M1, a1, a2⟩ := l_isHeld (M0 := M) d ⟨hJ.1, hJ.2.1, FX.rf⟩ v hky h0 hkf
    have J1 : LJ T R c o n kf cc' ss M0 M1 := hJ.fx a2.1 a2.2.2
    obtain ⟨M', g1, g2⟩ := row_493 d v hky h0 hkf m (i + 1) M1 (by omega) J1
    have l6 : nI i < (6 : Int32) := by
      show nI i < nI 6
      rw [nI_ltP (by omega) (by omega)]; omega
    refine ⟨M', ?_, g2⟩
    rw [e_L_isRow_493, if_pos l6, a1, lt_bi_r, if_neg (by decide), nI_p1]
    exact g1
theorem VL_0 {kf' : Nat → Nat} (v : VL kf fs W 0 T) : VL kf' fs W 0 T := ⟨fun i hi => by omega, v.2.1, v.2.2.1, v.2.2.2.1, fun i hi => ⟨(v.2.2.2.2 i hi).1, fun k hk => (v.2.2.2.2 i hi).2 k hk⟩⟩
theorem MX_new (h : LW M T R c) (hk : ky < 1000) : LW (aMul M 7 1 4 (ky + 2)) T R c ∧ MX (aMul M 7 1 4 (ky + 2)) (mN M) ky (fun _ _ => 0) ∧ FX (fun _ => False) 5 (4 + 4 * (ky + 2)) M (aMul M 7 1 4 (ky + 2)) := by
  have hn := t_n h.1.1
  have lo : ∀ a, a < mN M → SAM M (aMul M 7 1 4 (ky + 2)) a := fun a ha => ⟨if_neg (by omega), if_neg (by omega), (if_neg (by omega)).trans (if_neg (by omega)), (if_neg (by omega)).trans (if_neg (by omega)), (if_neg (by omega)).trans (if_neg (by omega))⟩
  have p103 := (lo 103 (by omega)).2.2.1
  have nO : ∀ a, mN M ≤ a → ¬ OWN (aMul M 7 1 4 (ky + 2)) a := fun a ha q => by
    unfold OWN at q
    rw [p103] at q
    rcases q with ⟨q1, q2⟩ | ⟨j', P, j1, j2, j3, j4⟩
    · omega
    · have := (t_pa h.1.1 j1 j2).2.2
      omega
  have hN : mN (aMul M 7 1 4 (ky + 2)) = mN M + 1 + 4 := rfl
  refine ⟨⟨SO_keep h.1 (by omega) (fun a ha _ => lo a ha), (lo 1 (by omega)).2.2.2.1.trans h.2⟩, ⟨if_pos rfl, if_pos rfl, by omega, nO _ (Nat.le_refl _), by omega, fun r hr => ⟨?_, ⟨?_, ?_, by omega⟩, by omega, nO _ (by omega), by omega, fun i _ => ?_⟩⟩, ⟨by omega, fun a ha _ => ⟨(lo a ha).2.2.2.1, (lo a ha).2.2.2.2⟩, fun a ha _ _ _ => lo a ha, fun a ha q => ?_, ?_, ?_⟩⟩
  · have e : mP (aMul M 7 1 4 (ky + 2)) (mN M) = fun i => if i < 4 then some (mN M + 1 + i) else none := if_pos rfl
    rw [e]
    exact if_pos hr
  · exact (if_neg (by omega)).trans (if_pos (by omega))
  · exact (if_neg (by omega)).trans (if_pos (by omega))
  · have e : mI (aMul M 7 1 4 (ky + 2)) (mN M + 1 + r) = fun _ => 0 := if_pos (by omega)
    rw [e]
  · unfold OWN at q ⊢
    rw [p103] at q
    exact q
  · rw [p103]
    show mC M + (1 + 4) + _ ≤ _
    omega
  · rw [p103]
    show mS M + (4 + 4 * (ky + 2)) + _ ≤ _
    omega
/-- isRow of the law -/
theorem l_isRow (d : Nat) (hL : LW M T R c) (v : VL kf fs W 0 T) : ∃ M', f_L_isRow (d + 15) M 2 1 = some (.inl (some (.int 1)), M') ∧ FX (fun _ => False) 24 2400 M M' := by
  have hn0 := t_n hL.1.1
  have L1 := LW_drw hL
  have L2 := LW_drw L1
  have L3 := LW_drw L2
  have v6 := drv_lt (M := M) (m := 6) (by omega)
  have main : ∀ (many : Nat), many ≤ 59 → ∃ M', (lt_br (f_L_row (d + 14) (drw (drw (drw M))) 1 (2 + nI (drv M 6)) (nI many)) [] fun q8 M7 => lt_al M7 q8 (f_L_isRow_52 (d + 15) M7 2 1 (2 + nI (drv M 6)) q8 q8 (nI (mZ M7 q8)) 0)) = some (.inl (some (.int 1)), M') ∧ FX (fun _ => False) 24 2400 M M' := by
    intro many hmany
    have eky : (2 : Int32) + nI (drv M 6) = nI (2 + drv M 6) := lt_iA (j := 2) (k := drv M 6)
    generalize hky : 2 + drv M 6 = ky at eky
    have hky8 : ky < 8 := by omega
    have hky1 : 2 ≤ ky := by omega
    obtain ⟨M1, kf1, a1, a2, a3, a4, a5, a6⟩ := l_row (ky := ky) (many := many) (d + 11) L3 (by omega) (by omega) (by omega)
    have a1' : f_L_row (d + 14) (drw (drw (drw M))) 1 (nI ky) (nI many) = _ := a1
    obtain ⟨M2, T2, R2, c2, b1, b2, b3, b4, b5⟩ := row_52 (fs := fs) (W := W) d (show ky ≤ 24 by omega) a6 (by omega) many 0 M1 T R c (by omega) a2 a4 (VL_0 v)
    have b1' : f_L_isRow_52 (d + 15) M1 2 1 (nI ky) (mN (drw (drw (drw M)))) (mN (drw (drw (drw M)))) (nI many) 0 = _ := b1
    obtain ⟨g1, g2, g3⟩ := MX_new (ky := ky) b2 (by omega)
    have J : LJ T2 R2 c2 (mN (drw (drw (drw M)))) many kf1 (0 + 5) (0 + (4 + 4 * (ky + 2))) M2 (aMul M2 7 1 4 (ky + 2)) := LJ.fx ⟨b2, b3, FX.rf⟩ g1 g3
    obtain ⟨M3, h1, h2⟩ := row_97 d b4 (show ky ≤ 16 by omega) (by omega) a6 (Nat.le_refl _) b3.2.1 (ky + 1) 1 _ _ _ _ (by omega) (Nat.le_refl _) J g2 (fun r hr => ⟨rfl, fun j q1 q2 => by omega⟩)
    have h3 := row_444 (ky := ky) d b4 h2 many 0 (by omega)
    have h3' : f_L_isRow_444 (d + 15) M3 2 1 (nI ky) (mN (drw (drw (drw M)))) (nI many) 0 = _ := h3
    obtain ⟨M4, i1, i2⟩ := row_493 d b4 (show ky ≤ 24 by omega) (by omega) a6 6 0 M3 (by omega) h2
    have i1' : f_L_isRow_493 (d + 15) M3 2 1 (nI ky) (mN (drw (drw (drw M)))) 0 = _ := i1
    have h1' : f_L_isRow_97 (d + 15) (aMul M2 7 1 4 (ky + 2)) 2 1 (nI ky) (mN (drw (drw (drw M)))) (nI many) (mN M2) 1 = _ := h1
    refine ⟨M4, ?_, ?_⟩
    · rw [eky, a1', lt_br_r, a4.al, a4.zz, b1', h1', h3', i1']
    · have f := ((FX_drw (P := fun _ => False) (M := M)).tr ((FX_drw (P := fun _ => False)).tr (FX_drw (P := fun _ => False)))).tr (a3.tr (b5.tr i2.2.2))
      refine f.mo (fun _ _ q => q) (by omega) ?_
      have hp : (2 : Nat) ^ ky ≤ 2 ^ 7 := Nat.pow_le_pow_right (by omega) (by omega)
      have hp2 : (ky + 1) * (2 * 2 ^ ky) ≤ 8 * (2 * 2 ^ 7) := Nat.mul_le_mul (by omega) (by omega)
      have : 8 * (2 * 2 ^ 7) = 2048 := by decide
      omega
  rw [e_L_isRow, lt_ck_t hL.2, show f_X11_n (d + 14) M 1 6 = _ from draw_n (m := 6) (d + 13) hL.2 (by omega) (by omega), lt_bi_r, lt_ck_t L1.2, show f_X11_n (d + 14) (drw M) 1 3 = _ from draw_n (m := 3) (d + 13) L1.2 (by omega) (by omega), lt_bi_r]
  by_cases q : nI (drv (drw M) 3) = 0
  · have v12 := drv_lt (M := drw (drw M)) (m := 12) (by omega)
    rw [if_pos q, lt_ck_t L2.2, show f_X11_n (d + 14) (drw (drw M)) 1 12 = _ from draw_n (m := 12) (d + 13) L2.2 (by omega) (by omega), lt_bi_r]
    exact main _ (by omega)
  · have v50 := drv_lt (M := drw (drw M)) (m := 50) (by omega)
    have e10 : (10 : Int32) + nI (drv (drw (drw M)) 50) = nI (10 + drv (drw (drw M)) 50) := lt_iA (j := 10)
    rw [if_neg q, lt_ck_t L2.2, show f_X11_n (d + 14) (drw (drw M)) 1 50 = _ from draw_n (m := 50) (d + 13) L2.2 (by omega) (by omega), lt_bi_r, e10]
    exact main _ (by omega)
end Df
