/-! THE LAW: a row, told by the class -/
def LJ (T : BT) (R : Nat → BT) (c o n : Nat) (kf : Nat → Nat) (cc' ss : Nat) (M0 M : LM) : Prop := LW M T R c ∧ AR M o n (kfG kf) ∧ FX (fun _ => False) cc' ss M0 M
/-- the law's row of rows of hits -/
def MX (M : LM) (mo ky : Nat) (H : Nat → Nat → Int32) : Prop := mK M mo = 7 ∧ mZ M mo = 4 ∧ mo < mN M ∧ ¬ OWN M mo ∧ mo ≠ 1 ∧ ∀ r, r < 4 → mP M mo r = some (mo + 1 + r) ∧ AR M (mo + 1 + r) (ky + 2) (H r)
def HKs (kf : Nat → Nat) (n s : Nat) (H : Nat → Nat → Int32) : Prop := ∀ r, r < 4 → H r 0 = 0 ∧ ∀ j, 1 ≤ j → j < s → H r j = kHits kf n (nI r - 1) (nI j)
section De
variable {M M' M0 M1 N : LM} {D i j k t w f n c e r a o m s y c' s' ky sz L p1 p2 key mo cc' ss ca sa : Nat} {x v b1 b2 rule : Int32} {z : Option (LO × LM)} {b : Bool} {T T' T2 : BT} {R : Nat → BT} {P Q : Nat → Prop} {g A B B' : Nat → Int32} {kf fs W : Nat → Nat} {set : Int32} {H : Nat → Nat → Int32}
theorem FX.nx (h : FX (fun _ => False) c s M0 M) (g : FX P c' s' M M') (hp : ∀ a, P a → mN M0 ≤ a) : FX (fun _ => False) (c + c') (s + s') M0 M' := by
  obtain ⟨h1, h2, h3, h4, h5, h6⟩ := h
  obtain ⟨g1, g2, g3, g4, g5, g6⟩ := g
  refine ⟨Nat.le_trans h1 g1, fun a ha ho => ?_, fun a ha ho h1' _ => (h3 a ha ho h1' (fun q => q)).tr (g3 a (by omega) (fun q => ho (h4 a ha q)) h1' (fun q => by have := hp a q; omega)), fun a ha q => h4 a ha (g4 a (by omega) q), by omega, by omega⟩
  have u := h2 a ha ho
  have w := g2 a (by omega) (fun q => ho (h4 a ha q))
  exact ⟨w.1.trans u.1, w.2.trans u.2⟩
theorem MX.kp (h : MX M mo ky H) (f : FX P c s M M') (hp : ∀ a, mo ≤ a → a ≤ mo + 4 → ¬ P a) : MX M' mo ky H := by
  obtain ⟨h1, h2, h3, h4, h5, h6⟩ := h
  have u := f.2.2.1 mo h3 h4 h5 (hp mo (Nat.le_refl _) (by omega))
  exact ⟨u.2.2.2.1.trans h1, u.2.2.2.2.trans h2, Nat.lt_of_lt_of_le h3 f.1, fun q => h4 (f.2.2.2.1 mo h3 q), h5, fun r hr => ⟨by rw [u.2.2.1]; exact (h6 r hr).1, (h6 r hr).2.kp f (hp _ (by omega) (by omega))⟩⟩
theorem MX.wr (h : MX M mo ky H) (hr : r < 4) : MX (wI M (mo + 1 + r) j x) mo ky (fun r' => if r' = r then (fun i => if i = j then x else H r i) else H r') := by
  obtain ⟨h1, h2, h3, h4, h5, h6⟩ := h
  refine ⟨h1, h2, h3, h4, h5, fun r' hr' => ⟨(h6 r' hr').1, ?_⟩⟩
  by_cases q : r' = r
  · rw [q]
    simp only [if_true]
    exact (h6 r hr).2.wr
  · simp only [if_neg q]
    exact (h6 r' hr').2.kp (FX_wI (P := fun a => a = mo + 1 + r) rfl) (by omega)
theorem MX.aa (h : MX M mo ky H) (hr : r < 4) : lt_aa M mo (nI r) z = z := by
  unfold lt_aa
  rw [if_pos ⟨by have := h.1; omega, by rw [h.2.1]; exact lt_iI hr (by omega)⟩]
theorem MX.pp (h : MX M mo ky H) (hr : r < 4) : mP M mo (lt_n (nI r)) = some (mo + 1 + r) := by rw [lt_iN (by omega)]; exact (h.2.2.2.2.2 r hr).1
theorem MX.ar (h : MX M mo ky H) (hr : r < 4) (hj : j < ky + 2) : lt_ar M (mo + 1 + r) 1 (nI j) z = z := (h.2.2.2.2.2 r hr).2.ar hj
theorem MX.rd (h : MX M mo ky H) (hr : r < 4) (hj : j < ky + 2) : mI M (mo + 1 + r) (lt_n (nI j)) = H r j := (h.2.2.2.2.2 r hr).2.rd hj
theorem LJ.fr (h : LJ T R c o n kf cc' ss M0 M) (hS : SO M' T R c) (hF : FR M M') : LJ T R c o n kf cc' ss M0 M' := ⟨LW_FR h.1 hF hS, h.2.1.kp (P := fun _ => False) (FX.of hF) (fun q => q), h.2.2.tr (FX.of hF)⟩
theorem LJ.ck (h : LJ T R c o n kf cc' ss M0 M) : lt_ck M 2 26 z = z := t_ck h.1.1.1
theorem LJ.fx (h : LJ T R c o n kf cc' ss M0 M) (hL : LW M' T R c) (f : FX (fun _ => False) ca sa M M') : LJ T R c o n kf (cc' + ca) (ss + sa) M0 M' := ⟨hL, h.2.1.kp f (fun q => q), h.2.2.tr f⟩
theorem kf_id : kfU kf n (kf n) = kf := funext fun i => by
  unfold kfU
  by_cases q : i = n
  · rw [if_pos q, q]
  · rw [if_neg q]
/-- the row is asked for -/
theorem row_52 (d : Nat) (hky : ky ≤ 24) (hkf : ∀ i, i < n → kf i < ky) (hn : n ≤ 300) : ∀ (m i : Nat) (M : LM) (T : BT) (R : Nat → BT) (c : Nat), i + m = n → LW M T R c → AR M o n (kfG kf) → VL kf fs W i T →
    ∃ M' T' R' c', f_L_isRow_52 (d + 15) M 2 1 (nI ky) o o (nI n) (nI i) = f_L_isRow_97 (d + 15) (aMul M' 7 1 4 (ky + 2)) 2 1 (nI ky) o (nI n) (mN M') 1 ∧ LW M' T' R' c' ∧ AR M' o n (kfG kf) ∧ VL kf fs W n T' ∧ FX (fun _ => False) 0 0 M M'
  | 0, i, M, T, R, c, him, hL, hA, v => by
    have e4 : lt_n (4 : Int32) = 4 := rfl
    refine ⟨M, T, R, c, ?_, hL, hA, by rw [show n = i by omega]; exact v, FX.rf⟩
    rw [e_L_isRow_52, if_neg (by rw [nI_ltP (by omega) (by omega)]; omega), hA.al, ln_4, show nI ky + 2 = nI (ky + 2) from lt_iA (j := ky) (k := 2), ln_t (by omega), hA.zz, e4, lt_iN (by omega), x_m]
  | m + 1, i, M, T, R, c, him, hL, hA, v => by
    have hki := hkf i (by omega)
    obtain ⟨T2, M1, e0, e1, e2, e3⟩ := q_request (k := kf i) (d + 2) hL.1 v (by omega) (by omega) false
    have v2 := VL_ask (VL_cg v e0) (show kf i < 26 by omega) (show i < 300 by omega) false
    rw [kf_id] at v2
    have L1 := LW_FR hL e3 e2
    have A1 := hA.kp (P := fun _ => False) (FX.of e3) (fun q => q)
    obtain ⟨M', T', R', c', g1, g2, g3, g4, g5⟩ := row_52 d hky hkf hn m (i + 1) M1 _ _ _ (by omega) L1 A1 v2
    refine ⟨M', T', R', c', ?_, g2, g3, g4, (FX.of e3).tr g5⟩
    have e1' : f_X10_request (d + 14) M 2 (nI (kf i)) 0 = _ := e1
    have ekf : kfG kf i = nI (kf i) := rfl
    rw [e_L_isRow_52, if_pos (by rw [nI_ltP (by omega) (by omega)]; omega), hA.ar (by omega), t_ck hL.1.1, hA.rd (by omega), ekf, e1', lt_bi_r, nI_p1]
    exact g1
/-- hits by one size -/
theorem row_108 (d : Nat) (v : VL kf fs W n T) (hky : ky ≤ 24) (hs1 : 1 ≤ s) (hs2 : s < ky + 2) (hmo : mN M0 ≤ mo) (hoo : o < mN M0) : ∀ (m r : Nat) (M : LM) (H : Nat → Nat → Int32), r + m = 4 → LJ T R c o n kf cc' ss M0 M → MX M mo ky H → HKs kf n s H → (∀ u, u < r → H u s = kHits kf n (nI u - 1) (nI s)) →
    ∃ M' H', f_L_isRow_108 (d + 15) M 2 1 (nI ky) o (nI n) mo (nI s) (nI r - 1) = f_L_isRow_144 (d + 15) M' 2 1 (nI ky) o (nI n) mo (nI s) 0 0 ∧ LJ T R c o n kf cc' ss M0 M' ∧ MX M' mo ky H' ∧ HKs kf n (s + 1) H'
  | 0, r, M, H, hrm, hJ, hX, hH, hr => by
    have h4 : r = 4 := by omega
    refine ⟨M, H, by rw [e_L_isRow_108, h4, if_neg (by decide)], hJ, hX, fun u hu => ⟨(hH u hu).1, fun j h1 h2 => ?_⟩⟩
    by_cases q : j = s
    · rw [q]; exact hr u (by omega)
    · exact (hH u hu).2 j h1 (by omega)
  | m + 1, r, M, H, hrm, hJ, hX, hH, hr => by
    have hr4 : r < 4 := by omega
    have l3 : ∀ r, r < 4 → nI r - 1 < (3 : Int32) := by decide
    have lq : ∀ r, r < 4 → qIn (nI r - 1) (-1) 2 = true := by decide
    have e1 : nI r - 1 + 1 = nI r := Int32.sub_add_cancel ..
    have e2 : nI r = nI (r + 1) - 1 := (nI_sub (a := r + 1) (b := 1) (by omega)).symm
    obtain ⟨M1, a1, a2, a3⟩ := q_hits (rule := nI r - 1) (x := nI s) (d + 2) hJ.1.1 v (lq r hr4) (show qIn (nI s) 1 26 = true from qIn_n (lo := 1) (hi := 26) hs1 (by omega) (by omega))
    have a1' : f_X10_hits (d + 14) M 2 (nI r - 1) (nI s) = _ := a1
    have J1 := hJ.fr a2 a3
    have X1 := hX.kp (P := fun _ => False) (FX.of a3) (fun _ _ _ q => q)
    have ho := (X1.2.2.2.2.2 r hr4).2.own
    have X2 := X1.wr (r := r) (j := s) (x := kHits kf n (nI r - 1) (nI s)) hr4
    have fw : FX (fun a => a = mo + 1 + r) 0 0 M1 (wI M1 (mo + 1 + r) s (kHits kf n (nI r - 1) (nI s))) := FX_wI (P := fun a => a = mo + 1 + r) rfl
    have J2 : LJ T R c o n kf cc' ss M0 (wI M1 (mo + 1 + r) s (kHits kf n (nI r - 1) (nI s))) := ⟨LW_wI J1.1 ho, J1.2.1.kp fw (by omega), (J1.2.2.nx fw (fun a e => by omega))⟩
    obtain ⟨M', H', g1, g2, g3, g4⟩ := row_108 d v hky hs1 hs2 hmo hoo m (r + 1) _ _ (by omega) J2 X2 (fun u hu => by
      by_cases q : u = r
      · rw [q]
        simp only [if_true]
        refine ⟨by rw [if_neg (by omega)]; exact (hH r hr4).1, fun j h1 h2 => ?_⟩
        rw [if_neg (by omega)]
        exact (hH r hr4).2 j h1 h2
      · simp only [if_neg q]
        exact hH u hu) (fun u hu => by
      by_cases q : u = r
      · rw [q]
        simp only [if_true]
      · simp only [if_neg q]
        exact hr u (by omega))
    refine ⟨M', H', ?_, g2, g3, g4⟩
    rw [e_L_isRow_108, if_pos (l3 r hr4), e1, hX.aa hr4, hX.pp hr4, x_rf, hJ.ck, a1', lt_bi_r, X1.ar hr4 hs2, x_m, lt_iN (by omega)]
    rw [← e2] at g1
    exact g1
/-- those near enough -/
theorem near_144 (d : Nat) (v : VL kf fs W n T) (hA : AR M o n (kfG kf)) (hs1 : 1 ≤ s) (hs2 : s < 1000) : ∀ (m : Nat) (p : Nat) (zz : Int32), m ≤ n → p + m ≤ n → nI p = zz → ∃ p', f_L_isRow_144 (d + 15) M 2 1 (nI ky) o (nI n) mo (nI s) zz (nI (n - m)) = f_L_isRow_144 (d + 15) M 2 1 (nI ky) o (nI n) mo (nI s) (nI p') (nI n) ∧ nI p' = qHL kf n (nI s) m zz
  | 0, p, zz, _, _, hp => ⟨p, by rw [hp]; rfl, hp⟩
  | m + 1, p, zz, hm, hpm, hp => by
    have hn := v.2.2.1
    have hkf : ∀ i, i < n → kf i < 26 := fun i hi => (v.1 i hi).1
    have e1 : nI (n - (m + 1)) + 1 = nI (n - m) := by rw [nI_p1]; congr 1; omega
    have eo : f_L_others (d + 14) M o (nI (n - (m + 1))) = _ := l_others (d + 12) hA hkf (show n - (m + 1) < n by omega) (by omega)
    have od := oth_dist (kf := kf) (a := kf (n - (m + 1))) (t := n - (m + 1)) (hkf _ (by omega)) (fun i hi => hkf i (by omega)) (n - (m + 1)) 0 (Nat.le_refl _) KS_0 (b_0 _)
    rw [e_L_isRow_144, if_pos (by rw [nI_ltP (by omega) (by omega)]; omega), eo, lt_bi_r, e1]
    unfold qHL
    rcases od with ⟨o1, o2⟩ | ⟨q, hq, o1, o2⟩
    · rw [o1, o2, if_pos rfl]
      have eq0 : bI (qIn (-1) 1 (nI s)) = 0 := by rw [qIn_m (Or.inr trivial)]; rfl
      rw [eq0]
      exact near_144 d v hA hs1 hs2 m p _ (by omega) (by omega) (by rw [Int32.add_zero]; exact hp)
    · rw [o1, o2, if_neg (show ¬ nI q = -1 from fun e => by
        have h1 := congrArg Int32.toInt e
        rw [lt_iT (by omega)] at h1
        have h2 : (-1 : Int32).toInt = -1 := rfl
        omega), eo, lt_bi_r, o1, qIn_n1 (by omega) (by omega) hs2]
      by_cases w : q < s
      · rw [if_pos (by rw [nI_ltP (by omega) (by omega)]; exact w), decide_eq_true (show q + 1 ≤ s by omega)]
        exact near_144 d v hA hs1 hs2 m (p + 1) _ (by omega) (by omega) (by rw [← hp]; exact nI_p1.symm)
      · rw [if_neg (by rw [nI_ltP (by omega) (by omega)]; exact w), decide_eq_false (show ¬ q + 1 ≤ s by omega)]
        exact near_144 d v hA hs1 hs2 m p _ (by omega) (by omega) (by rw [Int32.add_zero]; exact hp)
/-- the slacks -/
theorem row_358 (d : Nat) (v : VL kf fs W n T) (hky : ky ≤ 24) (hs1 : 1 ≤ s) (hs2 : s < ky + 2) (hH : HKs kf n (s + 1) H) : ∀ (m h : Nat) (M : LM), h + m = s + 1 → 1 ≤ h → LJ T R c o n kf cc' ss M0 M → MX M mo ky H →
    ∃ M', f_L_isRow_358 (d + 15) M 2 1 (nI ky) o (nI n) mo (nI s) (nI h) = f_L_isRow_97 (d + 15) M' 2 1 (nI ky) o (nI n) mo (nI (s + 1)) ∧ LJ T R c o n kf cc' ss M0 M' ∧ MX M' mo ky H
  | 0, h, M, hm, h1, hJ, hX => ⟨M, by rw [e_L_isRow_358, if_pos (by rw [nI_ltP (by omega) (by omega)]; omega), nI_p1], hJ, hX⟩
  | m + 1, h, M, hm, h1, hJ, hX => by
    have hn := v.2.2.1
    have hkf : ∀ i, i < n → kf i < 26 := fun i hi => (v.1 i hi).1
    obtain ⟨M1, a1, a2, a3⟩ := q_slack (p := s) (q := h) (d + 2) hJ.1.1 v h1 (by omega) (by omega)
    have a1' : f_X10_slack (d + 14) M 2 (nI s) (nI h) = _ := a1
    have J1 := hJ.fr a2 a3
    have X1 := hX.kp (P := fun _ => False) (FX.of a3) (fun _ _ _ q => q)
    obtain ⟨M', g1, g2, g3⟩ := row_358 d v hky hs1 hs2 hH m (h + 1) M1 (by omega) (by omega) J1 X1
    refine ⟨M', ?_, g2, g3⟩
    have e0 : H 0 h = kHits kf n (-1) (nI h) := (hH 0 (by omega)).2 h h1 (by omega)
    have e1 : H 1 s = kHits kf n 0 (nI s) := (hH 1 (by omega)).2 s hs1 (by omega)
    obtain ⟨mi, b, s1, s2, s3, s4, s5⟩ := slack_le (k := s) (h := h) (n := n) (kf := kf) (by omega) h1 (by omega) hn hkf
    have val : ((nI s * (nI n - kHits kf n (-1) (nI h)) + ((nI s - nI h) + 1) * nI h) - ((nI s - nI h) + 1) * (nI n - kHits kf n 0 (nI s))) = nI (s * b + (s - h + 1) * h - (s - h + 1) * mi) := by
      rw [s3, s4, nI_sub (by omega), nI_sub (by omega), nI_sub (by omega), show n - (n - b) = b by omega, show n - (n - mi) = mi by omega, nI_p1, lt_iM, lt_iM, lt_iM, lt_iA, nI_sub s5]
    have hb : s * b + (s - h + 1) * h < 2147483648 := by
      have q1 : s * b ≤ 26 * 300 := Nat.mul_le_mul (by omega) (by omega)
      have q2 : (s - h + 1) * h ≤ 26 * 26 := Nat.mul_le_mul (by omega) (by omega)
      omega
    have z0 : mI M1 (mo + 1 + 0) (lt_n (nI h)) = H 0 h := X1.rd (by omega) (by omega)
    have z1 : mI M1 (mo + 1 + 1) (lt_n (nI s)) = H 1 s := X1.rd (by omega) hs2
    have w0 : ∀ {z : Option (LO × LM)}, lt_aa M1 mo 0 z = z := X1.aa (r := 0) (by omega)
    have w1 : ∀ {z : Option (LO × LM)}, lt_aa M1 mo 1 z = z := X1.aa (r := 1) (by omega)
    have u0 : mP M1 mo (lt_n 0) = some (mo + 1 + 0) := X1.pp (r := 0) (by omega)
    have u1 : mP M1 mo (lt_n 1) = some (mo + 1 + 1) := X1.pp (r := 1) (by omega)
    rw [e_L_isRow_358, if_neg (by rw [nI_ltP (by omega) (by omega)]; omega), hJ.ck, a1', lt_bi_r, if_neg (by rw [val]; exact lt_neg (by omega)), w0, u0, x_rf, X1.ar (by omega) (show h < ky + 2 by omega), w1, u1, x_rf, X1.ar (by omega) hs2, z0, z1, e0, e1, if_pos rfl, nI_p1]
    exact g1
end De
