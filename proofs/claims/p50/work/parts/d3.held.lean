/-! THE LAW: what is held by some size behind some requests -/
noncomputable def hTl (d : Nat) (M : LM) (o : Nat) (x3 x4 x5 x6 x7 : Int32) : Option (LO × LM) := lt_ck M 2 26 (lt_bi (f_X10_holdsAfter d M 2 1 x4 x5 x7) [] fun v18 M17 => if @Eq Int32 v18 0 then (lt_ck M17 2 26 (lt_bi (f_X10_holdsAfter d M17 2 ((-1)) x4 x5 x7) [] fun v20 M19 => if @Eq Int32 v20 0 then (f_L_isHeld_25 (d + 1) M19 2 o x3 x4 x5 (x6 + 0) (x7 + 1)) else (f_L_isHeld_25 (d + 1) M19 2 o x3 x4 x5 (x6 + 1) (x7 + 1)))) else (lt_ck M17 2 26 (lt_bi (f_X10_holdsAfter d M17 2 1 (x4 + 1) x5 x7) [] fun v22 M21 => if @Eq Int32 v22 0 then (lt_b1 0 (some (.inl (some (.int 0)), M21))) else (lt_ck M21 2 26 (lt_bi (f_X10_holdsAfter d M21 2 ((-1)) x4 x5 x7) [] fun v24 M23 => if @Eq Int32 v24 0 then (f_L_isHeld_25 (d + 1) M23 2 o x3 x4 x5 (x6 + 0) (x7 + 1)) else (f_L_isHeld_25 (d + 1) M23 2 o x3 x4 x5 (x6 + 1) (x7 + 1)))))))
def LI (T : BT) (R : Nat → BT) (c o n : Nat) (kf : Nat → Nat) (M0 M : LM) : Prop := LW M T R c ∧ AR M o n (kfG kf) ∧ FX (fun _ => False) 0 0 M0 M
section Dd
variable {M M' M0 M1 N : LM} {D i j k t w f n c e r a o m s y c' s' ky sz L p1 p2 key h : Nat} {x v b1 b2 rule : Int32} {z : Option (LO × LM)} {b : Bool} {T T' T2 : BT} {R : Nat → BT} {P Q : Nat → Prop} {g A B B' : Nat → Int32} {kf fs W : Nat → Nat} {set : Int32} {F : Nat → Bool}
theorem nK_up : ∀ m, nK F n ≤ nK F (n + m)
  | 0 => Nat.le_refl _
  | m + 1 => Nat.le_trans (nK_up m) (by
    show nK F (n + m) ≤ nK F (n + m + 1)
    rw [nK_e]
    exact Nat.le_add_right _ _)
theorem LI.fr (h : LI T R c o n kf M0 M) (hS : SO M' T R c) (hF : FR M M') : LI T R c o n kf M0 M' := ⟨LW_FR h.1 hF hS, h.2.1.kp (P := fun _ => False) (FX.of hF) (fun q => q), h.2.2.tr (FX.of hF)⟩
theorem LI.ck (h : LI T R c o n kf M0 M) : lt_ck M 2 26 z = z := t_ck h.1.1.1
theorem is_ho (d : Nat) (h : LI T R c o n kf M0 M) (v : VL kf fs W n T) (hr : qIn rule (-1) 2 = true) (hx : 1 ≤ sz) (hx2 : sz ≤ 26) (ht : t ≤ n) (hk : k < 26) : ∃ M', f_X10_holdsAfter (d + 12) M 2 rule (nI sz) (nI t) (nI k) = some (.inl (some (.int (bI (bt (sPlay rule (nI sz) kf n t).1 k)))), M') ∧ LI T R c o n kf M0 M' := by
  obtain ⟨M', e1, e2, e3⟩ := q_holdsAfter (rule := rule) (x := nI sz) d h.1.1 v hr (show qIn (nI sz) 1 26 = true from qIn_n (lo := 1) (hi := 26) hx hx2 (by omega)) ht hk
  exact ⟨M', e1, h.fr e2 e3⟩
theorem tl_go (d : Nat) (h : LI T R c o n kf M0 M) (v : VL kf fs W n T) (hx : 1 ≤ sz) (hx2 : sz + 1 ≤ 26) (ht : t ≤ n) (hk : k < 26) {p : Nat} {x3 : Int32} : ∃ M', hTl (d + 12) M o x3 (nI sz) (nI t) (nI p) (nI k) = f_L_isHeld_25 (d + 13) M' 2 o x3 (nI sz) (nI t) (nI (p + (if bt (sPlay (-1) (nI sz) kf n t).1 k = true then 1 else 0))) (nI (k + 1)) ∧ LI T R c o n kf M0 M' := by
  have hkf : ∀ i, i < t → kf i < 26 := fun i hi => (v.1 i (by omega)).1
  have fin : ∀ {Mq : LM} (b : Bool), (if @Eq Int32 (bI b) 0 then (f_L_isHeld_25 (d + 13) Mq 2 o x3 (nI sz) (nI t) (nI p + 0) (nI k + 1)) else (f_L_isHeld_25 (d + 13) Mq 2 o x3 (nI sz) (nI t) (nI p + 1) (nI k + 1))) = f_L_isHeld_25 (d + 13) Mq 2 o x3 (nI sz) (nI t) (nI (p + (if b = true then 1 else 0))) (nI (k + 1)) := by
    intro Mq b
    rw [nI_p1 (a := k)]
    cases b with
    | true =>
      rw [if_neg (by decide), nI_p1]
      rfl
    | false =>
      rw [if_pos (show bI false = 0 from rfl), Int32.add_zero]
      rfl
  obtain ⟨M1, e1, g1⟩ := is_ho (rule := 1) d h v (by decide) hx (by omega) ht hk
  unfold hTl
  rw [h.ck, e1, lt_bi_r]
  by_cases q : bt (sPlay 1 (nI sz) kf n t).1 k = true
  · obtain ⟨M2, e2, g2⟩ := is_ho (rule := 1) (sz := sz + 1) d g1 v (by decide) (by omega) hx2 ht hk
    obtain ⟨M3, e3, g3⟩ := is_ho (rule := -1) d g2 v (by decide) hx (by omega) ht hk
    have mono := held_mono (rule := 1) (n := n) (t := t) (k := k) (kf := kf) hx (by omega) (by decide) hkf hk q
    rw [q, if_neg (by decide), g1.ck, nI_p1 (a := sz), e2, lt_bi_r, mono, if_neg (by decide), g2.ck, e3, lt_bi_r]
    exact ⟨M3, fin _, g3⟩
  · have q' : bt (sPlay 1 (nI sz) kf n t).1 k = false := by simpa using q
    obtain ⟨M3, e3, g3⟩ := is_ho (rule := -1) d g1 v (by decide) hx (by omega) ht hk
    rw [q', if_pos (show bI false = 0 from rfl), g1.ck, e3, lt_bi_r]
    exact ⟨M3, fin _, g3⟩
theorem hd_101 (d : Nat) (h : LI T R c o n kf M0 M) (v : VL kf fs W n T) (hx : 1 ≤ sz) (hx2 : sz + 1 ≤ 26) (ht : t ≤ n) (hk : k < 26) {p : Nat} {x3 : Int32} : ∃ M', f_L_isHeld_101 (d + 13) M 2 o x3 (nI sz) (nI t) (nI p) (nI k) 0 = f_L_isHeld_25 (d + 13) M' 2 o x3 (nI sz) (nI t) (nI (p + (if bt (sPlay (-1) (nI sz) kf n t).1 k = true then 1 else 0))) (nI (k + 1)) ∧ LI T R c o n kf M0 M' := by
  rw [e_L_isHeld_101, if_pos rfl]
  exact tl_go d h v hx hx2 ht hk
theorem hd_71 (d : Nat) (h : LI T R c o n kf M0 M) (v : VL kf fs W n T) (hx : 1 ≤ sz) (hx2 : sz + 1 ≤ 26) (ht : t ≤ n) (hk : k < 26) {p : Nat} {x3 : Int32} {j : Option Nat} (hj : ∀ i, j = some i → i < 300) (hm : (match j with | none => false | some _ => decide (pPop x < nI sz)) = bt (sPlay 0 (nI sz) kf n t).1 k) : ∃ M', f_L_isHeld_71 (d + 13) M 2 o x3 (nI sz) (nI t) (nI p) (nI k) x (oI j) = f_L_isHeld_25 (d + 13) M' 2 o x3 (nI sz) (nI t) (nI (p + (if bt (sPlay (-1) (nI sz) kf n t).1 k = true then 1 else 0))) (nI (k + 1)) ∧ LI T R c o n kf M0 M' := by
  obtain ⟨M1, e1, g1⟩ := is_ho (rule := 0) d h v (by decide) hx (by omega) ht hk
  rw [e_L_isHeld_71, h.ck, e1, lt_bi_r, ← hm]
  cases j with
  | none =>
    rw [if_pos (show oI none < 0 by decide)]
    exact hd_101 d g1 v hx hx2 ht hk
  | some i =>
    have hi := hj i rfl
    rw [if_neg (show ¬ oI (some i) < 0 from lt_neg (by omega)), c_pop, lt_bi_r]
    by_cases q : pPop x < nI sz
    · rw [if_pos q, if_pos (show bI (decide (pPop x < nI sz)) = 1 by rw [decide_eq_true q]; rfl)]
      exact tl_go d g1 v hx hx2 ht hk
    · have e0 : bI (decide (pPop x < nI sz)) = 0 := by rw [decide_eq_false q]; rfl
      rw [if_neg q]
      show ∃ M', f_L_isHeld_101 (d + 13) M1 2 o x3 (nI sz) (nI t) (nI p) (nI k) (bI (decide (pPop x < nI sz))) = _ ∧ _
      rw [e0]
      exact hd_101 d g1 v hx hx2 ht hk
theorem hd_40 (d : Nat) (h : LI T R c o n kf M0 M) (v : VL kf fs W n T) (hx : 1 ≤ sz) (hx2 : sz + 1 ≤ 26) (ht : t ≤ n) (hk : k < 26) {p : Nat} {x3 : Int32} : ∀ (j : Nat) (set : Int32), j ≤ t → qHA kf k (nI sz) j set = bt (sPlay 0 (nI sz) kf n t).1 k → ∃ M', f_L_isHeld_40 (d + 13) M 2 o x3 (nI sz) (nI t) (nI p) (nI k) set (nI j - 1) = f_L_isHeld_25 (d + 13) M' 2 o x3 (nI sz) (nI t) (nI (p + (if bt (sPlay (-1) (nI sz) kf n t).1 k = true then 1 else 0))) (nI (k + 1)) ∧ LI T R c o n kf M0 M'
  | 0, set, _, hq => by
    rw [e_L_isHeld_40, if_pos (by decide)]
    exact hd_71 (j := none) d h v hx hx2 ht hk (fun i e => by cases e) hq
  | j + 1, set, hj, hq => by
    have hn := v.2.2.1
    have e1 : nI (j + 1) - 1 = nI j := nI_sub (b := 1) (by omega)
    have e2 : nI j + -1 = nI j - 1 := (Int32.sub_eq_add_neg ..).symm
    have hkj := (v.1 j (by omega)).1
    have eb : (1 : Int32) <<< (kfG kf j &&& 31) = bb (kf j) := rfl
    unfold qHA at hq
    rw [e1, e_L_isHeld_40, if_neg (lt_neg (by omega)), h.2.1.ar (show j < n by omega), h.2.1.rd (show j < n by omega), h.2.1.ar (show j < n by omega), eb, e2]
    by_cases q : kf j = k
    · rw [if_pos (show kfG kf j = nI k by unfold kfG; rw [q])]
      rw [if_pos q] at hq
      exact hd_71 (j := some j) d h v hx hx2 ht hk (fun i e => by cases e; omega) hq
    · rw [if_neg (show ¬ kfG kf j = nI k from fun e => q ((lt_iE (by omega) (by omega)).mp e))]
      rw [if_neg q] at hq
      exact hd_40 d h v hx hx2 ht hk j _ (by omega) hq
theorem hd_25 (d : Nat) (hky : ky ≤ 25) (v : VL kf fs W n T) (hkf : ∀ i, i < n → kf i < ky) (hx : 1 ≤ sz) (hx2 : sz + 1 ≤ 26) (ht : t ≤ n) : ∀ (m k p : Nat) (M : LM), k + m = ky → LI T R c o n kf M0 M → p = nK (bt (sPlay (-1) (nI sz) kf n t).1) k → ∃ M', f_L_isHeld_25 (d + 13) M 2 o (nI ky) (nI sz) (nI t) (nI p) (nI k) = some (.inl (some (.int 1)), M') ∧ LI T R c o n kf M0 M'
  | 0, k, p, M, hkm, h, hp => by
    have hn := v.2.2.1
    have hkf26 : ∀ i, i < n → kf i < 26 := fun i hi => (v.1 i hi).1
    have cap := cap_play (rule := -1) (n := n) (t := t) (sz := sz) (kf := kf) hx (by omega) (fun i hi => hkf26 i (by omega))
    have hpz : p ≤ sz := by
      have h1 := nK_up (F := bt (sPlay (-1) (nI sz) kf n t).1) (n := k) (26 - k)
      rw [show k + (26 - k) = 26 by omega] at h1
      omega
    have e1 : ¬ nI sz < nI p := by rw [nI_ltP (by omega) (by omega)]; omega
    rw [e_L_isHeld_25, if_neg (by rw [nI_ltP (by omega) (by omega)]; omega), if_neg e1, if_neg e1]
    by_cases q : t = 0
    · rw [if_pos (show nI t = 0 by rw [q]; rfl)]
      exact ⟨M, rfl, h⟩
    · obtain ⟨t', et⟩ : ∃ t', t = t' + 1 := ⟨t - 1, by omega⟩
      have em : nI t - 1 = nI t' := by rw [et]; exact nI_sub (b := 1) (by omega)
      have hkt := hkf26 t' (by omega)
      rw [if_neg (show ¬ nI t = 0 from fun e => q ((lt_iE (j := t) (k := 0) (by omega) (by omega)).mp e)), h.ck, em]
      obtain ⟨M1, a1, a2, a3⟩ := q_bestVictim (x := nI sz) (t := t') d h.1.1 v (show qIn (nI sz) 1 26 = true from qIn_n (lo := 1) (hi := 26) hx (by omega) (by omega)) (by omega)
      have g1 := h.fr a2 a3
      obtain ⟨M2, b1, g2⟩ := is_ho (rule := -1) (t := t) (k := kf t') d g1 v (by decide) hx (by omega) ht hkt
      have eS := sPlay_s (rule := -1) (kf := kf) (n := n) (t := t') (size := nI sz)
      rw [← et] at eS
      have cap' := cap_play (rule := -1) (n := n) (t := t') (sz := sz) (kf := kf) hx (by omega) (fun i hi => hkf26 i (by omega))
      have hin : bt (sPlay (-1) (nI sz) kf n t).1 (kf t') = true := by
        rw [eS]
        exact (cap_step hx (by omega) hkt cap'.1 cap'.2).2.2
      have ekf : kfG kf t' = nI (kf t') := rfl
      rw [a1, lt_bi_r, g1.2.1.ar (show t' < n by omega), g1.ck, g1.2.1.rd (show t' < n by omega), ekf, b1, lt_bi_r, hin, if_neg (by decide), ← et, eS]
      cases eo : sOut (nI sz) (sPlay (-1) (nI sz) kf n t') (kf t') with
      | none =>
        have : (sStep (-1) (nI sz) (sAsk kf n) (kf t') t' (sPlay (-1) (nI sz) kf n t')).2.1 = none := eo
        rw [this, if_pos (show oI none = -1 from rfl)]
        exact ⟨M2, rfl, g2⟩
      | some u =>
        have e3 : (sStep (-1) (nI sz) (sAsk kf n) (kf t') t' (sPlay (-1) (nI sz) kf n t')).2.1 = some u := eo
        have hu : u < 26 ∧ bt (sPlay (-1) (nI sz) kf n t').1 u = true ∧ bt (sPlay (-1) (nI sz) kf n t').1 (kf t') = false := by
          unfold sOut at eo
          by_cases z1 : bt (sPlay (-1) (nI sz) kf n t').1 (kf t') = true
          · rw [if_pos z1] at eo; cases eo
          · rw [if_neg z1] at eo
            by_cases z2 : pPop (sPlay (-1) (nI sz) kf n t').1 < nI sz
            · rw [if_pos z2] at eo; cases eo
            · rw [if_neg z2] at eo
              exact ⟨(lO_lt u eo).1, (lO_lt u eo).2, by simpa using z1⟩
        have hne : u ≠ kf t' := fun e => by rw [e, hu.2.2] at hu; cases hu.2.1
        have hgone : bt (sPlay (-1) (nI sz) kf n t).1 u = false := by
          rw [eS, ss_bt cap'.1 hkt (fun o' e' => by rw [eo] at e'; cases e'; exact hu.1) hu.1, eo, decide_eq_true rfl, decide_eq_false hne, Bool.not_true, Bool.and_false]
          rfl
        rw [e3]
        show ∃ M', (if @Eq Int32 (nI u) (-1) then _ else _) = _ ∧ _
        rw [if_neg (show ¬ nI u = -1 from fun e => by
          have h1 := congrArg Int32.toInt e
          rw [lt_iT (by omega)] at h1
          have h2 : (-1 : Int32).toInt = -1 := rfl
          omega)]
        obtain ⟨M3, c1, g3⟩ := is_ho (rule := -1) (t := t') (k := u) d g2 v (by decide) hx (by omega) (by omega) hu.1
        obtain ⟨M4, d1, g4⟩ := is_ho (rule := -1) (t := t) (k := u) d g3 v (by decide) hx (by omega) ht hu.1
        show ∃ M', (lt_ck M2 2 26 (lt_bi (f_X10_holdsAfter (d + 12) M2 2 (-1) (nI sz) (nI t') (nI u)) [] fun v10 M9 => if @Eq Int32 v10 0 then (lt_b1 0 (some (.inl (some (.int 0)), M9))) else (lt_ck M9 2 26 (lt_bi (f_X10_holdsAfter (d + 12) M9 2 (-1) (nI sz) (nI t) (nI u)) [] fun v12 M11 => if @Eq Int32 v12 0 then (lt_b1 1 (some (.inl (some (.int 1)), M11))) else (lt_b1 0 (some (.inl (some (.int 0)), M11)))))) : Option (LO × LM)) = some (.inl (some (.int 1)), M') ∧ LI T R c o n kf M0 M'
        rw [g2.ck, c1, lt_bi_r, hu.2.1, if_neg (by decide), g3.ck, d1, lt_bi_r, hgone, if_pos (show bI false = 0 from rfl)]
        exact ⟨M4, rfl, g4⟩
  | m + 1, k, p, M, hkm, h, hp => by
    have hn := v.2.2.1
    have hkf26 : ∀ i, i < n → kf i < 26 := fun i hi => (v.1 i hi).1
    obtain ⟨M1, e1, g1⟩ := hd_40 (k := k) (p := p) (x3 := nI ky) d h v hx hx2 ht (by omega) t 0 (Nat.le_refl _) (held_0 hn hkf26 hx (by omega) ht (by omega))
    obtain ⟨M2, e2, g2⟩ := hd_25 d hky v hkf hx hx2 ht m (k + 1) (p + (if bt (sPlay (-1) (nI sz) kf n t).1 k = true then 1 else 0)) M1 (by omega) g1 (by
      rw [nK_e, hp])
    refine ⟨M2, ?_, g2⟩
    rw [e_L_isHeld_25, if_pos (by rw [nI_ltP (by omega) (by omega)]; omega), e1]
    exact e2
theorem l_isHeld (d : Nat) (h : LI T R c o n kf M0 M) (v : VL kf fs W n T) (hky : ky ≤ 24) (h0 : 0 < ky) (hkf : ∀ i, i < n → kf i < ky) : ∃ M', f_L_isHeld (d + 14) M 2 o 1 (nI ky) = some (.inl (some (.int 1)), M') ∧ LI T R c o n kf M0 M' := by
  have hn := v.2.2.1
  have L1 := LW_drw h.1
  have L2 := LW_drw L1
  have A1 := h.2.1.kp (FX_drw (P := fun _ => False)) (fun z => z)
  have A2 := A1.kp (FX_drw (P := fun _ => False)) (fun z => z)
  have v1 := drv_lt (M := M) h0
  have v2 := drv_lt (M := drw M) (m := n + 1) (by omega)
  obtain ⟨M', e1, g1⟩ := hd_25 (sz := 1 + drv M ky) (t := drv (drw M) (n + 1)) (o := o) (M0 := M0) (ky := ky) (d + 1) (by omega) v hkf (by omega) (by omega) (by omega) ky 0 0 (drw (drw M)) (by omega) ⟨L2, A2, (h.2.2.tr FX_drw).tr FX_drw⟩ rfl
  refine ⟨M', ?_, g1⟩
  rw [e_L_isHeld, lt_ck_t h.1.2, draw_n (d + 12) h.1.2 h0 (by omega), lt_bi_r, A1.al, lt_ck_t L1.2, A1.zz, nI_p1, draw_n (d + 12) L1.2 (by omega) (by omega), lt_bi_r, show (1 : Int32) = nI 1 from rfl, lt_iA]
  exact e1
end Dd
