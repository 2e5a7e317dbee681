/-! THE STATE behind a change -/
/-- the reference's other cells behind begins() and what follows -/
def XBk (p : Nat → Nat) (c n : Nat) (X : Nat → Nat → Int32) (H : Nat → Int32) (V X' : Nat → Nat → Int32) : Prop :=
  (∀ t, 15 ≤ t → t ≤ 17 → X' t = X t) ∧ (∀ j, (14 ≤ j ∧ j ≤ 16) ∨ j = 20 ∨ j = 24 → X' 0 j = X 0 j) ∧ X' 0 3 = nI (if c < 6 then c + 1 else 6) ∧ X' 0 4 = nI n ∧
  ∀ q, q < 6 → X' (3 + q) = if q = (if c < 6 then p c else p 0) then (fun i => if i < 12896 then rowS H V i else X (3 + q) i) else X (3 + q)
/-- what may change of the class's cells behind keepForUndo() -/
def CH (M' M1 : LM) : Prop := (∀ a, a ≤ 1 ∨ a = 104 ∨ a = 106 ∨ a = 117 ∨ 202 ≤ a → mI M1 a = mI M' a) ∧ mI M1 105 1 = mI M' 105 1 ∧ mI M1 116 1 = mI M' 116 1 ∧ (∀ a, 202 ≤ a → mL M1 a = mL M' a) ∧ mP M1 = mP M' ∧ mK M1 = mK M' ∧ mZ M1 = mZ M' ∧ mN M1 = mN M' ∧ mC M1 ≤ mC M' + 2 ∧ mS M1 ≤ mS M' + 12
section Ud
variable {M M' M1 N : LM} {L B D P U i j k t w f n c e r a o n' : Nat} {x y v b1 b2 : Int32} {z : Option (LO × LM)} {K : LM → Option (LO × LM)} {b : Bool} {T : BT} {kf fs W p kf' fs' W' : Nat → Nat} {xs H H' : Nat → Int32} {V V' X X' X1 : Nat → Nat → Int32} {l : Option (List Nat)} {y64 : Int64}
theorem CSK_cg (h : CSK L M) (g1 : mP M' = mP M) (g2 : mK M' = mK M) (g3 : mZ M' = mZ M) (g4 : mN M' = mN M) : CSK L M' := by
  have sm : ∀ lo hi, SM M M' lo hi := fun lo hi a _ _ => by rw [g1, g2, g3]; exact ⟨rfl, rfl, rfl⟩
  refine ⟨by rw [g1, g2]; exact h.1, by rw [g2, g3]; exact h.2.1, bA_cg (t_b h) (sm _ _), QA_cg (t_q h) (sm _ _), TA_cg (t_t h) (sm _ _), SA_cg (t_s h) (sm _ _), PA_cg (t_h h) (sm _ _), RA_cg (t_r h) (sm _ _), by rw [g2, g3]; exact t_out h, by rw [g2, g3]; exact t_outD h, by rw [g2, g3]; exact t_sc h, by rw [g4]; exact t_n h, fun j Q hj hq => ?_, fun i j P Q hi hj hij hP hQ => ?_⟩
  · rw [g1] at hq
    obtain ⟨a1, a2, a3⟩ := t_pa h hj hq
    exact ⟨bA_cg a1 (sm _ _), a2, by rw [g4]; exact a3⟩
  · rw [g1] at hP hQ
    exact t_pd h hi hj hij hP hQ
theorem rowS_eq : HEq' H (fun i => if i < 12896 then rowS H V i else x) V (fun u w => if 980 + 662 * u + w < 12896 then rowS H V (980 + 662 * u + w) else x) := by
  refine ⟨fun j hj => ?_, fun u hu w hw => ?_⟩
  · show (if j < 12896 then rowS H V j else x) = H j
    rw [if_pos (by omega)]
    exact if_pos hj
  · show (if 980 + 662 * u + w < 12896 then rowS H V (980 + 662 * u + w) else x) = V u w
    rw [if_pos (by omega)]
    unfold rowS
    rw [if_neg (by omega), show (980 + 662 * u + w - 980) / 662 = u by omega, show (980 + 662 * u + w - 980) % 662 = w by omega]
/-- begins() and more -/
theorem XBk_b (hp : PA p) (hc : c ≤ 6) (h4 : H 0 = nI n) : XBk p c n X H V (qBX p c (qX0 X) H V) := by
  refine ⟨fun t h1 h2 => (qBX_t hp hc (by omega) (by omega)).trans (u2_n1 (by omega)), fun j hj => (qBX_f hp hc (by omega) (by omega) (by omega)).trans (u2_n2 (by omega)), ?_, qBX_4.trans h4, fun q hq => ?_⟩
  · rw [qBX_3 hp hc]
    congr 1
    by_cases z : c = 6
    · rw [if_pos z, if_neg (by omega)]
    · rw [if_neg z, if_pos (by omega)]
  · have e : qBX p c (qX0 X) H V (3 + q) = qKX p c (qX0 X) (rowS H V) (3 + q) := by
      unfold qBX
      rw [u2_n1 (by omega), u2_n1 (by omega)]
    rw [e]
    unfold qKX qKeep
    have eX : ∀ t, qX0 X (3 + t) = X (3 + t) := fun t => u2_n1 (by omega)
    by_cases z : c = 6
    · rw [if_pos z, u2_n1 (by omega), if_neg (show ¬ c < 6 by omega), u1_x]
      by_cases z2 : q = p 0
      · rw [if_pos (by omega), if_pos z2, eX, z2]
      · rw [if_neg (by omega), if_neg z2, eX]
    · rw [if_neg z, u2_n1 (by omega), if_pos (show c < 6 by omega), u1_x]
      by_cases z2 : q = p c
      · rw [if_pos (by omega), if_pos z2, eX, z2]
      · rw [if_neg (by omega), if_neg z2, eX]
theorem XBk_s (h : XBk p c n X H V X1) {X' : Nat → Nat → Int32} (h1 : ∀ t, (3 ≤ t ∧ t ≤ 8) ∨ (15 ≤ t ∧ t ≤ 17) → X' t = X1 t) (h2 : ∀ j, j = 3 ∨ (14 ≤ j ∧ j ≤ 16) ∨ j = 20 ∨ j = 24 → X' 0 j = X1 0 j) (h4 : X' 0 4 = nI n') : XBk p c n' X H V X' := by
  obtain ⟨a1, a2, a3, a4, a5⟩ := h
  exact ⟨fun t b1 b2 => (h1 t (by omega)).trans (a1 t b1 b2), fun j hj => (h2 j (by omega)).trans (a2 j hj), (h2 3 (by omega)).trans a3, h4, fun q hq => (h1 (3 + q) (by omega)).trans (a5 q hq)⟩
theorem ST_F (h1 : CSK L M) (h2 : BG M i) (h3 : mI M 0 = xs) (h5 : TX M) (h6 : FO M l) (hd : DY M kf fs W n p c e) (hN : N.2.2 = M.2.2) (hNI : ∀ a, a ≠ 103 → mI N a = mI M a) (hNL : mL N = mL M) (hk : KEPT L N M' P e c) (g : CH M' M1) (hRB : RB kf' fs' W' n' (tB M1 2) H' V') (hCT : CT fs' n' V')
    (hX : XBk p c n' (fun t j => mI M (123 + t) j) (mI M 124) (vv M 124) X') (hCU : CU (rN M1 (qKp p c) H' V' X')) : ST L xs (rN M1 (qKp p c) H' V' X') (i + 1) := by
  obtain ⟨d1, d2, d3, d4, d5, d6, d7, d8, d9, d10, d11⟩ := hd
  obtain ⟨k1, k2, k3, k4, k5, k6, k7, k8, k9, k10, k11, k12⟩ := hk
  obtain ⟨g1, g2, g3, g4, g5, g6, g7, g8, g9, g10⟩ := g
  obtain ⟨x1, x2, x3, x4, x5⟩ := hX
  have hn := t_n h1
  have q : mP N = mP M ∧ mN N = mN M ∧ mC N = mC M ∧ mS N = mS M := by
    unfold mP mN mC mS
    rw [hN]; exact ⟨rfl, rfl, rfl, rfl⟩
  have hP := t_pa k1 d4 k2
  have hk1 : CSK L M1 := CSK_cg k1 g5 g6 g7 g8
  let R := rN M1 (qKp p c) H' V' X'
  have ep : mP R 102 = mP M' 102 := (rN_P (by omega)).trans (by rw [g5])
  have eI : ∀ a, a ≤ 1 ∨ a = 104 ∨ a = 106 ∨ a = 117 ∨ 202 ≤ a → mI R a = mI M' a := fun a ha => (rN_I (by omega)).trans (g1 a (by omega))
  have eX0 : ∀ j, mI R 123 j = X' 0 j := fun j => congrFun rN_X0 j
  have eX : ∀ j, (14 ≤ j ∧ j ≤ 16) ∨ j = 20 ∨ j = 24 → mI R 123 j = mI M 123 j := fun j hj => (eX0 j).trans (x2 j hj)
  have eT : ∀ t, 15 ≤ t → t ≤ 17 → mI R (123 + t) = mI M (123 + t) := fun t h1 h2 => (rN_X (by omega) (by omega)).trans (x1 t h1 h2)
  have kM : ∀ a, a ≠ 1 → a ≠ 103 → (a < P ∨ P + 100 ≤ a) → a < mN M → mI M' a = mI M a ∧ mL M' a = mL M a := fun a b1 b2 b3 b4 => by
    obtain ⟨c1, c2⟩ := k6 a b1 b3 (by rw [q.2.1]; exact b4)
    exact ⟨c1.trans (hNI a b2), c2.trans (by rw [hNL])⟩
  have k3' : ∀ j, j ≠ e → mP M' 102 j = mP M 102 j := fun j hj => (k3 j hj).trans (by rw [q.1])
  refine ⟨CSK_rN hk1, ⟨?_, ?_⟩, ?_, hCU, TX_fr h5 ?_ ?_ (eX 20 (by omega)) (eT 16 (by omega) (by omega)), ⟨l, FO_fr h6 ?_ ?_ (eX 24 (by omega)) (eT 17 (by omega) (by omega))⟩, kf', fs', W', n', qKp p c, (if c < 6 then c + 1 else 6), (if e + 1 < 6 then e + 1 else 0), fun j => rN_P5, PA.kp d2, by split <;> omega, by split <;> omega, (eX0 3).trans x3, (eX0 4).trans x4, ?_, ?_, ?_, ?_, CT_cg hCT rN_HV⟩
  · show mC M1 + 100 * nnP (mP R 102) ≤ _
    rw [ep]
    have := h2.1
    rw [q.1, q.2.2.1] at k11
    omega
  · show mS M1 + 4314 * nnP (mP R 102) ≤ _
    rw [ep]
    have := h2.2
    rw [q.1, q.2.2.2] at k12
    omega
  · rw [eI 0 (by omega), (kM 0 (by omega) (by omega) (by omega) (by omega)).1]
    exact h3
  · refine (congrFun (rN_I (by omega)) 1).trans (g2.trans ?_)
    rw [(kM 105 (by omega) (by omega) (by omega) (by omega)).1]
  · rw [eI 106 (by omega), (kM 106 (by omega) (by omega) (by omega) (by omega)).1]
  · refine (congrFun (rN_I (by omega)) 1).trans (g3.trans ?_)
    rw [(kM 116 (by omega) (by omega) (by omega) (by omega)).1]
  · rw [eI 117 (by omega), (kM 117 (by omega) (by omega) (by omega) (by omega)).1]
  · exact (congrFun (eI 1 (by omega)) 2).trans k7
  · exact (congrFun (eI 1 (by omega)) 3).trans k8
  · exact RB_cg hRB (tB_o fun a a1 a2 => ⟨rN_I (by omega), rfl⟩) rN_HV
  · -- the ring
    have hpq : ∀ j, j < 6 → p j < 6 := d2.1
    have hcp : (if c < 6 then p c else p 0) < 6 := by split <;> exact hpq _ (by omega)
    have oldb : ∀ i', i' < c → slt e c i' ≠ e → p i' ≠ (if c < 6 then p c else p 0) → ∃ Q, mP R 102 (slt e c i') = some Q ∧ ∃ kf fs W n, RB kf fs W n (tB R Q) (mI R (126 + p i')) (vv R (126 + p i')) ∧ CT fs n (vv R (126 + p i')) := by
      intro i' hi' hse hpi
      obtain ⟨Q, q1, kf, fs, W, n, q2, q3⟩ := d10 i' hi'
      have hQ := t_pa h1 slt_lt q1
      have q1' : mP M' 102 (slt e c i') = some Q := (k3' _ hse).trans q1
      have dis := t_pd k1 slt_lt d4 hse q1' k2
      refine ⟨Q, by rw [ep]; exact q1', kf, fs, W, n, ?_⟩
      have e3 : mI R (126 + p i') = mI M (126 + p i') := by
        have := (rN_X (M := M1) (p := qKp p c) (H := H') (V := V') (X := X') (t := 3 + p i') (by omega) (by have := hpq i' (by omega); omega)).trans ((x5 (p i') (hpq i' (by omega))).trans (if_neg hpi))
        have e9 : 123 + (3 + p i') = 126 + p i' := by omega
        rw [e9] at this
        refine this.trans ?_
        show mI M (123 + (3 + p i')) = _
        rw [e9]
      rw [e3, vv_cg e3]
      refine ⟨RB_cg q2 (tB_o fun a a1 a2 => ?_) vv_rw, q3⟩
      have := kM a (by omega) (by omega) (by omega) (by omega)
      exact ⟨(eI a (by omega)).trans this.1, (g4 a (by omega)).trans this.2⟩
    have newb : ∃ kf fs W n, RB kf fs W n (tB R P) (mI R (126 + (if c < 6 then p c else p 0))) (vv R (126 + (if c < 6 then p c else p 0))) ∧ CT fs n (vv R (126 + (if c < 6 then p c else p 0))) := by
      refine ⟨kf, fs, W, n, ?_⟩
      have e3 := (rN_X (M := M1) (p := qKp p c) (H := H') (V := V') (X := X') (t := 3 + (if c < 6 then p c else p 0)) (by omega) (by omega)).trans ((x5 _ hcp).trans (if_pos rfl))
      rw [show 123 + (3 + (if c < 6 then p c else p 0)) = 126 + (if c < 6 then p c else p 0) by omega] at e3
      have hB2 : BEq (tB M 2) (tB R P) := by
        refine BEq.tr (tB_o fun a a1 a2 => ?_) (k5.tr (tB_o fun a a1 a2 => ⟨eI a (by omega), g4 a (by omega)⟩))
        exact ⟨hNI a (by omega), by rw [hNL]⟩
      have e4 : vv R (126 + (if c < 6 then p c else p 0)) = fun u w => (fun i => if i < 12896 then rowS (mI M 124) (vv M 124) i else mI M (123 + (3 + (if c < 6 then p c else p 0))) i) (980 + 662 * u + w) := by
        unfold vv
        rw [show mI R (126 + (if c < 6 then p c else p 0)) = _ from e3]
        rfl
      rw [show mI R (126 + (if c < 6 then p c else p 0)) = _ from e3, e4]
      have hh : HEq' (mI M 124) (fun i => if i < 12896 then rowS (mI M 124) (vv M 124) i else mI M (123 + (3 + (if c < 6 then p c else p 0))) i) (vv M 124) (fun u w => (fun i => if i < 12896 then rowS (mI M 124) (vv M 124) i else mI M (123 + (3 + (if c < 6 then p c else p 0))) i) (980 + 662 * u + w)) := by
        refine ⟨fun j hj => ?_, fun u hu w hw => ?_⟩
        · show (if j < 12896 then rowS (mI M 124) (vv M 124) j else _) = _
          rw [if_pos (by omega)]
          exact if_pos hj
        · show (if 980 + 662 * u + w < 12896 then rowS (mI M 124) (vv M 124) (980 + 662 * u + w) else _) = _
          rw [if_pos (by omega)]
          unfold rowS
          rw [if_neg (by omega), show (980 + 662 * u + w - 980) / 662 = u by omega, show (980 + 662 * u + w - 980) % 662 = w by omega]
      exact ⟨RB_cg d9 hB2 hh, CT_cg d11 hh⟩
    show RGk R (qKp p c) (if c < 6 then c + 1 else 6) (if e + 1 < 6 then e + 1 else 0)
    intro i' hi'
    by_cases hc6 : c < 6
    · rw [if_pos hc6] at hi' newb oldb ⊢
      have ekp : qKp p c = p := by unfold qKp; rw [if_neg (by omega)]
      rw [ekp]
      by_cases z : i' = c
      · subst z
        have es : slt (if e + 1 < 6 then e + 1 else 0) (i' + 1) i' = e := by unfold slt; split <;> omega
        rw [es]
        exact ⟨P, by show mP R 102 e = some P; rw [ep]; exact k2, newb⟩
      · have es : slt (if e + 1 < 6 then e + 1 else 0) (c + 1) i' = slt e c i' := by unfold slt; split <;> omega
        rw [es]
        have := oldb i' (by omega) (by unfold slt; omega) (fun q => by have := d2.2 i' c (by omega) hc6 q; omega)
        exact this
    · have ec : c = 6 := by omega
      subst ec
      rw [if_neg hc6] at hi' newb oldb ⊢
      have ekp : qKp p 6 = qRot p := if_pos rfl
      rw [ekp]
      by_cases z : i' = 5
      · subst z
        have es : slt (if e + 1 < 6 then e + 1 else 0) 6 5 = e := by unfold slt; split <;> omega
        have er : qRot p 5 = p 0 := rfl
        rw [es, er]
        exact ⟨P, by show mP R 102 e = some P; rw [ep]; exact k2, newb⟩
      · have es : slt (if e + 1 < 6 then e + 1 else 0) 6 i' = slt e 6 (i' + 1) := by unfold slt; split <;> omega
        have er : qRot p i' = p (i' + 1) := if_pos (by omega)
        rw [es, er]
        have := oldb (i' + 1) (by omega) (by unfold slt; omega) (fun q => by have := d2.2 (i' + 1) 0 (by omega) (by omega) q; omega)
        exact this
/-- a change that closes the cursor -/
theorem ST_G (h : ST L xs M i) (hd : DY M kf fs W n p c e) (hk : KEPT L (clM M) M' P e c) (g : CH M' M1) (g103 : mI M1 103 = mI M' 103) (hRB : RB kf' fs' W' n' (tB M1 2) H' V') (hCT : CT fs' n' V')
    (hX : XBk p c n' (fun t j => mI M (123 + t) j) (mI M 124) (vv M 124) X') (h17 : X' 0 17 = mI M 123 17) (h18 : X' 0 18 = 0) : ST L xs (rN M1 (qKp p c) H' V' X') (i + 1) := by
  obtain ⟨h1, h2, h3, ⟨op, told, ch, m, a, u1, u2, u3, u4, u5, u6, u7, u8, u9, u10, u11, u12⟩, h5, ⟨l, h6⟩, -⟩ := h
  have hn := t_n h1
  have hP := t_pa hk.1 hd.2.2.2.1 hk.2.1
  refine ST_F (N := clM M) h1 h2 h3 h5 h6 hd rfl (fun a ha => clM_o ha) rfl hk g hRB hCT hX ?_
  have e103 : mI (rN M1 (qKp p c) H' V' X') 103 = mI (clM M) 103 := (rN_I (by omega)).trans (g103.trans (hk.2.2.2.2.2.1 103 (by omega) (by omega) (by show 103 < mN M; omega)).1)
  have eX0 : ∀ j, mI (rN M1 (qKp p c) H' V' X') 123 j = X' 0 j := fun j => congrFun rN_X0 j
  refine ⟨false, told, ch, m, a, ?_, ?_, ?_, u4, ?_, u6, ?_, ?_, u9, u10, fun _ => ?_, fun z => by cases z⟩
  · rw [e103]; rfl
  · rw [eX0, h18]; rfl
  · rw [eX0, h17]; exact u3
  · rw [eX0, hX.2.1 16 (by omega)]; exact u5
  · rw [eX0, hX.2.1 14 (by omega)]; exact u7
  · rw [eX0, hX.2.1 15 (by omega)]; exact u8
  · rw [e103]; rfl
end Ud
