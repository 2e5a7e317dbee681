/-! CHANGES: the frame -/
section Un
variable {M M' M1 N : LM} {L B D P U i j k t w f n n' c e r a o m ch len lo hi : Nat} {x y v b1 b2 code cache key what rule its greater keys most : Int32} {z : Option (LO × LM)} {b : Bool} {T T' : BT} {kf fs W p kf' fs' W' : Nat → Nat} {xs H H' : Nat → Int32} {V V' X X' X2 : Nat → Nat → Int32} {l : Option (List Nat)} {y64 : Int64} {fL fX fC : LM → Option (LO × LM)} {hl : List (Nat × Int32)} {S Z Z' : CS}
theorem HEq_r : HEq' H H V V := ⟨fun _ _ => rfl, fun _ _ _ _ => rfl⟩
theorem rN_cg (h : ∀ t, t < 77 → t ≠ 1 → X t = X2 t) : rN M p H V X = rN M p H V X2 := by
  unfold rN rG rM
  refine Prod.ext (funext fun b => funext fun j => ?_) rfl
  show (if b = 123 + 1 then _ else if 123 ≤ b ∧ b < 123 + 77 then X (b - 123) j else _) = (if b = 123 + 1 then _ else if 123 ≤ b ∧ b < 123 + 77 then X2 (b - 123) j else _)
  by_cases h1 : b = 123 + 1
  · rw [if_pos h1, if_pos h1]
  · rw [if_neg h1, if_neg h1]
    by_cases h2 : 123 ≤ b ∧ b < 123 + 77
    · rw [if_pos h2, if_pos h2, h (b - 123) (by omega) (by omega)]
    · rw [if_neg h2, if_neg h2]
theorem KE_at (hk : CSK L M) (h : KEPT L N M' P e c) (he : e < 6) (hN : N.2.2 = M.2.2) (hNI : ∀ a, a ≠ 103 → mI N a = mI M a) (hNL : mL N = mL M) (h1 : a ≠ 1) (h2 : a ≠ 103) (h3 : a < 202) : mI M' a = mI M a ∧ mL M' a = mL M a := by
  have hn := t_n hk
  have q : mN N = mN M := by unfold mN; rw [hN]
  have hP := t_pa h.1 he h.2.1
  obtain ⟨c1, c2⟩ := h.2.2.2.2.2.1 a h1 (Or.inl (by omega)) (by omega)
  exact ⟨c1.trans (hNI a h2), c2.trans (by rw [hNL])⟩
theorem KE_B (hk : CSK L M) (h : KEPT L N M' P e c) (he : e < 6) (hN : N.2.2 = M.2.2) (hNI : ∀ a, a ≠ 103 → mI N a = mI M a) (hNL : mL N = mL M) (hB : RB kf fs W n (tB M 2) H V) : RB kf fs W n (tB M' 2) H V :=
  RB_cg hB (tB_o fun a a1 a2 => KE_at hk h he hN hNI hNL (by omega) (by omega) (by omega)) HEq_r
theorem KE_p (hk : CSK L M) (h : KEPT L N M' P e c) (hN : N.2.2 = M.2.2) (hp : ∀ j, mP M 125 j = gP 123 p j) : ∀ j, mP M' 125 j = gP 123 p j := fun j => by
  have hn := t_n hk
  have q : mP N = mP M ∧ mN N = mN M := by unfold mP mN; rw [hN]; exact ⟨rfl, rfl⟩
  rw [h.2.2.2.2.2.2.2.2.1 125 (by omega) (by omega), q.1]
  exact hp j
/-- the reference's memory is there behind the class's change -/
theorem KE_rN (hk : CSK L M) (h : KEPT L N M' P e c) (he : e < 6) (hN : N.2.2 = M.2.2) (hNI : ∀ a, a ≠ 103 → mI N a = mI M a) (hNL : mL N = mL M) (hp : ∀ j, mP M 125 j = gP 123 p j) (g1 : mP M1 = mP M') (g2 : ∀ a, 123 ≤ a → a < 200 → mI M1 a = mI M' a) : rN M1 p (mI M 124) (vv M 124) (xx M) = M1 := by
  have e1 : ∀ a, 123 ≤ a → a < 200 → mI M1 a = mI M a := fun a h1 h2 => (g2 a h1 h2).trans (KE_at hk h he hN hNI hNL (by omega) (by omega) (by omega)).1
  have := rN_id (M := M1) (p := p) (fun j => by rw [g1]; exact KE_p hk h hN hp j)
  rw [e1 124 (by omega) (by omega), vv_cg (e1 124 (by omega) (by omega))] at this
  refine Eq.trans (rN_cg fun t ht _ => ?_) this
  exact (e1 (123 + t) (by omega) (by omega)).symm
theorem CH_b : CH M' (wL (bM M' 2 T') 200 0 y64) := by
  refine ⟨fun a ha => bMo (by omega), congrFun (bMo (M := M') (B := 2) (T := T') (o := 105) (by omega)) 1, congrFun (bMo (M := M') (B := 2) (T := T') (o := 116) (by omega)) 1, fun a ha => ?_, rfl, rfl, rfl, rfl, Nat.le_add_right _ _, Nat.le_add_right _ _⟩
  exact (mL_wL_ne (by omega)).trans (bMoL (by omega))
theorem CH_b0 : CH M' (bM M' 2 T') :=
  ⟨fun a ha => bMo (by omega), congrFun (bMo (M := M') (B := 2) (T := T') (o := 105) (by omega)) 1, congrFun (bMo (M := M') (B := 2) (T := T') (o := 116) (by omega)) 1, fun a ha => bMoL (by omega), rfl, rfl, rfl, rfl, Nat.le_add_right _ _, Nat.le_add_right _ _⟩
theorem XBk_T (hp : PA p) (hc : c ≤ 6) (h4 : H 0 = nI n) (hX : XT (qBX p c (qX0 X) H V) X') (h4' : X' 0 4 = nI n') : XBk p c n' X H V X' :=
  XBk_s (XBk_b hp hc h4) (fun t ht => hX.1 t (by omega) (by omega)) (fun j hj => hX.2 j (by omega) (by omega)) h4'
/-- a change: the class's bench, the reference's row -/
theorem CHG (h : ST L xs M i) (hd : DY M kf fs W n p c e) (hk : KEPT L (clM M) M' P e c) (hRB : RB kf' fs' W' n' T' H' V') (hCT : CT fs' n' V') (hM1 : M1 = bM M' 2 T' ∨ M1 = wL (bM M' 2 T') 200 0 y64)
    (hr : RA M1 123 → fX (rG M1 123 p (mI M 124) (vv M 124) (xx M)) = some (.inl (some (.int v)), rG M1 123 (qKp p c) H' V' X')) (hX : XBk p c n' (xx M) (mI M 124) (vv M 124) X') (h17 : X' 0 17 = mI M 123 17) (h18 : X' 0 18 = 0) :
    fX M1 = some (.inl (some (.int v)), rN M1 (qKp p c) H' V' X') ∧ mI M1 0 = xs ∧ CSK L M1 ∧ ST L xs (rN M1 (qKp p c) H' V' X') (i + 1) := by
  have g : CH M' M1 := by rcases hM1 with rfl | rfl; exact CH_b0; exact CH_b
  have go : ∀ a, a < 2 ∨ 102 ≤ a → mI M1 a = mI M' a := fun a ha => by rcases hM1 with rfl | rfl <;> exact bMo (by omega)
  have gB : BEq T' (tB M1 2) := by
    rcases hM1 with rfl | rfl
    · exact tB_bM
    · exact (tB_bM (M := M') (B := 2)).tr (tB_o fun a h1 h2 => ⟨rfl, mL_wL_ne (by omega)⟩)
  have hk1 : CSK L M1 := CSK_cg hk.1 g.2.2.2.2.1 g.2.2.2.2.2.1 g.2.2.2.2.2.2.1 g.2.2.2.2.2.2.2.1
  have he : e < 6 := hd.2.2.2.1
  have eN := KE_rN (M1 := M1) h.1 hk he rfl (fun a ha => clM_o ha) rfl hd.1 g.2.2.2.2.1 (fun a h1 _ => go a (by omega))
  have r1 := hr (t_r hk1)
  have r2 : fX (rN M1 p (mI M 124) (vv M 124) (xx M)) = some (.inl (some (.int v)), rN M1 (qKp p c) H' V' X') := r1
  rw [eN] at r2
  refine ⟨r2, ?_, hk1, ST_G h hd hk g (go 103 (by omega)) (RB_cg hRB gB HEq_r) hCT hX h17 h18⟩
  rw [go 0 (by omega), (KE_at h.1 hk he rfl (fun a ha => clM_o ha) rfl (by omega) (by omega) (by omega)).1]
  exact h.2.2.1
theorem OKC (h : ST L xs M i) (hd : DY M kf fs W n p c e) (hk : KEPT L (clM M) M' P e c) (hRB : RB kf' fs' W' n' T' H' V') (hCT : CT fs' n' V') (hL : fL M = some (.inl (some (.int 0)), wL (bM M' 2 T') 200 0 (Int32.toInt64 v)))
    (hr : ∀ N, RA N 123 → fX (rG N 123 p (mI M 124) (vv M 124) (xx M)) = some (.inl (some (.int v)), rG N 123 (qKp p c) H' V' X')) (hX : XBk p c n' (xx M) (mI M 124) (vv M 124) X') (h17 : X' 0 17 = mI M 123 17) (h18 : X' 0 18 = 0) (h00 : X' 0 0 = 0) : OK L xs i M fL fX := by
  obtain ⟨a1, a2, a3, a4⟩ := CHG h hd hk hRB hCT (Or.inr rfl) (hr _) hX h17 h18
  exact ⟨0, v, _, _, hL, a1, a2, a3, (congrFun rN_X0 0).trans h00, fun _ => out_v (M1 := bM M' 2 T'), a4, rfl⟩
theorem OKCd (h : ST L xs M i) (hd : DY M kf fs W n p c e) (hk : KEPT L (clM M) M' P e c) (hRB : RB kf' fs' W' n' T' H' V') (hCT : CT fs' n' V') (hL : fC M = some (.inl (some (.int v)), bM M' 2 T'))
    (hr : ∀ N, RA N 123 → fX (rG N 123 p (mI M 124) (vv M 124) (xx M)) = some (.inl (some (.int v)), rG N 123 (qKp p c) H' V' X')) (hX : XBk p c n' (xx M) (mI M 124) (vv M 124) X') (h17 : X' 0 17 = mI M 123 17) (h18 : X' 0 18 = 0) : OKd L xs i M fC fX := by
  obtain ⟨a1, a2, a3, a4⟩ := CHG (y64 := 0) h hd hk hRB hCT (Or.inl rfl) (hr _) hX h17 h18
  exact ⟨v, _, _, hL, a1, a2, a3, a4⟩
theorem OKCe (h : ST L xs M i) (hd : DY M kf fs W n p c e) (hk : KEPT L (clM M) M' P e c) (hRB : RB kf' fs' W' n' T' H' V') (hCT : CT fs' n' V') (hL : fL M = some (.inl (some (.int 0)), wL (bM M' 2 T') 200 0 (Int32.toInt64 v)))
    (hr : ∀ N, RA N 123 → ∃ X', fX (rG N 123 p (mI M 124) (vv M 124) (xx M)) = some (.inl (some (.int v)), rG N 123 (qKp p c) H' V' X') ∧ XBk p c n' (xx M) (mI M 124) (vv M 124) X' ∧ X' 0 17 = mI M 123 17 ∧ X' 0 18 = 0 ∧ X' 0 0 = 0) : OK L xs i M fL fX := by
  obtain ⟨X', x1, x2, x3, x4, x5⟩ := hr (wL (bM M' 2 T') 200 0 (Int32.toInt64 v)) (t_r (M := wL (bM M' 2 T') 200 0 (Int32.toInt64 v)) hk.1)
  obtain ⟨a1, a2, a3, a4⟩ := CHG h hd hk hRB hCT (Or.inr rfl) (fun _ => x1) x2 x3 x4
  exact ⟨0, v, _, _, hL, a1, a2, a3, (congrFun rN_X0 0).trans x5, fun _ => out_v (M1 := bM M' 2 T'), a4, rfl⟩
theorem OKCde (h : ST L xs M i) (hd : DY M kf fs W n p c e) (hk : KEPT L (clM M) M' P e c) (hRB : RB kf' fs' W' n' T' H' V') (hCT : CT fs' n' V') (hL : fC M = some (.inl (some (.int v)), bM M' 2 T'))
    (hr : ∀ N, RA N 123 → ∃ X', fX (rG N 123 p (mI M 124) (vv M 124) (xx M)) = some (.inl (some (.int v)), rG N 123 (qKp p c) H' V' X') ∧ XBk p c n' (xx M) (mI M 124) (vv M 124) X' ∧ X' 0 17 = mI M 123 17 ∧ X' 0 18 = 0) : OKd L xs i M fC fX := by
  obtain ⟨X', x1, x2, x3, x4⟩ := hr (bM M' 2 T') (t_r (M := bM M' 2 T') hk.1)
  obtain ⟨a1, a2, a3, a4⟩ := CHG (y64 := 0) h hd hk hRB hCT (Or.inl rfl) (fun _ => x1) x2 x3 x4
  exact ⟨v, _, _, hL, a1, a2, a3, a4⟩
/-- what begins() does, from the state -/
theorem C_b (h : ST L xs M i) (hd : DY M kf fs W n p c e) (d : Nat) : ∃ M' P, f_X10_beginChange (d + 7) M 1 = some (.inl none, M') ∧ KEPT L (clM M) M' P e c ∧ CSK L M' ∧ bA M' 2 ∧ bM M' 2 (tB M' 2) = M' ∧ RB kf fs W n (tB M' 2) (mI M 124) (vv M 124) := by
  obtain ⟨M', P, a1, a2⟩ := k_begin d h.1 hd.2.2.2.2.2.2.1 hd.2.2.2.1 hd.2.2.2.2.2.2.2.1 hd.2.2.1
  exact ⟨M', P, a1, a2, a2.1, t_b a2.1, bM_id, KE_B h.1 a2 hd.2.2.2.1 rfl (fun a ha => clM_o ha) rfl hd.2.2.2.2.2.2.2.2.1⟩
theorem qBX_17 (hp : PA p) (hc : c ≤ 6) : qBX p c (qX0 (xx M)) H V 0 17 = mI M 123 17 := (qBX_f hp hc (by omega) (by omega) (by omega)).trans (u2_n2 (by omega))
theorem qBX_0 (hp : PA p) (hc : c ≤ 6) : qBX p c (qX0 X) H V 0 0 = 0 := (qBX_f hp hc (by omega) (by omega) (by omega)).trans qX0_0
end Un
