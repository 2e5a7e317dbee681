/-! THE STATE between calls -/
/-- the cursor: closed; or open, at the same place of the same keys -/
def CU (M : LM) : Prop := ∃ (op : Bool) (told : Option Nat) (ch m a : Nat), mI M 103 0 = bI op ∧ mI M 123 18 = bI op ∧ mI M 123 17 = oI told ∧ (∀ k, told = some k → k < 26) ∧ mI M 123 16 = nI ch ∧ ch < 6 ∧ mI M 123 14 = nI m ∧ mI M 123 15 = nI a ∧ m ≤ 26 ∧ a ≤ m ∧ (op = false → mI M 103 1 = 0) ∧
  (op = true → mI M 103 2 = nI ch ∧ mI M 103 3 = nI m ∧ mI M 103 4 = nI a ∧ (∀ j, j < m → ∃ k, k < 26 ∧ mI M 104 j = nI k ∧ mI M 138 j = nI k) ∧ mI M 103 1 = bI (decide (told ≠ none)) ∧ ∀ k, told = some k → 1 ≤ a ∧ mI M 104 (a - 1) = nI k)
/-- the text -/
def TX (M : LM) : Prop := ∃ len, len ≤ 200 ∧ mI M 105 1 = nI len ∧ mI M 123 20 = nI len ∧ mI M 139 = mI M 106
/-- the row that was found -/
def FO (M : LM) : Option (List Nat) → Prop
  | none => mI M 123 24 = 0 ∧ mI M 116 1 = -1
  | some l => mI M 123 24 = nI l.length ∧ l.length ≤ 12 ∧ mI M 116 1 = nI l.length ∧ ∀ i, i < l.length → mI M 140 i = nI (l.getD i 0) ∧ mI M 117 i = nI (l.getD i 0)
/-- hits and misses are the requests with which a cache was fed -/
def CT (fs : Nat → Nat) (n : Nat) (V : Nat → Nat → Int32) : Prop := ∀ c, c < 6 → ∃ a b, V c 12 = nI a ∧ V c 13 = nI b ∧ a + b = n - fs c
def slt (e c i : Nat) : Nat := (e + 6 + i - c) % 6
/-- the benches kept for undo, the oldest first -/
def RGk (M : LM) (p : Nat → Nat) (c e : Nat) : Prop := ∀ i, i < c → ∃ P, mP M 102 (slt e c i) = some P ∧ ∃ kf fs W n, RB kf fs W n (tB M P) (mI M (126 + p i)) (vv M (126 + p i)) ∧ CT fs n (vv M (126 + p i))
/-- room used so far, with what benches may yet be made -/
def BG (M : LM) (i : Nat) : Prop := mC M + 100 * nnP (mP M 102) ≤ 2000 + 2 * i ∧ mS M + 4314 * nnP (mP M 102) ≤ 200000 + 12 * i
def DY (M : LM) (kf fs W : Nat → Nat) (n : Nat) (p : Nat → Nat) (c e : Nat) : Prop :=
  (∀ j, mP M 125 j = gP 123 p j) ∧ PA p ∧ c ≤ 6 ∧ e < 6 ∧ mI M 123 3 = nI c ∧ mI M 123 4 = nI n ∧ mI M 1 2 = nI e ∧ mI M 1 3 = nI c ∧ RB kf fs W n (tB M 2) (mI M 124) (vv M 124) ∧ RGk M p c e ∧ CT fs n (vv M 124)
def ST (L : Nat) (xs : Nat → Int32) (M : LM) (i : Nat) : Prop := CSK L M ∧ BG M i ∧ mI M 0 = xs ∧ CU M ∧ TX M ∧ (∃ l, FO M l) ∧ ∃ kf fs W n p c e, DY M kf fs W n p c e
section Uc
variable {M M' N : LM} {L B D P U i j k t w f n c e r a o : Nat} {x y v b1 b2 : Int32} {z : Option (LO × LM)} {K : LM → Option (LO × LM)} {b : Bool} {T : BT} {kf fs W p : Nat → Nat} {xs H H' : Nat → Int32} {V V' X X' : Nat → Nat → Int32} {l : Option (List Nat)} {y64 : Int64}
theorem CU_fr (h : CU M) (h1 : mI M' 103 = mI M 103) (h2 : mI M' 104 = mI M 104) (h3 : ∀ j, 14 ≤ j → j ≤ 18 → mI M' 123 j = mI M 123 j) (h4 : mI M' 138 = mI M 138) : CU M' := by
  obtain ⟨op, told, ch, m, a, q⟩ := h
  refine ⟨op, told, ch, m, a, ?_⟩
  rw [h1, h2, h4, h3 14 (by omega) (by omega), h3 15 (by omega) (by omega), h3 16 (by omega) (by omega), h3 17 (by omega) (by omega), h3 18 (by omega) (by omega)]
  exact q
theorem TX_fr (h : TX M) (h1 : mI M' 105 1 = mI M 105 1) (h2 : mI M' 106 = mI M 106) (h3 : mI M' 123 20 = mI M 123 20) (h4 : mI M' 139 = mI M 139) : TX M' := by
  obtain ⟨len, q⟩ := h
  refine ⟨len, ?_⟩
  rw [h1, h2, h3, h4]
  exact q
theorem FO_fr (h : FO M l) (h1 : mI M' 116 1 = mI M 116 1) (h2 : mI M' 117 = mI M 117) (h3 : mI M' 123 24 = mI M 123 24) (h4 : mI M' 140 = mI M 140) : FO M' l := by
  cases l with
  | none => exact ⟨h3.trans h.1, h1.trans h.2⟩
  | some l =>
    obtain ⟨a1, a2, a3, a4⟩ := h
    refine ⟨h3.trans a1, a2, h1.trans a3, fun i hi => ?_⟩
    rw [h4, h2]
    exact a4 i hi
theorem CT_cg (h : CT fs n V) (g : HEq' H H' V V') : CT fs n V' := fun c hc => by
  obtain ⟨a, b, h1, h2, h3⟩ := h c hc
  exact ⟨a, b, (g.2 c (by omega) 12 (by omega)).trans h1, (g.2 c (by omega) 13 (by omega)).trans h2, h3⟩
theorem vv_cg {a b : Nat} (h : mI M' a = mI M b) : vv M' a = vv M b := by unfold vv; rw [h]
theorem slt_lt : slt e c i < 6 := Nat.mod_lt _ (by decide)
/-! ### the reference's cells -/
/-- the reference's memory put behind another -/
def rN (M : LM) (p : Nat → Nat) (H : Nat → Int32) (V X : Nat → Nat → Int32) : LM := rG M 123 p H V X
theorem rN_id (h : ∀ j, mP M 125 j = gP 123 p j) : rN M p (mI M 124) (vv M 124) (fun t j => mI M (123 + t) j) = M := by
  unfold rN rG
  have e : rP M 123 (gP 123 p) = M := by
    unfold rP
    have : (fun b j => if b = 123 + 2 then gP 123 p j else mP M b j) = mP M := funext fun b => funext fun j => by
      by_cases q : b = 123 + 2
      · rw [if_pos q, q]; exact (h j).symm
      · rw [if_neg q]
    rw [this]
    rfl
  rw [e]
  exact rM_id
theorem rN_I (h : a < 123 ∨ 200 ≤ a) : mI (rN M p H V X) a = mI M a := funext fun j => by
  show (if a = 123 + 1 then _ else if 123 ≤ a ∧ a < 123 + 77 then _ else mI M a j) = _
  rw [if_neg (by omega), if_neg (by omega)]
theorem rN_X (h : t ≠ 1) (ht : t < 77) : mI (rN M p H V X) (123 + t) = X t := funext fun j => by
  show (if 123 + t = 123 + 1 then _ else if 123 ≤ 123 + t ∧ 123 + t < 123 + 77 then X (123 + t - 123) j else mI M (123 + t) j) = _
  rw [if_neg (by omega), if_pos (by omega), Nat.add_sub_cancel_left]
theorem rN_X0 : mI (rN M p H V X) 123 = X 0 := rN_X (t := 0) (by decide) (by decide)
theorem rN_L : mL (rN M p H V X) = mL M := rfl
theorem rN_P (h : a ≠ 125) : mP (rN M p H V X) a = mP M a := funext fun j => if_neg h
theorem rN_P5 : mP (rN M p H V X) 125 j = gP 123 p j := by
  show (if 125 = 123 + 2 then gP 123 p j else mP M 125 j) = gP 123 p j
  exact if_pos (by decide)
theorem rN_HV : HEq' H (mI (rN M p H V X) 124) V (vv (rN M p H V X) 124) := rM_HV (M := rP M 123 (gP 123 p)) (o := 123)
theorem rN_C : mC (rN M p H V X) = mC M := rfl
theorem rN_S : mS (rN M p H V X) = mS M := rfl
theorem rN_N : mN (rN M p H V X) = mN M := rfl
theorem CSK_rN (h : CSK L M) : CSK L (rN M p H V X) := by
  have sm : ∀ lo hi, (hi ≤ 125 ∨ 126 ≤ lo) → SM M (rN M p H V X) lo hi := fun lo hi h1 a h2 h3 => ⟨rfl, rfl, rN_P (by omega)⟩
  have hr := t_r h
  refine ⟨?_, h.2.1, bA_cg (t_b h) (sm _ _ (by omega)), QA_cg (t_q h) (sm _ _ (by omega)), TA_cg (t_t h) (sm _ _ (by omega)), SA_cg (t_s h) (sm _ _ (by omega)), PA_cg (t_h h) (sm _ _ (by omega)), RA.rp (M := M) (o := 123) (g := gP 123 p) hr, (show mK M 200 = 2 ∧ mZ M 200 = 1 from t_out h), (show mK M 201 = 4 ∧ mZ M 201 = 1 from t_outD h), (show mK M 0 = 9 ∧ mZ M 0 = L from t_sc h), (show 202 ≤ mN M from t_n h), fun j Q hj hq => ?_, fun i j P Q hi hj hij hP hQ => ?_⟩
  · rw [rN_P (by omega)]; exact h.1
  · rw [rN_P (by omega)] at hq
    obtain ⟨g1, g2, g3⟩ := t_pa h hj hq
    exact ⟨bA_cg g1 (sm _ _ (by omega)), g2, g3⟩
  · rw [rN_P (by omega)] at hP hQ
    exact t_pd h hi hj hij hP hQ
/-- the ring, where neither its benches nor its rows change -/
theorem RGk_fr (h : RGk M p c e) (hk : CSK L M) (h1 : ∀ i, i < c → mP M' 102 (slt e c i) = mP M 102 (slt e c i)) (h2 : ∀ a, 202 ≤ a → mI M' a = mI M a ∧ mL M' a = mL M a) (h3 : ∀ i, i < c → mI M' (126 + p i) = mI M (126 + p i)) : RGk M' p c e := by
  intro i hi
  obtain ⟨P, g1, kf, fs, W, n, g2, g3⟩ := h i hi
  refine ⟨P, (h1 i hi).trans g1, kf, fs, W, n, ?_⟩
  have hP := (t_pa hk slt_lt g1).2.1
  have e1 : vv M' (126 + p i) = vv M (126 + p i) := vv_cg (h3 i hi)
  rw [h3 i hi, e1]
  exact ⟨RB_cg g2 (tB_o fun a a1 _ => h2 a (by omega)) vv_rw, g3⟩
/-- what may change of the reference's other cells where nothing is told by it -/
def XKp (X X' : Nat → Nat → Int32) : Prop := (∀ t, (3 ≤ t ∧ t ≤ 8) ∨ (15 ≤ t ∧ t ≤ 17) → X' t = X t) ∧ ∀ j, j = 3 ∨ j = 4 ∨ (14 ≤ j ∧ j ≤ 18) ∨ j = 20 ∨ j = 24 → X' 0 j = X 0 j
theorem XKp.rfl' : XKp X X := ⟨fun _ _ => rfl, fun _ _ => rfl⟩
theorem XKp.tr {X2 : Nat → Nat → Int32} (h : XKp X X') (g : XKp X' X2) : XKp X X2 := ⟨fun t ht => (g.1 t ht).trans (h.1 t ht), fun j hj => (g.2 j hj).trans (h.2 j hj)⟩
theorem XKp_0 (h : ¬ (j = 3 ∨ j = 4 ∨ (14 ≤ j ∧ j ≤ 18) ∨ j = 20 ∨ j = 24)) : XKp X (u2 X 0 j v) := ⟨fun t ht => u2_n1 (by omega), fun i hi => u2_n2 (fun q => by rw [q] at hi; exact h hi)⟩
theorem XKp_t (ht0 : t ≠ 0) (h : ¬ ((3 ≤ t ∧ t ≤ 8) ∨ (15 ≤ t ∧ t ≤ 17))) : XKp X (u2 X t j v) := ⟨fun i hi => u2_n1 (fun q => by rw [q] at hi; exact h hi), fun i _ => by rw [u2_n1 (Ne.symm ht0)]⟩
theorem XKp_X0 : XKp X (qX0 X) := XKp_0 (by decide)
theorem XKp_Xe : XKp X (qXe X v) := XKp_X0.tr (XKp_0 (by decide))
theorem XKp_o (h : XO X X') : XKp X X' := ⟨fun t ht => h.1 t (by omega) (by omega), fun j hj => h.2 j (by omega) (by omega)⟩
theorem XKp_s (h : XS X X') : XKp X X' := XKp_o (XO.of h)
theorem XKp_q (h : XQ X X') : XKp X X' := ⟨fun t ht => h.1 t (by omega) (by omega) (by omega), fun j hj => h.2 j (by omega) (by omega)⟩
/-- the class's live cells -/
def LV (M M' : LM) : Prop := (∀ a, a ≤ 104 ∨ a = 106 ∨ a = 117 ∨ 123 ≤ a → mI M' a = mI M a) ∧ mI M' 105 1 = mI M 105 1 ∧ mI M' 116 1 = mI M 116 1 ∧ (∀ a, a ≤ 104 ∨ 202 ≤ a → mL M' a = mL M a) ∧ mP M' = mP M ∧ mK M' = mK M ∧ mZ M' = mZ M ∧ mN M' = mN M ∧ mC M' ≤ mC M + 2 ∧ mS M' ≤ mS M + 12
theorem LV.rfl' : LV M M := ⟨fun _ _ => rfl, rfl, rfl, fun _ _ => rfl, rfl, rfl, rfl, rfl, Nat.le_add_right _ _, Nat.le_add_right _ _⟩
theorem LV_exn : LV M (aExn M) := ⟨fun _ _ => rfl, rfl, rfl, fun _ _ => rfl, rfl, rfl, rfl, rfl, by show mC M + 1 ≤ _; omega, by show mS M + 6 ≤ _; omega⟩
theorem LV_out (h : LV M M') : LV M (wL M' 200 0 y64) := ⟨h.1, h.2.1, h.2.2.1, fun a ha => (mL_wL_ne (by omega)).trans (h.2.2.2.1 a ha), h.2.2.2.2⟩
theorem LV_outD {y : UInt64} (h : LV M M') : LV M (wD M' 201 0 y) := h
theorem CSK_lv (h : CSK L M) (g : LV M M') : CSK L M' := by
  obtain ⟨-, -, -, -, g1, g2, g3, g4, -, -⟩ := g
  have sm : ∀ lo hi, SM M M' lo hi := fun lo hi a _ _ => by rw [g1, g2, g3]; exact ⟨rfl, rfl, rfl⟩
  refine ⟨by rw [g1, g2]; exact h.1, by rw [g2, g3]; exact h.2.1, bA_cg (t_b h) (sm _ _), QA_cg (t_q h) (sm _ _), TA_cg (t_t h) (sm _ _), SA_cg (t_s h) (sm _ _), PA_cg (t_h h) (sm _ _), RA_cg (t_r h) (sm _ _), by rw [g2, g3]; exact t_out h, by rw [g2, g3]; exact t_outD h, by rw [g2, g3]; exact t_sc h, by rw [g4]; exact t_n h, fun j Q hj hq => ?_, fun i j P Q hi hj hij hP hQ => ?_⟩
  · rw [g1] at hq
    obtain ⟨a1, a2, a3⟩ := t_pa h hj hq
    exact ⟨bA_cg a1 (sm _ _), a2, by rw [g4]; exact a3⟩
  · rw [g1] at hP hQ
    exact t_pd h hi hj hij hP hQ
/-- the state behind a call that tells nothing by its cells -/
theorem ST_A (h : ST L xs M i) (g : LV M M') (hp : ∀ j, mP M 125 j = gP 123 p j) (hX : XKp (fun t j => mI M (123 + t) j) X') : ST L xs (rN M' p (mI M 124) (vv M 124) X') (i + 1) := by
  obtain ⟨h1, h2, h3, h4, h5, ⟨l, h6⟩, kf, fs, W, n, p', c, e, d1, d2, d3, d4, d5, d6, d7, d8, d9, d10, d11⟩ := h
  have hk := CSK_lv h1 g
  obtain ⟨g1, g2, g3, g4, g5, g6, g7, g8, g9, g10⟩ := g
  have ep : mP (rN M' p (mI M 124) (vv M 124) X') 102 = mP M 102 := (rN_P (by omega)).trans (by rw [g5])
  have eI : ∀ a, a ≤ 104 ∨ a = 106 ∨ a = 117 ∨ 200 ≤ a → mI (rN M' p (mI M 124) (vv M 124) X') a = mI M a := fun a ha => (rN_I (by omega)).trans (g1 a (by omega))
  have eX : ∀ j, j = 3 ∨ j = 4 ∨ (14 ≤ j ∧ j ≤ 18) ∨ j = 20 ∨ j = 24 → mI (rN M' p (mI M 124) (vv M 124) X') 123 j = mI M 123 j := fun j hj => (congrFun rN_X0 j).trans (hX.2 j hj)
  have eT : ∀ t, (3 ≤ t ∧ t ≤ 8) ∨ (15 ≤ t ∧ t ≤ 17) → mI (rN M' p (mI M 124) (vv M 124) X') (123 + t) = mI M (123 + t) := fun t ht => (rN_X (by omega) (by omega)).trans (hX.1 t ht)
  have epp : ∀ j, j < 6 → p' j = p j := fun j hj => by
    have q := (d1 j).symm.trans (hp j)
    rw [gP_lt hj, gP_lt hj] at q
    have := Option.some.inj q
    omega
  refine ⟨CSK_rN hk, ⟨?_, ?_⟩, (eI 0 (by omega)).trans h3, CU_fr h4 (eI 103 (by omega)) (eI 104 (by omega)) (fun j a b => eX j (by omega)) (eT 15 (by omega)), TX_fr h5 ((congrFun (rN_I (by omega)) 1).trans g2) (eI 106 (by omega)) (eX 20 (by omega)) (eT 16 (by omega)), ⟨l, FO_fr h6 ((congrFun (rN_I (by omega)) 1).trans g3) (eI 117 (by omega)) (eX 24 (by omega)) (eT 17 (by omega))⟩, kf, fs, W, n, p, c, e, fun j => rN_P5, ?_, d3, d4, (eX 3 (by omega)).trans d5, (eX 4 (by omega)).trans d6, (congrFun (eI 1 (by omega)) 2).trans d7, (congrFun (eI 1 (by omega)) 3).trans d8, ?_, ?_, CT_cg d11 rN_HV⟩
  · rw [ep, rN_C]; have := h2.1; omega
  · rw [ep, rN_S]; have := h2.2; omega
  · exact ⟨fun j hj => by rw [← epp j hj]; exact d2.1 j hj, fun i j hi hj => by rw [← epp i hi, ← epp j hj]; exact d2.2 i j hi hj⟩
  · refine RB_cg d9 (tB_o fun a a1 a2 => ⟨eI a (by omega), ?_⟩) rN_HV
    rw [rN_L]; exact g4 a (by omega)
  · intro i hi
    obtain ⟨P, q1, kf, fs, W, n, q2, q3⟩ := d10 i hi
    have hP := (t_pa h1 slt_lt q1).2.1
    have hpi : p i < 6 := by rw [← epp i (by omega)]; exact d2.1 i (by omega)
    have e3 := eT (3 + p i) (by omega)
    rw [show 123 + (3 + p i) = 126 + p i by omega] at e3
    have e4 : vv (rN M' p (mI M 124) (vv M 124) X') (126 + p i) = vv M (126 + p i) := vv_cg e3
    refine ⟨P, by rw [ep]; exact q1, kf, fs, W, n, ?_⟩
    rw [e3, e4]
    rw [epp i (by omega)] at q2 q3
    refine ⟨RB_cg q2 (tB_o fun a a1 _ => ⟨eI a (by omega), ?_⟩) vv_rw, q3⟩
    rw [rN_L]; exact g4 a (by omega)
end Uc
