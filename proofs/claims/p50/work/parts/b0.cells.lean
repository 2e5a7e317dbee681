/-! THE CLASS'S CELLS: its object 2, its bench 3, the past 103, the cursor 104, the text 106, the study 112, the search 117; all else from 124 on (from whole's rows, renumbered by wip/p50/mkb0.py) -/
def CSK (M : LM) : Prop :=
  (mK M 2 = 26 ∧ mP M 2 0 = some 3 ∧ mP M 2 1 = some 103 ∧ mP M 2 4 = some 104 ∧ mP M 2 6 = some 112 ∧ mP M 2 7 = some 117) ∧ (mK M 103 = 5 ∧ mZ M 103 = 6) ∧ bA M 3 ∧ QA M 104 ∧ SA M 112 ∧ PA' M 117 ∧
  124 ≤ mN M ∧ (∀ j P, j < 6 → mP M 103 j = some P → bA M P ∧ 124 ≤ P ∧ P + 100 ≤ mN M) ∧ ∀ i j P Q, i < 6 → j < 6 → i ≠ j → mP M 103 i = some P → mP M 103 j = some Q → P + 100 ≤ Q ∨ Q + 100 ≤ P
section Ub
variable {M M' N : LM} {B D P U i j k t w f n c e r a o : Nat} {x y v b1 b2 : Int32} {z : Option (LO × LM)} {K : LM → Option (LO × LM)} {b : Bool} {T : BT}
theorem t_ck (h : CSK M) : lt_ck M 2 26 z = z := lt_ck_t h.1.1
theorem t_p0 (h : CSK M) : mP M 2 0 = some 3 := h.1.2.1
theorem t_p1 (h : CSK M) : mP M 2 1 = some 103 := h.1.2.2.1
theorem t_p4 (h : CSK M) : mP M 2 4 = some 104 := h.1.2.2.2.1
theorem t_p6 (h : CSK M) : mP M 2 6 = some 112 := h.1.2.2.2.2.1
theorem t_p7 (h : CSK M) : mP M 2 7 = some 117 := h.1.2.2.2.2.2
theorem t_past (h : CSK M) : mK M 103 = 5 ∧ mZ M 103 = 6 := h.2.1
theorem t_b (h : CSK M) : bA M 3 := h.2.2.1
theorem t_q (h : CSK M) : QA M 104 := h.2.2.2.1
theorem t_s (h : CSK M) : SA M 112 := h.2.2.2.2.1
theorem t_h (h : CSK M) : PA' M 117 := h.2.2.2.2.2.1
theorem t_n (h : CSK M) : 124 ≤ mN M := h.2.2.2.2.2.2.1
theorem t_pa (h : CSK M) (hj : j < 6) (e : mP M 103 j = some P) : bA M P ∧ 124 ≤ P ∧ P + 100 ≤ mN M := h.2.2.2.2.2.2.2.1 j P hj e
theorem t_pd (h : CSK M) (hi : i < 6) (hj : j < 6) (hij : i ≠ j) {Q : Nat} (e : mP M 103 i = some P) (e' : mP M 103 j = some Q) : P + 100 ≤ Q ∨ Q + 100 ≤ P := h.2.2.2.2.2.2.2.2 i j P Q hi hj hij e e'
/-! ### what the class's methods ask of the cells -/
theorem t_ckB (h : CSK M) : lt_ck M 3 16 z = z := lt_ck_t (t_b h).1
theorem t_B0 (h : CSK M) : mP M 3 0 = some 4 := (t_b h).2.1
theorem t_B1 (h : CSK M) : mP M 3 1 = some 8 := (t_b h).2.2.1
theorem t_kA (h : CSK M) : kA M 4 5 6 7 := (t_b h).2.2.2.2.2.1
theorem t_ckK (h : CSK M) : lt_ck M 4 19 z = z := lt_ck_t (t_kA h).1
theorem t_K0 (h : CSK M) : mP M 4 0 = some 5 := (t_kA h).2.1
theorem t_K1 (h : CSK M) : mP M 4 1 = some 6 := (t_kA h).2.2.1
theorem t_K2 (h : CSK M) : mP M 4 2 = some 7 := (t_kA h).2.2.2.1
theorem t_RW (h : CSK M) : RW M 8 := (t_b h).2.2.2.2.2.2.1
theorem t_ckR (h : CSK M) : lt_ck M 8 20 z = z := lt_ck_t (t_RW h).1
theorem t_R0 (h : CSK M) : mP M 8 0 = some 9 := (t_RW h).2.1
theorem t_R1 (h : CSK M) : mP M 8 1 = some 10 := (t_RW h).2.2.1
theorem t_R2 (h : CSK M) : mP M 8 2 = some 11 := (t_RW h).2.2.2.1
theorem t_cA (h : CSK M) (hi : i < 6) : cA M (cc 3 i) := ((t_b h).2.2.2.2.2.2.2.2.2 i hi).2
theorem t_ckC (h : CSK M) (hi : i < 6) : lt_ck M (cc 3 i) 17 z = z := lt_ck_t (t_cA h hi).1.1
theorem t_cache (d : Nat) (h : CSK M) (hi : i < 6) : f_X0_cache (d + 1) M 3 (nI i) = some (.inl (some (.ref (cc 3 i))), M) := by
  have := b_cache (M := M) (B := 3) (T := tB M 3) d (t_b h) hi
  rwa [bM_id] at this
theorem t_KO (h : CSK M) (hi : i < 6) : KO M (cc 3 i) 4 := by
  have := bKO (M := M) (B := 3) (T := tB M 3) (t_b h) hi
  rwa [bM_id] at this
theorem t_al (h : CSK M) : lt_al M 103 z = z := lt_al_t (by have := (t_past h).1; omega)
theorem t_aa (h : CSK M) (hj : j < 6) : lt_aa M 103 (nI j) z = z := by
  have h1 := (t_past h).1
  have h2 := (t_past h).2
  unfold lt_aa
  rw [if_pos ⟨by omega, by rw [h2]; exact lt_iI hj (by omega)⟩]
theorem z_req (d : Nat) (h : CSK M) (hl : mI M 8 3 = nI n) (hn : n ≤ 300) : f_X10_checkRequest (d + 1) M 2 x = if qIn x 0 (nI n - 1) = true then some (.inl none, M) else some (.inr 0, aExn M) := by
  have e : (x < nI n) ↔ ¬ nI n - 1 < x := by
    rw [Int32.lt_iff_toInt_lt, Int32.lt_iff_toInt_lt, nI_m hn, lt_iT (by omega)]; omega
  rw [e_X10_checkRequest, t_ck h, t_p0 h, x_rf, t_ckB h, t_B1 h, x_rf, t_ckR h, hl]
  by_cases q : qIn x 0 (nI n - 1) = true
  · obtain ⟨q1, q2⟩ := qIn_i.mp q
    rw [if_pos q, if_neg q1, if_pos (e.mpr q2)]
  · rw [if_neg q]
    by_cases q1 : x < 0
    · rw [if_pos q1]
    · rw [if_neg q1, if_neg (fun z => q (qIn_i.mpr ⟨q1, e.mp z⟩))]
theorem z_takes (d : Nat) (h : CSK M) (hl : mI M 8 3 = nI n) : f_X10_checkRowTakes (d + 1) M 2 x = if 300 - nI n < x then some (.inr 2, aExn M) else some (.inl none, M) := by
  rw [e_X10_checkRowTakes, t_ck h, t_p0 h, x_rf, t_ckB h, t_B1 h, x_rf, t_ckR h, hl]
/-! ### all kept for undo -/
def KEPT (M M' : LM) (P e c : Nat) : Prop :=
  CSK M' ∧ mP M' 103 e = some P ∧ (∀ j, j ≠ e → mP M' 103 j = mP M 103 j) ∧ (∀ Q, mP M 103 e = some Q → Q = P) ∧ BEq (tB M 3) (tB M' P) ∧ (∀ a, a ≠ 2 → (a < P ∨ P + 100 ≤ a) → a < mN M → mI M' a = mI M a ∧ mL M' a = mL M a) ∧
  mI M' 2 2 = nI (if e + 1 < 6 then e + 1 else 0) ∧ mI M' 2 3 = nI (if c < 6 then c + 1 else 6) ∧ (∀ a, a < mN M → a ≠ 103 → mP M' a = mP M a) ∧ mN M ≤ mN M' ∧ mC M' + 100 * nnP (mP M' 103) ≤ mC M + 100 * nnP (mP M 103) ∧ mS M' + 4314 * nnP (mP M' 103) ≤ mS M + 4314 * nnP (mP M 103) ∧ (∀ a, a < mN M → mK M' a = mK M a ∧ mZ M' a = mZ M a) ∧ (mP M 103 e = some P ∨ mN M ≤ P)
/-- the copy, the end of the past, its length -/
theorem k_keep_54 (d : Nat) (h : CSK M) (hP : bA M P) (h2 : 124 ≤ P) (he : e < 6) (hc : mI M 2 3 = nI c) (hc6 : c ≤ 6) : ∃ M', f_X10_keepForUndo_54 (d + 5) M 2 (nI e) P = some (.inl none, M') ∧ M'.2.2 = M.2.2 ∧ BEq (tB M 3) (tB M' P) ∧ (∀ a, a ≠ 2 → (a < P ∨ P + 100 ≤ a) → mI M' a = mI M a ∧ mL M' a = mL M a) ∧ mI M' 2 2 = nI (if e + 1 < 6 then e + 1 else 0) ∧ mI M' 2 3 = nI (if c < 6 then c + 1 else 6) := by
  have cp := b_copyBench (M := M) (B := P) (D := 3) (T := tB M P) d hP (t_b h) (by omega)
  rw [bM_id] at cp
  let N := bM M P (kCpB (tB M P) (tB M 3))
  have hN : CSK N := h
  have e1 : nI e + 1 = nI (e + 1) := lt_iA (j := e) (k := 1)
  have e2 : (nI (e + 1) < (6 : Int32)) ↔ e + 1 < 6 := lt_iL (j := e + 1) (k := 6) (by omega) (by omega)
  have n13 : mI N 2 3 = nI c := by
    have : mI N 2 = mI M 2 := bMo (by omega)
    rw [this]; exact hc
  have c1 : nI c + 1 = nI (c + 1) := lt_iA (j := c) (k := 1)
  have c2 : (nI c < (6 : Int32)) ↔ c < 6 := lt_iL (j := c) (k := 6) (by omega) (by omega)
  have fr : ∀ (v v' : Int32) (N' : LM), N' = wI (wI N 2 2 v) 2 3 v' → N'.2.2 = M.2.2 ∧ BEq (tB M 3) (tB N' P) ∧ (∀ a, a ≠ 2 → (a < P ∨ P + 100 ≤ a) → mI N' a = mI M a ∧ mL N' a = mL M a) ∧ mI N' 2 2 = v ∧ mI N' 2 3 = v' := by
    intro v v' N' hN'
    subst hN'
    refine ⟨rfl, ?_, fun a h1 h2 => ⟨?_, ?_⟩, rfl, rfl⟩
    · refine (kCpB_eq (T := tB M P) (P := tB M 3)).tr ((tB_bM (M := M) (B := P)).tr (tB_o fun a g1 g2 => ⟨?_, rfl⟩))
      rw [mI_wI_ne (by omega), mI_wI_ne (by omega)]
    · rw [mI_wI_ne h1, mI_wI_ne h1]
      exact bMo h2
    · exact bMoL h2
  rw [e_X10_keepForUndo_54, t_ck h, t_p0 h, x_rf, lt_ck_t hP.1, cp, lt_bv_r]
  have kA : ∀ {v : Int32} {z : Option (LO × LM)}, lt_ck (wI N 2 2 v) 2 26 z = z := fun {v z} => t_ck (M := wI N 2 2 v) hN
  have kB : ∀ {v v' : Int32} {z : Option (LO × LM)}, lt_ck (wI (wI N 2 2 v) 2 3 v') 2 26 z = z := fun {v v' z} => t_ck (M := wI (wI N 2 2 v) 2 3 v') hN
  show ∃ M', (if nI e + 1 < 6 then lt_ck N 2 26 (lt_m (wI N 2 2 (nI e + 1)) fun M13 => lt_ck M13 2 26 (if mI M13 2 3 < 6 then (lt_ck M13 2 26 (lt_ck M13 2 26 (lt_m (wI M13 2 3 ((mI M13 2 3) + 1)) fun M15 => some (.inl none, M15)))) else (lt_ck M13 2 26 (lt_m (wI M13 2 3 6) fun M14 => some (.inl none, M14))))) else (lt_ck N 2 26 (lt_m (wI N 2 2 0) fun M10 => lt_ck M10 2 26 (if mI M10 2 3 < 6 then (lt_ck M10 2 26 (lt_ck M10 2 26 (lt_m (wI M10 2 3 ((mI M10 2 3) + 1)) fun M12 => some (.inl none, M12)))) else (lt_ck M10 2 26 (lt_m (wI M10 2 3 6) fun M11 => some (.inl none, M11)))))) : Option (LO × LM)) = some (.inl none, M') ∧ _
  have m13 : ∀ v, mI (wI N 2 2 v) 2 3 = nI c := fun v => n13
  rw [e1]
  by_cases q : e + 1 < 6
  · rw [if_pos (e2.mpr q), t_ck hN, x_m, kA, m13, if_pos q]
    by_cases q2 : c < 6
    · rw [if_pos (c2.mpr q2), kA, kA, x_m, if_pos q2, c1]
      exact ⟨_, rfl, fr _ _ _ rfl⟩
    · rw [if_neg (fun z => q2 (c2.mp z)), kA, x_m, if_neg q2]
      exact ⟨_, rfl, fr _ _ _ rfl⟩
  · rw [if_neg (fun z => q (e2.mp z)), t_ck hN, x_m, kA, m13, if_neg q]
    by_cases q2 : c < 6
    · rw [if_pos (c2.mpr q2), kA, kA, x_m, if_pos q2, c1]
      exact ⟨_, rfl, fr _ _ _ rfl⟩
    · rw [if_neg (fun z => q2 (c2.mp z)), kA, x_m, if_neg q2]
      exact ⟨_, rfl, fr _ _ _ rfl⟩
theorem CSK_c (h : CSK M) (e : M'.2.2 = M.2.2) : CSK M' := by
  obtain ⟨f, g, r⟩ := M
  obtain ⟨f', g', r'⟩ := M'
  have e' : r' = r := e
  subst e'
  exact h
theorem k_keep (d : Nat) (h : CSK M) (he : mI M 2 2 = nI e) (he6 : e < 6) (hc : mI M 2 3 = nI c) (hc6 : c ≤ 6) : ∃ M' P, f_X10_keepForUndo (d + 6) M 2 = some (.inl none, M') ∧ KEPT M M' P e c := by
  have l0 : ¬ nI e < 0 := lt_neg (by omega)
  have hz : nI (mZ M 103) = 6 := by rw [(t_past h).2]; rfl
  have l6 : nI e < (6 : Int32) := (lt_iL (j := e) (k := 6) (by omega) (by omega)).mpr he6
  rw [e_X10_keepForUndo, t_ck h, he, if_neg l0, t_ck h, t_ck h, t_p1 h, x_rf, t_al h, hz, if_pos l6, t_ck h, e_X10_keepForUndo_27, t_ck h, t_p1 h, x_rf, t_aa h he6, lt_iN (by omega)]
  cases hp : mP M 103 e with
  | some P =>
    obtain ⟨p1, p2, p3⟩ := t_pa h he6 hp
    obtain ⟨M', a1, a2, a3, a4, a5, a6⟩ := k_keep_54 (e := e) (d + 1) h p1 p2 he6 hc hc6
    have q : mP M' = mP M ∧ mN M' = mN M ∧ mC M' = mC M ∧ mS M' = mS M := by
      unfold mP mN mC mS
      rw [a2]; exact ⟨rfl, rfl, rfl, rfl⟩
    refine ⟨M', P, a1, CSK_c h a2, by rw [q.1]; exact hp, fun j _ => by rw [q.1], fun Q hQ => by cases hQ.symm.trans hp; rfl, a3, fun a g1 g2 _ => a4 a g1 g2, a5, a6, fun a _ _ => by rw [q.1], by omega, ?_, ?_, fun a _ => by unfold mK mZ; rw [a2]; exact ⟨rfl, rfl⟩, Or.inl hp⟩
    · rw [q.1, q.2.2.1]; exact Nat.le_refl _
    · rw [q.1, q.2.2.2]; exact Nat.le_refl _
  | none =>
    have hN := t_n h
    show ∃ M' P, lt_m (aNew M 16 0 5) (fun M4 => lt_bv (f_X0_init (d + 5) M4 (mN M)) [] fun M5 => lt_ck M5 2 26 (lt_rf (mP M5 2 1) fun q6 => lt_as M5 q6 (nI e) (mN M) (lt_m (wP M5 q6 e (some (mN M))) fun M7 => f_X10_keepForUndo_54 (d + 5 + 1) M7 2 (nI e) (mN M)))) = some (.inl none, M') ∧ KEPT M M' P e c
    obtain ⟨W', b1, b2⟩ := b_init (M := M) (B := mN M) (c := mC M + 1) (s := mS M + 5) (d + 1)
    rw [x_m, n_new1 rfl, b1, lt_bv_r]
    let M5 := nW M (mN M) 100 W' (mC M + 1 + 99) (mS M + 5 + 4309)
    show ∃ M' P, lt_ck M5 2 26 (lt_rf (mP M5 2 1) fun q6 => lt_as M5 q6 (nI e) (mN M) (lt_m (wP M5 q6 e (some (mN M))) fun M7 => f_X10_keepForUndo_54 (d + 5 + 1) M7 2 (nI e) (mN M))) = some (.inl none, M') ∧ KEPT M M' P e c
    have lo : ∀ a, a < mN M → mK M5 a = mK M a ∧ mZ M5 a = mZ M a ∧ mP M5 a = mP M a ∧ mI M5 a = mI M a ∧ mL M5 a = mL M a := by
      intro a ha
      have q : ¬ (mN M ≤ a ∧ a < mN M + 100) := by omega
      exact ⟨if_neg q, if_neg q, funext fun j => if_neg q, funext fun j => if_neg q, funext fun j => if_neg q⟩
    have lo1 := lo 2 (by omega)
    have lo102 := lo 103 (by omega)
    have hB5 : bA M5 (mN M) := NB_bA b2
    have k16 : mK M5 (mN M) = 16 := hB5.1
    have ck1 : ∀ {z : Option (LO × LM)}, lt_ck M5 2 26 z = z := fun {z} => lt_ck_t (lo1.1.trans h.1.1)
    have as1 : ∀ {z : Option (LO × LM)}, lt_as M5 103 (nI e) (mN M) z = z := fun {z} => by
      unfold lt_as
      rw [if_pos ⟨by rw [lo102.1, (t_past h).1]; decide, by rw [lo102.2.1, (t_past h).2]; exact lt_iI he6 (by omega), by rw [lo102.1, (t_past h).1, k16]; rfl⟩]
    rw [ck1, lo1.2.2.1, t_p1 h, x_rf, as1, x_m]
    let M7 := wP M5 103 e (some (mN M))
    have p7 : mP M7 103 e = some (mN M) := if_pos ⟨rfl, rfl⟩
    have p7o : ∀ j, j ≠ e → mP M7 103 j = mP M 103 j := fun j hj => by
      have : mP M7 103 j = mP M5 103 j := if_neg (fun q => hj q.2)
      rw [this, lo102.2.2.1]
    have p7a : ∀ a, a ≠ 103 → mP M7 a = mP M5 a := fun a ha => funext fun j => if_neg (fun q => ha q.1)
    have sm : ∀ lo' hi, hi ≤ mN M → (hi ≤ 103 ∨ 104 ≤ lo') → SM M M7 lo' hi := fun lo' hi h1 h2 a h3 h4 => by
      have q := lo a (by omega)
      exact ⟨q.1, q.2.1, (p7a a (by omega)).trans q.2.2.1⟩
    have sm7 : SM M5 M7 (mN M) (mN M + 100) := fun a h3 h4 => ⟨rfl, rfl, p7a a (by omega)⟩
    have hB7 : bA M7 (mN M) := bA_cg hB5 sm7
    have old : ∀ j Q, j < 6 → j ≠ e → mP M7 103 j = some Q → bA M7 Q ∧ 124 ≤ Q ∧ Q + 100 ≤ mN M := fun j Q hj hje hq => by
      rw [p7o j hje] at hq
      obtain ⟨g1, g2, g3⟩ := t_pa h hj hq
      exact ⟨bA_cg g1 (sm _ _ g3 (by omega)), g2, g3⟩
    have h7 : CSK M7 := by
      have g1 := sm 2 3 (by omega) (by omega) 2 (by omega) (by omega)
      refine ⟨⟨g1.1.trans h.1.1, ?_, ?_, ?_, ?_, ?_⟩, ⟨lo102.1.trans (t_past h).1, lo102.2.1.trans (t_past h).2⟩, bA_cg (t_b h) (sm _ _ (by omega) (by omega)), QA_cg (t_q h) (sm _ _ (by omega) (by omega)), SA_cg (t_s h) (sm _ _ (by omega) (by omega)), PA_cg (t_h h) (sm _ _ (by omega) (by omega)), ?_, fun j Q hj hq => ?_, fun i j P Q hi hj hij hP hQ => ?_⟩
      · rw [g1.2.2]; exact t_p0 h
      · rw [g1.2.2]; exact t_p1 h
      · rw [g1.2.2]; exact t_p4 h
      · rw [g1.2.2]; exact t_p6 h
      · rw [g1.2.2]; exact t_p7 h
      · show 124 ≤ mN M + 100
        omega
      · show bA M7 Q ∧ 124 ≤ Q ∧ Q + 100 ≤ mN M + 100
        by_cases z : j = e
        · rw [z, p7] at hq
          cases hq
          exact ⟨hB7, hN, Nat.le_refl _⟩
        · obtain ⟨g1, g2, g3⟩ := old j Q hj z hq
          exact ⟨g1, g2, by omega⟩
      · by_cases z : i = e
        · by_cases z2 : j = e
          · omega
          · rw [z, p7] at hP
            cases hP
            have := (old j Q hj z2 hQ).2.2
            omega
        · by_cases z2 : j = e
          · rw [z2, p7] at hQ
            cases hQ
            have := (old i P hi z hP).2.2
            omega
          · rw [p7o i z] at hP
            rw [p7o j z2] at hQ
            exact t_pd h hi hj hij hP hQ
    have hc7 : mI M7 2 3 = nI c := by
      show mI M5 2 3 = nI c
      rw [lo1.2.2.2.1]; exact hc
    obtain ⟨M', a1, a2, a3, a4, a5, a6⟩ := k_keep_54 (e := e) (d + 1) h7 hB7 hN he6 hc7 hc6
    have q : mP M' = mP M7 ∧ mN M' = mN M7 ∧ mC M' = mC M7 ∧ mS M' = mS M7 := by
      unfold mP mN mC mS
      rw [a2]; exact ⟨rfl, rfl, rfl, rfl⟩
    have hnn := nnP_u (g := mP M 103) (g' := mP M7 103) he6 hp (by rw [p7]; intro z; cases z) p7o
    refine ⟨M', mN M, a1, CSK_c h7 a2, by rw [q.1]; exact p7, fun j hj => by rw [q.1]; exact p7o j hj, fun Q hQ => (by rw [hp] at hQ; cases hQ), ?_, fun a g1 g2 g3 => ?_, a5, a6, fun a g1 g2 => ?_, ?_, ?_, ?_, fun a g1 => ?_, Or.inr (Nat.le_refl _)⟩
    · refine BEq.tr (tB_o fun a g1 g2 => ?_) a3
      have := lo a (by omega)
      exact ⟨this.2.2.2.1, this.2.2.2.2⟩
    · have := lo a g3
      exact ⟨(a4 a g1 g2).1.trans this.2.2.2.1, (a4 a g1 g2).2.trans this.2.2.2.2⟩
    · rw [q.1, p7a a g2]
      exact (lo a g1).2.2.1
    · rw [q.2.1]; exact Nat.le_add_right _ _
    · rw [q.1, q.2.2.1]
      show mC M + 1 + 99 + 100 * nnP (mP M7 103) ≤ mC M + 100 * nnP (mP M 103)
      omega
    · rw [q.1, q.2.2.2]
      show mS M + 5 + 4309 + 4314 * nnP (mP M7 103) ≤ mS M + 4314 * nnP (mP M 103)
      omega
    · have e : mK M' = mK M7 ∧ mZ M' = mZ M7 := by unfold mK mZ; rw [a2]; exact ⟨rfl, rfl⟩
      rw [e.1, e.2]
      exact ⟨(lo a g1).1, (lo a g1).2.1⟩
/-- the cursor closed -/
def clM (M : LM) : LM := wI (wI M 104 0 0) 104 1 0
theorem k_close (d : Nat) (h : CSK M) : f_X2_close (d + 1) M 104 = some (.inl none, clM M) := by
  have k1 : ∀ {z : Option (LO × LM)}, lt_ck M 104 18 z = z := fun {z} => lt_ck_t (t_q h).1
  have k2 : ∀ {z : Option (LO × LM)}, lt_ck (wI M 104 0 0) 104 18 z = z := fun {z} => lt_ck_t (M := wI M 104 0 0) (t_q h).1
  rw [e_X2_close, k1, lt_b1_0, x_m, k2, lt_b1_0, x_m]
  rfl
theorem clM_o (h : a ≠ 104) : mI (clM M) a = mI M a := (mI_wI_ne h).trans (mI_wI_ne h)
theorem clM_s (h : CSK M) : CSK (clM M) := h
theorem k_begin (d : Nat) (h : CSK M) (he : mI M 2 2 = nI e) (he6 : e < 6) (hc : mI M 2 3 = nI c) (hc6 : c ≤ 6) : ∃ M' P, f_X10_beginChange (d + 7) M 2 = some (.inl none, M') ∧ KEPT (clM M) M' P e c := by
  obtain ⟨M', P, a1, a2⟩ := k_keep (M := clM M) (e := e) (c := c) d (clM_s h) ((congrFun (clM_o (by omega)) 2).trans he) he6 ((congrFun (clM_o (by omega)) 3).trans hc) hc6
  refine ⟨M', P, ?_, a2⟩
  rw [e_X10_beginChange, t_ck h, t_p4 h, x_rf, lt_ck_t (t_q h).1, k_close _ h, lt_bv_r, t_ck (clM_s h), a1, lt_bv_r]
end Ub
