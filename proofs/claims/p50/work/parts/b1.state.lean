/-! THE STATE of the class between calls: its bench T (by what it holds), the benches kept R (the oldest first, c of them); what a call leaves alone -/
def OWN (M : LM) (a : Nat) : Prop := (2 ≤ a ∧ a < 124) ∨ ∃ j P, j < 6 ∧ mP M 103 j = some P ∧ P ≤ a ∧ a < P + 100
/-- a cell is as it was -/
def SAM (M M' : LM) (a : Nat) : Prop := mI M' a = mI M a ∧ mL M' a = mL M a ∧ mP M' a = mP M a ∧ mK M' a = mK M a ∧ mZ M' a = mZ M a
def FR (M M' : LM) : Prop := mN M ≤ mN M' ∧ (∀ a, a < mN M → ¬ OWN M a → SAM M M' a) ∧ (∀ a, a < mN M → OWN M' a → OWN M a) ∧ mC M' + 100 * nnP (mP M' 103) ≤ mC M + 100 * nnP (mP M 103) ∧ mS M' + 4314 * nnP (mP M' 103) ≤ mS M + 4314 * nnP (mP M 103)
def slt (e c i : Nat) : Nat := (e + 6 + i - c) % 6
def rpush (R : Nat → BT) (c : Nat) (T : BT) : Nat → BT := fun i => if c < 6 then (if i = c then T else R i) else (if i = 5 then T else R (i + 1))
def cpush (c : Nat) : Nat := if c < 6 then c + 1 else 6
def SO (M : LM) (T : BT) (R : Nat → BT) (c : Nat) : Prop := CSK M ∧ BEq T (tB M 3) ∧ ∃ e, mI M 2 2 = nI e ∧ mI M 2 3 = nI c ∧ e < 6 ∧ c ≤ 6 ∧ ∀ i, i < c → ∃ P, mP M 103 (slt e c i) = some P ∧ BEq (R i) (tB M P)
section Vb
variable {M M' M1 N : LM} {B D P U i j k t w f n c e r a o : Nat} {x y v b1 b2 : Int32} {z : Option (LO × LM)} {K : LM → Option (LO × LM)} {b : Bool} {T T' T2 : BT} {R : Nat → BT} {S : CS}
theorem SAM.rf : SAM M M a := ⟨rfl, rfl, rfl, rfl, rfl⟩
theorem SAM.tr (h : SAM M M' a) (g : SAM M' N a) : SAM M N a := ⟨g.1.trans h.1, g.2.1.trans h.2.1, g.2.2.1.trans h.2.2.1, g.2.2.2.1.trans h.2.2.2.1, g.2.2.2.2.trans h.2.2.2.2⟩
theorem FR.rf : FR M M := ⟨Nat.le_refl _, fun _ _ _ => SAM.rf, fun _ _ h => h, Nat.le_refl _, Nat.le_refl _⟩
theorem FR.tr (h : FR M M') (g : FR M' N) : FR M N := by
  obtain ⟨h1, h2, h3, h4, h5⟩ := h
  obtain ⟨g1, g2, g3, g4, g5⟩ := g
  exact ⟨Nat.le_trans h1 g1, fun a ha ho => (h2 a ha ho).tr (g2 a (by omega) (fun q => ho (h3 a ha q))), fun a ha q => h3 a ha (g3 a (by omega) q), by omega, by omega⟩
theorem slt_lt : slt e c i < 6 := Nat.mod_lt _ (by decide)
/-- only cells of the class's change, nothing is made -/
theorem FR_of (h1 : M'.2.2 = M.2.2) (h2 : ∀ a, ¬ OWN M a → mI M' a = mI M a ∧ mL M' a = mL M a) : FR M M' := by
  have q : mP M' = mP M ∧ mN M' = mN M ∧ mC M' = mC M ∧ mS M' = mS M ∧ mK M' = mK M ∧ mZ M' = mZ M := by
    unfold mP mN mC mS mK mZ
    rw [h1]; exact ⟨rfl, rfl, rfl, rfl, rfl, rfl⟩
  obtain ⟨q1, q2, q3, q4, q5, q6⟩ := q
  refine ⟨by omega, fun a _ ho => ⟨(h2 a ho).1, (h2 a ho).2, by rw [q1], by rw [q5], by rw [q6]⟩, fun a _ ho => ?_, by rw [q1, q3]; exact Nat.le_refl _, by rw [q1, q4]; exact Nat.le_refl _⟩
  unfold OWN at ho ⊢
  rw [q1] at ho
  exact ho
theorem OWN_lo (h1 : 2 ≤ a) (h2 : a < 124) : OWN M a := Or.inl ⟨h1, h2⟩
theorem OWN_2 (e : M'.2.2 = M.2.2) : OWN M' a ↔ OWN M a := by
  have q : mP M' = mP M := by unfold mP; rw [e]
  unfold OWN
  rw [q]
/-- the live bench's window -/
theorem FR_bM : FR M (bM M 3 T) := FR_of rfl fun a ho => ⟨bMo (by
    by_cases q : a < 3 ∨ 3 + 100 ≤ a
    · exact q
    · exact absurd (OWN_lo (M := M) (a := a) (by omega) (by omega)) ho), bMoL (by
    by_cases q : a < 3 ∨ 3 + 100 ≤ a
    · exact q
    · exact absurd (OWN_lo (M := M) (a := a) (by omega) (by omega)) ho)⟩
theorem SO_k (h : SO M T R c) : CSK M := h.1
theorem SO_c (h : SO M T R c) : c ≤ 6 := by obtain ⟨-, -, e, -, -, -, h, -⟩ := h; exact h
theorem CSK_b (h : CSK M) : CSK (bM M 3 T) := h
theorem SO_cg (h : SO M T R c) (e : M'.2.2 = M.2.2) (hB : BEq T' (tB M' 3)) (h2 : ∀ j, j = 2 ∨ j = 3 → mI M' 2 j = mI M 2 j) (h3 : ∀ a, 124 ≤ a → mI M' a = mI M a ∧ mL M' a = mL M a) : SO M' T' R c := by
  obtain ⟨h1, -, e', g1, g2, g3, g4, g5⟩ := h
  have hk : CSK M' := CSK_c h1 e
  refine ⟨hk, hB, e', (h2 2 (Or.inl rfl)).trans g1, (h2 3 (Or.inr rfl)).trans g2, g3, g4, fun i hi => ?_⟩
  obtain ⟨P, p1, p2⟩ := g5 i hi
  have q : mP M' = mP M := by unfold mP; rw [e]
  refine ⟨P, by rw [q]; exact p1, p2.tr (tB_o fun a a1 a2 => h3 a ?_)⟩
  have := (t_pa h1 slt_lt p1).2.1
  omega
theorem SO_bM (h : SO M T R c) : SO (bM M 3 T') T' R c := SO_cg h rfl tB_bM (fun j _ => congrFun (bMo (by omega)) j) (fun a ha => ⟨bMo (by omega), bMoL (by omega)⟩)
theorem SO_T (h : SO M T R c) (g : BEq T' T) : SO M T' R c := ⟨h.1, g.tr h.2.1, h.2.2⟩
/-- a change begins -/
theorem SO_begin (d : Nat) (h : SO M T R c) : ∃ M', f_X10_beginChange (d + 7) M 2 = some (.inl none, M') ∧ SO M' T (rpush R c T) (cpush c) ∧ FR M M' := by
  obtain ⟨h1, h2, e, g1, g2, g3, g4, g5⟩ := h
  obtain ⟨M', P, a1, k1, k2, k3, k4, k5, k6, k7, k8, k9, k10, k11, k12, k13, k14⟩ := k_begin (e := e) (c := c) d h1 g1 g3 g2 g4
  have hN : mN (clM M) = mN M := rfl
  have hPM : mP (clM M) = mP M := rfl
  have hn := t_n h1
  rw [hPM] at k3 k4 k9 k11 k12 k14
  rw [hN] at k6 k9 k10 k13 k14
  have hP := t_pa k1 g3 k2
  -- cells that are kept
  have sam : ∀ a, a ≠ 2 → a ≠ 104 → (a < P ∨ P + 100 ≤ a) → a < mN M → mI M' a = mI M a ∧ mL M' a = mL M a := fun a q1 q2 q3 q4 => by
    obtain ⟨r1, r2⟩ := k6 a q1 q3 q4
    exact ⟨r1.trans (clM_o q2), r2⟩
  have nin : ∀ a, a < mN M → ¬ OWN M a → (a < P ∨ P + 100 ≤ a) := fun a q1 q2 => by
    rcases k14 with k14 | k14
    · by_cases z : a < P ∨ P + 100 ≤ a
      · exact z
      · exact absurd (Or.inr ⟨e, P, g3, k14, by omega, by omega⟩) q2
    · omega
  have bench : BEq (tB M 3) (tB M' 3) := tB_o fun a q1 q2 => sam a (by omega) (by omega) (by omega) (by omega)
  refine ⟨M', a1, ⟨k1, h2.tr bench, (if e + 1 < 6 then e + 1 else 0), k7, ?_, by split <;> omega, by unfold cpush; split <;> omega, fun i hi => ?_⟩, k10, fun a q1 q2 => ?_, fun a q1 q2 => ?_, ?_, ?_⟩
  · rw [k8]; rfl
  · have old : ∀ i0, i0 < c → slt e c i0 ≠ e → ∃ Q, mP M' 103 (slt e c i0) = some Q ∧ BEq (R i0) (tB M' Q) := fun i0 q1 q2 => by
      obtain ⟨Q, p1, p2⟩ := g5 i0 q1
      have p3 : mP M' 103 (slt e c i0) = some Q := (k3 _ q2).trans p1
      refine ⟨Q, p3, p2.tr (tB_o fun a r1 r2 => ?_)⟩
      have z1 := t_pa h1 slt_lt p1
      have z2 := t_pd k1 slt_lt g3 q2 p3 k2
      exact sam a (by omega) (by omega) (by omega) (by omega)
    have new : BEq T (tB M' P) := h2.tr (BEq.tr (tB_o (M := M) (M' := clM M) (B := 3) fun a q1 q2 => ⟨clM_o (by omega), rfl⟩) k5)
    unfold cpush at hi ⊢
    unfold rpush
    by_cases z : c < 6
    · rw [if_pos z] at hi ⊢
      rw [if_pos z]
      by_cases z2 : i = c
      · rw [if_pos z2]
        refine ⟨P, ?_, new⟩
        have : slt (if e + 1 < 6 then e + 1 else 0) (c + 1) i = e := by unfold slt; split <;> omega
        rw [this]; exact k2
      · rw [if_neg z2]
        have e1 : slt (if e + 1 < 6 then e + 1 else 0) (c + 1) i = slt e c i := by unfold slt; split <;> omega
        rw [e1]
        exact old i (by omega) (by unfold slt; omega)
    · have z6 : c = 6 := by omega
      rw [if_neg z] at hi ⊢
      rw [if_neg z]
      by_cases z2 : i = 5
      · rw [if_pos z2]
        refine ⟨P, ?_, new⟩
        have : slt (if e + 1 < 6 then e + 1 else 0) 6 i = e := by unfold slt; split <;> omega
        rw [this]; exact k2
      · rw [if_neg z2]
        have e1 : slt (if e + 1 < 6 then e + 1 else 0) 6 i = slt e c (i + 1) := by unfold slt; split <;> omega
        rw [e1]
        exact old (i + 1) (by omega) (by unfold slt; omega)
  · have z1 : a ≠ 2 := fun z => q2 (by rw [z]; exact OWN_lo (by omega) (by omega))
    have z2 : a ≠ 104 := fun z => q2 (by rw [z]; exact OWN_lo (by omega) (by omega))
    have z3 : a ≠ 103 := fun z => q2 (by rw [z]; exact OWN_lo (by omega) (by omega))
    obtain ⟨r1, r2⟩ := sam a z1 z2 (nin a q1 q2) q1
    exact ⟨r1, r2, k9 a q1 z3, (k13 a q1).1, (k13 a q1).2⟩
  · rcases q2 with q2 | ⟨j, Q, j1, j2, j3, j4⟩
    · exact Or.inl q2
    · by_cases z : j = e
      · rw [z, k2] at j2
        cases j2
        rcases k14 with k14 | k14
        · exact Or.inr ⟨e, P, g3, k14, j3, j4⟩
        · omega
      · rw [k3 j z] at j2
        exact Or.inr ⟨j, Q, j1, j2, j3, j4⟩
  · exact k11
  · exact k12
/-- the bench as a window of itself -/
theorem t_id : bM M 3 (tB M 3) = M := bM_id
theorem SO_B (h : SO M T R c) : BEq T (tB M 3) := h.2.1
theorem t_kM (h : CSK M) : CSK (bM M 3 T) := h
end Vb
