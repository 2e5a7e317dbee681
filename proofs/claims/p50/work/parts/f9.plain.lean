/-! THE LAW: areCaches(): one cache set up, and the law's own beside it -/
section Fj
variable {M M' M0 M1 N : LM} {T T' T2 : BT} {R R' : Nat → BT} {i j k m n x y a o3 o5 zc ky ru c c' s' : Nat} {x2 x4 : Int32} {W z co pp rr ro : Nat → Nat} {P : Nat → Prop}
def qq0 : PQ := (0, fun _ => 0, fun _ => false, 0, 0)
def PC2 (M : LM) (o5 zc : Nat) (pp rr ro z : Nat → Nat) (j : Nat) : Prop := mP M o5 j = some (pp j) ∧ PLQ M (pp j) zc (rr j) (ro j) z qq0 ∧ o5 < pp j ∧ (∀ k, k < j → pp k + 2 < pp j) ∧ (rr j = 0 ∨ rr j = 2 ∨ rr j = 3) ∧ 1 ≤ ro j ∧ ro j ≤ 20
def PC1 (M : LM) (o5 zc : Nat) (pp rr ro z : Nat → Nat) (i : Nat) : Prop := mK M o5 = 8 ∧ mZ M o5 = 6 ∧ o5 < mN M ∧ ¬ OWN M o5 ∧ o5 ≠ 1 ∧ zc < o5 ∧ AR M zc 26 (fun k => nI (z k)) ∧ ∀ j, j < i → PC2 M o5 zc pp rr ro z j
theorem PC1.kp (h : PC1 M o5 zc pp rr ro z i) (f : FX P c' s' M M') (h1 : ¬ P o5) (h2 : ¬ P zc) (h3 : ∀ j, j < i → ∀ a, PRg (pp j) a → ¬ P a) : PC1 M' o5 zc pp rr ro z i := by
  obtain ⟨k1, k2, k3, k4, k5, k6, k7, k8⟩ := h
  have u := f.2.2.1 o5 k3 k4 k5 h1
  refine ⟨u.2.2.2.1.trans k1, u.2.2.2.2.trans k2, Nat.lt_of_lt_of_le k3 f.1, fun q => k4 (f.2.2.2.1 o5 k3 q), k5, k6, k7.kp f h2, fun j hj => ?_⟩
  obtain ⟨a1, a2, a3⟩ := k8 j hj
  exact ⟨by rw [u.2.2.1]; exact a1, PLN.kp a2 f ⟨h3 j hj _ (prg (by omega)), h3 j hj _ (prg (by omega)), h3 j hj _ (prg (by omega)), h2⟩, a3⟩
theorem LW_wP {v : Option Nat} (hq : LW M T R c) (ho : ¬ OWN M o5) (h3 : o5 ≠ 103) : LW (wP M o5 j v) T R c ∧ FX (fun a => a = o5) 0 0 M (wP M o5 j v) := by
  have p103 : mP (wP M o5 j v) 103 = mP M 103 := funext fun i => if_neg (fun w => h3 w.1.symm)
  refine ⟨⟨SO_keep hq.1 (Nat.le_refl _) (fun a _ hA => ⟨rfl, rfl, funext fun i => if_neg (fun w => ho (by rw [← w.1]; exact hA)), rfl, rfl⟩), hq.2⟩, Nat.le_refl _, fun _ _ _ => ⟨rfl, rfl⟩, fun a _ _ _ h2 => ⟨rfl, rfl, funext fun i => if_neg (fun w => h2 w.1), rfl, rfl⟩, fun a _ q => ?_, ?_, ?_⟩
  · unfold OWN at q ⊢
    rw [p103] at q
    exact q
  · rw [p103]; exact Nat.le_refl _
  · rw [p103]; exact Nat.le_refl _
def CPn (z rr ro : Nat → Nat) (i : Nat) (T : BT) : Prop := ∀ j, j < i → CP z (rr j) (ro j) (T.2 j) qq0 0
theorem cp_228 (d : Nat) {rm : Nat} (h : CS0 z co W i M T R c) (hp : PC1 M o5 zc pp rr ro z i) (hc : CPn z rr ro i T) (hi : i < 6) (hru : ru = 0 ∨ ru = 2 ∨ ru = 3) (h2 : 1 ≤ rm) (h3 : rm ≤ 20) : ∃ M' T' R' c' p', f_L_areCaches_228 (d + 15) M 2 1 x2 zc x4 o5 1 (nI i) (nI rm) (nI ru) = f_L_areCaches_160 (d + 15) M' 2 1 x2 zc x4 o5 1 (nI (i + 1)) ∧ CS0 z co W (i + 1) M' T' R' c' ∧ PC1 M' o5 zc (u1 pp i p') (u1 rr i ru) (u1 ro i rm) z (i + 1) ∧ CPn z (u1 rr i ru) (u1 ro i rm) (i + 1) T' ∧ FX TT 3 60 M M' := by
  obtain ⟨L0, K0, I0, C0⟩ := h
  have hn := t_n L0.1.1
  obtain ⟨M1, e1, L1, F1, Q1, n1⟩ := p_new (ru := ru) (ro := rm) (d + 13) L0 hp.2.2.2.2.2.2.1
  rw [x_m] at e1
  have P1 := hp.kp F1 (fun q => q) (fun q => q) (fun _ _ _ _ q => q)
  obtain ⟨k1, k2, k3, k4, k5, k6, k7, k8⟩ := P1
  have o5p : o5 < mN M := hp.2.2.1
  have h103 : o5 ≠ 103 := fun q => k4 (Or.inl (by omega))
  obtain ⟨L2, F2⟩ := LW_wP (j := i) (v := some (mN M)) L1 k4 h103
  have Q2 : PLQ (wP M1 o5 i (some (mN M))) (mN M) zc ru rm z qq0 := PLN.kp Q1 F2 ⟨by omega, by omega, by omega, by omega⟩
  have P2 : PC1 (wP M1 o5 i (some (mN M))) o5 zc (u1 pp i (mN M)) (u1 rr i ru) (u1 ro i rm) z (i + 1) := by
    refine ⟨k1, k2, k3, fun q => k4 (F2.2.2.2.1 o5 k3 q), k5, k6, k7.kp F2 (by omega), fun j hj => ?_⟩
    by_cases q : j = i
    · unfold PC2
      rw [q, u1_x, if_pos rfl, u1_x, if_pos rfl, u1_x, if_pos rfl]
      refine ⟨if_pos ⟨rfl, rfl⟩, Q2, o5p, fun k hk => ?_, hru, h2, h3⟩
      rw [u1_x, if_neg (by omega)]
      exact (hp.2.2.2.2.2.2.2 k hk).2.1.2.1
    · obtain ⟨a1, a2, a3, a4, a5⟩ := k8 j (by omega)
      unfold PC2
      rw [u1_n q, u1_n q, u1_n q]
      refine ⟨(if_neg (fun w => q w.2)).trans a1, PLN.kp a2 F2 ⟨by omega, by omega, by omega, by omega⟩, a3, fun k hk => ?_, a5⟩
      rw [u1_n (by omega)]
      exact a4 k hk
  obtain ⟨M3, T3, R3, c3, xx, S3, g1, g2, g3, g4, g5, g6, g7, g8, g9⟩ := cs_set (ru := ru) (ro := rm) (la := 0) (mo := 0) d L2 K0 I0 hi C0 (by omega) h2 h3 (by omega) (by omega)
  have P3 := P2.kp (P := fun _ => False) (FX.of g9) (fun q => q) (fun q => q) (fun _ _ _ _ q => q)
  refine ⟨M3, T3, R3, c3, mN M, ?_, ⟨g2, g3, g4, g5⟩, P3, fun j hj => ?_, ((F1.mo (fun _ _ q => q.elim) (Nat.le_refl _) (Nat.le_refl _)).tr (F2.mo (fun _ _ _ => trivial) (Nat.le_refl _) (Nat.le_refl _))).tr (FX.of g9)⟩
  · rw [e_L_areCaches_228, x_m, show f_X12_init (d + 14) (aNew M 28 0 8) (mN M) (nI ru) (nI rm) zc = _ from e1, lt_bv_r]
    refine (if_pos ⟨by rw [k1]; exact ⟨by decide, by decide⟩, by rw [k2]; exact lt_iI hi (by omega), by rw [k1]; exact Q1.1⟩).trans ?_
    rw [x_m, lt_iN (by omega), e_L_areCaches_247, if_neg (by decide), e_L_areCaches_267, e_L_areCaches_279, if_neg (by decide), t_ck L2.1.1, show f_X10_setCache (d + 14) (wP M1 o5 i (some (mN M))) 2 (nI i) (nI ru) (nI rm) 0 0 = _ from g1, lt_bi_r, if_neg (by decide), nI_p1]
  · by_cases q : j = i
    · rw [q, u1_x, if_pos rfl, u1_x, if_pos rfl, g7]
      exact CP_start (by omega) h3
    · rw [u1_n q, u1_n q]
      exact CP_SEq (g6 j (by omega) q) (hc j (by omega))
end Fj
