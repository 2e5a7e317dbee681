/-! THE LAW: some(): all rows of a length, in the order of first keys -/
def mxK (kf : Nat → Nat) : Nat → Nat
  | 0 => 0
  | i + 1 => if mxK kf i < kf i + 1 then kf i + 1 else mxK kf i
def CAN (kf : Nat → Nat) (x4 n : Nat) : Prop := ∀ k, k < n → kf k < x4 ∧ kf k ≤ mxK kf k
section Fn
variable {M M' M0 M1 N : LM} {T T' T2 : BT} {R R' : Nat → BT} {j k n o c D C S x1 x2 x4 ru rm gr : Nat} {kf kf' : Nat → Nat} {g : Nat → Int32}
theorem mxK_cg : ∀ n, (∀ k, k < n → kf' k = kf k) → mxK kf' n = mxK kf n
  | 0, _ => rfl
  | n + 1, h => by
    have e := mxK_cg n (fun k hk => h k (by omega))
    unfold mxK
    rw [e, h n (by omega)]
theorem mxK_le : ∀ n, (∀ k, k < n → kf k < x4) → mxK kf n ≤ x4
  | 0, _ => Nat.zero_le _
  | n + 1, h => by
    have e := mxK_le n (fun k hk => h k (by omega))
    have := h n (by omega)
    unfold mxK
    split <;> omega
theorem sm_35 (hx4 : x4 ≤ 26) (hx1 : x1 < 12) (IH : ∀ (M : LM) (g : Nat → Int32) (kf : Nat → Nat), LW M T R c → AR M o 12 g → (∀ k, k < x1 + 1 → g k = nI (kf k)) → CAN kf x4 (x1 + 1) → ∃ M' g', f_L_some (D + 1) M o (nI (x1 + 1)) (nI x2) (nI (mxK kf (x1 + 1))) (nI x4) (nI ru) (nI rm) (nI gr) = some (.inl (some (.int 0)), M') ∧ LW M' T R c ∧ AR M' o 12 g' ∧ (∀ k, k < x1 + 1 → g' k = g k) ∧ FX (fun a => a = o) C S M M') : ∀ (r x8 : Nat) (M : LM) (g : Nat → Int32) (kf : Nat → Nat), x8 + r = x4 → LW M T R c → AR M o 12 g → (∀ k, k < x1 → g k = nI (kf k)) → CAN kf x4 x1 → ∃ M' g', f_L_some_35 (D + 2) M o (nI x1) (nI x2) (nI (mxK kf x1)) (nI x4) (nI ru) (nI rm) (nI gr) (nI x8) = some (.inl (some (.int 0)), M') ∧ LW M' T R c ∧ AR M' o 12 g' ∧ (∀ k, k < x1 → g' k = g k) ∧ FX (fun a => a = o) (C * r) (S * r) M M'
  | 0, x8, M, g, kf, hr, h1, h2, h3, h4 => by
    refine ⟨M, g, ?_, h1, h2, fun _ _ => rfl, FX.rf⟩
    rw [e_L_some_35]
    by_cases q : nI (mxK kf x1) < nI x8
    · rw [if_pos q]; exact if_pos (Or.inl rfl)
    · rw [if_neg q, if_neg (show ¬ nI x8 < nI x4 by rw [nI_ltP (by omega) (by omega)]; omega)]
      exact if_pos (Or.inl rfl)
  | r + 1, x8, M, g, kf, hr, h1, h2, h3, h4 => by
    have mx := mxK_le (kf := kf) (x4 := x4) x1 (fun k hk => (h4 k hk).1)
    by_cases q : nI (mxK kf x1) < nI x8
    · refine ⟨M, g, ?_, h1, h2, fun _ _ => rfl, FX.rf.mo (fun _ _ q => q) (Nat.zero_le _) (Nat.zero_le _)⟩
      rw [e_L_some_35, if_pos q]; exact if_pos (Or.inl rfl)
    · have q2 : x8 ≤ mxK kf x1 := by
        rw [nI_ltP (by omega) (by omega)] at q
        omega
      have ek : ∀ k, k < x1 → u1 kf x1 x8 k = kf k := fun k hk => u1_n (by omega)
      have em : mxK (u1 kf x1 x8) x1 = mxK kf x1 := mxK_cg x1 ek
      have ex : u1 kf x1 x8 x1 = x8 := if_pos rfl
      have em2 : mxK (u1 kf x1 x8) (x1 + 1) = if mxK kf x1 < x8 + 1 then x8 + 1 else mxK kf x1 := by
        show (if mxK (u1 kf x1 x8) x1 < u1 kf x1 x8 x1 + 1 then u1 kf x1 x8 x1 + 1 else mxK (u1 kf x1 x8) x1) = _
        rw [em, ex]
      obtain ⟨M1, g1, e1, L1, A1, G1, F1⟩ := IH (wI M o x1 (nI x8)) _ (u1 kf x1 x8) (LW_wI h1 h2.own) (h2.wr (i := x1) (x := nI x8)) (fun k hk => by
        by_cases w : k = x1
        · rw [if_pos w, w, ex]
        · rw [if_neg w, ek k (by omega)]; exact h3 k (by omega)) (fun k hk => by
        by_cases w : k = x1
        · rw [w, ex, em]; exact ⟨by omega, q2⟩
        · rw [ek k (by omega), mxK_cg k (fun j hj => ek j (by omega))]; exact h4 k (by omega))
      have G2 : ∀ k, k < x1 → g1 k = g k := fun k hk => (G1 k (by omega)).trans (if_neg (by omega))
      obtain ⟨M2, g2, e2, L2, A2, G3, F2⟩ := sm_35 hx4 hx1 IH r (x8 + 1) M1 g1 kf (by omega) L1 A1 (fun k hk => (G2 k hk).trans (h3 k hk)) h4
      have emI : (if nI (mxK kf x1) < nI x8 + 1 then nI x8 + 1 else nI (mxK kf x1)) = nI (mxK (u1 kf x1 x8) (x1 + 1)) := by
        rw [em2, nI_p1]
        by_cases w : mxK kf x1 < x8 + 1
        · rw [if_pos w, if_pos ((nI_ltP (by omega) (by omega)).mpr w)]
        · rw [if_neg w, if_neg (fun v => w ((nI_ltP (by omega) (by omega)).mp v))]
      refine ⟨M2, g2, ?_, L2, A2, fun k hk => (G3 k hk).trans (G2 k hk), (((FX_wI (P := fun a => a = o) rfl).tr F1).tr F2).mo (fun _ _ q => q) (by rw [Nat.mul_succ]; omega) (by rw [Nat.mul_succ]; omega)⟩
      rw [e_L_some_35, if_neg q, if_pos (show nI x8 < nI x4 by rw [nI_ltP (by omega) (by omega)]; omega), h2.ar (by omega), x_m, lt_iN (by omega), j_max, lt_bi_r, emI, nI_p1, e1, lt_bi_r, if_pos rfl, nI_p1]
      exact e2
theorem l_some (d : Nat) (hx4 : x4 ≤ 5) (hx2 : x2 ≤ 12) (hru : ru < 10) (hrm : rm ≤ 20) (hgr : gr ≤ 20) (H : ∀ kf, CAN kf x4 x2 → (pRunQ ru rm (fun _ => 1) kf x2).2.2.2.2 ≤ (pRunQ ru gr (fun _ => 1) kf x2).2.2.2.2) : ∀ (m x1 : Nat) (M : LM) (g : Nat → Int32) (kf : Nat → Nat), x1 + m = x2 → LW M T R c → AR M o 12 g → (∀ k, k < x1 → g k = nI (kf k)) → CAN kf x4 x1 → ∃ M' g', f_L_some (d + m + 5) M o (nI x1) (nI x2) (nI (mxK kf x1)) (nI x4) (nI ru) (nI rm) (nI gr) = some (.inl (some (.int 0)), M') ∧ LW M' T R c ∧ AR M' o 12 g' ∧ (∀ k, k < x1 → g' k = g k) ∧ FX (fun a => a = o) (8 * 5 ^ m) (172 * 5 ^ m) M M'
  | 0, x1, M, g, kf, hm, h1, h2, h3, h4 => by
    have e : x1 = x2 := by omega
    rw [e] at h3 h4 ⊢
    have hg : ∀ k, k < x2 → g k = nI (kf k) ∧ kf k < 26 := fun k hk => ⟨h3 k hk, by have := (h4 k hk).1; omega⟩
    obtain ⟨M1, e1, L1, A1, F1, w1⟩ := l_hits (ru := ru) (ro := gr) (d + 0) h1 h2 hx2 hg hru hgr
    obtain ⟨M2, e2, L2, A2, F2, w2⟩ := l_hits (ru := ru) (ro := rm) (d + 0) L1 A1 hx2 hg hru hrm
    have hh := H kf h4
    refine ⟨M2, g, ?_, L2, A2, fun _ _ => rfl, (F1.tr F2).mo (fun _ _ q => q.elim) (by omega) (by omega)⟩
    rw [e_L_some, if_pos rfl, e1, lt_bi_r, e2, lt_bi_r, if_neg (show ¬ nI _ < nI _ by rw [nI_ltP (by omega) (by omega)]; omega)]
    exact if_pos (Or.inl rfl)
  | m + 1, x1, M, g, kf, hm, h1, h2, h3, h4 => by
    obtain ⟨M1, g1, e1, L1, A1, G1, F1⟩ := sm_35 (D := d + m + 4) (x2 := x2) (ru := ru) (rm := rm) (gr := gr) (by omega) (show x1 < 12 by omega) (fun M g kf a1 a2 a3 a4 => l_some d hx4 hx2 hru hrm hgr H m (x1 + 1) M g kf (by omega) a1 a2 a3 a4) x4 0 M g kf (by omega) h1 h2 h3 h4
    refine ⟨M1, g1, ?_, L1, A1, G1, F1.mo (fun _ _ q => q) ?_ ?_⟩
    · rw [show d + (m + 1) + 5 = (d + m + 4) + 1 + 1 by omega, e_L_some, if_neg (fun w => by
        have v := congrArg Int32.toInt w
        rw [lt_iT (by omega), lt_iT (by omega)] at v
        omega)]
      exact e1
    · have := Nat.mul_le_mul_left (8 * 5 ^ m) hx4
      rw [Nat.pow_succ]; omega
    · have := Nat.mul_le_mul_left (172 * 5 ^ m) hx4
      rw [Nat.pow_succ]; omega
end Fn
