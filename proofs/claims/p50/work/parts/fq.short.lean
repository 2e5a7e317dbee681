/-! THE LAW: isShamed(): no shorter row; the row read -/
section Gf
variable {M M' N : LM} {T T' : BT} {R R' : Nat → BT} {c o sh keys ru rm gr : Nat} {x3 x4 x5 x7 x8 : Int32} {g : Nat → Int32} {kf : Nat → Nat} {w : List Nat}
theorem ss_174 (d : Nat) (hk : keys ≤ 5) (hru : ru < 10) (hrm : rm ≤ 20) (hgr : gr ≤ 20) (hs : sh ≤ 6) (H : ∀ n kf, n ≤ sh → CAN kf keys n → (pRunQ ru rm (fun _ => 1) kf n).2.2.2.2 ≤ (pRunQ ru gr (fun _ => 1) kf n).2.2.2.2) : ∀ (m n : Nat) (M : LM) (g : Nat → Int32), n + m = sh + 1 → 1 ≤ n → LW M T R c → AR M o 12 g → ∃ M' g' C S, f_L_isShamed_174 (d + 15) M 2 (nI ru) (nI rm) (nI gr) (nI keys) x7 x8 o (nI sh) (nI n) = f_L_isShamed_174 (d + 15) M' 2 (nI ru) (nI rm) (nI gr) (nI keys) x7 x8 o (nI sh) (nI (sh + 1)) ∧ LW M' T R c ∧ AR M' o 12 g' ∧ GX (fun a => a = o) C S M M' ∧ C + 2 * 5 ^ n ≤ 2 * 5 ^ (sh + 1) ∧ S + 43 * 5 ^ n ≤ 43 * 5 ^ (sh + 1)
  | 0, n, M, g, e, h1, hL, hA => by
    have en : n = sh + 1 := by omega
    rw [en]
    exact ⟨M, g, 0, 0, rfl, hL, hA, GX.rf, by omega, by omega⟩
  | m + 1, n, M, g, e, h1, hL, hA => by
    have lt : ¬ nI sh < nI n := by rw [nI_ltP (by omega) (by omega)]; omega
    obtain ⟨M1, g1, e1, L1, A1, -, F1⟩ := gl_some (x4 := keys) (x2 := n) (ru := ru) (rm := rm) (gr := gr) (9 - n + d) hk (by omega) hru hrm hgr (fun kf hc => H n kf (by omega) hc) n 0 M g (fun _ => 0) (by omega) hL hA (fun k hk => absurd hk (Nat.not_lt_zero _)) (fun k hk => absurd hk (Nat.not_lt_zero _))
    have e1' : f_L_some (d + 14) M o 0 (nI n) 0 (nI keys) (nI ru) (nI rm) (nI gr) = some (.inl (some (.int 0)), M1) := by
      rw [show d + 14 = 9 - n + d + n + 5 by omega]; exact e1
    obtain ⟨M', g', C, S, e2, L2, A2, F2, c2, s2⟩ := ss_174 d hk hru hrm hgr hs H m (n + 1) M1 g1 (by omega) (by omega) L1 A1
    have q : 5 ^ (n + 1) = 5 ^ n * 5 := Nat.pow_succ ..
    rw [q] at c2 s2
    refine ⟨M', g', 8 * 5 ^ n + C, 172 * 5 ^ n + S, ?_, L2, A2, F1.tr F2, by omega, by omega⟩
    rw [e_L_isShamed_174, if_neg lt, e1', lt_bi_r, if_pos rfl, nI_p1]
    exact e2
theorem SHW_wI {i : Nat} {x : Int32} (h : SHW M w) (ho : ¬ OWN M o) : SHW (wI M o i x) w := by
  have n1 : (117 : Nat) ≠ o := fun e => ho (Or.inl (by omega))
  have n2 : (118 : Nat) ≠ o := fun e => ho (Or.inl (by omega))
  exact ⟨by rw [mI_wI_ne n1]; exact h.1, fun i hi => by rw [mI_wI_ne n2]; exact h.2 i hi⟩
theorem sr_222 (d : Nat) (hw12 : w.length ≤ 12) (hC : CAN (fun i => w.reverse.getD i 0) keys w.length) (hk : keys ≤ 5) : ∀ (m i : Nat) (M : LM) (g : Nat → Int32), i + m = w.length → LW M T R c → SHW M w → AR M o 12 g → (∀ j, j < i → g j = nI (w.reverse.getD j 0)) → ∃ M' g', f_L_isShamed_222 (d + 15) M 2 x3 x4 x5 (nI keys) x7 (nI w.length) o (nI (mxK (fun i => w.reverse.getD i 0) i)) (nI i) = f_L_isShamed_222 (d + 15) M' 2 x3 x4 x5 (nI keys) x7 (nI w.length) o (nI (mxK (fun i => w.reverse.getD i 0) w.length)) (nI w.length) ∧ LW M' T R c ∧ AR M' o 12 g' ∧ (∀ j, j < w.length → g' j = nI (w.reverse.getD j 0)) ∧ FX (fun a => a = o) 0 0 M M'
  | 0, i, M, g, e, hL, hw, hA, hg => by
    have ei : i = w.length := by omega
    rw [ei] at hg ⊢
    exact ⟨M, g, rfl, hL, hA, hg, FX.rf⟩
  | m + 1, i, M, g, e, hL, hw, hA, hg => by
    have hi : i < w.length := by omega
    obtain ⟨c1, c2⟩ := hC i hi
    have mx := mxK_le (kf := fun i => w.reverse.getD i 0) (x4 := keys) i (fun k hk => (hC k (by omega)).1)
    have em : mxK (fun i => w.reverse.getD i 0) (i + 1) = if mxK (fun i => w.reverse.getD i 0) i < w.reverse.getD i 0 + 1 then w.reverse.getD i 0 + 1 else mxK (fun i => w.reverse.getD i 0) i := rfl
    have hs : f_X10_shameAt (d + 14) M 2 (nI i) = _ := q_shameAt (d + 12) hL.1 hw hw12 hi
    have c1' : w.reverse.getD i 0 < keys := c1
    have c2' : w.reverse.getD i 0 ≤ mxK (fun i => w.reverse.getD i 0) i := c2
    have L1 : LW (wI M o i (nI (w.reverse.getD i 0))) T R c := LW_wI hL hA.own
    have A1 : AR (wI M o i (nI (w.reverse.getD i 0))) o 12 (fun j => if j = i then nI (w.reverse.getD i 0) else g j) := hA.wr
    have F1 : FX (fun a => a = o) 0 0 M (wI M o i (nI (w.reverse.getD i 0))) := FX_wI rfl
    have rv : mI (wI M o i (nI (w.reverse.getD i 0))) o i = nI (w.reverse.getD i 0) := if_pos ⟨rfl, rfl⟩
    obtain ⟨M', g', e2, L2, A2, G2, F2⟩ := sr_222 d hw12 hC hk m (i + 1) _ _ (by omega) L1 (SHW_wI hw hA.own) A1 (fun j hj => by
      by_cases q : j = i
      · rw [if_pos q, q]
      · rw [if_neg q]; exact hg j (by omega))
    refine ⟨M', g', ?_, L2, A2, G2, F1.tr F2⟩
    refine Eq.trans ?_ e2
    rw [e_L_isShamed_222, if_pos (show nI i < nI w.length by rw [nI_ltP (by omega) (by omega)]; exact hi), t_ck hL.1.1, hs, lt_bi_r, hA.ar (by omega), x_m, lt_iN (by omega), A1.ar (by omega), rv, if_neg (show ¬ nI (mxK (fun i => w.reverse.getD i 0) i) < nI (w.reverse.getD i 0) by rw [nI_ltP (by omega) (by omega)]; omega), A1.ar (by omega), if_pos (show nI (w.reverse.getD i 0) < nI keys by rw [nI_ltP (by omega) (by omega)]; exact c1'), A1.ar (by omega), j_max, lt_bi_r, nI_p1, nI_p1, em]
    by_cases q : mxK (fun i => w.reverse.getD i 0) i < w.reverse.getD i 0 + 1
    · rw [if_pos q, if_pos (show nI (mxK (fun i => w.reverse.getD i 0) i) < nI (w.reverse.getD i 0 + 1) by rw [nI_ltP (by omega) (by omega)]; exact q)]
    · rw [if_neg q, if_neg (show ¬ nI (mxK (fun i => w.reverse.getD i 0) i) < nI (w.reverse.getD i 0 + 1) by rw [nI_ltP (by omega) (by omega)]; exact q)]
end Gf
