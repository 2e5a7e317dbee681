/-! THE LAW: areCaches(): what is asked at the end -/
section Fd
variable {M M' M0 M1 N : LM} {T T' T2 : BT} {R R' : Nat → BT} {i j k m n x y e s t p wr tm a o5 zc key ky many : Nat} {v x6 x2 x4 x7 x8 x9 x11 : Int32} {W kf kf' fs z c pp rr ro : Nat → Nat} {w b : Bool}
theorem end_728 (d : Nat) (hky0 : 1 ≤ ky) (hky : ky ≤ 26) (hL : LW M T R 6) (hA : AT z c W kf n wr tm T) (hw : wr ≤ n) (hn : n ≤ 100) : ∃ M', f_L_areCaches_728 (d + 15) M 2 1 (nI ky) (nI wr) (nI n) = some (.inl (some (.int 1)), M') ∧ FX TT 0 0 M M' := by
  have wh : f_L_isWhole (d + 14) M 2 (nI n) (nI wr) = _ := l_isWhole (d + 1) hL.1 hA.1 (AT_WH hA) (by omega) hA.2.1 hA.2.2.1
  have p1 : f_L_print (d + 14) M 2 = _ := l_print (d + 1) hL.1 (fun i hi => AT_KS hA hi)
  obtain ⟨T2, M1, xx, e0, e1, e2, e3⟩ := q_replay (d + 2) hL.1 hA.1
  have e1' : f_X10_replay (d + 14) M 2 = _ := e1
  obtain ⟨r1, r2, r3⟩ := AT_repl (AT_cg e0 hA)
  have L1 := LW_FR hL e3 e2
  have pe : prT T2.2 6 0 = prT T.2 6 0 := prT_SR (fun i hi => SR_of (e0.2.2.2.2 i hi)) 6 0 (Nat.le_refl _)
  have p2 : f_L_print (d + 14) M1 2 = _ := l_print (d + 1) L1.1 r3
  rw [r1, pe] at p2
  obtain ⟨M', g1, g2⟩ := l_turns (x3 := prT T.2 6 0) d hky0 hky L1 r2 (by omega) (by rw [r1, pe])
  refine ⟨M', ?_, (FX.of e3).tr (g2.mo (fun _ _ _ => trivial) (Nat.le_refl _) (Nat.le_refl _))⟩
  rw [e_L_areCaches_728, wh, lt_bi_r, if_neg (by decide), p1]
  show lt_ck M 2 26 (lt_bi (f_X10_replay (d + 14) M 2) [] fun v84 M83 => lt_bl (f_L_print (d + 14) M83 2) [] fun v86 M85 => if @Eq Int32 (lg_cmp v86 (prT T.2 6 0)) 0 then (lt_bi (f_L_turns (d + 14) M85 2 1 (nI ky) (prT T.2 6 0)) [] fun v88 M87 => lt_b1 v88 (some (.inl (some (.int v88)), M87))) else (lt_b1 0 (some (.inl (some (.int 0)), M85)))) = _
  rw [t_ck hL.1.1, e1', lt_bi_r, p2]
  show (if @Eq Int32 (lg_cmp (prT T.2 6 0) (prT T.2 6 0)) 0 then (lt_bi (f_L_turns (d + 14) M1 2 1 (nI ky) (prT T.2 6 0)) [] fun v88 M87 => lt_b1 v88 (some (.inl (some (.int v88)), M87))) else (lt_b1 0 (some (.inl (some (.int 0)), M1)))) = _
  rw [if_pos (by rw [cmp0]), g1, lt_bi_r]
  rfl
theorem end_674 (d : Nat) (hky0 : 1 ≤ ky) (hky : ky ≤ 26) (hz1 : z = fun _ => 1) (hn : n ≤ 100) : ∀ (m i : Nat) (M : LM), i + m = 6 → ACS 1 z c W kf n wr tm M T R o5 zc pp rr ro → ∃ M', f_L_areCaches_674 (d + 15) M 2 1 (nI ky) (nI wr) (nI n) (nI i) = some (.inl (some (.int 1)), M') ∧ FX TT 0 0 M M'
  | 0, i, M, him, h => by
    have e6 : i = 6 := by omega
    obtain ⟨M', g1, g2⟩ := end_728 d hky0 hky h.1 h.2.1 h.2.2.2 hn
    exact ⟨M', by rw [e_L_areCaches_674, e6, if_neg (by decide)]; exact g1, g2⟩
  | m + 1, i, M, him, h => by
    have hi : i < 6 := by omega
    have l6 : nI i < (6 : Int32) := (nI_ltP (j := i) (k := 6) (by omega) (by omega)).mpr hi
    have ck : ∀ {Z : Option (LO × LM)}, lt_ck M 2 26 Z = Z := fun {Z} => t_ck h.1.1.1
    rcases h.2.2.1 with b | ⟨-, b2, b3⟩
    · cases b
    obtain ⟨r1, r2, r3, r4, r5, cl, r6, r7⟩ := b3 i hi
    have c0 : f_X10_cacheAt (d + 14) M 2 (nI i) 0 = _ := q_cacheAt (d + 2) h.1.1 hi (by decide)
    have c1 : f_X10_cacheAt (d + 14) M 2 (nI i) 1 = _ := q_cacheAt (d + 2) h.1.1 hi (by decide)
    rw [caV_0, r7.1.1] at c0
    rw [caV_1, r7.1.2.1] at c1
    rw [e_L_areCaches_674, if_pos l6, ck, c0, lt_bi_r]
    by_cases q : rr i = 3
    · obtain ⟨M', g1, g2⟩ := end_674 d hky0 hky hz1 hn m (i + 1) M (by omega) h
      rw [if_pos (by rw [q]; rfl), nI_p1]
      exact ⟨M', g1, g2⟩
    · have hrr : rr i = 0 ∨ rr i = 2 := by omega
      have hqi : qIn (nI (rr i)) (-1) 2 = true := by rcases hrr with e | e <;> rw [e] <;> decide
      obtain ⟨M1, a1, a2, a3⟩ := q_hits (rule := nI (rr i)) (x := nI (ro i)) (d + 2) h.1.1 h.2.1.1 hqi (show qIn (nI (ro i)) 1 26 = true from qIn_n (lo := 1) (hi := 26) r2 (by omega) (by omega))
      have a1' : f_X10_hits (d + 14) M 2 (nI (rr i)) (nI (ro i)) = _ := a1
      have hk := study_hits (kf := kf) hrr r3 r2 h.2.1.1.2.2.1 (fun i hi => (h.2.1.1.1 i hi).1)
      rw [hk] at a1'
      have h1 : ACS 1 z c W kf n wr tm M1 T R o5 zc pp rr ro := ⟨LW_FR h.1 a3 a2, h.2.1, h.2.2.1.fr a3, h.2.2.2⟩
      have c2 : f_X10_count (d + 14) M1 2 (nI i) 0 = _ := q_count (w := 0) (d + 2) h1.1.1 hi (by omega)
      rw [r7.2.2.2.2.2.2.2.2.2.2, hz1] at c2
      obtain ⟨M', g1, g2⟩ := end_674 d hky0 hky hz1 hn m (i + 1) M1 (by omega) h1
      rw [if_neg (show ¬ nI (rr i) = 3 from fun e => q ((lt_iE (j := rr i) (k := 3) (by omega) (by omega)).mp e)), ck, c0, lt_bi_r, ck, c1, lt_bi_r, ck, a1', lt_bi_r, t_ck h1.1.1.1, c2, lt_bi_r, if_pos rfl, nI_p1]
      exact ⟨M', g1, (FX.of a3).tr g2⟩
theorem end_627 (d : Nat) (hky0 : 1 ≤ ky) (hky : ky ≤ 26) (hz1 : x4 = 0 → z = fun _ => 1) (hz20 : ∀ k, k < 26 → 1 ≤ z k) (hn : n ≤ 100) (h : ACS x6 z c W kf n wr tm M T R o5 zc pp rr ro) : ∃ M', f_L_areCaches_627 (d + 15) M 2 1 (nI ky) x4 o5 x6 (nI wr) (nI n) 0 = some (.inl (some (.int 1)), M') ∧ FX TT 0 0 M M' := by
  have end0 : ∃ M', f_L_areCaches_728 (d + 15) M 2 1 (nI ky) (nI wr) (nI n) = some (.inl (some (.int 1)), M') ∧ FX TT 0 0 M M' := end_728 d hky0 hky h.1 h.2.1 h.2.2.2 hn
  rcases h.2.2.1 with b | ⟨b1, b2, b3⟩
  · rw [e_L_areCaches_627, if_pos (by decide), if_pos b, if_pos b]
    exact end0
  · have b0 : ¬ x6 = 0 := by rw [b1]; decide
    have tail : ∃ M', (if @Eq Int32 x4 0 then (f_L_areCaches_674 (d + 15) M 2 1 (nI ky) (nI wr) (nI n) 0) else (f_L_areCaches_728 (d + 15) M 2 1 (nI ky) (nI wr) (nI n))) = some (.inl (some (.int 1)), M') ∧ FX TT 0 0 M M' := by
      by_cases q : x4 = 0
      · rw [if_pos q]
        have h' := h
        rw [b1] at h'
        exact end_674 d hky0 hky (hz1 q) hn 6 0 M (by omega) h'
      · rw [if_neg q]
        exact end0
    obtain ⟨k1, k2, k3, k4, k5, k6⟩ := id b2
    have loop : ∀ (m i : Nat), i + m = 6 → ∃ M', f_L_areCaches_627 (d + 15) M 2 1 (nI ky) x4 o5 x6 (nI wr) (nI n) (nI i) = some (.inl (some (.int 1)), M') ∧ FX TT 0 0 M M' := by
      intro m
      induction m with
      | zero =>
        intro i hi
        have e6 : i = 6 := by omega
        rw [e_L_areCaches_627, e6, if_neg (by decide), if_neg b0]
        exact tail
      | succ m ih =>
        intro i him
        have hi : i < 6 := by omega
        have l6 : nI i < (6 : Int32) := (nI_ltP (j := i) (k := 6) (by omega) (by omega)).mpr hi
        obtain ⟨a1, a2, a3, a4⟩ := k6 i hi
        obtain ⟨r1, r2, r3, r4, r5, cl, r6, r7⟩ := b3 i hi
        have aa : ∀ {Z : Option (LO × LM)}, lt_aa M o5 (nI i) Z = Z := fun {Z} => by
          unfold lt_aa
          rw [if_pos ⟨by omega, by rw [k2]; exact lt_iI hi (by omega)⟩]
        have m20 := PV_m hz20 r4
        have u20 := r4.2.1
        have sm : f_X12_isSame (d + 14) M (pp i) 2 (nI i) = _ := l_isSame (q := pRunQ (rr i) (ro i) z kf n) (d + 1) h.1.1 hi a2 r7 r1 h.2.1.2.1 (by omega)
        rw [e_L_areCaches_627, if_pos l6, if_neg b0, aa, lt_iN (by omega), a1, x_rf, lt_ck_t a2.1, sm, lt_bi_r, if_neg (by decide), nI_p1]
        exact ih (i + 1) (by omega)
    exact loop 6 0 (by omega)
end Fd
