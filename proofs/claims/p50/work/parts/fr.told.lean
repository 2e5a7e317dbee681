/-! THE LAW: isShamed(): the row asked of the class's caches -/
/-- two caches of the class and the law's own, behind n requests -/
def RQ (z kw ro : Nat → Nat) (ru n : Nat) (T : BT) : Prop := SZ (T.1 2) z ∧ ∀ i, i < 2 → PV (ro i) z (pRunQ ru (ro i) z kw n) ∧ (pRunQ ru (ro i) z kw n).2.2.2.2 ≤ n ∧ ∃ cl, cl ≤ 1600 * n ∧ CP z ru (ro i) (T.2 i) (pRunQ ru (ro i) z kw n) cl
section Gg
variable {M M' N : LM} {T T' T2 : BT} {R R' : Nat → BT} {c o i n len ru : Nat} {x3 x4 x5 x7 x8 : Int32} {g : Nat → Int32} {z co W kf kw ro : Nat → Nat} {w : Bool}
theorem RQ_ask (hru : ru = 0 ∨ ru = 2 ∨ ru = 3) (hro : ∀ i, i < 2 → ro i ≤ 20) (hk : kw n < 26) (hn : n < 100) (g : BEq T T2) (h : RQ z kw ro ru n T) : RQ z kw ro ru (n + 1) (askT kf (fun _ => 0) W n (kw n) w T2) := by
  obtain ⟨hz, hI⟩ := h
  have hz2 : SZ (T2.1 2) z := SZ_cg hz (fun k hk => (g.2.2.1 k hk).1)
  have q2 : kApp T2.1 n (kw n) w (T2.1 0 4) 2 = T2.1 2 := ask_1 (T := T2) (kf := kf) (W := W) (n := n) (k := kw n) (fs := fun _ => 0) (w := w) (Or.inl rfl)
  refine ⟨by rw [ask_1 (Or.inl rfl)]; exact hz2, fun i hi => ?_⟩
  obtain ⟨r4, r5, cl, r6, r7⟩ := hI i hi
  have r7' := CP_SEq (g.2.2.2.2 i (by omega)) r7
  obtain ⟨cl', f1, f2, f3⟩ := feed_CP (kz := kApp T2.1 n (kw n) w (T2.1 0 4) 2) (kc := kApp T2.1 n (kw n) w (T2.1 0 4) 3) (kw := kApp T2.1 n (kw n) w (T2.1 0 4) 4) (W := W) (x := kw n) (ahead := kAhead (kfU kf n (kw n)) 0 n) (present := kApp T2.1 n (kw n) w (T2.1 0 4) 8 n) (write := kApp T2.1 n (kw n) w (T2.1 0 4) 7 n) (i := n) (by rw [q2]; exact hz2) hru hk (hro i hi) r7' r4 (by omega) (by omega)
  refine ⟨f3, ?_, cl', by omega, ?_⟩
  · have := ask_h (ru := ru) (rw := ro i) (key := kw n) (sz := z) (q := pRunQ ru (ro i) z kw n)
    show (pAskQ ru (ro i) z (kw n) (pRunQ ru (ro i) z kw n)).2.2.2.2 ≤ n + 1
    omega
  · rw [ask_2 (by omega)]
    unfold kDo
    rw [kfU_n]
    exact f2
theorem KT_clear (h : KT z co W T) : KT z co W (clearT T) := by
  obtain ⟨⟨v1, v2, v3, v4, v5⟩, g2, g3, g4⟩ := h
  have e : ∀ i, i < 6 → (clearT T).2 i = kEmpty (T.2 i) 0 := fun i hi => by
    show kEmpties 6 T.2 i = _
    rw [kEmpties_i 6 T.2 (Nat.le_refl _)]
    exact if_pos (by omega)
  have et : ∀ t, t ≠ 5 → (clearT T).1 t = T.1 t := fun t ht => z2_n1 ht
  refine ⟨⟨fun i hi => by omega, (show u2 T.1 5 3 0 5 3 = nI 0 from z2_eq), by omega, ⟨fun k hk => by rw [et 4 (by decide)]; exact v4.1 k hk, fun k hk => by rw [et 2 (by decide)]; exact v4.2 k hk⟩, fun i hi => ⟨Nat.le_refl _, ?_⟩⟩, fun k hk => by rw [et 2 (by decide), et 3 (by decide)]; exact g2 k hk, by rw [et 0 (by decide)]; exact g3, fun i hi => ?_⟩
  · rw [e i hi]; exact LsA_0 empty_L11 (Nat.le_refl _)
  · rw [e i hi]; exact ZR_empty
theorem rq_312 (d : Nat) (hru : ru = 0 ∨ ru = 2 ∨ ru = 3) (hro : ∀ i, i < 2 → ro i ≤ 20) (hlen : len ≤ 12) (hg : ∀ j, j < len → g j = nI (kw j) ∧ kw j < 26) : ∀ (m n : Nat) (M : LM) (T : BT) (R : Nat → BT) (c : Nat) (kf : Nat → Nat), n + m = len → LW M T R c → VL kf (fun _ => 0) W n T → RQ z kw ro ru n T → AR M o 12 g → ∃ M' T' R' c', f_L_isShamed_312 (d + 15) M 2 x3 x4 x5 x7 (nI len) o (nI n) = f_L_isShamed_312 (d + 15) M' 2 x3 x4 x5 x7 (nI len) o (nI len) ∧ LW M' T' R' c' ∧ RQ z kw ro ru len T' ∧ AR M' o 12 g ∧ FX TT 0 0 M M'
  | 0, n, M, T, R, c, kf, e, hL, v, hQ, hA => by
    have en : n = len := by omega
    rw [en] at hQ ⊢
    exact ⟨M, T, R, c, rfl, hL, hQ, hA, FX.rf⟩
  | m + 1, n, M, T, R, c, kf, e, hL, v, hQ, hA => by
    obtain ⟨g1, g2⟩ := hg n (by omega)
    obtain ⟨T2, M1, b0, b1, b2, b3⟩ := q_request (d + 2) hL.1 v g2 (by omega) false
    have b1' : f_X10_request (d + 14) M 2 (nI (kw n)) 0 = _ := b1
    have L1 := LW_FR hL b3 b2
    have A1 : AR M1 o 12 g := hA.kp (P := fun _ => False) (FX.of b3) (fun q => q)
    obtain ⟨M', T', R', c', e2, L2, Q2, A2, F2⟩ := rq_312 d hru hro hlen hg m (n + 1) M1 _ _ _ _ (by omega) L1 (VL_ask (VL_cg v b0) g2 (by omega) false) (RQ_ask hru hro g2 (by omega) b0 hQ) A1
    refine ⟨M', T', R', c', ?_, L2, Q2, A2, (FX.of b3).tr F2⟩
    rw [e_L_isShamed_312, if_pos (show nI n < nI len by rw [nI_ltP (by omega) (by omega)]; omega), hA.ar (by omega), t_ck hL.1.1, hA.rd (by omega), g1, b1', lt_bi_r, nI_p1]
    exact e2
/-- its end -/
theorem rq_end (d : Nat) {rm gr mo : Nat} (hru : ru = 2 ∨ ru = 3) (hrm : rm ≤ 20) (hgr : gr ≤ 20) (hlen : len ≤ 12) (hmo : len ≤ mo) (hmo2 : mo ≤ 12) (hg : ∀ j, j < len → g j = nI (kw j) ∧ kw j < 26) (hlt : (pRunQ ru gr (fun _ => 1) kw len).2.2.2.2 < (pRunQ ru rm (fun _ => 1) kw len).2.2.2.2) (hL : LW M T R c) (hQ : RQ (fun _ => 1) kw (fun i => if i = 0 then rm else gr) ru len T) (hA : AR M o 12 g) : ∃ M', f_L_isShamed_312 (d + 15) M 2 (nI ru) (nI rm) (nI gr) (nI mo) (nI len) o (nI len) = some (.inl (some (.int 1)), M') ∧ FX TT 8 172 M M' := by
  obtain ⟨M1, e1, L1, A1, F1, n1⟩ := l_hits (ru := ru) (ro := rm) (d + 10) hL hA hlen hg (by omega) hrm
  obtain ⟨M2, e2, L2, A2, F2, n2⟩ := l_hits (ru := ru) (ro := gr) (d + 10) L1 A1 hlen hg (by omega) hgr
  have e1' : f_L_hits (d + 14) M o (nI len) (nI ru) (nI rm) = _ := e1
  have e2' : f_L_hits (d + 14) M1 o (nI len) (nI ru) (nI gr) = _ := e2
  have c0 : f_X10_count (d + 14) M2 2 0 0 = _ := q_count (i := 0) (w := 0) (d + 2) L2.1 (by omega) (by omega)
  have c1 : f_X10_count (d + 14) M2 2 1 0 = _ := q_count (i := 1) (w := 0) (d + 2) L2.1 (by omega) (by omega)
  obtain ⟨-, -, cl0, -, p0⟩ := hQ.2 0 (by omega)
  obtain ⟨-, -, cl1, -, p1⟩ := hQ.2 1 (by omega)
  have h0 : (T.2 0).1 7 0 = nI (pRunQ ru rm (fun _ => 1) kw len).2.2.2.2 := p0.2.2.2.2.2.2.2.2.2.2
  have h1 : (T.2 1).1 7 0 = nI (pRunQ ru gr (fun _ => 1) kw len).2.2.2.2 := p1.2.2.2.2.2.2.2.2.2.2
  refine ⟨M2, ?_, (F1.tr F2).mo (fun _ _ q => q.elim) (by omega) (by omega)⟩
  rw [e_L_isShamed_312, if_neg (show ¬ nI len < nI len by rw [nI_ltP (by omega) (by omega)]; omega), e1', lt_bi_r, e2', lt_bi_r, nI_sub (by omega), if_pos (show (0 : Int32) < nI _ from (nI_ltP (j := 0) (by omega) (by omega)).mpr (by omega)), if_neg (show ¬ nI mo < nI len by rw [nI_ltP (by omega) (by omega)]; omega), t_ck L2.1.1, c0, lt_bi_r, t_ck L2.1.1, c1, lt_bi_r, h0, h1, nI_sub (by omega), if_pos rfl, lt_b1_1]
end Gg
