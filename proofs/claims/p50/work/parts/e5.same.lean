/-! THE LAW'S OWN CACHE AND THE CLASS: what both tell; the study by all sizes tells the same hits -/
def pRunQ (ru ro : Nat) (sz kf : Nat → Nat) : Nat → PQ
  | 0 => (0, fun _ => 0, fun _ => false, 0, 0)
  | i + 1 => pAskQ ru ro sz (kf i) (pRunQ ru ro sz kf i)
/-- a state of the study as a cache -/
def encS (ru ro : Nat) (s : SD) (i : Nat) (mk : Int32) : CS := (fun t j => if t = 0 then (if j = 0 then nI ru else if j = 1 then nI ro else if j = 5 then s.1 else if j = 7 then mk else if j = 12 then nI i else 0) else if t = 7 ∧ j = 0 then s.2.2.1 else 0, fun _ k => s.2.2.2 k + 1)
section Ef
variable {M M' M0 M1 N : LM} {T T' T2 : BT} {R : Nat → BT} {c : Nat} {S S' S2 : CS} {i j k m n x y e s t p pl ru ro cl key h' zc : Nat} {v v' now w mk : Int32} {kz kc kw : Nat → Int32} {W sz kf kf' : Nat → Nat} {these present write : Int32} {q : PQ} {r : Nat → Int64} {st : SD} {ask : Nat → Int32}
theorem CP_SEq (e : SEq S S') (h : CP sz ru ro S q cl) : CP sz ru ro S' q cl := by
  obtain ⟨e0, e1, e2, -, -, e7, -⟩ := e
  refine CP_same h (fun j hj => e0 j (by omega) (by omega) (by omega)) e1 (fun k hk => ?_) (e7 0 (by omega))
  unfold rkR
  split
  · exact (e2 k hk).2.1
  · exact (e2 k hk).2.2.1
theorem kFirst_CP (h : CP sz ru ro S q cl) (hr : ru = 0 ∨ ru = 2 ∨ ru = 3) : kFirst S these = lO these (S.2 (rkR ru)) := by
  have rr := h.rule (by omega)
  unfold kFirst
  rw [rr]
  rcases hr with r | r | r <;> subst r <;> rfl
theorem ord_CP (h : CP sz ru ro S q cl) (hr : ru = 0 ∨ ru = 2 ∨ ru = 3) : ∀ p, p ≤ q.1 → KS (ordL S p (S.1 0 5)) ∧ ∀ k, k < 26 → (bt (ordL S p (S.1 0 5)) k = true ↔ ∃ j, p ≤ j ∧ j < q.1 ∧ q.2.1 j = k)
  | 0, _ => ⟨h.2.1.1, fun k hk => ⟨fun hb => by
      obtain ⟨j, hj, e⟩ := h.2.2.2.1 k hk hb
      exact ⟨j, Nat.zero_le _, hj, e⟩, fun ⟨j, _, hj, e⟩ => by
      show bt (S.1 0 5) k = true
      rw [← e]; exact (h.2.2.1 j hj).2⟩⟩
  | p + 1, hp => by
    obtain ⟨i1, i2⟩ := ord_CP h hr p (by omega)
    have kp := h.2.2.1 p (by omega)
    have fi : kFirst S (ordL S p (S.1 0 5)) = some (q.2.1 p) := by
      rw [kFirst_CP h hr]
      refine lO_mn i1 kp.1 ((i2 _ kp.1).mpr ⟨p, Nat.le_refl _, by omega, rfl⟩) (fun i hi hb hne => ?_)
      obtain ⟨j, hj1, hj2, e⟩ := (i2 i hi).mp hb
      rw [← e]
      refine h.2.2.2.2.1 p j ?_ hj2
      by_cases w : j = p
      · rw [w] at e; exact absurd e.symm hne
      · omega
    rw [ordL_s (w := 0), fi]
    refine ⟨KS_and i1, fun k hk => ?_⟩
    rw [show obb (some (q.2.1 p)) = bb (q.2.1 p) from rfl, bt_dl' i1 kp.1 hk, Bool.and_eq_true_iff, i2 k hk]
    constructor
    · rintro ⟨⟨j, h1, h2, h3⟩, h4⟩
      refine ⟨j, ?_, h2, h3⟩
      by_cases w : j = p
      · rw [w] at h3
        rw [h3, decide_eq_true rfl] at h4; cases h4
      · omega
    · rintro ⟨j, h1, h2, h3⟩
      refine ⟨⟨j, by omega, h2, h3⟩, ?_⟩
      rw [decide_eq_false (fun w => by
        have := CP.inj h h2 (show p < q.1 by omega) (by rw [h3]; exact w)
        omega)]
      rfl
theorem nth_CP (h : CP sz ru ro S q cl) (hr : ru = 0 ∨ ru = 2 ∨ ru = 3) (hp : p < q.1) : kNth S p = some (q.2.1 p) := by
  obtain ⟨i1, i2⟩ := ord_CP h hr p (by omega)
  have kp := h.2.2.1 p hp
  unfold kNth
  rw [kFirst_CP h hr]
  refine lO_mn i1 kp.1 ((i2 _ kp.1).mpr ⟨p, Nat.le_refl _, hp, rfl⟩) (fun i hi hb hne => ?_)
  obtain ⟨j, hj1, hj2, e⟩ := (i2 i hi).mp hb
  rw [← e]
  refine h.2.2.2.2.1 p j ?_ hj2
  by_cases w : j = p
  · rw [w] at e; exact absurd e.symm hne
  · omega
/-- isSame() -/
theorem l_isSame (d : Nat) (hS : SO M T R c) (hi : i < 6) (H : PLQ M p zc ru ro sz q) (h : CP sz ru ro (T.2 i) q cl) (hr : ru = 0 ∨ ru = 2 ∨ ru = 3) (hz : SZ (T.1 2) sz) (hq : q.1 ≤ 26) : f_X12_isSame (d + 13) M p 2 (nI i) = some (.inl (some (.int 1)), M) := by
  have H' : PLN M p zc ru ro sz q.1 q.2.2.2.1 q.2.2.2.2 q.1 q.1 q.2.1 q.2.2.1 := H
  have ck : ∀ {Z : Option (LO × LM)}, lt_ck M 2 26 Z = Z := fun {Z} => t_ck hS.1
  have c0 : f_X10_count (d + 12) M 2 (nI i) 0 = _ := q_count (w := 0) d hS hi (by omega)
  have c4 : f_X10_cacheAt (d + 12) M 2 (nI i) 4 = _ := q_cacheAt d hS hi (by decide)
  have c5 : f_X10_cacheAt (d + 12) M 2 (nI i) 5 = _ := q_cacheAt d hS hi (by decide)
  rw [h.2.2.2.2.2.2.2.2.2.2] at c0
  rw [caV_4, pPop_nK h.2.1.1, ← h.2.2.2.2.2.2.2.2.1] at c4
  rw [caV_5, pSum_U hz, ← h.2.2.2.2.2.2.2.2.2.1] at c5
  have loop : ∀ (n k : Nat), k + n = q.1 → f_X12_isSame_43 (d + 13) M p 2 (nI i) (nI k) = some (.inl (some (.int 1)), M) := by
    intro n
    induction n with
    | zero =>
      intro k hk
      rw [e_X12_isSame_43, H'.ck, H'.ff.2.2.1, if_neg (by rw [nI_ltP (by omega) (by omega)]; omega)]
      rfl
    | succ n ih =>
      intro k hk
      have lk : nI k < nI q.1 := by rw [nI_ltP (by omega) (by omega)]; omega
      have ko := q_keyInOrder (p := k) d hS hi (by omega) (by rw [pPop_nK h.2.1.1, ← h.2.2.2.2.2.2.2.2.1]; exact lk)
      rw [nth_CP h hr (show k < q.1 by omega)] at ko
      rw [e_X12_isSame_43, H'.ck, H'.ff.2.2.1, if_pos lk, ck, ko, lt_bi_r, H'.ck, H'.p3, x_rf, H'.ak (by omega), H'.rk (by omega) (by omega), if_pos (show oI (some (q.2.1 k)) = nI (q.2.1 k) from rfl), nI_p1]
      exact ih (k + 1) (by omega)
  rw [e_X12_isSame, ck, c0, lt_bi_r, H'.ck, H'.ff.2.2.2.2, if_pos rfl, ck, c4, lt_bi_r, H'.ck, H'.ff.2.2.1, if_pos rfl, ck, c5, lt_bi_r, H'.ck, H'.ff.2.2.2.1, if_pos rfl]
  exact loop q.1 0 (by omega)
/-! ### the study -/
theorem enc_CP0 (hr : ru < 10) (hro : ro ≤ 20) : CP (fun _ => 1) ru ro (encS ru ro (0, none, 0, fun _ => 0) 0 0) (0, fun _ => 0, fun _ => false, 0, 0) 0 := by
  have b0 : bt 0 = fun _ => false := funext fun k => b_0 k
  refine ⟨⟨rfl, rfl, rfl, fun j _ => rfl⟩, ⟨KS_0, rfl, by omega⟩, fun j hj => absurd hj (Nat.not_lt_zero _), fun k _ e => ?_, fun i j _ hj => absurd hj (Nat.not_lt_zero _), fun j hj => absurd hj (Nat.not_lt_zero _), fun _ j hj => absurd hj (Nat.not_lt_zero _), fun k _ e => ?_, ?_, ?_, rfl⟩
  · have e' : bt 0 k = true := e
    rw [b_0] at e'; cases e'
  · have e' : bt 0 k = true := e
    rw [b_0] at e'; cases e'
  · show 0 = nK (bt 0) 26
    rw [b0]; decide
  · show 0 = uS _ (bt 0) 26
    rw [b0, uS_0 (fun _ _ => rfl)]
theorem enc_step (hr : ru = 0 ∨ ru = 2) (hro : ro ≤ 20) (hro1 : 1 ≤ ro) (hi : i < 300) (hk : key < 26) (h : CP (fun _ => 1) ru ro (encS ru ro st i mk) q i) (hv : PV ro (fun _ => 1) q) (hrg : ∀ k, k < 26 → bt st.1 k = true → 0 ≤ (st.2.2.2 k).toInt ∧ (st.2.2.2 k).toInt ≤ (i : Int)) : ∃ mk', CP (fun _ => 1) ru ro (encS ru ro (sStep (nI ru) (nI ro) ask key i st) (i + 1) mk') (pAskQ ru ro (fun _ => 1) key q) (i + 1) ∧ PV ro (fun _ => 1) (pAskQ ru ro (fun _ => 1) key q) := by
  obtain ⟨fi1, fi2⟩ := fIx_in h hk
  have ks : KS st.1 := h.2.1.1
  have z1 : ∀ k, k < 26 → 1 ≤ (fun _ : Nat => 1) k := fun k _ => Nat.le_refl _
  have m20 := PV_m z1 hv
  have hmu : q.2.2.2.1 = q.1 := by
    rw [hv.1]
    have : ∀ m, sN (fun _ => 1) m = m := fun m => by
      induction m with
      | zero => rfl
      | succ m ih => show sN (fun _ => 1) m + 1 = m + 1; rw [ih]
    exact this q.1
  have hru := hv.2.1
  have hm : q.1 = nK (bt st.1) 26 := h.2.2.2.2.2.2.2.2.1
  have rkI : (nI i).toInt = (i : Int) := lt_iT (by omega)
  have r1 : sRank (nI ru) ask st.2.2.2 key i = Int32.toInt64 (nI i) := by
    unfold sRank
    rw [lt_iT (show ru < 2147483648 by omega), if_neg (by omega), if_neg (by omega)]
  have rank1 : (Int32.toInt64 (nI i) + 1 : Int64).toInt = ((i + 1 : Nat) : Int) := by
    rw [Int64.toInt_add, Int32.toInt_toInt64, rkI, show (1 : Int64).toInt = 1 from rfl, Int.bmod_eq_of_le (by omega) (by omega)]
    omega
  by_cases b : bt st.1 key = true
  · -- a hit
    obtain ⟨p1, p2⟩ := fi1 b
    generalize hpl : fIx q.2.1 key q.1 0 = pl at p1 p2
    have pA : pAskQ ru ro (fun _ => 1) key q = (if 0 < ru then ((q.1, q.2.1, u1 q.2.2.1 pl true, q.2.2.2.1, q.2.2.2.2 + 1) : PQ) else pInQ (fun _ => 1) key (pOutQ (fun _ => 1) (q.1, q.2.1, u1 q.2.2.1 pl true, q.2.2.2.1, q.2.2.2.2 + 1) pl)) := by
      unfold pAskQ
      dsimp only
      rw [hpl, if_pos p1]
    obtain ⟨ss1, ss2⟩ := ss_hit (rule := nI ru) (size := nI ro) (ask := ask) (i := i) ks hk b
    have hh : st.2.2.1 + 1 = nI (q.2.2.2.2 + 1) := by
      rw [show st.2.2.1 = nI q.2.2.2.2 from h.2.2.2.2.2.2.2.2.2.2]; exact lt_iA (j := q.2.2.2.2) (k := 1)
    have hv2 : PV ro (fun _ => 1) ((q.1, q.2.1, u1 q.2.2.1 pl true, q.2.2.2.1, q.2.2.2.2 + 1) : PQ) := hv
    rw [pA]
    rcases hr with r | r
    · subst r
      have er : (sStep (nI 0) (nI ro) ask key i st).2.2.2 = u1 st.2.2.2 key (Int32.toInt64 (nI i)) := by
        show (if bt st.1 key = true ∧ nI 0 = 2 then st.2.2.2 else u1 st.2.2.2 key (sRank (nI 0) ask st.2.2.2 key i)) = _
        rw [if_neg (fun w => by cases w.2), r1]
      rw [if_neg (Nat.lt_irrefl 0)]
      obtain ⟨w1, w2, w3⟩ := PV_out (pl := pl) hv2 p1
      have mv := CP_mv (S' := encS 0 ro (sStep (nI 0) (nI ro) ask key i st) (i + 1) mk) (pl := pl) (Bx := u1 q.2.2.1 pl true) (h' := q.2.2.2.2 + 1) h p1 (by omega) (fun j hj => by
        have : j = 0 ∨ j = 1 ∨ j = 2 ∨ j = 3 := by omega
        rcases this with rfl | rfl | rfl | rfl <;> rfl) rfl rfl ss1 (fun w => by cases w) (fun k hk' e => h.2.2.2.2.2.2.2.1 k hk' e) (fun w => by cases w) (by
        show ((sStep (nI 0) (nI ro) ask key i st).2.2.2 (q.2.1 pl) + 1).toInt = _
        rw [er, p2, u1e]; exact rank1) (fun k hk' => by
        show (sStep (nI 0) (nI ro) ask key i st).2.2.2 k + 1 = st.2.2.2 k + 1
        rw [p2] at hk'
        rw [er, u1_n hk']) (by
        show (sStep (nI 0) (nI ro) ask key i st).2.2.1 = _
        rw [ss2]; exact hh)
      rw [p2] at mv
      refine ⟨mk, mv, (PV_in w1 hk ?_).1⟩
      show q.2.2.2.1 - 1 + 1 ≤ ro
      omega
    · subst r
      have er : (sStep (nI 2) (nI ro) ask key i st).2.2.2 = st.2.2.2 := by
        show (if bt st.1 key = true ∧ nI 2 = 2 then st.2.2.2 else _) = _
        rw [if_pos ⟨b, rfl⟩]
      rw [if_pos (by decide)]
      refine ⟨mk ||| bb key, CP_hit (S' := encS 2 ro (sStep (nI 2) (nI ro) ask key i st) (i + 1) (mk ||| bb key)) h (by decide) p1 (by omega) (fun j hj => by
        have : j = 0 ∨ j = 1 ∨ j = 2 ∨ j = 3 := by omega
        rcases this with rfl | rfl | rfl | rfl <;> rfl) rfl rfl ss1 (by
        show mk ||| bb key = mk ||| bb (q.2.1 pl)
        rw [p2]) (fun k _ => by
        show (sStep (nI 2) (nI ro) ask key i st).2.2.2 k + 1 = st.2.2.2 k + 1
        rw [er]) (by
        show (sStep (nI 2) (nI ro) ask key i st).2.2.1 = _
        rw [ss2]; exact hh), hv2⟩
  · have b' : bt st.1 key = false := by simpa using b
    have np := fi2 b'
    have er : (sStep (nI ru) (nI ro) ask key i st).2.2.2 = u1 st.2.2.2 key (Int32.toInt64 (nI i)) := by
      show (if bt st.1 key = true ∧ nI ru = 2 then st.2.2.2 else u1 st.2.2.2 key (sRank (nI ru) ask st.2.2.2 key i)) = _
      rw [if_neg (fun w => b w.1), r1]
    have eh : (sStep (nI ru) (nI ro) ask key i st).2.2.1 = st.2.2.1 := ss_miss b'
    have pA : pAskQ ru ro (fun _ => 1) key q = pInQ (fun _ => 1) key (pShQ ru ro (fun _ => 1) key 60 q) := by
      unfold pAskQ
      dsimp only
      rw [if_neg np, if_neg (by omega)]
    rw [pA]
    -- comes in behind what is left
    have come : ∀ (P : CS) (q' : PQ), CP (fun _ => 1) ru ro P q' i → PV ro (fun _ => 1) q' → ¬ ro < q'.2.2.2.1 + 1 → (∀ j, j < 4 → P.1 0 j = (encS ru ro st i mk).1 0 j) → P.1 1 = (encS ru ro st i mk).1 1 → P.1 7 0 = (encS ru ro st i mk).1 7 0 → P.2 = (encS ru ro st i mk).2 → bt (P.1 0 5) key = false → (sStep (nI ru) (nI ro) ask key i st).1 = P.1 0 5 ||| bb key → ∃ mk', CP (fun _ => 1) ru ro (encS ru ro (sStep (nI ru) (nI ro) ask key i st) (i + 1) mk') (pInQ (fun _ => 1) key q') (i + 1) ∧ PV ro (fun _ => 1) (pInQ (fun _ => 1) key q') := by
      intro P q' hP hPv hfit h0 h1 h7 hL hb hS
      refine ⟨P.1 0 7, CP_in hP hk hb (by omega) (fun j hj => by
        rw [h0 j hj]
        have : j = 0 ∨ j = 1 ∨ j = 2 ∨ j = 3 := by omega
        rcases this with rfl | rfl | rfl | rfl <;> rfl) (by rw [h1]; rfl) rfl hS rfl (by
        show ((sStep (nI ru) (nI ro) ask key i st).2.2.2 key + 1).toInt = _
        rw [er, u1e]; exact rank1) (fun k hk' => by
        show (sStep (nI ru) (nI ro) ask key i st).2.2.2 k + 1 = P.2 (rkR ru) k
        rw [er, u1_n hk', hL]; rfl) (by
        show (sStep (nI ru) (nI ro) ask key i st).2.2.1 = P.1 7 0
        rw [eh, h7]; rfl), (PV_in hPv hk (show q'.2.2.2.1 + 1 ≤ ro by omega)).1⟩
    by_cases c : q.1 < ro
    · obtain ⟨s1, s2⟩ := ss_add (rule := nI ru) (ask := ask) (i := i) ks hk b' (show ro < 1000 by omega) (by omega)
      rw [pSh_no (show ¬ ro < q.2.2.2.1 + 1 by omega)]
      refine come _ q h hv (by omega) (fun _ _ => rfl) rfl rfl rfl b' ?_
      show (st.1 &&& (obb (sOut (nI ro) st key) ^^^ -1)) ||| bb key = st.1 ||| bb key
      rw [s1, show obb none = 0 from rfl, and_all]
    · have hp : 0 < q.1 := by omega
      have c' : ro < q.2.2.2.1 + 1 := by omega
      obtain ⟨o, o1, o2, o3, o4, o5⟩ := ss_out (rule := nI ru) (ask := ask) (i := i) ks hk b' (show 0 < ro by omega) (show ro < 1000 by omega) (by omega)
      have first : lO st.1 (fun k => st.2.2.2 k + 1) = some (q.2.1 0) := h.first hp
      -- the rank behind one more is the same order
      have small : ∀ k, k < 26 → bt st.1 k = true → (st.2.2.2 k + 1 : Int64).toInt ≤ (i : Int) := fun k hk' hb => by
        obtain ⟨j, hj, ej⟩ := h.2.2.2.1 k hk' hb
        have := h.2.2.2.2.2.1 j hj
        rw [ej] at this
        exact this
      have k0 := h.2.2.1 0 hp
      have eo : o = q.2.1 0 := by
        have h1 := lO_lex o1 (q.2.1 0) k0.1 k0.2
        have h2 := lO_lex first o o2 o3
        have s1 := small o o2 o3
        have s2 := small (q.2.1 0) k0.1 k0.2
        unfold lxR at h1 h2
        have wrap : ∀ k, (st.2.2.2 k + 1 : Int64).toInt ≤ (i : Int) → (st.2.2.2 k + 1 : Int64).toInt = (st.2.2.2 k).toInt + 1 ∨ (st.2.2.2 k).toInt = 9223372036854775807 := fun k hk' => by
          rw [Int64.toInt_add, show (1 : Int64).toInt = 1 from rfl]
          have l1 := Int64.toInt_lt (st.2.2.2 k)
          have l2 := Int64.le_toInt (st.2.2.2 k)
          by_cases w : (st.2.2.2 k).toInt = 9223372036854775807
          · exact Or.inr w
          · exact Or.inl (Int.bmod_eq_of_le (by omega) (by omega))
        have g1 := hrg o o2 o3
        have g2 := hrg (q.2.1 0) k0.1 k0.2
        rcases wrap o s1 with a1 | a1
        · rcases wrap (q.2.1 0) s2 with a2 | a2
          · rw [a1, a2] at h2; omega
          · omega
        · omega
      obtain ⟨w1, w2, w3⟩ := PV_out hv hp
      let P : CS := cwi (cwi (encS ru ro st i mk) 0 5 (st.1 &&& (bb (q.2.1 0) ^^^ -1))) 0 7 (mk &&& (bb (q.2.1 0) ^^^ -1))
      have hP : CP (fun _ => 1) ru ro P (pOutQ (fun _ => 1) q 0) i := CP_out (S' := P) h hp (fun j hj => by
          show (cwi (cwi (encS ru ro st i mk) 0 5 _) 0 7 _).1 0 j = _
          rw [cwi_n (by omega), cwi_n (by omega)]) (by
          show (cwi (cwi (encS ru ro st i mk) 0 5 _) 0 7 _).1 1 = _
          rw [cwi_z (by decide), cwi_z (by decide)]) rfl rfl rfl rfl rfl
      have ep : pShQ ru ro (fun _ => 1) key 60 q = pOutQ (fun _ => 1) q 0 := by
        rw [pSh_s (f := 59) c', if_neg (fun w => by omega), pSh_no (show ¬ ro < (pOutQ (fun _ => 1) q 0).2.2.2.1 + 1 from by
          show ¬ ro < q.2.2.2.1 - 1 + 1
          omega)]
      rw [ep]
      refine come P _ hP w1 (by
        show ¬ ro < q.2.2.2.1 - 1 + 1
        omega) (fun j hj => by
          show (cwi (cwi (encS ru ro st i mk) 0 5 _) 0 7 _).1 0 j = _
          rw [cwi_n (by omega), cwi_n (by omega)]) (by
          show (cwi (cwi (encS ru ro st i mk) 0 5 _) 0 7 _).1 1 = _
          rw [cwi_z (by decide), cwi_z (by decide)]) rfl rfl (by
        show bt (st.1 &&& (bb (q.2.1 0) ^^^ -1)) key = false
        rw [bt_dl' ks k0.1 hk, b', Bool.false_and]) ?_
      show (st.1 &&& (obb (sOut (nI ro) st key) ^^^ -1)) ||| bb key = (st.1 &&& (bb (q.2.1 0) ^^^ -1)) ||| bb key
      rw [o4, eo]
      rfl
theorem enc_rg (hs : KS st.1) (hi : i < 300) (hk : key < 26) (hr : ru = 0 ∨ ru = 2) (hrg : ∀ k, k < 26 → bt st.1 k = true → 0 ≤ (st.2.2.2 k).toInt ∧ (st.2.2.2 k).toInt ≤ (i : Int)) : ∀ k, k < 26 → bt (sStep (nI ru) (nI ro) ask key i st).1 k = true → 0 ≤ ((sStep (nI ru) (nI ro) ask key i st).2.2.2 k).toInt ∧ ((sStep (nI ru) (nI ro) ask key i st).2.2.2 k).toInt ≤ ((i + 1 : Nat) : Int) := fun k hk' hb => by
  have r1 : sRank (nI ru) ask st.2.2.2 key i = Int32.toInt64 (nI i) := by
    unfold sRank
    rw [lt_iT (show ru < 2147483648 by omega), if_neg (by omega), if_neg (by omega)]
  have hb' : bt ((st.1 &&& (obb (sOut (nI ro) st key) ^^^ -1)) ||| bb key) k = true := hb
  show 0 ≤ ((if bt st.1 key = true ∧ nI ru = 2 then st.2.2.2 else u1 st.2.2.2 key (sRank (nI ru) ask st.2.2.2 key i)) k).toInt ∧ ((if bt st.1 key = true ∧ nI ru = 2 then st.2.2.2 else u1 st.2.2.2 key (sRank (nI ru) ask st.2.2.2 key i)) k).toInt ≤ _
  have old : k ≠ key → bt st.1 k = true := fun w => by
    rw [b_or, bt_bb (by omega) (by omega), decide_eq_false w, Bool.or_false] at hb'
    exact and_l hb'
  by_cases w : k = key
  · split
    · have := hrg key hk (‹bt st.1 key = true ∧ _›).1
      rw [w]; omega
    · rw [w, u1e, r1, Int32.toInt_toInt64, lt_iT (by omega)]; omega
  · have := hrg k hk' (old w)
    split
    · omega
    · rw [u1_n w]; omega
theorem study_CP (hr : ru = 0 ∨ ru = 2) (hro : ro ≤ 20) (hro1 : 1 ≤ ro) (hn : n ≤ 300) (hkf : ∀ i, i < n → kf i < 26) : ∀ (i : Nat), i ≤ n → (∃ mk, CP (fun _ => 1) ru ro (encS ru ro (sPlay (nI ru) (nI ro) kf n i) i mk) (pRunQ ru ro (fun _ => 1) kf i) i ∧ PV ro (fun _ => 1) (pRunQ ru ro (fun _ => 1) kf i)) ∧ ∀ k, k < 26 → bt (sPlay (nI ru) (nI ro) kf n i).1 k = true → 0 ≤ ((sPlay (nI ru) (nI ro) kf n i).2.2.2 k).toInt ∧ ((sPlay (nI ru) (nI ro) kf n i).2.2.2 k).toInt ≤ (i : Int)
  | 0, _ => ⟨⟨0, enc_CP0 (by omega) hro, ⟨rfl, Nat.zero_le _, fun j hj => absurd hj (Nat.not_lt_zero _)⟩⟩, fun k _ e => by
      have e' : bt 0 k = true := e
      rw [b_0] at e'; cases e'⟩
  | i + 1, hi => by
    obtain ⟨⟨mk, g1, g2⟩, g3⟩ := study_CP hr hro hro1 hn hkf i (by omega)
    rw [sPlay_s]
    exact ⟨enc_step hr hro hro1 (by omega) (hkf i (by omega)) g1 g2 g3, enc_rg g1.2.1.1 (by omega) (hkf i (by omega)) hr g3⟩
/-- hits by a size are the law's own -/
theorem study_hits (hr : ru = 0 ∨ ru = 2) (hro : ro ≤ 20) (hro1 : 1 ≤ ro) (hn : n ≤ 300) (hkf : ∀ i, i < n → kf i < 26) : kHits kf n (nI ru) (nI ro) = nI (pRunQ ru ro (fun _ => 1) kf n).2.2.2.2 := by
  obtain ⟨⟨mk, g1, -⟩, -⟩ := study_CP (kf := kf) hr hro hro1 hn hkf n (Nat.le_refl _)
  exact g1.2.2.2.2.2.2.2.2.2.2
end Ef
