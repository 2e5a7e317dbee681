/-! A CACHE OF THE CLASS AND ONE OF THE LAW: room made -/
section Ed
variable {S S' S2 : CS} {i j k m n x y e s t pl ru ro cl key h' : Nat} {v v' now w : Int32} {kz kc kw : Nat → Int32} {W sz : Nat → Nat} {these present write : Int32} {q : PQ} {r : Nat → Int64} {Bx : Nat → Bool}
theorem and_all : v &&& ((0 : Int32) ^^^ -1) = v := b_ext fun i hi => by
  rw [bt_not hi, b_0, Bool.not_false, Bool.and_true]
theorem go_all (h : ∀ j, j < 4 → S.1 1 j = 0) : kGo kz kw W S these y = these := by
  have e : kHasSh S = 0 := by
    unfold kHasSh
    rw [h 0 (by omega), h 1 (by omega), h 2 (by omega), h 3 (by omega)]
    rfl
  unfold kGo kBey
  rw [if_pos e]
  rfl
theorem and_bb0 (hk : k < 26) : (v &&& bb k = 0) ↔ bt v k = false := by
  constructor
  · intro h
    have : bt (v &&& bb k) k = false := by rw [h]; exact b_0 k
    rw [b_and, bt_bb (by omega) (by omega), decide_eq_true rfl, Bool.and_true] at this
    exact this
  · intro h
    apply b_ext
    intro i hi
    rw [b_and, bt_bb (by omega) hi, b_0]
    by_cases q : i = k
    · rw [q, h, Bool.false_and]
    · rw [decide_eq_false q, Bool.and_false]
theorem pSh_no (h : ¬ ro < q.2.2.2.1 + sz key) : ∀ f, pShQ ru ro sz key f q = q
  | 0 => rfl
  | f + 1 => if_neg h
theorem pSh_s (h : ro < q.2.2.2.1 + sz key) {f : Nat} : pShQ ru ro sz key (f + 1) q = pShQ ru ro sz key f (if ru = 3 ∧ q.2.2.1 0 = true then pInQ sz (q.2.1 0) (pOutQ sz q 0) else pOutQ sz q 0) := if_pos h
theorem CP.rule (h : CP sz ru ro S q cl) (hr : ru < 10) : (S.1 0 0).toInt = (ru : Int) := by rw [h.1.1, lt_iT (by omega)]
/-- the class's step that takes one out -/
theorem out1_CP (h : CP sz ru ro S q cl) (hr : ru = 0 ∨ ru = 2 ∨ ru = 3) (hp : 0 < q.1) : CP sz ru ro (kOut1 S (q.2.1 0)) (pOutQ sz q 0) cl := by
  have k0 := (h.2.2.1 0 hp).1
  have r0 := h.1.1
  have n4 : ¬ S.1 0 0 = 4 := fun w => by
    rw [r0] at w
    have := (lt_iE (j := ru) (k := 4) (by omega) (by omega)).mp w
    omega
  have n5 : ¬ S.1 0 0 = 5 := fun w => by
    rw [r0] at w
    have := (lt_iE (j := ru) (k := 5) (by omega) (by omega)).mp w
    omega
  have el : kLevel S (q.2.1 0) = S := if_neg n5
  have eo : kOld S (q.2.1 0) = S := if_neg n4
  have e1 : kOut1 S (q.2.1 0) = cwi (kTake S (q.2.1 0)) 7 2 ((kTake S (q.2.1 0)).1 7 2 + 1) := by
    unfold kOut1
    rw [el, eo]
  obtain ⟨t1, t2, t3, t4⟩ := take_all (S := S) k0
  have tk := kTake_TK (S := S) (k := q.2.1 0)
  rw [e1]
  have u : ∀ t, t ≠ 7 → (cwi (kTake S (q.2.1 0)) 7 2 ((kTake S (q.2.1 0)).1 7 2 + 1)).1 t = (kTake S (q.2.1 0)).1 t := fun t ht => cwi_z ht
  exact CP_out h hp (fun j hj => by rw [u 0 (by decide)]; exact t2 j (by omega)) (by rw [u 1 (by decide)]; exact t3 1 (by decide) (by decide)) (by rw [u 0 (by decide)]; exact t2 12 (by omega)) (by rw [u 0 (by decide)]; exact t1 5 (by omega) (by omega)) (by rw [u 0 (by decide)]; exact t1 7 (by omega) (by omega)) t4 (by rw [cwi_n (by decide)]; exact tk.2.2.2.2.2.1 0 (by decide) (by decide))
/-- the spares of second chance -/
theorem spin_CP : ∀ (t : Nat) (S : CS) (q : PQ) (cl : Nat), CP sz 3 ro S q cl → PV ro sz q → 0 < q.1 → cMk q < t → cl + t < 1000000 → ro < q.2.2.2.1 + sz key →
    ∃ q' cl' s, CP sz 3 ro (kTurn (S.1 0 5) t S) q' cl' ∧ cl' ≤ cl + t ∧ (kTurn (S.1 0 5) t S).1 0 5 = S.1 0 5 ∧ PV ro sz q' ∧ q'.1 = q.1 ∧ q'.2.2.2.1 = q.2.2.2.1 ∧ q'.2.2.1 0 = false ∧ cMk q' + s = cMk q ∧ ∀ f, pShQ 3 ro sz key (f + s) q = pShQ 3 ro sz key f q'
  | 0, S, q, cl, _, _, _, ht, _, _ => by omega
  | t + 1, S, q, cl, h, hv, hp, ht, hcl, hc => by
    obtain ⟨k0, hb⟩ := h.2.2.1 0 hp
    have fi : lO (S.1 0 5) (S.2 4) = some (q.2.1 0) := h.first hp
    have mk := h.2.2.2.2.2.2.1 rfl 0 hp
    have cond : (S.1 0 5 &&& (S.1 0 7 ^^^ -1)) &&& bb (q.2.1 0) = 0 ↔ q.2.2.1 0 = true := by
      rw [and_bb0 k0, bt_not (by omega), hb, Bool.true_and, mk]
      cases q.2.2.1 0 <;> simp
    unfold kTurn
    rw [fi]
    dsimp only
    by_cases c : q.2.2.1 0 = true
    · rw [if_pos (cond.mpr c)]
      obtain ⟨w1, w2, w3⟩ := PV_out hv hp
      rw [if_pos c] at w3
      have pv := PV_in w1 k0 (show q.2.2.2.1 - sz (q.2.1 0) + sz (q.2.1 0) ≤ ro by have := hv.2.1; omega)
      have mv : CP sz 3 ro (kTurn1 S (S.1 0 5) (q.2.1 0)) (pInQ sz (q.2.1 0) (pOutQ sz q 0)) (cl + 1) := by
        have e12 := h.2.1.2.1
        refine CP_mv (S' := kTurn1 S (S.1 0 5) (q.2.1 0)) (pl := 0) (Bx := q.2.2.1) (h' := q.2.2.2.2) h hp (by omega) (fun j hj => ?_) ?_ ?_ ?_ (fun _ k hk => ?_) (fun k hk e => ?_) (fun _ => rfl) ?_ (fun k hk => ?_) ?_
        · unfold kTurn1; rw [cwl_1, cwi_n (by omega), cwi_n (by omega)]
        · unfold kTurn1; rw [cwl_1, cwi_z (by decide), cwi_z (by decide)]
        · unfold kTurn1; rw [cwl_1, cwi_e, e12]; exact lt_iA (j := cl) (k := 1)
        · unfold kTurn1; rw [cwl_1, cwi_n (by decide), cwi_n (by decide)]
        · unfold kTurn1
          rw [cwl_1, cwi_n (by decide), cwi_e, bt_not (by omega), b_and, bt_bb (by omega) (by omega)]
          by_cases w : k = q.2.1 0
          · rw [w, hb, decide_eq_true rfl, Bool.and_true]
          · rw [decide_eq_false w, Bool.and_false]
        · unfold kTurn1 at e
          rw [cwl_1, cwi_n (by decide), cwi_e] at e
          exact h.2.2.2.2.2.2.2.1 k hk (and_l e)
        · show ((kTurn1 S (S.1 0 5) (q.2.1 0)).2 4 (q.2.1 0)).toInt = _
          unfold kTurn1
          rw [cwl_e, e12, Int32.toInt_toInt64, show nI cl + 1 = nI (cl + 1) from lt_iA (j := cl) (k := 1), lt_iT (by omega)]
        · show (kTurn1 S (S.1 0 5) (q.2.1 0)).2 4 k = S.2 4 k
          unfold kTurn1
          rw [cwl_2, cwi_2, cwi_2, z2_n2 hk]
        · unfold kTurn1; rw [cwl_1, cwi_z (by decide), cwi_z (by decide)]; exact h.2.2.2.2.2.2.2.2.2.2
      have h5 : (kTurn1 S (S.1 0 5) (q.2.1 0)).1 0 5 = S.1 0 5 := by unfold kTurn1; rw [cwl_1, cwi_n (by decide), cwi_n (by decide)]
      have m1 : (pInQ sz (q.2.1 0) (pOutQ sz q 0)).1 = q.1 := by show q.1 - 1 + 1 = q.1; omega
      have u1' : (pInQ sz (q.2.1 0) (pOutQ sz q 0)).2.2.2.1 = q.2.2.2.1 := by show q.2.2.2.1 - sz (q.2.1 0) + sz (q.2.1 0) = _; omega
      obtain ⟨q', cl', s, g1, g2, g3, g4, g5, g6, g7, g8, g9⟩ := spin_CP t (kTurn1 S (S.1 0 5) (q.2.1 0)) (pInQ sz (q.2.1 0) (pOutQ sz q 0)) (cl + 1) mv pv.1 (by omega) (by rw [pv.2]; omega) (by omega) (by rw [u1']; exact hc)
      rw [h5] at g1 g3
      refine ⟨q', cl', s + 1, g1, by omega, g3, g4, by rw [g5, m1], by rw [g6, u1'], g7, by rw [← w3, ← pv.2, ← g8]; omega, fun f => ?_⟩
      rw [show f + (s + 1) = (f + s) + 1 by omega, pSh_s hc, if_pos ⟨rfl, c⟩]
      exact g9 f
    · rw [if_neg (fun w => c (cond.mp w))]
      exact ⟨q, cl, 0, h, by omega, rfl, hv, rfl, rfl, by simpa using c, rfl, fun f => rfl⟩
/-- room made, in both -/
theorem room_CP (hz : SZ kz sz) (hr : ru = 0 ∨ ru = 2 ∨ ru = 3) (hk : key < 26) (hro : ro ≤ 20) (hf : sz key ≤ ro) : ∀ (n : Nat) (S : CS) (q : PQ) (cl f : Nat), CP sz ru ro S q cl → PV ro sz q → q.1 ≤ n → cMk q + q.1 ≤ f → cl + 60 * n < 1000000 → ∃ cl', CP sz ru ro (kRoom kz kw W key none n S) (pShQ ru ro sz key f q) cl' ∧ cl' ≤ cl + 60 * n ∧ PV ro sz (pShQ ru ro sz key f q) ∧ ¬ ro < (pShQ ru ro sz key f q).2.2.2.1 + sz key := by
  intro n
  induction n with
  | zero =>
    intro S q cl f h hv hn hm _
    have h0 : q.1 = 0 := by omega
    have hu : q.2.2.2.1 = 0 := by rw [hv.1, h0]; rfl
    have hc : ¬ ro < q.2.2.2.1 + sz key := by omega
    rw [pSh_no hc]
    exact ⟨cl, h, by omega, hv, hc⟩
  | succ n ih =>
    intro S q cl f h hv hn hm hcl
    have z1 : ∀ k, k < 26 → 1 ≤ sz k := fun k hk => (hz k hk).2.1
    have hu := hv.2.1
    have zk := (hz key hk).2.2
    have cond : (S.1 0 1 < pSum (S.1 0 5) kz 26 0 + kz key) ↔ ro < q.2.2.2.1 + sz key := by
      rw [h.1.2.1, pSum_U hz, ← h.2.2.2.2.2.2.2.2.2.1, (hz key hk).1, lt_iA, nI_ltP (by omega) (by omega)]
    unfold kRoom
    by_cases c : ro < q.2.2.2.1 + sz key
    · have hp : 0 < q.1 := by
        by_cases w : q.1 = 0
        · have : q.2.2.2.1 = 0 := by rw [hv.1, w]; rfl
          omega
        · omega
      have ot : S.1 0 5 &&& (obb none ^^^ -1) = S.1 0 5 := and_all
      rw [if_pos (cond.mpr c), ot, go_all h.1.2.2.2]
      obtain ⟨f', ef⟩ : ∃ f', f = f' + 1 := ⟨f - 1, by omega⟩
      have cm := cMk_le (q := q)
      have m20 := PV_m z1 hv
      have ks := h.2.1.1
      rcases hr with r | r | r
      · subst r
        have e : kOut kz (S.1 0 5) S = kOut1 S (q.2.1 0) := by
          have rr := h.rule (by omega)
          have fi : lO (S.1 0 5) (S.2 3) = some (q.2.1 0) := h.first hp
          unfold kOut kOut13 kChO
          rw [if_neg (show ¬ S.1 0 0 = 3 by rw [h.1.1]; decide), rr]
          simp only [fi]
          rfl
        have o1 := out1_CP h (Or.inl rfl) hp
        obtain ⟨w1, w2, w3⟩ := PV_out hv hp
        have mo : (pOutQ sz q 0).1 = q.1 - 1 := rfl
        obtain ⟨cl', g1, g2, g3, g4⟩ := ih (kOut1 S (q.2.1 0)) (pOutQ sz q 0) cl f' o1 w1 (by omega) (by omega) (by omega)
        rw [e, ef, pSh_s c, if_neg (by omega)]
        exact ⟨cl', g1, by omega, g3, g4⟩
      · subst r
        have e : kOut kz (S.1 0 5) S = kOut1 S (q.2.1 0) := by
          have rr := h.rule (by omega)
          have fi : lO (S.1 0 5) (S.2 4) = some (q.2.1 0) := h.first hp
          unfold kOut kOut13 kChO
          rw [if_neg (show ¬ S.1 0 0 = 3 by rw [h.1.1]; decide), rr]
          simp only [fi]
          rfl
        have o1 := out1_CP h (Or.inr (Or.inl rfl)) hp
        obtain ⟨w1, w2, w3⟩ := PV_out hv hp
        have mo : (pOutQ sz q 0).1 = q.1 - 1 := rfl
        obtain ⟨cl', g1, g2, g3, g4⟩ := ih (kOut1 S (q.2.1 0)) (pOutQ sz q 0) cl f' o1 w1 (by omega) (by omega) (by omega)
        rw [e, ef, pSh_s c, if_neg (by omega)]
        exact ⟨cl', g1, by omega, g3, g4⟩
      · subst r
        obtain ⟨q', cl', s, g1, g2, g3, g4, g5, g6, g7, g8, g9⟩ := spin_CP (key := key) 52 S q cl h hv hp (by omega) (by omega) c
        have p' : 0 < q'.1 := by omega
        have c' : ro < q'.2.2.2.1 + sz key := by rw [g6]; exact c
        obtain ⟨k0, hb0⟩ := g1.2.2.1 0 p'
        have mk := g1.2.2.2.2.2.2.1 rfl 0 p'
        rw [g7] at mk
        have e : kOut kz (S.1 0 5) S = kOut1 (kTurn (S.1 0 5) 52 S) (q'.2.1 0) := by
          have rr := g1.rule (by omega)
          have hbm : bt (S.1 0 5 &&& ((kTurn (S.1 0 5) 52 S).1 0 7 ^^^ -1)) (q'.2.1 0) = true := by
            rw [bt_not (by omega), mk]
            rw [g3] at hb0
            rw [hb0]; rfl
          have ne : ¬ (S.1 0 5 &&& ((kTurn (S.1 0 5) 52 S).1 0 7 ^^^ -1) = 0) := fun w => by rw [w, b_0] at hbm; cases hbm
          have fi : lO (S.1 0 5 &&& ((kTurn (S.1 0 5) 52 S).1 0 7 ^^^ -1)) ((kTurn (S.1 0 5) 52 S).2 4) = some (q'.2.1 0) := lO_mn (KS_and ks) k0 hbm (fun i hi hbi hne => by
            have hbi' := and_l hbi
            rw [← g3] at hbi'
            obtain ⟨j, hj, ej⟩ := g1.2.2.2.1 i hi hbi'
            rw [← ej]
            refine g1.2.2.2.2.1 0 j ?_ hj
            by_cases w : j = 0
            · rw [w] at ej; exact absurd ej.symm hne
            · omega)
          unfold kOut kOut13 kChO
          rw [if_pos (show S.1 0 0 = 3 by rw [h.1.1]; rfl), rr]
          simp only [if_neg ne, fi]
          rfl
        have o1 := out1_CP g1 (Or.inr (Or.inr rfl)) p'
        obtain ⟨w1, w2, w3⟩ := PV_out g4 p'
        have mo : (pOutQ sz q' 0).1 = q'.1 - 1 := rfl
        rw [g7, if_neg (by decide)] at w3
        obtain ⟨f2, ef2⟩ : ∃ f2, f = (f2 + 1) + s := ⟨f - s - 1, by omega⟩
        obtain ⟨cl2, i1, i2, i3, i4⟩ := ih (kOut1 (kTurn (S.1 0 5) 52 S) (q'.2.1 0)) (pOutQ sz q' 0) cl' f2 o1 w1 (by omega) (by omega) (by omega)
        have ep : pShQ 3 ro sz key f q = pShQ 3 ro sz key f2 (pOutQ sz q' 0) := by
          rw [ef2, g9, pSh_s c', if_neg (fun w => by rw [g7] at w; cases w.2)]
        rw [e, ep]
        exact ⟨cl2, i1, by omega, i3, i4⟩
    · rw [if_neg (fun w => c (cond.mp w)), pSh_no c]
      exact ⟨cl, h, by omega, hv, c⟩
end Ed
