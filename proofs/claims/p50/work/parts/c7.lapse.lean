/-! CACHES: time that passes in two goes is time that passes in one -/
def lapD (x : Int32) (S : CS) (k : Nat) : Bool := bt (S.1 0 5) k && (decide (0 < S.1 0 2) && !decide (x - S.1 2 k < S.1 0 2))
def cR (f : Nat → Bool) : Nat → Nat
  | 0 => 0
  | n + 1 => (f (25 - n)).toNat + cR f n
section Ch
variable {S S' S2 Q : CS} {i j k m n y e s t p : Nat} {v v' now x t1 t2 mm : Int32} {kz kc kw : Nat → Int32} {W kf : Nat → Nat} {f g : Nat → Bool}
theorem cR_cg (h : ∀ i, 26 - n ≤ i → i < 26 → f i = g i) (hn : n ≤ 26) : cR f n = cR g n := by
  induction n with
  | zero => rfl
  | succ n ih =>
    show (f (25 - n)).toNat + cR f n = (g (25 - n)).toNat + cR g n
    rw [ih (fun i h1 h2 => h i (by omega) h2) (by omega), h (25 - n) (by omega) (by omega)]
theorem cR_add (h : ∀ i, i < 26 → (f i = true → g i = true)) : ∀ n, n ≤ 26 → cR f n + cR (fun k => g k && !f k) n = cR g n
  | 0, _ => rfl
  | n + 1, hn => by
    have ih := cR_add h n (by omega)
    show (f (25 - n)).toNat + cR f n + ((g (25 - n) && !f (25 - n)).toNat + cR (fun k => g k && !f k) n) = (g (25 - n)).toNat + cR g n
    have : (f (25 - n)).toNat + (g (25 - n) && !f (25 - n)).toNat = (g (25 - n)).toNat := by
      have h1 := h (25 - n) (by omega)
      cases a : f (25 - n) with
      | true => rw [h1 a]; rfl
      | false => cases g (25 - n) <;> rfl
    omega
theorem lapD_take (hk : k < 26) (hi : i < 26) (h : i ≠ k) : lapD x (kTake S k) i = lapD x S i := by
  have e5 : bt ((kTake S k).1 0 5) i = bt (S.1 0 5) i := by
    rw [take_5, bt_not (by omega), bt_bb (by omega) (by omega), decide_eq_false h, Bool.not_false, Bool.and_true]
  have e2 : (kTake S k).1 0 2 = S.1 0 2 := (kTake_TK (S := S) (k := k)).2.2.2.2.2.2 2 (by omega)
  have e22 : (kTake S k).1 2 i = S.1 2 i := by
    unfold kTake kTake0
    split <;> simp [rd_wi]
  unfold lapD
  rw [e5, e2, e22]
theorem take_all (hk : k < 26) : (∀ j, 5 ≤ j → j ≤ 9 → (kTake S k).1 0 j = S.1 0 j &&& (bb k ^^^ -1)) ∧ (∀ j, ¬ (5 ≤ j ∧ j ≤ 9) → (kTake S k).1 0 j = S.1 0 j) ∧ (∀ t, t ≠ 0 → t ≠ 7 → (kTake S k).1 t = S.1 t) ∧ (kTake S k).2 = S.2 := by
  unfold kTake
  have a : ∀ P : CS, (∀ j, 5 ≤ j → j ≤ 9 → (kTake0 P k).1 0 j = P.1 0 j &&& (bb k ^^^ -1)) ∧ (∀ j, ¬ (5 ≤ j ∧ j ≤ 9) → (kTake0 P k).1 0 j = P.1 0 j) ∧ (∀ t, t ≠ 0 → (kTake0 P k).1 t = P.1 t) ∧ (kTake0 P k).2 = P.2 := fun P => by
    unfold kTake0
    refine ⟨fun j h1 h2 => ?_, fun j h => ?_, fun t ht => ?_, rfl⟩
    · have : j = 5 ∨ j = 6 ∨ j = 7 ∨ j = 8 ∨ j = 9 := by omega
      rcases this with rfl | rfl | rfl | rfl | rfl <;> simp [rd_wi]
    · rw [cwi_n (by omega), cwi_n (by omega), cwi_n (by omega), cwi_n (by omega), cwi_n (by omega)]
    · rw [cwi_z ht, cwi_z ht, cwi_z ht, cwi_z ht, cwi_z ht]
  split
  · obtain ⟨a1, a2, a3, a4⟩ := a (cwi S 7 4 (S.1 7 4 + 1))
    exact ⟨fun j h1 h2 => (a1 j h1 h2).trans (by rw [cwi_z (by decide)]), fun j h => (a2 j h).trans (by rw [cwi_z (by decide)]), fun t ht h7 => (a3 t ht).trans (by rw [cwi_z h7]), a4⟩
  · obtain ⟨a1, a2, a3, a4⟩ := a S
    exact ⟨a1, a2, fun t ht _ => a3 t ht, a4⟩
theorem lap_ch : ∀ (n : Nat) (S : CS) (mm : Int32), n ≤ 26 → (∀ j, 5 ≤ j → j ≤ 9 → ∀ i, i < 32 → bt ((kLapse x n S mm).1.1 0 j) i = (bt (S.1 0 j) i && !(decide (26 - n ≤ i ∧ i < 26) && lapD x S i))) ∧ (kLapse x n S mm).1.1 7 4 = S.1 7 4 + nI (cR (fun k => lapD x S k && bt (S.1 0 6) k) n) ∧ (kLapse x n S mm).2 = mm + nI (cR (lapD x S) n) ∧
    (∀ j, ¬ (5 ≤ j ∧ j ≤ 9) → (kLapse x n S mm).1.1 0 j = S.1 0 j) ∧ (∀ j, j ≠ 4 → (kLapse x n S mm).1.1 7 j = S.1 7 j) ∧ (∀ t, t ≠ 0 → t ≠ 7 → (kLapse x n S mm).1.1 t = S.1 t) ∧ (kLapse x n S mm).1.2 = S.2
  | 0, S, mm, _ => ⟨fun j _ _ i _ => by
      rw [decide_eq_false (by omega), Bool.false_and, Bool.not_false, Bool.and_true]; rfl, (Int32.add_zero _).symm, (Int32.add_zero _).symm, fun _ _ => rfl, fun _ _ => rfl, fun _ _ _ => rfl, rfl⟩
  | n + 1, S, mm, hn => by
    have hk : 25 - n < 26 := by omega
    unfold kLapse
    by_cases c0 : 0 < S.1 0 2
    · rw [if_pos c0]
      by_cases c : bt (S.1 0 5) (25 - n) = true ∧ ¬ x - S.1 2 (25 - n) < S.1 0 2
      · have hD : lapD x S (25 - n) = true := by
          unfold lapD
          rw [c.1, decide_eq_true c0, decide_eq_false c.2]; rfl
        rw [if_pos c]
        obtain ⟨t1, t2, t3, t4⟩ := take_all (S := S) hk
        obtain ⟨i1, i2, i3, i4, i5, i6, i7⟩ := lap_ch n (kTake S (25 - n)) (mm + 1) (by omega)
        have tk := kTake_TK (S := S) (k := 25 - n)
        refine ⟨fun j h1 h2 i hi => ?_, ?_, ?_, fun j h => (i4 j h).trans (t2 j h), fun j hj => ?_, fun t h1 h2 => (i6 t h1 h2).trans (t3 t h1 h2), i7.trans t4⟩
        · rw [i1 j h1 h2 i hi, t1 j h1 h2, bt_not hi, bt_bb (by omega) hi]
          by_cases w : i = 25 - n
          · rw [decide_eq_true w, decide_eq_true (show 26 - (n + 1) ≤ i ∧ i < 26 by omega), w, hD]
            simp
          · rw [decide_eq_false w, Bool.not_false, Bool.and_true]
            by_cases w2 : i < 26
            · rw [lapD_take hk w2 w]
              by_cases w3 : 26 - n ≤ i
              · rw [decide_eq_true (show 26 - n ≤ i ∧ i < 26 by omega), decide_eq_true (show 26 - (n + 1) ≤ i ∧ i < 26 by omega)]
              · rw [decide_eq_false (show ¬ (26 - n ≤ i ∧ i < 26) by omega), decide_eq_false (show ¬ (26 - (n + 1) ≤ i ∧ i < 26) by omega)]
            · rw [decide_eq_false (show ¬ (26 - n ≤ i ∧ i < 26) by omega), decide_eq_false (show ¬ (26 - (n + 1) ≤ i ∧ i < 26) by omega), Bool.false_and, Bool.false_and]
        · have ec : cR (fun k => lapD x (kTake S (25 - n)) k && bt ((kTake S (25 - n)).1 0 6) k) n = cR (fun k => lapD x S k && bt (S.1 0 6) k) n := cR_cg (fun i h1 h2 => by
            rw [lapD_take hk h2 (by omega), t1 6 (by omega) (by omega), bt_not (by omega), bt_bb (by omega) (by omega), decide_eq_false (show ¬ i = 25 - n by omega), Bool.not_false, Bool.and_true]) (by omega)
          rw [i2, ec, tk.2.2.2.1]
          show _ = S.1 7 4 + nI ((lapD x S (25 - n) && bt (S.1 0 6) (25 - n)).toNat + cR (fun k => lapD x S k && bt (S.1 0 6) k) n)
          rw [hD, Bool.true_and]
          cases bt (S.1 0 6) (25 - n) with
          | true =>
            rw [if_pos rfl]
            show _ = S.1 7 4 + nI (1 + _)
            rw [← lt_iA (j := 1), ← Int32.add_assoc]; rfl
          | false =>
            rw [if_neg (by decide)]
            show _ = S.1 7 4 + nI (0 + _)
            rw [Nat.zero_add]
        · have ec : cR (lapD x (kTake S (25 - n))) n = cR (lapD x S) n := cR_cg (fun i h1 h2 => lapD_take hk h2 (by omega)) (by omega)
          rw [i3, ec]
          show _ = mm + nI ((lapD x S (25 - n)).toNat + cR (lapD x S) n)
          rw [hD]
          show _ = mm + nI (1 + _)
          rw [← lt_iA (j := 1), ← Int32.add_assoc]; rfl
        · rw [i5 j hj]
          by_cases w : j = 2
          · rw [w, tk.2.2.2.2.1, Int32.add_zero]
          · exact tk.2.2.2.2.2.1 j w hj
      · have hD : lapD x S (25 - n) = false := by
          unfold lapD
          rw [decide_eq_true c0, Bool.true_and]
          cases a : bt (S.1 0 5) (25 - n) with
          | false => rfl
          | true =>
            by_cases b : x - S.1 2 (25 - n) < S.1 0 2
            · rw [decide_eq_true b]; rfl
            · exact absurd ⟨a, b⟩ c
        rw [if_neg c]
        obtain ⟨i1, i2, i3, i4, i5, i6, i7⟩ := lap_ch n S mm (by omega)
        refine ⟨fun j h1 h2 i hi => ?_, ?_, ?_, i4, i5, i6, i7⟩
        · rw [i1 j h1 h2 i hi]
          by_cases w : i = 25 - n
          · rw [decide_eq_false (show ¬ (26 - n ≤ i ∧ i < 26) by omega), w, hD]
            simp
          · by_cases w3 : 26 - n ≤ i ∧ i < 26
            · rw [decide_eq_true w3, decide_eq_true (show 26 - (n + 1) ≤ i ∧ i < 26 by omega)]
            · rw [decide_eq_false w3, decide_eq_false (show ¬ (26 - (n + 1) ≤ i ∧ i < 26) by omega)]
        · rw [i2]
          show _ = S.1 7 4 + nI ((lapD x S (25 - n) && bt (S.1 0 6) (25 - n)).toNat + cR (fun k => lapD x S k && bt (S.1 0 6) k) n)
          rw [hD, Bool.false_and]
          show _ = S.1 7 4 + nI (0 + _)
          rw [Nat.zero_add]
        · rw [i3]
          show _ = mm + nI ((lapD x S (25 - n)).toNat + cR (lapD x S) n)
          rw [hD]
          show _ = mm + nI (0 + _)
          rw [Nat.zero_add]
    · have hD : ∀ i, lapD x S i = false := fun i => by
        unfold lapD
        rw [decide_eq_false c0, Bool.false_and, Bool.and_false]
      have h0 : ∀ (f : Nat → Bool) (n : Nat), (∀ i, f i = false) → cR f n = 0 := fun f n hf => by
        induction n with
        | zero => rfl
        | succ n ih => show (f (25 - n)).toNat + cR f n = 0; rw [ih, hf]; rfl
      rw [if_neg c0]
      refine ⟨fun j _ _ i _ => ?_, ?_, ?_, fun _ _ => rfl, fun _ _ => rfl, fun _ _ _ => rfl, rfl⟩
      · rw [hD i, Bool.and_false, Bool.not_false, Bool.and_true]
      · rw [h0 _ _ (fun i => by rw [hD i]; rfl)]; exact (Int32.add_zero _).symm
      · rw [h0 _ _ hD]; exact (Int32.add_zero _).symm
/-- two goes are one -/
theorem lapse_2 (hm : ∀ k, k < 26 → lapD t1 Q k = true → lapD t2 Q k = true) : SR 26 (kLapseAt t2 Q).1 (kLapseAt t2 (kLapseAt t1 Q).1).1 := by
  obtain ⟨a1, a2, a3, a4, a5, a6, a7⟩ := lap_ch (x := t1) 26 Q 0 (Nat.le_refl _)
  obtain ⟨b1, b2, b3, b4, b5, b6, b7⟩ := lap_ch (x := t2) 26 Q 0 (Nat.le_refl _)
  let P : CS := (kLapseAt t1 Q).1
  have p0 : P.1 0 = (kLapse t1 26 Q 0).1.1 0 := cwi_z (by decide)
  have pt : ∀ t, t ≠ 7 → P.1 t = (kLapse t1 26 Q 0).1.1 t := fun t ht => cwi_z ht
  have p7 : ∀ j, j ≠ 3 → P.1 7 j = (kLapse t1 26 Q 0).1.1 7 j := fun j hj => cwi_n hj
  have p73 : P.1 7 3 = (kLapse t1 26 Q 0).1.1 7 3 + (kLapse t1 26 Q 0).2 := cwi_e
  obtain ⟨c1, c2, c3, c4, c5, c6, c7⟩ := lap_ch (x := t2) 26 P 0 (Nat.le_refl _)
  have pbt : ∀ j, 5 ≤ j → j ≤ 9 → ∀ i, i < 26 → bt (P.1 0 j) i = (bt (Q.1 0 j) i && !lapD t1 Q i) := fun j h1 h2 i hi => by
    rw [p0, a1 j h1 h2 i (by omega), decide_eq_true (show 26 - 26 ≤ i ∧ i < 26 by omega), Bool.true_and]
  have pD : ∀ i, i < 26 → lapD t2 P i = (lapD t2 Q i && !lapD t1 Q i) := fun i hi => by
    have e2 : P.1 0 2 = Q.1 0 2 := by rw [p0]; exact a4 2 (by omega)
    have e22 : P.1 2 = Q.1 2 := by rw [pt 2 (by decide)]; exact a6 2 (by decide) (by decide)
    show (bt (P.1 0 5) i && (decide (0 < P.1 0 2) && !decide (t2 - P.1 2 i < P.1 0 2))) = _
    rw [pbt 5 (by omega) (by omega) i hi, e2, e22]
    unfold lapD
    cases bt (Q.1 0 5) i <;> cases (decide (0 < Q.1 0 2) && !decide (t2 - Q.1 2 i < Q.1 0 2)) <;> cases (decide (0 < Q.1 0 2) && !decide (t1 - Q.1 2 i < Q.1 0 2)) <;> rfl
  have cD : cR (lapD t1 Q) 26 + cR (lapD t2 P) 26 = cR (lapD t2 Q) 26 := by
    rw [cR_cg (f := lapD t2 P) (g := fun k => lapD t2 Q k && !lapD t1 Q k) (fun i _ hi => pD i hi) (Nat.le_refl _)]
    exact cR_add hm 26 (Nat.le_refl _)
  have c4' : cR (fun k => lapD t1 Q k && bt (Q.1 0 6) k) 26 + cR (fun k => lapD t2 P k && bt (P.1 0 6) k) 26 = cR (fun k => lapD t2 Q k && bt (Q.1 0 6) k) 26 := by
    rw [cR_cg (f := fun k => lapD t2 P k && bt (P.1 0 6) k) (g := fun k => (lapD t2 Q k && bt (Q.1 0 6) k) && !(lapD t1 Q k && bt (Q.1 0 6) k)) (fun i _ hi => by
      rw [pD i hi, pbt 6 (by omega) (by omega) i hi]
      cases lapD t2 Q i <;> cases lapD t1 Q i <;> cases bt (Q.1 0 6) i <;> rfl) (Nat.le_refl _)]
    exact cR_add (fun i hi q => by
      rw [Bool.and_eq_true_iff] at q ⊢
      exact ⟨hm i hi q.1, q.2⟩) 26 (Nat.le_refl _)
  have set : ∀ j, 5 ≤ j → j ≤ 9 → (kLapse t2 26 P 0).1.1 0 j = (kLapse t2 26 Q 0).1.1 0 j := fun j h1 h2 => b_ext fun i hi => by
    rw [c1 j h1 h2 i hi, b1 j h1 h2 i hi]
    by_cases w : i < 26
    · rw [decide_eq_true (show 26 - 26 ≤ i ∧ i < 26 by omega), Bool.true_and, Bool.true_and, pbt j h1 h2 i w, pD i w]
      have := hm i w
      cases a : lapD t1 Q i with
      | false => simp
      | true => rw [this a]; simp
    · rw [decide_eq_false (show ¬ (26 - 26 ≤ i ∧ i < 26) by omega), Bool.false_and, Bool.false_and, Bool.not_false, Bool.and_true, Bool.and_true, p0, a1 j h1 h2 i hi, decide_eq_false (show ¬ (26 - 26 ≤ i ∧ i < 26) by omega), Bool.false_and, Bool.not_false, Bool.and_true]
  have u7 : ∀ {A : CS} {y : Int32} {j : Nat}, j ≠ 3 → (cwi A 7 3 y).1 7 j = A.1 7 j := fun {A y j} h => cwi_n h
  have ut : ∀ {A : CS} {y : Int32} {t : Nat}, t ≠ 7 → (cwi A 7 3 y).1 t = A.1 t := fun {A y t} h => cwi_z h
  have l2 : (kLapse t2 26 P 0).1.2 = (kLapse t2 26 Q 0).1.2 := by rw [c7, b7]; exact a7
  have tt : ∀ t, t ≠ 0 → t ≠ 7 → (kLapse t2 26 P 0).1.1 t = (kLapse t2 26 Q 0).1.1 t := fun t h1 h2 => by rw [c6 t h1 h2, b6 t h1 h2, pt t h2, a6 t h1 h2]
  show SR 26 (cwi (kLapse t2 26 Q 0).1 7 3 ((kLapse t2 26 Q 0).1.1 7 3 + (kLapse t2 26 Q 0).2)) (cwi (kLapse t2 26 P 0).1 7 3 ((kLapse t2 26 P 0).1.1 7 3 + (kLapse t2 26 P 0).2))
  refine ⟨fun j h1 h4 h11 => ?_, ?_, fun j hj => ?_, fun j hj => ?_, fun k hk => ⟨?_, ?_, ?_, ?_⟩, ⟨?_, ?_, ?_, ?_⟩, fun k hk _ _ => ⟨?_, ?_, ?_, ?_⟩, fun k hk _ _ => ?_⟩
  · rw [ut (by decide), ut (by decide)]
    by_cases w : 5 ≤ j ∧ j ≤ 9
    · exact set j w.1 w.2
    · rw [c4 j w, b4 j w, p0, a4 j w]
  · exact congrFun (congrFun l2 0) 11
  · rw [ut (by decide), ut (by decide), tt 1 (by decide) (by decide)]
  · by_cases w : j = 3
    · rw [w, cwi_e, cwi_e, c5 3 (by decide), b5 3 (by decide), p73, a5 3 (by decide), a3, b3, c3, ← cD, Int32.zero_add, Int32.zero_add, Int32.zero_add, Int32.add_assoc, lt_iA]
    · rw [u7 w, u7 w]
      by_cases w4 : j = 4
      · rw [w4, c2, b2, p7 4 (by decide), a2, ← c4', Int32.add_assoc, lt_iA]
      · rw [c5 j w4, b5 j w4, p7 j w, a5 j w4]
  · rw [ut (by decide), ut (by decide), tt 8 (by decide) (by decide)]
  · rw [ut (by decide), ut (by decide), tt 9 (by decide) (by decide)]
  · exact congrFun (congrFun l2 11) k
  · exact congrFun (congrFun l2 12) k
  · rw [ut (by decide), ut (by decide), tt 13 (by decide) (by decide)]
  · rw [ut (by decide), ut (by decide), tt 13 (by decide) (by decide)]
  · rw [ut (by decide), ut (by decide), tt 14 (by decide) (by decide)]
  · rw [ut (by decide), ut (by decide), tt 14 (by decide) (by decide)]
  · rw [ut (by decide), ut (by decide), tt 2 (by decide) (by decide)]
  · exact congrFun (congrFun l2 3) k
  · exact congrFun (congrFun l2 4) k
  · exact congrFun (congrFun l2 5) k
  · exact congrFun (congrFun l2 4) k
/-- nothing lapses where nothing is due -/
theorem lapse_no (h : ∀ k, k < 26 → lapD x S k = false) : SR 26 S (kLapseAt x S).1 := by
  obtain ⟨a1, a2, a3, a4, a5, a6, a7⟩ := lap_ch (x := x) 26 S 0 (Nat.le_refl _)
  have h0 : ∀ (f : Nat → Bool) (n : Nat), n ≤ 26 → (∀ i, i < 26 → f i = false) → cR f n = 0 := fun f n hn hf => by
    induction n with
    | zero => rfl
    | succ n ih => show (f (25 - n)).toNat + cR f n = 0; rw [ih (by omega), hf _ (by omega)]; rfl
  have e0 := h0 (lapD x S) 26 (Nat.le_refl _) h
  have e1 := h0 (fun k => lapD x S k && bt (S.1 0 6) k) 26 (Nat.le_refl _) (fun i hi => by rw [h i hi]; rfl)
  rw [e1] at a2
  rw [e0] at a3
  have set : ∀ j, 5 ≤ j → j ≤ 9 → (kLapse x 26 S 0).1.1 0 j = S.1 0 j := fun j h1 h2 => b_ext fun i hi => by
    rw [a1 j h1 h2 i hi]
    by_cases w : i < 26
    · rw [h i w, Bool.and_false, Bool.not_false, Bool.and_true]
    · rw [decide_eq_false (show ¬ (26 - 26 ≤ i ∧ i < 26) by omega), Bool.false_and, Bool.not_false, Bool.and_true]
  have ut : ∀ {A : CS} {y : Int32} {t : Nat}, t ≠ 7 → (cwi A 7 3 y).1 t = A.1 t := fun {A y t} h => cwi_z h
  have e2 : (cwi (kLapse x 26 S 0).1 7 3 ((kLapse x 26 S 0).1.1 7 3 + (kLapse x 26 S 0).2)).2 = S.2 := a7
  show SR 26 S (cwi (kLapse x 26 S 0).1 7 3 ((kLapse x 26 S 0).1.1 7 3 + (kLapse x 26 S 0).2))
  refine ⟨fun j h1 h4 h11 => ?_, ?_, fun j hj => ?_, fun j hj => ?_, fun k hk => ⟨?_, ?_, ?_, ?_⟩, ⟨?_, ?_, ?_, ?_⟩, fun k hk _ _ => ⟨?_, ?_, ?_, ?_⟩, fun k hk _ _ => ?_⟩
  · rw [ut (by decide)]
    by_cases w : 5 ≤ j ∧ j ≤ 9
    · exact set j w.1 w.2
    · exact a4 j w
  · rw [e2]
  · rw [ut (by decide), a6 1 (by decide) (by decide)]
  · by_cases w : j = 3
    · rw [w, cwi_e, a5 3 (by decide), a3, Int32.zero_add]; exact Int32.add_zero _
    · rw [cwi_n w]
      by_cases w4 : j = 4
      · rw [w4, a2]; exact Int32.add_zero _
      · exact a5 j w4
  · rw [ut (by decide), a6 8 (by decide) (by decide)]
  · rw [ut (by decide), a6 9 (by decide) (by decide)]
  · rw [e2]
  · rw [e2]
  · rw [ut (by decide), a6 13 (by decide) (by decide)]
  · rw [ut (by decide), a6 13 (by decide) (by decide)]
  · rw [ut (by decide), a6 14 (by decide) (by decide)]
  · rw [ut (by decide), a6 14 (by decide) (by decide)]
  · rw [ut (by decide), a6 2 (by decide) (by decide)]
  · rw [e2]
  · rw [e2]
  · rw [e2]
  · rw [e2]
end Ch
