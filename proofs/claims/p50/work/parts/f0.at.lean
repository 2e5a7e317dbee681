/-! THE LAW: areCaches(): what holds of the bench while requests and passes go on -/
def AT (z c W kf : Nat → Nat) (n wr tm : Nat) (T : BT) : Prop := VL kf (fun _ => 0) W n T ∧ SZ (T.1 2) z ∧ (∀ k, k < 26 → T.1 3 k = nI (c k)) ∧ RTm T.1 n tm ∧ ∀ i, i < 6 → (∃ r, INV z c (T.2 i) n wr r) ∧ (∃ mo, mo ≤ 3 ∧ (T.2 i).1 0 3 = nI mo) ∧ REP T.1 W kf n (T.2 i)
section Fa
variable {S S' S2 : CS} {i j k m n x y e s t p wr tm : Nat} {v : Int32} {W kf fs z c : Nat → Nat} {T T' T2 : BT} {w : Bool}
theorem AT_cg (g : BEq T T2) (h : AT z c W kf n wr tm T) : AT z c W kf n wr tm T2 := by
  obtain ⟨v, hz, hc, hR, hI⟩ := h
  have hk : ∀ i, i < n → kf i < 26 := fun i hi => (v.1 i hi).1
  refine ⟨VL_cg v g, SZ_cg hz (fun k hk => (g.2.2.1 k hk).1), fun k hk => ((g.2.2.1 k hk).2.1).trans (hc k hk), ⟨g.2.1.trans hR.1, fun i hi => ?_⟩, fun i hi => ?_⟩
  · obtain ⟨a, ha, e⟩ := hR.2 i hi
    exact ⟨a, ha, ((g.2.2.2.1 i (by have := v.2.2.1; omega)).2.2).trans e⟩
  · obtain ⟨⟨r, h1⟩, ⟨mo, h2, h3⟩, h4⟩ := hI i hi
    have e := g.2.2.2.2 i hi
    exact ⟨⟨r, INV_cg e v.2.2.1 h1⟩, ⟨mo, h2, (e.1 3 (by omega) (by omega) (by omega)).trans h3⟩, rep_cg g hi hk v.2.2.1 h4⟩
theorem ask_2 {fs : Nat → Nat} (hi : i < 6) : (askT kf fs W n k w T).2 i = kDo (kApp T.1 n k w (T.1 0 4)) W (kfU kf n k) (fs i) n (T.2 i) := if_pos hi
theorem ask_1 {fs : Nat → Nat} (ht : t = 2 ∨ t = 3 ∨ t = 4) : (askT kf fs W n k w T).1 t = T.1 t := by
  show kApp T.1 n k w (T.1 0 4) t = T.1 t
  unfold kApp; rw [z2_n1 (by omega), z2_n1 (by omega), z2_n1 (by omega), z2_n1 (by omega)]
theorem kfU_26 (h : ∀ i, i < n → kf i < 26) (hk : k < 26) : ∀ i, i < n + 1 → kfU kf n k i < 26 := fun i hi => by
  by_cases q : i = n
  · rw [q, kfU_n]; exact hk
  · rw [kfU_o q]; exact h i (by omega)
theorem AT_ask (h : AT z c W kf n wr tm T) (hk : k < 26) (hn : n < 300) : AT z c W (kfU kf n k) (n + 1) (wr + (if bI w = 0 then 0 else 1)) tm (askT kf (fun _ => 0) W n k w T) ∧ ∀ i, i < 6 → kNoVictim (T.1 2) (T.2 i) k = false → ((askT kf (fun _ => 0) W n k w T).2 i).1 7 2 ≠ 0 := by
  obtain ⟨v, hz, hc, hR, hI⟩ := h
  have hkf : ∀ i, i < n → kf i < 26 := fun i hi => (v.1 i hi).1
  have hk' := kfU_26 hkf hk
  obtain ⟨a8, a7, a0⟩ := app_rd (H := T.1) (n := n) (k := k) (w := w)
  have hzr := HZ_app (k := k) (H := T.1) (w := w) hkf
  have q2 : kApp T.1 n k w (T.1 0 4) 2 = T.1 2 := ask_1 (T := T) (kf := kf) (W := W) (n := n) (k := k) (fs := fun _ => 0) (w := w) (Or.inl rfl)
  have q3 : kApp T.1 n k w (T.1 0 4) 3 = T.1 3 := ask_1 (T := T) (kf := kf) (W := W) (n := n) (k := k) (fs := fun _ => 0) (w := w) (Or.inr (Or.inl rfl))
  have step : ∀ i, i < 6 → ∀ r, INV z c (T.2 i) n wr r → INV z c (kDo (kApp T.1 n k w (T.1 0 4)) W (kfU kf n k) 0 n (T.2 i)) (n + 1) (wr + (if bI w = 0 then 0 else 1)) r ∧ (kNoVictim (T.1 2) (T.2 i) k = false → (kDo (kApp T.1 n k w (T.1 0 4)) W (kfU kf n k) 0 n (T.2 i)).1 7 2 ≠ 0) := fun i hi r hr => by
    have g := feed_INV (kz := kApp T.1 n k w (T.1 0 4) 2) (kc := kApp T.1 n k w (T.1 0 4) 3) (kw := kApp T.1 n k w (T.1 0 4) 4) (W := W) (x := kfU kf n k n) (ahead := kAhead (kfU kf n k) 0 n) (present := kApp T.1 n k w (T.1 0 4) 8 n) (write := kApp T.1 n k w (T.1 0 4) 7 n) (by rw [q2]; exact hz) (by rw [q3]; exact hc) hr (hk' n (by omega)) hn (kAhead_26 hk') (by rw [a7]; cases w; exact Or.inl rfl; exact Or.inr rfl)
    rw [a7] at g
    refine ⟨?_, fun hv => ?_⟩
    · unfold kDo; rw [a7]; exact g.1
    · unfold kDo; rw [a7]; exact g.2 (by rw [kfU_n, q2]; exact hv)
  refine ⟨⟨VL_ask v hk hn w, by rw [ask_1 (Or.inl rfl)]; exact hz, fun k' hk'' => by rw [ask_1 (Or.inr (Or.inl rfl))]; exact hc k' hk'', ⟨a0.trans hR.1, fun i hi => ?_⟩, fun i hi => ?_⟩, fun i hi hv => ?_⟩
  · show ∃ a, a ≤ tm ∧ kApp T.1 n k w (T.1 0 4) 8 i = nI a
    by_cases q : i = n
    · exact ⟨tm, Nat.le_refl _, by rw [q, a8]; exact hR.1⟩
    · obtain ⟨a, ha, e⟩ := hR.2 i (by omega)
      exact ⟨a, ha, ((hzr.2.2.2 i (by omega)).2.1).trans e⟩
  · obtain ⟨⟨r, g1⟩, ⟨mo, g2, g3⟩, g4⟩ := hI i hi
    rw [ask_2 hi]
    refine ⟨⟨r, (step i hi r g1).1⟩, ⟨mo, g2, ?_⟩, ?_⟩
    · exact (feed_set.1 3 (by omega)).trans g3
    · exact rep_ask g4 g1.1.1 hkf hk
  · obtain ⟨⟨r, g1⟩, -⟩ := hI i hi
    rw [ask_2 hi]
    exact (step i hi r g1).2 hv
theorem AT_pass (h : AT z c W kf n wr tm T) (ht : tm + m < 1000000) : AT z c W kf n wr (tm + m) (passT (nI m) T) := by
  obtain ⟨v, hz, hc, hR, hI⟩ := h
  have hkf : ∀ i, i < n → kf i < 26 := fun i hi => (v.1 i hi).1
  have e : ∀ i, i < 6 → (passT (nI m) T).2 i = (kLapseAt (T.1 0 4 + nI m) (T.2 i)).1 := fun i hi => by
    show (kLapses (T.1 0 4 + nI m) 6 T.2 0).1 i = _
    rw [kLapses_i 6 T.2 0 (Nat.le_refl _) i hi, if_pos (by omega)]
  have et : ∀ t, t ≠ 0 → (passT (nI m) T).1 t = T.1 t := fun t ht => z2_n1 ht
  refine ⟨⟨fun i hi => by rw [et 6 (by decide)]; exact v.1 i hi, by rw [et 5 (by decide)]; exact v.2.1, v.2.2.1, ⟨fun k hk => by rw [et 4 (by decide)]; exact v.2.2.2.1.1 k hk, fun k hk => by rw [et 2 (by decide)]; exact v.2.2.2.1.2 k hk⟩, fun i hi => ⟨(v.2.2.2.2 i hi).1, ?_⟩⟩, by rw [et 2 (by decide)]; exact hz, fun k hk => by rw [et 3 (by decide)]; exact hc k hk, ⟨?_, fun i hi => ?_⟩, fun i hi => ?_⟩
  · rw [e i hi]; exact LsA_p (v.2.2.2.2 i hi).2 (kLapseAt_p Kp.rfl')
  · show u2 T.1 0 4 (T.1 0 4 + nI m) 0 4 = _
    rw [z2_eq, hR.1, lt_iA]
  · obtain ⟨a, ha, e'⟩ := hR.2 i hi
    exact ⟨a, by omega, by rw [et 8 (by decide)]; exact e'⟩
  · obtain ⟨⟨r, g1⟩, ⟨mo, g2, g3⟩, g4⟩ := hI i hi
    rw [e i hi]
    exact ⟨⟨r, lapse_INV g1⟩, ⟨mo, g2, (lapse_set.1 3 (by omega)).trans g3⟩, rep_pass g4 hkf hR ht⟩
theorem AT_WH (h : AT z c W kf n wr tm T) : WH z c n wr T := fun i hi => ⟨(h.2.2.2.2 i hi).1, (h.2.2.2.2 i hi).2.1⟩
theorem AT_KS (h : AT z c W kf n wr tm T) (hi : i < 6) : KS ((T.2 i).1 0 5) := by
  obtain ⟨r, g⟩ := (h.2.2.2.2 i hi).1
  exact g.1.1
/-- a replay prints as before -/
theorem AT_repl (h : AT z c W kf n wr tm T) : prT (replT kf W n T).2 6 0 = prT T.2 6 0 ∧ GS z W (replT kf W n T) n ∧ ∀ i, i < 6 → KS (((replT kf W n T).2 i).1 0 5) := by
  have hr : ∀ i, i < 6 → SR 26 ((replT kf W n T).2 i) (T.2 i) := fun i hi => by
    have e : (replT kf W n T).2 i = kAnew T.1 W kf n (kEmpty (T.2 i) 0) := if_pos hi
    rw [e]
    exact (h.2.2.2.2 i hi).2.2.1
  have g := GS_repl h.1 (fun i hi => by obtain ⟨r, g⟩ := (h.2.2.2.2 i hi).1; exact INV_IG g) h.2.1
  exact ⟨(prT_SR hr 6 0 (Nat.le_refl _)).symm, g, fun i hi => IG_KS (g.2.1 i hi)⟩
theorem bits_0 {Q : Nat → CS} : ∀ (m : Nat) (b : Int32), m ≤ 5 → bt (kBits Q k m b) 0 = bt b 0
  | 0, _, _ => rfl
  | m + 1, b, hm => by
    unfold kBits
    rw [bits_0 m _ (by omega)]
    split
    · rw [b_or, show (1 : Int32) <<< (nI (5 - m) &&& 31) = bb (5 - m) from rfl, bt_bb (show 5 - m < 32 by omega) (show 0 < 32 by omega), decide_eq_false (show ¬ 0 = 5 - m by omega), Bool.or_false]
    · rw [Int32.or_zero]
/-- the first cache's hit in what a request tells -/
theorem bits_1 {Q : Nat → CS} : (kBits Q k 6 0 &&& 1 = 1) ↔ bt ((Q 0).1 0 5) k = true := by
  have h0 : bt (kBits Q k 6 0) 0 = bt ((Q 0).1 0 5) k := by
    have e : kBits Q k 6 0 = kBits Q k 5 (if bt ((Q 0).1 0 5) k = true then (0 : Int32) ||| (1 <<< (nI 0 &&& 31)) else (0 : Int32) ||| 0) := rfl
    rw [e, bits_0 5 _ (Nat.le_refl _)]
    split
    · rename_i hq
      rw [b_or, show (1 : Int32) <<< (nI 0 &&& 31) = bb 0 from rfl, bt_bb (by omega) (by omega), hq, decide_eq_true rfl, Bool.or_true]
    · rename_i hq
      rw [Bool.not_eq_true] at hq
      rw [Int32.or_zero, b_0, hq]
  rw [← h0]
  constructor
  · intro h
    have : bt (kBits Q k 6 0 &&& 1) 0 = true := by rw [h]; rfl
    rw [b_and, bt_1] at this
    exact (Bool.and_eq_true_iff.mp this).1
  · intro h
    apply b_ext
    intro i hi
    rw [b_and, bt_1]
    by_cases w : i = 0
    · rw [w, h]; rfl
    · rw [decide_eq_false w, Bool.and_false]
end Fa
