/-! THE STUDY as steps of sets; its best is the best -/
section Ca1
variable {s : SD} {kf : Nat → Nat} {sz n m i k x o t : Nat} {rule size : Int32} {ask : Nat → Int32}
theorem ss_bt (hs : KS s.1) (hk : k < 26) (ho : ∀ o, sOut size s k = some o → o < 26) {j : Nat} (hj : j < 26) : bt (sStep rule size ask k i s).1 j = ((bt s.1 j && !decide (sOut size s k = some j)) || decide (j = k)) := by
  show bt ((s.1 &&& (obb (sOut size s k) ^^^ -1)) ||| bb k) j = _
  rw [bt_on hk (by omega), bt_not (by omega)]
  cases e : sOut size s k with
  | none =>
    show ((bt s.1 j && !bt 0 j) || _) = _
    rw [b_0]
    simp
  | some o =>
    show ((bt s.1 j && !bt (bb o) j) || _) = _
    have := ho o e
    rw [bt_bb (by omega) (by omega)]
    by_cases c : j = o
    · subst c; simp
    · have : ¬ (some o = some j) := fun q => c (Option.some.inj q).symm
      rw [decide_eq_false c, decide_eq_false this]
theorem ss_KS (hs : KS s.1) (hk : k < 26) : KS (sStep rule size ask k i s).1 := KS_or (KS_and hs) (KS_bb hk)
theorem ss_hit (hs : KS s.1) (hk : k < 26) (h : bt s.1 k = true) : (sStep rule size ask k i s).1 = s.1 ∧ (sStep rule size ask k i s).2.2.1 = s.2.2.1 + 1 := by
  have e : sOut size s k = none := if_pos h
  refine ⟨KS_ext (ss_KS hs hk) hs fun j hj => ?_, ?_⟩
  · rw [ss_bt hs hk (fun o q => by rw [e] at q; cases q) hj, e]
    by_cases c : j = k
    · rw [c, h]; rfl
    · rw [decide_eq_false c]
      simp
  · show s.2.2.1 + (if bt s.1 k = true then 1 else 0) = _
    rw [if_pos h]
theorem ss_miss (h : bt s.1 k = false) : (sStep rule size ask k i s).2.2.1 = s.2.2.1 := by
  show s.2.2.1 + (if bt s.1 k = true then 1 else 0) = _
  rw [if_neg (by rw [h]; decide)]
  exact Int32.add_zero _
theorem ss_pop (hs : KS s.1) (h0 : sz < 1000) : (pPop s.1 < nI sz) ↔ nK (bt s.1) 26 < sz := by
  rw [pPop_nK hs]
  have := nK_le (f := bt s.1) 26
  exact lt_iL (by omega) (by omega)
theorem bt_fun {a : Int32} {S : Nat → Bool} (hs : KS a) (hS : ∀ j, 26 ≤ j → S j = false) (h : ∀ j, j < 26 → bt a j = S j) : bt a = S := funext fun j => by
  by_cases c : j < 26
  · exact h j c
  · rw [hs j (by omega), hS j (by omega)]
theorem ss_add (hs : KS s.1) (hk : k < 26) (h : bt s.1 k = false) (h0 : sz < 1000) (hc : nK (bt s.1) 26 < sz) : sOut (nI sz) s k = none ∧ bt (sStep rule (nI sz) ask k i s).1 = sAd (bt s.1) k := by
  have e : sOut (nI sz) s k = none := by
    unfold sOut
    rw [if_neg (by rw [h]; decide), if_pos ((ss_pop hs h0).mpr hc)]
  refine ⟨e, bt_fun (ss_KS hs hk) (fun j hj => ?_) fun j hj => ?_⟩
  · show (bt s.1 j || decide (j = k)) = false
    rw [hs j hj, decide_eq_false (by omega)]
    rfl
  · rw [ss_bt hs hk (fun o q => by rw [e] at q; cases q) hj, e]
    show _ = (bt s.1 j || decide (j = k))
    simp
theorem ss_out (hs : KS s.1) (hk : k < 26) (h : bt s.1 k = false) (hp : 0 < sz) (h0 : sz < 1000) (hc : ¬ nK (bt s.1) 26 < sz) : ∃ o, lO s.1 s.2.2.2 = some o ∧ o < 26 ∧ bt s.1 o = true ∧ sOut (nI sz) s k = some o ∧ bt (sStep rule (nI sz) ask k i s).1 = sSw (bt s.1) o k := by
  have e : sOut (nI sz) s k = lO s.1 s.2.2.2 := by
    unfold sOut
    rw [if_neg (by rw [h]; decide), if_neg (fun q => hc ((ss_pop hs h0).mp q))]
  cases q : lO s.1 s.2.2.2 with
  | none =>
    have := (lO_none hs).mp q
    rw [this] at hc
    have : nK (bt 0) 26 = 0 := by
      have : bt 0 = fun _ => false := funext fun j => b_0 j
      rw [this]; decide
    omega
  | some o =>
    obtain ⟨q1, q2⟩ := lO_lt o q
    rw [q] at e
    refine ⟨o, rfl, q1, q2, e, bt_fun (ss_KS hs hk) (fun j hj => ?_) fun j hj => ?_⟩
    · show ((bt s.1 j && _) || decide (j = k)) = false
      rw [hs j hj, Bool.false_and, decide_eq_false (by omega)]
      rfl
    · rw [ss_bt hs hk (fun o' q => by rw [e] at q; cases q; exact q1) hj, e]
      show _ = ((bt s.1 j && !decide (j = o)) || decide (j = k))
      by_cases c : j = o
      · subst c; simp
      · have : ¬ (some o = some j) := fun q => c (Option.some.inj q).symm
        rw [decide_eq_false c, decide_eq_false this]
/-- when a key is asked next: at the earliest here -/
theorem sN_ge : ∀ (m i k : Nat), i + m ≤ 300 → k < 26 → (i ≤ sNext kf m i k ∧ sNext kf m i k < i + m ∨ sNext kf m i k = 300 + k)
  | 0, _, _, _, _ => Or.inr rfl
  | m + 1, i, k, h, hk => by
    unfold sNext
    by_cases c : kf i = k
    · rw [if_pos c]; exact Or.inl ⟨Nat.le_refl _, by omega⟩
    · rw [if_neg c]
      rcases sN_ge m (i + 1) k (by omega) hk with q | q
      · exact Or.inl ⟨by omega, by omega⟩
      · exact Or.inr q
theorem sN_bE : ∀ (m i b a : Nat), i + m ≤ 300 → b < 26 → a ≠ b → sNext kf m i b ≤ sNext kf m i a → bE kf m i b a
  | 0, _, _, _, _, _, _, _ => trivial
  | m + 1, i, b, a, h, hb, hab, hle => by
    unfold sNext at hle
    by_cases c : kf i = b
    · exact Or.inl c
    · rw [if_neg c] at hle
      by_cases d : kf i = a
      · rw [if_pos d] at hle
        rcases sN_ge (kf := kf) m (i + 1) b (by omega) hb with q | q <;> omega
      · rw [if_neg d] at hle
        exact Or.inr ⟨d, sN_bE m (i + 1) b a (by omega) hb hab hle⟩
theorem neg_i (h : k < 1000) : (Int32.toInt64 (-(nI k))).toInt = -(k : Int) := by
  rw [Int32.toInt_toInt64, Int32.toInt_neg, lt_iT (by omega), Int.bmod_eq_of_le (by omega) (by omega)]
/-- the study by the best rule goes the best way -/
def bRk (kf : Nat → Nat) (n i : Nat) (s : SD) : Prop := ∀ k, k < 26 → bt s.1 k = true → s.2.2.2 k = Int32.toInt64 (-(nI (sNext kf (n - i) i k)))
theorem bRk_step (hn : n ≤ 300) (hi : i < n) (hk : kf i < 26) (hs : KS s.1) (ho : ∀ o, sOut size s (kf i) = some o → o < 26) (h : bRk kf n i s) : bRk kf n (i + 1) (sStep (-1) size (sAsk kf n) (kf i) i s) := by
  intro k hk26 hb
  have er : (sStep (-1) size (sAsk kf n) (kf i) i s).2.2.2 = u1 s.2.2.2 (kf i) (sRank (-1) (sAsk kf n) s.2.2.2 (kf i) i) := if_neg (fun q => absurd q.2 (by decide))
  rw [er]
  by_cases c : k = kf i
  · rw [c, u1e]
    unfold sRank
    rw [if_pos (by decide)]
    rfl
  · rw [u1_n c]
    rw [ss_bt hs hk ho hk26, decide_eq_false c, Bool.or_false, Bool.and_eq_true] at hb
    rw [h k hk26 hb.1]
    have e : n - i = n - (i + 1) + 1 := by omega
    rw [e]
    show Int32.toInt64 (-(nI (if kf i = k then i else sNext kf (n - (i + 1)) (i + 1) k))) = _
    rw [if_neg (fun q => c q.symm)]
theorem bB_run (hn : n ≤ 300) (hkf : ∀ i, i < n → kf i < 26) (hp : 0 < sz) (h0 : sz < 1000) : ∀ (m : Nat) (s : SD), m ≤ n → KS s.1 → bRk kf n (n - m) s → ∃ b, b ≤ m ∧ bB sz kf m (n - m) (bt s.1) b ∧ (sFeed (-1) (nI sz) (sAsk kf n) kf n m s).2.2.1 = s.2.2.1 + nI (m - b)
  | 0, s, _, _, _ => ⟨0, Nat.le_refl _, rfl, (Int32.add_zero _).symm⟩
  | m + 1, s, hm, hs, hr => by
    have hi : n - (m + 1) < n := by omega
    have hk := hkf _ hi
    have e1 : n - m = n - (m + 1) + 1 := by omega
    have ho : ∀ o, sOut (nI sz) s (kf (n - (m + 1))) = some o → o < 26 := fun o q => by
      unfold sOut at q
      split at q
      · cases q
      · split at q
        · cases q
        · exact (lO_lt o q).1
    have st := bRk_step hn hi hk hs ho hr
    rw [← e1] at st
    obtain ⟨b, g1, g2, g3⟩ := bB_run hn hkf hp h0 m (sStep (-1) (nI sz) (sAsk kf n) (kf (n - (m + 1))) (n - (m + 1)) s) (by omega) (ss_KS hs hk) st
    rw [e1] at g2
    have g3' : (sFeed (-1) (nI sz) (sAsk kf n) kf n (m + 1) s).2.2.1 = (sStep (-1) (nI sz) (sAsk kf n) (kf (n - (m + 1))) (n - (m + 1)) s).2.2.1 + nI (m - b) := g3
    cases hb : bt s.1 (kf (n - (m + 1))) with
    | true =>
      obtain ⟨f1, f2⟩ := ss_hit (rule := -1) (size := nI sz) (ask := sAsk kf n) (i := n - (m + 1)) hs hk hb
      rw [f1] at g2
      refine ⟨b, by omega, Or.inl ⟨hb, g2⟩, ?_⟩
      rw [g3', f2, Int32.add_assoc]
      congr 1
      rw [show m + 1 - b = 1 + (m - b) by omega, ← lt_iA (j := 1) (k := m - b)]
      rfl
    | false =>
      refine ⟨b + 1, by omega, Or.inr ⟨hb, b, rfl, ?_⟩, ?_⟩
      · by_cases c : nK (bt s.1) 26 < sz
        · rw [(ss_add hs hk hb h0 c).2] at g2
          exact Or.inl ⟨c, g2⟩
        · obtain ⟨o, q1, q2, q3, q4, q5⟩ := ss_out (rule := -1) (ask := sAsk kf n) (i := n - (m + 1)) hs hk hb hp h0 c
          rw [q5] at g2
          refine Or.inr ⟨c, o, q2, q3, fun o' h1 h2 h3 => ?_, g2⟩
          have hmin := lO_min q1 h1 h2
          rw [hr o q2 q3, hr o' h1 h2] at hmin
          have en : n - (n - (m + 1)) = m + 1 := by omega
          rw [en] at hmin
          have sx : ∀ k, bt s.1 k = true → sNext kf (m + 1) (n - (m + 1)) k = sNext kf m (n - (m + 1) + 1) k := fun k hk' => by
            show (if kf (n - (m + 1)) = k then _ else _) = _
            exact if_neg (fun q => by rw [q, hk'] at hb; cases hb)
          rw [sx o q3, sx o' h2] at hmin
          have b1 : ∀ k, k < 26 → sNext kf m (n - (m + 1) + 1) k < 1000 := fun k hk' => by
            rcases sN_ge (kf := kf) m (n - (m + 1) + 1) k (by omega) hk' with q | q <;> omega
          rw [neg_i (b1 o q2), neg_i (b1 o' h1)] at hmin
          exact sN_bE m _ o' o (by omega) h1 (fun q => h3 q.symm) (by omega)
      · rw [g3', ss_miss hb, show m + 1 - (b + 1) = m - b by omega]
/-- hits of the best -/
theorem best_hits (hn : n ≤ 300) (hkf : ∀ i, i < n → kf i < 26) (hp : 0 < sz) (h0 : sz < 1000) : ∃ b, b ≤ n ∧ bB sz kf n 0 (fun _ => false) b ∧ kHits kf n (-1) (nI sz) = nI (n - b) := by
  obtain ⟨b, g1, g2, g3⟩ := bB_run (kf := kf) hn hkf hp h0 n (0, none, 0, fun _ => 0) (Nat.le_refl _) KS_0 (fun k _ hb => by
    have hb' : bt 0 k = true := hb
    rw [b_0] at hb'; cases hb')
  rw [Nat.sub_self] at g2
  have e : bt ((0, none, 0, fun _ => 0) : SD).1 = fun _ => false := funext fun j => b_0 j
  rw [e] at g2
  exact ⟨b, g1, g2, g3.trans (Int32.zero_add _)⟩
/-- by any rule the study goes a way -/
theorem bP_run (hkf : ∀ i, i < n → kf i < 26) (hp : 0 < sz) (h0 : sz < 1000) : ∀ (m : Nat) (s : SD), m ≤ n → KS s.1 → ∃ b, b ≤ m ∧ bP sz kf m (n - m) (bt s.1) b ∧ (sFeed rule (nI sz) ask kf n m s).2.2.1 = s.2.2.1 + nI (m - b)
  | 0, s, _, _ => ⟨0, Nat.le_refl _, rfl, (Int32.add_zero _).symm⟩
  | m + 1, s, hm, hs => by
    have hi : n - (m + 1) < n := by omega
    have hk := hkf _ hi
    have e1 : n - m = n - (m + 1) + 1 := by omega
    obtain ⟨b, g1, g2, g3⟩ := bP_run hkf hp h0 m (sStep rule (nI sz) ask (kf (n - (m + 1))) (n - (m + 1)) s) (by omega) (ss_KS hs hk)
    rw [e1] at g2
    have g3' : (sFeed rule (nI sz) ask kf n (m + 1) s).2.2.1 = (sStep rule (nI sz) ask (kf (n - (m + 1))) (n - (m + 1)) s).2.2.1 + nI (m - b) := g3
    cases hb : bt s.1 (kf (n - (m + 1))) with
    | true =>
      obtain ⟨f1, f2⟩ := ss_hit (rule := rule) (size := nI sz) (ask := ask) (i := n - (m + 1)) hs hk hb
      rw [f1] at g2
      refine ⟨b, by omega, Or.inl ⟨hb, g2⟩, ?_⟩
      rw [g3', f2, Int32.add_assoc]
      congr 1
      rw [show m + 1 - b = 1 + (m - b) by omega, ← lt_iA (j := 1) (k := m - b)]
      rfl
    | false =>
      refine ⟨b + 1, by omega, Or.inr ⟨hb, b, rfl, ?_⟩, ?_⟩
      · by_cases c : nK (bt s.1) 26 < sz
        · rw [(ss_add hs hk hb h0 c).2] at g2
          exact Or.inl ⟨c, g2⟩
        · obtain ⟨o, q1, q2, q3, q4, q5⟩ := ss_out (rule := rule) (ask := ask) (i := n - (m + 1)) hs hk hb hp h0 c
          rw [q5] at g2
          exact Or.inr ⟨c, o, q2, q3, g2⟩
      · rw [g3', ss_miss hb, show m + 1 - (b + 1) = m - b by omega]
theorem rule_hits (hkf : ∀ i, i < n → kf i < 26) (hp : 0 < sz) (h0 : sz < 1000) : ∃ b, b ≤ n ∧ bP sz kf n 0 (fun _ => false) b ∧ kHits kf n rule (nI sz) = nI (n - b) := by
  obtain ⟨b, g1, g2, g3⟩ := bP_run (rule := rule) (ask := sAsk kf n) (kf := kf) hkf hp h0 n (0, none, 0, fun _ => 0) (Nat.le_refl _) KS_0
  rw [Nat.sub_self] at g2
  have e : bt ((0, none, 0, fun _ => 0) : SD).1 = fun _ => false := funext fun j => b_0 j
  rw [e] at g2
  exact ⟨b, g1, g2, g3.trans (Int32.zero_add _)⟩
/-- the best has at least the hits of any other -/
theorem best_ge (hn : n ≤ 300) (hkf : ∀ i, i < n → kf i < 26) (hp : 0 < sz) (h0 : sz < 1000) : ∃ a b, a ≤ n ∧ b ≤ a ∧ kHits kf n (-1) (nI sz) = nI a ∧ kHits kf n rule (nI sz) = nI b := by
  obtain ⟨b, g1, g2, g3⟩ := best_hits (kf := kf) hn hkf hp h0
  obtain ⟨c, f1, f2, f3⟩ := rule_hits (rule := rule) (kf := kf) hkf hp h0
  have := bB_best n 0 _ b c (fun j hj => hkf j (by omega)) g2 f2
  exact ⟨n - b, n - c, by omega, by omega, g3, f3⟩
end Ca1
