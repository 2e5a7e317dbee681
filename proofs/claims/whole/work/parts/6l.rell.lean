/-! THE RELATION: plays of the row -/
/-- ranks of held keys, by the rule -/
def PRk (kf : Nat → Nat) (n : Nat) (rule : Int32) (i : Nat) (held : Int32) (rk : Nat → Int64) (came : Nat → Int32) : Prop :=
  (rule = 2 → ∀ k, k < 26 → bt held k = true → ∃ j, j < i ∧ came k = nI j ∧ rk k = Int32.toInt64 (nI j)) ∧ (rule = 1 → ∀ k, k < 26 → rk k = Int32.toInt64 (nI (fwN kf k 0 i))) ∧
  (rule = 0 → ∀ k, k < 26 → bt held k = true → rk k = Int32.toInt64 (nI (qLastZ kf k i))) ∧ (rule = -1 → ∀ k, k < 26 → bt held k = true → rk k = Int32.toInt64 (-(nI (sNext kf (n - i) i k)))) ∧
  ∀ k, k < 26 → bt held k = true → lastTo kf k 0 i ≠ none
def PR (kf : Nat → Nat) (n : Nat) (rule : Int32) (size i : Nat) (s : SD) (p : Nat × Nat × (Nat → Bool) × (Nat → Int32) × Option Nat) : Prop :=
  KS s.1 ∧ (∀ k, k < 26 → bt s.1 k = p.2.2.1 k) ∧ s.2.2.1 = nI p.1 ∧ p.2.1 = nK (bt s.1) 26 ∧ p.2.1 ≤ size ∧ s.2.1 = p.2.2.2.2 ∧ PRk kf n rule i s.1 s.2.2.2 p.2.2.2.1
section Rv'
variable {kf : Nat → Nat} {n i j k t m size a b x : Nat} {rule held : Int32} {rk : Nat → Int64} {came : Nat → Int32} {s : SD} {p : Nat × Nat × (Nat → Bool) × (Nat → Int32) × Option Nat}
theorem nextTo_n : ∀ (m : Nat), m ≤ n → (nextTo kf n k m = n ∧ sNext kf m (n - m) k = 300 + k) ∨ (n - m ≤ nextTo kf n k m ∧ nextTo kf n k m < n ∧ kf (nextTo kf n k m) = k ∧ sNext kf m (n - m) k = nextTo kf n k m)
  | 0, _ => Or.inl ⟨rfl, rfl⟩
  | m + 1, hm => by
    unfold nextTo sNext
    by_cases c : kf (n - (m + 1)) = k
    · rw [if_pos c, if_pos c]
      exact Or.inr ⟨Nat.le_refl _, by omega, c, rfl⟩
    · rw [if_neg c, if_neg c, show n - (m + 1) + 1 = n - m by omega]
      rcases nextTo_n m (by omega) with h | ⟨h1, h2⟩
      · exact Or.inl h
      · exact Or.inr ⟨by omega, h2⟩
theorem sNext_le : ∀ (m i : Nat), k < 26 → i + m ≤ 300 → sNext kf m i k < 326
  | 0, i, hk, _ => by show 300 + k < 326; omega
  | m + 1, i, hk, h => by
    unfold sNext
    split
    · omega
    · exact sNext_le m (i + 1) hk (by omega)
theorem neg64 (ha : a < 2147483648) : (Int32.toInt64 (-(nI a))).toInt = -(a : Int) := by
  rw [Int32.toInt_toInt64]
  have h1 := lt_iT (k := a) ha
  rw [Int32.toInt_neg, h1, Int.bmod_eq_of_le (by omega) (by omega)]
theorem neg64_lt (ha : a < 2147483648) (hb : b < 2147483648) : (Int32.toInt64 (-(nI a)) < Int32.toInt64 (-(nI b))) ↔ b < a := by
  rw [Int64.lt_iff_toInt_lt, neg64 ha, neg64 hb]
  omega
/-- ahead by the ranks is ahead by going through the row -/
theorem PRk_ga (h : PRk kf n rule i held rk came) (hr : rule = 2 ∨ rule = 1 ∨ rule = 0 ∨ rule = -1) (hi : i ≤ n) (hn : n ≤ 300) (ha : a < 26) (hb : b < a) (ca : bt held a = true) (cb : bt held b = true) : decide (rk a < rk b) = qGA kf n rule came i a b := by
  obtain ⟨h2, h1, h0, hm, hl⟩ := h
  have hb' : b < 26 := by omega
  unfold qGA
  rcases hr with e | e | e | e
  · rw [if_pos e]
    obtain ⟨p, p1, p2, p3⟩ := h2 e a ha ca
    obtain ⟨q, q1, q2, q3⟩ := h2 e b hb' cb
    rw [p2, p3, q2, q3]
    exact decide_eq_decide.mpr ((L64_lt (by omega) (by omega)).trans (lt_iL (by omega) (by omega)).symm)
  · rw [if_neg (by rw [e]; decide), if_neg (by rw [e]; decide), h1 e a ha, h1 e b hb']
    have la := hl a ha ca
    have lb := hl b hb' cb
    have fa := fwN_le (kf := kf) (k := a) (f := 0) (t := i) (by omega)
    have fb := fwN_le (kf := kf) (k := b) (f := 0) (t := i) (by omega)
    unfold qLastZ
    cases ea : lastTo kf a 0 i with
    | none => exact absurd ea la
    | some p =>
      cases eb : lastTo kf b 0 i with
      | none => exact absurd eb lb
      | some q =>
        have sa := fwN_s i p (by omega) ea
        have sb := fwN_s i q (by omega) eb
        have pa := (lastTo_lt i ea).1
        have pb := (lastTo_lt i eb).1
        dsimp only
        by_cases c : cntTo kf a 0 i = cntTo kf b 0 i
        · rw [if_neg (fun q => q.2 c)]
          refine decide_eq_decide.mpr ?_
          rw [L64_lt (by omega) (by omega)]
          omega
        · rw [if_pos ⟨e, c⟩]
          refine decide_eq_decide.mpr ?_
          rw [L64_lt (by omega) (by omega)]
          omega
  · rw [if_neg (by rw [e]; decide), if_neg (by rw [e]; decide), if_neg (by rw [e]; exact fun q => absurd q.1 (by decide)), h0 e a ha ca, h0 e b hb' cb]
    have pa := qLastZ_lt (kf := kf) (k := a) (i := i)
    have pb := qLastZ_lt (kf := kf) (k := b) (i := i)
    exact decide_eq_decide.mpr (L64_lt (by omega) (by omega))
  · rw [if_neg (by rw [e]; decide), if_pos e, hm e a ha ca, hm e b hb' cb]
    have la := sNext_le (kf := kf) (n - i) i ha (by omega)
    have lb := sNext_le (kf := kf) (n - i) i hb' (by omega)
    have na := nextTo_n (kf := kf) (n := n) (k := a) (n - i) (by omega)
    have nb := nextTo_n (kf := kf) (n := n) (k := b) (n - i) (by omega)
    rw [show n - (n - i) = i by omega] at na nb
    have e1 : (decide (Int32.toInt64 (-(nI (sNext kf (n - i) i a))) < Int32.toInt64 (-(nI (sNext kf (n - i) i b))))) = decide (sNext kf (n - i) i b < sNext kf (n - i) i a) := decide_eq_decide.mpr (neg64_lt (by omega) (by omega))
    rw [e1]
    rcases na with ⟨x1, x2⟩ | ⟨x0, x1, x2, x3⟩
    · rcases nb with ⟨y1, y2⟩ | ⟨y0, y1, y2, y3⟩
      · rw [x1, x2, y1, y2, decide_eq_false (p := n < n) (by omega), decide_eq_true (p := n = n) rfl, Bool.false_or, Bool.true_and]
        exact decide_eq_decide.mpr (by omega)
      · rw [x1, x2, y3, decide_eq_true (p := nextTo kf n b (n - i) < n) y1, decide_eq_true (p := nextTo kf n b (n - i) < 300 + a) (by omega)]
        rfl
    · rcases nb with ⟨y1, y2⟩ | ⟨y0, y1, y2, y3⟩
      · rw [x3, y1, y2, decide_eq_false (p := 300 + b < nextTo kf n a (n - i)) (by omega), decide_eq_false (p := n < nextTo kf n a (n - i)) (by omega), decide_eq_false (p := n = nextTo kf n a (n - i)) (by omega)]
        rfl
      · have hne : nextTo kf n b (n - i) ≠ nextTo kf n a (n - i) := fun q => by
          rw [q] at y2
          omega
        rw [x3, y3, decide_eq_false hne, Bool.false_and, Bool.or_false]
/-- ranks behind one more request -/
theorem PRk_step {held' : Int32} {rk' : Nat → Int64} {came' : Nat → Int32} (h : PRk kf n rule i held rk came) (hi : i < n) (hn : n ≤ 300) (hx : kf i < 26)
    (hsub : ∀ k, k < 26 → k ≠ kf i → bt held' k = true → bt held k = true) (hro : ∀ k, k ≠ kf i → rk' k = rk k) (hco : ∀ k, k ≠ kf i → came' k = came k)
    (hr2 : rule = 2 → ∃ j, j < i + 1 ∧ came' (kf i) = nI j ∧ rk' (kf i) = Int32.toInt64 (nI j)) (hr : rule ≠ 2 → rk' (kf i) = sRank rule (sAsk kf n) rk (kf i) i) : PRk kf n rule (i + 1) held' rk' came' := by
  obtain ⟨h2, h1, h0, hm, hl⟩ := h
  refine ⟨fun e k hk hb => ?_, fun e k hk => ?_, fun e k hk hb => ?_, fun e k hk hb => ?_, fun k hk hb => ?_⟩
  · by_cases c : k = kf i
    · rw [c]; exact hr2 e
    · obtain ⟨j, j1, j2⟩ := h2 e k hk (hsub k hk c hb)
      rw [hro k c, hco k c]
      exact ⟨j, by omega, j2⟩
  · unfold fwN
    by_cases c : k = kf i
    · rw [c, if_pos ⟨Nat.zero_le _, rfl⟩, hr (by rw [e]; decide)]
      unfold sRank
      rw [if_neg (by rw [e]; decide), if_pos (by rw [e]; decide), h1 e (kf i) hx, pRank_N (fwN_le (by omega)) (by omega)]
    · rw [if_neg (fun q => c q.2.symm), hro k c]
      exact h1 e k hk
  · rw [qLastZ_s]
    by_cases c : k = kf i
    · rw [c, if_pos rfl, hr (by rw [e]; decide)]
      unfold sRank
      rw [if_neg (by rw [e]; decide), if_neg (by rw [e]; decide)]
    · rw [if_neg (fun q => c q.symm), hro k c]
      exact h0 e k hk (hsub k hk c hb)
  · by_cases c : k = kf i
    · rw [c, hr (by rw [e]; decide)]
      unfold sRank
      rw [if_pos (by rw [e]; decide)]
      rfl
    · rw [hro k c, hm e k hk (hsub k hk c hb)]
      have : sNext kf (n - i) i k = sNext kf (n - (i + 1)) (i + 1) k := by
        rw [show n - i = n - (i + 1) + 1 by omega]
        show (if kf i = k then i else sNext kf (n - (i + 1)) (i + 1) k) = _
        rw [if_neg (fun q => c q.symm)]
      rw [this]
  · unfold lastTo
    by_cases c : k = kf i
    · rw [if_pos ⟨Nat.zero_le _, c.symm⟩]
      exact fun e => by cases e
    · rw [if_neg (fun q => c q.2.symm)]
      exact hl k hk (hsub k hk c hb)
theorem nK_plus {h1' h2' : Nat → Bool} (ha : a < 26) (h1 : h1' a = false) (h2 : h2' a = true) (ho : ∀ k, k < 26 → k ≠ a → h2' k = h1' k) : nK h2' 26 = nK h1' 26 + 1 := (nK_minus 26 ha h2 h1 (fun k hk hne => (ho k hk hne).symm)).symm
/-- one request played -/
theorem PR_step (h : PR kf n rule size i s p) (hr : rule = 2 ∨ rule = 1 ∨ rule = 0 ∨ rule = -1) (hi : i < n) (hn : n ≤ 300) (hx : kf i < 26) (hsz : 0 < size) (hsz2 : size < 1000) : PR kf n rule size (i + 1) (sStep rule (nI size) (sAsk kf n) (kf i) i s) (qPlay1 kf n rule size i p) := by
  obtain ⟨h1, h2, h3, h4, h5, h6, h7⟩ := h
  have hnk := nK_le (f := bt s.1) 26
  have hpop := pPop_nK h1
  have hx2 := h2 (kf i) hx
  unfold qPlay1
  by_cases c : bt s.1 (kf i) = true
  · -- a hit
    rw [if_pos (by rw [← hx2]; exact c)]
    have e1 : sStep rule (nI size) (sAsk kf n) (kf i) i s = ((s.1 &&& (0 ^^^ -1)) ||| bb (kf i), none, s.2.2.1 + 1, if rule = 2 then s.2.2.2 else u1 s.2.2.2 (kf i) (sRank rule (sAsk kf n) s.2.2.2 (kf i) i)) := by
      have eo : sOut (nI size) s (kf i) = none := if_pos c
      unfold sStep
      rw [eo, c]
      simp only [true_and, if_true]
      rfl
    have e2 : (s.1 &&& (0 ^^^ -1)) ||| bb (kf i) = s.1 := KS_ext (KS_or (KS_and h1) (KS_bb hx)) h1 (fun k hk => by
      rw [bt_on hx (by omega), bt_not (by omega), b_0, Bool.not_false, Bool.and_true]
      by_cases d : k = kf i
      · rw [d, c]; rfl
      · rw [decide_eq_false d, Bool.or_false])
    rw [e1, e2]
    refine ⟨h1, h2, ?_, h4, h5, rfl, ?_⟩
    · show s.2.2.1 + 1 = nI (p.1 + 1)
      rw [h3]
      exact lt_iA (j := p.1) (k := 1)
    · refine PRk_step h7 hi hn hx (fun _ _ _ h => h) (fun k hk => ?_) (fun _ _ => rfl) (fun e => ?_) (fun e => ?_)
      · show (if rule = 2 then s.2.2.2 else u1 s.2.2.2 (kf i) _) k = _
        split
        · rfl
        · exact u1_n hk
      · obtain ⟨j, j1, j2, j3⟩ := h7.1 e (kf i) hx c
        exact ⟨j, by omega, j2, by
          show (if rule = 2 then s.2.2.2 else u1 s.2.2.2 (kf i) _) (kf i) = _
          rw [if_pos e]; exact j3⟩
      · show (if rule = 2 then s.2.2.2 else u1 s.2.2.2 (kf i) (sRank rule (sAsk kf n) s.2.2.2 (kf i) i)) (kf i) = _
        rw [if_neg e, u1e]
  · have c' : bt s.1 (kf i) = false := by simpa using c
    rw [if_neg (by rw [← hx2]; exact c)]
    have hrk : ∀ (out : Option Nat), sOut (nI size) s (kf i) = out → sStep rule (nI size) (sAsk kf n) (kf i) i s = ((s.1 &&& (obb out ^^^ -1)) ||| bb (kf i), out, s.2.2.1 + 0, u1 s.2.2.2 (kf i) (sRank rule (sAsk kf n) s.2.2.2 (kf i) i)) := fun out eo => by
      unfold sStep
      rw [eo, c']
      simp only [Bool.false_eq_true, false_and, if_false]
    have hrank : ∀ (held' : Int32) (came' : Nat → Int32), (∀ k, k < 26 → k ≠ kf i → bt held' k = true → bt s.1 k = true) → came' = upd p.2.2.2.1 (kf i) (nI i) → PRk kf n rule (i + 1) held' (u1 s.2.2.2 (kf i) (sRank rule (sAsk kf n) s.2.2.2 (kf i) i)) came' := fun held' came' hs hc => by
      refine PRk_step h7 hi hn hx hs (fun k hk => u1_n hk) (fun k hk => by rw [hc]; exact upd_o hk) (fun e => ⟨i, by omega, by rw [hc]; exact upd_s, ?_⟩) (fun _ => u1e)
      rw [u1e]
      unfold sRank
      rw [if_neg (by rw [e]; decide), if_neg (by rw [e]; decide)]
    by_cases d : p.2.1 = size
    · -- full
      rw [if_pos d]
      have hlo : lO s.1 s.2.2.2 = qFst p.2.2.1 (qGA kf n rule p.2.2.2.1 i) 26 none := lO_q h2 (fun a b ha hb ca cb => PRk_ga h7 hr (by omega) hn ha hb (by rw [h2 a ha]; exact ca) (by rw [h2 b (by omega)]; exact cb))
      have eo : sOut (nI size) s (kf i) = qFst p.2.2.1 (qGA kf n rule p.2.2.2.1 i) 26 none := by
        unfold sOut
        rw [if_neg c, if_neg (by rw [hpop, ← h4, d, lt_iL (by omega) (by omega)]; omega)]
        exact hlo
      cases eg : qFst p.2.2.1 (qGA kf n rule p.2.2.2.1 i) 26 none with
      | none =>
        rw [eg] at hlo
        have := (lO_none h1).mp hlo
        rw [this] at h4
        have z : nK (bt 0) 26 = 0 := by decide
        omega
      | some g =>
        rw [eg] at hlo eo
        obtain ⟨g1, g2⟩ := lO_lt g hlo
        have gx : g ≠ kf i := fun e => by rw [e, c'] at g2; cases g2
        rw [hrk (some g) eo]
        have hb' : ∀ k, k < 26 → bt ((s.1 &&& (obb (some g) ^^^ -1)) ||| bb (kf i)) k = ((bt s.1 k && !decide (k = g)) || decide (k = kf i)) := fun k hk => by
          rw [bt_on hx (by omega)]
          show (bt (s.1 &&& (bb g ^^^ -1)) k || _) = _
          rw [bt_off g1 (by omega)]
        refine ⟨KS_or (KS_and h1) (KS_bb hx), fun k hk => ?_, by rw [Int32.add_zero]; exact h3, ?_, h5, rfl, hrank _ _ (fun k hk hne hb => ?_) rfl⟩
        · rw [hb' k hk]
          show _ = if k = kf i then true else if some g = some k then false else p.2.2.1 k
          by_cases e : k = kf i
          · rw [if_pos e, decide_eq_true e, Bool.or_true]
          · rw [if_neg e, decide_eq_false e, Bool.or_false]
            by_cases e2 : k = g
            · rw [e2, if_pos rfl, decide_eq_true rfl]; exact Bool.and_false _
            · rw [if_neg (fun q => e2 (by cases q; rfl)), decide_eq_false e2, Bool.not_false, Bool.and_true]
              exact h2 k hk
        · show p.2.1 = nK (bt ((s.1 &&& (obb (some g) ^^^ -1)) ||| bb (kf i))) 26
          have q1 := nK_minus (h1' := bt s.1) (h2' := fun k => bt s.1 k && !decide (k = g)) 26 g1 g2 (by rw [decide_eq_true rfl]; exact Bool.and_false _) (fun k _ hne => by rw [decide_eq_false hne]; exact Bool.and_true _)
          have q2 := nK_plus (h1' := fun k => bt s.1 k && !decide (k = g)) (h2' := bt ((s.1 &&& (obb (some g) ^^^ -1)) ||| bb (kf i))) hx (by rw [c']; rfl) (by rw [hb' _ hx, decide_eq_true rfl, Bool.or_true]) (fun k hk hne => by rw [hb' k hk, decide_eq_false hne, Bool.or_false])
          omega
        · rw [hb' k hk, decide_eq_false hne, Bool.or_false] at hb
          exact ((Bool.and_eq_true _ _).mp hb).1
    · -- room
      rw [if_neg d]
      have eo : sOut (nI size) s (kf i) = none := by
        unfold sOut
        rw [if_neg c, if_pos (by rw [hpop, ← h4]; exact (lt_iL (by omega) (by omega)).mpr (by omega))]
      rw [hrk none eo]
      have hb' : ∀ k, k < 26 → bt ((s.1 &&& (obb none ^^^ -1)) ||| bb (kf i)) k = (bt s.1 k || decide (k = kf i)) := fun k hk => by
        rw [bt_on hx (by omega)]
        show (bt (s.1 &&& (0 ^^^ -1)) k || _) = _
        rw [bt_not (by omega), b_0, Bool.not_false, Bool.and_true]
      refine ⟨KS_or (KS_and h1) (KS_bb hx), fun k hk => ?_, by rw [Int32.add_zero]; exact h3, ?_, by show p.2.1 + 1 ≤ size; omega, rfl, hrank _ _ (fun k hk hne hb => ?_) rfl⟩
      · rw [hb' k hk]
        show _ = if k = kf i then true else p.2.2.1 k
        by_cases e : k = kf i
        · rw [if_pos e, decide_eq_true e, Bool.or_true]
        · rw [if_neg e, decide_eq_false e, Bool.or_false]
          exact h2 k hk
      · show p.2.1 + 1 = nK (bt ((s.1 &&& (obb none ^^^ -1)) ||| bb (kf i))) 26
        have q2 := nK_plus (h1' := bt s.1) (h2' := bt ((s.1 &&& (obb none ^^^ -1)) ||| bb (kf i))) hx c' (by rw [hb' _ hx, decide_eq_true rfl, Bool.or_true]) (fun k hk hne => by rw [hb' k hk, decide_eq_false hne, Bool.or_false])
        omega
      · rw [hb' k hk, decide_eq_false hne, Bool.or_false] at hb
        exact hb
theorem PR_all (hr : rule = 2 ∨ rule = 1 ∨ rule = 0 ∨ rule = -1) (hn : n ≤ 300) (hk : ∀ i, i < n → kf i < 26) (hsz : 0 < size) (hsz2 : size < 1000) (ht : t ≤ n) : ∀ (m : Nat) (s : SD) (p : Nat × Nat × (Nat → Bool) × (Nat → Int32) × Option Nat), m ≤ t → PR kf n rule size (t - m) s p →
    PR kf n rule size t (sFeed rule (nI size) (sAsk kf n) kf t m s) (qPlays kf n rule size t m p)
  | 0, s, p, _, h => h
  | m + 1, s, p, hm, h => by
    have := PR_step h hr (by omega) hn (hk _ (by omega)) hsz hsz2
    rw [show t - (m + 1) + 1 = t - m by omega] at this
    exact PR_all hr hn hk hsz hsz2 ht m _ _ (by omega) this
/-- the class's play and the reference's -/
theorem play_eq (hr : rule = 2 ∨ rule = 1 ∨ rule = 0 ∨ rule = -1) (hn : n ≤ 300) (hk : ∀ i, i < n → kf i < 26) (hsz : 0 < size) (hsz2 : size < 1000) (ht : t ≤ n) (c0 : Nat → Int32) : PR kf n rule size t (sPlay rule (nI size) kf n t) (qPlay kf n rule size t c0) := by
  refine PR_all hr hn hk hsz hsz2 ht t _ _ (Nat.le_refl _) ?_
  rw [Nat.sub_self]
  refine ⟨KS_0, fun k _ => b_0 k, rfl, (show 0 = nK (bt 0) 26 by decide), Nat.zero_le _, rfl, fun _ k _ hb => (by rw [b_0] at hb; cases hb), fun _ k _ => (show (0 : Int64) = Int32.toInt64 (nI 0) by decide), fun _ k _ hb => (by rw [b_0] at hb; cases hb), fun _ k _ hb => (by rw [b_0] at hb; cases hb), fun k _ hb => (by rw [b_0] at hb; cases hb)⟩
end Rv'
