/-! THE RELATION: last use by distances, errors, phases -/
def abv (kf : Nat → Nat) (t k y : Nat) : Bool := decide (laN kf k 0 t < laN kf y 0 t)
/-- what a cache by last use holds -/
def LR (kf : Nat → Nat) (size t : Nat) (s : SD) : Prop :=
  KS s.1 ∧ (∀ k y, k < 26 → y < 26 → bt s.1 k = true → abv kf t k y = true → bt s.1 y = true) ∧ (nK (bt s.1) 26 < size → ∀ k, k < 26 → 0 < laN kf k 0 t → bt s.1 k = true) ∧ nK (bt s.1) 26 ≤ size ∧
  ∀ k, k < 26 → bt s.1 k = true → 0 < laN kf k 0 t ∧ s.2.2.2 k = Int32.toInt64 (nI (laN kf k 0 t - 1))
section Rw'
variable {kf : Nat → Nat} {n i j k t m size a b x : Nat} {rule set sz : Int32} {ask : Nat → Int32} {s : SD} {f g : Nat → Bool}
theorem laN_x : laN kf (kf t) 0 (t + 1) = t + 1 := by rw [laN_s, if_pos ⟨Nat.zero_le _, rfl⟩]
theorem laN_o (h : k ≠ kf t) : laN kf k 0 (t + 1) = laN kf k 0 t := by rw [laN_s, if_neg (fun q => h q.2.symm)]
theorem nK_mono (h : ∀ k, k < 26 → f k = true → g k = true) : ∀ n, n ≤ 26 → nK f n ≤ nK g n
  | 0, _ => Nat.le_refl _
  | n + 1, hn => by
    have ih := nK_mono h n (by omega)
    show nK f n + (f n).toNat ≤ nK g n + (g n).toNat
    cases e : f n
    · exact Nat.le_trans ih (Nat.le_add_right _ _)
    · rw [h n (by omega) e]
      exact Nat.add_le_add_right ih _
theorem nK_lt2 (ha : a < 26) (h1 : f a = false) (h2 : g a = true) (h : ∀ k, k < 26 → f k = true → g k = true) : nK f 26 + 1 ≤ nK g 26 := by
  have e := nK_minus (h1' := g) (h2' := fun k => g k && !decide (k = a)) 26 ha h2 (by rw [decide_eq_true rfl]; exact Bool.and_false _) (fun k _ hne => by rw [decide_eq_false hne]; exact Bool.and_true _)
  rw [← e]
  refine Nat.succ_le_succ (nK_mono (fun k hk hf => ?_) 26 (Nat.le_refl _))
  rw [h k hk hf]
  have : k ≠ a := fun q => by rw [q, h1] at hf; cases hf
  rw [decide_eq_false this]
  rfl
theorem LR_mem (h : LR kf size t s) (hk : k < 26) : bt s.1 k = (decide (0 < laN kf k 0 t) && decide (nK (abv kf t k) 26 < size)) := by
  obtain ⟨h1, h2, h3, h4, h5⟩ := h
  have self : abv kf t k k = false := decide_eq_false (Nat.lt_irrefl _)
  cases e : bt s.1 k
  · by_cases c : 0 < laN kf k 0 t
    · have hs : ¬ nK (bt s.1) 26 < size := fun q => by rw [h3 q k hk c] at e; cases e
      have : nK (bt s.1) 26 ≤ nK (abv kf t k) 26 := nK_mono (fun y hy hb => by
        unfold abv
        refine decide_eq_true ?_
        by_cases q : laN kf k 0 t < laN kf y 0 t
        · exact q
        · exfalso
          by_cases q2 : laN kf y 0 t < laN kf k 0 t
          · have := h2 y k hy hk hb (decide_eq_true q2)
            rw [e] at this; cases this
          · have hyk : y ≠ k := fun q => by rw [q, e] at hb; cases hb
            have e1 : laN kf y 0 t = laN kf k 0 t := by omega
            have u : ∀ t, laN kf y 0 t = laN kf k 0 t → 0 < laN kf k 0 t → y = k := fun t => by
              unfold laN
              cases ea : lastTo kf y 0 t with
              | none =>
                cases eb : lastTo kf k 0 t with
                | none => exact fun _ h => absurd h (Nat.lt_irrefl _)
                | some b => exact fun h _ => by cases h
              | some a =>
                cases eb : lastTo kf k 0 t with
                | none => exact fun h _ => absurd h (Nat.succ_ne_zero _)
                | some b =>
                  intro h _
                  have : a = b := by injection h
                  rw [← (lastTo_lt t ea).2.2, ← (lastTo_lt t eb).2.2, this]
            exact hyk (u t e1 c)) 26 (Nat.le_refl _)
      rw [decide_eq_false (p := nK (abv kf t k) 26 < size) (by omega), Bool.and_false]
    · rw [decide_eq_false c, Bool.false_and]
  · rw [decide_eq_true (h5 k hk e).1, Bool.true_and]
    refine (decide_eq_true ?_).symm
    have := nK_lt2 (f := abv kf t k) (g := bt s.1) hk self e (fun y hy hb => h2 k y hk hy e hb)
    omega
theorem LR_step (h : LR kf size t s) (hx : kf t < 26) (ht : t < 300) (hsz : 0 < size) (hsz2 : size < 1000) : LR kf size (t + 1) (sStep 0 (nI size) ask (kf t) t s) := by
  have hmem := h
  obtain ⟨h1, h2, h3, h4, h5⟩ := h
  have hpop := pPop_nK h1
  have hnk := nK_le (f := bt s.1) 26
  have hL : ∀ k, laN kf k 0 t ≤ t := fun k => laN_le
  have hrank : ∀ k, (sStep 0 (nI size) ask (kf t) t s).2.2.2 k = if k = kf t then Int32.toInt64 (nI t) else s.2.2.2 k := fun k => by
    show (if bt s.1 (kf t) = true ∧ (0 : Int32) = 2 then s.2.2.2 else u1 s.2.2.2 (kf t) (sRank 0 ask s.2.2.2 (kf t) t)) k = _
    rw [if_neg (fun q => absurd q.2 (by decide))]
    by_cases c : k = kf t
    · rw [if_pos c, c, u1e]
      unfold sRank
      rw [if_neg (by decide), if_neg (by decide)]
    · rw [if_neg c, u1_n c]
  have hab : ∀ k y, k ≠ kf t → y ≠ kf t → abv kf (t + 1) k y = abv kf t k y := fun k y a b => by
    unfold abv
    rw [laN_o a, laN_o b]
  have fin : ∀ held' : Int32, (sStep 0 (nI size) ask (kf t) t s).1 = held' → KS held' → bt held' (kf t) = true → (∀ k, k < 26 → k ≠ kf t → bt held' k = true → bt s.1 k = true) →
      (∀ k y, k < 26 → y < 26 → k ≠ kf t → y ≠ kf t → bt held' k = true → abv kf t k y = true → bt held' y = true) → (nK (bt held') 26 < size → ∀ k, k < 26 → k ≠ kf t → 0 < laN kf k 0 t → bt held' k = true) → nK (bt held') 26 ≤ size → LR kf size (t + 1) (sStep 0 (nI size) ask (kf t) t s) := fun held' e k1 k2 k3 k4 k5 k6 => by
    refine ⟨by rw [e]; exact k1, fun k y hk hy hb ha => ?_, fun hc k hk hp => ?_, by rw [e]; exact k6, fun k hk hb => ?_⟩
    · rw [e] at hb ⊢
      by_cases c : y = kf t
      · rw [c]; exact k2
      · by_cases d : k = kf t
        · have h0 : laN kf k 0 (t + 1) < laN kf y 0 (t + 1) := of_decide_eq_true ha
          rw [d, laN_x, laN_o c] at h0
          have := hL y
          omega
        · rw [hab k y d c] at ha
          exact k4 k y hk hy d c hb ha
    · rw [e] at hc ⊢
      by_cases d : k = kf t
      · rw [d]; exact k2
      · rw [laN_o d] at hp
        exact k5 hc k hk d hp
    · rw [e] at hb
      rw [hrank]
      by_cases d : k = kf t
      · rw [d, if_pos rfl, laN_x]
        exact ⟨by omega, by rw [Nat.add_sub_cancel]⟩
      · rw [if_neg d, laN_o d]
        exact h5 k hk (k3 k hk d hb)
  by_cases c : bt s.1 (kf t) = true
  · have e2 : (s.1 &&& (0 ^^^ -1)) ||| bb (kf t) = s.1 := KS_ext (KS_or (KS_and h1) (KS_bb hx)) h1 (fun k hk => by
      rw [bt_on hx (by omega), bt_not (by omega), b_0, Bool.not_false, Bool.and_true]
      by_cases d : k = kf t
      · rw [d, c]; rfl
      · rw [decide_eq_false d, Bool.or_false])
    refine fin s.1 ?_ h1 c (fun _ _ _ h => h) (fun k y hk hy _ _ hb ha => h2 k y hk hy hb ha) (fun hc k hk _ hp => h3 hc k hk hp) h4
    have eo : sOut (nI size) s (kf t) = none := if_pos c
    show (s.1 &&& (obb (sOut (nI size) s (kf t)) ^^^ -1)) ||| bb (kf t) = s.1
    rw [eo]
    exact e2
  · have c' : bt s.1 (kf t) = false := by simpa using c
    by_cases d : nK (bt s.1) 26 < size
    · have eo : sOut (nI size) s (kf t) = none := by
        unfold sOut
        rw [if_neg c, if_pos (by rw [hpop]; exact (lt_iL (by omega) (by omega)).mpr d)]
      have hb' : ∀ k, k < 26 → bt ((s.1 &&& (0 ^^^ -1)) ||| bb (kf t)) k = (bt s.1 k || decide (k = kf t)) := fun k hk => by
        rw [bt_on hx (by omega), bt_not (by omega), b_0, Bool.not_false, Bool.and_true]
      have q2 := nK_plus (h1' := bt s.1) (h2' := bt ((s.1 &&& (0 ^^^ -1)) ||| bb (kf t))) hx c' (by rw [hb' _ hx, decide_eq_true rfl, Bool.or_true]) (fun k hk hne => by rw [hb' k hk, decide_eq_false hne, Bool.or_false])
      refine fin _ (by show (s.1 &&& (obb (sOut (nI size) s (kf t)) ^^^ -1)) ||| bb (kf t) = _; rw [eo]) (KS_or (KS_and h1) (KS_bb hx)) (by show bt ((s.1 &&& (0 ^^^ -1)) ||| bb (kf t)) (kf t) = true; rw [hb' _ hx, decide_eq_true rfl, Bool.or_true]) (fun k hk hne hb => ?_) (fun k y hk hy hk' hy' hb ha => ?_) (fun _ k hk hne hp => ?_) ?_
      · rw [show (s.1 &&& (0 ^^^ -1)) ||| bb (kf t) = (s.1 &&& (obb none ^^^ -1)) ||| bb (kf t) from rfl] at hb'
        rw [hb' k hk, decide_eq_false hne, Bool.or_false] at hb
        exact hb
      · show bt ((s.1 &&& (0 ^^^ -1)) ||| bb (kf t)) y = true
        have hb2 : bt ((s.1 &&& (0 ^^^ -1)) ||| bb (kf t)) k = true := hb
        rw [hb' k hk, decide_eq_false hk', Bool.or_false] at hb2
        rw [hb' y hy, h2 k y hk hy hb2 ha]
        rfl
      · show bt ((s.1 &&& (0 ^^^ -1)) ||| bb (kf t)) k = true
        rw [hb' k hk, h3 d k hk hp]
        rfl
      · show nK (bt ((s.1 &&& (0 ^^^ -1)) ||| bb (kf t))) 26 ≤ size
        omega
    · have eo : sOut (nI size) s (kf t) = lO s.1 s.2.2.2 := by
        unfold sOut
        rw [if_neg c, if_neg (by rw [hpop, lt_iL (by omega) (by omega)]; exact d)]
      cases eg : lO s.1 s.2.2.2 with
      | none =>
        have := (lO_none h1).mp eg
        rw [this, show nK (bt 0) 26 = 0 by decide] at d
        omega
      | some p =>
        obtain ⟨p1, p2⟩ := lO_lt p eg
        have px : p ≠ kf t := fun e => by rw [e, c'] at p2; cases p2
        rw [eg] at eo
        have hb' : ∀ k, k < 26 → bt ((s.1 &&& (bb p ^^^ -1)) ||| bb (kf t)) k = ((bt s.1 k && !decide (k = p)) || decide (k = kf t)) := fun k hk => by
          rw [bt_on hx (by omega), bt_off p1 (by omega)]
        have q1 := nK_minus (h1' := bt s.1) (h2' := fun k => bt s.1 k && !decide (k = p)) 26 p1 p2 (by rw [decide_eq_true rfl]; exact Bool.and_false _) (fun k _ hne => by rw [decide_eq_false hne]; exact Bool.and_true _)
        have q2 := nK_plus (h1' := fun k => bt s.1 k && !decide (k = p)) (h2' := bt ((s.1 &&& (bb p ^^^ -1)) ||| bb (kf t))) hx (by rw [c']; rfl) (by rw [hb' _ hx, decide_eq_true rfl, Bool.or_true]) (fun k hk hne => by rw [hb' k hk, decide_eq_false hne, Bool.or_false])
        refine fin ((s.1 &&& (bb p ^^^ -1)) ||| bb (kf t)) (by show (s.1 &&& (obb (sOut (nI size) s (kf t)) ^^^ -1)) ||| bb (kf t) = _; rw [eo]; rfl) (KS_or (KS_and h1) (KS_bb hx)) (by rw [hb' _ hx, decide_eq_true rfl, Bool.or_true]) (fun k hk hne hb => ?_) (fun k y hk hy hk' hy' hb ha => ?_) (fun q k hk hne hp => by omega) (by omega)
        · rw [hb' k hk, decide_eq_false hne, Bool.or_false] at hb
          exact ((Bool.and_eq_true _ _).mp hb).1
        · rw [hb' k hk, decide_eq_false hk', Bool.or_false] at hb
          have hk2 := ((Bool.and_eq_true _ _).mp hb).1
          have hy2 := h2 k y hk hy hk2 ha
          rw [hb' y hy, hy2]
          have yp : y ≠ p := fun e => by
            have mn := lO_min eg hk hk2
            obtain ⟨l1, l2⟩ := h5 p p1 p2
            obtain ⟨l3, l4⟩ := h5 k hk hk2
            have b1 := hL p
            have b2 := hL k
            rw [l2, l4, L64 (by omega), L64 (by omega)] at mn
            have h0 : laN kf k 0 t < laN kf y 0 t := of_decide_eq_true ha
            rw [e] at h0
            omega
          rw [decide_eq_false yp]
          rfl
theorem LR_0 : LR kf size 0 (0, none, 0, fun _ => 0) := ⟨KS_0, fun k y _ _ hb _ => (by have h : bt 0 k = true := hb; rw [b_0] at h; cases h), fun _ k _ h => absurd h (Nat.lt_irrefl _), (by show nK (bt 0) 26 ≤ size; rw [show nK (bt 0) 26 = 0 by decide]; exact Nat.zero_le _), fun k _ hb => (by have h : bt 0 k = true := hb; rw [b_0] at h; cases h)⟩
/-- distances by who was asked later -/
theorem qHA_e (hk : k < 26) : ∀ (t : Nat) (set : Int32), (∀ i, i < t → kf i < 26) → KS set → qHA kf k sz t set = (decide (0 < laN kf k 0 t) && decide (nI (nK (fun y => bt set y || abv kf t k y) 26) < sz))
  | 0, set, _, _ => rfl
  | t + 1, set, h, hs => by
    show (if kf t = k then decide (pPop set < sz) else qHA kf k sz t (set ||| bb (kf t))) = _
    have hx := h t (by omega)
    by_cases c : kf t = k
    · rw [if_pos c, ← c, laN_x, decide_eq_true (p := 0 < t + 1) (by omega), Bool.true_and, pPop_nK hs]
      have : nK (fun y => bt set y || abv kf (t + 1) (kf t) y) 26 = nK (bt set) 26 := nK_cg 26 (fun y hy => by
        unfold abv
        have := laN_le (kf := kf) (k := y) (f := 0) (t := t + 1)
        rw [laN_x, decide_eq_false (by omega), Bool.or_false])
      rw [this]
    · rw [if_neg c, qHA_e hk t _ (fun i hi => h i (by omega)) (KS_or hs (KS_bb hx)), laN_o (fun q => c q.symm)]
      have : nK (fun y => bt (set ||| bb (kf t)) y || abv kf t k y) 26 = nK (fun y => bt set y || abv kf (t + 1) k y) 26 := nK_cg 26 (fun y hy => by
        rw [bt_on hx (by omega)]
        unfold abv
        rw [laN_o (k := k) (fun q => c q.symm)]
        by_cases d : y = kf t
        · have := laN_le (kf := kf) (k := k) (f := 0) (t := t)
          rw [d, laN_x, decide_eq_true rfl, decide_eq_true (p := laN kf k 0 t < t + 1) (by omega), Bool.or_true, Bool.true_or]
        · rw [laN_o d, decide_eq_false d, Bool.or_false])
      rw [this]
theorem qDist_e (hk : k < 26) : ∀ (t : Nat) (set : Int32), (∀ i, i < t → kf i < 26) → KS set → qDist kf k t set = if 0 < laN kf k 0 t then nI (1 + nK (fun y => bt set y || abv kf t k y) 26) else -1
  | 0, set, _, _ => rfl
  | t + 1, set, h, hs => by
    rw [qDist_s]
    have hx := h t (by omega)
    by_cases c : kf t = k
    · rw [if_pos c, ← c, laN_x, if_pos (by omega), pPop_nK hs]
      have : nK (fun y => bt set y || abv kf (t + 1) (kf t) y) 26 = nK (bt set) 26 := nK_cg 26 (fun y hy => by
        unfold abv
        have := laN_le (kf := kf) (k := y) (f := 0) (t := t + 1)
        rw [laN_x, decide_eq_false (by omega), Bool.or_false])
      rw [this]
      exact lt_iA (j := 1)
    · rw [if_neg c, qDist_e hk t _ (fun i hi => h i (by omega)) (KS_or hs (KS_bb hx)), laN_o (fun q => c q.symm)]
      have : nK (fun y => bt (set ||| bb (kf t)) y || abv kf t k y) 26 = nK (fun y => bt set y || abv kf (t + 1) k y) 26 := nK_cg 26 (fun y hy => by
        rw [bt_on hx (by omega)]
        unfold abv
        rw [laN_o (k := k) (fun q => c q.symm)]
        by_cases d : y = kf t
        · have := laN_le (kf := kf) (k := k) (f := 0) (t := t)
          rw [d, laN_x, decide_eq_true rfl, decide_eq_true (p := laN kf k 0 t < t + 1) (by omega), Bool.or_true, Bool.true_or]
        · rw [laN_o d, decide_eq_false d, Bool.or_false])
      rw [this]
theorem abv_0 : nK (fun y => bt 0 y || abv kf t k y) 26 = nK (abv kf t k) 26 := nK_cg 26 (fun y _ => by rw [b_0, Bool.false_or])
theorem LR_HA (h : LR kf size t s) (hk : k < 26) (hkf : ∀ i, i < t → kf i < 26) (hsz : size < 1000) : qHA kf k (nI size) t 0 = bt s.1 k := by
  rw [qHA_e hk t 0 hkf KS_0, abv_0, LR_mem h hk]
  congr 1
  have := nK_le (f := abv kf t k) 26
  exact decide_eq_decide.mpr (lt_iL (by omega) (by omega))
theorem LR_dist (h : LR kf size t s) (hk : k < 26) (hkf : ∀ i, i < t → kf i < 26) (hsz : size < 1000) : qIn (qDist kf k t 0) 1 (nI size) = bt s.1 k := by
  rw [qDist_e hk t 0 hkf KS_0, abv_0, LR_mem h hk]
  have := nK_le (f := abv kf t k) 26
  unfold qIn
  by_cases c : 0 < laN kf k 0 t
  · rw [if_pos c, decide_eq_true c, Bool.true_and]
    have e1 : ¬ nI (1 + nK (abv kf t k) 26) < 1 := fun q => by
      have := (lt_iL (j := 1 + nK (abv kf t k) 26) (k := 1) (by omega) (by omega)).mp q
      omega
    rw [decide_eq_false e1, Bool.not_false, Bool.true_and]
    by_cases d : nK (abv kf t k) 26 < size
    · rw [decide_eq_true d, decide_eq_false (fun q => by have := (lt_iL (j := size) (k := 1 + nK (abv kf t k) 26) (by omega) (by omega)).mp q; omega)]
      rfl
    · rw [decide_eq_false d, decide_eq_true ((lt_iL (j := size) (k := 1 + nK (abv kf t k) 26) (by omega) (by omega)).mpr (by omega))]
      rfl
  · rw [if_neg c, decide_eq_false c, decide_eq_true (by decide)]
    rfl
theorem LR_all {t : Nat} (ht : t ≤ 300) (hk : ∀ i, i < t → kf i < 26) (hsz : 0 < size) (hsz2 : size < 1000) : ∀ (m : Nat) (s : SD), m ≤ t → LR kf size (t - m) s → LR kf size t (sFeed 0 (nI size) ask kf t m s) ∧ (sFeed 0 (nI size) ask kf t m s).2.2.1 = qHL kf t (nI size) m s.2.2.1
  | 0, s, _, h => ⟨h, rfl⟩
  | m + 1, s, hm, h => by
    have hx := hk (t - (m + 1)) (by omega)
    have h1 := LR_step (ask := ask) h hx (by omega) hsz hsz2
    rw [show t - (m + 1) + 1 = t - m by omega] at h1
    have ih := LR_all ht hk hsz hsz2 m _ (by omega) h1
    refine ⟨ih.1, ?_⟩
    show (sFeed 0 (nI size) ask kf t m (sStep 0 (nI size) ask (kf (t - (m + 1))) (t - (m + 1)) s)).2.2.1 = qHL kf t (nI size) m (s.2.2.1 + bI (qIn (qDist kf (kf (t - (m + 1))) (t - (m + 1)) 0) 1 (nI size)))
    rw [ih.2, LR_dist h hx (fun i hi => hk i (by omega)) hsz2]
    rfl
/-- hits by last use: by play, and by distances -/
theorem hits_0 (hn : n ≤ 300) (hk : ∀ i, i < n → kf i < 26) (hsz : 0 < size) (hsz2 : size < 1000) : kHits kf n 0 (nI size) = qHL kf n (nI size) n 0 := by
  have := LR_all (ask := sAsk kf n) hn hk hsz hsz2 n (0, none, 0, fun _ => 0) (Nat.le_refl _) (by rw [Nat.sub_self]; exact LR_0)
  exact this.2
theorem held_0 (hn : n ≤ 300) (hk : ∀ i, i < n → kf i < 26) (hsz : 0 < size) (hsz2 : size < 1000) (ht : t ≤ n) (hkk : k < 26) : qHA kf k (nI size) t 0 = bt (sPlay 0 (nI size) kf n t).1 k := by
  have := LR_all (ask := sAsk kf n) (t := t) (by omega) (fun i hi => hk i (by omega)) hsz hsz2 t (0, none, 0, fun _ => 0) (Nat.le_refl _) (by rw [Nat.sub_self]; exact LR_0)
  exact LR_HA this.1 hkk (fun i hi => hk i (by omega)) hsz2
/-- hits by each rule -/
theorem hits_eq (hr : rule = 2 ∨ rule = 1 ∨ rule = 0 ∨ rule = -1) (hn : n ≤ 300) (hk : ∀ i, i < n → kf i < 26) (hsz : 0 < size) (hsz2 : size < 1000) : kHits kf n rule (nI size) = qHt kf n rule size := by
  unfold qHt qHits2
  by_cases c : rule = 0
  · rw [if_pos c, c]
    exact hits_0 hn hk hsz hsz2
  · rw [if_neg c]
    exact (play_eq hr hn hk hsz hsz2 (Nat.le_refl _) (fun _ => 0)).2.2.1
end Rw'
