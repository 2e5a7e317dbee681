/-! THE RELATION of class and reference: sets of bits against rows of flags, sums, the first by an order -/
section Ra
variable {H U : Nat → Int32} {S : Nat → Int32} {k i j w y n : Nat} {s t x v ow : Int32} {r : Nat → Int64} {can can' : Nat → Bool} {lt lt' : Nat → Nat → Bool} {b : Bool} {f g : Nat → Bool}
/-- the first is looked for upward -/
theorem qFst_cg (hc : ∀ k, k < 26 → can k = can' k) (hl : ∀ i j, i < 26 → j < i → can i = true → can j = true → lt i j = lt' i j) : ∀ (n : Nat) (b : Option Nat), n ≤ 26 → (∀ j, b = some j → j < 26 - n ∧ can j = true) → qFst can lt n b = qFst can' lt' n b
  | 0, b, _, _ => rfl
  | n + 1, b, hn, hb => by
    show qFst can lt n (if can (25 - n) = true then qStep lt (25 - n) b else b) = qFst can' lt' n (if can' (25 - n) = true then qStep lt' (25 - n) b else b)
    rw [← hc (25 - n) (by omega)]
    by_cases c : can (25 - n) = true
    · rw [if_pos c, if_pos c]
      cases b with
      | none => exact qFst_cg hc hl n _ (by omega) (fun j e => by cases e; exact ⟨by omega, c⟩)
      | some j =>
        obtain ⟨h1, h2⟩ := hb j rfl
        show qFst can lt n (if lt (25 - n) j = true then some (25 - n) else some j) = qFst can' lt' n (if lt' (25 - n) j = true then some (25 - n) else some j)
        rw [← hl (25 - n) j (by omega) (by omega) c h2]
        refine qFst_cg hc hl n _ (by omega) (fun q e => ?_)
        split at e
        · cases e; exact ⟨by omega, c⟩
        · cases e; exact ⟨by omega, h2⟩
    · rw [if_neg c, if_neg c]
      exact qFst_cg hc hl n _ (by omega) (fun j e => ⟨by have := (hb j e).1; omega, (hb j e).2⟩)
theorem qFst_cg0 (hc : ∀ k, k < 26 → can k = can' k) (hl : ∀ i j, i < 26 → j < i → can i = true → can j = true → lt i j = lt' i j) : qFst can lt 26 none = qFst can' lt' 26 none := qFst_cg hc hl 26 none (Nat.le_refl _) (fun j e => by cases e)
theorem qFst_min {rk : Nat → Int} (hl : ∀ i j, lt i j = decide (rk i < rk j)) : ∀ (n : Nat) (b : Option Nat), n ≤ 26 → (∀ j, j < 26 - n → can j = true → ∃ q, b = some q ∧ rk q ≤ rk j) → ∀ q, qFst can lt n b = some q → ∀ j, j < 26 → can j = true → rk q ≤ rk j
  | 0, b, _, hb, q, e, j, hj, hc => by
    obtain ⟨q', e', h⟩ := hb j hj hc
    have e2 : b = some q := e
    rw [e'] at e2
    cases e2
    exact h
  | n + 1, b, hn, hb, q, e, j, hj, hc => by
    refine qFst_min hl n _ (by omega) ?_ q e j hj hc
    intro j hj hc
    by_cases c : can (25 - n) = true
    · rw [if_pos c]
      cases b with
      | none =>
        refine ⟨25 - n, rfl, ?_⟩
        by_cases e : j = 25 - n
        · rw [e]; exact Int.le_refl _
        · obtain ⟨q, e', -⟩ := hb j (by omega) hc
          cases e'
      | some m =>
        show ∃ q, (if lt (25 - n) m = true then some (25 - n) else some m) = some q ∧ _
        rw [hl]
        by_cases d : rk (25 - n) < rk m
        · refine ⟨25 - n, if_pos (decide_eq_true d), ?_⟩
          by_cases e : j = 25 - n
          · rw [e]; exact Int.le_refl _
          · obtain ⟨q, e', h⟩ := hb j (by omega) hc
            cases e'
            omega
        · refine ⟨m, if_neg (by rw [decide_eq_false d]; decide), ?_⟩
          by_cases e : j = 25 - n
          · rw [e]; omega
          · obtain ⟨q, e', h⟩ := hb j (by omega) hc
            cases e'
            exact h
    · rw [if_neg c]
      by_cases e : j = 25 - n
      · rw [e] at hc; exact absurd hc c
      · exact hb j (by omega) hc
theorem lO_min {q : Nat} (e : lO s r = some q) (hj : j < 26) (hc : bt s j = true) : (r q).toInt ≤ (r j).toInt :=
  qFst_min (can := fun k => bt s k) (rk := fun k => (r k).toInt) (fun i j => decide_eq_decide.mpr Int64.lt_iff_toInt_lt) 26 none (Nat.le_refl _) (fun j hj _ => by omega) q e j hj hc
theorem bI_e1 : (bI b = 1) = (b = true) := by cases b <;> simp [bI]
theorem bI_e0 : (bI b = 0) = (b = false) := by cases b <;> simp [bI]
theorem KS_ext {s t : Int32} (h : KS s) (g : KS t) (e : ∀ k, k < 26 → bt s k = bt t k) : s = t := b_ext (fun k _ => by
  by_cases c : k < 26
  · exact e k c
  · rw [h k (by omega), g k (by omega)])
theorem KS_ne (h : KS s) (hn : s ≠ 0) : ∃ k, k < 26 ∧ bt s k = true := by
  by_cases q : ∃ k, k < 26 ∧ bt s k = true
  · exact q
  · refine absurd (KS_ext h KS_0 (fun k hk => ?_)) hn
    rw [b_0]
    cases e : bt s k
    · rfl
    · exact absurd ⟨k, hk, e⟩ q
theorem lO_none (h : KS s) : lO s r = none ↔ s = 0 := by
  constructor
  · intro e
    by_cases q : s = 0
    · exact q
    · obtain ⟨k, hk, hb⟩ := KS_ne h q
      exact absurd e (qFst_some 26 none (Nat.le_refl _) (Or.inr ⟨k, hk, by omega, hb⟩))
  · intro e
    cases q : lO s r with
    | none => rfl
    | some j =>
      have := (lO_lt j q).2
      rw [e, b_0] at this
      cases this
theorem bt_off {k j : Nat} (hk : k < 26) (hj : j < 32) : bt (s &&& (bb k ^^^ -1)) j = (bt s j && !decide (j = k)) := by
  rw [b_and, b_xor, bt_bb (by omega) hj, b_m1 j hj]
  cases decide (j = k) <;> rfl
theorem bt_on {k j : Nat} (hk : k < 26) (hj : j < 32) : bt (s ||| bb k) j = (bt s j || decide (j = k)) := by
  rw [b_or, bt_bb (by omega) hj]
theorem bt_not {j : Nat} (hj : j < 32) : bt (s &&& (t ^^^ -1)) j = (bt s j && !bt t j) := by
  rw [b_and, b_xor, b_m1 j hj]
  cases bt t j <;> rfl
/-- a set of keys, and a row of flags that says the same -/
def HB (s : Int32) (U : Nat → Int32) (w : Nat) : Prop := KS s ∧ ∀ k, k < 26 → U (w + k) = bI (bt s k)
theorem HB_o (h : HB s U w) (hi : i < w ∨ w + 26 ≤ i) : HB s (upd U i v) w := ⟨h.1, fun k hk => (upd_o (by omega)).trans (h.2 k hk)⟩
theorem HB_off (h : HB s U w) (hk : k < 26) : HB (s &&& (bb k ^^^ -1)) (upd U (w + k) 0) w := ⟨KS_and h.1, fun j hj => by
  rw [bt_off hk (by omega)]
  by_cases e : j = k
  · rw [e, upd_s, decide_eq_true rfl, Bool.not_true, Bool.and_false]; rfl
  · rw [upd_o (by omega), h.2 j hj, decide_eq_false e, Bool.not_false, Bool.and_true]⟩
theorem HB_on (h : HB s U w) (hk : k < 26) : HB (s ||| bb k) (upd U (w + k) 1) w := ⟨KS_or h.1 (KS_bb hk), fun j hj => by
  rw [bt_on hk (by omega)]
  by_cases e : j = k
  · rw [e, upd_s, decide_eq_true rfl, Bool.or_true]; rfl
  · rw [upd_o (by omega), h.2 j hj, decide_eq_false e, Bool.or_false]⟩
theorem HB_1 (h : HB s U w) (hk : k < 26) : (U (w + k) = 1) = (bt s k = true) := by rw [h.2 k hk, bI_e1]
/-- sums of sizes -/
theorem pSum_q (h : ∀ k, k < 26 → (if bt s k = true then S k else 0) = qU1 H U ow k) : ∀ (n : Nat) (acc : Int32), n ≤ 26 → pSum s S n acc = qUnits H U ow n acc
  | 0, _, _ => rfl
  | n + 1, acc, hn => by
    show pSum s S n (if bt s (25 - n) = true then acc + S (25 - n) else acc) = qUnits H U ow n (acc + qU1 H U ow (25 - n))
    rw [← h (25 - n) (by omega), ← pSum_q h n _ (by omega)]
    by_cases c : bt s (25 - n) = true
    · rw [if_pos c, if_pos c]
    · rw [if_neg c, if_neg c, Int32.add_zero]
theorem pSum_cg {S' : Nat → Int32} (h : ∀ k, k < 26 → bt s k = bt t k) (hS : ∀ k, k < 26 → S k = S' k) : ∀ (n : Nat) (acc : Int32), n ≤ 26 → pSum s S n acc = pSum t S' n acc
  | 0, _, _ => rfl
  | n + 1, acc, hn => by
    show pSum s S n (if bt s (25 - n) = true then acc + S (25 - n) else acc) = pSum t S' n (if bt t (25 - n) = true then acc + S' (25 - n) else acc)
    rw [h (25 - n) (by omega), hS (25 - n) (by omega)]
    exact pSum_cg h hS n _ (by omega)
theorem pSum_a : ∀ (n : Nat) (acc : Int32), pSum s S n (acc + v) = pSum s S n acc + v
  | 0, _ => rfl
  | n + 1, acc => by
    show pSum s S n (if bt s (25 - n) = true then acc + v + S (25 - n) else acc + v) = pSum s S n (if bt s (25 - n) = true then acc + S (25 - n) else acc) + v
    rw [← pSum_a n]
    congr 1
    split
    · rw [Int32.add_assoc, Int32.add_assoc, Int32.add_comm v]
    · rfl
theorem pSum_ob (hy : y < 26) (h : bt s y = false) : ∀ (n : Nat) (acc : Int32), n ≤ 26 → pSum (s ||| bb y) S n acc = pSum s S n acc + (if 26 ≤ y + n then S y else 0)
  | 0, acc, _ => by
    rw [if_neg (by omega), Int32.add_zero]
    rfl
  | n + 1, acc, hn => by
    show pSum (s ||| bb y) S n (if bt (s ||| bb y) (25 - n) = true then acc + S (25 - n) else acc) = pSum s S n (if bt s (25 - n) = true then acc + S (25 - n) else acc) + _
    rw [pSum_ob hy h n _ (by omega), bt_on hy (by omega)]
    by_cases e : 25 - n = y
    · rw [if_neg (c := 26 ≤ y + n) (by omega), if_pos (c := 26 ≤ y + (n + 1)) (by omega), e, decide_eq_true rfl, Bool.or_true, if_pos rfl, Int32.add_zero, pSum_a, h]
      rfl
    · rw [decide_eq_false e, Bool.or_false]
      congr 1
      by_cases c : 26 ≤ y + n
      · rw [if_pos c, if_pos (by omega)]
      · rw [if_neg c, if_neg (by omega)]
theorem pSum_0 : ∀ (n : Nat) (acc : Int32), pSum 0 S n acc = acc
  | 0, _ => rfl
  | n + 1, acc => by
    show pSum 0 S n (if bt 0 (25 - n) = true then acc + S (25 - n) else acc) = acc
    rw [b_0, if_neg (by decide)]
    exact pSum_0 n acc
/-- how many -/
theorem nK_cg : ∀ (n : Nat), (∀ k, k < n → f k = g k) → nK f n = nK g n
  | 0, _ => rfl
  | n + 1, h => by
    show nK f n + (f n).toNat = nK g n + (g n).toNat
    rw [nK_cg n (fun k hk => h k (by omega)), h n (by omega)]
theorem qCount_n : ∀ (n : Nat), n ≤ 26 → qCount U w n (nI (nK (fun k => !decide (U (w + k) = 0)) (26 - n))) = nI (nK (fun k => !decide (U (w + k) = 0)) 26)
  | 0, _ => rfl
  | n + 1, hn => by
    show qCount U w n (nI (nK (fun k => !decide (U (w + k) = 0)) (26 - (n + 1))) + if U (w + (25 - n)) = 0 then 0 else 1) = _
    rw [← qCount_n n (by omega)]
    congr 1
    have e : 26 - n = 26 - (n + 1) + 1 := by omega
    have e2 : 26 - (n + 1) = 25 - n := by omega
    rw [e]
    show _ = nI (nK (fun k => !decide (U (w + k) = 0)) (26 - (n + 1)) + (!decide (U (w + (26 - (n + 1))) = 0)).toNat)
    rw [e2]
    by_cases c : U (w + (25 - n)) = 0
    · rw [if_pos c, decide_eq_true c, Int32.add_zero]; rfl
    · rw [if_neg c, decide_eq_false c]; exact lt_iA (j := nK (fun k => !decide (U (w + k) = 0)) (25 - n)) (k := 1)
theorem qCount_N : qCount U w 26 0 = nI (nK (fun k => !decide (U (w + k) = 0)) 26) := qCount_n 26 (Nat.le_refl _)
theorem HB_pop (h : HB s U w) : pPop s = qCount U w 26 0 := by
  rw [pPop_nK h.1, qCount_N]
  congr 1
  refine nK_cg 26 (fun k hk => ?_)
  rw [h.2 k hk]
  cases bt s k <;> rfl
end Ra
