/-! THE RELATION: phases, errors -/
section Rx'
variable {kf : Nat → Nat} {n i j k t m size a b x s c : Nat} {rule set sz z z1 near ub fb v : Int32} {D : Nat → Int32}
theorem pop_bb (hk : k < 26) : pPop (bb k) = 1 := by
  rw [pPop_nK (KS_bb hk)]
  have h := nK_plus (h1' := bt 0) (h2' := bt (bb k)) hk (b_0 k) (by rw [bt_bb (by omega) (by omega), decide_eq_true rfl]) (fun j hj hne => by rw [bt_bb (by omega) (by omega), decide_eq_false hne, b_0])
  rw [h, show nK (bt 0) 26 = 0 by decide]
  rfl
/-- phases -/
theorem ph_eq (hsz : 0 < size) (hsz2 : size < 1000) (ht : t ≤ 300) (hk : ∀ i, i < t → kf i < 26) : kPh kf (nI size) t t 0 0 = qPhases kf (nI size) t := by
  unfold qPhases
  cases t with
  | zero => rfl
  | succ t =>
    rw [if_neg (by omega), kPh_s, if_pos (Or.inl rfl), qPh_s]
    have e0 : (0 : Int32) ||| bb (kf (t - t)) = bb (kf (t - t)) := KS_ext (KS_or KS_0 (KS_bb (hk _ (by omega)))) (KS_bb (hk _ (by omega))) (fun k _ => by rw [b_or, b_0, Bool.false_or])
    show kPh kf (nI size) (t + 1) t (0 + 1) (bb (kf (t + 1 - (t + 1)))) = _
    have e1 : ¬ nI size < pPop ((0 : Int32) ||| bb (kf (t - t))) := by
      rw [e0, pop_bb (hk _ (by omega))]
      exact fun q => by have := (lt_iL (j := size) (k := 1) (by omega) (by omega)).mp q; omega
    rw [show t + 1 - 1 = t by omega, if_neg e1, e0, show t + 1 - (t + 1) = t - t by omega]
    refine kPh_q t 0 _ (by omega) (by decide) (fun j hj => ?_)
    rw [Int32.zero_add]
    have e2 : nI j + 1 + 1 = nI (j + 2) := by
      rw [show nI j + 1 = nI (j + 1) from lt_iA (j := j) (k := 1)]
      exact lt_iA (j := j + 1) (k := 1)
    rw [e2]
    exact fun q => by have := (lt_iE (j := j + 2) (k := 0) (by omega) (by omega)).mp q; omega
theorem ph_at (hsz : 0 < size) (hsz2 : size < 1000) (ht : t < 300) (hk : ∀ i, i < t + 1 → kf i < 26) : kPh kf (nI size) (t + 1) (t + 1) 0 0 - 1 = qPh kf (nI size) t (t + 1) 0 0 := by
  rw [ph_eq hsz hsz2 (by omega) hk]
  unfold qPhases
  rw [if_neg (by omega), show t + 1 - 1 = t by omega, Int32.add_sub_cancel]
theorem qIn_n1 (hc : 1 ≤ c) (hc2 : c < 1000) (hs : s < 1000) : qIn (nI c) 1 (nI s) = decide (c ≤ s) := by
  unfold qIn
  have e1 : ¬ nI c < 1 := fun q => by
    have := (lt_iL (j := c) (k := 1) (by omega) (by omega)).mp q
    omega
  rw [decide_eq_false e1, Bool.not_false, Bool.true_and]
  by_cases d : c ≤ s
  · rw [decide_eq_true d, decide_eq_false (fun q => by have := (lt_iL (j := s) (k := c) (by omega) (by omega)).mp q; omega)]
    rfl
  · rw [decide_eq_false d, decide_eq_true ((lt_iL (j := s) (k := c) (by omega) (by omega)).mpr (by omega))]
    rfl
theorem qIn_m (h : (0 : Int32) < v + 1 ∨ True) : qIn (-1) 1 v = false := by
  unfold qIn
  rw [decide_eq_true (by decide)]
  rfl
theorem near_eq (hs : s + 1 ≤ 26) (hn : n ≤ 300) (hk : ∀ i, i < n → kf i < 26) : ∀ (m : Nat) (D : Nat → Int32) (z1 z : Int32), m ≤ n → z1 = z + D (s + 1) → qHL kf n (nI (s + 1)) m z1 = qHL kf n (nI s) m z + kCD kf n m D (s + 1)
  | 0, D, z1, z, _, h => h
  | m + 1, D, z1, z, hm, h => by
    show qHL kf n (nI (s + 1)) m (z1 + bI (qIn (qDist kf (kf (n - (m + 1))) (n - (m + 1)) 0) 1 (nI (s + 1)))) = qHL kf n (nI s) m (z + bI (qIn (qDist kf (kf (n - (m + 1))) (n - (m + 1)) 0) 1 (nI s))) + kCD kf n m _ (s + 1)
    refine near_eq hs hn hk m _ _ _ (by omega) ?_
    rw [h]
    rcases qDist_N (kf := kf) (t := n) (hk (n - (m + 1)) (by omega)) hk (n - (m + 1)) 0 (by omega) KS_0 (b_0 _) with e | ⟨c, c1, c2, e⟩
    · rw [e, if_pos rfl, qIn_m (Or.inr trivial), qIn_m (Or.inr trivial)]
      show z + D (s + 1) + 0 = z + 0 + D (s + 1)
      rw [Int32.add_zero, Int32.add_zero]
    · have e1 : ¬ nI c = -1 := by rw [nI_ne1 (by omega)]; exact id
      rw [e, if_neg e1, qIn_n1 c1 (by omega) (by omega), qIn_n1 c1 (by omega) (by omega), lt_iN (by omega)]
      by_cases d : c = s + 1
      · rw [d, upd_s, decide_eq_true (Nat.le_refl _), decide_eq_false (p := s + 1 ≤ s) (by omega)]
        show z + D (s + 1) + 1 = z + 0 + (D (s + 1) + 1)
        rw [Int32.add_zero, Int32.add_assoc]
      · rw [upd_o (by omega)]
        by_cases d2 : c ≤ s
        · rw [decide_eq_true d2, decide_eq_true (p := c ≤ s + 1) (by omega)]
          show z + D (s + 1) + 1 = z + 1 + D (s + 1)
          rw [Int32.add_assoc, Int32.add_assoc, Int32.add_comm 1]
        · rw [decide_eq_false d2, decide_eq_false (p := c ≤ s + 1) (by omega)]
          show z + D (s + 1) + 0 = z + 0 + D (s + 1)
          rw [Int32.add_zero, Int32.add_zero]
theorem qHL_0 : ∀ (m : Nat) (z : Int32), qHL kf n 0 m z = z
  | 0, z => rfl
  | m + 1, z => by
    show qHL kf n 0 m (z + bI (qIn (qDist kf (kf (n - (m + 1))) (n - (m + 1)) 0) 1 0)) = z
    have e : qIn (qDist kf (kf (n - (m + 1))) (n - (m + 1)) 0) 1 0 = false := by
      unfold qIn
      generalize qDist kf (kf (n - (m + 1))) (n - (m + 1)) 0 = v
      by_cases c : v < 1
      · rw [decide_eq_true c]; rfl
      · have : (0 : Int32) < v := by
          rw [Int32.lt_iff_toInt_lt] at c ⊢
          have h1 : (1 : Int32).toInt = 1 := by decide
          have h0 : (0 : Int32).toInt = 0 := by decide
          rw [h1] at c
          rw [h0]
          omega
        rw [decide_eq_true this, Bool.not_true, Bool.and_false]
    rw [e]
    show qHL kf n 0 m (z + 0) = z
    rw [Int32.add_zero]
    exact qHL_0 m z
theorem qHL_pos : ∀ (m : Nat) (a : Nat), a + m ≤ 1000 → ∃ b, b ≤ a + m ∧ qHL kf n sz m (nI a) = nI b
  | 0, a, _ => ⟨a, Nat.le_refl _, rfl⟩
  | m + 1, a, h => by
    show ∃ b, b ≤ a + (m + 1) ∧ qHL kf n sz m (nI a + bI (qIn (qDist kf (kf (n - (m + 1))) (n - (m + 1)) 0) 1 sz)) = nI b
    cases qIn (qDist kf (kf (n - (m + 1))) (n - (m + 1)) 0) 1 sz
    · obtain ⟨b, b1, b2⟩ := qHL_pos m a (by omega)
      exact ⟨b, by omega, by rw [show nI a + bI false = nI a from Int32.add_zero _]; exact b2⟩
    · obtain ⟨b, b1, b2⟩ := qHL_pos m (a + 1) (by omega)
      exact ⟨b, by omega, by rw [show nI a + bI true = nI (a + 1) from lt_iA (j := a) (k := 1)]; exact b2⟩
theorem kHits_pos (hn : n ≤ 300) (hk : ∀ i, i < n → kf i < 26) (hsz : 0 < size) (hsz2 : size < 1000) (hr : rule = 2 ∨ rule = 1 ∨ rule = 0 ∨ rule = -1) : ¬ kHits kf n rule (nI size) < 0 := by
  have h := play_eq hr hn hk hsz hsz2 (Nat.le_refl _) (fun _ => 0)
  have hb : ∀ (m : Nat) (p : Nat × Nat × (Nat → Bool) × (Nat → Int32) × Option Nat), (qPlays kf n rule size n m p).1 ≤ p.1 + m := fun m => by
    induction m with
    | zero => exact fun p => Nat.le_refl _
    | succ m ih =>
      intro p
      have := ih (qPlay1 kf n rule size (n - (m + 1)) p)
      have h1 : (qPlay1 kf n rule size (n - (m + 1)) p).1 ≤ p.1 + 1 := by
        unfold qPlay1
        split
        · exact Nat.le_refl _
        · split
          · exact Nat.le_succ _
          · exact Nat.le_succ _
      show (qPlays kf n rule size n m (qPlay1 kf n rule size (n - (m + 1)) p)).1 ≤ _
      omega
  have hb' := hb n (0, 0, (fun _ => false), (fun _ => 0), none)
  have e : kHits kf n rule (nI size) = nI (qPlay kf n rule size n (fun _ => 0)).1 := h.2.2.1
  have e2 : (qPlay kf n rule size n (fun _ => 0)).1 ≤ 0 + n := hb'
  rw [e]
  exact fun q => by have := (lt_iL (j := (qPlay kf n rule size n (fun _ => 0)).1) (k := 0) (by omega) (by omega)).mp q; omega
theorem err1_eq (hn : n ≤ 300) (hk : ∀ i, i < n → kf i < 26) (hsz : 0 < size) (hsz2 : size ≤ 12) (hnear : near = qHL kf n (nI size) n 0) (h1 : size = 1 → ub = 0 ∧ fb = 0) (h2 : 1 < size → ub = kHits kf n 0 (nI (size - 1)) ∧ fb = kHits kf n 1 (nI (size - 1))) : kErr1 kf n near ub fb (nI size) = qErr1 kf n size := by
  have e0 := hits_eq (rule := 0) (Or.inr (Or.inr (Or.inl rfl))) hn hk hsz (by omega)
  have e1 := hits_eq (rule := 1) (Or.inr (Or.inl rfl)) hn hk hsz (by omega)
  have e2 := hits_eq (rule := 2) (Or.inl rfl) hn hk hsz (by omega)
  have em := hits_eq (rule := -1) (Or.inr (Or.inr (Or.inr rfl))) hn hk hsz (by omega)
  have p0 := kHits_pos (rule := 0) hn hk hsz (by omega) (Or.inr (Or.inr (Or.inl rfl)))
  have p1 := kHits_pos (rule := 1) hn hk hsz (by omega) (Or.inr (Or.inl rfl))
  have d0 : kHits kf n 0 (nI size) = near := by rw [hnear]; exact hits_0 hn hk hsz (by omega)
  have d1 : nI (qPlay kf n 0 size n (fun _ => 0)).1 = qHt kf n 0 size := by
    rw [← e0]
    exact ((play_eq (rule := 0) (Or.inr (Or.inr (Or.inl rfl))) hn hk hsz (by omega) (Nat.le_refl _) (fun _ => 0)).2.2.1).symm
  unfold kErr1 qErr1
  rw [decide_eq_true d0, decide_eq_true d1, ph_eq hsz (by omega) hn hk, e0, e1, e2, em, Bool.true_and, Bool.and_true]
  have hlast : (!decide (qHt kf n 0 size < ub) && !decide (qHt kf n 1 size < fb)) = (decide (size ≤ 1) || (!decide (qHt kf n 0 size < qHt kf n 0 (size - 1)) && !decide (qHt kf n 1 size < qHt kf n 1 (size - 1)))) := by
    by_cases c : size = 1
    · obtain ⟨u1, u2⟩ := h1 c
      rw [u1, u2, ← e0, ← e1, decide_eq_false p0, decide_eq_false p1, decide_eq_true (p := size ≤ 1) (by omega)]
      rfl
    · obtain ⟨u1, u2⟩ := h2 (by omega)
      rw [u1, u2, decide_eq_false (p := size ≤ 1) (by omega), Bool.false_or, hits_eq (rule := 0) (Or.inr (Or.inr (Or.inl rfl))) hn hk (by omega) (by omega), hits_eq (rule := 1) (Or.inr (Or.inl rfl)) hn hk (by omega) (by omega)]
  rw [hlast]
  generalize (decide (size ≤ 1) || (!decide (qHt kf n 0 size < qHt kf n 0 (size - 1)) && !decide (qHt kf n 1 size < qHt kf n 1 (size - 1)))) = g
  cases g <;> cases decide (qHt kf n (-1) size < qHt kf n 0 size) <;> cases decide (qHt kf n (-1) size < qHt kf n 1 size) <;> cases decide (qHt kf n (-1) size < qHt kf n 2 size) <;> cases decide (nI n - qHt kf n (-1) size < qPhases kf (nI size) n) <;> rfl
theorem errs_eq (hn : n ≤ 300) (hk : ∀ i, i < n → kf i < 26) : ∀ (m : Nat) (z near ub fb : Int32), m ≤ 12 → near = qHL kf n (nI (12 - m)) n 0 → (m = 12 → ub = 0 ∧ fb = 0) → (m < 12 → ub = kHits kf n 0 (nI (12 - m)) ∧ fb = kHits kf n 1 (nI (12 - m))) →
    kErrs kf n (kCD kf n n (fun _ => 0)) m z near ub fb = qErrs kf n m z
  | 0, z, near, ub, fb, _, _, _, _ => rfl
  | m + 1, z, near, ub, fb, hm, h1, h2, h3 => by
    have hn1 : near + kCD kf n n (fun _ => 0) (12 - m) = qHL kf n (nI (12 - m)) n 0 := by
      have := near_eq (s := 12 - (m + 1)) (by omega) hn hk n (fun _ => 0) 0 0 (Nat.le_refl _) (by decide)
      rw [show 12 - (m + 1) + 1 = 12 - m by omega] at this
      rw [this, h1]
    have he := err1_eq (ub := ub) (fb := fb) (size := 12 - m) hn hk (by omega) (by omega) hn1 (fun e => h2 (by omega)) (fun e => by
      have := h3 (by omega)
      rw [show 12 - m - 1 = 12 - (m + 1) by omega]
      exact this)
    show kErrs kf n (kCD kf n n (fun _ => 0)) m (if kErr1 kf n (near + kCD kf n n (fun _ => 0) (12 - m)) ub fb (nI (12 - m)) = true then z + 0 else z + 1) _ _ _ = qErrs kf n m (z + if qErr1 kf n (12 - m) = true then 0 else 1)
    rw [he, errs_eq hn hk m _ _ _ _ (by omega) hn1 (fun e => by omega) (fun _ => ⟨rfl, rfl⟩)]
    congr 1
    split <;> rfl
/-- errors() -/
theorem errors_eq (hn : n ≤ 300) (hk : ∀ i, i < n → kf i < 26) : kErrs kf n (kCD kf n n (fun _ => 0)) 12 0 0 0 0 = qErrs kf n 12 0 := errs_eq hn hk 12 0 0 0 0 (Nat.le_refl _) (by rw [show 12 - 12 = 0 by omega]; exact (qHL_0 n 0).symm) (fun _ => ⟨rfl, rfl⟩) (fun h => by omega)
end Rx'
