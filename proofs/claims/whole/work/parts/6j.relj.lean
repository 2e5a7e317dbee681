/-! THE RELATION: the order of a cache -/
def ordL (κ : Nat → Nat) (x y : Nat) : Prop := κ x < κ y ∨ (κ x = κ y ∧ x < y)
def ltK (κ : Nat → Nat) (i j : Nat) : Bool := decide (κ i < κ j)
/-- a row of keys in order: so many, those of a set -/
def SRa (κ : Nat → Nat) (m : Nat) (A : Nat → Int32) (s : Nat → Bool) : Prop := ∃ a : Nat → Nat, (∀ j, j < m → a j < 26 ∧ A j = nI (a j)) ∧ (∀ i j, i < j → j < m → ordL κ (a i) (a j)) ∧ ∀ x, x < 26 → (s x = true ↔ ∃ j, j < m ∧ a j = x)
section Rt'
variable {N L : Nat} {Q : (Nat → Int32) × (Nat → Int32)} {S S' : CS} {H U A B : Nat → Int32} {c k i j t e w r q n a g f b R y m p x : Nat} {kz kc kw : Nat → Int32} {W kf : Nat → Nat} {v these set : Int32} {can can' s : Nat → Bool} {lt lt' : Nat → Nat → Bool} {κ κ' : Nat → Nat} {rk : Nat → Int64}
theorem qFst_ord : ∀ (n : Nat) (b : Option Nat), n ≤ 26 → (∀ j, j < 26 - n → can j = true → ∃ q, b = some q ∧ (j = q ∨ ordL κ q j)) → (∀ q, b = some q → q < 26 - n) → ∀ q, qFst can (ltK κ) n b = some q → ∀ j, j < 26 → can j = true → j = q ∨ ordL κ q j
  | 0, b, _, hb, _, q, e, j, hj, hc => by
    obtain ⟨q', e', h⟩ := hb j hj hc
    have e2 : b = some q := e
    rw [e'] at e2
    cases e2
    exact h
  | n + 1, b, hn, hb, hq, q, e, j, hj, hc => by
    refine qFst_ord n _ (by omega) ?_ ?_ q e j hj hc
    · intro j hj hc
      by_cases c : can (25 - n) = true
      · rw [if_pos c]
        cases b with
        | none =>
          refine ⟨25 - n, rfl, ?_⟩
          by_cases e : j = 25 - n
          · exact Or.inl e
          · obtain ⟨q, e', -⟩ := hb j (by omega) hc
            cases e'
        | some m =>
          have hm := hq m rfl
          show ∃ q, (if ltK κ (25 - n) m = true then some (25 - n) else some m) = some q ∧ _
          unfold ltK
          by_cases d : κ (25 - n) < κ m
          · refine ⟨25 - n, if_pos (decide_eq_true d), ?_⟩
            by_cases e : j = 25 - n
            · exact Or.inl e
            · obtain ⟨q, e', h⟩ := hb j (by omega) hc
              cases e'
              refine Or.inr (Or.inl ?_)
              rcases h with h | h | h
              · rw [h]; exact d
              · omega
              · omega
          · refine ⟨m, if_neg (by rw [decide_eq_false d]; decide), ?_⟩
            by_cases e : j = 25 - n
            · refine Or.inr ?_
              rw [e]
              by_cases q : κ m < κ (25 - n)
              · exact Or.inl q
              · exact Or.inr ⟨by omega, by omega⟩
            · obtain ⟨q, e', h⟩ := hb j (by omega) hc
              cases e'
              exact h
      · rw [if_neg c]
        by_cases e : j = 25 - n
        · rw [e] at hc; exact absurd hc c
        · exact hb j (by omega) hc
    · intro q e
      split at e
      · cases b with
        | none => cases e; omega
        | some m =>
          have hm := hq m rfl
          have e' : (if ltK κ (25 - n) m = true then some (25 - n) else some m) = some q := e
          split at e'
          · cases e'; omega
          · cases e'; omega
      · have := hq q e; omega
theorem qFst_ord0 (e : qFst can (ltK κ) 26 none = some q) : q < 26 ∧ can q = true ∧ ∀ j, j < 26 → can j = true → j = q ∨ ordL κ q j := by
  obtain ⟨h1, h2⟩ := qFst_can 26 none (Nat.le_refl _) (fun j e => by cases e) q e
  exact ⟨h1, h2, qFst_ord 26 none (Nat.le_refl _) (fun j hj _ => by omega) (fun j e => by cases e) q e⟩
theorem ordL_asym (h : ordL κ x y) (g : ordL κ y x) : False := by
  rcases h with h | h <;> rcases g with g | g <;> omega
/-- the first is the one ahead of all others -/
theorem qFst_is (hq : q < 26) (hc : can q = true) (ho : ∀ j, j < 26 → can j = true → j = q ∨ ordL κ q j) : qFst can (ltK κ) 26 none = some q := by
  cases e : qFst can (ltK κ) 26 none with
  | none => exact absurd e (qFst_some 26 none (Nat.le_refl _) (Or.inr ⟨q, hq, by omega, hc⟩))
  | some p =>
    obtain ⟨p1, p2, p3⟩ := qFst_ord0 e
    rcases p3 q hq hc with h | h
    · rw [h]
    · rcases ho p p1 p2 with g | g
      · rw [g]
      · exact absurd h (fun h => ordL_asym h g)
theorem insA_p : ∀ (t : Nat) (A : Nat → Int32), ∃ p, p ≤ t ∧ (∀ j, insA lt k t A j = if j < p then A j else if j = p then nI k else if j ≤ t then A (j - 1) else A j) ∧ (∀ j, p ≤ j → j < t → lt k (lt_n (A j)) = true) ∧ (0 < p → lt k (lt_n (A (p - 1))) = false)
  | 0, A => ⟨0, Nat.le_refl _, fun j => by
    show upd A 0 (nI k) j = _
    by_cases e : j = 0
    · rw [e, upd_s, if_neg (by omega), if_pos rfl]
    · rw [upd_o e, if_neg (by omega), if_neg e, if_neg (by omega)], fun j h1 h2 => by omega, fun h => by omega⟩
  | t + 1, A => by
    by_cases c : lt k (lt_n (A t)) = true
    · obtain ⟨p, p1, p2, p3, p4⟩ := insA_p t (upd A (t + 1) (A t))
      refine ⟨p, by omega, fun j => ?_, fun j h1 h2 => ?_, fun h => ?_⟩
      · show (if lt k (lt_n (A t)) = true then insA lt k t (upd A (t + 1) (A t)) else upd A (t + 1) (nI k)) j = _
        rw [if_pos c, p2 j]
        by_cases d1 : j < p
        · rw [if_pos d1, if_pos d1, upd_o (by omega)]
        · rw [if_neg d1, if_neg d1]
          by_cases d2 : j = p
          · rw [if_pos d2, if_pos d2]
          · rw [if_neg d2, if_neg d2]
            by_cases d3 : j ≤ t
            · rw [if_pos d3, if_pos (by omega), upd_o (by omega)]
            · rw [if_neg d3]
              by_cases d4 : j = t + 1
              · rw [if_pos (by omega), d4, upd_s]; rfl
              · rw [if_neg (by omega), upd_o d4]
      · by_cases d : j = t
        · rw [d]; exact c
        · have := p3 j h1 (by omega)
          rw [upd_o (by omega)] at this
          exact this
      · have := p4 h
        rw [upd_o (by omega)] at this
        exact this
    · refine ⟨t + 1, Nat.le_refl _, fun j => ?_, fun j h1 h2 => by omega, fun _ => ?_⟩
      · show (if lt k (lt_n (A t)) = true then insA lt k t (upd A (t + 1) (A t)) else upd A (t + 1) (nI k)) j = _
        rw [if_neg c]
        by_cases d : j = t + 1
        · rw [d, upd_s, if_neg (by omega), if_pos rfl]
        · rw [upd_o d]
          by_cases d1 : j < t + 1
          · rw [if_pos d1]
          · rw [if_neg d1, if_neg d, if_neg (by omega)]
      · show lt k (lt_n (A t)) = false
        simpa using c
theorem insA_SR (h : SRa κ m A s) (hk : k < 26) (hs : ∀ x, x < 26 → s x = true → x < k) (hl : ∀ x, x < 26 → s x = true → lt k x = ltK κ k x) : SRa κ (m + 1) (insA lt k m A) (fun x => s x || decide (x = k)) := by
  obtain ⟨a, a1, a2, a3⟩ := h
  obtain ⟨p, p1, p2, p3, p4⟩ := insA_p (lt := lt) (k := k) m A
  have hin : ∀ j, j < m → s (a j) = true := fun j hj => (a3 (a j) (a1 j hj).1).mpr ⟨j, hj, rfl⟩
  have hlt : ∀ j, j < m → lt k (lt_n (A j)) = ltK κ k (a j) := fun j hj => by
    rw [(a1 j hj).2, lt_iN (by have := (a1 j hj).1; omega)]
    exact hl (a j) (a1 j hj).1 (hin j hj)
  have hbig : ∀ j, p ≤ j → j < m → κ k < κ (a j) := fun j h1 h2 => by
    have := p3 j h1 h2
    rw [hlt j h2] at this
    exact of_decide_eq_true this
  have hsml : ∀ j, j < p → κ (a j) ≤ κ k := fun j hj => by
    have h0 := p4 (by omega)
    rw [hlt (p - 1) (by omega)] at h0
    have h1 : ¬ κ k < κ (a (p - 1)) := of_decide_eq_false h0
    by_cases e : j = p - 1
    · rw [e]; omega
    · rcases a2 j (p - 1) (by omega) (by omega) with h | h <;> omega
  refine ⟨fun j => if j < p then a j else if j = p then k else a (j - 1), fun j hj => ?_, fun i j hij hj => ?_, fun x hx => ?_⟩
  · dsimp only
    rw [p2 j]
    by_cases d1 : j < p
    · rw [if_pos d1, if_pos d1]; exact a1 j (by omega)
    · rw [if_neg d1, if_neg d1]
      by_cases d2 : j = p
      · rw [if_pos d2, if_pos d2]; exact ⟨hk, rfl⟩
      · rw [if_neg d2, if_neg d2, if_pos (by omega)]; exact a1 (j - 1) (by omega)
  · dsimp only
    by_cases d1 : j < p
    · rw [if_pos d1, if_pos (by omega)]
      exact a2 i j hij (by omega)
    · rw [if_neg d1]
      by_cases d2 : j = p
      · rw [if_pos d2, if_pos (by omega)]
        have h1 := hsml i (by omega)
        have h2 := hs (a i) (a1 i (by omega)).1 (hin i (by omega))
        by_cases e : κ (a i) < κ k
        · exact Or.inl e
        · exact Or.inr ⟨by omega, h2⟩
      · rw [if_neg d2]
        by_cases d3 : i < p
        · rw [if_pos d3]
          exact a2 i (j - 1) (by omega) (by omega)
        · rw [if_neg d3]
          by_cases d4 : i = p
          · rw [if_pos d4]
            exact Or.inl (hbig (j - 1) (by omega) (by omega))
          · rw [if_neg d4]
            exact a2 (i - 1) (j - 1) (by omega) (by omega)
  · dsimp only
    rw [Bool.or_eq_true, a3 x hx, decide_eq_true_iff]
    constructor
    · rintro (⟨j, j1, j2⟩ | e)
      · by_cases d : j < p
        · exact ⟨j, by omega, by rw [if_pos d]; exact j2⟩
        · exact ⟨j + 1, by omega, by rw [if_neg (by omega), if_neg (by omega)]; exact j2⟩
      · exact ⟨p, by omega, by rw [if_neg (by omega), if_pos rfl]; exact e.symm⟩
    · rintro ⟨j, j1, j2⟩
      by_cases d1 : j < p
      · rw [if_pos d1] at j2
        exact Or.inl ⟨j, by omega, j2⟩
      · rw [if_neg d1] at j2
        by_cases d2 : j = p
        · rw [if_pos d2] at j2
          exact Or.inr j2.symm
        · rw [if_neg d2] at j2
          exact Or.inl ⟨j - 1, by omega, j2⟩
theorem SRa_cg {s' : Nat → Bool} (h : SRa κ m A s) (e : ∀ x, x < 26 → s x = s' x) : SRa κ m A s' := by
  obtain ⟨a, a1, a2, a3⟩ := h
  exact ⟨a, a1, a2, fun x hx => by rw [← e x hx]; exact a3 x hx⟩
theorem qLay_SR (hh : HB set U 24) (hl : ∀ i j, i < 26 → j < i → bt set i = true → bt set j = true → lt i j = ltK κ i j) : ∀ (n m : Nat) (A : Nat → Int32), n ≤ 26 → m = nK (bt set) (26 - n) → SRa κ m A (fun x => bt set x && decide (x < 26 - n)) →
    (qLay U lt n m A).1 = nK (bt set) 26 ∧ SRa κ (qLay U lt n m A).1 (qLay U lt n m A).2 (bt set)
  | 0, m, A, _, hm, h => ⟨hm, SRa_cg h (fun x hx => by rw [decide_eq_true (by omega)]; exact Bool.and_true _)⟩
  | n + 1, m, A, hn, hm, h => by
    have e1 : 26 - (n + 1) = 25 - n := by omega
    have e2 : 26 - n = 25 - n + 1 := by omega
    have hb := HB_1 hh (k := 25 - n) (by omega)
    have hb' : (U (24 + (25 - n)) = 1) = (bt set (25 - n) = true) := hb
    unfold qLay
    have hnk : nK (bt set) (26 - n) = nK (bt set) (25 - n) + (bt set (25 - n)).toNat := by rw [e2]; rfl
    rw [e1] at hm h
    by_cases c : bt set (25 - n) = true
    · rw [if_pos (hb'.mpr c)]
      refine qLay_SR hh hl n (m + 1) _ (by omega) (by rw [hnk, c, hm]; rfl) ?_
      refine SRa_cg (insA_SR (k := 25 - n) h (by omega) (fun x hx hs => ?_) (fun x hx hs => ?_)) (fun x hx => ?_)
      · exact of_decide_eq_true ((Bool.and_eq_true _ _).mp hs).2
      · have := (Bool.and_eq_true _ _).mp hs
        exact hl (25 - n) x (by omega) (of_decide_eq_true this.2) c this.1
      · by_cases d : x = 25 - n
        · rw [d, c, decide_eq_true rfl, decide_eq_true (p := 25 - n < 26 - n) (by omega), Bool.or_true]; rfl
        · rw [decide_eq_false d, Bool.or_false]
          by_cases d2 : x < 25 - n
          · rw [decide_eq_true d2, decide_eq_true (p := x < 26 - n) (by omega)]
          · rw [decide_eq_false d2, decide_eq_false (p := x < 26 - n) (by omega)]
    · rw [if_neg (fun q => c (hb'.mp q))]
      have c' : bt set (25 - n) = false := by simpa using c
      refine qLay_SR hh hl n m A (by omega) (by rw [hnk, c', hm]; rfl) (SRa_cg h (fun x hx => ?_))
      by_cases d : x = 25 - n
      · rw [d, c']; rfl
      · by_cases d2 : x < 25 - n
        · rw [decide_eq_true d2, decide_eq_true (p := x < 26 - n) (by omega)]
        · rw [decide_eq_false d2, decide_eq_false (p := x < 26 - n) (by omega)]
/-- taken one after another -/
theorem kLeft_SR (hs : KS set) (hF : ∀ these, KS these → (∀ k, k < 26 → bt these k = true → bt set k = true) → kFirst S these = qFst (bt these) (ltK κ) 26 none) (h : SRa κ m A (bt set)) : ∀ j, j ≤ m → (KS (kLeft S set j) ∧ ∃ a : Nat → Nat, (∀ i, i < m → a i < 26 ∧ A i = nI (a i)) ∧ (∀ i l, i < l → l < m → ordL κ (a i) (a l)) ∧ (∀ x, x < 26 → (bt set x = true ↔ ∃ i, i < m ∧ a i = x)) ∧ (∀ x, x < 26 → (bt (kLeft S set j) x = true ↔ ∃ i, j ≤ i ∧ i < m ∧ a i = x)) ∧ ∀ i, i < j → kFirst S (kLeft S set i) = some (a i))
  | 0, _ => by
    obtain ⟨a, a1, a2, a3⟩ := h
    exact ⟨hs, a, a1, a2, a3, fun x hx => (a3 x hx).trans ⟨fun ⟨i, h1, h2⟩ => ⟨i, Nat.zero_le _, h1, h2⟩, fun ⟨i, _, h1, h2⟩ => ⟨i, h1, h2⟩⟩, fun i hi => by omega⟩
  | j + 1, hj => by
    obtain ⟨k1, a, a1, a2, a3, a4, a5⟩ := kLeft_SR hs hF h j (by omega)
    have hin : bt (kLeft S set j) (a j) = true := (a4 (a j) (a1 j (by omega)).1).mpr ⟨j, Nat.le_refl _, by omega, rfl⟩
    have hsub : ∀ k, k < 26 → bt (kLeft S set j) k = true → bt set k = true := fun k hk hb => by
      obtain ⟨i, i1, i2, i3⟩ := (a4 k hk).mp hb
      exact (a3 k hk).mpr ⟨i, i2, i3⟩
    have hf : kFirst S (kLeft S set j) = some (a j) := by
      rw [hF _ k1 hsub]
      refine qFst_is (a1 j (by omega)).1 hin (fun x hx hb => ?_)
      obtain ⟨i, i1, i2, i3⟩ := (a4 x hx).mp hb
      by_cases e : i = j
      · left; rw [← i3, e]
      · right; rw [← i3]; exact a2 j i (by omega) i2
    have hl : kLeft S set (j + 1) = kLeft S set j &&& (bb (a j) ^^^ -1) := by
      show kLeft S set j &&& (obb (kFirst S (kLeft S set j)) ^^^ -1) = _
      rw [hf]
      rfl
    refine ⟨by rw [hl]; exact KS_and k1, a, a1, a2, a3, fun x hx => ?_, fun i hi => ?_⟩
    · rw [hl, bt_off (a1 j (by omega)).1 (by omega), Bool.and_eq_true, a4 x hx]
      constructor
      · rintro ⟨⟨i, i1, i2, i3⟩, g⟩
        have : x ≠ a j := by simpa using g
        exact ⟨i, by
          by_cases e : i = j
          · rw [e] at i3; exact absurd i3.symm this
          · omega, i2, i3⟩
      · rintro ⟨i, i1, i2, i3⟩
        refine ⟨⟨i, by omega, i2, i3⟩, ?_⟩
        have : x ≠ a j := fun e => by
          have o := a2 j i (by omega) i2
          rw [i3, e] at o
          exact ordL_asym o o
        simpa using this
    · by_cases e : i = j
      · rw [e]; exact hf
      · exact a5 i (by omega)
end Rt'
