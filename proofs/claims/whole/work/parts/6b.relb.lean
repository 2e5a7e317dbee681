/-! THE RELATION: how often and when keys were asked -/
def fwN (kf : Nat → Nat) (k f : Nat) : Nat → Nat
  | 0 => 0
  | t + 1 => if f ≤ t ∧ kf t = k then (fwN kf k f t / 300 + 1) * 300 + t else fwN kf k f t
/-- 1 and the latest request for a key; 0 without -/
def laN (kf : Nat → Nat) (k f t : Nat) : Nat := match lastTo kf k f t with
  | none => 0
  | some i => i + 1
def FewA (S : CS) (kf : Nat → Nat) (f n : Nat) : Prop := ∀ k, k < 26 → S.2 12 k = Int32.toInt64 (nI (fwN kf k f n))
section Rl'
variable {S S' P : CS} {kf : Nat → Nat} {i j k f t n x a b : Nat} {kz kc kw : Nat → Int32} {W : Nat → Nat} {ahead : Option Nat} {present write : Int32}
theorem cnt_0 : ∀ t, lastTo kf k f t = none → cntTo kf k f t = 0
  | 0, _ => rfl
  | t + 1, h => by
    unfold lastTo at h
    unfold cntTo
    by_cases d : f ≤ t ∧ kf t = k
    · rw [if_pos d] at h; cases h
    · rw [if_neg d] at h ⊢; exact cnt_0 t h
theorem cnt_1 : ∀ t, lastTo kf k f t = some i → 1 ≤ cntTo kf k f t
  | 0, h => by cases h
  | t + 1, h => by
    unfold lastTo at h
    unfold cntTo
    by_cases d : f ≤ t ∧ kf t = k
    · rw [if_pos d]; omega
    · rw [if_neg d] at h ⊢; exact cnt_1 t h
theorem fwN_n : ∀ (t : Nat), lastTo kf k f t = none → fwN kf k f t = 0
  | 0, _ => rfl
  | t + 1, h => by
    unfold lastTo at h
    unfold fwN
    by_cases d : f ≤ t ∧ kf t = k
    · rw [if_pos d] at h; cases h
    · rw [if_neg d] at h ⊢; exact fwN_n t h
theorem fwN_s : ∀ (t i : Nat), t ≤ 300 → lastTo kf k f t = some i → fwN kf k f t = 300 * cntTo kf k f t + i
  | 0, i, _, h => by cases h
  | t + 1, i, ht, h => by
    unfold lastTo at h
    unfold fwN cntTo
    by_cases d : f ≤ t ∧ kf t = k
    · rw [if_pos d] at h
      rw [if_pos d, if_pos d]
      cases h
      cases e : lastTo kf k f t with
      | none =>
        rw [fwN_n t e, cnt_0 t e]
      | some j =>
        have hj := (lastTo_lt t e).1
        rw [fwN_s t j (by omega) e]
        generalize cntTo kf k f t = c
        omega
    · rw [if_neg d] at h ⊢
      rw [if_neg d]
      exact fwN_s t i (by omega) h
theorem fwN_le (ht : t ≤ 300) : fwN kf k f t ≤ 90300 := by
  have := cntTo_le (kf := kf) (k := k) (f := f) t
  cases e : lastTo kf k f t with
  | none => rw [fwN_n t e]; omega
  | some i =>
    have hi := (lastTo_lt t e).1
    rw [fwN_s t i ht e]
    omega
theorem pRank_N (ha : a ≤ 90300) (hb : b < 300) : pRank (Int32.toInt64 (nI a)) (nI b) = Int32.toInt64 (nI ((a / 300 + 1) * 300 + b)) := by
  have h300 : (300 : Int64) = Int32.toInt64 (nI 300) := by decide
  have h1 : (1 : Int64) = Int32.toInt64 (nI 1) := by decide
  have hd : Int32.toInt64 (nI a) / 300 = Int32.toInt64 (nI (a / 300)) := by
    apply Int64.toInt.inj
    have e3 : (300 : Int64).toInt = 300 := by decide
    rw [Int64.toInt_div, L64 (by omega), e3, L64 (by omega), Int.tdiv_eq_ediv_of_nonneg (by omega)]
    rw [Int.bmod_eq_of_le (by omega) (by omega)]
    omega
  unfold pRank
  rw [hd, h1, L64_add (by omega)]
  have hm : Int32.toInt64 (nI (a / 300 + 1)) * 300 = Int32.toInt64 (nI ((a / 300 + 1) * 300)) := by
    apply Int64.toInt.inj
    have e3 : (300 : Int64).toInt = 300 := by decide
    rw [Int64.toInt_mul, L64 (by omega), e3, L64 (by omega)]
    rw [Int.bmod_eq_of_le (by omega) (by omega)]
    omega
  rw [hm, L64_add (by omega)]
theorem FewA_p (h : FewA S kf f n) (g : Kp S P) : FewA P kf f n := fun k hk => by rw [g.2.2.2.2.2.2.2]; exact h k hk
theorem FewA_asked (h : FewA S kf f n) (hf : f ≤ n) (hn : n < 300) : FewA (kAsked S (nI n) (kf n)) kf f (n + 1) := fun k hk => by
  show u2 (u2 S.2 11 (kf n) (Int32.toInt64 (nI n))) 12 (kf n) (pRank (S.2 12 (kf n)) (nI n)) 12 k = _
  unfold fwN
  by_cases e : kf n = k
  · rw [if_pos ⟨hf, e⟩, e, z2_eq, h k hk, pRank_N (fwN_le (by omega)) hn]
  · rw [if_neg (fun q => e q.2), z2_n2 (fun q => e q.symm), z2_n1 (by omega)]
    exact h k hk
theorem FewA_step (h : FewA S kf f n) (hf : f ≤ n) (hn : n < 300) : FewA (kFeed kz kc kw W (kf n) ahead present write n S) kf f (n + 1) := by
  refine FewA_p ?_ kFeed_p
  have e : (kNoted kz n (kf n) S).2 12 = (kAsked S (nI n) (kf n)).2 12 := by
    unfold kNoted
    split
    · rfl
    · split <;> rfl
  intro k hk
  rw [e]
  exact FewA_asked h hf hn k hk
theorem FewA_0 (h : ∀ k, k < 26 → S.2 12 k = 0) (hn : n ≤ f) : FewA S kf f n := fun k hk => by
  rw [h k hk]
  have : fwN kf k f n = 0 := by
    have : ∀ n, n ≤ f → fwN kf k f n = 0 := fun n => by
      induction n with
      | zero => exact fun _ => rfl
      | succ n ih =>
        intro h
        unfold fwN
        rw [if_neg (fun q => by omega)]
        exact ih (by omega)
    exact this n hn
  rw [this]
  decide
/-- the class's ranks are the reference's tallies -/
theorem FewA_FW (h : FewA S kf f n) (hn : n ≤ 300) : FW S (qA kf f n) (qB kf f n) := fun i j hi hj => by
  rw [h i hi, h j hj]
  have li := fwN_le (kf := kf) (k := i) (f := f) hn
  have lj := fwN_le (kf := kf) (k := j) (f := f) hn
  have ci := cntTo_le (kf := kf) (k := i) (f := f) n
  have cj := cntTo_le (kf := kf) (k := j) (f := f) n
  have e1 : (Int32.toInt64 (nI (fwN kf i f n)) < Int32.toInt64 (nI (fwN kf j f n))) = (fwN kf i f n < fwN kf j f n) := propext (L64_lt (by omega) (by omega))
  have e2 : (qA kf f n i < qA kf f n j) = (cntTo kf i f n < cntTo kf j f n) := propext (lt_iL (by omega) (by omega))
  have e3 : (qA kf f n i = qA kf f n j) = (cntTo kf i f n = cntTo kf j f n) := propext (lt_iE (by omega) (by omega))
  have hm : ∀ a, a < 300 → (-1 : Int32) < nI a := fun a ha => by
    rw [Int32.lt_iff_toInt_lt, lt_iT (by omega)]
    show (-1 : Int) < _
    omega
  simp only [e1, e2, e3]
  unfold qB
  cases ei : lastTo kf i f n with
  | none =>
    have ki := cnt_0 n ei
    cases ej : lastTo kf j f n with
    | none =>
      have kj := cnt_0 n ej
      rw [fwN_n n ei, fwN_n n ej, ki, kj]
      decide
    | some b =>
      have kj := cnt_1 n ej
      have hb := (lastTo_lt n ej).1
      rw [fwN_n n ei, fwN_s n b hn ej, decide_eq_true (p := 0 < 300 * cntTo kf j f n + b) (by omega), decide_eq_true (p := cntTo kf i f n < cntTo kf j f n) (by omega)]
      rfl
  | some a =>
    have ki := cnt_1 n ei
    have ha := (lastTo_lt n ei).1
    cases ej : lastTo kf j f n with
    | none =>
      have kj := cnt_0 n ej
      rw [fwN_s n a hn ei, fwN_n n ej, decide_eq_false (p := 300 * cntTo kf i f n + a < 0) (by omega), decide_eq_false (p := cntTo kf i f n < cntTo kf j f n) (by omega), decide_eq_false (p := cntTo kf i f n = cntTo kf j f n) (by omega)]
      rfl
    | some b =>
      have kj := cnt_1 n ej
      have hb := (lastTo_lt n ej).1
      rw [oI_s, oI_s, fwN_s n a hn ei, fwN_s n b hn ej]
      have e4 : (nI a < nI b) = (a < b) := propext (lt_iL (by omega) (by omega))
      simp only [e4]
      by_cases q1 : cntTo kf i f n < cntTo kf j f n
      · rw [decide_eq_true q1, decide_eq_true (p := 300 * cntTo kf i f n + a < 300 * cntTo kf j f n + b) (by omega)]
        rfl
      · rw [decide_eq_false q1, Bool.false_or]
        by_cases q2 : cntTo kf i f n = cntTo kf j f n
        · rw [decide_eq_true q2, Bool.true_and]
          exact decide_eq_decide.mpr (by omega)
        · rw [decide_eq_false q2, Bool.false_and]
          exact decide_eq_false (by omega)
theorem laN_s : laN kf k f (t + 1) = if f ≤ t ∧ kf t = k then t + 1 else laN kf k f t := by
  unfold laN
  conv => lhs; unfold lastTo
  by_cases c : f ≤ t ∧ kf t = k
  · rw [if_pos c, if_pos c]
  · rw [if_neg c, if_neg c]
theorem laN_le : laN kf k f t ≤ t := by
  unfold laN
  cases e : lastTo kf k f t with
  | none => exact Nat.zero_le _
  | some i => exact (lastTo_lt t e).1
/-- when asked last: the class's number, in the same order as 1 and the request -/
theorem la_lt (ht : t ≤ 300) : (Int32.toInt64 (oI (lastTo kf i f t)) < Int32.toInt64 (oI (lastTo kf j f t))) ↔ (Int32.toInt64 (nI (laN kf i f t)) < Int32.toInt64 (nI (laN kf j f t))) := by
  have li := laN_le (kf := kf) (k := i) (f := f) (t := t)
  have lj := laN_le (kf := kf) (k := j) (f := f) (t := t)
  rw [L64_lt (by omega) (by omega), Int64.lt_iff_toInt_lt, Int32.toInt_toInt64, Int32.toInt_toInt64]
  have hT : ∀ k, (oI (lastTo kf k f t)).toInt = (laN kf k f t : Int) - 1 := fun k => by
    unfold laN
    cases e : lastTo kf k f t with
    | none => rfl
    | some b =>
      have hb := (lastTo_lt t e).1
      rw [oI_s, lt_iT (by omega)]
      show (b : Int) = ((b + 1 : Nat) : Int) - 1
      omega
  rw [hT, hT]
  omega
end Rl'
