/-! A CACHE OF THE CLASS AND ONE OF THE LAW: by last use, first in, second chance; without lapse, shares, kept-back writes, fetches -/
def rkR (ru : Nat) : Nat := if ru = 0 then 3 else 4
def CP (sz : Nat → Nat) (ru ro : Nat) (S : CS) (q : PQ) (cl : Nat) : Prop := (S.1 0 0 = nI ru ∧ S.1 0 1 = nI ro ∧ S.1 0 3 = 0 ∧ ∀ j, j < 4 → S.1 1 j = 0) ∧ (KS (S.1 0 5) ∧ S.1 0 12 = nI cl ∧ cl < 1000000) ∧ (∀ j, j < q.1 → q.2.1 j < 26 ∧ bt (S.1 0 5) (q.2.1 j) = true) ∧ (∀ k, k < 26 → bt (S.1 0 5) k = true → ∃ j, j < q.1 ∧ q.2.1 j = k) ∧
  (∀ i j, i < j → j < q.1 → (S.2 (rkR ru) (q.2.1 i)).toInt < (S.2 (rkR ru) (q.2.1 j)).toInt) ∧ (∀ j, j < q.1 → (S.2 (rkR ru) (q.2.1 j)).toInt ≤ (cl : Int)) ∧ (ru = 3 → ∀ j, j < q.1 → bt (S.1 0 7) (q.2.1 j) = q.2.2.1 j) ∧ (∀ k, k < 26 → bt (S.1 0 7) k = true → bt (S.1 0 5) k = true) ∧ q.1 = nK (bt (S.1 0 5)) 26 ∧ q.2.2.2.1 = uS sz (bt (S.1 0 5)) 26 ∧ S.1 7 0 = nI q.2.2.2.2
section Ec
variable {S S' S2 : CS} {i j k m n x y e s t pl ru ro cl key h' : Nat} {v v' now : Int32} {kz kc kw : Nat → Int32} {W sz : Nat → Nat} {these present write : Int32} {q : PQ} {r : Nat → Int64} {Bx : Nat → Bool}
theorem lO_mn (hs : KS these) (hj : j < 26) (hb : bt these j = true) (h : ∀ i, i < 26 → bt these i = true → i ≠ j → (r j).toInt < (r i).toInt) : lO these r = some j := by
  cases e : lO these r with
  | none =>
    have := (lO_none hs).mp e
    rw [this, b_0] at hb; cases hb
  | some o =>
    obtain ⟨o1, o2⟩ := lO_lt o e
    by_cases w : o = j
    · rw [w]
    · have h1 := lO_lex e j hj hb
      have h2 := h o o1 o2 w
      unfold lxR at h1
      omega
theorem CP.inj (h : CP sz ru ro S q cl) (hi : i < q.1) (hj : j < q.1) (e : q.2.1 i = q.2.1 j) : i = j := by
  obtain ⟨-, -, -, -, h5, -⟩ := h
  by_cases w : i < j
  · have := h5 i j w hj
    rw [e] at this; omega
  · by_cases w2 : j < i
    · have := h5 j i w2 hi
      rw [e] at this; omega
    · omega
theorem CP.first (h : CP sz ru ro S q cl) (h0 : 0 < q.1) : lO (S.1 0 5) (S.2 (rkR ru)) = some (q.2.1 0) := by
  obtain ⟨-, h2, h3, h4, h5, -⟩ := h
  refine lO_mn h2.1 (h3 0 h0).1 (h3 0 h0).2 (fun i hi hb hne => ?_)
  obtain ⟨j, hj, e⟩ := h4 i hi hb
  rw [← e]
  refine h5 0 j ?_ hj
  by_cases w : j = 0
  · rw [w] at e; exact absurd e.symm hne
  · omega
theorem shK_lt {α : Type} {K : Nat → α} (h : j < pl) : shK pl K j = K j := if_pos h
theorem shK_ge {α : Type} {K : Nat → α} (h : ¬ j < pl) : shK pl K j = K (j + 1) := if_neg h
/-- one goes -/
theorem CP_out (h : CP sz ru ro S q cl) (hp : pl < q.1) (h0 : ∀ j, j < 4 → S'.1 0 j = S.1 0 j) (h1 : S'.1 1 = S.1 1) (h12 : S'.1 0 12 = S.1 0 12) (h5 : S'.1 0 5 = S.1 0 5 &&& (bb (q.2.1 pl) ^^^ -1)) (h7 : S'.1 0 7 = S.1 0 7 &&& (bb (q.2.1 pl) ^^^ -1)) (hL : S'.2 = S.2) (hh : S'.1 7 0 = S.1 7 0) : CP sz ru ro S' (pOutQ sz q pl) cl := by
  have inj := fun {i j} => CP.inj (i := i) (j := j) h
  obtain ⟨⟨a0, a1, a3, as⟩, ⟨b1, b2, b3⟩, c1, c2, c3, c4, c5, c6, c7, c8, c9⟩ := h
  obtain ⟨kp, bp⟩ := c1 pl hp
  have hb : ∀ k, k < 26 → bt (S'.1 0 5) k = (bt (S.1 0 5) k && !decide (k = q.2.1 pl)) := fun k hk => by rw [h5]; exact bt_dl' b1 kp hk
  have idx : ∀ j, j < q.1 - 1 → ∃ j', shK pl q.2.1 j = q.2.1 j' ∧ shK pl q.2.2.1 j = q.2.2.1 j' ∧ j' < q.1 ∧ j' ≠ pl ∧ (j' = if j < pl then j else j + 1) := fun j hj => by
    by_cases w : j < pl
    · exact ⟨j, shK_lt w, shK_lt w, by omega, by omega, (if_pos w).symm⟩
    · exact ⟨j + 1, shK_ge w, shK_ge w, by omega, by omega, (if_neg w).symm⟩
  refine ⟨⟨(h0 0 (by omega)).trans a0, (h0 1 (by omega)).trans a1, (h0 3 (by omega)).trans a3, fun j hj => by rw [h1]; exact as j hj⟩, ⟨by rw [h5]; exact KS_and b1, h12.trans b2, b3⟩, fun j hj => ?_, fun k hk e => ?_, fun i j hij hj => ?_, fun j hj => ?_, fun h3 j hj => ?_, fun k hk e => ?_, ?_, ?_, hh.trans c9⟩
  · obtain ⟨j', e1, -, e2, e3, -⟩ := idx j hj
    show shK pl q.2.1 j < 26 ∧ bt (S'.1 0 5) (shK pl q.2.1 j) = true
    rw [e1]
    refine ⟨(c1 j' e2).1, ?_⟩
    rw [hb _ (c1 j' e2).1, (c1 j' e2).2, decide_eq_false (fun w => e3 (inj e2 hp w))]; rfl
  · rw [hb k hk, Bool.and_eq_true_iff] at e
    obtain ⟨j, hj, ej⟩ := c2 k hk e.1
    have hne : j ≠ pl := fun w => by
      rw [w] at ej
      rw [ej, decide_eq_true rfl] at e; cases e.2
    by_cases w : j < pl
    · exact ⟨j, by show j < q.1 - 1; omega, by show shK pl q.2.1 j = k; rw [shK_lt w]; exact ej⟩
    · exact ⟨j - 1, by show j - 1 < q.1 - 1; omega, by show shK pl q.2.1 (j - 1) = k; rw [shK_ge (by omega), show j - 1 + 1 = j by omega]; exact ej⟩
  · have hj' : j < q.1 - 1 := hj
    obtain ⟨i', e1, -, e2, e3, e4⟩ := idx i (by omega)
    obtain ⟨j', f1, -, f2, f3, f4⟩ := idx j hj'
    show (S'.2 (rkR ru) (shK pl q.2.1 i)).toInt < (S'.2 (rkR ru) (shK pl q.2.1 j)).toInt
    rw [e1, f1, hL]
    refine c3 i' j' ?_ f2
    rw [e4, f4]
    split <;> split <;> omega
  · obtain ⟨j', e1, -, e2, -, -⟩ := idx j hj
    show (S'.2 (rkR ru) (shK pl q.2.1 j)).toInt ≤ _
    rw [e1, hL]
    exact c4 j' e2
  · obtain ⟨j', e1, e1', e2, e3, -⟩ := idx j hj
    show bt (S'.1 0 7) (shK pl q.2.1 j) = shK pl q.2.2.1 j
    rw [e1, e1', h7, bt_not (by have := (c1 j' e2).1; omega), bt_bb (by omega) (by have := (c1 j' e2).1; omega), decide_eq_false (fun w => e3 (inj e2 hp w)), Bool.not_false, Bool.and_true]
    exact c5 h3 j' e2
  · rw [h7, bt_not (by omega), bt_bb (by omega) (by omega), Bool.and_eq_true_iff] at e
    rw [hb k hk, c6 k hk e.1, e.2]; rfl
  · show q.1 - 1 = nK (bt (S'.1 0 5)) 26
    rw [h5]
    have := nK_tk b1 kp
    rw [if_pos bp] at this
    omega
  · show q.2.2.2.1 - sz (q.2.1 pl) = uS sz (bt (S'.1 0 5)) 26
    rw [h5, bt_dl b1 kp, c8]
    have := uS_dl (z := sz) bp 26
    rw [if_pos kp] at this
    omega
/-- one comes in behind all -/
theorem CP_in (h : CP sz ru ro S q cl) (hk : key < 26) (hn : bt (S.1 0 5) key = false) (hcl : cl + 1 < 1000000) (h0 : ∀ j, j < 4 → S'.1 0 j = S.1 0 j) (h1 : S'.1 1 = S.1 1) (h12 : S'.1 0 12 = nI (cl + 1)) (h5 : S'.1 0 5 = S.1 0 5 ||| bb key) (h7 : S'.1 0 7 = S.1 0 7) (hL : (S'.2 (rkR ru) key).toInt = ((cl + 1 : Nat) : Int)) (hL2 : ∀ k, k ≠ key → S'.2 (rkR ru) k = S.2 (rkR ru) k) (hh : S'.1 7 0 = S.1 7 0) : CP sz ru ro S' (pInQ sz key q) (cl + 1) := by
  obtain ⟨⟨a0, a1, a3, as⟩, ⟨b1, b2, b3⟩, c1, c2, c3, c4, c5, c6, c7, c8, c9⟩ := h
  have hb : ∀ k, k < 26 → bt (S'.1 0 5) k = (bt (S.1 0 5) k || decide (k = key)) := fun k hk' => by rw [h5, b_or, bt_bb (by omega) (by omega)]
  have ne : ∀ j, j < q.1 → q.2.1 j ≠ key := fun j hj w => by
    have := (c1 j hj).2
    rw [w, hn] at this; cases this
  have old : ∀ j, j < q.1 → u1 q.2.1 q.1 key j = q.2.1 j := fun j hj => u1_n (by omega)
  have new : u1 q.2.1 q.1 key q.1 = key := u1e
  refine ⟨⟨(h0 0 (by omega)).trans a0, (h0 1 (by omega)).trans a1, (h0 3 (by omega)).trans a3, fun j hj => by rw [h1]; exact as j hj⟩, ⟨by rw [h5]; exact KS_or b1 (KS_bb hk), h12, hcl⟩, fun j hj => ?_, fun k hk' e => ?_, fun i j hij hj => ?_, fun j hj => ?_, fun h3 j hj => ?_, fun k hk' e => ?_, ?_, ?_, hh.trans c9⟩
  · show u1 q.2.1 q.1 key j < 26 ∧ bt (S'.1 0 5) (u1 q.2.1 q.1 key j) = true
    have hj' : j < q.1 + 1 := hj
    by_cases w : j = q.1
    · rw [w, new]; exact ⟨hk, by rw [hb key hk, decide_eq_true rfl, Bool.or_true]⟩
    · rw [old j (by omega)]; exact ⟨(c1 j (by omega)).1, by rw [hb _ (c1 j (by omega)).1, (c1 j (by omega)).2]; rfl⟩
  · rw [hb k hk'] at e
    rcases Bool.or_eq_true_iff.mp e with e | e
    · obtain ⟨j, hj, ej⟩ := c2 k hk' e
      exact ⟨j, by show j < q.1 + 1; omega, by show u1 q.2.1 q.1 key j = k; rw [old j hj]; exact ej⟩
    · exact ⟨q.1, Nat.lt_succ_self _, by show u1 q.2.1 q.1 key q.1 = k; rw [new]; exact (of_decide_eq_true e).symm⟩
  · have hj' : j < q.1 + 1 := hj
    show (S'.2 (rkR ru) (u1 q.2.1 q.1 key i)).toInt < (S'.2 (rkR ru) (u1 q.2.1 q.1 key j)).toInt
    rw [old i (by omega), hL2 _ (ne i (by omega))]
    by_cases w : j = q.1
    · rw [w, new, hL]
      have := c4 i (by omega)
      omega
    · rw [old j (by omega), hL2 _ (ne j (by omega))]
      exact c3 i j hij (by omega)
  · have hj' : j < q.1 + 1 := hj
    show (S'.2 (rkR ru) (u1 q.2.1 q.1 key j)).toInt ≤ _
    by_cases w : j = q.1
    · rw [w, new, hL]; exact Int.le_refl _
    · rw [old j (by omega), hL2 _ (ne j (by omega))]
      have := c4 j (by omega)
      omega
  · have hj' : j < q.1 + 1 := hj
    show bt (S'.1 0 7) (u1 q.2.1 q.1 key j) = u1 q.2.2.1 q.1 false j
    rw [h7]
    by_cases w : j = q.1
    · rw [w, new, u1e]
      cases e : bt (S.1 0 7) key with
      | false => rfl
      | true => rw [c6 key hk e] at hn; cases hn
    · rw [old j (by omega), u1_n w]
      exact c5 h3 j (by omega)
  · rw [h7] at e
    rw [hb k hk', c6 k hk' e]; rfl
  · show q.1 + 1 = nK (bt (S'.1 0 5)) 26
    rw [h5, bt_ad b1 hk, nK_ad hn 26 hk, c7]
  · show q.2.2.2.1 + sz key = uS sz (bt (S'.1 0 5)) 26
    rw [h5, bt_ad b1 hk, uS_ad hn, if_pos hk, c8]
/-- one goes behind all -/
theorem CP_mv (h : CP sz ru ro S q cl) (hp : pl < q.1) (hcl : cl + 1 < 1000000) (h0 : ∀ j, j < 4 → S'.1 0 j = S.1 0 j) (h1 : S'.1 1 = S.1 1) (h12 : S'.1 0 12 = nI (cl + 1)) (h5 : S'.1 0 5 = S.1 0 5) (h7 : ru = 3 → ∀ k, k < 26 → bt (S'.1 0 7) k = (bt (S.1 0 7) k && !decide (k = q.2.1 pl))) (h7' : ∀ k, k < 26 → bt (S'.1 0 7) k = true → bt (S.1 0 5) k = true) (hB : ru = 3 → Bx = q.2.2.1) (hL : (S'.2 (rkR ru) (q.2.1 pl)).toInt = ((cl + 1 : Nat) : Int)) (hL2 : ∀ k, k ≠ q.2.1 pl → S'.2 (rkR ru) k = S.2 (rkR ru) k) (hh : S'.1 7 0 = nI h') : CP sz ru ro S' (pInQ sz (q.2.1 pl) (pOutQ sz (q.1, q.2.1, Bx, q.2.2.2.1, h') pl)) (cl + 1) := by
  have inj := fun {i j} => CP.inj (i := i) (j := j) h
  obtain ⟨⟨a0, a1, a3, as⟩, ⟨b1, b2, b3⟩, c1, c2, c3, c4, c5, c6, c7, c8, c9⟩ := h
  obtain ⟨kp, bp⟩ := c1 pl hp
  have idx : ∀ j, j < q.1 - 1 → ∃ j', u1 (shK pl q.2.1) (q.1 - 1) (q.2.1 pl) j = q.2.1 j' ∧ u1 (shK pl Bx) (q.1 - 1) false j = Bx j' ∧ j' < q.1 ∧ j' ≠ pl ∧ (j' = if j < pl then j else j + 1) := fun j hj => by
    rw [u1_n (by omega), u1_n (by omega)]
    by_cases w : j < pl
    · exact ⟨j, shK_lt w, shK_lt w, by omega, by omega, (if_pos w).symm⟩
    · exact ⟨j + 1, shK_ge w, shK_ge w, by omega, by omega, (if_neg w).symm⟩
  have new : u1 (shK pl q.2.1) (q.1 - 1) (q.2.1 pl) (q.1 - 1) = q.2.1 pl := u1e
  have m1 : q.1 - 1 + 1 = q.1 := by omega
  refine ⟨⟨(h0 0 (by omega)).trans a0, (h0 1 (by omega)).trans a1, (h0 3 (by omega)).trans a3, fun j hj => by rw [h1]; exact as j hj⟩, ⟨by rw [h5]; exact b1, h12, hcl⟩, fun j hj => ?_, fun k hk e => ?_, fun i j hij hj => ?_, fun j hj => ?_, fun h3 j hj => ?_, fun k hk e => ?_, ?_, ?_, hh⟩
  · have hj' : j < q.1 - 1 + 1 := hj
    show u1 (shK pl q.2.1) (q.1 - 1) (q.2.1 pl) j < 26 ∧ bt (S'.1 0 5) (u1 (shK pl q.2.1) (q.1 - 1) (q.2.1 pl) j) = true
    rw [h5]
    by_cases w : j = q.1 - 1
    · rw [w, new]; exact ⟨kp, bp⟩
    · obtain ⟨j', e1, -, e2, -, -⟩ := idx j (by omega)
      rw [e1]; exact c1 j' e2
  · rw [h5] at e
    obtain ⟨j, hj, ej⟩ := c2 k hk e
    by_cases w0 : j = pl
    · exact ⟨q.1 - 1, by show q.1 - 1 < q.1 - 1 + 1; omega, by show u1 (shK pl q.2.1) (q.1 - 1) (q.2.1 pl) (q.1 - 1) = k; rw [new, ← w0]; exact ej⟩
    · by_cases w : j < pl
      · exact ⟨j, by show j < q.1 - 1 + 1; omega, by show u1 (shK pl q.2.1) (q.1 - 1) (q.2.1 pl) j = k; rw [u1_n (by omega), shK_lt w]; exact ej⟩
      · exact ⟨j - 1, by show j - 1 < q.1 - 1 + 1; omega, by show u1 (shK pl q.2.1) (q.1 - 1) (q.2.1 pl) (j - 1) = k; rw [u1_n (by omega), shK_ge (by omega), show j - 1 + 1 = j by omega]; exact ej⟩
  · have hj' : j < q.1 - 1 + 1 := hj
    obtain ⟨i', e1, -, e2, e3, e4⟩ := idx i (by omega)
    show (S'.2 (rkR ru) (u1 (shK pl q.2.1) (q.1 - 1) (q.2.1 pl) i)).toInt < (S'.2 (rkR ru) (u1 (shK pl q.2.1) (q.1 - 1) (q.2.1 pl) j)).toInt
    rw [e1, hL2 _ (fun w => e3 (inj e2 hp w))]
    by_cases w : j = q.1 - 1
    · rw [w, new, hL]
      have := c4 i' e2
      omega
    · obtain ⟨j', f1, -, f2, f3, f4⟩ := idx j (by omega)
      rw [f1, hL2 _ (fun w => f3 (inj f2 hp w))]
      refine c3 i' j' ?_ f2
      rw [e4, f4]
      split <;> split <;> omega
  · have hj' : j < q.1 - 1 + 1 := hj
    show (S'.2 (rkR ru) (u1 (shK pl q.2.1) (q.1 - 1) (q.2.1 pl) j)).toInt ≤ _
    by_cases w : j = q.1 - 1
    · rw [w, new, hL]; exact Int.le_refl _
    · obtain ⟨j', f1, -, f2, f3, -⟩ := idx j (by omega)
      rw [f1, hL2 _ (fun w => f3 (inj f2 hp w))]
      have := c4 j' f2
      omega
  · have hj' : j < q.1 - 1 + 1 := hj
    show bt (S'.1 0 7) (u1 (shK pl q.2.1) (q.1 - 1) (q.2.1 pl) j) = u1 (shK pl Bx) (q.1 - 1) false j
    by_cases w : j = q.1 - 1
    · rw [w, new, h7 h3 _ kp, decide_eq_true rfl, Bool.not_true, Bool.and_false, u1e]
    · obtain ⟨j', f1, f1', f2, f3, -⟩ := idx j (by omega)
      rw [f1, f1', h7 h3 _ (c1 j' f2).1, decide_eq_false (fun w => f3 (inj f2 hp w)), Bool.not_false, Bool.and_true, hB h3]
      exact c5 h3 j' f2
  · rw [h5]; exact h7' k hk e
  · show q.1 - 1 + 1 = nK (bt (S'.1 0 5)) 26
    rw [h5, m1]; exact c7
  · show q.2.2.2.1 - sz (q.2.1 pl) + sz (q.2.1 pl) = uS sz (bt (S'.1 0 5)) 26
    rw [h5, ← c8]
    have := uS_dl (z := sz) bp 26
    rw [if_pos kp] at this
    omega
end Ec
