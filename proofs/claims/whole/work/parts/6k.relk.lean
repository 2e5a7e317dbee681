/-! THE RELATION: the order of a cache, by its rule */ -/
section Ru'
variable {N L : Nat} {Q : (Nat → Int32) × (Nat → Int32)} {S S' : CS} {H U A B A' : Nat → Int32} {c k i j t e w r q n a g f b R y m p x : Nat} {kz kc kw : Nat → Int32} {W kf : Nat → Nat} {v these set : Int32} {can can' s : Nat → Bool} {lt lt' : Nat → Nat → Bool} {κ κ' : Nat → Nat} {rk : Nat → Int64}
/-- ranks by which a cache orders what it holds -/
def kap (U A B : Nat → Int32) (k : Nat) : Nat :=
  if U 0 = 1 then 300 * lt_n (A k) + lt_n (B k + 1) else if U 0 = 2 then lt_n (U (50 + k)) else if U 0 = 3 then lt_n (U (102 + k))
  else if U 0 = 4 then (if U (232 + k) = 1 then lt_n (U (50 + k)) else 2147483648 + lt_n (U (76 + k)))
  else if U 0 = 5 then lt_n (U (284 + k)) else lt_n (U (76 + k))
theorem lO_K {sub : Int32} (hr : ∀ i j, i < 26 → j < 26 → bt sub i = true → bt sub j = true → (rk i < rk j ↔ κ i < κ j)) : lO sub rk = qFst (bt sub) (ltK κ) 26 none :=
  qFst_cg0 (fun _ _ => rfl) (fun i j hi hj ci cj => decide_eq_decide.mpr (hr i j hi (by omega) ci cj))
theorem qFst_sub (hsub : ∀ k, k < 26 → can' k = true → can k = true) (hne : ∃ k, k < 26 ∧ can' k = true) (hlt : ∀ x y, x < 26 → y < 26 → can' x = true → can y = true → can' y = false → κ x < κ y) : qFst can (ltK κ) 26 none = qFst can' (ltK κ) 26 none := by
  obtain ⟨x, x1, x2⟩ := hne
  cases e : qFst can (ltK κ) 26 none with
  | none => exact absurd e (qFst_some 26 none (Nat.le_refl _) (Or.inr ⟨x, x1, by omega, hsub x x1 x2⟩))
  | some q =>
    obtain ⟨q1, q2, q3⟩ := qFst_ord0 e
    have q4 : can' q = true := by
      cases d : can' q
      · have h1 := hlt x q x1 q1 x2 q2 d
        rcases q3 x x1 (hsub x x1 x2) with h | h
        · rw [h, d] at x2; cases x2
        · rcases h with h | h <;> omega
      · rfl
    exact (qFst_is q1 q4 (fun j hj hc => q3 j hj (hsub j hj hc))).symm
/-- stamps as numbers -/
theorem ISO_n (h : ISO c q set rk A) (hc : c < 2147483648) (hq : q < 2147483648) (hi : i < 26) (hj : j < 26) (bi : bt set i = true) (bj : bt set j = true) : (rk i < rk j ↔ lt_n (A i) < lt_n (A j)) ∧ (decide (A i < A j) = decide (lt_n (A i) < lt_n (A j))) := by
  have h0 := ISO_lt h hc hq hi hj bi bj
  obtain ⟨a, b, h1, h2⟩ := h
  obtain ⟨e1, e2, e3, e4⟩ := h1 i hi bi
  obtain ⟨g1, g2, g3, g4⟩ := h1 j hj bj
  rw [e3, g3] at h0 ⊢
  rw [lt_iN (by omega), lt_iN (by omega)]
  have h3 := lt_iL (j := b i) (k := b j) (by omega) (by omega)
  exact ⟨h0.trans h3, decide_eq_decide.mpr h3⟩
theorem first_K (h : RX N L Q S U) (hN : N < 2147483648) (hL : L < 2147483648) (hfw : ∀ i j, i < 26 → j < 26 → (S.2 12 i < S.2 12 j ↔ 300 * lt_n (A i) + lt_n (B i + 1) < 300 * lt_n (A j) + lt_n (B j + 1))) (hs : KS these) (hh : ∀ k, k < 26 → bt these k = true → bt (S.1 0 5) k = true) : kFirst S these = qFst (bt these) (ltK (kap U A B)) 26 none := by
  obtain ⟨h1, h2, -, -, -, h6, h7, -, h9, ⟨c, q, b1, b2, b3, b4, b5, b6, b7⟩, -⟩ := h
  obtain ⟨r, hr, e0⟩ := h1.2.2.2.1
  have e0' : S.1 0 0 = nI r := (h1.1 0 (by omega)).trans e0
  have tI : (S.1 0 0).toInt = (r : Int) := by rw [e0', lt_iT (by omega)]
  unfold kFirst
  rw [tI]
  have hcase : r = 0 ∨ r = 1 ∨ r = 2 ∨ r = 3 ∨ r = 4 ∨ r = 5 ∨ r = 6 := by omega
  rcases hcase with rfl | rfl | rfl | rfl | rfl | rfl | rfl
  · rw [if_neg (by decide), if_neg (by decide), if_neg (by decide), if_neg (by decide), if_neg (by decide)]
    have ek : kap U A B = fun k => lt_n (U (76 + k)) := funext fun k => by
      unfold kap
      rw [e0, if_neg (by decide), if_neg (by decide), if_neg (by decide), if_neg (by decide), if_neg (by decide)]
    rw [ek]
    exact lO_K (fun i j hi hj bi bj => (ISO_n b5 (by omega) (by omega) hi hj (hh i hi bi) (hh j hj bj)).1)
  · rw [if_pos (by decide)]
    have ek : kap U A B = fun k => 300 * lt_n (A k) + lt_n (B k + 1) := funext fun k => by
      unfold kap
      rw [e0, if_pos (by decide)]
    rw [ek]
    exact lO_K (fun i j hi hj bi bj => hfw i j hi hj)
  · rw [if_neg (by decide), if_pos (by decide)]
    have ek : kap U A B = fun k => lt_n (SP U k) := funext fun k => by
      unfold kap SP
      rw [e0, if_neg (by decide), if_pos (by decide), if_neg (by decide)]
    rw [ek]
    exact lO_K (fun i j hi hj bi bj => (ISO_n b6 (by omega) (by omega) hi hj (hh i hi bi) (hh j hj bj)).1)
  · rw [if_neg (by decide), if_neg (by decide), if_pos (by decide)]
    have ek : kap U A B = fun k => lt_n (SP U k) := funext fun k => by
      unfold kap SP
      rw [e0, if_neg (by decide), if_neg (by decide), if_pos (by decide), if_pos (by decide)]
    rw [ek]
    exact lO_K (fun i j hi hj bi bj => (ISO_n b6 (by omega) (by omega) hi hj (hh i hi bi) (hh j hj bj)).1)
  · rw [if_neg (by decide), if_neg (by decide), if_neg (by decide), if_pos (by decide)]
    have ek : ∀ k, kap U A B k = if U (232 + k) = 1 then lt_n (SP U k) else 2147483648 + lt_n (U (76 + k)) := fun k => by
      unfold kap SP
      rw [e0, if_neg (c := nI 4 = 1) (by decide), if_neg (c := nI 4 = 2) (by decide), if_neg (c := nI 4 = 3) (by decide), if_pos (c := nI 4 = 4) (by decide), if_neg (c := nI 4 = 3) (by decide)]
    have hy : ∀ k, k < 26 → bt these k = true → bt (S.1 0 8) k = false → kap U A B k = lt_n (SP U k) := fun k hk hb ho => by
      rw [ek k, if_pos (by rw [h6.2.2 k hk (hh k hk hb), ho]; rfl)]
    have ha : ∀ k, k < 26 → bt these k = true → bt (S.1 0 8) k = true → kap U A B k = 2147483648 + lt_n (U (76 + k)) := fun k hk hb ho => by
      rw [ek k, if_neg (by rw [h6.2.2 k hk (hh k hk hb), ho]; decide)]
    by_cases d : these &&& (S.1 0 8 ^^^ -1) = 0
    · rw [if_pos d]
      have all : ∀ k, k < 26 → bt these k = true → bt (S.1 0 8) k = true := fun k hk hb => by
        have : bt (these &&& (S.1 0 8 ^^^ -1)) k = bt 0 k := by rw [d]
        rw [bt_not (by omega), b_0, hb] at this
        cases e : bt (S.1 0 8) k
        · rw [e] at this; cases this
        · rfl
      refine lO_K (fun i j hi hj bi bj => ?_)
      rw [ha i hi bi (all i hi bi), ha j hj bj (all j hj bj)]
      have := (ISO_n b5 (by omega) (by omega) hi hj (hh i hi bi) (hh j hj bj)).1
      rw [this]
      omega
    · rw [if_neg d]
      have bits : ∀ k, k < 26 → bt (these &&& (S.1 0 8 ^^^ -1)) k = true → bt these k = true ∧ bt (S.1 0 8) k = false := fun k hk hb => by
        rw [bt_not (by omega)] at hb
        have := (Bool.and_eq_true _ _).mp hb
        exact ⟨this.1, by simpa using this.2⟩
      rw [qFst_sub (can' := bt (these &&& (S.1 0 8 ^^^ -1))) (fun k hk hb => (bits k hk hb).1) (KS_ne (KS_and hs) d) (fun x y hx hy' cx cy ncy => ?_)]
      · refine lO_K (fun i j hi hj bi bj => ?_)
        obtain ⟨i1, i2⟩ := bits i hi bi
        obtain ⟨j1, j2⟩ := bits j hj bj
        rw [hy i hi i1 i2, hy j hj j1 j2]
        exact (ISO_n b6 (by omega) (by omega) hi hj (hh i hi i1) (hh j hj j1)).1
      · obtain ⟨x1, x2⟩ := bits x hx cx
        have y2 : bt (S.1 0 8) y = true := by
          rw [bt_not (by omega), cy] at ncy
          cases e : bt (S.1 0 8) y
          · rw [e] at ncy; cases ncy
          · rfl
        rw [hy x hx x1 x2, ha y hy' cy y2]
        obtain ⟨a, b, x3, -⟩ := b6
        obtain ⟨-, -, e3, e4⟩ := x3 x hx (hh x hx x1)
        rw [e3, lt_iN (by omega)]
        omega
  · rw [if_neg (by decide), if_neg (by decide), if_neg (by decide), if_neg (by decide), if_pos (by decide)]
    have ek : kap U A B = fun k => lt_n (U (284 + k)) := funext fun k => by
      unfold kap
      rw [e0, if_neg (by decide), if_neg (by decide), if_neg (by decide), if_neg (by decide), if_pos (by decide)]
    rw [ek]
    refine lO_K (fun i j hi hj bi bj => ?_)
    obtain ⟨l, l1, l2, l3⟩ := h9.2 i hi (hh i hi bi)
    obtain ⟨m, m1, m2, m3⟩ := h9.2 j hj (hh j hj bj)
    rw [l2, l3, m2, m3, L64_lt (by omega) (by omega), lt_iN (by omega), lt_iN (by omega)]
  · rw [if_neg (by decide), if_neg (by decide), if_neg (by decide), if_neg (by decide), if_neg (by decide)]
    have ek : kap U A B = fun k => lt_n (U (76 + k)) := funext fun k => by
      unfold kap
      rw [e0, if_neg (by decide), if_neg (by decide), if_neg (by decide), if_neg (by decide), if_neg (by decide)]
    rw [ek]
    exact lO_K (fun i j hi hj bi bj => (ISO_n b5 (by omega) (by omega) hi hj (hh i hi bi) (hh j hj bj)).1)
/-- the reference's order is by the same ranks -/
theorem ahead_K (h : RX N L Q S U) (hN : N < 2147483648) (hL : L < 2147483648) (hfw : ∀ i j, i < 26 → j < 26 → ((decide (A i < A j) || (decide (A i = A j) && decide (B i < B j))) = decide (300 * lt_n (A i) + lt_n (B i + 1) < 300 * lt_n (A j) + lt_n (B j + 1)))) (hi : i < 26) (hj : j < i) (bi : bt (S.1 0 5) i = true) (bj : bt (S.1 0 5) j = true) : qAhead U A B (if U 0 = 6 then 0 else U 0) i j = ltK (kap U A B) i j := by
  obtain ⟨h1, h2, -, -, -, h6, h7, -, h9, ⟨c, q, b1, b2, b3, b4, b5, b6, b7⟩, -⟩ := h
  obtain ⟨r, hr, e0⟩ := h1.2.2.2.1
  have hj' : j < 26 := by omega
  have u5 := (ISO_n b5 (by omega) (by omega) hi hj' bi bj).2
  have u6 := (ISO_n b6 (by omega) (by omega) hi hj' bi bj).2
  rw [e0]
  unfold ltK
  have hcase : r = 0 ∨ r = 1 ∨ r = 2 ∨ r = 3 ∨ r = 4 ∨ r = 5 ∨ r = 6 := by omega
  rcases hcase with rfl | rfl | rfl | rfl | rfl | rfl | rfl
  · have ek : ∀ k, kap U A B k = lt_n (U (76 + k)) := fun k => by
      unfold kap
      rw [e0, if_neg (by decide), if_neg (by decide), if_neg (by decide), if_neg (by decide), if_neg (by decide)]
    rw [ek, ek]
    exact u5
  · have ek : ∀ k, kap U A B k = 300 * lt_n (A k) + lt_n (B k + 1) := fun k => by
      unfold kap
      rw [e0, if_pos (by decide)]
    rw [ek, ek]
    exact hfw i j hi hj'
  · have ek : ∀ k, kap U A B k = lt_n (U (50 + k)) := fun k => by
      unfold kap
      rw [e0, if_neg (by decide), if_pos (by decide)]
    have es : ∀ k, SP U k = U (50 + k) := fun k => by unfold SP; rw [e0, if_neg (by decide)]
    rw [es, es] at u6
    rw [ek, ek]
    exact u6
  · have ek : ∀ k, kap U A B k = lt_n (U (102 + k)) := fun k => by
      unfold kap
      rw [e0, if_neg (by decide), if_neg (by decide), if_pos (by decide)]
    have es : ∀ k, SP U k = U (102 + k) := fun k => by unfold SP; rw [e0, if_pos (by decide)]
    rw [es, es] at u6
    rw [ek, ek]
    exact u6
  · have ek : ∀ k, kap U A B k = if U (232 + k) = 1 then lt_n (U (50 + k)) else 2147483648 + lt_n (U (76 + k)) := fun k => by
      unfold kap
      rw [e0, if_neg (by decide), if_neg (by decide), if_neg (by decide), if_pos (by decide)]
    have es : ∀ k, SP U k = U (50 + k) := fun k => by unfold SP; rw [e0, if_neg (by decide)]
    have sm : ∀ k, k < 26 → bt (S.1 0 5) k = true → lt_n (U (50 + k)) < 2147483648 := fun k hk hb => by
      obtain ⟨a, b, x3, -⟩ := b6
      obtain ⟨-, -, e3, e4⟩ := x3 k hk hb
      rw [es] at e3
      rw [e3, lt_iN (by omega)]
      omega
    have si := sm i hi bi
    have sj := sm j hj' bj
    rw [es, es] at u6
    rw [ek, ek]
    show (if U (232 + i) = 1 then (if U (232 + j) = 1 then decide (U (50 + i) < U (50 + j)) else true) else (if U (232 + j) = 1 then false else decide (U (76 + i) < U (76 + j)))) = _
    by_cases c1 : U (232 + i) = 1
    · rw [if_pos c1, if_pos c1]
      by_cases c2 : U (232 + j) = 1
      · rw [if_pos c2, if_pos c2]; exact u6
      · rw [if_neg c2, if_neg c2]; exact (decide_eq_true (by omega)).symm
    · rw [if_neg c1, if_neg c1]
      by_cases c2 : U (232 + j) = 1
      · rw [if_pos c2, if_pos c2]; exact (decide_eq_false (by omega)).symm
      · rw [if_neg c2, if_neg c2, u5]
        exact decide_eq_decide.mpr (by omega)
  · have ek : ∀ k, kap U A B k = lt_n (U (284 + k)) := fun k => by
      unfold kap
      rw [e0, if_neg (by decide), if_neg (by decide), if_neg (by decide), if_neg (by decide), if_pos (by decide)]
    rw [ek, ek]
    obtain ⟨l, l1, l2, l3⟩ := h9.2 i hi bi
    obtain ⟨m, m1, m2, m3⟩ := h9.2 j hj' bj
    show (decide (U (284 + i) < U (284 + j)) || (decide (U (284 + i) = U (284 + j)) && decide (i < j))) = _
    rw [l2, m2, lt_iN (by omega), lt_iN (by omega), decide_eq_false (p := i < j) (by omega), Bool.and_false, Bool.or_false]
    exact decide_eq_decide.mpr (lt_iL (by omega) (by omega))
  · have ek : ∀ k, kap U A B k = lt_n (U (76 + k)) := fun k => by
      unfold kap
      rw [e0, if_neg (by decide), if_neg (by decide), if_neg (by decide), if_neg (by decide), if_neg (by decide)]
    rw [ek, ek]
    exact u5
theorem tally_n (hn : n ≤ 300) (f : Nat) (k : Nat) : 300 * lt_n (qA kf f n k) + lt_n (qB kf f n k + 1) = 300 * cntTo kf k f n + laN kf k f n := by
  have ck := cntTo_le (kf := kf) (k := k) (f := f) n
  have lk := laN_le (kf := kf) (k := k) (f := f) (t := n)
  unfold qA qB
  rw [lt_iN (by omega)]
  congr 1
  unfold laN
  cases e : lastTo kf k f n with
  | none => rfl
  | some i =>
    have hi := (lastTo_lt n e).1
    rw [oI_s, show nI i + 1 = nI (i + 1) from lt_iA (j := i) (k := 1), lt_iN (by omega)]
/-- the order of a cache -/
theorem order_eq (h : RX N L Q S U) (hN : N < 2147483648) (hL : L < 2147483648) (hF : FewA S kf f t) (ht : t ≤ 300) (A' : Nat → Int32) : (qOrd U kf f t A').1 = nK (bt (S.1 0 5)) 26 ∧ ∀ j, j < (qOrd U kf f t A').1 → ∃ k, k < 26 ∧ kFirst S (kLeft S (S.1 0 5) j) = some k ∧ (qOrd U kf f t A').2 j = nI k := by
  have hfw := FewA_FW hF ht
  have num : ∀ i j, i < 26 → j < 26 → ((decide (qA kf f t i < qA kf f t j) || (decide (qA kf f t i = qA kf f t j) && decide (qB kf f t i < qB kf f t j))) = decide (300 * lt_n (qA kf f t i) + lt_n (qB kf f t i + 1) < 300 * lt_n (qA kf f t j) + lt_n (qB kf f t j + 1))) := fun i j hi hj => by
    rw [← hfw i j hi hj, hF i hi, hF j hj, tally_n ht, tally_n ht]
    have li := fwN_le (kf := kf) (k := i) (f := f) ht
    have lj := fwN_le (kf := kf) (k := j) (f := f) ht
    refine decide_eq_decide.mpr ?_
    rw [L64_lt (by omega) (by omega)]
    have v : ∀ k, (lastTo kf k f t = none ∧ fwN kf k f t = 0 ∧ 300 * cntTo kf k f t + laN kf k f t = 0) ∨ (1 ≤ cntTo kf k f t ∧ fwN kf k f t + 1 = 300 * cntTo kf k f t + laN kf k f t) := fun k => by
      cases e : lastTo kf k f t with
      | none =>
        refine Or.inl ⟨rfl, fwN_n t e, ?_⟩
        rw [cnt_0 t e]
        unfold laN
        rw [e]
        rfl
      | some i =>
        refine Or.inr ⟨cnt_1 t e, ?_⟩
        rw [fwN_s t i ht e]
        unfold laN
        rw [e]
        rfl
    rcases v i with ⟨-, v1, v2⟩ | ⟨v0, v1⟩ <;> rcases v j with ⟨-, w1, w2⟩ | ⟨w0, w1⟩ <;> omega
  have hcls : ∀ i j, i < 26 → j < 26 → (S.2 12 i < S.2 12 j ↔ 300 * lt_n (qA kf f t i) + lt_n (qB kf f t i + 1) < 300 * lt_n (qA kf f t j) + lt_n (qB kf f t j + 1)) := fun i j hi hj => by
    have := hfw i j hi hj
    rw [num i j hi hj] at this
    exact decide_eq_decide.mp this
  have hsr := qLay_SR (lt := qAhead U (qA kf f t) (qB kf f t) (if U 0 = 6 then 0 else U 0)) (κ := kap U (qA kf f t) (qB kf f t)) h.2.1 (fun i j hi hj bi bj => ahead_K h hN hL num hi hj bi bj) 26 0 A' (Nat.le_refl _) rfl ⟨fun _ => 0, fun j hj => by omega, fun i j _ hj => by omega, fun x hx => ⟨fun e => (by simp at e), fun ⟨j, hj, _⟩ => by omega⟩⟩
  refine ⟨hsr.1, fun j hj => ?_⟩
  obtain ⟨-, a, a1, a2, a3, a4, a5⟩ := kLeft_SR (S := S) h.2.1.1 (fun these hs hh => first_K h hN hL hcls hs hh) hsr.2 (j + 1) hj
  exact ⟨a j, (a1 j hj).1, a5 j (by omega), (a1 j hj).2⟩
end Ru'
