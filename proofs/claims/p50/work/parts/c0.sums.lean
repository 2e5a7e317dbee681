/-! CACHES: sets and sums; what a key taken out leaves -/
def uS (z : Nat → Nat) (f : Nat → Bool) : Nat → Nat
  | 0 => 0
  | n + 1 => uS z f n + (if f n = true then z n else 0)
/-- the sizes of keys -/
def SZ (kz : Nat → Int32) (z : Nat → Nat) : Prop := ∀ k, k < 26 → kz k = nI (z k) ∧ 1 ≤ z k ∧ z k ≤ 8
/-- nothing that is counted changes -/
def NE (S S' : CS) : Prop := S'.1 0 5 = S.1 0 5 ∧ S'.1 0 6 = S.1 0 6 ∧ S'.1 0 9 = S.1 0 9 ∧ S'.1 7 = S.1 7 ∧ ∀ j, j < 4 → S'.1 0 j = S.1 0 j
/-- a key is taken out; e more are put out -/
def TK (e : Int32) (S S' : CS) (k : Nat) : Prop := S'.1 0 5 = S.1 0 5 &&& (bb k ^^^ -1) ∧ S'.1 0 6 = S.1 0 6 &&& (bb k ^^^ -1) ∧ S'.1 0 9 = S.1 0 9 &&& (bb k ^^^ -1) ∧ S'.1 7 4 = (if bt (S.1 0 6) k = true then S.1 7 4 + 1 else S.1 7 4) ∧ S'.1 7 2 = S.1 7 2 + e ∧ (∀ j, j ≠ 2 → j ≠ 4 → S'.1 7 j = S.1 7 j) ∧ ∀ j, j < 4 → S'.1 0 j = S.1 0 j
section Ca
variable {S S' S2 : CS} {i j k m n x y o : Nat} {z z' : Nat → Nat} {f g : Nat → Bool} {u v s : Int32} {kz kc kw : Nat → Int32} {W : Nat → Nat} {these : Int32} {r : Nat → Int64}
theorem nK_e : nK f (n + 1) = nK f n + (if f n = true then 1 else 0) := by
  show nK f n + (f n).toNat = _
  cases f n <;> rfl
theorem uS_cg (h : ∀ k, k < n → f k = g k) : uS z f n = uS z g n := by
  induction n with
  | zero => rfl
  | succ n ih =>
    show uS z f n + _ = uS z g n + _
    rw [ih (fun k hk => h k (by omega)), h n (by omega)]
theorem uS_0 (h : ∀ k, k < n → f k = false) : uS z f n = 0 := by
  induction n with
  | zero => rfl
  | succ n ih =>
    show uS z f n + _ = 0
    rw [ih (fun k hk => h k (by omega)), h n (by omega)]
    rfl
theorem if_s : (if x < n + 1 then z x else 0) = (if x < n then z x else 0) + (if n = x then z x else 0) := by
  by_cases q : n = x
  · rw [if_pos (by omega), if_neg (by omega), if_pos q, Nat.zero_add]
  · rw [if_neg q]
    by_cases q2 : x < n
    · rw [if_pos q2, if_pos (Nat.lt_succ_of_lt q2)]; rfl
    · rw [if_neg q2, if_neg (fun e => q2 (by omega))]
theorem uS_ad (h : f x = false) : ∀ n, uS z (sAd f x) n = uS z f n + (if x < n then z x else 0)
  | 0 => rfl
  | n + 1 => by
    show uS z (sAd f x) n + (if sAd f x n = true then z n else 0) = uS z f n + (if f n = true then z n else 0) + (if x < n + 1 then z x else 0)
    rw [uS_ad h n, if_s]
    have a : (if sAd f x n = true then z n else 0) = (if f n = true then z n else 0) + (if n = x then z x else 0) := by
      unfold sAd
      by_cases q : n = x
      · rw [q, h, decide_eq_true rfl, if_pos (by rfl), if_neg (by decide), if_pos rfl, Nat.zero_add]
      · rw [decide_eq_false q, Bool.or_false, if_neg (c := n = x) q, Nat.add_zero]
    omega
theorem uS_dl (h : f x = true) : ∀ n, uS z (sDl f x) n + (if x < n then z x else 0) = uS z f n
  | 0 => rfl
  | n + 1 => by
    show uS z (sDl f x) n + (if sDl f x n = true then z n else 0) + (if x < n + 1 then z x else 0) = uS z f n + (if f n = true then z n else 0)
    rw [← uS_dl h n, if_s]
    have a : (if sDl f x n = true then z n else 0) + (if n = x then z x else 0) = (if f n = true then z n else 0) := by
      unfold sDl
      by_cases q : n = x
      · rw [q, h, decide_eq_true rfl, if_neg (by decide), if_pos rfl, if_pos rfl, Nat.zero_add]
      · rw [decide_eq_false q, Bool.not_false, Bool.and_true, if_neg (c := n = x) q, Nat.add_zero]
    omega
theorem uS_le (h : ∀ k, k < 26 → z k ≤ 8) : ∀ n, n ≤ 26 → uS z f n ≤ 8 * n
  | 0, _ => Nat.le_refl _
  | n + 1, hn => by
    have := uS_le h n (by omega)
    have := h n (by omega)
    show uS z f n + _ ≤ _
    split <;> omega
theorem nK_uS (h : ∀ k, k < 26 → 1 ≤ z k) : ∀ n, n ≤ 26 → nK f n ≤ uS z f n
  | 0, _ => Nat.le_refl _
  | n + 1, hn => by
    have := nK_uS h n (by omega)
    have := h n (by omega)
    rw [nK_e]
    show _ ≤ uS z f n + _
    split <;> omega
theorem pSum_u (h : SZ kz z) : ∀ n, n ≤ 26 → pSum s kz n (nI (uS z (bt s) (26 - n))) = nI (uS z (bt s) 26)
  | 0, _ => rfl
  | n + 1, hn => by
    unfold pSum
    have e : 26 - n = 26 - (n + 1) + 1 := by omega
    have e2 : 25 - n = 26 - (n + 1) := by omega
    have ih := pSum_u h n (by omega)
    rw [e] at ih
    have key : (if bt s (25 - n) = true then nI (uS z (bt s) (26 - (n + 1))) + kz (25 - n) else nI (uS z (bt s) (26 - (n + 1)))) = nI (uS z (bt s) (26 - (n + 1) + 1)) := by
      show _ = nI (uS z (bt s) (26 - (n + 1)) + (if bt s (26 - (n + 1)) = true then z (26 - (n + 1)) else 0))
      rw [e2, (h (26 - (n + 1)) (by omega)).1]
      by_cases q : bt s (26 - (n + 1)) = true
      · rw [if_pos q, if_pos q, lt_iA]
      · rw [if_neg q, if_neg q]; rfl
    rw [key]
    exact ih
theorem pSum_U (h : SZ kz z) : pSum s kz 26 0 = nI (uS z (bt s) 26) := pSum_u h 26 (Nat.le_refl _)
theorem bt_dl (hs : KS s) (hk : k < 26) : bt (s &&& (bb k ^^^ -1)) = sDl (bt s) k := bt_fun (KS_and hs) (fun j hj => by
    show (bt s j && !decide (j = k)) = false
    rw [hs j hj]; rfl) (fun j hj => by
  rw [bt_not (by omega), bt_bb (by omega) (by omega)]
  rfl)
theorem sDl_n (h : f x = false) : sDl f x = f := funext fun k => by
  unfold sDl
  by_cases q : k = x
  · rw [q, h]; rfl
  · rw [decide_eq_false q, Bool.not_false, Bool.and_true]
theorem KS_eq0 (hs : KS s) (h : ∀ k, k < 26 → bt s k = false) : s = 0 := b_ext fun i hi => by
  rw [b_0]
  by_cases q : i < 26
  · exact h i q
  · exact hs i (by omega)
theorem KS_ne0 (hs : KS s) (h : s ≠ 0) : ∃ k, k < 26 ∧ bt s k = true := Classical.byContradiction fun q => h (KS_eq0 hs fun k hk => by
  cases e : bt s k with
  | false => rfl
  | true => exact absurd ⟨k, hk, e⟩ q)
theorem NE.rf : NE S S := ⟨rfl, rfl, rfl, rfl, fun _ _ => rfl⟩
theorem NE.tr (h : NE S S') (g : NE S' S2) : NE S S2 := ⟨g.1.trans h.1, g.2.1.trans h.2.1, g.2.2.1.trans h.2.2.1, g.2.2.2.1.trans h.2.2.2.1, fun j hj => (g.2.2.2.2 j hj).trans (h.2.2.2.2 j hj)⟩
theorem TK_NE {e : Int32} (h : NE S S') (g : TK e S' S2 k) : TK e S S2 k := by
  obtain ⟨h1, h2, h3, h4, h5⟩ := h
  obtain ⟨g1, g2, g3, g4, g5, g6, g7⟩ := g
  rw [h1] at g1
  rw [h2] at g2 g4
  rw [h3] at g3
  rw [h4] at g4 g5
  exact ⟨g1, g2, g3, g4, g5, fun j q1 q2 => by rw [g6 j q1 q2, h4], fun j hj => (g7 j hj).trans (h5 j hj)⟩
theorem kTake_TK : TK 0 S (kTake S k) k := by
  unfold kTake kTake0
  refine ⟨?_, ?_, ?_, ?_, ?_, fun j h1 h2 => ?_, fun j hj => ?_⟩
  · by_cases q : bt (S.1 0 6) k = true <;> simp [rd_wi, q]
  · by_cases q : bt (S.1 0 6) k = true <;> simp [rd_wi, q]
  · by_cases q : bt (S.1 0 6) k = true <;> simp [rd_wi, q]
  · by_cases q : bt (S.1 0 6) k = true <;> simp [rd_wi, q]
  · by_cases q : bt (S.1 0 6) k = true <;> simp [rd_wi, q]
  · by_cases q : bt (S.1 0 6) k = true <;> simp [rd_wi, q, h1, h2]
  · have : j = 0 ∨ j = 1 ∨ j = 2 ∨ j = 3 := by omega
    rcases this with rfl | rfl | rfl | rfl <;> by_cases q : bt (S.1 0 6) k = true <;> simp [rd_wi, q]
theorem kLevel_NE : NE S (kLevel S k) := by
  unfold kLevel
  split
  · exact ⟨rfl, rfl, rfl, rfl, fun _ _ => rfl⟩
  · exact NE.rf
theorem NE_w (h : 4 ≤ j) (h5 : j ≠ 5) (h6 : j ≠ 6) (h9 : j ≠ 9) : NE S (cwi S 0 j v) := ⟨by simp [rd_wi]; omega, by simp [rd_wi]; omega, by simp [rd_wi]; omega, rfl, fun i hi => by simp [rd_wi]; omega⟩
theorem NE_w7 (h : i ≠ 0) (h7 : i ≠ 7) : NE S (cwi S i j v) := ⟨if_neg (by omega), if_neg (by omega), if_neg (by omega), funext fun q => if_neg (by omega), fun q _ => if_neg (by omega)⟩
theorem NE_l {y : Int64} : NE S (cwl S i j y) := ⟨rfl, rfl, rfl, rfl, fun _ _ => rfl⟩
theorem kRem_NE : NE S (kRem S k) := by
  have h0 : NE S (kRem0 S k) := ((NE_w (j := 10) (by decide) (by decide) (by decide) (by decide)).tr (NE_w (j := 12) (by decide) (by decide) (by decide) (by decide))).tr NE_l
  unfold kRem
  split
  · exact h0.tr (NE_w (by decide) (by decide) (by decide) (by decide))
  · exact h0
theorem kOld_NE : NE S (kOld S k) := by
  unfold kOld
  split
  · split
    · exact NE.rf
    · exact kRem_NE
  · exact NE.rf
theorem kOut1_TK : TK 1 S (kOut1 S k) k := by
  refine TK_NE (S' := kOld (kLevel S k) k) (kLevel_NE.tr kOld_NE) ?_
  obtain ⟨g1, g2, g3, g4, g5, g6, g7⟩ := kTake_TK (S := kOld (kLevel S k) k) (k := k)
  refine ⟨g1, g2, g3, ?_, ?_, fun j h1 h2 => ?_, g7⟩
  · unfold kOut1
    rw [cwi_n (by decide)]; exact g4
  · unfold kOut1
    rw [cwi_e, g5, Int32.add_zero]
  · unfold kOut1
    rw [cwi_n h1]; exact g6 j h1 h2
theorem kTurn1_NE : NE S (kTurn1 S these k) := ((NE_w (j := 7) (by decide) (by decide) (by decide) (by decide)).tr (NE_w (j := 12) (by decide) (by decide) (by decide) (by decide))).tr NE_l
theorem kTurn_NE : ∀ (n : Nat) {S : CS}, NE S (kTurn these n S)
  | 0, _ => NE.rf
  | n + 1, S => by
    unfold kTurn
    split
    · exact NE.rf
    · split
      · exact kTurn1_NE.tr (kTurn_NE n)
      · exact NE.rf
theorem kUse_NE : NE S (kUse kz kc S k) := ((NE_w (j := 12) (by decide) (by decide) (by decide) (by decide)).tr NE_l).tr NE_l
/-- the one that goes is one of these -/
theorem kChO_in : ∀ j, kChO kz S these = some j → j < 26 ∧ bt these j = true := by
  intro j e
  refine ⟨kChO_lt j e, ?_⟩
  have sub : ∀ {w : Int32} {r : Nat → Int64}, lO (these &&& w) r = some j → bt these j = true := fun {w r} q => by
    have := (lO_lt j q).2
    rw [b_and] at this
    exact (Bool.and_eq_true_iff.mp this).1
  unfold kChO at e
  repeat (first | exact (lO_lt j e).2 | exact sub e | split at e)
theorem kChO_some (hs : KS these) (h0 : these ≠ 0) : kChO kz S these ≠ none := by
  have l : ∀ {r : Nat → Int64}, lO these r ≠ none := fun {r} q => h0 ((lO_none hs).mp q)
  have l2 : ∀ {w : Int32} {r : Nat → Int64}, ¬ (these &&& w = 0) → lO (these &&& w) r ≠ none := fun {w r} h q => h ((lO_none (KS_and hs)).mp q)
  have l3 : ∀ {w : Int32}, these &&& (w ^^^ -1) = 0 → ¬ these &&& w = 0 := fun {w} h q => h0 (KS_eq0 hs fun k hk => by
    have a1 : bt (these &&& (w ^^^ -1)) k = false := by rw [h]; exact b_0 k
    have a2 : bt (these &&& w) k = false := by rw [q]; exact b_0 k
    rw [bt_not (by omega)] at a1
    rw [b_and] at a2
    cases h1 : bt these k with
    | false => rfl
    | true =>
      rw [h1] at a1 a2
      cases h2 : bt w k <;> rw [h2] at a1 a2 <;> cases a1 <;> cases a2)
  unfold kChO
  split
  · exact l
  split
  · exact l
  split
  · split
    · exact l
    · exact l2 ‹_›
  split
  · split
    · exact l2 (l3 ‹_›)
    · split
      · exact l2 ‹_›
      · exact l2 (fun q => ‹¬ (_ ∨ _)› (Or.inr q))
  split
  · exact l
  split
  · split <;> exact l
  · exact l
theorem pGo_in : ∀ (n : Nat) (t : Int32) {b : Int32}, n ≤ 26 → (∀ k, k < 26 → bt t k = true → bt these k = true) → KS t → KS these → (∀ k, k < 26 → bt (pGo W these b n t) k = true → bt these k = true) ∧ KS (pGo W these b n t) ∧ (these ≠ 0 → pGo W these b n t ≠ 0)
  | 0, t, b, _, h1, h2, h3 => by
    unfold pGo
    by_cases q : t = 0
    · rw [if_pos q]; exact ⟨fun k _ h => h, h3, fun h => h⟩
    · rw [if_neg q]; exact ⟨h1, h2, fun _ => q⟩
  | n + 1, t, b, hn, h1, h2, h3 => by
    unfold pGo
    by_cases q0 : b = 0
    · rw [if_pos q0]
      by_cases q : t = 0
      · rw [if_pos q]; exact ⟨fun k _ h => h, h3, fun h => h⟩
      · rw [if_neg q]; exact ⟨h1, h2, fun _ => q⟩
    · rw [if_neg q0]
      split
      · refine pGo_in n _ (by omega) (fun k hk h => ?_) (KS_or h2 (KS_and h3)) h3
        rw [b_or] at h
        rcases Bool.or_eq_true_iff.mp h with h | h
        · exact h1 k hk h
        · rw [b_and] at h; exact (Bool.and_eq_true_iff.mp h).1
      · exact pGo_in n _ (by omega) h1 h2 h3
theorem kGo_in (hs : KS these) : (∀ k, k < 26 → bt (kGo kz kw W S these y) k = true → bt these k = true) ∧ KS (kGo kz kw W S these y) ∧ (these ≠ 0 → kGo kz kw W S these y ≠ 0) := pGo_in 26 0 (Nat.le_refl _) (fun k _ h => by rw [b_0] at h; cases h) KS_0 hs
/-- one put out: nothing, or a key of these -/
theorem kOut_TK (hs : KS these) : (these ≠ 0 → ∃ k, k < 26 ∧ bt these k = true ∧ TK 1 S (kOut kz these S) k) ∧ (NE S (kOut kz these S) ∨ ∃ k, k < 26 ∧ bt these k = true ∧ TK 1 S (kOut kz these S) k) := by
  have main : ∀ {P : CS}, NE S P → (these ≠ 0 → ∃ k, k < 26 ∧ bt these k = true ∧ TK 1 S (kOut13 kz these P) k) ∧ (NE S (kOut13 kz these P) ∨ ∃ k, k < 26 ∧ bt these k = true ∧ TK 1 S (kOut13 kz these P) k) := fun {P} hP => by
    unfold kOut13
    cases e : kChO kz P these with
    | none => exact ⟨fun h0 => absurd e (kChO_some hs h0), Or.inl hP⟩
    | some k =>
      have h := kChO_in k e
      exact ⟨fun _ => ⟨k, h.1, h.2, TK_NE hP kOut1_TK⟩, Or.inr ⟨k, h.1, h.2, TK_NE hP kOut1_TK⟩⟩
  unfold kOut
  split
  · exact main (kTurn_NE 52)
  · exact main NE.rf
end Ca
