/-! THE BEST that knows the future: no way to put out has fewer misses (sets as functions of keys; n of the first 26 keys) -/
def sAd (S : Nat → Bool) (x : Nat) : Nat → Bool := fun k => S k || decide (k = x)
def sDl (S : Nat → Bool) (c : Nat) : Nat → Bool := fun k => S k && !decide (k = c)
def sSw (S : Nat → Bool) (c x : Nat) : Nat → Bool := fun k => (S k && !decide (k = c)) || decide (k = x)
/-- a way through the next m requests from i on, with c misses -/
def bP (sz : Nat) (kf : Nat → Nat) : Nat → Nat → (Nat → Bool) → Nat → Prop
  | 0, _, _, c => c = 0
  | m + 1, i, S, c => (S (kf i) = true ∧ bP sz kf m (i + 1) S c) ∨ (S (kf i) = false ∧ ∃ c', c = c' + 1 ∧ ((nK S 26 < sz ∧ bP sz kf m (i + 1) (sAd S (kf i)) c') ∨ (¬ nK S 26 < sz ∧ ∃ o, o < 26 ∧ S o = true ∧ bP sz kf m (i + 1) (sSw S o (kf i)) c')))
/-- among the next m requests b is asked ahead of a, or none of them is -/
def bE (kf : Nat → Nat) : Nat → Nat → Nat → Nat → Prop
  | 0, _, _, _ => True
  | m + 1, i, b, a => kf i = b ∨ (kf i ≠ a ∧ bE kf m (i + 1) b a)
/-- the way that puts out the key asked again latest -/
def bB (sz : Nat) (kf : Nat → Nat) : Nat → Nat → (Nat → Bool) → Nat → Prop
  | 0, _, _, c => c = 0
  | m + 1, i, S, c => (S (kf i) = true ∧ bB sz kf m (i + 1) S c) ∨ (S (kf i) = false ∧ ∃ c', c = c' + 1 ∧ ((nK S 26 < sz ∧ bB sz kf m (i + 1) (sAd S (kf i)) c') ∨ (¬ nK S 26 < sz ∧ ∃ o, o < 26 ∧ S o = true ∧ (∀ o', o' < 26 → S o' = true → o' ≠ o → bE kf m (i + 1) o' o) ∧ bB sz kf m (i + 1) (sSw S o (kf i)) c')))
section Ba
variable {S T : Nat → Bool} {kf : Nat → Nat} {sz m i a b c x o : Nat}
theorem nK_adO : ∀ n, n ≤ x → nK (sAd S x) n = nK S n
  | 0, _ => rfl
  | n + 1, h => by
    show nK (sAd S x) n + (sAd S x n).toNat = nK S n + (S n).toNat
    rw [nK_adO n (by omega)]
    congr 2
    show (S n || decide (n = x)) = S n
    rw [decide_eq_false (by omega), Bool.or_false]
theorem nK_ad (h : S x = false) : ∀ n, x < n → nK (sAd S x) n = nK S n + 1
  | 0, hx => absurd hx (Nat.not_lt_zero x)
  | n + 1, hx => by
    show nK (sAd S x) n + (sAd S x n).toNat = nK S n + (S n).toNat + 1
    by_cases e : x = n
    · subst e
      rw [nK_adO x (Nat.le_refl _), h]
      show nK S x + (S x || decide (x = x)).toNat = _
      rw [h, decide_eq_true rfl]
      rfl
    · rw [nK_ad h n (by omega)]
      have : sAd S x n = S n := by
        show (S n || decide (n = x)) = S n
        rw [decide_eq_false (fun q => e q.symm), Bool.or_false]
      rw [this]
      omega
theorem nK_dlO : ∀ n, n ≤ c → nK (sDl S c) n = nK S n
  | 0, _ => rfl
  | n + 1, h => by
    show nK (sDl S c) n + (sDl S c n).toNat = nK S n + (S n).toNat
    rw [nK_dlO n (by omega)]
    congr 2
    show (S n && !decide (n = c)) = S n
    rw [decide_eq_false (by omega), Bool.not_false, Bool.and_true]
theorem nK_dl (h : S c = true) : ∀ n, c < n → nK (sDl S c) n + 1 = nK S n
  | 0, hx => absurd hx (Nat.not_lt_zero c)
  | n + 1, hx => by
    show nK (sDl S c) n + (sDl S c n).toNat + 1 = nK S n + (S n).toNat
    by_cases e : c = n
    · subst e
      rw [nK_dlO c (Nat.le_refl _), h]
      show nK S c + (S c && !decide (c = c)).toNat + 1 = _
      rw [h, decide_eq_true rfl]
      rfl
    · have q := nK_dl h n (by omega)
      have : sDl S c n = S n := by
        show (S n && !decide (n = c)) = S n
        rw [decide_eq_false (fun q => e q.symm), Bool.not_false, Bool.and_true]
      rw [this]
      omega
theorem sSw_e : sSw S c x = sAd (sDl S c) x := rfl
theorem nK_sw (hc : S c = true) (hx : S x = false) (h1 : c < 26) (h2 : x < 26) : nK (sSw S c x) 26 = nK S 26 := by
  rw [sSw_e, nK_ad (S := sDl S c) (by show (S x && _) = false; rw [hx]; rfl) 26 h2]
  exact nK_dl hc 26 h1
/-- facts of sets, key by key -/
theorem sw_eq {A B : Nat → Bool} (h : ∀ k, A k = B k) : A = B := funext h
theorem sw_back (ha : S a = true) (hb : S b = false) : sSw (sSw S a b) b a = S := funext fun k => by
  show (((S k && !decide (k = a)) || decide (k = b)) && !decide (k = b) || decide (k = a)) = S k
  by_cases e1 : k = a
  · subst e1
    have : k ≠ b := fun q => by rw [q, hb] at ha; cases ha
    simp [ha]
  · by_cases e2 : k = b
    · subst e2; simp [hb, e1]
    · simp [e1, e2]
theorem sw_tr (hac : a ≠ c) (hc : S c = true) (hab : a ≠ b) (hb : S b = false) : sSw (sSw S c b) a c = sSw S a b := funext fun k => by
  have hcb : c ≠ b := fun q => by rw [q, hb] at hc; cases hc
  show (((S k && !decide (k = c)) || decide (k = b)) && !decide (k = a) || decide (k = c)) = ((S k && !decide (k = a)) || decide (k = b))
  by_cases e1 : k = a
  · subst e1
    simp [hac, hab]
  · by_cases e2 : k = c
    · subst e2; simp [hc, e1]
    · simp [e1, e2]
theorem sw_ev (hb : S b = false) (hxb : x ≠ b) (ha : S a = true) : sSw (sSw S a b) b x = sSw S a x := funext fun k => by
  show (((S k && !decide (k = a)) || decide (k = b)) && !decide (k = b) || decide (k = x)) = ((S k && !decide (k = a)) || decide (k = x))
  by_cases e2 : k = b
  · subst e2
    simp [hb]
  · simp [e2]
theorem sw_com (hca : c ≠ a) (hcb : c ≠ b) (hxa : x ≠ a) : sSw (sSw S a b) c x = sSw (sSw S c x) a b := funext fun k => by
  show (((S k && !decide (k = a)) || decide (k = b)) && !decide (k = c) || decide (k = x)) = (((S k && !decide (k = c)) || decide (k = x)) && !decide (k = a) || decide (k = b))
  by_cases e1 : k = x
  · subst e1
    simp [hxa]
  · by_cases e2 : k = b
    · subst e2
      simp [Ne.symm hcb]
    · simp only [e1, e2, decide_false, Bool.or_false]
      cases S k <;> simp [Bool.and_comm]
theorem sw_1 {k : Nat} (h : k ≠ c) (h2 : S k = true) : sSw S c x k = true := by
  show ((S k && !decide (k = c)) || decide (k = x)) = true
  simp [h, h2]
theorem sw_0 {k : Nat} (h : k ≠ x) (h2 : S k = false) : sSw S c x k = false := by
  show ((S k && !decide (k = c)) || decide (k = x)) = false
  simp [h, h2]
theorem sw_c (h : c ≠ x) : sSw S c x c = false := by
  show ((S c && !decide (c = c)) || decide (c = x)) = false
  simp [h]
theorem sw_x : sSw S c x x = true := by
  show ((S x && !decide (x = c)) || decide (x = x)) = true
  simp
end Ba
section Bb
variable {kf : Nat → Nat} {sz : Nat}
/-- of full sets that differ by one key the one has at most one miss more -/
theorem bP_sw : ∀ (m i : Nat) (S : Nat → Bool) (a b c : Nat), a < 26 → b < 26 → S a = true → S b = false → ¬ nK S 26 < sz → (∀ j, j < i + m → kf j < 26) → bP sz kf m i S c → ∃ c', c' ≤ c + 1 ∧ bP sz kf m i (sSw S a b) c'
  | 0, i, S, a, b, c, _, _, _, _, _, _, h => ⟨0, by omega, rfl⟩
  | m + 1, i, S, a, b, c, ha, hb, h1, h0, hf, hk, h => by
    have hx := hk i (by omega)
    have hk' : ∀ j, j < i + 1 + m → kf j < 26 := fun j hj => hk j (by omega)
    have hab : a ≠ b := fun q => by rw [q, h0] at h1; cases h1
    have hT : ¬ nK (sSw S a b) 26 < sz := by rw [nK_sw h1 h0 ha hb]; exact hf
    rcases h with ⟨q1, q2⟩ | ⟨q1, c0, rfl, ⟨q3, -⟩ | ⟨-, o, ho, q4, q5⟩⟩
    · by_cases e : kf i = a
      · refine ⟨c + 1, Nat.le_refl _, Or.inr ⟨by rw [e]; exact sw_c hab, c, rfl, Or.inr ⟨hT, b, hb, sw_x, ?_⟩⟩⟩
        rw [e, sw_back h1 h0]
        exact q2
      · obtain ⟨c', g1, g2⟩ := bP_sw m (i + 1) S a b c ha hb h1 h0 hf hk' q2
        exact ⟨c', g1, Or.inl ⟨sw_1 e q1, g2⟩⟩
    · exact absurd q3 hf
    · by_cases e : kf i = b
      · by_cases e2 : o = a
        · refine ⟨c0, by omega, Or.inl ⟨by rw [e]; exact sw_x, ?_⟩⟩
          rw [e2, e] at q5
          exact q5
        · have hob : o ≠ b := fun q => by rw [q, h0] at q4; cases q4
          rw [e] at q5
          obtain ⟨c', g1, g2⟩ := bP_sw m (i + 1) (sSw S o b) a o c0 ha ho (sw_1 (fun q => e2 q.symm) h1) (sw_c hob) (by rw [nK_sw q4 h0 ho hb]; exact hf) hk' q5
          rw [sw_tr (fun q => e2 q.symm) q4 hab h0] at g2
          exact ⟨c', by omega, Or.inl ⟨by rw [e]; exact sw_x, g2⟩⟩
      · have hxa : kf i ≠ a := fun q => by rw [q, h1] at q1; cases q1
        by_cases e2 : o = a
        · refine ⟨c0 + 1, by omega, Or.inr ⟨sw_0 e q1, c0, rfl, Or.inr ⟨hT, b, hb, sw_x, ?_⟩⟩⟩
          rw [sw_ev h0 e h1]
          rw [e2] at q5
          exact q5
        · have hob : o ≠ b := fun q => by rw [q, h0] at q4; cases q4
          obtain ⟨c', g1, g2⟩ := bP_sw m (i + 1) (sSw S o (kf i)) a b c0 ha hb (sw_1 (fun q => e2 q.symm) h1) (sw_0 (fun q => e q.symm) h0) (by rw [nK_sw q4 q1 ho hx]; exact hf) hk' q5
          refine ⟨c' + 1, by omega, Or.inr ⟨sw_0 e q1, c', rfl, Or.inr ⟨hT, o, ho, sw_1 e2 q4, ?_⟩⟩⟩
          rw [sw_com e2 hob hxa]
          exact g2
/-- to hold the key that is asked sooner is no worse -/
theorem bP_le : ∀ (m i : Nat) (S : Nat → Bool) (a b c : Nat), a < 26 → b < 26 → S a = true → S b = false → ¬ nK S 26 < sz → (∀ j, j < i + m → kf j < 26) → bE kf m i b a → bP sz kf m i S c → ∃ c', c' ≤ c ∧ bP sz kf m i (sSw S a b) c'
  | 0, i, S, a, b, c, _, _, _, _, _, _, _, h => ⟨0, by omega, rfl⟩
  | m + 1, i, S, a, b, c, ha, hb, h1, h0, hf, hk, he, h => by
    have hx := hk i (by omega)
    have hk' : ∀ j, j < i + 1 + m → kf j < 26 := fun j hj => hk j (by omega)
    have hab : a ≠ b := fun q => by rw [q, h0] at h1; cases h1
    have hT : ¬ nK (sSw S a b) 26 < sz := by rw [nK_sw h1 h0 ha hb]; exact hf
    rcases h with ⟨q1, q2⟩ | ⟨q1, c0, rfl, ⟨q3, -⟩ | ⟨-, o, ho, q4, q5⟩⟩
    · have hxb : kf i ≠ b := fun q => by rw [q, h0] at q1; cases q1
      rcases he with he | ⟨he1, he2⟩
      · exact absurd he hxb
      · obtain ⟨c', g1, g2⟩ := bP_le m (i + 1) S a b c ha hb h1 h0 hf hk' he2 q2
        exact ⟨c', g1, Or.inl ⟨sw_1 he1 q1, g2⟩⟩
    · exact absurd q3 hf
    · by_cases e : kf i = b
      · by_cases e2 : o = a
        · refine ⟨c0, by omega, Or.inl ⟨by rw [e]; exact sw_x, ?_⟩⟩
          rw [e2, e] at q5
          exact q5
        · have hob : o ≠ b := fun q => by rw [q, h0] at q4; cases q4
          rw [e] at q5
          obtain ⟨c', g1, g2⟩ := bP_sw m (i + 1) (sSw S o b) a o c0 ha ho (sw_1 (fun q => e2 q.symm) h1) (sw_c hob) (by rw [nK_sw q4 h0 ho hb]; exact hf) hk' q5
          rw [sw_tr (fun q => e2 q.symm) q4 hab h0] at g2
          exact ⟨c', by omega, Or.inl ⟨by rw [e]; exact sw_x, g2⟩⟩
      · have hxa : kf i ≠ a := fun q => by rw [q, h1] at q1; cases q1
        have he2 : bE kf m (i + 1) b a := he.elim (fun q => absurd q e) (fun q => q.2)
        by_cases e2 : o = a
        · refine ⟨c0 + 1, by omega, Or.inr ⟨sw_0 e q1, c0, rfl, Or.inr ⟨hT, b, hb, sw_x, ?_⟩⟩⟩
          rw [sw_ev h0 e h1]
          rw [e2] at q5
          exact q5
        · have hob : o ≠ b := fun q => by rw [q, h0] at q4; cases q4
          obtain ⟨c', g1, g2⟩ := bP_le m (i + 1) (sSw S o (kf i)) a b c0 ha hb (sw_1 (fun q => e2 q.symm) h1) (sw_0 (fun q => e q.symm) h0) (by rw [nK_sw q4 q1 ho hx]; exact hf) hk' he2 q5
          refine ⟨c' + 1, by omega, Or.inr ⟨sw_0 e q1, c', rfl, Or.inr ⟨hT, o, ho, sw_1 e2 q4, ?_⟩⟩⟩
          rw [sw_com e2 hob hxa]
          exact g2
/-- THE BEST IS THE BEST -/
theorem bB_best : ∀ (m i : Nat) (S : Nat → Bool) (b c : Nat), (∀ j, j < i + m → kf j < 26) → bB sz kf m i S b → bP sz kf m i S c → b ≤ c
  | 0, i, S, b, c, _, h, g => by
    have h : b = 0 := h
    omega
  | m + 1, i, S, b, c, hk, h, g => by
    have hx := hk i (by omega)
    have hk' : ∀ j, j < i + 1 + m → kf j < 26 := fun j hj => hk j (by omega)
    rcases h with ⟨q1, q2⟩ | ⟨q1, b0, rfl, q⟩
    · rcases g with ⟨-, g2⟩ | ⟨g1, -⟩
      · exact bB_best m (i + 1) S b c hk' q2 g2
      · rw [q1] at g1; cases g1
    · rcases g with ⟨g1, -⟩ | ⟨-, c0, rfl, g⟩
      · rw [q1] at g1; cases g1
      · refine Nat.succ_le_succ ?_
        rcases q with ⟨q2, q3⟩ | ⟨q2, o, ho, q3, q4, q5⟩
        · rcases g with ⟨-, g3⟩ | ⟨g2, -⟩
          · exact bB_best m (i + 1) _ b0 c0 hk' q3 g3
          · exact absurd q2 g2
        · rcases g with ⟨g2, -⟩ | ⟨-, o', ho', g3, g4⟩
          · exact absurd g2 q2
          · by_cases e : o' = o
            · rw [e] at g4
              exact bB_best m (i + 1) _ b0 c0 hk' q5 g4
            · have hox : o' ≠ kf i := fun q => by rw [← q, g3] at q1; cases q1
              obtain ⟨c', r1, r2⟩ := bP_le m (i + 1) (sSw S o' (kf i)) o o' c0 ho ho' (sw_1 (fun q => e q.symm) q3) (sw_c hox) (by rw [nK_sw g3 q1 ho' hx]; exact q2) hk' (q4 o' ho' g3 e) g4
              have e9 : sSw (sSw S o' (kf i)) o o' = sSw S o (kf i) := sw_tr (fun q => e q.symm) g3 (fun q => by rw [q, q1] at q3; cases q3) q1
              rw [e9] at r2
              exact Nat.le_trans (bB_best m (i + 1) _ b0 c' hk' q5 r2) r1
end Bb
