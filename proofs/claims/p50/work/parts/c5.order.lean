/-! CACHES: the order of what is held; the bench's caches behind requests -/
section Cf
variable {S S' S2 : CS} {i j k m n x y o X wr F q s h p mm : Nat} {z z' c ro : Nat → Nat} {f g : Nat → Bool} {u v t now : Int32} {kz kc kw : Nat → Int32} {W kf fs : Nat → Nat} {these present write : Int32} {r : Nat → Int64} {kept ahead : Option Nat} {a b : Nat → Nat} {G : Nat → Int32} {T T2 : BT}
theorem kFirst_in (hs : KS these) (h0 : these ≠ 0) : ∃ j, kFirst S these = some j ∧ j < 26 ∧ bt these j = true := by
  have l : ∀ {r : Nat → Int64}, ∃ j, lO these r = some j ∧ j < 26 ∧ bt these j = true := fun {r} => by
    cases e : lO these r with
    | none => exact absurd ((lO_none hs).mp e) h0
    | some j => exact ⟨j, rfl, lO_lt j e⟩
  unfold kFirst
  split
  · exact l
  split
  · exact l
  split
  · exact l
  split
  · split
    · exact l
    · rename_i hq
      cases e : lO (these &&& (S.1 0 8 ^^^ -1)) (S.2 4) with
      | none => exact absurd ((lO_none (KS_and hs)).mp e) hq
      | some j =>
        have := lO_lt j e
        rw [b_and] at this
        exact ⟨j, rfl, this.1, (Bool.and_eq_true_iff.mp this.2).1⟩
  split
  · exact l
  · exact l
/-- what is left behind the first p by order -/
theorem ordL_n {w : Int32} : ∀ (p : Nat) (w : Int32), KS w → p ≤ nK (bt w) 26 → KS (ordL S p w) ∧ nK (bt (ordL S p w)) 26 + p = nK (bt w) 26 ∧ ∀ k, k < 26 → bt (ordL S p w) k = true → bt w k = true
  | 0, w, hs, _ => ⟨hs, Nat.add_zero _, fun _ _ h => h⟩
  | p + 1, w, hs, hp => by
    have h0 : w ≠ 0 := fun e => by
      rw [e, show bt 0 = fun _ => false from funext fun k => b_0 k, show nK (fun _ => false) 26 = 0 by decide] at hp
      omega
    obtain ⟨j, e, hj, hb⟩ := kFirst_in (S := S) hs h0
    have hn := nK_tk hs hj
    rw [if_pos hb] at hn
    have ee : w &&& (obb (kFirst S w) ^^^ -1) = w &&& (bb j ^^^ -1) := by rw [e]; rfl
    unfold ordL
    rw [ee]
    obtain ⟨i1, i2, i3⟩ := ordL_n (w := w) p (w &&& (bb j ^^^ -1)) (KS_and hs) (by omega)
    refine ⟨i1, by omega, fun k hk h => ?_⟩
    have := i3 k hk h
    rw [bt_dl' hs hj hk] at this
    exact (Bool.and_eq_true_iff.mp this).1
theorem ordL_s {w : Int32} : ∀ (p : Nat) (w : Int32), ordL S (p + 1) w = ordL S p w &&& (obb (kFirst S (ordL S p w)) ^^^ -1)
  | 0, _ => rfl
  | p + 1, w => ordL_s (w := w) p (w &&& (obb (kFirst S w) ^^^ -1))
/-- the set of the first p by order -/
def ordS (S : CS) : Nat → Int32
  | 0 => 0
  | p + 1 => ordS S p ||| (1 <<< (oI (kNth S p) &&& 31))
theorem ordS_n (hs : KS (S.1 0 5)) : ∀ p, p ≤ nK (bt (S.1 0 5)) 26 → KS (ordS S p) ∧ nK (bt (ordS S p)) 26 = p ∧ ∀ k, k < 26 → bt (ordS S p) k = true → bt (ordL S p (S.1 0 5)) k = false
  | 0, _ => ⟨KS_0, by show nK (bt 0) 26 = 0; rw [show bt 0 = fun _ => false from funext fun k => b_0 k]; decide, fun k _ h => by rw [show ordS S 0 = 0 from rfl, b_0] at h; cases h⟩
  | p + 1, hp => by
    obtain ⟨i1, i2, i3⟩ := ordS_n hs p (by omega)
    obtain ⟨g1, g2, g3⟩ := ordL_n (S := S) (w := 0) p (S.1 0 5) hs (by omega)
    have h0 : ordL S p (S.1 0 5) ≠ 0 := fun e => by
      rw [e, show bt 0 = fun _ => false from funext fun k => b_0 k, show nK (fun _ => false) 26 = 0 by decide] at g2
      omega
    obtain ⟨j, e, hj, hb⟩ := kFirst_in (S := S) g1 h0
    have en : kNth S p = some j := e
    have eb : (1 : Int32) <<< (oI (kNth S p) &&& 31) = bb j := by rw [en]; rfl
    have hf : bt (ordS S p) j = false := by
      cases w : bt (ordS S p) j with
      | false => rfl
      | true => rw [i3 j hj w] at hb; cases hb
    unfold ordS
    rw [eb]
    refine ⟨KS_or i1 (KS_bb hj), by rw [bt_ad i1 hj, nK_ad hf 26 hj, i2], fun k hk h => ?_⟩
    rw [ordL_s (w := 0), e, show obb (some j) = bb j from rfl, bt_dl' g1 hj hk]
    rw [b_or, bt_bb (by omega) (by omega)] at h
    by_cases q : k = j
    · rw [decide_eq_true q, Bool.not_true, Bool.and_false]
    · rw [decide_eq_false q, Bool.or_false] at h
      rw [i3 k hk h, Bool.false_and]
theorem kNth_lt (hs : KS (S.1 0 5)) (hp : p < nK (bt (S.1 0 5)) 26) : ∃ j, kNth S p = some j ∧ j < 26 ∧ bt (S.1 0 5) j = true := by
  obtain ⟨g1, g2, g3⟩ := ordL_n (S := S) (w := 0) p (S.1 0 5) hs (by omega)
  have h0 : ordL S p (S.1 0 5) ≠ 0 := fun e => by
    rw [e, show bt 0 = fun _ => false from funext fun k => b_0 k, show nK (fun _ => false) 26 = 0 by decide] at g2
    omega
  obtain ⟨j, e, hj, hb⟩ := kFirst_in (S := S) g1 h0
  exact ⟨j, e, hj, g3 j hj hb⟩
/-- outcomes counted are the hits -/
theorem hSum_h (hI : INV z c S n wr k) (hn : n ≤ 300) : ∀ (m p : Nat), m ≤ n → p = hCt (S.1 10) (n - m) → hSum S n m (nI p) = nI (hCt (S.1 10) n)
  | 0, p, _, hp => by rw [hp]; rfl
  | m + 1, p, hm, hp => by
    obtain ⟨-, -, -, -, o, X, p', m', h', -, -, -, -, -, -, hk, mk, -, -, -, -, f66, f67, -⟩ := id hI
    have e : kOutc S (n - (m + 1)) = S.1 10 (n - (m + 1)) := by
      unfold kOutc
      rw [f66, f67, if_neg (lt_neg (by omega)), if_pos (by rw [nI_ltP (by omega) (by omega)]; omega)]
    rw [hSum_s, e]
    have hs : hCt (S.1 10) (n - m) = hCt (S.1 10) (n - (m + 1)) + (if S.1 10 (n - (m + 1)) = 0 then 1 else 0) := by
      rw [show n - m = n - (m + 1) + 1 by omega]; rfl
    by_cases w : S.1 10 (n - (m + 1)) = 0
    · rw [if_pos w, show nI p + 1 = nI (p + 1) from lt_iA (j := p) (k := 1)]
      rw [if_pos w] at hs
      exact hSum_h hI hn m (p + 1) (by omega) (by omega)
    · rw [if_neg w]
      rw [if_neg w] at hs
      exact hSum_h hI hn m p (by omega) (by omega)
/-- all caches -/
def ALL (P : Nat → CS → Prop) (T : BT) : Prop := ∀ i, i < 6 → P i (T.2 i)
theorem kAhead_lt (h : RKc T.1 kf (n + 1)) {f : Nat} : (if u &&& 2 = 0 then kf n else (kAhead kf f n).getD (kf n)) < 26 := by
  have hn := (h n (by omega)).1
  split
  · exact hn
  · unfold kAhead
    cases e : lastTo kf (kf n) f n with
    | none => exact hn
    | some j =>
      have : j < n := by
        have lt : ∀ t, lastTo kf (kf n) f t = some j → j < t := fun t => by
          induction t with
          | zero => intro e; cases e
          | succ t ih =>
            intro e
            unfold lastTo at e
            split at e
            · cases e; exact Nat.lt_succ_self _
            · exact Nat.lt_succ_of_lt (ih e)
        exact lt n e
      exact (h (j + 1) (by omega)).1
end Cf
