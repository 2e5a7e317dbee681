/-! THE RELATION, rows that shame: the class's search, layer by layer -/
/-- a row that was gone on to is there, or a better one -/
def XQd (p : XP) (R : Nat → List Nat) (n i k : Nat) : Prop := ∃ j, j < n ∧ (xR p (R j)).1 = (xR p (k :: R i)).1 ∧ (xR p (k :: R i)).2 ≤ (xR p (R j)).2 ∧ num (R j) ≤ num (k :: R i)
/-- what going on with the keys from one on finds -/
def XKy (p : XP) (w : List Nat) (k : Nat) : Option Nat → Prop
  | some k' => k ≤ k' ∧ k' < p.2.2.2 ∧ k' ≤ fA (xR p w).1 ∧ 16 < (xR p (k' :: w)).2 ∧ ∀ j, k ≤ j → j < k' → ¬ 16 < (xR p (j :: w)).2
  | none => ∀ j, k ≤ j → j < p.2.2.2 → j ≤ fA (xR p w).1 → ¬ 16 < (xR p (j :: w)).2
def XNd (p : XP) (R : Nat → List Nat) (nd e : Nat) : Option (Nat × Nat) → Prop
  | some r => nd ≤ r.1 ∧ r.1 < e ∧ r.2 < p.2.2.2 ∧ r.2 ≤ fA (xR p (R r.1)).1 ∧ 16 < (xR p (r.2 :: R r.1)).2 ∧ (∀ j, j < r.2 → ¬ 16 < (xR p (j :: R r.1)).2) ∧ ∀ i j, nd ≤ i → i < r.1 → j < p.2.2.2 → j ≤ fA (xR p (R i)).1 → ¬ 16 < (xR p (j :: R i)).2
  | none => ∀ i j, nd ≤ i → i < e → j < p.2.2.2 → j ≤ fA (xR p (R i)).1 → ¬ 16 < (xR p (j :: R i)).2
section Ryi
variable {a b c d e i j k m n t key LM nd len L most layer : Nat} {p : XP} {s s' : HS} {R R' : Nat → List Nat} {u v w x y l : List Nat} {st : Int64} {lead from_ kk : Int32} {G : Prop} {F : Nat → Int32}
theorem XB_le (h : XB p R n s) (hle : e ≤ n) : XB p R e s := ⟨Nat.le_trans hle h.1, h.2.1, fun j hj => h.2.2 j (Nat.lt_of_lt_of_le hj hle)⟩
theorem X_weak (h : XB p R e s) : XB p R e (hOffer s st lead from_ kk) := by
  have add : ∀ i, XB p R e (hAdd s i st lead from_ kk) := fun i => by
    obtain ⟨h1, h2, h3⟩ := h
    refine ⟨Nat.le_succ_of_le h1, h2, fun j hj => ?_⟩
    have z : j ≠ s.1 := by omega
    obtain ⟨e1, e2, e3, e4, e5⟩ := h3 j hj
    refine ⟨(u1_o z).trans e1, (u1_o z).trans e2, fun h0 => ?_, e4, e5⟩
    obtain ⟨i0, k0, g1, g2, g3, g4⟩ := e3 h0
    exact ⟨i0, k0, g1, (u1_o z).trans g2, (u1_o z).trans g3, g4⟩
  unfold hOffer hPut
  split
  · exact h
  · split
    · exact add _
    · exact h
theorem XB_R (h : XB p R e s) (he : 0 < e) (hR : ∀ j, j < e → R' j = R j) : XB p R' e s := by
  obtain ⟨h1, h2, h3⟩ := h
  refine ⟨h1, by rw [hR 0 he]; exact h2, fun j hj => ?_⟩
  rw [hR j hj]
  obtain ⟨e1, e2, e3, e4, e5⟩ := h3 j hj
  refine ⟨e1, e2, fun h0 => ?_, e4, e5⟩
  obtain ⟨i0, k0, g1, g2, g3, g4⟩ := e3 h0
  exact ⟨i0, k0, g1, g2, g3, by rw [hR i0 (by omega)]; exact g4⟩
theorem XQd_up (h : XQd p R n i k) (hi : R' i = R i) (hn : n ≤ m) (hR : ∀ j, j < n → R' j = R j) : XQd p R' m i k := by
  obtain ⟨j, h1, h2, h3, h4⟩ := h
  exact ⟨j, by omega, by rw [hR j h1, hi]; exact h2, by rw [hR j h1, hi]; exact h3, by rw [hR j h1, hi]; exact h4⟩
theorem X_keys (hp : XPO p) (hc : G → CAP p LM) (hLM : LM ≤ 12) (hnd : nd < e) : ∀ (m k : Nat) (s : HS) (R : Nat → List Nat), k + m = p.2.2.2 → XB p R e s → (G → XZ p LM R s ∧ (R nd).length + 1 ≤ LM ∧ ∀ j, j < s.1 → num (R j) < num (k :: R nd)) →
    ∃ R', (∀ j, j < e → R' j = R j) ∧ XB p R' e (hGoK (HPp p) nd (nI (fL (xR p (R nd)).1)) (nI (fG (xR p (R nd)).1)) (nI (fA (xR p (R nd)).1)) m k s).1 ∧ XKy p (R nd) k (hGoK (HPp p) nd (nI (fL (xR p (R nd)).1)) (nI (fG (xR p (R nd)).1)) (nI (fA (xR p (R nd)).1)) m k s).2 ∧
      ((hGoK (HPp p) nd (nI (fL (xR p (R nd)).1)) (nI (fG (xR p (R nd)).1)) (nI (fA (xR p (R nd)).1)) m k s).2 = none → G → XZ p LM R' (hGoK (HPp p) nd (nI (fL (xR p (R nd)).1)) (nI (fG (xR p (R nd)).1)) (nI (fA (xR p (R nd)).1)) m k s).1 ∧ s.1 ≤ (hGoK (HPp p) nd (nI (fL (xR p (R nd)).1)) (nI (fG (xR p (R nd)).1)) (nI (fA (xR p (R nd)).1)) m k s).1.1 ∧ (∀ j, j < s.1 → R' j = R j) ∧
        (∀ j, s.1 ≤ j → j < (hGoK (HPp p) nd (nI (fL (xR p (R nd)).1)) (nI (fG (xR p (R nd)).1)) (nI (fA (xR p (R nd)).1)) m k s).1.1 → (R' j).length = (R nd).length + 1 ∧ num (R' j) < 8 * num (R nd) + 8) ∧ ∀ j, k ≤ j → j < p.2.2.2 → j ≤ fA (xR p (R nd)).1 → XQd p R' (hGoK (HPp p) nd (nI (fL (xR p (R nd)).1)) (nI (fG (xR p (R nd)).1)) (nI (fA (xR p (R nd)).1)) m k s).1.1 nd j)
  | 0, k, s, R, hk, hB, hG => ⟨R, fun _ _ => rfl, hB, (fun j h1 h2 => by omega), fun _ g => ⟨(hG g).1, Nat.le_refl _, fun _ _ => rfl, (fun j h1 h2 => absurd h2 (Nat.not_lt_of_le h1)), (fun j h1 h2 => by omega)⟩⟩
  | m + 1, k, s, R, hk, hB, hG => by
    have hwo := (hB.2.2 nd hnd).2.2.2.1
    have hwl := (hB.2.2 nd hnd).2.2.2.2
    have hCV := xR_CV hp _ (xOk_can _ hwo)
    obtain ⟨c1, c2, c3, c4, c5⟩ := CV_lt hp hCV
    have hk5 : k < 5 := by have := hp.2.2.2.2; omega
    have ld := xR_lead (p := p) (w := R nd) (by omega)
    have elead : s.2.2.1 nd + hGain (nI (fL (xR p (R nd)).1)) (nI (fG (xR p (R nd)).1)) k = nI (xR p (k :: R nd)).2 - 16 := by
      rw [(hB.2.2 nd hnd).2.1, ex_gain (by omega) c3 (by omega), ld_g (by omega) (by omega)]
      rfl
    have ld2 := xR_lead (p := p) (w := k :: R nd) (by show (R nd).length + 1 ≤ 13; omega)
    have es : hGoK (HPp p) nd (nI (fL (xR p (R nd)).1)) (nI (fG (xR p (R nd)).1)) (nI (fA (xR p (R nd)).1)) (m + 1) k s = if nI (fA (xR p (R nd)).1) < nI k then (s, none) else if 0 < nI (xR p (k :: R nd)).2 - 16 then (s, some k) else hGoK (HPp p) nd (nI (fL (xR p (R nd)).1)) (nI (fG (xR p (R nd)).1)) (nI (fA (xR p (R nd)).1)) m (k + 1) (hOffer s (iL (xR p (k :: R nd)).1) (nI (xR p (k :: R nd)).2 - 16) (nI nd) (nI k)) := by
      show (if nI (fA (xR p (R nd)).1) < nI k then (s, none) else if 0 < s.2.2.1 nd + hGain (nI (fL (xR p (R nd)).1)) (nI (fG (xR p (R nd)).1)) k then (s, some k) else hGoK (HPp p) nd (nI (fL (xR p (R nd)).1)) (nI (fG (xR p (R nd)).1)) (nI (fA (xR p (R nd)).1)) m (k + 1) (hOffer s (hThere (HPp p) (nI (fL (xR p (R nd)).1)) (nI (fG (xR p (R nd)).1)) (nI (fA (xR p (R nd)).1)) k) (s.2.2.1 nd + hGain (nI (fL (xR p (R nd)).1)) (nI (fG (xR p (R nd)).1)) k) (nI nd) (nI k))) = _
      rw [elead, ex_there hp hCV hk5]
      rfl
    rw [es]
    by_cases q1 : fA (xR p (R nd)).1 < k
    · rw [if_pos ((nI_ltP (by omega) (by omega)).mpr q1)]
      exact ⟨R, fun _ _ => rfl, hB, (fun j h1 h2 h3 => by omega), fun _ g => ⟨(hG g).1, Nat.le_refl _, fun _ _ => rfl, (fun j h1 h2 => absurd h2 (Nat.not_lt_of_le h1)), (fun j h1 h2 h3 => by omega)⟩⟩
    · rw [if_neg (fun z => q1 ((nI_ltP (by omega) (by omega)).mp z))]
      by_cases q2 : 16 < (xR p (k :: R nd)).2
      · rw [if_pos ((ld_0 (by omega)).mpr q2)]
        exact ⟨R, fun _ _ => rfl, hB, ⟨Nat.le_refl _, by omega, by omega, q2, fun j h1 h2 => by omega⟩, fun z => by cases z⟩
      · rw [if_neg (fun z => q2 ((ld_0 (by omega)).mp z))]
        have hwk : xOk p (k :: R nd) := ⟨hwo, by omega, by omega, Nat.le_of_not_lt q2⟩
        -- the rows so far, and the one offered
        have off : ∃ R1, (∀ j, j < e → R1 j = R j) ∧ XB p R1 e (hOffer s (iL (xR p (k :: R nd)).1) (nI (xR p (k :: R nd)).2 - 16) (nI nd) (nI k)) ∧ (G → XZ p LM R1 (hOffer s (iL (xR p (k :: R nd)).1) (nI (xR p (k :: R nd)).2 - 16) (nI nd) (nI k)) ∧ s.1 ≤ (hOffer s (iL (xR p (k :: R nd)).1) (nI (xR p (k :: R nd)).2 - 16) (nI nd) (nI k)).1 ∧ (∀ j, j < s.1 → R1 j = R j) ∧ (∀ j, s.1 ≤ j → j < (hOffer s (iL (xR p (k :: R nd)).1) (nI (xR p (k :: R nd)).2 - 16) (nI nd) (nI k)).1 → R1 j = k :: R nd) ∧ XQd p R1 (hOffer s (iL (xR p (k :: R nd)).1) (nI (xR p (k :: R nd)).2 - 16) (nI nd) (nI k)).1 nd k) := by
          by_cases g : G
          · obtain ⟨hZ, hl1, hbig⟩ := hG g
            obtain ⟨R1, r1, r2, r3, r4, j0, r5, r6, r7, r8⟩ := X_offer hp hZ (hc g) hwk (by have := hB.1; omega) hl1 hLM hbig
            refine ⟨R1, fun j hj => r1 j (by have := hB.1; omega), XB_le r3.1 (by have := hB.1; omega), fun _ => ⟨r3, r2, r1, r4, ⟨j0, r5, ?_⟩⟩⟩
            rw [r1 nd (by have := hB.1; omega)]
            exact ⟨r6, r7, r8⟩
          · exact ⟨R, fun _ _ => rfl, X_weak hB, fun z => absurd z g⟩
        obtain ⟨R1, r1, r2, r3⟩ := off
        have end_ : R1 nd = R nd := r1 nd hnd
        have ih := X_keys hp hc hLM hnd m (k + 1) (hOffer s (iL (xR p (k :: R nd)).1) (nI (xR p (k :: R nd)).2 - 16) (nI nd) (nI k)) R1 (by omega) r2 (fun g => by
          obtain ⟨a1, a2, a3, a4, a5⟩ := r3 g
          obtain ⟨hZ, hl1, hbig⟩ := hG g
          refine ⟨a1, by rw [end_]; exact hl1, fun j hj => ?_⟩
          rw [end_]
          by_cases z : j < s.1
          · rw [a3 j z]
            have := hbig j z
            show _ < 8 * num (R nd) + (k + 1)
            have e : num (k :: R nd) = 8 * num (R nd) + k := rfl
            omega
          · rw [a4 j (by omega) hj]
            show 8 * num (R nd) + k < 8 * num (R nd) + (k + 1)
            omega)
        rw [end_] at ih
        obtain ⟨R', b1, b2, b3, b4⟩ := ih
        refine ⟨R', fun j hj => (b1 j hj).trans (r1 j hj), b2, ?_, ?_⟩
        · generalize (hGoK (HPp p) nd (nI (fL (xR p (R nd)).1)) (nI (fG (xR p (R nd)).1)) (nI (fA (xR p (R nd)).1)) m (k + 1) (hOffer s (iL (xR p (k :: R nd)).1) (nI (xR p (k :: R nd)).2 - 16) (nI nd) (nI k))).2 = o at b3
          cases o with
          | some k' =>
            obtain ⟨d1, d2, d3, d4, d5⟩ := b3
            refine ⟨by omega, d2, d3, d4, fun j h1 h2 => ?_⟩
            by_cases z : j = k
            · rw [z]; exact q2
            · exact d5 j (by omega) h2
          | none =>
            intro j h1 h2 h3
            by_cases z : j = k
            · rw [z]; exact q2
            · exact b3 j (by omega) h2 h3
        · intro hn g
          obtain ⟨a1, a2, a3, a4, a5⟩ := r3 g
          obtain ⟨d1, d2, d3, d4, d5⟩ := b4 hn g
          refine ⟨d1, by omega, fun j hj => (d3 j (by omega)).trans (a3 j hj), fun j h1 h2 => ?_, fun j h1 h2 h3 => ?_⟩
          · by_cases z : j < (hOffer s (iL (xR p (k :: R nd)).1) (nI (xR p (k :: R nd)).2 - 16) (nI nd) (nI k)).1
            · rw [d3 j z, a4 j h1 z]
              exact ⟨rfl, by show 8 * num (R nd) + k < _; omega⟩
            · exact d4 j (by omega) h2
          · by_cases z : j = k
            · rw [z]
              exact XQd_up a5 (d3 nd (by have := hB.1; omega)) d2 d3
            · have := d5 j (by omega) h2 h3
              exact this
/-- going on from a node -/
theorem X_go (hp : XPO p) (hB : XB p R e s) (hnd : nd < e) : hGo (HPp p) nd s = hGoK (HPp p) nd (nI (fL (xR p (R nd)).1)) (nI (fG (xR p (R nd)).1)) (nI (fA (xR p (R nd)).1)) p.2.2.2 0 s := by
  obtain ⟨e1, -, -, e4, -⟩ := hB.2.2 nd hnd
  have hlt := xR_lt hp e4
  unfold hGo
  rw [e1, ex_l, ex_g hlt, ex_a hlt]
  rfl
theorem X_nodes (hp : XPO p) (hc : G → CAP p LM) (hLM : LM ≤ 12) : ∀ (m nd : Nat) (s : HS) (R : Nat → List Nat), nd + m = e → XB p R e s → (∀ j, nd ≤ j → j < e → (R j).length = L) → (∀ i j, i < j → j < e → num (R i) < num (R j)) → (G → XZ p LM R s ∧ L + 1 ≤ LM ∧ (0 < m → ∀ j, j < s.1 → num (R j) < 8 * num (R nd))) →
    ∃ R', (∀ j, j < e → R' j = R j) ∧ XB p R' e (hNodes (HPp p) m nd s).1 ∧ XNd p R nd e (hNodes (HPp p) m nd s).2 ∧
      ((hNodes (HPp p) m nd s).2 = none → G → XZ p LM R' (hNodes (HPp p) m nd s).1 ∧ s.1 ≤ (hNodes (HPp p) m nd s).1.1 ∧ (∀ j, j < s.1 → R' j = R j) ∧ (∀ j, s.1 ≤ j → j < (hNodes (HPp p) m nd s).1.1 → (R' j).length = L + 1) ∧ ∀ i j, nd ≤ i → i < e → j < p.2.2.2 → j ≤ fA (xR p (R i)).1 → XQd p R' (hNodes (HPp p) m nd s).1.1 i j)
  | 0, nd, s, R, hm, hB, hl, hI, hG => ⟨R, fun _ _ => rfl, hB, (fun i j h1 h2 => by omega), fun _ g => ⟨(hG g).1, Nat.le_refl _, fun _ _ => rfl, (fun j h1 h2 => absurd h2 (Nat.not_lt_of_le h1)), (fun i j h1 h2 => by omega)⟩⟩
  | m + 1, nd, s, R, hm, hB, hl, hI, hG => by
    have hnd : nd < e := by omega
    have hln := hl nd (Nat.le_refl _) hnd
    have es : hNodes (HPp p) (m + 1) nd s = match (hGo (HPp p) nd s).2 with
        | some k => ((hGo (HPp p) nd s).1, some (nd, k))
        | none => hNodes (HPp p) m (nd + 1) (hGo (HPp p) nd s).1 := rfl
    rw [es, X_go hp hB hnd]
    obtain ⟨R1, b1, b2, b3, b4⟩ := X_keys hp hc hLM hnd p.2.2.2 0 s R (by omega) hB (fun g => by
      obtain ⟨hZ, h1, h2⟩ := hG g
      exact ⟨hZ, by rw [hln]; exact h1, fun j hj => h2 (by omega) j hj⟩)
    generalize hr : hGoK (HPp p) nd (nI (fL (xR p (R nd)).1)) (nI (fG (xR p (R nd)).1)) (nI (fA (xR p (R nd)).1)) p.2.2.2 0 s = r at *
    obtain ⟨s1, o⟩ := r
    cases o with
    | some k =>
      refine ⟨R1, b1, b2, ⟨Nat.le_refl _, hnd, b3.2.1, b3.2.2.1, b3.2.2.2.1, fun j hj => b3.2.2.2.2 j (Nat.zero_le _) hj, (fun i j h1 h2 => by omega)⟩, fun z => by cases z⟩
    | none =>
      have hR1 : ∀ j, j < e → R1 j = R j := b1
      obtain ⟨R', c1, c2, c3, c4⟩ := X_nodes hp hc hLM m (nd + 1) s1 R1 (by omega) b2 (fun j h1 h2 => by rw [b1 j h2]; exact hl j (by omega) h2) (fun i j h1 h2 => by rw [b1 i (by omega), b1 j h2]; exact hI i j h1 h2) (fun g => by
        obtain ⟨d1, d2, d3, d4, d5⟩ := b4 rfl g
        obtain ⟨hZ, h1, h2⟩ := hG g
        refine ⟨d1, h1, fun hm0 j hj => ?_⟩
        rw [b1 (nd + 1) (by omega)]
        have hn2 := hI nd (nd + 1) (by omega) (by omega)
        by_cases z : j < s.1
        · rw [d3 j z]
          have := h2 (by omega) j z
          omega
        · have := (d4 j (by omega) hj).2
          omega)
      show ∃ R', (∀ j, j < e → R' j = R j) ∧ XB p R' e (hNodes (HPp p) m (nd + 1) s1).1 ∧ XNd p R nd e (hNodes (HPp p) m (nd + 1) s1).2 ∧ ((hNodes (HPp p) m (nd + 1) s1).2 = none → G → XZ p LM R' (hNodes (HPp p) m (nd + 1) s1).1 ∧ s.1 ≤ (hNodes (HPp p) m (nd + 1) s1).1.1 ∧ (∀ j, j < s.1 → R' j = R j) ∧ (∀ j, s.1 ≤ j → j < (hNodes (HPp p) m (nd + 1) s1).1.1 → (R' j).length = L + 1) ∧ ∀ i j, nd ≤ i → i < e → j < p.2.2.2 → j ≤ fA (xR p (R i)).1 → XQd p R' (hNodes (HPp p) m (nd + 1) s1).1.1 i j)
      refine ⟨R', fun j hj => (c1 j hj).trans (b1 j hj), c2, ?_, fun hn g => ?_⟩
      · generalize (hNodes (HPp p) m (nd + 1) s1).2 = o2 at c3
        cases o2 with
        | some r2 =>
          obtain ⟨d1, d2, d3, d4, d5, d6, d7⟩ := c3
          rw [b1 _ d2] at d4 d5 d6
          refine ⟨by omega, d2, d3, d4, d5, d6, fun i j h1 h2 h3 h4 => ?_⟩
          by_cases z : i = nd
          · rw [z] at h4 ⊢; exact b3 j (Nat.zero_le _) h3 h4
          · have := d7 i j (by omega) h2 h3
            rw [b1 i (by omega)] at this
            exact this h4
        | none =>
          intro i j h1 h2 h3 h4
          by_cases z : i = nd
          · rw [z] at h4 ⊢; exact b3 j (Nat.zero_le _) h3 h4
          · have := c3 i j (by omega) h2 h3
            rw [b1 i (by omega)] at this
            exact this h4
      · obtain ⟨d1, d2, d3, d4, d5⟩ := b4 rfl g
        obtain ⟨e1, e2, e3, e4, e5⟩ := c4 hn g
        have he := hB.1
        have d2' : s.1 ≤ s1.1 := d2
        refine ⟨e1, by omega, fun j hj => (e3 j (by omega)).trans (d3 j hj), fun j h1 h2 => ?_, fun i j h1 h2 h3 h4 => ?_⟩
        · by_cases z : j < s1.1
          · rw [e3 j z, (d4 j h1 z).1, hln]
          · exact e4 j (by omega) h2
        · by_cases z : i = nd
          · rw [z] at h4 ⊢
            exact XQd_up (d5 j (Nat.zero_le _) h3 h4) (e3 nd (by omega)) e2 e3
          · exact e5 i j (by omega) h2 h3 (by rw [b1 i h2]; exact h4)
end Ryi
