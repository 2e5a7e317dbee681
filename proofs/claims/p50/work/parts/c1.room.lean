/-! CACHES: what holds of the counts of a cache, and room made -/
def IA (S : CS) : Prop := KS (S.1 0 5) ∧ KS (S.1 0 6) ∧ KS (S.1 0 9) ∧ (∀ k, k < 26 → bt (S.1 0 6) k = true → bt (S.1 0 5) k = true) ∧ ∀ k, k < 26 → bt (S.1 0 9) k = true → bt (S.1 0 5) k = true
/-- o put out, X came in by requests, q lapsed but not yet counted, wr writes, at most F fetched -/
def IC (S : CS) (o X wr F q : Nat) : Prop := ∃ l w f u, S.1 7 2 = nI o ∧ S.1 7 3 = nI l ∧ S.1 7 4 = nI w ∧ S.1 7 6 = nI f ∧ S.1 7 7 = nI u ∧ o + l + q + nK (bt (S.1 0 5)) 26 = X + f ∧ f ≤ F ∧ u + nK (bt (S.1 0 9)) 26 ≤ f ∧ w + nK (bt (S.1 0 6)) 26 ≤ wr ∧ (0 < wr → 0 < w + nK (bt (S.1 0 6)) 26) ∧ (S.1 0 3 &&& 1 = 0 → w = wr)
section Cb
variable {S S' S2 : CS} {i j k m n x y o X wr F q ro s : Nat} {z z' : Nat → Nat} {f g : Nat → Bool} {u v t : Int32} {kz kc kw : Nat → Int32} {W : Nat → Nat} {these : Int32} {r : Nat → Int64} {kept : Option Nat}
theorem IA_NE (h : IA S) (e : NE S S') : IA S' := by
  obtain ⟨e1, e2, e3, -, -⟩ := e
  unfold IA
  rw [e1, e2, e3]
  exact h
theorem IC_NE (h : IC S o X wr F q) (e : NE S S') : IC S' o X wr F q := by
  obtain ⟨e1, e2, e3, e4, e5⟩ := e
  unfold IC
  rw [e1, e2, e3, e4, e5 3 (by omega)]
  exact h
theorem bt_dl' {s : Int32} (hs : KS s) (hk : k < 26) (hj : j < 26) : bt (s &&& (bb k ^^^ -1)) j = (bt s j && !decide (j = k)) := by
  rw [bt_dl hs hk]; rfl
theorem IA_TK {e : Int32} (h : IA S) (hk : k < 26) (g : TK e S S' k) : IA S' := by
  obtain ⟨h1, h2, h3, h4, h5⟩ := h
  obtain ⟨g1, g2, g3, -⟩ := g
  unfold IA
  rw [g1, g2, g3]
  refine ⟨KS_and h1, KS_and h2, KS_and h3, fun j hj hb => ?_, fun j hj hb => ?_⟩
  · rw [bt_dl' h2 hk hj] at hb
    rw [bt_dl' h1 hk hj]
    obtain ⟨b1, b2⟩ := Bool.and_eq_true_iff.mp hb
    rw [h4 j hj b1, b2]; rfl
  · rw [bt_dl' h3 hk hj] at hb
    rw [bt_dl' h1 hk hj]
    obtain ⟨b1, b2⟩ := Bool.and_eq_true_iff.mp hb
    rw [h5 j hj b1, b2]; rfl
theorem nK_tk {s : Int32} (hs : KS s) (hk : k < 26) : nK (bt (s &&& (bb k ^^^ -1))) 26 + (if bt s k = true then 1 else 0) = nK (bt s) 26 := by
  rw [bt_dl hs hk]
  by_cases q : bt s k = true
  · rw [if_pos q, nK_dl q 26 hk]
  · rw [if_neg q, sDl_n (by simpa using q)]
    exact Nat.add_zero _
theorem IC_TK {e : Nat} (h : IC S o X wr F q) (hA : IA S) (hk : k < 26) (hb : bt (S.1 0 5) k = true) (he : e ≤ 1) (g : TK (nI e) S S' k) : IC S' (o + e) X wr F (q + 1 - e) := by
  obtain ⟨l, w, f, u, h1, h2, h3, h4, h5, h6, h7, h8, h9, h10, h11⟩ := h
  obtain ⟨a1, a2, a3, a4, a5⟩ := hA
  obtain ⟨g1, g2, g3, g4, g5, g6, g7⟩ := g
  have n1 := nK_tk a1 hk
  have n2 := nK_tk a2 hk
  have n3 := nK_tk a3 hk
  rw [if_pos hb] at n1
  refine ⟨l, (if bt (S.1 0 6) k = true then w + 1 else w), f, u, by rw [g5, h1, lt_iA], by rw [g6 3 (by omega) (by omega)]; exact h2, ?_, by rw [g6 6 (by omega) (by omega)]; exact h4, by rw [g6 7 (by omega) (by omega)]; exact h5, ?_, h7, ?_, ?_, fun hw => ?_, fun hm => ?_⟩
  · rw [g4, h3]
    split
    · exact lt_iA (j := w) (k := 1)
    · rfl
  · rw [g1]; omega
  · rw [g3]; omega
  · rw [g2]
    split
    · rw [if_pos ‹_›] at n2; omega
    · rw [if_neg ‹_›] at n2; omega
  · rw [g2]
    have := h10 hw
    split
    · omega
    · rw [if_neg ‹_›] at n2; omega
  · rw [g7 3 (by omega)] at hm
    have := h11 hm
    split
    · rw [if_pos ‹_›] at n2; omega
    · exact this
/-- among which the one goes -/
theorem these_bt {s : Int32} (hk : ∀ j, kept = some j → j < 26) (hj : j < 26) : bt (s &&& (obb kept ^^^ -1)) j = (bt s j && !decide (kept = some j)) := by
  rw [bt_not (by omega)]
  cases kept with
  | none =>
    rw [decide_eq_false (by intro h; cases h)]
    show (bt s j && !bt 0 j) = _
    rw [b_0]
  | some i =>
    have hi := hk i rfl
    show (bt s j && !bt (bb i) j) = _
    rw [bt_bb (by omega) (by omega)]
    by_cases q : j = i
    · rw [decide_eq_true q, decide_eq_true (by rw [q])]
    · rw [decide_eq_false q, decide_eq_false (by intro e; cases e; exact q rfl)]
/-- what room made leaves -/
def RMs (kept : Option Nat) (S S' : CS) : Prop := (∀ j, j < 4 → S'.1 0 j = S.1 0 j) ∧ (∀ j, j ≠ 2 → j ≠ 4 → S'.1 7 j = S.1 7 j) ∧ (∀ k, k < 26 → bt (S'.1 0 5) k = true → bt (S.1 0 5) k = true) ∧ ∀ s, kept = some s → bt (S'.1 0 5) s = bt (S.1 0 5) s
theorem RMs.tr (h : RMs kept S S') (g : RMs kept S' S2) : RMs kept S S2 := ⟨fun j hj => (g.1 j hj).trans (h.1 j hj), fun j h1 h2 => (g.2.1 j h1 h2).trans (h.2.1 j h1 h2), fun k hk q => h.2.2.1 k hk (g.2.2.1 k hk q), fun s e => (g.2.2.2 s e).trans (h.2.2.2 s e)⟩
theorem RMs_NE (e : NE S S') : RMs kept S S' := ⟨e.2.2.2.2, fun j _ _ => by rw [e.2.2.2.1], fun k _ q => by rw [e.1] at q; exact q, fun s _ => by rw [e.1]⟩
theorem RMs_TK {e : Int32} (hA : IA S) (hk : k < 26) (hkp : ∀ s, kept = some s → s < 26 ∧ s ≠ k) (g : TK e S S' k) : RMs kept S S' := by
  obtain ⟨g1, g2, g3, g4, g5, g6, g7⟩ := g
  refine ⟨g7, g6, fun j hj q => ?_, fun s e => ?_⟩
  · rw [g1, bt_dl' hA.1 hk hj] at q
    exact (Bool.and_eq_true_iff.mp q).1
  · obtain ⟨h1, h2⟩ := hkp s e
    rw [g1, bt_dl' hA.1 hk h1, decide_eq_false h2, Bool.not_false, Bool.and_true]
theorem kRoom_go (hkp : ∀ s, kept = some s → s < 26) : ∀ (n : Nat) (S : CS) (o : Nat), IA S → IC S o X wr F q → IA (kRoom kz kw W y kept n S) ∧ RMs kept S (kRoom kz kw W y kept n S) ∧ ∃ o', o ≤ o' ∧ IC (kRoom kz kw W y kept n S) o' X wr F q
  | 0, S, o, hA, hC => ⟨hA, RMs_NE NE.rf, o, Nat.le_refl _, hC⟩
  | n + 1, S, o, hA, hC => by
    unfold kRoom
    split
    · have hT : KS (S.1 0 5 &&& (obb kept ^^^ -1)) := KS_and hA.1
      obtain ⟨p1, p2, p3⟩ := kGo_in (kz := kz) (kw := kw) (W := W) (S := S) (y := y) hT
      rcases (kOut_TK (kz := kz) (S := S) p2).2 with e | ⟨k, hk, hb, g⟩
      · obtain ⟨i1, i2, o', i3, i4⟩ := kRoom_go hkp n _ o (IA_NE hA e) (IC_NE hC e)
        exact ⟨i1, (RMs_NE e).tr i2, o', i3, i4⟩
      · have hb2 := p1 k hk hb
        rw [these_bt hkp hk] at hb2
        obtain ⟨hb3, hb4⟩ := Bool.and_eq_true_iff.mp hb2
        have hne : ∀ s, kept = some s → s < 26 ∧ s ≠ k := fun s e => ⟨hkp s e, fun q => by rw [e, q, decide_eq_true rfl] at hb4; cases hb4⟩
        have c1 := IC_TK (e := 1) hC hA hk hb3 (Nat.le_refl _) g
        obtain ⟨i1, i2, o', i3, i4⟩ := kRoom_go hkp n _ (o + 1) (IA_TK hA hk g) c1
        exact ⟨i1, (RMs_TK hA hk hne g).tr i2, o', by omega, i4⟩
    · exact ⟨hA, RMs_NE NE.rf, o, Nat.le_refl _, hC⟩
theorem uS_one (h : ∀ k, k < 26 → f k = true → k = s) (hs : s < 26) : uS z f 26 ≤ if f s = true then z s else 0 := by
  by_cases q : f s = true
  · have e := uS_dl (z := z) q 26
    have e0 : uS z (sDl f s) 26 = 0 := uS_0 fun k hk => by
      unfold sDl
      by_cases w : f k = true
      · rw [h k hk w, decide_eq_true rfl, Bool.not_true, Bool.and_false]
      · rw [Bool.not_eq_true] at w; rw [w, Bool.false_and]
    rw [if_pos hs] at e
    rw [if_pos q]
    omega
  · rw [if_neg q, uS_0 (fun k hk => by
      cases w : f k with
      | false => rfl
      | true => rw [h k hk w] at w; exact absurd w q)]
    exact Nat.le_refl _
theorem nK_0' (h : nK f 26 = 0) : ∀ k, k < 26 → f k = false := fun k hk => by
  cases w : f k with
  | false => rfl
  | true =>
    have := nK_dl w 26 hk
    omega
/-- what must fit beside the one that stays -/
def kpZ (z : Nat → Nat) (S : CS) (kept : Option Nat) : Nat := match kept with
  | none => 0
  | some s => if bt (S.1 0 5) s = true then z s else 0
theorem these_0 (hA : IA S) (hkp : ∀ s, kept = some s → s < 26) (h : ∀ k, k < 26 → bt (S.1 0 5 &&& (obb kept ^^^ -1)) k = false) : uS z (bt (S.1 0 5)) 26 ≤ kpZ z S kept := by
  have h' : ∀ k, k < 26 → bt (S.1 0 5) k = true → kept = some k := fun k hk q => by
    have := h k hk
    rw [these_bt hkp hk, q, Bool.true_and] at this
    by_cases w : kept = some k
    · exact w
    · rw [decide_eq_false w] at this; cases this
  unfold kpZ
  cases e : kept with
  | none =>
    rw [uS_0 (fun k hk => by
      cases w : bt (S.1 0 5) k with
      | false => rfl
      | true => have := h' k hk w; rw [e] at this; cases this)]
    exact Nat.le_refl _
  | some s =>
    exact uS_one (fun k hk q => by have := h' k hk q; rw [e] at this; cases this; rfl) (hkp s e)
theorem kRoom_fit (hz : SZ kz z) (hy : y < 26) (hro : ro ≤ 20) (hkp : ∀ s, kept = some s → s < 26) : ∀ (n : Nat) (S : CS) (o : Nat), S.1 0 1 = nI ro → IA S → IC S o X wr F q → z y + kpZ z S kept ≤ ro → nK (bt (S.1 0 5 &&& (obb kept ^^^ -1))) 26 ≤ n → uS z (bt ((kRoom kz kw W y kept n S).1 0 5)) 26 + z y ≤ ro ∧ (ro < uS z (bt (S.1 0 5)) 26 + z y → ∃ o', o + 1 ≤ o' ∧ IC (kRoom kz kw W y kept n S) o' X wr F q)
  | 0, S, o, h1, hA, hC, hf, hn => by
    have t0 := these_0 (z := z) hA hkp (nK_0' (by omega))
    show uS z (bt (S.1 0 5)) 26 + z y ≤ ro ∧ _
    exact ⟨by omega, fun q => by omega⟩
  | n + 1, S, o, h1, hA, hC, hf, hn => by
    have hU := uS_le (f := bt (S.1 0 5)) (fun k hk => (hz k hk).2.2) 26 (Nat.le_refl _)
    have hzy := (hz y hy).2.2
    have cond : (S.1 0 1 < pSum (S.1 0 5) kz 26 0 + kz y) ↔ ro < uS z (bt (S.1 0 5)) 26 + z y := by
      rw [h1, pSum_U hz, (hz y hy).1, lt_iA, nI_ltP (by omega) (by omega)]
    unfold kRoom
    by_cases c : S.1 0 1 < pSum (S.1 0 5) kz 26 0 + kz y
    · rw [if_pos c]
      have c' := cond.mp c
      have hT : KS (S.1 0 5 &&& (obb kept ^^^ -1)) := KS_and hA.1
      obtain ⟨p1, p2, p3⟩ := kGo_in (kz := kz) (kw := kw) (W := W) (S := S) (y := y) hT
      have ne : S.1 0 5 &&& (obb kept ^^^ -1) ≠ 0 := fun e => by
        have t0 := these_0 (z := z) hA hkp (fun k _ => by rw [e]; exact b_0 k)
        omega
      obtain ⟨k, hk, hb, g⟩ := (kOut_TK (kz := kz) (S := S) p2).1 (p3 ne)
      have hb2 := p1 k hk hb
      have hb2' := hb2
      rw [these_bt hkp hk] at hb2
      obtain ⟨hb3, hb4⟩ := Bool.and_eq_true_iff.mp hb2
      have hne : ∀ s, kept = some s → s < 26 ∧ s ≠ k := fun s e => ⟨hkp s e, fun q => by rw [e, q, decide_eq_true rfl] at hb4; cases hb4⟩
      have c1 := IC_TK (e := 1) hC hA hk hb3 (Nat.le_refl _) g
      have a1 := IA_TK hA hk g
      have rm := RMs_TK hA hk hne g
      have e1 : (kOut kz (kGo kz kw W S (S.1 0 5 &&& (obb kept ^^^ -1)) y) S).1 0 1 = nI ro := (rm.1 1 (by omega)).trans h1
      have kp : kpZ z (kOut kz (kGo kz kw W S (S.1 0 5 &&& (obb kept ^^^ -1)) y) S) kept = kpZ z S kept := by
        unfold kpZ
        cases e : kept with
        | none => rfl
        | some s =>
          have := rm.2.2.2 s e
          rw [e] at this
          show (if _ then _ else _) = if _ then _ else _
          rw [this]
      have cnt : nK (bt ((kOut kz (kGo kz kw W S (S.1 0 5 &&& (obb kept ^^^ -1)) y) S).1 0 5 &&& (obb kept ^^^ -1))) 26 ≤ n := by
        have e : (kOut kz (kGo kz kw W S (S.1 0 5 &&& (obb kept ^^^ -1)) y) S).1 0 5 &&& (obb kept ^^^ -1) = (S.1 0 5 &&& (obb kept ^^^ -1)) &&& (bb k ^^^ -1) := b_ext fun i hi => by
          rw [g.1, b_and, b_and, b_and, b_and, Bool.and_right_comm]
        rw [e]
        have := nK_tk hT hk
        rw [if_pos hb2'] at this
        omega
      obtain ⟨i1, i2⟩ := kRoom_fit hz hy hro hkp n _ (o + 1) e1 a1 c1 (by rw [kp]; exact hf) cnt
      refine ⟨i1, fun _ => ?_⟩
      obtain ⟨-, -, o', i3, i4⟩ := kRoom_go (kz := kz) (kw := kw) (W := W) (y := y) hkp n _ (o + 1) a1 c1
      exact ⟨o', i3, i4⟩
    · rw [if_neg c]
      have c' : ¬ ro < uS z (bt (S.1 0 5)) 26 + z y := fun e => c (cond.mpr e)
      exact ⟨by omega, fun e => absurd e c'⟩
theorem kRoom_all (hz : SZ kz z) (hy : y < 26) (hro : ro ≤ 20) (hkp : ∀ s, kept = some s → s < 26) (h1 : S.1 0 1 = nI ro) (hA : IA S) (hC : IC S o X wr F q) (hf : z y + kpZ z S kept ≤ ro) : IA (kRoom kz kw W y kept 26 S) ∧ RMs kept S (kRoom kz kw W y kept 26 S) ∧ uS z (bt ((kRoom kz kw W y kept 26 S).1 0 5)) 26 + z y ≤ ro ∧ (∃ o', o ≤ o' ∧ IC (kRoom kz kw W y kept 26 S) o' X wr F q ∧ (ro < uS z (bt (S.1 0 5)) 26 + z y → o + 1 ≤ o')) := by
  obtain ⟨a1, a2, o', a3, a4⟩ := kRoom_go (kz := kz) (kw := kw) (W := W) (y := y) hkp 26 S o hA hC
  obtain ⟨b1, b2⟩ := kRoom_fit (kw := kw) (W := W) hz hy hro hkp 26 S o h1 hA hC hf (nK_le 26)
  refine ⟨a1, a2, b1, ?_⟩
  by_cases c : ro < uS z (bt (S.1 0 5)) 26 + z y
  · obtain ⟨o2, g1, g2⟩ := b2 c
    exact ⟨o2, by omega, g2, fun _ => g1⟩
  · exact ⟨o', a3, a4, fun e => absurd e c⟩
end Cb
