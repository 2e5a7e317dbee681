/-! CACHES: a request done keeps the counts -/
def K7 (S S' : CS) : Prop := (∀ j, j < 4 → S'.1 0 j = S.1 0 j) ∧ ∀ j, j = 0 ∨ j = 1 ∨ j = 5 ∨ j = 8 → S'.1 7 j = S.1 7 j
section Cc
variable {S S' S2 : CS} {i j k m n x y o X wr F q ro s : Nat} {z z' : Nat → Nat} {f g : Nat → Bool} {u v t : Int32} {kz kc kw : Nat → Int32} {W : Nat → Nat} {these present write : Int32} {r : Nat → Int64} {kept : Option Nat}
theorem K7.rf : K7 S S := ⟨fun _ _ => rfl, fun _ _ => rfl⟩
theorem K7.tr (h : K7 S S') (g : K7 S' S2) : K7 S S2 := ⟨fun j hj => (g.1 j hj).trans (h.1 j hj), fun j hj => (g.2 j hj).trans (h.2 j hj)⟩
theorem K7_NE (h : NE S S') : K7 S S' := ⟨h.2.2.2.2, fun j _ => by rw [h.2.2.2.1]⟩
theorem K7_RM (h : RMs kept S S') : K7 S S' := ⟨h.1, fun j hj => h.2.1 j (by omega) (by omega)⟩
/-- a use of a held key -/
theorem meet_I (hA : IA S) (hC : IC S o X wr F q) (hx : x < 26) : IA (kMeet kz kc S x) ∧ IC (kMeet kz kc S x) o X wr F q ∧ (kMeet kz kc S x).1 0 5 = S.1 0 5 ∧ K7 S (kMeet kz kc S x) := by
  have ne : ∀ P : CS, NE P (kUse kz kc (cwi P 0 7 (P.1 0 7 ||| bb x)) x) := fun P => (NE_w (by decide) (by decide) (by decide) (by decide)).tr kUse_NE
  unfold kMeet
  by_cases b : bt (S.1 0 9) x = true
  · rw [if_pos b]
    let P : CS := cwi (cwi S 0 9 (S.1 0 9 &&& (bb x ^^^ -1))) 7 7 (S.1 7 7 + 1)
    have hne := ne P
    have p5 : P.1 0 5 = S.1 0 5 := rfl
    have p6 : P.1 0 6 = S.1 0 6 := rfl
    have p9 : P.1 0 9 = S.1 0 9 &&& (bb x ^^^ -1) := rfl
    have p7 : ∀ j, j ≠ 7 → P.1 7 j = S.1 7 j := fun j hj => by
      show (cwi (cwi S 0 9 (S.1 0 9 &&& (bb x ^^^ -1))) 7 7 (S.1 7 7 + 1)).1 7 j = _
      rw [cwi_n hj]; rfl
    have p77 : P.1 7 7 = S.1 7 7 + 1 := rfl
    have p0 : ∀ j, j < 4 → P.1 0 j = S.1 0 j := fun j hj => by
      show (cwi (cwi S 0 9 (S.1 0 9 &&& (bb x ^^^ -1))) 7 7 (S.1 7 7 + 1)).1 0 j = _
      rw [cwi_z (by decide), cwi_n (by omega)]
    obtain ⟨a1, a2, a3, a4, a5⟩ := hA
    have A : IA P := by
      unfold IA
      rw [p5, p6, p9]
      exact ⟨a1, a2, KS_and a3, a4, fun k hk e => a5 k hk (by rw [bt_dl' a3 hx hk] at e; exact (Bool.and_eq_true_iff.mp e).1)⟩
    have C : IC P o X wr F q := by
      obtain ⟨l, w, f, u, h1, h2, h3, h4, h5, h6, h7, h8, h9, h10, h11⟩ := hC
      have n3 := nK_tk a3 hx
      rw [if_pos b] at n3
      exact ⟨l, w, f, u + 1, by rw [p7 2 (by decide)]; exact h1, by rw [p7 3 (by decide)]; exact h2, by rw [p7 4 (by decide)]; exact h3, by rw [p7 6 (by decide)]; exact h4, by rw [p77, h5]; exact lt_iA (j := u) (k := 1), h6, h7, by rw [p9]; omega, h9, h10, by rw [p0 3 (by omega)]; exact h11⟩
    exact ⟨IA_NE A hne, IC_NE C hne, hne.1, K7.tr ⟨p0, fun j hj => p7 j (by omega)⟩ (K7_NE hne)⟩
  · rw [if_neg b]
    have hne := ne S
    exact ⟨IA_NE hA hne, IC_NE hC hne, hne.1, K7_NE hne⟩
/-- a key comes in -/
theorem come_I (hA : IA S) (hC : IC S o X wr F q) (hx : x < 26) (hb : bt (S.1 0 5) x = false) : IA (kCome kz kc S x present) ∧ IC (kCome kz kc S x present) o (X + 1) wr F q ∧ (kCome kz kc S x present).1 0 5 = S.1 0 5 ||| bb x ∧ (kCome kz kc S x present).1 0 9 = S.1 0 9 ∧ K7 S (kCome kz kc S x present) ∧ (kCome kz kc S x present).1 7 = S.1 7 := by
  let P : CS := cwi S 0 5 (S.1 0 5 ||| bb x)
  have n0 : NE P (kCome0 S x) := by
    unfold kCome0
    split
    · exact (NE_w (by decide) (by decide) (by decide) (by decide)).tr (NE_w (by decide) (by decide) (by decide) (by decide))
    · exact NE.rf
  have hne : NE P (kCome kz kc S x present) := ((n0.tr (NE_w7 (by decide) (by decide))).tr kUse_NE).tr NE_l
  have p0 : ∀ j, j < 4 → P.1 0 j = S.1 0 j := fun j hj => by
    show (cwi S 0 5 (S.1 0 5 ||| bb x)).1 0 j = _
    rw [cwi_n (by omega)]
  obtain ⟨a1, a2, a3, a4, a5⟩ := hA
  have b5 : bt (S.1 0 5 ||| bb x) = sAd (bt (S.1 0 5)) x := bt_ad a1 hx
  have A : IA P := by
    refine ⟨KS_or a1 (KS_bb hx), a2, a3, fun k hk e => ?_, fun k hk e => ?_⟩
    · show bt (S.1 0 5 ||| bb x) k = true
      rw [b_or, a4 k hk e]; rfl
    · show bt (S.1 0 5 ||| bb x) k = true
      rw [b_or, a5 k hk e]; rfl
  have C : IC P o (X + 1) wr F q := by
    obtain ⟨l, w, f, u, h1, h2, h3, h4, h5, h6, h7, h8, h9, h10, h11⟩ := hC
    refine ⟨l, w, f, u, h1, h2, h3, h4, h5, ?_, h7, h8, h9, h10, h11⟩
    show o + l + q + nK (bt (S.1 0 5 ||| bb x)) 26 = _
    rw [b5, nK_ad hb 26 hx]
    omega
  exact ⟨IA_NE A hne, IC_NE C hne, hne.1, hne.2.2.1, K7.tr ⟨p0, fun j _ => rfl⟩ (K7_NE hne), hne.2.2.2.1⟩
/-- a write -/
theorem write_I (hA : IA S) (hC : IC S o X wr F q) (hx : x < 26) : IA (kWrite S x present) ∧ IC (kWrite S x present) o X (wr + 1) F q ∧ (kWrite S x present).1 0 5 = S.1 0 5 ∧ K7 S (kWrite S x present) := by
  obtain ⟨a1, a2, a3, a4, a5⟩ := id hA
  obtain ⟨l, w, f, u, h1, h2, h3, h4, h5, h6, h7, h8, h9, h10, h11⟩ := hC
  -- a write goes through
  have thru : ∀ P : CS, NE S P → IA (cwi P 7 4 (S.1 7 4 + 1)) ∧ IC (cwi P 7 4 (S.1 7 4 + 1)) o X (wr + 1) F q ∧ (cwi P 7 4 (S.1 7 4 + 1)).1 0 5 = S.1 0 5 ∧ K7 S (cwi P 7 4 (S.1 7 4 + 1)) := by
    intro P hP
    obtain ⟨e1, e2, e3, e4, e5⟩ := hP
    have p0 : ∀ j, (cwi P 7 4 (S.1 7 4 + 1)).1 0 j = P.1 0 j := fun j => by rw [cwi_z (by decide)]
    have p7 : ∀ j, j ≠ 4 → (cwi P 7 4 (S.1 7 4 + 1)).1 7 j = S.1 7 j := fun j hj => by rw [cwi_n hj, e4]
    refine ⟨?_, ⟨l, w + 1, f, u, by rw [p7 2 (by decide)]; exact h1, by rw [p7 3 (by decide)]; exact h2, by rw [cwi_e, h3]; exact lt_iA (j := w) (k := 1), by rw [p7 6 (by decide)]; exact h4, by rw [p7 7 (by decide)]; exact h5, by rw [p0, e1]; exact h6, h7, by rw [p0, e3]; exact h8, by rw [p0, e2]; omega, fun _ => by omega, fun e => by rw [p0, e5 3 (by omega)] at e; have := h11 e; omega⟩, by rw [p0, e1], ⟨fun j hj => by rw [p0, e5 j hj], fun j hj => p7 j (by omega)⟩⟩
    unfold IA
    rw [p0, p0, p0, e1, e2, e3]
    exact hA
  unfold kWrite
  by_cases b : bt (S.1 0 5) x = true
  · rw [if_pos b]
    by_cases c : S.1 0 3 &&& 1 = 0
    · rw [if_pos c]
      exact thru _ (NE_w7 (by decide) (by decide))
    · rw [if_neg c]
      let P : CS := cwi (cwi S 2 x present) 0 6 (S.1 0 6 ||| bb x)
      show IA P ∧ IC P o X (wr + 1) F q ∧ P.1 0 5 = S.1 0 5 ∧ K7 S P
      have p0 : ∀ j, j ≠ 6 → P.1 0 j = S.1 0 j := fun j hj => by
        show (cwi (cwi S 2 x present) 0 6 (S.1 0 6 ||| bb x)).1 0 j = _
        rw [cwi_n hj, cwi_z (by decide)]
      have p6 : P.1 0 6 = S.1 0 6 ||| bb x := rfl
      have p7 : P.1 7 = S.1 7 := by
        show (cwi (cwi S 2 x present) 0 6 (S.1 0 6 ||| bb x)).1 7 = _
        rw [cwi_z (by decide), cwi_z (by decide)]
      have nD : nK (bt (S.1 0 6)) 26 ≤ nK (bt (S.1 0 6 ||| bb x)) 26 ∧ nK (bt (S.1 0 6 ||| bb x)) 26 ≤ nK (bt (S.1 0 6)) 26 + 1 ∧ 0 < nK (bt (S.1 0 6 ||| bb x)) 26 := by
        rw [bt_ad a2 hx]
        by_cases w : bt (S.1 0 6) x = true
        · have e : sAd (bt (S.1 0 6)) x = bt (S.1 0 6) := funext fun k => by
            unfold sAd
            by_cases c : k = x
            · rw [c, w]; rfl
            · rw [decide_eq_false c, Bool.or_false]
          rw [e]
          have := nK_dl w 26 hx
          omega
        · rw [nK_ad (by simpa using w) 26 hx]; omega
      refine ⟨?_, ⟨l, w, f, u, by rw [p7]; exact h1, by rw [p7]; exact h2, by rw [p7]; exact h3, by rw [p7]; exact h4, by rw [p7]; exact h5, by rw [p0 5 (by decide)]; exact h6, h7, by rw [p0 9 (by decide)]; exact h8, by rw [p6]; omega, fun _ => by rw [p6]; omega, fun e => by rw [p0 3 (by decide)] at e; exact absurd e c⟩, p0 5 (by decide), ⟨fun j hj => p0 j (by omega), fun j _ => by rw [p7]⟩⟩
      unfold IA
      rw [p0 5 (by decide), p6, p0 9 (by decide)]
      refine ⟨a1, KS_or a2 (KS_bb hx), a3, fun k hk e => ?_, a5⟩
      rw [b_or] at e
      rcases Bool.or_eq_true_iff.mp e with e | e
      · exact a4 k hk e
      · rw [bt_bb (by omega) (by omega)] at e
        rw [of_decide_eq_true e]; exact b
  · rw [if_neg b]
    exact thru S NE.rf
/-- a key fetched ahead -/
theorem fetch_I (hz : SZ kz z) (hro : ro ≤ 20) (h1 : S.1 0 1 = nI ro) (hA : IA S) (hC : IC S o X wr F q) (hU : uS z (bt (S.1 0 5)) 26 ≤ ro) (hx : x < 26) (hy : y < 26) : IA (kFeed2 kz kc kw W x y present S) ∧ (∃ o', o ≤ o' ∧ IC (kFeed2 kz kc kw W x y present S) o' X wr (F + 1) q) ∧ uS z (bt ((kFeed2 kz kc kw W x y present S).1 0 5)) 26 ≤ ro ∧ K7 S (kFeed2 kz kc kw W x y present S) := by
  unfold kFeed2
  by_cases b : kFetch kz S y x = true
  · rw [if_pos b]
    unfold kFetch at b
    rw [Bool.and_eq_true_iff, Bool.and_eq_true_iff, Bool.not_eq_true', Bool.not_eq_true', decide_eq_true_iff, decide_eq_false_iff_not] at b
    obtain ⟨⟨b1, b2⟩, b3⟩ := b
    have hf : z y + kpZ z S (some x) ≤ ro := by
      have zy := (hz y hy).2.2
      have zx := (hz x hx).2.2
      rw [h1, (hz y hy).1] at b3
      unfold kpZ
      show z y + (if bt (S.1 0 5) x = true then z x else 0) ≤ ro
      by_cases c : bt (S.1 0 5) x = true
      · rw [if_pos c] at b3 ⊢
        rw [(hz x hx).1, lt_iA, nI_ltP (by omega) (by omega)] at b3
        omega
      · rw [if_neg c] at b3 ⊢
        rw [Int32.add_zero, nI_ltP (by omega) (by omega)] at b3
        omega
    obtain ⟨r1, r2, r3, o', r4, r5, -⟩ := kRoom_all (kw := kw) (W := W) (kept := some x) hz hy hro (fun s e => by cases e; exact hx) h1 hA hC hf
    generalize kRoom kz kw W y (some x) 26 S = Q at r1 r2 r3 r5
    have hbQ : bt (Q.1 0 5) y = false := by
      cases w : bt (Q.1 0 5) y with
      | false => rfl
      | true => rw [r2.2.2.1 y hy w] at b2; cases b2
    obtain ⟨c1, c2, c3, c4, c5, c6⟩ := come_I (kz := kz) (kc := kc) (present := present) r1 r5 hy hbQ
    generalize kCome kz kc Q y present = V at c1 c2 c3 c4 c5 c6
    let P : CS := cwi (cwi V 0 9 (V.1 0 9 ||| bb y)) 7 6 (V.1 7 6 + 1)
    show IA P ∧ (∃ o', o ≤ o' ∧ IC P o' X wr (F + 1) q) ∧ uS z (bt (P.1 0 5)) 26 ≤ ro ∧ K7 S P
    have p0 : ∀ j, j ≠ 9 → P.1 0 j = V.1 0 j := fun j hj => by
      show (cwi (cwi V 0 9 (V.1 0 9 ||| bb y)) 7 6 (V.1 7 6 + 1)).1 0 j = _
      rw [cwi_z (by decide), cwi_n hj]
    have p9 : P.1 0 9 = V.1 0 9 ||| bb y := rfl
    have p7 : ∀ j, j ≠ 6 → P.1 7 j = V.1 7 j := fun j hj => by
      show (cwi (cwi V 0 9 (V.1 0 9 ||| bb y)) 7 6 (V.1 7 6 + 1)).1 7 j = _
      rw [cwi_n hj, cwi_z (by decide)]
    have p76 : P.1 7 6 = V.1 7 6 + 1 := rfl
    obtain ⟨a1, a2, a3, a4, a5⟩ := id c1
    have f9 : bt (V.1 0 9) y = false := by
      rw [c4]
      cases w : bt (Q.1 0 9) y with
      | false => rfl
      | true => rw [r1.2.2.2.2 y hy w] at hbQ; cases hbQ
    refine ⟨?_, ⟨o', r4, ?_⟩, ?_, ?_⟩
    · unfold IA
      rw [p0 5 (by decide), p0 6 (by decide), p9]
      refine ⟨a1, a2, KS_or a3 (KS_bb hy), a4, fun k hk e => ?_⟩
      rw [b_or] at e
      rcases Bool.or_eq_true_iff.mp e with e | e
      · exact a5 k hk e
      · rw [bt_bb (by omega) (by omega)] at e
        rw [of_decide_eq_true e, c3, b_or, bt_bb (by omega) (by omega), decide_eq_true rfl, Bool.or_true]
    · obtain ⟨l, w, f, u, h1, h2, h3, h4, h5, h6, h7, h8, h9, h10, h11⟩ := c2
      exact ⟨l, w, f + 1, u, by rw [p7 2 (by decide)]; exact h1, by rw [p7 3 (by decide)]; exact h2, by rw [p7 4 (by decide)]; exact h3, by rw [p76, h4]; exact lt_iA (j := f) (k := 1), by rw [p7 7 (by decide)]; exact h5, by rw [p0 5 (by decide)]; omega, by omega, by rw [p9, bt_ad a3 hy, nK_ad f9 26 hy]; omega, by rw [p0 6 (by decide)]; exact h9, by rw [p0 6 (by decide)]; exact h10, by rw [p0 3 (by decide)]; exact h11⟩
    · rw [p0 5 (by decide), c3, bt_ad r1.1 hy, uS_ad hbQ, if_pos hy]
      exact r3
    · exact ((K7_RM r2).tr c5).tr ⟨fun j hj => p0 j (by omega), fun j hj => p7 j (by omega)⟩
  · rw [if_neg b]
    obtain ⟨l, w, f, u, h1', h2, h3, h4, h5, h6, h7, h8⟩ := hC
    exact ⟨hA, ⟨o, Nat.le_refl _, l, w, f, u, h1', h2, h3, h4, h5, h6, by omega, h8⟩, hU, K7.rf⟩
theorem feedS_NE {t R : Nat} (ht : t = 13 ∨ t = 14) {room : Int32} : NE S (kFeedS kz S t R k room) := by
  unfold kFeedS
  split
  · exact NE.rf
  · split
    · exact NE_w7 (by omega) (by omega)
    · exact (NE_w7 (by omega) (by omega)).tr (NE_w7 (by omega) (by omega))
theorem feed3_NE : NE S (kFeed3 kz x S) := by
  unfold kFeed3
  split
  · exact (feedS_NE (Or.inl rfl)).tr (feedS_NE (Or.inr rfl))
  · exact NE.rf
end Cc
