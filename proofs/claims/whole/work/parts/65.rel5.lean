/-! THE RELATION: which keys can go -/
section Rf
variable {N L : Nat} {Q : (Nat → Int32) × (Nat → Int32)} {S S' : CS} {H U U' : Nat → Int32} {k i j t y w : Nat} {kz kc kw : Nat → Int32} {W : Nat → Nat} {v x set these beyond : Int32} {kept : Option Nat}
theorem kBeyond_bt (hw : w < 4) : ∀ (n : Nat) (b : Int32), n ≤ 4 → bt (kBeyond kz kw S set n b) w = (bt b w || (decide (4 ≤ w + n) && decide (S.1 1 w < pSum (set &&& pOwn kw (nI w) 26 0) kz 26 0)))
  | 0, b, _ => by
    show bt b w = _
    rw [decide_eq_false (by omega), Bool.false_and, Bool.or_false]
  | n + 1, b, hn => by
    show bt (kBeyond kz kw S set n (if S.1 1 (3 - n) < pSum (set &&& pOwn kw (nI (3 - n)) 26 0) kz 26 0 then b ||| bb (3 - n) else b)) w = _
    rw [kBeyond_bt hw n _ (by omega)]
    by_cases e : w = 3 - n
    · subst e
      rw [decide_eq_false (p := 4 ≤ 3 - n + n) (by omega), decide_eq_true (p := 4 ≤ 3 - n + (n + 1)) (by omega), Bool.false_and, Bool.or_false, Bool.true_and]
      by_cases c : S.1 1 (3 - n) < pSum (set &&& pOwn kw (nI (3 - n)) 26 0) kz 26 0
      · rw [if_pos c, b_or, bt_bb (by omega) (by omega), decide_eq_true rfl, decide_eq_true c]
      · rw [if_neg c, decide_eq_false c, Bool.or_false]
    · have e1 : bt (if S.1 1 (3 - n) < pSum (set &&& pOwn kw (nI (3 - n)) 26 0) kz 26 0 then b ||| bb (3 - n) else b) w = bt b w := by
        split
        · rw [b_or, bt_bb (by omega) (by omega), decide_eq_false e, Bool.or_false]
        · rfl
      rw [e1]
      by_cases c : 4 ≤ w + n
      · rw [decide_eq_true c, decide_eq_true (p := 4 ≤ w + (n + 1)) (by omega)]
      · rw [decide_eq_false c, decide_eq_false (p := 4 ≤ w + (n + 1)) (by omega)]
theorem own_bt (hK : KY kz kc kw W H) (hk : k < 26) : bt (pOwn kw (nI w) 26 0) k = decide (H (54 + k) = nI w) := by
  obtain ⟨-, -, h1, h2, h3⟩ := hK k hk
  rw [pOwn_bt hk 26 0 (Nat.le_refl _), b_0, decide_eq_true (p := 26 ≤ k + 26) (by omega), h2, h3]
  rfl
/-- the units of an owner -/
theorem own_sum (hh : HB (S.1 0 5) U 24) (hK : KY kz kc kw W H) (hw : w < 4) : pSum (S.1 0 5 &&& pOwn kw (nI w) 26 0) kz 26 0 = qUnits H U (nI w) 26 0 := by
  refine pSum_q (fun k hk => ?_) 26 0 (Nat.le_refl _)
  obtain ⟨⟨m, -, -, m1, m2⟩, -⟩ := hK k hk
  have hne : ¬ nI w = -1 := by rw [nI_ne1 (by omega)]; exact id
  unfold qU1
  rw [b_and, own_bt hK hk, m1, m2, if_neg (c := nI w = -1) hne]
  have h1 := HB_1 hh hk
  by_cases c : bt (S.1 0 5) k = true
  · rw [if_pos (c := U (24 + k) = 1) (h1.mpr c), c, Bool.true_and]
    by_cases d : H (54 + k) = nI w
    · rw [if_pos d, if_pos (decide_eq_true d)]
    · rw [if_neg d, if_neg (by rw [decide_eq_false d]; decide)]
  · have c' : bt (S.1 0 5) k = false := by simpa using c
    rw [if_neg (c := U (24 + k) = 1) (fun e => c (h1.mp e)), c', Bool.false_and, if_neg (by decide)]
theorem all_sum (hh : HB (S.1 0 5) U 24) (hK : KY kz kc kw W H) : pSum (S.1 0 5) kz 26 0 = qUnits H U (-1) 26 0 := by
  refine pSum_q (fun k hk => ?_) 26 0 (Nat.le_refl _)
  obtain ⟨⟨m, -, -, m1, m2⟩, -⟩ := hK k hk
  unfold qU1
  rw [if_pos (c := (-1 : Int32) = -1) rfl, m1, m2]
  have h1 := HB_1 hh hk
  by_cases c : bt (S.1 0 5) k = true
  · rw [if_pos c, if_pos (h1.mpr c)]
  · rw [if_neg c, if_neg (fun e => c (h1.mp e))]
/-- an owner beyond its share -/
theorem over_eq (h : RF S U) (hh : HB (S.1 0 5) U 24) (hK : KY kz kc kw W H) (hy : y < 26) (hb : bt (S.1 0 5) y = false) (hw : w < 4) : decide (S.1 1 w < pSum ((S.1 0 5 ||| bb y) &&& pOwn kw (nI w) 26 0) kz 26 0) = qOver H U w y := by
  unfold qOver
  rw [h.2.1 w hw, ← own_sum hh hK hw]
  congr 2
  obtain ⟨⟨m, -, -, m1, m2⟩, -⟩ := hK y hy
  by_cases d : H (54 + y) = nI w
  · rw [if_pos d, pSum_cg (t := (S.1 0 5 &&& pOwn kw (nI w) 26 0) ||| bb y) (S' := kz) ?_ (fun _ _ => rfl) 26 0 (Nat.le_refl _), pSum_ob hy ?_ 26 0 (Nat.le_refl _), if_pos (by omega), m1, m2]
    · rw [b_and, hb]; rfl
    · intro k hk
      rw [b_and, bt_on hy (by omega), bt_on hy (by omega), b_and]
      by_cases e : k = y
      · rw [e, own_bt hK hy, decide_eq_true d, decide_eq_true rfl, Bool.or_true, Bool.or_true]; rfl
      · rw [decide_eq_false e, Bool.or_false, Bool.or_false]
  · rw [if_neg d, Int32.add_zero]
    refine pSum_cg (fun k hk => ?_) (fun _ _ => rfl) 26 0 (Nat.le_refl _)
    rw [b_and, bt_on hy (by omega), b_and]
    by_cases e : k = y
    · rw [e, own_bt hK hy, decide_eq_false d, Bool.and_false, Bool.and_false]
    · rw [decide_eq_false e, Bool.or_false]
theorem pGo_T : ∀ (n : Nat) (t : Int32), n ≤ 26 → KS t → KS these → ∃ T, KS T ∧ (∀ j, j < 26 → bt T j = (bt t j || (decide (26 ≤ j + n) && (bt these j && bt beyond (W j))))) ∧ pGo W these beyond n t = if T = 0 then these else T
  | 0, t, _, ht, _ => ⟨t, ht, fun j hj => by rw [decide_eq_false (by omega), Bool.false_and, Bool.or_false], rfl⟩
  | n + 1, t, hn, ht, hs => by
    by_cases c : beyond = 0
    · refine ⟨t, ht, fun j hj => ?_, ?_⟩
      · rw [c, b_0, Bool.and_false, Bool.and_false, Bool.or_false]
      · unfold pGo
        rw [if_pos c]
    · have hk : 25 - n < 26 := by omega
      obtain ⟨T, h1, h2, h3⟩ := pGo_T n (if bt beyond (W (25 - n)) = true then t ||| (these &&& bb (25 - n)) else t) (by omega) (by
        split
        · exact KS_or ht (KS_and hs)
        · exact ht) hs
      refine ⟨T, h1, fun j hj => ?_, ?_⟩
      · rw [h2 j hj]
        by_cases e : j = 25 - n
        · subst e
          rw [decide_eq_false (p := 26 ≤ 25 - n + n) (by omega), decide_eq_true (p := 26 ≤ 25 - n + (n + 1)) (by omega), Bool.false_and, Bool.or_false, Bool.true_and]
          cases d : bt beyond (W (25 - n))
          · rw [if_neg (by decide), Bool.and_false, Bool.or_false]
          · rw [if_pos rfl, b_or, b_and, bt_bb (by omega) (by omega), decide_eq_true rfl]
        · have e1 : bt (if bt beyond (W (25 - n)) = true then t ||| (these &&& bb (25 - n)) else t) j = bt t j := by
            split
            · rw [b_or, b_and, bt_bb (by omega) (by omega), decide_eq_false e, Bool.and_false, Bool.or_false]
            · rfl
          rw [e1]
          by_cases g : 26 ≤ j + n
          · rw [decide_eq_true g, decide_eq_true (p := 26 ≤ j + (n + 1)) (by omega)]
          · rw [decide_eq_false g, decide_eq_false (p := 26 ≤ j + (n + 1)) (by omega)]
      · show (if beyond = 0 then (if t = 0 then these else t) else pGo W these beyond n (if bt beyond (W (25 - n)) = true then t ||| (these &&& bb (25 - n)) else t)) = _
        rw [if_neg c]
        exact h3
theorem qSome_iff : ∀ (n : Nat) (a : Bool), n ≤ 26 → (qSome H U y kept n a = true ↔ (a = true ∨ ∃ j, j < 26 ∧ 26 ≤ j + n ∧ qC0 U kept j = true ∧ U 8 = 1 ∧ qOver H U (lt_n (H (54 + j))) y = true))
  | 0, a, _ => ⟨fun e => Or.inl e, fun e => e.elim id (fun ⟨j, h1, h2, _⟩ => absurd h2 (by omega))⟩
  | n + 1, a, hn => by
    show qSome H U y kept n (a || (qC0 U kept (25 - n) && decide (U 8 = 1) && qOver H U (lt_n (H (54 + (25 - n)))) y)) = true ↔ _
    rw [qSome_iff n _ (by omega)]
    constructor
    · rintro (e | ⟨j, h1, h2, h3⟩)
      · have : a = true ∨ ((qC0 U kept (25 - n) = true ∧ U 8 = 1) ∧ qOver H U (lt_n (H (54 + (25 - n)))) y = true) := by simpa using e
        rcases this with e | ⟨⟨e1, e2⟩, e3⟩
        · exact Or.inl e
        · exact Or.inr ⟨25 - n, by omega, by omega, e1, e2, e3⟩
      · exact Or.inr ⟨j, h1, by omega, h3⟩
    · rintro (e | ⟨j, h1, h2, h3, h4, h5⟩)
      · left; rw [e]; rfl
      · by_cases c : j = 25 - n
        · left
          rw [c] at h3 h5
          rw [h3, h5, decide_eq_true h4, Bool.and_true, Bool.and_true, Bool.or_true]
        · exact Or.inr ⟨j, h1, by omega, h3, h4, h5⟩
/-- the keys that can go, one of them kept -/
def kThese (S : CS) (kept : Option Nat) : Int32 := S.1 0 5 &&& (obb kept ^^^ -1)
theorem these_bt (hh : HB (S.1 0 5) U 24) (hkp : ∀ j, kept = some j → j < 26) (hk : k < 26) : bt (kThese S kept) k = qC0 U kept k := by
  unfold kThese qC0
  have h1 := HB_1 hh hk
  have e1 : decide (U (24 + k) = 1) = bt (S.1 0 5) k := by
    cases c : bt (S.1 0 5) k
    · exact decide_eq_false (fun e => by rw [h1.mp e] at c; cases c)
    · exact decide_eq_true (h1.mpr c)
  rw [e1, bt_not (by omega)]
  congr 1
  cases kept with
  | none =>
    show (!bt 0 k) = _
    rw [b_0]
    rfl
  | some m =>
    show (!bt (bb m) k) = _
    rw [bt_bb (by have := hkp m rfl; omega) (by omega)]
    by_cases e : k = m
    · rw [decide_eq_true e, e]; simp
    · have hne : some m ≠ some k := fun q => e (by cases q; rfl)
      rw [decide_eq_false e]
      exact (decide_eq_true hne).symm
theorem can_eq (h : RF S U) (hh : HB (S.1 0 5) U 24) (hK : KY kz kc kw W H) (hy : y < 26) (hb : bt (S.1 0 5) y = false) (hkp : ∀ j, kept = some j → j < 26) :
    KS (kGo kz kw W S (kThese S kept) y) ∧ ∀ k, k < 26 → bt (kGo kz kw W S (kThese S kept) y) k = qCan H U y kept k := by
  have hs : KS (kThese S kept) := KS_and hh.1
  obtain ⟨T, t1, t2, t3⟩ := pGo_T (W := W) (these := kThese S kept) (beyond := kBey kz kw S (S.1 0 5 ||| bb y)) 26 0 (Nat.le_refl _) KS_0 hs
  have hg : kGo kz kw W S (kThese S kept) y = if T = 0 then kThese S kept else T := t3
  have t2' : ∀ j, j < 26 → bt T j = (bt (kThese S kept) j && bt (kBey kz kw S (S.1 0 5 ||| bb y)) (W j)) := fun j hj => by
    rw [t2 j hj, b_0, decide_eq_true (by omega)]
    rfl
  have hn : ∀ j, j < 26 → lt_n (H (54 + j)) = W j := fun j hj => by
    obtain ⟨-, -, h1, -, h3⟩ := hK j hj
    rw [h3, lt_iN (by omega)]
  refine ⟨by rw [hg]; split <;> assumption, fun k hk => ?_⟩
  have hW : W k < 4 := (hK k hk).2.2.1
  unfold qCan
  rw [← these_bt hh hkp hk, hn k hk, hg]
  by_cases c : kHasSh S = 0
  · have u8 : U 8 = 0 := by rw [h.2.2.1, if_pos c]
    have hk0 : kBey kz kw S (S.1 0 5 ||| bb y) = 0 := if_pos c
    have hT : T = 0 := KS_ext t1 KS_0 (fun j hj => by rw [t2' j hj, hk0, b_0, b_0, Bool.and_false])
    have hq : qSome H U y kept 26 false = false := by
      cases e : qSome H U y kept 26 false
      · rfl
      · rcases (qSome_iff 26 false (Nat.le_refl _)).mp e with e | ⟨j, -, -, -, e, -⟩
        · cases e
        · rw [u8] at e; cases e
    rw [if_pos hT, hq, Bool.not_false, Bool.true_or, Bool.and_true]
  · have u8 : U 8 = 1 := by rw [h.2.2.1, if_neg c]
    have hk1 : ∀ j, j < 26 → bt (kBey kz kw S (S.1 0 5 ||| bb y)) (W j) = qOver H U (W j) y := fun j hj => by
      have hWj : W j < 4 := (hK j hj).2.2.1
      show bt (if kHasSh S = 0 then 0 else kBeyond kz kw S (S.1 0 5 ||| bb y) 4 0) (W j) = _
      rw [if_neg c, kBeyond_bt hWj 4 0 (Nat.le_refl _), b_0, decide_eq_true (p := 4 ≤ W j + 4) (by omega), Bool.false_or, Bool.true_and, over_eq h hh hK hy hb hWj]
    by_cases hT : T = 0
    · have hq : qSome H U y kept 26 false = false := by
        cases e : qSome H U y kept 26 false
        · rfl
        · rcases (qSome_iff 26 false (Nat.le_refl _)).mp e with e | ⟨j, j1, -, j2, -, j3⟩
          · cases e
          · have := t2' j j1
            rw [hT, b_0, these_bt hh hkp j1, j2, hk1 j j1, ← hn j j1, j3] at this
            cases this
      rw [if_pos hT, hq, Bool.not_false, Bool.true_or, Bool.and_true]
    · have hq : qSome H U y kept 26 false = true := by
        obtain ⟨j, j1, j2⟩ := KS_ne t1 hT
        rw [t2' j j1, hk1 j j1] at j2
        have j3 : bt (kThese S kept) j = true ∧ qOver H U (W j) y = true := by simpa using j2
        exact (qSome_iff 26 false (Nat.le_refl _)).mpr (Or.inr ⟨j, j1, by omega, by rw [← these_bt hh hkp j1]; exact j3.1, u8, by rw [hn j j1]; exact j3.2⟩)
      rw [if_neg hT, hq, Bool.not_true, Bool.false_or, t2' k hk, hk1 k hk]
/-- who can go is held -/
theorem qCan_held (hh : HB (S.1 0 5) U 24) (hk : k < 26) (hc : qCan H U y kept k = true) : bt (S.1 0 5) k = true ∧ kept ≠ some k := by
  unfold qCan qC0 at hc
  have h1 := (Bool.and_eq_true _ _).mp ((Bool.and_eq_true _ _).mp hc).1
  exact ⟨(HB_1 hh hk).mp (of_decide_eq_true h1.1), of_decide_eq_true h1.2⟩
end Rf
