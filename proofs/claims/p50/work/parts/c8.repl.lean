/-! CACHES: the same from tables that are alike; what a replay leaves -/
def KZ (a b : Nat → Int32) : Prop := ∀ k, k < 26 → b k = a k
section Ci
variable {S S' S2 Q B B' P : CS} {i j k m n y e s t p x f : Nat} {v v' now mm u : Int32} {kz kc kw kz' kc' kw' : Nat → Int32} {W kf kf' : Nat → Nat} {these present write : Int32} {kept ahead : Option Nat} {H H' : Nat → Nat → Int32}
theorem pOwn_cg (h : KZ kw kw') {w : Int32} : ∀ (n : Nat) (set : Int32), n ≤ 26 → pOwn kw' w n set = pOwn kw w n set
  | 0, _, _ => rfl
  | n + 1, set, hn => by
    unfold pOwn
    rw [h (25 - n) (by omega)]
    exact pOwn_cg h n _ (by omega)
theorem kBeyond_cg (h : KZ kz kz') (hw : KZ kw kw') {set : Int32} : ∀ (n : Nat) (b : Int32), kBeyond kz' kw' S set n b = kBeyond kz kw S set n b
  | 0, _ => rfl
  | n + 1, b => by
    unfold kBeyond
    rw [pOwn_cg hw 26 0 (Nat.le_refl _), pSum_cg h 26 0 (Nat.le_refl _)]
    exact kBeyond_cg h hw n _
theorem kGo_cg (h : KZ kz kz') (hw : KZ kw kw') : kGo kz' kw' W S these y = kGo kz kw W S these y := by
  unfold kGo kBey
  rw [kBeyond_cg h hw]
theorem kChO_cg (h : KZ kz kz') : kChO kz' S these = kChO kz S these := by
  unfold kChO
  rw [pSum_cg h 26 0 (Nat.le_refl _)]
theorem kOut_cg (h : KZ kz kz') : kOut kz' these S = kOut kz these S := by
  unfold kOut kOut13
  rw [kChO_cg h]
theorem kRoom_cg (h : KZ kz kz') (hw : KZ kw kw') (hy : y < 26) : ∀ (n : Nat) (S : CS), kRoom kz' kw' W y kept n S = kRoom kz kw W y kept n S
  | 0, _ => rfl
  | n + 1, S => by
    unfold kRoom
    rw [pSum_cg h 26 0 (Nat.le_refl _), h y hy, kGo_cg h hw, kOut_cg h, kRoom_cg h hw hy n]
theorem kUse_cg (h : KZ kz kz') (hc : KZ kc kc') (hx : x < 26) : kUse kz' kc' S x = kUse kz kc S x := by
  unfold kUse
  rw [h x hx, hc x hx]
theorem kMeet_cg (h : KZ kz kz') (hc : KZ kc kc') (hx : x < 26) : kMeet kz' kc' S x = kMeet kz kc S x := by
  unfold kMeet
  dsimp only
  rw [kUse_cg h hc hx]
theorem kCome_cg (h : KZ kz kz') (hc : KZ kc kc') (hx : x < 26) : kCome kz' kc' S x present = kCome kz kc S x present := by
  unfold kCome
  dsimp only
  rw [kUse_cg h hc hx]
theorem pShed_cg (h : KZ kz kz') {r : Nat → Int64} {room w : Int32} : ∀ (n : Nat) (held : Int32), pShed kz' r room w n held = pShed kz r room w n held
  | 0, _ => rfl
  | n + 1, held => by
    unfold pShed
    rw [pSum_cg h 26 0 (Nat.le_refl _), pShed_cg h n]
theorem kFeedS_cg (h : KZ kz kz') (hx : x < 26) {t R : Nat} {room : Int32} : kFeedS kz' S t R x room = kFeedS kz S t R x room := by
  unfold kFeedS
  rw [h x hx, pShed_cg h]
theorem kFeed_cg (h : KZ kz kz') (hc : KZ kc kc') (hw : KZ kw kw') (hx : x < 26) (hy : ∀ P : CS, P.1 0 3 = S.1 0 3 → (if P.1 0 3 &&& 2 = 0 then x else ahead.getD x) < 26) : kFeed kz' kc' kw' W x ahead present write i S = kFeed kz kc kw W x ahead present write i S := by
  have e1 : kFeed1 kz' kc' kw' W x present i S = kFeed1 kz kc kw W x present i S := by
    unfold kFeed1
    dsimp only
    rw [h x hx, hc x hx, kMeet_cg h hc hx, kRoom_cg h hw hx, kCome_cg h hc hx]
  have m1 : (kFeed1 kz kc kw W x present i S).1 0 3 = S.1 0 3 := ((kFeed1_p (kz := kz) (kc := kc) (kw := kw) (W := W) (x := x) (present := present) (i := i) (S := S)).1 3 (by omega)).trans (kNoted_c (by omega))
  have e2 : ∀ (y : Nat) (P : CS), y < 26 → kFeed2 kz' kc' kw' W x y present P = kFeed2 kz kc kw W x y present P := fun y P hy => by
    unfold kFeed2 kFetch
    dsimp only
    rw [h x hx, h y hy, kRoom_cg h hw hy, kCome_cg h hc hy]
  have e3 : ∀ P : CS, kFeed3 kz' x P = kFeed3 kz x P := fun P => by
    unfold kFeed3
    rw [kFeedS_cg h hx, kFeedS_cg h hx]
  unfold kFeed
  dsimp only
  rw [e1, e3]
  have m5 : (if write = 0 then kFeed1 kz kc kw W x present i S else kWrite (kFeed1 kz kc kw W x present i S) x present).1 0 3 = S.1 0 3 := by
    split
    · exact m1
    · exact ((kWrite_p (k := x) (v := present) Kp.rfl').1 3 (by omega)).trans m1
  rw [e2 _ _ (hy _ m5)]
/-- tables alike, so far as so many requests go -/
def HZ (n : Nat) (H H' : Nat → Nat → Int32) (kf kf' : Nat → Nat) : Prop := KZ (H 2) (H' 2) ∧ KZ (H 3) (H' 3) ∧ KZ (H 4) (H' 4) ∧ ∀ i, i < n → H' 7 i = H 7 i ∧ H' 8 i = H 8 i ∧ kf' i = kf i ∧ kf i < 26
theorem lastTo_cg {y f : Nat} : ∀ t, (∀ i, i < t → kf' i = kf i) → lastTo kf' y f t = lastTo kf y f t
  | 0, _ => rfl
  | t + 1, h => by
    unfold lastTo
    rw [h t (by omega), lastTo_cg t (fun i hi => h i (by omega))]
theorem lastTo_l2 {y f : Nat} : ∀ t, lastTo kf y f t = some j → j < t
  | 0, e => by cases e
  | t + 1, e => by
    unfold lastTo at e
    split at e
    · cases e; exact Nat.lt_succ_self _
    · exact Nat.lt_succ_of_lt (lastTo_l2 t e)
theorem kAhead_c (h : ∀ i, i < n + 1 → kf' i = kf i) {f : Nat} : kAhead kf' f n = kAhead kf f n := by
  unfold kAhead
  rw [h n (by omega), lastTo_cg n (fun i hi => h i (by omega))]
  cases e : lastTo kf (kf n) f n with
  | none => rfl
  | some j =>
    have := lastTo_l2 n e
    show some (kf' (j + 1)) = some (kf (j + 1))
    rw [h (j + 1) (by omega)]
theorem kAhead_26 (h : ∀ i, i < n + 1 → kf i < 26) {f : Nat} : (if u &&& 2 = 0 then kf n else (kAhead kf f n).getD (kf n)) < 26 := by
  have hn := h n (by omega)
  split
  · exact hn
  · unfold kAhead
    cases e : lastTo kf (kf n) f n with
    | none => exact hn
    | some j =>
      have := lastTo_l2 n e
      exact h (j + 1) (by omega)
theorem kDo_cg (h : HZ (n + 1) H H' kf kf') {f : Nat} : kDo H' W kf' f n S = kDo H W kf f n S := by
  obtain ⟨h2, h3, h4, hr⟩ := h
  obtain ⟨r7, r8, rk, rl⟩ := hr n (by omega)
  unfold kDo
  rw [r7, r8, rk, kAhead_c (fun i hi => (hr i hi).2.2.1)]
  exact kFeed_cg h2 h3 h4 rl (fun P _ => kAhead_26 (fun i hi => (hr i hi).2.2.2))
theorem kAn_snoc : ∀ (r i : Nat) (S : CS) (v : Int32), (kAn H W kf (r + 1) i S v).1 = kAn1 H W kf (i + r) (kAn H W kf r i S v).1
  | 0, i, S, v => rfl
  | r + 1, i, S, v => by
    rw [kAn_s, kAn_snoc r (i + 1), kAn_s (r := r) (i := i), show i + 1 + r = i + (r + 1) by omega]
/-- so many requests done from the row -/
def rRun (H : Nat → Nat → Int32) (W kf : Nat → Nat) (n : Nat) (S : CS) : CS := (kAn H W kf n 0 S 0).1
theorem rRun_s : rRun H W kf (n + 1) S = kDo H W kf 0 n (kLapseAt (H 8 n) (rRun H W kf n S)).1 := by
  unfold rRun
  rw [kAn_snoc, Nat.zero_add]
  rfl
theorem kAnew_r : kAnew H W kf n S = (kLapseAt (H 0 4) (rRun H W kf n S)).1 := rfl
theorem rRun_cg : ∀ (n : Nat), HZ n H H' kf kf' → rRun H' W kf' n S = rRun H W kf n S
  | 0, _ => rfl
  | n + 1, h => by
    rw [rRun_s, rRun_s, rRun_cg n ⟨h.1, h.2.1, h.2.2.1, fun i hi => h.2.2.2 i (by omega)⟩, (h.2.2.2 n (by omega)).2.1, kDo_cg h]
theorem rRun_SR (hB : SR 26 B B') (hs : KS (B.1 0 5)) : ∀ (n : Nat), (∀ i, i < n → kf i < 26) → SR 26 (rRun H W kf n B) (rRun H W kf n B') ∧ KS ((rRun H W kf n B).1 0 5)
  | 0, _ => ⟨hB, hs⟩
  | n + 1, hk => by
    obtain ⟨i1, i2⟩ := rRun_SR hB hs n (fun i hi => hk i (by omega))
    rw [rRun_s, rRun_s]
    obtain ⟨l1, l2⟩ := i1.lapse (now := H 8 n)
    exact l1.feed (l2 i2) (hk n (by omega)) (kAhead_26 hk)
theorem empty_SR {nx : Int32} (h0 : ∀ j, j < 4 → S'.1 0 j = S.1 0 j) (h1 : ∀ j, j < 4 → S'.1 1 j = S.1 1 j) : SR 26 (kEmpty S nx) (kEmpty S' nx) := by
  obtain ⟨a0, a1, a5, a7, a8, -, -⟩ := kEmpty_0 (S := S) (nx := nx)
  obtain ⟨b0, b1, b5, b7, b8, -, -⟩ := kEmpty_0 (S := S') (nx := nx)
  have r12 : ∀ P : CS, (kEmpty P nx).1 0 12 = 0 ∧ (kEmpty P nx).2 0 11 = 0 ∧ (kEmpty P nx).1 13 0 = 0 ∧ (kEmpty P nx).1 13 1 = 0 ∧ (kEmpty P nx).1 14 0 = 0 ∧ (kEmpty P nx).1 14 1 = 0 ∧ ∀ k, k < 26 → (kEmpty P nx).2 11 k = -1 ∧ (kEmpty P nx).2 12 k = 0 := fun P => by
    unfold kEmpty kStart
    refine ⟨?_, ?_, ?_, ?_, ?_, ?_, fun k hk => ⟨?_, ?_⟩⟩
    · simp [rd_wi, rd_fi, rd_fl1, cwl_1]
    · simp [rd_wl, rd_fl, rd_fi2, cwi_2]
    · simp [rd_wi]
    · simp [rd_wi]
    · simp [rd_wi]
    · simp [rd_wi]
    · simp [rd_wl, rd_fl, rd_fi2, cwi_2, hk]
    · simp [rd_wl, rd_fl, rd_fi2, cwi_2, hk]
  obtain ⟨c12, c11, c130, c131, c140, c141, cL⟩ := r12 S
  obtain ⟨d12, d11, d130, d131, d140, d141, dL⟩ := r12 S'
  refine ⟨fun j h1 h4 h11 => ?_, by rw [c11, d11], fun j hj => by rw [a1, b1]; exact h1 j hj, fun j hj => by rw [a7 j hj, b7 j hj], fun k hk => ⟨by rw [(a8 k hk).1, (b8 k hk).1], by rw [(a8 k hk).2, (b8 k hk).2], by rw [(cL k hk).1, (dL k hk).1], by rw [(cL k hk).2, (dL k hk).2]⟩, ⟨by rw [c130, d130], by rw [c131, d131], by rw [c140, d140], by rw [c141, d141]⟩, fun k hk q _ => ?_, fun k hk q _ => ?_⟩
  · by_cases w : j < 4
    · rw [a0 j w, b0 j w]; exact h0 j w
    · by_cases w2 : j = 12
      · rw [w2, c12, d12]
      · rw [a5 j (by omega) (by omega), b5 j (by omega) (by omega)]
  · rw [a5 5 (by omega) (by omega), b_0] at q; cases q
  · rw [a5 10 (by omega) (by omega), b_0] at q; cases q
theorem empty_KS {nx : Int32} : KS ((kEmpty S nx).1 0 5) := by rw [kEmpty_0.2.2.1 5 (by omega) (by omega)]; exact KS_0
/-! ### minutes -/
/-- minutes of what is held: of old, or of now -/
def MN (pr : Int32) (S S' : CS) : Prop := ∀ k, k < 26 → bt (S'.1 0 5) k = true → S'.1 2 k = pr ∨ (bt (S.1 0 5) k = true ∧ S'.1 2 k = S.1 2 k)
theorem MN.tr (h : MN present S S') (g : MN present S' S2) : MN present S S2 := fun k hk q => by
  rcases g k hk q with g | ⟨g1, g2⟩
  · exact Or.inl g
  · rcases h k hk g1 with h | ⟨h1, h2⟩
    · exact Or.inl (g2.trans h)
    · exact Or.inr ⟨h1, g2.trans h2⟩
theorem MN_eq (h5 : ∀ k, k < 26 → bt (S'.1 0 5) k = true → bt (S.1 0 5) k = true) (h2 : S'.1 2 = S.1 2) : MN present S S' := fun k hk q => Or.inr ⟨h5 k hk q, by rw [h2]⟩
theorem turn_2 : ∀ (n : Nat) {S : CS}, (kTurn these n S).1 2 = S.1 2
  | 0, _ => rfl
  | n + 1, S => by
    unfold kTurn
    split
    · rfl
    · split
      · exact (turn_2 n).trans (by unfold kTurn1; rw [cwl_1, cwi_z (by decide), cwi_z (by decide)])
      · rfl
theorem out1_2 (hk : k < 26) : (kOut1 S k).1 2 = S.1 2 := by
  have l : (kLevel S k).1 = S.1 := by unfold kLevel; split <;> rfl
  have r : ∀ P : CS, (kRem P k).1 2 = P.1 2 := fun P => by
    unfold kRem kRem0
    split
    · rw [cwi_z (by decide), cwl_1, cwi_z (by decide), cwi_z (by decide)]
    · rw [cwl_1, cwi_z (by decide), cwi_z (by decide)]
  have o : (kOld (kLevel S k) k).1 2 = S.1 2 := by
    unfold kOld
    split
    · split
      · rw [l]
      · rw [r, l]
    · rw [l]
  unfold kOut1
  rw [cwi_z (by decide), (take_all hk).2.2.1 2 (by decide) (by decide)]
  exact o
theorem out_2 : (kOut kz these S).1 2 = S.1 2 := by
  have main : ∀ P : CS, P.1 2 = S.1 2 → (kOut13 kz these P).1 2 = S.1 2 := fun P hP => by
    unfold kOut13
    cases e : kChO kz P these with
    | none => exact hP
    | some k => exact (out1_2 (kChO_lt k e)).trans hP
  unfold kOut
  split
  · exact main _ (turn_2 52)
  · exact main _ rfl
theorem room_MN (hkp : ∀ s, kept = some s → s < 26) : ∀ (n : Nat) {S : CS}, KS (S.1 0 5) → MN present S (kRoom kz kw W y kept n S)
  | 0, S, _ => MN_eq (fun _ _ q => q) rfl
  | n + 1, S, h => by
    unfold kRoom
    split
    · obtain ⟨p1, p2, p3⟩ := kGo_in (kz := kz) (kw := kw) (W := W) (S := S) (y := y) (these := S.1 0 5 &&& (obb kept ^^^ -1)) (KS_and h)
      rcases (kOut_TK (kz := kz) (S := S) p2).2 with g | ⟨k, hk, -, g⟩
      · exact MN.tr (MN_eq (fun i hi q => by rw [g.1] at q; exact q) out_2) (room_MN hkp n (by rw [g.1]; exact h))
      · exact MN.tr (MN_eq (fun i hi q => by rw [g.1] at q; exact and_l q) out_2) (room_MN hkp n (by rw [g.1]; exact KS_and h))
    · exact MN_eq (fun _ _ q => q) rfl
theorem come_MN (hk : k < 26) : MN present S (kCome kz kc S k present) := fun i hi q => by
  have e2 : (kCome kz kc S k present).1 2 i = if i = k then present else S.1 2 i := by
    unfold kCome kCome0
    dsimp only
    split <;> simp [kUse, rd_wi, cwl_1]
  rw [e2]
  by_cases w : i = k
  · rw [if_pos w]; exact Or.inl rfl
  · rw [if_neg w]
    rw [come_5, b_or, bt_bb (by omega) (by omega), decide_eq_false w, Bool.or_false] at q
    exact Or.inr ⟨q, rfl⟩
theorem feed_MN (hs : KS (S.1 0 5)) (hx : x < 26) (hy : (if S.1 0 3 &&& 2 = 0 then x else ahead.getD x) < 26) : MN present S (kFeed kz kc kw W x ahead present write i S) ∧ KS ((kFeed kz kc kw W x ahead present write i S).1 0 5) := by
  refine ⟨?_, (SR.rf.feed hs hx hy).2⟩
  have k1 := (SR.feed1 (kz := kz) (kc := kc) (kw := kw) (W := W) (present := present) (i := i) (S := S) SR.rf hs hx).2
  have m1 : (kFeed1 kz kc kw W x present i S).1 0 3 = S.1 0 3 := ((kFeed1_p (kz := kz) (kc := kc) (kw := kw) (W := W) (x := x) (present := present) (i := i) (S := S)).1 3 (by omega)).trans (kNoted_c (by omega))
  have f1 : MN present S (kFeed1 kz kc kw W x present i S) := by
    have a : (kAsked S (nI i) x).1 = S.1 := rfl
    unfold kFeed1
    dsimp only
    rw [a]
    split
    · refine MN_eq (fun j hj q => by rw [meet_5] at q; exact q) ?_
      unfold kMeet kNote0
      dsimp only
      split
      · funext j; simp [kUse, rd_wi, cwl_1, kAsked]
      · funext j; simp [kUse, rd_wi, cwl_1, kAsked]
    · split
      · refine MN_eq (fun j hj q => q) ?_
        funext j; simp [kNote2, rd_wi, cwl_1, kAsked]
      · have e : MN present S (cwi (kNote1 (kAsked S (nI i) x) i x) 7 8 ((kNote1 (kAsked S (nI i) x) i x).1 7 8 + kc x)) := MN_eq (fun j hj q => q) (by funext j; simp [kNote1, rd_wi, cwl_1, kAsked])
        exact (e.tr (room_MN (kept := none) (fun s e => by cases e) 26 hs)).tr (come_MN hx)
  unfold kFeed
  dsimp only
  generalize kFeed1 kz kc kw W x present i S = P at k1 m1 f1 ⊢
  have f5 : MN present S (if write = 0 then P else kWrite P x present) ∧ KS ((if write = 0 then P else kWrite P x present).1 0 5) ∧ (if write = 0 then P else kWrite P x present).1 0 3 = S.1 0 3 := by
    split
    · exact ⟨f1, k1, m1⟩
    · refine ⟨f1.tr fun j hj q => ?_, by rw [write_5]; exact k1, ((kWrite_p (k := x) (v := present) (P := P) (S := P) Kp.rfl').1 3 (by omega)).trans m1⟩
      rw [write_5] at q
      have e2 : (kWrite P x present).1 2 j = P.1 2 j ∨ (kWrite P x present).1 2 j = present := by
        unfold kWrite
        split
        · split
          · by_cases w : j = x
            · exact Or.inr (by rw [w, cwi_z (by decide), cwi_e])
            · exact Or.inl (by rw [cwi_z (by decide), cwi_n w])
          · by_cases w : j = x
            · exact Or.inr (by rw [w, cwi_z (by decide), cwi_e])
            · exact Or.inl (by rw [cwi_z (by decide), cwi_n w])
        · exact Or.inl (by rw [cwi_z (by decide)])
      rcases e2 with e2 | e2
      · exact Or.inr ⟨q, e2⟩
      · exact Or.inl e2
  generalize (if write = 0 then P else kWrite P x present) = V at f5 ⊢
  obtain ⟨g1, g2, g3⟩ := f5
  rw [g3]
  generalize (if S.1 0 3 &&& 2 = 0 then x else ahead.getD x) = y at hy ⊢
  have f2 : MN present V (kFeed2 kz kc kw W x y present V) := by
    unfold kFeed2
    split
    · dsimp only
      have r := (room_MN (present := present) (kz := kz) (kw := kw) (W := W) (y := y) (kept := some x) (fun s e => by cases e; exact hx) 26 g2).tr (come_MN (kz := kz) (kc := kc) hy)
      intro j hj q
      rw [cwi_z (by decide), cwi_n (by decide)] at q
      rw [cwi_z (by decide), cwi_z (by decide)]
      exact r j hj q
    · exact MN_eq (fun _ _ q => q) rfl
  refine (g1.tr f2).tr (MN_eq (fun j hj q => by rw [feed3_NE.1] at q; exact q) ?_)
  unfold kFeed3 kFeedS
  split
  · repeat (first | rfl | (rw [cwi_z (by decide)]) | split)
  · rfl
end Ci
