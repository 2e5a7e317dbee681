/-! THE CLASS, what the steps of a cache leave alone -/
/-- rule, room, lapse, mode, shares, where it was fed from, tallies by keys, outcomes, when and how often each key was asked -/
def Kp (S S' : CS) : Prop := (∀ j, j < 4 → S'.1 0 j = S.1 0 j) ∧ S'.1 1 = S.1 1 ∧ S'.1 6 = S.1 6 ∧ S'.1 8 = S.1 8 ∧ S'.1 9 = S.1 9 ∧ S'.1 10 = S.1 10 ∧ S'.2 11 = S.2 11 ∧ S'.2 12 = S.2 12
section Cs
variable {k i j t n x y : Nat} {S S' P Q : CS} {v room present write : Int32} {z : Int64} {kz kc kw : Nat → Int32} {W : Nat → Nat} {these : Int32} {kept ahead : Option Nat}
theorem Kp.rfl' : Kp S S := ⟨fun _ _ => rfl, rfl, rfl, rfl, rfl, rfl, rfl, rfl⟩
theorem Kp.tr (h : Kp S P) (g : Kp P Q) : Kp S Q := ⟨fun j hj => (g.1 j hj).trans (h.1 j hj), g.2.1.trans h.2.1, g.2.2.1.trans h.2.2.1, g.2.2.2.1.trans h.2.2.2.1, g.2.2.2.2.1.trans h.2.2.2.2.1, g.2.2.2.2.2.1.trans h.2.2.2.2.2.1, g.2.2.2.2.2.2.1.trans h.2.2.2.2.2.2.1, g.2.2.2.2.2.2.2.trans h.2.2.2.2.2.2.2⟩
/-- a place that is none of these -/
def Kpi (t j : Nat) : Prop := (t = 0 → 4 ≤ j) ∧ t ≠ 1 ∧ t ≠ 6 ∧ t ≠ 8 ∧ t ≠ 9 ∧ t ≠ 10
theorem Kp_cwi (h : Kpi t j) (g : Kp P S) : Kp P (cwi S t j v) := by
  obtain ⟨h0, h1, h6, h8, h9, h10⟩ := h
  refine g.tr ⟨fun i hi => ?_, z2_n1 (Ne.symm h1), z2_n1 (Ne.symm h6), z2_n1 (Ne.symm h8), z2_n1 (Ne.symm h9), z2_n1 (Ne.symm h10), rfl, rfl⟩
  show u2 S.1 t j v 0 i = S.1 0 i
  unfold u2
  rw [if_neg (fun e => by have := h0 e.1.symm; omega)]
theorem Kp_cwl (h : t ≠ 11) (h' : t ≠ 12) (g : Kp P S) : Kp P (cwl S t j z) :=
  g.tr ⟨fun i hi => rfl, rfl, rfl, rfl, rfl, rfl, z2_n1 (Ne.symm h), z2_n1 (Ne.symm h')⟩
theorem Kpi0 (h : 4 ≤ j) : Kpi 0 j := ⟨fun _ => h, by decide, by decide, by decide, by decide, by decide⟩
theorem Kpi2 : Kpi 2 j := ⟨(fun e => by cases e), by decide, by decide, by decide, by decide, by decide⟩
theorem Kpi7 : Kpi 7 j := ⟨(fun e => by cases e), by decide, by decide, by decide, by decide, by decide⟩
theorem Kpi13 : Kpi 13 j := ⟨(fun e => by cases e), by decide, by decide, by decide, by decide, by decide⟩
theorem Kpi14 : Kpi 14 j := ⟨(fun e => by cases e), by decide, by decide, by decide, by decide, by decide⟩
theorem kUse_p (g : Kp P S) : Kp P (kUse kz kc S k) := Kp_cwl (by decide) (by decide) (Kp_cwl (by decide) (by decide) (Kp_cwi (Kpi0 (by decide)) g))
theorem kTake0_p (g : Kp P S) : Kp P (kTake0 S k) := Kp_cwi (Kpi0 (by decide)) (Kp_cwi (Kpi0 (by decide)) (Kp_cwi (Kpi0 (by decide)) (Kp_cwi (Kpi0 (by decide)) (Kp_cwi (Kpi0 (by decide)) g))))
theorem kTake_p (g : Kp P S) : Kp P (kTake S k) := by
  unfold kTake
  split
  · exact kTake0_p (Kp_cwi Kpi7 g)
  · exact kTake0_p g
theorem kMeet_p (g : Kp P S) : Kp P (kMeet kz kc S k) := by
  unfold kMeet
  split
  · exact kUse_p (Kp_cwi (Kpi0 (by decide)) (Kp_cwi Kpi7 (Kp_cwi (Kpi0 (by decide)) g)))
  · exact kUse_p (Kp_cwi (Kpi0 (by decide)) g)
theorem kCome0_p (g : Kp P S) : Kp P (kCome0 S k) := by
  unfold kCome0
  dsimp only
  split
  · exact Kp_cwi (Kpi0 (by decide)) (Kp_cwi (Kpi0 (by decide)) (Kp_cwi (Kpi0 (by decide)) g))
  · exact Kp_cwi (Kpi0 (by decide)) g
theorem kCome_p (g : Kp P S) : Kp P (kCome kz kc S k v) := Kp_cwl (by decide) (by decide) (kUse_p (Kp_cwi Kpi2 (kCome0_p g)))
theorem kWrite_p (g : Kp P S) : Kp P (kWrite S k v) := by
  unfold kWrite
  split
  · split
    · exact Kp_cwi Kpi7 (Kp_cwi Kpi2 g)
    · exact Kp_cwi (Kpi0 (by decide)) (Kp_cwi Kpi2 g)
  · exact Kp_cwi Kpi7 g
theorem kTurn1_p (g : Kp P S) : Kp P (kTurn1 S these k) := Kp_cwl (by decide) (by decide) (Kp_cwi (Kpi0 (by decide)) (Kp_cwi (Kpi0 (by decide)) g))
theorem kTurn_p : ∀ (n : Nat) {S : CS} (_ : Kp P S), Kp P (kTurn these n S)
  | 0, S, g => g
  | n + 1, S, g => by
    unfold kTurn
    split
    · exact g
    · split
      · exact kTurn_p n (kTurn1_p g)
      · exact g
theorem kRem_p (g : Kp P S) : Kp P (kRem S k) := by
  have g0 : Kp P (kRem0 S k) := Kp_cwl (by decide) (by decide) (Kp_cwi (Kpi0 (by decide)) (Kp_cwi (Kpi0 (by decide)) g))
  unfold kRem
  split
  · exact Kp_cwi (Kpi0 (by decide)) g0
  · exact g0
theorem kLevel_p (g : Kp P S) : Kp P (kLevel S k) := by
  unfold kLevel
  split
  · exact Kp_cwl (by decide) (by decide) g
  · exact g
theorem kOld_p (g : Kp P S) : Kp P (kOld S k) := by
  unfold kOld
  split
  · split
    · exact g
    · exact kRem_p g
  · exact g
theorem kOut_p (g : Kp P S) : Kp P (kOut kz these S) := by
  have h : Kp P (if S.1 0 0 = 3 then kTurn these 52 S else S) := by
    split
    · exact kTurn_p _ g
    · exact g
  unfold kOut kOut13
  split
  · exact h
  · exact Kp_cwi Kpi7 (kTake_p (kOld_p (kLevel_p h)))
theorem kRoom_p : ∀ (n : Nat) {S : CS} (_ : Kp P S), Kp P (kRoom kz kw W y kept n S)
  | 0, S, g => g
  | n + 1, S, g => by
    unfold kRoom
    split
    · exact kRoom_p n (kOut_p g)
    · exact g
theorem kFeedS_p (ht : t = 13 ∨ t = 14) (g : Kp P S) : Kp P (kFeedS kz S t n k room) := by
  have hp : ∀ {j}, Kpi t j := by
    rcases ht with rfl | rfl
    · exact Kpi13
    · exact Kpi14
  unfold kFeedS
  split
  · exact g
  · split
    · exact Kp_cwi hp g
    · exact Kp_cwi hp (Kp_cwi hp g)
theorem kFeed3_p (g : Kp P S) : Kp P (kFeed3 kz x S) := by
  unfold kFeed3
  split
  · exact kFeedS_p (Or.inr rfl) (kFeedS_p (Or.inl rfl) g)
  · exact g
theorem kFeed2_p (g : Kp P S) : Kp P (kFeed2 kz kc kw W x y present S) := by
  unfold kFeed2
  split
  · exact Kp_cwi Kpi7 (Kp_cwi (Kpi0 (by decide)) (kCome_p (kRoom_p _ g)))
  · exact g
theorem kLapse_p : ∀ (n : Nat) {S : CS} {m : Int32} (_ : Kp P S), Kp P (kLapse v n S m).1
  | 0, S, m, g => g
  | n + 1, S, m, g => by
    unfold kLapse
    split
    · split
      · exact kLapse_p n (kTake_p g)
      · exact kLapse_p n g
    · exact g
theorem kLapseAt_p (g : Kp P S) : Kp P (kLapseAt v S).1 := Kp_cwi Kpi7 (kLapse_p _ g)
/-- what a request notes -/
def kNoted (kz : Nat → Int32) (i x : Nat) (S : CS) : CS :=
  if bt (S.1 0 5) x = true then kNote0 (kAsked S (nI i) x) i x else if S.1 0 1 < kz x then kNote2 (kAsked S (nI i) x) i x else kNote1 (kAsked S (nI i) x) i x
theorem kFeed1_p : Kp (kNoted kz i x S) (kFeed1 kz kc kw W x present i S) := by
  have a : (kAsked S (nI i) x).1 = S.1 := rfl
  unfold kFeed1 kNoted
  dsimp only
  rw [a]
  split
  · exact kMeet_p Kp.rfl'
  · split
    · exact Kp_cwi Kpi7 Kp.rfl'
    · exact kCome_p (kRoom_p _ (Kp_cwi Kpi7 Kp.rfl'))
theorem kFeed_p : Kp (kNoted kz i x S) (kFeed kz kc kw W x ahead present write i S) := by
  unfold kFeed
  dsimp only
  refine kFeed3_p (kFeed2_p ?_)
  split
  · exact kFeed1_p
  · exact kWrite_p kFeed1_p
theorem kNoted_11 : (kNoted kz i x S).2 11 = u1 (S.2 11) x (Int32.toInt64 (nI i)) := by
  have h : (kNoted kz i x S).2 = u2 (u2 S.2 11 x (Int32.toInt64 (nI i))) 12 x (pRank (S.2 12 x) (nI i)) := by
    unfold kNoted
    split
    · rfl
    · split <;> rfl
  rw [h]
  funext b
  unfold u2 u1
  rw [if_neg (fun e => by cases e.1)]
  by_cases q : b = x
  · rw [if_pos ⟨rfl, q⟩, if_pos q]
  · rw [if_neg (fun e => q e.2), if_neg q]
theorem kNoted_12 : (kNoted kz i x S).2 12 = u1 (S.2 12) x (pRank (S.2 12 x) (nI i)) := by
  have h : (kNoted kz i x S).2 = u2 (u2 S.2 11 x (Int32.toInt64 (nI i))) 12 x (pRank (S.2 12 x) (nI i)) := by
    unfold kNoted
    split
    · rfl
    · split <;> rfl
  rw [h]
  funext b
  unfold u2 u1
  by_cases q : b = x
  · rw [if_pos ⟨rfl, q⟩, if_pos q]
  · rw [if_neg (fun e => q e.2), if_neg q, if_neg (fun e => by cases e.1)]
theorem kNoted_c (hj : j < 4) : (kNoted kz i x S).1 0 j = S.1 0 j := by
  unfold kNoted
  split
  · unfold kNote0; simp (disch := omega) only [cwi_1, kAsked, cwl_1, z2_n1, z2_n2]
  · split
    · unfold kNote2; simp (disch := omega) only [cwi_1, kAsked, cwl_1, z2_n1, z2_n2]
    · unfold kNote1; simp (disch := omega) only [cwi_1, kAsked, cwl_1, z2_n1, z2_n2]
theorem kNoted_1 : (kNoted kz i x S).1 1 = S.1 1 := by
  unfold kNoted
  split
  · unfold kNote0; simp (disch := omega) only [cwi_1, kAsked, cwl_1, z2_n1, z2_n2]
  · split
    · unfold kNote2; simp (disch := omega) only [cwi_1, kAsked, cwl_1, z2_n1, z2_n2]
    · unfold kNote1; simp (disch := omega) only [cwi_1, kAsked, cwl_1, z2_n1, z2_n2]
theorem kNoted_6 : (kNoted kz i x S).1 6 = upd (S.1 6) 7 (nI i + 1) := by
  have h : ∀ b, (kNoted kz i x S).1 6 b = upd (S.1 6) 7 (nI i + 1) b := by
    intro b
    by_cases q : b = 7
    · subst q
      rw [upd_s]
      unfold kNoted
      split
      · unfold kNote0; simp (disch := omega) only [cwi_1, kAsked, cwl_1, z2_n1, z2_n2, z2_eq]
      · split
        · unfold kNote2; simp (disch := omega) only [cwi_1, kAsked, cwl_1, z2_n1, z2_n2, z2_eq]
        · unfold kNote1; simp (disch := omega) only [cwi_1, kAsked, cwl_1, z2_n1, z2_n2, z2_eq]
    · rw [upd_o q]
      unfold kNoted
      split
      · unfold kNote0; simp (disch := omega) only [cwi_1, kAsked, cwl_1, z2_n1, z2_n2, z2_eq]
      · split
        · unfold kNote2; simp (disch := omega) only [cwi_1, kAsked, cwl_1, z2_n1, z2_n2, z2_eq]
        · unfold kNote1; simp (disch := omega) only [cwi_1, kAsked, cwl_1, z2_n1, z2_n2, z2_eq]
  exact funext h
theorem kNoted_10 : (kNoted kz i x S).1 10 = upd (S.1 10) i (if bt (S.1 0 5) x = true then 0 else if S.1 0 1 < kz x then 2 else 1) := by
  have h : ∀ b, (kNoted kz i x S).1 10 b = upd (S.1 10) i (if bt (S.1 0 5) x = true then 0 else if S.1 0 1 < kz x then 2 else 1) b := by
    intro b
    by_cases q : b = i
    · subst q
      rw [upd_s]
      unfold kNoted
      split
      · unfold kNote0; simp (disch := omega) only [cwi_1, kAsked, cwl_1, z2_n1, z2_n2, z2_eq]
      · split
        · unfold kNote2; simp (disch := omega) only [cwi_1, kAsked, cwl_1, z2_n1, z2_n2, z2_eq]
        · unfold kNote1; simp (disch := omega) only [cwi_1, kAsked, cwl_1, z2_n1, z2_n2, z2_eq]
    · rw [upd_o q]
      unfold kNoted
      split
      · unfold kNote0; simp (disch := omega) only [cwi_1, kAsked, cwl_1, z2_n1, z2_n2, z2_eq]
      · split
        · unfold kNote2; simp (disch := omega) only [cwi_1, kAsked, cwl_1, z2_n1, z2_n2, z2_eq]
        · unfold kNote1; simp (disch := omega) only [cwi_1, kAsked, cwl_1, z2_n1, z2_n2, z2_eq]
  exact funext h
/-- when each key was asked last, and how often -/
def LsA (S : CS) (kf : Nat → Nat) (f n : Nat) : Prop := ∀ k, k < 26 → S.2 11 k = Int32.toInt64 (oI (lastTo kf k f n))
theorem LsA_step {kf : Nat → Nat} {f n : Nat} (h : LsA S kf f n) (hf : f ≤ n) : LsA (kFeed kz kc kw W (kf n) ahead present write n S) kf f (n + 1) := by
  intro k hk
  rw [kFeed_p.2.2.2.2.2.2.1, kNoted_11]
  unfold lastTo
  by_cases q : kf n = k
  · rw [if_pos ⟨hf, q⟩, q, u1e]
    rfl
  · rw [if_neg (fun e => q e.2), u1_n (Ne.symm q)]
    exact h k hk
theorem LsA_p {kf : Nat → Nat} {f n : Nat} (h : LsA S kf f n) (g : Kp S P) : LsA P kf f n := fun k hk => (congrFun g.2.2.2.2.2.2.1 k).trans (h k hk)
theorem LsA_0 {kf : Nat → Nat} {f n : Nat} (h : ∀ k, k < 26 → S.2 11 k = -1) (hn : n ≤ f) : LsA S kf f n := fun k hk => by
  rw [lastTo_0 n hn, h k hk]
  rfl
end Cs
