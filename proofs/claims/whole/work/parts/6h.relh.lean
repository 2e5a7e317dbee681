/-! THE RELATION: the row replayed -/
section Rr'
variable {S S' P0 : CS} {T : BT} {G : Nat → Nat → Int32} {H U U1 U2 U' A B : Nat → Int32} {V V' : Nat → Nat → Int32} {P P' : Nat → CS} {c k i j t e w r q n a g f b R y : Nat} {kz kc kw : Nat → Int32} {W kf kf' fs : Nat → Nat} {room present write x z m v these : Int32} {ahead kept : Option Nat}
theorem c70_take : (kTake S k).1 7 0 = S.1 7 0 := by
  unfold kTake kTake0
  split <;> rfl
theorem c70_rem : (kRem S k).1 7 0 = S.1 7 0 := by
  unfold kRem kRem0
  split <;> rfl
theorem c70_turn : ∀ (n : Nat) (S : CS), (kTurn these n S).1 7 0 = S.1 7 0
  | 0, S => rfl
  | n + 1, S => by
    unfold kTurn
    split
    · rfl
    · split
      · rw [c70_turn n]; rfl
      · rfl
theorem c70_out : (kOut kz these S).1 7 0 = S.1 7 0 := by
  have h1 : (kOut13 kz these S).1 7 0 = S.1 7 0 := by
    unfold kOut13
    split
    · rfl
    · rename_i k _
      show (kTake (kOld (kLevel S k) k) k).1 7 0 = _
      rw [c70_take]
      have : (kLevel S k).1 7 0 = S.1 7 0 := by unfold kLevel; split <;> rfl
      rw [← this]
      unfold kOld
      split
      · split
        · rfl
        · exact c70_rem
      · rfl
  have h2 : ∀ S' : CS, (kOut13 kz these S').1 7 0 = S'.1 7 0 := fun S' => by
    unfold kOut13
    split
    · rfl
    · rename_i k _
      show (kTake (kOld (kLevel S' k) k) k).1 7 0 = _
      rw [c70_take]
      have : (kLevel S' k).1 7 0 = S'.1 7 0 := by unfold kLevel; split <;> rfl
      rw [← this]
      unfold kOld
      split
      · split
        · rfl
        · exact c70_rem
      · rfl
  unfold kOut
  rw [h2]
  split
  · exact c70_turn 52 S
  · rfl
theorem c70_room : ∀ (n : Nat) (S : CS), (kRoom kz kw W y kept n S).1 7 0 = S.1 7 0
  | 0, S => rfl
  | n + 1, S => by
    unfold kRoom
    split
    · rw [c70_room n, c70_out]
    · rfl
theorem c70_come : (kCome kz kc S k x).1 7 0 = S.1 7 0 := by
  unfold kCome kCome0 kUse
  dsimp only
  split <;> rfl
theorem c70_meet : (kMeet kz kc S k).1 7 0 = S.1 7 0 := by
  unfold kMeet kUse
  dsimp only
  split <;> rfl
theorem c70_write : (kWrite S k x).1 7 0 = S.1 7 0 := by
  unfold kWrite
  split
  · split <;> rfl
  · rfl
theorem c70_feed1 : (kFeed1 kz kc kw W k present i S).1 7 0 = if bt (S.1 0 5) k = true then S.1 7 0 + 1 else S.1 7 0 := by
  show (if bt (S.1 0 5) k = true then kMeet kz kc (kNote0 (kAsked S (nI i) k) i k) k else
    if S.1 0 1 < kz k then cwi (kNote2 (kAsked S (nI i) k) i k) 7 8 ((kNote2 (kAsked S (nI i) k) i k).1 7 8 + kc k) else
    kCome kz kc (kRoom kz kw W k none 26 (cwi (kNote1 (kAsked S (nI i) k) i k) 7 8 ((kNote1 (kAsked S (nI i) k) i k).1 7 8 + kc k))) k present).1 7 0 = _
  split
  · rw [c70_meet]; rfl
  · split
    · rfl
    · rw [c70_come, c70_room]; rfl
theorem c70_feed2 : (kFeed2 kz kc kw W k y present S).1 7 0 = S.1 7 0 := by
  unfold kFeed2
  split
  · show (kCome kz kc (kRoom kz kw W y (some k) 26 S) y present).1 7 0 = _
    rw [c70_come, c70_room]
  · rfl
theorem c70_feed : (kFeed kz kc kw W k ahead present write i S).1 7 0 = if bt (S.1 0 5) k = true then S.1 7 0 + 1 else S.1 7 0 := by
  rw [kFeed_A]
  rw [(kFeed3_f (kz := kz) (x := k)).1 7 (by decide) (by decide), ← c70_feed1 (kz := kz) (kc := kc) (kw := kw) (W := W) (present := present) (i := i)]
  unfold kFeedA
  dsimp only
  rw [c70_feed2]
  split
  · rfl
  · rw [c70_write]
theorem c70_lapse : ∀ (n : Nat) (S : CS) (m : Int32), (kLapse x n S m).1.1 7 0 = S.1 7 0
  | 0, S, m => rfl
  | n + 1, S, m => by
    unfold kLapse
    split
    · split
      · rw [c70_lapse n, c70_take]
      · exact c70_lapse n S m
    · rfl
theorem c70_lapseAt : (kLapseAt x S).1.1 7 0 = S.1 7 0 := by
  show (cwi (kLapse x 26 S 0).1 7 3 _).1 7 0 = _
  exact c70_lapse 26 S 0
/-- the hits counted anew -/
theorem kAn_70 : ∀ (r i : Nat) (S : CS) (m : Int32), (kAn G W kf r i S m).2 + S.1 7 0 = m + (kAn G W kf r i S m).1.1 7 0
  | 0, i, S, m => rfl
  | r + 1, i, S, m => by
    rw [kAn_s]
    have h := kAn_70 r (i + 1) (kAn1 G W kf i S) (if bt ((kLapseAt (G 8 i) S).1.1 0 5) (kf i) = true then m + 1 else m + 0)
    have e : (kAn1 G W kf i S).1 7 0 = if bt ((kLapseAt (G 8 i) S).1.1 0 5) (kf i) = true then S.1 7 0 + 1 else S.1 7 0 := by
      show (kFeed (G 2) (G 3) (G 4) W (kf i) (kAhead kf 0 i) (G 8 i) (G 7 i) i (kLapseAt (G 8 i) S).1).1 7 0 = _
      rw [c70_feed, c70_lapseAt]
    rw [e] at h
    by_cases d : bt ((kLapseAt (G 8 i) S).1.1 0 5) (kf i) = true
    · rw [if_pos d, if_pos d] at h
      rw [if_pos d]
      generalize (kAn G W kf r (i + 1) (kAn1 G W kf i S) (m + 1)) = X at h ⊢
      have : (X.2 + S.1 7 0) + 1 = (m + X.1.1 7 0) + 1 := by
        rw [Int32.add_assoc, h, Int32.add_assoc, Int32.add_comm 1, ← Int32.add_assoc]
      exact (Int32.add_left_inj 1).mp this
    · rw [if_neg d, if_neg d] at h
      rw [if_neg d]
      rw [Int32.add_zero] at h ⊢
      exact h
theorem kLapses_i : ∀ (n : Nat) (P : Nat → CS) (m : Int32), n ≤ 6 → (kLapses x n P m).1 = fun c => if 6 - n ≤ c ∧ c < 6 then (kLapseAt x (P c)).1 else P c
  | 0, P, m, _ => funext fun c => (if_neg (by omega)).symm
  | n + 1, P, m, hn => by
    show (kLapses x n (u1 P (5 - n) (kLapseAt x (P (5 - n))).1) (m + (kLapseAt x (P (5 - n))).2)).1 = _
    rw [kLapses_i n _ _ (by omega)]
    funext c
    by_cases e : c = 5 - n
    · rw [if_neg (by omega), if_pos (by omega), e, u1e]
    · rw [u1_n e]
      by_cases d : 6 - n ≤ c ∧ c < 6
      · rw [if_pos d, if_pos (by omega)]
      · rw [if_neg d, if_neg (by omega)]
theorem kLapses_c (hc : c < 6) : (kLapses x 6 P m).1 c = (kLapseAt x (P c)).1 := by
  rw [kLapses_i 6 P m (Nat.le_refl _)]
  exact if_pos (by omega)
theorem RQ_cg (h : RQ kf fs t P V) (e : ∀ c, c < 6 → P c = P' c) : RQ kf fs t P' V := fun c hc => by rw [← e c hc]; exact h c hc
theorem RQ_rep {n : Nat} (hn : n ≤ 300) (hK : KY (G 2) (G 3) (G 4) W H) (hrow : ∀ i, i < n → kf i < 26 ∧ (∃ w : Bool, G 7 i = bI w ∧ H (380 + i) = bI w) ∧ G 8 i = H (680 + i)) : ∀ (r i : Nat) (P : Nat → CS) (V : Nat → Nat → Int32), i + r = n → RQ kf (fun _ => 0) i P V →
    ∃ V', qRep H kf (fun _ => 0) n r V = some V' ∧ RQ kf (fun _ => 0) n (fun c => (kAn G W kf r i (P c) 0).1) V'
  | 0, i, P, V, e, h => by
    have : i = n := by omega
    subst this
    exact ⟨V, rfl, h⟩
  | r + 1, i, P, V, e, h => by
    have hi : i < n := by omega
    have ei : n - (r + 1) = i := by omega
    obtain ⟨-, ⟨w, w1, w2⟩, w3⟩ := hrow i hi
    have hl := RQ_lapses (x := G 8 i) (H := upd H 1 (H (680 + i))) (by rw [upd_s, w3]) 6 P V 0 (Nat.le_refl _) h
    have hK' : KY (G 2) (G 3) (G 4) W (upd H 1 (H (680 + i))) := fun k hk => by
      rw [upd_o (by omega), upd_o (by omega), upd_o (by omega)]
      exact hK k hk
    obtain ⟨V1, v1, v2⟩ := RQ_feed (G := G) hl.1 (fun _ _ => ⟨rfl, rfl⟩) (by omega) hK' (fun j hj => (hrow j (by omega)).1) (wb := w) (by rw [upd_o (by omega)]; exact w2) w1 (by rw [upd_s, w3])
    have h' : RQ kf (fun _ => 0) (i + 1) (fun c => kAn1 G W kf i (P c)) V1 := RQ_cg v2 (fun c hc => by
      show (if c < 6 then kDo G W kf 0 i ((kLapses (G 8 i) 6 P 0).1 c) else _) = _
      rw [if_pos hc, kLapses_c hc]
      rfl)
    obtain ⟨V', r1, r2⟩ := RQ_rep hn hK hrow r (i + 1) _ V1 (by omega) h'
    refine ⟨V', ?_, RQ_cg r2 (fun c hc => ?_)⟩
    · unfold qRep
      rw [ei, v1]
      exact r1
    · show (kAn G W kf r (i + 1) (kAn1 G W kf i (P c)) 0).1 = (kAn G W kf (r + 1) i (P c) 0).1
      rw [kAn_s, kAn_x r (i + 1) (kAn1 G W kf i (P c)) (if _ = true then _ else _)]
/-- the units' heads -/
theorem RQ_u (h8 : RQ kf fs t P V) (h7 : FS fs) : ∀ u, u < 18 → fs u ≤ t ∧ V u 9 = nI (fs u) ∧ (∃ r, r < 7 ∧ V u 0 = nI r) ∧ (6 ≤ u → V u 0 ≠ 6) := fun u hu => by
  have cases3 : u < 6 ∨ (∃ c, c < 6 ∧ u = 6 + 2 * c) ∨ ∃ c, c < 6 ∧ u = 7 + 2 * c := by
    by_cases a : u < 6
    · exact Or.inl a
    · by_cases b : u % 2 = 0
      · exact Or.inr (Or.inl ⟨(u - 6) / 2, by omega, by omega⟩)
      · exact Or.inr (Or.inr ⟨(u - 7) / 2, by omega, by omega⟩)
  rcases cases3 with a | ⟨c, hc, rfl⟩ | ⟨c, hc, rfl⟩
  · obtain ⟨a1, a2, a3, -⟩ := h8 u a
    exact ⟨a3, a2, a1.1.2.2.2.1, fun q => by omega⟩
  · obtain ⟨-, -, a3, -, -, -, -, a8, -⟩ := h8 c hc
    rw [(h7 c hc).1]
    exact ⟨a3, a8.2.2.2.2.2.1, ⟨0, by omega, a8.2.1⟩, fun _ => by rw [a8.2.1]; decide⟩
  · obtain ⟨-, -, a3, -, -, -, -, -, a8, -⟩ := h8 c hc
    rw [(h7 c hc).2]
    exact ⟨a3, a8.2.2.2.2.2.1, ⟨1, by omega, a8.2.1⟩, fun _ => by rw [a8.2.1]; decide⟩
theorem kAnT_hits {n : Nat} {Q : Nat → CS} (h : ∀ c, c < 6 → V c 12 = (kAn G W kf n 0 (Q c) 0).2) : ∀ (m : Nat) (x : Int32), m ≤ 6 → qHits V m x = kAnT G W kf n Q m x
  | 0, x, _ => rfl
  | m + 1, x, hm => by
    show qHits V m (x + V (5 - m) 12) = kAnT G W kf n Q m (x + (kAn G W kf n 0 (Q (5 - m)) 0).2)
    rw [h (5 - m) (by omega)]
    exact kAnT_hits h m _ (by omega)
/-- replay() -/
theorem RB_replay (h : RB kf fs W n T H V) : ∃ V', qRep H kf (fun _ => 0) n n (qClear 6 V) = some V' ∧ RS H kf n (qClear 6 V) (fun _ => 0) ∧
    qHits (qLapses (upd H 1 (H 1)) 6 V' 0).1 6 0 = kAnT T.1 W kf n (fun i => kEmpty (T.2 i) 0) 6 0 ∧
    RB kf (fun _ => 0) W n (T.1, fun i => if i < 6 then kAnew T.1 W kf n (kEmpty (T.2 i) 0) else T.2 i) (upd H 1 (H 1)) (qLapses (upd H 1 (H 1)) 6 V' 0).1 := by
  have hRS := RB_RS h
  obtain ⟨h1, h2, h3, h4, h5, h6, h7, h8⟩ := h
  have hc := RQ_clear (kf' := kf) h8
  have hc' : RQ kf (fun _ => 0) 0 (fun i => kEmpty (T.2 i) 0) (qClear 6 V) := RQ_cg hc (fun c hc => if_pos hc)
  obtain ⟨V', v1, v2⟩ := RQ_rep h1 h5 (fun i hi => ⟨(h6 i hi).1, (h6 i hi).2.2.2.1, (h6 i hi).2.2.2.2⟩) n 0 _ _ (by omega) hc'
  have eH : upd H 1 (H 1) = H := upd_id rfl
  have hl := RQ_lapses (x := T.1 0 4) (H := upd H 1 (H 1)) (by rw [upd_s, h4]) 6 _ V' 0 (Nat.le_refl _) v2
  have hf : RQ kf (fun _ => 0) n (fun i => if i < 6 then kAnew T.1 W kf n (kEmpty (T.2 i) 0) else T.2 i) (qLapses (upd H 1 (H 1)) 6 V' 0).1 := RQ_cg hl.1 (fun c hc => by
    rw [kLapses_c hc]
    exact (if_pos hc).symm)
  refine ⟨V', v1, ⟨hRS.1, hRS.2.1, h1, h3, fun u hu => ?_⟩, ?_, h1, h2, by rw [eH]; exact h3, by rw [eH]; exact h4, by rw [eH]; exact h5, by rw [eH]; exact h6, fun _ _ => ⟨rfl, rfl⟩, hf⟩
  · obtain ⟨a1, a2, a3, a4⟩ := RQ_u hc (fun _ _ => ⟨rfl, rfl⟩) u hu
    exact ⟨Nat.zero_le _, a2, a3, a4⟩
  · refine kAnT_hits (fun c hc => ?_) 6 0 (Nat.le_refl _)
    have a1 := (hf c hc).1.2.2.2.2.2.2.2.2.2.2.1.1 0 (by omega)
    have a0 : (if c < 6 then kAnew T.1 W kf n (kEmpty (T.2 c) 0) else T.2 c) = kAnew T.1 W kf n (kEmpty (T.2 c) 0) := if_pos hc
    have a1' : (if c < 6 then kAnew T.1 W kf n (kEmpty (T.2 c) 0) else T.2 c).1 7 0 = (qLapses (upd H 1 (H 1)) 6 V' 0).1 c 12 := a1
    rw [← a1', a0]
    show (kLapseAt (T.1 0 4) (kAn T.1 W kf n 0 (kEmpty (T.2 c) 0) 0).1).1.1 7 0 = _
    rw [c70_lapseAt]
    have a2 := kAn_70 (G := T.1) (W := W) (kf := kf) n 0 (kEmpty (T.2 c) 0) 0
    rw [(kE_r (S := T.2 c) (fed := 0)).1 0 (by omega), Int32.add_zero, Int32.zero_add] at a2
    exact a2.symm
end Rr'
