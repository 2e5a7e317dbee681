/-! THE RELATION: the victim */ -/
section Rs'
variable {N L : Nat} {Q : (Nat → Int32) × (Nat → Int32)} {S S' : CS} {T : BT} {H U U1 U2 U' A B P m : Nat → Int32} {V V' : Nat → Nat → Int32} {c k i j t e w r q n a g f b R y : Nat} {kz kc kw : Nat → Int32} {W kf kf' fs : Nat → Nat} {room x z v these s s' set ln st : Int32} {rk rk' : Nat → Int64} {kept : Option Nat} {can : Nat → Bool}
theorem lO_same (h : ∀ k, k < 26 → bt s k = true → rk k = rk' k) : lO s rk = lO s rk' := qFst_cg0 (fun _ _ => rfl) (fun i j hi hj ci cj => by rw [h i hi ci, h j (by omega) cj])
/-- the one that would go by second chance -/
def kCand (S : CS) (these : Int32) : Option Nat := if these &&& (S.1 0 7 ^^^ -1) = 0 then lO these (S.2 4) else lO (these &&& (S.1 0 7 ^^^ -1)) (S.2 4)
theorem cand_turn1 (h : RX N L Q S U) (hN : N + 1 < 2147483648) (hs : KS these) (hh : ∀ k, k < 26 → bt these k = true → bt (S.1 0 5) k = true) (hf : lO (S.1 0 5) (S.2 4) = some f) (hst : (these &&& (S.1 0 7 ^^^ -1)) &&& bb f = 0) : kCand (kTurn1 S these f) these = kCand S these := by
  obtain ⟨h1, h2, -, h4, -, -, -, -, -, ⟨c, q, b1, b2, b3, b4, -, b6, -⟩, -⟩ := h
  obtain ⟨f1, f2⟩ := lO_lt f hf
  have e7 : (kTurn1 S these f).1 0 7 = S.1 0 7 &&& ((these &&& bb f) ^^^ -1) := rfl
  have e4 : (kTurn1 S these f).2 4 = u2 S.2 4 f (Int32.toInt64 (S.1 0 12 + 1)) 4 := rfl
  have ec : S.1 0 12 + 1 = nI (c + 1) := by rw [b1]; exact lt_iA (j := c) (k := 1)
  have ho : ∀ k, k ≠ f → u2 S.2 4 f (Int32.toInt64 (S.1 0 12 + 1)) 4 k = S.2 4 k := fun k hk => z2_n2 hk
  unfold kCand
  rw [e7, e4]
  by_cases d : bt these f = true
  · have hm : bt (S.1 0 7) f = true := by
      have := (bt_and_bb f1).mp hst
      rw [bt_not (by omega), d] at this
      cases e : bt (S.1 0 7) f
      · rw [e] at this; cases this
      · rfl
    have hu : ∀ k, k < 26 → bt (these &&& ((S.1 0 7 &&& ((these &&& bb f) ^^^ -1)) ^^^ -1)) k = (bt (these &&& (S.1 0 7 ^^^ -1)) k || decide (k = f)) := fun k hk => by
      rw [bt_not (by omega), bt_not (by omega), bt_not (by omega), b_and, bt_bb (by omega) (by omega)]
      by_cases e : k = f
      · rw [e, d, hm, decide_eq_true rfl]; rfl
      · rw [decide_eq_false e]
        cases bt these k <;> cases bt (S.1 0 7) k <;> rfl
    have hfu : bt (these &&& ((S.1 0 7 &&& ((these &&& bb f) ^^^ -1)) ^^^ -1)) f = true := by rw [hu f f1, decide_eq_true rfl, Bool.or_true]
    have hne : these &&& ((S.1 0 7 &&& ((these &&& bb f) ^^^ -1)) ^^^ -1) ≠ 0 := fun e => by rw [e, b_0] at hfu; cases hfu
    have hks : KS (these &&& ((S.1 0 7 &&& ((these &&& bb f) ^^^ -1)) ^^^ -1)) := KS_and hs
    rw [if_neg hne]
    by_cases u0 : these &&& (S.1 0 7 ^^^ -1) = 0
    · rw [if_pos u0, lO_part b6 (by omega) hf hs hh d]
      have only : ∀ k, k < 26 → bt (these &&& ((S.1 0 7 &&& ((these &&& bb f) ^^^ -1)) ^^^ -1)) k = true → k = f := fun k hk hb => by
        rw [hu k hk, u0, b_0, Bool.false_or] at hb
        exact of_decide_eq_true hb
      cases e : lO (these &&& ((S.1 0 7 &&& ((these &&& bb f) ^^^ -1)) ^^^ -1)) (u2 S.2 4 f (Int32.toInt64 (S.1 0 12 + 1)) 4) with
      | none => exact absurd ((lO_none hks).mp e) hne
      | some p =>
        obtain ⟨p1, p2⟩ := lO_lt p e
        rw [only p p1 p2]
    · rw [if_neg u0]
      cases e : lO (these &&& (S.1 0 7 ^^^ -1)) (S.2 4) with
      | none => exact absurd ((lO_none (KS_and hs)).mp e) u0
      | some p =>
        obtain ⟨p1, p2⟩ := lO_lt p e
        have pt : bt these p = true := by rw [b_and] at p2; exact ((Bool.and_eq_true _ _).mp p2).1
        have pf : p ≠ f := fun q => by rw [q, bt_not (by omega), hm] at p2; simp at p2
        have ph := hh p p1 pt
        cases e' : lO (these &&& ((S.1 0 7 &&& ((these &&& bb f) ^^^ -1)) ^^^ -1)) (u2 S.2 4 f (Int32.toInt64 (S.1 0 12 + 1)) 4) with
        | none => exact absurd ((lO_none hks).mp e') hne
        | some q' =>
          obtain ⟨q1, q2⟩ := lO_lt q' e'
          have pin : bt (these &&& ((S.1 0 7 &&& ((these &&& bb f) ^^^ -1)) ^^^ -1)) p = true := by rw [hu p p1, p2, Bool.true_or]
          have mn := lO_min e' p1 pin
          rw [ho p pf] at mn
          have hb6 := b6
          obtain ⟨aa, bb', x1, -⟩ := b6
          obtain ⟨y1, y2, -, -⟩ := x1 p p1 ph
          by_cases qf : q' = f
          · rw [qf, z2_eq, ec, y1, L64 (by omega), L64 (by omega)] at mn
            omega
          · rw [ho q' qf] at mn
            have qu : bt (these &&& (S.1 0 7 ^^^ -1)) q' = true := by
              rw [hu q' q1, decide_eq_false qf, Bool.or_false] at q2
              exact q2
            have qt : bt these q' = true := by rw [b_and] at qu; exact ((Bool.and_eq_true _ _).mp qu).1
            have mn2 := lO_min e q1 qu
            have := ISO_injr hb6 (by omega) q1 p1 (hh q' q1 qt) ph (by omega)
            rw [this]
  · have d' : bt these f = false := by simpa using d
    have z0 : these &&& bb f = 0 := (bt_and_bb f1).mpr d'
    have e7' : S.1 0 7 &&& ((these &&& bb f) ^^^ -1) = S.1 0 7 := by
      rw [z0]
      refine KS_ext (KS_and h4.1) h4.1 (fun k hk => ?_)
      rw [bt_not (by omega), b_0, Bool.not_false, Bool.and_true]
    rw [e7']
    have hne : ∀ k, bt these k = true → k ≠ f := fun k hb e => by rw [e, d'] at hb; cases hb
    split
    · exact lO_same (fun k _ hb => ho k (hne k hb))
    · refine lO_same (fun k _ hb => ho k (hne k ?_))
      rw [b_and] at hb
      exact ((Bool.and_eq_true _ _).mp hb).1
theorem cand_turn (hs : KS these) (hh : ∀ k, k < 26 → bt these k = true → bt set k = true) : ∀ (n N : Nat) (S : CS) (U : Nat → Int32), RX N L Q S U → U 0 = 3 → S.1 0 5 = set → N + n < 2147483648 → kCand (kTurn these n S) these = kCand S these
  | 0, _, _, _, _, _, _, _ => rfl
  | n + 1, N, S, U, h, h3, hset, hN => by
    have ek : kTurn these (n + 1) S = match lO set (S.2 4) with
        | none => S
        | some j => if (these &&& (S.1 0 7 ^^^ -1)) &&& bb j = 0 then kTurn these n (kTurn1 S these j) else S := by rw [← hset]; rfl
    rw [ek]
    cases e : lO set (S.2 4) with
    | none => rfl
    | some f =>
      obtain ⟨f1, f2⟩ := lO_lt f e
      dsimp only
      by_cases d : (these &&& (S.1 0 7 ^^^ -1)) &&& bb f = 0
      · rw [if_pos d]
        have r1 := RX_turn1 (these := these) h h3 f1 (by rw [hset]; exact f2) (by omega)
        rw [cand_turn hs hh n (N + 1) _ _ r1 ?_ hset (by omega)]
        · exact cand_turn1 h (by omega) hs (by rw [hset]; exact hh) (by rw [hset]; exact e) d
        · rw [upd_o (by omega), upd_o (by omega)]
          split
          · rw [upd_o (by omega)]; exact h3
          · exact h3
      · rw [if_neg d]
/-- the one that goes by second chance, without a turn -/
theorem victim3 (h : RX N L Q S U) (hN : N + 53 < 2147483648) (h3 : U 0 = 3) (hs : KS these) (hcan : ∀ k, k < 26 → bt these k = can k) (hh : ∀ k, k < 26 → can k = true → bt (S.1 0 5) k = true) (hg : g < 26) (hcg : can g = true) :
    ∃ f P' m' st', qTurn U can 60 (fun k => U (102 + k)) (fun k => U (206 + k)) (U 10) = some (f, P', m', st') ∧ kChO kz S these = some f := by
  have hbk : RX N L Q S (qBack U (fun k => U (102 + k)) (fun k => U (206 + k)) (U 10)) := by rw [qBack_id]; exact h
  have hle : tLeft (S.1 0 5) (fun k => U (102 + k)) (fun k => U (206 + k)) g < 52 := by
    unfold tLeft tRank
    dsimp only
    have a1 := nK_lt (f := fun j => bt (S.1 0 5) j && decide (U (102 + j) < U (102 + g))) (j := g) (n := 26) hg (by
      show (bt (S.1 0 5) g && decide (U (102 + g) < U (102 + g))) = false
      rw [lt_self, Bool.and_false]) 26 hg
    have a2 := nK_le (f := bt (S.1 0 5)) 26
    split <;> omega
  obtain ⟨f, P', m', st', t1, t2, t3, t4, t5, t6, t7⟩ := turn_eq (these := these) (can := can) (set := S.1 0 5) hg hcg hcan hh 52 60 N S _ _ _ hbk h3 rfl hle (by omega) (by omega)
  refine ⟨f, P', m', st', t1, ?_⟩
  have hh' : ∀ k, k < 26 → bt these k = true → bt (S.1 0 5) k = true := fun k hk hb => hh k hk (by rw [← hcan k hk]; exact hb)
  have hm : bt ((kTurn these 52 S).1 0 7) f = false := by
    have := t5.2.2.2.1.2 f t2
    rw [qBack_m t2, t4] at this
    cases d : bt ((kTurn these 52 S).1 0 7) f
    · rfl
    · rw [d] at this; cases this
  have bf : bt (these &&& ((kTurn these 52 S).1 0 7 ^^^ -1)) f = true := by rw [bt_not (by omega), hcan f t2, t3, hm]; rfl
  obtain ⟨c, q, -, -, b3, b4, -, b6, -⟩ := t5.2.2.2.2.2.2.2.2.2.1
  rw [t6] at b6
  have hlO : lO (these &&& ((kTurn these 52 S).1 0 7 ^^^ -1)) ((kTurn these 52 S).2 4) = some f := lO_part b6 (by omega) t7 (KS_and hs) (fun k hk hb => by
    rw [bt_not (by omega)] at hb
    exact hh' k hk ((Bool.and_eq_true _ _).mp hb).1) bf
  have hc : kCand (kTurn these 52 S) these = some f := by
    unfold kCand
    rw [if_neg (fun e => by rw [e, b_0] at bf; cases bf)]
    exact hlO
  rw [cand_turn hs hh' 52 N S U h h3 rfl (by omega)] at hc
  have q0 : (S.1 0 0).toInt = 3 := by rw [h.1.1 0 (by omega), h3]; rfl
  unfold kChO
  rw [q0, if_neg (by decide), if_neg (by decide), if_pos (by decide)]
  exact hc
/-- nobody goes -/
theorem none_eq (h : RX N L Q S U) (hK : KY kz kc kw W H) (hk : k < 26) : kNoVictim kz S k = qNone H U k := by
  unfold kNoVictim qNone
  obtain ⟨⟨m, -, -, m1, m2⟩, -⟩ := hK k hk
  have hb := HB_1 h.2.1 hk
  rw [h.1.1 1 (by omega), m1, m2, all_sum h.2.1 hK]
  congr 2
  cases e : bt (S.1 0 5) k
  · exact (decide_eq_false (fun q => by rw [hb.mp q] at e; cases e)).symm
  · exact (decide_eq_true (hb.mpr e)).symm
theorem these_none : kThese S none = S.1 0 5 := by
  show S.1 0 5 &&& (0 ^^^ -1) = _
  refine b_ext (fun i hi => ?_)
  rw [bt_not hi, b_0, Bool.not_false, Bool.and_true]
/-- the victim -/
theorem victim_eq (h : RX N L Q S U) (hN : N + 53 < 2147483648) (hL : L < 2147483648) (hK : KY kz kc kw W H) (hF : FW S A B) (hln : LN Q ln) (hk : k < 26) (hno : qNone H U k = false) :
    (U 0 ≠ 3 → kChO kz S (kGo kz kw W S (S.1 0 5) k) = qGo H U A B ln k none) ∧
    (U 0 = 3 → ∃ f P' m' st', qTurn U (qCan H U k none) 60 (fun k => U (102 + k)) (fun k => U (206 + k)) (U 10) = some (f, P', m', st') ∧ kChO kz S (kGo kz kw W S (S.1 0 5) k) = some f) := by
  have hb : bt (S.1 0 5) k = false := by
    unfold qNone at hno
    cases e : bt (S.1 0 5) k
    · rfl
    · rw [decide_eq_true ((HB_1 h.2.1 hk).mpr e)] at hno
      simp at hno
  obtain ⟨⟨m, -, -, m1, m2⟩, -⟩ := hK k hk
  have hsz : ¬ U 1 < H (2 + k) ∧ U 1 < qUnits H U (-1) 26 0 + H (2 + k) := by
    unfold qNone at hno
    simp only [Bool.or_eq_false_iff, Bool.not_eq_false', decide_eq_false_iff_not, decide_eq_true_eq] at hno
    exact ⟨hno.1.2, hno.2⟩
  obtain ⟨hs, hc⟩ := can_eq (W := W) (kept := none) h.1 h.2.1 hK hk hb (fun j e => by cases e)
  have hne : kThese S none ≠ 0 := fun e => by
    rw [these_none] at e
    have := all_sum h.2.1 hK
    rw [e, pSum_0] at this
    rw [← this, Int32.zero_add] at hsz
    exact hsz.1 hsz.2
  obtain ⟨g, g1, g2⟩ := can_some (W := W) h.1 h.2.1 hK hk hb (fun j e => by cases e) hne
  rw [these_none] at hs hc
  refine ⟨fun h3 => choose_eq h (by omega) hL hK hF hln hs hc h3, fun h3 => ?_⟩
  exact victim3 h hN h3 hs hc (fun j hj hcj => (qCan_held h.2.1 hj hcj).1) g1 g2
end Rs'
