/-! THE RELATION: the one that goes, by all rules but second chance -/
/-- how often and when asked, in order -/
def FW (S : CS) (A B : Nat → Int32) : Prop := ∀ i j, i < 26 → j < 26 → decide (S.2 12 i < S.2 12 j) = (decide (A i < A j) || (decide (A i = A j) && decide (B i < B j)))
def LN (Q : (Nat → Int32) × (Nat → Int32)) (ln : Int32) : Prop := ln = if Q.2 1 < Q.1 1 then 1 else 0
section Rg'
variable {N L : Nat} {Q : (Nat → Int32) × (Nat → Int32)} {S S' : CS} {H U U' A B : Nat → Int32} {k i j t y w r : Nat} {kz kc kw : Nat → Int32} {W : Nat → Nat} {v x set these beyond ln : Int32} {kept : Option Nat} {can : Nat → Bool}
theorem FW_p (h : FW S A B) (g : Kp S S') : FW S' A B := by
  unfold FW
  rw [g.2.2.2.2.2.2.2]
  exact h
theorem qYsum_e (hh : HB (S.1 0 5) U 24) (ho : RO' (S.1 0 5) (S.1 0 8) U) (hK : KY kz kc kw W H) : ∀ (n : Nat) (acc : Int32), n ≤ 26 → pSum (S.1 0 5 &&& (S.1 0 8 ^^^ -1)) kz n acc = qYsum H U n acc
  | 0, _, _ => rfl
  | n + 1, acc, hn => by
    have hk : 25 - n < 26 := by omega
    show pSum (S.1 0 5 &&& (S.1 0 8 ^^^ -1)) kz n (if bt (S.1 0 5 &&& (S.1 0 8 ^^^ -1)) (25 - n) = true then acc + kz (25 - n) else acc) = qYsum H U n (acc + if U (24 + (25 - n)) = 1 then (if U (232 + (25 - n)) = 1 then H (2 + (25 - n)) else 0) else 0)
    rw [qYsum_e hh ho hK n _ (by omega)]
    congr 1
    obtain ⟨⟨m, -, -, m1, m2⟩, -⟩ := hK (25 - n) hk
    rw [bt_not (by omega), m1, m2]
    have h1 := HB_1 hh hk
    by_cases c : bt (S.1 0 5) (25 - n) = true
    · rw [if_pos (c := U (24 + (25 - n)) = 1) (h1.mpr c), c, Bool.true_and, ho.2.2 _ hk c]
      cases bt (S.1 0 8) (25 - n)
      · rw [if_pos (by decide), if_pos (by decide)]
      · rw [if_neg (by decide), if_neg (by decide), Int32.add_zero]
    · have c' : bt (S.1 0 5) (25 - n) = false := by simpa using c
      rw [if_neg (c := U (24 + (25 - n)) = 1) (fun e => c (h1.mp e)), c', Bool.false_and, if_neg (by decide), Int32.add_zero]
/-- the first of a set, by an order alike -/
theorem lO_q {rk : Nat → Int64} {lt : Nat → Nat → Bool} (hc : ∀ k, k < 26 → bt these k = can k) (hl : ∀ i j, i < 26 → j < i → can i = true → can j = true → decide (rk i < rk j) = lt i j) : lO these rk = qFst can lt 26 none :=
  qFst_cg0 hc (fun i j hi hj a b => hl i j hi hj (by rw [← hc i hi]; exact a) (by rw [← hc j (by omega)]; exact b))
theorem queues_eq (h : RX N L Q S U) (hN : N < 2147483648) (hL : L < 2147483648) (hK : KY kz kc kw W H) (hs : KS these) (hc : ∀ k, k < 26 → bt these k = can k) (hh : ∀ k, k < 26 → can k = true → bt (S.1 0 5) k = true) (h4 : U 0 = 4) :
    (if these &&& (S.1 0 8 ^^^ -1) = 0 then lO (these &&& S.1 0 8) (S.2 3) else if pMax1 (S.1 0 1) < pSum (S.1 0 5 &&& (S.1 0 8 ^^^ -1)) kz 26 0 ∨ these &&& S.1 0 8 = 0 then lO (these &&& (S.1 0 8 ^^^ -1)) (S.2 4) else lO (these &&& S.1 0 8) (S.2 3)) = qQueues H U A B can := by
  obtain ⟨h1, h2, h3, h4', h5, h6, h7, h8, h9, ⟨c, q, b1, b2, b3, b4, b5, b6, b7⟩, -⟩ := h
  have ky : KS (these &&& (S.1 0 8 ^^^ -1)) := KS_and hs
  have ka : KS (these &&& S.1 0 8) := KS_and hs
  have hy : lO (these &&& (S.1 0 8 ^^^ -1)) (S.2 4) = qFst (qYoung U 1 can) (qAhead U A B 2) 26 none := by
    refine lO_q (fun k hk => ?_) (fun i j hi hj ci cj => ?_)
    · unfold qYoung
      rw [bt_not (by omega), hc k hk]
      cases e : can k
      · rfl
      · rw [h6.2.2 k hk (hh k hk e)]
        cases bt (S.1 0 8) k <;> rfl
    · have ai : can i = true := ((Bool.and_eq_true _ _).mp ci).1
      have aj : can j = true := ((Bool.and_eq_true _ _).mp cj).1
      rw [ISO_dec b6 (by omega) (by omega) hi (by omega) (hh i hi ai) (hh j (by omega) aj)]
      unfold SP
      rw [if_neg (by rw [h4]; decide), if_neg (by rw [h4]; decide)]
      rfl
  have ho : lO (these &&& S.1 0 8) (S.2 3) = qFst (qYoung U 0 can) (qAhead U A B 0) 26 none := by
    refine lO_q (fun k hk => ?_) (fun i j hi hj ci cj => ?_)
    · unfold qYoung
      rw [b_and, hc k hk]
      cases e : can k
      · rfl
      · rw [h6.2.2 k hk (hh k hk e)]
        cases bt (S.1 0 8) k <;> rfl
    · have ai : can i = true := ((Bool.and_eq_true _ _).mp ci).1
      have aj : can j = true := ((Bool.and_eq_true _ _).mp cj).1
      rw [ISO_dec b5 (by omega) (by omega) hi (by omega) (hh i hi ai) (hh j (by omega) aj)]
      rfl
  have hab : (pMax1 (S.1 0 1) < pSum (S.1 0 5 &&& (S.1 0 8 ^^^ -1)) kz 26 0) = ((if 1 < U 1 / 4 then U 1 / 4 else 1) < qYsum H U 26 0) := by
    rw [qYsum_e h2 h6 hK 26 0 (Nat.le_refl _)]
    unfold pMax1
    rw [h1.1 1 (by omega)]
  unfold qQueues
  dsimp only
  rw [← hy, ← ho]
  have ny := lO_none (r := S.2 4) ky
  have na := lO_none (r := S.2 3) ka
  generalize (if 1 < U 1 / 4 then U 1 / 4 else 1) = mm at hab ⊢
  by_cases cy : these &&& (S.1 0 8 ^^^ -1) = 0
  · have e1 := ny.mpr cy
    rw [if_pos cy]
    by_cases cb : mm < qYsum H U 26 0
    · rw [if_pos cb, if_pos e1]
    · rw [if_neg cb, if_pos e1]
  · have e1 : ¬ lO (these &&& (S.1 0 8 ^^^ -1)) (S.2 4) = none := fun e => cy (ny.mp e)
    rw [if_neg cy]
    by_cases ca : these &&& S.1 0 8 = 0
    · have e2 := na.mpr ca
      rw [if_pos (Or.inr ca)]
      by_cases cb : mm < qYsum H U 26 0
      · rw [if_pos cb, if_neg e1]
      · rw [if_neg cb, if_neg e1, if_pos e2]
    · have e2 : ¬ lO (these &&& S.1 0 8) (S.2 3) = none := fun e => ca (na.mp e)
      by_cases cb : mm < qYsum H U 26 0
      · rw [if_pos (Or.inl (hab.mpr cb)), if_pos cb, if_neg e1]
      · rw [if_neg (fun e => e.elim (fun e => cb (hab.mp e)) ca), if_neg cb, if_neg e1, if_neg e2]
theorem choose_eq (h : RX N L Q S U) (hN : N < 2147483648) (hL : L < 2147483648) (hK : KY kz kc kw W H) (hF : FW S A B) (hln : LN Q ln) (hs : KS these) (hc : ∀ k, k < 26 → bt these k = qCan H U y kept k) (h3 : U 0 ≠ 3) : kChO kz S these = qGo H U A B ln y kept := by
  have h0 := h
  obtain ⟨h1, h2, -, -, -, h6, h7, -, h9, ⟨c, q, b1, b2, b3, b4, b5, b6, b7⟩, -, q1, q2⟩ := h
  have hh : ∀ k, k < 26 → qCan H U y kept k = true → bt (S.1 0 5) k = true := fun k hk e => (qCan_held h2 hk e).1
  obtain ⟨r, hr, e0⟩ := h1.2.2.2.1
  have e0' : S.1 0 0 = nI r := (h1.1 0 (by omega)).trans e0
  have tI : (S.1 0 0).toInt = (r : Int) := by rw [e0', lt_iT (by omega)]
  have used : lO these (S.2 3) = qFst (qCan H U y kept) (qAhead U A B 0) 26 none := lO_q hc (fun i j hi hj ci cj => by
    rw [ISO_dec b5 (by omega) (by omega) hi (by omega) (hh i hi ci) (hh j (by omega) cj)]
    rfl)
  have fewest : lO these (S.2 12) = qFst (qCan H U y kept) (qAhead U A B 1) 26 none := lO_q hc (fun i j hi hj ci cj => by
    rw [hF i j hi (by omega)]
    rfl)
  unfold kChO
  rw [tI]
  have hcase : r = 0 ∨ r = 1 ∨ r = 2 ∨ r = 3 ∨ r = 4 ∨ r = 5 ∨ r = 6 := by omega
  rcases hcase with rfl | rfl | rfl | rfl | rfl | rfl | rfl
  · rw [if_neg (by decide), if_neg (by decide), if_neg (by decide), if_neg (by decide), if_neg (by decide), if_neg (by decide)]
    unfold qGo qRule
    rw [e0, if_neg (by decide), if_neg (by decide)]
    exact used
  · rw [if_pos (by decide)]
    unfold qGo qRule
    rw [e0, if_neg (by decide), if_neg (by decide)]
    exact fewest
  · rw [if_neg (by decide), if_pos (by decide)]
    unfold qGo qRule
    rw [e0, if_neg (by decide), if_neg (by decide)]
    refine lO_q hc (fun i j hi hj ci cj => ?_)
    rw [ISO_dec b6 (by omega) (by omega) hi (by omega) (hh i hi ci) (hh j (by omega) cj)]
    unfold SP
    rw [if_neg h3, if_neg h3]
    rfl
  · exact absurd e0 h3
  · rw [if_neg (by decide), if_neg (by decide), if_neg (by decide), if_pos (by decide)]
    unfold qGo
    rw [if_pos (c := U 0 = 4) e0]
    exact queues_eq h0 hN hL hK hs hc hh e0
  · rw [if_neg (by decide), if_neg (by decide), if_neg (by decide), if_neg (by decide), if_pos (by decide)]
    unfold qGo qRule
    rw [e0, if_neg (by decide), if_neg (by decide)]
    refine lO_q hc (fun i j hi hj ci cj => ?_)
    obtain ⟨l, l1, l2, l3⟩ := h9.2 i hi (hh i hi ci)
    obtain ⟨m, m1, m2, m3⟩ := h9.2 j (by omega) (hh j (by omega) cj)
    show _ = (decide (U (284 + i) < U (284 + j)) || (decide (U (284 + i) = U (284 + j)) && decide (i < j)))
    rw [l2, l3, m2, m3, decide_eq_false (p := i < j) (by omega), Bool.and_false, Bool.or_false]
    refine decide_eq_decide.mpr ?_
    rw [L64_lt (by omega) (by omega), lt_iL (by omega) (by omega)]
  · rw [if_neg (by decide), if_neg (by decide), if_neg (by decide), if_neg (by decide), if_neg (by decide), if_pos (by decide)]
    unfold qGo qRule
    rw [e0, if_neg (c := nI 6 = 4) (by decide), if_pos (c := nI 6 = 6) (by decide), hln, q1, q2]
    by_cases d : Q.2 1 < Q.1 1
    · rw [if_pos d, if_pos d]
      exact fewest
    · rw [if_neg d, if_neg d]
      exact used
end Rg'
