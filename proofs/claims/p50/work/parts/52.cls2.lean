/-! THE CLASS, a Cache as a window: keys put out -/
def lO (s : Int32) (r : Nat → Int64) : Option Nat := qFst (fun k => bt s k) (fun i j => decide (r i < r j)) 26 none
def obb : Option Nat → Int32
  | none => 0
  | some k => bb k
section Co
variable {M : LM} {C K R k i j t : Nat} {S : CS} {v x : Int32} {y : Int64} {z : Option (LO × LM)} {s : Int32} {r : Nat → Int64}
theorem pLeast_qFst : ∀ (n : Nat) (b : Option Nat) (fr : Int64), n ≤ 26 → (∀ j, b = some j → j < 26 ∧ fr = r j) → pLeast s r 26 n (oI b) fr = oI (qFst (fun k => bt s k) (fun i j => decide (r i < r j)) n b)
  | 0, b, fr, _, _ => rfl
  | n + 1, b, fr, hn, hb => by
    have hk : 26 - (n + 1) = 25 - n := by omega
    have ih := fun b fr hb => pLeast_qFst n b fr (by omega) hb
    show _ = oI (qFst _ _ n (if bt s (25 - n) = true then qStep _ (25 - n) b else b))
    unfold pLeast
    rw [hk]
    by_cases c : bt s (25 - n) = true
    · rw [if_pos c, if_pos c]
      have h1 := ih (some (25 - n)) (r (25 - n)) (fun j e => by cases e; exact ⟨by omega, rfl⟩)
      rw [oI_s] at h1
      cases b with
      | none =>
        rw [if_pos oI_n, h1]
        rfl
      | some j =>
        obtain ⟨hj, hf⟩ := hb j rfl
        rw [oI_s, if_neg (by rw [nI_ne1 (by omega)]; exact id), hf]
        show _ = oI (qFst _ _ n (if decide (r (25 - n) < r j) = true then some (25 - n) else some j))
        by_cases q : r (25 - n) < r j
        · rw [if_pos q, if_pos (decide_eq_true q), h1]
        · rw [if_neg q, if_neg (by rw [decide_eq_false q]; decide)]
          have h2 := ih (some j) (r j) (fun j' e => by cases e; exact ⟨hj, rfl⟩)
          rw [oI_s] at h2
          exact h2
    · rw [if_neg c, if_neg c]
      exact ih b fr hb
theorem pLst_lO : pLst s r = oI (lO s r) := pLeast_qFst 26 none 0 (Nat.le_refl _) (fun j e => by cases e)
theorem lO_lt : ∀ j, lO s r = some j → j < 26 ∧ bt s j = true := qFst_can 26 none (Nat.le_refl _) (fun j e => by cases e)
theorem k_bitO (d : Nat) {b : Option Nat} (hb : ∀ j, b = some j → j < 26) : f_X10_bit (d + 1) M (oI b) = some (.inl (some (.int (obb b))), M) := by
  cases b with
  | none => rw [e_X10_bit, if_pos (by decide)]; rfl
  | some j => exact s10_bit d (hb j rfl)
/-- the queue turned -/
def kTurn1 (S : CS) (these : Int32) (j : Nat) : CS := cwl (cwi (cwi S 0 7 (S.1 0 7 &&& ((these &&& bb j) ^^^ -1))) 0 12 (S.1 0 12 + 1)) 4 j (Int32.toInt64 (S.1 0 12 + 1))
def kTurn (these : Int32) : Nat → CS → CS
  | 0, S => S
  | n + 1, S => match lO (S.1 0 5) (S.2 4) with
    | none => S
    | some j => if (these &&& (S.1 0 7 ^^^ -1)) &&& bb j = 0 then kTurn these n (kTurn1 S these j) else S
theorem k_turn_2 (d : Nat) (h : cA M C) {these : Int32} : ∀ (n : Nat) (S : CS), n ≤ 52 → f_X1_turnQueue_2 (d + 2) (cM M C S) C these (nI (52 - n)) = some (.inl none, cM M C (kTurn these n S))
  | 0, S, _ => by
    rw [e_X1_turnQueue_2, if_neg (by decide)]
    rfl
  | n + 1, S, hn => by
    have g1 : nI (52 - (n + 1)) = nI (51 - n) := by congr 1; omega
    have g2 : nI (51 - n) + 1 = nI (52 - n) := by
      rw [show nI (51 - n) + 1 = nI (51 - n + 1) from lt_iA (j := 51 - n) (k := 1)]
      congr 1
      omega
    have g3 : nI (51 - n) < (52 : Int32) := (lt_iL (j := 51 - n) (k := 52) (by omega) (by omega)).mpr (by omega)
    have hl := lO_lt (s := S.1 0 5) (r := S.2 4)
    have ih := fun S => k_turn_2 d h (these := these) n S (by omega)
    rw [g1, e_X1_turnQueue_2, if_pos g3]
    unfold kTurn
    cases hq : lO (S.1 0 5) (S.2 4) with
    | none =>
      have e1 : (-1 : Int32) = oI none := rfl
      have eb : ∀ (d : Nat) (M : LM), f_X10_bit (d + 1) M (-1) = some (.inl (some (.int 0)), M) := fun d M => k_bitO (b := none) d (fun j e => by cases e)
      have e0 : ∀ x : Int32, x &&& 0 = 0 := fun x => Int32.and_zero
      simp (maxSteps := 1000000) (disch := first | assumption | omega) only [Bool.false_eq_true, Int.reduceEq, x_rf, x_m, lt_bv_r, lt_bi_r, lt_bl_r, ↓k_ck, k_ck6, k_ck13, k_ck14, cI0, cIt, cL0, cLt, cwI0, cwIt, cwL0, cwLt, cwi_1, cwi_2, cwl_1, cwl_2, z2_eq, z2_n1, z2_n2, lt_iN, lt_b1_0, lt_b1_1, x_if1, x_eq1, x_10, x_01, x_11, x_00, ↓reduceIte, s10_bit, s10_has, c_pop, j_max, j_min, k_p4, k_p13, k_p14, k_p15, k_p16, k_p17, k_p18, k_p19, k_q0, k_q1, k_q2, k_q3, k_q4, k_q5, k_at1, k_put1, k_add1, k_ar1, k_al1, k_z1, k_at2, k_put2, k_add2, k_ar2, k_al2, k_z2, k_at7, k_put7, k_add7, k_ar7, k_al7, k_z7, k_at8, k_put8, k_add8, k_ar8, k_al8, k_z8, k_at9, k_put9, k_add9, k_ar9, k_al9, k_z9, k_at10, k_put10, k_add10, k_ar10, k_al10, k_z10, k_at1_0, k_at1_1, k_at1_2, k_at1_3, k_put1_0, k_put1_1, k_put1_2, k_put1_3, k_add7_0, k_add7_1, k_add7_2, k_add7_3, k_add7_4, k_add7_5, k_add7_6, k_add7_7, k_add7_8, k_atL3, k_putL3, k_least3, k_atL4, k_putL4, k_least4, k_atL5, k_putL5, k_least5, k_atL11, k_putL11, k_least11, k_atL12, k_putL12, k_least12, k_ckK, k_pK0, k_pK1, k_pK2, k_atK1, k_atK2, k_atK3, k_units, k_owner, k_ckR, k_pR0, k_pR1, k_pR2, k_atR1, k_atR2, k_atR3, pLst_lO, hq, oI_n, eb, e0]
    | some j =>
      have hj := (hl j hq).1
      have hne : (nI j = -1) = False := nI_ne1 (by omega)
      dsimp only
      by_cases q : (these &&& (S.1 0 7 ^^^ -1)) &&& bb j = 0
      · rw [if_pos q]
        simp (maxSteps := 1000000) (disch := first | assumption | omega) only [Bool.false_eq_true, Int.reduceEq, x_rf, x_m, lt_bv_r, lt_bi_r, lt_bl_r, ↓k_ck, k_ck6, k_ck13, k_ck14, cI0, cIt, cL0, cLt, cwI0, cwIt, cwL0, cwLt, cwi_1, cwi_2, cwl_1, cwl_2, z2_eq, z2_n1, z2_n2, lt_iN, lt_b1_0, lt_b1_1, x_if1, x_eq1, x_10, x_01, x_11, x_00, ↓reduceIte, s10_bit, s10_has, c_pop, j_max, j_min, k_p4, k_p13, k_p14, k_p15, k_p16, k_p17, k_p18, k_p19, k_q0, k_q1, k_q2, k_q3, k_q4, k_q5, k_at1, k_put1, k_add1, k_ar1, k_al1, k_z1, k_at2, k_put2, k_add2, k_ar2, k_al2, k_z2, k_at7, k_put7, k_add7, k_ar7, k_al7, k_z7, k_at8, k_put8, k_add8, k_ar8, k_al8, k_z8, k_at9, k_put9, k_add9, k_ar9, k_al9, k_z9, k_at10, k_put10, k_add10, k_ar10, k_al10, k_z10, k_at1_0, k_at1_1, k_at1_2, k_at1_3, k_put1_0, k_put1_1, k_put1_2, k_put1_3, k_add7_0, k_add7_1, k_add7_2, k_add7_3, k_add7_4, k_add7_5, k_add7_6, k_add7_7, k_add7_8, k_atL3, k_putL3, k_least3, k_atL4, k_putL4, k_least4, k_atL5, k_putL5, k_least5, k_atL11, k_putL11, k_least11, k_atL12, k_putL12, k_least12, k_ckK, k_pK0, k_pK1, k_pK2, k_atK1, k_atK2, k_atK3, k_units, k_owner, k_ckR, k_pR0, k_pR1, k_pR2, k_atR1, k_atR2, k_atR3, pLst_lO, hq, oI_s, q, hne, g2, ih]
        rfl
      · rw [if_neg q]
        simp (maxSteps := 1000000) (disch := first | assumption | omega) only [Bool.false_eq_true, Int.reduceEq, x_rf, x_m, lt_bv_r, lt_bi_r, lt_bl_r, ↓k_ck, k_ck6, k_ck13, k_ck14, cI0, cIt, cL0, cLt, cwI0, cwIt, cwL0, cwLt, cwi_1, cwi_2, cwl_1, cwl_2, z2_eq, z2_n1, z2_n2, lt_iN, lt_b1_0, lt_b1_1, x_if1, x_eq1, x_10, x_01, x_11, x_00, ↓reduceIte, s10_bit, s10_has, c_pop, j_max, j_min, k_p4, k_p13, k_p14, k_p15, k_p16, k_p17, k_p18, k_p19, k_q0, k_q1, k_q2, k_q3, k_q4, k_q5, k_at1, k_put1, k_add1, k_ar1, k_al1, k_z1, k_at2, k_put2, k_add2, k_ar2, k_al2, k_z2, k_at7, k_put7, k_add7, k_ar7, k_al7, k_z7, k_at8, k_put8, k_add8, k_ar8, k_al8, k_z8, k_at9, k_put9, k_add9, k_ar9, k_al9, k_z9, k_at10, k_put10, k_add10, k_ar10, k_al10, k_z10, k_at1_0, k_at1_1, k_at1_2, k_at1_3, k_put1_0, k_put1_1, k_put1_2, k_put1_3, k_add7_0, k_add7_1, k_add7_2, k_add7_3, k_add7_4, k_add7_5, k_add7_6, k_add7_7, k_add7_8, k_atL3, k_putL3, k_least3, k_atL4, k_putL4, k_least4, k_atL5, k_putL5, k_least5, k_atL11, k_putL11, k_least11, k_atL12, k_putL12, k_least12, k_ckK, k_pK0, k_pK1, k_pK2, k_atK1, k_atK2, k_atK3, k_units, k_owner, k_ckR, k_pR0, k_pR1, k_pR2, k_atR1, k_atR2, k_atR3, pLst_lO, hq, oI_s, q, hne]
theorem k_turn (d : Nat) (h : cA M C) {these : Int32} : f_X1_turnQueue (d + 2) (cM M C S) C these = some (.inl none, cM M C (kTurn these 52 S)) := by
  rw [e_X1_turnQueue]
  exact k_turn_2 d h 52 S (Nat.le_refl _)
/-- remembered -/
def kRem0 (S : CS) (k : Nat) : CS := cwl (cwi (cwi S 0 10 (S.1 0 10 ||| bb k)) 0 12 (S.1 0 12 + 1)) 4 k (Int32.toInt64 (S.1 0 12 + 1))
def kRem (S : CS) (k : Nat) : CS := if S.1 0 1 < pPop (S.1 0 10 ||| bb k) then cwi (kRem0 S k) 0 10 ((S.1 0 10 ||| bb k) &&& (obb (lO (S.1 0 10 ||| bb k) (u2 S.2 4 k (Int32.toInt64 (S.1 0 12 + 1)) 4)) ^^^ -1)) else kRem0 S k
theorem k_remember (d : Nat) (h : cA M C) (hk : k < 26) : f_X1_remember (d + 2) (cM M C S) C (nI k) = some (.inl none, cM M C (kRem S k)) := by
  have hl := lO_lt (s := S.1 0 10 ||| bb k) (r := u2 S.2 4 k (Int32.toInt64 (S.1 0 12 + 1)) 4)
  have eb := fun d (M : LM) => k_bitO (M := M) d (fun j e => (hl j e).1)
  rw [e_X1_remember]
  unfold kRem
  by_cases q : S.1 0 1 < pPop (S.1 0 10 ||| bb k)
  · simp (maxSteps := 1000000) (disch := first | assumption | omega) only [Bool.false_eq_true, Int.reduceEq, x_rf, x_m, lt_bv_r, lt_bi_r, lt_bl_r, ↓k_ck, k_ck6, k_ck13, k_ck14, cI0, cIt, cL0, cLt, cwI0, cwIt, cwL0, cwLt, cwi_1, cwi_2, cwl_1, cwl_2, z2_eq, z2_n1, z2_n2, lt_iN, lt_b1_0, lt_b1_1, x_if1, x_eq1, x_10, x_01, x_11, x_00, ↓reduceIte, s10_bit, s10_has, c_pop, j_max, j_min, k_p4, k_p13, k_p14, k_p15, k_p16, k_p17, k_p18, k_p19, k_q0, k_q1, k_q2, k_q3, k_q4, k_q5, k_at1, k_put1, k_add1, k_ar1, k_al1, k_z1, k_at2, k_put2, k_add2, k_ar2, k_al2, k_z2, k_at7, k_put7, k_add7, k_ar7, k_al7, k_z7, k_at8, k_put8, k_add8, k_ar8, k_al8, k_z8, k_at9, k_put9, k_add9, k_ar9, k_al9, k_z9, k_at10, k_put10, k_add10, k_ar10, k_al10, k_z10, k_at1_0, k_at1_1, k_at1_2, k_at1_3, k_put1_0, k_put1_1, k_put1_2, k_put1_3, k_add7_0, k_add7_1, k_add7_2, k_add7_3, k_add7_4, k_add7_5, k_add7_6, k_add7_7, k_add7_8, k_atL3, k_putL3, k_least3, k_atL4, k_putL4, k_least4, k_atL5, k_putL5, k_least5, k_atL11, k_putL11, k_least11, k_atL12, k_putL12, k_least12, k_ckK, k_pK0, k_pK1, k_pK2, k_atK1, k_atK2, k_atK3, k_units, k_owner, k_ckR, k_pR0, k_pR1, k_pR2, k_atR1, k_atR2, k_atR3, q, pLst_lO, eb]
    rfl
  · simp (maxSteps := 1000000) (disch := first | assumption | omega) only [Bool.false_eq_true, Int.reduceEq, x_rf, x_m, lt_bv_r, lt_bi_r, lt_bl_r, ↓k_ck, k_ck6, k_ck13, k_ck14, cI0, cIt, cL0, cLt, cwI0, cwIt, cwL0, cwLt, cwi_1, cwi_2, cwl_1, cwl_2, z2_eq, z2_n1, z2_n2, lt_iN, lt_b1_0, lt_b1_1, x_if1, x_eq1, x_10, x_01, x_11, x_00, ↓reduceIte, s10_bit, s10_has, c_pop, j_max, j_min, k_p4, k_p13, k_p14, k_p15, k_p16, k_p17, k_p18, k_p19, k_q0, k_q1, k_q2, k_q3, k_q4, k_q5, k_at1, k_put1, k_add1, k_ar1, k_al1, k_z1, k_at2, k_put2, k_add2, k_ar2, k_al2, k_z2, k_at7, k_put7, k_add7, k_ar7, k_al7, k_z7, k_at8, k_put8, k_add8, k_ar8, k_al8, k_z8, k_at9, k_put9, k_add9, k_ar9, k_al9, k_z9, k_at10, k_put10, k_add10, k_ar10, k_al10, k_z10, k_at1_0, k_at1_1, k_at1_2, k_at1_3, k_put1_0, k_put1_1, k_put1_2, k_put1_3, k_add7_0, k_add7_1, k_add7_2, k_add7_3, k_add7_4, k_add7_5, k_add7_6, k_add7_7, k_add7_8, k_atL3, k_putL3, k_least3, k_atL4, k_putL4, k_least4, k_atL5, k_putL5, k_least5, k_atL11, k_putL11, k_least11, k_atL12, k_putL12, k_least12, k_ckK, k_pK0, k_pK1, k_pK2, k_atK1, k_atK2, k_atK3, k_units, k_owner, k_ckR, k_pR0, k_pR1, k_pR2, k_atR1, k_atR2, k_atR3, q]
    rfl
/-- the one of these that goes -/
def kChO (kz : Nat → Int32) (S : CS) (these : Int32) : Option Nat :=
  if (S.1 0 0).toInt = 1 then lO these (S.2 12) else if (S.1 0 0).toInt = 2 then lO these (S.2 4)
  else if (S.1 0 0).toInt = 3 then (if these &&& (S.1 0 7 ^^^ -1) = 0 then lO these (S.2 4) else lO (these &&& (S.1 0 7 ^^^ -1)) (S.2 4))
  else if (S.1 0 0).toInt = 4 then (if these &&& (S.1 0 8 ^^^ -1) = 0 then lO (these &&& S.1 0 8) (S.2 3) else if pMax1 (S.1 0 1) < pSum (S.1 0 5 &&& (S.1 0 8 ^^^ -1)) kz 26 0 ∨ these &&& S.1 0 8 = 0 then lO (these &&& (S.1 0 8 ^^^ -1)) (S.2 4) else lO (these &&& S.1 0 8) (S.2 3))
  else if (S.1 0 0).toInt = 5 then lO these (S.2 5) else if (S.1 0 0).toInt = 6 then (if S.1 14 1 < S.1 13 1 then lO these (S.2 12) else lO these (S.2 3)) else lO these (S.2 3)
theorem kChoose_O {kz : Nat → Int32} {these : Int32} : kChoose kz S these = oI (kChO kz S these) := by
  unfold kChoose kChO
  repeat (first | exact pLst_lO | split)
theorem kChO_lt {kz : Nat → Int32} {these : Int32} : ∀ j, kChO kz S these = some j → j < 26 := by
  intro j
  unfold kChO
  repeat (first | exact fun e => (lO_lt j e).1 | split)
/-- a key put out -/
def kLevel (S : CS) (k : Nat) : CS := if S.1 0 0 = 5 then cwl S 0 11 (if S.2 0 11 < S.2 5 k then S.2 5 k else S.2 0 11) else S
def kOld (S : CS) (k : Nat) : CS := if S.1 0 0 = 4 then (if bt (S.1 0 8) k = true then S else kRem S k) else S
def kOut1 (S : CS) (k : Nat) : CS := cwi (kTake (kOld (kLevel S k) k) k) 7 2 ((kTake (kOld (kLevel S k) k) k).1 7 2 + 1)
def kOut13 (kz : Nat → Int32) (these : Int32) (S : CS) : CS := match kChO kz S these with
  | none => S
  | some k => kOut1 S k
def kOut (kz : Nat → Int32) (these : Int32) (S : CS) : CS := kOut13 kz these (if S.1 0 0 = 3 then kTurn these 52 S else S)
theorem k_out53 (d : Nat) (h : cA M C) (hk : k < 26) : f_X1_putOut_53 (d + 3) (cM M C S) C (nI k) = some (.inl none, cM M C (cwi (kTake (kOld S k) k) 7 2 ((kTake (kOld S k) k).1 7 2 + 1))) := by
  rw [e_X1_putOut_53]
  unfold kOld
  by_cases q : S.1 0 0 = 4
  · by_cases b : bt (S.1 0 8) k = true
    · simp (maxSteps := 1000000) (disch := first | assumption | omega) only [Bool.false_eq_true, Int.reduceEq, x_rf, x_m, lt_bv_r, lt_bi_r, lt_bl_r, ↓k_ck, k_ck6, k_ck13, k_ck14, cI0, cIt, cL0, cLt, cwI0, cwIt, cwL0, cwLt, cwi_1, cwi_2, cwl_1, cwl_2, z2_eq, z2_n1, z2_n2, lt_iN, lt_b1_0, lt_b1_1, x_if1, x_eq1, x_10, x_01, x_11, x_00, ↓reduceIte, s10_bit, s10_has, c_pop, j_max, j_min, k_p4, k_p13, k_p14, k_p15, k_p16, k_p17, k_p18, k_p19, k_q0, k_q1, k_q2, k_q3, k_q4, k_q5, k_at1, k_put1, k_add1, k_ar1, k_al1, k_z1, k_at2, k_put2, k_add2, k_ar2, k_al2, k_z2, k_at7, k_put7, k_add7, k_ar7, k_al7, k_z7, k_at8, k_put8, k_add8, k_ar8, k_al8, k_z8, k_at9, k_put9, k_add9, k_ar9, k_al9, k_z9, k_at10, k_put10, k_add10, k_ar10, k_al10, k_z10, k_at1_0, k_at1_1, k_at1_2, k_at1_3, k_put1_0, k_put1_1, k_put1_2, k_put1_3, k_add7_0, k_add7_1, k_add7_2, k_add7_3, k_add7_4, k_add7_5, k_add7_6, k_add7_7, k_add7_8, k_atL3, k_putL3, k_least3, k_atL4, k_putL4, k_least4, k_atL5, k_putL5, k_least5, k_atL11, k_putL11, k_least11, k_atL12, k_putL12, k_least12, k_ckK, k_pK0, k_pK1, k_pK2, k_atK1, k_atK2, k_atK3, k_units, k_owner, k_ckR, k_pR0, k_pR1, k_pR2, k_atR1, k_atR2, k_atR3, q, b, k_take, k_remember]
    · simp (maxSteps := 1000000) (disch := first | assumption | omega) only [Bool.false_eq_true, Int.reduceEq, x_rf, x_m, lt_bv_r, lt_bi_r, lt_bl_r, ↓k_ck, k_ck6, k_ck13, k_ck14, cI0, cIt, cL0, cLt, cwI0, cwIt, cwL0, cwLt, cwi_1, cwi_2, cwl_1, cwl_2, z2_eq, z2_n1, z2_n2, lt_iN, lt_b1_0, lt_b1_1, x_if1, x_eq1, x_10, x_01, x_11, x_00, ↓reduceIte, s10_bit, s10_has, c_pop, j_max, j_min, k_p4, k_p13, k_p14, k_p15, k_p16, k_p17, k_p18, k_p19, k_q0, k_q1, k_q2, k_q3, k_q4, k_q5, k_at1, k_put1, k_add1, k_ar1, k_al1, k_z1, k_at2, k_put2, k_add2, k_ar2, k_al2, k_z2, k_at7, k_put7, k_add7, k_ar7, k_al7, k_z7, k_at8, k_put8, k_add8, k_ar8, k_al8, k_z8, k_at9, k_put9, k_add9, k_ar9, k_al9, k_z9, k_at10, k_put10, k_add10, k_ar10, k_al10, k_z10, k_at1_0, k_at1_1, k_at1_2, k_at1_3, k_put1_0, k_put1_1, k_put1_2, k_put1_3, k_add7_0, k_add7_1, k_add7_2, k_add7_3, k_add7_4, k_add7_5, k_add7_6, k_add7_7, k_add7_8, k_atL3, k_putL3, k_least3, k_atL4, k_putL4, k_least4, k_atL5, k_putL5, k_least5, k_atL11, k_putL11, k_least11, k_atL12, k_putL12, k_least12, k_ckK, k_pK0, k_pK1, k_pK2, k_atK1, k_atK2, k_atK3, k_units, k_owner, k_ckR, k_pR0, k_pR1, k_pR2, k_atR1, k_atR2, k_atR3, q, b, k_take, k_remember]
  · simp (maxSteps := 1000000) (disch := first | assumption | omega) only [Bool.false_eq_true, Int.reduceEq, x_rf, x_m, lt_bv_r, lt_bi_r, lt_bl_r, ↓k_ck, k_ck6, k_ck13, k_ck14, cI0, cIt, cL0, cLt, cwI0, cwIt, cwL0, cwLt, cwi_1, cwi_2, cwl_1, cwl_2, z2_eq, z2_n1, z2_n2, lt_iN, lt_b1_0, lt_b1_1, x_if1, x_eq1, x_10, x_01, x_11, x_00, ↓reduceIte, s10_bit, s10_has, c_pop, j_max, j_min, k_p4, k_p13, k_p14, k_p15, k_p16, k_p17, k_p18, k_p19, k_q0, k_q1, k_q2, k_q3, k_q4, k_q5, k_at1, k_put1, k_add1, k_ar1, k_al1, k_z1, k_at2, k_put2, k_add2, k_ar2, k_al2, k_z2, k_at7, k_put7, k_add7, k_ar7, k_al7, k_z7, k_at8, k_put8, k_add8, k_ar8, k_al8, k_z8, k_at9, k_put9, k_add9, k_ar9, k_al9, k_z9, k_at10, k_put10, k_add10, k_ar10, k_al10, k_z10, k_at1_0, k_at1_1, k_at1_2, k_at1_3, k_put1_0, k_put1_1, k_put1_2, k_put1_3, k_add7_0, k_add7_1, k_add7_2, k_add7_3, k_add7_4, k_add7_5, k_add7_6, k_add7_7, k_add7_8, k_atL3, k_putL3, k_least3, k_atL4, k_putL4, k_least4, k_atL5, k_putL5, k_least5, k_atL11, k_putL11, k_least11, k_atL12, k_putL12, k_least12, k_ckK, k_pK0, k_pK1, k_pK2, k_atK1, k_atK2, k_atK3, k_units, k_owner, k_ckR, k_pR0, k_pR1, k_pR2, k_atR1, k_atR2, k_atR3, q, k_take]
theorem k_out13 (d : Nat) (h : cA M C) (hK : KO M C K) {these : Int32} : f_X1_putOut_13 (d + 3) (cM M C S) C K these = some (.inl none, cM M C (kOut13 (mI M (K + 1)) these S)) := by
  have hl := kChO_lt (S := S) (kz := mI M (K + 1)) (these := these)
  rw [e_X1_putOut_13]
  unfold kOut13
  cases hq : kChO (mI M (K + 1)) S these with
  | none => simp (maxSteps := 1000000) (disch := first | assumption | omega) only [Bool.false_eq_true, Int.reduceEq, x_rf, x_m, lt_bv_r, lt_bi_r, lt_bl_r, ↓k_ck, k_ck6, k_ck13, k_ck14, cI0, cIt, cL0, cLt, cwI0, cwIt, cwL0, cwLt, cwi_1, cwi_2, cwl_1, cwl_2, z2_eq, z2_n1, z2_n2, lt_iN, lt_b1_0, lt_b1_1, x_if1, x_eq1, x_10, x_01, x_11, x_00, ↓reduceIte, s10_bit, s10_has, c_pop, j_max, j_min, k_p4, k_p13, k_p14, k_p15, k_p16, k_p17, k_p18, k_p19, k_q0, k_q1, k_q2, k_q3, k_q4, k_q5, k_at1, k_put1, k_add1, k_ar1, k_al1, k_z1, k_at2, k_put2, k_add2, k_ar2, k_al2, k_z2, k_at7, k_put7, k_add7, k_ar7, k_al7, k_z7, k_at8, k_put8, k_add8, k_ar8, k_al8, k_z8, k_at9, k_put9, k_add9, k_ar9, k_al9, k_z9, k_at10, k_put10, k_add10, k_ar10, k_al10, k_z10, k_at1_0, k_at1_1, k_at1_2, k_at1_3, k_put1_0, k_put1_1, k_put1_2, k_put1_3, k_add7_0, k_add7_1, k_add7_2, k_add7_3, k_add7_4, k_add7_5, k_add7_6, k_add7_7, k_add7_8, k_atL3, k_putL3, k_least3, k_atL4, k_putL4, k_least4, k_atL5, k_putL5, k_least5, k_atL11, k_putL11, k_least11, k_atL12, k_putL12, k_least12, k_ckK, k_pK0, k_pK1, k_pK2, k_atK1, k_atK2, k_atK3, k_units, k_owner, k_ckR, k_pR0, k_pR1, k_pR2, k_atR1, k_atR2, k_atR3, k_choose, kChoose_O, hq, oI_n]
  | some k =>
    have hk := hl k hq
    have hne : (nI k = -1) = False := nI_ne1 (by omega)
    unfold kOut1 kLevel
    by_cases q : S.1 0 0 = 5
    · simp (maxSteps := 1000000) (disch := first | assumption | omega) only [Bool.false_eq_true, Int.reduceEq, x_rf, x_m, lt_bv_r, lt_bi_r, lt_bl_r, ↓k_ck, k_ck6, k_ck13, k_ck14, cI0, cIt, cL0, cLt, cwI0, cwIt, cwL0, cwLt, cwi_1, cwi_2, cwl_1, cwl_2, z2_eq, z2_n1, z2_n2, lt_iN, lt_b1_0, lt_b1_1, x_if1, x_eq1, x_10, x_01, x_11, x_00, ↓reduceIte, s10_bit, s10_has, c_pop, j_max, j_min, k_p4, k_p13, k_p14, k_p15, k_p16, k_p17, k_p18, k_p19, k_q0, k_q1, k_q2, k_q3, k_q4, k_q5, k_at1, k_put1, k_add1, k_ar1, k_al1, k_z1, k_at2, k_put2, k_add2, k_ar2, k_al2, k_z2, k_at7, k_put7, k_add7, k_ar7, k_al7, k_z7, k_at8, k_put8, k_add8, k_ar8, k_al8, k_z8, k_at9, k_put9, k_add9, k_ar9, k_al9, k_z9, k_at10, k_put10, k_add10, k_ar10, k_al10, k_z10, k_at1_0, k_at1_1, k_at1_2, k_at1_3, k_put1_0, k_put1_1, k_put1_2, k_put1_3, k_add7_0, k_add7_1, k_add7_2, k_add7_3, k_add7_4, k_add7_5, k_add7_6, k_add7_7, k_add7_8, k_atL3, k_putL3, k_least3, k_atL4, k_putL4, k_least4, k_atL5, k_putL5, k_least5, k_atL11, k_putL11, k_least11, k_atL12, k_putL12, k_least12, k_ckK, k_pK0, k_pK1, k_pK2, k_atK1, k_atK2, k_atK3, k_units, k_owner, k_ckR, k_pR0, k_pR1, k_pR2, k_atR1, k_atR2, k_atR3, k_choose, kChoose_O, hq, oI_s, hne, q, c_maxL, k_out53]
    · simp (maxSteps := 1000000) (disch := first | assumption | omega) only [Bool.false_eq_true, Int.reduceEq, x_rf, x_m, lt_bv_r, lt_bi_r, lt_bl_r, ↓k_ck, k_ck6, k_ck13, k_ck14, cI0, cIt, cL0, cLt, cwI0, cwIt, cwL0, cwLt, cwi_1, cwi_2, cwl_1, cwl_2, z2_eq, z2_n1, z2_n2, lt_iN, lt_b1_0, lt_b1_1, x_if1, x_eq1, x_10, x_01, x_11, x_00, ↓reduceIte, s10_bit, s10_has, c_pop, j_max, j_min, k_p4, k_p13, k_p14, k_p15, k_p16, k_p17, k_p18, k_p19, k_q0, k_q1, k_q2, k_q3, k_q4, k_q5, k_at1, k_put1, k_add1, k_ar1, k_al1, k_z1, k_at2, k_put2, k_add2, k_ar2, k_al2, k_z2, k_at7, k_put7, k_add7, k_ar7, k_al7, k_z7, k_at8, k_put8, k_add8, k_ar8, k_al8, k_z8, k_at9, k_put9, k_add9, k_ar9, k_al9, k_z9, k_at10, k_put10, k_add10, k_ar10, k_al10, k_z10, k_at1_0, k_at1_1, k_at1_2, k_at1_3, k_put1_0, k_put1_1, k_put1_2, k_put1_3, k_add7_0, k_add7_1, k_add7_2, k_add7_3, k_add7_4, k_add7_5, k_add7_6, k_add7_7, k_add7_8, k_atL3, k_putL3, k_least3, k_atL4, k_putL4, k_least4, k_atL5, k_putL5, k_least5, k_atL11, k_putL11, k_least11, k_atL12, k_putL12, k_least12, k_ckK, k_pK0, k_pK1, k_pK2, k_atK1, k_atK2, k_atK3, k_units, k_owner, k_ckR, k_pR0, k_pR1, k_pR2, k_atR1, k_atR2, k_atR3, k_choose, kChoose_O, hq, oI_s, hne, q, k_out53]
theorem k_out (d : Nat) (h : cA M C) (hK : KO M C K) {these : Int32} : f_X1_putOut (d + 3) (cM M C S) C K these = some (.inl none, cM M C (kOut (mI M (K + 1)) these S)) := by
  rw [e_X1_putOut]
  unfold kOut
  by_cases q : S.1 0 0 = 3
  · simp (maxSteps := 1000000) (disch := first | assumption | omega) only [Bool.false_eq_true, Int.reduceEq, x_rf, x_m, lt_bv_r, lt_bi_r, lt_bl_r, ↓k_ck, k_ck6, k_ck13, k_ck14, cI0, cIt, cL0, cLt, cwI0, cwIt, cwL0, cwLt, cwi_1, cwi_2, cwl_1, cwl_2, z2_eq, z2_n1, z2_n2, lt_iN, lt_b1_0, lt_b1_1, x_if1, x_eq1, x_10, x_01, x_11, x_00, ↓reduceIte, s10_bit, s10_has, c_pop, j_max, j_min, k_p4, k_p13, k_p14, k_p15, k_p16, k_p17, k_p18, k_p19, k_q0, k_q1, k_q2, k_q3, k_q4, k_q5, k_at1, k_put1, k_add1, k_ar1, k_al1, k_z1, k_at2, k_put2, k_add2, k_ar2, k_al2, k_z2, k_at7, k_put7, k_add7, k_ar7, k_al7, k_z7, k_at8, k_put8, k_add8, k_ar8, k_al8, k_z8, k_at9, k_put9, k_add9, k_ar9, k_al9, k_z9, k_at10, k_put10, k_add10, k_ar10, k_al10, k_z10, k_at1_0, k_at1_1, k_at1_2, k_at1_3, k_put1_0, k_put1_1, k_put1_2, k_put1_3, k_add7_0, k_add7_1, k_add7_2, k_add7_3, k_add7_4, k_add7_5, k_add7_6, k_add7_7, k_add7_8, k_atL3, k_putL3, k_least3, k_atL4, k_putL4, k_least4, k_atL5, k_putL5, k_least5, k_atL11, k_putL11, k_least11, k_atL12, k_putL12, k_least12, k_ckK, k_pK0, k_pK1, k_pK2, k_atK1, k_atK2, k_atK3, k_units, k_owner, k_ckR, k_pR0, k_pR1, k_pR2, k_atR1, k_atR2, k_atR3, q, k_turn, k_out13]
  · simp (maxSteps := 1000000) (disch := first | assumption | omega) only [Bool.false_eq_true, Int.reduceEq, x_rf, x_m, lt_bv_r, lt_bi_r, lt_bl_r, ↓k_ck, k_ck6, k_ck13, k_ck14, cI0, cIt, cL0, cLt, cwI0, cwIt, cwL0, cwLt, cwi_1, cwi_2, cwl_1, cwl_2, z2_eq, z2_n1, z2_n2, lt_iN, lt_b1_0, lt_b1_1, x_if1, x_eq1, x_10, x_01, x_11, x_00, ↓reduceIte, s10_bit, s10_has, c_pop, j_max, j_min, k_p4, k_p13, k_p14, k_p15, k_p16, k_p17, k_p18, k_p19, k_q0, k_q1, k_q2, k_q3, k_q4, k_q5, k_at1, k_put1, k_add1, k_ar1, k_al1, k_z1, k_at2, k_put2, k_add2, k_ar2, k_al2, k_z2, k_at7, k_put7, k_add7, k_ar7, k_al7, k_z7, k_at8, k_put8, k_add8, k_ar8, k_al8, k_z8, k_at9, k_put9, k_add9, k_ar9, k_al9, k_z9, k_at10, k_put10, k_add10, k_ar10, k_al10, k_z10, k_at1_0, k_at1_1, k_at1_2, k_at1_3, k_put1_0, k_put1_1, k_put1_2, k_put1_3, k_add7_0, k_add7_1, k_add7_2, k_add7_3, k_add7_4, k_add7_5, k_add7_6, k_add7_7, k_add7_8, k_atL3, k_putL3, k_least3, k_atL4, k_putL4, k_least4, k_atL5, k_putL5, k_least5, k_atL11, k_putL11, k_least11, k_atL12, k_putL12, k_least12, k_ckK, k_pK0, k_pK1, k_pK2, k_atK1, k_atK2, k_atK3, k_units, k_owner, k_ckR, k_pR0, k_pR1, k_pR2, k_atR1, k_atR2, k_atR3, q, k_out13]
/-- room made -/
def kGo (kz kw : Nat → Int32) (W : Nat → Nat) (S : CS) (these : Int32) (y : Nat) : Int32 := pGo W these (kBey kz kw S (S.1 0 5 ||| bb y)) 26 0
def kRoom (kz kw : Nat → Int32) (W : Nat → Nat) (y : Nat) (kept : Option Nat) : Nat → CS → CS
  | 0, S => S
  | n + 1, S => if S.1 0 1 < pSum (S.1 0 5) kz 26 0 + kz y then kRoom kz kw W y kept n (kOut kz (kGo kz kw W S (S.1 0 5 &&& (obb kept ^^^ -1)) y) S) else S
theorem k_room_13 (d : Nat) (h : cA M C) (hK : KO M C K) {W : Nat → Nat} (hW : ∀ k, k < 26 → mI M (K + 3) k = nI (W k) ∧ W k < 4) (hk : k < 26) {kept : Option Nat} (hkp : ∀ j, kept = some j → j < 26) : ∀ (n : Nat) (S : CS), n ≤ 26 → f_X1_makeRoom_13 (d + 5) (cM M C S) C K (nI k) (oI kept) (mI M (K + 1) k) (nI (26 - n)) = some (.inl none, cM M C (kRoom (mI M (K + 1)) (mI M (K + 3)) W k kept n S))
  | 0, S, _ => by
    rw [e_X1_makeRoom_13, if_neg lt_end]
    rfl
  | n + 1, S, hn => by
    obtain ⟨g1, g2, -⟩ := lt_suc hn
    have ih := fun S => k_room_13 d h hK hW hk hkp n S (by omega)
    have eg := fun (these : Int32) => k_canGo (S := S) (these := these) d h hK hW hk
    have eb := fun d (M : LM) => k_bitO (M := M) d hkp
    rw [g1, e_X1_makeRoom_13, if_pos (lt_suc2 hn)]
    unfold kRoom
    by_cases q : S.1 0 1 < pSum (S.1 0 5) (mI M (K + 1)) 26 0 + mI M (K + 1) k
    · rw [if_pos q]
      simp (maxSteps := 1000000) (disch := first | assumption | omega) only [Bool.false_eq_true, Int.reduceEq, x_rf, x_m, lt_bv_r, lt_bi_r, lt_bl_r, ↓k_ck, k_ck6, k_ck13, k_ck14, cI0, cIt, cL0, cLt, cwI0, cwIt, cwL0, cwLt, cwi_1, cwi_2, cwl_1, cwl_2, z2_eq, z2_n1, z2_n2, lt_iN, lt_b1_0, lt_b1_1, x_if1, x_eq1, x_10, x_01, x_11, x_00, ↓reduceIte, s10_bit, s10_has, c_pop, j_max, j_min, k_p4, k_p13, k_p14, k_p15, k_p16, k_p17, k_p18, k_p19, k_q0, k_q1, k_q2, k_q3, k_q4, k_q5, k_at1, k_put1, k_add1, k_ar1, k_al1, k_z1, k_at2, k_put2, k_add2, k_ar2, k_al2, k_z2, k_at7, k_put7, k_add7, k_ar7, k_al7, k_z7, k_at8, k_put8, k_add8, k_ar8, k_al8, k_z8, k_at9, k_put9, k_add9, k_ar9, k_al9, k_z9, k_at10, k_put10, k_add10, k_ar10, k_al10, k_z10, k_at1_0, k_at1_1, k_at1_2, k_at1_3, k_put1_0, k_put1_1, k_put1_2, k_put1_3, k_add7_0, k_add7_1, k_add7_2, k_add7_3, k_add7_4, k_add7_5, k_add7_6, k_add7_7, k_add7_8, k_atL3, k_putL3, k_least3, k_atL4, k_putL4, k_least4, k_atL5, k_putL5, k_least5, k_atL11, k_putL11, k_least11, k_atL12, k_putL12, k_least12, k_ckK, k_pK0, k_pK1, k_pK2, k_atK1, k_atK2, k_atK3, k_units, k_owner, k_ckR, k_pR0, k_pR1, k_pR2, k_atR1, k_atR2, k_atR3, q, eb, eg, k_out, g2, ih]
      rfl
    · rw [if_neg q]
      simp (maxSteps := 1000000) (disch := first | assumption | omega) only [Bool.false_eq_true, Int.reduceEq, x_rf, x_m, lt_bv_r, lt_bi_r, lt_bl_r, ↓k_ck, k_ck6, k_ck13, k_ck14, cI0, cIt, cL0, cLt, cwI0, cwIt, cwL0, cwLt, cwi_1, cwi_2, cwl_1, cwl_2, z2_eq, z2_n1, z2_n2, lt_iN, lt_b1_0, lt_b1_1, x_if1, x_eq1, x_10, x_01, x_11, x_00, ↓reduceIte, s10_bit, s10_has, c_pop, j_max, j_min, k_p4, k_p13, k_p14, k_p15, k_p16, k_p17, k_p18, k_p19, k_q0, k_q1, k_q2, k_q3, k_q4, k_q5, k_at1, k_put1, k_add1, k_ar1, k_al1, k_z1, k_at2, k_put2, k_add2, k_ar2, k_al2, k_z2, k_at7, k_put7, k_add7, k_ar7, k_al7, k_z7, k_at8, k_put8, k_add8, k_ar8, k_al8, k_z8, k_at9, k_put9, k_add9, k_ar9, k_al9, k_z9, k_at10, k_put10, k_add10, k_ar10, k_al10, k_z10, k_at1_0, k_at1_1, k_at1_2, k_at1_3, k_put1_0, k_put1_1, k_put1_2, k_put1_3, k_add7_0, k_add7_1, k_add7_2, k_add7_3, k_add7_4, k_add7_5, k_add7_6, k_add7_7, k_add7_8, k_atL3, k_putL3, k_least3, k_atL4, k_putL4, k_least4, k_atL5, k_putL5, k_least5, k_atL11, k_putL11, k_least11, k_atL12, k_putL12, k_least12, k_ckK, k_pK0, k_pK1, k_pK2, k_atK1, k_atK2, k_atK3, k_units, k_owner, k_ckR, k_pR0, k_pR1, k_pR2, k_atR1, k_atR2, k_atR3, q]
theorem k_room (d : Nat) (h : cA M C) (hK : KO M C K) {W : Nat → Nat} (hW : ∀ k, k < 26 → mI M (K + 3) k = nI (W k) ∧ W k < 4) (hk : k < 26) {kept : Option Nat} (hkp : ∀ j, kept = some j → j < 26) : f_X1_makeRoom (d + 5) (cM M C S) C K (nI k) (oI kept) = some (.inl none, cM M C (kRoom (mI M (K + 1)) (mI M (K + 3)) W k kept 26 S)) := by
  have e := k_room_13 d h hK hW hk hkp 26 S (Nat.le_refl _)
  rw [Nat.sub_self] at e
  have e' : f_X1_makeRoom_13 (d + 5) (cM M C S) C K (nI k) (oI kept) (mI M (K + 1) k) 0 = _ := e
  rw [e_X1_makeRoom]
  simp (maxSteps := 1000000) (disch := first | assumption | omega) only [Bool.false_eq_true, Int.reduceEq, x_rf, x_m, lt_bv_r, lt_bi_r, lt_bl_r, ↓k_ck, k_ck6, k_ck13, k_ck14, cI0, cIt, cL0, cLt, cwI0, cwIt, cwL0, cwLt, cwi_1, cwi_2, cwl_1, cwl_2, z2_eq, z2_n1, z2_n2, lt_iN, lt_b1_0, lt_b1_1, x_if1, x_eq1, x_10, x_01, x_11, x_00, ↓reduceIte, s10_bit, s10_has, c_pop, j_max, j_min, k_p4, k_p13, k_p14, k_p15, k_p16, k_p17, k_p18, k_p19, k_q0, k_q1, k_q2, k_q3, k_q4, k_q5, k_at1, k_put1, k_add1, k_ar1, k_al1, k_z1, k_at2, k_put2, k_add2, k_ar2, k_al2, k_z2, k_at7, k_put7, k_add7, k_ar7, k_al7, k_z7, k_at8, k_put8, k_add8, k_ar8, k_al8, k_z8, k_at9, k_put9, k_add9, k_ar9, k_al9, k_z9, k_at10, k_put10, k_add10, k_ar10, k_al10, k_z10, k_at1_0, k_at1_1, k_at1_2, k_at1_3, k_put1_0, k_put1_1, k_put1_2, k_put1_3, k_add7_0, k_add7_1, k_add7_2, k_add7_3, k_add7_4, k_add7_5, k_add7_6, k_add7_7, k_add7_8, k_atL3, k_putL3, k_least3, k_atL4, k_putL4, k_least4, k_atL5, k_putL5, k_least5, k_atL11, k_putL11, k_least11, k_atL12, k_putL12, k_least12, k_ckK, k_pK0, k_pK1, k_pK2, k_atK1, k_atK2, k_atK3, k_units, k_owner, k_ckR, k_pR0, k_pR1, k_pR2, k_atR1, k_atR2, k_atR3, e']
end Co
