/-! THE CLASS: a Shadow -/
section Ch
variable {M : LM} {K s c w k o R : Nat} {x y room wanted : Int32}
theorem wI_same {a i : Nat} : wI (wI M a i x) a i y = wI M a i y := by
  refine Prod.ext (funext fun b => funext fun q => ?_) rfl
  show (if b = a ∧ q = i then y else (if b = a ∧ q = i then x else mI M b q)) = if b = a ∧ q = i then y else mI M b q
  by_cases hb : b = a ∧ q = i
  · rw [if_pos hb, if_pos hb]
  · rw [if_neg hb, if_neg hb, if_neg hb]
def pBit (x : Int32) : Int32 := if x < 0 then 0 else if x < 26 then 1 <<< (x &&& 31) else 0
theorem s10_bitG (d : Nat) : f_X10_bit (d + 1) M x = some (.inl (some (.int (pBit x))), M) := by
  rw [e_X10_bit]
  unfold pBit
  by_cases h1 : x < 0
  · rw [if_pos h1, if_pos h1]
  · rw [if_neg h1, if_neg h1]
    by_cases h2 : x < 26
    · rw [if_pos h2, if_pos h2]
    · rw [if_neg h2, if_neg h2]
/-- keys go until there is room -/
def pShed (S : Nat → Int32) (r : Nat → Int64) (room wanted : Int32) : Nat → Int32 → Int32
  | 0, held => held
  | n + 1, held => if room < pSum held S 26 0 + wanted then pShed S r room wanted n (held &&& (pBit (pLst held r) ^^^ -1)) else held
theorem c_feed_42 (d : Nat) (hk : k < 26) (hs : s ≠ o) : ∀ (n : Nat) (M : LM), n ≤ 26 → mK M o = 21 → kA M K s c w → aL M R 26 → f_X5_feed_42 (d + 2) M o (nI k) K room R wanted (nI (26 - n)) = some (.inl none, wI M o 0 (pShed (mI M s) (mL M R) room wanted n (mI M o 0) ||| bb k))
  | 0, M, _, h0, hK, hR => by
    rw [e_X5_feed_42, if_neg (by decide), lt_ck_t h0, s10_bit d hk, lt_bi_r, lt_ck_t h0]
    rfl
  | n + 1, M, hn, h0, hK, hR => by
    obtain ⟨g1, g2, g3⟩ := lt_suc hn
    have g4 : nI (25 - n) < 26 := g3
    rw [g1, e_X5_feed_42, if_pos g4, lt_ck_t h0, lt_ck_t hK.1, s3_units d hK, lt_bi_r, g2]
    unfold pShed
    by_cases hl : room < pSum (mI M o 0) (mI M s) 26 0 + wanted
    · rw [if_pos hl, if_pos hl, lt_ck_t h0, lt_ck_t h0, s10_least d hR (by omega), lt_bi_r, s10_bitG, lt_bi_r, lt_ck_t h0]
      have ih := c_feed_42 d hk hs n (wI M o 0 (mI M o 0 &&& (pBit (pLst (mI M o 0) (mL M R)) ^^^ -1))) (by omega) h0 hK hR
      rw [wI_same, mI_wI_ne hs, mI_wI, if_pos ⟨rfl, rfl⟩] at ih
      exact ih
    · rw [if_neg hl, if_neg hl, lt_ck_t h0, s10_bit d hk, lt_bi_r, lt_ck_t h0]
      rfl
def pFeedS (M : LM) (o s R k : Nat) (room : Int32) : LM :=
  if bt (mI M o 0) k = true then M else
    let M1 := wI M o 1 (mI M o 1 + 1)
    if room < mI M s k then M1 else wI M1 o 0 (pShed (mI M s) (mL M R) room (mI M s k) 26 (mI M o 0) ||| bb k)
theorem c_feedS (d : Nat) (hk : k < 26) (hs : s ≠ o) (h0 : mK M o = 21) (hK : kA M K s c w) (hR : aL M R 26) : f_X5_feed (d + 2) M o (nI k) K room R = some (.inl none, pFeedS M o s R k room) := by
  rw [e_X5_feed, lt_ck_t h0, s10_has d hk, lt_bi_r]
  unfold pFeedS
  by_cases hb : bt (mI M o 0) k = true
  · rw [if_pos hb, if_neg (by decide), if_pos hb]
  · rw [if_neg hb, if_pos rfl, if_neg hb, lt_ck_t h0, lt_ck_t h0]
    simp only [lt_m]
    refine (lt_ck_t (M := wI M o 1 (mI M o 1 + 1)) hK.1).trans ?_
    rw [lt_rf_t (show mP (wI M o 1 (mI M o 1 + 1)) K 0 = some s from hK.2.1), s10_at (M := wI M o 1 (mI M o 1 + 1)) d hK.2.2.2.2.1 hk, lt_bi_r, mI_wI_ne hs]
    by_cases hl : room < mI M s k
    · rw [if_pos hl, if_pos hl]
    · rw [if_neg hl, if_neg hl]
      have e := c_feed_42 (k := k) (room := room) (wanted := mI M s k) d hk hs 26 (wI M o 1 (mI M o 1 + 1)) (Nat.le_refl _) h0 hK hR
      rw [mI_wI_ne hs, mI_wI (b := o) (j := 0), if_neg (by omega)] at e
      exact e
end Ch
