/-! THE RELATION, rows that shame: codes of queues as natural numbers -/
section Rye
variable {a b n i j k m c p t l g : Nat} {x y : Int32}
def iL (n : Nat) : Int64 := Int64.ofNat n
def uL (x : Int64) : Nat := x.toBitVec.toNat
theorem uN_lt2 {x : Int32} : uN x < 4294967296 := x.toBitVec.isLt
theorem uN_nI : uN (nI a) = a % 4294967296 := rfl
theorem uN_nI' (h : a < 4294967296) : uN (nI a) = a := Nat.mod_eq_of_lt h
theorem uN_inj (h : uN x = uN y) : x = y := Int32.toBitVec_inj.mp (BitVec.eq_of_toNat_eq h)
theorem uL_iL : uL (iL a) = a % 18446744073709551616 := rfl
theorem uL_iL' (h : a < 18446744073709551616) : uL (iL a) = a := Nat.mod_eq_of_lt h
theorem uL_inj {x y : Int64} (h : uL x = uL y) : x = y := Int64.toBitVec_inj.mp (BitVec.eq_of_toNat_eq h)
theorem uN_or {x y : Int32} : uN (x ||| y) = uN x ||| uN y := by
  unfold uN
  rw [Int32.toBitVec_or, BitVec.toNat_or]
theorem uN_sl {x : Int32} (hn : n < 32) : uN (x <<< (nI n &&& 31)) = (uN x <<< n) % 4294967296 := by
  unfold uN
  rw [Int32.toBitVec_shiftLeft]
  show (x.toBitVec <<< ((nI n &&& 31).toBitVec.smod 32).toNat).toNat = _
  rw [s_l n hn, BitVec.toNat_shiftLeft]
theorem uL_or {x y : Int64} : uL (x ||| y) = uL x ||| uL y := by
  unfold uL
  rw [Int64.toBitVec_or, BitVec.toNat_or]
theorem uL_and {x y : Int64} : uL (x &&& y) = uL x &&& uL y := by
  unfold uL
  rw [Int64.toBitVec_and, BitVec.toNat_and]
theorem uL_mul {x y : Int64} : uL (x * y) = uL x * uL y % 18446744073709551616 := by
  unfold uL
  rw [Int64.toBitVec_mul, BitVec.toNat_mul]
theorem s64_l : ∀ n, n < 64 → ((Int32.toInt64 (nI n) &&& 63).toBitVec.smod 64).toNat = n := by decide +kernel
theorem s64_u : ∀ n, n < 64 → ((Int64.toUInt64 (Int32.toInt64 (nI n)) &&& Int64.toUInt64 63).toBitVec % 64).toNat = n := by decide +kernel
theorem uL_lsl {x : Int64} (hn : n < 64) : uL (lt_lsl x (nI n)) = (uL x <<< n) % 18446744073709551616 := by
  unfold uL lt_lsl
  rw [Int64.toBitVec_shiftLeft]
  show (x.toBitVec <<< ((Int32.toInt64 (nI n) &&& 63).toBitVec.smod 64).toNat).toNat = _
  rw [s64_l n hn, BitVec.toNat_shiftLeft]
theorem uL_lus {x : Int64} (hn : n < 64) : uL (lt_lus x (nI n)) = uL x >>> n := by
  unfold uL lt_lus
  show (x.toUInt64 >>> ((Int32.toInt64 (nI n)).toUInt64 &&& Int64.toUInt64 63)).toBitVec.toNat = _
  rw [UInt64.toBitVec_shiftRight]
  show (x.toUInt64.toBitVec >>> (((Int32.toInt64 (nI n)).toUInt64 &&& Int64.toUInt64 63).toBitVec % 64).toNat).toNat = _
  rw [s64_u n hn, BitVec.toNat_ushiftRight]
  rfl
theorem uL_32 (h : a < 2147483648) : Int32.toInt64 (nI a) = iL a := by
  apply Int64.toInt_inj.mp
  rw [Int32.toInt_toInt64, lt_iT h]
  show _ = (Int64.ofNat a).toInt
  rw [Int64.toInt_ofNat_of_lt (by omega)]
theorem uN_64 {x : Int64} : uN (Int64.toInt32 x) = uL x % 4294967296 := by
  unfold uN uL
  show (x.toBitVec.signExtend 32).toNat = _
  rw [BitVec.signExtend_eq_setWidth_of_le _ (by omega), BitVec.toNat_setWidth]
theorem n_or (ha : a < 4294967296) (hb : b < 4294967296) : nI a ||| nI b = nI (a ||| b) := uN_inj (by
  rw [uN_or, uN_nI' ha, uN_nI' hb, uN_nI' (Nat.or_lt_two_pow (n := 32) ha hb)])
theorem n_and (ha : a < 4294967296) (hb : b < 4294967296) : nI a &&& nI b = nI (a &&& b) := uN_inj (by
  rw [uN_and, uN_nI' ha, uN_nI' hb, uN_nI' (Nat.lt_of_le_of_lt Nat.and_le_left ha)])
theorem n_sl (hn : n < 32) (ha : a <<< n < 4294967296) (ha2 : a < 4294967296) : nI a <<< (nI n &&& 31) = nI (a <<< n) := uN_inj (by
  rw [uN_sl hn, uN_nI' ha2, uN_nI])
theorem n_us (hn : n < 32) (ha : a < 4294967296) : lt_us (nI a) (nI n) = nI (a >>> n) := uN_inj (by
  rw [uN_us hn, uN_nI' ha, uN_nI' (Nat.lt_of_le_of_lt (Nat.shiftRight_le _ _) ha)])
theorem n_eq (ha : a < 4294967296) (hb : b < 4294967296) : (nI a = nI b) ↔ a = b := ⟨fun e => by rw [← uN_nI' ha, e, uN_nI' hb], fun e => by rw [e]⟩
/-! ### the functions over codes -/
noncomputable def kPl (t m c : Nat) : Nat := Nat.rec (motive := fun _ => Nat → Nat) (fun _ => 6) (fun m ih c => cond (Nat.beq (Nat.land c 7) t) (Nat.sub 5 m) (ih (Nat.shiftRight c 4))) m c
noncomputable def kTu (sh m c : Nat) : Nat := Nat.rec (motive := fun _ => Nat → Nat) (fun c => c) (fun _ ih c => cond (Nat.beq (Nat.land c 8) 0) c (ih (Nat.lor (Nat.shiftRight c 4) (Nat.shiftLeft (Nat.land c 7) sh)))) m c
noncomputable def kBh (mk : Bool) (most c key : Nat) : Nat :=
  cond (Nat.beq (kPl (Nat.succ key) 6 c) 6)
    (cond (Nat.ble most (kPl 0 6 c)) (Nat.lor (Nat.shiftRight (kTu (Nat.mul 4 (Nat.pred most)) most c) 4) (Nat.shiftLeft (Nat.succ key) (Nat.mul 4 (Nat.pred most)))) (Nat.lor c (Nat.shiftLeft (Nat.succ key) (Nat.mul 4 (kPl 0 6 c)))))
    (cond mk (Nat.lor c (Nat.shiftLeft 8 (Nat.mul 4 (kPl (Nat.succ key) 6 c)))) c)
theorem kPl_s : kPl t (m + 1) c = cond (Nat.beq (c &&& 7) t) (5 - m) (kPl t m (c >>> 4)) := rfl
theorem kTu_s {sh : Nat} : kTu sh (m + 1) c = cond (Nat.beq (c &&& 8) 0) c (kTu sh m (c >>> 4 ||| (c &&& 7) <<< sh)) := rfl
theorem beq_e {a b : Nat} : Nat.beq a b = decide (a = b) := by
  by_cases h : a = b
  · rw [decide_eq_true h]; exact Nat.beq_eq ▸ h
  · rw [decide_eq_false h]
    cases q : Nat.beq a b with
    | false => rfl
    | true => exact absurd (Nat.eq_of_beq_eq_true q) h
theorem kPl_le : ∀ (m c : Nat), m ≤ 6 → 6 - m ≤ kPl t m c ∧ kPl t m c ≤ 6
  | 0, c, _ => ⟨Nat.le_refl 6, Nat.le_refl 6⟩
  | m + 1, c, hm => by
    rw [kPl_s]
    cases Nat.beq (c &&& 7) t with
    | true => show 6 - (m + 1) ≤ 5 - m ∧ 5 - m ≤ 6; omega
    | false =>
      have := kPl_le m (c >>> 4) (by omega)
      show 6 - (m + 1) ≤ kPl t m (c >>> 4) ∧ kPl t m (c >>> 4) ≤ 6
      omega
theorem hPl_k (ht : t < 8) : ∀ (m c : Nat), m ≤ 6 → c < 16777216 → hPl (nI t - 1) m (nI c) = if kPl t m c = 6 then none else some (kPl t m c)
  | 0, c, _, _ => (if_pos (show kPl t 0 c = 6 from rfl)).symm
  | m + 1, c, hm, hc => by
    have e1 : (nI c &&& 7 = nI t - 1 + 1) ↔ (c &&& 7 = t) := by
      rw [show nI t - 1 + 1 = nI t from Int32.sub_add_cancel _ _, show (7 : Int32) = nI 7 from rfl, n_and (by omega) (by omega), n_eq (Nat.lt_of_le_of_lt Nat.and_le_left (by omega)) (by omega)]
    have e2 : lt_us (nI c) 4 = nI (c >>> 4) := n_us (n := 4) (by omega) (by omega)
    rw [kPl_s, beq_e]
    show (if nI c &&& 7 = nI t - 1 + 1 then some (6 - (m + 1)) else hPl (nI t - 1) m (lt_us (nI c) 4)) = _
    by_cases q : c &&& 7 = t
    · rw [if_pos (e1.mpr q), decide_eq_true q]
      show some (6 - (m + 1)) = if 5 - m = 6 then none else some (5 - m)
      rw [if_neg (by omega)]
      congr 1
      omega
    · rw [if_neg (fun e => q (e1.mp e)), decide_eq_false q, e2]
      exact hPl_k ht m (c >>> 4) (by omega) (Nat.lt_of_le_of_lt (Nat.shiftRight_le _ _) hc)
theorem hPlace_k (hk : k < 7) (hc : c < 16777216) : hPlace (nI c) (nI k) = if kPl (k + 1) 6 c = 6 then none else some (kPl (k + 1) 6 c) := by
  have := hPl_k (t := k + 1) (by omega) 6 c (by omega) hc
  rw [show nI (k + 1) - 1 = nI k by rw [show (1 : Int32) = nI 1 from rfl, nI_sub (by omega)]; rfl] at this
  exact this
theorem hPlace_0 (hc : c < 16777216) : hPlace (nI c) (-1) = if kPl 0 6 c = 6 then none else some (kPl 0 6 c) := hPl_k (t := 0) (by omega) 6 c (by omega) hc
theorem sl_16 : a <<< (4 * n) = a * 16 ^ n := by
  rw [Nat.shiftLeft_eq, Nat.pow_mul]
theorem or_add (h : a < 16 ^ n) : a ||| b * 16 ^ n = a + b * 16 ^ n := by
  have := Nat.shiftLeft_add_eq_or_of_lt (i := 4 * n) (b := a) (by rw [Nat.pow_mul]; exact h) b
  rw [sl_16] at this
  rw [Nat.or_comm, ← this, Nat.add_comm]
theorem and_7 : a &&& 7 = a % 8 := Nat.and_two_pow_sub_one_eq_mod a 3
theorem and_8 : (a &&& 8 = 0) ↔ a / 8 % 2 = 0 := by
  have h : a &&& 8 = (a / 8 % 2) * 8 := by
    have e : (a &&& 8) = ((a / 8) &&& 1) * 8 := by
      apply Nat.eq_of_testBit_eq
      intro i
      rw [Nat.testBit_and, show ((a / 8) &&& 1) * 8 = ((a / 8) &&& 1) <<< 3 from (Nat.shiftLeft_eq _ 3).symm, Nat.testBit_shiftLeft, Nat.testBit_and, show a / 8 = a >>> 3 from (Nat.shiftRight_eq_div_pow a 3).symm, Nat.testBit_shiftRight]
      by_cases q : 3 ≤ i
      · rw [decide_eq_true q, show 3 + (i - 3) = i by omega]
        show _ = (true && (a.testBit i && Nat.testBit 1 (i - 3)))
        rw [show Nat.testBit 8 i = Nat.testBit 1 (i - 3) by
          rw [show (8 : Nat) = 1 <<< 3 from rfl, Nat.testBit_shiftLeft, decide_eq_true q, Bool.true_and], Bool.true_and]
      · rw [decide_eq_false q, Bool.false_and, show (8 : Nat) = 1 <<< 3 from rfl, Nat.testBit_shiftLeft, decide_eq_false q, Bool.false_and, Bool.and_false]
    rw [e, Nat.and_one_is_mod]
  rw [h]
  omega
theorem p16_le (h : n ≤ 5) : 16 ^ n ≤ 1048576 := by
  have := Nat.pow_le_pow_right (n := 16) (by omega) h
  exact this
theorem p16_pos : 1 ≤ 16 ^ n := Nat.one_le_two_pow (n := 4 * n) |> (fun h => by rw [Nat.pow_mul] at h; exact h)
theorem kTu_lt (hl : l ≤ 5) : ∀ (m c : Nat), c < 16 ^ (l + 1) → kTu (4 * l) m c < 16 ^ (l + 1)
  | 0, c, h => h
  | m + 1, c, h => by
    rw [kTu_s]
    cases Nat.beq (c &&& 8) 0 with
    | true => exact h
    | false =>
      refine kTu_lt hl m _ ?_
      have h1 : c >>> 4 < 16 ^ l := by
        rw [Nat.shiftRight_eq_div_pow]
        rw [Nat.pow_succ] at h
        exact (Nat.div_lt_iff_lt_mul (by decide)).mpr h
      rw [sl_16, or_add h1, and_7, Nat.pow_succ]
      have : c % 8 * 16 ^ l ≤ 7 * 16 ^ l := Nat.mul_le_mul_right _ (by omega)
      omega
theorem hTu_k (hl : l ≤ 5) : ∀ (m c : Nat), c < 16 ^ (l + 1) → hTu (l + 1) m (nI c) = nI (kTu (4 * l) m c)
  | 0, c, h => rfl
  | m + 1, c, h => by
    have hb := p16_le hl
    have hc : c < 16777216 := by rw [Nat.pow_succ] at h; omega
    have e1 : (nI c &&& 8 = 0) ↔ (c &&& 8 = 0) := by
      rw [show (8 : Int32) = nI 8 from rfl, show (0 : Int32) = nI 0 from rfl, n_and (by omega) (by omega), n_eq (Nat.lt_of_le_of_lt Nat.and_le_left (by omega)) (by omega)]
    have e2 : lt_us (nI c) 4 = nI (c >>> 4) := n_us (n := 4) (by omega) (by omega)
    have e3 : nI c &&& 7 = nI (c &&& 7) := n_and (a := c) (b := 7) (by omega) (by omega)
    have h1 : c >>> 4 < 16 ^ l := by
      rw [Nat.shiftRight_eq_div_pow]
      rw [Nat.pow_succ] at h
      exact (Nat.div_lt_iff_lt_mul (by decide)).mpr h
    have h2 : (c &&& 7) * 16 ^ l ≤ 7 * 16 ^ l := Nat.mul_le_mul_right _ (by rw [and_7]; omega)
    rw [kTu_s, beq_e]
    show (if nI c &&& 8 = 0 then nI c else hTu (l + 1) m (lt_us (nI c) 4 ||| ((nI c &&& 7) <<< ((4 * nI (l + 1 - 1)) &&& 31)))) = _
    by_cases q : c &&& 8 = 0
    · rw [if_pos (e1.mpr q), decide_eq_true q]
      rfl
    · rw [if_neg (fun e => q (e1.mp e)), decide_eq_false q, e2, e3, Nat.add_sub_cancel, show (4 : Int32) * nI l = nI (4 * l) from lt_iM (j := 4) (k := l), n_sl (by omega) (by rw [sl_16]; omega) (by rw [and_7]; omega), n_or (by omega) (by rw [sl_16]; omega)]
      refine hTu_k hl m _ ?_
      rw [sl_16, or_add h1, Nat.pow_succ]
      omega
theorem kPl_at : ∀ (m c : Nat), m ≤ 6 → kPl t m c ≠ 6 → (c >>> (4 * (kPl t m c - (6 - m)))) &&& 7 = t
  | 0, c, _, h => absurd rfl h
  | m + 1, c, hm, h => by
    have hb := kPl_le (t := t) m (c >>> 4) (by omega)
    rw [kPl_s, beq_e] at h ⊢
    by_cases q : c &&& 7 = t
    · rw [decide_eq_true q]
      show (c >>> (4 * (5 - m - (6 - (m + 1))))) &&& 7 = t
      rw [show 4 * (5 - m - (6 - (m + 1))) = 0 by omega]
      exact q
    · rw [decide_eq_false q] at h ⊢
      have := kPl_at m (c >>> 4) (by omega) h
      show (c >>> (4 * (kPl t m (c >>> 4) - (6 - (m + 1))))) &&& 7 = t
      rw [show 4 * (kPl t m (c >>> 4) - (6 - (m + 1))) = 4 + 4 * (kPl t m (c >>> 4) - (6 - m)) by omega, Nat.shiftRight_add]
      exact this
/-- a key that is found lies below the queue's end -/
theorem kPl_in (hc : c < 16 ^ n) (h0 : 0 < t) (h : kPl t 6 c ≠ 6) : kPl t 6 c < n := by
  have h1 := kPl_at 6 c (Nat.le_refl _) h
  rw [show 6 - 6 = 0 from rfl, Nat.sub_zero, and_7, Nat.shiftRight_eq_div_pow, Nat.pow_mul] at h1
  refine Nat.lt_of_not_le fun hle => ?_
  have h2 : 16 ^ n ≤ (2 ^ 4) ^ kPl t 6 c := Nat.pow_le_pow_right (n := 16) (by decide) hle
  rw [Nat.div_eq_of_lt (by omega)] at h1
  omega
theorem kBh_lt (mk : Bool) (hl : l ≤ 5) (hk : k < 7) (hc : c < 16 ^ (l + 1)) : kBh mk (l + 1) c k < 16 ^ (l + 1) := by
  have lt2 : ∀ d p, d < 16 → p ≤ l → c ||| d <<< (4 * p) < 16 ^ (l + 1) := by
    intro d p hd hp
    have e16 : (16 : Nat) ^ (l + 1) = 2 ^ (4 * (l + 1)) := by rw [Nat.pow_mul]
    rw [e16] at hc ⊢
    refine Nat.or_lt_two_pow hc ?_
    rw [← e16, sl_16]
    have h1 : d * 16 ^ p ≤ 15 * 16 ^ l := Nat.mul_le_mul (by omega) (Nat.pow_le_pow_right (by decide) hp)
    have := @p16_pos l
    rw [Nat.pow_succ]
    omega
  unfold kBh
  have hp6 := (kPl_le (t := k + 1) 6 c (Nat.le_refl _)).2
  by_cases q1 : kPl (k + 1) 6 c = 6
  · rw [show Nat.succ k = k + 1 from rfl, beq_e, decide_eq_true q1]
    show cond (Nat.ble (l + 1) (kPl 0 6 c)) ((kTu (4 * l) (l + 1) c) >>> 4 ||| (k + 1) <<< (4 * l)) (c ||| (k + 1) <<< (4 * kPl 0 6 c)) < _
    cases q2 : Nat.ble (l + 1) (kPl 0 6 c) with
    | true =>
      have h1 := kTu_lt hl (l + 1) c hc
      have h2 : kTu (4 * l) (l + 1) c >>> 4 < 16 ^ l := by
        rw [Nat.shiftRight_eq_div_pow]
        rw [Nat.pow_succ] at h1
        exact (Nat.div_lt_iff_lt_mul (by decide)).mpr h1
      show kTu (4 * l) (l + 1) c >>> 4 ||| (k + 1) <<< (4 * l) < _
      rw [sl_16, or_add h2, Nat.pow_succ]
      have : (k + 1) * 16 ^ l ≤ 7 * 16 ^ l := Nat.mul_le_mul_right _ (by omega)
      omega
    | false =>
      have : ¬ l + 1 ≤ kPl 0 6 c := fun e => by rw [Nat.ble_eq.mpr e] at q2; cases q2
      exact lt2 (k + 1) _ (by omega) (by omega)
  · have hp := kPl_in hc (by omega) q1
    rw [show Nat.succ k = k + 1 from rfl, beq_e, decide_eq_false q1]
    show cond mk (c ||| 8 <<< (4 * kPl (k + 1) 6 c)) c < _
    cases mk with
    | true => exact lt2 8 _ (by omega) (by omega)
    | false => exact hc
/-- the class's step of a queue is that of its code -/
theorem hBehind_k (mk : Bool) (hl : l ≤ 5) (hk : k < 7) (hc : c < 16 ^ (l + 1)) : hBehind (bI mk) (nI c) (l + 1) (nI k) = nI (kBh mk (l + 1) c k) := by
  have hb := p16_le hl
  have hc24 : c < 16777216 := by rw [Nat.pow_succ] at hc; omega
  have hp1 := hPlace_k hk hc24
  have hp0 := hPlace_0 hc24
  have e1 : nI k + 1 = nI (k + 1) := lt_iA (j := k) (k := 1)
  have sh : ∀ d p, d < 16 → p ≤ 5 → nI d <<< ((4 * nI p) &&& 31) = nI (d <<< (4 * p)) := by
    intro d p hd hp
    have h16 := p16_le (n := p) hp
    have : d * 16 ^ p ≤ 15 * 1048576 := Nat.mul_le_mul (by omega) h16
    rw [show (4 : Int32) * nI p = nI (4 * p) from lt_iM (j := 4) (k := p), n_sl (by omega) (by rw [sl_16]; omega) (by omega)]
  have sm : ∀ d p, d < 16 → p ≤ 5 → d <<< (4 * p) < 4294967296 := by
    intro d p hd hp
    have h16 := p16_le (n := p) hp
    have : d * 16 ^ p ≤ 15 * 1048576 := Nat.mul_le_mul (by omega) h16
    rw [sl_16]; omega
  have full : lt_us (hTu (l + 1) (l + 1) (nI c)) 4 ||| ((nI k + 1) <<< ((4 * nI (l + 1 - 1)) &&& 31)) = nI ((kTu (4 * l) (l + 1) c) >>> 4 ||| (k + 1) <<< (4 * l)) := by
    have hT := kTu_lt hl (l + 1) c hc
    have hT2 : kTu (4 * l) (l + 1) c < 4294967296 := by rw [Nat.pow_succ] at hT; omega
    rw [hTu_k hl _ _ hc, e1, Nat.add_sub_cancel, sh (k + 1) l (by omega) hl, show (4 : Int32) = nI 4 from rfl, n_us (by omega) hT2, n_or (Nat.lt_of_le_of_lt (Nat.shiftRight_le _ _) hT2) (sm _ _ (by omega) hl)]
  unfold hBehind kBh
  rw [hp1, hp0, show Nat.succ k = k + 1 from rfl]
  by_cases q1 : kPl (k + 1) 6 c = 6
  · rw [if_pos q1, beq_e, decide_eq_true q1]
    by_cases q2 : kPl 0 6 c = 6
    · rw [if_pos q2, show Nat.ble (l + 1) (kPl 0 6 c) = true from Nat.ble_eq.mpr (by omega)]
      exact full
    · rw [if_neg q2]
      have hle := (kPl_le (t := 0) 6 c (Nat.le_refl _)).2
      by_cases q3 : kPl 0 6 c < l + 1
      · rw [show Nat.ble (l + 1) (kPl 0 6 c) = false by
          cases e : Nat.ble (l + 1) (kPl 0 6 c) with
          | false => rfl
          | true => have := Nat.ble_eq.mp e; omega]
        show (if kPl 0 6 c < l + 1 then _ else _) = _
        rw [if_pos q3, e1, sh (k + 1) _ (by omega) (by omega), n_or (by omega) (sm _ _ (by omega) (by omega))]
        rfl
      · rw [show Nat.ble (l + 1) (kPl 0 6 c) = true from Nat.ble_eq.mpr (by omega)]
        show (if kPl 0 6 c < l + 1 then _ else _) = _
        rw [if_neg q3]
        exact full
  · have hp := kPl_in hc (by omega) q1
    rw [if_neg q1, beq_e, decide_eq_false q1]
    cases mk with
    | true =>
      show (if (1 : Int32) = 0 then nI c else nI c ||| (8 <<< ((4 * nI (kPl (k + 1) 6 c)) &&& 31))) = nI (c ||| 8 <<< (4 * kPl (k + 1) 6 c))
      rw [if_neg (by decide), show (8 : Int32) = nI 8 from rfl, sh 8 _ (by omega) (by omega), n_or (by omega) (sm _ _ (by omega) (by omega))]
    | false => exact if_pos rfl
end Rye
