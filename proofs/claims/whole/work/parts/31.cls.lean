/-! THE CLASS: helpers (bits pasted from kit/laws/BITS) -/
/-! ===== Int32 by its bits: bt x i ===== -/
def bt (x : Int32) (i : Nat) : Bool := x.toBitVec.getLsbD i
theorem b_ext {x y : Int32} (h : ∀ i, i < 32 → bt x i = bt y i) : x = y := Int32.toBitVec_inj.mp (BitVec.eq_of_getLsbD_eq (fun i hi => h i hi))
theorem b_or (x y : Int32) (i : Nat) : bt (x ||| y) i = (bt x i || bt y i) := by unfold bt; rw [Int32.toBitVec_or, BitVec.getLsbD_or]
theorem b_and (x y : Int32) (i : Nat) : bt (x &&& y) i = (bt x i && bt y i) := by unfold bt; rw [Int32.toBitVec_and, BitVec.getLsbD_and]
theorem b_xor (x y : Int32) (i : Nat) : bt (x ^^^ y) i = (bt x i ^^ bt y i) := by unfold bt; rw [Int32.toBitVec_xor, BitVec.getLsbD_xor]
theorem b_big {x : Int32} {i : Nat} (h : 32 ≤ i) : bt x i = false := BitVec.getLsbD_of_ge _ _ h
theorem b_255 (i : Nat) : bt 255 i = decide (i < 8) := by
  rcases Nat.lt_or_ge i 32 with h | h
  · exact (by decide +kernel : ∀ i, i < 32 → bt 255 i = decide (i < 8)) i h
  · rw [b_big h, decide_eq_false (by omega)]
theorem b_65535 (i : Nat) : bt 65535 i = decide (i < 16) := by
  rcases Nat.lt_or_ge i 32 with h | h
  · exact (by decide +kernel : ∀ i, i < 32 → bt 65535 i = decide (i < 16)) i h
  · rw [b_big h, decide_eq_false (by omega)]
theorem b_m1 : ∀ i, i < 32 → bt (-1) i = true := by decide +kernel
theorem b_0 (i : Nat) : bt 0 i = false := BitVec.getLsbD_zero
theorem s_l : ∀ n, n < 32 → ((nI n &&& 31).toBitVec.smod 32).toNat = n := by decide +kernel
theorem s_u : ∀ n, n < 32 → (((nI n).toUInt32 &&& Int32.toUInt32 31).toBitVec % 32).toNat = n := by decide +kernel
theorem b_shl (n : Nat) (hn : n < 32) (x : Int32) {i : Nat} (hi : i < 32) : bt (x <<< (nI n &&& 31)) i = (decide (n ≤ i) && bt x (i - n)) := by
  unfold bt
  rw [Int32.toBitVec_shiftLeft]
  show (x.toBitVec <<< ((nI n &&& 31).toBitVec.smod 32).toNat).getLsbD i = _
  rw [s_l n hn, BitVec.getLsbD_shiftLeft]
  rcases Nat.lt_or_ge i n with h | h
  · simp [h, Nat.not_le.mpr h]
  · simp [hi, h, Nat.not_lt.mpr h]
theorem b_ushr (n : Nat) (hn : n < 32) (x : Int32) (i : Nat) : bt ((x.toUInt32 >>> ((nI n).toUInt32 &&& Int32.toUInt32 31)).toInt32) i = bt x (n + i) := by
  show (x.toUInt32 >>> ((nI n).toUInt32 &&& Int32.toUInt32 31)).toBitVec.getLsbD i = x.toUInt32.toBitVec.getLsbD (n + i)
  rw [UInt32.toBitVec_shiftRight]
  show (x.toUInt32.toBitVec >>> (((nI n).toUInt32 &&& Int32.toUInt32 31).toBitVec % 32).toNat).getLsbD i = _
  rw [s_u n hn, BitVec.getLsbD_ushiftRight]
theorem b_sshr (n : Nat) (hn : n < 32) (x : Int32) {i : Nat} (hi : i < 32) : bt (x >>> (nI n &&& 31)) i = if n + i < 32 then bt x (n + i) else bt x 31 := by
  unfold bt
  rw [Int32.toBitVec_shiftRight]
  show (x.toBitVec.sshiftRight ((nI n &&& 31).toBitVec.smod 32).toNat).getLsbD i = _
  rw [s_l n hn, BitVec.getLsbD_sshiftRight, BitVec.msb_eq_getLsbD_last]
  simp [hi]
theorem b_shl8 (x : Int32) {i : Nat} (hi : i < 32) : bt (x <<< ((8 : Int32) &&& 31)) i = (decide (8 ≤ i) && bt x (i - 8)) := b_shl 8 (by omega) x hi
theorem b_shl16 (x : Int32) {i : Nat} (hi : i < 32) : bt (x <<< ((16 : Int32) &&& 31)) i = (decide (16 ≤ i) && bt x (i - 16)) := b_shl 16 (by omega) x hi
theorem b_shl24 (x : Int32) {i : Nat} (hi : i < 32) : bt (x <<< ((24 : Int32) &&& 31)) i = (decide (24 ≤ i) && bt x (i - 24)) := b_shl 24 (by omega) x hi
theorem b_sshr8 (x : Int32) {i : Nat} (hi : i < 32) : bt (x >>> ((8 : Int32) &&& 31)) i = if 8 + i < 32 then bt x (8 + i) else bt x 31 := b_sshr 8 (by omega) x hi
section Hp
variable {M : LM} {o k n : Nat} {x : Int32}
/-- the set of one key -/
def bb (k : Nat) : Int32 := 1 <<< (nI k &&& 31)
theorem bt_1 : ∀ i, bt 1 i = decide (i = 0) := by
  intro i
  by_cases h : i < 32
  · revert i; decide +kernel
  · rw [b_big (by omega)]
    exact (decide_eq_false (by omega)).symm
theorem bt_bb {i : Nat} (hk : k < 32) (hi : i < 32) : bt (bb k) i = decide (i = k) := by
  unfold bb
  rw [b_shl k hk 1 hi, bt_1]
  by_cases h1 : k ≤ i
  · by_cases h2 : i = k
    · subst h2; simp
    · rw [decide_eq_true h1, decide_eq_false h2, Bool.true_and]
      exact decide_eq_false (by omega)
  · rw [decide_eq_false h1, Bool.false_and]
    exact (decide_eq_false (by omega)).symm
theorem bt_test (hk : k < 32) : ((x >>> (nI k &&& 31)) &&& 1) = 0 ↔ bt x k = false := by
  have h0 : bt ((x >>> (nI k &&& 31)) &&& 1) 0 = bt x k := by
    rw [b_and, b_sshr k hk x (by omega), bt_1]
    simp [hk]
  constructor
  · intro h
    rw [h, b_0] at h0
    exact h0.symm
  · intro h
    apply b_ext
    intro i hi
    rw [b_0]
    by_cases h1 : i = 0
    · subst h1
      rw [h0]; exact h
    · rw [b_and, bt_1, decide_eq_false h1, Bool.and_false]
theorem lt_neg (hk : k < 2147483648) : ¬ nI k < 0 := by
  rw [Int32.lt_iff_toInt_lt, lt_iT hk]
  have z0 : (0 : Int32).toInt = 0 := rfl
  omega
theorem s10_bit (d : Nat) (hk : k < 26) : f_X10_bit (d + 1) M (nI k) = some (.inl (some (.int (bb k))), M) := by
  rw [e_X10_bit, if_neg (lt_neg (by omega)), if_pos (show nI k < 26 from (lt_iL (j := k) (k := 26) (by omega) (by omega)).mpr hk)]
  rfl
theorem s10_has (d : Nat) (hk : k < 26) : f_X10_has (d + 1) M x (nI k) = some (.inl (some (.int (if bt x k = true then 1 else 0))), M) := by
  rw [e_X10_has, if_neg (lt_neg (by omega)), if_pos (show nI k < 26 from (lt_iL (j := k) (k := 26) (by omega) (by omega)).mpr hk)]
  by_cases h : bt x k = true
  · rw [if_neg (fun e => by rw [(bt_test (by omega)).mp e] at h; cases h), if_pos h]
    exact lt_b1_1
  · rw [if_pos ((bt_test (by omega)).mpr (by simpa using h)), if_neg h]
    exact lt_b1_0
theorem lt_al_t {y : Option (LO × LM)} (h : 1 ≤ mK M o ∧ mK M o ≤ 9) : lt_al M o y = y := if_pos h
/-- an array of ints, of longs -/
def aI (M : LM) (o n : Nat) : Prop := mK M o = 1 ∧ mZ M o = n ∧ n < 2147483648
def aL (M : LM) (o n : Nat) : Prop := mK M o = 2 ∧ mZ M o = n ∧ n < 2147483648
theorem aI.w (h : aI M o n) {b i : Nat} {v : Int32} : aI (wI M b i v) o n := h
theorem aI.l (h : aI M o n) {b i : Nat} {v : Int64} : aI (wL M b i v) o n := h
theorem aL.w (h : aL M o n) {b i : Nat} {v : Int32} : aL (wI M b i v) o n := h
theorem aL.l (h : aL M o n) {b i : Nat} {v : Int64} : aL (wL M b i v) o n := h
theorem s10_at (d : Nat) (h : aI M o n) (hk : k < n) : f_X10_at (d + 1) M o (nI k) = some (.inl (some (.int (mI M o k))), M) := by
  obtain ⟨h1, h2, h3⟩ := h
  rw [e_X10_at, if_neg (lt_neg (by omega)), lt_al_t (by omega), h2, if_pos ((lt_iL (by omega) h3).mpr hk), lt_ar_t h1 (by rw [h2]; exact lt_iI hk (by omega)), lt_iN (by omega)]
theorem s10_atL (d : Nat) (h : aL M o n) (hk : k < n) : f_X10_at_ (d + 1) M o (nI k) = some (.inl (some (.long (mL M o k))), M) := by
  obtain ⟨h1, h2, h3⟩ := h
  rw [e_X10_at_, if_neg (lt_neg (by omega)), lt_al_t (by omega), h2, if_pos ((lt_iL (by omega) h3).mpr hk), lt_ar_t h1 (by rw [h2]; exact lt_iI hk (by omega)), lt_iN (by omega)]
theorem s10_put (d : Nat) (h : aI M o n) (hk : k < n) {v : Int32} : f_X10_put (d + 1) M o (nI k) v = some (.inl none, wI M o k v) := by
  obtain ⟨h1, h2, h3⟩ := h
  rw [e_X10_put, if_neg (lt_neg (by omega)), lt_al_t (by omega), h2, if_pos ((lt_iL (by omega) h3).mpr hk), lt_ar_t h1 (by rw [h2]; exact lt_iI hk (by omega)), lt_iN (by omega)]
  rfl
theorem s10_putL (d : Nat) (h : aL M o n) (hk : k < n) {v : Int64} : f_X10_put_ (d + 1) M o (nI k) v = some (.inl none, wL M o k v) := by
  obtain ⟨h1, h2, h3⟩ := h
  rw [e_X10_put_, if_neg (lt_neg (by omega)), lt_al_t (by omega), h2, if_pos ((lt_iL (by omega) h3).mpr hk), lt_ar_t h1 (by rw [h2]; exact lt_iI hk (by omega)), lt_iN (by omega)]
  rfl
theorem s10_add (d : Nat) (h : aI M o n) (hk : k < n) {v : Int32} : f_X10_add (d + 1) M o (nI k) v = some (.inl none, wI M o k (mI M o k + v)) := by
  obtain ⟨h1, h2, h3⟩ := h
  rw [e_X10_add, if_neg (lt_neg (by omega)), lt_al_t (by omega), h2, if_pos ((lt_iL (by omega) h3).mpr hk), lt_ar_t h1 (by rw [h2]; exact lt_iI hk (by omega)), lt_ar_t h1 (by rw [h2]; exact lt_iI hk (by omega)), lt_iN (by omega)]
  rfl
/-- the key of the set with the least rank, of like ones the lesser key -/
def pLeast (s : Int32) (r : Nat → Int64) (m : Nat) : Nat → Int32 → Int64 → Int32
  | 0, found, _ => found
  | n + 1, found, fr => if bt s (m - (n + 1)) = true then (if found = -1 then pLeast s r m n (nI (m - (n + 1))) (r (m - (n + 1))) else if r (m - (n + 1)) < fr then pLeast s r m n (nI (m - (n + 1))) (r (m - (n + 1))) else pLeast s r m n found fr) else pLeast s r m n found fr
theorem s10_least_7 (d : Nat) {s : Int32} {m : Nat} (h : aL M o m) (hm : m ≤ 32) : ∀ (n : Nat) (found : Int32) (fr : Int64), n ≤ m → f_X10_least_7 (d + 1) M s o found fr (nI (m - n)) = some (.inl (some (.int (pLeast s (mL M o) m n found fr))), M)
  | 0, found, fr, _ => by
    obtain ⟨h1, h2, h3⟩ := h
    rw [e_X10_least_7, lt_al_t (by omega), h2, if_neg (fun e => by have := (lt_iL (j := m - 0) (k := m) (by omega) (by omega)).mp e; omega)]
    rfl
  | n + 1, found, fr, hn => by
    have ih := fun found fr => s10_least_7 (s := s) d h hm n found fr (by omega)
    obtain ⟨h1, h2, h3⟩ := h
    have hs : nI (m - (n + 1)) + 1 = nI (m - n) := by
      have : nI (m - (n + 1)) + 1 = nI (m - (n + 1) + 1) := (lt_iA (j := m - (n + 1)) (k := 1))
      rw [this]
      congr 1
      omega
    have hin : 0 ≤ (nI (m - (n + 1))).toInt ∧ (nI (m - (n + 1))).toInt < (mZ M o : Int) := by rw [h2]; exact lt_iI (by omega) (by omega)
    rw [e_X10_least_7, lt_al_t (by omega), h2, if_pos ((lt_iL (by omega) h3).mpr (by omega)), hs]
    unfold pLeast
    by_cases hb : bt s (m - (n + 1)) = true
    · rw [if_neg (fun e => by rw [(bt_test (by omega)).mp e] at hb; cases hb), if_pos hb]
      by_cases hf : found = -1
      · rw [if_pos hf, if_pos hf, lt_ar_t h1 hin, lt_iN (by omega)]
        exact ih _ _
      · rw [if_neg hf, if_neg hf, lt_ar_t h1 hin, lt_iN (by omega)]
        by_cases hl : mL M o (m - (n + 1)) < fr
        · rw [if_pos (lt_cmp_neg.mpr hl), if_pos hl, lt_ar_t h1 hin]
          exact ih _ _
        · rw [if_neg (fun e => hl (lt_cmp_neg.mp e)), if_neg hl]
          exact ih _ _
    · rw [if_pos ((bt_test (by omega)).mpr (by simpa using hb)), if_neg hb]
      exact ih _ _
theorem s10_least (d : Nat) {s : Int32} {m : Nat} (h : aL M o m) (hm : m ≤ 32) : f_X10_least (d + 1) M s o = some (.inl (some (.int (pLeast s (mL M o) m m (-1) 0))), M) := by
  rw [e_X10_least]
  have := s10_least_7 (M := M) (o := o) d (s := s) h hm m (-1) 0 (Nat.le_refl _)
  rw [Nat.sub_self] at this
  exact this
end Hp
