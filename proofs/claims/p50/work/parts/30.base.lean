/-! taken over from the rows of whole: what the class's rows rest on -/
section Base
variable {M : LM} {a c q : Nat} {i : Int32} {x : Option (LO × LM)}
theorem lt_ck_t (h : mK M a = c) : lt_ck M a c x = x := if_pos h
theorem lt_rf_t {o : Option Nat} {f : Nat → Option (LO × LM)} (h : o = some q) : lt_rf o f = f q := by rw [h]; rfl
theorem lt_ar_t (h : mK M a = c) (hi : 0 ≤ i.toInt ∧ i.toInt < (mZ M a : Int)) : lt_ar M a c i x = x := if_pos ⟨h, hi⟩
theorem lt_b1_0 : lt_b1 0 x = x := if_pos (Or.inl rfl)
theorem lt_b1_1 : lt_b1 1 x = x := if_pos (Or.inr rfl)
theorem lt_iT {k : Nat} (h : k < 2147483648) : (nI k).toInt = (k : Int) := by
  show (Int32.ofNat k).toInt = _
  exact Int32.toInt_ofNat_of_lt (by simpa using h)
theorem lt_iN {k : Nat} (h : k < 2147483648) : lt_n (nI k) = k := by
  show (nI k).toInt.toNat = k
  rw [lt_iT h]
  exact Int.toNat_natCast k
theorem lt_iA {j k : Nat} : nI j + nI k = nI (j + k) := (Int32.ofNat_add j k).symm
theorem lt_iM {j k : Nat} : nI j * nI k = nI (j * k) := (Int32.ofNat_mul j k).symm
theorem lt_iI {k n : Nat} (h : k < n) (hn : n ≤ 2147483647) : 0 ≤ (nI k).toInt ∧ (nI k).toInt < (n : Int) := by
  rw [lt_iT (by omega)]
  omega
theorem lt_iL {j k : Nat} (hj : j < 2147483648) (hk : k < 2147483648) : (nI j < nI k) ↔ j < k := by
  rw [Int32.lt_iff_toInt_lt, lt_iT hj, lt_iT hk]
  omega
theorem lt_iE {j k : Nat} (hj : j < 2147483648) (hk : k < 2147483648) : (nI j = nI k) ↔ j = k := by
  rw [← Int32.toInt_inj, lt_iT hj, lt_iT hk]
  omega
end Base
def bt (x : Int32) (i : Nat) : Bool := x.toBitVec.getLsbD i
theorem b_ext {x y : Int32} (h : ∀ i, i < 32 → bt x i = bt y i) : x = y := Int32.toBitVec_inj.mp (BitVec.eq_of_getLsbD_eq (fun i hi => h i hi))
theorem b_or (x y : Int32) (i : Nat) : bt (x ||| y) i = (bt x i || bt y i) := by unfold bt; rw [Int32.toBitVec_or, BitVec.getLsbD_or]
theorem b_and (x y : Int32) (i : Nat) : bt (x &&& y) i = (bt x i && bt y i) := by unfold bt; rw [Int32.toBitVec_and, BitVec.getLsbD_and]
theorem b_xor (x y : Int32) (i : Nat) : bt (x ^^^ y) i = (bt x i ^^ bt y i) := by unfold bt; rw [Int32.toBitVec_xor, BitVec.getLsbD_xor]
theorem b_big {x : Int32} {i : Nat} (h : 32 ≤ i) : bt x i = false := BitVec.getLsbD_of_ge _ _ h
theorem b_m1 : ∀ i, i < 32 → bt (-1) i = true := by decide +kernel
theorem b_0 (i : Nat) : bt 0 i = false := BitVec.getLsbD_zero
theorem s_l : ∀ n, n < 32 → ((nI n &&& 31).toBitVec.smod 32).toNat = n := by decide +kernel
theorem s_u : ∀ n, n < 32 → (((nI n).toUInt32 &&& Int32.toUInt32 31).toBitVec % 32).toNat = n := by decide +kernel
theorem b_shl (n : Nat) (hn : n < 32) (x : Int32) {i : Nat} (hi : i < 32) : bt (x <<< (nI n &&& 31)) i = (decide (n ≤ i) && bt x (i - n)) := by
  unfold bt
  rw [Int32.toBitVec_shiftLeft]
  show (x.toBitVec <<< ((nI n &&& 31).toBitVec.smod 32).toNat).getLsbD i = _
  rw [s_l n hn, BitVec.getLsbD_shiftLeft]
  rcases Nat.lt_or_ge i n with h | h
  · simp [h, Nat.not_le.mpr h]
  · simp [hi, h, Nat.not_lt.mpr h]
theorem b_sshr (n : Nat) (hn : n < 32) (x : Int32) {i : Nat} (hi : i < 32) : bt (x >>> (nI n &&& 31)) i = if n + i < 32 then bt x (n + i) else bt x 31 := by
  unfold bt
  rw [Int32.toBitVec_shiftRight]
  show (x.toBitVec.sshiftRight ((nI n &&& 31).toBitVec.smod 32).toNat).getLsbD i = _
  rw [s_l n hn, BitVec.getLsbD_sshiftRight, BitVec.msb_eq_getLsbD_last]
  simp [hi]
section Hp
variable {M : LM} {o k n : Nat} {x : Int32}
/-- the set of one key -/
def bb (k : Nat) : Int32 := 1 <<< (nI k &&& 31)
theorem bt_1 : ∀ i, bt 1 i = decide (i = 0) := by
  intro i
  by_cases h : i < 32
  · revert i; decide +kernel
  · rw [b_big (by omega)]
    exact (decide_eq_false (by omega)).symm
theorem bt_bb {i : Nat} (hk : k < 32) (hi : i < 32) : bt (bb k) i = decide (i = k) := by
  unfold bb
  rw [b_shl k hk 1 hi, bt_1]
  by_cases h1 : k ≤ i
  · by_cases h2 : i = k
    · subst h2; simp
    · rw [decide_eq_true h1, decide_eq_false h2, Bool.true_and]
      exact decide_eq_false (by omega)
  · rw [decide_eq_false h1, Bool.false_and]
    exact (decide_eq_false (by omega)).symm
theorem bt_test (hk : k < 32) : ((x >>> (nI k &&& 31)) &&& 1) = 0 ↔ bt x k = false := by
  have h0 : bt ((x >>> (nI k &&& 31)) &&& 1) 0 = bt x k := by
    rw [b_and, b_sshr k hk x (by omega), bt_1]
    simp [hk]
  constructor
  · intro h
    rw [h, b_0] at h0
    exact h0.symm
  · intro h
    apply b_ext
    intro i hi
    rw [b_0]
    by_cases h1 : i = 0
    · subst h1
      rw [h0]; exact h
    · rw [b_and, bt_1, decide_eq_false h1, Bool.and_false]
theorem lt_neg (hk : k < 2147483648) : ¬ nI k < 0 := by
  rw [Int32.lt_iff_toInt_lt, lt_iT hk]
  have z0 : (0 : Int32).toInt = 0 := rfl
  omega
theorem s10_bit (d : Nat) (hk : k < 26) : f_X10_bit (d + 1) M (nI k) = some (.inl (some (.int (bb k))), M) := by
  rw [e_X10_bit, if_neg (lt_neg (by omega)), if_pos (show nI k < 26 from (lt_iL (j := k) (k := 26) (by omega) (by omega)).mpr hk)]
  rfl
theorem s10_has (d : Nat) (hk : k < 26) : f_X10_has (d + 1) M x (nI k) = some (.inl (some (.int (if bt x k = true then 1 else 0))), M) := by
  rw [e_X10_has, if_neg (lt_neg (by omega)), if_pos (show nI k < 26 from (lt_iL (j := k) (k := 26) (by omega) (by omega)).mpr hk)]
  by_cases h : bt x k = true
  · rw [if_neg (fun e => by rw [(bt_test (by omega)).mp e] at h; cases h), if_pos h]
    exact lt_b1_1
  · rw [if_pos ((bt_test (by omega)).mpr (by simpa using h)), if_neg h]
    exact lt_b1_0
theorem lt_al_t {y : Option (LO × LM)} (h : 1 ≤ mK M o ∧ mK M o ≤ 9) : lt_al M o y = y := if_pos h
/-- an array of ints, of longs -/
def aI (M : LM) (o n : Nat) : Prop := mK M o = 1 ∧ mZ M o = n ∧ n < 2147483648
def aL (M : LM) (o n : Nat) : Prop := mK M o = 2 ∧ mZ M o = n ∧ n < 2147483648
theorem s10_at (d : Nat) (h : aI M o n) (hk : k < n) : f_X10_at (d + 1) M o (nI k) = some (.inl (some (.int (mI M o k))), M) := by
  obtain ⟨h1, h2, h3⟩ := h
  rw [e_X10_at, if_neg (lt_neg (by omega)), lt_al_t (by omega), h2, if_pos ((lt_iL (by omega) h3).mpr hk), lt_ar_t h1 (by rw [h2]; exact lt_iI hk (by omega)), lt_iN (by omega)]
theorem s10_atL (d : Nat) (h : aL M o n) (hk : k < n) : f_X10_at_ (d + 1) M o (nI k) = some (.inl (some (.long (mL M o k))), M) := by
  obtain ⟨h1, h2, h3⟩ := h
  rw [e_X10_at_, if_neg (lt_neg (by omega)), lt_al_t (by omega), h2, if_pos ((lt_iL (by omega) h3).mpr hk), lt_ar_t h1 (by rw [h2]; exact lt_iI hk (by omega)), lt_iN (by omega)]
theorem s10_put (d : Nat) (h : aI M o n) (hk : k < n) {v : Int32} : f_X10_put (d + 1) M o (nI k) v = some (.inl none, wI M o k v) := by
  obtain ⟨h1, h2, h3⟩ := h
  rw [e_X10_put, if_neg (lt_neg (by omega)), lt_al_t (by omega), h2, if_pos ((lt_iL (by omega) h3).mpr hk), lt_ar_t h1 (by rw [h2]; exact lt_iI hk (by omega)), lt_iN (by omega)]
  rfl
theorem s10_putL (d : Nat) (h : aL M o n) (hk : k < n) {v : Int64} : f_X10_put_ (d + 1) M o (nI k) v = some (.inl none, wL M o k v) := by
  obtain ⟨h1, h2, h3⟩ := h
  rw [e_X10_put_, if_neg (lt_neg (by omega)), lt_al_t (by omega), h2, if_pos ((lt_iL (by omega) h3).mpr hk), lt_ar_t h1 (by rw [h2]; exact lt_iI hk (by omega)), lt_iN (by omega)]
  rfl
theorem s10_add (d : Nat) (h : aI M o n) (hk : k < n) {v : Int32} : f_X10_add (d + 1) M o (nI k) v = some (.inl none, wI M o k (mI M o k + v)) := by
  obtain ⟨h1, h2, h3⟩ := h
  rw [e_X10_add, if_neg (lt_neg (by omega)), lt_al_t (by omega), h2, if_pos ((lt_iL (by omega) h3).mpr hk), lt_ar_t h1 (by rw [h2]; exact lt_iI hk (by omega)), lt_ar_t h1 (by rw [h2]; exact lt_iI hk (by omega)), lt_iN (by omega)]
  rfl
/-- the key of the set with the least rank, of like ones the lesser key -/
def pLeast (s : Int32) (r : Nat → Int64) (m : Nat) : Nat → Int32 → Int64 → Int32
  | 0, found, _ => found
  | n + 1, found, fr => if bt s (m - (n + 1)) = true then (if found = -1 then pLeast s r m n (nI (m - (n + 1))) (r (m - (n + 1))) else if r (m - (n + 1)) < fr then pLeast s r m n (nI (m - (n + 1))) (r (m - (n + 1))) else pLeast s r m n found fr) else pLeast s r m n found fr
theorem s10_least_7 (d : Nat) {s : Int32} {m : Nat} (h : aL M o m) (hm : m ≤ 32) : ∀ (n : Nat) (found : Int32) (fr : Int64), n ≤ m → f_X10_least_7 (d + 1) M s o found fr (nI (m - n)) = some (.inl (some (.int (pLeast s (mL M o) m n found fr))), M)
  | 0, found, fr, _ => by
    obtain ⟨h1, h2, h3⟩ := h
    rw [e_X10_least_7, lt_al_t (by omega), h2, if_neg (fun e => by have := (lt_iL (j := m - 0) (k := m) (by omega) (by omega)).mp e; omega)]
    rfl
  | n + 1, found, fr, hn => by
    have ih := fun found fr => s10_least_7 (s := s) d h hm n found fr (by omega)
    obtain ⟨h1, h2, h3⟩ := h
    have hs : nI (m - (n + 1)) + 1 = nI (m - n) := by
      have : nI (m - (n + 1)) + 1 = nI (m - (n + 1) + 1) := (lt_iA (j := m - (n + 1)) (k := 1))
      rw [this]
      congr 1
      omega
    have hin : 0 ≤ (nI (m - (n + 1))).toInt ∧ (nI (m - (n + 1))).toInt < (mZ M o : Int) := by rw [h2]; exact lt_iI (by omega) (by omega)
    rw [e_X10_least_7, lt_al_t (by omega), h2, if_pos ((lt_iL (by omega) h3).mpr (by omega)), hs]
    unfold pLeast
    by_cases hb : bt s (m - (n + 1)) = true
    · rw [if_neg (fun e => by rw [(bt_test (by omega)).mp e] at hb; cases hb), if_pos hb]
      by_cases hf : found = -1
      · rw [if_pos hf, if_pos hf, lt_ar_t h1 hin, lt_iN (by omega)]
        exact ih _ _
      · rw [if_neg hf, if_neg hf, lt_ar_t h1 hin, lt_iN (by omega)]
        by_cases hl : mL M o (m - (n + 1)) < fr
        · rw [if_pos (lt_cmp_neg.mpr hl), if_pos hl, lt_ar_t h1 hin]
          exact ih _ _
        · rw [if_neg (fun e => hl (lt_cmp_neg.mp e)), if_neg hl]
          exact ih _ _
    · rw [if_pos ((bt_test (by omega)).mpr (by simpa using hb)), if_neg hb]
      exact ih _ _
theorem s10_least (d : Nat) {s : Int32} {m : Nat} (h : aL M o m) (hm : m ≤ 32) : f_X10_least (d + 1) M s o = some (.inl (some (.int (pLeast s (mL M o) m m (-1) 0))), M) := by
  rw [e_X10_least]
  have := s10_least_7 (M := M) (o := o) d (s := s) h hm m (-1) 0 (Nat.le_refl _)
  rw [Nat.sub_self] at this
  exact this
end Hp
/-- the keys' object o: sizes, costs, owners -/
def kA (M : LM) (o s c w : Nat) : Prop := mK M o = 19 ∧ mP M o 0 = some s ∧ mP M o 1 = some c ∧ mP M o 2 = some w ∧ aI M s 26 ∧ aI M c 26 ∧ aI M w 26
def pSum (set : Int32) (S : Nat → Int32) : Nat → Int32 → Int32
  | 0, acc => acc
  | n + 1, acc => pSum set S n (if bt set (25 - n) = true then acc + S (25 - n) else acc)
def pOwn (W : Nat → Int32) (x : Int32) : Nat → Int32 → Int32
  | 0, set => set
  | n + 1, set => pOwn W x n (if W (25 - n) = x then set ||| bb (25 - n) else set)
section Ky
variable {M : LM} {o s c w k : Nat} {x : Int32}
theorem lt_suc {n : Nat} (hn : n + 1 ≤ 26) : nI (26 - (n + 1)) = nI (25 - n) ∧ nI (25 - n) + 1 = nI (26 - n) ∧ nI (25 - n) < nI 26 := by
  refine ⟨by congr 1; omega, ?_, (lt_iL (by omega) (by omega)).mpr (by omega)⟩
  have : nI (25 - n) + 1 = nI (25 - n + 1) := (lt_iA (j := 25 - n) (k := 1))
  rw [this]
  congr 1
  omega
theorem s3_units_4 (d : Nat) (h : kA M o s c w) : ∀ (n : Nat) (acc : Int32), n ≤ 26 → f_X3_units_4 (d + 1) M o x acc (nI (26 - n)) = some (.inl (some (.int (pSum x (mI M s) n acc))), M)
  | 0, acc, _ => by
    obtain ⟨h0, h1, h2, h3, ⟨h4, h5, h6⟩, -⟩ := h
    rw [e_X3_units_4, lt_ck_t h0, lt_rf_t h1, lt_al_t (by omega), h5, if_neg (fun e => by have := (lt_iL (j := 26 - 0) (k := 26) (by omega) (by omega)).mp e; omega)]
    rfl
  | n + 1, acc, hn => by
    have ih := fun acc => s3_units_4 d h n acc (by omega)
    obtain ⟨h0, h1, h2, h3, ⟨h4, h5, h6⟩, -⟩ := h
    obtain ⟨g1, g2, g3⟩ := lt_suc hn
    rw [g1, e_X3_units_4, lt_ck_t h0, lt_rf_t h1, lt_al_t (by omega), h5, if_pos g3, g2]
    unfold pSum
    by_cases hb : bt x (25 - n) = true
    · rw [if_neg (fun e => by rw [(bt_test (by omega)).mp e] at hb; cases hb), if_pos hb, lt_ck_t h0, lt_rf_t h1, lt_ar_t h4 (by rw [h5]; exact lt_iI (by omega) (by omega)), lt_iN (by omega)]
      exact ih _
    · rw [if_pos ((bt_test (by omega)).mpr (by simpa using hb)), if_neg hb]
      exact ih _
theorem s3_units (d : Nat) (h : kA M o s c w) : f_X3_units (d + 1) M o x = some (.inl (some (.int (pSum x (mI M s) 26 0))), M) := by
  rw [e_X3_units]
  exact s3_units_4 d h 26 0 (Nat.le_refl _)
theorem s3_ofOwner_4 (d : Nat) (h : kA M o s c w) : ∀ (n : Nat) (set : Int32), n ≤ 26 → f_X3_ofOwner_4 (d + 1) M o x set (nI (26 - n)) = some (.inl (some (.int (pOwn (mI M w) x n set))), M)
  | 0, acc, _ => by
    obtain ⟨h0, h1, h2, h3, -, -, h4, h5, h6⟩ := h
    rw [e_X3_ofOwner_4, lt_ck_t h0, lt_rf_t h3, lt_al_t (by omega), h5, if_neg (fun e => by have := (lt_iL (j := 26 - 0) (k := 26) (by omega) (by omega)).mp e; omega)]
    rfl
  | n + 1, acc, hn => by
    have ih := fun acc => s3_ofOwner_4 d h n acc (by omega)
    obtain ⟨h0, h1, h2, h3, -, -, h4, h5, h6⟩ := h
    obtain ⟨g1, g2, g3⟩ := lt_suc hn
    rw [g1, e_X3_ofOwner_4, lt_ck_t h0, lt_rf_t h3, lt_al_t (by omega), h5, if_pos g3, g2, lt_ck_t h0, lt_rf_t h3, lt_ar_t h4 (by rw [h5]; exact lt_iI (by omega) (by omega)), lt_iN (by omega)]
    unfold pOwn
    by_cases hb : mI M w (25 - n) = x
    · rw [if_pos hb, if_pos hb]
      exact ih _
    · rw [if_neg hb, if_neg hb]
      exact ih _
theorem s3_ofOwner (d : Nat) (h : kA M o s c w) : f_X3_ofOwner (d + 1) M o x = some (.inl (some (.int (pOwn (mI M w) x 26 0))), M) := by
  rw [e_X3_ofOwner]
  exact s3_ofOwner_4 d h 26 0 (Nat.le_refl _)
theorem s3_worthOf (d : Nat) (h : kA M o s c w) (hk : k < 26) (hs : 0 < mI M s k) : f_X3_worthOf (d + 2) M o (nI k) = some (.inl (some (.int (840 * mI M c k / mI M s k))), M) := by
  obtain ⟨h0, h1, h2, h3, h4, h5, h6⟩ := h
  have e1 := s10_at d h4 hk
  have e2 := s10_at d h5 hk
  rw [e_X3_worthOf, lt_ck_t h0, lt_rf_t h1, e1]
  show (if _ then _ else _) = _
  rw [if_pos hs, lt_ck_t h0, lt_rf_t h2, e2]
  exact if_neg (fun e => by rw [e] at hs; exact absurd hs (by decide))
end Ky
section RS
variable {M : LM} {o a u w k j : Nat} {v x y : Int32} {S S' : Nat → Int32} {β : Type}
/-- the row as it is -/
theorem wRI_id : wRI M a (mI M a) = M := by
  refine Prod.ext (funext fun b => ?_) rfl
  show (if b = a then mI M a else mI M b) = mI M b
  by_cases hb : b = a
  · rw [if_pos hb, hb]
  · rw [if_neg hb]
end RS
section RS2
variable {M : LM} {o a u w k j q : Nat} {v x y : Int32} {S S' : Nat → Int32}
theorem upd_s {i : Nat} : upd S i v i = v := if_pos rfl
theorem upd_o {i : Nat} (h : j ≠ i) : upd S i v j = S j := if_neg h
theorem lt_nz_t {Y : Option (LO × LM)} (h : ¬ x = 0) : lt_nz x Y = Y := if_neg h
end RS2
def cA (M : LM) (C : Nat) : Prop := (mK M C = 17 ∧ mP M C 4 = some (C + 1) ∧ mP M C 13 = some (C + 2) ∧ mP M C 14 = some (C + 3) ∧ mP M C 15 = some (C + 4) ∧ mP M C 16 = some (C + 5) ∧ mP M C 17 = some (C + 6) ∧ mP M C 18 = some (C + 13) ∧ mP M C 19 = some (C + 14)) ∧
  (mK M (C + 6) = 24 ∧ mP M (C + 6) 0 = some (C + 7) ∧ mP M (C + 6) 1 = some (C + 8) ∧ mP M (C + 6) 2 = some (C + 9) ∧ mP M (C + 6) 3 = some (C + 10) ∧ mP M (C + 6) 4 = some (C + 11) ∧ mP M (C + 6) 5 = some (C + 12)) ∧
  (mK M (C + 13) = 21 ∧ mK M (C + 14) = 21) ∧
  (aI M (C + 1) 4 ∧ aI M (C + 2) 26 ∧ aL M (C + 3) 26 ∧ aL M (C + 4) 26 ∧ aL M (C + 5) 26 ∧ aI M (C + 7) 9 ∧ aI M (C + 8) 26 ∧ aI M (C + 9) 26 ∧ aI M (C + 10) 300 ∧ aL M (C + 11) 26 ∧ aL M (C + 12) 26)
section Ca
variable {M : LM} {C k a i : Nat} {v : Int32} {y : Int64}
theorem lt_bi_r {x : Int32} {M : LM} {hl : List (Nat × Int32)} {K : Int32 → LM → Option (LO × LM)} : lt_bi (some (.inl (some (.int x)), M)) hl K = K x M := rfl
theorem lt_bl_r {x : Int64} {M : LM} {hl : List (Nat × Int32)} {K : Int64 → LM → Option (LO × LM)} : lt_bl (some (.inl (some (.long x)), M)) hl K = K x M := rfl
theorem lt_bv_r {M : LM} {hl : List (Nat × Int32)} {K : LM → Option (LO × LM)} : lt_bv (some (.inl none, M)) hl K = K M := rfl
end Ca
section Ta
variable {M : LM} {C k r : Nat} {x : Int32}
/-- the rank by fewest, behind one more request -/
def pRank (y : Int64) (r : Int32) : Int64 := (y / 300 + 1) * 300 + Int32.toInt64 r
theorem c_rank (d : Nat) {y : Int64} {x : Int32} : f_X10_rankAskedAgain (d + 1) M y x = some (.inl (some (.long (pRank y x))), M) := by
  rw [e_X10_rankAskedAgain]
  exact if_neg (by decide)
end Ta
section Ce
variable {M : LM} {C K s c w k : Nat} {these beyond : Int32}
def pGo (W : Nat → Nat) (these beyond : Int32) : Nat → Int32 → Int32
  | 0, t => if t = 0 then these else t
  | n + 1, t => if beyond = 0 then (if t = 0 then these else t) else pGo W these beyond n (if bt beyond (W (25 - n)) = true then t ||| (these &&& bb (25 - n)) else t)
theorem c_canGo_22 (d : Nat) (hK : kA M K s c w) {W : Nat → Nat} (hW : ∀ k, k < 26 → mI M w k = nI (W k) ∧ W k < 4) : ∀ (n : Nat) (t : Int32), n ≤ 26 → f_X1_canGo_22 (d + 2) M K these beyond t (nI (26 - n)) = some (.inl (some (.int (pGo W these beyond n t))), M)
  | 0, t, _ => by
    rw [e_X1_canGo_22, if_neg (by decide)]
    unfold pGo
    by_cases ht : t = 0
    · rw [if_pos ht, if_pos ht]
    · rw [if_neg ht, if_neg ht]
  | n + 1, t, hn => by
    have ih := fun t => c_canGo_22 d hK hW n t (by omega)
    obtain ⟨g1, g2, g3⟩ := lt_suc hn
    have g4 : nI (25 - n) < 26 := g3
    rw [g1, e_X1_canGo_22, if_pos g4]
    unfold pGo
    by_cases hb : beyond = 0
    · rw [if_pos hb, if_pos hb]
      by_cases ht : t = 0
      · rw [if_pos ht, if_pos ht]
      · rw [if_neg ht, if_neg ht]
    · rw [if_neg hb, if_neg hb, lt_ck_t hK.1, lt_rf_t hK.2.2.2.1, s10_at d hK.2.2.2.2.2.2 (by omega), lt_bi_r, (hW (25 - n) (by omega)).1, g2]
      have hw4 := (hW (25 - n) (by omega)).2
      by_cases hq : bt beyond (W (25 - n)) = true
      · rw [if_neg (fun e => by rw [(bt_test (by omega)).mp e] at hq; cases hq), if_pos hq, s10_bit d (by omega), lt_bi_r]
        exact ih _
      · rw [if_pos ((bt_test (by omega)).mpr (by simpa using hq)), if_neg hq]
        exact ih _
end Ce
section Cf
variable {M : LM} {C K s c w k : Nat} {these : Int32}
def pLst (t : Int32) (r : Nat → Int64) : Int32 := pLeast t r 26 26 (-1) 0
def pMax1 (x : Int32) : Int32 := if 1 < x / 4 then x / 4 else 1
def pChoose (M : LM) (C s : Nat) (these : Int32) : Int32 :=
  if Int32.toInt (mI M C 0) = 1 then pLst these (mL M (C + 12)) else if Int32.toInt (mI M C 0) = 2 then pLst these (mL M (C + 4))
  else if Int32.toInt (mI M C 0) = 3 then (if these &&& (mI M C 7 ^^^ -1) = 0 then pLst these (mL M (C + 4)) else pLst (these &&& (mI M C 7 ^^^ -1)) (mL M (C + 4)))
  else if Int32.toInt (mI M C 0) = 4 then (if these &&& (mI M C 8 ^^^ -1) = 0 then pLst (these &&& mI M C 8) (mL M (C + 3)) else if pMax1 (mI M C 1) < pSum (mI M C 5 &&& (mI M C 8 ^^^ -1)) (mI M s) 26 0 ∨ these &&& mI M C 8 = 0 then pLst (these &&& (mI M C 8 ^^^ -1)) (mL M (C + 4)) else pLst (these &&& mI M C 8) (mL M (C + 3)))
  else if Int32.toInt (mI M C 0) = 5 then pLst these (mL M (C + 5)) else if Int32.toInt (mI M C 0) = 6 then (if mI M (C + 14) 1 < mI M (C + 13) 1 then pLst these (mL M (C + 12)) else pLst these (mL M (C + 3))) else pLst these (mL M (C + 3))
theorem c_leans (d : Nat) (h : cA M C) : f_X1_leansToLastUse (d + 1) M C = some (.inl (some (.int (if mI M (C + 14) 1 < mI M (C + 13) 1 then 0 else 1))), M) := by
  obtain ⟨⟨a1, a2, a3, a4, a5, a6, a7, a8, a9⟩, -, ⟨u1, u2⟩, -⟩ := h
  rw [e_X1_leansToLastUse, lt_ck_t a1, lt_rf_t a8, lt_ck_t u1, lt_ck_t a1, lt_rf_t a9, lt_ck_t u2]
  by_cases hl : mI M (C + 14) 1 < mI M (C + 13) 1
  · rw [if_pos hl, if_pos hl]; exact lt_b1_0
  · rw [if_neg hl, if_neg hl]; exact lt_b1_1
theorem c_choose (d : Nat) (h : cA M C) (hK : kA M K s c w) : f_X1_choose (d + 2) M C K these = some (.inl (some (.int (pChoose M C s these))), M) := by
  have h' := h
  obtain ⟨⟨a1, a2, a3, a4, a5, a6, a7, a8, a9⟩, ⟨t1, t2, t3, t4, t5, t6, t7⟩, ⟨u1, u2⟩, ⟨b1, b2, b3, b4, b5, b6, b7, b8, b9, b10, b11⟩⟩ := h
  have fin : ∀ (a : Nat) (t : Int32), aL M a 26 → (lt_bi (f_X10_least (d + 1) M t a) [] fun v M => some (.inl (some (.int v)), M)) = some (Sum.inl (some (Value.int (pLst t (mL M a)))), M) := fun a t ha => by
    rw [s10_least d ha (by omega)]
    rfl
  rw [e_X1_choose, lt_ck_t a1]
  unfold pChoose
  by_cases r1 : Int32.toInt (mI M C 0) = 1
  · rw [if_pos r1, if_pos r1, lt_ck_t a1, lt_rf_t a7, lt_ck_t t1, lt_rf_t t7]
    exact fin _ _ b11
  rw [if_neg r1, if_neg r1]
  by_cases r2 : Int32.toInt (mI M C 0) = 2
  · rw [if_pos r2, if_pos r2, lt_ck_t a1, lt_rf_t a5]
    exact fin _ _ b4
  rw [if_neg r2, if_neg r2]
  by_cases r3 : Int32.toInt (mI M C 0) = 3
  · rw [if_pos r3, if_pos r3, lt_ck_t a1]
    by_cases q : these &&& (mI M C 7 ^^^ -1) = 0
    · rw [if_pos q, if_pos q, lt_ck_t a1, lt_rf_t a5]
      exact fin _ _ b4
    · rw [if_neg q, if_neg q, lt_ck_t a1, lt_rf_t a5]
      exact fin _ _ b4
  rw [if_neg r3, if_neg r3]
  by_cases r4 : Int32.toInt (mI M C 0) = 4
  · have emax : f_J9_max_7cf53 (d + 1) M 1 (mI M C 1 / 4) = some (.inl (some (.int (pMax1 (mI M C 1)))), M) := by
      rw [e_J9_max_7cf53]
      unfold pMax1
      by_cases q : (1 : Int32) < mI M C 1 / 4
      · rw [if_pos q, if_pos q]
      · rw [if_neg q, if_neg q]
    rw [if_pos r4, if_pos r4, lt_ck_t a1, lt_ck_t a1, lt_ck_t a1, lt_ck_t a1, lt_ck_t hK.1, s3_units d hK, lt_bi_r, lt_ck_t a1, lt_nz_t (show ¬ (4 : Int32) = 0 by decide), emax, lt_bi_r]
    by_cases q1 : these &&& (mI M C 8 ^^^ -1) = 0
    · by_cases q2 : pMax1 (mI M C 1) < pSum (mI M C 5 &&& (mI M C 8 ^^^ -1)) (mI M s) 26 0
      · rw [if_pos q2, if_pos q1, if_pos q1, lt_ck_t a1, lt_rf_t a4]
        exact fin _ _ b3
      · rw [if_neg q2, if_pos q1, if_pos q1, lt_ck_t a1, lt_rf_t a4]
        exact fin _ _ b3
    · by_cases q2 : pMax1 (mI M C 1) < pSum (mI M C 5 &&& (mI M C 8 ^^^ -1)) (mI M s) 26 0
      · rw [if_pos q2, if_neg q1, if_neg q1, if_neg (show ¬ (1 : Int32) = 0 by decide), if_pos (Or.inl q2), lt_ck_t a1, lt_rf_t a5]
        exact fin _ _ b4
      · rw [if_neg q2, if_neg q1, if_neg q1, if_pos rfl]
        by_cases q3 : these &&& mI M C 8 = 0
        · rw [if_pos q3, if_pos (Or.inr q3), lt_ck_t a1, lt_rf_t a5]
          exact fin _ _ b4
        · rw [if_neg q3, if_neg (fun e => e.elim q2 q3), lt_ck_t a1, lt_rf_t a4]
          exact fin _ _ b3
  rw [if_neg r4, if_neg r4]
  by_cases r5 : Int32.toInt (mI M C 0) = 5
  · rw [if_pos r5, if_pos r5, lt_ck_t a1, lt_rf_t a6]
    exact fin _ _ b5
  rw [if_neg r5, if_neg r5]
  by_cases r6 : Int32.toInt (mI M C 0) = 6
  · rw [if_pos r6, if_pos r6, lt_ck_t a1, c_leans d h', lt_bi_r]
    by_cases q : mI M (C + 14) 1 < mI M (C + 13) 1
    · rw [if_pos q, if_pos q, if_pos rfl, lt_ck_t a1, lt_rf_t a7, lt_ck_t t1, lt_rf_t t7]
      exact fin _ _ b11
    · rw [if_neg q, if_neg q, if_neg (by decide), lt_ck_t a1, lt_rf_t a4]
      exact fin _ _ b3
  rw [if_neg r6, if_neg r6, lt_ck_t a1, lt_rf_t a4]
  exact fin _ _ b3
end Cf
section Ch
variable {M : LM} {K s c w k o R : Nat} {x y room wanted : Int32}
theorem wI_same {a i : Nat} : wI (wI M a i x) a i y = wI M a i y := by
  refine Prod.ext (funext fun b => funext fun q => ?_) rfl
  show (if b = a ∧ q = i then y else (if b = a ∧ q = i then x else mI M b q)) = if b = a ∧ q = i then y else mI M b q
  by_cases hb : b = a ∧ q = i
  · rw [if_pos hb, if_pos hb]
  · rw [if_neg hb, if_neg hb, if_neg hb]
def pBit (x : Int32) : Int32 := if x < 0 then 0 else if x < 26 then 1 <<< (x &&& 31) else 0
theorem s10_bitG (d : Nat) : f_X10_bit (d + 1) M x = some (.inl (some (.int (pBit x))), M) := by
  rw [e_X10_bit]
  unfold pBit
  by_cases h1 : x < 0
  · rw [if_pos h1, if_pos h1]
  · rw [if_neg h1, if_neg h1]
    by_cases h2 : x < 26
    · rw [if_pos h2, if_pos h2]
    · rw [if_neg h2, if_neg h2]
/-- keys go until there is room -/
def pShed (S : Nat → Int32) (r : Nat → Int64) (room wanted : Int32) : Nat → Int32 → Int32
  | 0, held => held
  | n + 1, held => if room < pSum held S 26 0 + wanted then pShed S r room wanted n (held &&& (pBit (pLst held r) ^^^ -1)) else held
theorem c_feed_42 (d : Nat) (hk : k < 26) (hs : s ≠ o) : ∀ (n : Nat) (M : LM), n ≤ 26 → mK M o = 21 → kA M K s c w → aL M R 26 → f_X5_feed_42 (d + 2) M o (nI k) K room R wanted (nI (26 - n)) = some (.inl none, wI M o 0 (pShed (mI M s) (mL M R) room wanted n (mI M o 0) ||| bb k))
  | 0, M, _, h0, hK, hR => by
    rw [e_X5_feed_42, if_neg (by decide), lt_ck_t h0, s10_bit d hk, lt_bi_r, lt_ck_t h0]
    rfl
  | n + 1, M, hn, h0, hK, hR => by
    obtain ⟨g1, g2, g3⟩ := lt_suc hn
    have g4 : nI (25 - n) < 26 := g3
    rw [g1, e_X5_feed_42, if_pos g4, lt_ck_t h0, lt_ck_t hK.1, s3_units d hK, lt_bi_r, g2]
    unfold pShed
    by_cases hl : room < pSum (mI M o 0) (mI M s) 26 0 + wanted
    · rw [if_pos hl, if_pos hl, lt_ck_t h0, lt_ck_t h0, s10_least d hR (by omega), lt_bi_r, s10_bitG, lt_bi_r, lt_ck_t h0]
      have ih := c_feed_42 d hk hs n (wI M o 0 (mI M o 0 &&& (pBit (pLst (mI M o 0) (mL M R)) ^^^ -1))) (by omega) h0 hK hR
      rw [wI_same, mI_wI_ne hs, mI_wI, if_pos ⟨rfl, rfl⟩] at ih
      exact ih
    · rw [if_neg hl, if_neg hl, lt_ck_t h0, s10_bit d hk, lt_bi_r, lt_ck_t h0]
      rfl
def pFeedS (M : LM) (o s R k : Nat) (room : Int32) : LM :=
  if bt (mI M o 0) k = true then M else
    let M1 := wI M o 1 (mI M o 1 + 1)
    if room < mI M s k then M1 else wI M1 o 0 (pShed (mI M s) (mL M R) room (mI M s k) 26 (mI M o 0) ||| bb k)
theorem c_feedS (d : Nat) (hk : k < 26) (hs : s ≠ o) (h0 : mK M o = 21) (hK : kA M K s c w) (hR : aL M R 26) : f_X5_feed (d + 2) M o (nI k) K room R = some (.inl none, pFeedS M o s R k room) := by
  rw [e_X5_feed, lt_ck_t h0, s10_has d hk, lt_bi_r]
  unfold pFeedS
  by_cases hb : bt (mI M o 0) k = true
  · rw [if_pos hb, if_neg (by decide), if_pos hb]
  · rw [if_neg hb, if_pos rfl, if_neg hb, lt_ck_t h0, lt_ck_t h0]
    simp only [lt_m]
    refine (lt_ck_t (M := wI M o 1 (mI M o 1 + 1)) hK.1).trans ?_
    rw [lt_rf_t (show mP (wI M o 1 (mI M o 1 + 1)) K 0 = some s from hK.2.1), s10_at (M := wI M o 1 (mI M o 1 + 1)) d hK.2.2.2.2.1 hk, lt_bi_r, mI_wI_ne hs]
    by_cases hl : room < mI M s k
    · rw [if_pos hl, if_pos hl]
    · rw [if_neg hl, if_neg hl]
      have e := c_feed_42 (k := k) (room := room) (wanted := mI M s k) d hk hs 26 (wI M o 1 (mI M o 1 + 1)) (Nat.le_refl _) h0 hK hR
      rw [mI_wI_ne hs, mI_wI (b := o) (j := 0), if_neg (by omega)] at e
      exact e
end Ch
section Cj
variable {M : LM} {C K s c w k : Nat} {these x : Int32}
def pPop (x : Int32) : Int32 :=
  let i1 := x - (lt_us x 1 &&& 1431655765)
  let i2 := (i1 &&& 858993459) + (lt_us i1 2 &&& 858993459)
  let i3 := (i2 + lt_us i2 4) &&& 252645135
  let i4 := i3 + lt_us i3 8
  let i5 := i4 + lt_us i4 16
  i5 &&& 63
theorem c_pop (d : Nat) : f_J6_bitCount_0f7a4 (d + 1) M x = some (.inl (some (.int (pPop x))), M) := by
  rw [e_J6_bitCount_0f7a4]
  rfl
end Cj
section Ck
variable {M : LM} {C K s c w k : Nat} {these x : Int32}
theorem c_maxL (d : Nat) {y z : Int64} : f_J9_max_f86c9 (d + 1) M y z = some (.inl (some (.long (if y < z then z else y))), M) := by
  rw [e_J9_max_f86c9]
  by_cases h : y < z
  · rw [if_pos (lt_cmp_neg.mpr h), if_pos h]
  · rw [if_neg (fun e => h (lt_cmp_neg.mp e)), if_neg h]
end Ck
section Rf
variable {M : LM} {o j k u w t q c : Nat} {H : Nat → Int32} {V X : Nat → Nat → Int32} {U : Nat → Int32} {v : Int32} {β : Type}
theorem x_rf {f : Nat → Option β} : lt_rf (some q) f = f q := rfl
theorem x_m {f : LM → β} : lt_m M f = f M := rfl
theorem x_if1 {α : Type} {p : Prop} [Decidable p] {x z : α} : (if (if p then (1 : Int32) else 0) = 0 then x else z) = if p then z else x := by
  by_cases h : p
  · rw [if_pos h, if_pos h, if_neg (by decide)]
  · rw [if_neg h, if_neg h, if_pos rfl]
theorem x_eq1 {α : Type} {p : Prop} [Decidable p] {x z : α} : (if (if p then (1 : Int32) else 0) = 1 then x else z) = if p then x else z := by
  by_cases h : p
  · rw [if_pos h, if_pos h, if_pos rfl]
  · rw [if_neg h, if_neg h, if_neg (by decide)]
theorem x_10 : ((1 : Int32) = 0) = False := eq_false (by decide)
theorem x_01 : ((0 : Int32) = 1) = False := eq_false (by decide)
theorem x_11 : ((1 : Int32) = 1) = True := eq_true rfl
theorem x_00 : ((0 : Int32) = 0) = True := eq_true rfl
theorem u2_eq {F : Nat → Nat → Int32} : u2 F t j v t j = v := if_pos ⟨rfl, rfl⟩
theorem u2_n1 {F : Nat → Nat → Int32} {t' : Nat} (h : t' ≠ t) : u2 F t j v t' = F t' := funext fun i => if_neg fun e => h e.1
end Rf
def bI (b : Bool) : Int32 := if b = true then 1 else 0
def oI : Option Nat → Int32
  | none => -1
  | some k => nI k
section Rh
variable {M : LM} {o j k u w : Nat} {H : Nat → Int32} {V X : Nat → Nat → Int32} {U : Nat → Int32} {v : Int32}
theorem nI_ltP {j k : Nat} (hj : j < 2147483648) (hk : k < 2147483648) : (nI j < nI k) = (j < k) := propext (lt_iL hj hk)
theorem nI_ne1 (hk : k < 2147483648) : (nI k = -1) = False := eq_false (fun e => by
  have h1 := lt_iT hk
  rw [e] at h1
  have : (-1 : Int32).toInt = -1 := by decide
  omega)
theorem oI_n : oI none = -1 := rfl
theorem oI_s : oI (some k) = nI k := rfl
theorem lt_end : ¬ nI (26 - 0) < (26 : Int32) := by decide
theorem lt_suc2 {n : Nat} (hn : n + 1 ≤ 26) : nI (25 - n) < (26 : Int32) := (lt_suc hn).2.2
/-- scratch: what a unit's methods leave alone of the other cells -/
def XS (X X' : Nat → Nat → Int32) : Prop := (∀ t, t ≠ 0 → (t < 9 ∨ 13 < t) → X' t = X t) ∧ ∀ j, j ≠ 8 → X' 0 j = X 0 j
theorem XS.trans {X' X'' : Nat → Nat → Int32} (h1 : XS X X') (h2 : XS X' X'') : XS X X'' := ⟨fun t a b => (h2.1 t a b).trans (h1.1 t a b), fun j a => (h2.2 j a).trans (h1.2 j a)⟩
end Rh
/-- of the requests from f to t (t left out): how many ask a key, and the latest of them -/
def cntTo (kf : Nat → Nat) (k f : Nat) : Nat → Nat
  | 0 => 0
  | t + 1 => if f ≤ t ∧ kf t = k then cntTo kf k f t + 1 else cntTo kf k f t
def lastTo (kf : Nat → Nat) (k f : Nat) : Nat → Option Nat
  | 0 => none
  | t + 1 => if f ≤ t ∧ kf t = k then some t else lastTo kf k f t
theorem cntTo_le {kf : Nat → Nat} {k f : Nat} : ∀ t, cntTo kf k f t ≤ t
  | 0 => Nat.le_refl _
  | t + 1 => by
    have := cntTo_le (kf := kf) (k := k) (f := f) t
    unfold cntTo
    split <;> omega
theorem lastTo_0 {kf : Nat → Nat} {k f : Nat} : ∀ t, t ≤ f → lastTo kf k f t = none
  | 0, _ => rfl
  | t + 1, h => by
    unfold lastTo
    rw [if_neg (by omega)]
    exact lastTo_0 t (by omega)
theorem lastTo_lt {kf : Nat → Nat} {k f i : Nat} : ∀ t, lastTo kf k f t = some i → i < t ∧ f ≤ i ∧ kf i = k
  | 0, h => by cases h
  | t + 1, h => by
    unfold lastTo at h
    split at h
    · rename_i hc
      cases h
      exact ⟨by omega, hc.1, hc.2⟩
    · have := lastTo_lt t h
      exact ⟨by omega, this.2⟩
section Rj
variable {M : LM} {o j k u w y : Nat} {H : Nat → Int32} {V X : Nat → Nat → Int32} {U : Nat → Int32} {v : Int32} {kf : Nat → Nat} {kept : Option Nat}
theorem bI_t : bI true = 1 := rfl
theorem bI_f : bI false = 0 := rfl
end Rj
/-- the first of the keys that can, by an order -/
def qStep (lt : Nat → Nat → Bool) (k : Nat) : Option Nat → Option Nat
  | none => some k
  | some j => if lt k j = true then some k else some j
def qFst (can : Nat → Bool) (lt : Nat → Nat → Bool) : Nat → Option Nat → Option Nat
  | 0, b => b
  | n + 1, b => qFst can lt n (if can (25 - n) = true then qStep lt (25 - n) b else b)
section Rk
variable {M : LM} {o i j k u w y : Nat} {H : Nat → Int32} {V X : Nat → Nat → Int32} {U : Nat → Int32} {v r : Int32} {kf : Nat → Nat} {kept : Option Nat}
theorem j_max (d : Nat) {x y : Int32} {M : LM} : f_J9_max_7cf53 (d + 1) M x y = some (.inl (some (.int (if x < y then y else x))), M) := by
  rw [e_J9_max_7cf53]
  split <;> rfl
end Rk
theorem qFst_congr {can can' : Nat → Bool} {lt lt' : Nat → Nat → Bool} (hc : ∀ k, k < 26 → can k = can' k) (hl : ∀ i j, i < 26 → j < 26 → can i = true → can j = true → lt i j = lt' i j) : ∀ (n : Nat) (b : Option Nat), n ≤ 26 → (∀ j, b = some j → j < 26 ∧ can j = true) → qFst can lt n b = qFst can' lt' n b
  | 0, b, _, _ => rfl
  | n + 1, b, hn, hb => by
    show qFst can lt n (if can (25 - n) = true then qStep lt (25 - n) b else b) = qFst can' lt' n (if can' (25 - n) = true then qStep lt' (25 - n) b else b)
    have e : (if can (25 - n) = true then qStep lt (25 - n) b else b) = (if can' (25 - n) = true then qStep lt' (25 - n) b else b) := by
      rw [← hc (25 - n) (by omega)]
      by_cases hcc : can (25 - n) = true
      · rw [if_pos hcc, if_pos hcc]
        cases b with
        | none => rfl
        | some j =>
          have := hb j rfl
          show (if lt (25 - n) j = true then some (25 - n) else some j) = if lt' (25 - n) j = true then some (25 - n) else some j
          rw [hl (25 - n) j (by omega) this.1 hcc this.2]
      · rw [if_neg hcc, if_neg hcc]
    rw [← e]
    refine qFst_congr hc hl n _ (by omega) ?_
    intro j
    split
    · rename_i hcc
      cases b with
      | none => intro e; cases e; exact ⟨by omega, hcc⟩
      | some i =>
        show (if lt (25 - n) i = true then some (25 - n) else some i) = some j → _
        split
        · intro e; cases e; exact ⟨by omega, hcc⟩
        · intro e; cases e; exact hb _ rfl
    · exact hb j
/-- what is first can -/
theorem qFst_can {can : Nat → Bool} {lt : Nat → Nat → Bool} : ∀ (n : Nat) (b : Option Nat), n ≤ 26 → (∀ j, b = some j → j < 26 ∧ can j = true) → ∀ j, qFst can lt n b = some j → j < 26 ∧ can j = true
  | 0, b, _, h => h
  | n + 1, b, hn, h => by
    refine qFst_can n _ (by omega) ?_
    intro j
    split
    · rename_i hcc
      cases b with
      | none => intro e; cases e; exact ⟨by omega, hcc⟩
      | some i =>
        show (if lt (25 - n) i = true then some (25 - n) else some i) = some j → _
        split
        · intro e; cases e; exact ⟨by omega, hcc⟩
        · intro e; cases e; exact h _ rfl
    · exact h j
/-- there is a first if one can -/
theorem qFst_some {can : Nat → Bool} {lt : Nat → Nat → Bool} : ∀ (n : Nat) (b : Option Nat), n ≤ 26 → (b ≠ none ∨ ∃ k, k < 26 ∧ 26 - n ≤ k ∧ can k = true) → qFst can lt n b ≠ none
  | 0, b, _, h => by
    rcases h with h | ⟨k, h1, h2, -⟩
    · exact h
    · omega
  | n + 1, b, hn, h => by
    refine qFst_some n _ (by omega) ?_
    by_cases hcc : can (25 - n) = true
    · left
      rw [if_pos hcc]
      cases b with
      | none => intro e; cases e
      | some i =>
        show (if lt (25 - n) i = true then some (25 - n) else some i) ≠ none
        split <;> (intro e; cases e)
    · rw [if_neg hcc]
      rcases h with h | ⟨k, h1, h2, h3⟩
      · exact Or.inl h
      · refine Or.inr ⟨k, h1, ?_, h3⟩
        by_cases e : k = 25 - n
        · rw [e] at h3; exact absurd h3 hcc
        · omega
section Rp
variable {M : LM} {o i j k u w y f t c : Nat} {H : Nat → Int32} {V V' X : Nat → Nat → Int32} {U U' P m A B : Nat → Int32} {v r st ln w' : Int32} {kf fs : Nat → Nat} {kept : Option Nat}
/-- what changes of the other cells where units are fed: scratch, and how far the row is told -/
def XT (X X' : Nat → Nat → Int32) : Prop := (∀ t, t ≠ 0 → (t < 9 ∨ 13 < t) → X' t = X t) ∧ ∀ j, j ≠ 8 → j ≠ 4 → X' 0 j = X 0 j
theorem XT.of {X' : Nat → Nat → Int32} (h : XS X X') : XT X X' := ⟨h.1, fun j a _ => h.2 j a⟩
theorem XT.trans {X' X'' : Nat → Nat → Int32} (h1 : XT X X') (h2 : XT X' X'') : XT X X'' := ⟨fun t a b => (h2.1 t a b).trans (h1.1 t a b), fun j a b => (h2.2 j a b).trans (h1.2 j a b)⟩
end Rp
def qIn (v a b : Int32) : Bool := !decide (v < a) && !decide (b < v)
section Rs
variable {M M' : LM} {o i j k u w y f t c q n : Nat} {H : Nat → Int32} {V V' X : Nat → Nat → Int32} {S : Nat → Int32} {p : Nat → Nat} {g : Nat → Option Nat} {v a b e : Int32} {z : Option (LO × LM)}
theorem qIn_k (hq : qIn v 0 25 = true) : ∃ k, k < 26 ∧ v = nI k := by
  unfold qIn at hq
  rw [Bool.and_eq_true_iff] at hq
  obtain ⟨h1, h2⟩ := hq
  have h1' : ¬ v < 0 := by simpa using h1
  have h2' : ¬ (25 : Int32) < v := by simpa using h2
  rw [Int32.lt_iff_toInt_lt] at h1' h2'
  have z0 : (0 : Int32).toInt = 0 := rfl
  have z1 : (25 : Int32).toInt = 25 := by decide
  refine ⟨v.toInt.toNat, by omega, ?_⟩
  rw [← Int32.toInt_inj, lt_iT (by omega)]
  omega
end Rs
section Rt
variable {M M' : LM} {o i j k u w y f t c q n x : Nat} {H : Nat → Int32} {V V' X : Nat → Nat → Int32} {S : Nat → Int32} {p : Nat → Nat} {g : Nat → Option Nat} {v a b e : Int32} {z : Option (LO × LM)} {kf fs : Nat → Nat}
/-- what drawing changes of the other cells too -/
def XD (X X' : Nat → Nat → Int32) : Prop := (∀ t, t ≠ 0 → (t < 9 ∨ 13 < t) → X' t = X t) ∧ ∀ j, j ≠ 8 → j ≠ 4 → j ≠ 25 → X' 0 j = X 0 j
theorem XD.of {X X' : Nat → Nat → Int32} (h : XT X X') : XD X X' := ⟨h.1, fun j a b _ => h.2 j a b⟩
theorem XD.trans {X X' X'' : Nat → Nat → Int32} (h1 : XD X X') (h2 : XD X' X'') : XD X X'' := ⟨fun t a b => (h2.1 t a b).trans (h1.1 t a b), fun j a b c => (h2.2 j a b c).trans (h1.2 j a b c)⟩
end Rt
def XO (X X' : Nat → Nat → Int32) : Prop := (∀ t, t ≠ 0 → (t < 9 ∨ 14 < t) → X' t = X t) ∧ ∀ j, j ≠ 8 → j ≠ 12 → X' 0 j = X 0 j
section Rw
variable {M M' : LM} {o i j k u w y f t c q n x m : Nat} {H : Nat → Int32} {V V' X : Nat → Nat → Int32} {S U W A : Nat → Int32} {p : Nat → Nat} {g : Nat → Option Nat} {v a b e r : Int32} {z : Option (LO × LM)} {kf fs : Nat → Nat} {lt : Nat → Nat → Bool}
theorem XO.of {X' : Nat → Nat → Int32} (h : XS X X') : XO X X' := ⟨fun t a b => h.1 t a (by omega), fun j a _ => h.2 j a⟩
theorem XO.trans {X' X'' : Nat → Nat → Int32} (h1 : XO X X') (h2 : XO X' X'') : XO X X'' := ⟨fun t a b => (h2.1 t a b).trans (h1.1 t a b), fun j a b => (h2.2 j a b).trans (h1.2 j a b)⟩
end Rw
/-- the next request from one on that asks a key: n if there is none; m: how many are left -/
def nextTo (kf : Nat → Nat) (n k : Nat) : Nat → Nat
  | 0 => n
  | m + 1 => if kf (n - (m + 1)) = k then n - (m + 1) else nextTo kf n k m
def qLastZ (kf : Nat → Nat) (k t : Nat) : Nat := match lastTo kf k 0 t with
  | none => 0
  | some i => i
/-- whether one key goes ahead of another, behind the requests ahead of i -/
def qGA (kf : Nat → Nat) (n : Nat) (rule : Int32) (came : Nat → Int32) (i one other : Nat) : Bool :=
  if rule = 2 then decide (came one < came other) else
  if rule = -1 then (decide (nextTo kf n other (n - i) < nextTo kf n one (n - i)) || (decide (nextTo kf n other (n - i) = nextTo kf n one (n - i)) && decide (other < one))) else
  if rule = 1 ∧ cntTo kf one 0 i ≠ cntTo kf other 0 i then decide (cntTo kf one 0 i < cntTo kf other 0 i) else decide (qLastZ kf one i < qLastZ kf other i)
/-- a play: hits, how many held, which, since when, the one put out last -/
def qPlay1 (kf : Nat → Nat) (n : Nat) (rule : Int32) (size i : Nat) (s : Nat × Nat × (Nat → Bool) × (Nat → Int32) × Option Nat) : Nat × Nat × (Nat → Bool) × (Nat → Int32) × Option Nat :=
  if s.2.2.1 (kf i) = true then (s.1 + 1, s.2.1, s.2.2.1, s.2.2.2.1, none) else
  if s.2.1 = size then (s.1, s.2.1, (fun k => if k = kf i then true else if qFst s.2.2.1 (qGA kf n rule s.2.2.2.1 i) 26 none = some k then false else s.2.2.1 k), upd s.2.2.2.1 (kf i) (nI i), qFst s.2.2.1 (qGA kf n rule s.2.2.2.1 i) 26 none) else
  (s.1, s.2.1 + 1, (fun k => if k = kf i then true else s.2.2.1 k), upd s.2.2.2.1 (kf i) (nI i), none)
def qPlays (kf : Nat → Nat) (n : Nat) (rule : Int32) (size t : Nat) : Nat → (Nat × Nat × (Nat → Bool) × (Nat → Int32) × Option Nat) → (Nat × Nat × (Nat → Bool) × (Nat → Int32) × Option Nat)
  | 0, s => s
  | m + 1, s => qPlays kf n rule size t m (qPlay1 kf n rule size (t - (m + 1)) s)
/-- what plays change of the other cells -/
def XQ (X X' : Nat → Nat → Int32) : Prop := (∀ t, t ≠ 0 → t ≠ 18 → t ≠ 19 → X' t = X t) ∧ ∀ j, j ≠ 28 → j ≠ 29 → X' 0 j = X 0 j
def qDist (kf : Nat → Nat) (x : Nat) : Nat → Int32 → Int32
  | 0, _ => -1
  | j + 1, set => if kf j = x then 1 + pPop set else qDist kf x j (set ||| bb (kf j))
section Rz
variable {M M' : LM} {o i j k u w y f t c q n x m size : Nat} {H : Nat → Int32} {V V' X : Nat → Nat → Int32} {S U W A came : Nat → Int32} {v a b e r rule : Int32} {z : Option (LO × LM)} {kf fs : Nat → Nat} {lt : Nat → Nat → Bool}
theorem XQ.trans {X' X'' : Nat → Nat → Int32} (h1 : XQ X X') (h2 : XQ X' X'') : XQ X X'' := ⟨fun t a b c => (h2.1 t a b c).trans (h1.1 t a b c), fun j a b => (h2.2 j a b).trans (h1.2 j a b)⟩
theorem qLastZ_lt : qLastZ kf k i ≤ i := by
  unfold qLastZ
  split
  · omega
  · rename_i j h
    have := lastTo_lt _ h
    omega
theorem qLastZ_s : qLastZ kf k (i + 1) = if kf i = k then i else qLastZ kf k i := by
  unfold qLastZ
  rw [show lastTo kf k 0 (i + 1) = if 0 ≤ i ∧ kf i = k then some i else lastTo kf k 0 i from rfl]
  by_cases q : kf i = k
  · rw [if_pos ⟨by omega, q⟩, if_pos q]
  · rw [if_neg (fun e => q e.2), if_neg q]
/-- plays() from the start -/
def qPlay (kf : Nat → Nat) (n : Nat) (rule : Int32) (size t : Nat) (c0 : Nat → Int32) : Nat × Nat × (Nat → Bool) × (Nat → Int32) × Option Nat := qPlays kf n rule size t t (0, 0, (fun _ => false), c0, none)
/-- hits by last use: by distances -/
def qHL (kf : Nat → Nat) (n : Nat) (size : Int32) : Nat → Int32 → Int32
  | 0, z => z
  | m + 1, z => qHL kf n size m (z + bI (qIn (qDist kf (kf (n - (m + 1))) (n - (m + 1)) 0) 1 size))
/-- hitsOf() -/
def qHits2 (kf : Nat → Nat) (n : Nat) (rule : Int32) (size : Nat) (c0 : Nat → Int32) : Int32 := if rule = 0 then qHL kf n (nI size) n 0 else nI (qPlay kf n rule size n c0).1
end Rz
section Sa
variable {M M' : LM} {o i j k u w y f t c q n x m size : Nat} {H : Nat → Int32} {V V' X : Nat → Nat → Int32} {S U W A came : Nat → Int32} {v a b e r rule : Int32} {z : Option (LO × LM)} {kf fs : Nat → Nat} {lt : Nat → Nat → Bool}
def qHA (kf : Nat → Nat) (key : Nat) (size : Int32) : Nat → Int32 → Bool
  | 0, _ => false
  | j + 1, set => if kf j = key then decide (pPop set < size) else qHA kf key size j (set ||| bb (kf j))
/-- phases -/
def qPh (kf : Nat → Nat) (size : Int32) (t : Nat) : Nat → Int32 → Int32 → Int32
  | 0, ph, _ => ph
  | m + 1, ph, set => if size < pPop (set ||| bb (kf (t - m))) then qPh kf size t m (ph + 1) (bb (kf (t - m))) else qPh kf size t m ph (set ||| bb (kf (t - m)))
def qPhases (kf : Nat → Nat) (size : Int32) (n : Nat) : Int32 := if n = 0 then 0 else qPh kf size (n - 1) n 0 0 + 1
end Sa
section Sb
variable {M M' : LM} {o i j k u w y f t c q n x m size : Nat} {H : Nat → Int32} {V V' X : Nat → Nat → Int32} {S U W A came c0 c1 : Nat → Int32} {v a b e r rule : Int32} {z : Option (LO × LM)} {kf fs : Nat → Nat} {lt : Nat → Nat → Bool}
/-- hits, by a rule -/
def qHt (kf : Nat → Nat) (n : Nat) (rule : Int32) (size : Nat) : Int32 := qHits2 kf n rule size (fun _ => 0)
/-- whether a size keeps what is promised -/
def qErr1 (kf : Nat → Nat) (n size : Nat) : Bool :=
  !decide (qHt kf n (-1) size < qHt kf n 0 size) && !decide (qHt kf n (-1) size < qHt kf n 1 size) && !decide (qHt kf n (-1) size < qHt kf n 2 size) && !decide (nI n - qHt kf n (-1) size < qPhases kf (nI size) n) &&
  decide (nI (qPlay kf n 0 size n (fun _ => 0)).1 = qHt kf n 0 size) && (decide (size ≤ 1) || (!decide (qHt kf n 0 size < qHt kf n 0 (size - 1)) && !decide (qHt kf n 1 size < qHt kf n 1 (size - 1))))
def qErrs (kf : Nat → Nat) (n : Nat) : Nat → Int32 → Int32
  | 0, z => z
  | m + 1, z => qErrs kf n m (z + if qErr1 kf n (12 - m) = true then 0 else 1)
end Sb
def pX (X : Nat → Nat → Int32) (a e : Int32) : Nat → Nat → Int32 := u2 (u2 X 0 21 a) 0 22 e
section Sc
variable {M M' : LM} {o i j k u w y f t n x m a len : Nat} {H : Nat → Int32} {V V' X : Nat → Nat → Int32} {T : Nat → Int32} {v b c e r a' e' : Int32} {z : Option (LO × LM)} {kf fs : Nat → Nat}
theorem p16 : pX X b e 16 = X 16 := (u2_n1 (by omega)).trans (u2_n1 (by omega))
theorem j_min (d : Nat) {x y : Int32} {M : LM} : f_J9_min_7cf53 (d + 1) M x y = some (.inl (some (.int (if y < x then y else x))), M) := by
  rw [e_J9_min_7cf53]
  by_cases q : y < x
  · rw [if_pos q]
    by_cases q2 : x ≤ y
    · exfalso
      rw [Int32.lt_iff_toInt_lt] at q
      rw [Int32.le_iff_toInt_le] at q2
      omega
    · first | (rw [if_neg q2]) | (rw [if_pos q]) | rfl
  · rw [if_neg q]
    first | (rw [if_pos (by rw [Int32.le_iff_toInt_le]; rw [Int32.lt_iff_toInt_lt] at q; omega)]) | (rw [if_neg q]) | rfl
end Sc
/-- what this changes of the other cells -/
def XE (X X' : Nat → Nat → Int32) : Prop := (∀ t, t ≠ 0 → (t < 9 ∨ 13 < t) → X' t = X t) ∧ ∀ j, j ≠ 8 → j ≠ 4 → j ≠ 21 → X' 0 j = X 0 j
section Se
variable {M M' : LM} {o i j k u w y f t n x m a len : Nat} {H : Nat → Int32} {V V' X X' : Nat → Nat → Int32} {T : Nat → Int32} {v b c e r a' e' many : Int32} {z : Option (LO × LM)} {kf fs : Nat → Nat} {p : Nat → Nat}
theorem XE.of (h : XT X X') : XE X X' := ⟨h.1, fun j a b _ => h.2 j a b⟩
theorem XE.trans {X'' : Nat → Nat → Int32} (h1 : XE X X') (h2 : XE X' X'') : XE X X'' := ⟨fun t a b => (h2.1 t a b).trans (h1.1 t a b), fun j a b c => (h2.2 j a b c).trans (h1.2 j a b c)⟩
end Se
def qTK (m key : Nat) (K : Nat → Nat) : Nat → Nat := fun i => if i + 1 < m then K (i + 1) else if i + 1 = m then key else K i
def qTB (m : Nat) (B : Nat → Bool) : Nat → Bool := fun i => if i + 1 < m then B (i + 1) else if i + 1 = m then false else B i
/-- turned until one without a mark stands first -/
def qSpin (m : Nat) : Nat → (Nat → Nat) → (Nat → Bool) → (Nat → Nat) × (Nat → Bool)
  | 0, K, B => (K, B)
  | f + 1, K, B => if B 0 = true then qSpin m f (qTK m (K 0) K) (qTB m B) else (K, B)
def qHitQ (K : Nat → Nat) (key : Nat) : Nat → Bool
  | 0 => false
  | m + 1 => qHitQ K key m || decide (K m = key)
def qMk (mk : Bool) (key : Nat) (K : Nat → Nat) (B : Nat → Bool) : Nat → Bool := fun i => B i || (mk && decide (K i = key))
/-- one more request in a queue -/
def qStp (mk : Bool) (room key : Nat) (s : Nat × (Nat → Nat) × (Nat → Bool)) : Bool × Nat × (Nat → Nat) × (Nat → Bool) :=
  if qHitQ s.2.1 key s.1 = true then (true, s.1, s.2.1, qMk mk key s.2.1 s.2.2) else
  if s.1 = room then (false, s.1, qTK s.1 key (qSpin s.1 s.1 s.2.1 (qMk mk key s.2.1 s.2.2)).1, qTB s.1 (qSpin s.1 s.1 s.2.1 (qMk mk key s.2.1 s.2.2)).2) else
  (false, s.1 + 1, (fun i => if i = s.1 then key else s.2.1 i), (fun i => if i = s.1 then false else qMk mk key s.2.1 s.2.2 i))
section Sg
variable {M M' : LM} {o i j k u w y f t n x m a len q room key : Nat} {H : Nat → Int32} {V V' X X' : Nat → Nat → Int32} {v b e r a' e' many : Int32} {z : Option (LO × LM)} {K : Nat → Nat} {B : Nat → Bool} {mk : Bool}
/-- what a turning or a step changes: the queue at a place -/
def XK (q : Nat) (X X' : Nat → Nat → Int32) : Prop := (∀ t, t ≠ 21 + q → t ≠ 48 + q → t ≠ 74 → X' t = X t) ∧ ∀ j, j ≠ q → X' 74 j = X 74 j
theorem XK.trans {X'' : Nat → Nat → Int32} (h1 : XK q X X') (h2 : XK q X' X'') : XK q X X'' := ⟨fun t a b c => (h2.1 t a b c).trans (h1.1 t a b c), fun j a => (h2.2 j a).trans (h1.2 j a)⟩
theorem hb1 {b : Bool} {z : Option (LO × LM)} : lt_b1 (bI b) z = z := by cases b <;> rfl
end Sg
abbrev QQ : Type := Nat × (Nat → Nat) × (Nat → Bool)
def firstKey (F : Nat → Option (List Nat)) (lim : Nat) : Nat → Option (List Nat)
  | 0 => none
  | n + 1 => match F (lim - (n + 1)) with
    | some l => some ((lim - (n + 1)) :: l)
    | none => firstKey F lim n
def qFinds (mk : Bool) (r0 r1 keys : Nat) : Nat → Nat → Int32 → QQ → QQ → Option (List Nat)
  | 0, _, b, _, _ => if b < 0 then some [] else none
  | rem + 1, used, b, q0, q1 => if b < nI (rem + 1) then
      firstKey (fun key => qFinds mk r0 r1 keys rem (if used < key + 1 then key + 1 else used) (b + bI (qStp mk r1 key q1).1 - bI (qStp mk r0 key q0).1) (qStp mk r0 key q0).2 (qStp mk r1 key q1).2) (if used + 1 ≤ keys then used + 1 else keys) (if used + 1 ≤ keys then used + 1 else keys)
    else none
/-- what a search from a depth on changes -/
def XF (dep : Nat) (X X' : Nat → Nat → Int32) : Prop :=
  (∀ t, (t < 21 ∨ 73 < t ∨ (t < 48 ∧ t < 23 + 2 * dep) ∨ (48 ≤ t ∧ t < 50 + 2 * dep)) → t ≠ 74 → t ≠ 76 → X' t = X t) ∧ (∀ j, j < 2 * dep + 2 → X' 74 j = X 74 j) ∧ ∀ j, j < dep → X' 76 j = X 76 j
section Si
variable {M M' : LM} {o i j k u w y f t n x m a q room key dep : Nat} {H : Nat → Int32} {V V' X X' : Nat → Nat → Int32} {v b e r a' e' many : Int32} {z : Option (LO × LM)} {K : Nat → Nat} {B : Nat → Bool} {mk : Bool} {q0 q1 : QQ}
theorem XF.trans {X'' : Nat → Nat → Int32} (h1 : XF dep X X') (h2 : XF dep X' X'') : XF dep X X'' := ⟨fun t a b c => (h2.1 t a b c).trans (h1.1 t a b c), fun j a => (h2.2.1 j a).trans (h1.2.1 j a), fun j a => (h2.2.2 j a).trans (h1.2.2 j a)⟩
end Si
def qShame (mk : Bool) (r0 r1 keys most : Nat) : Nat → Option (List Nat)
  | 0 => none
  | n + 1 => match qFinds mk r0 r1 keys (most - n) 0 0 (0, (fun _ => 0), fun _ => false) (0, (fun _ => 0), fun _ => false) with
    | some l => some l
    | none => qShame mk r0 r1 keys most n
/-- what a search changes of the other cells -/
def XW (X X' : Nat → Nat → Int32) : Prop := (∀ t, t ≠ 0 → t ≠ 17 → (t < 21 ∨ 76 < t) → X' t = X t) ∧ ∀ j, j ≠ 24 → X' 0 j = X 0 j
section Sj
variable {M M' : LM} {o i j k u w y f t n x m a q room key dep : Nat} {H : Nat → Int32} {V V' X X' : Nat → Nat → Int32} {v b e r a' e' many : Int32} {z : Option (LO × LM)} {mk : Bool}
theorem XW.trans {X'' : Nat → Nat → Int32} (h1 : XW X X') (h2 : XW X' X'') : XW X X'' := ⟨fun t a b c => (h2.1 t a b c).trans (h1.1 t a b c), fun j a => (h2.2 j a).trans (h1.2 j a)⟩
def qLen : Option (List Nat) → Int32
  | none => -1
  | some l => nI l.length
end Sj
