/-! how many bits a set has -/
def nB (x : Nat) : Nat → Nat
  | 0 => 0
  | n + 1 => nB x n + (x.testBit n).toNat
section Pc
variable {x y l h m s w a b c n : Nat}
/-- a mask on a number in two parts -/
theorem pc_and (hl : l < 2 ^ w) (hs : s ≤ w) (hm : m < 2 ^ (w - s)) : ((2 ^ w * h + l) >>> s) &&& (2 ^ w * m + m) = 2 ^ w * ((h >>> s) &&& m) + ((l >>> s) &&& m) := by
  have hmw : m < 2 ^ w := Nat.lt_of_lt_of_le hm (Nat.pow_le_pow_right (by decide) (Nat.sub_le w s))
  have hlm : (l >>> s) &&& m < 2 ^ w := Nat.lt_of_le_of_lt Nat.and_le_right hmw
  refine Nat.eq_of_testBit_eq fun j => ?_
  rw [Nat.testBit_and, Nat.testBit_shiftRight, Nat.testBit_two_pow_mul_add _ hl, Nat.testBit_two_pow_mul_add _ hmw, Nat.testBit_two_pow_mul_add _ hlm]
  by_cases q : j < w
  · rw [if_pos q, if_pos q, Nat.testBit_and, Nat.testBit_shiftRight]
    by_cases q2 : s + j < w
    · rw [if_pos q2]
    · have : m.testBit j = false := Nat.testBit_lt_two_pow (Nat.lt_of_lt_of_le hm (Nat.pow_le_pow_right (by decide) (by omega)))
      rw [this, Bool.and_false, Bool.and_false]
  · rw [if_neg q, if_neg q, if_neg (by omega), Nat.testBit_and, Nat.testBit_shiftRight, show s + j - w = s + (j - w) by omega]
def pc1 (m x : Nat) : Nat := x - ((x >>> 1) &&& m)
def pc2 (m x : Nat) : Nat := (x &&& m) + ((x >>> 2) &&& m)
def pc3 (m x : Nat) : Nat := (x + (x >>> 4)) &&& m
theorem pc1_2 (hl : l < 2 ^ w) (hw : 1 ≤ w) (hm : m < 2 ^ (w - 1)) : pc1 (2 ^ w * m + m) (2 ^ w * h + l) = 2 ^ w * pc1 m h + pc1 m l := by
  unfold pc1
  rw [pc_and hl hw hm]
  have h1 : (h >>> 1) &&& m ≤ h := Nat.le_trans Nat.and_le_left (Nat.shiftRight_le h 1)
  have h2 : (l >>> 1) &&& m ≤ l := Nat.le_trans Nat.and_le_left (Nat.shiftRight_le l 1)
  have h3 : 2 ^ w * ((h >>> 1) &&& m) ≤ 2 ^ w * h := Nat.mul_le_mul_left _ h1
  rw [Nat.mul_sub]
  omega
theorem pc2_2 (hl : l < 2 ^ w) (hw : 2 ≤ w) (hm : m < 2 ^ (w - 2)) : pc2 (2 ^ w * m + m) (2 ^ w * h + l) = 2 ^ w * pc2 m h + pc2 m l := by
  unfold pc2
  have e := pc_and (h := h) hl hw hm
  have e0 := pc_and (s := 0) (h := h) hl (Nat.zero_le _) (show m < 2 ^ (w - 0) from Nat.lt_of_lt_of_le hm (Nat.pow_le_pow_right (by decide) (by omega)))
  rw [Nat.shiftRight_zero, Nat.shiftRight_zero, Nat.shiftRight_zero] at e0
  rw [e, e0, Nat.mul_add]
  omega
theorem and_mod (hm : m < 2 ^ w) : x &&& m = (x % 2 ^ w) &&& m := by
  refine Nat.eq_of_testBit_eq fun j => ?_
  rw [Nat.testBit_and, Nat.testBit_and, Nat.testBit_mod_two_pow]
  by_cases q : j < w
  · rw [decide_eq_true q, Bool.true_and]
  · have : m.testBit j = false := Nat.testBit_lt_two_pow (Nat.lt_of_lt_of_le hm (Nat.pow_le_pow_right (by decide) (by omega)))
    rw [this, Bool.and_false, Bool.and_false]
theorem pc3_16 (hl : l ≤ 17476) (hh : h % 16 ≤ 4) : pc3 252645135 (65536 * h + l) = 65536 * pc3 3855 h + pc3 3855 l := by
  unfold pc3
  have e1 : 65536 * h + l + (65536 * h + l) >>> 4 = 2 ^ 16 * (h + h >>> 4) + (l + l >>> 4 + 4096 * (h % 16)) := by
    rw [Nat.shiftRight_eq_div_pow, Nat.shiftRight_eq_div_pow, Nat.shiftRight_eq_div_pow]
    omega
  have h2 : l + l >>> 4 + 4096 * (h % 16) < 2 ^ 16 := by
    rw [Nat.shiftRight_eq_div_pow]
    omega
  have e2 := pc_and (w := 16) (s := 0) (m := 3855) (h := h + h >>> 4) (l := l + l >>> 4 + 4096 * (h % 16)) h2 (by omega) (by decide)
  rw [Nat.shiftRight_zero, Nat.shiftRight_zero, Nat.shiftRight_zero] at e2
  rw [e1, show (252645135 : Nat) = 2 ^ 16 * 3855 + 3855 by decide, e2, and_mod (x := l + l >>> 4 + 4096 * (h % 16)) (w := 12) (by decide), and_mod (x := l + l >>> 4) (w := 12) (by decide)]
  rw [show (l + l >>> 4 + 4096 * (h % 16)) % 2 ^ 12 = (l + l >>> 4) % 2 ^ 12 by omega]
theorem pc3_8 (hl : l ≤ 68) (hh : h % 16 ≤ 4) : pc3 3855 (256 * h + l) = 256 * pc3 15 h + pc3 15 l := by
  unfold pc3
  have e1 : 256 * h + l + (256 * h + l) >>> 4 = 2 ^ 8 * (h + h >>> 4) + (l + l >>> 4 + 16 * (h % 16)) := by
    rw [Nat.shiftRight_eq_div_pow, Nat.shiftRight_eq_div_pow, Nat.shiftRight_eq_div_pow]
    omega
  have h2 : l + l >>> 4 + 16 * (h % 16) < 2 ^ 8 := by
    rw [Nat.shiftRight_eq_div_pow]
    omega
  have e2 := pc_and (w := 8) (s := 0) (m := 15) (h := h + h >>> 4) (l := l + l >>> 4 + 16 * (h % 16)) h2 (by omega) (by decide)
  rw [Nat.shiftRight_zero, Nat.shiftRight_zero, Nat.shiftRight_zero] at e2
  rw [e1, show (3855 : Nat) = 2 ^ 8 * 15 + 15 by decide, e2, and_mod (x := l + l >>> 4 + 16 * (h % 16)) (w := 4) (by decide), and_mod (x := l + l >>> 4) (w := 4) (by decide)]
  rw [show (l + l >>> 4 + 16 * (h % 16)) % 2 ^ 4 = (l + l >>> 4) % 2 ^ 4 by omega]
def pcQ (l : Nat) : Bool :=
  Nat.ble (pc2 51 (pc1 85 l)) 68 && Nat.ble (pc2 51 (pc1 85 l) % 16) 4 && Nat.beq (pc3 15 (pc2 51 (pc1 85 l))) (nB l 8) && Nat.ble (nB l 8) 8
set_option maxRecDepth 100000 in
theorem pcQ_all : ∀ a, a < 256 → pcQ a = true := by decide +kernel
theorem nB_8 (hl : l < 256) : ∀ n, nB (256 * h + l) (8 + n) = nB l 8 + nB h n
  | 0 => by
    have e : ∀ k, k ≤ 8 → nB (256 * h + l) k = nB l k := by
      intro k
      induction k with
      | zero => intro _; rfl
      | succ k ih =>
        intro hk
        show nB (256 * h + l) k + ((256 * h + l).testBit k).toNat = nB l k + (l.testBit k).toNat
        rw [ih (by omega), show (256 : Nat) = 2 ^ 8 by decide, Nat.testBit_two_pow_mul_add _ (by omega), if_pos (by omega)]
    exact e 8 (Nat.le_refl _)
  | n + 1 => by
    show nB (256 * h + l) (8 + n) + ((256 * h + l).testBit (8 + n)).toNat = nB l 8 + (nB h n + (h.testBit n).toNat)
    rw [nB_8 hl n, show (256 : Nat) = 2 ^ 8 by decide, Nat.testBit_two_pow_mul_add _ (by omega), if_neg (by omega), show 8 + n - 8 = n by omega]
    omega
/-- of sixteen bits -/
def PcP (l : Nat) : Prop := pc2 13107 (pc1 21845 l) ≤ 17476 ∧ pc2 13107 (pc1 21845 l) % 16 ≤ 4 ∧ ∃ p0 p1, p0 ≤ 8 ∧ p1 ≤ 8 ∧ pc3 3855 (pc2 13107 (pc1 21845 l)) = 256 * p1 + p0 ∧ nB l 16 = p0 + p1
theorem pc1_le : pc1 m x ≤ x := Nat.sub_le _ _
theorem pcP_l {x : Nat} (hx : x < 65536) : PcP x := by
  have hl : x % 256 < 256 := by omega
  have hh : x / 256 < 256 := by omega
  have e : x = 2 ^ 8 * (x / 256) + x % 256 := by omega
  have pl := pcQ_all _ hl
  have ph := pcQ_all _ hh
  unfold pcQ at pl ph
  simp only [Bool.and_eq_true, Nat.ble_eq, Nat.beq_eq] at pl ph
  obtain ⟨⟨⟨l1, l2⟩, l3⟩, l4⟩ := pl
  obtain ⟨⟨⟨h1, h2⟩, h3⟩, h4⟩ := ph
  have s1 : pc1 21845 x = 2 ^ 8 * pc1 85 (x / 256) + pc1 85 (x % 256) := by
    conv => lhs; rw [e]
    exact pc1_2 (m := 85) hl (by decide) (by decide)
  have s2 : pc2 13107 (pc1 21845 x) = 256 * pc2 51 (pc1 85 (x / 256)) + pc2 51 (pc1 85 (x % 256)) := by
    rw [s1]
    exact pc2_2 (m := 51) (Nat.lt_of_le_of_lt pc1_le hl) (by decide) (by decide)
  have s3 := pc3_8 (l := pc2 51 (pc1 85 (x % 256))) (h := pc2 51 (pc1 85 (x / 256))) l1 h2
  have sn : nB x 16 = nB (x % 256) 8 + nB (x / 256) 8 := by
    have := nB_8 (l := x % 256) (h := x / 256) hl 8
    rwa [show 256 * (x / 256) + x % 256 = x by omega] at this
  unfold PcP
  rw [s2, s3, sn, l3, h3]
  exact ⟨by omega, by omega, _, _, l4, h4, rfl, rfl⟩
theorem nB_2 (hl : l < 65536) : ∀ n, nB (65536 * h + l) (16 + n) = nB l 16 + nB h n
  | 0 => by
    have e : ∀ k, k ≤ 16 → nB (65536 * h + l) k = nB l k := by
      intro k
      induction k with
      | zero => intro _; rfl
      | succ k ih =>
        intro hk
        show nB (65536 * h + l) k + ((65536 * h + l).testBit k).toNat = nB l k + (l.testBit k).toNat
        rw [ih (by omega), show (65536 : Nat) = 2 ^ 16 by decide, Nat.testBit_two_pow_mul_add _ (by omega), if_pos (by omega)]
    exact e 16 (Nat.le_refl _)
  | n + 1 => by
    show nB (65536 * h + l) (16 + n) + ((65536 * h + l).testBit (16 + n)).toNat = nB l 16 + (nB h n + (h.testBit n).toNat)
    rw [nB_2 hl n, show (65536 : Nat) = 2 ^ 16 by decide, Nat.testBit_two_pow_mul_add _ (by omega), if_neg (by omega), show 16 + n - 16 = n by omega]
    omega
def pcN (x : Nat) : Nat :=
  let i3 := pc3 252645135 (pc2 858993459 (pc1 1431655765 x))
  let i4 := i3 + i3 >>> 8
  (i4 + i4 >>> 16) &&& 63
theorem pcN_eq (hx : x < 4294967296) : pcN x = nB x 32 ∧ pc3 252645135 (pc2 858993459 (pc1 1431655765 x)) < 150994945 := by
  have hl : x % 65536 < 65536 := by omega
  have hh : x / 65536 < 65536 := by omega
  have e : x = 2 ^ 16 * (x / 65536) + x % 65536 := by omega
  obtain ⟨l1, l2, p0, p1, l3, l4, l5, l6⟩ := pcP_l hl
  obtain ⟨h1, h2, q0, q1, h3, h4, h5, h6⟩ := pcP_l hh
  have s1 : pc1 1431655765 x = 2 ^ 16 * pc1 21845 (x / 65536) + pc1 21845 (x % 65536) := by
    conv => lhs; rw [e]
    exact pc1_2 (m := 21845) hl (by decide) (by decide)
  have s2 : pc2 858993459 (pc1 1431655765 x) = 65536 * pc2 13107 (pc1 21845 (x / 65536)) + pc2 13107 (pc1 21845 (x % 65536)) := by
    rw [s1]
    exact pc2_2 (m := 13107) (Nat.lt_of_le_of_lt pc1_le hl) (by decide) (by decide)
  have s3 := pc3_16 (l := pc2 13107 (pc1 21845 (x % 65536))) (h := pc2 13107 (pc1 21845 (x / 65536))) l1 h2
  have sn : nB x 32 = nB (x % 65536) 16 + nB (x / 65536) 16 := by
    have := nB_2 (l := x % 65536) (h := x / 65536) hl 16
    rwa [show 65536 * (x / 65536) + x % 65536 = x by omega] at this
  have e3 : pc3 252645135 (pc2 858993459 (pc1 1431655765 x)) = p0 + 256 * p1 + 65536 * q0 + 16777216 * q1 := by
    rw [s2, s3, l5, h5]
    omega
  unfold pcN
  rw [e3, sn, l6, h6]
  refine ⟨?_, by omega⟩
  dsimp only
  rw [show (63 : Nat) = 2 ^ 6 - 1 by decide, Nat.and_two_pow_sub_one_eq_mod, Nat.shiftRight_eq_div_pow, Nat.shiftRight_eq_div_pow]
  rw [show (p0 + 256 * p1 + 65536 * q0 + 16777216 * q1) / 2 ^ 8 = p1 + 256 * q0 + 65536 * q1 by omega]
  rw [show (p0 + 256 * p1 + 65536 * q0 + 16777216 * q1 + (p1 + 256 * q0 + 65536 * q1)) / 2 ^ 16 = q0 + q1 + 256 * q1 by omega]
  omega
def uN (x : Int32) : Nat := x.toBitVec.toNat
theorem uN_lt {x : Int32} : uN x < 4294967296 := x.toBitVec.isLt
theorem uN_and {x y : Int32} : uN (x &&& y) = uN x &&& uN y := by
  unfold uN
  rw [Int32.toBitVec_and, BitVec.toNat_and]
theorem uN_add {x y : Int32} (h : uN x + uN y < 4294967296) : uN (x + y) = uN x + uN y := by
  unfold uN at *
  rw [Int32.toBitVec_add, BitVec.toNat_add]
  exact Nat.mod_eq_of_lt h
theorem uN_sub {x y : Int32} (h : uN y ≤ uN x) : uN (x - y) = uN x - uN y := by
  unfold uN at *
  rw [Int32.toBitVec_sub, BitVec.toNat_sub]
  have := x.toBitVec.isLt
  have := y.toBitVec.isLt
  omega
theorem uN_us {x : Int32} {n : Nat} (hn : n < 32) : uN (lt_us x (nI n)) = uN x >>> n := by
  unfold uN lt_us
  show (x.toUInt32 >>> ((nI n).toUInt32 &&& Int32.toUInt32 31)).toBitVec.toNat = _
  rw [UInt32.toBitVec_shiftRight]
  show (x.toUInt32.toBitVec >>> (((nI n).toUInt32 &&& Int32.toUInt32 31).toBitVec % 32).toNat).toNat = _
  rw [s_u n hn, BitVec.toNat_ushiftRight]
  rfl
/-- Integer.bitCount counts bits -/
theorem pPop_nB {x : Int32} : pPop x = nI (nB (uN x) 32) := by
  have hx := uN_lt (x := x)
  obtain ⟨e1, e2⟩ := pcN_eq hx
  have u1' : uN (lt_us x 1) = uN x >>> 1 := uN_us (n := 1) (by decide)
  have a1 : uN (x - (lt_us x 1 &&& 1431655765)) = pc1 1431655765 (uN x) := by
    have h : uN (lt_us x 1 &&& 1431655765) = (uN x >>> 1) &&& 1431655765 := by rw [uN_and, u1']; rfl
    rw [uN_sub (by rw [h]; exact Nat.le_trans Nat.and_le_left (Nat.shiftRight_le _ _)), h]
    rfl
  unfold pPop
  dsimp only
  generalize x - (lt_us x 1 &&& 1431655765) = i1 at *
  have a2 : uN ((i1 &&& 858993459) + (lt_us i1 2 &&& 858993459)) = pc2 858993459 (uN i1) := by
    have h1 : uN (i1 &&& 858993459) = uN i1 &&& 858993459 := by rw [uN_and]; rfl
    have h2 : uN (lt_us i1 2 &&& 858993459) = (uN i1 >>> 2) &&& 858993459 := by rw [uN_and, show uN (lt_us i1 2) = uN i1 >>> 2 from uN_us (n := 2) (by decide)]; rfl
    have h3 : uN i1 &&& 858993459 ≤ 858993459 := Nat.and_le_right
    have h4 : (uN i1 >>> 2) &&& 858993459 ≤ 858993459 := Nat.and_le_right
    rw [uN_add (by rw [h1, h2]; omega), h1, h2]
    rfl
  generalize (i1 &&& 858993459) + (lt_us i1 2 &&& 858993459) = i2 at *
  have a3 : uN ((i2 + lt_us i2 4) &&& 252645135) = pc3 252645135 (uN i2) := by
    have h2 : uN (lt_us i2 4) = uN i2 >>> 4 := uN_us (n := 4) (by decide)
    have h5 : uN i2 ≤ 1717986918 := by
      rw [a2]
      have h3 : uN i1 &&& 858993459 ≤ 858993459 := Nat.and_le_right
      have h4 : (uN i1 >>> 2) &&& 858993459 ≤ 858993459 := Nat.and_le_right
      unfold pc2
      omega
    have h6 : uN i2 >>> 4 ≤ uN i2 := Nat.shiftRight_le _ _
    have h7 : uN i2 >>> 4 = uN i2 / 16 := Nat.shiftRight_eq_div_pow _ _
    rw [uN_and, uN_add (by rw [h2]; omega), h2]
    rfl
  generalize (i2 + lt_us i2 4) &&& 252645135 = i3 at *
  rw [a1] at a2
  rw [a2] at a3
  have b3 : uN i3 < 150994945 := by rw [a3]; exact e2
  have h8 : uN (lt_us i3 8) = uN i3 >>> 8 := uN_us (n := 8) (by decide)
  have h9 : uN i3 >>> 8 ≤ uN i3 := Nat.shiftRight_le _ _
  have a4 : uN (i3 + lt_us i3 8) = uN i3 + uN i3 >>> 8 := by rw [uN_add (by rw [h8]; omega), h8]
  generalize i3 + lt_us i3 8 = i4 at *
  have h10 : uN (lt_us i4 16) = uN i4 >>> 16 := uN_us (n := 16) (by decide)
  have h11 : uN i4 >>> 16 ≤ uN i4 := Nat.shiftRight_le _ _
  have a5 : uN (i4 + lt_us i4 16) = uN i4 + uN i4 >>> 16 := by rw [uN_add (by rw [h10]; omega), h10]
  have a6 : uN ((i4 + lt_us i4 16) &&& 63) = nB (uN x) 32 := by
    rw [uN_and, a5, a4, ← e1]
    unfold pcN
    rw [a3]
    rfl
  have hn : nB (uN x) 32 < 4294967296 := by rw [← a6]; exact uN_lt
  refine Int32.toBitVec_inj.mp (BitVec.eq_of_toNat_eq ?_)
  show uN _ = (BitVec.ofNat 32 (nB (uN x) 32)).toNat
  rw [a6, BitVec.toNat_ofNat, Nat.mod_eq_of_lt (by omega)]
/-- how many of the first keys a set has -/
def nK (f : Nat → Bool) : Nat → Nat
  | 0 => 0
  | n + 1 => nK f n + (f n).toNat
theorem nB_bt {x : Int32} : ∀ n, nB (uN x) n = nK (bt x) n
  | 0 => rfl
  | n + 1 => by
    show nB (uN x) n + _ = nK (bt x) n + _
    rw [nB_bt n]
    rfl
theorem nK_le {f : Nat → Bool} : ∀ n, nK f n ≤ n
  | 0 => Nat.le_refl _
  | n + 1 => by
    have := nK_le (f := f) n
    have : (f n).toNat ≤ 1 := Bool.toNat_le _
    show nK f n + (f n).toNat ≤ n + 1
    omega
theorem nK_0 {f : Nat → Bool} {a : Nat} (h : ∀ k, a ≤ k → f k = false) : ∀ m, nK f (a + m) = nK f a
  | 0 => rfl
  | m + 1 => by
    show nK f (a + m) + (f (a + m)).toNat = nK f a
    rw [nK_0 h m, h (a + m) (by omega)]
    rfl
/-- a set of keys: no bit behind them -/
def KS (x : Int32) : Prop := ∀ k, 26 ≤ k → bt x k = false
theorem pPop_nK {x : Int32} (h : KS x) : pPop x = nI (nK (bt x) 26) := by
  rw [pPop_nB, nB_bt]
  exact congrArg nI (nK_0 h 6)
theorem KS_0 : KS 0 := fun k _ => b_0 k
theorem KS_bb {k : Nat} (hk : k < 26) : KS (bb k) := fun i hi => by
  by_cases q : i < 32
  · rw [bt_bb (by omega) q, decide_eq_false (by omega)]
  · exact b_big (by omega)
theorem KS_or {x y : Int32} (h : KS x) (g : KS y) : KS (x ||| y) := fun i hi => by rw [b_or, h i hi, g i hi]; rfl
theorem KS_and {x y : Int32} (h : KS x) : KS (x &&& y) := fun i hi => by rw [b_and, h i hi, Bool.false_and]
theorem KS_andr {x y : Int32} (h : KS y) : KS (x &&& y) := fun i hi => by rw [b_and, h i hi, Bool.and_false]
end Pc
