/-! CALLS that change: setKey(), draw(), undo() -/
section Rf
variable {M : LM} {o j k u w t q c : Nat} {H : Nat → Int32} {V X : Nat → Nat → Int32} {U : Nat → Int32} {v : Int32} {β : Type}
theorem r_nz {x : Option β} (h : v ≠ 0) : lt_nz v x = x := if_neg h
end Rf
def qDr (x m : Int32) : Int32 := lt_us x 16 - lt_us x 16 / m * m
section Rt
variable {M M' : LM} {o i j k u w y f t c q n x : Nat} {H : Nat → Int32} {V V' X : Nat → Nat → Int32} {S : Nat → Int32} {p : Nat → Nat} {g : Nat → Option Nat} {v a b e : Int32} {z : Option (LO × LM)} {kf fs : Nat → Nat}
theorem us16 {x : Int32} : ∃ m, m < 65536 ∧ lt_us x 16 = nI m := by
  have e1 : lt_us x 16 = (x.toUInt32 >>> (16 : UInt32)).toInt32 := rfl
  have e2 : (x.toUInt32 >>> (16 : UInt32)).toNat = x.toUInt32.toNat >>> 16 := UInt32.toNat_shiftRight ..
  have e3 := x.toUInt32.toNat_lt
  rw [Nat.shiftRight_eq_div_pow] at e2
  refine ⟨(x.toUInt32 >>> (16 : UInt32)).toNat, by rw [e2]; omega, ?_⟩
  rw [e1, ← Int32.toBitVec_inj]
  show (x.toUInt32 >>> (16 : UInt32)).toBitVec = BitVec.ofNat 32 (x.toUInt32 >>> (16 : UInt32)).toBitVec.toNat
  rw [BitVec.ofNat_toNat, BitVec.setWidth_eq]
theorem nI_div {a m : Nat} (ha : a < 2147483648) (hm : m < 2147483648) : nI a / nI m = nI (a / m) := by
  have h := Nat.div_le_self a m
  rw [← Int32.toInt_inj, Int32.toInt_div, lt_iT ha, lt_iT hm, lt_iT (by omega)]
  rw [show ((a : Int).tdiv (m : Int)) = ((a / m : Nat) : Int) from rfl]
  have h0 : (0 : Int) ≤ ((a / m : Nat) : Int) := Int.natCast_nonneg _
  have h1 : ((a / m : Nat) : Int) ≤ (a : Int) := Int.ofNat_le.mpr h
  exact Int.bmod_eq_of_le (by omega) (by omega)
theorem qDr_n {x : Int32} {m : Nat} (hm : 0 < m) (hm2 : m < 65536) : ∃ k, k < m ∧ qDr x (nI m) = nI k := by
  obtain ⟨a, ha, e⟩ := us16 (x := x)
  refine ⟨a % m, Nat.mod_lt _ hm, ?_⟩
  have h1 := Nat.div_add_mod a m
  have h2 : a / m * m + a % m = a := by rw [Nat.mul_comm]; exact h1
  unfold qDr
  rw [e, nI_div (by omega) (by omega), lt_iM, show nI a = nI (a % m) + nI (a / m * m) by rw [lt_iA]; congr 1; omega]
  exact Int32.add_sub_cancel ..
end Rt
section Vd
variable {M M' M1 N : LM} {B D P U i j k t w f n c e r a o : Nat} {x y v b1 b2 writes : Int32} {z : Option (LO × LM)} {K : LM → Option (LO × LM)} {b : Bool} {T T' T2 : BT} {R : Nat → BT} {S : CS} {kf fs W : Nat → Nat}
theorem kAny_0 {Q : Nat → CS} (h : ∀ i, i < 6 → (Q i).1 0 5 = 0 ∧ (Q i).1 13 0 = 0 ∧ (Q i).1 14 0 = 0) : bt (kAny Q 6 0) k = false := by
  cases q : bt (kAny Q 6 0) k with
  | false => rfl
  | true =>
    rcases (kAny_ex (k := k) Q 6 0 (Nat.le_refl _)).mp q with h0 | ⟨i, -, h2, h3⟩
    · rw [b_0] at h0; cases h0
    · obtain ⟨g1, g2, g3⟩ := h i h2
      rw [g1, g2, g3, b_0] at h3
      rcases h3 with h3 | h3 | h3 <;> cases h3
/-- setKey() -/
theorem q_setKey (d : Nat) (h : SO M T R c) {ky sz co ow : Nat} (h1 : ky < 26) (h2 : 1 ≤ sz) (h3 : sz ≤ 8) (h4 : co ≤ 1000) (h5 : ow ≤ 3) (he : ∀ i, i < 6 → (T.2 i).1 0 5 = 0 ∧ (T.2 i).1 13 0 = 0 ∧ (T.2 i).1 14 0 = 0) : ∃ T2 M' x, BEq T T2 ∧ f_X10_setKey (d + 12) M 2 (nI ky) (nI sz) (nI co) (nI ow) = some (.inl (some (.int x)), M') ∧ SO M' (keyT ky (nI sz) (nI co) (nI ow) T2) (rpush R c T) (cpush c) ∧ FR M M' := by
  obtain ⟨M', a1, a2, a3⟩ := SO_begin (d + 4) h
  have hk := h.1
  have hk' := a2.1
  have et := b_tell (M := M') (B := 3) (T := tB M' 3) (k := ky) (a := nI sz) (b := nI co) (e := nI ow) (d + 9) (t_b hk') h1
  rw [t_id] at et
  have any : kAny (tB M 3).2 6 0 = kAny (tB M 3).2 6 0 := rfl
  have hany := b_isAnywhere (M := M) (B := 3) (T := tB M 3) (d + 9) (t_b hk) h1
  rw [t_id, kAny_0 (fun i hi => by
    have g := h.2.1.2.2.2.2 i hi
    obtain ⟨e1, e2, e3⟩ := he i hi
    exact ⟨(g.1 5 (by omega) (by omega) (by omega)).trans e1, g.2.2.2.2.2.2.2.2.1.trans e2, g.2.2.2.2.2.2.2.2.2.2.1.trans e3⟩)] at hany
  have r0 : f_X10_checkKey (d + 11) M (nI ky) = _ := z_key (d + 10)
  have rr : ∀ a b e : Int32, f_X10_checkRange (d + 11) M a b e = _ := fun a b e => z_range (d + 10)
  have ea : f_X10_beginChange (d + 11) M 2 = _ := a1
  have ey : f_X0_isAnywhere (d + 11) M 3 (nI ky) = some (.inl (some (.int (bI false))), M) := hany
  have et' : f_X3_tell (d + 11) M' 4 (nI ky) (nI sz) (nI co) (nI ow) = _ := et
  refine ⟨tB M' 3, _, (tB M' 3).1 2 ky, a2.2.1, ?_, SO_bM a2, a3.tr FR_bM⟩
  rw [e_X10_setKey, r0, bv_if, if_pos (qIn_ky h1), rr, bv_if, if_pos (show qIn (nI sz) 1 8 = true from qIn_n (lo := 1) (hi := 8) h2 h3 (by omega)), rr, bv_if, if_pos (show qIn (nI co) 0 1000 = true from qIn_n (lo := 0) (hi := 1000) (by omega) h4 (by omega)), rr, bv_if, if_pos (show qIn (nI ow) 0 3 = true from qIn_n (lo := 0) (hi := 3) (by omega) h5 (by omega)),
    t_ck hk, t_p0 hk, x_rf, t_ckB hk, ey, lt_bi_r, if_pos (c := (bI false = 0)) rfl, t_ck hk, ea, lt_bv_r, t_ck hk', t_p0 hk', x_rf, t_ckB hk', t_B0 hk', x_rf, t_ckK hk', et', lt_bi_r]
  rfl
theorem ask_bM (d : Nat) (hk : CSK M) (v : VL kf fs W n T) (hy : k < 26) (hn : n < 300) (w : Bool) : f_X0_ask (d + 7) (bM M 3 T) 3 (nI k) (bI w) = some (.inl (some (.int (kBits T.2 k 6 0))), bM M 3 (askT kf fs W n k w T)) := by
  have hb := b_ask (M := M) (B := 3) (T := T) (kf := kfU kf n k) (fd := fs) (n := n) (w := w) (W := W) d (t_b hk) (fun i hi => by rw [kfU_o (by omega)]; exact v.1 i hi) (by rw [kfU_n]; exact hy) hn v.2.1 v.2.2.2.1 (fun i hi => LsA_kfU (v.2.2.2.2 i hi).2)
  rw [kfU_n] at hb
  exact hb
/-- draw(): what each request keeps is kept -/
theorem draw_40 {Q : (Nat → Nat) → Nat → BT → Prop} (hQ : ∀ kf n T k w, Q kf n T → VL kf fs W n T → k < 26 → n < 300 → Q (kfU kf n k) (n + 1) (askT kf fs W n k w T)) (hk : CSK M) {mm ky : Nat} (hm : mm < 100) (hk0 : 0 < ky) (hky : ky ≤ 26) (d : Nat) : ∀ (m : Nat) (x : Int32) (T : BT) (kf : Nat → Nat) (n : Nat) (z : Int32), m ≤ mm → n + m ≤ 300 → VL kf fs W n T → Q kf n T →
    ∃ T' kf' z', f_X10_draw_40 (d + 9) (bM M 3 T) 2 (nI mm) (nI ky) writes z x (nI (mm - m)) = some (.inl (some (.int z')), bM M 3 T') ∧ VL kf' fs W (n + m) T' ∧ Q kf' (n + m) T'
  | 0, x, T, kf, n, z, _, _, hV, hq => by
    have hl : ¬ nI (mm - 0) < nI mm := by rw [nI_ltP (by omega) (by omega)]; omega
    exact ⟨T, kf, z, by rw [e_X10_draw_40, if_neg hl], hV, hq⟩
  | m + 1, x, T, kf, n, z, hmm, hn, hV, hq => by
    have hl : nI (mm - (m + 1)) < nI mm := by rw [nI_ltP (by omega) (by omega)]; omega
    have hl1 : nI (mm - (m + 1)) + 1 = nI (mm - m) := by
      rw [show nI (mm - (m + 1)) + 1 = nI (mm - (m + 1) + 1) from lt_iA (j := mm - (m + 1)) (k := 1)]
      congr 1
      omega
    let x1 : Int32 := x * 1103515245 + 12345
    let x2 : Int32 := x1 * 1103515245 + 12345
    obtain ⟨k, hkk, ek⟩ := qDr_n (x := x1) (m := ky) hk0 (by omega)
    have hkT : CSK (bM M 3 T) := hk
    have hky0 : (0 : Int32) < nI ky := by rw [show (0 : Int32) = nI 0 from rfl, nI_ltP (by omega) (by omega)]; exact hk0
    have hkyn : nI ky ≠ 0 := fun z => by rw [z] at hky0; exact absurd hky0 (by decide)
    have ed : ∀ (N : LM) (y : Int32), f_X10_nextDraw (d + 8) N y = some (.inl (some (.int (y * 1103515245 + 12345))), N) := fun N y => e_X10_nextDraw (d + 7) N y
    have go : ∀ wb : Bool, ∃ T' kf' z', f_X10_draw_40 (d + 9) (bM M 3 (askT kf fs W n k wb T)) 2 (nI mm) (nI ky) writes (z + pPop (kBits T.2 k 6 0)) x2 (nI (mm - m)) = some (.inl (some (.int z')), bM M 3 T') ∧ VL kf' fs W (n + 1 + m) T' ∧ Q kf' (n + 1 + m) T' := fun wb =>
      draw_40 hQ hk hm hk0 hky d m x2 (askT kf fs W n k wb T) (kfU kf n k) (n + 1) (z + pPop (kBits T.2 k 6 0)) (by omega) (by omega) (VL_ask hV (by omega) (by omega) wb) (hQ kf n T k wb hq hV (by omega) (by omega))
    have key : ∃ wb : Bool, ∀ r, f_X10_draw_40 (d + 9) (bM M 3 (askT kf fs W n k wb T)) 2 (nI mm) (nI ky) writes (z + pPop (kBits T.2 k 6 0)) x2 (nI (mm - m)) = r → f_X10_draw_68 (d + 9) (bM M 3 T) 2 (nI mm) (nI ky) writes z x1 (nI (mm - (m + 1))) (nI k) = r := by
      by_cases q : lt_us x2 16 - lt_us x2 16 / 100 * 100 < writes
      · refine ⟨true, fun r hr => ?_⟩
        have a1 := ask_bM (d + 1) hk hV (show k < 26 by omega) (by omega) true
        have a1' : f_X0_ask (d + 8) (bM M 3 T) 3 (nI k) 1 = _ := a1
        rw [e_X10_draw_68, ed, lt_bi_r, r_nz (by decide), if_pos q, t_ck hkT, t_p0 hkT, x_rf, t_ckB hkT, a1', lt_bi_r, c_pop, lt_bi_r, hl1]
        exact hr
      · refine ⟨false, fun r hr => ?_⟩
        have a1 := ask_bM (d + 1) hk hV (show k < 26 by omega) (by omega) false
        have a1' : f_X0_ask (d + 8) (bM M 3 T) 3 (nI k) 0 = _ := a1
        rw [e_X10_draw_68, ed, lt_bi_r, r_nz (by decide), if_neg q, t_ck hkT, t_p0 hkT, x_rf, t_ckB hkT, a1', lt_bi_r, c_pop, lt_bi_r, hl1]
        exact hr
    obtain ⟨wb, hwb⟩ := key
    obtain ⟨T', kf', z', i1, i2, i3⟩ := go wb
    rw [show n + 1 + m = n + (m + 1) by omega] at i2 i3
    refine ⟨T', kf', z', ?_, i2, i3⟩
    have e68 := hwb _ i1
    rw [e_X10_draw_40, if_pos hl, ed, lt_bi_r, if_pos hky0, r_nz hkyn, ← e68]
    congr 1
theorem q_draw {Q : (Nat → Nat) → Nat → BT → Prop} (hQ : ∀ kf n T k w, Q kf n T → VL kf fs W n T → k < 26 → n < 300 → Q (kfU kf n k) (n + 1) (askT kf fs W n k w T)) (d : Nat) (h : SO M T R c) (v : VL kf fs W n T) (h0 : ∀ T2, BEq T T2 → Q kf n T2) {many ky wr : Nat} (h1 : 1 ≤ many) (h2 : many ≤ 50) (h3 : 1 ≤ ky) (h4 : ky ≤ 26) (h5 : wr ≤ 100) (hn : n + many ≤ 300) : ∃ T' kf' M' z', f_X10_draw (d + 12) M 2 x (nI many) (nI ky) (nI wr) = some (.inl (some (.int z')), M') ∧ SO M' T' (rpush R c T) (cpush c) ∧ FR M M' ∧ VL kf' fs W (n + many) T' ∧ Q kf' (n + many) T' := by
  obtain ⟨M', a1, a2, a3⟩ := SO_begin (d + 4) h
  have hk := h.1
  have hk' := a2.1
  obtain ⟨T', kf', z', i1, i2, i3⟩ := draw_40 (writes := nI wr) hQ hk' (mm := many) (ky := ky) (by omega) h3 h4 (d + 3) many x (tB M' 3) kf n 0 (Nat.le_refl _) hn (VL_cg v a2.2.1) (h0 _ a2.2.1)
  rw [Nat.sub_self, t_id] at i1
  have i1' : f_X10_draw_40 (d + 12) M' 2 (nI many) (nI ky) (nI wr) 0 x 0 = _ := i1
  have rr : ∀ a b e : Int32, f_X10_checkRange (d + 11) M a b e = _ := fun a b e => z_range (d + 10)
  have ea : f_X10_beginChange (d + 11) M 2 = _ := a1
  have et : f_X10_checkRowTakes (d + 11) M 2 (nI many) = _ := z_takes (d + 10) hk (SO_len h v)
  have e3 : ¬ ((300 : Int32) - nI n < nI many) := by
    rw [show (300 : Int32) - nI n = nI (300 - n) from nI_sub (a := 300) v.2.2.1, nI_ltP (by omega) (by omega)]
    omega
  refine ⟨T', kf', _, z', ?_, SO_bM a2, a3.tr FR_bM, i2, i3⟩
  rw [e_X10_draw, rr, bv_if, if_pos (show qIn (nI many) 1 50 = true from qIn_n (lo := 1) (hi := 50) h1 h2 (by omega)), rr, bv_if, if_pos (show qIn (nI ky) 1 26 = true from qIn_n (lo := 1) (hi := 26) h3 h4 (by omega)), rr, bv_if, if_pos (show qIn (nI wr) 0 100 = true from qIn_n (lo := 0) (hi := 100) (by omega) h5 (by omega)), t_ck hk, et, if_neg e3, lt_bv_r, t_ck hk, ea, lt_bv_r, i1']
/-- undo() -/
theorem q_undo (d : Nat) (h : SO M T R (c + 1)) : ∃ M', f_X10_undo (d + 12) M 2 = some (.inl (some (.int (nI c))), M') ∧ SO M' (R c) R c ∧ FR M M' := by
  obtain ⟨hk, hT, e, hm2, hm3, he6, hc6, hR⟩ := id h
  have hkc : CSK (clM M) := hk
  let M3 := wI (clM M) 2 3 (nI c)
  have hk3 : CSK M3 := hk
  let e' := if 0 < e then e - 1 else 5
  have he' : e' < 6 := by show (if 0 < e then e - 1 else 5) < 6; split <;> omega
  let M4 := wI M3 2 2 (nI e')
  have hk4 : CSK M4 := hk
  have es : slt e (c + 1) c = e' := by
    show slt e (c + 1) c = if 0 < e then e - 1 else 5
    unfold slt
    split <;> omega
  obtain ⟨P, hP, hPB⟩ := hR c (by omega)
  rw [es] at hP
  obtain ⟨g1, g2, g3⟩ := t_pa hk he' hP
  have sb : nI (c + 1) - 1 = nI c := nI_sub (a := c + 1) (b := 1) (by omega)
  have v13 : mI (clM M) 2 3 = nI (c + 1) := (congrFun (clM_o (by omega)) 3).trans hm3
  have v12 : mI M3 2 2 = nI e := by
    show mI (wI (clM M) 2 3 (nI c)) 2 2 = nI e
    have := (congrFun (clM_o (M := M) (a := 2) (by omega)) 2).trans hm2
    rw [← this]
    simp [wI, mI, u2]
  have w12 : mI M4 2 2 = nI e' := by
    show mI (wI M3 2 2 (nI e')) 2 2 = nI e'
    simp [wI, mI, u2]
  have w13 : mI M4 2 3 = nI c := by
    show mI (wI (wI (clM M) 2 3 (nI c)) 2 2 (nI e')) 2 3 = nI c
    simp [wI, mI, u2]
  have P4 : mP M4 103 e' = some P := hP
  let T' := kCpB (tB M4 3) (tB M4 P)
  have ecp := b_copyBench (M := M4) (B := 3) (D := P) (T := tB M4 3) (d + 7) (t_b hk4) (show bA M4 P from g1) (Or.inr (by omega))
  rw [t_id] at ecp
  have ecp' : f_X0_copyBench (d + 11) M4 3 P = some (.inl none, bM M4 3 T') := ecp
  have hk5 : CSK (bM M4 3 T') := hk
  have e50 : ∀ s0 : Int32, s0 = nI e' → f_X10_undo_50 (d + 12) M3 2 s0 2 = some (.inl (some (.int (nI c))), bM M4 3 T') := by
    intro s0 hs
    have hlt : nI e' < nI 6 := (lt_iL (j := e') (k := 6) (by omega) (by omega)).mpr he'
    rw [hs, e_X10_undo_50, t_ck hk3, x_m]
    show (lt_ck M4 2 26 (lt_ck M4 2 26 (lt_rf (mP M4 2 1) fun q5 => lt_al M4 q5 (if @LT.lt Int32 _ (mI M4 2 2) (nI (mZ M4 q5)) then (lt_ck M4 2 26 (lt_rf (mP M4 2 1) fun q6 => lt_ck M4 2 26 (lt_aa M4 q6 (mI M4 2 2) (lt_rn (mP M4 q6 (lt_n (mI M4 2 2))) (fun q7 => lt_ck M4 2 26 (lt_rf (mP M4 2 0) fun q8 => lt_ck M4 q8 16 (lt_bv (f_X0_copyBench (d + 11) M4 q8 q7) [] fun M9 => lt_ck M9 2 26 (some (.inl (some (.int (mI M9 2 3))), M9))))) (lt_ck M4 2 26 (some (.inl (some (.int (mI M4 2 3))), M4))))))) else (lt_ck M4 2 26 (some (.inl (some (.int (mI M4 2 3))), M4)))))) : Option (LO × LM)) = _
    rw [t_ck hk4, t_ck hk4, t_p1 hk4, x_rf, t_al hk4, w12, (t_past hk4).2, if_pos hlt, t_ck hk4, x_rf, t_ck hk4, t_aa hk4 he', lt_iN (by omega), P4]
    show (lt_ck M4 2 26 (lt_rf (mP M4 2 0) fun q8 => lt_ck M4 q8 16 (lt_bv (f_X0_copyBench (d + 11) M4 q8 P) [] fun M9 => lt_ck M9 2 26 (some (.inl (some (.int (mI M9 2 3))), M9)))) : Option (LO × LM)) = _
    rw [t_ck hk4, t_p0 hk4, x_rf, t_ckB hk4, ecp', lt_bv_r, t_ck hk5, show mI (bM M4 3 T') 2 3 = nI c from (congrFun (bMo (M := M4) (B := 3) (T := T') (o := 2) (by omega)) 3).trans w13]
  have hc0 : (0 : Int32) < nI (c + 1) := by rw [show (0 : Int32) = nI 0 from rfl, nI_ltP (by omega) (by omega)]; omega
  have ecl : f_X2_close (d + 11) M 104 = _ := k_close (d + 10) hk
  have mo : ∀ a, (a < 3 ∨ 103 ≤ a) → a ≠ 2 → a ≠ 104 → mI (bM M4 3 T') a = mI M a := fun a h1 h2 h3 => (bMo (M := M4) (B := 3) (T := T') (by omega)).trans ((mI_wI_ne h2).trans ((mI_wI_ne h2).trans (clM_o h3)))
  have ml : ∀ a, (a < 3 ∨ 103 ≤ a) → mL (bM M4 3 T') a = mL M a := fun a h1 => bMoL (M := M4) (B := 3) (T := T') (by omega)
  refine ⟨bM M4 3 T', ?_, ⟨hk5, ?_, e', ?_, ?_, he', by omega, fun i hi => ?_⟩, FR_of rfl fun a ho => ?_⟩
  · rw [e_X10_undo, t_ck hk, hm3, if_pos hc0, t_ck hk, t_p4 hk, x_rf, lt_ck_t (t_q hk).1, ecl, lt_bv_r, t_ck hkc, t_ck hkc, v13, sb, x_m]
    show (lt_ck M3 2 26 (if @LT.lt Int32 _ 0 (mI M3 2 2) then (lt_ck M3 2 26 (f_X10_undo_50 (d + 12) M3 2 ((mI M3 2 2) - 1) 2)) else (f_X10_undo_50 (d + 12) M3 2 5 2)) : Option (LO × LM)) = _
    have hc9 : (0 : Int32) < nI e ↔ 0 < e := iff_of_eq (nI_ltP (j := 0) (k := e) (by omega) (by omega))
    rw [t_ck hk3, v12, t_ck hk3]
    by_cases z : 0 < e
    · rw [if_pos (hc9.mpr z)]
      refine e50 _ ?_
      show nI e - 1 = nI (if 0 < e then e - 1 else 5)
      rw [if_pos z]
      exact nI_sub (b := 1) z
    · rw [if_neg (fun q => z (hc9.mp q))]
      refine e50 _ ?_
      show (5 : Int32) = nI (if 0 < e then e - 1 else 5)
      rw [if_neg z]
      rfl
  · refine hPB.tr (BEq.tr (tB_o (M := M) (M' := M4) (B := P) fun a h1 h2 => ⟨?_, rfl⟩) (BEq.tr (kCpB_eq (T := tB M4 3)) (tB_bM (M := M4) (B := 3))))
    exact (mI_wI_ne (by omega)).trans ((mI_wI_ne (by omega)).trans (clM_o (by omega)))
  · exact (congrFun (bMo (M := M4) (B := 3) (T := T') (o := 2) (by omega)) 2).trans w12
  · exact (congrFun (bMo (M := M4) (B := 3) (T := T') (o := 2) (by omega)) 3).trans w13
  · have es' : slt e' c i = slt e (c + 1) i := by
      show slt (if 0 < e then e - 1 else 5) c i = _
      unfold slt
      split <;> omega
    obtain ⟨Q, q1, q2⟩ := hR i (by omega)
    have hQ := t_pa hk slt_lt q1
    exact ⟨Q, by rw [es']; exact q1, q2.tr (tB_o fun a a1 _ => ⟨mo a (by omega) (by omega) (by omega), ml a (by omega)⟩)⟩
  · have z1 : a < 2 ∨ 124 ≤ a := by
      by_cases z : a < 2 ∨ 124 ≤ a
      · exact z
      · exact absurd (OWN_lo (M := M) (a := a) (by omega) (by omega)) ho
    exact ⟨mo a (by omega) (by omega) (by omega), ml a (by omega)⟩
end Vd
