/-! THE LAW: isShamed(), from the search to its end -/
section Gh
variable {M M' N : LM} {T T' T2 : BT} {R R' : Nat → BT} {c o ru rm gr ks mo : Nat} {x2 : Int32} {z co W : Nat → Nat} {mk : Bool}
/-- from the row found to the end -/
theorem sh_222 (d : Nat) {w : List Nat} (hr : ru = if mk = true then 3 else 2) (h1 : 1 ≤ rm) (h2 : rm ≤ 4) (h3 : rm + 1 ≤ gr) (h4 : gr ≤ 6) (h5 : 2 ≤ ks) (h6 : ks ≤ 5) (hmo : w.length ≤ mo) (hmo2 : mo ≤ 9) (hcan : xCan (mk, rm, gr, ks) w) (h16 : 16 < (xR (mk, rm, gr, ks) w).2) (hL : LW M T R c) (hK : KT (fun _ => 1) co W T) (hw : SHW M w) {g : Nat → Int32} (hA : AR M o 12 g) : ∃ M', f_L_isShamed_222 (d + 15) M 2 (nI ru) (nI rm) (nI gr) (nI ks) (nI mo) (nI w.length) o 0 0 = some (.inl (some (.int 1)), M') ∧ FX TT 8 172 M M' := by
  have hp : XPO (mk, rm, gr, ks) := ⟨h1, h2, (show 1 ≤ gr by omega), h4, h6⟩
  obtain ⟨hC, hR⟩ := can_kf hp w hcan
  have hru : ru = 2 ∨ ru = 3 := by rw [hr]; cases mk; exact Or.inl rfl; exact Or.inr rfl
  have hlt := (row_lt hp (n := w.length) (by omega) hC).mp (by rw [hR]; exact h16)
  have hlt' : (pRunQ ru gr (fun _ => 1) (fun i => w.reverse.getD i 0) w.length).2.2.2.2 < (pRunQ ru rm (fun _ => 1) (fun i => w.reverse.getD i 0) w.length).2.2.2.2 := by rw [hr]; exact hlt
  have k26 : ∀ j, j < w.length → w.reverse.getD j 0 < 26 := fun j hj => by
    have q : w.reverse.getD j 0 < ks := (hC j hj).1
    omega
  obtain ⟨M1, g1, e1, L1, A1, G1, F1⟩ := sr_222 (x3 := nI ru) (x4 := nI rm) (x5 := nI gr) (x7 := nI mo) d (by omega) hC h6 w.length 0 M g (by omega) hL hw hA (fun j hj => absurd hj (Nat.not_lt_zero _))
  obtain ⟨T2, M2, xx, b0, b1, b2, b3⟩ := q_clearRow (d + 2) L1.1
  have b1' : f_X10_clearRow (d + 14) M1 2 = _ := b1
  have L2 := LW_FR L1 b3 b2
  have K2 := KT_clear (KT_cg b0 hK)
  obtain ⟨M3, T3, R3, c3, yy, S3, s1, L3, K3, I3, C3, -, s7, -, s9⟩ := cs_set (i := 0) (ru := ru) (ro := rm) (la := 0) (mo := 0) d L2 K2 (fun j hj => absurd hj (Nat.not_lt_zero _)) (by omega) (Nat.zero_le _) (by omega) h1 (by omega) (by omega) (by omega)
  obtain ⟨M4, T4, R4, c4, zz, S4, t1, L4, K4, I4, C4, t6, t7, -, t9⟩ := cs_set (i := 1) (ru := ru) (ro := gr) (la := 0) (mo := 0) d L3 K3 I3 (by omega) C3 (by omega) (by omega) (by omega) (by omega) (by omega)
  have s1' : f_X10_setCache (d + 14) M2 2 0 (nI ru) (nI rm) 0 0 = _ := s1
  have t1' : f_X10_setCache (d + 14) M3 2 1 (nI ru) (nI gr) 0 0 = _ := t1
  have A4 : AR M4 o 12 g1 := ((A1.kp (P := fun _ => False) (FX.of b3) (fun q => q)).kp (P := fun _ => False) (FX.of s9) (fun q => q)).kp (P := fun _ => False) (FX.of t9) (fun q => q)
  have P0 : ∀ r, PV r (fun _ => 1) (pRunQ ru r (fun _ => 1) (fun i => w.reverse.getD i 0) 0) := fun r => ⟨rfl, Nat.zero_le _, fun j hj => absurd hj (Nat.not_lt_zero _)⟩
  have Q4 : RQ (fun _ => 1) (fun i => w.reverse.getD i 0) (fun i => if i = 0 then rm else gr) ru 0 T4 := by
    refine ⟨fun k hk => ⟨(K4.2.1 k hk).1, (K4.2.1 k hk).2.2⟩, fun i hi => ⟨P0 _, Nat.le_refl _, 0, by omega, ?_⟩⟩
    have ei : i = 0 ∨ i = 1 := by omega
    rcases ei with rfl | rfl
    · show CP (fun _ => 1) ru rm (T4.2 0) (pRunQ ru rm (fun _ => 1) (fun i => w.reverse.getD i 0) 0) 0
      exact CP_SEq (t6 0 (by omega) (by omega)) (by rw [s7]; exact CP_start (by omega) (by omega))
    · show CP (fun _ => 1) ru gr (T4.2 1) (pRunQ ru gr (fun _ => 1) (fun i => w.reverse.getD i 0) 0) 0
      rw [t7]
      exact CP_start (by omega) (by omega)
  obtain ⟨M5, T5, R5, c5, u1, L5, Q5, A5, F5⟩ := rq_312 (x3 := nI ru) (x4 := nI rm) (x5 := nI gr) (x7 := nI mo) (g := g1) (kw := fun i => w.reverse.getD i 0) (ro := fun i => if i = 0 then rm else gr) (z := fun _ => 1) (W := W) (len := w.length) d (by omega) (fun i hi => by
    show (if i = 0 then rm else gr) ≤ 20
    split <;> omega) (by omega) (fun j hj => ⟨G1 j hj, k26 j hj⟩) w.length 0 M4 T4 R4 c4 _ (by omega) L4 K4.1 Q4 A4
  obtain ⟨M6, v1, F6⟩ := rq_end (rm := rm) (gr := gr) (mo := mo) (g := g1) (kw := fun i => w.reverse.getD i 0) d hru (by omega) (by omega) (len := w.length) (by omega) hmo (by omega) (fun j hj => ⟨G1 j hj, k26 j hj⟩) hlt' L5 Q5 A5
  refine ⟨M6, ?_, ((((F1.mo (fun _ _ _ => trivial) (Nat.le_refl _) (Nat.le_refl _)).tr (FX.of b3)).tr ((FX.of s9).tr (FX.of t9))).tr (F5.tr F6)).mo (fun _ _ q => q) (by omega) (by omega)⟩
  refine Eq.trans e1 ?_
  rw [e_L_isShamed_222, if_neg (show ¬ nI w.length < nI w.length by rw [nI_ltP (by omega) (by omega)]; omega), t_ck L1.1.1, b1', lt_bi_r, t_ck L2.1.1, s1', lt_bi_r, t_ck L3.1.1, t1', lt_bi_r]
  exact Eq.trans u1 v1
theorem sh_tail (d : Nat) (hr : ru = if mk = true then 3 else 2) (h1 : 1 ≤ rm) (h2 : rm ≤ 4) (h3 : rm + 1 ≤ gr) (h4 : gr ≤ 6) (h5 : 2 ≤ ks) (h6 : ks ≤ 5) (h7 : 1 ≤ mo) (h8 : mo ≤ 9) (hL : LW M T R c) (hK : KT (fun _ => 1) co W T) : ∃ M', (lt_ck M 2 26 (lt_bi (f_X10_shame (d + 14) M 2 (nI ru) (nI rm) (nI gr) (nI ks) (nI mo)) [] fun v16 M15 => lt_ln 12 (lt_m (aNew M15 1 (lt_n 12) (lt_n 12)) fun M17 => if @Eq Int32 v16 ((-1)) then (lt_bi (f_J9_min_7cf53 (d + 14) M17 6 (nI mo)) [] fun v21 M20 => f_L_isShamed_174 (d + 15) M20 2 (nI ru) (nI rm) (nI gr) (nI ks) (nI mo) v16 (mN M15) v21 1) else (lt_bi (f_J9_min_7cf53 (d + 14) M17 6 (v16 - 1)) [] fun v19 M18 => f_L_isShamed_174 (d + 15) M18 2 (nI ru) (nI rm) (nI gr) (nI ks) (nI mo) v16 (mN M15) v19 1)))) = some (.inl (some (.int 1)), M') ∧ FX TT 160000 3400000 M M' := by
  have hp : XPO (mk, rm, gr, ks) := ⟨h1, h2, (show 1 ≤ gr by omega), h4, h6⟩
  have ei : nI ru = (if mk = true then 3 else 2 : Int32) := by rw [hr]; cases mk <;> rfl
  have hru : ru < 10 := by rw [hr]; split <;> omega
  obtain ⟨M1, s1, s2, s3⟩ := q_shame (d + 7) hL.1 mk h1 h2 h3 h4 h5 h6 h7 h8
  have L1 := LW_FR hL s2 s1
  have hn := t_n L1.1.1
  have L2 : LW (aNew M1 1 12 12) T R c := LW_new L1
  have A2 : AR (aNew M1 1 12 12) (mN M1) 12 (fun _ => 0) := AR_new L1 (by omega)
  have F2 : FX TT 1 12 M (aNew M1 1 12 12) := ((FX.of s2).tr (FX_new (by omega))).mo (fun _ _ q => q) (by omega) (by omega)
  have own : ¬ OWN (aNew M1 1 12 12) (mN M1) := nOWN L1
  -- rows up to a length that do not shame
  have H : ∀ sh, (∀ u, xCan (mk, rm, gr, ks) u → u.length ≤ sh → ¬ 16 < (xR (mk, rm, gr, ks) u).2) → sh ≤ 6 → ∀ n kf, n ≤ sh → CAN kf ks n → (pRunQ ru rm (fun _ => 1) kf n).2.2.2.2 ≤ (pRunQ ru gr (fun _ => 1) kf n).2.2.2.2 := by
    intro sh hno hs n kf hn hC
    have nl := fun q => hno _ (rwL_A hp n hC).1 (by rw [rwL_len]; exact hn) ((row_lt hp (n := n) (by omega) hC).mpr q)
    rw [hr]
    exact Nat.le_of_not_lt nl
  rw [t_ck hL.1.1]
  rcases s3 with ⟨e1, hno⟩ | ⟨w, e1, w1, w2, w3, w4, w5, w6⟩
  · have e1' : f_X10_shame (d + 14) M 2 (nI ru) (nI rm) (nI gr) (nI ks) (nI mo) = some (.inl (some (.int (-1))), M1) := by rw [ei]; exact e1
    obtain ⟨sh, hsh, esh⟩ : ∃ sh, (sh ≤ 6 ∧ sh ≤ mo) ∧ (if nI mo < (6 : Int32) then nI mo else 6) = nI sh := by
      by_cases q : mo < 6
      · exact ⟨mo, ⟨by omega, Nat.le_refl _⟩, if_pos ((nI_ltP (j := mo) (k := 6) (by omega) (by omega)).mpr q)⟩
      · exact ⟨6, ⟨Nat.le_refl _, by omega⟩, if_neg (fun v => q ((nI_ltP (j := mo) (k := 6) (by omega) (by omega)).mp v))⟩
    rw [e1', lt_bi_r, ln_12, ltn_12, x_m, if_pos rfl, j_min, lt_bi_r, esh]
    generalize aNew M1 1 12 12 = Ma at L2 A2 F2 own ⊢
    obtain ⟨M3, g3, C, S, e3, L3, A3, F3, c3, c4⟩ := ss_174 (x7 := nI mo) (x8 := -1) d h6 hru (by omega) (by omega) hsh.1 (H sh (fun u hu hl => hno u hu (by omega)) hsh.1) sh 1 Ma _ (by omega) (Nat.le_refl _) L2 A2
    have p7 : 5 ^ (sh + 1) ≤ 5 ^ 7 := Nat.pow_le_pow_right (by decide) (by omega)
    refine ⟨M3, ?_, (F2.tr (F3.1.mo (fun _ _ _ => trivial) (Nat.le_refl _) (Nat.le_refl _))).mo (fun _ _ q => q) (by omega) (by omega)⟩
    refine Eq.trans e3 ?_
    rw [e_L_isShamed_174, if_pos (show nI sh < nI (sh + 1) by rw [nI_ltP (by omega) (by omega)]; omega), if_pos rfl, lt_b1_1]
  · have e1' : f_X10_shame (d + 14) M 2 (nI ru) (nI rm) (nI gr) (nI ks) (nI mo) = some (.inl (some (.int (nI w.length))), M1) := by rw [ei]; exact e1
    have ne : ¬ nI w.length = -1 := fun e => by rw [nI_ne1 (by omega)] at e; exact e
    have l1 : nI w.length - 1 = nI (w.length - 1) := nI_sub (b := 1) w1
    obtain ⟨sh, hsh, esh⟩ : ∃ sh, (sh ≤ 6 ∧ sh ≤ w.length - 1) ∧ (if nI (w.length - 1) < (6 : Int32) then nI (w.length - 1) else 6) = nI sh := by
      by_cases q : w.length - 1 < 6
      · exact ⟨w.length - 1, ⟨by omega, Nat.le_refl _⟩, if_pos ((nI_ltP (j := w.length - 1) (k := 6) (by omega) (by omega)).mpr q)⟩
      · exact ⟨6, ⟨Nat.le_refl _, by omega⟩, if_neg (fun v => q ((nI_ltP (j := w.length - 1) (k := 6) (by omega) (by omega)).mp v))⟩
    have hw2 : SHW (aNew M1 1 12 12) w := SHW.kp (by omega) w6 (if_neg (by omega)) (if_neg (by omega))
    rw [e1', lt_bi_r, ln_12, ltn_12, x_m, if_neg ne, j_min, lt_bi_r, l1, esh]
    generalize aNew M1 1 12 12 = Ma at L2 A2 F2 own hw2 ⊢
    have hna := t_n L2.1.1
    obtain ⟨M3, g3, C, S, e3, L3, A3, F3, c3, c4⟩ := ss_174 (x7 := nI mo) (x8 := nI w.length) d h6 hru (by omega) (by omega) hsh.1 (H sh (fun u hu hl => w5 u hu (by omega)) hsh.1) sh 1 Ma _ (by omega) (Nat.le_refl _) L2 A2
    have p7 : 5 ^ (sh + 1) ≤ 5 ^ 7 := Nat.pow_le_pow_right (by decide) (by omega)
    have hw3 : SHW M3 w := SHW.kp (by omega) hw2 (F3.2 117 (by omega) (by omega) (by omega) (by omega)) (F3.2 118 (by omega) (by omega) (by omega) (by omega))
    obtain ⟨M4, e4, F4⟩ := sh_222 (mk := mk) (w := w) (mo := mo) d hr h1 h2 h3 h4 h5 h6 w2 h8 w3 w4 L3 hK hw3 A3
    refine ⟨M4, ?_, ((F2.tr (F3.1.mo (fun _ _ _ => trivial) (Nat.le_refl _) (Nat.le_refl _))).tr F4).mo (fun _ _ q => q) (by omega) (by omega)⟩
    refine Eq.trans e3 ?_
    rw [e_L_isShamed_174, if_pos (show nI sh < nI (sh + 1) by rw [nI_ltP (by omega) (by omega)]; omega), if_neg ne]
    exact e4
end Gh
