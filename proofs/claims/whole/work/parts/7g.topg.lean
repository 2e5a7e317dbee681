/-! CHANGES: shares -/
section Uq
variable {M M' M1 N : LM} {L B D P U i j k t w f n n' c e r a o m ch len lo hi : Nat} {x y v u b1 b2 code cache key what rule its greater keys most room lapse mode : Int32} {z : Option (LO × LM)} {b : Bool} {T T' : BT} {kf fs W p kf' fs' W' : Nat → Nat} {xs H H' U' : Nat → Int32} {V V' X X' X2 : Nat → Nat → Int32} {l : Option (List Nat)} {y64 : Int64} {fL fX fC : LM → Option (LO × LM)} {hl : List (Nat × Int32)} {S Z Z' : CS}
theorem bm64 {a : Int} (h1 : -9223372036854775808 ≤ a) (h2 : a < 9223372036854775808) : a.bmod (2 ^ 64) = a := by
  rw [Int.bmod_eq_of_le] <;> omega
theorem SS_iff {x y u v : Int32} (hr : r ≤ 20) : qSSok (nI r) x y u v = true ↔ 0 ≤ x.toInt ∧ 0 ≤ y.toInt ∧ 0 ≤ u.toInt ∧ 0 ≤ v.toInt ∧ x.toInt + y.toInt + u.toInt + v.toInt ≤ r := by
  have hx := Int32.le_toInt x
  have hy := Int32.le_toInt y
  have hu := Int32.le_toInt u
  have hv := Int32.le_toInt v
  have hx' := Int32.toInt_lt x
  have hy' := Int32.toInt_lt y
  have hu' := Int32.toInt_lt u
  have hv' := Int32.toInt_lt v
  have hs : (qSum4 x y u v).toInt = x.toInt + y.toInt + u.toInt + v.toInt := by
    unfold qSum4
    rw [Int64.toInt_add, Int64.toInt_add, Int64.toInt_add, Int32.toInt_toInt64, Int32.toInt_toInt64, Int32.toInt_toInt64, Int32.toInt_toInt64, bm64 (a := x.toInt + y.toInt) (by omega) (by omega), bm64 (a := x.toInt + y.toInt + u.toInt) (by omega) (by omega), bm64 (by omega) (by omega)]
  have hc : (0 : Int32) < lg_cmp (qSum4 x y u v) (Int32.toInt64 (nI r)) ↔ (r : Int) < x.toInt + y.toInt + u.toInt + v.toInt := by
    rw [← hs, ← L64 (m := r) (by omega), ← Int64.lt_iff_toInt_lt]
    unfold lg_cmp
    by_cases q : qSum4 x y u v > Int32.toInt64 (nI r)
    · rw [if_pos q]
      exact ⟨fun _ => q, fun _ => by decide⟩
    · rw [if_neg q]
      refine ⟨fun z => ?_, fun z => absurd z q⟩
      split at z
      · exact absurd z (by decide)
      · exact absurd z (by decide)
  unfold qSSok
  simp only [Bool.and_eq_true, Bool.not_eq_true', decide_eq_false_iff_not]
  rw [hc, Int32.lt_iff_toInt_lt, Int32.lt_iff_toInt_lt, Int32.lt_iff_toInt_lt, Int32.lt_iff_toInt_lt, show (0 : Int32).toInt = 0 from rfl]
  omega
theorem KS_ob {b : Int32} (hb : KS b) (hj : j < 26) : KS (b ||| bb j) := KS_or hb (KS_bb hj)
theorem pPop_ob {b : Int32} (hb : KS b) (hj : j < 26) (h : bt b j = false) : pPop (b ||| bb j) = pPop b + 1 := by
  have hK : KS (b ||| bb j) := KS_ob hb hj
  rw [pPop_nK hK, pPop_nK hb, nK_plus (h1' := bt b) (h2' := bt (b ||| bb j)) hj h (by rw [bt_on hj (by omega), decide_eq_true rfl, Bool.or_true]) (fun k hk hne => by rw [bt_on hj (by omega), decide_eq_false hne, Bool.or_false])]
  exact (lt_iA (j := nK (bt b) 26) (k := 1)).symm
theorem beyond_eq {kz kc kw : Nat → Int32} {W : Nat → Nat} {U : Nat → Int32} (h1 : ∀ w, w < 4 → S.1 1 w = U (4 + w)) (hh : HB (S.1 0 5) U 24) (hK : KY kz kc kw W H) : ∀ (m : Nat) (b : Int32), m ≤ 4 → KS b → (∀ j, 4 - m ≤ j → j < 26 → bt b j = false) → pPop (kBeyond kz kw S (S.1 0 5) m b) = qBeyond H U m (pPop b)
  | 0, b, _, _, _ => rfl
  | m + 1, b, hm, hb, hf => by
    show pPop (kBeyond kz kw S (S.1 0 5) m (if S.1 1 (3 - m) < pSum (S.1 0 5 &&& pOwn kw (nI (3 - m)) 26 0) kz 26 0 then b ||| bb (3 - m) else b)) = qBeyond H U m (pPop b + if U (4 + (3 - m)) < qUnits H U (nI (3 - m)) 26 0 then 1 else 0)
    rw [own_sum hh hK (by omega), h1 _ (by omega)]
    by_cases q : U (4 + (3 - m)) < qUnits H U (nI (3 - m)) 26 0
    · rw [if_pos q, if_pos q, ← pPop_ob (j := 3 - m) hb (by omega) (hf _ (by omega) (by omega))]
      refine beyond_eq h1 hh hK m _ (by omega) (KS_ob (j := 3 - m) hb (by omega)) (fun j hj hj2 => ?_)
      rw [bt_on (k := 3 - m) (by omega) (by omega), hf j (by omega) hj2, decide_eq_false (by omega)]; rfl
    · rw [if_neg q, if_neg q, Int32.add_zero]
      exact beyond_eq h1 hh hK m b (by omega) hb (fun j hj hj2 => hf j (by omega) hj2)
theorem lt_sb {a b : Nat} (h : b ≤ a) : nI a - nI b = nI (a - b) := by
  have : nI a = nI (a - b) + nI b := by
    rw [show nI (a - b) + nI b = nI (a - b + b) from lt_iA (j := a - b) (k := b), Nat.sub_add_cancel h]
  rw [this, Int32.add_sub_cancel]
theorem o_setShares (h : ST L xs M i) : OK L xs i M (fun M => f_L_setShares 40 M 1 cache x y u v 200) (fun M => f_X11_setShares 40 M 123 cache x y u v) := by
  obtain ⟨hk, -, -, hCU, hTX, -, kf, fs, W, n, p, c, e, hd⟩ := id h
  obtain ⟨hp, hpa, hc6, he6, h3, h4, hm2, hm3, hB, hR, hCT⟩ := id hd
  have hn : n ≤ 300 := hB.1
  have h0 : mI M 124 0 = nI n := hB.2.2.1
  have hl : mI M 7 3 = nI n := hB.2.1
  obtain ⟨M', P, ec, hKE, hk', hb, eb, hB'⟩ := C_b h hd 31
  have hx3 : xx M 0 3 = nI c := h3
  have er := fun N (hN : RA N 123) => r_setShares (M := N) (o := 123) (p := p) (c := c) (H := mI M 124) (V := vv M 124) (X := xx M) 35 hN hpa hc6 hx3 (cache := cache) (x := x) (y := y) (z := u) (w := v)
  have eL : f_L_setShares 40 M 1 cache x y u v 200 = _ := e_L_setShares 39 M 1 cache x y u v 200
  have ec' : f_X10_beginChange 38 M 1 = _ := ec
  rw [t_ck hk, e_X10_setShares, z_cache, bv_if] at eL
  by_cases q1 : qIn cache 0 5 = true
  · obtain ⟨ch, hch, rfl⟩ := qIn_c q1
    have hC0 := RB_c hB hch
    obtain ⟨r, r1, r2, er1⟩ := hC0.1.1.2.2.2.2.1
    have e1 : mI M (cc 2 ch) 1 = nI r := (hC0.1.1.1 1 (by omega)).trans er1
    have exn : ¬ (0 ≤ x.toInt ∧ 0 ≤ y.toInt ∧ 0 ≤ u.toInt ∧ 0 ≤ v.toInt ∧ x.toInt + y.toInt + u.toInt + v.toInt ≤ r) → f_L_setShares 40 M 1 (nI ch) x y u v 200 = lt_bi (some (.inr 1, aExn M)) lt_h271 (fun v2 M1 => lt_ar M1 200 2 0 (lt_m (wL M1 200 (lt_n 0) (Int32.toInt64 v2)) fun M3 => some (.inl (some (.int 0)), M3))) → OK L xs i M (fun M => f_L_setShares 40 M 1 (nI ch) x y u v 200) (fun M => f_X11_setShares 40 M 123 (nI ch) x y u v) := by
      intro qq eL
      have qo : ¬ qSSok (vv M 124 ch 1) x y u v = true := by rw [er1, SS_iff r2]; exact qq
      refine OK_eG (M1 := aExn M) (code := 2) (v := 0) (X' := qXe (xx M) 2) h hp LV_exn ?_ (by decide) (fun N hN => ?_) XKp_Xe qXe_0
      · rw [eL]; exact L_exn rfl rfl
      · rw [er N hN, if_pos q1, lt_iN (by omega), if_neg qo]
    have qn : ∀ (x : Int32) (m : Nat), m ≤ 20 → ¬ qIn x 0 (nI m) = true → ¬ (0 ≤ x.toInt ∧ x.toInt ≤ m) := fun x m hm q z => q (qIn_i.mpr ⟨by rw [Int32.lt_iff_toInt_lt, show (0 : Int32).toInt = 0 from rfl]; omega, by rw [Int32.lt_iff_toInt_lt, lt_iT (by omega)]; omega⟩)
    rw [if_pos q1, t_ck hk, t_p0 hk, x_rf, t_ckB hk, t_cache 37 hk hch, lt_br_r, t_ckC hk hch, e1, z_range, bv_if] at eL
    by_cases q2 : qIn x 0 (nI r) = true
    · obtain ⟨s1, -, g1, rfl⟩ := qIn_r (lo := 0) (hi := r) (by omega) (by omega) q2
      rw [if_pos q2, t_ckC hk hch, e1, lt_sb g1, z_range, bv_if] at eL
      by_cases q3 : qIn y 0 (nI (r - s1)) = true
      · obtain ⟨s2, -, g2, rfl⟩ := qIn_r (lo := 0) (hi := r - s1) (by omega) (by omega) q3
        rw [if_pos q3, t_ckC hk hch, e1, lt_sb g1, lt_sb g2, z_range, bv_if] at eL
        by_cases q4 : qIn u 0 (nI (r - s1 - s2)) = true
        · obtain ⟨s3, -, g3, rfl⟩ := qIn_r (lo := 0) (hi := r - s1 - s2) (by omega) (by omega) q4
          rw [if_pos q4, t_ckC hk hch, e1, lt_sb g1, lt_sb g2, lt_sb g3, z_range, bv_if] at eL
          by_cases q5 : qIn v 0 (nI (r - s1 - s2 - s3)) = true
          · obtain ⟨s4, -, g4, rfl⟩ := qIn_r (lo := 0) (hi := r - s1 - s2 - s3) (by omega) (by omega) q5
            have hC := RB_c hB' hch
            have hS := RC_share hC (a := s1) (b := s2) (c := s3) (d := s4) (by omega) (by omega) (by omega) (by omega)
            have es := k_share (M := M') (C := cc 2 ch) (S := tG M' (cc 2 ch)) (a := nI s1) (b := nI s2) (e := nI s3) (f := nI s4) 36 (t_cA hk' hch)
            rw [t_cid] at es
            let S1 := kShare (tG M' (cc 2 ch)) (nI s1) (nI s2) (nI s3) (nI s4)
            have hk1 : CSK L (cM M' (cc 2 ch) S1) := hk'
            have eb1 := k_beyond (M := M') (C := cc 2 ch) (S := S1) (K := 3) (set := S1.1 0 5) 35 (t_cA hk' hch) (t_KO hk' hch)
            have e5 : mI (cM M' (cc 2 ch) S1) (cc 2 ch) 5 = S1.1 0 5 := congrFun cI0 5
            have hqo : qSSok (vv M 124 ch 1) (nI s1) (nI s2) (nI s3) (nI s4) = true := by
              rw [er1, SS_iff r2, lt_iT (by omega), lt_iT (by omega), lt_iT (by omega), lt_iT (by omega)]
              omega
            have hv : pPop (kBey (mI M' (3 + 1)) (mI M' (3 + 3)) S1 (S1.1 0 5)) = if (0 : Int32) < nI s1 + nI s2 + nI s3 + nI s4 then qBeyond (mI M 124) (qShare (vv M 124 ch) (nI s1) (nI s2) (nI s3) (nI s4)) 4 0 else 0 := by
              have f8 := hS.1.1.2.2.1
              have f8' : qShare (vv M 124 ch) (nI s1) (nI s2) (nI s3) (nI s4) 8 = if (0 : Int32) < nI s1 + nI s2 + nI s3 + nI s4 then 1 else 0 := upd_s
              unfold kBey
              have f9 : (if kHasSh S1 = 0 then (0 : Int32) else 1) = if (0 : Int32) < nI s1 + nI s2 + nI s3 + nI s4 then 1 else 0 := f8.symm.trans f8'
              by_cases g : (0 : Int32) < nI s1 + nI s2 + nI s3 + nI s4
              · rw [if_pos g] at f9 ⊢
                have : ¬ kHasSh S1 = 0 := fun z => by rw [if_pos z] at f9; exact absurd f9 (by decide)
                rw [if_neg this]
                exact beyond_eq hS.1.1.2.1 hS.1.2.1 (RB_ky hB') 4 0 (Nat.le_refl _) KS_0 (fun j _ _ => b_0 j)
              · rw [if_neg g] at f9 ⊢
                have : kHasSh S1 = 0 := Classical.byContradiction fun z => by rw [if_neg z] at f9; exact absurd f9 (by decide)
                rw [if_pos this]
                rfl
            rw [if_pos q5, t_ck hk, ec', lt_bv_r, t_ckC hk' hch, es, lt_bv_r, t_ck hk1, t_p0 hk1, x_rf, t_ckB hk1, t_B0 hk1, x_rf, t_ckC hk1 hch, t_ckC hk1 hch, e5, eb1, lt_bi_r, c_pop, lt_bi_r, hv, t_cM hch] at eL
            refine OKC h hd hKE (RB_up hB' hch hS) (CT_share hCT) (eL.trans (L_val rfl hk')) (fun N hN => ?_) (XBk_b hpa hc6 h0) (qBX_17 hpa hc6) qBX_18 (qBX_0 hpa hc6)
            rw [er N hN, if_pos q1, lt_iN (by omega), if_pos hqo]
          · rw [if_neg q5] at eL
            refine exn (fun z => qn _ _ (by omega) q5 ?_) eL
            rw [lt_iT (by omega), lt_iT (by omega), lt_iT (by omega)] at z
            omega
        · rw [if_neg q4] at eL
          refine exn (fun z => qn _ _ (by omega) q4 ?_) eL
          rw [lt_iT (by omega), lt_iT (by omega)] at z
          omega
      · rw [if_neg q3] at eL
        refine exn (fun z => qn _ _ (by omega) q3 ?_) eL
        rw [lt_iT (by omega)] at z
        omega
    · rw [if_neg q2] at eL
      refine exn (fun z => qn _ _ (by omega) q2 ?_) eL
      omega
  · rw [if_neg q1] at eL
    refine OK_eG (M1 := aExn M) (code := 1) (v := 0) (X' := qXe (xx M) 1) h hp LV_exn ?_ (by decide) (fun N hN => ?_) XKp_Xe qXe_0
    · rw [eL]; exact L_exn rfl rfl
    · rw [er N hN, if_neg q1]
end Uq
