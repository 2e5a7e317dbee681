/-! THE LAW: print() and isWhole() -/
section Dg
variable {M M' M0 M1 N : LM} {D i j k t w f n e r a o m s y key h p fed writes : Nat} {x v b1 b2 : Int32} {b : Bool} {T T' T2 : BT} {R : Nat → BT} {c' : Nat} {kf fs W z c ro : Nat → Nat} {kz : Nat → Int32} {S S' : CS}
theorem caV_0 : caV kz S 0 = S.1 0 0 := by unfold caV; rw [if_pos (by decide)]
theorem caV_1 : caV kz S 1 = S.1 0 1 := by unfold caV; rw [if_neg (by decide), if_pos (by decide)]
theorem caV_3 : caV kz S 3 = S.1 0 3 := by unfold caV; rw [if_neg (by decide), if_neg (by decide), if_neg (by decide), if_pos (by decide)]
theorem caV_4 : caV kz S 4 = pPop (S.1 0 5) := by unfold caV; rw [if_neg (by decide), if_neg (by decide), if_neg (by decide), if_neg (by decide), if_pos (by decide)]
theorem caV_5 : caV kz S 5 = pSum (S.1 0 5) kz 26 0 := by unfold caV; rw [if_neg (by decide), if_neg (by decide), if_neg (by decide), if_neg (by decide), if_neg (by decide), if_pos (by decide)]
theorem caV_6 : caV kz S 6 = pPop (S.1 0 6) := by unfold caV; rw [if_neg (by decide), if_neg (by decide), if_neg (by decide), if_neg (by decide), if_neg (by decide), if_neg (by decide), if_pos (by decide)]
theorem caV_7 : caV kz S 7 = pPop (S.1 0 10) := by unfold caV; rw [if_neg (by decide), if_neg (by decide), if_neg (by decide), if_neg (by decide), if_neg (by decide), if_neg (by decide), if_neg (by decide)]
theorem pr_44 (d : Nat) (hS : SO M T R c') (hi : i < 6) (hs : KS ((T.2 i).1 0 5)) : ∀ (m : Nat) (x : Int64), m ≤ nK (bt ((T.2 i).1 0 5)) 26 → f_L_print_44 (d + 13) M 2 x (nI i) (nI (nK (bt ((T.2 i).1 0 5)) 26 - m)) = f_L_print_4 (d + 13) M 2 (31 * prO (T.2 i) (nK (bt ((T.2 i).1 0 5)) 26) m x + Int32.toInt64 (pPop ((T.2 i).1 0 6)) + 7 * Int32.toInt64 (pPop ((T.2 i).1 0 10))) (nI (i + 1))
  | 0, x, _ => by
    have h26 := nK_le (f := bt ((T.2 i).1 0 5)) 26
    have c4 : f_X10_cacheAt (d + 12) M 2 (nI i) 4 = _ := q_cacheAt d hS hi (by decide)
    have c6 : f_X10_cacheAt (d + 12) M 2 (nI i) 6 = _ := q_cacheAt d hS hi (by decide)
    have c7 : f_X10_cacheAt (d + 12) M 2 (nI i) 7 = _ := q_cacheAt d hS hi (by decide)
    rw [caV_4] at c4
    rw [caV_6] at c6
    rw [caV_7] at c7
    rw [e_L_print_44, t_ck hS.1, c4, lt_bi_r, pPop_nK hs, if_neg (by rw [nI_ltP (by omega) (by omega)]; omega), t_ck hS.1, c6, lt_bi_r, t_ck hS.1, c7, lt_bi_r, nI_p1]
    rfl
  | m + 1, x, hm => by
    have h26 := nK_le (f := bt ((T.2 i).1 0 5)) 26
    have c4 : f_X10_cacheAt (d + 12) M 2 (nI i) 4 = _ := q_cacheAt d hS hi (by decide)
    rw [caV_4] at c4
    have hp : nI (nK (bt ((T.2 i).1 0 5)) 26 - (m + 1)) < nI (nK (bt ((T.2 i).1 0 5)) 26) := by rw [nI_ltP (by omega) (by omega)]; omega
    have ko := q_keyInOrder (p := nK (bt ((T.2 i).1 0 5)) 26 - (m + 1)) d hS hi (by omega) (by rw [pPop_nK hs]; exact hp)
    have e1 : nI (nK (bt ((T.2 i).1 0 5)) 26 - (m + 1)) + 1 = nI (nK (bt ((T.2 i).1 0 5)) 26 - m) := by rw [nI_p1]; congr 1; omega
    rw [e_L_print_44, t_ck hS.1, c4, lt_bi_r, pPop_nK hs, if_pos hp, t_ck hS.1, ko, lt_bi_r, e1]
    exact pr_44 d hS hi hs m _ (by omega)
theorem pr_13 (d : Nat) (hS : SO M T R c') (hi : i < 6) : ∀ (m : Nat) (x : Int64), m ≤ 9 → f_L_print_13 (d + 13) M 2 x (nI i) (nI (9 - m)) = f_L_print_44 (d + 13) M 2 (prC (T.2 i) m x) (nI i) 0
  | 0, x, _ => by rw [e_L_print_13, if_neg (by decide)]; rfl
  | m + 1, x, hm => by
    have cc' := q_count (w := 9 - (m + 1)) d hS hi (by omega)
    have l9 : nI (9 - (m + 1)) < (9 : Int32) := (nI_ltP (j := 9 - (m + 1)) (k := 9) (by omega) (by omega)).mpr (by omega)
    have e1 : nI (9 - (m + 1)) + 1 = nI (9 - m) := by rw [nI_p1]; congr 1; omega
    rw [e_L_print_13, if_pos l9, t_ck hS.1, cc', lt_bi_r, e1, pr_13 d hS hi m _ (by omega), show 9 - (m + 1) = 8 - m by omega]
    rfl
theorem pr_4 (d : Nat) (hS : SO M T R c') (hs : ∀ i, i < 6 → KS ((T.2 i).1 0 5)) : ∀ (m : Nat) (x : Int64), m ≤ 6 → f_L_print_4 (d + 13) M 2 x (nI (6 - m)) = some (.inl (some (.long (prT T.2 m x))), M)
  | 0, x, _ => by rw [e_L_print_4, if_neg (by decide)]; rfl
  | m + 1, x, hm => by
    have l6 : nI (6 - (m + 1)) < (6 : Int32) := (nI_ltP (j := 6 - (m + 1)) (k := 6) (by omega) (by omega)).mpr (by omega)
    have h13 := pr_13 d hS (i := 6 - (m + 1)) (by omega) 9 x (Nat.le_refl _)
    have h44 := pr_44 d hS (i := 6 - (m + 1)) (by omega) (hs _ (by omega)) _ (prC (T.2 (6 - (m + 1))) 9 x) (Nat.le_refl _)
    rw [Nat.sub_self] at h13 h44
    have h13' : f_L_print_13 (d + 13) M 2 x (nI (6 - (m + 1))) 0 = _ := h13
    have h44' : f_L_print_44 (d + 13) M 2 (prC (T.2 (6 - (m + 1))) 9 x) (nI (6 - (m + 1))) 0 = _ := h44
    rw [e_L_print_4, if_pos l6, h13', h44', show 6 - (m + 1) + 1 = 6 - m by omega, pr_4 d hS hs m _ (by omega), show 6 - (m + 1) = 5 - m by omega]
    rfl
theorem l_print (d : Nat) (hS : SO M T R c') (hs : ∀ i, i < 6 → KS ((T.2 i).1 0 5)) : f_L_print (d + 13) M 2 = some (.inl (some (.long (prT T.2 6 0))), M) := by
  rw [e_L_print]
  exact pr_4 d hS hs 6 0 (Nat.le_refl _)
/-! ### isWhole -/
theorem wh_34 (d : Nat) (hS : SO M T R c') (hi : i < 6) (hI : INV z c (T.2 i) fed writes r) (hz : SZ (T.1 2) z) (hc : ∀ k, k < 26 → T.1 3 k = nI (c k)) {hk mk : Nat → Nat} (f8 : ∀ k, k < 26 → (T.2 i).1 8 k = nI (hk k) ∧ (T.2 i).1 9 k = nI (mk k)) {x1 x2 x4 : Int32} : ∀ (m k : Nat), k + m = 26 →
    f_L_isWhole_34 (d + 13) M 2 x1 x2 (nI i) x4 (nI (uS z (bt ((T.2 i).1 0 5)) k)) (nI (sN hk k)) (nI (sN mk k)) (nI (sN (fun k => mk k * c k) k)) (nI (nK (bt ((T.2 i).1 0 6)) k)) (nI k) = f_L_isWhole_168 (d + 13) M 2 x1 x2 (nI i) x4 (nI (uS z (bt ((T.2 i).1 0 5)) 26)) (nI (sN hk 26)) (nI (sN mk 26)) (nI (sN (fun k => mk k * c k) 26)) (nI (nK (bt ((T.2 i).1 0 6)) 26)) 0 0
  | 0, k, hkm => by
    have : k = 26 := by omega
    rw [e_L_isWhole_34, this, if_neg (by decide)]
  | m + 1, k, hkm => by
    have hk26 : k < 26 := by omega
    have l26 : nI k < (26 : Int32) := (nI_ltP (j := k) (k := 26) (by omega) (by omega)).mpr hk26
    have ih := wh_34 d hS hi hI hz hc f8 (x1 := x1) (x2 := x2) (x4 := x4) m (k + 1) (by omega)
    have hho := q_holds d hS hi hk26
    have hsz := q_keySize d hS hk26
    have hco := q_keyCost d hS hk26
    have hdi := q_isDirty d hS hi hk26
    have c1 : f_X10_countOf (d + 12) M 2 (nI i) (nI k) 1 = _ := q_countOf d hS hi hk26 true
    have c0 : f_X10_countOf (d + 12) M 2 (nI i) (nI k) 0 = _ := q_countOf d hS hi hk26 false
    have ck : ∀ {Z : Option (LO × LM)}, lt_ck M 2 26 Z = Z := fun {Z} => t_ck hS.1
    have e8 : (T.2 i).1 (if true = true then 8 else 9) k = nI (hk k) := (f8 k hk26).1
    have e9 : (T.2 i).1 (if false = true then 8 else 9) k = nI (mk k) := (f8 k hk26).2
    -- from 84 on
    have g84 : ∀ (u : Nat) (db : Int32), nI u = nI (uS z (bt ((T.2 i).1 0 5)) (k + 1)) → nI (nK (bt ((T.2 i).1 0 6)) k) + db = nI (nK (bt ((T.2 i).1 0 6)) (k + 1)) → f_L_isWhole_84 (d + 13) M 2 x1 x2 (nI i) x4 (nI u) (nI (sN hk k)) (nI (sN mk k)) (nI (sN (fun k => mk k * c k) k)) (nI k) db (nI (nK (bt ((T.2 i).1 0 6)) k)) = f_L_isWhole_168 (d + 13) M 2 x1 x2 (nI i) x4 (nI (uS z (bt ((T.2 i).1 0 5)) 26)) (nI (sN hk 26)) (nI (sN mk 26)) (nI (sN (fun k => mk k * c k) 26)) (nI (nK (bt ((T.2 i).1 0 6)) 26)) 0 0 := by
      intro u db hu hdb
      have s1 : nI (sN hk k) + nI (hk k) = nI (sN hk (k + 1)) := lt_iA
      have s2 : nI (sN mk k) + nI (mk k) = nI (sN mk (k + 1)) := lt_iA
      have s3 : nI (sN (fun k => mk k * c k) k) + nI (mk k) * nI (c k) = nI (sN (fun k => mk k * c k) (k + 1)) := by rw [lt_iM, lt_iA]; rfl
      rw [e_L_isWhole_84, ck, c1, lt_bi_r, ck, c0, lt_bi_r, ck, c0, lt_bi_r, ck, hco, lt_bi_r, ck, hdi, lt_bi_r, e8, e9, hc k hk26, s1, s2, s3, hdb, hu, nI_p1]
      by_cases w : bt ((T.2 i).1 0 6) k = true
      · have wh := hI.1.2.2.2.1 k hk26 w
        rw [w, if_neg (by decide), ck, hho, lt_bi_r, wh, if_neg (by decide)]
        exact ih
      · rw [Bool.not_eq_true] at w
        rw [w, if_pos (show bI false = 0 from rfl)]
        exact ih
    have g64 : ∀ (sz u : Nat), u = uS z (bt ((T.2 i).1 0 5)) k + sz → u = uS z (bt ((T.2 i).1 0 5)) (k + 1) → f_L_isWhole_64 (d + 13) M 2 x1 x2 (nI i) x4 (nI (sN hk k)) (nI (sN mk k)) (nI (sN (fun k => mk k * c k) k)) (nI (nK (bt ((T.2 i).1 0 6)) k)) (nI k) (nI sz) (nI (uS z (bt ((T.2 i).1 0 5)) k)) = f_L_isWhole_168 (d + 13) M 2 x1 x2 (nI i) x4 (nI (uS z (bt ((T.2 i).1 0 5)) 26)) (nI (sN hk 26)) (nI (sN mk 26)) (nI (sN (fun k => mk k * c k) 26)) (nI (nK (bt ((T.2 i).1 0 6)) 26)) 0 0 := by
      intro sz u h1 h2
      rw [e_L_isWhole_64, ck, hdi, lt_bi_r, lt_iA, ← h1]
      by_cases w : bt ((T.2 i).1 0 6) k = true
      · rw [w, if_neg (by decide)]
        exact g84 u 1 (by rw [h2]) (by rw [nK_e, if_pos w]; exact lt_iA (k := 1))
      · rw [Bool.not_eq_true] at w
        rw [w, if_pos (show bI false = 0 from rfl)]
        exact g84 u 0 (by rw [h2]) (by rw [nK_e, w, if_neg (by decide)]; exact Int32.add_zero _)
    rw [e_L_isWhole_34, if_pos l26, ck, hho, lt_bi_r]
    by_cases w : bt ((T.2 i).1 0 5) k = true
    · rw [w, if_neg (by decide), ck, hsz, lt_bi_r, (hz k hk26).1]
      refine g64 (z k) _ rfl ?_
      show _ = uS z (bt ((T.2 i).1 0 5)) k + (if bt ((T.2 i).1 0 5) k = true then z k else 0)
      rw [if_pos w]
    · rw [Bool.not_eq_true] at w
      rw [w, if_pos (show bI false = 0 from rfl)]
      refine g64 0 _ rfl ?_
      show _ = uS z (bt ((T.2 i).1 0 5)) k + (if bt ((T.2 i).1 0 5) k = true then z k else 0)
      rw [w, if_neg (by decide)]
theorem wh_168 (d : Nat) (hS : SO M T R c') (hi : i < 6) (hA : IA (T.2 i)) (hz : SZ (T.1 2) z) (h1 : (T.2 i).1 0 1 = nI r) (hr : r ≤ 20) (hU : uS z (bt ((T.2 i).1 0 5)) 26 ≤ r) {x1 x2 x6 x7 x8 : Int32} : ∀ (m : Nat), m ≤ nK (bt ((T.2 i).1 0 5)) 26 →
    f_L_isWhole_168 (d + 13) M 2 x1 x2 (nI i) (nI (nK (bt ((T.2 i).1 0 5)) 26)) (nI (uS z (bt ((T.2 i).1 0 5)) 26)) x6 x7 x8 (nI (nK (bt ((T.2 i).1 0 6)) 26)) (ordS (T.2 i) (nK (bt ((T.2 i).1 0 5)) 26 - m)) (nI (nK (bt ((T.2 i).1 0 5)) 26 - m)) = f_L_isWhole_244 (d + 13) M 2 x1 x2 (nI i) (nI (nK (bt ((T.2 i).1 0 5)) 26)) x6 x7 x8 (nI (nK (bt ((T.2 i).1 0 6)) 26)) 1
  | 0, _ => by
    have h26 := nK_le (f := bt ((T.2 i).1 0 5)) 26
    have ck : ∀ {Z : Option (LO × LM)}, lt_ck M 2 26 Z = Z := fun {Z} => t_ck hS.1
    have c5 : f_X10_cacheAt (d + 12) M 2 (nI i) 5 = _ := q_cacheAt d hS hi (by decide)
    have c1 : f_X10_cacheAt (d + 12) M 2 (nI i) 1 = _ := q_cacheAt d hS hi (by decide)
    have c6 : f_X10_cacheAt (d + 12) M 2 (nI i) 6 = _ := q_cacheAt d hS hi (by decide)
    rw [caV_5, pSum_U hz] at c5
    rw [caV_1, h1] at c1
    rw [caV_6, pPop_nK hA.2.1] at c6
    obtain ⟨o1, o2, -⟩ := ordS_n hA.1 _ (Nat.le_refl _)
    rw [Nat.sub_zero, e_L_isWhole_168, if_neg (by rw [nI_ltP (by omega) (by omega)]; omega), c_pop, lt_bi_r, pPop_nK o1, o2, if_pos rfl, ck, c5, lt_bi_r, if_pos rfl, ck, c1, lt_bi_r, if_neg (by rw [nI_ltP (by omega) (by omega)]; omega), ck, c6, lt_bi_r, if_pos rfl]
  | m + 1, hm => by
    have h26 := nK_le (f := bt ((T.2 i).1 0 5)) 26
    have hp : nI (nK (bt ((T.2 i).1 0 5)) 26 - (m + 1)) < nI (nK (bt ((T.2 i).1 0 5)) 26) := by rw [nI_ltP (by omega) (by omega)]; omega
    have ko := q_keyInOrder (p := nK (bt ((T.2 i).1 0 5)) 26 - (m + 1)) d hS hi (by omega) (by rw [pPop_nK hA.1]; exact hp)
    have e1 : nI (nK (bt ((T.2 i).1 0 5)) 26 - (m + 1)) + 1 = nI (nK (bt ((T.2 i).1 0 5)) 26 - m) := by rw [nI_p1]; congr 1; omega
    have e2 : ordS (T.2 i) (nK (bt ((T.2 i).1 0 5)) 26 - (m + 1)) ||| (1 <<< (oI (kNth (T.2 i) (nK (bt ((T.2 i).1 0 5)) 26 - (m + 1))) &&& 31)) = ordS (T.2 i) (nK (bt ((T.2 i).1 0 5)) 26 - m) := by
      rw [show nK (bt ((T.2 i).1 0 5)) 26 - m = nK (bt ((T.2 i).1 0 5)) 26 - (m + 1) + 1 by omega]
      rfl
    rw [e_L_isWhole_168, if_pos hp, t_ck hS.1, ko, lt_bi_r, e1, e2]
    exact wh_168 d hS hi hA hz h1 hr hU m (by omega)
theorem odd_2 {mo : Nat} (h : mo ≤ 3) : (nI mo - nI mo / 2 * 2 = 1) ↔ ¬ nI mo &&& 1 = 0 := by
  have : ∀ mo, mo ≤ 3 → ((nI mo - nI mo / 2 * 2 = 1) ↔ ¬ nI mo &&& 1 = 0) := by decide
  exact this mo h
theorem wh_372 (d : Nat) (hS : SO M T R c') (v : VL kf fs W fed T) (hi : i < 6) (hI : INV z c (T.2 i) fed writes r) {s0 : Int32} (hs0 : s0 = 0 → (T.2 i).1 0 3 &&& 1 = 0) (hw : writes ≤ 300) {h : Nat} (hh : (T.2 i).1 7 0 = nI h ∧ hCt ((T.2 i).1 10) fed = h) :
    f_L_isWhole_372 (d + 13) M 2 (nI fed) (nI writes) (nI i) (nI h) (nI (nK (bt ((T.2 i).1 0 6)) 26)) s0 = f_L_isWhole_2 (d + 13) M 2 (nI fed) (nI writes) (nI (i + 1)) := by
  have hn := v.2.2.1
  have ck : ∀ {Z : Option (LO × LM)}, lt_ck M 2 26 Z = Z := fun {Z} => t_ck hS.1
  obtain ⟨hA, h1, hro, hU, o, X, p, m, h', hC, g0, g1, g5, gX, gn, hk, mk, f8, fh, fm, f7, f66, f67, fo⟩ := id hI
  obtain ⟨l, w, f, u, u1, u2, u3, u4, u5, u6, u7, u8, u9, u10, u11⟩ := hC
  have c4 : f_X10_count (d + 12) M 2 (nI i) 4 = _ := q_count (w := 4) d hS hi (by omega)
  rw [u3] at c4
  have n26 := nK_le (f := bt ((T.2 i).1 0 6)) 26
  have lw : nI w + nI (nK (bt ((T.2 i).1 0 6)) 26) = nI (w + nK (bt ((T.2 i).1 0 6)) 26) := lt_iA
  have e0 : ¬ nI writes < nI (w + nK (bt ((T.2 i).1 0 6)) 26) := by rw [nI_ltP (by omega) (by omega)]; omega
  -- the outcomes
  have last : (if @LT.lt Int32 _ 0 (nI fed) then (lt_ck M 2 26 (lt_bi (f_X10_hitsBetween (d + 12) M 2 (nI i) 0 (nI fed - 1)) [] fun v70 M69 => if @Eq Int32 v70 (nI h) then (f_L_isWhole_2 (d + 13) M69 2 (nI fed) (nI writes) (nI i + 1)) else (lt_b1 0 (some (.inl (some (.int 0)), M69))))) else (f_L_isWhole_2 (d + 13) M 2 (nI fed) (nI writes) (nI i + 1)) : Option (LO × LM)) = f_L_isWhole_2 (d + 13) M 2 (nI fed) (nI writes) (nI (i + 1)) := by
    rw [nI_p1]
    by_cases q : (0 : Int32) < nI fed
    · have hf : 0 < fed := (nI_ltP (j := 0) (k := fed) (by omega) (by omega)).mp q
      have hb := q_hitsBetween d hS v hi hf
      have hs := hSum_h hI hn fed 0 (Nat.le_refl _) (by rw [Nat.sub_self]; rfl)
      have hs' : hSum (T.2 i) fed fed 0 = _ := hs
      rw [hs', hh.2] at hb
      rw [if_pos q, ck, hb, lt_bi_r, if_pos rfl]
    · rw [if_neg q]
  -- the writes
  have mid : (if @LT.lt Int32 _ (nI writes) (nI w + nI (nK (bt ((T.2 i).1 0 6)) 26)) then (lt_b1 0 (some (.inl (some (.int 0)), M))) else (if @LT.lt Int32 _ 0 (nI writes) then (lt_ck M 2 26 (lt_bi (f_X10_count (d + 12) M 2 (nI i) 4) [] fun v68 M67 => if @Eq Int32 (v68 + nI (nK (bt ((T.2 i).1 0 6)) 26)) 0 then (lt_b1 0 (some (.inl (some (.int 0)), M67))) else (if @LT.lt Int32 _ 0 (nI fed) then (lt_ck M67 2 26 (lt_bi (f_X10_hitsBetween (d + 12) M67 2 (nI i) 0 (nI fed - 1)) [] fun v70 M69 => if @Eq Int32 v70 (nI h) then (f_L_isWhole_2 (d + 13) M69 2 (nI fed) (nI writes) (nI i + 1)) else (lt_b1 0 (some (.inl (some (.int 0)), M69))))) else (f_L_isWhole_2 (d + 13) M67 2 (nI fed) (nI writes) (nI i + 1))))) else (if @LT.lt Int32 _ 0 (nI fed) then (lt_ck M 2 26 (lt_bi (f_X10_hitsBetween (d + 12) M 2 (nI i) 0 (nI fed - 1)) [] fun v66 M65 => if @Eq Int32 v66 (nI h) then (f_L_isWhole_2 (d + 13) M65 2 (nI fed) (nI writes) (nI i + 1)) else (lt_b1 0 (some (.inl (some (.int 0)), M65))))) else (f_L_isWhole_2 (d + 13) M 2 (nI fed) (nI writes) (nI i + 1)))) : Option (LO × LM)) = f_L_isWhole_2 (d + 13) M 2 (nI fed) (nI writes) (nI (i + 1)) := by
    rw [lw, if_neg e0]
    by_cases q : (0 : Int32) < nI writes
    · have hw0 := u10 ((nI_ltP (j := 0) (k := writes) (by omega) (by omega)).mp q)
      rw [if_pos q, ck, c4, lt_bi_r, lw, if_neg (show ¬ nI (w + nK (bt ((T.2 i).1 0 6)) 26) = 0 from fun e => by have := (lt_iE (j := w + nK (bt ((T.2 i).1 0 6)) 26) (k := 0) (by omega) (by omega)).mp e; omega)]
      exact last
    · rw [if_neg q]
      exact last
  rw [e_L_isWhole_372]
  by_cases q : s0 = 0
  · have hw2 := u11 (hs0 q)
    rw [if_pos q, ck, c4, lt_bi_r, if_pos (show nI w = nI writes by rw [hw2]), ck, c4, lt_bi_r]
    exact mid
  · rw [if_neg q, ck, c4, lt_bi_r]
    exact mid
theorem wh_244 (d : Nat) (hS : SO M T R c') (v : VL kf fs W fed T) (hi : i < 6) (hI : INV z c (T.2 i) fed writes r) (hw : writes ≤ 300) {mo : Nat} (hm : (T.2 i).1 0 3 = nI mo) (hmo : mo ≤ 3) {h m : Nat} {hk mk : Nat → Nat} (f8 : ∀ k, k < 26 → (T.2 i).1 8 k = nI (hk k) ∧ (T.2 i).1 9 k = nI (mk k)) (fh : sN hk 26 = h) (fm : sN mk 26 = m) (g0 : (T.2 i).1 7 0 = nI h) (g1 : (T.2 i).1 7 1 = nI m) (gn : h + m = fed) (f7 : (T.2 i).1 7 8 = nI (sN (fun k => mk k * c k) 26)) (fo : hCt ((T.2 i).1 10) fed = h) :
    f_L_isWhole_244 (d + 13) M 2 (nI fed) (nI writes) (nI i) (nI (nK (bt ((T.2 i).1 0 5)) 26)) (nI (sN hk 26)) (nI (sN mk 26)) (nI (sN (fun k => mk k * c k) 26)) (nI (nK (bt ((T.2 i).1 0 6)) 26)) 1 = f_L_isWhole_2 (d + 13) M 2 (nI fed) (nI writes) (nI (i + 1)) := by
  have hn := v.2.2.1
  have ck : ∀ {Z : Option (LO × LM)}, lt_ck M 2 26 Z = Z := fun {Z} => t_ck hS.1
  obtain ⟨hA, h1, hro, hU, o, X, p, m', h', hC, g0', g1', g5, gX, gn', -⟩ := id hI
  have hm' : m' = m := by
    rw [g1] at g1'
    exact ((lt_iE (by omega) (by omega)).mp g1').symm
  obtain ⟨l, w, f, u, u1, u2, u3, u4, u5, u6, u7, u8, u9, u10, u11⟩ := hC
  have cq : ∀ w, w < 9 → f_X10_count (d + 12) M 2 (nI i) (nI w) = _ := fun w hw => q_count d hS hi hw
  have c0 : f_X10_count (d + 12) M 2 (nI i) 0 = _ := cq 0 (by omega)
  have c1 : f_X10_count (d + 12) M 2 (nI i) 1 = _ := cq 1 (by omega)
  have c2 : f_X10_count (d + 12) M 2 (nI i) 2 = _ := cq 2 (by omega)
  have c3 : f_X10_count (d + 12) M 2 (nI i) 3 = _ := cq 3 (by omega)
  have c5 : f_X10_count (d + 12) M 2 (nI i) 5 = _ := cq 5 (by omega)
  have c6 : f_X10_count (d + 12) M 2 (nI i) 6 = _ := cq 6 (by omega)
  have c7 : f_X10_count (d + 12) M 2 (nI i) 7 = _ := cq 7 (by omega)
  have c8 : f_X10_count (d + 12) M 2 (nI i) 8 = _ := cq 8 (by omega)
  rw [g0] at c0
  rw [g1] at c1
  rw [u1] at c2
  rw [u2] at c3
  rw [g5] at c5
  rw [u4] at c6
  rw [u5] at c7
  rw [f7] at c8
  have d3 : f_X10_cacheAt (d + 12) M 2 (nI i) 3 = _ := q_cacheAt d hS hi (by decide)
  rw [caV_3, hm] at d3
  have n26 := nK_le (f := bt ((T.2 i).1 0 5)) 26
  have bal : (nI m - nI p) + nI f = (nI (nK (bt ((T.2 i).1 0 5)) 26) + nI o) + nI l := by
    rw [nI_sub (by omega), lt_iA, lt_iA, lt_iA]
    congr 1
    omega
  have fin := fun s0 hs0 => wh_372 (s0 := s0) (h := h) d hS v hi hI hs0 hw ⟨g0, fo⟩
  rw [e_L_isWhole_244, if_neg (by decide), ck, c0, lt_bi_r, if_pos (by rw [fh]), ck, c1, lt_bi_r, if_pos (by rw [fm]), lt_iA, if_pos (by rw [fh, fm, gn]), ck, c8, lt_bi_r, if_pos rfl, ck, c7, lt_bi_r, ck, c6, lt_bi_r, if_neg (by rw [nI_ltP (by omega) (by omega)]; omega), ck, c1, lt_bi_r, ck, c5, lt_bi_r, ck, c6, lt_bi_r, ck, c2, lt_bi_r, ck, c3, lt_bi_r, if_pos bal, ck, d3, lt_bi_r, lt_nz_t (show ¬ (2 : Int32) = 0 by decide), fh]
  by_cases q : nI mo - nI mo / 2 * 2 = 1
  · rw [if_pos q]
    exact fin 1 (fun e => by cases e)
  · rw [if_neg q]
    refine fin 0 (fun _ => ?_)
    rw [hm]
    exact Classical.byContradiction fun e => q ((odd_2 hmo).mpr e)
/-- what the law's isWhole wants of all caches -/
def WH (z c : Nat → Nat) (fed writes : Nat) (T : BT) : Prop := ∀ i, i < 6 → (∃ r, INV z c (T.2 i) fed writes r) ∧ ∃ mo, mo ≤ 3 ∧ (T.2 i).1 0 3 = nI mo
theorem wh_2 (d : Nat) (hS : SO M T R c') (v : VL kf fs W fed T) (hW : WH z c fed writes T) (hw : writes ≤ 300) (hz : SZ (T.1 2) z) (hc : ∀ k, k < 26 → T.1 3 k = nI (c k)) : ∀ (m i : Nat), i + m = 6 → f_L_isWhole_2 (d + 13) M 2 (nI fed) (nI writes) (nI i) = some (.inl (some (.int 1)), M)
  | 0, i, hi => by
    have : i = 6 := by omega
    rw [e_L_isWhole_2, this, if_neg (by decide)]
    rfl
  | m + 1, i, him => by
    have hi : i < 6 := by omega
    obtain ⟨⟨r, hI⟩, mo, hmo, hm⟩ := hW i hi
    obtain ⟨hA, h1, hro, hU, o, X, p, m', h', hC, g0, g1, g5, gX, gn, hk, mk, f8, fh, fm, f7, f66, f67, fo⟩ := id hI
    have l6 : nI i < (6 : Int32) := (nI_ltP (j := i) (k := 6) (by omega) (by omega)).mpr hi
    have c4 : f_X10_cacheAt (d + 12) M 2 (nI i) 4 = _ := q_cacheAt d hS hi (by decide)
    rw [caV_4, pPop_nK hA.1] at c4
    have s34 := wh_34 d hS hi hI hz hc f8 (x1 := nI fed) (x2 := nI writes) (x4 := nI (nK (bt ((T.2 i).1 0 5)) 26)) 26 0 (by omega)
    have s34' : f_L_isWhole_34 (d + 13) M 2 (nI fed) (nI writes) (nI i) (nI (nK (bt ((T.2 i).1 0 5)) 26)) 0 0 0 0 0 0 = _ := s34
    have s168 := wh_168 d hS hi hA hz h1 hro hU (x1 := nI fed) (x2 := nI writes) (x6 := nI (sN hk 26)) (x7 := nI (sN mk 26)) (x8 := nI (sN (fun k => mk k * c k) 26)) _ (Nat.le_refl _)
    rw [Nat.sub_self] at s168
    have s168' : f_L_isWhole_168 (d + 13) M 2 (nI fed) (nI writes) (nI i) (nI (nK (bt ((T.2 i).1 0 5)) 26)) (nI (uS z (bt ((T.2 i).1 0 5)) 26)) (nI (sN hk 26)) (nI (sN mk 26)) (nI (sN (fun k => mk k * c k) 26)) (nI (nK (bt ((T.2 i).1 0 6)) 26)) 0 0 = _ := s168
    rw [e_L_isWhole_2, if_pos l6, t_ck hS.1, c4, lt_bi_r, s34', s168', wh_244 d hS v hi hI hw hm hmo f8 fh fm g0 g1 gn f7 fo]
    exact wh_2 d hS v hW hw hz hc m (i + 1) (by omega)
theorem l_isWhole (d : Nat) (hS : SO M T R c') (v : VL kf fs W fed T) (hW : WH z c fed writes T) (hw : writes ≤ 300) (hz : SZ (T.1 2) z) (hc : ∀ k, k < 26 → T.1 3 k = nI (c k)) : f_L_isWhole (d + 13) M 2 (nI fed) (nI writes) = some (.inl (some (.int 1)), M) := by
  rw [e_L_isWhole]
  exact wh_2 d hS v hW hw hz hc 6 0 (by omega)
end Dg
