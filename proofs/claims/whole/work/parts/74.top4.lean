/-! CALLS: what is asked (class and reference answer alike) -/
/-- a call that the law tries: it answers, or throws the same; the state goes on -/
abbrev xx (M : LM) : Nat → Nat → Int32 := fun t j => mI M (123 + t) j
def OK (L : Nat) (xs : Nat → Int32) (i : Nat) (M : LM) (fL fX : LM → Option (LO × LM)) : Prop := ∃ (code v : Int32) (M1 M2 : LM), fL M = some (.inl (some (.int code)), M1) ∧ fX M1 = some (.inl (some (.int v)), M2) ∧ mI M1 0 = xs ∧ CSK L M1 ∧ mI M2 123 0 = code ∧ (code = 0 → mL M2 200 0 = Int32.toInt64 v) ∧ ST L xs M2 (i + 1) ∧ mL M2 = mL M1
section Ue
variable {M M' M1 N : LM} {L B D P U i j k t w f n c e r a o m : Nat} {x y v b1 b2 code cache key what : Int32} {z : Option (LO × LM)} {b : Bool} {T : BT} {kf fs W p : Nat → Nat} {xs H H' : Nat → Int32} {V V' X X' : Nat → Nat → Int32} {l : Option (List Nat)} {y64 : Int64} {fL fX : LM → Option (LO × LM)} {hl : List (Nat × Int32)}
theorem L_val {F : Option (LO × LM)} (h : F = some (.inl (some (.int v)), M1)) (hk : CSK L M1) : (lt_bi F hl fun v2 M1 => lt_ar M1 200 2 0 (lt_m (wL M1 200 (lt_n 0) (Int32.toInt64 v2)) fun M3 => some (.inl (some (.int 0)), M3))) = some (.inl (some (.int 0)), wL M1 200 0 (Int32.toInt64 v)) := by
  rw [h, lt_bi_r, t_oa hk, x_m]
  rfl
theorem L_bool {F : Option (LO × LM)} (h : F = some (.inl (some (.int (bI b))), M1)) (hk : CSK L M1) : (lt_bi F hl fun v2 M1 => if @Eq Int32 v2 0 then (lt_ar M1 200 2 0 (lt_m (wL M1 200 (lt_n 0) 0) fun M3 => some (.inl (some (.int 0)), M3))) else (lt_ar M1 200 2 0 (lt_m (wL M1 200 (lt_n 0) 1) fun M4 => some (.inl (some (.int 0)), M4)))) = some (.inl (some (.int 0)), wL M1 200 0 (Int32.toInt64 (bI b))) := by
  rw [h, lt_bi_r]
  cases b
  · rw [if_pos (show bI false = 0 from rfl), t_oa hk, x_m]; rfl
  · rw [if_neg (show ¬ bI true = 0 by decide), t_oa hk, x_m]; rfl
theorem L_exn {F : Option (LO × LM)} {K : Int32 → LM → Option (LO × LM)} (h : F = some (.inr e, M1)) (hl' : lt_find hl e = some code) : lt_bi F hl K = some (.inl (some (.int code)), M1) := by
  rw [h]
  show lt_th hl e M1 = _
  unfold lt_th
  rw [hl']
theorem rN_of (g : LV M M1) (hp : ∀ j, mP M 125 j = gP 123 p j) : rN M1 p (mI M 124) (vv M 124) (xx M) = M1 := by
  obtain ⟨g1, -, -, -, g5, -⟩ := g
  have := rN_id (M := M1) (p := p) (fun j => by rw [g5]; exact hp j)
  rw [g1 124 (by omega), vv_cg (g1 124 (by omega))] at this
  rw [show (xx M) = fun t j => mI M1 (123 + t) j from funext fun t => (g1 (123 + t) (by omega)).symm]
  exact this
theorem OKA (h : ST L xs M i) (g : LV M M1) (hp : ∀ j, mP M 125 j = gP 123 p j) (hL : fL M = some (.inl (some (.int code)), M1)) (hr : fX (rN M1 p (mI M 124) (vv M 124) (xx M)) = some (.inl (some (.int v)), rN M1 p (mI M 124) (vv M 124) X')) (hX : XKp (xx M) X') (hc : X' 0 0 = code) (hv : code = 0 → mL M1 200 0 = Int32.toInt64 v) : OK L xs i M fL fX := by
  rw [rN_of g hp] at hr
  refine ⟨code, v, M1, _, hL, hr, (g.1 0 (by omega)).trans h.2.2.1, CSK_lv h.1 g, (congrFun rN_X0 0).trans hc, hv, ST_A h g hp hX, rfl⟩
theorem out_v {M1 : LM} : mL (wL M1 200 0 y64) 200 0 = y64 := by
  show (if 200 = 200 ∧ 0 = 0 then y64 else mL M1 200 0) = y64
  exact if_pos ⟨rfl, rfl⟩
theorem qX0_0 : qX0 X 0 0 = 0 := u2_eq
theorem qXe_0 : qXe X v 0 0 = v := u2_eq
/-- an answer -/
theorem OK_v (h : ST L xs M i) (hp : ∀ j, mP M 125 j = gP 123 p j) (g : LV M M1) (hL : fL M = some (.inl (some (.int 0)), wL M1 200 0 (Int32.toInt64 v))) (hr : ∀ N, (∀ a, mK N a = mK M a ∧ mZ N a = mZ M a) → RA N 123 → fX (rM N 123 (mI M 124) (vv M 124) (xx M)) = some (.inl (some (.int v)), rM N 123 (mI M 124) (vv M 124) X')) (hX : XKp (xx M) X') (hc : X' 0 0 = 0) : OK L xs i M fL fX :=
  OKA h (LV_out g) hp hL (hr (rP (wL M1 200 0 (Int32.toInt64 v)) 123 (gP 123 p)) (fun a => ⟨by rw [← g.2.2.2.2.2.1]; rfl, by rw [← g.2.2.2.2.2.2.1]; rfl⟩) (RA.rp (t_r (CSK_lv h.1 (LV_out g))))) hX hc (fun _ => out_v)
/-- an exception -/
theorem OK_e (h : ST L xs M i) (hp : ∀ j, mP M 125 j = gP 123 p j) (g : LV M M1) (hL : fL M = some (.inl (some (.int code)), M1)) (hne : code ≠ 0) (hr : ∀ N, (∀ a, mK N a = mK M a ∧ mZ N a = mZ M a) → RA N 123 → fX (rM N 123 (mI M 124) (vv M 124) (xx M)) = some (.inl (some (.int v)), rM N 123 (mI M 124) (vv M 124) X')) (hX : XKp (xx M) X') (hc : X' 0 0 = code) : OK L xs i M fL fX :=
  OKA h g hp hL (hr (rP M1 123 (gP 123 p)) (fun a => ⟨by rw [← g.2.2.2.2.2.1]; rfl, by rw [← g.2.2.2.2.2.2.1]; rfl⟩) (RA.rp (t_r (CSK_lv h.1 g)))) hX hc (fun z => absurd z hne)
/-- what the relation says of keys and the row -/
theorem RB_key (h : RB kf fs W n T H V) (hk : k < 26) : T.1 2 k = H (2 + k) ∧ T.1 3 k = H (28 + k) ∧ T.1 4 k = H (54 + k) := by
  obtain ⟨⟨m1, -, -, a1, a2⟩, ⟨m2, -, b1, b2⟩, -, c1, c2⟩ := h.2.2.2.2.1 k hk
  exact ⟨a1.trans a2.symm, b1.trans b2.symm, c1.trans c2.symm⟩
theorem RB_row (h : RB kf fs W n T H V) (hi : i < n) : T.1 6 i = H (80 + i) ∧ T.1 7 i = H (380 + i) ∧ T.1 8 i = H (680 + i) := by
  obtain ⟨-, a, b, ⟨w, c1, c2⟩, d⟩ := h.2.2.2.2.2.1 i hi
  exact ⟨a.trans b.symm, c1.trans c2.symm, d⟩
theorem kTimes_q {g : Nat → Int32} (hg : ∀ i, i < n → g i = H (80 + i)) : ∀ (m : Nat) (z : Int32), m ≤ n → kTimes g n x m z = qTimes H n x m z
  | 0, z, _ => rfl
  | m + 1, z, hm => by
    show kTimes g n x m (if g (n - (m + 1)) = x then z + 1 else z) = qTimes H n x m (z + if H (80 + (n - (m + 1))) = x then 1 else 0)
    rw [← hg _ (by omega), kTimes_q hg m _ (by omega)]
    congr 1
    split
    · rfl
    · exact (Int32.add_zero z).symm
theorem t_at2 (d : Nat) (h : CSK L M) (hk : k < 26) : f_X10_at (d + 1) M 4 (nI k) = some (.inl (some (.int (mI M 4 k))), M) := s10_at d (t_kA h).2.2.2.2.1 hk
theorem t_at3 (d : Nat) (h : CSK L M) (hk : k < 26) : f_X10_at (d + 1) M 5 (nI k) = some (.inl (some (.int (mI M 5 k))), M) := s10_at d (t_kA h).2.2.2.2.2.1 hk
theorem t_at4 (d : Nat) (h : CSK L M) (hk : k < 26) : f_X10_at (d + 1) M 6 (nI k) = some (.inl (some (.int (mI M 6 k))), M) := s10_at d (t_kA h).2.2.2.2.2.2 hk
theorem t_at6 (d : Nat) (h : CSK L M) (hk : k < 300) : f_X10_at (d + 1) M 8 (nI k) = some (.inl (some (.int (mI M 8 k))), M) := s10_at d (t_RW h).2.2.2.2.1 hk
theorem t_at7 (d : Nat) (h : CSK L M) (hk : k < 300) : f_X10_at (d + 1) M 9 (nI k) = some (.inl (some (.int (mI M 9 k))), M) := s10_at d (t_RW h).2.2.2.2.2.1 hk
theorem t_at8 (d : Nat) (h : CSK L M) (hk : k < 300) : f_X10_at (d + 1) M 10 (nI k) = some (.inl (some (.int (mI M 10 k))), M) := s10_at d (t_RW h).2.2.2.2.2.2 hk
theorem t_has (d : Nat) (hk : k < 26) : f_X10_has (d + 1) M x (nI k) = some (.inl (some (.int (bI (bt x k)))), M) := s10_has d hk
theorem t_units (d : Nat) (h : CSK L M) : f_X3_units (d + 1) M 3 x = some (.inl (some (.int (pSum x (mI M 4) 26 0))), M) := s3_units d (t_kA h)
theorem t_owner (d : Nat) (h : CSK L M) : f_X3_ofOwner (d + 1) M 3 x = some (.inl (some (.int (pOwn (mI M 6) x 26 0))), M) := s3_ofOwner d (t_kA h)
theorem t_times (d : Nat) (h : CSK L M) (hl : mI M 7 3 = nI n) (hn : n ≤ 300) : f_X4_timesAsked (d + 1) M 7 x = some (.inl (some (.int (kTimes (mI M 8) n x n 0))), M) := w_timesAsked d (t_RW h) hl hn
theorem t_c17 (h : CSK L M) (hi : i < 6) : mP M (cc 2 i) 17 = some (cc 2 i + 6) := (t_cA h hi).1.2.2.2.2.2.2.1
theorem t_c4 (h : CSK L M) (hi : i < 6) : mP M (cc 2 i) 4 = some (cc 2 i + 1) := (t_cA h hi).1.2.1
theorem t_c16 (h : CSK L M) (hi : i < 6) : mP M (cc 2 i) 16 = some (cc 2 i + 5) := (t_cA h hi).1.2.2.2.2.2.1
theorem t_ck6 (h : CSK L M) (hi : i < 6) : lt_ck M (cc 2 i + 6) 24 z = z := lt_ck_t (t_cA h hi).2.1.1
theorem t_c60 (h : CSK L M) (hi : i < 6) : mP M (cc 2 i + 6) 0 = some (cc 2 i + 7) := (t_cA h hi).2.1.2.1
theorem t_c61 (h : CSK L M) (hi : i < 6) : mP M (cc 2 i + 6) 1 = some (cc 2 i + 8) := (t_cA h hi).2.1.2.2.1
theorem t_c62 (h : CSK L M) (hi : i < 6) : mP M (cc 2 i + 6) 2 = some (cc 2 i + 9) := (t_cA h hi).2.1.2.2.2.1
theorem t_cat1 (d : Nat) (h : CSK L M) (hi : i < 6) (hk : k < 4) : f_X10_at (d + 1) M (cc 2 i + 1) (nI k) = some (.inl (some (.int (mI M (cc 2 i + 1) k))), M) := s10_at d (t_cA h hi).2.2.2.1 hk
theorem t_cat7 (d : Nat) (h : CSK L M) (hi : i < 6) (hk : k < 9) : f_X10_at (d + 1) M (cc 2 i + 7) (nI k) = some (.inl (some (.int (mI M (cc 2 i + 7) k))), M) := s10_at d (t_cA h hi).2.2.2.2.2.2.2.2.1 hk
theorem t_cat8 (d : Nat) (h : CSK L M) (hi : i < 6) (hk : k < 26) : f_X10_at (d + 1) M (cc 2 i + 8) (nI k) = some (.inl (some (.int (mI M (cc 2 i + 8) k))), M) := s10_at d (t_cA h hi).2.2.2.2.2.2.2.2.2.1 hk
theorem t_cat9 (d : Nat) (h : CSK L M) (hi : i < 6) (hk : k < 26) : f_X10_at (d + 1) M (cc 2 i + 9) (nI k) = some (.inl (some (.int (mI M (cc 2 i + 9) k))), M) := s10_at d (t_cA h hi).2.2.2.2.2.2.2.2.2.2.1 hk
theorem t_catW (d : Nat) (h : CSK L M) (hi : i < 6) (hk : k < 26) : f_X10_at_ (d + 1) M (cc 2 i + 5) (nI k) = some (.inl (some (.long (mL M (cc 2 i + 5) k))), M) := s10_atL d (t_cA h hi).2.2.2.2.2.2.2.1 hk
theorem o_keyAt (h : ST L xs M i) : OK L xs i M (fun M => f_L_keyAt 40 M 1 key what 200) (fun M => f_X11_keyAt 40 M 123 key what) := by
  obtain ⟨hk, -, -, -, -, -, kf, fs, W, n, p, c, e, hp, hpa, -, -, -, -, -, -, hB, -⟩ := id h
  have hn : n ≤ 300 := hB.1
  have h0 : mI M 124 0 = nI n := hB.2.2.1
  have hl : mI M 7 3 = nI n := hB.2.1
  have er := fun N (hN : RA N 123) => r_keyAt (M := N) (o := 123) (H := mI M 124) (V := vv M 124) (X := xx M) 38 hN hn h0 (key := key) (what := what)
  have eL : f_L_keyAt 40 M 1 key what 200 = _ := e_L_keyAt 39 M 1 key what 200
  rw [t_ck hk, e_X10_keyAt, z_key, bv_if] at eL
  by_cases q1 : qIn key 0 25 = true
  · obtain ⟨k, hk26, rfl⟩ := qIn_k q1
    rw [if_pos q1, z_range, bv_if] at eL
    by_cases q2 : qIn what 0 3 = true
    · rw [if_pos q2] at eL
      have hw : what = 0 ∨ what = 1 ∨ what = 2 ∨ what = 3 := by
        obtain ⟨m, hm, rfl⟩ := qIn_g (m := 3) (by omega) q2
        have : m = 0 ∨ m = 1 ∨ m = 2 ∨ m = 3 := by omega
        rcases this with rfl | rfl | rfl | rfl
        · exact Or.inl rfl
        · exact Or.inr (Or.inl rfl)
        · exact Or.inr (Or.inr (Or.inl rfl))
        · exact Or.inr (Or.inr (Or.inr rfl))
      have hK := RB_key hB hk26
      refine OK_v (M1 := M) (v := if what = 0 then mI M 124 (2 + k) else if what = 1 then mI M 124 (28 + k) else if what < 3 then mI M 124 (54 + k) else qTimes (mI M 124) n (nI k) n 0) (X' := qX0 (xx M)) h hp LV.rfl' ?_ (fun N _ hN => ?_) XKp_X0 qX0_0
      · rw [eL]
        refine L_val ?_ hk
        rcases hw with rfl | rfl | rfl | rfl
        · simp (maxSteps := 1000000) (disch := first | assumption | omega) only [x_rf, x_m, lt_bv_r, lt_bi_r, lt_bl_r, lt_br_r, t_ck, t_p0, t_p1, t_p4, t_p5, t_p6, t_p7, t_ckB, t_B0, t_B1, t_ckK, t_K0, t_K1, t_K2, t_ckR, t_R0, t_R1, t_R2, t_ckC, t_cache, t_at2, t_at3, t_at4, t_at6, t_at7, t_at8, t_has, t_units, t_owner, t_times, t_c17, t_c4, t_c16, t_ck6, t_c60, t_c61, t_c62, t_cat1, t_cat7, t_cat8, t_cat9, t_catW, c_pop, ↓reduceIte, Int32.reduceToInt, Int.reduceEq, lt_b1_0, lt_b1_1, x_10, x_01, x_11, x_00]
          rw [show mI M 4 k = _ from hK.1]
        · simp (maxSteps := 1000000) (disch := first | assumption | omega) only [x_rf, x_m, lt_bv_r, lt_bi_r, lt_bl_r, lt_br_r, t_ck, t_p0, t_p1, t_p4, t_p5, t_p6, t_p7, t_ckB, t_B0, t_B1, t_ckK, t_K0, t_K1, t_K2, t_ckR, t_R0, t_R1, t_R2, t_ckC, t_cache, t_at2, t_at3, t_at4, t_at6, t_at7, t_at8, t_has, t_units, t_owner, t_times, t_c17, t_c4, t_c16, t_ck6, t_c60, t_c61, t_c62, t_cat1, t_cat7, t_cat8, t_cat9, t_catW, c_pop, ↓reduceIte, Int32.reduceToInt, Int.reduceEq, lt_b1_0, lt_b1_1, x_10, x_01, x_11, x_00]
          rw [show mI M 5 k = _ from hK.2.1]
        · simp (maxSteps := 1000000) (disch := first | assumption | omega) only [x_rf, x_m, lt_bv_r, lt_bi_r, lt_bl_r, lt_br_r, t_ck, t_p0, t_p1, t_p4, t_p5, t_p6, t_p7, t_ckB, t_B0, t_B1, t_ckK, t_K0, t_K1, t_K2, t_ckR, t_R0, t_R1, t_R2, t_ckC, t_cache, t_at2, t_at3, t_at4, t_at6, t_at7, t_at8, t_has, t_units, t_owner, t_times, t_c17, t_c4, t_c16, t_ck6, t_c60, t_c61, t_c62, t_cat1, t_cat7, t_cat8, t_cat9, t_catW, c_pop, ↓reduceIte, Int32.reduceToInt, Int.reduceEq, lt_b1_0, lt_b1_1, x_10, x_01, x_11, x_00]
          rw [show mI M 6 k = _ from hK.2.2]
          rfl
        · simp (maxSteps := 1000000) (disch := first | assumption | omega) only [x_rf, x_m, lt_bv_r, lt_bi_r, lt_bl_r, lt_br_r, t_ck, t_p0, t_p1, t_p4, t_p5, t_p6, t_p7, t_ckB, t_B0, t_B1, t_ckK, t_K0, t_K1, t_K2, t_ckR, t_R0, t_R1, t_R2, t_ckC, t_cache, t_at2, t_at3, t_at4, t_at6, t_at7, t_at8, t_has, t_units, t_owner, t_times, t_c17, t_c4, t_c16, t_ck6, t_c60, t_c61, t_c62, t_cat1, t_cat7, t_cat8, t_cat9, t_catW, c_pop, ↓reduceIte, Int32.reduceToInt, Int.reduceEq, lt_b1_0, lt_b1_1, x_10, x_01, x_11, x_00]
          rw [kTimes_q (g := mI M 8) (H := mI M 124) (fun i hi => (RB_row hB hi).1) n 0 (Nat.le_refl _)]
          rfl
      · rw [er N hN, if_pos q1, if_pos q2, lt_iN (by omega)]
    · rw [if_neg q2] at eL
      refine OK_e (M1 := aExn M) (code := 2) (v := 0) (X' := qXe (xx M) 2) h hp LV_exn ?_ (by decide) (fun N _ hN => ?_) XKp_Xe qXe_0
      · rw [eL]; exact L_exn rfl rfl
      · rw [er N hN, if_pos q1, if_neg q2]
  · rw [if_neg q1] at eL
    refine OK_e (M1 := aExn M) (code := 1) (v := 0) (X' := qXe (xx M) 1) h hp LV_exn ?_ (by decide) (fun N _ hN => ?_) XKp_Xe qXe_0
    · rw [eL]; exact L_exn rfl rfl
    · rw [er N hN, if_neg q1]
end Ue
