/-! CALLS: the search for rows that shame -/
section Ul
variable {M M' M1 N : LM} {L B D P U i j k t w f n c e r a o m ch len lo hi : Nat} {x y v b1 b2 code cache key what rule its greater keys most : Int32} {z : Option (LO × LM)} {b : Bool} {T : BT} {kf fs W p : Nat → Nat} {xs H H' : Nat → Int32} {V V' X X' : Nat → Nat → Int32} {l : Option (List Nat)} {y64 : Int64} {fL fX fC : LM → Option (LO × LM)} {hl : List (Nat × Int32)} {S Z Z' : CS}
theorem qIn_r (hlo : lo < 2147483648) (hhi : hi < 2147483648) (hq : qIn x (nI lo) (nI hi) = true) : ∃ m, lo ≤ m ∧ m ≤ hi ∧ x = nI m := by
  obtain ⟨h1, h2⟩ := qIn_i.mp hq
  rw [Int32.lt_iff_toInt_lt, lt_iT hlo] at h1
  rw [Int32.lt_iff_toInt_lt, lt_iT hhi] at h2
  refine ⟨x.toInt.toNat, by omega, by omega, Int32.toInt.inj ?_⟩
  rw [lt_iT (by omega)]
  omega
theorem LB_h : LB M (gM M 116 7 Z) := ⟨fun a ha => gIo (by omega), fun a ha => gLo (by omega), rfl, rfl, rfl, rfl, Nat.le_add_right _ _, Nat.le_add_right _ _⟩
/-- the class's answer -/
theorem t_shame (hk : CSK L M) {mk : Bool} {r g k : Nat} (h1 : 1 ≤ r) (h2 : r ≤ 4) (h3 : r + 1 ≤ g) (h4 : g ≤ 6) (h5 : 2 ≤ k) (h6 : k ≤ 5) (hm1 : m ≤ (if mk = true then 9 else 12)) (hql : ∀ l', qShame mk r g k m m = some l' → l'.length ≤ 12) : ∃ Z' l, f_X6_look 38 M 116 (bI mk) (nI r) (nI g) (nI k) (nI m) = some (.inl (some (.int (qLen l))), gM M 116 7 Z') ∧ l = qShame mk r g k m m ∧
    (match l with | none => Z'.1 0 1 = -1 | some l => Z'.1 0 1 = nI l.length ∧ l.length ≤ 12 ∧ ∀ i, i < l.length → Z'.1 1 i = nI (l.getD i 0)) := by
  have hb : bI mk = 0 ∨ bI mk = 1 := by cases mk; exact Or.inl rfl; exact Or.inr rfl
  have hm12 : m ≤ 12 := by cases mk <;> simp at hm1 <;> omega
  obtain ⟨Z', e1, e2⟩ := h_lookAll (M := M) (P := 116) (p := HPp (mk, r, g, k)) (Z := tG M 116) (most := m) 32 (t_h hk) hm12 h1 (show r ≤ 6 by omega) (show 1 ≤ g by omega) h4 (show k ≤ 26 by omega) hb
  rw [gM_id] at e1
  have hc := CAP_all mk r g k h1 h2 h3 h4 h5 h6
  obtain ⟨s1, s2⟩ := shame_eq (p := (mk, r, g, k)) (most := m) ⟨h1, h2, (show 1 ≤ g by omega), h4, h6⟩ hc (by cases mk <;> simp) (by cases mk <;> simp at hm1 ⊢ <;> omega) (Z := tG M 116)
  refine ⟨Z', qShame mk r g k m m, e1.trans (by rw [s1]), rfl, ?_⟩
  unfold HF at e2
  cases q : (hLayers (HPp (mk, r, g, k)) m 1 0 (hStart (tG M 116))).2 with
  | none =>
    rw [q] at e2 s1
    cases ql : qShame mk r g k m m with
    | none => exact e2.2.trans (by simp [u2])
    | some l =>
      rw [ql] at s1
      have hlen := hql l ql
      have s1' : (-1 : Int32) = nI l.length := s1
      have := congrArg Int32.toInt s1'
      rw [lt_iT (by omega), show (-1 : Int32).toInt = -1 from rfl] at this
      omega
  | some a =>
    obtain ⟨l, l1, l2, l3, l4⟩ := s2 a q
    rw [q] at e2
    rw [show qShame mk r g k m m = some l from l1]
    refine ⟨e2.2.trans (by rw [l2]), by omega, fun i hi => ?_⟩
    rw [e2.1]
    exact l4 _ i (by omega)
theorem o_shame (h : ST L xs M i) : OK L xs i M (fun M => f_L_shame 40 M 1 rule its greater keys most 200) (fun M => f_X11_shame 40 M 123 rule its greater keys most) := by
  obtain ⟨hk, -, -, -, -, -, kf, fs, W, n, p, c, e, hp, hpa, -, -, -, h4, -, -, hB, -⟩ := id h
  have hn : n ≤ 300 := hB.1
  have h0 : mI M 124 0 = nI n := hB.2.2.1
  have hl : mI M 7 3 = nI n := hB.2.1
  obtain ⟨-, -, -, hCU, hTX, -, -⟩ := id h
  have er := fun N (hN : RA N 123) => r_shame (M := N) (o := 123) (H := mI M 124) (V := vv M 124) (X := xx M) (rule := rule) (its := its) (greater := greater) (keys := keys) (most := most) 23 hN
  have eL : f_L_shame 40 M 1 rule its greater keys most 200 = _ := e_L_shame 39 M 1 rule its greater keys most 200
  rw [t_ck hk, e_X10_shame, z_range, bv_if] at eL
  have exn : ¬ qSHok rule its greater keys most = true → f_L_shame 40 M 1 rule its greater keys most 200 = lt_bi (some (.inr 1, aExn M)) lt_h301 (fun v2 M1 => lt_ar M1 200 2 0 (lt_m (wL M1 200 (lt_n 0) (Int32.toInt64 v2)) fun M3 => some (.inl (some (.int 0)), M3))) → OK L xs i M (fun M => f_L_shame 40 M 1 rule its greater keys most 200) (fun M => f_X11_shame 40 M 123 rule its greater keys most) := by
    intro q eL
    have q' : qSHok rule its greater keys most = false := by simpa using q
    refine OK_e (M1 := aExn M) (code := 1) (v := 0) (X' := qXe (xx M) 1) h hp LV_exn ?_ (by decide) (fun N _ hN => ?_) XKp_Xe qXe_0
    · rw [eL]; exact L_exn rfl rfl
    · rw [(er N hN).1 q']
  by_cases q1 : qIn rule 2 3 = true
  · rw [if_pos q1, z_range, bv_if] at eL
    by_cases q2 : qIn its 1 4 = true
    · rw [if_pos q2, z_range, bv_if] at eL
      by_cases q3 : qIn greater (its + 1) 6 = true
      · rw [if_pos q3, z_range, bv_if] at eL
        by_cases q4 : qIn keys 2 5 = true
        · rw [if_pos q4] at eL
          obtain ⟨r, r1, r2, rfl⟩ := qIn_r (lo := 1) (hi := 4) (by omega) (by omega) q2
          rw [show nI r + 1 = nI (r + 1) from lt_iA (j := r) (k := 1)] at q3
          obtain ⟨g, g1, g2, rfl⟩ := qIn_r (lo := r + 1) (hi := 6) (by omega) (by omega) q3
          obtain ⟨k, k1, k2, rfl⟩ := qIn_r (lo := 2) (hi := 5) (by omega) (by omega) q4
          obtain ⟨ru, ru1, ru2, rfl⟩ := qIn_r (lo := 2) (hi := 3) (by omega) (by omega) q1
          have hru : ∃ mk : Bool, nI ru = (if mk = true then 3 else 2) := by
            have : ru = 2 ∨ ru = 3 := by omega
            rcases this with rfl | rfl
            · exact ⟨false, rfl⟩
            · exact ⟨true, rfl⟩
          obtain ⟨mk, emk⟩ := hru
          rw [emk] at eL er exn ⊢
          have e3 : ((if mk = true then 3 else 2 : Int32) = 3) ↔ mk = true := by cases mk <;> decide
          have key : ∀ m : Nat, 1 ≤ m → m ≤ (if mk = true then 9 else 12) → most = nI m → qSHok (if mk = true then 3 else 2) (nI r) (nI g) (nI k) (nI m) = true → (∀ M5, M5 = M → f_L_shame 40 M 1 (if mk = true then 3 else 2) (nI r) (nI g) (nI k) most 200 = lt_bi (lt_bi (f_X6_look 38 M5 116 (bI mk) (nI r) (nI g) (nI k) (nI m)) [] fun v16 M15 => some (.inl (some (.int v16)), M15)) lt_h301 (fun v2 M1 => lt_ar M1 200 2 0 (lt_m (wL M1 200 (lt_n 0) (Int32.toInt64 v2)) fun M3 => some (.inl (some (.int 0)), M3)))) → OK L xs i M (fun M => f_L_shame 40 M 1 (if mk = true then 3 else 2) (nI r) (nI g) (nI k) most 200) (fun M => f_X11_shame 40 M 123 (if mk = true then 3 else 2) (nI r) (nI g) (nI k) most) := by
            intro m m1 m2 em hok eM
            subst em
            have eM := eM M rfl
            have hmd : decide ((if mk = true then 3 else 2 : Int32) = 3) = mk := by cases mk <;> rfl
            have hm12 : m ≤ 12 := by cases mk <;> simp at m2 <;> omega
            have er' := fun N (hN : RA N 123) => (er N hN).2 hok
            rw [hmd, lt_iN (by omega), lt_iN (by omega), lt_iN (by omega), lt_iN (by omega)] at er'
            have hql : ∀ l', qShame mk r g k m m = some l' → l'.length ≤ 12 := by
              obtain ⟨X', x1, x2, x3⟩ := er' (rP M 123 (gP 123 p)) (RA.rp (t_r hk))
              intro l' el
              rw [el] at x2
              exact x2.2.1
            obtain ⟨Z', l, z1, z2, z3⟩ := t_shame hk r1 r2 g1 g2 k1 k2 m2 hql
            have hkZ : CSK L (gM M 116 7 Z') := hk
            have g0 := LB_out (y64 := Int32.toInt64 (qLen l)) (LB_h (M := M) (Z := Z'))
            have c1 : f_L_shame 40 M 1 (if mk = true then 3 else 2) (nI r) (nI g) (nI k) (nI m) 200 = some (.inl (some (.int 0)), wL (gM M 116 7 Z') 200 0 (Int32.toInt64 (qLen l))) := by
              refine eM.trans (L_val ?_ hkZ)
              rw [z1, lt_bi_r]
            obtain ⟨X', x1, x2, x3⟩ := er' (rP (wL (gM M 116 7 Z') 200 0 (Int32.toInt64 (qLen l))) 123 (gP 123 p)) (RA.rp (t_r (CSK_lb hk g0)))
            rw [← z2] at x2 x3
            have x3' : f_X11_shame 40 (rN (wL (gM M 116 7 Z') 200 0 (Int32.toInt64 (qLen l))) p (mI M 124) (vv M 124) (xx M)) 123 (if mk = true then 3 else 2) (nI r) (nI g) (nI k) (nI m) = some (.inl (some (.int (qLen l))), rN (wL (gM M 116 7 Z') 200 0 (Int32.toInt64 (qLen l))) p (mI M 124) (vv M 124) X') := x3
            rw [rN_lb g0 hp] at x3'
            have m116 : mI (wL (gM M 116 7 Z') 200 0 (Int32.toInt64 (qLen l))) 116 = Z'.1 0 := gI0 (M := M) (U := 116) (n := 7) (Z := Z') (by decide)
            have m117 : mI (wL (gM M 116 7 Z') 200 0 (Int32.toInt64 (qLen l))) 117 = Z'.1 1 := gI (M := M) (U := 116) (n := 7) (Z := Z') (t := 1) (by decide)
            have mo : ∀ a, a < 116 → mI (wL (gM M 116 7 Z') 200 0 (Int32.toInt64 (qLen l))) a = mI M a := fun a ha => gIo (M := M) (U := 116) (n := 7) (Z := Z') (by omega)
            generalize hM1 : wL (gM M 116 7 Z') 200 0 (Int32.toInt64 (qLen l)) = M1 at *
            have e123 : ∀ j, mI (rN M1 p (mI M 124) (vv M 124) X') 123 j = X' 0 j := fun j => congrFun rN_X0 j
            have eX0 : ∀ j, j ≠ 24 → j ≠ 0 → X' 0 j = xx M 0 j := fun j a b => (x1.2 j a).trans (u2_n2 b)
            have eXt : ∀ t, t ≠ 0 → t ≠ 17 → t < 21 → X' t = xx M t := fun t a b c => (x1.1 t a b (by omega)).trans (u2_n1 a)
            have eT : ∀ t, t ≠ 0 → t ≠ 1 → t ≠ 17 → t < 21 → mI (rN M1 p (mI M 124) (vv M 124) X') (123 + t) = mI M (123 + t) := fun t a b c d => (rN_X b (by omega)).trans (eXt t a c d)
            have hlast : mL M1 200 0 = Int32.toInt64 (qLen l) := by rw [← hM1]; exact out_v (M1 := gM M 116 7 Z')
            refine ⟨0, qLen l, M1, _, c1, x3', (g0.1 0 (by omega)).trans h.2.2.1, CSK_lb hk g0, (e123 0).trans ((x1.2 0 (by decide)).trans qX0_0), fun _ => hlast, ST_B h g0 hp ⟨fun t h1 h2 => eXt t (by omega) (by omega) (by omega), eX0 3 (by omega) (by omega), eX0 4 (by omega) (by omega)⟩ (CU_fr hCU ?_ ?_ (fun j a b => (e123 j).trans (eX0 j (by omega) (by omega))) (eT 15 (by omega) (by omega) (by omega) (by omega))) (TX_lb hTX ?_ ?_ ((e123 20).trans (eX0 20 (by omega) (by omega))) (eT 16 (by omega) (by omega) (by omega) (by omega))) ⟨l, ?_⟩, rfl⟩
            · rw [rN_I (by omega), mo _ (by omega)]
            · rw [rN_I (by omega), mo _ (by omega)]
            · rw [rN_I (by omega), mo _ (by omega)]
            · rw [rN_I (by omega), mo _ (by omega)]
            · have n116 : mI (rN M1 p (mI M 124) (vv M 124) X') 116 = Z'.1 0 := (rN_I (by omega)).trans m116
              have n117 : mI (rN M1 p (mI M 124) (vv M 124) X') 117 = Z'.1 1 := (rN_I (by omega)).trans m117
              have n140 : mI (rN M1 p (mI M 124) (vv M 124) X') 140 = X' 17 := rN_X (t := 17) (by omega) (by omega)
              cases l with
              | none => exact ⟨(e123 24).trans x2, (congrFun n116 1).trans z3⟩
              | some l => exact ⟨(e123 24).trans x2.1, x2.2.1, (congrFun n116 1).trans z3.1, fun i hi => ⟨(congrFun n140 i).trans (x2.2.2 i hi), (congrFun n117 i).trans (z3.2.2 i hi)⟩⟩
          have kh : ∀ {z : Option (LO × LM)}, lt_ck M 116 22 z = z := fun {z} => lt_ck_t (t_h hk).1
          cases mk with
          | false =>
            rw [if_neg (c := ((if false = true then 3 else 2 : Int32) = 3)) (by decide), z_range, bv_if] at eL
            by_cases q5 : qIn most 1 12 = true
            · rw [if_pos q5, t_ck hk, t_p7 hk, x_rf, if_neg (c := ((if false = true then 3 else 2 : Int32) = 3)) (by decide), kh] at eL
              obtain ⟨m, m1, m2, em⟩ := qIn_r (lo := 1) (hi := 12) (by omega) (by omega) q5
              refine key m m1 (by simpa using m2) em ?_ (fun M5 e5 => by rw [e5, ← em]; exact eL)
              rw [← em]
              unfold qSHok
              rw [show nI r + 1 = nI (r + 1) from lt_iA (j := r) (k := 1), q2, q3, q4]
              have q0 : qIn 2 2 3 = true ∧ qIn 3 2 3 = true := ⟨rfl, rfl⟩
              simp [q5, q0.1, q0.2]
            · rw [if_neg q5] at eL
              refine exn (fun z => q5 ?_) eL
              unfold qSHok at z
              simp only [Bool.and_eq_true] at z
              simpa using z.2
          | true =>
            rw [if_pos (c := ((if true = true then 3 else 2 : Int32) = 3)) (by decide), z_range, bv_if] at eL
            by_cases q5 : qIn most 1 9 = true
            · rw [if_pos q5, t_ck hk, t_p7 hk, x_rf, if_pos (c := ((if true = true then 3 else 2 : Int32) = 3)) (by decide), kh] at eL
              obtain ⟨m, m1, m2, em⟩ := qIn_r (lo := 1) (hi := 9) (by omega) (by omega) q5
              refine key m m1 (by simpa using m2) em ?_ (fun M5 e5 => by rw [e5, ← em]; exact eL)
              rw [← em]
              unfold qSHok
              rw [show nI r + 1 = nI (r + 1) from lt_iA (j := r) (k := 1), q2, q3, q4]
              have q0 : qIn 2 2 3 = true ∧ qIn 3 2 3 = true := ⟨rfl, rfl⟩
              simp [q5, q0.1, q0.2]
            · rw [if_neg q5] at eL
              refine exn (fun z => q5 ?_) eL
              unfold qSHok at z
              simp only [Bool.and_eq_true] at z
              simpa using z.2
        · rw [if_neg q4] at eL
          exact exn (by unfold qSHok; simp [q4]) eL
      · rw [if_neg q3] at eL
        exact exn (by unfold qSHok; simp [q3]) eL
    · rw [if_neg q2] at eL
      exact exn (by unfold qSHok; simp [q2]) eL
  · rw [if_neg q1] at eL
    exact exn (by unfold qSHok; simp [q1]) eL
end Ul
