/-! STATIC CALLS, CONSTRUCTORS, the library's own; and all instructions together -/
theorem lt_l_sys {own idx mi n : Nat} (ho : own < 17) (hmi : 149 ≤ mi) (h : lt_find (lt_mth own) idx = some (mi, n)) : Cond.methodLink (lt_cn own) idx (lt_yx mi) ∈ lw_good := by
  have h1 := List.all_eq_true.mp (lt_lo own ho) _ (lt_find_mem h)
  unfold lt_lok at h1
  dsimp only at h1
  split at h1
  · rw [Bool.and_eq_true, Bool.and_eq_true] at h1
    have := Nat.le_of_ble_eq_true h1.2.1
    omega
  · rw [Bool.and_eq_true] at h1
    exact lt_gw_in h1.1
  · cases h1
theorem lt_nomath : ∀ o, o < 17 → ((lt_mth o).all fun e => bif Nat.ble 131 e.2.1 && Nat.ble e.2.1 133 then (match lt_find (lt_mpl o) e.1 with | some (_, b) => !b | none => true) else true) = true := by decide +kernel
theorem lt_l_math {own idx mi n : Nat} (ho : own < 17) (h1 : 131 ≤ mi) (h2 : mi ≤ 133) (h : lt_find (lt_mth own) idx = some (mi, n)) : Cond.methodLink (lt_cn own) idx (lt_y mi) ∈ lw_good := by
  have hmem := lt_find_mem h
  have g := List.all_eq_true.mp (lt_nomath own ho) _ hmem
  have hb : (Nat.ble 131 mi && Nat.ble mi 133) = true := by rw [Bool.and_eq_true]; exact ⟨Nat.ble_eq_true_of_le h1, Nat.ble_eq_true_of_le h2⟩
  dsimp only at g
  rw [hb] at g
  have h3 := List.all_eq_true.mp (lt_lo own ho) _ hmem
  unfold lt_lok at h3
  dsimp only at h3
  split at h3
  · next i e => rw [e] at g; cases g
  · rw [Bool.and_eq_true] at h3
    have e3 : Nat.beq mi 1000 = false := by
      cases hb : Nat.beq mi 1000
      · rfl
      · exact absurd (Nat.eq_of_beq_eq_true hb) (by omega)
    have e4 : Nat.beq mi 1001 = false := by
      cases hb : Nat.beq mi 1001
      · rfl
      · exact absurd (Nat.eq_of_beq_eq_true hb) (by omega)
    have hy : lt_yx mi = lt_y mi := by unfold lt_yx; rw [e3, e4]; rfl
    rw [hy] at h3
    exact lt_gw_in h3.1
  · cases h3
theorem lt_mx0 : lt_cw 131 = Cond.code Lib.Math.max.name Lib.Math.max.code 2 (some .int) ∧ lt_sw 131 = Cond.static Lib.Math.max.name ∧ lt_y 131 = Lib.Math.max.name ∧ (lt_y 131).cls = "java/lang/Math" := by decide +kernel
theorem lt_mx1 : lt_cw 132 = Cond.code Lib.MathLoose.max_long.x Lib.MathLoose.max_long.code 4 (some .long) ∧ lt_sw 132 = Cond.static Lib.MathLoose.max_long.x ∧ lt_y 132 = Lib.MathLoose.max_long.x ∧ (lt_y 132).cls = "java/lang/Math" := by decide +kernel
theorem lt_mx2 : lt_cw 133 = Cond.code Lib.Math.min.name Lib.Math.min.code 2 (some .int) ∧ lt_sw 133 = Cond.static Lib.Math.min.name ∧ lt_y 133 = Lib.Math.min.name ∧ (lt_y 133).cls = "java/lang/Math" := by decide +kernel
theorem lt_mnp : ((lt_np 131).map (fun k => bif (lt_inf 131).2.2.2.1 then k else k + 1) = some 2 ∧ (lt_np 132).map (fun k => bif (lt_inf 132).2.2.2.1 then k else k + 1) = some 2) ∧ (lt_np 133).map (fun k => bif (lt_inf 133).2.2.2.1 then k else k + 1) = some 2 := by decide +kernel
theorem lt_nfw : nativeFrameWords "java/lang/System" "arraycopy" 5 = 7 := by decide +kernel
section OpM
variable {X : lt_X} {q : Nat × (Nat → Nat) × Nat × Nat} {l : Launch} {d m pc nx tg idx n : Nat} {cn : Int32} {fl : Bool} {z : LO × LM} {ls st r : List Value} {M : LM} {K : lt_KT (LO × LM)} {call : Nat → List Value → LM → Option (LO × LM)}
theorem v_mmax {x y : Int32} (hC : lt_Cx l d X q m) (hd : decode (lt_by m) pc = .ok (.invokestatic idx, 3)) (hf : lt_find (lt_mth (lt_inf m).1) idx = some (131, n)) (hw : lt_w r ≤ 8) (h : lt_V X m z q (pc + 3) ls (.int (if x < y then y else x) :: r) M) : lt_V X m z q pc ls (.int y :: .int x :: r) M := by
  obtain ⟨p, l, e, R, s, mid, args, below, meth, c, D, G, A⟩ := X
  obtain ⟨n0, ad0, mc, ms⟩ := q
  obtain ⟨⟨hx, hb, hml, hown, hts, hr, hlk, hm, -⟩, hrm, -, hfr, hlo⟩ := hC
  have hrm1 : mc ≤ R.cells := hrm.1
  have hrm2 : ms ≤ R.slots := hrm.2
  have hfr' : d + 7 ≤ R.frames := hfr
  have hlo' : 64 * d + 200 ≤ R.locals := hlo
  obtain ⟨w1, w2, w3, -⟩ := lt_m_spec (m := 131) (by omega)
  have lk := lt_l_math (lt_own_lt m hm) (Nat.le_refl _) (by omega) hf
  rw [lt_mx0.1] at w1
  rw [lt_mx0.2.2.2] at w2
  rw [lt_mx0.2.1] at w3
  rw [lt_mx0.2.2.1] at lk
  refine ⟨h.1, fun ad H locs cells slots lsM hR hS hL hst hc hs ha hn h0 => ?_⟩
  exact va_mmax hx hb (by rw [hL.1, hml]) hown (hts _ lk) (hts _ w3) (hts _ w2) (hts _ w1) (by omega) (by rw [lt_w_sum, lt_w_map]; omega) (Nat.le_trans (Nat.le_trans (Nat.le_add_right _ _) hc) hrm1) (Nat.le_trans (Nat.le_trans (Nat.le_add_right _ _) hs) hrm2) hd
    (h.2 ad H locs cells slots lsM hR hS hL (fun v hv => (List.mem_cons.mp hv).elim (fun e => by rw [e]; trivial) (fun hv => hst v (List.mem_cons_of_mem _ (List.mem_cons_of_mem _ hv)))) hc hs ha hn h0)
theorem v_mmin {x y : Int32} (hC : lt_Cx l d X q m) (hd : decode (lt_by m) pc = .ok (.invokestatic idx, 3)) (hf : lt_find (lt_mth (lt_inf m).1) idx = some (133, n)) (hw : lt_w r ≤ 8) (h : lt_V X m z q (pc + 3) ls (.int (if y < x then y else x) :: r) M) : lt_V X m z q pc ls (.int y :: .int x :: r) M := by
  obtain ⟨p, l, e, R, s, mid, args, below, meth, c, D, G, A⟩ := X
  obtain ⟨n0, ad0, mc, ms⟩ := q
  obtain ⟨⟨hx, hb, hml, hown, hts, hr, hlk, hm, -⟩, hrm, -, hfr, hlo⟩ := hC
  have hrm1 : mc ≤ R.cells := hrm.1
  have hrm2 : ms ≤ R.slots := hrm.2
  have hfr' : d + 7 ≤ R.frames := hfr
  have hlo' : 64 * d + 200 ≤ R.locals := hlo
  obtain ⟨w1, w2, w3, -⟩ := lt_m_spec (m := 133) (by omega)
  have lk := lt_l_math (lt_own_lt m hm) (by omega) (Nat.le_refl _) hf
  rw [lt_mx2.1] at w1
  rw [lt_mx2.2.2.2] at w2
  rw [lt_mx2.2.1] at w3
  rw [lt_mx2.2.2.1] at lk
  refine ⟨h.1, fun ad H locs cells slots lsM hR hS hL hst hc hs ha hn h0 => ?_⟩
  exact va_mmin hx hb (by rw [hL.1, hml]) hown (hts _ lk) (hts _ w3) (hts _ w2) (hts _ w1) (by omega) (by rw [lt_w_sum, lt_w_map]; omega) (Nat.le_trans (Nat.le_trans (Nat.le_add_right _ _) hc) hrm1) (Nat.le_trans (Nat.le_trans (Nat.le_add_right _ _) hs) hrm2) hd
    (h.2 ad H locs cells slots lsM hR hS hL (fun v hv => (List.mem_cons.mp hv).elim (fun e => by rw [e]; trivial) (fun hv => hst v (List.mem_cons_of_mem _ (List.mem_cons_of_mem _ hv)))) hc hs ha hn h0)
theorem v_mmaxL {x y : Int64} (hC : lt_Cx l d X q m) (hd : decode (lt_by m) pc = .ok (.invokestatic idx, 3)) (hf : lt_find (lt_mth (lt_inf m).1) idx = some (132, n)) (hw : lt_w r ≤ 8) (h : lt_V X m z q (pc + 3) ls (.long (if y < x then x else y) :: r) M) : lt_V X m z q pc ls (.long y :: .long x :: r) M := by
  obtain ⟨p, l, e, R, s, mid, args, below, meth, c, D, G, A⟩ := X
  obtain ⟨n0, ad0, mc, ms⟩ := q
  obtain ⟨⟨hx, hb, hml, hown, hts, hr, hlk, hm, -⟩, hrm, -, hfr, hlo⟩ := hC
  have hrm1 : mc ≤ R.cells := hrm.1
  have hrm2 : ms ≤ R.slots := hrm.2
  have hfr' : d + 7 ≤ R.frames := hfr
  have hlo' : 64 * d + 200 ≤ R.locals := hlo
  obtain ⟨w1, w2, w3, -⟩ := lt_m_spec (m := 132) (by omega)
  have lk := lt_l_math (lt_own_lt m hm) (by omega) (by omega) hf
  rw [lt_mx1.1] at w1
  rw [lt_mx1.2.2.2] at w2
  rw [lt_mx1.2.1] at w3
  rw [lt_mx1.2.2.1] at lk
  refine ⟨h.1, fun ad H locs cells slots lsM hR hS hL hst hc hs ha hn h0 => ?_⟩
  exact va_mmax_long hx hb (by rw [hL.1, hml]) hown (hts _ lk) (hts _ w3) (hts _ w2) (hts _ w1) (by omega) (by rw [lt_w_sum, lt_w_map]; omega) (Nat.le_trans (Nat.le_trans (Nat.le_add_right _ _) hc) hrm1) (Nat.le_trans (Nat.le_trans (Nat.le_add_right _ _) hs) hrm2) hd
    (h.2 ad H locs cells slots lsM hR hS hL (fun v hv => (List.mem_cons.mp hv).elim (fun e => by rw [e]; trivial) (fun hv => hst v (List.mem_cons_of_mem _ (List.mem_cons_of_mem _ hv)))) hc hs ha hn h0)
theorem v_objInit {a : Nat} (hC : lt_Cx l d X q m) (hd : decode (lt_by m) pc = .ok (.invokespecial idx, 3)) (hf : lt_find (lt_mth (lt_inf m).1) idx = some (1001, n)) (hw : lt_w r ≤ 8) (h : lt_V X m z q (pc + 3) ls r M) : lt_V X m z q pc ls (.ref a :: r) M := by
  obtain ⟨p, l, e, R, s, mid, args, below, meth, c, D, G, A⟩ := X
  obtain ⟨n0, ad0, mc, ms⟩ := q
  obtain ⟨⟨hx, hb, hml, hown, hts, hr, hlk, hm, -⟩, hrm, -, hfr, hlo⟩ := hC
  have hfr' : d + 7 ≤ R.frames := hfr
  have hlo' : 64 * d + 200 ≤ R.locals := hlo
  have lk := lt_l_sys (lt_own_lt m hm) (by omega) hf
  have hy : lt_yx 1001 = Lib.objectInit := rfl
  rw [hy] at lk
  refine ⟨h.1, fun ad H locs cells slots lsM hR hS hL hst hc hs ha hn h0 => ?_⟩
  exact W.objInit (g := F0 mid pc lsM ((Value.ref a :: r).map (lt_v ad))) hx hb hown (hts _ lk) (hts _ lt_obj1) (hts _ lt_obj2) rfl (by show lsM.size = _; rw [hL.1, hml]) rfl hd (by omega) (by
      have : (2 : Nat) * (F0 mid pc lsM ((Value.ref a :: r).map (lt_v ad))).monitorRoom = 0 := rfl
      rw [this, lt_w_sum, lt_w_map]; omega)
    (h.2 ad H locs cells slots lsM hR hS hL (fun v hv => hst v (List.mem_cons_of_mem _ hv)) hc hs ha hn h0)
theorem wRI_I {a b : Nat} {g : Nat → Int32} : mI (wRI M a g) b = if b = a then g else mI M b := rfl
theorem wRL_L {a b : Nat} {g : Nat → Int64} : mL (wRL M a g) b = if b = a then g else mL M b := rfl
theorem v_copyI {a b : Nat} {sp dp k : Int32} (hC : lt_Cx l d X q m) (hd : decode (lt_by m) pc = .ok (.invokestatic idx, 3)) (hf : lt_find (lt_mth (lt_inf m).1) idx = some (1000, n)) (hw : lt_w r ≤ 8) (hka : mK M a = 1) (hkb : mK M b = 1)
    (hg : a ≠ b ∧ 0 ≤ sp.toInt ∧ 0 ≤ dp.toInt ∧ 0 ≤ k.toInt ∧ sp.toInt + k.toInt ≤ (mZ M a : Int) ∧ dp.toInt + k.toInt ≤ (mZ M b : Int)) (h : lt_V X m z q (pc + 3) ls r (wRI M b (va_cpy (mI M a) (mI M b) sp.toNatClampNeg dp.toNatClampNeg k.toNatClampNeg))) : lt_V X m z q pc ls (.int k :: .int dp :: .ref b :: .int sp :: .ref a :: r) M := by
  obtain ⟨p, l, e, R, s, mid, args, below, meth, c, D, G, A⟩ := X
  obtain ⟨n0, ad0, mc, ms⟩ := q
  obtain ⟨⟨hx, hb, hml, hown, hts, hr, hlk, hm, hi, htb, hl, hK, hZ, hA⟩, hrm, -, hfr, hlo⟩ := hC
  have hfr' : d + 7 ≤ R.frames := hfr
  have hlo' : 64 * d + 200 ≤ R.locals := hlo
  have lk := lt_l_sys (lt_own_lt m hm) (by omega) hf
  have hy : lt_yx 1000 = arraycopyName := rfl
  rw [hy] at lk
  obtain ⟨g1, g2, g3, g4, g5, g6⟩ := hg
  refine ⟨h.1, fun ad H locs cells slots lsM hR hS hL hst hc hs ha hn h0 => ?_⟩
  have hpos := hR.pos (a := b) (by omega) (by omega)
  have hat := hR.at (a := a) (by omega) (by omega)
  have hbt := hR.at (a := b) (by omega) (by omega)
  rw [lt_E1 hka] at hat
  rw [lt_E1 hkb] at hbt
  have q1 : sp.toNatClampNeg = sp.toInt.toNat := rfl
  have q2 : dp.toNatClampNeg = dp.toInt.toNat := rfl
  have q3 : k.toNatClampNeg = k.toInt.toNat := rfl
  have he : lt_E G ad (wRI M b (va_cpy (mI M a) (mI M b) sp.toNatClampNeg dp.toNatClampNeg k.toNatClampNeg)) b = .inl (G 1, mZ M b, .inl (va_cpy (mI M a) (mI M b) sp.toNatClampNeg dp.toNatClampNeg k.toNatClampNeg)) := by
    rw [lt_E1 (M := wRI M b _) hkb, wRI_I, if_pos rfl]; rfl
  have hws := lt_ws_set (G := G) (ad := ad) (M := M) (M' := wRI M b (va_cpy (mI M a) (mI M b) sp.toNatClampNeg dp.toNatClampNeg k.toNatClampNeg)) hpos.1 rfl (fun j hj => lt_E_congr rfl rfl (by rw [wRI_I, if_neg hj]) rfl rfl rfl) he
  refine va_copyi hx hb (by rw [hL.1, hml]) hown (hts _ lk) (hts _ lt_sys1) (hts _ lt_sys2) (hts _ lt_sys3) hK.1 hR.1 hR.2.1 hS (a - 1) (b - 1) 0 0 hat hbt rfl rfl rfl (lt_nneg g2) (lt_nneg g3) (lt_nneg g4) (by omega) (by omega) (fun _ _ => rfl) (by omega) (by rw [lt_w_sum, lt_w_map, lt_nfw]; omega) hd fun H1 locs1 hP1 hD1 hS1 => ?_
  rw [hws] at hP1 hD1
  exact h.2 ad H1 locs1 cells slots lsM (hR.upd hS hS1 h0 rfl (fun _ => rfl) rfl (by rw [wRI_I, if_neg (by omega)]) hR.2.2.2.2.1 hP1 hD1) hS1 hL (fun w hw => hst w (List.mem_cons_of_mem _ (List.mem_cons_of_mem _ (List.mem_cons_of_mem _ (List.mem_cons_of_mem _ (List.mem_cons_of_mem _ hw)))))) hc hs ha hn h0
theorem v_copyL {a b : Nat} {sp dp k : Int32} (hC : lt_Cx l d X q m) (hd : decode (lt_by m) pc = .ok (.invokestatic idx, 3)) (hf : lt_find (lt_mth (lt_inf m).1) idx = some (1000, n)) (hw : lt_w r ≤ 8) (hka : mK M a = 2) (hkb : mK M b = 2)
    (hg : a ≠ b ∧ 0 ≤ sp.toInt ∧ 0 ≤ dp.toInt ∧ 0 ≤ k.toInt ∧ sp.toInt + k.toInt ≤ (mZ M a : Int) ∧ dp.toInt + k.toInt ≤ (mZ M b : Int)) (h : lt_V X m z q (pc + 3) ls r (wRL M b (va_cpy (mL M a) (mL M b) sp.toNatClampNeg dp.toNatClampNeg k.toNatClampNeg))) : lt_V X m z q pc ls (.int k :: .int dp :: .ref b :: .int sp :: .ref a :: r) M := by
  obtain ⟨p, l, e, R, s, mid, args, below, meth, c, D, G, A⟩ := X
  obtain ⟨n0, ad0, mc, ms⟩ := q
  obtain ⟨⟨hx, hb, hml, hown, hts, hr, hlk, hm, hi, htb, hl, hK, hZ, hA⟩, hrm, -, hfr, hlo⟩ := hC
  have hfr' : d + 7 ≤ R.frames := hfr
  have hlo' : 64 * d + 200 ≤ R.locals := hlo
  have lk := lt_l_sys (lt_own_lt m hm) (by omega) hf
  have hy : lt_yx 1000 = arraycopyName := rfl
  rw [hy] at lk
  obtain ⟨g1, g2, g3, g4, g5, g6⟩ := hg
  refine ⟨h.1, fun ad H locs cells slots lsM hR hS hL hst hc hs ha hn h0 => ?_⟩
  have hpos := hR.pos (a := b) (by omega) (by omega)
  have hat := hR.at (a := a) (by omega) (by omega)
  have hbt := hR.at (a := b) (by omega) (by omega)
  rw [lt_E2 hka] at hat
  rw [lt_E2 hkb] at hbt
  have q1 : sp.toNatClampNeg = sp.toInt.toNat := rfl
  have q2 : dp.toNatClampNeg = dp.toInt.toNat := rfl
  have q3 : k.toNatClampNeg = k.toInt.toNat := rfl
  have he : lt_E G ad (wRL M b (va_cpy (mL M a) (mL M b) sp.toNatClampNeg dp.toNatClampNeg k.toNatClampNeg)) b = .inl (G 2, mZ M b, .inr (.inl (va_cpy (mL M a) (mL M b) sp.toNatClampNeg dp.toNatClampNeg k.toNatClampNeg))) := by
    rw [lt_E2 (M := wRL M b _) hkb, wRL_L, if_pos rfl]; rfl
  have hws := lt_ws_set (G := G) (ad := ad) (M := M) (M' := wRL M b (va_cpy (mL M a) (mL M b) sp.toNatClampNeg dp.toNatClampNeg k.toNatClampNeg)) hpos.1 rfl (fun j hj => lt_E_congr rfl rfl rfl (by rw [wRL_L, if_neg hj]) rfl rfl) he
  refine va_copyl hx hb (by rw [hL.1, hml]) hown (hts _ lk) (hts _ lt_sys1) (hts _ lt_sys2) (hts _ lt_sys3) hK.1 hR.1 hR.2.1 hS (a - 1) (b - 1) 1 1 hat hbt rfl rfl rfl (lt_nneg g2) (lt_nneg g3) (lt_nneg g4) (by omega) (by omega) (fun _ _ => rfl) (by omega) (by rw [lt_w_sum, lt_w_map, lt_nfw]; omega) hd fun H1 locs1 hP1 hD1 hS1 => ?_
  rw [hws] at hP1 hD1
  exact h.2 ad H1 locs1 cells slots lsM (hR.upd hS hS1 h0 rfl (fun _ => rfl) rfl rfl hR.2.2.2.2.1 hP1 hD1) hS1 hL (fun w hw => hst w (List.mem_cons_of_mem _ (List.mem_cons_of_mem _ (List.mem_cons_of_mem _ (List.mem_cons_of_mem _ (List.mem_cons_of_mem _ hw)))))) hc hs ha hn h0
end OpM
