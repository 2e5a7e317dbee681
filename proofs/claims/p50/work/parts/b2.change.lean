/-! CALLS that change: what they leave -/
def VL (kf fs W : Nat → Nat) (n : Nat) (T : BT) : Prop := RKc T.1 kf n ∧ T.1 5 3 = nI n ∧ n ≤ 300 ∧ bH T W ∧ ∀ i, i < 6 → fs i ≤ n ∧ LsA (T.2 i) kf (fs i) n
def kfU (kf : Nat → Nat) (n k : Nat) : Nat → Nat := fun i => if i = n then k else kf i
def askT (kf fs W : Nat → Nat) (n k : Nat) (w : Bool) (T : BT) : BT := (kApp T.1 n k w (T.1 0 4), kDoAll (kApp T.1 n k w (T.1 0 4)) W (kfU kf n k) fs n T.2)
def passT (m : Int32) (T : BT) : BT := (u2 T.1 0 4 (T.1 0 4 + m), (kLapses (T.1 0 4 + m) 6 T.2 0).1)
def setT (c : Nat) (rule room lapse mode : Int32) (n : Nat) (T : BT) : BT := (T.1, u1 T.2 c (kEmpty (kSetUp (T.2 c) rule room lapse mode) (nI n)))
def shareT (c : Nat) (a b e f : Int32) (T : BT) : BT := (T.1, u1 T.2 c (kShare (T.2 c) a b e f))
def keyT (k : Nat) (a b e : Int32) (T : BT) : BT := (u2 (u2 (u2 T.1 2 k a) 3 k b) 4 k e, T.2)
def flushT (c : Nat) (T : BT) : BT := (T.1, u1 T.2 c (kFlush (T.2 c)))
def clearT (T : BT) : BT := (u2 T.1 5 3 0, kEmpties 6 T.2)
def replT (kf W : Nat → Nat) (n : Nat) (T : BT) : BT := (T.1, fun i => if i < 6 then kAnew T.1 W kf n (kEmpty (T.2 i) 0) else T.2 i)
section Vc
variable {M M' M1 N : LM} {B D P U i j k t w f n c e r a o : Nat} {x y v b1 b2 : Int32} {z : Option (LO × LM)} {K : LM → Option (LO × LM)} {b : Bool} {T T' T2 : BT} {R : Nat → BT} {S : CS} {kf fs W : Nat → Nat}
theorem VL_cg (h : VL kf fs W n T) (g : BEq T T') : VL kf fs W n T' := by
  obtain ⟨h1, h2, h3, h4, h5⟩ := h
  obtain ⟨g1, g2, g3, g4, g5⟩ := g
  refine ⟨fun i hi => ⟨(h1 i hi).1, (g4 i (by omega)).1.trans (h1 i hi).2⟩, g1.trans h2, h3, ⟨fun k hk => ⟨(g3 k hk).2.2.trans (h4.1 k hk).1, (h4.1 k hk).2⟩, fun k hk => by rw [(g3 k hk).1]; exact h4.2 k hk⟩, fun i hi => ⟨(h5 i hi).1, fun k hk => ?_⟩⟩
  rw [((g5 i hi).2.2.2.2.2.2.1 k hk).2.2.1]
  exact (h5 i hi).2 k hk
theorem kfU_n : kfU kf n k n = k := if_pos rfl
theorem kfU_o (h : i ≠ n) : kfU kf n k i = kf i := if_neg h
theorem lastTo_kfU {y : Nat} : ∀ t, t ≤ n → lastTo (kfU kf n k) y f t = lastTo kf y f t
  | 0, _ => rfl
  | t + 1, h => by
    unfold lastTo
    rw [kfU_o (by omega), lastTo_kfU t (by omega)]
theorem LsA_kfU (h : LsA S kf f n) : LsA S (kfU kf n k) f n := fun y hy => by rw [lastTo_kfU n (Nat.le_refl _)]; exact h y hy
theorem VL_ask (h : VL kf fs W n T) (hk : k < 26) (hn : n < 300) (w : Bool) : VL (kfU kf n k) fs W (n + 1) (askT kf fs W n k w T) := by
  obtain ⟨h1, h2, h3, h4, h5⟩ := h
  have e6 : kApp T.1 n k w (T.1 0 4) 6 = u2 T.1 6 n (nI k) 6 := by unfold kApp; rw [z2_n1 (by decide), z2_n1 (by decide), z2_n1 (by decide)]
  refine ⟨fun i hi => ?_, ?_, by omega, ?_, fun i hi => ⟨by have := (h5 i hi).1; omega, ?_⟩⟩
  · show _ ∧ kApp T.1 n k w (T.1 0 4) 6 i = _
    rw [e6]
    by_cases c : i = n
    · rw [c, kfU_n, z2_eq]; exact ⟨hk, rfl⟩
    · rw [kfU_o c, z2_n2 c]; exact h1 i (by omega)
  · show kApp T.1 n k w (T.1 0 4) 5 3 = _
    unfold kApp
    rw [z2_eq]
  · have q : ∀ t, t = 2 ∨ t = 4 → kApp T.1 n k w (T.1 0 4) t = T.1 t := fun t ht => by unfold kApp; rw [z2_n1 (by omega), z2_n1 (by omega), z2_n1 (by omega), z2_n1 (by omega)]
    refine ⟨fun y hy => ?_, fun y hy => ?_⟩
    · show kApp T.1 n k w (T.1 0 4) 4 y = _ ∧ _
      rw [q 4 (by omega)]; exact h4.1 y hy
    · show 0 < kApp T.1 n k w (T.1 0 4) 2 y
      rw [q 2 (by omega)]; exact h4.2 y hy
  · show LsA (if i < 6 then kDo (kApp T.1 n k w (T.1 0 4)) W (kfU kf n k) (fs i) n (T.2 i) else T.2 i) _ _ _
    rw [if_pos hi]
    exact LsA_step (LsA_kfU (h5 i hi).2) (h5 i hi).1
theorem SO_len (h : SO M T R c) (v : VL kf fs W n T) : mI M 8 3 = nI n := h.2.1.1.trans v.2.1
theorem z_no (h : ¬ x < y) : (if x < y then some (Sum.inr 2, aExn M) else some (Sum.inl none, M) : Option (LO × LM)) = some (.inl none, M) := if_neg h
/-- request() -/
theorem q_request (d : Nat) (h : SO M T R c) (v : VL kf fs W n T) (hk : k < 26) (hn : n < 300) (w : Bool) : ∃ T2 M', BEq T T2 ∧ f_X10_request (d + 12) M 2 (nI k) (bI w) = some (.inl (some (.int (kBits T2.2 k 6 0))), M') ∧ SO M' (askT kf fs W n k w T2) (rpush R c T) (cpush c) ∧ FR M M' := by
  have hk0 := h.1
  obtain ⟨M', a1, a2, a3⟩ := SO_begin (d + 4) h
  have hk' := a2.1
  have q1 : qIn (nI k) 0 25 = true := qIn_i.mpr ⟨lt_neg (by omega), fun e => by have := (lt_iL (j := 25) (k := k) (by omega) (by omega)).mp e; omega⟩
  have e3 : ¬ ((300 : Int32) - nI n < 1) := by
    rw [show (300 : Int32) - nI n = nI (300 - n) from nI_sub (a := 300) v.2.2.1]
    exact fun e => by have := (lt_iL (j := 300 - n) (k := 1) (by omega) (by omega)).mp e; omega
  have v2 := VL_cg v a2.2.1
  have hb := b_ask (M := M') (B := 3) (T := tB M' 3) (kf := kfU kf n k) (fd := fs) (n := n) (w := w) (W := W) (d + 4) (t_b hk') (fun i hi => by rw [kfU_o (by omega)]; exact v2.1 i hi) (by rw [kfU_n]; exact hk) hn v2.2.1 v2.2.2.2.1 (fun i hi => LsA_kfU (v2.2.2.2.2 i hi).2)
  rw [kfU_n, t_id] at hb
  refine ⟨tB M' 3, _, a2.2.1, ?_, SO_bM a2, a3.tr FR_bM⟩
  have ez : f_X10_checkKey (d + 11) M (nI k) = _ := z_key (d + 10)
  have et : f_X10_checkRowTakes (d + 11) M 2 1 = _ := z_takes (d + 10) hk0 (SO_len h v)
  have ea : f_X10_beginChange (d + 11) M 2 = _ := a1
  have eb : f_X0_ask (d + 11) M' 3 (nI k) (bI w) = _ := hb
  rw [e_X10_request, ez, bv_if, if_pos q1, t_ck hk0, et, if_neg e3, lt_bv_r, t_ck hk0, ea, lt_bv_r, t_ck hk', t_p0 hk', x_rf, t_ckB hk', eb, lt_bi_r]
  rfl
/-- pass() -/
theorem q_pass (d : Nat) (h : SO M T R c) {m : Nat} (h1 : 1 ≤ m) (h2 : m ≤ 1000) : ∃ T2 M' x, BEq T T2 ∧ f_X10_pass (d + 12) M 2 (nI m) = some (.inl (some (.int x)), M') ∧ SO M' (passT (nI m) T2) (rpush R c T) (cpush c) ∧ FR M M' := by
  obtain ⟨M', a1, a2, a3⟩ := SO_begin (d + 4) h
  have hk' := a2.1
  have q1 : qIn (nI m) 1 1000 = true := qIn_i.mpr ⟨fun e => by have := (lt_iL (j := m) (k := 1) (by omega) (by omega)).mp e; omega, fun e => by have := (lt_iL (j := 1000) (k := m) (by omega) (by omega)).mp e; omega⟩
  let T1 : BT := (u2 (tB M' 3).1 0 4 ((tB M' 3).1 0 4 + nI m), (tB M' 3).2)
  have eT : wI M' 3 4 (mI M' 3 4 + nI m) = bM M' 3 T1 := by
    have := bMw0 (M := M') (B := 3) (T := tB M' 3) (j := 4) (v := mI M' 3 4 + nI m)
    rw [t_id] at this
    exact this
  have hk1 : CSK (bM M' 3 T1) := hk'
  have el := b_lapseAt (M := M') (B := 3) (T := T1) (x := (tB M' 3).1 0 4 + nI m) (d + 7) (t_b hk')
  have e4 : mI (bM M' 3 T1) 3 4 = (tB M' 3).1 0 4 + nI m := by
    rw [bMI0]; show u2 (tB M' 3).1 0 4 ((tB M' 3).1 0 4 + nI m) 0 4 = _; exact u2_eq
  refine ⟨tB M' 3, _, (kLapses ((tB M' 3).1 0 4 + nI m) 6 (tB M' 3).2 0).2, a2.2.1, ?_, SO_bM a2, a3.tr FR_bM⟩
  · have er : f_X10_checkRange (d + 11) M (nI m) 1 1000 = _ := z_range (d + 10)
    have ea : f_X10_beginChange (d + 11) M 2 = _ := a1
    have eb : f_X0_lapseAt (d + 11) (bM M' 3 T1) 3 ((tB M' 3).1 0 4 + nI m) = _ := el
    rw [e_X10_pass, er, bv_if, if_pos q1, t_ck h.1, ea, lt_bv_r, t_ck hk', t_p0 hk', x_rf, t_ckB hk', t_ckB hk', x_m, eT, t_ck hk1, t_p0 hk1, x_rf, t_ck hk1, x_rf, t_ckB hk1, t_ckB hk1, e4, eb, lt_bi_r]
    rfl
theorem qIn_ch (h : c < 6) : qIn (nI c) 0 5 = true := qIn_i.mpr ⟨lt_neg (by omega), fun e => by have := (lt_iL (j := 5) (k := c) (by omega) (by omega)).mp e; omega⟩
theorem qIn_ky (h : k < 26) : qIn (nI k) 0 25 = true := qIn_i.mpr ⟨lt_neg (by omega), fun e => by have := (lt_iL (j := 25) (k := k) (by omega) (by omega)).mp e; omega⟩
theorem qIn_n {lo hi m : Nat} (h1 : lo ≤ m) (h2 : m ≤ hi) (h3 : hi < 2147483648) : qIn (nI m) (nI lo) (nI hi) = true := qIn_i.mpr ⟨fun e => by have := (lt_iL (by omega) (by omega)).mp e; omega, fun e => by have := (lt_iL (by omega) (by omega)).mp e; omega⟩
theorem t_cM (hi : i < 6) : cM M (cc 3 i) S = bM M 3 ((tB M 3).1, u1 (tB M 3).2 i S) := by
  have := bM_c (M := M) (B := 3) (T := tB M 3) (i := i) (S := S) hi
  rwa [t_id] at this
theorem t_cid : cM M (cc 3 i) (tG M (cc 3 i)) = M := cM_id
/-- setCache() -/
theorem q_setCache (d : Nat) (h : SO M T R c) (v : VL kf fs W n T) {ch ru ro la mo : Nat} (h1 : ch < 6) (h2 : ru ≤ 6) (h3 : 1 ≤ ro) (h4 : ro ≤ 20) (h5 : la ≤ 1000) (h6 : mo ≤ 3) : ∃ T2 M' x, BEq T T2 ∧ f_X10_setCache (d + 12) M 2 (nI ch) (nI ru) (nI ro) (nI la) (nI mo) = some (.inl (some (.int x)), M') ∧ SO M' (setT ch (nI ru) (nI ro) (nI la) (nI mo) n T2) (rpush R c T) (cpush c) ∧ FR M M' := by
  obtain ⟨M', a1, a2, a3⟩ := SO_begin (d + 4) h
  have hk' := a2.1
  have es := k_setUp (M := M') (C := cc 3 ch) (S := tG M' (cc 3 ch)) (a := nI ru) (b := nI ro) (e := nI la) (f := nI mo) (d + 9) (t_cA hk' h1)
  rw [t_cid] at es
  let S1 := kSetUp (tG M' (cc 3 ch)) (nI ru) (nI ro) (nI la) (nI mo)
  have hk1 : CSK (cM M' (cc 3 ch) S1) := hk'
  have ee := k_empty (M := M') (C := cc 3 ch) (S := S1) (nx := nI n) (d + 8) (t_cA hk' h1)
  rw [t_cM h1 (S := kEmpty S1 (nI n))] at ee
  have e7 : mI (cM M' (cc 3 ch) S1) 8 3 = nI n := by
    rw [t_cM h1]
    have := bMI (M := M') (B := 3) (T := ((tB M' 3).1, u1 (tB M' 3).2 ch S1)) (t := 5) (by omega)
    exact (congrFun this 3).trans (SO_len a2 v)
  refine ⟨tB M' 3, _, pPop (mI M' (cc 3 ch) 5), a2.2.1, ?_, SO_bM a2, a3.tr FR_bM⟩
  have r0 : f_X10_checkCache (d + 11) M (nI ch) = _ := z_cache (d + 10)
  have r1 : f_X10_checkRange (d + 11) M (nI ru) 0 6 = _ := z_range (d + 10)
  have r2 : f_X10_checkRange (d + 11) M (nI ro) 1 20 = _ := z_range (d + 10)
  have r3 : f_X10_checkRange (d + 11) M (nI la) 0 1000 = _ := z_range (d + 10)
  have r4 : f_X10_checkRange (d + 11) M (nI mo) 0 3 = _ := z_range (d + 10)
  have ea : f_X10_beginChange (d + 11) M 2 = _ := a1
  have ec : f_X0_cache (d + 11) M' 3 (nI ch) = _ := t_cache (d + 10) hk' h1
  have ep : f_J6_bitCount_0f7a4 (d + 11) M' (mI M' (cc 3 ch) 5) = _ := c_pop (d + 10)
  have es' : f_X1_setUp (d + 11) M' (cc 3 ch) (nI ru) (nI ro) (nI la) (nI mo) = _ := es
  have ee' : f_X1_empty (d + 11) (cM M' (cc 3 ch) S1) (cc 3 ch) (nI n) = _ := ee
  rw [e_X10_setCache, r0, bv_if, if_pos (qIn_ch h1), r1, bv_if, if_pos (show qIn (nI ru) 0 6 = true from qIn_n (lo := 0) (hi := 6) (by omega) h2 (by omega)), r2, bv_if, if_pos (show qIn (nI ro) 1 20 = true from qIn_n (lo := 1) (hi := 20) h3 h4 (by omega)), r3, bv_if, if_pos (show qIn (nI la) 0 1000 = true from qIn_n (lo := 0) (hi := 1000) (by omega) h5 (by omega)), r4, bv_if, if_pos (show qIn (nI mo) 0 3 = true from qIn_n (lo := 0) (hi := 3) (by omega) h6 (by omega)),
    t_ck h.1, ea, lt_bv_r, t_ck hk', t_p0 hk', x_rf, t_ckB hk', ec, lt_br_r, t_ckC hk' h1, ep, lt_bi_r, t_ckC hk' h1, es', lt_bv_r, t_ck hk1, t_p0 hk1, x_rf, t_ckB hk1, t_B1 hk1, x_rf, t_ckR hk1, t_ckC hk1 h1, e7, ee', lt_bv_r]
  rfl
/-- setShares() -/
theorem q_setShares (d : Nat) (h : SO M T R c) {ch ro s1 s2 s3 : Nat} (h1 : ch < 6) (hr : (T.2 ch).1 0 1 = nI ro) (hro : ro ≤ 20) (g1 : s1 ≤ ro) (g2 : s2 ≤ ro - s1) (g3 : s3 ≤ ro - s1 - s2) : ∃ T2 M' x, BEq T T2 ∧ f_X10_setShares (d + 12) M 2 (nI ch) (nI s1) (nI s2) (nI s3) 0 = some (.inl (some (.int x)), M') ∧ SO M' (shareT ch (nI s1) (nI s2) (nI s3) 0 T2) (rpush R c T) (cpush c) ∧ FR M M' := by
  obtain ⟨M', a1, a2, a3⟩ := SO_begin (d + 4) h
  have hk := h.1
  have hk' := a2.1
  have e1 : mI M (cc 3 ch) 1 = nI ro := ((h.2.1.2.2.2.2 ch h1).1 1 (by omega) (by omega) (by omega)).trans hr
  have es := k_share (M := M') (C := cc 3 ch) (S := tG M' (cc 3 ch)) (a := nI s1) (b := nI s2) (e := nI s3) (f := 0) (d + 9) (t_cA hk' h1)
  rw [t_cid] at es
  let S1 := kShare (tG M' (cc 3 ch)) (nI s1) (nI s2) (nI s3) 0
  have hk1 : CSK (cM M' (cc 3 ch) S1) := hk'
  have eb1 := k_beyond (M := M') (C := cc 3 ch) (S := S1) (K := 4) (set := S1.1 0 5) (d + 8) (t_cA hk' h1) (t_KO hk' h1)
  have e5 : mI (cM M' (cc 3 ch) S1) (cc 3 ch) 5 = S1.1 0 5 := congrFun cI0 5
  have r0 : f_X10_checkCache (d + 11) M (nI ch) = _ := z_cache (d + 10)
  have rr : ∀ a b : Int32, f_X10_checkRange (d + 11) M a 0 b = _ := fun a b => z_range (d + 10)
  have ea : f_X10_beginChange (d + 11) M 2 = _ := a1
  have ec : f_X0_cache (d + 11) M 3 (nI ch) = _ := t_cache (d + 10) hk h1
  have es' : f_X1_share (d + 11) M' (cc 3 ch) (nI s1) (nI s2) (nI s3) 0 = _ := es
  have eb' : f_X1_ownersBeyond (d + 11) (cM M' (cc 3 ch) S1) (cc 3 ch) 4 (S1.1 0 5) = _ := eb1
  refine ⟨tB M' 3, _, pPop (kBey (mI M' (4 + 1)) (mI M' (4 + 3)) S1 (S1.1 0 5)), a2.2.1, ?_, SO_bM a2, a3.tr FR_bM⟩
  · rw [e_X10_setShares, r0, bv_if, if_pos (qIn_ch h1), t_ck hk, t_p0 hk, x_rf, t_ckB hk, ec, lt_br_r, t_ckC hk h1, e1, rr, bv_if, if_pos (show qIn (nI s1) 0 (nI (ro)) = true from qIn_n (lo := 0) (hi := ro) (by omega) g1 (by omega)), t_ckC hk h1, e1, nI_sub g1, rr, bv_if, if_pos (show qIn (nI s2) 0 (nI (ro - s1)) = true from qIn_n (lo := 0) (hi := ro - s1) (by omega) g2 (by omega)), t_ckC hk h1, e1, nI_sub g1, nI_sub g2, rr, bv_if, if_pos (show qIn (nI s3) 0 (nI (ro - s1 - s2)) = true from qIn_n (lo := 0) (hi := ro - s1 - s2) (by omega) g3 (by omega)), t_ckC hk h1, e1, nI_sub g1, nI_sub g2, nI_sub g3, rr, bv_if, if_pos (show qIn 0 0 (nI (ro - s1 - s2 - s3)) = true from qIn_n (lo := 0) (hi := ro - s1 - s2 - s3) (m := 0) (by omega) (by omega) (by omega)), t_ck hk, ea, lt_bv_r, t_ckC hk' h1, es', lt_bv_r, t_ck hk1, t_p0 hk1, x_rf, t_ckB hk1, t_B0 hk1, x_rf, t_ckC hk1 h1, t_ckC hk1 h1, e5, eb', lt_bi_r, c_pop, lt_bi_r, t_cM h1]
    rfl
/-- flush() -/
theorem q_flush (d : Nat) (h : SO M T R c) {ch : Nat} (h1 : ch < 6) : ∃ T2 M' x, BEq T T2 ∧ f_X10_flush (d + 12) M 2 (nI ch) = some (.inl (some (.int x)), M') ∧ SO M' (flushT ch T2) (rpush R c T) (cpush c) ∧ FR M M' := by
  obtain ⟨M', a1, a2, a3⟩ := SO_begin (d + 4) h
  have hk := h.1
  have hk' := a2.1
  have ew := k_writeDirty (M := M') (C := cc 3 ch) (S := tG M' (cc 3 ch)) (d + 9) (t_cA hk' h1)
  rw [t_cid, t_cM h1] at ew
  have r0 : f_X10_checkCache (d + 11) M (nI ch) = _ := z_cache (d + 10)
  have ea : f_X10_beginChange (d + 11) M 2 = _ := a1
  have ec : f_X0_cache (d + 11) M' 3 (nI ch) = _ := t_cache (d + 10) hk' h1
  have ew' : f_X1_writeDirty (d + 11) M' (cc 3 ch) = _ := ew
  refine ⟨tB M' 3, _, pPop ((tG M' (cc 3 ch)).1 0 6), a2.2.1, ?_, SO_bM a2, a3.tr FR_bM⟩
  · rw [e_X10_flush, r0, bv_if, if_pos (qIn_ch h1), t_ck hk, ea, lt_bv_r, t_ck hk', t_p0 hk', x_rf, t_ckB hk', ec, lt_br_r, t_ckC hk' h1, ew', lt_bi_r]
    rfl
/-- clearRow() -/
theorem q_clearRow (d : Nat) (h : SO M T R c) : ∃ T2 M' x, BEq T T2 ∧ f_X10_clearRow (d + 12) M 2 = some (.inl (some (.int x)), M') ∧ SO M' (clearT T2) (rpush R c T) (cpush c) ∧ FR M M' := by
  obtain ⟨M', a1, a2, a3⟩ := SO_begin (d + 4) h
  have hk := h.1
  have hk' := a2.1
  let T1 : BT := (u2 (tB M' 3).1 5 3 0, (tB M' 3).2)
  have eT : wI M' 8 3 0 = bM M' 3 T1 := by
    have := bMw (M := M') (B := 3) (T := tB M' 3) (t := 5) (j := 3) (v := 0) (by omega)
    rw [t_id] at this
    exact this
  have hk1 : CSK (bM M' 3 T1) := hk'
  have el := b_emptyCaches (M := M') (B := 3) (T := T1) (d + 7) (t_b hk')
  have ea : f_X10_beginChange (d + 11) M 2 = _ := a1
  have el' : f_X0_emptyCaches (d + 11) (bM M' 3 T1) 3 = _ := el
  refine ⟨tB M' 3, _, mI M' 8 3, a2.2.1, ?_, SO_bM a2, a3.tr FR_bM⟩
  rw [e_X10_clearRow, t_ck hk, ea, lt_bv_r, t_ck hk', t_p0 hk', x_rf, t_ckB hk', t_B1 hk', x_rf, t_ckR hk', t_ck hk', x_rf, t_ckB hk', t_B1 hk', x_rf, t_ckR hk', x_m, eT, t_ck hk1, t_p0 hk1, x_rf, t_ckB hk1, el', lt_bv_r]
  rfl
/-- replay() -/
theorem q_replay (d : Nat) (h : SO M T R c) (v : VL kf fs W n T) : ∃ T2 M' x, BEq T T2 ∧ f_X10_replay (d + 12) M 2 = some (.inl (some (.int x)), M') ∧ SO M' (replT kf W n T2) (rpush R c T) (cpush c) ∧ FR M M' := by
  obtain ⟨M', a1, a2, a3⟩ := SO_begin (d + 4) h
  have hk := h.1
  have hk' := a2.1
  have v2 := VL_cg v a2.2.1
  have ef := b_feedAnew (M := M') (B := 3) (T := tB M' 3) (kf := kf) (n := n) (W := W) (d + 4) (t_b hk') v2.1 v2.2.2.1 v2.2.1 v2.2.2.2.1
  rw [t_id] at ef
  have ea : f_X10_beginChange (d + 11) M 2 = _ := a1
  have ef' : f_X0_feedAnew (d + 11) M' 3 = _ := ef
  refine ⟨tB M' 3, _, kAnT (tB M' 3).1 W kf n (fun i => kEmpty ((tB M' 3).2 i) 0) 6 0, a2.2.1, ?_, SO_bM a2, a3.tr FR_bM⟩
  · rw [e_X10_replay, t_ck hk, ea, lt_bv_r, t_ck hk', t_p0 hk', x_rf, t_ckB hk', ef', lt_bi_r]
    rfl
end Vc
