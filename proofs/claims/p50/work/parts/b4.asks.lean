/-! QUESTIONS: what the class answers, its state left alone -/
def ordL (S : CS) : Nat → Int32 → Int32
  | 0, x => x
  | p + 1, x => ordL S p (x &&& (obb (kFirst S x) ^^^ -1))
def kNth (S : CS) (p : Nat) : Option Nat := kFirst S (ordL S p (S.1 0 5))
def kOutc (S : CS) (i : Nat) : Int32 := if nI i < S.1 6 6 then -1 else if nI i < S.1 6 7 then S.1 10 i else -1
def hSum (S : CS) (n : Nat) : Nat → Int32 → Int32
  | 0, z => z
  | m + 1, z => hSum S n m (if kOutc S (n - (m + 1)) = 0 then z + 1 else z)
section Ve
variable {M M' M1 N : LM} {B D P U i j k t w f n c e r a o : Nat} {x y v b1 b2 : Int32} {z : Option (LO × LM)} {K : LM → Option (LO × LM)} {b : Bool} {T T' T2 : BT} {R : Nat → BT} {S S' : CS} {kf fs W : Nat → Nat} {g g' : Nat → Int32}
theorem pSum_cg (h : ∀ k, k < 26 → g' k = g k) : ∀ (n : Nat) (acc : Int32), n ≤ 26 → pSum x g' n acc = pSum x g n acc
  | 0, _, _ => rfl
  | n + 1, acc, hn => by
    unfold pSum
    rw [h (25 - n) (by omega)]
    exact pSum_cg h n _ (by omega)
theorem kFirst_cg (h : SEq S S') : kFirst S' x = kFirst S x := by
  obtain ⟨h0, -, h2, -, -, -, h7, -⟩ := h
  have e0 := h0 0 (by omega) (by omega) (by omega)
  have e8 := h0 8 (by omega) (by omega) (by omega)
  have l3 : ∀ u, lO u (S'.2 3) = lO u (S.2 3) := fun u => lO_congr fun k hk => (h2 k hk).2.1
  have l4 : ∀ u, lO u (S'.2 4) = lO u (S.2 4) := fun u => lO_congr fun k hk => (h2 k hk).2.2.1
  have l5 : ∀ u, lO u (S'.2 5) = lO u (S.2 5) := fun u => lO_congr fun k hk => (h2 k hk).2.2.2
  have l12 : ∀ u, lO u (S'.2 12) = lO u (S.2 12) := fun u => lO_congr fun k hk => (h7 k hk).2.2.2
  unfold kFirst
  rw [e0, e8, l12, l4, l3, l4, l5]
theorem ordL_cg (h : SEq S S') : ∀ (p : Nat) (x : Int32), ordL S' p x = ordL S p x
  | 0, _ => rfl
  | p + 1, x => by
    unfold ordL
    rw [kFirst_cg h]
    exact ordL_cg h p _
theorem kNth_cg (h : SEq S S') : kNth S' w = kNth S w := by
  unfold kNth
  rw [kFirst_cg h, ordL_cg h, h.1 5 (by omega) (by omega) (by omega)]
theorem kOutc_cg (h : SEq S S') (hi : i < 300) : kOutc S' i = kOutc S i := by
  obtain ⟨-, -, -, -, h5, -, -, h8, -⟩ := h
  unfold kOutc
  rw [h5.1, h5.2, h8 i hi]
theorem hSum_cg (h : SEq S S') (hn : n ≤ 300) : ∀ (m : Nat) (z : Int32), m ≤ n → hSum S' n m z = hSum S n m z
  | 0, _, _ => rfl
  | m + 1, z, hm => by
    unfold hSum
    rw [kOutc_cg h (by omega)]
    exact hSum_cg h hn m _ (by omega)
theorem hSum_s {m : Nat} {z : Int32} : hSum S n (m + 1) z = hSum S n m (if kOutc S (n - (m + 1)) = 0 then z + 1 else z) := rfl
theorem SO_S (h : SO M T R c) (hi : i < 6) : SEq (T.2 i) (tG M (cc 3 i)) := h.2.1.2.2.2.2 i hi
theorem SO_5 (h : SO M T R c) (hi : i < 6) : mI M (cc 3 i) 5 = (T.2 i).1 0 5 := (SO_S h hi).1 5 (by omega) (by omega) (by omega)
theorem lt_b1_I : lt_b1 (bI b) z = z := by cases b <;> rfl
theorem q_holds (d : Nat) (h : SO M T R c) (hi : i < 6) (hk : k < 26) : f_X10_holds (d + 12) M 2 (nI i) (nI k) = some (.inl (some (.int (bI (bt ((T.2 i).1 0 5) k)))), M) := by
  have hk0 := h.1
  have r0 : f_X10_checkCache (d + 11) M (nI i) = _ := z_cache (d + 10)
  have r1 : f_X10_checkKey (d + 11) M (nI k) = _ := z_key (d + 10)
  have ec : f_X0_cache (d + 11) M 3 (nI i) = _ := t_cache (d + 10) hk0 hi
  have eh : ∀ x, f_X10_has (d + 11) M x (nI k) = some (.inl (some (.int (bI (bt x k)))), M) := fun x => s10_has (d + 10) hk
  rw [e_X10_holds, r0, bv_if, if_pos (qIn_ch hi), r1, bv_if, if_pos (qIn_ky hk), t_ck hk0, t_p0 hk0, x_rf, t_ckB hk0, ec, lt_br_r, t_ckC hk0 hi, eh, lt_bi_r, SO_5 h hi, lt_b1_I]
theorem q_isDirty (d : Nat) (h : SO M T R c) (hi : i < 6) (hk : k < 26) : f_X10_isDirty (d + 12) M 2 (nI i) (nI k) = some (.inl (some (.int (bI (bt ((T.2 i).1 0 6) k)))), M) := by
  have hk0 := h.1
  have r0 : f_X10_checkCache (d + 11) M (nI i) = _ := z_cache (d + 10)
  have r1 : f_X10_checkKey (d + 11) M (nI k) = _ := z_key (d + 10)
  have ec : f_X0_cache (d + 11) M 3 (nI i) = _ := t_cache (d + 10) hk0 hi
  have eh : ∀ x, f_X10_has (d + 11) M x (nI k) = some (.inl (some (.int (bI (bt x k)))), M) := fun x => s10_has (d + 10) hk
  have e6 : mI M (cc 3 i) 6 = (T.2 i).1 0 6 := (SO_S h hi).1 6 (by omega) (by omega) (by omega)
  rw [e_X10_isDirty, r0, bv_if, if_pos (qIn_ch hi), r1, bv_if, if_pos (qIn_ky hk), t_ck hk0, t_p0 hk0, x_rf, t_ckB hk0, ec, lt_br_r, t_ckC hk0 hi, eh, lt_bi_r, e6, lt_b1_I]
/-- what cacheAt tells -/
def caV (kz : Nat → Int32) (S : CS) (w : Int32) : Int32 := if Int32.toInt w = 0 then S.1 0 0 else if Int32.toInt w = 1 then S.1 0 1 else if Int32.toInt w = 2 then S.1 0 2 else if Int32.toInt w = 3 then S.1 0 3 else if Int32.toInt w = 4 then pPop (S.1 0 5) else if Int32.toInt w = 5 then pSum (S.1 0 5) kz 26 0 else if Int32.toInt w = 6 then pPop (S.1 0 6) else pPop (S.1 0 10)
theorem q_cacheAt (d : Nat) (h : SO M T R c) (hi : i < 6) (hw : qIn x 0 7 = true) : f_X10_cacheAt (d + 12) M 2 (nI i) x = some (.inl (some (.int (caV (T.1 2) (T.2 i) x))), M) := by
  have hk0 := h.1
  have r0 : f_X10_checkCache (d + 11) M (nI i) = _ := z_cache (d + 10)
  have r1 : f_X10_checkRange (d + 11) M x 0 7 = _ := z_range (d + 10)
  have ec : f_X0_cache (d + 11) M 3 (nI i) = _ := t_cache (d + 10) hk0 hi
  have ep : ∀ x, f_J6_bitCount_0f7a4 (d + 11) M x = some (.inl (some (.int (pPop x))), M) := fun x => c_pop (d + 10)
  have eu : ∀ x, f_X3_units (d + 11) M 4 x = some (.inl (some (.int (pSum x (mI M 5) 26 0))), M) := fun x => s3_units (d + 10) (t_kA hk0)
  have es : ∀ x, pSum x (mI M 5) 26 0 = pSum x (T.1 2) 26 0 := fun x => pSum_cg (fun k hk => (h.2.1.2.2.1 k hk).1) 26 0 (Nat.le_refl _)
  have g := (SO_S h hi).1
  have e0 : mI M (cc 3 i) 0 = (T.2 i).1 0 0 := g 0 (by omega) (by omega) (by omega)
  have e1 : mI M (cc 3 i) 1 = (T.2 i).1 0 1 := g 1 (by omega) (by omega) (by omega)
  have e2 : mI M (cc 3 i) 2 = (T.2 i).1 0 2 := g 2 (by omega) (by omega) (by omega)
  have e3 : mI M (cc 3 i) 3 = (T.2 i).1 0 3 := g 3 (by omega) (by omega) (by omega)
  have e5 : mI M (cc 3 i) 5 = (T.2 i).1 0 5 := g 5 (by omega) (by omega) (by omega)
  have e6 : mI M (cc 3 i) 6 = (T.2 i).1 0 6 := g 6 (by omega) (by omega) (by omega)
  have e10 : mI M (cc 3 i) 10 = (T.2 i).1 0 10 := g 10 (by omega) (by omega) (by omega)
  rw [e_X10_cacheAt, r0, bv_if, if_pos (qIn_ch hi), r1, bv_if, if_pos hw, t_ck hk0, t_p0 hk0, x_rf, t_ckB hk0, ec, lt_br_r]
  unfold caV
  simp only [t_ckC hk0 hi, t_ck hk0, t_p0 hk0, x_rf, t_ckB hk0, t_B0 hk0, t_ckK hk0, ep, eu, lt_bi_r, e0, e1, e2, e3, e5, e6, e10, es]
  repeat (first | rfl | split)
theorem q_keySize (d : Nat) (h : SO M T R c) (hk : k < 26) : f_X10_keyAt (d + 12) M 2 (nI k) 0 = some (.inl (some (.int (T.1 2 k))), M) := by
  have hk0 := h.1
  have r0 : f_X10_checkKey (d + 11) M (nI k) = _ := z_key (d + 10)
  have r1 : f_X10_checkRange (d + 11) M 0 0 3 = _ := z_range (d + 10)
  have ea : f_X10_at (d + 11) M 5 (nI k) = _ := s10_at (d + 10) (t_kA hk0).2.2.2.2.1 hk
  have e1 : mI M 5 k = T.1 2 k := (h.2.1.2.2.1 k hk).1
  rw [e_X10_keyAt, r0, bv_if, if_pos (qIn_ky hk), r1, bv_if, if_pos (by decide), if_pos (by decide), t_ck hk0, t_p0 hk0, x_rf, t_ckB hk0, t_B0 hk0, x_rf, t_ckK hk0, t_K0 hk0, x_rf, ea, lt_bi_r, e1]
theorem q_keyCost (d : Nat) (h : SO M T R c) (hk : k < 26) : f_X10_keyAt (d + 12) M 2 (nI k) 1 = some (.inl (some (.int (T.1 3 k))), M) := by
  have hk0 := h.1
  have r0 : f_X10_checkKey (d + 11) M (nI k) = _ := z_key (d + 10)
  have r1 : f_X10_checkRange (d + 11) M 1 0 3 = _ := z_range (d + 10)
  have ea : f_X10_at (d + 11) M 6 (nI k) = _ := s10_at (d + 10) (t_kA hk0).2.2.2.2.2.1 hk
  have e1 : mI M 6 k = T.1 3 k := (h.2.1.2.2.1 k hk).2.1
  rw [e_X10_keyAt, r0, bv_if, if_pos (qIn_ky hk), r1, bv_if, if_pos (by decide), if_neg (by decide), if_pos (by decide), t_ck hk0, t_p0 hk0, x_rf, t_ckB hk0, t_B0 hk0, x_rf, t_ckK hk0, t_K1 hk0, x_rf, ea, lt_bi_r, e1]
theorem q_count (d : Nat) (h : SO M T R c) (hi : i < 6) (hw : w < 9) : f_X10_count (d + 12) M 2 (nI i) (nI w) = some (.inl (some (.int ((T.2 i).1 7 w))), M) := by
  have hk0 := h.1
  have hA := t_cA hk0 hi
  have r0 : f_X10_checkCache (d + 11) M (nI i) = _ := z_cache (d + 10)
  have r1 : f_X10_checkRange (d + 11) M (nI w) 0 8 = _ := z_range (d + 10)
  have ec : f_X0_cache (d + 11) M 3 (nI i) = _ := t_cache (d + 10) hk0 hi
  have ea : f_X10_at (d + 11) M (cc 3 i + 7) (nI w) = _ := s10_at (d + 10) hA.2.2.2.2.2.2.2.2.1 hw
  have e1 : mI M (cc 3 i + 7) w = (T.2 i).1 7 w := (SO_S h hi).2.2.2.2.2.1 w hw
  rw [e_X10_count, r0, bv_if, if_pos (qIn_ch hi), r1, bv_if, if_pos (show qIn (nI w) 0 8 = true from qIn_n (lo := 0) (hi := 8) (by omega) (by omega) (by omega)), t_ck hk0, t_p0 hk0, x_rf, t_ckB hk0, ec, lt_br_r, t_ckC hk0 hi, hA.1.2.2.2.2.2.2.1, x_rf, lt_ck_t hA.2.1.1, hA.2.1.2.1, x_rf, ea, lt_bi_r, e1]
theorem q_countOf (d : Nat) (h : SO M T R c) (hi : i < 6) (hk : k < 26) (b : Bool) : f_X10_countOf (d + 12) M 2 (nI i) (nI k) (bI b) = some (.inl (some (.int ((T.2 i).1 (if b = true then 8 else 9) k))), M) := by
  have hk0 := h.1
  have hA := t_cA hk0 hi
  have r0 : f_X10_checkCache (d + 11) M (nI i) = _ := z_cache (d + 10)
  have r1 : f_X10_checkKey (d + 11) M (nI k) = _ := z_key (d + 10)
  have ec : f_X0_cache (d + 11) M 3 (nI i) = _ := t_cache (d + 10) hk0 hi
  have g := (SO_S h hi).2.2.2.2.2.2.1 k hk
  rw [e_X10_countOf, r0, bv_if, if_pos (qIn_ch hi), r1, bv_if, if_pos (qIn_ky hk), t_ck hk0, t_p0 hk0, x_rf, t_ckB hk0, ec, lt_br_r, t_ckC hk0 hi, hA.1.2.2.2.2.2.2.1, x_rf]
  cases b with
  | true =>
    have ea : f_X10_at (d + 11) M (cc 3 i + 8) (nI k) = _ := s10_at (d + 10) hA.2.2.2.2.2.2.2.2.2.1 hk
    have e1 : mI M (cc 3 i + 8) k = (T.2 i).1 8 k := g.1
    rw [if_neg (by decide), lt_ck_t hA.2.1.1, hA.2.1.2.2.1, x_rf, ea, lt_bi_r, e1]
    rfl
  | false =>
    have ea : f_X10_at (d + 11) M (cc 3 i + 9) (nI k) = _ := s10_at (d + 10) hA.2.2.2.2.2.2.2.2.2.2.1 hk
    have e1 : mI M (cc 3 i + 9) k = (T.2 i).1 9 k := g.2.1
    rw [if_pos (show bI false = 0 from rfl), lt_ck_t hA.2.1.1, hA.2.1.2.2.2.1, x_rf, ea, lt_bi_r, e1]
    rfl
theorem q_order_45 (d : Nat) (h : CSK M) (hi : i < 6) {p : Nat} (hp : p < 1000) : ∀ (m : Nat) (x : Int32), m ≤ p → f_X10_keyInOrder_45 (d + 12) M (nI p) (cc 3 i) x (nI (p - m)) = some (.inl (some (.int (oI (kFirst (tG M (cc 3 i)) (ordL (tG M (cc 3 i)) m x))))), M)
  | 0, x, _ => by
    have ef := k_firstOf (M := M) (C := cc 3 i) (S := tG M (cc 3 i)) (these := x) (d + 9) (t_cA h hi)
    rw [t_cid] at ef
    have ef' : f_X1_firstOf (d + 11) M (cc 3 i) x = _ := ef
    rw [e_X10_keyInOrder_45, if_neg (by rw [nI_ltP (by omega) (by omega)]; omega), t_ckC h hi, ef', lt_bi_r]
    rfl
  | m + 1, x, hm => by
    have ih := q_order_45 d h hi hp m (x &&& (obb (kFirst (tG M (cc 3 i)) x) ^^^ -1)) (by omega)
    have ef := k_firstOf (M := M) (C := cc 3 i) (S := tG M (cc 3 i)) (these := x) (d + 9) (t_cA h hi)
    rw [t_cid] at ef
    have ef' : f_X1_firstOf (d + 11) M (cc 3 i) x = _ := ef
    have eb : f_X10_bit (d + 11) M (oI (kFirst (tG M (cc 3 i)) x)) = _ := k_bitO (d + 10) kFirst_lt
    have e1 : nI (p - (m + 1)) + 1 = nI (p - m) := by
      rw [show nI (p - (m + 1)) + 1 = nI (p - (m + 1) + 1) from lt_iA (j := p - (m + 1)) (k := 1)]
      congr 1
      omega
    rw [e_X10_keyInOrder_45, if_pos (by rw [nI_ltP (by omega) (by omega)]; omega), t_ckC h hi, ef', lt_bi_r, eb, lt_bi_r, e1]
    exact ih
theorem q_keyInOrder (d : Nat) (h : SO M T R c) (hi : i < 6) {p : Nat} (hp : p < 1000) (hp2 : nI p < pPop ((T.2 i).1 0 5)) : f_X10_keyInOrder (d + 12) M 2 (nI i) (nI p) = some (.inl (some (.int (oI (kNth (T.2 i) p)))), M) := by
  have hk0 := h.1
  have r0 : f_X10_checkCache (d + 11) M (nI i) = _ := z_cache (d + 10)
  have ec : f_X0_cache (d + 11) M 3 (nI i) = _ := t_cache (d + 10) hk0 hi
  have ep : ∀ x, f_J6_bitCount_0f7a4 (d + 11) M x = some (.inl (some (.int (pPop x))), M) := fun x => c_pop (d + 10)
  have eo := q_order_45 d hk0 hi hp p (mI M (cc 3 i) 5) (Nat.le_refl _)
  rw [Nat.sub_self] at eo
  have eo' : f_X10_keyInOrder_45 (d + 12) M (nI p) (cc 3 i) (mI M (cc 3 i) 5) 0 = _ := eo
  have e5 := SO_5 h hi
  rw [e5] at eo'
  rw [e_X10_keyInOrder, r0, bv_if, if_pos (qIn_ch hi), t_ck hk0, t_p0 hk0, x_rf, t_ckB hk0, ec, lt_br_r, if_neg (lt_neg (by omega)), t_ckC hk0 hi, ep, lt_bi_r, e5, if_pos hp2, t_ckC hk0 hi, eo', ← kNth_cg (SO_S h hi)]
  unfold kNth
  rw [show (tG M (cc 3 i)).1 0 5 = (T.2 i).1 0 5 from e5]
theorem q_victim (d : Nat) (h : SO M T R c) (v : VL kf fs W n T) (hi : i < 6) (hk : k < 26) : ∃ y, f_X10_victim (d + 12) M 2 (nI i) (nI k) = some (.inl (some (.int y)), M) ∧ (y ≠ -1 → kNoVictim (T.1 2) (T.2 i) k = false) := by
  have hk0 := h.1
  have r0 : f_X10_checkCache (d + 11) M (nI i) = _ := z_cache (d + 10)
  have r1 : f_X10_checkKey (d + 11) M (nI k) = _ := z_key (d + 10)
  have ec : f_X0_cache (d + 11) M 3 (nI i) = _ := t_cache (d + 10) hk0 hi
  have v2 := VL_cg v h.2.1
  have ev := k_firstOutFor (M := M) (C := cc 3 i) (K := 4) (S := tG M (cc 3 i)) (W := W) (k := k) (d + 6) (t_cA hk0 hi) (t_KO hk0 hi) (fun k hk => v2.2.2.2.1.1 k hk) hk
  rw [t_cid] at ev
  have ev' : f_X1_firstOutFor (d + 11) M (cc 3 i) 4 (nI k) = _ := ev
  refine ⟨_, by rw [e_X10_victim, r0, bv_if, if_pos (qIn_ch hi), r1, bv_if, if_pos (qIn_ky hk), t_ck hk0, t_p0 hk0, x_rf, t_ckB hk0, ec, lt_br_r, t_ck hk0, t_p0 hk0, x_rf, t_ckB hk0, t_B0 hk0, x_rf, t_ckC hk0 hi, ev', lt_bi_r], ?_⟩
  intro hne
  have e1 : kNoVictim (mI M (4 + 1)) (tG M (cc 3 i)) k = kNoVictim (T.1 2) (T.2 i) k := by
    unfold kNoVictim
    have e5 : (tG M (cc 3 i)).1 0 5 = _ := SO_5 h hi
    have g1 : (tG M (cc 3 i)).1 0 1 = _ := (SO_S h hi).1 1 (by omega) (by omega) (by omega)
    have gk : mI M 5 k = T.1 2 k := (h.2.1.2.2.1 k hk).1
    have gs : pSum ((T.2 i).1 0 5) (mI M 5) 26 0 = _ := pSum_cg (fun k hk => (h.2.1.2.2.1 k hk).1) 26 0 (Nat.le_refl _)
    rw [e5, g1, show mI M (4 + 1) = mI M 5 from rfl, gk, gs]
  rw [e1] at hne
  cases q : kNoVictim (T.1 2) (T.2 i) k with
  | false => rfl
  | true => rw [q, if_pos rfl] at hne; exact absurd rfl hne
theorem q_hb_46 (d : Nat) (h : CSK M) (hi : i < 6) (hn : n ≤ 300) (h0 : 0 < n) : ∀ (m : Nat) (z : Int32), m ≤ n → f_X10_hitsBetween_46 (d + 12) M (nI (n - 1)) (cc 3 i + 6) z (nI (n - m)) = some (.inl (some (.int (hSum (tG M (cc 3 i)) n m z))), M)
  | 0, z, _ => by
    rw [e_X10_hitsBetween_46, if_pos (by rw [nI_ltP (by omega) (by omega)]; omega)]
    rfl
  | m + 1, z, hm => by
    have ih := fun z => q_hb_46 d h hi hn h0 m z (by omega)
    have eo := k_outcomeAt (M := M) (C := cc 3 i) (S := tG M (cc 3 i)) (i := n - (m + 1)) (d + 9) (t_cA h hi) (by omega)
    rw [t_cid] at eo
    have eo' : f_X8_outcomeAt (d + 11) M (cc 3 i + 6) (nI (n - (m + 1))) = some (.inl (some (.int (kOutc (tG M (cc 3 i)) (n - (m + 1))))), M) := eo
    have e1 : nI (n - (m + 1)) + 1 = nI (n - m) := by
      rw [show nI (n - (m + 1)) + 1 = nI (n - (m + 1) + 1) from lt_iA (j := n - (m + 1)) (k := 1)]
      congr 1
      omega
    have l3 : nI (n - (m + 1)) < (300 : Int32) := (nI_ltP (j := n - (m + 1)) (k := 300) (by omega) (by omega)).mpr (by omega)
    rw [e_X10_hitsBetween_46, if_neg (by rw [nI_ltP (by omega) (by omega)]; omega), if_pos l3, lt_ck_t (t_cA h hi).2.1.1, eo', lt_bi_r, e1, ih, ih, hSum_s]
    split <;> rfl
theorem q_hitsBetween (d : Nat) (h : SO M T R c) (v : VL kf fs W n T) (hi : i < 6) (h0 : 0 < n) : f_X10_hitsBetween (d + 12) M 2 (nI i) 0 (nI n - 1) = some (.inl (some (.int (hSum (T.2 i) n n 0))), M) := by
  have hk0 := h.1
  have hn := v.2.2.1
  have r0 : f_X10_checkCache (d + 11) M (nI i) = _ := z_cache (d + 10)
  have rr : ∀ x, f_X10_checkRequest (d + 11) M 2 x = _ := fun x => z_req (d + 10) hk0 (SO_len h v) hn
  have ec : f_X0_cache (d + 11) M 3 (nI i) = _ := t_cache (d + 10) hk0 hi
  have e1 : nI n - 1 = nI (n - 1) := nI_sub (b := 1) h0
  have eb := q_hb_46 d hk0 hi hn h0 n 0 (Nat.le_refl _)
  rw [Nat.sub_self, hSum_cg (SO_S h hi) hn n 0 (Nat.le_refl _)] at eb
  have eb' : f_X10_hitsBetween_46 (d + 12) M (nI (n - 1)) (cc 3 i + 6) 0 0 = _ := eb
  have hm1 : ¬ nI (n - 1) < 0 := lt_neg (by omega)
  rw [e_X10_hitsBetween, r0, bv_if, if_pos (qIn_ch hi), t_ck hk0, rr, bv_if, e1, if_pos (show qIn 0 0 (nI (n - 1)) = true from qIn_n (lo := 0) (hi := n - 1) (m := 0) (by omega) (by omega) (by omega)), t_ck hk0, rr, bv_if, e1, if_pos (show qIn (nI (n - 1)) 0 (nI (n - 1)) = true from qIn_n (lo := 0) (hi := n - 1) (m := n - 1) (by omega) (by omega) (by omega)), if_neg hm1, t_ck hk0, t_p0 hk0, x_rf, t_ckB hk0, ec, lt_br_r, t_ckC hk0 hi, (t_cA hk0 hi).1.2.2.2.2.2.2.1, x_rf, eb']
end Ve
