/-! THE CLASS, the study fed: hits, what is held, what went last */ -/
section Cy
variable {M : LM} {U R C n m i j k t o : Nat} {Z : CS} {v x rule size a c : Int32} {b : Option Nat} {r r' : Nat → Int64} {y : Int64} {g : Nat → Int32} {gl : Nat → Int64} {z : Option (LO × LM)} {s : SD} {kf : Nat → Nat}
theorem st_feed_88 (d : Nat) (h : SA M U) (hk : k < 26) (hi : i < 300) {x4 : Int32} : f_X7_feed_88 (d + 3) (gM M U 5 (zS Z s)) U R rule size x4 (nI i) (nI k) (bI (bt s.1 k)) (if bt s.1 k = true then 1 else 0) s.2.2.1 U = f_X7_feed_36 (d + 3) (gM M U 5 (zS Z (sStep rule size (Z.1 3) k i s))) U R rule size x4 (nI i + 1) := by
  have p3 : ∀ {s : SD}, mP (gM M U 5 (zS Z s)) U 3 = some (U + 1) := fun {s} => h.2.1
  have er := fun s => st_rank (M := M) (U := U) (Z := Z) (s := s) (rule := rule) d h hk hi
  have ep := fun s y => gw_putL (M := M) (U := U) (n := 5) (Z := zS Z s) (y := y) (d + 1) (t := 1) (by omega) h.2.2.2.2.2.1 hk
  rw [e_X7_feed_88, st_ck h, gwI0 (by omega), zS_w2, x_m]
  by_cases b : bt s.1 k = true
  · have ho : sOut size s k = none := if_pos b
    have h1 : ¬ bI (bt s.1 k) = 0 := by rw [b]; decide
    rw [if_neg h1]
    exact st_feed_123 d h hk hi ho rfl
  · have b' : bt s.1 k = false := by simpa using b
    have h1 : bI (bt s.1 k) = 0 := by rw [b']; rfl
    rw [if_pos h1, st_ck h, gI0 (by omega), zS_0]
    dsimp only
    rw [c_pop, lt_bi_r]
    by_cases q : pPop s.1 < size
    · have ho : sOut size s k = none := by unfold sOut; rw [if_neg b, if_pos q]
      rw [if_pos q]
      exact st_feed_123 d h hk hi ho rfl
    · have ho : sOut size s k = lO s.1 s.2.2.2 := by unfold sOut; rw [if_neg b, if_neg q]
      rw [if_neg q, st_ck h, st_ck h, p3, x_rf, gI0 (by omega), zS_0, st_least (d + 1) h, lt_bi_r, st_ck h, gwI0 (by omega), zS_w1, x_m, st_ck h, st_ck h, gI0 (by omega), zS_1, zS_0]
      dsimp only
      rw [k_bitO (d + 1) (fun j e => (lO_lt j e).1), lt_bi_r, s10_bit (d + 1) hk, lt_bi_r, st_ck h, gwI0 (by omega), zS_w0, x_m, if_pos h1, st_ck h, p3, x_rf, st_ck h, er, lt_bl_r, ep, lt_bv_r, zS_wr]
      unfold sStep
      rw [ho, if_neg (c := bt s.1 k = true ∧ rule = 2) (fun e => b e.1)]
theorem st_feed_36 (d : Nat) (h : SA M U) (hR : RW M R) (hRU : R + 3 < U ∨ U + 5 ≤ R) (hr : RKm M R kf n) (hn : n ≤ 300) (ht : t ≤ n) : ∀ (m : Nat) (s : SD), m ≤ t →
    f_X7_feed_36 (d + 3) (gM M U 5 (zS Z s)) U R rule size (nI t) (nI (t - m)) = some (.inl none, gM M U 5 (zS Z (sFeed rule size (Z.1 3) kf t m s)))
  | 0, s, _ => by
    have hlt : ¬ nI (t - 0) < nI t := by rw [nI_ltP (by omega) (by omega)]; omega
    rw [e_X7_feed_36, if_neg hlt]
    rfl
  | m + 1, s, hm => by
    have hlt : nI (t - (m + 1)) < nI t := by rw [nI_ltP (by omega) (by omega)]; omega
    have hlt2 : nI (t - (m + 1)) < (300 : Int32) := (nI_ltP (j := t - (m + 1)) (k := 300) (by omega) (by omega)).mpr (by omega)
    have g2 : nI (t - (m + 1)) + 1 = nI (t - m) := by
      rw [show nI (t - (m + 1)) + 1 = nI (t - (m + 1) + 1) from lt_iA (j := t - (m + 1)) (k := 1)]
      congr 1
      omega
    obtain ⟨a1, a2⟩ := hr (t - (m + 1)) (by omega)
    have hR' : RW (gM M U 5 (zS Z s)) R := hR
    have h88 := st_feed_88 (M := M) (U := U) (R := R) (Z := Z) (rule := rule) (size := size) (s := s) d h (k := kf (t - (m + 1))) (i := t - (m + 1)) a1 (by omega) (x4 := nI t)
    rw [e_X7_feed_36, if_pos hlt, if_pos hlt2, w_ck hR', hR'.2.1, x_rf, w_at (d + 1) hR' (by omega), lt_bi_r, gIo (o := R + 1) (by omega), a2, st_ck h, gI0 (by omega), zS_0, s10_has (d + 1) a1, lt_bi_r, st_ck h, gI0 (by omega), zS_2]
    have ih := st_feed_36 d h hR hRU hr hn ht m (sStep rule size (Z.1 3) (kf (t - (m + 1))) (t - (m + 1)) s) (by omega)
    rw [← g2] at ih
    refine Eq.trans ?_ (h88.trans ih)
    by_cases b : bt s.1 (kf (t - (m + 1))) = true
    · rw [if_pos b, if_neg (by decide), b]
      rfl
    · have b' : bt s.1 (kf (t - (m + 1))) = false := by simpa using b
      rw [if_neg b, if_pos rfl, b']
      rfl
/-- when each key is asked next -/
def zNext (Z : CS) (f : Nat → Int32) : CS := (u1 Z.1 2 f, Z.2)
theorem st_la_2 (d : Nat) (h : SA M U) : ∀ (m : Nat) (Z : CS), m ≤ 26 → (∀ k, k < 26 - m → Z.1 2 k = nI (300 + k)) → ∃ Z', (∀ k, k < 26 → Z'.1 2 k = nI (300 + k)) ∧ (∀ t, t ≠ 2 → Z'.1 t = Z.1 t) ∧ Z'.2 = Z.2 ∧ f_X7_lookAhead_2 (d + 1) (gM M U 5 Z) U R (nI (26 - m)) = lt_ck (gM M U 5 Z') R 20 (f_X7_lookAhead_35 (d + 1) (gM M U 5 Z') U R (mI (gM M U 5 Z') R 3 - 1))
  | 0, Z, _, hz => by
    have hlt : ¬ nI (26 - 0) < nI 26 := by decide
    have p4 : mP (gM M U 5 Z) U 4 = some (U + 2) := h.2.2.1
    have k2 : mZ (gM M U 5 Z) (U + 2) = 26 := h.2.2.2.2.2.2.1.2.1
    refine ⟨Z, hz, fun _ _ => rfl, rfl, ?_⟩
    rw [e_X7_lookAhead_2, st_ck h, p4, x_rf, lt_al_t (M := gM M U 5 Z) (by have := h.2.2.2.2.2.2.1.1; show 1 ≤ mK M (U + 2) ∧ mK M (U + 2) ≤ 9; omega), k2, if_neg hlt]
  | m + 1, Z, hm, hz => by
    have hlt : nI (26 - (m + 1)) < nI 26 := by rw [nI_ltP (by omega) (by omega)]; omega
    have p4 : mP (gM M U 5 Z) U 4 = some (U + 2) := h.2.2.1
    have k1 : mK (gM M U 5 Z) (U + 2) = 1 := h.2.2.2.2.2.2.1.1
    have k2 : mZ (gM M U 5 Z) (U + 2) = 26 := h.2.2.2.2.2.2.1.2.1
    have g2 : nI (26 - (m + 1)) + 1 = nI (26 - m) := by
      rw [show nI (26 - (m + 1)) + 1 = nI (26 - (m + 1) + 1) from lt_iA (j := 26 - (m + 1)) (k := 1)]
      congr 1
      omega
    have g3 : 300 + nI (26 - (m + 1)) = nI (300 + (26 - (m + 1))) := lt_iA (j := 300) (k := 26 - (m + 1))
    obtain ⟨Z', e1, e2, e3, e4⟩ := st_la_2 d h m (cwi Z 2 (26 - (m + 1)) (nI (300 + (26 - (m + 1))))) (by omega) (fun k hk => by
      show u2 Z.1 2 (26 - (m + 1)) _ 2 k = _
      by_cases q : k = 26 - (m + 1)
      · rw [q, z2_eq]
      · rw [z2_n2 q]
        exact hz k (by omega))
    refine ⟨Z', e1, fun t ht => (e2 t ht).trans (z2_n1 ht), e3, ?_⟩
    rw [e_X7_lookAhead_2, st_ck h, p4, x_rf, lt_al_t (M := gM M U 5 Z) (by omega), k2, if_pos hlt, st_ck h, x_rf, lt_ar_t (M := gM M U 5 Z) k1 (by rw [k2]; exact lt_iI (by omega) (by omega)), lt_iN (by omega), g3, gwI (by omega), x_m, g2, e4]
theorem st_la_35 (d : Nat) (h : SA M U) (hR : RW M R) (hRU : R + 3 < U ∨ U + 5 ≤ R) (hr : RKm M R kf n) (hn : n ≤ 300) : ∀ (m : Nat) (Z : CS), m ≤ n → (∀ k, k < 26 → Z.1 2 k = nI (sNext kf (n - m) m k)) → (∀ i, m ≤ i → i < n → Z.1 3 i = nI (sNext kf (n - (i + 1)) (i + 1) (kf i))) →
    ∃ Z', (∀ i, i < n → Z'.1 3 i = nI (sNext kf (n - (i + 1)) (i + 1) (kf i))) ∧ (∀ t, t ≠ 2 → t ≠ 3 → Z'.1 t = Z.1 t) ∧ Z'.2 = Z.2 ∧ f_X7_lookAhead_35 (d + 2) (gM M U 5 Z) U R (nI m + -1) = some (.inl none, gM M U 5 Z')
  | 0, Z, _, _, h3 => ⟨Z, fun i hi => h3 i (by omega) hi, fun _ _ _ => rfl, rfl, by rw [e_X7_lookAhead_35, if_pos (show nI 0 + -1 < 0 by decide)]⟩
  | m + 1, Z, hm, h2, h3 => by
    have e : nI (m + 1) + -1 = nI m := by
      rw [← Int32.sub_eq_add_neg]
      exact lt_sub1
    have hlt : ¬ nI m < 0 := lt_neg (by omega)
    obtain ⟨a1, a2⟩ := hr m (by omega)
    have hR' : ∀ {Z : CS}, RW (gM M U 5 Z) R := hR
    have p4 : ∀ {Z : CS}, mP (gM M U 5 Z) U 4 = some (U + 2) := fun {Z} => h.2.2.1
    have p5 : ∀ {Z : CS}, mP (gM M U 5 Z) U 5 = some (U + 3) := fun {Z} => h.2.2.2.1
    obtain ⟨Z', e1, e2, e3, e4⟩ := st_la_35 d h hR hRU hr hn m (cwi (cwi Z 3 m (Z.1 2 (kf m))) 2 (kf m) (nI m)) (by omega) (fun k hk => by
      show u2 (u2 Z.1 3 m (Z.1 2 (kf m))) 2 (kf m) (nI m) 2 k = _
      rw [show n - m = n - (m + 1) + 1 by omega]
      unfold sNext
      by_cases q : kf m = k
      · rw [if_pos q, ← q, z2_eq]
      · rw [if_neg q, z2_n2 (Ne.symm q), z2_n1 (by decide)]
        exact h2 k hk) (fun i hi1 hi2 => by
      show u2 (u2 Z.1 3 m (Z.1 2 (kf m))) 2 (kf m) (nI m) 3 i = _
      rw [z2_n1 (by decide)]
      by_cases q : i = m
      · rw [q, z2_eq]
        exact h2 _ a1
      · rw [z2_n2 q]
        exact h3 i (by omega) hi2)
    refine ⟨Z', e1, fun t ht ht' => (e2 t ht ht').trans ((z2_n1 ht).trans (z2_n1 ht')), e3, ?_⟩
    rw [e, e_X7_lookAhead_35, if_neg hlt, w_ck hR', hR'.2.1, x_rf, w_at d hR' (by omega), lt_bi_r, gIo (o := R + 1) (by omega), a2, st_ck h, p5, x_rf, st_ck h, p4, x_rf, gw_at d (by omega) h.2.2.2.2.2.2.1 a1, lt_bi_r, gw_put d (by omega) h.2.2.2.2.2.2.2.1 (by omega), lt_bv_r, st_ck h, p4, x_rf, gw_put d (by omega) h.2.2.2.2.2.2.1 a1, lt_bv_r]
    exact e4
theorem st_lookAhead (d : Nat) (h : SA M U) (hR : RW M R) (hRU : R + 3 < U ∨ U + 5 ≤ R) (hr : RKm M R kf n) (hn : n ≤ 300) (hl : mI M R 3 = nI n) : ∃ Z', (∀ i, i < n → Z'.1 3 i = nI (sNext kf (n - (i + 1)) (i + 1) (kf i))) ∧ (∀ t, t ≠ 2 → t ≠ 3 → Z'.1 t = Z.1 t) ∧ Z'.2 = Z.2 ∧ f_X7_lookAhead (d + 2) (gM M U 5 Z) U R = some (.inl none, gM M U 5 Z') := by
  obtain ⟨Z1, a1, a2, a3, a4⟩ := st_la_2 (M := M) (U := U) (R := R) (d + 1) h 26 Z (Nat.le_refl _) (fun k hk => by omega)
  obtain ⟨Z2, b1, b2, b3, b4⟩ := st_la_35 (M := M) (U := U) (R := R) (kf := kf) d h hR hRU hr hn n Z1 (Nat.le_refl _) (fun k hk => by rw [Nat.sub_self]; exact a1 k hk) (fun i hi hj => by omega)
  refine ⟨Z2, b1, fun t h2 h3 => (b2 t h2 h3).trans (a2 t h2), b3.trans a3, ?_⟩
  have hR' : RW (gM M U 5 Z1) R := hR
  rw [e_X7_lookAhead]
  refine a4.trans ?_
  rw [w_ck hR', gIo (o := R) (by omega), hl, Int32.sub_eq_add_neg]
  exact b4
/-- the play of a rule over the first requests: what the study keeps of it -/
def sAsk (kf : Nat → Nat) (n : Nat) : Nat → Int32 := fun i => nI (sNext kf (n - (i + 1)) (i + 1) (kf i))
def sPlay (rule size : Int32) (kf : Nat → Nat) (n t : Nat) : SD := sFeed rule size (sAsk kf n) kf t t (0, none, 0, fun _ => 0)
theorem sFeed_ask {ask ask' : Nat → Int32} {t : Nat} (h : ∀ i, i < t → ask i = ask' i) : ∀ (m : Nat) (s : SD), m ≤ t → sFeed rule size ask kf t m s = sFeed rule size ask' kf t m s
  | 0, s, _ => rfl
  | m + 1, s, hm => by
    have e : sRank rule ask = sRank rule ask → True := fun _ => trivial
    have e1 : sStep rule size ask (kf (t - (m + 1))) (t - (m + 1)) s = sStep rule size ask' (kf (t - (m + 1))) (t - (m + 1)) s := by
      unfold sStep sRank
      rw [h (t - (m + 1)) (by omega)]
    show sFeed rule size ask kf t m _ = sFeed rule size ask' kf t m _
    rw [e1]
    exact sFeed_ask h m _ (by omega)
theorem sFeed_r {ask ask' : Nat → Int32} {t : Nat} (hr : rule.toInt ≠ -1) : ∀ (m : Nat) (s : SD), sFeed rule size ask kf t m s = sFeed rule size ask' kf t m s
  | 0, s => rfl
  | m + 1, s => by
    have e1 : sStep rule size ask (kf (t - (m + 1))) (t - (m + 1)) s = sStep rule size ask' (kf (t - (m + 1))) (t - (m + 1)) s := by
      unfold sStep sRank
      rw [if_neg hr, if_neg hr]
    show sFeed rule size ask kf t m _ = sFeed rule size ask' kf t m _
    rw [e1]
    exact sFeed_r hr m _
/-- ranks of places behind the keys are never looked at -/
def sEq (s s' : SD) : Prop := s.1 = s'.1 ∧ s.2.1 = s'.2.1 ∧ s.2.2.1 = s'.2.2.1 ∧ ∀ k, k < 26 → s.2.2.2 k = s'.2.2.2 k
theorem lO_congr (h : ∀ k, k < 26 → r k = r' k) : lO x r = lO x r' := qFst_congr (fun _ _ => rfl) (fun i j hi hj _ _ => by rw [h i hi, h j hj]) 26 none (Nat.le_refl _) (fun j e => by cases e)
theorem sStep_eq {ask : Nat → Int32} {s' : SD} (h : sEq s s') (hk : k < 26) : sEq (sStep rule size ask k i s) (sStep rule size ask k i s') := by
  obtain ⟨h1, h2, h3, h4⟩ := h
  have ho : sOut size s k = sOut size s' k := by
    unfold sOut
    rw [h1, lO_congr h4]
  refine ⟨?_, ho, ?_, fun j hj => ?_⟩
  · show (s.1 &&& (obb (sOut size s k) ^^^ -1)) ||| bb k = (s'.1 &&& (obb (sOut size s' k) ^^^ -1)) ||| bb k
    rw [h1, ho]
  · show s.2.2.1 + (if bt s.1 k = true then 1 else 0) = s'.2.2.1 + (if bt s'.1 k = true then 1 else 0)
    rw [h1, h3]
  · show (if bt s.1 k = true ∧ rule = 2 then s.2.2.2 else u1 s.2.2.2 k (sRank rule ask s.2.2.2 k i)) j = (if bt s'.1 k = true ∧ rule = 2 then s'.2.2.2 else u1 s'.2.2.2 k (sRank rule ask s'.2.2.2 k i)) j
    rw [h1]
    by_cases q : bt s'.1 k = true ∧ rule = 2
    · rw [if_pos q, if_pos q]
      exact h4 j hj
    · rw [if_neg q, if_neg q]
      by_cases q2 : j = k
      · rw [q2, u1e, u1e]
        unfold sRank
        rw [h4 k hk]
      · rw [u1_n q2, u1_n q2]
        exact h4 j hj
theorem sFeed_eq {ask : Nat → Int32} {t : Nat} (hk : ∀ i, i < t → kf i < 26) : ∀ (m : Nat) (s s' : SD), m ≤ t → sEq s s' → sEq (sFeed rule size ask kf t m s) (sFeed rule size ask kf t m s')
  | 0, s, s', _, h => h
  | m + 1, s, s', hm, h => sFeed_eq hk m _ _ (by omega) (sStep_eq h (hk _ (by omega)))
theorem zS_of : zS Z (Z.1 0 0, b, Z.1 0 2, Z.2 1) = cwi Z 0 1 (oI b) := by
  refine Prod.ext (funext fun t => funext fun j => ?_) (funext fun t => funext fun j => ?_)
  · show u2 (u2 (u2 Z.1 0 0 (Z.1 0 0)) 0 1 (oI b)) 0 2 (Z.1 0 2) t j = u2 Z.1 0 1 (oI b) t j
    unfold u2
    by_cases q2 : t = 0 ∧ j = 2
    · rw [if_pos q2, if_neg (by omega), q2.1, q2.2]
    · rw [if_neg q2]
      by_cases q1 : t = 0 ∧ j = 1
      · rw [if_pos q1, if_pos q1]
      · rw [if_neg q1, if_neg q1]
        by_cases q0 : t = 0 ∧ j = 0
        · rw [if_pos q0, q0.1, q0.2]
        · rw [if_neg q0]
  · show u1 Z.2 1 (Z.2 1) t j = Z.2 t j
    by_cases q : t = 1
    · rw [q, u1e]
    · rw [u1_n q]
/-- what the study keeps of a play -/
def ZP (Z Z' : CS) (s : SD) : Prop := Z'.1 0 0 = s.1 ∧ Z'.1 0 1 = oI s.2.1 ∧ Z'.1 0 2 = s.2.2.1 ∧ ∀ t, t ≠ 0 → t ≠ 2 → t ≠ 3 → Z'.1 t = Z.1 t
theorem st_feed (d : Nat) (h : SA M U) (hR : RW M R) (hRU : R + 3 < U ∨ U + 5 ≤ R) (hr : RKm M R kf n) (hn : n ≤ 300) (hl : mI M R 3 = nI n) (ht : t ≤ n) : ∃ Z', ZP Z Z' (sPlay rule size kf n t) ∧ f_X7_feed (d + 4) (gM M U 5 Z) U R rule size (nI t) = some (.inl none, gM M U 5 Z') := by
  have p3 : ∀ {Z : CS}, mP (gM M U 5 Z) U 3 = some (U + 1) := fun {Z} => h.2.1
  let Z1 : CS := (u2 (u2 (u2 Z.1 0 0 0) 0 1 (-1)) 0 2 0, u1 Z.2 1 (fun j => if j < 26 then 0 else Z.2 1 j))
  have s1 : f_X7_feed (d + 4) (gM M U 5 Z) U R rule size (nI t) = if rule = -1 then lt_ck (gM M U 5 Z1) U 23 (lt_bv (f_X7_lookAhead (d + 3) (gM M U 5 Z1) U R) [] fun M6 => f_X7_feed_36 (d + 4) M6 U R rule size (nI t) 0) else f_X7_feed_36 (d + 4) (gM M U 5 Z1) U R rule size (nI t) 0 := by
    have ef : ∀ {Z : CS}, f_J7_fill_d0a16 (d + 3) (gM M U 5 Z) (U + 1) 0 = some (.inl none, gM M U 5 (Z.1, u1 Z.2 1 (fun j => if j < 26 then 0 else Z.2 1 j))) := fun {Z} => by
      rw [j_fillL (M := gM M U 5 Z) (d + 2) h.2.2.2.2.2.1, g_rL (by omega), gL (by omega)]
    rw [e_X7_feed, st_ck h, gwI0 (by omega), x_m, st_ck h, gwI0 (by omega), x_m, st_ck h, gwI0 (by omega), x_m, st_ck h, p3, x_rf, ef, lt_bv_r]
    rfl
  have z1 : Z1 = zS Z (0, none, 0, fun j => if j < 26 then 0 else Z.2 1 j) := rfl
  have fin : ∀ (Z2 : CS), sEq (sFeed rule size (Z2.1 3) kf t t (0, none, 0, fun j => if j < 26 then 0 else Z.2 1 j)) (sPlay rule size kf n t) → (∀ t, t ≠ 0 → t ≠ 2 → t ≠ 3 → Z2.1 t = Z.1 t) → ∃ Z', ZP Z Z' (sPlay rule size kf n t) ∧ f_X7_feed_36 (d + 4) (gM M U 5 (zS Z2 (0, none, 0, fun j => if j < 26 then 0 else Z.2 1 j))) U R rule size (nI t) 0 = some (.inl none, gM M U 5 Z') := fun Z2 he hz => by
    have e := st_feed_36 (M := M) (U := U) (R := R) (Z := Z2) (rule := rule) (size := size) (kf := kf) (d + 1) h hR hRU hr hn ht t (0, none, 0, fun j => if j < 26 then 0 else Z.2 1 j) (Nat.le_refl _)
    rw [Nat.sub_self] at e
    refine ⟨_, ⟨?_, ?_, ?_, fun t h0 h2 h3 => ?_⟩, e⟩
    · rw [zS_0]; exact he.1
    · rw [zS_1, he.2.1]
    · rw [zS_2]; exact he.2.2.1
    · rw [zS_t h0]; exact hz t h0 h2 h3
  have hk : ∀ i, i < t → kf i < 26 := fun i hi => (hr i (by omega)).1
  have e0 : sEq (0, none, 0, fun j => if j < 26 then 0 else Z.2 1 j) (0, none, 0, fun _ => 0) := ⟨rfl, rfl, rfl, fun k hk => if_pos hk⟩
  rw [s1]
  by_cases q : rule = -1
  · obtain ⟨Z2, a1, a2, a3, a4⟩ := st_lookAhead (M := M) (U := U) (R := R) (kf := kf) (Z := Z1) (d + 1) h hR hRU hr hn hl
    have e2 : Z2 = zS Z2 (0, none, 0, fun j => if j < 26 then 0 else Z.2 1 j) := by
      have b0 : Z2.1 0 = Z1.1 0 := a2 0 (by decide) (by decide)
      have c0 : Z1.1 0 0 = 0 := by rw [z1, zS_0]
      have c1 : Z1.1 0 1 = -1 := by rw [z1, zS_1]; rfl
      have c2 : Z1.1 0 2 = 0 := by rw [z1, zS_2]
      have c3 : Z2.2 1 = fun j => if j < 26 then 0 else Z.2 1 j := by rw [a3, z1, zS_r]
      have := zS_of (Z := Z2) (b := none)
      rw [b0, c0, c2, c3] at this
      rw [this]
      refine Prod.ext (funext fun t => funext fun j => ?_) rfl
      show Z2.1 t j = u2 Z2.1 0 1 (-1) t j
      unfold u2
      by_cases q1 : t = 0 ∧ j = 1
      · rw [if_pos q1, q1.1, q1.2, b0, c1]
      · rw [if_neg q1]
    rw [if_pos q, st_ck h, a4, lt_bv_r, e2]
    refine fin Z2 ?_ (fun t h0 h2 h3 => by rw [a2 t h2 h3, z1, zS_t h0])
    rw [sFeed_ask (ask' := sAsk kf n) (fun i hi => a1 i (by omega)) t _ (Nat.le_refl _)]
    exact sFeed_eq hk t _ _ (Nat.le_refl _) e0
  · have hr1 : rule.toInt ≠ -1 := fun e => q (Int32.toInt_inj.mp (by rw [e]; rfl))
    rw [if_neg q, z1]
    refine fin Z ?_ (fun t h0 h2 h3 => rfl)
    rw [sFeed_r (ask' := sAsk kf n) hr1]
    exact sFeed_eq hk t _ _ (Nat.le_refl _) e0
theorem st_hitsBy (d : Nat) (h : SA M U) (hR : RW M R) (hRU : R + 3 < U ∨ U + 5 ≤ R) (hr : RKm M R kf n) (hn : n ≤ 300) (hl : mI M R 3 = nI n) : ∃ Z', ZP Z Z' (sPlay rule size kf n n) ∧ f_X7_hitsBy (d + 5) (gM M U 5 Z) U R rule size = some (.inl (some (.int (sPlay rule size kf n n).2.2.1)), gM M U 5 Z') := by
  obtain ⟨Z', a, e⟩ := st_feed (M := M) (U := U) (R := R) (Z := Z) (rule := rule) (size := size) (kf := kf) (t := n) d h hR hRU hr hn hl (Nat.le_refl _)
  have hR' : RW (gM M U 5 Z) R := hR
  refine ⟨Z', a, ?_⟩
  rw [e_X7_hitsBy, w_ck hR', st_ck h, gIo (o := R) (by omega), hl, e, lt_bv_r, st_ck h, gI0 (by omega), a.2.2.1]
end Cy
