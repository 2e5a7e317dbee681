/-! THE LAW: the fewest misses, by all sets that can be held -/
def fOK (sz : Nat) (kf : Nat → Nat) (n t y b : Nat) : Prop := b ≤ 1000 ∧ (b = 1000 ∨ (b ≤ t ∧ ∀ c, bP sz kf (n - t) t (bt (nI y)) c → bP sz kf n 0 (fun _ => false) (b + c)))
def fVal (sz : Nat) (kf : Nat → Nat) (n L t : Nat) (B : Nat → Int32) : Prop := ∀ y, y < L → ∃ b, B y = nI b ∧ fOK sz kf n t y b
def fLE (B : Nat → Int32) (y v : Nat) : Prop := ∃ b, B y = nI b ∧ b ≤ v
def fMo (L : Nat) (B B' : Nat → Int32) : Prop := ∀ y, y < L → ∀ v, fLE B y v → fLE B' y v
def fCB (sz ky L x : Nat) (A B : Nat → Int32) (s : Nat) : Prop := ∀ a, A s = nI a → a < 1000 → (bt (nI s) x = true → fLE B s a) ∧ (bt (nI s) x = false → nK (bt (nI s)) 26 < sz → ∀ y, y < L → nI y = nI s ||| bb x → fLE B y (a + 1)) ∧ (bt (nI s) x = false → ¬ nK (bt (nI s)) 26 < sz → ∀ o, o < ky → bt (nI s) o = true → ∀ y, y < L → nI y = (nI s ||| bb x) ^^^ bb o → fLE B y (a + 1))
def fCmp (sz : Nat) (kf : Nat → Nat) (n L t : Nat) (A : Nat → Int32) : Prop := ∀ c, bP sz kf n 0 (fun _ => false) c → ∃ s b1 b2, s < L ∧ bP sz kf (n - t) t (bt (nI s)) b2 ∧ b1 + b2 ≤ c ∧ fLE A s b1 ∧ b1 ≤ t
section Dc
variable {M M' M1 N : LM} {D i j k t w f n c e r a o m s y c' s' ky sz L p1 p2 : Nat} {x v b1 b2 : Int32} {z : Option (LO × LM)} {b : Bool} {T T' T2 : BT} {R : Nat → BT} {P Q : Nat → Prop} {g A B B' : Nat → Int32} {kf : Nat → Nat} {set : Int32}
theorem bb_2 : ∀ k, k < 26 → bb k = nI (2 ^ k) := by decide +kernel
theorem bt_ge (h : s < 2 ^ ky) (hi : ky ≤ i) : bt (nI s) i = false := by
  have h1 : s < 2 ^ i := Nat.lt_of_lt_of_le h (Nat.pow_le_pow_right (by omega) hi)
  show (BitVec.ofNat 32 s).getLsbD i = false
  rw [BitVec.getLsbD_ofNat, Nat.testBit_lt_two_pow h1, Bool.and_false]
theorem set_ix (hk : ky ≤ 26) (h : ∀ i, i < 32 → ky ≤ i → bt x i = false) : ∃ s, s < 2 ^ ky ∧ x = nI s := by
  refine ⟨x.toBitVec.toNat, Nat.lt_pow_two_of_testBit _ (fun i hi => ?_), ?_⟩
  · by_cases q : i < 32
    · exact h i q hi
    · exact b_big (x := x) (by omega)
  · rw [← Int32.toBitVec_inj]
    show x.toBitVec = BitVec.ofNat 32 x.toBitVec.toNat
    rw [BitVec.ofNat_toNat, BitVec.setWidth_eq]
theorem KS_ix (h : s < 2 ^ ky) (hk : ky ≤ 26) : KS (nI s) := fun k hk' => bt_ge h (by omega)
theorem or_ix (h : s < 2 ^ ky) (hk : ky ≤ 26) (hx : k < ky) : ∃ y, y < 2 ^ ky ∧ nI s ||| bb k = nI y := set_ix hk (fun i hi hi2 => by rw [b_or, bt_ge h hi2, bt_bb (by omega) hi, decide_eq_false (show ¬ i = k by omega)]; rfl)
theorem xor_ix (h : s < 2 ^ ky) (hk : ky ≤ 26) (hx : k < ky) (ho : o < ky) : ∃ y, y < 2 ^ ky ∧ (nI s ||| bb k) ^^^ bb o = nI y := set_ix hk (fun i hi hi2 => by rw [b_xor, b_or, bt_ge h hi2, bt_bb (by omega) hi, bt_bb (by omega) hi, decide_eq_false (show ¬ i = k by omega), decide_eq_false (show ¬ i = o by omega)]; rfl)
theorem or_fn (h : s < 2 ^ ky) (hk : ky ≤ 26) (hx : k < ky) (e : nI y = nI s ||| bb k) : bt (nI y) = sAd (bt (nI s)) k := by
  rw [e]; exact bt_ad (KS_ix h hk) (by omega)
theorem xor_fn (h : s < 2 ^ ky) (hk : ky ≤ 26) (hx : k < ky) (ho : o < ky) (hs : bt (nI s) k = false) (hb : bt (nI s) o = true) (e : nI y = (nI s ||| bb k) ^^^ bb o) : bt (nI y) = sSw (bt (nI s)) o k := funext fun i => by
  have hok : o ≠ k := fun q => by rw [q, hs] at hb; cases hb
  by_cases hi : i < 32
  · rw [e, b_xor, b_or, bt_bb (by omega) hi, bt_bb (by omega) hi]
    unfold sSw
    by_cases q1 : i = o
    · rw [q1, hb, decide_eq_true (rfl : o = o), decide_eq_false hok]; rfl
    · rw [decide_eq_false q1, Bool.not_false, Bool.and_true, Bool.xor_false]
  · rw [b_big (by omega)]
    unfold sSw
    rw [b_big (by omega), decide_eq_false (show ¬ i = k by omega)]
    rfl
theorem fMo.tr {B2 : Nat → Int32} (h : fMo L B B') (g : fMo L B' B2) : fMo L B B2 := fun y hy v q => g y hy v (h y hy v q)
theorem fCB_mo {x : Nat} (hL : L = 2 ^ ky) (hs : s < L) (h : fCB sz ky L x A B s) (g : fMo L B B') : fCB sz ky L x A B' s := fun a ha h1 => by
  obtain ⟨q1, q2, q3⟩ := h a ha h1
  exact ⟨fun e => g s hs _ (q1 e), fun e1 e2 y hy e => g y hy _ (q2 e1 e2 y hy e), fun e1 e2 o ho e3 y hy e => g y hy _ (q3 e1 e2 o ho e3 y hy e)⟩
/-- a place gets the lesser -/
theorem f_upd (hV : fVal sz kf n L t B) (hy : y < L) (h1 : fOK sz kf n t y a) : fVal sz kf n L t (fun j => if j = y then (if nI a < B y then nI a else B y) else B j) ∧ fMo L B (fun j => if j = y then (if nI a < B y then nI a else B y) else B j) ∧ fLE (fun j => if j = y then (if nI a < B y then nI a else B y) else B j) y a := by
  obtain ⟨b, e, h2⟩ := hV y hy
  have hb := h2.1
  have ha := h1.1
  have key : ∃ r, (if nI a < B y then nI a else B y) = nI r ∧ r ≤ a ∧ r ≤ b ∧ fOK sz kf n t y r := by
    rw [e]
    by_cases q : nI a < nI b
    · rw [if_pos q]
      rw [nI_ltP (by omega) (by omega)] at q
      exact ⟨a, rfl, Nat.le_refl _, by omega, h1⟩
    · rw [if_neg q]
      rw [nI_ltP (by omega) (by omega)] at q
      exact ⟨b, rfl, by omega, Nat.le_refl _, h2⟩
  obtain ⟨r, er, r1, r2, r3⟩ := key
  refine ⟨fun y' hy' => ?_, fun y' hy' v hv => ?_, ⟨r, (if_pos rfl).trans er, r1⟩⟩
  · by_cases q : y' = y
    · exact ⟨r, (if_pos q).trans er, by rw [q]; exact r3⟩
    · obtain ⟨b', e', h'⟩ := hV y' hy'
      exact ⟨b', (if_neg q).trans e', h'⟩
  · by_cases q : y' = y
    · obtain ⟨b', e', h'⟩ := hv
      refine ⟨r, (if_pos q).trans er, ?_⟩
      rw [q, e] at e'
      have hb' : b' = b ∨ v ≥ 1000 := by
        by_cases z : v < 1000
        · exact Or.inl ((lt_iE (by omega) (by omega)).mp e'.symm)
        · exact Or.inr (by omega)
      omega
    · obtain ⟨b', e', h'⟩ := hv
      exact ⟨b', (if_neg q).trans e', h'⟩
theorem ok_hit (ht : t < n) (h : fOK sz kf n t s a) (hx : bt (nI s) (kf t) = true) : fOK sz kf n (t + 1) s a := ⟨h.1, by
  rcases h.2 with q | ⟨q1, q2⟩
  · exact Or.inl q
  · refine Or.inr ⟨by omega, fun c hc => q2 c ?_⟩
    rw [show n - t = n - (t + 1) + 1 by omega]
    exact Or.inl ⟨hx, hc⟩⟩
theorem ok_add (ht : t < n) (ha : a ≠ 1000) (h : fOK sz kf n t s a) (hx : bt (nI s) (kf t) = false) (hc : nK (bt (nI s)) 26 < sz) (e : bt (nI y) = sAd (bt (nI s)) (kf t)) (hn : n ≤ 300) : fOK sz kf n (t + 1) y (a + 1) := by
  rcases h.2 with q | ⟨q1, q2⟩
  · exact absurd q ha
  · refine ⟨by omega, Or.inr ⟨by omega, fun c hcc => ?_⟩⟩
    rw [show a + 1 + c = a + (c + 1) by omega]
    refine q2 (c + 1) ?_
    rw [show n - t = n - (t + 1) + 1 by omega]
    rw [e] at hcc
    exact Or.inr ⟨hx, c, rfl, Or.inl ⟨hc, hcc⟩⟩
theorem ok_swp (ht : t < n) (ha : a ≠ 1000) (h : fOK sz kf n t s a) (hx : bt (nI s) (kf t) = false) (hc : ¬ nK (bt (nI s)) 26 < sz) (ho : o < 26) (hso : bt (nI s) o = true) (e : bt (nI y) = sSw (bt (nI s)) o (kf t)) (hn : n ≤ 300) : fOK sz kf n (t + 1) y (a + 1) := by
  rcases h.2 with q | ⟨q1, q2⟩
  · exact absurd q ha
  · refine ⟨by omega, Or.inr ⟨by omega, fun c hcc => ?_⟩⟩
    rw [show a + 1 + c = a + (c + 1) by omega]
    refine q2 (c + 1) ?_
    rw [show n - t = n - (t + 1) + 1 by omega]
    rw [e] at hcc
    exact Or.inr ⟨hx, c, rfl, Or.inr ⟨hc, o, ho, hso, hcc⟩⟩
theorem cmp_step (hk : ky ≤ 26) (hL : L = 2 ^ ky) (ht : t < n) (hn : n ≤ 300) (hx : kf t < ky) (h : fCmp sz kf n L t A) (hV : fVal sz kf n L t A) (hB : ∀ s, s < L → fCB sz ky L (kf t) A B s) : fCmp sz kf n L (t + 1) B := fun c hc => by
  obtain ⟨s, b1, b2, hs, hp, hle, ⟨a, ea, ha⟩, hb1⟩ := h c hc
  rw [show n - t = n - (t + 1) + 1 by omega] at hp
  have hs' : s < 2 ^ ky := by omega
  obtain ⟨c1, c2, c3⟩ := hB s hs a ea (by omega)
  rcases hp with ⟨p1, p2⟩ | ⟨p1, c', ec, ⟨p2, p3⟩ | ⟨p2, o, p3, p4, p5⟩⟩
  · obtain ⟨b, e, hb⟩ := c1 p1
    exact ⟨s, b1, b2, hs, p2, hle, ⟨b, e, by omega⟩, by omega⟩
  · obtain ⟨y, hy, ey⟩ := or_ix hs' hk hx
    obtain ⟨b, e, hb⟩ := c2 p1 p2 y (by omega) ey.symm
    exact ⟨y, b1 + 1, c', by omega, by rw [or_fn hs' hk hx ey.symm]; exact p3, by omega, ⟨b, e, by omega⟩, by omega⟩
  · have ho : o < ky := by
      by_cases q : o < ky
      · exact q
      · rw [bt_ge hs' (by omega)] at p4; cases p4
    obtain ⟨y, hy, ey⟩ := xor_ix hs' hk hx ho
    obtain ⟨b, e, hb⟩ := c3 p1 p2 o ho p4 y (by omega) ey.symm
    exact ⟨y, b1 + 1, c', by omega, by rw [xor_fn hs' hk hx ho p1 p4 ey.symm]; exact p5, by omega, ⟨b, e, by omega⟩, by omega⟩
/-! ### the loops -/
def fST (M : LM) (T : BT) (R : Nat → BT) (c o p1 p2 n L : Nat) (kf : Nat → Nat) (A B : Nat → Int32) : Prop := LW M T R c ∧ AR M o n (kfG kf) ∧ AR M p1 L A ∧ AR M p2 L B ∧ p1 ≠ p2 ∧ o ≠ p1 ∧ o ≠ p2
theorem fST_w (h : fST M T R c o p1 p2 n L kf A B) : fST (wI M p2 i x) T R c o p1 p2 n L kf A (fun j => if j = i then x else B j) ∧ FX (fun a => a = p2) 0 0 M (wI M p2 i x) := by
  obtain ⟨h1, h2, h3, h4, h5, h6, h7⟩ := h
  have f : FX (fun a => a = p2) 0 0 M (wI M p2 i x) := FX_wI (P := fun a => a = p2) rfl
  exact ⟨⟨LW_wI h1 h4.own, h2.kp f h7, h3.kp f h5, h4.wr, h5, h6, h7⟩, f⟩
theorem bit_at {x : Int32} (hk : k < 32) : ((x >>> (nI k &&& 31)) &&& 1 = 1) ↔ bt x k = true := by
  have h0 : bt ((x >>> (nI k &&& 31)) &&& 1) 0 = bt x k := by
    rw [b_and, b_sshr k hk x (by omega), bt_1]
    simp [hk]
  constructor
  · intro h
    rw [h, bt_1] at h0
    exact h0.symm.trans rfl
  · intro h
    apply b_ext
    intro i hi
    by_cases h1 : i = 0
    · rw [h1, h0, h]; rfl
    · rw [b_and, bt_1, decide_eq_false h1, Bool.and_false]
theorem fm_179 (d : Nat) {q7 : Int32} (hk : ky ≤ 26) (hL : L = 2 ^ ky) (ht : t < n) (hn : n ≤ 300) (hx : kf t < ky) (hs : s < L) (ea : A s = nI a) (hok : fOK sz kf n t s a) (ha : a ≠ 1000) (hb : bt (nI s) (kf t) = false) (hc : ¬ nK (bt (nI s)) 26 < sz) : ∀ (m k : Nat) (M : LM) (B : Nat → Int32), k + m = ky → fST M T R c o p1 p2 n L kf A B → fVal sz kf n L (t + 1) B →
    ∃ M' B', f_L_fewestMisses_179 (d + 2) M (nI ky) (nI sz) p1 p2 o (nI n) q7 (nI (kf t)) (nI s) (nI s ||| bb (kf t)) (nI k) = f_L_fewestMisses_89 (d + 2) M' (nI ky) (nI sz) p1 p2 o (nI n) q7 (nI (kf t)) (nI s + 1) ∧ fST M' T R c o p1 p2 n L kf A B' ∧ fVal sz kf n L (t + 1) B' ∧ fMo L B B' ∧ FX (fun a => a = p2) 0 0 M M' ∧ ∀ u, k ≤ u → u < ky → bt (nI s) u = true → ∀ y, y < L → nI y = (nI s ||| bb (kf t)) ^^^ bb u → fLE B' y (a + 1)
  | 0, k, M, B, hkm, hS, hV => ⟨M, B, by rw [e_L_fewestMisses_179, if_neg (by rw [nI_ltP (by omega) (by omega)]; omega)], hS, hV, fun _ _ _ q => q, FX.rf, fun u h1 h2 => by omega⟩
  | m + 1, k, M, B, hkm, hS, hV => by
    have hs' : s < 2 ^ ky := by omega
    have hL2 : L < 2147483648 := by rw [hL]; exact Nat.lt_of_le_of_lt (Nat.pow_le_pow_right (by omega) hk) (by decide)
    have hs26 : s < 2 ^ 26 := Nat.lt_of_lt_of_le hs' (Nat.pow_le_pow_right (by omega) hk)
    have eb : (1 : Int32) <<< (nI k &&& 31) = bb k := rfl
    rw [e_L_fewestMisses_179, if_pos (by rw [nI_ltP (by omega) (by omega)]; omega), nI_p1, eb]
    by_cases q : bt (nI s) k = true
    · obtain ⟨y, hy, ey⟩ := xor_ix hs' hk hx (show k < ky by omega)
      have hyL : y < L := by omega
      have hok2 : fOK sz kf n (t + 1) y (a + 1) := ok_swp ht ha hok hb hc (show k < 26 by omega) q (xor_fn hs' hk hx (by omega) hb q ey.symm) hn
      obtain ⟨u1, u2, u3⟩ := f_upd hV hyL hok2
      have hS0 := hS
      obtain ⟨h1, h2, h3, h4, h5, h6, h7⟩ := hS0
      obtain ⟨w1, w2⟩ := fST_w (i := y) (x := if nI (a + 1) < B y then nI (a + 1) else B y) hS
      obtain ⟨M', B', e1, e2, e3, e4, e5, e6⟩ := fm_179 d (q7 := q7) hk hL ht hn hx hs ea hok ha hb hc m (k + 1) _ _ (by omega) w1 u1
      refine ⟨M', B', ?_, e2, e3, u2.tr e4, w2.tr e5, fun u g1 g2 g3 y' hy' g4 => ?_⟩
      · rw [if_pos ((bit_at (x := nI s) (show k < 32 by omega)).mpr q), ey, h4.ar hyL, h3.ar hs, h3.rd hs, ea, nI_p1, h4.rd hyL, j_min, lt_bi_r, h4.ar hyL, x_m, lt_iN (by omega)]
        exact e1
      · by_cases z : u = k
        · rw [z, ey] at g4
          have : y' = y := (lt_iE (by omega) (by omega)).mp g4
          rw [this]
          exact e4 y hyL _ u3
        · exact e6 u (by omega) g2 g3 y' hy' g4
    · rw [if_neg (fun z => q ((bit_at (x := nI s) (show k < 32 by omega)).mp z))]
      obtain ⟨M', B', e1, e2, e3, e4, e5, e6⟩ := fm_179 d (q7 := q7) hk hL ht hn hx hs ea hok ha hb hc m (k + 1) M B (by omega) hS hV
      refine ⟨M', B', e1, e2, e3, e4, e5, fun u g1 g2 g3 y' hy' g4 => ?_⟩
      by_cases z : u = k
      · rw [z] at g3; exact absurd g3 q
      · exact e6 u (by omega) g2 g3 y' hy' g4
theorem fm_89 (d : Nat) {q7 : Int32} (hk : ky ≤ 26) (hL : L = 2 ^ ky) (ht : t < n) (hn : n ≤ 300) (hx : kf t < ky) (hsz : sz < 1000) (hA : fVal sz kf n L t A) : ∀ (m s : Nat) (M : LM) (B : Nat → Int32), s + m = L → fST M T R c o p1 p2 n L kf A B → fVal sz kf n L (t + 1) B → (∀ u, u < s → fCB sz ky L (kf t) A B u) →
    ∃ M' B', f_L_fewestMisses_89 (d + 2) M (nI ky) (nI sz) p1 p2 o (nI n) q7 (nI (kf t)) (nI s) = f_L_fewestMisses_47 (d + 2) M' (nI ky) (nI sz) p2 p1 o (nI n) (q7 + 1) ∧ fST M' T R c o p1 p2 n L kf A B' ∧ fVal sz kf n L (t + 1) B' ∧ FX (fun a => a = p2) 0 0 M M' ∧ ∀ u, u < L → fCB sz ky L (kf t) A B' u
  | 0, s, M, B, hsm, hS, hV, hC => by
    have hL2 : L < 2147483648 := by rw [hL]; exact Nat.lt_of_le_of_lt (Nat.pow_le_pow_right (by omega) hk) (by decide)
    have h3 := hS.2.2.1
    exact ⟨M, B, by rw [e_L_fewestMisses_89, h3.al, h3.zz, if_neg (by rw [nI_ltP (by omega) (by omega)]; omega)], hS, hV, FX.rf, fun u hu => hC u (by omega)⟩
  | m + 1, s, M, B, hsm, hS, hV, hC => by
    have hL2 : L < 2147483648 := by rw [hL]; exact Nat.lt_of_le_of_lt (Nat.pow_le_pow_right (by omega) hk) (by decide)
    have hs : s < L := by omega
    have hs' : s < 2 ^ ky := by omega
    obtain ⟨h1, h2, h3, h4, h5, h6, h7⟩ := id hS
    obtain ⟨a, ea, hok⟩ := hA s hs
    have eb : (1 : Int32) <<< (nI (kf t) &&& 31) = bb (kf t) := rfl
    have hKS := KS_ix hs' hk
    rw [e_L_fewestMisses_89, h3.al, h3.zz, if_pos (by rw [nI_ltP (by omega) (by omega)]; omega), h3.ar hs, h3.rd hs, ea, eb]
    -- goes on behind this set
    have go : ∀ (M2 : LM) (B2 : Nat → Int32), fST M2 T R c o p1 p2 n L kf A B2 → fVal sz kf n L (t + 1) B2 → fMo L B B2 → FX (fun a => a = p2) 0 0 M M2 → fCB sz ky L (kf t) A B2 s → ∃ M' B', f_L_fewestMisses_89 (d + 2) M2 (nI ky) (nI sz) p1 p2 o (nI n) q7 (nI (kf t)) (nI s + 1) = f_L_fewestMisses_47 (d + 2) M' (nI ky) (nI sz) p2 p1 o (nI n) (q7 + 1) ∧ fST M' T R c o p1 p2 n L kf A B' ∧ fVal sz kf n L (t + 1) B' ∧ FX (fun a => a = p2) 0 0 M M' ∧ ∀ u, u < L → fCB sz ky L (kf t) A B' u := by
      intro M2 B2 g1 g2 g3 g4 g5
      obtain ⟨M', B', e1, e2, e3, e4, e5⟩ := fm_89 d (q7 := q7) hk hL ht hn hx hsz hA m (s + 1) M2 B2 (by omega) g1 g2 (fun u hu => by
        by_cases z : u = s
        · rw [z]; exact g5
        · exact fCB_mo hL (by omega) (hC u (by omega)) g3)
      exact ⟨M', B', by rw [nI_p1]; exact e1, e2, e3, g4.tr e4, e5⟩
    by_cases q0 : a = 1000
    · rw [if_pos (by rw [q0]; rfl)]
      exact go M B hS hV (fun _ _ _ q => q) FX.rf (fun a' ha' h => by
        rw [ea] at ha'
        have := (lt_iE (by omega) (by omega)).mp ha'
        omega)
    · have ha := hok.1
      have ua : ∀ a', A s = nI a' → a' < 1000 → a' = a := fun a' e h => by
        rw [ea] at e
        exact ((lt_iE (by omega) (by omega)).mp e).symm
      rw [if_neg (show ¬ nI a = 1000 from fun e => q0 ((lt_iE (j := a) (k := 1000) (by omega) (by omega)).mp e))]
      by_cases q1 : bt (nI s) (kf t) = true
      · have e1 : nI s ||| bb (kf t) = nI s := b_ext fun i hi => by
          rw [b_or, bt_bb (by omega) hi]
          by_cases z : i = kf t
          · rw [z, q1]; rfl
          · rw [decide_eq_false z, Bool.or_false]
        obtain ⟨u1, u2, u3⟩ := f_upd hV hs (ok_hit ht hok q1)
        obtain ⟨w1, w2⟩ := fST_w (i := s) (x := if nI a < B s then nI a else B s) hS
        rw [if_pos e1, h4.ar hs, h3.ar hs, h4.rd hs, j_min, lt_bi_r, h4.ar hs, x_m, lt_iN (by omega)]
        exact go _ _ w1 u1 u2 w2 (fun a' e h => by
          rw [ua a' e h]
          exact ⟨fun _ => u3, (fun e => by rw [q1] at e; cases e), (fun e => by rw [q1] at e; cases e)⟩)
      · have q1' : bt (nI s) (kf t) = false := by simpa using q1
        have e1 : ¬ (nI s ||| bb (kf t)) = nI s := fun e => by
          have : bt (nI s ||| bb (kf t)) (kf t) = true := by rw [b_or, bt_bb (by omega) (by omega), decide_eq_true rfl, Bool.or_true]
          rw [e, q1'] at this; cases this
        rw [if_neg e1, c_pop, lt_bi_r]
        by_cases q2 : nK (bt (nI s)) 26 < sz
        · obtain ⟨y, hy, ey⟩ := or_ix hs' hk hx
          have hyL : y < L := by omega
          obtain ⟨u1, u2, u3⟩ := f_upd hV hyL (ok_add ht q0 hok q1' q2 (or_fn hs' hk hx ey.symm) hn)
          obtain ⟨w1, w2⟩ := fST_w (i := y) (x := if nI (a + 1) < B y then nI (a + 1) else B y) hS
          rw [if_pos ((ss_pop (s := (nI s, none, 0, fun _ => 0)) hKS hsz).mpr q2), ey, h4.ar hyL, h3.ar hs, h4.rd hyL, h3.rd hs, ea, nI_p1 (a := a), j_min, lt_bi_r, h4.ar hyL, x_m, lt_iN (by omega)]
          exact go _ _ w1 u1 u2 w2 (fun a' e h => by
            rw [ua a' e h]
            refine ⟨(fun e => by rw [q1'] at e; cases e), fun _ _ y' hy' e' => ?_, fun _ e => absurd q2 e⟩
            rw [ey] at e'
            rw [(lt_iE (by omega) (by omega)).mp e']
            exact u3)
        · obtain ⟨M2, B2, v1, v2, v3, v4, v5, v6⟩ := fm_179 d (q7 := q7) hk hL ht hn hx hs ea hok q0 q1' q2 ky 0 M B (by omega) hS hV
          have v1' : f_L_fewestMisses_179 (d + 2) M (nI ky) (nI sz) p1 p2 o (nI n) q7 (nI (kf t)) (nI s) (nI s ||| bb (kf t)) 0 = _ := v1
          rw [if_neg (fun e => q2 ((ss_pop (s := (nI s, none, 0, fun _ => 0)) hKS hsz).mp e)), v1']
          exact go _ _ v2 v3 v4 v5 (fun a' e h => by
            rw [ua a' e h]
            exact ⟨(fun e => by rw [q1'] at e; cases e), fun _ e => absurd e q2, fun _ _ u hu g y' hy' e' => v6 u (by omega) hu g y' hy' e'⟩)
theorem fm_64 (d : Nat) {q7 q8 : Int32} (hL2 : L < 2147483648) : ∀ (m i : Nat) (M : LM) (B : Nat → Int32), i + m = L → fST M T R c o p1 p2 n L kf A B → (∀ j, j < i → B j = 1000) →
    ∃ M' B', f_L_fewestMisses_64 (d + 2) M (nI ky) (nI sz) p1 p2 o (nI n) q7 q8 (nI i) = f_L_fewestMisses_89 (d + 2) M' (nI ky) (nI sz) p1 p2 o (nI n) q7 q8 0 ∧ fST M' T R c o p1 p2 n L kf A B' ∧ FX (fun a => a = p2) 0 0 M M' ∧ ∀ j, j < L → B' j = 1000
  | 0, i, M, B, hi, hS, hB => by
    have h4 := hS.2.2.2.1
    exact ⟨M, B, by rw [e_L_fewestMisses_64, h4.al, h4.zz, if_neg (by rw [nI_ltP (by omega) (by omega)]; omega)], hS, FX.rf, fun j hj => hB j (by omega)⟩
  | m + 1, i, M, B, hi, hS, hB => by
    have h4 := hS.2.2.2.1
    obtain ⟨w1, w2⟩ := fST_w (i := i) (x := 1000) hS
    obtain ⟨M', B', e1, e2, e3, e4⟩ := fm_64 d (q7 := q7) (q8 := q8) hL2 m (i + 1) _ _ (by omega) w1 (fun j hj => by
      by_cases z : j = i
      · rw [if_pos z]
      · rw [if_neg z]; exact hB j (by omega))
    refine ⟨M', B', ?_, e2, w2.tr e3, e4⟩
    rw [e_L_fewestMisses_64, h4.al, h4.zz, if_pos (by rw [nI_ltP (by omega) (by omega)]; omega), h4.ar (by omega), x_m, lt_iN (by omega), nI_p1]
    exact e1
theorem fm_269 (d : Nat) (hL2 : L < 2147483648) (hA : AR M o L A) (hv : ∀ s, s < L → ∃ a, A s = nI a ∧ a ≤ 1000) : ∀ (m i p : Nat), i + m = L → p ≤ 1000 → ∃ r, f_L_fewestMisses_269 (d + 2) M (nI p) o (nI L) (nI i) = some (.inl (some (.int (nI r))), M) ∧ r ≤ p ∧ (r = p ∨ ∃ s, s < L ∧ A s = nI r) ∧ ∀ s, i ≤ s → s < L → ∀ a, a ≤ 1000 → A s = nI a → r ≤ a
  | 0, i, p, hi, hp => ⟨p, by rw [e_L_fewestMisses_269, if_neg (by rw [nI_ltP (by omega) (by omega)]; omega)], Nat.le_refl _, Or.inl rfl, fun s h1 h2 => by omega⟩
  | m + 1, i, p, hi, hp => by
    obtain ⟨a, ea, ha⟩ := hv i (by omega)
    have key : ∃ p', (if nI a < nI p then nI a else nI p) = nI p' ∧ p' ≤ a ∧ p' ≤ p ∧ (p' = p ∨ p' = a) := by
      have hlt : (nI a < nI p) = (a < p) := nI_ltP (by omega) (by omega)
      by_cases q : a < p
      · exact ⟨a, if_pos (by rw [hlt]; exact q), by omega, by omega, Or.inr rfl⟩
      · exact ⟨p, if_neg (by rw [hlt]; exact q), by omega, by omega, Or.inl rfl⟩
    obtain ⟨p', ep, h1, h2, h3⟩ := key
    obtain ⟨r, e1, e2, e3, e4⟩ := fm_269 d hL2 hA hv m (i + 1) p' (by omega) (by omega)
    refine ⟨r, ?_, by omega, ?_, fun s g1 g2 b hb g3 => ?_⟩
    · rw [e_L_fewestMisses_269, if_pos (by rw [nI_ltP (by omega) (by omega)]; omega), hA.ar (by omega), hA.rd (by omega), ea, j_min, lt_bi_r, ep, nI_p1]
      exact e1
    · rcases e3 with e3 | e3
      · rcases h3 with h3 | h3
        · exact Or.inl (by omega)
        · exact Or.inr ⟨i, by omega, by rw [e3, h3]; exact ea⟩
      · exact Or.inr e3
    · by_cases z : s = i
      · rw [z, ea] at g3
        have := (lt_iE (by omega) (by omega)).mp g3
        omega
      · exact e4 s (by omega) g2 b hb g3
theorem fm_47 (d : Nat) (hk : ky ≤ 26) (hL : L = 2 ^ ky) (hn : n ≤ 300) (hsz : sz < 1000) (hkf : ∀ i, i < n → kf i < ky) (hex : ∃ c0, c0 ≤ n ∧ bP sz kf n 0 (fun _ => false) c0) : ∀ (m t : Nat) (M : LM) (p1 p2 : Nat) (A B : Nat → Int32), t + m = n → fST M T R c o p1 p2 n L kf A B → fVal sz kf n L t A → fCmp sz kf n L t A →
    ∃ M' r, f_L_fewestMisses_47 (d + 2) M (nI ky) (nI sz) p1 p2 o (nI n) (nI t) = some (.inl (some (.int (nI r))), M') ∧ LW M' T R c ∧ FX (fun a => a = p1 ∨ a = p2) 0 0 M M' ∧ r ≤ n ∧ bP sz kf n 0 (fun _ => false) r ∧ ∀ c0, bP sz kf n 0 (fun _ => false) c0 → r ≤ c0
  | 0, t, M, p1, p2, A, B, htm, hS, hV, hC => by
    have hL2 : L < 2147483648 := by rw [hL]; exact Nat.lt_of_le_of_lt (Nat.pow_le_pow_right (by omega) hk) (by decide)
    have h3 := hS.2.2.1
    obtain ⟨r, e1, e2, e3, e4⟩ := fm_269 d hL2 h3 (fun s hs => by obtain ⟨a, q1, q2⟩ := hV s hs; exact ⟨a, q1, q2.1⟩) L 0 1000 (by omega) (Nat.le_refl _)
    have e1' : f_L_fewestMisses_269 (d + 2) M 1000 p1 (nI L) 0 = _ := e1
    have low : ∀ c0, bP sz kf n 0 (fun _ => false) c0 → r ≤ c0 := fun c0 hc0 => by
      obtain ⟨s, b1, b2, hs, hp, hle, ⟨a, ea, ha⟩, hb1⟩ := hC c0 hc0
      have := e4 s (by omega) hs a (by omega) ea
      omega
    obtain ⟨c0, hc0, hc1⟩ := hex
    have hr := low c0 hc1
    refine ⟨M, r, by rw [e_L_fewestMisses_47, if_neg (by rw [nI_ltP (by omega) (by omega)]; omega), h3.al, h3.zz, e1'], hS.1, FX.rf, by omega, ?_, low⟩
    rcases e3 with e3 | ⟨s, hs, es⟩
    · omega
    · obtain ⟨a, q1, q2, q3⟩ := hV s hs
      rw [es] at q1
      have : r = a := (lt_iE (by omega) (by omega)).mp q1
      rcases q3 with q3 | ⟨q3, q4⟩
      · omega
      · have := q4 0 (by rw [show n - t = 0 by omega]; exact rfl)
        rw [‹r = a›]; exact this
  | m + 1, t, M, p1, p2, A, B, htm, hS, hV, hC => by
    have hL2 : L < 2147483648 := by rw [hL]; exact Nat.lt_of_le_of_lt (Nat.pow_le_pow_right (by omega) hk) (by decide)
    obtain ⟨h1, h2, h3, h4, h5, h6, h7⟩ := id hS
    obtain ⟨M1, B1, a1, a2, a3, a4⟩ := fm_64 d (ky := ky) (sz := sz) (q7 := nI t) (q8 := nI (kf t)) hL2 L 0 M B (by omega) hS (fun j hj => by omega)
    have a1' : f_L_fewestMisses_64 (d + 2) M (nI ky) (nI sz) p1 p2 o (nI n) (nI t) (nI (kf t)) 0 = _ := a1
    have hV1 : fVal sz kf n L (t + 1) B1 := fun y hy => ⟨1000, a4 y hy, Nat.le_refl _, Or.inl rfl⟩
    obtain ⟨M2, B2, b1, b2, b3, b4, b5⟩ := fm_89 d (q7 := nI t) hk hL (show t < n by omega) hn (hkf t (by omega)) hsz hV L 0 M1 B1 (by omega) a2 hV1 (fun u hu => by omega)
    have b1' : f_L_fewestMisses_89 (d + 2) M1 (nI ky) (nI sz) p1 p2 o (nI n) (nI t) (nI (kf t)) 0 = _ := b1
    obtain ⟨g1, g2, g3, g4, g5, g6, g7⟩ := b2
    obtain ⟨M', r, e1, e2, e3, e4⟩ := fm_47 d hk hL hn hsz hkf hex m (t + 1) M2 p2 p1 B2 A (by omega) ⟨g1, g2, g4, g3, Ne.symm g5, g7, g6⟩ b3 (cmp_step hk hL (by omega) hn (hkf t (by omega)) hC hV b5)
    have f1 : FX (fun a => a = p1 ∨ a = p2) 0 0 M M2 := (a3.tr b4).mo (fun _ _ q => Or.inr q) (Nat.le_refl _) (Nat.le_refl _)
    refine ⟨M', r, ?_, e2, f1.tr (e3.mo (fun _ _ q => q.symm) (Nat.le_refl _) (Nat.le_refl _)), e4⟩
    rw [e_L_fewestMisses_47, if_pos (by rw [nI_ltP (by omega) (by omega)]; omega), h2.ar (by omega), h2.rd (by omega)]
    show f_L_fewestMisses_64 (d + 2) M (nI ky) (nI sz) p1 p2 o (nI n) (nI t) (nI (kf t)) 0 = _
    rw [a1', b1', nI_p1]
    exact e1
theorem fm_16 (d : Nat) (hL2 : L < 2147483648) : ∀ (m i : Nat) (M : LM) (A B : Nat → Int32), i + m = L → 1 ≤ i → fST M T R c o p2 p1 n L kf B A → (∀ j, 1 ≤ j → j < i → A j = 1000) → A 0 = 0 →
    ∃ M' A', f_L_fewestMisses_16 (d + 2) M o (nI ky) (nI sz) p1 p2 (nI i) = f_L_fewestMisses_47 (d + 2) M' (nI ky) (nI sz) p1 p2 o (nI n) 0 ∧ fST M' T R c o p2 p1 n L kf B A' ∧ FX (fun a => a = p1) 0 0 M M' ∧ A' 0 = 0 ∧ ∀ j, 1 ≤ j → j < L → A' j = 1000
  | 0, i, M, A, B, hi, h1, hS, hA, h0 => by
    have h3 := hS.2.2.2.1
    have h2 := hS.2.1
    exact ⟨M, A, by rw [e_L_fewestMisses_16, h3.al, h3.zz, if_neg (by rw [nI_ltP (by omega) (by omega)]; omega), h2.al, h2.zz], hS, FX.rf, h0, fun j hj1 hj => hA j hj1 (by omega)⟩
  | m + 1, i, M, A, B, hi, h1, hS, hA, h0 => by
    have h4 := hS.2.2.2.1
    obtain ⟨w1, w2⟩ := fST_w (i := i) (x := 1000) hS
    obtain ⟨M', B', e1, e2, e3, e4, e5⟩ := fm_16 d hL2 m (i + 1) _ _ _ (by omega) (by omega) w1 (fun j hj1 hj => by
      by_cases z : j = i
      · rw [if_pos z]
      · rw [if_neg z]; exact hA j hj1 (by omega)) (by rw [if_neg (by omega)]; exact h0)
    refine ⟨M', B', ?_, e2, w2.tr e3, e4, e5⟩
    rw [e_L_fewestMisses_16, h4.al, h4.zz, if_pos (by rw [nI_ltP (by omega) (by omega)]; omega), h4.ar (by omega), x_m, lt_iN (by omega), nI_p1]
    exact e1
/-- the fewest misses -/
theorem l_few (d : Nat) (hL : LW M T R c) (hA : AR M o n (kfG kf)) (hky : ky ≤ 16) (hn : n ≤ 300) (hp : 0 < sz) (hsz : sz < 1000) (hkf : ∀ i, i < n → kf i < ky) : ∃ M' r, f_L_fewestMisses (d + 3) M o (nI ky) (nI sz) = some (.inl (some (.int (nI r))), M') ∧ LW M' T R c ∧ FX (fun _ => False) 2 (2 * 2 ^ ky) M M' ∧ r ≤ n ∧ kHits kf n (-1) (nI sz) = nI (n - r) := by
  have hn0 := t_n hL.1.1
  have hLe : (2 : Nat) ^ ky ≤ 65536 := Nat.pow_le_pow_right (n := 2) (by omega) hky
  have hL1 : 0 < (2 : Nat) ^ ky := Nat.pow_pos (by omega)
  generalize hLL : (2 : Nat) ^ ky = L at hLe hL1
  have eb : (1 : Int32) <<< (nI ky &&& 31) = nI L := by
    rw [← hLL]; exact bb_2 ky (by omega)
  have eN : lt_n (nI L) = L := lt_iN (by omega)
  let M1 := aNew M 1 L L
  have L1 : LW M1 T R c := LW_new hL
  have A1 := AR_new (n := L) (m := L) hL (by omega)
  let M2 := aNew M1 1 L L
  have L2 : LW M2 T R c := LW_new L1
  have A2 := AR_new (n := L) (m := L) L1 (by omega)
  have f2 : FX (fun _ => False) 1 L M1 M2 := FX_new (by show 103 < mN M + 1; omega)
  have f1 : FX (fun _ => False) 1 L M M1 := FX_new (by omega)
  have hS : fST M2 T R c o (mN M1) (mN M) n L kf (fun _ => 0) (fun _ => 0) := ⟨L2, (hA.kp f1 (fun q => q)).kp f2 (fun q => q), A2, A1.kp f2 (fun q => q), by show mN M + 1 ≠ mN M; omega, by
    have := hA.2.1
    show o ≠ mN M + 1
    omega, by have := hA.2.1; omega⟩
  obtain ⟨M3, A3, a1, a2, a3, a4, a5⟩ := fm_16 (d + 1) (ky := ky) (sz := sz) (by omega) (L - 1) 1 M2 (fun _ => 0) (fun _ => 0) (by omega) (by omega) hS (fun j h1 h2 => by omega) rfl
  obtain ⟨g1, g2, g3, g4, g5, g6, g7⟩ := a2
  have hkf26 : ∀ i, i < n → kf i < 26 := fun i hi => by have := hkf i hi; omega
  obtain ⟨c0, q1, q2, q3⟩ := rule_hits (rule := -1) (n := n) (kf := kf) hkf26 hp hsz
  obtain ⟨b0, r1, r2, r3⟩ := best_hits (n := n) (kf := kf) hn hkf26 hp hsz
  have bt0 : bt (nI 0) = fun _ => false := funext fun k => b_0 k
  obtain ⟨M', r, e1, e2, e3, e4, e5, e6⟩ := fm_47 (d + 1) (show ky ≤ 26 by omega) hLL.symm hn hsz hkf ⟨c0, q1, q2⟩ n 0 M3 (mN M) (mN M1) A3 (fun _ => 0) (by omega) ⟨g1, g2, g4, g3, Ne.symm g5, g7, g6⟩ (fun y hy => by
      by_cases z : y = 0
      · exact ⟨0, by rw [z]; exact a4, by omega, Or.inr ⟨Nat.le_refl _, fun c hc => by rw [z, bt0] at hc; rw [Nat.zero_add]; exact hc⟩⟩
      · exact ⟨1000, a5 y (by omega) hy, Nat.le_refl _, Or.inl rfl⟩) (fun c hc => ⟨0, 0, c, hL1, by rw [bt0]; exact hc, by omega, ⟨0, a4, Nat.le_refl _⟩, Nat.le_refl _⟩)
  have f4 : FX (fun a => a = mN M ∨ a = mN M + 1) 2 (L + L) M M' := (f1.mo (fun _ _ q => q.elim) (Nat.le_refl _) (Nat.le_refl _)).tr ((f2.mo (fun _ _ q => q.elim) (Nat.le_refl _) (Nat.le_refl _)).tr ((a3.mo (fun _ _ q => Or.inl q) (Nat.le_refl _) (Nat.le_refl _)).tr e3))
  refine ⟨M', r, ?_, e2, f4.mo (fun a ha q => by omega) (Nat.le_refl _) (by omega), e4, ?_⟩
  · rw [e_L_fewestMisses, eb, ln_t (by omega), eN, x_m, ln_t (by omega), x_m]
    show f_L_fewestMisses_16 (d + 3) M2 o (nI ky) (nI sz) (mN M) (mN M1) (nI 1) = _
    rw [a1]
    exact e1
  · have h1 := bB_best n 0 (fun _ => false) b0 r (fun j hj => hkf26 j (by omega)) r2 e5
    have h2 := e6 c0 q2
    rw [q3] at r3
    have h3 := (lt_iE (by omega) (by omega)).mp r3
    rw [q3]
    congr 1
    omega
end Dc
