/-! CALLS: the share of hits, the mean distance -/
section Uw
variable {M M' M1 M3 N : LM} {L B D P U i j k t w f n n' c e e' r o m ch len lo hi tot q a : Nat} {x y v u b1 b2 code cache key what rule its greater keys many seed writes room lapse mode : Int32} {z : Option (LO × LM)} {b : Bool} {T T' : BT} {kf fs W p kf' fs' W' : Nat → Nat} {xs H H' U' G : Nat → Int32} {V V' X X' X2 : Nat → Nat → Int32} {l : Option (List Nat)} {y64 : Int64} {fL fX fC : LM → Option (LO × LM)} {hl : List (Nat × Int32)} {S Z Z' : CS}
theorem rr_nn {f : FP.Core.Fmt} {s : Bool} {A B' : Nat} {e : Int} : FP.Core.roundRatio f s A B' e ≠ .nan := by
  unfold FP.Core.roundRatio
  split
  · exact fun h => by cases h
  · unfold FP.Core.roundAt FP.Core.settle FP.Core.bound
    repeat' split
    all_goals exact fun h => by cases h
theorem rd_nn {f : FP.Core.Fmt} {d : FP.Core.Datum} (h : d ≠ .nan) : FP.Core.round f d ≠ .nan := by
  cases d with
  | nan => exact absurd rfl h
  | inf s => exact fun h => by cases h
  | fin s c q => exact rr_nn
def dGood (d : FP.Core.Datum) : Bool := match d with
  | .fin _ c _ => Nat.blt 0 c
  | _ => false
theorem qu_nn {f : FP.Core.Fmt} {d e : FP.Core.Datum} (h : d ≠ .nan) (g : dGood e = true) : FP.Core.quotient f d e ≠ .nan := by
  cases e with
  | nan => cases g
  | inf s => cases g
  | fin t c q =>
    have hc : c ≠ 0 := fun z => by
      subst z
      have e0 : dGood (.fin t 0 q) = false := rfl
      rw [e0] at g
      cases g
    cases d with
    | nan => exact absurd rfl h
    | inf s => exact fun h => by cases h
    | fin s c' q' =>
      show (if c = 0 then _ else _) ≠ _
      rw [if_neg hc]
      exact rr_nn
theorem n64 {r : UInt64} (h : FP.Core.val64 r ≠ .nan) {z : Option (LO × LM)} : lt_n64 r z = z := by
  refine if_pos ?_
  rw [UInt64.le_iff_toNat_le, UInt64.toNat_and]
  show r.toNat &&& 0x7fffffffffffffff ≤ 0x7ff0000000000000
  rw [show (0x7fffffffffffffff : Nat) = 2 ^ 63 - 1 from rfl, Nat.and_two_pow_sub_one_eq_mod]
  unfold FP.Core.val64 FP.Core.decode FP.Core.fieldE FP.Core.fieldT at h
  have et : FP.Core.b64.tails = 4503599627370496 := rfl
  have ee : FP.Core.b64.exps = 2048 := rfl
  rw [et, ee] at h
  by_cases q : r.toNat / 4503599627370496 % 2048 = 2047
  · rw [if_pos q] at h
    by_cases q2 : r.toNat % 4503599627370496 = 0
    · omega
    · rw [if_neg q2] at h
      exact absurd rfl h
  · omega
theorem n32 {r : UInt32} (h : FP.Core.val32 r ≠ .nan) {z : Option (LO × LM)} : lt_n32 r z = z := by
  refine if_pos ?_
  rw [UInt32.le_iff_toNat_le, UInt32.toNat_and]
  show r.toNat &&& 0x7fffffff ≤ 0x7f800000
  rw [show (0x7fffffff : Nat) = 2 ^ 31 - 1 from rfl, Nat.and_two_pow_sub_one_eq_mod]
  unfold FP.Core.val32 FP.Core.decode FP.Core.fieldE FP.Core.fieldT at h
  have et : FP.Core.b32.tails = 8388608 := rfl
  have ee : FP.Core.b32.exps = 256 := rfl
  rw [et, ee] at h
  by_cases q : r.toNat / 8388608 % 256 = 255
  · rw [if_pos q] at h
    by_cases q2 : r.toNat % 8388608 = 0
    · omega
    · rw [if_neg q2] at h
      exact absurd rfl h
  · omega
def dAll (f : FP.Core.Fmt) : Nat → Bool
  | 0 => true
  | n + 1 => dGood (FP.Core.round f (FP.Core.ofInt (Int.ofNat (n + 1)))) && dAll f n
theorem dAll_i {f : FP.Core.Fmt} : ∀ (m : Nat), dAll f m = true → ∀ n, 1 ≤ n → n ≤ m → dGood (FP.Core.round f (FP.Core.ofInt (n : Int))) = true
  | 0, _, n, h1, h2 => by omega
  | m + 1, h, n, h1, h2 => by
    unfold dAll at h
    rw [Bool.and_eq_true] at h
    by_cases q : n = m + 1
    · rw [q]; exact h.1
    · exact dAll_i m h.2 n h1 (by omega)
theorem dAll64 : dAll FP.Core.b64 300 = true := by decide +kernel
theorem dAll32 : dAll FP.Core.b32 300 = true := by decide +kernel
theorem dd_nn (h1 : 1 ≤ n) (h2 : n ≤ 300) : FP.Core.val64 (FP.ddiv (FP.i2d x) (FP.i2d (nI n))) ≠ .nan := by
  rw [FP.Core.val64_ddiv, FP.Core.val64_i2d, FP.Core.val64_i2d, lt_iT (by omega)]
  exact qu_nn (rd_nn (fun h => by cases h)) (dAll_i 300 dAll64 n h1 h2)
theorem ff_nn (h1 : 1 ≤ n) (h2 : n ≤ 300) : FP.Core.val32 (FP.fdiv (FP.i2f x) (FP.i2f (nI n))) ≠ .nan := by
  rw [FP.Core.val32_fdiv, FP.Core.val32_i2f, FP.Core.val32_i2f, lt_iT (by omega)]
  exact qu_nn (rd_nn (fun h => by cases h)) (dAll_i 300 dAll32 n h1 h2)
/-! ### the share of hits -/
def OKD (L : Nat) (xs : Nat → Int32) (i : Nat) (M : LM) (fL fX : LM → Option (LO × LM)) : Prop := ∃ (code : Int32) (v : UInt64) (M1 M2 : LM), fL M = some (.inl (some (.int code)), M1) ∧ fX M1 = some (.inl (some (.double v)), M2) ∧ mI M1 0 = xs ∧ CSK L M1 ∧ mI M2 123 0 = code ∧ (code = 0 → mD M2 201 0 = v) ∧ ST L xs M2 (i + 1)
theorem sh_nn {a b : Nat} (h : a + b ≤ 300) : FP.Core.val64 (if nI a + nI b = 0 then FP.dconst0 else FP.ddiv (FP.i2d (nI a)) (FP.i2d (nI a + nI b))) ≠ .nan := by
  split
  · exact fun h => by cases h
  · rename_i q
    rw [show nI a + nI b = nI (a + b) from lt_iA (j := a) (k := b)] at q ⊢
    have : a + b ≠ 0 := fun z => q (by rw [z]; rfl)
    exact dd_nn (by omega) h
theorem LD (hL : fL M = some (.inl (some (.int code)), M1)) (g : LV M M1) (h : ST L xs M i) (hp : ∀ j, mP M 125 j = gP 123 p j) {r : UInt64} (hr : ∀ N, RA N 123 → fX (rM N 123 (mI M 124) (vv M 124) (xx M)) = some (.inl (some (.double r)), rM N 123 (mI M 124) (vv M 124) X')) (hX : XKp (xx M) X') (hc : X' 0 0 = code) (hv : code = 0 → mD M1 201 0 = r) : OKD L xs i M fL fX := by
  have r1 : fX (rN M1 p (mI M 124) (vv M 124) (xx M)) = some (.inl (some (.double r)), rN M1 p (mI M 124) (vv M 124) X') := hr (rP M1 123 (gP 123 p)) (RA.rp (t_r (CSK_lv h.1 g)))
  rw [rN_of g hp] at r1
  exact ⟨code, r, M1, _, hL, r1, (g.1 0 (by omega)).trans h.2.2.1, CSK_lv h.1 g, (congrFun rN_X0 0).trans hc, hv, ST_A h g hp hX⟩
theorem t_oaD (h : CSK L M) : lt_ar M 201 4 0 z = z := by
  obtain ⟨h1, h2⟩ := t_outD h
  refine if_pos ⟨h1, ?_, ?_⟩
  · decide
  · rw [h2]; decide
theorem mD_201 {r : UInt64} : mD (wD M 201 0 r) 201 0 = r := by
  show (if 201 = 201 ∧ 0 = 0 then r else mD M 201 0) = r
  exact if_pos ⟨rfl, rfl⟩
theorem o_hitShare (h : ST L xs M i) : OKD L xs i M (fun M => f_L_hitShare 40 M 1 cache 201) (fun M => f_X11_hitShare 40 M 123 cache) := by
  obtain ⟨hk, -, -, hCU, hTX, -, kf, fs, W, n, p, c, e, hd⟩ := id h
  obtain ⟨hp, hpa, hc6, he6, h3, h4, hm2, hm3, hB, hR, hCT⟩ := id hd
  have hn : n ≤ 300 := hB.1
  have hnn : ∀ u, u < 6 → FP.Core.val64 (qShare2 (vv M 124 u)) ≠ .nan := fun u hu => by
    obtain ⟨a, b, e1, e2, e3⟩ := hCT u hu
    unfold qShare2
    rw [e1, e2]
    exact sh_nn (by omega)
  have er := fun N (hN : RA N 123) => r_hitShare (M := N) (o := 123) (H := mI M 124) (V := vv M 124) (X := xx M) (cache := cache) 37 hN (fun u hu z => n64 (hnn u hu))
  have eL : f_L_hitShare 40 M 1 cache 201 = _ := e_L_hitShare 39 M 1 cache 201
  rw [t_ck hk, e_X10_hitShare, z_cache, bv_if] at eL
  by_cases q1 : qIn cache 0 5 = true
  · obtain ⟨ch, hch, rfl⟩ := qIn_c q1
    obtain ⟨a, b, e1, e2, e3⟩ := hCT ch hch
    have hC := RB_c hB hch
    have m0 : mI M (cc 2 ch + 7) 0 = nI a := (hC.1.2.2.2.2.2.2.2.2.2.2.1.1 0 (by omega)).trans e1
    have m1 : mI M (cc 2 ch + 7) 1 = nI b := (hC.1.2.2.2.2.2.2.2.2.2.2.1.1 1 (by omega)).trans e2
    have g0 := t_cat7 37 hk hch (k := 0) (by omega)
    have g1 := t_cat7 37 hk hch (k := 1) (by omega)
    rw [m0] at g0
    rw [m1] at g1
    have g0' : f_X10_at 38 M (cc 2 ch + 7) 0 = _ := g0
    have g1' : f_X10_at 38 M (cc 2 ch + 7) 1 = _ := g1
    rw [if_pos q1, t_ck hk, t_p0 hk, x_rf, t_ckB hk, t_cache 37 hk hch, lt_br_r, t_ckC hk hch, t_c17 hk hch, x_rf, t_ck6 hk hch, t_c60 hk hch, x_rf, g0', lt_bi_r, g1', lt_bi_r] at eL
    have ev : qShare2 (vv M 124 ch) = (if nI a + nI b = 0 then FP.dconst0 else FP.ddiv (FP.i2d (nI a)) (FP.i2d (nI a + nI b))) := by
      unfold qShare2
      rw [e1, e2]
    have es : nI a + nI b = nI (a + b) := lt_iA (j := a) (k := b)
    have key : f_L_hitShare 40 M 1 (nI ch) 201 = some (.inl (some (.int 0)), wD M 201 0 (qShare2 (vv M 124 ch))) := by
      refine eL.trans ?_
      have hnn' := hnn ch hch
      rw [ev] at hnn' ⊢
      by_cases q : (0 : Int32) < nI a + nI b
      · have q' : ¬ nI a + nI b = 0 := fun z => by rw [z] at q; exact absurd q (by decide)
        rw [if_neg q'] at hnn' ⊢
        rw [if_pos q, n64 hnn']
        show (lt_ar M 201 4 0 (lt_m (wD M 201 (lt_n 0) _) fun M3 => some (.inl (some (.int 0)), M3)) : Option (LO × LM)) = _
        rw [t_oaD hk, x_m]
        rfl
      · have q' : nI a + nI b = 0 := by
          rw [es] at q ⊢
          have : ¬ 0 < a + b := fun z => q (by rw [show (0 : Int32) = nI 0 from rfl, nI_ltP (by omega) (by omega)]; exact z)
          rw [show a + b = 0 by omega]
          rfl
        rw [if_pos q', if_neg q]
        show (lt_ar M 201 4 0 (lt_m (wD M 201 (lt_n 0) FP.dconst0) fun M3 => some (.inl (some (.int 0)), M3)) : Option (LO × LM)) = _
        rw [t_oaD hk, x_m]
        rfl
    refine LD key (LV_outD LV.rfl') h hp (X' := qX0 (xx M)) (r := qShare2 (vv M 124 ch)) (fun N hN => ?_) XKp_X0 qX0_0 (fun _ => mD_201)
    rw [er N hN, if_pos q1, lt_iN (by omega)]
  · rw [if_neg q1] at eL
    refine LD (M1 := aExn M) (code := 1) ?_ LV_exn h hp (X' := qXe (xx M) 1) (r := FP.dconst0) (fun N hN => ?_) XKp_Xe qXe_0 (fun z => absurd z (by decide))
    · rw [eL]; rfl
    · rw [er N hN, if_neg q1]
/-! ### the mean distance -/
theorem qMD_c : ∀ (m : Nat) (s : Int32) (c : Nat), ∃ s' c', qMD kf n m s (nI c) = (s', nI c') ∧ c' ≤ c + m
  | 0, s, c => ⟨s, c, rfl, Nat.le_refl _⟩
  | m + 1, s, c => by
    unfold qMD
    split
    · obtain ⟨s', c', h1, h2⟩ := qMD_c m s c
      exact ⟨s', c', h1, by omega⟩
    · obtain ⟨s', c', h1, h2⟩ := qMD_c m (s + qDist kf (kf (n - (m + 1))) (n - (m + 1)) 0) (c + 1)
      rw [show nI c + 1 = nI (c + 1) from lt_iA (j := c) (k := 1)]
      exact ⟨s', c', h1, by omega⟩
theorem md_nn (hn : n ≤ 300) : FP.Core.val32 (qMean kf n) ≠ .nan := by
  obtain ⟨s', c', h1, h2⟩ := qMD_c (kf := kf) (n := n) n 0 0
  have h1' : qMD kf n n 0 0 = (s', nI c') := h1
  unfold qMean
  rw [h1']
  dsimp only
  split
  · exact fun h => by cases h
  · rename_i q
    have : c' ≠ 0 := fun z => q (by rw [z]; rfl)
    exact ff_nn (by omega) (by omega)
theorem t_mean (hk : CSK L M) (hB : RB kf fs W n (tB M 2) (mI M 124) (vv M 124)) (d : Nat) : ∀ (m : Nat) (s : Int32) (c : Nat), m ≤ n → c + m ≤ n → (∀ z : Option (LO × LM), lt_n32 (if (qMD kf n m s (nI c)).2 = 0 then FP.fconst0 else FP.fdiv (FP.i2f (qMD kf n m s (nI c)).1) (FP.i2f (qMD kf n m s (nI c)).2)) z = z) → f_X10_meanDistance_6 (d + 4) M 1 s (nI c) (nI (n - m)) = some (.inl (some (.float (if (qMD kf n m s (nI c)).2 = 0 then FP.fconst0 else FP.fdiv (FP.i2f (qMD kf n m s (nI c)).1) (FP.i2f (qMD kf n m s (nI c)).2)))), M)
  | 0, s, c, _, hc, hz => by
    have hl : mI M 7 3 = nI n := hB.2.1
    have hn : n ≤ 300 := hB.1
    have hlt : ¬ nI (n - 0) < nI n := by rw [nI_ltP (by omega) (by omega)]; omega
    rw [e_X10_meanDistance_6, t_ck hk, t_p0 hk, x_rf, t_ckB hk, t_B1 hk, x_rf, t_ckR hk, hl, if_neg hlt]
    show _ = (some (.inl (some (.float (if nI c = 0 then FP.fconst0 else FP.fdiv (FP.i2f s) (FP.i2f (nI c))))), M) : Option (LO × LM))
    have hz' : ∀ z : Option (LO × LM), lt_n32 (if nI c = 0 then FP.fconst0 else FP.fdiv (FP.i2f s) (FP.i2f (nI c))) z = z := hz
    by_cases q : (0 : Int32) < nI c
    · have q' : ¬ nI c = 0 := fun z => by rw [z] at q; exact absurd q (by decide)
      rw [if_neg q'] at hz' ⊢
      rw [if_pos q, hz']
    · have q' : nI c = 0 := by
        have : ¬ 0 < c := fun z => q (by rw [show (0 : Int32) = nI 0 from rfl, nI_ltP (by omega) (by omega)]; exact z)
        rw [show c = 0 by omega]
        rfl
      rw [if_pos q', if_neg q]
  | m + 1, s, c, hm, hc, hz => by
    have hl : mI M 7 3 = nI n := hB.2.1
    have hn : n ≤ 300 := hB.1
    have hlt : nI (n - (m + 1)) < nI n := by rw [nI_ltP (by omega) (by omega)]; omega
    have hlt3 : nI (n - (m + 1)) < (300 : Int32) := (lt_iL (j := n - (m + 1)) (k := 300) (by omega) (by omega)).mpr (by omega)
    have hl1 : nI (n - (m + 1)) + 1 = nI (n - m) := by
      rw [show nI (n - (m + 1)) + 1 = nI (n - (m + 1) + 1) from lt_iA (j := n - (m + 1)) (k := 1)]
      congr 1
      omega
    have hd := w_distanceOf (M := M) (R := 7) (kf := kf) (n := n) (i := n - (m + 1)) (d + 1) (t_RW hk) (RKm_t hB) hn (by omega)
    have hs : qMD kf n (m + 1) s (nI c) = if qDist kf (kf (n - (m + 1))) (n - (m + 1)) 0 = -1 then qMD kf n m s (nI c) else qMD kf n m (s + qDist kf (kf (n - (m + 1))) (n - (m + 1)) 0) (nI c + 1) := rfl
    have hc1 : nI c + 1 = nI (c + 1) := lt_iA (j := c) (k := 1)
    rw [hs] at hz ⊢
    rw [e_X10_meanDistance_6, t_ck hk, t_p0 hk, x_rf, t_ckB hk, t_B1 hk, x_rf, t_ckR hk, hl, if_pos hlt, if_pos hlt3, t_ck hk, x_rf, t_ckB hk, t_B1 hk, x_rf, t_ckR hk, hd, lt_bi_r, hl1]
    by_cases q : qDist kf (kf (n - (m + 1))) (n - (m + 1)) 0 = -1
    · rw [if_pos q] at hz ⊢
      rw [if_pos q]
      exact t_mean hk hB d m s c (by omega) (by omega) hz
    · rw [if_neg q, hc1] at hz ⊢
      rw [if_neg q]
      exact t_mean hk hB d m _ (c + 1) (by omega) (by omega) hz
def OKF (L : Nat) (xs : Nat → Int32) (i : Nat) (M : LM) (fC fX : LM → Option (LO × LM)) : Prop := ∃ (v : UInt32) (M1 M2 : LM), fC M = some (.inl (some (.float v)), M1) ∧ fX M1 = some (.inl (some (.float v)), M2) ∧ FP.Core.val32 v ≠ .nan ∧ mI M1 0 = xs ∧ CSK L M1 ∧ ST L xs M2 (i + 1)
theorem o_meanDistance (h : ST L xs M i) : OKF L xs i M (fun M => f_X10_meanDistance 40 M 1) (fun M => f_X11_meanDistance 40 M 123) := by
  obtain ⟨hk, -, -, -, -, -, kf, fs, W, n, p, c, e, hp, hpa, -, -, -, h4, -, -, hB, -⟩ := id h
  have hn : n ≤ 300 := hB.1
  have h0 : mI M 124 0 = nI n := hB.2.2.1
  have hl : mI M 7 3 = nI n := hB.2.1
  have hnn := md_nn (kf := kf) hn
  have er := fun N (hN : RA N 123) => r_meanDistance (M := N) (o := 123) (H := mI M 124) (V := vv M 124) (X := xx M) 36 hN (RK_t hB) hn h0 (fun z => n32 hnn)
  have eC := t_mean hk hB 36 n 0 0 (Nat.le_refl _) (by omega) (fun z => n32 hnn)
  rw [Nat.sub_self] at eC
  have eC' : f_X10_meanDistance 40 M 1 = some (.inl (some (.float (qMean kf n))), M) := (e_X10_meanDistance 39 M 1).trans eC
  have r1 : f_X11_meanDistance 40 (rN M p (mI M 124) (vv M 124) (xx M)) 123 = some (.inl (some (.float (qMean kf n))), rN M p (mI M 124) (vv M 124) (qX0 (xx M))) := er (rP M 123 (gP 123 p)) (RA.rp (t_r hk))
  rw [rN_of LV.rfl' hp] at r1
  exact ⟨qMean kf n, M, _, eC', r1, hnn, h.2.2.1, hk, ST_A h LV.rfl' hp XKp_X0⟩
end Uw
