/-! THE CLASS, the search for rows that shame: queues, nodes offered -/
def hPl (key : Int32) : Nat → Int32 → Option Nat
  | 0, _ => none
  | m + 1, left => if left &&& 7 = key + 1 then some (6 - (m + 1)) else hPl key m (lt_us left 4)
def hPlace (q key : Int32) : Option Nat := hPl key 6 q
def hTu (len : Nat) : Nat → Int32 → Int32
  | 0, left => left
  | m + 1, left => if left &&& 8 = 0 then left else hTu len m (lt_us left 4 ||| ((left &&& 7) <<< ((4 * nI (len - 1)) &&& 31)))
def hBehind (marks : Int32) (q : Int32) (most : Nat) (key : Int32) : Int32 :=
  match hPlace q key with
  | some p => if marks = 0 then q else q ||| (8 <<< ((4 * nI p) &&& 31))
  | none => match hPlace q (-1) with
    | none => lt_us (hTu most most q) 4 ||| ((key + 1) <<< ((4 * nI (most - 1)) &&& 31))
    | some l => if l < most then q ||| ((key + 1) <<< ((4 * nI l) &&& 31)) else lt_us (hTu most most q) 4 ||| ((key + 1) <<< ((4 * nI (most - 1)) &&& 31))
/-- nodes, their states, leads, parents, last keys; slots -/
abbrev HS : Type := Nat × (Nat → Int64) × (Nat → Int32) × (Nat → Int32) × (Nat → Int32) × (Nat → Nat)
def PA' (M : LM) (P : Nat) : Prop := mK M P = 22 ∧ mP M P 0 = some (P + 1) ∧ mP M P 7 = some (P + 2) ∧ mP M P 8 = some (P + 3) ∧ mP M P 9 = some (P + 4) ∧ mP M P 10 = some (P + 5) ∧ mP M P 11 = some (P + 6) ∧ aI M (P + 1) 12 ∧ aL M (P + 2) 1200 ∧ aI M (P + 3) 1200 ∧ aI M (P + 4) 1200 ∧ aI M (P + 5) 1200 ∧ aI M (P + 6) 2048
def HR (Z : CS) (s : HS) : Prop := Z.1 0 6 = nI s.1 ∧ s.1 ≤ 1200 ∧ (∀ i, i < 1200 → Z.2 2 i = s.2.1 i ∧ Z.1 3 i = s.2.2.1 i ∧ Z.1 4 i = s.2.2.2.1 i ∧ Z.1 5 i = s.2.2.2.2.1 i) ∧ ∀ i, i < 2048 → Z.1 6 i = nI (s.2.2.2.2.2 i) ∧ s.2.2.2.2.2 i ≤ s.1
/-- what offers leave alone -/
def HK (Z Z' : CS) : Prop := Z'.1 1 = Z.1 1 ∧ ∀ j, j ≠ 6 → Z'.1 0 j = Z.1 0 j
def hProbe (s : HS) (st : Int64) : Nat → Nat → Nat
  | 0, i => i
  | m + 1, i => if s.2.2.2.2.2 i = 0 then i else if s.2.1 (s.2.2.2.2.2 i - 1) = st then i else hProbe s st m (if i + 1 < 2048 then i + 1 else 0)
def hSlot (st : Int64) : Nat := lt_n (Int64.toInt32 (lt_lus (st * (-7046029254386353131)) 53))
def hAdd (s : HS) (i : Nat) (st : Int64) (lead from_ key : Int32) : HS := (s.1 + 1, u1 s.2.1 s.1 st, u1 s.2.2.1 s.1 lead, u1 s.2.2.2.1 s.1 from_, u1 s.2.2.2.2.1 s.1 key, u1 s.2.2.2.2.2 i (s.1 + 1))
def hPut (s : HS) (i : Nat) (st : Int64) (lead from_ key : Int32) : HS :=
  if s.2.2.2.2.2 i ≠ 0 ∧ ¬ s.2.2.1 (s.2.2.2.2.2 i - 1) < lead then s else if s.1 < 1200 then hAdd s i st lead from_ key else s
def hOffer (s : HS) (st : Int64) (lead from_ key : Int32) : HS := hPut s (hProbe s st 2048 (hSlot st)) st lead from_ key
section Dc
variable {M : LM} {P n m i j k t p most len : Nat} {Z Z' : CS} {v c q key lead from_ marks : Int32} {st : Int64} {z : Option (LO × LM)} {s : HS}
theorem h_place_4 (d : Nat) : ∀ (m : Nat) (left : Int32), m ≤ 6 → f_X6_placeIn_4 (d + 1) M key left (nI (6 - m)) = some (.inl (some (.int (oI (hPl key m left)))), M)
  | 0, left, _ => by
    rw [e_X6_placeIn_4, if_neg (by decide)]
    rfl
  | m + 1, left, hm => by
    have hlt : nI (6 - (m + 1)) < (6 : Int32) := (nI_ltP (j := 6 - (m + 1)) (k := 6) (by omega) (by omega)).mpr (by omega)
    have g2 : nI (6 - (m + 1)) + 1 = nI (6 - m) := by
      rw [show nI (6 - (m + 1)) + 1 = nI (6 - (m + 1) + 1) from lt_iA (j := 6 - (m + 1)) (k := 1)]
      congr 1
      omega
    rw [e_X6_placeIn_4, if_pos hlt]
    unfold hPl
    by_cases a : left &&& 7 = key + 1
    · rw [if_pos a, if_pos a]
      rfl
    · rw [if_neg a, if_neg a, g2, h_place_4 d m _ (by omega)]
theorem h_placeIn (d : Nat) : f_X6_placeIn (d + 1) M q key = some (.inl (some (.int (oI (hPlace q key)))), M) := by
  rw [e_X6_placeIn]
  exact h_place_4 d 6 q (Nat.le_refl _)
theorem hPl_lt : ∀ (m : Nat) (left : Int32) (p : Nat), m ≤ 6 → hPl key m left = some p → p < 6
  | 0, left, p, _, h => by cases h
  | m + 1, left, p, hm, h => by
    unfold hPl at h
    split at h
    · cases h; omega
    · exact hPl_lt m _ p (by omega) h
theorem hPlace_lt : ∀ p, hPlace q key = some p → p < 6 := fun p => hPl_lt 6 q p (Nat.le_refl _)
theorem h_turned_4 (d : Nat) (hl : len ≤ 6) (h1 : 1 ≤ len) : ∀ (m : Nat) (left : Int32), m ≤ len → f_X6_turned_4 (d + 1) M (nI len) left (nI (len - m)) = some (.inl (some (.int (hTu len m left))), M)
  | 0, left, _ => by
    have hlt : ¬ nI (len - 0) < nI len := by rw [nI_ltP (by omega) (by omega)]; omega
    rw [e_X6_turned_4, if_neg hlt]
    rfl
  | m + 1, left, hm => by
    have hlt : nI (len - (m + 1)) < nI len := by rw [nI_ltP (by omega) (by omega)]; omega
    have g2 : nI (len - (m + 1)) + 1 = nI (len - m) := by
      rw [show nI (len - (m + 1)) + 1 = nI (len - (m + 1) + 1) from lt_iA (j := len - (m + 1)) (k := 1)]
      congr 1
      omega
    have e1 : nI len - 1 = nI (len - 1) := nI_sub h1
    rw [e_X6_turned_4, if_pos hlt]
    unfold hTu
    by_cases a : left &&& 8 = 0
    · rw [if_pos a, if_pos a]
    · rw [if_neg a, if_neg a, g2, e1, h_turned_4 d hl h1 m _ (by omega)]
theorem h_turned (d : Nat) (hl : len ≤ 6) (h1 : 1 ≤ len) : f_X6_turned (d + 1) M q (nI len) = some (.inl (some (.int (hTu len len q))), M) := by
  rw [e_X6_turned]
  have := h_turned_4 (M := M) d hl h1 len q (Nat.le_refl _)
  rw [Nat.sub_self] at this
  exact this
theorem h_ck (h : PA' M P) : lt_ck (gM M P 7 Z) P 22 z = z := lt_ck_t (M := gM M P 7 Z) h.1
theorem h_behind (d : Nat) (h : PA' M P) (hl : most ≤ 6) (h1 : 1 ≤ most) : f_X6_behind (d + 2) (gM M P 7 Z) P q (nI most) key = some (.inl (some (.int (hBehind (Z.1 0 2) q most key))), gM M P 7 Z) := by
  have e1 : nI most - 1 = nI (most - 1) := nI_sub h1
  rw [e_X6_behind, h_placeIn d, lt_bi_r]
  unfold hBehind
  cases hq : hPlace q key with
  | none =>
    rw [show oI none = -1 from rfl, if_pos rfl, h_placeIn d, lt_bi_r]
    dsimp only
    cases hq2 : hPlace q (-1) with
    | none =>
      rw [show oI none = -1 from rfl, if_pos rfl, h_turned d hl h1, lt_bi_r, e1]
    | some l =>
      have := hPlace_lt l hq2
      have hne : ¬ nI l = -1 := fun e => by rw [nI_ne1 (by omega)] at e; exact e
      rw [show oI (some l) = nI l from rfl, if_neg hne]
      dsimp only
      by_cases a : l < most
      · have hlt : nI l < nI most := by rw [nI_ltP (by omega) (by omega)]; exact a
        rw [if_pos hlt, if_pos a]
      · have hlt : ¬ nI l < nI most := by rw [nI_ltP (by omega) (by omega)]; exact a
        rw [if_neg hlt, if_neg a, h_turned d hl h1, lt_bi_r, e1]
  | some p =>
    have := hPlace_lt p hq
    have hne : ¬ nI p = -1 := fun e => by rw [nI_ne1 (by omega)] at e; exact e
    rw [show oI (some p) = nI p from rfl, if_neg hne, h_ck h, gI0 (by omega)]
    dsimp only
    by_cases a : Z.1 0 2 = 0
    · rw [if_pos a, if_pos a]
    · rw [if_neg a, if_neg a]
theorem L32 {y : Int64} {v : Nat} (h : y.toBitVec.toNat = v) (hv : v < 2147483648) : Int64.toInt32 y = nI v := by
  refine Int32.toInt_inj.mp ?_
  have e : y.toInt = (v : Int) := by
    show y.toBitVec.toInt = _
    rw [BitVec.toInt_eq_toNat_of_lt (by rw [h]; omega), h]
  rw [Int64.toInt_toInt32, e, lt_iT hv]
  exact Int.bmod_eq_of_le (by omega) (by omega)
theorem lus_N {x : Int64} {n : Nat} (hn : n < 64) : (lt_lus x (nI n)).toBitVec.toNat = x.toBitVec.toNat >>> n := by
  unfold lt_lus
  show (x.toUInt64 >>> ((nI n).toInt64.toUInt64 &&& Int64.toUInt64 63)).toBitVec.toNat = _
  rw [UInt64.toBitVec_shiftRight]
  show (x.toUInt64.toBitVec >>> (((nI n).toInt64.toUInt64 &&& Int64.toUInt64 63).toBitVec % 64).toNat).toNat = _
  have : (((nI n).toInt64.toUInt64 &&& Int64.toUInt64 63).toBitVec % 64).toNat = n := by
    revert n
    decide +kernel
  rw [this, BitVec.toNat_ushiftRight]
  rfl
theorem hSlot_lt : hSlot st < 2048 ∧ Int64.toInt32 (lt_lus (st * (-7046029254386353131)) 53) = nI (hSlot st) := by
  have e1 := lus_N (x := st * (-7046029254386353131)) (n := 53) (by decide)
  have hx := (st * (-7046029254386353131)).toBitVec.isLt
  rw [Nat.shiftRight_eq_div_pow] at e1
  have hv : (st * (-7046029254386353131)).toBitVec.toNat / 2 ^ 53 < 2048 := by omega
  have e2 := L32 e1 (by omega)
  have e3 : hSlot st = (st * (-7046029254386353131)).toBitVec.toNat / 2 ^ 53 := by
    unfold hSlot
    rw [show (53 : Int32) = nI 53 from rfl, e2, lt_iN (by omega)]
  rw [e3]
  exact ⟨hv, e2⟩
theorem cmp0 {x y : Int64} : (lg_cmp x y = 0) = (x = y) := by
  refine propext ?_
  unfold lg_cmp
  simp only [gt_iff_lt, Int64.lt_iff_toInt_lt, ← Int64.toInt_inj]
  split
  · next h => exact ⟨fun e => absurd e (by decide), fun e => by omega⟩
  · split
    · next h => exact ⟨fun _ => h, fun _ => rfl⟩
    · next h1 h2 => exact ⟨fun e => absurd e (by decide), fun e => absurd e h2⟩
theorem h_p0 (h : PA' M P) : mP (gM M P 7 Z) P 0 = some (P + 1) := h.2.1
theorem h_p7 (h : PA' M P) : mP (gM M P 7 Z) P 7 = some (P + 2) := h.2.2.1
theorem h_p8 (h : PA' M P) : mP (gM M P 7 Z) P 8 = some (P + 3) := h.2.2.2.1
theorem h_p9 (h : PA' M P) : mP (gM M P 7 Z) P 9 = some (P + 4) := h.2.2.2.2.1
theorem h_p10 (h : PA' M P) : mP (gM M P 7 Z) P 10 = some (P + 5) := h.2.2.2.2.2.1
theorem h_p11 (h : PA' M P) : mP (gM M P 7 Z) P 11 = some (P + 6) := h.2.2.2.2.2.2.1
theorem h_a1 (h : PA' M P) : aI M (P + 1) 12 := h.2.2.2.2.2.2.2.1
theorem h_a2 (h : PA' M P) : aL M (P + 2) 1200 := h.2.2.2.2.2.2.2.2.1
theorem h_a3 (h : PA' M P) : aI M (P + 3) 1200 := h.2.2.2.2.2.2.2.2.2.1
theorem h_a4 (h : PA' M P) : aI M (P + 4) 1200 := h.2.2.2.2.2.2.2.2.2.2.1
theorem h_a5 (h : PA' M P) : aI M (P + 5) 1200 := h.2.2.2.2.2.2.2.2.2.2.2.1
theorem h_a6 (h : PA' M P) : aI M (P + 6) 2048 := h.2.2.2.2.2.2.2.2.2.2.2.2
theorem HK_r : HK Z Z := ⟨rfl, fun _ _ => rfl⟩
theorem HK_t {Z1 Z2 : CS} (h : HK Z Z1) (g : HK Z1 Z2) : HK Z Z2 := ⟨g.1.trans h.1, fun j hj => (g.2 j hj).trans (h.2 j hj)⟩
theorem nI_pos1 {n : Nat} (h : n < 2147483648) : (nI n - 1 < 0) = (n = 0) := by
  refine propext ⟨fun e => ?_, fun e => by subst e; decide⟩
  cases n with
  | zero => rfl
  | succ n =>
    rw [lt_sub1] at e
    exact absurd e (lt_neg (by omega))
theorem cwl_z {y : Int64} (h : i ≠ t) : (cwl Z t j y).2 i = Z.2 i := z2_n1 h
theorem cwi_n (h : i ≠ j) : (cwi Z t j v).1 t i = Z.1 t i := z2_n2 h
theorem cwl_e {y : Int64} : (cwl Z t j y).2 t j = y := z2_eq
theorem h_new (d : Nat) (h : PA' M P) (hR : HR Z s) (hi : i < 2048) (hn : s.1 < 1200) :
    ∃ Z', (lt_ck (gM M P 7 Z) P 22 (lt_rf (mP (gM M P 7 Z) P 11) fun q10 => lt_ck (gM M P 7 Z) P 22 (lt_bv (f_X10_put (d + 1) (gM M P 7 Z) q10 (nI i) ((mI (gM M P 7 Z) P 6) + 1)) [] fun M11 => lt_ck M11 P 22 (lt_rf (mP M11 P 7) fun q12 => lt_ck M11 P 22 (lt_bv (f_X10_put_ (d + 1) M11 q12 (mI M11 P 6) st) [] fun M13 => lt_ck M13 P 22 (lt_rf (mP M13 P 8) fun q14 => lt_ck M13 P 22 (lt_bv (f_X10_put (d + 1) M13 q14 (mI M13 P 6) lead) [] fun M15 => lt_ck M15 P 22 (lt_rf (mP M15 P 9) fun q16 => lt_ck M15 P 22 (lt_bv (f_X10_put (d + 1) M15 q16 (mI M15 P 6) from_) [] fun M17 => lt_ck M17 P 22 (lt_rf (mP M17 P 10) fun q18 => lt_ck M17 P 22 (lt_bv (f_X10_put (d + 1) M17 q18 (mI M17 P 6) key) [] fun M19 => lt_ck M19 P 22 (lt_ck M19 P 22 (lt_m (wI M19 P 6 ((mI M19 P 6) + 1)) fun M20 => some (.inl none, M20))))))))))))) : Option (LO × LM)) = some (.inl none, gM M P 7 Z') ∧ HR Z' (hAdd s i st lead from_ key) ∧ HK Z Z' := by
  obtain ⟨r1, r2, r3, r4⟩ := hR
  have g1 : nI s.1 + 1 = nI (s.1 + 1) := lt_iA (j := s.1) (k := 1)
  have c6 : ∀ t, t ≠ 6 → (cwl (cwi Z 6 i (nI (s.1 + 1))) 2 s.1 st).1 t = Z.1 t := fun t ht => (cwi_z ht : (cwi Z 6 i (nI (s.1 + 1))).1 t = Z.1 t)
  refine ⟨cwi (cwi (cwi (cwi (cwl (cwi Z 6 i (nI (s.1 + 1))) 2 s.1 st) 3 s.1 lead) 4 s.1 from_) 5 s.1 key) 0 6 (nI (s.1 + 1)), ?_, ⟨cwi_e, hn, fun j hj => ?_, fun j hj => ?_⟩, ?_, fun j hj => ?_⟩
  · rw [h_ck h, h_p11 h, x_rf, h_ck h, gI0 (by omega), r1, g1, gw_put d (by omega) (h_a6 h) hi, lt_bv_r,
      h_ck h, h_p7 h, x_rf, h_ck h, gI0 (by omega), cwi_z (by decide), r1, gw_putL d (by omega) (h_a2 h) hn, lt_bv_r,
      h_ck h, h_p8 h, x_rf, h_ck h, gI0 (by omega), c6 0 (by decide), r1, gw_put d (by omega) (h_a3 h) hn, lt_bv_r,
      h_ck h, h_p9 h, x_rf, h_ck h, gI0 (by omega), cwi_z (by decide), c6 0 (by decide), r1, gw_put d (by omega) (h_a4 h) hn, lt_bv_r,
      h_ck h, h_p10 h, x_rf, h_ck h, gI0 (by omega), cwi_z (by decide), cwi_z (by decide), c6 0 (by decide), r1, gw_put d (by omega) (h_a5 h) hn, lt_bv_r,
      h_ck h, h_ck h, gI0 (by omega), cwi_z (by decide), cwi_z (by decide), cwi_z (by decide), c6 0 (by decide), r1, g1, gwI0 (by omega), x_m]
  · obtain ⟨a1, a2, a3, a4⟩ := r3 j hj
    unfold hAdd
    dsimp only
    by_cases q : j = s.1
    · rw [q, u1e, u1e, u1e, u1e]
      refine ⟨cwl_e, ?_, ?_, ?_⟩
      · rw [cwi_z (by decide), cwi_z (by decide), cwi_z (by decide)]; exact cwi_e
      · rw [cwi_z (by decide), cwi_z (by decide)]; exact cwi_e
      · rw [cwi_z (by decide)]; exact cwi_e
    · rw [u1_n q, u1_n q, u1_n q, u1_n q, ← a1, ← a2, ← a3, ← a4]
      refine ⟨z2_n2 q, ?_, ?_, ?_⟩
      · rw [cwi_z (by decide), cwi_z (by decide), cwi_z (by decide)]; exact (z2_n2 q).trans (congrFun (c6 3 (by decide)) j)
      · rw [cwi_z (by decide), cwi_z (by decide)]; exact (z2_n2 q).trans ((congrFun (cwi_z (by decide)) j).trans (congrFun (c6 4 (by decide)) j))
      · rw [cwi_z (by decide)]; exact (z2_n2 q).trans ((congrFun (cwi_z (by decide)) j).trans ((congrFun (cwi_z (by decide)) j).trans (congrFun (c6 5 (by decide)) j)))
  · obtain ⟨a1, a2⟩ := r4 j hj
    unfold hAdd
    dsimp only
    rw [cwi_z (by decide), cwi_z (by decide), cwi_z (by decide), cwi_z (by decide)]
    show (cwi Z 6 i (nI (s.1 + 1))).1 6 j = _ ∧ _
    by_cases q : j = i
    · rw [q, u1e]
      exact ⟨cwi_e, Nat.le_refl _⟩
    · rw [u1_n q]
      exact ⟨(z2_n2 q).trans a1, by omega⟩
  · rw [cwi_z (by decide), cwi_z (by decide), cwi_z (by decide), cwi_z (by decide)]
    exact c6 1 (by decide)
  · refine (z2_n2 hj).trans ?_
    rw [cwi_z (by decide), cwi_z (by decide), cwi_z (by decide)]
    exact congrFun (c6 0 (by decide)) j
theorem h_offer_83 (d : Nat) (h : PA' M P) (hR : HR Z s) (hi : i < 2048) {st0 : Int64} : ∃ Z', f_X6_offer_83 (d + 2) (gM M P 7 Z) P st lead from_ key (nI i) = some (.inl none, gM M P 7 Z') ∧ HR Z' (hPut s i st lead from_ key) ∧ HK Z Z' := by
  obtain ⟨r1, r2, r3, r4⟩ := hR
  obtain ⟨a1, a2⟩ := r4 i hi
  have hlt : (mI (gM M P 7 Z) P 6 < 1200) = (s.1 < 1200) := by
    rw [gI0 (by omega), r1]
    exact nI_ltP (j := s.1) (k := 1200) (by omega) (by omega)
  have r1' : mI (gM M P 7 Z) P 6 = nI s.1 := by rw [gI0 (by omega), r1]
  rw [e_X6_offer_83, h_ck h, h_p11 h, x_rf, gw_at d (by omega) (h_a6 h) hi, lt_bi_r, a1]
  unfold hPut
  by_cases q : s.2.2.2.2.2 i = 0
  · rw [if_pos (by rw [nI_pos1 (by omega)]; exact q), if_neg (c := s.2.2.2.2.2 i ≠ 0 ∧ ¬ s.2.2.1 (s.2.2.2.2.2 i - 1) < lead) (fun e => e.1 q), h_ck h]
    by_cases hn : s.1 < 1200
    · obtain ⟨Z', e1, e2, e3⟩ := h_new (M := M) (P := P) (Z := Z) (s := s) (i := i) (st := st) (lead := lead) (from_ := from_) (key := key) d h ⟨r1, r2, r3, r4⟩ hi hn
      refine ⟨Z', ?_, ?_, e3⟩
      · rw [if_pos (hlt.mpr hn)]
        exact e1
      · rw [if_pos hn]; exact e2
    · refine ⟨Z, ?_, ?_, HK_r⟩
      · rw [if_neg (fun e => hn (hlt.mp e))]
      · rw [if_neg hn]; exact ⟨r1, r2, r3, r4⟩
  · have e1 : nI (s.2.2.2.2.2 i) - 1 = nI (s.2.2.2.2.2 i - 1) := nI_sub (b := 1) (by omega)
    obtain ⟨b1, b2, b3, b4⟩ := r3 (s.2.2.2.2.2 i - 1) (by omega)
    rw [if_neg (by rw [nI_pos1 (by omega)]; exact q), h_ck h, h_p8 h, x_rf, e1, gw_at d (by omega) (h_a3 h) (by omega), lt_bi_r, b2]
    by_cases q2 : s.2.2.1 (s.2.2.2.2.2 i - 1) < lead
    · rw [if_pos q2, if_neg (c := s.2.2.2.2.2 i ≠ 0 ∧ ¬ s.2.2.1 (s.2.2.2.2.2 i - 1) < lead) (fun e => e.2 q2), h_ck h]
      by_cases hn : s.1 < 1200
      · obtain ⟨Z', e1, e2, e3⟩ := h_new (M := M) (P := P) (Z := Z) (s := s) (i := i) (st := st) (lead := lead) (from_ := from_) (key := key) d h ⟨r1, r2, r3, r4⟩ hi hn
        refine ⟨Z', ?_, ?_, e3⟩
        · rw [if_pos (hlt.mpr hn)]
          exact e1
        · rw [if_pos hn]; exact e2
      · refine ⟨Z, ?_, ?_, HK_r⟩
        · rw [if_neg (fun e => hn (hlt.mp e))]
        · rw [if_neg hn]; exact ⟨r1, r2, r3, r4⟩
    · refine ⟨Z, ?_, ?_, HK_r⟩
      · rw [if_neg q2]
      · rw [if_pos ⟨q, q2⟩]; exact ⟨r1, r2, r3, r4⟩
end Dc
