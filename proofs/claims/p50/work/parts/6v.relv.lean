/-! THE RELATION, rows that shame: the class's search, nodes and slots -/
noncomputable def HPp (p : XP) : HP := (bI p.1, p.2.1, p.2.2.1, p.2.2.2)
def xOk (p : XP) : List Nat → Prop
  | [] => True
  | k :: u => xOk p u ∧ k < p.2.2.2 ∧ k ≤ fA (xR p u).1 ∧ (xR p (k :: u)).2 ≤ 16
/-- the first nodes: their rows -/
def XB (p : XP) (R : Nat → List Nat) (e : Nat) (s : HS) : Prop := e ≤ s.1 ∧ R 0 = [] ∧ ∀ j, j < e → s.2.1 j = iL (xR p (R j)).1 ∧ s.2.2.1 j = nI (xR p (R j)).2 - 16 ∧ (0 < j → ∃ i k, i < j ∧ s.2.2.2.1 j = nI i ∧ s.2.2.2.2.1 j = nI k ∧ R j = k :: R i) ∧ xOk p (R j) ∧ (R j).length ≤ 12
noncomputable def xH (p : XP) (w : List Nat) : Nat := hSlot (iL (xR p w).1)
/-- the slots -/
def XTs (p : XP) (R : Nat → List Nat) (n : Nat) (sl : Nat → Nat) : Prop :=
  (∀ i, i < 2048 → sl i ≤ n) ∧ (∀ i, i < 2048 → sl i ≠ 0 → ∃ t, t < 2048 ∧ i = (xH p (R (sl i - 1)) + t) % 2048 ∧ ∀ v, v < t → sl ((xH p (R (sl i - 1)) + v) % 2048) ≠ 0) ∧
  (∀ j, j < n → ∃ i, i < 2048 ∧ sl i ≠ 0 ∧ (xR p (R (sl i - 1))).1 = (xR p (R j)).1 ∧ (xR p (R j)).2 ≤ (xR p (R (sl i - 1))).2) ∧
  ∀ i i', i < 2048 → i' < 2048 → sl i ≠ 0 → sl i' ≠ 0 → (xR p (R (sl i - 1))).1 = (xR p (R (sl i' - 1))).1 → i = i'
def XI (p : XP) (R : Nat → List Nat) (n : Nat) : Prop := ∀ i j, i < j → j < n → num (R i) < num (R j) ∧ ((xR p (R i)).1 = (xR p (R j)).1 → (xR p (R i)).2 < (xR p (R j)).2)
def XZ (p : XP) (LM : Nat) (R : Nat → List Nat) (s : HS) : Prop := XB p R s.1 s ∧ XTs p R s.1 s.2.2.2.2.2 ∧ XI p R s.1 ∧ ∀ j, j < s.1 → (R j).length ≤ LM
/-- rows up to a length come to few codes -/
def CAP (p : XP) (LM : Nat) : Prop := ∃ (N : Nat) (f : Nat × Nat → Nat), N ≤ 1199 ∧ ∀ w, xOk p w → w.length ≤ LM → f (xR p w) < N ∧ ∀ w', xOk p w' → w'.length ≤ LM → f (xR p w) = f (xR p w') → xR p w = xR p w'
section Ryh
variable {a b c d e i j k m n t key LM nd len : Nat} {p : XP} {s s' : HS} {R R' : Nat → List Nat} {u v w x y : List Nat} {st : Int64} {lead from_ kk : Int32} {sl : Nat → Nat}
theorem pig : ∀ (m n : Nat) (f : Nat → Nat), (∀ i, i < n → f i < m) → (∀ i j, i < j → j < n → f i ≠ f j) → n ≤ m
  | 0, n, f, h, _ => by
    cases n with
    | zero => exact Nat.le_refl _
    | succ n => exact absurd (h 0 (by omega)) (Nat.not_lt_zero _)
  | m + 1, 0, f, _, _ => Nat.zero_le _
  | m + 1, n + 1, f, h, hi => by
    have := pig m n (fun i => if f i = m then f n else f i) (fun i hin => by
      have h1 := h i (by omega)
      have h2 := h n (by omega)
      have h3 := hi i n hin (by omega)
      show (if f i = m then f n else f i) < m
      split <;> omega) (fun i j hij hj => by
      have h1 := hi i j hij (by omega)
      have h2 := hi i n (by omega) (by omega)
      have h3 := hi j n (by omega) (by omega)
      show (if f i = m then f n else f i) ≠ (if f j = m then f n else f j)
      split <;> split <;> omega)
    omega
theorem xOk_can : ∀ (u : List Nat), xOk p u → xCan p u
  | [], _ => True.intro
  | _ :: u, h => ⟨xOk_can u h.1, h.2.1, h.2.2.1⟩
theorem xOk_16 : ∀ (u : List Nat), xOk p u → (xR p u).2 ≤ 16
  | [], _ => Nat.le_refl _
  | _ :: _, h => h.2.2.2
theorem CV_lt (hp : XPO p) (h : CV p c) : c < 6597069766656 ∧ fL c < 65536 ∧ fG c < 16777216 ∧ fA c ≤ 5 ∧ c = fL c + 65536 * fG c + 1099511627776 * fA c := by
  have h3 := h.2.2
  unfold fA at h3
  unfold fL fG fA
  omega
theorem ex_l : Int64.toInt32 (iL c &&& 65535) = nI (fL c) := by
  apply uN_inj
  rw [uN_64, uL_and, uL_iL, uN_nI, show (65535 : Int64) = iL 65535 from rfl, uL_iL, show 65535 % 18446744073709551616 = 2 ^ 16 - 1 by decide, Nat.and_two_pow_sub_one_eq_mod]
  unfold fL
  omega
theorem ex_g (h : c < 6597069766656) : Int64.toInt32 (lt_lus (iL c) 16 &&& 16777215) = nI (fG c) := by
  apply uN_inj
  rw [uN_64, uL_and, show (16 : Int32) = nI 16 from rfl, uL_lus (by omega), uL_iL, uN_nI, show (16777215 : Int64) = iL 16777215 from rfl, uL_iL, show 16777215 % 18446744073709551616 = 2 ^ 24 - 1 by decide, Nat.and_two_pow_sub_one_eq_mod, Nat.shiftRight_eq_div_pow]
  unfold fG
  omega
theorem ex_a (h : c < 6597069766656) : Int64.toInt32 (lt_lus (iL c) 40) = nI (fA c) := by
  apply uN_inj
  rw [uN_64, show (40 : Int32) = nI 40 from rfl, uL_lus (by omega), uL_iL, uN_nI, Nat.shiftRight_eq_div_pow]
  unfold fA
  omega
theorem ex_there (hp : XPO p) (h : CV p c) (hk : k < 5) : hThere (HPp p) (nI (fL c)) (nI (fG c)) (nI (fA c)) k = iL (xN p c k) := by
  obtain ⟨p1, p2, p3, p4, p5⟩ := hp
  obtain ⟨h1, h2, h3⟩ := h
  have c1 := pw4 p2
  have c2 := pw16 p4
  have b1 := hBehind_k p.1 (l := p.2.1 - 1) (c := fL c) (k := k) (by omega) (by omega) (by rw [Nat.sub_add_cancel p1]; exact h1)
  have b2 := hBehind_k p.1 (l := p.2.2.1 - 1) (c := fG c) (k := k) (by omega) (by omega) (by rw [Nat.sub_add_cancel p3]; exact h2)
  have l1 := kBh_lt p.1 (l := p.2.1 - 1) (c := fL c) (k := k) (by omega) (by omega) (by rw [Nat.sub_add_cancel p1]; exact h1)
  have l2 := kBh_lt p.1 (l := p.2.2.1 - 1) (c := fG c) (k := k) (by omega) (by omega) (by rw [Nat.sub_add_cancel p3]; exact h2)
  rw [Nat.sub_add_cancel p1] at b1 l1
  rw [Nat.sub_add_cancel p3] at b2 l2
  have e3 : (if nI (fA c) < nI k + 1 then nI k + 1 else nI (fA c)) = nI (if fA c < k + 1 then k + 1 else fA c) := by
    rw [show nI k + 1 = nI (k + 1) from lt_iA (j := k) (k := 1)]
    by_cases q : fA c < k + 1
    · rw [if_pos q, if_pos ((nI_ltP (by omega) (by omega)).mpr q)]
    · rw [if_neg q, if_neg (fun z => q ((nI_ltP (by omega) (by omega)).mp z))]
  unfold hThere HPp xN
  dsimp only
  rw [b1, b2, e3]
  have h3' : (if fA c < k + 1 then k + 1 else fA c) ≤ 5 := by split <;> omega
  generalize kBh p.1 p.2.1 (fL c) k = X at l1
  generalize kBh p.1 p.2.2.1 (fG c) k = Y at l2
  generalize (if fA c < k + 1 then k + 1 else fA c) = Z at h3'
  apply uL_inj
  rw [uL_or, uL_or, show (16 : Int32) = nI 16 from rfl, show (40 : Int32) = nI 40 from rfl, uL_lsl (by omega), uL_lsl (by omega), uL_32 (by omega), uL_32 (by omega), uL_32 (by omega), uL_iL, uL_iL, uL_iL, uL_iL, Nat.mod_eq_of_lt (a := X) (by omega), Nat.mod_eq_of_lt (a := Y) (by omega), Nat.mod_eq_of_lt (a := Z) (by omega), Nat.shiftLeft_eq, Nat.shiftLeft_eq, Nat.mod_eq_of_lt (a := Y * 2 ^ 16) (by omega), Nat.mod_eq_of_lt (a := Z * 2 ^ 40) (by omega), Nat.mod_eq_of_lt (a := X + 65536 * Y + 1099511627776 * Z) (by omega)]
  have o1 := or_add (a := X) (n := 4) (b := Y) (by omega)
  have o2 := or_add (a := X + Y * 16 ^ 4) (n := 10) (b := Z) (by omega)
  rw [show (2 : Nat) ^ 16 = 16 ^ 4 by decide, show (2 : Nat) ^ 40 = 16 ^ 10 by decide, o1, o2]
  omega
theorem ex_gain (hL : fL c < 16777216) (hG : fG c < 16777216) (hk : k < 7) : hGain (nI (fL c)) (nI (fG c)) k = bI (htk (fL c) k) - bI (htk (fG c) k) := by
  unfold hGain htk
  rw [hPlace_k hk hL, hPlace_k hk hG, beq_e, beq_e]
  congr 1
  · by_cases q : kPl (k + 1) 6 (fL c) = 6
    · rw [if_pos q, if_pos rfl, decide_eq_true q]; rfl
    · rw [if_neg q, if_neg (fun z => by cases z), decide_eq_false q]; rfl
  · by_cases q : kPl (k + 1) 6 (fG c) = 6
    · rw [if_pos q, if_pos rfl, decide_eq_true q]; rfl
    · rw [if_neg q, if_neg (fun z => by cases z), decide_eq_false q]; rfl
theorem ld_i (ha : a < 1000) : (nI a - 16).toInt = (a : Int) - 16 := by
  rw [Int32.toInt_sub, lt_iT (by omega), show (16 : Int32).toInt = 16 from rfl, Int.bmod_eq_of_le (by omega) (by omega)]
theorem ld_lt (ha : a < 1000) (hb : b < 1000) : (nI a - 16 < nI b - 16) ↔ a < b := by
  rw [Int32.lt_iff_toInt_lt, ld_i ha, ld_i hb]; omega
theorem ld_0 (ha : a < 1000) : (0 < nI a - 16) ↔ 16 < a := by
  rw [Int32.lt_iff_toInt_lt, ld_i ha, show (0 : Int32).toInt = 0 from rfl]; omega
theorem ld_g {x y : Bool} (ha : a < 900) (h1 : 1 ≤ a) : nI a - 16 + (bI x - bI y) = nI (a + x.toNat - y.toNat) - 16 := by
  apply Int32.toInt.inj
  have hx : (bI x).toInt = (x.toNat : Int) := by cases x <;> rfl
  have hy : (bI y).toInt = (y.toNat : Int) := by cases y <;> rfl
  have t1 := tN x
  have t2 := tN y
  rw [Int32.toInt_add, ld_i (by omega), ld_i (by omega), Int32.toInt_sub, hx, hy, Int.bmod_eq_of_le (n := (x.toNat : Int) - y.toNat) (by omega) (by omega), Int.bmod_eq_of_le (by omega) (by omega)]
  omega
theorem iL_inj (ha : a < 6597069766656) (hb : b < 6597069766656) (h : iL a = iL b) : a = b := by
  have := congrArg uL h
  rw [uL_iL' (by omega), uL_iL' (by omega)] at this
  exact this
theorem xR_lt (hp : XPO p) (h : xOk p w) : (xR p w).1 < 6597069766656 := (CV_lt hp (xR_CV hp w (xOk_can w h))).1
theorem xR_lead (hl : w.length ≤ 13) : 3 ≤ (xR p w).2 ∧ (xR p w).2 < 100 := by
  have := xR_b (p := p) (u := w)
  omega
/-- few nodes -/
theorem XZ_cap (h : XZ p LM R s) (hc : CAP p LM) : s.1 ≤ 1199 := by
  obtain ⟨N, f, hN, hf⟩ := hc
  obtain ⟨hB, hT, hI, hL⟩ := h
  have := pig N s.1 (fun j => f (xR p (R j))) (fun j hj => (hf _ (hB.2.2 j hj).2.2.2.1 (hL j hj)).1) (fun i j hij hj e => by
    have e2 := (hf _ (hB.2.2 i (by omega)).2.2.2.1 (hL i (by omega))).2 _ (hB.2.2 j hj).2.2.2.1 (hL j hj) e
    have := (hI i j hij hj).2 (by rw [e2])
    rw [e2] at this
    omega)
  omega
theorem sl_st (h : XB p R s.1 s) (hj : j < s.1) (hp : XPO p) (hw : xOk p w) : s.2.1 j = iL (xR p w).1 ↔ (xR p (R j)).1 = (xR p w).1 := by
  obtain ⟨e1, -, -, e4, -⟩ := h.2.2 j hj
  rw [e1]
  exact ⟨fun e => iL_inj (xR_lt hp e4) (xR_lt hp hw) e, fun e => by rw [e]⟩
/-- the slots looked at -/
theorem probe {h0 : Nat} (h2 : h0 < 2048) : ∀ (m t : Nat), ∃ t', t ≤ t' ∧ t' ≤ t + m ∧ hProbe s st m ((h0 + t) % 2048) = (h0 + t') % 2048 ∧ (∀ v, t ≤ v → v < t' → s.2.2.2.2.2 ((h0 + v) % 2048) ≠ 0 ∧ s.2.1 (s.2.2.2.2.2 ((h0 + v) % 2048) - 1) ≠ st) ∧ (t' = t + m ∨ s.2.2.2.2.2 ((h0 + t') % 2048) = 0 ∨ s.2.1 (s.2.2.2.2.2 ((h0 + t') % 2048) - 1) = st)
  | 0, t => ⟨t, Nat.le_refl _, Nat.le_refl _, rfl, fun v h1 h2 => by omega, Or.inl rfl⟩
  | m + 1, t => by
    have e : hProbe s st (m + 1) ((h0 + t) % 2048) = if s.2.2.2.2.2 ((h0 + t) % 2048) = 0 then (h0 + t) % 2048 else if s.2.1 (s.2.2.2.2.2 ((h0 + t) % 2048) - 1) = st then (h0 + t) % 2048 else hProbe s st m (if (h0 + t) % 2048 + 1 < 2048 then (h0 + t) % 2048 + 1 else 0) := rfl
    rw [e]
    by_cases q1 : s.2.2.2.2.2 ((h0 + t) % 2048) = 0
    · rw [if_pos q1]
      exact ⟨t, Nat.le_refl _, by omega, rfl, fun v h1 h2 => by omega, Or.inr (Or.inl q1)⟩
    · rw [if_neg q1]
      by_cases q2 : s.2.1 (s.2.2.2.2.2 ((h0 + t) % 2048) - 1) = st
      · rw [if_pos q2]
        exact ⟨t, Nat.le_refl _, by omega, rfl, fun v h1 h2 => by omega, Or.inr (Or.inr q2)⟩
      · rw [if_neg q2]
        have en : (if (h0 + t) % 2048 + 1 < 2048 then (h0 + t) % 2048 + 1 else 0) = (h0 + (t + 1)) % 2048 := by split <;> omega
        obtain ⟨t', a1, a2, a3, a4, a5⟩ := probe h2 m (t + 1)
        rw [en]
        refine ⟨t', by omega, by omega, a3, fun v h1 h2 => ?_, ?_⟩
        · by_cases z : v = t
          · rw [z]; exact ⟨q1, q2⟩
          · exact a4 v (by omega) h2
        · rcases a5 with z | z | z
          · exact Or.inl (by omega)
          · exact Or.inr (Or.inl z)
          · exact Or.inr (Or.inr z)
/-- where a row's code is, or can be put -/
theorem X_slot (hp : XPO p) (h : XZ p LM R s) (hn : s.1 ≤ 1199) (hw : xOk p w) : ∃ i t, i = hProbe s (iL (xR p w).1) 2048 (hSlot (iL (xR p w).1)) ∧ i < 2048 ∧ t < 2048 ∧ i = (xH p w + t) % 2048 ∧ (∀ v, v < t → s.2.2.2.2.2 ((xH p w + v) % 2048) ≠ 0) ∧
    ((s.2.2.2.2.2 i = 0 ∧ ∀ i', i' < 2048 → s.2.2.2.2.2 i' ≠ 0 → (xR p (R (s.2.2.2.2.2 i' - 1))).1 ≠ (xR p w).1) ∨ (s.2.2.2.2.2 i ≠ 0 ∧ (xR p (R (s.2.2.2.2.2 i - 1))).1 = (xR p w).1)) := by
  obtain ⟨hB, ⟨T1, T2, T3, T4⟩, hI, hL⟩ := h
  have hs : xH p w < 2048 := (hSlot_lt (st := iL (xR p w).1)).1
  obtain ⟨t, a1, a2, a3, a4, a5⟩ := probe (s := s) (st := iL (xR p w).1) hs 2048 0
  rw [Nat.add_zero, Nat.mod_eq_of_lt hs] at a3
  have hemp : ∃ i, i < 2048 ∧ s.2.2.2.2.2 i = 0 := by
    refine Classical.byContradiction fun hne => ?_
    have hall : ∀ i, i < 2048 → s.2.2.2.2.2 i ≠ 0 := fun i hi e => hne ⟨i, hi, e⟩
    have := pig s.1 2048 (fun i => s.2.2.2.2.2 i - 1) (fun i hi => by have := hall i hi; have := T1 i hi; omega) (fun i j hij hj e => by
      have := T4 i j (by omega) hj (hall i (by omega)) (hall j hj) (by rw [show s.2.2.2.2.2 i - 1 = s.2.2.2.2.2 j - 1 from e])
      omega)
    omega
  have ht : t < 2048 := by
    refine Nat.lt_of_not_le fun hle => ?_
    obtain ⟨i, hi, e⟩ := hemp
    have := (a4 ((i + 2048 - xH p w) % 2048) (by omega) (by omega)).1
    rw [show (xH p w + (i + 2048 - xH p w) % 2048) % 2048 = i by omega] at this
    exact this e
  refine ⟨(xH p w + t) % 2048, t, a3.symm, by omega, ht, rfl, fun v hv => (a4 v (by omega) hv).1, ?_⟩
  by_cases q : s.2.2.2.2.2 ((xH p w + t) % 2048) = 0
  · refine Or.inl ⟨q, fun i' hi' hne e => ?_⟩
    obtain ⟨t1, b1, b2, b3⟩ := T2 i' hi' hne
    have e' : xH p (R (s.2.2.2.2.2 i' - 1)) = xH p w := by unfold xH; rw [e]
    rw [e'] at b2 b3
    rcases Nat.lt_trichotomy t t1 with z | z | z
    · exact b3 t z q
    · rw [z, ← b2] at q; exact hne q
    · have := (a4 t1 (by omega) z).2
      rw [← b2] at this
      have hlt : s.2.2.2.2.2 i' - 1 < s.1 := by have := T1 i' hi'; omega
      exact this ((sl_st hB hlt hp hw).mpr e)
  · refine Or.inr ⟨q, ?_⟩
    rcases a5 with z | z | z
    · omega
    · exact absurd z q
    · have hlt : s.2.2.2.2.2 ((xH p w + t) % 2048) - 1 < s.1 := by have := T1 ((xH p w + t) % 2048) (by omega); omega
      exact (sl_st hB hlt hp hw).mp z
theorem u1_o {α : Type} {f : Nat → α} {x : α} (h : b ≠ a) : u1 f a x b = f b := u1_n h
/-- one more node -/
theorem X_add (hp : XPO p) (h : XZ p LM R s) (hw : xOk p (k :: R nd)) (hnd : nd < s.1) (hwl : (k :: R nd).length ≤ LM) (hLM : LM ≤ 12) (hbig : ∀ j, j < s.1 → num (R j) < num (k :: R nd)) (hi : i < 2048) (ht : t < 2048) (hit : i = (xH p (k :: R nd) + t) % 2048)
    (hgap : ∀ v, v < t → s.2.2.2.2.2 ((xH p (k :: R nd) + v) % 2048) ≠ 0) (hnew : ∀ i', i' < 2048 → i' ≠ i → s.2.2.2.2.2 i' ≠ 0 → (xR p (R (s.2.2.2.2.2 i' - 1))).1 ≠ (xR p (k :: R nd)).1) (hold : s.2.2.2.2.2 i ≠ 0 → (xR p (R (s.2.2.2.2.2 i - 1))).1 = (xR p (k :: R nd)).1 ∧ (xR p (R (s.2.2.2.2.2 i - 1))).2 < (xR p (k :: R nd)).2) :
    ∃ R', (∀ j, j < s.1 → R' j = R j) ∧ R' s.1 = k :: R nd ∧ XZ p LM R' (hAdd s i (iL (xR p (k :: R nd)).1) (nI (xR p (k :: R nd)).2 - 16) (nI nd) (nI k)) := by
  obtain ⟨hB, ⟨T1, T2, T3, T4⟩, hI, hL⟩ := h
  obtain ⟨B1, B2, B3⟩ := hB
  generalize hwe : k :: R nd = w at *
  let R' : Nat → List Nat := fun j => if j = s.1 then w else R j
  have r1 : ∀ j, j < s.1 → R' j = R j := fun j hj => if_neg (by omega)
  have r2 : R' s.1 = w := if_pos rfl
  have slA : ∀ i', i' < 2048 → (hAdd s i (iL (xR p w).1) (nI (xR p w).2 - 16) (nI nd) (nI k)).2.2.2.2.2 i' = if i' = i then s.1 + 1 else s.2.2.2.2.2 i' := fun i' hi' => rfl
  have rsl : ∀ i', i' < 2048 → i' ≠ i → s.2.2.2.2.2 i' ≠ 0 → R' (s.2.2.2.2.2 i' - 1) = R (s.2.2.2.2.2 i' - 1) := fun i' h1 h2 h3 => r1 _ (by have := T1 i' h1; omega)
  refine ⟨R', r1, r2, ⟨Nat.le_refl _, ?_, fun j hj => ?_⟩, ⟨?_, ?_, ?_, ?_⟩, ?_, ?_⟩
  · rw [r1 0 (by omega)]; exact B2
  · have hj' : j < s.1 + 1 := hj
    by_cases z : j = s.1
    · rw [z, r2]
      refine ⟨u1e, u1e, fun _ => ⟨nd, k, hnd, u1e, u1e, ?_⟩, hw, by omega⟩
      rw [r1 nd hnd]; exact hwe.symm
    · obtain ⟨e1, e2, e3, e4, e5⟩ := B3 j (by omega)
      rw [r1 j (by omega)]
      refine ⟨(u1_o z).trans e1, (u1_o z).trans e2, fun h0 => ?_, e4, e5⟩
      obtain ⟨i0, k0, g1, g2, g3, g4⟩ := e3 h0
      exact ⟨i0, k0, g1, (u1_o z).trans g2, (u1_o z).trans g3, by rw [r1 i0 (by omega)]; exact g4⟩
  · intro i' hi'
    rw [slA i' hi']
    show _ ≤ s.1 + 1
    have := T1 i' hi'
    split <;> omega
  · intro i' hi'
    rw [slA i' hi']
    have slv : ∀ v, (hAdd s i (iL (xR p w).1) (nI (xR p w).2 - 16) (nI nd) (nI k)).2.2.2.2.2 (v % 2048) = if v % 2048 = i then s.1 + 1 else s.2.2.2.2.2 (v % 2048) := fun v => slA _ (Nat.mod_lt _ (by decide))
    by_cases z : i' = i
    · rw [if_pos z]
      intro _
      rw [Nat.add_sub_cancel, r2]
      refine ⟨t, ht, by rw [z]; exact hit, fun v hv => ?_⟩
      rw [slv]
      split
      · omega
      · exact hgap v hv
    · rw [if_neg z]
      intro hne
      rw [rsl i' hi' z hne]
      obtain ⟨t1, g1, g2, g3⟩ := T2 i' hi' hne
      refine ⟨t1, g1, g2, fun v hv => ?_⟩
      rw [slv]
      split
      · omega
      · exact g3 v hv
  · intro j hj
    have hj' : j < s.1 + 1 := hj
    by_cases z : j = s.1
    · refine ⟨i, hi, ?_⟩
      rw [slA i hi, if_pos rfl, Nat.add_sub_cancel, z]
      exact ⟨by omega, rfl, Nat.le_refl _⟩
    · obtain ⟨i1, g1, g2, g3, g4⟩ := T3 j (by omega)
      rw [r1 j (by omega)]
      by_cases z2 : i1 = i
      · refine ⟨i, hi, ?_⟩
        rw [slA i hi, if_pos rfl, Nat.add_sub_cancel, r2]
        rw [z2] at g2 g3 g4
        obtain ⟨o1, o2⟩ := hold g2
        exact ⟨by omega, by rw [← o1]; exact g3, by omega⟩
      · refine ⟨i1, g1, ?_⟩
        rw [slA i1 g1, if_neg z2, rsl i1 g1 z2 g2]
        exact ⟨g2, g3, g4⟩
  · intro i1 i2 h1 h2
    rw [slA i1 h1, slA i2 h2]
    by_cases z1 : i1 = i
    · rw [if_pos z1]
      by_cases z2 : i2 = i
      · intro _ _ _; omega
      · rw [if_neg z2]
        intro _ n2
        rw [Nat.add_sub_cancel, r2, rsl i2 h2 z2 n2]
        intro e
        exact absurd e.symm (hnew i2 h2 z2 n2)
    · rw [if_neg z1]
      by_cases z2 : i2 = i
      · rw [if_pos z2]
        intro n1 _
        rw [Nat.add_sub_cancel, r2, rsl i1 h1 z1 n1]
        intro e
        exact absurd e (hnew i1 h1 z1 n1)
      · rw [if_neg z2]
        intro n1 n2
        rw [rsl i1 h1 z1 n1, rsl i2 h2 z2 n2]
        exact T4 i1 i2 h1 h2 n1 n2
  · intro i1 j1 hij hj
    have hj' : j1 < s.1 + 1 := hj
    rw [r1 i1 (by omega)]
    by_cases z : j1 = s.1
    · rw [z, r2]
      refine ⟨hbig i1 (by omega), fun e => ?_⟩
      obtain ⟨i2, g1, g2, g3, g4⟩ := T3 i1 (by omega)
      by_cases z2 : i2 = i
      · rw [z2] at g2 g3 g4
        have := (hold g2).2
        omega
      · exact absurd (g3.trans e) (hnew i2 g1 z2 g2)
    · rw [r1 j1 (by omega)]
      exact hI i1 j1 hij (by omega)
  · intro j hj
    have hj' : j < s.1 + 1 := hj
    by_cases z : j = s.1
    · rw [z, r2]; exact hwl
    · rw [r1 j (by omega)]; exact hL j (by omega)
/-- a row offered -/
theorem X_offer (hp : XPO p) (h : XZ p LM R s) (hc : CAP p LM) (hw : xOk p (k :: R nd)) (hnd : nd < s.1) (hwl : (k :: R nd).length ≤ LM) (hLM : LM ≤ 12) (hbig : ∀ j, j < s.1 → num (R j) < num (k :: R nd)) :
    ∃ R', (∀ j, j < s.1 → R' j = R j) ∧ s.1 ≤ (hOffer s (iL (xR p (k :: R nd)).1) (nI (xR p (k :: R nd)).2 - 16) (nI nd) (nI k)).1 ∧ XZ p LM R' (hOffer s (iL (xR p (k :: R nd)).1) (nI (xR p (k :: R nd)).2 - 16) (nI nd) (nI k)) ∧
      (∀ j, s.1 ≤ j → j < (hOffer s (iL (xR p (k :: R nd)).1) (nI (xR p (k :: R nd)).2 - 16) (nI nd) (nI k)).1 → R' j = k :: R nd) ∧ ∃ j, j < (hOffer s (iL (xR p (k :: R nd)).1) (nI (xR p (k :: R nd)).2 - 16) (nI nd) (nI k)).1 ∧ (xR p (R' j)).1 = (xR p (k :: R nd)).1 ∧ (xR p (k :: R nd)).2 ≤ (xR p (R' j)).2 ∧ num (R' j) ≤ num (k :: R nd) := by
  have hn := XZ_cap h hc
  obtain ⟨i, t, e1, hi, ht, hit, hgap, hcase⟩ := X_slot hp h hn hw
  have h0 := h
  obtain ⟨hB, ⟨T1, T2, T3, T4⟩, hI, hL⟩ := h
  unfold hOffer
  rw [← e1]
  unfold hPut
  have add : (∀ i', i' < 2048 → i' ≠ i → s.2.2.2.2.2 i' ≠ 0 → (xR p (R (s.2.2.2.2.2 i' - 1))).1 ≠ (xR p (k :: R nd)).1) → (s.2.2.2.2.2 i ≠ 0 → (xR p (R (s.2.2.2.2.2 i - 1))).1 = (xR p (k :: R nd)).1 ∧ (xR p (R (s.2.2.2.2.2 i - 1))).2 < (xR p (k :: R nd)).2) →
      ∃ R', (∀ j, j < s.1 → R' j = R j) ∧ s.1 ≤ (hAdd s i (iL (xR p (k :: R nd)).1) (nI (xR p (k :: R nd)).2 - 16) (nI nd) (nI k)).1 ∧ XZ p LM R' (hAdd s i (iL (xR p (k :: R nd)).1) (nI (xR p (k :: R nd)).2 - 16) (nI nd) (nI k)) ∧ (∀ j, s.1 ≤ j → j < (hAdd s i (iL (xR p (k :: R nd)).1) (nI (xR p (k :: R nd)).2 - 16) (nI nd) (nI k)).1 → R' j = k :: R nd) ∧ ∃ j, j < (hAdd s i (iL (xR p (k :: R nd)).1) (nI (xR p (k :: R nd)).2 - 16) (nI nd) (nI k)).1 ∧ (xR p (R' j)).1 = (xR p (k :: R nd)).1 ∧ (xR p (k :: R nd)).2 ≤ (xR p (R' j)).2 ∧ num (R' j) ≤ num (k :: R nd) := by
    intro hnew hold
    obtain ⟨R', r1, r2, r3⟩ := X_add hp h0 hw hnd hwl hLM hbig hi ht hit hgap hnew hold
    refine ⟨R', r1, Nat.le_succ _, r3, fun j hj0 hj => ?_, s.1, Nat.lt_succ_self _, by rw [r2], by rw [r2]; exact Nat.le_refl _, by rw [r2]; exact Nat.le_refl _⟩
    have hj' : j < s.1 + 1 := hj
    rw [show j = s.1 by omega, r2]
  rcases hcase with ⟨q, hq⟩ | ⟨q, hq⟩
  · rw [if_neg (fun z => z.1 q), if_pos (by omega)]
    exact add (fun i' h1 h2 h3 => hq i' h1 h3) (fun z => absurd q z)
  · have hlt : s.2.2.2.2.2 i - 1 < s.1 := by have := T1 i hi; omega
    obtain ⟨b1, b2, b3, b4, b5⟩ := hB.2.2 _ hlt
    have l1 := xR_lead (p := p) (w := R (s.2.2.2.2.2 i - 1)) (by omega)
    have l2 := xR_lead (p := p) (w := k :: R nd) (by omega)
    have ll := ld_lt (a := (xR p (R (s.2.2.2.2.2 i - 1))).2) (b := (xR p (k :: R nd)).2) (by omega) (by omega)
    rw [← b2] at ll
    by_cases z : (xR p (R (s.2.2.2.2.2 i - 1))).2 < (xR p (k :: R nd)).2
    · rw [if_neg (fun y => y.2 (ll.mpr z)), if_pos (by omega)]
      exact add (fun i' h1 h2 h3 e => h2 (T4 i' i h1 hi h3 q (e.trans hq.symm))) (fun _ => ⟨hq, z⟩)
    · rw [if_pos ⟨q, fun y => z (ll.mp y)⟩]
      exact ⟨R, fun _ _ => rfl, Nat.le_refl _, h0, fun j h1 h2 => absurd h2 (Nat.not_lt_of_le h1), _, hlt, hq, Nat.le_of_not_lt z, Nat.le_of_lt (hbig _ hlt)⟩
end Ryh
