/-! THE RELATION: shares, caches emptied and set up, the row cleared, a key told -/
section Rq'
variable {N L : Nat} {Q : (Nat → Int32) × (Nat → Int32)} {S S' : CS} {T : BT} {G : Nat → Nat → Int32} {H U U1 U2 U' A B : Nat → Int32} {V V' : Nat → Nat → Int32} {P : Nat → CS} {c k i j t e w r q n a g f b R : Nat} {kz kc kw : Nat → Int32} {W kf kf' fs : Nat → Nat} {ln room present write bits x y z m v v' fed rule lapse mode : Int32} {ahead : Option Nat}
theorem or_0 : (x ||| y = 0) ↔ (x = 0 ∧ y = 0) := by
  constructor
  · intro h
    have hb : ∀ i, i < 32 → bt x i = false ∧ bt y i = false := fun i hi => by
      have : bt (x ||| y) i = bt 0 i := by rw [h]
      rw [b_or, b_0] at this
      exact (Bool.or_eq_false_iff).mp this
    exact ⟨b_ext (fun i hi => by rw [(hb i hi).1, b_0]), b_ext (fun i hi => by rw [(hb i hi).2, b_0])⟩
  · rintro ⟨rfl, rfl⟩
    decide
theorem RT_o2 (h : RT S N U) (hi : 4 ≤ i ∧ i < 9) : RT S N (upd U i v) := by
  obtain ⟨c, q, b1, b2, b3, b4, b5, b6, b7⟩ := h
  have sp : ∀ k, k < 26 → SP (upd U i v) k = SP U k := fun k hk => by
    unfold SP
    rw [upd_o (by omega), upd_o (by omega), upd_o (by omega)]
  exact ⟨c, q, b1, (upd_o (by omega)).trans b2, b3, b4, ISO_sub b5 (fun _ _ e => e) (fun k hk _ => ⟨rfl, upd_o (by omega)⟩), ISO_sub b6 (fun _ _ e => e) (fun k hk _ => ⟨rfl, sp k hk⟩), ISO_sub b7 (fun _ _ e => e) (fun k hk _ => ⟨rfl, upd_o (by omega)⟩)⟩
/-- all but what is set up -/
def RY (N L : Nat) (Q : (Nat → Int32) × (Nat → Int32)) (S : CS) (U : Nat → Int32) : Prop :=
  HB (S.1 0 5) U 24 ∧ HB (S.1 0 6) U 154 ∧ HB (S.1 0 7) U 206 ∧ HB (S.1 0 9) U 180 ∧ RO' (S.1 0 5) (S.1 0 8) U ∧ RM' (S.1 0 5) (S.1 0 10) U ∧
  (∀ k, k < 26 → bt (S.1 0 5) k = true → S.1 2 k = U (128 + k)) ∧ RW' (S.1 0 5) (S.2 5) (S.2 0 11) L U ∧ RT S N U ∧ RN S U ∧ S.1 13 = Q.1 ∧ S.1 14 = Q.2
theorem RY_o (h : RY N L Q S U) (hi : 4 ≤ i ∧ i < 9) : RY N L Q S (upd U i v) := by
  obtain ⟨h2, h3, h4, h5, h6, h7, h8, h9, h10, ⟨c1, c2⟩, h12, h13⟩ := h
  exact ⟨HB_o h2 (by omega), HB_o h3 (by omega), HB_o h4 (by omega), HB_o h5 (by omega), RO_o h6 (by omega), RM_o h7 (by omega), fun k hk hb => (h8 k hk hb).trans (upd_o (by omega)).symm, RW_o h9 (by omega), RT_o2 h10 hi, ⟨fun j hj => (c1 j hj).trans (upd_o (by omega)).symm, fun k hk => ⟨(c2 k hk).1.trans (upd_o (by omega)).symm, (c2 k hk).2.trans (upd_o (by omega)).symm⟩⟩, h12, h13⟩
theorem share_8 {a b c d : Nat} (ha : a ≤ 20) (hb : b ≤ 20) (hc : c ≤ 20) (hd : d ≤ 20) : (if 0 < nI a + nI b + nI c + nI d then (1 : Int32) else 0) = if ((nI a ||| nI b) ||| nI c) ||| nI d = 0 then 0 else 1 := by
  rw [lt_iA, lt_iA, lt_iA]
  have z : ∀ n, n ≤ 20 → ((nI n = 0) ↔ n = 0) := fun n hn => lt_iE (j := n) (k := 0) (by omega) (by omega)
  have e1 : ((0 : Int32) < nI (a + b + c + d)) ↔ 0 < a + b + c + d := lt_iL (j := 0) (k := a + b + c + d) (by omega) (by omega)
  by_cases q : 0 < a + b + c + d
  · rw [if_pos (e1.mpr q), if_neg (fun e => ?_)]
    obtain ⟨⟨⟨h1, h2⟩, h3⟩, h4⟩ := (or_0.trans (and_congr_left' (or_0.trans (and_congr_left' or_0)))).mp e
    rw [z a ha] at h1
    rw [z b hb] at h2
    rw [z c hc] at h3
    rw [z d hd] at h4
    omega
  · have : a = 0 ∧ b = 0 ∧ c = 0 ∧ d = 0 := by omega
    obtain ⟨rfl, rfl, rfl, rfl⟩ := this
    decide
theorem RC_share (h : RC kf f t S U U1 U2) {a b c d : Nat} (ha : a ≤ 20) (hb : b ≤ 20) (hc : c ≤ 20) (hd : d ≤ 20) : RC kf f t (kShare S (nI a) (nI b) (nI c) (nI d)) (qShare U (nI a) (nI b) (nI c) (nI d)) U1 U2 := by
  obtain ⟨h1, h2, h3, h4, h5, h6', ⟨h7, h8, h9⟩, s1, s2, h10'⟩ := h
  obtain ⟨⟨f1, f2, f3, f4, f5, f6⟩, hy⟩ := h1
  have gg : ∀ w, w < 4 ∨ 9 ≤ w → qShare U (nI a) (nI b) (nI c) (nI d) w = U w := fun w hw => by
    unfold qShare
    rw [upd_o (by omega), upd_o (by omega), upd_o (by omega), upd_o (by omega), upd_o (by omega)]
  have hy' : RY (2800 * (t - f)) (840000 * (2 * (t - f))) (S.1 13, S.1 14) S (qShare U (nI a) (nI b) (nI c) (nI d)) := RY_o (RY_o (RY_o (RY_o (RY_o hy (by omega)) (by omega)) (by omega)) (by omega)) (by omega)
  refine ⟨⟨⟨fun j hj => (f1 j hj).trans (gg j (by omega)).symm, fun j hj => ?_, ?_, ?_, ?_, ?_⟩, hy'⟩, (gg 9 (by omega)).trans h2, h3, h4, h5, h6', ⟨h7, h8, fun i hi => by rw [gg _ (by omega)]; exact h9 i hi⟩, ?_, ?_, fun q => h10' (by rw [← gg 0 (by omega)]; exact q)⟩
  · have : j = 0 ∨ j = 1 ∨ j = 2 ∨ j = 3 := by omega
    unfold qShare
    rcases this with rfl | rfl | rfl | rfl
    · show nI a = _
      rw [upd_o (by omega), upd_o (by omega), upd_o (by omega), upd_o (by omega), upd_s]
    · show nI b = _
      rw [upd_o (by omega), upd_o (by omega), upd_o (by omega), upd_s]
    · show nI c = _
      rw [upd_o (by omega), upd_o (by omega), upd_s]
    · show nI d = _
      rw [upd_o (by omega), upd_s]
  · have e : kHasSh (kShare S (nI a) (nI b) (nI c) (nI d)) = ((nI a ||| nI b) ||| nI c) ||| nI d := rfl
    rw [e, ← share_8 ha hb hc hd]
    unfold qShare
    rw [upd_s]
  · rw [gg 0 (by omega)]; exact f4
  · rw [gg 1 (by omega)]; exact f5
  · rw [gg 3 (by omega)]; exact f6
  · rw [gg 1 (by omega)]; exact s1
  · rw [gg 1 (by omega)]; exact s2
theorem qE_lo (hw : w < 9) : qEmpty U fed w = U w := by
  unfold qEmpty
  rw [if_neg (by omega), if_neg (by omega), if_neg (by omega)]
theorem qE_9 : qEmpty U fed 9 = fed := if_pos rfl
theorem qE_0 (h : 10 ≤ w) (h2 : w < 362) : qEmpty U fed w = 0 := by
  unfold qEmpty
  rw [if_neg (by omega), if_pos (by omega)]
theorem qE_hi (h : 362 ≤ w) (h2 : w < 662) : qEmpty U fed w = -1 := by
  unfold qEmpty
  rw [if_neg (by omega), if_neg (by omega), if_pos (by omega)]
theorem kE_s : (∀ j, j < 4 → (kEmpty S fed).1 0 j = S.1 0 j) ∧ (kEmpty S fed).1 1 = S.1 1 ∧ (kEmpty S fed).1 0 5 = 0 ∧ (kEmpty S fed).1 0 6 = 0 ∧ (kEmpty S fed).1 0 7 = 0 ∧ (kEmpty S fed).1 0 8 = 0 ∧ (kEmpty S fed).1 0 9 = 0 ∧ (kEmpty S fed).1 0 10 = 0 ∧ (kEmpty S fed).1 0 12 = 0 := by
  unfold kEmpty kStart cfI cfL
  refine ⟨fun j hj => ?_, ?_, ?_, ?_, ?_, ?_, ?_, ?_, ?_⟩ <;> simp (disch := omega) only [cwi_1, cwi_2, cwl_1, cwl_2, z2_eq, z2_n1, z2_n2, u1_n]
theorem kE_t : (kEmpty S fed).2 0 11 = 0 ∧ (kEmpty S fed).1 6 6 = fed ∧ (kEmpty S fed).1 6 7 = fed ∧ (kEmpty S fed).1 13 0 = 0 ∧ (kEmpty S fed).1 13 1 = 0 ∧ (kEmpty S fed).1 14 0 = 0 ∧ (kEmpty S fed).1 14 1 = 0 := by
  unfold kEmpty kStart cfI cfL
  refine ⟨?_, ?_, ?_, ?_, ?_, ?_, ?_⟩ <;> simp (disch := omega) only [cwi_1, cwi_2, cwl_1, cwl_2, z2_eq, z2_n1, z2_n2, u1_n]
theorem kE_r : (∀ j, j < 9 → (kEmpty S fed).1 7 j = 0) ∧ (∀ j, j < 26 → (kEmpty S fed).1 8 j = 0) ∧ (∀ j, j < 26 → (kEmpty S fed).1 9 j = 0) ∧ (∀ j, j < 26 → (kEmpty S fed).2 11 j = -1) ∧ ∀ j, j < 26 → (kEmpty S fed).2 12 j = 0 := by
  unfold kEmpty kStart cfI cfL
  refine ⟨fun j hj => ?_, fun j hj => ?_, fun j hj => ?_, fun j hj => ?_, fun j hj => ?_⟩ <;> simp (disch := omega) only [cwi_1, cwi_2, cwl_1, cwl_2, z2_eq, z2_n1, z2_n2, u1_n, u1e] <;> exact if_pos hj
theorem RX_empty (hR : RF S U) : RX 0 0 ((kEmpty S fed).1 13, (kEmpty S fed).1 14) (kEmpty S fed) (qEmpty U fed) := by
  obtain ⟨s0, s1, s5, s6, s7, s8, s9, s10, s12⟩ := kE_s (S := S) (fed := fed)
  obtain ⟨t11, -⟩ := kE_t (S := S) (fed := fed)
  obtain ⟨r7, r8, r9, -⟩ := kE_r (S := S) (fed := fed)
  have hb : ∀ w, 10 ≤ w → w + 26 ≤ 362 → HB 0 (qEmpty U fed) w := fun w h1 h2 => ⟨KS_0, fun k hk => by rw [qE_0 (by omega) (by omega), b_0]; rfl⟩
  refine ⟨RF_q hR s0 s1 (fun w hw => qE_lo hw), by rw [s5]; exact hb 24 (by omega) (by omega), by rw [s6]; exact hb 154 (by omega) (by omega), by rw [s7]; exact hb 206 (by omega) (by omega), by rw [s9]; exact hb 180 (by omega) (by omega), ?_, ?_, ?_, ?_, ?_, ?_, rfl, rfl⟩
  · rw [s5, s8]
    exact ⟨KS_0, fun k _ h => (by rw [b_0] at h; cases h), fun k _ h => (by rw [b_0] at h; cases h)⟩
  · rw [s5, s10]
    exact ⟨KS_0, fun k _ h => (by rw [b_0] at h; cases h), fun k hk => ⟨fun h => (by rw [b_0] at h; cases h), fun _ => qE_0 (by omega) (by omega)⟩⟩
  · intro k _ h
    rw [s5, b_0] at h
    cases h
  · rw [s5, t11]
    exact ⟨⟨0, Nat.le_refl _, qE_0 (by omega) (by omega), by decide⟩, fun k _ h => (by rw [b_0] at h; cases h)⟩
  · refine ⟨0, 0, s12, qE_0 (by omega) (by omega), Nat.le_refl _, Nat.le_refl _, ?_, ?_, ?_⟩
    · rw [s5]; exact ISO_0
    · rw [s5]; exact ISO_0
    · rw [s10]; exact ISO_0
  · exact ⟨fun j hj => (r7 j hj).trans (qE_0 (by omega) (by omega)).symm, fun k hk => ⟨(r8 k hk).trans (qE_0 (by omega) (by omega)).symm, (r9 k hk).trans (qE_0 (by omega) (by omega)).symm⟩⟩
/-- a shadow's set-up -/
def SU (r : Nat) (room : Int32) (U : Nat → Int32) : Prop := U 0 = nI r ∧ U 1 = room ∧ U 3 = 0 ∧ U 8 = 0
theorem RH1_empty (hr : r = 0 ∨ r = 1) (h : SU r room U) {gg : Nat → Int64} : RH1 r room n 0 n 0 0 gg (qEmpty U (nI n)) :=
  ⟨hr, (qE_lo (by omega)).trans h.1, (qE_lo (by omega)).trans h.2.1, (qE_lo (by omega)).trans h.2.2.1, (qE_lo (by omega)).trans h.2.2.2, qE_9, ⟨KS_0, fun k hk => by rw [qE_0 (by omega) (by omega), b_0]; rfl⟩, qE_0 (by omega) (by omega), 0, Nat.le_refl _, qE_0 (by omega) (by omega), fun _ => ISO_0⟩
theorem RC_empty (hR : RF S U) (hn : n ≤ 300) (h1 : SU 0 (U 1) U1) (h2 : SU 1 (U 1) U2) : RC kf n n (kEmpty S (nI n)) (qEmpty U (nI n)) (qEmpty U1 (nI n)) (qEmpty U2 (nI n)) := by
  obtain ⟨-, t66, t67, t130, t131, t140, t141⟩ := kE_t (S := S) (fed := nI n)
  obtain ⟨-, -, -, r11, r12⟩ := kE_r (S := S) (fed := nI n)
  refine ⟨RX_mono (RX_empty hR) (Nat.zero_le _) (Nat.zero_le _), qE_9, Nat.le_refl _, hn, LsA_0 r11 (Nat.le_refl _), FewA_0 r12 (Nat.le_refl _), ⟨t66, t67, fun i hi => ?_⟩, ?_, ?_, fun _ => ⟨t130, t140⟩⟩
  · rw [qE_hi (by omega) (by omega), if_neg (by omega)]
  · rw [t130, t131, qE_lo (by omega)]
    exact RH1_mono (RH1_empty (Or.inl rfl) h1) (Nat.zero_le _) (Nat.le_refl _) (fun _ _ _ => rfl)
  · rw [t140, t141, qE_lo (by omega)]
    exact RH1_mono (RH1_empty (Or.inr rfl) h2) (Nat.zero_le _) (Nat.le_refl _) (fun _ _ _ => rfl)
theorem RC_SU (h : RC kf f t S U U1 U2) : RF S U ∧ SU 0 (U 1) U1 ∧ SU 1 (U 1) U2 := by
  obtain ⟨h1, -, -, -, -, -, -, s1, s2, -⟩ := h
  exact ⟨h1.1, ⟨s1.2.1, s1.2.2.1, s1.2.2.2.1, s1.2.2.2.2.1⟩, ⟨s2.2.1, s2.2.2.1, s2.2.2.2.1, s2.2.2.2.2.1⟩⟩
theorem kSetUp_f : (∀ j, 4 ≤ j → (kSetUp S rule room lapse mode).1 0 j = S.1 0 j) ∧ (kSetUp S rule room lapse mode).1 0 0 = rule ∧ (kSetUp S rule room lapse mode).1 0 1 = room ∧ (kSetUp S rule room lapse mode).1 0 2 = lapse ∧ (kSetUp S rule room lapse mode).1 0 3 = mode ∧ ∀ j, j < 4 → (kSetUp S rule room lapse mode).1 1 j = 0 := by
  unfold kSetUp cfI
  refine ⟨fun j hj => ?_, ?_, ?_, ?_, ?_, fun j hj => ?_⟩ <;> simp (disch := omega) only [cwi_1, cwi_2, z2_eq, z2_n1, z2_n2, u1_n, u1e]
  exact if_pos hj
/-- what setCache() takes -/
def SOK (rule room lapse mode : Int32) : Prop := (∃ r, r < 7 ∧ rule = nI r) ∧ (∃ m, 1 ≤ m ∧ m ≤ 20 ∧ room = nI m) ∧ ∃ m, m < 4 ∧ mode = nI m
theorem RF_setUp (h : SOK rule room lapse mode) {U : Nat → Int32} (u0 : U 0 = rule) (u1 : U 1 = room) (u2 : U 2 = lapse) (u3 : U 3 = mode) (u4 : ∀ j, j < 5 → U (4 + j) = 0) : RF (kSetUp S rule room lapse mode) U := by
  obtain ⟨-, k0, k1, k2, k3, k4⟩ := kSetUp_f (S := S) (rule := rule) (room := room) (lapse := lapse) (mode := mode)
  refine ⟨fun j hj => ?_, fun j hj => (k4 j hj).trans (u4 j (by omega)).symm, ?_, by rw [u0]; exact h.1, by rw [u1]; exact h.2.1, by rw [u3]; exact h.2.2⟩
  · have : j = 0 ∨ j = 1 ∨ j = 2 ∨ j = 3 := by omega
    rcases this with rfl | rfl | rfl | rfl
    · rw [k0, u0]
    · rw [k1, u1]
    · rw [k2, u2]
    · rw [k3, u3]
  · rw [u4 4 (by omega)]
    unfold kHasSh
    rw [k4 0 (by omega), k4 1 (by omega), k4 2 (by omega), k4 3 (by omega)]
    rfl
/-- a cache set up anew -/
def fsA (fs : Nat → Nat) (c n : Nat) : Nat → Nat := fun u => if u = c ∨ u = 6 + 2 * c ∨ u = 7 + 2 * c then n else fs u
theorem RB_setCache (h : RB kf fs W n T H V) (hc : c < 6) (hs : SOK rule room lapse mode) : RB kf (fsA fs c n) W n (T.1, u1 T.2 c (kEmpty (kSetUp (T.2 c) rule room lapse mode) (nI n))) H (qEmptyC (qSetUp V c rule room lapse mode) c (nI n)) := by
  obtain ⟨h1, h2, h3, h4, h5, h6, h7, h8⟩ := h
  refine ⟨h1, h2, h3, h4, h5, h6, fun d hd => ?_, fun d hd => ?_⟩
  · unfold fsA
    by_cases e : d = c
    · rw [e, if_pos (Or.inl rfl), if_pos (Or.inr (Or.inl rfl)), if_pos (Or.inr (Or.inr rfl))]
      exact ⟨rfl, rfl⟩
    · rw [if_neg (by omega), if_neg (by omega), if_neg (by omega)]
      exact h7 d hd
  · show RC kf (fsA fs c n d) n (u1 T.2 c (kEmpty (kSetUp (T.2 c) rule room lapse mode) (nI n)) d) (qEmptyC (qSetUp V c rule room lapse mode) c (nI n) d) (qEmptyC (qSetUp V c rule room lapse mode) c (nI n) (6 + 2 * d)) (qEmptyC (qSetUp V c rule room lapse mode) c (nI n) (7 + 2 * d))
    unfold fsA qEmptyC
    by_cases e : d = c
    · rw [e, u1e, if_pos (Or.inl rfl), if_pos (Or.inl rfl), if_pos (Or.inr (Or.inl rfl)), if_pos (Or.inr (Or.inr rfl))]
      obtain ⟨-, s1, s2⟩ := RC_SU (h8 c hc)
      have a1 : qSetUp V c rule room lapse mode c 1 = room := by unfold qSetUp; rw [if_pos rfl]; rfl
      refine RC_empty (RF_setUp hs ?_ a1 ?_ ?_ (fun j hj => ?_)) h1 ⟨?_, ?_, ?_, ?_⟩ ⟨?_, ?_, ?_, ?_⟩
      · unfold qSetUp; rw [if_pos rfl]; rfl
      · unfold qSetUp; rw [if_pos rfl]; rfl
      · unfold qSetUp; rw [if_pos rfl]; rfl
      · unfold qSetUp
        rw [if_pos rfl, if_neg (by omega), if_neg (by omega), if_neg (by omega), if_neg (by omega), if_pos (by omega)]
      · unfold qSetUp; rw [if_neg (by omega), if_pos rfl]; rfl
      · rw [a1]; unfold qSetUp; rw [if_neg (by omega), if_pos rfl]; rfl
      · unfold qSetUp; rw [if_neg (by omega), if_pos rfl]; exact s1.2.2.1
      · unfold qSetUp; rw [if_neg (by omega), if_pos rfl]; exact s1.2.2.2
      · unfold qSetUp; rw [if_neg (by omega), if_neg (by omega), if_pos rfl]; rfl
      · rw [a1]; unfold qSetUp; rw [if_neg (by omega), if_neg (by omega), if_pos rfl]; rfl
      · unfold qSetUp; rw [if_neg (by omega), if_neg (by omega), if_pos rfl]; exact s2.2.2.1
      · unfold qSetUp; rw [if_neg (by omega), if_neg (by omega), if_pos rfl]; exact s2.2.2.2
    · rw [u1_n e, if_neg (by omega), if_neg (by omega), if_neg (by omega), if_neg (by omega)]
      have o : ∀ u, u ≠ c → u ≠ 6 + 2 * c → u ≠ 7 + 2 * c → qSetUp V c rule room lapse mode u = V u := fun u a b d => funext fun w => by
        unfold qSetUp
        rw [if_neg a, if_neg b, if_neg d]
      rw [o d (by omega) (by omega) (by omega), o (6 + 2 * d) (by omega) (by omega) (by omega), o (7 + 2 * d) (by omega) (by omega) (by omega)]
      exact h8 d hd
theorem qClear_i : ∀ (m : Nat) (V : Nat → Nat → Int32) (u : Nat), m ≤ 6 → qClear m V u = if (6 - m ≤ u ∧ u < 6) ∨ (6 + 2 * (6 - m) ≤ u ∧ u < 18) then qEmpty (V u) 0 else V u
  | 0, V, u, _ => (if_neg (by omega)).symm
  | m + 1, V, u, hm => by
    show qClear m (qEmptyC V (5 - m) 0) u = _
    rw [qClear_i m _ u (by omega)]
    unfold qEmptyC
    by_cases e : u = 5 - m ∨ u = 6 + 2 * (5 - m) ∨ u = 7 + 2 * (5 - m)
    · rw [if_pos e, if_neg (by omega), if_pos (by omega)]
    · rw [if_neg e]
      by_cases d : (6 - m ≤ u ∧ u < 6) ∨ (6 + 2 * (6 - m) ≤ u ∧ u < 18)
      · rw [if_pos d, if_pos (by omega)]
      · rw [if_neg d, if_neg (by omega)]
theorem RQ_clear {n : Nat} (h : RQ kf fs n P V) : RQ kf' (fun _ => 0) 0 (fun i => if i < 6 then kEmpty (P i) 0 else P i) (qClear 6 V) := fun c hc => by
  show RC kf' 0 0 (if c < 6 then kEmpty (P c) 0 else P c) _ _ _
  rw [if_pos hc, qClear_i 6 V c (Nat.le_refl _), qClear_i 6 V (6 + 2 * c) (Nat.le_refl _), qClear_i 6 V (7 + 2 * c) (Nat.le_refl _), if_pos (by omega), if_pos (by omega), if_pos (by omega)]
  obtain ⟨a1, a2, a3⟩ := RC_SU (h c hc)
  exact RC_empty (n := 0) a1 (by omega) a2 a3
/-- the row cleared -/
theorem RB_clear (h : RB kf fs W n T H V) : RB kf' (fun _ => 0) W 0 (u2 T.1 5 3 0, fun i => if i < 6 then kEmpty (T.2 i) 0 else T.2 i) (upd H 0 0) (qClear 6 V) := by
  obtain ⟨h1, h2, h3, h4, h5, h6, h7, h8⟩ := h
  refine ⟨by omega, (show u2 T.1 5 3 0 5 3 = nI 0 from z2_eq), upd_s, ?_, fun k hk => ?_, fun i hi => by omega, fun _ _ => ⟨rfl, rfl⟩, RQ_clear h8⟩
  · show u2 T.1 5 3 0 0 4 = upd H 0 0 1
    rw [z2_n1 (by omega), upd_o (by omega), h4]
  · show (∃ m, 1 ≤ m ∧ m ≤ 8 ∧ u2 T.1 5 3 0 2 k = nI m ∧ upd H 0 0 (2 + k) = nI m) ∧ (∃ m, m ≤ 1000 ∧ u2 T.1 5 3 0 3 k = nI m ∧ upd H 0 0 (28 + k) = nI m) ∧ W k < 4 ∧ u2 T.1 5 3 0 4 k = nI (W k) ∧ upd H 0 0 (54 + k) = nI (W k)
    rw [z2_n1 (by omega), z2_n1 (by omega), z2_n1 (by omega), upd_o (by omega), upd_o (by omega), upd_o (by omega)]
    exact h5 k hk
/-- a key told anew -/
theorem RB_tell (h : RB kf fs W n T H V) (hk : k < 26) {sz co ow : Nat} (h1 : 1 ≤ sz) (h2 : sz ≤ 8) (h3 : co ≤ 1000) (h4 : ow < 4) : RB kf fs (u1 W k ow) n (u2 (u2 (u2 T.1 2 k (nI sz)) 3 k (nI co)) 4 k (nI ow), T.2) (qTell H k (nI sz) (nI co) (nI ow)) V := by
  obtain ⟨g1, g2, g3, g4, g5, g6, g7, g8⟩ := h
  have gg : ∀ w, w < 2 ∨ 80 ≤ w → qTell H k (nI sz) (nI co) (nI ow) w = H w := fun w hw => by
    unfold qTell
    rw [upd_o (by omega), upd_o (by omega), upd_o (by omega)]
  have tt : ∀ t, t ≠ 2 → t ≠ 3 → t ≠ 4 → u2 (u2 (u2 T.1 2 k (nI sz)) 3 k (nI co)) 4 k (nI ow) t = T.1 t := fun t a b c => by
    rw [z2_n1 c, z2_n1 b, z2_n1 a]
  refine ⟨g1, ?_, (gg 0 (by omega)).trans g3, ?_, fun j hj => ?_, fun i hi => ?_, g7, g8⟩
  · show u2 (u2 (u2 T.1 2 k (nI sz)) 3 k (nI co)) 4 k (nI ow) 5 3 = _
    rw [tt 5 (by omega) (by omega) (by omega)]; exact g2
  · show u2 (u2 (u2 T.1 2 k (nI sz)) 3 k (nI co)) 4 k (nI ow) 0 4 = _
    rw [tt 0 (by omega) (by omega) (by omega), gg 1 (by omega)]; exact g4
  · show (∃ m, 1 ≤ m ∧ m ≤ 8 ∧ u2 (u2 (u2 T.1 2 k (nI sz)) 3 k (nI co)) 4 k (nI ow) 2 j = nI m ∧ qTell H k (nI sz) (nI co) (nI ow) (2 + j) = nI m) ∧ (∃ m, m ≤ 1000 ∧ u2 (u2 (u2 T.1 2 k (nI sz)) 3 k (nI co)) 4 k (nI ow) 3 j = nI m ∧ qTell H k (nI sz) (nI co) (nI ow) (28 + j) = nI m) ∧ u1 W k ow j < 4 ∧ u2 (u2 (u2 T.1 2 k (nI sz)) 3 k (nI co)) 4 k (nI ow) 4 j = nI (u1 W k ow j) ∧ qTell H k (nI sz) (nI co) (nI ow) (54 + j) = nI (u1 W k ow j)
    unfold qTell
    by_cases e : j = k
    · rw [e, z2_n1 (by omega), z2_n1 (by omega), z2_eq, z2_n1 (by omega), z2_eq, z2_eq, u1e, upd_s, upd_o (by omega), upd_o (by omega), upd_s, upd_o (by omega), upd_s]
      exact ⟨⟨sz, h1, h2, rfl, rfl⟩, ⟨co, h3, rfl, rfl⟩, h4, rfl, rfl⟩
    · rw [z2_n1 (by omega), z2_n1 (by omega), z2_n2 e, z2_n1 (by omega), z2_n2 e, z2_n1 (by omega), z2_n2 e, z2_n1 (by omega), z2_n1 (by omega), u1_n e, upd_o (by omega), upd_o (by omega), upd_o (by omega), upd_o (by omega), upd_o (by omega), upd_o (by omega), upd_o (by omega), upd_o (by omega), upd_o (by omega)]
      exact g5 j hj
  · show kf i < 26 ∧ u2 (u2 (u2 T.1 2 k (nI sz)) 3 k (nI co)) 4 k (nI ow) 6 i = nI (kf i) ∧ qTell H k (nI sz) (nI co) (nI ow) (80 + i) = nI (kf i) ∧ (∃ w : Bool, u2 (u2 (u2 T.1 2 k (nI sz)) 3 k (nI co)) 4 k (nI ow) 7 i = bI w ∧ qTell H k (nI sz) (nI co) (nI ow) (380 + i) = bI w) ∧ u2 (u2 (u2 T.1 2 k (nI sz)) 3 k (nI co)) 4 k (nI ow) 8 i = qTell H k (nI sz) (nI co) (nI ow) (680 + i)
    rw [tt 6 (by omega) (by omega) (by omega), tt 7 (by omega) (by omega) (by omega), tt 8 (by omega) (by omega) (by omega), gg _ (by omega), gg _ (by omega), gg _ (by omega)]
    exact g6 i hi
end Rq'
