/-! THE RELATION: a cache of the class and a unit of the reference; a key taken out, used, come in -/
/-- what is set up -/
def RF (S : CS) (U : Nat → Int32) : Prop := (∀ j, j < 4 → S.1 0 j = U j) ∧ (∀ j, j < 4 → S.1 1 j = U (4 + j)) ∧ U 8 = (if kHasSh S = 0 then 0 else 1) ∧ (∃ r, r < 7 ∧ U 0 = nI r) ∧ (∃ m, 1 ≤ m ∧ m ≤ 20 ∧ U 1 = nI m) ∧ ∃ m, m < 4 ∧ U 3 = nI m
/-- aged keys -/
def RO' (held old : Int32) (U : Nat → Int32) : Prop := KS old ∧ (∀ k, k < 26 → bt old k = true → bt held k = true) ∧ ∀ k, k < 26 → bt held k = true → U (232 + k) = bI (!bt old k)
/-- remembered keys -/
def RM' (held rem : Int32) (U : Nat → Int32) : Prop := KS rem ∧ (∀ k, k < 26 → bt rem k = true → bt held k = false) ∧ ∀ k, k < 26 → (bt rem k = true → ∃ a, 0 < a ∧ a < 2147483648 ∧ U (258 + k) = nI a) ∧ (bt rem k = false → U (258 + k) = 0)
/-- worths -/
def RW' (held : Int32) (r : Nat → Int64) (lev : Int64) (L : Nat) (U : Nat → Int32) : Prop := (∃ l, l ≤ L ∧ U 11 = nI l ∧ lev = Int32.toInt64 (nI l)) ∧ ∀ k, k < 26 → bt held k = true → ∃ l, l ≤ L ∧ U (284 + k) = nI l ∧ r k = Int32.toInt64 (nI l)
def SP (U : Nat → Int32) (k : Nat) : Int32 := if U 0 = 3 then U (102 + k) else U (50 + k)
/-- stamps -/
def RT (S : CS) (N : Nat) (U : Nat → Int32) : Prop := ∃ c q, S.1 0 12 = nI c ∧ U 10 = nI q ∧ c ≤ N ∧ q ≤ N ∧ ISO c q (S.1 0 5) (S.2 3) (fun k => U (76 + k)) ∧ ISO c q (S.1 0 5) (S.2 4) (SP U) ∧ ISO c q (S.1 0 10) (S.2 4) (fun k => U (258 + k))
/-- counts -/
def RN (S : CS) (U : Nat → Int32) : Prop := (∀ j, j < 9 → S.1 7 j = U (12 + j)) ∧ ∀ k, k < 26 → S.1 8 k = U (310 + k) ∧ S.1 9 k = U (336 + k)
def RX (N L : Nat) (Q : (Nat → Int32) × (Nat → Int32)) (S : CS) (U : Nat → Int32) : Prop :=
  RF S U ∧ HB (S.1 0 5) U 24 ∧ HB (S.1 0 6) U 154 ∧ HB (S.1 0 7) U 206 ∧ HB (S.1 0 9) U 180 ∧ RO' (S.1 0 5) (S.1 0 8) U ∧ RM' (S.1 0 5) (S.1 0 10) U ∧
  (∀ k, k < 26 → bt (S.1 0 5) k = true → S.1 2 k = U (128 + k)) ∧ RW' (S.1 0 5) (S.2 5) (S.2 0 11) L U ∧ RT S N U ∧ RN S U ∧ S.1 13 = Q.1 ∧ S.1 14 = Q.2
/-- the keys -/
def KY (kz kc kw : Nat → Int32) (W : Nat → Nat) (H : Nat → Int32) : Prop := ∀ k, k < 26 → (∃ m, 1 ≤ m ∧ m ≤ 8 ∧ kz k = nI m ∧ H (2 + k) = nI m) ∧ (∃ m, m ≤ 1000 ∧ kc k = nI m ∧ H (28 + k) = nI m) ∧ W k < 4 ∧ kw k = nI (W k) ∧ H (54 + k) = nI (W k)
section Rc
variable {N L : Nat} {Q : (Nat → Int32) × (Nat → Int32)} {S S' : CS} {H U U' : Nat → Int32} {k i j t : Nat} {kz kc kw : Nat → Int32} {W : Nat → Nat} {v x : Int32}
theorem RF_q (h : RF S U) (g1 : ∀ j, j < 4 → S'.1 0 j = S.1 0 j) (g2 : S'.1 1 = S.1 1) (hU : ∀ w, w < 9 → U' w = U w) : RF S' U' := by
  obtain ⟨h1, h2, h3, h4, h5, h6⟩ := h
  refine ⟨fun j hj => ?_, fun j hj => ?_, ?_, ?_, ?_, ?_⟩
  · rw [g1 j hj, hU j (by omega), h1 j hj]
  · rw [g2, hU (4 + j) (by omega), h2 j hj]
  · rw [hU 8 (by omega), h3]
    unfold kHasSh
    rw [g2]
  · rw [hU 0 (by omega)]; exact h4
  · rw [hU 1 (by omega)]; exact h5
  · rw [hU 3 (by omega)]; exact h6
theorem RF_p (h : RF S U) (g : Kp S S') (hU : ∀ w, w < 10 → U' w = U w) : RF S' U' := RF_q h g.1 g.2.1 (fun w hw => hU w (by omega))
theorem RX_mono {N' L' : Nat} (h : RX N L Q S U) (hN : N ≤ N') (hL : L ≤ L') : RX N' L' Q S U := by
  obtain ⟨h1, h2, h3, h4, h5, h6, h7, h8, ⟨⟨l, a1, a2⟩, h9⟩, ⟨c, q, b1, b2, b3, b4, b5⟩, h11⟩ := h
  exact ⟨h1, h2, h3, h4, h5, h6, h7, h8, ⟨⟨l, by omega, a2⟩, fun k hk hb => by
    obtain ⟨l, c1, c2⟩ := h9 k hk hb
    exact ⟨l, by omega, c2⟩⟩, ⟨c, q, b1, b2, by omega, by omega, b5⟩, h11⟩
theorem RO_o {held old : Int32} (h : RO' held old U) (hi : i < 232 ∨ 258 ≤ i) : RO' held old (upd U i v) := ⟨h.1, h.2.1, fun k hk hb => (upd_o (by omega)).trans (h.2.2 k hk hb)⟩
theorem RM_o {held old : Int32} (h : RM' held old U) (hi : i < 258 ∨ 284 ≤ i) : RM' held old (upd U i v) := ⟨h.1, h.2.1, fun k hk => by rw [upd_o (by omega)]; exact h.2.2 k hk⟩
theorem RW_o {held : Int32} {r : Nat → Int64} {lev : Int64} (h : RW' held r lev L U) (hi : i ≠ 11 ∧ (i < 284 ∨ 310 ≤ i)) : RW' held r lev L (upd U i v) := ⟨by rw [upd_o (by omega)]; exact h.1, fun k hk hb => by rw [upd_o (by omega)]; exact h.2 k hk hb⟩
/-- a set without a key -/
theorem sub_off (hk : k < 26) {s : Int32} : ∀ j, j < 26 → bt (s &&& (bb k ^^^ -1)) j = true → bt s j = true ∧ j ≠ k := by
  intro j hj hb
  rw [bt_off hk (by omega)] at hb
  have : bt s j = true ∧ (!decide (j = k)) = true := by simpa using hb
  exact ⟨this.1, by simpa using this.2⟩
theorem RX_take (h : RX N L Q S U) (hk : k < 26) : RX N L Q (kTake S k) (qLeaves U k) := by
  obtain ⟨h1, h2, h3, h4, h5, h6, h7, h8, h9, ⟨c, q, b1, b2, b3, b4, b5, b6, b7⟩, ⟨c1, c2⟩, h12, h13⟩ := h
  have hd := h3.2 k hk
  have f5 : (kTake S k).1 0 5 = S.1 0 5 &&& (bb k ^^^ -1) := by
    unfold kTake kTake0
    split <;> simp (disch := omega) only [cwi_1, cwi_2, z2_eq, z2_n1, z2_n2]
  have f6 : (kTake S k).1 0 6 = S.1 0 6 &&& (bb k ^^^ -1) := by
    unfold kTake kTake0
    split <;> simp (disch := omega) only [cwi_1, cwi_2, z2_eq, z2_n1, z2_n2]
  have f7 : (kTake S k).1 0 7 = S.1 0 7 &&& (bb k ^^^ -1) := by
    unfold kTake kTake0
    split <;> simp (disch := omega) only [cwi_1, cwi_2, z2_eq, z2_n1, z2_n2]
  have f8 : (kTake S k).1 0 8 = S.1 0 8 &&& (bb k ^^^ -1) := by
    unfold kTake kTake0
    split <;> simp (disch := omega) only [cwi_1, cwi_2, z2_eq, z2_n1, z2_n2]
  have f9 : (kTake S k).1 0 9 = S.1 0 9 &&& (bb k ^^^ -1) := by
    unfold kTake kTake0
    split <;> simp (disch := omega) only [cwi_1, cwi_2, z2_eq, z2_n1, z2_n2]
  have f0 : ∀ j, j < 5 ∨ 9 < j → (kTake S k).1 0 j = S.1 0 j := by
    intro j hj
    unfold kTake kTake0
    split <;> simp (disch := omega) only [cwi_1, cwi_2, z2_eq, z2_n1, z2_n2]
  have fc : ∀ j, (kTake S k).1 7 j = if j = 4 then S.1 7 4 + bI (bt (S.1 0 6) k) else S.1 7 j := by
    intro j
    unfold kTake kTake0
    split
    · rename_i e
      simp (disch := omega) only [cwi_1, cwi_2, z2_eq, z2_n1, z2_n2]
      by_cases q : j = 4
      · rw [q, if_pos rfl, e, z2_eq]; rfl
      · rw [if_neg q, z2_n2 q]
    · rename_i e
      simp (disch := omega) only [cwi_1, cwi_2, z2_eq, z2_n1, z2_n2]
      have e' : bt (S.1 0 6) k = false := by simpa using e
      by_cases q : j = 4
      · rw [q, if_pos rfl, e']; exact (Int32.add_zero _).symm
      · rw [if_neg q]
  have ft : ∀ t, t ≠ 0 → t ≠ 7 → (kTake S k).1 t = S.1 t := by
    intro t a b
    unfold kTake kTake0
    split <;> simp (disch := omega) only [cwi_1, cwi_2, z2_eq, z2_n1, z2_n2]
  have fl : (kTake S k).2 = S.2 := by
    unfold kTake kTake0
    split <;> simp only [cwi_2]
  have s5 := sub_off (s := S.1 0 5) hk
  have lo : ∀ w, w < 10 → qLeaves U k w = U w := fun w hw => qLeaves_lo hw
  have gg : ∀ w, w ≠ 16 → w ≠ 24 + k → w ≠ 154 + k → w ≠ 180 + k → w ≠ 206 + k → qLeaves U k w = U w := fun w a1 a2 a3 a4 a5 => by
    unfold qLeaves
    rw [upd_o a5, upd_o a4, upd_o a3, upd_o a2, upd_o a1]
  refine ⟨RF_p h1 (kTake_p Kp.rfl') lo, ?_, ?_, ?_, ?_, ?_, ?_, ?_, ?_, ?_, ?_, ?_, ?_⟩
  · rw [f5]
    exact HB_o (HB_o (HB_o (HB_off (HB_o h2 (by omega)) hk) (by omega)) (by omega)) (by omega)
  · rw [f6]
    exact HB_o (HB_o (HB_off (HB_o (HB_o h3 (by omega)) (by omega)) hk) (by omega)) (by omega)
  · rw [f7]
    exact HB_off (HB_o (HB_o (HB_o (HB_o h4 (by omega)) (by omega)) (by omega)) (by omega)) hk
  · rw [f9]
    exact HB_o (HB_off (HB_o (HB_o (HB_o h5 (by omega)) (by omega)) (by omega)) hk) (by omega)
  · rw [f5, f8]
    refine ⟨KS_and h6.1, fun j hj hb => ?_, fun j hj hb => ?_⟩
    · obtain ⟨e1, e2⟩ := sub_off (s := S.1 0 8) hk j hj hb
      rw [bt_off hk (by omega), h6.2.1 j hj e1, decide_eq_false e2]
      rfl
    · obtain ⟨e1, e2⟩ := s5 j hj hb
      rw [gg _ (by omega) (by omega) (by omega) (by omega) (by omega), h6.2.2 j hj e1, bt_off hk (by omega), decide_eq_false e2, Bool.not_false, Bool.and_true]
  · rw [f5, f0 10 (by omega)]
    refine ⟨h7.1, fun j hj hb => ?_, fun j hj => ?_⟩
    · rw [bt_off hk (by omega), h7.2.1 j hj hb]
      rfl
    · rw [gg _ (by omega) (by omega) (by omega) (by omega) (by omega)]
      exact h7.2.2 j hj
  · intro j hj hb
    rw [f5] at hb
    rw [ft 2 (by omega) (by omega), gg _ (by omega) (by omega) (by omega) (by omega) (by omega)]
    exact h8 j hj (s5 j hj hb).1
  · rw [f5, fl]
    refine ⟨by rw [gg _ (by omega) (by omega) (by omega) (by omega) (by omega)]; exact h9.1, fun j hj hb => ?_⟩
    rw [gg _ (by omega) (by omega) (by omega) (by omega) (by omega)]
    exact h9.2 j hj (s5 j hj hb).1
  · refine ⟨c, q, (f0 12 (by omega)).trans b1, (gg 10 (by omega) (by omega) (by omega) (by omega) (by omega)).trans b2, b3, b4, ?_, ?_, ?_⟩
    · rw [f5, fl]
      exact ISO_sub b5 (fun j hj hb => (s5 j hj hb).1) (fun j hj hb => ⟨rfl, gg _ (by omega) (by omega) (by omega) (by omega) (by omega)⟩)
    · rw [f5, fl]
      refine ISO_sub b6 (fun j hj hb => (s5 j hj hb).1) (fun j hj hb => ⟨rfl, ?_⟩)
      unfold SP
      rw [lo 0 (by omega), gg _ (by omega) (by omega) (by omega) (by omega) (by omega), gg _ (by omega) (by omega) (by omega) (by omega) (by omega)]
    · rw [f0 10 (by omega), fl]
      exact ISO_sub b7 (fun j hj hb => hb) (fun j hj hb => ⟨rfl, gg _ (by omega) (by omega) (by omega) (by omega) (by omega)⟩)
  · refine ⟨fun j hj => ?_, fun j hj => ?_⟩
    · rw [fc]
      by_cases e : j = 4
      · rw [e, if_pos rfl, c1 4 (by omega), ← hd]
        unfold qLeaves
        rw [upd_o (by omega), upd_o (by omega), upd_o (by omega), upd_o (by omega), upd_s]
      · rw [if_neg e, c1 j hj, gg _ (by omega) (by omega) (by omega) (by omega) (by omega)]
    · rw [ft 8 (by omega) (by omega), ft 9 (by omega) (by omega), gg _ (by omega) (by omega) (by omega) (by omega) (by omega), gg _ (by omega) (by omega) (by omega) (by omega) (by omega)]
      exact c2 j hj
  · rw [ft 13 (by omega) (by omega)]; exact h12
  · rw [ft 14 (by omega) (by omega)]; exact h13
end Rc
