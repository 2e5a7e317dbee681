/-! taken over from the rows of whole: what the class's rows rest on -/
/-- the cells of a cache that are looked at are alike -/
def SEq (S S' : CS) : Prop := (∀ j, j < 13 → j ≠ 4 → j ≠ 11 → S'.1 0 j = S.1 0 j) ∧ (∀ j, j < 4 → S'.1 1 j = S.1 1 j) ∧ (∀ k, k < 26 → S'.1 2 k = S.1 2 k ∧ S'.2 3 k = S.2 3 k ∧ S'.2 4 k = S.2 4 k ∧ S'.2 5 k = S.2 5 k) ∧ S'.2 0 11 = S.2 0 11 ∧ (S'.1 6 6 = S.1 6 6 ∧ S'.1 6 7 = S.1 6 7) ∧ (∀ j, j < 9 → S'.1 7 j = S.1 7 j) ∧
  (∀ k, k < 26 → S'.1 8 k = S.1 8 k ∧ S'.1 9 k = S.1 9 k ∧ S'.2 11 k = S.2 11 k ∧ S'.2 12 k = S.2 12 k) ∧ (∀ i, i < 300 → S'.1 10 i = S.1 10 i) ∧ S'.1 13 0 = S.1 13 0 ∧ S'.1 13 1 = S.1 13 1 ∧ S'.1 14 0 = S.1 14 0 ∧ S'.1 14 1 = S.1 14 1
def UEq (U U' : Nat → Int32) : Prop := ∀ w, w < 662 → U' w = U w
def BEq (T T' : BT) : Prop := T'.1 5 3 = T.1 5 3 ∧ T'.1 0 4 = T.1 0 4 ∧ (∀ k, k < 26 → T'.1 2 k = T.1 2 k ∧ T'.1 3 k = T.1 3 k ∧ T'.1 4 k = T.1 4 k) ∧ (∀ i, i < 300 → T'.1 6 i = T.1 6 i ∧ T'.1 7 i = T.1 7 i ∧ T'.1 8 i = T.1 8 i) ∧ ∀ i, i < 6 → SEq (T.2 i) (T'.2 i)
section Ua
variable {N L : Nat} {Q : (Nat → Int32) × (Nat → Int32)} {S S' P : CS} {T T' T2 : BT} {H H' U U' U1 U1' U2 U2' g : Nat → Int32} {V V' X : Nat → Nat → Int32} {M M' : LM} {B D i j k t w f n c r o : Nat} {kf fs W : Nat → Nat} {room sh mi v : Int32} {gg gl : Nat → Int64} {kz kc kw : Nat → Int32}
theorem SEq.rfl' : SEq S S := ⟨fun _ _ _ _ => rfl, fun _ _ => rfl, fun _ _ => ⟨rfl, rfl, rfl, rfl⟩, rfl, ⟨rfl, rfl⟩, fun _ _ => rfl, fun _ _ => ⟨rfl, rfl, rfl, rfl⟩, fun _ _ => rfl, rfl, rfl, rfl, rfl⟩
theorem UEq.rfl' : UEq U U := fun _ _ => rfl
theorem SEq.of (h : ∀ t, t < 15 → S'.1 t = S.1 t ∧ S'.2 t = S.2 t) : SEq S S' := by
  have a := fun t ht => (h t ht).1
  have b := fun t ht => (h t ht).2
  exact ⟨fun j _ _ _ => by rw [a 0 (by omega)], fun j _ => by rw [a 1 (by omega)], fun k _ => by rw [a 2 (by omega), b 3 (by omega), b 4 (by omega), b 5 (by omega)]; exact ⟨rfl, rfl, rfl, rfl⟩, by rw [b 0 (by omega)], by rw [a 6 (by omega)]; exact ⟨rfl, rfl⟩, fun j _ => by rw [a 7 (by omega)], fun k _ => by rw [a 8 (by omega), a 9 (by omega), b 11 (by omega), b 12 (by omega)]; exact ⟨rfl, rfl, rfl, rfl⟩, fun i _ => by rw [a 10 (by omega)], by rw [a 13 (by omega)], by rw [a 13 (by omega)], by rw [a 14 (by omega)], by rw [a 14 (by omega)]⟩
theorem SEq.tr {S2 : CS} (h : SEq S S') (g : SEq S' S2) : SEq S S2 := by
  obtain ⟨a1, a2, a3, a4, ⟨a5, a6⟩, a7, a8, a9, a10, a11, a12, a13⟩ := h
  obtain ⟨b1, b2, b3, b4, ⟨b5, b6⟩, b7, b8, b9, b10, b11, b12, b13⟩ := g
  refine ⟨fun j hj h4 h11 => (b1 j hj h4 h11).trans (a1 j hj h4 h11), fun j hj => (b2 j hj).trans (a2 j hj), fun k hk => ?_, b4.trans a4, ⟨b5.trans a5, b6.trans a6⟩, fun j hj => (b7 j hj).trans (a7 j hj), fun k hk => ?_, fun i hi => (b9 i hi).trans (a9 i hi), b10.trans a10, b11.trans a11, b12.trans a12, b13.trans a13⟩
  · obtain ⟨c1, c2, c3, c4⟩ := a3 k hk
    obtain ⟨d1, d2, d3, d4⟩ := b3 k hk
    exact ⟨d1.trans c1, d2.trans c2, d3.trans c3, d4.trans c4⟩
  · obtain ⟨c1, c2, c3, c4⟩ := a8 k hk
    obtain ⟨d1, d2, d3, d4⟩ := b8 k hk
    exact ⟨d1.trans c1, d2.trans c2, d3.trans c3, d4.trans c4⟩
theorem BEq.rfl' : BEq T T := ⟨rfl, rfl, fun _ _ => ⟨rfl, rfl, rfl⟩, fun _ _ => ⟨rfl, rfl, rfl⟩, fun _ _ => SEq.rfl'⟩
theorem BEq.of (h1 : ∀ t, t < 9 → T'.1 t = T.1 t) (h2 : ∀ i, i < 6 → ∀ t, t < 15 → (T'.2 i).1 t = (T.2 i).1 t ∧ (T'.2 i).2 t = (T.2 i).2 t) : BEq T T' :=
  ⟨by rw [h1 5 (by omega)], by rw [h1 0 (by omega)], fun k _ => by rw [h1 2 (by omega), h1 3 (by omega), h1 4 (by omega)]; exact ⟨rfl, rfl, rfl⟩, fun i _ => by rw [h1 6 (by omega), h1 7 (by omega), h1 8 (by omega)]; exact ⟨rfl, rfl, rfl⟩, fun i hi => SEq.of (h2 i hi)⟩
theorem BEq.tr (h : BEq T T') (g : BEq T' T2) : BEq T T2 := by
  obtain ⟨a1, a2, a3, a4, a5⟩ := h
  obtain ⟨b1, b2, b3, b4, b5⟩ := g
  exact ⟨b1.trans a1, b2.trans a2, fun k hk => ⟨(b3 k hk).1.trans (a3 k hk).1, (b3 k hk).2.1.trans (a3 k hk).2.1, (b3 k hk).2.2.trans (a3 k hk).2.2⟩, fun k hk => ⟨(b4 k hk).1.trans (a4 k hk).1, (b4 k hk).2.1.trans (a4 k hk).2.1, (b4 k hk).2.2.trans (a4 k hk).2.2⟩, fun i hi => (a5 i hi).tr (b5 i hi)⟩
/-- a cache copied is alike -/
theorem u1_x {α : Type} {f : Nat → α} {v : α} {a b : Nat} : u1 f a v b = if b = a then v else f b := rfl
theorem rd_wi {a b : Nat} : (cwi S t j v).1 a b = if a = t ∧ b = j then v else S.1 a b := rfl
theorem rd_wl {a b : Nat} {y : Int64} : (cwl S t j y).2 a b = if a = t ∧ b = j then y else S.2 a b := rfl
theorem rd_fi {a b : Nat} {g : Nat → Int32} : (cfI S t n g).1 a b = if a = t ∧ b < n then g b else S.1 a b := by
  show u1 S.1 t (fun j => if j < n then g j else S.1 t j) a b = _
  rw [u1_x]
  by_cases q : a = t
  · rw [if_pos q, q]
    by_cases q2 : b < n
    · rw [if_pos q2, if_pos ⟨rfl, q2⟩]
    · rw [if_neg q2, if_neg (fun e => q2 e.2)]
  · rw [if_neg q, if_neg (fun e => q e.1)]
theorem rd_fl {a b : Nat} {g : Nat → Int64} : (cfL S t n g).2 a b = if a = t ∧ b < n then g b else S.2 a b := by
  show u1 S.2 t (fun j => if j < n then g j else S.2 t j) a b = _
  rw [u1_x]
  by_cases q : a = t
  · rw [if_pos q, q]
    by_cases q2 : b < n
    · rw [if_pos q2, if_pos ⟨rfl, q2⟩]
    · rw [if_neg q2, if_neg (fun e => q2 e.2)]
  · rw [if_neg q, if_neg (fun e => q e.1)]
theorem rd_fi2 {g : Nat → Int32} : (cfI S t n g).2 = S.2 := rfl
theorem rd_fl1 {g : Nat → Int64} : (cfL S t n g).1 = S.1 := rfl
theorem kCopy_eq : SEq P (kCopy S P) := by
  unfold kCopy kCpT
  refine ⟨fun j hj h4 h11 => ?_, fun j hj => ?_, fun k hk => ⟨?_, ?_, ?_, ?_⟩, ?_, ⟨?_, ?_⟩, fun j hj => ?_, fun k hk => ⟨?_, ?_, ?_, ?_⟩, fun i hi => ?_, ?_, ?_, ?_, ?_⟩
  · have : j = 0 ∨ j = 1 ∨ j = 2 ∨ j = 3 ∨ j = 5 ∨ j = 6 ∨ j = 7 ∨ j = 8 ∨ j = 9 ∨ j = 10 ∨ j = 12 := by omega
    rcases this with rfl | rfl | rfl | rfl | rfl | rfl | rfl | rfl | rfl | rfl | rfl <;> simp [rd_wi, rd_wl, rd_fi, rd_fl, rd_fi2, rd_fl1, cwi_2, cwl_1]
  all_goals simp [rd_wi, rd_wl, rd_fi, rd_fl, rd_fi2, rd_fl1, cwi_2, cwl_1, *]
/-- a bench copied is alike -/
theorem kCpB_eq {T P : BT} : BEq P (kCpB T P) := by
  have rd : ∀ {F : Nat → Nat → Int32} {t : Nat} {g : Nat → Int32} {a b : Nat}, u1 F t g a b = if a = t then g b else F a b := fun {F t g a b} => by
    rw [u1_x]; split <;> rfl
  have rd2 : ∀ {F : Nat → Nat → Int32} {t j : Nat} {v : Int32} {a b : Nat}, u2 F t j v a b = if a = t ∧ b = j then v else F a b := fun {F t j v a b} => rfl
  unfold kCpB kCpH cpR
  refine ⟨?_, ?_, fun k hk => ⟨?_, ?_, ?_⟩, fun i hi => ⟨?_, ?_, ?_⟩, fun i hi => ?_⟩
  · simp [rd, rd2]
  · simp [rd, rd2]
  · simp [rd, rd2, hk]
  · simp [rd, rd2, hk]
  · simp [rd, rd2, hk]
  · simp [rd, rd2, hi]
  · simp [rd, rd2, hi]
  · simp [rd, rd2, hi]
  · show SEq (P.2 i) (if i < 6 then kCopy (T.2 i) (P.2 i) else T.2 i)
    rw [if_pos hi]
    exact kCopy_eq
/-- what a window of a bench holds -/
theorem tB_bM : BEq T (tB (bM M B T) B) := by
  refine BEq.of (fun t ht => ?_) (fun i hi t ht => ⟨?_, ?_⟩)
  · exact bMI ht
  · show mI (bM M B T) (cc B i + t) = _
    have := bM_c (M := M) (B := B) (T := T) (S := T.2 i) hi
    rw [u1i] at this
    rw [← show cM (bM M B T) (cc B i) (T.2 i) = bM M B T from this, cIt ht]
  · show mL (bM M B T) (cc B i + t) = _
    have := bM_c (M := M) (B := B) (T := T) (S := T.2 i) hi
    rw [u1i] at this
    rw [← show cM (bM M B T) (cc B i) (T.2 i) = bM M B T from this, cLt ht]
/-- a bench whose cells are left alone -/
theorem tB_o (h1 : ∀ a, B ≤ a → a < B + 100 → mI M' a = mI M a ∧ mL M' a = mL M a) : BEq (tB M B) (tB M' B) := by
  refine BEq.of (fun t ht => ?_) (fun i hi t ht => ?_)
  · exact (h1 (B + t) (by omega) (by omega)).1
  · have := cc_ge (B := B) hi
    exact h1 (cc B i + t) (by omega) (by omega)
end Ua
def nnP (g : Nat → Option Nat) : Nat := (if g 0 = none then 1 else 0) + (if g 1 = none then 1 else 0) + (if g 2 = none then 1 else 0) + (if g 3 = none then 1 else 0) + (if g 4 = none then 1 else 0) + (if g 5 = none then 1 else 0)
section Ub
variable {M M' N : LM} {L B D P U i j k t w f n c e r a o : Nat} {x y v b1 b2 : Int32} {z : Option (LO × LM)} {K : LM → Option (LO × LM)} {b : Bool} {T : BT}
/-- structures lie in cells of their own -/
def SM (M M' : LM) (lo hi : Nat) : Prop := ∀ a, lo ≤ a → a < hi → mK M' a = mK M a ∧ mZ M' a = mZ M a ∧ mP M' a = mP M a
theorem aI_cg {a n : Nat} (h : aI M a n) (g : mK M' a = mK M a ∧ mZ M' a = mZ M a ∧ mP M' a = mP M a) : aI M' a n := ⟨g.1.trans h.1, g.2.1.trans h.2.1, h.2.2⟩
theorem aL_cg {a n : Nat} (h : aL M a n) (g : mK M' a = mK M a ∧ mZ M' a = mZ M a ∧ mP M' a = mP M a) : aL M' a n := ⟨g.1.trans h.1, g.2.1.trans h.2.1, h.2.2⟩
theorem cA_cg {C : Nat} (h : cA M C) (g : SM M M' C (C + 15)) : cA M' C := by
  obtain ⟨⟨a1, a2, a3, a4, a5, a6, a7, a8, a9⟩, ⟨b1, b2, b3, b4, b5, b6, b7⟩, ⟨c1, c2⟩, d1, d2, d3, d4, d5, d6, d7, d8, d9, d10, d11⟩ := h
  have g' : ∀ t, t < 15 → mK M' (C + t) = mK M (C + t) ∧ mZ M' (C + t) = mZ M (C + t) ∧ mP M' (C + t) = mP M (C + t) := fun t ht => g _ (by omega) (by omega)
  have g0 := g C (by omega) (by omega)
  have g6 := g' 6 (by omega)
  refine ⟨⟨g0.1.trans a1, ?_, ?_, ?_, ?_, ?_, ?_, ?_, ?_⟩, ⟨g6.1.trans b1, ?_, ?_, ?_, ?_, ?_, ?_⟩, ⟨(g' 13 (by omega)).1.trans c1, (g' 14 (by omega)).1.trans c2⟩, aI_cg d1 (g' 1 (by omega)), aI_cg d2 (g' 2 (by omega)), aL_cg d3 (g' 3 (by omega)), aL_cg d4 (g' 4 (by omega)), aL_cg d5 (g' 5 (by omega)), aI_cg d6 (g' 7 (by omega)), aI_cg d7 (g' 8 (by omega)), aI_cg d8 (g' 9 (by omega)), aI_cg d9 (g' 10 (by omega)), aL_cg d10 (g' 11 (by omega)), aL_cg d11 (g' 12 (by omega))⟩
  all_goals first | (rw [g0.2.2]; assumption) | (rw [g6.2.2]; assumption)
theorem bA_cg (h : bA M B) (g : SM M M' B (B + 100)) : bA M' B := by
  obtain ⟨a1, a2, a3, a4, a5, ⟨k1, k2, k3, k4, k5, k6, k7⟩, ⟨w1, w2, w3, w4, w5, w6, w7⟩, a6, a7, a8⟩ := h
  have g' : ∀ t, t < 100 → mK M' (B + t) = mK M (B + t) ∧ mZ M' (B + t) = mZ M (B + t) ∧ mP M' (B + t) = mP M (B + t) := fun t ht => g _ (by omega) (by omega)
  have g0 := g B (by omega) (by omega)
  have g1 := g' 1 (by omega)
  have g5 := g' 5 (by omega)
  have g24 := g' 24 (by omega)
  refine ⟨g0.1.trans a1, ?_, ?_, ?_, ?_, ⟨g1.1.trans k1, ?_, ?_, ?_, aI_cg k5 (g' 2 (by omega)), aI_cg k6 (g' 3 (by omega)), aI_cg k7 (g' 4 (by omega))⟩, ⟨g5.1.trans w1, ?_, ?_, ?_, aI_cg w5 (g' 6 (by omega)), aI_cg w6 (g' 7 (by omega)), aI_cg w7 (g' 8 (by omega))⟩, g24.1.trans a6, g24.2.1.trans a7, fun i hi => ⟨?_, ?_⟩⟩
  · rw [g0.2.2]; exact a2
  · rw [g0.2.2]; exact a3
  · rw [g0.2.2]; exact a4
  · rw [g0.2.2]; exact a5
  · rw [g1.2.2]; exact k2
  · rw [g1.2.2]; exact k3
  · rw [g1.2.2]; exact k4
  · rw [g5.2.2]; exact w2
  · rw [g5.2.2]; exact w3
  · rw [g5.2.2]; exact w4
  · rw [g24.2.2]; exact (a8 i hi).1
  · have := cc_ge (B := B) hi
    exact cA_cg (a8 i hi).2 (fun a h1 h2 => g a (by omega) (by omega))
theorem QA_cg (h : QA M U) (g : SM M M' U (U + 2)) : QA M' U := by
  obtain ⟨a1, a2, a3⟩ := h
  have g0 := g U (by omega) (by omega)
  exact ⟨g0.1.trans a1, by rw [g0.2.2]; exact a2, aI_cg a3 (g _ (by omega) (by omega))⟩
theorem TA_cg (h : TA M U) (g : SM M M' U (U + 6)) : TA M' U := by
  obtain ⟨a1, a2, a3, a4, a5, a6, b1, b2, b3, b4, b5⟩ := h
  have g0 := g U (by omega) (by omega)
  exact ⟨g0.1.trans a1, by rw [g0.2.2]; exact a2, by rw [g0.2.2]; exact a3, by rw [g0.2.2]; exact a4, by rw [g0.2.2]; exact a5, by rw [g0.2.2]; exact a6, aI_cg b1 (g _ (by omega) (by omega)), aI_cg b2 (g _ (by omega) (by omega)), aI_cg b3 (g _ (by omega) (by omega)), aI_cg b4 (g _ (by omega) (by omega)), aI_cg b5 (g _ (by omega) (by omega))⟩
theorem SA_cg (h : SA M U) (g : SM M M' U (U + 5)) : SA M' U := by
  obtain ⟨a1, a2, a3, a4, a5, b1, b2, b3, b4⟩ := h
  have g0 := g U (by omega) (by omega)
  exact ⟨g0.1.trans a1, by rw [g0.2.2]; exact a2, by rw [g0.2.2]; exact a3, by rw [g0.2.2]; exact a4, by rw [g0.2.2]; exact a5, aL_cg b1 (g _ (by omega) (by omega)), aI_cg b2 (g _ (by omega) (by omega)), aI_cg b3 (g _ (by omega) (by omega)), aI_cg b4 (g _ (by omega) (by omega))⟩
theorem PA_cg (h : PA' M U) (g : SM M M' U (U + 7)) : PA' M' U := by
  obtain ⟨a1, a2, a3, a4, a5, a6, a7, b1, b2, b3, b4, b5, b6⟩ := h
  have g0 := g U (by omega) (by omega)
  exact ⟨g0.1.trans a1, by rw [g0.2.2]; exact a2, by rw [g0.2.2]; exact a3, by rw [g0.2.2]; exact a4, by rw [g0.2.2]; exact a5, by rw [g0.2.2]; exact a6, by rw [g0.2.2]; exact a7, aI_cg b1 (g _ (by omega) (by omega)), aL_cg b2 (g _ (by omega) (by omega)), aI_cg b3 (g _ (by omega) (by omega)), aI_cg b4 (g _ (by omega) (by omega)), aI_cg b5 (g _ (by omega) (by omega)), aI_cg b6 (g _ (by omega) (by omega))⟩
theorem bv_if {p : Prop} [Decidable p] {e : Nat} {N : LM} : lt_bv (if p then some (.inl none, M) else some (.inr e, N)) [] K = if p then K M else some (.inr e, N) := by
  split <;> rfl
theorem qIn_i : qIn x b1 b2 = true ↔ ¬ x < b1 ∧ ¬ b2 < x := by
  unfold qIn
  rw [Bool.and_eq_true, Bool.not_eq_true', Bool.not_eq_true', decide_eq_false_iff_not, decide_eq_false_iff_not]
theorem z_key (d : Nat) : f_X10_checkKey (d + 1) M x = if qIn x 0 25 = true then some (.inl none, M) else some (.inr 0, aExn M) := by
  have e : (x < 26) ↔ ¬ 25 < x := by
    rw [Int32.lt_iff_toInt_lt, Int32.lt_iff_toInt_lt, show (26 : Int32).toInt = 26 from rfl, show (25 : Int32).toInt = 25 from rfl]; omega
  rw [e_X10_checkKey]
  by_cases q : qIn x 0 25 = true
  · obtain ⟨q1, q2⟩ := qIn_i.mp q
    rw [if_pos q, if_neg q1, if_pos (e.mpr q2)]
  · rw [if_neg q]
    by_cases q1 : x < 0
    · rw [if_pos q1]
    · rw [if_neg q1, if_neg (fun z => q (qIn_i.mpr ⟨q1, e.mp z⟩))]
theorem z_cache (d : Nat) : f_X10_checkCache (d + 1) M x = if qIn x 0 5 = true then some (.inl none, M) else some (.inr 0, aExn M) := by
  have e : (x < 6) ↔ ¬ 5 < x := by
    rw [Int32.lt_iff_toInt_lt, Int32.lt_iff_toInt_lt, show (6 : Int32).toInt = 6 from rfl, show (5 : Int32).toInt = 5 from rfl]; omega
  rw [e_X10_checkCache]
  by_cases q : qIn x 0 5 = true
  · obtain ⟨q1, q2⟩ := qIn_i.mp q
    rw [if_pos q, if_neg q1, if_pos (e.mpr q2)]
  · rw [if_neg q]
    by_cases q1 : x < 0
    · rw [if_pos q1]
    · rw [if_neg q1, if_neg (fun z => q (qIn_i.mpr ⟨q1, e.mp z⟩))]
theorem z_range (d : Nat) : f_X10_checkRange (d + 1) M x b1 b2 = if qIn x b1 b2 = true then some (.inl none, M) else some (.inr 1, aExn M) := by
  rw [e_X10_checkRange]
  by_cases q : qIn x b1 b2 = true
  · obtain ⟨q1, q2⟩ := qIn_i.mp q
    rw [if_pos q, if_neg q1, if_neg q2]
  · rw [if_neg q]
    by_cases q1 : x < b1
    · rw [if_pos q1]
    · rw [if_neg q1, if_pos (Classical.byContradiction fun z => q (qIn_i.mpr ⟨q1, z⟩))]
theorem nI_m (hn : n ≤ 300) : (nI n - 1).toInt = (n : Int) - 1 := by
  rw [Int32.toInt_sub, lt_iT (by omega), show (1 : Int32).toInt = 1 from rfl, Int.bmod_eq_of_le (by omega) (by omega)]
theorem z_study (d : Nat) : f_X10_checkStudyRule (d + 1) M x = if qIn x (-1) 2 = true then some (.inl none, M) else some (.inr 1, aExn M) := by
  have e : qIn x (-1) 2 = true ↔ (x = -1 ∨ x = 0 ∨ x = 1 ∨ x = 2) := by
    rw [qIn_i]
    constructor
    · rintro ⟨h1, h2⟩
      rw [Int32.lt_iff_toInt_lt, show (-1 : Int32).toInt = -1 from rfl] at h1
      rw [Int32.lt_iff_toInt_lt, show (2 : Int32).toInt = 2 from rfl] at h2
      have : x.toInt = -1 ∨ x.toInt = 0 ∨ x.toInt = 1 ∨ x.toInt = 2 := by omega
      rcases this with q | q | q | q
      · exact Or.inl (Int32.toInt.inj q)
      · exact Or.inr (Or.inl (Int32.toInt.inj q))
      · exact Or.inr (Or.inr (Or.inl (Int32.toInt.inj q)))
      · exact Or.inr (Or.inr (Or.inr (Int32.toInt.inj q)))
    · rintro (rfl | rfl | rfl | rfl) <;> decide
  rw [e_X10_checkStudyRule]
  by_cases q : qIn x (-1) 2 = true
  · rw [if_pos q]
    rcases e.mp q with rfl | rfl | rfl | rfl <;> rfl
  · rw [if_neg q, if_neg (fun z => q (e.mpr (Or.inl z))), if_neg (fun z => q (e.mpr (Or.inr (Or.inl z)))), if_neg (fun z => q (e.mpr (Or.inr (Or.inr (Or.inl z))))), if_neg (fun z => q (e.mpr (Or.inr (Or.inr (Or.inr z)))))]
theorem nnP_u {g g' : Nat → Option Nat} {e : Nat} (he : e < 6) (h0 : g e = none) (h1 : g' e ≠ none) (h2 : ∀ j, j ≠ e → g' j = g j) : nnP g' + 1 = nnP g := by
  unfold nnP
  have : e = 0 ∨ e = 1 ∨ e = 2 ∨ e = 3 ∨ e = 4 ∨ e = 5 := by omega
  rcases this with rfl | rfl | rfl | rfl | rfl | rfl
  · rw [h2 1 (by omega), h2 2 (by omega), h2 3 (by omega), h2 4 (by omega), h2 5 (by omega), if_neg h1, if_pos h0]; omega
  · rw [h2 0 (by omega), h2 2 (by omega), h2 3 (by omega), h2 4 (by omega), h2 5 (by omega), if_neg h1, if_pos h0]; omega
  · rw [h2 0 (by omega), h2 1 (by omega), h2 3 (by omega), h2 4 (by omega), h2 5 (by omega), if_neg h1, if_pos h0]; omega
  · rw [h2 0 (by omega), h2 1 (by omega), h2 2 (by omega), h2 4 (by omega), h2 5 (by omega), if_neg h1, if_pos h0]; omega
  · rw [h2 0 (by omega), h2 1 (by omega), h2 2 (by omega), h2 3 (by omega), h2 5 (by omega), if_neg h1, if_pos h0]; omega
  · rw [h2 0 (by omega), h2 1 (by omega), h2 2 (by omega), h2 3 (by omega), h2 4 (by omega), if_neg h1, if_pos h0]
end Ub
section Uc
variable {M M' N : LM} {L B D P U i j k t w f n c e r a o : Nat} {x y v b1 b2 : Int32} {z : Option (LO × LM)} {K : LM → Option (LO × LM)} {b : Bool} {T : BT} {kf fs W p : Nat → Nat} {xs H H' : Nat → Int32} {V V' X X' : Nat → Nat → Int32} {l : Option (List Nat)} {y64 : Int64}
/-- what may change of the reference's other cells where nothing is told by it -/
def XKp (X X' : Nat → Nat → Int32) : Prop := (∀ t, (3 ≤ t ∧ t ≤ 8) ∨ (15 ≤ t ∧ t ≤ 17) → X' t = X t) ∧ ∀ j, j = 3 ∨ j = 4 ∨ (14 ≤ j ∧ j ≤ 18) ∨ j = 20 ∨ j = 24 → X' 0 j = X 0 j
theorem XKp.rfl' : XKp X X := ⟨fun _ _ => rfl, fun _ _ => rfl⟩
theorem XKp.tr {X2 : Nat → Nat → Int32} (h : XKp X X') (g : XKp X' X2) : XKp X X2 := ⟨fun t ht => (g.1 t ht).trans (h.1 t ht), fun j hj => (g.2 j hj).trans (h.2 j hj)⟩
/-- the class's live cells -/
def LV (M M' : LM) : Prop := (∀ a, a ≤ 104 ∨ a = 106 ∨ a = 117 ∨ 123 ≤ a → mI M' a = mI M a) ∧ mI M' 105 1 = mI M 105 1 ∧ mI M' 116 1 = mI M 116 1 ∧ (∀ a, a ≤ 104 ∨ 202 ≤ a → mL M' a = mL M a) ∧ mP M' = mP M ∧ mK M' = mK M ∧ mZ M' = mZ M ∧ mN M' = mN M ∧ mC M' ≤ mC M + 2 ∧ mS M' ≤ mS M + 12
theorem LV.rfl' : LV M M := ⟨fun _ _ => rfl, rfl, rfl, fun _ _ => rfl, rfl, rfl, rfl, rfl, Nat.le_add_right _ _, Nat.le_add_right _ _⟩
end Uc
section Ul
variable {M M' M1 N : LM} {L B D P U i j k t w f n c e r a o m ch len lo hi : Nat} {x y v b1 b2 code cache key what rule its greater keys most : Int32} {z : Option (LO × LM)} {b : Bool} {T : BT} {kf fs W p : Nat → Nat} {xs H H' : Nat → Int32} {V V' X X' : Nat → Nat → Int32} {l : Option (List Nat)} {y64 : Int64} {fL fX fC : LM → Option (LO × LM)} {hl : List (Nat × Int32)} {S Z Z' : CS}
theorem qIn_r (hlo : lo < 2147483648) (hhi : hi < 2147483648) (hq : qIn x (nI lo) (nI hi) = true) : ∃ m, lo ≤ m ∧ m ≤ hi ∧ x = nI m := by
  obtain ⟨h1, h2⟩ := qIn_i.mp hq
  rw [Int32.lt_iff_toInt_lt, lt_iT hlo] at h1
  rw [Int32.lt_iff_toInt_lt, lt_iT hhi] at h2
  refine ⟨x.toInt.toNat, by omega, by omega, Int32.toInt.inj ?_⟩
  rw [lt_iT (by omega)]
  omega
end Ul
section Uo
variable {M M' M1 N : LM} {L B D P U i j k t w f n n' c e r a o m ch len lo hi : Nat} {x y v b1 b2 code cache key what rule its greater keys most : Int32} {z : Option (LO × LM)} {b : Bool} {T T' : BT} {kf fs W p kf' fs' W' : Nat → Nat} {xs H H' : Nat → Int32} {V V' X X' X2 : Nat → Nat → Int32} {l : Option (List Nat)} {y64 : Int64} {fL fX fC : LM → Option (LO × LM)} {hl : List (Nat × Int32)} {S Z Z' : CS}
theorem kAny_ex (Q : Nat → CS) : ∀ (m : Nat) (s : Int32), m ≤ 6 → (bt (kAny Q m s) k = true ↔ bt s k = true ∨ ∃ i, 6 - m ≤ i ∧ i < 6 ∧ (bt ((Q i).1 0 5) k = true ∨ bt ((Q i).1 13 0) k = true ∨ bt ((Q i).1 14 0) k = true))
  | 0, s, _ => ⟨fun h => Or.inl h, fun h => by
    rcases h with h | ⟨u, h1, h2, -⟩
    · exact h
    · omega⟩
  | m + 1, s, hm => by
    unfold kAny
    rw [kAny_ex Q m _ (by omega), b_or, b_or, b_or, Bool.or_eq_true, Bool.or_eq_true, Bool.or_eq_true]
    constructor
    · rintro ((h | ((h | h) | h)) | ⟨u, h1, h2, h3⟩)
      · exact Or.inl h
      · exact Or.inr ⟨5 - m, by omega, by omega, Or.inl h⟩
      · exact Or.inr ⟨5 - m, by omega, by omega, Or.inr (Or.inl h)⟩
      · exact Or.inr ⟨5 - m, by omega, by omega, Or.inr (Or.inr h)⟩
      · exact Or.inr ⟨u, by omega, h2, h3⟩
    · rintro (h | ⟨u, h1, h2, h3⟩)
      · exact Or.inl (Or.inl h)
      · by_cases q : u = 5 - m
        · rw [q] at h3
          rcases h3 with h | h | h
          · exact Or.inl (Or.inr (Or.inl (Or.inl h)))
          · exact Or.inl (Or.inr (Or.inl (Or.inr h)))
          · exact Or.inl (Or.inr (Or.inr h))
        · exact Or.inr ⟨u, by omega, h2, h3⟩
end Uo
