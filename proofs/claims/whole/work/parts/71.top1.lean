/-! THE STATE between calls: cells, checks, all kept for undo (the class) -/
def nnP (g : Nat → Option Nat) : Nat := (if g 0 = none then 1 else 0) + (if g 1 = none then 1 else 0) + (if g 2 = none then 1 else 0) + (if g 3 = none then 1 else 0) + (if g 4 = none then 1 else 0) + (if g 5 = none then 1 else 0)
/-- where all lies: the script 0, the class's object 1, its bench 2, the past 102, the cursor 103, the text 105, the study 111, the search 116, the reference 123, what is answered 200, 201; benches that are kept behind -/
def CSK (L : Nat) (M : LM) : Prop :=
  (mK M 1 = 26 ∧ mP M 1 0 = some 2 ∧ mP M 1 1 = some 102 ∧ mP M 1 4 = some 103 ∧ mP M 1 5 = some 105 ∧ mP M 1 6 = some 111 ∧ mP M 1 7 = some 116) ∧ (mK M 102 = 5 ∧ mZ M 102 = 6) ∧ bA M 2 ∧ QA M 103 ∧ TA M 105 ∧ SA M 111 ∧ PA' M 116 ∧ RA M 123 ∧
  (mK M 200 = 2 ∧ mZ M 200 = 1) ∧ (mK M 201 = 4 ∧ mZ M 201 = 1) ∧ (mK M 0 = 9 ∧ mZ M 0 = L) ∧ 202 ≤ mN M ∧ (∀ j P, j < 6 → mP M 102 j = some P → bA M P ∧ 202 ≤ P ∧ P + 100 ≤ mN M) ∧ ∀ i j P Q, i < 6 → j < 6 → i ≠ j → mP M 102 i = some P → mP M 102 j = some Q → P + 100 ≤ Q ∨ Q + 100 ≤ P
section Ub
variable {M M' N : LM} {L B D P U i j k t w f n c e r a o : Nat} {x y v b1 b2 : Int32} {z : Option (LO × LM)} {K : LM → Option (LO × LM)} {b : Bool} {T : BT}
/-- structures lie in cells of their own -/
def SM (M M' : LM) (lo hi : Nat) : Prop := ∀ a, lo ≤ a → a < hi → mK M' a = mK M a ∧ mZ M' a = mZ M a ∧ mP M' a = mP M a
theorem aI_cg {a n : Nat} (h : aI M a n) (g : mK M' a = mK M a ∧ mZ M' a = mZ M a ∧ mP M' a = mP M a) : aI M' a n := ⟨g.1.trans h.1, g.2.1.trans h.2.1, h.2.2⟩
theorem aL_cg {a n : Nat} (h : aL M a n) (g : mK M' a = mK M a ∧ mZ M' a = mZ M a ∧ mP M' a = mP M a) : aL M' a n := ⟨g.1.trans h.1, g.2.1.trans h.2.1, h.2.2⟩
theorem cA_cg {C : Nat} (h : cA M C) (g : SM M M' C (C + 15)) : cA M' C := by
  obtain ⟨⟨a1, a2, a3, a4, a5, a6, a7, a8, a9⟩, ⟨b1, b2, b3, b4, b5, b6, b7⟩, ⟨c1, c2⟩, d1, d2, d3, d4, d5, d6, d7, d8, d9, d10, d11⟩ := h
  have g' : ∀ t, t < 15 → mK M' (C + t) = mK M (C + t) ∧ mZ M' (C + t) = mZ M (C + t) ∧ mP M' (C + t) = mP M (C + t) := fun t ht => g _ (by omega) (by omega)
  have g0 := g C (by omega) (by omega)
  have g6 := g' 6 (by omega)
  refine ⟨⟨g0.1.trans a1, ?_, ?_, ?_, ?_, ?_, ?_, ?_, ?_⟩, ⟨g6.1.trans b1, ?_, ?_, ?_, ?_, ?_, ?_⟩, ⟨(g' 13 (by omega)).1.trans c1, (g' 14 (by omega)).1.trans c2⟩, aI_cg d1 (g' 1 (by omega)), aI_cg d2 (g' 2 (by omega)), aL_cg d3 (g' 3 (by omega)), aL_cg d4 (g' 4 (by omega)), aL_cg d5 (g' 5 (by omega)), aI_cg d6 (g' 7 (by omega)), aI_cg d7 (g' 8 (by omega)), aI_cg d8 (g' 9 (by omega)), aI_cg d9 (g' 10 (by omega)), aL_cg d10 (g' 11 (by omega)), aL_cg d11 (g' 12 (by omega))⟩
  all_goals first | (rw [g0.2.2]; assumption) | (rw [g6.2.2]; assumption)
theorem bA_cg (h : bA M B) (g : SM M M' B (B + 100)) : bA M' B := by
  obtain ⟨a1, a2, a3, a4, a5, ⟨k1, k2, k3, k4, k5, k6, k7⟩, ⟨w1, w2, w3, w4, w5, w6, w7⟩, a6, a7, a8⟩ := h
  have g' : ∀ t, t < 100 → mK M' (B + t) = mK M (B + t) ∧ mZ M' (B + t) = mZ M (B + t) ∧ mP M' (B + t) = mP M (B + t) := fun t ht => g _ (by omega) (by omega)
  have g0 := g B (by omega) (by omega)
  have g1 := g' 1 (by omega)
  have g5 := g' 5 (by omega)
  have g24 := g' 24 (by omega)
  refine ⟨g0.1.trans a1, ?_, ?_, ?_, ?_, ⟨g1.1.trans k1, ?_, ?_, ?_, aI_cg k5 (g' 2 (by omega)), aI_cg k6 (g' 3 (by omega)), aI_cg k7 (g' 4 (by omega))⟩, ⟨g5.1.trans w1, ?_, ?_, ?_, aI_cg w5 (g' 6 (by omega)), aI_cg w6 (g' 7 (by omega)), aI_cg w7 (g' 8 (by omega))⟩, g24.1.trans a6, g24.2.1.trans a7, fun i hi => ⟨?_, ?_⟩⟩
  · rw [g0.2.2]; exact a2
  · rw [g0.2.2]; exact a3
  · rw [g0.2.2]; exact a4
  · rw [g0.2.2]; exact a5
  · rw [g1.2.2]; exact k2
  · rw [g1.2.2]; exact k3
  · rw [g1.2.2]; exact k4
  · rw [g5.2.2]; exact w2
  · rw [g5.2.2]; exact w3
  · rw [g5.2.2]; exact w4
  · rw [g24.2.2]; exact (a8 i hi).1
  · have := cc_ge (B := B) hi
    exact cA_cg (a8 i hi).2 (fun a h1 h2 => g a (by omega) (by omega))
theorem QA_cg (h : QA M U) (g : SM M M' U (U + 2)) : QA M' U := by
  obtain ⟨a1, a2, a3⟩ := h
  have g0 := g U (by omega) (by omega)
  exact ⟨g0.1.trans a1, by rw [g0.2.2]; exact a2, aI_cg a3 (g _ (by omega) (by omega))⟩
theorem TA_cg (h : TA M U) (g : SM M M' U (U + 6)) : TA M' U := by
  obtain ⟨a1, a2, a3, a4, a5, a6, b1, b2, b3, b4, b5⟩ := h
  have g0 := g U (by omega) (by omega)
  exact ⟨g0.1.trans a1, by rw [g0.2.2]; exact a2, by rw [g0.2.2]; exact a3, by rw [g0.2.2]; exact a4, by rw [g0.2.2]; exact a5, by rw [g0.2.2]; exact a6, aI_cg b1 (g _ (by omega) (by omega)), aI_cg b2 (g _ (by omega) (by omega)), aI_cg b3 (g _ (by omega) (by omega)), aI_cg b4 (g _ (by omega) (by omega)), aI_cg b5 (g _ (by omega) (by omega))⟩
theorem SA_cg (h : SA M U) (g : SM M M' U (U + 5)) : SA M' U := by
  obtain ⟨a1, a2, a3, a4, a5, b1, b2, b3, b4⟩ := h
  have g0 := g U (by omega) (by omega)
  exact ⟨g0.1.trans a1, by rw [g0.2.2]; exact a2, by rw [g0.2.2]; exact a3, by rw [g0.2.2]; exact a4, by rw [g0.2.2]; exact a5, aL_cg b1 (g _ (by omega) (by omega)), aI_cg b2 (g _ (by omega) (by omega)), aI_cg b3 (g _ (by omega) (by omega)), aI_cg b4 (g _ (by omega) (by omega))⟩
theorem PA_cg (h : PA' M U) (g : SM M M' U (U + 7)) : PA' M' U := by
  obtain ⟨a1, a2, a3, a4, a5, a6, a7, b1, b2, b3, b4, b5, b6⟩ := h
  have g0 := g U (by omega) (by omega)
  exact ⟨g0.1.trans a1, by rw [g0.2.2]; exact a2, by rw [g0.2.2]; exact a3, by rw [g0.2.2]; exact a4, by rw [g0.2.2]; exact a5, by rw [g0.2.2]; exact a6, by rw [g0.2.2]; exact a7, aI_cg b1 (g _ (by omega) (by omega)), aL_cg b2 (g _ (by omega) (by omega)), aI_cg b3 (g _ (by omega) (by omega)), aI_cg b4 (g _ (by omega) (by omega)), aI_cg b5 (g _ (by omega) (by omega)), aI_cg b6 (g _ (by omega) (by omega))⟩
theorem RA_cg (h : RA M o) (g : SM M M' o (o + 77)) : RA M' o := by
  have e : ∀ t, t < 77 → mK M' (o + t) = mK M (o + t) ∧ mZ M' (o + t) = mZ M (o + t) ∧ mP M' (o + t) = mP M (o + t) := fun t ht => g _ (by omega) (by omega)
  have e0 := g o (by omega) (by omega)
  obtain ⟨a1, a2, a3, a4, a5, a6, a7, a8, a9, a10, a11, a12, a13, h⟩ := h
  refine ⟨e0.1.trans a1, by rw [e0.2.2]; exact a2, (e 2 (by omega)).1.trans a3, (e 2 (by omega)).2.1.trans a4, by rw [e0.2.2]; exact a5, (e 20 (by omega)).1.trans a6, (e 20 (by omega)).2.1.trans a7, by rw [e0.2.2]; exact a8, (e 47 (by omega)).1.trans a9, (e 47 (by omega)).2.1.trans a10, fun j hj => ?_, fun j hj => ?_, fun j hj => ?_, ?_⟩
  · have := a11 j hj
    rw [show o + 3 + j = o + (3 + j) by omega] at this ⊢
    exact ⟨(e (3 + j) (by omega)).1.trans this.1, (e (3 + j) (by omega)).2.1.trans this.2⟩
  · have := a12 j hj
    rw [show o + 21 + j = o + (21 + j) by omega] at this ⊢
    exact ⟨by rw [(e 20 (by omega)).2.2]; exact this.1, (e (21 + j) (by omega)).1.trans this.2.1, (e (21 + j) (by omega)).2.1.trans this.2.2⟩
  · have := a13 j hj
    rw [show o + 48 + j = o + (48 + j) by omega] at this ⊢
    exact ⟨by rw [(e 47 (by omega)).2.2]; exact this.1, (e (48 + j) (by omega)).1.trans this.2.1, (e (48 + j) (by omega)).2.1.trans this.2.2⟩
  · obtain ⟨b1, b2, b3, b4, b5, b6, b7, b8, b9, b10, b11, b12, b13, b14, b15⟩ := h
    have f : ∀ {fd t k n : Nat}, t < 77 → (mP M o fd = some (o + t) ∧ mK M (o + t) = k ∧ mZ M (o + t) = n) → (mP M' o fd = some (o + t) ∧ mK M' (o + t) = k ∧ mZ M' (o + t) = n) := fun {fd t k n} ht q => ⟨by rw [e0.2.2]; exact q.1, (e t ht).1.trans q.2.1, (e t ht).2.1.trans q.2.2⟩
    exact ⟨f (by omega) b1, f (by omega) b2, f (by omega) b3, f (by omega) b4, f (by omega) b5, f (by omega) b6, f (by omega) b7, f (by omega) b8, f (by omega) b9, f (by omega) b10, f (by omega) b11, f (by omega) b12, f (by omega) b13, f (by omega) b14, f (by omega) b15⟩
/-! ### what the class's methods ask of the cells -/
theorem t_ck (h : CSK L M) : lt_ck M 1 26 z = z := lt_ck_t h.1.1
theorem t_p0 (h : CSK L M) : mP M 1 0 = some 2 := h.1.2.1
theorem t_p1 (h : CSK L M) : mP M 1 1 = some 102 := h.1.2.2.1
theorem t_p4 (h : CSK L M) : mP M 1 4 = some 103 := h.1.2.2.2.1
theorem t_p5 (h : CSK L M) : mP M 1 5 = some 105 := h.1.2.2.2.2.1
theorem t_p6 (h : CSK L M) : mP M 1 6 = some 111 := h.1.2.2.2.2.2.1
theorem t_p7 (h : CSK L M) : mP M 1 7 = some 116 := h.1.2.2.2.2.2.2
theorem t_past (h : CSK L M) : mK M 102 = 5 ∧ mZ M 102 = 6 := h.2.1
theorem t_b (h : CSK L M) : bA M 2 := h.2.2.1
theorem t_q (h : CSK L M) : QA M 103 := h.2.2.2.1
theorem t_t (h : CSK L M) : TA M 105 := h.2.2.2.2.1
theorem t_s (h : CSK L M) : SA M 111 := h.2.2.2.2.2.1
theorem t_h (h : CSK L M) : PA' M 116 := h.2.2.2.2.2.2.1
theorem t_r (h : CSK L M) : RA M 123 := h.2.2.2.2.2.2.2.1
theorem t_out (h : CSK L M) : mK M 200 = 2 ∧ mZ M 200 = 1 := h.2.2.2.2.2.2.2.2.1
theorem t_outD (h : CSK L M) : mK M 201 = 4 ∧ mZ M 201 = 1 := h.2.2.2.2.2.2.2.2.2.1
theorem t_sc (h : CSK L M) : mK M 0 = 9 ∧ mZ M 0 = L := h.2.2.2.2.2.2.2.2.2.2.1
theorem t_n (h : CSK L M) : 202 ≤ mN M := h.2.2.2.2.2.2.2.2.2.2.2.1
theorem t_pa (h : CSK L M) (hj : j < 6) (e : mP M 102 j = some P) : bA M P ∧ 202 ≤ P ∧ P + 100 ≤ mN M := h.2.2.2.2.2.2.2.2.2.2.2.2.1 j P hj e
theorem t_pd (h : CSK L M) (hi : i < 6) (hj : j < 6) (hij : i ≠ j) {Q : Nat} (e : mP M 102 i = some P) (e' : mP M 102 j = some Q) : P + 100 ≤ Q ∨ Q + 100 ≤ P := h.2.2.2.2.2.2.2.2.2.2.2.2.2 i j P Q hi hj hij e e'
theorem t_ckB (h : CSK L M) : lt_ck M 2 16 z = z := lt_ck_t (t_b h).1
theorem t_B0 (h : CSK L M) : mP M 2 0 = some 3 := (t_b h).2.1
theorem t_B1 (h : CSK L M) : mP M 2 1 = some 7 := (t_b h).2.2.1
theorem t_kA (h : CSK L M) : kA M 3 4 5 6 := (t_b h).2.2.2.2.2.1
theorem t_ckK (h : CSK L M) : lt_ck M 3 19 z = z := lt_ck_t (t_kA h).1
theorem t_K0 (h : CSK L M) : mP M 3 0 = some 4 := (t_kA h).2.1
theorem t_K1 (h : CSK L M) : mP M 3 1 = some 5 := (t_kA h).2.2.1
theorem t_K2 (h : CSK L M) : mP M 3 2 = some 6 := (t_kA h).2.2.2.1
theorem t_RW (h : CSK L M) : RW M 7 := (t_b h).2.2.2.2.2.2.1
theorem t_ckR (h : CSK L M) : lt_ck M 7 20 z = z := lt_ck_t (t_RW h).1
theorem t_R0 (h : CSK L M) : mP M 7 0 = some 8 := (t_RW h).2.1
theorem t_R1 (h : CSK L M) : mP M 7 1 = some 9 := (t_RW h).2.2.1
theorem t_R2 (h : CSK L M) : mP M 7 2 = some 10 := (t_RW h).2.2.2.1
theorem t_cA (h : CSK L M) (hi : i < 6) : cA M (cc 2 i) := ((t_b h).2.2.2.2.2.2.2.2.2 i hi).2
theorem t_ckC (h : CSK L M) (hi : i < 6) : lt_ck M (cc 2 i) 17 z = z := lt_ck_t (t_cA h hi).1.1
theorem t_cache (d : Nat) (h : CSK L M) (hi : i < 6) : f_X0_cache (d + 1) M 2 (nI i) = some (.inl (some (.ref (cc 2 i))), M) := by
  have := b_cache (M := M) (B := 2) (T := tB M 2) d (t_b h) hi
  rwa [bM_id] at this
theorem t_KO (h : CSK L M) (hi : i < 6) : KO M (cc 2 i) 3 := by
  have := bKO (M := M) (B := 2) (T := tB M 2) (t_b h) hi
  rwa [bM_id] at this
theorem t_al (h : CSK L M) : lt_al M 102 z = z := lt_al_t (by have := (t_past h).1; omega)
theorem t_aa (h : CSK L M) (hj : j < 6) : lt_aa M 102 (nI j) z = z := by
  have h1 := (t_past h).1
  have h2 := (t_past h).2
  unfold lt_aa
  rw [if_pos ⟨by omega, by rw [h2]; exact lt_iI hj (by omega)⟩]
theorem t_sa (h : CSK L M) (hx : 0 ≤ x.toInt ∧ x.toInt < (L : Int)) : lt_ar M 0 9 x z = z := lt_ar_t (t_sc h).1 (by rw [(t_sc h).2]; exact hx)
theorem t_oa (h : CSK L M) : lt_ar M 200 2 0 z = z := lt_ar_t (t_out h).1 (by rw [(t_out h).2]; decide)
theorem t_od (h : CSK L M) : lt_ar M 201 4 0 z = z := lt_ar_t (t_outD h).1 (by rw [(t_outD h).2]; decide)
/-! ### the checks -/
theorem bv_if {p : Prop} [Decidable p] {e : Nat} {N : LM} : lt_bv (if p then some (.inl none, M) else some (.inr e, N)) [] K = if p then K M else some (.inr e, N) := by
  split <;> rfl
theorem qIn_i : qIn x b1 b2 = true ↔ ¬ x < b1 ∧ ¬ b2 < x := by
  unfold qIn
  rw [Bool.and_eq_true, Bool.not_eq_true', Bool.not_eq_true', decide_eq_false_iff_not, decide_eq_false_iff_not]
theorem z_key (d : Nat) : f_X10_checkKey (d + 1) M x = if qIn x 0 25 = true then some (.inl none, M) else some (.inr 0, aExn M) := by
  have e : (x < 26) ↔ ¬ 25 < x := by
    rw [Int32.lt_iff_toInt_lt, Int32.lt_iff_toInt_lt, show (26 : Int32).toInt = 26 from rfl, show (25 : Int32).toInt = 25 from rfl]; omega
  rw [e_X10_checkKey]
  by_cases q : qIn x 0 25 = true
  · obtain ⟨q1, q2⟩ := qIn_i.mp q
    rw [if_pos q, if_neg q1, if_pos (e.mpr q2)]
  · rw [if_neg q]
    by_cases q1 : x < 0
    · rw [if_pos q1]
    · rw [if_neg q1, if_neg (fun z => q (qIn_i.mpr ⟨q1, e.mp z⟩))]
theorem z_cache (d : Nat) : f_X10_checkCache (d + 1) M x = if qIn x 0 5 = true then some (.inl none, M) else some (.inr 0, aExn M) := by
  have e : (x < 6) ↔ ¬ 5 < x := by
    rw [Int32.lt_iff_toInt_lt, Int32.lt_iff_toInt_lt, show (6 : Int32).toInt = 6 from rfl, show (5 : Int32).toInt = 5 from rfl]; omega
  rw [e_X10_checkCache]
  by_cases q : qIn x 0 5 = true
  · obtain ⟨q1, q2⟩ := qIn_i.mp q
    rw [if_pos q, if_neg q1, if_pos (e.mpr q2)]
  · rw [if_neg q]
    by_cases q1 : x < 0
    · rw [if_pos q1]
    · rw [if_neg q1, if_neg (fun z => q (qIn_i.mpr ⟨q1, e.mp z⟩))]
theorem z_range (d : Nat) : f_X10_checkRange (d + 1) M x b1 b2 = if qIn x b1 b2 = true then some (.inl none, M) else some (.inr 1, aExn M) := by
  rw [e_X10_checkRange]
  by_cases q : qIn x b1 b2 = true
  · obtain ⟨q1, q2⟩ := qIn_i.mp q
    rw [if_pos q, if_neg q1, if_neg q2]
  · rw [if_neg q]
    by_cases q1 : x < b1
    · rw [if_pos q1]
    · rw [if_neg q1, if_pos (Classical.byContradiction fun z => q (qIn_i.mpr ⟨q1, z⟩))]
theorem nI_m (hn : n ≤ 300) : (nI n - 1).toInt = (n : Int) - 1 := by
  rw [Int32.toInt_sub, lt_iT (by omega), show (1 : Int32).toInt = 1 from rfl, Int.bmod_eq_of_le (by omega) (by omega)]
theorem z_req (d : Nat) (h : CSK L M) (hl : mI M 7 3 = nI n) (hn : n ≤ 300) : f_X10_checkRequest (d + 1) M 1 x = if qIn x 0 (nI n - 1) = true then some (.inl none, M) else some (.inr 0, aExn M) := by
  have e : (x < nI n) ↔ ¬ nI n - 1 < x := by
    rw [Int32.lt_iff_toInt_lt, Int32.lt_iff_toInt_lt, nI_m hn, lt_iT (by omega)]; omega
  rw [e_X10_checkRequest, t_ck h, t_p0 h, x_rf, t_ckB h, t_B1 h, x_rf, t_ckR h, hl]
  by_cases q : qIn x 0 (nI n - 1) = true
  · obtain ⟨q1, q2⟩ := qIn_i.mp q
    rw [if_pos q, if_neg q1, if_pos (e.mpr q2)]
  · rw [if_neg q]
    by_cases q1 : x < 0
    · rw [if_pos q1]
    · rw [if_neg q1, if_neg (fun z => q (qIn_i.mpr ⟨q1, e.mp z⟩))]
theorem z_takes (d : Nat) (h : CSK L M) (hl : mI M 7 3 = nI n) : f_X10_checkRowTakes (d + 1) M 1 x = if 300 - nI n < x then some (.inr 2, aExn M) else some (.inl none, M) := by
  rw [e_X10_checkRowTakes, t_ck h, t_p0 h, x_rf, t_ckB h, t_B1 h, x_rf, t_ckR h, hl]
theorem z_rule (d : Nat) (h : CSK L M) (hi : i < 6) : f_X10_checkRule (d + 2) M 1 (nI i) x = if mI M (cc 2 i) 0 = x then some (.inl none, M) else some (.inr 1, aExn M) := by
  rw [e_X10_checkRule, t_ck h, t_p0 h, x_rf, t_ckB h, t_cache d h hi, lt_br_r, t_ckC h hi]
theorem z_study (d : Nat) : f_X10_checkStudyRule (d + 1) M x = if qIn x (-1) 2 = true then some (.inl none, M) else some (.inr 1, aExn M) := by
  have e : qIn x (-1) 2 = true ↔ (x = -1 ∨ x = 0 ∨ x = 1 ∨ x = 2) := by
    rw [qIn_i]
    constructor
    · rintro ⟨h1, h2⟩
      rw [Int32.lt_iff_toInt_lt, show (-1 : Int32).toInt = -1 from rfl] at h1
      rw [Int32.lt_iff_toInt_lt, show (2 : Int32).toInt = 2 from rfl] at h2
      have : x.toInt = -1 ∨ x.toInt = 0 ∨ x.toInt = 1 ∨ x.toInt = 2 := by omega
      rcases this with q | q | q | q
      · exact Or.inl (Int32.toInt.inj q)
      · exact Or.inr (Or.inl (Int32.toInt.inj q))
      · exact Or.inr (Or.inr (Or.inl (Int32.toInt.inj q)))
      · exact Or.inr (Or.inr (Or.inr (Int32.toInt.inj q)))
    · rintro (rfl | rfl | rfl | rfl) <;> decide
  rw [e_X10_checkStudyRule]
  by_cases q : qIn x (-1) 2 = true
  · rw [if_pos q]
    rcases e.mp q with rfl | rfl | rfl | rfl <;> rfl
  · rw [if_neg q, if_neg (fun z => q (e.mpr (Or.inl z))), if_neg (fun z => q (e.mpr (Or.inr (Or.inl z)))), if_neg (fun z => q (e.mpr (Or.inr (Or.inr (Or.inl z))))), if_neg (fun z => q (e.mpr (Or.inr (Or.inr (Or.inr z)))))]
/-! ### all kept for undo -/
def KEPT (L : Nat) (M M' : LM) (P e c : Nat) : Prop :=
  CSK L M' ∧ mP M' 102 e = some P ∧ (∀ j, j ≠ e → mP M' 102 j = mP M 102 j) ∧ (∀ Q, mP M 102 e = some Q → Q = P) ∧ BEq (tB M 2) (tB M' P) ∧ (∀ a, a ≠ 1 → (a < P ∨ P + 100 ≤ a) → a < mN M → mI M' a = mI M a ∧ mL M' a = mL M a) ∧
  mI M' 1 2 = nI (if e + 1 < 6 then e + 1 else 0) ∧ mI M' 1 3 = nI (if c < 6 then c + 1 else 6) ∧ (∀ a, a < mN M → a ≠ 102 → mP M' a = mP M a) ∧ mN M ≤ mN M' ∧ mC M' + 100 * nnP (mP M' 102) ≤ mC M + 100 * nnP (mP M 102) ∧ mS M' + 4314 * nnP (mP M' 102) ≤ mS M + 4314 * nnP (mP M 102)
theorem nnP_u {g g' : Nat → Option Nat} {e : Nat} (he : e < 6) (h0 : g e = none) (h1 : g' e ≠ none) (h2 : ∀ j, j ≠ e → g' j = g j) : nnP g' + 1 = nnP g := by
  unfold nnP
  have : e = 0 ∨ e = 1 ∨ e = 2 ∨ e = 3 ∨ e = 4 ∨ e = 5 := by omega
  rcases this with rfl | rfl | rfl | rfl | rfl | rfl
  · rw [h2 1 (by omega), h2 2 (by omega), h2 3 (by omega), h2 4 (by omega), h2 5 (by omega), if_neg h1, if_pos h0]; omega
  · rw [h2 0 (by omega), h2 2 (by omega), h2 3 (by omega), h2 4 (by omega), h2 5 (by omega), if_neg h1, if_pos h0]; omega
  · rw [h2 0 (by omega), h2 1 (by omega), h2 3 (by omega), h2 4 (by omega), h2 5 (by omega), if_neg h1, if_pos h0]; omega
  · rw [h2 0 (by omega), h2 1 (by omega), h2 2 (by omega), h2 4 (by omega), h2 5 (by omega), if_neg h1, if_pos h0]; omega
  · rw [h2 0 (by omega), h2 1 (by omega), h2 2 (by omega), h2 3 (by omega), h2 5 (by omega), if_neg h1, if_pos h0]; omega
  · rw [h2 0 (by omega), h2 1 (by omega), h2 2 (by omega), h2 3 (by omega), h2 4 (by omega), if_neg h1, if_pos h0]
/-- the copy, the end of the past, its length -/
theorem k_keep_54 (d : Nat) (h : CSK L M) (hP : bA M P) (h2 : 202 ≤ P) (he : e < 6) (hc : mI M 1 3 = nI c) (hc6 : c ≤ 6) : ∃ M', f_X10_keepForUndo_54 (d + 5) M 1 (nI e) P = some (.inl none, M') ∧ M'.2.2 = M.2.2 ∧ BEq (tB M 2) (tB M' P) ∧ (∀ a, a ≠ 1 → (a < P ∨ P + 100 ≤ a) → mI M' a = mI M a ∧ mL M' a = mL M a) ∧ mI M' 1 2 = nI (if e + 1 < 6 then e + 1 else 0) ∧ mI M' 1 3 = nI (if c < 6 then c + 1 else 6) := by
  have cp := b_copyBench (M := M) (B := P) (D := 2) (T := tB M P) d hP (t_b h) (by omega)
  rw [bM_id] at cp
  let N := bM M P (kCpB (tB M P) (tB M 2))
  have hN : CSK L N := h
  have e1 : nI e + 1 = nI (e + 1) := lt_iA (j := e) (k := 1)
  have e2 : (nI (e + 1) < (6 : Int32)) ↔ e + 1 < 6 := lt_iL (j := e + 1) (k := 6) (by omega) (by omega)
  have n13 : mI N 1 3 = nI c := by
    have : mI N 1 = mI M 1 := bMo (by omega)
    rw [this]; exact hc
  have c1 : nI c + 1 = nI (c + 1) := lt_iA (j := c) (k := 1)
  have c2 : (nI c < (6 : Int32)) ↔ c < 6 := lt_iL (j := c) (k := 6) (by omega) (by omega)
  have fr : ∀ (v v' : Int32) (N' : LM), N' = wI (wI N 1 2 v) 1 3 v' → N'.2.2 = M.2.2 ∧ BEq (tB M 2) (tB N' P) ∧ (∀ a, a ≠ 1 → (a < P ∨ P + 100 ≤ a) → mI N' a = mI M a ∧ mL N' a = mL M a) ∧ mI N' 1 2 = v ∧ mI N' 1 3 = v' := by
    intro v v' N' hN'
    subst hN'
    refine ⟨rfl, ?_, fun a h1 h2 => ⟨?_, ?_⟩, rfl, rfl⟩
    · refine (kCpB_eq (T := tB M P) (P := tB M 2)).tr ((tB_bM (M := M) (B := P)).tr (tB_o fun a g1 g2 => ⟨?_, rfl⟩))
      rw [mI_wI_ne (by omega), mI_wI_ne (by omega)]
    · rw [mI_wI_ne h1, mI_wI_ne h1]
      exact bMo h2
    · exact bMoL h2
  rw [e_X10_keepForUndo_54, t_ck h, t_p0 h, x_rf, lt_ck_t hP.1, cp, lt_bv_r]
  have kA : ∀ {v : Int32} {z : Option (LO × LM)}, lt_ck (wI N 1 2 v) 1 26 z = z := fun {v z} => t_ck (M := wI N 1 2 v) hN
  have kB : ∀ {v v' : Int32} {z : Option (LO × LM)}, lt_ck (wI (wI N 1 2 v) 1 3 v') 1 26 z = z := fun {v v' z} => t_ck (M := wI (wI N 1 2 v) 1 3 v') hN
  show ∃ M', (if nI e + 1 < 6 then lt_ck N 1 26 (lt_m (wI N 1 2 (nI e + 1)) fun M13 => lt_ck M13 1 26 (if mI M13 1 3 < 6 then (lt_ck M13 1 26 (lt_ck M13 1 26 (lt_m (wI M13 1 3 ((mI M13 1 3) + 1)) fun M15 => some (.inl none, M15)))) else (lt_ck M13 1 26 (lt_m (wI M13 1 3 6) fun M14 => some (.inl none, M14))))) else (lt_ck N 1 26 (lt_m (wI N 1 2 0) fun M10 => lt_ck M10 1 26 (if mI M10 1 3 < 6 then (lt_ck M10 1 26 (lt_ck M10 1 26 (lt_m (wI M10 1 3 ((mI M10 1 3) + 1)) fun M12 => some (.inl none, M12)))) else (lt_ck M10 1 26 (lt_m (wI M10 1 3 6) fun M11 => some (.inl none, M11)))))) : Option (LO × LM)) = some (.inl none, M') ∧ _
  have m13 : ∀ v, mI (wI N 1 2 v) 1 3 = nI c := fun v => n13
  rw [e1]
  by_cases q : e + 1 < 6
  · rw [if_pos (e2.mpr q), t_ck hN, x_m, kA, m13, if_pos q]
    by_cases q2 : c < 6
    · rw [if_pos (c2.mpr q2), kA, kA, x_m, if_pos q2, c1]
      exact ⟨_, rfl, fr _ _ _ rfl⟩
    · rw [if_neg (fun z => q2 (c2.mp z)), kA, x_m, if_neg q2]
      exact ⟨_, rfl, fr _ _ _ rfl⟩
  · rw [if_neg (fun z => q (e2.mp z)), t_ck hN, x_m, kA, m13, if_neg q]
    by_cases q2 : c < 6
    · rw [if_pos (c2.mpr q2), kA, kA, x_m, if_pos q2, c1]
      exact ⟨_, rfl, fr _ _ _ rfl⟩
    · rw [if_neg (fun z => q2 (c2.mp z)), kA, x_m, if_neg q2]
      exact ⟨_, rfl, fr _ _ _ rfl⟩
theorem CSK_c (h : CSK L M) (e : M'.2.2 = M.2.2) : CSK L M' := by
  obtain ⟨f, g, r⟩ := M
  obtain ⟨f', g', r'⟩ := M'
  have e' : r' = r := e
  subst e'
  exact h
theorem k_keep (d : Nat) (h : CSK L M) (he : mI M 1 2 = nI e) (he6 : e < 6) (hc : mI M 1 3 = nI c) (hc6 : c ≤ 6) : ∃ M' P, f_X10_keepForUndo (d + 6) M 1 = some (.inl none, M') ∧ KEPT L M M' P e c := by
  have l0 : ¬ nI e < 0 := lt_neg (by omega)
  have hz : nI (mZ M 102) = 6 := by rw [(t_past h).2]; rfl
  have l6 : nI e < (6 : Int32) := (lt_iL (j := e) (k := 6) (by omega) (by omega)).mpr he6
  rw [e_X10_keepForUndo, t_ck h, he, if_neg l0, t_ck h, t_ck h, t_p1 h, x_rf, t_al h, hz, if_pos l6, t_ck h, e_X10_keepForUndo_27, t_ck h, t_p1 h, x_rf, t_aa h he6, lt_iN (by omega)]
  cases hp : mP M 102 e with
  | some P =>
    obtain ⟨p1, p2, p3⟩ := t_pa h he6 hp
    obtain ⟨M', a1, a2, a3, a4, a5, a6⟩ := k_keep_54 (e := e) (d + 1) h p1 p2 he6 hc hc6
    have q : mP M' = mP M ∧ mN M' = mN M ∧ mC M' = mC M ∧ mS M' = mS M := by
      unfold mP mN mC mS
      rw [a2]; exact ⟨rfl, rfl, rfl, rfl⟩
    refine ⟨M', P, a1, CSK_c h a2, by rw [q.1]; exact hp, fun j _ => by rw [q.1], fun Q hQ => by cases hQ.symm.trans hp; rfl, a3, fun a g1 g2 _ => a4 a g1 g2, a5, a6, fun a _ _ => by rw [q.1], by omega, ?_, ?_⟩
    · rw [q.1, q.2.2.1]; exact Nat.le_refl _
    · rw [q.1, q.2.2.2]; exact Nat.le_refl _
  | none =>
    have hN := t_n h
    show ∃ M' P, lt_m (aNew M 16 0 5) (fun M4 => lt_bv (f_X0_init (d + 5) M4 (mN M)) [] fun M5 => lt_ck M5 1 26 (lt_rf (mP M5 1 1) fun q6 => lt_as M5 q6 (nI e) (mN M) (lt_m (wP M5 q6 e (some (mN M))) fun M7 => f_X10_keepForUndo_54 (d + 5 + 1) M7 1 (nI e) (mN M)))) = some (.inl none, M') ∧ KEPT L M M' P e c
    obtain ⟨W', b1, b2⟩ := b_init (M := M) (B := mN M) (c := mC M + 1) (s := mS M + 5) (d + 1)
    rw [x_m, n_new1 rfl, b1, lt_bv_r]
    let M5 := nW M (mN M) 100 W' (mC M + 1 + 99) (mS M + 5 + 4309)
    show ∃ M' P, lt_ck M5 1 26 (lt_rf (mP M5 1 1) fun q6 => lt_as M5 q6 (nI e) (mN M) (lt_m (wP M5 q6 e (some (mN M))) fun M7 => f_X10_keepForUndo_54 (d + 5 + 1) M7 1 (nI e) (mN M))) = some (.inl none, M') ∧ KEPT L M M' P e c
    have lo : ∀ a, a < mN M → mK M5 a = mK M a ∧ mZ M5 a = mZ M a ∧ mP M5 a = mP M a ∧ mI M5 a = mI M a ∧ mL M5 a = mL M a := by
      intro a ha
      have q : ¬ (mN M ≤ a ∧ a < mN M + 100) := by omega
      exact ⟨if_neg q, if_neg q, funext fun j => if_neg q, funext fun j => if_neg q, funext fun j => if_neg q⟩
    have lo1 := lo 1 (by omega)
    have lo102 := lo 102 (by omega)
    have hB5 : bA M5 (mN M) := NB_bA b2
    have k16 : mK M5 (mN M) = 16 := hB5.1
    have ck1 : ∀ {z : Option (LO × LM)}, lt_ck M5 1 26 z = z := fun {z} => lt_ck_t (lo1.1.trans h.1.1)
    have as1 : ∀ {z : Option (LO × LM)}, lt_as M5 102 (nI e) (mN M) z = z := fun {z} => by
      unfold lt_as
      rw [if_pos ⟨by rw [lo102.1, (t_past h).1]; decide, by rw [lo102.2.1, (t_past h).2]; exact lt_iI he6 (by omega), by rw [lo102.1, (t_past h).1, k16]; rfl⟩]
    rw [ck1, lo1.2.2.1, t_p1 h, x_rf, as1, x_m]
    let M7 := wP M5 102 e (some (mN M))
    have p7 : mP M7 102 e = some (mN M) := if_pos ⟨rfl, rfl⟩
    have p7o : ∀ j, j ≠ e → mP M7 102 j = mP M 102 j := fun j hj => by
      have : mP M7 102 j = mP M5 102 j := if_neg (fun q => hj q.2)
      rw [this, lo102.2.2.1]
    have p7a : ∀ a, a ≠ 102 → mP M7 a = mP M5 a := fun a ha => funext fun j => if_neg (fun q => ha q.1)
    have sm : ∀ lo' hi, hi ≤ mN M → (hi ≤ 102 ∨ 103 ≤ lo') → SM M M7 lo' hi := fun lo' hi h1 h2 a h3 h4 => by
      have q := lo a (by omega)
      exact ⟨q.1, q.2.1, (p7a a (by omega)).trans q.2.2.1⟩
    have sm7 : SM M5 M7 (mN M) (mN M + 100) := fun a h3 h4 => ⟨rfl, rfl, p7a a (by omega)⟩
    have hB7 : bA M7 (mN M) := bA_cg hB5 sm7
    have old : ∀ j Q, j < 6 → j ≠ e → mP M7 102 j = some Q → bA M7 Q ∧ 202 ≤ Q ∧ Q + 100 ≤ mN M := fun j Q hj hje hq => by
      rw [p7o j hje] at hq
      obtain ⟨g1, g2, g3⟩ := t_pa h hj hq
      exact ⟨bA_cg g1 (sm _ _ g3 (by omega)), g2, g3⟩
    have h7 : CSK L M7 := by
      have g1 := sm 1 2 (by omega) (by omega) 1 (by omega) (by omega)
      refine ⟨⟨g1.1.trans h.1.1, ?_, ?_, ?_, ?_, ?_, ?_⟩, ⟨lo102.1.trans (t_past h).1, lo102.2.1.trans (t_past h).2⟩, bA_cg (t_b h) (sm _ _ (by omega) (by omega)), QA_cg (t_q h) (sm _ _ (by omega) (by omega)), TA_cg (t_t h) (sm _ _ (by omega) (by omega)), SA_cg (t_s h) (sm _ _ (by omega) (by omega)), PA_cg (t_h h) (sm _ _ (by omega) (by omega)), RA_cg (t_r h) (sm _ _ (by omega) (by omega)), ⟨(lo 200 (by omega)).1.trans (t_out h).1, (lo 200 (by omega)).2.1.trans (t_out h).2⟩, ⟨(lo 201 (by omega)).1.trans (t_outD h).1, (lo 201 (by omega)).2.1.trans (t_outD h).2⟩, ⟨(lo 0 (by omega)).1.trans (t_sc h).1, (lo 0 (by omega)).2.1.trans (t_sc h).2⟩, ?_, fun j Q hj hq => ?_, fun i j P Q hi hj hij hP hQ => ?_⟩
      · rw [g1.2.2]; exact t_p0 h
      · rw [g1.2.2]; exact t_p1 h
      · rw [g1.2.2]; exact t_p4 h
      · rw [g1.2.2]; exact t_p5 h
      · rw [g1.2.2]; exact t_p6 h
      · rw [g1.2.2]; exact t_p7 h
      · show 202 ≤ mN M + 100
        omega
      · show bA M7 Q ∧ 202 ≤ Q ∧ Q + 100 ≤ mN M + 100
        by_cases z : j = e
        · rw [z, p7] at hq
          cases hq
          exact ⟨hB7, hN, Nat.le_refl _⟩
        · obtain ⟨g1, g2, g3⟩ := old j Q hj z hq
          exact ⟨g1, g2, by omega⟩
      · by_cases z : i = e
        · by_cases z2 : j = e
          · omega
          · rw [z, p7] at hP
            cases hP
            have := (old j Q hj z2 hQ).2.2
            omega
        · by_cases z2 : j = e
          · rw [z2, p7] at hQ
            cases hQ
            have := (old i P hi z hP).2.2
            omega
          · rw [p7o i z] at hP
            rw [p7o j z2] at hQ
            exact t_pd h hi hj hij hP hQ
    have hc7 : mI M7 1 3 = nI c := by
      show mI M5 1 3 = nI c
      rw [lo1.2.2.2.1]; exact hc
    obtain ⟨M', a1, a2, a3, a4, a5, a6⟩ := k_keep_54 (e := e) (d + 1) h7 hB7 hN he6 hc7 hc6
    have q : mP M' = mP M7 ∧ mN M' = mN M7 ∧ mC M' = mC M7 ∧ mS M' = mS M7 := by
      unfold mP mN mC mS
      rw [a2]; exact ⟨rfl, rfl, rfl, rfl⟩
    have hnn := nnP_u (g := mP M 102) (g' := mP M7 102) he6 hp (by rw [p7]; intro z; cases z) p7o
    refine ⟨M', mN M, a1, CSK_c h7 a2, by rw [q.1]; exact p7, fun j hj => by rw [q.1]; exact p7o j hj, fun Q hQ => (by rw [hp] at hQ; cases hQ), ?_, fun a g1 g2 g3 => ?_, a5, a6, fun a g1 g2 => ?_, ?_, ?_, ?_⟩
    · refine BEq.tr (tB_o fun a g1 g2 => ?_) a3
      have := lo a (by omega)
      exact ⟨this.2.2.2.1, this.2.2.2.2⟩
    · have := lo a g3
      exact ⟨(a4 a g1 g2).1.trans this.2.2.2.1, (a4 a g1 g2).2.trans this.2.2.2.2⟩
    · rw [q.1, p7a a g2]
      exact (lo a g1).2.2.1
    · rw [q.2.1]; exact Nat.le_add_right _ _
    · rw [q.1, q.2.2.1]
      show mC M + 1 + 99 + 100 * nnP (mP M7 102) ≤ mC M + 100 * nnP (mP M 102)
      omega
    · rw [q.1, q.2.2.2]
      show mS M + 5 + 4309 + 4314 * nnP (mP M7 102) ≤ mS M + 4314 * nnP (mP M 102)
      omega
/-- the cursor closed -/
def clM (M : LM) : LM := wI (wI M 103 0 0) 103 1 0
theorem k_close (d : Nat) (h : CSK L M) : f_X2_close (d + 1) M 103 = some (.inl none, clM M) := by
  have k1 : ∀ {z : Option (LO × LM)}, lt_ck M 103 18 z = z := fun {z} => lt_ck_t (t_q h).1
  have k2 : ∀ {z : Option (LO × LM)}, lt_ck (wI M 103 0 0) 103 18 z = z := fun {z} => lt_ck_t (M := wI M 103 0 0) (t_q h).1
  rw [e_X2_close, k1, lt_b1_0, x_m, k2, lt_b1_0, x_m]
  rfl
theorem clM_o (h : a ≠ 103) : mI (clM M) a = mI M a := (mI_wI_ne h).trans (mI_wI_ne h)
theorem clM_s (h : CSK L M) : CSK L (clM M) := h
theorem k_begin (d : Nat) (h : CSK L M) (he : mI M 1 2 = nI e) (he6 : e < 6) (hc : mI M 1 3 = nI c) (hc6 : c ≤ 6) : ∃ M' P, f_X10_beginChange (d + 7) M 1 = some (.inl none, M') ∧ KEPT L (clM M) M' P e c := by
  obtain ⟨M', P, a1, a2⟩ := k_keep (M := clM M) (e := e) (c := c) d (clM_s h) ((congrFun (clM_o (by omega)) 2).trans he) he6 ((congrFun (clM_o (by omega)) 3).trans hc) hc6
  refine ⟨M', P, ?_, a2⟩
  rw [e_X10_beginChange, t_ck h, t_p4 h, x_rf, lt_ck_t (t_q h).1, k_close _ h, lt_bv_r, t_ck (clM_s h), a1, lt_bv_r]
end Ub
