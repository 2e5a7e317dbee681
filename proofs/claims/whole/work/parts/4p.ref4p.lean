/-! THE REFERENCE: the search for rows that shame -/
def qTK (m key : Nat) (K : Nat → Nat) : Nat → Nat := fun i => if i + 1 < m then K (i + 1) else if i + 1 = m then key else K i
def qTB (m : Nat) (B : Nat → Bool) : Nat → Bool := fun i => if i + 1 < m then B (i + 1) else if i + 1 = m then false else B i
/-- a queue in the memory: at a place, so many, keys and marks -/
def QF (X : Nat → Nat → Int32) (q m : Nat) (K : Nat → Nat) (B : Nat → Bool) : Prop := X 74 q = nI m ∧ m ≤ 6 ∧ ∀ i, i < m → K i < 26 ∧ X (21 + q) i = nI (K i) ∧ X (48 + q) i = bI (B i)
/-- turned until one without a mark stands first -/
def qSpin (m : Nat) : Nat → (Nat → Nat) → (Nat → Bool) → (Nat → Nat) × (Nat → Bool)
  | 0, K, B => (K, B)
  | f + 1, K, B => if B 0 = true then qSpin m f (qTK m (K 0) K) (qTB m B) else (K, B)
def qHitQ (K : Nat → Nat) (key : Nat) : Nat → Bool
  | 0 => false
  | m + 1 => qHitQ K key m || decide (K m = key)
def qMk (mk : Bool) (key : Nat) (K : Nat → Nat) (B : Nat → Bool) : Nat → Bool := fun i => B i || (mk && decide (K i = key))
/-- one more request in a queue -/
def qStp (mk : Bool) (room key : Nat) (s : Nat × (Nat → Nat) × (Nat → Bool)) : Bool × Nat × (Nat → Nat) × (Nat → Bool) :=
  if qHitQ s.2.1 key s.1 = true then (true, s.1, s.2.1, qMk mk key s.2.1 s.2.2) else
  if s.1 = room then (false, s.1, qTK s.1 key (qSpin s.1 s.1 s.2.1 (qMk mk key s.2.1 s.2.2)).1, qTB s.1 (qSpin s.1 s.1 s.2.1 (qMk mk key s.2.1 s.2.2)).2) else
  (false, s.1 + 1, (fun i => if i = s.1 then key else s.2.1 i), (fun i => if i = s.1 then false else qMk mk key s.2.1 s.2.2 i))
section Sg
variable {M M' : LM} {o i j k u w y f t n x m a len q room key : Nat} {H : Nat → Int32} {V V' X X' : Nat → Nat → Int32} {v b e r a' e' many : Int32} {z : Option (LO × LM)} {K : Nat → Nat} {B : Nat → Bool} {mk : Bool}
theorem r_qp (h : RA M o) (hj : j < 26) : mP (rM M o H V X) (o + 20) j = some (o + (21 + j)) := by
  rw [show o + (21 + j) = o + 21 + j by omega]
  exact (h.2.2.2.2.2.2.2.2.2.2.2.1 j hj).1
theorem r_mp (h : RA M o) (hj : j < 26) : mP (rM M o H V X) (o + 47) j = some (o + (48 + j)) := by
  rw [show o + (48 + j) = o + 48 + j by omega]
  exact (h.2.2.2.2.2.2.2.2.2.2.2.2.1 j hj).1
theorem r_p30 (h : RA M o) : mP (rM M o H V X) o 30 = some (o + 20) := h.2.2.2.2.1
theorem r_p31 (h : RA M o) : mP (rM M o H V X) o 31 = some (o + 47) := h.2.2.2.2.2.2.2.1
theorem r_qaa (h : RA M o) (hj : j < 26) : lt_aa (rM M o H V X) (o + 20) (nI j) z = z := by
  have h1 : mK M (o + 20) = 7 := h.2.2.2.2.2.1
  have h2 : mZ M (o + 20) = 26 := h.2.2.2.2.2.2.1
  refine if_pos ⟨?_, ?_⟩
  · show 5 ≤ mK M (o + 20) ∧ mK M (o + 20) ≤ 8
    omega
  · show 0 ≤ (nI j).toInt ∧ (nI j).toInt < (mZ M (o + 20) : Int)
    rw [h2]
    exact lt_iI hj (by omega)
theorem r_maa (h : RA M o) (hj : j < 26) : lt_aa (rM M o H V X) (o + 47) (nI j) z = z := by
  have h1 : mK M (o + 47) = 8 := h.2.2.2.2.2.2.2.2.1
  have h2 : mZ M (o + 47) = 26 := h.2.2.2.2.2.2.2.2.2.1
  refine if_pos ⟨?_, ?_⟩
  · show 5 ≤ mK M (o + 47) ∧ mK M (o + 47) ≤ 8
    omega
  · show 0 ≤ (nI j).toInt ∧ (nI j).toInt < (mZ M (o + 47) : Int)
    rw [h2]
    exact lt_iI hj (by omega)
theorem r_qar (h : RA M o) (hj : j < 26) (hi : i < 6) : lt_ar (rM M o H V X) (o + (21 + j)) 1 (nI i) z = z := by
  have h1 := h.2.2.2.2.2.2.2.2.2.2.2.1 j hj
  rw [show o + (21 + j) = o + 21 + j by omega]
  exact lt_ar_t (M := rM M o H V X) h1.2.1 (by show _ ∧ _ < (mZ M (o + 21 + j) : Int); rw [h1.2.2]; exact lt_iI hi (by omega))
theorem r_mar (h : RA M o) (hj : j < 26) (hi : i < 6) : lt_ar (rM M o H V X) (o + (48 + j)) 3 (nI i) z = z := by
  have h1 := h.2.2.2.2.2.2.2.2.2.2.2.2.1 j hj
  rw [show o + (48 + j) = o + 48 + j by omega]
  exact lt_ar_t (M := rM M o H V X) h1.2.1 (by show _ ∧ _ < (mZ M (o + 48 + j) : Int); rw [h1.2.2]; exact lt_iI hi (by omega))
/-- what a turning or a step changes: the queue at a place -/
def XK (q : Nat) (X X' : Nat → Nat → Int32) : Prop := (∀ t, t ≠ 21 + q → t ≠ 48 + q → t ≠ 74 → X' t = X t) ∧ ∀ j, j ≠ q → X' 74 j = X 74 j
theorem XK.refl : XK q X X := ⟨fun _ _ _ _ => rfl, fun _ _ => rfl⟩
theorem XK.trans {X'' : Nat → Nat → Int32} (h1 : XK q X X') (h2 : XK q X' X'') : XK q X X'' := ⟨fun t a b c => (h2.1 t a b c).trans (h1.1 t a b c), fun j a => (h2.2 j a).trans (h1.2 j a)⟩
theorem XK.wq (hq : q < 26) : XK q X (u2 X (21 + q) j v) := ⟨fun t' a b c => funext fun i => if_neg (by omega), fun i a => if_neg (by omega)⟩
theorem XK.wm (hq : q < 26) : XK q X (u2 X (48 + q) j v) := ⟨fun t' a b c => funext fun i => if_neg (by omega), fun i a => if_neg (by omega)⟩
theorem XK.w74 (hq : q < 26) : XK q X (u2 X 74 q v) := ⟨fun t' a b c => funext fun i => if_neg (by omega), fun i a => if_neg (by omega)⟩
theorem hb1 {b : Bool} {z : Option (LO × LM)} : lt_b1 (bI b) z = z := by cases b <;> rfl
theorem r_turns_3 (d : Nat) (h : RA M o) (hq : q < 26) (hm : m ≤ 6) (hm0 : 0 < m) (hk : key < 26) {X0 : Nat → Nat → Int32} : ∀ (n : Nat) (X : Nat → Nat → Int32), n + 1 ≤ m → XK q X0 X → X 74 = X0 74 → (∀ i, i < m → X (21 + q) i = (if i + 1 < m - n then X0 (21 + q) (i + 1) else X0 (21 + q) i) ∧ X (48 + q) i = (if i + 1 < m - n then X0 (48 + q) (i + 1) else X0 (48 + q) i)) → (∀ i, i < m → ∃ b, X0 (48 + q) i = bI b) →
    ∃ X', XK q X0 X' ∧ X' 74 = X0 74 ∧ (∀ i, i < m → X' (21 + q) i = (if i + 1 < m then X0 (21 + q) (i + 1) else nI key) ∧ X' (48 + q) i = (if i + 1 < m then X0 (48 + q) (i + 1) else 0)) ∧ f_X11_turns_3 (d + 1) (rM M o H V X) o (nI q) (nI m) (nI key) (nI (m - n)) = some (.inl none, rM M o H V X')
  | 0, X, _, hX, h74, hi, hb => by
    have hlt : ¬ nI (m - 0) < nI m := by rw [nI_ltP (by omega) (by omega)]; omega
    have g4 : nI m - 1 = nI (m - 1) := by
      rw [show nI m = nI (m - 1) + 1 from by rw [show nI (m - 1) + 1 = nI (m - 1 + 1) from lt_iA (j := m - 1) (k := 1)]; congr 1; omega]
      exact Int32.add_sub_cancel ..
    have hm1 : m - 1 < 6 := by omega
    refine ⟨u2 (u2 X (21 + q) (m - 1) (nI key)) (48 + q) (m - 1) 0, hX.trans ((XK.wq hq).trans (XK.wm hq)), by rw [u2_n1 (by omega), u2_n1 (by omega), h74], fun i hi' => ?_, ?_⟩
    · have := hi i hi'
      rw [Nat.sub_zero] at this
      by_cases e : i = m - 1
      · subst e
        rw [if_neg (by omega), if_neg (by omega)]
        refine ⟨?_, u2_eq⟩
        rw [u2_n1 (by omega)]
        exact u2_eq
      · rw [if_pos (by omega), if_pos (by omega)] at this
        rw [if_pos (by omega), if_pos (by omega), u2_n1 (by omega), u2_n2 e, u2_n2 e, u2_n1 (by omega)]
        exact this
    · rw [e_X11_turns_3, if_neg hlt]
      simp (maxSteps := 1000000) (disch := first | assumption | omega) only [x_rf, x_m, lt_bv_r, lt_bi_r, lt_bl_r, ↓r_ck, r_get, r_put, r_more, rM_h, rM_f, rM_x, rM_wf, rM_wx, rM_wh, lt_iN, lt_b1_0, lt_b1_1, x_if1, x_eq1, x_10, x_01, x_11, x_00, ↓reduceIte, r_nz, r_ar1L0, r_ar1L1, lt_n0_, lt_n1_, upd_s, upd_o, u2_eq, u2_n1, u2_n2, r_p1, r_p5, r_p6, r_p7, r_p9, r_p10, r_p11, r_p13, r_p19, r_p23, r_p26, r_p27, r_p32, r_p33, r_p34, r_ar1, r_ar9, r_ar10, r_ar11, r_ar12, r_ar13, r_ar14, r_ar15, r_ar16, r_ar17, r_ar18, r_ar19, r_ar74, r_ar75, r_ar76, n2_, n4_, n12_, n24_, n28_, n50_, n54_, n76_, n80_, n102_, n128_, n154_, n180_, n206_, n232_, n258_, n284_, n310_, n336_, n362_, n380_, n680_, r_get0, r_get1, r_get2, r_get3, r_get4, r_get8, r_get9, r_get10, r_get11, r_get12, r_get13, r_put0, r_put1, r_put2, r_put3, r_put4, r_put5, r_put6, r_put7, r_put8, r_put9, r_put10, r_put11, r_more10, r_more12, r_more13, r_more14, r_more15, r_more16, r_more17, r_more18, r_more19, r_more20, r_p30, r_p31, r_qaa, r_maa, r_qp, r_mp, g4, r_qar, r_mar]
  | n + 1, X, hn, hX, h74, hi, hb => by
    have hlt : nI (m - (n + 1)) < nI m := by rw [nI_ltP (by omega) (by omega)]; omega
    have g2 : nI (m - (n + 1)) + 1 = nI (m - n) := by
      rw [show nI (m - (n + 1)) + 1 = nI (m - (n + 1) + 1) from lt_iA (j := m - (n + 1)) (k := 1)]
      congr 1
      omega
    have g4 : nI (m - (n + 1)) - 1 = nI (m - (n + 1) - 1) := by
      rw [show nI (m - (n + 1)) = nI (m - (n + 1) - 1) + 1 from by rw [show nI (m - (n + 1) - 1) + 1 = nI (m - (n + 1) - 1 + 1) from lt_iA (j := m - (n + 1) - 1) (k := 1)]; congr 1; omega]
      exact Int32.add_sub_cancel ..
    have h1 : m - (n + 1) < 6 := by omega
    have h2 : m - (n + 1) - 1 < 6 := by omega
    have hx := hi (m - (n + 1)) (by omega)
    rw [if_neg (by omega), if_neg (by omega)] at hx
    obtain ⟨bb0, hbb⟩ := hb (m - (n + 1)) (by omega)
    have hx2 : X (48 + q) (m - (n + 1)) = bI bb0 := hx.2.trans hbb
    obtain ⟨X', i1, i2, i3, i4⟩ := r_turns_3 d h hq hm hm0 hk n (u2 (u2 X (21 + q) (m - (n + 1) - 1) (X (21 + q) (m - (n + 1)))) (48 + q) (m - (n + 1) - 1) (X (48 + q) (m - (n + 1)))) (by omega) (hX.trans ((XK.wq hq).trans (XK.wm hq))) (by rw [u2_n1 (by omega), u2_n1 (by omega), h74]) (fun i hi' => by
      have := hi i hi'
      by_cases e : i = m - (n + 1) - 1
      · subst e
        rw [if_pos (by omega), if_pos (by omega)]
        refine ⟨?_, ?_⟩
        · rw [u2_n1 (by omega), u2_eq, hx.1]
          congr 1
          omega
        · rw [u2_eq, hx.2]
          congr 1
          omega
      · rw [u2_n1 (by omega), u2_n2 e, u2_n2 e, u2_n1 (by omega)]
        by_cases c : i + 1 < m - (n + 1)
        · rw [if_pos c, if_pos c] at this
          rw [if_pos (by omega), if_pos (by omega)]
          exact this
        · rw [if_neg c, if_neg c] at this
          rw [if_neg (by omega), if_neg (by omega)]
          exact this) hb
    refine ⟨X', i1, i2, i3, ?_⟩
    rw [hx2] at i4
    rw [e_X11_turns_3, if_pos hlt]
    simp (maxSteps := 1000000) (disch := first | assumption | omega) only [x_rf, x_m, lt_bv_r, lt_bi_r, lt_bl_r, ↓r_ck, r_get, r_put, r_more, rM_h, rM_f, rM_x, rM_wf, rM_wx, rM_wh, lt_iN, lt_b1_0, lt_b1_1, x_if1, x_eq1, x_10, x_01, x_11, x_00, ↓reduceIte, r_nz, r_ar1L0, r_ar1L1, lt_n0_, lt_n1_, upd_s, upd_o, u2_eq, u2_n1, u2_n2, r_p1, r_p5, r_p6, r_p7, r_p9, r_p10, r_p11, r_p13, r_p19, r_p23, r_p26, r_p27, r_p32, r_p33, r_p34, r_ar1, r_ar9, r_ar10, r_ar11, r_ar12, r_ar13, r_ar14, r_ar15, r_ar16, r_ar17, r_ar18, r_ar19, r_ar74, r_ar75, r_ar76, n2_, n4_, n12_, n24_, n28_, n50_, n54_, n76_, n80_, n102_, n128_, n154_, n180_, n206_, n232_, n258_, n284_, n310_, n336_, n362_, n380_, n680_, r_get0, r_get1, r_get2, r_get3, r_get4, r_get8, r_get9, r_get10, r_get11, r_get12, r_get13, r_put0, r_put1, r_put2, r_put3, r_put4, r_put5, r_put6, r_put7, r_put8, r_put9, r_put10, r_put11, r_more10, r_more12, r_more13, r_more14, r_more15, r_more16, r_more17, r_more18, r_more19, r_more20, r_p30, r_p31, r_qaa, r_maa, r_qp, r_mp, g4, r_qar, r_mar, hx2, hb1, g2]
    exact i4
/-- a queue without its length -/
def QG (X : Nat → Nat → Int32) (q m : Nat) (K : Nat → Nat) (B : Nat → Bool) : Prop := m ≤ 6 ∧ ∀ i, i < m → K i < 26 ∧ X (21 + q) i = nI (K i) ∧ X (48 + q) i = bI (B i)
theorem r_turns (d : Nat) (h : RA M o) (hq : q < 26) (hm0 : 0 < m) (hk : key < 26) (hQ : QG X q m K B) :
    ∃ X', XK q X X' ∧ QG X' q m (qTK m key K) (qTB m B) ∧ f_X11_turns (d + 1) (rM M o H V X) o (nI q) (nI m) (nI key) = some (.inl none, rM M o H V X') := by
  obtain ⟨q2, q3⟩ := hQ
  obtain ⟨X', i1, i2, i3, i4⟩ := r_turns_3 (M := M) (o := o) (H := H) (V := V) (X0 := X) d h hq q2 hm0 hk (m - 1) X (by omega) XK.refl rfl (fun i hi => by rw [if_neg (by omega), if_neg (by omega)]; exact ⟨rfl, rfl⟩) (fun i hi => ⟨B i, (q3 i hi).2.2⟩)
  refine ⟨X', i1, ⟨q2, fun i hi => ?_⟩, ?_⟩
  · have := i3 i hi
    unfold qTK qTB
    by_cases c : i + 1 < m
    · rw [if_pos c, if_pos c] at this
      rw [if_pos c, if_pos c]
      have hh := q3 (i + 1) c
      exact ⟨hh.1, this.1.trans hh.2.1, this.2.trans hh.2.2⟩
    · rw [if_neg c, if_neg c] at this
      rw [if_neg c, if_neg c, if_pos (by omega), if_pos (by omega)]
      exact ⟨hk, this.1, this.2⟩
  · rw [show m - (m - 1) = 1 by omega] at i4
    rw [e_X11_turns]
    exact i4
end Sg
