/-! THE REFERENCE, methods of one unit: who can go -/
/-- sizes are not 0, owners are 0 to 3 -/
def RH (H : Nat → Int32) : Prop := ∀ k, k < 26 → H (2 + k) ≠ 0 ∧ ∃ w, w < 4 ∧ H (54 + k) = nI w
def qC0 (U : Nat → Int32) (kept : Option Nat) (k : Nat) : Bool := decide (U (24 + k) = 1) && decide (kept ≠ some k)
def qSome (H U : Nat → Int32) (y : Nat) (kept : Option Nat) : Nat → Bool → Bool
  | 0, a => a
  | n + 1, a => qSome H U y kept n (a || (qC0 U kept (25 - n) && decide (U 8 = 1) && qOver H U (lt_n (H (54 + (25 - n)))) y))
def qCan (H U : Nat → Int32) (y : Nat) (kept : Option Nat) (k : Nat) : Bool := qC0 U kept k && (!qSome H U y kept 26 false || qOver H U (lt_n (H (54 + k))) y)
section Rj
variable {M : LM} {o j k u w y : Nat} {H : Nat → Int32} {V X : Nat → Nat → Int32} {U : Nat → Int32} {v : Int32} {kf : Nat → Nat} {kept : Option Nat}
theorem bI_or0 {b : Bool} : bI b ||| 0 = bI b := by cases b <;> decide
theorem bI_or1 {b : Bool} : bI b ||| 1 = 1 := by cases b <;> decide
theorem bI_t : bI true = 1 := rfl
theorem bI_f : bI false = 0 := rfl
theorem nI_oI (hk : k < 26) (hj : ∀ j, kept = some j → j < 26) : (nI k = oI kept) = (kept = some k) := by
  cases kept with
  | none => exact propext ⟨fun e => absurd e (by rw [oI_n, nI_ne1 (by omega)]; exact id), fun e => by cases e⟩
  | some j =>
    have := hj j rfl
    rw [oI_s, nI_inj (by omega) (by omega)]
    exact propext ⟨fun e => by rw [e], fun e => by cases e; rfl⟩
theorem r_looks_6 (d : Nat) (h : RA M o) (hu : u < 18) (hH : RH H) (hy : y < 26) (hkp : ∀ j, kept = some j → j < 26) : ∀ (n : Nat) (X : Nat → Nat → Int32) (a : Bool), n ≤ 26 →
    ∃ X', XS X X' ∧ (∀ j, j < 26 → X' 9 j = if 26 - n ≤ j then bI (qC0 U kept j) else X 9 j) ∧ (∀ t, t ≠ 9 → X' t = X t) ∧ f_X11_looksWhoCanGo_6 (d + 5) (rM M o H (u1 V u U) X) o (nI u) (nI y) (oI kept) (bI a) (nI (26 - n)) = f_X11_looksWhoCanGo_100 (d + 5) (rM M o H (u1 V u U) X') o (nI u) (nI y) (bI (qSome H U y kept n a)) 0
  | 0, X, a, _ => by
    refine ⟨X, XS.refl, fun j hj => (if_neg (by omega)).symm, fun _ _ => rfl, ?_⟩
    rw [e_X11_looksWhoCanGo_6, if_neg lt_end]
    rfl
  | n + 1, X, a, hn => by
    obtain ⟨g1, g2, -⟩ := lt_suc hn
    have hk : 25 - n < 26 := by omega
    obtain ⟨-, w, hw, hww⟩ := hH (25 - n) hk
    have hwn : lt_n (nI w) = w := lt_iN (by omega)
    obtain ⟨X', i1, i2, i4, i3⟩ := r_looks_6 d h hu hH hy hkp n (u2 X 9 (25 - n) (bI (qC0 U kept (25 - n)))) (a || (qC0 U kept (25 - n) && decide (U 8 = 1) && qOver H U (lt_n (H (54 + (25 - n)))) y)) (by omega)
    refine ⟨X', (XS.wr (by omega) (by omega)).trans i1, fun j hj => ?_, fun t ht => (i4 t ht).trans (u2_n1 ht), ?_⟩
    · rw [i2 j hj]
      by_cases e : j = 25 - n
      · subst e
        rw [if_neg (by omega), if_pos (by omega)]
        simp (disch := omega) only [u2_eq, u2_n1, u2_n2]
      · by_cases e2 : 26 - n ≤ j
        · rw [if_pos e2, if_pos (by omega)]
        · rw [if_neg e2, if_neg (by omega)]
          simp (disch := omega) only [u2_eq, u2_n1, u2_n2]
    · rw [g1, e_X11_looksWhoCanGo_6, if_pos (lt_suc2 hn)]
      have hs : qSome H U y kept (n + 1) a = qSome H U y kept n (a || (qC0 U kept (25 - n) && decide (U 8 = 1) && qOver H U (lt_n (H (54 + (25 - n)))) y)) := rfl
      rw [hs]
      simp (maxSteps := 1000000) (disch := first | assumption | omega) only [x_rf, x_m, lt_bv_r, lt_bi_r, lt_bl_r, ↓r_ck, r_get, r_put, r_more, rM_h, rM_f, rM_x, rM_wf, rM_wx, rM_wh, lt_iN, lt_b1_0, lt_b1_1, x_if1, x_eq1, x_10, x_01, x_11, x_00, ↓reduceIte, r_nz, r_ar1L0, r_ar1L1, lt_n0_, lt_n1_, upd_s, upd_o, u2_eq, u2_n1, u2_n2, r_p1, r_p5, r_p6, r_p7, r_p9, r_p10, r_p11, r_p13, r_p19, r_p23, r_p26, r_p27, r_p32, r_p33, r_p34, r_ar1, r_ar9, r_ar10, r_ar11, r_ar12, r_ar13, r_ar14, r_ar15, r_ar16, r_ar17, r_ar18, r_ar19, r_ar74, r_ar75, r_ar76, n2_, n4_, n12_, n24_, n28_, n50_, n54_, n76_, n80_, n102_, n128_, n154_, n180_, n206_, n232_, n258_, n284_, n310_, n336_, n362_, n380_, n680_, r_get0, r_get1, r_get2, r_get3, r_get4, r_get8, r_get9, r_get10, r_get11, r_get12, r_get13, r_put0, r_put1, r_put2, r_put3, r_put4, r_put5, r_put6, r_put7, r_put8, r_put9, r_put10, r_put11, r_more10, r_more12, r_more13, r_more14, r_more15, r_more16, r_more17, r_more18, r_more19, r_more20, r_holds2, nI_oI hk hkp, e_X11_looksWhoCanGo_39, e_X11_looksWhoCanGo_40, g2, r_isOver2, hww, bI0]
      revert i3
      unfold qC0
      rw [hww, hwn]
      by_cases h1 : U (24 + (25 - n)) = 1
      · by_cases h2 : kept = some (25 - n)
        · intro i3
          simp only [h1, h2, if_true, bI_or0]
          simpa [h1, h2, bI_f] using i3
        · intro i3
          simp only [h1, h2, if_true, if_false, x_10, bI_or0]
          by_cases h8 : U 8 = 1
          · simp only [h8, if_true]
            cases ho : qOver H U w y
            · simp only [Bool.false_eq_true, if_false]
              simpa [h1, h2, h8, ho, bI_t] using i3
            · simp only [if_true, bI_or1]
              simpa [h1, h2, h8, ho, bI_t] using i3
          · simp only [h8, if_false]
            simpa [h1, h2, h8, bI_t] using i3
      · intro i3
        simp only [h1, if_false, bI_or0]
        simpa [h1, bI_f] using i3
theorem r_looks_100 (d : Nat) (h : RA M o) (hu : u < 18) (hH : RH H) (hy : y < 26) {c : Nat → Bool} : ∀ (n : Nat) (X : Nat → Nat → Int32), n ≤ 26 → (∀ j, j < 26 → X 9 j = if 26 - n ≤ j then bI (c j) else bI (c j && qOver H U (lt_n (H (54 + j))) y)) →
    ∃ X', XS X X' ∧ (∀ j, j < 26 → X' 9 j = bI (c j && qOver H U (lt_n (H (54 + j))) y)) ∧ (∀ t, t ≠ 9 → X' t = X t) ∧ f_X11_looksWhoCanGo_100 (d + 5) (rM M o H (u1 V u U) X) o (nI u) (nI y) 1 (nI (26 - n)) = some (.inl none, rM M o H (u1 V u U) X')
  | 0, X, _, hX => by
    refine ⟨X, XS.refl, fun j hj => (hX j hj).trans (if_neg (by omega)), fun _ _ => rfl, ?_⟩
    rw [e_X11_looksWhoCanGo_100, if_neg lt_end]
  | n + 1, X, hn, hX => by
    obtain ⟨g1, g2, -⟩ := lt_suc hn
    have hk : 25 - n < 26 := by omega
    obtain ⟨-, w, hw, hww⟩ := hH (25 - n) hk
    have hwn : lt_n (nI w) = w := lt_iN (by omega)
    have hx9 : X 9 (25 - n) = bI (c (25 - n)) := (hX _ hk).trans (if_pos (by omega))
    obtain ⟨X', i1, i2, i4, i3⟩ := r_looks_100 (c := c) d h hu hH hy n (u2 X 9 (25 - n) (bI (c (25 - n) && qOver H U (lt_n (H (54 + (25 - n)))) y))) (by omega) (fun j hj => by
      by_cases e : j = 25 - n
      · subst e
        rw [if_neg (by omega)]
        simp (disch := omega) only [u2_eq, u2_n1, u2_n2]
      · have := hX j hj
        by_cases e2 : 26 - n ≤ j
        · rw [if_pos (by omega)] at this
          rw [if_pos e2]
          simp (disch := omega) only [u2_eq, u2_n1, u2_n2]
          exact this
        · rw [if_neg (by omega)] at this
          rw [if_neg e2]
          simp (disch := omega) only [u2_eq, u2_n1, u2_n2]
          exact this)
    refine ⟨X', (XS.wr (by omega) (by omega)).trans i1, i2, fun t ht => (i4 t ht).trans (u2_n1 ht), ?_⟩
    rw [g1, e_X11_looksWhoCanGo_100, if_pos (lt_suc2 hn)]
    revert i3
    rw [hww, hwn]
    intro i3
    simp (maxSteps := 1000000) (disch := first | assumption | omega) only [x_rf, x_m, lt_bv_r, lt_bi_r, lt_bl_r, ↓r_ck, r_get, r_put, r_more, rM_h, rM_f, rM_x, rM_wf, rM_wx, rM_wh, lt_iN, lt_b1_0, lt_b1_1, x_if1, x_eq1, x_10, x_01, x_11, x_00, ↓reduceIte, r_nz, r_ar1L0, r_ar1L1, lt_n0_, lt_n1_, upd_s, upd_o, u2_eq, u2_n1, u2_n2, r_p1, r_p5, r_p6, r_p7, r_p9, r_p10, r_p11, r_p13, r_p19, r_p23, r_p26, r_p27, r_p32, r_p33, r_p34, r_ar1, r_ar9, r_ar10, r_ar11, r_ar12, r_ar13, r_ar14, r_ar15, r_ar16, r_ar17, r_ar18, r_ar19, r_ar74, r_ar75, r_ar76, n2_, n4_, n12_, n24_, n28_, n50_, n54_, n76_, n80_, n102_, n128_, n154_, n180_, n206_, n232_, n258_, n284_, n310_, n336_, n362_, n380_, n680_, r_get0, r_get1, r_get2, r_get3, r_get4, r_get8, r_get9, r_get10, r_get11, r_get12, r_get13, r_put0, r_put1, r_put2, r_put3, r_put4, r_put5, r_put6, r_put7, r_put8, r_put9, r_put10, r_put11, r_more10, r_more12, r_more13, r_more14, r_more15, r_more16, r_more17, r_more18, r_more19, r_more20, hx9, g2, r_isOver2, hww, bI0]
    cases hc : c (25 - n)
    · simp only [Bool.false_eq_true, if_false]
      simpa [hc, bI_f] using i3
    · simp only [if_true]
      cases ho : qOver H U w y
      · simp only [Bool.false_eq_true, if_false]
        simpa [hc, ho, bI_f] using i3
      · simp only [if_true]
        simpa [hc, ho, bI_t] using i3
theorem r_looks (d : Nat) (h : RA M o) (hu : u < 18) (hH : RH H) (hy : y < 26) (hkp : ∀ j, kept = some j → j < 26) :
    ∃ X', XS X X' ∧ (∀ j, j < 26 → X' 9 j = bI (qCan H U y kept j)) ∧ (∀ t, t ≠ 9 → X' t = X t) ∧ f_X11_looksWhoCanGo (d + 5) (rM M o H (u1 V u U) X) o (nI u) (nI y) (oI kept) = some (.inl none, rM M o H (u1 V u U) X') := by
  obtain ⟨X1, a1, a2, a4, a3⟩ := r_looks_6 (V := V) (U := U) d h hu hH hy hkp 26 X false (Nat.le_refl _)
  have a2' : ∀ j, j < 26 → X1 9 j = bI (qC0 U kept j) := fun j hj => (a2 j hj).trans (if_pos (by omega))
  rw [e_X11_looksWhoCanGo]
  cases hs : qSome H U y kept 26 false
  · refine ⟨X1, a1, fun j hj => ?_, a4, ?_⟩
    · rw [a2' j hj]
      unfold qCan
      rw [hs]
      simp
    · rw [hs] at a3
      refine a3.trans ?_
      rw [e_X11_looksWhoCanGo_100]
      rfl
  · obtain ⟨X2, b1, b2, b4, b3⟩ := r_looks_100 (V := V) (U := U) d h hu hH hy 26 X1 (c := qC0 U kept) (Nat.le_refl _) (fun j hj => (a2' j hj).trans (if_pos (by omega)).symm)
    refine ⟨X2, a1.trans b1, fun j hj => ?_, fun t ht => (b4 t ht).trans (a4 t ht), ?_⟩
    · rw [b2 j hj]
      unfold qCan
      rw [hs]
      simp
    · rw [hs] at a3
      exact a3.trans b3
end Rj
