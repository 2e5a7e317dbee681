/-! THE REFERENCE, methods of one unit: the one that goes, put out -/
section Rm
variable {M : LM} {o i j k u w y : Nat} {H : Nat → Int32} {V X : Nat → Nat → Int32} {U P m A B : Nat → Int32} {v r st ln : Int32} {kf : Nat → Nat} {kept : Option Nat}
theorem rM_v (hw : w < 662) : mI (rM M o H V X) (o + 1) (980 + 662 * u + w) = V u w := by
  show (if o + 1 = o + 1 then (if 980 + 662 * u + w < 980 then H (980 + 662 * u + w) else V ((980 + 662 * u + w - 980) / 662) ((980 + 662 * u + w - 980) % 662)) else _) = _
  have h1 : (980 + 662 * u + w - 980) / 662 = u := by omega
  have h2 : (980 + 662 * u + w - 980) % 662 = w := by omega
  rw [if_pos rfl, if_neg (by omega), h1, h2]
theorem r_getV (d : Nat) (h : RA M o) (hu : u < 18) (hw : w < 662) : f_X11_get (d + 1) (rM M o H V X) o (nI u) (nI w) = some (.inl (some (.int (V u w))), rM M o H V X) := by
  rw [s_get (M := rM M o H V X) d h.rA (by omega), rM_v hw]
theorem n6_ : (6 : Int32) + 2 * nI k = nI (6 + 2 * k) := by
  rw [show (2 : Int32) * nI k = nI (2 * k) from (lt_iM (j := 2) (k := k))]
  exact lt_iA (j := 6) (k := 2 * k)
/-- leans(): by the misses of the shadows -/
def qLeans (V : Nat → Nat → Int32) (u : Nat) : Int32 := if V (7 + 2 * u) 13 < V (6 + 2 * u) 13 then 1 else 0
theorem r_leans (d : Nat) (h : RA M o) (hu : u < 6) : f_X11_leans (d + 2) (rM M o H V X) o (nI u) = some (.inl (some (.int (qLeans V u))), rM M o H V X) := by
  have e1 : (6 : Int32) + 2 * nI u + 0 = nI (6 + 2 * u) := by rw [n6_]; exact lt_iA (j := 6 + 2 * u) (k := 0)
  have e2 : (6 : Int32) + 2 * nI u + 1 = nI (7 + 2 * u) := by rw [n6_, show (1 : Int32) = nI 1 from rfl, lt_iA]; congr 1; omega
  have e3 := r_getV (M := M) (o := o) (H := H) (V := V) (X := X) (u := 6 + 2 * u) (w := 13) d h (by omega) (by omega)
  have e4 := r_getV (M := M) (o := o) (H := H) (V := V) (X := X) (u := 7 + 2 * u) (w := 13) d h (by omega) (by omega)
  rw [e_X11_leans]
  have s1 : f_X11_shadow (d + 1) (rM M o H V X) (nI u) 0 = some (.inl (some (.int (nI (6 + 2 * u)))), rM M o H V X) := by rw [e_X11_shadow, e1]
  have s2 : f_X11_shadow (d + 1) (rM M o H V X) (nI u) 1 = some (.inl (some (.int (nI (7 + 2 * u)))), rM M o H V X) := by rw [e_X11_shadow, e2]
  rw [s1, lt_bi_r, r_ck h]
  have e3' : f_X11_get (d + 1) (rM M o H V X) o (nI (6 + 2 * u)) 13 = _ := e3
  have e4' : f_X11_get (d + 1) (rM M o H V X) o (nI (7 + 2 * u)) 13 = _ := e4
  rw [e3', lt_bi_r, s2, lt_bi_r, r_ck h, e4', lt_bi_r]
  unfold qLeans
  split <;> rfl
/-- the tallies of a unit -/
def qA (kf : Nat → Nat) (f t k : Nat) : Int32 := nI (cntTo kf k f t)
def qB (kf : Nat → Nat) (f t k : Nat) : Int32 := oI (lastTo kf k f t)
/-- the rule by which one goes -/
def qRule (U : Nat → Int32) (ln : Int32) : Int32 := if U 0 = 6 then ln else U 0
theorem qAhead_AB {A' B' : Nat → Int32} (hr : r = 0 ∨ r = 2 ∨ r = 3 ∨ r = 4 ∨ r = 5) : qAhead U A B r = qAhead U A' B' r := by
  funext i j
  unfold qAhead qAhead0
  rcases hr with e | e | e | e | e <;> subst e <;> simp
theorem qAhead_cong {A' B' : Nat → Int32} (hA : ∀ k, k < 26 → A k = A' k) (hB : ∀ k, k < 26 → B k = B' k) (hi : i < 26) (hj : j < 26) : qAhead U A B r i j = qAhead U A' B' r i j := by
  unfold qAhead qAhead0
  rw [hA i hi, hA j hj, hB i hi, hB j hj]
theorem qYoung_all {can : Nat → Bool} : qYoung U (-1) can = can := funext fun k => by
  unfold qYoung
  simp
theorem qQueues_AB {A' B' : Nat → Int32} {can : Nat → Bool} : qQueues H U A B can = qQueues H U A' B' can := by
  unfold qQueues
  rw [qAhead_AB (A := A) (B := B) (A' := A') (B' := B') (r := 2) (by simp), qAhead_AB (A := A) (B := B) (A' := A') (B' := B') (r := 0) (by simp)]
/-- the one that goes, by all rules but second chance -/
def qGo (H U : Nat → Int32) (A B : Nat → Int32) (ln : Int32) (y : Nat) (kept : Option Nat) : Option Nat :=
  if U 0 = 4 then qQueues H U A B (qCan H U y kept) else qFst (qCan H U y kept) (qAhead U A B (qRule U ln)) 26 none
theorem qGo_lt : ∀ g, qGo H U A B ln y kept = some g → g < 26 ∧ qCan H U y kept g = true := by
  intro g
  unfold qGo qQueues
  have hy : ∀ {b : Int32} {lt : Nat → Nat → Bool} {g : Nat}, qFst (qYoung U b (qCan H U y kept)) lt 26 none = some g → g < 26 ∧ qCan H U y kept g = true := by
    intro b lt g e
    have := qFst_can 26 none (Nat.le_refl _) (fun j e => by cases e) g e
    refine ⟨this.1, ?_⟩
    have h2 := this.2
    unfold qYoung at h2
    exact (Bool.and_eq_true_iff.mp h2).1
  dsimp only
  split
  · repeat (first | exact hy | split)
  · exact fun e => qFst_can 26 none (Nat.le_refl _) (fun j e => by cases e) g e
end Rm
section Rn
variable {M : LM} {o i j k u w y f t : Nat} {H : Nat → Int32} {V X : Nat → Nat → Int32} {U P m A B : Nat → Int32} {v r st ln : Int32} {kf : Nat → Nat} {kept : Option Nat}
/-- what a run of a unit's methods rests on: keys, the row up to t, from where it was fed, who leans -/
def RU (H : Nat → Int32) (kf : Nat → Nat) (V X : Nat → Nat → Int32) (u f t : Nat) (ln : Int32) (U : Nat → Int32) : Prop :=
  RH H ∧ RK H kf t ∧ t ≤ 300 ∧ f ≤ t ∧ X 0 4 = nI t ∧ U 9 = nI f ∧ (∃ r, r < 7 ∧ U 0 = nI r) ∧ (U 0 = 6 → u < 6 ∧ ln = qLeans V u) ∧ u < 18
theorem RU.xx (h : RU H kf V X u f t ln U) {X' : Nat → Nat → Int32} (hx : XS X X') : RU H kf V X' u f t ln U :=
  ⟨h.1, h.2.1, h.2.2.1, h.2.2.2.1, (hx.2 4 (by omega)).trans h.2.2.2.2.1, h.2.2.2.2.2⟩
theorem RU.uu (h : RU H kf V X u f t ln U) {U' : Nat → Int32} (h0 : U' 0 = U 0) (h9 : U' 9 = U 9) : RU H kf V X u f t ln U' := by
  obtain ⟨a1, a2, a3, a4, a5, a6, a7, a8, a9⟩ := h
  exact ⟨a1, a2, a3, a4, a5, by rw [h9]; exact a6, by rw [h0]; exact a7, by rw [h0]; exact a8, a9⟩
theorem r_goes (d : Nat) (h : RA M o) (hR : RU H kf V X u f t ln U) (hy : y < 26) (hkp : ∀ j, kept = some j → j < 26) (h3 : U 0 ≠ 3) :
    ∃ X', XS X X' ∧ f_X11_goes (d + 6) (rM M o H (u1 V u U) X) o (nI u) (nI y) (oI kept) = some (.inl (some (.int (oI (qGo H U (qA kf f t) (qB kf f t) ln y kept)))), rM M o H (u1 V u U) X') := by
  obtain ⟨a1, a2, a3, a4, a5, a6, ⟨r, hr7, hr⟩, a8, hu⟩ := hR
  obtain ⟨X1, b1, b2, b3, b4⟩ := r_looks (V := V) (U := U) (X := X) d h hu a1 hy hkp
  have x4 : X1 0 4 = nI t := (b1.2 4 (by omega)).trans a5
  obtain ⟨X2, c1, c0, c2, c3⟩ := r_tallies (H := H) (V := V) (X := X1) (d + 3) h hu a2 a3 a4 a6 x4
  have b2' : ∀ j, j < 26 → X2 9 j = bI (qCan H U y kept j) := fun j hj => by rw [c0 9 (by omega) (by omega)]; exact b2 j hj
  have e1 := fun r => r_firstOf (M := M) (o := o) (H := H) (V := V) (U := U) (u := u) (r := r) (yg := -1) (d + 1) h hu b2
  have e1' := fun r => r_firstOf (M := M) (o := o) (H := H) (V := V) (U := U) (u := u) (r := r) (yg := -1) (d + 1) h hu b2'
  have qc : ∀ (c : Nat → Bool) (r : Int32) (A B : Nat → Int32), qFst (qYoung U (-1) c) (qAhead U A B r) 26 none = qFst c (qAhead U A B r) 26 none := fun c r A B => by rw [qYoung_all]
  have q1 : ∀ r, qFst (qCan H U y kept) (qAhead U (X2 12) (X2 13) r) 26 none = qFst (qCan H U y kept) (qAhead U (qA kf f t) (qB kf f t) r) 26 none := fun r =>
    qFst_congr (fun _ _ => rfl) (fun i j hi hj _ _ => qAhead_cong (fun k hk => (c2 k hk).1) (fun k hk => (c2 k hk).2) hi hj) 26 none (Nat.le_refl _) (fun j e => by cases e)
  have q2 : ∀ r, (r = 0 ∨ r = 2 ∨ r = 3 ∨ r = 4 ∨ r = 5) → qFst (qCan H U y kept) (qAhead U (X1 12) (X1 13) r) 26 none = qFst (qCan H U y kept) (qAhead U (qA kf f t) (qB kf f t) r) 26 none := fun r hr => by
    rw [qAhead_AB hr]
  rw [e_X11_goes]
  unfold qGo
  by_cases h4 : U 0 = 4
  · have e2 := r_queues (M := M) (o := o) (H := H) (V := V) (U := U) (u := u) d h hu b2
    refine ⟨X1, b1, ?_⟩
    have n43 : ((4 : Int32) = 3) = False := eq_false (by decide)
    simp (maxSteps := 1000000) (disch := first | assumption | omega) only [x_rf, x_m, lt_bv_r, lt_bi_r, lt_bl_r, ↓r_ck, r_get, r_put, r_more, rM_h, rM_f, rM_x, rM_wf, rM_wx, rM_wh, lt_iN, lt_b1_0, lt_b1_1, x_if1, x_eq1, x_10, x_01, x_11, x_00, ↓reduceIte, r_nz, r_ar1L0, r_ar1L1, lt_n0_, lt_n1_, upd_s, upd_o, u2_eq, u2_n1, u2_n2, r_p1, r_p5, r_p6, r_p7, r_p9, r_p10, r_p11, r_p13, r_p19, r_p23, r_p26, r_p27, r_p32, r_p33, r_p34, r_ar1, r_ar9, r_ar10, r_ar11, r_ar12, r_ar13, r_ar14, r_ar15, r_ar16, r_ar17, r_ar18, r_ar19, r_ar74, r_ar75, r_ar76, n2_, n4_, n12_, n24_, n28_, n50_, n54_, n76_, n80_, n102_, n128_, n154_, n180_, n206_, n232_, n258_, n284_, n310_, n336_, n362_, n380_, n680_, r_get0, r_get1, r_get2, r_get3, r_get4, r_get8, r_get9, r_get10, r_get11, r_get12, r_get13, r_put0, r_put1, r_put2, r_put3, r_put4, r_put5, r_put6, r_put7, r_put8, r_put9, r_put10, r_put11, r_more10, r_more12, r_more13, r_more14, r_more15, r_more16, r_more17, r_more18, r_more19, r_more20, b4, h4, n43, e2]
    rw [qQueues_AB]
  · rw [if_neg h4]
    by_cases h6 : U 0 = 6
    · obtain ⟨hu6, hl⟩ := a8 h6
      have e3 := r_leans (M := M) (o := o) (H := H) (V := u1 V u U) (X := X1) (d + 3) h hu6
      have e3' : qLeans (u1 V u U) u = ln := by
        have w1 : u1 V u U (7 + 2 * u) = V (7 + 2 * u) := if_neg (by omega)
        have w2 : u1 V u U (6 + 2 * u) = V (6 + 2 * u) := if_neg (by omega)
        rw [hl]
        unfold qLeans
        rw [w1, w2]
      rw [e3'] at e3
      have n63 : ((6 : Int32) = 3) = False := eq_false (by decide)
      have n64 : ((6 : Int32) = 4) = False := eq_false (by decide)
      have hq : qRule U ln = ln := if_pos h6
      rw [hq]
      by_cases hl1 : ln = 1
      · refine ⟨X2, b1.trans c1, ?_⟩
        simp (maxSteps := 1000000) (disch := first | assumption | omega) only [x_rf, x_m, lt_bv_r, lt_bi_r, lt_bl_r, ↓r_ck, r_get, r_put, r_more, rM_h, rM_f, rM_x, rM_wf, rM_wx, rM_wh, lt_iN, lt_b1_0, lt_b1_1, x_if1, x_eq1, x_10, x_01, x_11, x_00, ↓reduceIte, r_nz, r_ar1L0, r_ar1L1, lt_n0_, lt_n1_, upd_s, upd_o, u2_eq, u2_n1, u2_n2, r_p1, r_p5, r_p6, r_p7, r_p9, r_p10, r_p11, r_p13, r_p19, r_p23, r_p26, r_p27, r_p32, r_p33, r_p34, r_ar1, r_ar9, r_ar10, r_ar11, r_ar12, r_ar13, r_ar14, r_ar15, r_ar16, r_ar17, r_ar18, r_ar19, r_ar74, r_ar75, r_ar76, n2_, n4_, n12_, n24_, n28_, n50_, n54_, n76_, n80_, n102_, n128_, n154_, n180_, n206_, n232_, n258_, n284_, n310_, n336_, n362_, n380_, n680_, r_get0, r_get1, r_get2, r_get3, r_get4, r_get8, r_get9, r_get10, r_get11, r_get12, r_get13, r_put0, r_put1, r_put2, r_put3, r_put4, r_put5, r_put6, r_put7, r_put8, r_put9, r_put10, r_put11, r_more10, r_more12, r_more13, r_more14, r_more15, r_more16, r_more17, r_more18, r_more19, r_more20, b4, h6, n63, n64, e3, hl1, c3, e1', qc, q1]
      · have hl0 : ln = 0 := by
          rw [hl] at hl1 ⊢
          unfold qLeans at hl1 ⊢
          split
          · rename_i hc; rw [if_pos hc] at hl1; exact absurd rfl hl1
          · rfl
        refine ⟨X1, b1, ?_⟩
        simp (maxSteps := 1000000) (disch := first | assumption | omega) only [x_rf, x_m, lt_bv_r, lt_bi_r, lt_bl_r, ↓r_ck, r_get, r_put, r_more, rM_h, rM_f, rM_x, rM_wf, rM_wx, rM_wh, lt_iN, lt_b1_0, lt_b1_1, x_if1, x_eq1, x_10, x_01, x_11, x_00, ↓reduceIte, r_nz, r_ar1L0, r_ar1L1, lt_n0_, lt_n1_, upd_s, upd_o, u2_eq, u2_n1, u2_n2, r_p1, r_p5, r_p6, r_p7, r_p9, r_p10, r_p11, r_p13, r_p19, r_p23, r_p26, r_p27, r_p32, r_p33, r_p34, r_ar1, r_ar9, r_ar10, r_ar11, r_ar12, r_ar13, r_ar14, r_ar15, r_ar16, r_ar17, r_ar18, r_ar19, r_ar74, r_ar75, r_ar76, n2_, n4_, n12_, n24_, n28_, n50_, n54_, n76_, n80_, n102_, n128_, n154_, n180_, n206_, n232_, n258_, n284_, n310_, n336_, n362_, n380_, n680_, r_get0, r_get1, r_get2, r_get3, r_get4, r_get8, r_get9, r_get10, r_get11, r_get12, r_get13, r_put0, r_put1, r_put2, r_put3, r_put4, r_put5, r_put6, r_put7, r_put8, r_put9, r_put10, r_put11, r_more10, r_more12, r_more13, r_more14, r_more15, r_more16, r_more17, r_more18, r_more19, r_more20, b4, h6, n63, n64, e3, hl1, e1, qc]
        rw [q2 ln (Or.inl hl0)]
    · have hq : qRule U ln = U 0 := if_neg h6
      rw [hq]
      by_cases h1 : U 0 = 1
      · refine ⟨X2, b1.trans c1, ?_⟩
        have n13 : ((1 : Int32) = 3) = False := eq_false (by decide)
        have n14 : ((1 : Int32) = 4) = False := eq_false (by decide)
        have n16 : ((1 : Int32) = 6) = False := eq_false (by decide)
        simp (maxSteps := 1000000) (disch := first | assumption | omega) only [x_rf, x_m, lt_bv_r, lt_bi_r, lt_bl_r, ↓r_ck, r_get, r_put, r_more, rM_h, rM_f, rM_x, rM_wf, rM_wx, rM_wh, lt_iN, lt_b1_0, lt_b1_1, x_if1, x_eq1, x_10, x_01, x_11, x_00, ↓reduceIte, r_nz, r_ar1L0, r_ar1L1, lt_n0_, lt_n1_, upd_s, upd_o, u2_eq, u2_n1, u2_n2, r_p1, r_p5, r_p6, r_p7, r_p9, r_p10, r_p11, r_p13, r_p19, r_p23, r_p26, r_p27, r_p32, r_p33, r_p34, r_ar1, r_ar9, r_ar10, r_ar11, r_ar12, r_ar13, r_ar14, r_ar15, r_ar16, r_ar17, r_ar18, r_ar19, r_ar74, r_ar75, r_ar76, n2_, n4_, n12_, n24_, n28_, n50_, n54_, n76_, n80_, n102_, n128_, n154_, n180_, n206_, n232_, n258_, n284_, n310_, n336_, n362_, n380_, n680_, r_get0, r_get1, r_get2, r_get3, r_get4, r_get8, r_get9, r_get10, r_get11, r_get12, r_get13, r_put0, r_put1, r_put2, r_put3, r_put4, r_put5, r_put6, r_put7, r_put8, r_put9, r_put10, r_put11, r_more10, r_more12, r_more13, r_more14, r_more15, r_more16, r_more17, r_more18, r_more19, r_more20, b4, h1, n13, n14, n16, c3, e1', qc, q1]
      · refine ⟨X1, b1, ?_⟩
        simp (maxSteps := 1000000) (disch := first | assumption | omega) only [x_rf, x_m, lt_bv_r, lt_bi_r, lt_bl_r, ↓r_ck, r_get, r_put, r_more, rM_h, rM_f, rM_x, rM_wf, rM_wx, rM_wh, lt_iN, lt_b1_0, lt_b1_1, x_if1, x_eq1, x_10, x_01, x_11, x_00, ↓reduceIte, r_nz, r_ar1L0, r_ar1L1, lt_n0_, lt_n1_, upd_s, upd_o, u2_eq, u2_n1, u2_n2, r_p1, r_p5, r_p6, r_p7, r_p9, r_p10, r_p11, r_p13, r_p19, r_p23, r_p26, r_p27, r_p32, r_p33, r_p34, r_ar1, r_ar9, r_ar10, r_ar11, r_ar12, r_ar13, r_ar14, r_ar15, r_ar16, r_ar17, r_ar18, r_ar19, r_ar74, r_ar75, r_ar76, n2_, n4_, n12_, n24_, n28_, n50_, n54_, n76_, n80_, n102_, n128_, n154_, n180_, n206_, n232_, n258_, n284_, n310_, n336_, n362_, n380_, n680_, r_get0, r_get1, r_get2, r_get3, r_get4, r_get8, r_get9, r_get10, r_get11, r_get12, r_get13, r_put0, r_put1, r_put2, r_put3, r_put4, r_put5, r_put6, r_put7, r_put8, r_put9, r_put10, r_put11, r_more10, r_more12, r_more13, r_more14, r_more15, r_more16, r_more17, r_more18, r_more19, r_more20, b4, h3, h4, h6, h1, e1, qc]
        rw [q2 (U 0) (by
          rw [hr] at h1 h3 h4 h6 ⊢
          have hr' : r = 0 ∨ r = 1 ∨ r = 2 ∨ r = 3 ∨ r = 4 ∨ r = 5 ∨ r = 6 := by omega
          rcases hr' with e | e | e | e | e | e | e <;> subst e
          · exact Or.inl rfl
          · exact absurd rfl h1
          · exact Or.inr (Or.inl rfl)
          · exact absurd rfl h3
          · exact absurd rfl h4
          · exact Or.inr (Or.inr (Or.inr (Or.inr rfl)))
          · exact absurd rfl h6)]
theorem r_goes3 (d : Nat) (h : RA M o) (hR : RU H kf V X u f t ln U) (hy : y < 26) (hkp : ∀ j, kept = some j → j < 26) (h3 : U 0 = 3) {n g : Nat} {P' m' : Nat → Int32} {st' : Int32} (e : qTurn U (qCan H U y kept) n (fun k => U (102 + k)) (fun k => U (206 + k)) (U 10) = some (g, P', m', st')) :
    ∃ X', XS X X' ∧ (∀ k, k < 26 → X' 10 k = P' k) ∧ (∀ k, k < 26 → X' 11 k = m' k) ∧ X' 0 8 = st' ∧ g < 26 ∧ f_X11_goes (d + 6) (rM M o H (u1 V u U) X) o (nI u) (nI y) (oI kept) = some (.inl (some (.int (nI g))), rM M o H (u1 V u U) X') := by
  obtain ⟨a1, a2, a3, a4, a5, a6, -, a8, hu⟩ := hR
  obtain ⟨X1, b1, b2, b3, b4⟩ := r_looks (V := V) (U := U) (X := X) d h hu a1 hy hkp
  obtain ⟨X2, c1, c2, c3, c4, c5, c6⟩ := r_turning (M := M) (o := o) (H := H) (V := V) (u := u) (d + 2) h hu b2 e
  refine ⟨X2, b1.trans c1, c2, c3, c4, c5, ?_⟩
  rw [e_X11_goes]
  simp (maxSteps := 1000000) (disch := first | assumption | omega) only [x_rf, x_m, lt_bv_r, lt_bi_r, lt_bl_r, ↓r_ck, r_get, r_put, r_more, rM_h, rM_f, rM_x, rM_wf, rM_wx, rM_wh, lt_iN, lt_b1_0, lt_b1_1, x_if1, x_eq1, x_10, x_01, x_11, x_00, ↓reduceIte, r_nz, r_ar1L0, r_ar1L1, lt_n0_, lt_n1_, upd_s, upd_o, u2_eq, u2_n1, u2_n2, r_p1, r_p5, r_p6, r_p7, r_p9, r_p10, r_p11, r_p13, r_p19, r_p23, r_p26, r_p27, r_p32, r_p33, r_p34, r_ar1, r_ar9, r_ar10, r_ar11, r_ar12, r_ar13, r_ar14, r_ar15, r_ar16, r_ar17, r_ar18, r_ar19, r_ar74, r_ar75, r_ar76, n2_, n4_, n12_, n24_, n28_, n50_, n54_, n76_, n80_, n102_, n128_, n154_, n180_, n206_, n232_, n258_, n284_, n310_, n336_, n362_, n380_, n680_, r_get0, r_get1, r_get2, r_get3, r_get4, r_get8, r_get9, r_get10, r_get11, r_get12, r_get13, r_put0, r_put1, r_put2, r_put3, r_put4, r_put5, r_put6, r_put7, r_put8, r_put9, r_put10, r_put11, r_more10, r_more12, r_more13, r_more14, r_more15, r_more16, r_more17, r_more18, r_more19, r_more20, b4, h3, c6]
/-- remembered -/
def qElder (U : Nat → Int32) : Option Nat := qFst (fun k => decide (0 < U (258 + k))) (fun i j => decide (U (258 + i) < U (258 + j))) 26 none
def qRem0 (U : Nat → Int32) (k : Nat) : Nat → Int32 := upd (upd U 10 (U 10 + 1)) (258 + k) (U 10 + 1)
def qRem (U : Nat → Int32) (k : Nat) : Nat → Int32 :=
  if U 1 < qCount (qRem0 U k) 258 26 0 then (match qElder (qRem0 U k) with
    | none => upd (qRem0 U k) 257 0
    | some e => upd (qRem0 U k) (258 + e) 0) else qRem0 U k
theorem r_isRem_38 (d : Nat) (h : RA M o) (hu : u < 18) : ∀ (n : Nat) (b : Option Nat), n ≤ 26 → (∀ j, b = some j → j < 26) →
    f_X11_isRemembered_38 (d + 2) (rM M o H (u1 V u U) X) o (nI u) (oI b) (nI (26 - n)) = some (.inl none, rM M o H (u1 V u (match qFst (fun k => decide (0 < U (258 + k))) (fun i j => decide (U (258 + i) < U (258 + j))) n b with
    | none => upd U 257 0
    | some e => upd U (258 + e) 0)) X)
  | 0, b, _, hb => by
    rw [e_X11_isRemembered_38, if_neg lt_end]
    cases b with
    | none =>
      have e : (258 : Int32) + -1 = nI 257 := by decide
      rw [oI_n, e]
      simp (maxSteps := 1000000) (disch := first | assumption | omega) only [x_rf, x_m, lt_bv_r, lt_bi_r, lt_bl_r, ↓r_ck, r_get, r_put, r_more, rM_h, rM_f, rM_x, rM_wf, rM_wx, rM_wh, lt_iN, lt_b1_0, lt_b1_1, x_if1, x_eq1, x_10, x_01, x_11, x_00, ↓reduceIte, r_nz, r_ar1L0, r_ar1L1, lt_n0_, lt_n1_, upd_s, upd_o, u2_eq, u2_n1, u2_n2, r_p1, r_p5, r_p6, r_p7, r_p9, r_p10, r_p11, r_p13, r_p19, r_p23, r_p26, r_p27, r_p32, r_p33, r_p34, r_ar1, r_ar9, r_ar10, r_ar11, r_ar12, r_ar13, r_ar14, r_ar15, r_ar16, r_ar17, r_ar18, r_ar19, r_ar74, r_ar75, r_ar76, n2_, n4_, n12_, n24_, n28_, n50_, n54_, n76_, n80_, n102_, n128_, n154_, n180_, n206_, n232_, n258_, n284_, n310_, n336_, n362_, n380_, n680_, r_get0, r_get1, r_get2, r_get3, r_get4, r_get8, r_get9, r_get10, r_get11, r_get12, r_get13, r_put0, r_put1, r_put2, r_put3, r_put4, r_put5, r_put6, r_put7, r_put8, r_put9, r_put10, r_put11, r_more10, r_more12, r_more13, r_more14, r_more15, r_more16, r_more17, r_more18, r_more19, r_more20]
      rfl
    | some j =>
      have := hb j rfl
      rw [oI_s]
      simp (maxSteps := 1000000) (disch := first | assumption | omega) only [x_rf, x_m, lt_bv_r, lt_bi_r, lt_bl_r, ↓r_ck, r_get, r_put, r_more, rM_h, rM_f, rM_x, rM_wf, rM_wx, rM_wh, lt_iN, lt_b1_0, lt_b1_1, x_if1, x_eq1, x_10, x_01, x_11, x_00, ↓reduceIte, r_nz, r_ar1L0, r_ar1L1, lt_n0_, lt_n1_, upd_s, upd_o, u2_eq, u2_n1, u2_n2, r_p1, r_p5, r_p6, r_p7, r_p9, r_p10, r_p11, r_p13, r_p19, r_p23, r_p26, r_p27, r_p32, r_p33, r_p34, r_ar1, r_ar9, r_ar10, r_ar11, r_ar12, r_ar13, r_ar14, r_ar15, r_ar16, r_ar17, r_ar18, r_ar19, r_ar74, r_ar75, r_ar76, n2_, n4_, n12_, n24_, n28_, n50_, n54_, n76_, n80_, n102_, n128_, n154_, n180_, n206_, n232_, n258_, n284_, n310_, n336_, n362_, n380_, n680_, r_get0, r_get1, r_get2, r_get3, r_get4, r_get8, r_get9, r_get10, r_get11, r_get12, r_get13, r_put0, r_put1, r_put2, r_put3, r_put4, r_put5, r_put6, r_put7, r_put8, r_put9, r_put10, r_put11, r_more10, r_more12, r_more13, r_more14, r_more15, r_more16, r_more17, r_more18, r_more19, r_more20]
      rfl
  | n + 1, b, hn, hb => by
    obtain ⟨g1, g2, -⟩ := lt_suc hn
    have hk : 25 - n < 26 := by omega
    have ih := fun b hb => r_isRem_38 d h hu n b (by omega) hb
    have ihk := ih (some (25 - n)) (fun j e => by cases e; omega)
    have ihb := ih b hb
    rw [oI_s] at ihk
    rw [show qFst (fun k => decide (0 < U (258 + k))) (fun i j => decide (U (258 + i) < U (258 + j))) (n + 1) b = qFst (fun k => decide (0 < U (258 + k))) (fun i j => decide (U (258 + i) < U (258 + j))) n (if decide (0 < U (258 + (25 - n))) = true then qStep (fun i j => decide (U (258 + i) < U (258 + j))) (25 - n) b else b) from rfl]
    rw [g1, e_X11_isRemembered_38, if_pos (lt_suc2 hn)]
    by_cases a : 0 < U (258 + (25 - n))
    · rw [if_pos (decide_eq_true a)]
      cases b with
      | none =>
        simp (maxSteps := 1000000) (disch := first | assumption | omega) only [x_rf, x_m, lt_bv_r, lt_bi_r, lt_bl_r, ↓r_ck, r_get, r_put, r_more, rM_h, rM_f, rM_x, rM_wf, rM_wx, rM_wh, lt_iN, lt_b1_0, lt_b1_1, x_if1, x_eq1, x_10, x_01, x_11, x_00, ↓reduceIte, r_nz, r_ar1L0, r_ar1L1, lt_n0_, lt_n1_, upd_s, upd_o, u2_eq, u2_n1, u2_n2, r_p1, r_p5, r_p6, r_p7, r_p9, r_p10, r_p11, r_p13, r_p19, r_p23, r_p26, r_p27, r_p32, r_p33, r_p34, r_ar1, r_ar9, r_ar10, r_ar11, r_ar12, r_ar13, r_ar14, r_ar15, r_ar16, r_ar17, r_ar18, r_ar19, r_ar74, r_ar75, r_ar76, n2_, n4_, n12_, n24_, n28_, n50_, n54_, n76_, n80_, n102_, n128_, n154_, n180_, n206_, n232_, n258_, n284_, n310_, n336_, n362_, n380_, n680_, r_get0, r_get1, r_get2, r_get3, r_get4, r_get8, r_get9, r_get10, r_get11, r_get12, r_get13, r_put0, r_put1, r_put2, r_put3, r_put4, r_put5, r_put6, r_put7, r_put8, r_put9, r_put10, r_put11, r_more10, r_more12, r_more13, r_more14, r_more15, r_more16, r_more17, r_more18, r_more19, r_more20, g2, a, oI_n]
        exact ihk
      | some j =>
        have hj := hb j rfl
        have hne : (nI j = -1) = False := nI_ne1 (by omega)
        rw [oI_s] at ihb
        rw [oI_s, show qStep (fun i j => decide (U (258 + i) < U (258 + j))) (25 - n) (some j) = if decide (U (258 + (25 - n)) < U (258 + j)) = true then some (25 - n) else some j from rfl]
        simp (maxSteps := 1000000) (disch := first | assumption | omega) only [x_rf, x_m, lt_bv_r, lt_bi_r, lt_bl_r, ↓r_ck, r_get, r_put, r_more, rM_h, rM_f, rM_x, rM_wf, rM_wx, rM_wh, lt_iN, lt_b1_0, lt_b1_1, x_if1, x_eq1, x_10, x_01, x_11, x_00, ↓reduceIte, r_nz, r_ar1L0, r_ar1L1, lt_n0_, lt_n1_, upd_s, upd_o, u2_eq, u2_n1, u2_n2, r_p1, r_p5, r_p6, r_p7, r_p9, r_p10, r_p11, r_p13, r_p19, r_p23, r_p26, r_p27, r_p32, r_p33, r_p34, r_ar1, r_ar9, r_ar10, r_ar11, r_ar12, r_ar13, r_ar14, r_ar15, r_ar16, r_ar17, r_ar18, r_ar19, r_ar74, r_ar75, r_ar76, n2_, n4_, n12_, n24_, n28_, n50_, n54_, n76_, n80_, n102_, n128_, n154_, n180_, n206_, n232_, n258_, n284_, n310_, n336_, n362_, n380_, n680_, r_get0, r_get1, r_get2, r_get3, r_get4, r_get8, r_get9, r_get10, r_get11, r_get12, r_get13, r_put0, r_put1, r_put2, r_put3, r_put4, r_put5, r_put6, r_put7, r_put8, r_put9, r_put10, r_put11, r_more10, r_more12, r_more13, r_more14, r_more15, r_more16, r_more17, r_more18, r_more19, r_more20, g2, a, hne]
        by_cases q : U (258 + (25 - n)) < U (258 + j)
        · rw [if_pos q, if_pos (decide_eq_true q)]
          exact ihk
        · rw [if_neg q, if_neg (by rw [decide_eq_false q]; decide)]
          exact ihb
    · rw [if_neg (by rw [decide_eq_false a]; decide)]
      simp (maxSteps := 1000000) (disch := first | assumption | omega) only [x_rf, x_m, lt_bv_r, lt_bi_r, lt_bl_r, ↓r_ck, r_get, r_put, r_more, rM_h, rM_f, rM_x, rM_wf, rM_wx, rM_wh, lt_iN, lt_b1_0, lt_b1_1, x_if1, x_eq1, x_10, x_01, x_11, x_00, ↓reduceIte, r_nz, r_ar1L0, r_ar1L1, lt_n0_, lt_n1_, upd_s, upd_o, u2_eq, u2_n1, u2_n2, r_p1, r_p5, r_p6, r_p7, r_p9, r_p10, r_p11, r_p13, r_p19, r_p23, r_p26, r_p27, r_p32, r_p33, r_p34, r_ar1, r_ar9, r_ar10, r_ar11, r_ar12, r_ar13, r_ar14, r_ar15, r_ar16, r_ar17, r_ar18, r_ar19, r_ar74, r_ar75, r_ar76, n2_, n4_, n12_, n24_, n28_, n50_, n54_, n76_, n80_, n102_, n128_, n154_, n180_, n206_, n232_, n258_, n284_, n310_, n336_, n362_, n380_, n680_, r_get0, r_get1, r_get2, r_get3, r_get4, r_get8, r_get9, r_get10, r_get11, r_get12, r_get13, r_put0, r_put1, r_put2, r_put3, r_put4, r_put5, r_put6, r_put7, r_put8, r_put9, r_put10, r_put11, r_more10, r_more12, r_more13, r_more14, r_more15, r_more16, r_more17, r_more18, r_more19, r_more20, g2, a]
      exact ihb
theorem r_isRem (d : Nat) (h : RA M o) (hu : u < 18) (hk : k < 26) : f_X11_isRemembered (d + 3) (rM M o H (u1 V u U) X) o (nI u) (nI k) = some (.inl none, rM M o H (u1 V u (qRem U k)) X) := by
  have e1 := r_countAll2 (M := M) (o := o) (H := H) (V := V) (U := qRem0 U k) (X := X) (u := u) (w := 258) d h hu (by omega)
  have e1' : f_X11_countAll (d + 2) (rM M o H (u1 V u (qRem0 U k)) X) o (nI u) 258 = _ := e1
  unfold qRem0 at e1'
  rw [e_X11_isRemembered]
  simp (maxSteps := 1000000) (disch := first | assumption | omega) only [x_rf, x_m, lt_bv_r, lt_bi_r, lt_bl_r, ↓r_ck, r_get, r_put, r_more, rM_h, rM_f, rM_x, rM_wf, rM_wx, rM_wh, lt_iN, lt_b1_0, lt_b1_1, x_if1, x_eq1, x_10, x_01, x_11, x_00, ↓reduceIte, r_nz, r_ar1L0, r_ar1L1, lt_n0_, lt_n1_, upd_s, upd_o, u2_eq, u2_n1, u2_n2, r_p1, r_p5, r_p6, r_p7, r_p9, r_p10, r_p11, r_p13, r_p19, r_p23, r_p26, r_p27, r_p32, r_p33, r_p34, r_ar1, r_ar9, r_ar10, r_ar11, r_ar12, r_ar13, r_ar14, r_ar15, r_ar16, r_ar17, r_ar18, r_ar19, r_ar74, r_ar75, r_ar76, n2_, n4_, n12_, n24_, n28_, n50_, n54_, n76_, n80_, n102_, n128_, n154_, n180_, n206_, n232_, n258_, n284_, n310_, n336_, n362_, n380_, n680_, r_get0, r_get1, r_get2, r_get3, r_get4, r_get8, r_get9, r_get10, r_get11, r_get12, r_get13, r_put0, r_put1, r_put2, r_put3, r_put4, r_put5, r_put6, r_put7, r_put8, r_put9, r_put10, r_put11, r_more10, r_more12, r_more13, r_more14, r_more15, r_more16, r_more17, r_more18, r_more19, r_more20, r_stamp2, e1']
  unfold qRem
  rw [show qRem0 U k = upd (upd U 10 (U 10 + 1)) (258 + k) (U 10 + 1) from rfl]
  by_cases a : U 1 < qCount (upd (upd U 10 (U 10 + 1)) (258 + k) (U 10 + 1)) 258 26 0
  · rw [if_pos a, if_pos a]
    exact r_isRem_38 (d + 1) h hu 26 none (Nat.le_refl _) (fun j e => by cases e)
  · rw [if_neg a, if_neg a]
/-- put out -/
def qBack (U P m : Nat → Int32) (st : Int32) : Nat → Int32 := fun w => if w = 10 then st else if 102 ≤ w ∧ w < 128 then P (w - 102) else if 206 ≤ w ∧ w < 232 then m (w - 206) else U w
def qMax (U : Nat → Int32) (k : Nat) : Nat → Int32 := if U 0 = 5 then upd U 11 (if U 11 < U (284 + k) then U (284 + k) else U 11) else U
def qOut0 (U : Nat → Int32) (k : Nat) : Nat → Int32 := qLeaves (upd (qMax U k) 14 (U 14 + 1)) k
def qOut (U : Nat → Int32) (k : Nat) : Nat → Int32 := if U 0 = 4 ∧ U (232 + k) = 1 then qRem (qOut0 U k) k else qOut0 U k
theorem r_isOut_74 (d : Nat) (h : RA M o) (hu : u < 18) (hk : k < 26) {r : Int32} (hr : U 0 = r) : f_X11_isPutOut_74 (d + 4) (rM M o H (u1 V u U) X) o (nI u) (nI k) r = some (.inl none, rM M o H (u1 V u (qOut U k)) X) := by
  rw [e_X11_isPutOut_74]
  unfold qOut qOut0 qMax
  have y0 : ∀ (W : Nat → Int32), qLeaves W k (232 + k) = W (232 + k) := fun W => by
    unfold qLeaves
    simp (disch := omega) only [upd_o]
  by_cases h5 : r = 5
  · have n54 : ((5 : Int32) = 4) = False := eq_false (by decide)
    rw [hr]
    simp (maxSteps := 1000000) (disch := first | assumption | omega) only [x_rf, x_m, lt_bv_r, lt_bi_r, lt_bl_r, ↓r_ck, r_get, r_put, r_more, rM_h, rM_f, rM_x, rM_wf, rM_wx, rM_wh, lt_iN, lt_b1_0, lt_b1_1, x_if1, x_eq1, x_10, x_01, x_11, x_00, ↓reduceIte, r_nz, r_ar1L0, r_ar1L1, lt_n0_, lt_n1_, upd_s, upd_o, u2_eq, u2_n1, u2_n2, r_p1, r_p5, r_p6, r_p7, r_p9, r_p10, r_p11, r_p13, r_p19, r_p23, r_p26, r_p27, r_p32, r_p33, r_p34, r_ar1, r_ar9, r_ar10, r_ar11, r_ar12, r_ar13, r_ar14, r_ar15, r_ar16, r_ar17, r_ar18, r_ar19, r_ar74, r_ar75, r_ar76, n2_, n4_, n12_, n24_, n28_, n50_, n54_, n76_, n80_, n102_, n128_, n154_, n180_, n206_, n232_, n258_, n284_, n310_, n336_, n362_, n380_, n680_, r_get0, r_get1, r_get2, r_get3, r_get4, r_get8, r_get9, r_get10, r_get11, r_get12, r_get13, r_put0, r_put1, r_put2, r_put3, r_put4, r_put5, r_put6, r_put7, r_put8, r_put9, r_put10, r_put11, r_more10, r_more12, r_more13, r_more14, r_more15, r_more16, r_more17, r_more18, r_more19, r_more20, j_max, r_leaves2, false_and, h5, n54]
  · rw [hr, if_neg h5, if_neg h5]
    by_cases h4 : r = 4
    · simp (maxSteps := 1000000) (disch := first | assumption | omega) only [x_rf, x_m, lt_bv_r, lt_bi_r, lt_bl_r, ↓r_ck, r_get, r_put, r_more, rM_h, rM_f, rM_x, rM_wf, rM_wx, rM_wh, lt_iN, lt_b1_0, lt_b1_1, x_if1, x_eq1, x_10, x_01, x_11, x_00, ↓reduceIte, r_nz, r_ar1L0, r_ar1L1, lt_n0_, lt_n1_, upd_s, upd_o, u2_eq, u2_n1, u2_n2, r_p1, r_p5, r_p6, r_p7, r_p9, r_p10, r_p11, r_p13, r_p19, r_p23, r_p26, r_p27, r_p32, r_p33, r_p34, r_ar1, r_ar9, r_ar10, r_ar11, r_ar12, r_ar13, r_ar14, r_ar15, r_ar16, r_ar17, r_ar18, r_ar19, r_ar74, r_ar75, r_ar76, n2_, n4_, n12_, n24_, n28_, n50_, n54_, n76_, n80_, n102_, n128_, n154_, n180_, n206_, n232_, n258_, n284_, n310_, n336_, n362_, n380_, n680_, r_get0, r_get1, r_get2, r_get3, r_get4, r_get8, r_get9, r_get10, r_get11, r_get12, r_get13, r_put0, r_put1, r_put2, r_put3, r_put4, r_put5, r_put6, r_put7, r_put8, r_put9, r_put10, r_put11, r_more10, r_more12, r_more13, r_more14, r_more15, r_more16, r_more17, r_more18, r_more19, r_more20, r_leaves2, h4, y0, r_isRem, true_and]
      by_cases a : U (232 + k) = 1
      · simp only [a, if_true]
      · simp only [a, if_false]
    · simp (maxSteps := 1000000) (disch := first | assumption | omega) only [x_rf, x_m, lt_bv_r, lt_bi_r, lt_bl_r, ↓r_ck, r_get, r_put, r_more, rM_h, rM_f, rM_x, rM_wf, rM_wx, rM_wh, lt_iN, lt_b1_0, lt_b1_1, x_if1, x_eq1, x_10, x_01, x_11, x_00, ↓reduceIte, r_nz, r_ar1L0, r_ar1L1, lt_n0_, lt_n1_, upd_s, upd_o, u2_eq, u2_n1, u2_n2, r_p1, r_p5, r_p6, r_p7, r_p9, r_p10, r_p11, r_p13, r_p19, r_p23, r_p26, r_p27, r_p32, r_p33, r_p34, r_ar1, r_ar9, r_ar10, r_ar11, r_ar12, r_ar13, r_ar14, r_ar15, r_ar16, r_ar17, r_ar18, r_ar19, r_ar74, r_ar75, r_ar76, n2_, n4_, n12_, n24_, n28_, n50_, n54_, n76_, n80_, n102_, n128_, n154_, n180_, n206_, n232_, n258_, n284_, n310_, n336_, n362_, n380_, n680_, r_get0, r_get1, r_get2, r_get3, r_get4, r_get8, r_get9, r_get10, r_get11, r_get12, r_get13, r_put0, r_put1, r_put2, r_put3, r_put4, r_put5, r_put6, r_put7, r_put8, r_put9, r_put10, r_put11, r_more10, r_more12, r_more13, r_more14, r_more15, r_more16, r_more17, r_more18, r_more19, r_more20, r_leaves2, h4, false_and]
theorem r_isOut_15 (d : Nat) (h : RA M o) (hu : u < 18) (hk : k < 26) {r : Int32} {W : Nat → Int32} (hP : ∀ k, k < 26 → X 10 k = P k) (hm : ∀ k, k < 26 → X 11 k = m k) : ∀ (n : Nat), n ≤ 26 → ∀ U, (∀ w, U w = if 102 ≤ w ∧ w < 102 + (26 - n) then P (w - 102) else if 206 ≤ w ∧ w < 206 + (26 - n) then m (w - 206) else W w) →
    f_X11_isPutOut_15 (d + 4) (rM M o H (u1 V u U) X) o (nI u) (nI k) r (nI (26 - n)) = f_X11_isPutOut_74 (d + 4) (rM M o H (u1 V u (qBack W P m (X 0 8))) X) o (nI u) (nI k) r
  | 0, _, U, hU => by
    rw [e_X11_isPutOut_15, if_neg lt_end]
    simp (maxSteps := 1000000) (disch := first | assumption | omega) only [x_rf, x_m, lt_bv_r, lt_bi_r, lt_bl_r, ↓r_ck, r_get, r_put, r_more, rM_h, rM_f, rM_x, rM_wf, rM_wx, rM_wh, lt_iN, lt_b1_0, lt_b1_1, x_if1, x_eq1, x_10, x_01, x_11, x_00, ↓reduceIte, r_nz, r_ar1L0, r_ar1L1, lt_n0_, lt_n1_, upd_s, upd_o, u2_eq, u2_n1, u2_n2, r_p1, r_p5, r_p6, r_p7, r_p9, r_p10, r_p11, r_p13, r_p19, r_p23, r_p26, r_p27, r_p32, r_p33, r_p34, r_ar1, r_ar9, r_ar10, r_ar11, r_ar12, r_ar13, r_ar14, r_ar15, r_ar16, r_ar17, r_ar18, r_ar19, r_ar74, r_ar75, r_ar76, n2_, n4_, n12_, n24_, n28_, n50_, n54_, n76_, n80_, n102_, n128_, n154_, n180_, n206_, n232_, n258_, n284_, n310_, n336_, n362_, n380_, n680_, r_get0, r_get1, r_get2, r_get3, r_get4, r_get8, r_get9, r_get10, r_get11, r_get12, r_get13, r_put0, r_put1, r_put2, r_put3, r_put4, r_put5, r_put6, r_put7, r_put8, r_put9, r_put10, r_put11, r_more10, r_more12, r_more13, r_more14, r_more15, r_more16, r_more17, r_more18, r_more19, r_more20]
    have e : upd U 10 (X 0 8) = qBack W P m (X 0 8) := funext fun w => by
      unfold qBack upd
      by_cases q : w = 10
      · rw [if_pos q, if_pos q]
      · rw [if_neg q, if_neg q, hU w]
    rw [e]
  | n + 1, hn, U, hU => by
    obtain ⟨g1, g2, -⟩ := lt_suc hn
    have hk' : 25 - n < 26 := by omega
    have hp := hP _ hk'
    have hm' := hm _ hk'
    have ih := r_isOut_15 d h hu hk (r := r) (W := W) hP hm n (by omega) (upd (upd U (102 + (25 - n)) (P (25 - n))) (206 + (25 - n)) (m (25 - n))) (fun w => by
      have := hU w
      unfold upd
      by_cases q1 : w = 206 + (25 - n)
      · rw [if_pos q1, if_neg (by omega), if_pos (by omega), show w - 206 = 25 - n by omega]
      · rw [if_neg q1]
        by_cases q2 : w = 102 + (25 - n)
        · rw [if_pos q2, if_pos (by omega), show w - 102 = 25 - n by omega]
        · rw [if_neg q2, this]
          by_cases c1 : 102 ≤ w ∧ w < 102 + (26 - n)
          · rw [if_pos c1, if_pos (by omega)]
          · rw [if_neg c1, if_neg (by omega)]
            by_cases c2 : 206 ≤ w ∧ w < 206 + (26 - n)
            · rw [if_pos c2, if_pos (by omega)]
            · rw [if_neg c2, if_neg (by omega)])
    rw [g1, e_X11_isPutOut_15, if_pos (lt_suc2 hn)]
    simp (maxSteps := 1000000) (disch := first | assumption | omega) only [x_rf, x_m, lt_bv_r, lt_bi_r, lt_bl_r, ↓r_ck, r_get, r_put, r_more, rM_h, rM_f, rM_x, rM_wf, rM_wx, rM_wh, lt_iN, lt_b1_0, lt_b1_1, x_if1, x_eq1, x_10, x_01, x_11, x_00, ↓reduceIte, r_nz, r_ar1L0, r_ar1L1, lt_n0_, lt_n1_, upd_s, upd_o, u2_eq, u2_n1, u2_n2, r_p1, r_p5, r_p6, r_p7, r_p9, r_p10, r_p11, r_p13, r_p19, r_p23, r_p26, r_p27, r_p32, r_p33, r_p34, r_ar1, r_ar9, r_ar10, r_ar11, r_ar12, r_ar13, r_ar14, r_ar15, r_ar16, r_ar17, r_ar18, r_ar19, r_ar74, r_ar75, r_ar76, n2_, n4_, n12_, n24_, n28_, n50_, n54_, n76_, n80_, n102_, n128_, n154_, n180_, n206_, n232_, n258_, n284_, n310_, n336_, n362_, n380_, n680_, r_get0, r_get1, r_get2, r_get3, r_get4, r_get8, r_get9, r_get10, r_get11, r_get12, r_get13, r_put0, r_put1, r_put2, r_put3, r_put4, r_put5, r_put6, r_put7, r_put8, r_put9, r_put10, r_put11, r_more10, r_more12, r_more13, r_more14, r_more15, r_more16, r_more17, r_more18, r_more19, r_more20, g2, hp, hm']
    exact ih
theorem r_isOut (d : Nat) (h : RA M o) (hu : u < 18) (hk : k < 26) (h3 : U 0 ≠ 3) : f_X11_isPutOut (d + 4) (rM M o H (u1 V u U) X) o (nI u) (nI k) = some (.inl none, rM M o H (u1 V u (qOut U k)) X) := by
  have e := r_isOut_74 (M := M) (o := o) (H := H) (V := V) (U := U) (X := X) (u := u) (k := k) d h hu hk rfl
  rw [e_X11_isPutOut]
  simp (maxSteps := 1000000) (disch := first | assumption | omega) only [x_rf, x_m, lt_bv_r, lt_bi_r, lt_bl_r, ↓r_ck, r_get, r_put, r_more, rM_h, rM_f, rM_x, rM_wf, rM_wx, rM_wh, lt_iN, lt_b1_0, lt_b1_1, x_if1, x_eq1, x_10, x_01, x_11, x_00, ↓reduceIte, r_nz, r_ar1L0, r_ar1L1, lt_n0_, lt_n1_, upd_s, upd_o, u2_eq, u2_n1, u2_n2, r_p1, r_p5, r_p6, r_p7, r_p9, r_p10, r_p11, r_p13, r_p19, r_p23, r_p26, r_p27, r_p32, r_p33, r_p34, r_ar1, r_ar9, r_ar10, r_ar11, r_ar12, r_ar13, r_ar14, r_ar15, r_ar16, r_ar17, r_ar18, r_ar19, r_ar74, r_ar75, r_ar76, n2_, n4_, n12_, n24_, n28_, n50_, n54_, n76_, n80_, n102_, n128_, n154_, n180_, n206_, n232_, n258_, n284_, n310_, n336_, n362_, n380_, n680_, r_get0, r_get1, r_get2, r_get3, r_get4, r_get8, r_get9, r_get10, r_get11, r_get12, r_get13, r_put0, r_put1, r_put2, r_put3, r_put4, r_put5, r_put6, r_put7, r_put8, r_put9, r_put10, r_put11, r_more10, r_more12, r_more13, r_more14, r_more15, r_more16, r_more17, r_more18, r_more19, r_more20, h3]
  exact e
theorem r_isOut3 (d : Nat) (h : RA M o) (hu : u < 18) (hk : k < 26) (h3 : U 0 = 3) (hP : ∀ k, k < 26 → X 10 k = P k) (hm : ∀ k, k < 26 → X 11 k = m k) : f_X11_isPutOut (d + 4) (rM M o H (u1 V u U) X) o (nI u) (nI k) = some (.inl none, rM M o H (u1 V u (qOut (qBack U P m (X 0 8)) k)) X) := by
  have e := r_isOut_15 (M := M) (o := o) (H := H) (V := V) (X := X) (u := u) (k := k) (r := 3) (W := U) d h hu hk hP hm 26 (Nat.le_refl _) U (fun w => by
    rw [if_neg (by omega), if_neg (by omega)])
  have e' : f_X11_isPutOut_15 (d + 4) (rM M o H (u1 V u U) X) o (nI u) (nI k) 3 0 = _ := e
  have e2 := r_isOut_74 (M := M) (o := o) (H := H) (V := V) (U := qBack U P m (X 0 8)) (X := X) (u := u) (k := k) (r := 3) d h hu hk (by
    unfold qBack
    rw [if_neg (by omega), if_neg (by omega), if_neg (by omega), h3])
  rw [e_X11_isPutOut]
  simp (maxSteps := 1000000) (disch := first | assumption | omega) only [x_rf, x_m, lt_bv_r, lt_bi_r, lt_bl_r, ↓r_ck, r_get, r_put, r_more, rM_h, rM_f, rM_x, rM_wf, rM_wx, rM_wh, lt_iN, lt_b1_0, lt_b1_1, x_if1, x_eq1, x_10, x_01, x_11, x_00, ↓reduceIte, r_nz, r_ar1L0, r_ar1L1, lt_n0_, lt_n1_, upd_s, upd_o, u2_eq, u2_n1, u2_n2, r_p1, r_p5, r_p6, r_p7, r_p9, r_p10, r_p11, r_p13, r_p19, r_p23, r_p26, r_p27, r_p32, r_p33, r_p34, r_ar1, r_ar9, r_ar10, r_ar11, r_ar12, r_ar13, r_ar14, r_ar15, r_ar16, r_ar17, r_ar18, r_ar19, r_ar74, r_ar75, r_ar76, n2_, n4_, n12_, n24_, n28_, n50_, n54_, n76_, n80_, n102_, n128_, n154_, n180_, n206_, n232_, n258_, n284_, n310_, n336_, n362_, n380_, n680_, r_get0, r_get1, r_get2, r_get3, r_get4, r_get8, r_get9, r_get10, r_get11, r_get12, r_get13, r_put0, r_put1, r_put2, r_put3, r_put4, r_put5, r_put6, r_put7, r_put8, r_put9, r_put10, r_put11, r_more10, r_more12, r_more13, r_more14, r_more15, r_more16, r_more17, r_more18, r_more19, r_more20, h3]
  rw [e', e2]
end Rn
