/-! THE REFERENCE: plays don't ask what a key that is not there came at; errors; the object made -/
section Sb
variable {M M' : LM} {o i j k u w y f t c q n x m size : Nat} {H : Nat → Int32} {V V' X : Nat → Nat → Int32} {S U W A came c0 c1 : Nat → Int32} {v a b e r rule : Int32} {z : Option (LO × LM)} {kf fs : Nat → Nat} {lt : Nat → Nat → Bool}
def PE (s s' : Nat × Nat × (Nat → Bool) × (Nat → Int32) × Option Nat) : Prop := s.1 = s'.1 ∧ s.2.1 = s'.2.1 ∧ s.2.2.1 = s'.2.2.1 ∧ s.2.2.2.2 = s'.2.2.2.2 ∧ ∀ k, s.2.2.1 k = true → s.2.2.2.1 k = s'.2.2.2.1 k
theorem PE.step {s s' : Nat × Nat × (Nat → Bool) × (Nat → Int32) × Option Nat} (h : PE s s') : PE (qPlay1 kf n rule size i s) (qPlay1 kf n rule size i s') := by
  obtain ⟨h1, h2, h3, h4, h5⟩ := h
  have hf : qFst s.2.2.1 (qGA kf n rule s.2.2.2.1 i) 26 none = qFst s'.2.2.1 (qGA kf n rule s'.2.2.2.1 i) 26 none := by
    rw [← h3]
    refine qFst_congr (fun _ _ => rfl) (fun a b _ _ ha hb => ?_) 26 none (Nat.le_refl _) (fun j e => by cases e)
    unfold qGA
    rw [h5 a ha, h5 b hb]
  unfold qPlay1
  rw [← h3] at hf
  rw [← h3, ← hf]
  by_cases c1 : s.2.2.1 (kf i) = true
  · rw [if_pos c1, if_pos c1]
    exact ⟨by show s.1 + 1 = s'.1 + 1; rw [h1], h2, rfl, rfl, h5⟩
  · rw [if_neg c1, if_neg c1, ← h2]
    by_cases c2 : s.2.1 = size
    · rw [if_pos c2, if_pos c2]
      refine ⟨h1, rfl, rfl, rfl, fun k hk => ?_⟩
      show upd s.2.2.2.1 (kf i) (nI i) k = upd s'.2.2.2.1 (kf i) (nI i) k
      have hk' : (if k = kf i then true else if qFst s.2.2.1 (qGA kf n rule s.2.2.2.1 i) 26 none = some k then false else s.2.2.1 k) = true := hk
      by_cases q : k = kf i
      · subst q
        rw [upd_s, upd_s]
      · rw [upd_o q, upd_o q]
        rw [if_neg q] at hk'
        split at hk'
        · cases hk'
        · exact h5 k hk'
    · rw [if_neg c2, if_neg c2]
      refine ⟨h1, rfl, rfl, rfl, fun k hk => ?_⟩
      show upd s.2.2.2.1 (kf i) (nI i) k = upd s'.2.2.2.1 (kf i) (nI i) k
      have hk' : (if k = kf i then true else s.2.2.1 k) = true := hk
      by_cases q : k = kf i
      · subst q
        rw [upd_s, upd_s]
      · rw [upd_o q, upd_o q]
        rw [if_neg q] at hk'
        exact h5 k hk'
theorem PE.all {t : Nat} : ∀ (m : Nat) {s s' : Nat × Nat × (Nat → Bool) × (Nat → Int32) × Option Nat}, PE s s' → PE (qPlays kf n rule size t m s) (qPlays kf n rule size t m s')
  | 0, _, _, h => h
  | m + 1, _, _, h => PE.all m h.step
theorem qPlay_c : PE (qPlay kf n rule size t c0) (qPlay kf n rule size t c1) := PE.all t ⟨rfl, rfl, rfl, rfl, fun k hk => by cases hk⟩
/-- hits, by a rule -/
def qHt (kf : Nat → Nat) (n : Nat) (rule : Int32) (size : Nat) : Int32 := qHits2 kf n rule size (fun _ => 0)
theorem qHt_c : qHits2 kf n rule size c0 = qHt kf n rule size := by
  unfold qHt qHits2
  rw [(qPlay_c (kf := kf) (n := n) (rule := rule) (size := size) (t := n) (c0 := c0) (c1 := fun _ => 0)).1]
theorem r_ht (d : Nat) (h : RA M o) (hK : RK H kf n) (hn : n ≤ 300) (h0 : H 0 = nI n) (hsz : 0 < size) (hsz2 : size < 1000) (rule : Int32) (X : Nat → Nat → Int32) :
    ∃ X', XQ X X' ∧ f_X11_hitsOf (d + 6) (rM M o H V X) o rule (nI size) = some (.inl (some (.int (qHt kf n rule size))), rM M o H V X') := by
  obtain ⟨X', c0, a1, a2⟩ := r_hitsOf (M := M) (o := o) (H := H) (V := V) (X := X) (rule := rule) d h hK hn h0 hsz hsz2
  rw [qHt_c] at a2
  exact ⟨X', a1, a2⟩
/-- whether a size keeps what is promised -/
def qErr1 (kf : Nat → Nat) (n size : Nat) : Bool :=
  !decide (qHt kf n (-1) size < qHt kf n 0 size) && !decide (qHt kf n (-1) size < qHt kf n 1 size) && !decide (qHt kf n (-1) size < qHt kf n 2 size) && !decide (nI n - qHt kf n (-1) size < qPhases kf (nI size) n) &&
  decide (nI (qPlay kf n 0 size n (fun _ => 0)).1 = qHt kf n 0 size) && (decide (size ≤ 1) || (!decide (qHt kf n 0 size < qHt kf n 0 (size - 1)) && !decide (qHt kf n 1 size < qHt kf n 1 (size - 1))))
def qErrs (kf : Nat → Nat) (n : Nat) : Nat → Int32 → Int32
  | 0, z => z
  | m + 1, z => qErrs kf n m (z + if qErr1 kf n (12 - m) = true then 0 else 1)
theorem r_errors_9 (d : Nat) (h : RA M o) (hK : RK H kf n) (hn : n ≤ 300) (h0 : H 0 = nI n) : ∀ (m : Nat) (z : Int32) (X : Nat → Nat → Int32), m ≤ 12 → ∃ X', XQ X X' ∧ f_X11_errors_9 (d + 7) (rM M o H V X) o z (nI (13 - m)) = some (.inl (some (.int (qErrs kf n m z))), rM M o H V X')
  | 0, z, X, _ => by
    refine ⟨X, XQ.refl, ?_⟩
    rw [e_X11_errors_9, if_pos (by decide)]
    rfl
  | m + 1, z, X, hm => by
    have g1 : nI (13 - (m + 1)) = nI (12 - m) := by congr 1; omega
    have hlt : ¬ (12 : Int32) < nI (12 - m) := fun e => by have := (lt_iL (j := 12) (k := 12 - m) (by omega) (by omega)).mp e; omega
    have g2 : nI (12 - m) + 1 = nI (13 - m) := by
      rw [show nI (12 - m) + 1 = nI (12 - m + 1) from lt_iA (j := 12 - m) (k := 1)]
      congr 1
      omega
    have hsz : 0 < 12 - m := by omega
    have hsz2 : 12 - m < 1000 := by omega
    have z0 : ∀ x : Int32, x + 0 = x := fun x => Int32.add_zero _
    have fin : ∀ (X : Nat → Nat → Int32) (s : Bool), ∃ X', XQ X X' ∧ (if s = true then f_X11_errors_9 (d + 7) (rM M o H V X) o (z + 0) (nI (12 - m) + 1) else f_X11_errors_9 (d + 7) (rM M o H V X) o (z + 1) (nI (12 - m) + 1)) = some (.inl (some (.int (qErrs kf n m (z + if s = true then 0 else 1)))), rM M o H V X') := by
      intro X s
      rw [g2]
      cases s
      · exact r_errors_9 d h hK hn h0 m (z + 1) X (by omega)
      · exact r_errors_9 d h hK hn h0 m (z + 0) X (by omega)
    -- the last test, by the size before
    have e114 : ∀ (X : Nat → Nat → Int32) (s : Bool), ∃ X', XQ X X' ∧ f_X11_errors_114 (d + 7) (rM M o H V X) o z (nI (12 - m)) (qHt kf n 0 (12 - m)) (qHt kf n 1 (12 - m)) (bI s) = some (.inl (some (.int (qErrs kf n m (z + if (s && (decide (12 - m ≤ 1) || (!decide (qHt kf n 0 (12 - m) < qHt kf n 0 (12 - m - 1)) && !decide (qHt kf n 1 (12 - m) < qHt kf n 1 (12 - m - 1))))) = true then 0 else 1)))), rM M o H V X') := by
      intro X s
      rw [e_X11_errors_114]
      by_cases h1 : 12 - m ≤ 1
      · have hl1 : ¬ (1 : Int32) < nI (12 - m) := fun e => by have := (lt_iL (j := 1) (k := 12 - m) (by omega) (by omega)).mp e; omega
        obtain ⟨X', a1, a2⟩ := fin X s
        refine ⟨X', a1, ?_⟩
        rw [if_neg hl1, decide_eq_true h1, Bool.true_or, Bool.and_true]
        cases s <;> exact a2
      · have hl1 : (1 : Int32) < nI (12 - m) := (lt_iL (j := 1) (k := 12 - m) (by omega) (by omega)).mpr (by omega)
        rw [if_pos hl1, decide_eq_false h1, Bool.false_or]
        cases s
        · obtain ⟨X', a1, a2⟩ := fin X false
          refine ⟨X', a1, ?_⟩
          rw [Bool.false_and]
          exact a2
        · have g3 : nI (12 - m) - 1 = nI (12 - m - 1) := by
            rw [show nI (12 - m) = nI (12 - m - 1) + 1 from by rw [show nI (12 - m - 1) + 1 = nI (12 - m - 1 + 1) from lt_iA (j := 12 - m - 1) (k := 1)]; congr 1; omega]
            exact Int32.add_sub_cancel ..
          obtain ⟨X1, b1, b2⟩ := r_ht (M := M) (o := o) (H := H) (V := V) (kf := kf) (size := 12 - m - 1) d h hK hn h0 (by omega) (by omega) 0 X
          obtain ⟨X2, c1, c2⟩ := r_ht (M := M) (o := o) (H := H) (V := V) (kf := kf) (size := 12 - m - 1) d h hK hn h0 (by omega) (by omega) 1 X1
          by_cases q1 : qHt kf n 0 (12 - m) < qHt kf n 0 (12 - m - 1)
          · obtain ⟨X', a1, a2⟩ := fin X1 false
            refine ⟨X', b1.trans a1, ?_⟩
            rw [decide_eq_true q1, Bool.not_true, Bool.false_and, Bool.and_false]
            simp (maxSteps := 1000000) (disch := first | assumption | omega) only [x_rf, x_m, lt_bv_r, lt_bi_r, lt_bl_r, ↓r_ck, r_get, r_put, r_more, rM_h, rM_f, rM_x, rM_wf, rM_wx, rM_wh, lt_iN, lt_b1_0, lt_b1_1, x_if1, x_eq1, x_10, x_01, x_11, x_00, ↓reduceIte, r_nz, r_ar1L0, r_ar1L1, lt_n0_, lt_n1_, upd_s, upd_o, u2_eq, u2_n1, u2_n2, r_p1, r_p5, r_p6, r_p7, r_p9, r_p10, r_p11, r_p13, r_p19, r_p23, r_p26, r_p27, r_p32, r_p33, r_p34, r_ar1, r_ar9, r_ar10, r_ar11, r_ar12, r_ar13, r_ar14, r_ar15, r_ar16, r_ar17, r_ar18, r_ar19, r_ar74, r_ar75, r_ar76, n2_, n4_, n12_, n24_, n28_, n50_, n54_, n76_, n80_, n102_, n128_, n154_, n180_, n206_, n232_, n258_, n284_, n310_, n336_, n362_, n380_, n680_, r_get0, r_get1, r_get2, r_get3, r_get4, r_get8, r_get9, r_get10, r_get11, r_get12, r_get13, r_put0, r_put1, r_put2, r_put3, r_put4, r_put5, r_put6, r_put7, r_put8, r_put9, r_put10, r_put11, r_more10, r_more12, r_more13, r_more14, r_more15, r_more16, r_more17, r_more18, r_more19, r_more20, bI_t, g3, b2, q1]
            exact a2
          · by_cases q2 : qHt kf n 1 (12 - m) < qHt kf n 1 (12 - m - 1)
            · obtain ⟨X', a1, a2⟩ := fin X2 false
              refine ⟨X', (b1.trans c1).trans a1, ?_⟩
              rw [decide_eq_true q2, Bool.not_true, Bool.and_false, Bool.and_false]
              simp (maxSteps := 1000000) (disch := first | assumption | omega) only [x_rf, x_m, lt_bv_r, lt_bi_r, lt_bl_r, ↓r_ck, r_get, r_put, r_more, rM_h, rM_f, rM_x, rM_wf, rM_wx, rM_wh, lt_iN, lt_b1_0, lt_b1_1, x_if1, x_eq1, x_10, x_01, x_11, x_00, ↓reduceIte, r_nz, r_ar1L0, r_ar1L1, lt_n0_, lt_n1_, upd_s, upd_o, u2_eq, u2_n1, u2_n2, r_p1, r_p5, r_p6, r_p7, r_p9, r_p10, r_p11, r_p13, r_p19, r_p23, r_p26, r_p27, r_p32, r_p33, r_p34, r_ar1, r_ar9, r_ar10, r_ar11, r_ar12, r_ar13, r_ar14, r_ar15, r_ar16, r_ar17, r_ar18, r_ar19, r_ar74, r_ar75, r_ar76, n2_, n4_, n12_, n24_, n28_, n50_, n54_, n76_, n80_, n102_, n128_, n154_, n180_, n206_, n232_, n258_, n284_, n310_, n336_, n362_, n380_, n680_, r_get0, r_get1, r_get2, r_get3, r_get4, r_get8, r_get9, r_get10, r_get11, r_get12, r_get13, r_put0, r_put1, r_put2, r_put3, r_put4, r_put5, r_put6, r_put7, r_put8, r_put9, r_put10, r_put11, r_more10, r_more12, r_more13, r_more14, r_more15, r_more16, r_more17, r_more18, r_more19, r_more20, bI_t, g3, b2, q1, c2, q2]
              exact a2
            · obtain ⟨X', a1, a2⟩ := fin X2 true
              refine ⟨X', (b1.trans c1).trans a1, ?_⟩
              rw [decide_eq_false q1, decide_eq_false q2]
              simp (maxSteps := 1000000) (disch := first | assumption | omega) only [x_rf, x_m, lt_bv_r, lt_bi_r, lt_bl_r, ↓r_ck, r_get, r_put, r_more, rM_h, rM_f, rM_x, rM_wf, rM_wx, rM_wh, lt_iN, lt_b1_0, lt_b1_1, x_if1, x_eq1, x_10, x_01, x_11, x_00, ↓reduceIte, r_nz, r_ar1L0, r_ar1L1, lt_n0_, lt_n1_, upd_s, upd_o, u2_eq, u2_n1, u2_n2, r_p1, r_p5, r_p6, r_p7, r_p9, r_p10, r_p11, r_p13, r_p19, r_p23, r_p26, r_p27, r_p32, r_p33, r_p34, r_ar1, r_ar9, r_ar10, r_ar11, r_ar12, r_ar13, r_ar14, r_ar15, r_ar16, r_ar17, r_ar18, r_ar19, r_ar74, r_ar75, r_ar76, n2_, n4_, n12_, n24_, n28_, n50_, n54_, n76_, n80_, n102_, n128_, n154_, n180_, n206_, n232_, n258_, n284_, n310_, n336_, n362_, n380_, n680_, r_get0, r_get1, r_get2, r_get3, r_get4, r_get8, r_get9, r_get10, r_get11, r_get12, r_get13, r_put0, r_put1, r_put2, r_put3, r_put4, r_put5, r_put6, r_put7, r_put8, r_put9, r_put10, r_put11, r_more10, r_more12, r_more13, r_more14, r_more15, r_more16, r_more17, r_more18, r_more19, r_more20, bI_t, g3, b2, q1, c2, q2]
              exact a2
    have e81 : ∀ (X : Nat → Nat → Int32) (s : Bool), ∃ X', XQ X X' ∧ f_X11_errors_81 (d + 7) (rM M o H V X) o z (nI (12 - m)) (qHt kf n 0 (12 - m)) (qHt kf n 1 (12 - m)) (bI s) = some (.inl (some (.int (qErrs kf n m (z + if (s && decide (nI (qPlay kf n 0 (12 - m) n (fun _ => 0)).1 = qHt kf n 0 (12 - m)) && (decide (12 - m ≤ 1) || (!decide (qHt kf n 0 (12 - m) < qHt kf n 0 (12 - m - 1)) && !decide (qHt kf n 1 (12 - m) < qHt kf n 1 (12 - m - 1))))) = true then 0 else 1)))), rM M o H V X') := by
      intro X s
      obtain ⟨X1, c0, b1, b2, -, b4⟩ := r_plays (M := M) (o := o) (H := H) (V := V) (X := X) (rule := 0) (size := 12 - m) (d + 1) h hK hn h0 hsz hsz2 (Nat.le_refl n)
      have b28 : X1 0 28 = nI (qPlay kf n 0 (12 - m) n (fun _ => 0)).1 := by rw [b2.1, (qPlay_c (c1 := fun _ => 0)).1]
      have e113 : ∀ X, f_X11_errors_113 (d + 7) (rM M o H V X) o z (nI (12 - m)) (qHt kf n 0 (12 - m)) (qHt kf n 1 (12 - m)) = f_X11_errors_114 (d + 7) (rM M o H V X) o z (nI (12 - m)) (qHt kf n 0 (12 - m)) (qHt kf n 1 (12 - m)) 0 := fun X => e_X11_errors_113 ..
      rw [e_X11_errors_81]
      cases s
      · obtain ⟨X', a1, a2⟩ := e114 X1 false
        refine ⟨X', b1.trans a1, ?_⟩
        rw [Bool.false_and] at a2 ⊢
        simp (maxSteps := 1000000) (disch := first | assumption | omega) only [x_rf, x_m, lt_bv_r, lt_bi_r, lt_bl_r, ↓r_ck, r_get, r_put, r_more, rM_h, rM_f, rM_x, rM_wf, rM_wx, rM_wh, lt_iN, lt_b1_0, lt_b1_1, x_if1, x_eq1, x_10, x_01, x_11, x_00, ↓reduceIte, r_nz, r_ar1L0, r_ar1L1, lt_n0_, lt_n1_, upd_s, upd_o, u2_eq, u2_n1, u2_n2, r_p1, r_p5, r_p6, r_p7, r_p9, r_p10, r_p11, r_p13, r_p19, r_p23, r_p26, r_p27, r_p32, r_p33, r_p34, r_ar1, r_ar9, r_ar10, r_ar11, r_ar12, r_ar13, r_ar14, r_ar15, r_ar16, r_ar17, r_ar18, r_ar19, r_ar74, r_ar75, r_ar76, n2_, n4_, n12_, n24_, n28_, n50_, n54_, n76_, n80_, n102_, n128_, n154_, n180_, n206_, n232_, n258_, n284_, n310_, n336_, n362_, n380_, n680_, r_get0, r_get1, r_get2, r_get3, r_get4, r_get8, r_get9, r_get10, r_get11, r_get12, r_get13, r_put0, r_put1, r_put2, r_put3, r_put4, r_put5, r_put6, r_put7, r_put8, r_put9, r_put10, r_put11, r_more10, r_more12, r_more13, r_more14, r_more15, r_more16, r_more17, r_more18, r_more19, r_more20, h0, b4, bI_f, e113]
        exact a2
      · by_cases q : nI (qPlay kf n 0 (12 - m) n (fun _ => 0)).1 = qHt kf n 0 (12 - m)
        · obtain ⟨X', a1, a2⟩ := e114 X1 true
          refine ⟨X', b1.trans a1, ?_⟩
          rw [decide_eq_true q, Bool.true_and]
          simp (maxSteps := 1000000) (disch := first | assumption | omega) only [x_rf, x_m, lt_bv_r, lt_bi_r, lt_bl_r, ↓r_ck, r_get, r_put, r_more, rM_h, rM_f, rM_x, rM_wf, rM_wx, rM_wh, lt_iN, lt_b1_0, lt_b1_1, x_if1, x_eq1, x_10, x_01, x_11, x_00, ↓reduceIte, r_nz, r_ar1L0, r_ar1L1, lt_n0_, lt_n1_, upd_s, upd_o, u2_eq, u2_n1, u2_n2, r_p1, r_p5, r_p6, r_p7, r_p9, r_p10, r_p11, r_p13, r_p19, r_p23, r_p26, r_p27, r_p32, r_p33, r_p34, r_ar1, r_ar9, r_ar10, r_ar11, r_ar12, r_ar13, r_ar14, r_ar15, r_ar16, r_ar17, r_ar18, r_ar19, r_ar74, r_ar75, r_ar76, n2_, n4_, n12_, n24_, n28_, n50_, n54_, n76_, n80_, n102_, n128_, n154_, n180_, n206_, n232_, n258_, n284_, n310_, n336_, n362_, n380_, n680_, r_get0, r_get1, r_get2, r_get3, r_get4, r_get8, r_get9, r_get10, r_get11, r_get12, r_get13, r_put0, r_put1, r_put2, r_put3, r_put4, r_put5, r_put6, r_put7, r_put8, r_put9, r_put10, r_put11, r_more10, r_more12, r_more13, r_more14, r_more15, r_more16, r_more17, r_more18, r_more19, r_more20, h0, b4, bI_t, b28, q]
          exact a2
        · obtain ⟨X', a1, a2⟩ := e114 X1 false
          refine ⟨X', b1.trans a1, ?_⟩
          rw [decide_eq_false q, Bool.and_false]
          simp (maxSteps := 1000000) (disch := first | assumption | omega) only [x_rf, x_m, lt_bv_r, lt_bi_r, lt_bl_r, ↓r_ck, r_get, r_put, r_more, rM_h, rM_f, rM_x, rM_wf, rM_wx, rM_wh, lt_iN, lt_b1_0, lt_b1_1, x_if1, x_eq1, x_10, x_01, x_11, x_00, ↓reduceIte, r_nz, r_ar1L0, r_ar1L1, lt_n0_, lt_n1_, upd_s, upd_o, u2_eq, u2_n1, u2_n2, r_p1, r_p5, r_p6, r_p7, r_p9, r_p10, r_p11, r_p13, r_p19, r_p23, r_p26, r_p27, r_p32, r_p33, r_p34, r_ar1, r_ar9, r_ar10, r_ar11, r_ar12, r_ar13, r_ar14, r_ar15, r_ar16, r_ar17, r_ar18, r_ar19, r_ar74, r_ar75, r_ar76, n2_, n4_, n12_, n24_, n28_, n50_, n54_, n76_, n80_, n102_, n128_, n154_, n180_, n206_, n232_, n258_, n284_, n310_, n336_, n362_, n380_, n680_, r_get0, r_get1, r_get2, r_get3, r_get4, r_get8, r_get9, r_get10, r_get11, r_get12, r_get13, r_put0, r_put1, r_put2, r_put3, r_put4, r_put5, r_put6, r_put7, r_put8, r_put9, r_put10, r_put11, r_more10, r_more12, r_more13, r_more14, r_more15, r_more16, r_more17, r_more18, r_more19, r_more20, h0, b4, bI_t, b28, q, e113]
          exact a2
    have e80 : ∀ X, f_X11_errors_80 (d + 7) (rM M o H V X) o z (nI (12 - m)) (qHt kf n 0 (12 - m)) (qHt kf n 1 (12 - m)) = f_X11_errors_81 (d + 7) (rM M o H V X) o z (nI (12 - m)) (qHt kf n 0 (12 - m)) (qHt kf n 1 (12 - m)) 0 := fun X => e_X11_errors_80 ..
    obtain ⟨X1, a1, a2⟩ := r_ht (M := M) (o := o) (H := H) (V := V) (kf := kf) d h hK hn h0 hsz hsz2 (-1) X
    obtain ⟨X2, b1, b2⟩ := r_ht (M := M) (o := o) (H := H) (V := V) (kf := kf) d h hK hn h0 hsz hsz2 0 X1
    obtain ⟨X3, c1, c2⟩ := r_ht (M := M) (o := o) (H := H) (V := V) (kf := kf) d h hK hn h0 hsz hsz2 1 X2
    obtain ⟨X4, d1, d2⟩ := r_ht (M := M) (o := o) (H := H) (V := V) (kf := kf) d h hK hn h0 hsz hsz2 2 X3
    have ph := r_phasesOf (M := M) (o := o) (H := H) (V := V) (X := X4) (size := nI (12 - m)) (d + 3) h hK hn h0
    have hs : qErrs kf n (m + 1) z = qErrs kf n m (z + if qErr1 kf n (12 - m) = true then 0 else 1) := rfl
    rw [g1, hs, e_X11_errors_9, if_neg hlt]
    unfold qErr1
    by_cases q1 : qHt kf n (-1) (12 - m) < qHt kf n 0 (12 - m)
    · obtain ⟨X', r1, r2⟩ := e81 X3 false
      refine ⟨X', ((a1.trans b1).trans c1).trans r1, ?_⟩
      rw [decide_eq_true q1]
      simp (maxSteps := 1000000) (disch := first | assumption | omega) only [x_rf, x_m, lt_bv_r, lt_bi_r, lt_bl_r, ↓r_ck, r_get, r_put, r_more, rM_h, rM_f, rM_x, rM_wf, rM_wx, rM_wh, lt_iN, lt_b1_0, lt_b1_1, x_if1, x_eq1, x_10, x_01, x_11, x_00, ↓reduceIte, r_nz, r_ar1L0, r_ar1L1, lt_n0_, lt_n1_, upd_s, upd_o, u2_eq, u2_n1, u2_n2, r_p1, r_p5, r_p6, r_p7, r_p9, r_p10, r_p11, r_p13, r_p19, r_p23, r_p26, r_p27, r_p32, r_p33, r_p34, r_ar1, r_ar9, r_ar10, r_ar11, r_ar12, r_ar13, r_ar14, r_ar15, r_ar16, r_ar17, r_ar18, r_ar19, r_ar74, r_ar75, r_ar76, n2_, n4_, n12_, n24_, n28_, n50_, n54_, n76_, n80_, n102_, n128_, n154_, n180_, n206_, n232_, n258_, n284_, n310_, n336_, n362_, n380_, n680_, r_get0, r_get1, r_get2, r_get3, r_get4, r_get8, r_get9, r_get10, r_get11, r_get12, r_get13, r_put0, r_put1, r_put2, r_put3, r_put4, r_put5, r_put6, r_put7, r_put8, r_put9, r_put10, r_put11, r_more10, r_more12, r_more13, r_more14, r_more15, r_more16, r_more17, r_more18, r_more19, r_more20, a2, b2, c2, q1, e80]
      simpa [bI_f] using r2
    · by_cases q2 : qHt kf n (-1) (12 - m) < qHt kf n 1 (12 - m)
      · obtain ⟨X', r1, r2⟩ := e81 X3 false
        refine ⟨X', ((a1.trans b1).trans c1).trans r1, ?_⟩
        rw [decide_eq_true q2]
        simp (maxSteps := 1000000) (disch := first | assumption | omega) only [x_rf, x_m, lt_bv_r, lt_bi_r, lt_bl_r, ↓r_ck, r_get, r_put, r_more, rM_h, rM_f, rM_x, rM_wf, rM_wx, rM_wh, lt_iN, lt_b1_0, lt_b1_1, x_if1, x_eq1, x_10, x_01, x_11, x_00, ↓reduceIte, r_nz, r_ar1L0, r_ar1L1, lt_n0_, lt_n1_, upd_s, upd_o, u2_eq, u2_n1, u2_n2, r_p1, r_p5, r_p6, r_p7, r_p9, r_p10, r_p11, r_p13, r_p19, r_p23, r_p26, r_p27, r_p32, r_p33, r_p34, r_ar1, r_ar9, r_ar10, r_ar11, r_ar12, r_ar13, r_ar14, r_ar15, r_ar16, r_ar17, r_ar18, r_ar19, r_ar74, r_ar75, r_ar76, n2_, n4_, n12_, n24_, n28_, n50_, n54_, n76_, n80_, n102_, n128_, n154_, n180_, n206_, n232_, n258_, n284_, n310_, n336_, n362_, n380_, n680_, r_get0, r_get1, r_get2, r_get3, r_get4, r_get8, r_get9, r_get10, r_get11, r_get12, r_get13, r_put0, r_put1, r_put2, r_put3, r_put4, r_put5, r_put6, r_put7, r_put8, r_put9, r_put10, r_put11, r_more10, r_more12, r_more13, r_more14, r_more15, r_more16, r_more17, r_more18, r_more19, r_more20, a2, b2, c2, q1, q2, e80]
        simpa [bI_f] using r2
      · by_cases q3 : qHt kf n (-1) (12 - m) < qHt kf n 2 (12 - m)
        · obtain ⟨X', r1, r2⟩ := e81 X4 false
          refine ⟨X', (((a1.trans b1).trans c1).trans d1).trans r1, ?_⟩
          rw [decide_eq_true q3]
          simp (maxSteps := 1000000) (disch := first | assumption | omega) only [x_rf, x_m, lt_bv_r, lt_bi_r, lt_bl_r, ↓r_ck, r_get, r_put, r_more, rM_h, rM_f, rM_x, rM_wf, rM_wx, rM_wh, lt_iN, lt_b1_0, lt_b1_1, x_if1, x_eq1, x_10, x_01, x_11, x_00, ↓reduceIte, r_nz, r_ar1L0, r_ar1L1, lt_n0_, lt_n1_, upd_s, upd_o, u2_eq, u2_n1, u2_n2, r_p1, r_p5, r_p6, r_p7, r_p9, r_p10, r_p11, r_p13, r_p19, r_p23, r_p26, r_p27, r_p32, r_p33, r_p34, r_ar1, r_ar9, r_ar10, r_ar11, r_ar12, r_ar13, r_ar14, r_ar15, r_ar16, r_ar17, r_ar18, r_ar19, r_ar74, r_ar75, r_ar76, n2_, n4_, n12_, n24_, n28_, n50_, n54_, n76_, n80_, n102_, n128_, n154_, n180_, n206_, n232_, n258_, n284_, n310_, n336_, n362_, n380_, n680_, r_get0, r_get1, r_get2, r_get3, r_get4, r_get8, r_get9, r_get10, r_get11, r_get12, r_get13, r_put0, r_put1, r_put2, r_put3, r_put4, r_put5, r_put6, r_put7, r_put8, r_put9, r_put10, r_put11, r_more10, r_more12, r_more13, r_more14, r_more15, r_more16, r_more17, r_more18, r_more19, r_more20, a2, b2, c2, d2, q1, q2, q3, e80]
          simpa [bI_f] using r2
        · by_cases q4 : nI n - qHt kf n (-1) (12 - m) < qPhases kf (nI (12 - m)) n
          · obtain ⟨X', r1, r2⟩ := e81 X4 false
            refine ⟨X', (((a1.trans b1).trans c1).trans d1).trans r1, ?_⟩
            rw [decide_eq_true q4]
            simp (maxSteps := 1000000) (disch := first | assumption | omega) only [x_rf, x_m, lt_bv_r, lt_bi_r, lt_bl_r, ↓r_ck, r_get, r_put, r_more, rM_h, rM_f, rM_x, rM_wf, rM_wx, rM_wh, lt_iN, lt_b1_0, lt_b1_1, x_if1, x_eq1, x_10, x_01, x_11, x_00, ↓reduceIte, r_nz, r_ar1L0, r_ar1L1, lt_n0_, lt_n1_, upd_s, upd_o, u2_eq, u2_n1, u2_n2, r_p1, r_p5, r_p6, r_p7, r_p9, r_p10, r_p11, r_p13, r_p19, r_p23, r_p26, r_p27, r_p32, r_p33, r_p34, r_ar1, r_ar9, r_ar10, r_ar11, r_ar12, r_ar13, r_ar14, r_ar15, r_ar16, r_ar17, r_ar18, r_ar19, r_ar74, r_ar75, r_ar76, n2_, n4_, n12_, n24_, n28_, n50_, n54_, n76_, n80_, n102_, n128_, n154_, n180_, n206_, n232_, n258_, n284_, n310_, n336_, n362_, n380_, n680_, r_get0, r_get1, r_get2, r_get3, r_get4, r_get8, r_get9, r_get10, r_get11, r_get12, r_get13, r_put0, r_put1, r_put2, r_put3, r_put4, r_put5, r_put6, r_put7, r_put8, r_put9, r_put10, r_put11, r_more10, r_more12, r_more13, r_more14, r_more15, r_more16, r_more17, r_more18, r_more19, r_more20, a2, b2, c2, d2, q1, q2, q3, h0, ph, q4, e80]
            simpa [bI_f] using r2
          · obtain ⟨X', r1, r2⟩ := e81 X4 true
            refine ⟨X', (((a1.trans b1).trans c1).trans d1).trans r1, ?_⟩
            rw [decide_eq_false q1, decide_eq_false q2, decide_eq_false q3, decide_eq_false q4]
            simp (maxSteps := 1000000) (disch := first | assumption | omega) only [x_rf, x_m, lt_bv_r, lt_bi_r, lt_bl_r, ↓r_ck, r_get, r_put, r_more, rM_h, rM_f, rM_x, rM_wf, rM_wx, rM_wh, lt_iN, lt_b1_0, lt_b1_1, x_if1, x_eq1, x_10, x_01, x_11, x_00, ↓reduceIte, r_nz, r_ar1L0, r_ar1L1, lt_n0_, lt_n1_, upd_s, upd_o, u2_eq, u2_n1, u2_n2, r_p1, r_p5, r_p6, r_p7, r_p9, r_p10, r_p11, r_p13, r_p19, r_p23, r_p26, r_p27, r_p32, r_p33, r_p34, r_ar1, r_ar9, r_ar10, r_ar11, r_ar12, r_ar13, r_ar14, r_ar15, r_ar16, r_ar17, r_ar18, r_ar19, r_ar74, r_ar75, r_ar76, n2_, n4_, n12_, n24_, n28_, n50_, n54_, n76_, n80_, n102_, n128_, n154_, n180_, n206_, n232_, n258_, n284_, n310_, n336_, n362_, n380_, n680_, r_get0, r_get1, r_get2, r_get3, r_get4, r_get8, r_get9, r_get10, r_get11, r_get12, r_get13, r_put0, r_put1, r_put2, r_put3, r_put4, r_put5, r_put6, r_put7, r_put8, r_put9, r_put10, r_put11, r_more10, r_more12, r_more13, r_more14, r_more15, r_more16, r_more17, r_more18, r_more19, r_more20, a2, b2, c2, d2, q1, q2, q3, h0, ph, q4]
            exact r2
theorem r_errors (d : Nat) (h : RA M o) (hK : RK H kf n) (hn : n ≤ 300) (h0 : H 0 = nI n) : ∃ X', XQ (qX0 X) X' ∧ f_X11_errors (d + 8) (rM M o H V X) o = some (.inl (some (.int (qErrs kf n 12 0))), rM M o H V X') := by
  obtain ⟨X', a1, a2⟩ := r_errors_9 (M := M) (o := o) (H := H) (V := V) (d + 1) h hK hn h0 12 0 (qX0 X) (Nat.le_refl _)
  refine ⟨X', a1, ?_⟩
  rw [e_X11_errors]
  simp (maxSteps := 1000000) (disch := first | assumption | omega) only [x_rf, x_m, lt_bv_r, lt_bi_r, lt_bl_r, ↓r_ck, r_get, r_put, r_more, rM_h, rM_f, rM_x, rM_wf, rM_wx, rM_wh, lt_iN, lt_b1_0, lt_b1_1, x_if1, x_eq1, x_10, x_01, x_11, x_00, ↓reduceIte, r_nz, r_ar1L0, r_ar1L1, lt_n0_, lt_n1_, upd_s, upd_o, u2_eq, u2_n1, u2_n2, r_p1, r_p5, r_p6, r_p7, r_p9, r_p10, r_p11, r_p13, r_p19, r_p23, r_p26, r_p27, r_p32, r_p33, r_p34, r_ar1, r_ar9, r_ar10, r_ar11, r_ar12, r_ar13, r_ar14, r_ar15, r_ar16, r_ar17, r_ar18, r_ar19, r_ar74, r_ar75, r_ar76, n2_, n4_, n12_, n24_, n28_, n50_, n54_, n76_, n80_, n102_, n128_, n154_, n180_, n206_, n232_, n258_, n284_, n310_, n336_, n362_, n380_, n680_, r_get0, r_get1, r_get2, r_get3, r_get4, r_get8, r_get9, r_get10, r_get11, r_get12, r_get13, r_put0, r_put1, r_put2, r_put3, r_put4, r_put5, r_put6, r_put7, r_put8, r_put9, r_put10, r_put11, r_more10, r_more12, r_more13, r_more14, r_more15, r_more16, r_more17, r_more18, r_more19, r_more20]
  exact a2
end Sb
