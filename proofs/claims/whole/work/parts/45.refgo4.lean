/-! THE REFERENCE, methods of one unit: the turning, who goes -/
theorem qFst_congr {can can' : Nat → Bool} {lt lt' : Nat → Nat → Bool} (hc : ∀ k, k < 26 → can k = can' k) (hl : ∀ i j, i < 26 → j < 26 → can i = true → can j = true → lt i j = lt' i j) : ∀ (n : Nat) (b : Option Nat), n ≤ 26 → (∀ j, b = some j → j < 26 ∧ can j = true) → qFst can lt n b = qFst can' lt' n b
  | 0, b, _, _ => rfl
  | n + 1, b, hn, hb => by
    show qFst can lt n (if can (25 - n) = true then qStep lt (25 - n) b else b) = qFst can' lt' n (if can' (25 - n) = true then qStep lt' (25 - n) b else b)
    have e : (if can (25 - n) = true then qStep lt (25 - n) b else b) = (if can' (25 - n) = true then qStep lt' (25 - n) b else b) := by
      rw [← hc (25 - n) (by omega)]
      by_cases hcc : can (25 - n) = true
      · rw [if_pos hcc, if_pos hcc]
        cases b with
        | none => rfl
        | some j =>
          have := hb j rfl
          show (if lt (25 - n) j = true then some (25 - n) else some j) = if lt' (25 - n) j = true then some (25 - n) else some j
          rw [hl (25 - n) j (by omega) this.1 hcc this.2]
      · rw [if_neg hcc, if_neg hcc]
    rw [← e]
    refine qFst_congr hc hl n _ (by omega) ?_
    intro j
    split
    · rename_i hcc
      cases b with
      | none => intro e; cases e; exact ⟨by omega, hcc⟩
      | some i =>
        show (if lt (25 - n) i = true then some (25 - n) else some i) = some j → _
        split
        · intro e; cases e; exact ⟨by omega, hcc⟩
        · intro e; cases e; exact hb _ rfl
    · exact hb j
/-- what is first can -/
theorem qFst_can {can : Nat → Bool} {lt : Nat → Nat → Bool} : ∀ (n : Nat) (b : Option Nat), n ≤ 26 → (∀ j, b = some j → j < 26 ∧ can j = true) → ∀ j, qFst can lt n b = some j → j < 26 ∧ can j = true
  | 0, b, _, h => h
  | n + 1, b, hn, h => by
    refine qFst_can n _ (by omega) ?_
    intro j
    split
    · rename_i hcc
      cases b with
      | none => intro e; cases e; exact ⟨by omega, hcc⟩
      | some i =>
        show (if lt (25 - n) i = true then some (25 - n) else some i) = some j → _
        split
        · intro e; cases e; exact ⟨by omega, hcc⟩
        · intro e; cases e; exact h _ rfl
    · exact h j
/-- there is a first if one can -/
theorem qFst_some {can : Nat → Bool} {lt : Nat → Nat → Bool} : ∀ (n : Nat) (b : Option Nat), n ≤ 26 → (b ≠ none ∨ ∃ k, k < 26 ∧ 26 - n ≤ k ∧ can k = true) → qFst can lt n b ≠ none
  | 0, b, _, h => by
    rcases h with h | ⟨k, h1, h2, -⟩
    · exact h
    · omega
  | n + 1, b, hn, h => by
    refine qFst_some n _ (by omega) ?_
    by_cases hcc : can (25 - n) = true
    · left
      rw [if_pos hcc]
      cases b with
      | none => intro e; cases e
      | some i =>
        show (if lt (25 - n) i = true then some (25 - n) else some i) ≠ none
        split <;> (intro e; cases e)
    · rw [if_neg hcc]
      rcases h with h | ⟨k, h1, h2, h3⟩
      · exact Or.inl h
      · refine Or.inr ⟨k, h1, ?_, h3⟩
        by_cases e : k = 25 - n
        · rw [e] at h3; exact absurd h3 hcc
        · omega
def qHeld (U : Nat → Int32) (k : Nat) : Bool := decide (U (24 + k) = 1)
def qLt (P : Nat → Int32) (i j : Nat) : Bool := decide (P i < P j)
def qMin (U P : Nat → Int32) : Option Nat := qFst (qHeld U) (qLt P) 26 none
/-- the queue is turned until one goes -/
def qTurn (U : Nat → Int32) (can : Nat → Bool) : Nat → (Nat → Int32) → (Nat → Int32) → Int32 → Option (Nat × (Nat → Int32) × (Nat → Int32) × Int32)
  | 0, _, _, _ => none
  | n + 1, P, m, st => match qMin U P with
    | none => none
    | some f => if can f = true ∧ m f = 0 then some (f, P, m, st) else qTurn U can n (upd P f (st + 1)) (if can f = true then upd m f 0 else m) (st + 1)
section Rl
variable {M : LM} {o i j k u w y : Nat} {H : Nat → Int32} {V X : Nat → Nat → Int32} {U P m : Nat → Int32} {v r st : Int32} {kf : Nat → Nat} {kept : Option Nat}
theorem r_turn_60 (d : Nat) (h : RA M o) (hu : u < 18) (hP : ∀ k, k < 26 → X 10 k = P k) : ∀ (n : Nat) (b : Option Nat), n ≤ 26 → (∀ j, b = some j → j < 26) →
    f_X11_firstOfTurning_60 (d + 3) (rM M o H (u1 V u U) X) o (nI u) (oI b) (nI (26 - n)) = f_X11_firstOfTurning_60 (d + 3) (rM M o H (u1 V u U) X) o (nI u) (oI (qFst (qHeld U) (qLt P) n b)) (nI 26)
  | 0, b, _, _ => rfl
  | n + 1, b, hn, hb => by
    obtain ⟨g1, g2, -⟩ := lt_suc hn
    have hk : 25 - n < 26 := by omega
    have ih := fun b hb => r_turn_60 d h hu hP n b (by omega) hb
    have hs : qFst (qHeld U) (qLt P) (n + 1) b = qFst (qHeld U) (qLt P) n (if qHeld U (25 - n) = true then qStep (qLt P) (25 - n) b else b) := rfl
    rw [hs, g1, e_X11_firstOfTurning_60, if_pos (lt_suc2 hn)]
    have ihk := ih (some (25 - n)) (fun j e => by cases e; omega)
    have ihb := ih b hb
    rw [oI_s] at ihk
    unfold qHeld
    by_cases a : U (24 + (25 - n)) = 1
    · rw [if_pos (decide_eq_true a)]
      cases b with
      | none =>
        simp (maxSteps := 1000000) (disch := first | assumption | omega) only [x_rf, x_m, lt_bv_r, lt_bi_r, lt_bl_r, ↓r_ck, r_get, r_put, r_more, rM_h, rM_f, rM_x, rM_wf, rM_wx, rM_wh, lt_iN, lt_b1_0, lt_b1_1, x_if1, x_eq1, x_10, x_01, x_11, x_00, ↓reduceIte, r_nz, r_ar1L0, r_ar1L1, lt_n0_, lt_n1_, upd_s, upd_o, u2_eq, u2_n1, u2_n2, r_p1, r_p5, r_p6, r_p7, r_p9, r_p10, r_p11, r_p13, r_p19, r_p23, r_p26, r_p27, r_p32, r_p33, r_p34, r_ar1, r_ar9, r_ar10, r_ar11, r_ar12, r_ar13, r_ar14, r_ar15, r_ar16, r_ar17, r_ar18, r_ar19, r_ar74, r_ar75, r_ar76, n2_, n4_, n12_, n24_, n28_, n50_, n54_, n76_, n80_, n102_, n128_, n154_, n180_, n206_, n232_, n258_, n284_, n310_, n336_, n362_, n380_, n680_, r_get0, r_get1, r_get2, r_get3, r_get4, r_get8, r_get9, r_get10, r_get11, r_get12, r_get13, r_put0, r_put1, r_put2, r_put3, r_put4, r_put5, r_put6, r_put7, r_put8, r_put9, r_put10, r_put11, r_more10, r_more12, r_more13, r_more14, r_more15, r_more16, r_more17, r_more18, r_more19, r_more20, r_holds2, g2, a, oI_n]
        exact ihk
      | some j =>
        have hj := hb j rfl
        have hne : (nI j = -1) = False := nI_ne1 (by omega)
        rw [oI_s] at ihb
        rw [oI_s]
        simp (maxSteps := 1000000) (disch := first | assumption | omega) only [x_rf, x_m, lt_bv_r, lt_bi_r, lt_bl_r, ↓r_ck, r_get, r_put, r_more, rM_h, rM_f, rM_x, rM_wf, rM_wx, rM_wh, lt_iN, lt_b1_0, lt_b1_1, x_if1, x_eq1, x_10, x_01, x_11, x_00, ↓reduceIte, r_nz, r_ar1L0, r_ar1L1, lt_n0_, lt_n1_, upd_s, upd_o, u2_eq, u2_n1, u2_n2, r_p1, r_p5, r_p6, r_p7, r_p9, r_p10, r_p11, r_p13, r_p19, r_p23, r_p26, r_p27, r_p32, r_p33, r_p34, r_ar1, r_ar9, r_ar10, r_ar11, r_ar12, r_ar13, r_ar14, r_ar15, r_ar16, r_ar17, r_ar18, r_ar19, r_ar74, r_ar75, r_ar76, n2_, n4_, n12_, n24_, n28_, n50_, n54_, n76_, n80_, n102_, n128_, n154_, n180_, n206_, n232_, n258_, n284_, n310_, n336_, n362_, n380_, n680_, r_get0, r_get1, r_get2, r_get3, r_get4, r_get8, r_get9, r_get10, r_get11, r_get12, r_get13, r_put0, r_put1, r_put2, r_put3, r_put4, r_put5, r_put6, r_put7, r_put8, r_put9, r_put10, r_put11, r_more10, r_more12, r_more13, r_more14, r_more15, r_more16, r_more17, r_more18, r_more19, r_more20, r_holds2, g2, a, hP, hne]
        show _ = f_X11_firstOfTurning_60 (d + 3) (rM M o H (u1 V u U) X) o (nI u) (oI (qFst (qHeld U) (qLt P) n (if qLt P (25 - n) j = true then some (25 - n) else some j))) (nI 26)
        unfold qLt at ihk ihb ⊢
        by_cases q : P (25 - n) < P j
        · rw [if_pos q, if_pos (decide_eq_true q)]
          exact ihk
        · rw [if_neg q, if_neg (by rw [decide_eq_false q]; decide)]
          exact ihb
    · rw [if_neg (by rw [decide_eq_false a]; decide)]
      simp (maxSteps := 1000000) (disch := first | assumption | omega) only [x_rf, x_m, lt_bv_r, lt_bi_r, lt_bl_r, ↓r_ck, r_get, r_put, r_more, rM_h, rM_f, rM_x, rM_wf, rM_wx, rM_wh, lt_iN, lt_b1_0, lt_b1_1, x_if1, x_eq1, x_10, x_01, x_11, x_00, ↓reduceIte, r_nz, r_ar1L0, r_ar1L1, lt_n0_, lt_n1_, upd_s, upd_o, u2_eq, u2_n1, u2_n2, r_p1, r_p5, r_p6, r_p7, r_p9, r_p10, r_p11, r_p13, r_p19, r_p23, r_p26, r_p27, r_p32, r_p33, r_p34, r_ar1, r_ar9, r_ar10, r_ar11, r_ar12, r_ar13, r_ar14, r_ar15, r_ar16, r_ar17, r_ar18, r_ar19, r_ar74, r_ar75, r_ar76, n2_, n4_, n12_, n24_, n28_, n50_, n54_, n76_, n80_, n102_, n128_, n154_, n180_, n206_, n232_, n258_, n284_, n310_, n336_, n362_, n380_, n680_, r_get0, r_get1, r_get2, r_get3, r_get4, r_get8, r_get9, r_get10, r_get11, r_get12, r_get13, r_put0, r_put1, r_put2, r_put3, r_put4, r_put5, r_put6, r_put7, r_put8, r_put9, r_put10, r_put11, r_more10, r_more12, r_more13, r_more14, r_more15, r_more16, r_more17, r_more18, r_more19, r_more20, r_holds2, g2, a]
      exact ihb
theorem r_turn (d : Nat) (h : RA M o) (hu : u < 18) {can : Nat → Bool} : ∀ (n : Nat) (X : Nat → Nat → Int32) (P m : Nat → Int32) (st : Int32), (∀ k, k < 26 → X 9 k = bI (can k)) → (∀ k, k < 26 → X 10 k = P k) → (∀ k, k < 26 → X 11 k = m k) → X 0 8 = st →
    ∀ (f : Nat) (P' m' : Nat → Int32) (st' : Int32), qTurn U can n P m st = some (f, P', m', st') →
    ∃ X', XS X X' ∧ (∀ k, k < 26 → X' 10 k = P' k) ∧ (∀ k, k < 26 → X' 11 k = m' k) ∧ X' 0 8 = st' ∧ f < 26 ∧ f_X11_firstOfTurning_56 (d + 3) (rM M o H (u1 V u U) X) o (nI u) = some (.inl (some (.int (nI f))), rM M o H (u1 V u U) X')
  | 0, X, P, m, st, _, _, _, _ => fun _ _ _ _ e => by cases e
  | n + 1, X, P, m, st, hc, hP, hm, hst => by
    intro f P' m' st' e
    unfold qTurn at e
    have e60 := r_turn_60 (H := H) (V := V) (U := U) d h hu hP 26 none (Nat.le_refl _) (fun j e => by cases e)
    have e60' : f_X11_firstOfTurning_56 (d + 3) (rM M o H (u1 V u U) X) o (nI u) = f_X11_firstOfTurning_60 (d + 3) (rM M o H (u1 V u U) X) o (nI u) (oI (qMin U P)) (nI 26) := by
      rw [e_X11_firstOfTurning_56]
      exact e60
    have hlt : ∀ j, qMin U P = some j → j < 26 := qFst_lt 26 none (fun j e => by cases e)
    cases hq : qMin U P with
    | none => rw [hq] at e; cases e
    | some g =>
      rw [hq] at e
      have hg := hlt g hq
      dsimp only at e
      rw [hq, oI_s, e_X11_firstOfTurning_60, if_neg (by decide)] at e60'
      have c1 := hc g hg
      have p1 := hP g hg
      have m1 := hm g hg
      by_cases hcan : can g = true
      · by_cases hm0 : m g = 0
        · rw [if_pos ⟨hcan, hm0⟩] at e
          cases e
          refine ⟨X, XS.refl, hP, hm, hst, hg, e60'.trans ?_⟩
          simp (maxSteps := 1000000) (disch := first | assumption | omega) only [x_rf, x_m, lt_bv_r, lt_bi_r, lt_bl_r, ↓r_ck, r_get, r_put, r_more, rM_h, rM_f, rM_x, rM_wf, rM_wx, rM_wh, lt_iN, lt_b1_0, lt_b1_1, x_if1, x_eq1, x_10, x_01, x_11, x_00, ↓reduceIte, r_nz, r_ar1L0, r_ar1L1, lt_n0_, lt_n1_, upd_s, upd_o, u2_eq, u2_n1, u2_n2, r_p1, r_p5, r_p6, r_p7, r_p9, r_p10, r_p11, r_p13, r_p19, r_p23, r_p26, r_p27, r_p32, r_p33, r_p34, r_ar1, r_ar9, r_ar10, r_ar11, r_ar12, r_ar13, r_ar14, r_ar15, r_ar16, r_ar17, r_ar18, r_ar19, r_ar74, r_ar75, r_ar76, n2_, n4_, n12_, n24_, n28_, n50_, n54_, n76_, n80_, n102_, n128_, n154_, n180_, n206_, n232_, n258_, n284_, n310_, n336_, n362_, n380_, n680_, r_get0, r_get1, r_get2, r_get3, r_get4, r_get8, r_get9, r_get10, r_get11, r_get12, r_get13, r_put0, r_put1, r_put2, r_put3, r_put4, r_put5, r_put6, r_put7, r_put8, r_put9, r_put10, r_put11, r_more10, r_more12, r_more13, r_more14, r_more15, r_more16, r_more17, r_more18, r_more19, r_more20, c1, hcan, bI_t, m1, hm0]
        · rw [if_neg (fun q => hm0 q.2), if_pos hcan] at e
          obtain ⟨X', i1, i2, i3, i4, i5, i6⟩ := r_turn d h hu n (u2 (u2 (u2 X 11 g 0) 0 8 (st + 1)) 10 g (st + 1)) (upd P g (st + 1)) (upd m g 0) (st + 1)
            (fun k hk => by simp (disch := omega) only [u2_eq, u2_n1, u2_n2]; exact hc k hk)
            (fun k hk => by
              by_cases q : k = g
              · subst q
                rw [upd_s]
                simp (disch := omega) only [u2_eq, u2_n1, u2_n2]
              · rw [upd_o q]
                simp (disch := omega) only [u2_eq, u2_n1, u2_n2]
                exact hP k hk)
            (fun k hk => by
              by_cases q : k = g
              · subst q
                rw [upd_s]
                simp (disch := omega) only [u2_eq, u2_n1, u2_n2]
              · rw [upd_o q]
                simp (disch := omega) only [u2_eq, u2_n1, u2_n2]
                exact hm k hk)
            (by simp (disch := omega) only [u2_eq, u2_n1, u2_n2]) _ _ _ _ e
          refine ⟨X', (((XS.wr (by omega) (by omega)).trans XS.w8).trans (XS.wr (by omega) (by omega))).trans i1, i2, i3, i4, i5, e60'.trans ?_⟩
          simp (maxSteps := 1000000) (disch := first | assumption | omega) only [x_rf, x_m, lt_bv_r, lt_bi_r, lt_bl_r, ↓r_ck, r_get, r_put, r_more, rM_h, rM_f, rM_x, rM_wf, rM_wx, rM_wh, lt_iN, lt_b1_0, lt_b1_1, x_if1, x_eq1, x_10, x_01, x_11, x_00, ↓reduceIte, r_nz, r_ar1L0, r_ar1L1, lt_n0_, lt_n1_, upd_s, upd_o, u2_eq, u2_n1, u2_n2, r_p1, r_p5, r_p6, r_p7, r_p9, r_p10, r_p11, r_p13, r_p19, r_p23, r_p26, r_p27, r_p32, r_p33, r_p34, r_ar1, r_ar9, r_ar10, r_ar11, r_ar12, r_ar13, r_ar14, r_ar15, r_ar16, r_ar17, r_ar18, r_ar19, r_ar74, r_ar75, r_ar76, n2_, n4_, n12_, n24_, n28_, n50_, n54_, n76_, n80_, n102_, n128_, n154_, n180_, n206_, n232_, n258_, n284_, n310_, n336_, n362_, n380_, n680_, r_get0, r_get1, r_get2, r_get3, r_get4, r_get8, r_get9, r_get10, r_get11, r_get12, r_get13, r_put0, r_put1, r_put2, r_put3, r_put4, r_put5, r_put6, r_put7, r_put8, r_put9, r_put10, r_put11, r_more10, r_more12, r_more13, r_more14, r_more15, r_more16, r_more17, r_more18, r_more19, r_more20, c1, hcan, bI_t, m1, hm0, hst]
          exact i6
      · have hcf : can g = false := by simpa using hcan
        rw [if_neg (fun q => hcan q.1), if_neg hcan] at e
        obtain ⟨X', i1, i2, i3, i4, i5, i6⟩ := r_turn d h hu n (u2 (u2 X 0 8 (st + 1)) 10 g (st + 1)) (upd P g (st + 1)) m (st + 1)
            (fun k hk => by simp (disch := omega) only [u2_eq, u2_n1, u2_n2]; exact hc k hk)
            (fun k hk => by
              by_cases q : k = g
              · subst q
                rw [upd_s]
                simp (disch := omega) only [u2_eq, u2_n1, u2_n2]
              · rw [upd_o q]
                simp (disch := omega) only [u2_eq, u2_n1, u2_n2]
                exact hP k hk)
            (fun k hk => by simp (disch := omega) only [u2_eq, u2_n1, u2_n2]; exact hm k hk)
            (by simp (disch := omega) only [u2_eq, u2_n1, u2_n2]) _ _ _ _ e
        refine ⟨X', (XS.w8.trans (XS.wr (by omega) (by omega))).trans i1, i2, i3, i4, i5, e60'.trans ?_⟩
        simp (maxSteps := 1000000) (disch := first | assumption | omega) only [x_rf, x_m, lt_bv_r, lt_bi_r, lt_bl_r, ↓r_ck, r_get, r_put, r_more, rM_h, rM_f, rM_x, rM_wf, rM_wx, rM_wh, lt_iN, lt_b1_0, lt_b1_1, x_if1, x_eq1, x_10, x_01, x_11, x_00, ↓reduceIte, r_nz, r_ar1L0, r_ar1L1, lt_n0_, lt_n1_, upd_s, upd_o, u2_eq, u2_n1, u2_n2, r_p1, r_p5, r_p6, r_p7, r_p9, r_p10, r_p11, r_p13, r_p19, r_p23, r_p26, r_p27, r_p32, r_p33, r_p34, r_ar1, r_ar9, r_ar10, r_ar11, r_ar12, r_ar13, r_ar14, r_ar15, r_ar16, r_ar17, r_ar18, r_ar19, r_ar74, r_ar75, r_ar76, n2_, n4_, n12_, n24_, n28_, n50_, n54_, n76_, n80_, n102_, n128_, n154_, n180_, n206_, n232_, n258_, n284_, n310_, n336_, n362_, n380_, n680_, r_get0, r_get1, r_get2, r_get3, r_get4, r_get8, r_get9, r_get10, r_get11, r_get12, r_get13, r_put0, r_put1, r_put2, r_put3, r_put4, r_put5, r_put6, r_put7, r_put8, r_put9, r_put10, r_put11, r_more10, r_more12, r_more13, r_more14, r_more15, r_more16, r_more17, r_more18, r_more19, r_more20, c1, hcf, bI_f, hst]
        exact i6
theorem r_turning_2 (d : Nat) (h : RA M o) (hu : u < 18) : ∀ (n : Nat) (X : Nat → Nat → Int32), n ≤ 26 → (∀ k, k < 26 - n → X 10 k = U (102 + k) ∧ X 11 k = U (206 + k)) →
    ∃ X', XS X X' ∧ X' 9 = X 9 ∧ (∀ k, k < 26 → X' 10 k = U (102 + k)) ∧ (∀ k, k < 26 → X' 11 k = U (206 + k)) ∧ X' 0 8 = U 10 ∧ f_X11_firstOfTurning_2 (d + 2) (rM M o H (u1 V u U) X) o (nI u) (nI (26 - n)) = f_X11_firstOfTurning_56 (d + 2) (rM M o H (u1 V u U) X') o (nI u)
  | 0, X, _, hX => by
    refine ⟨u2 X 0 8 (U 10), XS.w8, u2_n1 (by omega), fun k hk => ?_, fun k hk => ?_, u2_eq, ?_⟩
    · simp (disch := omega) only [u2_eq, u2_n1, u2_n2]
      exact (hX k hk).1
    · simp (disch := omega) only [u2_eq, u2_n1, u2_n2]
      exact (hX k hk).2
    · rw [e_X11_firstOfTurning_2, if_neg lt_end]
      simp (maxSteps := 1000000) (disch := first | assumption | omega) only [x_rf, x_m, lt_bv_r, lt_bi_r, lt_bl_r, ↓r_ck, r_get, r_put, r_more, rM_h, rM_f, rM_x, rM_wf, rM_wx, rM_wh, lt_iN, lt_b1_0, lt_b1_1, x_if1, x_eq1, x_10, x_01, x_11, x_00, ↓reduceIte, r_nz, r_ar1L0, r_ar1L1, lt_n0_, lt_n1_, upd_s, upd_o, u2_eq, u2_n1, u2_n2, r_p1, r_p5, r_p6, r_p7, r_p9, r_p10, r_p11, r_p13, r_p19, r_p23, r_p26, r_p27, r_p32, r_p33, r_p34, r_ar1, r_ar9, r_ar10, r_ar11, r_ar12, r_ar13, r_ar14, r_ar15, r_ar16, r_ar17, r_ar18, r_ar19, r_ar74, r_ar75, r_ar76, n2_, n4_, n12_, n24_, n28_, n50_, n54_, n76_, n80_, n102_, n128_, n154_, n180_, n206_, n232_, n258_, n284_, n310_, n336_, n362_, n380_, n680_, r_get0, r_get1, r_get2, r_get3, r_get4, r_get8, r_get9, r_get10, r_get11, r_get12, r_get13, r_put0, r_put1, r_put2, r_put3, r_put4, r_put5, r_put6, r_put7, r_put8, r_put9, r_put10, r_put11, r_more10, r_more12, r_more13, r_more14, r_more15, r_more16, r_more17, r_more18, r_more19, r_more20]
  | n + 1, X, hn, hX => by
    obtain ⟨g1, g2, -⟩ := lt_suc hn
    have hk : 25 - n < 26 := by omega
    obtain ⟨X', i1, i2, i3, i4, i5, i6⟩ := r_turning_2 d h hu n (u2 (u2 X 10 (25 - n) (U (102 + (25 - n)))) 11 (25 - n) (U (206 + (25 - n)))) (by omega) (fun k hk => by
      by_cases e : k = 25 - n
      · subst e
        refine ⟨?_, ?_⟩ <;> simp (disch := omega) only [u2_eq, u2_n1, u2_n2]
      · have := hX k (by omega)
        simp (disch := omega) only [u2_eq, u2_n1, u2_n2]
        exact this)
    refine ⟨X', ((XS.wr (by omega) (by omega)).trans (XS.wr (by omega) (by omega))).trans i1, i2.trans (by simp (disch := omega) only [u2_eq, u2_n1, u2_n2]), i3, i4, i5, ?_⟩
    rw [g1, e_X11_firstOfTurning_2, if_pos (lt_suc2 hn)]
    simp (maxSteps := 1000000) (disch := first | assumption | omega) only [x_rf, x_m, lt_bv_r, lt_bi_r, lt_bl_r, ↓r_ck, r_get, r_put, r_more, rM_h, rM_f, rM_x, rM_wf, rM_wx, rM_wh, lt_iN, lt_b1_0, lt_b1_1, x_if1, x_eq1, x_10, x_01, x_11, x_00, ↓reduceIte, r_nz, r_ar1L0, r_ar1L1, lt_n0_, lt_n1_, upd_s, upd_o, u2_eq, u2_n1, u2_n2, r_p1, r_p5, r_p6, r_p7, r_p9, r_p10, r_p11, r_p13, r_p19, r_p23, r_p26, r_p27, r_p32, r_p33, r_p34, r_ar1, r_ar9, r_ar10, r_ar11, r_ar12, r_ar13, r_ar14, r_ar15, r_ar16, r_ar17, r_ar18, r_ar19, r_ar74, r_ar75, r_ar76, n2_, n4_, n12_, n24_, n28_, n50_, n54_, n76_, n80_, n102_, n128_, n154_, n180_, n206_, n232_, n258_, n284_, n310_, n336_, n362_, n380_, n680_, r_get0, r_get1, r_get2, r_get3, r_get4, r_get8, r_get9, r_get10, r_get11, r_get12, r_get13, r_put0, r_put1, r_put2, r_put3, r_put4, r_put5, r_put6, r_put7, r_put8, r_put9, r_put10, r_put11, r_more10, r_more12, r_more13, r_more14, r_more15, r_more16, r_more17, r_more18, r_more19, r_more20, g2, i6]
/-- the places and marks of the turning -/
theorem r_turning (d : Nat) (h : RA M o) (hu : u < 18) {can : Nat → Bool} (hc : ∀ k, k < 26 → X 9 k = bI (can k)) {n f : Nat} {P' m' : Nat → Int32} {st' : Int32} (e : qTurn U can n (fun k => U (102 + k)) (fun k => U (206 + k)) (U 10) = some (f, P', m', st')) :
    ∃ X', XS X X' ∧ (∀ k, k < 26 → X' 10 k = P' k) ∧ (∀ k, k < 26 → X' 11 k = m' k) ∧ X' 0 8 = st' ∧ f < 26 ∧ f_X11_firstOfTurning (d + 3) (rM M o H (u1 V u U) X) o (nI u) = some (.inl (some (.int (nI f))), rM M o H (u1 V u U) X') := by
  obtain ⟨X1, a1, a2, a3, a4, a5, a6⟩ := r_turning_2 (H := H) (V := V) (U := U) (d + 1) h hu 26 X (Nat.le_refl _) (fun k hk => by omega)
  obtain ⟨X2, b1, b2, b3, b4, b5, b6⟩ := r_turn (H := H) (V := V) (U := U) d h hu n X1 _ _ _ (fun k hk => by rw [a2]; exact hc k hk) a3 a4 a5 _ _ _ _ e
  refine ⟨X2, a1.trans b1, b2, b3, b4, b5, ?_⟩
  rw [e_X11_firstOfTurning]
  exact a6.trans b6
end Rl
