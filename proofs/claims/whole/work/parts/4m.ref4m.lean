/-! THE REFERENCE: the text read and done -/
/-- pieces up to the end or to the parenthesis that ends: how many requests, the place, the error; none: not in so many turns -/
def qPieces (T : Nat → Int32) (len : Nat) : Nat → Nat → Nat → Int32 → Int32 → Option (Int32 × Nat × Int32)
  | 0, _, _, _, _ => none
  | f + 1, deep, a, e, many =>
    if e = -1 then
      (let a1 := qSkip T len (len - a)
       if a1 = len ∨ T a1 = 41 then some (many, a1, e) else
       if T a1 < 97 ∨ 122 < T a1 then
         (if qDgt (T a1) = true then
           (let r := qNum T len a1 e
            if r.2.2 = -1 then
              (let a2 := qSkip T len (len - r.2.1)
               if qIs T len a2 40 = true ∧ deep ≠ 3 then
                 (match qPieces T len f (deep + 1) (a2 + 1) r.2.2 0 with
                  | none => none
                  | some (m, a3, e3) => if e3 = -1 then (if a3 = len then qPieces T len f deep (a3 + 1) (nI a3) (many + r.1 * m) else qPieces T len f deep (a3 + 1) e3 (many + r.1 * m)) else qPieces T len f deep a3 e3 (many + 0))
               else qPieces T len f deep a2 (nI a2) (many + 0))
            else qPieces T len f deep r.2.1 r.2.2 (many + 0))
          else qPieces T len f deep a1 (nI a1) many)
       else
         (let a2 := qSkip T len (len - (a1 + 1))
          qPieces T len f deep (if qIs T len a2 33 = true then a2 + 1 else a2) e (many + 1)))
    else some (many, a, e)
section Sd
variable {M M' : LM} {o i j k u w y f t n x m a len : Nat} {H : Nat → Int32} {V V' X : Nat → Nat → Int32} {T : Nat → Int32} {v b c e r a' e' many : Int32} {z : Option (LO × LM)} {kf fs : Nat → Nat}
theorem qIs_lt (h : qIs T len a c = true) : a < len ∧ T a = c := by
  unfold qIs at h
  obtain ⟨h1, h2⟩ := Bool.and_eq_true_iff.mp h
  exact ⟨of_decide_eq_true h1, of_decide_eq_true h2⟩
theorem qNum_le (ha : a ≤ len) : (qNum T len a e).2.1 ≤ len := by
  have := qDigs_le (T := T) (len := len) (len - a) 0
  unfold qNum
  dsimp only
  split
  · exact this
  · split <;> exact this
theorem nI_eq1 {a b : Nat} (ha : a ≤ 400) (hb : b ≤ 400) : (nI a = nI b) = (a = b) := nI_inj (by omega) (by omega)
theorem r_pieces (h : RA M o) (hl : len ≤ 200) (h20 : X 0 20 = nI len) : ∀ (f deep j d a : Nat) (e many : Int32), deep + j = 3 → (e = -1 → a ≤ len) → ∀ (many' : Int32) (a' : Nat) (e' : Int32), qPieces (X 16) len f deep a e many = some (many', a', e') →
    f_X11_piecesIn_2 (d + 3 * j + 6) (rM M o H V (pX X (nI a) e)) o (nI deep) many = some (.inl (some (.int many')), rM M o H V (pX X (nI a') e')) ∧ (e' = -1 → a' ≤ len)
  | 0, _, _, _, _, _, _, _, _ => fun _ _ _ q => by cases q
  | f + 1, deep, j, d, a, e, many, hj, ha => fun many' a' e' q => by
    have ih := r_pieces h hl h20 f
    unfold qPieces at q
    by_cases he : e = -1
    · subst he
      rw [if_pos rfl] at q
      have hal := ha rfl
      have hsl := qSkip_le (T := X 16) (len := len) (len - a)
      have e1 := r_isNext (M := M) (o := o) (H := H) (V := V) (X := X) (a := a) (e := -1) (c := 41) (d + 3 * j + 4) h hl h20 hal
      rw [e_X11_piecesIn_2]
      dsimp only at q
      generalize hA : qSkip (X 16) len (len - a) = a1 at q e1 hsl
      have hq41 : qIs (X 16) len a1 41 = (decide (a1 < len) && decide (X 16 a1 = 41)) := rfl
      by_cases c1 : a1 = len
      · rw [if_pos (Or.inl c1)] at q
        cases q
        refine ⟨?_, fun _ => hsl⟩
        simp (maxSteps := 1000000) (disch := first | assumption | omega) only [x_rf, x_m, lt_bv_r, lt_bi_r, lt_bl_r, ↓r_ck, r_get, r_put, r_more, rM_h, rM_f, rM_x, rM_wf, rM_wx, rM_wh, lt_iN, lt_b1_0, lt_b1_1, x_if1, x_eq1, x_10, x_01, x_11, x_00, ↓reduceIte, r_nz, r_ar1L0, r_ar1L1, lt_n0_, lt_n1_, upd_s, upd_o, u2_eq, u2_n1, u2_n2, r_p1, r_p5, r_p6, r_p7, r_p9, r_p10, r_p11, r_p13, r_p19, r_p23, r_p26, r_p27, r_p32, r_p33, r_p34, r_ar1, r_ar9, r_ar10, r_ar11, r_ar12, r_ar13, r_ar14, r_ar15, r_ar16, r_ar17, r_ar18, r_ar19, r_ar74, r_ar75, r_ar76, n2_, n4_, n12_, n24_, n28_, n50_, n54_, n76_, n80_, n102_, n128_, n154_, n180_, n206_, n232_, n258_, n284_, n310_, n336_, n362_, n380_, n680_, r_get0, r_get1, r_get2, r_get3, r_get4, r_get8, r_get9, r_get10, r_get11, r_get12, r_get13, r_put0, r_put1, r_put2, r_put3, r_put4, r_put5, r_put6, r_put7, r_put8, r_put9, r_put10, r_put11, r_more10, r_more12, r_more13, r_more14, r_more15, r_more16, r_more17, r_more18, r_more19, r_more20, p22, e1, p21, p20, h20]
        rw [c1]
        simp
      · have c1' : (nI a1 = nI len) = False := eq_false (fun q => c1 ((lt_iE (by omega) (by omega)).mp q))
        have hlt : a1 < len := by omega
        by_cases c2 : X 16 a1 = 41
        · rw [if_pos (Or.inr c2)] at q
          have hq41' : qIs (X 16) len a1 41 = true := by rw [hq41, decide_eq_true hlt, decide_eq_true c2]; rfl
          cases q
          refine ⟨?_, fun _ => hsl⟩
          simp (maxSteps := 1000000) (disch := first | assumption | omega) only [x_rf, x_m, lt_bv_r, lt_bi_r, lt_bl_r, ↓r_ck, r_get, r_put, r_more, rM_h, rM_f, rM_x, rM_wf, rM_wx, rM_wh, lt_iN, lt_b1_0, lt_b1_1, x_if1, x_eq1, x_10, x_01, x_11, x_00, ↓reduceIte, r_nz, r_ar1L0, r_ar1L1, lt_n0_, lt_n1_, upd_s, upd_o, u2_eq, u2_n1, u2_n2, r_p1, r_p5, r_p6, r_p7, r_p9, r_p10, r_p11, r_p13, r_p19, r_p23, r_p26, r_p27, r_p32, r_p33, r_p34, r_ar1, r_ar9, r_ar10, r_ar11, r_ar12, r_ar13, r_ar14, r_ar15, r_ar16, r_ar17, r_ar18, r_ar19, r_ar74, r_ar75, r_ar76, n2_, n4_, n12_, n24_, n28_, n50_, n54_, n76_, n80_, n102_, n128_, n154_, n180_, n206_, n232_, n258_, n284_, n310_, n336_, n362_, n380_, n680_, r_get0, r_get1, r_get2, r_get3, r_get4, r_get8, r_get9, r_get10, r_get11, r_get12, r_get13, r_put0, r_put1, r_put2, r_put3, r_put4, r_put5, r_put6, r_put7, r_put8, r_put9, r_put10, r_put11, r_more10, r_more12, r_more13, r_more14, r_more15, r_more16, r_more17, r_more18, r_more19, r_more20, p22, e1, p21, p20, h20, c1', hq41', bI_t]
        · rw [if_neg (fun q => q.elim c1 c2)] at q
          have hq41' : qIs (X 16) len a1 41 = false := by rw [hq41, decide_eq_false c2, Bool.and_false]
          -- not a letter
          have notl : (X 16 a1 < 97 ∨ 122 < X 16 a1) → ((if qDgt (X 16 a1) = true then
               (let r := qNum (X 16) len a1 (-1)
                if r.2.2 = -1 then
                  (let a2 := qSkip (X 16) len (len - r.2.1)
                   if qIs (X 16) len a2 40 = true ∧ deep ≠ 3 then
                     (match qPieces (X 16) len f (deep + 1) (a2 + 1) r.2.2 0 with
                      | none => none
                      | some (m, a3, e3) => if e3 = -1 then (if a3 = len then qPieces (X 16) len f deep (a3 + 1) (nI a3) (many + r.1 * m) else qPieces (X 16) len f deep (a3 + 1) e3 (many + r.1 * m)) else qPieces (X 16) len f deep a3 e3 (many + 0))
                   else qPieces (X 16) len f deep a2 (nI a2) (many + 0))
                else qPieces (X 16) len f deep r.2.1 r.2.2 (many + 0))
              else qPieces (X 16) len f deep a1 (nI a1) many) = some (many', a', e')) →
              (if qDgt (X 16 a1) = true then lt_bi (f_X11_timesOver (d + 3 * j + 5) (rM M o H V (pX X (nI a1) (-1))) o (nI deep)) [] (fun v8 M7 => f_X11_piecesIn_2 (d + 3 * j + 6) M7 o (nI deep) (many + v8)) else f_X11_piecesIn_2 (d + 3 * j + 6) (rM M o H V (pX X (nI a1) (nI a1))) o (nI deep) many) = some (.inl (some (.int many')), rM M o H V (pX X (nI a') e')) ∧ (e' = -1 → a' ≤ len) := by
            intro _ q
            by_cases hd : qDgt (X 16 a1) = true
            · rw [if_pos hd] at q ⊢
              dsimp only at q
              have et := r_times (M := M) (o := o) (H := H) (V := V) (X := X) (a := a1) (e := -1) (d + 3 * j + 2) h hl h20 hsl
              have hnl := qNum_le (T := X 16) (len := len) (a := a1) (e := -1) hsl
              generalize qNum (X 16) len a1 (-1) = r at q et hnl
              rw [e_X11_timesOver]
              by_cases hr : r.2.2 = -1
              · rw [if_pos hr] at q
                have hsl2 := qSkip_le (T := X 16) (len := len) (len - r.2.1)
                have e2 := r_isNext (M := M) (o := o) (H := H) (V := V) (X := X) (a := r.2.1) (e := -1) (c := 40) (d + 3 * j + 3) h hl h20 hnl
                rw [hr] at et q
                generalize qSkip (X 16) len (len - r.2.1) = a2 at q e2 hsl2
                by_cases hc : qIs (X 16) len a2 40 = true ∧ deep ≠ 3
                · rw [if_pos hc] at q
                  have hd3 : (nI deep = (3 : Int32)) = False := eq_false (fun q => hc.2 ((lt_iE (j := deep) (k := 3) (by omega) (by omega)).mp q))
                  have ha2 := (qIs_lt hc.1).1
                  have hs2 : nI a2 + 1 = nI (a2 + 1) := lt_iA (j := a2) (k := 1)
                  have hs3 : nI deep + 1 = nI (deep + 1) := lt_iA (j := deep) (k := 1)
                  obtain ⟨j', rfl⟩ : ∃ j', j = j' + 1 := ⟨j - 1, by omega⟩
                  split at q
                  · cases q
                  · rename_i m3 a3 e3 h3
                    obtain ⟨i1, i2⟩ := ih (deep + 1) j' (d + 1) (a2 + 1) (-1) 0 (by omega) (fun _ => by omega) m3 a3 e3 h3
                    have i1' : f_X11_piecesIn (d + 3 * (j' + 1) + 4) (rM M o H V (pX X (nI (a2 + 1)) (-1))) o (nI (deep + 1)) = some (.inl (some (.int m3)), rM M o H V (pX X (nI a3) e3)) := by
                      rw [e_X11_piecesIn, ← i1]
                      congr 1
                      omega
                    have hs4 : nI a3 + 1 = nI (a3 + 1) := lt_iA (j := a3) (k := 1)
                    by_cases h3e : e3 = -1
                    · rw [if_pos h3e] at q
                      subst h3e
                      have ha3 := i2 rfl
                      by_cases h3l : a3 = len
                      · rw [if_pos h3l] at q
                        have hne : nI a3 ≠ -1 := by rw [ne_eq, nI_ne1 (by omega)]; exact id
                        obtain ⟨k1, k2⟩ := ih deep (j' + 1) d (a3 + 1) (nI a3) (many + r.1 * m3) hj (fun q => absurd q hne) many' a' e' q
                        refine ⟨?_, k2⟩
                        have h3l' : (nI a3 = nI len) = True := eq_true (by rw [h3l])
                        simp (maxSteps := 1000000) (disch := first | assumption | omega) only [x_rf, x_m, lt_bv_r, lt_bi_r, lt_bl_r, ↓r_ck, r_get, r_put, r_more, rM_h, rM_f, rM_x, rM_wf, rM_wx, rM_wh, lt_iN, lt_b1_0, lt_b1_1, x_if1, x_eq1, x_10, x_01, x_11, x_00, ↓reduceIte, r_nz, r_ar1L0, r_ar1L1, lt_n0_, lt_n1_, upd_s, upd_o, u2_eq, u2_n1, u2_n2, r_p1, r_p5, r_p6, r_p7, r_p9, r_p10, r_p11, r_p13, r_p19, r_p23, r_p26, r_p27, r_p32, r_p33, r_p34, r_ar1, r_ar9, r_ar10, r_ar11, r_ar12, r_ar13, r_ar14, r_ar15, r_ar16, r_ar17, r_ar18, r_ar19, r_ar74, r_ar75, r_ar76, n2_, n4_, n12_, n24_, n28_, n50_, n54_, n76_, n80_, n102_, n128_, n154_, n180_, n206_, n232_, n258_, n284_, n310_, n336_, n362_, n380_, n680_, r_get0, r_get1, r_get2, r_get3, r_get4, r_get8, r_get9, r_get10, r_get11, r_get12, r_get13, r_put0, r_put1, r_put2, r_put3, r_put4, r_put5, r_put6, r_put7, r_put8, r_put9, r_put10, r_put11, r_more10, r_more12, r_more13, r_more14, r_more15, r_more16, r_more17, r_more18, r_more19, r_more20, et, p22, e2, hc.1, bI_t, hd3, p21, pw21, hs2, hs3, i1', p20, h20, h3l', pw22, hs4]
                        exact k1
                      · rw [if_neg h3l] at q
                        obtain ⟨k1, k2⟩ := ih deep (j' + 1) d (a3 + 1) (-1) (many + r.1 * m3) hj (fun _ => by omega) many' a' e' q
                        refine ⟨?_, k2⟩
                        have h3l' : (nI a3 = nI len) = False := eq_false (fun q => h3l ((lt_iE (by omega) (by omega)).mp q))
                        simp (maxSteps := 1000000) (disch := first | assumption | omega) only [x_rf, x_m, lt_bv_r, lt_bi_r, lt_bl_r, ↓r_ck, r_get, r_put, r_more, rM_h, rM_f, rM_x, rM_wf, rM_wx, rM_wh, lt_iN, lt_b1_0, lt_b1_1, x_if1, x_eq1, x_10, x_01, x_11, x_00, ↓reduceIte, r_nz, r_ar1L0, r_ar1L1, lt_n0_, lt_n1_, upd_s, upd_o, u2_eq, u2_n1, u2_n2, r_p1, r_p5, r_p6, r_p7, r_p9, r_p10, r_p11, r_p13, r_p19, r_p23, r_p26, r_p27, r_p32, r_p33, r_p34, r_ar1, r_ar9, r_ar10, r_ar11, r_ar12, r_ar13, r_ar14, r_ar15, r_ar16, r_ar17, r_ar18, r_ar19, r_ar74, r_ar75, r_ar76, n2_, n4_, n12_, n24_, n28_, n50_, n54_, n76_, n80_, n102_, n128_, n154_, n180_, n206_, n232_, n258_, n284_, n310_, n336_, n362_, n380_, n680_, r_get0, r_get1, r_get2, r_get3, r_get4, r_get8, r_get9, r_get10, r_get11, r_get12, r_get13, r_put0, r_put1, r_put2, r_put3, r_put4, r_put5, r_put6, r_put7, r_put8, r_put9, r_put10, r_put11, r_more10, r_more12, r_more13, r_more14, r_more15, r_more16, r_more17, r_more18, r_more19, r_more20, et, p22, e2, hc.1, bI_t, hd3, p21, pw21, hs2, hs3, i1', p20, h20, h3l', pw22, hs4]
                        exact k1
                    · rw [if_neg h3e] at q
                      obtain ⟨k1, k2⟩ := ih deep (j' + 1) d a3 e3 (many + 0) hj (fun q => absurd q h3e) many' a' e' q
                      refine ⟨?_, k2⟩
                      simp (maxSteps := 1000000) (disch := first | assumption | omega) only [x_rf, x_m, lt_bv_r, lt_bi_r, lt_bl_r, ↓r_ck, r_get, r_put, r_more, rM_h, rM_f, rM_x, rM_wf, rM_wx, rM_wh, lt_iN, lt_b1_0, lt_b1_1, x_if1, x_eq1, x_10, x_01, x_11, x_00, ↓reduceIte, r_nz, r_ar1L0, r_ar1L1, lt_n0_, lt_n1_, upd_s, upd_o, u2_eq, u2_n1, u2_n2, r_p1, r_p5, r_p6, r_p7, r_p9, r_p10, r_p11, r_p13, r_p19, r_p23, r_p26, r_p27, r_p32, r_p33, r_p34, r_ar1, r_ar9, r_ar10, r_ar11, r_ar12, r_ar13, r_ar14, r_ar15, r_ar16, r_ar17, r_ar18, r_ar19, r_ar74, r_ar75, r_ar76, n2_, n4_, n12_, n24_, n28_, n50_, n54_, n76_, n80_, n102_, n128_, n154_, n180_, n206_, n232_, n258_, n284_, n310_, n336_, n362_, n380_, n680_, r_get0, r_get1, r_get2, r_get3, r_get4, r_get8, r_get9, r_get10, r_get11, r_get12, r_get13, r_put0, r_put1, r_put2, r_put3, r_put4, r_put5, r_put6, r_put7, r_put8, r_put9, r_put10, r_put11, r_more10, r_more12, r_more13, r_more14, r_more15, r_more16, r_more17, r_more18, r_more19, r_more20, et, p22, e2, hc.1, bI_t, hd3, p21, pw21, hs2, hs3, i1', h3e]
                      exact k1
                · rw [if_neg hc] at q
                  have hne : nI a2 ≠ -1 := by rw [ne_eq, nI_ne1 (by omega)]; exact id
                  obtain ⟨k1, k2⟩ := ih deep j d a2 (nI a2) (many + 0) hj (fun q => absurd q hne) many' a' e' q
                  refine ⟨?_, k2⟩
                  by_cases hc1 : qIs (X 16) len a2 40 = true
                  · have hd3 : deep = 3 := by
                      by_cases q3 : deep = 3
                      · exact q3
                      · exact absurd ⟨hc1, q3⟩ hc
                    have hd3' : (nI deep = (3 : Int32)) = True := eq_true (by rw [hd3]; rfl)
                    simp (maxSteps := 1000000) (disch := first | assumption | omega) only [x_rf, x_m, lt_bv_r, lt_bi_r, lt_bl_r, ↓r_ck, r_get, r_put, r_more, rM_h, rM_f, rM_x, rM_wf, rM_wx, rM_wh, lt_iN, lt_b1_0, lt_b1_1, x_if1, x_eq1, x_10, x_01, x_11, x_00, ↓reduceIte, r_nz, r_ar1L0, r_ar1L1, lt_n0_, lt_n1_, upd_s, upd_o, u2_eq, u2_n1, u2_n2, r_p1, r_p5, r_p6, r_p7, r_p9, r_p10, r_p11, r_p13, r_p19, r_p23, r_p26, r_p27, r_p32, r_p33, r_p34, r_ar1, r_ar9, r_ar10, r_ar11, r_ar12, r_ar13, r_ar14, r_ar15, r_ar16, r_ar17, r_ar18, r_ar19, r_ar74, r_ar75, r_ar76, n2_, n4_, n12_, n24_, n28_, n50_, n54_, n76_, n80_, n102_, n128_, n154_, n180_, n206_, n232_, n258_, n284_, n310_, n336_, n362_, n380_, n680_, r_get0, r_get1, r_get2, r_get3, r_get4, r_get8, r_get9, r_get10, r_get11, r_get12, r_get13, r_put0, r_put1, r_put2, r_put3, r_put4, r_put5, r_put6, r_put7, r_put8, r_put9, r_put10, r_put11, r_more10, r_more12, r_more13, r_more14, r_more15, r_more16, r_more17, r_more18, r_more19, r_more20, et, p22, e2, hc1, bI_t, hd3', p21, pw22]
                    exact k1
                  · have hc1' : qIs (X 16) len a2 40 = false := by simpa using hc1
                    simp (maxSteps := 1000000) (disch := first | assumption | omega) only [x_rf, x_m, lt_bv_r, lt_bi_r, lt_bl_r, ↓r_ck, r_get, r_put, r_more, rM_h, rM_f, rM_x, rM_wf, rM_wx, rM_wh, lt_iN, lt_b1_0, lt_b1_1, x_if1, x_eq1, x_10, x_01, x_11, x_00, ↓reduceIte, r_nz, r_ar1L0, r_ar1L1, lt_n0_, lt_n1_, upd_s, upd_o, u2_eq, u2_n1, u2_n2, r_p1, r_p5, r_p6, r_p7, r_p9, r_p10, r_p11, r_p13, r_p19, r_p23, r_p26, r_p27, r_p32, r_p33, r_p34, r_ar1, r_ar9, r_ar10, r_ar11, r_ar12, r_ar13, r_ar14, r_ar15, r_ar16, r_ar17, r_ar18, r_ar19, r_ar74, r_ar75, r_ar76, n2_, n4_, n12_, n24_, n28_, n50_, n54_, n76_, n80_, n102_, n128_, n154_, n180_, n206_, n232_, n258_, n284_, n310_, n336_, n362_, n380_, n680_, r_get0, r_get1, r_get2, r_get3, r_get4, r_get8, r_get9, r_get10, r_get11, r_get12, r_get13, r_put0, r_put1, r_put2, r_put3, r_put4, r_put5, r_put6, r_put7, r_put8, r_put9, r_put10, r_put11, r_more10, r_more12, r_more13, r_more14, r_more15, r_more16, r_more17, r_more18, r_more19, r_more20, et, p22, e2, hc1', bI_f, p21, pw22]
                    exact k1
              · rw [if_neg hr] at q
                obtain ⟨k1, k2⟩ := ih deep j d r.2.1 r.2.2 (many + 0) hj (fun q => absurd q hr) many' a' e' q
                refine ⟨?_, k2⟩
                simp (maxSteps := 1000000) (disch := first | assumption | omega) only [x_rf, x_m, lt_bv_r, lt_bi_r, lt_bl_r, ↓r_ck, r_get, r_put, r_more, rM_h, rM_f, rM_x, rM_wf, rM_wx, rM_wh, lt_iN, lt_b1_0, lt_b1_1, x_if1, x_eq1, x_10, x_01, x_11, x_00, ↓reduceIte, r_nz, r_ar1L0, r_ar1L1, lt_n0_, lt_n1_, upd_s, upd_o, u2_eq, u2_n1, u2_n2, r_p1, r_p5, r_p6, r_p7, r_p9, r_p10, r_p11, r_p13, r_p19, r_p23, r_p26, r_p27, r_p32, r_p33, r_p34, r_ar1, r_ar9, r_ar10, r_ar11, r_ar12, r_ar13, r_ar14, r_ar15, r_ar16, r_ar17, r_ar18, r_ar19, r_ar74, r_ar75, r_ar76, n2_, n4_, n12_, n24_, n28_, n50_, n54_, n76_, n80_, n102_, n128_, n154_, n180_, n206_, n232_, n258_, n284_, n310_, n336_, n362_, n380_, n680_, r_get0, r_get1, r_get2, r_get3, r_get4, r_get8, r_get9, r_get10, r_get11, r_get12, r_get13, r_put0, r_put1, r_put2, r_put3, r_put4, r_put5, r_put6, r_put7, r_put8, r_put9, r_put10, r_put11, r_more10, r_more12, r_more13, r_more14, r_more15, r_more16, r_more17, r_more18, r_more19, r_more20, et, p22, hr]
                exact k1
            · rw [if_neg hd] at q ⊢
              have hne : nI a1 ≠ -1 := by rw [ne_eq, nI_ne1 (by omega)]; exact id
              exact ih deep j d a1 (nI a1) many hj (fun q => absurd q hne) many' a' e' q
          by_cases l1 : X 16 a1 < 97
          · rw [if_pos (Or.inl l1)] at q
            obtain ⟨k1, k2⟩ := notl (Or.inl l1) q
            refine ⟨?_, k2⟩
            simp (maxSteps := 1000000) (disch := first | assumption | omega) only [x_rf, x_m, lt_bv_r, lt_bi_r, lt_bl_r, ↓r_ck, r_get, r_put, r_more, rM_h, rM_f, rM_x, rM_wf, rM_wx, rM_wh, lt_iN, lt_b1_0, lt_b1_1, x_if1, x_eq1, x_10, x_01, x_11, x_00, ↓reduceIte, r_nz, r_ar1L0, r_ar1L1, lt_n0_, lt_n1_, upd_s, upd_o, u2_eq, u2_n1, u2_n2, r_p1, r_p5, r_p6, r_p7, r_p9, r_p10, r_p11, r_p13, r_p19, r_p23, r_p26, r_p27, r_p32, r_p33, r_p34, r_ar1, r_ar9, r_ar10, r_ar11, r_ar12, r_ar13, r_ar14, r_ar15, r_ar16, r_ar17, r_ar18, r_ar19, r_ar74, r_ar75, r_ar76, n2_, n4_, n12_, n24_, n28_, n50_, n54_, n76_, n80_, n102_, n128_, n154_, n180_, n206_, n232_, n258_, n284_, n310_, n336_, n362_, n380_, n680_, r_get0, r_get1, r_get2, r_get3, r_get4, r_get8, r_get9, r_get10, r_get11, r_get12, r_get13, r_put0, r_put1, r_put2, r_put3, r_put4, r_put5, r_put6, r_put7, r_put8, r_put9, r_put10, r_put11, r_more10, r_more12, r_more13, r_more14, r_more15, r_more16, r_more17, r_more18, r_more19, r_more20, p22, e1, p21, p20, p16, h20, c1', hq41', bI_f, l1, r_isDigit, bI0, pw22]
            rw [← k1]
          · by_cases l2 : 122 < X 16 a1
            · rw [if_pos (Or.inr l2)] at q
              obtain ⟨k1, k2⟩ := notl (Or.inr l2) q
              refine ⟨?_, k2⟩
              simp (maxSteps := 1000000) (disch := first | assumption | omega) only [x_rf, x_m, lt_bv_r, lt_bi_r, lt_bl_r, ↓r_ck, r_get, r_put, r_more, rM_h, rM_f, rM_x, rM_wf, rM_wx, rM_wh, lt_iN, lt_b1_0, lt_b1_1, x_if1, x_eq1, x_10, x_01, x_11, x_00, ↓reduceIte, r_nz, r_ar1L0, r_ar1L1, lt_n0_, lt_n1_, upd_s, upd_o, u2_eq, u2_n1, u2_n2, r_p1, r_p5, r_p6, r_p7, r_p9, r_p10, r_p11, r_p13, r_p19, r_p23, r_p26, r_p27, r_p32, r_p33, r_p34, r_ar1, r_ar9, r_ar10, r_ar11, r_ar12, r_ar13, r_ar14, r_ar15, r_ar16, r_ar17, r_ar18, r_ar19, r_ar74, r_ar75, r_ar76, n2_, n4_, n12_, n24_, n28_, n50_, n54_, n76_, n80_, n102_, n128_, n154_, n180_, n206_, n232_, n258_, n284_, n310_, n336_, n362_, n380_, n680_, r_get0, r_get1, r_get2, r_get3, r_get4, r_get8, r_get9, r_get10, r_get11, r_get12, r_get13, r_put0, r_put1, r_put2, r_put3, r_put4, r_put5, r_put6, r_put7, r_put8, r_put9, r_put10, r_put11, r_more10, r_more12, r_more13, r_more14, r_more15, r_more16, r_more17, r_more18, r_more19, r_more20, p22, e1, p21, p20, p16, h20, c1', hq41', bI_f, l1, l2, r_isDigit, bI0, pw22]
              rw [← k1]
            · rw [if_neg (fun q => q.elim l1 l2)] at q
              have hs1 : nI a1 + 1 = nI (a1 + 1) := lt_iA (j := a1) (k := 1)
              have hsl2 := qSkip_le (T := X 16) (len := len) (len - (a1 + 1))
              have e2 := r_isNext (M := M) (o := o) (H := H) (V := V) (X := X) (a := a1 + 1) (e := -1) (c := 33) (d + 3 * j + 4) h hl h20 (by omega)
              generalize qSkip (X 16) len (len - (a1 + 1)) = a2 at q e2 hsl2
              have hs2 : nI a2 + 1 = nI (a2 + 1) := lt_iA (j := a2) (k := 1)
              by_cases hx : qIs (X 16) len a2 33 = true
              · have ha2 := (qIs_lt hx).1
                rw [if_pos hx] at q
                obtain ⟨k1, k2⟩ := ih deep j d (a2 + 1) (-1) (many + 1) hj (fun _ => by omega) many' a' e' q
                refine ⟨?_, k2⟩
                simp (maxSteps := 1000000) (disch := first | assumption | omega) only [x_rf, x_m, lt_bv_r, lt_bi_r, lt_bl_r, ↓r_ck, r_get, r_put, r_more, rM_h, rM_f, rM_x, rM_wf, rM_wx, rM_wh, lt_iN, lt_b1_0, lt_b1_1, x_if1, x_eq1, x_10, x_01, x_11, x_00, ↓reduceIte, r_nz, r_ar1L0, r_ar1L1, lt_n0_, lt_n1_, upd_s, upd_o, u2_eq, u2_n1, u2_n2, r_p1, r_p5, r_p6, r_p7, r_p9, r_p10, r_p11, r_p13, r_p19, r_p23, r_p26, r_p27, r_p32, r_p33, r_p34, r_ar1, r_ar9, r_ar10, r_ar11, r_ar12, r_ar13, r_ar14, r_ar15, r_ar16, r_ar17, r_ar18, r_ar19, r_ar74, r_ar75, r_ar76, n2_, n4_, n12_, n24_, n28_, n50_, n54_, n76_, n80_, n102_, n128_, n154_, n180_, n206_, n232_, n258_, n284_, n310_, n336_, n362_, n380_, n680_, r_get0, r_get1, r_get2, r_get3, r_get4, r_get8, r_get9, r_get10, r_get11, r_get12, r_get13, r_put0, r_put1, r_put2, r_put3, r_put4, r_put5, r_put6, r_put7, r_put8, r_put9, r_put10, r_put11, r_more10, r_more12, r_more13, r_more14, r_more15, r_more16, r_more17, r_more18, r_more19, r_more20, p22, e1, p21, p20, p16, h20, c1', hq41', bI_f, l1, l2, pw21, hs1, e2, hx, bI_t, hs2]
                exact k1
              · rw [if_neg hx] at q
                have hx' : qIs (X 16) len a2 33 = false := by simpa using hx
                obtain ⟨k1, k2⟩ := ih deep j d a2 (-1) (many + 1) hj (fun _ => hsl2) many' a' e' q
                refine ⟨?_, k2⟩
                simp (maxSteps := 1000000) (disch := first | assumption | omega) only [x_rf, x_m, lt_bv_r, lt_bi_r, lt_bl_r, ↓r_ck, r_get, r_put, r_more, rM_h, rM_f, rM_x, rM_wf, rM_wx, rM_wh, lt_iN, lt_b1_0, lt_b1_1, x_if1, x_eq1, x_10, x_01, x_11, x_00, ↓reduceIte, r_nz, r_ar1L0, r_ar1L1, lt_n0_, lt_n1_, upd_s, upd_o, u2_eq, u2_n1, u2_n2, r_p1, r_p5, r_p6, r_p7, r_p9, r_p10, r_p11, r_p13, r_p19, r_p23, r_p26, r_p27, r_p32, r_p33, r_p34, r_ar1, r_ar9, r_ar10, r_ar11, r_ar12, r_ar13, r_ar14, r_ar15, r_ar16, r_ar17, r_ar18, r_ar19, r_ar74, r_ar75, r_ar76, n2_, n4_, n12_, n24_, n28_, n50_, n54_, n76_, n80_, n102_, n128_, n154_, n180_, n206_, n232_, n258_, n284_, n310_, n336_, n362_, n380_, n680_, r_get0, r_get1, r_get2, r_get3, r_get4, r_get8, r_get9, r_get10, r_get11, r_get12, r_get13, r_put0, r_put1, r_put2, r_put3, r_put4, r_put5, r_put6, r_put7, r_put8, r_put9, r_put10, r_put11, r_more10, r_more12, r_more13, r_more14, r_more15, r_more16, r_more17, r_more18, r_more19, r_more20, p22, e1, p21, p20, p16, h20, c1', hq41', bI_f, l1, l2, pw21, hs1, e2, hx']
                exact k1
    · rw [if_neg he] at q
      cases q
      refine ⟨?_, fun q => absurd q he⟩
      rw [e_X11_piecesIn_2]
      simp (maxSteps := 1000000) (disch := first | assumption | omega) only [x_rf, x_m, lt_bv_r, lt_bi_r, lt_bl_r, ↓r_ck, r_get, r_put, r_more, rM_h, rM_f, rM_x, rM_wf, rM_wx, rM_wh, lt_iN, lt_b1_0, lt_b1_1, x_if1, x_eq1, x_10, x_01, x_11, x_00, ↓reduceIte, r_nz, r_ar1L0, r_ar1L1, lt_n0_, lt_n1_, upd_s, upd_o, u2_eq, u2_n1, u2_n2, r_p1, r_p5, r_p6, r_p7, r_p9, r_p10, r_p11, r_p13, r_p19, r_p23, r_p26, r_p27, r_p32, r_p33, r_p34, r_ar1, r_ar9, r_ar10, r_ar11, r_ar12, r_ar13, r_ar14, r_ar15, r_ar16, r_ar17, r_ar18, r_ar19, r_ar74, r_ar75, r_ar76, n2_, n4_, n12_, n24_, n28_, n50_, n54_, n76_, n80_, n102_, n128_, n154_, n180_, n206_, n232_, n258_, n284_, n310_, n336_, n362_, n380_, n680_, r_get0, r_get1, r_get2, r_get3, r_get4, r_get8, r_get9, r_get10, r_get11, r_get12, r_get13, r_put0, r_put1, r_put2, r_put3, r_put4, r_put5, r_put6, r_put7, r_put8, r_put9, r_put10, r_put11, r_more10, r_more12, r_more13, r_more14, r_more15, r_more16, r_more17, r_more18, r_more19, r_more20, p22, he]
/-- the text read: how many requests, the error -/
def qReads (T : Nat → Int32) (len f : Nat) : Option (Int32 × Nat × Int32) := match qPieces T len f 0 0 (-1) 0 with
  | none => none
  | some (m, a, e) => if e = -1 ∧ a < len then some (m, a, nI a) else some (m, a, e)
theorem r_reads (d : Nat) (h : RA M o) (hl : len ≤ 200) (h20 : X 0 20 = nI len) {f a : Nat} (q : qReads (X 16) len f = some (many, a, e)) : f_X11_reads (d + 16) (rM M o H V X) o = some (.inl (some (.int many)), rM M o H V (pX X (nI a) e)) := by
  unfold qReads at q
  split at q
  · cases q
  · rename_i m1 a1 e1 h1
    obtain ⟨k1, k2⟩ := r_pieces (M := M) (o := o) (H := H) (V := V) h hl h20 f 0 3 d 0 (-1) 0 (by omega) (fun _ => by omega) m1 a1 e1 h1
    have k1' : f_X11_piecesIn (d + 15) (rM M o H V (u2 (u2 X 0 21 0) 0 22 (-1))) o 0 = some (.inl (some (.int m1)), rM M o H V (pX X (nI a1) e1)) := by
      rw [e_X11_piecesIn, ← k1]
      rfl
    rw [e_X11_reads]
    by_cases he : e1 = -1
    · have ha := k2 he
      by_cases hlt : a1 < len
      · rw [if_pos ⟨he, hlt⟩] at q
        cases q
        have hlt' : nI a < nI len := by rw [nI_ltP (by omega) (by omega)]; exact hlt
        simp (maxSteps := 1000000) (disch := first | assumption | omega) only [x_rf, x_m, lt_bv_r, lt_bi_r, lt_bl_r, ↓r_ck, r_get, r_put, r_more, rM_h, rM_f, rM_x, rM_wf, rM_wx, rM_wh, lt_iN, lt_b1_0, lt_b1_1, x_if1, x_eq1, x_10, x_01, x_11, x_00, ↓reduceIte, r_nz, r_ar1L0, r_ar1L1, lt_n0_, lt_n1_, upd_s, upd_o, u2_eq, u2_n1, u2_n2, r_p1, r_p5, r_p6, r_p7, r_p9, r_p10, r_p11, r_p13, r_p19, r_p23, r_p26, r_p27, r_p32, r_p33, r_p34, r_ar1, r_ar9, r_ar10, r_ar11, r_ar12, r_ar13, r_ar14, r_ar15, r_ar16, r_ar17, r_ar18, r_ar19, r_ar74, r_ar75, r_ar76, n2_, n4_, n12_, n24_, n28_, n50_, n54_, n76_, n80_, n102_, n128_, n154_, n180_, n206_, n232_, n258_, n284_, n310_, n336_, n362_, n380_, n680_, r_get0, r_get1, r_get2, r_get3, r_get4, r_get8, r_get9, r_get10, r_get11, r_get12, r_get13, r_put0, r_put1, r_put2, r_put3, r_put4, r_put5, r_put6, r_put7, r_put8, r_put9, r_put10, r_put11, r_more10, r_more12, r_more13, r_more14, r_more15, r_more16, r_more17, r_more18, r_more19, r_more20, k1', p22, he, p21, p20, h20, hlt', pw22]
      · rw [if_neg (fun q => hlt q.2)] at q
        cases q
        have hlt' : ¬ nI a < nI len := by rw [nI_ltP (by omega) (by omega)]; exact hlt
        simp (maxSteps := 1000000) (disch := first | assumption | omega) only [x_rf, x_m, lt_bv_r, lt_bi_r, lt_bl_r, ↓r_ck, r_get, r_put, r_more, rM_h, rM_f, rM_x, rM_wf, rM_wx, rM_wh, lt_iN, lt_b1_0, lt_b1_1, x_if1, x_eq1, x_10, x_01, x_11, x_00, ↓reduceIte, r_nz, r_ar1L0, r_ar1L1, lt_n0_, lt_n1_, upd_s, upd_o, u2_eq, u2_n1, u2_n2, r_p1, r_p5, r_p6, r_p7, r_p9, r_p10, r_p11, r_p13, r_p19, r_p23, r_p26, r_p27, r_p32, r_p33, r_p34, r_ar1, r_ar9, r_ar10, r_ar11, r_ar12, r_ar13, r_ar14, r_ar15, r_ar16, r_ar17, r_ar18, r_ar19, r_ar74, r_ar75, r_ar76, n2_, n4_, n12_, n24_, n28_, n50_, n54_, n76_, n80_, n102_, n128_, n154_, n180_, n206_, n232_, n258_, n284_, n310_, n336_, n362_, n380_, n680_, r_get0, r_get1, r_get2, r_get3, r_get4, r_get8, r_get9, r_get10, r_get11, r_get12, r_get13, r_put0, r_put1, r_put2, r_put3, r_put4, r_put5, r_put6, r_put7, r_put8, r_put9, r_put10, r_put11, r_more10, r_more12, r_more13, r_more14, r_more15, r_more16, r_more17, r_more18, r_more19, r_more20, k1', p22, he, p21, p20, h20, hlt']
    · rw [if_neg (fun q => he q.1)] at q
      cases q
      simp (maxSteps := 1000000) (disch := first | assumption | omega) only [x_rf, x_m, lt_bv_r, lt_bi_r, lt_bl_r, ↓r_ck, r_get, r_put, r_more, rM_h, rM_f, rM_x, rM_wf, rM_wx, rM_wh, lt_iN, lt_b1_0, lt_b1_1, x_if1, x_eq1, x_10, x_01, x_11, x_00, ↓reduceIte, r_nz, r_ar1L0, r_ar1L1, lt_n0_, lt_n1_, upd_s, upd_o, u2_eq, u2_n1, u2_n2, r_p1, r_p5, r_p6, r_p7, r_p9, r_p10, r_p11, r_p13, r_p19, r_p23, r_p26, r_p27, r_p32, r_p33, r_p34, r_ar1, r_ar9, r_ar10, r_ar11, r_ar12, r_ar13, r_ar14, r_ar15, r_ar16, r_ar17, r_ar18, r_ar19, r_ar74, r_ar75, r_ar76, n2_, n4_, n12_, n24_, n28_, n50_, n54_, n76_, n80_, n102_, n128_, n154_, n180_, n206_, n232_, n258_, n284_, n310_, n336_, n362_, n380_, n680_, r_get0, r_get1, r_get2, r_get3, r_get4, r_get8, r_get9, r_get10, r_get11, r_get12, r_get13, r_put0, r_put1, r_put2, r_put3, r_put4, r_put5, r_put6, r_put7, r_put8, r_put9, r_put10, r_put11, r_more10, r_more12, r_more13, r_more14, r_more15, r_more16, r_more17, r_more18, r_more19, r_more20, k1', p22, he]
theorem r_errorPlace (d : Nat) (h : RA M o) (hl : len ≤ 200) (h20 : X 0 20 = nI len) {f a : Nat} (q : qReads (X 16) len f = some (many, a, e)) : f_X11_errorPlace (d + 17) (rM M o H V X) o = some (.inl (some (.int e)), rM M o H V (pX (qX0 X) (nI a) e)) := by
  have q' : qReads ((qX0 X) 16) len f = some (many, a, e) := by
    rw [show (qX0 X) 16 = X 16 from u2_n1 (by omega)]
    exact q
  have := r_reads (M := M) (o := o) (H := H) (V := V) (X := qX0 X) d h hl ((u2_n2 (by omega)).trans h20) q'
  unfold qX0 at this
  rw [e_X11_errorPlace]
  simp (maxSteps := 1000000) (disch := first | assumption | omega) only [x_rf, x_m, lt_bv_r, lt_bi_r, lt_bl_r, ↓r_ck, r_get, r_put, r_more, rM_h, rM_f, rM_x, rM_wf, rM_wx, rM_wh, lt_iN, lt_b1_0, lt_b1_1, x_if1, x_eq1, x_10, x_01, x_11, x_00, ↓reduceIte, r_nz, r_ar1L0, r_ar1L1, lt_n0_, lt_n1_, upd_s, upd_o, u2_eq, u2_n1, u2_n2, r_p1, r_p5, r_p6, r_p7, r_p9, r_p10, r_p11, r_p13, r_p19, r_p23, r_p26, r_p27, r_p32, r_p33, r_p34, r_ar1, r_ar9, r_ar10, r_ar11, r_ar12, r_ar13, r_ar14, r_ar15, r_ar16, r_ar17, r_ar18, r_ar19, r_ar74, r_ar75, r_ar76, n2_, n4_, n12_, n24_, n28_, n50_, n54_, n76_, n80_, n102_, n128_, n154_, n180_, n206_, n232_, n258_, n284_, n310_, n336_, n362_, n380_, n680_, r_get0, r_get1, r_get2, r_get3, r_get4, r_get8, r_get9, r_get10, r_get11, r_get12, r_get13, r_put0, r_put1, r_put2, r_put3, r_put4, r_put5, r_put6, r_put7, r_put8, r_put9, r_put10, r_put11, r_more10, r_more12, r_more13, r_more14, r_more15, r_more16, r_more17, r_more18, r_more19, r_more20, this, p22]
  rfl
end Sd
