/-! THE REFERENCE, methods of one unit: a key comes, a request is done -/
/-- one is put out, if one can go -/
def qOnce (H A B : Nat → Int32) (ln : Int32) (y : Nat) (kept : Option Nat) (U : Nat → Int32) : Option (Nat → Int32) :=
  if U 0 = 3 then (match qTurn U (qCan H U y kept) 60 (fun k => U (102 + k)) (fun k => U (206 + k)) (U 10) with
    | none => none
    | some (g, P, m, st) => some (qOut (qBack U P m st) g)) else match qGo H U A B ln y kept with
    | none => none
    | some g => some (qOut U g)
/-- until there is room -/
def qRoom (H A B : Nat → Int32) (ln : Int32) (y : Nat) (kept : Option Nat) : Nat → (Nat → Int32) → Option (Nat → Int32)
  | 0, U => if U 1 < qUnits H U (-1) 26 0 + H (2 + y) then none else some U
  | n + 1, U => if U 1 < qUnits H U (-1) 26 0 + H (2 + y) then (match qOnce H A B ln y kept U with
    | none => none
    | some U' => qRoom H A B ln y kept n U') else some U
def qCome (H U : Nat → Int32) (y : Nat) : Nat → Int32 :=
  upd (upd (upd (upd (upd (upd (qUsed H U y) (24 + y) 1) (50 + y) (qUsed H U y 10)) (102 + y) (qUsed H U y 10)) (128 + y) (H 1)) (232 + y) (if qUsed H U y (258 + y) = 0 then 1 else 0)) (258 + y) 0
def qMiss0 (H U : Nat → Int32) (k : Nat) : Nat → Int32 := upd (upd (upd U 13 (U 13 + 1)) (336 + k) (U (336 + k) + 1)) 20 (U 20 + H (28 + k))
def qMiss (H A B : Nat → Int32) (ln : Int32) (k : Nat) (U : Nat → Int32) : Option (Int32 × (Nat → Int32)) :=
  if U 1 < H (2 + k) then some (2, upd (qMiss0 H U k) 17 (U 17 + 1)) else match qRoom H A B ln k none 26 (qMiss0 H U k) with
    | none => none
    | some U' => some (1, qCome H U' k)
def qFetch (H A B : Nat → Int32) (ln : Int32) (kf : Nat → Nat) (f i : Nat) (U : Nat → Int32) : Option (Nat → Int32) :=
  match lastTo kf (kf i) f i with
  | none => some U
  | some b => if kf (b + 1) = kf i ∨ U (24 + kf (b + 1)) = 1 ∨ U 1 < (if U (24 + kf i) = 1 then H (2 + kf i) else 0) + H (2 + kf (b + 1)) then some U else
    match qRoom H A B ln (kf (b + 1)) (some (kf i)) 26 U with
    | none => none
    | some U' => some (upd (upd (qCome H U' (kf (b + 1))) (180 + kf (b + 1)) 1) 18 (qCome H U' (kf (b + 1)) 18 + 1))
def qWrite (H U : Nat → Int32) (x : Nat) : Nat → Int32 :=
  if U (24 + x) = 1 then (if U 3 - U 3 / 2 * 2 = 1 then upd (upd U (128 + x) (H 1)) (154 + x) 1 else upd (upd U (128 + x) (H 1)) 16 (U 16 + 1)) else upd U 16 (U 16 + 1)
def qDone (H A B : Nat → Int32) (ln : Int32) (kf : Nat → Nat) (f i : Nat) (w : Int32) (U : Nat → Int32) : Option (Nat → Int32) :=
  let W := upd U (362 + i) w
  let Y := if H (380 + i) = 1 then qWrite H W (kf i) else W
  if 1 < Y 3 then qFetch H A B ln kf f i Y else some Y
def qFeed (H A B : Nat → Int32) (ln : Int32) (kf : Nat → Nat) (f i : Nat) (U : Nat → Int32) : Option (Nat → Int32) :=
  if U (24 + kf i) = 1 then qDone H A B ln kf f i 0 (qHit H U (kf i)) else match qMiss H A B ln (kf i) U with
    | none => none
    | some (w, U') => qDone H A B ln kf f i w U'
section Ro
variable {M : LM} {o i j k u w y f t : Nat} {H : Nat → Int32} {V X : Nat → Nat → Int32} {U U' P m A B : Nat → Int32} {v r st ln w' : Int32} {kf : Nat → Nat} {kept : Option Nat}
theorem qLeaves_lo (hw : w < 10) : qLeaves U k w = U w := by
  unfold qLeaves
  simp (disch := omega) only [upd_o]
theorem qRem_lo (hw : w < 10) : qRem U k w = U w := by
  have h0 : qRem0 U k w = U w := by unfold qRem0; simp (disch := omega) only [upd_o]
  unfold qRem
  split
  · cases qElder (qRem0 U k) with
    | none => exact (upd_o (by omega)).trans h0
    | some e => exact (upd_o (by omega)).trans h0
  · exact h0
theorem qMax_lo (hw : w < 10) : qMax U k w = U w := by
  unfold qMax
  split
  · exact upd_o (by omega)
  · rfl
theorem qOut_lo (hw : w < 10) : qOut U k w = U w := by
  unfold qOut qOut0
  split
  · rw [qRem_lo hw, qLeaves_lo hw, upd_o (by omega), qMax_lo hw]
  · rw [qLeaves_lo hw, upd_o (by omega), qMax_lo hw]
theorem qBack_lo (hw : w < 10) : qBack U P m st w = U w := by
  unfold qBack
  rw [if_neg (by omega), if_neg (by omega), if_neg (by omega)]
theorem qUsed_lo (hw : w < 10) : qUsed H U k w = U w := by
  unfold qUsed
  simp (disch := omega) only [upd_o]
theorem qOnce_lo (hw : w < 10) (h : qOnce H A B ln y kept U = some U') : U' w = U w := by
  unfold qOnce at h
  split at h
  · split at h
    · cases h
    · cases h
      rw [qOut_lo hw, qBack_lo hw]
  · split at h
    · cases h
    · cases h
      rw [qOut_lo hw]
theorem qRoom_lo (hw : w < 10) : ∀ (n : Nat) (U U' : Nat → Int32), qRoom H A B ln y kept n U = some U' → U' w = U w
  | 0, U, U', h => by
    unfold qRoom at h
    split at h
    · cases h
    · cases h; rfl
  | n + 1, U, U', h => by
    unfold qRoom at h
    split at h
    · split at h
      · cases h
      · rename_i U1 h1
        exact (qRoom_lo hw n U1 U' h).trans (qOnce_lo hw h1)
    · cases h; rfl
theorem r_once (d : Nat) (h : RA M o) (hR : RU H kf V X u f t ln U) (hy : y < 26) (hkp : ∀ j, kept = some j → j < 26) (e : qOnce H (qA kf f t) (qB kf f t) ln y kept U = some U') :
    ∃ X' g, XS X X' ∧ f_X11_goes (d + 6) (rM M o H (u1 V u U) X) o (nI u) (nI y) (oI kept) = some (.inl (some (.int (nI g))), rM M o H (u1 V u U) X') ∧
      f_X11_isPutOut (d + 6) (rM M o H (u1 V u U) X') o (nI u) (nI g) = some (.inl none, rM M o H (u1 V u U') X') := by
  have hu := hR.2.2.2.2.2.2.2.2
  unfold qOnce at e
  split at e
  · rename_i h3
    split at e
    · cases e
    · rename_i g P m st hq
      cases e
      obtain ⟨X', a1, a2, a3, a4, a5, a6⟩ := r_goes3 (M := M) (o := o) d h hR hy hkp h3 hq
      refine ⟨X', g, a1, a6, ?_⟩
      have := r_isOut3 (M := M) (o := o) (H := H) (V := V) (U := U) (X := X') (u := u) (k := g) (d + 2) h hu a5 h3 a2 a3
      rw [a4] at this
      exact this
  · rename_i h3
    split at e
    · cases e
    · rename_i g hq
      cases e
      obtain ⟨X', a1, a2⟩ := r_goes (M := M) (o := o) d h hR hy hkp h3
      rw [hq] at a2
      exact ⟨X', g, a1, a2, r_isOut (d + 2) h hu (qGo_lt g hq).1 h3⟩
theorem r_come_end (d : Nat) (h : RA M o) (hu : u < 18) (hy : y < 26) (hs : H (2 + y) ≠ 0) (hno : ¬ U 1 < qUnits H U (-1) 26 0 + H (2 + y)) {z : Int32} : f_X11_comes_0 (d + 7) (rM M o H (u1 V u U) X) o (nI u) (nI y) z = some (.inl none, rM M o H (u1 V u (qCome H U y)) X) := by
  rw [e_X11_comes_0]
  simp (maxSteps := 1000000) (disch := first | assumption | omega) only [x_rf, x_m, lt_bv_r, lt_bi_r, lt_bl_r, ↓r_ck, r_get, r_put, r_more, rM_h, rM_f, rM_x, rM_wf, rM_wx, rM_wh, lt_iN, lt_b1_0, lt_b1_1, x_if1, x_eq1, x_10, x_01, x_11, x_00, ↓reduceIte, r_nz, r_ar1L0, r_ar1L1, lt_n0_, lt_n1_, upd_s, upd_o, u2_eq, u2_n1, u2_n2, r_p1, r_p5, r_p6, r_p7, r_p9, r_p10, r_p11, r_p13, r_p19, r_p23, r_p26, r_p27, r_p32, r_p33, r_p34, r_ar1, r_ar9, r_ar10, r_ar11, r_ar12, r_ar13, r_ar14, r_ar15, r_ar16, r_ar17, r_ar18, r_ar19, r_ar74, r_ar75, r_ar76, n2_, n4_, n12_, n24_, n28_, n50_, n54_, n76_, n80_, n102_, n128_, n154_, n180_, n206_, n232_, n258_, n284_, n310_, n336_, n362_, n380_, n680_, r_get0, r_get1, r_get2, r_get3, r_get4, r_get8, r_get9, r_get10, r_get11, r_get12, r_get13, r_put0, r_put1, r_put2, r_put3, r_put4, r_put5, r_put6, r_put7, r_put8, r_put9, r_put10, r_put11, r_more10, r_more12, r_more13, r_more14, r_more15, r_more16, r_more17, r_more18, r_more19, r_more20, r_unitsOf2, r_isUsed2, hno, e_X11_comes_128]
  unfold qCome
  by_cases a : qUsed H U y (258 + y) = 0
  · simp only [a, if_true]
  · simp only [a, if_false]
theorem r_comes_0 (d : Nat) (h : RA M o) (hy : y < 26) (hkp : ∀ j, kept = some j → j < 26) : ∀ (n : Nat) (X : Nat → Nat → Int32) (U U' : Nat → Int32), RU H kf V X u f t ln U → qRoom H (qA kf f t) (qB kf f t) ln y kept n U = some U' →
    ∃ X', XS X X' ∧ f_X11_comes_0 (d + 7) (rM M o H (u1 V u U) X) o (nI u) (nI y) (oI kept) = some (.inl none, rM M o H (u1 V u (qCome H U' y)) X')
  | 0, X, U, U', hR, e => by
    have hu := hR.2.2.2.2.2.2.2.2
    unfold qRoom at e
    split at e
    · cases e
    · rename_i hno
      cases e
      exact ⟨X, XS.refl, r_come_end d h hu hy (hR.1 y hy).1 hno⟩
  | n + 1, X, U, U', hR, e => by
    have hu := hR.2.2.2.2.2.2.2.2
    unfold qRoom at e
    split at e
    · rename_i hyes
      split at e
      · cases e
      · rename_i U1 h1
        obtain ⟨X1, g, a1, a2, a3⟩ := r_once (M := M) (o := o) d h hR hy hkp h1
        have hR1 : RU H kf V X1 u f t ln U1 := (hR.xx a1).uu (qOnce_lo (by omega) h1) (qOnce_lo (by omega) h1)
        obtain ⟨X2, b1, b2⟩ := r_comes_0 d h hy hkp n X1 U1 U' hR1 e
        refine ⟨X2, a1.trans b1, ?_⟩
        rw [e_X11_comes_0]
        simp (maxSteps := 1000000) (disch := first | assumption | omega) only [x_rf, x_m, lt_bv_r, lt_bi_r, lt_bl_r, ↓r_ck, r_get, r_put, r_more, rM_h, rM_f, rM_x, rM_wf, rM_wx, rM_wh, lt_iN, lt_b1_0, lt_b1_1, x_if1, x_eq1, x_10, x_01, x_11, x_00, ↓reduceIte, r_nz, r_ar1L0, r_ar1L1, lt_n0_, lt_n1_, upd_s, upd_o, u2_eq, u2_n1, u2_n2, r_p1, r_p5, r_p6, r_p7, r_p9, r_p10, r_p11, r_p13, r_p19, r_p23, r_p26, r_p27, r_p32, r_p33, r_p34, r_ar1, r_ar9, r_ar10, r_ar11, r_ar12, r_ar13, r_ar14, r_ar15, r_ar16, r_ar17, r_ar18, r_ar19, r_ar74, r_ar75, r_ar76, n2_, n4_, n12_, n24_, n28_, n50_, n54_, n76_, n80_, n102_, n128_, n154_, n180_, n206_, n232_, n258_, n284_, n310_, n336_, n362_, n380_, n680_, r_get0, r_get1, r_get2, r_get3, r_get4, r_get8, r_get9, r_get10, r_get11, r_get12, r_get13, r_put0, r_put1, r_put2, r_put3, r_put4, r_put5, r_put6, r_put7, r_put8, r_put9, r_put10, r_put11, r_more10, r_more12, r_more13, r_more14, r_more15, r_more16, r_more17, r_more18, r_more19, r_more20, r_unitsOf2, hyes, a2, a3]
        exact b2
    · rename_i hno
      cases e
      exact ⟨X, XS.refl, r_come_end d h hu hy (hR.1 y hy).1 hno⟩
theorem r_comes (d : Nat) (h : RA M o) (hR : RU H kf V X u f t ln U) (hy : y < 26) (hkp : ∀ j, kept = some j → j < 26) {n : Nat} (e : qRoom H (qA kf f t) (qB kf f t) ln y kept n U = some U') :
    ∃ X', XS X X' ∧ f_X11_comes (d + 7) (rM M o H (u1 V u U) X) o (nI u) (nI y) (oI kept) = some (.inl none, rM M o H (u1 V u (qCome H U' y)) X') := by
  obtain ⟨X', a1, a2⟩ := r_comes_0 (M := M) (o := o) d h hy hkp n X U U' hR e
  refine ⟨X', a1, (Eq.trans ?_ a2)⟩
  rw [e_X11_comes, e_X11_comes_0]
theorem r_isAMiss (d : Nat) (h : RA M o) (hR : RU H kf V X u f t ln U) (hk : k < 26) (e : qMiss H (qA kf f t) (qB kf f t) ln k U = some (w', U')) :
    ∃ X', XS X X' ∧ f_X11_isAMiss (d + 8) (rM M o H (u1 V u U) X) o (nI u) (nI k) = some (.inl (some (.int w')), rM M o H (u1 V u U') X') := by
  have hu := hR.2.2.2.2.2.2.2.2
  rw [e_X11_isAMiss]
  unfold qMiss at e
  have hR1 : RU H kf V X u f t ln (qMiss0 H U k) := hR.uu (by unfold qMiss0; simp (disch := omega) only [upd_o]) (by unfold qMiss0; simp (disch := omega) only [upd_o])
  split at e
  · rename_i hl
    cases e
    refine ⟨X, XS.refl, ?_⟩
    simp (maxSteps := 1000000) (disch := first | assumption | omega) only [x_rf, x_m, lt_bv_r, lt_bi_r, lt_bl_r, ↓r_ck, r_get, r_put, r_more, rM_h, rM_f, rM_x, rM_wf, rM_wx, rM_wh, lt_iN, lt_b1_0, lt_b1_1, x_if1, x_eq1, x_10, x_01, x_11, x_00, ↓reduceIte, r_nz, r_ar1L0, r_ar1L1, lt_n0_, lt_n1_, upd_s, upd_o, u2_eq, u2_n1, u2_n2, r_p1, r_p5, r_p6, r_p7, r_p9, r_p10, r_p11, r_p13, r_p19, r_p23, r_p26, r_p27, r_p32, r_p33, r_p34, r_ar1, r_ar9, r_ar10, r_ar11, r_ar12, r_ar13, r_ar14, r_ar15, r_ar16, r_ar17, r_ar18, r_ar19, r_ar74, r_ar75, r_ar76, n2_, n4_, n12_, n24_, n28_, n50_, n54_, n76_, n80_, n102_, n128_, n154_, n180_, n206_, n232_, n258_, n284_, n310_, n336_, n362_, n380_, n680_, r_get0, r_get1, r_get2, r_get3, r_get4, r_get8, r_get9, r_get10, r_get11, r_get12, r_get13, r_put0, r_put1, r_put2, r_put3, r_put4, r_put5, r_put6, r_put7, r_put8, r_put9, r_put10, r_put11, r_more10, r_more12, r_more13, r_more14, r_more15, r_more16, r_more17, r_more18, r_more19, r_more20, hl]
    rfl
  · rename_i hl
    split at e
    · cases e
    · rename_i U1 h1
      cases e
      obtain ⟨X', a1, a2⟩ := r_comes (M := M) (o := o) d h hR1 hk (fun j e => by cases e) h1
      refine ⟨X', a1, ?_⟩
      rw [oI_n] at a2
      unfold qMiss0 at a2
      simp (maxSteps := 1000000) (disch := first | assumption | omega) only [x_rf, x_m, lt_bv_r, lt_bi_r, lt_bl_r, ↓r_ck, r_get, r_put, r_more, rM_h, rM_f, rM_x, rM_wf, rM_wx, rM_wh, lt_iN, lt_b1_0, lt_b1_1, x_if1, x_eq1, x_10, x_01, x_11, x_00, ↓reduceIte, r_nz, r_ar1L0, r_ar1L1, lt_n0_, lt_n1_, upd_s, upd_o, u2_eq, u2_n1, u2_n2, r_p1, r_p5, r_p6, r_p7, r_p9, r_p10, r_p11, r_p13, r_p19, r_p23, r_p26, r_p27, r_p32, r_p33, r_p34, r_ar1, r_ar9, r_ar10, r_ar11, r_ar12, r_ar13, r_ar14, r_ar15, r_ar16, r_ar17, r_ar18, r_ar19, r_ar74, r_ar75, r_ar76, n2_, n4_, n12_, n24_, n28_, n50_, n54_, n76_, n80_, n102_, n128_, n154_, n180_, n206_, n232_, n258_, n284_, n310_, n336_, n362_, n380_, n680_, r_get0, r_get1, r_get2, r_get3, r_get4, r_get8, r_get9, r_get10, r_get11, r_get12, r_get13, r_put0, r_put1, r_put2, r_put3, r_put4, r_put5, r_put6, r_put7, r_put8, r_put9, r_put10, r_put11, r_more10, r_more12, r_more13, r_more14, r_more15, r_more16, r_more17, r_more18, r_more19, r_more20, hl, a2]
theorem r_fetches (d : Nat) (h : RA M o) (hR : RU H kf V X u f t ln U) (hi : i < t) (hf : f ≤ i) (e : qFetch H (qA kf f t) (qB kf f t) ln kf f i U = some U') :
    ∃ X', XS X X' ∧ f_X11_fetches (d + 8) (rM M o H (u1 V u U) X) o (nI u) (nI i) = some (.inl none, rM M o H (u1 V u U') X') := by
  have hu := hR.2.2.2.2.2.2.2.2
  obtain ⟨hk, hH⟩ := hR.2.1 i hi
  have ht := hR.2.2.1
  have h80 : 80 + i < 12896 := by omega
  have h80' : 80 + i < 980 := by omega
  have e1 := r_latestFor (M := M) (o := o) (H := H) (V := V) (U := U) (X := X) (kf := kf) (k := kf i) (f := f) (t := i) (d + 5) h hu (fun j hj => hR.2.1 j (by omega)) (by omega) hf hR.2.2.2.2.2.1 hk
  rw [e_X11_fetches]
  unfold qFetch at e
  cases hl : lastTo kf (kf i) f i with
  | none =>
    rw [hl] at e e1
    cases e
    refine ⟨X, XS.refl, ?_⟩
    rw [oI_n] at e1
    simp (maxSteps := 1000000) (disch := first | assumption | omega) only [x_rf, x_m, lt_bv_r, lt_bi_r, lt_bl_r, ↓r_ck, r_get, r_put, r_more, rM_h, rM_f, rM_x, rM_wf, rM_wx, rM_wh, lt_iN, lt_b1_0, lt_b1_1, x_if1, x_eq1, x_10, x_01, x_11, x_00, ↓reduceIte, r_nz, r_ar1L0, r_ar1L1, lt_n0_, lt_n1_, upd_s, upd_o, u2_eq, u2_n1, u2_n2, r_p1, r_p5, r_p6, r_p7, r_p9, r_p10, r_p11, r_p13, r_p19, r_p23, r_p26, r_p27, r_p32, r_p33, r_p34, r_ar1, r_ar9, r_ar10, r_ar11, r_ar12, r_ar13, r_ar14, r_ar15, r_ar16, r_ar17, r_ar18, r_ar19, r_ar74, r_ar75, r_ar76, n2_, n4_, n12_, n24_, n28_, n50_, n54_, n76_, n80_, n102_, n128_, n154_, n180_, n206_, n232_, n258_, n284_, n310_, n336_, n362_, n380_, n680_, r_get0, r_get1, r_get2, r_get3, r_get4, r_get8, r_get9, r_get10, r_get11, r_get12, r_get13, r_put0, r_put1, r_put2, r_put3, r_put4, r_put5, r_put6, r_put7, r_put8, r_put9, r_put10, r_put11, r_more10, r_more12, r_more13, r_more14, r_more15, r_more16, r_more17, r_more18, r_more19, r_more20, hH, e1]
  | some b =>
    rw [hl] at e e1
    rw [oI_s] at e1
    have hb := lastTo_lt _ hl
    obtain ⟨hk2, hH2⟩ := hR.2.1 (b + 1) (by omega)
    have hn1 : (nI b = -1) = False := nI_ne1 (by omega)
    have h81 : 80 + (b + 1) < 12896 := by omega
    have h81' : 80 + (b + 1) < 980 := by omega
    have e81 : nI (80 + b) + 1 = nI (80 + (b + 1)) := (lt_iA (j := 80 + b) (k := 1))
    have i0 : ∀ x : Int32, 0 + x = x := fun x => Int32.zero_add x
    dsimp only at e
    by_cases hc : kf (b + 1) = kf i ∨ U (24 + kf (b + 1)) = 1 ∨ U 1 < (if U (24 + kf i) = 1 then H (2 + kf i) else 0) + H (2 + kf (b + 1))
    · rw [if_pos hc] at e
      cases e
      refine ⟨X, XS.refl, ?_⟩
      simp (maxSteps := 1000000) (disch := first | assumption | omega) only [x_rf, x_m, lt_bv_r, lt_bi_r, lt_bl_r, ↓r_ck, r_get, r_put, r_more, rM_h, rM_f, rM_x, rM_wf, rM_wx, rM_wh, lt_iN, lt_b1_0, lt_b1_1, x_if1, x_eq1, x_10, x_01, x_11, x_00, ↓reduceIte, r_nz, r_ar1L0, r_ar1L1, lt_n0_, lt_n1_, upd_s, upd_o, u2_eq, u2_n1, u2_n2, r_p1, r_p5, r_p6, r_p7, r_p9, r_p10, r_p11, r_p13, r_p19, r_p23, r_p26, r_p27, r_p32, r_p33, r_p34, r_ar1, r_ar9, r_ar10, r_ar11, r_ar12, r_ar13, r_ar14, r_ar15, r_ar16, r_ar17, r_ar18, r_ar19, r_ar74, r_ar75, r_ar76, n2_, n4_, n12_, n24_, n28_, n50_, n54_, n76_, n80_, n102_, n128_, n154_, n180_, n206_, n232_, n258_, n284_, n310_, n336_, n362_, n380_, n680_, r_get0, r_get1, r_get2, r_get3, r_get4, r_get8, r_get9, r_get10, r_get11, r_get12, r_get13, r_put0, r_put1, r_put2, r_put3, r_put4, r_put5, r_put6, r_put7, r_put8, r_put9, r_put10, r_put11, r_more10, r_more12, r_more13, r_more14, r_more15, r_more16, r_more17, r_more18, r_more19, r_more20, hH, e1, hn1, e81, hH2, r_holds2, nI_inj]
      by_cases a : U (24 + kf i) = 1
      · by_cases c1 : kf (b + 1) = kf i
        · simp only [a, c1, if_true]
        · by_cases c2 : U (24 + kf (b + 1)) = 1
          · simp only [a, c1, c2, if_true, if_false]
          · rcases hc with hc | hc | hc
            · exact absurd hc c1
            · exact absurd hc c2
            · rw [if_pos a] at hc
              simp only [a, c1, c2, hc, if_true, if_false]
      · by_cases c1 : kf (b + 1) = kf i
        · simp only [a, c1, if_true, if_false]
        · by_cases c2 : U (24 + kf (b + 1)) = 1
          · simp only [a, c1, c2, if_true, if_false]
          · rcases hc with hc | hc | hc
            · exact absurd hc c1
            · exact absurd hc c2
            · rw [if_neg a] at hc
              simp only [a, c1, c2, hc, if_true, if_false]
    · rw [if_neg hc] at e
      split at e
      · cases e
      · rename_i U1 h1
        cases e
        obtain ⟨X', a1, a2⟩ := r_comes (M := M) (o := o) d h hR hk2 (fun j e => by cases e; omega) h1
        refine ⟨X', a1, ?_⟩
        rw [oI_s] at a2
        have c1 : ¬ kf (b + 1) = kf i := fun q => hc (Or.inl q)
        have c2 : ¬ U (24 + kf (b + 1)) = 1 := fun q => hc (Or.inr (Or.inl q))
        have c3 := fun q => hc (Or.inr (Or.inr q))
        simp (maxSteps := 1000000) (disch := first | assumption | omega) only [x_rf, x_m, lt_bv_r, lt_bi_r, lt_bl_r, ↓r_ck, r_get, r_put, r_more, rM_h, rM_f, rM_x, rM_wf, rM_wx, rM_wh, lt_iN, lt_b1_0, lt_b1_1, x_if1, x_eq1, x_10, x_01, x_11, x_00, ↓reduceIte, r_nz, r_ar1L0, r_ar1L1, lt_n0_, lt_n1_, upd_s, upd_o, u2_eq, u2_n1, u2_n2, r_p1, r_p5, r_p6, r_p7, r_p9, r_p10, r_p11, r_p13, r_p19, r_p23, r_p26, r_p27, r_p32, r_p33, r_p34, r_ar1, r_ar9, r_ar10, r_ar11, r_ar12, r_ar13, r_ar14, r_ar15, r_ar16, r_ar17, r_ar18, r_ar19, r_ar74, r_ar75, r_ar76, n2_, n4_, n12_, n24_, n28_, n50_, n54_, n76_, n80_, n102_, n128_, n154_, n180_, n206_, n232_, n258_, n284_, n310_, n336_, n362_, n380_, n680_, r_get0, r_get1, r_get2, r_get3, r_get4, r_get8, r_get9, r_get10, r_get11, r_get12, r_get13, r_put0, r_put1, r_put2, r_put3, r_put4, r_put5, r_put6, r_put7, r_put8, r_put9, r_put10, r_put11, r_more10, r_more12, r_more13, r_more14, r_more15, r_more16, r_more17, r_more18, r_more19, r_more20, hH, e1, hn1, e81, hH2, r_holds2, nI_inj]
        by_cases a : U (24 + kf i) = 1
        · rw [if_pos a] at c3
          have c4 : ¬ U 1 < H (2 + kf i) + H (2 + kf (b + 1)) := c3
          simp only [a, c1, c2, c4, if_true, if_false]
          simp (maxSteps := 1000000) (disch := first | assumption | omega) only [x_rf, x_m, lt_bv_r, lt_bi_r, lt_bl_r, ↓r_ck, r_get, r_put, r_more, rM_h, rM_f, rM_x, rM_wf, rM_wx, rM_wh, lt_iN, lt_b1_0, lt_b1_1, x_if1, x_eq1, x_10, x_01, x_11, x_00, ↓reduceIte, r_nz, r_ar1L0, r_ar1L1, lt_n0_, lt_n1_, upd_s, upd_o, u2_eq, u2_n1, u2_n2, r_p1, r_p5, r_p6, r_p7, r_p9, r_p10, r_p11, r_p13, r_p19, r_p23, r_p26, r_p27, r_p32, r_p33, r_p34, r_ar1, r_ar9, r_ar10, r_ar11, r_ar12, r_ar13, r_ar14, r_ar15, r_ar16, r_ar17, r_ar18, r_ar19, r_ar74, r_ar75, r_ar76, n2_, n4_, n12_, n24_, n28_, n50_, n54_, n76_, n80_, n102_, n128_, n154_, n180_, n206_, n232_, n258_, n284_, n310_, n336_, n362_, n380_, n680_, r_get0, r_get1, r_get2, r_get3, r_get4, r_get8, r_get9, r_get10, r_get11, r_get12, r_get13, r_put0, r_put1, r_put2, r_put3, r_put4, r_put5, r_put6, r_put7, r_put8, r_put9, r_put10, r_put11, r_more10, r_more12, r_more13, r_more14, r_more15, r_more16, r_more17, r_more18, r_more19, r_more20, a2]
        · rw [if_neg a] at c3
          have c4 : ¬ U 1 < 0 + H (2 + kf (b + 1)) := c3
          simp only [a, c1, c2, c4, if_true, if_false]
          simp (maxSteps := 1000000) (disch := first | assumption | omega) only [x_rf, x_m, lt_bv_r, lt_bi_r, lt_bl_r, ↓r_ck, r_get, r_put, r_more, rM_h, rM_f, rM_x, rM_wf, rM_wx, rM_wh, lt_iN, lt_b1_0, lt_b1_1, x_if1, x_eq1, x_10, x_01, x_11, x_00, ↓reduceIte, r_nz, r_ar1L0, r_ar1L1, lt_n0_, lt_n1_, upd_s, upd_o, u2_eq, u2_n1, u2_n2, r_p1, r_p5, r_p6, r_p7, r_p9, r_p10, r_p11, r_p13, r_p19, r_p23, r_p26, r_p27, r_p32, r_p33, r_p34, r_ar1, r_ar9, r_ar10, r_ar11, r_ar12, r_ar13, r_ar14, r_ar15, r_ar16, r_ar17, r_ar18, r_ar19, r_ar74, r_ar75, r_ar76, n2_, n4_, n12_, n24_, n28_, n50_, n54_, n76_, n80_, n102_, n128_, n154_, n180_, n206_, n232_, n258_, n284_, n310_, n336_, n362_, n380_, n680_, r_get0, r_get1, r_get2, r_get3, r_get4, r_get8, r_get9, r_get10, r_get11, r_get12, r_get13, r_put0, r_put1, r_put2, r_put3, r_put4, r_put5, r_put6, r_put7, r_put8, r_put9, r_put10, r_put11, r_more10, r_more12, r_more13, r_more14, r_more15, r_more16, r_more17, r_more18, r_more19, r_more20, a2]
theorem r_feeds_39 (d : Nat) (h : RA M o) (hR : RU H kf V X u f t ln U) (hi : i < t) (hf : f ≤ i) {wh : Int32} (e : qDone H (qA kf f t) (qB kf f t) ln kf f i wh U = some U') :
    ∃ X', XS X X' ∧ f_X11_feeds_39 (d + 9) (rM M o H (u1 V u U) X) o (nI u) (nI i) (nI (kf i)) wh = some (.inl none, rM M o H (u1 V u U') X') := by
  have hu := hR.2.2.2.2.2.2.2.2
  obtain ⟨hk, hH⟩ := hR.2.1 i hi
  have ht := hR.2.2.1
  have h1 : (1 : Int32) = nI 1 := rfl
  have h38 : 380 + i < 12896 := by omega
  have h38' : 380 + i < 980 := by omega
  have lo : ∀ (W : Nat → Int32), W 0 = U 0 → W 9 = U 9 → RU H kf V X u f t ln W := fun W a b => hR.uu a b
  have fe : ∀ (W U' : Nat → Int32), W 0 = U 0 → W 9 = U 9 → (if 1 < W 3 then qFetch H (qA kf f t) (qB kf f t) ln kf f i W else some W) = some U' →
      ∃ X', XS X X' ∧ (if 1 < W 3 then (lt_bv (f_X11_fetches (d + 8) (rM M o H (u1 V u W) X) o (nI u) (nI i)) [] fun M => some (.inl none, M)) else some (.inl none, rM M o H (u1 V u W) X)) = some (.inl none, rM M o H (u1 V u U') X') := by
    intro W U' a b e
    by_cases q : 1 < W 3
    · rw [if_pos q] at e
      obtain ⟨X', c1, c2⟩ := r_fetches (M := M) (o := o) d h (lo W a b) hi hf e
      refine ⟨X', c1, ?_⟩
      rw [if_pos q, c2]
      rfl
    · rw [if_neg q] at e
      cases e
      exact ⟨X, XS.refl, if_neg q⟩
  rw [e_X11_feeds_39]
  unfold qDone at e
  dsimp only at e
  simp (maxSteps := 1000000) (disch := first | assumption | omega) only [x_rf, x_m, lt_bv_r, lt_bi_r, lt_bl_r, ↓r_ck, r_get, r_put, r_more, rM_h, rM_f, rM_x, rM_wf, rM_wx, rM_wh, lt_iN, lt_b1_0, lt_b1_1, x_if1, x_eq1, x_10, x_01, x_11, x_00, ↓reduceIte, r_nz, r_ar1L0, r_ar1L1, lt_n0_, lt_n1_, upd_s, upd_o, u2_eq, u2_n1, u2_n2, r_p1, r_p5, r_p6, r_p7, r_p9, r_p10, r_p11, r_p13, r_p19, r_p23, r_p26, r_p27, r_p32, r_p33, r_p34, r_ar1, r_ar9, r_ar10, r_ar11, r_ar12, r_ar13, r_ar14, r_ar15, r_ar16, r_ar17, r_ar18, r_ar19, r_ar74, r_ar75, r_ar76, n2_, n4_, n12_, n24_, n28_, n50_, n54_, n76_, n80_, n102_, n128_, n154_, n180_, n206_, n232_, n258_, n284_, n310_, n336_, n362_, n380_, n680_, r_get0, r_get1, r_get2, r_get3, r_get4, r_get8, r_get9, r_get10, r_get11, r_get12, r_get13, r_put0, r_put1, r_put2, r_put3, r_put4, r_put5, r_put6, r_put7, r_put8, r_put9, r_put10, r_put11, r_more10, r_more12, r_more13, r_more14, r_more15, r_more16, r_more17, r_more18, r_more19, r_more20]
  by_cases hw : H (380 + i) = 1
  · rw [if_pos hw] at e
    unfold qWrite at e
    by_cases a : U (24 + kf i) = 1
    · by_cases q : U 3 - U 3 / 2 * 2 = 1
      · obtain ⟨X', c1, c2⟩ := fe (upd (upd (upd U (362 + i) wh) (128 + kf i) (H 1)) (154 + kf i) 1) U' (by simp (disch := omega) only [upd_o]) (by simp (disch := omega) only [upd_o]) (by
          simp (disch := omega) only [upd_o, a, q, if_true] at e ⊢
          exact e)
        refine ⟨X', c1, ?_⟩
        simp (maxSteps := 1000000) (disch := first | assumption | omega) only [x_rf, x_m, lt_bv_r, lt_bi_r, lt_bl_r, ↓r_ck, r_get, r_put, r_more, rM_h, rM_f, rM_x, rM_wf, rM_wx, rM_wh, lt_iN, lt_b1_0, lt_b1_1, x_if1, x_eq1, x_10, x_01, x_11, x_00, ↓reduceIte, r_nz, r_ar1L0, r_ar1L1, lt_n0_, lt_n1_, upd_s, upd_o, u2_eq, u2_n1, u2_n2, r_p1, r_p5, r_p6, r_p7, r_p9, r_p10, r_p11, r_p13, r_p19, r_p23, r_p26, r_p27, r_p32, r_p33, r_p34, r_ar1, r_ar9, r_ar10, r_ar11, r_ar12, r_ar13, r_ar14, r_ar15, r_ar16, r_ar17, r_ar18, r_ar19, r_ar74, r_ar75, r_ar76, n2_, n4_, n12_, n24_, n28_, n50_, n54_, n76_, n80_, n102_, n128_, n154_, n180_, n206_, n232_, n258_, n284_, n310_, n336_, n362_, n380_, n680_, r_get0, r_get1, r_get2, r_get3, r_get4, r_get8, r_get9, r_get10, r_get11, r_get12, r_get13, r_put0, r_put1, r_put2, r_put3, r_put4, r_put5, r_put6, r_put7, r_put8, r_put9, r_put10, r_put11, r_more10, r_more12, r_more13, r_more14, r_more15, r_more16, r_more17, r_more18, r_more19, r_more20, hw, r_holds2, a, e_X11_feeds_90, q]
        simp (disch := omega) only [upd_o] at c2
        have : ∀ z : Option (LO × LM), lt_nz 2 z = z := fun z => rfl
        rw [this]
        exact c2
      · obtain ⟨X', c1, c2⟩ := fe (upd (upd (upd U (362 + i) wh) (128 + kf i) (H 1)) 16 (U 16 + 1)) U' (by simp (disch := omega) only [upd_o]) (by simp (disch := omega) only [upd_o]) (by
          simp (disch := omega) only [upd_o, a, q, if_true, if_false] at e ⊢
          exact e)
        refine ⟨X', c1, ?_⟩
        simp (maxSteps := 1000000) (disch := first | assumption | omega) only [x_rf, x_m, lt_bv_r, lt_bi_r, lt_bl_r, ↓r_ck, r_get, r_put, r_more, rM_h, rM_f, rM_x, rM_wf, rM_wx, rM_wh, lt_iN, lt_b1_0, lt_b1_1, x_if1, x_eq1, x_10, x_01, x_11, x_00, ↓reduceIte, r_nz, r_ar1L0, r_ar1L1, lt_n0_, lt_n1_, upd_s, upd_o, u2_eq, u2_n1, u2_n2, r_p1, r_p5, r_p6, r_p7, r_p9, r_p10, r_p11, r_p13, r_p19, r_p23, r_p26, r_p27, r_p32, r_p33, r_p34, r_ar1, r_ar9, r_ar10, r_ar11, r_ar12, r_ar13, r_ar14, r_ar15, r_ar16, r_ar17, r_ar18, r_ar19, r_ar74, r_ar75, r_ar76, n2_, n4_, n12_, n24_, n28_, n50_, n54_, n76_, n80_, n102_, n128_, n154_, n180_, n206_, n232_, n258_, n284_, n310_, n336_, n362_, n380_, n680_, r_get0, r_get1, r_get2, r_get3, r_get4, r_get8, r_get9, r_get10, r_get11, r_get12, r_get13, r_put0, r_put1, r_put2, r_put3, r_put4, r_put5, r_put6, r_put7, r_put8, r_put9, r_put10, r_put11, r_more10, r_more12, r_more13, r_more14, r_more15, r_more16, r_more17, r_more18, r_more19, r_more20, hw, r_holds2, a, e_X11_feeds_90, q]
        simp (disch := omega) only [upd_o] at c2
        have : ∀ z : Option (LO × LM), lt_nz 2 z = z := fun z => rfl
        rw [this]
        exact c2
    · obtain ⟨X', c1, c2⟩ := fe (upd (upd U (362 + i) wh) 16 (U 16 + 1)) U' (by simp (disch := omega) only [upd_o]) (by simp (disch := omega) only [upd_o]) (by
        simp (disch := omega) only [upd_o, a, if_false] at e ⊢
        exact e)
      refine ⟨X', c1, ?_⟩
      simp (maxSteps := 1000000) (disch := first | assumption | omega) only [x_rf, x_m, lt_bv_r, lt_bi_r, lt_bl_r, ↓r_ck, r_get, r_put, r_more, rM_h, rM_f, rM_x, rM_wf, rM_wx, rM_wh, lt_iN, lt_b1_0, lt_b1_1, x_if1, x_eq1, x_10, x_01, x_11, x_00, ↓reduceIte, r_nz, r_ar1L0, r_ar1L1, lt_n0_, lt_n1_, upd_s, upd_o, u2_eq, u2_n1, u2_n2, r_p1, r_p5, r_p6, r_p7, r_p9, r_p10, r_p11, r_p13, r_p19, r_p23, r_p26, r_p27, r_p32, r_p33, r_p34, r_ar1, r_ar9, r_ar10, r_ar11, r_ar12, r_ar13, r_ar14, r_ar15, r_ar16, r_ar17, r_ar18, r_ar19, r_ar74, r_ar75, r_ar76, n2_, n4_, n12_, n24_, n28_, n50_, n54_, n76_, n80_, n102_, n128_, n154_, n180_, n206_, n232_, n258_, n284_, n310_, n336_, n362_, n380_, n680_, r_get0, r_get1, r_get2, r_get3, r_get4, r_get8, r_get9, r_get10, r_get11, r_get12, r_get13, r_put0, r_put1, r_put2, r_put3, r_put4, r_put5, r_put6, r_put7, r_put8, r_put9, r_put10, r_put11, r_more10, r_more12, r_more13, r_more14, r_more15, r_more16, r_more17, r_more18, r_more19, r_more20, hw, r_holds2, a, e_X11_feeds_90]
      simp (disch := omega) only [upd_o] at c2
      exact c2
  · rw [if_neg hw] at e
    obtain ⟨X', c1, c2⟩ := fe (upd U (362 + i) wh) U' (by simp (disch := omega) only [upd_o]) (by simp (disch := omega) only [upd_o]) e
    refine ⟨X', c1, ?_⟩
    simp (maxSteps := 1000000) (disch := first | assumption | omega) only [x_rf, x_m, lt_bv_r, lt_bi_r, lt_bl_r, ↓r_ck, r_get, r_put, r_more, rM_h, rM_f, rM_x, rM_wf, rM_wx, rM_wh, lt_iN, lt_b1_0, lt_b1_1, x_if1, x_eq1, x_10, x_01, x_11, x_00, ↓reduceIte, r_nz, r_ar1L0, r_ar1L1, lt_n0_, lt_n1_, upd_s, upd_o, u2_eq, u2_n1, u2_n2, r_p1, r_p5, r_p6, r_p7, r_p9, r_p10, r_p11, r_p13, r_p19, r_p23, r_p26, r_p27, r_p32, r_p33, r_p34, r_ar1, r_ar9, r_ar10, r_ar11, r_ar12, r_ar13, r_ar14, r_ar15, r_ar16, r_ar17, r_ar18, r_ar19, r_ar74, r_ar75, r_ar76, n2_, n4_, n12_, n24_, n28_, n50_, n54_, n76_, n80_, n102_, n128_, n154_, n180_, n206_, n232_, n258_, n284_, n310_, n336_, n362_, n380_, n680_, r_get0, r_get1, r_get2, r_get3, r_get4, r_get8, r_get9, r_get10, r_get11, r_get12, r_get13, r_put0, r_put1, r_put2, r_put3, r_put4, r_put5, r_put6, r_put7, r_put8, r_put9, r_put10, r_put11, r_more10, r_more12, r_more13, r_more14, r_more15, r_more16, r_more17, r_more18, r_more19, r_more20, hw]
    simp (disch := omega) only [upd_o] at c2
    exact c2
theorem qHit_lo (hw : w < 10) : qHit H U k w = U w := by
  unfold qHit
  rw [qUsed_lo hw]
  simp (disch := omega) only [upd_o]
theorem qCome_lo (hw : w < 10) : qCome H U k w = U w := by
  unfold qCome
  simp (disch := omega) only [upd_o]
  exact qUsed_lo hw
theorem qMiss_lo (hw : w < 10) {z : Int32} (e : qMiss H A B ln k U = some (z, U')) : U' w = U w := by
  have h0 : qMiss0 H U k w = U w := by unfold qMiss0; simp (disch := omega) only [upd_o]
  unfold qMiss at e
  split at e
  · cases e
    rw [upd_o (by omega), h0]
  · split at e
    · cases e
    · rename_i U1 h1
      cases e
      rw [qCome_lo hw, qRoom_lo hw _ _ _ h1, h0]
theorem r_feeds (d : Nat) (h : RA M o) (hR : RU H kf V X u f t ln U) (hi : i < t) (hf : f ≤ i) (e : qFeed H (qA kf f t) (qB kf f t) ln kf f i U = some U') :
    ∃ X', XS X X' ∧ f_X11_feeds (d + 9) (rM M o H (u1 V u U) X) o (nI u) (nI i) = some (.inl none, rM M o H (u1 V u U') X') := by
  have hu := hR.2.2.2.2.2.2.2.2
  obtain ⟨hk, hH⟩ := hR.2.1 i hi
  have ht := hR.2.2.1
  have h80 : 80 + i < 12896 := by omega
  have h80' : 80 + i < 980 := by omega
  rw [e_X11_feeds]
  unfold qFeed at e
  split at e
  · rename_i a
    have hs := (hR.1 _ hk).1
    obtain ⟨X', c1, c2⟩ := r_feeds_39 (M := M) (o := o) (U := qHit H U (kf i)) d h (hR.uu (qHit_lo (by omega)) (qHit_lo (by omega))) hi hf e
    refine ⟨X', c1, ?_⟩
    simp (maxSteps := 1000000) (disch := first | assumption | omega) only [x_rf, x_m, lt_bv_r, lt_bi_r, lt_bl_r, ↓r_ck, r_get, r_put, r_more, rM_h, rM_f, rM_x, rM_wf, rM_wx, rM_wh, lt_iN, lt_b1_0, lt_b1_1, x_if1, x_eq1, x_10, x_01, x_11, x_00, ↓reduceIte, r_nz, r_ar1L0, r_ar1L1, lt_n0_, lt_n1_, upd_s, upd_o, u2_eq, u2_n1, u2_n2, r_p1, r_p5, r_p6, r_p7, r_p9, r_p10, r_p11, r_p13, r_p19, r_p23, r_p26, r_p27, r_p32, r_p33, r_p34, r_ar1, r_ar9, r_ar10, r_ar11, r_ar12, r_ar13, r_ar14, r_ar15, r_ar16, r_ar17, r_ar18, r_ar19, r_ar74, r_ar75, r_ar76, n2_, n4_, n12_, n24_, n28_, n50_, n54_, n76_, n80_, n102_, n128_, n154_, n180_, n206_, n232_, n258_, n284_, n310_, n336_, n362_, n380_, n680_, r_get0, r_get1, r_get2, r_get3, r_get4, r_get8, r_get9, r_get10, r_get11, r_get12, r_get13, r_put0, r_put1, r_put2, r_put3, r_put4, r_put5, r_put6, r_put7, r_put8, r_put9, r_put10, r_put11, r_more10, r_more12, r_more13, r_more14, r_more15, r_more16, r_more17, r_more18, r_more19, r_more20, hH, r_holds2, a, r_isAHit2, c2]
  · rename_i a
    split at e
    · cases e
    · rename_i z U1 h1
      obtain ⟨X1, b1, b2⟩ := r_isAMiss (M := M) (o := o) d h hR hk h1
      obtain ⟨X', c1, c2⟩ := r_feeds_39 (M := M) (o := o) (U := U1) d h ((hR.xx b1).uu (qMiss_lo (by omega) h1) (qMiss_lo (by omega) h1)) hi hf e
      refine ⟨X', b1.trans c1, ?_⟩
      simp (maxSteps := 1000000) (disch := first | assumption | omega) only [x_rf, x_m, lt_bv_r, lt_bi_r, lt_bl_r, ↓r_ck, r_get, r_put, r_more, rM_h, rM_f, rM_x, rM_wf, rM_wx, rM_wh, lt_iN, lt_b1_0, lt_b1_1, x_if1, x_eq1, x_10, x_01, x_11, x_00, ↓reduceIte, r_nz, r_ar1L0, r_ar1L1, lt_n0_, lt_n1_, upd_s, upd_o, u2_eq, u2_n1, u2_n2, r_p1, r_p5, r_p6, r_p7, r_p9, r_p10, r_p11, r_p13, r_p19, r_p23, r_p26, r_p27, r_p32, r_p33, r_p34, r_ar1, r_ar9, r_ar10, r_ar11, r_ar12, r_ar13, r_ar14, r_ar15, r_ar16, r_ar17, r_ar18, r_ar19, r_ar74, r_ar75, r_ar76, n2_, n4_, n12_, n24_, n28_, n50_, n54_, n76_, n80_, n102_, n128_, n154_, n180_, n206_, n232_, n258_, n284_, n310_, n336_, n362_, n380_, n680_, r_get0, r_get1, r_get2, r_get3, r_get4, r_get8, r_get9, r_get10, r_get11, r_get12, r_get13, r_put0, r_put1, r_put2, r_put3, r_put4, r_put5, r_put6, r_put7, r_put8, r_put9, r_put10, r_put11, r_more10, r_more12, r_more13, r_more14, r_more15, r_more16, r_more17, r_more18, r_more19, r_more20, hH, r_holds2, a, b2, c2]
end Ro
