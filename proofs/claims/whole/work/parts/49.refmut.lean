/-! THE REFERENCE: units emptied and set up, all kept for undo -/
section Rq
variable {M M' : LM} {o i j k u w y f t c : Nat} {H : Nat → Int32} {V V' X : Nat → Nat → Int32} {U U' W P m A B : Nat → Int32} {v r st ln w' fed : Int32} {kf fs : Nat → Nat}
def qEmpty (U : Nat → Int32) (fed : Int32) : Nat → Int32 := fun w => if w = 9 then fed else if 9 ≤ w ∧ w < 362 then 0 else if 362 ≤ w ∧ w < 662 then -1 else U w
theorem r_empties_25 (d : Nat) (h : RA M o) (hu : u < 18) : ∀ (n : Nat) (U : Nat → Int32), n ≤ 300 → (∀ w, U w = if 9 ≤ w ∧ w < 362 then 0 else if 362 ≤ w ∧ w < 662 - n then -1 else W w) →
    f_X11_empties_25 (d + 2) (rM M o H (u1 V u U) X) o (nI u) fed (nI (300 - n)) = some (.inl none, rM M o H (u1 V u (qEmpty W fed)) X)
  | 0, U, _, hU => by
    rw [e_X11_empties_25, if_neg (by decide)]
    simp (maxSteps := 1000000) (disch := first | assumption | omega) only [x_rf, x_m, lt_bv_r, lt_bi_r, lt_bl_r, ↓r_ck, r_get, r_put, r_more, rM_h, rM_f, rM_x, rM_wf, rM_wx, rM_wh, lt_iN, lt_b1_0, lt_b1_1, x_if1, x_eq1, x_10, x_01, x_11, x_00, ↓reduceIte, r_nz, r_ar1L0, r_ar1L1, lt_n0_, lt_n1_, upd_s, upd_o, u2_eq, u2_n1, u2_n2, r_p1, r_p5, r_p6, r_p7, r_p9, r_p10, r_p11, r_p13, r_p19, r_p23, r_p26, r_p27, r_p32, r_p33, r_p34, r_ar1, r_ar9, r_ar10, r_ar11, r_ar12, r_ar13, r_ar14, r_ar15, r_ar16, r_ar17, r_ar18, r_ar19, r_ar74, r_ar75, r_ar76, n2_, n4_, n12_, n24_, n28_, n50_, n54_, n76_, n80_, n102_, n128_, n154_, n180_, n206_, n232_, n258_, n284_, n310_, n336_, n362_, n380_, n680_, r_get0, r_get1, r_get2, r_get3, r_get4, r_get8, r_get9, r_get10, r_get11, r_get12, r_get13, r_put0, r_put1, r_put2, r_put3, r_put4, r_put5, r_put6, r_put7, r_put8, r_put9, r_put10, r_put11, r_more10, r_more12, r_more13, r_more14, r_more15, r_more16, r_more17, r_more18, r_more19, r_more20]
    have e : upd U 9 fed = qEmpty W fed := funext fun w => by
      unfold qEmpty upd
      by_cases q : w = 9
      · rw [if_pos q, if_pos q]
      · rw [if_neg q, if_neg q, hU w]
    rw [e]
  | n + 1, U, hn, hU => by
    have g1 : nI (300 - (n + 1)) = nI (299 - n) := by congr 1; omega
    have g2 : nI (299 - n) + 1 = nI (300 - n) := by
      rw [show nI (299 - n) + 1 = nI (299 - n + 1) from lt_iA (j := 299 - n) (k := 1)]
      congr 1
      omega
    have g3 : nI (299 - n) < (300 : Int32) := (lt_iL (j := 299 - n) (k := 300) (by omega) (by omega)).mpr (by omega)
    have ih := r_empties_25 d h hu n (upd U (362 + (299 - n)) (-1)) (by omega) (fun w => by
      have := hU w
      unfold upd
      by_cases q : w = 362 + (299 - n)
      · rw [if_pos q, if_neg (by omega), if_pos (by omega)]
      · rw [if_neg q, this]
        by_cases a : 9 ≤ w ∧ w < 362
        · rw [if_pos a, if_pos a]
        · rw [if_neg a, if_neg a]
          by_cases b : 362 ≤ w ∧ w < 662 - n
          · rw [if_pos b, if_pos (by omega)]
          · rw [if_neg b, if_neg (by omega)])
    rw [g1, e_X11_empties_25, if_pos g3]
    simp (maxSteps := 1000000) (disch := first | assumption | omega) only [x_rf, x_m, lt_bv_r, lt_bi_r, lt_bl_r, ↓r_ck, r_get, r_put, r_more, rM_h, rM_f, rM_x, rM_wf, rM_wx, rM_wh, lt_iN, lt_b1_0, lt_b1_1, x_if1, x_eq1, x_10, x_01, x_11, x_00, ↓reduceIte, r_nz, r_ar1L0, r_ar1L1, lt_n0_, lt_n1_, upd_s, upd_o, u2_eq, u2_n1, u2_n2, r_p1, r_p5, r_p6, r_p7, r_p9, r_p10, r_p11, r_p13, r_p19, r_p23, r_p26, r_p27, r_p32, r_p33, r_p34, r_ar1, r_ar9, r_ar10, r_ar11, r_ar12, r_ar13, r_ar14, r_ar15, r_ar16, r_ar17, r_ar18, r_ar19, r_ar74, r_ar75, r_ar76, n2_, n4_, n12_, n24_, n28_, n50_, n54_, n76_, n80_, n102_, n128_, n154_, n180_, n206_, n232_, n258_, n284_, n310_, n336_, n362_, n380_, n680_, r_get0, r_get1, r_get2, r_get3, r_get4, r_get8, r_get9, r_get10, r_get11, r_get12, r_get13, r_put0, r_put1, r_put2, r_put3, r_put4, r_put5, r_put6, r_put7, r_put8, r_put9, r_put10, r_put11, r_more10, r_more12, r_more13, r_more14, r_more15, r_more16, r_more17, r_more18, r_more19, r_more20, g2]
    exact ih
theorem r_empties_3 (d : Nat) (h : RA M o) (hu : u < 18) : ∀ (n : Nat) (U : Nat → Int32), n ≤ 353 → (∀ w, U w = if 9 ≤ w ∧ w < 362 - n then 0 else W w) →
    f_X11_empties_3 (d + 2) (rM M o H (u1 V u U) X) o (nI u) fed (nI (362 - n)) = some (.inl none, rM M o H (u1 V u (qEmpty W fed)) X)
  | 0, U, _, hU => by
    rw [e_X11_empties_3, if_neg (by decide)]
    exact r_empties_25 d h hu 300 U (Nat.le_refl _) (fun w => by
      rw [hU w]
      by_cases a : 9 ≤ w ∧ w < 362
      · rw [if_pos (by omega), if_pos a]
      · rw [if_neg (by omega), if_neg a, if_neg (by omega)])
  | n + 1, U, hn, hU => by
    have g1 : nI (362 - (n + 1)) = nI (361 - n) := by congr 1; omega
    have g2 : nI (361 - n) + 1 = nI (362 - n) := by
      rw [show nI (361 - n) + 1 = nI (361 - n + 1) from lt_iA (j := 361 - n) (k := 1)]
      congr 1
      omega
    have g3 : nI (361 - n) < (362 : Int32) := (lt_iL (j := 361 - n) (k := 362) (by omega) (by omega)).mpr (by omega)
    have ih := r_empties_3 d h hu n (upd U (361 - n) 0) (by omega) (fun w => by
      have := hU w
      unfold upd
      by_cases q : w = 361 - n
      · rw [if_pos q, if_pos (by omega)]
      · rw [if_neg q, this]
        by_cases a : 9 ≤ w ∧ w < 362 - n
        · rw [if_pos a, if_pos (by omega)]
        · rw [if_neg a, if_neg (by omega)])
    rw [g1, e_X11_empties_3, if_pos g3]
    simp (maxSteps := 1000000) (disch := first | assumption | omega) only [x_rf, x_m, lt_bv_r, lt_bi_r, lt_bl_r, ↓r_ck, r_get, r_put, r_more, rM_h, rM_f, rM_x, rM_wf, rM_wx, rM_wh, lt_iN, lt_b1_0, lt_b1_1, x_if1, x_eq1, x_10, x_01, x_11, x_00, ↓reduceIte, r_nz, r_ar1L0, r_ar1L1, lt_n0_, lt_n1_, upd_s, upd_o, u2_eq, u2_n1, u2_n2, r_p1, r_p5, r_p6, r_p7, r_p9, r_p10, r_p11, r_p13, r_p19, r_p23, r_p26, r_p27, r_p32, r_p33, r_p34, r_ar1, r_ar9, r_ar10, r_ar11, r_ar12, r_ar13, r_ar14, r_ar15, r_ar16, r_ar17, r_ar18, r_ar19, r_ar74, r_ar75, r_ar76, n2_, n4_, n12_, n24_, n28_, n50_, n54_, n76_, n80_, n102_, n128_, n154_, n180_, n206_, n232_, n258_, n284_, n310_, n336_, n362_, n380_, n680_, r_get0, r_get1, r_get2, r_get3, r_get4, r_get8, r_get9, r_get10, r_get11, r_get12, r_get13, r_put0, r_put1, r_put2, r_put3, r_put4, r_put5, r_put6, r_put7, r_put8, r_put9, r_put10, r_put11, r_more10, r_more12, r_more13, r_more14, r_more15, r_more16, r_more17, r_more18, r_more19, r_more20, g2]
    exact ih
theorem r_empties (d : Nat) (h : RA M o) (hu : u < 18) : f_X11_empties (d + 2) (rM M o H V X) o (nI u) fed = some (.inl none, rM M o H (u1 V u (qEmpty (V u) fed)) X) := by
  have := r_empties_3 (M := M) (o := o) (H := H) (V := V) (X := X) (fed := fed) (W := V u) d h hu 353 (V u) (Nat.le_refl _) (fun w => by rw [if_neg (by omega)])
  rw [u1_id] at this
  rw [e_X11_empties]
  exact this
def qEmptyC (V : Nat → Nat → Int32) (c : Nat) (fed : Int32) : Nat → Nat → Int32 := fun u => if u = c ∨ u = 6 + 2 * c ∨ u = 7 + 2 * c then qEmpty (V u) fed else V u
theorem r_emptiesAll (d : Nat) (h : RA M o) (hc : c < 6) : f_X11_emptiesAll (d + 3) (rM M o H V X) o (nI c) fed = some (.inl none, rM M o H (qEmptyC V c fed) X) := by
  have sh := fun d (M : LM) => (r_shadow (M := M) (c := c) d).1
  have sh' := fun d (M : LM) => (r_shadow (M := M) (c := c) d).2
  have e1 := r_empties (M := M) (o := o) (H := H) (V := V) (X := X) (u := c) (fed := fed) d h (by omega)
  have e2 := fun V => r_empties (M := M) (o := o) (H := H) (V := V) (X := X) (u := 6 + 2 * c) (fed := fed) d h (by omega)
  have e3 := fun V => r_empties (M := M) (o := o) (H := H) (V := V) (X := X) (u := 7 + 2 * c) (fed := fed) d h (by omega)
  rw [e_X11_emptiesAll]
  simp (maxSteps := 1000000) (disch := first | assumption | omega) only [x_rf, x_m, lt_bv_r, lt_bi_r, lt_bl_r, ↓r_ck, r_get, r_put, r_more, rM_h, rM_f, rM_x, rM_wf, rM_wx, rM_wh, lt_iN, lt_b1_0, lt_b1_1, x_if1, x_eq1, x_10, x_01, x_11, x_00, ↓reduceIte, r_nz, r_ar1L0, r_ar1L1, lt_n0_, lt_n1_, upd_s, upd_o, u2_eq, u2_n1, u2_n2, r_p1, r_p5, r_p6, r_p7, r_p9, r_p10, r_p11, r_p13, r_p19, r_p23, r_p26, r_p27, r_p32, r_p33, r_p34, r_ar1, r_ar9, r_ar10, r_ar11, r_ar12, r_ar13, r_ar14, r_ar15, r_ar16, r_ar17, r_ar18, r_ar19, r_ar74, r_ar75, r_ar76, n2_, n4_, n12_, n24_, n28_, n50_, n54_, n76_, n80_, n102_, n128_, n154_, n180_, n206_, n232_, n258_, n284_, n310_, n336_, n362_, n380_, n680_, r_get0, r_get1, r_get2, r_get3, r_get4, r_get8, r_get9, r_get10, r_get11, r_get12, r_get13, r_put0, r_put1, r_put2, r_put3, r_put4, r_put5, r_put6, r_put7, r_put8, r_put9, r_put10, r_put11, r_more10, r_more12, r_more13, r_more14, r_more15, r_more16, r_more17, r_more18, r_more19, r_more20, sh, sh', e1, e2, e3]
  have : ∀ (a b : Nat → Nat → Int32), a = b → (some (Sum.inl none, rM M o H a X) : Option (LO × LM)) = some (Sum.inl none, rM M o H b X) := fun a b e => by rw [e]
  refine this _ _ (funext fun u => ?_)
  unfold qEmptyC u1
  by_cases a : u = c
  · rw [if_neg (by omega), if_neg (by omega), if_pos a, if_pos (Or.inl a), a]
  · by_cases b : u = 6 + 2 * c
    · rw [if_neg (by omega), if_pos b, if_neg (by omega), if_pos (Or.inr (Or.inl b)), b]
    · by_cases e : u = 7 + 2 * c
      · rw [if_pos e, if_neg (by omega), if_neg (by omega), if_pos (Or.inr (Or.inr e)), e]
      · rw [if_neg e, if_neg b, if_neg a, if_neg (by omega)]
/-- a cache and its shadows set up -/
def qSetUp (V : Nat → Nat → Int32) (c : Nat) (rule room lapse mode : Int32) : Nat → Nat → Int32 := fun u w =>
  if u = c then (if w = 0 then rule else if w = 1 then room else if w = 2 then lapse else if w = 3 then mode else if 4 ≤ w ∧ w < 9 then 0 else V u w)
  else if u = 6 + 2 * c then (if w = 0 then 0 else if w = 1 then room else V u w)
  else if u = 7 + 2 * c then (if w = 0 then 1 else if w = 1 then room else V u w) else V u w
theorem r_setsUp_33 (d : Nat) (h : RA M o) (hu : u < 18) {room : Int32} : ∀ (n : Nat) (U : Nat → Int32), n ≤ 5 → (∀ w, U w = if 4 ≤ w ∧ w < 9 - n then 0 else W w) →
    f_X11_setsUp_33 (d + 4) (rM M o H (u1 V u U) X) o (nI u) room (nI (5 - n)) = f_X11_setsUp_58 (d + 4) (rM M o H (u1 V u (fun w => if 4 ≤ w ∧ w < 9 then 0 else W w)) X) o (nI u) room 0
  | 0, U, _, hU => by
    rw [e_X11_setsUp_33, if_neg (by decide)]
    rw [show U = (fun w => if 4 ≤ w ∧ w < 9 then 0 else W w) from funext hU]
  | n + 1, U, hn, hU => by
    have g1 : nI (5 - (n + 1)) = nI (4 - n) := by congr 1; omega
    have g2 : nI (4 - n) + 1 = nI (5 - n) := by
      rw [show nI (4 - n) + 1 = nI (4 - n + 1) from lt_iA (j := 4 - n) (k := 1)]
      congr 1
      omega
    have g3 : nI (4 - n) < (5 : Int32) := (lt_iL (j := 4 - n) (k := 5) (by omega) (by omega)).mpr (by omega)
    have ih := r_setsUp_33 d h hu (room := room) n (upd U (4 + (4 - n)) 0) (by omega) (fun w => by
      have := hU w
      unfold upd
      by_cases q : w = 4 + (4 - n)
      · rw [if_pos q, if_pos (by omega)]
      · rw [if_neg q, this]
        by_cases a : 4 ≤ w ∧ w < 9 - n
        · rw [if_pos a, if_pos (by omega)]
        · rw [if_neg a, if_neg (by omega)])
    rw [g1, e_X11_setsUp_33, if_pos g3]
    simp (maxSteps := 1000000) (disch := first | assumption | omega) only [x_rf, x_m, lt_bv_r, lt_bi_r, lt_bl_r, ↓r_ck, r_get, r_put, r_more, rM_h, rM_f, rM_x, rM_wf, rM_wx, rM_wh, lt_iN, lt_b1_0, lt_b1_1, x_if1, x_eq1, x_10, x_01, x_11, x_00, ↓reduceIte, r_nz, r_ar1L0, r_ar1L1, lt_n0_, lt_n1_, upd_s, upd_o, u2_eq, u2_n1, u2_n2, r_p1, r_p5, r_p6, r_p7, r_p9, r_p10, r_p11, r_p13, r_p19, r_p23, r_p26, r_p27, r_p32, r_p33, r_p34, r_ar1, r_ar9, r_ar10, r_ar11, r_ar12, r_ar13, r_ar14, r_ar15, r_ar16, r_ar17, r_ar18, r_ar19, r_ar74, r_ar75, r_ar76, n2_, n4_, n12_, n24_, n28_, n50_, n54_, n76_, n80_, n102_, n128_, n154_, n180_, n206_, n232_, n258_, n284_, n310_, n336_, n362_, n380_, n680_, r_get0, r_get1, r_get2, r_get3, r_get4, r_get8, r_get9, r_get10, r_get11, r_get12, r_get13, r_put0, r_put1, r_put2, r_put3, r_put4, r_put5, r_put6, r_put7, r_put8, r_put9, r_put10, r_put11, r_more10, r_more12, r_more13, r_more14, r_more15, r_more16, r_more17, r_more18, r_more19, r_more20, g2]
    exact ih
theorem r_setsUp (d : Nat) (h : RA M o) (hc : c < 6) {rule room lapse mode : Int32} : f_X11_setsUp (d + 4) (rM M o H V X) o (nI c) rule room lapse mode = some (.inl none, rM M o H (qEmptyC (qSetUp V c rule room lapse mode) c (H 0)) X) := by
  have hu : c < 18 := by omega
  have e0 := r_setsUp_33 (M := M) (o := o) (H := H) (V := V) (X := X) (u := c) (room := room) (W := upd (upd (upd (upd (V c) 0 rule) 1 room) 2 lapse) 3 mode) d h hu 5 (upd (upd (upd (upd (V c) 0 rule) 1 room) 2 lapse) 3 mode) (Nat.le_refl _) (fun w => by rw [if_neg (by omega)])
  have e0' : f_X11_setsUp_33 (d + 4) (rM M o H (u1 V c (upd (upd (upd (upd (V c) 0 rule) 1 room) 2 lapse) 3 mode)) X) o (nI c) room 0 = _ := e0
  have sh := fun d (M : LM) => (r_shadow (M := M) (c := c) d).1
  have sh' := fun d (M : LM) => (r_shadow (M := M) (c := c) d).2
  have a6 : 6 + 2 * c < 18 := by omega
  have a7 : 7 + 2 * c < 18 := by omega
  have ea := fun V => r_emptiesAll (M := M) (o := o) (H := H) (V := V) (X := X) (c := c) (fed := H 0) d h hc
  have p0 : ∀ (d : Nat) (V : Nat → Nat → Int32) (u : Nat) (hu : u < 18) (w : Int32), f_X11_put (d + 1) (rM M o H V X) o (nI u) 0 w = some (.inl none, rM M o H (u1 V u (upd (V u) 0 w)) X) := fun d V u hu w => by
    have := r_put0 (M := M) (o := o) (H := H) (V := V) (X := X) (u := u) (U := V u) (v := w) d h hu
    rw [u1_id] at this
    exact this
  have p1 : ∀ (d : Nat) (V : Nat → Nat → Int32) (u : Nat) (hu : u < 18) (w : Int32), f_X11_put (d + 1) (rM M o H V X) o (nI u) 1 w = some (.inl none, rM M o H (u1 V u (upd (V u) 1 w)) X) := fun d V u hu w => by
    have := r_put1 (M := M) (o := o) (H := H) (V := V) (X := X) (u := u) (U := V u) (v := w) d h hu
    rw [u1_id] at this
    exact this
  have l02 : (0 : Int32) < 2 := by decide
  have l12 : (0 : Int32) + 1 < 2 := by decide
  have l22 : ¬ (0 : Int32) + 1 + 1 < 2 := by decide
  have l1 : (0 : Int32) + 1 = 1 := by decide
  have e58 : ∀ V, f_X11_setsUp_58 (d + 4) (rM M o H V X) o (nI c) room 0 = some (.inl none, rM M o H (qEmptyC (u1 (u1 (u1 (u1 V (6 + 2 * c) (upd (V (6 + 2 * c)) 0 0)) (6 + 2 * c) (upd (upd (V (6 + 2 * c)) 0 0) 1 room)) (7 + 2 * c) (upd (V (7 + 2 * c)) 0 1)) (7 + 2 * c) (upd (upd (V (7 + 2 * c)) 0 1) 1 room)) c (H 0)) X) := by
    intro V
    have w1 : ∀ U U', (u1 (u1 V (6 + 2 * c) U) (6 + 2 * c) U') (7 + 2 * c) = V (7 + 2 * c) := fun U U' => by unfold u1; rw [if_neg (by omega), if_neg (by omega)]
    rw [e_X11_setsUp_58, if_pos l02, sh, lt_bi_r, r_ck h, p0 _ _ _ a6, lt_bv_r, sh, lt_bi_r, r_ck h, p1 _ _ _ a6, lt_bv_r]
    rw [e_X11_setsUp_58, if_pos l12, l1, sh', lt_bi_r, r_ck h, p0 _ _ _ a7, lt_bv_r, sh', lt_bi_r, r_ck h, p1 _ _ _ a7, lt_bv_r]
    rw [e_X11_setsUp_58, if_neg (by decide), r_ck h]
    rw [u1_same, w1, u1_same]
    simp (maxSteps := 1000000) (disch := first | assumption | omega) only [x_rf, x_m, lt_bv_r, lt_bi_r, lt_bl_r, ↓r_ck, r_get, r_put, r_more, rM_h, rM_f, rM_x, rM_wf, rM_wx, rM_wh, lt_iN, lt_b1_0, lt_b1_1, x_if1, x_eq1, x_10, x_01, x_11, x_00, ↓reduceIte, r_nz, r_ar1L0, r_ar1L1, lt_n0_, lt_n1_, upd_s, upd_o, u2_eq, u2_n1, u2_n2, r_p1, r_p5, r_p6, r_p7, r_p9, r_p10, r_p11, r_p13, r_p19, r_p23, r_p26, r_p27, r_p32, r_p33, r_p34, r_ar1, r_ar9, r_ar10, r_ar11, r_ar12, r_ar13, r_ar14, r_ar15, r_ar16, r_ar17, r_ar18, r_ar19, r_ar74, r_ar75, r_ar76, n2_, n4_, n12_, n24_, n28_, n50_, n54_, n76_, n80_, n102_, n128_, n154_, n180_, n206_, n232_, n258_, n284_, n310_, n336_, n362_, n380_, n680_, r_get0, r_get1, r_get2, r_get3, r_get4, r_get8, r_get9, r_get10, r_get11, r_get12, r_get13, r_put0, r_put1, r_put2, r_put3, r_put4, r_put5, r_put6, r_put7, r_put8, r_put9, r_put10, r_put11, r_more10, r_more12, r_more13, r_more14, r_more15, r_more16, r_more17, r_more18, r_more19, r_more20, ea]
  rw [e_X11_setsUp, r_ck h, p0 _ _ _ hu, lt_bv_r]
  simp (maxSteps := 1000000) (disch := first | assumption | omega) only [x_rf, x_m, lt_bv_r, lt_bi_r, lt_bl_r, ↓r_ck, r_get, r_put, r_more, rM_h, rM_f, rM_x, rM_wf, rM_wx, rM_wh, lt_iN, lt_b1_0, lt_b1_1, x_if1, x_eq1, x_10, x_01, x_11, x_00, ↓reduceIte, r_nz, r_ar1L0, r_ar1L1, lt_n0_, lt_n1_, upd_s, upd_o, u2_eq, u2_n1, u2_n2, r_p1, r_p5, r_p6, r_p7, r_p9, r_p10, r_p11, r_p13, r_p19, r_p23, r_p26, r_p27, r_p32, r_p33, r_p34, r_ar1, r_ar9, r_ar10, r_ar11, r_ar12, r_ar13, r_ar14, r_ar15, r_ar16, r_ar17, r_ar18, r_ar19, r_ar74, r_ar75, r_ar76, n2_, n4_, n12_, n24_, n28_, n50_, n54_, n76_, n80_, n102_, n128_, n154_, n180_, n206_, n232_, n258_, n284_, n310_, n336_, n362_, n380_, n680_, r_get0, r_get1, r_get2, r_get3, r_get4, r_get8, r_get9, r_get10, r_get11, r_get12, r_get13, r_put0, r_put1, r_put2, r_put3, r_put4, r_put5, r_put6, r_put7, r_put8, r_put9, r_put10, r_put11, r_more10, r_more12, r_more13, r_more14, r_more15, r_more16, r_more17, r_more18, r_more19, r_more20, e0', e58]
  have : ∀ (a b : Nat → Nat → Int32), (∀ u w, a u w = b u w) → (some (Sum.inl none, rM M o H (qEmptyC a c (H 0)) X) : Option (LO × LM)) = some (Sum.inl none, rM M o H (qEmptyC b c (H 0)) X) := fun a b e => by rw [show a = b from funext fun u => funext fun w => e u w]
  refine this _ _ (fun u w => ?_)
  unfold qSetUp u1 upd
  by_cases a : u = c
  · subst a
    have b1 : ¬ u = 6 + 2 * u := by omega
    have b2 : ¬ u = 7 + 2 * u := by omega
    simp only [b1, b2, if_true, if_false]
    by_cases q0 : w = 0
    · subst q0; simp
    · by_cases q1 : w = 1
      · subst q1; simp
      · by_cases q2 : w = 2
        · subst q2; simp
        · by_cases q3 : w = 3
          · subst q3; simp
          · simp only [q0, q1, q2, q3, if_false]
  · by_cases b : u = 6 + 2 * c
    · subst b
      have b2 : ¬ 6 + 2 * c = 7 + 2 * c := by omega
      simp only [a, b2, if_true, if_false]
      by_cases q0 : w = 0
      · subst q0; simp
      · by_cases q1 : w = 1
        · subst q1; simp
        · simp only [q0, q1, if_false]
    · by_cases e : u = 7 + 2 * c
      · subst e
        have b3 : ¬ 7 + 2 * c = 6 + 2 * c := by omega
        simp only [a, b3, if_true, if_false]
        by_cases q0 : w = 0
        · subst q0; simp
        · by_cases q1 : w = 1
          · subst q1; simp
          · simp only [q0, q1, if_false]
      · simp only [a, b, e, if_false]
end Rq
