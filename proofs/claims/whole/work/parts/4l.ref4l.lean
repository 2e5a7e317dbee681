/-! THE REFERENCE: the text -/
def pX (X : Nat → Nat → Int32) (a e : Int32) : Nat → Nat → Int32 := u2 (u2 X 0 21 a) 0 22 e
/-- blanks passed over; m: how many bytes are left -/
def qSkip (T : Nat → Int32) (len : Nat) : Nat → Nat
  | 0 => len
  | m + 1 => if T (len - (m + 1)) = 32 then qSkip T len m else len - (m + 1)
def qIs (T : Nat → Int32) (len a : Nat) (c : Int32) : Bool := decide (a < len) && decide (T a = c)
def qDgt (c : Int32) : Bool := !decide (c < 48) && !decide (57 < c)
/-- digits read -/
def qDigs (T : Nat → Int32) (len : Nat) : Nat → Int32 → Nat × Int32
  | 0, v => (len, v)
  | m + 1, v => if qDgt (T (len - (m + 1))) = true then qDigs T len m (if 10 * v + T (len - (m + 1)) - 48 < 1000 then 10 * v + T (len - (m + 1)) - 48 else 1000) else (len - (m + 1), v)
/-- a number: its value, the place behind, the error -/
def qNum (T : Nat → Int32) (len a : Nat) (e : Int32) : Int32 × Nat × Int32 :=
  let r := qDigs T len (len - a) 0
  if 2 < r.1 - a then (0, r.1, nI a) else if qIn r.2 1 50 = true then (r.2, r.1, e) else (0, r.1, nI a)
section Sc
variable {M M' : LM} {o i j k u w y f t n x m a len : Nat} {H : Nat → Int32} {V V' X : Nat → Nat → Int32} {T : Nat → Int32} {v b c e r a' e' : Int32} {z : Option (LO × LM)} {kf fs : Nat → Nat}
theorem p21 : pX X b e 0 21 = b := (u2_n2 (by omega)).trans u2_eq
theorem p22 : pX X b e 0 22 = e := u2_eq
theorem p20 : pX X b e 0 20 = X 0 20 := (u2_n2 (by omega)).trans (u2_n2 (by omega))
theorem p16 : pX X b e 16 = X 16 := (u2_n1 (by omega)).trans (u2_n1 (by omega))
theorem pw21 : u2 (pX X b e) 0 21 a' = pX X a' e := funext fun x => funext fun i => by
  unfold pX u2
  by_cases h1 : x = 0 ∧ i = 21
  · rw [if_pos h1, if_neg (by omega), if_pos h1]
  · rw [if_neg h1]
    by_cases h2 : x = 0 ∧ i = 22
    · rw [if_pos h2, if_pos h2]
    · rw [if_neg h2, if_neg h2, if_neg h1, if_neg h1]
theorem pw22 : u2 (pX X b e) 0 22 e' = pX X b e' := funext fun x => funext fun i => by
  unfold pX u2
  by_cases h2 : x = 0 ∧ i = 22
  · rw [if_pos h2, if_pos h2]
  · rw [if_neg h2, if_neg h2, if_neg h2]
theorem qSkip_le : ∀ (m : Nat), qSkip T len m ≤ len
  | 0 => Nat.le_refl _
  | m + 1 => by
    unfold qSkip
    split
    · exact qSkip_le m
    · omega
theorem qSkip_ge : ∀ (m : Nat), len - m ≤ qSkip T len m
  | 0 => Nat.le_refl _
  | m + 1 => by
    unfold qSkip
    split
    · have := qSkip_ge m
      omega
    · omega
theorem r_isNext_38 (d : Nat) (h : RA M o) (hl : len ≤ 200) (h20 : X 0 20 = nI len) (ha : a ≤ len) : f_X11_isNext_38 (d + 1) (rM M o H V (pX X (nI a) e)) o c = some (.inl (some (.int (bI (qIs (X 16) len a c)))), rM M o H V (pX X (nI a) e)) := by
  rw [e_X11_isNext_38]
  unfold qIs
  by_cases q : a < len
  · have hlt : nI a < nI len := by rw [nI_ltP (by omega) (by omega)]; exact q
    simp (maxSteps := 1000000) (disch := first | assumption | omega) only [x_rf, x_m, lt_bv_r, lt_bi_r, lt_bl_r, ↓r_ck, r_get, r_put, r_more, rM_h, rM_f, rM_x, rM_wf, rM_wx, rM_wh, lt_iN, lt_b1_0, lt_b1_1, x_if1, x_eq1, x_10, x_01, x_11, x_00, ↓reduceIte, r_nz, r_ar1L0, r_ar1L1, lt_n0_, lt_n1_, upd_s, upd_o, u2_eq, u2_n1, u2_n2, r_p1, r_p5, r_p6, r_p7, r_p9, r_p10, r_p11, r_p13, r_p19, r_p23, r_p26, r_p27, r_p32, r_p33, r_p34, r_ar1, r_ar9, r_ar10, r_ar11, r_ar12, r_ar13, r_ar14, r_ar15, r_ar16, r_ar17, r_ar18, r_ar19, r_ar74, r_ar75, r_ar76, n2_, n4_, n12_, n24_, n28_, n50_, n54_, n76_, n80_, n102_, n128_, n154_, n180_, n206_, n232_, n258_, n284_, n310_, n336_, n362_, n380_, n680_, r_get0, r_get1, r_get2, r_get3, r_get4, r_get8, r_get9, r_get10, r_get11, r_get12, r_get13, r_put0, r_put1, r_put2, r_put3, r_put4, r_put5, r_put6, r_put7, r_put8, r_put9, r_put10, r_put11, r_more10, r_more12, r_more13, r_more14, r_more15, r_more16, r_more17, r_more18, r_more19, r_more20, p21, p20, p16, h20, hlt, x_res]
    simp [q, bI]
  · have hlt : ¬ nI a < nI len := by rw [nI_ltP (by omega) (by omega)]; exact q
    simp (maxSteps := 1000000) (disch := first | assumption | omega) only [x_rf, x_m, lt_bv_r, lt_bi_r, lt_bl_r, ↓r_ck, r_get, r_put, r_more, rM_h, rM_f, rM_x, rM_wf, rM_wx, rM_wh, lt_iN, lt_b1_0, lt_b1_1, x_if1, x_eq1, x_10, x_01, x_11, x_00, ↓reduceIte, r_nz, r_ar1L0, r_ar1L1, lt_n0_, lt_n1_, upd_s, upd_o, u2_eq, u2_n1, u2_n2, r_p1, r_p5, r_p6, r_p7, r_p9, r_p10, r_p11, r_p13, r_p19, r_p23, r_p26, r_p27, r_p32, r_p33, r_p34, r_ar1, r_ar9, r_ar10, r_ar11, r_ar12, r_ar13, r_ar14, r_ar15, r_ar16, r_ar17, r_ar18, r_ar19, r_ar74, r_ar75, r_ar76, n2_, n4_, n12_, n24_, n28_, n50_, n54_, n76_, n80_, n102_, n128_, n154_, n180_, n206_, n232_, n258_, n284_, n310_, n336_, n362_, n380_, n680_, r_get0, r_get1, r_get2, r_get3, r_get4, r_get8, r_get9, r_get10, r_get11, r_get12, r_get13, r_put0, r_put1, r_put2, r_put3, r_put4, r_put5, r_put6, r_put7, r_put8, r_put9, r_put10, r_put11, r_more10, r_more12, r_more13, r_more14, r_more15, r_more16, r_more17, r_more18, r_more19, r_more20, p21, p20, h20, hlt]
    simp [q, bI]
theorem r_isNext_0 (d : Nat) (h : RA M o) (hl : len ≤ 200) (h20 : X 0 20 = nI len) : ∀ (m : Nat), m ≤ len → f_X11_isNext_0 (d + 1) (rM M o H V (pX X (nI (len - m)) e)) o c = some (.inl (some (.int (bI (qIs (X 16) len (qSkip (X 16) len m) c)))), rM M o H V (pX X (nI (qSkip (X 16) len m)) e))
  | 0, _ => by
    have hlt : ¬ nI len < nI len := by rw [nI_ltP (by omega) (by omega)]; omega
    have e38 := r_isNext_38 (M := M) (o := o) (H := H) (V := V) (X := X) (a := len) (e := e) (c := c) d h hl h20 (Nat.le_refl _)
    rw [e_X11_isNext_0, Nat.sub_zero]
    simp (maxSteps := 1000000) (disch := first | assumption | omega) only [x_rf, x_m, lt_bv_r, lt_bi_r, lt_bl_r, ↓r_ck, r_get, r_put, r_more, rM_h, rM_f, rM_x, rM_wf, rM_wx, rM_wh, lt_iN, lt_b1_0, lt_b1_1, x_if1, x_eq1, x_10, x_01, x_11, x_00, ↓reduceIte, r_nz, r_ar1L0, r_ar1L1, lt_n0_, lt_n1_, upd_s, upd_o, u2_eq, u2_n1, u2_n2, r_p1, r_p5, r_p6, r_p7, r_p9, r_p10, r_p11, r_p13, r_p19, r_p23, r_p26, r_p27, r_p32, r_p33, r_p34, r_ar1, r_ar9, r_ar10, r_ar11, r_ar12, r_ar13, r_ar14, r_ar15, r_ar16, r_ar17, r_ar18, r_ar19, r_ar74, r_ar75, r_ar76, n2_, n4_, n12_, n24_, n28_, n50_, n54_, n76_, n80_, n102_, n128_, n154_, n180_, n206_, n232_, n258_, n284_, n310_, n336_, n362_, n380_, n680_, r_get0, r_get1, r_get2, r_get3, r_get4, r_get8, r_get9, r_get10, r_get11, r_get12, r_get13, r_put0, r_put1, r_put2, r_put3, r_put4, r_put5, r_put6, r_put7, r_put8, r_put9, r_put10, r_put11, r_more10, r_more12, r_more13, r_more14, r_more15, r_more16, r_more17, r_more18, r_more19, r_more20, p21, p20, h20, hlt]
    exact e38
  | m + 1, hm => by
    have hlt : nI (len - (m + 1)) < nI len := by rw [nI_ltP (by omega) (by omega)]; omega
    have g2 : nI (len - (m + 1)) + 1 = nI (len - m) := by
      rw [show nI (len - (m + 1)) + 1 = nI (len - (m + 1) + 1) from lt_iA (j := len - (m + 1)) (k := 1)]
      congr 1
      omega
    have ih := r_isNext_0 d h hl h20 m (by omega)
    have e38 := r_isNext_38 (M := M) (o := o) (H := H) (V := V) (X := X) (a := len - (m + 1)) (e := e) (c := c) d h hl h20 (by omega)
    rw [e_X11_isNext_0]
    rw [show qSkip (X 16) len (m + 1) = if X 16 (len - (m + 1)) = 32 then qSkip (X 16) len m else len - (m + 1) from rfl]
    by_cases q : X 16 (len - (m + 1)) = 32
    · rw [if_pos q]
      simp (maxSteps := 1000000) (disch := first | assumption | omega) only [x_rf, x_m, lt_bv_r, lt_bi_r, lt_bl_r, ↓r_ck, r_get, r_put, r_more, rM_h, rM_f, rM_x, rM_wf, rM_wx, rM_wh, lt_iN, lt_b1_0, lt_b1_1, x_if1, x_eq1, x_10, x_01, x_11, x_00, ↓reduceIte, r_nz, r_ar1L0, r_ar1L1, lt_n0_, lt_n1_, upd_s, upd_o, u2_eq, u2_n1, u2_n2, r_p1, r_p5, r_p6, r_p7, r_p9, r_p10, r_p11, r_p13, r_p19, r_p23, r_p26, r_p27, r_p32, r_p33, r_p34, r_ar1, r_ar9, r_ar10, r_ar11, r_ar12, r_ar13, r_ar14, r_ar15, r_ar16, r_ar17, r_ar18, r_ar19, r_ar74, r_ar75, r_ar76, n2_, n4_, n12_, n24_, n28_, n50_, n54_, n76_, n80_, n102_, n128_, n154_, n180_, n206_, n232_, n258_, n284_, n310_, n336_, n362_, n380_, n680_, r_get0, r_get1, r_get2, r_get3, r_get4, r_get8, r_get9, r_get10, r_get11, r_get12, r_get13, r_put0, r_put1, r_put2, r_put3, r_put4, r_put5, r_put6, r_put7, r_put8, r_put9, r_put10, r_put11, r_more10, r_more12, r_more13, r_more14, r_more15, r_more16, r_more17, r_more18, r_more19, r_more20, p21, p20, p16, h20, hlt, q, pw21, g2]
      exact ih
    · rw [if_neg q]
      simp (maxSteps := 1000000) (disch := first | assumption | omega) only [x_rf, x_m, lt_bv_r, lt_bi_r, lt_bl_r, ↓r_ck, r_get, r_put, r_more, rM_h, rM_f, rM_x, rM_wf, rM_wx, rM_wh, lt_iN, lt_b1_0, lt_b1_1, x_if1, x_eq1, x_10, x_01, x_11, x_00, ↓reduceIte, r_nz, r_ar1L0, r_ar1L1, lt_n0_, lt_n1_, upd_s, upd_o, u2_eq, u2_n1, u2_n2, r_p1, r_p5, r_p6, r_p7, r_p9, r_p10, r_p11, r_p13, r_p19, r_p23, r_p26, r_p27, r_p32, r_p33, r_p34, r_ar1, r_ar9, r_ar10, r_ar11, r_ar12, r_ar13, r_ar14, r_ar15, r_ar16, r_ar17, r_ar18, r_ar19, r_ar74, r_ar75, r_ar76, n2_, n4_, n12_, n24_, n28_, n50_, n54_, n76_, n80_, n102_, n128_, n154_, n180_, n206_, n232_, n258_, n284_, n310_, n336_, n362_, n380_, n680_, r_get0, r_get1, r_get2, r_get3, r_get4, r_get8, r_get9, r_get10, r_get11, r_get12, r_get13, r_put0, r_put1, r_put2, r_put3, r_put4, r_put5, r_put6, r_put7, r_put8, r_put9, r_put10, r_put11, r_more10, r_more12, r_more13, r_more14, r_more15, r_more16, r_more17, r_more18, r_more19, r_more20, p21, p20, p16, h20, hlt, q]
      exact e38
theorem r_isNext (d : Nat) (h : RA M o) (hl : len ≤ 200) (h20 : X 0 20 = nI len) (ha : a ≤ len) : f_X11_isNext (d + 1) (rM M o H V (pX X (nI a) e)) o c = some (.inl (some (.int (bI (qIs (X 16) len (qSkip (X 16) len (len - a)) c)))), rM M o H V (pX X (nI (qSkip (X 16) len (len - a))) e)) := by
  have := r_isNext_0 (M := M) (o := o) (H := H) (V := V) (X := X) (e := e) (c := c) d h hl h20 (len - a) (by omega)
  rw [show len - (len - a) = a by omega] at this
  refine Eq.trans ?_ this
  rw [e_X11_isNext, e_X11_isNext_0]
theorem r_isDigit (d : Nat) : f_X11_isDigit (d + 1) M c = some (.inl (some (.int (bI (qDgt c)))), M) := by
  rw [e_X11_isDigit]
  unfold qDgt
  by_cases h1 : c < 48
  · simp [h1, bI, lt_b1]
  · by_cases h2 : 57 < c
    · simp [h1, h2, bI, lt_b1]
    · simp [h1, h2, bI, lt_b1]
theorem qDigs_le : ∀ (m : Nat) (v : Int32), (qDigs T len m v).1 ≤ len
  | 0, _ => Nat.le_refl _
  | m + 1, v => by
    unfold qDigs
    split
    · exact qDigs_le m _
    · show len - (m + 1) ≤ len
      omega
theorem qDigs_ge : ∀ (m : Nat) (v : Int32), len - m ≤ (qDigs T len m v).1
  | 0, _ => Nat.le_refl _
  | m + 1, v => by
    unfold qDigs
    split
    · have := qDigs_ge m (if 10 * v + T (len - (m + 1)) - 48 < 1000 then 10 * v + T (len - (m + 1)) - 48 else 1000)
      omega
    · exact Nat.le_refl _
theorem j_min (d : Nat) {x y : Int32} {M : LM} : f_J9_min_7cf53 (d + 1) M x y = some (.inl (some (.int (if y < x then y else x))), M) := by
  rw [e_J9_min_7cf53]
  by_cases q : y < x
  · rw [if_pos q]
    by_cases q2 : x ≤ y
    · exfalso
      rw [Int32.lt_iff_toInt_lt] at q
      rw [Int32.le_iff_toInt_le] at q2
      omega
    · first | (rw [if_neg q2]) | (rw [if_pos q]) | rfl
  · rw [if_neg q]
    first | (rw [if_pos (by rw [Int32.le_iff_toInt_le]; rw [Int32.lt_iff_toInt_lt] at q; omega)]) | (rw [if_neg q]) | rfl
theorem r_times_7 (d : Nat) (h : RA M o) (hl : len ≤ 200) (h20 : X 0 20 = nI len) {fr : Nat} (hfr : fr ≤ len) : ∀ (m : Nat) (v : Int32), m ≤ len → fr ≤ len - m → f_X11_times_7 (d + 2) (rM M o H V (pX X (nI (len - m)) e)) o (nI fr) v =
    (let r := qDigs (X 16) len m v
     let q := if 2 < r.1 - fr then ((0 : Int32), r.1, nI fr) else if qIn r.2 1 50 = true then (r.2, r.1, e) else (0, r.1, nI fr)
     some (.inl (some (.int q.1)), rM M o H V (pX X (nI q.2.1) q.2.2)))
  | 0, v, _, hf => by
    have hlt : ¬ nI len < nI len := by rw [nI_ltP (by omega) (by omega)]; omega
    have hsub : nI len - nI fr = nI (len - fr) := by
      rw [show nI len = nI (len - fr) + nI fr by rw [lt_iA]; congr 1; omega]
      exact Int32.add_sub_cancel ..
    rw [e_X11_times_7, Nat.sub_zero]
    show _ = some (Sum.inl (some (Value.int (if 2 < len - fr then ((0 : Int32), len, nI fr) else if qIn v 1 50 = true then (v, len, e) else (0, len, nI fr)).1)), rM M o H V (pX X (nI (if 2 < len - fr then ((0 : Int32), len, nI fr) else if qIn v 1 50 = true then (v, len, e) else (0, len, nI fr)).2.1) (if 2 < len - fr then ((0 : Int32), len, nI fr) else if qIn v 1 50 = true then (v, len, e) else (0, len, nI fr)).2.2))
    by_cases q : 2 < len - fr
    · have q' : (2 : Int32) < nI (len - fr) := (lt_iL (j := 2) (k := len - fr) (by omega) (by omega)).mpr q
      simp (maxSteps := 1000000) (disch := first | assumption | omega) only [x_rf, x_m, lt_bv_r, lt_bi_r, lt_bl_r, ↓r_ck, r_get, r_put, r_more, rM_h, rM_f, rM_x, rM_wf, rM_wx, rM_wh, lt_iN, lt_b1_0, lt_b1_1, x_if1, x_eq1, x_10, x_01, x_11, x_00, ↓reduceIte, r_nz, r_ar1L0, r_ar1L1, lt_n0_, lt_n1_, upd_s, upd_o, u2_eq, u2_n1, u2_n2, r_p1, r_p5, r_p6, r_p7, r_p9, r_p10, r_p11, r_p13, r_p19, r_p23, r_p26, r_p27, r_p32, r_p33, r_p34, r_ar1, r_ar9, r_ar10, r_ar11, r_ar12, r_ar13, r_ar14, r_ar15, r_ar16, r_ar17, r_ar18, r_ar19, r_ar74, r_ar75, r_ar76, n2_, n4_, n12_, n24_, n28_, n50_, n54_, n76_, n80_, n102_, n128_, n154_, n180_, n206_, n232_, n258_, n284_, n310_, n336_, n362_, n380_, n680_, r_get0, r_get1, r_get2, r_get3, r_get4, r_get8, r_get9, r_get10, r_get11, r_get12, r_get13, r_put0, r_put1, r_put2, r_put3, r_put4, r_put5, r_put6, r_put7, r_put8, r_put9, r_put10, r_put11, r_more10, r_more12, r_more13, r_more14, r_more15, r_more16, r_more17, r_more18, r_more19, r_more20, p21, p20, h20, hlt, hsub, q', pw22, q]
    · have q' : ¬ (2 : Int32) < nI (len - fr) := fun e => q ((lt_iL (j := 2) (k := len - fr) (by omega) (by omega)).mp e)
      simp (maxSteps := 1000000) (disch := first | assumption | omega) only [x_rf, x_m, lt_bv_r, lt_bi_r, lt_bl_r, ↓r_ck, r_get, r_put, r_more, rM_h, rM_f, rM_x, rM_wf, rM_wx, rM_wh, lt_iN, lt_b1_0, lt_b1_1, x_if1, x_eq1, x_10, x_01, x_11, x_00, ↓reduceIte, r_nz, r_ar1L0, r_ar1L1, lt_n0_, lt_n1_, upd_s, upd_o, u2_eq, u2_n1, u2_n2, r_p1, r_p5, r_p6, r_p7, r_p9, r_p10, r_p11, r_p13, r_p19, r_p23, r_p26, r_p27, r_p32, r_p33, r_p34, r_ar1, r_ar9, r_ar10, r_ar11, r_ar12, r_ar13, r_ar14, r_ar15, r_ar16, r_ar17, r_ar18, r_ar19, r_ar74, r_ar75, r_ar76, n2_, n4_, n12_, n24_, n28_, n50_, n54_, n76_, n80_, n102_, n128_, n154_, n180_, n206_, n232_, n258_, n284_, n310_, n336_, n362_, n380_, n680_, r_get0, r_get1, r_get2, r_get3, r_get4, r_get8, r_get9, r_get10, r_get11, r_get12, r_get13, r_put0, r_put1, r_put2, r_put3, r_put4, r_put5, r_put6, r_put7, r_put8, r_put9, r_put10, r_put11, r_more10, r_more12, r_more13, r_more14, r_more15, r_more16, r_more17, r_more18, r_more19, r_more20, p21, p20, h20, hlt, hsub, q', pw22, q, r_in, bI0]
      cases qIn v 1 50 <;> rfl
  | m + 1, v, hm, hf => by
    have hlt : nI (len - (m + 1)) < nI len := by rw [nI_ltP (by omega) (by omega)]; omega
    have g2 : nI (len - (m + 1)) + 1 = nI (len - m) := by
      rw [show nI (len - (m + 1)) + 1 = nI (len - (m + 1) + 1) from lt_iA (j := len - (m + 1)) (k := 1)]
      congr 1
      omega
    have hsub : nI (len - (m + 1)) - nI fr = nI (len - (m + 1) - fr) := by
      rw [show nI (len - (m + 1)) = nI (len - (m + 1) - fr) + nI fr by rw [lt_iA]; congr 1; omega]
      exact Int32.add_sub_cancel ..
    have hs : qDigs (X 16) len (m + 1) v = if qDgt (X 16 (len - (m + 1))) = true then qDigs (X 16) len m (if 10 * v + X 16 (len - (m + 1)) - 48 < 1000 then 10 * v + X 16 (len - (m + 1)) - 48 else 1000) else (len - (m + 1), v) := rfl
    have ih := r_times_7 d h hl h20 hfr m (if 10 * v + X 16 (len - (m + 1)) - 48 < 1000 then 10 * v + X 16 (len - (m + 1)) - 48 else 1000) (by omega) (by omega)
    rw [hs, e_X11_times_7]
    cases hd : qDgt (X 16 (len - (m + 1)))
    · rw [if_neg (show ¬ (false = true) by decide)]
      show _ = some (Sum.inl (some (Value.int (if 2 < len - (m + 1) - fr then ((0 : Int32), len - (m + 1), nI fr) else if qIn v 1 50 = true then (v, len - (m + 1), e) else (0, len - (m + 1), nI fr)).1)), rM M o H V (pX X (nI (if 2 < len - (m + 1) - fr then ((0 : Int32), len - (m + 1), nI fr) else if qIn v 1 50 = true then (v, len - (m + 1), e) else (0, len - (m + 1), nI fr)).2.1) (if 2 < len - (m + 1) - fr then ((0 : Int32), len - (m + 1), nI fr) else if qIn v 1 50 = true then (v, len - (m + 1), e) else (0, len - (m + 1), nI fr)).2.2))
      by_cases q : 2 < len - (m + 1) - fr
      · have q' : (2 : Int32) < nI (len - (m + 1) - fr) := (lt_iL (j := 2) (k := len - (m + 1) - fr) (by omega) (by omega)).mpr q
        simp (maxSteps := 1000000) (disch := first | assumption | omega) only [x_rf, x_m, lt_bv_r, lt_bi_r, lt_bl_r, ↓r_ck, r_get, r_put, r_more, rM_h, rM_f, rM_x, rM_wf, rM_wx, rM_wh, lt_iN, lt_b1_0, lt_b1_1, x_if1, x_eq1, x_10, x_01, x_11, x_00, ↓reduceIte, r_nz, r_ar1L0, r_ar1L1, lt_n0_, lt_n1_, upd_s, upd_o, u2_eq, u2_n1, u2_n2, r_p1, r_p5, r_p6, r_p7, r_p9, r_p10, r_p11, r_p13, r_p19, r_p23, r_p26, r_p27, r_p32, r_p33, r_p34, r_ar1, r_ar9, r_ar10, r_ar11, r_ar12, r_ar13, r_ar14, r_ar15, r_ar16, r_ar17, r_ar18, r_ar19, r_ar74, r_ar75, r_ar76, n2_, n4_, n12_, n24_, n28_, n50_, n54_, n76_, n80_, n102_, n128_, n154_, n180_, n206_, n232_, n258_, n284_, n310_, n336_, n362_, n380_, n680_, r_get0, r_get1, r_get2, r_get3, r_get4, r_get8, r_get9, r_get10, r_get11, r_get12, r_get13, r_put0, r_put1, r_put2, r_put3, r_put4, r_put5, r_put6, r_put7, r_put8, r_put9, r_put10, r_put11, r_more10, r_more12, r_more13, r_more14, r_more15, r_more16, r_more17, r_more18, r_more19, r_more20, p21, p20, p16, h20, hlt, hsub, q', pw22, q, r_isDigit, hd, bI_f]
      · have q' : ¬ (2 : Int32) < nI (len - (m + 1) - fr) := fun e => q ((lt_iL (j := 2) (k := len - (m + 1) - fr) (by omega) (by omega)).mp e)
        simp (maxSteps := 1000000) (disch := first | assumption | omega) only [x_rf, x_m, lt_bv_r, lt_bi_r, lt_bl_r, ↓r_ck, r_get, r_put, r_more, rM_h, rM_f, rM_x, rM_wf, rM_wx, rM_wh, lt_iN, lt_b1_0, lt_b1_1, x_if1, x_eq1, x_10, x_01, x_11, x_00, ↓reduceIte, r_nz, r_ar1L0, r_ar1L1, lt_n0_, lt_n1_, upd_s, upd_o, u2_eq, u2_n1, u2_n2, r_p1, r_p5, r_p6, r_p7, r_p9, r_p10, r_p11, r_p13, r_p19, r_p23, r_p26, r_p27, r_p32, r_p33, r_p34, r_ar1, r_ar9, r_ar10, r_ar11, r_ar12, r_ar13, r_ar14, r_ar15, r_ar16, r_ar17, r_ar18, r_ar19, r_ar74, r_ar75, r_ar76, n2_, n4_, n12_, n24_, n28_, n50_, n54_, n76_, n80_, n102_, n128_, n154_, n180_, n206_, n232_, n258_, n284_, n310_, n336_, n362_, n380_, n680_, r_get0, r_get1, r_get2, r_get3, r_get4, r_get8, r_get9, r_get10, r_get11, r_get12, r_get13, r_put0, r_put1, r_put2, r_put3, r_put4, r_put5, r_put6, r_put7, r_put8, r_put9, r_put10, r_put11, r_more10, r_more12, r_more13, r_more14, r_more15, r_more16, r_more17, r_more18, r_more19, r_more20, p21, p20, p16, h20, hlt, hsub, q', pw22, q, r_isDigit, hd, bI_f, r_in, bI0]
        cases qIn v 1 50 <;> rfl
    · rw [if_pos (show true = true from rfl)]
      simp (maxSteps := 1000000) (disch := first | assumption | omega) only [x_rf, x_m, lt_bv_r, lt_bi_r, lt_bl_r, ↓r_ck, r_get, r_put, r_more, rM_h, rM_f, rM_x, rM_wf, rM_wx, rM_wh, lt_iN, lt_b1_0, lt_b1_1, x_if1, x_eq1, x_10, x_01, x_11, x_00, ↓reduceIte, r_nz, r_ar1L0, r_ar1L1, lt_n0_, lt_n1_, upd_s, upd_o, u2_eq, u2_n1, u2_n2, r_p1, r_p5, r_p6, r_p7, r_p9, r_p10, r_p11, r_p13, r_p19, r_p23, r_p26, r_p27, r_p32, r_p33, r_p34, r_ar1, r_ar9, r_ar10, r_ar11, r_ar12, r_ar13, r_ar14, r_ar15, r_ar16, r_ar17, r_ar18, r_ar19, r_ar74, r_ar75, r_ar76, n2_, n4_, n12_, n24_, n28_, n50_, n54_, n76_, n80_, n102_, n128_, n154_, n180_, n206_, n232_, n258_, n284_, n310_, n336_, n362_, n380_, n680_, r_get0, r_get1, r_get2, r_get3, r_get4, r_get8, r_get9, r_get10, r_get11, r_get12, r_get13, r_put0, r_put1, r_put2, r_put3, r_put4, r_put5, r_put6, r_put7, r_put8, r_put9, r_put10, r_put11, r_more10, r_more12, r_more13, r_more14, r_more15, r_more16, r_more17, r_more18, r_more19, r_more20, p21, p20, p16, h20, hlt, pw21, g2, r_isDigit, hd, bI_t, j_min]
      exact ih
theorem r_times (d : Nat) (h : RA M o) (hl : len ≤ 200) (h20 : X 0 20 = nI len) (ha : a ≤ len) : f_X11_times (d + 2) (rM M o H V (pX X (nI a) e)) o = some (.inl (some (.int (qNum (X 16) len a e).1)), rM M o H V (pX X (nI (qNum (X 16) len a e).2.1) (qNum (X 16) len a e).2.2)) := by
  have := r_times_7 (M := M) (o := o) (H := H) (V := V) (X := X) (e := e) (fr := a) d h hl h20 ha (len - a) 0 (by omega) (by omega)
  rw [show len - (len - a) = a by omega] at this
  rw [e_X11_times]
  simp (maxSteps := 1000000) (disch := first | assumption | omega) only [x_rf, x_m, lt_bv_r, lt_bi_r, lt_bl_r, ↓r_ck, r_get, r_put, r_more, rM_h, rM_f, rM_x, rM_wf, rM_wx, rM_wh, lt_iN, lt_b1_0, lt_b1_1, x_if1, x_eq1, x_10, x_01, x_11, x_00, ↓reduceIte, r_nz, r_ar1L0, r_ar1L1, lt_n0_, lt_n1_, upd_s, upd_o, u2_eq, u2_n1, u2_n2, r_p1, r_p5, r_p6, r_p7, r_p9, r_p10, r_p11, r_p13, r_p19, r_p23, r_p26, r_p27, r_p32, r_p33, r_p34, r_ar1, r_ar9, r_ar10, r_ar11, r_ar12, r_ar13, r_ar14, r_ar15, r_ar16, r_ar17, r_ar18, r_ar19, r_ar74, r_ar75, r_ar76, n2_, n4_, n12_, n24_, n28_, n50_, n54_, n76_, n80_, n102_, n128_, n154_, n180_, n206_, n232_, n258_, n284_, n310_, n336_, n362_, n380_, n680_, r_get0, r_get1, r_get2, r_get3, r_get4, r_get8, r_get9, r_get10, r_get11, r_get12, r_get13, r_put0, r_put1, r_put2, r_put3, r_put4, r_put5, r_put6, r_put7, r_put8, r_put9, r_put10, r_put11, r_more10, r_more12, r_more13, r_more14, r_more15, r_more16, r_more17, r_more18, r_more19, r_more20, p21]
  exact this
end Sc
