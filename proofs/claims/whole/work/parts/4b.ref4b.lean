/-! THE REFERENCE: its calls that change the bench -/
def qIn (v a b : Int32) : Bool := !decide (v < a) && !decide (b < v)
def qX0 (X : Nat → Nat → Int32) : Nat → Nat → Int32 := u2 X 0 0 0
def qXe (X : Nat → Nat → Int32) (e : Int32) : Nat → Nat → Int32 := u2 (u2 X 0 0 0) 0 0 e
section Rs
variable {M M' : LM} {o i j k u w y f t c q n : Nat} {H : Nat → Int32} {V V' X : Nat → Nat → Int32} {S : Nat → Int32} {p : Nat → Nat} {g : Nat → Option Nat} {v a b e : Int32} {z : Option (LO × LM)}
theorem r_in (d : Nat) : f_X11_in (d + 1) M v a b = some (.inl (some (.int (bI (qIn v a b)))), M) := by
  rw [e_X11_in]
  unfold qIn
  by_cases h1 : v < a
  · rw [if_pos h1, lt_b1_0]
    simp [h1, bI]
  · by_cases h2 : b < v
    · rw [if_neg h1, if_pos h2, lt_b1_0]
      simp [h2, bI]
    · rw [if_neg h1, if_neg h2, lt_b1_1]
      simp [h1, h2, bI]
theorem r_no1 (d : Nat) (h : RA M o) : f_X11_no (d + 1) (rM M o H V X) o 1 e = some (.inl (some (.int 0)), rM M o H V X) := by
  rw [e_X11_no]
  simp (maxSteps := 1000000) (disch := first | assumption | omega) only [x_rf, x_m, lt_bv_r, lt_bi_r, lt_bl_r, ↓r_ck, r_get, r_put, r_more, rM_h, rM_f, rM_x, rM_wf, rM_wx, rM_wh, lt_iN, lt_b1_0, lt_b1_1, x_if1, x_eq1, x_10, x_01, x_11, x_00, ↓reduceIte, r_nz, r_ar1L0, r_ar1L1, lt_n0_, lt_n1_, upd_s, upd_o, u2_eq, u2_n1, u2_n2, r_p1, r_p5, r_p6, r_p7, r_p9, r_p10, r_p11, r_p13, r_p19, r_p23, r_p26, r_p27, r_p32, r_p33, r_p34, r_ar1, r_ar9, r_ar10, r_ar11, r_ar12, r_ar13, r_ar14, r_ar15, r_ar16, r_ar17, r_ar18, r_ar19, r_ar74, r_ar75, r_ar76, n2_, n4_, n12_, n24_, n28_, n50_, n54_, n76_, n80_, n102_, n128_, n154_, n180_, n206_, n232_, n258_, n284_, n310_, n336_, n362_, n380_, n680_, r_get0, r_get1, r_get2, r_get3, r_get4, r_get8, r_get9, r_get10, r_get11, r_get12, r_get13, r_put0, r_put1, r_put2, r_put3, r_put4, r_put5, r_put6, r_put7, r_put8, r_put9, r_put10, r_put11, r_more10, r_more12, r_more13, r_more14, r_more15, r_more16, r_more17, r_more18, r_more19, r_more20]
theorem r_no0 (d : Nat) (h : RA M o) : f_X11_no (d + 1) (rM M o H V X) o 0 e = some (.inl (some (.int 1)), rM M o H V (u2 X 0 0 e)) := by
  rw [e_X11_no]
  simp (maxSteps := 1000000) (disch := first | assumption | omega) only [x_rf, x_m, lt_bv_r, lt_bi_r, lt_bl_r, ↓r_ck, r_get, r_put, r_more, rM_h, rM_f, rM_x, rM_wf, rM_wx, rM_wh, lt_iN, lt_b1_0, lt_b1_1, x_if1, x_eq1, x_10, x_01, x_11, x_00, ↓reduceIte, r_nz, r_ar1L0, r_ar1L1, lt_n0_, lt_n1_, upd_s, upd_o, u2_eq, u2_n1, u2_n2, r_p1, r_p5, r_p6, r_p7, r_p9, r_p10, r_p11, r_p13, r_p19, r_p23, r_p26, r_p27, r_p32, r_p33, r_p34, r_ar1, r_ar9, r_ar10, r_ar11, r_ar12, r_ar13, r_ar14, r_ar15, r_ar16, r_ar17, r_ar18, r_ar19, r_ar74, r_ar75, r_ar76, n2_, n4_, n12_, n24_, n28_, n50_, n54_, n76_, n80_, n102_, n128_, n154_, n180_, n206_, n232_, n258_, n284_, n310_, n336_, n362_, n380_, n680_, r_get0, r_get1, r_get2, r_get3, r_get4, r_get8, r_get9, r_get10, r_get11, r_get12, r_get13, r_put0, r_put1, r_put2, r_put3, r_put4, r_put5, r_put6, r_put7, r_put8, r_put9, r_put10, r_put11, r_more10, r_more12, r_more13, r_more14, r_more15, r_more16, r_more17, r_more18, r_more19, r_more20]
theorem r_no (d : Nat) (h : RA M o) {s : Bool} : f_X11_no (d + 1) (rM M o H V X) o (bI s) e = some (.inl (some (.int (bI (!s)))), rM M o H V (if s = true then X else u2 X 0 0 e)) := by
  cases s
  · exact r_no0 d h
  · exact r_no1 d h
theorem r_isNoCache (d : Nat) (h : RA M o) : f_X11_isNoCache (d + 2) (rM M o H V X) o v = some (.inl (some (.int (bI (!qIn v 0 5)))), rM M o H V (if qIn v 0 5 = true then qX0 X else qXe X 1)) := by
  have hb : ∀ (b : Bool) (z : Option (LO × LM)), lt_b1 (bI b) z = z := fun b z => by cases b <;> rfl
  rw [e_X11_isNoCache]
  simp (maxSteps := 1000000) (disch := first | assumption | omega) only [x_rf, x_m, lt_bv_r, lt_bi_r, lt_bl_r, ↓r_ck, r_get, r_put, r_more, rM_h, rM_f, rM_x, rM_wf, rM_wx, rM_wh, lt_iN, lt_b1_0, lt_b1_1, x_if1, x_eq1, x_10, x_01, x_11, x_00, ↓reduceIte, r_nz, r_ar1L0, r_ar1L1, lt_n0_, lt_n1_, upd_s, upd_o, u2_eq, u2_n1, u2_n2, r_p1, r_p5, r_p6, r_p7, r_p9, r_p10, r_p11, r_p13, r_p19, r_p23, r_p26, r_p27, r_p32, r_p33, r_p34, r_ar1, r_ar9, r_ar10, r_ar11, r_ar12, r_ar13, r_ar14, r_ar15, r_ar16, r_ar17, r_ar18, r_ar19, r_ar74, r_ar75, r_ar76, n2_, n4_, n12_, n24_, n28_, n50_, n54_, n76_, n80_, n102_, n128_, n154_, n180_, n206_, n232_, n258_, n284_, n310_, n336_, n362_, n380_, n680_, r_get0, r_get1, r_get2, r_get3, r_get4, r_get8, r_get9, r_get10, r_get11, r_get12, r_get13, r_put0, r_put1, r_put2, r_put3, r_put4, r_put5, r_put6, r_put7, r_put8, r_put9, r_put10, r_put11, r_more10, r_more12, r_more13, r_more14, r_more15, r_more16, r_more17, r_more18, r_more19, r_more20, r_in, r_no, hb]
  rfl
theorem qIn_k (hq : qIn v 0 25 = true) : ∃ k, k < 26 ∧ v = nI k := by
  unfold qIn at hq
  rw [Bool.and_eq_true_iff] at hq
  obtain ⟨h1, h2⟩ := hq
  have h1' : ¬ v < 0 := by simpa using h1
  have h2' : ¬ (25 : Int32) < v := by simpa using h2
  rw [Int32.lt_iff_toInt_lt] at h1' h2'
  have z0 : (0 : Int32).toInt = 0 := rfl
  have z1 : (25 : Int32).toInt = 25 := by decide
  refine ⟨v.toInt.toNat, by omega, ?_⟩
  rw [← Int32.toInt_inj, lt_iT (by omega)]
  omega
theorem qIn_g {m : Nat} (hm : m < 2147483648) (hq : qIn v 0 (nI m) = true) : ∃ k, k ≤ m ∧ v = nI k := by
  unfold qIn at hq
  rw [Bool.and_eq_true_iff] at hq
  obtain ⟨h1, h2⟩ := hq
  have h1' : ¬ v < 0 := by simpa using h1
  have h2' : ¬ nI m < v := by simpa using h2
  rw [Int32.lt_iff_toInt_lt] at h1' h2'
  have z0 : (0 : Int32).toInt = 0 := rfl
  rw [lt_iT hm] at h2'
  refine ⟨v.toInt.toNat, by omega, ?_⟩
  rw [← Int32.toInt_inj, lt_iT (by omega)]
  omega
theorem qIn_0 {m : Nat} (hm : m < 2147483648) (hk : k ≤ m) : qIn (nI k) 0 (nI m) = true := by
  unfold qIn
  have h1 : ¬ nI k < 0 := lt_neg (by omega)
  have h2 : ¬ nI m < nI k := by rw [nI_ltP (by omega) (by omega)]; omega
  simp [h1, h2]
/-- held by a unit -/
def qAny (V : Nat → Nat → Int32) (k : Nat) : Nat → Bool → Bool
  | 0, a => a
  | n + 1, a => qAny V k n (a || decide (V (17 - n) (24 + k) = 1))
theorem r_holdsV (d : Nat) (h : RA M o) (hu : u < 18) (hk : k < 26) : f_X11_holdsIt (d + 2) (rM M o H V X) o (nI u) (nI k) = some (.inl (some (.int (bI (decide (V u (24 + k) = 1))))), rM M o H V X) := by
  have := r_holds2 (M := M) (o := o) (H := H) (V := V) (U := V u) (X := X) d h hu hk
  rw [u1_id] at this
  rw [this]
  unfold bI
  simp only [decide_eq_true_eq]
theorem bI_or {s t : Bool} : bI s ||| bI t = bI (s || t) := by cases s <;> cases t <;> decide
theorem r_setKey_72 (d : Nat) (h : RA M o) (hk : k < 26) {x y z : Int32} : ∀ (n : Nat) (s : Bool), n ≤ 18 →
    f_X11_setKey_72 (d + 3) (rM M o H V X) o (nI k) x y z (bI s) (nI (18 - n)) = f_X11_setKey_108 (d + 3) (rM M o H V X) o (nI k) x y z (bI (!qAny V k n s)) o
  | 0, s, _ => by
    rw [e_X11_setKey_72, if_neg (by decide)]
    cases s
    · rw [if_pos bI_f]; rfl
    · rw [if_neg (by rw [bI_t]; decide)]; rfl
  | n + 1, s, hn => by
    have hu : 17 - n < 18 := by omega
    have g1 : nI (18 - (n + 1)) = nI (17 - n) := by congr 1; omega
    have g2 : nI (17 - n) + 1 = nI (18 - n) := by
      rw [show nI (17 - n) + 1 = nI (17 - n + 1) from lt_iA (j := 17 - n) (k := 1)]
      congr 1
      omega
    have g3 : nI (17 - n) < (18 : Int32) := (lt_iL (j := 17 - n) (k := 18) (by omega) (by omega)).mpr (by omega)
    have ih := r_setKey_72 d h hk (x := x) (y := y) (z := z) n (s || decide (V (17 - n) (24 + k) = 1)) (by omega)
    rw [g1, e_X11_setKey_72, if_pos g3]
    simp (maxSteps := 1000000) (disch := first | assumption | omega) only [x_rf, x_m, lt_bv_r, lt_bi_r, lt_bl_r, ↓r_ck, r_get, r_put, r_more, rM_h, rM_f, rM_x, rM_wf, rM_wx, rM_wh, lt_iN, lt_b1_0, lt_b1_1, x_if1, x_eq1, x_10, x_01, x_11, x_00, ↓reduceIte, r_nz, r_ar1L0, r_ar1L1, lt_n0_, lt_n1_, upd_s, upd_o, u2_eq, u2_n1, u2_n2, r_p1, r_p5, r_p6, r_p7, r_p9, r_p10, r_p11, r_p13, r_p19, r_p23, r_p26, r_p27, r_p32, r_p33, r_p34, r_ar1, r_ar9, r_ar10, r_ar11, r_ar12, r_ar13, r_ar14, r_ar15, r_ar16, r_ar17, r_ar18, r_ar19, r_ar74, r_ar75, r_ar76, n2_, n4_, n12_, n24_, n28_, n50_, n54_, n76_, n80_, n102_, n128_, n154_, n180_, n206_, n232_, n258_, n284_, n310_, n336_, n362_, n380_, n680_, r_get0, r_get1, r_get2, r_get3, r_get4, r_get8, r_get9, r_get10, r_get11, r_get12, r_get13, r_put0, r_put1, r_put2, r_put3, r_put4, r_put5, r_put6, r_put7, r_put8, r_put9, r_put10, r_put11, r_more10, r_more12, r_more13, r_more14, r_more15, r_more16, r_more17, r_more18, r_more19, r_more20, r_holdsV, bI_or, g2]
    exact ih
/-- a key told anew -/
def qTell (H : Nat → Int32) (k : Nat) (x y z : Int32) : Nat → Int32 := upd (upd (upd H (2 + k) x) (28 + k) y) (54 + k) z
def qSKok (x y z : Int32) : Bool := qIn x 1 8 && qIn y 0 1000 && qIn z 0 3
theorem r_setKey (d : Nat) (h : RA M o) (hp : PA p) (hc : c ≤ 6) (hX : X 0 3 = nI c) {key x y z : Int32} :
    f_X11_setKey (d + 4) (rG M o p H V X) o key x y z =
      if qIn key 0 25 = true then (if qSKok x y z = true then (if qAny V (lt_n key) 18 false = true then some (.inl (some (.int 0)), rG M o p H V (qXe X 3)) else some (.inl (some (.int (H (2 + lt_n key)))), rG M o (qKp p c) (qTell H (lt_n key) x y z) V (qBX p c (qX0 X) H V)))
        else some (.inl (some (.int 0)), rG M o p H V (qXe X 2))) else some (.inl (some (.int 0)), rG M o p H V (qXe X 1)) := by
  have hr0 := h.rp (g := (gP o p))
  have hr := h.rp (g := (gP o (qKp p c)))
  rw [e_X11_setKey]
  by_cases hk : qIn key 0 25 = true
  · rw [if_pos hk]
    obtain ⟨k, hk', rfl⟩ := qIn_k hk
    rw [lt_iN (by omega)]
    have e72 := r_setKey_72 (M := rP M o (gP o p)) (o := o) (H := H) (V := V) (X := qX0 X) (k := k) (x := x) (y := y) (z := z) (d + 1) hr0 hk' 18 false (Nat.le_refl _)
    have e72' : f_X11_setKey_72 (d + 4) (rM (rP M o (gP o p)) o H V (u2 X 0 0 0)) o (nI k) x y z 0 0 = _ := e72
    have eb := r_begins (M := M) (o := o) (H := H) (V := V) (X := qX0 X) (d + 1) h hp hc (show qX0 X 0 3 = nI c from (u2_n2 (by omega)).trans hX)
    unfold rG at eb ⊢
    have key1 : ∀ s : Bool, f_X11_setKey_108 (d + 4) (rM (rP M o (gP o p)) o H V (qX0 X)) o (nI k) x y z (bI s) o = if s = true then some (.inl (some (.int (H (2 + k)))), rM (rP M o (gP o (qKp p c))) o (qTell H k x y z) V (qBX p c (qX0 X) H V)) else some (.inl (some (.int 0)), rM (rP M o (gP o p)) o H V (qXe X 3)) := by
      intro s
      rw [e_X11_setKey_108]
      cases s
      · simp (maxSteps := 1000000) (disch := first | assumption | omega) only [x_rf, x_m, lt_bv_r, lt_bi_r, lt_bl_r, ↓r_ck, r_get, r_put, r_more, rM_h, rM_f, rM_x, rM_wf, rM_wx, rM_wh, lt_iN, lt_b1_0, lt_b1_1, x_if1, x_eq1, x_10, x_01, x_11, x_00, ↓reduceIte, r_nz, r_ar1L0, r_ar1L1, lt_n0_, lt_n1_, upd_s, upd_o, u2_eq, u2_n1, u2_n2, r_p1, r_p5, r_p6, r_p7, r_p9, r_p10, r_p11, r_p13, r_p19, r_p23, r_p26, r_p27, r_p32, r_p33, r_p34, r_ar1, r_ar9, r_ar10, r_ar11, r_ar12, r_ar13, r_ar14, r_ar15, r_ar16, r_ar17, r_ar18, r_ar19, r_ar74, r_ar75, r_ar76, n2_, n4_, n12_, n24_, n28_, n50_, n54_, n76_, n80_, n102_, n128_, n154_, n180_, n206_, n232_, n258_, n284_, n310_, n336_, n362_, n380_, n680_, r_get0, r_get1, r_get2, r_get3, r_get4, r_get8, r_get9, r_get10, r_get11, r_get12, r_get13, r_put0, r_put1, r_put2, r_put3, r_put4, r_put5, r_put6, r_put7, r_put8, r_put9, r_put10, r_put11, r_more10, r_more12, r_more13, r_more14, r_more15, r_more16, r_more17, r_more18, r_more19, r_more20, r_in, r_no, r_no0, r_no1, bI_t, bI_f, bI0, Bool.not_true, Bool.not_false]
        rfl
      · simp (maxSteps := 1000000) (disch := first | assumption | omega) only [x_rf, x_m, lt_bv_r, lt_bi_r, lt_bl_r, ↓r_ck, r_get, r_put, r_more, rM_h, rM_f, rM_x, rM_wf, rM_wx, rM_wh, lt_iN, lt_b1_0, lt_b1_1, x_if1, x_eq1, x_10, x_01, x_11, x_00, ↓reduceIte, r_nz, r_ar1L0, r_ar1L1, lt_n0_, lt_n1_, upd_s, upd_o, u2_eq, u2_n1, u2_n2, r_p1, r_p5, r_p6, r_p7, r_p9, r_p10, r_p11, r_p13, r_p19, r_p23, r_p26, r_p27, r_p32, r_p33, r_p34, r_ar1, r_ar9, r_ar10, r_ar11, r_ar12, r_ar13, r_ar14, r_ar15, r_ar16, r_ar17, r_ar18, r_ar19, r_ar74, r_ar75, r_ar76, n2_, n4_, n12_, n24_, n28_, n50_, n54_, n76_, n80_, n102_, n128_, n154_, n180_, n206_, n232_, n258_, n284_, n310_, n336_, n362_, n380_, n680_, r_get0, r_get1, r_get2, r_get3, r_get4, r_get8, r_get9, r_get10, r_get11, r_get12, r_get13, r_put0, r_put1, r_put2, r_put3, r_put4, r_put5, r_put6, r_put7, r_put8, r_put9, r_put10, r_put11, r_more10, r_more12, r_more13, r_more14, r_more15, r_more16, r_more17, r_more18, r_more19, r_more20, r_in, r_no, r_no0, r_no1, bI_t, bI_f, bI0, Bool.not_true, Bool.not_false, eb]
        rfl
    simp (maxSteps := 1000000) (disch := first | assumption | omega) only [x_rf, x_m, lt_bv_r, lt_bi_r, lt_bl_r, ↓r_ck, r_get, r_put, r_more, rM_h, rM_f, rM_x, rM_wf, rM_wx, rM_wh, lt_iN, lt_b1_0, lt_b1_1, x_if1, x_eq1, x_10, x_01, x_11, x_00, ↓reduceIte, r_nz, r_ar1L0, r_ar1L1, lt_n0_, lt_n1_, upd_s, upd_o, u2_eq, u2_n1, u2_n2, r_p1, r_p5, r_p6, r_p7, r_p9, r_p10, r_p11, r_p13, r_p19, r_p23, r_p26, r_p27, r_p32, r_p33, r_p34, r_ar1, r_ar9, r_ar10, r_ar11, r_ar12, r_ar13, r_ar14, r_ar15, r_ar16, r_ar17, r_ar18, r_ar19, r_ar74, r_ar75, r_ar76, n2_, n4_, n12_, n24_, n28_, n50_, n54_, n76_, n80_, n102_, n128_, n154_, n180_, n206_, n232_, n258_, n284_, n310_, n336_, n362_, n380_, n680_, r_get0, r_get1, r_get2, r_get3, r_get4, r_get8, r_get9, r_get10, r_get11, r_get12, r_get13, r_put0, r_put1, r_put2, r_put3, r_put4, r_put5, r_put6, r_put7, r_put8, r_put9, r_put10, r_put11, r_more10, r_more12, r_more13, r_more14, r_more15, r_more16, r_more17, r_more18, r_more19, r_more20, r_in, r_no, r_no0, r_no1, bI_t, bI_f, bI0, Bool.not_true, Bool.not_false, hk]
    unfold qSKok
    by_cases h1 : qIn x 1 8 = true
    · by_cases h2 : qIn y 0 1000 = true
      · by_cases h3 : qIn z 0 3 = true
        · simp only [h1, h2, h3, if_true, Bool.not_true, bI_f, Bool.and_true, e72', Bool.false_eq_true, if_false]
          rw [key1]
          cases qAny V k 18 false <;> rfl
        · have h3' : qIn z 0 3 = false := by simpa using h3
          simp only [h1, h2, h3', if_true, Bool.not_true, Bool.not_false, Bool.and_false, Bool.false_eq_true, if_false]
          rfl
      · have h2' : qIn y 0 1000 = false := by simpa using h2
        simp only [h1, h2', if_true, Bool.not_true, Bool.not_false, Bool.and_false, Bool.false_and, Bool.false_eq_true, if_false]
        rfl
    · have h1' : qIn x 1 8 = false := by simpa using h1
      simp only [h1', Bool.not_true, Bool.not_false, Bool.false_and, Bool.false_eq_true, if_false]
      rfl
  · have hk' : qIn key 0 25 = false := by simpa using hk
    rw [if_neg hk]
    unfold rG
    simp (maxSteps := 1000000) (disch := first | assumption | omega) only [x_rf, x_m, lt_bv_r, lt_bi_r, lt_bl_r, ↓r_ck, r_get, r_put, r_more, rM_h, rM_f, rM_x, rM_wf, rM_wx, rM_wh, lt_iN, lt_b1_0, lt_b1_1, x_if1, x_eq1, x_10, x_01, x_11, x_00, ↓reduceIte, r_nz, r_ar1L0, r_ar1L1, lt_n0_, lt_n1_, upd_s, upd_o, u2_eq, u2_n1, u2_n2, r_p1, r_p5, r_p6, r_p7, r_p9, r_p10, r_p11, r_p13, r_p19, r_p23, r_p26, r_p27, r_p32, r_p33, r_p34, r_ar1, r_ar9, r_ar10, r_ar11, r_ar12, r_ar13, r_ar14, r_ar15, r_ar16, r_ar17, r_ar18, r_ar19, r_ar74, r_ar75, r_ar76, n2_, n4_, n12_, n24_, n28_, n50_, n54_, n76_, n80_, n102_, n128_, n154_, n180_, n206_, n232_, n258_, n284_, n310_, n336_, n362_, n380_, n680_, r_get0, r_get1, r_get2, r_get3, r_get4, r_get8, r_get9, r_get10, r_get11, r_get12, r_get13, r_put0, r_put1, r_put2, r_put3, r_put4, r_put5, r_put6, r_put7, r_put8, r_put9, r_put10, r_put11, r_more10, r_more12, r_more13, r_more14, r_more15, r_more16, r_more17, r_more18, r_more19, r_more20, r_in, r_no, r_no0, r_no1, bI_t, bI_f, bI0, Bool.not_true, Bool.not_false, hk']
    rfl
theorem r_pass (d : Nat) (h : RA M o) (hp : PA p) (hc : c ≤ 6) (hX : X 0 3 = nI c) {x : Int32} :
    f_X11_pass (d + 4) (rG M o p H V X) o x =
      if qIn x 1 1000 = true then some (.inl (some (.int (qLapses (upd H 1 (H 1 + x)) 6 V 0).2)), rG M o (qKp p c) (upd H 1 (H 1 + x)) (qLapses (upd H 1 (H 1 + x)) 6 V 0).1 (qBX p c (qX0 X) H V)) else some (.inl (some (.int 0)), rG M o p H V (qXe X 1)) := by
  have hr0 := h.rp (g := (gP o p))
  have hr := h.rp (g := (gP o (qKp p c)))
  have eb := r_begins (M := M) (o := o) (H := H) (V := V) (X := qX0 X) (d + 1) h hp hc (show qX0 X 0 3 = nI c from (u2_n2 (by omega)).trans hX)
  unfold rG at eb ⊢
  rw [e_X11_pass]
  unfold qX0 at eb
  cases hq : qIn x 1 1000
  · simp (maxSteps := 1000000) (disch := first | assumption | omega) only [x_rf, x_m, lt_bv_r, lt_bi_r, lt_bl_r, ↓r_ck, r_get, r_put, r_more, rM_h, rM_f, rM_x, rM_wf, rM_wx, rM_wh, lt_iN, lt_b1_0, lt_b1_1, x_if1, x_eq1, x_10, x_01, x_11, x_00, ↓reduceIte, r_nz, r_ar1L0, r_ar1L1, lt_n0_, lt_n1_, upd_s, upd_o, u2_eq, u2_n1, u2_n2, r_p1, r_p5, r_p6, r_p7, r_p9, r_p10, r_p11, r_p13, r_p19, r_p23, r_p26, r_p27, r_p32, r_p33, r_p34, r_ar1, r_ar9, r_ar10, r_ar11, r_ar12, r_ar13, r_ar14, r_ar15, r_ar16, r_ar17, r_ar18, r_ar19, r_ar74, r_ar75, r_ar76, n2_, n4_, n12_, n24_, n28_, n50_, n54_, n76_, n80_, n102_, n128_, n154_, n180_, n206_, n232_, n258_, n284_, n310_, n336_, n362_, n380_, n680_, r_get0, r_get1, r_get2, r_get3, r_get4, r_get8, r_get9, r_get10, r_get11, r_get12, r_get13, r_put0, r_put1, r_put2, r_put3, r_put4, r_put5, r_put6, r_put7, r_put8, r_put9, r_put10, r_put11, r_more10, r_more12, r_more13, r_more14, r_more15, r_more16, r_more17, r_more18, r_more19, r_more20, r_in, r_no, r_no0, r_no1, bI_t, bI_f, bI0, Bool.not_true, Bool.not_false, hq]
    rfl
  · simp (maxSteps := 1000000) (disch := first | assumption | omega) only [x_rf, x_m, lt_bv_r, lt_bi_r, lt_bl_r, ↓r_ck, r_get, r_put, r_more, rM_h, rM_f, rM_x, rM_wf, rM_wx, rM_wh, lt_iN, lt_b1_0, lt_b1_1, x_if1, x_eq1, x_10, x_01, x_11, x_00, ↓reduceIte, r_nz, r_ar1L0, r_ar1L1, lt_n0_, lt_n1_, upd_s, upd_o, u2_eq, u2_n1, u2_n2, r_p1, r_p5, r_p6, r_p7, r_p9, r_p10, r_p11, r_p13, r_p19, r_p23, r_p26, r_p27, r_p32, r_p33, r_p34, r_ar1, r_ar9, r_ar10, r_ar11, r_ar12, r_ar13, r_ar14, r_ar15, r_ar16, r_ar17, r_ar18, r_ar19, r_ar74, r_ar75, r_ar76, n2_, n4_, n12_, n24_, n28_, n50_, n54_, n76_, n80_, n102_, n128_, n154_, n180_, n206_, n232_, n258_, n284_, n310_, n336_, n362_, n380_, n680_, r_get0, r_get1, r_get2, r_get3, r_get4, r_get8, r_get9, r_get10, r_get11, r_get12, r_get13, r_put0, r_put1, r_put2, r_put3, r_put4, r_put5, r_put6, r_put7, r_put8, r_put9, r_put10, r_put11, r_more10, r_more12, r_more13, r_more14, r_more15, r_more16, r_more17, r_more18, r_more19, r_more20, r_in, r_no, r_no0, r_no1, bI_t, bI_f, bI0, Bool.not_true, Bool.not_false, hq, eb, r_lapses]
    rfl
end Rs
