/-! THE REFERENCE, methods of one unit: small ones, units, counts -/
def bI (b : Bool) : Int32 := if b = true then 1 else 0
def oI : Option Nat → Int32
  | none => -1
  | some k => nI k
section Rh
variable {M : LM} {o j k u w : Nat} {H : Nat → Int32} {V X : Nat → Nat → Int32} {U : Nat → Int32} {v : Int32}
theorem x_res {p : Prop} [Decidable p] {M : LM} : (if p then some (Sum.inl (some (Value.int 1)), M) else some (Sum.inl (some (Value.int 0)), M)) = (some (Sum.inl (some (Value.int (if p then 1 else 0))), M) : Option (LO × LM)) := by split <;> rfl
theorem x_bI {b : Bool} : (if b = true then (1 : Int32) else 0) = bI b := rfl
theorem bI0 {b : Bool} {α : Type} {x z : α} : (if bI b = 0 then x else z) = if b = true then z else x := x_if1
theorem bI1 {b : Bool} {α : Type} {x z : α} : (if bI b = 1 then x else z) = if b = true then x else z := x_eq1
theorem nI_inj {j k : Nat} (hj : j < 2147483648) (hk : k < 2147483648) : (nI j = nI k) = (j = k) := propext (lt_iE hj hk)
theorem nI_ltP {j k : Nat} (hj : j < 2147483648) (hk : k < 2147483648) : (nI j < nI k) = (j < k) := propext (lt_iL hj hk)
theorem nI_ne1 (hk : k < 2147483648) : (nI k = -1) = False := eq_false (fun e => by
  have h1 := lt_iT hk
  rw [e] at h1
  have : (-1 : Int32).toInt = -1 := by decide
  omega)
theorem oI_n : oI none = -1 := rfl
theorem oI_s : oI (some k) = nI k := rfl
theorem r_stamp2 (d : Nat) (h : RA M o) (hu : u < 18) : f_X11_stamp (d + 2) (rM M o H (u1 V u U) X) o (nI u) = some (.inl (some (.int (U 10 + 1))), rM M o H (u1 V u (upd U 10 (U 10 + 1))) X) := by
  rw [e_X11_stamp]
  simp (maxSteps := 1000000) (disch := first | assumption | omega) only [x_rf, x_m, lt_bv_r, lt_bi_r, lt_bl_r, ↓r_ck, r_get, r_put, r_more, rM_h, rM_f, rM_x, rM_wf, rM_wx, rM_wh, lt_iN, lt_b1_0, lt_b1_1, x_if1, x_eq1, x_10, x_01, x_11, x_00, ↓reduceIte, r_nz, r_ar1L0, r_ar1L1, lt_n0_, lt_n1_, upd_s, upd_o, u2_eq, u2_n1, u2_n2, r_p1, r_p5, r_p6, r_p7, r_p9, r_p10, r_p11, r_p13, r_p19, r_p23, r_p26, r_p27, r_p32, r_p33, r_p34, r_ar1, r_ar9, r_ar10, r_ar11, r_ar12, r_ar13, r_ar14, r_ar15, r_ar16, r_ar17, r_ar18, r_ar19, r_ar74, r_ar75, r_ar76, n2_, n4_, n12_, n24_, n28_, n50_, n54_, n76_, n80_, n102_, n128_, n154_, n180_, n206_, n232_, n258_, n284_, n310_, n336_, n362_, n380_, n680_, r_get0, r_get1, r_get2, r_get3, r_get4, r_get8, r_get9, r_get10, r_get11, r_get12, r_get13, r_put0, r_put1, r_put2, r_put3, r_put4, r_put5, r_put6, r_put7, r_put8, r_put9, r_put10, r_put11, r_more10, r_more12, r_more13, r_more14, r_more15, r_more16, r_more17, r_more18, r_more19, r_more20]
def qLeaves (U : Nat → Int32) (k : Nat) : Nat → Int32 := upd (upd (upd (upd (upd U 16 (U 16 + U (154 + k))) (24 + k) 0) (154 + k) 0) (180 + k) 0) (206 + k) 0
theorem r_leaves2 (d : Nat) (h : RA M o) (hu : u < 18) (hk : k < 26) : f_X11_leaves (d + 2) (rM M o H (u1 V u U) X) o (nI u) (nI k) = some (.inl none, rM M o H (u1 V u (qLeaves U k)) X) := by
  rw [e_X11_leaves]
  simp (maxSteps := 1000000) (disch := first | assumption | omega) only [x_rf, x_m, lt_bv_r, lt_bi_r, lt_bl_r, ↓r_ck, r_get, r_put, r_more, rM_h, rM_f, rM_x, rM_wf, rM_wx, rM_wh, lt_iN, lt_b1_0, lt_b1_1, x_if1, x_eq1, x_10, x_01, x_11, x_00, ↓reduceIte, r_nz, r_ar1L0, r_ar1L1, lt_n0_, lt_n1_, upd_s, upd_o, u2_eq, u2_n1, u2_n2, r_p1, r_p5, r_p6, r_p7, r_p9, r_p10, r_p11, r_p13, r_p19, r_p23, r_p26, r_p27, r_p32, r_p33, r_p34, r_ar1, r_ar9, r_ar10, r_ar11, r_ar12, r_ar13, r_ar14, r_ar15, r_ar16, r_ar17, r_ar18, r_ar19, r_ar74, r_ar75, r_ar76, n2_, n4_, n12_, n24_, n28_, n50_, n54_, n76_, n80_, n102_, n128_, n154_, n180_, n206_, n232_, n258_, n284_, n310_, n336_, n362_, n380_, n680_, r_get0, r_get1, r_get2, r_get3, r_get4, r_get8, r_get9, r_get10, r_get11, r_get12, r_get13, r_put0, r_put1, r_put2, r_put3, r_put4, r_put5, r_put6, r_put7, r_put8, r_put9, r_put10, r_put11, r_more10, r_more12, r_more13, r_more14, r_more15, r_more16, r_more17, r_more18, r_more19, r_more20]
  rfl
theorem r_holds2 (d : Nat) (h : RA M o) (hu : u < 18) (hk : k < 26) : f_X11_holdsIt (d + 2) (rM M o H (u1 V u U) X) o (nI u) (nI k) = some (.inl (some (.int (if U (24 + k) = 1 then 1 else 0))), rM M o H (u1 V u U) X) := by
  rw [e_X11_holdsIt]
  simp (maxSteps := 1000000) (disch := first | assumption | omega) only [x_rf, x_m, lt_bv_r, lt_bi_r, lt_bl_r, ↓r_ck, r_get, r_put, r_more, rM_h, rM_f, rM_x, rM_wf, rM_wx, rM_wh, lt_iN, lt_b1_0, lt_b1_1, x_if1, x_eq1, x_10, x_01, x_11, x_00, ↓reduceIte, r_nz, r_ar1L0, r_ar1L1, lt_n0_, lt_n1_, upd_s, upd_o, u2_eq, u2_n1, u2_n2, r_p1, r_p5, r_p6, r_p7, r_p9, r_p10, r_p11, r_p13, r_p19, r_p23, r_p26, r_p27, r_p32, r_p33, r_p34, r_ar1, r_ar9, r_ar10, r_ar11, r_ar12, r_ar13, r_ar14, r_ar15, r_ar16, r_ar17, r_ar18, r_ar19, r_ar74, r_ar75, r_ar76, n2_, n4_, n12_, n24_, n28_, n50_, n54_, n76_, n80_, n102_, n128_, n154_, n180_, n206_, n232_, n258_, n284_, n310_, n336_, n362_, n380_, n680_, r_get0, r_get1, r_get2, r_get3, r_get4, r_get8, r_get9, r_get10, r_get11, r_get12, r_get13, r_put0, r_put1, r_put2, r_put3, r_put4, r_put5, r_put6, r_put7, r_put8, r_put9, r_put10, r_put11, r_more10, r_more12, r_more13, r_more14, r_more15, r_more16, r_more17, r_more18, r_more19, r_more20, x_res]
def qUsed (H U : Nat → Int32) (k : Nat) : Nat → Int32 := upd (upd (upd U 10 (U 10 + 1)) (76 + k) (U 10 + 1)) (284 + k) (U 11 + 840 * H (28 + k) / H (2 + k))
theorem r_isUsed2 (d : Nat) (h : RA M o) (hu : u < 18) (hk : k < 26) (hs : H (2 + k) ≠ 0) : f_X11_isUsed (d + 3) (rM M o H (u1 V u U) X) o (nI u) (nI k) = some (.inl none, rM M o H (u1 V u (qUsed H U k)) X) := by
  rw [e_X11_isUsed]
  simp (maxSteps := 1000000) (disch := first | assumption | omega) only [x_rf, x_m, lt_bv_r, lt_bi_r, lt_bl_r, ↓r_ck, r_get, r_put, r_more, rM_h, rM_f, rM_x, rM_wf, rM_wx, rM_wh, lt_iN, lt_b1_0, lt_b1_1, x_if1, x_eq1, x_10, x_01, x_11, x_00, ↓reduceIte, r_nz, r_ar1L0, r_ar1L1, lt_n0_, lt_n1_, upd_s, upd_o, u2_eq, u2_n1, u2_n2, r_p1, r_p5, r_p6, r_p7, r_p9, r_p10, r_p11, r_p13, r_p19, r_p23, r_p26, r_p27, r_p32, r_p33, r_p34, r_ar1, r_ar9, r_ar10, r_ar11, r_ar12, r_ar13, r_ar14, r_ar15, r_ar16, r_ar17, r_ar18, r_ar19, r_ar74, r_ar75, r_ar76, n2_, n4_, n12_, n24_, n28_, n50_, n54_, n76_, n80_, n102_, n128_, n154_, n180_, n206_, n232_, n258_, n284_, n310_, n336_, n362_, n380_, n680_, r_get0, r_get1, r_get2, r_get3, r_get4, r_get8, r_get9, r_get10, r_get11, r_get12, r_get13, r_put0, r_put1, r_put2, r_put3, r_put4, r_put5, r_put6, r_put7, r_put8, r_put9, r_put10, r_put11, r_more10, r_more12, r_more13, r_more14, r_more15, r_more16, r_more17, r_more18, r_more19, r_more20, r_stamp2]
  rfl
/-- a hit -/
def qHit (H U : Nat → Int32) (k : Nat) : Nat → Int32 := qUsed H (upd (upd (upd (upd (upd U 12 (U 12 + 1)) (310 + k) (U (310 + k) + 1)) 19 (U 19 + U (180 + k))) (180 + k) 0) (206 + k) 1) k
theorem r_isAHit2 (d : Nat) (h : RA M o) (hu : u < 18) (hk : k < 26) (hs : H (2 + k) ≠ 0) : f_X11_isAHit (d + 4) (rM M o H (u1 V u U) X) o (nI u) (nI k) = some (.inl none, rM M o H (u1 V u (qHit H U k)) X) := by
  rw [e_X11_isAHit]
  simp (maxSteps := 1000000) (disch := first | assumption | omega) only [x_rf, x_m, lt_bv_r, lt_bi_r, lt_bl_r, ↓r_ck, r_get, r_put, r_more, rM_h, rM_f, rM_x, rM_wf, rM_wx, rM_wh, lt_iN, lt_b1_0, lt_b1_1, x_if1, x_eq1, x_10, x_01, x_11, x_00, ↓reduceIte, r_nz, r_ar1L0, r_ar1L1, lt_n0_, lt_n1_, upd_s, upd_o, u2_eq, u2_n1, u2_n2, r_p1, r_p5, r_p6, r_p7, r_p9, r_p10, r_p11, r_p13, r_p19, r_p23, r_p26, r_p27, r_p32, r_p33, r_p34, r_ar1, r_ar9, r_ar10, r_ar11, r_ar12, r_ar13, r_ar14, r_ar15, r_ar16, r_ar17, r_ar18, r_ar19, r_ar74, r_ar75, r_ar76, n2_, n4_, n12_, n24_, n28_, n50_, n54_, n76_, n80_, n102_, n128_, n154_, n180_, n206_, n232_, n258_, n284_, n310_, n336_, n362_, n380_, n680_, r_get0, r_get1, r_get2, r_get3, r_get4, r_get8, r_get9, r_get10, r_get11, r_get12, r_get13, r_put0, r_put1, r_put2, r_put3, r_put4, r_put5, r_put6, r_put7, r_put8, r_put9, r_put10, r_put11, r_more10, r_more12, r_more13, r_more14, r_more15, r_more16, r_more17, r_more18, r_more19, r_more20, r_isUsed2]
  rfl
/-- the units a unit holds, of an owner or of all -/
def qU1 (H U : Nat → Int32) (ow : Int32) (k : Nat) : Int32 := if U (24 + k) = 1 then (if ow = -1 then H (2 + k) else if H (54 + k) = ow then H (2 + k) else 0) else 0
def qUnits (H U : Nat → Int32) (ow : Int32) : Nat → Int32 → Int32
  | 0, acc => acc
  | n + 1, acc => qUnits H U ow n (acc + qU1 H U ow (25 - n))
theorem qUnits_s {ow acc : Int32} {n : Nat} : qUnits H U ow (n + 1) acc = qUnits H U ow n (acc + qU1 H U ow (25 - n)) := rfl
theorem lt_end : ¬ nI (26 - 0) < (26 : Int32) := by decide
theorem lt_suc2 {n : Nat} (hn : n + 1 ≤ 26) : nI (25 - n) < (26 : Int32) := (lt_suc hn).2.2
theorem r_unitsOf_5 (d : Nat) (h : RA M o) (hu : u < 18) {ow : Int32} : ∀ (n : Nat) (acc : Int32), n ≤ 26 → f_X11_unitsOf_5 (d + 3) (rM M o H (u1 V u U) X) o (nI u) ow acc (nI (26 - n)) = some (.inl (some (.int (qUnits H U ow n acc))), rM M o H (u1 V u U) X)
  | 0, acc, _ => by
    rw [e_X11_unitsOf_5, if_neg lt_end]
    rfl
  | n + 1, acc, hn => by
    have ih := fun acc => r_unitsOf_5 d h hu (ow := ow) n acc (by omega)
    obtain ⟨g1, g2, -⟩ := lt_suc hn
    have hk : 25 - n < 26 := by omega
    rw [g1, e_X11_unitsOf_5, if_pos (lt_suc2 hn)]
    simp (maxSteps := 1000000) (disch := first | assumption | omega) only [x_rf, x_m, lt_bv_r, lt_bi_r, lt_bl_r, ↓r_ck, r_get, r_put, r_more, rM_h, rM_f, rM_x, rM_wf, rM_wx, rM_wh, lt_iN, lt_b1_0, lt_b1_1, x_if1, x_eq1, x_10, x_01, x_11, x_00, ↓reduceIte, r_nz, r_ar1L0, r_ar1L1, lt_n0_, lt_n1_, upd_s, upd_o, u2_eq, u2_n1, u2_n2, r_p1, r_p5, r_p6, r_p7, r_p9, r_p10, r_p11, r_p13, r_p19, r_p23, r_p26, r_p27, r_p32, r_p33, r_p34, r_ar1, r_ar9, r_ar10, r_ar11, r_ar12, r_ar13, r_ar14, r_ar15, r_ar16, r_ar17, r_ar18, r_ar19, r_ar74, r_ar75, r_ar76, n2_, n4_, n12_, n24_, n28_, n50_, n54_, n76_, n80_, n102_, n128_, n154_, n180_, n206_, n232_, n258_, n284_, n310_, n336_, n362_, n380_, n680_, r_get0, r_get1, r_get2, r_get3, r_get4, r_get8, r_get9, r_get10, r_get11, r_get12, r_get13, r_put0, r_put1, r_put2, r_put3, r_put4, r_put5, r_put6, r_put7, r_put8, r_put9, r_put10, r_put11, r_more10, r_more12, r_more13, r_more14, r_more15, r_more16, r_more17, r_more18, r_more19, r_more20, r_holds2, g2, ih]
    rw [qUnits_s]
    unfold qU1
    by_cases h1 : U (24 + (25 - n)) = 1
    · by_cases h2 : ow = -1
      · simp only [h1, h2, if_true]
      · by_cases h3 : H (54 + (25 - n)) = ow
        · simp only [h1, h2, h3, if_true, if_false]
        · simp only [h1, h2, h3, if_true, if_false]
    · simp only [h1, if_false]
theorem r_unitsOf2 (d : Nat) (h : RA M o) (hu : u < 18) {ow : Int32} : f_X11_unitsOf (d + 3) (rM M o H (u1 V u U) X) o (nI u) ow = some (.inl (some (.int (qUnits H U ow 26 0))), rM M o H (u1 V u U) X) := by
  rw [e_X11_unitsOf]
  exact r_unitsOf_5 d h hu 26 0 (Nat.le_refl _)
def qCount (U : Nat → Int32) (w : Nat) : Nat → Int32 → Int32
  | 0, acc => acc
  | n + 1, acc => qCount U w n (acc + if U (w + (25 - n)) = 0 then 0 else 1)
theorem r_countAll_5 (d : Nat) (h : RA M o) (hu : u < 18) (hw : w + 26 ≤ 662) : ∀ (n : Nat) (acc : Int32), n ≤ 26 → f_X11_countAll_5 (d + 2) (rM M o H (u1 V u U) X) o (nI u) (nI w) acc (nI (26 - n)) = some (.inl (some (.int (qCount U w n acc))), rM M o H (u1 V u U) X)
  | 0, acc, _ => by
    rw [e_X11_countAll_5, if_neg lt_end]
    rfl
  | n + 1, acc, hn => by
    have ih := fun acc => r_countAll_5 d h hu hw n acc (by omega)
    obtain ⟨g1, g2, -⟩ := lt_suc hn
    rw [g1, e_X11_countAll_5, if_pos (lt_suc2 hn), lt_iA]
    simp (maxSteps := 1000000) (disch := first | assumption | omega) only [x_rf, x_m, lt_bv_r, lt_bi_r, lt_bl_r, ↓r_ck, r_get, r_put, r_more, rM_h, rM_f, rM_x, rM_wf, rM_wx, rM_wh, lt_iN, lt_b1_0, lt_b1_1, x_if1, x_eq1, x_10, x_01, x_11, x_00, ↓reduceIte, r_nz, r_ar1L0, r_ar1L1, lt_n0_, lt_n1_, upd_s, upd_o, u2_eq, u2_n1, u2_n2, r_p1, r_p5, r_p6, r_p7, r_p9, r_p10, r_p11, r_p13, r_p19, r_p23, r_p26, r_p27, r_p32, r_p33, r_p34, r_ar1, r_ar9, r_ar10, r_ar11, r_ar12, r_ar13, r_ar14, r_ar15, r_ar16, r_ar17, r_ar18, r_ar19, r_ar74, r_ar75, r_ar76, n2_, n4_, n12_, n24_, n28_, n50_, n54_, n76_, n80_, n102_, n128_, n154_, n180_, n206_, n232_, n258_, n284_, n310_, n336_, n362_, n380_, n680_, r_get0, r_get1, r_get2, r_get3, r_get4, r_get8, r_get9, r_get10, r_get11, r_get12, r_get13, r_put0, r_put1, r_put2, r_put3, r_put4, r_put5, r_put6, r_put7, r_put8, r_put9, r_put10, r_put11, r_more10, r_more12, r_more13, r_more14, r_more15, r_more16, r_more17, r_more18, r_more19, r_more20, g2, ih]
    show _ = some (Sum.inl (some (Value.int (qCount U w n (acc + if U (w + (25 - n)) = 0 then 0 else 1)))), _)
    by_cases h1 : U (w + (25 - n)) = 0
    · simp only [h1, if_true]
    · simp only [h1, if_false]
theorem r_countAll2 (d : Nat) (h : RA M o) (hu : u < 18) (hw : w + 26 ≤ 662) : f_X11_countAll (d + 2) (rM M o H (u1 V u U) X) o (nI u) (nI w) = some (.inl (some (.int (qCount U w 26 0))), rM M o H (u1 V u U) X) := by
  rw [e_X11_countAll]
  exact r_countAll_5 d h hu hw 26 0 (Nat.le_refl _)
/-- whether an owner has more than its share, with a key that comes -/
def qOver (H U : Nat → Int32) (w k : Nat) : Bool := decide (U (4 + w) < qUnits H U (nI w) 26 0 + (if H (54 + k) = nI w then H (2 + k) else 0))
theorem r_isOver2 (d : Nat) (h : RA M o) (hu : u < 18) (hk : k < 26) (hw : w < 4) : f_X11_isOver (d + 4) (rM M o H (u1 V u U) X) o (nI u) (nI w) (nI k) = some (.inl (some (.int (bI (qOver H U w k)))), rM M o H (u1 V u U) X) := by
  rw [e_X11_isOver]
  simp (maxSteps := 1000000) (disch := first | assumption | omega) only [x_rf, x_m, lt_bv_r, lt_bi_r, lt_bl_r, ↓r_ck, r_get, r_put, r_more, rM_h, rM_f, rM_x, rM_wf, rM_wx, rM_wh, lt_iN, lt_b1_0, lt_b1_1, x_if1, x_eq1, x_10, x_01, x_11, x_00, ↓reduceIte, r_nz, r_ar1L0, r_ar1L1, lt_n0_, lt_n1_, upd_s, upd_o, u2_eq, u2_n1, u2_n2, r_p1, r_p5, r_p6, r_p7, r_p9, r_p10, r_p11, r_p13, r_p19, r_p23, r_p26, r_p27, r_p32, r_p33, r_p34, r_ar1, r_ar9, r_ar10, r_ar11, r_ar12, r_ar13, r_ar14, r_ar15, r_ar16, r_ar17, r_ar18, r_ar19, r_ar74, r_ar75, r_ar76, n2_, n4_, n12_, n24_, n28_, n50_, n54_, n76_, n80_, n102_, n128_, n154_, n180_, n206_, n232_, n258_, n284_, n310_, n336_, n362_, n380_, n680_, r_get0, r_get1, r_get2, r_get3, r_get4, r_get8, r_get9, r_get10, r_get11, r_get12, r_get13, r_put0, r_put1, r_put2, r_put3, r_put4, r_put5, r_put6, r_put7, r_put8, r_put9, r_put10, r_put11, r_more10, r_more12, r_more13, r_more14, r_more15, r_more16, r_more17, r_more18, r_more19, r_more20, r_unitsOf2, x_res]
  unfold qOver bI
  by_cases h1 : H (54 + k) = nI w
  · simp only [h1, if_true, decide_eq_true_eq]
  · simp only [h1, if_false, decide_eq_true_eq]
/-- scratch: what a unit's methods leave alone of the other cells -/
def XS (X X' : Nat → Nat → Int32) : Prop := (∀ t, t ≠ 0 → (t < 9 ∨ 13 < t) → X' t = X t) ∧ ∀ j, j ≠ 8 → X' 0 j = X 0 j
theorem XS.refl : XS X X := ⟨fun _ _ _ => rfl, fun _ _ => rfl⟩
theorem XS.trans {X' X'' : Nat → Nat → Int32} (h1 : XS X X') (h2 : XS X' X'') : XS X X'' := ⟨fun t a b => (h2.1 t a b).trans (h1.1 t a b), fun j a => (h2.2 j a).trans (h1.2 j a)⟩
theorem XS.wr {t : Nat} (h1 : 9 ≤ t) (h2 : t ≤ 13) : XS X (u2 X t j v) := by
  refine ⟨fun t' a b => funext fun i => if_neg (by omega), fun i a => if_neg (by omega)⟩
theorem XS.w8 : XS X (u2 X 0 8 v) := by
  refine ⟨fun t' a b => funext fun i => if_neg (by omega), fun i a => if_neg (by omega)⟩
end Rh
