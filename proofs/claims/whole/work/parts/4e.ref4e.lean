/-! THE REFERENCE: setShares, replay, dropTold, undo -/
section Rv
variable {M M' : LM} {o i j k u w y f t c q n x : Nat} {H : Nat → Int32} {V V' X : Nat → Nat → Int32} {S U W : Nat → Int32} {p : Nat → Nat} {g : Nat → Option Nat} {v a b e : Int32} {z : Option (LO × LM)} {kf fs : Nat → Nat}
def qSum4 (x y z w : Int32) : Int64 := Int32.toInt64 x + Int32.toInt64 y + Int32.toInt64 z + Int32.toInt64 w
def qSSok (room x y z w : Int32) : Bool := !decide (x < 0) && !decide (y < 0) && !decide (z < 0) && !decide (w < 0) && !decide ((0 : Int32) < lg_cmp (qSum4 x y z w) (Int32.toInt64 room))
def qShare (U : Nat → Int32) (x y z w : Int32) : Nat → Int32 := upd (upd (upd (upd (upd U 4 x) 5 y) 6 z) 7 w) 8 (if 0 < x + y + z + w then 1 else 0)
def qBeyond (H U : Nat → Int32) : Nat → Int32 → Int32
  | 0, acc => acc
  | n + 1, acc => qBeyond H U n (acc + if U (4 + (3 - n)) < qUnits H U (nI (3 - n)) 26 0 then 1 else 0)
theorem r_shares_145 (d : Nat) (h : RA M o) (hu : u < 18) : ∀ (n : Nat) (acc : Int32), n ≤ 4 →
    f_X11_setShares_145 (d + 4) (rM M o H (u1 V u U) X) o (nI u) acc (nI (4 - n)) = some (.inl (some (.int (if U 8 = 1 then qBeyond H U n acc else acc))), rM M o H (u1 V u U) X)
  | 0, acc, _ => by
    rw [e_X11_setShares_145, if_neg (by decide)]
    unfold qBeyond
    split <;> rfl
  | n + 1, acc, hn => by
    have g1 : nI (4 - (n + 1)) = nI (3 - n) := by congr 1; omega
    have g2 : nI (3 - n) + 1 = nI (4 - n) := by
      rw [show nI (3 - n) + 1 = nI (3 - n + 1) from lt_iA (j := 3 - n) (k := 1)]
      congr 1
      omega
    have g3 : nI (3 - n) < (4 : Int32) := (lt_iL (j := 3 - n) (k := 4) (by omega) (by omega)).mpr (by omega)
    have ih := fun acc => r_shares_145 d h hu n acc (by omega)
    have hs : qBeyond H U (n + 1) acc = qBeyond H U n (acc + if U (4 + (3 - n)) < qUnits H U (nI (3 - n)) 26 0 then 1 else 0) := rfl
    rw [g1, e_X11_setShares_145, if_pos g3, hs]
    by_cases h8 : U 8 = 1
    · simp (maxSteps := 1000000) (disch := first | assumption | omega) only [x_rf, x_m, lt_bv_r, lt_bi_r, lt_bl_r, ↓r_ck, r_get, r_put, r_more, rM_h, rM_f, rM_x, rM_wf, rM_wx, rM_wh, lt_iN, lt_b1_0, lt_b1_1, x_if1, x_eq1, x_10, x_01, x_11, x_00, ↓reduceIte, r_nz, r_ar1L0, r_ar1L1, lt_n0_, lt_n1_, upd_s, upd_o, u2_eq, u2_n1, u2_n2, r_p1, r_p5, r_p6, r_p7, r_p9, r_p10, r_p11, r_p13, r_p19, r_p23, r_p26, r_p27, r_p32, r_p33, r_p34, r_ar1, r_ar9, r_ar10, r_ar11, r_ar12, r_ar13, r_ar14, r_ar15, r_ar16, r_ar17, r_ar18, r_ar19, r_ar74, r_ar75, r_ar76, n2_, n4_, n12_, n24_, n28_, n50_, n54_, n76_, n80_, n102_, n128_, n154_, n180_, n206_, n232_, n258_, n284_, n310_, n336_, n362_, n380_, n680_, r_get0, r_get1, r_get2, r_get3, r_get4, r_get8, r_get9, r_get10, r_get11, r_get12, r_get13, r_put0, r_put1, r_put2, r_put3, r_put4, r_put5, r_put6, r_put7, r_put8, r_put9, r_put10, r_put11, r_more10, r_more12, r_more13, r_more14, r_more15, r_more16, r_more17, r_more18, r_more19, r_more20, h8, r_unitsOf2, g2, ih]
      by_cases q : U (4 + (3 - n)) < qUnits H U (nI (3 - n)) 26 0
      · simp only [q, if_true]
      · simp only [q, if_false]
    · simp (maxSteps := 1000000) (disch := first | assumption | omega) only [x_rf, x_m, lt_bv_r, lt_bi_r, lt_bl_r, ↓r_ck, r_get, r_put, r_more, rM_h, rM_f, rM_x, rM_wf, rM_wx, rM_wh, lt_iN, lt_b1_0, lt_b1_1, x_if1, x_eq1, x_10, x_01, x_11, x_00, ↓reduceIte, r_nz, r_ar1L0, r_ar1L1, lt_n0_, lt_n1_, upd_s, upd_o, u2_eq, u2_n1, u2_n2, r_p1, r_p5, r_p6, r_p7, r_p9, r_p10, r_p11, r_p13, r_p19, r_p23, r_p26, r_p27, r_p32, r_p33, r_p34, r_ar1, r_ar9, r_ar10, r_ar11, r_ar12, r_ar13, r_ar14, r_ar15, r_ar16, r_ar17, r_ar18, r_ar19, r_ar74, r_ar75, r_ar76, n2_, n4_, n12_, n24_, n28_, n50_, n54_, n76_, n80_, n102_, n128_, n154_, n180_, n206_, n232_, n258_, n284_, n310_, n336_, n362_, n380_, n680_, r_get0, r_get1, r_get2, r_get3, r_get4, r_get8, r_get9, r_get10, r_get11, r_get12, r_get13, r_put0, r_put1, r_put2, r_put3, r_put4, r_put5, r_put6, r_put7, r_put8, r_put9, r_put10, r_put11, r_more10, r_more12, r_more13, r_more14, r_more15, r_more16, r_more17, r_more18, r_more19, r_more20, h8]
theorem r_setShares (d : Nat) (h : RA M o) (hp : PA p) (hc : c ≤ 6) (hX : X 0 3 = nI c) {cache x y z w : Int32} :
    f_X11_setShares (d + 5) (rG M o p H V X) o cache x y z w = if qIn cache 0 5 = true then (if qSSok (V (lt_n cache) 1) x y z w = true then
        some (.inl (some (.int (if 0 < x + y + z + w then qBeyond H (qShare (V (lt_n cache)) x y z w) 4 0 else 0))), rG M o (qKp p c) H (u1 V (lt_n cache) (qShare (V (lt_n cache)) x y z w)) (qBX p c (qX0 X) H V))
      else some (.inl (some (.int 0)), rG M o p H V (qXe X 2))) else some (.inl (some (.int 0)), rG M o p H V (qXe X 1)) := by
  have hr0 := h.rp (g := (gP o p))
  have hr := h.rp (g := (gP o (qKp p c)))
  have eb := r_begins (M := M) (o := o) (H := H) (V := V) (X := qX0 X) (d + 2) h hp hc (show qX0 X 0 3 = nI c from (u2_n2 (by omega)).trans hX)
  unfold rG at eb ⊢
  rw [e_X11_setShares]
  cases hq : qIn cache 0 5
  · simp (maxSteps := 1000000) (disch := first | assumption | omega) only [x_rf, x_m, lt_bv_r, lt_bi_r, lt_bl_r, ↓r_ck, r_get, r_put, r_more, rM_h, rM_f, rM_x, rM_wf, rM_wx, rM_wh, lt_iN, lt_b1_0, lt_b1_1, x_if1, x_eq1, x_10, x_01, x_11, x_00, ↓reduceIte, r_nz, r_ar1L0, r_ar1L1, lt_n0_, lt_n1_, upd_s, upd_o, u2_eq, u2_n1, u2_n2, r_p1, r_p5, r_p6, r_p7, r_p9, r_p10, r_p11, r_p13, r_p19, r_p23, r_p26, r_p27, r_p32, r_p33, r_p34, r_ar1, r_ar9, r_ar10, r_ar11, r_ar12, r_ar13, r_ar14, r_ar15, r_ar16, r_ar17, r_ar18, r_ar19, r_ar74, r_ar75, r_ar76, n2_, n4_, n12_, n24_, n28_, n50_, n54_, n76_, n80_, n102_, n128_, n154_, n180_, n206_, n232_, n258_, n284_, n310_, n336_, n362_, n380_, n680_, r_get0, r_get1, r_get2, r_get3, r_get4, r_get8, r_get9, r_get10, r_get11, r_get12, r_get13, r_put0, r_put1, r_put2, r_put3, r_put4, r_put5, r_put6, r_put7, r_put8, r_put9, r_put10, r_put11, r_more10, r_more12, r_more13, r_more14, r_more15, r_more16, r_more17, r_more18, r_more19, r_more20, r_in, r_no, r_no0, r_no1, bI_t, bI_f, bI0, Bool.not_true, Bool.not_false, r_isNoCache, hq, Bool.false_eq_true]
  · obtain ⟨ch, hch, rfl⟩ := qIn_c hq
    have hch' : ch < 18 := by omega
    rw [lt_iN (by omega)]
    have e69 : f_X11_setShares_69 (d + 5) (rM (rP M o (gP o p)) o H V (qX0 X)) o (nI ch) x y z w o = some (.inl (some (.int 0)), rM (rP M o (gP o p)) o H V (qXe X 2)) := by
      rw [e_X11_setShares_69]
      simp (maxSteps := 1000000) (disch := first | assumption | omega) only [x_rf, x_m, lt_bv_r, lt_bi_r, lt_bl_r, ↓r_ck, r_get, r_put, r_more, rM_h, rM_f, rM_x, rM_wf, rM_wx, rM_wh, lt_iN, lt_b1_0, lt_b1_1, x_if1, x_eq1, x_10, x_01, x_11, x_00, ↓reduceIte, r_nz, r_ar1L0, r_ar1L1, lt_n0_, lt_n1_, upd_s, upd_o, u2_eq, u2_n1, u2_n2, r_p1, r_p5, r_p6, r_p7, r_p9, r_p10, r_p11, r_p13, r_p19, r_p23, r_p26, r_p27, r_p32, r_p33, r_p34, r_ar1, r_ar9, r_ar10, r_ar11, r_ar12, r_ar13, r_ar14, r_ar15, r_ar16, r_ar17, r_ar18, r_ar19, r_ar74, r_ar75, r_ar76, n2_, n4_, n12_, n24_, n28_, n50_, n54_, n76_, n80_, n102_, n128_, n154_, n180_, n206_, n232_, n258_, n284_, n310_, n336_, n362_, n380_, n680_, r_get0, r_get1, r_get2, r_get3, r_get4, r_get8, r_get9, r_get10, r_get11, r_get12, r_get13, r_put0, r_put1, r_put2, r_put3, r_put4, r_put5, r_put6, r_put7, r_put8, r_put9, r_put10, r_put11, r_more10, r_more12, r_more13, r_more14, r_more15, r_more16, r_more17, r_more18, r_more19, r_more20, r_in, r_no, r_no0, r_no1, bI_t, bI_f, bI0, Bool.not_true, Bool.not_false]
      rfl
    have e32 : f_X11_setShares_32 (d + 5) (rM (rP M o (gP o p)) o H V (qX0 X)) o (nI ch) x y z w = some (.inl (some (.int 0)), rM (rP M o (gP o p)) o H V (qXe X 2)) := by
      rw [e_X11_setShares_32, e_X11_setShares_33, if_pos rfl, e69]
    have e145 := fun (U : Nat → Int32) => r_shares_145 (M := rP M o (gP o (qKp p c))) (o := o) (H := H) (V := V) (U := U) (X := qBX p c (qX0 X) H V) (u := ch) (d + 1) hr hch' 4 0 (Nat.le_refl _)
    have e145' : ∀ (U : Nat → Int32), f_X11_setShares_145 (d + 5) (rM (rP M o (gP o (qKp p c))) o H (u1 V ch U) (qBX p c (qX0 X) H V)) o (nI ch) 0 0 = _ := e145
    have gr := r_getV (M := rP M o (gP o p)) (o := o) (H := H) (V := V) (X := qX0 X) (u := ch) (w := 1) (d + 3) hr0 hch' (by omega)
    have gr' : f_X11_get (d + 4) (rM (rP M o (gP o p)) o H V (qX0 X)) o (nI ch) 1 = _ := gr
    have eb' : f_X11_begins (d + 4) (rM (rP M o (gP o p)) o H V (qX0 X)) o = some (.inl none, rM (rP M o (gP o (qKp p c))) o H (u1 V ch (V ch)) (qBX p c (qX0 X) H V)) := by
      rw [u1_id]
      exact eb
    have e33 : f_X11_setShares_33 (d + 5) (rM (rP M o (gP o p)) o H V (qX0 X)) o (nI ch) x y z w 1 = if (0 : Int32) < lg_cmp (qSum4 x y z w) (Int32.toInt64 (V ch 1)) then some (.inl (some (.int 0)), rM (rP M o (gP o p)) o H V (qXe X 2)) else some (.inl (some (.int (if 0 < x + y + z + w then qBeyond H (qShare (V ch) x y z w) 4 0 else 0))), rM (rP M o (gP o (qKp p c))) o H (u1 V ch (qShare (V ch) x y z w)) (qBX p c (qX0 X) H V)) := by
      rw [e_X11_setShares_33]
      by_cases hl : (0 : Int32) < lg_cmp (qSum4 x y z w) (Int32.toInt64 (V ch 1))
      · have hl' := hl
        unfold qSum4 at hl'
        simp (maxSteps := 1000000) (disch := first | assumption | omega) only [x_rf, x_m, lt_bv_r, lt_bi_r, lt_bl_r, ↓r_ck, r_get, r_put, r_more, rM_h, rM_f, rM_x, rM_wf, rM_wx, rM_wh, lt_iN, lt_b1_0, lt_b1_1, x_if1, x_eq1, x_10, x_01, x_11, x_00, ↓reduceIte, r_nz, r_ar1L0, r_ar1L1, lt_n0_, lt_n1_, upd_s, upd_o, u2_eq, u2_n1, u2_n2, r_p1, r_p5, r_p6, r_p7, r_p9, r_p10, r_p11, r_p13, r_p19, r_p23, r_p26, r_p27, r_p32, r_p33, r_p34, r_ar1, r_ar9, r_ar10, r_ar11, r_ar12, r_ar13, r_ar14, r_ar15, r_ar16, r_ar17, r_ar18, r_ar19, r_ar74, r_ar75, r_ar76, n2_, n4_, n12_, n24_, n28_, n50_, n54_, n76_, n80_, n102_, n128_, n154_, n180_, n206_, n232_, n258_, n284_, n310_, n336_, n362_, n380_, n680_, r_get0, r_get1, r_get2, r_get3, r_get4, r_get8, r_get9, r_get10, r_get11, r_get12, r_get13, r_put0, r_put1, r_put2, r_put3, r_put4, r_put5, r_put6, r_put7, r_put8, r_put9, r_put10, r_put11, r_more10, r_more12, r_more13, r_more14, r_more15, r_more16, r_more17, r_more18, r_more19, r_more20, r_in, r_no, r_no0, r_no1, bI_t, bI_f, bI0, Bool.not_true, Bool.not_false, gr', hl', e69, hl]
      · have hl' := hl
        unfold qSum4 at hl'
        simp (maxSteps := 1000000) (disch := first | assumption | omega) only [x_rf, x_m, lt_bv_r, lt_bi_r, lt_bl_r, ↓r_ck, r_get, r_put, r_more, rM_h, rM_f, rM_x, rM_wf, rM_wx, rM_wh, lt_iN, lt_b1_0, lt_b1_1, x_if1, x_eq1, x_10, x_01, x_11, x_00, ↓reduceIte, r_nz, r_ar1L0, r_ar1L1, lt_n0_, lt_n1_, upd_s, upd_o, u2_eq, u2_n1, u2_n2, r_p1, r_p5, r_p6, r_p7, r_p9, r_p10, r_p11, r_p13, r_p19, r_p23, r_p26, r_p27, r_p32, r_p33, r_p34, r_ar1, r_ar9, r_ar10, r_ar11, r_ar12, r_ar13, r_ar14, r_ar15, r_ar16, r_ar17, r_ar18, r_ar19, r_ar74, r_ar75, r_ar76, n2_, n4_, n12_, n24_, n28_, n50_, n54_, n76_, n80_, n102_, n128_, n154_, n180_, n206_, n232_, n258_, n284_, n310_, n336_, n362_, n380_, n680_, r_get0, r_get1, r_get2, r_get3, r_get4, r_get8, r_get9, r_get10, r_get11, r_get12, r_get13, r_put0, r_put1, r_put2, r_put3, r_put4, r_put5, r_put6, r_put7, r_put8, r_put9, r_put10, r_put11, r_more10, r_more12, r_more13, r_more14, r_more15, r_more16, r_more17, r_more18, r_more19, r_more20, r_in, r_no, r_no0, r_no1, bI_t, bI_f, bI0, Bool.not_true, Bool.not_false, gr', hl', hl, eb', e145']
        unfold qShare
        by_cases q : 0 < x + y + z + w
        · simp only [q, if_true, upd_s]
        · simp only [q, if_false, upd_s, x_01]
    simp (maxSteps := 1000000) (disch := first | assumption | omega) only [x_rf, x_m, lt_bv_r, lt_bi_r, lt_bl_r, ↓r_ck, r_get, r_put, r_more, rM_h, rM_f, rM_x, rM_wf, rM_wx, rM_wh, lt_iN, lt_b1_0, lt_b1_1, x_if1, x_eq1, x_10, x_01, x_11, x_00, ↓reduceIte, r_nz, r_ar1L0, r_ar1L1, lt_n0_, lt_n1_, upd_s, upd_o, u2_eq, u2_n1, u2_n2, r_p1, r_p5, r_p6, r_p7, r_p9, r_p10, r_p11, r_p13, r_p19, r_p23, r_p26, r_p27, r_p32, r_p33, r_p34, r_ar1, r_ar9, r_ar10, r_ar11, r_ar12, r_ar13, r_ar14, r_ar15, r_ar16, r_ar17, r_ar18, r_ar19, r_ar74, r_ar75, r_ar76, n2_, n4_, n12_, n24_, n28_, n50_, n54_, n76_, n80_, n102_, n128_, n154_, n180_, n206_, n232_, n258_, n284_, n310_, n336_, n362_, n380_, n680_, r_get0, r_get1, r_get2, r_get3, r_get4, r_get8, r_get9, r_get10, r_get11, r_get12, r_get13, r_put0, r_put1, r_put2, r_put3, r_put4, r_put5, r_put6, r_put7, r_put8, r_put9, r_put10, r_put11, r_more10, r_more12, r_more13, r_more14, r_more15, r_more16, r_more17, r_more18, r_more19, r_more20, r_in, r_no, r_no0, r_no1, bI_t, bI_f, bI0, Bool.not_true, Bool.not_false, r_isNoCache, hq, e32, e33]
    unfold qSSok
    by_cases h1 : x < 0
    · simp [h1]
    · by_cases h2 : y < 0
      · simp [h1, h2]
      · by_cases h3 : z < 0
        · simp [h1, h2, h3]
        · by_cases h4 : w < 0
          · simp [h1, h2, h3, h4]
          · by_cases h5 : (0 : Int32) < lg_cmp (qSum4 x y z w) (Int32.toInt64 (V ch 1))
            · simp [h1, h2, h3, h4, h5]
            · simp [h1, h2, h3, h4, h5]
/-- replay() -/
def qRep (H : Nat → Int32) (kf fs : Nat → Nat) (t : Nat) : Nat → (Nat → Nat → Int32) → Option (Nat → Nat → Int32)
  | 0, V => some V
  | n + 1, V => match qFeedV (upd H 1 (H (680 + (t - (n + 1))))) kf fs (t - (n + 1)) 6 0 (qLapses (upd H 1 (H (680 + (t - (n + 1))))) 6 V 0).1 with
    | none => none
    | some (_, V') => qRep H kf fs t n V'
def qHits (V : Nat → Nat → Int32) : Nat → Int32 → Int32
  | 0, z => z
  | n + 1, z => qHits V n (z + V (5 - n) 12)
theorem r_rep_97 (d : Nat) (h : RA M o) : ∀ (n : Nat) (z : Int32), n ≤ 6 → f_X11_replay_97 (d + 2) (rM M o H V X) o z (nI (6 - n)) = some (.inl (some (.int (qHits V n z))), rM M o H V X)
  | 0, z, _ => by
    rw [e_X11_replay_97, if_neg (by decide)]
    rfl
  | n + 1, z, hn => by
    have hc : 5 - n < 18 := by omega
    have g1 : nI (6 - (n + 1)) = nI (5 - n) := by congr 1; omega
    have g2 : nI (5 - n) + 1 = nI (6 - n) := by
      rw [show nI (5 - n) + 1 = nI (5 - n + 1) from lt_iA (j := 5 - n) (k := 1)]
      congr 1
      omega
    have g3 : nI (5 - n) < (6 : Int32) := (lt_iL (j := 5 - n) (k := 6) (by omega) (by omega)).mpr (by omega)
    have gw : f_X11_get (d + 1) (rM M o H V X) o (nI (5 - n)) 12 = _ := r_getV (M := M) (o := o) (H := H) (V := V) (X := X) (u := 5 - n) (w := 12) d h hc (by omega)
    have ih := r_rep_97 d h n (z + V (5 - n) 12) (by omega)
    rw [g1, e_X11_replay_97, if_pos g3]
    simp (maxSteps := 1000000) (disch := first | assumption | omega) only [x_rf, x_m, lt_bv_r, lt_bi_r, lt_bl_r, ↓r_ck, r_get, r_put, r_more, rM_h, rM_f, rM_x, rM_wf, rM_wx, rM_wh, lt_iN, lt_b1_0, lt_b1_1, x_if1, x_eq1, x_10, x_01, x_11, x_00, ↓reduceIte, r_nz, r_ar1L0, r_ar1L1, lt_n0_, lt_n1_, upd_s, upd_o, u2_eq, u2_n1, u2_n2, r_p1, r_p5, r_p6, r_p7, r_p9, r_p10, r_p11, r_p13, r_p19, r_p23, r_p26, r_p27, r_p32, r_p33, r_p34, r_ar1, r_ar9, r_ar10, r_ar11, r_ar12, r_ar13, r_ar14, r_ar15, r_ar16, r_ar17, r_ar18, r_ar19, r_ar74, r_ar75, r_ar76, n2_, n4_, n12_, n24_, n28_, n50_, n54_, n76_, n80_, n102_, n128_, n154_, n180_, n206_, n232_, n258_, n284_, n310_, n336_, n362_, n380_, n680_, r_get0, r_get1, r_get2, r_get3, r_get4, r_get8, r_get9, r_get10, r_get11, r_get12, r_get13, r_put0, r_put1, r_put2, r_put3, r_put4, r_put5, r_put6, r_put7, r_put8, r_put9, r_put10, r_put11, r_more10, r_more12, r_more13, r_more14, r_more15, r_more16, r_more17, r_more18, r_more19, r_more20, gw, g2]
    exact ih
theorem r_rep_18 (d : Nat) (h : RA M o) : ∀ (n : Nat) (V : Nat → Nat → Int32), n ≤ 6 → f_X11_replay_18 (d + 4) (rM M o H V X) o v (nI (6 - n)) = f_X11_replay_38 (d + 4) (rM M o H (qClear n V) X) o v 0
  | 0, V, _ => by
    rw [e_X11_replay_18, if_neg (by decide)]
    rfl
  | n + 1, V, hn => by
    have hc : 5 - n < 6 := by omega
    have g1 : nI (6 - (n + 1)) = nI (5 - n) := by congr 1; omega
    have g2 : nI (5 - n) + 1 = nI (6 - n) := by
      rw [show nI (5 - n) + 1 = nI (5 - n + 1) from lt_iA (j := 5 - n) (k := 1)]
      congr 1
      omega
    have g3 : nI (5 - n) < (6 : Int32) := (lt_iL (j := 5 - n) (k := 6) (by omega) (by omega)).mpr (by omega)
    have ih := r_rep_18 d h n (qEmptyC V (5 - n) 0) (by omega)
    rw [g1, e_X11_replay_18, if_pos g3]
    simp (maxSteps := 1000000) (disch := first | assumption | omega) only [x_rf, x_m, lt_bv_r, lt_bi_r, lt_bl_r, ↓r_ck, r_get, r_put, r_more, rM_h, rM_f, rM_x, rM_wf, rM_wx, rM_wh, lt_iN, lt_b1_0, lt_b1_1, x_if1, x_eq1, x_10, x_01, x_11, x_00, ↓reduceIte, r_nz, r_ar1L0, r_ar1L1, lt_n0_, lt_n1_, upd_s, upd_o, u2_eq, u2_n1, u2_n2, r_p1, r_p5, r_p6, r_p7, r_p9, r_p10, r_p11, r_p13, r_p19, r_p23, r_p26, r_p27, r_p32, r_p33, r_p34, r_ar1, r_ar9, r_ar10, r_ar11, r_ar12, r_ar13, r_ar14, r_ar15, r_ar16, r_ar17, r_ar18, r_ar19, r_ar74, r_ar75, r_ar76, n2_, n4_, n12_, n24_, n28_, n50_, n54_, n76_, n80_, n102_, n128_, n154_, n180_, n206_, n232_, n258_, n284_, n310_, n336_, n362_, n380_, n680_, r_get0, r_get1, r_get2, r_get3, r_get4, r_get8, r_get9, r_get10, r_get11, r_get12, r_get13, r_put0, r_put1, r_put2, r_put3, r_put4, r_put5, r_put6, r_put7, r_put8, r_put9, r_put10, r_put11, r_more10, r_more12, r_more13, r_more14, r_more15, r_more16, r_more17, r_more18, r_more19, r_more20, r_emptiesAll, g2]
    exact ih
theorem qLeaves_lo2 (hw : w < 10) : qLeaves (upd U 15 (U 15 + 1)) k w = U w := by
  rw [qLeaves_lo hw, upd_o (by omega)]
theorem qLapse_lo (hw : w < 10) : ∀ (n : Nat) (U : Nat → Int32) (z : Int32), (qLapse H n U z).1 w = U w
  | 0, U, z => rfl
  | n + 1, U, z => by
    unfold qLapse
    split
    · rw [qLapse_lo hw n, qLeaves_lo2 hw]
    · exact qLapse_lo hw n U z
theorem qLapses_lo (hw : w < 10) : ∀ (n : Nat) (V : Nat → Nat → Int32) (z : Int32), (qLapses H n V z).1 u w = V u w
  | 0, V, z => rfl
  | n + 1, V, z => by
    unfold qLapses
    rw [qLapses_lo hw n]
    unfold u1
    split
    · rename_i q
      rw [q]
      unfold qLapseC
      split
      · exact qLapse_lo hw 26 _ _
      · rfl
    · rfl
theorem RS.h1 (h : RS H kf n V fs) : RS (upd H 1 v) kf n V fs := by
  obtain ⟨h1, h2, h3, h4, h5⟩ := h
  refine ⟨fun k hk => ?_, fun j hj => ?_, h3, (upd_o (by omega)).trans h4, h5⟩
  · have := h1 k hk
    simp (disch := omega) only [upd_o]
    exact this
  · have := h2 j hj
    simp (disch := omega) only [upd_o]
    exact this
theorem RS.vv (h : RS H kf n V fs) (hV : ∀ u w, w < 10 → V' u w = V u w) : RS H kf n V' fs :=
  ⟨h.1, h.2.1, h.2.2.1, h.2.2.2.1, fun u hu => by rw [hV u 9 (by omega), hV u 0 (by omega)]; exact h.2.2.2.2 u hu⟩
theorem r_rep_38 (d : Nat) (h : RA M o) {time : Int32} (hf0 : ∀ u, u < 18 → fs u = 0) : ∀ (m : Nat) (H : Nat → Int32) (V X : Nat → Nat → Int32), m ≤ n → RS H kf n V fs → ∀ (V' : Nat → Nat → Int32), qRep H kf fs n m V = some V' →
    ∃ X', XT X X' ∧ (m ≠ 0 → X' 0 4 = nI n) ∧ (m = 0 → X' 0 4 = X 0 4) ∧ f_X11_replay_38 (d + 11) (rM M o H V X) o time (nI (n - m)) = some (.inl (some (.int (qHits (qLapses (upd H 1 time) 6 V' 0).1 6 0))), rM M o (upd H 1 time) (qLapses (upd H 1 time) 6 V' 0).1 X')
  | 0, H, V, X, hm, hS, V', e => by
    cases e
    have hn := hS.2.2.1
    have h0 := hS.2.2.2.1
    have hlt : ¬ nI n < nI n := by rw [nI_ltP (by omega) (by omega)]; omega
    have e97 := r_rep_97 (M := M) (o := o) (H := upd H 1 time) (V := (qLapses (upd H 1 time) 6 V 0).1) (X := X) (d + 9) h 6 0 (Nat.le_refl _)
    have e97' : f_X11_replay_97 (d + 11) (rM M o (upd H 1 time) (qLapses (upd H 1 time) 6 V 0).1 X) o 0 0 = _ := e97
    refine ⟨X, XT.refl, fun q => absurd rfl q, fun _ => rfl, ?_⟩
    rw [Nat.sub_zero, e_X11_replay_38]
    simp (maxSteps := 1000000) (disch := first | assumption | omega) only [x_rf, x_m, lt_bv_r, lt_bi_r, lt_bl_r, ↓r_ck, r_get, r_put, r_more, rM_h, rM_f, rM_x, rM_wf, rM_wx, rM_wh, lt_iN, lt_b1_0, lt_b1_1, x_if1, x_eq1, x_10, x_01, x_11, x_00, ↓reduceIte, r_nz, r_ar1L0, r_ar1L1, lt_n0_, lt_n1_, upd_s, upd_o, u2_eq, u2_n1, u2_n2, r_p1, r_p5, r_p6, r_p7, r_p9, r_p10, r_p11, r_p13, r_p19, r_p23, r_p26, r_p27, r_p32, r_p33, r_p34, r_ar1, r_ar9, r_ar10, r_ar11, r_ar12, r_ar13, r_ar14, r_ar15, r_ar16, r_ar17, r_ar18, r_ar19, r_ar74, r_ar75, r_ar76, n2_, n4_, n12_, n24_, n28_, n50_, n54_, n76_, n80_, n102_, n128_, n154_, n180_, n206_, n232_, n258_, n284_, n310_, n336_, n362_, n380_, n680_, r_get0, r_get1, r_get2, r_get3, r_get4, r_get8, r_get9, r_get10, r_get11, r_get12, r_get13, r_put0, r_put1, r_put2, r_put3, r_put4, r_put5, r_put6, r_put7, r_put8, r_put9, r_put10, r_put11, r_more10, r_more12, r_more13, r_more14, r_more15, r_more16, r_more17, r_more18, r_more19, r_more20, h0, hlt, r_lapses, e97']
  | m + 1, H, V, X, hm, hS, V', e => by
    have hn := hS.2.2.1
    have h0 := hS.2.2.2.1
    unfold qRep at e
    split at e
    · cases e
    · rename_i b V1 h1
      have hlt : nI (n - (m + 1)) < nI n := by rw [nI_ltP (by omega) (by omega)]; omega
      have hS1 : RS (upd H 1 (H (680 + (n - (m + 1))))) kf n (qLapses (upd H 1 (H (680 + (n - (m + 1))))) 6 V 0).1 fs := (hS.h1).vv (fun u w hw => qLapses_lo hw 6 V 0)
      obtain ⟨X1, a1, a2, a3⟩ := r_feedsAll (M := M) (o := o) (X := X) (kf := kf) (fs := fs) d h hS1.1 (fun j hj => hS1.2.1 j (by omega)) (show n - (m + 1) < 300 by omega) (fun u hu => ⟨by rw [hf0 u hu]; omega, (hS1.2.2.2.2 u hu).2⟩) h1
      have hS2 : RS (upd H 1 (H (680 + (n - (m + 1))))) kf n V1 fs := hS1.vv (fun u w hw => qFeedV_lo _ _ _ _ _ h1 u w hw)
      have hu1 : ∀ x, upd (upd H 1 (H (680 + (n - (m + 1))))) 1 x = upd H 1 x := fun x => funext fun i => by
        unfold upd
        split <;> rfl
      have e' : qRep (upd H 1 (H (680 + (n - (m + 1))))) kf fs n m V1 = some V' := by
        have key : ∀ (m : Nat) (V : Nat → Nat → Int32) (x : Int32), m ≤ n → qRep (upd H 1 x) kf fs n m V = qRep H kf fs n m V := by
          intro m
          induction m with
          | zero => intro V x _; rfl
          | succ m ih =>
            intro V x hm'
            unfold qRep
            have : (upd H 1 x) (680 + (n - (m + 1))) = H (680 + (n - (m + 1))) := upd_o (by omega)
            rw [this, show ∀ y, upd (upd H 1 x) 1 y = upd H 1 y from fun y => funext fun i => by unfold upd; split <;> rfl]
            split
            · rfl
            · exact ih _ _ (by omega)
        rw [key _ _ _ (by omega)]
        exact e
      obtain ⟨X2, b1, b2, b2', b3⟩ := r_rep_38 d h (time := time) hf0 m (upd H 1 (H (680 + (n - (m + 1))))) V1 X1 (by omega) hS2 V' e'
      rw [hu1] at b3
      have h04 : (upd H 1 (H (680 + (n - (m + 1))))) 0 = nI n := (upd_o (by omega)).trans h0
      refine ⟨X2, a1.trans b1, fun _ => ?_, fun q => by omega, ?_⟩
      · by_cases q : m = 0
        · rw [b2' q, a2, h04]
        · exact b2 q
      · have g2 : nI (n - (m + 1)) + 1 = nI (n - m) := by
          rw [show nI (n - (m + 1)) + 1 = nI (n - (m + 1) + 1) from lt_iA (j := n - (m + 1)) (k := 1)]
          congr 1
          omega
        rw [e_X11_replay_38]
        simp (maxSteps := 1000000) (disch := first | assumption | omega) only [x_rf, x_m, lt_bv_r, lt_bi_r, lt_bl_r, ↓r_ck, r_get, r_put, r_more, rM_h, rM_f, rM_x, rM_wf, rM_wx, rM_wh, lt_iN, lt_b1_0, lt_b1_1, x_if1, x_eq1, x_10, x_01, x_11, x_00, ↓reduceIte, r_nz, r_ar1L0, r_ar1L1, lt_n0_, lt_n1_, upd_s, upd_o, u2_eq, u2_n1, u2_n2, r_p1, r_p5, r_p6, r_p7, r_p9, r_p10, r_p11, r_p13, r_p19, r_p23, r_p26, r_p27, r_p32, r_p33, r_p34, r_ar1, r_ar9, r_ar10, r_ar11, r_ar12, r_ar13, r_ar14, r_ar15, r_ar16, r_ar17, r_ar18, r_ar19, r_ar74, r_ar75, r_ar76, n2_, n4_, n12_, n24_, n28_, n50_, n54_, n76_, n80_, n102_, n128_, n154_, n180_, n206_, n232_, n258_, n284_, n310_, n336_, n362_, n380_, n680_, r_get0, r_get1, r_get2, r_get3, r_get4, r_get8, r_get9, r_get10, r_get11, r_get12, r_get13, r_put0, r_put1, r_put2, r_put3, r_put4, r_put5, r_put6, r_put7, r_put8, r_put9, r_put10, r_put11, r_more10, r_more12, r_more13, r_more14, r_more15, r_more16, r_more17, r_more18, r_more19, r_more20, h0, hlt, r_lapses, a3, g2]
        exact b3
theorem r_replay (d : Nat) (h : RA M o) (hp : PA p) (hc : c ≤ 6) (hX : X 0 3 = nI c) (hS : RS H kf n V fs) {V' : Nat → Nat → Int32} (e : qRep H kf (fun _ => 0) n n (qClear 6 V) = some V') (hS2 : RS H kf n (qClear 6 V) (fun _ => 0)) :
    ∃ X', XT (qBX p c (qX0 X) H V) X' ∧ X' 0 4 = nI n ∧ f_X11_replay (d + 12) (rG M o p H V X) o = some (.inl (some (.int (qHits (qLapses (upd H 1 (H 1)) 6 V' 0).1 6 0))), rG M o (qKp p c) (upd H 1 (H 1)) (qLapses (upd H 1 (H 1)) 6 V' 0).1 X') := by
  have hr0 := h.rp (g := (gP o p))
  have hr := h.rp (g := (gP o (qKp p c)))
  have eb := r_begins (M := M) (o := o) (H := H) (V := V) (X := qX0 X) (d + 9) h hp hc (show qX0 X 0 3 = nI c from (u2_n2 (by omega)).trans hX)
  have h0 := hS.2.2.2.1
  unfold rG at eb ⊢
  obtain ⟨X', a1, a2, a2', a3⟩ := r_rep_38 (M := rP M o (gP o (qKp p c))) (o := o) (kf := kf) (fs := fun _ => 0) (n := n) (time := H 1) (d + 1) hr (fun _ _ => rfl) n H (qClear 6 V) (qBX p c (qX0 X) H V) (Nat.le_refl _) hS2 V' e
  have e18 := r_rep_18 (M := rP M o (gP o (qKp p c))) (o := o) (H := H) (X := qBX p c (qX0 X) H V) (v := H 1) (d + 8) hr 6 V (Nat.le_refl _)
  have e18' : f_X11_replay_18 (d + 12) (rM (rP M o (gP o (qKp p c))) o H V (qBX p c (qX0 X) H V)) o (H 1) 0 = _ := e18
  refine ⟨X', a1, ?_, ?_⟩
  · by_cases q : n = 0
    · rw [a2' q]
      unfold qBX
      rw [u2_eq, h0]
    · exact a2 q
  · rw [e_X11_replay]
    unfold qX0 at eb
    simp (maxSteps := 1000000) (disch := first | assumption | omega) only [x_rf, x_m, lt_bv_r, lt_bi_r, lt_bl_r, ↓r_ck, r_get, r_put, r_more, rM_h, rM_f, rM_x, rM_wf, rM_wx, rM_wh, lt_iN, lt_b1_0, lt_b1_1, x_if1, x_eq1, x_10, x_01, x_11, x_00, ↓reduceIte, r_nz, r_ar1L0, r_ar1L1, lt_n0_, lt_n1_, upd_s, upd_o, u2_eq, u2_n1, u2_n2, r_p1, r_p5, r_p6, r_p7, r_p9, r_p10, r_p11, r_p13, r_p19, r_p23, r_p26, r_p27, r_p32, r_p33, r_p34, r_ar1, r_ar9, r_ar10, r_ar11, r_ar12, r_ar13, r_ar14, r_ar15, r_ar16, r_ar17, r_ar18, r_ar19, r_ar74, r_ar75, r_ar76, n2_, n4_, n12_, n24_, n28_, n50_, n54_, n76_, n80_, n102_, n128_, n154_, n180_, n206_, n232_, n258_, n284_, n310_, n336_, n362_, n380_, n680_, r_get0, r_get1, r_get2, r_get3, r_get4, r_get8, r_get9, r_get10, r_get11, r_get12, r_get13, r_put0, r_put1, r_put2, r_put3, r_put4, r_put5, r_put6, r_put7, r_put8, r_put9, r_put10, r_put11, r_more10, r_more12, r_more13, r_more14, r_more15, r_more16, r_more17, r_more18, r_more19, r_more20, eb]
    unfold qX0 at e18' a3
    rw [e18']
    rw [Nat.sub_self] at a3
    exact a3
/-- dropTold(): what is told is a held key of the cursor's cache -/
theorem r_dropTold (d : Nat) (h : RA M o) (hp : PA p) (hc : c ≤ 6) (hX : X 0 3 = nI c) {told : Option Nat} {ch : Nat} (ht : X 0 17 = oI told) (htk : ∀ k, told = some k → k < 26) (hch : X 0 16 = nI ch) (hch' : ch < 6) {op : Bool} (ho : X 0 18 = bI op) :
    f_X11_dropTold (d + 4) (rG M o p H V X) o = if op = true then (match told with
      | none => some (.inl (some (.int 0)), rG M o p H V (qXe X 1))
      | some k => some (.inl (some (.int (nI k))), rG M o (qKp p c) H (u1 V ch (qLeaves (V ch) k)) (u2 (qKX p c (qX0 X) (rowS H V)) 0 17 (-1)))) else some (.inl (some (.int 0)), rG M o p H V (qXe X 1)) := by
  have hr0 := h.rp (g := (gP o p))
  have hr := h.rp (g := (gP o (qKp p c)))
  have eb := r_keepsAll (M := M) (o := o) (H := H) (V := V) (X := qX0 X) (d + 2) h hp hc (show qX0 X 0 3 = nI c from (u2_n2 (by omega)).trans hX)
  unfold rG at eb ⊢
  unfold qX0 at eb
  have e25 : f_X11_dropTold_25 (d + 4) (rM (rP M o (gP o p)) o H V (u2 X 0 0 0)) o o = some (.inl (some (.int 0)), rM (rP M o (gP o p)) o H V (qXe X 1)) := by
    rw [e_X11_dropTold_25]
    simp (maxSteps := 1000000) (disch := first | assumption | omega) only [x_rf, x_m, lt_bv_r, lt_bi_r, lt_bl_r, ↓r_ck, r_get, r_put, r_more, rM_h, rM_f, rM_x, rM_wf, rM_wx, rM_wh, lt_iN, lt_b1_0, lt_b1_1, x_if1, x_eq1, x_10, x_01, x_11, x_00, ↓reduceIte, r_nz, r_ar1L0, r_ar1L1, lt_n0_, lt_n1_, upd_s, upd_o, u2_eq, u2_n1, u2_n2, r_p1, r_p5, r_p6, r_p7, r_p9, r_p10, r_p11, r_p13, r_p19, r_p23, r_p26, r_p27, r_p32, r_p33, r_p34, r_ar1, r_ar9, r_ar10, r_ar11, r_ar12, r_ar13, r_ar14, r_ar15, r_ar16, r_ar17, r_ar18, r_ar19, r_ar74, r_ar75, r_ar76, n2_, n4_, n12_, n24_, n28_, n50_, n54_, n76_, n80_, n102_, n128_, n154_, n180_, n206_, n232_, n258_, n284_, n310_, n336_, n362_, n380_, n680_, r_get0, r_get1, r_get2, r_get3, r_get4, r_get8, r_get9, r_get10, r_get11, r_get12, r_get13, r_put0, r_put1, r_put2, r_put3, r_put4, r_put5, r_put6, r_put7, r_put8, r_put9, r_put10, r_put11, r_more10, r_more12, r_more13, r_more14, r_more15, r_more16, r_more17, r_more18, r_more19, r_more20, r_in, r_no, r_no0, r_no1, bI_t, bI_f, bI0, Bool.not_true, Bool.not_false]
    rfl
  rw [e_X11_dropTold]
  cases op
  · simp (maxSteps := 1000000) (disch := first | assumption | omega) only [x_rf, x_m, lt_bv_r, lt_bi_r, lt_bl_r, ↓r_ck, r_get, r_put, r_more, rM_h, rM_f, rM_x, rM_wf, rM_wx, rM_wh, lt_iN, lt_b1_0, lt_b1_1, x_if1, x_eq1, x_10, x_01, x_11, x_00, ↓reduceIte, r_nz, r_ar1L0, r_ar1L1, lt_n0_, lt_n1_, upd_s, upd_o, u2_eq, u2_n1, u2_n2, r_p1, r_p5, r_p6, r_p7, r_p9, r_p10, r_p11, r_p13, r_p19, r_p23, r_p26, r_p27, r_p32, r_p33, r_p34, r_ar1, r_ar9, r_ar10, r_ar11, r_ar12, r_ar13, r_ar14, r_ar15, r_ar16, r_ar17, r_ar18, r_ar19, r_ar74, r_ar75, r_ar76, n2_, n4_, n12_, n24_, n28_, n50_, n54_, n76_, n80_, n102_, n128_, n154_, n180_, n206_, n232_, n258_, n284_, n310_, n336_, n362_, n380_, n680_, r_get0, r_get1, r_get2, r_get3, r_get4, r_get8, r_get9, r_get10, r_get11, r_get12, r_get13, r_put0, r_put1, r_put2, r_put3, r_put4, r_put5, r_put6, r_put7, r_put8, r_put9, r_put10, r_put11, r_more10, r_more12, r_more13, r_more14, r_more15, r_more16, r_more17, r_more18, r_more19, r_more20, r_in, r_no, r_no0, r_no1, bI_t, bI_f, bI0, Bool.not_true, Bool.not_false, ho, e25, Bool.false_eq_true]
  · cases told with
    | none =>
      simp (maxSteps := 1000000) (disch := first | assumption | omega) only [x_rf, x_m, lt_bv_r, lt_bi_r, lt_bl_r, ↓r_ck, r_get, r_put, r_more, rM_h, rM_f, rM_x, rM_wf, rM_wx, rM_wh, lt_iN, lt_b1_0, lt_b1_1, x_if1, x_eq1, x_10, x_01, x_11, x_00, ↓reduceIte, r_nz, r_ar1L0, r_ar1L1, lt_n0_, lt_n1_, upd_s, upd_o, u2_eq, u2_n1, u2_n2, r_p1, r_p5, r_p6, r_p7, r_p9, r_p10, r_p11, r_p13, r_p19, r_p23, r_p26, r_p27, r_p32, r_p33, r_p34, r_ar1, r_ar9, r_ar10, r_ar11, r_ar12, r_ar13, r_ar14, r_ar15, r_ar16, r_ar17, r_ar18, r_ar19, r_ar74, r_ar75, r_ar76, n2_, n4_, n12_, n24_, n28_, n50_, n54_, n76_, n80_, n102_, n128_, n154_, n180_, n206_, n232_, n258_, n284_, n310_, n336_, n362_, n380_, n680_, r_get0, r_get1, r_get2, r_get3, r_get4, r_get8, r_get9, r_get10, r_get11, r_get12, r_get13, r_put0, r_put1, r_put2, r_put3, r_put4, r_put5, r_put6, r_put7, r_put8, r_put9, r_put10, r_put11, r_more10, r_more12, r_more13, r_more14, r_more15, r_more16, r_more17, r_more18, r_more19, r_more20, r_in, r_no, r_no0, r_no1, bI_t, bI_f, bI0, Bool.not_true, Bool.not_false, ho, ht, oI_n, e25]
    | some k =>
      have hk := htk k rfl
      have hne : (nI k = -1) = False := nI_ne1 (by omega)
      have w3 : ∀ {q c : Nat} {S : Nat → Int32} {j : Nat}, q < 6 → j ≠ 3 → qKeep (u2 X 0 0 0) q c S 0 j = u2 X 0 0 0 0 j := fun {q c S j} hq hj => by
        unfold qKeep
        rw [u2_n2 hj]
        unfold u1
        rw [if_neg (by omega)]
      have w4 : ∀ {S : Nat → Int32} {j : Nat}, j ≠ 3 → qKX p c (u2 X 0 0 0) S 0 j = u2 X 0 0 0 0 j := fun {S j} hj => by
        unfold qKX
        split
        · exact w3 (hp.1 0 (by omega)) hj
        · exact w3 (hp.1 c (by omega)) hj
      have w16 : ∀ {S : Nat → Int32}, qKX p c (u2 X 0 0 0) S 0 16 = nI ch := fun {S} => by rw [w4 (by omega), u2_n2 (by omega), hch]
      have w17 : ∀ {S : Nat → Int32}, qKX p c (u2 X 0 0 0) S 0 17 = nI k := fun {S} => by rw [w4 (by omega), u2_n2 (by omega), ht, oI_s]
      have el := r_leaves2 (M := rP M o (gP o (qKp p c))) (o := o) (H := H) (V := V) (U := V ch) (X := qKX p c (u2 X 0 0 0) (rowS H V)) (u := ch) (k := k) (d + 1) hr (by omega) hk
      rw [u1_id] at el
      simp (maxSteps := 1000000) (disch := first | assumption | omega) only [x_rf, x_m, lt_bv_r, lt_bi_r, lt_bl_r, ↓r_ck, r_get, r_put, r_more, rM_h, rM_f, rM_x, rM_wf, rM_wx, rM_wh, lt_iN, lt_b1_0, lt_b1_1, x_if1, x_eq1, x_10, x_01, x_11, x_00, ↓reduceIte, r_nz, r_ar1L0, r_ar1L1, lt_n0_, lt_n1_, upd_s, upd_o, u2_eq, u2_n1, u2_n2, r_p1, r_p5, r_p6, r_p7, r_p9, r_p10, r_p11, r_p13, r_p19, r_p23, r_p26, r_p27, r_p32, r_p33, r_p34, r_ar1, r_ar9, r_ar10, r_ar11, r_ar12, r_ar13, r_ar14, r_ar15, r_ar16, r_ar17, r_ar18, r_ar19, r_ar74, r_ar75, r_ar76, n2_, n4_, n12_, n24_, n28_, n50_, n54_, n76_, n80_, n102_, n128_, n154_, n180_, n206_, n232_, n258_, n284_, n310_, n336_, n362_, n380_, n680_, r_get0, r_get1, r_get2, r_get3, r_get4, r_get8, r_get9, r_get10, r_get11, r_get12, r_get13, r_put0, r_put1, r_put2, r_put3, r_put4, r_put5, r_put6, r_put7, r_put8, r_put9, r_put10, r_put11, r_more10, r_more12, r_more13, r_more14, r_more15, r_more16, r_more17, r_more18, r_more19, r_more20, r_in, r_no, r_no0, r_no1, bI_t, bI_f, bI0, Bool.not_true, Bool.not_false, ho, ht, oI_s, hne, eb, w16, w17, el]
      rfl
theorem r_undo (d : Nat) (h : RA M o) (hp : PA p) (hc : c ≤ 6) (hX : X 0 3 = nI c) :
    f_X11_undo (d + 2) (rG M o p H V X) o = if 0 < c then some (.inl (some (.int (nI (c - 1)))), rG M o p (qUH X (p (c - 1)) H) (qUV X (p (c - 1)) V) (u2 (u2 (u2 (qX0 X) 0 3 (nI (c - 1))) 0 18 0) 0 4 (X (3 + p (c - 1)) 0))) else some (.inl (some (.int 0)), rG M o p H V (qXe X 1)) := by
  have hr0 := h.rp (g := (gP o p))
  unfold rG
  rw [e_X11_undo]
  by_cases hc0 : 0 < c
  · have hl : (0 : Int32) < nI c := (lt_iL (j := 0) (k := c) (by omega) (by omega)).mpr hc0
    have g4 : nI c - 1 = nI (c - 1) := by
      rw [show nI c = nI (c - 1) + 1 from by rw [show nI (c - 1) + 1 = nI (c - 1 + 1) from lt_iA (j := c - 1) (k := 1)]; congr 1; omega]
      exact Int32.add_sub_cancel ..
    have hpc := hp.1 (c - 1) (by omega)
    have p2 : ∀ {X : Nat → Nat → Int32}, mP (rM (rP M o (gP o p)) o H V X) o 2 = some (o + 2) := fun {X} => r_p2 h
    have aa : ∀ {X : Nat → Nat → Int32} {z : Option (LO × LM)}, lt_aa (rM (rP M o (gP o p)) o H V X) (o + 2) (nI (c - 1)) z = z := fun {X z} => r_aa h (by omega)
    have pp : ∀ {X : Nat → Nat → Int32}, mP (rM (rP M o (gP o p)) o H V X) (o + 2) (c - 1) = some (o + 3 + p (c - 1)) := fun {X} => (rP_p (by omega)).trans (gP_lt (by omega))
    have cp : ∀ {X : Nat → Nat → Int32} {K : LM → Option (LO × LM)}, lt_cp (rM (rP M o (gP o p)) o H V X) (o + 3 + p (c - 1)) (o + 1) 0 0 12896 K = K (rM (rP M o (gP o p)) o (qUH X (p (c - 1)) H) (qUV X (p (c - 1)) V) X) := fun {X K} => r_cpb h hpc
    have x3 : ∀ {a b : Int32}, (u2 (u2 X 0 0 0) 0 3 a) (3 + p (c - 1)) = X (3 + p (c - 1)) := fun {a b} => by rw [u2_n1 (by omega), u2_n1 (by omega)]
    have eH : qUH (u2 (u2 X 0 0 0) 0 3 (nI (c - 1))) (p (c - 1)) H = qUH X (p (c - 1)) H := by unfold qUH; rw [x3 (b := 0)]
    have eV : qUV (u2 (u2 X 0 0 0) 0 3 (nI (c - 1))) (p (c - 1)) V = qUV X (p (c - 1)) V := by unfold qUV; rw [x3 (b := 0)]
    have e0 : qUH X (p (c - 1)) H 0 = X (3 + p (c - 1)) 0 := rfl
    have ec : nI c = (0 : Int32) + nI c := (Int32.zero_add _).symm
    rw [if_pos hc0]
    simp (maxSteps := 1000000) (disch := first | assumption | omega) only [x_rf, x_m, lt_bv_r, lt_bi_r, lt_bl_r, ↓r_ck, r_get, r_put, r_more, rM_h, rM_f, rM_x, rM_wf, rM_wx, rM_wh, lt_iN, lt_b1_0, lt_b1_1, x_if1, x_eq1, x_10, x_01, x_11, x_00, ↓reduceIte, r_nz, r_ar1L0, r_ar1L1, lt_n0_, lt_n1_, upd_s, upd_o, u2_eq, u2_n1, u2_n2, r_p1, r_p5, r_p6, r_p7, r_p9, r_p10, r_p11, r_p13, r_p19, r_p23, r_p26, r_p27, r_p32, r_p33, r_p34, r_ar1, r_ar9, r_ar10, r_ar11, r_ar12, r_ar13, r_ar14, r_ar15, r_ar16, r_ar17, r_ar18, r_ar19, r_ar74, r_ar75, r_ar76, n2_, n4_, n12_, n24_, n28_, n50_, n54_, n76_, n80_, n102_, n128_, n154_, n180_, n206_, n232_, n258_, n284_, n310_, n336_, n362_, n380_, n680_, r_get0, r_get1, r_get2, r_get3, r_get4, r_get8, r_get9, r_get10, r_get11, r_get12, r_get13, r_put0, r_put1, r_put2, r_put3, r_put4, r_put5, r_put6, r_put7, r_put8, r_put9, r_put10, r_put11, r_more10, r_more12, r_more13, r_more14, r_more15, r_more16, r_more17, r_more18, r_more19, r_more20, hX, hl, e_X11_undo_18, r_no1, g4, p2, aa, pp, cp, eH, eV, e0]
    rfl
  · have hl : ¬ (0 : Int32) < nI c := fun e => by have := (lt_iL (j := 0) (k := c) (by omega) (by omega)).mp e; omega
    rw [if_neg hc0]
    simp (maxSteps := 1000000) (disch := first | assumption | omega) only [x_rf, x_m, lt_bv_r, lt_bi_r, lt_bl_r, ↓r_ck, r_get, r_put, r_more, rM_h, rM_f, rM_x, rM_wf, rM_wx, rM_wh, lt_iN, lt_b1_0, lt_b1_1, x_if1, x_eq1, x_10, x_01, x_11, x_00, ↓reduceIte, r_nz, r_ar1L0, r_ar1L1, lt_n0_, lt_n1_, upd_s, upd_o, u2_eq, u2_n1, u2_n2, r_p1, r_p5, r_p6, r_p7, r_p9, r_p10, r_p11, r_p13, r_p19, r_p23, r_p26, r_p27, r_p32, r_p33, r_p34, r_ar1, r_ar9, r_ar10, r_ar11, r_ar12, r_ar13, r_ar14, r_ar15, r_ar16, r_ar17, r_ar18, r_ar19, r_ar74, r_ar75, r_ar76, n2_, n4_, n12_, n24_, n28_, n50_, n54_, n76_, n80_, n102_, n128_, n154_, n180_, n206_, n232_, n258_, n284_, n310_, n336_, n362_, n380_, n680_, r_get0, r_get1, r_get2, r_get3, r_get4, r_get8, r_get9, r_get10, r_get11, r_get12, r_get13, r_put0, r_put1, r_put2, r_put3, r_put4, r_put5, r_put6, r_put7, r_put8, r_put9, r_put10, r_put11, r_more10, r_more12, r_more13, r_more14, r_more15, r_more16, r_more17, r_more18, r_more19, r_more20, hX, hl, e_X11_undo_18, r_no0]
    rfl
end Rv
