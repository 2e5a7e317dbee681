/-! THE REFERENCE: a request done by all units, lapsing -/
section Rp
variable {M : LM} {o i j k u w y f t c : Nat} {H : Nat → Int32} {V V' X : Nat → Nat → Int32} {U U' P m A B : Nat → Int32} {v r st ln w' : Int32} {kf fs : Nat → Nat} {kept : Option Nat}
theorem qFetch_lo (hw : w < 10) (e : qFetch H A B ln kf f i U = some U') : U' w = U w := by
  unfold qFetch at e
  split at e
  · cases e; rfl
  · rename_i b hb
    by_cases hc : kf (b + 1) = kf i ∨ U (24 + kf (b + 1)) = 1 ∨ U 1 < (if U (24 + kf i) = 1 then H (2 + kf i) else 0) + H (2 + kf (b + 1))
    · rw [if_pos hc] at e
      cases e; rfl
    · rw [if_neg hc] at e
      split at e
      · cases e
      · rename_i U1 h1
        cases e
        rw [upd_o (by omega), upd_o (by omega), qCome_lo hw, qRoom_lo hw _ _ _ h1]
theorem qWrite_lo (hw : w < 10) : qWrite H U k w = U w := by
  unfold qWrite
  split
  · split <;> simp (disch := omega) only [upd_o]
  · simp (disch := omega) only [upd_o]
theorem qDone_lo (hw : w < 10) (e : qDone H A B ln kf f i w' U = some U') : U' w = U w := by
  unfold qDone at e
  dsimp only at e
  have h0 : (if H (380 + i) = 1 then qWrite H (upd U (362 + i) w') (kf i) else upd U (362 + i) w') w = U w := by
    split
    · rw [qWrite_lo hw, upd_o (by omega)]
    · exact upd_o (by omega)
  generalize (if H (380 + i) = 1 then qWrite H (upd U (362 + i) w') (kf i) else upd U (362 + i) w') = Y at e h0
  split at e
  · rw [qFetch_lo hw e, h0]
  · cases e
    exact h0
theorem qFeed_lo (hw : w < 10) (e : qFeed H A B ln kf f i U = some U') : U' w = U w := by
  unfold qFeed at e
  split at e
  · rw [qDone_lo hw e, qHit_lo hw]
  · split at e
    · cases e
    · rename_i z U1 h1
      rw [qDone_lo hw e, qMiss_lo hw h1]
/-- one unit of V fed -/
def qFeed1 (H : Nat → Int32) (kf fs : Nat → Nat) (i : Nat) (ln : Int32) (u : Nat) (V : Nat → Nat → Int32) : Option (Nat → Nat → Int32) :=
  match qFeed H (qA kf (fs u) (i + 1)) (qB kf (fs u) (i + 1)) ln kf (fs u) i (V u) with
  | none => none
  | some U' => some (u1 V u U')
/-- a cache and its shadows -/
def qFeedC (H : Nat → Int32) (kf fs : Nat → Nat) (i c : Nat) (V : Nat → Nat → Int32) : Option (Nat → Nat → Int32) :=
  match qFeed1 H kf fs i (qLeans V c) c V with
  | none => none
  | some V1 => if V1 c 0 = 6 then (match qFeed1 H kf fs i 0 (6 + 2 * c) V1 with
    | none => none
    | some V2 => qFeed1 H kf fs i 0 (7 + 2 * c) V2) else some V1
def qFeedV (H : Nat → Int32) (kf fs : Nat → Nat) (i : Nat) : Nat → Int32 → (Nat → Nat → Int32) → Option (Int32 × (Nat → Nat → Int32))
  | 0, bits, V => some (bits, V)
  | n + 1, bits, V => match qFeedC H kf fs i (5 - n) V with
    | none => none
    | some V' => qFeedV H kf fs i n (bits ||| (if V' (5 - n) (362 + i) = 0 then bb (5 - n) else 0)) V'
/-- what all units rest on -/
def RV (H : Nat → Int32) (kf : Nat → Nat) (V X : Nat → Nat → Int32) (fs : Nat → Nat) (t : Nat) : Prop :=
  RH H ∧ RK H kf t ∧ t ≤ 300 ∧ X 0 4 = nI t ∧ ∀ u, u < 18 → fs u ≤ t ∧ V u 9 = nI (fs u) ∧ (∃ r, r < 7 ∧ V u 0 = nI r) ∧ (6 ≤ u → V u 0 ≠ 6)
theorem RV.ru (h : RV H kf V X fs t) (hu : u < 18) (hl : u < 6 → ln = qLeans V u) : RU H kf V X u (fs u) t ln (V u) := by
  obtain ⟨a1, a2, a3, a4, a5⟩ := h
  obtain ⟨b1, b2, b3, b4⟩ := a5 u hu
  refine ⟨a1, a2, a3, b1, a4, b2, b3, fun h6 => ?_, hu⟩
  have : u < 6 := by
    rcases Nat.lt_or_ge u 6 with q | q
    · exact q
    · exact absurd h6 (b4 q)
  exact ⟨this, hl this⟩
theorem RV.xx (h : RV H kf V X fs t) {X' : Nat → Nat → Int32} (hx : XS X X') : RV H kf V X' fs t :=
  ⟨h.1, h.2.1, h.2.2.1, (hx.2 4 (by omega)).trans h.2.2.2.1, h.2.2.2.2⟩
theorem RV.vv (h : RV H kf V X fs t) (hV : ∀ u w, w < 10 → V' u w = V u w) : RV H kf V' X fs t :=
  ⟨h.1, h.2.1, h.2.2.1, h.2.2.2.1, fun u hu => by rw [hV u 9 (by omega), hV u 0 (by omega)]; exact h.2.2.2.2 u hu⟩
theorem qFeed1_lo (e : qFeed1 H kf fs i ln u V = some V') : ∀ u' w, w < 10 → V' u' w = V u' w := by
  intro u' w hw
  unfold qFeed1 at e
  split at e
  · cases e
  · rename_i U' h1
    cases e
    unfold u1
    split
    · rename_i q
      rw [q]
      exact qFeed_lo hw h1
    · rfl
theorem qFeedC_lo (e : qFeedC H kf fs i c V = some V') : ∀ u' w, w < 10 → V' u' w = V u' w := by
  intro u' w hw
  unfold qFeedC at e
  split at e
  · cases e
  · rename_i V1 h1
    split at e
    · split at e
      · cases e
      · rename_i V2 h2
        rw [qFeed1_lo e u' w hw, qFeed1_lo h2 u' w hw, qFeed1_lo h1 u' w hw]
    · cases e
      exact qFeed1_lo h1 u' w hw
theorem r_feed1 (d : Nat) (h : RA M o) (hR : RV H kf V X fs (i + 1)) (hu : u < 18) (hf : fs u ≤ i) (hl : u < 6 → ln = qLeans V u) (e : qFeed1 H kf fs i ln u V = some V') :
    ∃ X', XS X X' ∧ f_X11_feeds (d + 9) (rM M o H V X) o (nI u) (nI i) = some (.inl none, rM M o H V' X') := by
  unfold qFeed1 at e
  split at e
  · cases e
  · rename_i U' h1
    cases e
    have := r_feeds (M := M) (o := o) d h (hR.ru hu hl) (Nat.lt_succ_self i) hf h1
    rw [u1_id] at this
    exact this
theorem r_shadow (d : Nat) : f_X11_shadow (d + 1) M (nI c) 0 = some (.inl (some (.int (nI (6 + 2 * c)))), M) ∧ f_X11_shadow (d + 1) M (nI c) 1 = some (.inl (some (.int (nI (7 + 2 * c)))), M) := by
  have e1 : (6 : Int32) + 2 * nI c + 0 = nI (6 + 2 * c) := by rw [n6_]; exact lt_iA (j := 6 + 2 * c) (k := 0)
  have e2 : (6 : Int32) + 2 * nI c + 1 = nI (7 + 2 * c) := by rw [n6_, show (1 : Int32) = nI 1 from rfl, lt_iA]; congr 1; omega
  exact ⟨by rw [e_X11_shadow, e1], by rw [e_X11_shadow, e2]⟩
theorem r_getV0 (d : Nat) (h : RA M o) (hu : u < 18) : f_X11_get (d + 1) (rM M o H V X) o (nI u) 0 = some (.inl (some (.int (V u 0))), rM M o H V X) := r_getV (w := 0) d h hu (by omega)
theorem r_feedsAll_11 (d : Nat) (h : RA M o) (hfs : ∀ u, u < 18 → fs u ≤ i) : ∀ (n : Nat) (bits : Int32) (V X V' : Nat → Nat → Int32) (b' : Int32), n ≤ 6 → RV H kf V X fs (i + 1) → qFeedV H kf fs i n bits V = some (b', V') →
    ∃ X', XS X X' ∧ f_X11_feedsAll_11 (d + 10) (rM M o H V X) o (nI i) bits (nI (6 - n)) = some (.inl (some (.int b')), rM M o H V' (u2 X' 0 4 (H 0)))
  | 0, bits, V, X, V', b', _, hR, e => by
    cases e
    refine ⟨X, XS.refl, ?_⟩
    rw [e_X11_feedsAll_11, if_neg (by decide)]
    simp (maxSteps := 1000000) (disch := first | assumption | omega) only [x_rf, x_m, lt_bv_r, lt_bi_r, lt_bl_r, ↓r_ck, r_get, r_put, r_more, rM_h, rM_f, rM_x, rM_wf, rM_wx, rM_wh, lt_iN, lt_b1_0, lt_b1_1, x_if1, x_eq1, x_10, x_01, x_11, x_00, ↓reduceIte, r_nz, r_ar1L0, r_ar1L1, lt_n0_, lt_n1_, upd_s, upd_o, u2_eq, u2_n1, u2_n2, r_p1, r_p5, r_p6, r_p7, r_p9, r_p10, r_p11, r_p13, r_p19, r_p23, r_p26, r_p27, r_p32, r_p33, r_p34, r_ar1, r_ar9, r_ar10, r_ar11, r_ar12, r_ar13, r_ar14, r_ar15, r_ar16, r_ar17, r_ar18, r_ar19, r_ar74, r_ar75, r_ar76, n2_, n4_, n12_, n24_, n28_, n50_, n54_, n76_, n80_, n102_, n128_, n154_, n180_, n206_, n232_, n258_, n284_, n310_, n336_, n362_, n380_, n680_, r_get0, r_get1, r_get2, r_get3, r_get4, r_get8, r_get9, r_get10, r_get11, r_get12, r_get13, r_put0, r_put1, r_put2, r_put3, r_put4, r_put5, r_put6, r_put7, r_put8, r_put9, r_put10, r_put11, r_more10, r_more12, r_more13, r_more14, r_more15, r_more16, r_more17, r_more18, r_more19, r_more20]
  | n + 1, bits, V, X, V', b', hn, hR, e => by
    have hc : 5 - n < 18 := by omega
    have hi : i < 300 := by have := hR.2.2.1; omega
    have g1 : nI (6 - (n + 1)) = nI (5 - n) := by congr 1; omega
    have g2 : nI (5 - n) + 1 = nI (6 - n) := by
      rw [show nI (5 - n) + 1 = nI (5 - n + 1) from lt_iA (j := 5 - n) (k := 1)]
      congr 1
      omega
    have g3 : nI (5 - n) < (6 : Int32) := (lt_iL (j := 5 - n) (k := 6) (by omega) (by omega)).mpr (by omega)
    unfold qFeedV at e
    split at e
    · cases e
    · rename_i V3 h3
      have hlo := qFeedC_lo h3
      unfold qFeedC at h3
      split at h3
      · cases h3
      · rename_i V1 h1
        obtain ⟨X1, a1, a2⟩ := r_feed1 (M := M) (o := o) d h hR hc (hfs _ hc) (fun _ => rfl) h1
        have hR1 : RV H kf V1 X1 fs (i + 1) := (hR.xx a1).vv (qFeed1_lo h1)
        have sh := fun d (M : LM) => (r_shadow (M := M) (c := 5 - n) d).1
        have sh' := fun d (M : LM) => (r_shadow (M := M) (c := 5 - n) d).2
        rw [g1, e_X11_feedsAll_11, if_pos g3]
        have gv := r_getV (M := M) (o := o) (H := H) (V := V1) (X := X1) (u := 5 - n) (w := 362 + i) (d + 8) h hc (by omega)
        have gw := r_getV0 (M := M) (o := o) (H := H) (V := V1) (X := X1) (u := 5 - n) (d + 8) h hc
        have hbb : (1 : Int32) <<< (nI (5 - n) &&& 31) = bb (5 - n) := rfl
        by_cases h6 : V1 (5 - n) 0 = 6
        · rw [if_pos h6] at h3
          split at h3
          · cases h3
          · rename_i V2 h2
            obtain ⟨X2, b1, b2⟩ := r_feed1 (M := M) (o := o) d h hR1 (show 6 + 2 * (5 - n) < 18 by omega) (hfs _ (by omega)) (fun q => by omega) h2
            have hR2 : RV H kf V2 X2 fs (i + 1) := (hR1.xx b1).vv (qFeed1_lo h2)
            obtain ⟨X3, c1, c2⟩ := r_feed1 (M := M) (o := o) d h hR2 (show 7 + 2 * (5 - n) < 18 by omega) (hfs _ (by omega)) (fun q => by omega) h3
            have hR3 : RV H kf V3 X3 fs (i + 1) := (hR2.xx c1).vv (qFeed1_lo h3)
            obtain ⟨X4, d1, d2⟩ := r_feedsAll_11 d h hfs n _ V3 X3 V' b' (by omega) hR3 e
            refine ⟨X4, ((a1.trans b1).trans c1).trans d1, ?_⟩
            have e3 : V3 (5 - n) (362 + i) = V1 (5 - n) (362 + i) := by
              unfold qFeed1 at h2 h3
              split at h2
              · cases h2
              · cases h2
                split at h3
                · cases h3
                · cases h3
                  unfold u1
                  rw [if_neg (by omega), if_neg (by omega)]
            rw [e3] at d2
            simp (maxSteps := 1000000) (disch := first | assumption | omega) only [x_rf, x_m, lt_bv_r, lt_bi_r, lt_bl_r, ↓r_ck, r_get, r_put, r_more, rM_h, rM_f, rM_x, rM_wf, rM_wx, rM_wh, lt_iN, lt_b1_0, lt_b1_1, x_if1, x_eq1, x_10, x_01, x_11, x_00, ↓reduceIte, r_nz, r_ar1L0, r_ar1L1, lt_n0_, lt_n1_, upd_s, upd_o, u2_eq, u2_n1, u2_n2, r_p1, r_p5, r_p6, r_p7, r_p9, r_p10, r_p11, r_p13, r_p19, r_p23, r_p26, r_p27, r_p32, r_p33, r_p34, r_ar1, r_ar9, r_ar10, r_ar11, r_ar12, r_ar13, r_ar14, r_ar15, r_ar16, r_ar17, r_ar18, r_ar19, r_ar74, r_ar75, r_ar76, n2_, n4_, n12_, n24_, n28_, n50_, n54_, n76_, n80_, n102_, n128_, n154_, n180_, n206_, n232_, n258_, n284_, n310_, n336_, n362_, n380_, n680_, r_get0, r_get1, r_get2, r_get3, r_get4, r_get8, r_get9, r_get10, r_get11, r_get12, r_get13, r_put0, r_put1, r_put2, r_put3, r_put4, r_put5, r_put6, r_put7, r_put8, r_put9, r_put10, r_put11, r_more10, r_more12, r_more13, r_more14, r_more15, r_more16, r_more17, r_more18, r_more19, r_more20, a2, gv, gw, h6, sh, sh', b2, c2, g2, hbb]
            by_cases hz : V1 (5 - n) (362 + i) = 0
            · rw [if_pos hz] at d2
              rw [if_pos hz]
              exact d2
            · rw [if_neg hz] at d2
              rw [if_neg hz]
              exact d2
        · rw [if_neg h6] at h3
          have e13 : V1 = V3 := Option.some.inj h3
          subst e13
          obtain ⟨X4, d1, d2⟩ := r_feedsAll_11 d h hfs n _ V1 X1 V' b' (by omega) hR1 e
          refine ⟨X4, a1.trans d1, ?_⟩
          simp (maxSteps := 1000000) (disch := first | assumption | omega) only [x_rf, x_m, lt_bv_r, lt_bi_r, lt_bl_r, ↓r_ck, r_get, r_put, r_more, rM_h, rM_f, rM_x, rM_wf, rM_wx, rM_wh, lt_iN, lt_b1_0, lt_b1_1, x_if1, x_eq1, x_10, x_01, x_11, x_00, ↓reduceIte, r_nz, r_ar1L0, r_ar1L1, lt_n0_, lt_n1_, upd_s, upd_o, u2_eq, u2_n1, u2_n2, r_p1, r_p5, r_p6, r_p7, r_p9, r_p10, r_p11, r_p13, r_p19, r_p23, r_p26, r_p27, r_p32, r_p33, r_p34, r_ar1, r_ar9, r_ar10, r_ar11, r_ar12, r_ar13, r_ar14, r_ar15, r_ar16, r_ar17, r_ar18, r_ar19, r_ar74, r_ar75, r_ar76, n2_, n4_, n12_, n24_, n28_, n50_, n54_, n76_, n80_, n102_, n128_, n154_, n180_, n206_, n232_, n258_, n284_, n310_, n336_, n362_, n380_, n680_, r_get0, r_get1, r_get2, r_get3, r_get4, r_get8, r_get9, r_get10, r_get11, r_get12, r_get13, r_put0, r_put1, r_put2, r_put3, r_put4, r_put5, r_put6, r_put7, r_put8, r_put9, r_put10, r_put11, r_more10, r_more12, r_more13, r_more14, r_more15, r_more16, r_more17, r_more18, r_more19, r_more20, a2, gv, gw, h6, g2, hbb]
          by_cases hz : V1 (5 - n) (362 + i) = 0
          · rw [if_pos hz] at d2
            rw [if_pos hz]
            exact d2
          · rw [if_neg hz] at d2
            rw [if_neg hz]
            exact d2
/-- what changes of the other cells where units are fed: scratch, and how far the row is told -/
def XT (X X' : Nat → Nat → Int32) : Prop := (∀ t, t ≠ 0 → (t < 9 ∨ 13 < t) → X' t = X t) ∧ ∀ j, j ≠ 8 → j ≠ 4 → X' 0 j = X 0 j
theorem XT.of {X' : Nat → Nat → Int32} (h : XS X X') : XT X X' := ⟨h.1, fun j a _ => h.2 j a⟩
theorem XT.trans {X' X'' : Nat → Nat → Int32} (h1 : XT X X') (h2 : XT X' X'') : XT X X'' := ⟨fun t a b => (h2.1 t a b).trans (h1.1 t a b), fun j a b => (h2.2 j a b).trans (h1.2 j a b)⟩
theorem XT.w4 : XT X (u2 X 0 4 v) := by
  refine ⟨fun t' a b => funext fun i => if_neg (by omega), fun i a b => if_neg (by omega)⟩
theorem XT.refl : XT X X := ⟨fun _ _ _ => rfl, fun _ _ _ => rfl⟩
theorem r_feedsAll (d : Nat) (h : RA M o) (hH : RH H) (hK : RK H kf (i + 1)) (hi : i < 300) (hV : ∀ u, u < 18 → fs u ≤ i ∧ V u 9 = nI (fs u) ∧ (∃ r, r < 7 ∧ V u 0 = nI r) ∧ (6 ≤ u → V u 0 ≠ 6)) {b' : Int32} (e : qFeedV H kf fs i 6 0 V = some (b', V')) :
    ∃ X', XT X X' ∧ X' 0 4 = H 0 ∧ f_X11_feedsAll (d + 10) (rM M o H V X) o (nI i) = some (.inl (some (.int b')), rM M o H V' X') := by
  have hs : nI i + 1 = nI (i + 1) := lt_iA (j := i) (k := 1)
  obtain ⟨X', a1, a2⟩ := r_feedsAll_11 (M := M) (o := o) d h (fun u hu => (hV u hu).1) 6 0 V (u2 X 0 4 (nI (i + 1))) V' b' (Nat.le_refl _) ⟨hH, hK, by omega, u2_eq, fun u hu => ⟨Nat.le_succ_of_le (hV u hu).1, (hV u hu).2⟩⟩ e
  refine ⟨u2 X' 0 4 (H 0), (XT.w4.trans (XT.of a1)).trans XT.w4, u2_eq, ?_⟩
  rw [e_X11_feedsAll]
  simp (maxSteps := 1000000) (disch := first | assumption | omega) only [x_rf, x_m, lt_bv_r, lt_bi_r, lt_bl_r, ↓r_ck, r_get, r_put, r_more, rM_h, rM_f, rM_x, rM_wf, rM_wx, rM_wh, lt_iN, lt_b1_0, lt_b1_1, x_if1, x_eq1, x_10, x_01, x_11, x_00, ↓reduceIte, r_nz, r_ar1L0, r_ar1L1, lt_n0_, lt_n1_, upd_s, upd_o, u2_eq, u2_n1, u2_n2, r_p1, r_p5, r_p6, r_p7, r_p9, r_p10, r_p11, r_p13, r_p19, r_p23, r_p26, r_p27, r_p32, r_p33, r_p34, r_ar1, r_ar9, r_ar10, r_ar11, r_ar12, r_ar13, r_ar14, r_ar15, r_ar16, r_ar17, r_ar18, r_ar19, r_ar74, r_ar75, r_ar76, n2_, n4_, n12_, n24_, n28_, n50_, n54_, n76_, n80_, n102_, n128_, n154_, n180_, n206_, n232_, n258_, n284_, n310_, n336_, n362_, n380_, n680_, r_get0, r_get1, r_get2, r_get3, r_get4, r_get8, r_get9, r_get10, r_get11, r_get12, r_get13, r_put0, r_put1, r_put2, r_put3, r_put4, r_put5, r_put6, r_put7, r_put8, r_put9, r_put10, r_put11, r_more10, r_more12, r_more13, r_more14, r_more15, r_more16, r_more17, r_more18, r_more19, r_more20, hs]
  exact a2
/-- a request comes -/
def qAsk (H : Nat → Int32) (n x : Nat) (w : Int32) : Nat → Int32 := upd (upd (upd (upd H (80 + n) (nI x)) (380 + n) w) (680 + n) (H 1)) 0 (nI (n + 1))
theorem r_asks (d : Nat) (h : RA M o) {n x : Nat} {w : Int32} (hn : n < 300) (hH0 : H 0 = nI n) (hx : x < 26) (hH : RH H) (hK : RK H kf n) (hV : ∀ u, u < 18 → fs u ≤ n ∧ V u 9 = nI (fs u) ∧ (∃ r, r < 7 ∧ V u 0 = nI r) ∧ (6 ≤ u → V u 0 ≠ 6)) {b' : Int32} (e : qFeedV (qAsk H n x (if w = 0 then 0 else 1)) (fun i => if i = n then x else kf i) fs n 6 0 V = some (b', V')) :
    ∃ X', XT X X' ∧ X' 0 4 = nI (n + 1) ∧ f_X11_asks (d + 11) (rM M o H V X) o (nI x) w = some (.inl (some (.int b')), rM M o (qAsk H n x (if w = 0 then 0 else 1)) V' X') := by
  have hH' : RH (qAsk H n x (if w = 0 then 0 else 1)) := fun k hk => by
    have := hH k hk
    unfold qAsk
    simp (disch := omega) only [upd_o]
    exact this
  have hK' : RK (qAsk H n x (if w = 0 then 0 else 1)) (fun i => if i = n then x else kf i) (n + 1) := fun j hj => by
    unfold qAsk
    by_cases q : j = n
    · subst q
      dsimp only
      rw [if_pos rfl]
      simp (disch := omega) only [upd_o, upd_s]
      exact ⟨hx, trivial⟩
    · dsimp only
      rw [if_neg q]
      simp (disch := omega) only [upd_o]
      exact hK j (by omega)
  obtain ⟨X', a1, a2, a3⟩ := r_feedsAll (M := M) (o := o) (X := X) d h hH' hK' hn hV e
  refine ⟨X', a1, a2.trans (by unfold qAsk; exact upd_s), ?_⟩
  have hs : nI n + 1 = nI (n + 1) := lt_iA (j := n) (k := 1)
  unfold qAsk at a3
  rw [e_X11_asks]
  by_cases hw : w = 0
  · rw [if_pos hw] at a3
    unfold qAsk
    rw [if_pos hw]
    simp (maxSteps := 1000000) (disch := first | assumption | omega) only [x_rf, x_m, lt_bv_r, lt_bi_r, lt_bl_r, ↓r_ck, r_get, r_put, r_more, rM_h, rM_f, rM_x, rM_wf, rM_wx, rM_wh, lt_iN, lt_b1_0, lt_b1_1, x_if1, x_eq1, x_10, x_01, x_11, x_00, ↓reduceIte, r_nz, r_ar1L0, r_ar1L1, lt_n0_, lt_n1_, upd_s, upd_o, u2_eq, u2_n1, u2_n2, r_p1, r_p5, r_p6, r_p7, r_p9, r_p10, r_p11, r_p13, r_p19, r_p23, r_p26, r_p27, r_p32, r_p33, r_p34, r_ar1, r_ar9, r_ar10, r_ar11, r_ar12, r_ar13, r_ar14, r_ar15, r_ar16, r_ar17, r_ar18, r_ar19, r_ar74, r_ar75, r_ar76, n2_, n4_, n12_, n24_, n28_, n50_, n54_, n76_, n80_, n102_, n128_, n154_, n180_, n206_, n232_, n258_, n284_, n310_, n336_, n362_, n380_, n680_, r_get0, r_get1, r_get2, r_get3, r_get4, r_get8, r_get9, r_get10, r_get11, r_get12, r_get13, r_put0, r_put1, r_put2, r_put3, r_put4, r_put5, r_put6, r_put7, r_put8, r_put9, r_put10, r_put11, r_more10, r_more12, r_more13, r_more14, r_more15, r_more16, r_more17, r_more18, r_more19, r_more20, hH0, hw, hs, a3]
  · rw [if_neg hw] at a3
    unfold qAsk
    rw [if_neg hw]
    simp (maxSteps := 1000000) (disch := first | assumption | omega) only [x_rf, x_m, lt_bv_r, lt_bi_r, lt_bl_r, ↓r_ck, r_get, r_put, r_more, rM_h, rM_f, rM_x, rM_wf, rM_wx, rM_wh, lt_iN, lt_b1_0, lt_b1_1, x_if1, x_eq1, x_10, x_01, x_11, x_00, ↓reduceIte, r_nz, r_ar1L0, r_ar1L1, lt_n0_, lt_n1_, upd_s, upd_o, u2_eq, u2_n1, u2_n2, r_p1, r_p5, r_p6, r_p7, r_p9, r_p10, r_p11, r_p13, r_p19, r_p23, r_p26, r_p27, r_p32, r_p33, r_p34, r_ar1, r_ar9, r_ar10, r_ar11, r_ar12, r_ar13, r_ar14, r_ar15, r_ar16, r_ar17, r_ar18, r_ar19, r_ar74, r_ar75, r_ar76, n2_, n4_, n12_, n24_, n28_, n50_, n54_, n76_, n80_, n102_, n128_, n154_, n180_, n206_, n232_, n258_, n284_, n310_, n336_, n362_, n380_, n680_, r_get0, r_get1, r_get2, r_get3, r_get4, r_get8, r_get9, r_get10, r_get11, r_get12, r_get13, r_put0, r_put1, r_put2, r_put3, r_put4, r_put5, r_put6, r_put7, r_put8, r_put9, r_put10, r_put11, r_more10, r_more12, r_more13, r_more14, r_more15, r_more16, r_more17, r_more18, r_more19, r_more20, hH0, hw, hs, a3]
/-- keys that lapse -/
def qLapse1 (H U : Nat → Int32) (k : Nat) : Bool := decide (U (24 + k) = 1) && !decide (H 1 - U (128 + k) < U 2)
def qLapse (H : Nat → Int32) : Nat → (Nat → Int32) → Int32 → (Nat → Int32) × Int32
  | 0, U, z => (U, z)
  | n + 1, U, z => if qLapse1 H U (25 - n) = true then qLapse H n (qLeaves (upd U 15 (U 15 + 1)) (25 - n)) (z + 1) else qLapse H n U z
def qLapseC (H U : Nat → Int32) (z : Int32) : (Nat → Int32) × Int32 := if 0 < U 2 then qLapse H 26 U z else (U, z)
def qLapses (H : Nat → Int32) : Nat → (Nat → Nat → Int32) → Int32 → (Nat → Nat → Int32) × Int32
  | 0, V, z => (V, z)
  | n + 1, V, z => qLapses H n (u1 V (5 - n) (qLapseC H (V (5 - n)) z).1) (qLapseC H (V (5 - n)) z).2
theorem r_lapses_20 (d : Nat) (h : RA M o) (hu : u < 18) (hl : 0 < r) : ∀ (n : Nat) (U : Nat → Int32) (z : Int32), n ≤ 26 → U 2 = r →
    f_X11_lapses_20 (d + 3) (rM M o H (u1 V u U) X) o z (nI u) r (nI (26 - n)) = f_X11_lapses_4 (d + 3) (rM M o H (u1 V u (qLapse H n U z).1) X) o (qLapse H n U z).2 (nI u + 1)
  | 0, U, z, _, _ => by
    rw [e_X11_lapses_20, if_neg lt_end]
    rfl
  | n + 1, U, z, hn, hr => by
    obtain ⟨g1, g2, -⟩ := lt_suc hn
    have hk : 25 - n < 26 := by omega
    have ihb := r_lapses_20 d h hu hl n U z (by omega) hr
    have ihk := r_lapses_20 d h hu hl n (qLeaves (upd U 15 (U 15 + 1)) (25 - n)) (z + 1) (by omega) (by rw [qLeaves_lo (by omega), upd_o (by omega), hr])
    rw [g1, e_X11_lapses_20, if_pos (lt_suc2 hn), if_pos hl]
    have hs : qLapse H (n + 1) U z = if qLapse1 H U (25 - n) = true then qLapse H n (qLeaves (upd U 15 (U 15 + 1)) (25 - n)) (z + 1) else qLapse H n U z := rfl
    rw [hs]
    simp (maxSteps := 1000000) (disch := first | assumption | omega) only [x_rf, x_m, lt_bv_r, lt_bi_r, lt_bl_r, ↓r_ck, r_get, r_put, r_more, rM_h, rM_f, rM_x, rM_wf, rM_wx, rM_wh, lt_iN, lt_b1_0, lt_b1_1, x_if1, x_eq1, x_10, x_01, x_11, x_00, ↓reduceIte, r_nz, r_ar1L0, r_ar1L1, lt_n0_, lt_n1_, upd_s, upd_o, u2_eq, u2_n1, u2_n2, r_p1, r_p5, r_p6, r_p7, r_p9, r_p10, r_p11, r_p13, r_p19, r_p23, r_p26, r_p27, r_p32, r_p33, r_p34, r_ar1, r_ar9, r_ar10, r_ar11, r_ar12, r_ar13, r_ar14, r_ar15, r_ar16, r_ar17, r_ar18, r_ar19, r_ar74, r_ar75, r_ar76, n2_, n4_, n12_, n24_, n28_, n50_, n54_, n76_, n80_, n102_, n128_, n154_, n180_, n206_, n232_, n258_, n284_, n310_, n336_, n362_, n380_, n680_, r_get0, r_get1, r_get2, r_get3, r_get4, r_get8, r_get9, r_get10, r_get11, r_get12, r_get13, r_put0, r_put1, r_put2, r_put3, r_put4, r_put5, r_put6, r_put7, r_put8, r_put9, r_put10, r_put11, r_more10, r_more12, r_more13, r_more14, r_more15, r_more16, r_more17, r_more18, r_more19, r_more20, r_holds2, g2, r_leaves2]
    unfold qLapse1
    rw [hr]
    by_cases a : U (24 + (25 - n)) = 1
    · by_cases b : H 1 - U (128 + (25 - n)) < r
      · simp only [a, b, if_true, decide_true, Bool.not_true, Bool.and_false, Bool.false_eq_true, if_false]
        exact ihb
      · simp only [a, b, if_true, decide_true, decide_false, Bool.not_false, Bool.and_true, if_false]
        exact ihk
    · simp only [a, if_false, decide_false, Bool.false_and, Bool.false_eq_true]
      exact ihb
theorem r_lapses_4 (d : Nat) (h : RA M o) : ∀ (n : Nat) (V : Nat → Nat → Int32) (z : Int32), n ≤ 6 →
    f_X11_lapses_4 (d + 3) (rM M o H V X) o z (nI (6 - n)) = some (.inl (some (.int (qLapses H n V z).2)), rM M o H (qLapses H n V z).1 X)
  | 0, V, z, _ => by
    rw [e_X11_lapses_4, if_neg (by decide)]
    rfl
  | n + 1, V, z, hn => by
    have hc : 5 - n < 18 := by omega
    have g1 : nI (6 - (n + 1)) = nI (5 - n) := by congr 1; omega
    have g2 : nI (5 - n) + 1 = nI (6 - n) := by
      rw [show nI (5 - n) + 1 = nI (5 - n + 1) from lt_iA (j := 5 - n) (k := 1)]
      congr 1
      omega
    have g3 : nI (5 - n) < (6 : Int32) := (lt_iL (j := 5 - n) (k := 6) (by omega) (by omega)).mpr (by omega)
    have gw : f_X11_get (d + 2) (rM M o H V X) o (nI (5 - n)) 2 = _ := r_getV (M := M) (o := o) (H := H) (V := V) (X := X) (u := 5 - n) (w := 2) (d + 1) h hc (by omega)
    have ih := r_lapses_4 d h n (u1 V (5 - n) (qLapseC H (V (5 - n)) z).1) (qLapseC H (V (5 - n)) z).2 (by omega)
    have hs : qLapses H (n + 1) V z = qLapses H n (u1 V (5 - n) (qLapseC H (V (5 - n)) z).1) (qLapseC H (V (5 - n)) z).2 := rfl
    rw [hs, ← ih, g1, e_X11_lapses_4, if_pos g3]
    simp (maxSteps := 1000000) (disch := first | assumption | omega) only [x_rf, x_m, lt_bv_r, lt_bi_r, lt_bl_r, ↓r_ck, r_get, r_put, r_more, rM_h, rM_f, rM_x, rM_wf, rM_wx, rM_wh, lt_iN, lt_b1_0, lt_b1_1, x_if1, x_eq1, x_10, x_01, x_11, x_00, ↓reduceIte, r_nz, r_ar1L0, r_ar1L1, lt_n0_, lt_n1_, upd_s, upd_o, u2_eq, u2_n1, u2_n2, r_p1, r_p5, r_p6, r_p7, r_p9, r_p10, r_p11, r_p13, r_p19, r_p23, r_p26, r_p27, r_p32, r_p33, r_p34, r_ar1, r_ar9, r_ar10, r_ar11, r_ar12, r_ar13, r_ar14, r_ar15, r_ar16, r_ar17, r_ar18, r_ar19, r_ar74, r_ar75, r_ar76, n2_, n4_, n12_, n24_, n28_, n50_, n54_, n76_, n80_, n102_, n128_, n154_, n180_, n206_, n232_, n258_, n284_, n310_, n336_, n362_, n380_, n680_, r_get0, r_get1, r_get2, r_get3, r_get4, r_get8, r_get9, r_get10, r_get11, r_get12, r_get13, r_put0, r_put1, r_put2, r_put3, r_put4, r_put5, r_put6, r_put7, r_put8, r_put9, r_put10, r_put11, r_more10, r_more12, r_more13, r_more14, r_more15, r_more16, r_more17, r_more18, r_more19, r_more20, gw]
    unfold qLapseC
    by_cases a : 0 < V (5 - n) 2
    · rw [if_pos a]
      have := r_lapses_20 (M := M) (o := o) (H := H) (V := V) (X := X) d h hc a 26 (V (5 - n)) z (Nat.le_refl _) rfl
      rw [u1_id] at this
      rw [show (0 : Int32) = nI (26 - 26) from rfl, this, g2]
    · rw [if_neg a, u1_id, e_X11_lapses_20, if_pos (by decide), if_neg a, g2]
theorem r_lapses (d : Nat) (h : RA M o) : f_X11_lapses (d + 3) (rM M o H V X) o = some (.inl (some (.int (qLapses H 6 V 0).2)), rM M o H (qLapses H 6 V 0).1 X) := by
  rw [e_X11_lapses]
  exact r_lapses_4 d h 6 V 0 (Nat.le_refl _)
end Rp
