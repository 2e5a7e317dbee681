/-! THE REFERENCE: what the text tells is done -/
def iterO {α : Type} (F : α → Option α) : Nat → α → Option α
  | 0, a => some a
  | n + 1, a => match F a with
    | none => none
    | some b => iterO F n b
abbrev QS : Type := (Nat → Int32) × (Nat → Nat) × Nat × (Nat → Nat → Int32)
def qAskS (fs : Nat → Nat) (s : QS) (k : Nat) (w : Int32) : Option QS :=
  if s.2.2.1 < 300 then (match qFeedV (qAsk s.1 s.2.2.1 k (qW w)) (kfA s.2.1 s.2.2.1 k) fs s.2.2.1 6 0 s.2.2.2 with
    | none => none
    | some (_, V') => some (qAsk s.1 s.2.2.1 k (qW w), kfA s.2.1 s.2.2.1 k, s.2.2.1 + 1, V')) else none
/-- the pieces from a place on done; lvl: how deep it may yet go -/
def qDoes (T : Nat → Int32) (len : Nat) (fs : Nat → Nat) : Nat → Nat → Nat × QS → Option (Nat × QS)
  | 0, _, _ => none
  | f + 1, lvl, s =>
    let a1 := qSkip T len (len - s.1)
    if a1 = len ∨ T a1 = 41 then some (a1, s.2) else
    if qDgt (T a1) = true then
      (let r := qNum T len a1 (-1)
       if r.2.2 = -1 then
        (let a2 := qSkip T len (len - r.2.1)
         match lvl with
         | 0 => none
         | l + 1 => match iterO (fun b => qDoes T len fs f l (if qIs T len a2 40 = true then a2 + 1 else a2, b.2)) (lt_n r.1) (a2, s.2) with
           | none => none
           | some b => if b.1 < len then qDoes T len fs f (l + 1) (b.1 + 1, b.2) else none)
       else none)
    else if T a1 < 97 ∨ 122 < T a1 then none else
      (let a2 := qSkip T len (len - (a1 + 1))
       match qAskS fs s.2 (lt_n (T a1 - 97)) (bI (qIs T len a2 33)) with
       | none => none
       | some s' => qDoes T len fs f lvl (if qIs T len a2 33 = true then a2 + 1 else a2, s'))
/-- what this changes of the other cells -/
def XE (X X' : Nat → Nat → Int32) : Prop := (∀ t, t ≠ 0 → (t < 9 ∨ 13 < t) → X' t = X t) ∧ ∀ j, j ≠ 8 → j ≠ 4 → j ≠ 21 → X' 0 j = X 0 j
section Se
variable {M M' : LM} {o i j k u w y f t n x m a len : Nat} {H : Nat → Int32} {V V' X X' : Nat → Nat → Int32} {T : Nat → Int32} {v b c e r a' e' many : Int32} {z : Option (LO × LM)} {kf fs : Nat → Nat} {p : Nat → Nat}
theorem XE.of (h : XT X X') : XE X X' := ⟨h.1, fun j a b _ => h.2 j a b⟩
theorem XE.trans {X'' : Nat → Nat → Int32} (h1 : XE X X') (h2 : XE X' X'') : XE X X'' := ⟨fun t a b => (h2.1 t a b).trans (h1.1 t a b), fun j a b c => (h2.2 j a b c).trans (h1.2 j a b c)⟩
theorem XE.refl : XE X X := ⟨fun _ _ _ => rfl, fun _ _ _ _ => rfl⟩
theorem XE.w1 : XE X (u2 X 0 21 v) := ⟨fun t' a b => funext fun i => if_neg (by omega), fun i a b c => if_neg (by omega)⟩
theorem pX_id (h1 : X 0 21 = b) (h2 : X 0 22 = e) : pX X b e = X := funext fun x => funext fun i => by
  unfold pX u2
  by_cases q : x = 0 ∧ i = 22
  · rw [if_pos q, q.1, q.2, h2]
  · rw [if_neg q]
    by_cases q2 : x = 0 ∧ i = 21
    · rw [if_pos q2, q2.1, q2.2, h1]
    · rw [if_neg q2]
theorem pX_21 (h2 : X 0 22 = e) : pX X b e = u2 X 0 21 b := funext fun x => funext fun i => by
  unfold pX
  by_cases q : x = 0 ∧ i = 22
  · rw [q.1, q.2, u2_eq, u2_n2 (by omega), h2]
  · exact if_neg q
theorem sub97 (h1 : ¬ v < 97) (h2 : ¬ (122 : Int32) < v) : ∃ k, k < 26 ∧ v - 97 = nI k := by
  rw [Int32.lt_iff_toInt_lt] at h1 h2
  have z1 : (97 : Int32).toInt = 97 := by decide
  have z2 : (122 : Int32).toInt = 122 := by decide
  refine ⟨(v.toInt - 97).toNat, by omega, ?_⟩
  rw [← Int32.toInt_inj, lt_iT (by omega), Int32.toInt_sub, z1]
  have : (v.toInt - 97).bmod (2 ^ 32) = v.toInt - 97 := Int.bmod_eq_of_le (by omega) (by omega)
  rw [this]
  omega
theorem r_askS (d : Nat) (h : RA M o) {s s' : QS} (hS : RS s.1 s.2.1 s.2.2.1 s.2.2.2 fs) (hx : x < 26) {w : Int32} (q : qAskS fs s x w = some s') :
    ∃ X', XT X X' ∧ X' 0 4 = nI s'.2.2.1 ∧ RS s'.1 s'.2.1 s'.2.2.1 s'.2.2.2 fs ∧ ∃ b, f_X11_asks (d + 11) (rM M o s.1 s.2.2.2 X) o (nI x) w = some (.inl (some (.int b)), rM M o s'.1 s'.2.2.2 X') := by
  unfold qAskS at q
  by_cases hn : s.2.2.1 < 300
  · rw [if_pos hn] at q
    split at q
    · cases q
    · rename_i b V' h1
      obtain ⟨X', a1, a2, a3⟩ := r_ask2 (M := M) (o := o) (X := X) d h hS hn hx h1
      cases q
      exact ⟨X', a1, a2, hS.ask hn hx h1, b, a3⟩
  · rw [if_neg hn] at q
    cases q
theorem r_does (h : RA M o) (hl : len ≤ 200) : ∀ (f lvl d : Nat) (X : Nat → Nat → Int32) (a : Nat) (s : QS) (a' : Nat) (s' : QS), a ≤ len → X 16 = T → X 0 20 = nI len → X 0 21 = nI a → X 0 22 = -1 → X 0 4 = nI s.2.2.1 → RS s.1 s.2.1 s.2.2.1 s.2.2.2 fs → qDoes T len fs f lvl (a, s) = some (a', s') →
    ∃ X', XE X X' ∧ X' 0 21 = nI a' ∧ X' 0 4 = nI s'.2.2.1 ∧ a' ≤ len ∧ RS s'.1 s'.2.1 s'.2.2.1 s'.2.2.2 fs ∧ f_X11_does_0 (d + lvl + 12) (rM M o s.1 s.2.2.2 X) o = some (.inl none, rM M o s'.1 s'.2.2.2 X')
  | 0, _, _, _, _, _, _, _, _, _, _, _, _, _, _ => fun q => by cases q
  | f + 1, lvl, d, X, a, s, a', s', ha, hT, h20, h21, h22, h4, hS => fun q => by
    have ih := r_does h hl f
    have hX : pX X (nI a) (-1) = X := pX_id h21 h22
    have hsl := qSkip_le (T := X 16) (len := len) (len - a)
    have e1 := r_isNext (M := M) (o := o) (H := s.1) (V := s.2.2.2) (X := X) (a := a) (e := -1) (c := 41) (d + lvl + 10) h hl h20 ha
    rw [hX] at e1
    have gg : ∀ b, pX X b (-1) = u2 X 0 21 b := fun b => pX_21 h22
    unfold qDoes at q
    dsimp only at q
    rw [← hT] at q
    rw [e_X11_does_0]
    generalize hA : qSkip (X 16) len (len - a) = a1 at q e1 hsl
    have hq41 : qIs (X 16) len a1 41 = (decide (a1 < len) && decide (X 16 a1 = 41)) := rfl
    have b4 : ∀ b, pX X b (-1) 0 4 = X 0 4 := fun b => by rw [gg]; exact u2_n2 (by omega)
    by_cases c1 : a1 = len
    · rw [if_pos (Or.inl c1)] at q
      obtain ⟨qa, qs⟩ := Prod.mk.inj (Option.some.inj q)
      subst qs
      subst qa
      refine ⟨pX X (nI a1) (-1), by rw [gg]; exact XE.w1, p21, (b4 _).trans h4, hsl, hS, ?_⟩
      simp (maxSteps := 1000000) (disch := first | assumption | omega) only [x_rf, x_m, lt_bv_r, lt_bi_r, lt_bl_r, ↓r_ck, r_get, r_put, r_more, rM_h, rM_f, rM_x, rM_wf, rM_wx, rM_wh, lt_iN, lt_b1_0, lt_b1_1, x_if1, x_eq1, x_10, x_01, x_11, x_00, ↓reduceIte, r_nz, r_ar1L0, r_ar1L1, lt_n0_, lt_n1_, upd_s, upd_o, u2_eq, u2_n1, u2_n2, r_p1, r_p5, r_p6, r_p7, r_p9, r_p10, r_p11, r_p13, r_p19, r_p23, r_p26, r_p27, r_p32, r_p33, r_p34, r_ar1, r_ar9, r_ar10, r_ar11, r_ar12, r_ar13, r_ar14, r_ar15, r_ar16, r_ar17, r_ar18, r_ar19, r_ar74, r_ar75, r_ar76, n2_, n4_, n12_, n24_, n28_, n50_, n54_, n76_, n80_, n102_, n128_, n154_, n180_, n206_, n232_, n258_, n284_, n310_, n336_, n362_, n380_, n680_, r_get0, r_get1, r_get2, r_get3, r_get4, r_get8, r_get9, r_get10, r_get11, r_get12, r_get13, r_put0, r_put1, r_put2, r_put3, r_put4, r_put5, r_put6, r_put7, r_put8, r_put9, r_put10, r_put11, r_more10, r_more12, r_more13, r_more14, r_more15, r_more16, r_more17, r_more18, r_more19, r_more20, e1, p21, p20, h20]
      rw [c1]
      simp
    · have c1' : (nI a1 = nI len) = False := eq_false (fun q => c1 ((lt_iE (by omega) (by omega)).mp q))
      have hlt : a1 < len := by omega
      by_cases c2 : X 16 a1 = 41
      · rw [if_pos (Or.inr c2)] at q
        have hq41' : qIs (X 16) len a1 41 = true := by rw [hq41, decide_eq_true hlt, decide_eq_true c2]; rfl
        obtain ⟨qa, qs⟩ := Prod.mk.inj (Option.some.inj q)
        subst qs
        subst qa
        refine ⟨pX X (nI a1) (-1), by rw [gg]; exact XE.w1, p21, (b4 _).trans h4, hsl, hS, ?_⟩
        simp (maxSteps := 1000000) (disch := first | assumption | omega) only [x_rf, x_m, lt_bv_r, lt_bi_r, lt_bl_r, ↓r_ck, r_get, r_put, r_more, rM_h, rM_f, rM_x, rM_wf, rM_wx, rM_wh, lt_iN, lt_b1_0, lt_b1_1, x_if1, x_eq1, x_10, x_01, x_11, x_00, ↓reduceIte, r_nz, r_ar1L0, r_ar1L1, lt_n0_, lt_n1_, upd_s, upd_o, u2_eq, u2_n1, u2_n2, r_p1, r_p5, r_p6, r_p7, r_p9, r_p10, r_p11, r_p13, r_p19, r_p23, r_p26, r_p27, r_p32, r_p33, r_p34, r_ar1, r_ar9, r_ar10, r_ar11, r_ar12, r_ar13, r_ar14, r_ar15, r_ar16, r_ar17, r_ar18, r_ar19, r_ar74, r_ar75, r_ar76, n2_, n4_, n12_, n24_, n28_, n50_, n54_, n76_, n80_, n102_, n128_, n154_, n180_, n206_, n232_, n258_, n284_, n310_, n336_, n362_, n380_, n680_, r_get0, r_get1, r_get2, r_get3, r_get4, r_get8, r_get9, r_get10, r_get11, r_get12, r_get13, r_put0, r_put1, r_put2, r_put3, r_put4, r_put5, r_put6, r_put7, r_put8, r_put9, r_put10, r_put11, r_more10, r_more12, r_more13, r_more14, r_more15, r_more16, r_more17, r_more18, r_more19, r_more20, e1, p21, p20, h20, c1', hq41', bI_t]
      · rw [if_neg (fun q => q.elim c1 c2)] at q
        have hq41' : qIs (X 16) len a1 41 = false := by rw [hq41, decide_eq_false c2, Bool.and_false]
        by_cases hd : qDgt (X 16 a1) = true
        · rw [if_pos hd] at q
          have et := r_times (M := M) (o := o) (H := s.1) (V := s.2.2.2) (X := X) (a := a1) (e := -1) (d + lvl + 9) h hl h20 hsl
          have hnl := qNum_le (T := X 16) (len := len) (a := a1) (e := -1) hsl
          generalize hrr : qNum (X 16) len a1 (-1) = r at q et hnl
          by_cases hr : r.2.2 = -1
          · rw [if_pos hr] at q
            rw [hr] at et
            have hsl2 := qSkip_le (T := X 16) (len := len) (len - r.2.1)
            have e2 := r_isNext (M := M) (o := o) (H := s.1) (V := s.2.2.2) (X := X) (a := r.2.1) (e := -1) (c := 40) (d + lvl + 10) h hl h20 hnl
            generalize qSkip (X 16) len (len - r.2.1) = a2 at q e2 hsl2
            have hv : lt_n r.1 ≤ 50 ∧ r.1 = nI (lt_n r.1) := by
              rw [← hrr]
              unfold qNum
              dsimp only
              split
              · show lt_n 0 ≤ 50 ∧ (0 : Int32) = nI (lt_n 0)
                exact ⟨by decide, rfl⟩
              · split
                · rename_i hin
                  generalize (qDigs (X 16) len (len - a1) 0).2 = v at hin
                  unfold qIn at hin
                  rw [Bool.and_eq_true_iff] at hin
                  have h1 : ¬ v < 1 := by simpa using hin.1
                  have h2 : ¬ (50 : Int32) < v := by simpa using hin.2
                  rw [Int32.lt_iff_toInt_lt] at h1 h2
                  have z1 : (1 : Int32).toInt = 1 := by decide
                  have z2 : (50 : Int32).toInt = 50 := by decide
                  have e3 : v = nI v.toInt.toNat := by
                    rw [← Int32.toInt_inj, lt_iT (by omega)]
                    omega
                  rw [e3, lt_iN (by omega)]
                  exact ⟨by omega, rfl⟩
                · show lt_n 0 ≤ 50 ∧ (0 : Int32) = nI (lt_n 0)
                  exact ⟨by decide, rfl⟩
            cases lvl with
            | zero => cases q
            | succ l =>
              dsimp only at q
              have hfr : (if qIs (X 16) len a2 40 = true then a2 + 1 else a2) ≤ len := by
                split
                · rename_i hc
                  have := (qIs_lt hc).1
                  omega
                · exact hsl2
              -- the turns
              have turns : ∀ (m : Nat) (X1 : Nat → Nat → Int32) (a0 : Nat) (s0 : QS) (b : Nat × QS), m ≤ lt_n r.1 → XE X X1 → X1 0 21 = nI a0 → X1 0 4 = nI s0.2.2.1 → a0 ≤ len → RS s0.1 s0.2.1 s0.2.2.1 s0.2.2.2 fs →
                  iterO (fun b => qDoes (X 16) len fs f l (if qIs (X 16) len a2 40 = true then a2 + 1 else a2, b.2)) m (a0, s0) = some b →
                  ∃ X2, XE X X2 ∧ X2 0 21 = nI b.1 ∧ X2 0 4 = nI b.2.2.2.1 ∧ b.1 ≤ len ∧ RS b.2.1 b.2.2.1 b.2.2.2.1 b.2.2.2.2 fs ∧ f_X11_does_120 (d + (l + 1) + 12) (rM M o s0.1 s0.2.2.2 X1) o r.1 (nI (if qIs (X 16) len a2 40 = true then a2 + 1 else a2)) (nI (lt_n r.1 - m)) = f_X11_does_120 (d + (l + 1) + 12) (rM M o b.2.1 b.2.2.2.2 X2) o r.1 (nI (if qIs (X 16) len a2 40 = true then a2 + 1 else a2)) (nI (lt_n r.1)) := by
                intro m
                induction m with
                | zero =>
                  intro X1 a0 s0 b _ x1 x2 x3 x4 x5 hb
                  cases hb
                  exact ⟨X1, x1, x2, x3, x4, x5, rfl⟩
                | succ m ihm =>
                  intro X1 a0 s0 b hm x1 x2 x3 x4 x5 hb
                  unfold iterO at hb
                  split at hb
                  · cases hb
                  · rename_i b1 hb1
                    have t16 : (u2 X1 0 21 (nI (if qIs (X 16) len a2 40 = true then a2 + 1 else a2))) 16 = X 16 := by
                      rw [u2_n1 (by omega)]
                      exact x1.1 16 (by omega) (by omega)
                    obtain ⟨X2, y1, y2, y3, y4, y5, y6⟩ := ih l d (u2 X1 0 21 (nI (if qIs (X 16) len a2 40 = true then a2 + 1 else a2))) _ s0 b1.1 b1.2 hfr (t16.trans hT) ((u2_n2 (by omega)).trans ((x1.2 20 (by omega) (by omega) (by omega)).trans h20)) u2_eq ((u2_n2 (by omega)).trans ((x1.2 22 (by omega) (by omega) (by omega)).trans h22)) ((u2_n2 (by omega)).trans x3) x5 (by rw [← hT]; exact hb1)
                    obtain ⟨X3, z1, z2, z3, z4, z5, z6⟩ := ihm X2 b1.1 b1.2 b (by omega) ((x1.trans XE.w1).trans y1) y2 y3 y4 y5 hb
                    have hvv := hv.1
                    have hltk : nI (lt_n r.1 - (m + 1)) < r.1 := by
                      conv => rhs; rw [hv.2]
                      rw [nI_ltP (by omega) (by omega)]
                      omega
                    have g2 : nI (lt_n r.1 - (m + 1)) + 1 = nI (lt_n r.1 - m) := by
                      rw [show nI (lt_n r.1 - (m + 1)) + 1 = nI (lt_n r.1 - (m + 1) + 1) from lt_iA (j := lt_n r.1 - (m + 1)) (k := 1)]
                      congr 1
                      omega
                    have y6' : f_X11_does (d + (l + 1) + 11) (rM M o s0.1 s0.2.2.2 (u2 X1 0 21 (nI (if qIs (X 16) len a2 40 = true then a2 + 1 else a2)))) o = some (.inl none, rM M o b1.2.1 b1.2.2.2.2 X2) := by
                      rw [← y6, show d + (l + 1) + 11 = d + l + 12 by omega, e_X11_does, e_X11_does_0]
                    refine ⟨X3, z1, z2, z3, z4, z5, ?_⟩
                    rw [e_X11_does_120]
                    simp (maxSteps := 1000000) (disch := first | assumption | omega) only [x_rf, x_m, lt_bv_r, lt_bi_r, lt_bl_r, ↓r_ck, r_get, r_put, r_more, rM_h, rM_f, rM_x, rM_wf, rM_wx, rM_wh, lt_iN, lt_b1_0, lt_b1_1, x_if1, x_eq1, x_10, x_01, x_11, x_00, ↓reduceIte, r_nz, r_ar1L0, r_ar1L1, lt_n0_, lt_n1_, upd_s, upd_o, u2_eq, u2_n1, u2_n2, r_p1, r_p5, r_p6, r_p7, r_p9, r_p10, r_p11, r_p13, r_p19, r_p23, r_p26, r_p27, r_p32, r_p33, r_p34, r_ar1, r_ar9, r_ar10, r_ar11, r_ar12, r_ar13, r_ar14, r_ar15, r_ar16, r_ar17, r_ar18, r_ar19, r_ar74, r_ar75, r_ar76, n2_, n4_, n12_, n24_, n28_, n50_, n54_, n76_, n80_, n102_, n128_, n154_, n180_, n206_, n232_, n258_, n284_, n310_, n336_, n362_, n380_, n680_, r_get0, r_get1, r_get2, r_get3, r_get4, r_get8, r_get9, r_get10, r_get11, r_get12, r_get13, r_put0, r_put1, r_put2, r_put3, r_put4, r_put5, r_put6, r_put7, r_put8, r_put9, r_put10, r_put11, r_more10, r_more12, r_more13, r_more14, r_more15, r_more16, r_more17, r_more18, r_more19, r_more20, hltk, y6', g2]
                    exact z6
              split at q
              · cases q
              · rename_i b hb
                by_cases hbl : b.1 < len
                · rw [if_pos hbl] at q
                  obtain ⟨X2, z1, z2, z3, z4, z5, z6⟩ := turns (lt_n r.1) (pX X (nI a2) (-1)) a2 s b (Nat.le_refl _) (by rw [gg]; exact XE.w1) p21 ((b4 _).trans h4) hsl2 hS hb
                  have t16 : (u2 X2 0 21 (nI (b.1 + 1))) 16 = T := by
                    rw [u2_n1 (by omega), z1.1 16 (by omega) (by omega), hT]
                  obtain ⟨X3, y1, y2, y3, y4, y5, y6⟩ := ih (l + 1) d (u2 X2 0 21 (nI (b.1 + 1))) (b.1 + 1) b.2 a' s' (by omega) t16 ((u2_n2 (by omega)).trans ((z1.2 20 (by omega) (by omega) (by omega)).trans h20)) u2_eq ((u2_n2 (by omega)).trans ((z1.2 22 (by omega) (by omega) (by omega)).trans h22)) ((u2_n2 (by omega)).trans z3) z5 (by rw [← hT]; exact q)
                  refine ⟨X3, (z1.trans XE.w1).trans y1, y2, y3, y4, y5, ?_⟩
                  have hs2 : nI a2 + 1 = nI (a2 + 1) := lt_iA (j := a2) (k := 1)
                  have hs3 : nI b.1 + 1 = nI (b.1 + 1) := lt_iA (j := b.1) (k := 1)
                  rw [Nat.sub_self] at z6
                  have hnlt : ¬ nI (lt_n r.1) < r.1 := by
                    conv => rhs; rhs; rw [hv.2]
                    rw [nI_ltP (by have := hv.1; omega) (by have := hv.1; omega)]
                    omega
                  have e120 : f_X11_does_120 (d + (l + 1) + 12) (rM M o b.2.1 b.2.2.2.2 X2) o r.1 (nI (if qIs (X 16) len a2 40 = true then a2 + 1 else a2)) (nI (lt_n r.1)) = f_X11_does_0 (d + (l + 1) + 12) (rM M o b.2.1 b.2.2.2.2 (u2 X2 0 21 (nI (b.1 + 1)))) o := by
                    rw [e_X11_does_120]
                    simp (maxSteps := 1000000) (disch := first | assumption | omega) only [x_rf, x_m, lt_bv_r, lt_bi_r, lt_bl_r, ↓r_ck, r_get, r_put, r_more, rM_h, rM_f, rM_x, rM_wf, rM_wx, rM_wh, lt_iN, lt_b1_0, lt_b1_1, x_if1, x_eq1, x_10, x_01, x_11, x_00, ↓reduceIte, r_nz, r_ar1L0, r_ar1L1, lt_n0_, lt_n1_, upd_s, upd_o, u2_eq, u2_n1, u2_n2, r_p1, r_p5, r_p6, r_p7, r_p9, r_p10, r_p11, r_p13, r_p19, r_p23, r_p26, r_p27, r_p32, r_p33, r_p34, r_ar1, r_ar9, r_ar10, r_ar11, r_ar12, r_ar13, r_ar14, r_ar15, r_ar16, r_ar17, r_ar18, r_ar19, r_ar74, r_ar75, r_ar76, n2_, n4_, n12_, n24_, n28_, n50_, n54_, n76_, n80_, n102_, n128_, n154_, n180_, n206_, n232_, n258_, n284_, n310_, n336_, n362_, n380_, n680_, r_get0, r_get1, r_get2, r_get3, r_get4, r_get8, r_get9, r_get10, r_get11, r_get12, r_get13, r_put0, r_put1, r_put2, r_put3, r_put4, r_put5, r_put6, r_put7, r_put8, r_put9, r_put10, r_put11, r_more10, r_more12, r_more13, r_more14, r_more15, r_more16, r_more17, r_more18, r_more19, r_more20, hnlt, z2, hs3]
                  have e115 : ∀ fr, fr = nI (if qIs (X 16) len a2 40 = true then a2 + 1 else a2) → f_X11_does_115 (d + (l + 1) + 12) (rM M o s.1 s.2.2.2 (pX X (nI a2) (-1))) o r.1 fr = some (.inl none, rM M o s'.1 s'.2.2.2 X3) := by
                    intro fr hfr'
                    rw [e_X11_does_115, hfr']
                    have z6' : f_X11_does_120 (d + (l + 1) + 12) (rM M o s.1 s.2.2.2 (pX X (nI a2) (-1))) o r.1 (nI (if qIs (X 16) len a2 40 = true then a2 + 1 else a2)) 0 = _ := z6
                    rw [z6', e120, y6]
                  simp (maxSteps := 1000000) (disch := first | assumption | omega) only [x_rf, x_m, lt_bv_r, lt_bi_r, lt_bl_r, ↓r_ck, r_get, r_put, r_more, rM_h, rM_f, rM_x, rM_wf, rM_wx, rM_wh, lt_iN, lt_b1_0, lt_b1_1, x_if1, x_eq1, x_10, x_01, x_11, x_00, ↓reduceIte, r_nz, r_ar1L0, r_ar1L1, lt_n0_, lt_n1_, upd_s, upd_o, u2_eq, u2_n1, u2_n2, r_p1, r_p5, r_p6, r_p7, r_p9, r_p10, r_p11, r_p13, r_p19, r_p23, r_p26, r_p27, r_p32, r_p33, r_p34, r_ar1, r_ar9, r_ar10, r_ar11, r_ar12, r_ar13, r_ar14, r_ar15, r_ar16, r_ar17, r_ar18, r_ar19, r_ar74, r_ar75, r_ar76, n2_, n4_, n12_, n24_, n28_, n50_, n54_, n76_, n80_, n102_, n128_, n154_, n180_, n206_, n232_, n258_, n284_, n310_, n336_, n362_, n380_, n680_, r_get0, r_get1, r_get2, r_get3, r_get4, r_get8, r_get9, r_get10, r_get11, r_get12, r_get13, r_put0, r_put1, r_put2, r_put3, r_put4, r_put5, r_put6, r_put7, r_put8, r_put9, r_put10, r_put11, r_more10, r_more12, r_more13, r_more14, r_more15, r_more16, r_more17, r_more18, r_more19, r_more20, e1, p21, p20, p16, h20, c1', hq41', bI_f, r_isDigit, hd, bI_t, et, e2, hs2]
                  cases hx : qIs (X 16) len a2 40
                  · rw [bI_f, if_pos rfl]
                    exact e115 _ (by rw [hx]; rfl)
                  · rw [bI_t, if_neg (by decide)]
                    exact e115 _ (by rw [hx]; rfl)
                · rw [if_neg hbl] at q
                  cases q
          · rw [if_neg hr] at q
            cases q
        · rw [if_neg hd] at q
          have hd' : qDgt (X 16 a1) = false := by simpa using hd
          by_cases l1 : X 16 a1 < 97 ∨ 122 < X 16 a1
          · rw [if_pos l1] at q
            cases q
          · rw [if_neg l1] at q
            obtain ⟨k, hk, ek⟩ := sub97 (fun q => l1 (Or.inl q)) (fun q => l1 (Or.inr q))
            rw [ek, lt_iN (by omega)] at q
            have hs1 : nI a1 + 1 = nI (a1 + 1) := lt_iA (j := a1) (k := 1)
            have hsl2 := qSkip_le (T := X 16) (len := len) (len - (a1 + 1))
            have e2 := r_isNext (M := M) (o := o) (H := s.1) (V := s.2.2.2) (X := X) (a := a1 + 1) (e := -1) (c := 33) (d + lvl + 10) h hl h20 (by omega)
            generalize qSkip (X 16) len (len - (a1 + 1)) = a2 at q e2 hsl2
            have hs2 : nI a2 + 1 = nI (a2 + 1) := lt_iA (j := a2) (k := 1)
            split at q
            · cases q
            · rename_i s1 h1
              have go : ∀ (a3 : Nat), a3 ≤ len → qDoes (X 16) len fs f lvl (a3, s1) = some (a', s') →
                  ∃ X', XE X X' ∧ X' 0 21 = nI a' ∧ X' 0 4 = nI s'.2.2.1 ∧ a' ≤ len ∧ RS s'.1 s'.2.1 s'.2.2.1 s'.2.2.2 fs ∧ f_X11_does_71 (d + lvl + 12) (rM M o s.1 s.2.2.2 (pX X (nI a3) (-1))) o (X 16 a1) (bI (qIs (X 16) len a2 33)) = some (.inl none, rM M o s'.1 s'.2.2.2 X') := by
                intro a3 ha3 q
                obtain ⟨X1, x1, x2, x3, bb', x4⟩ := r_askS (M := M) (o := o) (X := pX X (nI a3) (-1)) (d + lvl) h hS hk h1
                have xe : XE X X1 := (show XE X (pX X (nI a3) (-1)) by rw [gg]; exact XE.w1).trans (XE.of x1)
                obtain ⟨X3, y1, y2, y3, y4, y5, y6⟩ := ih lvl d X1 a3 s1 a' s' ha3 ((xe.1 16 (by omega) (by omega)).trans hT) ((xe.2 20 (by omega) (by omega) (by omega)).trans h20) ((x1.2 21 (by omega) (by omega)).trans p21) ((x1.2 22 (by omega) (by omega)).trans p22) x2 x3 (by rw [← hT]; exact q)
                refine ⟨X3, xe.trans y1, y2, y3, y4, y5, ?_⟩
                rw [e_X11_does_71, ek]
                simp (maxSteps := 1000000) (disch := first | assumption | omega) only [x_rf, x_m, lt_bv_r, lt_bi_r, lt_bl_r, ↓r_ck, r_get, r_put, r_more, rM_h, rM_f, rM_x, rM_wf, rM_wx, rM_wh, lt_iN, lt_b1_0, lt_b1_1, x_if1, x_eq1, x_10, x_01, x_11, x_00, ↓reduceIte, r_nz, r_ar1L0, r_ar1L1, lt_n0_, lt_n1_, upd_s, upd_o, u2_eq, u2_n1, u2_n2, r_p1, r_p5, r_p6, r_p7, r_p9, r_p10, r_p11, r_p13, r_p19, r_p23, r_p26, r_p27, r_p32, r_p33, r_p34, r_ar1, r_ar9, r_ar10, r_ar11, r_ar12, r_ar13, r_ar14, r_ar15, r_ar16, r_ar17, r_ar18, r_ar19, r_ar74, r_ar75, r_ar76, n2_, n4_, n12_, n24_, n28_, n50_, n54_, n76_, n80_, n102_, n128_, n154_, n180_, n206_, n232_, n258_, n284_, n310_, n336_, n362_, n380_, n680_, r_get0, r_get1, r_get2, r_get3, r_get4, r_get8, r_get9, r_get10, r_get11, r_get12, r_get13, r_put0, r_put1, r_put2, r_put3, r_put4, r_put5, r_put6, r_put7, r_put8, r_put9, r_put10, r_put11, r_more10, r_more12, r_more13, r_more14, r_more15, r_more16, r_more17, r_more18, r_more19, r_more20, x4]
                exact y6
              by_cases hx : qIs (X 16) len a2 33 = true
              · have ha2 := (qIs_lt hx).1
                rw [if_pos hx] at q
                obtain ⟨X3, y1, y2, y3, y4, y5, y6⟩ := go (a2 + 1) (by omega) q
                refine ⟨X3, y1, y2, y3, y4, y5, ?_⟩
                rw [hx, bI_t] at y6
                simp (maxSteps := 1000000) (disch := first | assumption | omega) only [x_rf, x_m, lt_bv_r, lt_bi_r, lt_bl_r, ↓r_ck, r_get, r_put, r_more, rM_h, rM_f, rM_x, rM_wf, rM_wx, rM_wh, lt_iN, lt_b1_0, lt_b1_1, x_if1, x_eq1, x_10, x_01, x_11, x_00, ↓reduceIte, r_nz, r_ar1L0, r_ar1L1, lt_n0_, lt_n1_, upd_s, upd_o, u2_eq, u2_n1, u2_n2, r_p1, r_p5, r_p6, r_p7, r_p9, r_p10, r_p11, r_p13, r_p19, r_p23, r_p26, r_p27, r_p32, r_p33, r_p34, r_ar1, r_ar9, r_ar10, r_ar11, r_ar12, r_ar13, r_ar14, r_ar15, r_ar16, r_ar17, r_ar18, r_ar19, r_ar74, r_ar75, r_ar76, n2_, n4_, n12_, n24_, n28_, n50_, n54_, n76_, n80_, n102_, n128_, n154_, n180_, n206_, n232_, n258_, n284_, n310_, n336_, n362_, n380_, n680_, r_get0, r_get1, r_get2, r_get3, r_get4, r_get8, r_get9, r_get10, r_get11, r_get12, r_get13, r_put0, r_put1, r_put2, r_put3, r_put4, r_put5, r_put6, r_put7, r_put8, r_put9, r_put10, r_put11, r_more10, r_more12, r_more13, r_more14, r_more15, r_more16, r_more17, r_more18, r_more19, r_more20, e1, p21, p20, p16, h20, c1', hq41', bI_f, r_isDigit, hd', pw21, hs1, e2, hx, bI_t, hs2]
                exact y6
              · have hx' : qIs (X 16) len a2 33 = false := by simpa using hx
                rw [if_neg hx] at q
                obtain ⟨X3, y1, y2, y3, y4, y5, y6⟩ := go a2 hsl2 q
                refine ⟨X3, y1, y2, y3, y4, y5, ?_⟩
                rw [hx', bI_f] at y6
                simp (maxSteps := 1000000) (disch := first | assumption | omega) only [x_rf, x_m, lt_bv_r, lt_bi_r, lt_bl_r, ↓r_ck, r_get, r_put, r_more, rM_h, rM_f, rM_x, rM_wf, rM_wx, rM_wh, lt_iN, lt_b1_0, lt_b1_1, x_if1, x_eq1, x_10, x_01, x_11, x_00, ↓reduceIte, r_nz, r_ar1L0, r_ar1L1, lt_n0_, lt_n1_, upd_s, upd_o, u2_eq, u2_n1, u2_n2, r_p1, r_p5, r_p6, r_p7, r_p9, r_p10, r_p11, r_p13, r_p19, r_p23, r_p26, r_p27, r_p32, r_p33, r_p34, r_ar1, r_ar9, r_ar10, r_ar11, r_ar12, r_ar13, r_ar14, r_ar15, r_ar16, r_ar17, r_ar18, r_ar19, r_ar74, r_ar75, r_ar76, n2_, n4_, n12_, n24_, n28_, n50_, n54_, n76_, n80_, n102_, n128_, n154_, n180_, n206_, n232_, n258_, n284_, n310_, n336_, n362_, n380_, n680_, r_get0, r_get1, r_get2, r_get3, r_get4, r_get8, r_get9, r_get10, r_get11, r_get12, r_get13, r_put0, r_put1, r_put2, r_put3, r_put4, r_put5, r_put6, r_put7, r_put8, r_put9, r_put10, r_put11, r_more10, r_more12, r_more13, r_more14, r_more15, r_more16, r_more17, r_more18, r_more19, r_more20, e1, p21, p20, p16, h20, c1', hq41', bI_f, r_isDigit, hd', pw21, hs1, e2, hx']
                exact y6
end Se
