/-! THE REFERENCE: rows that shame, found -/
abbrev QQ : Type := Nat × (Nat → Nat) × (Nat → Bool)
def firstKey (F : Nat → Option (List Nat)) (lim : Nat) : Nat → Option (List Nat)
  | 0 => none
  | n + 1 => match F (lim - (n + 1)) with
    | some l => some ((lim - (n + 1)) :: l)
    | none => firstKey F lim n
def qFinds (mk : Bool) (r0 r1 keys : Nat) : Nat → Nat → Int32 → QQ → QQ → Option (List Nat)
  | 0, _, b, _, _ => if b < 0 then some [] else none
  | rem + 1, used, b, q0, q1 => if b < nI (rem + 1) then
      firstKey (fun key => qFinds mk r0 r1 keys rem (if used < key + 1 then key + 1 else used) (b + bI (qStp mk r1 key q1).1 - bI (qStp mk r0 key q0).1) (qStp mk r0 key q0).2 (qStp mk r1 key q1).2) (if used + 1 ≤ keys then used + 1 else keys) (if used + 1 ≤ keys then used + 1 else keys)
    else none
/-- what a search from a depth on changes -/
def XF (dep : Nat) (X X' : Nat → Nat → Int32) : Prop :=
  (∀ t, (t < 21 ∨ 73 < t ∨ (t < 48 ∧ t < 23 + 2 * dep) ∨ (48 ≤ t ∧ t < 50 + 2 * dep)) → t ≠ 74 → t ≠ 76 → X' t = X t) ∧ (∀ j, j < 2 * dep + 2 → X' 74 j = X 74 j) ∧ ∀ j, j < dep → X' 76 j = X 76 j
section Si
variable {M M' : LM} {o i j k u w y f t n x m a q room key dep : Nat} {H : Nat → Int32} {V V' X X' : Nat → Nat → Int32} {v b e r a' e' many : Int32} {z : Option (LO × LM)} {K : Nat → Nat} {B : Nat → Bool} {mk : Bool} {q0 q1 : QQ}
theorem XF.refl : XF dep X X := ⟨fun _ _ _ _ => rfl, fun _ _ => rfl, fun _ _ => rfl⟩
theorem XF.trans {X'' : Nat → Nat → Int32} (h1 : XF dep X X') (h2 : XF dep X' X'') : XF dep X X'' := ⟨fun t a b c => (h2.1 t a b c).trans (h1.1 t a b c), fun j a => (h2.2.1 j a).trans (h1.2.1 j a), fun j a => (h2.2.2 j a).trans (h1.2.2 j a)⟩
theorem XF.w76 : XF dep X (u2 X 76 dep v) := ⟨fun t' a b c => funext fun i => if_neg (by omega), fun i a => if_neg (by omega), fun i a => if_neg (by omega)⟩
theorem XF.xk (h : XK q X X') (h1 : 2 * dep + 2 ≤ q) (h2 : q < 26) : XF dep X X' :=
  ⟨fun t a b c => h.1 t (by omega) (by omega) b, fun j a => h.2 j (by omega), fun j a => by rw [h.1 76 (by omega) (by omega) (by omega)]⟩
theorem XF.up (h : XF (dep + 1) X X') : XF dep X X' :=
  ⟨fun t a b c => h.1 t (by omega) b c, fun j a => h.2.1 j (by omega), fun j a => h.2.2 j (by omega)⟩
theorem QF.keep (h : QF X q m K B) (hx : XF dep X X') (hq : q < 2 * dep + 2) (hd : 2 * dep + 2 ≤ 26) : QF X' q m K B := by
  obtain ⟨h1, h2, h3⟩ := h
  refine ⟨(hx.2.1 q hq).trans h1, h2, fun i hi => ?_⟩
  have := h3 i hi
  rw [hx.1 (21 + q) (by omega) (by omega) (by omega), hx.1 (48 + q) (by omega) (by omega) (by omega)]
  exact this
theorem QF.xk (h : QF X q m K B) {q' : Nat} (hx : XK q' X X') (hq : q ≠ q') (hq1 : q < 26) (hq2 : q' < 26) : QF X' q m K B := by
  obtain ⟨h1, h2, h3⟩ := h
  refine ⟨(hx.2 q hq).trans h1, h2, fun i hi => ?_⟩
  have := h3 i hi
  rw [hx.1 (21 + q) (by omega) (by omega) (by omega), hx.1 (48 + q) (by omega) (by omega) (by omega)]
  exact this
theorem r_finds (h : RA M o) {r0 r1 keys len : Nat} (hr0 : 0 < r0) (hr0' : r0 ≤ 6) (hr1 : 0 < r1) (hr1' : r1 ≤ 6) (hkeys : keys ≤ 26) (hlen : len ≤ 12) : ∀ (rem dep d used : Nat) (b : Int32) (q0 q1 : QQ) (X : Nat → Nat → Int32), dep + rem = len → used ≤ 26 → X 75 0 = nI r0 → X 75 1 = nI r1 → QF X (2 * dep) q0.1 q0.2.1 q0.2.2 → QF X (2 * dep + 1) q1.1 q1.2.1 q1.2.2 → q0.1 ≤ r0 → q1.1 ≤ r1 →
    ∃ X', XF dep X X' ∧ (∀ l, qFinds mk r0 r1 keys rem used b q0 q1 = some l → l.length = rem ∧ ∀ i, i < rem → X' 76 (dep + i) = nI (l.getD i 0)) ∧
      f_X11_finds (d + rem + 4) (rM M o H V X) o (nI dep) (nI len) (nI used) (nI keys) b (bI mk) = some (.inl (some (.int (bI (qFinds mk r0 r1 keys rem used b q0 q1).isSome))), rM M o H V X')
  | 0, dep, d, used, b, q0, q1, X, hd, hu, x0, x1, hq0, hq1, hm0, hm1 => by
    have e : nI dep = nI len := by rw [show dep = len by omega]
    refine ⟨X, XF.refl, fun l hl => ?_, ?_⟩
    · have : qFinds mk r0 r1 keys 0 used b q0 q1 = if b < 0 then some [] else none := rfl
      rw [this] at hl
      split at hl
      · cases hl
        exact ⟨rfl, fun i hi => by omega⟩
      · cases hl
    · rw [e_X11_finds, if_pos e]
      show _ = some (Sum.inl (some (Value.int (bI (if b < 0 then some [] else none).isSome))), rM M o H V X)
      by_cases c : b < 0
      · rw [if_pos c, if_pos c]; rfl
      · rw [if_neg c, if_neg c]; rfl
  | rem + 1, dep, d, used, b, q0, q1, X, hd, hu, x0, x1, hq0, hq1, hm0, hm1 => by
    have e : ¬ nI dep = nI len := fun e => by have := (lt_iE (by omega) (by omega)).mp e; omega
    have esub : nI len - nI dep = nI (rem + 1) := by
      rw [show nI len = nI (rem + 1) + nI dep by rw [lt_iA]; congr 1; omega]
      exact Int32.add_sub_cancel ..
    have hdep : dep ≤ 11 := by omega
    rw [e_X11_finds, if_neg e, esub]
    by_cases c : b < nI (rem + 1)
    · rw [if_pos c]
      have hlim : (if used + 1 ≤ keys then used + 1 else keys) ≤ 26 ∧ (if used + 1 ≤ keys then used + 1 else keys) ≤ keys ∧ (if used + 1 ≤ keys then used + 1 else keys) ≤ used + 1 := by
        split <;> omega
      have hlim2 : ∀ i, i < (if used + 1 ≤ keys then used + 1 else keys) ↔ (i ≤ used ∧ i < keys) := fun i => by split <;> omega
      have hdef : qFinds mk r0 r1 keys (rem + 1) used b q0 q1 = firstKey (fun key => qFinds mk r0 r1 keys rem (if used < key + 1 then key + 1 else used) (b + bI (qStp mk r1 key q1).1 - bI (qStp mk r0 key q0).1) (qStp mk r0 key q0).2 (qStp mk r1 key q1).2) (if used + 1 ≤ keys then used + 1 else keys) (if used + 1 ≤ keys then used + 1 else keys) := by
        show (if b < nI (rem + 1) then _ else none) = _
        rw [if_pos c]
      rw [hdef]
      generalize (if used + 1 ≤ keys then used + 1 else keys) = lim at hlim hlim2
      -- the keys, one after the other
      have loop : ∀ (n : Nat) (X : Nat → Nat → Int32), n ≤ lim → X 75 0 = nI r0 → X 75 1 = nI r1 → QF X (2 * dep) q0.1 q0.2.1 q0.2.2 → QF X (2 * dep + 1) q1.1 q1.2.1 q1.2.2 →
          ∃ X', XF dep X X' ∧ (∀ l, firstKey (fun key => qFinds mk r0 r1 keys rem (if used < key + 1 then key + 1 else used) (b + bI (qStp mk r1 key q1).1 - bI (qStp mk r0 key q0).1) (qStp mk r0 key q0).2 (qStp mk r1 key q1).2) lim n = some l → l.length = rem + 1 ∧ ∀ i, i < rem + 1 → X' 76 (dep + i) = nI (l.getD i 0)) ∧
            f_X11_finds_29 (d + rem + 5) (rM M o H V X) o (nI dep) (nI len) (nI used) (nI keys) b (bI mk) (nI (lim - n)) = some (.inl (some (.int (bI (firstKey (fun key => qFinds mk r0 r1 keys rem (if used < key + 1 then key + 1 else used) (b + bI (qStp mk r1 key q1).1 - bI (qStp mk r0 key q0).1) (qStp mk r0 key q0).2 (qStp mk r1 key q1).2) lim n).isSome))), rM M o H V X') := by
        intro n
        induction n with
        | zero =>
          intro X _ x0 x1 hq0 hq1
          refine ⟨X, XF.refl, (fun l hl => by cases hl), ?_⟩
          rw [e_X11_finds_29, Nat.sub_zero]
          have hl := hlim2 lim
          by_cases c1 : nI used < nI lim
          · rw [if_pos c1]; rfl
          · rw [if_neg c1]
            have c1' : ¬ used < lim := fun q => c1 ((lt_iL (by omega) (by omega)).mpr q)
            have c2 : ¬ nI lim < nI keys := fun q => by
              have := (lt_iL (by omega) (by omega)).mp q
              omega
            rw [if_neg c2]; rfl
        | succ n ihn =>
          intro X hn x0 x1 hq0 hq1
          have hkey : lim - (n + 1) < lim := by omega
          obtain ⟨hk1, hk2⟩ := (hlim2 _).mp hkey
          have hk26 : lim - (n + 1) < 26 := by omega
          have l1 : ¬ nI used < nI (lim - (n + 1)) := by rw [nI_ltP (by omega) (by omega)]; omega
          have l2 : nI (lim - (n + 1)) < nI keys := by rw [nI_ltP (by omega) (by omega)]; omega
          have g2 : nI (lim - (n + 1)) + 1 = nI (lim - n) := by
            rw [show nI (lim - (n + 1)) + 1 = nI (lim - (n + 1) + 1) from lt_iA (j := lim - (n + 1)) (k := 1)]
            congr 1
            omega
          have g3 : nI dep + 1 = nI (dep + 1) := lt_iA (j := dep) (k := 1)
          have dep13 : dep < 13 := by omega
          generalize hkk : lim - (n + 1) = key at *
          have g4 : (if nI used < nI key + 1 then nI key + 1 else nI used) = nI (if used < key + 1 then key + 1 else used) := by
            rw [show nI key + 1 = nI (key + 1) from lt_iA (j := key) (k := 1)]
            by_cases cc : used < key + 1
            · rw [if_pos cc, if_pos ((lt_iL (by omega) (by omega)).mpr cc)]
            · rw [if_neg cc, if_neg (fun q => cc ((lt_iL (by omega) (by omega)).mp q))]
          have g4' : (if nI used < nI (lim - n) then nI (lim - n) else nI used) = nI (if used < key + 1 then key + 1 else used) := by rw [← g2]; exact g4
          have xa0 : (u2 X 76 dep (nI key)) 75 0 = nI r0 := by rw [u2_n1 (by omega), x0]
          have xa1 : (u2 X 76 dep (nI key)) 75 1 = nI r1 := by rw [u2_n1 (by omega), x1]
          have hqa0 := hq0.keep (dep := dep) (XF.w76 (v := nI key)) (by omega) (by omega)
          have hqa1 := hq1.keep (dep := dep) (XF.w76 (v := nI key)) (by omega) (by omega)
          obtain ⟨X1, a1, a2, a3, a4⟩ := r_steps (M := M) (o := o) (H := H) (V := V) (mk := mk) (wh := 0) (dep := dep) (d + rem + 1) h (by omega) (by omega) hk26 xa0 hr0 hr0' hm0 (show QF (u2 X 76 dep (nI key)) (2 * dep + 0) q0.1 q0.2.1 q0.2.2 from hqa0)
          have f1 : XF dep (u2 X 76 dep (nI key)) X1 := XF.xk a1 (by omega) (by omega)
          have xb1 : X1 75 1 = nI r1 := by rw [f1.1 75 (by omega) (by omega) (by omega)]; exact xa1
          have xb0 : X1 75 0 = nI r0 := by rw [f1.1 75 (by omega) (by omega) (by omega)]; exact xa0
          have hqb1 := hqa1.keep f1 (by omega) (by omega)
          obtain ⟨X2, b1, b2, b3, b4⟩ := r_steps (M := M) (o := o) (H := H) (V := V) (mk := mk) (wh := 1) (dep := dep) (d + rem + 1) h (by omega) (by omega) hk26 xb1 hr1 hr1' hm1 (show QF X1 (2 * dep + 1) q1.1 q1.2.1 q1.2.2 from hqb1)
          have f2 : XF dep X1 X2 := XF.xk b1 (by omega) (by omega)
          have xc0 : X2 75 0 = nI r0 := by rw [f2.1 75 (by omega) (by omega) (by omega)]; exact xb0
          have xc1 : X2 75 1 = nI r1 := by rw [f2.1 75 (by omega) (by omega) (by omega)]; exact xb1
          have a2' : QF X2 (2 * (dep + 1)) (qStp mk r0 key q0).2.1 (qStp mk r0 key q0).2.2.1 (qStp mk r0 key q0).2.2.2 := a2.xk b1 (by omega) (by omega) (by omega)
          have hused : (if used < key + 1 then key + 1 else used) ≤ 26 := by split <;> omega
          obtain ⟨X3, c1, c2, c3⟩ := r_finds h hr0 hr0' hr1 hr1' hkeys hlen rem (dep + 1) d (if used < key + 1 then key + 1 else used) (b + bI (qStp mk r1 key q1).1 - bI (qStp mk r0 key q0).1) (qStp mk r0 key q0).2 (qStp mk r1 key q1).2 X2 (by omega) hused xc0 xc1 a2' b2 a3 b3
          have f3 : XF dep X X3 := ((XF.w76.trans f1).trans f2).trans c1.up
          have x76 : X3 76 dep = nI key := by
            rw [c1.2.2 dep (by omega), b1.1 76 (by omega) (by omega) (by omega), a1.1 76 (by omega) (by omega) (by omega)]
            exact u2_eq
          have e29 : ∀ R, f_X11_finds (d + rem + 4) (rM M o H V X2) o (nI (dep + 1)) (nI len) (nI (if used < key + 1 then key + 1 else used)) (nI keys) (b + bI (qStp mk r1 key q1).1 - bI (qStp mk r0 key q0).1) (bI mk) = R →
              f_X11_finds_29 (d + rem + 5) (rM M o H V X) o (nI dep) (nI len) (nI used) (nI keys) b (bI mk) (nI key) = lt_bi R [] fun v10 M9 => if v10 = 0 then f_X11_finds_29 (d + rem + 5) M9 o (nI dep) (nI len) (nI used) (nI keys) b (bI mk) (nI (lim - n)) else lt_b1 1 (some (.inl (some (.int 1)), M9)) := by
            intro R hR
            have a4' : f_X11_steps (d + rem + 4) (rM M o H V (u2 X 76 dep (nI key))) o 0 (nI dep) (nI key) (bI mk) = _ := a4
            have b4' : f_X11_steps (d + rem + 4) (rM M o H V X1) o 1 (nI dep) (nI key) (bI mk) = _ := b4
            have e68 : ∀ s0 : Bool, s0 = (qStp mk r0 key q0).1 → f_X11_finds_68 (d + rem + 5) (rM M o H V X1) o (nI dep) (nI len) (nI used) (nI keys) b (bI mk) (nI key) (bI s0) = lt_bi R [] fun v10 M9 => if v10 = 0 then f_X11_finds_29 (d + rem + 5) M9 o (nI dep) (nI len) (nI used) (nI keys) b (bI mk) (nI (lim - n)) else lt_b1 1 (some (.inl (some (.int 1)), M9)) := by
              intro s0 hs0
              rw [← hs0] at hR
              rw [e_X11_finds_68]
              cases hq : (qStp mk r1 key q1).1
              · rw [hq, bI_f] at hR
                simp (maxSteps := 1000000) (disch := first | assumption | omega) only [x_rf, x_m, lt_bv_r, lt_bi_r, lt_bl_r, ↓r_ck, r_get, r_put, r_more, rM_h, rM_f, rM_x, rM_wf, rM_wx, rM_wh, lt_iN, lt_b1_0, lt_b1_1, x_if1, x_eq1, x_10, x_01, x_11, x_00, ↓reduceIte, r_nz, r_ar1L0, r_ar1L1, lt_n0_, lt_n1_, upd_s, upd_o, u2_eq, u2_n1, u2_n2, r_p1, r_p5, r_p6, r_p7, r_p9, r_p10, r_p11, r_p13, r_p19, r_p23, r_p26, r_p27, r_p32, r_p33, r_p34, r_ar1, r_ar9, r_ar10, r_ar11, r_ar12, r_ar13, r_ar14, r_ar15, r_ar16, r_ar17, r_ar18, r_ar19, r_ar74, r_ar75, r_ar76, n2_, n4_, n12_, n24_, n28_, n50_, n54_, n76_, n80_, n102_, n128_, n154_, n180_, n206_, n232_, n258_, n284_, n310_, n336_, n362_, n380_, n680_, r_get0, r_get1, r_get2, r_get3, r_get4, r_get8, r_get9, r_get10, r_get11, r_get12, r_get13, r_put0, r_put1, r_put2, r_put3, r_put4, r_put5, r_put6, r_put7, r_put8, r_put9, r_put10, r_put11, r_more10, r_more12, r_more13, r_more14, r_more15, r_more16, r_more17, r_more18, r_more19, r_more20, b4', hq, bI_f, j_max, g3, g4', g2]
                rw [hR]
              · rw [hq, bI_t] at hR
                simp (maxSteps := 1000000) (disch := first | assumption | omega) only [x_rf, x_m, lt_bv_r, lt_bi_r, lt_bl_r, ↓r_ck, r_get, r_put, r_more, rM_h, rM_f, rM_x, rM_wf, rM_wx, rM_wh, lt_iN, lt_b1_0, lt_b1_1, x_if1, x_eq1, x_10, x_01, x_11, x_00, ↓reduceIte, r_nz, r_ar1L0, r_ar1L1, lt_n0_, lt_n1_, upd_s, upd_o, u2_eq, u2_n1, u2_n2, r_p1, r_p5, r_p6, r_p7, r_p9, r_p10, r_p11, r_p13, r_p19, r_p23, r_p26, r_p27, r_p32, r_p33, r_p34, r_ar1, r_ar9, r_ar10, r_ar11, r_ar12, r_ar13, r_ar14, r_ar15, r_ar16, r_ar17, r_ar18, r_ar19, r_ar74, r_ar75, r_ar76, n2_, n4_, n12_, n24_, n28_, n50_, n54_, n76_, n80_, n102_, n128_, n154_, n180_, n206_, n232_, n258_, n284_, n310_, n336_, n362_, n380_, n680_, r_get0, r_get1, r_get2, r_get3, r_get4, r_get8, r_get9, r_get10, r_get11, r_get12, r_get13, r_put0, r_put1, r_put2, r_put3, r_put4, r_put5, r_put6, r_put7, r_put8, r_put9, r_put10, r_put11, r_more10, r_more12, r_more13, r_more14, r_more15, r_more16, r_more17, r_more18, r_more19, r_more20, b4', hq, bI_t, j_max, g3, g4', g2]
                rw [hR]
            rw [e_X11_finds_29, if_neg l1, if_pos l2]
            cases hq : (qStp mk r0 key q0).1
            · have e68' := e68 false hq.symm
              simp (maxSteps := 1000000) (disch := first | assumption | omega) only [x_rf, x_m, lt_bv_r, lt_bi_r, lt_bl_r, ↓r_ck, r_get, r_put, r_more, rM_h, rM_f, rM_x, rM_wf, rM_wx, rM_wh, lt_iN, lt_b1_0, lt_b1_1, x_if1, x_eq1, x_10, x_01, x_11, x_00, ↓reduceIte, r_nz, r_ar1L0, r_ar1L1, lt_n0_, lt_n1_, upd_s, upd_o, u2_eq, u2_n1, u2_n2, r_p1, r_p5, r_p6, r_p7, r_p9, r_p10, r_p11, r_p13, r_p19, r_p23, r_p26, r_p27, r_p32, r_p33, r_p34, r_ar1, r_ar9, r_ar10, r_ar11, r_ar12, r_ar13, r_ar14, r_ar15, r_ar16, r_ar17, r_ar18, r_ar19, r_ar74, r_ar75, r_ar76, n2_, n4_, n12_, n24_, n28_, n50_, n54_, n76_, n80_, n102_, n128_, n154_, n180_, n206_, n232_, n258_, n284_, n310_, n336_, n362_, n380_, n680_, r_get0, r_get1, r_get2, r_get3, r_get4, r_get8, r_get9, r_get10, r_get11, r_get12, r_get13, r_put0, r_put1, r_put2, r_put3, r_put4, r_put5, r_put6, r_put7, r_put8, r_put9, r_put10, r_put11, r_more10, r_more12, r_more13, r_more14, r_more15, r_more16, r_more17, r_more18, r_more19, r_more20, a4', hq, bI_f]
              exact e68'
            · have e68' := e68 true hq.symm
              simp (maxSteps := 1000000) (disch := first | assumption | omega) only [x_rf, x_m, lt_bv_r, lt_bi_r, lt_bl_r, ↓r_ck, r_get, r_put, r_more, rM_h, rM_f, rM_x, rM_wf, rM_wx, rM_wh, lt_iN, lt_b1_0, lt_b1_1, x_if1, x_eq1, x_10, x_01, x_11, x_00, ↓reduceIte, r_nz, r_ar1L0, r_ar1L1, lt_n0_, lt_n1_, upd_s, upd_o, u2_eq, u2_n1, u2_n2, r_p1, r_p5, r_p6, r_p7, r_p9, r_p10, r_p11, r_p13, r_p19, r_p23, r_p26, r_p27, r_p32, r_p33, r_p34, r_ar1, r_ar9, r_ar10, r_ar11, r_ar12, r_ar13, r_ar14, r_ar15, r_ar16, r_ar17, r_ar18, r_ar19, r_ar74, r_ar75, r_ar76, n2_, n4_, n12_, n24_, n28_, n50_, n54_, n76_, n80_, n102_, n128_, n154_, n180_, n206_, n232_, n258_, n284_, n310_, n336_, n362_, n380_, n680_, r_get0, r_get1, r_get2, r_get3, r_get4, r_get8, r_get9, r_get10, r_get11, r_get12, r_get13, r_put0, r_put1, r_put2, r_put3, r_put4, r_put5, r_put6, r_put7, r_put8, r_put9, r_put10, r_put11, r_more10, r_more12, r_more13, r_more14, r_more15, r_more16, r_more17, r_more18, r_more19, r_more20, a4', hq, bI_t]
              exact e68'
          rw [e29 _ c3]
          have hfk : firstKey (fun key => qFinds mk r0 r1 keys rem (if used < key + 1 then key + 1 else used) (b + bI (qStp mk r1 key q1).1 - bI (qStp mk r0 key q0).1) (qStp mk r0 key q0).2 (qStp mk r1 key q1).2) lim (n + 1) = (match qFinds mk r0 r1 keys rem (if used < key + 1 then key + 1 else used) (b + bI (qStp mk r1 key q1).1 - bI (qStp mk r0 key q0).1) (qStp mk r0 key q0).2 (qStp mk r1 key q1).2 with
              | some l => some (key :: l)
              | none => firstKey (fun key => qFinds mk r0 r1 keys rem (if used < key + 1 then key + 1 else used) (b + bI (qStp mk r1 key q1).1 - bI (qStp mk r0 key q0).1) (qStp mk r0 key q0).2 (qStp mk r1 key q1).2) lim n) := by
            rw [← hkk]
            rfl
          rw [hfk]
          cases hres : qFinds mk r0 r1 keys rem (if used < key + 1 then key + 1 else used) (b + bI (qStp mk r1 key q1).1 - bI (qStp mk r0 key q0).1) (qStp mk r0 key q0).2 (qStp mk r1 key q1).2 with
          | none =>
            obtain ⟨X4, d1, d2, d3⟩ := ihn X3 (by omega) ((f3.1 75 (by omega) (by omega) (by omega)) ▸ x0) ((f3.1 75 (by omega) (by omega) (by omega)) ▸ x1) (hq0.keep f3 (by omega) (by omega)) (hq1.keep f3 (by omega) (by omega))
            exact ⟨X4, f3.trans d1, d2, d3⟩
          | some l =>
            obtain ⟨l1', l2'⟩ := c2 l hres
            refine ⟨X3, f3, fun l' hl' => ?_, rfl⟩
            cases hl'
            refine ⟨by rw [List.length_cons, l1'], fun i hi => ?_⟩
            cases i with
            | zero => exact x76
            | succ i =>
              have := l2' i (by omega)
              rw [show dep + (i + 1) = dep + 1 + i by omega, this]
              rfl
      obtain ⟨X', i1, i2, i3⟩ := loop lim X (Nat.le_refl _) x0 x1 hq0 hq1
      rw [Nat.sub_self] at i3
      exact ⟨X', i1, i2, i3⟩
    · rw [if_neg c]
      have hdef : qFinds mk r0 r1 keys (rem + 1) used b q0 q1 = none := by
        show (if b < nI (rem + 1) then _ else none) = none
        rw [if_neg c]
      rw [hdef]
      exact ⟨X, XF.refl, (fun l hl => by cases hl), rfl⟩
end Si
