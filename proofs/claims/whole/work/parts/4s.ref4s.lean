/-! THE REFERENCE: shame(), shameAt() -/
def qShame (mk : Bool) (r0 r1 keys most : Nat) : Nat → Option (List Nat)
  | 0 => none
  | n + 1 => match qFinds mk r0 r1 keys (most - n) 0 0 (0, (fun _ => 0), fun _ => false) (0, (fun _ => 0), fun _ => false) with
    | some l => some l
    | none => qShame mk r0 r1 keys most n
/-- what a search changes of the other cells -/
def XW (X X' : Nat → Nat → Int32) : Prop := (∀ t, t ≠ 0 → t ≠ 17 → (t < 21 ∨ 76 < t) → X' t = X t) ∧ ∀ j, j ≠ 24 → X' 0 j = X 0 j
section Sj
variable {M M' : LM} {o i j k u w y f t n x m a q room key dep : Nat} {H : Nat → Int32} {V V' X X' : Nat → Nat → Int32} {v b e r a' e' many : Int32} {z : Option (LO × LM)} {mk : Bool}
theorem XW.refl : XW X X := ⟨fun _ _ _ _ => rfl, fun _ _ => rfl⟩
theorem XW.trans {X'' : Nat → Nat → Int32} (h1 : XW X X') (h2 : XW X' X'') : XW X X'' := ⟨fun t a b c => (h2.1 t a b c).trans (h1.1 t a b c), fun j a => (h2.2 j a).trans (h1.2 j a)⟩
theorem XW.xf (h : XF 0 X X') : XW X X' := ⟨fun t a b c => h.1 t (by omega) (by omega) (by omega), fun j _ => by rw [h.1 0 (by omega) (by omega) (by omega)]⟩
theorem XW.wt (ht : 21 ≤ t ∧ t ≤ 76) : XW X (u2 X t j v) := ⟨fun t' a b c => funext fun i => if_neg (by omega), fun i a => if_neg (by omega)⟩
theorem XW.w24 : XW X (u2 X 0 24 v) := ⟨fun t' a b c => funext fun i => if_neg (by omega), fun i a => if_neg (by omega)⟩
theorem XW.w17 {g : Nat → Int32} : XW X (u1 X 17 g) := ⟨fun t' a b c => if_neg b, fun i a => by unfold u1; rw [if_neg (by omega)]⟩
theorem r_cps (h : RA M o) (hm : m ≤ 12) {K : LM → Option (LO × LM)} : lt_cp (rM M o H V X) (o + 76) (o + 17) 0 0 (nI m) K = K (rM M o H V (u1 X 17 (fun i => if i < m then X 76 i else X 17 i))) := by
  have hb := h
  unfold RA at hb
  obtain ⟨-, -, -, -, -, -, -, -, -, -, -, -, -, -, -, -, -, -, -, -, -, -, ⟨-, k3, k4⟩, -, -, -, -, ⟨-, k1, k2⟩⟩ := hb
  have n0 : (0 : Int32).toInt = 0 := rfl
  have n1 : (nI m).toInt = m := lt_iT (by omega)
  have n2 : (0 : Int32).toNatClampNeg = 0 := rfl
  have n3 : (nI m).toNatClampNeg = m := lt_iN (by omega)
  have k1' : mK (rM M o H V X) (o + 76) = 1 := k1
  have k2' : mZ (rM M o H V X) (o + 76) = 13 := k2
  have k3' : mK (rM M o H V X) (o + 17) = 1 := k3
  have k4' : mZ (rM M o H V X) (o + 17) = 12 := k4
  unfold lt_cp
  rw [if_pos ⟨by omega, by omega, by omega, by omega, by rw [k2']; omega, by rw [k4']; omega⟩, if_pos ⟨k1', k3'⟩, n2, n3, show mI (rM M o H V X) (o + 76) = X 76 from funext fun j => rM_x (by omega) (by omega), show mI (rM M o H V X) (o + 17) = X 17 from funext fun j => rM_x (by omega) (by omega)]
  congr 1
  refine Prod.ext (funext fun b => funext fun i => ?_) rfl
  show (u1 (mI (rM M o H V X)) (o + 17) (va_cpy (X 76) (X 17) 0 0 m)) b i = mI (rM M o H V (u1 X 17 (fun i => if i < m then X 76 i else X 17 i))) b i
  by_cases hb : b = o + 17
  · subst hb
    rw [u1_same, rM_x (by omega) (by omega), u1_same]
    unfold va_cpy
    by_cases hi : i < m
    · rw [if_pos (by omega), if_pos hi, Nat.sub_zero, Nat.zero_add]
    · rw [if_neg (by omega), if_neg hi]
  · have e1 : u1 (mI (rM M o H V X)) (o + 17) (va_cpy (X 76) (X 17) 0 0 m) b = mI (rM M o H V X) b := if_neg hb
    rw [e1]
    show (if b = o + 1 then _ else if o ≤ b ∧ b < o + 77 then X (b - o) i else _) = (if b = o + 1 then _ else if o ≤ b ∧ b < o + 77 then (u1 X 17 _) (b - o) i else _)
    by_cases h1 : b = o + 1
    · rw [if_pos h1, if_pos h1]
    · rw [if_neg h1, if_neg h1]
      by_cases h2 : o ≤ b ∧ b < o + 77
      · rw [if_pos h2, if_pos h2]
        unfold u1
        rw [if_neg (by omega)]
      · rw [if_neg h2, if_neg h2]
/-- what is answered, what is shown -/
def SX (X : Nat → Nat → Int32) (l : Option (List Nat)) : Prop := match l with
  | none => X 0 24 = 0
  | some l => X 0 24 = nI l.length ∧ l.length ≤ 12 ∧ ∀ i, i < l.length → X 17 i = nI (l.getD i 0)
def qLen : Option (List Nat) → Int32
  | none => -1
  | some l => nI l.length
theorem r_shame_129 (h : RA M o) {r0 r1 keys most : Nat} (hr0 : 0 < r0) (hr0' : r0 ≤ 6) (hr1 : 0 < r1) (hr1' : r1 ≤ 6) (hkeys : keys ≤ 26) (hmost : most ≤ 12) (d : Nat) : ∀ (n : Nat) (X : Nat → Nat → Int32), n ≤ most → X 75 0 = nI r0 → X 75 1 = nI r1 → X 74 0 = 0 → X 74 1 = 0 → X 0 24 = 0 →
    ∃ X', XW X X' ∧ SX X' (qShame mk r0 r1 keys most n) ∧ f_X11_shame_129 (d + 17) (rM M o H V X) o (if mk = true then 3 else 2) (nI keys) (nI most) (nI (most + 1 - n)) = some (.inl (some (.int (qLen (qShame mk r0 r1 keys most n)))), rM M o H V X')
  | 0, X, _, x0, x1, y0, y1, h24 => by
    have hlt : nI most < nI (most + 1 - 0) := by rw [nI_ltP (by omega) (by omega)]; omega
    refine ⟨X, XW.refl, h24, ?_⟩
    rw [e_X11_shame_129, if_pos hlt]
    rfl
  | n + 1, X, hn, x0, x1, y0, y1, h24 => by
    have g1 : nI (most + 1 - (n + 1)) = nI (most - n) := by congr 1; omega
    have hlt : ¬ nI most < nI (most - n) := by rw [nI_ltP (by omega) (by omega)]; omega
    have g2 : nI (most - n) + 1 = nI (most + 1 - n) := by
      rw [show nI (most - n) + 1 = nI (most - n + 1) from lt_iA (j := most - n) (k := 1)]
      congr 1
      omega
    have hf0 : QF X 0 0 (fun _ => 0) (fun _ => false) := ⟨y0, by omega, fun i hi => by omega⟩
    have hf1 : QF X 1 0 (fun _ => 0) (fun _ => false) := ⟨y1, by omega, fun i hi => by omega⟩
    obtain ⟨X1, a1, a2, a3⟩ := r_finds (M := M) (o := o) (H := H) (V := V) (mk := mk) h hr0 hr0' hr1 hr1' hkeys (show most - n ≤ 12 by omega) (most - n) 0 (d + (12 - (most - n))) 0 0 (0, (fun _ => 0), fun _ => false) (0, (fun _ => 0), fun _ => false) X (by omega) (by omega) x0 x1 hf0 hf1 (Nat.zero_le _) (Nat.zero_le _)
    have a3' : f_X11_finds (d + 16) (rM M o H V X) o 0 (nI (most - n)) 0 (nI keys) 0 (bI mk) = some (.inl (some (.int (bI (qFinds mk r0 r1 keys (most - n) 0 0 (0, (fun _ => 0), fun _ => false) (0, (fun _ => 0), fun _ => false)).isSome))), rM M o H V X1) := by
      rw [← a3, show d + (12 - (most - n)) + (most - n) + 4 = d + 16 by omega]
      rfl
    have hs : qShame mk r0 r1 keys most (n + 1) = (match qFinds mk r0 r1 keys (most - n) 0 0 (0, (fun _ => 0), fun _ => false) (0, (fun _ => 0), fun _ => false) with
      | some l => some l
      | none => qShame mk r0 r1 keys most n) := rfl
    have xw := XW.xf a1
    rw [hs]
    have eall : f_X11_shame_129 (d + 17) (rM M o H V X) o (if mk = true then 3 else 2) (nI keys) (nI most) (nI (most - n)) = if (qFinds mk r0 r1 keys (most - n) 0 0 (0, (fun _ => 0), fun _ => false) (0, (fun _ => 0), fun _ => false)).isSome = true then some (.inl (some (.int (nI (most - n)))), rM M o H V (u2 (u1 X1 17 (fun i => if i < most - n then X1 76 i else X1 17 i)) 0 24 (nI (most - n)))) else f_X11_shame_129 (d + 17) (rM M o H V X1) o (if mk = true then 3 else 2) (nI keys) (nI most) (nI (most + 1 - n)) := by
      have cp : ∀ {K : LM → Option (LO × LM)}, lt_cp (rM M o H V X1) (o + 76) (o + 17) 0 0 (nI (most - n)) K = K (rM M o H V (u1 X1 17 (fun i => if i < most - n then X1 76 i else X1 17 i))) := fun {K} => r_cps h (by omega)
      rw [e_X11_shame_129, if_neg hlt]
      cases mk
      · have n23 : ((2 : Int32) = 3) = False := eq_false (by decide)
        rw [bI_f] at a3'
        simp (maxSteps := 1000000) (disch := first | assumption | omega) only [x_rf, x_m, lt_bv_r, lt_bi_r, lt_bl_r, ↓r_ck, r_get, r_put, r_more, rM_h, rM_f, rM_x, rM_wf, rM_wx, rM_wh, lt_iN, lt_b1_0, lt_b1_1, x_if1, x_eq1, x_10, x_01, x_11, x_00, ↓reduceIte, r_nz, r_ar1L0, r_ar1L1, lt_n0_, lt_n1_, upd_s, upd_o, u2_eq, u2_n1, u2_n2, r_p1, r_p5, r_p6, r_p7, r_p9, r_p10, r_p11, r_p13, r_p19, r_p23, r_p26, r_p27, r_p32, r_p33, r_p34, r_ar1, r_ar9, r_ar10, r_ar11, r_ar12, r_ar13, r_ar14, r_ar15, r_ar16, r_ar17, r_ar18, r_ar19, r_ar74, r_ar75, r_ar76, n2_, n4_, n12_, n24_, n28_, n50_, n54_, n76_, n80_, n102_, n128_, n154_, n180_, n206_, n232_, n258_, n284_, n310_, n336_, n362_, n380_, n680_, r_get0, r_get1, r_get2, r_get3, r_get4, r_get8, r_get9, r_get10, r_get11, r_get12, r_get13, r_put0, r_put1, r_put2, r_put3, r_put4, r_put5, r_put6, r_put7, r_put8, r_put9, r_put10, r_put11, r_more10, r_more12, r_more13, r_more14, r_more15, r_more16, r_more17, r_more18, r_more19, r_more20, Bool.false_eq_true, n23, a3', bI0, g2, cp]
      · have n33 : ((3 : Int32) = 3) = True := eq_true rfl
        rw [bI_t] at a3'
        simp (maxSteps := 1000000) (disch := first | assumption | omega) only [x_rf, x_m, lt_bv_r, lt_bi_r, lt_bl_r, ↓r_ck, r_get, r_put, r_more, rM_h, rM_f, rM_x, rM_wf, rM_wx, rM_wh, lt_iN, lt_b1_0, lt_b1_1, x_if1, x_eq1, x_10, x_01, x_11, x_00, ↓reduceIte, r_nz, r_ar1L0, r_ar1L1, lt_n0_, lt_n1_, upd_s, upd_o, u2_eq, u2_n1, u2_n2, r_p1, r_p5, r_p6, r_p7, r_p9, r_p10, r_p11, r_p13, r_p19, r_p23, r_p26, r_p27, r_p32, r_p33, r_p34, r_ar1, r_ar9, r_ar10, r_ar11, r_ar12, r_ar13, r_ar14, r_ar15, r_ar16, r_ar17, r_ar18, r_ar19, r_ar74, r_ar75, r_ar76, n2_, n4_, n12_, n24_, n28_, n50_, n54_, n76_, n80_, n102_, n128_, n154_, n180_, n206_, n232_, n258_, n284_, n310_, n336_, n362_, n380_, n680_, r_get0, r_get1, r_get2, r_get3, r_get4, r_get8, r_get9, r_get10, r_get11, r_get12, r_get13, r_put0, r_put1, r_put2, r_put3, r_put4, r_put5, r_put6, r_put7, r_put8, r_put9, r_put10, r_put11, r_more10, r_more12, r_more13, r_more14, r_more15, r_more16, r_more17, r_more18, r_more19, r_more20, n33, a3', bI0, g2, cp]
    rw [g1, eall]
    cases hres : qFinds mk r0 r1 keys (most - n) 0 0 (0, (fun _ => 0), fun _ => false) (0, (fun _ => 0), fun _ => false) with
    | none =>
      obtain ⟨X2, b1, b2, b3⟩ := r_shame_129 h hr0 hr0' hr1 hr1' hkeys hmost d n X1 (by omega) ((a1.1 75 (by omega) (by omega) (by omega)) ▸ x0) ((a1.1 75 (by omega) (by omega) (by omega)) ▸ x1) ((a1.2.1 0 (by omega)).trans y0) ((a1.2.1 1 (by omega)).trans y1) ((a1.1 0 (by omega) (by omega) (by omega)) ▸ h24)
      refine ⟨X2, xw.trans b1, b2, ?_⟩
      rw [if_neg (by decide)]
      exact b3
    | some l =>
      obtain ⟨l1, l2⟩ := a2 l hres
      refine ⟨u2 (u1 X1 17 (fun i => if i < most - n then X1 76 i else X1 17 i)) 0 24 (nI (most - n)), (xw.trans XW.w17).trans XW.w24, ⟨by rw [l1]; exact u2_eq, by omega, fun i hi => ?_⟩, ?_⟩
      · rw [u2_n1 (by omega), u1_same, if_pos (by omega)]
        have := l2 i (by omega)
        rw [Nat.zero_add] at this
        exact this
      · rw [if_pos (show (some l).isSome = true from rfl)]
        show some (Sum.inl (some (Value.int (nI (most - n)))), _) = some (Sum.inl (some (Value.int (nI l.length))), _)
        rw [l1]
def qSHok (rule its greater keys most : Int32) : Bool := qIn rule 2 3 && qIn its 1 4 && qIn greater (its + 1) 6 && qIn keys 2 5 && qIn most 1 (if rule = 2 then 12 else 9)
theorem qIn_ab {v : Int32} {lo hi : Nat} (hlo : lo ≤ 100) (hhi : hi ≤ 100) (hq : qIn v (nI lo) (nI hi) = true) : ∃ k, lo ≤ k ∧ k ≤ hi ∧ v = nI k := by
  unfold qIn at hq
  rw [Bool.and_eq_true_iff] at hq
  have h1 : ¬ v < nI lo := by simpa using hq.1
  have h2 : ¬ nI hi < v := by simpa using hq.2
  rw [Int32.lt_iff_toInt_lt] at h1 h2
  rw [lt_iT (by omega)] at h1 h2
  refine ⟨v.toInt.toNat, by omega, by omega, ?_⟩
  rw [← Int32.toInt_inj, lt_iT (by omega)]
  omega
theorem r_shame (d : Nat) (h : RA M o) {rule its greater keys most : Int32} :
    (qSHok rule its greater keys most = false → f_X11_shame (d + 17) (rM M o H V X) o rule its greater keys most = some (.inl (some (.int 0)), rM M o H V (qXe X 1))) ∧
    (qSHok rule its greater keys most = true → ∃ X', XW (qX0 X) X' ∧ SX X' (qShame (decide (rule = 3)) (lt_n its) (lt_n greater) (lt_n keys) (lt_n most) (lt_n most)) ∧ f_X11_shame (d + 17) (rM M o H V X) o rule its greater keys most = some (.inl (some (.int (qLen (qShame (decide (rule = 3)) (lt_n its) (lt_n greater) (lt_n keys) (lt_n most) (lt_n most))))), rM M o H V X')) := by
  have e83 : f_X11_shame_83 (d + 17) (rM M o H V (qX0 X)) o rule its greater keys most o = some (.inl (some (.int 0)), rM M o H V (qXe X 1)) := by
    rw [e_X11_shame_83]
    simp (maxSteps := 1000000) (disch := first | assumption | omega) only [x_rf, x_m, lt_bv_r, lt_bi_r, lt_bl_r, ↓r_ck, r_get, r_put, r_more, rM_h, rM_f, rM_x, rM_wf, rM_wx, rM_wh, lt_iN, lt_b1_0, lt_b1_1, x_if1, x_eq1, x_10, x_01, x_11, x_00, ↓reduceIte, r_nz, r_ar1L0, r_ar1L1, lt_n0_, lt_n1_, upd_s, upd_o, u2_eq, u2_n1, u2_n2, r_p1, r_p5, r_p6, r_p7, r_p9, r_p10, r_p11, r_p13, r_p19, r_p23, r_p26, r_p27, r_p32, r_p33, r_p34, r_ar1, r_ar9, r_ar10, r_ar11, r_ar12, r_ar13, r_ar14, r_ar15, r_ar16, r_ar17, r_ar18, r_ar19, r_ar74, r_ar75, r_ar76, n2_, n4_, n12_, n24_, n28_, n50_, n54_, n76_, n80_, n102_, n128_, n154_, n180_, n206_, n232_, n258_, n284_, n310_, n336_, n362_, n380_, n680_, r_get0, r_get1, r_get2, r_get3, r_get4, r_get8, r_get9, r_get10, r_get11, r_get12, r_get13, r_put0, r_put1, r_put2, r_put3, r_put4, r_put5, r_put6, r_put7, r_put8, r_put9, r_put10, r_put11, r_more10, r_more12, r_more13, r_more14, r_more15, r_more16, r_more17, r_more18, r_more19, r_more20, r_in, r_no, r_no0, r_no1, bI_t, bI_f, bI0, Bool.not_true, Bool.not_false]
    rfl
  have e39 : f_X11_shame_39 (d + 17) (rM M o H V (qX0 X)) o rule its greater keys most = some (.inl (some (.int 0)), rM M o H V (qXe X 1)) := by
    rw [e_X11_shame_39, e_X11_shame_40, if_pos rfl, e83]
  have top : f_X11_shame (d + 17) (rM M o H V X) o rule its greater keys most = if qSHok rule its greater keys most = true then f_X11_shame_129 (d + 17) (rM M o H V (u2 (u2 (u2 (u2 (u2 (qX0 X) 75 0 its) 75 1 greater) 74 0 0) 74 1 0) 0 24 0)) o rule keys most 1 else some (.inl (some (.int 0)), rM M o H V (qXe X 1)) := by
    have e73 : ∀ lim, f_X11_shame_73 (d + 17) (rM M o H V (qX0 X)) o rule its greater keys most lim 1 most o = if qIn most 1 lim = true then f_X11_shame_129 (d + 17) (rM M o H V (u2 (u2 (u2 (u2 (u2 (qX0 X) 75 0 its) 75 1 greater) 74 0 0) 74 1 0) 0 24 0)) o rule keys most 1 else some (.inl (some (.int 0)), rM M o H V (qXe X 1)) := by
      intro lim
      have a0 : ∀ {X : Nat → Nat → Int32} {z : Option (LO × LM)}, lt_ar (rM M o H V X) (o + 75) 1 0 z = z := fun {X z} => r_ar75 (j := 0) h (by omega)
      have a1 : ∀ {X : Nat → Nat → Int32} {z : Option (LO × LM)}, lt_ar (rM M o H V X) (o + 75) 1 1 z = z := fun {X z} => r_ar75 (j := 1) h (by omega)
      have b0 : ∀ {X : Nat → Nat → Int32} {z : Option (LO × LM)}, lt_ar (rM M o H V X) (o + 74) 1 0 z = z := fun {X z} => r_ar74 (j := 0) h (by omega)
      have b1 : ∀ {X : Nat → Nat → Int32} {z : Option (LO × LM)}, lt_ar (rM M o H V X) (o + 74) 1 1 z = z := fun {X z} => r_ar74 (j := 1) h (by omega)
      rw [e_X11_shame_73]
      simp (maxSteps := 1000000) (disch := first | assumption | omega) only [x_rf, x_m, lt_bv_r, lt_bi_r, lt_bl_r, ↓r_ck, r_get, r_put, r_more, rM_h, rM_f, rM_x, rM_wf, rM_wx, rM_wh, lt_iN, lt_b1_0, lt_b1_1, x_if1, x_eq1, x_10, x_01, x_11, x_00, ↓reduceIte, r_nz, r_ar1L0, r_ar1L1, lt_n0_, lt_n1_, upd_s, upd_o, u2_eq, u2_n1, u2_n2, r_p1, r_p5, r_p6, r_p7, r_p9, r_p10, r_p11, r_p13, r_p19, r_p23, r_p26, r_p27, r_p32, r_p33, r_p34, r_ar1, r_ar9, r_ar10, r_ar11, r_ar12, r_ar13, r_ar14, r_ar15, r_ar16, r_ar17, r_ar18, r_ar19, r_ar74, r_ar75, r_ar76, n2_, n4_, n12_, n24_, n28_, n50_, n54_, n76_, n80_, n102_, n128_, n154_, n180_, n206_, n232_, n258_, n284_, n310_, n336_, n362_, n380_, n680_, r_get0, r_get1, r_get2, r_get3, r_get4, r_get8, r_get9, r_get10, r_get11, r_get12, r_get13, r_put0, r_put1, r_put2, r_put3, r_put4, r_put5, r_put6, r_put7, r_put8, r_put9, r_put10, r_put11, r_more10, r_more12, r_more13, r_more14, r_more15, r_more16, r_more17, r_more18, r_more19, r_more20, r_in, r_no, r_no0, r_no1, bI_t, bI_f, bI0, Bool.not_true, Bool.not_false, e83, a0, a1, b0, b1]
    have e40 : f_X11_shame_40 (d + 17) (rM M o H V (qX0 X)) o rule its greater keys most 1 = if (qIn keys 2 5 && qIn most 1 (if rule = 2 then 12 else 9)) = true then f_X11_shame_129 (d + 17) (rM M o H V (u2 (u2 (u2 (u2 (u2 (qX0 X) 75 0 its) 75 1 greater) 74 0 0) 74 1 0) 0 24 0)) o rule keys most 1 else some (.inl (some (.int 0)), rM M o H V (qXe X 1)) := by
      rw [e_X11_shame_40]
      cases hk : qIn keys 2 5
      · simp (maxSteps := 1000000) (disch := first | assumption | omega) only [x_rf, x_m, lt_bv_r, lt_bi_r, lt_bl_r, ↓r_ck, r_get, r_put, r_more, rM_h, rM_f, rM_x, rM_wf, rM_wx, rM_wh, lt_iN, lt_b1_0, lt_b1_1, x_if1, x_eq1, x_10, x_01, x_11, x_00, ↓reduceIte, r_nz, r_ar1L0, r_ar1L1, lt_n0_, lt_n1_, upd_s, upd_o, u2_eq, u2_n1, u2_n2, r_p1, r_p5, r_p6, r_p7, r_p9, r_p10, r_p11, r_p13, r_p19, r_p23, r_p26, r_p27, r_p32, r_p33, r_p34, r_ar1, r_ar9, r_ar10, r_ar11, r_ar12, r_ar13, r_ar14, r_ar15, r_ar16, r_ar17, r_ar18, r_ar19, r_ar74, r_ar75, r_ar76, n2_, n4_, n12_, n24_, n28_, n50_, n54_, n76_, n80_, n102_, n128_, n154_, n180_, n206_, n232_, n258_, n284_, n310_, n336_, n362_, n380_, n680_, r_get0, r_get1, r_get2, r_get3, r_get4, r_get8, r_get9, r_get10, r_get11, r_get12, r_get13, r_put0, r_put1, r_put2, r_put3, r_put4, r_put5, r_put6, r_put7, r_put8, r_put9, r_put10, r_put11, r_more10, r_more12, r_more13, r_more14, r_more15, r_more16, r_more17, r_more18, r_more19, r_more20, r_in, r_no, r_no0, r_no1, bI_t, bI_f, bI0, Bool.not_true, Bool.not_false, hk, e83, Bool.false_and, Bool.false_eq_true]
      · by_cases r2 : rule = 2
        · rw [if_pos r2]
          simp (maxSteps := 1000000) (disch := first | assumption | omega) only [x_rf, x_m, lt_bv_r, lt_bi_r, lt_bl_r, ↓r_ck, r_get, r_put, r_more, rM_h, rM_f, rM_x, rM_wf, rM_wx, rM_wh, lt_iN, lt_b1_0, lt_b1_1, x_if1, x_eq1, x_10, x_01, x_11, x_00, ↓reduceIte, r_nz, r_ar1L0, r_ar1L1, lt_n0_, lt_n1_, upd_s, upd_o, u2_eq, u2_n1, u2_n2, r_p1, r_p5, r_p6, r_p7, r_p9, r_p10, r_p11, r_p13, r_p19, r_p23, r_p26, r_p27, r_p32, r_p33, r_p34, r_ar1, r_ar9, r_ar10, r_ar11, r_ar12, r_ar13, r_ar14, r_ar15, r_ar16, r_ar17, r_ar18, r_ar19, r_ar74, r_ar75, r_ar76, n2_, n4_, n12_, n24_, n28_, n50_, n54_, n76_, n80_, n102_, n128_, n154_, n180_, n206_, n232_, n258_, n284_, n310_, n336_, n362_, n380_, n680_, r_get0, r_get1, r_get2, r_get3, r_get4, r_get8, r_get9, r_get10, r_get11, r_get12, r_get13, r_put0, r_put1, r_put2, r_put3, r_put4, r_put5, r_put6, r_put7, r_put8, r_put9, r_put10, r_put11, r_more10, r_more12, r_more13, r_more14, r_more15, r_more16, r_more17, r_more18, r_more19, r_more20, r_in, r_no, r_no0, r_no1, bI_t, bI_f, bI0, Bool.not_true, Bool.not_false, hk, e73, r2, Bool.true_and]
          rw [r2] at e73
          simp (maxSteps := 1000000) (disch := first | assumption | omega) only [x_rf, x_m, lt_bv_r, lt_bi_r, lt_bl_r, ↓r_ck, r_get, r_put, r_more, rM_h, rM_f, rM_x, rM_wf, rM_wx, rM_wh, lt_iN, lt_b1_0, lt_b1_1, x_if1, x_eq1, x_10, x_01, x_11, x_00, ↓reduceIte, r_nz, r_ar1L0, r_ar1L1, lt_n0_, lt_n1_, upd_s, upd_o, u2_eq, u2_n1, u2_n2, r_p1, r_p5, r_p6, r_p7, r_p9, r_p10, r_p11, r_p13, r_p19, r_p23, r_p26, r_p27, r_p32, r_p33, r_p34, r_ar1, r_ar9, r_ar10, r_ar11, r_ar12, r_ar13, r_ar14, r_ar15, r_ar16, r_ar17, r_ar18, r_ar19, r_ar74, r_ar75, r_ar76, n2_, n4_, n12_, n24_, n28_, n50_, n54_, n76_, n80_, n102_, n128_, n154_, n180_, n206_, n232_, n258_, n284_, n310_, n336_, n362_, n380_, n680_, r_get0, r_get1, r_get2, r_get3, r_get4, r_get8, r_get9, r_get10, r_get11, r_get12, r_get13, r_put0, r_put1, r_put2, r_put3, r_put4, r_put5, r_put6, r_put7, r_put8, r_put9, r_put10, r_put11, r_more10, r_more12, r_more13, r_more14, r_more15, r_more16, r_more17, r_more18, r_more19, r_more20, e73]
        · rw [if_neg r2]
          simp (maxSteps := 1000000) (disch := first | assumption | omega) only [x_rf, x_m, lt_bv_r, lt_bi_r, lt_bl_r, ↓r_ck, r_get, r_put, r_more, rM_h, rM_f, rM_x, rM_wf, rM_wx, rM_wh, lt_iN, lt_b1_0, lt_b1_1, x_if1, x_eq1, x_10, x_01, x_11, x_00, ↓reduceIte, r_nz, r_ar1L0, r_ar1L1, lt_n0_, lt_n1_, upd_s, upd_o, u2_eq, u2_n1, u2_n2, r_p1, r_p5, r_p6, r_p7, r_p9, r_p10, r_p11, r_p13, r_p19, r_p23, r_p26, r_p27, r_p32, r_p33, r_p34, r_ar1, r_ar9, r_ar10, r_ar11, r_ar12, r_ar13, r_ar14, r_ar15, r_ar16, r_ar17, r_ar18, r_ar19, r_ar74, r_ar75, r_ar76, n2_, n4_, n12_, n24_, n28_, n50_, n54_, n76_, n80_, n102_, n128_, n154_, n180_, n206_, n232_, n258_, n284_, n310_, n336_, n362_, n380_, n680_, r_get0, r_get1, r_get2, r_get3, r_get4, r_get8, r_get9, r_get10, r_get11, r_get12, r_get13, r_put0, r_put1, r_put2, r_put3, r_put4, r_put5, r_put6, r_put7, r_put8, r_put9, r_put10, r_put11, r_more10, r_more12, r_more13, r_more14, r_more15, r_more16, r_more17, r_more18, r_more19, r_more20, r_in, r_no, r_no0, r_no1, bI_t, bI_f, bI0, Bool.not_true, Bool.not_false, hk, e73, r2, Bool.true_and]
    unfold qX0 at e39 e40 ⊢
    rw [e_X11_shame]
    unfold qSHok
    cases h1 : qIn rule 2 3
    · simp (maxSteps := 1000000) (disch := first | assumption | omega) only [x_rf, x_m, lt_bv_r, lt_bi_r, lt_bl_r, ↓r_ck, r_get, r_put, r_more, rM_h, rM_f, rM_x, rM_wf, rM_wx, rM_wh, lt_iN, lt_b1_0, lt_b1_1, x_if1, x_eq1, x_10, x_01, x_11, x_00, ↓reduceIte, r_nz, r_ar1L0, r_ar1L1, lt_n0_, lt_n1_, upd_s, upd_o, u2_eq, u2_n1, u2_n2, r_p1, r_p5, r_p6, r_p7, r_p9, r_p10, r_p11, r_p13, r_p19, r_p23, r_p26, r_p27, r_p32, r_p33, r_p34, r_ar1, r_ar9, r_ar10, r_ar11, r_ar12, r_ar13, r_ar14, r_ar15, r_ar16, r_ar17, r_ar18, r_ar19, r_ar74, r_ar75, r_ar76, n2_, n4_, n12_, n24_, n28_, n50_, n54_, n76_, n80_, n102_, n128_, n154_, n180_, n206_, n232_, n258_, n284_, n310_, n336_, n362_, n380_, n680_, r_get0, r_get1, r_get2, r_get3, r_get4, r_get8, r_get9, r_get10, r_get11, r_get12, r_get13, r_put0, r_put1, r_put2, r_put3, r_put4, r_put5, r_put6, r_put7, r_put8, r_put9, r_put10, r_put11, r_more10, r_more12, r_more13, r_more14, r_more15, r_more16, r_more17, r_more18, r_more19, r_more20, r_in, r_no, r_no0, r_no1, bI_t, bI_f, bI0, Bool.not_true, Bool.not_false, h1, e39, Bool.false_and, Bool.false_eq_true]
    · cases h2 : qIn its 1 4
      · simp (maxSteps := 1000000) (disch := first | assumption | omega) only [x_rf, x_m, lt_bv_r, lt_bi_r, lt_bl_r, ↓r_ck, r_get, r_put, r_more, rM_h, rM_f, rM_x, rM_wf, rM_wx, rM_wh, lt_iN, lt_b1_0, lt_b1_1, x_if1, x_eq1, x_10, x_01, x_11, x_00, ↓reduceIte, r_nz, r_ar1L0, r_ar1L1, lt_n0_, lt_n1_, upd_s, upd_o, u2_eq, u2_n1, u2_n2, r_p1, r_p5, r_p6, r_p7, r_p9, r_p10, r_p11, r_p13, r_p19, r_p23, r_p26, r_p27, r_p32, r_p33, r_p34, r_ar1, r_ar9, r_ar10, r_ar11, r_ar12, r_ar13, r_ar14, r_ar15, r_ar16, r_ar17, r_ar18, r_ar19, r_ar74, r_ar75, r_ar76, n2_, n4_, n12_, n24_, n28_, n50_, n54_, n76_, n80_, n102_, n128_, n154_, n180_, n206_, n232_, n258_, n284_, n310_, n336_, n362_, n380_, n680_, r_get0, r_get1, r_get2, r_get3, r_get4, r_get8, r_get9, r_get10, r_get11, r_get12, r_get13, r_put0, r_put1, r_put2, r_put3, r_put4, r_put5, r_put6, r_put7, r_put8, r_put9, r_put10, r_put11, r_more10, r_more12, r_more13, r_more14, r_more15, r_more16, r_more17, r_more18, r_more19, r_more20, r_in, r_no, r_no0, r_no1, bI_t, bI_f, bI0, Bool.not_true, Bool.not_false, h1, h2, e39, Bool.false_and, Bool.and_false, Bool.false_eq_true]
      · cases h3 : qIn greater (its + 1) 6
        · simp (maxSteps := 1000000) (disch := first | assumption | omega) only [x_rf, x_m, lt_bv_r, lt_bi_r, lt_bl_r, ↓r_ck, r_get, r_put, r_more, rM_h, rM_f, rM_x, rM_wf, rM_wx, rM_wh, lt_iN, lt_b1_0, lt_b1_1, x_if1, x_eq1, x_10, x_01, x_11, x_00, ↓reduceIte, r_nz, r_ar1L0, r_ar1L1, lt_n0_, lt_n1_, upd_s, upd_o, u2_eq, u2_n1, u2_n2, r_p1, r_p5, r_p6, r_p7, r_p9, r_p10, r_p11, r_p13, r_p19, r_p23, r_p26, r_p27, r_p32, r_p33, r_p34, r_ar1, r_ar9, r_ar10, r_ar11, r_ar12, r_ar13, r_ar14, r_ar15, r_ar16, r_ar17, r_ar18, r_ar19, r_ar74, r_ar75, r_ar76, n2_, n4_, n12_, n24_, n28_, n50_, n54_, n76_, n80_, n102_, n128_, n154_, n180_, n206_, n232_, n258_, n284_, n310_, n336_, n362_, n380_, n680_, r_get0, r_get1, r_get2, r_get3, r_get4, r_get8, r_get9, r_get10, r_get11, r_get12, r_get13, r_put0, r_put1, r_put2, r_put3, r_put4, r_put5, r_put6, r_put7, r_put8, r_put9, r_put10, r_put11, r_more10, r_more12, r_more13, r_more14, r_more15, r_more16, r_more17, r_more18, r_more19, r_more20, r_in, r_no, r_no0, r_no1, bI_t, bI_f, bI0, Bool.not_true, Bool.not_false, h1, h2, h3, e39, Bool.false_and, Bool.and_false, Bool.false_eq_true]
        · simp (maxSteps := 1000000) (disch := first | assumption | omega) only [x_rf, x_m, lt_bv_r, lt_bi_r, lt_bl_r, ↓r_ck, r_get, r_put, r_more, rM_h, rM_f, rM_x, rM_wf, rM_wx, rM_wh, lt_iN, lt_b1_0, lt_b1_1, x_if1, x_eq1, x_10, x_01, x_11, x_00, ↓reduceIte, r_nz, r_ar1L0, r_ar1L1, lt_n0_, lt_n1_, upd_s, upd_o, u2_eq, u2_n1, u2_n2, r_p1, r_p5, r_p6, r_p7, r_p9, r_p10, r_p11, r_p13, r_p19, r_p23, r_p26, r_p27, r_p32, r_p33, r_p34, r_ar1, r_ar9, r_ar10, r_ar11, r_ar12, r_ar13, r_ar14, r_ar15, r_ar16, r_ar17, r_ar18, r_ar19, r_ar74, r_ar75, r_ar76, n2_, n4_, n12_, n24_, n28_, n50_, n54_, n76_, n80_, n102_, n128_, n154_, n180_, n206_, n232_, n258_, n284_, n310_, n336_, n362_, n380_, n680_, r_get0, r_get1, r_get2, r_get3, r_get4, r_get8, r_get9, r_get10, r_get11, r_get12, r_get13, r_put0, r_put1, r_put2, r_put3, r_put4, r_put5, r_put6, r_put7, r_put8, r_put9, r_put10, r_put11, r_more10, r_more12, r_more13, r_more14, r_more15, r_more16, r_more17, r_more18, r_more19, r_more20, r_in, r_no, r_no0, r_no1, bI_t, bI_f, bI0, Bool.not_true, Bool.not_false, h1, h2, h3, e40, Bool.true_and]
  rw [top]
  refine ⟨fun hq => by rw [hq]; rfl, fun hq => ?_⟩
  rw [if_pos hq]
  unfold qSHok at hq
  simp only [Bool.and_eq_true_iff] at hq
  obtain ⟨⟨⟨⟨h1, h2⟩, h3⟩, h4⟩, h5⟩ := hq
  obtain ⟨ru, hr1, hr2, rfl⟩ := qIn_ab (lo := 2) (hi := 3) (by omega) (by omega) h1
  obtain ⟨it, hi1, hi2, rfl⟩ := qIn_ab (lo := 1) (hi := 4) (by omega) (by omega) h2
  have hi3 : nI it + 1 = nI (it + 1) := lt_iA (j := it) (k := 1)
  rw [hi3] at h3
  obtain ⟨gr, hg1, hg2, rfl⟩ := qIn_ab (hi := 6) (by omega) (by omega) h3
  obtain ⟨ke, hk1, hk2, rfl⟩ := qIn_ab (lo := 2) (hi := 5) (by omega) (by omega) h4
  obtain ⟨mo, hm1, hm2, rfl⟩ : ∃ k, 1 ≤ k ∧ k ≤ 12 ∧ most = nI k := by
    by_cases r2 : nI ru = 2
    · rw [if_pos r2] at h5
      exact qIn_ab (lo := 1) (hi := 12) (by omega) (by omega) h5
    · rw [if_neg r2] at h5
      obtain ⟨k, a1, a2, a3⟩ := qIn_ab (lo := 1) (hi := 9) (by omega) (by omega) h5
      exact ⟨k, a1, by omega, a3⟩
  rw [lt_iN (show it < 2147483648 by omega), lt_iN (show gr < 2147483648 by omega), lt_iN (show ke < 2147483648 by omega), lt_iN (show mo < 2147483648 by omega)]
  obtain ⟨X', a1, a2, a3⟩ := r_shame_129 (M := M) (o := o) (H := H) (V := V) (mk := decide (nI ru = 3)) h (r0 := it) (r1 := gr) (keys := ke) (most := mo) (by omega) (by omega) (by omega) (by omega) (by omega) (by omega) d mo (u2 (u2 (u2 (u2 (u2 (qX0 X) 75 0 (nI it)) 75 1 (nI gr)) 74 0 0) 74 1 0) 0 24 0) (Nat.le_refl _)
    (by simp (disch := omega) only [u2_eq, u2_n1, u2_n2]) (by simp (disch := omega) only [u2_eq, u2_n1, u2_n2]) (by simp (disch := omega) only [u2_eq, u2_n1, u2_n2]) (by simp (disch := omega) only [u2_eq, u2_n1, u2_n2]) (by simp (disch := omega) only [u2_eq, u2_n1, u2_n2])
  have hru : (if decide (nI ru = 3) = true then (3 : Int32) else 2) = nI ru := by
    have : ru = 2 ∨ ru = 3 := by omega
    rcases this with e | e <;> subst e <;> decide
  rw [hru, show mo + 1 - mo = 1 by omega] at a3
  exact ⟨X', ((((XW.wt (by omega)).trans (XW.wt (by omega))).trans ((XW.wt (by omega)).trans (XW.wt (by omega)))).trans XW.w24).trans a1, a2, a3⟩
theorem r_shameAt (d : Nat) (h : RA M o) {place : Int32} {l : Option (List Nat)} (hS : SX X l) :
    f_X11_shameAt (d + 2) (rM M o H V X) o place = if qIn place 0 (nI (l.getD []).length - 1) = true then some (.inl (some (.int (nI ((l.getD []).getD (lt_n place) 0)))), rM M o H V (qX0 X)) else some (.inl (some (.int 0)), rM M o H V (qXe X 1)) := by
  have h24 : X 0 24 = nI (l.getD []).length := by
    cases l with
    | none => exact hS
    | some l => exact hS.1
  rw [e_X11_shameAt]
  cases hq : qIn place 0 (nI (l.getD []).length - 1)
  · simp (maxSteps := 1000000) (disch := first | assumption | omega) only [x_rf, x_m, lt_bv_r, lt_bi_r, lt_bl_r, ↓r_ck, r_get, r_put, r_more, rM_h, rM_f, rM_x, rM_wf, rM_wx, rM_wh, lt_iN, lt_b1_0, lt_b1_1, x_if1, x_eq1, x_10, x_01, x_11, x_00, ↓reduceIte, r_nz, r_ar1L0, r_ar1L1, lt_n0_, lt_n1_, upd_s, upd_o, u2_eq, u2_n1, u2_n2, r_p1, r_p5, r_p6, r_p7, r_p9, r_p10, r_p11, r_p13, r_p19, r_p23, r_p26, r_p27, r_p32, r_p33, r_p34, r_ar1, r_ar9, r_ar10, r_ar11, r_ar12, r_ar13, r_ar14, r_ar15, r_ar16, r_ar17, r_ar18, r_ar19, r_ar74, r_ar75, r_ar76, n2_, n4_, n12_, n24_, n28_, n50_, n54_, n76_, n80_, n102_, n128_, n154_, n180_, n206_, n232_, n258_, n284_, n310_, n336_, n362_, n380_, n680_, r_get0, r_get1, r_get2, r_get3, r_get4, r_get8, r_get9, r_get10, r_get11, r_get12, r_get13, r_put0, r_put1, r_put2, r_put3, r_put4, r_put5, r_put6, r_put7, r_put8, r_put9, r_put10, r_put11, r_more10, r_more12, r_more13, r_more14, r_more15, r_more16, r_more17, r_more18, r_more19, r_more20, r_in, r_no, r_no0, r_no1, bI_t, bI_f, bI0, Bool.not_true, Bool.not_false, h24, hq, Bool.false_eq_true]
    rfl
  · have hl12 : (l.getD []).length ≤ 12 := by
      cases l with
      | none => exact Nat.zero_le _
      | some l => exact hS.2.1
    obtain ⟨w, hw, rfl⟩ := qIn_n (n := (l.getD []).length) (by omega) hq
    have hw12 : w < 12 := by omega
    have hX : X 17 w = nI ((l.getD []).getD w 0) := by
      cases l with
      | none => exact absurd hw (Nat.not_lt_zero _)
      | some l => exact hS.2.2 w hw
    rw [lt_iN (by omega)]
    simp (maxSteps := 1000000) (disch := first | assumption | omega) only [x_rf, x_m, lt_bv_r, lt_bi_r, lt_bl_r, ↓r_ck, r_get, r_put, r_more, rM_h, rM_f, rM_x, rM_wf, rM_wx, rM_wh, lt_iN, lt_b1_0, lt_b1_1, x_if1, x_eq1, x_10, x_01, x_11, x_00, ↓reduceIte, r_nz, r_ar1L0, r_ar1L1, lt_n0_, lt_n1_, upd_s, upd_o, u2_eq, u2_n1, u2_n2, r_p1, r_p5, r_p6, r_p7, r_p9, r_p10, r_p11, r_p13, r_p19, r_p23, r_p26, r_p27, r_p32, r_p33, r_p34, r_ar1, r_ar9, r_ar10, r_ar11, r_ar12, r_ar13, r_ar14, r_ar15, r_ar16, r_ar17, r_ar18, r_ar19, r_ar74, r_ar75, r_ar76, n2_, n4_, n12_, n24_, n28_, n50_, n54_, n76_, n80_, n102_, n128_, n154_, n180_, n206_, n232_, n258_, n284_, n310_, n336_, n362_, n380_, n680_, r_get0, r_get1, r_get2, r_get3, r_get4, r_get8, r_get9, r_get10, r_get11, r_get12, r_get13, r_put0, r_put1, r_put2, r_put3, r_put4, r_put5, r_put6, r_put7, r_put8, r_put9, r_put10, r_put11, r_more10, r_more12, r_more13, r_more14, r_more15, r_more16, r_more17, r_more18, r_more19, r_more20, r_in, r_no, r_no0, r_no1, bI_t, bI_f, bI0, Bool.not_true, Bool.not_false, h24, hq, hX]
    rfl
end Sj
