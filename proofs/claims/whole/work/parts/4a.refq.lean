/-! THE REFERENCE: all kept for undo, undone -/
/-- the rows kept lie in an order of their own -/
def rP (M : LM) (o : Nat) (g : Nat → Option Nat) : LM := (mI M, mL M, (fun b j => if b = o + 2 then g j else mP M b j), M.2.2.2)
def gP (o : Nat) (p : Nat → Nat) (j : Nat) : Option Nat := if j < 6 then some (o + 3 + p j) else none
def rG (M : LM) (o : Nat) (p : Nat → Nat) (H : Nat → Int32) (V X : Nat → Nat → Int32) : LM := rM (rP M o (gP o p)) o H V X
def rowS (H : Nat → Int32) (V : Nat → Nat → Int32) (i : Nat) : Int32 := if i < 980 then H i else V ((i - 980) / 662) ((i - 980) % 662)
def qRot (p : Nat → Nat) (j : Nat) : Nat := if j < 5 then p (j + 1) else if j = 5 then p 0 else p j
def qKeep (X : Nat → Nat → Int32) (q c : Nat) (S : Nat → Int32) : Nat → Nat → Int32 := u2 (u1 X (3 + q) (fun i => if i < 12896 then S i else X (3 + q) i)) 0 3 (nI (c + 1))
/-- the order of the rows kept, and how many -/
def PA (p : Nat → Nat) : Prop := (∀ j, j < 6 → p j < 6) ∧ ∀ i j, i < 6 → j < 6 → p i = p j → i = j
section Rr
variable {M M' : LM} {o i j k u w y f t c q : Nat} {H : Nat → Int32} {V V' X : Nat → Nat → Int32} {S : Nat → Int32} {p : Nat → Nat} {g : Nat → Option Nat} {v : Int32} {z : Option (LO × LM)}
theorem RA.rp (h : RA M o) : RA (rP M o g) o := by
  have e : ∀ b, b ≠ o + 2 → mP (rP M o g) b = mP M b := fun b hb => funext fun j => if_neg hb
  unfold RA at h ⊢
  rw [e o (by omega), e (o + 20) (by omega), e (o + 47) (by omega)]
  exact h
theorem gP_lt (h : j < 6) : gP o p j = some (o + 3 + p j) := if_pos h
theorem rP_p (h : j < 6) : mP (rM (rP M o g) o H V X) (o + 2) j = g j := if_pos rfl
theorem rP_w : wP (rM (rP M o g) o H V X) (o + 2) j (some q) = rM (rP M o (fun i => if i = j then some q else g i)) o H V X := by
  have : (rP M o (fun i => if i = j then some q else g i)) = (mI M, mL M, (fun b i => if b = o + 2 ∧ i = j then some q else if b = o + 2 then g i else mP M b i), M.2.2.2) := by
    unfold rP
    have e : (fun b i => if b = o + 2 then (fun i => if i = j then some q else g i) i else mP M b i) = (fun b i => if b = o + 2 ∧ i = j then some q else if b = o + 2 then g i else mP M b i) := funext fun b => funext fun i => by
      by_cases hb : b = o + 2
      · by_cases hi : i = j
        · rw [if_pos hb, if_pos ⟨hb, hi⟩]
          exact if_pos hi
        · rw [if_pos hb, if_neg (fun e => hi e.2), if_pos hb]
          exact if_neg hi
      · rw [if_neg hb, if_neg (fun e => hb e.1), if_neg hb]
    rw [e]
  rw [this]
  rfl
theorem r_p2 (h : RA M o) : mP (rM (rP M o g) o H V X) o 2 = some (o + 2) := by
  rw [show mP (rM (rP M o g) o H V X) o = mP M o from funext fun j => if_neg (by omega)]
  exact h.2.1
theorem r_aa (h : RA M o) (hj : j < 6) : lt_aa (rM (rP M o g) o H V X) (o + 2) (nI j) z = z := by
  have h1 : mK M (o + 2) = 7 := h.2.2.1
  have h2 : mZ M (o + 2) = 6 := h.2.2.2.1
  refine if_pos ⟨?_, ?_⟩
  · show 5 ≤ mK M (o + 2) ∧ mK M (o + 2) ≤ 8
    omega
  · show 0 ≤ (nI j).toInt ∧ (nI j).toInt < (mZ M (o + 2) : Int)
    rw [h2]
    exact lt_iI hj (by omega)
theorem r_as (h : RA M o) (hj : j < 6) (hq : q < 6) : lt_as (rM (rP M o g) o H V X) (o + 2) (nI j) (o + 3 + q) z = z := by
  have h1 : mK M (o + 2) = 7 := h.2.2.1
  have h2 : mZ M (o + 2) = 6 := h.2.2.2.1
  have h3 := (h.2.2.2.2.2.2.2.2.2.2.1 q hq).1
  refine if_pos ⟨?_, ?_, ?_⟩
  · show 5 ≤ mK M (o + 2) ∧ mK M (o + 2) ≤ 8
    omega
  · show 0 ≤ (nI j).toInt ∧ (nI j).toInt < (mZ M (o + 2) : Int)
    rw [h2]
    exact lt_iI hj (by omega)
  · show mK M (o + 3 + q) = lt_el (mK M (o + 2))
    rw [h1, h3]
    rfl
theorem rM_row : mI (rM M o H V X) (o + 1) = rowS H V := funext fun i => by
  show (if o + 1 = o + 1 then _ else _) = _
  rw [if_pos rfl]
  rfl
/-- the row copied to where it is kept -/
theorem r_cp (h : RA M o) (hq : q < 6) {K : LM → Option (LO × LM)} : lt_cp (rM (rP M o g) o H V X) (o + 1) (o + 3 + q) 0 0 12896 K = K (rM (rP M o g) o H V (u1 X (3 + q) (fun i => if i < 12896 then rowS H V i else X (3 + q) i))) := by
  have a1 := (h.rA (H := H) (V := V) (X := X))
  have h3 := h.2.2.2.2.2.2.2.2.2.2.1 q hq
  have k1 : mK (rM (rP M o g) o H V X) (o + 1) = 1 := a1.2.2.1
  have k2 : mZ (rM (rP M o g) o H V X) (o + 1) = 12896 := a1.2.2.2
  have k3 : mK (rM (rP M o g) o H V X) (o + 3 + q) = 1 := h3.1
  have k4 : mZ (rM (rP M o g) o H V X) (o + 3 + q) = 12896 := h3.2
  have n0 : (0 : Int32).toInt = 0 := rfl
  have n1 : (12896 : Int32).toInt = 12896 := by decide
  have n2 : (0 : Int32).toNatClampNeg = 0 := rfl
  have n3 : (12896 : Int32).toNatClampNeg = 12896 := by decide
  unfold lt_cp
  rw [if_pos ⟨by omega, by omega, by omega, by omega, by rw [k2]; omega, by rw [k4]; omega⟩, if_pos ⟨k1, k3⟩, n2, n3, rM_row]
  congr 1
  refine Prod.ext (funext fun b => funext fun i => ?_) rfl
  show (u1 (mI (rM (rP M o g) o H V X)) (o + 3 + q) (va_cpy (rowS H V) (mI (rM (rP M o g) o H V X) (o + 3 + q)) 0 0 12896)) b i = mI (rM (rP M o g) o H V (u1 X (3 + q) (fun i => if i < 12896 then rowS H V i else X (3 + q) i))) b i
  unfold u1 va_cpy
  by_cases hb : b = o + 3 + q
  · subst hb
    rw [if_pos rfl, show o + 3 + q = o + (3 + q) by omega, rM_x (by omega) (by omega), rM_x (by omega) (by omega)]
    show _ = (if 3 + q = 3 + q then _ else _ : Nat → Int32) i
    rw [if_pos rfl]
    by_cases hi : i < 12896
    · rw [if_pos (by omega), if_pos hi, Nat.sub_zero, Nat.zero_add]
    · rw [if_neg (by omega), if_neg hi]
  · rw [if_neg hb]
    show (if b = o + 1 then _ else if o ≤ b ∧ b < o + 77 then X (b - o) i else _) = (if b = o + 1 then _ else if o ≤ b ∧ b < o + 77 then (if b - o = 3 + q then _ else X (b - o)) i else _)
    by_cases h1 : b = o + 1
    · rw [if_pos h1, if_pos h1]
    · rw [if_neg h1, if_neg h1]
      by_cases h2 : o ≤ b ∧ b < o + 77
      · rw [if_pos h2, if_pos h2, if_neg (by omega)]
      · rw [if_neg h2, if_neg h2]
theorem u2_u1 {S : Nat → Int32} {a b : Int32} (ht : t ≠ 0) : u2 (u1 (u2 X 0 3 a) t S) 0 3 b = u2 (u1 X t S) 0 3 b := funext fun x => funext fun i => by
  unfold u2 u1
  by_cases hx : x = 0 ∧ i = 3
  · rw [if_pos hx, if_pos hx]
  · rw [if_neg hx, if_neg hx]
    by_cases h2 : x = t
    · rw [if_pos h2, if_pos h2]
    · rw [if_neg h2, if_neg h2]
      exact if_neg hx
theorem rP_eq {g' : Nat → Option Nat} (e : ∀ j, g j = g' j) : rP M o g = rP M o g' := by rw [show g = g' from funext e]
theorem r_keeps_18 (d : Nat) (h : RA M o) (hp : PA p) : ∀ (n : Nat) (g : Nat → Option Nat), n ≤ 5 → (∀ j, g j = if j < 5 - n then some (o + 3 + p (j + 1)) else gP o p j) → X 0 3 = 6 →
    f_X11_keepsAll_18 (d + 1) (rM (rP M o g) o H V X) o (o + 3 + p 0) (nI (6 - n)) = some (.inl none, rG M o (qRot p) H V (qKeep X (p 0) 5 (rowS H V)))
  | 0, g, _, hg, hX => by
    have n5 : (5 : Int32) = nI 5 := rfl
    have n65 : (6 : Int32) - 1 = nI 5 := by decide
    have n56 : nI 5 + 1 = nI (5 + 1) := rfl
    have l5 : lt_n (nI 5) = 5 := by decide
    have hp0 := hp.1 0 (by omega)
    have ck : ∀ {g : Nat → Option Nat} {X : Nat → Nat → Int32} {z : Option (LO × LM)}, lt_ck (rM (rP M o g) o H V X) o 27 z = z := fun {g X z} => r_ck h.rp
    have p2 : ∀ {g : Nat → Option Nat} {X : Nat → Nat → Int32}, mP (rM (rP M o g) o H V X) o 2 = some (o + 2) := fun {g X} => r_p2 h
    have p1 : ∀ {g : Nat → Option Nat} {X : Nat → Nat → Int32}, mP (rM (rP M o g) o H V X) o 1 = some (o + 1) := fun {g X} => r_p1 h.rp
    rw [e_X11_keepsAll_18, if_neg (by decide), ck, p2, x_rf, n5, r_as h (by omega) hp0, x_m, l5, rP_w, ck, ck, x_m, rM_wf, rM_f, hX, n65, ck, p1, x_rf, ck, p2, x_rf, ck, rM_f, u2_eq, r_aa h (by omega), l5, rP_p (by omega), if_pos rfl, x_rf, r_cp h hp0, ck, ck, x_m, rM_wf, rM_f]
    unfold rG qKeep
    have e3 : (u1 (u2 X 0 3 (nI 5)) (3 + p 0) (fun i => if i < 12896 then rowS H V i else u2 X 0 3 (nI 5) (3 + p 0) i)) 0 3 = nI 5 := by
      unfold u1
      rw [if_neg (by omega)]
      exact u2_eq
    rw [e3, n56, u2_u1 (by omega)]
    have e4 : (u2 X 0 3 (nI 5)) (3 + p 0) = X (3 + p 0) := u2_n1 (by omega)
    rw [e4]
    congr 4
    refine funext (fun j => ?_)
    unfold gP qRot
    by_cases q5 : j = 5
    · rw [if_pos q5, if_pos (c := j < 6) (by omega), if_neg (c := j < 5) (by omega), if_pos q5]
    · rw [if_neg q5, hg j]
      by_cases ql : j < 5
      · rw [if_pos (c := j < 5 - 0) (by omega), if_pos (c := j < 6) (by omega), if_pos ql]
      · rw [if_neg (c := j < 5 - 0) (by omega)]
        unfold gP
        rw [if_neg (c := j < 6) (by omega), if_neg (c := j < 6) (by omega)]
  | n + 1, g, hn, hg, hX => by
    have g1 : nI (6 - (n + 1)) = nI (5 - n) := by congr 1; omega
    have g2 : nI (5 - n) + 1 = nI (6 - n) := by
      rw [show nI (5 - n) + 1 = nI (5 - n + 1) from lt_iA (j := 5 - n) (k := 1)]
      congr 1
      omega
    have g3 : nI (5 - n) < (6 : Int32) := (lt_iL (j := 5 - n) (k := 6) (by omega) (by omega)).mpr (by omega)
    have g4 : nI (5 - n) - 1 = nI (4 - n) := by
      rw [show nI (5 - n) = nI (4 - n) + 1 from by rw [show nI (4 - n) + 1 = nI (4 - n + 1) from lt_iA (j := 4 - n) (k := 1)]; congr 1; omega]
      exact Int32.add_sub_cancel ..
    have l5 : lt_n (nI (5 - n)) = 5 - n := lt_iN (by omega)
    have l4 : lt_n (nI (4 - n)) = 4 - n := lt_iN (by omega)
    have ck : ∀ {g : Nat → Option Nat} {X : Nat → Nat → Int32} {z : Option (LO × LM)}, lt_ck (rM (rP M o g) o H V X) o 27 z = z := fun {g X z} => r_ck h.rp
    have p2 : ∀ {g : Nat → Option Nat} {X : Nat → Nat → Int32}, mP (rM (rP M o g) o H V X) o 2 = some (o + 2) := fun {g X} => r_p2 h
    have hgn : g (5 - n) = some (o + 3 + p (5 - n)) := by rw [hg, if_neg (by omega), gP_lt (by omega)]
    have hpn := hp.1 (5 - n) (by omega)
    rw [g1, e_X11_keepsAll_18, if_pos g3, ck, p2, x_rf, ck, x_rf, r_aa h (by omega), l5, rP_p (by omega), hgn, x_rf, g4, r_as h (by omega) hpn, x_m, l4, rP_w, g2]
    refine r_keeps_18 d h hp n _ (by omega) (fun j => ?_) hX
    by_cases e : j = 4 - n
    · rw [if_pos e, if_pos (by omega), show j + 1 = 5 - n by omega]
    · rw [if_neg e, hg j]
      by_cases ql : j < 5 - (n + 1)
      · rw [if_pos ql, if_pos (by omega)]
      · rw [if_neg ql, if_neg (by omega)]
/-- what keepsAll() makes of the order, the other cells -/
def qKp (p : Nat → Nat) (c : Nat) : Nat → Nat := if c = 6 then qRot p else p
def qKX (p : Nat → Nat) (c : Nat) (X : Nat → Nat → Int32) (S : Nat → Int32) : Nat → Nat → Int32 := if c = 6 then qKeep X (p 0) 5 S else qKeep X (p c) c S
theorem r_keepsAll (d : Nat) (h : RA M o) (hp : PA p) (hc : c ≤ 6) (hX : X 0 3 = nI c) : f_X11_keepsAll (d + 1) (rG M o p H V X) o = some (.inl none, rG M o (qKp p c) H V (qKX p c X (rowS H V))) := by
  have ck : ∀ {g : Nat → Option Nat} {X : Nat → Nat → Int32} {z : Option (LO × LM)}, lt_ck (rM (rP M o g) o H V X) o 27 z = z := fun {g X z} => r_ck h.rp
  have p2 : ∀ {g : Nat → Option Nat} {X : Nat → Nat → Int32}, mP (rM (rP M o g) o H V X) o 2 = some (o + 2) := fun {g X} => r_p2 h
  have p1 : ∀ {g : Nat → Option Nat} {X : Nat → Nat → Int32}, mP (rM (rP M o g) o H V X) o 1 = some (o + 1) := fun {g X} => r_p1 h.rp
  unfold rG qKp qKX
  rw [e_X11_keepsAll, ck, rM_f, hX]
  by_cases c6 : c = 6
  · subst c6
    have n0 : (0 : Int32) = nI 0 := rfl
    have l0 : lt_n (nI 0) = 0 := by decide
    rw [if_pos (show nI 6 = (6 : Int32) from rfl), if_pos rfl, if_pos rfl, ck, p2, x_rf, n0, r_aa h (by omega), l0, rP_p (by omega), gP_lt (by omega), x_rf]
    exact r_keeps_18 d h hp 5 _ (Nat.le_refl _) (fun j => by rw [if_neg (by omega)]) hX
  · have e6 : ¬ nI c = (6 : Int32) := fun e => c6 ((lt_iE (j := c) (k := 6) (by omega) (by omega)).mp e)
    have lc : lt_n (nI c) = c := lt_iN (by omega)
    have hpc := hp.1 c (by omega)
    have hs : nI c + 1 = nI (c + 1) := lt_iA (j := c) (k := 1)
    rw [if_neg e6, if_neg c6, if_neg c6, ck, p1, x_rf, ck, p2, x_rf, ck, r_aa h (by omega), lc, rP_p (by omega), gP_lt (by omega), x_rf, r_cp h hpc, ck, ck, x_m, rM_wf, rM_f]
    have e3 : (u1 X (3 + p c) (fun i => if i < 12896 then rowS H V i else X (3 + p c) i)) 0 3 = nI c := by
      unfold u1
      rw [if_neg (by omega)]
      exact hX
    rw [e3, hs]
    rfl
theorem PA.rot (h : PA p) : PA (qRot p) := by
  refine ⟨fun j hj => ?_, fun i j hi hj e => ?_⟩
  · unfold qRot
    split
    · exact h.1 _ (by omega)
    · split
      · exact h.1 _ (by omega)
      · exact h.1 _ hj
  · unfold qRot at e
    have hij := h.2
    by_cases a : i < 5
    · rw [if_pos a] at e
      by_cases b : j < 5
      · rw [if_pos b] at e
        have := hij _ _ (by omega) (by omega) e
        omega
      · rw [if_neg b, if_pos (by omega)] at e
        have := hij _ _ (by omega) (by omega) e
        omega
    · rw [if_neg a, if_pos (by omega)] at e
      by_cases b : j < 5
      · rw [if_pos b] at e
        have := hij _ _ (by omega) (by omega) e
        omega
      · omega
theorem PA.kp (h : PA p) : PA (qKp p c) := by
  unfold qKp
  split
  · exact h.rot
  · exact h
/-- begins() -/
def qBX (p : Nat → Nat) (c : Nat) (X : Nat → Nat → Int32) (H : Nat → Int32) (V : Nat → Nat → Int32) : Nat → Nat → Int32 := u2 (u2 (qKX p c X (rowS H V)) 0 18 0) 0 4 (H 0)
theorem r_begins (d : Nat) (h : RA M o) (hp : PA p) (hc : c ≤ 6) (hX : X 0 3 = nI c) : f_X11_begins (d + 2) (rG M o p H V X) o = some (.inl none, rG M o (qKp p c) H V (qBX p c X H V)) := by
  have e1 := r_keepsAll (M := M) (o := o) (H := H) (V := V) d h hp hc hX
  have hr := h.rp (g := (gP o (qKp p c)))
  have hr0 := h.rp (g := (gP o p))
  unfold rG at e1 ⊢
  rw [e_X11_begins]
  simp (maxSteps := 1000000) (disch := first | assumption | omega) only [x_rf, x_m, lt_bv_r, lt_bi_r, lt_bl_r, ↓r_ck, r_get, r_put, r_more, rM_h, rM_f, rM_x, rM_wf, rM_wx, rM_wh, lt_iN, lt_b1_0, lt_b1_1, x_if1, x_eq1, x_10, x_01, x_11, x_00, ↓reduceIte, r_nz, r_ar1L0, r_ar1L1, lt_n0_, lt_n1_, upd_s, upd_o, u2_eq, u2_n1, u2_n2, r_p1, r_p5, r_p6, r_p7, r_p9, r_p10, r_p11, r_p13, r_p19, r_p23, r_p26, r_p27, r_p32, r_p33, r_p34, r_ar1, r_ar9, r_ar10, r_ar11, r_ar12, r_ar13, r_ar14, r_ar15, r_ar16, r_ar17, r_ar18, r_ar19, r_ar74, r_ar75, r_ar76, n2_, n4_, n12_, n24_, n28_, n50_, n54_, n76_, n80_, n102_, n128_, n154_, n180_, n206_, n232_, n258_, n284_, n310_, n336_, n362_, n380_, n680_, r_get0, r_get1, r_get2, r_get3, r_get4, r_get8, r_get9, r_get10, r_get11, r_get12, r_get13, r_put0, r_put1, r_put2, r_put3, r_put4, r_put5, r_put6, r_put7, r_put8, r_put9, r_put10, r_put11, r_more10, r_more12, r_more13, r_more14, r_more15, r_more16, r_more17, r_more18, r_more19, r_more20, e1]
  rfl
/-- the row as it was kept comes back -/
def qUH (X : Nat → Nat → Int32) (q : Nat) (H : Nat → Int32) : Nat → Int32 := fun i => if i < 980 then X (3 + q) i else H i
def qUV (X : Nat → Nat → Int32) (q : Nat) (V : Nat → Nat → Int32) : Nat → Nat → Int32 := fun u w => if u < 18 then X (3 + q) (980 + 662 * u + w) else V u w
theorem r_cpb (h : RA M o) (hq : q < 6) {K : LM → Option (LO × LM)} : lt_cp (rM (rP M o g) o H V X) (o + 3 + q) (o + 1) 0 0 12896 K = K (rM (rP M o g) o (qUH X q H) (qUV X q V) X) := by
  have a1 := (h.rA (H := H) (V := V) (X := X))
  have h3 := h.2.2.2.2.2.2.2.2.2.2.1 q hq
  have k1 : mK (rM (rP M o g) o H V X) (o + 1) = 1 := a1.2.2.1
  have k2 : mZ (rM (rP M o g) o H V X) (o + 1) = 12896 := a1.2.2.2
  have k3 : mK (rM (rP M o g) o H V X) (o + 3 + q) = 1 := h3.1
  have k4 : mZ (rM (rP M o g) o H V X) (o + 3 + q) = 12896 := h3.2
  have n0 : (0 : Int32).toInt = 0 := rfl
  have n1 : (12896 : Int32).toInt = 12896 := by decide
  have n2 : (0 : Int32).toNatClampNeg = 0 := rfl
  have n3 : (12896 : Int32).toNatClampNeg = 12896 := by decide
  unfold lt_cp
  rw [if_pos ⟨by omega, by omega, by omega, by omega, by rw [k4]; omega, by rw [k2]; omega⟩, if_pos ⟨k3, k1⟩, n2, n3, rM_row, show o + 3 + q = o + (3 + q) by omega, show mI (rM (rP M o g) o H V X) (o + (3 + q)) = X (3 + q) from funext fun j => rM_x (by omega) (by omega)]
  congr 1
  refine Prod.ext (funext fun b => funext fun i => ?_) rfl
  show (u1 (mI (rM (rP M o g) o H V X)) (o + 1) (va_cpy (X (3 + q)) (rowS H V) 0 0 12896)) b i = mI (rM (rP M o g) o (qUH X q H) (qUV X q V) X) b i
  unfold u1 va_cpy
  by_cases hb : b = o + 1
  · subst hb
    rw [if_pos rfl, rM_row]
    unfold rowS qUH qUV
    by_cases hi : i < 12896
    · rw [if_pos (by omega), Nat.sub_zero, Nat.zero_add]
      by_cases hj : i < 980
      · rw [if_pos hj, if_pos hj]
      · rw [if_neg hj, if_pos (by omega), show 980 + 662 * ((i - 980) / 662) + (i - 980) % 662 = i by omega]
    · rw [if_neg (by omega), if_neg (show ¬ i < 980 by omega), if_neg (show ¬ i < 980 by omega), if_neg (by omega)]
  · rw [if_neg hb]
    show (if b = o + 1 then _ else _) = (if b = o + 1 then _ else _)
    rw [if_neg hb, if_neg hb]
end Rr
