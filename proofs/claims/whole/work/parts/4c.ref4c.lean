/-! THE REFERENCE: requests, drawn requests, the row cleared -/
/-- what holds of heads, keys, units between calls -/
def RS (H : Nat → Int32) (kf : Nat → Nat) (n : Nat) (V : Nat → Nat → Int32) (fs : Nat → Nat) : Prop :=
  RH H ∧ RK H kf n ∧ n ≤ 300 ∧ H 0 = nI n ∧ ∀ u, u < 18 → fs u ≤ n ∧ V u 9 = nI (fs u) ∧ (∃ r, r < 7 ∧ V u 0 = nI r) ∧ (6 ≤ u → V u 0 ≠ 6)
def kfA (kf : Nat → Nat) (n x : Nat) : Nat → Nat := fun i => if i = n then x else kf i
def qW (w : Int32) : Int32 := if w = 0 then 0 else 1
def qNext (x : Int32) : Int32 := x * 1103515245 + 12345
def qDr (x m : Int32) : Int32 := lt_us x 16 - lt_us x 16 / m * m
/-- requests drawn -/
def qDrawN (fs : Nat → Nat) (keys writes : Int32) : Nat → Int32 → (Nat → Int32) → (Nat → Nat) → Nat → (Nat → Nat → Int32) → Int32 → Option (Int32 × (Nat → Int32) × (Nat → Nat) × Nat × (Nat → Nat → Int32) × Int32)
  | 0, x, H, kf, n, V, z => some (x, H, kf, n, V, z)
  | m + 1, x, H, kf, n, V, z =>
    let k := lt_n (qDr (qNext x) keys)
    let w := if qDr (qNext (qNext x)) 100 < writes then (1 : Int32) else 0
    match qFeedV (qAsk H n k w) (kfA kf n k) fs n 6 0 V with
    | none => none
    | some (b, V') => qDrawN fs keys writes m (qNext (qNext x)) (qAsk H n k w) (kfA kf n k) (n + 1) V' (z + pPop b)
section Rt
variable {M M' : LM} {o i j k u w y f t c q n x : Nat} {H : Nat → Int32} {V V' X : Nat → Nat → Int32} {S : Nat → Int32} {p : Nat → Nat} {g : Nat → Option Nat} {v a b e : Int32} {z : Option (LO × LM)} {kf fs : Nat → Nat}
theorem qFeedV_lo : ∀ (n : Nat) (bits b : Int32) (V V' : Nat → Nat → Int32), qFeedV H kf fs i n bits V = some (b, V') → ∀ u w, w < 10 → V' u w = V u w
  | 0, bits, b, V, V', e, u, w, hw => by cases e; rfl
  | n + 1, bits, b, V, V', e, u, w, hw => by
    unfold qFeedV at e
    split at e
    · cases e
    · rename_i V1 h1
      rw [qFeedV_lo n _ _ _ _ e u w hw, qFeedC_lo h1 u w hw]
theorem RS.ask (h : RS H kf n V fs) (hn : n < 300) (hx : x < 26) {w : Int32} (e : qFeedV (qAsk H n x w) (kfA kf n x) fs n 6 0 V = some (b, V')) : RS (qAsk H n x w) (kfA kf n x) (n + 1) V' fs := by
  obtain ⟨h1, h2, h3, h4, h5⟩ := h
  refine ⟨fun k hk => ?_, fun j hj => ?_, by omega, upd_s, fun u hu => ?_⟩
  · have := h1 k hk
    unfold qAsk
    simp (disch := omega) only [upd_o]
    exact this
  · unfold qAsk kfA
    by_cases q : j = n
    · subst q
      rw [if_pos rfl]
      simp (disch := omega) only [upd_o, upd_s]
      exact ⟨hx, trivial⟩
    · rw [if_neg q]
      simp (disch := omega) only [upd_o]
      exact h2 j (by omega)
  · have := h5 u hu
    rw [qFeedV_lo _ _ _ _ _ e u 9 (by omega), qFeedV_lo _ _ _ _ _ e u 0 (by omega)]
    exact ⟨by omega, this.2⟩
theorem r_ask2 (d : Nat) (h : RA M o) (hS : RS H kf n V fs) (hn : n < 300) (hx : x < 26) {w : Int32} (e : qFeedV (qAsk H n x (qW w)) (kfA kf n x) fs n 6 0 V = some (b, V')) :
    ∃ X', XT X X' ∧ X' 0 4 = nI (n + 1) ∧ f_X11_asks (d + 11) (rM M o H V X) o (nI x) w = some (.inl (some (.int b)), rM M o (qAsk H n x (qW w)) V' X') := by
  obtain ⟨h1, h2, h3, h4, h5⟩ := hS
  exact r_asks (M := M) (o := o) d h hn h4 hx h1 h2 h5 e
theorem r_request (d : Nat) (h : RA M o) (hp : PA p) (hc : c ≤ 6) (hX : X 0 3 = nI c) (hS : RS H kf n V fs) {key w : Int32} :
    (qIn key 0 25 = false → f_X11_request (d + 12) (rG M o p H V X) o key w = some (.inl (some (.int 0)), rG M o p H V (qXe X 1))) ∧
    (qIn key 0 25 = true → n = 300 → f_X11_request (d + 12) (rG M o p H V X) o key w = some (.inl (some (.int 0)), rG M o p H V (qXe X 2))) ∧
    (qIn key 0 25 = true → n < 300 → qFeedV (qAsk H n (lt_n key) (qW w)) (kfA kf n (lt_n key)) fs n 6 0 V = some (b, V') → ∃ X', XT (qBX p c (qX0 X) H V) X' ∧ X' 0 4 = nI (n + 1) ∧
      f_X11_request (d + 12) (rG M o p H V X) o key w = some (.inl (some (.int b)), rG M o (qKp p c) (qAsk H n (lt_n key) (qW w)) V' X')) := by
  have hr0 := h.rp (g := (gP o p))
  have hr := h.rp (g := (gP o (qKp p c)))
  have eb := r_begins (M := M) (o := o) (H := H) (V := V) (X := qX0 X) (d + 9) h hp hc (show qX0 X 0 3 = nI c from (u2_n2 (by omega)).trans hX)
  have h0 := hS.2.2.2.1
  unfold rG at eb ⊢
  unfold qX0 at eb
  rw [e_X11_request]
  refine ⟨fun hq => ?_, fun hq hn => ?_, fun hq hn e => ?_⟩
  · simp (maxSteps := 1000000) (disch := first | assumption | omega) only [x_rf, x_m, lt_bv_r, lt_bi_r, lt_bl_r, ↓r_ck, r_get, r_put, r_more, rM_h, rM_f, rM_x, rM_wf, rM_wx, rM_wh, lt_iN, lt_b1_0, lt_b1_1, x_if1, x_eq1, x_10, x_01, x_11, x_00, ↓reduceIte, r_nz, r_ar1L0, r_ar1L1, lt_n0_, lt_n1_, upd_s, upd_o, u2_eq, u2_n1, u2_n2, r_p1, r_p5, r_p6, r_p7, r_p9, r_p10, r_p11, r_p13, r_p19, r_p23, r_p26, r_p27, r_p32, r_p33, r_p34, r_ar1, r_ar9, r_ar10, r_ar11, r_ar12, r_ar13, r_ar14, r_ar15, r_ar16, r_ar17, r_ar18, r_ar19, r_ar74, r_ar75, r_ar76, n2_, n4_, n12_, n24_, n28_, n50_, n54_, n76_, n80_, n102_, n128_, n154_, n180_, n206_, n232_, n258_, n284_, n310_, n336_, n362_, n380_, n680_, r_get0, r_get1, r_get2, r_get3, r_get4, r_get8, r_get9, r_get10, r_get11, r_get12, r_get13, r_put0, r_put1, r_put2, r_put3, r_put4, r_put5, r_put6, r_put7, r_put8, r_put9, r_put10, r_put11, r_more10, r_more12, r_more13, r_more14, r_more15, r_more16, r_more17, r_more18, r_more19, r_more20, r_in, r_no, r_no0, r_no1, bI_t, bI_f, bI0, Bool.not_true, Bool.not_false, hq]
    rfl
  · have hl : ¬ nI n < (300 : Int32) := fun e => by have := (lt_iL (j := n) (k := 300) (by omega) (by omega)).mp e; omega
    simp (maxSteps := 1000000) (disch := first | assumption | omega) only [x_rf, x_m, lt_bv_r, lt_bi_r, lt_bl_r, ↓r_ck, r_get, r_put, r_more, rM_h, rM_f, rM_x, rM_wf, rM_wx, rM_wh, lt_iN, lt_b1_0, lt_b1_1, x_if1, x_eq1, x_10, x_01, x_11, x_00, ↓reduceIte, r_nz, r_ar1L0, r_ar1L1, lt_n0_, lt_n1_, upd_s, upd_o, u2_eq, u2_n1, u2_n2, r_p1, r_p5, r_p6, r_p7, r_p9, r_p10, r_p11, r_p13, r_p19, r_p23, r_p26, r_p27, r_p32, r_p33, r_p34, r_ar1, r_ar9, r_ar10, r_ar11, r_ar12, r_ar13, r_ar14, r_ar15, r_ar16, r_ar17, r_ar18, r_ar19, r_ar74, r_ar75, r_ar76, n2_, n4_, n12_, n24_, n28_, n50_, n54_, n76_, n80_, n102_, n128_, n154_, n180_, n206_, n232_, n258_, n284_, n310_, n336_, n362_, n380_, n680_, r_get0, r_get1, r_get2, r_get3, r_get4, r_get8, r_get9, r_get10, r_get11, r_get12, r_get13, r_put0, r_put1, r_put2, r_put3, r_put4, r_put5, r_put6, r_put7, r_put8, r_put9, r_put10, r_put11, r_more10, r_more12, r_more13, r_more14, r_more15, r_more16, r_more17, r_more18, r_more19, r_more20, r_in, r_no, r_no0, r_no1, bI_t, bI_f, bI0, Bool.not_true, Bool.not_false, hq, h0, hl]
    rfl
  · have hl : nI n < (300 : Int32) := (lt_iL (j := n) (k := 300) (by omega) (by omega)).mpr hn
    obtain ⟨k, hk, rfl⟩ := qIn_k hq
    rw [lt_iN (by omega)] at e ⊢
    obtain ⟨X', a1, a2, a3⟩ := r_ask2 (M := rP M o (gP o (qKp p c))) (o := o) (X := qBX p c (qX0 X) H V) d hr hS hn hk e
    refine ⟨X', a1, a2, ?_⟩
    unfold qX0 at a3
    simp (maxSteps := 1000000) (disch := first | assumption | omega) only [x_rf, x_m, lt_bv_r, lt_bi_r, lt_bl_r, ↓r_ck, r_get, r_put, r_more, rM_h, rM_f, rM_x, rM_wf, rM_wx, rM_wh, lt_iN, lt_b1_0, lt_b1_1, x_if1, x_eq1, x_10, x_01, x_11, x_00, ↓reduceIte, r_nz, r_ar1L0, r_ar1L1, lt_n0_, lt_n1_, upd_s, upd_o, u2_eq, u2_n1, u2_n2, r_p1, r_p5, r_p6, r_p7, r_p9, r_p10, r_p11, r_p13, r_p19, r_p23, r_p26, r_p27, r_p32, r_p33, r_p34, r_ar1, r_ar9, r_ar10, r_ar11, r_ar12, r_ar13, r_ar14, r_ar15, r_ar16, r_ar17, r_ar18, r_ar19, r_ar74, r_ar75, r_ar76, n2_, n4_, n12_, n24_, n28_, n50_, n54_, n76_, n80_, n102_, n128_, n154_, n180_, n206_, n232_, n258_, n284_, n310_, n336_, n362_, n380_, n680_, r_get0, r_get1, r_get2, r_get3, r_get4, r_get8, r_get9, r_get10, r_get11, r_get12, r_get13, r_put0, r_put1, r_put2, r_put3, r_put4, r_put5, r_put6, r_put7, r_put8, r_put9, r_put10, r_put11, r_more10, r_more12, r_more13, r_more14, r_more15, r_more16, r_more17, r_more18, r_more19, r_more20, r_in, r_no, r_no0, r_no1, bI_t, bI_f, bI0, Bool.not_true, Bool.not_false, hq, h0, hl, eb, a3]
theorem us16 {x : Int32} : ∃ m, m < 65536 ∧ lt_us x 16 = nI m := by
  have e1 : lt_us x 16 = (x.toUInt32 >>> (16 : UInt32)).toInt32 := rfl
  have e2 : (x.toUInt32 >>> (16 : UInt32)).toNat = x.toUInt32.toNat >>> 16 := UInt32.toNat_shiftRight ..
  have e3 := x.toUInt32.toNat_lt
  rw [Nat.shiftRight_eq_div_pow] at e2
  refine ⟨(x.toUInt32 >>> (16 : UInt32)).toNat, by rw [e2]; omega, ?_⟩
  rw [e1, ← Int32.toBitVec_inj]
  show (x.toUInt32 >>> (16 : UInt32)).toBitVec = BitVec.ofNat 32 (x.toUInt32 >>> (16 : UInt32)).toBitVec.toNat
  rw [BitVec.ofNat_toNat, BitVec.setWidth_eq]
theorem nI_div {a m : Nat} (ha : a < 2147483648) (hm : m < 2147483648) : nI a / nI m = nI (a / m) := by
  have h := Nat.div_le_self a m
  rw [← Int32.toInt_inj, Int32.toInt_div, lt_iT ha, lt_iT hm, lt_iT (by omega)]
  rw [show ((a : Int).tdiv (m : Int)) = ((a / m : Nat) : Int) from rfl]
  have h0 : (0 : Int) ≤ ((a / m : Nat) : Int) := Int.natCast_nonneg _
  have h1 : ((a / m : Nat) : Int) ≤ (a : Int) := Int.ofNat_le.mpr h
  exact Int.bmod_eq_of_le (by omega) (by omega)
theorem qDr_n {x : Int32} {m : Nat} (hm : 0 < m) (hm2 : m < 65536) : ∃ k, k < m ∧ qDr x (nI m) = nI k := by
  obtain ⟨a, ha, e⟩ := us16 (x := x)
  refine ⟨a % m, Nat.mod_lt _ hm, ?_⟩
  have h1 := Nat.div_add_mod a m
  have h2 : a / m * m + a % m = a := by rw [Nat.mul_comm]; exact h1
  unfold qDr
  rw [e, nI_div (by omega) (by omega), lt_iM, show nI a = nI (a % m) + nI (a / m * m) by rw [lt_iA]; congr 1; omega]
  exact Int32.add_sub_cancel ..
theorem r_draws (d : Nat) (h : RA M o) (hm : v ≠ 0) : f_X11_draws (d + 1) (rM M o H V X) o v = some (.inl (some (.int (qDr (qNext (X 0 25)) v))), rM M o H V (u2 X 0 25 (qNext (X 0 25)))) := by
  rw [e_X11_draws]
  simp (maxSteps := 1000000) (disch := first | assumption | omega) only [x_rf, x_m, lt_bv_r, lt_bi_r, lt_bl_r, ↓r_ck, r_get, r_put, r_more, rM_h, rM_f, rM_x, rM_wf, rM_wx, rM_wh, lt_iN, lt_b1_0, lt_b1_1, x_if1, x_eq1, x_10, x_01, x_11, x_00, ↓reduceIte, r_nz, r_ar1L0, r_ar1L1, lt_n0_, lt_n1_, upd_s, upd_o, u2_eq, u2_n1, u2_n2, r_p1, r_p5, r_p6, r_p7, r_p9, r_p10, r_p11, r_p13, r_p19, r_p23, r_p26, r_p27, r_p32, r_p33, r_p34, r_ar1, r_ar9, r_ar10, r_ar11, r_ar12, r_ar13, r_ar14, r_ar15, r_ar16, r_ar17, r_ar18, r_ar19, r_ar74, r_ar75, r_ar76, n2_, n4_, n12_, n24_, n28_, n50_, n54_, n76_, n80_, n102_, n128_, n154_, n180_, n206_, n232_, n258_, n284_, n310_, n336_, n362_, n380_, n680_, r_get0, r_get1, r_get2, r_get3, r_get4, r_get8, r_get9, r_get10, r_get11, r_get12, r_get13, r_put0, r_put1, r_put2, r_put3, r_put4, r_put5, r_put6, r_put7, r_put8, r_put9, r_put10, r_put11, r_more10, r_more12, r_more13, r_more14, r_more15, r_more16, r_more17, r_more18, r_more19, r_more20]
  rfl
theorem XT.w25 {X X' : Nat → Nat → Int32} (h : XT X X') : X' 0 25 = X 0 25 := h.2 25 (by omega) (by omega)
/-- what drawing changes of the other cells too -/
def XD (X X' : Nat → Nat → Int32) : Prop := (∀ t, t ≠ 0 → (t < 9 ∨ 13 < t) → X' t = X t) ∧ ∀ j, j ≠ 8 → j ≠ 4 → j ≠ 25 → X' 0 j = X 0 j
theorem XD.of {X X' : Nat → Nat → Int32} (h : XT X X') : XD X X' := ⟨h.1, fun j a b _ => h.2 j a b⟩
theorem XD.trans {X X' X'' : Nat → Nat → Int32} (h1 : XD X X') (h2 : XD X' X'') : XD X X'' := ⟨fun t a b => (h2.1 t a b).trans (h1.1 t a b), fun j a b c => (h2.2 j a b c).trans (h1.2 j a b c)⟩
theorem XD.wr {X : Nat → Nat → Int32} : XD X (u2 X 0 25 v) := ⟨fun t' a b => funext fun i => if_neg (by omega), fun i a b c => if_neg (by omega)⟩
theorem XD.refl {X : Nat → Nat → Int32} : XD X X := ⟨fun _ _ _ => rfl, fun _ _ _ _ => rfl⟩
theorem r_draw_93 (d : Nat) (h : RA M o) {keys : Nat} {writes : Int32} (hk0 : 0 < keys) (hk : keys ≤ 26) {many : Nat} (hmany : many < 100) : ∀ (m : Nat) (x : Int32) (H : Nat → Int32) (kf : Nat → Nat) (n : Nat) (V X : Nat → Nat → Int32) (z : Int32), m ≤ many → n + m ≤ 300 → RS H kf n V fs → X 0 25 = x → X 0 4 = nI n →
    ∀ (x' : Int32) (H' : Nat → Int32) (kf' : Nat → Nat) (n' : Nat) (V' : Nat → Nat → Int32) (z' : Int32), qDrawN fs (nI keys) writes m x H kf n V z = some (x', H', kf', n', V', z') →
    ∃ X', XD X X' ∧ X' 0 4 = nI n' ∧ RS H' kf' n' V' fs ∧ n' = n + m ∧ f_X11_draw_93 (d + 12) (rM M o H V X) o (nI many) (nI keys) writes z (nI (many - m)) = some (.inl (some (.int z')), rM M o H' V' X')
  | 0, x, H, kf, n, V, X, z, hm, hn, hS, hx, h4 => fun x' H' kf' n' V' z' e => by
    cases e
    refine ⟨X, XD.refl, h4, hS, rfl, ?_⟩
    rw [e_X11_draw_93, if_neg (fun e => by have := (lt_iL (j := many - 0) (k := many) (by omega) (by omega)).mp e; omega)]
  | m + 1, x, H, kf, n, V, X, z, hm, hn, hS, hx, h4 => fun x' H' kf' n' V' z' e => by
    have g1 : nI (many - (m + 1)) + 1 = nI (many - m) := by
      rw [show nI (many - (m + 1)) + 1 = nI (many - (m + 1) + 1) from lt_iA (j := many - (m + 1)) (k := 1)]
      congr 1
      omega
    have g3 : nI (many - (m + 1)) < nI many := (lt_iL (by omega) (by omega)).mpr (by omega)
    unfold qDrawN at e
    dsimp only at e
    obtain ⟨k, hkk, ek⟩ := qDr_n (x := qNext x) (m := keys) hk0 (by omega)
    have hkey : nI keys ≠ 0 := fun e => by have := (lt_iE (j := keys) (k := 0) (by omega) (by omega)).mp e; omega
    have h100 : (100 : Int32) ≠ 0 := by decide
    rw [ek, lt_iN (by omega)] at e
    split at e
    · cases e
    · rename_i b V1 h1
      have hkf : (if qDr (qNext (qNext x)) 100 < writes then (1 : Int32) else 0) = qW (if qDr (qNext (qNext x)) 100 < writes then (1 : Int32) else 0) := by
        unfold qW
        split <;> decide
      have h1' := h1
      rw [hkf] at h1'
      obtain ⟨X1, a1, a2, a3⟩ := r_ask2 (M := M) (o := o) (X := u2 (u2 X 0 25 (qNext x)) 0 25 (qNext (qNext x))) d h hS (by omega) (show k < 26 by omega) h1'
      rw [← hkf] at a3
      have hS1 := hS.ask (by omega) (show k < 26 by omega) h1
      have hx1 : X1 0 25 = qNext (qNext x) := a1.w25.trans u2_eq
      obtain ⟨X2, b1, b2, b3, b4, b5⟩ := r_draw_93 d h hk0 hk hmany m _ _ _ _ V1 X1 (z + pPop b) (by omega) (by omega) hS1 hx1 a2 _ _ _ _ _ _ e
      refine ⟨X2, ((XD.wr.trans XD.wr).trans (XD.of a1)).trans b1, b2, b3, by omega, ?_⟩
      rw [e_X11_draw_93, if_pos g3]
      simp (maxSteps := 1000000) (disch := first | assumption | omega) only [x_rf, x_m, lt_bv_r, lt_bi_r, lt_bl_r, ↓r_ck, r_get, r_put, r_more, rM_h, rM_f, rM_x, rM_wf, rM_wx, rM_wh, lt_iN, lt_b1_0, lt_b1_1, x_if1, x_eq1, x_10, x_01, x_11, x_00, ↓reduceIte, r_nz, r_ar1L0, r_ar1L1, lt_n0_, lt_n1_, upd_s, upd_o, u2_eq, u2_n1, u2_n2, r_p1, r_p5, r_p6, r_p7, r_p9, r_p10, r_p11, r_p13, r_p19, r_p23, r_p26, r_p27, r_p32, r_p33, r_p34, r_ar1, r_ar9, r_ar10, r_ar11, r_ar12, r_ar13, r_ar14, r_ar15, r_ar16, r_ar17, r_ar18, r_ar19, r_ar74, r_ar75, r_ar76, n2_, n4_, n12_, n24_, n28_, n50_, n54_, n76_, n80_, n102_, n128_, n154_, n180_, n206_, n232_, n258_, n284_, n310_, n336_, n362_, n380_, n680_, r_get0, r_get1, r_get2, r_get3, r_get4, r_get8, r_get9, r_get10, r_get11, r_get12, r_get13, r_put0, r_put1, r_put2, r_put3, r_put4, r_put5, r_put6, r_put7, r_put8, r_put9, r_put10, r_put11, r_more10, r_more12, r_more13, r_more14, r_more15, r_more16, r_more17, r_more18, r_more19, r_more20, r_draws, hx, ek]
      by_cases hw : qDr (qNext (qNext x)) 100 < writes
      · rw [if_pos hw] at a3 ⊢
        simp (maxSteps := 1000000) (disch := first | assumption | omega) only [x_rf, x_m, lt_bv_r, lt_bi_r, lt_bl_r, ↓r_ck, r_get, r_put, r_more, rM_h, rM_f, rM_x, rM_wf, rM_wx, rM_wh, lt_iN, lt_b1_0, lt_b1_1, x_if1, x_eq1, x_10, x_01, x_11, x_00, ↓reduceIte, r_nz, r_ar1L0, r_ar1L1, lt_n0_, lt_n1_, upd_s, upd_o, u2_eq, u2_n1, u2_n2, r_p1, r_p5, r_p6, r_p7, r_p9, r_p10, r_p11, r_p13, r_p19, r_p23, r_p26, r_p27, r_p32, r_p33, r_p34, r_ar1, r_ar9, r_ar10, r_ar11, r_ar12, r_ar13, r_ar14, r_ar15, r_ar16, r_ar17, r_ar18, r_ar19, r_ar74, r_ar75, r_ar76, n2_, n4_, n12_, n24_, n28_, n50_, n54_, n76_, n80_, n102_, n128_, n154_, n180_, n206_, n232_, n258_, n284_, n310_, n336_, n362_, n380_, n680_, r_get0, r_get1, r_get2, r_get3, r_get4, r_get8, r_get9, r_get10, r_get11, r_get12, r_get13, r_put0, r_put1, r_put2, r_put3, r_put4, r_put5, r_put6, r_put7, r_put8, r_put9, r_put10, r_put11, r_more10, r_more12, r_more13, r_more14, r_more15, r_more16, r_more17, r_more18, r_more19, r_more20, a3, c_pop, g1]
        rw [if_pos hw] at b5
        exact b5
      · rw [if_neg hw] at a3 ⊢
        simp (maxSteps := 1000000) (disch := first | assumption | omega) only [x_rf, x_m, lt_bv_r, lt_bi_r, lt_bl_r, ↓r_ck, r_get, r_put, r_more, rM_h, rM_f, rM_x, rM_wf, rM_wx, rM_wh, lt_iN, lt_b1_0, lt_b1_1, x_if1, x_eq1, x_10, x_01, x_11, x_00, ↓reduceIte, r_nz, r_ar1L0, r_ar1L1, lt_n0_, lt_n1_, upd_s, upd_o, u2_eq, u2_n1, u2_n2, r_p1, r_p5, r_p6, r_p7, r_p9, r_p10, r_p11, r_p13, r_p19, r_p23, r_p26, r_p27, r_p32, r_p33, r_p34, r_ar1, r_ar9, r_ar10, r_ar11, r_ar12, r_ar13, r_ar14, r_ar15, r_ar16, r_ar17, r_ar18, r_ar19, r_ar74, r_ar75, r_ar76, n2_, n4_, n12_, n24_, n28_, n50_, n54_, n76_, n80_, n102_, n128_, n154_, n180_, n206_, n232_, n258_, n284_, n310_, n336_, n362_, n380_, n680_, r_get0, r_get1, r_get2, r_get3, r_get4, r_get8, r_get9, r_get10, r_get11, r_get12, r_get13, r_put0, r_put1, r_put2, r_put3, r_put4, r_put5, r_put6, r_put7, r_put8, r_put9, r_put10, r_put11, r_more10, r_more12, r_more13, r_more14, r_more15, r_more16, r_more17, r_more18, r_more19, r_more20, a3, c_pop, g1]
        rw [if_neg hw] at b5
        exact b5
end Rt
