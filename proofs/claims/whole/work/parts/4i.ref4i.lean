/-! THE REFERENCE: what is asked of the row: distances, phases, plays -/
/-- the next request from one on that asks a key: n if there is none; m: how many are left -/
def nextTo (kf : Nat → Nat) (n k : Nat) : Nat → Nat
  | 0 => n
  | m + 1 => if kf (n - (m + 1)) = k then n - (m + 1) else nextTo kf n k m
def qLastZ (kf : Nat → Nat) (k t : Nat) : Nat := match lastTo kf k 0 t with
  | none => 0
  | some i => i
/-- whether one key goes ahead of another, behind the requests ahead of i -/
def qGA (kf : Nat → Nat) (n : Nat) (rule : Int32) (came : Nat → Int32) (i one other : Nat) : Bool :=
  if rule = 2 then decide (came one < came other) else
  if rule = -1 then (decide (nextTo kf n other (n - i) < nextTo kf n one (n - i)) || (decide (nextTo kf n other (n - i) = nextTo kf n one (n - i)) && decide (other < one))) else
  if rule = 1 ∧ cntTo kf one 0 i ≠ cntTo kf other 0 i then decide (cntTo kf one 0 i < cntTo kf other 0 i) else decide (qLastZ kf one i < qLastZ kf other i)
/-- a play: hits, how many held, which, since when, the one put out last -/
def qPlay1 (kf : Nat → Nat) (n : Nat) (rule : Int32) (size i : Nat) (s : Nat × Nat × (Nat → Bool) × (Nat → Int32) × Option Nat) : Nat × Nat × (Nat → Bool) × (Nat → Int32) × Option Nat :=
  if s.2.2.1 (kf i) = true then (s.1 + 1, s.2.1, s.2.2.1, s.2.2.2.1, none) else
  if s.2.1 = size then (s.1, s.2.1, (fun k => if k = kf i then true else if qFst s.2.2.1 (qGA kf n rule s.2.2.2.1 i) 26 none = some k then false else s.2.2.1 k), upd s.2.2.2.1 (kf i) (nI i), qFst s.2.2.1 (qGA kf n rule s.2.2.2.1 i) 26 none) else
  (s.1, s.2.1 + 1, (fun k => if k = kf i then true else s.2.2.1 k), upd s.2.2.2.1 (kf i) (nI i), none)
def qPlays (kf : Nat → Nat) (n : Nat) (rule : Int32) (size t : Nat) : Nat → (Nat × Nat × (Nat → Bool) × (Nat → Int32) × Option Nat) → (Nat × Nat × (Nat → Bool) × (Nat → Int32) × Option Nat)
  | 0, s => s
  | m + 1, s => qPlays kf n rule size t m (qPlay1 kf n rule size (t - (m + 1)) s)
/-- what plays change of the other cells -/
def XQ (X X' : Nat → Nat → Int32) : Prop := (∀ t, t ≠ 0 → t ≠ 18 → t ≠ 19 → X' t = X t) ∧ ∀ j, j ≠ 28 → j ≠ 29 → X' 0 j = X 0 j
def qDist (kf : Nat → Nat) (x : Nat) : Nat → Int32 → Int32
  | 0, _ => -1
  | j + 1, set => if kf j = x then 1 + pPop set else qDist kf x j (set ||| bb (kf j))
section Rz
variable {M M' : LM} {o i j k u w y f t c q n x m size : Nat} {H : Nat → Int32} {V V' X : Nat → Nat → Int32} {S U W A came : Nat → Int32} {v a b e r rule : Int32} {z : Option (LO × LM)} {kf fs : Nat → Nat} {lt : Nat → Nat → Bool}
theorem XQ.refl : XQ X X := ⟨fun _ _ _ _ => rfl, fun _ _ _ => rfl⟩
theorem XQ.trans {X' X'' : Nat → Nat → Int32} (h1 : XQ X X') (h2 : XQ X' X'') : XQ X X'' := ⟨fun t a b c => (h2.1 t a b c).trans (h1.1 t a b c), fun j a b => (h2.2 j a b).trans (h1.2 j a b)⟩
theorem XQ.w18 : XQ X (u2 X 18 j v) := ⟨fun t' a b c => funext fun i => if_neg (by omega), fun i a b => if_neg (by omega)⟩
theorem XQ.w19 : XQ X (u2 X 19 j v) := ⟨fun t' a b c => funext fun i => if_neg (by omega), fun i a b => if_neg (by omega)⟩
theorem XQ.w28 : XQ X (u2 X 0 28 v) := ⟨fun t' a b c => funext fun i => if_neg (by omega), fun i a b => if_neg (by omega)⟩
theorem XQ.w29 : XQ X (u2 X 0 29 v) := ⟨fun t' a b c => funext fun i => if_neg (by omega), fun i a b => if_neg (by omega)⟩
theorem r_nextFor_2 (d : Nat) (h : RA M o) (hK : RK H kf n) (hn : n ≤ 300) (h0 : H 0 = nI n) (hk : k < 26) : ∀ (m : Nat), m ≤ n → f_X11_nextFor_2 (d + 1) (rM M o H V X) o (nI k) (nI (n - m)) = some (.inl (some (.int (nI (nextTo kf n k m)))), rM M o H V X)
  | 0, _ => by
    have hlt : ¬ nI n < nI n := by rw [nI_ltP (by omega) (by omega)]; omega
    rw [e_X11_nextFor_2, Nat.sub_zero]
    simp (maxSteps := 1000000) (disch := first | assumption | omega) only [x_rf, x_m, lt_bv_r, lt_bi_r, lt_bl_r, ↓r_ck, r_get, r_put, r_more, rM_h, rM_f, rM_x, rM_wf, rM_wx, rM_wh, lt_iN, lt_b1_0, lt_b1_1, x_if1, x_eq1, x_10, x_01, x_11, x_00, ↓reduceIte, r_nz, r_ar1L0, r_ar1L1, lt_n0_, lt_n1_, upd_s, upd_o, u2_eq, u2_n1, u2_n2, r_p1, r_p5, r_p6, r_p7, r_p9, r_p10, r_p11, r_p13, r_p19, r_p23, r_p26, r_p27, r_p32, r_p33, r_p34, r_ar1, r_ar9, r_ar10, r_ar11, r_ar12, r_ar13, r_ar14, r_ar15, r_ar16, r_ar17, r_ar18, r_ar19, r_ar74, r_ar75, r_ar76, n2_, n4_, n12_, n24_, n28_, n50_, n54_, n76_, n80_, n102_, n128_, n154_, n180_, n206_, n232_, n258_, n284_, n310_, n336_, n362_, n380_, n680_, r_get0, r_get1, r_get2, r_get3, r_get4, r_get8, r_get9, r_get10, r_get11, r_get12, r_get13, r_put0, r_put1, r_put2, r_put3, r_put4, r_put5, r_put6, r_put7, r_put8, r_put9, r_put10, r_put11, r_more10, r_more12, r_more13, r_more14, r_more15, r_more16, r_more17, r_more18, r_more19, r_more20, h0, hlt]
    rfl
  | m + 1, hm => by
    obtain ⟨hk2, hH⟩ := hK (n - (m + 1)) (by omega)
    have hlt : nI (n - (m + 1)) < nI n := by rw [nI_ltP (by omega) (by omega)]; omega
    have g2 : nI (n - (m + 1)) + 1 = nI (n - m) := by
      rw [show nI (n - (m + 1)) + 1 = nI (n - (m + 1) + 1) from lt_iA (j := n - (m + 1)) (k := 1)]
      congr 1
      omega
    have ih := r_nextFor_2 d h hK hn h0 hk m (by omega)
    rw [e_X11_nextFor_2]
    simp (maxSteps := 1000000) (disch := first | assumption | omega) only [x_rf, x_m, lt_bv_r, lt_bi_r, lt_bl_r, ↓r_ck, r_get, r_put, r_more, rM_h, rM_f, rM_x, rM_wf, rM_wx, rM_wh, lt_iN, lt_b1_0, lt_b1_1, x_if1, x_eq1, x_10, x_01, x_11, x_00, ↓reduceIte, r_nz, r_ar1L0, r_ar1L1, lt_n0_, lt_n1_, upd_s, upd_o, u2_eq, u2_n1, u2_n2, r_p1, r_p5, r_p6, r_p7, r_p9, r_p10, r_p11, r_p13, r_p19, r_p23, r_p26, r_p27, r_p32, r_p33, r_p34, r_ar1, r_ar9, r_ar10, r_ar11, r_ar12, r_ar13, r_ar14, r_ar15, r_ar16, r_ar17, r_ar18, r_ar19, r_ar74, r_ar75, r_ar76, n2_, n4_, n12_, n24_, n28_, n50_, n54_, n76_, n80_, n102_, n128_, n154_, n180_, n206_, n232_, n258_, n284_, n310_, n336_, n362_, n380_, n680_, r_get0, r_get1, r_get2, r_get3, r_get4, r_get8, r_get9, r_get10, r_get11, r_get12, r_get13, r_put0, r_put1, r_put2, r_put3, r_put4, r_put5, r_put6, r_put7, r_put8, r_put9, r_put10, r_put11, r_more10, r_more12, r_more13, r_more14, r_more15, r_more16, r_more17, r_more18, r_more19, r_more20, h0, hlt, hH, g2, ih, nI_inj]
    rw [show nextTo kf n k (m + 1) = if kf (n - (m + 1)) = k then n - (m + 1) else nextTo kf n k m from rfl]
    by_cases q : kf (n - (m + 1)) = k
    · simp only [q, if_true]
    · simp only [q, if_false]
theorem nextTo_le : ∀ (m : Nat), nextTo kf n k m ≤ n
  | 0 => Nat.le_refl _
  | m + 1 => by
    unfold nextTo
    split
    · omega
    · exact nextTo_le m
theorem r_nextFor (d : Nat) (h : RA M o) (hK : RK H kf n) (hn : n ≤ 300) (h0 : H 0 = nI n) (hk : k < 26) (hi : i ≤ n) : f_X11_nextFor (d + 1) (rM M o H V X) o (nI k) (nI i) = some (.inl (some (.int (nI (nextTo kf n k (n - i))))), rM M o H V X) := by
  have := r_nextFor_2 (M := M) (o := o) (V := V) (X := X) d h hK hn h0 hk (n - i) (by omega)
  rw [show n - (n - i) = i by omega] at this
  rw [e_X11_nextFor]
  exact this
theorem qLastZ_lt : qLastZ kf k i ≤ i := by
  unfold qLastZ
  split
  · omega
  · rename_i j h
    have := lastTo_lt _ h
    omega
theorem qLastZ_s : qLastZ kf k (i + 1) = if kf i = k then i else qLastZ kf k i := by
  unfold qLastZ
  rw [show lastTo kf k 0 (i + 1) = if 0 ≤ i ∧ kf i = k then some i else lastTo kf k 0 i from rfl]
  by_cases q : kf i = k
  · rw [if_pos ⟨by omega, q⟩, if_pos q]
  · rw [if_neg (fun e => q e.2), if_neg q]
theorem cntTo_s : cntTo kf k 0 (i + 1) = if kf i = k then cntTo kf k 0 i + 1 else cntTo kf k 0 i := by
  rw [show cntTo kf k 0 (i + 1) = if 0 ≤ i ∧ kf i = k then cntTo kf k 0 i + 1 else cntTo kf k 0 i from rfl]
  by_cases q : kf i = k
  · rw [if_pos ⟨by omega, q⟩, if_pos q]
  · rw [if_neg (fun e => q e.2), if_neg q]
theorem r_ga_89 (d : Nat) (h : RA M o) (hK : RK H kf n) (hn : n ≤ 300) {one other : Nat} (h1 : one < 26) (h2 : other < 26) (hne : one ≠ other) {i : Nat} (hi : i ≤ n) : ∀ (m t : Nat), t + m = i →
    f_X11_goesAhead_89 (d + 1) (rM M o H V X) o rule (nI one) (nI other) (nI i) (nI (cntTo kf one 0 t)) (nI (cntTo kf other 0 t)) (nI (qLastZ kf one t)) (nI (qLastZ kf other t)) (nI t) = some (.inl (some (.int (bI (if rule = 1 ∧ cntTo kf one 0 i ≠ cntTo kf other 0 i then decide (cntTo kf one 0 i < cntTo kf other 0 i) else decide (qLastZ kf one i < qLastZ kf other i))))), rM M o H V X)
  | 0, t, ht => by
    have e : t = i := by omega
    subst e
    have hlt : ¬ nI t < nI t := by rw [nI_ltP (by omega) (by omega)]; omega
    have c1 := cntTo_le (kf := kf) (k := one) (f := 0) t
    have c2 := cntTo_le (kf := kf) (k := other) (f := 0) t
    have l1 := qLastZ_lt (kf := kf) (k := one) (i := t)
    have l2 := qLastZ_lt (kf := kf) (k := other) (i := t)
    rw [e_X11_goesAhead_89, if_neg hlt]
    simp (maxSteps := 1000000) (disch := first | assumption | omega) only [x_rf, x_m, lt_bv_r, lt_bi_r, lt_bl_r, ↓r_ck, r_get, r_put, r_more, rM_h, rM_f, rM_x, rM_wf, rM_wx, rM_wh, lt_iN, lt_b1_0, lt_b1_1, x_if1, x_eq1, x_10, x_01, x_11, x_00, ↓reduceIte, r_nz, r_ar1L0, r_ar1L1, lt_n0_, lt_n1_, upd_s, upd_o, u2_eq, u2_n1, u2_n2, r_p1, r_p5, r_p6, r_p7, r_p9, r_p10, r_p11, r_p13, r_p19, r_p23, r_p26, r_p27, r_p32, r_p33, r_p34, r_ar1, r_ar9, r_ar10, r_ar11, r_ar12, r_ar13, r_ar14, r_ar15, r_ar16, r_ar17, r_ar18, r_ar19, r_ar74, r_ar75, r_ar76, n2_, n4_, n12_, n24_, n28_, n50_, n54_, n76_, n80_, n102_, n128_, n154_, n180_, n206_, n232_, n258_, n284_, n310_, n336_, n362_, n380_, n680_, r_get0, r_get1, r_get2, r_get3, r_get4, r_get8, r_get9, r_get10, r_get11, r_get12, r_get13, r_put0, r_put1, r_put2, r_put3, r_put4, r_put5, r_put6, r_put7, r_put8, r_put9, r_put10, r_put11, r_more10, r_more12, r_more13, r_more14, r_more15, r_more16, r_more17, r_more18, r_more19, r_more20, nI_inj, nI_ltP, x_res]
    by_cases r1 : rule = 1
    · by_cases r2 : cntTo kf one 0 t = cntTo kf other 0 t
      · simp [r1, r2, bI]
      · simp [r1, r2, bI]
    · simp [r1, bI]
  | m + 1, t, ht => by
    obtain ⟨hk, hH⟩ := hK t (by omega)
    have hlt : nI t < nI i := by rw [nI_ltP (by omega) (by omega)]; omega
    have hs : ∀ c, nI c + 1 = nI (c + 1) := fun c => lt_iA (j := c) (k := 1)
    have ih := r_ga_89 d h hK hn h1 h2 hne hi m (t + 1) (by omega)
    rw [cntTo_s, cntTo_s, qLastZ_s, qLastZ_s] at ih
    rw [e_X11_goesAhead_89, if_pos hlt]
    simp (maxSteps := 1000000) (disch := first | assumption | omega) only [x_rf, x_m, lt_bv_r, lt_bi_r, lt_bl_r, ↓r_ck, r_get, r_put, r_more, rM_h, rM_f, rM_x, rM_wf, rM_wx, rM_wh, lt_iN, lt_b1_0, lt_b1_1, x_if1, x_eq1, x_10, x_01, x_11, x_00, ↓reduceIte, r_nz, r_ar1L0, r_ar1L1, lt_n0_, lt_n1_, upd_s, upd_o, u2_eq, u2_n1, u2_n2, r_p1, r_p5, r_p6, r_p7, r_p9, r_p10, r_p11, r_p13, r_p19, r_p23, r_p26, r_p27, r_p32, r_p33, r_p34, r_ar1, r_ar9, r_ar10, r_ar11, r_ar12, r_ar13, r_ar14, r_ar15, r_ar16, r_ar17, r_ar18, r_ar19, r_ar74, r_ar75, r_ar76, n2_, n4_, n12_, n24_, n28_, n50_, n54_, n76_, n80_, n102_, n128_, n154_, n180_, n206_, n232_, n258_, n284_, n310_, n336_, n362_, n380_, n680_, r_get0, r_get1, r_get2, r_get3, r_get4, r_get8, r_get9, r_get10, r_get11, r_get12, r_get13, r_put0, r_put1, r_put2, r_put3, r_put4, r_put5, r_put6, r_put7, r_put8, r_put9, r_put10, r_put11, r_more10, r_more12, r_more13, r_more14, r_more15, r_more16, r_more17, r_more18, r_more19, r_more20, hH, nI_inj, hs]
    by_cases q1 : kf t = one
    · have q2 : ¬ kf t = other := fun e => hne (q1.symm.trans e)
      rw [if_pos q1, if_pos q1, if_neg q2, if_neg q2] at ih
      rw [if_pos q1]
      exact ih
    · by_cases q2 : kf t = other
      · rw [if_neg q1, if_neg q1, if_pos q2, if_pos q2] at ih
        rw [if_neg q1, if_pos q2]
        exact ih
      · rw [if_neg q1, if_neg q1, if_neg q2, if_neg q2] at ih
        rw [if_neg q1, if_neg q2]
        exact ih
theorem r_goesAhead (d : Nat) (h : RA M o) (hK : RK H kf n) (hn : n ≤ 300) (h0 : H 0 = nI n) {one other : Nat} (h1 : one < 26) (h2 : other < 26) (hne : one ≠ other) {i : Nat} (hi : i ≤ n) (hc : ∀ k, k < 26 → X 19 k = came k) :
    f_X11_goesAhead (d + 2) (rM M o H V X) o rule (nI one) (nI other) (nI i) = some (.inl (some (.int (bI (qGA kf n rule came i one other)))), rM M o H V X) := by
  have n1 := nextTo_le (kf := kf) (n := n) (k := other) (n - i)
  have n2 := nextTo_le (kf := kf) (n := n) (k := one) (n - i)
  rw [e_X11_goesAhead]
  unfold qGA
  by_cases r2 : rule = 2
  · rw [if_pos r2, if_pos r2]
    simp (maxSteps := 1000000) (disch := first | assumption | omega) only [x_rf, x_m, lt_bv_r, lt_bi_r, lt_bl_r, ↓r_ck, r_get, r_put, r_more, rM_h, rM_f, rM_x, rM_wf, rM_wx, rM_wh, lt_iN, lt_b1_0, lt_b1_1, x_if1, x_eq1, x_10, x_01, x_11, x_00, ↓reduceIte, r_nz, r_ar1L0, r_ar1L1, lt_n0_, lt_n1_, upd_s, upd_o, u2_eq, u2_n1, u2_n2, r_p1, r_p5, r_p6, r_p7, r_p9, r_p10, r_p11, r_p13, r_p19, r_p23, r_p26, r_p27, r_p32, r_p33, r_p34, r_ar1, r_ar9, r_ar10, r_ar11, r_ar12, r_ar13, r_ar14, r_ar15, r_ar16, r_ar17, r_ar18, r_ar19, r_ar74, r_ar75, r_ar76, n2_, n4_, n12_, n24_, n28_, n50_, n54_, n76_, n80_, n102_, n128_, n154_, n180_, n206_, n232_, n258_, n284_, n310_, n336_, n362_, n380_, n680_, r_get0, r_get1, r_get2, r_get3, r_get4, r_get8, r_get9, r_get10, r_get11, r_get12, r_get13, r_put0, r_put1, r_put2, r_put3, r_put4, r_put5, r_put6, r_put7, r_put8, r_put9, r_put10, r_put11, r_more10, r_more12, r_more13, r_more14, r_more15, r_more16, r_more17, r_more18, r_more19, r_more20, hc, x_res]
    simp only [bI, decide_eq_true_eq]
  · rw [if_neg r2, if_neg r2]
    by_cases r1 : rule = -1
    · rw [if_pos r1, if_pos r1]
      have e1 := r_nextFor (M := M) (o := o) (V := V) (X := X) d h hK hn h0 h2 hi
      have e2 := r_nextFor (M := M) (o := o) (V := V) (X := X) d h hK hn h0 h1 hi
      simp (maxSteps := 1000000) (disch := first | assumption | omega) only [x_rf, x_m, lt_bv_r, lt_bi_r, lt_bl_r, ↓r_ck, r_get, r_put, r_more, rM_h, rM_f, rM_x, rM_wf, rM_wx, rM_wh, lt_iN, lt_b1_0, lt_b1_1, x_if1, x_eq1, x_10, x_01, x_11, x_00, ↓reduceIte, r_nz, r_ar1L0, r_ar1L1, lt_n0_, lt_n1_, upd_s, upd_o, u2_eq, u2_n1, u2_n2, r_p1, r_p5, r_p6, r_p7, r_p9, r_p10, r_p11, r_p13, r_p19, r_p23, r_p26, r_p27, r_p32, r_p33, r_p34, r_ar1, r_ar9, r_ar10, r_ar11, r_ar12, r_ar13, r_ar14, r_ar15, r_ar16, r_ar17, r_ar18, r_ar19, r_ar74, r_ar75, r_ar76, n2_, n4_, n12_, n24_, n28_, n50_, n54_, n76_, n80_, n102_, n128_, n154_, n180_, n206_, n232_, n258_, n284_, n310_, n336_, n362_, n380_, n680_, r_get0, r_get1, r_get2, r_get3, r_get4, r_get8, r_get9, r_get10, r_get11, r_get12, r_get13, r_put0, r_put1, r_put2, r_put3, r_put4, r_put5, r_put6, r_put7, r_put8, r_put9, r_put10, r_put11, r_more10, r_more12, r_more13, r_more14, r_more15, r_more16, r_more17, r_more18, r_more19, r_more20, e1, e2, nI_ltP, nI_inj, x_res]
      by_cases a : nextTo kf n other (n - i) < nextTo kf n one (n - i)
      · simp [a, bI]
      · by_cases b : nextTo kf n other (n - i) = nextTo kf n one (n - i)
        · simp [b, bI]
        · simp [a, b, bI]
    · rw [if_neg r1, if_neg r1]
      have := r_ga_89 (M := M) (o := o) (H := H) (V := V) (X := X) (kf := kf) (rule := rule) (d + 1) h hK hn h1 h2 hne hi i 0 (by omega)
      exact this
theorem r_plays_90 (d : Nat) (h : RA M o) (hK : RK H kf n) (hn : n ≤ 300) (h0 : H 0 = nI n) {i : Nat} (hi : i ≤ n) (hx : x < 26) {th : Nat → Bool} {x2 x3 x4 : Int32} : ∀ (n' : Nat) (b : Option Nat) (X : Nat → Nat → Int32), n' ≤ 26 → (∀ j, b = some j → j < 26 - n' ∧ j < 26) → X 0 29 = oI b → (∀ k, k < 26 → X 18 k = bI (th k)) → (∀ k, k < 26 → X 19 k = came k) →
    ∃ X', XQ X X' ∧ X' 18 = X 18 ∧ X' 19 = X 19 ∧ X' 0 28 = X 0 28 ∧ X' 0 29 = oI (qFst th (qGA kf n rule came i) n' b) ∧ f_X11_plays_90 (d + 3) (rM M o H V X) o rule x2 x3 x4 (nI i) (nI x) (nI (26 - n')) = f_X11_plays_90 (d + 3) (rM M o H V X') o rule x2 x3 x4 (nI i) (nI x) (nI 26)
  | 0, b, X, _, hb, h29, h18, h19 => ⟨X, XQ.refl, rfl, rfl, rfl, h29, rfl⟩
  | n' + 1, b, X, hn', hb, h29, h18, h19 => by
    obtain ⟨g1, g2, -⟩ := lt_suc hn'
    have hk : 25 - n' < 26 := by omega
    have t1 : X 18 (25 - n') = bI (th (25 - n')) := h18 _ hk
    have hs : qFst th (qGA kf n rule came i) (n' + 1) b = qFst th (qGA kf n rule came i) n' (if th (25 - n') = true then qStep (qGA kf n rule came i) (25 - n') b else b) := rfl
    rw [hs]
    have go : ∀ (b' : Option Nat) (X1 : Nat → Nat → Int32), XQ X X1 → X1 18 = X 18 → X1 19 = X 19 → X1 0 28 = X 0 28 → X1 0 29 = oI b' → (∀ j, b' = some j → j < 26 - n' ∧ j < 26) → f_X11_plays_90 (d + 3) (rM M o H V X) o rule x2 x3 x4 (nI i) (nI x) (nI (25 - n')) = f_X11_plays_90 (d + 3) (rM M o H V X1) o rule x2 x3 x4 (nI i) (nI x) (nI (26 - n')) →
        ∃ X', XQ X X' ∧ X' 18 = X 18 ∧ X' 19 = X 19 ∧ X' 0 28 = X 0 28 ∧ X' 0 29 = oI (qFst th (qGA kf n rule came i) n' b') ∧ f_X11_plays_90 (d + 3) (rM M o H V X) o rule x2 x3 x4 (nI i) (nI x) (nI (26 - (n' + 1))) = f_X11_plays_90 (d + 3) (rM M o H V X') o rule x2 x3 x4 (nI i) (nI x) (nI 26) := by
      intro b' X1 a1 a2 a3 a4 a5 a6 a7
      obtain ⟨X', b1, b2, b3, b4, b5, b6⟩ := r_plays_90 d h hK hn h0 hi hx (th := th) (x2 := x2) (x3 := x3) (x4 := x4) n' b' X1 (by omega) a6 a5 (by rw [a2]; exact h18) (by rw [a3]; exact h19)
      exact ⟨X', a1.trans b1, b2.trans a2, b3.trans a3, b4.trans a4, b5, by rw [g1, a7, b6]⟩
    cases ht : th (25 - n')
    · rw [if_neg (by decide)]
      refine go b X XQ.refl rfl rfl rfl h29 (fun j e => ⟨by have := (hb j e).1; omega, (hb j e).2⟩) ?_
      rw [e_X11_plays_90, if_pos (lt_suc2 hn')]
      simp (maxSteps := 1000000) (disch := first | assumption | omega) only [x_rf, x_m, lt_bv_r, lt_bi_r, lt_bl_r, ↓r_ck, r_get, r_put, r_more, rM_h, rM_f, rM_x, rM_wf, rM_wx, rM_wh, lt_iN, lt_b1_0, lt_b1_1, x_if1, x_eq1, x_10, x_01, x_11, x_00, ↓reduceIte, r_nz, r_ar1L0, r_ar1L1, lt_n0_, lt_n1_, upd_s, upd_o, u2_eq, u2_n1, u2_n2, r_p1, r_p5, r_p6, r_p7, r_p9, r_p10, r_p11, r_p13, r_p19, r_p23, r_p26, r_p27, r_p32, r_p33, r_p34, r_ar1, r_ar9, r_ar10, r_ar11, r_ar12, r_ar13, r_ar14, r_ar15, r_ar16, r_ar17, r_ar18, r_ar19, r_ar74, r_ar75, r_ar76, n2_, n4_, n12_, n24_, n28_, n50_, n54_, n76_, n80_, n102_, n128_, n154_, n180_, n206_, n232_, n258_, n284_, n310_, n336_, n362_, n380_, n680_, r_get0, r_get1, r_get2, r_get3, r_get4, r_get8, r_get9, r_get10, r_get11, r_get12, r_get13, r_put0, r_put1, r_put2, r_put3, r_put4, r_put5, r_put6, r_put7, r_put8, r_put9, r_put10, r_put11, r_more10, r_more12, r_more13, r_more14, r_more15, r_more16, r_more17, r_more18, r_more19, r_more20, t1, ht, bI_f, g2]
    · rw [if_pos rfl]
      cases b with
      | none =>
        refine go (some (25 - n')) (u2 X 0 29 (nI (25 - n'))) XQ.w29 (by simp (disch := omega) only [u2_eq, u2_n1, u2_n2]) (by simp (disch := omega) only [u2_eq, u2_n1, u2_n2]) (by simp (disch := omega) only [u2_eq, u2_n1, u2_n2]) u2_eq (fun j e => by cases e; omega) ?_
        rw [e_X11_plays_90, if_pos (lt_suc2 hn')]
        simp (maxSteps := 1000000) (disch := first | assumption | omega) only [x_rf, x_m, lt_bv_r, lt_bi_r, lt_bl_r, ↓r_ck, r_get, r_put, r_more, rM_h, rM_f, rM_x, rM_wf, rM_wx, rM_wh, lt_iN, lt_b1_0, lt_b1_1, x_if1, x_eq1, x_10, x_01, x_11, x_00, ↓reduceIte, r_nz, r_ar1L0, r_ar1L1, lt_n0_, lt_n1_, upd_s, upd_o, u2_eq, u2_n1, u2_n2, r_p1, r_p5, r_p6, r_p7, r_p9, r_p10, r_p11, r_p13, r_p19, r_p23, r_p26, r_p27, r_p32, r_p33, r_p34, r_ar1, r_ar9, r_ar10, r_ar11, r_ar12, r_ar13, r_ar14, r_ar15, r_ar16, r_ar17, r_ar18, r_ar19, r_ar74, r_ar75, r_ar76, n2_, n4_, n12_, n24_, n28_, n50_, n54_, n76_, n80_, n102_, n128_, n154_, n180_, n206_, n232_, n258_, n284_, n310_, n336_, n362_, n380_, n680_, r_get0, r_get1, r_get2, r_get3, r_get4, r_get8, r_get9, r_get10, r_get11, r_get12, r_get13, r_put0, r_put1, r_put2, r_put3, r_put4, r_put5, r_put6, r_put7, r_put8, r_put9, r_put10, r_put11, r_more10, r_more12, r_more13, r_more14, r_more15, r_more16, r_more17, r_more18, r_more19, r_more20, t1, ht, bI_t, h29, oI_n, g2]
      | some j =>
        have hj := hb j rfl
        have hne : (nI j = -1) = False := nI_ne1 (by omega)
        have ga := r_goesAhead (M := M) (o := o) (H := H) (V := V) (X := X) (rule := rule) d h hK hn h0 hk hj.2 (show 25 - n' ≠ j by omega) hi h19
        rw [show qStep (qGA kf n rule came i) (25 - n') (some j) = if qGA kf n rule came i (25 - n') j = true then some (25 - n') else some j from rfl]
        cases hg : qGA kf n rule came i (25 - n') j
        · rw [if_neg (by decide)]
          refine go (some j) X XQ.refl rfl rfl rfl h29 (fun j' e => by cases e; omega) ?_
          rw [e_X11_plays_90, if_pos (lt_suc2 hn')]
          simp (maxSteps := 1000000) (disch := first | assumption | omega) only [x_rf, x_m, lt_bv_r, lt_bi_r, lt_bl_r, ↓r_ck, r_get, r_put, r_more, rM_h, rM_f, rM_x, rM_wf, rM_wx, rM_wh, lt_iN, lt_b1_0, lt_b1_1, x_if1, x_eq1, x_10, x_01, x_11, x_00, ↓reduceIte, r_nz, r_ar1L0, r_ar1L1, lt_n0_, lt_n1_, upd_s, upd_o, u2_eq, u2_n1, u2_n2, r_p1, r_p5, r_p6, r_p7, r_p9, r_p10, r_p11, r_p13, r_p19, r_p23, r_p26, r_p27, r_p32, r_p33, r_p34, r_ar1, r_ar9, r_ar10, r_ar11, r_ar12, r_ar13, r_ar14, r_ar15, r_ar16, r_ar17, r_ar18, r_ar19, r_ar74, r_ar75, r_ar76, n2_, n4_, n12_, n24_, n28_, n50_, n54_, n76_, n80_, n102_, n128_, n154_, n180_, n206_, n232_, n258_, n284_, n310_, n336_, n362_, n380_, n680_, r_get0, r_get1, r_get2, r_get3, r_get4, r_get8, r_get9, r_get10, r_get11, r_get12, r_get13, r_put0, r_put1, r_put2, r_put3, r_put4, r_put5, r_put6, r_put7, r_put8, r_put9, r_put10, r_put11, r_more10, r_more12, r_more13, r_more14, r_more15, r_more16, r_more17, r_more18, r_more19, r_more20, t1, ht, bI_t, h29, oI_s, hne, ga, hg, bI_f, g2]
        · rw [if_pos rfl]
          refine go (some (25 - n')) (u2 X 0 29 (nI (25 - n'))) XQ.w29 (by simp (disch := omega) only [u2_eq, u2_n1, u2_n2]) (by simp (disch := omega) only [u2_eq, u2_n1, u2_n2]) (by simp (disch := omega) only [u2_eq, u2_n1, u2_n2]) u2_eq (fun j e => by cases e; omega) ?_
          rw [e_X11_plays_90, if_pos (lt_suc2 hn')]
          simp (maxSteps := 1000000) (disch := first | assumption | omega) only [x_rf, x_m, lt_bv_r, lt_bi_r, lt_bl_r, ↓r_ck, r_get, r_put, r_more, rM_h, rM_f, rM_x, rM_wf, rM_wx, rM_wh, lt_iN, lt_b1_0, lt_b1_1, x_if1, x_eq1, x_10, x_01, x_11, x_00, ↓reduceIte, r_nz, r_ar1L0, r_ar1L1, lt_n0_, lt_n1_, upd_s, upd_o, u2_eq, u2_n1, u2_n2, r_p1, r_p5, r_p6, r_p7, r_p9, r_p10, r_p11, r_p13, r_p19, r_p23, r_p26, r_p27, r_p32, r_p33, r_p34, r_ar1, r_ar9, r_ar10, r_ar11, r_ar12, r_ar13, r_ar14, r_ar15, r_ar16, r_ar17, r_ar18, r_ar19, r_ar74, r_ar75, r_ar76, n2_, n4_, n12_, n24_, n28_, n50_, n54_, n76_, n80_, n102_, n128_, n154_, n180_, n206_, n232_, n258_, n284_, n310_, n336_, n362_, n380_, n680_, r_get0, r_get1, r_get2, r_get3, r_get4, r_get8, r_get9, r_get10, r_get11, r_get12, r_get13, r_put0, r_put1, r_put2, r_put3, r_put4, r_put5, r_put6, r_put7, r_put8, r_put9, r_put10, r_put11, r_more10, r_more12, r_more13, r_more14, r_more15, r_more16, r_more17, r_more18, r_more19, r_more20, t1, ht, bI_t, h29, oI_s, hne, ga, hg, g2]
/-- the memory of a play -/
def PX (X : Nat → Nat → Int32) (s : Nat × Nat × (Nat → Bool) × (Nat → Int32) × Option Nat) : Prop := X 0 28 = nI s.1 ∧ (∀ k, k < 26 → X 18 k = bI (s.2.2.1 k)) ∧ (∀ k, k < 26 → X 19 k = s.2.2.2.1 k)
/-- who holds keys holds one -/
def PH (s : Nat × Nat × (Nat → Bool) × (Nat → Int32) × Option Nat) : Prop := 0 < s.2.1 → ∃ k, k < 26 ∧ s.2.2.1 k = true
theorem r_plays_35 (d : Nat) (h : RA M o) (hK : RK H kf n) (hn : n ≤ 300) (h0 : H 0 = nI n) (hsz : 0 < size) (hsz2 : size < 1000) {t : Nat} (ht : t ≤ n) : ∀ (m : Nat) (s : Nat × Nat × (Nat → Bool) × (Nat → Int32) × Option Nat) (X : Nat → Nat → Int32), m ≤ t → PX X s → s.1 ≤ t - m → s.2.1 ≤ t - m → PH s →
    ∃ X', XQ X X' ∧ PX X' (qPlays kf n rule size t m s) ∧ (m ≠ 0 → X' 0 29 = oI (qPlays kf n rule size t m s).2.2.2.2) ∧ (m = 0 → X' = X) ∧ f_X11_plays_35 (d + 4) (rM M o H V X) o rule (nI size) (nI t) (nI s.2.1) (nI (t - m)) = some (.inl none, rM M o H V X')
  | 0, s, X, _, hX, _, _, _ => by
    have hlt : ¬ nI (t - 0) < nI t := by rw [nI_ltP (by omega) (by omega)]; omega
    refine ⟨X, XQ.refl, hX, fun q => absurd rfl q, fun _ => rfl, ?_⟩
    rw [e_X11_plays_35, if_neg hlt]
  | m + 1, s, X, hm, hX, hs1, hs2, hs3 => by
    obtain ⟨p1, p2, p3⟩ := hX
    obtain ⟨hk, hH⟩ := hK (t - (m + 1)) (by omega)
    have hlt : nI (t - (m + 1)) < nI t := by rw [nI_ltP (by omega) (by omega)]; omega
    have hsa : nI s.1 + 1 = nI (s.1 + 1) := lt_iA (j := s.1) (k := 1)
    have hsb : nI s.2.1 + 1 = nI (s.2.1 + 1) := lt_iA (j := s.2.1) (k := 1)
    have g2 : nI (t - (m + 1)) + 1 = nI (t - m) := by
      rw [show nI (t - (m + 1)) + 1 = nI (t - (m + 1) + 1) from lt_iA (j := t - (m + 1)) (k := 1)]
      congr 1
      omega
    have px := p2 _ hk
    have go : ∀ (s' : Nat × Nat × (Nat → Bool) × (Nat → Int32) × Option Nat) (X1 : Nat → Nat → Int32), s' = qPlay1 kf n rule size (t - (m + 1)) s → XQ X X1 → PX X1 s' → X1 0 29 = oI s'.2.2.2.2 → s'.1 ≤ t - m → s'.2.1 ≤ t - m → PH s' →
        f_X11_plays_35 (d + 4) (rM M o H V X) o rule (nI size) (nI t) (nI s.2.1) (nI (t - (m + 1))) = f_X11_plays_35 (d + 4) (rM M o H V X1) o rule (nI size) (nI t) (nI s'.2.1) (nI (t - m)) →
        ∃ X', XQ X X' ∧ PX X' (qPlays kf n rule size t (m + 1) s) ∧ (m + 1 ≠ 0 → X' 0 29 = oI (qPlays kf n rule size t (m + 1) s).2.2.2.2) ∧ (m + 1 = 0 → X' = X) ∧ f_X11_plays_35 (d + 4) (rM M o H V X) o rule (nI size) (nI t) (nI s.2.1) (nI (t - (m + 1))) = some (.inl none, rM M o H V X') := by
      intro s' X1 e a1 a2 a3 a4 a5 a6 a7
      obtain ⟨X', b1, b2, b3, b4, b5⟩ := r_plays_35 d h hK hn h0 hsz hsz2 ht m s' X1 (by omega) a2 a4 a5 a6
      rw [show qPlays kf n rule size t (m + 1) s = qPlays kf n rule size t m s' by rw [e]; rfl]
      refine ⟨X', a1.trans b1, b2, fun _ => ?_, fun q => by omega, a7.trans b5⟩
      by_cases q : m = 0
      · subst q
        rw [b4 rfl, a3]
        rfl
      · exact b3 q
    by_cases c1 : s.2.2.1 (kf (t - (m + 1))) = true
    · refine go (s.1 + 1, s.2.1, s.2.2.1, s.2.2.2.1, none) (u2 (u2 X 0 29 (-1)) 0 28 (nI (s.1 + 1))) (by unfold qPlay1; rw [if_pos c1]) (XQ.w29.trans XQ.w28) ⟨u2_eq, fun k hk => by simp (disch := omega) only [u2_eq, u2_n1, u2_n2]; exact p2 k hk, fun k hk => by simp (disch := omega) only [u2_eq, u2_n1, u2_n2]; exact p3 k hk⟩ (by simp (disch := omega) only [u2_eq, u2_n1, u2_n2]; rfl) (by show s.1 + 1 ≤ t - m; omega) (by show s.2.1 ≤ t - m; omega) hs3 ?_
      rw [e_X11_plays_35, if_pos hlt]
      simp (maxSteps := 1000000) (disch := first | assumption | omega) only [x_rf, x_m, lt_bv_r, lt_bi_r, lt_bl_r, ↓r_ck, r_get, r_put, r_more, rM_h, rM_f, rM_x, rM_wf, rM_wx, rM_wh, lt_iN, lt_b1_0, lt_b1_1, x_if1, x_eq1, x_10, x_01, x_11, x_00, ↓reduceIte, r_nz, r_ar1L0, r_ar1L1, lt_n0_, lt_n1_, upd_s, upd_o, u2_eq, u2_n1, u2_n2, r_p1, r_p5, r_p6, r_p7, r_p9, r_p10, r_p11, r_p13, r_p19, r_p23, r_p26, r_p27, r_p32, r_p33, r_p34, r_ar1, r_ar9, r_ar10, r_ar11, r_ar12, r_ar13, r_ar14, r_ar15, r_ar16, r_ar17, r_ar18, r_ar19, r_ar74, r_ar75, r_ar76, n2_, n4_, n12_, n24_, n28_, n50_, n54_, n76_, n80_, n102_, n128_, n154_, n180_, n206_, n232_, n258_, n284_, n310_, n336_, n362_, n380_, n680_, r_get0, r_get1, r_get2, r_get3, r_get4, r_get8, r_get9, r_get10, r_get11, r_get12, r_get13, r_put0, r_put1, r_put2, r_put3, r_put4, r_put5, r_put6, r_put7, r_put8, r_put9, r_put10, r_put11, r_more10, r_more12, r_more13, r_more14, r_more15, r_more16, r_more17, r_more18, r_more19, r_more20, hH, px, c1, bI_t, p1, hsa, g2]
    · have c1' : s.2.2.1 (kf (t - (m + 1))) = false := by simpa using c1
      by_cases c2 : s.2.1 = size
      · obtain ⟨X1, a1, a2, a3, a4, a5, a6⟩ := r_plays_90 (M := M) (o := o) (H := H) (V := V) (kf := kf) (rule := rule) (came := s.2.2.2.1) (x2 := nI size) (x3 := nI t) (x4 := nI s.2.1) (th := s.2.2.1) (d + 1) h hK hn h0 (i := t - (m + 1)) (show t - (m + 1) ≤ n by omega) hk 26 none (u2 X 0 29 (-1)) (Nat.le_refl _) (fun j e => by cases e) u2_eq (fun k hk => by simp (disch := omega) only [u2_eq, u2_n1, u2_n2]; exact p2 k hk) (fun k hk => by simp (disch := omega) only [u2_eq, u2_n1, u2_n2]; exact p3 k hk)
        have hsome : qFst s.2.2.1 (qGA kf n rule s.2.2.2.1 (t - (m + 1))) 26 none ≠ none := by
          obtain ⟨k, hk1, hk2⟩ := hs3 (by omega)
          exact qFst_some 26 none (Nat.le_refl _) (Or.inr ⟨k, hk1, by omega, hk2⟩)
        cases hg : qFst s.2.2.1 (qGA kf n rule s.2.2.2.1 (t - (m + 1))) 26 none with
        | none => exact absurd hg hsome
        | some g =>
          have hgl := qFst_lt 26 none (fun j e => by cases e) g hg
          rw [hg, oI_s] at a5
          have b18 : X1 18 = X 18 := a2.trans (u2_n1 (by omega))
          have b19 : X1 19 = X 19 := a3.trans (u2_n1 (by omega))
          have b28 : X1 0 28 = nI s.1 := a4.trans ((u2_n2 (by omega)).trans p1)
          have a6' : f_X11_plays_90 (d + 4) (rM M o H V (u2 X 0 29 (-1))) o rule (nI size) (nI t) (nI s.2.1) (nI (t - (m + 1))) (nI (kf (t - (m + 1)))) 0 = _ := a6
          have hm1 : nI s.2.1 + -1 + 1 = nI s.2.1 := by rw [Int32.add_assoc, show (-1 : Int32) + 1 = 0 by decide, Int32.add_zero]
          refine go (s.1, s.2.1, (fun k => if k = kf (t - (m + 1)) then true else if some g = some k then false else s.2.2.1 k), upd s.2.2.2.1 (kf (t - (m + 1))) (nI (t - (m + 1))), some g) (u2 (u2 (u2 X1 18 g 0) 18 (kf (t - (m + 1))) 1) 19 (kf (t - (m + 1))) (nI (t - (m + 1)))) (by unfold qPlay1; rw [if_neg c1, if_pos c2, hg]) ((XQ.w29.trans a1).trans ((XQ.w18.trans XQ.w18).trans XQ.w19)) ⟨by simp (disch := omega) only [u2_eq, u2_n1, u2_n2]; exact b28, fun k hk' => ?_, fun k hk' => ?_⟩ (by simp (disch := omega) only [u2_eq, u2_n1, u2_n2]; exact a5) (by show s.1 ≤ t - m; omega) (by show s.2.1 ≤ t - m; omega) (fun _ => ⟨kf (t - (m + 1)), hk, if_pos rfl⟩) ?_
          · show _ = bI (if k = kf (t - (m + 1)) then true else if some g = some k then false else s.2.2.1 k)
            rw [u2_n1 (by omega)]
            by_cases q : k = kf (t - (m + 1))
            · subst q
              rw [if_pos rfl]
              exact u2_eq
            · rw [if_neg q, u2_n2 q]
              by_cases q2 : k = g
              · subst q2
                rw [if_pos rfl]
                exact u2_eq
              · rw [if_neg (fun e => q2 (Option.some.inj e).symm), u2_n2 q2, b18]
                exact p2 k hk'
          · show _ = upd s.2.2.2.1 (kf (t - (m + 1))) (nI (t - (m + 1))) k
            by_cases q : k = kf (t - (m + 1))
            · subst q
              rw [upd_s]
              exact u2_eq
            · rw [upd_o q, u2_n2 q]
              simp (disch := omega) only [u2_eq, u2_n1, u2_n2]
              rw [b19]
              exact p3 k hk'
          · rw [e_X11_plays_35, if_pos hlt]
            simp (maxSteps := 1000000) (disch := first | assumption | omega) only [x_rf, x_m, lt_bv_r, lt_bi_r, lt_bl_r, ↓r_ck, r_get, r_put, r_more, rM_h, rM_f, rM_x, rM_wf, rM_wx, rM_wh, lt_iN, lt_b1_0, lt_b1_1, x_if1, x_eq1, x_10, x_01, x_11, x_00, ↓reduceIte, r_nz, r_ar1L0, r_ar1L1, lt_n0_, lt_n1_, upd_s, upd_o, u2_eq, u2_n1, u2_n2, r_p1, r_p5, r_p6, r_p7, r_p9, r_p10, r_p11, r_p13, r_p19, r_p23, r_p26, r_p27, r_p32, r_p33, r_p34, r_ar1, r_ar9, r_ar10, r_ar11, r_ar12, r_ar13, r_ar14, r_ar15, r_ar16, r_ar17, r_ar18, r_ar19, r_ar74, r_ar75, r_ar76, n2_, n4_, n12_, n24_, n28_, n50_, n54_, n76_, n80_, n102_, n128_, n154_, n180_, n206_, n232_, n258_, n284_, n310_, n336_, n362_, n380_, n680_, r_get0, r_get1, r_get2, r_get3, r_get4, r_get8, r_get9, r_get10, r_get11, r_get12, r_get13, r_put0, r_put1, r_put2, r_put3, r_put4, r_put5, r_put6, r_put7, r_put8, r_put9, r_put10, r_put11, r_more10, r_more12, r_more13, r_more14, r_more15, r_more16, r_more17, r_more18, r_more19, r_more20, hH, px, c1', bI_f, c2]
            rw [c2] at a6' hm1
            rw [a6', e_X11_plays_90, if_neg (by decide)]
            simp (maxSteps := 1000000) (disch := first | assumption | omega) only [x_rf, x_m, lt_bv_r, lt_bi_r, lt_bl_r, ↓r_ck, r_get, r_put, r_more, rM_h, rM_f, rM_x, rM_wf, rM_wx, rM_wh, lt_iN, lt_b1_0, lt_b1_1, x_if1, x_eq1, x_10, x_01, x_11, x_00, ↓reduceIte, r_nz, r_ar1L0, r_ar1L1, lt_n0_, lt_n1_, upd_s, upd_o, u2_eq, u2_n1, u2_n2, r_p1, r_p5, r_p6, r_p7, r_p9, r_p10, r_p11, r_p13, r_p19, r_p23, r_p26, r_p27, r_p32, r_p33, r_p34, r_ar1, r_ar9, r_ar10, r_ar11, r_ar12, r_ar13, r_ar14, r_ar15, r_ar16, r_ar17, r_ar18, r_ar19, r_ar74, r_ar75, r_ar76, n2_, n4_, n12_, n24_, n28_, n50_, n54_, n76_, n80_, n102_, n128_, n154_, n180_, n206_, n232_, n258_, n284_, n310_, n336_, n362_, n380_, n680_, r_get0, r_get1, r_get2, r_get3, r_get4, r_get8, r_get9, r_get10, r_get11, r_get12, r_get13, r_put0, r_put1, r_put2, r_put3, r_put4, r_put5, r_put6, r_put7, r_put8, r_put9, r_put10, r_put11, r_more10, r_more12, r_more13, r_more14, r_more15, r_more16, r_more17, r_more18, r_more19, r_more20, a5, hm1, g2]
      · have c2' : ¬ nI s.2.1 = nI size := fun e => c2 ((lt_iE (by omega) (by omega)).mp e)
        refine go (s.1, s.2.1 + 1, (fun k => if k = kf (t - (m + 1)) then true else s.2.2.1 k), upd s.2.2.2.1 (kf (t - (m + 1))) (nI (t - (m + 1))), none) (u2 (u2 (u2 X 0 29 (-1)) 18 (kf (t - (m + 1))) 1) 19 (kf (t - (m + 1))) (nI (t - (m + 1)))) (by unfold qPlay1; rw [if_neg c1, if_neg c2]) ((XQ.w29.trans XQ.w18).trans XQ.w19) ⟨by simp (disch := omega) only [u2_eq, u2_n1, u2_n2]; exact p1, fun k hk' => ?_, fun k hk' => ?_⟩ (by simp (disch := omega) only [u2_eq, u2_n1, u2_n2]; rfl) (by show s.1 ≤ t - m; omega) (by show s.2.1 + 1 ≤ t - m; omega) (fun _ => ⟨kf (t - (m + 1)), hk, if_pos rfl⟩) ?_
        · show _ = bI (if k = kf (t - (m + 1)) then true else s.2.2.1 k)
          rw [u2_n1 (by omega)]
          by_cases q : k = kf (t - (m + 1))
          · subst q
            rw [if_pos rfl]
            exact u2_eq
          · rw [if_neg q, u2_n2 q]
            simp (disch := omega) only [u2_eq, u2_n1, u2_n2]
            exact p2 k hk'
        · show _ = upd s.2.2.2.1 (kf (t - (m + 1))) (nI (t - (m + 1))) k
          by_cases q : k = kf (t - (m + 1))
          · subst q
            rw [upd_s]
            exact u2_eq
          · rw [upd_o q, u2_n2 q]
            simp (disch := omega) only [u2_eq, u2_n1, u2_n2]
            exact p3 k hk'
        · rw [e_X11_plays_35, if_pos hlt]
          simp (maxSteps := 1000000) (disch := first | assumption | omega) only [x_rf, x_m, lt_bv_r, lt_bi_r, lt_bl_r, ↓r_ck, r_get, r_put, r_more, rM_h, rM_f, rM_x, rM_wf, rM_wx, rM_wh, lt_iN, lt_b1_0, lt_b1_1, x_if1, x_eq1, x_10, x_01, x_11, x_00, ↓reduceIte, r_nz, r_ar1L0, r_ar1L1, lt_n0_, lt_n1_, upd_s, upd_o, u2_eq, u2_n1, u2_n2, r_p1, r_p5, r_p6, r_p7, r_p9, r_p10, r_p11, r_p13, r_p19, r_p23, r_p26, r_p27, r_p32, r_p33, r_p34, r_ar1, r_ar9, r_ar10, r_ar11, r_ar12, r_ar13, r_ar14, r_ar15, r_ar16, r_ar17, r_ar18, r_ar19, r_ar74, r_ar75, r_ar76, n2_, n4_, n12_, n24_, n28_, n50_, n54_, n76_, n80_, n102_, n128_, n154_, n180_, n206_, n232_, n258_, n284_, n310_, n336_, n362_, n380_, n680_, r_get0, r_get1, r_get2, r_get3, r_get4, r_get8, r_get9, r_get10, r_get11, r_get12, r_get13, r_put0, r_put1, r_put2, r_put3, r_put4, r_put5, r_put6, r_put7, r_put8, r_put9, r_put10, r_put11, r_more10, r_more12, r_more13, r_more14, r_more15, r_more16, r_more17, r_more18, r_more19, r_more20, hH, px, c1', bI_f, c2', hsb, g2]
theorem r_plays_11 (d : Nat) (h : RA M o) {x1 x2 x3 x4 : Int32} : ∀ (n : Nat) (X : Nat → Nat → Int32), n ≤ 26 → (∀ k, k < 26 - n → X 18 k = 0) →
    ∃ X', XQ X X' ∧ (∀ k, k < 26 → X' 18 k = 0) ∧ X' 19 = X 19 ∧ X' 0 = X 0 ∧ f_X11_plays_11 (d + 1) (rM M o H V X) o x1 x2 x3 x4 (nI (26 - n)) = f_X11_plays_35 (d + 1) (rM M o H V X') o x1 x2 x3 x4 0
  | 0, X, _, hX => by
    refine ⟨X, XQ.refl, hX, rfl, rfl, ?_⟩
    rw [e_X11_plays_11, if_neg lt_end]
  | n + 1, X, hn, hX => by
    obtain ⟨g1, g2, -⟩ := lt_suc hn
    have hk : 25 - n < 26 := by omega
    obtain ⟨X', a1, a2, a3, a4, a5⟩ := r_plays_11 d h (x1 := x1) (x2 := x2) (x3 := x3) (x4 := x4) n (u2 X 18 (25 - n) 0) (by omega) (fun k hk => by
      by_cases q : k = 25 - n
      · subst q
        exact u2_eq
      · rw [u2_n2 q]
        exact hX k (by omega))
    refine ⟨X', XQ.w18.trans a1, a2, a3.trans (by simp (disch := omega) only [u2_eq, u2_n1, u2_n2]), a4.trans (by simp (disch := omega) only [u2_eq, u2_n1, u2_n2]), ?_⟩
    rw [g1, e_X11_plays_11, if_pos (lt_suc2 hn)]
    simp (maxSteps := 1000000) (disch := first | assumption | omega) only [x_rf, x_m, lt_bv_r, lt_bi_r, lt_bl_r, ↓r_ck, r_get, r_put, r_more, rM_h, rM_f, rM_x, rM_wf, rM_wx, rM_wh, lt_iN, lt_b1_0, lt_b1_1, x_if1, x_eq1, x_10, x_01, x_11, x_00, ↓reduceIte, r_nz, r_ar1L0, r_ar1L1, lt_n0_, lt_n1_, upd_s, upd_o, u2_eq, u2_n1, u2_n2, r_p1, r_p5, r_p6, r_p7, r_p9, r_p10, r_p11, r_p13, r_p19, r_p23, r_p26, r_p27, r_p32, r_p33, r_p34, r_ar1, r_ar9, r_ar10, r_ar11, r_ar12, r_ar13, r_ar14, r_ar15, r_ar16, r_ar17, r_ar18, r_ar19, r_ar74, r_ar75, r_ar76, n2_, n4_, n12_, n24_, n28_, n50_, n54_, n76_, n80_, n102_, n128_, n154_, n180_, n206_, n232_, n258_, n284_, n310_, n336_, n362_, n380_, n680_, r_get0, r_get1, r_get2, r_get3, r_get4, r_get8, r_get9, r_get10, r_get11, r_get12, r_get13, r_put0, r_put1, r_put2, r_put3, r_put4, r_put5, r_put6, r_put7, r_put8, r_put9, r_put10, r_put11, r_more10, r_more12, r_more13, r_more14, r_more15, r_more16, r_more17, r_more18, r_more19, r_more20, g2]
    exact a5
/-- plays() from the start -/
def qPlay (kf : Nat → Nat) (n : Nat) (rule : Int32) (size t : Nat) (c0 : Nat → Int32) : Nat × Nat × (Nat → Bool) × (Nat → Int32) × Option Nat := qPlays kf n rule size t t (0, 0, (fun _ => false), c0, none)
theorem r_plays (d : Nat) (h : RA M o) (hK : RK H kf n) (hn : n ≤ 300) (h0 : H 0 = nI n) (hsz : 0 < size) (hsz2 : size < 1000) {t : Nat} (ht : t ≤ n) :
    ∃ X' c0, XQ X X' ∧ PX X' (qPlay kf n rule size t c0) ∧ (t ≠ 0 → X' 0 29 = oI (qPlay kf n rule size t c0).2.2.2.2) ∧ f_X11_plays (d + 5) (rM M o H V X) o rule (nI size) (nI t) = some (.inl none, rM M o H V X') := by
  obtain ⟨X1, a1, a2, a3, a4, a5⟩ := r_plays_11 (M := M) (o := o) (H := H) (V := V) (x1 := rule) (x2 := nI size) (x3 := nI t) (x4 := 0) (d + 4) h 26 (u2 X 0 28 0) (Nat.le_refl _) (fun k hk => by omega)
  obtain ⟨X2, b1, b2, b3, b4, b5⟩ := r_plays_35 (M := M) (o := o) (H := H) (V := V) (kf := kf) (rule := rule) (d + 1) h hK hn h0 hsz hsz2 ht t (0, 0, (fun _ => false), X1 19, none) X1 (Nat.le_refl _) ⟨by rw [a4]; exact u2_eq, fun k hk => a2 k hk, fun k hk => rfl⟩ (Nat.zero_le _) (Nat.zero_le _) (fun q => absurd q (Nat.lt_irrefl 0))
  refine ⟨X2, X1 19, (XQ.w28.trans a1).trans b1, b2, b3, ?_⟩
  rw [Nat.sub_self] at b5
  have a5' : f_X11_plays_11 (d + 5) (rM M o H V (u2 X 0 28 0)) o rule (nI size) (nI t) 0 0 = _ := a5
  rw [e_X11_plays]
  simp (maxSteps := 1000000) (disch := first | assumption | omega) only [x_rf, x_m, lt_bv_r, lt_bi_r, lt_bl_r, ↓r_ck, r_get, r_put, r_more, rM_h, rM_f, rM_x, rM_wf, rM_wx, rM_wh, lt_iN, lt_b1_0, lt_b1_1, x_if1, x_eq1, x_10, x_01, x_11, x_00, ↓reduceIte, r_nz, r_ar1L0, r_ar1L1, lt_n0_, lt_n1_, upd_s, upd_o, u2_eq, u2_n1, u2_n2, r_p1, r_p5, r_p6, r_p7, r_p9, r_p10, r_p11, r_p13, r_p19, r_p23, r_p26, r_p27, r_p32, r_p33, r_p34, r_ar1, r_ar9, r_ar10, r_ar11, r_ar12, r_ar13, r_ar14, r_ar15, r_ar16, r_ar17, r_ar18, r_ar19, r_ar74, r_ar75, r_ar76, n2_, n4_, n12_, n24_, n28_, n50_, n54_, n76_, n80_, n102_, n128_, n154_, n180_, n206_, n232_, n258_, n284_, n310_, n336_, n362_, n380_, n680_, r_get0, r_get1, r_get2, r_get3, r_get4, r_get8, r_get9, r_get10, r_get11, r_get12, r_get13, r_put0, r_put1, r_put2, r_put3, r_put4, r_put5, r_put6, r_put7, r_put8, r_put9, r_put10, r_put11, r_more10, r_more12, r_more13, r_more14, r_more15, r_more16, r_more17, r_more18, r_more19, r_more20]
  rw [a5']
  exact b5
theorem r_dist_6 (d : Nat) (h : RA M o) (hK : RK H kf n) (hn : n ≤ 300) (hi : i < n) : ∀ (j : Nat) (set : Int32), j ≤ i → f_X11_distanceOf_6 (d + 2) (rM M o H V X) o (nI i) set (nI j + -1) = some (.inl (some (.int (qDist kf (kf i) j set))), rM M o H V X)
  | 0, set, _ => by
    have hl : nI 0 + -1 < 0 := by decide
    rw [e_X11_distanceOf_6, if_pos hl]
    rfl
  | j + 1, set, hj => by
    have e0 : nI (j + 1) + -1 = nI j := by
      rw [show nI (j + 1) = nI j + 1 from (lt_iA (j := j) (k := 1)).symm, Int32.add_assoc, show (1 : Int32) + -1 = 0 by decide, Int32.add_zero]
    have hl : ¬ nI j < 0 := lt_neg (by omega)
    obtain ⟨hk1, hH1⟩ := hK j (by omega)
    obtain ⟨hk2, hH2⟩ := hK i hi
    have ih := r_dist_6 d h hK hn hi j (set ||| bb (kf j)) (by omega)
    have hbb : (1 : Int32) <<< (nI (kf j) &&& 31) = bb (kf j) := rfl
    rw [e0, e_X11_distanceOf_6, if_neg hl]
    simp (maxSteps := 1000000) (disch := first | assumption | omega) only [x_rf, x_m, lt_bv_r, lt_bi_r, lt_bl_r, ↓r_ck, r_get, r_put, r_more, rM_h, rM_f, rM_x, rM_wf, rM_wx, rM_wh, lt_iN, lt_b1_0, lt_b1_1, x_if1, x_eq1, x_10, x_01, x_11, x_00, ↓reduceIte, r_nz, r_ar1L0, r_ar1L1, lt_n0_, lt_n1_, upd_s, upd_o, u2_eq, u2_n1, u2_n2, r_p1, r_p5, r_p6, r_p7, r_p9, r_p10, r_p11, r_p13, r_p19, r_p23, r_p26, r_p27, r_p32, r_p33, r_p34, r_ar1, r_ar9, r_ar10, r_ar11, r_ar12, r_ar13, r_ar14, r_ar15, r_ar16, r_ar17, r_ar18, r_ar19, r_ar74, r_ar75, r_ar76, n2_, n4_, n12_, n24_, n28_, n50_, n54_, n76_, n80_, n102_, n128_, n154_, n180_, n206_, n232_, n258_, n284_, n310_, n336_, n362_, n380_, n680_, r_get0, r_get1, r_get2, r_get3, r_get4, r_get8, r_get9, r_get10, r_get11, r_get12, r_get13, r_put0, r_put1, r_put2, r_put3, r_put4, r_put5, r_put6, r_put7, r_put8, r_put9, r_put10, r_put11, r_more10, r_more12, r_more13, r_more14, r_more15, r_more16, r_more17, r_more18, r_more19, r_more20, hH1, hH2, nI_inj, c_pop, hbb, ih]
    rw [show qDist kf (kf i) (j + 1) set = if kf j = kf i then 1 + pPop set else qDist kf (kf i) j (set ||| bb (kf j)) from rfl]
    split <;> rfl
theorem r_distanceOf (d : Nat) (h : RA M o) (hK : RK H kf n) (hn : n ≤ 300) (hi : i < n) : f_X11_distanceOf (d + 2) (rM M o H V X) o (nI i) = some (.inl (some (.int (qDist kf (kf i) i 0))), rM M o H V X) := by
  rw [e_X11_distanceOf, show nI i - 1 = nI i + -1 from Int32.sub_eq_add_neg ..]
  exact r_dist_6 d h hK hn hi i 0 (Nat.le_refl _)
theorem r_distance (d : Nat) (h : RA M o) (hK : RK H kf n) (hn : n ≤ 300) (h0 : H 0 = nI n) {rq : Int32} : f_X11_distance (d + 3) (rM M o H V X) o rq = if qIn rq 0 (nI n - 1) = true then some (.inl (some (.int (qDist kf (kf (lt_n rq)) (lt_n rq) 0))), rM M o H V (qX0 X)) else some (.inl (some (.int 0)), rM M o H V (qXe X 1)) := by
  rw [e_X11_distance]
  cases hw : qIn rq 0 (nI n - 1)
  · simp (maxSteps := 1000000) (disch := first | assumption | omega) only [x_rf, x_m, lt_bv_r, lt_bi_r, lt_bl_r, ↓r_ck, r_get, r_put, r_more, rM_h, rM_f, rM_x, rM_wf, rM_wx, rM_wh, lt_iN, lt_b1_0, lt_b1_1, x_if1, x_eq1, x_10, x_01, x_11, x_00, ↓reduceIte, r_nz, r_ar1L0, r_ar1L1, lt_n0_, lt_n1_, upd_s, upd_o, u2_eq, u2_n1, u2_n2, r_p1, r_p5, r_p6, r_p7, r_p9, r_p10, r_p11, r_p13, r_p19, r_p23, r_p26, r_p27, r_p32, r_p33, r_p34, r_ar1, r_ar9, r_ar10, r_ar11, r_ar12, r_ar13, r_ar14, r_ar15, r_ar16, r_ar17, r_ar18, r_ar19, r_ar74, r_ar75, r_ar76, n2_, n4_, n12_, n24_, n28_, n50_, n54_, n76_, n80_, n102_, n128_, n154_, n180_, n206_, n232_, n258_, n284_, n310_, n336_, n362_, n380_, n680_, r_get0, r_get1, r_get2, r_get3, r_get4, r_get8, r_get9, r_get10, r_get11, r_get12, r_get13, r_put0, r_put1, r_put2, r_put3, r_put4, r_put5, r_put6, r_put7, r_put8, r_put9, r_put10, r_put11, r_more10, r_more12, r_more13, r_more14, r_more15, r_more16, r_more17, r_more18, r_more19, r_more20, r_in, r_no, r_no0, r_no1, bI_t, bI_f, bI0, Bool.not_true, Bool.not_false, r_isNoRequest, h0, hw, Bool.false_eq_true]
  · obtain ⟨w, hw', rfl⟩ := qIn_n hn hw
    have e1 := fun X => r_distanceOf (M := M) (o := o) (H := H) (V := V) (X := X) d h hK hn hw'
    rw [lt_iN (by omega)]
    simp (maxSteps := 1000000) (disch := first | assumption | omega) only [x_rf, x_m, lt_bv_r, lt_bi_r, lt_bl_r, ↓r_ck, r_get, r_put, r_more, rM_h, rM_f, rM_x, rM_wf, rM_wx, rM_wh, lt_iN, lt_b1_0, lt_b1_1, x_if1, x_eq1, x_10, x_01, x_11, x_00, ↓reduceIte, r_nz, r_ar1L0, r_ar1L1, lt_n0_, lt_n1_, upd_s, upd_o, u2_eq, u2_n1, u2_n2, r_p1, r_p5, r_p6, r_p7, r_p9, r_p10, r_p11, r_p13, r_p19, r_p23, r_p26, r_p27, r_p32, r_p33, r_p34, r_ar1, r_ar9, r_ar10, r_ar11, r_ar12, r_ar13, r_ar14, r_ar15, r_ar16, r_ar17, r_ar18, r_ar19, r_ar74, r_ar75, r_ar76, n2_, n4_, n12_, n24_, n28_, n50_, n54_, n76_, n80_, n102_, n128_, n154_, n180_, n206_, n232_, n258_, n284_, n310_, n336_, n362_, n380_, n680_, r_get0, r_get1, r_get2, r_get3, r_get4, r_get8, r_get9, r_get10, r_get11, r_get12, r_get13, r_put0, r_put1, r_put2, r_put3, r_put4, r_put5, r_put6, r_put7, r_put8, r_put9, r_put10, r_put11, r_more10, r_more12, r_more13, r_more14, r_more15, r_more16, r_more17, r_more18, r_more19, r_more20, r_in, r_no, r_no0, r_no1, bI_t, bI_f, bI0, Bool.not_true, Bool.not_false, r_isNoRequest, h0, hw, e1]
/-- hits by last use: by distances -/
def qHL (kf : Nat → Nat) (n : Nat) (size : Int32) : Nat → Int32 → Int32
  | 0, z => z
  | m + 1, z => qHL kf n size m (z + bI (qIn (qDist kf (kf (n - (m + 1))) (n - (m + 1)) 0) 1 size))
theorem r_hitsOf_26 (d : Nat) (h : RA M o) (hK : RK H kf n) (hn : n ≤ 300) (h0 : H 0 = nI n) {sz : Int32} : ∀ (m : Nat) (z : Int32), m ≤ n → f_X11_hitsOf_26 (d + 3) (rM M o H V X) o sz z (nI (n - m)) = some (.inl (some (.int (qHL kf n sz m z))), rM M o H V X)
  | 0, z, _ => by
    have hlt : ¬ nI n < nI n := by rw [nI_ltP (by omega) (by omega)]; omega
    rw [e_X11_hitsOf_26, Nat.sub_zero]
    simp (maxSteps := 1000000) (disch := first | assumption | omega) only [x_rf, x_m, lt_bv_r, lt_bi_r, lt_bl_r, ↓r_ck, r_get, r_put, r_more, rM_h, rM_f, rM_x, rM_wf, rM_wx, rM_wh, lt_iN, lt_b1_0, lt_b1_1, x_if1, x_eq1, x_10, x_01, x_11, x_00, ↓reduceIte, r_nz, r_ar1L0, r_ar1L1, lt_n0_, lt_n1_, upd_s, upd_o, u2_eq, u2_n1, u2_n2, r_p1, r_p5, r_p6, r_p7, r_p9, r_p10, r_p11, r_p13, r_p19, r_p23, r_p26, r_p27, r_p32, r_p33, r_p34, r_ar1, r_ar9, r_ar10, r_ar11, r_ar12, r_ar13, r_ar14, r_ar15, r_ar16, r_ar17, r_ar18, r_ar19, r_ar74, r_ar75, r_ar76, n2_, n4_, n12_, n24_, n28_, n50_, n54_, n76_, n80_, n102_, n128_, n154_, n180_, n206_, n232_, n258_, n284_, n310_, n336_, n362_, n380_, n680_, r_get0, r_get1, r_get2, r_get3, r_get4, r_get8, r_get9, r_get10, r_get11, r_get12, r_get13, r_put0, r_put1, r_put2, r_put3, r_put4, r_put5, r_put6, r_put7, r_put8, r_put9, r_put10, r_put11, r_more10, r_more12, r_more13, r_more14, r_more15, r_more16, r_more17, r_more18, r_more19, r_more20, h0, hlt]
    rfl
  | m + 1, z, hm => by
    have hlt : nI (n - (m + 1)) < nI n := by rw [nI_ltP (by omega) (by omega)]; omega
    have g2 : nI (n - (m + 1)) + 1 = nI (n - m) := by
      rw [show nI (n - (m + 1)) + 1 = nI (n - (m + 1) + 1) from lt_iA (j := n - (m + 1)) (k := 1)]
      congr 1
      omega
    have ih := fun z => r_hitsOf_26 d h hK hn h0 (sz := sz) m z (by omega)
    have e1 := r_distanceOf (M := M) (o := o) (H := H) (V := V) (X := X) d h hK hn (show n - (m + 1) < n by omega)
    have hs : qHL kf n sz (m + 1) z = qHL kf n sz m (z + bI (qIn (qDist kf (kf (n - (m + 1))) (n - (m + 1)) 0) 1 sz)) := rfl
    rw [e_X11_hitsOf_26, hs]
    simp (maxSteps := 1000000) (disch := first | assumption | omega) only [x_rf, x_m, lt_bv_r, lt_bi_r, lt_bl_r, ↓r_ck, r_get, r_put, r_more, rM_h, rM_f, rM_x, rM_wf, rM_wx, rM_wh, lt_iN, lt_b1_0, lt_b1_1, x_if1, x_eq1, x_10, x_01, x_11, x_00, ↓reduceIte, r_nz, r_ar1L0, r_ar1L1, lt_n0_, lt_n1_, upd_s, upd_o, u2_eq, u2_n1, u2_n2, r_p1, r_p5, r_p6, r_p7, r_p9, r_p10, r_p11, r_p13, r_p19, r_p23, r_p26, r_p27, r_p32, r_p33, r_p34, r_ar1, r_ar9, r_ar10, r_ar11, r_ar12, r_ar13, r_ar14, r_ar15, r_ar16, r_ar17, r_ar18, r_ar19, r_ar74, r_ar75, r_ar76, n2_, n4_, n12_, n24_, n28_, n50_, n54_, n76_, n80_, n102_, n128_, n154_, n180_, n206_, n232_, n258_, n284_, n310_, n336_, n362_, n380_, n680_, r_get0, r_get1, r_get2, r_get3, r_get4, r_get8, r_get9, r_get10, r_get11, r_get12, r_get13, r_put0, r_put1, r_put2, r_put3, r_put4, r_put5, r_put6, r_put7, r_put8, r_put9, r_put10, r_put11, r_more10, r_more12, r_more13, r_more14, r_more15, r_more16, r_more17, r_more18, r_more19, r_more20, h0, hlt, e1, r_in, bI0, g2, ih]
    cases qIn (qDist kf (kf (n - (m + 1))) (n - (m + 1)) 0) 1 sz <;> rfl
/-- hitsOf() -/
def qHits2 (kf : Nat → Nat) (n : Nat) (rule : Int32) (size : Nat) (c0 : Nat → Int32) : Int32 := if rule = 0 then qHL kf n (nI size) n 0 else nI (qPlay kf n rule size n c0).1
theorem r_hitsOf (d : Nat) (h : RA M o) (hK : RK H kf n) (hn : n ≤ 300) (h0 : H 0 = nI n) (hsz : 0 < size) (hsz2 : size < 1000) :
    ∃ X' c0, XQ X X' ∧ f_X11_hitsOf (d + 6) (rM M o H V X) o rule (nI size) = some (.inl (some (.int (qHits2 kf n rule size c0))), rM M o H V X') := by
  unfold qHits2
  by_cases r0 : rule = 0
  · have e := r_hitsOf_26 (M := M) (o := o) (H := H) (V := V) (X := X) (sz := nI size) (d + 3) h hK hn h0 n 0 (Nat.le_refl _)
    rw [Nat.sub_self] at e
    refine ⟨X, (fun _ => 0), XQ.refl, ?_⟩
    rw [e_X11_hitsOf, if_pos r0, if_pos r0]
    exact e
  · obtain ⟨X', c0, a1, a2, a3, a4⟩ := r_plays (M := M) (o := o) (H := H) (V := V) (X := X) (rule := rule) d h hK hn h0 hsz hsz2 (Nat.le_refl n)
    refine ⟨X', c0, a1, ?_⟩
    rw [e_X11_hitsOf, if_neg r0, if_neg r0]
    simp (maxSteps := 1000000) (disch := first | assumption | omega) only [x_rf, x_m, lt_bv_r, lt_bi_r, lt_bl_r, ↓r_ck, r_get, r_put, r_more, rM_h, rM_f, rM_x, rM_wf, rM_wx, rM_wh, lt_iN, lt_b1_0, lt_b1_1, x_if1, x_eq1, x_10, x_01, x_11, x_00, ↓reduceIte, r_nz, r_ar1L0, r_ar1L1, lt_n0_, lt_n1_, upd_s, upd_o, u2_eq, u2_n1, u2_n2, r_p1, r_p5, r_p6, r_p7, r_p9, r_p10, r_p11, r_p13, r_p19, r_p23, r_p26, r_p27, r_p32, r_p33, r_p34, r_ar1, r_ar9, r_ar10, r_ar11, r_ar12, r_ar13, r_ar14, r_ar15, r_ar16, r_ar17, r_ar18, r_ar19, r_ar74, r_ar75, r_ar76, n2_, n4_, n12_, n24_, n28_, n50_, n54_, n76_, n80_, n102_, n128_, n154_, n180_, n206_, n232_, n258_, n284_, n310_, n336_, n362_, n380_, n680_, r_get0, r_get1, r_get2, r_get3, r_get4, r_get8, r_get9, r_get10, r_get11, r_get12, r_get13, r_put0, r_put1, r_put2, r_put3, r_put4, r_put5, r_put6, r_put7, r_put8, r_put9, r_put10, r_put11, r_more10, r_more12, r_more13, r_more14, r_more15, r_more16, r_more17, r_more18, r_more19, r_more20, h0, a4, a2.1]
end Rz
