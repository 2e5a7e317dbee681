/-! THE CLASS, sizes that break what is promised of them */ -/
section Cz
variable {M : LM} {U R C n m i j k t o x : Nat} {Z : CS} {v rule size a c : Int32} {b : Option Nat} {y : Int64} {z : Option (LO × LM)} {s : SD} {kf : Nat → Nat} {set : Int32} {f : Nat → Bool}
theorem nK_lt (hj : j < n) (h : f j = false) : ∀ n, j < n → nK f n + 1 ≤ n := by
  intro n
  induction n with
  | zero => intro e; omega
  | succ n ih =>
    intro e
    show nK f n + (f n).toNat + 1 ≤ n + 1
    by_cases q : j = n
    · have := nK_le (f := f) n
      rw [← q, h] at *
      simp only [Bool.toNat_false]
      omega
    · have := ih (by omega)
      have : (f n).toNat ≤ 1 := Bool.toNat_le _
      omega
theorem qDist_N (hx : x < 26) (hk : ∀ i, i < t → kf i < 26) : ∀ (j : Nat) (set : Int32), j ≤ t → KS set → bt set x = false → qDist kf x j set = -1 ∨ ∃ c, 1 ≤ c ∧ c ≤ 26 ∧ qDist kf x j set = nI c
  | 0, set, _, _, _ => Or.inl rfl
  | j + 1, set, hj, h1, h2 => by
    rw [qDist_s]
    by_cases q : kf j = x
    · rw [if_pos q]
      refine Or.inr ⟨1 + nK (bt set) 26, by omega, ?_, ?_⟩
      · have := nK_lt (f := bt set) (j := x) (n := 26) hx h2 26 hx
        omega
      · rw [pPop_nK h1]
        exact lt_iA (j := 1) (k := nK (bt set) 26)
    · rw [if_neg q]
      have := hk j (by omega)
      refine qDist_N hx hk j _ (by omega) (KS_or h1 (KS_bb this)) ?_
      rw [b_or, h2, bt_bb (by omega) (by omega), decide_eq_false (fun e => q e.symm)]
      rfl
/-- how often each distance comes -/
def kCD (kf : Nat → Nat) (n : Nat) : Nat → (Nat → Int32) → Nat → Int32
  | 0, D => D
  | m + 1, D => kCD kf n m (if qDist kf (kf (n - (m + 1))) (n - (m + 1)) 0 = -1 then D else upd D (lt_n (qDist kf (kf (n - (m + 1))) (n - (m + 1)) 0)) (D (lt_n (qDist kf (kf (n - (m + 1))) (n - (m + 1)) 0)) + 1))
theorem st_cd_10 (d : Nat) (h : SA M U) (hR : RW M R) (hRU : R + 3 < U ∨ U + 5 ≤ R) (hr : RKm M R kf n) (hn : n ≤ 300) (hl : mI M R 3 = nI n) : ∀ (m : Nat) (Z : CS), m ≤ n → f_X7_countDistances_10 (d + 3) (gM M U 5 Z) U R (nI (n - m)) = some (.inl none, gM M U 5 (u1 Z.1 4 (kCD kf n m (Z.1 4)), Z.2))
  | 0, Z, _ => by
    have hlt : ¬ nI (n - 0) < mI M R 3 := by rw [hl, nI_ltP (by omega) (by omega)]; omega
    have hR' : ∀ {Z : CS}, RW (gM M U 5 Z) R := hR
    rw [e_X7_countDistances_10, w_ck hR', gIo (o := R) (by omega), if_neg hlt]
    have : u1 Z.1 4 (kCD kf n 0 (Z.1 4)) = Z.1 := u1i
    rw [this]
  | m + 1, Z, hm => by
    have hlt : nI (n - (m + 1)) < mI M R 3 := by rw [hl, nI_ltP (by omega) (by omega)]; omega
    have hlt2 : nI (n - (m + 1)) < (300 : Int32) := (nI_ltP (j := n - (m + 1)) (k := 300) (by omega) (by omega)).mpr (by omega)
    have g2 : nI (n - (m + 1)) + 1 = nI (n - m) := by
      rw [show nI (n - (m + 1)) + 1 = nI (n - (m + 1) + 1) from lt_iA (j := n - (m + 1)) (k := 1)]
      congr 1
      omega
    have hR' : ∀ {Z : CS}, RW (gM M U 5 Z) R := hR
    have hr' : ∀ {Z : CS}, RKm (gM M U 5 Z) R kf n := RKm_g hr hRU
    have p6 : ∀ {Z : CS}, mP (gM M U 5 Z) U 6 = some (U + 4) := fun {Z} => h.2.2.2.2.1
    have ih := fun Z => st_cd_10 d h hR hRU hr hn hl m Z (by omega)
    have hs : ∀ D, kCD kf n (m + 1) D = kCD kf n m (if qDist kf (kf (n - (m + 1))) (n - (m + 1)) 0 = -1 then D else upd D (lt_n (qDist kf (kf (n - (m + 1))) (n - (m + 1)) 0)) (D (lt_n (qDist kf (kf (n - (m + 1))) (n - (m + 1)) 0)) + 1)) := fun _ => rfl
    rw [e_X7_countDistances_10, w_ck hR', gIo (o := R) (by omega), if_pos hlt, if_pos hlt2, w_ck hR', w_distanceOf d hR' hr' hn (by omega), lt_bi_r, g2, ih, hs]
    rcases qDist_N (kf := kf) (t := n) (hr (n - (m + 1)) (by omega)).1 (fun i hi => (hr i hi).1) (n - (m + 1)) 0 (by omega) KS_0 (b_0 _) with q | ⟨c, c1, c2, q⟩
    · rw [q, if_pos rfl, if_pos rfl]
    · have hne : ¬ nI c = -1 := fun e => by rw [nI_ne1 (by omega)] at e; exact e
      rw [q, if_neg hne, if_neg hne, st_ck h, p6, x_rf, gw_add (d + 1) (by omega) h.2.2.2.2.2.2.2.2 (by omega), lt_bv_r, ih, lt_iN (by omega)]
      congr 3
      refine Prod.ext (funext fun t => funext fun j => ?_) rfl
      show u1 (u2 Z.1 4 c (Z.1 4 c + 1)) 4 (kCD kf n m (u2 Z.1 4 c (Z.1 4 c + 1) 4)) t j = u1 Z.1 4 (kCD kf n m (upd (Z.1 4) c (Z.1 4 c + 1))) t j
      have e : u2 Z.1 4 c (Z.1 4 c + 1) 4 = upd (Z.1 4) c (Z.1 4 c + 1) := funext fun b => by
        unfold u2 upd
        by_cases q : b = c
        · rw [if_pos ⟨rfl, q⟩, if_pos q]
        · rw [if_neg (fun e => q e.2), if_neg q]
      rw [e]
      by_cases q4 : t = 4
      · rw [q4, u1e, u1e]
      · rw [u1_n q4, u1_n q4, z2_n1 q4]
theorem kCD_eq : ∀ (m : Nat) (D D' : Nat → Int32), (∀ k, k < 27 → D k = D' k) → m ≤ n → (∀ i, i < n → kf i < 26) → ∀ k, k < 27 → kCD kf n m D k = kCD kf n m D' k
  | 0, D, D', h, _, _ => h
  | m + 1, D, D', h, hm, hk => by
    refine kCD_eq m _ _ (fun k hk2 => ?_) (by omega) hk
    by_cases q : qDist kf (kf (n - (m + 1))) (n - (m + 1)) 0 = -1
    · rw [if_pos q, if_pos q]; exact h k hk2
    · rw [if_neg q, if_neg q]
      rcases qDist_N (kf := kf) (t := n) (hk (n - (m + 1)) (by omega)) hk (n - (m + 1)) 0 (by omega) KS_0 (b_0 _) with q2 | ⟨c, c1, c2, q2⟩
      · exact absurd q2 q
      · rw [q2, lt_iN (by omega)]
        by_cases q3 : k = c
        · rw [q3, upd_s, upd_s, h c (by omega)]
        · rw [upd_o q3, upd_o q3]; exact h k hk2
theorem st_countDistances (d : Nat) (h : SA M U) (hR : RW M R) (hRU : R + 3 < U ∨ U + 5 ≤ R) (hr : RKm M R kf n) (hn : n ≤ 300) (hl : mI M R 3 = nI n) : ∃ Z', (∀ k, k < 27 → Z'.1 4 k = kCD kf n n (fun _ => 0) k) ∧ f_X7_countDistances (d + 3) (gM M U 5 Z) U R = some (.inl none, gM M U 5 Z') := by
  have p6 : ∀ {Z : CS}, mP (gM M U 5 Z) U 6 = some (U + 4) := fun {Z} => h.2.2.2.2.1
  have e := st_cd_10 (M := M) (U := U) (R := R) (kf := kf) d h hR hRU hr hn hl n (u1 Z.1 4 (fun j => if j < 27 then 0 else Z.1 4 j), Z.2) (Nat.le_refl _)
  rw [Nat.sub_self] at e
  have e2 : f_X7_countDistances (d + 3) (gM M U 5 Z) U R = some (.inl none, gM M U 5 (u1 (u1 Z.1 4 (fun j => if j < 27 then 0 else Z.1 4 j)) 4 (kCD kf n n ((u1 Z.1 4 (fun j => if j < 27 then 0 else Z.1 4 j)) 4)), Z.2)) := by
    rw [e_X7_countDistances, st_ck h, p6, x_rf, j_fillI (M := gM M U 5 Z) (d + 1) h.2.2.2.2.2.2.2.2, g_rI (by omega), gI (by omega), lt_bv_r]
    exact e
  refine ⟨_, fun k hk => ?_, e2⟩
  dsimp only
  rw [u1e, u1e]
  exact kCD_eq n _ _ (fun k hk => if_pos hk) (Nat.le_refl _) (fun i hi => (hr i hi).1) k hk
/-- hits by a rule, as the class plays -/
def kHits (kf : Nat → Nat) (n : Nat) (rule size : Int32) : Int32 := (sPlay rule size kf n n).2.2.1
/-- a size that breaks what is promised -/
def kErr1 (kf : Nat → Nat) (n : Nat) (near ub fb : Int32) (sz : Int32) : Bool :=
  decide (kHits kf n 0 sz = near) && (!decide (kHits kf n 0 sz < ub) && !decide (kHits kf n 1 sz < fb)) && (!decide (kHits kf n (-1) sz < kHits kf n 0 sz) && !decide (kHits kf n (-1) sz < kHits kf n 1 sz) && !decide (kHits kf n (-1) sz < kHits kf n 2 sz)) && !decide (nI n - kHits kf n (-1) sz < kPh kf sz n n 0 0)
def kErrs (kf : Nat → Nat) (n : Nat) (D : Nat → Int32) : Nat → Int32 → Int32 → Int32 → Int32 → Int32
  | 0, z, _, _, _ => z
  | m + 1, z, near, ub, fb => kErrs kf n D m (if kErr1 kf n (near + D (12 - m)) ub fb (nI (12 - m)) = true then z + 0 else z + 1) (near + D (12 - m)) (kHits kf n 0 (nI (12 - m))) (kHits kf n 1 (nI (12 - m)))
theorem st_broken_18 (d : Nat) (h : SA M U) (hR : RW M R) (hRU : R + 3 < U ∨ U + 5 ≤ R) (hr : RKm M R kf n) (hn : n ≤ 300) (hl : mI M R 3 = nI n) {D : Nat → Int32} : ∀ (m : Nat) (Z : CS) (z near ub fb : Int32), m ≤ 12 → (∀ k, k < 27 → Z.1 4 k = D k) → ∃ Z', f_X7_brokenSizes_18 (d + 6) (gM M U 5 Z) U R z near ub fb (nI (13 - m)) = some (.inl (some (.int (kErrs kf n D m z near ub fb))), gM M U 5 Z')
  | 0, Z, z, near, ub, fb, _, _ => ⟨Z, by
    rw [e_X7_brokenSizes_18, if_pos (show (12 : Int32) < nI (13 - 0) by decide)]
    rfl⟩
  | m + 1, Z, z, near, ub, fb, hm, hD => by
    have hlt : ¬ (12 : Int32) < nI (12 - m) := fun e => by have := (nI_ltP (j := 12) (k := 12 - m) (by omega) (by omega)).mp e; omega
    have g2 : nI (12 - m) + 1 = nI (13 - m) := by
      rw [show nI (12 - m) + 1 = nI (12 - m + 1) from lt_iA (j := 12 - m) (k := 1)]
      congr 1
      omega
    have hR' : ∀ {Z : CS}, RW (gM M U 5 Z) R := hR
    have hr' : ∀ {Z : CS}, RKm (gM M U 5 Z) R kf n := RKm_g hr hRU
    have p6 : ∀ {Z : CS}, mP (gM M U 5 Z) U 6 = some (U + 4) := fun {Z} => h.2.2.2.2.1
    obtain ⟨Z1, a1, b1⟩ := st_hitsBy (M := M) (U := U) (R := R) (Z := Z) (rule := 0) (size := nI (12 - m)) (kf := kf) d h hR hRU hr hn hl
    obtain ⟨Z2, a2, b2⟩ := st_hitsBy (M := M) (U := U) (R := R) (Z := Z1) (rule := 1) (size := nI (12 - m)) (kf := kf) d h hR hRU hr hn hl
    obtain ⟨Z3, a3, b3⟩ := st_hitsBy (M := M) (U := U) (R := R) (Z := Z2) (rule := 2) (size := nI (12 - m)) (kf := kf) d h hR hRU hr hn hl
    obtain ⟨Z4, a4, b4⟩ := st_hitsBy (M := M) (U := U) (R := R) (Z := Z3) (rule := -1) (size := nI (12 - m)) (kf := kf) d h hR hRU hr hn hl
    have hD4 : ∀ k, k < 27 → Z4.1 4 k = D k := fun k hk => by
      rw [a4.2.2.2 4 (by decide) (by decide) (by decide), a3.2.2.2 4 (by decide) (by decide) (by decide), a2.2.2.2 4 (by decide) (by decide) (by decide), a1.2.2.2 4 (by decide) (by decide) (by decide)]
      exact hD k hk
    have ih := fun z near ub fb => st_broken_18 d h hR hRU hr hn hl (D := D) m Z4 z near ub fb (by omega) hD4
    have hf1 : kHits kf n 0 (nI (12 - m)) = (sPlay 0 (nI (12 - m)) kf n n).2.2.1 := rfl
    have hf2 : kHits kf n 1 (nI (12 - m)) = (sPlay 1 (nI (12 - m)) kf n n).2.2.1 := rfl
    have hf3 : kHits kf n 2 (nI (12 - m)) = (sPlay 2 (nI (12 - m)) kf n n).2.2.1 := rfl
    have hf4 : kHits kf n (-1) (nI (12 - m)) = (sPlay (-1) (nI (12 - m)) kf n n).2.2.1 := rfl
    obtain ⟨Z', e'⟩ := ih (if kErr1 kf n (near + D (12 - m)) ub fb (nI (12 - m)) = true then z + 0 else z + 1) (near + D (12 - m)) (kHits kf n 0 (nI (12 - m))) (kHits kf n 1 (nI (12 - m)))
    refine ⟨Z', ?_⟩
    have e124 : ∀ (s0 x11 : Bool), f_X7_brokenSizes_124 (d + 6) (gM M U 5 Z4) U R z (near + D (12 - m)) (nI (12 - m)) (kHits kf n 0 (nI (12 - m))) (kHits kf n 1 (nI (12 - m))) (kHits kf n (-1) (nI (12 - m))) (bI x11) (bI s0) =
        f_X7_brokenSizes_18 (d + 6) (gM M U 5 Z4) U R (if (decide (kHits kf n 0 (nI (12 - m)) = near + D (12 - m)) && x11 && s0 && !decide (nI n - kHits kf n (-1) (nI (12 - m)) < kPh kf (nI (12 - m)) n n 0 0)) = true then z + 0 else z + 1) (near + D (12 - m)) (kHits kf n 0 (nI (12 - m))) (kHits kf n 1 (nI (12 - m))) (nI (13 - m)) := by
      intro s0 x11
      have e179 : f_X7_brokenSizes_179 (d + 6) (gM M U 5 Z4) U R (near + D (12 - m)) (nI (12 - m)) (kHits kf n 0 (nI (12 - m))) (kHits kf n 1 (nI (12 - m))) z = f_X7_brokenSizes_18 (d + 6) (gM M U 5 Z4) U R (z + 1) (near + D (12 - m)) (kHits kf n 0 (nI (12 - m))) (kHits kf n 1 (nI (12 - m))) (nI (13 - m)) := by
        rw [e_X7_brokenSizes_179, g2]
      have ew := w_phases (M := gM M U 5 Z4) (R := R) (kf := kf) (n := n) (t := n) (size := nI (12 - m)) (d + 3) hR' hr' hn (Nat.le_refl _)
      have h10 : ¬ (1 : Int32) = 0 := by decide
      rw [e_X7_brokenSizes_124, w_ck hR', w_ck hR', w_ck hR', gIo (o := R) (by omega), hl, ew, lt_bi_r, e179, g2]
      by_cases q1 : nI n - kHits kf n (-1) (nI (12 - m)) < kPh kf (nI (12 - m)) n n 0 0
      · rw [if_pos q1, decide_eq_true q1]
        simp only [Bool.not_true, Bool.and_false, Bool.false_eq_true, if_false]
        by_cases q2 : kHits kf n 0 (nI (12 - m)) = near + D (12 - m)
        · rw [if_pos q2]
          cases x11
          · rfl
          · cases s0
            · rfl
            · rfl
        · rw [if_neg q2]
      · rw [if_neg q1, decide_eq_false q1]
        by_cases q2 : kHits kf n 0 (nI (12 - m)) = near + D (12 - m)
        · rw [if_pos q2, decide_eq_true q2]
          cases x11
          · rfl
          · cases s0
            · rfl
            · rfl
        · rw [if_neg q2, decide_eq_false q2]
          rfl
    have e123 : ∀ (x11 : Bool), f_X7_brokenSizes_123 (d + 6) (gM M U 5 Z4) U R z (near + D (12 - m)) (nI (12 - m)) (kHits kf n 0 (nI (12 - m))) (kHits kf n 1 (nI (12 - m))) (kHits kf n (-1) (nI (12 - m))) (bI x11) = _ := fun x11 => (e_X7_brokenSizes_123 ..).trans (e124 false x11)
    have e96 : ∀ (x11 : Bool), f_X7_brokenSizes_96 (d + 6) (gM M U 5 Z4) U R z (near + D (12 - m)) (nI (12 - m)) (kHits kf n 0 (nI (12 - m))) (kHits kf n 1 (nI (12 - m))) (kHits kf n 2 (nI (12 - m))) (kHits kf n (-1) (nI (12 - m))) (bI x11) =
        f_X7_brokenSizes_18 (d + 6) (gM M U 5 Z4) U R (if (decide (kHits kf n 0 (nI (12 - m)) = near + D (12 - m)) && x11 && (!decide (kHits kf n (-1) (nI (12 - m)) < kHits kf n 0 (nI (12 - m))) && !decide (kHits kf n (-1) (nI (12 - m)) < kHits kf n 1 (nI (12 - m))) && !decide (kHits kf n (-1) (nI (12 - m)) < kHits kf n 2 (nI (12 - m)))) && !decide (nI n - kHits kf n (-1) (nI (12 - m)) < kPh kf (nI (12 - m)) n n 0 0)) = true then z + 0 else z + 1) (near + D (12 - m)) (kHits kf n 0 (nI (12 - m))) (kHits kf n 1 (nI (12 - m))) (nI (13 - m)) := by
      intro x11
      rw [e_X7_brokenSizes_96, e123]
      have := e124 true x11
      rw [show bI true = 1 from rfl] at this
      rw [this]
      by_cases q1 : kHits kf n (-1) (nI (12 - m)) < kHits kf n 0 (nI (12 - m))
      · rw [if_pos q1, decide_eq_true q1]; rfl
      · rw [if_neg q1, decide_eq_false q1]
        by_cases q2 : kHits kf n (-1) (nI (12 - m)) < kHits kf n 1 (nI (12 - m))
        · rw [if_pos q2, decide_eq_true q2]; rfl
        · rw [if_neg q2, decide_eq_false q2]
          by_cases q3 : kHits kf n (-1) (nI (12 - m)) < kHits kf n 2 (nI (12 - m))
          · rw [if_pos q3, decide_eq_true q3]; rfl
          · rw [if_neg q3, decide_eq_false q3]; rfl
    have e95 : f_X7_brokenSizes_95 (d + 6) (gM M U 5 Z4) U R z (near + D (12 - m)) (nI (12 - m)) (kHits kf n 0 (nI (12 - m))) (kHits kf n 1 (nI (12 - m))) (kHits kf n 2 (nI (12 - m))) (kHits kf n (-1) (nI (12 - m))) = _ := (e_X7_brokenSizes_95 ..).trans (e96 false)
    have e96t := e96 true
    rw [show bI true = 1 from rfl] at e96t
    rw [show 13 - (m + 1) = 12 - m by omega, e_X7_brokenSizes_18, if_neg hlt, st_ck h, p6, x_rf, gw_at (d + 4) (by omega) h.2.2.2.2.2.2.2.2 (by omega), hD _ (by omega), lt_bi_r, st_ck h, b1, lt_bi_r, st_ck h, b2, lt_bi_r, st_ck h, b3, lt_bi_r, st_ck h, b4, lt_bi_r, ← hf1, ← hf2, ← hf3, ← hf4, e95, e96t]
    refine Eq.trans ?_ e'
    unfold kErr1
    by_cases q1 : kHits kf n 0 (nI (12 - m)) < ub
    · rw [if_pos q1, decide_eq_true q1]; rfl
    · rw [if_neg q1, decide_eq_false q1]
      by_cases q2 : kHits kf n 1 (nI (12 - m)) < fb
      · rw [if_pos q2, decide_eq_true q2]; rfl
      · rw [if_neg q2, decide_eq_false q2]; rfl
theorem kErrs_eq {D D' : Nat → Int32} : ∀ (m : Nat) (z near ub fb : Int32), m ≤ 12 → (∀ k, k < 27 → D k = D' k) → kErrs kf n D m z near ub fb = kErrs kf n D' m z near ub fb
  | 0, z, near, ub, fb, _, _ => rfl
  | m + 1, z, near, ub, fb, hm, h => by
    show kErrs kf n D m _ _ _ _ = kErrs kf n D' m _ _ _ _
    rw [h (12 - m) (by omega)]
    exact kErrs_eq m _ _ _ _ (by omega) h
theorem st_brokenSizes (d : Nat) (h : SA M U) (hR : RW M R) (hRU : R + 3 < U ∨ U + 5 ≤ R) (hr : RKm M R kf n) (hn : n ≤ 300) (hl : mI M R 3 = nI n) : ∃ Z', f_X7_brokenSizes (d + 6) (gM M U 5 Z) U R = some (.inl (some (.int (kErrs kf n (kCD kf n n (fun _ => 0)) 12 0 0 0 0))), gM M U 5 Z') := by
  obtain ⟨Z1, a1, b1⟩ := st_countDistances (M := M) (U := U) (R := R) (Z := Z) (kf := kf) (d + 2) h hR hRU hr hn hl
  obtain ⟨Z', e⟩ := st_broken_18 (M := M) (U := U) (R := R) (kf := kf) d h hR hRU hr hn hl (D := kCD kf n n (fun _ => 0)) 12 Z1 0 0 0 0 (Nat.le_refl _) a1
  refine ⟨Z', ?_⟩
  rw [e_X7_brokenSizes, st_ck h, b1, lt_bv_r]
  exact e
end Cz
