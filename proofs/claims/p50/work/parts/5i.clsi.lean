/-! THE CLASS, the search for rows that shame: offered, gone on, kept, looked for -/
/-- a row read anywhere -/
def hAt (n : Nat) (g : Nat → Int32) (x : Int32) : Int32 := if x < 0 then 0 else if x < nI n then g (lt_n x) else 0
def hBack (s : HS) : Nat → Int32 → (Nat → Int32) → Nat → Int32
  | 0, _, F => F
  | m + 1, x, F => hBack s m (hAt 1200 s.2.2.2.1 x) (upd F m (hAt 1200 s.2.2.2.2.1 x))
def hKeep (s : HS) (nd k len : Nat) (F : Nat → Int32) : Nat → Int32 := hBack s (len - 1) (nI nd) (upd F (len - 1) (nI k))
/-- marks, room, the greater room, keys -/
abbrev HP : Type := Int32 × Nat × Nat × Nat
def hThere (p : HP) (lq gq asked : Int32) (k : Nat) : Int64 :=
  (Int32.toInt64 (hBehind p.1 lq p.2.1 (nI k)) ||| lt_lsl (Int32.toInt64 (hBehind p.1 gq p.2.2.1 (nI k))) 16) ||| lt_lsl (Int32.toInt64 (if asked < nI k + 1 then nI k + 1 else asked)) 40
def hGain (lq gq : Int32) (k : Nat) : Int32 := (if hPlace lq (nI k) = none then 0 else 1) - (if hPlace gq (nI k) = none then 0 else 1)
def hGoK (p : HP) (nd : Nat) (lq gq asked : Int32) : Nat → Nat → HS → HS × Option Nat
  | 0, _, s => (s, none)
  | m + 1, k, s => if asked < nI k then (s, none) else
    if 0 < s.2.2.1 nd + hGain lq gq k then (s, some k) else
    hGoK p nd lq gq asked m (k + 1) (hOffer s (hThere p lq gq asked k) (s.2.2.1 nd + hGain lq gq k) (nI nd) (nI k))
def hGo (p : HP) (nd : Nat) (s : HS) : HS × Option Nat := hGoK p nd (Int64.toInt32 (s.2.1 nd &&& 65535)) (Int64.toInt32 (lt_lus (s.2.1 nd) 16 &&& 16777215)) (Int64.toInt32 (lt_lus (s.2.1 nd) 40)) p.2.2.2 0 s
/-- the nodes of a layer: the first that goes on to a row that shames, and by which key -/
def hNodes (p : HP) : Nat → Nat → HS → HS × Option (Nat × Nat)
  | 0, _, s => (s, none)
  | m + 1, nd, s => match (hGo p nd s).2 with
    | some k => ((hGo p nd s).1, some (nd, k))
    | none => hNodes p m (nd + 1) (hGo p nd s).1
def hLayers (p : HP) : Nat → Nat → Nat → HS → HS × Option (Nat × Nat × Nat)
  | 0, _, _, s => (s, none)
  | m + 1, len, layer, s => match (hNodes p (s.1 - layer) layer s).2 with
    | some r => ((hNodes p (s.1 - layer) layer s).1, some (len, r))
    | none => hLayers p m (len + 1) s.1 (hNodes p (s.1 - layer) layer s).1
section Dd
variable {M : LM} {P n m i j k t most len nd o : Nat} {Z Z' : CS} {v c q key lead from_ marks x : Int32} {st : Int64} {z : Option (LO × LM)} {s : HS} {p : HP} {F : Nat → Int32}
theorem s10_atG (d : Nat) (h : aI M o n) : f_X10_at (d + 1) M o x = some (.inl (some (.int (hAt n (mI M o) x))), M) := by
  obtain ⟨h1, h2, h3⟩ := h
  rw [e_X10_at]
  unfold hAt
  by_cases a : x < 0
  · rw [if_pos a, if_pos a]
  · rw [if_neg a, if_neg a, lt_al_t (by omega), h2]
    by_cases b : x < nI n
    · have a' : (0 : Int) ≤ x.toInt := by
        rw [Int32.lt_iff_toInt_lt] at a
        have : (0 : Int32).toInt = 0 := rfl
        omega
      have b' : x.toInt < (n : Int) := by
        rw [Int32.lt_iff_toInt_lt, lt_iT (by omega)] at b
        exact b
      rw [if_pos b, if_pos b, lt_ar_t h1 ⟨a', by rw [h2]; exact b'⟩]
    · rw [if_neg b, if_neg b]
theorem h_offer_14 (d : Nat) (h : PA' M P) (hR : HR Z s) : ∀ (m i : Nat), m ≤ 2048 → i < 2048 → ∃ Z', f_X6_offer_14 (d + 2) (gM M P 7 Z) P st lead from_ key (nI i) (nI (2048 - m)) = some (.inl none, gM M P 7 Z') ∧ HR Z' (hPut s (hProbe s st m i) st lead from_ key) ∧ HK Z Z'
  | 0, i, _, hi => by
    rw [e_X6_offer_14, if_neg (by decide)]
    exact h_offer_83 d h hR hi (st0 := 0)
  | m + 1, i, hm, hi => by
    have hlt : nI (2048 - (m + 1)) < (2048 : Int32) := (nI_ltP (j := 2048 - (m + 1)) (k := 2048) (by omega) (by omega)).mpr (by omega)
    have g2 : nI (2048 - (m + 1)) + 1 = nI (2048 - m) := by
      rw [show nI (2048 - (m + 1)) + 1 = nI (2048 - (m + 1) + 1) from lt_iA (j := 2048 - (m + 1)) (k := 1)]
      congr 1
      omega
    have g1 : nI i + 1 = nI (i + 1) := lt_iA (j := i) (k := 1)
    obtain ⟨r1, r2, r3, r4⟩ := hR
    obtain ⟨a1, a2⟩ := r4 i hi
    rw [e_X6_offer_14, if_pos hlt, h_ck h, h_p11 h, x_rf, gw_at d (by omega) (h_a6 h) hi, lt_bi_r, a1]
    unfold hProbe
    by_cases q : s.2.2.2.2.2 i = 0
    · rw [if_pos (by rw [nI_pos1 (by omega)]; exact q), if_pos q]
      exact h_offer_83 d h ⟨r1, r2, r3, r4⟩ hi (st0 := 0)
    · have e1 : nI (s.2.2.2.2.2 i) - 1 = nI (s.2.2.2.2.2 i - 1) := nI_sub (b := 1) (by omega)
      obtain ⟨b1, b2, b3, b4⟩ := r3 (s.2.2.2.2.2 i - 1) (by omega)
      rw [if_neg (by rw [nI_pos1 (by omega)]; exact q), if_neg q, h_ck h, h_p7 h, x_rf, e1, gw_atL d (by omega) (h_a2 h) (by omega), lt_bl_r, b1]
      by_cases q2 : s.2.1 (s.2.2.2.2.2 i - 1) = st
      · rw [if_pos (by rw [cmp0]; exact q2), if_pos q2]
        exact h_offer_83 d h ⟨r1, r2, r3, r4⟩ hi (st0 := 0)
      · rw [if_neg (by rw [cmp0]; exact q2), if_neg q2, g1, g2]
        by_cases q3 : i + 1 < 2048
        · have hl3 : nI (i + 1) < (2048 : Int32) := (nI_ltP (j := i + 1) (k := 2048) (by omega) (by omega)).mpr q3
          rw [if_pos hl3, if_pos q3]
          exact h_offer_14 d h ⟨r1, r2, r3, r4⟩ m (i + 1) (by omega) q3
        · have hl3 : ¬ nI (i + 1) < (2048 : Int32) := fun e => q3 ((nI_ltP (j := i + 1) (k := 2048) (by omega) (by omega)).mp e)
          rw [if_neg hl3, if_neg q3]
          exact h_offer_14 d h ⟨r1, r2, r3, r4⟩ m 0 (by omega) (by omega)
theorem h_offer (d : Nat) (h : PA' M P) (hR : HR Z s) : ∃ Z', f_X6_offer (d + 2) (gM M P 7 Z) P st lead from_ key = some (.inl none, gM M P 7 Z') ∧ HR Z' (hOffer s st lead from_ key) ∧ HK Z Z' := by
  obtain ⟨a1, a2⟩ := hSlot_lt (st := st)
  have := h_offer_14 (st := st) (lead := lead) (from_ := from_) (key := key) d h hR 2048 (hSlot st) (Nat.le_refl _) a1
  rw [Nat.sub_self] at this
  rw [e_X6_offer, a2]
  exact this
theorem h_keep_24 (d : Nat) (h : PA' M P) (hR : HR Z s) : ∀ (m : Nat) (x : Int32) (F : Nat → Int32), m ≤ 12 → f_X6_keep_24 (d + 2) (gM M P 7 (u1 Z.1 1 F, Z.2)) P x (nI m + -1) = some (.inl none, gM M P 7 (u1 Z.1 1 (hBack s m x F), Z.2))
  | 0, x, F, _ => by
    rw [e_X6_keep_24, if_pos (show nI 0 + -1 < 0 by decide)]
    rfl
  | m + 1, x, F, hm => by
    have e : nI (m + 1) + -1 = nI m := by
      rw [← Int32.sub_eq_add_neg]
      exact lt_sub1
    obtain ⟨r1, r2, r3, r4⟩ := hR
    have hg : ∀ (g g' : Nat → Int32), (∀ i, i < 1200 → g i = g' i) → hAt 1200 g x = hAt 1200 g' x := fun g g' hh => by
      unfold hAt
      by_cases a : x < 0
      · rw [if_pos a, if_pos a]
      · rw [if_neg a, if_neg a]
        by_cases b : x < nI 1200
        · have b' : x.toInt < (1200 : Int) := by
            rw [Int32.lt_iff_toInt_lt, lt_iT (by omega)] at b
            exact b
          have : lt_n x < 1200 := by
            show x.toInt.toNat < 1200
            omega
          rw [if_pos b, if_pos b, hh _ this]
        · rw [if_neg b, if_neg b]
    have ea5 := fun (F : Nat → Int32) => s10_atG (M := gM M P 7 (u1 Z.1 1 F, Z.2)) (o := P + 5) (x := x) d (h_a5 h)
    have ea4 := fun (F : Nat → Int32) => s10_atG (M := gM M P 7 (u1 Z.1 1 F, Z.2)) (o := P + 4) (x := x) d (h_a4 h)
    have e5 : ∀ F, hAt 1200 (mI (gM M P 7 (u1 Z.1 1 F, Z.2)) (P + 5)) x = hAt 1200 s.2.2.2.2.1 x := fun F => hg _ _ (fun i hi => by rw [gI (by omega)]; show u1 Z.1 1 F 5 i = _; rw [u1_n (by decide)]; exact (r3 i hi).2.2.2)
    have e4 : ∀ F, hAt 1200 (mI (gM M P 7 (u1 Z.1 1 F, Z.2)) (P + 4)) x = hAt 1200 s.2.2.2.1 x := fun F => hg _ _ (fun i hi => by rw [gI (by omega)]; show u1 Z.1 1 F 4 i = _; rw [u1_n (by decide)]; exact (r3 i hi).2.2.1)
    have ew : ∀ v, cwi (u1 Z.1 1 F, Z.2) 1 m v = (u1 Z.1 1 (upd F m v), Z.2) := fun v => Prod.ext (funext fun t => funext fun j => by
      show u2 (u1 Z.1 1 F) 1 m v t j = u1 Z.1 1 (upd F m v) t j
      unfold u2
      by_cases qt : t = 1
      · rw [qt, u1e, u1e]
        unfold upd
        by_cases qj : j = m
        · rw [if_pos ⟨rfl, qj⟩, if_pos qj]
        · rw [if_neg (fun e => qj e.2), if_neg qj]
      · rw [if_neg (fun e => qt e.1), u1_n qt, u1_n qt]) rfl
    rw [e, e_X6_keep_24, if_neg (lt_neg (by omega)), h_ck h, h_p0 h, x_rf, h_ck h, h_p10 h, x_rf, ea5, lt_bi_r, e5, gw_put d (by omega) (h_a1 h) (by omega), lt_bv_r, ew, h_ck h, h_p9 h, x_rf, ea4, lt_bi_r, e4, h_keep_24 d h ⟨r1, r2, r3, r4⟩ m _ _ (by omega)]
    rfl
theorem h_keep (d : Nat) (h : PA' M P) (hR : HR Z s) (h1 : 1 ≤ len) (h2 : len ≤ 12) : f_X6_keep (d + 2) (gM M P 7 Z) P (nI nd) (nI k) (nI len) = some (.inl none, gM M P 7 (cwi (u1 Z.1 1 (hKeep s nd k len (Z.1 1)), Z.2) 0 1 (nI len))) := by
  have hR1 : HR (cwi Z 0 1 (nI len)) s := by
    obtain ⟨r1, r2, r3, r4⟩ := hR
    refine ⟨(cwi_n (by decide)).trans r1, r2, fun i hi => ?_, fun i hi => ?_⟩
    · rw [cwi_z (by decide), cwi_z (by decide), cwi_z (by decide)]
      exact r3 i hi
    · rw [cwi_z (by decide)]
      exact r4 i hi
  have e1 : nI len - 1 = nI (len - 1) := nI_sub (b := 1) h1
  have e2 : nI len - 2 = nI (len - 1) + -1 := by
    rw [← e1, show (2 : Int32) = 1 + 1 by decide, Int32.sub_eq_add_neg, Int32.sub_eq_add_neg, Int32.add_assoc]
    congr 1
  have eu : (cwi Z 0 1 (nI len)).1 = u1 (cwi Z 0 1 (nI len)).1 1 (Z.1 1) := by
    conv => lhs; rw [← u1i (f := (cwi Z 0 1 (nI len)).1) (i := 1)]
    rw [cwi_z (by decide)]
  have ew : ∀ v, cwi (u1 (cwi Z 0 1 (nI len)).1 1 (Z.1 1), Z.2) 1 (len - 1) v = (u1 (cwi Z 0 1 (nI len)).1 1 (upd (Z.1 1) (len - 1) v), Z.2) := fun v => Prod.ext (funext fun t => funext fun j => by
      show u2 (u1 (cwi Z 0 1 (nI len)).1 1 (Z.1 1)) 1 (len - 1) v t j = u1 (cwi Z 0 1 (nI len)).1 1 (upd (Z.1 1) (len - 1) v) t j
      unfold u2
      by_cases qt : t = 1
      · rw [qt, u1e, u1e]
        unfold upd
        by_cases qj : j = len - 1
        · rw [if_pos ⟨rfl, qj⟩, if_pos qj]
        · rw [if_neg (fun e => qj e.2), if_neg qj]
      · rw [if_neg (fun e => qt e.1), u1_n qt, u1_n qt]) rfl
  have ez : cwi Z 0 1 (nI len) = (u1 (cwi Z 0 1 (nI len)).1 1 (Z.1 1), Z.2) := Prod.ext eu rfl
  have e24 := h_keep_24 (M := M) (P := P) (Z := cwi Z 0 1 (nI len)) (s := s) d h hR1 (len - 1) (nI nd) (upd (Z.1 1) (len - 1) (nI k)) (by omega)
  rw [e_X6_keep, h_ck h, gwI0 (by omega), x_m, h_ck h, h_p0 h, x_rf, e1, ez, gw_put d (by omega) (h_a1 h) (by omega), lt_bv_r, ew, e2]
  refine e24.trans ?_
  congr 3
  refine Prod.ext (funext fun t => funext fun j => ?_) rfl
  show u1 (u2 Z.1 0 1 (nI len)) 1 _ t j = u2 (u1 Z.1 1 _) 0 1 (nI len) t j
  unfold u2
  by_cases qt : t = 1
  · rw [qt, u1e, if_neg (fun e => by cases e.1), u1e]
    rfl
  · rw [u1_n qt, u1_n qt]
end Dd
