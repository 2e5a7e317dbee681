/-! THE CLASS, an object and its rows as a window of n cells; what is reckoned anew of the row -/
def gM (M : LM) (U n : Nat) (Z : CS) : LM :=
  (fun b j => if U ≤ b ∧ b < U + n then Z.1 (b - U) j else mI M b j, fun b j => if U ≤ b ∧ b < U + n then Z.2 (b - U) j else mL M b j, M.2.2)
section Cw
variable {M : LM} {U R C n m i j k t o : Nat} {Z : CS} {v x : Int32} {y : Int64} {g : Nat → Int32} {gl : Nat → Int64} {z : Option (LO × LM)}
theorem gI (ht : t < n) : mI (gM M U n Z) (U + t) = Z.1 t := funext fun j => by
  show (if U ≤ U + t ∧ U + t < U + n then Z.1 (U + t - U) j else _) = _
  rw [if_pos (by omega), Nat.add_sub_cancel_left]
theorem gI0 (ht : 0 < n) : mI (gM M U n Z) U = Z.1 0 := gI (t := 0) ht
theorem gL (ht : t < n) : mL (gM M U n Z) (U + t) = Z.2 t := funext fun j => by
  show (if U ≤ U + t ∧ U + t < U + n then Z.2 (U + t - U) j else _) = _
  rw [if_pos (by omega), Nat.add_sub_cancel_left]
theorem gIo (ho : o < U ∨ U + n ≤ o) : mI (gM M U n Z) o = mI M o := funext fun j => if_neg (by omega)
theorem gLo (ho : o < U ∨ U + n ≤ o) : mL (gM M U n Z) o = mL M o := funext fun j => if_neg (by omega)
theorem gwI (ht : t < n) : wI (gM M U n Z) (U + t) j v = gM M U n (cwi Z t j v) := by
  refine Prod.ext (funext fun b => funext fun i => ?_) rfl
  show (if b = U + t ∧ i = j then v else if U ≤ b ∧ b < U + n then Z.1 (b - U) i else mI M b i) = if U ≤ b ∧ b < U + n then u2 Z.1 t j v (b - U) i else mI M b i
  unfold u2
  by_cases hb : b = U + t
  · subst hb
    have q : U ≤ U + t ∧ U + t < U + n := by omega
    rw [if_pos q, if_pos q, Nat.add_sub_cancel_left]
    by_cases hi : i = j
    · rw [if_pos ⟨rfl, hi⟩, if_pos ⟨rfl, hi⟩]
    · rw [if_neg (fun e => hi e.2), if_neg (fun e => hi e.2)]
  · rw [if_neg (fun e => hb e.1)]
    by_cases q : U ≤ b ∧ b < U + n
    · rw [if_pos q, if_pos q, if_neg (by omega)]
    · rw [if_neg q, if_neg q]
theorem gwI0 (ht : 0 < n) : wI (gM M U n Z) U j v = gM M U n (cwi Z 0 j v) := gwI (t := 0) ht
theorem gwL (ht : t < n) : wL (gM M U n Z) (U + t) j y = gM M U n (cwl Z t j y) := by
  refine Prod.ext rfl (Prod.ext (funext fun b => funext fun i => ?_) rfl)
  show (if b = U + t ∧ i = j then y else if U ≤ b ∧ b < U + n then Z.2 (b - U) i else mL M b i) = if U ≤ b ∧ b < U + n then u2 Z.2 t j y (b - U) i else mL M b i
  unfold u2
  by_cases hb : b = U + t
  · subst hb
    have q : U ≤ U + t ∧ U + t < U + n := by omega
    rw [if_pos q, if_pos q, Nat.add_sub_cancel_left]
    by_cases hi : i = j
    · rw [if_pos ⟨rfl, hi⟩, if_pos ⟨rfl, hi⟩]
    · rw [if_neg (fun e => hi e.2), if_neg (fun e => hi e.2)]
  · rw [if_neg (fun e => hb e.1)]
    by_cases q : U ≤ b ∧ b < U + n
    · rw [if_pos q, if_pos q, if_neg (by omega)]
    · rw [if_neg q, if_neg q]
theorem g_rI (ht : t < n) : wRI (gM M U n Z) (U + t) g = gM M U n (u1 Z.1 t g, Z.2) := by
  refine Prod.ext (funext fun b => funext fun i => ?_) rfl
  show u1 (mI (gM M U n Z)) (U + t) g b i = if U ≤ b ∧ b < U + n then u1 Z.1 t g (b - U) i else mI M b i
  by_cases hb : b = U + t
  · subst hb
    rw [if_pos (by omega), Nat.add_sub_cancel_left, u1e, u1e]
  · rw [u1_n hb]
    show (if U ≤ b ∧ b < U + n then Z.1 (b - U) i else _) = _
    by_cases q : U ≤ b ∧ b < U + n
    · rw [if_pos q, if_pos q, u1_n (by omega)]
    · rw [if_neg q, if_neg q]
theorem g_rL (ht : t < n) : wRL (gM M U n Z) (U + t) gl = gM M U n (Z.1, u1 Z.2 t gl) := by
  refine Prod.ext rfl (Prod.ext (funext fun b => funext fun i => ?_) rfl)
  show u1 (mL (gM M U n Z)) (U + t) gl b i = if U ≤ b ∧ b < U + n then u1 Z.2 t gl (b - U) i else mL M b i
  by_cases hb : b = U + t
  · subst hb
    rw [if_pos (by omega), Nat.add_sub_cancel_left, u1e, u1e]
  · rw [u1_n hb]
    show (if U ≤ b ∧ b < U + n then Z.2 (b - U) i else _) = _
    by_cases q : U ≤ b ∧ b < U + n
    · rw [if_pos q, if_pos q, u1_n (by omega)]
    · rw [if_neg q, if_neg q]
def tG (M : LM) (U : Nat) : CS := (fun t j => mI M (U + t) j, fun t j => mL M (U + t) j)
theorem gM_id : gM M U n (tG M U) = M := by
  refine Prod.ext (funext fun b => funext fun i => ?_) (Prod.ext (funext fun b => funext fun i => ?_) rfl)
  · show (if U ≤ b ∧ b < U + n then mI M (U + (b - U)) i else mI M b i) = mI M b i
    by_cases q : U ≤ b ∧ b < U + n
    · rw [if_pos q, show U + (b - U) = b by omega]
    · rw [if_neg q]
  · show (if U ≤ b ∧ b < U + n then mL M (U + (b - U)) i else mL M b i) = mL M b i
    by_cases q : U ≤ b ∧ b < U + n
    · rw [if_pos q, show U + (b - U) = b by omega]
    · rw [if_neg q]
theorem gw_at (d : Nat) (ht : t < n) (h : aI M (U + t) m) (hk : k < m) : f_X10_at (d + 1) (gM M U n Z) (U + t) (nI k) = some (.inl (some (.int (Z.1 t k))), gM M U n Z) := by rw [s10_at (M := gM M U n Z) d h hk, gI ht]
theorem gw_put (d : Nat) (ht : t < n) (h : aI M (U + t) m) (hk : k < m) : f_X10_put (d + 1) (gM M U n Z) (U + t) (nI k) v = some (.inl none, gM M U n (cwi Z t k v)) := by rw [s10_put (M := gM M U n Z) d h hk, gwI ht]
theorem gw_add (d : Nat) (ht : t < n) (h : aI M (U + t) m) (hk : k < m) : f_X10_add (d + 1) (gM M U n Z) (U + t) (nI k) v = some (.inl none, gM M U n (cwi Z t k (Z.1 t k + v))) := by rw [s10_add (M := gM M U n Z) d h hk, gI ht, gwI ht]
theorem gw_atL (d : Nat) (ht : t < n) (h : aL M (U + t) m) (hk : k < m) : f_X10_at_ (d + 1) (gM M U n Z) (U + t) (nI k) = some (.inl (some (.long (Z.2 t k))), gM M U n Z) := by rw [s10_atL (M := gM M U n Z) d h hk, gL ht]
theorem gw_putL (d : Nat) (ht : t < n) (h : aL M (U + t) m) (hk : k < m) : f_X10_put_ (d + 1) (gM M U n Z) (U + t) (nI k) y = some (.inl none, gM M U n (cwl Z t k y)) := by rw [s10_putL (M := gM M U n Z) d h hk, gwL ht]
theorem RW_g (h : RW M R) : RW (gM M U n Z) R := h
theorem RKm_g {kf : Nat → Nat} (h : RKm M R kf m) (hR : R + 3 < U ∨ U + n ≤ R) : RKm (gM M U n Z) R kf m := fun i hi => by
  rw [gIo (by omega)]
  exact h i hi
end Cw
/-- the study: what is held, what went last, hits, ranks -/
abbrev SD : Type := Int32 × Option Nat × Int32 × (Nat → Int64)
def zS (Z : CS) (s : SD) : CS := (u2 (u2 (u2 Z.1 0 0 s.1) 0 1 (oI s.2.1)) 0 2 s.2.2.1, u1 Z.2 1 s.2.2.2)
def SA (M : LM) (U : Nat) : Prop := mK M U = 23 ∧ mP M U 3 = some (U + 1) ∧ mP M U 4 = some (U + 2) ∧ mP M U 5 = some (U + 3) ∧ mP M U 6 = some (U + 4) ∧ aL M (U + 1) 26 ∧ aI M (U + 2) 26 ∧ aI M (U + 3) 300 ∧ aI M (U + 4) 27
def sRank (rule : Int32) (ask : Nat → Int32) (ranks : Nat → Int64) (k i : Nat) : Int64 := if rule.toInt = -1 then Int32.toInt64 (-(ask i)) else if rule.toInt = 1 then pRank (ranks k) (nI i) else Int32.toInt64 (nI i)
def sOut (size : Int32) (s : SD) (k : Nat) : Option Nat := if bt s.1 k = true then none else if pPop s.1 < size then none else lO s.1 s.2.2.2
def sStep (rule size : Int32) (ask : Nat → Int32) (k i : Nat) (s : SD) : SD :=
  ((s.1 &&& (obb (sOut size s k) ^^^ -1)) ||| bb k, sOut size s k, s.2.2.1 + (if bt s.1 k = true then 1 else 0), if bt s.1 k = true ∧ rule = 2 then s.2.2.2 else u1 s.2.2.2 k (sRank rule ask s.2.2.2 k i))
def sFeed (rule size : Int32) (ask : Nat → Int32) (kf : Nat → Nat) (t : Nat) : Nat → SD → SD
  | 0, s => s
  | m + 1, s => sFeed rule size ask kf t m (sStep rule size ask (kf (t - (m + 1))) (t - (m + 1)) s)
def sNext (kf : Nat → Nat) : Nat → Nat → Nat → Nat
  | 0, _, k => 300 + k
  | m + 1, i, k => if kf i = k then i else sNext kf m (i + 1) k
section Cx
variable {M : LM} {U R C n m i j k t o : Nat} {Z : CS} {v x rule size a c : Int32} {b : Option Nat} {r r' : Nat → Int64} {y : Int64} {g : Nat → Int32} {gl : Nat → Int64} {z : Option (LO × LM)} {s : SD} {kf : Nat → Nat}
theorem zS_w0 : cwi (zS Z s) 0 0 v = zS Z (v, s.2) := by
  refine Prod.ext (funext fun t => funext fun j => ?_) rfl
  show u2 (u2 (u2 (u2 Z.1 0 0 s.1) 0 1 (oI s.2.1)) 0 2 s.2.2.1) 0 0 v t j = u2 (u2 (u2 Z.1 0 0 v) 0 1 (oI s.2.1)) 0 2 s.2.2.1 t j
  unfold u2
  by_cases q0 : t = 0 ∧ j = 0
  · rw [if_pos q0, if_neg (by omega), if_neg (by omega), if_pos q0]
  · rw [if_neg q0, if_neg q0, if_neg q0]
theorem zS_w1 : cwi (zS Z s) 0 1 (oI b) = zS Z (s.1, b, s.2.2) := by
  refine Prod.ext (funext fun t => funext fun j => ?_) rfl
  show u2 (u2 (u2 (u2 Z.1 0 0 s.1) 0 1 (oI s.2.1)) 0 2 s.2.2.1) 0 1 (oI b) t j = u2 (u2 (u2 Z.1 0 0 s.1) 0 1 (oI b)) 0 2 s.2.2.1 t j
  unfold u2
  by_cases q0 : t = 0 ∧ j = 1
  · rw [if_pos q0, if_neg (by omega), if_pos q0]
  · rw [if_neg q0, if_neg q0, if_neg q0]
theorem zS_w2 : cwi (zS Z s) 0 2 v = zS Z (s.1, s.2.1, v, s.2.2.2) := by
  refine Prod.ext (funext fun t => funext fun j => ?_) rfl
  show u2 (u2 (u2 (u2 Z.1 0 0 s.1) 0 1 (oI s.2.1)) 0 2 s.2.2.1) 0 2 v t j = u2 (u2 (u2 Z.1 0 0 s.1) 0 1 (oI s.2.1)) 0 2 v t j
  unfold u2
  by_cases q0 : t = 0 ∧ j = 2
  · rw [if_pos q0, if_pos q0]
  · rw [if_neg q0, if_neg q0, if_neg q0]
theorem zS_wr : cwl (zS Z s) 1 k y = zS Z (s.1, s.2.1, s.2.2.1, u1 s.2.2.2 k y) := by
  refine Prod.ext rfl (funext fun t => funext fun j => ?_)
  show u2 (u1 Z.2 1 s.2.2.2) 1 k y t j = u1 Z.2 1 (u1 s.2.2.2 k y) t j
  unfold u2
  by_cases q0 : t = 1
  · subst q0
    rw [u1e, u1e]
    by_cases q : j = k
    · rw [if_pos ⟨rfl, q⟩, q, u1e]
    · rw [if_neg (fun e => q e.2), u1_n q]
  · rw [if_neg (fun e => q0 e.1), u1_n q0, u1_n q0]
theorem zS_0 : (zS Z s).1 0 0 = s.1 := by
  show u2 (u2 (u2 Z.1 0 0 s.1) 0 1 (oI s.2.1)) 0 2 s.2.2.1 0 0 = s.1
  rw [z2_n2 (by decide), z2_n2 (by decide), z2_eq]
theorem zS_1 : (zS Z s).1 0 1 = oI s.2.1 := by
  show u2 (u2 (u2 Z.1 0 0 s.1) 0 1 (oI s.2.1)) 0 2 s.2.2.1 0 1 = _
  rw [z2_n2 (by decide), z2_eq]
theorem zS_2 : (zS Z s).1 0 2 = s.2.2.1 := by
  show u2 (u2 (u2 Z.1 0 0 s.1) 0 1 (oI s.2.1)) 0 2 s.2.2.1 0 2 = _
  rw [z2_eq]
theorem zS_r : (zS Z s).2 1 = s.2.2.2 := by
  show u1 Z.2 1 s.2.2.2 1 = _
  rw [u1e]
theorem zS_t (ht : t ≠ 0) : (zS Z s).1 t = Z.1 t := by
  show u2 (u2 (u2 Z.1 0 0 s.1) 0 1 (oI s.2.1)) 0 2 s.2.2.1 t = _
  rw [z2_n1 ht, z2_n1 ht, z2_n1 ht]
theorem st_ck (h : SA M U) : lt_ck (gM M U 5 Z) U 23 z = z := lt_ck_t (M := gM M U 5 Z) h.1
theorem st_least (d : Nat) (h : SA M U) : f_X10_least (d + 1) (gM M U 5 (zS Z s)) x (U + 1) = some (.inl (some (.int (oI (lO x s.2.2.2)))), gM M U 5 (zS Z s)) := by
  rw [s10_least (M := gM M U 5 (zS Z s)) d h.2.2.2.2.2.1 (by omega), gL (by omega), zS_r]
  exact congrArg (fun q => some (Sum.inl (some (Value.int q)), gM M U 5 (zS Z s))) pLst_lO
theorem st_rank (d : Nat) (h : SA M U) (hk : k < 26) (hi : i < 300) : f_X7_rankBehind (d + 2) (gM M U 5 (zS Z s)) U rule (nI k) (nI i) = some (.inl (some (.long (sRank rule (Z.1 3) s.2.2.2 k i))), gM M U 5 (zS Z s)) := by
  rw [e_X7_rankBehind]
  unfold sRank
  by_cases q : rule.toInt = -1
  · have p5 : mP (gM M U 5 (zS Z s)) U 5 = some (U + 3) := h.2.2.2.1
    rw [if_pos q, if_pos q, st_ck h, p5, x_rf, gw_at d (by omega) h.2.2.2.2.2.2.2.1 hi, lt_bi_r, zS_t (by decide)]
  · rw [if_neg q, if_neg q]
    by_cases q1 : rule.toInt = 1
    · have p3 : mP (gM M U 5 (zS Z s)) U 3 = some (U + 1) := h.2.1
      rw [if_pos q1, if_pos q1, st_ck h, p3, x_rf, gw_atL d (by omega) h.2.2.2.2.2.1 hk, lt_bl_r, zS_r, c_rank, lt_bl_r]
    · rw [if_neg q1, if_neg q1]
theorem st_feed_123 (d : Nat) (h : SA M U) (hk : k < 26) (hi : i < 300) {x3 x4 : Int32} {hit : Bool} (hs : (sOut x3 s k) = none) (hh : hit = bt s.1 k) : f_X7_feed_123 (d + 3) (gM M U 5 (zS Z (s.1, s.2.1, s.2.2.1 + (if bt s.1 k = true then 1 else 0), s.2.2.2))) U R rule x3 x4 (nI i) (nI k) (bI hit) U = f_X7_feed_36 (d + 3) (gM M U 5 (zS Z (sStep rule x3 (Z.1 3) k i s))) U R rule x3 x4 (nI i + 1) := by
  have p3 : ∀ {s : SD}, mP (gM M U 5 (zS Z s)) U 3 = some (U + 1) := fun {s} => h.2.1
  have hb0 : f_X10_bit (d + 2) (gM M U 5 (zS Z (s.1, none, s.2.2.1 + (if bt s.1 k = true then 1 else 0), s.2.2.2))) (-1) = some (.inl (some (.int 0)), gM M U 5 (zS Z (s.1, none, s.2.2.1 + (if bt s.1 k = true then 1 else 0), s.2.2.2))) := k_bitO (d + 1) (b := none) (fun j e => by cases e)
  have e1 : cwi (zS Z (s.1, s.2.1, s.2.2.1 + (if bt s.1 k = true then 1 else 0), s.2.2.2)) 0 1 (-1) = zS Z (s.1, none, s.2.2.1 + (if bt s.1 k = true then 1 else 0), s.2.2.2) := zS_w1 (b := none)
  have er := fun s => st_rank (M := M) (U := U) (Z := Z) (s := s) (rule := rule) d h hk hi
  have ep := fun s y => gw_putL (M := M) (U := U) (n := 5) (Z := zS Z s) (y := y) (d + 1) (t := 1) (by omega) h.2.2.2.2.2.1 hk
  unfold sStep
  rw [hs, e_X7_feed_123, st_ck h, gwI0 (by omega), e1, x_m, st_ck h, st_ck h, gI0 (by omega), zS_1]
  dsimp only
  rw [show oI none = -1 from rfl, hb0, lt_bi_r, s10_bit (d + 1) hk, lt_bi_r, st_ck h, zS_0, gwI0 (by omega), zS_w0, x_m]
  dsimp only
  have key : ∀ v, (lt_ck (gM M U 5 (zS Z (v, none, s.2.2.1 + (if bt s.1 k = true then 1 else 0), s.2.2.2))) U 23 (lt_rf (mP (gM M U 5 (zS Z (v, none, s.2.2.1 + (if bt s.1 k = true then 1 else 0), s.2.2.2))) U 3) fun q38 => lt_ck (gM M U 5 (zS Z (v, none, s.2.2.1 + (if bt s.1 k = true then 1 else 0), s.2.2.2))) U 23 (lt_bl (f_X7_rankBehind (d + 2) (gM M U 5 (zS Z (v, none, s.2.2.1 + (if bt s.1 k = true then 1 else 0), s.2.2.2))) U rule (nI k) (nI i)) [] fun v40 M39 => lt_bv (f_X10_put_ (d + 2) M39 q38 (nI k) v40) [] fun M41 => f_X7_feed_36 (d + 2 + 1) M41 U R rule x3 x4 (nI i + 1)))) = f_X7_feed_36 (d + 3) (gM M U 5 (zS Z (v, none, s.2.2.1 + (if bt s.1 k = true then 1 else 0), u1 s.2.2.2 k (sRank rule (Z.1 3) s.2.2.2 k i)))) U R rule x3 x4 (nI i + 1) := fun v => by
    rw [st_ck h, p3, x_rf, st_ck h, er, lt_bl_r, ep, lt_bv_r, zS_wr]
  have hv : (s.1 &&& (0 ^^^ -1)) ||| bb k = (s.1 &&& (obb none ^^^ -1)) ||| bb k := rfl
  subst hh
  by_cases b : bt s.1 k = true
  · rw [show bI (bt s.1 k) = 1 by rw [b]; rfl, if_neg (by decide)]
    by_cases q : rule = 2
    · rw [if_pos q, if_pos (c := bt s.1 k = true ∧ rule = 2) ⟨b, q⟩]
      rfl
    · rw [if_neg q, if_neg (c := bt s.1 k = true ∧ rule = 2) (fun e => q e.2)]
      exact key _
  · rw [show bI (bt s.1 k) = 0 by rw [show bt s.1 k = false by simpa using b]; rfl, if_pos rfl, if_neg (c := bt s.1 k = true ∧ rule = 2) (fun e => b e.1)]
    exact key _
end Cx
