/-! THE REFERENCE, method by method: what its runs answer (mathematics begins here) -/
section Base
variable {M : LM} {a c q : Nat} {i : Int32} {x : Option (LO × LM)}
theorem lt_ck_t (h : mK M a = c) : lt_ck M a c x = x := if_pos h
theorem lt_rf_t {o : Option Nat} {f : Nat → Option (LO × LM)} (h : o = some q) : lt_rf o f = f q := by rw [h]; rfl
theorem lt_ar_t (h : mK M a = c) (hi : 0 ≤ i.toInt ∧ i.toInt < (mZ M a : Int)) : lt_ar M a c i x = x := if_pos ⟨h, hi⟩
theorem lt_b1_0 : lt_b1 0 x = x := if_pos (Or.inl rfl)
theorem lt_b1_1 : lt_b1 1 x = x := if_pos (Or.inr rfl)
theorem lt_iT {k : Nat} (h : k < 2147483648) : (nI k).toInt = (k : Int) := by
  show (Int32.ofNat k).toInt = _
  exact Int32.toInt_ofNat_of_lt (by simpa using h)
theorem lt_iN {k : Nat} (h : k < 2147483648) : lt_n (nI k) = k := by
  show (nI k).toInt.toNat = k
  rw [lt_iT h]
  exact Int.toNat_natCast k
theorem lt_iA {j k : Nat} : nI j + nI k = nI (j + k) := (Int32.ofNat_add j k).symm
theorem lt_iM {j k : Nat} : nI j * nI k = nI (j * k) := (Int32.ofNat_mul j k).symm
theorem lt_iI {k n : Nat} (h : k < n) (hn : n ≤ 2147483647) : 0 ≤ (nI k).toInt ∧ (nI k).toInt < (n : Int) := by
  rw [lt_iT (by omega)]
  omega
theorem lt_iL {j k : Nat} (hj : j < 2147483648) (hk : k < 2147483648) : (nI j < nI k) ↔ j < k := by
  rw [Int32.lt_iff_toInt_lt, lt_iT hj, lt_iT hk]
  omega
theorem lt_iE {j k : Nat} (hj : j < 2147483648) (hk : k < 2147483648) : (nI j = nI k) ↔ j = k := by
  rw [← Int32.toInt_inj, lt_iT hj, lt_iT hk]
  omega
end Base
/-- the reference: the object o, its row of numbers a -/
def rA (M : LM) (o a : Nat) : Prop := mK M o = 27 ∧ mP M o 1 = some a ∧ mK M a = 1 ∧ mZ M a = 12896
section Ref
variable {M : LM} {o a u w : Nat} {v : Int32}
theorem rA.wr (h : rA M o a) {b i : Nat} : rA (wI M b i v) o a := h
theorem r_ix : (980 : Int32) + 662 * nI u + nI w = nI (980 + 662 * u + w) := by
  rw [← lt_iA, ← lt_iA, ← lt_iM]
  rfl
theorem s_get (d : Nat) (h : rA M o a) (hb : 980 + 662 * u + w < 12896) : f_X11_get (d + 1) M o (nI u) (nI w) = some (.inl (some (.int (mI M a (980 + 662 * u + w)))), M) := by
  obtain ⟨h1, h2, h3, h4⟩ := h
  rw [e_X11_get, lt_ck_t h1, lt_rf_t h2, r_ix, lt_ar_t h3 (by rw [h4]; exact lt_iI hb (by omega)), lt_iN (by omega)]
theorem s_put (d : Nat) (h : rA M o a) (hb : 980 + 662 * u + w < 12896) : f_X11_put (d + 1) M o (nI u) (nI w) v = some (.inl none, wI M a (980 + 662 * u + w) v) := by
  obtain ⟨h1, h2, h3, h4⟩ := h
  rw [e_X11_put, lt_ck_t h1, lt_rf_t h2, r_ix, lt_ar_t h3 (by rw [h4]; exact lt_iI hb (by omega)), lt_iN (by omega)]
  rfl
theorem s_more (d : Nat) (h : rA M o a) (hb : 980 + 662 * u + w < 12896) : f_X11_more (d + 1) M o (nI u) (nI w) v = some (.inl none, wI M a (980 + 662 * u + w) (mI M a (980 + 662 * u + w) + v)) := by
  obtain ⟨h1, h2, h3, h4⟩ := h
  rw [e_X11_more, lt_ck_t h1, lt_rf_t h2, r_ix, lt_ar_t h3 (by rw [h4]; exact lt_iI hb (by omega)), lt_ar_t h3 (by rw [h4]; exact lt_iI hb (by omega)), lt_iN (by omega)]
  rfl
theorem s_holdsIt (d : Nat) (h : rA M o a) {k : Nat} (hb : 1004 + 662 * u + k < 12896) : f_X11_holdsIt (d + 2) M o (nI u) (nI k) = some (.inl (some (.int (if mI M a (1004 + 662 * u + k) = 1 then 1 else 0))), M) := by
  have e : (24 : Int32) + nI k = nI (24 + k) := by rw [← lt_iA]; rfl
  have e2 : 980 + 662 * u + (24 + k) = 1004 + 662 * u + k := by omega
  rw [e_X11_holdsIt, lt_ck_t h.1, e, s_get d h (by omega), e2]
  show (if mI M a (1004 + 662 * u + k) = 1 then _ else _) = _
  split
  · exact lt_b1_1
  · exact lt_b1_0
theorem s_stamp (d : Nat) (h : rA M o a) (hb : 990 + 662 * u < 12896) : f_X11_stamp (d + 2) M o (nI u) = some (.inl (some (.int (mI M a (990 + 662 * u) + 1))), wI M a (990 + 662 * u) (mI M a (990 + 662 * u) + 1)) := by
  have e2 : 980 + 662 * u + 10 = 990 + 662 * u := by omega
  have e3 := s_more (u := u) (v := 1) (w := 10) d h (by omega)
  have e4 : f_X11_more (d + 1) M o (nI u) 10 1 = _ := e3
  rw [e2] at e4
  rw [e_X11_stamp, lt_ck_t h.1, e4]
  show lt_ck _ _ _ _ = _
  have e5 := s_get (M := wI M a (990 + 662 * u) (mI M a (990 + 662 * u) + 1)) (u := u) (w := 10) d h.wr (by omega)
  have e6 : f_X11_get (d + 1) (wI M a (990 + 662 * u) (mI M a (990 + 662 * u) + 1)) o (nI u) 10 = _ := e5
  rw [e2] at e6
  refine (lt_ck_t (M := wI M a (990 + 662 * u) (mI M a (990 + 662 * u) + 1)) h.1).trans ?_
  rw [e6]
  show some _ = _
  rw [mI_wI, if_pos ⟨rfl, rfl⟩]
/-- 2 + k, 54 + k .. in the row -/
theorem s_row (h : rA M o a) {j k : Nat} (hb : j + k < 12896) {f : Int32} (hf : f = nI j) {x : Int32 → Option (LO × LM)} : (lt_rf (mP M o 1) fun q => lt_ar M q 1 (f + nI k) (x (mI M q (lt_n (f + nI k))))) = x (mI M a (j + k)) := by
  obtain ⟨h1, h2, h3, h4⟩ := h
  subst hf
  rw [lt_rf_t h2, lt_iA, lt_ar_t h3 (by rw [h4]; exact lt_iI hb (by omega)), lt_iN (by omega)]
def pU1 (S : Nat → Int32) (u : Nat) (ow : Int32) (k : Nat) : Int32 := if S (1004 + 662 * u + k) = 1 then (if ow = -1 then S (2 + k) else if S (54 + k) = ow then S (2 + k) else 0) else 0
def pUnits (S : Nat → Int32) (u : Nat) (ow : Int32) : Nat → Int32 → Int32
  | 0, acc => acc
  | n + 1, acc => pUnits S u ow n (acc + pU1 S u ow (25 - n))
theorem s_unitsOf_5 (d : Nat) (h : rA M o a) (hu : u < 18) {ow : Int32} : ∀ (n : Nat) (acc : Int32), n ≤ 26 → f_X11_unitsOf_5 (d + 3) M o (nI u) ow acc (nI (26 - n)) = some (.inl (some (.int (pUnits (mI M a) u ow n acc))), M)
  | 0, acc, _ => by
    rw [e_X11_unitsOf_5, if_neg (by decide)]
    rfl
  | n + 1, acc, hn => by
    have hk : 26 - (n + 1) = 25 - n := by omega
    have hlt : nI (25 - n) < 26 := (lt_iL (j := 25 - n) (k := 26) (by omega) (by omega)).mpr (by omega)
    have hs : nI (25 - n) + 1 = nI (26 - n) := by
      have : nI (25 - n) + 1 = nI (25 - n + 1) := (lt_iA (j := 25 - n) (k := 1))
      rw [this]
      congr 1
      omega
    rw [hk, e_X11_unitsOf_5, if_pos hlt, lt_ck_t h.1, s_holdsIt d h (by omega)]
    show (if _ then _ else _) = _
    have ih := fun acc => s_unitsOf_5 d h hu (ow := ow) n acc (by omega)
    have e1 : ∀ x : Int32 → Option (LO × LM), (lt_rf (mP M o 1) fun q => lt_ar M q 1 (2 + nI (25 - n)) (x (mI M q (lt_n (2 + nI (25 - n)))))) = x (mI M a (2 + (25 - n))) := fun x => s_row (j := 2) (k := 25 - n) h (by omega) rfl
    have e2 : ∀ x : Int32 → Option (LO × LM), (lt_rf (mP M o 1) fun q => lt_ar M q 1 (54 + nI (25 - n)) (x (mI M q (lt_n (54 + nI (25 - n)))))) = x (mI M a (54 + (25 - n))) := fun x => s_row (j := 54) (k := 25 - n) h (by omega) rfl
    show _ = some (Sum.inl (some (Value.int (pUnits (mI M a) u ow n (acc + pU1 (mI M a) u ow (25 - n))))), M)
    unfold pU1
    by_cases hh : mI M a (1004 + 662 * u + (25 - n)) = 1
    · rw [if_pos hh, if_neg (by decide), if_pos hh]
      by_cases how : ow = -1
      · rw [if_pos how, if_pos how, lt_ck_t h.1, e1 (fun y => f_X11_unitsOf_5 (d + 2 + 1) M o (nI u) ow (acc + y) (nI (25 - n) + 1)), hs]
        exact ih _
      · rw [if_neg how, if_neg how, lt_ck_t h.1]
        refine (e2 (fun y => if y = ow then (lt_ck M o 27 (lt_rf (mP M o 1) fun q5 => lt_ar M q5 1 (2 + nI (25 - n)) (f_X11_unitsOf_5 (d + 2 + 1) M o (nI u) ow (acc + (mI M q5 (lt_n (2 + nI (25 - n))))) (nI (25 - n) + 1)))) else (f_X11_unitsOf_5 (d + 2 + 1) M o (nI u) ow (acc + 0) (nI (25 - n) + 1)))).trans ?_
        by_cases ho : mI M a (54 + (25 - n)) = ow
        · rw [if_pos ho, if_pos ho, lt_ck_t h.1, e1 (fun y => f_X11_unitsOf_5 (d + 2 + 1) M o (nI u) ow (acc + y) (nI (25 - n) + 1)), hs]
          exact ih _
        · rw [if_neg ho, if_neg ho, hs]
          exact ih _
    · rw [if_neg hh, if_pos rfl, if_neg hh, hs]
      exact ih _
theorem s_unitsOf (d : Nat) (h : rA M o a) (hu : u < 18) {ow : Int32} : f_X11_unitsOf (d + 3) M o (nI u) ow = some (.inl (some (.int (pUnits (mI M a) u ow 26 0))), M) := by
  rw [e_X11_unitsOf]
  exact s_unitsOf_5 d h hu 26 0 (Nat.le_refl _)
def pCount (S : Nat → Int32) (u w : Nat) : Nat → Int32 → Int32
  | 0, acc => acc
  | n + 1, acc => pCount S u w n (acc + if S (980 + 662 * u + (w + (25 - n))) = 0 then 0 else 1)
theorem s_countAll_5 (d : Nat) (h : rA M o a) (hu : u < 18) (hw : w + 26 ≤ 662) : ∀ (n : Nat) (acc : Int32), n ≤ 26 → f_X11_countAll_5 (d + 2) M o (nI u) (nI w) acc (nI (26 - n)) = some (.inl (some (.int (pCount (mI M a) u w n acc))), M)
  | 0, acc, _ => by
    rw [e_X11_countAll_5, if_neg (by decide)]
    rfl
  | n + 1, acc, hn => by
    have hk : 26 - (n + 1) = 25 - n := by omega
    have hlt : nI (25 - n) < 26 := (lt_iL (j := 25 - n) (k := 26) (by omega) (by omega)).mpr (by omega)
    have hs : nI (25 - n) + 1 = nI (26 - n) := by
      have : nI (25 - n) + 1 = nI (25 - n + 1) := (lt_iA (j := 25 - n) (k := 1))
      rw [this]
      congr 1
      omega
    rw [hk, e_X11_countAll_5, if_pos hlt, lt_ck_t h.1, lt_iA, s_get d h (by omega)]
    show (if _ then _ else _) = _
    show _ = some (Sum.inl (some (Value.int (pCount (mI M a) u w n (acc + if mI M a (980 + 662 * u + (w + (25 - n))) = 0 then 0 else 1)))), M)
    have ih := fun acc => s_countAll_5 d h hu hw n acc (by omega)
    by_cases hh : mI M a (980 + 662 * u + (w + (25 - n))) = 0
    · rw [if_pos hh, if_pos hh, hs]; exact ih _
    · rw [if_neg hh, if_neg hh, hs]; exact ih _
theorem s_countAll (d : Nat) (h : rA M o a) (hu : u < 18) (hw : w + 26 ≤ 662) : f_X11_countAll (d + 2) M o (nI u) (nI w) = some (.inl (some (.int (pCount (mI M a) u w 26 0))), M) := by
  rw [e_X11_countAll]
  exact s_countAll_5 d h hu hw 26 0 (Nat.le_refl _)
end Ref
