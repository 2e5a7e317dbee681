/-! THE CLASS, the text: bytes, numbers, what is told -/
def TA (M : LM) (U : Nat) : Prop := mK M U = 25 ∧ mP M U 0 = some (U + 1) ∧ mP M U 3 = some (U + 2) ∧ mP M U 4 = some (U + 3) ∧ mP M U 5 = some (U + 4) ∧ mP M U 6 = some (U + 5) ∧ aI M (U + 1) 200 ∧ aI M (U + 2) 300 ∧ aI M (U + 3) 300 ∧ aI M (U + 4) 3 ∧ aI M (U + 5) 3
def tDg (T : Nat → Int32) (len a : Nat) : Bool := decide (a < len) && qDgt (T a)
def tRng (v : Int32) : Int32 := if v < 1 then -1 else if 50 < v then -1 else v
def kNum (T : Nat → Int32) (len a : Nat) : Int32 := if tDg T len (a + 1) = true then (if tDg T len (a + 2) = true then -1 else tRng (10 * (T a - 48) + T (a + 1) - 48)) else tRng (T a - 48)
section Da
variable {M : LM} {U R C n m i j k t o a len N b span : Nat} {Z S S' : CS} {v c : Int32} {z : Option (LO × LM)} {T : Nat → Int32}
theorem y_ck (h : TA M U) : lt_ck (gM M U 6 Z) U 25 z = z := lt_ck_t (M := gM M U 6 Z) h.1
theorem y_p0 (h : TA M U) : mP (gM M U 6 Z) U 0 = some (U + 1) := h.2.1
theorem y_p3 (h : TA M U) : mP (gM M U 6 Z) U 3 = some (U + 2) := h.2.2.1
theorem y_p4 (h : TA M U) : mP (gM M U 6 Z) U 4 = some (U + 3) := h.2.2.2.1
theorem y_p5 (h : TA M U) : mP (gM M U 6 Z) U 5 = some (U + 4) := h.2.2.2.2.1
theorem y_p6 (h : TA M U) : mP (gM M U 6 Z) U 6 = some (U + 5) := h.2.2.2.2.2.1
theorem y_a1 (h : TA M U) : aI M (U + 1) 200 := h.2.2.2.2.2.2.1
theorem y_a2 (h : TA M U) : aI M (U + 2) 300 := h.2.2.2.2.2.2.2.1
theorem y_a3 (h : TA M U) : aI M (U + 3) 300 := h.2.2.2.2.2.2.2.2.1
theorem y_a4 (h : TA M U) : aI M (U + 4) 3 := h.2.2.2.2.2.2.2.2.2.1
theorem y_a5 (h : TA M U) : aI M (U + 5) 3 := h.2.2.2.2.2.2.2.2.2.2
theorem y_isDigit (d : Nat) : f_X9_isDigit (d + 1) M c = some (.inl (some (.int (bI (qDgt c)))), M) := by
  rw [e_X9_isDigit]
  unfold qDgt
  by_cases h1 : c < 48
  · simp [h1, bI, lt_b1]
  · by_cases h2 : 57 < c
    · simp [h1, h2, bI, lt_b1]
    · simp [h1, h2, bI, lt_b1]
theorem y_byteAt (d : Nat) (h : TA M U) (hl : len ≤ 200) (h1 : Z.1 0 1 = nI len) (ha : a ≤ 1000) : f_X9_byteAt (d + 2) (gM M U 6 Z) U (nI a) = some (.inl (some (.int (if a < len then Z.1 1 a else -1))), gM M U 6 Z) := by
  rw [e_X9_byteAt, y_ck h, gI0 (by omega), h1]
  by_cases q : a < len
  · have hlt : nI a < nI len := by rw [nI_ltP (by omega) (by omega)]; exact q
    rw [if_pos hlt, y_ck h, y_p0 h, x_rf, gw_at d (by omega) (y_a1 h) (by omega), lt_bi_r, if_pos q]
  · have hlt : ¬ nI a < nI len := by rw [nI_ltP (by omega) (by omega)]; exact q
    rw [if_neg hlt, if_neg q]
theorem tDg_e : qDgt (if a < len then T a else -1) = tDg T len a := by
  unfold tDg
  by_cases q : a < len
  · rw [if_pos q, decide_eq_true q, Bool.true_and]
  · rw [if_neg q, decide_eq_false q, Bool.false_and]
    rfl
theorem y_numberAt (d : Nat) (h : TA M U) (hl : len ≤ 200) (h1 : Z.1 0 1 = nI len) (ha : a < len) : f_X9_numberAt (d + 3) (gM M U 6 Z) U (nI a) = some (.inl (some (.int (kNum (Z.1 1) len a))), gM M U 6 Z) := by
  have g1 : nI a + 1 = nI (a + 1) := lt_iA (j := a) (k := 1)
  have g2 : nI a + 2 = nI (a + 2) := lt_iA (j := a) (k := 2)
  have tr : ∀ v : Int32, (if v < 1 then some (.inl (some (.int (-1))), gM M U 6 Z) else if (50 : Int32) < v then some (.inl (some (.int (-1))), gM M U 6 Z) else some (.inl (some (.int v)), gM M U 6 Z) : Option (LO × LM)) = some (.inl (some (.int (tRng v))), gM M U 6 Z) := by
    intro v
    unfold tRng
    split
    · rfl
    · split <;> rfl
  rw [e_X9_numberAt, y_ck h, y_byteAt d h hl h1 (by omega), lt_bi_r, y_ck h, g1, y_byteAt d h hl h1 (by omega), lt_bi_r, y_isDigit (d + 1), lt_bi_r, if_pos ha, tDg_e]
  unfold kNum
  cases q : tDg (Z.1 1) len (a + 1)
  · rw [bI_f, if_pos rfl, if_neg (c := false = true) (by decide)]
    exact tr _
  · rw [bI_t, if_neg (by decide), if_pos rfl, y_ck h, g2, y_byteAt d h hl h1 (by omega), lt_bi_r, y_isDigit (d + 1), lt_bi_r, tDg_e]
    have q1 : a + 1 < len := by
      unfold tDg at q
      simp only [Bool.and_eq_true, decide_eq_true_eq] at q
      exact q.1
    rw [if_pos q1]
    cases q2 : tDg (Z.1 1) len (a + 2)
    · rw [bI_f, if_pos rfl, if_neg (c := false = true) (by decide)]
      exact tr _
    · rw [bI_t, if_neg (by decide), if_pos rfl]
theorem kNum_v : kNum T len a = -1 ∨ ∃ v, 1 ≤ v ∧ v ≤ 50 ∧ kNum T len a = nI v := by
  have tr : ∀ x : Int32, tRng x = -1 ∨ ∃ v, 1 ≤ v ∧ v ≤ 50 ∧ tRng x = nI v := by
    intro x
    unfold tRng
    by_cases h1 : x < 1
    · rw [if_pos h1]; exact Or.inl rfl
    · by_cases h2 : 50 < x
      · rw [if_neg h1, if_pos h2]; exact Or.inl rfl
      · rw [if_neg h1, if_neg h2]
        have e1 : (1 : Int) ≤ x.toInt := by
          rw [Int32.lt_iff_toInt_lt] at h1
          have : (1 : Int32).toInt = 1 := rfl
          omega
        have e2 : x.toInt ≤ 50 := by
          rw [Int32.lt_iff_toInt_lt] at h2
          have : (50 : Int32).toInt = 50 := rfl
          omega
        refine Or.inr ⟨x.toInt.toNat, by omega, by omega, ?_⟩
        refine Int32.toInt_inj.mp ?_
        rw [lt_iT (by omega)]
        omega
  unfold kNum
  split
  · split
    · exact Or.inl rfl
    · exact tr _
  · exact tr _
/-- behind the end of a row nothing is put -/
theorem s10_putO (d : Nat) (h : aI M o n) (hk : n ≤ k) (hk2 : k < 2147483648) {v : Int32} : f_X10_put (d + 1) M o (nI k) v = some (.inl none, M) := by
  obtain ⟨h1, h2, h3⟩ := h
  rw [e_X10_put, if_neg (lt_neg (by omega)), lt_al_t (by omega), h2, if_neg (fun e => by have := (lt_iL hk2 h3).mp e; omega)]
def tPut (Z : CS) (t k : Nat) (v : Int32) : CS := if k < 300 then cwi Z t k v else Z
theorem y_put2 (d : Nat) (h : TA M U) (hk : k < 2147483648) : f_X10_put (d + 1) (gM M U 6 Z) (U + 2) (nI k) v = some (.inl none, gM M U 6 (tPut Z 2 k v)) := by
  unfold tPut
  by_cases q : k < 300
  · rw [if_pos q, gw_put d (by omega) (y_a2 h) q]
  · rw [if_neg q, s10_putO (M := gM M U 6 Z) d (y_a2 h) (by omega) hk]
theorem y_put3 (d : Nat) (h : TA M U) (hk : k < 2147483648) : f_X10_put (d + 1) (gM M U 6 Z) (U + 3) (nI k) v = some (.inl none, gM M U 6 (tPut Z 3 k v)) := by
  unfold tPut
  by_cases q : k < 300
  · rw [if_pos q, gw_put d (by omega) (y_a3 h) q]
  · rw [if_neg q, s10_putO (M := gM M U 6 Z) d (y_a3 h) (by omega) hk]
theorem tPut_t (ht : i ≠ t) : (tPut Z t k v).1 i = Z.1 i := by
  unfold tPut
  split
  · exact cwi_z ht
  · rfl
theorem y_tell (d : Nat) (h : TA M U) (h2 : Z.1 0 2 = nI N) (hN : N < 2147483647) : f_X9_tell (d + 2) (gM M U 6 Z) U v = some (.inl none, gM M U 6 (cwi (tPut (tPut Z 2 N v) 3 N 0) 0 2 (nI (N + 1)))) := by
  have e1 : ∀ {v : Int32}, (tPut Z 2 N v).1 0 2 = nI N := fun {v} => by rw [tPut_t (by decide)]; exact h2
  have e2 : ∀ {v : Int32}, (tPut (tPut Z 2 N v) 3 N 0).1 0 2 = nI N := fun {v} => by rw [tPut_t (by decide)]; exact e1
  have g1 : nI N + 1 = nI (N + 1) := lt_iA (j := N) (k := 1)
  rw [e_X9_tell, y_ck h, y_p3 h, x_rf, y_ck h, gI0 (by omega), h2, y_put2 d h (by omega), lt_bv_r, y_ck h, y_p4 h, x_rf, y_ck h, gI0 (by omega), e1, y_put3 d h (by omega), lt_bv_r, y_ck h, y_ck h, gI0 (by omega), e2, g1, gwI0 (by omega), x_m]
theorem nI_sub {a b : Nat} (h : b ≤ a) : nI a - nI b = nI (a - b) := by
  have e : nI a = nI (a - b) + nI b := by
    rw [lt_iA (j := a - b) (k := b)]
    congr 1
    omega
  rw [e]
  exact Int32.add_sub_cancel _ _
/-- what the rows of the text tell: so many requests, as far as they reach -/
def TW (Z : CS) (N : Nat) (K : Nat → Nat) (W : Nat → Bool) : Prop := ∀ j, j < N → j < 300 → Z.1 2 j = nI (K j) ∧ Z.1 3 j = bI (W j)
/-- what a step of the parser leaves alone -/
def TK (Z Z' : CS) : Prop := (∀ t, t ≠ 0 → t ≠ 2 → t ≠ 3 → Z'.1 t = Z.1 t) ∧ ∀ j, j ≠ 2 → Z'.1 0 j = Z.1 0 j
theorem TK_r : TK Z Z := ⟨fun _ _ _ _ => rfl, fun _ _ => rfl⟩
theorem TK_t {Z1 Z2 : CS} (h : TK Z Z1) (g : TK Z1 Z2) : TK Z Z2 := ⟨fun t a b c => (g.1 t a b c).trans (h.1 t a b c), fun j a => (g.2 j a).trans (h.2 j a)⟩
theorem TK_p (ht : t = 2 ∨ t = 3) : TK Z (tPut Z t k v) := ⟨fun i _ a b => tPut_t (by omega), fun j _ => congrFun (tPut_t (by omega)) j⟩
theorem TK_2 : TK Z (cwi Z 0 2 v) := ⟨fun i a _ _ => cwi_z a, fun j a => z2_n2 a⟩
theorem TW_put {K : Nat → Nat} {W : Nat → Bool} {x : Nat} {w : Bool} (h : TW Z N (fun j => if j = N then x else K j) (fun j => if j = N then w else W j)) : TW (tPut (tPut Z 2 N (nI x)) 3 N (bI w)) (N + 1) (fun j => if j = N then x else K j) (fun j => if j = N then w else W j) := by
  intro j hj hj3
  by_cases q : j = N
  · subst q
    unfold tPut
    rw [if_pos hj3, if_pos hj3]
    dsimp only
    rw [if_pos rfl, if_pos rfl]
    refine ⟨?_, cwi_e⟩
    rw [cwi_z (by decide)]
    exact cwi_e
  · have := h j (by omega) hj3
    unfold tPut
    by_cases q3 : N < 300
    · rw [if_pos q3, if_pos q3]
      refine ⟨?_, ?_⟩
      · rw [cwi_z (by decide)]
        refine Eq.trans ?_ this.1
        exact z2_n2 q
      · refine Eq.trans ?_ this.2
        refine Eq.trans (z2_n2 q) ?_
        rw [cwi_z (by decide)]
    · rw [if_neg q3, if_neg q3]
      exact this
theorem y_rep_20 (d : Nat) (h : TA M U) {K : Nat → Nat} {W : Nat → Bool} {e s : Nat} (he : e < 2147483648) (hs : s ≤ N) (hN : N < 2147483648) (hK : ∀ q, N ≤ q → q < e → s ≤ q ∧ 0 < s ∧ K q = K (q - s) ∧ W q = W (q - s)) : ∀ (m : Nat) (Z : CS) (p : Nat), e - p ≤ m → N ≤ p → p ≤ e → TW Z p K W →
    ∃ Z', f_X9_repeat_20 (d + 2) (gM M U 6 Z) U (nI s) (nI e) (nI p) = some (.inl none, gM M U 6 Z') ∧ Z'.1 0 2 = nI e ∧ TW Z' e K W ∧ TK Z Z' := by
  have fin : ∀ (Z : CS), TW Z e K W → ∃ Z', (lt_ck (gM M U 6 Z) U 25 (lt_m (wI (gM M U 6 Z) U 2 (nI e)) fun M2 => some (.inl none, M2)) : Option (LO × LM)) = some (.inl none, gM M U 6 Z') ∧ Z'.1 0 2 = nI e ∧ TW Z' e K W ∧ TK Z Z' := fun Z hZ => by
    refine ⟨cwi Z 0 2 (nI e), by rw [y_ck h, gwI0 (by omega), x_m], cwi_e, fun j hj h3 => ?_, TK_2⟩
    rw [cwi_z (by decide), cwi_z (by decide)]
    exact hZ j hj h3
  intro m
  induction m with
  | zero =>
    intro Z p hm hp1 hp2 hZ
    have : p = e := by omega
    subst this
    have hlt : ¬ nI p < nI p := by rw [nI_ltP (by omega) (by omega)]; omega
    rw [e_X9_repeat_20, if_neg hlt]
    exact fin Z hZ
  | succ m ih =>
    intro Z p hm hp1 hp2 hZ
    rw [e_X9_repeat_20]
    by_cases q : p < e
    · have hlt : nI p < nI e := by rw [nI_ltP (by omega) (by omega)]; exact q
      rw [if_pos hlt]
      by_cases q3 : p < 300
      · have hlt3 : nI p < (300 : Int32) := (nI_ltP (j := p) (k := 300) (by omega) (by omega)).mpr q3
        obtain ⟨a1, a2, a3, a4⟩ := hK p hp1 q
        have g1 : nI p + 1 = nI (p + 1) := lt_iA (j := p) (k := 1)
        obtain ⟨b1, b2⟩ := hZ (p - s) (by omega) (by omega)
        have b2' : (cwi Z 2 p (nI (K p))).1 3 (p - s) = bI (W (p - s)) := by rw [cwi_z (by decide)]; exact b2
        obtain ⟨Z', c1, c2, c3, c4⟩ := ih (cwi (cwi Z 2 p (nI (K p))) 3 p (bI (W p))) (p + 1) (by omega) (by omega) (by omega) (fun j hj hj3 => by
          by_cases qj : j = p
          · subst qj
            refine ⟨?_, cwi_e⟩
            rw [cwi_z (by decide)]
            exact cwi_e
          · have := hZ j (by omega) hj3
            refine ⟨?_, ?_⟩
            · rw [cwi_z (by decide)]
              exact (z2_n2 qj).trans this.1
            · exact (z2_n2 qj).trans ((congrFun (cwi_z (by decide)) j).trans this.2))
        refine ⟨Z', ?_, c2, c3, TK_t ⟨fun t a b c => ?_, fun j a => ?_⟩ c4⟩
        · rw [if_pos hlt3, y_ck h, y_p3 h, x_rf, y_ck h, x_rf, nI_sub a1, gw_at d (by omega) (y_a2 h) (by omega), lt_bi_r, b1, ← a3, gw_put d (by omega) (y_a2 h) q3, lt_bv_r, y_ck h, y_p4 h, x_rf, y_ck h, x_rf, gw_at d (by omega) (y_a3 h) (by omega), lt_bi_r, b2', ← a4, gw_put d (by omega) (y_a3 h) q3, lt_bv_r, g1]
          exact c1
        · rw [cwi_z c, cwi_z b]
        · rw [cwi_z (by decide), cwi_z (by decide)]
      · have hlt3 : ¬ nI p < (300 : Int32) := fun e => by have := (nI_ltP (j := p) (k := 300) (by omega) (by omega)).mp e; omega
        rw [if_neg hlt3]
        exact fin Z (fun j hj h3 => hZ j (by omega) h3)
    · have hlt : ¬ nI p < nI e := by rw [nI_ltP (by omega) (by omega)]; exact q
      rw [if_neg hlt]
      exact fin Z (fun j hj h3 => hZ j (by omega) h3)
/-- told again -/
def repK (K : Nat → Nat) (N b : Nat) : Nat → Nat := fun j => if j < N then K j else K (b + (j - b) % (N - b))
def repW (W : Nat → Bool) (N b : Nat) : Nat → Bool := fun j => if j < N then W j else W (b + (j - b) % (N - b))
theorem y_repeat (d : Nat) (h : TA M U) {K : Nat → Nat} {W : Nat → Bool} (h2 : Z.1 0 2 = nI N) (hb : b ≤ N) (ht : 1 ≤ t) (he : b + (N - b) * t < 2147483648) (hZ : TW Z N K W) : ∃ Z', f_X9_repeat (d + 2) (gM M U 6 Z) U (nI b) (nI t) = some (.inl none, gM M U 6 Z') ∧ Z'.1 0 2 = nI (b + (N - b) * t) ∧ TW Z' (b + (N - b) * t) (repK K N b) (repW W N b) ∧ TK Z Z' := by
  have hNe : N ≤ b + (N - b) * t := by
    have : (N - b) * 1 ≤ (N - b) * t := Nat.mul_le_mul_left _ ht
    omega
  have e1 : nI b + nI (N - b) * nI t = nI (b + (N - b) * t) := by
    rw [show nI (N - b) * nI t = nI ((N - b) * t) from lt_iM]
    exact lt_iA
  obtain ⟨Z', c1, c2, c3, c4⟩ := y_rep_20 (M := M) (U := U) (N := N) (K := repK K N b) (W := repW W N b) (e := b + (N - b) * t) (s := N - b) d h he (by omega) (by omega) (fun q q1 q2 => by
    have hs : 0 < N - b := by
      rcases Nat.eq_zero_or_pos (N - b) with e | e
      · rw [e, Nat.zero_mul] at q2; omega
      · exact e
    refine ⟨by omega, hs, ?_, ?_⟩
    · unfold repK
      rw [if_neg (by omega)]
      by_cases q3 : q - (N - b) < N
      · rw [if_pos q3]
        have : (q - b) % (N - b) = q - (N - b) - b := by
          rw [Nat.mod_eq_sub_mod (by omega), show q - b - (N - b) = q - (N - b) - b by omega, Nat.mod_eq_of_lt (by omega)]
        rw [this, show b + (q - (N - b) - b) = q - (N - b) by omega]
      · rw [if_neg q3, show q - (N - b) - b = q - b - (N - b) by omega, ← Nat.mod_eq_sub_mod (by omega)]
    · unfold repW
      rw [if_neg (by omega)]
      by_cases q3 : q - (N - b) < N
      · rw [if_pos q3]
        have : (q - b) % (N - b) = q - (N - b) - b := by
          rw [Nat.mod_eq_sub_mod (by omega), show q - b - (N - b) = q - (N - b) - b by omega, Nat.mod_eq_of_lt (by omega)]
        rw [this, show b + (q - (N - b) - b) = q - (N - b) by omega]
      · rw [if_neg q3, show q - (N - b) - b = q - b - (N - b) by omega, ← Nat.mod_eq_sub_mod (by omega)]) (b + (N - b) * t - N) Z N (by omega) (Nat.le_refl _) hNe (fun j hj h3 => by
        unfold repK repW
        rw [if_pos hj, if_pos hj]
        exact hZ j hj h3)
  refine ⟨Z', ?_, c2, c3, c4⟩
  rw [e_X9_repeat, y_ck h, y_ck h, gI0 (by omega), h2, nI_sub hb, e1]
  exact c1
end Da
