/-! THE RELATION, the text: the pieces as a row of requests -/
/-- a row so many times over -/
def rep (l : List (Nat × Bool)) : Nat → List (Nat × Bool)
  | 0 => []
  | m + 1 => l ++ rep l m
/-- the number at a place: its value and the place behind it -/
def nm (T : Nat → Int32) (len a : Nat) : Option (Nat × Nat) := if (qNum T len a (-1)).2.2 = -1 then some (lt_n (qNum T len a (-1)).1, (qNum T len a (-1)).2.1) else none
/-- the pieces from a place on: the error, the place behind, the requests -/
def pR (T : Nat → Int32) (len : Nat) : Nat → Nat → Nat → Option Nat × Nat × List (Nat × Bool)
  | 0, _, a => (some len, a, [])
  | f + 1, deep, a =>
    let a1 := qSkip T len (len - a)
    if a1 = len ∨ T a1 = 41 then (none, a1, []) else
    if T a1 < 97 ∨ 122 < T a1 then
      (if qDgt (T a1) = true then
        (match nm T len a1 with
         | none => (some a1, a1, [])
         | some (v, b) =>
          let a2 := qSkip T len (len - b)
          if qIs T len a2 40 = true ∧ deep ≠ 3 then
            (let r := pR T len f (deep + 1) (a2 + 1)
             if r.1 = none then
               (if r.2.1 = len then (some len, len, []) else
                 (let r2 := pR T len f deep (r.2.1 + 1)
                  (r2.1, r2.2.1, rep r.2.2 v ++ r2.2.2)))
             else (r.1, r.2.1, []))
          else (some a2, a2, []))
      else (some a1, a1, []))
    else
      (let a2 := qSkip T len (len - (a1 + 1))
       let r := pR T len f deep (if qIs T len a2 33 = true then a2 + 1 else a2)
       (r.1, r.2.1, (lt_n (T a1 - 97), qIs T len a2 33) :: r.2.2))
section Rya
variable {len a i j k m n p v b x f deep : Nat} {T : Nat → Int32} {c e many : Int32} {fs : Nat → Nat}
theorem rep_len {l : List (Nat × Bool)} : ∀ v, (rep l v).length = v * l.length
  | 0 => (Nat.zero_mul _).symm
  | v + 1 => by
    show (l ++ rep l v).length = _
    rw [List.length_append, rep_len v, Nat.succ_mul, Nat.add_comm]
theorem skip_self (h : a ≤ len) (h2 : a = len ∨ T a ≠ 32) : qSkip T len (len - a) = a := by
  cases h3 : len - a with
  | zero => show len = a; omega
  | succ m =>
    have e : len - (m + 1) = a := by omega
    show (if T (len - (m + 1)) = 32 then qSkip T len m else len - (m + 1)) = a
    rw [e, if_neg (by rcases h2 with h2 | h2; omega; exact h2)]
theorem skip_b (h : a ≤ len) : a ≤ qSkip T len (len - a) ∧ qSkip T len (len - a) ≤ len :=
  ⟨by have := qSkip_ge (T := T) (len := len) (len - a); omega, qSkip_le _⟩
theorem skip_n : ∀ (m : Nat), qSkip T len m = len ∨ T (qSkip T len m) ≠ 32
  | 0 => Or.inl rfl
  | m + 1 => by
    show (if T (len - (m + 1)) = 32 then qSkip T len m else len - (m + 1)) = len ∨ T (if T (len - (m + 1)) = 32 then qSkip T len m else len - (m + 1)) ≠ 32
    by_cases q : T (len - (m + 1)) = 32
    · rw [if_pos q]; exact skip_n m
    · rw [if_neg q]; exact Or.inr q
theorem dgt_lt (h : qDgt c = true) : c < 97 ∧ c ≠ 32 ∧ c ≠ 41 ∧ c ≠ 33 ∧ c ≠ 40 ∧ ∃ k, k < 10 ∧ c - 48 = nI k ∧ c = nI (48 + k) := by
  unfold qDgt at h
  obtain ⟨h1, h2⟩ := Bool.and_eq_true_iff.mp h
  have h1' : ¬ c < 48 := by simpa using h1
  have h2' : ¬ 57 < c := by simpa using h2
  have e1 : ¬ c.toInt < 48 := fun e => h1' (Int32.lt_iff_toInt_lt.mpr e)
  have e2 : ¬ 57 < c.toInt := fun e => h2' (Int32.lt_iff_toInt_lt.mpr e)
  obtain ⟨k, hk⟩ : ∃ k : Nat, c.toInt = 48 + k := ⟨(c.toInt - 48).toNat, by omega⟩
  have hk' : k < 10 := by omega
  have e : c = nI (48 + k) := by
    apply Int32.toInt_inj.mp
    rw [lt_iT (by omega)]
    omega
  subst e
  refine ⟨?_, ?_, ?_, ?_, ?_, k, hk', ?_, rfl⟩
  · exact (nI_ltP (j := 48 + k) (k := 97) (by omega) (by omega)).mpr (by omega)
  · exact fun e => by have := (nI_inj (j := 48 + k) (k := 32) (by omega) (by omega)).mp e; omega
  · exact fun e => by have := (nI_inj (j := 48 + k) (k := 41) (by omega) (by omega)).mp e; omega
  · exact fun e => by have := (nI_inj (j := 48 + k) (k := 33) (by omega) (by omega)).mp e; omega
  · exact fun e => by have := (nI_inj (j := 48 + k) (k := 40) (by omega) (by omega)).mp e; omega
  · rw [show (48 : Int32) = nI 48 from rfl, nI_sub (by omega)]
    congr 1
    omega
theorem digs_1 (ha : a < len) (h : qDgt (T a) = true) : qDigs T len (len - a) 0 = qDigs T len (len - (a + 1)) (T a - 48) := by
  obtain ⟨_, _, _, _, _, k, hk, e, e2⟩ := dgt_lt h
  have e0 : len - a = (len - (a + 1)) + 1 := by omega
  rw [e0]
  show (if qDgt (T (len - (len - (a + 1) + 1))) = true then qDigs T len (len - (a + 1)) (if 10 * 0 + T (len - (len - (a + 1) + 1)) - 48 < 1000 then 10 * 0 + T (len - (len - (a + 1) + 1)) - 48 else 1000) else _) = _
  have e1 : len - (len - (a + 1) + 1) = a := by omega
  have e3 : (10 * 0 + T a - 48 : Int32) = nI k := by
    rw [show (10 * 0 + T a - 48 : Int32) = T a - 48 by rw [show (10 * 0 : Int32) = 0 from rfl, Int32.zero_add]]
    exact e
  rw [e1, if_pos h, e3, if_pos (show nI k < 1000 from (nI_ltP (j := k) (k := 1000) (by omega) (by omega)).mpr (by omega)), e]
theorem digs_s (h : ¬ (a < len ∧ qDgt (T a) = true)) (ha : a ≤ len) (w : Int32) : qDigs T len (len - a) w = (a, w) := by
  cases h3 : len - a with
  | zero => show (len, w) = (a, w); rw [show a = len by omega]
  | succ m =>
    have e : len - (m + 1) = a := by omega
    show (if qDgt (T (len - (m + 1))) = true then _ else (len - (m + 1), w)) = (a, w)
    rw [e, if_neg (fun q => h ⟨by omega, q⟩)]
theorem digs_u (ha : a < len) (h : qDgt (T a) = true) (w : Int32) : ∃ w', qDigs T len (len - a) w = qDigs T len (len - (a + 1)) w' ∧ (∀ k, k < 10 → w = nI k → w' = 10 * w + T a - 48) := by
  obtain ⟨_, _, _, _, _, k, hk, e, e2⟩ := dgt_lt h
  refine ⟨if 10 * w + T a - 48 < 1000 then 10 * w + T a - 48 else 1000, ?_, ?_⟩
  · have e0 : len - a = (len - (a + 1)) + 1 := by omega
    rw [e0]
    show (if qDgt (T (len - (len - (a + 1) + 1))) = true then qDigs T len (len - (a + 1)) (if 10 * w + T (len - (len - (a + 1) + 1)) - 48 < 1000 then 10 * w + T (len - (len - (a + 1) + 1)) - 48 else 1000) else _) = _
    have e1 : len - (len - (a + 1) + 1) = a := by omega
    rw [e1, if_pos h]
  · intro j hj hw
    subst hw
    have : (10 * nI j + T a - 48 : Int32) = nI (10 * j + k) := by
      rw [e2, show (10 : Int32) = nI 10 from rfl, lt_iM, lt_iA, show (48 : Int32) = nI 48 from rfl, nI_sub (by omega)]
      congr 1
      omega
    rw [this, if_pos (show nI (10 * j + k) < 1000 from (nI_ltP (j := 10 * j + k) (k := 1000) (by omega) (by omega)).mpr (by omega))]
theorem tDg_i : tDg T len a = true ↔ a < len ∧ qDgt (T a) = true := by
  unfold tDg
  rw [Bool.and_eq_true_iff, decide_eq_true_iff]
theorem tRng_q (w : Int32) : tRng w = if qIn w 1 50 = true then w else -1 := by
  unfold tRng qIn
  by_cases q1 : w < 1
  · rw [if_pos q1, decide_eq_true q1]; rfl
  · rw [if_neg q1, decide_eq_false q1]
    by_cases q2 : 50 < w
    · rw [if_pos q2, decide_eq_true q2]; rfl
    · rw [if_neg q2, decide_eq_false q2]; rfl
theorem qIn_50 {w : Int32} (h : qIn w 1 50 = true) : ∃ v, 1 ≤ v ∧ v ≤ 50 ∧ w = nI v := by
  unfold qIn at h
  obtain ⟨h1, h2⟩ := Bool.and_eq_true_iff.mp h
  have h1' : ¬ w < 1 := by simpa using h1
  have h2' : ¬ 50 < w := by simpa using h2
  have e1 : ¬ w.toInt < 1 := fun e => h1' (Int32.lt_iff_toInt_lt.mpr e)
  have e2 : ¬ 50 < w.toInt := fun e => h2' (Int32.lt_iff_toInt_lt.mpr e)
  refine ⟨w.toInt.toNat, by omega, by omega, ?_⟩
  apply Int32.toInt_inj.mp
  rw [lt_iT (by omega)]
  omega
theorem nI_m1 (h : a < 2147483648) : nI a ≠ -1 := fun e => by
  have := nI_ne1 h
  rw [this] at e
  exact e
theorem num_eq (hl : len ≤ 200) (ha : a < len) (h : qDgt (T a) = true) : match nm T len a with
    | none => kNum T len a = -1 ∧ (qNum T len a (-1)).2.2 = nI a
    | some (v, b) => 1 ≤ v ∧ v ≤ 50 ∧ kNum T len a = nI v ∧ b = a + (if tDg T len (a + 1) = true then 2 else 1) ∧ b ≤ len ∧ a < b ∧ qNum T len a (-1) = (nI v, b, -1) := by
  have hn := nI_m1 (a := a) (by omega)
  have fin : ∀ (w : Int32) (b : Nat), qDigs T len (len - a) 0 = (b, w) → b - a ≤ 2 → kNum T len a = tRng w → b = a + (if tDg T len (a + 1) = true then 2 else 1) → b ≤ len → a < b → match nm T len a with
    | none => kNum T len a = -1 ∧ (qNum T len a (-1)).2.2 = nI a
    | some (v, b) => 1 ≤ v ∧ v ≤ 50 ∧ kNum T len a = nI v ∧ b = a + (if tDg T len (a + 1) = true then 2 else 1) ∧ b ≤ len ∧ a < b ∧ qNum T len a (-1) = (nI v, b, -1) := by
    intro w b hd hb hk hb2 hb3 hb4
    have hq : qNum T len a (-1) = if qIn w 1 50 = true then (w, b, -1) else (0, b, nI a) := by
      unfold qNum
      rw [hd]
      exact if_neg (by omega)
    rw [tRng_q] at hk
    cases hi : qIn w 1 50 with
    | true =>
      rw [hi, if_pos rfl] at hq hk
      obtain ⟨v, v1, v2, v3⟩ := qIn_50 hi
      have e : nm T len a = some (v, b) := by
        unfold nm
        rw [hq, if_pos rfl, v3, lt_iN (by omega)]
      rw [e]
      exact ⟨v1, v2, by rw [hk, v3], hb2, hb3, hb4, by rw [hq, v3]⟩
    | false =>
      rw [hi, if_neg (by decide)] at hq hk
      have e : nm T len a = none := by
        unfold nm
        rw [hq, if_neg hn]
      rw [e]
      exact ⟨hk, by rw [hq]⟩
  obtain ⟨_, _, _, _, _, k, hk, e, e2⟩ := dgt_lt h
  by_cases h1 : a + 1 < len ∧ qDgt (T (a + 1)) = true
  · have t1 := tDg_i.mpr h1
    obtain ⟨w', u1, u2⟩ := digs_u (T := T) (len := len) h1.1 h1.2 (T a - 48)
    have hw := u2 k hk e
    by_cases h2 : a + 2 < len ∧ qDgt (T (a + 2)) = true
    · have t2 := tDg_i.mpr h2
      obtain ⟨w2, u3, _⟩ := digs_u (T := T) (len := len) h2.1 h2.2 w'
      have hge := qDigs_ge (T := T) (len := len) (len - (a + 3)) w2
      have hd : qDigs T len (len - a) 0 = qDigs T len (len - (a + 3)) w2 := by rw [digs_1 ha h, u1, u3]
      have hq : qNum T len a (-1) = (0, (qDigs T len (len - (a + 3)) w2).1, nI a) := by
        unfold qNum
        rw [hd]
        exact if_pos (by omega)
      have e : nm T len a = none := by
        unfold nm
        rw [hq, if_neg hn]
      rw [e]
      refine ⟨?_, by rw [hq]⟩
      unfold kNum
      rw [if_pos t1, if_pos t2]
    · have t2 : ¬ tDg T len (a + 2) = true := fun q => h2 (tDg_i.mp q)
      have hd : qDigs T len (len - a) 0 = (a + 2, w') := by rw [digs_1 ha h, u1, digs_s h2 (by omega)]
      refine fin w' (a + 2) hd (by omega) ?_ (by rw [if_pos t1]) (by omega) (by omega)
      unfold kNum
      rw [if_pos t1, if_neg t2, hw]
  · have t1 : ¬ tDg T len (a + 1) = true := fun q => h1 (tDg_i.mp q)
    have hd : qDigs T len (len - a) 0 = (a + 1, T a - 48) := by rw [digs_1 ha h, digs_s h1 (by omega)]
    refine fin (T a - 48) (a + 1) hd (by omega) ?_ (by rw [if_neg t1]) (by omega) (by omega)
    unfold kNum
    rw [if_neg t1]
end Rya
