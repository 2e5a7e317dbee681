/-! THE RELATION, the text: the reference reads the row of requests -/
section Ryb
variable {len a i j k m n p v b x f deep : Nat} {T : Nat → Int32} {c e many : Int32} {fs : Nat → Nat}
theorem pR_s : pR T len (f + 1) deep a = (
    let a1 := qSkip T len (len - a)
    if a1 = len ∨ T a1 = 41 then (none, a1, []) else
    if T a1 < 97 ∨ 122 < T a1 then
      (if qDgt (T a1) = true then
        (match nm T len a1 with
         | none => (some a1, a1, [])
         | some (v, b) =>
          let a2 := qSkip T len (len - b)
          if qIs T len a2 40 = true ∧ deep ≠ 3 then
            (let r := pR T len f (deep + 1) (a2 + 1)
             if r.1 = none then
               (if r.2.1 = len then (some len, len, []) else
                 (let r2 := pR T len f deep (r.2.1 + 1)
                  (r2.1, r2.2.1, rep r.2.2 v ++ r2.2.2)))
             else (r.1, r.2.1, []))
          else (some a2, a2, []))
      else (some a1, a1, []))
    else
      (let a2 := qSkip T len (len - (a1 + 1))
       let r := pR T len f deep (if qIs T len a2 33 = true then a2 + 1 else a2)
       (r.1, r.2.1, (lt_n (T a1 - 97), qIs T len a2 33) :: r.2.2))) := rfl
/-- a case of the reading, one for each way on -/
theorem pR_c {Q : (Option Nat × Nat × List (Nat × Bool)) → Prop} (hl : len ≤ 200) (ha : a ≤ len)
    (c1 : ∀ a1, a1 = qSkip T len (len - a) → a ≤ a1 → a1 ≤ len → (a1 = len ∨ T a1 = 41) → Q (none, a1, []))
    (c2 : ∀ a1, a1 = qSkip T len (len - a) → a ≤ a1 → a1 < len → T a1 ≠ 41 → T a1 ≠ 32 → (T a1 < 97 ∨ 122 < T a1) → qDgt (T a1) = false → Q (some a1, a1, []))
    (c3 : ∀ a1, a1 = qSkip T len (len - a) → a ≤ a1 → a1 < len → qDgt (T a1) = true → kNum T len a1 = -1 → (qNum T len a1 (-1)).2.2 = nI a1 → Q (some a1, a1, []))
    (c4 : ∀ a1 v b a2, a1 = qSkip T len (len - a) → a ≤ a1 → a1 < len → qDgt (T a1) = true → 1 ≤ v → v ≤ 50 → kNum T len a1 = nI v → b = a1 + (if tDg T len (a1 + 1) = true then 2 else 1) → b ≤ a2 → qNum T len a1 (-1) = (nI v, b, -1) → a2 = qSkip T len (len - b) → a1 < a2 → a2 ≤ len → ¬ (qIs T len a2 40 = true ∧ deep ≠ 3) → Q (some a2, a2, []))
    (c5 : ∀ a1 v b a2, a1 = qSkip T len (len - a) → a ≤ a1 → a1 < len → qDgt (T a1) = true → 1 ≤ v → v ≤ 50 → kNum T len a1 = nI v → b = a1 + (if tDg T len (a1 + 1) = true then 2 else 1) → b ≤ a2 → qNum T len a1 (-1) = (nI v, b, -1) → a2 = qSkip T len (len - b) → a1 < a2 → a2 < len → (qIs T len a2 40 = true ∧ deep ≠ 3) →
      Q (if (pR T len f (deep + 1) (a2 + 1)).1 = none then (if (pR T len f (deep + 1) (a2 + 1)).2.1 = len then (some len, len, []) else ((pR T len f deep ((pR T len f (deep + 1) (a2 + 1)).2.1 + 1)).1, (pR T len f deep ((pR T len f (deep + 1) (a2 + 1)).2.1 + 1)).2.1, rep (pR T len f (deep + 1) (a2 + 1)).2.2 v ++ (pR T len f deep ((pR T len f (deep + 1) (a2 + 1)).2.1 + 1)).2.2)) else ((pR T len f (deep + 1) (a2 + 1)).1, (pR T len f (deep + 1) (a2 + 1)).2.1, [])))
    (c6 : ∀ a1 a2 a3, a1 = qSkip T len (len - a) → a ≤ a1 → a1 < len → ¬ (T a1 < 97 ∨ 122 < T a1) → a2 = qSkip T len (len - (a1 + 1)) → a1 < a2 → a2 ≤ len → a3 = (if qIs T len a2 33 = true then a2 + 1 else a2) → a1 < a3 → a3 ≤ len → Q ((pR T len f deep a3).1, (pR T len f deep a3).2.1, (lt_n (T a1 - 97), qIs T len a2 33) :: (pR T len f deep a3).2.2)) : Q (pR T len (f + 1) deep a) := by
  rw [pR_s]
  obtain ⟨s1, s2⟩ := skip_b (T := T) ha
  have s3 := skip_n (T := T) (len := len) (len - a)
  generalize h1 : qSkip T len (len - a) = a1 at s1 s2 s3
  show Q (if a1 = len ∨ T a1 = 41 then _ else _)
  by_cases q1 : a1 = len ∨ T a1 = 41
  · rw [if_pos q1]
    exact c1 a1 h1.symm s1 s2 q1
  · rw [if_neg q1]
    have q1a : a1 < len := by have : a1 ≠ len := fun e => q1 (Or.inl e); omega
    have q1b : T a1 ≠ 41 := fun e => q1 (Or.inr e)
    have q1c : T a1 ≠ 32 := by rcases s3 with s3 | s3; omega; exact s3
    by_cases q2 : T a1 < 97 ∨ 122 < T a1
    · rw [if_pos q2]
      cases q3 : qDgt (T a1) with
      | false =>
        rw [if_neg (by decide)]
        exact c2 a1 h1.symm s1 q1a q1b q1c q2 q3
      | true =>
        rw [if_pos rfl]
        have hn := num_eq (T := T) hl q1a q3
        cases q4 : nm T len a1 with
        | none =>
          rw [q4] at hn
          exact c3 a1 h1.symm s1 q1a q3 hn.1 hn.2
        | some r =>
          obtain ⟨v, b⟩ := r
          rw [q4] at hn
          obtain ⟨n1, n2, n3, n4, n5, n6, n7⟩ := hn
          show Q (if qIs T len (qSkip T len (len - b)) 40 = true ∧ deep ≠ 3 then _ else _)
          obtain ⟨t1, t2⟩ := skip_b (T := T) n5
          generalize h2 : qSkip T len (len - b) = a2 at t1 t2
          by_cases q5 : qIs T len a2 40 = true ∧ deep ≠ 3
          · rw [if_pos q5]
            exact c5 a1 v b a2 h1.symm s1 q1a q3 n1 n2 n3 n4 t1 n7 h2.symm (by omega) (qIs_lt q5.1).1 q5
          · rw [if_neg q5]
            exact c4 a1 v b a2 h1.symm s1 q1a q3 n1 n2 n3 n4 t1 n7 h2.symm (by omega) t2 q5
    · rw [if_neg q2]
      obtain ⟨t1, t2⟩ := skip_b (T := T) (len := len) (a := a1 + 1) (by omega)
      generalize h2 : qSkip T len (len - (a1 + 1)) = a2 at t1 t2
      refine c6 a1 a2 _ h1.symm s1 q1a q2 h2.symm (by omega) t2 rfl ?_ ?_
      · split <;> omega
      · split
        · rename_i q; exact (qIs_lt q).1
        · exact t2
def PO (T : Nat → Int32) (len a : Nat) (r : Option Nat × Nat × List (Nat × Bool)) : Prop := (r.1 = none → a ≤ r.2.1 ∧ r.2.1 ≤ len ∧ (r.2.1 = len ∨ T r.2.1 = 41)) ∧ (∀ x, r.1 = some x → x ≤ len)
theorem pR_o (hl : len ≤ 200) : ∀ (f deep a : Nat), a ≤ len → len - a + 1 ≤ f → PO T len a (pR T len f deep a)
  | 0, _, _, _, h => by omega
  | f + 1, deep, a, ha, hf => by
    have ih := pR_o hl f
    refine pR_c (Q := fun r => PO T len a r) hl ha ?_ ?_ ?_ ?_ ?_ ?_
    · exact fun a1 _ h1 h2 h3 => ⟨fun _ => ⟨h1, h2, h3⟩, fun x e => by cases e⟩
    · exact fun a1 _ h1 h2 _ _ _ _ => ⟨(fun e => by cases e), fun x e => by cases e; omega⟩
    · exact fun a1 _ h1 h2 _ _ _ => ⟨(fun e => by cases e), fun x e => by cases e; omega⟩
    · intro a1 v b a2 _ h1 h2 _ _ _ _ _ _ _ _ h3 h4 _
      exact ⟨(fun e => by cases e), fun x e => by cases e; omega⟩
    · intro a1 v b a2 _ h1 h2 _ _ _ _ _ _ _ _ h3 h4 _
      have g := ih (deep + 1) (a2 + 1) (by omega) (by omega)
      by_cases q : (pR T len f (deep + 1) (a2 + 1)).1 = none
      · rw [if_pos q]
        obtain ⟨g1, g2, g3⟩ := g.1 q
        by_cases q2 : (pR T len f (deep + 1) (a2 + 1)).2.1 = len
        · rw [if_pos q2]
          exact ⟨(fun e => by cases e), fun x e => by cases e; omega⟩
        · rw [if_neg q2]
          have g' := ih deep ((pR T len f (deep + 1) (a2 + 1)).2.1 + 1) (by omega) (by omega)
          exact ⟨(fun e => by have := g'.1 e; exact ⟨Nat.le_trans (by omega) this.1, this.2⟩), g'.2⟩
      · rw [if_neg q]
        exact ⟨(fun e => absurd e q), g.2⟩
    · intro a1 a2 a3 _ h1 h2 _ _ h3 h4 _ h5 h6
      have g := ih deep a3 h6 (by omega)
      exact ⟨(fun e => by have := g.1 e; exact ⟨Nat.le_trans (by omega) this.1, this.2⟩), g.2⟩
theorem qP_e {e : Int32} (he : e ≠ -1) : qPieces T len (f + 1) deep a e many = some (many, a, e) := if_neg he
theorem qP_s : qPieces T len (f + 1) deep a (-1) many = (
      let a1 := qSkip T len (len - a)
       if a1 = len ∨ T a1 = 41 then some (many, a1, -1) else
       if T a1 < 97 ∨ 122 < T a1 then
         (if qDgt (T a1) = true then
           (let r := qNum T len a1 (-1)
            if r.2.2 = -1 then
              (let a2 := qSkip T len (len - r.2.1)
               if qIs T len a2 40 = true ∧ deep ≠ 3 then
                 (match qPieces T len f (deep + 1) (a2 + 1) r.2.2 0 with
                  | none => none
                  | some (m, a3, e3) => if e3 = -1 then (if a3 = len then qPieces T len f deep (a3 + 1) (nI a3) (many + r.1 * m) else qPieces T len f deep (a3 + 1) e3 (many + r.1 * m)) else qPieces T len f deep a3 e3 (many + 0))
               else qPieces T len f deep a2 (nI a2) (many + 0))
            else qPieces T len f deep r.2.1 r.2.2 (many + 0))
          else qPieces T len f deep a1 (nI a1) many)
       else
         (let a2 := qSkip T len (len - (a1 + 1))
          qPieces T len f deep (if qIs T len a2 33 = true then a2 + 1 else a2) (-1) (many + 1))) := rfl
def PP (many' : Option (Int32 × Nat × Int32)) (m : Nat) (r : Option Nat × Nat × List (Nat × Bool)) : Prop := (r.1 = none → many' = some (nI (m + r.2.2.length), r.2.1, -1)) ∧ ∀ x, r.1 = some x → ∃ m' a', many' = some (m', a', nI x)
theorem pR_pieces (hl : len ≤ 200) : ∀ (f deep a m : Nat), deep ≤ 3 → a ≤ len → len - a + 1 ≤ f → PP (qPieces T len (f + 1) deep a (-1) (nI m)) m (pR T len f deep a)
  | 0, _, _, _, _, _, h => by omega
  | f + 1, deep, a, m, hd, ha, hf => by
    have ih := pR_pieces hl f
    have ho := pR_o (T := T) hl f
    have hn : ∀ x, x ≤ len → nI x ≠ -1 := fun x h => nI_m1 (by omega)
    rw [qP_s]
    refine pR_c (Q := fun r => PP _ m r) hl ha ?_ ?_ ?_ ?_ ?_ ?_
    · intro a1 h0 h1 h2 h3
      rw [← h0]
      refine ⟨(fun _ => ?_), fun x e => by cases e⟩
      exact if_pos h3
    · intro a1 h0 h1 h2 h3 h4 h5 h6
      rw [← h0]
      refine ⟨(fun e => by cases e), fun x e => ?_⟩
      cases e
      refine ⟨nI m, a1, ?_⟩
      refine (if_neg (by rintro (q | q); omega; exact h3 q)).trans ?_
      refine (if_pos h5).trans ?_
      rw [h6]
      exact (if_neg (by decide)).trans (qP_e (hn _ (by omega)))
    · intro a1 h0 h1 h2 h3 h4 h5
      rw [← h0]
      obtain ⟨d1, d2, d3, d4, d5, _⟩ := dgt_lt h3
      refine ⟨(fun e => by cases e), fun x e => ?_⟩
      cases e
      refine ⟨nI m + 0, (qNum T len a1 (-1)).2.1, ?_⟩
      refine (if_neg (by rintro (q | q); omega; exact d3 q)).trans ?_
      refine (if_pos (Or.inl d1)).trans ?_
      refine (if_pos h3).trans ?_
      show (if (qNum T len a1 (-1)).2.2 = -1 then _ else _) = _
      rw [h5, if_neg (hn _ (by omega))]
      exact qP_e (hn _ (by omega))
    · intro a1 v b a2 h0 h1 h2 h3 h4 h5 h6 h7 h8 h9 h10 h11 h12 h13
      rw [← h0]
      obtain ⟨d1, d2, d3, d4, d5, _⟩ := dgt_lt h3
      refine ⟨(fun e => by cases e), fun x e => ?_⟩
      cases e
      refine ⟨nI m + 0, a2, ?_⟩
      refine (if_neg (by rintro (q | q); omega; exact d3 q)).trans ?_
      refine (if_pos (Or.inl d1)).trans ?_
      refine (if_pos h3).trans ?_
      show (if (qNum T len a1 (-1)).2.2 = -1 then _ else _) = _
      rw [h9]
      refine (if_pos rfl).trans ?_
      show (if qIs T len (qSkip T len (len - b)) 40 = true ∧ deep ≠ 3 then _ else _) = _
      rw [← h10, if_neg h13]
      exact qP_e (hn _ (by omega))
    · intro a1 v b a2 h0 h1 h2 h3 h4 h5 h6 h7 h8 h9 h10 h11 h12 h13
      rw [← h0]
      obtain ⟨d1, d2, d3, d4, d5, _⟩ := dgt_lt h3
      obtain ⟨f, rfl⟩ : ∃ g, f = g + 1 := ⟨f - 1, by omega⟩
      have g := ih (deep + 1) (a2 + 1) 0 (by have := h13.2; omega) (by omega) (by omega)
      have go := ho (deep + 1) (a2 + 1) (by omega) (by omega)
      have hq : ∀ Y, (let a1' := a1
       if a1' = len ∨ T a1' = 41 then some (nI m, a1', -1) else
       if T a1' < 97 ∨ 122 < T a1' then
         (if qDgt (T a1') = true then
           (let r := qNum T len a1' (-1)
            if r.2.2 = -1 then
              (let a2 := qSkip T len (len - r.2.1)
               if qIs T len a2 40 = true ∧ deep ≠ 3 then
                 (match qPieces T len (f + 1 + 1) (deep + 1) (a2 + 1) r.2.2 0 with
                  | none => none
                  | some (m1, a3, e3) => if e3 = -1 then (if a3 = len then qPieces T len (f + 1 + 1) deep (a3 + 1) (nI a3) (nI m + r.1 * m1) else qPieces T len (f + 1 + 1) deep (a3 + 1) e3 (nI m + r.1 * m1)) else qPieces T len (f + 1 + 1) deep a3 e3 (nI m + 0))
               else qPieces T len (f + 1 + 1) deep a2 (nI a2) (nI m + 0))
            else qPieces T len (f + 1 + 1) deep r.2.1 r.2.2 (nI m + 0))
          else qPieces T len (f + 1 + 1) deep a1' (nI a1') (nI m))
       else Y) = (match qPieces T len (f + 1 + 1) (deep + 1) (a2 + 1) (-1) 0 with
                  | none => none
                  | some (m1, a3, e3) => if e3 = -1 then (if a3 = len then qPieces T len (f + 1 + 1) deep (a3 + 1) (nI a3) (nI m + nI v * m1) else qPieces T len (f + 1 + 1) deep (a3 + 1) e3 (nI m + nI v * m1)) else qPieces T len (f + 1 + 1) deep a3 e3 (nI m + 0)) := by
        intro Y
        refine (if_neg (by rintro (q | q); omega; exact d3 q)).trans ?_
        refine (if_pos (Or.inl d1)).trans ?_
        refine (if_pos h3).trans ?_
        show (if (qNum T len a1 (-1)).2.2 = -1 then _ else _) = _
        rw [h9]
        refine (if_pos rfl).trans ?_
        show (if qIs T len (qSkip T len (len - b)) 40 = true ∧ deep ≠ 3 then _ else _) = _
        rw [← h10, if_pos h13]
      rw [hq]
      by_cases q : (pR T len (f + 1) (deep + 1) (a2 + 1)).1 = none
      · have g1 := g.1 q
        obtain ⟨o1, o2, o3⟩ := go.1 q
        rw [if_pos q, show (0 : Int32) = nI 0 from rfl, g1]
        show PP (if (-1 : Int32) = -1 then _ else _) m _
        rw [if_pos rfl, Nat.zero_add]
        by_cases q2 : (pR T len (f + 1) (deep + 1) (a2 + 1)).2.1 = len
        · rw [if_pos q2, if_pos q2]
          refine ⟨(fun e => by cases e), fun x e => ?_⟩
          cases e
          rw [q2]
          exact ⟨_, _, qP_e (hn _ (by omega))⟩
        · rw [if_neg q2, if_neg q2]
          have g' := ih deep ((pR T len (f + 1) (deep + 1) (a2 + 1)).2.1 + 1) (m + v * (pR T len (f + 1) (deep + 1) (a2 + 1)).2.2.length) hd (by omega) (by omega)
          rw [lt_iM, lt_iA]
          refine ⟨(fun e => ?_), g'.2⟩
          rw [g'.1 e]
          show _ = some (nI (m + (rep (pR T len (f + 1) (deep + 1) (a2 + 1)).2.2 v ++ _).length), _, _)
          rw [List.length_append, rep_len, Nat.add_assoc]
      · rw [if_neg q]
        refine ⟨(fun e => absurd e q), fun x e => ?_⟩
        obtain ⟨m', a', g2⟩ := g.2 x e
        rw [show (0 : Int32) = nI 0 from rfl, g2]
        refine ⟨nI m + 0, a', ?_⟩
        show (if nI x = -1 then _ else _) = _
        have hx := hn x (go.2 x e)
        rw [if_neg hx]
        exact qP_e hx
    · intro a1 a2 a3 h0 h1 h2 h3 h4 h5 h6 h7 h8 h9
      rw [← h0]
      have g := ih deep a3 (m + 1) hd h9 (by omega)
      have hlt : ¬ T a1 = 41 := fun e => h3 (Or.inl (by rw [e]; decide))
      have hq : ∀ Y Y' : Option (Int32 × Nat × Int32), (let a1' := a1
        if a1' = len ∨ T a1' = 41 then Y else if T a1' < 97 ∨ 122 < T a1' then Y' else
         (let a2 := qSkip T len (len - (a1' + 1))
          qPieces T len (f + 1) deep (if qIs T len a2 33 = true then a2 + 1 else a2) (-1) (nI m + 1))) = qPieces T len (f + 1) deep a3 (-1) (nI (m + 1)) := by
        intro Y Y'
        refine (if_neg (by rintro (q | q); omega; exact hlt q)).trans ?_
        refine (if_neg h3).trans ?_
        show qPieces T len (f + 1) deep (if qIs T len (qSkip T len (len - (a1 + 1))) 33 = true then qSkip T len (len - (a1 + 1)) + 1 else qSkip T len (len - (a1 + 1))) (-1) (nI m + 1) = _
        rw [← h4, ← h7, show nI m + 1 = nI (m + 1) from lt_iA (j := m) (k := 1)]
      rw [hq]
      refine ⟨(fun e => ?_), g.2⟩
      rw [g.1 e]
      show _ = some (nI (m + (_ :: (pR T len f deep a3).2.2).length), _, _)
      rw [List.length_cons, show m + 1 + (pR T len f deep a3).2.2.length = m + ((pR T len f deep a3).2.2.length + 1) by omega]
end Ryb
