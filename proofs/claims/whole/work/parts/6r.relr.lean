/-! THE RELATION, the text: the reference does the row of requests; both sides -/
def qAskL (fs : Nat → Nat) : List (Nat × Bool) → QS → Option QS
  | [], s => some s
  | e :: l, s => match qAskS fs s e.1 (bI e.2) with
    | none => none
    | some s' => qAskL fs l s'
section Ryd
variable {len a i j k m n p v b x f g N deep : Nat} {T : Nat → Int32} {c e many num : Int32} {fs : Nat → Nat} {l L : List (Nat × Bool)}
theorem qAskL_app : ∀ (l l2 : List (Nat × Bool)) (s : QS), qAskL fs (l ++ l2) s = (qAskL fs l s).bind (qAskL fs l2)
  | [], l2, s => rfl
  | e :: l, l2, s => by
    show (match qAskS fs s e.1 (bI e.2) with | none => none | some s' => qAskL fs (l ++ l2) s') = Option.bind (match qAskS fs s e.1 (bI e.2) with | none => none | some s' => qAskL fs l s') _
    cases qAskS fs s e.1 (bI e.2) with
    | none => rfl
    | some s' => exact qAskL_app l l2 s'
theorem iterO_b {α : Type} {F : α → Option α} {n : Nat} {a : α} : iterO F (n + 1) a = (F a).bind (iterO F n) := by
  show iterO F (Nat.succ n) a = _
  rw [iterO]
  cases F a <;> rfl
theorem iter_rep {F : Nat × QS → Option (Nat × QS)} (hF : ∀ b, F b = (qAskL fs l b.2).map (fun s => (x, s))) : ∀ (v : Nat) (b : Nat × QS), iterO F (v + 1) b = (qAskL fs (rep l (v + 1)) b.2).map (fun s => (x, s))
  | 0, b => by
    have e : rep l (0 + 1) = l := List.append_nil l
    rw [iterO_b, hF, e]
    cases qAskL fs l b.2 <;> rfl
  | v + 1, b => by
    have e : rep l (v + 1 + 1) = l ++ rep l (v + 1) := rfl
    rw [iterO_b, hF, e, qAskL_app]
    cases qAskL fs l b.2 with
    | none => rfl
    | some s => exact iter_rep hF v (x, s)
theorem qD_s {lvl : Nat} {s : QS} : qDoes T len fs (f + 1) lvl (a, s) = (
    let a1 := qSkip T len (len - a)
    if a1 = len ∨ T a1 = 41 then some (a1, s) else
    if qDgt (T a1) = true then
      (let r := qNum T len a1 (-1)
       if r.2.2 = -1 then
        (let a2 := qSkip T len (len - r.2.1)
         match lvl with
         | 0 => none
         | l + 1 => match iterO (fun b => qDoes T len fs f l (if qIs T len a2 40 = true then a2 + 1 else a2, b.2)) (lt_n r.1) (a2, s) with
           | none => none
           | some b => if b.1 < len then qDoes T len fs f (l + 1) (b.1 + 1, b.2) else none)
       else none)
    else if T a1 < 97 ∨ 122 < T a1 then none else
      (let a2 := qSkip T len (len - (a1 + 1))
       match qAskS fs s (lt_n (T a1 - 97)) (bI (qIs T len a2 33)) with
       | none => none
       | some s' => qDoes T len fs f lvl (if qIs T len a2 33 = true then a2 + 1 else a2, s'))) := rfl
theorem pR_does (hl : len ≤ 200) : ∀ (f deep lvl a : Nat) (s : QS), deep + lvl = 3 → a ≤ len → len - a + 1 ≤ f → (pR T len f deep a).1 = none → qDoes T len fs f lvl (a, s) = (qAskL fs (pR T len f deep a).2.2 s).map (fun s' => ((pR T len f deep a).2.1, s'))
  | 0, _, _, _, _, _, _, h, _ => by omega
  | f + 1, deep, lvl, a, s, hd, ha, hf, hn => by
    have ih := pR_does hl f
    have ho := pR_o (T := T) hl f
    rw [qD_s]
    refine pR_c (T := T) (f := f) (deep := deep) (Q := fun r => r.1 = none → _ = (qAskL fs r.2.2 s).map (fun s' => (r.2.1, s'))) hl ha ?_ ?_ ?_ ?_ ?_ ?_ hn
    · intro a1 h0 h1 h2 h3 _
      rw [← h0]
      exact if_pos h3
    · intro a1 _ _ _ _ _ _ _ e
      cases e
    · intro a1 _ _ _ _ _ _ e
      cases e
    · intro a1 v b a2 _ _ _ _ _ _ _ _ _ _ _ _ _ _ e
      cases e
    · intro a1 v b a2 h0 h1 h2 h3 h4 h5 h6 h7 h8 h9 h10 h11 h12 h13 e
      rw [← h0]
      obtain ⟨d1, d2, d3, d4, d5, _⟩ := dgt_lt h3
      obtain ⟨l, rfl⟩ : ∃ l, lvl = l + 1 := ⟨lvl - 1, by have := h13.2; omega⟩
      obtain ⟨v, rfl⟩ : ∃ w, v = w + 1 := ⟨v - 1, by omega⟩
      have go := ho (deep + 1) (a2 + 1) (by omega) (by omega)
      by_cases q : (pR T len f (deep + 1) (a2 + 1)).1 = none
      · rw [if_pos q] at e ⊢
        obtain ⟨o1, o2, o3⟩ := go.1 q
        by_cases q2 : (pR T len f (deep + 1) (a2 + 1)).2.1 = len
        · rw [if_pos q2] at e
          cases e
        · rw [if_neg q2] at e ⊢
          refine (if_neg (by rintro (q | q); omega; exact d3 q)).trans ?_
          refine (if_pos h3).trans ?_
          show (if (qNum T len a1 (-1)).2.2 = -1 then _ else _) = _
          rw [h9]
          refine (if_pos rfl).trans ?_
          show (match iterO (fun b' => qDoes T len fs f l (if qIs T len (qSkip T len (len - b)) 40 = true then qSkip T len (len - b) + 1 else qSkip T len (len - b), b'.2)) (lt_n (nI (v + 1))) (qSkip T len (len - b), s) with | none => none | some b => if b.1 < len then qDoes T len fs f (l + 1) (b.1 + 1, b.2) else none) = _
          rw [← h10, lt_iN (by omega), if_pos h13.1]
          have hF : ∀ b' : Nat × QS, qDoes T len fs f l (a2 + 1, b'.2) = (qAskL fs (pR T len f (deep + 1) (a2 + 1)).2.2 b'.2).map (fun s => ((pR T len f (deep + 1) (a2 + 1)).2.1, s)) := fun b' => ih (deep + 1) l (a2 + 1) b'.2 (by omega) (by omega) (by omega) q
          rw [iter_rep hF]
          show _ = Option.map _ (qAskL fs (rep _ (v + 1) ++ _) s)
          rw [qAskL_app]
          cases qAskL fs (rep (pR T len f (deep + 1) (a2 + 1)).2.2 (v + 1)) s with
          | none => rfl
          | some s' =>
            show (if (pR T len f (deep + 1) (a2 + 1)).2.1 < len then _ else none) = _
            rw [if_pos (by omega)]
            exact ih deep (l + 1) ((pR T len f (deep + 1) (a2 + 1)).2.1 + 1) s' hd (by omega) (by omega) e
      · rw [if_neg q] at e
        exact absurd e q
    · intro a1 a2 a3 h0 h1 h2 h3 h4 h5 h6 h7 h8 h9 e
      rw [← h0]
      have l2 : ¬ T a1 = 41 := fun e => h3 (Or.inl (by rw [e]; decide))
      have l4 : ¬ qDgt (T a1) = true := fun e => h3 (Or.inl (dgt_lt e).1)
      refine (if_neg (by rintro (q | q); omega; exact l2 q)).trans ?_
      refine (if_neg l4).trans ?_
      refine (if_neg h3).trans ?_
      show (match qAskS fs s (lt_n (T a1 - 97)) (bI (qIs T len (qSkip T len (len - (a1 + 1))) 33)) with | none => none | some s' => qDoes T len fs f lvl (if qIs T len (qSkip T len (len - (a1 + 1))) 33 = true then qSkip T len (len - (a1 + 1)) + 1 else qSkip T len (len - (a1 + 1)), s')) = Option.map _ (match qAskS fs s (lt_n (T a1 - 97)) (bI (qIs T len a2 33)) with | none => none | some s' => qAskL fs (pR T len f deep a3).2.2 s')
      rw [← h4, ← h7]
      cases qAskS fs s (lt_n (T a1 - 97)) (bI (qIs T len a2 33)) with
      | none => rfl
      | some s' => exact ih deep lvl a3 s' hd h9 (by omega) e
/-- the error of a text, and what it tells -/
def txE (T : Nat → Int32) (len : Nat) : Option Nat := if (pR T len (len + 1) 0 0).1 = none ∧ (pR T len (len + 1) 0 0).2.1 < len then some (pR T len (len + 1) 0 0).2.1 else (pR T len (len + 1) 0 0).1
def txL (T : Nat → Int32) (len : Nat) : List (Nat × Bool) := (pR T len (len + 1) 0 0).2.2
theorem text_ref (hl : len ≤ 200) : ∃ many a, qReads T len (len + 2) = some (many, a, oI (txE T len)) ∧ (txE T len = none → many = nI (txL T len).length ∧ ∀ fs s, qDoes T len fs (len + 1) 3 (0, s) = (qAskL fs (txL T len) s).map (fun s' => (len, s'))) := by
  have g := pR_pieces (T := T) hl (len + 1) 0 0 0 (by omega) (by omega) (by omega)
  have go := pR_o (T := T) hl (len + 1) 0 0 (by omega) (by omega)
  have gd := fun fs s hn => pR_does (T := T) (fs := fs) hl (len + 1) 0 3 0 s rfl (by omega) (by omega) hn
  unfold txE txL qReads
  rw [show (0 : Int32) = nI 0 from rfl]
  generalize pR T len (len + 1) 0 0 = r at g go gd
  cases q : r.1 with
  | none =>
    rw [(g.1 q)]
    obtain ⟨o1, o2, o3⟩ := go.1 q
    by_cases q2 : r.2.1 < len
    · refine ⟨nI (0 + r.2.2.length), r.2.1, ?_, ?_⟩
      · rw [if_pos ⟨rfl, q2⟩]
        exact if_pos ⟨rfl, q2⟩
      · rw [if_pos ⟨rfl, q2⟩]
        exact fun e => by cases e
    · refine ⟨nI (0 + r.2.2.length), r.2.1, ?_, ?_⟩
      · rw [if_neg (fun e => q2 e.2)]
        exact if_neg (fun e => q2 e.2)
      · rw [Nat.zero_add]
        refine fun _ => ⟨rfl, fun fs s => ?_⟩
        rw [gd fs s q, show r.2.1 = len by omega]
  | some x =>
    obtain ⟨m', a', g2⟩ := g.2 x q
    refine ⟨m', a', ?_, ?_⟩
    · rw [g2, if_neg (by rintro ⟨e, _⟩; cases e)]
      exact if_neg (fun e => nI_m1 (a := x) (by have := go.2 x q; omega) e.1)
    · rw [if_neg (by rintro ⟨e, _⟩; cases e)]
      exact fun e => by cases e
theorem text_class (hl : len ≤ 200) : ∃ y : Option Nat × Nat × (Nat → Nat) × (Nat → Bool), kTx T len len 0 (-1) false [] 0 (fun _ => 0) (fun _ => false) = y ∧ y.1 = txE T len ∧ (txE T len = none → y.2.1 = (txL T len).length ∧ TL y.2.2.1 y.2.2.2 (txL T len)) := by
  have g := pR_class (T := T) hl (len + 1) 0 0 [] [] (fun _ => 0) (fun _ => false) false rfl (by omega) (by omega) (by omega) (fun j r e => by cases e) (fun e => by cases e)
  have go := pR_o (T := T) hl (len + 1) 0 0 (by omega) (by omega)
  refine ⟨_, rfl, ?_⟩
  rw [kTx_f len 200 0 _ _ _ _ _ _ (by omega) (by omega)]
  unfold txE txL
  change KP T len 200 [] [] (kTx T len 200 0 (-1) false [] 0 (fun _ => 0) (fun _ => false)) _ at g
  generalize kTx T len 200 0 (-1) false [] 0 (fun _ => 0) (fun _ => false) = y at g
  generalize pR T len (len + 1) 0 0 = r at g go
  cases q : r.1 with
  | none =>
    obtain ⟨o1, o2, o3⟩ := go.1 q
    obtain ⟨K', W', b', t1, t2⟩ := g.2 q
    by_cases q2 : r.2.1 < len
    · have o4 : T r.2.1 = 41 := by rcases o3 with o3 | o3; omega; exact o3
      rw [if_pos ⟨rfl, q2⟩]
      refine ⟨?_, (fun e => by cases e)⟩
      rw [t2, show (200 : Nat) = 199 + 1 from rfl, kTx_s q2, if_neg (by rw [o4]; decide), if_pos rfl, if_neg (by rw [o4]; decide), if_neg (fun e => e.2 rfl), if_neg (by rw [o4]; rintro ⟨e, _⟩; revert e; decide), if_neg (by rw [o4]; decide)]
    · rw [if_neg (fun e => q2 e.2), t2, kTx_e (by omega)]
      exact ⟨rfl, fun _ => ⟨rfl, t1⟩⟩
  | some x =>
    rw [if_neg (by rintro ⟨e, _⟩; cases e)]
    exact ⟨g.1 x q, (fun e => by cases e)⟩
end Ryd
