/-! THE RELATION, the text: the class reads the row of requests -/
section Ryc
variable {len a i j k m n p v b x f g N deep : Nat} {T : Nat → Int32} {c e many num : Int32} {fs : Nat → Nat} {st : List (Nat × Nat)} {K K' : Nat → Nat} {W W' : Nat → Bool} {beh : Bool} {l L : List (Nat × Bool)}
theorem kTx_e (h : len ≤ p) : kTx T len g p num beh st N K W = (if num = -1 ∧ st = [] then none else some len, N, K, W) := by
  cases g with
  | zero => rfl
  | succ g => exact if_pos h
theorem kTx_s (h : p < len) : kTx T len (g + 1) p num beh st N K W = (if T p = 32 then kTx T len g (p + 1) num beh st N K W else
    if num = -1 then
      (if qDgt (T p) = true then
        (if kNum T len p = -1 then (some p, N, K, W) else kTx T len g (p + (if tDg T len (p + 1) = true then 2 else 1)) (kNum T len p) false st N K W)
      else if T p = 41 ∧ st ≠ [] then
        kTx T len g (p + 1) num false st.tail ((st.headD (1, N)).2 + (N - (st.headD (1, N)).2) * (st.headD (1, N)).1) (repK K N (st.headD (1, N)).2) (repW W N (st.headD (1, N)).2)
      else if T p = 33 ∧ beh = true then kTx T len g (p + 1) num false st N K (fun j => if j = N - 1 then true else W j)
      else if tLet (T p) = true then kTx T len g (p + 1) num true st (N + 1) (fun j => if j = N then lt_n (T p - 97) else K j) (fun j => if j = N then false else W j)
      else (some p, N, K, W))
    else if T p = 40 ∧ st.length < 3 then kTx T len g (p + 1) (-1) false ((lt_n num, N) :: st) N K W
    else (some p, N, K, W)) := if_neg (by omega)
theorem kTx_f : ∀ (g g' p : Nat) (num : Int32) (beh : Bool) (st : List (Nat × Nat)) (N : Nat) (K : Nat → Nat) (W : Nat → Bool), len - p ≤ g → len - p ≤ g' → kTx T len g p num beh st N K W = kTx T len g' p num beh st N K W
  | 0, g', p, num, beh, st, N, K, W, h, _ => by rw [kTx_e (by omega), kTx_e (by omega)]
  | g + 1, 0, p, num, beh, st, N, K, W, _, h => by rw [kTx_e (by omega), kTx_e (by omega)]
  | g + 1, g' + 1, p, num, beh, st, N, K, W, h, h' => by
    by_cases q : len ≤ p
    · rw [kTx_e q, kTx_e q]
    · have ih : ∀ d, 1 ≤ d → ∀ num beh st N K W, kTx T len g (p + d) num beh st N K W = kTx T len g' (p + d) num beh st N K W := fun d hd _ _ _ _ _ _ => kTx_f g g' _ _ _ _ _ _ _ (by omega) (by omega)
      rw [kTx_s (by omega), kTx_s (by omega)]
      rw [ih 1 (by omega), ih 1 (by omega), ih 1 (by omega), ih 1 (by omega), ih 1 (by omega), ih (if tDg T len (p + 1) = true then 2 else 1) (by split <;> omega)]
theorem kTx_k : ∀ (m p g : Nat), len - p = m → p ≤ len → len - p ≤ g → kTx T len g p num beh st N K W = kTx T len g (qSkip T len m) num beh st N K W
  | 0, p, g, h, hp, _ => by
    rw [show p = len by omega]
    rfl
  | m + 1, p, 0, h, hp, hg => by omega
  | m + 1, p, g + 1, h, hp, hg => by
    have e : len - (m + 1) = p := by omega
    by_cases q : T p = 32
    · rw [kTx_s (by omega), if_pos q, kTx_k m (p + 1) g (by omega) (by omega) (by omega)]
      have e2 : qSkip T len (m + 1) = qSkip T len m := by
        show (if T (len - (m + 1)) = 32 then _ else _) = _
        rw [e, if_pos q]
      rw [e2]
      exact kTx_f _ _ _ _ _ _ _ _ _ (by have := qSkip_ge (T := T) (len := len) m; omega) (by have := qSkip_ge (T := T) (len := len) m; omega)
    · have e2 : qSkip T len (m + 1) = p := by
        show (if T (len - (m + 1)) = 32 then _ else _) = _
        rw [e, if_neg q]
      rw [e2]
/-- what is told so far -/
def TL (K : Nat → Nat) (W : Nat → Bool) (l : List (Nat × Bool)) : Prop := ∀ j r, l[j]? = some r → K j = r.1 ∧ W j = r.2
theorem gi_lt {α : Type} {l : List α} {j : Nat} {r : α} (h : l[j]? = some r) : j < l.length := by
  rcases Nat.lt_or_ge j l.length with q | q
  · exact q
  · rw [List.getElem?_eq_none q] at h
    cases h
theorem TL.add (h : TL K W l) (hN : N = l.length) {k : Nat} {w : Bool} : TL (fun j => if j = N then k else K j) (fun j => if j = N then w else W j) (l ++ [(k, w)]) := by
  intro j r hj
  rcases Nat.lt_trichotomy j l.length with q | q | q
  · rw [List.getElem?_append_left q] at hj
    have := h j r hj
    exact ⟨(if_neg (by omega)).trans this.1, (if_neg (by omega)).trans this.2⟩
  · subst q
    rw [List.getElem?_append_right (Nat.le_refl _), Nat.sub_self] at hj
    cases hj
    exact ⟨if_pos hN.symm, if_pos hN.symm⟩
  · have := gi_lt hj
    rw [List.length_append] at this
    exact absurd this (by show ¬ (j < l.length + 1); omega)
theorem TL.mk (h : TL K W (l ++ [(k, false)])) (hN : N = l.length + 1) : TL K (fun j => if j = N - 1 then true else W j) (l ++ [(k, true)]) := by
  intro j r hj
  rcases Nat.lt_trichotomy j l.length with q | q | q
  · rw [List.getElem?_append_left q] at hj
    have := h j r (by rw [List.getElem?_append_left q]; exact hj)
    exact ⟨this.1, (if_neg (by omega)).trans this.2⟩
  · subst q
    have := h l.length (k, false) (by rw [List.getElem?_append_right (Nat.le_refl _), Nat.sub_self]; rfl)
    rw [List.getElem?_append_right (Nat.le_refl _), Nat.sub_self] at hj
    cases hj
    exact ⟨this.1, if_pos (by omega)⟩
  · have := gi_lt hj
    rw [List.length_append] at this
    exact absurd this (by show ¬ (j < l.length + 1); omega)
theorem rep_get : ∀ (v i : Nat), i < v * l.length → (rep l v)[i]? = l[i % l.length]?
  | 0, i, h => by omega
  | v + 1, i, h => by
    show (l ++ rep l v)[i]? = _
    rw [Nat.succ_mul] at h
    by_cases q : i < l.length
    · rw [List.getElem?_append_left q, Nat.mod_eq_of_lt q]
    · rw [List.getElem?_append_right (by omega), rep_get v (i - l.length) (by omega), Nat.mod_eq_sub_mod (a := i) (by omega)]
theorem TL.rep (h : TL K W (L ++ l)) (hN : N = L.length + l.length) {v : Nat} : TL (repK K N L.length) (repW W N L.length) (L ++ rep l v) := by
  intro j r hj
  have hlt := gi_lt hj
  rw [List.length_append, rep_len] at hlt
  by_cases q : j < L.length
  · rw [List.getElem?_append_left q] at hj
    have := h j r (by rw [List.getElem?_append_left q]; exact hj)
    exact ⟨(if_pos (by omega)).trans this.1, (if_pos (by omega)).trans this.2⟩
  · rw [List.getElem?_append_right (by omega), rep_get v (j - L.length) (by omega)] at hj
    by_cases q2 : j < N
    · rw [Nat.mod_eq_of_lt (by omega)] at hj
      have := h j r (by rw [List.getElem?_append_right (by omega)]; exact hj)
      exact ⟨(if_pos q2).trans this.1, (if_pos q2).trans this.2⟩
    · have hpos : 0 < l.length := by
        rcases Nat.eq_zero_or_pos l.length with e | e
        · rw [e, Nat.mul_zero] at hlt; omega
        · exact e
      have hm := Nat.mod_lt (j - L.length) hpos
      have := h (L.length + (j - L.length) % l.length) r (by rw [List.getElem?_append_right (by omega), Nat.add_sub_cancel_left]; exact hj)
      have e : N - L.length = l.length := by omega
      refine ⟨(if_neg q2).trans ?_, (if_neg q2).trans ?_⟩
      · rw [e]; exact this.1
      · rw [e]; exact this.2
theorem tLet_i : tLet c = true ↔ ¬ (c < 97 ∨ 122 < c) := by
  unfold tLet
  rw [Bool.and_eq_true_iff]
  simp only [Bool.not_eq_true', decide_eq_false_iff_not, not_or]
def KP (T : Nat → Int32) (len g : Nat) (st : List (Nat × Nat)) (L : List (Nat × Bool)) (y : Option Nat × Nat × (Nat → Nat) × (Nat → Bool)) (r : Option Nat × Nat × List (Nat × Bool)) : Prop :=
  (∀ x, r.1 = some x → y.1 = some x) ∧ (r.1 = none → ∃ K' W' beh', TL K' W' (L ++ r.2.2) ∧ y = kTx T len g r.2.1 (-1) beh' st (L ++ r.2.2).length K' W')
theorem pR_class (hl : len ≤ 200) : ∀ (f deep a : Nat) (st : List (Nat × Nat)) (L : List (Nat × Bool)) (K : Nat → Nat) (W : Nat → Bool) (beh : Bool), deep = st.length → deep ≤ 3 → a ≤ len → len - a + 1 ≤ f → TL K W L → (beh = true → qIs T len (qSkip T len (len - a)) 33 = false) → KP T len 200 st L (kTx T len 200 a (-1) beh st L.length K W) (pR T len f deep a)
  | 0, _, _, _, _, _, _, _, _, _, _, h, _, _ => by omega
  | f + 1, deep, a, st, L, K, W, beh, hd, hd3, ha, hf, hT, hb => by
    have ih := pR_class hl f
    have ho := pR_o (T := T) hl f
    rw [kTx_k (len - a) a 200 rfl ha (by omega)]
    refine pR_c (Q := fun r => KP T len 200 st L _ r) hl ha ?_ ?_ ?_ ?_ ?_ ?_
    · intro a1 h0 h1 h2 h3
      rw [← h0]
      exact ⟨(fun x e => by cases e), fun _ => ⟨K, W, beh, by rw [List.append_nil]; exact hT, by rw [List.append_nil]⟩⟩
    · intro a1 h0 h1 h2 h3 h4 h5 h6
      rw [← h0] at hb ⊢
      refine ⟨fun x e => ?_, (fun e => by cases e)⟩
      cases e
      have h7 : ¬ (T a1 = 33 ∧ beh = true) := by
        rintro ⟨q1, q2⟩
        have := hb q2
        unfold qIs at this
        rw [decide_eq_true h2, decide_eq_true q1] at this
        cases this
      have h8 : ¬ tLet (T a1) = true := fun e => tLet_i.mp e h5
      rw [show (200 : Nat) = 199 + 1 from rfl, kTx_s h2, if_neg h4, if_pos rfl, h6, if_neg (by decide), if_neg (fun e => h3 e.1), if_neg h7, if_neg h8]
    · intro a1 h0 h1 h2 h3 h4 h5
      rw [← h0]
      obtain ⟨d1, d2, d3, d4, d5, _⟩ := dgt_lt h3
      refine ⟨fun x e => ?_, (fun e => by cases e)⟩
      cases e
      rw [show (200 : Nat) = 199 + 1 from rfl, kTx_s h2, if_neg d2, if_pos rfl, if_pos h3, if_pos h4]
    · intro a1 v b a2 h0 h1 h2 h3 h4 h5 h6 h7 h8 h9 h10 h11 h12 h13
      rw [← h0]
      obtain ⟨d1, d2, d3, d4, d5, _⟩ := dgt_lt h3
      refine ⟨fun x e => ?_, (fun e => by cases e)⟩
      cases e
      have hv : nI v ≠ -1 := nI_m1 (by omega)
      have hb1 : a1 < b := by rw [h7]; split <;> omega
      rw [show (200 : Nat) = 199 + 1 from rfl, kTx_s h2, if_neg d2, if_pos rfl, if_pos h3, h6, if_neg hv, ← h7, kTx_k (len - b) b 199 rfl (by omega) (by omega), ← h10]
      by_cases q : a2 = len
      · rw [kTx_e (by omega), if_neg (fun e => hv e.1), q]
      · have hs := skip_n (T := T) (len := len) (len - b)
        rw [← h10] at hs
        have hs' : T a2 ≠ 32 := by rcases hs with hs | hs; exact absurd hs q; exact hs
        rw [show (199 : Nat) = 198 + 1 from rfl, kTx_s (by omega), if_neg hs', if_neg hv, if_neg ?_]
        rintro ⟨q1, q2⟩
        refine h13 ⟨?_, by omega⟩
        unfold qIs
        rw [decide_eq_true (show a2 < len by omega), decide_eq_true q1]
        rfl
    · intro a1 v b a2 h0 h1 h2 h3 h4 h5 h6 h7 h8 h9 h10 h11 h12 h13
      rw [← h0]
      obtain ⟨d1, d2, d3, d4, d5, _⟩ := dgt_lt h3
      have hv : nI v ≠ -1 := nI_m1 (by omega)
      have hb1 : a1 < b := by rw [h7]; split <;> omega
      have hs := skip_n (T := T) (len := len) (len - b)
      rw [← h10] at hs
      have hs' : T a2 ≠ 32 := by rcases hs with hs | hs; omega; exact hs
      have hq : kTx T len 200 a1 (-1) beh st L.length K W = kTx T len 200 (a2 + 1) (-1) false ((v, L.length) :: st) L.length K W := by
        rw [show (200 : Nat) = 199 + 1 from rfl, kTx_s h2, if_neg d2, if_pos rfl, if_pos h3, h6, if_neg hv, ← h7, kTx_k (len - b) b 199 rfl (by omega) (by omega), ← h10, show (199 : Nat) = 198 + 1 from rfl, kTx_s h12, if_neg hs', if_neg hv, if_pos ⟨(qIs_lt h13.1).2, by have := h13.2; omega⟩, lt_iN (by omega)]
        exact kTx_f _ _ _ _ _ _ _ _ _ (by omega) (by omega)
      rw [hq]
      have g := ih (deep + 1) (a2 + 1) ((v, L.length) :: st) L K W false (by rw [hd]; rfl) (by have := h13.2; omega) (by omega) (by omega) hT (fun e => by cases e)
      have go := ho (deep + 1) (a2 + 1) (by omega) (by omega)
      by_cases q : (pR T len f (deep + 1) (a2 + 1)).1 = none
      · rw [if_pos q]
        obtain ⟨o1, o2, o3⟩ := go.1 q
        obtain ⟨K', W', beh', t1, t2⟩ := g.2 q
        rw [t2]
        by_cases q2 : (pR T len f (deep + 1) (a2 + 1)).2.1 = len
        · rw [if_pos q2]
          refine ⟨fun x e => ?_, (fun e => by cases e)⟩
          cases e
          rw [q2, kTx_e (Nat.le_refl _), if_neg (fun e => by cases e.2)]
        · rw [if_neg q2]
          have o4 : T (pR T len f (deep + 1) (a2 + 1)).2.1 = 41 := by rcases o3 with o3 | o3; exact absurd o3 q2; exact o3
          generalize hr : pR T len f (deep + 1) (a2 + 1) = r at q o1 o2 o4 t1 q2
          have hq2 : kTx T len 200 r.2.1 (-1) beh' ((v, L.length) :: st) (L ++ r.2.2).length K' W' = kTx T len 200 (r.2.1 + 1) (-1) false st (L ++ rep r.2.2 v).length (repK K' (L ++ r.2.2).length L.length) (repW W' (L ++ r.2.2).length L.length) := by
            rw [show (200 : Nat) = 199 + 1 from rfl, kTx_s (by omega), if_neg (by rw [o4]; decide), if_pos rfl, if_neg (by rw [o4]; decide), if_pos ⟨o4, by simp⟩]
            show kTx T len 199 (r.2.1 + 1) (-1) false st (L.length + ((L ++ r.2.2).length - L.length) * v) (repK K' (L ++ r.2.2).length L.length) (repW W' (L ++ r.2.2).length L.length) = _
            rw [show L.length + ((L ++ r.2.2).length - L.length) * v = (L ++ rep r.2.2 v).length by rw [List.length_append, List.length_append, rep_len, Nat.add_sub_cancel_left, Nat.mul_comm]]
            exact kTx_f _ _ _ _ _ _ _ _ _ (by omega) (by omega)
          rw [hq2]
          have g' := ih deep (r.2.1 + 1) st (L ++ rep r.2.2 v) _ _ false hd hd3 (by omega) (by omega) (TL.rep (v := v) t1 List.length_append) (fun e => by cases e)
          refine ⟨g'.1, fun e => ?_⟩
          obtain ⟨K2, W2, b2, u1, u2⟩ := g'.2 e
          rw [List.append_assoc] at u1 u2
          exact ⟨K2, W2, b2, u1, u2⟩
      · rw [if_neg q]
        exact ⟨g.1, (fun e => absurd e q)⟩
    · intro a1 a2 a3 h0 h1 h2 h3 h4 h5 h6 h7 h8 h9
      rw [← h0]
      have l1 : ¬ T a1 = 32 := fun e => h3 (Or.inl (by rw [e]; decide))
      have l2 : ¬ T a1 = 41 := fun e => h3 (Or.inl (by rw [e]; decide))
      have l3 : ¬ T a1 = 33 := fun e => h3 (Or.inl (by rw [e]; decide))
      have l4 : ¬ qDgt (T a1) = true := fun e => h3 (Or.inl (dgt_lt e).1)
      have hq : kTx T len 200 a1 (-1) beh st L.length K W = kTx T len 199 a2 (-1) true st (L.length + 1) (fun j => if j = L.length then lt_n (T a1 - 97) else K j) (fun j => if j = L.length then false else W j) := by
        rw [show (200 : Nat) = 199 + 1 from rfl, kTx_s h2, if_neg l1, if_pos rfl, if_neg l4, if_neg (fun e => l2 e.1), if_neg (fun e => l3 e.1), if_pos (tLet_i.mpr h3), kTx_k (len - (a1 + 1)) (a1 + 1) 199 rfl (by omega) (by omega), ← h4]
      rw [hq]
      have hT1 := TL.add (N := L.length) hT rfl (k := lt_n (T a1 - 97)) (w := false)
      have hlen : ∀ w, (L ++ [(lt_n (T a1 - 97), w)]).length = L.length + 1 := fun w => List.length_append
      cases q : qIs T len a2 33 with
      | true =>
        rw [q, if_pos rfl] at h7
        obtain ⟨q1, q2⟩ := qIs_lt q
        have hq2 : kTx T len 199 a2 (-1) true st (L.length + 1) (fun j => if j = L.length then lt_n (T a1 - 97) else K j) (fun j => if j = L.length then false else W j) = kTx T len 200 a3 (-1) false st (L ++ [(lt_n (T a1 - 97), true)]).length (fun j => if j = L.length then lt_n (T a1 - 97) else K j) (fun j => if j = L.length + 1 - 1 then true else if j = L.length then false else W j) := by
          rw [show (199 : Nat) = 198 + 1 from rfl, kTx_s q1, if_neg (by rw [q2]; decide), if_pos rfl, if_neg (by rw [q2]; decide), if_neg (by rw [q2]; rintro ⟨e, _⟩; revert e; decide), if_pos ⟨q2, rfl⟩, h7, hlen]
          exact kTx_f _ _ _ _ _ _ _ _ _ (by omega) (by omega)
        rw [hq2]
        have g := ih deep a3 st (L ++ [(lt_n (T a1 - 97), true)]) _ _ false hd hd3 h9 (by omega) (TL.mk hT1 rfl) (fun e => by cases e)
        refine ⟨g.1, fun e => ?_⟩
        obtain ⟨K2, W2, b2, u1, u2⟩ := g.2 e
        rw [List.append_assoc] at u1 u2
        exact ⟨K2, W2, b2, u1, u2⟩
      | false =>
        rw [q, if_neg (by decide)] at h7
        have hs := skip_n (T := T) (len := len) (len - (a1 + 1))
        rw [← h4] at hs
        have hq2 : kTx T len 199 a2 (-1) true st (L.length + 1) (fun j => if j = L.length then lt_n (T a1 - 97) else K j) (fun j => if j = L.length then false else W j) = kTx T len 200 a3 (-1) true st (L ++ [(lt_n (T a1 - 97), false)]).length (fun j => if j = L.length then lt_n (T a1 - 97) else K j) (fun j => if j = L.length then false else W j) := by
          rw [h7, hlen]
          exact kTx_f _ _ _ _ _ _ _ _ _ (by omega) (by omega)
        rw [hq2]
        have g := ih deep a3 st (L ++ [(lt_n (T a1 - 97), false)]) _ _ true hd hd3 h9 (by omega) hT1 (fun _ => by rw [skip_self h9 (by rw [h7]; exact hs), h7]; exact q)
        refine ⟨g.1, fun e => ?_⟩
        obtain ⟨K2, W2, b2, u1, u2⟩ := g.2 e
        rw [List.append_assoc] at u1 u2
        exact ⟨K2, W2, b2, u1, u2⟩
end Ryc
