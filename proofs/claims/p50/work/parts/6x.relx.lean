/-! THE RELATION, rows that shame: both searches find the same row */ -/
/-- what a search from a layer on finds -/
def XLy (p : XP) (most : Nat) (s : HS) : Option (Nat × Nat × Nat) → Prop
  | none => ∀ u, xCan p u → u.length ≤ most → ¬ 16 < (xR p u).2
  | some a => ∃ (R : Nat → List Nat) (e : Nat), e ≤ 1200 ∧ a.2.1 < e ∧ XB p R e s ∧ (a.2.2 :: R a.2.1).length = a.1 ∧ a.1 ≤ most ∧ xCan p (a.2.2 :: R a.2.1) ∧ 16 < (xR p (a.2.2 :: R a.2.1)).2 ∧ (∀ u, xCan p u → u.length < a.1 → ¬ 16 < (xR p u).2) ∧ ∀ u, xCan p u → u.length = a.1 → 16 < (xR p u).2 → num (a.2.2 :: R a.2.1) ≤ num u
section Ryj
variable {a b c d e i j k m n t key LM nd len L most layer : Nat} {p : XP} {s s' : HS} {R R' : Nat → List Nat} {u v w x y l : List Nat} {st : Int64} {lead from_ kk : Int32} {G : Prop} {F : Nat → Int32}
theorem ok_of (h : ∀ u, xCan p u → u.length ≤ L → ¬ 16 < (xR p u).2) : ∀ (u : List Nat), xCan p u → u.length ≤ L → xOk p u
  | [], _, _ => True.intro
  | k :: u, hc, hl => ⟨ok_of h u hc.1 (by have : u.length + 1 ≤ L := hl; omega), hc.2.1, hc.2.2, Nat.le_of_not_lt (h _ hc hl)⟩
theorem m8 (hp : XPO p) (h : xCan p u) : ∀ k, k ∈ u → k < 8 := fun k hk => Nat.lt_of_lt_of_le (xCan_5 hp u h k hk) (by decide)
theorem num_hi (hu : ∀ k, k ∈ u → k < 8) : 8 ^ u.length ≤ num u ∧ num u < 2 * 8 ^ u.length := by
  have h := num_app (u := []) u hu
  rw [List.append_nil] at h
  have e : num [] = 1 := rfl
  rw [e] at h
  omega
theorem X_layers (hp : XPO p) (hc : CAP p LM) (hLM : LM ≤ 11) (hmo : most ≤ LM + 1) : ∀ (m len layer : Nat) (s : HS) (R : Nat → List Nat), len + m = most + 1 → 1 ≤ len → XZ p LM R s → (∀ j, j < layer → (R j).length < len - 1) → (∀ j, layer ≤ j → j < s.1 → (R j).length = len - 1) → layer ≤ s.1 →
    (∀ u, xCan p u → u.length ≤ len - 1 → ¬ 16 < (xR p u).2) → (∀ u, xOk p u → u.length ≤ len - 1 → ∃ j, j < s.1 ∧ (xR p (R j)).1 = (xR p u).1 ∧ (xR p u).2 ≤ (xR p (R j)).2 ∧ num (R j) ≤ num u) → XLy p most (hLayers (HPp p) m len layer s).1 (hLayers (HPp p) m len layer s).2
  | 0, len, layer, s, R, e, h1, hZ, hl1, hl2, hly, hno, hdom => fun u hu hl => hno u hu (by omega)
  | m + 1, len, layer, s, R, e, h1, hZ, hl1, hl2, hly, hno, hdom => by
    have hn := XZ_cap hZ hc
    have hB := hZ.1
    have hpos : 0 < s.1 := by
      obtain ⟨j, hj, -⟩ := hdom [] True.intro (Nat.zero_le _)
      omega
    have r8 : ∀ j, j < s.1 → ∀ k, k ∈ R j → k < 8 := fun j hj => m8 hp (xOk_can _ (hB.2.2 j hj).2.2.2.1)
    have es : hLayers (HPp p) (m + 1) len layer s = match (hNodes (HPp p) (s.1 - layer) layer s).2 with
        | some r => ((hNodes (HPp p) (s.1 - layer) layer s).1, some (len, r))
        | none => hLayers (HPp p) m (len + 1) s.1 (hNodes (HPp p) (s.1 - layer) layer s).1 := rfl
    rw [es]
    obtain ⟨R', b1, b2, b3, b4⟩ := X_nodes (G := len ≤ LM) (L := len - 1) (e := s.1) hp (fun _ => hc) (by omega) (s.1 - layer) layer s R (by omega) hB hl2 (fun i j hij hj => (hZ.2.2.1 i j hij hj).1) (fun g => ⟨hZ, by omega, fun hm0 j hj => by
      have a1 := num_hi (r8 j hj)
      have a2 := num_hi (r8 layer (by omega))
      have a3 : (R j).length ≤ (R layer).length := by
        rw [hl2 layer (Nat.le_refl _) (by omega)]
        by_cases z : j < layer
        · have := hl1 j z; omega
        · have := hl2 j (by omega) hj; omega
      have a4 : 8 ^ (R j).length ≤ 8 ^ (R layer).length := Nat.pow_le_pow_right (by decide) a3
      omega⟩)
    -- a row that shames, of this length
    have sh : ∀ u, xCan p u → u.length = len → 16 < (xR p u).2 → ∃ i k u', u = k :: u' ∧ layer ≤ i ∧ i < s.1 ∧ k < p.2.2.2 ∧ k ≤ fA (xR p (R i)).1 ∧ 16 < (xR p (k :: R i)).2 ∧ num (k :: R i) ≤ num u := by
      intro u hu hl h16
      cases u with
      | nil => have : (0 : Nat) = len := hl; omega
      | cons k u' =>
        have hlu : u'.length + 1 = len := hl
        have ho := ok_of hno u' hu.1 (by omega)
        obtain ⟨i, g1, g2, g3, g4⟩ := hdom u' ho (by omega)
        have e2 : (xR p (k :: R i)).2 = (xR p (R i)).2 + (htk (fL (xR p (R i)).1) k).toNat - (htk (fG (xR p (R i)).1) k).toNat := rfl
        have e3 : (xR p (k :: u')).2 = (xR p u').2 + (htk (fL (xR p u').1) k).toNat - (htk (fG (xR p u').1) k).toNat := rfl
        have hs : 16 < (xR p (k :: R i)).2 := by rw [e2, g2]; rw [e3] at h16; omega
        have hki : k ≤ fA (xR p (R i)).1 := by rw [g2]; exact hu.2.2
        have hci : xCan p (k :: R i) := ⟨xOk_can _ (hB.2.2 i g1).2.2.2.1, hu.2.1, hki⟩
        refine ⟨i, k, u', rfl, ?_, g1, hu.2.1, hki, hs, by show 8 * num (R i) + k ≤ 8 * num u' + k; omega⟩
        refine Nat.le_of_not_lt fun hlt => ?_
        have := hl1 i hlt
        exact hno _ hci (by show (R i).length + 1 ≤ len - 1; omega) hs
    generalize hr : hNodes (HPp p) (s.1 - layer) layer s = r at *
    obtain ⟨s1, o⟩ := r
    cases o with
    | some r =>
      obtain ⟨nd, k⟩ := r
      obtain ⟨d1, d2, d3, d4, d5, d6, d7⟩ := b3
      have d1' : layer ≤ nd := d1
      have d2' : nd < s.1 := d2
      have hRn : R' nd = R nd := b1 nd d2'
      have hln := hl2 nd d1' d2'
      have hcn : xCan p (k :: R nd) := ⟨xOk_can _ (hB.2.2 nd d2').2.2.2.1, d3, d4⟩
      refine ⟨R', s.1, by omega, d2', b2, ?_, by show len ≤ most; omega, ?_, ?_, fun u hu hl => hno u hu (by have : u.length < len := hl; omega), fun u hu hl h16 => ?_⟩
      · show (R' nd).length + 1 = len
        rw [hRn]; omega
      · show xCan p (k :: R' nd)
        rw [hRn]; exact hcn
      · show 16 < (xR p (k :: R' nd)).2
        rw [hRn]; exact d5
      · show num (k :: R' nd) ≤ num u
        rw [hRn]
        obtain ⟨i, j, u', e1, e2, e3, e4, e5, e6, e7⟩ := sh u hu hl h16
        refine Nat.le_trans ?_ e7
        show 8 * num (R nd) + k ≤ 8 * num (R i) + j
        rcases Nat.lt_trichotomy i nd with z | z | z
        · exact absurd e6 (d7 i j e2 z e4 e5)
        · subst z
          have : ¬ j < k := fun q => d6 j q e6
          omega
        · have := (hZ.2.2.1 nd i z e3).1
          have := hp.2.2.2.2
          omega
    | none =>
      show XLy p most (hLayers (HPp p) m (len + 1) s.1 s1).1 (hLayers (HPp p) m (len + 1) s.1 s1).2
      have hno' : ∀ u, xCan p u → u.length ≤ len + 1 - 1 → ¬ 16 < (xR p u).2 := by
        intro u hu hl h16
        by_cases z : u.length ≤ len - 1
        · exact hno u hu z h16
        · obtain ⟨i, j, u', e1, e2, e3, e4, e5, e6, e7⟩ := sh u hu (by omega) h16
          exact b3 i j e2 e3 e4 e5 e6
      by_cases g : len ≤ LM
      · obtain ⟨c1, c2, c3, c4, c5⟩ := b4 rfl g
        have c2' : s.1 ≤ s1.1 := c2
        refine X_layers hp hc hLM hmo m (len + 1) s.1 s1 R' (by omega) (by omega) c1 (fun j hj => ?_) (fun j h1 h2 => ?_) c2' hno' (fun u ho hl => ?_)
        · rw [c3 j hj]
          by_cases z : j < layer
          · have := hl1 j z; omega
          · have := hl2 j (by omega) hj; omega
        · have := c4 j h1 h2
          omega
        · by_cases z : u.length ≤ len - 1
          · obtain ⟨j, g1, g2, g3, g4⟩ := hdom u ho z
            exact ⟨j, by omega, by rw [c3 j g1]; exact g2, by rw [c3 j g1]; exact g3, by rw [c3 j g1]; exact g4⟩
          · cases u with
            | nil => exact absurd (Nat.zero_le _) z
            | cons k u' =>
              have hlu : u'.length + 1 ≤ len + 1 - 1 := hl
              have hlz : ¬ u'.length + 1 ≤ len - 1 := z
              obtain ⟨i, g1, g2, g3, g4⟩ := hdom u' ho.1 (by omega)
              have e2 : (xR p (k :: R i)).2 = (xR p (R i)).2 + (htk (fL (xR p (R i)).1) k).toNat - (htk (fG (xR p (R i)).1) k).toNat := rfl
              have e3 : (xR p (k :: u')).2 = (xR p u').2 + (htk (fL (xR p u').1) k).toNat - (htk (fG (xR p u').1) k).toNat := rfl
              have hki : k ≤ fA (xR p (R i)).1 := by rw [g2]; exact ho.2.2.1
              have e4 : (xR p (k :: R i)).1 = (xR p (k :: u')).1 := by
                show xN p (xR p (R i)).1 k = xN p (xR p u').1 k
                rw [g2]
              -- its like among the nodes was gone on to: now, or before
              by_cases hi : layer ≤ i
              · obtain ⟨j, f1, f2, f3, f4⟩ := c5 i k hi g1 ho.2.1 hki
                rw [c3 i g1] at f2 f3 f4
                refine ⟨j, f1, f2.trans e4, ?_, Nat.le_trans f4 (by show 8 * num (R i) + k ≤ 8 * num u' + k; omega)⟩
                refine Nat.le_trans ?_ f3
                rw [e2, e3, g2]
                omega
              · have hli := hl1 i (by omega)
                have hci : xCan p (k :: R i) := ⟨xOk_can _ (hB.2.2 i g1).2.2.2.1, ho.2.1, hki⟩
                have hoi := ok_of hno _ hci (by show (R i).length + 1 ≤ len - 1; omega)
                obtain ⟨j, f1, f2, f3, f4⟩ := hdom _ hoi (by show (R i).length + 1 ≤ len - 1; omega)
                refine ⟨j, by omega, by rw [c3 j f1]; exact f2.trans e4, ?_, by rw [c3 j f1]; exact Nat.le_trans f4 (by show 8 * num (R i) + k ≤ 8 * num u' + k; omega)⟩
                rw [c3 j f1]
                refine Nat.le_trans ?_ f3
                rw [e2, e3, g2]
                omega
      · have hm0 : m = 0 := by omega
        subst hm0
        exact fun u hu hl => hno' u hu (by omega)
/-- the row of a node read back -/
theorem gd_l {α : Type} (l : List α) (x d : α) : (l ++ [x]).getD l.length d = x := by
  rw [List.getD_eq_getElem?_getD, List.getElem?_append_right (Nat.le_refl _), Nat.sub_self]
  rfl
theorem gd_a {α : Type} (l : List α) (x d : α) (h : i < l.length) : (l ++ [x]).getD i d = l.getD i d := by
  rw [List.getD_eq_getElem?_getD, List.getD_eq_getElem?_getD, List.getElem?_append_left h]
theorem hAt_n {g : Nat → Int32} (h : j < 1200) : hAt 1200 g (nI j) = g j := by
  unfold hAt
  rw [if_neg (lt_neg (by omega)), if_pos ((nI_ltP (by omega) (by omega)).mpr h), lt_iN (by omega)]
theorem X_back (hB : XB p R e s) (he : e ≤ 1200) : ∀ (m nd : Nat) (F : Nat → Int32), nd < e → (R nd).length = m → ∀ i, hBack s m (nI nd) F i = if i < m then nI ((R nd).reverse.getD i 0) else F i
  | 0, nd, F, _, _, i => (if_neg (Nat.not_lt_zero i)).symm
  | m + 1, nd, F, hnd, hl, i => by
    obtain ⟨-, -, e3, -, -⟩ := hB.2.2 nd hnd
    have h0 : 0 < nd := by
      refine Nat.pos_of_ne_zero fun z => ?_
      rw [z, hB.2.1] at hl
      cases hl
    obtain ⟨i0, k0, g1, g2, g3, g4⟩ := e3 h0
    have e : hBack s (m + 1) (nI nd) F = hBack s m (hAt 1200 s.2.2.2.1 (nI nd)) (upd F m (hAt 1200 s.2.2.2.2.1 (nI nd))) := rfl
    have hl0 : (R i0).length = m := by
      rw [g4] at hl
      have : (R i0).length + 1 = m + 1 := hl
      omega
    rw [e, hAt_n (by omega), hAt_n (by omega), g2, g3, X_back hB he m i0 _ (by omega) hl0 i, g4, List.reverse_cons]
    have hlr : (R i0).reverse.length = m := by rw [List.length_reverse]; exact hl0
    by_cases q : i < m
    · rw [if_pos q, if_pos (by omega), gd_a _ _ _ (by omega)]
    · rw [if_neg q]
      by_cases q2 : i = m
      · rw [if_pos (by omega), q2, upd_s, ← hlr, gd_l]
      · rw [if_neg (by omega), upd_o (by omega)]
theorem X_keep (hB : XB p R e s) (he : e ≤ 1200) (hnd : nd < e) (hl : (k :: R nd).length = len) : ∀ i, i < len → hKeep s nd k len F i = nI ((k :: R nd).reverse.getD i 0) := by
  intro i hi
  have hl' : (R nd).length + 1 = len := hl
  have hlr : (R nd).reverse.length = len - 1 := by rw [List.length_reverse]; omega
  unfold hKeep
  rw [X_back hB he (len - 1) nd _ hnd (by omega) i, List.reverse_cons]
  by_cases q : i < len - 1
  · rw [if_pos q, gd_a _ _ _ (by omega)]
  · rw [if_neg q, show i = len - 1 by omega, upd_s, ← hlr, gd_l]
theorem sD_none : ∀ (n : Nat), n ≤ most → sD p most n = none → ∀ len, most - n < len → len ≤ most → dF p len (0, 16) = none
  | 0, _, _, len, h1, h2 => by omega
  | n + 1, hn, h, len, h1, h2 => by
    have h' : (match dF p (most - n) (0, 16) with | some l => some l | none => sD p most n) = none := h
    cases q : dF p (most - n) (0, 16) with
    | some l => rw [q] at h'; cases h'
    | none =>
      rw [q] at h'
      by_cases z : len = most - n
      · rw [z]; exact q
      · exact sD_none n (by omega) h' len (by omega) h2
theorem sD_some : ∀ (n : Nat), n ≤ most → sD p most n = some l → ∃ len, most - n < len ∧ len ≤ most ∧ dF p len (0, 16) = some l ∧ ∀ len', most - n < len' → len' < len → dF p len' (0, 16) = none
  | 0, _, h => by cases h
  | n + 1, hn, h => by
    have h' : (match dF p (most - n) (0, 16) with | some l => some l | none => sD p most n) = some l := h
    cases q : dF p (most - n) (0, 16) with
    | some l' => rw [q] at h'; cases h'; exact ⟨most - n, by omega, by omega, q, fun len' h1 h2 => by omega⟩
    | none =>
      rw [q] at h'
      obtain ⟨len, g1, g2, g3, g4⟩ := sD_some n (by omega) h'
      refine ⟨len, by omega, g2, g3, fun len' h1 h2 => ?_⟩
      by_cases z : len' = most - n
      · rw [z]; exact q
      · exact g4 len' (by omega) h2
/-- the search at its begin -/
theorem X_start {Z : CS} : XZ p LM (fun _ => []) (hStart Z) ∧ (hStart Z).1 = 1 := by
  have hs := (hSlot_lt (st := (0 : Int64))).1
  have e : hStart Z = hAdd (0, Z.2 2, Z.1 3, Z.1 4, Z.1 5, fun _ => 0) (hSlot 0) 0 0 (-1) (-1) := by
    unfold hStart hOffer
    have e1 : hProbe (0, Z.2 2, Z.1 3, Z.1 4, Z.1 5, fun _ => 0) 0 2048 (hSlot 0) = hSlot 0 := if_pos rfl
    rw [e1]
    unfold hPut
    rw [if_neg (fun z => z.1 rfl), if_pos (by show 0 < 1200; decide)]
  rw [e]
  have sl : ∀ i, (hAdd (0, Z.2 2, Z.1 3, Z.1 4, Z.1 5, fun _ => 0) (hSlot 0) 0 0 (-1) (-1)).2.2.2.2.2 i = if i = hSlot 0 then 1 else 0 := fun i => rfl
  have hn : (hAdd (0, Z.2 2, Z.1 3, Z.1 4, Z.1 5, fun _ => 0) (hSlot 0) 0 0 (-1) (-1)).1 = 1 := rfl
  have x0 : xH p [] = hSlot 0 := rfl
  refine ⟨⟨⟨Nat.le_refl _, rfl, fun j hj => ?_⟩, ⟨fun i hi => ?_, fun i hi => ?_, fun j hj => ?_, fun i i' hi hi' => ?_⟩, fun i j hij hj => ?_, fun j _ => Nat.zero_le _⟩, hn⟩
  · rw [hn] at hj
    have hj0 : j = 0 := by omega
    subst hj0
    exact ⟨(u1e (f := Z.2 2) (i := 0) (v := (0 : Int64))).trans rfl, (u1e (f := Z.1 3) (i := 0) (v := (0 : Int32))).trans (show (0 : Int32) = nI 16 - 16 by decide), (fun h => absurd h (by decide)), True.intro, Nat.zero_le _⟩
  · rw [sl, hn]; split <;> omega
  · rw [sl]
    by_cases z : i = hSlot 0
    · intro _
      exact ⟨0, by decide, by rw [x0, z]; omega, fun v hv => by omega⟩
    · rw [if_neg z]; intro q; exact absurd rfl q
  · refine ⟨hSlot 0, hs, ?_⟩
    rw [sl, if_pos rfl]
    exact ⟨by decide, rfl, Nat.le_refl _⟩
  · rw [sl, sl]
    by_cases z : i = hSlot 0
    · by_cases z' : i' = hSlot 0
      · intro _ _ _; omega
      · rw [if_neg z']; intro _ q; exact absurd rfl q
    · rw [if_neg z]; intro q; exact absurd rfl q
  · rw [hn] at hj; omega
/-- shame(): class and reference -/
theorem shame_eq (hp : XPO p) (hc : CAP p LM) (hLM : LM ≤ 11) (hmo : most ≤ LM + 1) {Z : CS} : oLen (hLayers (HPp p) most 1 0 (hStart Z)).2 = qLen (qShame p.1 p.2.1 p.2.2.1 p.2.2.2 most most) ∧
    ∀ a, (hLayers (HPp p) most 1 0 (hStart Z)).2 = some a → ∃ l, qShame p.1 p.2.1 p.2.2.1 p.2.2.2 most most = some l ∧ l.length = a.1 ∧ a.1 ≤ 12 ∧ ∀ F i, i < a.1 → hKeep (hLayers (HPp p) most 1 0 (hStart Z)).1 a.2.1 a.2.2 a.1 F i = nI (l.getD i 0) := by
  obtain ⟨hZ, h1⟩ := X_start (p := p) (LM := LM) (Z := Z)
  have hL := X_layers hp hc hLM hmo most 1 0 (hStart Z) (fun _ => []) (by omega) (Nat.le_refl _) hZ (fun j hj => absurd hj (Nat.not_lt_zero j)) (fun j _ _ => rfl) (Nat.zero_le _) (fun u hu hl => by
    cases u with
    | nil => show ¬ 16 < 16; decide
    | cons k u => exact absurd hl (Nat.not_succ_le_zero _)) (fun u ho hl => by
    cases u with
    | nil => exact ⟨0, by omega, rfl, Nat.le_refl _, Nat.le_refl _⟩
    | cons k u => exact absurd hl (Nat.not_succ_le_zero _))
  rw [qShame_d hp (by omega) most (Nat.le_refl _)]
  have hf : ∀ len l, dF p len (0, 16) = some l → l.length = len ∧ xCan p l.reverse ∧ 16 < (xR p l.reverse).2 ∧ ∀ x, x.length = len → xCan p x → 16 < (xR p x).2 → num l.reverse ≤ num x := by
    intro len l h
    obtain ⟨g1, g2, g3, g4⟩ := dF_some hp len [] l True.intro h
    rw [List.append_nil] at g2 g3 g4
    refine ⟨g1, g2, g3, fun x hx hxc => ?_⟩
    have := g4 x hx
    rw [List.append_nil] at this
    exact this hxc
  have hnn : ∀ len, dF p len (0, 16) = none → ∀ x, x.length = len → xCan p x → ¬ 16 < (xR p x).2 := by
    intro len h x hx hxc
    have := dF_none hp len [] True.intro h x hx
    rw [List.append_nil] at this
    exact this hxc
  generalize hLayers (HPp p) most 1 0 (hStart Z) = r at hL
  obtain ⟨s1, o⟩ := r
  cases o with
  | none =>
    have hL' : ∀ u, xCan p u → u.length ≤ most → ¬ 16 < (xR p u).2 := hL
    refine ⟨?_, fun a ha => by cases ha⟩
    cases q : sD p most most with
    | none => rfl
    | some l =>
      obtain ⟨len, g1, g2, g3, g4⟩ := sD_some most (Nat.le_refl _) q
      obtain ⟨f1, f2, f3, f4⟩ := hf len l g3
      exact absurd f3 (hL' _ f2 (by rw [List.length_reverse]; omega))
  | some a =>
    obtain ⟨R, e, he, hnd, hB, hl, hm, hcan, h16, hless, hmin⟩ := hL
    have hl1 : 1 ≤ a.1 := by have : (R a.2.1).length + 1 = a.1 := hl; omega
    have q : sD p most most = some (a.2.2 :: R a.2.1).reverse := by
      cases q : sD p most most with
      | none => exact absurd h16 (hnn a.1 (sD_none most (Nat.le_refl _) q a.1 (by omega) hm) _ hl hcan)
      | some l =>
        obtain ⟨len, g1, g2, g3, g4⟩ := sD_some most (Nat.le_refl _) q
        obtain ⟨f1, f2, f3, f4⟩ := hf len l g3
        have e1 : len = a.1 := by
          rcases Nat.lt_trichotomy len a.1 with z | z | z
          · exact absurd f3 (hless _ f2 (by rw [List.length_reverse]; omega))
          · exact z
          · exact absurd h16 (hnn a.1 (g4 a.1 (by omega) z) _ hl hcan)
        have n1 := f4 _ (by rw [hl]; exact e1.symm) hcan h16
        have n2 := hmin _ f2 (by rw [List.length_reverse]; omega) f3
        have := num_inj _ _ (m8 hp f2) (m8 hp hcan) (Nat.le_antisymm n1 n2)
        rw [← this, List.reverse_reverse]
    rw [q]
    refine ⟨?_, fun a' ha => ?_⟩
    · show nI a.1 = nI (a.2.2 :: R a.2.1).reverse.length
      rw [List.length_reverse, hl]
    · cases ha
      exact ⟨_, rfl, by rw [List.length_reverse]; exact hl, by omega, fun F i hi => X_keep hB he hnd hl i hi⟩
end Ryj
