/-! THE RELATION, rows that shame: both searches over codes; the reference's -/
def fL (c : Nat) : Nat := c % 65536
def fG (c : Nat) : Nat := c / 65536 % 16777216
def fA (c : Nat) : Nat := c / 1099511627776
noncomputable def htk (c k : Nat) : Bool := !Nat.beq (kPl (k + 1) 6 c) 6
/-- marks, room, the greater room, keys -/
abbrev XP : Type := Bool × Nat × Nat × Nat
noncomputable def xN (p : XP) (c k : Nat) : Nat := kBh p.1 p.2.1 (fL c) k + 65536 * kBh p.1 p.2.2.1 (fG c) k + 1099511627776 * (if fA c < k + 1 then k + 1 else fA c)
noncomputable def xD (c a k : Nat) : Nat := a + (htk (fL c) k).toNat - (htk (fG c) k).toNat
noncomputable def xS (p : XP) (s : Nat × Nat) (k : Nat) : Nat × Nat := (xN p s.1 k, xD s.1 s.2 k)
/-- a row, its last request first: the code behind it, and 16 more than it leads -/
noncomputable def xR (p : XP) : List Nat → Nat × Nat
  | [] => (0, 16)
  | k :: u => xS p (xR p u) k
def xCan (p : XP) : List Nat → Prop
  | [] => True
  | k :: u => xCan p u ∧ k < p.2.2.2 ∧ k ≤ fA (xR p u).1
def num : List Nat → Nat
  | [] => 1
  | k :: u => 8 * num u + k
def XPO (p : XP) : Prop := 1 ≤ p.2.1 ∧ p.2.1 ≤ 4 ∧ 1 ≤ p.2.2.1 ∧ p.2.2.1 ≤ 6 ∧ p.2.2.2 ≤ 5
def CV (p : XP) (c : Nat) : Prop := fL c < 16 ^ p.2.1 ∧ fG c < 16 ^ p.2.2.1 ∧ fA c ≤ 5
def xLim (p : XP) (c : Nat) : Nat := if fA c + 1 ≤ p.2.2.2 then fA c + 1 else p.2.2.2
noncomputable def dF (p : XP) : Nat → Nat × Nat → Option (List Nat)
  | 0, s => if 16 < s.2 then some [] else none
  | rem + 1, s => if 16 < s.2 + (rem + 1) then firstKey (fun k => dF p rem (xS p s k)) (xLim p s.1) (xLim p s.1) else none
noncomputable def sD (p : XP) (most : Nat) : Nat → Option (List Nat)
  | 0 => none
  | n + 1 => match dF p (most - n) (0, 16) with
    | some l => some l
    | none => sD p most n
section Ryg
variable {a b c i j k m n t key rem lim most used : Nat} {p : XP} {s : Nat × Nat} {u v w x y : List Nat} {q0 q1 : QQ} {F G : Nat → Option (List Nat)} {l : List Nat}
theorem pw16 (h : n ≤ 6) : 16 ^ n ≤ 16777216 := Nat.pow_le_pow_right (n := 16) (by decide) h
theorem pw4 (h : n ≤ 4) : 16 ^ n ≤ 65536 := Nat.pow_le_pow_right (n := 16) (by decide) h
theorem xN_f (hp : XPO p) (h : CV p c) (hk : k < 5) : fL (xN p c k) = kBh p.1 p.2.1 (fL c) k ∧ fG (xN p c k) = kBh p.1 p.2.2.1 (fG c) k ∧ fA (xN p c k) = (if fA c < k + 1 then k + 1 else fA c) ∧ CV p (xN p c k) := by
  obtain ⟨h1, h2, h3⟩ := h
  obtain ⟨p1, p2, p3, p4, p5⟩ := hp
  have b1 : kBh p.1 p.2.1 (fL c) k < 16 ^ p.2.1 := by
    have := kBh_lt p.1 (l := p.2.1 - 1) (c := fL c) (k := k) (by omega) (by omega) (by rw [Nat.sub_add_cancel p1]; exact h1)
    rw [Nat.sub_add_cancel p1] at this
    exact this
  have b2 : kBh p.1 p.2.2.1 (fG c) k < 16 ^ p.2.2.1 := by
    have := kBh_lt p.1 (l := p.2.2.1 - 1) (c := fG c) (k := k) (by omega) (by omega) (by rw [Nat.sub_add_cancel p3]; exact h2)
    rw [Nat.sub_add_cancel p3] at this
    exact this
  have c1 := pw4 p2
  have c2 := pw16 p4
  have gen : ∀ x y z : Nat, x < 65536 → y < 16777216 → fL (x + 65536 * y + 1099511627776 * z) = x ∧ fG (x + 65536 * y + 1099511627776 * z) = y ∧ fA (x + 65536 * y + 1099511627776 * z) = z := by
    intro x y z hx hy
    unfold fL fG fA
    omega
  obtain ⟨e1, e2, e3⟩ := gen (kBh p.1 p.2.1 (fL c) k) (kBh p.1 p.2.2.1 (fG c) k) (if fA c < k + 1 then k + 1 else fA c) (by omega) (by omega)
  refine ⟨e1, e2, e3, ?_, ?_, ?_⟩
  · show fL (xN p c k) < _; unfold xN; rw [e1]; exact b1
  · show fG (xN p c k) < _; unfold xN; rw [e2]; exact b2
  · show fA (xN p c k) ≤ 5; unfold xN; rw [e3]; split <;> omega
theorem CV_0 : CV p 0 := ⟨by show 0 % 65536 < _; exact Nat.pow_pos (by decide), by show 0 / 65536 % 16777216 < _; exact Nat.pow_pos (by decide), by show 0 / 1099511627776 ≤ 5; decide⟩
theorem xCan_t : ∀ (x : List Nat), xCan p (x ++ u) → xCan p u
  | [], h => h
  | _ :: x, h => xCan_t x h.1
theorem xR_CV (hp : XPO p) : ∀ (u : List Nat), xCan p u → CV p (xR p u).1
  | [], _ => CV_0
  | k :: u, h => (xN_f hp (xR_CV hp u h.1) (Nat.lt_of_lt_of_le h.2.1 hp.2.2.2.2)).2.2.2
theorem xCan_5 (hp : XPO p) : ∀ (u : List Nat), xCan p u → ∀ k, k ∈ u → k < 5
  | [], _, k, h => by cases h
  | j :: u, h, k, hk => by
    rcases List.mem_cons.mp hk with e | e
    · rw [e]; exact Nat.lt_of_lt_of_le h.2.1 hp.2.2.2.2
    · exact xCan_5 hp u h.1 k e
theorem tN (b : Bool) : b.toNat ≤ 1 := by cases b <;> decide
theorem xR_a : ∀ (x : List Nat), (xR p (x ++ u)).2 ≤ (xR p u).2 + x.length ∧ (xR p u).2 ≤ (xR p (x ++ u)).2 + x.length
  | [] => ⟨Nat.le_refl _, Nat.le_refl _⟩
  | k :: x => by
    have h := xR_a x
    have e : (xR p (k :: x ++ u)).2 = (xR p (x ++ u)).2 + (htk (fL (xR p (x ++ u)).1) k).toNat - (htk (fG (xR p (x ++ u)).1) k).toNat := rfl
    have h1 := tN (htk (fL (xR p (x ++ u)).1) k)
    have h2 := tN (htk (fG (xR p (x ++ u)).1) k)
    rw [e]
    show _ ≤ _ + (x.length + 1) ∧ _ ≤ _ + (x.length + 1)
    omega
theorem xR_b : (xR p u).2 ≤ 16 + u.length ∧ 16 ≤ (xR p u).2 + u.length := by
  have := xR_a (p := p) (u := []) u
  rw [List.append_nil] at this
  exact this
theorem num_pos : ∀ (u : List Nat), 1 ≤ num u
  | [] => Nat.le_refl _
  | k :: u => by have := num_pos u; show 1 ≤ 8 * num u + k; omega
theorem num_app : ∀ (x : List Nat), (∀ k, k ∈ x → k < 8) → 8 ^ x.length * num u ≤ num (x ++ u) ∧ num (x ++ u) < 8 ^ x.length * (num u + 1)
  | [], _ => ⟨by show 8 ^ 0 * num u ≤ num u; rw [Nat.pow_zero, Nat.one_mul]; exact Nat.le_refl _, by show num u < 8 ^ 0 * (num u + 1); rw [Nat.pow_zero, Nat.one_mul]; exact Nat.lt_succ_self _⟩
  | k :: x, h => by
    obtain ⟨h1, h2⟩ := num_app x (fun j hj => h j (List.mem_cons_of_mem _ hj))
    have hk := h k (List.mem_cons_self ..)
    show 8 ^ (x.length + 1) * num u ≤ 8 * num (x ++ u) + k ∧ 8 * num (x ++ u) + k < 8 ^ (x.length + 1) * (num u + 1)
    rw [Nat.pow_succ, Nat.mul_right_comm, Nat.mul_right_comm (8 ^ x.length) 8 (num u + 1)]
    omega
theorem num_len (hu : ∀ k, k ∈ u → k < 8) (hv : ∀ k, k ∈ v → k < 8) (h : num u ≤ num v) : u.length ≤ v.length := by
  have h1 := (num_app (u := []) u hu).1
  have h2 := (num_app (u := []) v hv).2
  rw [List.append_nil] at h1 h2
  have e : num [] = 1 := rfl
  rw [e] at h1 h2
  refine Nat.le_of_not_lt fun hlt => ?_
  have h3 : 8 ^ (v.length + 1) ≤ 8 ^ u.length := Nat.pow_le_pow_right (by decide) hlt
  rw [Nat.pow_succ] at h3
  omega
theorem num_inj : ∀ (u v : List Nat), (∀ k, k ∈ u → k < 8) → (∀ k, k ∈ v → k < 8) → num u = num v → u = v
  | [], [], _, _, _ => rfl
  | [], k :: v, _, _, h => by
    have := num_pos v
    have h' : 1 = 8 * num v + k := h
    omega
  | k :: u, [], _, _, h => by
    have := num_pos u
    have h' : 8 * num u + k = 1 := h
    omega
  | k :: u, j :: v, hu, hv, h => by
    have h' : 8 * num u + k = 8 * num v + j := h
    have h1 := hu k (List.mem_cons_self ..)
    have h2 := hv j (List.mem_cons_self ..)
    rw [show k = j by omega, num_inj u v (fun i hi => hu i (List.mem_cons_of_mem _ hi)) (fun i hi => hv i (List.mem_cons_of_mem _ hi)) (by omega)]
theorem fk_some : ∀ (n : Nat) (l : List Nat), n ≤ lim → firstKey F lim n = some l → ∃ k l', lim - n ≤ k ∧ k < lim ∧ l = k :: l' ∧ F k = some l' ∧ ∀ j, lim - n ≤ j → j < k → F j = none
  | 0, l, _, h => by cases h
  | n + 1, l, hn, h => by
    have h' : (match F (lim - (n + 1)) with | some l => some ((lim - (n + 1)) :: l) | none => firstKey F lim n) = some l := h
    cases e : F (lim - (n + 1)) with
    | some l' =>
      rw [e] at h'
      cases h'
      exact ⟨lim - (n + 1), l', Nat.le_refl _, by omega, rfl, e, fun j h1 h2 => by omega⟩
    | none =>
      rw [e] at h'
      obtain ⟨k, l', a1, a2, a3, a4, a5⟩ := fk_some n l (by omega) h'
      refine ⟨k, l', by omega, a2, a3, a4, fun j h1 h2 => ?_⟩
      by_cases q : j = lim - (n + 1)
      · rw [q]; exact e
      · exact a5 j (by omega) h2
theorem fk_none : ∀ (n : Nat), n ≤ lim → firstKey F lim n = none → ∀ j, lim - n ≤ j → j < lim → F j = none
  | 0, _, _, j, h1, h2 => by omega
  | n + 1, hn, h, j, h1, h2 => by
    have h' : (match F (lim - (n + 1)) with | some l => some ((lim - (n + 1)) :: l) | none => firstKey F lim n) = none := h
    cases e : F (lim - (n + 1)) with
    | some l' => rw [e] at h'; cases h'
    | none =>
      rw [e] at h'
      by_cases q : j = lim - (n + 1)
      · rw [q]; exact e
      · exact fk_none n (by omega) h' j (by omega) h2
theorem fk_cg : ∀ (n : Nat), n ≤ lim → (∀ k, k < lim → F k = G k) → firstKey F lim n = firstKey G lim n
  | 0, _, _ => rfl
  | n + 1, hn, h => by
    show (match F (lim - (n + 1)) with | some l => some ((lim - (n + 1)) :: l) | none => firstKey F lim n) = (match G (lim - (n + 1)) with | some l => some ((lim - (n + 1)) :: l) | none => firstKey G lim n)
    rw [h _ (by omega), fk_cg n (by omega) h]
theorem xLim_k (h : k < xLim p c) : k < p.2.2.2 ∧ k ≤ fA c := by
  unfold xLim at h
  split at h <;> omega
theorem k_xLim (h1 : k < p.2.2.2) (h2 : k ≤ fA c) : k < xLim p c := by
  unfold xLim
  split <;> omega
/-- the last of a list that isn't empty -/
theorem lst_e : ∀ (x : List Nat) (n : Nat), x.length = n + 1 → ∃ y k, x = y ++ [k] ∧ y.length = n
  | [], n, h => by cases h
  | [k], n, h => ⟨[], k, rfl, by have : 1 = n + 1 := h; show 0 = n; omega⟩
  | a :: b :: x, n, h => by
    cases n with
    | zero => have : x.length + 1 + 1 = 0 + 1 := h; omega
    | succ n =>
      obtain ⟨y, k, e1, e2⟩ := lst_e (b :: x) n (by have : (b :: x).length + 1 = n + 1 + 1 := h; omega)
      exact ⟨a :: y, k, by rw [e1]; rfl, by show y.length + 1 = n + 1; rw [e2]⟩
theorem dF_none (hp : XPO p) : ∀ (rem : Nat) (u : List Nat), xCan p u → dF p rem (xR p u) = none → ∀ x, x.length = rem → xCan p (x ++ u) → ¬ 16 < (xR p (x ++ u)).2
  | 0, u, _, h, x, hx, _ => by
    have e : x = [] := List.eq_nil_of_length_eq_zero hx
    have h' : (if 16 < (xR p u).2 then some [] else none : Option (List Nat)) = none := h
    rw [e]
    intro q
    rw [if_pos (show 16 < (xR p u).2 from q)] at h'
    cases h'
  | rem + 1, u, hu, h, x, hx, hc => by
    have h' : (if 16 < (xR p u).2 + (rem + 1) then firstKey (fun k => dF p rem (xS p (xR p u) k)) (xLim p (xR p u).1) (xLim p (xR p u).1) else none) = none := h
    by_cases q : 16 < (xR p u).2 + (rem + 1)
    · rw [if_pos q] at h'
      obtain ⟨y, k, e1, e2⟩ := lst_e x rem hx
      rw [e1, List.append_assoc] at hc ⊢
      have hku : xCan p (k :: u) := xCan_t y hc
      have := fk_none _ (Nat.le_refl _) h' k (by omega) (k_xLim hku.2.1 hku.2.2)
      exact dF_none hp rem (k :: u) hku this y e2 hc
    · have := (xR_a (p := p) (u := u) x).1
      omega
theorem dF_some (hp : XPO p) : ∀ (rem : Nat) (u : List Nat) (l : List Nat), xCan p u → dF p rem (xR p u) = some l → l.length = rem ∧ xCan p (l.reverse ++ u) ∧ 16 < (xR p (l.reverse ++ u)).2 ∧ ∀ x, x.length = rem → xCan p (x ++ u) → 16 < (xR p (x ++ u)).2 → num (l.reverse ++ u) ≤ num (x ++ u)
  | 0, u, l, hu, h => by
    have h' : (if 16 < (xR p u).2 then some [] else none : Option (List Nat)) = some l := h
    by_cases q : 16 < (xR p u).2
    · rw [if_pos q] at h'
      cases h'
      exact ⟨rfl, hu, q, fun x hx _ _ => by rw [List.eq_nil_of_length_eq_zero hx]; exact Nat.le_refl _⟩
    · rw [if_neg q] at h'
      cases h'
  | rem + 1, u, l, hu, h => by
    have h' : (if 16 < (xR p u).2 + (rem + 1) then firstKey (fun k => dF p rem (xS p (xR p u) k)) (xLim p (xR p u).1) (xLim p (xR p u).1) else none) = some l := h
    by_cases q : 16 < (xR p u).2 + (rem + 1)
    · rw [if_pos q] at h'
      obtain ⟨k, l', a1, a2, rfl, a4, a5⟩ := fk_some _ l (Nat.le_refl _) h'
      have hk := xLim_k a2
      have hku : xCan p (k :: u) := ⟨hu, hk.1, hk.2⟩
      obtain ⟨b1, b2, b3, b4⟩ := dF_some hp rem (k :: u) l' hku a4
      have e : (k :: l').reverse ++ u = l'.reverse ++ (k :: u) := by rw [List.reverse_cons, List.append_assoc]; rfl
      rw [e]
      refine ⟨by show l'.length + 1 = rem + 1; rw [b1], b2, b3, fun x hx hxc hx16 => ?_⟩
      obtain ⟨y, j, e1, e2⟩ := lst_e x rem hx
      rw [e1, List.append_assoc] at hxc hx16 ⊢
      have hju : xCan p (j :: u) := xCan_t y hxc
      rcases Nat.lt_trichotomy j k with z | z | z
      · have := a5 j (by omega) z
        exact absurd hx16 (dF_none hp rem (j :: u) hju this y e2 hxc)
      · subst z
        exact b4 y e2 hxc hx16
      · have m1 : ∀ i, i ∈ l'.reverse → i < 8 := fun i hi => Nat.lt_of_lt_of_le (xCan_5 hp _ b2 i (List.mem_append_left _ hi)) (by decide)
        have m2 : ∀ i, i ∈ y → i < 8 := fun i hi => Nat.lt_of_lt_of_le (xCan_5 hp _ hxc i (List.mem_append_left _ hi)) (by decide)
        have n1 := (num_app (u := k :: u) l'.reverse m1).2
        have n2 := (num_app (u := [j] ++ u) y m2).1
        rw [List.length_reverse, b1] at n1
        rw [e2] at n2
        have n3 : 8 ^ rem * (num (k :: u) + 1) ≤ 8 ^ rem * num ([j] ++ u) := Nat.mul_le_mul_left _ (by show 8 * num u + k + 1 ≤ 8 * num u + j; omega)
        omega
    · rw [if_neg q] at h'
      cases h'
/-- the reference's search is that over codes -/
theorem qF_d (hp : XPO p) : ∀ (rem c a : Nat) (q0 q1 : QQ), CV p c → QC (fL c) p.2.1 q0 → QC (fG c) p.2.2.1 q1 → rem ≤ a → a + rem ≤ 100 → qFinds p.1 p.2.1 p.2.2.1 p.2.2.2 rem (fA c) (16 - nI a) q0 q1 = dF p rem (c, a)
  | 0, c, a, q0, q1, hc, h0, h1, ha, ha2 => by
    show (if (16 : Int32) - nI a < 0 then some [] else none) = if 16 < a then some [] else none
    have e : (16 : Int32) - nI a < 0 ↔ 16 < a := by
      rw [Int32.lt_iff_toInt_lt, Int32.toInt_sub, lt_iT (by omega), show (16 : Int32).toInt = 16 from rfl, show (0 : Int32).toInt = 0 from rfl, Int.bmod_eq_of_le (by omega) (by omega)]
      omega
    by_cases q : 16 < a
    · rw [if_pos q, if_pos (e.mpr q)]
    · rw [if_neg q, if_neg (fun z => q (e.mp z))]
  | rem + 1, c, a, q0, q1, hc, h0, h1, ha, ha2 => by
    have e : (16 : Int32) - nI a < nI (rem + 1) ↔ 16 < a + (rem + 1) := by
      rw [Int32.lt_iff_toInt_lt, Int32.toInt_sub, lt_iT (by omega), lt_iT (by omega), show (16 : Int32).toInt = 16 from rfl, Int.bmod_eq_of_le (by omega) (by omega)]
      omega
    show (if (16 : Int32) - nI a < nI (rem + 1) then firstKey (fun key => qFinds p.1 p.2.1 p.2.2.1 p.2.2.2 rem (if fA c < key + 1 then key + 1 else fA c) (16 - nI a + bI (qStp p.1 p.2.2.1 key q1).1 - bI (qStp p.1 p.2.1 key q0).1) (qStp p.1 p.2.1 key q0).2 (qStp p.1 p.2.2.1 key q1).2) (xLim p c) (xLim p c) else none) = if 16 < a + (rem + 1) then firstKey (fun k => dF p rem (xS p (c, a) k)) (xLim p c) (xLim p c) else none
    by_cases q : 16 < a + (rem + 1)
    · rw [if_pos q, if_pos (e.mpr q)]
      refine fk_cg _ (Nat.le_refl _) (fun k hk => ?_)
      have hk' := xLim_k hk
      have hk5 : k < 5 := Nat.lt_of_lt_of_le hk'.1 hp.2.2.2.2
      obtain ⟨f1, f2, f3, f4⟩ := xN_f hp hc hk5
      have g0 := QC_step (mk := p.1) (key := k) (l := p.2.1 - 1) (c := fL c) (q := q0) (by rw [Nat.sub_add_cancel hp.1]; exact h0) (by have := hp.2.1; omega) (by omega)
      have g1 := QC_step (mk := p.1) (key := k) (l := p.2.2.1 - 1) (c := fG c) (q := q1) (by rw [Nat.sub_add_cancel hp.2.2.1]; exact h1) (by have := hp.2.2.2.1; omega) (by omega)
      rw [Nat.sub_add_cancel hp.1] at g0
      rw [Nat.sub_add_cancel hp.2.2.1] at g1
      have t0 : (qStp p.1 p.2.1 k q0).1 = htk (fL c) k := by rw [g0.1]; unfold htk; rw [beq_e]
      have t1 : (qStp p.1 p.2.2.1 k q1).1 = htk (fG c) k := by rw [g1.1]; unfold htk; rw [beq_e]
      have ih := qF_d hp rem (xN p c k) (xD c a k) (qStp p.1 p.2.1 k q0).2 (qStp p.1 p.2.2.1 k q1).2 f4 (by rw [f1]; exact g0.2) (by rw [f2]; exact g1.2) (by unfold xD; have := tN (htk (fL c) k); have := tN (htk (fG c) k); omega) (by unfold xD; have := tN (htk (fL c) k); have := tN (htk (fG c) k); omega)
      rw [f3] at ih
      refine Eq.trans ?_ ih
      show qFinds _ _ _ _ _ _ (16 - nI a + bI (qStp p.1 p.2.2.1 k q1).1 - bI (qStp p.1 p.2.1 k q0).1) _ _ = _
      congr 1
      rw [t0, t1]
      unfold xD
      have sub1 : ∀ n : Nat, 1 ≤ n → nI (n - 1) = nI n - 1 := fun n hn => (nI_sub (a := n) (b := 1) hn).symm
      cases htk (fL c) k with
      | true =>
        cases htk (fG c) k with
        | true => show (16 : Int32) - nI a + 1 - 1 = 16 - nI (a + 1 - 1); rw [Nat.add_sub_cancel, Int32.add_sub_cancel]
        | false =>
          show (16 : Int32) - nI a + 0 - 1 = 16 - nI (a + 1 - 0)
          rw [Nat.sub_zero, ← lt_iA (j := a) (k := 1), Int32.add_zero]
          rw [Int32.sub_eq_add_neg, Int32.sub_eq_add_neg, Int32.sub_eq_add_neg, Int32.neg_add, Int32.add_assoc, ← Int32.sub_eq_add_neg (-nI a)]
          rfl
      | false =>
        cases htk (fG c) k with
        | true =>
          show (16 : Int32) - nI a + 1 - 0 = 16 - nI (a + 0 - 1)
          rw [Nat.add_zero, sub1 a (by omega), Int32.sub_zero, Int32.sub_eq_add_neg, Int32.sub_eq_add_neg, Int32.sub_eq_add_neg, Int32.neg_add, Int32.add_assoc, Int32.sub_eq_add_neg (-nI a) (-1)]
          rfl
        | false => show (16 : Int32) - nI a + 0 - 0 = 16 - nI (a + 0 - 0); rw [Int32.add_zero, Int32.sub_zero]; rfl
    · rw [if_neg q, if_neg (fun z => q (e.mp z))]
theorem qShame_d (hp : XPO p) (hm : most ≤ 12) : ∀ (n : Nat), n ≤ most → qShame p.1 p.2.1 p.2.2.1 p.2.2.2 most n = sD p most n
  | 0, _ => rfl
  | n + 1, hn => by
    have h := qF_d hp (most - n) 0 16 (0, (fun _ => 0), fun _ => false) (0, (fun _ => 0), fun _ => false) CV_0 QC_0 QC_0 (by omega) (by omega)
    show (match qFinds p.1 p.2.1 p.2.2.1 p.2.2.2 (most - n) 0 0 (0, (fun _ => 0), fun _ => false) (0, (fun _ => 0), fun _ => false) with | some l => some l | none => qShame p.1 p.2.1 p.2.2.1 p.2.2.2 most n) = (match dF p (most - n) (0, 16) with | some l => some l | none => sD p most n)
    rw [show qFinds p.1 p.2.1 p.2.2.1 p.2.2.2 (most - n) 0 0 (0, (fun _ => 0), fun _ => false) (0, (fun _ => 0), fun _ => false) = dF p (most - n) (0, 16) from h, qShame_d hp hm n (by omega)]
end Ryg
