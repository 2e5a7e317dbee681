/-! ONE STEP of the little machine is a step of the machine: rows, new cells (laid by wip/p50/gen15.py) -/
section VA2
variable {X : lt_X} {m : Nat} {z : LO × LM} {q : Nat × (Nat → Nat) × Nat × Nat} {pc : Nat} {ls st r : List Value} {M : LM} {a : Nat} {i : Int32}
theorem lt_vin {n : Nat} (h : 0 ≤ i.toInt ∧ i.toInt < (n : Int)) : vp_in i n := vp_in_iff.mpr h
theorem v_iaload (hC : lt_C X m) (hd : decode (lt_by m) pc = .ok (.iaload, 1)) (hk : mK M a = 1) (hin : 0 ≤ i.toInt ∧ i.toInt < (mZ M a : Int)) (h : lt_V X m z q (pc + 1) ls (.int (mI M a (lt_n i)) :: r) M) : lt_V X m z q pc ls (.int i :: .ref a :: r) M := by
  obtain ⟨p, l, e, R, s, mid, args, below, meth, c, D, G, A⟩ := X
  obtain ⟨n0, ad0, mc, ms⟩ := q
  obtain ⟨hx, hb, hml, hown, hts, hr, hlk, hm, hi, htb, hl, hK, hZ, hA⟩ := hC
  refine ⟨h.1, fun ad H locs cells slots lsM hR hS hL hst hc hs ha hn h0 => ?_⟩
  have hat := hR.at (a := a) (by omega) (by omega)
  rw [lt_E1 hk] at hat
  exact va_iald hx hb hK.1 hR.1 (a - 1) 0 hat rfl (lt_vin hin) hd (h.2 ad H locs cells slots lsM hR hS hL (fun v hv => (List.mem_cons.mp hv).elim (fun e => by rw [e]; trivial) (fun hv => hst v (List.mem_cons_of_mem _ (List.mem_cons_of_mem _ hv)))) hc hs ha hn h0)
theorem v_baload (hC : lt_C X m) (hd : decode (lt_by m) pc = .ok (.baload, 1)) (hk : mK M a = 3) (hin : 0 ≤ i.toInt ∧ i.toInt < (mZ M a : Int)) (h : lt_V X m z q (pc + 1) ls (.int (mI M a (lt_n i)) :: r) M) : lt_V X m z q pc ls (.int i :: .ref a :: r) M := by
  obtain ⟨p, l, e, R, s, mid, args, below, meth, c, D, G, A⟩ := X
  obtain ⟨n0, ad0, mc, ms⟩ := q
  obtain ⟨hx, hb, hml, hown, hts, hr, hlk, hm, hi, htb, hl, hK, hZ, hA⟩ := hC
  refine ⟨h.1, fun ad H locs cells slots lsM hR hS hL hst hc hs ha hn h0 => ?_⟩
  have hat := hR.at (a := a) (by omega) (by omega)
  rw [lt_E3 hk] at hat
  exact va_zald hx hb hK.1 hR.1 (a - 1) 2 hat rfl (lt_vin hin) hd (h.2 ad H locs cells slots lsM hR hS hL (fun v hv => (List.mem_cons.mp hv).elim (fun e => by rw [e]; trivial) (fun hv => hst v (List.mem_cons_of_mem _ (List.mem_cons_of_mem _ hv)))) hc hs ha hn h0)
theorem v_laload (hC : lt_C X m) (hd : decode (lt_by m) pc = .ok (.laload, 1)) (hk : mK M a = 2) (hin : 0 ≤ i.toInt ∧ i.toInt < (mZ M a : Int)) (h : lt_V X m z q (pc + 1) ls (.long (mL M a (lt_n i)) :: r) M) : lt_V X m z q pc ls (.int i :: .ref a :: r) M := by
  obtain ⟨p, l, e, R, s, mid, args, below, meth, c, D, G, A⟩ := X
  obtain ⟨n0, ad0, mc, ms⟩ := q
  obtain ⟨hx, hb, hml, hown, hts, hr, hlk, hm, hi, htb, hl, hK, hZ, hA⟩ := hC
  refine ⟨h.1, fun ad H locs cells slots lsM hR hS hL hst hc hs ha hn h0 => ?_⟩
  have hat := hR.at (a := a) (by omega) (by omega)
  rw [lt_E2 hk] at hat
  exact va_lald hx hb hK.1 hR.1 (a - 1) 1 hat rfl (lt_vin hin) hd (h.2 ad H locs cells slots lsM hR hS hL (fun v hv => (List.mem_cons.mp hv).elim (fun e => by rw [e]; trivial) (fun hv => hst v (List.mem_cons_of_mem _ (List.mem_cons_of_mem _ hv)))) hc hs ha hn h0)
/-- the script -/
theorem v_iaload9 (hC : lt_C X m) (hd : decode (lt_by m) pc = .ok (.iaload, 1)) (hk : mK M a = 9) (hin : 0 ≤ i.toInt ∧ i.toInt < (mZ M a : Int)) (h9 : mK M a = 9 → a = 0) (h : lt_V X m z q (pc + 1) ls (.int (mI M a (lt_n i)) :: r) M) : lt_V X m z q pc ls (.int i :: .ref a :: r) M := by
  obtain ⟨p, l, e, R, s, mid, args, below, meth, c, D, G, A⟩ := X
  obtain ⟨n0, ad0, mc, ms⟩ := q
  obtain ⟨hx, hb, hml, hown, hts, hr, hlk, hm, hi, htb, hl, hK, hZ, hA⟩ := hC
  refine ⟨h.1, fun ad H locs cells slots lsM hR hS hL hst hc hs ha hn h0 => ?_⟩
  have e0 := h9 hk
  subst e0
  have hXs : va_X (ad 0) (mZ M 0) (mI M 0) s s.heap := hR.2.2.1.kept (hS.2.1 _ h0 hR.2.2.2.1.1).symm
  exact va_sld hx hb hXs h0 hR.2.2.2.1.1 hS (lt_vin hin) hd (h.2 ad H locs cells slots lsM hR hS hL (fun v hv => (List.mem_cons.mp hv).elim (fun e => by rw [e]; trivial) (fun hv => hst v (List.mem_cons_of_mem _ (List.mem_cons_of_mem _ hv)))) hc hs ha hn h0)
theorem v_iastore {x : Int32} (hC : lt_C X m) (hd : decode (lt_by m) pc = .ok (.iastore, 1)) (hk : mK M a = 1) (hin : 0 ≤ i.toInt ∧ i.toInt < (mZ M a : Int)) (h : lt_V X m z q (pc + 1) ls r (wI M a (lt_n i) x)) : lt_V X m z q pc ls (.int x :: .int i :: .ref a :: r) M := by
  obtain ⟨p, l, e, R, s, mid, args, below, meth, c, D, G, A⟩ := X
  obtain ⟨n0, ad0, mc, ms⟩ := q
  obtain ⟨hx, hb, hml, hown, hts, hr, hlk, hm, hi, htb, hl, hK, hZ, hA⟩ := hC
  refine ⟨h.1, fun ad H locs cells slots lsM hR hS hL hst hc hs ha hn h0 => ?_⟩
  have hpos := hR.pos (a := a) (by omega) (by omega)
  have hat := hR.at (a := a) (by omega) (by omega)
  rw [lt_E1 hk] at hat
  have he : lt_E G ad (wI M a (lt_n i) x) a = .inl (G 1, mZ M a, .inl (upd (mI M a) i.toNatClampNeg x)) := by
    rw [lt_E1 (M := wI M a (lt_n i) x) hk]
    have : mI (wI M a (lt_n i) x) a = upd (mI M a) i.toNatClampNeg x := funext fun j => by
      show (if a = a ∧ j = lt_n i then x else mI M a j) = _
      by_cases hj : j = lt_n i
      · rw [if_pos ⟨rfl, hj⟩]
        exact (if_pos (show j = i.toNatClampNeg from hj) : upd _ _ _ j = x).symm
      · rw [if_neg (fun e => hj e.2)]
        exact (if_neg (show ¬ j = i.toNatClampNeg from hj) : upd _ _ _ j = _).symm
    rw [this]
    rfl
  have hws := lt_ws_set (G := G) (ad := ad) (M := M) (M' := wI M a (lt_n i) x) hpos.1 rfl (fun j hj => lt_E_congr rfl rfl (mI_wI_ne hj) (rfl) rfl (rfl)) he
  refine va_iast hx hb hK.1 hR.1 hR.2.1 hS (a - 1) 0 hat rfl (lt_vin hin) hd fun H1 locs1 hP1 hD1 hS1 => ?_
  rw [hws] at hP1 hD1
  exact h.2 ad H1 locs1 cells slots lsM (hR.upd hS hS1 h0 rfl (fun _ => rfl) rfl (mI_wI_ne (by omega)) hR.2.2.2.2.1 hP1 hD1) hS1 hL (fun w hw => hst w (List.mem_cons_of_mem _ (List.mem_cons_of_mem _ (List.mem_cons_of_mem _ hw)))) hc hs ha hn h0
theorem v_bastore {x : Int32} (hC : lt_C X m) (hd : decode (lt_by m) pc = .ok (.bastore, 1)) (hk : mK M a = 3) (hin : 0 ≤ i.toInt ∧ i.toInt < (mZ M a : Int)) (hx01 : x = 0 ∨ x = 1) (h : lt_V X m z q (pc + 1) ls r (wI M a (lt_n i) x)) : lt_V X m z q pc ls (.int x :: .int i :: .ref a :: r) M := by
  obtain ⟨p, l, e, R, s, mid, args, below, meth, c, D, G, A⟩ := X
  obtain ⟨n0, ad0, mc, ms⟩ := q
  obtain ⟨hx, hb, hml, hown, hts, hr, hlk, hm, hi, htb, hl, hK, hZ, hA⟩ := hC
  refine ⟨h.1, fun ad H locs cells slots lsM hR hS hL hst hc hs ha hn h0 => ?_⟩
  have hpos := hR.pos (a := a) (by omega) (by omega)
  have hat := hR.at (a := a) (by omega) (by omega)
  rw [lt_E3 hk] at hat
  have he : lt_E G ad (wI M a (lt_n i) x) a = .inl (G 3, mZ M a, .inl (upd (mI M a) i.toNatClampNeg x)) := by
    rw [lt_E3 (M := wI M a (lt_n i) x) hk]
    have : mI (wI M a (lt_n i) x) a = upd (mI M a) i.toNatClampNeg x := funext fun j => by
      show (if a = a ∧ j = lt_n i then x else mI M a j) = _
      by_cases hj : j = lt_n i
      · rw [if_pos ⟨rfl, hj⟩]
        exact (if_pos (show j = i.toNatClampNeg from hj) : upd _ _ _ j = x).symm
      · rw [if_neg (fun e => hj e.2)]
        exact (if_neg (show ¬ j = i.toNatClampNeg from hj) : upd _ _ _ j = _).symm
    rw [this]
    rfl
  have hws := lt_ws_set (G := G) (ad := ad) (M := M) (M' := wI M a (lt_n i) x) hpos.1 rfl (fun j hj => lt_E_congr rfl rfl (mI_wI_ne hj) (rfl) rfl (rfl)) he
  have hnb : vp_nar .boolean x = x := by rcases hx01 with e | e <;> subst e <;> rfl
  refine va_zast hx hb hK.1 hR.1 hR.2.1 hS (a - 1) 2 hat rfl (lt_vin hin) hd fun H1 locs1 hP1 hD1 hS1 => ?_
  rw [hnb] at hP1 hD1
  rw [hws] at hP1 hD1
  exact h.2 ad H1 locs1 cells slots lsM (hR.upd hS hS1 h0 rfl (fun _ => rfl) rfl (mI_wI_ne (by omega)) hR.2.2.2.2.1 hP1 hD1) hS1 hL (fun w hw => hst w (List.mem_cons_of_mem _ (List.mem_cons_of_mem _ (List.mem_cons_of_mem _ hw)))) hc hs ha hn h0
theorem v_lastore {x : Int64} (hC : lt_C X m) (hd : decode (lt_by m) pc = .ok (.lastore, 1)) (hk : mK M a = 2) (hin : 0 ≤ i.toInt ∧ i.toInt < (mZ M a : Int)) (h : lt_V X m z q (pc + 1) ls r (wL M a (lt_n i) x)) : lt_V X m z q pc ls (.long x :: .int i :: .ref a :: r) M := by
  obtain ⟨p, l, e, R, s, mid, args, below, meth, c, D, G, A⟩ := X
  obtain ⟨n0, ad0, mc, ms⟩ := q
  obtain ⟨hx, hb, hml, hown, hts, hr, hlk, hm, hi, htb, hl, hK, hZ, hA⟩ := hC
  refine ⟨h.1, fun ad H locs cells slots lsM hR hS hL hst hc hs ha hn h0 => ?_⟩
  have hpos := hR.pos (a := a) (by omega) (by omega)
  have hat := hR.at (a := a) (by omega) (by omega)
  rw [lt_E2 hk] at hat
  have he : lt_E G ad (wL M a (lt_n i) x) a = .inl (G 2, mZ M a, .inr (.inl (vp_updL (mL M a) i.toNatClampNeg x))) := by
    rw [lt_E2 (M := wL M a (lt_n i) x) hk]
    have : mL (wL M a (lt_n i) x) a = vp_updL (mL M a) i.toNatClampNeg x := funext fun j => by
      show (if a = a ∧ j = lt_n i then x else mL M a j) = _
      by_cases hj : j = lt_n i
      · rw [if_pos ⟨rfl, hj⟩]
        exact (if_pos (show j = i.toNatClampNeg from hj) : vp_updL _ _ _ j = x).symm
      · rw [if_neg (fun e => hj e.2)]
        exact (if_neg (show ¬ j = i.toNatClampNeg from hj) : vp_updL _ _ _ j = _).symm
    rw [this]
    rfl
  have hws := lt_ws_set (G := G) (ad := ad) (M := M) (M' := wL M a (lt_n i) x) hpos.1 rfl (fun j hj => lt_E_congr rfl rfl (rfl) (mL_wL_ne hj) rfl (rfl)) he
  refine va_last hx hb hK.1 hR.1 hR.2.1 hS (a - 1) 1 hat rfl (lt_vin hin) hd fun H1 locs1 hP1 hD1 hS1 => ?_
  rw [hws] at hP1 hD1
  exact h.2 ad H1 locs1 cells slots lsM (hR.upd hS hS1 h0 rfl (fun _ => rfl) rfl rfl hR.2.2.2.2.1 hP1 hD1) hS1 hL (fun w hw => hst w (List.mem_cons_of_mem _ (List.mem_cons_of_mem _ (List.mem_cons_of_mem _ hw)))) hc hs ha hn h0
theorem v_arraylength (hC : lt_C X m) (hd : decode (lt_by m) pc = .ok (.arraylength, 1)) (hk : 1 ≤ mK M a ∧ mK M a ≤ 9) (h9 : mK M a = 9 → a = 0) (h : lt_V X m z q (pc + 1) ls (.int (nI (mZ M a)) :: r) M) : lt_V X m z q pc ls (.ref a :: r) M := by
  obtain ⟨p, l, e, R, s, mid, args, below, meth, c, D, G, A⟩ := X
  obtain ⟨n0, ad0, mc, ms⟩ := q
  obtain ⟨hx, hb, hml, hown, hts, hr, hlk, hm, hi, htb, hl, hK, hZ, hA⟩ := hC
  refine ⟨h.1, fun ad H locs cells slots lsM hR hS hL hst hc hs ha hn h0 => ?_⟩
  have go := h.2 ad H locs cells slots lsM hR hS hL (fun v hv => (List.mem_cons.mp hv).elim (fun e => by rw [e]; trivial) (fun hv => hst v (List.mem_cons_of_mem _ hv))) hc hs ha hn h0
  by_cases e9 : mK M a = 9
  · have e0 := h9 e9
    subst e0
    have hXs : va_X (ad 0) (mZ M 0) (mI M 0) s s.heap := hR.2.2.1.kept (hS.2.1 _ h0 hR.2.2.2.1.1).symm
    exact va_slen hx hb hXs h0 hR.2.2.2.1.1 hS hd go
  · have hat := hR.at (a := a) (by omega) e9
    rcases (show mK M a = 1 ∨ mK M a = 2 ∨ mK M a = 3 ∨ mK M a = 4 ∨ mK M a = 5 ∨ mK M a = 6 ∨ mK M a = 7 ∨ mK M a = 8 by omega) with h1 | h1 | h1 | h1 | h1 | h1 | h1 | h1
    · rw [lt_E1 h1] at hat; exact va_alen hx hb hK.1 hR.1 (a - 1) 0 hat rfl rfl hd go
    · rw [lt_E2 h1] at hat; exact va_alen hx hb hK.1 hR.1 (a - 1) 1 hat rfl rfl hd go
    · rw [lt_E3 h1] at hat; exact va_alen hx hb hK.1 hR.1 (a - 1) 2 hat rfl rfl hd go
    · rw [lt_E4 h1] at hat; exact va_alen hx hb hK.1 hR.1 (a - 1) 3 hat rfl rfl hd go
    · rw [lt_E58 (by omega) (by omega), h1] at hat; exact va_alen hx hb hK.1 hR.1 (a - 1) 4 hat rfl rfl hd go
    · rw [lt_E58 (by omega) (by omega), h1] at hat; exact va_alen hx hb hK.1 hR.1 (a - 1) 5 hat rfl rfl hd go
    · rw [lt_E58 (by omega) (by omega), h1] at hat; exact va_alen hx hb hK.1 hR.1 (a - 1) 6 hat rfl rfl hd go
    · rw [lt_E58 (by omega) (by omega), h1] at hat; exact va_alen hx hb hK.1 hR.1 (a - 1) 7 hat rfl rfl hd go
theorem lt_ty58 {G : Nat → ClassId} {k : Nat} (h5 : 5 ≤ k) (h8 : k ≤ 8) : ∃ ty : FieldType, (lt_tys G)[k - 1]? = some (G k, ty) ∧ ty.isReference = true := by
  rcases (show k = 5 ∨ k = 6 ∨ k = 7 ∨ k = 8 by omega) with h | h | h | h <;> subst h <;> exact ⟨_, rfl, rfl⟩
theorem v_aaload {v : Value} (hC : lt_C X m) (hd : decode (lt_by m) pc = .ok (.aaload, 1)) (hk : 5 ≤ mK M a ∧ mK M a ≤ 8) (hin : 0 ≤ i.toInt ∧ i.toInt < (mZ M a : Int)) (hv : ∀ ad, va_rf ((mP M a (lt_n i)).map ad) = lt_v ad v) (hok : (∀ k i q, mP M k i = some q → 0 ≤ q ∧ q < mN M) → lt_ok (mN M) v)
    (h : lt_V X m z q (pc + 1) ls (v :: r) M) : lt_V X m z q pc ls (.int i :: .ref a :: r) M := by
  obtain ⟨p, l, e, R, s, mid, args, below, meth, c, D, G, A⟩ := X
  obtain ⟨n0, ad0, mc, ms⟩ := q
  obtain ⟨hx, hb, hml, hown, hts, hr, hlk, hm, hi, htb, hl, hK, hZ, hA⟩ := hC
  refine ⟨h.1, fun ad H locs cells slots lsM hR hS hL hst hc hs ha hn h0 => ?_⟩
  have hat := hR.at (a := a) (by omega) (by omega)
  rw [lt_E58 hk.1 hk.2] at hat
  obtain ⟨ty, ht, hrt⟩ := lt_ty58 (G := G) hk.1 hk.2
  have hvin := lt_vin hin
  have hlt : i.toNatClampNeg < mZ M a := Nat.not_le.mp fun q => hvin (Or.inr q)
  have go := h.2 ad H locs cells slots lsM hR hS hL (fun w hw => (List.mem_cons.mp hw).elim (fun e => by rw [e]; exact hok hR.2.2.2.2.1) (fun hw => hst w (List.mem_cons_of_mem _ (List.mem_cons_of_mem _ hw)))) hc hs ha hn h0
  refine W.aald (v := lt_v ad v) (ty := ty) hx hb (hR.1 (a - 1) _ hat) ((hK.1.2 _ _ ht).1 (mZ M a) (fun j => va_rf ((mP M a j).map ad))) hrt (fun q => by cases q) (by show ¬ (i < 0 ∨ (arrV _ _ _).slots.size ≤ _); rw [arrV_size]; exact hvin) ?_ rfl rfl hd go
  show (arrV _ _ _).slots[_]? = _
  rw [arrV_read _ _ hlt]
  exact congrArg some (hv ad)
section LN
variable {M : LM} {k zl n : Nat}
theorem aNew_I : mI (aNew M k zl n) (mN M) = fun _ => 0 := if_pos rfl
theorem aNew_L : mL (aNew M k zl n) (mN M) = fun _ => 0 := if_pos rfl
theorem aNew_P : mP (aNew M k zl n) (mN M) = fun _ => none := if_pos rfl
theorem aNew_D : mD (aNew M k zl n) (mN M) = fun _ => 0 := if_pos rfl
theorem aNew_K : mK (aNew M k zl n) (mN M) = k := if_pos rfl
theorem aNew_Z : mZ (aNew M k zl n) (mN M) = zl := if_pos rfl
end LN
/-- the memory behind a new cell -/
theorem lt_R.new {D : va_G} {G : Nat → ClassId} {A : Nat → Prop} {ad : Nat → Nat} {k zl n b : Nat} {s : State} {H H1 : Heap} {locs locs1 : List Loc} {e : va_E} (hR : lt_R D G A ad M s H) (hS : va_S A s.heap H locs) (hS1 : va_S A s.heap H1 locs1) (h0 : ad 0 < s.heap.size) (hk : k ≠ 0)
    (he : lt_E G (va_up ad (mN M) b) (aNew M k zl n) (mN M) = e) (hP1 : va_P D vwCl (lt_ws G ad M ++ [(b, e)]) H1) (hD1 : va_D A (lt_ws G ad M ++ [(b, e)])) : lt_R D G A (va_up ad (mN M) b) (aNew M k zl n) s H1 := by
  have hup : ∀ j, j < mN M → va_up ad (mN M) b j = ad j := fun j hj => if_neg (by omega)
  have hupN : va_up ad (mN M) b (mN M) = b := if_pos rfl
  have hold : ∀ {α : Type} (f : Nat → α) (g : α) (j : Nat), j ≠ mN M → u1 f (mN M) g j = f j := fun f g j hj => if_neg hj
  have hE : ∀ j, j < mN M → lt_E G (va_up ad (mN M) b) (aNew M k zl n) j = lt_E G ad M j := by
    intro j hj
    have hjn : j ≠ mN M := by omega
    have e1 : lt_E G (va_up ad (mN M) b) (aNew M k zl n) j = lt_E G (va_up ad (mN M) b) M j := lt_E_congr (hold _ _ j hjn) (hold _ _ j hjn) (hold _ _ j hjn) (hold _ _ j hjn) (hold _ _ j hjn) (hold _ _ j hjn)
    rw [e1]
    have em : ∀ i, (mP M j i).map (va_up ad (mN M) b) = (mP M j i).map ad := fun i => by
      cases hp : mP M j i with
      | none => rfl
      | some x => rw [Option.map_some, Option.map_some, hup x (hR.2.2.2.2.1 j i x hp).2]
    have eF : ∀ c, lt_F (va_up ad (mN M) b) M j c = lt_F ad M j c := fun c => funext fun i => by unfold lt_F; rw [em]
    unfold lt_E
    split <;> first | rfl | rw [eF] | simp only [em]
  have hws := lt_ws_push (G := G) (ad := ad) (ad' := va_up ad (mN M) b) (M := M) (M' := aNew M k zl n) hR.2.2.2.2.2.2.2 rfl (fun j hj => ⟨hup j hj, hE j hj⟩)
  rw [hupN, he] at hws
  rw [hws] at hP1 hD1
  have hz0 : (0 : Nat) ≠ mN M := by have := hR.2.2.2.2.2.2.2; omega
  refine ⟨hP1, hD1, ?_, ⟨?_, ?_⟩, fun i j x h => ?_, fun i h => ?_, ?_, ?_⟩
  · show va_X (va_up ad (mN M) b 0) (u1 (mZ M) (mN M) zl 0) (u1 (mI M) (mN M) (fun _ => 0) 0) s H1
    rw [hup 0 (by omega), hold _ _ 0 hz0, hold _ _ 0 hz0]
    exact hR.2.2.1.kept (lt_X_step hR hS hS1 h0)
  · rw [hup 0 (by omega)]; exact hR.2.2.2.1.1
  · rw [hup 0 (by omega)]; exact Nat.lt_of_lt_of_le h0 hS1.1
  · show 0 ≤ x ∧ x < mN M + 1
    have h' : u1 (mP M) (mN M) (fun _ => none) i j = some x := h
    by_cases hi : i = mN M
    · rw [show u1 (mP M) (mN M) (fun _ => none) i j = none by unfold u1; rw [if_pos hi]] at h'
      cases h'
    · rw [hold _ _ i hi] at h'
      have := hR.2.2.2.2.1 i j x h'
      omega
  · show i < mN M + 1
    by_cases hi : i = mN M
    · omega
    · have h' : u1 (mK M) (mN M) k i ≠ 0 := h
      rw [hold _ _ i hi] at h'
      have := hR.2.2.2.2.2.1 i h'
      omega
  · show u1 (mK M) (mN M) k 0 = 9
    rw [hold _ _ 0 hz0]
    exact hR.2.2.2.2.2.2.1
  · show 1 ≤ mN M + 1
    omega
theorem lt_cls_spec {own idx c : Nat} (ho : own < 17) (h : lt_find (lt_cls own) idx = some c) : Cond.classLink (lt_cn own) idx (lt_cx c) ∈ lw_good := by
  have h1 := List.all_eq_true.mp (lt_co own ho) _ (lt_find_mem h)
  unfold lt_cok at h1
  dsimp only at h1
  split at h1
  · next i hi =>
    rw [Bool.and_eq_true] at h1
    exact lt_gw_in h1.1
  · cases h1
theorem v_new {idx ci : Nat} (hC : lt_C X m) (hd : decode (lt_by m) pc = .ok (.new idx, 3)) (hf : lt_find (lt_cls (lt_inf m).1) idx = some ci) (hci : ci < 13) (hmc : ∀ n0 ad0 mc ms, q = (n0, ad0, mc, ms) → mc ≤ X.2.2.2.1.cells ∧ ms ≤ X.2.2.2.1.slots)
    (h : lt_V X m z q (pc + 3) ls (.ref (mN M) :: r) (aNew M (16 + ci) 0 (lt_nf ci))) : lt_V X m z q pc ls r M := by
  obtain ⟨p, l, e, R, s, mid, args, below, meth, c, D, G, A⟩ := X
  obtain ⟨n0, ad0, mc, ms⟩ := q
  obtain ⟨hx, hb, hml, hown, hts, hr, hlk, hm, hi, htb, hl, hK, hZ, hA⟩ := hC
  have hge : lt_ge M z.2 := lt_ge.tr (M' := aNew M (16 + ci) 0 (lt_nf ci)) ⟨Nat.le_succ _, Nat.le_add_right _ _, Nat.le_succ _⟩ h.1
  refine ⟨hge, fun ad H locs cells slots lsM hR hS hL hst hc hs ha hn h0 => ?_⟩
  obtain ⟨rr, f1, f2, f3, f4, f5, ⟨ty0, f6⟩, f7⟩ := lt_kw_spec hci
  have hcx := lt_cls_spec (lt_own_lt m hm) hf
  have hcxe : lt_cx ci = rr.1 := by
    unfold lt_cx
    rw [show Nat.blt ci 100 = true from by simp [Nat.blt]; omega, f1]
    rfl
  rw [hcxe] at hcx
  obtain ⟨C, T, N⟩ := rr
  obtain ⟨g1, g2⟩ := hmc n0 ad0 mc ms rfl
  have g1' : mc ≤ R.cells := g1
  have g2' : ms ≤ R.slots := g2
  have h1c : mC M + 1 ≤ mC z.2 := h.1.1
  have h1s : mS M + lt_nf ci ≤ mS z.2 := h.1.2.1
  have f5' : lt_nf ci = N := f5
  have hfs : ∀ j, j < N → defaultValue (ty0 j) = vp_V ((List.range (lt_nf ci)).map (lt_F (va_up ad (mN M) 0) (aNew M (16 + ci) 0 (lt_nf ci)) (mN M) ci)) j := by
    intro j hj
    unfold vp_V
    rw [List.getD_eq_getElem?_getD, lt_flds (by rw [f5']; exact hj), Option.getD_some]
    have ht := (f6 j hj).2
    have eI : mI (aNew M (16 + ci) 0 (lt_nf ci)) (mN M) j = 0 := congrFun aNew_I j
    have eL : mL (aNew M (16 + ci) 0 (lt_nf ci)) (mN M) j = 0 := congrFun aNew_L j
    have eP : mP (aNew M (16 + ci) 0 (lt_nf ci)) (mN M) j = none := congrFun aNew_P j
    unfold lt_F
    rw [eI, eL, eP]
    unfold lt_tyo at ht
    split at ht <;> first | (next e1 e2 => rw [e1, e2]; rfl) | (next e1 e2 => simp only [e1, e2]; rfl) | cases ht
  refine va_new (C := C) (T := T) (N := N) hx hb hts f4 ty0 (fun k hk => (f6 k hk).1) hown (hts _ hcx) (hts _ f2) (hts _ f3) hK.1 hR.1 hR.2.1 hS hA f1 hfs (by omega) (by omega) hd fun b H1 hP1 hD1 hS1 => ?_
  have hfe : lt_E G (va_up ad (mN M) b) (aNew M (16 + ci) 0 (lt_nf ci)) (mN M) = .inr (ci, (List.range (lt_nf ci)).map (lt_F (va_up ad (mN M) 0) (aNew M (16 + ci) 0 (lt_nf ci)) (mN M) ci)) := by
    rw [lt_EO (c := ci) aNew_K]
    congr 2
    apply List.map_congr_left
    intro j _
    have eP : mP (aNew M (16 + ci) 0 (lt_nf ci)) (mN M) j = none := congrFun aNew_P j
    unfold lt_F
    rw [eP]
    rfl
  have hR1 := hR.new (n := lt_nf ci) (zl := 0) hS hS1 h0 (by omega) hfe hP1 hD1
  have hup : ∀ j, j < mN M → va_up ad (mN M) b j = ad j := fun j hj => if_neg (by omega)
  have go := h.2 (va_up ad (mN M) b) H1 locs (cells + 1) (slots + N) lsM hR1 hS1 (hL.up (Nat.le_succ _) hup) (fun v hv => (List.mem_cons.mp hv).elim (fun e => by rw [e]; exact Nat.lt_succ_self _) (fun hv => lt_ok.up (Nat.le_succ _) (hst v hv)))
    (by show cells + 1 + (mC z.2 - (mC M + 1)) ≤ mc; omega) (by show slots + N + (mS z.2 - (mS M + lt_nf ci)) ≤ ms; omega) (fun k hk => by rw [hup k (by omega)]; exact ha k hk) (Nat.le_succ_of_le hn) (by rw [hup 0 (by have := hR.2.2.2.2.2.2.2; omega)]; exact h0)
  have e1 : (Value.ref (mN M) :: r).map (lt_v (va_up ad (mN M) b)) = .ref b :: r.map (lt_v ad) := by
    rw [List.map_cons, lt_vs.up hup hst]
    show Value.ref (va_up ad (mN M) b (mN M)) :: _ = _
    rw [show va_up ad (mN M) b (mN M) = b from if_pos rfl]
  rw [e1] at go
  exact go
end VA2
