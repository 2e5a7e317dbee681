/-! ONE STEP of the little machine is a step of the machine: new arrays, references stored, rows copied (laid by wip/p50/gen16.py) -/
theorem lt_nneg {n : Int32} (h : 0 ≤ n.toInt) : ¬ n < 0 := fun e => by
  have := Int32.lt_iff_toInt_lt.mp e
  have z0 : (0 : Int32).toInt = 0 := rfl
  omega
theorem lt_nle {n : Int32} {k : Nat} (h : n.toInt ≤ (k : Int)) : n.toNatClampNeg ≤ k := by
  show n.toInt.toNat ≤ k
  omega
/-- the room holds what the run will make -/
def lt_rm (X : lt_X) (q : Nat × (Nat → Nat) × Nat × Nat) : Prop := q.2.2.1 ≤ X.2.2.2.1.cells ∧ q.2.2.2 ≤ X.2.2.2.1.slots
theorem lt_cx_s : lt_cx 0 = "Cachebench$Bench" ∧ lt_cx 1 = "Cachebench$Cache" ∧ lt_cx 12 = "CachebenchLaw$Plain" ∧ lt_cx 207 = "[[I" := by decide +kernel
section VA3
variable {X : lt_X} {m : Nat} {z : LO × LM} {q : Nat × (Nat → Nat) × Nat × Nat} {pc : Nat} {ls st r : List Value} {M : LM} {a : Nat} {i : Int32}
theorem v_newarray_int {n : Int32} (hC : lt_C X m) (hmc : lt_rm X q) (hd : decode (lt_by m) pc = .ok (.newarray .int, 2)) (hn : 0 ≤ n.toInt ∧ n.toInt ≤ 65536) (h : lt_V X m z q (pc + 2) ls (.ref (mN M) :: r) (aNew M 1 (lt_n n) (lt_n n))) : lt_V X m z q pc ls (.int n :: r) M := by
  obtain ⟨p, l, e, R, s, mid, args, below, meth, c, D, G, A⟩ := X
  obtain ⟨n0, ad0, mc, ms⟩ := q
  obtain ⟨hx, hb, hml, hown, hts, hr, hlk, hm, hi, htb, hl, hK, hZ, hA⟩ := hC
  have hge : lt_ge M z.2 := lt_ge.tr (M' := aNew M 1 (lt_n n) (lt_n n)) ⟨Nat.le_succ _, Nat.le_add_right _ _, Nat.le_succ _⟩ h.1
  have h1c : mC M + 1 ≤ mC z.2 := h.1.1
  have h1s : mS M + lt_n n ≤ mS z.2 := h.1.2.1
  have g1 : mc ≤ R.cells := hmc.1
  have g2 : ms ≤ R.slots := hmc.2
  have hn5 : n.toNatClampNeg ≤ 65536 := lt_nle hn.2
  refine ⟨hge, fun ad H locs cells slots lsM hR hS hL hst hc hs ha hn0 h0 => ?_⟩
  refine va_newa (atype := .int) (ty := .int) (a0 := (lt_n n, .inl fun _ => 0)) hx hb (hts _ lt_ac_int) rfl hK.1 hR.1 hR.2.1 hS hA (fun _ => rfl) (lt_nneg hn.1) rfl (by show n.toNatClampNeg * 4 ≤ 536870912; omega) (by omega) (by show slots + lt_n n ≤ R.slots; omega) hd fun b cA H1 hK1 hP1 hD1 hS1 => ?_
  have hcA : cA = G 1 := by
    have e1 : s.vm.findClass ("[" ++ (FieldType.int).toString) = some cA := (hK1.2 8 (cA, .int) rfl).2
    have e2 : s.vm.findClass ("[" ++ (FieldType.int).toString) = some (G 1) := (hK.1.2 0 (G 1, .int) rfl).2
    exact Option.some.inj (e1.symm.trans e2)
  subst hcA
  have hR1 := hR.new (k := 1) (zl := lt_n n) (n := lt_n n) hS hS1 h0 (by omega) (by rw [lt_E1 aNew_K, aNew_I, aNew_Z]) hP1 hD1
  have hup : ∀ j, j < mN M → va_up ad (mN M) b j = ad j := fun j hj => if_neg (by omega)
  have go := h.2 (va_up ad (mN M) b) H1 locs (cells + 1) (slots + lt_n n) lsM hR1 hS1 (hL.up (Nat.le_succ _) hup) (fun v hv => (List.mem_cons.mp hv).elim (fun e => by rw [e]; exact Nat.lt_succ_self _) (fun hv => lt_ok.up (Nat.le_succ _) (hst v (List.mem_cons_of_mem _ hv))))
    (by show cells + 1 + (mC z.2 - (mC M + 1)) ≤ mc; omega) (by show slots + lt_n n + (mS z.2 - (mS M + lt_n n)) ≤ ms; omega) (fun k hk => by rw [hup k (by omega)]; exact ha k hk) (Nat.le_succ_of_le hn0) (by rw [hup 0 (by have := hR.2.2.2.2.2.2.2; omega)]; exact h0)
  have e1 : (Value.ref (mN M) :: r).map (lt_v (va_up ad (mN M) b)) = .ref b :: r.map (lt_v ad) := by
    rw [List.map_cons, lt_vs.up hup (fun v hv => hst v (List.mem_cons_of_mem _ hv))]
    show Value.ref (va_up ad (mN M) b (mN M)) :: _ = _
    rw [show va_up ad (mN M) b (mN M) = b from if_pos rfl]
  rw [e1] at go
  exact go
theorem v_newarray_long {n : Int32} (hC : lt_C X m) (hmc : lt_rm X q) (hd : decode (lt_by m) pc = .ok (.newarray .long, 2)) (hn : 0 ≤ n.toInt ∧ n.toInt ≤ 65536) (h : lt_V X m z q (pc + 2) ls (.ref (mN M) :: r) (aNew M 2 (lt_n n) (lt_n n))) : lt_V X m z q pc ls (.int n :: r) M := by
  obtain ⟨p, l, e, R, s, mid, args, below, meth, c, D, G, A⟩ := X
  obtain ⟨n0, ad0, mc, ms⟩ := q
  obtain ⟨hx, hb, hml, hown, hts, hr, hlk, hm, hi, htb, hl, hK, hZ, hA⟩ := hC
  have hge : lt_ge M z.2 := lt_ge.tr (M' := aNew M 2 (lt_n n) (lt_n n)) ⟨Nat.le_succ _, Nat.le_add_right _ _, Nat.le_succ _⟩ h.1
  have h1c : mC M + 1 ≤ mC z.2 := h.1.1
  have h1s : mS M + lt_n n ≤ mS z.2 := h.1.2.1
  have g1 : mc ≤ R.cells := hmc.1
  have g2 : ms ≤ R.slots := hmc.2
  have hn5 : n.toNatClampNeg ≤ 65536 := lt_nle hn.2
  refine ⟨hge, fun ad H locs cells slots lsM hR hS hL hst hc hs ha hn0 h0 => ?_⟩
  refine va_newa (atype := .long) (ty := .long) (a0 := (lt_n n, .inr (.inl fun _ => 0))) hx hb (hts _ lt_ac_long) rfl hK.1 hR.1 hR.2.1 hS hA (fun _ => rfl) (lt_nneg hn.1) rfl (by show n.toNatClampNeg * 8 ≤ 536870912; omega) (by omega) (by show slots + lt_n n ≤ R.slots; omega) hd fun b cA H1 hK1 hP1 hD1 hS1 => ?_
  have hcA : cA = G 2 := by
    have e1 : s.vm.findClass ("[" ++ (FieldType.long).toString) = some cA := (hK1.2 8 (cA, .long) rfl).2
    have e2 : s.vm.findClass ("[" ++ (FieldType.long).toString) = some (G 2) := (hK.1.2 1 (G 2, .long) rfl).2
    exact Option.some.inj (e1.symm.trans e2)
  subst hcA
  have hR1 := hR.new (k := 2) (zl := lt_n n) (n := lt_n n) hS hS1 h0 (by omega) (by rw [lt_E2 aNew_K, aNew_L, aNew_Z]) hP1 hD1
  have hup : ∀ j, j < mN M → va_up ad (mN M) b j = ad j := fun j hj => if_neg (by omega)
  have go := h.2 (va_up ad (mN M) b) H1 locs (cells + 1) (slots + lt_n n) lsM hR1 hS1 (hL.up (Nat.le_succ _) hup) (fun v hv => (List.mem_cons.mp hv).elim (fun e => by rw [e]; exact Nat.lt_succ_self _) (fun hv => lt_ok.up (Nat.le_succ _) (hst v (List.mem_cons_of_mem _ hv))))
    (by show cells + 1 + (mC z.2 - (mC M + 1)) ≤ mc; omega) (by show slots + lt_n n + (mS z.2 - (mS M + lt_n n)) ≤ ms; omega) (fun k hk => by rw [hup k (by omega)]; exact ha k hk) (Nat.le_succ_of_le hn0) (by rw [hup 0 (by have := hR.2.2.2.2.2.2.2; omega)]; exact h0)
  have e1 : (Value.ref (mN M) :: r).map (lt_v (va_up ad (mN M) b)) = .ref b :: r.map (lt_v ad) := by
    rw [List.map_cons, lt_vs.up hup (fun v hv => hst v (List.mem_cons_of_mem _ hv))]
    show Value.ref (va_up ad (mN M) b (mN M)) :: _ = _
    rw [show va_up ad (mN M) b (mN M) = b from if_pos rfl]
  rw [e1] at go
  exact go
theorem v_newarray_boolean {n : Int32} (hC : lt_C X m) (hmc : lt_rm X q) (hd : decode (lt_by m) pc = .ok (.newarray .boolean, 2)) (hn : 0 ≤ n.toInt ∧ n.toInt ≤ 65536) (h : lt_V X m z q (pc + 2) ls (.ref (mN M) :: r) (aNew M 3 (lt_n n) (lt_n n))) : lt_V X m z q pc ls (.int n :: r) M := by
  obtain ⟨p, l, e, R, s, mid, args, below, meth, c, D, G, A⟩ := X
  obtain ⟨n0, ad0, mc, ms⟩ := q
  obtain ⟨hx, hb, hml, hown, hts, hr, hlk, hm, hi, htb, hl, hK, hZ, hA⟩ := hC
  have hge : lt_ge M z.2 := lt_ge.tr (M' := aNew M 3 (lt_n n) (lt_n n)) ⟨Nat.le_succ _, Nat.le_add_right _ _, Nat.le_succ _⟩ h.1
  have h1c : mC M + 1 ≤ mC z.2 := h.1.1
  have h1s : mS M + lt_n n ≤ mS z.2 := h.1.2.1
  have g1 : mc ≤ R.cells := hmc.1
  have g2 : ms ≤ R.slots := hmc.2
  have hn5 : n.toNatClampNeg ≤ 65536 := lt_nle hn.2
  refine ⟨hge, fun ad H locs cells slots lsM hR hS hL hst hc hs ha hn0 h0 => ?_⟩
  refine va_newa (atype := .boolean) (ty := .boolean) (a0 := (lt_n n, .inl fun _ => 0)) hx hb (hts _ lt_ac_boolean) rfl hK.1 hR.1 hR.2.1 hS hA (fun _ => rfl) (lt_nneg hn.1) rfl (by show n.toNatClampNeg * 1 ≤ 536870912; omega) (by omega) (by show slots + lt_n n ≤ R.slots; omega) hd fun b cA H1 hK1 hP1 hD1 hS1 => ?_
  have hcA : cA = G 3 := by
    have e1 : s.vm.findClass ("[" ++ (FieldType.boolean).toString) = some cA := (hK1.2 8 (cA, .boolean) rfl).2
    have e2 : s.vm.findClass ("[" ++ (FieldType.boolean).toString) = some (G 3) := (hK.1.2 2 (G 3, .boolean) rfl).2
    exact Option.some.inj (e1.symm.trans e2)
  subst hcA
  have hR1 := hR.new (k := 3) (zl := lt_n n) (n := lt_n n) hS hS1 h0 (by omega) (by rw [lt_E3 aNew_K, aNew_I, aNew_Z]) hP1 hD1
  have hup : ∀ j, j < mN M → va_up ad (mN M) b j = ad j := fun j hj => if_neg (by omega)
  have go := h.2 (va_up ad (mN M) b) H1 locs (cells + 1) (slots + lt_n n) lsM hR1 hS1 (hL.up (Nat.le_succ _) hup) (fun v hv => (List.mem_cons.mp hv).elim (fun e => by rw [e]; exact Nat.lt_succ_self _) (fun hv => lt_ok.up (Nat.le_succ _) (hst v (List.mem_cons_of_mem _ hv))))
    (by show cells + 1 + (mC z.2 - (mC M + 1)) ≤ mc; omega) (by show slots + lt_n n + (mS z.2 - (mS M + lt_n n)) ≤ ms; omega) (fun k hk => by rw [hup k (by omega)]; exact ha k hk) (Nat.le_succ_of_le hn0) (by rw [hup 0 (by have := hR.2.2.2.2.2.2.2; omega)]; exact h0)
  have e1 : (Value.ref (mN M) :: r).map (lt_v (va_up ad (mN M) b)) = .ref b :: r.map (lt_v ad) := by
    rw [List.map_cons, lt_vs.up hup (fun v hv => hst v (List.mem_cons_of_mem _ hv))]
    show Value.ref (va_up ad (mN M) b (mN M)) :: _ = _
    rw [show va_up ad (mN M) b (mN M) = b from if_pos rfl]
  rw [e1] at go
  exact go
theorem v_anewarray5 {n : Int32} {idx : Nat} (hC : lt_C X m) (hmc : lt_rm X q) (hd : decode (lt_by m) pc = .ok (.anewarray idx, 3)) (hf : lt_find (lt_cls (lt_inf m).1) idx = some 0) (hn : 0 ≤ n.toInt ∧ n.toInt ≤ 65536) (h : lt_V X m z q (pc + 3) ls (.ref (mN M) :: r) (aNew M 5 (lt_n n) (lt_n n))) : lt_V X m z q pc ls (.int n :: r) M := by
  obtain ⟨p, l, e, R, s, mid, args, below, meth, c, D, G, A⟩ := X
  obtain ⟨n0, ad0, mc, ms⟩ := q
  obtain ⟨hx, hb, hml, hown, hts, hr, hlk, hm, hi, htb, hl, hK, hZ, hA⟩ := hC
  have hge : lt_ge M z.2 := lt_ge.tr (M' := aNew M 5 (lt_n n) (lt_n n)) ⟨Nat.le_succ _, Nat.le_add_right _ _, Nat.le_succ _⟩ h.1
  have h1c : mC M + 1 ≤ mC z.2 := h.1.1
  have h1s : mS M + lt_n n ≤ mS z.2 := h.1.2.1
  have g1 : mc ≤ R.cells := hmc.1
  have g2 : ms ≤ R.slots := hmc.2
  have hn5 : n.toNatClampNeg ≤ 65536 := lt_nle hn.2
  refine ⟨hge, fun ad H locs cells slots lsM hR hS hL hst hc hs ha hn0 h0 => ?_⟩
  have hcx := lt_cls_spec (lt_own_lt m hm) hf
  rw [lt_cx_s.1] at hcx
  refine va_newq hx hb hown (hts _ hcx) hK.2.2.2.1 hK.1 hR.1 hR.2.1 hS hA (lt_nneg hn.1) rfl (by omega) (by omega) (by show slots + lt_n n ≤ R.slots; omega) hd fun b cA H1 hK1 hP1 hD1 hS1 => ?_
  have hcA : cA = G 5 := by
    obtain ⟨-, -, -, -, -, e1⟩ := (hK1.2 8 (cA, .object "Cachebench$Bench") rfl).2
    obtain ⟨-, -, -, -, -, e2⟩ := (hK.1.2 4 (G 5, .object "Cachebench$Bench") rfl).2
    exact Option.some.inj (e1.symm.trans e2)
  subst hcA
  have hR1 := hR.new (k := 5) (zl := lt_n n) (n := lt_n n) hS hS1 h0 (by omega) (by rw [lt_E58 (by rw [aNew_K]; omega) (by rw [aNew_K]; omega), aNew_K, aNew_Z, aNew_P]; rfl) hP1 hD1
  have hup : ∀ j, j < mN M → va_up ad (mN M) b j = ad j := fun j hj => if_neg (by omega)
  have go := h.2 (va_up ad (mN M) b) H1 locs (cells + 1) (slots + lt_n n) lsM hR1 hS1 (hL.up (Nat.le_succ _) hup) (fun v hv => (List.mem_cons.mp hv).elim (fun e => by rw [e]; exact Nat.lt_succ_self _) (fun hv => lt_ok.up (Nat.le_succ _) (hst v (List.mem_cons_of_mem _ hv))))
    (by show cells + 1 + (mC z.2 - (mC M + 1)) ≤ mc; omega) (by show slots + lt_n n + (mS z.2 - (mS M + lt_n n)) ≤ ms; omega) (fun k hk => by rw [hup k (by omega)]; exact ha k hk) (Nat.le_succ_of_le hn0) (by rw [hup 0 (by have := hR.2.2.2.2.2.2.2; omega)]; exact h0)
  have e1 : (Value.ref (mN M) :: r).map (lt_v (va_up ad (mN M) b)) = .ref b :: r.map (lt_v ad) := by
    rw [List.map_cons, lt_vs.up hup (fun v hv => hst v (List.mem_cons_of_mem _ hv))]
    show Value.ref (va_up ad (mN M) b (mN M)) :: _ = _
    rw [show va_up ad (mN M) b (mN M) = b from if_pos rfl]
  rw [e1] at go
  exact go
theorem v_anewarray6 {n : Int32} {idx : Nat} (hC : lt_C X m) (hmc : lt_rm X q) (hd : decode (lt_by m) pc = .ok (.anewarray idx, 3)) (hf : lt_find (lt_cls (lt_inf m).1) idx = some 1) (hn : 0 ≤ n.toInt ∧ n.toInt ≤ 65536) (h : lt_V X m z q (pc + 3) ls (.ref (mN M) :: r) (aNew M 6 (lt_n n) (lt_n n))) : lt_V X m z q pc ls (.int n :: r) M := by
  obtain ⟨p, l, e, R, s, mid, args, below, meth, c, D, G, A⟩ := X
  obtain ⟨n0, ad0, mc, ms⟩ := q
  obtain ⟨hx, hb, hml, hown, hts, hr, hlk, hm, hi, htb, hl, hK, hZ, hA⟩ := hC
  have hge : lt_ge M z.2 := lt_ge.tr (M' := aNew M 6 (lt_n n) (lt_n n)) ⟨Nat.le_succ _, Nat.le_add_right _ _, Nat.le_succ _⟩ h.1
  have h1c : mC M + 1 ≤ mC z.2 := h.1.1
  have h1s : mS M + lt_n n ≤ mS z.2 := h.1.2.1
  have g1 : mc ≤ R.cells := hmc.1
  have g2 : ms ≤ R.slots := hmc.2
  have hn5 : n.toNatClampNeg ≤ 65536 := lt_nle hn.2
  refine ⟨hge, fun ad H locs cells slots lsM hR hS hL hst hc hs ha hn0 h0 => ?_⟩
  have hcx := lt_cls_spec (lt_own_lt m hm) hf
  rw [lt_cx_s.2.1] at hcx
  refine va_newq hx hb hown (hts _ hcx) hK.2.2.2.2.1 hK.1 hR.1 hR.2.1 hS hA (lt_nneg hn.1) rfl (by omega) (by omega) (by show slots + lt_n n ≤ R.slots; omega) hd fun b cA H1 hK1 hP1 hD1 hS1 => ?_
  have hcA : cA = G 6 := by
    obtain ⟨-, -, -, -, -, e1⟩ := (hK1.2 8 (cA, .object "Cachebench$Cache") rfl).2
    obtain ⟨-, -, -, -, -, e2⟩ := (hK.1.2 5 (G 6, .object "Cachebench$Cache") rfl).2
    exact Option.some.inj (e1.symm.trans e2)
  subst hcA
  have hR1 := hR.new (k := 6) (zl := lt_n n) (n := lt_n n) hS hS1 h0 (by omega) (by rw [lt_E58 (by rw [aNew_K]; omega) (by rw [aNew_K]; omega), aNew_K, aNew_Z, aNew_P]; rfl) hP1 hD1
  have hup : ∀ j, j < mN M → va_up ad (mN M) b j = ad j := fun j hj => if_neg (by omega)
  have go := h.2 (va_up ad (mN M) b) H1 locs (cells + 1) (slots + lt_n n) lsM hR1 hS1 (hL.up (Nat.le_succ _) hup) (fun v hv => (List.mem_cons.mp hv).elim (fun e => by rw [e]; exact Nat.lt_succ_self _) (fun hv => lt_ok.up (Nat.le_succ _) (hst v (List.mem_cons_of_mem _ hv))))
    (by show cells + 1 + (mC z.2 - (mC M + 1)) ≤ mc; omega) (by show slots + lt_n n + (mS z.2 - (mS M + lt_n n)) ≤ ms; omega) (fun k hk => by rw [hup k (by omega)]; exact ha k hk) (Nat.le_succ_of_le hn0) (by rw [hup 0 (by have := hR.2.2.2.2.2.2.2; omega)]; exact h0)
  have e1 : (Value.ref (mN M) :: r).map (lt_v (va_up ad (mN M) b)) = .ref b :: r.map (lt_v ad) := by
    rw [List.map_cons, lt_vs.up hup (fun v hv => hst v (List.mem_cons_of_mem _ hv))]
    show Value.ref (va_up ad (mN M) b (mN M)) :: _ = _
    rw [show va_up ad (mN M) b (mN M) = b from if_pos rfl]
  rw [e1] at go
  exact go
theorem v_anewarray8 {n : Int32} {idx : Nat} (hC : lt_C X m) (hmc : lt_rm X q) (hd : decode (lt_by m) pc = .ok (.anewarray idx, 3)) (hf : lt_find (lt_cls (lt_inf m).1) idx = some 12) (hn : 0 ≤ n.toInt ∧ n.toInt ≤ 65536) (h : lt_V X m z q (pc + 3) ls (.ref (mN M) :: r) (aNew M 8 (lt_n n) (lt_n n))) : lt_V X m z q pc ls (.int n :: r) M := by
  obtain ⟨p, l, e, R, s, mid, args, below, meth, c, D, G, A⟩ := X
  obtain ⟨n0, ad0, mc, ms⟩ := q
  obtain ⟨hx, hb, hml, hown, hts, hr, hlk, hm, hi, htb, hl, hK, hZ, hA⟩ := hC
  have hge : lt_ge M z.2 := lt_ge.tr (M' := aNew M 8 (lt_n n) (lt_n n)) ⟨Nat.le_succ _, Nat.le_add_right _ _, Nat.le_succ _⟩ h.1
  have h1c : mC M + 1 ≤ mC z.2 := h.1.1
  have h1s : mS M + lt_n n ≤ mS z.2 := h.1.2.1
  have g1 : mc ≤ R.cells := hmc.1
  have g2 : ms ≤ R.slots := hmc.2
  have hn5 : n.toNatClampNeg ≤ 65536 := lt_nle hn.2
  refine ⟨hge, fun ad H locs cells slots lsM hR hS hL hst hc hs ha hn0 h0 => ?_⟩
  have hcx := lt_cls_spec (lt_own_lt m hm) hf
  rw [lt_cx_s.2.2.1] at hcx
  refine va_newq hx hb hown (hts _ hcx) hK.2.2.2.2.2.2 hK.1 hR.1 hR.2.1 hS hA (lt_nneg hn.1) rfl (by omega) (by omega) (by show slots + lt_n n ≤ R.slots; omega) hd fun b cA H1 hK1 hP1 hD1 hS1 => ?_
  have hcA : cA = G 8 := by
    obtain ⟨-, -, -, -, -, e1⟩ := (hK1.2 8 (cA, .object "CachebenchLaw$Plain") rfl).2
    obtain ⟨-, -, -, -, -, e2⟩ := (hK.1.2 7 (G 8, .object "CachebenchLaw$Plain") rfl).2
    exact Option.some.inj (e1.symm.trans e2)
  subst hcA
  have hR1 := hR.new (k := 8) (zl := lt_n n) (n := lt_n n) hS hS1 h0 (by omega) (by rw [lt_E58 (by rw [aNew_K]; omega) (by rw [aNew_K]; omega), aNew_K, aNew_Z, aNew_P]; rfl) hP1 hD1
  have hup : ∀ j, j < mN M → va_up ad (mN M) b j = ad j := fun j hj => if_neg (by omega)
  have go := h.2 (va_up ad (mN M) b) H1 locs (cells + 1) (slots + lt_n n) lsM hR1 hS1 (hL.up (Nat.le_succ _) hup) (fun v hv => (List.mem_cons.mp hv).elim (fun e => by rw [e]; exact Nat.lt_succ_self _) (fun hv => lt_ok.up (Nat.le_succ _) (hst v (List.mem_cons_of_mem _ hv))))
    (by show cells + 1 + (mC z.2 - (mC M + 1)) ≤ mc; omega) (by show slots + lt_n n + (mS z.2 - (mS M + lt_n n)) ≤ ms; omega) (fun k hk => by rw [hup k (by omega)]; exact ha k hk) (Nat.le_succ_of_le hn0) (by rw [hup 0 (by have := hR.2.2.2.2.2.2.2; omega)]; exact h0)
  have e1 : (Value.ref (mN M) :: r).map (lt_v (va_up ad (mN M) b)) = .ref b :: r.map (lt_v ad) := by
    rw [List.map_cons, lt_vs.up hup (fun v hv => hst v (List.mem_cons_of_mem _ hv))]
    show Value.ref (va_up ad (mN M) b (mN M)) :: _ = _
    rw [show va_up ad (mN M) b (mN M) = b from if_pos rfl]
  rw [e1] at go
  exact go
/-- the tables say of an array of arrays: what its rows' class is -/
theorem lt_rowsK {D : va_G} {G : Nat → ClassId} {s : State} (hK : lt_K D G s) {k : Nat} {t : FieldType} (hk : k = 7 ∧ t = .int) : ∃ (kA kC : Class), s.vm.classes[G k]? = some kA ∧ kA.kind = .array (G (lt_el k)) (.array t) ∧ s.vm.classes[G (lt_el k)]? = some kC ∧ ∃ comp, kC.kind = .array comp t := by
  obtain ⟨rfl, rfl⟩ := hk
  · obtain ⟨comp, c, kc, h1, -, h3, h4, h5⟩ := arrayOver_specB hK.2.2.2.2.2.1
    have e1 : s.vm.findClass ("[" ++ (FieldType.int).toString) = some (G 1) := (hK.1.2 0 (G 1, .int) rfl).2
    have e2 : s.vm.findClass ("[" ++ (FieldType.array .int).toString) = some (G 7) := (hK.1.2 6 (G 7, .array .int) rfl).2
    have hc : c = G 7 := Option.some.inj (h5.symm.trans e2)
    have hcomp : comp = G 1 := Option.some.inj (h1.symm.trans e1)
    subst hc; subst hcomp
    obtain ⟨-, k1, hk1, cm1, hkk1⟩ := (hK.1.2 0 (G 1, .int) rfl).1 0 (fun _ => .null)
    exact ⟨kc, k1, h3, h4, hk1, cm1, hkk1⟩
theorem lt_asg {s : State} {c : ClassId} : s.vm.assignable c c = true := by
  show ((c == c) || _) = true
  rw [beq_self_eq_true]
  rfl
/-- where a cell of a kind of element lies, and that its class is a class -/
theorem lt_elK {D : va_G} {G : Nat → ClassId} {A : Nat → Prop} {ad : Nat → Nat} {s : State} {H : Heap} (hK : lt_K D G s) (hR : lt_R D G A ad M s H) {k b : Nat} (h5 : 5 ≤ k ∧ k ≤ 8) (hb : mK M b = lt_el k) : ∃ (kA kC : Class) (comp : ClassId) (ty : FieldType) (cv : Cell), s.vm.classes[G k]? = some kA ∧ kA.kind = .array comp ty ∧ ty.isReference = true ∧ s.vm.classes[comp]? = some kC ∧ H[ad b]? = some cv ∧ (∀ q, cv.vm ≠ .statics q) ∧ cv.cls = comp := by
  rcases (show k = 5 ∨ k = 6 ∨ k = 7 ∨ k = 8 by omega) with rfl | rfl | rfl | rfl
  · have hk : mK M b = 16 + 0 := hb
    have hat := hR.at (a := b) (by omega) (by omega)
    rw [lt_EO hk] at hat
    obtain ⟨r', hr', cv, g1, g2, g3, -⟩ := hR.1 (b - 1) _ hat
    obtain ⟨kA, comp, k1, k2, k3, -⟩ := (hK.1.2 4 (G 5, .object "Cachebench$Bench") rfl).2
    have hcls := (hK.1.1 0 _ rfl).2
    have hcomp : comp = D.1 0 := Option.some.inj (k3.symm.trans hcls.1)
    subst hcomp
    obtain ⟨kC, hkC, -⟩ := hcls.2
    exact ⟨kA, kC, _, _, cv, k1, k2, rfl, hkC, g1, (fun q e => by rw [g3] at e; cases e), g2⟩
  · have hk : mK M b = 16 + 1 := hb
    have hat := hR.at (a := b) (by omega) (by omega)
    rw [lt_EO hk] at hat
    obtain ⟨r', hr', cv, g1, g2, g3, -⟩ := hR.1 (b - 1) _ hat
    obtain ⟨kA, comp, k1, k2, k3, -⟩ := (hK.1.2 5 (G 6, .object "Cachebench$Cache") rfl).2
    have hcls := (hK.1.1 1 _ rfl).2
    have hcomp : comp = D.1 1 := Option.some.inj (k3.symm.trans hcls.1)
    subst hcomp
    obtain ⟨kC, hkC, -⟩ := hcls.2
    exact ⟨kA, kC, _, _, cv, k1, k2, rfl, hkC, g1, (fun q e => by rw [g3] at e; cases e), g2⟩
  · have hk : mK M b = 1 := hb
    have hat := hR.at (a := b) (by omega) (by omega)
    rw [lt_E1 hk] at hat
    obtain ⟨kA, kC, k1, k2, k3, comp, k4⟩ := lt_rowsK hK (k := 7) (t := .int) ⟨rfl, rfl⟩
    exact ⟨kA, kC, _, _, _, k1, k2, rfl, k3, hR.1 (b - 1) _ hat, fun q e => (by cases e), rfl⟩
  · have hk : mK M b = 16 + 12 := hb
    have hat := hR.at (a := b) (by omega) (by omega)
    rw [lt_EO hk] at hat
    obtain ⟨r', hr', cv, g1, g2, g3, -⟩ := hR.1 (b - 1) _ hat
    obtain ⟨kA, comp, k1, k2, k3, -⟩ := (hK.1.2 7 (G 8, .object "CachebenchLaw$Plain") rfl).2
    have hcls := (hK.1.1 12 _ rfl).2
    have hcomp : comp = D.1 12 := Option.some.inj (k3.symm.trans hcls.1)
    subst hcomp
    obtain ⟨kC, hkC, -⟩ := hcls.2
    exact ⟨kA, kC, _, _, cv, k1, k2, rfl, hkC, g1, (fun q e => by rw [g3] at e; cases e), g2⟩
theorem v_aastore {b : Nat} (hC : lt_C X m) (hd : decode (lt_by m) pc = .ok (.aastore, 1)) (hk : 5 ≤ mK M a ∧ mK M a ≤ 8) (hin : 0 ≤ i.toInt ∧ i.toInt < (mZ M a : Int)) (hbk : mK M b = lt_el (mK M a)) (h : lt_V X m z q (pc + 1) ls r (wP M a (lt_n i) (some b))) : lt_V X m z q pc ls (.ref b :: .int i :: .ref a :: r) M := by
  obtain ⟨p, l, e, R, s, mid, args, below, meth, c, D, G, A⟩ := X
  obtain ⟨n0, ad0, mc, ms⟩ := q
  obtain ⟨hx, hb, hml, hown, hts, hr, hlk, hm, hi, htb, hl, hK, hZ, hA⟩ := hC
  refine ⟨h.1, fun ad H locs cells slots lsM hR hS hL hst hc hs ha hn h0 => ?_⟩
  have hpos := hR.pos (a := a) (by omega) (by omega)
  have hat := hR.at (a := a) (by omega) (by omega)
  have hbk0 : mK M b ≠ 0 ∧ mK M b ≠ 9 := by
    rw [hbk]
    rcases (show mK M a = 5 ∨ mK M a = 6 ∨ mK M a = 7 ∨ mK M a = 8 by omega) with e | e | e | e <;> rw [e] <;> decide
  have hposb := hR.pos (a := b) hbk0.1 hbk0.2
  rw [lt_E58 hk.1 hk.2] at hat
  obtain ⟨kA, kC, comp, ty, cv, k1, k2, k3, k4, k5, k6, k7⟩ := lt_elK hK hR hk hbk
  have hvin := lt_vin hin
  have hlt : i.toNatClampNeg < mZ M a := Nat.not_le.mp fun q => hvin (Or.inr q)
  have he : lt_E G ad (wP M a (lt_n i) (some b)) a = .inl (G (mK M a), mZ M a, .inr (.inr (.inr (.inr (va_up (fun j => (mP M a j).map ad) i.toNatClampNeg (some (ad b))))))) := by
    rw [lt_E58 (M := wP M a (lt_n i) (some b)) hk.1 hk.2]
    have : (fun j => (mP (wP M a (lt_n i) (some b)) a j).map ad) = va_up (fun j => (mP M a j).map ad) i.toNatClampNeg (some (ad b)) := funext fun j => by
      show (if a = a ∧ j = lt_n i then some b else mP M a j).map ad = if j = i.toNatClampNeg then some (ad b) else (mP M a j).map ad
      by_cases hj : j = lt_n i
      · rw [if_pos ⟨rfl, hj⟩, if_pos (show j = i.toNatClampNeg from hj)]; rfl
      · rw [if_neg (fun e => hj e.2), if_neg (show ¬ j = i.toNatClampNeg from hj)]
    rw [this]
    rfl
  have hws := lt_ws_set (G := G) (ad := ad) (M := M) (M' := wP M a (lt_n i) (some b)) hpos.1 rfl (fun j hj => lt_E_congr rfl rfl rfl rfl (mP_wP_ne hj) rfl) he
  refine W.aast hx hb (hR.1 (a - 1) _ hat) (fun q h => by cases h) (fun h => by cases h) k1 k2 k3 k4 ⟨lt_nneg hin.1, by show _ < (arrV _ _ _).slots.size; rw [arrV_size]; exact hlt⟩ k5 k6 (by rw [k7]; exact k4) (by rw [k7]; exact lt_asg) rfl rfl hd fun H1 e9 z9 oq => ?_
  have hP1 := hR.1.set hR.2.1 hat (e := .inl (G (mK M a), mZ M a, .inr (.inr (.inr (.inr (va_up (fun j => (mP M a j).map ad) i.toNatClampNeg (some (ad b)))))))) (by
    show H1[ad a]? = some (vp_cell _ _)
    rw [e9]
    rw [vp_cell_q, vp_cell_q, arrV_store]
    congr 2
    funext q9
    by_cases hq : q9 = i.toNatClampNeg
    · subst hq
      simp [updV, va_up, va_rf]
    · simp [updV, va_up, hq]) oq
  have hD1 := hR.2.1.set (e := .inl (G (mK M a), mZ M a, .inr (.inr (.inr (.inr (va_up (fun j => (mP M a j).map ad) i.toNatClampNeg (some (ad b)))))))) hat
  have hS1 := hS.put z9 oq (hR.2.1.2 (a - 1) _ hat) (k := i.toNatClampNeg)
  rw [hws] at hP1 hD1
  refine h.2 ad H1 _ cells slots lsM (hR.upd hS hS1 h0 rfl (fun _ => rfl) rfl rfl (fun i1 j1 q1 h1 => ?_) hP1 hD1) hS1 hL (fun w hw => hst w (List.mem_cons_of_mem _ (List.mem_cons_of_mem _ (List.mem_cons_of_mem _ hw)))) hc hs ha hn h0
  have h1' : (if i1 = a ∧ j1 = lt_n i then some b else mP M i1 j1) = some q1 := h1
  split at h1'
  · cases h1'; exact ⟨Nat.zero_le _, hposb.2⟩
  · exact hR.2.2.2.2.1 i1 j1 q1 h1'

/-- many cells come in behind -/
theorem lt_ws_pushN {G : Nat → ClassId} {ad ad' : Nat → Nat} {M M' : LM} {w : Nat} (h1 : 1 ≤ mN M) (hn : mN M' = mN M + w) (ho : ∀ j, j < mN M → ad' j = ad j ∧ lt_E G ad' M' j = lt_E G ad M j) : lt_ws G ad M ++ (List.range w).map (fun i => (ad' (mN M + i), lt_E G ad' M' (mN M + i))) = lt_ws G ad' M' := by
  apply List.ext_getElem?
  intro j
  by_cases hl : j < mN M - 1
  · rw [List.getElem?_append_left (by rw [lt_ws_len]; exact hl)]
    have g1 := lt_ws_get (G := G) (ad := ad) (M := M) (k := j + 1) (by omega) (by omega)
    have g2 := lt_ws_get (G := G) (ad := ad') (M := M') (k := j + 1) (by omega) (by omega)
    rw [Nat.add_sub_cancel] at g1 g2
    rw [g1, g2, (ho (j + 1) (by omega)).1, (ho (j + 1) (by omega)).2]
  · rw [List.getElem?_append_right (by rw [lt_ws_len]; omega), lt_ws_len, List.getElem?_map]
    by_cases hj : j - (mN M - 1) < w
    · have g2 := lt_ws_get (G := G) (ad := ad') (M := M') (k := j + 1) (by omega) (by omega)
      rw [Nat.add_sub_cancel] at g2
      rw [List.getElem?_range hj, g2, Option.map_some]
      rw [show mN M + (j - (mN M - 1)) = j + 1 by omega]
    · rw [List.getElem?_eq_none (by rw [List.length_range]; omega), List.getElem?_eq_none (by rw [lt_ws_len]; omega)]
      rfl
theorem lt_E_old {G : Nat → ClassId} {ad ad' : Nat → Nat} {M M' : LM} {n j : Nat} (hup : ∀ j, j < n → ad' j = ad j) (hP : ∀ i q, mP M j i = some q → q < n) (e1 : mK M' j = mK M j) (e2 : mZ M' j = mZ M j) (e3 : mI M' j = mI M j) (e4 : mL M' j = mL M j) (e5 : mP M' j = mP M j) (e6 : mD M' j = mD M j) : lt_E G ad' M' j = lt_E G ad M j := by
  rw [lt_E_congr (M := M) (M' := M') e1 e2 e3 e4 e5 e6]
  have em : ∀ i, (mP M j i).map ad' = (mP M j i).map ad := fun i => by
    cases hp : mP M j i with
    | none => rfl
    | some x => rw [Option.map_some, Option.map_some, hup x (hP i x hp)]
  have eF : ∀ c, lt_F ad' M j c = lt_F ad M j c := fun c => funext fun i => by unfold lt_F; rw [em]
  unfold lt_E
  split <;> first | rfl | rw [eF] | simp only [em]
theorem lt_P_many {D : va_G} {cl : List vw_C} {Y : va_W} {H F : Heap} {w : Nat} {ea : Nat → Nat} {es : Nat → va_E} (hea : ∀ i, i < w → ea i = H.size + i) (hP : va_P D cl Y H) (hold : ∀ x, x < H.size → F[x]? = H[x]?) (hn : ∀ i, i < w → va_at D cl (H.size + i, es i) F) : va_P D cl (Y ++ (List.range w).map fun i => (ea i, es i)) F := by
  refine (hP.kept (fun k9 x hx => hold x.1 ((hP k9 x hx).lt))).app (fun k9 x hx => ?_)
  obtain ⟨i9, hi, rfl⟩ := List.mem_map.mp (List.mem_of_getElem? hx)
  have hi' := List.mem_range.mp hi
  rw [hea i9 hi']
  exact hn i9 hi'
theorem lt_D_many {D : va_G} {cl : List vw_C} {A : Nat → Prop} {Y : va_W} {H : Heap} {w : Nat} {ea : Nat → Nat} {es : Nat → va_E} (hea : ∀ i, i < w → ea i = H.size + i) (hP : va_P D cl Y H) (hD : va_D A Y) (hA : ∀ q, H.size ≤ q → A q) : va_D A (Y ++ (List.range w).map fun i => (ea i, es i)) := by
  have hr : ∀ (k9 : Nat) (x : Nat × va_E), ((List.range w).map fun i => ((ea i, es i) : Nat × va_E))[k9]? = some x → x.1 = H.size + k9 := fun k9 x hx => by
    rw [List.getElem?_map] at hx
    by_cases h9 : k9 < w
    · rw [List.getElem?_range h9] at hx
      cases hx
      exact hea k9 h9
    · rw [List.getElem?_eq_none (by rw [List.length_range]; omega)] at hx
      cases hx
  refine ⟨fun i j x y hi hj hxy => ?_, fun k9 x hx => ?_⟩
  · by_cases h1 : i < Y.length <;> by_cases h2 : j < Y.length
    · rw [List.getElem?_append_left h1] at hi
      rw [List.getElem?_append_left h2] at hj
      exact hD.1 i j x y hi hj hxy
    · rw [List.getElem?_append_left h1] at hi
      rw [List.getElem?_append_right (by omega)] at hj
      have := (hP _ _ hi).lt
      have := hr _ _ hj
      omega
    · rw [List.getElem?_append_right (by omega)] at hi
      rw [List.getElem?_append_left h2] at hj
      have := (hP _ _ hj).lt
      have := hr _ _ hi
      omega
    · rw [List.getElem?_append_right (by omega)] at hi hj
      have := hr _ _ hi
      have := hr _ _ hj
      omega
  · by_cases h1 : k9 < Y.length
    · rw [List.getElem?_append_left h1] at hx
      exact hD.2 k9 x hx
    · rw [List.getElem?_append_right (by omega)] at hx
      have := hr _ _ hx
      exact hA _ (by omega)
section LMul
variable {M : LM} {ko ki n k : Nat}
theorem aMul_o {α : Type} {f : Nat → α} {g : α} {j : Nat} (h : j < mN M) : (if mN M ≤ j ∧ j ≤ mN M + n then g else f j) = f j := if_neg (by omega)
theorem aMul_oI {j : Nat} (h : j < mN M) : mI (aMul M ko ki n k) j = mI M j := if_neg (by omega)
theorem aMul_oL {j : Nat} (h : j < mN M) : mL (aMul M ko ki n k) j = mL M j := if_neg (by omega)
theorem aMul_oD {j : Nat} (h : j < mN M) : mD (aMul M ko ki n k) j = mD M j := if_neg (by omega)
theorem aMul_P {b : Nat} : mP (aMul M ko ki n k) b = if b = mN M then fun i => if i < n then some (mN M + 1 + i) else none else if mN M ≤ b ∧ b ≤ mN M + n then fun _ => none else mP M b := rfl
theorem aMul_K {b : Nat} : mK (aMul M ko ki n k) b = if b = mN M then ko else if mN M ≤ b ∧ b ≤ mN M + n then ki else mK M b := rfl
theorem aMul_Z {b : Nat} : mZ (aMul M ko ki n k) b = if b = mN M then n else if mN M ≤ b ∧ b ≤ mN M + n then k else mZ M b := rfl
theorem aMul_I {b : Nat} : mI (aMul M ko ki n k) b = if mN M ≤ b ∧ b ≤ mN M + n then fun _ => 0 else mI M b := rfl
theorem aMul_oP {j : Nat} (h : j < mN M) : mP (aMul M ko ki n k) j = mP M j := by rw [aMul_P, if_neg (by omega), if_neg (by omega)]
theorem aMul_oK {j : Nat} (h : j < mN M) : mK (aMul M ko ki n k) j = mK M j := by rw [aMul_K, if_neg (by omega), if_neg (by omega)]
theorem aMul_oZ {j : Nat} (h : j < mN M) : mZ (aMul M ko ki n k) j = mZ M j := by rw [aMul_Z, if_neg (by omega), if_neg (by omega)]
end LMul
theorem v_multi7 {n k : Int32} {idx : Nat} (hC : lt_C X m) (hmc : lt_rm X q) (hd : decode (lt_by m) pc = .ok (.multianewarray idx 2, 4)) (hf : lt_find (lt_cls (lt_inf m).1) idx = some 207) (hn : 0 ≤ n.toInt ∧ n.toInt ≤ 65536) (hk : 0 ≤ k.toInt ∧ k.toInt ≤ 65536) (h : lt_V X m z q (pc + 4) ls (.ref (mN M) :: r) (aMul M 7 1 (lt_n n) (lt_n k))) : lt_V X m z q pc ls (.int k :: .int n :: r) M := by
  obtain ⟨p, l, e, R, s, mid, args, below, meth, c, D, G, A⟩ := X
  obtain ⟨n0, ad0, mc, ms⟩ := q
  obtain ⟨hx, hb, hml, hown, hts, hr, hlk, hm, hi, htb, hl, hK, hZ, hA⟩ := hC
  have hge : lt_ge M z.2 := lt_ge.tr (M' := aMul M 7 1 (lt_n n) (lt_n k)) ⟨Nat.le_add_right _ _, Nat.le_add_right _ _, by show mN M ≤ mN M + 1 + lt_n n; omega⟩ h.1
  have h1c : mC M + (1 + lt_n n) ≤ mC z.2 := h.1.1
  have h1s : mS M + (lt_n n + lt_n n * lt_n k) ≤ mS z.2 := h.1.2.1
  have g1 : mc ≤ R.cells := hmc.1
  have g2 : ms ≤ R.slots := hmc.2
  have hn5 : n.toNatClampNeg ≤ 65536 := lt_nle hn.2
  have hk5 : k.toNatClampNeg ≤ 65536 := lt_nle hk.2
  refine ⟨hge, fun ad H locs cells slots lsM hR hS hL hst hc hs ha hn0 h0 => ?_⟩
  have hcx := lt_cls_spec (lt_own_lt m hm) hf
  rw [lt_cx_s.2.2.2] at hcx
  intro T hT Xs
  obtain ⟨vm₁, cA, comp, -, fA, fC, hO, -, X', step⟩ := Xs.multianewarray2F hx hown (ty := .int) (hts _ hcx) (lt_AO.use hK.2.2.2.2.2.1) (hts _ lt_ac_int) (g := F0 mid pc lsM ((Value.int k :: .int n :: r).map (lt_v ad))) rfl (by rw [hb]; exact hd) rfl (lt_nneg hn.1) (lt_nneg hk.1) (by omega) (by show k.toNatClampNeg * 4 ≤ 536870912; omega) (by omega) rfl rfl (by show cells + (1 + lt_n n) ≤ R.cells; omega) (by show slots + (lt_n n + lt_n n * lt_n k) ≤ R.slots; omega)
  have hcA : cA = G 7 := by
    have e2 : s.vm.findClass ("[" ++ (FieldType.array .int).toString) = some (G 7) := (hK.1.2 6 (G 7, .array .int) rfl).2
    exact Option.some.inj (fA.symm.trans e2)
  have hcC : comp = G 1 := by
    have e2 : s.vm.findClass ("[" ++ (FieldType.int).toString) = some (G 1) := (hK.1.2 0 (G 1, .int) rfl).2
    exact Option.some.inj (fC.symm.trans e2)
  subst hcA; subst hcC
  generalize hF : Jvm.Free.Multi.fill (T.setVm vm₁) (G 7) (G 1) n.toNatClampNeg k.toNatClampNeg (defaultValue .int) n.toNatClampNeg = F at X' step
  have hTh : (T.setVm vm₁).heap = H := hT
  obtain ⟨f1, f2, -, -⟩ := Jvm.Free.Multi.fill_facts (T.setVm vm₁) (G 7) (G 1) n.toNatClampNeg k.toNatClampNeg (defaultValue .int) n.toNatClampNeg
  rw [hF, hTh] at f1 f2
  have hold : ∀ x : Nat, x < H.size → F.heap[x]? = H[x]? := fun x hx => by
    have := Jvm.Free.Multi.fill_old (T.setVm vm₁) (G 7) (G 1) n.toNatClampNeg k.toNatClampNeg (defaultValue .int) (a := x) (by rw [hTh]; exact hx) n.toNatClampNeg
    rw [hF, hTh] at this
    exact this
  have hz : Jvm.Free.Multi.innerC (G 1) k.toNatClampNeg (defaultValue .int) = vp_cell (G 1) (lt_n k, .inl fun _ => 0) := by rw [vp_cell_i, ← arrV_new]; rfl
  have hrow : ∀ j : Nat, j < n.toNatClampNeg → F.heap[H.size + 1 + j]? = some (vp_cell (G 1) (lt_n k, .inl fun _ => 0)) := fun j hj => by
    have := Jvm.Free.Multi.fill_inner (T.setVm vm₁) (G 7) (G 1) n.toNatClampNeg k.toNatClampNeg (defaultValue .int) n.toNatClampNeg j hj
    rw [hF, hTh, hz] at this
    exact this
  have hout : Jvm.Free.Multi.outerC (G 7) n.toNatClampNeg H.size n.toNatClampNeg = vp_cell (G 7) (n.toNatClampNeg, .inr (.inr (.inr (.inr (fun i => if i < n.toNatClampNeg then some (H.size + 1 + i) else none))))) := by
    rw [vp_cell_q]
    exact vr_outer (G 7) n.toNatClampNeg H.size n.toNatClampNeg
  rw [hout] at f2
  generalize hM' : aMul M 7 1 (lt_n n) (lt_n k) = M' at h
  have hm0 : 1 ≤ mN M := hR.2.2.2.2.2.2.2
  let ad' : Nat → Nat := fun j => if j < mN M then ad j else H.size + (j - mN M)
  have hup : ∀ j, j < mN M → ad' j = ad j := fun j hj => if_pos hj
  have hnw : ∀ i, ad' (mN M + i) = H.size + i := fun i => (if_neg (by omega)).trans (by rw [Nat.add_sub_cancel_left])
  have hN' : mN M' = mN M + (1 + lt_n n) := by rw [← hM']; show mN M + 1 + lt_n n = _; omega
  have hE : ∀ j, j < mN M → lt_E G ad' M' j = lt_E G ad M j := fun j hj => by
    subst hM'
    exact lt_E_old (n := mN M) hup (fun i x h => (hR.2.2.2.2.1 j i x h).2) (aMul_oK hj) (aMul_oZ hj) (aMul_oI hj) (aMul_oL hj) (aMul_oP hj) (aMul_oD hj)
  have hws := lt_ws_pushN (G := G) (ad := ad) (ad' := ad') (M := M) (M' := M') (w := 1 + lt_n n) hm0 hN' (fun j hj => ⟨hup j hj, hE j hj⟩)
  have hnews : ∀ i, i < 1 + lt_n n → va_at D vwCl (H.size + i, lt_E G ad' M' (mN M + i)) F.heap := by
    intro i hi
    subst hM'
    rcases Nat.eq_zero_or_pos i with e0 | e0
    · subst e0
      have eK : mK (aMul M 7 1 (lt_n n) (lt_n k)) (mN M + 0) = 7 := by rw [aMul_K, if_pos (by omega)]
      rw [lt_E58 (by rw [eK]; omega) (by rw [eK]; omega), eK, aMul_Z, if_pos (by omega), aMul_P, if_pos (by omega)]
      show F.heap[H.size + 0]? = some (vp_cell _ _)
      rw [Nat.add_zero, f2]
      congr 2
      refine Prod.ext rfl ?_
      show Sum.inr (Sum.inr (Sum.inr (Sum.inr _))) = Sum.inr (Sum.inr (Sum.inr (Sum.inr _)))
      congr 4
      funext i9
      by_cases h9 : i9 < n.toNatClampNeg
      · rw [if_pos h9, if_pos (show i9 < lt_n n from h9), Option.map_some]
        congr 1
        have := hnw (1 + i9)
        rw [← Nat.add_assoc] at this
        rw [this]
        omega
      · rw [if_neg h9, if_neg (show ¬ i9 < lt_n n from h9)]; rfl
    · have eK : mK (aMul M 7 1 (lt_n n) (lt_n k)) (mN M + i) = 1 := by rw [aMul_K, if_neg (by omega), if_pos (by omega)]
      rw [lt_E1 eK, aMul_Z, if_neg (by omega), if_pos (by omega), aMul_I, if_pos (by omega)]
      have h9 := hrow (i - 1) (by show i - 1 < lt_n n; omega)
      rw [show H.size + 1 + (i - 1) = H.size + i by omega] at h9
      exact h9
  have hP1 := lt_P_many (w := 1 + lt_n n) (ea := fun i => ad' (mN M + i)) (es := fun i => lt_E G ad' M' (mN M + i)) (fun i _ => hnw i) hR.1 hold hnews
  have hD1 := lt_D_many (w := 1 + lt_n n) (ea := fun i => ad' (mN M + i)) (es := fun i => lt_E G ad' M' (mN M + i)) (fun i _ => hnw i) hR.1 hR.2.1 (fun q hq => hA q (Nat.le_trans hS.1 hq))
  rw [hws] at hP1 hD1
  have hS1 : va_S A s.heap F.heap locs := ⟨by rw [f1]; have := hS.1; omega, fun x h1 h2 => (hold x (Nat.lt_of_lt_of_le h1 hS.1)).trans (hS.2.1 x h1 h2), hS.2.2⟩
  have hR1 : lt_R D G A ad' M' s F.heap := by
    have e0 : ad' 0 = ad 0 := hup 0 (by omega)
    refine ⟨hP1, hD1, ?_, ⟨?_, ?_⟩, fun i j x h => ?_, fun i h => ?_, ?_, ?_⟩
    · rw [e0, ← hM', aMul_oZ (by omega), aMul_oI (by omega)]
      exact hR.2.2.1.kept (lt_X_step hR hS hS1 h0)
    · rw [e0]; exact hR.2.2.2.1.1
    · rw [e0]; exact Nat.lt_of_lt_of_le h0 hS1.1
    · rw [hN']
      rw [← hM', aMul_P] at h
      split at h
      · dsimp only at h
        split at h
        · next h8 => cases h; omega
        · cases h
      · split at h
        · cases h
        · have := hR.2.2.2.2.1 i j x h
          omega
    · rw [hN']
      rw [← hM', aMul_K] at h
      split at h
      · omega
      · split at h
        · omega
        · have := hR.2.2.2.2.2.1 i h
          omega
    · rw [← hM', aMul_oK (by omega)]; exact hR.2.2.2.2.2.2.1
    · rw [hN']; omega
  have go := h.2 ad' F.heap locs (cells + 1 + n.toNatClampNeg) (slots + n.toNatClampNeg + n.toNatClampNeg * k.toNatClampNeg) lsM hR1 hS1 (hL.up (by rw [hN']; omega) hup) (fun v hv => (List.mem_cons.mp hv).elim (fun e => by rw [e, hN']; show mN M < mN M + (1 + lt_n n); omega) (fun hv => lt_ok.up (by rw [hN']; omega) (hst v (List.mem_cons_of_mem _ (List.mem_cons_of_mem _ hv)))))
    (by rw [← hM']; show cells + 1 + lt_n n + (mC z.2 - (mC M + (1 + lt_n n))) ≤ mc; omega) (by rw [← hM']; show slots + lt_n n + lt_n n * lt_n k + (mS z.2 - (mS M + (lt_n n + lt_n n * lt_n k))) ≤ ms; omega) (fun k hk => by rw [hup k (by omega)]; exact ha k hk) (by rw [hN']; omega) (by rw [hup 0 (by omega)]; exact h0)
  have e1 : (Value.ref (mN M) :: r).map (lt_v ad') = .ref H.size :: r.map (lt_v ad) := by
    rw [List.map_cons, lt_vs.up hup (fun v hv => hst v (List.mem_cons_of_mem _ (List.mem_cons_of_mem _ hv)))]
    show Value.ref (ad' (mN M)) :: _ = _
    rw [show ad' (mN M) = H.size from hnw 0]
  rw [e1] at go
  obtain ⟨t, a1, b1⟩ := go F rfl X'
  refine ⟨t, step t ?_, b1⟩
  have e : T.heap.size = H.size := by rw [hT]
  rw [e]
  exact a1
end VA3
