/-! ONE STEP of the little machine is a step of the machine: instructions that leave the memory (rows laid by wip/p50/gen13.py) -/
def lt_N (U : State) : Prop := ∀ w ∈ lt_nws, w.before #[] U = true
theorem lt_N.warm {s U : State} (hW : s.WarmedH U.vm) (h : lt_N s) : lt_N U := by
  intro w hw
  have h1 := h w hw
  have h2 := (List.mem_filter.mp hw).2
  unfold lt_isN at h2
  split at h2
  · exact va_Nw.warmM hW h1
  · exact va_Nw.warmD hW h1
  · exact va_Nw.warmC hW h1
  · exact va_Nw.warmF hW h1
  · cases h2
theorem lt_N.same {u U : State} (h : u.vm = U.vm) (hN : lt_N u) : lt_N U := by
  intro w hw
  have h1 := hN w hw
  have h2 := (List.mem_filter.mp hw).2
  unfold lt_isN at h2
  split at h2
  · exact va_Nw.same rfl h h1
  · exact va_Nw.same rfl h h1
  · exact va_Nw.same rfl h h1
  · exact va_Nw.same rfl h h1
  · cases h2
def lt_AO (ty : FieldType) (U : State) : Prop := (Cond.arrayOver ty).before #[] U = true
theorem lt_AO.moved {ty : FieldType} {u U : State} (hvm : u.vm.Alike U.vm) (h : lt_AO ty u) : lt_AO ty U := (show (Cond.arrayOver ty).before #[] (u.setVm U.vm) = true by rw [Cond.arrayOver_setVmC hvm]; exact h)
theorem lt_AO.use {ty : FieldType} {a : Array Value} {U : State} (h : lt_AO ty U) : (Cond.arrayOver ty).before a U = true := h
def lt_AOs (U : State) : Prop := lt_AO (.object "Cachebench$Bench") U ∧ lt_AO (.object "Cachebench$Cache") U ∧ lt_AO (.array .int) U ∧ lt_AO (.object "CachebenchLaw$Plain") U
def lt_K (D : va_G) (G : Nat → ClassId) (U : State) : Prop := va_K D vwCl (lt_tys G) U ∧ lt_N U ∧ (∀ e e' : Nat, e < 4 → e' < 4 → e ≠ e' → (∃ m, m < 150 ∧ lt_hh m ≠ []) → va_Nc (lt_en e) (lt_en e') U) ∧ lt_AOs U
theorem lt_K.warm {D : va_G} {G : Nat → ClassId} {s U : State} (hW : s.WarmedH U.vm) (h : lt_K D G s) : lt_K D G U := ⟨va_K.moved hW.alike h.1, lt_N.warm hW h.2.1, fun e e' h1 h2 h3 h4 => va_Nc.moved hW.alike (h.2.2.1 e e' h1 h2 h3 h4), lt_AO.moved hW.alike h.2.2.2.1, lt_AO.moved hW.alike h.2.2.2.2.1, lt_AO.moved hW.alike h.2.2.2.2.2.1, lt_AO.moved hW.alike h.2.2.2.2.2.2⟩
def lt_Z (A : Nat → Prop) (U : State) (H : Heap) : Prop := vx_Zq Bundle.tN "UNASSIGNED_STACK" Bundle.steD A U H ∧ vx_Zq Bundle.tN "SUPPRESSED_SENTINEL" Bundle.listD A U H
abbrev lt_X : Type := Program × Launch × Env × Room × State × MethodId × Array Value × List Frame × Method × Code × va_G × (Nat → ClassId) × (Nat → Prop)
/-- what holds of a method's frame all along -/
def lt_C (X : lt_X) (m : Nat) : Prop := match X with
  | (p, l, _, _, s, mid, args, _, meth, c, D, G, A) => p.tables.exec = Jvm.exec ∧ c.code = lt_by m ∧ c.maxLocals = (lt_inf m).2.2.1 ∧ s.vm.findClass (lt_cn (lt_inf m).1) = some mid.cls ∧ (∀ w ∈ lw_good, w.before args s = true) ∧ meth.sig.returnType = lt_ret m ∧ meth.locks = false ∧ m < 150 ∧
    (lt_ini m = true → meth.name = "<init>") ∧ c.exceptionTable.toList = tableOf (lt_hh m) ∧ l.stackTraces = false ∧ lt_K D G s ∧ lt_Z A s s.heap ∧ (∀ q, s.heap.size ≤ q → A q)
def lt_Qc (D : va_G) (G : Nat → ClassId) (A : Nat → Prop) (z : LO × LM) (n0 : Nat) (ad0 : Nat → Nat) : Array Value → State → Outcome → State → Prop := fun _ st o t =>
  ∃ (v : Option Value) (ad' : Nat → Nat), z.1 = .inl v ∧ o = .returned (v.map (lt_v ad')) ∧ (∀ k, k < n0 → ad' k = ad0 k) ∧ lt_R D G A ad' z.2 t t.heap ∧ (∀ x, v = some x → lt_ok (mN z.2) x) ∧ va_F A st t
def lt_XC (D : va_G) (G : Nat → ClassId) (A : Nat → Prop) (z : LO × LM) (n0 : Nat) (ad0 : Nat → Nat) : String → State → State → Prop := fun E st t =>
  ∃ (e : Nat) (ad' : Nat → Nat), z.1 = .inr e ∧ e < 4 ∧ E = lt_en e ∧ (∀ k, k < n0 → ad' k = ad0 k) ∧ lt_R D G A ad' z.2 t t.heap ∧ va_F A st t
/-- from this point of the method m, with the memory M, the machine comes to the end z -/
def lt_V (X : lt_X) (m : Nat) (z : LO × LM) (q : Nat × (Nat → Nat) × Nat × Nat) (pc : Nat) (ls st : List Value) (M : LM) : Prop := lt_ge M z.2 ∧ match X, q with
  | (p, l, e, R, s, mid, args, below, meth, c, D, G, A), (n0, ad0, mc, ms) => ∀ (ad : Nat → Nat) (H : Heap) (locs : List Loc) (cells slots : Nat) (lsM : Array Slot), lt_R D G A ad M s H → va_S A s.heap H locs → lt_L ad (mN M) (lt_inf m).2.2.1 ls lsM → (∀ v ∈ st, lt_ok (mN M) v) →
      cells + (mC z.2 - mC M) ≤ mc → slots + (mS z.2 - mS M) ≤ ms → (∀ k, k < n0 → ad k = ad0 k) → n0 ≤ mN M → ad 0 < s.heap.size →
      W p l e R s mid args below meth c H locs cells slots (vx_MQ below (lt_Qc D G A z n0 ad0) (lt_XC D G A z n0 ad0) args s mc ms A) (F0 mid pc lsM (st.map (lt_v ad)))
section VP
variable {X : lt_X} {m : Nat} {z : LO × LM} {q : Nat × (Nat → Nat) × Nat × Nat} {pc : Nat} {ls st r : List Value} {M : LM}
theorem v_iadd {x y : Int32} (hC : lt_C X m) (hd : decode (lt_by m) pc = .ok (.iadd, 1)) (h : lt_V X m z q (pc + 1) ls (.int (x + y) :: r) M) : lt_V X m z q pc ls (.int y :: .int x :: r) M := by
  obtain ⟨p, l, e, R, s, mid, args, below, meth, c, D, G, A⟩ := X
  obtain ⟨n0, ad0, mc, ms⟩ := q
  obtain ⟨hx, hb, -⟩ := hC
  refine ⟨h.1, fun ad H locs cells slots lsM hR hS hL hst hc hs ha hn h0 => ?_⟩
  exact lv_iadd hx hb hd (h.2 ad H locs cells slots lsM hR hS hL (fun v hv => (List.mem_cons.mp hv).elim (fun e => by rw [e]; trivial) (fun hv => hst v (List.mem_cons_of_mem _ (List.mem_cons_of_mem _ hv)))) hc hs ha hn h0)
theorem v_isub {x y : Int32} (hC : lt_C X m) (hd : decode (lt_by m) pc = .ok (.isub, 1)) (h : lt_V X m z q (pc + 1) ls (.int (x - y) :: r) M) : lt_V X m z q pc ls (.int y :: .int x :: r) M := by
  obtain ⟨p, l, e, R, s, mid, args, below, meth, c, D, G, A⟩ := X
  obtain ⟨n0, ad0, mc, ms⟩ := q
  obtain ⟨hx, hb, -⟩ := hC
  refine ⟨h.1, fun ad H locs cells slots lsM hR hS hL hst hc hs ha hn h0 => ?_⟩
  exact lv_isub hx hb hd (h.2 ad H locs cells slots lsM hR hS hL (fun v hv => (List.mem_cons.mp hv).elim (fun e => by rw [e]; trivial) (fun hv => hst v (List.mem_cons_of_mem _ (List.mem_cons_of_mem _ hv)))) hc hs ha hn h0)
theorem v_imul {x y : Int32} (hC : lt_C X m) (hd : decode (lt_by m) pc = .ok (.imul, 1)) (h : lt_V X m z q (pc + 1) ls (.int (x * y) :: r) M) : lt_V X m z q pc ls (.int y :: .int x :: r) M := by
  obtain ⟨p, l, e, R, s, mid, args, below, meth, c, D, G, A⟩ := X
  obtain ⟨n0, ad0, mc, ms⟩ := q
  obtain ⟨hx, hb, -⟩ := hC
  refine ⟨h.1, fun ad H locs cells slots lsM hR hS hL hst hc hs ha hn h0 => ?_⟩
  exact lv_imul hx hb hd (h.2 ad H locs cells slots lsM hR hS hL (fun v hv => (List.mem_cons.mp hv).elim (fun e => by rw [e]; trivial) (fun hv => hst v (List.mem_cons_of_mem _ (List.mem_cons_of_mem _ hv)))) hc hs ha hn h0)
theorem v_iand {x y : Int32} (hC : lt_C X m) (hd : decode (lt_by m) pc = .ok (.iand, 1)) (h : lt_V X m z q (pc + 1) ls (.int (x &&& y) :: r) M) : lt_V X m z q pc ls (.int y :: .int x :: r) M := by
  obtain ⟨p, l, e, R, s, mid, args, below, meth, c, D, G, A⟩ := X
  obtain ⟨n0, ad0, mc, ms⟩ := q
  obtain ⟨hx, hb, -⟩ := hC
  refine ⟨h.1, fun ad H locs cells slots lsM hR hS hL hst hc hs ha hn h0 => ?_⟩
  exact lv_iand hx hb hd (h.2 ad H locs cells slots lsM hR hS hL (fun v hv => (List.mem_cons.mp hv).elim (fun e => by rw [e]; trivial) (fun hv => hst v (List.mem_cons_of_mem _ (List.mem_cons_of_mem _ hv)))) hc hs ha hn h0)
theorem v_ior {x y : Int32} (hC : lt_C X m) (hd : decode (lt_by m) pc = .ok (.ior, 1)) (h : lt_V X m z q (pc + 1) ls (.int (x ||| y) :: r) M) : lt_V X m z q pc ls (.int y :: .int x :: r) M := by
  obtain ⟨p, l, e, R, s, mid, args, below, meth, c, D, G, A⟩ := X
  obtain ⟨n0, ad0, mc, ms⟩ := q
  obtain ⟨hx, hb, -⟩ := hC
  refine ⟨h.1, fun ad H locs cells slots lsM hR hS hL hst hc hs ha hn h0 => ?_⟩
  exact lv_ior hx hb hd (h.2 ad H locs cells slots lsM hR hS hL (fun v hv => (List.mem_cons.mp hv).elim (fun e => by rw [e]; trivial) (fun hv => hst v (List.mem_cons_of_mem _ (List.mem_cons_of_mem _ hv)))) hc hs ha hn h0)
theorem v_ixor {x y : Int32} (hC : lt_C X m) (hd : decode (lt_by m) pc = .ok (.ixor, 1)) (h : lt_V X m z q (pc + 1) ls (.int (x ^^^ y) :: r) M) : lt_V X m z q pc ls (.int y :: .int x :: r) M := by
  obtain ⟨p, l, e, R, s, mid, args, below, meth, c, D, G, A⟩ := X
  obtain ⟨n0, ad0, mc, ms⟩ := q
  obtain ⟨hx, hb, -⟩ := hC
  refine ⟨h.1, fun ad H locs cells slots lsM hR hS hL hst hc hs ha hn h0 => ?_⟩
  exact lv_ixor hx hb hd (h.2 ad H locs cells slots lsM hR hS hL (fun v hv => (List.mem_cons.mp hv).elim (fun e => by rw [e]; trivial) (fun hv => hst v (List.mem_cons_of_mem _ (List.mem_cons_of_mem _ hv)))) hc hs ha hn h0)
theorem v_ishl {x y : Int32} (hC : lt_C X m) (hd : decode (lt_by m) pc = .ok (.ishl, 1)) (h : lt_V X m z q (pc + 1) ls (.int (x <<< (y &&& 31)) :: r) M) : lt_V X m z q pc ls (.int y :: .int x :: r) M := by
  obtain ⟨p, l, e, R, s, mid, args, below, meth, c, D, G, A⟩ := X
  obtain ⟨n0, ad0, mc, ms⟩ := q
  obtain ⟨hx, hb, -⟩ := hC
  refine ⟨h.1, fun ad H locs cells slots lsM hR hS hL hst hc hs ha hn h0 => ?_⟩
  exact lv_ishl hx hb hd (h.2 ad H locs cells slots lsM hR hS hL (fun v hv => (List.mem_cons.mp hv).elim (fun e => by rw [e]; trivial) (fun hv => hst v (List.mem_cons_of_mem _ (List.mem_cons_of_mem _ hv)))) hc hs ha hn h0)
theorem v_ishr {x y : Int32} (hC : lt_C X m) (hd : decode (lt_by m) pc = .ok (.ishr, 1)) (h : lt_V X m z q (pc + 1) ls (.int (x >>> (y &&& 31)) :: r) M) : lt_V X m z q pc ls (.int y :: .int x :: r) M := by
  obtain ⟨p, l, e, R, s, mid, args, below, meth, c, D, G, A⟩ := X
  obtain ⟨n0, ad0, mc, ms⟩ := q
  obtain ⟨hx, hb, -⟩ := hC
  refine ⟨h.1, fun ad H locs cells slots lsM hR hS hL hst hc hs ha hn h0 => ?_⟩
  exact lv_ishr hx hb hd (h.2 ad H locs cells slots lsM hR hS hL (fun v hv => (List.mem_cons.mp hv).elim (fun e => by rw [e]; trivial) (fun hv => hst v (List.mem_cons_of_mem _ (List.mem_cons_of_mem _ hv)))) hc hs ha hn h0)
theorem v_iushr {x y : Int32} (hC : lt_C X m) (hd : decode (lt_by m) pc = .ok (.iushr, 1)) (h : lt_V X m z q (pc + 1) ls (.int (lt_us x y) :: r) M) : lt_V X m z q pc ls (.int y :: .int x :: r) M := by
  obtain ⟨p, l, e, R, s, mid, args, below, meth, c, D, G, A⟩ := X
  obtain ⟨n0, ad0, mc, ms⟩ := q
  obtain ⟨hx, hb, -⟩ := hC
  refine ⟨h.1, fun ad H locs cells slots lsM hR hS hL hst hc hs ha hn h0 => ?_⟩
  exact lv_iushr hx hb hd rfl (h.2 ad H locs cells slots lsM hR hS hL (fun v hv => (List.mem_cons.mp hv).elim (fun e => by rw [e]; trivial) (fun hv => hst v (List.mem_cons_of_mem _ (List.mem_cons_of_mem _ hv)))) hc hs ha hn h0)
theorem v_idiv {x y : Int32} (hC : lt_C X m) (hd : decode (lt_by m) pc = .ok (.idiv, 1)) (hne : ¬ y = 0) (h : lt_V X m z q (pc + 1) ls (.int (x / y) :: r) M) : lt_V X m z q pc ls (.int y :: .int x :: r) M := by
  obtain ⟨p, l, e, R, s, mid, args, below, meth, c, D, G, A⟩ := X
  obtain ⟨n0, ad0, mc, ms⟩ := q
  obtain ⟨hx, hb, -⟩ := hC
  refine ⟨h.1, fun ad H locs cells slots lsM hR hS hL hst hc hs ha hn h0 => ?_⟩
  exact lv_idiv hx hb hd hne (h.2 ad H locs cells slots lsM hR hS hL (fun v hv => (List.mem_cons.mp hv).elim (fun e => by rw [e]; trivial) (fun hv => hst v (List.mem_cons_of_mem _ (List.mem_cons_of_mem _ hv)))) hc hs ha hn h0)
theorem v_irem {x y : Int32} (hC : lt_C X m) (hd : decode (lt_by m) pc = .ok (.irem, 1)) (hne : ¬ y = 0) (h : lt_V X m z q (pc + 1) ls (.int (x - x / y * y) :: r) M) : lt_V X m z q pc ls (.int y :: .int x :: r) M := by
  obtain ⟨p, l, e, R, s, mid, args, below, meth, c, D, G, A⟩ := X
  obtain ⟨n0, ad0, mc, ms⟩ := q
  obtain ⟨hx, hb, -⟩ := hC
  refine ⟨h.1, fun ad H locs cells slots lsM hR hS hL hst hc hs ha hn h0 => ?_⟩
  exact lv_irem hx hb hd hne (h.2 ad H locs cells slots lsM hR hS hL (fun v hv => (List.mem_cons.mp hv).elim (fun e => by rw [e]; trivial) (fun hv => hst v (List.mem_cons_of_mem _ (List.mem_cons_of_mem _ hv)))) hc hs ha hn h0)
theorem v_ineg {x : Int32} (hC : lt_C X m) (hd : decode (lt_by m) pc = .ok (.ineg, 1)) (h : lt_V X m z q (pc + 1) ls (.int (-x) :: r) M) : lt_V X m z q pc ls (.int x :: r) M := by
  obtain ⟨p, l, e, R, s, mid, args, below, meth, c, D, G, A⟩ := X
  obtain ⟨n0, ad0, mc, ms⟩ := q
  obtain ⟨hx, hb, -⟩ := hC
  refine ⟨h.1, fun ad H locs cells slots lsM hR hS hL hst hc hs ha hn h0 => ?_⟩
  exact lv_ineg hx hb hd (h.2 ad H locs cells slots lsM hR hS hL (fun v hv => (List.mem_cons.mp hv).elim (fun e => by rw [e]; trivial) (fun hv => hst v (List.mem_cons_of_mem _ hv))) hc hs ha hn h0)
theorem v_ladd {x y : Int64} (hC : lt_C X m) (hd : decode (lt_by m) pc = .ok (.ladd, 1)) (h : lt_V X m z q (pc + 1) ls (.long (x + y) :: r) M) : lt_V X m z q pc ls (.long y :: .long x :: r) M := by
  obtain ⟨p, l, e, R, s, mid, args, below, meth, c, D, G, A⟩ := X
  obtain ⟨n0, ad0, mc, ms⟩ := q
  obtain ⟨hx, hb, -⟩ := hC
  refine ⟨h.1, fun ad H locs cells slots lsM hR hS hL hst hc hs ha hn h0 => ?_⟩
  exact lv_ladd hx hb hd (h.2 ad H locs cells slots lsM hR hS hL (fun v hv => (List.mem_cons.mp hv).elim (fun e => by rw [e]; trivial) (fun hv => hst v (List.mem_cons_of_mem _ (List.mem_cons_of_mem _ hv)))) hc hs ha hn h0)
theorem v_lmul {x y : Int64} (hC : lt_C X m) (hd : decode (lt_by m) pc = .ok (.lmul, 1)) (h : lt_V X m z q (pc + 1) ls (.long (x * y) :: r) M) : lt_V X m z q pc ls (.long y :: .long x :: r) M := by
  obtain ⟨p, l, e, R, s, mid, args, below, meth, c, D, G, A⟩ := X
  obtain ⟨n0, ad0, mc, ms⟩ := q
  obtain ⟨hx, hb, -⟩ := hC
  refine ⟨h.1, fun ad H locs cells slots lsM hR hS hL hst hc hs ha hn h0 => ?_⟩
  exact lv_lmul hx hb hd (h.2 ad H locs cells slots lsM hR hS hL (fun v hv => (List.mem_cons.mp hv).elim (fun e => by rw [e]; trivial) (fun hv => hst v (List.mem_cons_of_mem _ (List.mem_cons_of_mem _ hv)))) hc hs ha hn h0)
theorem v_land {x y : Int64} (hC : lt_C X m) (hd : decode (lt_by m) pc = .ok (.land, 1)) (h : lt_V X m z q (pc + 1) ls (.long (x &&& y) :: r) M) : lt_V X m z q pc ls (.long y :: .long x :: r) M := by
  obtain ⟨p, l, e, R, s, mid, args, below, meth, c, D, G, A⟩ := X
  obtain ⟨n0, ad0, mc, ms⟩ := q
  obtain ⟨hx, hb, -⟩ := hC
  refine ⟨h.1, fun ad H locs cells slots lsM hR hS hL hst hc hs ha hn h0 => ?_⟩
  exact lv_land hx hb hd (h.2 ad H locs cells slots lsM hR hS hL (fun v hv => (List.mem_cons.mp hv).elim (fun e => by rw [e]; trivial) (fun hv => hst v (List.mem_cons_of_mem _ (List.mem_cons_of_mem _ hv)))) hc hs ha hn h0)
theorem v_lor {x y : Int64} (hC : lt_C X m) (hd : decode (lt_by m) pc = .ok (.lor, 1)) (h : lt_V X m z q (pc + 1) ls (.long (x ||| y) :: r) M) : lt_V X m z q pc ls (.long y :: .long x :: r) M := by
  obtain ⟨p, l, e, R, s, mid, args, below, meth, c, D, G, A⟩ := X
  obtain ⟨n0, ad0, mc, ms⟩ := q
  obtain ⟨hx, hb, -⟩ := hC
  refine ⟨h.1, fun ad H locs cells slots lsM hR hS hL hst hc hs ha hn h0 => ?_⟩
  exact lv_lor hx hb hd (h.2 ad H locs cells slots lsM hR hS hL (fun v hv => (List.mem_cons.mp hv).elim (fun e => by rw [e]; trivial) (fun hv => hst v (List.mem_cons_of_mem _ (List.mem_cons_of_mem _ hv)))) hc hs ha hn h0)
theorem v_ldiv {x y : Int64} (hC : lt_C X m) (hd : decode (lt_by m) pc = .ok (.ldiv, 1)) (hne : ¬ y = 0) (h : lt_V X m z q (pc + 1) ls (.long (x / y) :: r) M) : lt_V X m z q pc ls (.long y :: .long x :: r) M := by
  obtain ⟨p, l, e, R, s, mid, args, below, meth, c, D, G, A⟩ := X
  obtain ⟨n0, ad0, mc, ms⟩ := q
  obtain ⟨hx, hb, -⟩ := hC
  refine ⟨h.1, fun ad H locs cells slots lsM hR hS hL hst hc hs ha hn h0 => ?_⟩
  exact lv_ldiv hx hb hd hne (h.2 ad H locs cells slots lsM hR hS hL (fun v hv => (List.mem_cons.mp hv).elim (fun e => by rw [e]; trivial) (fun hv => hst v (List.mem_cons_of_mem _ (List.mem_cons_of_mem _ hv)))) hc hs ha hn h0)
theorem v_lrem {x y : Int64} (hC : lt_C X m) (hd : decode (lt_by m) pc = .ok (.lrem, 1)) (hne : ¬ y = 0) (h : lt_V X m z q (pc + 1) ls (.long (x - x / y * y) :: r) M) : lt_V X m z q pc ls (.long y :: .long x :: r) M := by
  obtain ⟨p, l, e, R, s, mid, args, below, meth, c, D, G, A⟩ := X
  obtain ⟨n0, ad0, mc, ms⟩ := q
  obtain ⟨hx, hb, -⟩ := hC
  refine ⟨h.1, fun ad H locs cells slots lsM hR hS hL hst hc hs ha hn h0 => ?_⟩
  exact lv_lrem hx hb hd hne (h.2 ad H locs cells slots lsM hR hS hL (fun v hv => (List.mem_cons.mp hv).elim (fun e => by rw [e]; trivial) (fun hv => hst v (List.mem_cons_of_mem _ (List.mem_cons_of_mem _ hv)))) hc hs ha hn h0)
theorem v_lushr {x : Int64} {y : Int32} (hC : lt_C X m) (hd : decode (lt_by m) pc = .ok (.lushr, 1)) (h : lt_V X m z q (pc + 1) ls (.long (lt_lus x y) :: r) M) : lt_V X m z q pc ls (.int y :: .long x :: r) M := by
  obtain ⟨p, l, e, R, s, mid, args, below, meth, c, D, G, A⟩ := X
  obtain ⟨n0, ad0, mc, ms⟩ := q
  obtain ⟨hx, hb, -⟩ := hC
  refine ⟨h.1, fun ad H locs cells slots lsM hR hS hL hst hc hs ha hn h0 => ?_⟩
  exact lv_lushr hx hb hd rfl (h.2 ad H locs cells slots lsM hR hS hL (fun v hv => (List.mem_cons.mp hv).elim (fun e => by rw [e]; trivial) (fun hv => hst v (List.mem_cons_of_mem _ (List.mem_cons_of_mem _ hv)))) hc hs ha hn h0)
theorem v_lshl {x : Int64} {y : Int32} (hC : lt_C X m) (hd : decode (lt_by m) pc = .ok (.lshl, 1)) (h : lt_V X m z q (pc + 1) ls (.long (lt_lsl x y) :: r) M) : lt_V X m z q pc ls (.int y :: .long x :: r) M := by
  obtain ⟨p, l, e, R, s, mid, args, below, meth, c, D, G, A⟩ := X
  obtain ⟨n0, ad0, mc, ms⟩ := q
  obtain ⟨hx, hb, -⟩ := hC
  refine ⟨h.1, fun ad H locs cells slots lsM hR hS hL hst hc hs ha hn h0 => ?_⟩
  exact lv_lshl hx hb hd rfl (h.2 ad H locs cells slots lsM hR hS hL (fun v hv => (List.mem_cons.mp hv).elim (fun e => by rw [e]; trivial) (fun hv => hst v (List.mem_cons_of_mem _ (List.mem_cons_of_mem _ hv)))) hc hs ha hn h0)
theorem v_lcmp {x y : Int64} (hC : lt_C X m) (hd : decode (lt_by m) pc = .ok (.lcmp, 1)) (h : lt_V X m z q (pc + 1) ls (.int (lg_cmp x y) :: r) M) : lt_V X m z q pc ls (.long y :: .long x :: r) M := by
  obtain ⟨p, l, e, R, s, mid, args, below, meth, c, D, G, A⟩ := X
  obtain ⟨n0, ad0, mc, ms⟩ := q
  obtain ⟨hx, hb, -⟩ := hC
  refine ⟨h.1, fun ad H locs cells slots lsM hR hS hL hst hc hs ha hn h0 => ?_⟩
  exact W.lcmp hx hb hd (h.2 ad H locs cells slots lsM hR hS hL (fun v hv => (List.mem_cons.mp hv).elim (fun e => by rw [e]; trivial) (fun hv => hst v (List.mem_cons_of_mem _ (List.mem_cons_of_mem _ hv)))) hc hs ha hn h0)
theorem v_i2l {x : Int32} (hC : lt_C X m) (hd : decode (lt_by m) pc = .ok (.i2l, 1)) (h : lt_V X m z q (pc + 1) ls (.long x.toInt64 :: r) M) : lt_V X m z q pc ls (.int x :: r) M := by
  obtain ⟨p, l, e, R, s, mid, args, below, meth, c, D, G, A⟩ := X
  obtain ⟨n0, ad0, mc, ms⟩ := q
  obtain ⟨hx, hb, -⟩ := hC
  refine ⟨h.1, fun ad H locs cells slots lsM hR hS hL hst hc hs ha hn h0 => ?_⟩
  exact lv_i2l hx hb hd rfl (h.2 ad H locs cells slots lsM hR hS hL (fun v hv => (List.mem_cons.mp hv).elim (fun e => by rw [e]; trivial) (fun hv => hst v (List.mem_cons_of_mem _ hv))) hc hs ha hn h0)
theorem v_l2i {x : Int64} (hC : lt_C X m) (hd : decode (lt_by m) pc = .ok (.l2i, 1)) (h : lt_V X m z q (pc + 1) ls (.int x.toInt32 :: r) M) : lt_V X m z q pc ls (.long x :: r) M := by
  obtain ⟨p, l, e, R, s, mid, args, below, meth, c, D, G, A⟩ := X
  obtain ⟨n0, ad0, mc, ms⟩ := q
  obtain ⟨hx, hb, -⟩ := hC
  refine ⟨h.1, fun ad H locs cells slots lsM hR hS hL hst hc hs ha hn h0 => ?_⟩
  exact lv_l2i hx hb hd rfl (h.2 ad H locs cells slots lsM hR hS hL (fun v hv => (List.mem_cons.mp hv).elim (fun e => by rw [e]; trivial) (fun hv => hst v (List.mem_cons_of_mem _ hv))) hc hs ha hn h0)
theorem v_i2f {x : Int32} (hC : lt_C X m) (hd : decode (lt_by m) pc = .ok (.i2f, 1)) (h : lt_V X m z q (pc + 1) ls (.float (FP.i2f x) :: r) M) : lt_V X m z q pc ls (.int x :: r) M := by
  obtain ⟨p, l, e, R, s, mid, args, below, meth, c, D, G, A⟩ := X
  obtain ⟨n0, ad0, mc, ms⟩ := q
  obtain ⟨hx, hb, -⟩ := hC
  refine ⟨h.1, fun ad H locs cells slots lsM hR hS hL hst hc hs ha hn h0 => ?_⟩
  exact lv_i2f hx hb hd (h.2 ad H locs cells slots lsM hR hS hL (fun v hv => (List.mem_cons.mp hv).elim (fun e => by rw [e]; trivial) (fun hv => hst v (List.mem_cons_of_mem _ hv))) hc hs ha hn h0)
theorem v_i2d {x : Int32} (hC : lt_C X m) (hd : decode (lt_by m) pc = .ok (.i2d, 1)) (h : lt_V X m z q (pc + 1) ls (.double (FP.i2d x) :: r) M) : lt_V X m z q pc ls (.int x :: r) M := by
  obtain ⟨p, l, e, R, s, mid, args, below, meth, c, D, G, A⟩ := X
  obtain ⟨n0, ad0, mc, ms⟩ := q
  obtain ⟨hx, hb, -⟩ := hC
  refine ⟨h.1, fun ad H locs cells slots lsM hR hS hL hst hc hs ha hn h0 => ?_⟩
  exact lv_i2d hx hb hd (h.2 ad H locs cells slots lsM hR hS hL (fun v hv => (List.mem_cons.mp hv).elim (fun e => by rw [e]; trivial) (fun hv => hst v (List.mem_cons_of_mem _ hv))) hc hs ha hn h0)
theorem v_f2d {x : UInt32} (hC : lt_C X m) (hd : decode (lt_by m) pc = .ok (.f2d, 1)) (hne : vf_n64 (FP.f2d x)) (h : lt_V X m z q (pc + 1) ls (.double (FP.f2d x) :: r) M) : lt_V X m z q pc ls (.float x :: r) M := by
  obtain ⟨p, l, e, R, s, mid, args, below, meth, c, D, G, A⟩ := X
  obtain ⟨n0, ad0, mc, ms⟩ := q
  obtain ⟨hx, hb, -⟩ := hC
  refine ⟨h.1, fun ad H locs cells slots lsM hR hS hL hst hc hs ha hn h0 => ?_⟩
  exact lv_f2d hx hb hd hne (h.2 ad H locs cells slots lsM hR hS hL (fun v hv => (List.mem_cons.mp hv).elim (fun e => by rw [e]; trivial) (fun hv => hst v (List.mem_cons_of_mem _ hv))) hc hs ha hn h0)
theorem v_fdiv {x y : UInt32} (hC : lt_C X m) (hd : decode (lt_by m) pc = .ok (.fdiv, 1)) (hne : vf_n32 (FP.fdiv x y)) (h : lt_V X m z q (pc + 1) ls (.float (FP.fdiv x y) :: r) M) : lt_V X m z q pc ls (.float y :: .float x :: r) M := by
  obtain ⟨p, l, e, R, s, mid, args, below, meth, c, D, G, A⟩ := X
  obtain ⟨n0, ad0, mc, ms⟩ := q
  obtain ⟨hx, hb, -⟩ := hC
  refine ⟨h.1, fun ad H locs cells slots lsM hR hS hL hst hc hs ha hn h0 => ?_⟩
  exact lv_fdiv hx hb hd hne (h.2 ad H locs cells slots lsM hR hS hL (fun v hv => (List.mem_cons.mp hv).elim (fun e => by rw [e]; trivial) (fun hv => hst v (List.mem_cons_of_mem _ (List.mem_cons_of_mem _ hv)))) hc hs ha hn h0)
theorem v_ddiv {x y : UInt64} (hC : lt_C X m) (hd : decode (lt_by m) pc = .ok (.ddiv, 1)) (hne : vf_n64 (FP.ddiv x y)) (h : lt_V X m z q (pc + 1) ls (.double (FP.ddiv x y) :: r) M) : lt_V X m z q pc ls (.double y :: .double x :: r) M := by
  obtain ⟨p, l, e, R, s, mid, args, below, meth, c, D, G, A⟩ := X
  obtain ⟨n0, ad0, mc, ms⟩ := q
  obtain ⟨hx, hb, -⟩ := hC
  refine ⟨h.1, fun ad H locs cells slots lsM hR hS hL hst hc hs ha hn h0 => ?_⟩
  exact lv_ddiv hx hb hd hne (h.2 ad H locs cells slots lsM hR hS hL (fun v hv => (List.mem_cons.mp hv).elim (fun e => by rw [e]; trivial) (fun hv => hst v (List.mem_cons_of_mem _ (List.mem_cons_of_mem _ hv)))) hc hs ha hn h0)
theorem v_dcmp {x y : UInt64} {op : CmpOp} (hC : lt_C X m) (hd : decode (lt_by m) pc = .ok (.dcmp op, 1)) (h : lt_V X m z q (pc + 1) ls (.int (Op.cmpValue (FP.dcmp x y) op) :: r) M) : lt_V X m z q pc ls (.double y :: .double x :: r) M := by
  obtain ⟨p, l, e, R, s, mid, args, below, meth, c, D, G, A⟩ := X
  obtain ⟨n0, ad0, mc, ms⟩ := q
  obtain ⟨hx, hb, -⟩ := hC
  refine ⟨h.1, fun ad H locs cells slots lsM hR hS hL hst hc hs ha hn h0 => ?_⟩
  exact lv_dcmp hx hb hd (h.2 ad H locs cells slots lsM hR hS hL (fun v hv => (List.mem_cons.mp hv).elim (fun e => by rw [e]; trivial) (fun hv => hst v (List.mem_cons_of_mem _ (List.mem_cons_of_mem _ hv)))) hc hs ha hn h0)
theorem v_iconst {k : Int} {v : Int32} (hC : lt_C X m) (hd : decode (lt_by m) pc = .ok (.iconst k, 1)) (hv : Int32.ofInt k = v) (h : lt_V X m z q (pc + 1) ls (.int v :: r) M) : lt_V X m z q pc ls (r) M := by
  obtain ⟨p, l, e, R, s, mid, args, below, meth, c, D, G, A⟩ := X
  obtain ⟨n0, ad0, mc, ms⟩ := q
  obtain ⟨hx, hb, -⟩ := hC
  refine ⟨h.1, fun ad H locs cells slots lsM hR hS hL hst hc hs ha hn h0 => ?_⟩
  exact lv_iconst hx hb hd hv (h.2 ad H locs cells slots lsM hR hS hL (fun v hv => (List.mem_cons.mp hv).elim (fun e => by rw [e]; trivial) (fun hv => hst v hv)) hc hs ha hn h0)
theorem v_bipush {k : Int} {v : Int32} (hC : lt_C X m) (hd : decode (lt_by m) pc = .ok (.bipush k, 2)) (hv : (Int8.ofInt k).toInt32 = v) (h : lt_V X m z q (pc + 2) ls (.int v :: r) M) : lt_V X m z q pc ls (r) M := by
  obtain ⟨p, l, e, R, s, mid, args, below, meth, c, D, G, A⟩ := X
  obtain ⟨n0, ad0, mc, ms⟩ := q
  obtain ⟨hx, hb, -⟩ := hC
  refine ⟨h.1, fun ad H locs cells slots lsM hR hS hL hst hc hs ha hn h0 => ?_⟩
  exact lv_bipush hx hb hd hv (h.2 ad H locs cells slots lsM hR hS hL (fun v hv => (List.mem_cons.mp hv).elim (fun e => by rw [e]; trivial) (fun hv => hst v hv)) hc hs ha hn h0)
theorem v_sipush {k : Int} {v : Int32} (hC : lt_C X m) (hd : decode (lt_by m) pc = .ok (.sipush k, 3)) (hv : (Int16.ofInt k).toInt32 = v) (h : lt_V X m z q (pc + 3) ls (.int v :: r) M) : lt_V X m z q pc ls (r) M := by
  obtain ⟨p, l, e, R, s, mid, args, below, meth, c, D, G, A⟩ := X
  obtain ⟨n0, ad0, mc, ms⟩ := q
  obtain ⟨hx, hb, -⟩ := hC
  refine ⟨h.1, fun ad H locs cells slots lsM hR hS hL hst hc hs ha hn h0 => ?_⟩
  exact lv_sipush hx hb hd hv (h.2 ad H locs cells slots lsM hR hS hL (fun v hv => (List.mem_cons.mp hv).elim (fun e => by rw [e]; trivial) (fun hv => hst v hv)) hc hs ha hn h0)
theorem v_lconst {k : Fin 2} (hC : lt_C X m) (hd : decode (lt_by m) pc = .ok (.lconst k, 1)) (h : lt_V X m z q (pc + 1) ls (.long (Int64.ofNat (k : Nat)) :: r) M) : lt_V X m z q pc ls (r) M := by
  obtain ⟨p, l, e, R, s, mid, args, below, meth, c, D, G, A⟩ := X
  obtain ⟨n0, ad0, mc, ms⟩ := q
  obtain ⟨hx, hb, -⟩ := hC
  refine ⟨h.1, fun ad H locs cells slots lsM hR hS hL hst hc hs ha hn h0 => ?_⟩
  exact lv_lconst hx hb hd rfl (h.2 ad H locs cells slots lsM hR hS hL (fun v hv => (List.mem_cons.mp hv).elim (fun e => by rw [e]; trivial) (fun hv => hst v hv)) hc hs ha hn h0)
theorem v_fconst (hC : lt_C X m) (hd : decode (lt_by m) pc = .ok (.fconst 0, 1)) (h : lt_V X m z q (pc + 1) ls (.float FP.fconst0 :: r) M) : lt_V X m z q pc ls (r) M := by
  obtain ⟨p, l, e, R, s, mid, args, below, meth, c, D, G, A⟩ := X
  obtain ⟨n0, ad0, mc, ms⟩ := q
  obtain ⟨hx, hb, -⟩ := hC
  refine ⟨h.1, fun ad H locs cells slots lsM hR hS hL hst hc hs ha hn h0 => ?_⟩
  exact lv_fconst0 hx hb hd (h.2 ad H locs cells slots lsM hR hS hL (fun v hv => (List.mem_cons.mp hv).elim (fun e => by rw [e]; trivial) (fun hv => hst v hv)) hc hs ha hn h0)
theorem v_dconst (hC : lt_C X m) (hd : decode (lt_by m) pc = .ok (.dconst 0, 1)) (h : lt_V X m z q (pc + 1) ls (.double FP.dconst0 :: r) M) : lt_V X m z q pc ls (r) M := by
  obtain ⟨p, l, e, R, s, mid, args, below, meth, c, D, G, A⟩ := X
  obtain ⟨n0, ad0, mc, ms⟩ := q
  obtain ⟨hx, hb, -⟩ := hC
  refine ⟨h.1, fun ad H locs cells slots lsM hR hS hL hst hc hs ha hn h0 => ?_⟩
  exact lv_dconst0 hx hb hd (h.2 ad H locs cells slots lsM hR hS hL (fun v hv => (List.mem_cons.mp hv).elim (fun e => by rw [e]; trivial) (fun hv => hst v hv)) hc hs ha hn h0)
theorem v_null (hC : lt_C X m) (hd : decode (lt_by m) pc = .ok (.aconst_null, 1)) (h : lt_V X m z q (pc + 1) ls (.null :: r) M) : lt_V X m z q pc ls (r) M := by
  obtain ⟨p, l, e, R, s, mid, args, below, meth, c, D, G, A⟩ := X
  obtain ⟨n0, ad0, mc, ms⟩ := q
  obtain ⟨hx, hb, -⟩ := hC
  refine ⟨h.1, fun ad H locs cells slots lsM hR hS hL hst hc hs ha hn h0 => ?_⟩
  exact lv_null hx hb hd (h.2 ad H locs cells slots lsM hR hS hL (fun v hv => (List.mem_cons.mp hv).elim (fun e => by rw [e]; trivial) (fun hv => hst v hv)) hc hs ha hn h0)
theorem v_ldc {k : Nat} {v : Int32} (hC : lt_C X m) (hd : decode (lt_by m) pc = .ok (.ldc k, 2)) (hv : Cond.constant (lt_cn (lt_inf m).1) k v ∈ lw_good) (h : lt_V X m z q (pc + 2) ls (.int v :: r) M) : lt_V X m z q pc ls r M := by
  obtain ⟨p, l, e, R, s, mid, args, below, meth, c, D, G, A⟩ := X
  obtain ⟨n0, ad0, mc, ms⟩ := q
  obtain ⟨hx, hb, -, hown, hts, -⟩ := hC
  refine ⟨h.1, fun ad H locs cells slots lsM hR hS hL hst hc hs ha hn h0 => ?_⟩
  exact lv_ldc hx hb hown (hts _ hv) hd (h.2 ad H locs cells slots lsM hR hS hL (fun v hv => (List.mem_cons.mp hv).elim (fun e => by rw [e]; trivial) (fun hv => hst v hv)) hc hs ha hn h0)
theorem v_ldc_w {k : Nat} {v : Int32} (hC : lt_C X m) (hd : decode (lt_by m) pc = .ok (.ldc_w k, 3)) (hv : Cond.constant (lt_cn (lt_inf m).1) k v ∈ lw_good) (h : lt_V X m z q (pc + 3) ls (.int v :: r) M) : lt_V X m z q pc ls r M := by
  obtain ⟨p, l, e, R, s, mid, args, below, meth, c, D, G, A⟩ := X
  obtain ⟨n0, ad0, mc, ms⟩ := q
  obtain ⟨hx, hb, -, hown, hts, -⟩ := hC
  refine ⟨h.1, fun ad H locs cells slots lsM hR hS hL hst hc hs ha hn h0 => ?_⟩
  exact lv_ldcw hx hb hown (hts _ hv) hd (h.2 ad H locs cells slots lsM hR hS hL (fun v hv => (List.mem_cons.mp hv).elim (fun e => by rw [e]; trivial) (fun hv => hst v hv)) hc hs ha hn h0)
theorem v_ldc2_w {k : Nat} {v : Int64} (hC : lt_C X m) (hd : decode (lt_by m) pc = .ok (.ldc2_w k, 3)) (hv : Cond.constantLong (lt_cn (lt_inf m).1) k v ∈ lw_good) (h : lt_V X m z q (pc + 3) ls (.long v :: r) M) : lt_V X m z q pc ls r M := by
  obtain ⟨p, l, e, R, s, mid, args, below, meth, c, D, G, A⟩ := X
  obtain ⟨n0, ad0, mc, ms⟩ := q
  obtain ⟨hx, hb, -, hown, hts, -⟩ := hC
  refine ⟨h.1, fun ad H locs cells slots lsM hR hS hL hst hc hs ha hn h0 => ?_⟩
  exact lv_ldc2 hx hb hown (hts _ hv) hd (h.2 ad H locs cells slots lsM hR hS hL (fun v hv => (List.mem_cons.mp hv).elim (fun e => by rw [e]; trivial) (fun hv => hst v hv)) hc hs ha hn h0)
theorem v_iload {k : Nat} {x : Int32} (hC : lt_C X m) (hd : decode (lt_by m) pc = .ok (.iload k, 2)) (hl : ls[k]? = some (.int x)) (h : lt_V X m z q (pc + 2) ls (.int x :: r) M) : lt_V X m z q pc ls r M := by
  obtain ⟨p, l, e, R, s, mid, args, below, meth, c, D, G, A⟩ := X
  obtain ⟨n0, ad0, mc, ms⟩ := q
  obtain ⟨hx, hb, -⟩ := hC
  refine ⟨h.1, fun ad H locs cells slots lsM hR hS hL hst hc hs ha hn h0 => ?_⟩
  exact lv_iload hx hb hd (hL.at hl (fun e => by cases e)) (h.2 ad H locs cells slots lsM hR hS hL (fun v hv => (List.mem_cons.mp hv).elim (fun e => by rw [e]; trivial) (fun hv => hst v hv)) hc hs ha hn h0)
theorem v_iload_n {k : Fin 4} {x : Int32} (hC : lt_C X m) (hd : decode (lt_by m) pc = .ok (.iload_n k, 1)) (hl : ls[(k : Nat)]? = some (.int x)) (h : lt_V X m z q (pc + 1) ls (.int x :: r) M) : lt_V X m z q pc ls r M := by
  obtain ⟨p, l, e, R, s, mid, args, below, meth, c, D, G, A⟩ := X
  obtain ⟨n0, ad0, mc, ms⟩ := q
  obtain ⟨hx, hb, -⟩ := hC
  refine ⟨h.1, fun ad H locs cells slots lsM hR hS hL hst hc hs ha hn h0 => ?_⟩
  exact lv_iload_n hx hb hd rfl (hL.at hl (fun e => by cases e)) (h.2 ad H locs cells slots lsM hR hS hL (fun v hv => (List.mem_cons.mp hv).elim (fun e => by rw [e]; trivial) (fun hv => hst v hv)) hc hs ha hn h0)
theorem v_lload {k : Nat} {x : Int64} (hC : lt_C X m) (hd : decode (lt_by m) pc = .ok (.lload k, 2)) (hl : ls[k]? = some (.long x)) (h : lt_V X m z q (pc + 2) ls (.long x :: r) M) : lt_V X m z q pc ls r M := by
  obtain ⟨p, l, e, R, s, mid, args, below, meth, c, D, G, A⟩ := X
  obtain ⟨n0, ad0, mc, ms⟩ := q
  obtain ⟨hx, hb, -⟩ := hC
  refine ⟨h.1, fun ad H locs cells slots lsM hR hS hL hst hc hs ha hn h0 => ?_⟩
  exact lv_lload hx hb hd (hL.at hl (fun e => by cases e)) (h.2 ad H locs cells slots lsM hR hS hL (fun v hv => (List.mem_cons.mp hv).elim (fun e => by rw [e]; trivial) (fun hv => hst v hv)) hc hs ha hn h0)
theorem v_lload_n {k : Fin 4} {x : Int64} (hC : lt_C X m) (hd : decode (lt_by m) pc = .ok (.lload_n k, 1)) (hl : ls[(k : Nat)]? = some (.long x)) (h : lt_V X m z q (pc + 1) ls (.long x :: r) M) : lt_V X m z q pc ls r M := by
  obtain ⟨p, l, e, R, s, mid, args, below, meth, c, D, G, A⟩ := X
  obtain ⟨n0, ad0, mc, ms⟩ := q
  obtain ⟨hx, hb, -⟩ := hC
  refine ⟨h.1, fun ad H locs cells slots lsM hR hS hL hst hc hs ha hn h0 => ?_⟩
  exact lv_lload_n hx hb hd rfl (hL.at hl (fun e => by cases e)) (h.2 ad H locs cells slots lsM hR hS hL (fun v hv => (List.mem_cons.mp hv).elim (fun e => by rw [e]; trivial) (fun hv => hst v hv)) hc hs ha hn h0)
theorem v_dload {k : Nat} {x : UInt64} (hC : lt_C X m) (hd : decode (lt_by m) pc = .ok (.dload k, 2)) (hl : ls[k]? = some (.double x)) (h : lt_V X m z q (pc + 2) ls (.double x :: r) M) : lt_V X m z q pc ls r M := by
  obtain ⟨p, l, e, R, s, mid, args, below, meth, c, D, G, A⟩ := X
  obtain ⟨n0, ad0, mc, ms⟩ := q
  obtain ⟨hx, hb, -⟩ := hC
  refine ⟨h.1, fun ad H locs cells slots lsM hR hS hL hst hc hs ha hn h0 => ?_⟩
  exact lv_dload hx hb hd (hL.at hl (fun e => by cases e)) (h.2 ad H locs cells slots lsM hR hS hL (fun v hv => (List.mem_cons.mp hv).elim (fun e => by rw [e]; trivial) (fun hv => hst v hv)) hc hs ha hn h0)
theorem v_aload {k : Nat} {x : Nat} (hC : lt_C X m) (hd : decode (lt_by m) pc = .ok (.aload k, 2)) (hl : ls[k]? = some (.ref x)) (h : lt_V X m z q (pc + 2) ls (.ref x :: r) M) : lt_V X m z q pc ls r M := by
  obtain ⟨p, l, e, R, s, mid, args, below, meth, c, D, G, A⟩ := X
  obtain ⟨n0, ad0, mc, ms⟩ := q
  obtain ⟨hx, hb, -⟩ := hC
  refine ⟨h.1, fun ad H locs cells slots lsM hR hS hL hst hc hs ha hn h0 => ?_⟩
  exact lv_aload hx hb hd (hL.at hl (fun e => by cases e)) (h.2 ad H locs cells slots lsM hR hS hL (fun v hv => (List.mem_cons.mp hv).elim (fun e => by rw [e]; exact (hL.2.2.2 _ _ hl (fun e => by cases e)).1) (fun hv => hst v hv)) hc hs ha hn h0)
theorem v_aloadN {k : Nat} (hC : lt_C X m) (hd : decode (lt_by m) pc = .ok (.aload k, 2)) (hl : ls[k]? = some .null) (h : lt_V X m z q (pc + 2) ls (.null :: r) M) : lt_V X m z q pc ls r M := by
  obtain ⟨p, l, e, R, s, mid, args, below, meth, c, D, G, A⟩ := X
  obtain ⟨n0, ad0, mc, ms⟩ := q
  obtain ⟨hx, hb, -⟩ := hC
  refine ⟨h.1, fun ad H locs cells slots lsM hR hS hL hst hc hs ha hn h0 => ?_⟩
  exact lv_aloadN hx hb hd (hL.at hl (fun e => by cases e)) (h.2 ad H locs cells slots lsM hR hS hL (fun v hv => (List.mem_cons.mp hv).elim (fun e => by rw [e]; trivial) (fun hv => hst v hv)) hc hs ha hn h0)
theorem v_aload_n {k : Fin 4} {x : Nat} (hC : lt_C X m) (hd : decode (lt_by m) pc = .ok (.aload_n k, 1)) (hl : ls[(k : Nat)]? = some (.ref x)) (h : lt_V X m z q (pc + 1) ls (.ref x :: r) M) : lt_V X m z q pc ls r M := by
  obtain ⟨p, l, e, R, s, mid, args, below, meth, c, D, G, A⟩ := X
  obtain ⟨n0, ad0, mc, ms⟩ := q
  obtain ⟨hx, hb, -⟩ := hC
  refine ⟨h.1, fun ad H locs cells slots lsM hR hS hL hst hc hs ha hn h0 => ?_⟩
  exact lv_aload_n hx hb hd rfl (hL.at hl (fun e => by cases e)) (h.2 ad H locs cells slots lsM hR hS hL (fun v hv => (List.mem_cons.mp hv).elim (fun e => by rw [e]; exact (hL.2.2.2 _ _ hl (fun e => by cases e)).1) (fun hv => hst v hv)) hc hs ha hn h0)
theorem v_aload_nN {k : Fin 4} (hC : lt_C X m) (hd : decode (lt_by m) pc = .ok (.aload_n k, 1)) (hl : ls[(k : Nat)]? = some .null) (h : lt_V X m z q (pc + 1) ls (.null :: r) M) : lt_V X m z q pc ls r M := by
  obtain ⟨p, l, e, R, s, mid, args, below, meth, c, D, G, A⟩ := X
  obtain ⟨n0, ad0, mc, ms⟩ := q
  obtain ⟨hx, hb, -⟩ := hC
  refine ⟨h.1, fun ad H locs cells slots lsM hR hS hL hst hc hs ha hn h0 => ?_⟩
  exact lv_aload_nN hx hb hd rfl (hL.at hl (fun e => by cases e)) (h.2 ad H locs cells slots lsM hR hS hL (fun v hv => (List.mem_cons.mp hv).elim (fun e => by rw [e]; trivial) (fun hv => hst v hv)) hc hs ha hn h0)
theorem v_istore {k : Nat} {x : Int32} (hC : lt_C X m) (hd : decode (lt_by m) pc = .ok (.istore k, 2)) (hk : k < ls.length) (h : lt_V X m z q (pc + 2) (lt_s1 ls k (.int x)) r M) : lt_V X m z q pc ls (.int x :: r) M := by
  obtain ⟨p, l, e, R, s, mid, args, below, meth, c, D, G, A⟩ := X
  obtain ⟨n0, ad0, mc, ms⟩ := q
  obtain ⟨hx, hb, -⟩ := hC
  refine ⟨h.1, fun ad H locs cells slots lsM hR hS hL hst hc hs ha hn h0 => ?_⟩
  refine lv_istore hx hb hd hL.has (by have := hL.2.1; omega) rfl fun ls2 hh => ?_
  exact h.2 ad H locs cells slots ls2 hR hS (hL.s1 (by have := hL.2.1; omega) (hst _ List.mem_cons_self) (fun e => by cases e) hh) (fun v hv => hst v (List.mem_cons_of_mem _ hv)) hc hs ha hn h0
theorem v_istore_n {k : Fin 4} {x : Int32} (hC : lt_C X m) (hd : decode (lt_by m) pc = .ok (.istore_n k, 1)) (hk : (k : Nat) < ls.length) (h : lt_V X m z q (pc + 1) (lt_s1 ls (k : Nat) (.int x)) r M) : lt_V X m z q pc ls (.int x :: r) M := by
  obtain ⟨p, l, e, R, s, mid, args, below, meth, c, D, G, A⟩ := X
  obtain ⟨n0, ad0, mc, ms⟩ := q
  obtain ⟨hx, hb, -⟩ := hC
  refine ⟨h.1, fun ad H locs cells slots lsM hR hS hL hst hc hs ha hn h0 => ?_⟩
  refine lv_istore_n hx hb hd rfl hL.has (by have := hL.2.1; omega) rfl fun ls2 hh => ?_
  exact h.2 ad H locs cells slots ls2 hR hS (hL.s1 (by have := hL.2.1; omega) (hst _ List.mem_cons_self) (fun e => by cases e) hh) (fun v hv => hst v (List.mem_cons_of_mem _ hv)) hc hs ha hn h0
theorem v_astore {k : Nat} {x : Nat} (hC : lt_C X m) (hd : decode (lt_by m) pc = .ok (.astore k, 2)) (hk : k < ls.length) (h : lt_V X m z q (pc + 2) (lt_s1 ls k (.ref x)) r M) : lt_V X m z q pc ls (.ref x :: r) M := by
  obtain ⟨p, l, e, R, s, mid, args, below, meth, c, D, G, A⟩ := X
  obtain ⟨n0, ad0, mc, ms⟩ := q
  obtain ⟨hx, hb, -⟩ := hC
  refine ⟨h.1, fun ad H locs cells slots lsM hR hS hL hst hc hs ha hn h0 => ?_⟩
  refine lv_astore hx hb hd hL.has (by have := hL.2.1; omega) rfl fun ls2 hh => ?_
  exact h.2 ad H locs cells slots ls2 hR hS (hL.s1 (by have := hL.2.1; omega) (hst _ List.mem_cons_self) (fun e => by cases e) hh) (fun v hv => hst v (List.mem_cons_of_mem _ hv)) hc hs ha hn h0
theorem v_astore_n {k : Fin 4} {x : Nat} (hC : lt_C X m) (hd : decode (lt_by m) pc = .ok (.astore_n k, 1)) (hk : (k : Nat) < ls.length) (h : lt_V X m z q (pc + 1) (lt_s1 ls (k : Nat) (.ref x)) r M) : lt_V X m z q pc ls (.ref x :: r) M := by
  obtain ⟨p, l, e, R, s, mid, args, below, meth, c, D, G, A⟩ := X
  obtain ⟨n0, ad0, mc, ms⟩ := q
  obtain ⟨hx, hb, -⟩ := hC
  refine ⟨h.1, fun ad H locs cells slots lsM hR hS hL hst hc hs ha hn h0 => ?_⟩
  refine lv_astore_n hx hb hd rfl hL.has (by have := hL.2.1; omega) rfl fun ls2 hh => ?_
  exact h.2 ad H locs cells slots ls2 hR hS (hL.s1 (by have := hL.2.1; omega) (hst _ List.mem_cons_self) (fun e => by cases e) hh) (fun v hv => hst v (List.mem_cons_of_mem _ hv)) hc hs ha hn h0
theorem v_lstore {k : Nat} {x : Int64} (hC : lt_C X m) (hd : decode (lt_by m) pc = .ok (.lstore k, 2)) (hk : k + 1 < ls.length) (h : lt_V X m z q (pc + 2) (lt_s2 ls k (.long x)) r M) : lt_V X m z q pc ls (.long x :: r) M := by
  obtain ⟨p, l, e, R, s, mid, args, below, meth, c, D, G, A⟩ := X
  obtain ⟨n0, ad0, mc, ms⟩ := q
  obtain ⟨hx, hb, -⟩ := hC
  refine ⟨h.1, fun ad H locs cells slots lsM hR hS hL hst hc hs ha hn h0 => ?_⟩
  refine lv_lstore hx hb hd hL.has (by have := hL.2.1; omega) rfl fun ls2 hh => ?_
  exact h.2 ad H locs cells slots ls2 hR hS (hL.s2 (by have := hL.2.1; omega) (hst _ List.mem_cons_self) hh) (fun v hv => hst v (List.mem_cons_of_mem _ hv)) hc hs ha hn h0
theorem v_lstore_n {k : Fin 4} {x : Int64} (hC : lt_C X m) (hd : decode (lt_by m) pc = .ok (.lstore_n k, 1)) (hk : (k : Nat) + 1 < ls.length) (h : lt_V X m z q (pc + 1) (lt_s2 ls (k : Nat) (.long x)) r M) : lt_V X m z q pc ls (.long x :: r) M := by
  obtain ⟨p, l, e, R, s, mid, args, below, meth, c, D, G, A⟩ := X
  obtain ⟨n0, ad0, mc, ms⟩ := q
  obtain ⟨hx, hb, -⟩ := hC
  refine ⟨h.1, fun ad H locs cells slots lsM hR hS hL hst hc hs ha hn h0 => ?_⟩
  refine lv_lstore_n hx hb hd rfl hL.has (by have := hL.2.1; omega) rfl fun ls2 hh => ?_
  exact h.2 ad H locs cells slots ls2 hR hS (hL.s2 (by have := hL.2.1; omega) (hst _ List.mem_cons_self) hh) (fun v hv => hst v (List.mem_cons_of_mem _ hv)) hc hs ha hn h0
theorem v_dstore {k : Nat} {x : UInt64} (hC : lt_C X m) (hd : decode (lt_by m) pc = .ok (.dstore k, 2)) (hk : k + 1 < ls.length) (h : lt_V X m z q (pc + 2) (lt_s2 ls k (.double x)) r M) : lt_V X m z q pc ls (.double x :: r) M := by
  obtain ⟨p, l, e, R, s, mid, args, below, meth, c, D, G, A⟩ := X
  obtain ⟨n0, ad0, mc, ms⟩ := q
  obtain ⟨hx, hb, -⟩ := hC
  refine ⟨h.1, fun ad H locs cells slots lsM hR hS hL hst hc hs ha hn h0 => ?_⟩
  refine lv_dstore hx hb hd hL.has (by have := hL.2.1; omega) rfl fun ls2 hh => ?_
  exact h.2 ad H locs cells slots ls2 hR hS (hL.s2 (by have := hL.2.1; omega) (hst _ List.mem_cons_self) hh) (fun v hv => hst v (List.mem_cons_of_mem _ hv)) hc hs ha hn h0
theorem v_astoreN {k : Nat} (hC : lt_C X m) (hd : decode (lt_by m) pc = .ok (.astore k, 2)) (hk : k < ls.length) (h : lt_V X m z q (pc + 2) (lt_s1 ls k .null) r M) : lt_V X m z q pc ls (.null :: r) M := by
  obtain ⟨p, l, e, R, s, mid, args, below, meth, c, D, G, A⟩ := X
  obtain ⟨n0, ad0, mc, ms⟩ := q
  obtain ⟨hx, hb, -⟩ := hC
  refine ⟨h.1, fun ad H locs cells slots lsM hR hS hL hst hc hs ha hn h0 => ?_⟩
  refine lv_astoreN hx hb hd hL.has (by have := hL.2.1; omega) rfl fun ls2 hh => ?_
  exact h.2 ad H locs cells slots ls2 hR hS (hL.s1 (v := .null) (by have := hL.2.1; omega) trivial (fun e => by cases e) hh) (fun v hv => hst v (List.mem_cons_of_mem _ hv)) hc hs ha hn h0
theorem v_astore_nN {k : Fin 4} (hC : lt_C X m) (hd : decode (lt_by m) pc = .ok (.astore_n k, 1)) (hk : (k : Nat) < ls.length) (h : lt_V X m z q (pc + 1) (lt_s1 ls (k : Nat) .null) r M) : lt_V X m z q pc ls (.null :: r) M := by
  obtain ⟨p, l, e, R, s, mid, args, below, meth, c, D, G, A⟩ := X
  obtain ⟨n0, ad0, mc, ms⟩ := q
  obtain ⟨hx, hb, -⟩ := hC
  refine ⟨h.1, fun ad H locs cells slots lsM hR hS hL hst hc hs ha hn h0 => ?_⟩
  refine lv_astore_nN hx hb hd rfl hL.has (by have := hL.2.1; omega) rfl fun ls2 hh => ?_
  exact h.2 ad H locs cells slots ls2 hR hS (hL.s1 (v := .null) (by have := hL.2.1; omega) trivial (fun e => by cases e) hh) (fun v hv => hst v (List.mem_cons_of_mem _ hv)) hc hs ha hn h0
theorem v_iinc {k : Nat} {n : Int} {x v : Int32} (hC : lt_C X m) (hd : decode (lt_by m) pc = .ok (.iinc k n, 3)) (hv : Int32.ofInt n = v) (hl : ls[k]? = some (.int x)) (h : lt_V X m z q (pc + 3) (lt_s1 ls k (.int (x + v))) r M) : lt_V X m z q pc ls r M := by
  obtain ⟨p, l, e, R, s, mid, args, below, meth, c, D, G, A⟩ := X
  obtain ⟨n0, ad0, mc, ms⟩ := q
  obtain ⟨hx, hb, -⟩ := hC
  refine ⟨h.1, fun ad H locs cells slots lsM hR hS hL hst hc hs ha hn h0 => ?_⟩
  obtain ⟨j, hj⟩ := List.getElem?_of_mem (lt_asl_in.mpr ⟨_, hl, (fun e => by cases e), rfl⟩ : (k, lt_v ad (.int x)) ∈ lt_asl ad ls)
  have hk : k < (lt_inf m).2.2.1 := by rw [← hL.2.1]; exact (List.getElem?_eq_some_iff.mp hl).1
  refine lv_iinc hx hb hd hL.has hj (by rw [hv]) hk rfl fun ls2 hh => ?_
  exact h.2 ad H locs cells slots ls2 hR hS (hL.s1 (v := .int (x + v)) hk trivial (fun e => by cases e) hh) hst hc hs ha hn h0
theorem v_dup {v : Value} (hC : lt_C X m) (hd : decode (lt_by m) pc = .ok (.dup, 1)) (h1 : lt_c1 v = true) (h : lt_V X m z q (pc + 1) ls (v :: v :: r) M) : lt_V X m z q pc ls (v :: r) M := by
  obtain ⟨p, l, e, R, s, mid, args, below, meth, c, D, G, A⟩ := X
  obtain ⟨n0, ad0, mc, ms⟩ := q
  obtain ⟨hx, hb, -⟩ := hC
  refine ⟨h.1, fun ad H locs cells slots lsM hR hS hL hst hc hs ha hn h0 => ?_⟩
  exact lv_dup hx hb hd (by cases v <;> first | rfl | cases h1) (h.2 ad H locs cells slots lsM hR hS hL (fun w hw => (List.mem_cons.mp hw).elim (fun e => hst w (by rw [e]; exact List.mem_cons_self)) (fun hw => hst w hw)) hc hs ha hn h0)
theorem v_dup2 {v w : Value} (hC : lt_C X m) (hd : decode (lt_by m) pc = .ok (.dup2, 1)) (h1 : lt_c1 v = true) (h2 : lt_c1 w = true) (h : lt_V X m z q (pc + 1) ls (v :: w :: v :: w :: r) M) : lt_V X m z q pc ls (v :: w :: r) M := by
  obtain ⟨p, l, e, R, s, mid, args, below, meth, c, D, G, A⟩ := X
  obtain ⟨n0, ad0, mc, ms⟩ := q
  obtain ⟨hx, hb, -⟩ := hC
  refine ⟨h.1, fun ad H locs cells slots lsM hR hS hL hst hc hs ha hn h0 => ?_⟩
  exact lv_dup2_11 hx hb hd (by cases v <;> first | rfl | cases h1) (by cases w <;> first | rfl | cases h2) (h.2 ad H locs cells slots lsM hR hS hL (fun u hu => (List.mem_cons.mp hu).elim (fun e => hst u (by rw [e]; exact List.mem_cons_self)) (fun hu => (List.mem_cons.mp hu).elim (fun e => hst u (by rw [e]; exact List.mem_cons_of_mem _ List.mem_cons_self)) (fun hu => hst u hu))) hc hs ha hn h0)
theorem v_pop {v : Value} (hC : lt_C X m) (hd : decode (lt_by m) pc = .ok (.pop, 1)) (h1 : lt_c1 v = true) (h : lt_V X m z q (pc + 1) ls r M) : lt_V X m z q pc ls (v :: r) M := by
  obtain ⟨p, l, e, R, s, mid, args, below, meth, c, D, G, A⟩ := X
  obtain ⟨n0, ad0, mc, ms⟩ := q
  obtain ⟨hx, hb, -⟩ := hC
  refine ⟨h.1, fun ad H locs cells slots lsM hR hS hL hst hc hs ha hn h0 => ?_⟩
  exact lv_pop hx hb hd (by cases v <;> first | rfl | cases h1) (h.2 ad H locs cells slots lsM hR hS hL (fun w hw => hst w (List.mem_cons_of_mem _ hw)) hc hs ha hn h0)
theorem v_goto {k : Int} {t : Nat} (hC : lt_C X m) (hd : decode (lt_by m) pc = .ok (.goto k, 3)) (ht : (pc : Int) + k = (t : Int)) (h : lt_V X m z q t ls r M) : lt_V X m z q pc ls r M := by
  obtain ⟨p, l, e, R, s, mid, args, below, meth, c, D, G, A⟩ := X
  obtain ⟨n0, ad0, mc, ms⟩ := q
  obtain ⟨hx, hb, -⟩ := hC
  refine ⟨h.1, fun ad H locs cells slots lsM hR hS hL hst hc hs ha hn h0 => ?_⟩
  exact lv_goto hx hb hd ht (h.2 ad H locs cells slots lsM hR hS hL hst hc hs ha hn h0)
theorem v_ifnull {x : Nat} {k : Int} (hC : lt_C X m) (hd : decode (lt_by m) pc = .ok (.ifnull k, 3)) (h : lt_V X m z q (pc + 3) ls r M) : lt_V X m z q pc ls (.ref x :: r) M := by
  obtain ⟨p, l, e, R, s, mid, args, below, meth, c, D, G, A⟩ := X
  obtain ⟨n0, ad0, mc, ms⟩ := q
  obtain ⟨hx, hb, -⟩ := hC
  refine ⟨h.1, fun ad H locs cells slots lsM hR hS hL hst hc hs ha hn h0 => ?_⟩
  exact lv_ifnull hx hb hd (h.2 ad H locs cells slots lsM hR hS hL (fun w hw => hst w (List.mem_cons_of_mem _ hw)) hc hs ha hn h0)
theorem v_ifnullN {k : Int} {t : Nat} (hC : lt_C X m) (hd : decode (lt_by m) pc = .ok (.ifnull k, 3)) (ht : (pc : Int) + k = (t : Int)) (h : lt_V X m z q t ls r M) : lt_V X m z q pc ls (.null :: r) M := by
  obtain ⟨p, l, e, R, s, mid, args, below, meth, c, D, G, A⟩ := X
  obtain ⟨n0, ad0, mc, ms⟩ := q
  obtain ⟨hx, hb, -⟩ := hC
  refine ⟨h.1, fun ad H locs cells slots lsM hR hS hL hst hc hs ha hn h0 => ?_⟩
  exact lv_ifnullN hx hb hd ht (h.2 ad H locs cells slots lsM hR hS hL (fun w hw => hst w (List.mem_cons_of_mem _ hw)) hc hs ha hn h0)
theorem v_ifnonnull {x : Nat} {k : Int} {t : Nat} (hC : lt_C X m) (hd : decode (lt_by m) pc = .ok (.ifnonnull k, 3)) (ht : (pc : Int) + k = (t : Int)) (h : lt_V X m z q t ls r M) : lt_V X m z q pc ls (.ref x :: r) M := by
  obtain ⟨p, l, e, R, s, mid, args, below, meth, c, D, G, A⟩ := X
  obtain ⟨n0, ad0, mc, ms⟩ := q
  obtain ⟨hx, hb, -⟩ := hC
  refine ⟨h.1, fun ad H locs cells slots lsM hR hS hL hst hc hs ha hn h0 => ?_⟩
  exact lv_ifnonnull hx hb hd ht (h.2 ad H locs cells slots lsM hR hS hL (fun w hw => hst w (List.mem_cons_of_mem _ hw)) hc hs ha hn h0)
theorem v_ifnonnullN {k : Int} (hC : lt_C X m) (hd : decode (lt_by m) pc = .ok (.ifnonnull k, 3)) (h : lt_V X m z q (pc + 3) ls r M) : lt_V X m z q pc ls (.null :: r) M := by
  obtain ⟨p, l, e, R, s, mid, args, below, meth, c, D, G, A⟩ := X
  obtain ⟨n0, ad0, mc, ms⟩ := q
  obtain ⟨hx, hb, -⟩ := hC
  refine ⟨h.1, fun ad H locs cells slots lsM hR hS hL hst hc hs ha hn h0 => ?_⟩
  exact lv_ifnonnullN hx hb hd (h.2 ad H locs cells slots lsM hR hS hL (fun w hw => hst w (List.mem_cons_of_mem _ hw)) hc hs ha hn h0)
theorem v_if_eq {x : Int32} {k : Int} {t : Nat} (hC : lt_C X m) (hd : decode (lt_by m) pc = .ok (.ifCond .eq k, 3)) (ht : (pc : Int) + k = (t : Int)) (hg : lt_ge M z.2) (kt : x = 0 → lt_V X m z q t ls r M) (kf : ¬ (x = 0) → lt_V X m z q (pc + 3) ls r M) : lt_V X m z q pc ls (.int x :: r) M := by
  obtain ⟨p, l, e, R, s, mid, args, below, meth, c, D, G, A⟩ := X
  obtain ⟨n0, ad0, mc, ms⟩ := q
  obtain ⟨hx, hb, -⟩ := hC
  refine ⟨hg, fun ad H locs cells slots lsM hR hS hL hst hc hs ha hn h0 => ?_⟩
  exact lv_if_eq hx hb hd ht (fun g => (kt g).2 ad H locs cells slots lsM hR hS hL (fun w hw => hst w (List.mem_cons_of_mem _ hw)) hc hs ha hn h0) (fun g => (kf g).2 ad H locs cells slots lsM hR hS hL (fun w hw => hst w (List.mem_cons_of_mem _ hw)) hc hs ha hn h0)
theorem v_if_ne {x : Int32} {k : Int} {t : Nat} (hC : lt_C X m) (hd : decode (lt_by m) pc = .ok (.ifCond .ne k, 3)) (ht : (pc : Int) + k = (t : Int)) (hg : lt_ge M z.2) (kt : ¬ x = 0 → lt_V X m z q t ls r M) (kf : ¬ (¬ x = 0) → lt_V X m z q (pc + 3) ls r M) : lt_V X m z q pc ls (.int x :: r) M := by
  obtain ⟨p, l, e, R, s, mid, args, below, meth, c, D, G, A⟩ := X
  obtain ⟨n0, ad0, mc, ms⟩ := q
  obtain ⟨hx, hb, -⟩ := hC
  refine ⟨hg, fun ad H locs cells slots lsM hR hS hL hst hc hs ha hn h0 => ?_⟩
  exact lv_if_ne hx hb hd ht (fun g => (kt g).2 ad H locs cells slots lsM hR hS hL (fun w hw => hst w (List.mem_cons_of_mem _ hw)) hc hs ha hn h0) (fun g => (kf (fun g2 => g2 g)).2 ad H locs cells slots lsM hR hS hL (fun w hw => hst w (List.mem_cons_of_mem _ hw)) hc hs ha hn h0)
theorem v_if_lt {x : Int32} {k : Int} {t : Nat} (hC : lt_C X m) (hd : decode (lt_by m) pc = .ok (.ifCond .lt k, 3)) (ht : (pc : Int) + k = (t : Int)) (hg : lt_ge M z.2) (kt : x < 0 → lt_V X m z q t ls r M) (kf : ¬ (x < 0) → lt_V X m z q (pc + 3) ls r M) : lt_V X m z q pc ls (.int x :: r) M := by
  obtain ⟨p, l, e, R, s, mid, args, below, meth, c, D, G, A⟩ := X
  obtain ⟨n0, ad0, mc, ms⟩ := q
  obtain ⟨hx, hb, -⟩ := hC
  refine ⟨hg, fun ad H locs cells slots lsM hR hS hL hst hc hs ha hn h0 => ?_⟩
  exact lv_if_lt hx hb hd ht (fun g => (kt g).2 ad H locs cells slots lsM hR hS hL (fun w hw => hst w (List.mem_cons_of_mem _ hw)) hc hs ha hn h0) (fun g => (kf g).2 ad H locs cells slots lsM hR hS hL (fun w hw => hst w (List.mem_cons_of_mem _ hw)) hc hs ha hn h0)
theorem v_if_ge {x : Int32} {k : Int} {t : Nat} (hC : lt_C X m) (hd : decode (lt_by m) pc = .ok (.ifCond .ge k, 3)) (ht : (pc : Int) + k = (t : Int)) (hg : lt_ge M z.2) (kt : 0 ≤ x → lt_V X m z q t ls r M) (kf : ¬ (0 ≤ x) → lt_V X m z q (pc + 3) ls r M) : lt_V X m z q pc ls (.int x :: r) M := by
  obtain ⟨p, l, e, R, s, mid, args, below, meth, c, D, G, A⟩ := X
  obtain ⟨n0, ad0, mc, ms⟩ := q
  obtain ⟨hx, hb, -⟩ := hC
  refine ⟨hg, fun ad H locs cells slots lsM hR hS hL hst hc hs ha hn h0 => ?_⟩
  exact lv_if_ge hx hb hd ht (fun g => (kt g).2 ad H locs cells slots lsM hR hS hL (fun w hw => hst w (List.mem_cons_of_mem _ hw)) hc hs ha hn h0) (fun g => (kf g).2 ad H locs cells slots lsM hR hS hL (fun w hw => hst w (List.mem_cons_of_mem _ hw)) hc hs ha hn h0)
theorem v_if_gt {x : Int32} {k : Int} {t : Nat} (hC : lt_C X m) (hd : decode (lt_by m) pc = .ok (.ifCond .gt k, 3)) (ht : (pc : Int) + k = (t : Int)) (hg : lt_ge M z.2) (kt : 0 < x → lt_V X m z q t ls r M) (kf : ¬ (0 < x) → lt_V X m z q (pc + 3) ls r M) : lt_V X m z q pc ls (.int x :: r) M := by
  obtain ⟨p, l, e, R, s, mid, args, below, meth, c, D, G, A⟩ := X
  obtain ⟨n0, ad0, mc, ms⟩ := q
  obtain ⟨hx, hb, -⟩ := hC
  refine ⟨hg, fun ad H locs cells slots lsM hR hS hL hst hc hs ha hn h0 => ?_⟩
  exact lv_if_gt hx hb hd ht (fun g => (kt g).2 ad H locs cells slots lsM hR hS hL (fun w hw => hst w (List.mem_cons_of_mem _ hw)) hc hs ha hn h0) (fun g => (kf g).2 ad H locs cells slots lsM hR hS hL (fun w hw => hst w (List.mem_cons_of_mem _ hw)) hc hs ha hn h0)
theorem v_if_le {x : Int32} {k : Int} {t : Nat} (hC : lt_C X m) (hd : decode (lt_by m) pc = .ok (.ifCond .le k, 3)) (ht : (pc : Int) + k = (t : Int)) (hg : lt_ge M z.2) (kt : x ≤ 0 → lt_V X m z q t ls r M) (kf : ¬ (x ≤ 0) → lt_V X m z q (pc + 3) ls r M) : lt_V X m z q pc ls (.int x :: r) M := by
  obtain ⟨p, l, e, R, s, mid, args, below, meth, c, D, G, A⟩ := X
  obtain ⟨n0, ad0, mc, ms⟩ := q
  obtain ⟨hx, hb, -⟩ := hC
  refine ⟨hg, fun ad H locs cells slots lsM hR hS hL hst hc hs ha hn h0 => ?_⟩
  exact lv_if_le hx hb hd ht (fun g => (kt g).2 ad H locs cells slots lsM hR hS hL (fun w hw => hst w (List.mem_cons_of_mem _ hw)) hc hs ha hn h0) (fun g => (kf g).2 ad H locs cells slots lsM hR hS hL (fun w hw => hst w (List.mem_cons_of_mem _ hw)) hc hs ha hn h0)
theorem v_ic_eq {x y : Int32} {k : Int} {t : Nat} (hC : lt_C X m) (hd : decode (lt_by m) pc = .ok (.if_icmp .eq k, 3)) (ht : (pc : Int) + k = (t : Int)) (hg : lt_ge M z.2) (kt : x = y → lt_V X m z q t ls r M) (kf : ¬ (x = y) → lt_V X m z q (pc + 3) ls r M) : lt_V X m z q pc ls (.int y :: .int x :: r) M := by
  obtain ⟨p, l, e, R, s, mid, args, below, meth, c, D, G, A⟩ := X
  obtain ⟨n0, ad0, mc, ms⟩ := q
  obtain ⟨hx, hb, -⟩ := hC
  refine ⟨hg, fun ad H locs cells slots lsM hR hS hL hst hc hs ha hn h0 => ?_⟩
  exact lv_icmp_eq hx hb hd ht (fun g => (kt g).2 ad H locs cells slots lsM hR hS hL (fun w hw => hst w (List.mem_cons_of_mem _ (List.mem_cons_of_mem _ hw))) hc hs ha hn h0) (fun g => (kf g).2 ad H locs cells slots lsM hR hS hL (fun w hw => hst w (List.mem_cons_of_mem _ (List.mem_cons_of_mem _ hw))) hc hs ha hn h0)
theorem v_ic_ne {x y : Int32} {k : Int} {t : Nat} (hC : lt_C X m) (hd : decode (lt_by m) pc = .ok (.if_icmp .ne k, 3)) (ht : (pc : Int) + k = (t : Int)) (hg : lt_ge M z.2) (kt : ¬ x = y → lt_V X m z q t ls r M) (kf : ¬ (¬ x = y) → lt_V X m z q (pc + 3) ls r M) : lt_V X m z q pc ls (.int y :: .int x :: r) M := by
  obtain ⟨p, l, e, R, s, mid, args, below, meth, c, D, G, A⟩ := X
  obtain ⟨n0, ad0, mc, ms⟩ := q
  obtain ⟨hx, hb, -⟩ := hC
  refine ⟨hg, fun ad H locs cells slots lsM hR hS hL hst hc hs ha hn h0 => ?_⟩
  exact lv_icmp_ne hx hb hd ht (fun g => (kt g).2 ad H locs cells slots lsM hR hS hL (fun w hw => hst w (List.mem_cons_of_mem _ (List.mem_cons_of_mem _ hw))) hc hs ha hn h0) (fun g => (kf (fun g2 => g2 g)).2 ad H locs cells slots lsM hR hS hL (fun w hw => hst w (List.mem_cons_of_mem _ (List.mem_cons_of_mem _ hw))) hc hs ha hn h0)
theorem v_ic_lt {x y : Int32} {k : Int} {t : Nat} (hC : lt_C X m) (hd : decode (lt_by m) pc = .ok (.if_icmp .lt k, 3)) (ht : (pc : Int) + k = (t : Int)) (hg : lt_ge M z.2) (kt : x < y → lt_V X m z q t ls r M) (kf : ¬ (x < y) → lt_V X m z q (pc + 3) ls r M) : lt_V X m z q pc ls (.int y :: .int x :: r) M := by
  obtain ⟨p, l, e, R, s, mid, args, below, meth, c, D, G, A⟩ := X
  obtain ⟨n0, ad0, mc, ms⟩ := q
  obtain ⟨hx, hb, -⟩ := hC
  refine ⟨hg, fun ad H locs cells slots lsM hR hS hL hst hc hs ha hn h0 => ?_⟩
  exact lv_icmp_lt hx hb hd ht (fun g => (kt g).2 ad H locs cells slots lsM hR hS hL (fun w hw => hst w (List.mem_cons_of_mem _ (List.mem_cons_of_mem _ hw))) hc hs ha hn h0) (fun g => (kf g).2 ad H locs cells slots lsM hR hS hL (fun w hw => hst w (List.mem_cons_of_mem _ (List.mem_cons_of_mem _ hw))) hc hs ha hn h0)
theorem v_ic_ge {x y : Int32} {k : Int} {t : Nat} (hC : lt_C X m) (hd : decode (lt_by m) pc = .ok (.if_icmp .ge k, 3)) (ht : (pc : Int) + k = (t : Int)) (hg : lt_ge M z.2) (kt : y ≤ x → lt_V X m z q t ls r M) (kf : ¬ (y ≤ x) → lt_V X m z q (pc + 3) ls r M) : lt_V X m z q pc ls (.int y :: .int x :: r) M := by
  obtain ⟨p, l, e, R, s, mid, args, below, meth, c, D, G, A⟩ := X
  obtain ⟨n0, ad0, mc, ms⟩ := q
  obtain ⟨hx, hb, -⟩ := hC
  refine ⟨hg, fun ad H locs cells slots lsM hR hS hL hst hc hs ha hn h0 => ?_⟩
  exact lv_icmp_ge hx hb hd ht (fun g => (kt g).2 ad H locs cells slots lsM hR hS hL (fun w hw => hst w (List.mem_cons_of_mem _ (List.mem_cons_of_mem _ hw))) hc hs ha hn h0) (fun g => (kf g).2 ad H locs cells slots lsM hR hS hL (fun w hw => hst w (List.mem_cons_of_mem _ (List.mem_cons_of_mem _ hw))) hc hs ha hn h0)
theorem v_ic_gt {x y : Int32} {k : Int} {t : Nat} (hC : lt_C X m) (hd : decode (lt_by m) pc = .ok (.if_icmp .gt k, 3)) (ht : (pc : Int) + k = (t : Int)) (hg : lt_ge M z.2) (kt : y < x → lt_V X m z q t ls r M) (kf : ¬ (y < x) → lt_V X m z q (pc + 3) ls r M) : lt_V X m z q pc ls (.int y :: .int x :: r) M := by
  obtain ⟨p, l, e, R, s, mid, args, below, meth, c, D, G, A⟩ := X
  obtain ⟨n0, ad0, mc, ms⟩ := q
  obtain ⟨hx, hb, -⟩ := hC
  refine ⟨hg, fun ad H locs cells slots lsM hR hS hL hst hc hs ha hn h0 => ?_⟩
  exact lv_icmp_gt hx hb hd ht (fun g => (kt g).2 ad H locs cells slots lsM hR hS hL (fun w hw => hst w (List.mem_cons_of_mem _ (List.mem_cons_of_mem _ hw))) hc hs ha hn h0) (fun g => (kf g).2 ad H locs cells slots lsM hR hS hL (fun w hw => hst w (List.mem_cons_of_mem _ (List.mem_cons_of_mem _ hw))) hc hs ha hn h0)
theorem v_ic_le {x y : Int32} {k : Int} {t : Nat} (hC : lt_C X m) (hd : decode (lt_by m) pc = .ok (.if_icmp .le k, 3)) (ht : (pc : Int) + k = (t : Int)) (hg : lt_ge M z.2) (kt : x ≤ y → lt_V X m z q t ls r M) (kf : ¬ (x ≤ y) → lt_V X m z q (pc + 3) ls r M) : lt_V X m z q pc ls (.int y :: .int x :: r) M := by
  obtain ⟨p, l, e, R, s, mid, args, below, meth, c, D, G, A⟩ := X
  obtain ⟨n0, ad0, mc, ms⟩ := q
  obtain ⟨hx, hb, -⟩ := hC
  refine ⟨hg, fun ad H locs cells slots lsM hR hS hL hst hc hs ha hn h0 => ?_⟩
  exact lv_icmp_le hx hb hd ht (fun g => (kt g).2 ad H locs cells slots lsM hR hS hL (fun w hw => hst w (List.mem_cons_of_mem _ (List.mem_cons_of_mem _ hw))) hc hs ha hn h0) (fun g => (kf g).2 ad H locs cells slots lsM hR hS hL (fun w hw => hst w (List.mem_cons_of_mem _ (List.mem_cons_of_mem _ hw))) hc hs ha hn h0)
end VP
