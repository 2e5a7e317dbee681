/-! THE CLAIM OUT OF ONE WALK OF THE LAW'S BODY. Your part is whole_start (and what it stands on); all else here is the same for every law, but numbers. -/
def R_law : String := "CachebenchLaw"
def lw_P (b : Addr) (xs : List Int32) (args : Array Value) (s : State) : Prop := args = #[.ref b] ∧ s.IntsAt b xs ∧ xs.length ≤ 260 ∧ (Jvm.Cond.and given_1 narrow_1).before args s = true
def lw_Q (_ : Array Value) (s : State) (o : Outcome) (t : State) : Prop := o = .returned (some (.int 1)) ∧ Framed s o t [] room_1.cells room_1.slots
def lw_Z (below : List Frame) (a : Array Value) (s : State) : State → Prop := fun t => ∃ o, t.status = .running ∧ Ended t below o ∧ lw_Q a s o t
/-- the law's own end, with 1 on the stack, nothing written that was there before, its room as the claim has it -/
theorem lw_ret {p : Program} {l : Launch} {e : Env} {s : State} {m : MethodId} {below : List Frame} {meth : Method} {c : Code} {b : Nat} (hx : p.tables.exec = Jvm.exec) (hb : c.code = code) (hr : meth.sig.returnType = ret) (hlocks : meth.locks = false) {pc : Nat} {H : Heap} {ls : Array Slot} (hdg : decode code pc = .ok (.ireturn, 1)) : W p l e room_1 s m #[Value.ref b] below meth c H [] room_1.cells room_1.slots (lw_Z below #[Value.ref b] s) (F0 m pc ls [.int 1]) := by
  intro T hT X
  obtain ⟨fs, hret, hrun, hended, hW, hframe⟩ := X.leave (v := some (.int 1)) (hlocks := hlocks) (fun h => by rw [hr] at h; cases h)
  have hmeth' : T.vm.method? m = some meth := X.method'
  refine ⟨T.setFrames fs, ?_, .returned (some (.int 1)), hrun, hended, rfl, ⟨_, rfl⟩, hW, hframe⟩
  jvm_step X.here [X.here.top, hx, hb, hdg, hmeth', hr, ret, narrow_b1]
  (try refine ⟨rfl, ?_⟩); (try refine ⟨rfl, ?_⟩)
  first | (intro acts; rw [hret _ acts rfl rfl rfl]) | rw [hret _ _ rfl rfl rfl]
  exact Steps.refl _
/-- what holds at the law's entry: the machine, the code, the tables' words (any of lw_tbl by 'hts w (by decide +kernel)'), the script of L ints xs at the cell b, what the Statement gives of the start (any of its parts by flat_of_before) -/
def lw_At (p : Program) (s : State) (m : MethodId) (meth : Method) (c : Code) (b L : Nat) (xs : Nat → Int32) : Prop :=
  p.tables.exec = Jvm.exec ∧ c.code = code ∧ meth.sig.returnType = ret ∧ c.maxLocals = 4 ∧ s.vm.findClass R_law = some m.cls ∧ (∀ w ∈ lw_tbl, w.before #[Value.ref b] s = true) ∧ va_X b L xs s s.heap ∧ b < s.heap.size ∧ meth.locks = false ∧ (Jvm.Cond.and given_1 narrow_1).before #[Value.ref b] s = true ∧ c.exceptionTable.toList = []

/-! THE START: what the tables say of the classes, of arrays, of exceptions -/
def lt_M0 (L : Nat) (xs : Nat → Int32) : LM := (fun a => if a = 0 then xs else fun _ => 0, fun _ _ => 0, fun _ _ => none, fun _ _ => 0, fun a => if a = 0 then 9 else 0, fun a => if a = 0 then L else 0, 1, 0, 0)
theorem lt_hh0 : ∀ m, m < 150 → lt_hh m = [] := by decide +kernel
theorem lt_known {args : Array Value} {s : State} (hts : ∀ w ∈ lw_tbl, w.before args s = true) (hgv : (Jvm.Cond.and given_1 narrow_1).before args s = true) : ∃ (D : va_G) (G : Nat → ClassId), lt_K D G s := by
  have hD : ∀ c : Nat, ∃ (cC : ClassId) (iS : Nat → Nat), ∀ q : vw_C, vwCl[c]? = some q → u_Kn s q.1 q.2.1 q.2.2 cC iS := by
    intro c
    cases hc : vwCl[c]? with
    | none => exact ⟨0, fun _ => 0, (fun q hq => by cases hq)⟩
    | some q =>
      obtain ⟨rr, f1, f2, f3, f4, -⟩ := lt_kw_spec (lt_cl12 hc)
      cases hc.symm.trans f1
      obtain ⟨cC, iS, h⟩ := u_known hts (fun w hw => (List.mem_filter.mp (f4 w hw)).1) (hts _ (List.mem_filter.mp f2).1)
      exact ⟨cC, iS, (fun q' hq' => by cases hq'; exact h)⟩
  have prim : ∀ ty : FieldType, Cond.arrayClass ty ∈ lw_good → (∀ g, va_RA s g ty = (s.vm.findClass ("[" ++ ty.toString) = some g)) → ∃ g, ArrOfT s g ty ∧ va_RA s g ty := fun ty hw hra => by
    obtain ⟨cA, kA, comp, h1, h2, h3⟩ := Cond.arrayClass_spec (hts _ (List.mem_filter.mp hw).1)
    exact ⟨cA, fun n z => ⟨(fun k h => by cases h), kA, h2, comp, h3⟩, by rw [hra]; exact h1⟩
  have objs : ∀ C : String, Cond.arrayOver (.object C) ∈ lw_tbl → ∃ g, ArrOfT s g (.object C) ∧ va_RA s g (.object C) := fun C hw => by
    obtain ⟨comp, c, k, h1, h2, h3, h4, h5⟩ := Cond.arrayOver_spec (hts _ hw)
    exact ⟨c, fun n z => ⟨(fun k h => by cases h), k, h3, comp, h4⟩, k, comp, h3, h4, h1, h5⟩
  have arrs : ∀ t : FieldType, Cond.arrayOver (.array t) ∈ lw_tbl → ∃ g, ArrOfT s g (.array t) ∧ va_RA s g (.array t) := fun t hw => by
    obtain ⟨comp, c, k, h1, h2, h3, h4, h5⟩ := arrayOver_specB (hts _ hw)
    exact ⟨c, fun n z => ⟨(fun k h => by cases h), k, h3, comp, h4⟩, h5⟩
  obtain ⟨g1, h1⟩ := prim .int lt_ac_int (fun _ => rfl)
  obtain ⟨g2, h2⟩ := prim .long lt_ac_long (fun _ => rfl)
  obtain ⟨g3, h3⟩ := prim .boolean lt_ac_boolean (fun _ => rfl)
  obtain ⟨g5, h5⟩ := objs _ (List.mem_of_getElem? lt_ao_Bench)
  obtain ⟨g6, h6⟩ := objs _ (List.mem_of_getElem? lt_ao_Cache)
  obtain ⟨g7, h7⟩ := arrs _ (List.mem_of_getElem? lt_ao_int)
  obtain ⟨g8, h8⟩ := objs _ (List.mem_of_getElem? lt_ao_Plain)
  refine ⟨(fun c => Classical.choose (hD c), fun c => Classical.choose (Classical.choose_spec (hD c))), fun k => [g1, g1, g2, g3, g1, g5, g6, g7, g8].getD k g1, ⟨fun c q hq => Classical.choose_spec (Classical.choose_spec (hD c)) q hq, fun k q hq => ?_⟩, fun w hw => ?_, fun e e' he he' hne hx => ?_, hts _ (List.mem_of_getElem? lt_ao_Bench), hts _ (List.mem_of_getElem? lt_ao_Cache), hts _ (List.mem_of_getElem? lt_ao_int), hts _ (List.mem_of_getElem? lt_ao_Plain)⟩
  · rcases k with _ | _ | _ | _ | _ | _ | _ | _ | k
    · cases hq; exact h1
    · cases hq; exact h2
    · cases hq; exact h3
    · cases hq; exact h1
    · cases hq; exact h5
    · cases hq; exact h6
    · cases hq; exact h7
    · cases hq; exact h8
    · cases hq
  · have hm := List.mem_filter.mp hw
    have h9 := hts w hm.1
    have hN := hm.2
    have hT : w.onTables = true := by
      revert hN
      cases w <;> first | exact fun _ => rfl | exact fun h => absurd h Bool.false_ne_true
    exact va_tabs hT rfl h9
  · obtain ⟨m, h1, h2⟩ := hx
    exact absurd (lt_hh0 m h1) h2
theorem lt_throwable {args : Array Value} {s : State} (hts : ∀ w ∈ lw_tbl, w.before args s = true) (hgv : (Jvm.Cond.and given_1 narrow_1).before args s = true) {A : Nat → Prop} (hA : ∀ a : Nat, a < s.heap.size → ¬ A a) : lt_Z A s s.heap := by
  have hs := flat_of_before _ hgv
  exact ⟨vx_Zqof (hts _ (by decide +kernel)) (hts _ (by decide +kernel)) (hs _ (by decide +kernel)) hA, vx_Zqof (hts _ (by decide +kernel)) (hts _ (by decide +kernel)) (hs _ (by decide +kernel)) hA⟩
theorem lt_149b : lt_by 149 = code := rfl
theorem lt_149 : (lt_inf 149).2.2.1 = 4 ∧ lt_cn (lt_inf 149).1 = R_law ∧ lt_ret 149 = ret ∧ lt_hh 149 = [] ∧ lt_ini 149 = false := by decide +kernel
/-- THE LAW'S RUN IN THE LITTLE MACHINE IS THE LAW'S RUN -/
theorem lt_start {p : Program} {e : Env} {s : State} {m : MethodId} {below : List Frame} {meth : Method} {c : Code} (l : Launch) (hflags : l.flags = flags0) {b L : Nat} {xs : Nat → Int32} (C0 : lw_At p s m meth c b L xs) {d : Nat} (hd : d ≤ 1300) {Mz : LM}
    (hev : ev (d + 1) 149 0 (lt_sp 4 [.ref 0]) [] (lt_M0 L xs) = some (.inl (some (.int 1)), Mz)) (hmc : mC Mz ≤ room_1.cells) (hms : mS Mz ≤ room_1.slots) : W p l e room_1 s m #[Value.ref b] below meth c s.heap [] 0 0 (lw_Z below #[Value.ref b] s) (entryFrame m ([Value.ref b] : List Value).toArray 4) := by
  obtain ⟨c1, c2, c3, c4, c5, c6, c7, c8, c9, c10, c11⟩ := C0
  have k1 := lt_149b
  obtain ⟨k2, k3, k4, k5, k6⟩ := lt_149
  have hl : l.stackTraces = false := by unfold Launch.stackTraces; rw [hflags]; decide +kernel
  obtain ⟨D, G, hK⟩ := lt_known c6 c10
  let A : Nat → Prop := fun q => s.heap.size ≤ q
  have hA : ∀ q, s.heap.size ≤ q → A q := fun q h => h
  have hnA : ∀ a : Nat, a < s.heap.size → ¬ A a := fun a h h' => Nat.not_le.mpr h h'
  have hZ : lt_Z A s s.heap := lt_throwable c6 c10 hnA
  have hC : lt_C (p, l, e, room_1, s, m, #[Value.ref b], below, meth, c, D, G, A) 149 :=
    ⟨c1, by rw [c2, k1], by rw [c4, k2], by rw [k3]; exact c5, fun w hw => c6 w (List.mem_filter.mp hw).1, by rw [c3, k4], c9, by omega, (fun h => by rw [k6] at h; cases h), by rw [c11, k5]; rfl, hl, hK, hZ, hA⟩
  have h9 : lt_9 (lt_M0 L xs) := fun a ha => by
    have h' : (if a = 0 then 9 else 0) = 9 := ha
    split at h'
    · next h => exact h
    · cases h'
  have hU := ev_ok hl d (by omega) hev
  have hV := (hU h9).2 (p, l, e, room_1, s, m, #[Value.ref b], below, meth, c, D, G, A) (1, fun _ => b, room_1.cells, room_1.slots) ⟨hC, ⟨Nat.le_refl _, Nat.le_refl _⟩, rfl, by show d + 7 ≤ 2048; omega, by show 64 * d + 200 ≤ 84000; omega⟩
  have hws : lt_ws G (fun _ => b) (lt_M0 L xs) = [] := rfl
  have hR : lt_R D G A (fun _ => b) (lt_M0 L xs) s s.heap := by
    refine ⟨?_, ?_, c7, ⟨hnA b c8, c8⟩, (fun k i q h => by cases h), fun k h => ?_, rfl, Nat.le_refl _⟩
    · rw [hws]; intro k q hq; cases hq
    · rw [hws]; exact ⟨(fun i j x y hi => by cases hi), (fun k q hq => by cases hq)⟩
    · have h' : (if k = 0 then 9 else 0) ≠ 0 := h
      split at h'
      · next h2 => rw [h2]; exact Nat.zero_lt_one
      · exact absurd rfl h'
  have go := hV.2 (fun _ => b) s.heap [] 0 0 _ hR va_S.rf (lt_L.entry (ad := fun _ => b) (k := 1) (n := (lt_inf 149).2.2.1) (as := [.ref 0]) (by rw [k2]; decide) (fun v hv => by rw [List.mem_singleton.mp hv]; exact Nat.zero_lt_one)) (fun v hv => by cases hv) (by show 0 + (mC Mz - 0) ≤ room_1.cells; omega) (by show 0 + (mS Mz - 0) ≤ room_1.slots; omega) (fun _ _ => rfl) (Nat.le_refl _) c8
  rw [lg_entry_eq]
  intro T hT X
  obtain ⟨t, a1, o, b1, b2, b3⟩ := go T hT X
  refine ⟨t, a1, o, b1, b2, ?_⟩
  rcases b3 with ⟨⟨v, ad', hv, ho, -⟩, Ls, ⟨-, hW, hsm⟩, hLs⟩ | ⟨q, -, E, ce, L0, ⟨e0, ad', hx, -⟩, -⟩
  · cases hv
    refine ⟨ho, ?_⟩
    have hsm' : s.sameButNew ({ t with vm := s.vm } : State) [] room_1.cells room_1.slots := hsm.weaken (fun y hy hlt => absurd hlt (Nat.not_lt.mpr (hLs y hy))) (Nat.le_refl _) (Nat.le_refl _)
    exact ⟨⟨_, ho⟩, hW, hsm'⟩
  · cases hx
