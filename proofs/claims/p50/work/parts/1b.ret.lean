/-! RETURNS AND THROWS of the little machine are the machine's -/
theorem lt_rk0 {r : Option FieldType} (h : lt_rk r = 0) : r = none := by
  rcases r with _ | t
  · rfl
  · cases t <;> simp [lt_rk] at h
theorem lt_rk1 {r : Option FieldType} (h : lt_rk r = 1) : r = some .int := by
  rcases r with _ | t
  · simp [lt_rk] at h
  · cases t <;> first | rfl | simp [lt_rk] at h
theorem lt_rk2 {r : Option FieldType} (h : lt_rk r = 2) : r = some .long := by
  rcases r with _ | t
  · simp [lt_rk] at h
  · cases t <;> first | rfl | simp [lt_rk] at h
theorem lt_rk3 {r : Option FieldType} (h : lt_rk r = 3) : ∃ rt, r = some rt ∧ ((∃ n, rt = .object n) ∨ ∃ t, rt = .array t) := by
  rcases r with _ | t
  · simp [lt_rk] at h
  · cases t <;> first | exact ⟨_, rfl, Or.inl ⟨_, rfl⟩⟩ | exact ⟨_, rfl, Or.inr ⟨_, rfl⟩⟩ | simp [lt_rk] at h
theorem lt_rk4 {r : Option FieldType} (h : lt_rk r = 4) : r = some .double := by
  rcases r with _ | t
  · simp [lt_rk] at h
  · cases t <;> first | rfl | simp [lt_rk] at h
theorem lt_rk5 {r : Option FieldType} (h : lt_rk r = 5) : r = some .float := by
  rcases r with _ | t
  · simp [lt_rk] at h
  · cases t <;> first | rfl | simp [lt_rk] at h
theorem lt_rk6 {r : Option FieldType} (h : lt_rk r = 6) : r = some .boolean := by
  rcases r with _ | t
  · simp [lt_rk] at h
  · cases t <;> first | rfl | simp [lt_rk] at h
section Ret
variable {X : lt_X} {m : Nat} {q : Nat × (Nat → Nat) × Nat × Nat} {pc : Nat} {ls : List Value} {M : LM}
theorem v_ireturn {x : Int32} (hC : lt_C X m) (hd : decode (lt_by m) pc = .ok (.ireturn, 1)) (hrt : lt_ret m = some .int) : lt_V X m (.inl (some (.int x)), M) q pc ls [.int x] M := by
  obtain ⟨p, l, e, R, s, mid, args, below, meth, c, D, G, A⟩ := X
  obtain ⟨n0, ad0, mc, ms⟩ := q
  obtain ⟨hx, hb, hml, hown, hts, hr, hlk, -⟩ := hC
  refine ⟨lt_ge.rf, fun ad H locs cells slots lsM hR hS hL hst hc hs ha hn h0 => ?_⟩
  refine W.widen (k := mc) (n := ms) (Nat.le_trans (Nat.le_add_right _ _) hc) (Nat.le_trans (Nat.le_add_right _ _) hs) (vx_ret (W.iret (v := x) hx hb (hr.trans hrt) (fun t ht hW => ?_) hS.2.2 hd hlk))
  exact ⟨some (.int x), ad, rfl, rfl, ha, by rw [ht]; exact hR.moved hW.alike, (fun y hy => by cases hy; trivial), hS.F ht⟩
theorem v_zreturn {x : Int32} (hC : lt_C X m) (hd : decode (lt_by m) pc = .ok (.ireturn, 1)) (hrt : lt_ret m = some .boolean) (hx01 : x = 0 ∨ x = 1) : lt_V X m (.inl (some (.int x)), M) q pc ls [.int x] M := by
  obtain ⟨p, l, e, R, s, mid, args, below, meth, c, D, G, A⟩ := X
  obtain ⟨n0, ad0, mc, ms⟩ := q
  obtain ⟨hx, hb, hml, hown, hts, hr, hlk, -⟩ := hC
  refine ⟨lt_ge.rf, fun ad H locs cells slots lsM hR hS hL hst hc hs ha hn h0 => ?_⟩
  refine W.widen (k := mc) (n := ms) (Nat.le_trans (Nat.le_add_right _ _) hc) (Nat.le_trans (Nat.le_add_right _ _) hs) (vx_ret (W.zret (v := x) hx hb (hr.trans hrt) (by rcases hx01 with rfl | rfl <;> rfl) (fun t ht hW => ?_) hS.2.2 hd hlk))
  exact ⟨some (.int x), ad, rfl, rfl, ha, by rw [ht]; exact hR.moved hW.alike, (fun y hy => by cases hy; trivial), hS.F ht⟩
theorem v_lreturn {x : Int64} (hC : lt_C X m) (hd : decode (lt_by m) pc = .ok (.lreturn, 1)) (hrt : lt_ret m = some .long) : lt_V X m (.inl (some (.long x)), M) q pc ls [.long x] M := by
  obtain ⟨p, l, e, R, s, mid, args, below, meth, c, D, G, A⟩ := X
  obtain ⟨n0, ad0, mc, ms⟩ := q
  obtain ⟨hx, hb, hml, hown, hts, hr, hlk, -⟩ := hC
  refine ⟨lt_ge.rf, fun ad H locs cells slots lsM hR hS hL hst hc hs ha hn h0 => ?_⟩
  refine W.widen (k := mc) (n := ms) (Nat.le_trans (Nat.le_add_right _ _) hc) (Nat.le_trans (Nat.le_add_right _ _) hs) (vx_ret (W.lret (v := x) hx hb (hr.trans hrt) (fun t ht hW => ?_) hS.2.2 hd hlk))
  exact ⟨some (.long x), ad, rfl, rfl, ha, by rw [ht]; exact hR.moved hW.alike, (fun y hy => by cases hy; trivial), hS.F ht⟩
theorem v_freturn {x : UInt32} (hC : lt_C X m) (hd : decode (lt_by m) pc = .ok (.freturn, 1)) (hrt : lt_ret m = some .float) : lt_V X m (.inl (some (.float x)), M) q pc ls [.float x] M := by
  obtain ⟨p, l, e, R, s, mid, args, below, meth, c, D, G, A⟩ := X
  obtain ⟨n0, ad0, mc, ms⟩ := q
  obtain ⟨hx, hb, hml, hown, hts, hr, hlk, -⟩ := hC
  refine ⟨lt_ge.rf, fun ad H locs cells slots lsM hR hS hL hst hc hs ha hn h0 => ?_⟩
  refine W.widen (k := mc) (n := ms) (Nat.le_trans (Nat.le_add_right _ _) hc) (Nat.le_trans (Nat.le_add_right _ _) hs) (vx_ret (W.fret (v := x) hx hb (hr.trans hrt) (fun t ht hW => ?_) hS.2.2 hd hlk))
  exact ⟨some (.float x), ad, rfl, rfl, ha, by rw [ht]; exact hR.moved hW.alike, (fun y hy => by cases hy; trivial), hS.F ht⟩
theorem v_dreturn {x : UInt64} (hC : lt_C X m) (hd : decode (lt_by m) pc = .ok (.dreturn, 1)) (hrt : lt_ret m = some .double) : lt_V X m (.inl (some (.double x)), M) q pc ls [.double x] M := by
  obtain ⟨p, l, e, R, s, mid, args, below, meth, c, D, G, A⟩ := X
  obtain ⟨n0, ad0, mc, ms⟩ := q
  obtain ⟨hx, hb, hml, hown, hts, hr, hlk, -⟩ := hC
  refine ⟨lt_ge.rf, fun ad H locs cells slots lsM hR hS hL hst hc hs ha hn h0 => ?_⟩
  refine W.widen (k := mc) (n := ms) (Nat.le_trans (Nat.le_add_right _ _) hc) (Nat.le_trans (Nat.le_add_right _ _) hs) (vx_ret (W.dret (v := x) hx hb (hr.trans hrt) (fun t ht hW => ?_) hS.2.2 hd hlk))
  exact ⟨some (.double x), ad, rfl, rfl, ha, by rw [ht]; exact hR.moved hW.alike, (fun y hy => by cases hy; trivial), hS.F ht⟩
theorem v_areturn {x : Nat} {rt : FieldType} (hC : lt_C X m) (hd : decode (lt_by m) pc = .ok (.areturn, 1)) (hrt : lt_ret m = some rt) (hk : (∃ n, rt = .object n) ∨ ∃ t, rt = .array t) : lt_V X m (.inl (some (.ref x)), M) q pc ls [.ref x] M := by
  obtain ⟨p, l, e, R, s, mid, args, below, meth, c, D, G, A⟩ := X
  obtain ⟨n0, ad0, mc, ms⟩ := q
  obtain ⟨hx, hb, hml, hown, hts, hr, hlk, -⟩ := hC
  refine ⟨lt_ge.rf, fun ad H locs cells slots lsM hR hS hL hst hc hs ha hn h0 => ?_⟩
  refine W.widen (k := mc) (n := ms) (Nat.le_trans (Nat.le_add_right _ _) hc) (Nat.le_trans (Nat.le_add_right _ _) hs) (vx_ret (W.aret (v := .ref (ad x)) hx hb (hr.trans hrt) hk (Or.inr ⟨_, rfl⟩) (fun t ht hW => ?_) hS.2.2 hd hlk))
  exact ⟨some (.ref x), ad, rfl, rfl, ha, by rw [ht]; exact hR.moved hW.alike, (fun y hy => by cases hy; exact hst _ List.mem_cons_self), hS.F ht⟩
theorem v_return (hC : lt_C X m) (hd : decode (lt_by m) pc = .ok (.return_, 1)) (hrt : lt_ret m = none) : lt_V X m (.inl none, M) q pc ls [] M := by
  obtain ⟨p, l, e, R, s, mid, args, below, meth, c, D, G, A⟩ := X
  obtain ⟨n0, ad0, mc, ms⟩ := q
  obtain ⟨hx, hb, hml, hown, hts, hr, hlk, -⟩ := hC
  refine ⟨lt_ge.rf, fun ad H locs cells slots lsM hR hS hL hst hc hs ha hn h0 => ?_⟩
  refine W.widen (k := mc) (n := ms) (Nat.le_trans (Nat.le_add_right _ _) hc) (Nat.le_trans (Nat.le_add_right _ _) hs) (vx_ret (W.vret hx hb (hr.trans hrt) (fun t ht hW => ?_) hS.2.2 hd hlk))
  exact ⟨none, ad, rfl, rfl, ha, by rw [ht]; exact hR.moved hW.alike, (fun y hy => by cases hy), hS.F ht⟩
end Ret
/-- a heap that has grown -/
theorem lt_R.grow {D : va_G} {G : Nat → ClassId} {A : Nat → Prop} {ad : Nat → Nat} {M : LM} {s t : State} {H H1 : Heap} (h : lt_R D G A ad M s H) (hvm : s.vm.Alike t.vm) (hz : H.size ≤ H1.size) (ho : ∀ q : Nat, q < H.size → H1[q]? = H[q]?) : lt_R D G A ad M t H1 :=
  ⟨h.1.kept fun k x hx => ho x.1 ((h.1 k x hx).lt), h.2.1, (va_X.moved hvm h.2.2.1).kept (ho _ h.2.2.2.1.2), ⟨h.2.2.2.1.1, Nat.lt_of_lt_of_le h.2.2.2.1.2 hz⟩, h.2.2.2.2⟩
theorem va_S.grow {A : Nat → Prop} {s t : State} {H : Heap} {locs : List Loc} (hS : va_S A s.heap H locs) (hz : H.size ≤ t.heap.size) (ho : ∀ q : Nat, q < H.size → t.heap[q]? = H[q]?) : va_F A s t :=
  ⟨Nat.le_trans hS.1 hz, fun q h1 h2 => (ho q (Nat.lt_of_lt_of_le h1 hS.1)).trans (hS.2.1 q h1 h2)⟩
/-! throws: where they stand, and what they rest on -/
def lt_exn : List String := ["java/lang/RuntimeException", "java/lang/Exception"]
/-- the links of an exception's class and of its constructor, in the class Cachebench -/
def lt_exi (e : Nat) : Nat × Nat := bif Nat.blt e 2 then (bif Nat.blt e 1 then (349, 351) else (103, 105)) else (bif Nat.blt e 3 then (60, 62) else (168, 170))
def lt_tcheck (e : Nat) : Bool := (vx_at0 (lt_cn 10) (lt_exi e).2 (lt_en e) lt_exn).all (fun w => decide (w ∈ lw_tbl) && ((goodWord w || lt_isN w) && vx_ot w)) && (decide (Cond.classLink (lt_cn 10) (lt_exi e).1 (lt_en e) ∈ lw_tbl) && goodWord (Cond.classLink (lt_cn 10) (lt_exi e).1 (lt_en e)) && (decide (Cond.initialized (lt_en e) ∈ lw_tbl) && goodWord (Cond.initialized (lt_en e))))
theorem lt_tc0 : lt_tcheck 0 = true := by decide +kernel
theorem lt_tc1 : lt_tcheck 1 = true := by decide +kernel
theorem lt_tc2 : lt_tcheck 2 = true := by decide +kernel
theorem lt_tc3 : lt_tcheck 3 = true := by decide +kernel
theorem lt_tc : ∀ e, e < 4 → lt_tcheck e = true
  | 0, _ => lt_tc0
  | 1, _ => lt_tc1
  | 2, _ => lt_tc2
  | 3, _ => lt_tc3
  | k + 4, h => absurd h (by omega)
def lt_site (m pc idx : Nat) (c : Nat) : Bool := bif Nat.ble 100 c && Nat.blt c 104 then (Nat.beq (lt_inf m).1 10 && (Nat.beq (lt_exi (c - 100)).1 idx && ((lt_hh m).isEmpty && (decide (decode (lt_by m) (pc + 3) = .ok (.dup, 1)) && (decide (decode (lt_by m) (pc + 4) = .ok (.invokespecial (lt_exi (c - 100)).2, 3)) && decide (decode (lt_by m) (pc + 7) = .ok (.athrow, 1))))))) else true
def lt_sites (m : Nat) : Bool := (lt_body m).all fun ch => ch.2.all fun e => match e.2.1 with
  | .new k => match lt_find (lt_cls (lt_inf m).1) k with
    | some c => lt_site m e.1 k c
    | none => true
  | _ => true
theorem lt_sitesA : ∀ m, m < 150 → lt_sites m = true := by decide +kernel
theorem lt_site_ok {m pc nx tg idx c : Nat} {fl : Bool} {cn : Int32} (hm : m < 150) (h : lt_code m pc = some (.new idx, nx, fl, tg, cn)) (hf : lt_find (lt_cls (lt_inf m).1) idx = some c) : lt_site m pc idx c = true := by
  unfold lt_code at h
  split at h
  · next l hl =>
    have h2 := List.all_eq_true.mp (List.all_eq_true.mp (lt_sitesA m hm) _ (lt_find_mem hl)) _ (lt_find_mem h)
    dsimp only at h2
    rw [hf] at h2
    exact h2
  · cases h
theorem lt_fits : Bundle.fit "java/lang/RuntimeException" = true ∧ Bundle.fit "java/lang/Exception" = true ∧ ∀ e, e < 4 → Bundle.fit (lt_en e) = true := by decide +kernel
section Thr
variable {X : lt_X} {l : Launch} {d m : Nat} {q : Nat × (Nat → Nat) × Nat × Nat} {pc : Nat} {ls st : List Value} {M : LM}
theorem v_throw {idx c : Nat} (hC : lt_Cx l d X q m) (hd : decode (lt_by m) pc = .ok (.new idx, 3)) (hsite : lt_site m pc idx c = true) (h100 : 100 ≤ c) (h104 : c < 104) (hw : lt_w st ≤ 8) : lt_V X m (.inr (c - 100), aExn M) q pc ls st M := by
  obtain ⟨p, l, e, R, s, mid, args, below, meth, cd, D, G, A⟩ := X
  obtain ⟨n0, ad0, mc, ms⟩ := q
  obtain ⟨⟨hx, hb, hml, hown, hts, hr, hlk, hm, hi, htb, hl, hK, hZ, hA⟩, hrm, -, hfr, hlo⟩ := hC
  have hrm1 : mc ≤ R.cells := hrm.1
  have hrm2 : ms ≤ R.slots := hrm.2
  have hfr' : d + 7 ≤ R.frames := hfr
  have hlo' : 64 * d + 200 ≤ R.locals := hlo
  have hge : lt_ge M (aExn M) := ⟨Nat.le_succ _, Nat.le_add_right _ _, Nat.le_refl _⟩
  refine ⟨hge, fun ad H locs cells slots lsM hR hS hL hst hc hs ha hn h0 => ?_⟩
  have hc' : cells + (mC M + 1 - mC M) ≤ mc := hc
  have hs' : slots + (mS M + 6 - mS M) ≤ ms := hs
  have hb1 : (Nat.ble 100 c && Nat.blt c 104) = true := by
    rw [Bool.and_eq_true]
    exact ⟨Nat.ble_eq_true_of_le h100, Nat.ble_eq_true_of_le h104⟩
  unfold lt_site at hsite
  rw [hb1] at hsite
  simp only [cond_true, Bool.and_eq_true, decide_eq_true_eq] at hsite
  obtain ⟨g1, g2, g3, g4, g5, g6⟩ := hsite
  have e10 : (lt_inf m).1 = 10 := Nat.eq_of_beq_eq_true g1
  have eidx : (lt_exi (c - 100)).1 = idx := Nat.eq_of_beq_eq_true g2
  have hhm : lt_hh m = [] := List.isEmpty_iff.mp g3
  have htc := lt_tc (c - 100) (by omega)
  unfold lt_tcheck at htc
  simp only [Bool.and_eq_true, decide_eq_true_eq, List.all_eq_true] at htc
  obtain ⟨t1, ⟨t2, t3⟩, t4, t5⟩ := htc
  rw [e10] at hown
  have hat : ∀ w ∈ vx_at0 (lt_cn 10) (lt_exi (c - 100)).2 (lt_en (c - 100)) lt_exn, w.before args s = true := fun w hw => by
    obtain ⟨u1, u2, u3⟩ := t1 w hw
    rcases Bool.or_eq_true _ _ ▸ u2 with g | g
    · exact hts w (List.mem_filter.mpr ⟨u1, g⟩)
    · refine va_Nw.use ?_ (hK.2.1 w (List.mem_filter.mpr ⟨u1, g⟩))
      revert g
      cases w <;> first | exact fun _ => rfl | exact fun h => absurd h Bool.false_ne_true
  have hkl : (Cond.classLink (lt_cn 10) idx (lt_en (c - 100))).before args s = true := by
    rw [← eidx]
    exact hts _ (List.mem_filter.mpr ⟨t2, t3⟩)
  have hini : (Cond.initialized (lt_en (c - 100))).before args s = true := hts _ (List.mem_filter.mpr ⟨t4, t5⟩)
  refine vx_throw0 (names := lt_exn) (own := lt_cn 10) (cls := lt_en (c - 100)) (ik := idx) (ic := (lt_exi (c - 100)).2) (A := A) hx hb hl hown (lt_fits.2.2 _ (by omega)) (fun n hn => ?_) hkl hini hat (fun w hw => ?_) hZ.1 hZ.2 hS (by rw [hL.1, hml]) hd g4 g5 g6 ?_ ?_ ?_ ?_ ?_ hlk ?_ hS.2.2 (by omega) (by omega)
  · rcases List.mem_cons.mp hn with rfl | hn
    · exact lt_fits.1
    · rcases List.mem_cons.mp hn with rfl | hn
      · exact lt_fits.2.1
      · cases hn
  · rcases List.mem_cons.mp hw with rfl | hw
    · rw [eidx] at t3
      unfold vx_ot; rw [t3, Bool.or_true]
    · rcases List.mem_cons.mp hw with rfl | hw
      · unfold vx_ot; rw [t5, Bool.or_true]
      · exact (t1 w hw).2.2
  · intro x hxx
    rw [htb, hhm] at hxx
    cases hxx
  · show 2 + 3 < R.frames
    omega
  · rw [lt_w_sum, lt_w_map]
    show lt_w st + (13 * (2 + 1) + 42) ≤ R.locals
    omega
  · omega
  · omega
  · intro t hal hz ho
    exact ⟨c - 100, ad, rfl, by omega, rfl, ha, hR.grow hal hz ho, hS.grow hz ho⟩
end Thr
