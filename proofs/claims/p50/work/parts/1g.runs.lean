/-! RUNS: what ev answers is what the machine does -/
theorem lt_sp_len : ∀ (n : Nat) (as : List Value), (lt_sp n as).length = n
  | 0, as => by cases as <;> rfl
  | n + 1, [] => by
    show (lt_j :: lt_sp n []).length = n + 1
    rw [List.length_cons, lt_sp_len n []]
  | 1, v :: r => rfl
  | n + 2, v :: r => by
    show (bif lt_c1 v then v :: lt_sp (n + 1) r else v :: lt_j :: lt_sp n r).length = n + 2
    cases lt_c1 v
    · show (v :: lt_j :: lt_sp n r).length = n + 2
      rw [List.length_cons, List.length_cons, lt_sp_len n r]
    · show (v :: lt_sp (n + 1) r).length = n + 2
      rw [List.length_cons, lt_sp_len (n + 1) r]
theorem lt_sp_nil : ∀ (n i : Nat) (v : Value), (lt_sp n [])[i]? = some v → v = lt_j
  | 0, i, v, h => by cases i <;> cases h
  | n + 1, 0, v, h => by cases h; rfl
  | n + 1, i + 1, v, h => lt_sp_nil n i v h
theorem lt_c1_cat {ad : Nat → Nat} {v : Value} (h : lt_c1 v = true) : ¬ (lt_v ad v).category = 2 := by cases v <;> first | exact absurd h Bool.false_ne_true | (intro e; cases e)
theorem lt_c2_cat {ad : Nat → Nat} {v : Value} (h : lt_c1 v = false) : (lt_v ad v).category = 2 := by cases v <;> first | rfl | exact absurd h (fun e => by cases e)
theorem lt_sp_at {ad : Nat → Nat} : ∀ (n : Nat) (as : List Value) (off i : Nat) (v : Value), (lt_sp n as)[i]? = some v → v ≠ lt_j → v ∈ as ∧ (off + i, lt_v ad v) ∈ lv_args off (as.map (lt_v ad))
  | 0, as, off, i, v, h, hj => by
    have e : lt_sp 0 as = [] := by cases as <;> rfl
    rw [e] at h
    cases h
  | n + 1, [], off, i, v, h, hj => absurd (lt_sp_nil _ _ _ h) hj
  | 1, w :: r, off, i, v, h, hj => by
    rcases i with _ | i
    · have e : w = v := Option.some.inj h
      subst e
      exact ⟨List.mem_cons_self, List.mem_cons_self⟩
    · cases h
  | n + 2, w :: r, off, i, v, h, hj => by
    have h : (bif lt_c1 w then w :: lt_sp (n + 1) r else w :: lt_j :: lt_sp n r)[i]? = some v := h
    cases hc : lt_c1 w with
    | true =>
      rw [hc] at h
      rcases i with _ | i
      · have e : w = v := Option.some.inj h
        subst e
        exact ⟨List.mem_cons_self, List.mem_cons_self⟩
      · obtain ⟨g1, g2⟩ := lt_sp_at (ad := ad) (n + 1) r (off + 1) i v h hj
        refine ⟨List.mem_cons_of_mem _ g1, ?_⟩
        show _ ∈ (off, lt_v ad w) :: lv_args (if (lt_v ad w).category = 2 then off + 2 else off + 1) (r.map (lt_v ad))
        rw [if_neg (lt_c1_cat hc)]
        rw [show off + (i + 1) = off + 1 + i by omega]
        exact List.mem_cons_of_mem _ g2
    | false =>
      rw [hc] at h
      rcases i with _ | _ | i
      · have e : w = v := Option.some.inj h
        subst e
        exact ⟨List.mem_cons_self, List.mem_cons_self⟩
      · have e : lt_j = v := Option.some.inj h
        exact absurd e.symm hj
      · obtain ⟨g1, g2⟩ := lt_sp_at (ad := ad) n r (off + 2) i v h hj
        refine ⟨List.mem_cons_of_mem _ g1, ?_⟩
        show _ ∈ (off, lt_v ad w) :: lv_args (if (lt_v ad w).category = 2 then off + 2 else off + 1) (r.map (lt_v ad))
        rw [if_pos (lt_c2_cat hc)]
        rw [show off + (i + 1 + 1) = off + 2 + i by omega]
        exact List.mem_cons_of_mem _ g2
theorem lt_sl_len (ad : Nat → Nat) : ∀ as : List Value, (lg_sl (as.map (lt_v ad))).length = lt_w as
  | [] => rfl
  | v :: r => by
    have e : lg_sl ((v :: r).map (lt_v ad)) = (if (lt_v ad v).category = 2 then [Slot.val (lt_v ad v), .second] else [.val (lt_v ad v)]) ++ lg_sl (r.map (lt_v ad)) := by
      unfold lg_sl
      rw [List.map_cons, List.flatMap_cons]
    rw [e, List.length_append, lt_sl_len ad r]
    show _ = (bif lt_c1 v then 1 else 2) + lt_w r
    cases hc : lt_c1 v with
    | true => rw [if_neg (lt_c1_cat hc)]; rfl
    | false => rw [if_pos (lt_c2_cat hc)]; rfl
/-- the locals with which a method begins -/
theorem lt_L.entry {ad : Nat → Nat} {k n : Nat} {as : List Value} (hw : lt_w as ≤ n) (hok : ∀ v ∈ as, lt_ok k v) : lt_L ad k n (lt_sp n as) ((lg_sl (as.map (lt_v ad)) ++ List.replicate (n - (lg_sl (as.map (lt_v ad))).length) Slot.unset).toArray) := by
  have h := lv_entry (as.map (lt_v ad)) (n := n) (by rw [lt_sl_len]; exact hw)
  refine ⟨h.1, lt_sp_len n as, h.2.1, fun i v hv hj => ?_⟩
  obtain ⟨g1, g2⟩ := lt_sp_at (ad := ad) n as 0 i v hv hj
  rw [Nat.zero_add] at g2
  exact ⟨hok v g1, h.2.2 _ g2⟩
theorem lt_nomath2 : ∀ m, m < 149 → (m < 131 ∨ 133 < m) → lt_cn (lt_inf m).1 = "java/lang/Math" → False := by decide +kernel
theorem lt_plain {m : Nat} (hm : m < 149) (hx : m < 131 ∨ 133 < m) : plainName (lt_y m).cls = true := by
  have h := lt_moka hm
  unfold lt_mok at h
  simp only [Bool.and_eq_true, decide_eq_true_eq, Bool.or_eq_true] at h
  obtain ⟨h1, h2, h3, ⟨h4, h5⟩, h6, h7, -⟩ := h
  rcases h6 with h6 | h6
  · exact h6
  · exfalso
    rw [h7] at h6
    revert h6
    exact lt_nomath2 m hm hx
/-- a method's run is the machine's method -/
theorem lt_met_of {l : Launch} (hl : l.stackTraces = false) {d mi : Nat} {as : List Value} {M : LM} {z : LO × LM} (hmi : mi < 149) (hmath : mi < 131 ∨ 133 < mi) (hw : lt_w as ≤ (lt_inf mi).2.2.1) (hU : lt_U l d mi z 0 (lt_sp (lt_inf mi).2.2.1 as) [] M) : lt_Met l (d + 1) mi as M z := fun h9 => by
  refine ⟨(hU h9).1, fun D G A ad hok => ?_⟩
  obtain ⟨w1, w2, w3, w4, w5, w6, w7, w8⟩ := lt_m_spec hmi
  have body : ∀ (p : Program) (e : Env) (s : State) (m : MethodId) (args : Array Value) (below : List Frame) (meth : Method) (c : Code) (s₁ : State), BodyLoose p l (lt_y mi) (headSpec (lt_cw mi :: lw_good) (lt_rmd (d + 1) (mC z.2 - mC M) (mS z.2 - mS M))) (lt_by mi) (lt_inf mi).2.2.1 (lt_ret mi) e s m args below meth c s₁ → c.maxLocals = (lt_inf mi).2.2.1 → c.exceptionTable.toList = tableOf (lt_hh mi) → va_Pc (as.map (lt_v ad)) (lt_Pre D G A ad M) args s →
      W p l e (headSpec (lt_cw mi :: lw_good) (lt_rmd (d + 1) (mC z.2 - mC M) (mS z.2 - mS M))).room s m args below meth c s.heap [] 0 0 (vx_MQ below (lt_Qc D G A z (mN M) ad) (lt_XC D G A z (mN M) ad) args s (mC z.2 - mC M) (mS z.2 - mS M) A) (entryFrame m args (lt_inf mi).2.2.1) := by
    intro p e s m args below meth c s₁ B hml htb hP
    obtain ⟨harg, hR, hK, hZ, hA⟩ := hP
    have hts : ∀ w ∈ lw_good, w.before args s = true := fun w hw => atoms_spec (ws := lt_cw mi :: lw_good) B.pre w (List.mem_cons_of_mem _ hw)
    have hown : s.vm.findClass (lt_cn (lt_inf mi).1) = some m.cls := by rw [← w5]; exact findClass_of_methodNamed B.named
    have hC : lt_C (p, l, e, lt_rmd (d + 1) (mC z.2 - mC M) (mS z.2 - mS M), s, m, args, below, meth, c, D, G, A) mi :=
      ⟨B.exec, B.bytes, hml, hown, hts, B.returns, B.notSynchronized, by omega, fun hi => (name_of_methodNamed B.named B.method).1.trans (w6 hi).1, htb, hl, hK, hZ, hA⟩
    have hV := (hU h9).2 (p, l, e, lt_rmd (d + 1) (mC z.2 - mC M) (mS z.2 - mS M), s, m, args, below, meth, c, D, G, A) (mN M, ad, mC z.2 - mC M, mS z.2 - mS M) ⟨hC, ⟨Nat.le_refl _, Nat.le_refl _⟩, rfl, Nat.le_refl _, by show 64 * d + 200 ≤ 64 * (d + 1) + 136; omega⟩
    subst harg
    rw [lg_entry_eq]
    exact hV.2 ad s.heap [] 0 0 _ hR va_S.rf (lt_L.entry hw hok) (fun v hv => by cases hv) (by omega) (by omega) (fun _ _ => rfl) (Nat.le_refl _) hR.2.2.2.1.2
  rcases hh : lt_hh mi with _ | ⟨h0, hs0⟩
  · have hcw : lt_cw mi = .code (lt_y mi) (lt_by mi) (lt_inf mi).2.2.1 (lt_ret mi) := by unfold lt_cw; rw [hh]
    refine vx_ofW (cc := lt_by mi) (maxL := (lt_inf mi).2.2.1) (ret := lt_ret mi) (ws' := lw_good) (lt_plain hmi hmath) (by rw [hcw]) fun p e s m args below meth c s₁ B hml ht hP => body p e s m args below meth c s₁ B hml ?_ hP
    rw [hh]
    exact List.eq_nil_iff_forall_not_mem.mpr ht
  · have hcw : lt_cw mi = .codeWith (lt_y mi) (lt_by mi) (lt_inf mi).2.2.1 (lt_ret mi) (h0 :: hs0) := by unfold lt_cw; rw [hh]
    refine vx_ofWH (cc := lt_by mi) (maxL := (lt_inf mi).2.2.1) (ret := lt_ret mi) (ws' := lw_good) (hh := h0 :: hs0) (lt_plain hmi hmath) (by rw [hcw]) fun p e s m args below meth c s₁ B hml hP => body p e s m args below meth c s₁ B hml ?_ hP
    rw [hh]
    exact vx_table (x := lt_y mi) B (by rw [← hcw]; exact atoms_spec (ws := lt_cw mi :: lw_good) B.pre _ List.mem_cons_self)
