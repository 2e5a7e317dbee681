/-! CALLS AND RETURNS of the little machine are the machine's -/
/-- what a method finds -/
def lt_Pre (D : va_G) (G : Nat → ClassId) (A : Nat → Prop) (ad : Nat → Nat) (M : LM) : State → Prop := fun U => lt_R D G A ad M U U.heap ∧ lt_K D G U ∧ lt_Z A U U.heap ∧ ∀ q, U.heap.size ≤ q → A q
theorem lt_Pre.to {D : va_G} {G : Nat → ClassId} {A : Nat → Prop} {ad : Nat → Nat} {M : LM} {s U : State} {H : Heap} {locs : List Loc} (hW : s.WarmedH U.vm) (hU : U.heap = H) (hR : lt_R D G A ad M s H) (hK : lt_K D G s) (hZ : lt_Z A s s.heap) (hA : ∀ q, s.heap.size ≤ q → A q) (hS : va_S A s.heap H locs) : lt_Pre D G A ad M U := by
  subst hU
  exact ⟨hR.moved hW.alike, hK.warm hW, ⟨vx_Zq.moved hW.alike (hZ.1.kept hS.2.1), vx_Zq.moved hW.alike (hZ.2.kept hS.2.1)⟩, fun q hq => hA q (Nat.le_trans hS.1 hq)⟩
theorem lt_Pre.blind {D : va_G} {G : Nat → ClassId} {A : Nat → Prop} {ad : Nat → Nat} {M : LM} {as : List Value} : FrameBlind (va_Pc as (lt_Pre D G A ad M)) := fun a U g mk h =>
  ⟨h.1, lt_Pre.to (s := U) (locs := []) (State.WarmedH.refl U) rfl h.2.1 h.2.2.1 h.2.2.2.1 h.2.2.2.2 va_S.rf⟩
/-- a method's room, d calls deep at most -/
def lt_rmd (d mc ms : Nat) : Room := { frames := d + 6, locals := 64 * d + 136, cells := mc, slots := ms }
/-- a method's run: what the machine's method of that name does -/
def lt_Met (l : Launch) (d mi : Nat) (as : List Value) (M : LM) (z : LO × LM) : Prop := lt_9 M → (lt_ge M z.2 ∧ lt_9 z.2) ∧ ∀ (D : va_G) (G : Nat → ClassId) (A : Nat → Prop) (ad : Nat → Nat), (∀ v ∈ as, lt_ok (mN M) v) →
  vx_Met l (lt_y mi) (lt_cw mi :: lw_good) (lt_rmd d (mC z.2 - mC M) (mS z.2 - mS M)) (va_Pc (as.map (lt_v ad)) (lt_Pre D G A ad M)) (lt_Qc D G A z (mN M) ad) (lt_XC D G A z (mN M) ad) (mC z.2 - mC M) (mS z.2 - mS M) A
section After
variable {p : Program} {l : Launch} {e : Env} {R : Room} {s : State} {mid : MethodId} {args : Array Value} {below : List Frame} {meth : Method} {c : Code} {H : Heap} {locs : List Loc} {cells slots mc ms : Nat} {Q : State → Prop}
variable {D : va_G} {G : Nat → ClassId} {A : Nat → Prop} {z : LO × LM} {n1 pc : Nat} {ad : Nat → Nat} {lsM : Array Slot} {stM restM : List Value} {As : Array Value}
/-- behind a call: it returned, or it threw -/
theorem lt_after (hr : vx_Run p l e R s mid args below meth c H locs cells slots mc ms (F0 mid pc lsM stM) restM (lt_Qc D G A z n1 ad As) (lt_XC D G A z n1 ad) A) (hS : va_S A s.heap H locs)
    (kk : ∀ (v : Option Value) (ad' : Nat → Nat) (H1 : Heap) (locs1 : List Loc), z.1 = .inl v → (∀ k, k < n1 → ad' k = ad k) → lt_R D G A ad' z.2 s H1 → va_S A s.heap H1 locs1 → (∀ x, v = some x → lt_ok (mN z.2) x) → W p l e R s mid args below meth c H1 locs1 (cells + mc) (slots + ms) Q (F0 mid (pc + 3) lsM ((v.map (lt_v ad')).toList ++ restM)))
    (kx : ∀ (e0 : Nat) (ce : Cell) (q : Addr) (ad' : Nat → Nat) (H1 : Heap) (locs1 : List Loc), z.1 = .inr e0 → e0 < 4 → (∀ k, k < n1 → ad' k = ad k) → lt_R D G A ad' z.2 s H1 → va_S A s.heap H1 locs1 → H1[q]? = some ce → ce.vm = .none → s.vm.findClass (lt_en e0) = some ce.cls → vx_W p l e R s mid args below meth c H1 locs1 (cells + mc) (slots + ms) Q (F0 mid pc lsM restM) q) :
    W p l e R s mid args below meth c H locs cells slots Q (F0 mid pc lsM stM) := by
  intro T hT X
  rcases hr T hT X with ⟨v, st₀, t, T', L, h0, X', hL, e1, e2, hq, st⟩ | ⟨q, st₀, t, T', L, E, ce, h0, X', hL, e1, e2, hx, hce, hcv, hcl, st⟩
  · obtain ⟨v0, ad', z1, hv, ext, hR, hok, hF⟩ := hq
    have hv' : v = v0.map (lt_v ad') := by injection hv
    subst hv'
    obtain ⟨k1, k2, k3⟩ := vx_keep h0 e1 hS (fun q _ h => h) (fun q h => h) hL hF
    have hal : t.vm.Alike s.vm := by rw [← e2]; exact X'.warmed.alike.symm
    obtain ⟨t2, a1, b1⟩ := kk v0 ad' T'.heap (locs ++ L) z1 ext (by rw [e1]; exact hR.moved hal) k3 hok T' rfl X'
    exact ⟨t2, st t2 a1, b1⟩
  · obtain ⟨e0, ad', z1, he, hE, ext, hR, hF⟩ := hx
    subst hE
    obtain ⟨k1, k2, k3⟩ := vx_keep h0 e1 hS (fun q _ h => h) (fun q h => h) hL hF
    have hal : t.vm.Alike s.vm := by rw [← e2]; exact X'.warmed.alike.symm
    obtain ⟨t2, a1, b1⟩ := kx e0 ce q ad' T'.heap (locs ++ L) z1 he ext (by rw [e1]; exact hR.moved hal) k3 (by rw [e1]; exact hce) hcv hcl T' rfl X'
    exact ⟨t2, st.trans a1, b1⟩
end After
/-! what the tables say of a method and of a link to it -/
theorem lt_nohh : ∀ m, m < 149 → (lt_inf m).2.2.2.1 = false → lt_hh m = [] := by decide +kernel
theorem lt_nest1 : ∀ o, o < 17 → ((lt_mth o).all fun e => match lt_find (lt_mpl o) e.1 with | some (_, true) => (lt_hh e.2.1).isEmpty | _ => true) = true := by decide +kernel
theorem lt_rks : ∀ m, m < 150 → lt_rk (lt_ret m) = (lt_inf m).2.1 := by decide +kernel
theorem lt_m_spec {m : Nat} (hm : m < 149) : lt_cw m ∈ lw_good ∧ Cond.initialized (lt_y m).cls ∈ lw_good ∧ lt_sw m ∈ lw_good ∧ ((lt_y m).cls ≠ "java/lang/invoke/MethodHandle" ∧ (lt_y m).cls ≠ "java/lang/invoke/VarHandle") ∧ (lt_y m).cls = lt_cn (lt_inf m).1 ∧ (lt_ini m = true → (lt_y m).name = "<init>" ∧ lt_ret m = none) ∧ (lt_inf m).2.2.1 ≤ 20 ∧ ((lt_inf m).2.2.2.1 = false → lt_ini m = false → Cond.selects (lt_y m).cls (lt_y m) (lt_y m) ∈ lw_good) := by
  have h := lt_moka hm
  unfold lt_mok at h
  simp only [Bool.and_eq_true, decide_eq_true_eq] at h
  obtain ⟨h1, h2, h3, ⟨h4, h5⟩, h6, h7, ⟨h8, h8b⟩, ⟨h9, h9b⟩, h10, h11⟩ := h
  refine ⟨lt_gw_in h1, lt_gw_in h2, lt_gw_in h3, ⟨h4, h5⟩, h7, fun hi => ?_, Nat.le_of_ble_eq_true h10, fun hs hi => ?_⟩
  · rw [hi] at h9 h9b
    exact ⟨of_decide_eq_true h9.symm, of_decide_eq_true h9b⟩
  · rw [hs, hi] at h11
    exact lt_gw_in h11
theorem lt_l_spec {own idx mi n : Nat} (ho : own < 17) (hmi : mi < 149) (h : lt_find (lt_mth own) idx = some (mi, n)) :
    (Cond.methodLink (lt_cn own) idx (lt_y mi) ∈ lw_good ∨ (Cond.methodLinkNest (lt_cn own) idx (lt_y mi) "Cachebench" ∈ lt_nws ∧ lt_hh mi = [])) ∧ (lt_np mi).map (fun k => bif (lt_inf mi).2.2.2.1 then k else k + 1) = some n := by
  have hmem := lt_find_mem h
  have h1 := List.all_eq_true.mp (lt_lo own ho) _ hmem
  have h2 := List.all_eq_true.mp (lt_nest1 own ho) _ hmem
  unfold lt_lok at h1
  dsimp only at h1 h2
  split at h1
  · next i e =>
    rw [e] at h2
    rw [Bool.and_eq_true, Bool.and_eq_true] at h1
    exact ⟨Or.inr ⟨lt_nin i (of_decide_eq_true h1.1) rfl, List.isEmpty_iff.mp h2⟩, of_decide_eq_true h1.2.2⟩
  · next i e =>
    rw [Bool.and_eq_true] at h1
    have e3 : Nat.beq mi 1000 = false := by
      cases hb : Nat.beq mi 1000
      · rfl
      · exact absurd (Nat.eq_of_beq_eq_true hb) (by omega)
    have e4 : Nat.beq mi 1001 = false := by
      cases hb : Nat.beq mi 1001
      · rfl
      · exact absurd (Nat.eq_of_beq_eq_true hb) (by omega)
    have hy : lt_yx mi = lt_y mi := by unfold lt_yx; rw [e3, e4]; rfl
    rw [hy, e3, e4, Bool.false_or, Bool.false_or, Bool.and_eq_true] at h1
    exact ⟨Or.inl (lt_gw_in h1.1), of_decide_eq_true h1.2.2⟩
  · cases h1
theorem lt_wsU {args : Array Value} {s : State} (hts : ∀ w ∈ lw_good, w.before args s = true) {m : Nat} (hc : lt_cw m ∈ lw_good) : ∀ w ∈ lt_cw m :: lw_good, ∀ (a' : Array Value) (U : State), s.WarmedH U.vm → w.before a' U = true := fun w hw a' U hW => by
  have hw' : w ∈ lw_good := (List.mem_cons.mp hw).elim (fun e => by rw [e]; exact hc) id
  exact word_at hW (good_of_word (List.mem_filter.mp hw').2) (hts w hw')
theorem lt_np_len {m n k : Nat} (h : (lt_np m).map (fun k => bif (lt_inf m).2.2.2.1 then k else k + 1) = some n) (hk : (bif (lt_inf m).2.2.2.1 then n else n - 1) = k) : ∀ sig, parseMethodDescriptor (lt_y m).desc = some sig → k = sig.parameters.length := by
  intro sig hs
  unfold lt_np at h
  rw [hs] at h
  simp only [Option.map_some, Option.some.injEq] at h
  cases hb : (lt_inf m).2.2.2.1 <;> rw [hb] at h hk <;> simp only [cond_true, cond_false] at h hk <;> omega
section Run
variable {X : lt_X} {l : Launch} {d m : Nat} {q : Nat × (Nat → Nat) × Nat × Nat} {pc idx mi n : Nat} {M : LM} {as rest : List Value} {z : LO × LM}
/-- a static method called -/
theorem lt_runS {p : Program} {e : Env} {R : Room} {s : State} {mid : MethodId} {args : Array Value} {below : List Frame} {meth : Method} {c : Code} {D : va_G} {G : Nat → ClassId} {A : Nat → Prop} {ad : Nat → Nat} {H : Heap} {locs : List Loc} {cells slots : Nat} {lsM : Array Slot}
    (hC : lt_C (p, l, e, R, s, mid, args, below, meth, c, D, G, A) m) (hfr : d + 7 ≤ R.frames) (hlo : 64 * d + 200 ≤ R.locals) (hm : lt_Met l d mi as M z) (h9 : lt_9 M) (hmi : mi < 149) (hst : (lt_inf mi).2.2.2.1 = true) (hf : lt_find (lt_mth (lt_inf m).1) idx = some (mi, n)) (hn : as.length = n)
    (hd : decode (lt_by m) pc = .ok (.invokestatic idx, 3)) (hR : lt_R D G A ad M s H) (hS : va_S A s.heap H locs) (hsz : lsM.size = (lt_inf m).2.2.1) (hok : ∀ v ∈ as, lt_ok (mN M) v) (hw : lt_w rest ≤ 8) (hcc : cells + (mC z.2 - mC M) ≤ R.cells ∧ slots + (mS z.2 - mS M) ≤ R.slots) :
    vx_Run p l e R s mid args below meth c H locs cells slots (mC z.2 - mC M) (mS z.2 - mS M) (F0 mid pc lsM ((as.reverse ++ rest).map (lt_v ad))) (rest.map (lt_v ad)) (lt_Qc D G A z (mN M) ad (as.map (lt_v ad)).toArray) (lt_XC D G A z (mN M) ad) A := by
  obtain ⟨hx, hb, hml, hown, hts, hr, hlk, hm5, hi, htb, hl, hK, hZ, hA⟩ := hC
  obtain ⟨w1, w2, w3, w4, w5, w6, w7, w8⟩ := lt_m_spec hmi
  obtain ⟨lk, hnp⟩ := lt_l_spec (lt_own_lt m hm5) hmi hf
  have hM := (hm h9).2 D G A ad hok
  have hPre : PreS s H (va_Pc (as.map (lt_v ad)) (lt_Pre D G A ad M)) (as.map (lt_v ad)) := ⟨lt_Pre.blind, fun U hU hW => ⟨rfl, lt_Pre.to hW hU hR hK hZ hA hS⟩⟩
  have hlen := lt_np_len (k := n) hnp (by rw [hst]; rfl)
  have hstt : (Cond.static (lt_y mi)).before args s = true := by
    have := hts _ w3
    unfold lt_sw at this
    rw [hst] at this
    exact this
  have hfix : CallFix p mid c (lt_by m) (lt_inf m).2.2.1 s args lw_good (lt_cn (lt_inf m).1) := ⟨hx, hb, hml, hown, hts⟩
  have hstk : (F0 mid pc lsM ((as.reverse ++ rest).map (lt_v ad))).stack = (as.map (lt_v ad)).reverse ++ rest.map (lt_v ad) := by
    show (as.reverse ++ rest).map (lt_v ad) = _
    rw [List.map_append, List.map_reverse]
  have hW : 2 * (F0 mid pc lsM ((as.reverse ++ rest).map (lt_v ad))).monitorRoom + ((rest.map (lt_v ad)).map fun v => v.category).sum ≤ 8 := by
    rw [lt_w_sum, lt_w_map]
    show 2 * 0 + _ ≤ 8
    omega
  have hrm1 : (lt_rmd d (mC z.2 - mC M) (mS z.2 - mS M)).frames + 1 ≤ R.frames := by show d + 6 + 1 ≤ _; omega
  have hrm2 : 8 + ((lt_inf mi).2.2.1 + 11) + (lt_rmd d (mC z.2 - mC M) (mS z.2 - mS M)).locals ≤ R.locals := by show 8 + (_ + 11) + (64 * d + 136) ≤ _; omega
  have hln : (as.map (lt_v ad)).length = n := by rw [List.length_map]; exact hn
  rcases hh : lt_hh mi with _ | ⟨h0, hs0⟩
  · have hcw : lt_cw mi = .code (lt_y mi) (lt_by mi) (lt_inf mi).2.2.1 (lt_ret mi) := by unfold lt_cw; rw [hh]
    rcases lk with lk | ⟨lk, -⟩
    · exact vx_runS hfix hM ⟨⟨rfl, rfl, hrm1, hrm2, lt_wsU hts w1, by rw [← hcw]; exact List.mem_cons_self, by rw [← hcw]; exact hts _ w1, hts _ w2, w4, hlen, hts _ lk⟩, hstt⟩ hPre rfl hln hsz hstk hW hd hcc
    · exact vx_runSN hfix hM ⟨⟨⟨rfl, rfl, hrm1, hrm2, lt_wsU hts w1, by rw [← hcw]; exact List.mem_cons_self⟩, by rw [← hcw]; exact hts _ w1, hts _ w2, w4, hlen, va_Nw.use rfl (hK.2.1 _ lk)⟩, hstt, trivial⟩ hPre rfl hln hsz hstk hW hd hcc
  · have hcw : lt_cw mi = .codeWith (lt_y mi) (lt_by mi) (lt_inf mi).2.2.1 (lt_ret mi) (h0 :: hs0) := by unfold lt_cw; rw [hh]
    rcases lk with lk | ⟨-, lk⟩
    · exact vx_runSX hfix hM ⟨⟨rfl, rfl, hrm1, hrm2, lt_wsU hts w1, by rw [← hcw]; exact List.mem_cons_self⟩, by rw [← hcw]; exact hts _ w1, hts _ w2, w4, hlen, hts _ lk, hstt⟩ hPre rfl hln hsz hstk hW hd hcc
    · rw [hh] at lk; cases lk
/-- a method called by its receiver -/
theorem lt_runV {p : Program} {e : Env} {R : Room} {s : State} {mid : MethodId} {args : Array Value} {below : List Frame} {meth : Method} {c : Code} {D : va_G} {G : Nat → ClassId} {A : Nat → Prop} {ad : Nat → Nat} {H : Heap} {locs : List Loc} {cells slots a : Nat} {lsM : Array Slot}
    (hC : lt_C (p, l, e, R, s, mid, args, below, meth, c, D, G, A) m) (hfr : d + 7 ≤ R.frames) (hlo : 64 * d + 200 ≤ R.locals) (hm : lt_Met l d mi (.ref a :: as) M z) (h9 : lt_9 M) (hmi : mi < 149) (hst : (lt_inf mi).2.2.2.1 = false) (hni : lt_ini mi = false) (hf : lt_find (lt_mth (lt_inf m).1) idx = some (mi, n)) (hn : as.length + 1 = n)
    (hd : decode (lt_by m) pc = .ok (.invokevirtual idx, 3)) (hk : mK M a = 16 + (lt_inf mi).1) (hR : lt_R D G A ad M s H) (hS : va_S A s.heap H locs) (hsz : lsM.size = (lt_inf m).2.2.1) (hok : ∀ v ∈ (Value.ref a :: as), lt_ok (mN M) v) (hw : lt_w rest ≤ 8) (hcc : cells + (mC z.2 - mC M) ≤ R.cells ∧ slots + (mS z.2 - mS M) ≤ R.slots) :
    vx_Run p l e R s mid args below meth c H locs cells slots (mC z.2 - mC M) (mS z.2 - mS M) (F0 mid pc lsM ((as.reverse ++ .ref a :: rest).map (lt_v ad))) (rest.map (lt_v ad)) (lt_Qc D G A z (mN M) ad ((Value.ref a :: as).map (lt_v ad)).toArray) (lt_XC D G A z (mN M) ad) A := by
  obtain ⟨hx, hb, hml, hown, hts, hr, hlk, hm5, hi, htb, hl, hK, hZ, hA⟩ := hC
  obtain ⟨w1, w2, w3, w4, w5, w6, w7, w8⟩ := lt_m_spec hmi
  obtain ⟨lk, hnp⟩ := lt_l_spec (lt_own_lt m hm5) hmi hf
  have hM := (hm h9).2 D G A ad hok
  have hat := hR.at (a := a) (by omega) (by omega)
  rw [lt_EO hk] at hat
  obtain ⟨rr, hrr, -⟩ := hR.1 (a - 1) _ hat
  obtain ⟨cellB, hcB, hoB, hclB⟩ := va_recv hK.1 hR.1 hrr hat
  have hcnv := lt_cnv _ (lt_cl12 hrr)
  rw [hrr] at hcnv
  have hC1 : rr.1 = (lt_y mi).cls := by rw [w5]; exact Option.some.inj hcnv
  rw [hC1] at hclB
  have hPre : PreV s H (lt_y mi).cls (ad a) (va_Pc ((Value.ref a :: as).map (lt_v ad)) (lt_Pre D G A ad M)) (as.map (lt_v ad)) := ⟨lt_Pre.blind, ⟨cellB, hcB, hoB, hclB⟩, fun U hU hW => ⟨rfl, lt_Pre.to hW hU hR hK hZ hA hS⟩⟩
  have hlen := lt_np_len (k := as.length) hnp (by rw [hst]; show n - 1 = _; omega)
  have hins : (Cond.instanceMethod (lt_y mi)).before args s = true := by
    have := hts _ w3
    unfold lt_sw at this
    rw [hst] at this
    exact this
  have hsel := hts _ (w8 hst hni)
  have hfix : CallFix p mid c (lt_by m) (lt_inf m).2.2.1 s args lw_good (lt_cn (lt_inf m).1) := ⟨hx, hb, hml, hown, hts⟩
  have hstk : (F0 mid pc lsM ((as.reverse ++ .ref a :: rest).map (lt_v ad))).stack = (as.map (lt_v ad)).reverse ++ .ref (ad a) :: rest.map (lt_v ad) := by
    show (as.reverse ++ .ref a :: rest).map (lt_v ad) = _
    rw [List.map_append, List.map_reverse]
    rfl
  have hW : 2 * (F0 mid pc lsM ((as.reverse ++ .ref a :: rest).map (lt_v ad))).monitorRoom + ((rest.map (lt_v ad)).map fun v => v.category).sum ≤ 8 := by
    rw [lt_w_sum, lt_w_map]
    show 2 * 0 + _ ≤ 8
    omega
  have hrm1 : (lt_rmd d (mC z.2 - mC M) (mS z.2 - mS M)).frames + 1 ≤ R.frames := by show d + 6 + 1 ≤ _; omega
  have hrm2 : 8 + ((lt_inf mi).2.2.1 + 11) + (lt_rmd d (mC z.2 - mC M) (mS z.2 - mS M)).locals ≤ R.locals := by show 8 + (_ + 11) + (64 * d + 136) ≤ _; omega
  have hln : (as.map (lt_v ad)).length = as.length := List.length_map ..
  have hcw : lt_cw mi = .code (lt_y mi) (lt_by mi) (lt_inf mi).2.2.1 (lt_ret mi) := by unfold lt_cw; rw [lt_nohh mi hmi hst]
  rcases lk with lk | ⟨lk, -⟩
  · exact vx_runV hfix hM ⟨⟨rfl, rfl, hrm1, hrm2, lt_wsU hts w1, by rw [← hcw]; exact List.mem_cons_self, by rw [← hcw]; exact hts _ w1, hts _ w2, w4, hlen, hts _ lk⟩, hins, hsel⟩ hPre rfl hln hsz hstk hW hd hcc
  · exact vx_runVN hfix hM ⟨⟨⟨rfl, rfl, hrm1, hrm2, lt_wsU hts w1, by rw [← hcw]; exact List.mem_cons_self⟩, by rw [← hcw]; exact hts _ w1, hts _ w2, w4, hlen, va_Nw.use rfl (hK.2.1 _ lk)⟩, hins, hsel⟩ hPre rfl hln hsz hstk hW hd hcc
/-- a constructor called -/
theorem lt_runI {p : Program} {e : Env} {R : Room} {s : State} {mid : MethodId} {args : Array Value} {below : List Frame} {meth : Method} {c : Code} {D : va_G} {G : Nat → ClassId} {A : Nat → Prop} {ad : Nat → Nat} {H : Heap} {locs : List Loc} {cells slots a : Nat} {lsM : Array Slot}
    (hC : lt_C (p, l, e, R, s, mid, args, below, meth, c, D, G, A) m) (hfr : d + 7 ≤ R.frames) (hlo : 64 * d + 200 ≤ R.locals) (hm : lt_Met l d mi (.ref a :: as) M z) (h9 : lt_9 M) (hmi : mi < 149) (hst : (lt_inf mi).2.2.2.1 = false) (hni : lt_ini mi = true) (hf : lt_find (lt_mth (lt_inf m).1) idx = some (mi, n)) (hn : as.length + 1 = n)
    (hd : decode (lt_by m) pc = .ok (.invokespecial idx, 3)) (hR : lt_R D G A ad M s H) (hS : va_S A s.heap H locs) (hsz : lsM.size = (lt_inf m).2.2.1) (hok : ∀ v ∈ (Value.ref a :: as), lt_ok (mN M) v) (hw : lt_w rest ≤ 8) (hcc : cells + (mC z.2 - mC M) ≤ R.cells ∧ slots + (mS z.2 - mS M) ≤ R.slots) :
    vx_Run p l e R s mid args below meth c H locs cells slots (mC z.2 - mC M) (mS z.2 - mS M) (F0 mid pc lsM ((as.reverse ++ .ref a :: rest).map (lt_v ad))) (rest.map (lt_v ad)) (lt_Qc D G A z (mN M) ad ((Value.ref a :: as).map (lt_v ad)).toArray) (lt_XC D G A z (mN M) ad) A := by
  obtain ⟨hx, hb, hml, hown, hts, hr, hlk, hm5, hi, htb, hl, hK, hZ, hA⟩ := hC
  obtain ⟨w1, w2, w3, w4, w5, w6, w7, w8⟩ := lt_m_spec hmi
  obtain ⟨lk, hnp⟩ := lt_l_spec (lt_own_lt m hm5) hmi hf
  have hM := (hm h9).2 D G A ad hok
  have hPre : PreS s H (va_Pc ((Value.ref a :: as).map (lt_v ad)) (lt_Pre D G A ad M)) (.ref (ad a) :: as.map (lt_v ad)) := ⟨lt_Pre.blind, fun U hU hW => ⟨rfl, lt_Pre.to hW hU hR hK hZ hA hS⟩⟩
  have hlen := lt_np_len (k := as.length) hnp (by rw [hst]; show n - 1 = _; omega)
  have hins : (Cond.instanceMethod (lt_y mi)).before args s = true := by
    have := hts _ w3
    unfold lt_sw at this
    rw [hst] at this
    exact this
  have hfix : CallFix p mid c (lt_by m) (lt_inf m).2.2.1 s args lw_good (lt_cn (lt_inf m).1) := ⟨hx, hb, hml, hown, hts⟩
  have hstk : (F0 mid pc lsM ((as.reverse ++ .ref a :: rest).map (lt_v ad))).stack = (as.map (lt_v ad)).reverse ++ .ref (ad a) :: rest.map (lt_v ad) := by
    show (as.reverse ++ .ref a :: rest).map (lt_v ad) = _
    rw [List.map_append, List.map_reverse]
    rfl
  have hW : 2 * (F0 mid pc lsM ((as.reverse ++ .ref a :: rest).map (lt_v ad))).monitorRoom + ((rest.map (lt_v ad)).map fun v => v.category).sum ≤ 8 := by
    rw [lt_w_sum, lt_w_map]
    show 2 * 0 + _ ≤ 8
    omega
  have hrm1 : (lt_rmd d (mC z.2 - mC M) (mS z.2 - mS M)).frames + 1 ≤ R.frames := by show d + 6 + 1 ≤ _; omega
  have hrm2 : 8 + ((lt_inf mi).2.2.1 + 11) + (lt_rmd d (mC z.2 - mC M) (mS z.2 - mS M)).locals ≤ R.locals := by show 8 + (_ + 11) + (64 * d + 136) ≤ _; omega
  have hln : (as.map (lt_v ad)).length = as.length := List.length_map ..
  have hcw : lt_cw mi = .code (lt_y mi) (lt_by mi) (lt_inf mi).2.2.1 none := by unfold lt_cw; rw [lt_nohh mi hmi hst, (w6 hni).2]
  rcases lk with lk | ⟨lk, -⟩
  · exact vx_runI hfix hM ⟨⟨rfl, rfl, hrm1, hrm2, lt_wsU hts w1, by rw [← hcw]; exact List.mem_cons_self, by rw [← hcw]; exact hts _ w1, hts _ w2, w4, hlen, hts _ lk⟩, (w6 hni).1, hins⟩ hPre rfl hln hsz hstk hW hd hcc
  · exact vx_runIN hfix hM ⟨⟨⟨rfl, rfl, hrm1, hrm2, lt_wsU hts w1, by rw [← hcw]; exact List.mem_cons_self⟩, by rw [← hcw]; exact hts _ w1, hts _ w2, w4, hlen, va_Nw.use rfl (hK.2.1 _ lk)⟩, (w6 hni).1, hins⟩ hPre rfl hln hsz hstk hW hd hcc
end Run
