/-! ONE STEP of the little machine is a step of the machine: memory -/
section LE
variable {M M' : LM} {a i b j c k : Nat}
theorem mI_wI {v : Int32} : mI (wI M a i v) b j = if b = a ∧ j = i then v else mI M b j := rfl
theorem mL_wL {v : Int64} : mL (wL M a i v) b j = if b = a ∧ j = i then v else mL M b j := rfl
theorem mP_wP {v : Option Nat} : mP (wP M a i v) b j = if b = a ∧ j = i then v else mP M b j := rfl
theorem mD_wD {v : UInt64} : mD (wD M a i v) b j = if b = a ∧ j = i then v else mD M b j := rfl
theorem mI_wI_ne {v : Int32} (h : b ≠ a) : mI (wI M a i v) b = mI M b := funext fun j => if_neg fun q => h q.1
theorem mL_wL_ne {v : Int64} (h : b ≠ a) : mL (wL M a i v) b = mL M b := funext fun j => if_neg fun q => h q.1
theorem mP_wP_ne {v : Option Nat} (h : b ≠ a) : mP (wP M a i v) b = mP M b := funext fun j => if_neg fun q => h q.1
theorem mD_wD_ne {v : UInt64} (h : b ≠ a) : mD (wD M a i v) b = mD M b := funext fun j => if_neg fun q => h q.1
theorem lt_E_congr {G : Nat → ClassId} {ad : Nat → Nat} (hK : mK M' a = mK M a) (hZ : mZ M' a = mZ M a) (hI : mI M' a = mI M a) (hL : mL M' a = mL M a) (hP : mP M' a = mP M a) (hD : mD M' a = mD M a) : lt_E G ad M' a = lt_E G ad M a := by
  have hF : ∀ c, lt_F ad M' a c = lt_F ad M a c := fun c => funext fun k => by unfold lt_F; rw [hI, hL, hP]
  unfold lt_E
  rw [hK, hZ, hI, hL, hP, hD]
  split <;> first | rfl | rw [hF]
theorem lt_E1 {G : Nat → ClassId} {ad : Nat → Nat} (h : mK M a = 1) : lt_E G ad M a = .inl (G 1, mZ M a, .inl (mI M a)) := by simp only [lt_E, h]
theorem lt_E2 {G : Nat → ClassId} {ad : Nat → Nat} (h : mK M a = 2) : lt_E G ad M a = .inl (G 2, mZ M a, .inr (.inl (mL M a))) := by simp only [lt_E, h]
theorem lt_E3 {G : Nat → ClassId} {ad : Nat → Nat} (h : mK M a = 3) : lt_E G ad M a = .inl (G 3, mZ M a, .inl (mI M a)) := by simp only [lt_E, h]
theorem lt_E4 {G : Nat → ClassId} {ad : Nat → Nat} (h : mK M a = 4) : lt_E G ad M a = .inl (G 4, mZ M a, .inr (.inr (.inr (.inl (mD M a))))) := by simp only [lt_E, h]
theorem lt_E58 {G : Nat → ClassId} {ad : Nat → Nat} (h5 : 5 ≤ mK M a) (h8 : mK M a ≤ 8) : lt_E G ad M a = .inl (G (mK M a), mZ M a, .inr (.inr (.inr (.inr fun i => (mP M a i).map ad)))) := by
  rcases (show mK M a = 5 ∨ mK M a = 6 ∨ mK M a = 7 ∨ mK M a = 8 by omega) with h | h | h | h <;> simp only [lt_E, h]
theorem lt_EO {G : Nat → ClassId} {ad : Nat → Nat} (hk : mK M a = 16 + c) : lt_E G ad M a = .inr (c, (List.range (lt_nf c)).map (lt_F ad M a c)) := by
  unfold lt_E
  split <;> first
    | (next h => exact absurd (hk.symm.trans h) (by omega))
    | (rw [hk, Nat.add_sub_cancel_left])
theorem lt_flds {ad : Nat → Nat} (hk : k < lt_nf c) : ((List.range (lt_nf c)).map (lt_F ad M a c))[k]? = some (lt_F ad M a c k) := by
  rw [List.getElem?_map, List.getElem?_range hk]; rfl
theorem lt_F_set {ad : Nat → Nat} {v : Value} (hk : k < lt_nf c) (ho : ∀ j, j ≠ k → lt_F ad M' a c j = lt_F ad M a c j) (hv : lt_F ad M' a c k = v) : (List.range (lt_nf c)).map (lt_F ad M' a c) = ((List.range (lt_nf c)).map (lt_F ad M a c)).set k v := by
  apply List.ext_getElem?
  intro j
  by_cases hj : j = k
  · subst hj
    rw [lt_flds hk, hv, List.getElem?_set_self (by rw [List.length_map, List.length_range]; exact hk)]
  · rw [List.getElem?_set_ne (fun e => hj e.symm), List.getElem?_map, List.getElem?_map]
    cases hr : (List.range (lt_nf c))[j]? with
    | none => rfl
    | some x =>
      have hx : x = j := by
        obtain ⟨h1, h2⟩ := List.getElem?_eq_some_iff.mp hr
        rw [List.getElem_range] at h2
        exact h2.symm
      subst hx
      rw [Option.map_some, Option.map_some, ho x hj]
theorem lt_Fi {ad : Nat → Nat} (h : lt_ft c k ≠ 1) (h2 : lt_ft c k ≠ 2) : lt_F ad M a c k = .int (mI M a k) := by
  unfold lt_F; split <;> first | (next e => exact absurd e h) | (next e => exact absurd e h2) | rfl
theorem lt_Fl {ad : Nat → Nat} (h : lt_ft c k = 1) : lt_F ad M a c k = .long (mL M a k) := by unfold lt_F; rw [h]; rfl
theorem lt_Fr {ad : Nat → Nat} (h : lt_ft c k = 2) : lt_F ad M a c k = va_rf ((mP M a k).map ad) := by unfold lt_F; rw [h]; rfl
theorem lt_F_congr {ad : Nat → Nat} (hI : mI M' a k = mI M a k) (hL : mL M' a k = mL M a k) (hP : mP M' a k = mP M a k) : lt_F ad M' a c k = lt_F ad M a c k := by unfold lt_F; rw [hI, hL, hP]
end LE
theorem lt_X_step {D : va_G} {G : Nat → ClassId} {A : Nat → Prop} {ad : Nat → Nat} {M : LM} {s : State} {H H1 : Heap} {locs locs1 : List Loc} (hR : lt_R D G A ad M s H) (hS : va_S A s.heap H locs) (hS1 : va_S A s.heap H1 locs1) (h0 : ad 0 < s.heap.size) : H1[ad 0]? = H[ad 0]? :=
  (hS1.2.1 _ h0 hR.2.2.2.1.1).trans (hS.2.1 _ h0 hR.2.2.2.1.1).symm
/-- the memory behind a store -/
theorem lt_R.upd {D : va_G} {G : Nat → ClassId} {A : Nat → Prop} {ad : Nat → Nat} {M M' : LM} {s : State} {H H1 : Heap} {locs locs1 : List Loc} (hR : lt_R D G A ad M s H) (hS : va_S A s.heap H locs) (hS1 : va_S A s.heap H1 locs1) (h0 : ad 0 < s.heap.size)
    (hn : mN M' = mN M) (hK : ∀ b, mK M' b = mK M b) (hZ0 : mZ M' 0 = mZ M 0) (hI0 : mI M' 0 = mI M 0) (hP' : ∀ i j q, mP M' i j = some q → 0 ≤ q ∧ q < mN M) (hP1 : va_P D vwCl (lt_ws G ad M') H1) (hD1 : va_D A (lt_ws G ad M')) : lt_R D G A ad M' s H1 :=
  ⟨hP1, hD1, by rw [hZ0, hI0]; exact hR.2.2.1.kept (lt_X_step hR hS hS1 h0), ⟨hR.2.2.2.1.1, Nat.lt_of_lt_of_le h0 hS1.1⟩, fun i j q h => by rw [hn]; exact hP' i j q h, fun b h => by rw [hn]; exact hR.2.2.2.2.2.1 b (by rw [← hK]; exact h), by rw [hK]; exact hR.2.2.2.2.2.2.1, by rw [hn]; exact hR.2.2.2.2.2.2.2⟩
section VM
variable {X : lt_X} {m : Nat} {z : LO × LM} {q : Nat × (Nat → Nat) × Nat × Nat} {pc : Nat} {ls st r : List Value} {M : LM}
/-- what a class of the worlds has -/
theorem lt_kw_spec {c : Nat} (hc : c < 13) : ∃ rr : vw_C, vwCl[c]? = some rr ∧ Cond.instantiable rr.1 rr.2.2 ∈ lw_good ∧ Cond.initialized rr.1 ∈ lw_good ∧ (∀ w ∈ u_ws rr.1 rr.2.1 rr.2.2, w ∈ lw_good) ∧ lt_nf c = rr.2.2 ∧
    (∃ ty : Nat → FieldType, (∀ k, k < rr.2.2 → parseFieldDescriptor (rr.2.1 k).2.2.1 = some (ty k) ∧ lt_tyo (lt_ft c k) (ty k) = true)) ∧ (∀ a, a < rr.2.2 → ∀ b, b < rr.2.2 → a ≠ b → (rr.2.1 a).2.1 ≠ (rr.2.1 b).2.1) := by
  have h := lt_kws c hc
  unfold lt_kw at h
  split at h
  · next rr hr =>
    simp only [Bool.and_eq_true, decide_eq_true_eq, List.all_eq_true, List.mem_range, Bool.or_eq_true] at h
    obtain ⟨h1, h2, h3, h4, ⟨h5, h6⟩, h7⟩ := h
    refine ⟨rr, hr, lt_gw_in h1, lt_gw_in h2, fun w hw => ?_, Nat.eq_of_beq_eq_true h5, ?_, fun a ha b hb hn => ?_⟩
    · have hw' := hw
      rw [h3] at hw'
      obtain ⟨i, -, hi⟩ := List.mem_filterMap.mp hw'
      exact lw_in i hi (h4 w hw)
    · refine ⟨fun k => match parseFieldDescriptor (rr.2.1 k).2.2.1 with | some t => t | none => .int, fun k hk => ?_⟩
      have := h6 k hk
      split at this
      · next t ht =>
        dsimp only
        rw [ht]
        exact ⟨rfl, this⟩
      · cases this
    · rcases h7 a ha b hb with e | e
      · exact absurd e hn
      · exact e
  · cases h
/-- a link to a field -/
theorem lt_fld_spec {own idx ci k ft : Nat} {fin : Bool} (ho : own < 17) (h : lt_find (lt_fld own) idx = some (ci, k, ft, fin)) : ∃ rr : vw_C, vwCl[ci]? = some rr ∧ k < rr.2.2 ∧ Cond.fieldLink (lt_cn own) idx rr.1 (rr.2.1 k).2.1 (rr.2.1 k).2.2.1 ∈ lw_good ∧ (rr.2.1 k).1 = rr.1 ∧ (rr.2.1 k).2.2.2 = fin ∧ lt_ft ci k = ft := by
  have h1 := List.all_eq_true.mp (lt_fo own ho) _ (lt_find_mem h)
  unfold lt_fok at h1
  dsimp only at h1
  split at h1
  · next rr i hr hi =>
    simp only [Bool.and_eq_true, decide_eq_true_eq] at h1
    obtain ⟨g1, g2, g3, g4, g5⟩ := h1
    exact ⟨rr, hr, Nat.lt_of_succ_le (by simpa [Nat.blt] using g1), lt_gw_in g2, g3, g4, Nat.eq_of_beq_eq_true g5⟩
  · cases h1
theorem lt_cl12 {ci : Nat} {rr : vw_C} (h : vwCl[ci]? = some rr) : ci < 13 := (List.getElem?_eq_some_iff.mp h).1
theorem lt_cnv : ∀ c, c < 13 → (vwCl[c]?).map (fun rr => rr.1) = some (lt_cn c) := by decide +kernel
theorem v_getfield {idx ci k ft a : Nat} {fin : Bool} {v : Value} (hC : lt_C X m) (hd : decode (lt_by m) pc = .ok (.getfield idx, 3)) (hf : lt_find (lt_fld (lt_inf m).1) idx = some (ci, k, ft, fin)) (hk : mK M a = 16 + ci)
    (hv : lt_ft ci k = ft → ∀ ad, lt_F ad M a ci k = lt_v ad v) (hok : (∀ k i q, mP M k i = some q → 0 ≤ q ∧ q < mN M) → lt_ok (mN M) v) (h : lt_V X m z q (pc + 3) ls (v :: r) M) : lt_V X m z q pc ls (.ref a :: r) M := by
  obtain ⟨p, l, e, R, s, mid, args, below, meth, c, D, G, A⟩ := X
  obtain ⟨n0, ad0, mc, ms⟩ := q
  obtain ⟨hx, hb, hml, hown, hts, hr, hlk, hm, hi, htb, hl, hK, hZ, hA⟩ := hC
  refine ⟨h.1, fun ad H locs cells slots lsM hR hS hL hst hc hs ha hn h0 => ?_⟩
  obtain ⟨rr, e1, e2, e3, e4, e5, e6⟩ := lt_fld_spec (lt_own_lt m hm) hf
  obtain ⟨rr', f1, f2, f3, f4, f5, f6, f7⟩ := lt_kw_spec (lt_cl12 e1)
  obtain rfl := Option.some.inj (e1.symm.trans f1)
  obtain ⟨C, T, N⟩ := rr
  have e4' : (T k).1 = C := e4
  have hat := hR.at (a := a) (by omega) (by omega)
  rw [lt_EO hk] at hat
  refine va_get (C := C) (T := T) (N := N) (ref := C) hx hb hts f4 hown hK.1 hR.1 (a - 1) hat e1 k e2 (hts _ e3) (fun x hx => by rw [← e4']; exact hx) (v := lt_v ad v) ?_ hd
    (h.2 ad H locs cells slots lsM hR hS hL (fun w hw => (List.mem_cons.mp hw).elim (fun e => by rw [e]; exact hok hR.2.2.2.2.1) (fun hw => hst w (List.mem_cons_of_mem _ hw))) hc hs ha hn h0)
  rw [lt_flds (by rw [f5]; exact e2), hv e6]
theorem lt_fln_spec {own idx ci k : Nat} (ho : own < 17) (h : lt_find (lt_fln own) idx = some (ci, k)) : ∃ rr : vw_C, vwCl[ci]? = some rr ∧ k < rr.2.2 ∧ Cond.fieldLinkNest (lt_cn own) idx rr.1 (rr.2.1 k).2.1 (rr.2.1 k).2.2.1 "CachebenchLaw" ∈ lt_nws ∧ (rr.2.1 k).1 = rr.1 ∧ lt_ft ci k = 0 := by
  have h1 := List.all_eq_true.mp (lt_fq own ho) _ (lt_find_mem h)
  unfold lt_fqk at h1
  dsimp only at h1
  split at h1
  · next rr i hr hi =>
    simp only [Bool.and_eq_true, decide_eq_true_eq] at h1
    obtain ⟨g1, g2, g3, g4⟩ := h1
    exact ⟨rr, hr, Nat.lt_of_succ_le (by simpa [Nat.blt] using g1), lt_nin i g2 rfl, g3, Nat.eq_of_beq_eq_true g4⟩
  · cases h1
/-- an int of a nest mate's -/
theorem v_getfieldN {idx ci k a : Nat} (hC : lt_C X m) (hd : decode (lt_by m) pc = .ok (.getfield idx, 3)) (hf : lt_find (lt_fln (lt_inf m).1) idx = some (ci, k)) (hk : mK M a = 16 + ci)
    (h : lt_V X m z q (pc + 3) ls (.int (mI M a k) :: r) M) : lt_V X m z q pc ls (.ref a :: r) M := by
  obtain ⟨p, l, e, R, s, mid, args, below, meth, c, D, G, A⟩ := X
  obtain ⟨n0, ad0, mc, ms⟩ := q
  obtain ⟨hx, hb, hml, hown, hts, hr, hlk, hm, hi, htb, hl, hK, hZ, hA⟩ := hC
  refine ⟨h.1, fun ad H locs cells slots lsM hR hS hL hst hc hs ha hn h0 => ?_⟩
  obtain ⟨rr, e1, e2, e3, e4, e6⟩ := lt_fln_spec (lt_own_lt m hm) hf
  obtain ⟨rr', f1, f2, f3, f4, f5, f6, f7⟩ := lt_kw_spec (lt_cl12 e1)
  obtain rfl := Option.some.inj (e1.symm.trans f1)
  obtain ⟨C, T, N⟩ := rr
  have e4' : (T k).1 = C := e4
  have hat := hR.at (a := a) (by omega) (by omega)
  rw [lt_EO hk] at hat
  have hv : ∀ ad, lt_F ad M a ci k = lt_v ad (.int (mI M a k)) := fun ad => lt_Fi (by rw [e6]; decide) (by rw [e6]; decide)
  have hnw : va_Nw (.fieldLinkNest (lt_cn (lt_inf m).1) idx C (T k).2.1 (T k).2.2.1 "CachebenchLaw") s := hK.2.1 _ e3
  refine va_getN (C := C) (T := T) (N := N) (ref := C) (host := "CachebenchLaw") hx hb hts f4 hown hK.1 hR.1 (a - 1) hat e1 k e2 (va_Nw.use rfl hnw) (fun x hx => by rw [← e4']; exact hx) (v := lt_v ad (.int (mI M a k))) ?_ hd
    (h.2 ad H locs cells slots lsM hR hS hL (fun w hw => (List.mem_cons.mp hw).elim (fun e => by rw [e]; trivial) (fun hw => hst w (List.mem_cons_of_mem _ hw))) hc hs ha hn h0)
  rw [lt_flds (by rw [f5]; exact e2), hv]
/-- a store into a field: what is stored, what the memory is then -/
theorem v_putfield {idx ci k ft a : Nat} {fin : Bool} {v : Value} {M' : LM} (hC : lt_C X m) (hd : decode (lt_by m) pc = .ok (.putfield idx, 3)) (hf : lt_find (lt_fld (lt_inf m).1) idx = some (ci, k, ft, fin)) (hk : mK M a = 16 + ci)
    (hfin : fin = false ∨ (lt_ini m = true ∧ (lt_inf m).1 = ci))
    (hn' : mN M' = mN M) (hcc : mC M' = mC M ∧ mS M' = mS M) (hK' : ∀ b, mK M' b = mK M b) (hZ' : ∀ b, mZ M' b = mZ M b) (hI' : ∀ b, b ≠ a → mI M' b = mI M b) (hL' : ∀ b, b ≠ a → mL M' b = mL M b) (hP' : ∀ b, b ≠ a → mP M' b = mP M b) (hD' : ∀ b, mD M' b = mD M b)
    (hFo : ∀ ad j, j ≠ k → lt_F ad M' a ci j = lt_F ad M a ci j) (hFk : lt_ft ci k = ft → ∀ ad, lt_F ad M' a ci k = lt_v ad v)
    (hty : ∀ ty, lt_tyo ft ty = true → ∀ ad, narrow ty (lt_v ad v) = lt_v ad v ∧ fits ty (lt_v ad v) = true)
    (hPn : (∀ i j q, mP M i j = some q → 0 ≤ q ∧ q < mN M) → lt_ok (mN M) v → ∀ i j q, mP M' i j = some q → 0 ≤ q ∧ q < mN M)
    (h : lt_V X m z q (pc + 3) ls r M') : lt_V X m z q pc ls (v :: .ref a :: r) M := by
  obtain ⟨p, l, e, R, s, mid, args, below, meth, c, D, G, A⟩ := X
  obtain ⟨n0, ad0, mc, ms⟩ := q
  obtain ⟨hx, hb, hml, hown, hts, hr, hlk, hm, hi, htb, hl, hK, hZ, hA⟩ := hC
  refine ⟨⟨by rw [← hcc.1]; exact h.1.1, by rw [← hcc.2]; exact h.1.2.1, by rw [← hn']; exact h.1.2.2⟩, fun ad H locs cells slots lsM hR hS hL hst hc hs ha hn h0 => ?_⟩
  obtain ⟨rr, e1, e2, e3, e4, e5, e6⟩ := lt_fld_spec (lt_own_lt m hm) hf
  obtain ⟨rr', f1, f2, f3, f4, f5, ⟨ty0, f6⟩, f7⟩ := lt_kw_spec (lt_cl12 e1)
  obtain rfl := Option.some.inj (e1.symm.trans f1)
  have hcnv := lt_cnv ci (lt_cl12 e1)
  rw [e1] at hcnv
  obtain ⟨C, T, N⟩ := rr
  have e4' : (T k).1 = C := e4
  have hpos := hR.pos (a := a) (by omega) (by omega)
  have hat := hR.at (a := a) (by omega) (by omega)
  rw [lt_EO hk] at hat
  have ha0 : a ≠ 0 := by omega
  have hws : (lt_ws G ad M).set (a - 1) (ad a, .inr (ci, ((List.range (lt_nf ci)).map (lt_F ad M a ci)).set k (lt_v ad v))) = lt_ws G ad M' :=
    lt_ws_set hpos.1 hn' (fun j hj => lt_E_congr (hK' j) (hZ' j) (hI' j hj) (hL' j hj) (hP' j hj) (hD' j)) (by rw [lt_EO (by rw [hK']; exact hk), lt_F_set (by rw [f5]; exact e2) (hFo ad) (hFk e6 ad)])
  have hnf := hty (ty0 k) (by rw [← e6]; exact (f6 k e2).2) ad
  have hlen : k < ((List.range (lt_nf ci)).map (lt_F ad M a ci)).length := by rw [List.length_map, List.length_range, f5]; exact e2
  have go : ∀ (H1 : Heap) (locs1 : List Loc), va_P D vwCl ((lt_ws G ad M).set (a - 1) (ad a, .inr (ci, ((List.range (lt_nf ci)).map (lt_F ad M a ci)).set k (lt_v ad v)))) H1 → va_D A ((lt_ws G ad M).set (a - 1) (ad a, .inr (ci, ((List.range (lt_nf ci)).map (lt_F ad M a ci)).set k (lt_v ad v)))) → va_S A s.heap H1 locs1 →
      W p l e R s mid args below meth c H1 locs1 cells slots (vx_MQ below (lt_Qc D G A z n0 ad0) (lt_XC D G A z n0 ad0) args s mc ms A) (F0 mid (pc + 3) lsM (r.map (lt_v ad))) := by
    intro H1 locs1 hP1 hD1 hS1
    rw [hws] at hP1 hD1
    exact h.2 ad H1 locs1 cells slots lsM (hR.upd hS hS1 h0 hn' hK' (hZ' 0) (hI' 0 (fun e => ha0 e.symm)) (hPn hR.2.2.2.2.1 (hst v List.mem_cons_self)) hP1 hD1) hS1 (by rw [hn']; exact hL) (fun w hw => by rw [hn']; exact hst w (List.mem_cons_of_mem _ (List.mem_cons_of_mem _ hw))) (by rw [hcc.1]; exact hc) (by rw [hcc.2]; exact hs) ha (by rw [hn']; exact hn) h0
  cases hfn : fin with
  | false =>
    exact va_put (C := C) (T := T) (N := N) (ref := C) hx hb hts f4 ty0 (fun k hk => (f6 k hk).1) f7 hown hK.1 hR.1 hR.2.1 hS (a - 1) hat e1 k e2 (hts _ e3) (fun x hx => by rw [← e4']; exact hx) (by rw [e5]; exact hfn) (f6 k e2).1 hnf.1 hnf.2 hlen hd go
  | true =>
    rcases hfin with hq | ⟨g1, g2⟩
    · rw [hq] at hfn; cases hfn
    · have hC2 : C = lt_cn (lt_inf m).1 := by rw [g2]; exact Option.some.inj hcnv
      exact va_putF (C := C) (T := T) (N := N) (ref := C) hx hb hts f4 ty0 (fun k hk => (f6 k hk).1) f7 hown hK.1 hR.1 hR.2.1 hS (a - 1) hat e1 k e2 (hts _ e3) (fun x hx => by rw [← e4']; exact hx) (by rw [e5]; exact hfn) (hi g1) (by rw [e4]; exact hC2) (f6 k e2).1 hnf.1 hnf.2 hlen hd go
end VM
