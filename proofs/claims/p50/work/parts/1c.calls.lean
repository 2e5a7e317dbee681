/-! CALLS as instructions of the little machine -/
/-! handlers: what the law's wrappers catch -/
def lt_hast (b : ByteArray) (hp : Nat) : Option (Nat × Nat) := match decode b hp with
  | .ok (.astore k, 2) => some (k, hp + 2)
  | .ok (.astore_n k, 1) => some (k, hp + 1)
  | _ => none
def lt_hcon (b : ByteArray) (hp : Nat) : Option Int32 := match decode b hp with
  | .ok (.iconst n, 1) => match decode b (hp + 1) with
    | .ok (.ireturn, 1) => some (Int32.ofInt n)
    | _ => none
  | _ => none
def lt_hrow (m pc e : Nat) (c : Int32) : List (Nat × Nat × Nat × Nat) → Bool
  | [] => false
  | x :: r => match lt_find (lt_cls (lt_inf m).1) x.2.2.2 with
    | some ce => bif Nat.beq ce (100 + e) then (Nat.ble x.1 pc && (Nat.blt pc x.2.1 && (Nat.blt 0 x.2.2.2 && (match lt_hast (lt_by m) x.2.2.1 with | some (k, p2) => Nat.blt k (lt_inf m).2.2.1 && decide (lt_hcon (lt_by m) p2 = some c) | none => false))))
        else (Nat.blt 0 x.2.2.2 && (Nat.ble 100 ce && (Nat.blt ce 104 && lt_hrow m pc e c r)))
    | none => false
theorem lt_hrow_spec {m pc e : Nat} {c : Int32} : ∀ rows : List (Nat × Nat × Nat × Nat), lt_hrow m pc e c rows = true → ∃ pre x suf k p2, rows = pre ++ x :: suf ∧ (∀ y ∈ pre, y.2.2.2 ≠ 0 ∧ ∃ e', e' < 4 ∧ e' ≠ e ∧ lt_find (lt_cls (lt_inf m).1) y.2.2.2 = some (100 + e')) ∧
    x.1 ≤ pc ∧ pc < x.2.1 ∧ x.2.2.2 ≠ 0 ∧ lt_find (lt_cls (lt_inf m).1) x.2.2.2 = some (100 + e) ∧ lt_hast (lt_by m) x.2.2.1 = some (k, p2) ∧ k < (lt_inf m).2.2.1 ∧ lt_hcon (lt_by m) p2 = some c
  | [], h => by cases h
  | x :: r, h => by
    unfold lt_hrow at h
    split at h
    · next ce hce =>
      cases hb : Nat.beq ce (100 + e) with
      | true =>
        rw [hb] at h
        simp only [cond_true, Bool.and_eq_true] at h
        obtain ⟨h1, h2, h3, h4⟩ := h
        split at h4
        · next k p2 hk =>
          rw [Bool.and_eq_true] at h4
          have e1 := Nat.eq_of_beq_eq_true hb
          subst e1
          exact ⟨[], x, r, k, p2, rfl, (fun y hy => by cases hy), Nat.le_of_ble_eq_true h1, Nat.lt_of_succ_le (Nat.le_of_ble_eq_true h2), (fun h0 => by have := Nat.le_of_ble_eq_true h3; omega), hce, hk, Nat.lt_of_succ_le (Nat.le_of_ble_eq_true h4.1), of_decide_eq_true h4.2⟩
        · cases h4
      | false =>
        rw [hb] at h
        simp only [cond_false, Bool.and_eq_true] at h
        obtain ⟨h1, h2, h3, h4⟩ := h
        obtain ⟨pre, y, suf, k, p2, g1, g2, g3⟩ := lt_hrow_spec r h4
        have h2' := Nat.le_of_ble_eq_true h2
        have h3' := Nat.le_of_ble_eq_true h3
        refine ⟨x :: pre, y, suf, k, p2, by rw [g1]; rfl, fun w hw => ?_, g3⟩
        rcases List.mem_cons.mp hw with rfl | hw
        · refine ⟨(fun h0 => by have := Nat.le_of_ble_eq_true h1; omega), ce - 100, by omega, fun e1 => ?_, by rw [hce]; congr 1; omega⟩
          have e2 : ce = 100 + e := by omega
          rw [e2, Nat.beq_refl] at hb
          cases hb
        · exact g2 w hw
    · cases h
def lt_hall (m : Nat) : Bool := (lt_body m).all fun ch => ch.2.all fun en => match en.2.1 with
  | .invokestatic _ => (lt_inf m).2.2.2.2.all fun h => lt_hrow m en.1 h.1 h.2 (lt_hh m)
  | .invokevirtual _ => (lt_inf m).2.2.2.2.all fun h => lt_hrow m en.1 h.1 h.2 (lt_hh m)
  | .invokespecial _ => (lt_inf m).2.2.2.2.all fun h => lt_hrow m en.1 h.1 h.2 (lt_hh m)
  | _ => true
theorem lt_hallA : ∀ m, m < 150 → lt_hall m = true := by decide +kernel
theorem lt_hnil : ∀ m, m < 150 → (lt_inf m).2.2.2.2 = [] → lt_hh m = [] := by decide +kernel
theorem lt_hint : ∀ m, m < 150 → (lt_inf m).2.2.2.2 ≠ [] → lt_ret m = some .int := by decide +kernel
theorem lt_cxe : ∀ e, e < 4 → lt_cx (100 + e) = lt_en e := by decide +kernel
theorem lt_cast : ∀ e, e < 4 → Cond.castable (lt_en e) (lt_en e) ∈ lt_nws := by
  have h : ∀ e, e < 4 → decide (Cond.castable (lt_en e) (lt_en e) ∈ lw_tbl) = true := by decide +kernel
  exact fun e he => List.mem_filter.mpr ⟨of_decide_eq_true (h e he), rfl⟩
def lt_isC : Instr → Bool
  | .invokestatic _ => true
  | .invokevirtual _ => true
  | .invokespecial _ => true
  | _ => false
theorem lt_hrow_ok {m pc nx tg e : Nat} {i : Instr} {fl : Bool} {cn c : Int32} (hm : m < 150) (h : lt_code m pc = some (i, nx, fl, tg, cn)) (hi : lt_isC i = true) (hf : lt_find (lt_inf m).2.2.2.2 e = some c) : lt_hrow m pc e c (lt_hh m) = true := by
  unfold lt_code at h
  split at h
  · next l hl =>
    have h2 := List.all_eq_true.mp (List.all_eq_true.mp (lt_hallA m hm) _ (lt_find_mem hl)) _ (lt_find_mem h)
    dsimp only at h2
    split at h2
    · exact List.all_eq_true.mp h2 _ (lt_find_mem hf)
    · exact List.all_eq_true.mp h2 _ (lt_find_mem hf)
    · exact List.all_eq_true.mp h2 _ (lt_find_mem hf)
    · next h3 h4 h5 =>
      cases i <;> first | exact absurd hi Bool.false_ne_true | exact absurd rfl (h3 _) | exact absurd rfl (h4 _) | exact absurd rfl (h5 _)
  · cases h
section Catch
variable {p : Program} {l : Launch} {e : Env} {R : Room} {s : State} {mid : MethodId} {args : Array Value} {below : List Frame} {meth : Method} {cd : Code} {D : va_G} {G : Nat → ClassId} {A : Nat → Prop} {ad ad0 : Nat → Nat} {H : Heap} {locs : List Loc} {cells slots n0 mc ms : Nat} {lsM : Array Slot} {m pc : Nat} {ls : List Value} {rest : List Value} {M : LM}
/-- caught: the handler answers its number -/
theorem lt_catchW {e0 : Nat} {c : Int32} {ce : Cell} {q : Addr} (hC : lt_C (p, l, e, R, s, mid, args, below, meth, cd, D, G, A) m) (hrow : lt_hrow m pc e0 c (lt_hh m) = true) (hint : lt_ret m = some .int) (he : e0 < 4) (hR : lt_R D G A ad M s H) (hS : va_S A s.heap H locs) (hL : lt_L ad (mN M) (lt_inf m).2.2.1 ls lsM)
    (hce : H[q]? = some ce) (hcv : ce.vm = .none) (hcl : s.vm.findClass (lt_en e0) = some ce.cls) (hc : cells ≤ mc) (hs : slots ≤ ms) (ha : ∀ k, k < n0 → ad k = ad0 k) :
    vx_W p l e R s mid args below meth cd H locs cells slots (vx_MQ below (lt_Qc D G A (.inl (some (.int c)), M) n0 ad0) (lt_XC D G A (.inl (some (.int c)), M) n0 ad0) args s mc ms A) (F0 mid pc lsM rest) q := by
  obtain ⟨hx, hb, hml, hown, hts, hr, hlk, hm, hi, htb, hl, hK, hZ, hA⟩ := hC
  obtain ⟨pre, x, suf, k, p2, g1, g2, g3, g4, g5, g6, g7, g8, g9⟩ := lt_hrow_spec _ hrow
  have hspl : cd.exceptionTable.toList = tableOf pre ++ (⟨x.1, x.2.1, x.2.2.1, x.2.2.2⟩ : ExceptionTableEntry) :: tableOf suf := by
    rw [htb, g1]
    unfold tableOf
    rw [List.map_append, List.map_cons]
  have hlink : ∀ y e', e' < 4 → lt_find (lt_cls (lt_inf m).1) y = some (100 + e') → (Cond.classLink (lt_cn (lt_inf m).1) y (lt_en e')).before args s = true := fun y e' he' hf => by
    have h1 := lt_cls_spec (lt_own_lt m hm) hf
    rw [lt_cxe e' he'] at h1
    exact hts _ h1
  refine vx_catch (name := lt_en e0) hown (tableOf pre) ⟨x.1, x.2.1, x.2.2.1, x.2.2.2⟩ (tableOf suf) hspl (fun z hz => ?_) ?_ g5 (hlink _ _ he g6) (va_Nw.use rfl (hK.2.1 _ (lt_cast e0 he))) hce hcv hcl ?_
  · unfold tableOf at hz
    obtain ⟨y, hy, rfl⟩ := List.mem_map.mp hz
    obtain ⟨y1, e', y2, y3, y4⟩ := g2 y hy
    exact Or.inr ⟨y1, lt_en e', hlink _ _ y2 y4, hK.2.2.1 e0 e' he y2 (fun h => y3 h.symm) ⟨m, hm, by rw [g1]; simp⟩⟩
  · simp [covers, g3, g4]
  · have fin : ∀ ls2 : Array Slot, W p l e R s mid args below meth cd H locs cells slots (vx_MQ below (lt_Qc D G A (.inl (some (.int c)), M) n0 ad0) (lt_XC D G A (.inl (some (.int c)), M) n0 ad0) args s mc ms A) (F0 mid p2 ls2 []) := fun ls2 => by
      unfold lt_hcon at g9
      split at g9
      · next n hd1 =>
        split at g9
        · next hd2 =>
          have hn := Option.some.inj g9
          refine lv_iconst hx hb hd1 hn ?_
          refine W.widen (k := mc) (n := ms) hc hs (vx_ret (W.iret (v := c) hx hb (hr.trans hint) (fun t ht hW => ?_) hS.2.2 hd2 hlk))
          exact ⟨some (.int c), ad, rfl, rfl, ha, by rw [ht]; exact hR.moved hW.alike, (fun y hy => by cases hy; trivial), hS.F ht⟩
        · cases g9
      · cases g9
    unfold lt_hast at g7
    split at g7
    · next k' hd1 =>
      obtain ⟨rfl, rfl⟩ := Prod.mk.inj (Option.some.inj g7)
      exact lv_astore hx hb hd1 hL.has g8 rfl fun ls2 hh => fin ls2
    · next k' hd1 =>
      obtain ⟨rfl, rfl⟩ := Prod.mk.inj (Option.some.inj g7)
      exact lv_astore_n hx hb hd1 rfl hL.has g8 rfl fun ls2 hh => fin ls2
    · cases g7
end Catch
section CallU
variable {l : Launch} {d m : Nat} {z : LO × LM} {pc : Nat} {ls : List Value} {M : LM}
/-- a call, and what is behind it -/
theorem lt_callU {mi : Nat} {as rest : List Value} {z' : LO × LM} (hm5 : m < 150) (hm : lt_Met l d mi as M z')
    (hrun : ∀ {p : Program} {e : Env} {R : Room} {s : State} {mid : MethodId} {args : Array Value} {below : List Frame} {meth : Method} {c : Code} {D : va_G} {G : Nat → ClassId} {A : Nat → Prop} {ad : Nat → Nat} {H : Heap} {locs : List Loc} {cells slots : Nat} {lsM : Array Slot},
      lt_C (p, l, e, R, s, mid, args, below, meth, c, D, G, A) m → d + 7 ≤ R.frames → 64 * d + 200 ≤ R.locals → lt_9 M → lt_R D G A ad M s H → va_S A s.heap H locs → lsM.size = (lt_inf m).2.2.1 → (∀ v ∈ as, lt_ok (mN M) v) → (cells + (mC z'.2 - mC M) ≤ R.cells ∧ slots + (mS z'.2 - mS M) ≤ R.slots) →
      vx_Run p l e R s mid args below meth c H locs cells slots (mC z'.2 - mC M) (mS z'.2 - mS M) (F0 mid pc lsM ((as.reverse ++ rest).map (lt_v ad))) (rest.map (lt_v ad)) (lt_Qc D G A z' (mN M) ad (as.map (lt_v ad)).toArray) (lt_XC D G A z' (mN M) ad) A)
    (hret : ∀ v, z'.1 = .inl v → lt_U l d m z (pc + 3) ls (v.toList ++ rest) z'.2)
    (hthr : ∀ e, z'.1 = .inr e → (lt_hh m = [] ∧ z = (.inr e, z'.2)) ∨ ∃ c, lt_hrow m pc e c (lt_hh m) = true ∧ lt_ret m = some .int ∧ z = (.inl (some (.int c)), z'.2)) :
    lt_U l d m z pc ls (as.reverse ++ rest) M := fun h9 => by
  obtain ⟨⟨hge, h9'⟩, -⟩ := hm h9
  have hgz : lt_ge z'.2 z.2 ∧ lt_9 z.2 := by
    rcases hz : z'.1 with v | e
    · exact (hret v hz h9').1
    · rcases hthr e hz with ⟨-, rfl⟩ | ⟨c, -, -, rfl⟩
      · exact ⟨lt_ge.rf, h9'⟩
      · exact ⟨lt_ge.rf, h9'⟩
  refine ⟨⟨hge.tr hgz.1, hgz.2⟩, fun X q hC => ?_⟩
  obtain ⟨p, l', e, R, s, mid, args, below, meth, cd, D, G, A⟩ := X
  obtain ⟨n0, ad0, mc, ms⟩ := q
  obtain ⟨hC0, hrm, hll, hfr, hlo⟩ := id hC
  have hll' : l' = l := hll
  subst hll'
  have hrm1 : mc ≤ R.cells := hrm.1
  have hrm2 : ms ≤ R.slots := hrm.2
  have hfr' : d + 7 ≤ R.frames := hfr
  have hlo' : 64 * d + 200 ≤ R.locals := hlo
  refine ⟨hge.tr hgz.1, fun ad H locs cells slots lsM hR hS hL hst hc hs ha hn h0 => ?_⟩
  have c1 := hge.1
  have c2 := hge.2.1
  have c3 := hge.2.2
  have c4 := hgz.1.1
  have c5 := hgz.1.2.1
  have hm1 : 1 ≤ mN M := hR.2.2.2.2.2.2.2
  have hok : ∀ v ∈ as, lt_ok (mN M) v := fun v hv => hst v (List.mem_append_left _ (List.mem_reverse.mpr hv))
  have hokr : ∀ v ∈ rest, lt_ok (mN M) v := fun v hv => hst v (List.mem_append_right _ hv)
  refine lt_after (hrun hC0 hfr' hlo' h9 hR hS hL.1 hok ⟨by omega, by omega⟩) hS (fun v ad' H1 locs1 hz ext hR1 hS1 hokv => ?_) (fun e0 ce q ad' H1 locs1 hz he ext hR1 hS1 hce hcv hcl => ?_)
  · have hV := ((hret v hz) h9').2 _ (n0, ad0, mc, ms) hC
    have go := hV.2 ad' H1 locs1 (cells + (mC z'.2 - mC M)) (slots + (mS z'.2 - mS M)) lsM hR1 hS1 (hL.up c3 ext) (fun w hw => by
      rcases List.mem_append.mp hw with h | h
      · exact hokv w (by rcases v with _ | v <;> simp at h; rw [h])
      · exact lt_ok.up c3 (hokr w h)) (by omega) (by omega) (fun k hk => by rw [ext k (by omega)]; exact ha k hk) (by omega) (by rw [ext 0 (by omega)]; exact h0)
    have e1 : (v.toList ++ rest).map (lt_v ad') = (v.map (lt_v ad')).toList ++ rest.map (lt_v ad) := by
      rw [List.map_append, lt_vs.up ext hokr]
      rcases v with _ | v <;> rfl
    rw [e1] at go
    exact go
  · rcases hthr e0 hz with ⟨hh, hzz⟩ | ⟨c, hrow, hint, hzz⟩
    · subst hzz
      obtain ⟨hx, hb, hml, hown, hts, hr, hlk, hm, hi, htb, hl, hK, hZ, hA⟩ := hC0
      refine vx_out (E := lt_en e0) (fun x hx => by rw [htb, hh] at hx; cases hx) hlk hce hcv hcl (fun t ht hal => ?_) hS1.2.2 (by have c8 : cells + (mC z'.2 - mC M) ≤ mc := hc; exact c8) (by have c8 : slots + (mS z'.2 - mS M) ≤ ms := hs; exact c8)
      exact ⟨e0, ad', rfl, he, rfl, fun k hk => (ext k (by omega)).trans (ha k hk), by rw [ht]; exact hR1.moved hal, hS1.F ht⟩
    · subst hzz
      exact lt_catchW hC0 hrow hint he hR1 hS1 (hL.up c3 ext) hce hcv hcl (by have c8 : cells + (mC z'.2 - mC M) ≤ mc := hc; exact c8) (by have c8 : slots + (mS z'.2 - mS M) ≤ ms := hs; exact c8) (fun k hk => (ext k (by omega)).trans (ha k hk))
end CallU
