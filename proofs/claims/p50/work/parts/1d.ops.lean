/-! CALLS, RETURNS, THROWS as instructions; and all instructions together -/
section OpR
variable {l : Launch} {d m pc nx tg : Nat} {cn : Int32} {fl : Bool} {z : LO × LM} {ls st : List Value} {M : LM} {K : lt_KT (LO × LM)}
theorem lt_U.ret {o : LO} (h : ∀ X q, lt_Cx l d X q m → lt_V X m (o, M) q pc ls st M) : lt_U l d m (o, M) pc ls st M := fun h9 => ⟨⟨lt_ge.rf, h9⟩, h⟩
theorem lt_nl_inv {r : List Value} {x : Option (LO × LM)} (h : lt_nl r x = some z) : r = [] ∧ x = some z := by
  unfold lt_nl at h
  split at h
  · exact ⟨rfl, h⟩
  · cases h
theorem lt_rt_inv {k : Nat} {x : Option (LO × LM)} (hm : m < 150) (h : lt_rt m k x = some z) : lt_rk (lt_ret m) = k ∧ x = some z := by
  obtain ⟨h1, h2⟩ := lt_bif_inv h
  exact ⟨(lt_rks m hm).trans (Nat.eq_of_beq_eq_true h1), h2⟩
theorem o_ireturn (hD : lt_D m pc nx tg cn .ireturn) (h : (lt_i1 st fun x r => lt_nl r (bif Nat.beq (lt_inf m).2.1 6 then lt_b1 x (some (.inl (some (.int x)), M)) else lt_rt m 1 (some (.inl (some (.int x)), M)))) = some z) : lt_U l d m z pc ls st M := by
  obtain ⟨hm, hd, hn, hc⟩ := hD
  obtain ⟨x, r, rfl, h⟩ := lt_i1_inv h
  obtain ⟨rfl, h⟩ := lt_nl_inv h
  cases hb : Nat.beq (lt_inf m).2.1 6 with
  | true =>
    rw [hb] at h
    obtain ⟨hx, h⟩ := lt_if_inv h
    cases h
    exact lt_U.ret fun X q hC => v_zreturn hC.1 hd (lt_rk6 ((lt_rks m hm).trans (Nat.eq_of_beq_eq_true hb))) hx
  | false =>
    rw [hb] at h
    obtain ⟨hk, h⟩ := lt_rt_inv hm h
    cases h
    exact lt_U.ret fun X q hC => v_ireturn hC.1 hd (lt_rk1 hk)
theorem o_lreturn (hD : lt_D m pc nx tg cn .lreturn) (h : (lt_l1 st fun x r => lt_nl r (lt_rt m 2 (some (.inl (some (.long x)), M)))) = some z) : lt_U l d m z pc ls st M := by
  obtain ⟨hm, hd, hn, hc⟩ := hD
  obtain ⟨x, r, rfl, h⟩ := lt_l1_inv h
  obtain ⟨rfl, h⟩ := lt_nl_inv h
  obtain ⟨hk, h⟩ := lt_rt_inv hm h
  cases h
  exact lt_U.ret fun X q hC => v_lreturn hC.1 hd (lt_rk2 hk)
theorem o_freturn (hD : lt_D m pc nx tg cn .freturn) (h : (lt_f1 st fun x r => lt_nl r (lt_rt m 5 (some (.inl (some (.float x)), M)))) = some z) : lt_U l d m z pc ls st M := by
  obtain ⟨hm, hd, hn, hc⟩ := hD
  obtain ⟨x, r, rfl, h⟩ := lt_f1_inv h
  obtain ⟨rfl, h⟩ := lt_nl_inv h
  obtain ⟨hk, h⟩ := lt_rt_inv hm h
  cases h
  exact lt_U.ret fun X q hC => v_freturn hC.1 hd (lt_rk5 hk)
theorem o_dreturn (hD : lt_D m pc nx tg cn .dreturn) (h : (lt_d1 st fun x r => lt_nl r (lt_rt m 4 (some (.inl (some (.double x)), M)))) = some z) : lt_U l d m z pc ls st M := by
  obtain ⟨hm, hd, hn, hc⟩ := hD
  obtain ⟨x, r, rfl, h⟩ := lt_d1_inv h
  obtain ⟨rfl, h⟩ := lt_nl_inv h
  obtain ⟨hk, h⟩ := lt_rt_inv hm h
  cases h
  exact lt_U.ret fun X q hC => v_dreturn hC.1 hd (lt_rk4 hk)
theorem o_areturn (hD : lt_D m pc nx tg cn .areturn) (h : (lt_a1 st fun x r => lt_nl r (lt_rt m 3 (some (.inl (some (.ref x)), M)))) = some z) : lt_U l d m z pc ls st M := by
  obtain ⟨hm, hd, hn, hc⟩ := hD
  obtain ⟨x, r, rfl, h⟩ := lt_a1_inv h
  obtain ⟨rfl, h⟩ := lt_nl_inv h
  obtain ⟨hk, h⟩ := lt_rt_inv hm h
  obtain ⟨rt, hk1, hk2⟩ := lt_rk3 hk
  cases h
  exact lt_U.ret fun X q hC => v_areturn hC.1 hd hk1 hk2
theorem o_return (hD : lt_D m pc nx tg cn .return_) (h : (lt_nl st (lt_rt m 0 (some (.inl none, M)))) = some z) : lt_U l d m z pc ls st M := by
  obtain ⟨hm, hd, hn, hc⟩ := hD
  obtain ⟨rfl, h⟩ := lt_nl_inv h
  obtain ⟨hk, h⟩ := lt_rt_inv hm h
  cases h
  exact lt_U.ret fun X q hC => v_return hC.1 hd (lt_rk0 hk)
theorem lt_cok_c {own idx c : Nat} (ho : own < 17) (h : lt_find (lt_cls own) idx = some c) : c < 13 ∨ (100 ≤ c ∧ c < 104) ∨ c = 207 := by
  have h1 := List.all_eq_true.mp (lt_co own ho) _ (lt_find_mem h)
  unfold lt_cok at h1
  dsimp only at h1
  split at h1
  · rw [Bool.and_eq_true] at h1
    have h2 := h1.2
    simp only [Bool.or_eq_true, Bool.and_eq_true] at h2
    rcases h2 with h2 | h2 | h2
    · exact Or.inl (Nat.lt_of_succ_le (Nat.le_of_ble_eq_true h2))
    · exact Or.inr (Or.inl ⟨Nat.le_of_ble_eq_true h2.1, Nat.lt_of_succ_le (Nat.le_of_ble_eq_true h2.2)⟩)
    · exact Or.inr (Or.inr (Nat.eq_of_beq_eq_true h2))
  · cases h1
theorem o_newX {idx : Nat} (hcd : lt_code m pc = some (.new idx, nx, fl, tg, cn)) (hD : lt_D m pc nx tg cn (.new idx)) (hK : lt_HK l d m z K) (h : lt_nw (lt_inf m).1 nx idx ls st M K = some z) : lt_U l d m z pc ls st M := by
  obtain ⟨hm, hd, hn, hc⟩ := id hD
  unfold lt_nw at h
  split at h
  · next c hf =>
    rcases lt_cok_c (lt_own_lt m hm) hf with h12 | h100 | h207
    · have hb : Nat.blt c 100 = true := Nat.ble_eq_true_of_le (by omega)
      rw [hb] at h
      exact o_new hD hK hf h12 h
    · have hb : Nat.blt c 100 = false := by
        cases hb : Nat.blt c 100
        · rfl
        · have := Nat.le_of_ble_eq_true hb; omega
      rw [hb] at h
      obtain ⟨h2, h⟩ := lt_bif_inv h
      rw [Bool.and_eq_true] at h2
      cases h
      exact fun h9 => ⟨⟨⟨Nat.le_succ _, Nat.le_add_right _ _, Nat.le_refl _⟩, h9⟩, fun X q hC => v_throw hC hd (lt_site_ok hm hcd hf) h100.1 h100.2 (Nat.le_of_ble_eq_true h2.2)⟩
    · have hb : Nat.blt c 100 = false := by
        cases hb : Nat.blt c 100
        · rfl
        · have := Nat.le_of_ble_eq_true hb; omega
      rw [hb] at h
      obtain ⟨h2, h⟩ := lt_bif_inv h
      rw [Bool.and_eq_true] at h2
      have := Nat.le_of_ble_eq_true h2.1
      omega
  · cases h
/-! what a call hands back -/
theorem lt_th_inv {h : List (Nat × Int32)} {e : Nat} (hh : lt_th h e M = some z) : (∃ c, lt_find h e = some c ∧ z = (.inl (some (.int c)), M)) ∨ (h = [] ∧ z = (.inr e, M)) := by
  unfold lt_th at hh
  split at hh
  · next c hf => cases hh; exact Or.inl ⟨c, hf, rfl⟩
  · split at hh
    · cases hh; exact Or.inr ⟨rfl, rfl⟩
    · cases hh
theorem lt_rb_inv {rt : Nat} {q : Option (LO × LM)} {hl : List (Nat × Int32)} {k : List Value → LM → Option (LO × LM)} (h : lt_rb rt q hl k = some z) : (∃ v M', q = some (.inl v, M') ∧ k v.toList M' = some z) ∨ ∃ e M', q = some (.inr e, M') ∧ lt_th hl e M' = some z := by
  unfold lt_rb at h
  split at h
  · unfold lt_bv at h
    split at h
    · exact Or.inl ⟨none, _, rfl, h⟩
    · exact Or.inr ⟨_, _, rfl, h⟩
    · cases h
  · unfold lt_bi at h
    split at h
    · exact Or.inl ⟨some (.int _), _, rfl, h⟩
    · exact Or.inr ⟨_, _, rfl, h⟩
    · cases h
  · unfold lt_bl at h
    split at h
    · exact Or.inl ⟨some (.long _), _, rfl, h⟩
    · exact Or.inr ⟨_, _, rfl, h⟩
    · cases h
  · unfold lt_br at h
    split at h
    · exact Or.inl ⟨some (.ref _), _, rfl, h⟩
    · exact Or.inr ⟨_, _, rfl, h⟩
    · cases h
  · unfold lt_bd at h
    split at h
    · exact Or.inl ⟨some (.double _), _, rfl, h⟩
    · exact Or.inr ⟨_, _, rfl, h⟩
    · cases h
  · unfold lt_bf at h
    split at h
    · exact Or.inl ⟨some (.float _), _, rfl, h⟩
    · exact Or.inr ⟨_, _, rfl, h⟩
    · cases h
  · unfold lt_bi at h
    split at h
    · exact Or.inl ⟨some (.int _), _, rfl, h⟩
    · exact Or.inr ⟨_, _, rfl, h⟩
    · cases h
/-- what is known of the calls -/
def lt_HC (l : Launch) (d : Nat) (call : Nat → List Value → LM → Option (LO × LM)) : Prop := ∀ mi as M z, mi < 149 → (mi < 131 ∨ 133 < mi) → lt_w as ≤ (lt_inf mi).2.2.1 → call mi as M = some z → lt_Met l d mi as M z
theorem lt_w_rev (l : List Value) : lt_w l.reverse = lt_w l := by
  rw [← lt_w_sum, ← lt_w_sum, List.map_reverse, List.sum_reverse]
theorem lt_thr_ok {e : Nat} {i : Instr} {M' : LM} (hm : m < 150) (hcd : lt_code m pc = some (i, nx, fl, tg, cn)) (hi : lt_isC i = true) (h : lt_th (lt_inf m).2.2.2.2 e M' = some z) : (lt_hh m = [] ∧ z = (.inr e, M')) ∨ ∃ c, lt_hrow m pc e c (lt_hh m) = true ∧ lt_ret m = some .int ∧ z = (.inl (some (.int c)), M') := by
  rcases lt_th_inv h with ⟨c, hf, rfl⟩ | ⟨h0, rfl⟩
  · exact Or.inr ⟨c, lt_hrow_ok hm hcd hi hf, lt_hint m hm (fun e0 => by rw [e0] at hf; cases hf), rfl⟩
  · exact Or.inl ⟨lt_hnil m hm h0, rfl⟩
end OpR
section OpC
variable {l : Launch} {d m pc nx tg idx : Nat} {cn : Int32} {fl : Bool} {z : LO × LM} {ls st : List Value} {M : LM} {K : lt_KT (LO × LM)} {call : Nat → List Value → LM → Option (LO × LM)}
theorem lt_split (st : List Value) (n : Nat) : st = (st.take n).reverse.reverse ++ st.drop n := by rw [List.reverse_reverse, List.take_append_drop]
theorem o_virtual (hcd : lt_code m pc = some (.invokevirtual idx, nx, fl, tg, cn)) (hD : lt_D m pc nx tg cn (.invokevirtual idx)) (hK : lt_HK l d m z K) (hcall : lt_HC l d call) (h : lt_cv call (lt_inf m).1 m nx idx ls st M K = some z) : lt_U l d m z pc ls st M := by
  obtain ⟨hm, hd, hn, hc⟩ := hD
  have hn : nx = pc + 3 := hn
  subst hn
  unfold lt_cv at h
  split at h
  · next mi n hf =>
    obtain ⟨hv, h⟩ := lt_bif_inv h
    obtain ⟨hsk, h⟩ := lt_bif_inv h
    obtain ⟨hag, h⟩ := lt_bif_inv h
    rw [Bool.and_eq_true] at hsk
    have hn1 := Nat.le_of_ble_eq_true hsk.1
    have hw := Nat.le_of_ble_eq_true hsk.2
    have hag' := Nat.le_of_ble_eq_true hag
    unfold lt_isv at hv
    rw [Bool.and_eq_true, Bool.and_eq_true, Bool.not_eq_true', Bool.not_eq_true'] at hv
    obtain ⟨hv1, hv2, hv3⟩ := hv
    have hmi : mi < 149 := Nat.lt_of_succ_le (Nat.le_of_ble_eq_true hv3)
    have hmath : mi < 131 ∨ 133 < mi := by
      rcases (show mi < 131 ∨ 133 < mi ∨ mi = 131 ∨ mi = 132 ∨ mi = 133 by omega) with e | e | e | e | e
      · exact Or.inl e
      · exact Or.inr e
      · rw [e] at hv1; cases hv1
      · rw [e] at hv1; cases hv1
      · rw [e] at hv1; cases hv1
    unfold lt_rc at h
    split at h
    · next a as has =>
      obtain ⟨hk, h⟩ := lt_if_inv h
      have hlen : as.length + 1 = n := by
        have e1 := congrArg List.length has
        rw [List.length_reverse, List.length_take, List.length_cons] at e1
        omega
      have hst : st = as.reverse ++ .ref a :: st.drop n := by
        have e1 := lt_split st n
        rw [has, List.reverse_cons, List.append_assoc] at e1
        exact e1
      have hwa : lt_w (.ref a :: as) ≤ (lt_inf mi).2.2.1 := by rw [← has, lt_w_rev]; exact hag'
      have go : ∀ z', call mi (.ref a :: as) M = some z' → (∀ v, z'.1 = .inl v → lt_U l d m z (pc + 3) ls (v.toList ++ st.drop n) z'.2) → (∀ e, z'.1 = .inr e → (lt_hh m = [] ∧ z = (.inr e, z'.2)) ∨ ∃ c, lt_hrow m pc e c (lt_hh m) = true ∧ lt_ret m = some .int ∧ z = (.inl (some (.int c)), z'.2)) → lt_U l d m z pc ls st M := fun z' hz' h1 h2 => by
        have hM := hcall mi (.ref a :: as) M z' hmi hmath hwa hz'
        have r := lt_callU (as := .ref a :: as) (rest := st.drop n) (pc := pc) (ls := ls) (z := z) hm hM (fun hC hfr hlo h9 hR hS hsz hok hcc => by
          have := lt_runV hC hfr hlo hM h9 hmi hv1 hv2 hf hlen hd hk hR hS hsz hok hw hcc
          rw [List.reverse_cons, List.append_assoc]
          exact this) h1 h2
        rw [List.reverse_cons, List.append_assoc] at r
        rw [hst]
        exact r
      rw [has] at h
      rcases lt_rb_inv h with ⟨v, M', hq, h⟩ | ⟨e, M', hq, h⟩
      · rw [lt_fc_eq] at h
        exact go _ hq (fun v' hv' => by cases hv'; exact hK _ _ _ _ h) (fun e he => by cases he)
      · exact go _ hq (fun v' hv' => by cases hv') (fun e' he => by cases he; exact lt_thr_ok hm hcd rfl h)
    · cases h
  · cases h
end OpC
