/-! ALL INSTRUCTIONS TOGETHER -/
def lt_HM (call : Nat → List Value → LM → Option (LO × LM)) : Prop := ∀ as M z, as.length = 2 → (call 131 as M = some z → ∃ x y : Int32, as = [.int x, .int y] ∧ z = (.inl (some (.int (if x < y then y else x))), M)) ∧ (call 132 as M = some z → ∃ x y : Int64, as = [.long x, .long y] ∧ z = (.inl (some (.long (if y < x then x else y))), M)) ∧ (call 133 as M = some z → ∃ x y : Int32, as = [.int x, .int y] ∧ z = (.inl (some (.int (if y < x then y else x))), M))
theorem lt_ini_ns : ∀ m, m < 149 → lt_ini m = true → (lt_inf m).2.2.2.1 = false := by decide +kernel
section OpA
variable {l : Launch} {d m pc nx tg idx : Nat} {cn : Int32} {fl : Bool} {z : LO × LM} {ls st : List Value} {M : LM} {K : lt_KT (LO × LM)} {call : Nat → List Value → LM → Option (LO × LM)}
theorem lt_cp6_inv {f : List Value → LM → Option (LO × LM)} (h : lt_cp6 M st f = some z) : ∃ (k dp : Int32) (b : Nat) (sp : Int32) (a : Nat) (r : List Value), st = .int k :: .int dp :: .ref b :: .int sp :: .ref a :: r ∧ lt_cp M a b sp dp k (fun M => f r M) = some z := by
  unfold lt_cp6 at h
  split at h
  · exact ⟨_, _, _, _, _, _, rfl, h⟩
  · cases h
theorem o_static (hcd : lt_code m pc = some (.invokestatic idx, nx, fl, tg, cn)) (hD : lt_D m pc nx tg cn (.invokestatic idx)) (hK : lt_HK l d m z K) (hcall : lt_HC l d call) (hmx : lt_HM call) (h : lt_cs call (lt_inf m).1 m nx idx ls st M K = some z) : lt_U l d m z pc ls st M := by
  obtain ⟨hm, hd, hn, hc⟩ := hD
  have hn : nx = pc + 3 := hn
  subst hn
  unfold lt_cs at h
  split at h
  · next mi n hf =>
    cases hb : Nat.beq mi 1000 with
    | true =>
      have e1 := Nat.eq_of_beq_eq_true hb
      subst e1
      rw [hb] at h
      have h : lt_sk st 5 (lt_cp6 M st fun r M => K (pc + 3) ls r M) = some z := h
      obtain ⟨hsk, h⟩ := lt_bif_inv h
      rw [Bool.and_eq_true] at hsk
      have hw := Nat.le_of_ble_eq_true hsk.2
      obtain ⟨k, dp, b, sp, a, r, hst, h1⟩ := lt_cp6_inv h
      subst hst
      obtain ⟨hg, h2⟩ := lt_if_inv h1
      by_cases hk : mK M a = 1 ∧ mK M b = 1
      · rw [if_pos hk] at h2
        exact lt_U.of (M' := wRI M b (va_cpy (mI M a) (mI M b) sp.toNatClampNeg dp.toNatClampNeg k.toNatClampNeg)) ⟨Nat.le_refl _, Nat.le_refl _, Nat.le_refl _⟩ (fun h9 => h9) (hK _ _ _ _ h2) fun _ X q hC hV => v_copyI hC hd hf hw hk.1 hk.2 hg hV
      · rw [if_neg hk] at h2
        obtain ⟨hk2, h3⟩ := lt_if_inv h2
        exact lt_U.of (M' := wRL M b (va_cpy (mL M a) (mL M b) sp.toNatClampNeg dp.toNatClampNeg k.toNatClampNeg)) ⟨Nat.le_refl _, Nat.le_refl _, Nat.le_refl _⟩ (fun h9 => h9) (hK _ _ _ _ h3) fun _ X q hC hV => v_copyL hC hd hf hw hk2.1 hk2.2 hg hV
    | false =>
      rw [hb] at h
      obtain ⟨hv, h⟩ := lt_bif_inv h
      obtain ⟨hsk, h⟩ := lt_bif_inv h
      obtain ⟨hag, h⟩ := lt_bif_inv h
      rw [Bool.and_eq_true] at hsk
      have hn1 := Nat.le_of_ble_eq_true hsk.1
      have hw := Nat.le_of_ble_eq_true hsk.2
      have hag' := Nat.le_of_ble_eq_true hag
      unfold lt_iss at hv
      rw [Bool.and_eq_true] at hv
      obtain ⟨hv1, hv3⟩ := hv
      have hmi : mi < 149 := Nat.lt_of_succ_le (Nat.le_of_ble_eq_true hv3)
      have hlen : (st.take n).reverse.length = n := by rw [List.length_reverse, List.length_take]; omega
      have hst := lt_split st n
      have hnp := (lt_l_spec (lt_own_lt m hm) hmi hf).2
      have hmath : mi = 131 ∨ mi = 132 ∨ mi = 133 ∨ (mi < 131 ∨ 133 < mi) := by omega
      rcases hmath with e | e | e | hmath
      · subst e
        have e2 : n = 2 := Option.some.inj (hnp.symm.trans lt_mnp.1.1)
        rcases lt_rb_inv h with ⟨v, M', hq, h⟩ | ⟨e, M', hq, h⟩
        · obtain ⟨x, y, has, hz⟩ := (hmx _ M _ (hlen.trans e2)).1 hq
          cases hz
          rw [lt_fc_eq] at h
          rw [has] at hst
          rw [hst]
          exact (hK _ _ _ _ h).s fun X q hC hV => v_mmax hC hd hf hw hV
        · obtain ⟨x, y, has, hz⟩ := (hmx _ M _ (hlen.trans e2)).1 hq
          cases hz
      · subst e
        have e2 : n = 2 := Option.some.inj (hnp.symm.trans lt_mnp.1.2)
        rcases lt_rb_inv h with ⟨v, M', hq, h⟩ | ⟨e, M', hq, h⟩
        · obtain ⟨x, y, has, hz⟩ := (hmx _ M _ (hlen.trans e2)).2.1 hq
          cases hz
          rw [lt_fc_eq] at h
          rw [has] at hst
          rw [hst]
          exact (hK _ _ _ _ h).s fun X q hC hV => v_mmaxL hC hd hf hw hV
        · obtain ⟨x, y, has, hz⟩ := (hmx _ M _ (hlen.trans e2)).2.1 hq
          cases hz
      · subst e
        have e2 : n = 2 := Option.some.inj (hnp.symm.trans lt_mnp.2)
        rcases lt_rb_inv h with ⟨v, M', hq, h⟩ | ⟨e, M', hq, h⟩
        · obtain ⟨x, y, has, hz⟩ := (hmx _ M _ (hlen.trans e2)).2.2 hq
          cases hz
          rw [lt_fc_eq] at h
          rw [has] at hst
          rw [hst]
          exact (hK _ _ _ _ h).s fun X q hC hV => v_mmin hC hd hf hw hV
        · obtain ⟨x, y, has, hz⟩ := (hmx _ M _ (hlen.trans e2)).2.2 hq
          cases hz
      · have hwa : lt_w (st.take n).reverse ≤ (lt_inf mi).2.2.1 := by rw [lt_w_rev]; exact hag'
        have go : ∀ z', call mi (st.take n).reverse M = some z' → (∀ v, z'.1 = .inl v → lt_U l d m z (pc + 3) ls (v.toList ++ st.drop n) z'.2) → (∀ e, z'.1 = .inr e → (lt_hh m = [] ∧ z = (.inr e, z'.2)) ∨ ∃ c, lt_hrow m pc e c (lt_hh m) = true ∧ lt_ret m = some .int ∧ z = (.inl (some (.int c)), z'.2)) → lt_U l d m z pc ls st M := fun z' hz' h1 h2 => by
          have hM := hcall mi _ M z' hmi hmath hwa hz'
          have r := lt_callU (as := (st.take n).reverse) (rest := st.drop n) (pc := pc) (ls := ls) (z := z) hm hM (fun hC hfr hlo h9 hR hS hsz hok hcc => lt_runS hC hfr hlo hM h9 hmi hv1 hf hlen hd hR hS hsz hok hw hcc) h1 h2
          rw [← hst] at r
          exact r
        rcases lt_rb_inv h with ⟨v, M', hq, h⟩ | ⟨e, M', hq, h⟩
        · rw [lt_fc_eq] at h
          exact go _ hq (fun v' hv' => by cases hv'; exact hK _ _ _ _ h) (fun e he => by cases he)
        · exact go _ hq (fun v' hv' => by cases hv') (fun e' he => by cases he; exact lt_thr_ok hm hcd rfl h)
  · cases h
theorem o_special (hcd : lt_code m pc = some (.invokespecial idx, nx, fl, tg, cn)) (hD : lt_D m pc nx tg cn (.invokespecial idx)) (hK : lt_HK l d m z K) (hcall : lt_HC l d call) (h : lt_ci call (lt_inf m).1 m nx idx ls st M K = some z) : lt_U l d m z pc ls st M := by
  obtain ⟨hm, hd, hn, hc⟩ := hD
  have hn : nx = pc + 3 := hn
  subst hn
  unfold lt_ci at h
  split at h
  · next mi n hf =>
    cases hb : Nat.beq mi 1001 with
    | true =>
      have e1 := Nat.eq_of_beq_eq_true hb
      subst e1
      rw [hb] at h
      have h : (lt_a1 st fun _ r => bif Nat.ble (lt_w r) 8 then K (pc + 3) ls r M else none) = some z := h
      obtain ⟨a, r, hst, h1⟩ := lt_a1_inv h
      subst hst
      obtain ⟨hw, h2⟩ := lt_bif_inv h1
      exact (hK _ _ _ _ h2).s fun X q hC hV => v_objInit hC hd hf (Nat.le_of_ble_eq_true hw) hV
    | false =>
      rw [hb] at h
      obtain ⟨hv, h⟩ := lt_bif_inv h
      obtain ⟨hsk, h⟩ := lt_bif_inv h
      obtain ⟨hag, h⟩ := lt_bif_inv h
      rw [Bool.and_eq_true] at hsk
      have hn1 := Nat.le_of_ble_eq_true hsk.1
      have hw := Nat.le_of_ble_eq_true hsk.2
      have hag' := Nat.le_of_ble_eq_true hag
      have hmi : mi < 149 := by
        have h1 := List.all_eq_true.mp (lt_lo _ (lt_own_lt m hm)) _ (lt_find_mem hf)
        unfold lt_lok at h1
        dsimp only at h1
        split at h1
        · rw [Bool.and_eq_true, Bool.and_eq_true] at h1
          exact Nat.lt_of_succ_le (Nat.le_of_ble_eq_true h1.2.1)
        · simp only [Bool.and_eq_true, Bool.or_eq_true] at h1
          rcases h1.2 with e | e | e
          · rw [Nat.eq_of_beq_eq_true e] at hv; cases hv
          · rw [Nat.eq_of_beq_eq_true e] at hv; cases hv
          · exact Nat.lt_of_succ_le (Nat.le_of_ble_eq_true e.1)
        · cases h1
      have hmath : mi < 131 ∨ 133 < mi := by
        rcases (show mi < 131 ∨ 133 < mi ∨ mi = 131 ∨ mi = 132 ∨ mi = 133 by omega) with e | e | e | e | e
        · exact Or.inl e
        · exact Or.inr e
        · rw [e] at hv; cases hv
        · rw [e] at hv; cases hv
        · rw [e] at hv; cases hv
      have hv1 : (lt_inf mi).2.2.2.1 = false := lt_ini_ns mi hmi hv
      split at h
      · next a as has =>
        have hlen : as.length + 1 = n := by
          have e1 := congrArg List.length has
          rw [List.length_reverse, List.length_take, List.length_cons] at e1
          omega
        have hst : st = as.reverse ++ .ref a :: st.drop n := by
          have e1 := lt_split st n
          rw [has, List.reverse_cons, List.append_assoc] at e1
          exact e1
        have hwa : lt_w (.ref a :: as) ≤ (lt_inf mi).2.2.1 := by rw [← has, lt_w_rev]; exact hag'
        have go : ∀ z', call mi (.ref a :: as) M = some z' → (∀ v, z'.1 = .inl v → lt_U l d m z (pc + 3) ls (v.toList ++ st.drop n) z'.2) → (∀ e, z'.1 = .inr e → (lt_hh m = [] ∧ z = (.inr e, z'.2)) ∨ ∃ c, lt_hrow m pc e c (lt_hh m) = true ∧ lt_ret m = some .int ∧ z = (.inl (some (.int c)), z'.2)) → lt_U l d m z pc ls st M := fun z' hz' h1 h2 => by
          have hM := hcall mi (.ref a :: as) M z' hmi hmath hwa hz'
          have r := lt_callU (as := .ref a :: as) (rest := st.drop n) (pc := pc) (ls := ls) (z := z) hm hM (fun hC hfr hlo h9 hR hS hsz hok hcc => by
            have := lt_runI hC hfr hlo hM h9 hmi hv1 hv hf hlen hd hR hS hsz hok hw hcc
            rw [List.reverse_cons, List.append_assoc]
            exact this) h1 h2
          rw [List.reverse_cons, List.append_assoc] at r
          rw [hst]
          exact r
        rw [has] at h
        rcases lt_rb_inv h with ⟨v, M', hq, h⟩ | ⟨e, M', hq, h⟩
        · rw [lt_fc_eq] at h
          exact go _ hq (fun v' hv' => by cases hv'; exact hK _ _ _ _ h) (fun e he => by cases he)
        · exact go _ hq (fun v' hv' => by cases hv') (fun e' he => by cases he; exact lt_thr_ok hm hcd rfl h)
      · cases h
  · cases h
set_option maxHeartbeats 8000000 in
theorem lt_op_ok {i : Instr} (hcd : lt_code m pc = some (i, nx, fl, tg, cn)) (hD : lt_D m pc nx tg cn i) (hK : lt_HK l d m z K) (hcall : lt_HC l d call) (hmx : lt_HM call) (h : lt_op call (lt_inf m).1 m pc i nx fl tg cn ls st M K = some z) : lt_U l d m z pc ls st M := by
  unfold lt_op at h
  split at h <;> first
    | exact o_iload hD hK h
    | exact o_iload_n hD hK h
    | exact o_aload hD hK h
    | exact o_aload_n hD hK h
    | exact o_lload hD hK h
    | exact o_lload_n hD hK h
    | exact o_dload hD hK h
    | exact o_istore hD hK h
    | exact o_istore_n hD hK h
    | exact o_astore hD hK h
    | exact o_astore_n hD hK h
    | exact o_lstore hD hK h
    | exact o_lstore_n hD hK h
    | exact o_dstore hD hK h
    | exact o_iinc hD hK h
    | exact o_iconst hD hK h
    | exact o_bipush hD hK h
    | exact o_sipush hD hK h
    | exact o_lconst hD hK h
    | exact o_fconst hD hK h
    | exact o_dconst hD hK h
    | exact o_null hD hK h
    | exact o_ldc hD hK h
    | exact o_ldc_w hD hK h
    | exact o_ldc2_w hD hK h
    | exact o_iadd hD hK h
    | exact o_isub hD hK h
    | exact o_imul hD hK h
    | exact o_iand hD hK h
    | exact o_ior hD hK h
    | exact o_ixor hD hK h
    | exact o_idiv hD hK h
    | exact o_irem hD hK h
    | exact o_ineg hD hK h
    | exact o_ishl hD hK h
    | exact o_ishr hD hK h
    | exact o_iushr hD hK h
    | exact o_ladd hD hK h
    | exact o_lmul hD hK h
    | exact o_land hD hK h
    | exact o_lor hD hK h
    | exact o_ldiv hD hK h
    | exact o_lrem hD hK h
    | exact o_lushr hD hK h
    | exact o_lshl hD hK h
    | exact o_lcmp hD hK h
    | exact o_i2l hD hK h
    | exact o_l2i hD hK h
    | exact o_i2f hD hK h
    | exact o_i2d hD hK h
    | exact o_f2d hD hK h
    | exact o_fdiv hD hK h
    | exact o_ddiv hD hK h
    | exact o_dcmp hD hK h
    | exact o_dup hD hK h
    | exact o_dup2 hD hK h
    | exact o_pop hD hK h
    | exact o_goto hD hK h
    | exact o_ifCond hD hK h
    | exact o_if_icmp hD hK h
    | exact o_ifnull hD hK h
    | exact o_ifnonnull hD hK h
    | exact o_table hD hK h
    | exact o_lookup hD hK h
    | exact o_getfield hD hK h
    | exact o_putfield hD hK h
    | exact o_iaload hD hK h
    | exact o_baload hD hK h
    | exact o_laload hD hK h
    | exact o_aaload hD hK h
    | exact o_iastore hD hK h
    | exact o_bastore hD hK h
    | exact o_lastore hD hK h
    | exact o_aastore hD hK h
    | exact o_arraylength hD hK h
    | exact o_newarray_int hD hK h
    | exact o_newarray_long hD hK h
    | exact o_newarray_boolean hD hK h
    | exact o_anewarray hD hK h
    | exact o_multi hD hK h
    | exact o_newX hcd hD hK h
    | exact o_static hcd hD hK hcall hmx h
    | exact o_virtual hcd hD hK hcall h
    | exact o_special hcd hD hK hcall h
    | exact o_ireturn hD h
    | exact o_lreturn hD h
    | exact o_freturn hD h
    | exact o_dreturn hD h
    | exact o_areturn hD h
    | exact o_return hD h
    | cases h
theorem lt_do_ok (hm : m < 150) (hK : lt_HK l d m z K) (hcall : lt_HC l d call) (hmx : lt_HM call) (h : lt_do call m pc ls st M K = some z) : lt_U l d m z pc ls st M := by
  unfold lt_do at h
  split at h
  · next i nx fl tg cn hcd =>
    refine lt_op_ok hcd ⟨hm, lt_code_ok hm hcd⟩ (fun pc ls st M h => ?_) hcall hmx h
    split at h
    · exact hK _ _ _ _ h
    · rw [lt_fc_eq] at h
      exact (hK _ _ _ _ h).kl
  · cases h
theorem lt_it_ok (hm : m < 150) (hcall : lt_HC l d call) (hmx : lt_HM call) : ∀ (n pc : Nat) (ls st : List Value) (M : LM), lt_it call m n pc ls st M = some z → lt_U l d m z pc ls st M
  | 0, _, _, _, _, h => by cases h
  | n + 1, pc, ls, st, M, h => lt_do_ok hm (fun pc ls st M h => lt_it_ok hm hcall hmx n pc ls st M h) hcall hmx h
end OpA
