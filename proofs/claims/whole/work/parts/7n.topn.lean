/-! THE LAW: one call after the other -/
section Ux
variable {M M' M1 M2 N : LM} {L i j m : Nat} {xs : Nat → Int32} {code v : Int32} {z K K' : Option (LO × LM)} {fL fX fC : LM → Option (LO × LM)}
theorem w_ar (h : CSK L M) (hj : j < L) (hL : L ≤ 3072) : lt_ar M 0 9 (nI j) z = z := lt_ar_t (t_sc h).1 (by rw [(t_sc h).2, lt_iT (by omega)]; omega)
theorem w_ckr (h : CSK L M) : lt_ck M 123 27 z = z := lt_ck_t (t_r h).1
theorem w_th (h : CSK L M) (hc : mI M 123 0 = code) : f_X11_thrown 40 M 123 = some (.inl (some (.int code)), M) := by
  have := r_thrown (M := M) (o := 123) (H := mI M 124) (V := vv M 124) (X := xx M) 39 (t_r h)
  rw [show rM M 123 (mI M 124) (vv M 124) (xx M) = M from rM_id, show xx M 0 0 = code from hc] at this
  exact this
theorem w_cmp {a b : Int64} (h : a = b) : lg_cmp a b = 0 := by
  subst h
  unfold lg_cmp
  rw [if_neg (show ¬ a < a by rw [Int64.lt_iff_toInt_lt]; omega), if_pos rfl]
theorem w_end {a b : Int64} (h : CSK L M) (hc : code = 0 → mL M 200 0 = b) (ha : a = b) : (if code = 0 then (lt_ar M 200 2 0 (if lg_cmp (mL M 200 (lt_n 0)) a = 0 then K else K')) else K) = K := by
  by_cases q : code = 0
  · rw [if_pos q, t_oa h, if_pos (w_cmp (by rw [ha]; exact hc q))]
  · rw [if_neg q]
theorem w_cod : ∀ (hl : List (Nat × Int32)), hl.all (fun p => p.2 != 0) = true → ∀ e c, lt_find hl e = some c → c ≠ 0
  | [], _, e, c, h => by cases h
  | (a, b) :: hl, hh, e, c, h => by
    rw [List.all_cons, Bool.and_eq_true] at hh
    unfold lt_find at h
    cases hq : Nat.beq a e with
    | true =>
      rw [hq] at h
      have h' : some b = some c := h
      cases h'
      simpa using hh.1
    | false =>
      rw [hq] at h
      exact w_cod hl hh.2 e c h
theorem lt_bd_r {x : UInt64} {hl : List (Nat × Int32)} {G : UInt64 → LM → Option (LO × LM)} : lt_bd (some (.inl (some (.double x)), M)) hl G = G x M := rfl
theorem lt_bf_r {x : UInt32} {hl : List (Nat × Int32)} {G : UInt32 → LM → Option (LO × LM)} : lt_bf (some (.inl (some (.float x)), M)) hl G = G x M := rfl
/-- what a call leaves that answers a boolean -/
theorem w_b01 {F : Option (LO × LM)} {hl : List (Nat × Int32)} (hcod : ∀ e c, lt_find hl e = some c → c ≠ 0) (h : (lt_bi F hl fun v2 M1 => if @Eq Int32 v2 0 then (lt_ar M1 200 2 0 (lt_m (wL M1 200 (lt_n 0) 0) fun M3 => some (.inl (some (.int 0)), M3))) else (lt_ar M1 200 2 0 (lt_m (wL M1 200 (lt_n 0) 1) fun M4 => some (.inl (some (.int 0)), M4)))) = some (.inl (some (.int code)), M1)) (hc : code = 0) : mL M1 200 0 = 0 ∨ mL M1 200 0 = 1 := by
  have ha : ∀ {N : LM} {y : Int64}, (lt_ar N 200 2 0 (lt_m (wL N 200 (lt_n 0) y) fun M3 => some (.inl (some (.int 0)), M3)) : Option (LO × LM)) = some (.inl (some (.int code)), M1) → mL M1 200 0 = y := by
    intro N y e
    unfold lt_ar at e
    split at e
    · have e' : (some (.inl (some (.int 0)), wL N 200 (lt_n 0) y) : Option (LO × LM)) = some (.inl (some (.int code)), M1) := e
      have h2 : wL N 200 (lt_n 0) y = M1 := congrArg Prod.snd (Option.some.inj e')
      rw [← h2]
      exact out_v (M1 := N)
    · cases e
  unfold lt_bi at h
  split at h
  · dsimp only at h
    split at h
    · exact Or.inl (ha h)
    · exact Or.inr (ha h)
  · unfold lt_th at h
    split at h
    · rename_i c q
      have e' : c = code := by
        have t0 := congrArg Prod.fst (Option.some.inj h)
        injection t0 with t1
        injection t1 with t2
        injection t2
      exact absurd (e'.trans hc) (hcod _ c q)
    · split at h <;> cases h
  · cases h
theorem w_end2 {a : Int64} (h : CSK L M) (hc : code = 0 → a = Int32.toInt64 v) (h01 : code = 0 → a = 0 ∨ a = 1) (ha : mL M 200 0 = a) : (if code = 0 then (lt_ar M 200 2 0 (if v = 0 then (if lg_cmp (mL M 200 (lt_n 0)) 0 = 0 then K else K') else (if lg_cmp (mL M 200 (lt_n 0)) 1 = 0 then K else K'))) else K) = K := by
  by_cases q : code = 0
  · rw [if_pos q, t_oa h, lt_n0_]
    have h1 := hc q
    rcases h01 q with h2 | h2
    · have hv : v = 0 := by
        have : Int32.toInt64 v = Int32.toInt64 0 := h1.symm.trans (h2.trans rfl)
        exact (L64_inj (x := v) (y := 0)).mp this
      rw [if_pos hv, if_pos (w_cmp (ha.trans h2))]
    · have hv : ¬ v = 0 := fun z => by rw [h2, z] at h1; exact absurd h1 (by decide)
      rw [if_neg hv, if_pos (w_cmp (ha.trans h2))]
  · rw [if_neg q]

theorem w_248 (h : ST L xs M i) (hL : 6 * i + 6 ≤ L) (hb : L ≤ 3072) : ∃ M2, f_L_law_248 (40 + 1) M 0 1 123 200 201 (nI (6 * i)) = f_L_law_28 (40 + 1) M2 0 1 123 200 201 (nI (6 * (i + 1))) ∧ ST L xs M2 (i + 1) := by
  have hk := h.1
  have hxs := h.2.2.1
  have s6 : nI (6 * i) + 6 = nI (6 * (i + 1)) := lt_iA (j := 6 * i) (k := 6)
  have s1 : nI (6 * i) + 1 = nI (6 * i + 1) := lt_iA (j := 6 * i) (k := 1)
  have n1 : lt_n (nI (6 * i + 1)) = 6 * i + 1 := lt_iN (by omega)
  have s2 : nI (6 * i) + 2 = nI (6 * i + 2) := lt_iA (j := 6 * i) (k := 2)
  have n2 : lt_n (nI (6 * i + 2)) = 6 * i + 2 := lt_iN (by omega)
  have s3 : nI (6 * i) + 3 = nI (6 * i + 3) := lt_iA (j := 6 * i) (k := 3)
  have n3 : lt_n (nI (6 * i + 3)) = 6 * i + 3 := lt_iN (by omega)
  have s4 : nI (6 * i) + 4 = nI (6 * i + 4) := lt_iA (j := 6 * i) (k := 4)
  have n4 : lt_n (nI (6 * i + 4)) = 6 * i + 4 := lt_iN (by omega)
  obtain ⟨code, v, M1, M2, a1, a2, a3, a4, a5, a6, a7, a8⟩ := o_setKey (key := xs (6 * i + 1)) (x := xs (6 * i + 2)) (y := xs (6 * i + 3)) (v := xs (6 * i + 4)) h
  refine ⟨M2, ?_, a7⟩
  rw [e_L_law_248, s6, s1, s2, s3, s4, w_ar hk (show 6 * i + 1 < L by omega) hb, w_ar hk (show 6 * i + 2 < L by omega) hb, w_ar hk (show 6 * i + 3 < L by omega) hb, w_ar hk (show 6 * i + 4 < L by omega) hb, n1, n2, n3, n4, hxs, show f_L_setKey 40 M 1 (xs (6 * i + 1)) (xs (6 * i + 2)) (xs (6 * i + 3)) (xs (6 * i + 4)) 200 = _ from a1, lt_bi_r, w_ar a4 (show 6 * i + 1 < L by omega) hb, w_ar a4 (show 6 * i + 2 < L by omega) hb, w_ar a4 (show 6 * i + 3 < L by omega) hb, w_ar a4 (show 6 * i + 4 < L by omega) hb, a3, w_ckr a4, show f_X11_setKey 40 M1 123 (xs (6 * i + 1)) (xs (6 * i + 2)) (xs (6 * i + 3)) (xs (6 * i + 4)) = _ from a2, lt_bi_r, w_ckr a7.1, w_th a7.1 a5, lt_bi_r, if_pos rfl, w_end a7.1 a6 rfl]

theorem w_340 (h : ST L xs M i) (hL : 6 * i + 6 ≤ L) (hb : L ≤ 3072) : ∃ M2, f_L_law_340 (40 + 1) M 0 1 123 200 201 (nI (6 * i)) = f_L_law_28 (40 + 1) M2 0 1 123 200 201 (nI (6 * (i + 1))) ∧ ST L xs M2 (i + 1) := by
  have hk := h.1
  have hxs := h.2.2.1
  have s6 : nI (6 * i) + 6 = nI (6 * (i + 1)) := lt_iA (j := 6 * i) (k := 6)
  have s1 : nI (6 * i) + 1 = nI (6 * i + 1) := lt_iA (j := 6 * i) (k := 1)
  have n1 : lt_n (nI (6 * i + 1)) = 6 * i + 1 := lt_iN (by omega)
  obtain ⟨code, v, M1, M2, a1, a2, a3, a4, a5, a6, a7, a8⟩ := o_pass (x := xs (6 * i + 1)) h
  refine ⟨M2, ?_, a7⟩
  rw [e_L_law_340, s6, s1, w_ar hk (show 6 * i + 1 < L by omega) hb, n1, hxs, show f_L_pass 40 M 1 (xs (6 * i + 1)) 200 = _ from a1, lt_bi_r, w_ar a4 (show 6 * i + 1 < L by omega) hb, a3, w_ckr a4, show f_X11_pass 40 M1 123 (xs (6 * i + 1)) = _ from a2, lt_bi_r, w_ckr a7.1, w_th a7.1 a5, lt_bi_r, if_pos rfl, w_end a7.1 a6 rfl]

theorem w_396 (h : ST L xs M i) (hL : 6 * i + 6 ≤ L) (hb : L ≤ 3072) : ∃ M2, f_L_law_396 (40 + 1) M 0 1 123 200 201 (nI (6 * i)) = f_L_law_28 (40 + 1) M2 0 1 123 200 201 (nI (6 * (i + 1))) ∧ ST L xs M2 (i + 1) := by
  have hk := h.1
  have hxs := h.2.2.1
  have s6 : nI (6 * i) + 6 = nI (6 * (i + 1)) := lt_iA (j := 6 * i) (k := 6)
  have s1 : nI (6 * i) + 1 = nI (6 * i + 1) := lt_iA (j := 6 * i) (k := 1)
  have n1 : lt_n (nI (6 * i + 1)) = 6 * i + 1 := lt_iN (by omega)
  have s2 : nI (6 * i) + 2 = nI (6 * i + 2) := lt_iA (j := 6 * i) (k := 2)
  have n2 : lt_n (nI (6 * i + 2)) = 6 * i + 2 := lt_iN (by omega)
  by_cases q : xs (6 * i + 2) = 0
  · obtain ⟨code, v, M1, M2, a1, a2, a3, a4, a5, a6, a7, a8⟩ := o_request (key := xs (6 * i + 1)) false h
    refine ⟨M2, ?_, a7⟩
    rw [e_L_law_396, s6, s1, s2, w_ar hk (show 6 * i + 1 < L by omega) hb, w_ar hk (show 6 * i + 2 < L by omega) hb, n1, n2, hxs, if_pos q, show f_L_request 40 M 1 (xs (6 * i + 1)) (0) 200 = _ from a1, lt_bi_r, w_ar a4 (show 6 * i + 1 < L by omega) hb, w_ar a4 (show 6 * i + 2 < L by omega) hb, a3, if_pos q, w_ckr a4, show f_X11_request 40 M1 123 (xs (6 * i + 1)) (0) = _ from a2, lt_bi_r, w_ckr a7.1, w_th a7.1 a5, lt_bi_r, if_pos rfl, w_end a7.1 a6 rfl]
  · obtain ⟨code, v, M1, M2, a1, a2, a3, a4, a5, a6, a7, a8⟩ := o_request (key := xs (6 * i + 1)) true h
    refine ⟨M2, ?_, a7⟩
    rw [e_L_law_396, s6, s1, s2, w_ar hk (show 6 * i + 1 < L by omega) hb, w_ar hk (show 6 * i + 2 < L by omega) hb, n1, n2, hxs, if_neg q, show f_L_request 40 M 1 (xs (6 * i + 1)) (1) 200 = _ from a1, lt_bi_r, w_ar a4 (show 6 * i + 1 < L by omega) hb, w_ar a4 (show 6 * i + 2 < L by omega) hb, a3, if_neg q, w_ckr a4, show f_X11_request 40 M1 123 (xs (6 * i + 1)) (1) = _ from a2, lt_bi_r, w_ckr a7.1, w_th a7.1 a5, lt_bi_r, if_pos rfl, w_end a7.1 a6 rfl]

theorem w_480 (h : ST L xs M i) (hL : 6 * i + 6 ≤ L) (hb : L ≤ 3072) : ∃ M2, f_L_law_480 (40 + 1) M 0 1 123 200 201 (nI (6 * i)) = f_L_law_28 (40 + 1) M2 0 1 123 200 201 (nI (6 * (i + 1))) ∧ ST L xs M2 (i + 1) := by
  have hk := h.1
  have hxs := h.2.2.1
  have s6 : nI (6 * i) + 6 = nI (6 * (i + 1)) := lt_iA (j := 6 * i) (k := 6)
  have s1 : nI (6 * i) + 1 = nI (6 * i + 1) := lt_iA (j := 6 * i) (k := 1)
  have n1 : lt_n (nI (6 * i + 1)) = 6 * i + 1 := lt_iN (by omega)
  have s2 : nI (6 * i) + 2 = nI (6 * i + 2) := lt_iA (j := 6 * i) (k := 2)
  have n2 : lt_n (nI (6 * i + 2)) = 6 * i + 2 := lt_iN (by omega)
  have s3 : nI (6 * i) + 3 = nI (6 * i + 3) := lt_iA (j := 6 * i) (k := 3)
  have n3 : lt_n (nI (6 * i + 3)) = 6 * i + 3 := lt_iN (by omega)
  have s4 : nI (6 * i) + 4 = nI (6 * i + 4) := lt_iA (j := 6 * i) (k := 4)
  have n4 : lt_n (nI (6 * i + 4)) = 6 * i + 4 := lt_iN (by omega)
  obtain ⟨code, v, M1, M2, a1, a2, a3, a4, a5, a6, a7, a8⟩ := o_draw (seed := xs (6 * i + 1)) (many := xs (6 * i + 2)) (keys := xs (6 * i + 3)) (writes := xs (6 * i + 4)) h
  refine ⟨M2, ?_, a7⟩
  rw [e_L_law_480, s6, s1, s2, s3, s4, w_ar hk (show 6 * i + 1 < L by omega) hb, w_ar hk (show 6 * i + 2 < L by omega) hb, w_ar hk (show 6 * i + 3 < L by omega) hb, w_ar hk (show 6 * i + 4 < L by omega) hb, n1, n2, n3, n4, hxs, show f_L_draw 40 M 1 (xs (6 * i + 1)) (xs (6 * i + 2)) (xs (6 * i + 3)) (xs (6 * i + 4)) 200 = _ from a1, lt_bi_r, w_ar a4 (show 6 * i + 1 < L by omega) hb, w_ar a4 (show 6 * i + 2 < L by omega) hb, w_ar a4 (show 6 * i + 3 < L by omega) hb, w_ar a4 (show 6 * i + 4 < L by omega) hb, a3, w_ckr a4, show f_X11_draw 40 M1 123 (xs (6 * i + 1)) (xs (6 * i + 2)) (xs (6 * i + 3)) (xs (6 * i + 4)) = _ from a2, lt_bi_r, w_ckr a7.1, w_th a7.1 a5, lt_bi_r, if_pos rfl, w_end a7.1 a6 rfl]

theorem w_572 (h : ST L xs M i) (hL : 6 * i + 6 ≤ L) (hb : L ≤ 3072) : ∃ M2, f_L_law_572 (40 + 1) M 0 1 123 200 201 (nI (6 * i)) = f_L_law_28 (40 + 1) M2 0 1 123 200 201 (nI (6 * (i + 1))) ∧ ST L xs M2 (i + 1) := by
  have hk := h.1
  have hxs := h.2.2.1
  have s6 : nI (6 * i) + 6 = nI (6 * (i + 1)) := lt_iA (j := 6 * i) (k := 6)
  obtain ⟨code, v, M1, M2, a1, a2, a3, a4, a5, a6, a7, a8⟩ := o_run  h
  refine ⟨M2, ?_, a7⟩
  rw [e_L_law_572, s6, show f_L_run 40 M 1  200 = _ from a1, lt_bi_r, w_ckr a4, show f_X11_run 40 M1 123  = _ from a2, lt_bi_r, w_ckr a7.1, w_th a7.1 a5, lt_bi_r, if_pos rfl, w_end a7.1 a6 rfl]

theorem w_616 (h : ST L xs M i) (hL : 6 * i + 6 ≤ L) (hb : L ≤ 3072) : ∃ M2, f_L_law_616 (40 + 1) M 0 1 123 200 201 (nI (6 * i)) = f_L_law_28 (40 + 1) M2 0 1 123 200 201 (nI (6 * (i + 1))) ∧ ST L xs M2 (i + 1) := by
  have hk := h.1
  have hxs := h.2.2.1
  have s6 : nI (6 * i) + 6 = nI (6 * (i + 1)) := lt_iA (j := 6 * i) (k := 6)
  obtain ⟨v, M1, M2, a1, a2, a3, a4, a7⟩ := o_clearRow h
  refine ⟨M2, ?_, a7⟩
  rw [e_L_law_616, s6, t_ck hk, show f_X10_clearRow 40 M 1 = _ from a1, lt_bi_r, w_ckr a4, show f_X11_clearRow 40 M1 123 = _ from a2, lt_bi_r, if_pos rfl]

theorem w_629 (h : ST L xs M i) (hL : 6 * i + 6 ≤ L) (hb : L ≤ 3072) : ∃ M2, f_L_law_629 (40 + 1) M 0 1 123 200 201 (nI (6 * i)) = f_L_law_28 (40 + 1) M2 0 1 123 200 201 (nI (6 * (i + 1))) ∧ ST L xs M2 (i + 1) := by
  have hk := h.1
  have hxs := h.2.2.1
  have s6 : nI (6 * i) + 6 = nI (6 * (i + 1)) := lt_iA (j := 6 * i) (k := 6)
  have s1 : nI (6 * i) + 1 = nI (6 * i + 1) := lt_iA (j := 6 * i) (k := 1)
  have n1 : lt_n (nI (6 * i + 1)) = 6 * i + 1 := lt_iN (by omega)
  have s2 : nI (6 * i) + 2 = nI (6 * i + 2) := lt_iA (j := 6 * i) (k := 2)
  have n2 : lt_n (nI (6 * i + 2)) = 6 * i + 2 := lt_iN (by omega)
  have s3 : nI (6 * i) + 3 = nI (6 * i + 3) := lt_iA (j := 6 * i) (k := 3)
  have n3 : lt_n (nI (6 * i + 3)) = 6 * i + 3 := lt_iN (by omega)
  have s4 : nI (6 * i) + 4 = nI (6 * i + 4) := lt_iA (j := 6 * i) (k := 4)
  have n4 : lt_n (nI (6 * i + 4)) = 6 * i + 4 := lt_iN (by omega)
  have s5 : nI (6 * i) + 5 = nI (6 * i + 5) := lt_iA (j := 6 * i) (k := 5)
  have n5 : lt_n (nI (6 * i + 5)) = 6 * i + 5 := lt_iN (by omega)
  obtain ⟨code, v, M1, M2, a1, a2, a3, a4, a5, a6, a7, a8⟩ := o_setCache (cache := xs (6 * i + 1)) (rule := xs (6 * i + 2)) (room := xs (6 * i + 3)) (lapse := xs (6 * i + 4)) (mode := xs (6 * i + 5)) h
  refine ⟨M2, ?_, a7⟩
  rw [e_L_law_629, s6, s1, s2, s3, s4, s5, w_ar hk (show 6 * i + 1 < L by omega) hb, w_ar hk (show 6 * i + 2 < L by omega) hb, w_ar hk (show 6 * i + 3 < L by omega) hb, w_ar hk (show 6 * i + 4 < L by omega) hb, w_ar hk (show 6 * i + 5 < L by omega) hb, n1, n2, n3, n4, n5, hxs, show f_L_setCache 40 M 1 (xs (6 * i + 1)) (xs (6 * i + 2)) (xs (6 * i + 3)) (xs (6 * i + 4)) (xs (6 * i + 5)) 200 = _ from a1, lt_bi_r, w_ar a4 (show 6 * i + 1 < L by omega) hb, w_ar a4 (show 6 * i + 2 < L by omega) hb, w_ar a4 (show 6 * i + 3 < L by omega) hb, w_ar a4 (show 6 * i + 4 < L by omega) hb, w_ar a4 (show 6 * i + 5 < L by omega) hb, a3, w_ckr a4, show f_X11_setCache 40 M1 123 (xs (6 * i + 1)) (xs (6 * i + 2)) (xs (6 * i + 3)) (xs (6 * i + 4)) (xs (6 * i + 5)) = _ from a2, lt_bi_r, w_ckr a7.1, w_th a7.1 a5, lt_bi_r, if_pos rfl, w_end a7.1 a6 rfl]

theorem w_733 (h : ST L xs M i) (hL : 6 * i + 6 ≤ L) (hb : L ≤ 3072) : ∃ M2, f_L_law_733 (40 + 1) M 0 1 123 200 201 (nI (6 * i)) = f_L_law_28 (40 + 1) M2 0 1 123 200 201 (nI (6 * (i + 1))) ∧ ST L xs M2 (i + 1) := by
  have hk := h.1
  have hxs := h.2.2.1
  have s6 : nI (6 * i) + 6 = nI (6 * (i + 1)) := lt_iA (j := 6 * i) (k := 6)
  have s1 : nI (6 * i) + 1 = nI (6 * i + 1) := lt_iA (j := 6 * i) (k := 1)
  have n1 : lt_n (nI (6 * i + 1)) = 6 * i + 1 := lt_iN (by omega)
  have s2 : nI (6 * i) + 2 = nI (6 * i + 2) := lt_iA (j := 6 * i) (k := 2)
  have n2 : lt_n (nI (6 * i + 2)) = 6 * i + 2 := lt_iN (by omega)
  have s3 : nI (6 * i) + 3 = nI (6 * i + 3) := lt_iA (j := 6 * i) (k := 3)
  have n3 : lt_n (nI (6 * i + 3)) = 6 * i + 3 := lt_iN (by omega)
  have s4 : nI (6 * i) + 4 = nI (6 * i + 4) := lt_iA (j := 6 * i) (k := 4)
  have n4 : lt_n (nI (6 * i + 4)) = 6 * i + 4 := lt_iN (by omega)
  have s5 : nI (6 * i) + 5 = nI (6 * i + 5) := lt_iA (j := 6 * i) (k := 5)
  have n5 : lt_n (nI (6 * i + 5)) = 6 * i + 5 := lt_iN (by omega)
  obtain ⟨code, v, M1, M2, a1, a2, a3, a4, a5, a6, a7, a8⟩ := o_setShares (cache := xs (6 * i + 1)) (x := xs (6 * i + 2)) (y := xs (6 * i + 3)) (u := xs (6 * i + 4)) (v := xs (6 * i + 5)) h
  refine ⟨M2, ?_, a7⟩
  rw [e_L_law_733, s6, s1, s2, s3, s4, s5, w_ar hk (show 6 * i + 1 < L by omega) hb, w_ar hk (show 6 * i + 2 < L by omega) hb, w_ar hk (show 6 * i + 3 < L by omega) hb, w_ar hk (show 6 * i + 4 < L by omega) hb, w_ar hk (show 6 * i + 5 < L by omega) hb, n1, n2, n3, n4, n5, hxs, show f_L_setShares 40 M 1 (xs (6 * i + 1)) (xs (6 * i + 2)) (xs (6 * i + 3)) (xs (6 * i + 4)) (xs (6 * i + 5)) 200 = _ from a1, lt_bi_r, w_ar a4 (show 6 * i + 1 < L by omega) hb, w_ar a4 (show 6 * i + 2 < L by omega) hb, w_ar a4 (show 6 * i + 3 < L by omega) hb, w_ar a4 (show 6 * i + 4 < L by omega) hb, w_ar a4 (show 6 * i + 5 < L by omega) hb, a3, w_ckr a4, show f_X11_setShares 40 M1 123 (xs (6 * i + 1)) (xs (6 * i + 2)) (xs (6 * i + 3)) (xs (6 * i + 4)) (xs (6 * i + 5)) = _ from a2, lt_bi_r, w_ckr a7.1, w_th a7.1 a5, lt_bi_r, if_pos rfl, w_end a7.1 a6 rfl]

theorem w_837 (h : ST L xs M i) (hL : 6 * i + 6 ≤ L) (hb : L ≤ 3072) : ∃ M2, f_L_law_837 (40 + 1) M 0 1 123 200 201 (nI (6 * i)) = f_L_law_28 (40 + 1) M2 0 1 123 200 201 (nI (6 * (i + 1))) ∧ ST L xs M2 (i + 1) := by
  have hk := h.1
  have hxs := h.2.2.1
  have s6 : nI (6 * i) + 6 = nI (6 * (i + 1)) := lt_iA (j := 6 * i) (k := 6)
  have s1 : nI (6 * i) + 1 = nI (6 * i + 1) := lt_iA (j := 6 * i) (k := 1)
  have n1 : lt_n (nI (6 * i + 1)) = 6 * i + 1 := lt_iN (by omega)
  obtain ⟨code, v, M1, M2, a1, a2, a3, a4, a5, a6, a7, a8⟩ := o_flush (cache := xs (6 * i + 1)) h
  refine ⟨M2, ?_, a7⟩
  rw [e_L_law_837, s6, s1, w_ar hk (show 6 * i + 1 < L by omega) hb, n1, hxs, show f_L_flush 40 M 1 (xs (6 * i + 1)) 200 = _ from a1, lt_bi_r, w_ar a4 (show 6 * i + 1 < L by omega) hb, a3, w_ckr a4, show f_X11_flush 40 M1 123 (xs (6 * i + 1)) = _ from a2, lt_bi_r, w_ckr a7.1, w_th a7.1 a5, lt_bi_r, if_pos rfl, w_end a7.1 a6 rfl]

theorem w_893 (h : ST L xs M i) (hL : 6 * i + 6 ≤ L) (hb : L ≤ 3072) : ∃ M2, f_L_law_893 (40 + 1) M 0 1 123 200 201 (nI (6 * i)) = f_L_law_28 (40 + 1) M2 0 1 123 200 201 (nI (6 * (i + 1))) ∧ ST L xs M2 (i + 1) := by
  have hk := h.1
  have hxs := h.2.2.1
  have s6 : nI (6 * i) + 6 = nI (6 * (i + 1)) := lt_iA (j := 6 * i) (k := 6)
  have s1 : nI (6 * i) + 1 = nI (6 * i + 1) := lt_iA (j := 6 * i) (k := 1)
  have n1 : lt_n (nI (6 * i + 1)) = 6 * i + 1 := lt_iN (by omega)
  have s2 : nI (6 * i) + 2 = nI (6 * i + 2) := lt_iA (j := 6 * i) (k := 2)
  have n2 : lt_n (nI (6 * i + 2)) = 6 * i + 2 := lt_iN (by omega)
  obtain ⟨code, v, M1, M2, a1, a2, a3, a4, a5, a6, a7, a8⟩ := o_drop (cache := xs (6 * i + 1)) (key := xs (6 * i + 2)) h
  refine ⟨M2, ?_, a7⟩
  have a9 : code = 0 → mL M2 200 0 = 0 ∨ mL M2 200 0 = 1 := fun q => by
    rw [a8]
    have e9 : f_L_drop 40 M 1 (xs (6 * i + 1)) (xs (6 * i + 2)) 200 = _ := e_L_drop 39 M 1 (xs (6 * i + 1)) (xs (6 * i + 2)) 200
    have a1' : f_L_drop 40 M 1 (xs (6 * i + 1)) (xs (6 * i + 2)) 200 = some (.inl (some (.int code)), M1) := a1
    rw [t_ck hk] at e9
    rw [e9] at a1'
    exact w_b01 (fun e c hf => w_cod _ (by decide) e c hf) a1' q
  rw [e_L_law_893, s6, s1, s2, w_ar hk (show 6 * i + 1 < L by omega) hb, w_ar hk (show 6 * i + 2 < L by omega) hb, n1, n2, hxs, show f_L_drop 40 M 1 (xs (6 * i + 1)) (xs (6 * i + 2)) 200 = _ from a1, lt_bi_r, w_ar a4 (show 6 * i + 1 < L by omega) hb, w_ar a4 (show 6 * i + 2 < L by omega) hb, a3, w_ckr a4, show f_X11_drop 40 M1 123 (xs (6 * i + 1)) (xs (6 * i + 2)) = _ from a2, lt_bi_r, w_ckr a7.1, w_th a7.1 a5, lt_bi_r, if_pos rfl, w_end2 a7.1 a6 a9 rfl]

theorem w_968 (h : ST L xs M i) (hL : 6 * i + 6 ≤ L) (hb : L ≤ 3072) : ∃ M2, f_L_law_968 (40 + 1) M 0 1 123 200 201 (nI (6 * i)) = f_L_law_28 (40 + 1) M2 0 1 123 200 201 (nI (6 * (i + 1))) ∧ ST L xs M2 (i + 1) := by
  have hk := h.1
  have hxs := h.2.2.1
  have s6 : nI (6 * i) + 6 = nI (6 * (i + 1)) := lt_iA (j := 6 * i) (k := 6)
  obtain ⟨v, M1, M2, a1, a2, a3, a4, a7⟩ := o_replay h
  refine ⟨M2, ?_, a7⟩
  rw [e_L_law_968, s6, t_ck hk, show f_X10_replay 40 M 1 = _ from a1, lt_bi_r, w_ckr a4, show f_X11_replay 40 M1 123 = _ from a2, lt_bi_r, if_pos rfl]

theorem w_981 (h : ST L xs M i) (hL : 6 * i + 6 ≤ L) (hb : L ≤ 3072) : ∃ M2, f_L_law_981 (40 + 1) M 0 1 123 200 201 (nI (6 * i)) = f_L_law_28 (40 + 1) M2 0 1 123 200 201 (nI (6 * (i + 1))) ∧ ST L xs M2 (i + 1) := by
  have hk := h.1
  have hxs := h.2.2.1
  have s6 : nI (6 * i) + 6 = nI (6 * (i + 1)) := lt_iA (j := 6 * i) (k := 6)
  obtain ⟨code, v, M1, M2, a1, a2, a3, a4, a5, a6, a7, a8⟩ := o_dropTold  h
  refine ⟨M2, ?_, a7⟩
  rw [e_L_law_981, s6, show f_L_dropTold 40 M 1  200 = _ from a1, lt_bi_r, w_ckr a4, show f_X11_dropTold 40 M1 123  = _ from a2, lt_bi_r, w_ckr a7.1, w_th a7.1 a5, lt_bi_r, if_pos rfl, w_end a7.1 a6 rfl]

theorem w_1025 (h : ST L xs M i) (hL : 6 * i + 6 ≤ L) (hb : L ≤ 3072) : ∃ M2, f_L_law_1025 (40 + 1) M 0 1 123 200 201 (nI (6 * i)) = f_L_law_28 (40 + 1) M2 0 1 123 200 201 (nI (6 * (i + 1))) ∧ ST L xs M2 (i + 1) := by
  have hk := h.1
  have hxs := h.2.2.1
  have s6 : nI (6 * i) + 6 = nI (6 * (i + 1)) := lt_iA (j := 6 * i) (k := 6)
  obtain ⟨code, v, M1, M2, a1, a2, a3, a4, a5, a6, a7, a8⟩ := o_undo  h
  refine ⟨M2, ?_, a7⟩
  rw [e_L_law_1025, s6, show f_L_undo 40 M 1  200 = _ from a1, lt_bi_r, w_ckr a4, show f_X11_undo 40 M1 123  = _ from a2, lt_bi_r, w_ckr a7.1, w_th a7.1 a5, lt_bi_r, if_pos rfl, w_end a7.1 a6 rfl]

theorem w_1069 (h : ST L xs M i) (hL : 6 * i + 6 ≤ L) (hb : L ≤ 3072) : ∃ M2, f_L_law_1069 (40 + 1) M 0 1 123 200 201 (nI (6 * i)) = f_L_law_28 (40 + 1) M2 0 1 123 200 201 (nI (6 * (i + 1))) ∧ ST L xs M2 (i + 1) := by
  have hk := h.1
  have hxs := h.2.2.1
  have s6 : nI (6 * i) + 6 = nI (6 * (i + 1)) := lt_iA (j := 6 * i) (k := 6)
  have s1 : nI (6 * i) + 1 = nI (6 * i + 1) := lt_iA (j := 6 * i) (k := 1)
  have n1 : lt_n (nI (6 * i + 1)) = 6 * i + 1 := lt_iN (by omega)
  obtain ⟨code, v, M1, M2, a1, a2, a3, a4, a5, a6, a7, a8⟩ := o_open (cache := xs (6 * i + 1)) h
  refine ⟨M2, ?_, a7⟩
  rw [e_L_law_1069, s6, s1, w_ar hk (show 6 * i + 1 < L by omega) hb, n1, hxs, show f_L_open 40 M 1 (xs (6 * i + 1)) 200 = _ from a1, lt_bi_r, w_ar a4 (show 6 * i + 1 < L by omega) hb, a3, w_ckr a4, show f_X11_open 40 M1 123 (xs (6 * i + 1)) = _ from a2, lt_bi_r, w_ckr a7.1, w_th a7.1 a5, lt_bi_r, if_pos rfl, w_end a7.1 a6 rfl]

theorem w_1125 (h : ST L xs M i) (hL : 6 * i + 6 ≤ L) (hb : L ≤ 3072) : ∃ M2, f_L_law_1125 (40 + 1) M 0 1 123 200 201 (nI (6 * i)) = f_L_law_28 (40 + 1) M2 0 1 123 200 201 (nI (6 * (i + 1))) ∧ ST L xs M2 (i + 1) := by
  have hk := h.1
  have hxs := h.2.2.1
  have s6 : nI (6 * i) + 6 = nI (6 * (i + 1)) := lt_iA (j := 6 * i) (k := 6)
  obtain ⟨code, v, M1, M2, a1, a2, a3, a4, a5, a6, a7, a8⟩ := o_next  h
  refine ⟨M2, ?_, a7⟩
  rw [e_L_law_1125, s6, show f_L_next 40 M 1  200 = _ from a1, lt_bi_r, w_ckr a4, show f_X11_next 40 M1 123  = _ from a2, lt_bi_r, w_ckr a7.1, w_th a7.1 a5, lt_bi_r, if_pos rfl, w_end a7.1 a6 rfl]

theorem w_1169 (h : ST L xs M i) (hL : 6 * i + 6 ≤ L) (hb : L ≤ 3072) : ∃ M2, f_L_law_1169 (40 + 1) M 0 1 123 200 201 (nI (6 * i)) = f_L_law_28 (40 + 1) M2 0 1 123 200 201 (nI (6 * (i + 1))) ∧ ST L xs M2 (i + 1) := by
  have hk := h.1
  have hxs := h.2.2.1
  have s6 : nI (6 * i) + 6 = nI (6 * (i + 1)) := lt_iA (j := 6 * i) (k := 6)
  have s1 : nI (6 * i) + 1 = nI (6 * i + 1) := lt_iA (j := 6 * i) (k := 1)
  have n1 : lt_n (nI (6 * i + 1)) = 6 * i + 1 := lt_iN (by omega)
  obtain ⟨code, v, M1, M2, a1, a2, a3, a4, a5, a6, a7, a8⟩ := o_type (x := xs (6 * i + 1)) h
  refine ⟨M2, ?_, a7⟩
  rw [e_L_law_1169, s6, s1, w_ar hk (show 6 * i + 1 < L by omega) hb, n1, hxs, show f_L_type 40 M 1 (xs (6 * i + 1)) 200 = _ from a1, lt_bi_r, w_ar a4 (show 6 * i + 1 < L by omega) hb, a3, w_ckr a4, show f_X11_type 40 M1 123 (xs (6 * i + 1)) = _ from a2, lt_bi_r, w_ckr a7.1, w_th a7.1 a5, lt_bi_r, if_pos rfl, w_end a7.1 a6 rfl]

theorem w_1225 (h : ST L xs M i) (hL : 6 * i + 6 ≤ L) (hb : L ≤ 3072) : ∃ M2, f_L_law_1225 (40 + 1) M 0 1 123 200 201 (nI (6 * i)) = f_L_law_28 (40 + 1) M2 0 1 123 200 201 (nI (6 * (i + 1))) ∧ ST L xs M2 (i + 1) := by
  have hk := h.1
  have hxs := h.2.2.1
  have s6 : nI (6 * i) + 6 = nI (6 * (i + 1)) := lt_iA (j := 6 * i) (k := 6)
  obtain ⟨v, M1, M2, a1, a2, a3, a4, a7⟩ := o_clearText h
  refine ⟨M2, ?_, a7⟩
  rw [e_L_law_1225, s6, t_ck hk, show f_X10_clearText 40 M 1 = _ from a1, lt_bi_r, w_ckr a4, show f_X11_clearText 40 M1 123 = _ from a2, lt_bi_r, if_pos rfl]

theorem w_1238 (h : ST L xs M i) (hL : 6 * i + 6 ≤ L) (hb : L ≤ 3072) : ∃ M2, f_L_law_1238 (40 + 1) M 0 1 123 200 201 (nI (6 * i)) = f_L_law_28 (40 + 1) M2 0 1 123 200 201 (nI (6 * (i + 1))) ∧ ST L xs M2 (i + 1) := by
  have hk := h.1
  have hxs := h.2.2.1
  have s6 : nI (6 * i) + 6 = nI (6 * (i + 1)) := lt_iA (j := 6 * i) (k := 6)
  obtain ⟨v, M1, M2, a1, a2, a3, a4, a7⟩ := o_errorPlace h
  refine ⟨M2, ?_, a7⟩
  rw [e_L_law_1238, s6, t_ck hk, show f_X10_errorPlace 40 M 1 = _ from a1, lt_bi_r, w_ckr a4, show f_X11_errorPlace 40 M1 123 = _ from a2, lt_bi_r, if_pos rfl]

theorem w_1251 (h : ST L xs M i) (hL : 6 * i + 6 ≤ L) (hb : L ≤ 3072) : ∃ M2, f_L_law_1251 (40 + 1) M 0 1 123 200 201 (nI (6 * i)) = f_L_law_28 (40 + 1) M2 0 1 123 200 201 (nI (6 * (i + 1))) ∧ ST L xs M2 (i + 1) := by
  have hk := h.1
  have hxs := h.2.2.1
  have s6 : nI (6 * i) + 6 = nI (6 * (i + 1)) := lt_iA (j := 6 * i) (k := 6)
  have s1 : nI (6 * i) + 1 = nI (6 * i + 1) := lt_iA (j := 6 * i) (k := 1)
  have n1 : lt_n (nI (6 * i + 1)) = 6 * i + 1 := lt_iN (by omega)
  have s2 : nI (6 * i) + 2 = nI (6 * i + 2) := lt_iA (j := 6 * i) (k := 2)
  have n2 : lt_n (nI (6 * i + 2)) = 6 * i + 2 := lt_iN (by omega)
  obtain ⟨code, v, M1, M2, a1, a2, a3, a4, a5, a6, a7, a8⟩ := o_keyAt (key := xs (6 * i + 1)) (what := xs (6 * i + 2)) h
  refine ⟨M2, ?_, a7⟩
  rw [e_L_law_1251, s6, s1, s2, w_ar hk (show 6 * i + 1 < L by omega) hb, w_ar hk (show 6 * i + 2 < L by omega) hb, n1, n2, hxs, show f_L_keyAt 40 M 1 (xs (6 * i + 1)) (xs (6 * i + 2)) 200 = _ from a1, lt_bi_r, w_ar a4 (show 6 * i + 1 < L by omega) hb, w_ar a4 (show 6 * i + 2 < L by omega) hb, a3, w_ckr a4, show f_X11_keyAt 40 M1 123 (xs (6 * i + 1)) (xs (6 * i + 2)) = _ from a2, lt_bi_r, w_ckr a7.1, w_th a7.1 a5, lt_bi_r, if_pos rfl, w_end a7.1 a6 rfl]

theorem w_1319 (h : ST L xs M i) (hL : 6 * i + 6 ≤ L) (hb : L ≤ 3072) : ∃ M2, f_L_law_1319 (40 + 1) M 0 1 123 200 201 (nI (6 * i)) = f_L_law_28 (40 + 1) M2 0 1 123 200 201 (nI (6 * (i + 1))) ∧ ST L xs M2 (i + 1) := by
  have hk := h.1
  have hxs := h.2.2.1
  have s6 : nI (6 * i) + 6 = nI (6 * (i + 1)) := lt_iA (j := 6 * i) (k := 6)
  obtain ⟨v, M1, M2, a1, a2, a3, a4, a7⟩ := o_now h
  refine ⟨M2, ?_, a7⟩
  rw [e_L_law_1319, s6, t_ck hk, show f_X10_now 40 M 1 = _ from a1, lt_bi_r, w_ckr a4, show f_X11_now 40 M1 123 = _ from a2, lt_bi_r, if_pos rfl]

theorem w_1332 (h : ST L xs M i) (hL : 6 * i + 6 ≤ L) (hb : L ≤ 3072) : ∃ M2, f_L_law_1332 (40 + 1) M 0 1 123 200 201 (nI (6 * i)) = f_L_law_28 (40 + 1) M2 0 1 123 200 201 (nI (6 * (i + 1))) ∧ ST L xs M2 (i + 1) := by
  have hk := h.1
  have hxs := h.2.2.1
  have s6 : nI (6 * i) + 6 = nI (6 * (i + 1)) := lt_iA (j := 6 * i) (k := 6)
  obtain ⟨v, M1, M2, a1, a2, a3, a4, a7⟩ := o_rowLength h
  refine ⟨M2, ?_, a7⟩
  rw [e_L_law_1332, s6, t_ck hk, show f_X10_rowLength 40 M 1 = _ from a1, lt_bi_r, w_ckr a4, show f_X11_rowLength 40 M1 123 = _ from a2, lt_bi_r, if_pos rfl]

theorem w_1345 (h : ST L xs M i) (hL : 6 * i + 6 ≤ L) (hb : L ≤ 3072) : ∃ M2, f_L_law_1345 (40 + 1) M 0 1 123 200 201 (nI (6 * i)) = f_L_law_28 (40 + 1) M2 0 1 123 200 201 (nI (6 * (i + 1))) ∧ ST L xs M2 (i + 1) := by
  have hk := h.1
  have hxs := h.2.2.1
  have s6 : nI (6 * i) + 6 = nI (6 * (i + 1)) := lt_iA (j := 6 * i) (k := 6)
  have s1 : nI (6 * i) + 1 = nI (6 * i + 1) := lt_iA (j := 6 * i) (k := 1)
  have n1 : lt_n (nI (6 * i + 1)) = 6 * i + 1 := lt_iN (by omega)
  have s2 : nI (6 * i) + 2 = nI (6 * i + 2) := lt_iA (j := 6 * i) (k := 2)
  have n2 : lt_n (nI (6 * i + 2)) = 6 * i + 2 := lt_iN (by omega)
  obtain ⟨code, v, M1, M2, a1, a2, a3, a4, a5, a6, a7, a8⟩ := o_requestAt (rq := xs (6 * i + 1)) (what := xs (6 * i + 2)) h
  refine ⟨M2, ?_, a7⟩
  rw [e_L_law_1345, s6, s1, s2, w_ar hk (show 6 * i + 1 < L by omega) hb, w_ar hk (show 6 * i + 2 < L by omega) hb, n1, n2, hxs, show f_L_requestAt 40 M 1 (xs (6 * i + 1)) (xs (6 * i + 2)) 200 = _ from a1, lt_bi_r, w_ar a4 (show 6 * i + 1 < L by omega) hb, w_ar a4 (show 6 * i + 2 < L by omega) hb, a3, w_ckr a4, show f_X11_requestAt 40 M1 123 (xs (6 * i + 1)) (xs (6 * i + 2)) = _ from a2, lt_bi_r, w_ckr a7.1, w_th a7.1 a5, lt_bi_r, if_pos rfl, w_end a7.1 a6 rfl]

theorem w_1413 (h : ST L xs M i) (hL : 6 * i + 6 ≤ L) (hb : L ≤ 3072) : ∃ M2, f_L_law_1413 (40 + 1) M 0 1 123 200 201 (nI (6 * i)) = f_L_law_28 (40 + 1) M2 0 1 123 200 201 (nI (6 * (i + 1))) ∧ ST L xs M2 (i + 1) := by
  have hk := h.1
  have hxs := h.2.2.1
  have s6 : nI (6 * i) + 6 = nI (6 * (i + 1)) := lt_iA (j := 6 * i) (k := 6)
  have s1 : nI (6 * i) + 1 = nI (6 * i + 1) := lt_iA (j := 6 * i) (k := 1)
  have n1 : lt_n (nI (6 * i + 1)) = 6 * i + 1 := lt_iN (by omega)
  have s2 : nI (6 * i) + 2 = nI (6 * i + 2) := lt_iA (j := 6 * i) (k := 2)
  have n2 : lt_n (nI (6 * i + 2)) = 6 * i + 2 := lt_iN (by omega)
  obtain ⟨code, v, M1, M2, a1, a2, a3, a4, a5, a6, a7, a8⟩ := o_holds (cache := xs (6 * i + 1)) (key := xs (6 * i + 2)) h
  refine ⟨M2, ?_, a7⟩
  have a9 : code = 0 → mL M2 200 0 = 0 ∨ mL M2 200 0 = 1 := fun q => by
    rw [a8]
    have e9 : f_L_holds 40 M 1 (xs (6 * i + 1)) (xs (6 * i + 2)) 200 = _ := e_L_holds 39 M 1 (xs (6 * i + 1)) (xs (6 * i + 2)) 200
    have a1' : f_L_holds 40 M 1 (xs (6 * i + 1)) (xs (6 * i + 2)) 200 = some (.inl (some (.int code)), M1) := a1
    rw [t_ck hk] at e9
    rw [e9] at a1'
    exact w_b01 (fun e c hf => w_cod _ (by decide) e c hf) a1' q
  rw [e_L_law_1413, s6, s1, s2, w_ar hk (show 6 * i + 1 < L by omega) hb, w_ar hk (show 6 * i + 2 < L by omega) hb, n1, n2, hxs, show f_L_holds 40 M 1 (xs (6 * i + 1)) (xs (6 * i + 2)) 200 = _ from a1, lt_bi_r, w_ar a4 (show 6 * i + 1 < L by omega) hb, w_ar a4 (show 6 * i + 2 < L by omega) hb, a3, w_ckr a4, show f_X11_holds 40 M1 123 (xs (6 * i + 1)) (xs (6 * i + 2)) = _ from a2, lt_bi_r, w_ckr a7.1, w_th a7.1 a5, lt_bi_r, if_pos rfl, w_end2 a7.1 a6 a9 rfl]

theorem w_1488 (h : ST L xs M i) (hL : 6 * i + 6 ≤ L) (hb : L ≤ 3072) : ∃ M2, f_L_law_1488 (40 + 1) M 0 1 123 200 201 (nI (6 * i)) = f_L_law_28 (40 + 1) M2 0 1 123 200 201 (nI (6 * (i + 1))) ∧ ST L xs M2 (i + 1) := by
  have hk := h.1
  have hxs := h.2.2.1
  have s6 : nI (6 * i) + 6 = nI (6 * (i + 1)) := lt_iA (j := 6 * i) (k := 6)
  have s1 : nI (6 * i) + 1 = nI (6 * i + 1) := lt_iA (j := 6 * i) (k := 1)
  have n1 : lt_n (nI (6 * i + 1)) = 6 * i + 1 := lt_iN (by omega)
  have s2 : nI (6 * i) + 2 = nI (6 * i + 2) := lt_iA (j := 6 * i) (k := 2)
  have n2 : lt_n (nI (6 * i + 2)) = 6 * i + 2 := lt_iN (by omega)
  obtain ⟨code, v, M1, M2, a1, a2, a3, a4, a5, a6, a7, a8⟩ := o_isDirty (cache := xs (6 * i + 1)) (key := xs (6 * i + 2)) h
  refine ⟨M2, ?_, a7⟩
  have a9 : code = 0 → mL M2 200 0 = 0 ∨ mL M2 200 0 = 1 := fun q => by
    rw [a8]
    have e9 : f_L_isDirty 40 M 1 (xs (6 * i + 1)) (xs (6 * i + 2)) 200 = _ := e_L_isDirty 39 M 1 (xs (6 * i + 1)) (xs (6 * i + 2)) 200
    have a1' : f_L_isDirty 40 M 1 (xs (6 * i + 1)) (xs (6 * i + 2)) 200 = some (.inl (some (.int code)), M1) := a1
    rw [t_ck hk] at e9
    rw [e9] at a1'
    exact w_b01 (fun e c hf => w_cod _ (by decide) e c hf) a1' q
  rw [e_L_law_1488, s6, s1, s2, w_ar hk (show 6 * i + 1 < L by omega) hb, w_ar hk (show 6 * i + 2 < L by omega) hb, n1, n2, hxs, show f_L_isDirty 40 M 1 (xs (6 * i + 1)) (xs (6 * i + 2)) 200 = _ from a1, lt_bi_r, w_ar a4 (show 6 * i + 1 < L by omega) hb, w_ar a4 (show 6 * i + 2 < L by omega) hb, a3, w_ckr a4, show f_X11_isDirty 40 M1 123 (xs (6 * i + 1)) (xs (6 * i + 2)) = _ from a2, lt_bi_r, w_ckr a7.1, w_th a7.1 a5, lt_bi_r, if_pos rfl, w_end2 a7.1 a6 a9 rfl]

theorem w_1563 (h : ST L xs M i) (hL : 6 * i + 6 ≤ L) (hb : L ≤ 3072) : ∃ M2, f_L_law_1563 (40 + 1) M 0 1 123 200 201 (nI (6 * i)) = f_L_law_28 (40 + 1) M2 0 1 123 200 201 (nI (6 * (i + 1))) ∧ ST L xs M2 (i + 1) := by
  have hk := h.1
  have hxs := h.2.2.1
  have s6 : nI (6 * i) + 6 = nI (6 * (i + 1)) := lt_iA (j := 6 * i) (k := 6)
  have s1 : nI (6 * i) + 1 = nI (6 * i + 1) := lt_iA (j := 6 * i) (k := 1)
  have n1 : lt_n (nI (6 * i + 1)) = 6 * i + 1 := lt_iN (by omega)
  have s2 : nI (6 * i) + 2 = nI (6 * i + 2) := lt_iA (j := 6 * i) (k := 2)
  have n2 : lt_n (nI (6 * i + 2)) = 6 * i + 2 := lt_iN (by omega)
  obtain ⟨code, v, M1, M2, a1, a2, a3, a4, a5, a6, a7, a8⟩ := o_cacheAt (cache := xs (6 * i + 1)) (what := xs (6 * i + 2)) h
  refine ⟨M2, ?_, a7⟩
  rw [e_L_law_1563, s6, s1, s2, w_ar hk (show 6 * i + 1 < L by omega) hb, w_ar hk (show 6 * i + 2 < L by omega) hb, n1, n2, hxs, show f_L_cacheAt 40 M 1 (xs (6 * i + 1)) (xs (6 * i + 2)) 200 = _ from a1, lt_bi_r, w_ar a4 (show 6 * i + 1 < L by omega) hb, w_ar a4 (show 6 * i + 2 < L by omega) hb, a3, w_ckr a4, show f_X11_cacheAt 40 M1 123 (xs (6 * i + 1)) (xs (6 * i + 2)) = _ from a2, lt_bi_r, w_ckr a7.1, w_th a7.1 a5, lt_bi_r, if_pos rfl, w_end a7.1 a6 rfl]

theorem w_1631 (h : ST L xs M i) (hL : 6 * i + 6 ≤ L) (hb : L ≤ 3072) : ∃ M2, f_L_law_1631 (40 + 1) M 0 1 123 200 201 (nI (6 * i)) = f_L_law_28 (40 + 1) M2 0 1 123 200 201 (nI (6 * (i + 1))) ∧ ST L xs M2 (i + 1) := by
  have hk := h.1
  have hxs := h.2.2.1
  have s6 : nI (6 * i) + 6 = nI (6 * (i + 1)) := lt_iA (j := 6 * i) (k := 6)
  have s1 : nI (6 * i) + 1 = nI (6 * i + 1) := lt_iA (j := 6 * i) (k := 1)
  have n1 : lt_n (nI (6 * i + 1)) = 6 * i + 1 := lt_iN (by omega)
  have s2 : nI (6 * i) + 2 = nI (6 * i + 2) := lt_iA (j := 6 * i) (k := 2)
  have n2 : lt_n (nI (6 * i + 2)) = 6 * i + 2 := lt_iN (by omega)
  have s3 : nI (6 * i) + 3 = nI (6 * i + 3) := lt_iA (j := 6 * i) (k := 3)
  have n3 : lt_n (nI (6 * i + 3)) = 6 * i + 3 := lt_iN (by omega)
  by_cases q : xs (6 * i + 3) = 0
  · obtain ⟨code, v, M1, M2, a1, a2, a3, a4, a5, a6, a7, a8⟩ := o_ownerAt (cache := xs (6 * i + 1)) (ow := xs (6 * i + 2)) (sh := 0) h
    refine ⟨M2, ?_, a7⟩
    rw [e_L_law_1631, s6, s1, s2, s3, w_ar hk (show 6 * i + 1 < L by omega) hb, w_ar hk (show 6 * i + 2 < L by omega) hb, w_ar hk (show 6 * i + 3 < L by omega) hb, n1, n2, n3, hxs, if_pos q, show f_L_ownerAt 40 M 1 (xs (6 * i + 1)) (xs (6 * i + 2)) (0) 200 = _ from a1, lt_bi_r, w_ar a4 (show 6 * i + 1 < L by omega) hb, w_ar a4 (show 6 * i + 2 < L by omega) hb, w_ar a4 (show 6 * i + 3 < L by omega) hb, a3, if_pos q, w_ckr a4, show f_X11_ownerAt 40 M1 123 (xs (6 * i + 1)) (xs (6 * i + 2)) (0) = _ from a2, lt_bi_r, w_ckr a7.1, w_th a7.1 a5, lt_bi_r, if_pos rfl, w_end a7.1 a6 rfl]
  · obtain ⟨code, v, M1, M2, a1, a2, a3, a4, a5, a6, a7, a8⟩ := o_ownerAt (cache := xs (6 * i + 1)) (ow := xs (6 * i + 2)) (sh := 1) h
    refine ⟨M2, ?_, a7⟩
    rw [e_L_law_1631, s6, s1, s2, s3, w_ar hk (show 6 * i + 1 < L by omega) hb, w_ar hk (show 6 * i + 2 < L by omega) hb, w_ar hk (show 6 * i + 3 < L by omega) hb, n1, n2, n3, hxs, if_neg q, show f_L_ownerAt 40 M 1 (xs (6 * i + 1)) (xs (6 * i + 2)) (1) 200 = _ from a1, lt_bi_r, w_ar a4 (show 6 * i + 1 < L by omega) hb, w_ar a4 (show 6 * i + 2 < L by omega) hb, w_ar a4 (show 6 * i + 3 < L by omega) hb, a3, if_neg q, w_ckr a4, show f_X11_ownerAt 40 M1 123 (xs (6 * i + 1)) (xs (6 * i + 2)) (1) = _ from a2, lt_bi_r, w_ckr a7.1, w_th a7.1 a5, lt_bi_r, if_pos rfl, w_end a7.1 a6 rfl]

theorem w_1727 (h : ST L xs M i) (hL : 6 * i + 6 ≤ L) (hb : L ≤ 3072) : ∃ M2, f_L_law_1727 (40 + 1) M 0 1 123 200 201 (nI (6 * i)) = f_L_law_28 (40 + 1) M2 0 1 123 200 201 (nI (6 * (i + 1))) ∧ ST L xs M2 (i + 1) := by
  have hk := h.1
  have hxs := h.2.2.1
  have s6 : nI (6 * i) + 6 = nI (6 * (i + 1)) := lt_iA (j := 6 * i) (k := 6)
  have s1 : nI (6 * i) + 1 = nI (6 * i + 1) := lt_iA (j := 6 * i) (k := 1)
  have n1 : lt_n (nI (6 * i + 1)) = 6 * i + 1 := lt_iN (by omega)
  have s2 : nI (6 * i) + 2 = nI (6 * i + 2) := lt_iA (j := 6 * i) (k := 2)
  have n2 : lt_n (nI (6 * i + 2)) = 6 * i + 2 := lt_iN (by omega)
  obtain ⟨code, v, M1, M2, a1, a2, a3, a4, a5, a6, a7, a8⟩ := o_keyInOrder (cache := xs (6 * i + 1)) (place := xs (6 * i + 2)) h
  refine ⟨M2, ?_, a7⟩
  rw [e_L_law_1727, s6, s1, s2, w_ar hk (show 6 * i + 1 < L by omega) hb, w_ar hk (show 6 * i + 2 < L by omega) hb, n1, n2, hxs, show f_L_keyInOrder 40 M 1 (xs (6 * i + 1)) (xs (6 * i + 2)) 200 = _ from a1, lt_bi_r, w_ar a4 (show 6 * i + 1 < L by omega) hb, w_ar a4 (show 6 * i + 2 < L by omega) hb, a3, w_ckr a4, show f_X11_keyInOrder 40 M1 123 (xs (6 * i + 1)) (xs (6 * i + 2)) = _ from a2, lt_bi_r, w_ckr a7.1, w_th a7.1 a5, lt_bi_r, if_pos rfl, w_end a7.1 a6 rfl]

theorem w_1795 (h : ST L xs M i) (hL : 6 * i + 6 ≤ L) (hb : L ≤ 3072) : ∃ M2, f_L_law_1795 (40 + 1) M 0 1 123 200 201 (nI (6 * i)) = f_L_law_28 (40 + 1) M2 0 1 123 200 201 (nI (6 * (i + 1))) ∧ ST L xs M2 (i + 1) := by
  have hk := h.1
  have hxs := h.2.2.1
  have s6 : nI (6 * i) + 6 = nI (6 * (i + 1)) := lt_iA (j := 6 * i) (k := 6)
  have s1 : nI (6 * i) + 1 = nI (6 * i + 1) := lt_iA (j := 6 * i) (k := 1)
  have n1 : lt_n (nI (6 * i + 1)) = 6 * i + 1 := lt_iN (by omega)
  have s2 : nI (6 * i) + 2 = nI (6 * i + 2) := lt_iA (j := 6 * i) (k := 2)
  have n2 : lt_n (nI (6 * i + 2)) = 6 * i + 2 := lt_iN (by omega)
  obtain ⟨code, v, M1, M2, a1, a2, a3, a4, a5, a6, a7, a8⟩ := o_victim (cache := xs (6 * i + 1)) (key := xs (6 * i + 2)) h
  refine ⟨M2, ?_, a7⟩
  rw [e_L_law_1795, s6, s1, s2, w_ar hk (show 6 * i + 1 < L by omega) hb, w_ar hk (show 6 * i + 2 < L by omega) hb, n1, n2, hxs, show f_L_victim 40 M 1 (xs (6 * i + 1)) (xs (6 * i + 2)) 200 = _ from a1, lt_bi_r, w_ar a4 (show 6 * i + 1 < L by omega) hb, w_ar a4 (show 6 * i + 2 < L by omega) hb, a3, w_ckr a4, show f_X11_victim 40 M1 123 (xs (6 * i + 1)) (xs (6 * i + 2)) = _ from a2, lt_bi_r, w_ckr a7.1, w_th a7.1 a5, lt_bi_r, if_pos rfl, w_end a7.1 a6 rfl]

theorem w_1863 (h : ST L xs M i) (hL : 6 * i + 6 ≤ L) (hb : L ≤ 3072) : ∃ M2, f_L_law_1863 (40 + 1) M 0 1 123 200 201 (nI (6 * i)) = f_L_law_28 (40 + 1) M2 0 1 123 200 201 (nI (6 * (i + 1))) ∧ ST L xs M2 (i + 1) := by
  have hk := h.1
  have hxs := h.2.2.1
  have s6 : nI (6 * i) + 6 = nI (6 * (i + 1)) := lt_iA (j := 6 * i) (k := 6)
  have s1 : nI (6 * i) + 1 = nI (6 * i + 1) := lt_iA (j := 6 * i) (k := 1)
  have n1 : lt_n (nI (6 * i + 1)) = 6 * i + 1 := lt_iN (by omega)
  have s2 : nI (6 * i) + 2 = nI (6 * i + 2) := lt_iA (j := 6 * i) (k := 2)
  have n2 : lt_n (nI (6 * i + 2)) = 6 * i + 2 := lt_iN (by omega)
  obtain ⟨code, v, M1, M2, a1, a2, a3, a4, a5, a6, a7, a8⟩ := o_count (cache := xs (6 * i + 1)) (what := xs (6 * i + 2)) h
  refine ⟨M2, ?_, a7⟩
  rw [e_L_law_1863, s6, s1, s2, w_ar hk (show 6 * i + 1 < L by omega) hb, w_ar hk (show 6 * i + 2 < L by omega) hb, n1, n2, hxs, show f_L_count 40 M 1 (xs (6 * i + 1)) (xs (6 * i + 2)) 200 = _ from a1, lt_bi_r, w_ar a4 (show 6 * i + 1 < L by omega) hb, w_ar a4 (show 6 * i + 2 < L by omega) hb, a3, w_ckr a4, show f_X11_count 40 M1 123 (xs (6 * i + 1)) (xs (6 * i + 2)) = _ from a2, lt_bi_r, w_ckr a7.1, w_th a7.1 a5, lt_bi_r, if_pos rfl, w_end a7.1 a6 rfl]

theorem w_1931 (h : ST L xs M i) (hL : 6 * i + 6 ≤ L) (hb : L ≤ 3072) : ∃ M2, f_L_law_1931 (40 + 1) M 0 1 123 200 201 (nI (6 * i)) = f_L_law_28 (40 + 1) M2 0 1 123 200 201 (nI (6 * (i + 1))) ∧ ST L xs M2 (i + 1) := by
  have hk := h.1
  have hxs := h.2.2.1
  have s6 : nI (6 * i) + 6 = nI (6 * (i + 1)) := lt_iA (j := 6 * i) (k := 6)
  have s1 : nI (6 * i) + 1 = nI (6 * i + 1) := lt_iA (j := 6 * i) (k := 1)
  have n1 : lt_n (nI (6 * i + 1)) = 6 * i + 1 := lt_iN (by omega)
  have s2 : nI (6 * i) + 2 = nI (6 * i + 2) := lt_iA (j := 6 * i) (k := 2)
  have n2 : lt_n (nI (6 * i + 2)) = 6 * i + 2 := lt_iN (by omega)
  have s3 : nI (6 * i) + 3 = nI (6 * i + 3) := lt_iA (j := 6 * i) (k := 3)
  have n3 : lt_n (nI (6 * i + 3)) = 6 * i + 3 := lt_iN (by omega)
  by_cases q : xs (6 * i + 3) = 0
  · obtain ⟨code, v, M1, M2, a1, a2, a3, a4, a5, a6, a7, a8⟩ := o_countOf (cache := xs (6 * i + 1)) (key := xs (6 * i + 2)) (hits := 0) h
    refine ⟨M2, ?_, a7⟩
    rw [e_L_law_1931, s6, s1, s2, s3, w_ar hk (show 6 * i + 1 < L by omega) hb, w_ar hk (show 6 * i + 2 < L by omega) hb, w_ar hk (show 6 * i + 3 < L by omega) hb, n1, n2, n3, hxs, if_pos q, show f_L_countOf 40 M 1 (xs (6 * i + 1)) (xs (6 * i + 2)) (0) 200 = _ from a1, lt_bi_r, w_ar a4 (show 6 * i + 1 < L by omega) hb, w_ar a4 (show 6 * i + 2 < L by omega) hb, w_ar a4 (show 6 * i + 3 < L by omega) hb, a3, if_pos q, w_ckr a4, show f_X11_countOf 40 M1 123 (xs (6 * i + 1)) (xs (6 * i + 2)) (0) = _ from a2, lt_bi_r, w_ckr a7.1, w_th a7.1 a5, lt_bi_r, if_pos rfl, w_end a7.1 a6 rfl]
  · obtain ⟨code, v, M1, M2, a1, a2, a3, a4, a5, a6, a7, a8⟩ := o_countOf (cache := xs (6 * i + 1)) (key := xs (6 * i + 2)) (hits := 1) h
    refine ⟨M2, ?_, a7⟩
    rw [e_L_law_1931, s6, s1, s2, s3, w_ar hk (show 6 * i + 1 < L by omega) hb, w_ar hk (show 6 * i + 2 < L by omega) hb, w_ar hk (show 6 * i + 3 < L by omega) hb, n1, n2, n3, hxs, if_neg q, show f_L_countOf 40 M 1 (xs (6 * i + 1)) (xs (6 * i + 2)) (1) 200 = _ from a1, lt_bi_r, w_ar a4 (show 6 * i + 1 < L by omega) hb, w_ar a4 (show 6 * i + 2 < L by omega) hb, w_ar a4 (show 6 * i + 3 < L by omega) hb, a3, if_neg q, w_ckr a4, show f_X11_countOf 40 M1 123 (xs (6 * i + 1)) (xs (6 * i + 2)) (1) = _ from a2, lt_bi_r, w_ckr a7.1, w_th a7.1 a5, lt_bi_r, if_pos rfl, w_end a7.1 a6 rfl]

theorem w_2027 (h : ST L xs M i) (hL : 6 * i + 6 ≤ L) (hb : L ≤ 3072) : ∃ M2, f_L_law_2027 (40 + 1) M 0 1 123 200 201 (nI (6 * i)) = f_L_law_28 (40 + 1) M2 0 1 123 200 201 (nI (6 * (i + 1))) ∧ ST L xs M2 (i + 1) := by
  have hk := h.1
  have hxs := h.2.2.1
  have s6 : nI (6 * i) + 6 = nI (6 * (i + 1)) := lt_iA (j := 6 * i) (k := 6)
  have s1 : nI (6 * i) + 1 = nI (6 * i + 1) := lt_iA (j := 6 * i) (k := 1)
  have n1 : lt_n (nI (6 * i + 1)) = 6 * i + 1 := lt_iN (by omega)
  have s2 : nI (6 * i) + 2 = nI (6 * i + 2) := lt_iA (j := 6 * i) (k := 2)
  have n2 : lt_n (nI (6 * i + 2)) = 6 * i + 2 := lt_iN (by omega)
  obtain ⟨code, v, M1, M2, a1, a2, a3, a4, a5, a6, a7, a8⟩ := o_outcome (cache := xs (6 * i + 1)) (rq := xs (6 * i + 2)) h
  refine ⟨M2, ?_, a7⟩
  rw [e_L_law_2027, s6, s1, s2, w_ar hk (show 6 * i + 1 < L by omega) hb, w_ar hk (show 6 * i + 2 < L by omega) hb, n1, n2, hxs, show f_L_outcome 40 M 1 (xs (6 * i + 1)) (xs (6 * i + 2)) 200 = _ from a1, lt_bi_r, w_ar a4 (show 6 * i + 1 < L by omega) hb, w_ar a4 (show 6 * i + 2 < L by omega) hb, a3, w_ckr a4, show f_X11_outcome 40 M1 123 (xs (6 * i + 1)) (xs (6 * i + 2)) = _ from a2, lt_bi_r, w_ckr a7.1, w_th a7.1 a5, lt_bi_r, if_pos rfl, w_end a7.1 a6 rfl]

theorem w_2095 (h : ST L xs M i) (hL : 6 * i + 6 ≤ L) (hb : L ≤ 3072) : ∃ M2, f_L_law_2095 (40 + 1) M 0 1 123 200 201 (nI (6 * i)) = f_L_law_28 (40 + 1) M2 0 1 123 200 201 (nI (6 * (i + 1))) ∧ ST L xs M2 (i + 1) := by
  have hk := h.1
  have hxs := h.2.2.1
  have s6 : nI (6 * i) + 6 = nI (6 * (i + 1)) := lt_iA (j := 6 * i) (k := 6)
  have s1 : nI (6 * i) + 1 = nI (6 * i + 1) := lt_iA (j := 6 * i) (k := 1)
  have n1 : lt_n (nI (6 * i + 1)) = 6 * i + 1 := lt_iN (by omega)
  have s2 : nI (6 * i) + 2 = nI (6 * i + 2) := lt_iA (j := 6 * i) (k := 2)
  have n2 : lt_n (nI (6 * i + 2)) = 6 * i + 2 := lt_iN (by omega)
  have s3 : nI (6 * i) + 3 = nI (6 * i + 3) := lt_iA (j := 6 * i) (k := 3)
  have n3 : lt_n (nI (6 * i + 3)) = 6 * i + 3 := lt_iN (by omega)
  obtain ⟨code, v, M1, M2, a1, a2, a3, a4, a5, a6, a7, a8⟩ := o_hitsBetween (cache := xs (6 * i + 1)) (from_ := xs (6 * i + 2)) (to_ := xs (6 * i + 3)) h
  refine ⟨M2, ?_, a7⟩
  rw [e_L_law_2095, s6, s1, s2, s3, w_ar hk (show 6 * i + 1 < L by omega) hb, w_ar hk (show 6 * i + 2 < L by omega) hb, w_ar hk (show 6 * i + 3 < L by omega) hb, n1, n2, n3, hxs, show f_L_hitsBetween 40 M 1 (xs (6 * i + 1)) (xs (6 * i + 2)) (xs (6 * i + 3)) 200 = _ from a1, lt_bi_r, w_ar a4 (show 6 * i + 1 < L by omega) hb, w_ar a4 (show 6 * i + 2 < L by omega) hb, w_ar a4 (show 6 * i + 3 < L by omega) hb, a3, w_ckr a4, show f_X11_hitsBetween 40 M1 123 (xs (6 * i + 1)) (xs (6 * i + 2)) (xs (6 * i + 3)) = _ from a2, lt_bi_r, w_ckr a7.1, w_th a7.1 a5, lt_bi_r, if_pos rfl, w_end a7.1 a6 rfl]

theorem w_2175 (h : ST L xs M i) (hL : 6 * i + 6 ≤ L) (hb : L ≤ 3072) : ∃ M2, f_L_law_2175 (40 + 1) M 0 1 123 200 201 (nI (6 * i)) = f_L_law_28 (40 + 1) M2 0 1 123 200 201 (nI (6 * (i + 1))) ∧ ST L xs M2 (i + 1) := by
  have hk := h.1
  have hxs := h.2.2.1
  have s6 : nI (6 * i) + 6 = nI (6 * (i + 1)) := lt_iA (j := 6 * i) (k := 6)
  have s1 : nI (6 * i) + 1 = nI (6 * i + 1) := lt_iA (j := 6 * i) (k := 1)
  have n1 : lt_n (nI (6 * i + 1)) = 6 * i + 1 := lt_iN (by omega)
  have s2 : nI (6 * i) + 2 = nI (6 * i + 2) := lt_iA (j := 6 * i) (k := 2)
  have n2 : lt_n (nI (6 * i + 2)) = 6 * i + 2 := lt_iN (by omega)
  obtain ⟨code, v, M1, M2, a1, a2, a3, a4, a5, a6, a7⟩ := o_worth (cache := xs (6 * i + 1)) (key := xs (6 * i + 2)) h
  refine ⟨M2, ?_, a7⟩
  rw [e_L_law_2175, s6, s1, s2, w_ar hk (show 6 * i + 1 < L by omega) hb, w_ar hk (show 6 * i + 2 < L by omega) hb, n1, n2, hxs, show f_L_worth 40 M 1 (xs (6 * i + 1)) (xs (6 * i + 2)) 200 = _ from a1, lt_bi_r, w_ar a4 (show 6 * i + 1 < L by omega) hb, w_ar a4 (show 6 * i + 2 < L by omega) hb, a3, w_ckr a4, show f_X11_worth 40 M1 123 (xs (6 * i + 1)) (xs (6 * i + 2)) = _ from a2, lt_bl_r, w_ckr a7.1, w_th a7.1 a5, lt_bi_r, if_pos rfl, w_end a7.1 a6 rfl]

theorem w_2242 (h : ST L xs M i) (hL : 6 * i + 6 ≤ L) (hb : L ≤ 3072) : ∃ M2, f_L_law_2242 (40 + 1) M 0 1 123 200 201 (nI (6 * i)) = f_L_law_28 (40 + 1) M2 0 1 123 200 201 (nI (6 * (i + 1))) ∧ ST L xs M2 (i + 1) := by
  have hk := h.1
  have hxs := h.2.2.1
  have s6 : nI (6 * i) + 6 = nI (6 * (i + 1)) := lt_iA (j := 6 * i) (k := 6)
  have s1 : nI (6 * i) + 1 = nI (6 * i + 1) := lt_iA (j := 6 * i) (k := 1)
  have n1 : lt_n (nI (6 * i + 1)) = 6 * i + 1 := lt_iN (by omega)
  have s2 : nI (6 * i) + 2 = nI (6 * i + 2) := lt_iA (j := 6 * i) (k := 2)
  have n2 : lt_n (nI (6 * i + 2)) = 6 * i + 2 := lt_iN (by omega)
  obtain ⟨code, v, M1, M2, a1, a2, a3, a4, a5, a6, a7, a8⟩ := o_remembers (cache := xs (6 * i + 1)) (key := xs (6 * i + 2)) h
  refine ⟨M2, ?_, a7⟩
  have a9 : code = 0 → mL M2 200 0 = 0 ∨ mL M2 200 0 = 1 := fun q => by
    rw [a8]
    have e9 : f_L_remembers 40 M 1 (xs (6 * i + 1)) (xs (6 * i + 2)) 200 = _ := e_L_remembers 39 M 1 (xs (6 * i + 1)) (xs (6 * i + 2)) 200
    have a1' : f_L_remembers 40 M 1 (xs (6 * i + 1)) (xs (6 * i + 2)) 200 = some (.inl (some (.int code)), M1) := a1
    rw [t_ck hk] at e9
    rw [e9] at a1'
    exact w_b01 (fun e c hf => w_cod _ (by decide) e c hf) a1' q
  rw [e_L_law_2242, s6, s1, s2, w_ar hk (show 6 * i + 1 < L by omega) hb, w_ar hk (show 6 * i + 2 < L by omega) hb, n1, n2, hxs, show f_L_remembers 40 M 1 (xs (6 * i + 1)) (xs (6 * i + 2)) 200 = _ from a1, lt_bi_r, w_ar a4 (show 6 * i + 1 < L by omega) hb, w_ar a4 (show 6 * i + 2 < L by omega) hb, a3, w_ckr a4, show f_X11_remembers 40 M1 123 (xs (6 * i + 1)) (xs (6 * i + 2)) = _ from a2, lt_bi_r, w_ckr a7.1, w_th a7.1 a5, lt_bi_r, if_pos rfl, w_end2 a7.1 a6 a9 rfl]

theorem w_2317 (h : ST L xs M i) (hL : 6 * i + 6 ≤ L) (hb : L ≤ 3072) : ∃ M2, f_L_law_2317 (40 + 1) M 0 1 123 200 201 (nI (6 * i)) = f_L_law_28 (40 + 1) M2 0 1 123 200 201 (nI (6 * (i + 1))) ∧ ST L xs M2 (i + 1) := by
  have hk := h.1
  have hxs := h.2.2.1
  have s6 : nI (6 * i) + 6 = nI (6 * (i + 1)) := lt_iA (j := 6 * i) (k := 6)
  have s1 : nI (6 * i) + 1 = nI (6 * i + 1) := lt_iA (j := 6 * i) (k := 1)
  have n1 : lt_n (nI (6 * i + 1)) = 6 * i + 1 := lt_iN (by omega)
  obtain ⟨code, v, M1, M2, a1, a2, a3, a4, a5, a6, a7, a8⟩ := o_leaning (cache := xs (6 * i + 1)) h
  refine ⟨M2, ?_, a7⟩
  rw [e_L_law_2317, s6, s1, w_ar hk (show 6 * i + 1 < L by omega) hb, n1, hxs, show f_L_leaning 40 M 1 (xs (6 * i + 1)) 200 = _ from a1, lt_bi_r, w_ar a4 (show 6 * i + 1 < L by omega) hb, a3, w_ckr a4, show f_X11_leaning 40 M1 123 (xs (6 * i + 1)) = _ from a2, lt_bi_r, w_ckr a7.1, w_th a7.1 a5, lt_bi_r, if_pos rfl, w_end a7.1 a6 rfl]

theorem w_2373 (h : ST L xs M i) (hL : 6 * i + 6 ≤ L) (hb : L ≤ 3072) : ∃ M2, f_L_law_2373 (40 + 1) M 0 1 123 200 201 (nI (6 * i)) = f_L_law_28 (40 + 1) M2 0 1 123 200 201 (nI (6 * (i + 1))) ∧ ST L xs M2 (i + 1) := by
  have hk := h.1
  have hxs := h.2.2.1
  have s6 : nI (6 * i) + 6 = nI (6 * (i + 1)) := lt_iA (j := 6 * i) (k := 6)
  have s1 : nI (6 * i) + 1 = nI (6 * i + 1) := lt_iA (j := 6 * i) (k := 1)
  have n1 : lt_n (nI (6 * i + 1)) = 6 * i + 1 := lt_iN (by omega)
  obtain ⟨code, v, M1, M2, a1, a2, a3, a4, a5, a6, a7, a8⟩ := o_distance (rq := xs (6 * i + 1)) h
  refine ⟨M2, ?_, a7⟩
  rw [e_L_law_2373, s6, s1, w_ar hk (show 6 * i + 1 < L by omega) hb, n1, hxs, show f_L_distance 40 M 1 (xs (6 * i + 1)) 200 = _ from a1, lt_bi_r, w_ar a4 (show 6 * i + 1 < L by omega) hb, a3, w_ckr a4, show f_X11_distance 40 M1 123 (xs (6 * i + 1)) = _ from a2, lt_bi_r, w_ckr a7.1, w_th a7.1 a5, lt_bi_r, if_pos rfl, w_end a7.1 a6 rfl]

theorem w_2429 (h : ST L xs M i) (hL : 6 * i + 6 ≤ L) (hb : L ≤ 3072) : ∃ M2, f_L_law_2429 (40 + 1) M 0 1 123 200 201 (nI (6 * i)) = f_L_law_28 (40 + 1) M2 0 1 123 200 201 (nI (6 * (i + 1))) ∧ ST L xs M2 (i + 1) := by
  have hk := h.1
  have hxs := h.2.2.1
  have s6 : nI (6 * i) + 6 = nI (6 * (i + 1)) := lt_iA (j := 6 * i) (k := 6)
  have s1 : nI (6 * i) + 1 = nI (6 * i + 1) := lt_iA (j := 6 * i) (k := 1)
  have n1 : lt_n (nI (6 * i + 1)) = 6 * i + 1 := lt_iN (by omega)
  have s2 : nI (6 * i) + 2 = nI (6 * i + 2) := lt_iA (j := 6 * i) (k := 2)
  have n2 : lt_n (nI (6 * i + 2)) = 6 * i + 2 := lt_iN (by omega)
  obtain ⟨code, v, M1, M2, a1, a2, a3, a4, a5, a6, a7, a8⟩ := o_hits (rule := xs (6 * i + 1)) (size := xs (6 * i + 2)) h
  refine ⟨M2, ?_, a7⟩
  rw [e_L_law_2429, s6, s1, s2, w_ar hk (show 6 * i + 1 < L by omega) hb, w_ar hk (show 6 * i + 2 < L by omega) hb, n1, n2, hxs, show f_L_hits 40 M 1 (xs (6 * i + 1)) (xs (6 * i + 2)) 200 = _ from a1, lt_bi_r, w_ar a4 (show 6 * i + 1 < L by omega) hb, w_ar a4 (show 6 * i + 2 < L by omega) hb, a3, w_ckr a4, show f_X11_hits 40 M1 123 (xs (6 * i + 1)) (xs (6 * i + 2)) = _ from a2, lt_bi_r, w_ckr a7.1, w_th a7.1 a5, lt_bi_r, if_pos rfl, w_end a7.1 a6 rfl]

theorem w_2497 (h : ST L xs M i) (hL : 6 * i + 6 ≤ L) (hb : L ≤ 3072) : ∃ M2, f_L_law_2497 (40 + 1) M 0 1 123 200 201 (nI (6 * i)) = f_L_law_28 (40 + 1) M2 0 1 123 200 201 (nI (6 * (i + 1))) ∧ ST L xs M2 (i + 1) := by
  have hk := h.1
  have hxs := h.2.2.1
  have s6 : nI (6 * i) + 6 = nI (6 * (i + 1)) := lt_iA (j := 6 * i) (k := 6)
  have s1 : nI (6 * i) + 1 = nI (6 * i + 1) := lt_iA (j := 6 * i) (k := 1)
  have n1 : lt_n (nI (6 * i + 1)) = 6 * i + 1 := lt_iN (by omega)
  have s2 : nI (6 * i) + 2 = nI (6 * i + 2) := lt_iA (j := 6 * i) (k := 2)
  have n2 : lt_n (nI (6 * i + 2)) = 6 * i + 2 := lt_iN (by omega)
  have s3 : nI (6 * i) + 3 = nI (6 * i + 3) := lt_iA (j := 6 * i) (k := 3)
  have n3 : lt_n (nI (6 * i + 3)) = 6 * i + 3 := lt_iN (by omega)
  have s4 : nI (6 * i) + 4 = nI (6 * i + 4) := lt_iA (j := 6 * i) (k := 4)
  have n4 : lt_n (nI (6 * i + 4)) = 6 * i + 4 := lt_iN (by omega)
  obtain ⟨code, v, M1, M2, a1, a2, a3, a4, a5, a6, a7, a8⟩ := o_holdsAfter (rule := xs (6 * i + 1)) (size := xs (6 * i + 2)) (requests := xs (6 * i + 3)) (key := xs (6 * i + 4)) h
  refine ⟨M2, ?_, a7⟩
  have a9 : code = 0 → mL M2 200 0 = 0 ∨ mL M2 200 0 = 1 := fun q => by
    rw [a8]
    have e9 : f_L_holdsAfter 40 M 1 (xs (6 * i + 1)) (xs (6 * i + 2)) (xs (6 * i + 3)) (xs (6 * i + 4)) 200 = _ := e_L_holdsAfter 39 M 1 (xs (6 * i + 1)) (xs (6 * i + 2)) (xs (6 * i + 3)) (xs (6 * i + 4)) 200
    have a1' : f_L_holdsAfter 40 M 1 (xs (6 * i + 1)) (xs (6 * i + 2)) (xs (6 * i + 3)) (xs (6 * i + 4)) 200 = some (.inl (some (.int code)), M1) := a1
    rw [t_ck hk] at e9
    rw [e9] at a1'
    exact w_b01 (fun e c hf => w_cod _ (by decide) e c hf) a1' q
  rw [e_L_law_2497, s6, s1, s2, s3, s4, w_ar hk (show 6 * i + 1 < L by omega) hb, w_ar hk (show 6 * i + 2 < L by omega) hb, w_ar hk (show 6 * i + 3 < L by omega) hb, w_ar hk (show 6 * i + 4 < L by omega) hb, n1, n2, n3, n4, hxs, show f_L_holdsAfter 40 M 1 (xs (6 * i + 1)) (xs (6 * i + 2)) (xs (6 * i + 3)) (xs (6 * i + 4)) 200 = _ from a1, lt_bi_r, w_ar a4 (show 6 * i + 1 < L by omega) hb, w_ar a4 (show 6 * i + 2 < L by omega) hb, w_ar a4 (show 6 * i + 3 < L by omega) hb, w_ar a4 (show 6 * i + 4 < L by omega) hb, a3, w_ckr a4, show f_X11_holdsAfter 40 M1 123 (xs (6 * i + 1)) (xs (6 * i + 2)) (xs (6 * i + 3)) (xs (6 * i + 4)) = _ from a2, lt_bi_r, w_ckr a7.1, w_th a7.1 a5, lt_bi_r, if_pos rfl, w_end2 a7.1 a6 a9 rfl]

theorem w_2596 (h : ST L xs M i) (hL : 6 * i + 6 ≤ L) (hb : L ≤ 3072) : ∃ M2, f_L_law_2596 (40 + 1) M 0 1 123 200 201 (nI (6 * i)) = f_L_law_28 (40 + 1) M2 0 1 123 200 201 (nI (6 * (i + 1))) ∧ ST L xs M2 (i + 1) := by
  have hk := h.1
  have hxs := h.2.2.1
  have s6 : nI (6 * i) + 6 = nI (6 * (i + 1)) := lt_iA (j := 6 * i) (k := 6)
  have s1 : nI (6 * i) + 1 = nI (6 * i + 1) := lt_iA (j := 6 * i) (k := 1)
  have n1 : lt_n (nI (6 * i + 1)) = 6 * i + 1 := lt_iN (by omega)
  have s2 : nI (6 * i) + 2 = nI (6 * i + 2) := lt_iA (j := 6 * i) (k := 2)
  have n2 : lt_n (nI (6 * i + 2)) = 6 * i + 2 := lt_iN (by omega)
  obtain ⟨code, v, M1, M2, a1, a2, a3, a4, a5, a6, a7, a8⟩ := o_bestVictim (size := xs (6 * i + 1)) (rq := xs (6 * i + 2)) h
  refine ⟨M2, ?_, a7⟩
  rw [e_L_law_2596, s6, s1, s2, w_ar hk (show 6 * i + 1 < L by omega) hb, w_ar hk (show 6 * i + 2 < L by omega) hb, n1, n2, hxs, show f_L_bestVictim 40 M 1 (xs (6 * i + 1)) (xs (6 * i + 2)) 200 = _ from a1, lt_bi_r, w_ar a4 (show 6 * i + 1 < L by omega) hb, w_ar a4 (show 6 * i + 2 < L by omega) hb, a3, w_ckr a4, show f_X11_bestVictim 40 M1 123 (xs (6 * i + 1)) (xs (6 * i + 2)) = _ from a2, lt_bi_r, w_ckr a7.1, w_th a7.1 a5, lt_bi_r, if_pos rfl, w_end a7.1 a6 rfl]

theorem w_2664 (h : ST L xs M i) (hL : 6 * i + 6 ≤ L) (hb : L ≤ 3072) : ∃ M2, f_L_law_2664 (40 + 1) M 0 1 123 200 201 (nI (6 * i)) = f_L_law_28 (40 + 1) M2 0 1 123 200 201 (nI (6 * (i + 1))) ∧ ST L xs M2 (i + 1) := by
  have hk := h.1
  have hxs := h.2.2.1
  have s6 : nI (6 * i) + 6 = nI (6 * (i + 1)) := lt_iA (j := 6 * i) (k := 6)
  have s1 : nI (6 * i) + 1 = nI (6 * i + 1) := lt_iA (j := 6 * i) (k := 1)
  have n1 : lt_n (nI (6 * i + 1)) = 6 * i + 1 := lt_iN (by omega)
  obtain ⟨code, v, M1, M2, a1, a2, a3, a4, a5, a6, a7, a8⟩ := o_phases (size := xs (6 * i + 1)) h
  refine ⟨M2, ?_, a7⟩
  rw [e_L_law_2664, s6, s1, w_ar hk (show 6 * i + 1 < L by omega) hb, n1, hxs, show f_L_phases 40 M 1 (xs (6 * i + 1)) 200 = _ from a1, lt_bi_r, w_ar a4 (show 6 * i + 1 < L by omega) hb, a3, w_ckr a4, show f_X11_phases 40 M1 123 (xs (6 * i + 1)) = _ from a2, lt_bi_r, w_ckr a7.1, w_th a7.1 a5, lt_bi_r, if_pos rfl, w_end a7.1 a6 rfl]

theorem w_2720 (h : ST L xs M i) (hL : 6 * i + 6 ≤ L) (hb : L ≤ 3072) : ∃ M2, f_L_law_2720 (40 + 1) M 0 1 123 200 201 (nI (6 * i)) = f_L_law_28 (40 + 1) M2 0 1 123 200 201 (nI (6 * (i + 1))) ∧ ST L xs M2 (i + 1) := by
  have hk := h.1
  have hxs := h.2.2.1
  have s6 : nI (6 * i) + 6 = nI (6 * (i + 1)) := lt_iA (j := 6 * i) (k := 6)
  have s1 : nI (6 * i) + 1 = nI (6 * i + 1) := lt_iA (j := 6 * i) (k := 1)
  have n1 : lt_n (nI (6 * i + 1)) = 6 * i + 1 := lt_iN (by omega)
  have s2 : nI (6 * i) + 2 = nI (6 * i + 2) := lt_iA (j := 6 * i) (k := 2)
  have n2 : lt_n (nI (6 * i + 2)) = 6 * i + 2 := lt_iN (by omega)
  obtain ⟨code, v, M1, M2, a1, a2, a3, a4, a5, a6, a7, a8⟩ := o_phaseOf (size := xs (6 * i + 1)) (rq := xs (6 * i + 2)) h
  refine ⟨M2, ?_, a7⟩
  rw [e_L_law_2720, s6, s1, s2, w_ar hk (show 6 * i + 1 < L by omega) hb, w_ar hk (show 6 * i + 2 < L by omega) hb, n1, n2, hxs, show f_L_phaseOf 40 M 1 (xs (6 * i + 1)) (xs (6 * i + 2)) 200 = _ from a1, lt_bi_r, w_ar a4 (show 6 * i + 1 < L by omega) hb, w_ar a4 (show 6 * i + 2 < L by omega) hb, a3, w_ckr a4, show f_X11_phaseOf 40 M1 123 (xs (6 * i + 1)) (xs (6 * i + 2)) = _ from a2, lt_bi_r, w_ckr a7.1, w_th a7.1 a5, lt_bi_r, if_pos rfl, w_end a7.1 a6 rfl]

theorem w_2788 (h : ST L xs M i) (hL : 6 * i + 6 ≤ L) (hb : L ≤ 3072) : ∃ M2, f_L_law_2788 (40 + 1) M 0 1 123 200 201 (nI (6 * i)) = f_L_law_28 (40 + 1) M2 0 1 123 200 201 (nI (6 * (i + 1))) ∧ ST L xs M2 (i + 1) := by
  have hk := h.1
  have hxs := h.2.2.1
  have s6 : nI (6 * i) + 6 = nI (6 * (i + 1)) := lt_iA (j := 6 * i) (k := 6)
  have s1 : nI (6 * i) + 1 = nI (6 * i + 1) := lt_iA (j := 6 * i) (k := 1)
  have n1 : lt_n (nI (6 * i + 1)) = 6 * i + 1 := lt_iN (by omega)
  have s2 : nI (6 * i) + 2 = nI (6 * i + 2) := lt_iA (j := 6 * i) (k := 2)
  have n2 : lt_n (nI (6 * i + 2)) = 6 * i + 2 := lt_iN (by omega)
  obtain ⟨code, v, M1, M2, a1, a2, a3, a4, a5, a6, a7, a8⟩ := o_slack (size := xs (6 * i + 1)) (other := xs (6 * i + 2)) h
  refine ⟨M2, ?_, a7⟩
  rw [e_L_law_2788, s6, s1, s2, w_ar hk (show 6 * i + 1 < L by omega) hb, w_ar hk (show 6 * i + 2 < L by omega) hb, n1, n2, hxs, show f_L_slack 40 M 1 (xs (6 * i + 1)) (xs (6 * i + 2)) 200 = _ from a1, lt_bi_r, w_ar a4 (show 6 * i + 1 < L by omega) hb, w_ar a4 (show 6 * i + 2 < L by omega) hb, a3, w_ckr a4, show f_X11_slack 40 M1 123 (xs (6 * i + 1)) (xs (6 * i + 2)) = _ from a2, lt_bi_r, w_ckr a7.1, w_th a7.1 a5, lt_bi_r, if_pos rfl, w_end a7.1 a6 rfl]

theorem w_2856 (h : ST L xs M i) (hL : 6 * i + 6 ≤ L) (hb : L ≤ 3072) : ∃ M2, f_L_law_2856 (40 + 1) M 0 1 123 200 201 (nI (6 * i)) = f_L_law_28 (40 + 1) M2 0 1 123 200 201 (nI (6 * (i + 1))) ∧ ST L xs M2 (i + 1) := by
  have hk := h.1
  have hxs := h.2.2.1
  have s6 : nI (6 * i) + 6 = nI (6 * (i + 1)) := lt_iA (j := 6 * i) (k := 6)
  have s1 : nI (6 * i) + 1 = nI (6 * i + 1) := lt_iA (j := 6 * i) (k := 1)
  have n1 : lt_n (nI (6 * i + 1)) = 6 * i + 1 := lt_iN (by omega)
  have s2 : nI (6 * i) + 2 = nI (6 * i + 2) := lt_iA (j := 6 * i) (k := 2)
  have n2 : lt_n (nI (6 * i + 2)) = 6 * i + 2 := lt_iN (by omega)
  have s3 : nI (6 * i) + 3 = nI (6 * i + 3) := lt_iA (j := 6 * i) (k := 3)
  have n3 : lt_n (nI (6 * i + 3)) = 6 * i + 3 := lt_iN (by omega)
  have s4 : nI (6 * i) + 4 = nI (6 * i + 4) := lt_iA (j := 6 * i) (k := 4)
  have n4 : lt_n (nI (6 * i + 4)) = 6 * i + 4 := lt_iN (by omega)
  have s5 : nI (6 * i) + 5 = nI (6 * i + 5) := lt_iA (j := 6 * i) (k := 5)
  have n5 : lt_n (nI (6 * i + 5)) = 6 * i + 5 := lt_iN (by omega)
  obtain ⟨code, v, M1, M2, a1, a2, a3, a4, a5, a6, a7, a8⟩ := o_shame (rule := xs (6 * i + 1)) (its := xs (6 * i + 2)) (greater := xs (6 * i + 3)) (keys := xs (6 * i + 4)) (most := xs (6 * i + 5)) h
  refine ⟨M2, ?_, a7⟩
  rw [e_L_law_2856, s6, s1, s2, s3, s4, s5, w_ar hk (show 6 * i + 1 < L by omega) hb, w_ar hk (show 6 * i + 2 < L by omega) hb, w_ar hk (show 6 * i + 3 < L by omega) hb, w_ar hk (show 6 * i + 4 < L by omega) hb, w_ar hk (show 6 * i + 5 < L by omega) hb, n1, n2, n3, n4, n5, hxs, show f_L_shame 40 M 1 (xs (6 * i + 1)) (xs (6 * i + 2)) (xs (6 * i + 3)) (xs (6 * i + 4)) (xs (6 * i + 5)) 200 = _ from a1, lt_bi_r, w_ar a4 (show 6 * i + 1 < L by omega) hb, w_ar a4 (show 6 * i + 2 < L by omega) hb, w_ar a4 (show 6 * i + 3 < L by omega) hb, w_ar a4 (show 6 * i + 4 < L by omega) hb, w_ar a4 (show 6 * i + 5 < L by omega) hb, a3, w_ckr a4, show f_X11_shame 40 M1 123 (xs (6 * i + 1)) (xs (6 * i + 2)) (xs (6 * i + 3)) (xs (6 * i + 4)) (xs (6 * i + 5)) = _ from a2, lt_bi_r, w_ckr a7.1, w_th a7.1 a5, lt_bi_r, if_pos rfl, w_end a7.1 a6 rfl]

theorem w_2960 (h : ST L xs M i) (hL : 6 * i + 6 ≤ L) (hb : L ≤ 3072) : ∃ M2, f_L_law_2960 (40 + 1) M 0 1 123 200 201 (nI (6 * i)) = f_L_law_28 (40 + 1) M2 0 1 123 200 201 (nI (6 * (i + 1))) ∧ ST L xs M2 (i + 1) := by
  have hk := h.1
  have hxs := h.2.2.1
  have s6 : nI (6 * i) + 6 = nI (6 * (i + 1)) := lt_iA (j := 6 * i) (k := 6)
  have s1 : nI (6 * i) + 1 = nI (6 * i + 1) := lt_iA (j := 6 * i) (k := 1)
  have n1 : lt_n (nI (6 * i + 1)) = 6 * i + 1 := lt_iN (by omega)
  obtain ⟨code, v, M1, M2, a1, a2, a3, a4, a5, a6, a7, a8⟩ := o_shameAt (place := xs (6 * i + 1)) h
  refine ⟨M2, ?_, a7⟩
  rw [e_L_law_2960, s6, s1, w_ar hk (show 6 * i + 1 < L by omega) hb, n1, hxs, show f_L_shameAt 40 M 1 (xs (6 * i + 1)) 200 = _ from a1, lt_bi_r, w_ar a4 (show 6 * i + 1 < L by omega) hb, a3, w_ckr a4, show f_X11_shameAt 40 M1 123 (xs (6 * i + 1)) = _ from a2, lt_bi_r, w_ckr a7.1, w_th a7.1 a5, lt_bi_r, if_pos rfl, w_end a7.1 a6 rfl]

theorem w_3016 (h : ST L xs M i) (hL : 6 * i + 6 ≤ L) (hb : L ≤ 3072) : ∃ M2, f_L_law_3016 (40 + 1) M 0 1 123 200 201 (nI (6 * i)) = f_L_law_28 (40 + 1) M2 0 1 123 200 201 (nI (6 * (i + 1))) ∧ ST L xs M2 (i + 1) := by
  have hk := h.1
  have hxs := h.2.2.1
  have s6 : nI (6 * i) + 6 = nI (6 * (i + 1)) := lt_iA (j := 6 * i) (k := 6)
  have s1 : nI (6 * i) + 1 = nI (6 * i + 1) := lt_iA (j := 6 * i) (k := 1)
  have n1 : lt_n (nI (6 * i + 1)) = 6 * i + 1 := lt_iN (by omega)
  obtain ⟨code, v, M1, M2, a1, a2, a3, a4, a5, a6, a7⟩ := o_hitShare (cache := xs (6 * i + 1)) h
  refine ⟨M2, ?_, a7⟩
  rw [e_L_law_3016, s6, s1, w_ar hk (show 6 * i + 1 < L by omega) hb, n1, hxs, show f_L_hitShare 40 M 1 (xs (6 * i + 1)) 201 = _ from a1, lt_bi_r, w_ar a4 (show 6 * i + 1 < L by omega) hb, a3, w_ckr a4, show f_X11_hitShare 40 M1 123 (xs (6 * i + 1)) = _ from a2, lt_bd_r, w_ckr a7.1, w_th a7.1 a5, lt_bi_r, if_pos rfl]
  by_cases q : code = 0
  · rw [if_pos q, t_od a7.1, show mD M2 201 (lt_n 0) = v from a6 q, t_od a7.1, t_od a7.1]
    by_cases q2 : Op.cmpValue (FP.dcmp v v) .l = 0
    · rw [if_pos q2]
    · rw [if_neg q2, if_neg q2, if_neg q2]
  · rw [if_neg q]

theorem w_3093 (h : ST L xs M i) (hL : 6 * i + 6 ≤ L) (hb : L ≤ 3072) : ∃ M2, f_L_law_3093 (40 + 1) M 0 1 123 200 201 (nI (6 * i)) = f_L_law_28 (40 + 1) M2 0 1 123 200 201 (nI (6 * (i + 1))) ∧ ST L xs M2 (i + 1) := by
  have hk := h.1
  have hxs := h.2.2.1
  have s6 : nI (6 * i) + 6 = nI (6 * (i + 1)) := lt_iA (j := 6 * i) (k := 6)
  obtain ⟨v, M1, M2, a1, a2, an, a3, a4, a7⟩ := o_meanDistance h
  refine ⟨M2, ?_, a7⟩
  have hn : FP.Core.val64 (FP.f2d v) ≠ .nan := by
    have e0 : FP.f2d v = FP.Core.f2d v := by
      unfold FP.f2d
      rw [if_neg (by rw [show FP.Core.fIsNaN v = false from decide_eq_false an]; decide)]
    rw [e0, FP.Core.val64_f2d]
    exact rd_nn an
  rw [e_L_law_3093, s6, t_ck hk, show f_X10_meanDistance 40 M 1 = _ from a1, lt_bf_r, n64 hn, w_ckr a4, show f_X11_meanDistance 40 M1 123 = _ from a2, lt_bf_r, n64 hn]
  by_cases q2 : Op.cmpValue (FP.dcmp (FP.f2d v) (FP.f2d v)) .l = 0
  · rw [if_pos q2]
  · rw [if_neg q2, if_neg q2, if_neg q2]

theorem w_3136 (h : ST L xs M i) (hL : 6 * i + 6 ≤ L) (hb : L ≤ 3072) : ∃ M2, f_L_law_3136 (40 + 1) M 0 1 123 200 201 (nI (6 * i)) = f_L_law_28 (40 + 1) M2 0 1 123 200 201 (nI (6 * (i + 1))) ∧ ST L xs M2 (i + 1) := by
  have hk := h.1
  have hxs := h.2.2.1
  have s6 : nI (6 * i) + 6 = nI (6 * (i + 1)) := lt_iA (j := 6 * i) (k := 6)
  obtain ⟨v, M1, M2, a1, a2, a3, a4, a7⟩ := o_errors h
  refine ⟨M2, ?_, a7⟩
  rw [e_L_law_3136, s6, t_ck hk, show f_X10_errors 40 M 1 = _ from a1, lt_bi_r, w_ckr a4, show f_X11_errors 40 M1 123 = _ from a2, lt_bi_r, if_pos rfl]

end Ux
