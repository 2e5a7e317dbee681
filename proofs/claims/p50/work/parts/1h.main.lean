/-! THE MAIN THEOREM of the little machine: its runs are runs of the machine -/
theorem lt_two {as : List Value} {v w : Value} (h1 : lt_c1 v = true) (hw : w ≠ lt_j) (e0 : (lt_sp 2 as)[0]? = some v) (e1 : (lt_sp 2 as)[1]? = some w) (hl : as.length = 2) : as = [v, w] := by
  rcases as with _ | ⟨a, _ | ⟨b, _ | ⟨c, r⟩⟩⟩
  · cases hl
  · cases hl
  · have e0' : (bif lt_c1 a then a :: [b] else a :: lt_j :: [])[0]? = some v := e0
    have e1' : (bif lt_c1 a then a :: [b] else a :: lt_j :: [])[1]? = some w := e1
    cases hc : lt_c1 a with
    | true =>
      rw [hc] at e0' e1'
      have f0 : a = v := Option.some.inj e0'
      have f1 : b = w := Option.some.inj e1'
      rw [f0, f1]
    | false =>
      rw [hc] at e0' e1'
      have f0 : lt_j = w := Option.some.inj e1'
      exact absurd f0.symm hw
  · simp at hl
theorem lt_four {as : List Value} {x y : Int64} (e0 : (lt_sp 4 as)[0]? = some (.long x)) (e1 : (lt_sp 4 as)[2]? = some (.long y)) (hl : as.length = 2) : as = [.long x, .long y] := by
  rcases as with _ | ⟨a, _ | ⟨b, _ | ⟨c, r⟩⟩⟩
  · cases hl
  · cases hl
  · have e0' : (bif lt_c1 a then a :: lt_sp 3 [b] else a :: lt_j :: lt_sp 2 [b])[0]? = some (.long x) := e0
    have f0 : a = .long x := by
      cases hc : lt_c1 a with
      | true => rw [hc] at e0'; exact Option.some.inj e0'
      | false => rw [hc] at e0'; exact Option.some.inj e0'
    subst f0
    have e1' : (lt_sp 2 [b])[0]? = some (.long y) := e1
    have e2' : (bif lt_c1 b then b :: lt_sp 1 [] else b :: lt_j :: [])[0]? = some (.long y) := e1'
    have f1 : b = .long y := by
      cases hc : lt_c1 b with
      | true => rw [hc] at e2'; exact Option.some.inj e2'
      | false => rw [hc] at e2'; exact Option.some.inj e2'
    rw [f1]
  · simp at hl
set_option maxRecDepth 100000 in
set_option maxHeartbeats 4000000 in
theorem lt_m131 {d : Nat} {as : List Value} {M : LM} {z : LO × LM} (h : ev (d + 1) 131 0 (lt_sp 2 as) [] M = some z) (hl : as.length = 2) : ∃ x y : Int32, as = [.int x, .int y] ∧ z = (.inl (some (.int (if x < y then y else x))), M) := by
  have h0 := h
  rw [ev_step] at h
  have h1 : (lt_gi (lt_sp 2 as) 0 fun x => ev (d + 1) 131 1 (lt_sp 2 as) [.int x] M) = some z := h
  obtain ⟨x, e0, h2⟩ := lt_gi_inv h1
  rw [ev_step] at h2
  have h3 : (lt_gi (lt_sp 2 as) 1 fun y => ev (d + 1) 131 2 (lt_sp 2 as) [.int y, .int x] M) = some z := h2
  obtain ⟨y, e1, -⟩ := lt_gi_inv h3
  have has : as = [.int x, .int y] := lt_two rfl (fun e => by cases e) e0 e1 hl
  subst has
  have e9 : ev (d + 1) 131 0 [.int x, .int y] [] M = if @LT.lt Int32 _ x y then (some (.inl (some (.int y)), M)) else (some (.inl (some (.int x)), M)) := (lx_ev (d := d) (m := 131) (hs := []) 9 0 [.int x, .int y] [] M).symm
  have h0' : ev (d + 1) 131 0 [.int x, .int y] [] M = some z := h0
  rw [e9] at h0'
  refine ⟨x, y, rfl, ?_⟩
  by_cases hxy : x < y
  · rw [if_pos hxy] at h0'; cases h0'; rw [if_pos hxy]
  · rw [if_neg hxy] at h0'; cases h0'; rw [if_neg hxy]
set_option maxRecDepth 100000 in
set_option maxHeartbeats 4000000 in
theorem lt_m133 {d : Nat} {as : List Value} {M : LM} {z : LO × LM} (h : ev (d + 1) 133 0 (lt_sp 2 as) [] M = some z) (hl : as.length = 2) : ∃ x y : Int32, as = [.int x, .int y] ∧ z = (.inl (some (.int (if y < x then y else x))), M) := by
  have h0 := h
  rw [ev_step] at h
  have h1 : (lt_gi (lt_sp 2 as) 0 fun x => ev (d + 1) 133 1 (lt_sp 2 as) [.int x] M) = some z := h
  obtain ⟨x, e0, h2⟩ := lt_gi_inv h1
  rw [ev_step] at h2
  have h3 : (lt_gi (lt_sp 2 as) 1 fun y => ev (d + 1) 133 2 (lt_sp 2 as) [.int y, .int x] M) = some z := h2
  obtain ⟨y, e1, -⟩ := lt_gi_inv h3
  have has : as = [.int x, .int y] := lt_two rfl (fun e => by cases e) e0 e1 hl
  subst has
  have e9 : ev (d + 1) 133 0 [.int x, .int y] [] M = if @LT.lt Int32 _ y x then (some (.inl (some (.int y)), M)) else (some (.inl (some (.int x)), M)) := (lx_ev (d := d) (m := 133) (hs := []) 9 0 [.int x, .int y] [] M).symm
  have h0' : ev (d + 1) 133 0 [.int x, .int y] [] M = some z := h0
  rw [e9] at h0'
  refine ⟨x, y, rfl, ?_⟩
  by_cases hxy : y < x
  · rw [if_pos hxy] at h0'; cases h0'; rw [if_pos hxy]
  · rw [if_neg hxy] at h0'; cases h0'; rw [if_neg hxy]
theorem lt_cmp_neg {x y : Int64} : (lg_cmp x y < 0) ↔ x < y := by
  unfold lg_cmp
  simp only [gt_iff_lt, Int64.lt_iff_toInt_lt, ← Int64.toInt_inj]
  split
  · next h => exact ⟨fun e => absurd e (by decide), fun e => by omega⟩
  · split
    · next h => exact ⟨fun e => absurd e (by decide), fun e => by omega⟩
    · next h1 h2 => exact ⟨fun _ => by omega, fun _ => by decide⟩
set_option maxRecDepth 100000 in
set_option maxHeartbeats 4000000 in
theorem lt_m132 {d : Nat} {as : List Value} {M : LM} {z : LO × LM} (h : ev (d + 1) 132 0 (lt_sp 4 as) [] M = some z) (hl : as.length = 2) : ∃ x y : Int64, as = [.long x, .long y] ∧ z = (.inl (some (.long (if y < x then x else y))), M) := by
  have h0 := h
  rw [ev_step] at h
  have h1 : (lt_gl (lt_sp 4 as) 0 fun x => ev (d + 1) 132 1 (lt_sp 4 as) [.long x] M) = some z := h
  obtain ⟨x, e0, h2⟩ := lt_gl_inv h1
  rw [ev_step] at h2
  have h3 : (lt_gl (lt_sp 4 as) 2 fun y => ev (d + 1) 132 2 (lt_sp 4 as) [.long y, .long x] M) = some z := h2
  obtain ⟨y, e1, -⟩ := lt_gl_inv h3
  have has : as = [.long x, .long y] := lt_four e0 e1 hl
  subst has
  have e9 : ev (d + 1) 132 0 [.long x, lt_j, .long y, lt_j] [] M = if @LT.lt Int32 _ (lg_cmp x y) 0 then (some (.inl (some (.long y)), M)) else (some (.inl (some (.long x)), M)) := (lx_ev (d := d) (m := 132) (hs := []) 10 0 [.long x, lt_j, .long y, lt_j] [] M).symm
  have h0' : ev (d + 1) 132 0 [.long x, lt_j, .long y, lt_j] [] M = some z := h0
  rw [e9] at h0'
  refine ⟨x, y, rfl, ?_⟩
  by_cases hxy : x < y
  · rw [if_pos (lt_cmp_neg.mpr hxy)] at h0'
    cases h0'
    rw [if_neg (fun e => by rw [Int64.lt_iff_toInt_lt] at e hxy; omega)]
  · rw [if_neg (fun e => hxy (lt_cmp_neg.mp e))] at h0'
    cases h0'
    by_cases hyx : y < x
    · rw [if_pos hyx]
    · rw [if_neg hyx]
      have : x = y := by
        rw [← Int64.toInt_inj]
        rw [Int64.lt_iff_toInt_lt] at hxy hyx
        omega
      rw [this]
theorem lt_HM.of (d : Nat) : lt_HM (lt_call d) := fun as M z hl => by
  cases d with
  | zero => exact ⟨fun h => (by cases h), fun h => (by cases h), fun h => (by cases h)⟩
  | succ d => exact ⟨fun h => lt_m131 h hl, fun h => lt_m132 h hl, fun h => lt_m133 h hl⟩
/-- THE RUNS OF THE LITTLE MACHINE ARE RUNS OF THE MACHINE -/
theorem ev_ok {l : Launch} (hl : l.stackTraces = false) : ∀ (d : Nat) {m : Nat} {pc : Nat} {ls st : List Value} {M : LM} {z : LO × LM}, m < 150 → ev (d + 1) m pc ls st M = some z → lt_U l d m z pc ls st M
  | 0, m, pc, ls, st, M, z, hm, h => by
    obtain ⟨n, hn⟩ := ev_iff.mp h
    exact lt_it_ok hm (fun mi as M z _ _ _ h => by cases h) (lt_HM.of 0) n pc ls st M hn
  | d + 1, m, pc, ls, st, M, z, hm, h => by
    obtain ⟨n, hn⟩ := ev_iff.mp h
    exact lt_it_ok hm (fun mi as M z hmi hmath hw h => lt_met_of hl hmi hmath hw (ev_ok hl d (by omega) h)) (lt_HM.of (d + 1)) n pc ls st M hn
