/-! THE CLASS: Keys told anew, the Row -/
section Cg
variable {M : LM} {K s c w k o n : Nat} {x y z : Int32}
def pTell (M : LM) (s c w k : Nat) (x y z : Int32) : LM := wI (wI (wI M s k x) c k y) w k z
theorem s3_tell (d : Nat) (h : kA M K s c w) (hk : k < 26) : f_X3_tell (d + 2) M K (nI k) x y z = some (.inl (some (.int (mI M s k))), pTell M s c w k x y z) := by
  obtain ⟨h1, h2, h3, h4, h5, h6, h7⟩ := h
  rw [e_X3_tell, lt_ck_t h1, lt_rf_t h2, s10_at d h5 hk, lt_bi_r, lt_ck_t h1, lt_rf_t h2, s10_put d h5 hk, lt_bv_r]
  refine (lt_ck_t (M := wI M s k x) h1).trans ?_
  rw [lt_rf_t (show mP (wI M s k x) K 1 = some c from h3), s10_put (M := wI M s k x) d h6 hk, lt_bv_r]
  refine (lt_ck_t (M := wI (wI M s k x) c k y) h1).trans ?_
  rw [lt_rf_t (show mP (wI (wI M s k x) c k y) K 2 = some w from h4), s10_put (M := wI (wI M s k x) c k y) d h7 hk, lt_bv_r]
  rfl
/-- the row at the cells o .. o + 3 -/
def wA (M : LM) (o : Nat) : Prop := mK M o = 20 ∧ mP M o 0 = some (o + 1) ∧ mP M o 1 = some (o + 2) ∧ mP M o 2 = some (o + 3) ∧ aI M (o + 1) 300 ∧ aI M (o + 2) 300 ∧ aI M (o + 3) 300
def pAppend (M : LM) (o n : Nat) (x : Int32) (b : Bool) (z : Int32) : LM := wI (wI (wI (wI M (o + 1) n x) (o + 2) n (if b = true then 1 else 0)) (o + 3) n z) o 3 (nI (n + 1))
theorem c_min300 (d : Nat) (hn : n < 300) : f_J9_min_7cf53 (d + 1) M (nI n + 1) 300 = some (.inl (some (.int (nI (n + 1)))), M) := by
  have e : nI n + 1 = nI (n + 1) := lt_iA (j := n) (k := 1)
  rw [e_J9_min_7cf53, e, if_neg (fun q => by have := (lt_iL (j := 300) (k := n + 1) (by omega) (by omega)).mp q; omega)]
theorem c_append (d : Nat) (h : wA M o) (hl : mI M o 3 = nI n) (hn : n < 300) {b : Bool} : f_X4_append (d + 2) M o x (if b = true then 1 else 0) z = some (.inl none, pAppend M o n x b z) := by
  obtain ⟨h1, h2, h3, h4, h5, h6, h7⟩ := h
  have l1 : mI (wI M (o + 1) n x) o 3 = nI n := by rw [mI_wI_ne (by omega)]; exact hl
  have fin : ∀ v : Int32, (lt_bv (f_X10_put (d + 1) (wI M (o + 1) n x) (o + 2) (nI n) v) [] fun M4 => lt_ck M4 o 20 (lt_rf (mP M4 o 2) fun q5 => lt_ck M4 o 20 (lt_bv (f_X10_put (d + 1) M4 q5 (mI M4 o 3) z) [] fun M6 => lt_ck M6 o 20 (lt_bi (f_J9_min_7cf53 (d + 1) M6 ((mI M6 o 3) + 1) 300) [] fun v8 M7 => lt_ck M7 o 20 (lt_m (wI M7 o 3 v8) fun M9 => some (.inl none, M9)))))) =
      some (Sum.inl none, wI (wI (wI (wI M (o + 1) n x) (o + 2) n v) (o + 3) n z) o 3 (nI (n + 1))) := fun v => by
    have l2 : mI (wI (wI M (o + 1) n x) (o + 2) n v) o 3 = nI n := by rw [mI_wI_ne (by omega)]; exact l1
    have l3 : mI (wI (wI (wI M (o + 1) n x) (o + 2) n v) (o + 3) n z) o 3 = nI n := by rw [mI_wI_ne (by omega)]; exact l2
    rw [s10_put (M := wI M (o + 1) n x) d h6 hn, lt_bv_r]
    refine (lt_ck_t (M := wI (wI M (o + 1) n x) (o + 2) n v) h1).trans ?_
    rw [lt_rf_t (show mP (wI (wI M (o + 1) n x) (o + 2) n v) o 2 = some (o + 3) from h4)]
    refine (lt_ck_t (M := wI (wI M (o + 1) n x) (o + 2) n v) h1).trans ?_
    rw [l2, s10_put (M := wI (wI M (o + 1) n x) (o + 2) n v) d h7 hn, lt_bv_r]
    refine (lt_ck_t (M := wI (wI (wI M (o + 1) n x) (o + 2) n v) (o + 3) n z) h1).trans ?_
    rw [l3, c_min300 d hn, lt_bi_r]
    exact lt_ck_t (M := wI (wI (wI M (o + 1) n x) (o + 2) n v) (o + 3) n z) h1
  rw [e_X4_append, lt_ck_t h1, lt_rf_t h2, lt_ck_t h1, hl, s10_put d h5 hn, lt_bv_r]
  refine (lt_ck_t (M := wI M (o + 1) n x) h1).trans ?_
  rw [lt_rf_t (show mP (wI M (o + 1) n x) o 1 = some (o + 2) from h3)]
  refine (lt_ck_t (M := wI M (o + 1) n x) h1).trans ?_
  rw [l1]
  unfold pAppend
  cases b with
  | false =>
    rw [if_neg Bool.false_ne_true, if_pos rfl]
    exact fin 0
  | true =>
    rw [if_pos rfl, if_neg (by decide)]
    exact fin 1
end Cg
