/-! QUESTIONS of the row: distances, phases, hits by all sizes, the best -/
section Vf
variable {M M' M1 N : LM} {B D P U i j k t w f n c e r a o : Nat} {x y v b1 b2 rule : Int32} {z : Option (LO × LM)} {K : LM → Option (LO × LM)} {b : Bool} {T T' T2 : BT} {R : Nat → BT} {S S' : CS} {kf fs W : Nat → Nat} {Z Z' : CS}
theorem SO_RK (h : SO M T R c) (v : VL kf fs W n T) : RKm M 8 kf n := fun i hi => ⟨(v.1 i hi).1, ((h.2.1.2.2.2.1 i (by have := v.2.2.1; omega)).1).trans (v.1 i hi).2⟩
/-- the study's cells are the class's own -/
theorem SO_st (h : SO M T R c) : SO (gM M 112 5 Z) T R c ∧ FR M (gM M 112 5 Z) := by
  have o : ∀ a, a < 112 ∨ 117 ≤ a → mI (gM M 112 5 Z) a = mI M a ∧ mL (gM M 112 5 Z) a = mL M a := fun a ha => ⟨gIo (by omega), gLo (by omega)⟩
  refine ⟨SO_cg h rfl (h.2.1.tr (tB_o fun a h1 h2 => o a (by omega))) (fun j _ => by rw [(o 2 (by omega)).1]) (fun a ha => o a (by omega)), FR_of rfl fun a ho => o a ?_⟩
  by_cases q : a < 112 ∨ 117 ≤ a
  · exact q
  · exact absurd (OWN_lo (M := M) (a := a) (by omega) (by omega)) ho
theorem SO_sh (h : SO M T R c) : SO (gM M 117 7 Z) T R c ∧ FR M (gM M 117 7 Z) := by
  have o : ∀ a, a < 117 ∨ 124 ≤ a → mI (gM M 117 7 Z) a = mI M a ∧ mL (gM M 117 7 Z) a = mL M a := fun a ha => ⟨gIo (by omega), gLo (by omega)⟩
  refine ⟨SO_cg h rfl (h.2.1.tr (tB_o fun a h1 h2 => o a (by omega))) (fun j _ => by rw [(o 2 (by omega)).1]) (fun a ha => o a (by omega)), FR_of rfl fun a ho => o a ?_⟩
  by_cases q : a < 117 ∨ 124 ≤ a
  · exact q
  · exact absurd (OWN_lo (M := M) (a := a) (by omega) (by omega)) ho
theorem t_ckS (h : CSK M) : lt_ck M 112 23 z = z := lt_ck_t (t_s h).1
theorem st_id : gM M 112 5 (tG M 112) = M := gM_id
theorem q_hitsBy (d : Nat) (h : SO M T R c) (v : VL kf fs W n T) : ∃ Z', f_X7_hitsBy (d + 11) M 112 8 rule x = some (.inl (some (.int (kHits kf n rule x))), gM M 112 5 Z') := by
  obtain ⟨Z', -, e⟩ := st_hitsBy (M := M) (U := 112) (R := 8) (Z := tG M 112) (rule := rule) (size := x) (d + 6) (t_s h.1) (t_RW h.1) (by omega) (SO_RK h v) v.2.2.1 (SO_len h v)
  rw [st_id] at e
  exact ⟨Z', e⟩
theorem q_hits (d : Nat) (h : SO M T R c) (v : VL kf fs W n T) (hr : qIn rule (-1) 2 = true) (hx : qIn x 1 26 = true) : ∃ M', f_X10_hits (d + 12) M 2 rule x = some (.inl (some (.int (kHits kf n rule x))), M') ∧ SO M' T R c ∧ FR M M' := by
  have hk0 := h.1
  obtain ⟨Z', e⟩ := q_hitsBy (rule := rule) (x := x) d h v
  have r0 : f_X10_checkStudyRule (d + 11) M rule = _ := z_study (d + 10)
  have r1 : f_X10_checkRange (d + 11) M x 1 26 = _ := z_range (d + 10)
  refine ⟨_, ?_, SO_st (Z := Z') h⟩
  rw [e_X10_hits, r0, bv_if, if_pos hr, r1, bv_if, if_pos hx, t_ck hk0, t_p6 hk0, x_rf, t_ck hk0, t_p0 hk0, x_rf, t_ckB hk0, t_B1 hk0, x_rf, t_ckS hk0, e, lt_bi_r]
theorem q_holdsAfter (d : Nat) (h : SO M T R c) (v : VL kf fs W n T) (hr : qIn rule (-1) 2 = true) (hx : qIn x 1 26 = true) (ht : t ≤ n) (hk : k < 26) : ∃ M', f_X10_holdsAfter (d + 12) M 2 rule x (nI t) (nI k) = some (.inl (some (.int (bI (bt (sPlay rule x kf n t).1 k)))), M') ∧ SO M' T R c ∧ FR M M' := by
  have hk0 := h.1
  have hn := v.2.2.1
  obtain ⟨Z', hz, e⟩ := st_feed (M := M) (U := 112) (R := 8) (Z := tG M 112) (rule := rule) (size := x) (t := t) (d + 7) (t_s h.1) (t_RW h.1) (by omega) (SO_RK h v) v.2.2.1 (SO_len h v) ht
  rw [st_id] at e
  have e' : f_X7_feed (d + 11) M 112 8 rule x (nI t) = _ := e
  have r0 : f_X10_checkStudyRule (d + 11) M rule = _ := z_study (d + 10)
  have r1 : ∀ a b e : Int32, f_X10_checkRange (d + 11) M a b e = _ := fun a b e => z_range (d + 10)
  have r2 : f_X10_checkKey (d + 11) M (nI k) = _ := z_key (d + 10)
  have hg : CSK (gM M 112 5 Z') := (SO_st (Z := Z') h).1.1
  have eh : ∀ x, f_X10_has (d + 11) (gM M 112 5 Z') x (nI k) = some (.inl (some (.int (bI (bt x k)))), gM M 112 5 Z') := fun x => s10_has (d + 10) hk
  have e0 : mI (gM M 112 5 Z') 112 0 = (sPlay rule x kf n t).1 := (congrFun (gI0 (by omega)) 0).trans hz.1
  refine ⟨_, ?_, SO_st (Z := Z') h⟩
  rw [e_X10_holdsAfter, r2, bv_if, if_pos (qIn_ky hk), r0, bv_if, if_pos hr, r1, bv_if, if_pos hx, t_ck hk0, t_p0 hk0, x_rf, t_ckB hk0, t_B1 hk0, x_rf, t_ckR hk0, SO_len h v, r1, bv_if, if_pos (show qIn (nI t) 0 (nI n) = true from qIn_n (lo := 0) (hi := n) (by omega) ht (by omega)),
    t_ck hk0, t_p6 hk0, x_rf, t_ck hk0, t_p0 hk0, x_rf, t_ckB hk0, t_B1 hk0, x_rf, t_ckS hk0, e', lt_bv_r, t_ck hg, t_p6 hg, x_rf, t_ckS hg, eh, lt_bi_r, e0, lt_b1_I]
theorem q_bestVictim (d : Nat) (h : SO M T R c) (v : VL kf fs W n T) (hx : qIn x 1 26 = true) (ht : t < n) : ∃ M', f_X10_bestVictim (d + 12) M 2 x (nI t) = some (.inl (some (.int (oI (sPlay (-1) x kf n (t + 1)).2.1))), M') ∧ SO M' T R c ∧ FR M M' := by
  have hk0 := h.1
  have hn := v.2.2.1
  obtain ⟨Z', hz, e⟩ := st_feed (M := M) (U := 112) (R := 8) (Z := tG M 112) (rule := -1) (size := x) (t := t + 1) (d + 7) (t_s h.1) (t_RW h.1) (by omega) (SO_RK h v) v.2.2.1 (SO_len h v) (by omega)
  rw [st_id] at e
  have e' : f_X7_feed (d + 11) M 112 8 (-1) x (nI (t + 1)) = _ := e
  have e1 : nI t + 1 = nI (t + 1) := lt_iA (j := t) (k := 1)
  have r0 : f_X10_checkRequest (d + 11) M 2 (nI t) = _ := z_req (d + 10) hk0 (SO_len h v) hn
  have r1 : f_X10_checkRange (d + 11) M x 1 26 = _ := z_range (d + 10)
  have hg : CSK (gM M 112 5 Z') := (SO_st (Z := Z') h).1.1
  have em : nI n - 1 = nI (n - 1) := nI_sub (b := 1) (by omega)
  have e0 : mI (gM M 112 5 Z') 112 1 = oI (sPlay (-1) x kf n (t + 1)).2.1 := (congrFun (gI0 (by omega)) 1).trans hz.2.1
  refine ⟨_, ?_, SO_st (Z := Z') h⟩
  rw [e_X10_bestVictim, t_ck hk0, r0, bv_if, em, if_pos (show qIn (nI t) 0 (nI (n - 1)) = true from qIn_n (lo := 0) (hi := n - 1) (by omega) (by omega) (by omega)), r1, bv_if, if_pos hx, t_ck hk0, t_p6 hk0, x_rf, t_ck hk0, t_p0 hk0, x_rf, t_ckB hk0, t_B1 hk0, x_rf, t_ckS hk0, e1, e', lt_bv_r, t_ck hg, t_p6 hg, x_rf, t_ckS hg, e0]
theorem q_distance (d : Nat) (h : SO M T R c) (v : VL kf fs W n T) (hi : i < n) : f_X10_distance (d + 12) M 2 (nI i) = some (.inl (some (.int (qDist kf (kf i) i 0))), M) := by
  have hk0 := h.1
  have hn := v.2.2.1
  have r0 : f_X10_checkRequest (d + 11) M 2 (nI i) = _ := z_req (d + 10) hk0 (SO_len h v) hn
  have em : nI n - 1 = nI (n - 1) := nI_sub (b := 1) (by omega)
  have ed : f_X4_distanceOf (d + 11) M 8 (nI i) = _ := w_distanceOf (d + 9) (t_RW hk0) (SO_RK h v) hn hi
  rw [e_X10_distance, t_ck hk0, r0, bv_if, em, if_pos (show qIn (nI i) 0 (nI (n - 1)) = true from qIn_n (lo := 0) (hi := n - 1) (by omega) (by omega) (by omega)), t_ck hk0, t_p0 hk0, x_rf, t_ckB hk0, t_B1 hk0, x_rf, t_ckR hk0, ed, lt_bi_r]
theorem q_phases (d : Nat) (h : SO M T R c) (v : VL kf fs W n T) (hx : qIn x 1 26 = true) : f_X10_phases (d + 12) M 2 x = some (.inl (some (.int (kPh kf x n n 0 0))), M) := by
  have hk0 := h.1
  have hn := v.2.2.1
  have r1 : f_X10_checkRange (d + 11) M x 1 26 = _ := z_range (d + 10)
  have ed : f_X4_phasesUpTo (d + 11) M 8 x (nI n) = _ := w_phases (d + 9) (t_RW hk0) (SO_RK h v) hn (Nat.le_refl _)
  rw [e_X10_phases, r1, bv_if, if_pos hx, t_ck hk0, t_p0 hk0, x_rf, t_ckB hk0, t_B1 hk0, x_rf, t_ck hk0, x_rf, t_ckB hk0, t_B1 hk0, x_rf, t_ckR hk0, t_ckR hk0, SO_len h v, ed, lt_bi_r]
theorem q_phaseOf (d : Nat) (h : SO M T R c) (v : VL kf fs W n T) (hx : qIn x 1 26 = true) (ht : t < n) : f_X10_phaseOf (d + 12) M 2 x (nI t) = some (.inl (some (.int (kPh kf x (t + 1) (t + 1) 0 0 - 1))), M) := by
  have hk0 := h.1
  have hn := v.2.2.1
  have e1 : nI t + 1 = nI (t + 1) := lt_iA (j := t) (k := 1)
  have r0 : f_X10_checkRequest (d + 11) M 2 (nI t) = _ := z_req (d + 10) hk0 (SO_len h v) hn
  have em : nI n - 1 = nI (n - 1) := nI_sub (b := 1) (by omega)
  have r1 : f_X10_checkRange (d + 11) M x 1 26 = _ := z_range (d + 10)
  have ed : f_X4_phasesUpTo (d + 11) M 8 x (nI (t + 1)) = _ := w_phases (d + 9) (t_RW hk0) (SO_RK h v) hn (by omega)
  rw [e_X10_phaseOf, t_ck hk0, r0, bv_if, em, if_pos (show qIn (nI t) 0 (nI (n - 1)) = true from qIn_n (lo := 0) (hi := n - 1) (by omega) (by omega) (by omega)), r1, bv_if, if_pos hx, t_ck hk0, t_p0 hk0, x_rf, t_ckB hk0, t_B1 hk0, x_rf, t_ckR hk0, e1, ed, lt_bi_r]
theorem q_slack (d : Nat) (h : SO M T R c) (v : VL kf fs W n T) {p q : Nat} (h1 : 1 ≤ q) (h2 : q ≤ p) (h3 : p ≤ 26) : ∃ M', f_X10_slack (d + 12) M 2 (nI p) (nI q) = some (.inl (some (.int (((nI p * (nI n - kHits kf n (-1) (nI q))) + ((nI p - nI q) + 1) * nI q) - ((nI p - nI q) + 1) * (nI n - kHits kf n 0 (nI p))))), M') ∧ SO M' T R c ∧ FR M M' := by
  have hk0 := h.1
  obtain ⟨Z1, e1⟩ := q_hitsBy (rule := 0) (x := nI p) d h v
  obtain ⟨g1, g2⟩ := SO_st (Z := Z1) h
  have hk1 := g1.1
  obtain ⟨Z2, e2⟩ := q_hitsBy (rule := -1) (x := nI q) d g1 v
  obtain ⟨g3, g4⟩ := SO_st (Z := Z2) g1
  have hk2 := g3.1
  have r1 : ∀ a b e : Int32, f_X10_checkRange (d + 11) M a b e = _ := fun a b e => z_range (d + 10)
  refine ⟨_, ?_, g3, g2.tr g4⟩
  rw [e_X10_slack, r1, bv_if, if_pos (show qIn (nI p) 1 26 = true from qIn_n (lo := 1) (hi := 26) (by omega) h3 (by omega)), r1, bv_if, if_pos (show qIn (nI q) 1 (nI p) = true from qIn_n (lo := 1) (hi := p) h1 h2 (by omega)), t_ck hk0, t_p0 hk0, x_rf, t_ckB hk0, t_B1 hk0, x_rf, t_ckR hk0, t_ck hk0, t_p6 hk0, x_rf, t_ck hk0, x_rf, t_ckB hk0, t_B1 hk0, x_rf, t_ckS hk0, e1, lt_bi_r,
    t_ck hk1, t_p0 hk1, x_rf, t_ckB hk1, t_B1 hk1, x_rf, t_ckR hk1, t_ck hk1, t_p6 hk1, x_rf, t_ck hk1, x_rf, t_ckB hk1, t_B1 hk1, x_rf, t_ckS hk1, e2, lt_bi_r, SO_len g1 v, SO_len h v]
theorem q_errors (d : Nat) (h : SO M T R c) (v : VL kf fs W n T) : ∃ M', f_X10_errors (d + 12) M 2 = some (.inl (some (.int 0)), M') ∧ SO M' T R c ∧ FR M M' := by
  have hk0 := h.1
  have hkf : ∀ i, i < n → kf i < 26 := fun i hi => (v.1 i hi).1
  obtain ⟨Z', e⟩ := st_brokenSizes (M := M) (U := 112) (R := 8) (Z := tG M 112) (d + 5) (t_s h.1) (t_RW h.1) (by omega) (SO_RK h v) v.2.2.1 (SO_len h v)
  rw [st_id, errs_none v.2.2.1 hkf] at e
  have e' : f_X7_brokenSizes (d + 11) M 112 8 = _ := e
  refine ⟨_, ?_, SO_st (Z := Z') h⟩
  rw [e_X10_errors, t_ck hk0, t_p6 hk0, x_rf, t_ck hk0, t_p0 hk0, x_rf, t_ckB hk0, t_B1 hk0, x_rf, t_ckS hk0, e', lt_bi_r]
end Vf
