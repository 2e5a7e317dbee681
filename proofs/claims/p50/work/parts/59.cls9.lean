/-! THE CLASS, what is asked of a row -/
def RW (M : LM) (R : Nat) : Prop := mK M R = 20 ∧ mP M R 0 = some (R + 1) ∧ mP M R 1 = some (R + 2) ∧ mP M R 2 = some (R + 3) ∧ aI M (R + 1) 300 ∧ aI M (R + 2) 300 ∧ aI M (R + 3) 300
def kTimes (g : Nat → Int32) (n : Nat) (x : Int32) : Nat → Int32 → Int32
  | 0, z => z
  | m + 1, z => kTimes g n x m (if g (n - (m + 1)) = x then z + 1 else z)
def RKm (M : LM) (R : Nat) (kf : Nat → Nat) (n : Nat) : Prop := ∀ i, i < n → kf i < 26 ∧ mI M (R + 1) i = nI (kf i)
def kPh (kf : Nat → Nat) (size : Int32) (t : Nat) : Nat → Int32 → Int32 → Int32
  | 0, many, _ => many
  | m + 1, many, set => if many = 0 ∨ size < pPop (set ||| bb (kf (t - (m + 1)))) then kPh kf size t m (many + 1) (bb (kf (t - (m + 1)))) else kPh kf size t m many (set ||| bb (kf (t - (m + 1))))
section Cv
variable {M : LM} {R i k m n t : Nat} {x size : Int32} {z : Option (LO × LM)} {kf : Nat → Nat}
theorem kTimes_s {g : Nat → Int32} {z : Int32} : kTimes g n x (m + 1) z = kTimes g n x m (if g (n - (m + 1)) = x then z + 1 else z) := rfl
theorem qDist_s {x j : Nat} {set : Int32} : qDist kf x (j + 1) set = if kf j = x then 1 + pPop set else qDist kf x j (set ||| bb (kf j)) := rfl
theorem kPh_s {many set : Int32} : kPh kf size t (m + 1) many set = if many = 0 ∨ size < pPop (set ||| bb (kf (t - (m + 1)))) then kPh kf size t m (many + 1) (bb (kf (t - (m + 1)))) else kPh kf size t m many (set ||| bb (kf (t - (m + 1)))) := rfl
theorem qPh_s {ph set : Int32} : qPh kf size t (m + 1) ph set = if size < pPop (set ||| bb (kf (t - m))) then qPh kf size t m (ph + 1) (bb (kf (t - m))) else qPh kf size t m ph (set ||| bb (kf (t - m))) := rfl
theorem w_ck (h : RW M R) : lt_ck M R 20 z = z := lt_ck_t h.1
theorem w_rd (h : RW M R) (hi : i < 300) : lt_ar M (R + 1) 1 (nI i) z = z := lt_ar_t h.2.2.2.2.1.1 (by rw [h.2.2.2.2.1.2.1]; exact lt_iI hi (by omega))
theorem w_al (h : RW M R) : lt_al M (R + 1) z = z := lt_al_t (by have := h.2.2.2.2.1.1; omega)
theorem w_times_4 (d : Nat) (h : RW M R) (hl : mI M R 3 = nI n) (hn : n ≤ 300) : ∀ (m : Nat) (z : Int32), m ≤ n → f_X4_timesAsked_4 (d + 1) M R x z (nI (n - m)) = some (.inl (some (.int (kTimes (mI M (R + 1)) n x m z))), M)
  | 0, z, _ => by
    have hlt : ¬ nI (n - 0) < mI M R 3 := by rw [hl, nI_ltP (by omega) (by omega)]; omega
    rw [e_X4_timesAsked_4, w_ck h, if_neg hlt]
    rfl
  | m + 1, z, hm => by
    have hlt : nI (n - (m + 1)) < mI M R 3 := by rw [hl, nI_ltP (by omega) (by omega)]; omega
    have hlt2 : nI (n - (m + 1)) < nI 300 := by rw [nI_ltP (by omega) (by omega)]; omega
    have g2 : nI (n - (m + 1)) + 1 = nI (n - m) := by
      rw [show nI (n - (m + 1)) + 1 = nI (n - (m + 1) + 1) from lt_iA (j := n - (m + 1)) (k := 1)]
      congr 1
      omega
    have ih := fun z => w_times_4 d h hl hn m z (by omega)
    rw [e_X4_timesAsked_4, w_ck h, if_pos hlt, w_ck h, h.2.1, x_rf, w_al h, h.2.2.2.2.1.2.1, if_pos hlt2, w_ck h, x_rf, w_rd h (by omega), lt_iN (by omega), g2, ih, ih]
    rw [kTimes_s]
    by_cases q : mI M (R + 1) (n - (m + 1)) = x
    · rw [if_pos q, if_pos q]
    · rw [if_neg q, if_neg q]
theorem w_timesAsked (d : Nat) (h : RW M R) (hl : mI M R 3 = nI n) (hn : n ≤ 300) : f_X4_timesAsked (d + 1) M R x = some (.inl (some (.int (kTimes (mI M (R + 1)) n x n 0))), M) := by
  have := w_times_4 (x := x) d h hl hn n 0 (Nat.le_refl _)
  rw [Nat.sub_self] at this
  rw [e_X4_timesAsked]
  exact this
theorem w_at (d : Nat) (h : RW M R) (hi : i < 300) : f_X10_at (d + 1) M (R + 1) (nI i) = some (.inl (some (.int (mI M (R + 1) i))), M) := s10_at d h.2.2.2.2.1 hi
theorem w_dist_16 (d : Nat) (h : RW M R) (hr : RKm M R kf n) (hn : n ≤ 300) (hi : i < n) : ∀ (j : Nat) (set : Int32), j ≤ i → f_X4_distanceOf_16 (d + 2) M R (nI (kf i)) set (nI j + -1) = some (.inl (some (.int (qDist kf (kf i) j set))), M)
  | 0, set, _ => by
    rw [e_X4_distanceOf_16, if_pos (show nI 0 + -1 < 0 by decide)]
    rfl
  | j + 1, set, hj => by
    have e : nI (j + 1) + -1 = nI j := by
      rw [← Int32.sub_eq_add_neg]
      exact lt_sub1
    have hlt : ¬ nI j < 0 := lt_neg (by omega)
    have ih := fun set => w_dist_16 d h hr hn hi j set (by omega)
    obtain ⟨a1, a2⟩ := hr j (by omega)
    rw [e, e_X4_distanceOf_16, if_neg hlt, w_ck h, h.2.1, x_rf, w_at d h (by omega), lt_bi_r, a2, c_pop, lt_bi_r, s10_bit d a1, lt_bi_r, ih]
    rw [qDist_s]
    have hi26 := (hr i hi).1
    by_cases q : kf j = kf i
    · rw [if_pos (by rw [q]), if_pos q]
    · rw [if_neg (fun e => q ((lt_iE (by omega) (by omega)).mp e)), if_neg q]
theorem w_distanceOf (d : Nat) (h : RW M R) (hr : RKm M R kf n) (hn : n ≤ 300) (hi : i < n) : f_X4_distanceOf (d + 2) M R (nI i) = some (.inl (some (.int (qDist kf (kf i) i 0))), M) := by
  have := w_dist_16 d h hr hn hi i 0 (Nat.le_refl _)
  rw [e_X4_distanceOf, w_ck h, h.2.1, x_rf, w_at d h (by omega), lt_bi_r, (hr i hi).2, Int32.sub_eq_add_neg]
  exact this
theorem w_ph_8 (d : Nat) (h : RW M R) (hr : RKm M R kf n) (hn : n ≤ 300) {t : Nat} (ht : t ≤ n) : ∀ (m : Nat) (many set : Int32), m ≤ t → f_X4_phasesUpTo_8 (d + 2) M R size (nI t) many set (nI (t - m)) = some (.inl (some (.int (kPh kf size t m many set))), M)
  | 0, many, set, _ => by
    have hlt : ¬ nI (t - 0) < nI t := by rw [nI_ltP (by omega) (by omega)]; omega
    rw [e_X4_phasesUpTo_8, if_neg hlt]
    rfl
  | m + 1, many, set, hm => by
    have hlt : nI (t - (m + 1)) < nI t := by rw [nI_ltP (by omega) (by omega)]; omega
    have hlt2 : nI (t - (m + 1)) < nI 300 := by rw [nI_ltP (by omega) (by omega)]; omega
    have g2 : nI (t - (m + 1)) + 1 = nI (t - m) := by
      rw [show nI (t - (m + 1)) + 1 = nI (t - (m + 1) + 1) from lt_iA (j := t - (m + 1)) (k := 1)]
      congr 1
      omega
    have ih := fun many set => w_ph_8 d h hr hn ht m many set (by omega)
    obtain ⟨a1, a2⟩ := hr (t - (m + 1)) (by omega)
    have e52 : f_X4_phasesUpTo_52 (d + 2) M R size (nI t) many (nI (t - (m + 1))) (set ||| bb (kf (t - (m + 1)))) = some (.inl (some (.int (kPh kf size t m (many + 1) (bb (kf (t - (m + 1))))))), M) := by
      rw [e_X4_phasesUpTo_52, e_X4_phasesUpTo_57, if_neg (by decide), w_ck h, h.2.1, x_rf, w_rd h (by omega), lt_iN (by omega), a2, s10_bit d a1, lt_bi_r, if_neg (by decide), g2, ih]
    rw [e_X4_phasesUpTo_8, if_pos hlt, w_ck h, h.2.1, x_rf, w_al h, h.2.2.2.2.1.2.1, if_pos hlt2, w_ck h, x_rf, w_rd h (by omega), lt_iN (by omega), a2, s10_bit d a1, lt_bi_r, c_pop, lt_bi_r, e52, e_X4_phasesUpTo_57, if_pos rfl, if_pos rfl, g2, Int32.add_zero, ih]
    rw [kPh_s]
    by_cases q : many = 0
    · rw [if_pos q, if_pos (Or.inl q)]
    · rw [if_neg q]
      by_cases q2 : size < pPop (set ||| bb (kf (t - (m + 1))))
      · rw [if_pos q2, if_pos (Or.inr q2)]
      · rw [if_neg q2, if_neg (fun e => e.elim q q2)]
theorem w_phases (d : Nat) (h : RW M R) (hr : RKm M R kf n) (hn : n ≤ 300) (ht : t ≤ n) : f_X4_phasesUpTo (d + 2) M R size (nI t) = some (.inl (some (.int (kPh kf size t t 0 0))), M) := by
  have := w_ph_8 (size := size) d h hr hn ht t 0 0 (Nat.le_refl _)
  rw [Nat.sub_self] at this
  rw [e_X4_phasesUpTo]
  exact this
/-- as the reference counts phases -/
theorem kPh_q {t : Nat} : ∀ (m : Nat) (ph set : Int32), m ≤ t + 1 → ph + 1 ≠ 0 → (∀ j, j < m → ph + nI j + 1 + 1 ≠ 0) → kPh kf size (t + 1) m (ph + 1) set = qPh kf size t m ph set + 1
  | 0, ph, set, _, _, _ => rfl
  | m + 1, ph, set, hm, h0, hj => by
    rw [kPh_s, qPh_s, show t + 1 - (m + 1) = t - m by omega]
    by_cases q2 : size < pPop (set ||| bb (kf (t - m)))
    · rw [if_pos (Or.inr q2), if_pos q2]
      exact kPh_q m (ph + 1) _ (by omega) (by have := hj 0 (by omega); rwa [show nI 0 = 0 from rfl, Int32.add_zero] at this) (fun j hjm => by
        have := hj (j + 1) (by omega)
        rw [show nI (j + 1) = nI j + 1 from (lt_iA (j := j) (k := 1)).symm] at this
        rw [show ph + 1 + nI j = ph + (nI j + 1) by rw [Int32.add_assoc, Int32.add_comm 1]]
        exact this)
    · rw [if_neg (fun e => e.elim h0 q2), if_neg q2]
      exact kPh_q m ph _ (by omega) h0 (fun j hjm => hj j (by omega))
end Cv
