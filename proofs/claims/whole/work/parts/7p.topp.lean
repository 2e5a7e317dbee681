/-! THE LAW: its objects made -/
section Uz
variable {M M' M1 M2 N : LM} {L i j m A t u c s : Nat} {xs : Nat → Int32} {code v : Int32} {z K K' : Option (LO × LM)} {Wb : NW} {V : Nat → Nat → Int32}
theorem cls_b (h1 : 1 ≤ t) (h2 : t ≤ 100) : (clsW A Wb).1 t = Wb.1 (t - 1) ∧ (clsW A Wb).2.1 t = Wb.2.1 (t - 1) ∧ (clsW A Wb).2.2.1 t = Wb.2.2.1 (t - 1) ∧ (clsW A Wb).2.2.2.1 t = Wb.2.2.2.1 (t - 1) ∧ (clsW A Wb).2.2.2.2 t = Wb.2.2.2.2 (t - 1) := by
  have a1 : t < 115 := by omega
  have a2 : t < 110 := by omega
  have a3 : t < 104 := by omega
  have a4 : t < 102 := by omega
  have a5 : t ≠ 101 := by omega
  have a6 : ¬ t < 1 := by omega
  have a7 : t ≠ 0 := by omega
  refine ⟨?_, ?_, funext fun j => ?_, ?_, ?_⟩ <;> simp [clsW, nP, nCat, nNew, u1, u2, a1, a2, a3, a4, a5, a6, a7]
theorem cls_q (h : u < 2) : (clsW A Wb).1 (102 + u) = (q0Blk (A + 102)).1 u ∧ (clsW A Wb).2.2.1 (102 + u) = (q0Blk (A + 102)).2.2.1 u ∧ (clsW A Wb).2.2.2.1 (102 + u) = (q0Blk (A + 102)).2.2.2.1 u ∧ (clsW A Wb).2.2.2.2 (102 + u) = (q0Blk (A + 102)).2.2.2.2 u := by
  have a1 : 102 + u < 115 := by omega
  have a2 : 102 + u < 110 := by omega
  have a3 : 102 + u < 104 := by omega
  have b1 : ¬ 102 + u < 102 := by omega
  have b2 : 102 + u - 102 = u := by omega
  have b3 : 102 + u ≠ 0 := by omega
  refine ⟨?_, funext fun j => ?_, ?_, ?_⟩ <;> simp [clsW, nP, nCat, nNew, u1, u2, a1, a2, a3, b1, b2, b3]
theorem cls_x (h : u < 6) : (clsW A Wb).1 (104 + u) = (x0Blk (A + 104)).1 u ∧ (clsW A Wb).2.2.1 (104 + u) = (x0Blk (A + 104)).2.2.1 u ∧ (clsW A Wb).2.2.2.1 (104 + u) = (x0Blk (A + 104)).2.2.2.1 u ∧ (clsW A Wb).2.2.2.2 (104 + u) = (x0Blk (A + 104)).2.2.2.2 u := by
  have a1 : 104 + u < 115 := by omega
  have a2 : 104 + u < 110 := by omega
  have b1 : ¬ 104 + u < 104 := by omega
  have b2 : 104 + u - 104 = u := by omega
  have b3 : 104 + u ≠ 0 := by omega
  refine ⟨?_, funext fun j => ?_, ?_, ?_⟩ <;> simp [clsW, nP, nCat, nNew, u1, u2, a1, a2, b1, b2, b3]
theorem cls_s (h : u < 5) : (clsW A Wb).1 (110 + u) = (s0Blk (A + 110)).1 u ∧ (clsW A Wb).2.2.1 (110 + u) = (s0Blk (A + 110)).2.2.1 u ∧ (clsW A Wb).2.2.2.1 (110 + u) = (s0Blk (A + 110)).2.2.2.1 u ∧ (clsW A Wb).2.2.2.2 (110 + u) = (s0Blk (A + 110)).2.2.2.2 u := by
  have a1 : 110 + u < 115 := by omega
  have b1 : ¬ 110 + u < 110 := by omega
  have b2 : 110 + u - 110 = u := by omega
  have b3 : 110 + u ≠ 0 := by omega
  refine ⟨?_, funext fun j => ?_, ?_, ?_⟩ <;> simp [clsW, nP, nCat, nNew, u1, u2, a1, b1, b2, b3]
theorem cls_h (h : u < 7) : (clsW A Wb).1 (115 + u) = (h0Blk (A + 115)).1 u ∧ (clsW A Wb).2.2.1 (115 + u) = (h0Blk (A + 115)).2.2.1 u ∧ (clsW A Wb).2.2.2.1 (115 + u) = (h0Blk (A + 115)).2.2.2.1 u ∧ (clsW A Wb).2.2.2.2 (115 + u) = (h0Blk (A + 115)).2.2.2.2 u := by
  have b1 : ¬ 115 + u < 115 := by omega
  have b2 : 115 + u - 115 = u := by omega
  have b3 : 115 + u ≠ 0 := by omega
  refine ⟨?_, funext fun j => ?_, ?_, ?_⟩ <;> simp [clsW, nP, nCat, nNew, u1, u2, b1, b2, b3]
theorem cls_0 : (clsW A Wb).1 0 = (fun _ => 0) ∧ (clsW A Wb).2.2.1 0 0 = some (A + 1) ∧ (clsW A Wb).2.2.1 0 1 = some (A + 101) ∧ (clsW A Wb).2.2.1 0 4 = some (A + 102) ∧ (clsW A Wb).2.2.1 0 5 = some (A + 104) ∧ (clsW A Wb).2.2.1 0 6 = some (A + 110) ∧ (clsW A Wb).2.2.1 0 7 = some (A + 115) ∧ (clsW A Wb).2.2.2.1 0 = 26 := by
  refine ⟨?_, ?_, ?_, ?_, ?_, ?_, ?_, ?_⟩ <;> simp [clsW, nP, nCat, nNew, n0, u1, u2]
theorem cls_101 : (clsW A Wb).2.2.1 101 = (fun _ => none) ∧ (clsW A Wb).2.2.2.1 101 = 5 ∧ (clsW A Wb).2.2.2.2 101 = 6 := by
  refine ⟨funext fun j => ?_, ?_, ?_⟩ <;> simp [clsW, nP, nCat, nNew, n0, u1, u2]
/-! ### the units as they are set up -/
theorem qES_o {a b l' m' fed : Int32} {c u : Nat} (h1 : u ≠ c) (h2 : u ≠ 6 + 2 * c) (h3 : u ≠ 7 + 2 * c) : qEmptyC (qSetUp V c a b l' m') c fed u = V u := by
  refine (if_neg (by omega)).trans ?_
  funext w
  unfold qSetUp
  rw [if_neg h1, if_neg h2, if_neg h3]
theorem vUp_u {fed : Int32} : ∀ (m : Nat) (V : Nat → Nat → Int32), m ≤ 6 → ∀ c, c < 6 → (c < 6 - m → vUp fed m V c = V c ∧ vUp fed m V (6 + 2 * c) = V (6 + 2 * c) ∧ vUp fed m V (7 + 2 * c) = V (7 + 2 * c)) ∧
    (6 - m ≤ c → vUp fed m V c = qEmpty (qSetUp V c (rl c) 4 0 0 c) fed ∧ vUp fed m V (6 + 2 * c) = qEmpty (qSetUp V c (rl c) 4 0 0 (6 + 2 * c)) fed ∧ vUp fed m V (7 + 2 * c) = qEmpty (qSetUp V c (rl c) 4 0 0 (7 + 2 * c)) fed)
  | 0, V, _, c, hc => ⟨fun _ => ⟨rfl, rfl, rfl⟩, fun h => by omega⟩
  | m + 1, V, hm, c, hc => by
    obtain ⟨i1, i2⟩ := vUp_u m (qEmptyC (qSetUp V (5 - m) (rl (5 - m)) 4 0 0) (5 - m) fed) (by omega) c hc
    refine ⟨fun h => ?_, fun h => ?_⟩
    · obtain ⟨a1, a2, a3⟩ := i1 (by omega)
      exact ⟨a1.trans (qES_o (by omega) (by omega) (by omega)), a2.trans (qES_o (by omega) (by omega) (by omega)), a3.trans (qES_o (by omega) (by omega) (by omega))⟩
    · by_cases q : c = 5 - m
      · obtain ⟨a1, a2, a3⟩ := i1 (by omega)
        subst q
        exact ⟨a1.trans (if_pos (Or.inl rfl)), a2.trans (if_pos (Or.inr (Or.inl rfl))), a3.trans (if_pos (Or.inr (Or.inr rfl)))⟩
      · obtain ⟨a1, a2, a3⟩ := i2 (by omega)
        have e : ∀ u, u = c ∨ u = 6 + 2 * c ∨ u = 7 + 2 * c → qSetUp (qEmptyC (qSetUp V (5 - m) (rl (5 - m)) 4 0 0) (5 - m) fed) c (rl c) 4 0 0 u = qSetUp V c (rl c) 4 0 0 u := fun u hu => by
          funext w
          unfold qSetUp
          rw [show qEmptyC (fun u w => if u = 5 - m then (if w = 0 then rl (5 - m) else if w = 1 then 4 else if w = 2 then 0 else if w = 3 then 0 else if 4 ≤ w ∧ w < 9 then 0 else V u w) else if u = 6 + 2 * (5 - m) then (if w = 0 then 0 else if w = 1 then 4 else V u w) else if u = 7 + 2 * (5 - m) then (if w = 0 then 1 else if w = 1 then 4 else V u w) else V u w) (5 - m) fed u = V u from qES_o (by omega) (by omega) (by omega)]
        exact ⟨a1.trans (by rw [e c (Or.inl rfl)]), a2.trans (by rw [e _ (Or.inr (Or.inl rfl))]), a3.trans (by rw [e _ (Or.inr (Or.inr rfl))])⟩
theorem rl_ok (h : i < 6) : ∃ r, r < 7 ∧ rl i = nI r := by
  unfold rl
  by_cases q : i < 5
  · exact ⟨i, by omega, if_pos q⟩
  · exact ⟨6, by omega, if_neg q⟩
theorem RB_new : RB (fun _ => 0) (fun _ => 0) (fun _ => 0) 0 bFresh (h0At 0) (vUp 0 6 (fun _ _ => 0)) := by
  refine ⟨by omega, rfl, rfl, rfl, fun k hk => ⟨⟨1, by omega, by omega, ?_, ?_⟩, ⟨1, by omega, ?_, ?_⟩, (show (0 : Nat) < 4 by omega), rfl, ?_⟩, fun i hi => by omega, fun c _ => ⟨rfl, rfl⟩, fun c hc => ?_⟩
  · show (if k < 26 then (1 : Int32) else 0) = 1
    exact if_pos hk
  · show (if (2 ≤ 2 + k ∧ 2 + k < 28 - 0) ∨ (28 ≤ 2 + k ∧ 2 + k < 54 - 0) then (1 : Int32) else 0) = 1
    exact if_pos (by omega)
  · show (if k < 26 then (1 : Int32) else 0) = 1
    exact if_pos hk
  · show (if (2 ≤ 28 + k ∧ 28 + k < 28 - 0) ∨ (28 ≤ 28 + k ∧ 28 + k < 54 - 0) then (1 : Int32) else 0) = 1
    exact if_pos (by omega)
  · show (if (2 ≤ 54 + k ∧ 54 + k < 28 - 0) ∨ (28 ≤ 54 + k ∧ 54 + k < 54 - 0) then (1 : Int32) else 0) = 0
    exact if_neg (by omega)
  · obtain ⟨a1, a2, a3⟩ := (vUp_u (fed := 0) 6 (fun _ _ => 0) (Nat.le_refl _) c hc).2 (by omega)
    obtain ⟨r, r1, r2⟩ := rl_ok hc
    rw [a1, a2, a3]
    have u0 : ∀ w, qSetUp (fun _ _ => 0) c (rl c) 4 0 0 c w = if w = 0 then rl c else if w = 1 then 4 else 0 := fun w => by
      unfold qSetUp
      rw [if_pos rfl]
      by_cases q0 : w = 0
      · rw [if_pos q0, if_pos q0]
      · rw [if_neg q0, if_neg q0]
        by_cases q1 : w = 1
        · rw [if_pos q1, if_pos q1]
        · rw [if_neg q1, if_neg q1]
          repeat' split
          all_goals rfl
    refine RC_empty (kf := fun _ => 0) (n := 0) (S := kSetUp c00 (rl c) 4 0 0) ⟨fun j hj => ?_, fun j hj => ?_, ?_, ⟨r, r1, ?_⟩, ⟨4, by omega, by omega, ?_⟩, ⟨0, by omega, ?_⟩⟩ (by omega) ⟨?_, ?_, ?_, ?_⟩ ⟨?_, ?_, ?_, ?_⟩
    · rw [u0]
      have : j = 0 ∨ j = 1 ∨ j = 2 ∨ j = 3 := by omega
      rcases this with rfl | rfl | rfl | rfl <;> rfl
    · rw [u0]
      have : j = 0 ∨ j = 1 ∨ j = 2 ∨ j = 3 := by omega
      rcases this with rfl | rfl | rfl | rfl <;> rfl
    · have e9 : kHasSh (kSetUp c00 (rl c) 4 0 0) = 0 := by
        show (((0 : Int32) ||| 0) ||| 0) ||| 0 = 0
        decide
      rw [u0, e9]
      rfl
    · rw [u0]; exact r2
    · rw [u0]; rfl
    · rw [u0]; rfl
    · unfold qSetUp
      rw [if_neg (show ¬ 6 + 2 * c = c by omega), if_pos rfl]; rfl
    · rw [u0]
      unfold qSetUp
      rw [if_neg (show ¬ 6 + 2 * c = c by omega), if_pos rfl]; rfl
    · unfold qSetUp
      rw [if_neg (show ¬ 6 + 2 * c = c by omega), if_pos rfl]; rfl
    · unfold qSetUp
      rw [if_neg (show ¬ 6 + 2 * c = c by omega), if_pos rfl]; rfl
    · unfold qSetUp
      rw [if_neg (show ¬ 7 + 2 * c = c by omega), if_neg (show ¬ 7 + 2 * c = 6 + 2 * c by omega), if_pos rfl]; rfl
    · rw [u0]
      unfold qSetUp
      rw [if_neg (show ¬ 7 + 2 * c = c by omega), if_neg (show ¬ 7 + 2 * c = 6 + 2 * c by omega), if_pos rfl]; rfl
    · unfold qSetUp
      rw [if_neg (show ¬ 7 + 2 * c = c by omega), if_neg (show ¬ 7 + 2 * c = 6 + 2 * c by omega), if_pos rfl]; rfl
    · unfold qSetUp
      rw [if_neg (show ¬ 7 + 2 * c = c by omega), if_neg (show ¬ 7 + 2 * c = 6 + 2 * c by omega), if_pos rfl]; rfl
theorem CT_new : CT (fun _ => 0) 0 (vUp 0 6 (fun _ _ => 0)) := fun c hc => by
  obtain ⟨a1, -, -⟩ := (vUp_u (fed := 0) 6 (fun _ _ => 0) (Nat.le_refl _) c hc).2 (by omega)
  rw [a1]
  exact ⟨0, 0, qEmpty_ct (by omega), qEmpty_ct (by omega), rfl⟩
end Uz
