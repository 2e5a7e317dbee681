/-! THE REFERENCE made: its window -/
section Nf
variable {M : LM} {A B C n m i j k t c s z o u : Nat} {W V : NW} {v x : Int32} {q : Option (LO × LM)} {H : Nat → Int32} {U X : Nat → Nat → Int32}
set_option maxRecDepth 100000
theorem rf_3 (hj : j < 6) : (refW A).2.2.2.1 (3 + j) = 1 ∧ (refW A).2.2.2.2 (3 + j) = 12896 := by
  rcases (show j = 0 ∨ j = 1 ∨ j = 2 ∨ j = 3 ∨ j = 4 ∨ j = 5 by omega) with rfl | rfl | rfl | rfl | rfl | rfl
  all_goals exact ⟨rfl, rfl⟩
set_option maxRecDepth 100000
theorem rf_21 (hj : j < 26) : (refW A).2.2.2.1 (21 + j) = 1 ∧ (refW A).2.2.2.2 (21 + j) = 6 := by
  rcases (show j = 0 ∨ j = 1 ∨ j = 2 ∨ j = 3 ∨ j = 4 ∨ j = 5 ∨ j = 6 ∨ j = 7 ∨ j = 8 ∨ j = 9 ∨ j = 10 ∨ j = 11 ∨ j = 12 ∨ j = 13 ∨ j = 14 ∨ j = 15 ∨ j = 16 ∨ j = 17 ∨ j = 18 ∨ j = 19 ∨ j = 20 ∨ j = 21 ∨ j = 22 ∨ j = 23 ∨ j = 24 ∨ j = 25 by omega) with rfl | rfl | rfl | rfl | rfl | rfl | rfl | rfl | rfl | rfl | rfl | rfl | rfl | rfl | rfl | rfl | rfl | rfl | rfl | rfl | rfl | rfl | rfl | rfl | rfl | rfl
  all_goals exact ⟨rfl, rfl⟩
set_option maxRecDepth 100000
theorem rf_48 (hj : j < 26) : (refW A).2.2.2.1 (48 + j) = 3 ∧ (refW A).2.2.2.2 (48 + j) = 6 := by
  rcases (show j = 0 ∨ j = 1 ∨ j = 2 ∨ j = 3 ∨ j = 4 ∨ j = 5 ∨ j = 6 ∨ j = 7 ∨ j = 8 ∨ j = 9 ∨ j = 10 ∨ j = 11 ∨ j = 12 ∨ j = 13 ∨ j = 14 ∨ j = 15 ∨ j = 16 ∨ j = 17 ∨ j = 18 ∨ j = 19 ∨ j = 20 ∨ j = 21 ∨ j = 22 ∨ j = 23 ∨ j = 24 ∨ j = 25 by omega) with rfl | rfl | rfl | rfl | rfl | rfl | rfl | rfl | rfl | rfl | rfl | rfl | rfl | rfl | rfl | rfl | rfl | rfl | rfl | rfl | rfl | rfl | rfl | rfl | rfl | rfl
  all_goals exact ⟨rfl, rfl⟩
theorem rf_p20 (hj : j < 26) : (refW A).2.2.1 20 j = some (A + 21 + j) := by
  show (if j < 26 then some (A + 20 + 1 + j) else none) = _
  rw [if_pos hj]
theorem rf_p47 (hj : j < 26) : (refW A).2.2.1 47 j = some (A + 48 + j) := by
  show (if j < 26 then some (A + 47 + 1 + j) else none) = _
  rw [if_pos hj]
set_option maxRecDepth 100000
theorem rf_RA : RA (nW M A 77 (refW A) c s) A := by
  have kk : ∀ u, u < 77 → mK (nW M A 77 (refW A) c s) (A + u) = (refW A).2.2.2.1 u := fun u hu => n_K hu
  have zz : ∀ u, u < 77 → mZ (nW M A 77 (refW A) c s) (A + u) = (refW A).2.2.2.2 u := fun u hu => n_Z hu
  have pp : ∀ u, u < 77 → ∀ j, mP (nW M A 77 (refW A) c s) (A + u) j = (refW A).2.2.1 u j := fun u hu j => n_P hu
  exact ⟨kk 0 (by omega), pp 0 (by omega) 2, kk 2 (by omega), zz 2 (by omega), pp 0 (by omega) 30, kk 20 (by omega), zz 20 (by omega), pp 0 (by omega) 31, kk 47 (by omega), zz 47 (by omega), fun j hj => ⟨by rw [Nat.add_assoc, kk _ (by omega), (rf_3 hj).1], by rw [Nat.add_assoc, zz _ (by omega), (rf_3 hj).2]⟩, fun j hj => ⟨by rw [pp 20 (by omega), rf_p20 hj], by rw [Nat.add_assoc, kk _ (by omega), (rf_21 hj).1], by rw [Nat.add_assoc, zz _ (by omega), (rf_21 hj).2]⟩, fun j hj => ⟨by rw [pp 47 (by omega), rf_p47 hj], by rw [Nat.add_assoc, kk _ (by omega), (rf_48 hj).1], by rw [Nat.add_assoc, zz _ (by omega), (rf_48 hj).2]⟩, ⟨pp 0 (by omega) 1, kk 1 (by omega), zz 1 (by omega)⟩, ⟨pp 0 (by omega) 5, kk 9 (by omega), zz 9 (by omega)⟩, ⟨pp 0 (by omega) 6, kk 10 (by omega), zz 10 (by omega)⟩, ⟨pp 0 (by omega) 7, kk 11 (by omega), zz 11 (by omega)⟩, ⟨pp 0 (by omega) 9, kk 12 (by omega), zz 12 (by omega)⟩, ⟨pp 0 (by omega) 10, kk 13 (by omega), zz 13 (by omega)⟩, ⟨pp 0 (by omega) 11, kk 14 (by omega), zz 14 (by omega)⟩, ⟨pp 0 (by omega) 13, kk 15 (by omega), zz 15 (by omega)⟩, ⟨pp 0 (by omega) 19, kk 16 (by omega), zz 16 (by omega)⟩, ⟨pp 0 (by omega) 23, kk 17 (by omega), zz 17 (by omega)⟩, ⟨pp 0 (by omega) 26, kk 18 (by omega), zz 18 (by omega)⟩, ⟨pp 0 (by omega) 27, kk 19 (by omega), zz 19 (by omega)⟩, ⟨pp 0 (by omega) 32, kk 74 (by omega), zz 74 (by omega)⟩, ⟨pp 0 (by omega) 33, kk 75 (by omega), zz 75 (by omega)⟩, ⟨pp 0 (by omega) 34, kk 76 (by omega), zz 76 (by omega)⟩⟩
def mz (n m : Nat) (F : Nat → Nat → Int32) : Nat → Nat → Int32 := fun t => if n ≤ t ∧ t ≤ n + m then fun _ => 0 else F t
theorem zz_m : mz n m (fun _ _ => 0) = fun _ _ => 0 := funext fun b => by
  unfold mz
  split <;> rfl
def z17 : Nat → Nat → Int32 := u2 (fun _ _ => 0) 0 17 (-1)
theorem z17_i : u2 (fun _ _ => 0) 0 17 (-1) = z17 := rfl
theorem z17_n (h : n ≠ 0) : z17 n = fun _ => 0 := u2_n1 h
theorem z17_u (h : n ≠ 0) : u1 z17 n (fun _ => 0) = z17 := funext fun b => by
  by_cases q : b = n
  · rw [q, u1e, z17_n h]
  · rw [u1_n q]
theorem z17_m (h : n ≠ 0) : mz n m z17 = z17 := funext fun b => by
  unfold mz
  by_cases q : n ≤ b ∧ b ≤ n + m
  · rw [if_pos q, z17_n (by omega)]
  · rw [if_neg q]
theorem nP_1 {v : Option Nat} : (nP W t j v).1 = W.1 := rfl
theorem nNew_1 : (nNew W n k z).1 = u1 W.1 n (fun _ => 0) := rfl
theorem nMul_1 {ko ki : Nat} : (nMul W n B ko ki m k).1 = mz n m W.1 := rfl
theorem nIw_1 : (nI' W t j v).1 = u2 W.1 t j v := rfl
theorem n0_1 : n0.1 = fun _ _ => 0 := rfl
theorem refW_0 : (refW A).1 = u2 (fun _ _ => 0) 0 17 (-1) := by
  unfold refW
  rw [z17_i]
  simp (disch := decide) only [nP_1, nNew_1, nMul_1, nIw_1, n0_1, u1_00, zz_m, z17_i, z17_u, z17_m]
theorem rM_0 : nW M A 77 (refW A) c s = rM (nW M A 77 (refW A) c s) A (fun _ => 0) (fun _ _ => 0) (u2 (fun _ _ => 0) 0 17 (-1)) := by
  refine Prod.ext (funext fun b => funext fun j => ?_) rfl
  show (if A ≤ b ∧ b < A + 77 then (refW A).1 (b - A) j else mI M b j) = (if b = A + 1 then (if j < 980 then 0 else 0) else if A ≤ b ∧ b < A + 77 then u2 (fun _ _ => 0) 0 17 (-1) (b - A) j else (if A ≤ b ∧ b < A + 77 then (refW A).1 (b - A) j else mI M b j))
  rw [refW_0]
  by_cases q1 : b = A + 1
  · rw [if_pos q1, if_pos (by omega)]
    have e : b - A = 1 := by omega
    rw [e, u2_n1 (by decide)]
    split <;> rfl
  · rw [if_neg q1]
    by_cases q : A ≤ b ∧ b < A + 77
    · rw [if_pos q, if_pos q]
    · rw [if_neg q, if_neg q]
def h0At (m : Nat) : Nat → Int32 := fun j => if (2 ≤ j ∧ j < 28 - m) ∨ (28 ≤ j ∧ j < 54 - m) then 1 else 0
/-- the units as they are set up -/
def vUp (fed : Int32) : Nat → (Nat → Nat → Int32) → Nat → Nat → Int32
  | 0, V => V
  | m + 1, V => vUp fed m (qEmptyC (qSetUp V (5 - m) (rl (5 - m)) 4 0 0) (5 - m) fed)
theorem i_ref202 (d : Nat) (h : RA M o) : ∀ (m : Nat) (U : Nat → Nat → Int32), m ≤ 6 → f_X11_init_202 (d + 5) (rM M o H U X) o (nI (6 - m)) = some (.inl none, rM M o H (vUp (H 0) m U) X)
  | 0, U, _ => by
    rw [e_X11_init_202, if_neg (by decide)]
    rfl
  | m + 1, U, hm => by
    obtain ⟨g1, g2, g3⟩ := lt_suc6 hm
    have hi : 5 - m < 6 := by omega
    have ih := i_ref202 d h m (qEmptyC (qSetUp U (5 - m) (rl (5 - m)) 4 0 0) (5 - m) (H 0)) (by omega)
    rw [g1, e_X11_init_202, if_pos g3]
    by_cases q : 5 - m = 5
    · have er : rl (5 - m) = 6 := if_neg (by omega)
      rw [er] at ih
      rw [if_pos (by rw [q]; rfl), r_ck h, r_setsUp d h hi, lt_bv_r, g2, ih, ← er]
      rfl
    · have er : rl (5 - m) = nI (5 - m) := if_pos (by omega)
      have hne : ¬ nI (5 - m) = 5 := fun e => q ((lt_iE (j := 5 - m) (k := 5) (by omega) (by omega)).mp e)
      rw [er] at ih
      rw [if_neg hne, r_ck h, r_setsUp d h hi, lt_bv_r, g2, ih, ← er]
      rfl
theorem i_ref169 (d : Nat) (h : RA M o) : ∀ (m : Nat) (H : Nat → Int32), m ≤ 26 → (∀ j, H j = h0At m j) → f_X11_init_169 (d + 5) (rM M o H U X) o (nI (26 - m)) = some (.inl none, rM M o (h0At 0) (vUp 0 6 U) X)
  | 0, H, _, hH => by
    have e := i_ref202 (M := M) (o := o) (H := h0At 0) (X := X) d h 6 U (Nat.le_refl _)
    rw [e_X11_init_169, if_neg (by decide), show H = h0At 0 from funext hH]
    exact e
  | m + 1, H, hm, hH => by
    have hlt : nI (26 - (m + 1)) < (26 : Int32) := (nI_ltP (j := 26 - (m + 1)) (k := 26) (by omega) (by omega)).mpr (by omega)
    have g2 : nI (26 - (m + 1)) + 1 = nI (26 - m) := by
      rw [show nI (26 - (m + 1)) + 1 = nI (26 - (m + 1) + 1) from lt_iA (j := 26 - (m + 1)) (k := 1)]
      congr 1
      omega
    have ih := i_ref169 d h m (upd (upd H (2 + (26 - (m + 1))) 1) (28 + (26 - (m + 1))) 1) (by omega) (fun j => by
      unfold h0At
      by_cases q1 : j = 28 + (26 - (m + 1))
      · rw [q1, upd_s, if_pos (by omega)]
      · rw [upd_o q1]
        by_cases q2 : j = 2 + (26 - (m + 1))
        · rw [q2, upd_s, if_pos (by omega)]
        · rw [upd_o q2, hH j]
          unfold h0At
          by_cases q3 : (2 ≤ j ∧ j < 28 - (m + 1)) ∨ (28 ≤ j ∧ j < 54 - (m + 1))
          · rw [if_pos q3, if_pos (by omega)]
          · rw [if_neg q3, if_neg (by omega)])
    rw [e_X11_init_169, if_pos hlt, r_ck h, r_p1 h, x_rf, n2_, r_ar1 h (by omega), lt_iN (by omega), rM_wh (by omega), x_m, r_ck h, r_p1 h, x_rf, n28_, r_ar1 h (by omega), lt_iN (by omega), rM_wh (by omega), x_m, g2]
    exact ih
/-- the reference made -/
theorem i_ref (d : Nat) : f_X11_init (d + 5) (nW M A 1 (nNew n0 0 27 0) c s) A = some (.inl none, rM (nW M A 77 (refW A) (c + 76) (s + 91129)) A (h0At 0) (vUp 0 6 (fun _ _ => 0)) (u2 (fun _ _ => 0) 0 17 (-1))) := by
  have e := i_ref169 (M := nW M A 77 (refW A) (c + 76) (s + 91129)) (o := A) (U := fun _ _ => 0) (X := u2 (fun _ _ => 0) 0 17 (-1)) d rf_RA 26 (fun _ => 0) (Nat.le_refl _) (fun j => by
    unfold h0At
    rw [if_neg (by omega)])
  rw [← rM_0] at e
  rw [i_ref0]
  exact e
end Nf
