/-! THE CLASS, a Cache as a window of its own: its cells C .. C + 14; printed by wip/whole/src/pp.py -/
abbrev CS : Type := (Nat → Nat → Int32) × (Nat → Nat → Int64)
def cM (M : LM) (C : Nat) (S : CS) : LM :=
  (fun b j => if C ≤ b ∧ b < C + 15 then S.1 (b - C) j else mI M b j, fun b j => if C ≤ b ∧ b < C + 15 then S.2 (b - C) j else mL M b j, M.2.2)
def cwi (S : CS) (t j : Nat) (v : Int32) : CS := (u2 S.1 t j v, S.2)
def cwl (S : CS) (t j : Nat) (y : Int64) : CS := (S.1, u2 S.2 t j y)
/-- the keys' object K, its rows behind it, all ahead of C; the row of requests -/
def KO (M : LM) (C K : Nat) : Prop := kA M K (K + 1) (K + 2) (K + 3) ∧ K + 3 < C
def RO (M : LM) (C R : Nat) : Prop := mK M R = 20 ∧ mP M R 0 = some (R + 1) ∧ mP M R 1 = some (R + 2) ∧ mP M R 2 = some (R + 3) ∧ aI M (R + 1) 300 ∧ aI M (R + 2) 300 ∧ aI M (R + 3) 300 ∧ R + 3 < C
section Cl
variable {M : LM} {C K R k i j t t' j' : Nat} {S : CS} {v x : Int32} {y : Int64} {z : Option (LO × LM)}
theorem z2_eq {α : Type} {F : Nat → Nat → α} {v : α} : u2 F t j v t j = v := if_pos ⟨rfl, rfl⟩
theorem z2_n1 {α : Type} {F : Nat → Nat → α} {v : α} (h : t' ≠ t) : u2 F t j v t' = F t' := funext fun i => if_neg fun e => h e.1
theorem z2_n2 {α : Type} {F : Nat → Nat → α} {v : α} (h : j' ≠ j) : u2 F t j v t j' = F t j' := if_neg fun e => h e.2
theorem cwi_1 : (cwi S t j v).1 = u2 S.1 t j v := rfl
theorem cwi_2 : (cwi S t j v).2 = S.2 := rfl
theorem cwl_1 : (cwl S t j y).1 = S.1 := rfl
theorem cwl_2 : (cwl S t j y).2 = u2 S.2 t j y := rfl
theorem cIt (ht : t < 15) : mI (cM M C S) (C + t) = S.1 t := funext fun j => by
  show (if C ≤ C + t ∧ C + t < C + 15 then S.1 (C + t - C) j else mI M (C + t) j) = S.1 t j
  rw [if_pos (by omega), Nat.add_sub_cancel_left]
theorem cI0 : mI (cM M C S) C = S.1 0 := cIt (t := 0) (by omega)
theorem cLt (ht : t < 15) : mL (cM M C S) (C + t) = S.2 t := funext fun j => by
  show (if C ≤ C + t ∧ C + t < C + 15 then S.2 (C + t - C) j else mL M (C + t) j) = S.2 t j
  rw [if_pos (by omega), Nat.add_sub_cancel_left]
theorem cL0 : mL (cM M C S) C = S.2 0 := cLt (t := 0) (by omega)
theorem cIo (h : i < C) : mI (cM M C S) i = mI M i := funext fun j => if_neg (by omega)
theorem cLo (h : i < C) : mL (cM M C S) i = mL M i := funext fun j => if_neg (by omega)
theorem cwIt (ht : t < 15) : wI (cM M C S) (C + t) j v = cM M C (cwi S t j v) := by
  refine Prod.ext (funext fun b => funext fun i => ?_) rfl
  show (if b = C + t ∧ i = j then v else if C ≤ b ∧ b < C + 15 then S.1 (b - C) i else mI M b i) = if C ≤ b ∧ b < C + 15 then u2 S.1 t j v (b - C) i else mI M b i
  unfold u2
  by_cases hb : b = C + t
  · subst hb
    have q : C ≤ C + t ∧ C + t < C + 15 := by omega
    rw [if_pos q, if_pos q, Nat.add_sub_cancel_left]
    by_cases hi : i = j
    · rw [if_pos ⟨rfl, hi⟩, if_pos ⟨rfl, hi⟩]
    · rw [if_neg (fun e => hi e.2), if_neg (fun e => hi e.2)]
  · rw [if_neg (fun e => hb e.1)]
    by_cases q : C ≤ b ∧ b < C + 15
    · rw [if_pos q, if_pos q, if_neg (by omega)]
    · rw [if_neg q, if_neg q]
theorem cwI0 : wI (cM M C S) C j v = cM M C (cwi S 0 j v) := cwIt (t := 0) (by omega)
theorem cwLt (ht : t < 15) : wL (cM M C S) (C + t) j y = cM M C (cwl S t j y) := by
  refine Prod.ext rfl (Prod.ext (funext fun b => funext fun i => ?_) rfl)
  show (if b = C + t ∧ i = j then y else if C ≤ b ∧ b < C + 15 then S.2 (b - C) i else mL M b i) = if C ≤ b ∧ b < C + 15 then u2 S.2 t j y (b - C) i else mL M b i
  unfold u2
  by_cases hb : b = C + t
  · subst hb
    have q : C ≤ C + t ∧ C + t < C + 15 := by omega
    rw [if_pos q, if_pos q, Nat.add_sub_cancel_left]
    by_cases hi : i = j
    · rw [if_pos ⟨rfl, hi⟩, if_pos ⟨rfl, hi⟩]
    · rw [if_neg (fun e => hi e.2), if_neg (fun e => hi e.2)]
  · rw [if_neg (fun e => hb e.1)]
    by_cases q : C ≤ b ∧ b < C + 15
    · rw [if_pos q, if_pos q, if_neg (by omega)]
    · rw [if_neg q, if_neg q]
theorem cwL0 : wL (cM M C S) C j y = cM M C (cwl S 0 j y) := cwLt (t := 0) (by omega)
theorem k_ckK (h : KO M C K) : lt_ck (cM M C S) K 19 z = z := lt_ck_t (M := cM M C S) h.1.1
theorem k_pK0 (h : KO M C K) : mP (cM M C S) K 0 = some (K + 1) := h.1.2.1
theorem k_pK1 (h : KO M C K) : mP (cM M C S) K 1 = some (K + 2) := h.1.2.2.1
theorem k_pK2 (h : KO M C K) : mP (cM M C S) K 2 = some (K + 3) := h.1.2.2.2.1
theorem k_atK1 (d : Nat) (h : KO M C K) (hk : k < 26) : f_X10_at (d + 1) (cM M C S) (K + 1) (nI k) = some (.inl (some (.int (mI M (K + 1) k))), cM M C S) := by
  have := h.2
  rw [s10_at (M := cM M C S) d h.1.2.2.2.2.1 hk, cIo (by omega)]
theorem k_atK2 (d : Nat) (h : KO M C K) (hk : k < 26) : f_X10_at (d + 1) (cM M C S) (K + 2) (nI k) = some (.inl (some (.int (mI M (K + 2) k))), cM M C S) := by
  have := h.2
  rw [s10_at (M := cM M C S) d h.1.2.2.2.2.2.1 hk, cIo (by omega)]
theorem k_atK3 (d : Nat) (h : KO M C K) (hk : k < 26) : f_X10_at (d + 1) (cM M C S) (K + 3) (nI k) = some (.inl (some (.int (mI M (K + 3) k))), cM M C S) := by
  have := h.2
  rw [s10_at (M := cM M C S) d h.1.2.2.2.2.2.2 hk, cIo (by omega)]
theorem k_units (d : Nat) (h : KO M C K) : f_X3_units (d + 1) (cM M C S) K x = some (.inl (some (.int (pSum x (mI M (K + 1)) 26 0))), cM M C S) := by
  have := h.2
  rw [s3_units (M := cM M C S) d h.1, cIo (by omega)]
theorem k_owner (d : Nat) (h : KO M C K) : f_X3_ofOwner (d + 1) (cM M C S) K x = some (.inl (some (.int (pOwn (mI M (K + 3)) x 26 0))), cM M C S) := by
  have := h.2
  rw [s3_ofOwner (M := cM M C S) d h.1, cIo (by omega)]
theorem k_worth (d : Nat) (h : KO M C K) (hk : k < 26) (hs : 0 < mI M (K + 1) k) : f_X3_worthOf (d + 2) (cM M C S) K (nI k) = some (.inl (some (.int (840 * mI M (K + 2) k / mI M (K + 1) k))), cM M C S) := by
  have := h.2
  rw [s3_worthOf (M := cM M C S) d h.1 hk (by rw [cIo (by omega)]; exact hs), cIo (by omega), cIo (by omega)]
theorem k_ckR (h : RO M C R) : lt_ck (cM M C S) R 20 z = z := lt_ck_t (M := cM M C S) h.1
theorem k_pR0 (h : RO M C R) : mP (cM M C S) R 0 = some (R + 1) := h.2.1
theorem k_pR1 (h : RO M C R) : mP (cM M C S) R 1 = some (R + 2) := h.2.2.1
theorem k_pR2 (h : RO M C R) : mP (cM M C S) R 2 = some (R + 3) := h.2.2.2.1
theorem k_atR1 (d : Nat) (h : RO M C R) (hk : k < 300) : f_X10_at (d + 1) (cM M C S) (R + 1) (nI k) = some (.inl (some (.int (mI M (R + 1) k))), cM M C S) := by
  have := h.2.2.2.2.2.2.2
  rw [s10_at (M := cM M C S) d h.2.2.2.2.1 hk, cIo (by omega)]
theorem k_atR2 (d : Nat) (h : RO M C R) (hk : k < 300) : f_X10_at (d + 1) (cM M C S) (R + 2) (nI k) = some (.inl (some (.int (mI M (R + 2) k))), cM M C S) := by
  have := h.2.2.2.2.2.2.2
  rw [s10_at (M := cM M C S) d h.2.2.2.2.2.1 hk, cIo (by omega)]
theorem k_atR3 (d : Nat) (h : RO M C R) (hk : k < 300) : f_X10_at (d + 1) (cM M C S) (R + 3) (nI k) = some (.inl (some (.int (mI M (R + 3) k))), cM M C S) := by
  have := h.2.2.2.2.2.2.2
  rw [s10_at (M := cM M C S) d h.2.2.2.2.2.2.1 hk, cIo (by omega)]
theorem cM_id : cM M C (fun t j => mI M (C + t) j, fun t j => mL M (C + t) j) = M := by
  refine Prod.ext (funext fun b => funext fun i => ?_) (Prod.ext (funext fun b => funext fun i => ?_) rfl)
  · show (if C ≤ b ∧ b < C + 15 then mI M (C + (b - C)) i else mI M b i) = mI M b i
    by_cases q : C ≤ b ∧ b < C + 15
    · rw [if_pos q, show C + (b - C) = b by omega]
    · rw [if_neg q]
  · show (if C ≤ b ∧ b < C + 15 then mL M (C + (b - C)) i else mL M b i) = mL M b i
    by_cases q : C ≤ b ∧ b < C + 15
    · rw [if_pos q, show C + (b - C) = b by omega]
    · rw [if_neg q]
end Cl
section Cm
variable {M : LM} {C K R k i j t : Nat} {S : CS} {v x : Int32} {y : Int64} {z : Option (LO × LM)}
theorem k_ck (h : cA M C) : lt_ck (cM M C S) C 17 z = z := lt_ck_t (M := cM M C S) h.1.1
theorem k_ck6 (h : cA M C) : lt_ck (cM M C S) (C + 6) 24 z = z := lt_ck_t (M := cM M C S) h.2.1.1
theorem k_ck13 (h : cA M C) : lt_ck (cM M C S) (C + 13) 21 z = z := lt_ck_t (M := cM M C S) h.2.2.1.1
theorem k_ck14 (h : cA M C) : lt_ck (cM M C S) (C + 14) 21 z = z := lt_ck_t (M := cM M C S) h.2.2.1.2
theorem k_p4 (h : cA M C) : mP (cM M C S) C 4 = some (C + 1) := h.1.2.1
theorem k_p13 (h : cA M C) : mP (cM M C S) C 13 = some (C + 2) := h.1.2.2.1
theorem k_p14 (h : cA M C) : mP (cM M C S) C 14 = some (C + 3) := h.1.2.2.2.1
theorem k_p15 (h : cA M C) : mP (cM M C S) C 15 = some (C + 4) := h.1.2.2.2.2.1
theorem k_p16 (h : cA M C) : mP (cM M C S) C 16 = some (C + 5) := h.1.2.2.2.2.2.1
theorem k_p17 (h : cA M C) : mP (cM M C S) C 17 = some (C + 6) := h.1.2.2.2.2.2.2.1
theorem k_p18 (h : cA M C) : mP (cM M C S) C 18 = some (C + 13) := h.1.2.2.2.2.2.2.2.1
theorem k_p19 (h : cA M C) : mP (cM M C S) C 19 = some (C + 14) := h.1.2.2.2.2.2.2.2.2
theorem k_q0 (h : cA M C) : mP (cM M C S) (C + 6) 0 = some (C + 7) := h.2.1.2.1
theorem k_q1 (h : cA M C) : mP (cM M C S) (C + 6) 1 = some (C + 8) := h.2.1.2.2.1
theorem k_q2 (h : cA M C) : mP (cM M C S) (C + 6) 2 = some (C + 9) := h.2.1.2.2.2.1
theorem k_q3 (h : cA M C) : mP (cM M C S) (C + 6) 3 = some (C + 10) := h.2.1.2.2.2.2.1
theorem k_q4 (h : cA M C) : mP (cM M C S) (C + 6) 4 = some (C + 11) := h.2.1.2.2.2.2.2.1
theorem k_q5 (h : cA M C) : mP (cM M C S) (C + 6) 5 = some (C + 12) := h.2.1.2.2.2.2.2.2
theorem k_at1 (d : Nat) (h : cA M C) (hk : k < 4) : f_X10_at (d + 1) (cM M C S) (C + 1) (nI k) = some (.inl (some (.int (S.1 1 k))), cM M C S) := by rw [s10_at (M := cM M C S) d h.2.2.2.1 hk, cIt (by omega)]
theorem k_put1 (d : Nat) (h : cA M C) (hk : k < 4) : f_X10_put (d + 1) (cM M C S) (C + 1) (nI k) v = some (.inl none, cM M C (cwi S 1 k v)) := by rw [s10_put (M := cM M C S) d h.2.2.2.1 hk, cwIt (by omega)]
theorem k_add1 (d : Nat) (h : cA M C) (hk : k < 4) : f_X10_add (d + 1) (cM M C S) (C + 1) (nI k) v = some (.inl none, cM M C (cwi S 1 k (S.1 1 k + v))) := by rw [s10_add (M := cM M C S) d h.2.2.2.1 hk, cIt (by omega), cwIt (by omega)]
theorem k_ar1 (h : cA M C) (hk : k < 4) : lt_ar (cM M C S) (C + 1) 1 (nI k) z = z := lt_ar_t (M := cM M C S) (h.2.2.2.1).1 (by show _ ∧ _ < (mZ M (C + 1) : Int); rw [(h.2.2.2.1).2.1]; exact lt_iI hk (by omega))
theorem k_al1 (h : cA M C) : lt_al (cM M C S) (C + 1) z = z := lt_al_t (M := cM M C S) (by have := (h.2.2.2.1).1; show 1 ≤ mK M (C + 1) ∧ mK M (C + 1) ≤ 9; omega)
theorem k_z1 (h : cA M C) : mZ (cM M C S) (C + 1) = 4 := (h.2.2.2.1).2.1
theorem k_at2 (d : Nat) (h : cA M C) (hk : k < 26) : f_X10_at (d + 1) (cM M C S) (C + 2) (nI k) = some (.inl (some (.int (S.1 2 k))), cM M C S) := by rw [s10_at (M := cM M C S) d h.2.2.2.2.1 hk, cIt (by omega)]
theorem k_put2 (d : Nat) (h : cA M C) (hk : k < 26) : f_X10_put (d + 1) (cM M C S) (C + 2) (nI k) v = some (.inl none, cM M C (cwi S 2 k v)) := by rw [s10_put (M := cM M C S) d h.2.2.2.2.1 hk, cwIt (by omega)]
theorem k_add2 (d : Nat) (h : cA M C) (hk : k < 26) : f_X10_add (d + 1) (cM M C S) (C + 2) (nI k) v = some (.inl none, cM M C (cwi S 2 k (S.1 2 k + v))) := by rw [s10_add (M := cM M C S) d h.2.2.2.2.1 hk, cIt (by omega), cwIt (by omega)]
theorem k_ar2 (h : cA M C) (hk : k < 26) : lt_ar (cM M C S) (C + 2) 1 (nI k) z = z := lt_ar_t (M := cM M C S) (h.2.2.2.2.1).1 (by show _ ∧ _ < (mZ M (C + 2) : Int); rw [(h.2.2.2.2.1).2.1]; exact lt_iI hk (by omega))
theorem k_al2 (h : cA M C) : lt_al (cM M C S) (C + 2) z = z := lt_al_t (M := cM M C S) (by have := (h.2.2.2.2.1).1; show 1 ≤ mK M (C + 2) ∧ mK M (C + 2) ≤ 9; omega)
theorem k_z2 (h : cA M C) : mZ (cM M C S) (C + 2) = 26 := (h.2.2.2.2.1).2.1
theorem k_at7 (d : Nat) (h : cA M C) (hk : k < 9) : f_X10_at (d + 1) (cM M C S) (C + 7) (nI k) = some (.inl (some (.int (S.1 7 k))), cM M C S) := by rw [s10_at (M := cM M C S) d h.2.2.2.2.2.2.2.2.1 hk, cIt (by omega)]
theorem k_put7 (d : Nat) (h : cA M C) (hk : k < 9) : f_X10_put (d + 1) (cM M C S) (C + 7) (nI k) v = some (.inl none, cM M C (cwi S 7 k v)) := by rw [s10_put (M := cM M C S) d h.2.2.2.2.2.2.2.2.1 hk, cwIt (by omega)]
theorem k_add7 (d : Nat) (h : cA M C) (hk : k < 9) : f_X10_add (d + 1) (cM M C S) (C + 7) (nI k) v = some (.inl none, cM M C (cwi S 7 k (S.1 7 k + v))) := by rw [s10_add (M := cM M C S) d h.2.2.2.2.2.2.2.2.1 hk, cIt (by omega), cwIt (by omega)]
theorem k_ar7 (h : cA M C) (hk : k < 9) : lt_ar (cM M C S) (C + 7) 1 (nI k) z = z := lt_ar_t (M := cM M C S) (h.2.2.2.2.2.2.2.2.1).1 (by show _ ∧ _ < (mZ M (C + 7) : Int); rw [(h.2.2.2.2.2.2.2.2.1).2.1]; exact lt_iI hk (by omega))
theorem k_al7 (h : cA M C) : lt_al (cM M C S) (C + 7) z = z := lt_al_t (M := cM M C S) (by have := (h.2.2.2.2.2.2.2.2.1).1; show 1 ≤ mK M (C + 7) ∧ mK M (C + 7) ≤ 9; omega)
theorem k_z7 (h : cA M C) : mZ (cM M C S) (C + 7) = 9 := (h.2.2.2.2.2.2.2.2.1).2.1
theorem k_at8 (d : Nat) (h : cA M C) (hk : k < 26) : f_X10_at (d + 1) (cM M C S) (C + 8) (nI k) = some (.inl (some (.int (S.1 8 k))), cM M C S) := by rw [s10_at (M := cM M C S) d h.2.2.2.2.2.2.2.2.2.1 hk, cIt (by omega)]
theorem k_put8 (d : Nat) (h : cA M C) (hk : k < 26) : f_X10_put (d + 1) (cM M C S) (C + 8) (nI k) v = some (.inl none, cM M C (cwi S 8 k v)) := by rw [s10_put (M := cM M C S) d h.2.2.2.2.2.2.2.2.2.1 hk, cwIt (by omega)]
theorem k_add8 (d : Nat) (h : cA M C) (hk : k < 26) : f_X10_add (d + 1) (cM M C S) (C + 8) (nI k) v = some (.inl none, cM M C (cwi S 8 k (S.1 8 k + v))) := by rw [s10_add (M := cM M C S) d h.2.2.2.2.2.2.2.2.2.1 hk, cIt (by omega), cwIt (by omega)]
theorem k_ar8 (h : cA M C) (hk : k < 26) : lt_ar (cM M C S) (C + 8) 1 (nI k) z = z := lt_ar_t (M := cM M C S) (h.2.2.2.2.2.2.2.2.2.1).1 (by show _ ∧ _ < (mZ M (C + 8) : Int); rw [(h.2.2.2.2.2.2.2.2.2.1).2.1]; exact lt_iI hk (by omega))
theorem k_al8 (h : cA M C) : lt_al (cM M C S) (C + 8) z = z := lt_al_t (M := cM M C S) (by have := (h.2.2.2.2.2.2.2.2.2.1).1; show 1 ≤ mK M (C + 8) ∧ mK M (C + 8) ≤ 9; omega)
theorem k_z8 (h : cA M C) : mZ (cM M C S) (C + 8) = 26 := (h.2.2.2.2.2.2.2.2.2.1).2.1
theorem k_at9 (d : Nat) (h : cA M C) (hk : k < 26) : f_X10_at (d + 1) (cM M C S) (C + 9) (nI k) = some (.inl (some (.int (S.1 9 k))), cM M C S) := by rw [s10_at (M := cM M C S) d h.2.2.2.2.2.2.2.2.2.2.1 hk, cIt (by omega)]
theorem k_put9 (d : Nat) (h : cA M C) (hk : k < 26) : f_X10_put (d + 1) (cM M C S) (C + 9) (nI k) v = some (.inl none, cM M C (cwi S 9 k v)) := by rw [s10_put (M := cM M C S) d h.2.2.2.2.2.2.2.2.2.2.1 hk, cwIt (by omega)]
theorem k_add9 (d : Nat) (h : cA M C) (hk : k < 26) : f_X10_add (d + 1) (cM M C S) (C + 9) (nI k) v = some (.inl none, cM M C (cwi S 9 k (S.1 9 k + v))) := by rw [s10_add (M := cM M C S) d h.2.2.2.2.2.2.2.2.2.2.1 hk, cIt (by omega), cwIt (by omega)]
theorem k_ar9 (h : cA M C) (hk : k < 26) : lt_ar (cM M C S) (C + 9) 1 (nI k) z = z := lt_ar_t (M := cM M C S) (h.2.2.2.2.2.2.2.2.2.2.1).1 (by show _ ∧ _ < (mZ M (C + 9) : Int); rw [(h.2.2.2.2.2.2.2.2.2.2.1).2.1]; exact lt_iI hk (by omega))
theorem k_al9 (h : cA M C) : lt_al (cM M C S) (C + 9) z = z := lt_al_t (M := cM M C S) (by have := (h.2.2.2.2.2.2.2.2.2.2.1).1; show 1 ≤ mK M (C + 9) ∧ mK M (C + 9) ≤ 9; omega)
theorem k_z9 (h : cA M C) : mZ (cM M C S) (C + 9) = 26 := (h.2.2.2.2.2.2.2.2.2.2.1).2.1
theorem k_at10 (d : Nat) (h : cA M C) (hk : k < 300) : f_X10_at (d + 1) (cM M C S) (C + 10) (nI k) = some (.inl (some (.int (S.1 10 k))), cM M C S) := by rw [s10_at (M := cM M C S) d h.2.2.2.2.2.2.2.2.2.2.2.1 hk, cIt (by omega)]
theorem k_put10 (d : Nat) (h : cA M C) (hk : k < 300) : f_X10_put (d + 1) (cM M C S) (C + 10) (nI k) v = some (.inl none, cM M C (cwi S 10 k v)) := by rw [s10_put (M := cM M C S) d h.2.2.2.2.2.2.2.2.2.2.2.1 hk, cwIt (by omega)]
theorem k_add10 (d : Nat) (h : cA M C) (hk : k < 300) : f_X10_add (d + 1) (cM M C S) (C + 10) (nI k) v = some (.inl none, cM M C (cwi S 10 k (S.1 10 k + v))) := by rw [s10_add (M := cM M C S) d h.2.2.2.2.2.2.2.2.2.2.2.1 hk, cIt (by omega), cwIt (by omega)]
theorem k_ar10 (h : cA M C) (hk : k < 300) : lt_ar (cM M C S) (C + 10) 1 (nI k) z = z := lt_ar_t (M := cM M C S) (h.2.2.2.2.2.2.2.2.2.2.2.1).1 (by show _ ∧ _ < (mZ M (C + 10) : Int); rw [(h.2.2.2.2.2.2.2.2.2.2.2.1).2.1]; exact lt_iI hk (by omega))
theorem k_al10 (h : cA M C) : lt_al (cM M C S) (C + 10) z = z := lt_al_t (M := cM M C S) (by have := (h.2.2.2.2.2.2.2.2.2.2.2.1).1; show 1 ≤ mK M (C + 10) ∧ mK M (C + 10) ≤ 9; omega)
theorem k_z10 (h : cA M C) : mZ (cM M C S) (C + 10) = 300 := (h.2.2.2.2.2.2.2.2.2.2.2.1).2.1
theorem k_at1_0 (d : Nat) (h : cA M C) : f_X10_at (d + 1) (cM M C S) (C + 1) 0 = some (.inl (some (.int (S.1 1 0))), cM M C S) := k_at1 (k := 0) d h (by omega)
theorem k_put1_0 (d : Nat) (h : cA M C) : f_X10_put (d + 1) (cM M C S) (C + 1) 0 v = some (.inl none, cM M C (cwi S 1 0 v)) := k_put1 (k := 0) d h (by omega)
theorem k_at1_1 (d : Nat) (h : cA M C) : f_X10_at (d + 1) (cM M C S) (C + 1) 1 = some (.inl (some (.int (S.1 1 1))), cM M C S) := k_at1 (k := 1) d h (by omega)
theorem k_put1_1 (d : Nat) (h : cA M C) : f_X10_put (d + 1) (cM M C S) (C + 1) 1 v = some (.inl none, cM M C (cwi S 1 1 v)) := k_put1 (k := 1) d h (by omega)
theorem k_at1_2 (d : Nat) (h : cA M C) : f_X10_at (d + 1) (cM M C S) (C + 1) 2 = some (.inl (some (.int (S.1 1 2))), cM M C S) := k_at1 (k := 2) d h (by omega)
theorem k_put1_2 (d : Nat) (h : cA M C) : f_X10_put (d + 1) (cM M C S) (C + 1) 2 v = some (.inl none, cM M C (cwi S 1 2 v)) := k_put1 (k := 2) d h (by omega)
theorem k_at1_3 (d : Nat) (h : cA M C) : f_X10_at (d + 1) (cM M C S) (C + 1) 3 = some (.inl (some (.int (S.1 1 3))), cM M C S) := k_at1 (k := 3) d h (by omega)
theorem k_put1_3 (d : Nat) (h : cA M C) : f_X10_put (d + 1) (cM M C S) (C + 1) 3 v = some (.inl none, cM M C (cwi S 1 3 v)) := k_put1 (k := 3) d h (by omega)
theorem k_add7_0 (d : Nat) (h : cA M C) : f_X10_add (d + 1) (cM M C S) (C + 7) 0 v = some (.inl none, cM M C (cwi S 7 0 (S.1 7 0 + v))) := k_add7 (k := 0) d h (by omega)
theorem k_add7_1 (d : Nat) (h : cA M C) : f_X10_add (d + 1) (cM M C S) (C + 7) 1 v = some (.inl none, cM M C (cwi S 7 1 (S.1 7 1 + v))) := k_add7 (k := 1) d h (by omega)
theorem k_add7_2 (d : Nat) (h : cA M C) : f_X10_add (d + 1) (cM M C S) (C + 7) 2 v = some (.inl none, cM M C (cwi S 7 2 (S.1 7 2 + v))) := k_add7 (k := 2) d h (by omega)
theorem k_add7_3 (d : Nat) (h : cA M C) : f_X10_add (d + 1) (cM M C S) (C + 7) 3 v = some (.inl none, cM M C (cwi S 7 3 (S.1 7 3 + v))) := k_add7 (k := 3) d h (by omega)
theorem k_add7_4 (d : Nat) (h : cA M C) : f_X10_add (d + 1) (cM M C S) (C + 7) 4 v = some (.inl none, cM M C (cwi S 7 4 (S.1 7 4 + v))) := k_add7 (k := 4) d h (by omega)
theorem k_add7_5 (d : Nat) (h : cA M C) : f_X10_add (d + 1) (cM M C S) (C + 7) 5 v = some (.inl none, cM M C (cwi S 7 5 (S.1 7 5 + v))) := k_add7 (k := 5) d h (by omega)
theorem k_add7_6 (d : Nat) (h : cA M C) : f_X10_add (d + 1) (cM M C S) (C + 7) 6 v = some (.inl none, cM M C (cwi S 7 6 (S.1 7 6 + v))) := k_add7 (k := 6) d h (by omega)
theorem k_add7_7 (d : Nat) (h : cA M C) : f_X10_add (d + 1) (cM M C S) (C + 7) 7 v = some (.inl none, cM M C (cwi S 7 7 (S.1 7 7 + v))) := k_add7 (k := 7) d h (by omega)
theorem k_add7_8 (d : Nat) (h : cA M C) : f_X10_add (d + 1) (cM M C S) (C + 7) 8 v = some (.inl none, cM M C (cwi S 7 8 (S.1 7 8 + v))) := k_add7 (k := 8) d h (by omega)
theorem k_atL3 (d : Nat) (h : cA M C) (hk : k < 26) : f_X10_at_ (d + 1) (cM M C S) (C + 3) (nI k) = some (.inl (some (.long (S.2 3 k))), cM M C S) := by rw [s10_atL (M := cM M C S) d h.2.2.2.2.2.1 hk, cLt (by omega)]
theorem k_putL3 (d : Nat) (h : cA M C) (hk : k < 26) : f_X10_put_ (d + 1) (cM M C S) (C + 3) (nI k) y = some (.inl none, cM M C (cwl S 3 k y)) := by rw [s10_putL (M := cM M C S) d h.2.2.2.2.2.1 hk, cwLt (by omega)]
theorem k_least3 (d : Nat) (h : cA M C) : f_X10_least (d + 1) (cM M C S) x (C + 3) = some (.inl (some (.int (pLst x (S.2 3)))), cM M C S) := by rw [s10_least (M := cM M C S) d h.2.2.2.2.2.1 (by omega), cLt (by omega)]; rfl
theorem k_atL4 (d : Nat) (h : cA M C) (hk : k < 26) : f_X10_at_ (d + 1) (cM M C S) (C + 4) (nI k) = some (.inl (some (.long (S.2 4 k))), cM M C S) := by rw [s10_atL (M := cM M C S) d h.2.2.2.2.2.2.1 hk, cLt (by omega)]
theorem k_putL4 (d : Nat) (h : cA M C) (hk : k < 26) : f_X10_put_ (d + 1) (cM M C S) (C + 4) (nI k) y = some (.inl none, cM M C (cwl S 4 k y)) := by rw [s10_putL (M := cM M C S) d h.2.2.2.2.2.2.1 hk, cwLt (by omega)]
theorem k_least4 (d : Nat) (h : cA M C) : f_X10_least (d + 1) (cM M C S) x (C + 4) = some (.inl (some (.int (pLst x (S.2 4)))), cM M C S) := by rw [s10_least (M := cM M C S) d h.2.2.2.2.2.2.1 (by omega), cLt (by omega)]; rfl
theorem k_atL5 (d : Nat) (h : cA M C) (hk : k < 26) : f_X10_at_ (d + 1) (cM M C S) (C + 5) (nI k) = some (.inl (some (.long (S.2 5 k))), cM M C S) := by rw [s10_atL (M := cM M C S) d h.2.2.2.2.2.2.2.1 hk, cLt (by omega)]
theorem k_putL5 (d : Nat) (h : cA M C) (hk : k < 26) : f_X10_put_ (d + 1) (cM M C S) (C + 5) (nI k) y = some (.inl none, cM M C (cwl S 5 k y)) := by rw [s10_putL (M := cM M C S) d h.2.2.2.2.2.2.2.1 hk, cwLt (by omega)]
theorem k_least5 (d : Nat) (h : cA M C) : f_X10_least (d + 1) (cM M C S) x (C + 5) = some (.inl (some (.int (pLst x (S.2 5)))), cM M C S) := by rw [s10_least (M := cM M C S) d h.2.2.2.2.2.2.2.1 (by omega), cLt (by omega)]; rfl
theorem k_atL11 (d : Nat) (h : cA M C) (hk : k < 26) : f_X10_at_ (d + 1) (cM M C S) (C + 11) (nI k) = some (.inl (some (.long (S.2 11 k))), cM M C S) := by rw [s10_atL (M := cM M C S) d h.2.2.2.2.2.2.2.2.2.2.2.2.1 hk, cLt (by omega)]
theorem k_putL11 (d : Nat) (h : cA M C) (hk : k < 26) : f_X10_put_ (d + 1) (cM M C S) (C + 11) (nI k) y = some (.inl none, cM M C (cwl S 11 k y)) := by rw [s10_putL (M := cM M C S) d h.2.2.2.2.2.2.2.2.2.2.2.2.1 hk, cwLt (by omega)]
theorem k_least11 (d : Nat) (h : cA M C) : f_X10_least (d + 1) (cM M C S) x (C + 11) = some (.inl (some (.int (pLst x (S.2 11)))), cM M C S) := by rw [s10_least (M := cM M C S) d h.2.2.2.2.2.2.2.2.2.2.2.2.1 (by omega), cLt (by omega)]; rfl
theorem k_atL12 (d : Nat) (h : cA M C) (hk : k < 26) : f_X10_at_ (d + 1) (cM M C S) (C + 12) (nI k) = some (.inl (some (.long (S.2 12 k))), cM M C S) := by rw [s10_atL (M := cM M C S) d h.2.2.2.2.2.2.2.2.2.2.2.2.2 hk, cLt (by omega)]
theorem k_putL12 (d : Nat) (h : cA M C) (hk : k < 26) : f_X10_put_ (d + 1) (cM M C S) (C + 12) (nI k) y = some (.inl none, cM M C (cwl S 12 k y)) := by rw [s10_putL (M := cM M C S) d h.2.2.2.2.2.2.2.2.2.2.2.2.2 hk, cwLt (by omega)]
theorem k_least12 (d : Nat) (h : cA M C) : f_X10_least (d + 1) (cM M C S) x (C + 12) = some (.inl (some (.int (pLst x (S.2 12)))), cM M C S) := by rw [s10_least (M := cM M C S) d h.2.2.2.2.2.2.2.2.2.2.2.2.2 (by omega), cLt (by omega)]; rfl
end Cm
