/-! THE CLASS, the cursor -/
def QA (M : LM) (U : Nat) : Prop := mK M U = 18 ∧ mP M U 5 = some (U + 1) ∧ aI M (U + 1) 26
/-- the keys that are left when the first ones of the order are taken away -/
def kLeft (S : CS) (h : Int32) : Nat → Int32
  | 0 => h
  | j + 1 => kLeft S h j &&& (obb (kFirst S (kLeft S h j)) ^^^ -1)
def kOpen (S : CS) (len : Nat) (num : Int32) (Z : CS) : CS := (u1 (u2 (u2 (u2 (u2 (u2 Z.1 0 0 1) 0 1 0) 0 2 num) 0 4 0) 0 3 (nI len)) 1 (fun j => if j < len then oI (kFirst S (kLeft S (S.1 0 5) j)) else Z.1 1 j), Z.2)
section Cz
variable {M : LM} {U R C n m i j k t o x len : Nat} {Z S S' : CS} {v num : Int32} {z : Option (LO × LM)}
theorem cwi_z (h : i ≠ t) : (cwi Z t j v).1 i = Z.1 i := z2_n1 h
theorem cwi_e : (cwi Z t j v).1 t j = v := z2_eq
theorem kFirst_S (h : ∀ t, t < 15 → S.1 t = S'.1 t ∧ S.2 t = S'.2 t) : kFirst S = kFirst S' := funext fun these => by
  unfold kFirst
  rw [(h 0 (by omega)).1, (h 12 (by omega)).2, (h 4 (by omega)).2, (h 3 (by omega)).2, (h 5 (by omega)).2]
theorem kLeft_S (h : kFirst S = kFirst S') {v : Int32} : ∀ j, kLeft S v j = kLeft S' v j
  | 0 => rfl
  | j + 1 => by
    show kLeft S v j &&& (obb (kFirst S (kLeft S v j)) ^^^ -1) = kLeft S' v j &&& (obb (kFirst S' (kLeft S' v j)) ^^^ -1)
    rw [kLeft_S h j, h]
/-- asked of a cache by its cells -/
theorem k_firstM (d : Nat) (h : cA M C) {these : Int32} : f_X1_firstOf (d + 2) M C these = some (.inl (some (.int (oI (kFirst (tG M C) these)))), M) := by
  have := k_firstOf (M := M) (C := C) (S := tG M C) (these := these) d h
  rwa [show cM M C (tG M C) = M from cM_id] at this
theorem tG_g (hC : C + 15 ≤ U ∨ U + n ≤ C) : ∀ t, t < 15 → (tG (gM M U n Z) C).1 t = (tG M C).1 t ∧ (tG (gM M U n Z) C).2 t = (tG M C).2 t := fun t ht =>
  ⟨funext fun j => by show mI (gM M U n Z) (C + t) j = _; rw [gIo (by omega)]; rfl, funext fun j => by show mL (gM M U n Z) (C + t) j = _; rw [gLo (by omega)]; rfl⟩
theorem q_ck (h : QA M U) : lt_ck (gM M U 2 Z) U 18 z = z := lt_ck_t (M := gM M U 2 Z) h.1
theorem q_p (h : QA M U) : mP (gM M U 2 Z) U 5 = some (U + 1) := h.2.1
theorem q_close (d : Nat) (h : QA M U) : f_X2_close (d + 1) (gM M U 2 Z) U = some (.inl none, gM M U 2 (cwi (cwi Z 0 0 0) 0 1 0)) := by
  rw [e_X2_close, q_ck h, lt_b1_0, gwI0 (by omega), x_m, q_ck h, lt_b1_0, gwI0 (by omega), x_m]
theorem q_lastTold (d : Nat) (h : QA M U) (ht : Z.1 0 4 = nI (t + 1)) (hl : t < 26) : f_X2_lastTold (d + 2) (gM M U 2 Z) U = some (.inl (some (.int (Z.1 1 t))), gM M U 2 Z) := by
  rw [e_X2_lastTold, q_ck h, q_p h, x_rf, q_ck h, gI0 (by omega), ht, lt_sub1, gw_at d (by omega) h.2.2 hl, lt_bi_r]
theorem q_open_39 (d : Nat) (h : QA M U) (hC : C + 15 ≤ U ∨ U + 2 ≤ C) (hc : cA M C) (hl : len ≤ 26) : ∀ (m : Nat) (Z : CS), m ≤ len → Z.1 0 3 = nI len →
    f_X2_openOn_39 (d + 3) (gM M U 2 Z) U C (kLeft (tG M C) v (len - m)) (nI (len - m)) = some (.inl none, gM M U 2 (u1 Z.1 1 (fun j => if len - m ≤ j ∧ j < len then oI (kFirst (tG M C) (kLeft (tG M C) v j)) else Z.1 1 j), Z.2))
  | 0, Z, _, h3 => by
    have hlt : ¬ nI (len - 0) < Z.1 0 3 := by rw [h3, nI_ltP (by omega) (by omega)]; omega
    rw [e_X2_openOn_39, q_ck h, gI0 (by omega), if_neg hlt]
    have : (fun j => if len - 0 ≤ j ∧ j < len then oI (kFirst (tG M C) (kLeft (tG M C) v j)) else Z.1 1 j) = Z.1 1 := funext fun j => if_neg (by omega)
    rw [this, u1i]
  | m + 1, Z, hm, h3 => by
    have hlt : nI (len - (m + 1)) < Z.1 0 3 := by rw [h3, nI_ltP (by omega) (by omega)]; omega
    have g2 : nI (len - (m + 1)) + 1 = nI (len - m) := by
      rw [show nI (len - (m + 1)) + 1 = nI (len - (m + 1) + 1) from lt_iA (j := len - (m + 1)) (k := 1)]
      congr 1
      omega
    have hc' : cA (gM M U 2 Z) C := hc
    have ck : lt_ck (gM M U 2 Z) C 17 = fun z => z := funext fun z => lt_ck_t (M := gM M U 2 Z) hc.1.1
    have ef := k_firstM (M := gM M U 2 Z) (C := C) (these := kLeft (tG M C) v (len - (m + 1))) d hc'
    rw [kFirst_S (tG_g hC)] at ef
    have e1 : kLeft (tG M C) v (len - m) = kLeft (tG M C) v (len - (m + 1)) &&& (obb (kFirst (tG M C) (kLeft (tG M C) v (len - (m + 1)))) ^^^ -1) := by
      rw [show len - m = len - (m + 1) + 1 by omega]
      rfl
    have ih := q_open_39 d h hC hc hl m (cwi Z 1 (len - (m + 1)) (oI (kFirst (tG M C) (kLeft (tG M C) v (len - (m + 1)))))) (by omega) (by rw [cwi_z (by decide)]; exact h3)
    rw [e_X2_openOn_39, q_ck h, gI0 (by omega), if_pos hlt, ck]
    dsimp only
    rw [ef, lt_bi_r, q_ck h, q_p h, x_rf, gw_put (d + 1) (by omega) h.2.2 (by omega), lt_bv_r, k_bitO (d + 1) (fun j e => kFirst_lt j e), lt_bi_r, g2, ← e1, ih]
    congr 3
    refine Prod.ext (funext fun t => funext fun j => ?_) rfl
    show u1 (u2 Z.1 1 (len - (m + 1)) _) 1 _ t j = u1 Z.1 1 _ t j
    by_cases qt : t = 1
    · rw [qt, u1e, u1e]
      by_cases q : j = len - (m + 1)
      · rw [if_neg (by omega), if_pos (by omega), q]
        exact cwi_e
      · by_cases q2 : len - m ≤ j ∧ j < len
        · rw [if_pos q2, if_pos (by omega)]
        · rw [if_neg q2, if_neg (by omega)]
          exact z2_n2 q
    · rw [u1_n qt, u1_n qt, z2_n1 qt]
theorem q_openOn (d : Nat) (h : QA M U) (hC : C + 15 ≤ U ∨ U + 2 ≤ C) (hc : cA M C) (hl : len ≤ 26) (hp : pPop (mI M C 5) = nI len) : f_X2_openOn (d + 3) (gM M U 2 Z) U num C = some (.inl none, gM M U 2 (kOpen (tG M C) len num Z)) := by
  have ck : ∀ {Z : CS} {z : Option (LO × LM)}, lt_ck (gM M U 2 Z) C 17 z = z := fun {Z z} => lt_ck_t (M := gM M U 2 Z) hc.1.1
  have e := q_open_39 (M := M) (U := U) (C := C) (len := len) (v := mI M C 5) d h hC hc hl len (cwi (cwi (cwi (cwi (cwi Z 0 0 1) 0 1 0) 0 2 num) 0 4 0) 0 3 (nI len)) (Nat.le_refl _) cwi_e
  rw [Nat.sub_self] at e
  rw [e_X2_openOn, q_ck h, lt_b1_1, gwI0 (by omega), x_m, q_ck h, lt_b1_0, gwI0 (by omega), x_m, q_ck h, gwI0 (by omega), x_m, q_ck h, gwI0 (by omega), x_m, ck, gIo (o := C) (by omega), c_pop, hp, lt_bi_r, q_ck h, gwI0 (by omega), x_m, ck, gIo (o := C) (by omega)]
  refine e.trans ?_
  congr 3
  refine Prod.ext (funext fun t => funext fun j => ?_) rfl
  show u1 (u2 (u2 (u2 (u2 (u2 Z.1 0 0 1) 0 1 0) 0 2 num) 0 4 0) 0 3 (nI len)) 1 _ t j = u1 (u2 (u2 (u2 (u2 (u2 Z.1 0 0 1) 0 1 0) 0 2 num) 0 4 0) 0 3 (nI len)) 1 _ t j
  by_cases qt : t = 1
  · rw [qt, u1e, u1e]
    by_cases q2 : j < len
    · rw [if_pos (by omega), if_pos q2]
      rfl
    · rw [if_neg (by omega), if_neg q2]
      show u2 (u2 (u2 (u2 (u2 Z.1 0 0 1) 0 1 0) 0 2 num) 0 4 0) 0 3 (nI len) 1 j = _
      simp (disch := omega) only [z2_n1]
  · rw [u1_n qt, u1_n qt]
end Cz
