/-! THE REFERENCE, as a window of its own: the object o, its row (heads H, units V), its other cells X; printed by wip/whole/src/pp.py -/
def rM (M : LM) (o : Nat) (H : Nat → Int32) (V X : Nat → Nat → Int32) : LM :=
  (fun b j => if b = o + 1 then (if j < 980 then H j else V ((j - 980) / 662) ((j - 980) % 662)) else if o ≤ b ∧ b < o + 77 then X (b - o) j else mI M b j, M.2)
section Rf
variable {M : LM} {o j k u w t q c : Nat} {H : Nat → Int32} {V X : Nat → Nat → Int32} {U : Nat → Int32} {v : Int32} {β : Type}
theorem x_ck {x : Option β} (h : mK M j = c) : lt_ck M j c x = x := if_pos h
theorem x_rf {f : Nat → Option β} : lt_rf (some q) f = f q := rfl
theorem x_m {f : LM → β} : lt_m M f = f M := rfl
theorem x_if1 {α : Type} {p : Prop} [Decidable p] {x z : α} : (if (if p then (1 : Int32) else 0) = 0 then x else z) = if p then z else x := by
  by_cases h : p
  · rw [if_pos h, if_pos h, if_neg (by decide)]
  · rw [if_neg h, if_neg h, if_pos rfl]
theorem x_eq1 {α : Type} {p : Prop} [Decidable p] {x z : α} : (if (if p then (1 : Int32) else 0) = 1 then x else z) = if p then x else z := by
  by_cases h : p
  · rw [if_pos h, if_pos h, if_pos rfl]
  · rw [if_neg h, if_neg h, if_neg (by decide)]
theorem x_10 : ((1 : Int32) = 0) = False := eq_false (by decide)
theorem x_01 : ((0 : Int32) = 1) = False := eq_false (by decide)
theorem x_11 : ((1 : Int32) = 1) = True := eq_true rfl
theorem x_00 : ((0 : Int32) = 0) = True := eq_true rfl
theorem u2_eq {F : Nat → Nat → Int32} : u2 F t j v t j = v := if_pos ⟨rfl, rfl⟩
theorem u2_n1 {F : Nat → Nat → Int32} {t' : Nat} (h : t' ≠ t) : u2 F t j v t' = F t' := funext fun i => if_neg fun e => h e.1
theorem u2_n2 {F : Nat → Nat → Int32} {j' : Nat} (h : j' ≠ j) : u2 F t j v t j' = F t j' := if_neg fun e => h e.2
theorem rM_u (hw : w < 662) : mI (rM M o H (u1 V u U) X) (o + 1) (980 + 662 * u + w) = U w := by
  show (if o + 1 = o + 1 then (if 980 + 662 * u + w < 980 then H (980 + 662 * u + w) else (u1 V u U) ((980 + 662 * u + w - 980) / 662) ((980 + 662 * u + w - 980) % 662)) else _) = _
  have h1 : (980 + 662 * u + w - 980) / 662 = u := by omega
  have h2 : (980 + 662 * u + w - 980) % 662 = w := by omega
  rw [if_pos rfl, if_neg (by omega), h1, h2]
  unfold u1
  rw [if_pos rfl]
theorem rM_h (hj : j < 980) : mI (rM M o H V X) (o + 1) j = H j := by
  show (if o + 1 = o + 1 then (if j < 980 then H j else _) else _) = _
  rw [if_pos rfl, if_pos hj]
theorem rM_f : mI (rM M o H V X) o j = X 0 j := by
  show (if o = o + 1 then _ else if o ≤ o ∧ o < o + 77 then X (o - o) j else _) = _
  rw [if_neg (by omega), if_pos (by omega), Nat.sub_self]
theorem rM_x (h1 : t ≠ 1) (ht : t < 77) : mI (rM M o H V X) (o + t) j = X t j := by
  show (if o + t = o + 1 then _ else if o ≤ o + t ∧ o + t < o + 77 then X (o + t - o) j else _) = _
  rw [if_neg (by omega), if_pos (by omega), Nat.add_sub_cancel_left]
theorem rM_wu (hw : w < 662) : wI (rM M o H (u1 V u U) X) (o + 1) (980 + 662 * u + w) v = rM M o H (u1 V u (upd U w v)) X := by
  refine Prod.ext (funext fun b => funext fun i => ?_) rfl
  show (if b = o + 1 ∧ i = 980 + 662 * u + w then v else (if b = o + 1 then (if i < 980 then H i else (u1 V u U) ((i - 980) / 662) ((i - 980) % 662)) else if o ≤ b ∧ b < o + 77 then X (b - o) i else mI M b i)) =
    (if b = o + 1 then (if i < 980 then H i else (u1 V u (upd U w v)) ((i - 980) / 662) ((i - 980) % 662)) else if o ≤ b ∧ b < o + 77 then X (b - o) i else mI M b i)
  by_cases hb : b = o + 1
  · rw [if_pos hb]
    by_cases hi : i = 980 + 662 * u + w
    · have h1 : (i - 980) / 662 = u := by omega
      have h2 : (i - 980) % 662 = w := by omega
      rw [if_pos ⟨hb, hi⟩, if_pos hb, if_neg (by omega), h1, h2]
      unfold u1 upd
      rw [if_pos rfl, if_pos rfl]
    · rw [if_neg (fun e => hi e.2), if_pos hb]
      by_cases hl : i < 980
      · rw [if_pos hl, if_pos hl]
      · rw [if_neg hl, if_neg hl]
        unfold u1
        by_cases h1 : (i - 980) / 662 = u
        · rw [if_pos h1, if_pos h1]
          unfold upd
          rw [if_neg (by omega)]
        · rw [if_neg h1, if_neg h1]
  · rw [if_neg (fun e => hb e.1), if_neg hb, if_neg hb]
theorem rM_wh (hj : j < 980) : wI (rM M o H V X) (o + 1) j v = rM M o (upd H j v) V X := by
  refine Prod.ext (funext fun b => funext fun i => ?_) rfl
  show (if b = o + 1 ∧ i = j then v else (if b = o + 1 then (if i < 980 then H i else V ((i - 980) / 662) ((i - 980) % 662)) else if o ≤ b ∧ b < o + 77 then X (b - o) i else mI M b i)) =
    (if b = o + 1 then (if i < 980 then upd H j v i else V ((i - 980) / 662) ((i - 980) % 662)) else if o ≤ b ∧ b < o + 77 then X (b - o) i else mI M b i)
  unfold upd
  by_cases hb : b = o + 1
  · by_cases hi : i = j
    · rw [if_pos ⟨hb, hi⟩, if_pos hb, if_pos (by omega), if_pos hi]
    · rw [if_neg (fun e => hi e.2), if_pos hb, if_pos hb, if_neg hi]
  · rw [if_neg (fun e => hb e.1), if_neg hb, if_neg hb]
theorem rM_wx (h1 : t ≠ 1) (ht : t < 77) : wI (rM M o H V X) (o + t) j v = rM M o H V (u2 X t j v) := by
  refine Prod.ext (funext fun b => funext fun i => ?_) rfl
  show (if b = o + t ∧ i = j then v else (if b = o + 1 then (if i < 980 then H i else V ((i - 980) / 662) ((i - 980) % 662)) else if o ≤ b ∧ b < o + 77 then X (b - o) i else mI M b i)) =
    (if b = o + 1 then (if i < 980 then H i else V ((i - 980) / 662) ((i - 980) % 662)) else if o ≤ b ∧ b < o + 77 then (u2 X t j v) (b - o) i else mI M b i)
  unfold u2
  by_cases hb : b = o + t
  · have q1 : ¬ b = o + 1 := by omega
    have q2 : o ≤ b ∧ b < o + 77 := by omega
    rw [if_neg q1, if_neg q1, if_pos q2, if_pos q2]
    by_cases hi : i = j
    · rw [if_pos ⟨hb, hi⟩, if_pos ⟨by omega, hi⟩]
    · rw [if_neg (fun e => hi e.2), if_neg (fun e => hi e.2)]
  · rw [if_neg (fun e => hb e.1)]
    by_cases h2 : b = o + 1
    · rw [if_pos h2, if_pos h2]
    · rw [if_neg h2, if_neg h2]
      by_cases h3 : o ≤ b ∧ b < o + 77
      · rw [if_pos h3, if_pos h3, if_neg (by omega)]
      · rw [if_neg h3, if_neg h3]
theorem rM_wf : wI (rM M o H V X) o j v = rM M o H V (u2 X 0 j v) := rM_wx (t := 0) (by omega) (by omega)
theorem u1_id : u1 V u (V u) = V := funext fun b => by
  unfold u1
  split
  · rename_i h; rw [h]
  · rfl
theorem u1_same : u1 V u U u = U := if_pos rfl
theorem u1_u1 {U' : Nat → Int32} : u1 (u1 V u U) u U' = u1 V u U' := funext fun b => by
  unfold u1
  split <;> rfl
theorem r_nz {x : Option β} (h : v ≠ 0) : lt_nz v x = x := if_neg h
theorem rM_id : rM M o (mI M (o + 1)) (fun u w => mI M (o + 1) (980 + 662 * u + w)) (fun t j => mI M (o + t) j) = M := by
  refine Prod.ext (funext fun b => funext fun i => ?_) rfl
  show (if b = o + 1 then (if i < 980 then mI M (o + 1) i else mI M (o + 1) (980 + 662 * ((i - 980) / 662) + (i - 980) % 662)) else if o ≤ b ∧ b < o + 77 then mI M (o + (b - o)) i else mI M b i) = mI M b i
  by_cases hb : b = o + 1
  · rw [if_pos hb]
    by_cases hi : i < 980
    · rw [if_pos hi, hb]
    · rw [if_neg hi, hb, show 980 + 662 * ((i - 980) / 662) + (i - 980) % 662 = i by omega]
  · rw [if_neg hb]
    by_cases h3 : o ≤ b ∧ b < o + 77
    · rw [if_pos h3, show o + (b - o) = b by omega]
    · rw [if_neg h3]
end Rf
def RA (M : LM) (o : Nat) : Prop := mK M o = 27 ∧ mP M o 2 = some (o + 2) ∧ mK M (o + 2) = 7 ∧ mZ M (o + 2) = 6 ∧ mP M o 30 = some (o + 20) ∧ mK M (o + 20) = 7 ∧ mZ M (o + 20) = 26 ∧ mP M o 31 = some (o + 47) ∧ mK M (o + 47) = 8 ∧ mZ M (o + 47) = 26 ∧ (∀ j, j < 6 → mK M (o + 3 + j) = 1 ∧ mZ M (o + 3 + j) = 12896) ∧ (∀ j, j < 26 → mP M (o + 20) j = some (o + 21 + j) ∧ mK M (o + 21 + j) = 1 ∧ mZ M (o + 21 + j) = 6) ∧ (∀ j, j < 26 → mP M (o + 47) j = some (o + 48 + j) ∧ mK M (o + 48 + j) = 3 ∧ mZ M (o + 48 + j) = 6) ∧ (mP M o 1 = some (o + 1) ∧ mK M (o + 1) = 1 ∧ mZ M (o + 1) = 12896) ∧ (mP M o 5 = some (o + 9) ∧ mK M (o + 9) = 3 ∧ mZ M (o + 9) = 26) ∧ (mP M o 6 = some (o + 10) ∧ mK M (o + 10) = 1 ∧ mZ M (o + 10) = 26) ∧ (mP M o 7 = some (o + 11) ∧ mK M (o + 11) = 1 ∧ mZ M (o + 11) = 26) ∧ (mP M o 9 = some (o + 12) ∧ mK M (o + 12) = 1 ∧ mZ M (o + 12) = 26) ∧ (mP M o 10 = some (o + 13) ∧ mK M (o + 13) = 1 ∧ mZ M (o + 13) = 26) ∧ (mP M o 11 = some (o + 14) ∧ mK M (o + 14) = 1 ∧ mZ M (o + 14) = 26) ∧ (mP M o 13 = some (o + 15) ∧ mK M (o + 15) = 1 ∧ mZ M (o + 15) = 26) ∧ (mP M o 19 = some (o + 16) ∧ mK M (o + 16) = 1 ∧ mZ M (o + 16) = 200) ∧ (mP M o 23 = some (o + 17) ∧ mK M (o + 17) = 1 ∧ mZ M (o + 17) = 12) ∧ (mP M o 26 = some (o + 18) ∧ mK M (o + 18) = 3 ∧ mZ M (o + 18) = 26) ∧ (mP M o 27 = some (o + 19) ∧ mK M (o + 19) = 1 ∧ mZ M (o + 19) = 26) ∧ (mP M o 32 = some (o + 74) ∧ mK M (o + 74) = 1 ∧ mZ M (o + 74) = 26) ∧ (mP M o 33 = some (o + 75) ∧ mK M (o + 75) = 1 ∧ mZ M (o + 75) = 2) ∧ (mP M o 34 = some (o + 76) ∧ mK M (o + 76) = 1 ∧ mZ M (o + 76) = 13)
section Rg
variable {M : LM} {o j k u w : Nat} {H : Nat → Int32} {V X : Nat → Nat → Int32} {U : Nat → Int32} {x : Option (LO × LM)} {v : Int32}
theorem r_p1 (h : RA M o) : mP (rM M o H V X) o 1 = some (o + 1) := (h.2.2.2.2.2.2.2.2.2.2.2.2.2.1).1
theorem r_ar1 (h : RA M o) (hj : j < 12896) : lt_ar (rM M o H V X) (o + 1) 1 (nI j) x = x := lt_ar_t (M := rM M o H V X) (h.2.2.2.2.2.2.2.2.2.2.2.2.2.1).2.1 (by show _ ∧ _ < (mZ M (o + 1) : Int); rw [(h.2.2.2.2.2.2.2.2.2.2.2.2.2.1).2.2]; exact lt_iI hj (by omega))
theorem r_p5 (h : RA M o) : mP (rM M o H V X) o 5 = some (o + 9) := (h.2.2.2.2.2.2.2.2.2.2.2.2.2.2.1).1
theorem r_ar9 (h : RA M o) (hj : j < 26) : lt_ar (rM M o H V X) (o + 9) 3 (nI j) x = x := lt_ar_t (M := rM M o H V X) (h.2.2.2.2.2.2.2.2.2.2.2.2.2.2.1).2.1 (by show _ ∧ _ < (mZ M (o + 9) : Int); rw [(h.2.2.2.2.2.2.2.2.2.2.2.2.2.2.1).2.2]; exact lt_iI hj (by omega))
theorem r_p6 (h : RA M o) : mP (rM M o H V X) o 6 = some (o + 10) := (h.2.2.2.2.2.2.2.2.2.2.2.2.2.2.2.1).1
theorem r_ar10 (h : RA M o) (hj : j < 26) : lt_ar (rM M o H V X) (o + 10) 1 (nI j) x = x := lt_ar_t (M := rM M o H V X) (h.2.2.2.2.2.2.2.2.2.2.2.2.2.2.2.1).2.1 (by show _ ∧ _ < (mZ M (o + 10) : Int); rw [(h.2.2.2.2.2.2.2.2.2.2.2.2.2.2.2.1).2.2]; exact lt_iI hj (by omega))
theorem r_p7 (h : RA M o) : mP (rM M o H V X) o 7 = some (o + 11) := (h.2.2.2.2.2.2.2.2.2.2.2.2.2.2.2.2.1).1
theorem r_ar11 (h : RA M o) (hj : j < 26) : lt_ar (rM M o H V X) (o + 11) 1 (nI j) x = x := lt_ar_t (M := rM M o H V X) (h.2.2.2.2.2.2.2.2.2.2.2.2.2.2.2.2.1).2.1 (by show _ ∧ _ < (mZ M (o + 11) : Int); rw [(h.2.2.2.2.2.2.2.2.2.2.2.2.2.2.2.2.1).2.2]; exact lt_iI hj (by omega))
theorem r_p9 (h : RA M o) : mP (rM M o H V X) o 9 = some (o + 12) := (h.2.2.2.2.2.2.2.2.2.2.2.2.2.2.2.2.2.1).1
theorem r_ar12 (h : RA M o) (hj : j < 26) : lt_ar (rM M o H V X) (o + 12) 1 (nI j) x = x := lt_ar_t (M := rM M o H V X) (h.2.2.2.2.2.2.2.2.2.2.2.2.2.2.2.2.2.1).2.1 (by show _ ∧ _ < (mZ M (o + 12) : Int); rw [(h.2.2.2.2.2.2.2.2.2.2.2.2.2.2.2.2.2.1).2.2]; exact lt_iI hj (by omega))
theorem r_p10 (h : RA M o) : mP (rM M o H V X) o 10 = some (o + 13) := (h.2.2.2.2.2.2.2.2.2.2.2.2.2.2.2.2.2.2.1).1
theorem r_ar13 (h : RA M o) (hj : j < 26) : lt_ar (rM M o H V X) (o + 13) 1 (nI j) x = x := lt_ar_t (M := rM M o H V X) (h.2.2.2.2.2.2.2.2.2.2.2.2.2.2.2.2.2.2.1).2.1 (by show _ ∧ _ < (mZ M (o + 13) : Int); rw [(h.2.2.2.2.2.2.2.2.2.2.2.2.2.2.2.2.2.2.1).2.2]; exact lt_iI hj (by omega))
theorem r_p11 (h : RA M o) : mP (rM M o H V X) o 11 = some (o + 14) := (h.2.2.2.2.2.2.2.2.2.2.2.2.2.2.2.2.2.2.2.1).1
theorem r_ar14 (h : RA M o) (hj : j < 26) : lt_ar (rM M o H V X) (o + 14) 1 (nI j) x = x := lt_ar_t (M := rM M o H V X) (h.2.2.2.2.2.2.2.2.2.2.2.2.2.2.2.2.2.2.2.1).2.1 (by show _ ∧ _ < (mZ M (o + 14) : Int); rw [(h.2.2.2.2.2.2.2.2.2.2.2.2.2.2.2.2.2.2.2.1).2.2]; exact lt_iI hj (by omega))
theorem r_p13 (h : RA M o) : mP (rM M o H V X) o 13 = some (o + 15) := (h.2.2.2.2.2.2.2.2.2.2.2.2.2.2.2.2.2.2.2.2.1).1
theorem r_ar15 (h : RA M o) (hj : j < 26) : lt_ar (rM M o H V X) (o + 15) 1 (nI j) x = x := lt_ar_t (M := rM M o H V X) (h.2.2.2.2.2.2.2.2.2.2.2.2.2.2.2.2.2.2.2.2.1).2.1 (by show _ ∧ _ < (mZ M (o + 15) : Int); rw [(h.2.2.2.2.2.2.2.2.2.2.2.2.2.2.2.2.2.2.2.2.1).2.2]; exact lt_iI hj (by omega))
theorem r_p19 (h : RA M o) : mP (rM M o H V X) o 19 = some (o + 16) := (h.2.2.2.2.2.2.2.2.2.2.2.2.2.2.2.2.2.2.2.2.2.1).1
theorem r_ar16 (h : RA M o) (hj : j < 200) : lt_ar (rM M o H V X) (o + 16) 1 (nI j) x = x := lt_ar_t (M := rM M o H V X) (h.2.2.2.2.2.2.2.2.2.2.2.2.2.2.2.2.2.2.2.2.2.1).2.1 (by show _ ∧ _ < (mZ M (o + 16) : Int); rw [(h.2.2.2.2.2.2.2.2.2.2.2.2.2.2.2.2.2.2.2.2.2.1).2.2]; exact lt_iI hj (by omega))
theorem r_p23 (h : RA M o) : mP (rM M o H V X) o 23 = some (o + 17) := (h.2.2.2.2.2.2.2.2.2.2.2.2.2.2.2.2.2.2.2.2.2.2.1).1
theorem r_ar17 (h : RA M o) (hj : j < 12) : lt_ar (rM M o H V X) (o + 17) 1 (nI j) x = x := lt_ar_t (M := rM M o H V X) (h.2.2.2.2.2.2.2.2.2.2.2.2.2.2.2.2.2.2.2.2.2.2.1).2.1 (by show _ ∧ _ < (mZ M (o + 17) : Int); rw [(h.2.2.2.2.2.2.2.2.2.2.2.2.2.2.2.2.2.2.2.2.2.2.1).2.2]; exact lt_iI hj (by omega))
theorem r_p26 (h : RA M o) : mP (rM M o H V X) o 26 = some (o + 18) := (h.2.2.2.2.2.2.2.2.2.2.2.2.2.2.2.2.2.2.2.2.2.2.2.1).1
theorem r_ar18 (h : RA M o) (hj : j < 26) : lt_ar (rM M o H V X) (o + 18) 3 (nI j) x = x := lt_ar_t (M := rM M o H V X) (h.2.2.2.2.2.2.2.2.2.2.2.2.2.2.2.2.2.2.2.2.2.2.2.1).2.1 (by show _ ∧ _ < (mZ M (o + 18) : Int); rw [(h.2.2.2.2.2.2.2.2.2.2.2.2.2.2.2.2.2.2.2.2.2.2.2.1).2.2]; exact lt_iI hj (by omega))
theorem r_p27 (h : RA M o) : mP (rM M o H V X) o 27 = some (o + 19) := (h.2.2.2.2.2.2.2.2.2.2.2.2.2.2.2.2.2.2.2.2.2.2.2.2.1).1
theorem r_ar19 (h : RA M o) (hj : j < 26) : lt_ar (rM M o H V X) (o + 19) 1 (nI j) x = x := lt_ar_t (M := rM M o H V X) (h.2.2.2.2.2.2.2.2.2.2.2.2.2.2.2.2.2.2.2.2.2.2.2.2.1).2.1 (by show _ ∧ _ < (mZ M (o + 19) : Int); rw [(h.2.2.2.2.2.2.2.2.2.2.2.2.2.2.2.2.2.2.2.2.2.2.2.2.1).2.2]; exact lt_iI hj (by omega))
theorem r_p32 (h : RA M o) : mP (rM M o H V X) o 32 = some (o + 74) := (h.2.2.2.2.2.2.2.2.2.2.2.2.2.2.2.2.2.2.2.2.2.2.2.2.2.1).1
theorem r_ar74 (h : RA M o) (hj : j < 26) : lt_ar (rM M o H V X) (o + 74) 1 (nI j) x = x := lt_ar_t (M := rM M o H V X) (h.2.2.2.2.2.2.2.2.2.2.2.2.2.2.2.2.2.2.2.2.2.2.2.2.2.1).2.1 (by show _ ∧ _ < (mZ M (o + 74) : Int); rw [(h.2.2.2.2.2.2.2.2.2.2.2.2.2.2.2.2.2.2.2.2.2.2.2.2.2.1).2.2]; exact lt_iI hj (by omega))
theorem r_p33 (h : RA M o) : mP (rM M o H V X) o 33 = some (o + 75) := (h.2.2.2.2.2.2.2.2.2.2.2.2.2.2.2.2.2.2.2.2.2.2.2.2.2.2.1).1
theorem r_ar75 (h : RA M o) (hj : j < 2) : lt_ar (rM M o H V X) (o + 75) 1 (nI j) x = x := lt_ar_t (M := rM M o H V X) (h.2.2.2.2.2.2.2.2.2.2.2.2.2.2.2.2.2.2.2.2.2.2.2.2.2.2.1).2.1 (by show _ ∧ _ < (mZ M (o + 75) : Int); rw [(h.2.2.2.2.2.2.2.2.2.2.2.2.2.2.2.2.2.2.2.2.2.2.2.2.2.2.1).2.2]; exact lt_iI hj (by omega))
theorem r_p34 (h : RA M o) : mP (rM M o H V X) o 34 = some (o + 76) := (h.2.2.2.2.2.2.2.2.2.2.2.2.2.2.2.2.2.2.2.2.2.2.2.2.2.2.2).1
theorem r_ar76 (h : RA M o) (hj : j < 13) : lt_ar (rM M o H V X) (o + 76) 1 (nI j) x = x := lt_ar_t (M := rM M o H V X) (h.2.2.2.2.2.2.2.2.2.2.2.2.2.2.2.2.2.2.2.2.2.2.2.2.2.2.2).2.1 (by show _ ∧ _ < (mZ M (o + 76) : Int); rw [(h.2.2.2.2.2.2.2.2.2.2.2.2.2.2.2.2.2.2.2.2.2.2.2.2.2.2.2).2.2]; exact lt_iI hj (by omega))
theorem r_ck (h : RA M o) : lt_ck (rM M o H V X) o 27 x = x := lt_ck_t (M := rM M o H V X) h.1
theorem RA.rA (h : RA M o) : rA (rM M o H V X) o (o + 1) := ⟨h.1, (h.2.2.2.2.2.2.2.2.2.2.2.2.2.1).1, (h.2.2.2.2.2.2.2.2.2.2.2.2.2.1).2.1, (h.2.2.2.2.2.2.2.2.2.2.2.2.2.1).2.2⟩
theorem r_ar1L0 (h : RA M o) : lt_ar (rM M o H V X) (o + 1) 1 0 x = x := r_ar1 (j := 0) h (by omega)
theorem lt_n0_ : lt_n 0 = 0 := rfl
theorem r_ar1L1 (h : RA M o) : lt_ar (rM M o H V X) (o + 1) 1 1 x = x := r_ar1 (j := 1) h (by omega)
theorem lt_n1_ : lt_n 1 = 1 := rfl
theorem n2_ : (2 : Int32) + nI k = nI (2 + k) := lt_iA (j := 2) (k := k)
theorem n4_ : (4 : Int32) + nI k = nI (4 + k) := lt_iA (j := 4) (k := k)
theorem n12_ : (12 : Int32) + nI k = nI (12 + k) := lt_iA (j := 12) (k := k)
theorem n24_ : (24 : Int32) + nI k = nI (24 + k) := lt_iA (j := 24) (k := k)
theorem n28_ : (28 : Int32) + nI k = nI (28 + k) := lt_iA (j := 28) (k := k)
theorem n50_ : (50 : Int32) + nI k = nI (50 + k) := lt_iA (j := 50) (k := k)
theorem n54_ : (54 : Int32) + nI k = nI (54 + k) := lt_iA (j := 54) (k := k)
theorem n76_ : (76 : Int32) + nI k = nI (76 + k) := lt_iA (j := 76) (k := k)
theorem n80_ : (80 : Int32) + nI k = nI (80 + k) := lt_iA (j := 80) (k := k)
theorem n102_ : (102 : Int32) + nI k = nI (102 + k) := lt_iA (j := 102) (k := k)
theorem n128_ : (128 : Int32) + nI k = nI (128 + k) := lt_iA (j := 128) (k := k)
theorem n154_ : (154 : Int32) + nI k = nI (154 + k) := lt_iA (j := 154) (k := k)
theorem n180_ : (180 : Int32) + nI k = nI (180 + k) := lt_iA (j := 180) (k := k)
theorem n206_ : (206 : Int32) + nI k = nI (206 + k) := lt_iA (j := 206) (k := k)
theorem n232_ : (232 : Int32) + nI k = nI (232 + k) := lt_iA (j := 232) (k := k)
theorem n258_ : (258 : Int32) + nI k = nI (258 + k) := lt_iA (j := 258) (k := k)
theorem n284_ : (284 : Int32) + nI k = nI (284 + k) := lt_iA (j := 284) (k := k)
theorem n310_ : (310 : Int32) + nI k = nI (310 + k) := lt_iA (j := 310) (k := k)
theorem n336_ : (336 : Int32) + nI k = nI (336 + k) := lt_iA (j := 336) (k := k)
theorem n362_ : (362 : Int32) + nI k = nI (362 + k) := lt_iA (j := 362) (k := k)
theorem n380_ : (380 : Int32) + nI k = nI (380 + k) := lt_iA (j := 380) (k := k)
theorem n680_ : (680 : Int32) + nI k = nI (680 + k) := lt_iA (j := 680) (k := k)
theorem r_get (d : Nat) (h : RA M o) (hu : u < 18) (hw : w < 662) : f_X11_get (d + 1) (rM M o H (u1 V u U) X) o (nI u) (nI w) = some (.inl (some (.int (U w))), rM M o H (u1 V u U) X) := by
  rw [s_get (M := rM M o H (u1 V u U) X) d h.rA (by omega), rM_u hw]
theorem r_put (d : Nat) (h : RA M o) (hu : u < 18) (hw : w < 662) : f_X11_put (d + 1) (rM M o H (u1 V u U) X) o (nI u) (nI w) v = some (.inl none, rM M o H (u1 V u (upd U w v)) X) := by
  rw [s_put (M := rM M o H (u1 V u U) X) d h.rA (by omega), rM_wu hw]
theorem r_more (d : Nat) (h : RA M o) (hu : u < 18) (hw : w < 662) : f_X11_more (d + 1) (rM M o H (u1 V u U) X) o (nI u) (nI w) v = some (.inl none, rM M o H (u1 V u (upd U w (U w + v))) X) := by
  rw [s_more (M := rM M o H (u1 V u U) X) d h.rA (by omega), rM_u hw, rM_wu hw]
theorem r_get0 (d : Nat) (h : RA M o) (hu : u < 18) : f_X11_get (d + 1) (rM M o H (u1 V u U) X) o (nI u) 0 = some (.inl (some (.int (U 0))), rM M o H (u1 V u U) X) := r_get (w := 0) d h hu (by omega)
theorem r_get1 (d : Nat) (h : RA M o) (hu : u < 18) : f_X11_get (d + 1) (rM M o H (u1 V u U) X) o (nI u) 1 = some (.inl (some (.int (U 1))), rM M o H (u1 V u U) X) := r_get (w := 1) d h hu (by omega)
theorem r_get2 (d : Nat) (h : RA M o) (hu : u < 18) : f_X11_get (d + 1) (rM M o H (u1 V u U) X) o (nI u) 2 = some (.inl (some (.int (U 2))), rM M o H (u1 V u U) X) := r_get (w := 2) d h hu (by omega)
theorem r_get3 (d : Nat) (h : RA M o) (hu : u < 18) : f_X11_get (d + 1) (rM M o H (u1 V u U) X) o (nI u) 3 = some (.inl (some (.int (U 3))), rM M o H (u1 V u U) X) := r_get (w := 3) d h hu (by omega)
theorem r_get4 (d : Nat) (h : RA M o) (hu : u < 18) : f_X11_get (d + 1) (rM M o H (u1 V u U) X) o (nI u) 4 = some (.inl (some (.int (U 4))), rM M o H (u1 V u U) X) := r_get (w := 4) d h hu (by omega)
theorem r_get8 (d : Nat) (h : RA M o) (hu : u < 18) : f_X11_get (d + 1) (rM M o H (u1 V u U) X) o (nI u) 8 = some (.inl (some (.int (U 8))), rM M o H (u1 V u U) X) := r_get (w := 8) d h hu (by omega)
theorem r_get9 (d : Nat) (h : RA M o) (hu : u < 18) : f_X11_get (d + 1) (rM M o H (u1 V u U) X) o (nI u) 9 = some (.inl (some (.int (U 9))), rM M o H (u1 V u U) X) := r_get (w := 9) d h hu (by omega)
theorem r_get10 (d : Nat) (h : RA M o) (hu : u < 18) : f_X11_get (d + 1) (rM M o H (u1 V u U) X) o (nI u) 10 = some (.inl (some (.int (U 10))), rM M o H (u1 V u U) X) := r_get (w := 10) d h hu (by omega)
theorem r_get11 (d : Nat) (h : RA M o) (hu : u < 18) : f_X11_get (d + 1) (rM M o H (u1 V u U) X) o (nI u) 11 = some (.inl (some (.int (U 11))), rM M o H (u1 V u U) X) := r_get (w := 11) d h hu (by omega)
theorem r_get12 (d : Nat) (h : RA M o) (hu : u < 18) : f_X11_get (d + 1) (rM M o H (u1 V u U) X) o (nI u) 12 = some (.inl (some (.int (U 12))), rM M o H (u1 V u U) X) := r_get (w := 12) d h hu (by omega)
theorem r_get13 (d : Nat) (h : RA M o) (hu : u < 18) : f_X11_get (d + 1) (rM M o H (u1 V u U) X) o (nI u) 13 = some (.inl (some (.int (U 13))), rM M o H (u1 V u U) X) := r_get (w := 13) d h hu (by omega)
theorem r_put0 (d : Nat) (h : RA M o) (hu : u < 18) : f_X11_put (d + 1) (rM M o H (u1 V u U) X) o (nI u) 0 v = some (.inl none, rM M o H (u1 V u (upd U 0 v)) X) := r_put (w := 0) d h hu (by omega)
theorem r_put1 (d : Nat) (h : RA M o) (hu : u < 18) : f_X11_put (d + 1) (rM M o H (u1 V u U) X) o (nI u) 1 v = some (.inl none, rM M o H (u1 V u (upd U 1 v)) X) := r_put (w := 1) d h hu (by omega)
theorem r_put2 (d : Nat) (h : RA M o) (hu : u < 18) : f_X11_put (d + 1) (rM M o H (u1 V u U) X) o (nI u) 2 v = some (.inl none, rM M o H (u1 V u (upd U 2 v)) X) := r_put (w := 2) d h hu (by omega)
theorem r_put3 (d : Nat) (h : RA M o) (hu : u < 18) : f_X11_put (d + 1) (rM M o H (u1 V u U) X) o (nI u) 3 v = some (.inl none, rM M o H (u1 V u (upd U 3 v)) X) := r_put (w := 3) d h hu (by omega)
theorem r_put4 (d : Nat) (h : RA M o) (hu : u < 18) : f_X11_put (d + 1) (rM M o H (u1 V u U) X) o (nI u) 4 v = some (.inl none, rM M o H (u1 V u (upd U 4 v)) X) := r_put (w := 4) d h hu (by omega)
theorem r_put5 (d : Nat) (h : RA M o) (hu : u < 18) : f_X11_put (d + 1) (rM M o H (u1 V u U) X) o (nI u) 5 v = some (.inl none, rM M o H (u1 V u (upd U 5 v)) X) := r_put (w := 5) d h hu (by omega)
theorem r_put6 (d : Nat) (h : RA M o) (hu : u < 18) : f_X11_put (d + 1) (rM M o H (u1 V u U) X) o (nI u) 6 v = some (.inl none, rM M o H (u1 V u (upd U 6 v)) X) := r_put (w := 6) d h hu (by omega)
theorem r_put7 (d : Nat) (h : RA M o) (hu : u < 18) : f_X11_put (d + 1) (rM M o H (u1 V u U) X) o (nI u) 7 v = some (.inl none, rM M o H (u1 V u (upd U 7 v)) X) := r_put (w := 7) d h hu (by omega)
theorem r_put8 (d : Nat) (h : RA M o) (hu : u < 18) : f_X11_put (d + 1) (rM M o H (u1 V u U) X) o (nI u) 8 v = some (.inl none, rM M o H (u1 V u (upd U 8 v)) X) := r_put (w := 8) d h hu (by omega)
theorem r_put9 (d : Nat) (h : RA M o) (hu : u < 18) : f_X11_put (d + 1) (rM M o H (u1 V u U) X) o (nI u) 9 v = some (.inl none, rM M o H (u1 V u (upd U 9 v)) X) := r_put (w := 9) d h hu (by omega)
theorem r_put10 (d : Nat) (h : RA M o) (hu : u < 18) : f_X11_put (d + 1) (rM M o H (u1 V u U) X) o (nI u) 10 v = some (.inl none, rM M o H (u1 V u (upd U 10 v)) X) := r_put (w := 10) d h hu (by omega)
theorem r_put11 (d : Nat) (h : RA M o) (hu : u < 18) : f_X11_put (d + 1) (rM M o H (u1 V u U) X) o (nI u) 11 v = some (.inl none, rM M o H (u1 V u (upd U 11 v)) X) := r_put (w := 11) d h hu (by omega)
theorem r_more10 (d : Nat) (h : RA M o) (hu : u < 18) : f_X11_more (d + 1) (rM M o H (u1 V u U) X) o (nI u) 10 v = some (.inl none, rM M o H (u1 V u (upd U 10 (U 10 + v))) X) := r_more (w := 10) d h hu (by omega)
theorem r_more12 (d : Nat) (h : RA M o) (hu : u < 18) : f_X11_more (d + 1) (rM M o H (u1 V u U) X) o (nI u) 12 v = some (.inl none, rM M o H (u1 V u (upd U 12 (U 12 + v))) X) := r_more (w := 12) d h hu (by omega)
theorem r_more13 (d : Nat) (h : RA M o) (hu : u < 18) : f_X11_more (d + 1) (rM M o H (u1 V u U) X) o (nI u) 13 v = some (.inl none, rM M o H (u1 V u (upd U 13 (U 13 + v))) X) := r_more (w := 13) d h hu (by omega)
theorem r_more14 (d : Nat) (h : RA M o) (hu : u < 18) : f_X11_more (d + 1) (rM M o H (u1 V u U) X) o (nI u) 14 v = some (.inl none, rM M o H (u1 V u (upd U 14 (U 14 + v))) X) := r_more (w := 14) d h hu (by omega)
theorem r_more15 (d : Nat) (h : RA M o) (hu : u < 18) : f_X11_more (d + 1) (rM M o H (u1 V u U) X) o (nI u) 15 v = some (.inl none, rM M o H (u1 V u (upd U 15 (U 15 + v))) X) := r_more (w := 15) d h hu (by omega)
theorem r_more16 (d : Nat) (h : RA M o) (hu : u < 18) : f_X11_more (d + 1) (rM M o H (u1 V u U) X) o (nI u) 16 v = some (.inl none, rM M o H (u1 V u (upd U 16 (U 16 + v))) X) := r_more (w := 16) d h hu (by omega)
theorem r_more17 (d : Nat) (h : RA M o) (hu : u < 18) : f_X11_more (d + 1) (rM M o H (u1 V u U) X) o (nI u) 17 v = some (.inl none, rM M o H (u1 V u (upd U 17 (U 17 + v))) X) := r_more (w := 17) d h hu (by omega)
theorem r_more18 (d : Nat) (h : RA M o) (hu : u < 18) : f_X11_more (d + 1) (rM M o H (u1 V u U) X) o (nI u) 18 v = some (.inl none, rM M o H (u1 V u (upd U 18 (U 18 + v))) X) := r_more (w := 18) d h hu (by omega)
theorem r_more19 (d : Nat) (h : RA M o) (hu : u < 18) : f_X11_more (d + 1) (rM M o H (u1 V u U) X) o (nI u) 19 v = some (.inl none, rM M o H (u1 V u (upd U 19 (U 19 + v))) X) := r_more (w := 19) d h hu (by omega)
theorem r_more20 (d : Nat) (h : RA M o) (hu : u < 18) : f_X11_more (d + 1) (rM M o H (u1 V u U) X) o (nI u) 20 v = some (.inl none, rM M o H (u1 V u (upd U 20 (U 20 + v))) X) := r_more (w := 20) d h hu (by omega)
end Rg
