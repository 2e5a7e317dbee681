/-! THE REFERENCE over its row: memory is wRI M a S, S the row of numbers; each method is a function of S -/
section RS
variable {M : LM} {o a u w k j : Nat} {v x y : Int32} {S S' : Nat → Int32} {β : Type}
theorem wRI_wI {i : Nat} : wI (wRI M a S) a i v = wRI M a (upd S i v) := by
  refine Prod.ext (funext fun b => funext fun q => ?_) rfl
  show (if b = a ∧ q = i then v else (if b = a then S else mI M b) q) = (if b = a then upd S i v else mI M b) q
  by_cases hb : b = a
  · by_cases hq : q = i
    · rw [if_pos ⟨hb, hq⟩, if_pos hb]
      exact (if_pos hq).symm
    · rw [if_neg (fun e => hq e.2), if_pos hb, if_pos hb]
      exact (if_neg hq).symm
  · rw [if_neg (fun e => hb e.1), if_neg hb, if_neg hb]
theorem wRI_wRI : wRI (wRI M a S) a S' = wRI M a S' := by
  refine Prod.ext (funext fun b => ?_) rfl
  show (if b = a then S' else (if b = a then S else mI M b)) = if b = a then S' else mI M b
  by_cases hb : b = a
  · rw [if_pos hb, if_pos hb]
  · rw [if_neg hb, if_neg hb, if_neg hb]
theorem wRI_mI : mI (wRI M a S) a = S := if_pos rfl
/-- the row as it is -/
theorem wRI_id : wRI M a (mI M a) = M := by
  refine Prod.ext (funext fun b => ?_) rfl
  show (if b = a then mI M a else mI M b) = mI M b
  by_cases hb : b = a
  · rw [if_pos hb, hb]
  · rw [if_neg hb]
theorem rA.r (h : rA M o a) : rA (wRI M a S) o a := h
theorem lt_lit (hx : x = nI j) : x + nI k = nI (j + k) := by rw [hx]; exact lt_iA
/-- one step of the reference's code: a number read, written, raised, and on -/
theorem g_get (d : Nat) (h : rA M o a) (hx : x = nI w) (hb : 980 + 662 * u + w < 12896) (K : Int32 → LM → Option (LO × LM)) : lt_ck (wRI M a S) o 27 (lt_bi (f_X11_get (d + 1) (wRI M a S) o (nI u) x) [] K) = K (S (980 + 662 * u + w)) (wRI M a S) := by
  subst hx
  refine (lt_ck_t (M := wRI M a S) h.1).trans ?_
  rw [s_get d h.r hb, wRI_mI]
  rfl
theorem g_put (d : Nat) (h : rA M o a) (hx : x = nI w) (hb : 980 + 662 * u + w < 12896) (K : LM → Option (LO × LM)) : lt_ck (wRI M a S) o 27 (lt_bv (f_X11_put (d + 1) (wRI M a S) o (nI u) x v) [] K) = K (wRI M a (upd S (980 + 662 * u + w) v)) := by
  subst hx
  refine (lt_ck_t (M := wRI M a S) h.1).trans ?_
  rw [s_put d h.r hb, wRI_wI]
  rfl
theorem g_more (d : Nat) (h : rA M o a) (hx : x = nI w) (hb : 980 + 662 * u + w < 12896) (K : LM → Option (LO × LM)) : lt_ck (wRI M a S) o 27 (lt_bv (f_X11_more (d + 1) (wRI M a S) o (nI u) x v) [] K) = K (wRI M a (upd S (980 + 662 * u + w) (S (980 + 662 * u + w) + v))) := by
  subst hx
  refine (lt_ck_t (M := wRI M a S) h.1).trans ?_
  rw [s_more d h.r hb, wRI_wI, wRI_mI]
  rfl
/-- a number of the row itself -/
theorem g_row (h : rA M o a) (hx : x = nI j) (hb : j < 12896) (K : Int32 → Option (LO × LM)) : lt_ck (wRI M a S) o 27 (lt_rf (mP (wRI M a S) o 1) fun q => lt_ar (wRI M a S) q 1 x (K (mI (wRI M a S) q (lt_n x)))) = K (S j) := by
  subst hx
  obtain ⟨h1, h2, h3, h4⟩ := h
  refine (lt_ck_t (M := wRI M a S) h1).trans ?_
  rw [lt_rf_t (show mP (wRI M a S) o 1 = some a from h2), lt_ar_t (show mK (wRI M a S) a = 1 from h3) (by show _ ∧ _ < (mZ M a : Int); rw [h4]; exact lt_iI hb (by omega)), lt_iN (by omega), wRI_mI]
/-- a key goes -/
def pLeaves (S : Nat → Int32) (u k : Nat) : Nat → Int32 := upd (upd (upd (upd (upd S (996 + 662 * u) (S (996 + 662 * u) + S (1134 + 662 * u + k))) (1004 + 662 * u + k) 0) (1134 + 662 * u + k) 0) (1160 + 662 * u + k) 0) (1186 + 662 * u + k) 0
theorem r_leaves (d : Nat) (h : rA M o a) (hu : u < 18) (hk : k < 26) : f_X11_leaves (d + 2) (wRI M a S) o (nI u) (nI k) = some (.inl none, wRI M a (pLeaves S u k)) := by
  rw [e_X11_leaves, g_get d h (lt_lit (x := 154) (j := 154) rfl) (by omega), g_more d h (x := 16) (w := 16) rfl (by omega), g_put d h (lt_lit (x := 24) (j := 24) rfl) (by omega), g_put d h (lt_lit (x := 154) (j := 154) rfl) (by omega), g_put d h (lt_lit (x := 180) (j := 180) rfl) (by omega), g_put d h (lt_lit (x := 206) (j := 206) rfl) (by omega)]
  unfold pLeaves
  rw [show 980 + 662 * u + 16 = 996 + 662 * u by omega, show 980 + 662 * u + (154 + k) = 1134 + 662 * u + k by omega, show 980 + 662 * u + (24 + k) = 1004 + 662 * u + k by omega, show 980 + 662 * u + (180 + k) = 1160 + 662 * u + k by omega, show 980 + 662 * u + (206 + k) = 1186 + 662 * u + k by omega]
theorem r_stamp (d : Nat) (h : rA M o a) (hu : u < 18) : f_X11_stamp (d + 2) (wRI M a S) o (nI u) = some (.inl (some (.int (S (990 + 662 * u) + 1))), wRI M a (upd S (990 + 662 * u) (S (990 + 662 * u) + 1))) := by
  have := s_stamp (M := wRI M a S) d h.r (u := u) (by omega)
  rw [wRI_mI, wRI_wI] at this
  exact this
theorem g_stamp (d : Nat) (h : rA M o a) (hu : u < 18) (K : Int32 → LM → Option (LO × LM)) : lt_ck (wRI M a S) o 27 (lt_bi (f_X11_stamp (d + 2) (wRI M a S) o (nI u)) [] K) = K (S (990 + 662 * u) + 1) (wRI M a (upd S (990 + 662 * u) (S (990 + 662 * u) + 1))) := by
  refine (lt_ck_t (M := wRI M a S) h.1).trans ?_
  rw [r_stamp d h hu]
  rfl
end RS
