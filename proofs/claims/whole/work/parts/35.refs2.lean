/-! THE REFERENCE over its row, on -/
section RS2
variable {M : LM} {o a u w k j q : Nat} {v x y : Int32} {S S' : Nat → Int32}
theorem upd_s {i : Nat} : upd S i v i = v := if_pos rfl
theorem upd_o {i : Nat} (h : j ≠ i) : upd S i v j = S j := if_neg h
theorem g_rf (h : rA M o a) (F : Nat → Option (LO × LM)) : lt_ck (wRI M a S) o 27 (lt_rf (mP (wRI M a S) o 1) F) = F a := by
  refine (lt_ck_t (M := wRI M a S) h.1).trans ?_
  exact lt_rf_t (show mP (wRI M a S) o 1 = some a from h.2.1)
theorem g_ar (h : rA M o a) (hx : x = nI j) (hb : j < 12896) (Y : Option (LO × LM)) : lt_ar (wRI M a S) a 1 x Y = Y := by
  subst hx
  exact lt_ar_t (show mK (wRI M a S) a = 1 from h.2.2.1) (by show _ ∧ _ < (mZ M a : Int); rw [h.2.2.2]; exact lt_iI hb (by omega))
theorem lt_nlit (hx : x = nI j) (hb : j < 2147483648) : lt_n x = j := by rw [hx]; exact lt_iN hb
theorem lt_nz_t {Y : Option (LO × LM)} (h : ¬ x = 0) : lt_nz x Y = Y := if_neg h
/-- a key is used -/
def pUsed (S : Nat → Int32) (u k : Nat) : Nat → Int32 := upd (upd (upd S (990 + 662 * u) (S (990 + 662 * u) + 1)) (1056 + 662 * u + k) (S (990 + 662 * u) + 1)) (1264 + 662 * u + k) (S (991 + 662 * u) + 840 * S (28 + k) / S (2 + k))
theorem r_isUsed (d : Nat) (h : rA M o a) (hu : u < 18) (hk : k < 26) (hz : ¬ S (2 + k) = 0) : f_X11_isUsed (d + 3) (wRI M a S) o (nI u) (nI k) = some (.inl none, wRI M a (pUsed S u k)) := by
  rw [e_X11_isUsed, g_stamp d h hu, g_put (d + 1) h (lt_lit (x := 76) (j := 76) rfl) (by omega), g_get (d + 1) h (x := 11) (w := 11) rfl (by omega), g_rf h, g_ar h (lt_lit (x := 28) (j := 28) rfl) (by omega), g_rf h, g_ar h (lt_lit (x := 2) (j := 2) rfl) (by omega), wRI_mI, lt_nlit (lt_lit (x := 28) (j := 28) rfl) (by omega), lt_nlit (lt_lit (x := 2) (j := 2) rfl) (by omega)]
  rw [upd_o (j := 2 + k) (by omega), upd_o (j := 2 + k) (by omega), upd_o (j := 28 + k) (by omega), upd_o (j := 28 + k) (by omega), upd_o (j := 980 + 662 * u + 11) (by omega), upd_o (j := 980 + 662 * u + 11) (by omega), lt_nz_t hz, g_put (d + 1) h (lt_lit (x := 284) (j := 284) rfl) (by omega)]
  unfold pUsed
  rw [show 980 + 662 * u + 11 = 991 + 662 * u by omega, show 980 + 662 * u + (76 + k) = 1056 + 662 * u + k by omega, show 980 + 662 * u + (284 + k) = 1264 + 662 * u + k by omega]
/-- a hit -/
def pHit (S : Nat → Int32) (u k : Nat) : Nat → Int32 :=
  pUsed (upd (upd (upd (upd (upd S (992 + 662 * u) (S (992 + 662 * u) + 1)) (1290 + 662 * u + k) (S (1290 + 662 * u + k) + 1)) (999 + 662 * u) (S (999 + 662 * u) + S (1160 + 662 * u + k))) (1160 + 662 * u + k) 0) (1186 + 662 * u + k) 1) u k
theorem g_ck (h : rA M o a) (Y : Option (LO × LM)) : lt_ck (wRI M a S) o 27 Y = Y := lt_ck_t (M := wRI M a S) h.1
theorem r_isAHit (d : Nat) (h : rA M o a) (hu : u < 18) (hk : k < 26) (hz : ¬ S (2 + k) = 0) : f_X11_isAHit (d + 4) (wRI M a S) o (nI u) (nI k) = some (.inl none, wRI M a (pHit S u k)) := by
  rw [e_X11_isAHit, g_more (d + 2) h (x := 12) (w := 12) rfl (by omega), g_more (d + 2) h (lt_lit (x := 310) (j := 310) rfl) (by omega), g_get (d + 2) h (lt_lit (x := 180) (j := 180) rfl) (by omega), g_more (d + 2) h (x := 19) (w := 19) rfl (by omega), g_put (d + 2) h (lt_lit (x := 180) (j := 180) rfl) (by omega), g_put (d + 2) h (lt_lit (x := 206) (j := 206) rfl) (by omega), g_ck h, r_isUsed d h hu hk (by simp (disch := omega) only [upd_o]; exact hz)]
  simp (disch := omega) only [upd_o]
  unfold pHit
  rw [show 980 + 662 * u + 12 = 992 + 662 * u by omega, show 980 + 662 * u + 19 = 999 + 662 * u by omega, show 980 + 662 * u + (310 + k) = 1290 + 662 * u + k by omega, show 980 + 662 * u + (180 + k) = 1160 + 662 * u + k by omega, show 980 + 662 * u + (206 + k) = 1186 + 662 * u + k by omega]
  rfl
/-- the key remembered longest ago -/
def pEldest (S : Nat → Int32) (u : Nat) : Nat → Int32 → Int32
  | 0, e => e
  | n + 1, e => if 0 < S (1238 + 662 * u + (25 - n)) then (if e = -1 then pEldest S u n (nI (25 - n)) else if S (1238 + 662 * u + (25 - n)) < S (1238 + 662 * u + lt_n e) then pEldest S u n (nI (25 - n)) else pEldest S u n e) else pEldest S u n e
end RS2
