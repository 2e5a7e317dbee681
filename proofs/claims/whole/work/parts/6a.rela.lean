/-! THE RELATION: a request done by a cache, as by a unit -/
section Rk'
variable {N L : Nat} {Q : (Nat → Int32) × (Nat → Int32)} {S S' : CS} {H U U' A B F P m : Nat → Int32} {k i j t t' j' e x y w r c q n a g f b : Nat} {kz kc kw : Nat → Int32} {W kf : Nat → Nat} {v v' w' set these beyond ln s s' st : Int32} {z : Int64} {kept : Option Nat} {can h1' h2' : Nat → Bool} {rk : Nat → Int64}
theorem set_0 (hs : KS set) (h : set &&& (obb kept ^^^ -1) = 0) (hk : kept = none) : set = 0 := KS_ext hs KS_0 (fun k hk' => by
  have : bt (set &&& (obb kept ^^^ -1)) k = bt 0 k := by rw [h]
  rw [hk, bt_not (by omega), show obb none = 0 from rfl, b_0, Bool.not_false, Bool.and_true] at this
  rw [this, b_0])
theorem fit_none (hno : ¬ v < kz y) : ∀ set, KS set → (set &&& (obb none ^^^ -1) = 0) → (∀ k, (none : Option Nat) = some k → bt set k = h1' k) → ¬ v < pSum set kz 26 0 + kz y := fun set hs h _ => by
  rw [set_0 hs h rfl, pSum_0, Int32.zero_add]
  exact hno
theorem fit_some (hx : x < 26) {bk : Nat → Bool} (hno : ¬ v < kz y + (if bk x = true then kz x else 0)) : ∀ set, KS set → (set &&& (obb (some x) ^^^ -1) = 0) → (∀ k, some x = some k → bt set k = bk k) → ¬ v < pSum set kz 26 0 + kz y := fun set hs h hb => by
  have hx' := hb x rfl
  have ho : ∀ k, k < 26 → k ≠ x → bt set k = false := fun k hk hne => by
    have : bt (set &&& (obb (some x) ^^^ -1)) k = bt 0 k := by rw [h]
    rw [bt_not (by omega), show obb (some x) = bb x from rfl, bt_bb (by omega) (by omega), decide_eq_false hne, Bool.not_false, Bool.and_true, b_0] at this
    exact this
  have e : pSum set kz 26 0 = if bk x = true then kz x else 0 := by
    rw [← hx']
    cases d : bt set x
    · rw [if_neg (by decide), pSum_cg (t := 0) (S' := kz) (fun k hk => ?_) (fun _ _ => rfl) 26 0 (Nat.le_refl _), pSum_0]
      rw [b_0]
      by_cases q : k = x
      · rw [q, d]
      · exact ho k hk q
    · rw [if_pos rfl, pSum_cg (t := 0 ||| bb x) (S' := kz) (fun k hk => ?_) (fun _ _ => rfl) 26 0 (Nat.le_refl _), pSum_ob hx (b_0 _) 26 0 (Nat.le_refl _), pSum_0, if_pos (by omega), Int32.zero_add]
      rw [bt_on hx (by omega), b_0, Bool.false_or]
      by_cases q : k = x
      · rw [q, d, decide_eq_true rfl]
      · rw [ho k hk q, decide_eq_false q]
  rw [e, Int32.add_comm]
  exact hno
/-- a request: a hit, or a miss -/
theorem feed1_eq (h : RX N L Q S U) (hN : N + 1400 < 2147483648) (hL : L + 840000 < 2147483648) (hK : KY kz kc kw W H) (hF : FW (kAsked S (nI i) x) A B) (hln : LN Q ln) (hx : x < 26) :
    ∃ w' U', (if U (24 + x) = 1 then some ((0 : Int32), qHit H U x) else qMiss H A B ln x U) = some (w', U') ∧ RX (N + 1400) (L + 840000) Q (kFeed1 kz kc kw W x (H 1) i S) U' := by
  have hh := HB_1 h.2.1 hx
  have e1 : S.1 0 1 = U 1 := h.1.1 1 (by omega)
  obtain ⟨⟨m, -, -, m1, m2⟩, -⟩ := hK x hx
  by_cases c : bt (S.1 0 5) x = true
  · rw [if_pos (hh.mpr c)]
    refine ⟨0, qHit H U x, rfl, ?_⟩
    have e : kFeed1 kz kc kw W x (H 1) i S = kMeet kz kc (kNote0 (kAsked S (nI i) x) i x) x := if_pos c
    rw [e]
    exact RX_mono (RX_hit h hK hx c (by omega) (by omega)) (by omega) (by omega)
  · rw [if_neg (fun q => c (hh.mp q))]
    have c' : bt (S.1 0 5) x = false := by simpa using c
    unfold qMiss
    by_cases d : U 1 < H (2 + x)
    · rw [if_pos d]
      refine ⟨2, _, rfl, ?_⟩
      have e : kFeed1 kz kc kw W x (H 1) i S = cwi (kNote2 (kAsked S (nI i) x) i x) 7 8 ((kNote2 (kAsked S (nI i) x) i x).1 7 8 + kc x) := by
        show (if bt (S.1 0 5) x = true then _ else if S.1 0 1 < kz x then cwi (kNote2 (kAsked S (nI i) x) i x) 7 8 ((kNote2 (kAsked S (nI i) x) i x).1 7 8 + kc x) else _) = _
        rw [if_neg c, if_pos (by rw [e1, m1, ← m2]; exact d)]
      rw [e]
      exact RX_mono (RX_note2 h hK hx) (by omega) (by omega)
    · rw [if_neg d]
      have h1 := RX_note1 (i := i) h hK hx
      have hno : ¬ U 1 < kz x := by rw [m1, ← m2]; exact d
      have hu : qMiss0 H U x 1 = U 1 := by unfold qMiss0; rw [upd_o (by omega), upd_o (by omega), upd_o (by omega)]
      obtain ⟨U', r1, r2, r3, -⟩ := room_eq (n := 26) (kept := none) (u1' := U 1) (bk := fun _ => false) (by omega) hK hln hx (fun j e => by cases e) (fit_none hno) N _ _ h1 (show FW _ A B from hF) hu c' (fun k e => by cases e) (nK_le 26) (by omega)
      rw [r1]
      refine ⟨1, qCome H U' x, rfl, ?_⟩
      have e : kFeed1 kz kc kw W x (H 1) i S = kCome kz kc (kRoom kz kw W x none 26 (cwi (kNote1 (kAsked S (nI i) x) i x) 7 8 ((kNote1 (kAsked S (nI i) x) i x).1 7 8 + kc x))) x (H 1) := by
        show (if bt (S.1 0 5) x = true then _ else if S.1 0 1 < kz x then _ else kCome kz kc (kRoom kz kw W x none 26 (cwi (kNote1 (kAsked S (nI i) x) i x) 7 8 ((kNote1 (kAsked S (nI i) x) i x).1 7 8 + kc x))) x (H 1)) = _
        rw [if_neg c, if_neg (by rw [e1]; exact hno)]
      rw [e]
      exact RX_mono (RX_come r2 hK hx r3 (by omega) (by omega)) (by omega) (by omega)
/-- a key fetched ahead -/
theorem fetch_eq (h : RX N L Q S U) (hN : N + 1400 < 2147483648) (hL : L + 840000 < 2147483648) (hK : KY kz kc kw W H) (hF : FW S A B) (hln : LN Q ln) (hkf : ∀ j, j ≤ i → kf j < 26) :
    ∃ U', (if 1 < U 3 then qFetch H A B ln kf f i U else some U) = some U' ∧ RX (N + 1400) (L + 840000) Q (kFeed2 kz kc kw W (kf i) (if S.1 0 3 &&& 2 = 0 then kf i else (kAhead kf f i).getD (kf i)) (H 1) S) U' := by
  have hx := hkf i (Nat.le_refl _)
  have e1 : S.1 0 1 = U 1 := h.1.1 1 (by omega)
  obtain ⟨m, hm, e3⟩ := h.1.2.2.2.2.2
  have e3' : S.1 0 3 = nI m := (h.1.1 3 (by omega)).trans e3
  have same : kFeed2 kz kc kw W (kf i) (kf i) (H 1) S = S := by
    unfold kFeed2 kFetch
    rw [if_neg (by simp)]
  have m2 := mode_2 hm
  rw [e3, e3']
  by_cases c : (1 : Int32) < nI m
  · rw [if_pos c, if_neg (fun q => (m2.mp q) c)]
    unfold qFetch kAhead
    cases e : lastTo kf (kf i) f i with
    | none =>
      refine ⟨U, rfl, ?_⟩
      show RX _ _ Q (kFeed2 kz kc kw W (kf i) (kf i) (H 1) S) U
      rw [same]
      exact RX_mono h (by omega) (by omega)
    | some b =>
      have hb := lastTo_lt i e
      have hy : kf (b + 1) < 26 := hkf _ (by omega)
      show ∃ U', (if kf (b + 1) = kf i ∨ U (24 + kf (b + 1)) = 1 ∨ U 1 < (if U (24 + kf i) = 1 then H (2 + kf i) else 0) + H (2 + kf (b + 1)) then some U else
        match qRoom H A B ln (kf (b + 1)) (some (kf i)) 26 U with
        | none => none
        | some U' => some (upd (upd (qCome H U' (kf (b + 1))) (180 + kf (b + 1)) 1) 18 (qCome H U' (kf (b + 1)) 18 + 1))) = some U' ∧ RX (N + 1400) (L + 840000) Q (kFeed2 kz kc kw W (kf i) (kf (b + 1)) (H 1) S) U'
      generalize kf (b + 1) = y at hy ⊢
      generalize kf i = x at hx ⊢
      obtain ⟨⟨mx, -, -, mx1, mx2⟩, -⟩ := hK x hx
      obtain ⟨⟨my, -, -, my1, my2⟩, -⟩ := hK y hy
      have hhx := HB_1 h.2.1 hx
      have hhy := HB_1 h.2.1 hy
      have hsz : (if U (24 + x) = 1 then H (2 + x) else 0) = (if bt (S.1 0 5) x = true then kz x else 0) := by
        rw [mx1, mx2]
        by_cases q : bt (S.1 0 5) x = true
        · rw [if_pos q, if_pos (hhx.mpr q)]
        · rw [if_neg q, if_neg (fun e => q (hhx.mp e))]
      have hcd : (y = x ∨ U (24 + y) = 1 ∨ U 1 < (if U (24 + x) = 1 then H (2 + x) else 0) + H (2 + y)) ↔ ¬ kFetch kz S y x = true := by
        unfold kFetch
        rw [hsz, my2, ← my1, e1, hhy, Int32.add_comm (kz y)]
        by_cases q1 : y = x
        · rw [decide_eq_false (fun q => q q1)]
          exact ⟨fun _ => by simp, fun _ => Or.inl q1⟩
        · rw [decide_eq_true q1]
          cases q2 : bt (S.1 0 5) y
          · by_cases q3 : U 1 < (if bt (S.1 0 5) x = true then kz x else 0) + kz y
            · rw [decide_eq_true q3]
              exact ⟨fun _ => by simp, fun _ => Or.inr (Or.inr q3)⟩
            · rw [decide_eq_false q3]
              exact ⟨fun q => by
                rcases q with q | q | q
                · exact absurd q q1
                · cases q
                · exact absurd q q3, fun q => absurd rfl q⟩
          · exact ⟨fun _ => by simp, fun _ => Or.inr (Or.inl rfl)⟩
      by_cases d : kFetch kz S y x = true
      · rw [if_neg (fun q => (hcd.mp q) d)]
        have hyb : bt (S.1 0 5) y = false := by
          have := d
          unfold kFetch at this
          cases q : bt (S.1 0 5) y
          · rfl
          · rw [q] at this; simp at this
        have hno : ¬ U 1 < kz y + (if bt (S.1 0 5) x = true then kz x else 0) := by
          have := d
          unfold kFetch at this
          rw [e1] at this
          intro q
          rw [decide_eq_true q] at this
          simp at this
        obtain ⟨U', r1, r2, r3, -⟩ := room_eq (n := 26) (kept := some x) (u1' := U 1) (bk := bt (S.1 0 5)) (by omega) hK hln hy (fun j e => by cases e; exact hx) (fit_some hx hno) N S U h hF rfl hyb (fun k _ => rfl) (nK_le 26) (by omega)
        rw [r1]
        refine ⟨_, rfl, ?_⟩
        have e : kFeed2 kz kc kw W x y (H 1) S = (let T := kCome kz kc (kRoom kz kw W y (some x) 26 S) y (H 1)
          cwi (cwi T 0 9 (T.1 0 9 ||| bb y)) 7 6 (T.1 7 6 + 1)) := if_pos d
        rw [e]
        have a1 := RX_come r2 hK hy r3 (by omega) (by omega)
        have a2 := RX_fet (k := y) (v := 1) a1 hy (HB_on a1.2.2.2.2.1 hy)
        have a3 := RX_cnt (j := 6) (v := 1) a2 (by omega)
        have e18 : upd (qCome H U' y) (180 + y) 1 (12 + 6) = qCome H U' y 18 := upd_o (by omega)
        rw [e18] at a3
        exact RX_mono a3 (by omega) (by omega)
      · rw [if_pos (hcd.mpr d)]
        refine ⟨U, rfl, ?_⟩
        have e : kFeed2 kz kc kw W x y (H 1) S = S := if_neg d
        rw [e]
        exact RX_mono h (by omega) (by omega)
  · rw [if_neg c, if_pos (m2.mpr c), same]
    exact ⟨U, rfl, RX_mono h (by omega) (by omega)⟩
/-- a request done, but for the shadows -/
def kFeedA (kz kc kw : Nat → Int32) (W : Nat → Nat) (x : Nat) (ahead : Option Nat) (present write : Int32) (i : Nat) (S : CS) : CS :=
  let S5 := if write = 0 then kFeed1 kz kc kw W x present i S else kWrite (kFeed1 kz kc kw W x present i S) x present
  kFeed2 kz kc kw W x (if S5.1 0 3 &&& 2 = 0 then x else ahead.getD x) present S5
theorem feedA_eq (h : RX N L Q S U) (hN : N + 2800 < 2147483648) (hL1 : L + 840000 < 2147483648) (hL2 : L + 840000 + 840000 < 2147483648) (hK : KY kz kc kw W H) (hF : FW (kAsked S (nI i) (kf i)) A B) (hln : LN Q ln) (hkf : ∀ j, j ≤ i → kf j < 26) {wb : Bool} (hw : H (380 + i) = bI wb) :
    ∃ U', qFeed H A B ln kf f i U = some U' ∧ RX (N + 2800) (L + 840000 + 840000) Q (kFeedA kz kc kw W (kf i) (kAhead kf f i) (H 1) (bI wb) i S) U' := by
  have hx := hkf i (Nat.le_refl _)
  obtain ⟨w', U1, r1, r2⟩ := feed1_eq (i := i) h (by omega) hL1 hK hF hln hx
  have r3 : RX (N + 1400) (L + 840000) Q (kFeed1 kz kc kw W (kf i) (H 1) i S) (upd U1 (362 + i) w') := RX_u r2 (by omega)
  have r4 : RX (N + 1400) (L + 840000) Q (if bI wb = 0 then kFeed1 kz kc kw W (kf i) (H 1) i S else kWrite (kFeed1 kz kc kw W (kf i) (H 1) i S) (kf i) (H 1)) (if H (380 + i) = 1 then qWrite H (upd U1 (362 + i) w') (kf i) else upd U1 (362 + i) w') := by
    rw [hw]
    cases wb
    · rw [if_pos (by decide), if_neg (by decide)]
      exact r3
    · rw [if_neg (by decide), if_pos (by decide)]
      exact RX_write r3 hx
  have hp : Kp (kNoted kz i (kf i) S) (if bI wb = 0 then kFeed1 kz kc kw W (kf i) (H 1) i S else kWrite (kFeed1 kz kc kw W (kf i) (H 1) i S) (kf i) (H 1)) := by
    split
    · exact kFeed1_p
    · exact kWrite_p kFeed1_p
  have hFn : FW (kNoted kz i (kf i) S) A B := by
    have e : (kNoted kz i (kf i) S).2 12 = (kAsked S (nI i) (kf i)).2 12 := by
      unfold kNoted
      split
      · rfl
      · split <;> rfl
    unfold FW
    rw [e]
    exact hF
  obtain ⟨U', f1, f2⟩ := fetch_eq (f := f) r4 (by omega) hL2 hK (FW_p hFn hp) hln hkf
  refine ⟨U', ?_, RX_mono f2 (by omega) (Nat.le_refl _)⟩
  unfold qFeed
  have hd : ∀ (w : Int32) (V : Nat → Int32), qDone H A B ln kf f i w V = if 1 < (if H (380 + i) = 1 then qWrite H (upd V (362 + i) w) (kf i) else upd V (362 + i) w) 3 then qFetch H A B ln kf f i (if H (380 + i) = 1 then qWrite H (upd V (362 + i) w) (kf i) else upd V (362 + i) w) else some (if H (380 + i) = 1 then qWrite H (upd V (362 + i) w) (kf i) else upd V (362 + i) w) := fun w V => rfl
  by_cases c : U (24 + kf i) = 1
  · rw [if_pos c] at r1 ⊢
    cases r1
    rw [hd]
    exact f1
  · rw [if_neg c] at r1 ⊢
    rw [r1]
    show qDone H A B ln kf f i w' U1 = _
    rw [hd]
    exact f1
end Rk'
