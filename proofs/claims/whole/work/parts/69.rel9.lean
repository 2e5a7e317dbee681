/-! THE RELATION: outcomes are left alone; room made */ -/
section Rj'
variable {N L : Nat} {Q : (Nat → Int32) × (Nat → Int32)} {S S' : CS} {H U U' A B F P m : Nat → Int32} {k i j t t' j' e y w r c q n a g f b : Nat} {kz kc kw : Nat → Int32} {W kf : Nat → Nat} {v v' w' x set these beyond ln s s' st : Int32} {z : Int64} {kept : Option Nat} {can h1' h2' : Nat → Bool} {rk : Nat → Int64}
theorem qLeaves_hi (hw : 362 ≤ w) (hk : k < 26) : qLeaves U k w = U w := by
  unfold qLeaves
  simp (disch := omega) only [upd_o]
theorem qElder_lt : ∀ e, qElder U = some e → e < 26 := fun e h => qFst_lt 26 none (fun j e => by cases e) e h
theorem qRem_hi (hw : 362 ≤ w) (hk : k < 26) : qRem U k w = U w := by
  have h0 : qRem0 U k w = U w := by unfold qRem0; simp (disch := omega) only [upd_o]
  unfold qRem
  split
  · cases q : qElder (qRem0 U k) with
    | none => exact (upd_o (by omega)).trans h0
    | some e => exact (upd_o (by have := qElder_lt e q; omega)).trans h0
  · exact h0
theorem qMax_hi (hw : 362 ≤ w) : qMax U k w = U w := by
  unfold qMax
  split
  · exact upd_o (by omega)
  · rfl
theorem qOut_hi (hw : 362 ≤ w) (hk : k < 26) : qOut U k w = U w := by
  unfold qOut qOut0
  split
  · rw [qRem_hi hw hk, qLeaves_hi hw hk, upd_o (by omega), qMax_hi hw]
  · rw [qLeaves_hi hw hk, upd_o (by omega), qMax_hi hw]
theorem qUsed_hi (hw : 362 ≤ w) (hk : k < 26) : qUsed H U k w = U w := by
  unfold qUsed
  simp (disch := omega) only [upd_o]
theorem qTurn_lt : ∀ (n : Nat) (P m : Nat → Int32) (st : Int32) {f : Nat} {P' m' : Nat → Int32} {st' : Int32}, qTurn U can n P m st = some (f, P', m', st') → f < 26
  | 0, P, m, st, _, _, _, _, h => by cases h
  | n + 1, P, m, st, f, P', m', st', h => by
    unfold qTurn at h
    split at h
    · cases h
    · rename_i g hg
      split at h
      · cases h
        exact qFst_lt 26 none (fun j e => by cases e) _ hg
      · exact qTurn_lt n _ _ _ h
theorem qOnce_hi (hw : 362 ≤ w) (h : qOnce H A B ln y kept U = some U') : U' w = U w := by
  unfold qOnce at h
  split at h
  · split at h
    · cases h
    · rename_i g P m st e
      cases h
      rw [qOut_hi hw (qTurn_lt _ _ _ _ e), qBack_o (by omega) (by omega) (by omega)]
  · split at h
    · cases h
    · rename_i g e
      cases h
      rw [qOut_hi hw (qGo_lt g e).1]
theorem qRoom_hi (hw : 362 ≤ w) : ∀ (n : Nat) (U U' : Nat → Int32), qRoom H A B ln y kept n U = some U' → U' w = U w
  | 0, U, U', h => by
    unfold qRoom at h
    split at h
    · cases h
    · cases h; rfl
  | n + 1, U, U', h => by
    unfold qRoom at h
    split at h
    · split at h
      · cases h
      · rename_i U1 h1
        exact (qRoom_hi hw n U1 U' h).trans (qOnce_hi hw h1)
    · cases h; rfl
theorem qHit_hi (hw : 362 ≤ w) (hk : k < 26) : qHit H U k w = U w := by
  unfold qHit
  rw [qUsed_hi hw hk]
  simp (disch := omega) only [upd_o]
theorem qCome_hi (hw : 362 ≤ w) (hk : k < 26) : qCome H U k w = U w := by
  unfold qCome
  simp (disch := omega) only [upd_o]
  exact qUsed_hi hw hk
theorem qMiss_hi (hw : 362 ≤ w) (hk : k < 26) {z : Int32} (e : qMiss H A B ln k U = some (z, U')) : U' w = U w := by
  have h0 : qMiss0 H U k w = U w := by unfold qMiss0; simp (disch := omega) only [upd_o]
  unfold qMiss at e
  split at e
  · cases e
    rw [upd_o (by omega), h0]
  · split at e
    · cases e
    · rename_i U1 h1
      cases e
      rw [qCome_hi hw hk, qRoom_hi hw _ _ _ h1, h0]
theorem qFetch_hi (hw : 362 ≤ w) (hk : ∀ b, lastTo kf (kf i) f i = some b → kf (b + 1) < 26) (e : qFetch H A B ln kf f i U = some U') : U' w = U w := by
  unfold qFetch at e
  split at e
  · cases e; rfl
  · rename_i b hb
    by_cases hc : kf (b + 1) = kf i ∨ U (24 + kf (b + 1)) = 1 ∨ U 1 < (if U (24 + kf i) = 1 then H (2 + kf i) else 0) + H (2 + kf (b + 1))
    · rw [if_pos hc] at e
      cases e; rfl
    · rw [if_neg hc] at e
      have hk' := hk b hb
      split at e
      · cases e
      · rename_i U1 h1
        cases e
        rw [upd_o (by omega), upd_o (by omega), qCome_hi hw hk', qRoom_hi hw _ _ _ h1]
theorem qWrite_hi (hw : 362 ≤ w) (hk : k < 26) : qWrite H U k w = U w := by
  unfold qWrite
  split
  · split <;> simp (disch := omega) only [upd_o]
  · simp (disch := omega) only [upd_o]
theorem qDone_hi (hw : 362 ≤ w) (hx : kf i < 26) (hk : ∀ b, lastTo kf (kf i) f i = some b → kf (b + 1) < 26) (e : qDone H A B ln kf f i w' U = some U') : U' w = if w = 362 + i then w' else U w := by
  unfold qDone at e
  dsimp only at e
  have h0 : (if H (380 + i) = 1 then qWrite H (upd U (362 + i) w') (kf i) else upd U (362 + i) w') w = upd U (362 + i) w' w := by
    split
    · rw [qWrite_hi hw hx]
    · rfl
  generalize (if H (380 + i) = 1 then qWrite H (upd U (362 + i) w') (kf i) else upd U (362 + i) w') = Y at e h0
  split at e
  · rw [qFetch_hi hw hk e, h0]
    rfl
  · cases e
    exact h0
/-- what a request of a unit comes to -/
def qWhat (H U : Nat → Int32) (x : Nat) : Int32 := if U (24 + x) = 1 then 0 else if U 1 < H (2 + x) then 2 else 1
theorem qFeed_hi (hw : 362 ≤ w) (hx : kf i < 26) (hk : ∀ b, lastTo kf (kf i) f i = some b → kf (b + 1) < 26) (e : qFeed H A B ln kf f i U = some U') : U' w = if w = 362 + i then qWhat H U (kf i) else U w := by
  unfold qFeed at e
  unfold qWhat
  by_cases c : U (24 + kf i) = 1
  · rw [if_pos c] at e
    rw [if_pos c, qDone_hi hw hx hk e, qHit_hi hw hx]
  · rw [if_neg c] at e
    rw [if_neg c]
    split at e
    · cases e
    · rename_i z U1 h1
      rw [qDone_hi hw hx hk e, qMiss_hi hw hx h1]
      unfold qMiss at h1
      by_cases d : U 1 < H (2 + kf i)
      · rw [if_pos d] at h1
        cases h1
        rw [if_pos d]
      · rw [if_neg d] at h1
        rw [if_neg d]
        split at h1
        · cases h1
        · cases h1
          rfl
/-- one can go if one is there -/
theorem can_some (h : RF S U) (hh : HB (S.1 0 5) U 24) (hK : KY kz kc kw W H) (hy : y < 26) (hb : bt (S.1 0 5) y = false) (hkp : ∀ j, kept = some j → j < 26) (hne : kThese S kept ≠ 0) : ∃ g, g < 26 ∧ qCan H U y kept g = true := by
  obtain ⟨hs, hc⟩ := can_eq (W := W) h hh hK hy hb hkp
  have hne2 : kGo kz kw W S (kThese S kept) y ≠ 0 := by
    obtain ⟨T, -, -, t3⟩ := pGo_T (W := W) (these := kThese S kept) (beyond := kBey kz kw S (S.1 0 5 ||| bb y)) 26 0 (Nat.le_refl _) KS_0 (KS_and hh.1)
    have hg : kGo kz kw W S (kThese S kept) y = if T = 0 then kThese S kept else T := t3
    rw [hg]
    split
    · exact hne
    · assumption
  obtain ⟨g, g1, g2⟩ := KS_ne hs hne2
  exact ⟨g, g1, by rw [← hc g g1]; exact g2⟩
/-- room made -/
theorem room_eq (hL : L < 2147483648) (hK : KY kz kc kw W H) (hln : LN Q ln) (hy : y < 26) (hkp : ∀ j, kept = some j → j < 26) {u1' : Int32} {bk : Nat → Bool}
    (hfit : ∀ set, KS set → (set &&& (obb kept ^^^ -1) = 0) → (∀ k, kept = some k → bt set k = bk k) → ¬ u1' < pSum set kz 26 0 + kz y) : ∀ (n N : Nat) (S : CS) (U : Nat → Int32), RX N L Q S U → FW S A B → U 1 = u1' → bt (S.1 0 5) y = false → (∀ k, kept = some k → bt (S.1 0 5) k = bk k) → nK (bt (kThese S kept)) 26 ≤ n → N + 53 * n < 2147483648 →
    ∃ U', qRoom H A B ln y kept n U = some U' ∧ RX (N + 53 * n) L Q (kRoom kz kw W y kept n S) U' ∧ bt ((kRoom kz kw W y kept n S).1 0 5) y = false ∧ ∀ k, kept = some k → bt ((kRoom kz kw W y kept n S).1 0 5) k = bk k
  | 0, N, S, U, h, hF, hu, hb, hbk, hn, hN => by
    have e0 : kThese S kept = 0 := by
      by_cases e : kThese S kept = 0
      · exact e
      · obtain ⟨g, g1, g2⟩ := KS_ne (KS_and h.2.1.1) e
        have := nK_minus (h1' := bt (kThese S kept)) (h2' := fun k => bt (kThese S kept) k && !decide (k = g)) 26 g1 g2 (by rw [decide_eq_true rfl]; exact Bool.and_false _) (fun k _ hne => by rw [decide_eq_false hne]; exact Bool.and_true _)
        omega
    have hnot := hfit _ h.2.1.1 e0 hbk
    obtain ⟨⟨m, -, -, m1, m2⟩, -⟩ := hK y hy
    refine ⟨U, ?_, h, hb, hbk⟩
    unfold qRoom
    rw [all_sum h.2.1 hK, m1, ← hu] at hnot
    rw [m2, if_neg hnot]
  | n + 1, N, S, U, h, hF, hu, hb, hbk, hn, hN => by
    obtain ⟨⟨m, -, -, m1, m2⟩, -⟩ := hK y hy
    have e1 : S.1 0 1 = U 1 := h.1.1 1 (by omega)
    have esum := all_sum h.2.1 hK
    unfold qRoom
    have ek : kRoom kz kw W y kept (n + 1) S = if S.1 0 1 < pSum (S.1 0 5) kz 26 0 + kz y then kRoom kz kw W y kept n (kOut kz (kGo kz kw W S (kThese S kept) y) S) else S := rfl
    rw [ek, e1, esum, m1, m2]
    by_cases c : U 1 < qUnits H U (-1) 26 0 + nI m
    · rw [if_pos c, if_pos c]
      have hne : kThese S kept ≠ 0 := fun e0 => by
        have hnot := hfit _ h.2.1.1 e0 hbk
        rw [esum, m1, ← hu] at hnot
        exact hnot c
      obtain ⟨g, g1, g2⟩ := can_some h.1 h.2.1 hK hy hb hkp hne
      obtain ⟨U', f, o1, o2, o3, o4, o5⟩ := once_eq h (by omega) hL hK hF hln hy hb hkp g1 g2
      rw [o1]
      dsimp only
      obtain ⟨f1, f2⟩ := qCan_held h.2.1 o2 o3
      have hF' : FW (kOut kz (kGo kz kw W S (kThese S kept) y) S) A B := FW_p hF (kOut_p Kp.rfl')
      have hb' : bt ((kOut kz (kGo kz kw W S (kThese S kept) y) S).1 0 5) y = false := by rw [o5, bt_off o2 (by omega), hb]; rfl
      have hbk' : ∀ k, kept = some k → bt ((kOut kz (kGo kz kw W S (kThese S kept) y) S).1 0 5) k = bk k := fun k hk => by
        rw [o5, bt_off o2 (by have := hkp k hk; omega), hbk k hk, decide_eq_false (fun e => f2 (by rw [← e]; exact hk)), Bool.not_false, Bool.and_true]
      have hn' : nK (bt (kThese (kOut kz (kGo kz kw W S (kThese S kept) y) S) kept)) 26 ≤ n := by
        have a1 : bt (kThese S kept) f = true := by
          rw [these_bt h.2.1 hkp o2]
          unfold qC0
          rw [decide_eq_true ((HB_1 h.2.1 o2).mpr f1), decide_eq_true f2]
          rfl
        have hb1 : ∀ k, k < 26 → bt (kThese (kOut kz (kGo kz kw W S (kThese S kept) y) S) kept) k = (bt (kThese S kept) k && !decide (k = f)) := fun k hk => by
          have q1 : kThese (kOut kz (kGo kz kw W S (kThese S kept) y) S) kept = (S.1 0 5 &&& (bb f ^^^ -1)) &&& (obb kept ^^^ -1) := by
            rw [← o5]
            rfl
          have q2 : kThese S kept = S.1 0 5 &&& (obb kept ^^^ -1) := rfl
          rw [q1, q2, bt_not (by omega), bt_not (by omega), bt_not (by omega), bt_bb (by omega) (by omega)]
          cases bt (S.1 0 5) k <;> cases bt (obb kept) k <;> cases decide (k = f) <;> rfl
        have := nK_minus (h1' := bt (kThese S kept)) (h2' := bt (kThese (kOut kz (kGo kz kw W S (kThese S kept) y) S) kept)) 26 o2 a1 (by rw [hb1 f o2, decide_eq_true rfl]; exact Bool.and_false _) (fun k hk hne => by rw [hb1 k hk, decide_eq_false hne]; exact Bool.and_true _)
        omega
      have hu' : U' 1 = u1' := (qOnce_lo (by omega) o1).trans hu
      obtain ⟨U2, r1, r2, r3, r4⟩ := room_eq hL hK hln hy hkp hfit n (N + 53) _ U' o4 hF' hu' hb' hbk' hn' (by omega)
      exact ⟨U2, r1, RX_mono r2 (by omega) (Nat.le_refl _), r3, r4⟩
    · rw [if_neg c, if_neg c]
      exact ⟨U, rfl, RX_mono h (by omega) (Nat.le_refl _), hb, hbk⟩
end Rj'
