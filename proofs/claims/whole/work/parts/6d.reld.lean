/-! THE RELATION: a cache with its shadows, a request done by all -/
def gLa (kf : Nat → Nat) (f t : Nat) : Nat → Int64 := fun k => Int32.toInt64 (nI (laN kf k f t))
def RC (kf : Nat → Nat) (f t : Nat) (S : CS) (U U1 U2 : Nat → Int32) : Prop :=
  RX (2800 * (t - f)) (840000 * (2 * (t - f))) (S.1 13, S.1 14) S U ∧ U 9 = nI f ∧ f ≤ t ∧ t ≤ 300 ∧ LsA S kf f t ∧ FewA S kf f t ∧
  (S.1 6 6 = nI f ∧ S.1 6 7 = nI t ∧ ∀ i, i < 300 → U (362 + i) = if f ≤ i ∧ i < t then S.1 10 i else -1) ∧
  RH1 0 (U 1) f (t - f) t (S.1 13 0) (S.1 13 1) (gLa kf f t) U1 ∧ RH1 1 (U 1) f (t - f) t (S.1 14 0) (S.1 14 1) (gLa kf f t) U2 ∧ (U 0 ≠ 6 → S.1 13 0 = 0 ∧ S.1 14 0 = 0)
section Rn'
variable {N L : Nat} {Q : (Nat → Int32) × (Nat → Int32)} {S S' : CS} {H U U1 U2 U' A B : Nat → Int32} {V : Nat → Nat → Int32} {c k i j t e x y w r q n a g f b R : Nat} {kz kc kw : Nat → Int32} {W kf kf' fs : Nat → Nat} {ln room present write : Int32} {ahead : Option Nat}
theorem kFeedA_p {i : Nat} : Kp (kNoted kz i x S) (kFeedA kz kc kw W x ahead present write i S) := by
  refine kFeed2_p ?_
  split
  · exact kFeed1_p
  · exact kWrite_p kFeed1_p
theorem kFeed_A {i : Nat} : kFeed kz kc kw W x ahead present write i S = kFeed3 kz x (kFeedA kz kc kw W x ahead present write i S) := rfl
theorem kFeedS_n (ht : t = 13 ∨ t = 14) : (kFeedS kz S t R k room).1 t 0 = (shNew kz (S.2 R) room k (S.1 t 0) (S.1 t 1)).1 ∧ (kFeedS kz S t R k room).1 t 1 = (shNew kz (S.2 R) room k (S.1 t 0) (S.1 t 1)).2 := by
  unfold kFeedS shNew
  split
  · exact ⟨rfl, rfl⟩
  · split
    · exact ⟨by simp (disch := omega) only [cwi_1, z2_eq, z2_n1, z2_n2], by simp (disch := omega) only [cwi_1, z2_eq, z2_n1, z2_n2]⟩
    · exact ⟨by simp (disch := omega) only [cwi_1, z2_eq, z2_n1, z2_n2], by simp (disch := omega) only [cwi_1, z2_eq, z2_n1, z2_n2]⟩
theorem kFeedS_o (h : j ≠ t) : (kFeedS kz S t R k room).1 j = S.1 j := by
  unfold kFeedS
  split
  · rfl
  · split
    · simp (disch := omega) only [cwi_1, z2_eq, z2_n1, z2_n2]
    · simp (disch := omega) only [cwi_1, z2_eq, z2_n1, z2_n2]
theorem kFeedS_l : (kFeedS kz S t R k room).2 = S.2 := by
  unfold kFeedS
  split
  · rfl
  · split <;> rfl
theorem RX_q (h : RX N L Q S U) (h1 : ∀ j, j ≠ 13 → j ≠ 14 → S'.1 j = S.1 j) (h2 : S'.2 = S.2) : RX N L (S'.1 13, S'.1 14) S' U := by
  unfold RX RF RT RN kHasSh at h ⊢
  rw [h1 0 (by decide) (by decide), h1 1 (by decide) (by decide), h1 2 (by decide) (by decide), h1 7 (by decide) (by decide), h1 8 (by decide) (by decide), h1 9 (by decide) (by decide), h2]
  obtain ⟨a1, a2, a3, a4, a5, a6, a7, a8, a9, a10, a11, -⟩ := h
  exact ⟨a1, a2, a3, a4, a5, a6, a7, a8, a9, a10, a11, rfl, rfl⟩
theorem kFeed3_f : (∀ j, j ≠ 13 → j ≠ 14 → (kFeed3 kz x S).1 j = S.1 j) ∧ (kFeed3 kz x S).2 = S.2 := by
  unfold kFeed3
  split
  · exact ⟨fun j h1 h2 => by rw [kFeedS_o h2, kFeedS_o h1], by rw [kFeedS_l, kFeedS_l]⟩
  · exact ⟨fun _ _ _ => rfl, rfl⟩
theorem gLa_x (hf : f ≤ i) : gLa kf f (i + 1) (kf i) = Int32.toInt64 (nI (i + 1)) := by
  unfold gLa
  rw [laN_s, if_pos ⟨hf, rfl⟩]
theorem gLa_o (h : j ≠ kf i) : gLa kf f (i + 1) j = gLa kf f i j := by
  unfold gLa
  rw [laN_s, if_neg (fun q => h q.2.symm)]
theorem N_step (hf : f ≤ i) : 2800 * (i + 1 - f) = 2800 * (i - f) + 2800 := by
  rw [show i + 1 - f = i - f + 1 by omega, Nat.mul_add]
theorem L_step (c : Nat) (hf : f ≤ i) : c * (2 * (i + 1 - f)) = c * (2 * (i - f)) + c + c := by
  rw [show 2 * (i + 1 - f) = 2 * (i - f) + 1 + 1 by omega, Nat.mul_add, Nat.mul_add, Nat.mul_one]
theorem L_le (c : Nat) (hc : c * 600 < 2147483648) (hi : i ≤ 300) : c * (2 * (i - f)) < 2147483648 := Nat.lt_of_le_of_lt (Nat.mul_le_mul_left c (by omega)) hc
/-- a cache and its shadows fed -/
theorem RC_feed (h : RC kf f i S U U1 U2) (hi : i < 300) (hK : KY kz kc kw W H) (hkf : ∀ j, j ≤ i → kf j < 26) {wb : Bool} (hw : H (380 + i) = bI wb) :
    ∃ U' U1' U2', qFeed H (qA kf f (i + 1)) (qB kf f (i + 1)) (if U2 13 < U1 13 then 1 else 0) kf f i U = some U' ∧ U' 0 = U 0 ∧ U' (362 + i) = qWhat H U (kf i) ∧
      (U 0 = 6 → qFeed H (qA kf f (i + 1)) (qB kf f (i + 1)) 0 kf f i U1 = some U1' ∧ qFeed H (qA kf f (i + 1)) (qB kf f (i + 1)) 0 kf f i U2 = some U2') ∧ (U 0 ≠ 6 → U1' = U1 ∧ U2' = U2) ∧
      RC kf f (i + 1) (kFeed kz kc kw W (kf i) (kAhead kf f i) (H 1) (bI wb) i S) U' U1' U2' := by
  obtain ⟨h1, h2, h3, h4, h5, h6, ⟨h7, h8, h9⟩, s1, s2, h10⟩ := h
  have hx := hkf i (Nat.le_refl _)
  have hF : FW (kAsked S (nI i) (kf i)) (qA kf f (i + 1)) (qB kf f (i + 1)) := FewA_FW (FewA_asked h6 h3 hi) (by omega)
  have hln : LN (S.1 13, S.1 14) (if U2 13 < U1 13 then 1 else 0) := by
    show _ = if S.1 14 1 < S.1 13 1 then (1 : Int32) else 0
    rw [s1.2.2.2.2.2.2.2.1, s2.2.2.2.2.2.2.2.1]
  have hL0 : 840000 * (2 * (i - f)) + 840000 + 840000 < 2147483648 := by
    rw [← L_step 840000 h3]
    exact L_le 840000 (by decide) (by omega)
  obtain ⟨U', f1, f2⟩ := feedA_eq (f := f) h1 (by omega) (Nat.lt_of_le_of_lt (Nat.le_add_right _ _) hL0) hL0 hK hF hln hkf hw
  have hlo : ∀ w, w < 10 → U' w = U w := fun w hw => qFeed_lo hw f1
  have hkb : ∀ b, lastTo kf (kf i) f i = some b → kf (b + 1) < 26 := fun b hb => hkf _ (by have := (lastTo_lt i hb).1; omega)
  have hhi : ∀ w, 362 ≤ w → U' w = if w = 362 + i then qWhat H U (kf i) else U w := fun w hw => qFeed_hi hw hx hkb f1
  rw [← N_step h3, ← L_step 840000 h3] at f2
  -- the class's fields
  have kp : Kp (kNoted kz i (kf i) S) (kFeed kz kc kw W (kf i) (kAhead kf f i) (H 1) (bI wb) i S) := kFeed_p
  have hLs := LsA_step (kz := kz) (kc := kc) (kw := kw) (W := W) (ahead := kAhead kf f i) (present := H 1) (write := bI wb) h5 h3
  have hFe := FewA_step (kz := kz) (kc := kc) (kw := kw) (W := W) (ahead := kAhead kf f i) (present := H 1) (write := bI wb) h6 h3 hi
  obtain ⟨k3a, k3b⟩ := kFeed3_f (kz := kz) (x := kf i) (S := kFeedA kz kc kw W (kf i) (kAhead kf f i) (H 1) (bI wb) i S)
  have hRX := RX_q (S' := kFeed kz kc kw W (kf i) (kAhead kf f i) (H 1) (bI wb) i S) f2 k3a k3b
  have a13 : (kFeedA kz kc kw W (kf i) (kAhead kf f i) (H 1) (bI wb) i S).1 13 = S.1 13 := f2.2.2.2.2.2.2.2.2.2.2.2.1
  have a14 : (kFeedA kz kc kw W (kf i) (kAhead kf f i) (H 1) (bI wb) i S).1 14 = S.1 14 := f2.2.2.2.2.2.2.2.2.2.2.2.2
  have a0 : (kFeedA kz kc kw W (kf i) (kAhead kf f i) (H 1) (bI wb) i S).1 0 0 = U 0 := (f2.1.1 0 (by omega)).trans (hlo 0 (by omega))
  have a1 : (kFeedA kz kc kw W (kf i) (kAhead kf f i) (H 1) (bI wb) i S).1 0 1 = U 1 := (f2.1.1 1 (by omega)).trans (hlo 1 (by omega))
  have hout : (kFeed kz kc kw W (kf i) (kAhead kf f i) (H 1) (bI wb) i S).1 6 6 = nI f ∧ (kFeed kz kc kw W (kf i) (kAhead kf f i) (H 1) (bI wb) i S).1 6 7 = nI (i + 1) ∧ ∀ j, j < 300 → U' (362 + j) = if f ≤ j ∧ j < i + 1 then (kFeed kz kc kw W (kf i) (kAhead kf f i) (H 1) (bI wb) i S).1 10 j else -1 := by
    rw [kp.2.2.1, kp.2.2.2.2.2.1, kNoted_6, kNoted_10]
    refine ⟨(upd_o (by omega)).trans h7, upd_s.trans (lt_iA (j := i) (k := 1)), fun j hj => ?_⟩
    rw [hhi _ (by omega)]
    by_cases d : j = i
    · rw [d, if_pos rfl, if_pos ⟨h3, by omega⟩, upd_s]
      unfold qWhat
      have hb := HB_1 h1.2.1 hx
      obtain ⟨⟨m, -, -, m1, m2⟩, -⟩ := hK (kf i) hx
      have e1 : S.1 0 1 = U 1 := h1.1.1 1 (by omega)
      rw [e1, m1, m2]
      by_cases q : bt (S.1 0 5) (kf i) = true
      · rw [if_pos q, if_pos (hb.mpr q)]
      · rw [if_neg q, if_neg (fun e => q (hb.mp e))]
    · rw [if_neg (by omega), h9 j hj, upd_o d]
      by_cases q : f ≤ j ∧ j < i
      · rw [if_pos q, if_pos (by omega)]
      · rw [if_neg q, if_neg (by omega)]
  by_cases c6 : U 0 = 6
  · -- the shadows are fed
    have e3 : kFeed kz kc kw W (kf i) (kAhead kf f i) (H 1) (bI wb) i S = kFeedS kz (kFeedS kz (kFeedA kz kc kw W (kf i) (kAhead kf f i) (H 1) (bI wb) i S) 13 11 (kf i) (U 1)) 14 12 (kf i) (U 1) := by
      rw [kFeed_A]
      unfold kFeed3
      rw [if_pos (a0.trans c6), a1]
      congr 1
      rw [kFeedS_o (by decide), a1]
    have l2 : (kFeed kz kc kw W (kf i) (kAhead kf f i) (H 1) (bI wb) i S).2 = (kFeedA kz kc kw W (kf i) (kAhead kf f i) (H 1) (bI wb) i S).2 := k3b
    generalize hA : kFeedA kz kc kw W (kf i) (kAhead kf f i) (H 1) (bI wb) i S = SA at *
    have o0 : ORD 0 (SA.2 11) (gLa kf f (i + 1)) (qA kf f (i + 1)) (qB kf f (i + 1)) := ⟨fun _ a b ha hb => by
      rw [← l2, hLs a ha, hLs b hb]
      exact la_lt (by omega), fun e => by cases e⟩
    have o1 : ORD 1 (SA.2 12) (gLa kf f (i + 1)) (qA kf f (i + 1)) (qB kf f (i + 1)) := ⟨fun e => (by cases e), fun _ a b ha hb => by
      rw [← l2]
      exact FewA_FW hFe (by omega) a b ha hb⟩
    obtain ⟨V1, v1, v2⟩ := sh_feed (i := i) (kf := kf) s1 hK (by omega) (by omega) o0 hx (gLa_x h3) (fun j _ hne => gLa_o hne)
    obtain ⟨V2, v3, v4⟩ := sh_feed (i := i) (kf := kf) s2 hK (by omega) (by omega) o1 hx (gLa_x h3) (fun j _ hne => gLa_o hne)
    have n13 := kFeedS_n (kz := kz) (S := SA) (t := 13) (R := 11) (k := kf i) (room := U 1) (Or.inl rfl)
    have n14 := kFeedS_n (kz := kz) (S := kFeedS kz SA 13 11 (kf i) (U 1)) (t := 14) (R := 12) (k := kf i) (room := U 1) (Or.inr rfl)
    have o14 : (kFeedS kz SA 13 11 (kf i) (U 1)).1 14 = SA.1 14 := kFeedS_o (by decide)
    rw [o14, kFeedS_l, a14] at n14
    rw [a13] at n13
    have g13 : (kFeed kz kc kw W (kf i) (kAhead kf f i) (H 1) (bI wb) i S).1 13 = (kFeedS kz SA 13 11 (kf i) (U 1)).1 13 := by rw [e3, kFeedS_o (by decide)]
    refine ⟨U', V1, V2, f1, hlo 0 (by omega), (hhi _ (by omega)).trans (if_pos rfl), fun _ => ⟨v1, v3⟩, fun q => absurd c6 q, hRX, (hlo 9 (by omega)).trans h2, by omega, by omega, hLs, hFe, hout, ?_, ?_, fun q => absurd ((hlo 0 (by omega)).trans c6) q⟩
    · rw [g13, n13.1, n13.2, hlo 1 (by omega)]
      exact RH1_mono v2 (by omega) (Nat.le_refl _) (fun _ _ _ => rfl)
    · rw [e3, n14.1, n14.2, hlo 1 (by omega)]
      exact RH1_mono v4 (by omega) (Nat.le_refl _) (fun _ _ _ => rfl)
  · have e3 : kFeed kz kc kw W (kf i) (kAhead kf f i) (H 1) (bI wb) i S = kFeedA kz kc kw W (kf i) (kAhead kf f i) (H 1) (bI wb) i S := by
      rw [kFeed_A]
      unfold kFeed3
      rw [if_neg (fun e => c6 (a0.symm.trans e))]
    obtain ⟨z1, z2⟩ := h10 c6
    have g13 : (kFeed kz kc kw W (kf i) (kAhead kf f i) (H 1) (bI wb) i S).1 13 = S.1 13 := by rw [e3, a13]
    have g14 : (kFeed kz kc kw W (kf i) (kAhead kf f i) (H 1) (bI wb) i S).1 14 = S.1 14 := by rw [e3, a14]
    refine ⟨U', U1, U2, f1, hlo 0 (by omega), (hhi _ (by omega)).trans (if_pos rfl), fun q => absurd q c6, fun _ => ⟨rfl, rfl⟩, hRX, (hlo 9 (by omega)).trans h2, by omega, by omega, hLs, hFe, hout, ?_, ?_, fun _ => by rw [g13, g14]; exact ⟨z1, z2⟩⟩
    · rw [g13, hlo 1 (by omega)]
      exact RH1_mono s1 (by omega) (by omega) (fun k _ hb => by rw [z1, b_0] at hb; cases hb)
    · rw [g14, hlo 1 (by omega)]
      exact RH1_mono s2 (by omega) (by omega) (fun k _ hb => by rw [z2, b_0] at hb; cases hb)
end Rn'
