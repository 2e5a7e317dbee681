/-! THE STATE between calls: what the relation looks at -/
/-- the cells of a cache that are looked at are alike -/
def SEq (S S' : CS) : Prop := (∀ j, j < 13 → j ≠ 4 → j ≠ 11 → S'.1 0 j = S.1 0 j) ∧ (∀ j, j < 4 → S'.1 1 j = S.1 1 j) ∧ (∀ k, k < 26 → S'.1 2 k = S.1 2 k ∧ S'.2 3 k = S.2 3 k ∧ S'.2 4 k = S.2 4 k ∧ S'.2 5 k = S.2 5 k) ∧ S'.2 0 11 = S.2 0 11 ∧ (S'.1 6 6 = S.1 6 6 ∧ S'.1 6 7 = S.1 6 7) ∧ (∀ j, j < 9 → S'.1 7 j = S.1 7 j) ∧
  (∀ k, k < 26 → S'.1 8 k = S.1 8 k ∧ S'.1 9 k = S.1 9 k ∧ S'.2 11 k = S.2 11 k ∧ S'.2 12 k = S.2 12 k) ∧ (∀ i, i < 300 → S'.1 10 i = S.1 10 i) ∧ S'.1 13 0 = S.1 13 0 ∧ S'.1 13 1 = S.1 13 1 ∧ S'.1 14 0 = S.1 14 0 ∧ S'.1 14 1 = S.1 14 1
def UEq (U U' : Nat → Int32) : Prop := ∀ w, w < 662 → U' w = U w
def BEq (T T' : BT) : Prop := T'.1 5 3 = T.1 5 3 ∧ T'.1 0 4 = T.1 0 4 ∧ (∀ k, k < 26 → T'.1 2 k = T.1 2 k ∧ T'.1 3 k = T.1 3 k ∧ T'.1 4 k = T.1 4 k) ∧ (∀ i, i < 300 → T'.1 6 i = T.1 6 i ∧ T'.1 7 i = T.1 7 i ∧ T'.1 8 i = T.1 8 i) ∧ ∀ i, i < 6 → SEq (T.2 i) (T'.2 i)
def HEq' (H H' : Nat → Int32) (V V' : Nat → Nat → Int32) : Prop := (∀ j, j < 980 → H' j = H j) ∧ ∀ u, u < 18 → UEq (V u) (V' u)
section Ua
variable {N L : Nat} {Q : (Nat → Int32) × (Nat → Int32)} {S S' P : CS} {T T' T2 : BT} {H H' U U' U1 U1' U2 U2' g : Nat → Int32} {V V' X : Nat → Nat → Int32} {M M' : LM} {B D i j k t w f n c r o : Nat} {kf fs W : Nat → Nat} {room sh mi v : Int32} {gg gl : Nat → Int64} {kz kc kw : Nat → Int32}
theorem SEq.rfl' : SEq S S := ⟨fun _ _ _ _ => rfl, fun _ _ => rfl, fun _ _ => ⟨rfl, rfl, rfl, rfl⟩, rfl, ⟨rfl, rfl⟩, fun _ _ => rfl, fun _ _ => ⟨rfl, rfl, rfl, rfl⟩, fun _ _ => rfl, rfl, rfl, rfl, rfl⟩
theorem UEq.rfl' : UEq U U := fun _ _ => rfl
theorem SEq.of (h : ∀ t, t < 15 → S'.1 t = S.1 t ∧ S'.2 t = S.2 t) : SEq S S' := by
  have a := fun t ht => (h t ht).1
  have b := fun t ht => (h t ht).2
  exact ⟨fun j _ _ _ => by rw [a 0 (by omega)], fun j _ => by rw [a 1 (by omega)], fun k _ => by rw [a 2 (by omega), b 3 (by omega), b 4 (by omega), b 5 (by omega)]; exact ⟨rfl, rfl, rfl, rfl⟩, by rw [b 0 (by omega)], by rw [a 6 (by omega)]; exact ⟨rfl, rfl⟩, fun j _ => by rw [a 7 (by omega)], fun k _ => by rw [a 8 (by omega), a 9 (by omega), b 11 (by omega), b 12 (by omega)]; exact ⟨rfl, rfl, rfl, rfl⟩, fun i _ => by rw [a 10 (by omega)], by rw [a 13 (by omega)], by rw [a 13 (by omega)], by rw [a 14 (by omega)], by rw [a 14 (by omega)]⟩
theorem SEq.tr {S2 : CS} (h : SEq S S') (g : SEq S' S2) : SEq S S2 := by
  obtain ⟨a1, a2, a3, a4, ⟨a5, a6⟩, a7, a8, a9, a10, a11, a12, a13⟩ := h
  obtain ⟨b1, b2, b3, b4, ⟨b5, b6⟩, b7, b8, b9, b10, b11, b12, b13⟩ := g
  refine ⟨fun j hj h4 h11 => (b1 j hj h4 h11).trans (a1 j hj h4 h11), fun j hj => (b2 j hj).trans (a2 j hj), fun k hk => ?_, b4.trans a4, ⟨b5.trans a5, b6.trans a6⟩, fun j hj => (b7 j hj).trans (a7 j hj), fun k hk => ?_, fun i hi => (b9 i hi).trans (a9 i hi), b10.trans a10, b11.trans a11, b12.trans a12, b13.trans a13⟩
  · obtain ⟨c1, c2, c3, c4⟩ := a3 k hk
    obtain ⟨d1, d2, d3, d4⟩ := b3 k hk
    exact ⟨d1.trans c1, d2.trans c2, d3.trans c3, d4.trans c4⟩
  · obtain ⟨c1, c2, c3, c4⟩ := a8 k hk
    obtain ⟨d1, d2, d3, d4⟩ := b8 k hk
    exact ⟨d1.trans c1, d2.trans c2, d3.trans c3, d4.trans c4⟩
theorem BEq.rfl' : BEq T T := ⟨rfl, rfl, fun _ _ => ⟨rfl, rfl, rfl⟩, fun _ _ => ⟨rfl, rfl, rfl⟩, fun _ _ => SEq.rfl'⟩
theorem BEq.of (h1 : ∀ t, t < 9 → T'.1 t = T.1 t) (h2 : ∀ i, i < 6 → ∀ t, t < 15 → (T'.2 i).1 t = (T.2 i).1 t ∧ (T'.2 i).2 t = (T.2 i).2 t) : BEq T T' :=
  ⟨by rw [h1 5 (by omega)], by rw [h1 0 (by omega)], fun k _ => by rw [h1 2 (by omega), h1 3 (by omega), h1 4 (by omega)]; exact ⟨rfl, rfl, rfl⟩, fun i _ => by rw [h1 6 (by omega), h1 7 (by omega), h1 8 (by omega)]; exact ⟨rfl, rfl, rfl⟩, fun i hi => SEq.of (h2 i hi)⟩
theorem BEq.tr (h : BEq T T') (g : BEq T' T2) : BEq T T2 := by
  obtain ⟨a1, a2, a3, a4, a5⟩ := h
  obtain ⟨b1, b2, b3, b4, b5⟩ := g
  exact ⟨b1.trans a1, b2.trans a2, fun k hk => ⟨(b3 k hk).1.trans (a3 k hk).1, (b3 k hk).2.1.trans (a3 k hk).2.1, (b3 k hk).2.2.trans (a3 k hk).2.2⟩, fun k hk => ⟨(b4 k hk).1.trans (a4 k hk).1, (b4 k hk).2.1.trans (a4 k hk).2.1, (b4 k hk).2.2.trans (a4 k hk).2.2⟩, fun i hi => (a5 i hi).tr (b5 i hi)⟩
theorem HB_cg {s : Int32} (h : HB s U w) (hU : UEq U U') (hw : w + 26 ≤ 662) : HB s U' w := ⟨h.1, fun k hk => (hU _ (by omega)).trans (h.2 k hk)⟩
theorem ISO_cg {a q : Nat} {s : Int32} {r r' : Nat → Int64} {P P' : Nat → Int32} (h : ISO a q s r P) (hr : ∀ k, k < 26 → r' k = r k) (hP : ∀ k, k < 26 → P' k = P k) : ISO a q s r' P' := ISO_sub h (fun _ _ hb => hb) (fun k hk _ => ⟨hr k hk, hP k hk⟩)
theorem RF_cg (h : RF S U) (hS : SEq S S') (hU : UEq U U') : RF S' U' := by
  obtain ⟨h1, h2, h3, h4, h5, h6⟩ := h
  refine ⟨fun j hj => ?_, fun j hj => ?_, ?_, ?_, ?_, ?_⟩
  · rw [hS.1 j (by omega) (by omega) (by omega), hU j (by omega)]; exact h1 j hj
  · rw [hS.2.1 j hj, hU _ (by omega)]; exact h2 j hj
  · rw [hU 8 (by omega), h3]
    unfold kHasSh
    rw [hS.2.1 0 (by omega), hS.2.1 1 (by omega), hS.2.1 2 (by omega), hS.2.1 3 (by omega)]
  · rw [hU 0 (by omega)]; exact h4
  · rw [hU 1 (by omega)]; exact h5
  · rw [hU 3 (by omega)]; exact h6
theorem RX_cg (h : RX N L (S.1 13, S.1 14) S U) (hS : SEq S S') (hU : UEq U U') : RX N L (S'.1 13, S'.1 14) S' U' := by
  obtain ⟨h1, h2, h3, h4, h5, h6, h7, h8, h9, ⟨c, q, b1, b2, b3, b4, b5, b6, b7⟩, ⟨c1, c2⟩, -, -⟩ := h
  have z := hS.1
  have s3 := hS.2.2.1
  refine ⟨RF_cg h1 hS hU, ?_, ?_, ?_, ?_, ?_, ?_, ?_, ?_, ?_, ?_, rfl, rfl⟩
  · rw [z 5 (by omega) (by omega) (by omega)]; exact HB_cg h2 hU (by omega)
  · rw [z 6 (by omega) (by omega) (by omega)]; exact HB_cg h3 hU (by omega)
  · rw [z 7 (by omega) (by omega) (by omega)]; exact HB_cg h4 hU (by omega)
  · rw [z 9 (by omega) (by omega) (by omega)]; exact HB_cg h5 hU (by omega)
  · rw [z 5 (by omega) (by omega) (by omega), z 8 (by omega) (by omega) (by omega)]
    exact ⟨h6.1, h6.2.1, fun k hk hb => by rw [hU _ (by omega)]; exact h6.2.2 k hk hb⟩
  · rw [z 5 (by omega) (by omega) (by omega), z 10 (by omega) (by omega) (by omega)]
    exact ⟨h7.1, h7.2.1, fun k hk => by rw [hU _ (by omega)]; exact h7.2.2 k hk⟩
  · intro k hk hb
    rw [z 5 (by omega) (by omega) (by omega)] at hb
    rw [(s3 k hk).1, hU _ (by omega)]
    exact h8 k hk hb
  · rw [z 5 (by omega) (by omega) (by omega), hS.2.2.2.1]
    refine ⟨by rw [hU 11 (by omega)]; exact h9.1, fun k hk hb => ?_⟩
    rw [hU _ (by omega), (s3 k hk).2.2.2]
    exact h9.2 k hk hb
  · refine ⟨c, q, (z 12 (by omega) (by omega) (by omega)).trans b1, (hU 10 (by omega)).trans b2, b3, b4, ?_, ?_, ?_⟩
    · rw [z 5 (by omega) (by omega) (by omega)]
      exact ISO_cg b5 (fun k hk => (s3 k hk).2.1) (fun k hk => hU _ (by omega))
    · rw [z 5 (by omega) (by omega) (by omega)]
      refine ISO_cg b6 (fun k hk => (s3 k hk).2.2.1) (fun k hk => ?_)
      unfold SP
      rw [hU 0 (by omega), hU (102 + k) (by omega), hU (50 + k) (by omega)]
    · rw [z 10 (by omega) (by omega) (by omega)]
      exact ISO_cg b7 (fun k hk => (s3 k hk).2.2.1) (fun k hk => hU _ (by omega))
  · refine ⟨fun j hj => ?_, fun k hk => ?_⟩
    · rw [hS.2.2.2.2.2.1 j hj, hU _ (by omega)]; exact c1 j hj
    · have s8 := hS.2.2.2.2.2.2.1 k hk
      rw [s8.1, s8.2.1, hU _ (by omega), hU _ (by omega)]
      exact c2 k hk
theorem RH1_cg (h : RH1 r room f n c sh mi gl U) (hU : UEq U U') : RH1 r room f n c sh mi gl U' := by
  obtain ⟨h1, h2, h3, h4, h5, h6, h7, h8, q, h9, h10, h11⟩ := h
  refine ⟨h1, (hU 0 (by omega)).trans h2, (hU 1 (by omega)).trans h3, (hU 3 (by omega)).trans h4, (hU 8 (by omega)).trans h5, (hU 9 (by omega)).trans h6, HB_cg h7 hU (by omega), (hU 13 (by omega)).trans h8, q, h9, (hU 10 (by omega)).trans h10, fun e => ISO_cg (h11 e) (fun _ _ => rfl) (fun k hk => hU _ (by omega))⟩
theorem RC_cg (h : RC kf f t S U U1 U2) (hS : SEq S S') (hU : UEq U U') (hU1 : UEq U1 U1') (hU2 : UEq U2 U2') : RC kf f t S' U' U1' U2' := by
  obtain ⟨h1, h2, h3, h4, h5, h6, ⟨h7, h8, h9⟩, h10, h11, h12⟩ := h
  obtain ⟨s1, s2, s3, s4, ⟨s5, s6⟩, s7, s8, s9, s10, s11, s12, s13⟩ := id hS
  refine ⟨RX_cg h1 hS hU, (hU 9 (by omega)).trans h2, h3, h4, fun k hk => (s8 k hk).2.2.1.trans (h5 k hk), fun k hk => (s8 k hk).2.2.2.trans (h6 k hk), ⟨s5.trans h7, s6.trans h8, fun i hi => ?_⟩, ?_, ?_, fun e => ?_⟩
  · rw [hU _ (by omega), s9 i hi]; exact h9 i hi
  · rw [hU 1 (by omega), s10, s11]; exact RH1_cg h10 hU1
  · rw [hU 1 (by omega), s12, s13]; exact RH1_cg h11 hU2
  · rw [s10, s12]
    rw [hU 0 (by omega)] at e
    exact h12 e
theorem KY_cg {kz' kc' kw' : Nat → Int32} (h : KY kz kc kw W H) (h1 : ∀ k, k < 26 → kz' k = kz k ∧ kc' k = kc k ∧ kw' k = kw k) (hH : ∀ j, j < 980 → H' j = H j) : KY kz' kc' kw' W H' := by
  intro k hk
  obtain ⟨a, b, c⟩ := h1 k hk
  rw [a, b, c, hH _ (by omega), hH _ (by omega), hH _ (by omega)]
  exact h k hk
/-- the relation looks at no other cells -/
theorem RB_cg (h : RB kf fs W n T H V) (hT : BEq T T') (hH : HEq' H H' V V') : RB kf fs W n T' H' V' := by
  obtain ⟨h1, h2, h3, h4, h5, h6, h7, h8⟩ := h
  obtain ⟨t1, t2, t3, t4, t5⟩ := hT
  obtain ⟨g1, g2⟩ := hH
  refine ⟨h1, t1.trans h2, (g1 0 (by omega)).trans h3, ?_, KY_cg h5 t3 g1, fun i hi => ?_, h7, fun c hc => ?_⟩
  · rw [t2, g1 1 (by omega)]; exact h4
  · obtain ⟨a, b, d⟩ := t4 i (by omega)
    rw [a, b, d, g1 _ (by omega), g1 _ (by omega), g1 _ (by omega)]
    exact h6 i hi
  · exact RC_cg (h8 c hc) (t5 c hc) (g2 c (by omega)) (g2 (6 + 2 * c) (by omega)) (g2 (7 + 2 * c) (by omega))
/-- a cache copied is alike -/
theorem u1_x {α : Type} {f : Nat → α} {v : α} {a b : Nat} : u1 f a v b = if b = a then v else f b := rfl
theorem rd_wi {a b : Nat} : (cwi S t j v).1 a b = if a = t ∧ b = j then v else S.1 a b := rfl
theorem rd_wl {a b : Nat} {y : Int64} : (cwl S t j y).2 a b = if a = t ∧ b = j then y else S.2 a b := rfl
theorem rd_fi {a b : Nat} {g : Nat → Int32} : (cfI S t n g).1 a b = if a = t ∧ b < n then g b else S.1 a b := by
  show u1 S.1 t (fun j => if j < n then g j else S.1 t j) a b = _
  rw [u1_x]
  by_cases q : a = t
  · rw [if_pos q, q]
    by_cases q2 : b < n
    · rw [if_pos q2, if_pos ⟨rfl, q2⟩]
    · rw [if_neg q2, if_neg (fun e => q2 e.2)]
  · rw [if_neg q, if_neg (fun e => q e.1)]
theorem rd_fl {a b : Nat} {g : Nat → Int64} : (cfL S t n g).2 a b = if a = t ∧ b < n then g b else S.2 a b := by
  show u1 S.2 t (fun j => if j < n then g j else S.2 t j) a b = _
  rw [u1_x]
  by_cases q : a = t
  · rw [if_pos q, q]
    by_cases q2 : b < n
    · rw [if_pos q2, if_pos ⟨rfl, q2⟩]
    · rw [if_neg q2, if_neg (fun e => q2 e.2)]
  · rw [if_neg q, if_neg (fun e => q e.1)]
theorem rd_fi2 {g : Nat → Int32} : (cfI S t n g).2 = S.2 := rfl
theorem rd_fl1 {g : Nat → Int64} : (cfL S t n g).1 = S.1 := rfl
theorem kCopy_eq : SEq P (kCopy S P) := by
  unfold kCopy kCpT
  refine ⟨fun j hj h4 h11 => ?_, fun j hj => ?_, fun k hk => ⟨?_, ?_, ?_, ?_⟩, ?_, ⟨?_, ?_⟩, fun j hj => ?_, fun k hk => ⟨?_, ?_, ?_, ?_⟩, fun i hi => ?_, ?_, ?_, ?_, ?_⟩
  · have : j = 0 ∨ j = 1 ∨ j = 2 ∨ j = 3 ∨ j = 5 ∨ j = 6 ∨ j = 7 ∨ j = 8 ∨ j = 9 ∨ j = 10 ∨ j = 12 := by omega
    rcases this with rfl | rfl | rfl | rfl | rfl | rfl | rfl | rfl | rfl | rfl | rfl <;> simp [rd_wi, rd_wl, rd_fi, rd_fl, rd_fi2, rd_fl1, cwi_2, cwl_1]
  all_goals simp [rd_wi, rd_wl, rd_fi, rd_fl, rd_fi2, rd_fl1, cwi_2, cwl_1, *]
/-- a bench copied is alike -/
theorem kCpB_eq {T P : BT} : BEq P (kCpB T P) := by
  have rd : ∀ {F : Nat → Nat → Int32} {t : Nat} {g : Nat → Int32} {a b : Nat}, u1 F t g a b = if a = t then g b else F a b := fun {F t g a b} => by
    rw [u1_x]; split <;> rfl
  have rd2 : ∀ {F : Nat → Nat → Int32} {t j : Nat} {v : Int32} {a b : Nat}, u2 F t j v a b = if a = t ∧ b = j then v else F a b := fun {F t j v a b} => rfl
  unfold kCpB kCpH cpR
  refine ⟨?_, ?_, fun k hk => ⟨?_, ?_, ?_⟩, fun i hi => ⟨?_, ?_, ?_⟩, fun i hi => ?_⟩
  · simp [rd, rd2]
  · simp [rd, rd2]
  · simp [rd, rd2, hk]
  · simp [rd, rd2, hk]
  · simp [rd, rd2, hk]
  · simp [rd, rd2, hi]
  · simp [rd, rd2, hi]
  · simp [rd, rd2, hi]
  · show SEq (P.2 i) (if i < 6 then kCopy (T.2 i) (P.2 i) else T.2 i)
    rw [if_pos hi]
    exact kCopy_eq
/-- what a window of a bench holds -/
theorem tB_bM : BEq T (tB (bM M B T) B) := by
  refine BEq.of (fun t ht => ?_) (fun i hi t ht => ⟨?_, ?_⟩)
  · exact bMI ht
  · show mI (bM M B T) (cc B i + t) = _
    have := bM_c (M := M) (B := B) (T := T) (S := T.2 i) hi
    rw [u1i] at this
    rw [← show cM (bM M B T) (cc B i) (T.2 i) = bM M B T from this, cIt ht]
  · show mL (bM M B T) (cc B i + t) = _
    have := bM_c (M := M) (B := B) (T := T) (S := T.2 i) hi
    rw [u1i] at this
    rw [← show cM (bM M B T) (cc B i) (T.2 i) = bM M B T from this, cLt ht]
/-- a bench whose cells are left alone -/
theorem tB_o (h1 : ∀ a, B ≤ a → a < B + 100 → mI M' a = mI M a ∧ mL M' a = mL M a) : BEq (tB M B) (tB M' B) := by
  refine BEq.of (fun t ht => ?_) (fun i hi t ht => ?_)
  · exact (h1 (B + t) (by omega) (by omega)).1
  · have := cc_ge (B := B) hi
    exact h1 (cc B i + t) (by omega) (by omega)
/-- the reference's row -/
def vv (M : LM) (a : Nat) : Nat → Nat → Int32 := fun u w => mI M a (980 + 662 * u + w)
theorem rM_HV : HEq' H (mI (rM M o H V X) (o + 1)) V (vv (rM M o H V X) (o + 1)) := by
  refine ⟨fun j hj => rM_h hj, fun u hu w hw => ?_⟩
  have := rM_u (M := M) (o := o) (H := H) (V := V) (X := X) (u := u) (U := V u) hw
  rw [u1_id] at this
  exact this
theorem vv_rw {M : LM} {a : Nat} : HEq' (mI M a) (mI M a) (vv M a) (vv M a) := ⟨fun _ _ => rfl, fun _ _ => UEq.rfl'⟩
end Ua
