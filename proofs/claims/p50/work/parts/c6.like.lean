/-! CACHES alike, as far as what follows and what is told of them: SR e (but for the key e) -/
def SR (e : Nat) (S S' : CS) : Prop := (∀ j, j < 13 → j ≠ 4 → j ≠ 11 → S'.1 0 j = S.1 0 j) ∧ S'.2 0 11 = S.2 0 11 ∧ (∀ j, j < 4 → S'.1 1 j = S.1 1 j) ∧ (∀ j, j < 9 → S'.1 7 j = S.1 7 j) ∧ (∀ k, k < 26 → S'.1 8 k = S.1 8 k ∧ S'.1 9 k = S.1 9 k ∧ S'.2 11 k = S.2 11 k ∧ S'.2 12 k = S.2 12 k) ∧ (S'.1 13 0 = S.1 13 0 ∧ S'.1 13 1 = S.1 13 1 ∧ S'.1 14 0 = S.1 14 0 ∧ S'.1 14 1 = S.1 14 1) ∧
  (∀ k, k < 26 → bt (S.1 0 5) k = true → k ≠ e → S'.1 2 k = S.1 2 k ∧ S'.2 3 k = S.2 3 k ∧ S'.2 4 k = S.2 4 k ∧ S'.2 5 k = S.2 5 k) ∧ ∀ k, k < 26 → bt (S.1 0 10) k = true → k ≠ e → S'.2 4 k = S.2 4 k
section Cg
variable {S S' S2 : CS} {i j k m n x y e s t p : Nat} {v v' now : Int32} {q q' : Int64} {kz kc kw : Nat → Int32} {W kf : Nat → Nat} {these present write : Int32} {r r' : Nat → Int64} {kept ahead : Option Nat}
theorem SR.rf : SR e S S := ⟨fun _ _ _ _ => rfl, rfl, fun _ _ => rfl, fun _ _ => rfl, fun _ _ => ⟨rfl, rfl, rfl, rfl⟩, ⟨rfl, rfl, rfl, rfl⟩, fun _ _ _ _ => ⟨rfl, rfl, rfl, rfl⟩, fun _ _ _ _ => rfl⟩
theorem SR.tr (h : SR e S S') (g : SR e S' S2) : SR e S S2 := by
  obtain ⟨a1, a2, a3, a4, a5, a6, a7, a8⟩ := h
  obtain ⟨b1, b2, b3, b4, b5, b6, b7, b8⟩ := g
  have e5 := a1 5 (by omega) (by omega) (by omega)
  have e10 := a1 10 (by omega) (by omega) (by omega)
  refine ⟨fun j q1 q2 q3 => (b1 j q1 q2 q3).trans (a1 j q1 q2 q3), b2.trans a2, fun j hj => (b3 j hj).trans (a3 j hj), fun j hj => (b4 j hj).trans (a4 j hj), fun k hk => ?_, ⟨b6.1.trans a6.1, b6.2.1.trans a6.2.1, b6.2.2.1.trans a6.2.2.1, b6.2.2.2.trans a6.2.2.2⟩, fun k hk q ne => ?_, fun k hk q ne => (b8 k hk (by rw [e10]; exact q) ne).trans (a8 k hk q ne)⟩
  · obtain ⟨u1, u2, u3, u4⟩ := a5 k hk
    obtain ⟨w1, w2, w3, w4⟩ := b5 k hk
    exact ⟨w1.trans u1, w2.trans u2, w3.trans u3, w4.trans u4⟩
  · obtain ⟨u1, u2, u3, u4⟩ := a7 k hk q ne
    obtain ⟨w1, w2, w3, w4⟩ := b7 k hk (by rw [e5]; exact q) ne
    exact ⟨w1.trans u1, w2.trans u2, w3.trans u3, w4.trans u4⟩
theorem SR.sy (h : SR e S S') : SR e S' S := by
  obtain ⟨a1, a2, a3, a4, a5, a6, a7, a8⟩ := h
  have e5 := a1 5 (by omega) (by omega) (by omega)
  have e10 := a1 10 (by omega) (by omega) (by omega)
  refine ⟨fun j q1 q2 q3 => (a1 j q1 q2 q3).symm, a2.symm, fun j hj => (a3 j hj).symm, fun j hj => (a4 j hj).symm, fun k hk => ?_, ⟨a6.1.symm, a6.2.1.symm, a6.2.2.1.symm, a6.2.2.2.symm⟩, fun k hk q ne => ?_, fun k hk q ne => (a8 k hk (by rw [← e10]; exact q) ne).symm⟩
  · obtain ⟨u1, u2, u3, u4⟩ := a5 k hk
    exact ⟨u1.symm, u2.symm, u3.symm, u4.symm⟩
  · obtain ⟨u1, u2, u3, u4⟩ := a7 k hk (by rw [← e5]; exact q) ne
    exact ⟨u1.symm, u2.symm, u3.symm, u4.symm⟩
theorem SR.g (h : SR e S S') (h1 : j < 13) (h4 : j ≠ 4) (h11 : j ≠ 11) : S'.1 0 j = S.1 0 j := h.1 j h1 h4 h11
theorem SR.we (h : SR 26 S S') : SR e S S' := ⟨h.1, h.2.1, h.2.2.1, h.2.2.2.1, h.2.2.2.2.1, h.2.2.2.2.2.1, fun k hk q _ => h.2.2.2.2.2.2.1 k hk q (by omega), fun k hk q _ => h.2.2.2.2.2.2.2 k hk q (by omega)⟩
theorem SR.fin (h : SR e S S') (h1 : S'.1 2 e = S.1 2 e) (h2 : S'.2 3 e = S.2 3 e) (h3 : S'.2 4 e = S.2 4 e) (h4 : S'.2 5 e = S.2 5 e) : SR 26 S S' := ⟨h.1, h.2.1, h.2.2.1, h.2.2.2.1, h.2.2.2.2.1, h.2.2.2.2.2.1, fun k hk q _ => by
  by_cases w : k = e
  · rw [w]; exact ⟨h1, h2, h3, h4⟩
  · exact h.2.2.2.2.2.2.1 k hk q w, fun k hk q _ => by
  by_cases w : k = e
  · rw [w]; exact h3
  · exact h.2.2.2.2.2.2.2 k hk q w⟩
theorem SR.wi (h : SR e S S') (hv : v' = v) (h1 : ¬ (t = 0 ∧ j = 5)) (h2 : ¬ (t = 0 ∧ j = 10)) : SR e (cwi S t j v) (cwi S' t j v') := by
  subst hv
  obtain ⟨a1, a2, a3, a4, a5, a6, a7, a8⟩ := h
  have r : ∀ a b, (S'.1 a b = S.1 a b) → (cwi S' t j v').1 a b = (cwi S t j v').1 a b := fun a b q => by rw [rd_wi, rd_wi, q]
  have e5 : (cwi S t j v').1 0 5 = S.1 0 5 := by rw [rd_wi, if_neg (fun q => h1 ⟨q.1.symm, q.2.symm⟩)]
  have e10 : (cwi S t j v').1 0 10 = S.1 0 10 := by rw [rd_wi, if_neg (fun q => h2 ⟨q.1.symm, q.2.symm⟩)]
  exact ⟨fun i q1 q2 q3 => r _ _ (a1 i q1 q2 q3), a2, fun i q => r _ _ (a3 i q), fun i q => r _ _ (a4 i q), fun k hk => ⟨r _ _ (a5 k hk).1, r _ _ (a5 k hk).2.1, (a5 k hk).2.2.1, (a5 k hk).2.2.2⟩, ⟨r _ _ a6.1, r _ _ a6.2.1, r _ _ a6.2.2.1, r _ _ a6.2.2.2⟩, fun k hk q ne => by
    rw [e5] at q
    obtain ⟨u1, u2, u3, u4⟩ := a7 k hk q ne
    exact ⟨r _ _ u1, u2, u3, u4⟩, fun k hk q ne => by
    rw [e10] at q
    exact a8 k hk q ne⟩
theorem SR.wl (h : SR e S S') (hv : q' = q) : SR e (cwl S t j q) (cwl S' t j q') := by
  subst hv
  obtain ⟨a1, a2, a3, a4, a5, a6, a7, a8⟩ := h
  have r : ∀ a b, (S'.2 a b = S.2 a b) → (cwl S' t j q').2 a b = (cwl S t j q').2 a b := fun a b q => by rw [rd_wl, rd_wl, q]
  exact ⟨a1, r _ _ a2, a3, a4, fun k hk => ⟨(a5 k hk).1, (a5 k hk).2.1, r _ _ (a5 k hk).2.2.1, r _ _ (a5 k hk).2.2.2⟩, a6, fun k hk q ne => by
    obtain ⟨u1, u2, u3, u4⟩ := a7 k hk q ne
    exact ⟨u1, r _ _ u2, r _ _ u3, r _ _ u4⟩, fun k hk q ne => r _ _ (a8 k hk q ne)⟩
theorem SR.w5 (h : SR e S S') (hv : v' = v) (h1 : ∀ k, k < 26 → bt v k = true → k ≠ e → bt (S.1 0 5) k = true) : SR e (cwi S 0 5 v) (cwi S' 0 5 v') := by
  subst hv
  obtain ⟨a1, a2, a3, a4, a5, a6, a7, a8⟩ := h
  have r : ∀ a b, (S'.1 a b = S.1 a b) → (cwi S' 0 5 v').1 a b = (cwi S 0 5 v').1 a b := fun a b q => by rw [rd_wi, rd_wi, q]
  have e5 : (cwi S 0 5 v').1 0 5 = v' := rfl
  have e10 : (cwi S 0 5 v').1 0 10 = S.1 0 10 := rfl
  exact ⟨fun i q1 q2 q3 => r _ _ (a1 i q1 q2 q3), a2, fun i q => r _ _ (a3 i q), fun i q => r _ _ (a4 i q), fun k hk => ⟨r _ _ (a5 k hk).1, r _ _ (a5 k hk).2.1, (a5 k hk).2.2.1, (a5 k hk).2.2.2⟩, ⟨r _ _ a6.1, r _ _ a6.2.1, r _ _ a6.2.2.1, r _ _ a6.2.2.2⟩, fun k hk q ne => by
    rw [e5] at q
    obtain ⟨u1, u2, u3, u4⟩ := a7 k hk (h1 k hk q ne) ne
    exact ⟨r _ _ u1, u2, u3, u4⟩, fun k hk q ne => by
    rw [e10] at q
    exact a8 k hk q ne⟩
theorem SR.w10 (h : SR e S S') (hv : v' = v) (h1 : ∀ k, k < 26 → bt v k = true → k ≠ e → bt (S.1 0 10) k = true ∨ bt (S.1 0 5) k = true) : SR e (cwi S 0 10 v) (cwi S' 0 10 v') := by
  subst hv
  obtain ⟨a1, a2, a3, a4, a5, a6, a7, a8⟩ := h
  have r : ∀ a b, (S'.1 a b = S.1 a b) → (cwi S' 0 10 v').1 a b = (cwi S 0 10 v').1 a b := fun a b q => by rw [rd_wi, rd_wi, q]
  have e5 : (cwi S 0 10 v').1 0 5 = S.1 0 5 := rfl
  have e10 : (cwi S 0 10 v').1 0 10 = v' := rfl
  exact ⟨fun i q1 q2 q3 => r _ _ (a1 i q1 q2 q3), a2, fun i q => r _ _ (a3 i q), fun i q => r _ _ (a4 i q), fun k hk => ⟨r _ _ (a5 k hk).1, r _ _ (a5 k hk).2.1, (a5 k hk).2.2.1, (a5 k hk).2.2.2⟩, ⟨r _ _ a6.1, r _ _ a6.2.1, r _ _ a6.2.2.1, r _ _ a6.2.2.2⟩, fun k hk q ne => by
    rw [e5] at q
    obtain ⟨u1, u2, u3, u4⟩ := a7 k hk q ne
    exact ⟨r _ _ u1, u2, u3, u4⟩, fun k hk q ne => by
    rw [e10] at q
    rcases h1 k hk q ne with w | w
    · exact a8 k hk w ne
    · exact (a7 k hk w ne).2.2.1⟩
/-! ### the steps -/
theorem lO_on (h : ∀ k, k < 26 → bt v k = true → r' k = r k) : lO v r' = lO v r := qFst_congr (fun _ _ => rfl) (fun i j hi hj h1 h2 => by rw [h i hi h1, h j hj h2]) 26 none (Nat.le_refl _) (fun j e => by cases e)
theorem and_l {k : Nat} (h : bt (v &&& v') k = true) : bt v k = true := by rw [b_and] at h; exact (Bool.and_eq_true_iff.mp h).1
theorem SR.asked (h : SR e S S') (hk : k < 26) : SR e (kAsked S v k) (kAsked S' v k) := (h.wl rfl).wl (by rw [(h.2.2.2.2.1 k hk).2.2.2])
theorem SR.note0 (h : SR e S S') (hk : k < 26) : SR e (kNote0 S i k) (kNote0 S' i k) := (((h.wi rfl (by omega) (by omega)).wi rfl (by omega) (by omega)).wi (by rw [h.2.2.2.1 0 (by omega)]) (by omega) (by omega)).wi (by rw [(h.2.2.2.2.1 k hk).1]) (by omega) (by omega)
theorem SR.note1 (h : SR e S S') (hk : k < 26) : SR e (kNote1 S i k) (kNote1 S' i k) := (((h.wi rfl (by omega) (by omega)).wi rfl (by omega) (by omega)).wi (by rw [h.2.2.2.1 1 (by omega)]) (by omega) (by omega)).wi (by rw [(h.2.2.2.2.1 k hk).2.1]) (by omega) (by omega)
theorem SR.note2 (h : SR e S S') (hk : k < 26) : SR e (kNote2 S i k) (kNote2 S' i k) := ((((h.wi rfl (by omega) (by omega)).wi rfl (by omega) (by omega)).wi (by rw [h.2.2.2.1 1 (by omega)]) (by omega) (by omega)).wi (by rw [(h.2.2.2.2.1 k hk).2.1]) (by omega) (by omega)).wi (by rw [h.2.2.2.1 5 (by omega)]) (by omega) (by omega)
theorem SR.use (h : SR e S S') : SR e (kUse kz kc S k) (kUse kz kc S' k) := by
  have e12 := h.g (j := 12) (by omega) (by omega) (by omega)
  exact ((h.wi (by rw [e12]) (by omega) (by omega)).wl (by rw [e12])).wl (by rw [h.2.1])
theorem SR.take (h : SR e S S') : SR e (kTake S k) (kTake S' k) := by
  have e5 := h.g (j := 5) (by omega) (by omega) (by omega)
  have e6 := h.g (j := 6) (by omega) (by omega) (by omega)
  have t0 : ∀ {P P' : CS}, SR e P P' → SR e (kTake0 P k) (kTake0 P' k) := fun {P P'} g => by
    have f := fun (j : Nat) (h1 : j < 13) (h4 : j ≠ 4) (h11 : j ≠ 11) => g.g h1 h4 h11
    exact ((((g.w5 (by rw [f 5 (by omega) (by omega) (by omega)]) (fun i _ q _ => and_l q)).wi (by rw [f 6 (by omega) (by omega) (by omega)]) (by omega) (by omega)).wi (by rw [f 7 (by omega) (by omega) (by omega)]) (by omega) (by omega)).wi (by rw [f 8 (by omega) (by omega) (by omega)]) (by omega) (by omega)).wi (by rw [f 9 (by omega) (by omega) (by omega)]) (by omega) (by omega)
  unfold kTake
  rw [e6]
  split
  · exact t0 (h.wi (by rw [h.2.2.2.1 4 (by omega)]) (by omega) (by omega))
  · exact t0 h
theorem SR.meet (h : SR e S S') : SR e (kMeet kz kc S k) (kMeet kz kc S' k) := by
  have e9 := h.g (j := 9) (by omega) (by omega) (by omega)
  have t : ∀ {P P' : CS}, SR e P P' → SR e (kUse kz kc (cwi P 0 7 (P.1 0 7 ||| bb k)) k) (kUse kz kc (cwi P' 0 7 (P'.1 0 7 ||| bb k)) k) := fun {P P'} g => (g.wi (by rw [g.g (j := 7) (by omega) (by omega) (by omega)]) (by omega) (by omega)).use
  unfold kMeet
  rw [e9]
  split
  · exact t ((h.wi rfl (by omega) (by omega)).wi (by rw [h.2.2.2.1 7 (by omega)]) (by omega) (by omega))
  · exact t h
theorem SR.turn : ∀ (n : Nat) {S S' : CS}, SR 26 S S' → SR 26 (kTurn these n S) (kTurn these n S')
  | 0, _, _, h => h
  | n + 1, S, S', h => by
    have e5 := h.g (j := 5) (by omega) (by omega) (by omega)
    have e7 := h.g (j := 7) (by omega) (by omega) (by omega)
    have e12 := h.g (j := 12) (by omega) (by omega) (by omega)
    have el : lO (S'.1 0 5) (S'.2 4) = lO (S.1 0 5) (S.2 4) := by
      rw [e5]
      exact lO_on fun k hk q => (h.2.2.2.2.2.2.1 k hk q (by omega)).2.2.1
    unfold kTurn
    rw [el]
    cases lO (S.1 0 5) (S.2 4) with
    | none => exact h
    | some j =>
      dsimp only
      rw [e7]
      split
      · exact SR.turn n (((h.wi (by rw [e7]) (by omega) (by omega)).wi (by rw [e12]) (by omega) (by omega)).wl (by rw [e12]))
      · exact h
theorem SR.rem (h : SR 26 S S') (hk : k < 26) (hb : bt (S.1 0 5) k = true) : SR 26 (kRem S k) (kRem S' k) := by
  have e10 := h.g (j := 10) (by omega) (by omega) (by omega)
  have e12 := h.g (j := 12) (by omega) (by omega) (by omega)
  have e1 := h.g (j := 1) (by omega) (by omega) (by omega)
  have sub : ∀ i, i < 26 → bt (S.1 0 10 ||| bb k) i = true → bt (S.1 0 10) i = true ∨ bt (S.1 0 5) i = true := fun i hi q => by
    rw [b_or] at q
    rcases Bool.or_eq_true_iff.mp q with q | q
    · exact Or.inl q
    · rw [bt_bb (by omega) (by omega)] at q
      rw [of_decide_eq_true q]; exact Or.inr hb
  have h0 : SR 26 (kRem0 S k) (kRem0 S' k) := ((h.w10 (by rw [e10]) (fun i hi q _ => sub i hi q)).wi (by rw [e12]) (by omega) (by omega)).wl (by rw [e12])
  have el : lO (S.1 0 10 ||| bb k) (u2 S'.2 4 k (Int32.toInt64 (S.1 0 12 + 1)) 4) = lO (S.1 0 10 ||| bb k) (u2 S.2 4 k (Int32.toInt64 (S.1 0 12 + 1)) 4) := lO_on fun i hi q => by
    by_cases w : i = k
    · rw [w, z2_eq, z2_eq]
    · rw [z2_n2 w, z2_n2 w]
      rcases sub i hi q with q | q
      · exact h.2.2.2.2.2.2.2 i hi q (by omega)
      · exact (h.2.2.2.2.2.2.1 i hi q (by omega)).2.2.1
  unfold kRem
  rw [e10, e12, e1, el]
  split
  · exact h0.w10 rfl (fun i hi q _ => Or.inl (by
      show bt (S.1 0 10 ||| bb k) i = true
      exact and_l q))
  · exact h0
theorem SR.cho (h : SR 26 S S') (hs : ∀ k, k < 26 → bt these k = true → bt (S.1 0 5) k = true) : kChO kz S' these = kChO kz S these := by
  have g := fun (j : Nat) (h1 : j < 13) (h4 : j ≠ 4) (h11 : j ≠ 11) => h.g h1 h4 h11
  have l3 : ∀ w, (∀ k, k < 26 → bt w k = true → bt (S.1 0 5) k = true) → lO w (S'.2 3) = lO w (S.2 3) := fun w hw => lO_on fun k hk q => (h.2.2.2.2.2.2.1 k hk (hw k hk q) (by omega)).2.1
  have l4 : ∀ w, (∀ k, k < 26 → bt w k = true → bt (S.1 0 5) k = true) → lO w (S'.2 4) = lO w (S.2 4) := fun w hw => lO_on fun k hk q => (h.2.2.2.2.2.2.1 k hk (hw k hk q) (by omega)).2.2.1
  have l5 : ∀ w, (∀ k, k < 26 → bt w k = true → bt (S.1 0 5) k = true) → lO w (S'.2 5) = lO w (S.2 5) := fun w hw => lO_on fun k hk q => (h.2.2.2.2.2.2.1 k hk (hw k hk q) (by omega)).2.2.2
  have l12 : ∀ w, lO w (S'.2 12) = lO w (S.2 12) := fun w => lO_on fun k hk q => (h.2.2.2.2.1 k hk).2.2.2
  have sub : ∀ w k, k < 26 → bt (these &&& w) k = true → bt (S.1 0 5) k = true := fun w k hk q => hs k hk (and_l q)
  unfold kChO
  rw [g 0 (by omega) (by omega) (by omega), g 7 (by omega) (by omega) (by omega), g 8 (by omega) (by omega) (by omega), g 1 (by omega) (by omega) (by omega), g 5 (by omega) (by omega) (by omega), h.2.2.2.2.2.1.2.1, h.2.2.2.2.2.1.2.2.2, l12 these, l4 these hs, l4 _ (sub _), l3 these hs, l3 _ (sub (S.1 0 8)), l4 _ (sub (S.1 0 8 ^^^ -1)), l5 these hs]
theorem SR.hasSh (h : SR e S S') : kHasSh S' = kHasSh S := by
  unfold kHasSh
  rw [h.2.2.1 0 (by omega), h.2.2.1 1 (by omega), h.2.2.1 2 (by omega), h.2.2.1 3 (by omega)]
theorem SR.beyond (h : SR e S S') {set : Int32} : ∀ (n : Nat) (b : Int32), n ≤ 4 → kBeyond kz kw S' set n b = kBeyond kz kw S set n b
  | 0, _, _ => rfl
  | n + 1, b, hn => by
    unfold kBeyond
    rw [h.2.2.1 (3 - n) (by omega)]
    exact SR.beyond h n _ (by omega)
theorem SR.go (h : SR e S S') : kGo kz kw W S' these y = kGo kz kw W S these y := by
  unfold kGo kBey
  rw [h.hasSh, h.g (j := 5) (by omega) (by omega) (by omega), SR.beyond h 4 0 (Nat.le_refl _)]
theorem SR.out1 (h : SR 26 S S') (hk : k < 26) (hb : bt (S.1 0 5) k = true) : SR 26 (kOut1 S k) (kOut1 S' k) := by
  have hl : SR 26 (kLevel S k) (kLevel S' k) ∧ (kLevel S k).1 0 5 = S.1 0 5 := by
    unfold kLevel
    rw [h.g (j := 0) (by omega) (by omega) (by omega), h.2.1, (h.2.2.2.2.2.2.1 k hk hb (by omega)).2.2.2]
    split
    · exact ⟨h.wl rfl, rfl⟩
    · exact ⟨h, rfl⟩
  have ho : SR 26 (kOld (kLevel S k) k) (kOld (kLevel S' k) k) := by
    unfold kOld
    rw [hl.1.g (j := 0) (by omega) (by omega) (by omega), hl.1.g (j := 8) (by omega) (by omega) (by omega)]
    split
    · split
      · exact hl.1
      · exact hl.1.rem hk (by rw [hl.2]; exact hb)
    · exact hl.1
  unfold kOut1
  exact ho.take.wi (by rw [ho.take.2.2.2.1 2 (by omega)]) (by omega) (by omega)
theorem SR.out (h : SR 26 S S') (hs : ∀ k, k < 26 → bt these k = true → bt (S.1 0 5) k = true) : SR 26 (kOut kz these S) (kOut kz these S') := by
  have main : ∀ {P P' : CS}, SR 26 P P' → P.1 0 5 = S.1 0 5 → SR 26 (kOut13 kz these P) (kOut13 kz these P') := fun {P P'} g g5 => by
    have hs' : ∀ k, k < 26 → bt these k = true → bt (P.1 0 5) k = true := fun k hk q => by rw [g5]; exact hs k hk q
    unfold kOut13
    rw [g.cho hs']
    cases e : kChO kz P these with
    | none => exact g
    | some k =>
      have := kChO_in k e
      exact g.out1 this.1 (hs' k this.1 this.2)
  unfold kOut
  rw [h.g (j := 0) (by omega) (by omega) (by omega)]
  split
  · exact main (SR.turn 52 h) (kTurn_NE 52).1
  · exact main h rfl
theorem SR.room (hkp : ∀ s, kept = some s → s < 26) : ∀ (n : Nat) {S S' : CS}, SR 26 S S' → KS (S.1 0 5) → SR 26 (kRoom kz kw W y kept n S) (kRoom kz kw W y kept n S')
  | 0, _, _, h, _ => h
  | n + 1, S, S', h, hs => by
    have e5 := h.g (j := 5) (by omega) (by omega) (by omega)
    have e1 := h.g (j := 1) (by omega) (by omega) (by omega)
    unfold kRoom
    rw [e5, e1, h.go]
    split
    · have hT : KS (S.1 0 5 &&& (obb kept ^^^ -1)) := KS_and hs
      obtain ⟨p1, p2, p3⟩ := kGo_in (kz := kz) (kw := kw) (W := W) (S := S) (y := y) hT
      have sub : ∀ k, k < 26 → bt (kGo kz kw W S (S.1 0 5 &&& (obb kept ^^^ -1)) y) k = true → bt (S.1 0 5) k = true := fun k hk q => and_l (p1 k hk q)
      refine SR.room hkp n (h.out sub) ?_
      rcases (kOut_TK (kz := kz) (S := S) p2).2 with g | ⟨k, -, -, g⟩
      · rw [g.1]; exact hs
      · rw [g.1]; exact KS_and hs
    · exact h
theorem SR.come (h : SR 26 S S') (hk : k < 26) : SR 26 (kCome kz kc S k present) (kCome kz kc S' k present) := by
  have e5 := h.g (j := 5) (by omega) (by omega) (by omega)
  have e8 := h.g (j := 8) (by omega) (by omega) (by omega)
  have e10 := h.g (j := 10) (by omega) (by omega) (by omega)
  have hx : SR k S S' := h.we
  have h0 : SR k (kCome0 S k) (kCome0 S' k) := by
    have g5 : SR k (cwi S 0 5 (S.1 0 5 ||| bb k)) (cwi S' 0 5 (S'.1 0 5 ||| bb k)) := hx.w5 (by rw [e5]) (fun i hi q ne => by
      rw [b_or, bt_bb (by omega) (by omega), decide_eq_false ne, Bool.or_false] at q
      exact q)
    unfold kCome0
    dsimp only
    rw [e10]
    split
    · exact (g5.w10 rfl (fun i hi q ne => Or.inl (and_l q))).wi (by rw [e8]) (by omega) (by omega)
    · exact g5
  have h2 := (h0.wi (v := present) (v' := present) (t := 2) (j := k) rfl (by omega) (by omega)).use (kz := kz) (kc := kc) (k := k)
  have h3 := h2.wl (t := 4) (j := k) (q := Int32.toInt64 ((kUse kz kc (cwi (kCome0 S k) 2 k present) k).1 0 12)) (q' := Int32.toInt64 ((kUse kz kc (cwi (kCome0 S' k) 2 k present) k).1 0 12)) (by rw [h2.g (j := 12) (by omega) (by omega) (by omega)])
  have e12 := h0.g (j := 12) (by omega) (by omega) (by omega)
  have e11 := h0.2.1
  refine SR.fin (e := k) h3 ?_ ?_ ?_ ?_
  · simp [kCome, kUse, rd_wi, cwl_1]
  · simp [kCome, kUse, rd_wi, rd_wl, cwi_2, cwl_1, e12]
  · simp [kCome, kUse, rd_wi, rd_wl, cwi_2, cwl_1, e12]
  · simp [kCome, kUse, rd_wi, rd_wl, cwi_2, cwl_1, e11]
theorem SR.wrt (h : SR 26 S S') : SR 26 (kWrite S k present) (kWrite S' k present) := by
  have e4 := h.2.2.2.1 4 (by omega)
  unfold kWrite
  rw [h.g (j := 5) (by omega) (by omega) (by omega), h.g (j := 3) (by omega) (by omega) (by omega), h.g (j := 6) (by omega) (by omega) (by omega), e4]
  split
  · split
    · exact (h.wi rfl (by omega) (by omega)).wi rfl (by omega) (by omega)
    · exact (h.wi rfl (by omega) (by omega)).wi rfl (by omega) (by omega)
  · exact h.wi rfl (by omega) (by omega)
theorem room_KS (hkp : ∀ s, kept = some s → s < 26) : ∀ (n : Nat) {S : CS}, KS (S.1 0 5) → KS ((kRoom kz kw W y kept n S).1 0 5)
  | 0, _, h => h
  | n + 1, S, h => by
    unfold kRoom
    split
    · obtain ⟨p1, p2, p3⟩ := kGo_in (kz := kz) (kw := kw) (W := W) (S := S) (y := y) (these := S.1 0 5 &&& (obb kept ^^^ -1)) (KS_and h)
      refine room_KS hkp n ?_
      rcases (kOut_TK (kz := kz) (S := S) p2).2 with g | ⟨k, -, -, g⟩
      · rw [g.1]; exact h
      · rw [g.1]; exact KS_and h
    · exact h
theorem come_5 : (kCome kz kc S k present).1 0 5 = S.1 0 5 ||| bb k := by
  unfold kCome kCome0
  dsimp only
  split <;> simp [kUse, rd_wi, cwl_1]
theorem SR.feed2 (h : SR 26 S S') (hs : KS (S.1 0 5)) (hx : x < 26) (hy : y < 26) : SR 26 (kFeed2 kz kc kw W x y present S) (kFeed2 kz kc kw W x y present S') ∧ KS ((kFeed2 kz kc kw W x y present S).1 0 5) := by
  have ef : kFetch kz S' y x = kFetch kz S y x := by
    unfold kFetch
    rw [h.g (j := 5) (by omega) (by omega) (by omega), h.g (j := 1) (by omega) (by omega) (by omega)]
  unfold kFeed2
  rw [ef]
  split
  · have hr := h.room (kz := kz) (kw := kw) (W := W) (y := y) (kept := some x) (fun s e => by cases e; exact hx) 26 hs
    have hc := hr.come (kz := kz) (kc := kc) (present := present) hy
    have hk := room_KS (kz := kz) (kw := kw) (W := W) (y := y) (kept := some x) (fun s e => by cases e; exact hx) 26 hs
    refine ⟨(hc.wi (by rw [hc.g (j := 9) (by omega) (by omega) (by omega)]) (by omega) (by omega)).wi (by rw [hc.2.2.2.1 6 (by omega)]) (by omega) (by omega), ?_⟩
    dsimp only
    rw [cwi_z (by decide), cwi_n (by decide), come_5]
    exact KS_or hk (KS_bb hy)
  · exact ⟨h, hs⟩
theorem SR.feedS (h : SR 26 S S') {t R : Nat} (ht : t = 13 ∧ R = 11 ∨ t = 14 ∧ R = 12) {room : Int32} : SR 26 (kFeedS kz S t R k room) (kFeedS kz S' t R k room) := by
  have e0 : S'.1 t 0 = S.1 t 0 := by
    rcases ht with ⟨r1, -⟩ | ⟨r1, -⟩ <;> rw [r1]
    · exact h.2.2.2.2.2.1.1
    · exact h.2.2.2.2.2.1.2.2.1
  have e1 : S'.1 t 1 = S.1 t 1 := by
    rcases ht with ⟨r1, -⟩ | ⟨r1, -⟩ <;> rw [r1]
    · exact h.2.2.2.2.2.1.2.1
    · exact h.2.2.2.2.2.1.2.2.2
  have eR : ∀ k, k < 26 → S'.2 R k = S.2 R k := fun k hk => by
    rcases ht with ⟨-, r1⟩ | ⟨-, r1⟩ <;> rw [r1]
    · exact (h.2.2.2.2.1 k hk).2.2.1
    · exact (h.2.2.2.2.1 k hk).2.2.2
  have es : ∀ (n : Nat) (held : Int32) (w : Int32), pShed kz (S'.2 R) room w n held = pShed kz (S.2 R) room w n held := fun n => by
    induction n with
    | zero => intro held w; rfl
    | succ n ih =>
      intro held w
      unfold pShed
      rw [pLst_lO, pLst_lO, lO_on (fun k hk _ => eR k hk), ih]
  unfold kFeedS
  rw [e0, e1, es]
  split
  · exact h
  · split
    · exact h.wi rfl (by omega) (by omega)
    · exact (h.wi rfl (by omega) (by omega)).wi rfl (by omega) (by omega)
theorem SR.feed3 (h : SR 26 S S') : SR 26 (kFeed3 kz x S) (kFeed3 kz x S') := by
  have h1 := h.feedS (kz := kz) (k := x) (room := S.1 0 1) (Or.inl ⟨rfl, rfl⟩)
  unfold kFeed3
  rw [h.g (j := 0) (by omega) (by omega) (by omega), h.g (j := 1) (by omega) (by omega) (by omega), h1.g (j := 1) (by omega) (by omega) (by omega)]
  split
  · exact h1.feedS (Or.inr ⟨rfl, rfl⟩)
  · exact h
theorem meet_5 : (kMeet kz kc S k).1 0 5 = S.1 0 5 := by
  unfold kMeet
  dsimp only
  split <;> simp [kUse, rd_wi, cwl_1]
theorem write_5 : (kWrite S k present).1 0 5 = S.1 0 5 := by
  unfold kWrite
  repeat (first | rfl | split)
theorem SR.feed1 (h : SR 26 S S') (hs : KS (S.1 0 5)) (hx : x < 26) : SR 26 (kFeed1 kz kc kw W x present i S) (kFeed1 kz kc kw W x present i S') ∧ KS ((kFeed1 kz kc kw W x present i S).1 0 5) := by
  have a : (kAsked S (nI i) x).1 = S.1 := rfl
  have a' : (kAsked S' (nI i) x).1 = S'.1 := rfl
  have h1 := h.asked (v := nI i) hx
  unfold kFeed1
  dsimp only
  rw [a, a', h.g (j := 5) (by omega) (by omega) (by omega), h.g (j := 1) (by omega) (by omega) (by omega)]
  split
  · exact ⟨(h1.note0 hx).meet, by rw [meet_5]; exact hs⟩
  · split
    · have h2 := h1.note2 (i := i) hx
      exact ⟨h2.wi (by rw [h2.2.2.2.1 8 (by omega)]) (by omega) (by omega), hs⟩
    · have h2 := h1.note1 (i := i) hx
      have h3 := h2.wi (v := (kNote1 (kAsked S (nI i) x) i x).1 7 8 + kc x) (v' := (kNote1 (kAsked S' (nI i) x) i x).1 7 8 + kc x) (t := 7) (j := 8) (by rw [h2.2.2.2.1 8 (by omega)]) (by omega) (by omega)
      have hk := room_KS (kz := kz) (kw := kw) (W := W) (y := x) (kept := none) (fun s e => by cases e) 26 (S := cwi (kNote1 (kAsked S (nI i) x) i x) 7 8 ((kNote1 (kAsked S (nI i) x) i x).1 7 8 + kc x)) hs
      exact ⟨(h3.room (kept := none) (fun s e => by cases e) 26 hs).come hx, by rw [come_5]; exact KS_or hk (KS_bb hx)⟩
theorem SR.feed (h : SR 26 S S') (hs : KS (S.1 0 5)) (hx : x < 26) (hy : (if S.1 0 3 &&& 2 = 0 then x else ahead.getD x) < 26) : SR 26 (kFeed kz kc kw W x ahead present write i S) (kFeed kz kc kw W x ahead present write i S') ∧ KS ((kFeed kz kc kw W x ahead present write i S).1 0 5) := by
  obtain ⟨h1, k1⟩ := h.feed1 (kz := kz) (kc := kc) (kw := kw) (W := W) (present := present) (i := i) hs hx
  have m1 : (kFeed1 kz kc kw W x present i S).1 0 3 = S.1 0 3 := by
    have q := (kFeed1_p (kz := kz) (kc := kc) (kw := kw) (W := W) (x := x) (present := present) (i := i) (S := S)).1 3 (by omega)
    exact q.trans (kNoted_c (by omega))
  unfold kFeed
  dsimp only
  generalize kFeed1 kz kc kw W x present i S = P at h1 k1 m1 ⊢
  generalize kFeed1 kz kc kw W x present i S' = P' at h1 ⊢
  have h5 : SR 26 (if write = 0 then P else kWrite P x present) (if write = 0 then P' else kWrite P' x present) ∧ KS ((if write = 0 then P else kWrite P x present).1 0 5) ∧ (if write = 0 then P else kWrite P x present).1 0 3 = S.1 0 3 := by
    split
    · exact ⟨h1, k1, m1⟩
    · refine ⟨h1.wrt, by rw [write_5]; exact k1, ?_⟩
      exact ((kWrite_p (k := x) (v := present) (P := P) (S := P) Kp.rfl').1 3 (by omega)).trans m1
  generalize (if write = 0 then P else kWrite P x present) = Q at h5 ⊢
  generalize (if write = 0 then P' else kWrite P' x present) = Q' at h5 ⊢
  obtain ⟨h5, k5, m5⟩ := h5
  rw [h5.g (j := 3) (by omega) (by omega) (by omega), m5]
  obtain ⟨h6, k6⟩ := h5.feed2 (kz := kz) (kc := kc) (kw := kw) (W := W) (present := present) k5 hx hy
  exact ⟨h6.feed3, by rw [feed3_NE.1]; exact k6⟩
theorem take_5 : (kTake S k).1 0 5 = S.1 0 5 &&& (bb k ^^^ -1) := kTake_TK.1
theorem SR.lap : ∀ (n : Nat) {S S' : CS} {m : Int32}, n ≤ 26 → SR 26 S S' → SR 26 (kLapse now n S m).1 (kLapse now n S' m).1 ∧ (kLapse now n S' m).2 = (kLapse now n S m).2 ∧ (KS (S.1 0 5) → KS ((kLapse now n S m).1.1 0 5))
  | 0, _, _, _, _, h => ⟨h, rfl, fun q => q⟩
  | n + 1, S, S', m, hn, h => by
    have e2 := h.g (j := 2) (by omega) (by omega) (by omega)
    have e5 := h.g (j := 5) (by omega) (by omega) (by omega)
    unfold kLapse
    rw [e2, e5]
    split
    · have cond : (bt (S.1 0 5) (25 - n) = true ∧ ¬ now - S'.1 2 (25 - n) < S.1 0 2) ↔ (bt (S.1 0 5) (25 - n) = true ∧ ¬ now - S.1 2 (25 - n) < S.1 0 2) := by
        constructor
        · intro w
          have := (h.2.2.2.2.2.2.1 (25 - n) (by omega) w.1 (by omega)).1
          rw [this] at w; exact w
        · intro w
          have := (h.2.2.2.2.2.2.1 (25 - n) (by omega) w.1 (by omega)).1
          rw [this]; exact w
      by_cases c : bt (S.1 0 5) (25 - n) = true ∧ ¬ now - S.1 2 (25 - n) < S.1 0 2
      · rw [if_pos c, if_pos (cond.mpr c)]
        obtain ⟨i1, i2, i3⟩ := SR.lap n (m := m + 1) (by omega) (h.take (k := 25 - n))
        exact ⟨i1, i2, fun q => i3 (by rw [take_5]; exact KS_and q)⟩
      · rw [if_neg c, if_neg (fun w => c (cond.mp w))]
        exact SR.lap n (by omega) h
    · exact ⟨h, rfl, fun q => q⟩
theorem SR.lapse (h : SR 26 S S') : SR 26 (kLapseAt now S).1 (kLapseAt now S').1 ∧ (KS (S.1 0 5) → KS ((kLapseAt now S).1.1 0 5)) := by
  obtain ⟨i1, i2, i3⟩ := SR.lap (now := now) 26 (m := 0) (Nat.le_refl _) h
  unfold kLapseAt
  dsimp only
  exact ⟨i1.wi (by rw [i1.2.2.2.1 3 (by omega), i2]) (by omega) (by omega), i3⟩
end Cg
