/-! THE LAW: areCaches(): the caches set up; what the requests begin with -/
def SI (z co : Nat → Nat) (S : CS) : Prop := (∃ r, INV z co S 0 0 r) ∧ ∃ mo, mo ≤ 3 ∧ S.1 0 3 = nI mo
section Fg
variable {M M' M0 M1 N : LM} {T T' T2 : BT} {R R' : Nat → BT} {i j k m n x y e s t p a o3 key ky ru ro la mo c ch s1 s2 s3 : Nat} {v x6 x2 x4 : Int32} {W z co : Nat → Nat} {S S' : CS}
theorem SI_cg (e : SEq S S') (h : SI z co S) : SI z co S' := by
  obtain ⟨⟨r, h1⟩, mo, h2, h3⟩ := h
  exact ⟨⟨r, INV_cg e (by omega) h1⟩, mo, h2, (e.1 3 (by omega) (by omega) (by omega)).trans h3⟩
theorem set_2 : (setT ch (nI ru) (nI ro) (nI la) (nI mo) 0 T).2 i = if i = ch then kEmpty (kSetUp (T.2 ch) (nI ru) (nI ro) (nI la) (nI mo)) 0 else T.2 i := rfl
theorem KT_set (h : KT z co W T) : KT z co W (setT ch (nI ru) (nI ro) (nI la) (nI mo) 0 T) := by
  obtain ⟨⟨v1, v2, v3, v4, v5⟩, g2, g3, g4⟩ := h
  refine ⟨⟨v1, v2, v3, v4, fun i hi => ⟨Nat.le_refl _, ?_⟩⟩, g2, g3, fun i hi => ?_⟩
  · rw [set_2]
    split
    · exact LsA_0 empty_L11 (Nat.le_refl _)
    · exact (v5 i hi).2
  · rw [set_2]
    split
    · exact ZR_empty
    · exact g4 i hi
theorem SI_set (hm : mo ≤ 3) (hr : ro ≤ 20) : SI z co (kEmpty (kSetUp S (nI ru) (nI ro) (nI la) (nI mo)) 0) := ⟨⟨ro, empty_INV setUp_1.2.1 hr⟩, mo, hm, (kEmpty_0.1 3 (by omega)).trans setUp_1.2.2.2.1⟩
theorem share_2 : (shareT ch (nI s1) (nI s2) (nI s3) 0 T).2 i = if i = ch then kShare (T.2 ch) (nI s1) (nI s2) (nI s3) 0 else T.2 i := rfl
theorem KT_share (h : KT z co W T) (hc : ch < 6) : KT z co W (shareT ch (nI s1) (nI s2) (nI s3) 0 T) := by
  obtain ⟨⟨v1, v2, v3, v4, v5⟩, g2, g3, g4⟩ := h
  refine ⟨⟨v1, v2, v3, v4, fun i hi => ⟨Nat.le_refl _, ?_⟩⟩, g2, g3, fun i hi => ?_⟩
  · rw [share_2]
    by_cases w : i = ch
    · rw [if_pos w]
      exact fun k hk => (v5 ch hc).2 k hk
    · rw [if_neg w]
      exact (v5 i hi).2
  · rw [share_2]
    by_cases w : i = ch
    · rw [if_pos w]; exact ZR_share (g4 ch hc)
    · rw [if_neg w]; exact g4 i hi
theorem SI_share (h : SI z co S) : SI z co (kShare S (nI s1) (nI s2) (nI s3) 0) := by
  obtain ⟨⟨r, h1⟩, mo, h2, h3⟩ := h
  exact ⟨⟨r, share_INV h1⟩, mo, h2, by rw [share_0 0 (by decide)]; exact h3⟩
/-- the bench as the requests begin -/
theorem AT_start (h : KT z co W T) (hI : ∀ i, i < 6 → SI z co (T.2 i)) : AT z co W (fun _ => 0) 0 0 0 T := by
  obtain ⟨h1, h2, h3, h4⟩ := h
  exact ⟨h1, fun k hk => ⟨(h2 k hk).1, (h2 k hk).2.2⟩, fun k hk => (h2 k hk).2.1, ⟨h3, fun i hi => by omega⟩, fun i hi => ⟨(hI i hi).1, (hI i hi).2, rep_0 (h4 i hi)⟩⟩
/-- a cache as it is set up, and the law's own beside it -/
theorem CP_start (hr : ru < 10) (hro : ro ≤ 20) : CP z ru ro (kEmpty (kSetUp S (nI ru) (nI ro) (nI 0) (nI 0)) 0) (0, fun _ => 0, fun _ => false, 0, 0) 0 := by
  obtain ⟨u0, u1, u2, u3, u4⟩ := setUp_1 (S := S) (ru := nI ru) (rm := nI ro) (la := nI 0) (mo := nI 0)
  obtain ⟨a0, a1, -⟩ := kEmpty_0 (S := kSetUp S (nI ru) (nI ro) (nI 0) (nI 0)) (nx := 0)
  obtain ⟨b5, b12, b11, b7, b8, -⟩ := ZR_empty (S := kSetUp S (nI ru) (nI ro) (nI 0) (nI 0)) (nx := 0)
  have z0 : bt 0 = fun _ => false := funext fun k => b_0 k
  have e5 := b5 5 (by omega) (by omega)
  refine ⟨⟨(a0 0 (by omega)).trans u0, (a0 1 (by omega)).trans u1, (a0 3 (by omega)).trans u3, fun j hj => by rw [a1]; exact u4 j hj⟩, ⟨by rw [e5]; exact KS_0, b12, by omega⟩, fun j hj => absurd hj (Nat.not_lt_zero _), fun k _ e => ?_, fun i j _ hj => absurd hj (Nat.not_lt_zero _), fun j hj => absurd hj (Nat.not_lt_zero _), fun _ j hj => absurd hj (Nat.not_lt_zero _), fun k _ e => ?_, ?_, ?_, b7 0 (by omega)⟩
  · rw [e5, b_0] at e; cases e
  · rw [b5 7 (by omega) (by omega), b_0] at e; cases e
  · show 0 = nK _ 26
    rw [e5, z0]; decide
  · show 0 = uS _ _ 26
    rw [e5, z0, uS_0 (fun _ _ => rfl)]
end Fg
