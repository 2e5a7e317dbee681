/-! CACHES: what holds is kept by time, by a start anew, by shares, by writing back; for likes */
-/
def IG (z : Nat → Nat) (S : CS) : Prop := IA S ∧ ∃ ro, S.1 0 1 = nI ro ∧ ro ≤ 20 ∧ uS z (bt (S.1 0 5)) 26 ≤ ro ∧ ∃ o X wr F q, IC S o X wr F q
section Ce
variable {S S' S2 : CS} {i j k m n x y o X wr F q ro s h p mm : Nat} {z z' c : Nat → Nat} {f g : Nat → Bool} {u v t now : Int32} {kz kc kw : Nat → Int32} {W : Nat → Nat} {these present write : Int32} {r : Nat → Int64} {kept ahead : Option Nat} {a b : Nat → Nat} {G : Nat → Int32}
theorem uS_mono (h : ∀ k, k < n → f k = true → g k = true) : uS z f n ≤ uS z g n := by
  induction n with
  | zero => exact Nat.le_refl _
  | succ n ih =>
    have i1 := ih (fun k hk => h k (by omega))
    show uS z f n + _ ≤ uS z g n + _
    by_cases w : f n = true
    · rw [if_pos w, if_pos (h n (by omega) w)]; omega
    · rw [if_neg w]; omega
theorem INV_cg (e : SEq S S') (hn : n ≤ 300) (hI : INV z c S n wr ro) : INV z c S' n wr ro := by
  obtain ⟨e0, -, -, -, ⟨e66, e67⟩, e7, e8, e10, -⟩ := e
  have d5 := e0 5 (by omega) (by omega) (by omega)
  have d6 := e0 6 (by omega) (by omega) (by omega)
  have d9 := e0 9 (by omega) (by omega) (by omega)
  obtain ⟨hA, h1, hro, hU, o, X, p, m, h, hC, g0, g1, g5, gX, gn, hk, mk, f8, fh, fm, f7, f66, f67, fo⟩ := hI
  refine ⟨IA_cg d5 d6 d9 hA, (e0 1 (by omega) (by omega) (by omega)).trans h1, hro, by rw [d5]; exact hU, o, X, p, m, h, IC_cg d5 d6 d9 (e0 3 (by omega) (by omega) (by omega)) (fun j hj => e7 j (by omega)) hC, (e7 0 (by omega)).trans g0, (e7 1 (by omega)).trans g1, (e7 5 (by omega)).trans g5, gX, gn, hk, mk, fun k hk' => ⟨(e8 k hk').1.trans (f8 k hk').1, (e8 k hk').2.1.trans (f8 k hk').2⟩, fh, fm, (e7 8 (by omega)).trans f7, e66.trans f66, e67.trans f67, ?_⟩
  rw [hCt_cg (G := S.1 10) (fun k hk' => e10 k (by omega))]
  exact fo
theorem IG_cg (e : SEq S S') (hI : IG z S) : IG z S' := by
  obtain ⟨e0, -, -, -, -, e7, -⟩ := e
  have d5 := e0 5 (by omega) (by omega) (by omega)
  have d6 := e0 6 (by omega) (by omega) (by omega)
  have d9 := e0 9 (by omega) (by omega) (by omega)
  obtain ⟨hA, ro, h1, hro, hU, o, X, wr, F, q, hC⟩ := hI
  exact ⟨IA_cg d5 d6 d9 hA, ro, (e0 1 (by omega) (by omega) (by omega)).trans h1, hro, by rw [d5]; exact hU, o, X, wr, F, q, IC_cg d5 d6 d9 (e0 3 (by omega) (by omega) (by omega)) (fun j hj => e7 j (by omega)) hC⟩
theorem INV_IG (hI : INV z c S n wr ro) : IG z S := by
  obtain ⟨hA, h1, hro, hU, o, X, p, m, h, hC, -⟩ := hI
  exact ⟨hA, ro, h1, hro, hU, o, X, wr, n, 0, hC⟩
theorem feed_IG (hz : SZ kz z) (hI : IG z S) (hx : x < 26) (hy : (if S.1 0 3 &&& 2 = 0 then x else ahead.getD x) < 26) : IG z (kFeed kz kc kw W x ahead present write n S) := by
  obtain ⟨hA, ro, h1, hro, hU, o, X, wr, F, q, hC⟩ := hI
  obtain ⟨a1, a2, a3, o', e0, e1, e5, b1, b2, b3, -⟩ := feed1_I (kc := kc) (kw := kw) (W := W) (present := present) (i := n) hz hro h1 hA hC hU hx
  unfold kFeed
  dsimp only
  generalize kFeed1 kz kc kw W x present n S = P1 at a1 a2 a3 b3 ⊢
  have st5 : ∃ P5 wr', (if write = 0 then P1 else kWrite P1 x present) = P5 ∧ IA P5 ∧ IC P5 o' (X + e1 - e5) wr' F q ∧ P5.1 0 5 = P1.1 0 5 ∧ K7 P1 P5 := by
    by_cases e : write = 0
    · exact ⟨P1, wr, if_pos e, a1, b3, rfl, K7.rf⟩
    · obtain ⟨w1, w2, w3, w4⟩ := write_I (present := present) a1 b3 hx
      exact ⟨_, wr + 1, if_neg e, w1, w2, w3, w4⟩
  obtain ⟨P5, wr', e5', i1, i2, i3, i4⟩ := st5
  rw [e5']
  have m3 : P5.1 0 3 = S.1 0 3 := (i4.1 3 (by omega)).trans (a3 3 (by omega))
  have m1 : P5.1 0 1 = nI ro := (i4.1 1 (by omega)).trans ((a3 1 (by omega)).trans h1)
  rw [m3]
  obtain ⟨j1, ⟨o2, j2, j3⟩, j4, j5⟩ := fetch_I (kz := kz) (kc := kc) (kw := kw) (W := W) (present := present) hz hro m1 i1 i2 (by rw [i3]; exact a2) hx hy
  have ne := feed3_NE (kz := kz) (x := x) (S := kFeed2 kz kc kw W x (if S.1 0 3 &&& 2 = 0 then x else ahead.getD x) present P5)
  exact ⟨IA_NE j1 ne, ro, (ne.2.2.2.2 1 (by omega)).trans ((j5.1 1 (by omega)).trans m1), hro, by rw [ne.1]; exact j4, o2, _, wr', F + 1, q, IC_NE j3 ne⟩
/-- keys that lapse -/
theorem lapse_go : ∀ (n : Nat) (S : CS) (mm q : Nat), n ≤ 26 → IA S → IC S o X wr F q → ∃ a, a ≤ n ∧ (kLapse now n S (nI mm)).2 = nI (mm + a) ∧ IA (kLapse now n S (nI mm)).1 ∧ IC (kLapse now n S (nI mm)).1 o X wr F (q + a) ∧ RMs none S (kLapse now n S (nI mm)).1
  | 0, S, mm, q, _, hA, hC => ⟨0, Nat.le_refl _, rfl, hA, hC, RMs_NE NE.rf⟩
  | n + 1, S, mm, q, hn, hA, hC => by
    unfold kLapse
    split
    · split
      · have hb := (‹bt (S.1 0 5) (25 - n) = true ∧ _›).1
        have t := kTake_TK (S := S) (k := 25 - n)
        have c1 := IC_TK (e := 0) hC hA (show 25 - n < 26 by omega) hb (by omega) t
        have a1 := IA_TK hA (show 25 - n < 26 by omega) t
        obtain ⟨a, i1, i2, i3, i4, i5⟩ := lapse_go n (kTake S (25 - n)) (mm + 1) (q + 1) (by omega) a1 c1
        rw [← show nI mm + 1 = nI (mm + 1) from lt_iA (j := mm) (k := 1)] at i2 i3 i4 i5
        exact ⟨a + 1, by omega, by rw [i2]; congr 1; omega, i3, by rw [show q + (a + 1) = q + 1 + a by omega]; exact i4, (RMs_TK hA (by omega) (fun s e => by cases e) t).tr i5⟩
      · obtain ⟨a, i1, i2, i3, i4, i5⟩ := lapse_go n S mm q (by omega) hA hC
        exact ⟨a, by omega, i2, i3, i4, i5⟩
    · exact ⟨0, Nat.zero_le _, rfl, hA, hC, RMs_NE NE.rf⟩
theorem lapse_I (hA : IA S) (hC : IC S o X wr F q) : IA (kLapseAt now S).1 ∧ IC (kLapseAt now S).1 o X wr F q ∧ (∀ k, k < 26 → bt ((kLapseAt now S).1.1 0 5) k = true → bt (S.1 0 5) k = true) ∧ K7 S (kLapseAt now S).1 := by
  obtain ⟨a, i1, i2, i3, i4, i5⟩ := lapse_go (now := now) 26 S 0 q (Nat.le_refl _) hA hC
  have i2' : (kLapse now 26 S 0).2 = nI a := by rw [Nat.zero_add] at i2; exact i2
  unfold kLapseAt
  dsimp only
  have e0 : kLapse now 26 S 0 = kLapse now 26 S (nI 0) := rfl
  rw [i2', e0]
  generalize (kLapse now 26 S (nI 0)).1 = P at i3 i4 i5
  have p0 : (cwi P 7 3 (P.1 7 3 + nI a)).1 0 = P.1 0 := cwi_z (by decide)
  refine ⟨IA_cg (by rw [p0]) (by rw [p0]) (by rw [p0]) i3, ?_, fun k hk e => i5.2.2.1 k hk (by rw [p0] at e; exact e), ⟨fun j hj => by rw [p0]; exact i5.1 j hj, fun j hj => by rw [cwi_n (by omega)]; exact i5.2.1 j (by omega) (by omega)⟩⟩
  obtain ⟨l, w, f, u, h1, h2, h3, h4, h5, h6, h7, h8, h9, h10, h11⟩ := i4
  exact ⟨l + a, w, f, u, by rw [cwi_n (by decide)]; exact h1, by rw [cwi_e, h2, lt_iA], by rw [cwi_n (by decide)]; exact h3, by rw [cwi_n (by decide)]; exact h4, by rw [cwi_n (by decide)]; exact h5, by rw [p0]; omega, h7, by rw [p0]; exact h8, by rw [p0]; exact h9, by rw [p0]; exact h10, by rw [p0]; exact h11⟩
theorem lapse_INV (hI : INV z c S n wr ro) : INV z c (kLapseAt now S).1 n wr ro := by
  obtain ⟨hA, h1, hro, hU, o, X, p, m, h, hC, g0, g1, g5, gX, gn, hk, mk, f8, fh, fm, f7, f66, f67, fo⟩ := hI
  obtain ⟨a1, a2, a3, a4⟩ := lapse_I (now := now) hA hC
  have kp := kLapseAt_p (v := now) (P := S) (S := S) Kp.rfl'
  obtain ⟨-, -, kp6, kp8, kp9, kp10, -⟩ := kp
  exact ⟨a1, (a4.1 1 (by omega)).trans h1, hro, Nat.le_trans (uS_mono a3) hU, o, X, p, m, h, a2, (a4.2 0 (by omega)).trans g0, (a4.2 1 (by omega)).trans g1, (a4.2 5 (by omega)).trans g5, gX, gn, hk, mk, fun k hk' => by rw [kp8, kp9]; exact f8 k hk', fh, fm, (a4.2 8 (by omega)).trans f7, by rw [kp6]; exact f66, by rw [kp6]; exact f67, by rw [kp10]; exact fo⟩
theorem lapse_IG (hI : IG z S) : IG z (kLapseAt now S).1 := by
  obtain ⟨hA, ro, h1, hro, hU, o, X, wr, F, q, hC⟩ := hI
  obtain ⟨a1, a2, a3, a4⟩ := lapse_I (now := now) hA hC
  exact ⟨a1, ro, (a4.1 1 (by omega)).trans h1, hro, Nat.le_trans (uS_mono a3) hU, o, X, wr, F, q, a2⟩
/-- what a start anew leaves -/
theorem kEmpty_0 {nx : Int32} : (∀ j, j < 4 → (kEmpty S nx).1 0 j = S.1 0 j) ∧ (kEmpty S nx).1 1 = S.1 1 ∧ (∀ j, 5 ≤ j → j ≤ 10 → (kEmpty S nx).1 0 j = 0) ∧ (∀ j, j < 9 → (kEmpty S nx).1 7 j = 0) ∧ (∀ k, k < 26 → (kEmpty S nx).1 8 k = 0 ∧ (kEmpty S nx).1 9 k = 0) ∧ (kEmpty S nx).1 6 6 = nx ∧ (kEmpty S nx).1 6 7 = nx := by
  unfold kEmpty kStart
  refine ⟨fun j hj => ?_, ?_, fun j h1 h2 => ?_, fun j hj => ?_, fun k hk => ⟨?_, ?_⟩, ?_, ?_⟩
  · have : j = 0 ∨ j = 1 ∨ j = 2 ∨ j = 3 := by omega
    rcases this with rfl | rfl | rfl | rfl <;> simp [rd_wi, rd_fi, rd_fl1, cwl_1]
  · funext j; simp [rd_wi, rd_fi, rd_fl1, cwl_1]
  · have : j = 5 ∨ j = 6 ∨ j = 7 ∨ j = 8 ∨ j = 9 ∨ j = 10 := by omega
    rcases this with rfl | rfl | rfl | rfl | rfl | rfl <;> simp [rd_wi, rd_fi, rd_fl1, cwl_1]
  · simp [rd_wi, rd_fi, rd_fl1, cwl_1, hj]
  · simp [rd_wi, rd_fi, rd_fl1, cwl_1, hk]
  · simp [rd_wi, rd_fi, rd_fl1, cwl_1, hk]
  · simp [rd_wi, rd_fi, rd_fl1, cwl_1]
  · simp [rd_wi, rd_fi, rd_fl1, cwl_1]
theorem sN_0 : ∀ n, sN (fun _ => 0) n = 0
  | 0 => rfl
  | n + 1 => sN_0 n
theorem empty_INV (h1 : S.1 0 1 = nI ro) (hro : ro ≤ 20) : INV z c (kEmpty S 0) 0 0 ro := by
  obtain ⟨e0, -, e5, e7, e8, e66, e67⟩ := kEmpty_0 (S := S) (nx := 0)
  have b0 : bt 0 = fun _ => false := funext fun k => b_0 k
  have n0 : nK (fun _ => false) 26 = 0 := by decide
  have d5 := e5 5 (by omega) (by omega)
  have d6 := e5 6 (by omega) (by omega)
  have d9 := e5 9 (by omega) (by omega)
  refine ⟨?_, (e0 1 (by omega)).trans h1, hro, ?_, 0, 0, 0, 0, 0, ?_, e7 0 (by omega), e7 1 (by omega), e7 5 (by omega), rfl, rfl, fun _ => 0, fun _ => 0, fun k hk => ⟨(e8 k hk).1, (e8 k hk).2⟩, sN_0 26, sN_0 26, ?_, e66, e67, rfl⟩
  · unfold IA
    rw [d5, d6, d9]
    exact ⟨KS_0, KS_0, KS_0, fun k _ h => h, fun k _ h => h⟩
  · rw [d5, b0, uS_0 (fun _ _ => rfl)]; exact Nat.zero_le _
  · refine ⟨0, 0, 0, 0, e7 2 (by omega), e7 3 (by omega), e7 4 (by omega), e7 6 (by omega), e7 7 (by omega), ?_, Nat.le_refl _, ?_, ?_, fun h => absurd h (Nat.lt_irrefl _), fun _ => rfl⟩
    · rw [d5, b0, n0]
    · rw [d9, b0, n0]; exact Nat.le_refl _
    · rw [d6, b0, n0]; exact Nat.le_refl _
  · rw [e7 8 (by omega)]
    have : sN (fun k => 0 * c k) 26 = 0 := by
      rw [show (fun k => 0 * c k) = fun _ => 0 from funext fun k => Nat.zero_mul _]
      exact sN_0 26
    rw [this]
    rfl
theorem setUp_1 {ru la mo rm : Int32} : (kSetUp S ru rm la mo).1 0 0 = ru ∧ (kSetUp S ru rm la mo).1 0 1 = rm ∧ (kSetUp S ru rm la mo).1 0 2 = la ∧ (kSetUp S ru rm la mo).1 0 3 = mo ∧ ∀ j, j < 4 → (kSetUp S ru rm la mo).1 1 j = 0 := by
  unfold kSetUp
  refine ⟨?_, ?_, ?_, ?_, fun j hj => ?_⟩
  · simp [rd_wi, rd_fi]
  · simp [rd_wi, rd_fi]
  · simp [rd_wi, rd_fi]
  · simp [rd_wi, rd_fi]
  · simp [rd_fi, hj]
theorem share_0 {a b e f : Int32} : ∀ t, t ≠ 1 → (kShare S a b e f).1 t = S.1 t := fun t ht => by
  unfold kShare
  rw [cwi_z ht, cwi_z ht, cwi_z ht, cwi_z ht]
theorem share_INV {a b e f : Int32} (hI : INV z c S n wr ro) : INV z c (kShare S a b e f) n wr ro := by
  have s := share_0 (S := S) (a := a) (b := b) (e := e) (f := f)
  obtain ⟨hA, h1, hro, hU, o, X, p, m, h, hC, g0, g1, g5, gX, gn, hk, mk, f8, fh, fm, f7, f66, f67, fo⟩ := hI
  have s0 := s 0 (by decide)
  have s7 := s 7 (by decide)
  exact ⟨IA_cg (by rw [s0]) (by rw [s0]) (by rw [s0]) hA, by rw [s0]; exact h1, hro, by rw [s0]; exact hU, o, X, p, m, h, IC_cg (by rw [s0]) (by rw [s0]) (by rw [s0]) (by rw [s0]) (fun j _ => by rw [s7]) hC, by rw [s7]; exact g0, by rw [s7]; exact g1, by rw [s7]; exact g5, gX, gn, hk, mk, fun k hk' => by rw [s 8 (by decide), s 9 (by decide)]; exact f8 k hk', fh, fm, by rw [s7]; exact f7, by rw [s 6 (by decide)]; exact f66, by rw [s 6 (by decide)]; exact f67, by rw [s 10 (by decide)]; exact fo⟩
/-- written back -/
theorem flush_IG (hI : IG z S) : IG z (kFlush S) := by
  obtain ⟨hA, ro, h1, hro, hU, o, X, wr, F, q, hC⟩ := hI
  unfold kFlush
  have p0 : ∀ j, j ≠ 6 → (cwi (cwi S 0 6 0) 7 4 (S.1 7 4 + pPop (S.1 0 6))).1 0 j = S.1 0 j := fun j hj => by rw [cwi_z (by decide), cwi_n hj]
  have p6 : (cwi (cwi S 0 6 0) 7 4 (S.1 7 4 + pPop (S.1 0 6))).1 0 6 = 0 := rfl
  have p7 : ∀ j, j ≠ 4 → (cwi (cwi S 0 6 0) 7 4 (S.1 7 4 + pPop (S.1 0 6))).1 7 j = S.1 7 j := fun j hj => by rw [cwi_n hj, cwi_z (by decide)]
  have b0 : bt 0 = fun _ => false := funext fun k => b_0 k
  have n0 : nK (fun _ => false) 26 = 0 := by decide
  refine ⟨?_, ro, by rw [p0 1 (by decide)]; exact h1, hro, by rw [p0 5 (by decide)]; exact hU, o, X, wr, F, q, ?_⟩
  · unfold IA
    rw [p0 5 (by decide), p6, p0 9 (by decide)]
    exact ⟨hA.1, KS_0, hA.2.2.1, (fun k _ h => by rw [b_0] at h; cases h), hA.2.2.2.2⟩
  · obtain ⟨l, w, f, u, h1, h2, h3, h4, h5, h6, h7, h8, h9, h10, h11⟩ := hC
    refine ⟨l, w + nK (bt (S.1 0 6)) 26, f, u, by rw [p7 2 (by decide)]; exact h1, by rw [p7 3 (by decide)]; exact h2, by rw [cwi_e, h3, pPop_nK hA.2.1, lt_iA], by rw [p7 6 (by decide)]; exact h4, by rw [p7 7 (by decide)]; exact h5, by rw [p0 5 (by decide)]; exact h6, h7, by rw [p0 9 (by decide)]; exact h8, by rw [p6, b0, n0]; omega, fun e => by rw [p6, b0, n0]; exact h10 e, fun e => by rw [p0 3 (by decide)] at e; have := h11 e; omega⟩
end Ce
