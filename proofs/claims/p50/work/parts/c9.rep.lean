/-! CACHES: a replay leaves what was -/
def NOV (now : Int32) (S : CS) : Prop := ∀ k, k < 26 → lapD now S k = false
def MBt (tm : Nat) (S : CS) : Prop := ∀ k, k < 26 → bt (S.1 0 5) k = true → ∃ a, a ≤ tm ∧ S.1 2 k = nI a
def RTm (H : Nat → Nat → Int32) (n tm : Nat) : Prop := H 0 4 = nI tm ∧ ∀ i, i < n → ∃ a, a ≤ tm ∧ H 8 i = nI a
def REP (H : Nat → Nat → Int32) (W kf : Nat → Nat) (n : Nat) (S : CS) : Prop := SR 26 (kAnew H W kf n (kEmpty S 0)) S ∧ NOV (H 0 4) S
/-- nothing has happened yet -/
def ZR (S : CS) : Prop := (∀ j, 5 ≤ j → j ≤ 10 → S.1 0 j = 0) ∧ S.1 0 12 = 0 ∧ S.2 0 11 = 0 ∧ (∀ j, j < 9 → S.1 7 j = 0) ∧ (∀ k, k < 26 → S.1 8 k = 0 ∧ S.1 9 k = 0 ∧ S.2 11 k = -1 ∧ S.2 12 k = 0) ∧ S.1 13 0 = 0 ∧ S.1 13 1 = 0 ∧ S.1 14 0 = 0 ∧ S.1 14 1 = 0
section Cj
variable {S S' S2 Q B B' P : CS} {i j k m n y e s t p x f tm tm' ro wr : Nat} {v v' now mm u : Int32} {kz kc kw kz' kc' kw' : Nat → Int32} {W kf kf' z c : Nat → Nat} {these present write : Int32} {kept ahead : Option Nat} {H H' : Nat → Nat → Int32} {T T' T2 : BT}
theorem ZR_empty {nx : Int32} : ZR (kEmpty S nx) := by
  obtain ⟨b0, b1, b5, b7, b8, -, -⟩ := kEmpty_0 (S := S) (nx := nx)
  refine ⟨b5, ?_, ?_, b7, fun k hk => ⟨(b8 k hk).1, (b8 k hk).2, ?_, ?_⟩, ?_, ?_, ?_, ?_⟩ <;> unfold kEmpty kStart
  · simp [rd_wi, rd_fi, rd_fl1, cwl_1]
  · simp [rd_wl, rd_fl, rd_fi2, cwi_2]
  · simp [rd_wl, rd_fl, rd_fi2, cwi_2, hk]
  · simp [rd_wl, rd_fl, rd_fi2, cwi_2, hk]
  · simp [rd_wi]
  · simp [rd_wi]
  · simp [rd_wi]
  · simp [rd_wi]
theorem ZR_share {a b e f : Int32} (h : ZR S) : ZR (kShare S a b e f) := by
  have s := share_0 (S := S) (a := a) (b := b) (e := e) (f := f)
  have s2 : (kShare S a b e f).2 = S.2 := rfl
  unfold ZR
  rw [s 0 (by decide), s 7 (by decide), s 8 (by decide), s 9 (by decide), s 13 (by decide), s 14 (by decide), s2]
  exact h
theorem ZR_cg (e : SEq S S') (h : ZR S) : ZR S' := by
  obtain ⟨e0, -, -, e11, -, e7, e8, -, e130, e131, e140, e141⟩ := e
  obtain ⟨h5, h12, h11, h7, h8, h1, h2, h3, h4⟩ := h
  exact ⟨fun j q1 q2 => (e0 j (by omega) (by omega) (by omega)).trans (h5 j q1 q2), (e0 12 (by omega) (by omega) (by omega)).trans h12, e11.trans h11, fun j hj => (e7 j hj).trans (h7 j hj), fun k hk => ⟨(e8 k hk).1.trans (h8 k hk).1, (e8 k hk).2.1.trans (h8 k hk).2.1, (e8 k hk).2.2.1.trans (h8 k hk).2.2.1, (e8 k hk).2.2.2.trans (h8 k hk).2.2.2⟩, e130.trans h1, e131.trans h2, e140.trans h3, e141.trans h4⟩
theorem ZR_SR (h : ZR S) : SR 26 (kEmpty S 0) S := by
  obtain ⟨b0, b1, -⟩ := kEmpty_0 (S := S) (nx := 0)
  obtain ⟨a5, a12, a11, a7, a8, a1, a2, a3, a4⟩ := ZR_empty (S := S) (nx := 0)
  obtain ⟨h5, h12, h11, h7, h8, h1, h2, h3, h4⟩ := h
  refine ⟨fun j q1 q4 q11 => ?_, by rw [a11, h11], fun j _ => by rw [b1], fun j hj => by rw [a7 j hj, h7 j hj], fun k hk => ⟨by rw [(a8 k hk).1, (h8 k hk).1], by rw [(a8 k hk).2.1, (h8 k hk).2.1], by rw [(a8 k hk).2.2.1, (h8 k hk).2.2.1], by rw [(a8 k hk).2.2.2, (h8 k hk).2.2.2]⟩, ⟨by rw [a1, h1], by rw [a2, h2], by rw [a3, h3], by rw [a4, h4]⟩, fun k hk q _ => ?_, fun k hk q _ => ?_⟩
  · by_cases w : j < 4
    · exact (b0 j w).symm
    · by_cases w2 : j = 12
      · rw [w2, a12, h12]
      · rw [a5 j (by omega) (by omega), h5 j (by omega) (by omega)]
  · rw [a5 5 (by omega) (by omega), b_0] at q; cases q
  · rw [a5 10 (by omega) (by omega), b_0] at q; cases q
theorem ZR_NOV (h : ZR S) : NOV now S := fun k _ => by
  unfold lapD
  rw [h.1 5 (by omega) (by omega), b_0]
  rfl
theorem NOV_SR (h : SR 26 S S') (g : NOV now S) : NOV now S' := fun k hk => by
  have e5 := h.g (j := 5) (by omega) (by omega) (by omega)
  have e2 := h.g (j := 2) (by omega) (by omega) (by omega)
  have g' := g k hk
  unfold lapD at g' ⊢
  rw [e5, e2]
  cases a : bt (S.1 0 5) k with
  | false => rfl
  | true =>
    rw [(h.2.2.2.2.2.2.1 k hk a (by omega)).1]
    rw [a] at g'
    exact g'
theorem rep_0 (h : ZR S) : REP H W kf 0 S := by
  refine ⟨?_, ZR_NOV h⟩
  have h1 := ZR_SR h
  have h2 : SR 26 (kEmpty S 0) (kLapseAt (H 0 4) (kEmpty S 0)).1 := lapse_no (ZR_NOV ZR_empty)
  exact h2.sy.tr h1
theorem SR_of (e : SEq S S') : SR 26 S S' := by
  obtain ⟨e0, e1, e2, e11, -, e7, e8, -, e130, e131, e140, e141⟩ := e
  exact ⟨e0, e11, e1, e7, e8, ⟨e130, e131, e140, e141⟩, fun k hk _ _ => e2 k hk, fun k hk _ _ => (e2 k hk).2.2.1⟩
/-- what a cache is set up as, is kept -/
theorem feed_set : (∀ j, j < 4 → (kFeed kz kc kw W x ahead present write i S).1 0 j = S.1 0 j) ∧ (kFeed kz kc kw W x ahead present write i S).1 1 = S.1 1 := by
  have kp := kFeed_p (kz := kz) (kc := kc) (kw := kw) (W := W) (x := x) (ahead := ahead) (present := present) (write := write) (i := i) (S := S)
  exact ⟨fun j hj => (kp.1 j hj).trans (kNoted_c hj), kp.2.1.trans kNoted_1⟩
theorem lapse_set : (∀ j, j < 4 → (kLapseAt now S).1.1 0 j = S.1 0 j) ∧ (kLapseAt now S).1.1 1 = S.1 1 := by
  have kp := kLapseAt_p (v := now) (P := S) (S := S) Kp.rfl'
  exact ⟨kp.1, kp.2.1⟩
theorem lapse_held : (∀ k, k < 26 → bt ((kLapseAt now S).1.1 0 5) k = (bt (S.1 0 5) k && !lapD now S k)) ∧ (kLapseAt now S).1.1 2 = S.1 2 ∧ (kLapseAt now S).1.1 0 2 = S.1 0 2 := by
  obtain ⟨a1, a2, a3, a4, a5, a6, a7⟩ := lap_ch (x := now) 26 S 0 (Nat.le_refl _)
  have u : ∀ t, t ≠ 7 → (kLapseAt now S).1.1 t = (kLapse now 26 S 0).1.1 t := fun t ht => cwi_z ht
  refine ⟨fun k hk => ?_, by rw [u 2 (by decide)]; exact a6 2 (by decide) (by decide), by rw [u 0 (by decide)]; exact a4 2 (by omega)⟩
  rw [u 0 (by decide), a1 5 (by omega) (by omega) k (by omega), decide_eq_true (show 26 - 26 ≤ k ∧ k < 26 by omega), Bool.true_and]
theorem NOV_lapse : NOV now (kLapseAt now S).1 := fun k hk => by
  obtain ⟨a1, a2, a3⟩ := lapse_held (now := now) (S := S)
  show (bt ((kLapseAt now S).1.1 0 5) k && (decide (0 < (kLapseAt now S).1.1 0 2) && !decide (now - (kLapseAt now S).1.1 2 k < (kLapseAt now S).1.1 0 2))) = false
  rw [a1 k hk, a2, a3]
  unfold lapD
  cases bt (S.1 0 5) k <;> cases (decide (0 < S.1 0 2) && !decide (now - S.1 2 k < S.1 0 2)) <;> rfl
theorem NOV_feed (hs : KS (S.1 0 5)) (hx : x < 26) (hy : (if S.1 0 3 &&& 2 = 0 then x else ahead.getD x) < 26) (h : NOV now S) : NOV now (kFeed kz kc kw W x ahead now write i S) := fun k hk => by
  have mn := (feed_MN (kz := kz) (kc := kc) (kw := kw) (W := W) (x := x) (ahead := ahead) (present := now) (write := write) (i := i) hs hx hy).1 k hk
  have e2 := (feed_set (kz := kz) (kc := kc) (kw := kw) (W := W) (x := x) (ahead := ahead) (present := now) (write := write) (i := i) (S := S)).1 2 (by omega)
  have h' := h k hk
  unfold lapD at h' ⊢
  rw [e2]
  cases a : bt ((kFeed kz kc kw W x ahead now write i S).1 0 5) k with
  | false => rfl
  | true =>
    rcases mn a with q | ⟨q1, q2⟩
    · rw [q, Int32.sub_self]
      by_cases w : 0 < S.1 0 2
      · rw [decide_eq_true w]; rfl
      · rw [decide_eq_false w]; rfl
    · rw [q2]
      rw [q1] at h'
      exact h'
theorem rRun_MB (hR : RTm H n tm) (h0 : B.1 0 5 = 0) : ∀ (m : Nat), m ≤ n → (∀ i, i < n → kf i < 26) → MBt tm (rRun H W kf m B) ∧ KS ((rRun H W kf m B).1 0 5)
  | 0, _, _ => ⟨(fun k _ q => by rw [show rRun H W kf 0 B = B from rfl, h0, b_0] at q; cases q), by rw [show rRun H W kf 0 B = B from rfl, h0]; exact KS_0⟩
  | m + 1, hm, hk => by
    obtain ⟨i1, i2⟩ := rRun_MB hR h0 m (by omega) hk
    obtain ⟨l1, l2, l3⟩ := lapse_held (now := H 8 m) (S := rRun H W kf m B)
    have ks : KS ((kLapseAt (H 8 m) (rRun H W kf m B)).1.1 0 5) := (SR.rf.lapse (now := H 8 m)).2 i2
    rw [rRun_s]
    obtain ⟨g1, g2⟩ := feed_MN (kz := H 2) (kc := H 3) (kw := H 4) (W := W) (x := kf m) (ahead := kAhead kf 0 m) (present := H 8 m) (write := H 7 m) (i := m) ks (hk m (by omega)) (kAhead_26 (fun i hi => hk i (by omega)))
    refine ⟨fun k hk' q => ?_, g2⟩
    rcases g1 k hk' q with w | ⟨w1, w2⟩
    · obtain ⟨a, ha, e⟩ := hR.2 m (by omega)
      exact ⟨a, ha, w.trans e⟩
    · rw [l1 k hk'] at w1
      obtain ⟨a, ha, e⟩ := i1 k hk' (Bool.and_eq_true_iff.mp w1).1
      exact ⟨a, ha, w2.trans ((congrFun l2 k).trans e)⟩
theorem due_mono (hM : MBt tm Q) (h1 : tm ≤ tm') (h2 : tm' < 1000000) : ∀ k, k < 26 → lapD (nI tm) Q k = true → lapD (nI tm') Q k = true := fun k hk q => by
  unfold lapD at q ⊢
  rw [Bool.and_eq_true_iff, Bool.and_eq_true_iff] at q
  obtain ⟨q1, q2, q3⟩ := q
  obtain ⟨a, ha, e⟩ := hM k hk q1
  rw [e, nI_sub ha, Bool.not_eq_true', decide_eq_false_iff_not, Int32.lt_iff_toInt_lt, lt_iT (by omega)] at q3
  rw [q1, q2, e, nI_sub (by omega), Bool.true_and, Bool.true_and, Bool.not_eq_true', decide_eq_false_iff_not, Int32.lt_iff_toInt_lt, lt_iT (by omega)]
  omega
theorem HZ_app (hk : ∀ i, i < n → kf i < 26) {w : Bool} : HZ n H (kApp H n k w (H 0 4)) kf (kfU kf n k) := by
  have q : ∀ t, t = 2 ∨ t = 3 ∨ t = 4 → kApp H n k w (H 0 4) t = H t := fun t ht => by unfold kApp; rw [z2_n1 (by omega), z2_n1 (by omega), z2_n1 (by omega), z2_n1 (by omega)]
  refine ⟨fun y _ => by rw [q 2 (by omega)], fun y _ => by rw [q 3 (by omega)], fun y _ => by rw [q 4 (by omega)], fun i hi => ⟨?_, ?_, kfU_o (by omega), hk i hi⟩⟩
  · unfold kApp
    rw [z2_n1 (by decide), z2_n1 (by decide), z2_n2 (by omega), z2_n1 (by decide)]
  · unfold kApp
    rw [z2_n1 (by decide), z2_n2 (by omega), z2_n1 (by decide), z2_n1 (by decide)]
theorem app_rd {w : Bool} : kApp H n k w (H 0 4) 8 n = H 0 4 ∧ kApp H n k w (H 0 4) 7 n = bI w ∧ kApp H n k w (H 0 4) 0 4 = H 0 4 := by
  unfold kApp
  refine ⟨by rw [z2_n1 (by decide), z2_eq], by rw [z2_n1 (by decide), z2_n1 (by decide), z2_eq], by rw [z2_n1 (by decide), z2_n1 (by decide), z2_n1 (by decide), z2_n1 (by decide)]⟩
/-- a request keeps it -/
theorem rep_ask (h : REP H W kf n S) (hs : KS (S.1 0 5)) (hk : ∀ i, i < n → kf i < 26) (hkk : k < 26) {w : Bool} : REP (kApp H n k w (H 0 4)) W (kfU kf n k) (n + 1) (kDo (kApp H n k w (H 0 4)) W (kfU kf n k) 0 n S) := by
  obtain ⟨h1, h2⟩ := h
  have hz := HZ_app (k := k) (H := H) (w := w) hk
  obtain ⟨a8, a7, a0⟩ := app_rd (H := H) (n := n) (k := k) (w := w)
  have hk' : ∀ i, i < n + 1 → kfU kf n k i < 26 := fun i hi => by
    by_cases q : i = n
    · rw [q, kfU_n]; exact hkk
    · rw [kfU_o q]; exact hk i (by omega)
  generalize kApp H n k w (H 0 4) = H' at *
  generalize kfU kf n k = kf' at *
  have hy : ∀ u : Int32, (if u &&& 2 = 0 then kf' n else (kAhead kf' 0 n).getD (kf' n)) < 26 := fun u => kAhead_26 hk'
  let S' := kDo H' W kf' 0 n S
  have set := feed_set (kz := H' 2) (kc := H' 3) (kw := H' 4) (W := W) (x := kf' n) (ahead := kAhead kf' 0 n) (present := H' 8 n) (write := H' 7 n) (i := n) (S := S)
  have sE : SR 26 (kEmpty S 0) (kEmpty S' 0) := empty_SR set.1 (fun j _ => congrFun set.2 j)
  have run := rRun_SR (H := H) (W := W) (kf := kf) sE empty_KS n hk
  have r1 : rRun H' W kf' n (kEmpty S' 0) = rRun H W kf n (kEmpty S' 0) := rRun_cg n hz
  have s1 : SR 26 (kLapseAt (H 0 4) (rRun H W kf n (kEmpty S 0))).1 (kLapseAt (H 0 4) (rRun H W kf n (kEmpty S' 0))).1 := (run.1.lapse).1
  have ks1 : KS ((kLapseAt (H 0 4) (rRun H W kf n (kEmpty S' 0))).1.1 0 5) := (SR.rf.lapse (now := H 0 4)).2 (by
    rw [run.1.g (j := 5) (by omega) (by omega) (by omega)]; exact run.2)
  have s2 : SR 26 (kLapseAt (H 0 4) (rRun H W kf n (kEmpty S' 0))).1 S := s1.sy.tr h1
  have nv : NOV (H' 0 4) S' := by
    rw [a0]
    show NOV (H 0 4) (kFeed (H' 2) (H' 3) (H' 4) W (kf' n) (kAhead kf' 0 n) (H' 8 n) (H' 7 n) n S)
    rw [a8]
    exact NOV_feed hs (hk' n (by omega)) (hy _) h2
  have s3 : SR 26 (rRun H' W kf' (n + 1) (kEmpty S' 0)) S' := by
    rw [rRun_s, a8, r1]
    exact (s2.feed ks1 (hk' n (by omega)) (hy _)).1
  exact ⟨(lapse_no (NOV_SR s3.sy nv)).sy.tr s3, nv⟩
/-- time passed keeps it -/
theorem rep_pass (h : REP H W kf n S) (hk : ∀ i, i < n → kf i < 26) (hR : RTm H n tm) (ht : tm + m < 1000000) : REP (u2 H 0 4 (H 0 4 + nI m)) W kf n (kLapseAt (H 0 4 + nI m) S).1 := by
  obtain ⟨h1, h2⟩ := h
  have e4 : H 0 4 + nI m = nI (tm + m) := by rw [hR.1, lt_iA]
  have et : u2 H 0 4 (H 0 4 + nI m) 0 4 = nI (tm + m) := by rw [z2_eq, e4]
  have hz : HZ n H (u2 H 0 4 (H 0 4 + nI m)) kf kf := ⟨fun _ _ => by rw [z2_n1 (by decide)], fun _ _ => by rw [z2_n1 (by decide)], fun _ _ => by rw [z2_n1 (by decide)], fun i hi => ⟨by rw [z2_n1 (by decide)], by rw [z2_n1 (by decide)], rfl, hk i hi⟩⟩
  let S' := (kLapseAt (H 0 4 + nI m) S).1
  have sE : SR 26 (kEmpty S 0) (kEmpty S' 0) := empty_SR lapse_set.1 (fun j _ => congrFun lapse_set.2 j)
  have run := rRun_SR (H := H) (W := W) (kf := kf) sE empty_KS n hk
  have mb := rRun_MB (W := W) (kf := kf) (B := kEmpty S 0) hR (kEmpty_0.2.2.1 5 (by omega) (by omega)) n (Nat.le_refl _) hk
  have l2 := lapse_2 (Q := rRun H W kf n (kEmpty S 0)) (t1 := nI tm) (t2 := nI (tm + m)) (due_mono mb.1 (Nat.le_add_right _ _) ht)
  rw [← hR.1] at l2
  have s1 : SR 26 (kLapseAt (nI (tm + m)) (kLapseAt (H 0 4) (rRun H W kf n (kEmpty S 0))).1).1 (kLapseAt (nI (tm + m)) S).1 := (SR.lapse h1).1
  have s2 : SR 26 (kLapseAt (nI (tm + m)) (rRun H W kf n (kEmpty S 0))).1 (kLapseAt (nI (tm + m)) (rRun H W kf n (kEmpty S' 0))).1 := (run.1.lapse).1
  refine ⟨?_, ?_⟩
  · rw [kAnew_r, rRun_cg n hz, et]
    have : S' = (kLapseAt (nI (tm + m)) S).1 := by show (kLapseAt (H 0 4 + nI m) S).1 = _; rw [e4]
    show SR 26 (kLapseAt (nI (tm + m)) (rRun H W kf n (kEmpty S' 0))).1 S'
    rw [this] at s2 ⊢
    exact s2.sy.tr (l2.tr s1)
  · rw [et, e4]
    exact NOV_lapse
theorem HZ_B (g : BEq T T2) (hk : ∀ i, i < n → kf i < 26) (hn : n ≤ 300) : HZ n T.1 T2.1 kf kf := ⟨fun k hk => (g.2.2.1 k hk).1, fun k hk => (g.2.2.1 k hk).2.1, fun k hk => (g.2.2.1 k hk).2.2, fun i hi => ⟨(g.2.2.2.1 i (by omega)).2.1, (g.2.2.2.1 i (by omega)).2.2, rfl, hk i hi⟩⟩
theorem rep_cg (g : BEq T T2) (hi : i < 6) (hk : ∀ i, i < n → kf i < 26) (hn : n ≤ 300) (h : REP T.1 W kf n (T.2 i)) : REP T2.1 W kf n (T2.2 i) := by
  obtain ⟨h1, h2⟩ := h
  have e := g.2.2.2.2 i hi
  have sr := SR_of e
  have sE : SR 26 (kEmpty (T.2 i) 0) (kEmpty (T2.2 i) 0) := empty_SR (fun j hj => e.1 j (by omega) (by omega) (by omega)) e.2.1
  have run := rRun_SR (H := T.1) (W := W) (kf := kf) sE empty_KS n hk
  refine ⟨?_, by rw [g.2.1]; exact NOV_SR sr h2⟩
  rw [kAnew_r, rRun_cg n (HZ_B g hk hn), g.2.1]
  exact ((run.1.lapse).1.sy.tr h1).tr sr
/-! ### what is told of caches alike -/
theorem kFirst_SR (h : SR 26 S S') (hs : ∀ k, k < 26 → bt these k = true → bt (S.1 0 5) k = true) : kFirst S' these = kFirst S these := by
  have l3 : ∀ w, (∀ k, k < 26 → bt w k = true → bt (S.1 0 5) k = true) → lO w (S'.2 3) = lO w (S.2 3) := fun w hw => lO_on fun k hk q => (h.2.2.2.2.2.2.1 k hk (hw k hk q) (by omega)).2.1
  have l4 : ∀ w, (∀ k, k < 26 → bt w k = true → bt (S.1 0 5) k = true) → lO w (S'.2 4) = lO w (S.2 4) := fun w hw => lO_on fun k hk q => (h.2.2.2.2.2.2.1 k hk (hw k hk q) (by omega)).2.2.1
  have l5 : ∀ w, (∀ k, k < 26 → bt w k = true → bt (S.1 0 5) k = true) → lO w (S'.2 5) = lO w (S.2 5) := fun w hw => lO_on fun k hk q => (h.2.2.2.2.2.2.1 k hk (hw k hk q) (by omega)).2.2.2
  have l12 : ∀ w, lO w (S'.2 12) = lO w (S.2 12) := fun w => lO_on fun k hk q => (h.2.2.2.2.1 k hk).2.2.2
  unfold kFirst
  rw [h.g (j := 0) (by omega) (by omega) (by omega), h.g (j := 8) (by omega) (by omega) (by omega), l12 these, l4 these hs, l3 these hs, l4 (these &&& (S.1 0 8 ^^^ -1)) (fun k hk q => hs k hk (and_l q)), l5 these hs]
theorem ordL_SR (h : SR 26 S S') : ∀ (p : Nat) (w : Int32), (∀ k, k < 26 → bt w k = true → bt (S.1 0 5) k = true) → ordL S' p w = ordL S p w ∧ ∀ k, k < 26 → bt (ordL S p w) k = true → bt (S.1 0 5) k = true
  | 0, w, hw => ⟨rfl, hw⟩
  | p + 1, w, hw => by
    unfold ordL
    rw [kFirst_SR h hw]
    exact ordL_SR h p _ (fun k hk q => hw k hk (and_l q))
theorem kNth_SR (h : SR 26 S S') : kNth S' p = kNth S p := by
  unfold kNth
  obtain ⟨o1, o2⟩ := ordL_SR h p (S.1 0 5) (fun _ _ q => q)
  rw [h.g (j := 5) (by omega) (by omega) (by omega), o1, kFirst_SR h o2]
/-- what print() makes of a cache -/
def prC (S : CS) : Nat → Int64 → Int64
  | 0, x => x
  | n + 1, x => prC S n (31 * x + Int32.toInt64 (S.1 7 (8 - n)))
def prO (S : CS) (h : Nat) : Nat → Int64 → Int64
  | 0, x => x
  | n + 1, x => prO S h n (31 * x + Int32.toInt64 (oI (kNth S (h - (n + 1)))))
def prS (S : CS) (x : Int64) : Int64 := 31 * prO S (nK (bt (S.1 0 5)) 26) (nK (bt (S.1 0 5)) 26) (prC S 9 x) + Int32.toInt64 (pPop (S.1 0 6)) + 7 * Int32.toInt64 (pPop (S.1 0 10))
def prT (Q : Nat → CS) : Nat → Int64 → Int64
  | 0, x => x
  | n + 1, x => prT Q n (prS (Q (5 - n)) x)
theorem prC_SR (h : SR 26 S S') : ∀ (n : Nat) (x : Int64), n ≤ 9 → prC S' n x = prC S n x
  | 0, _, _ => rfl
  | n + 1, x, hn => by
    unfold prC
    rw [h.2.2.2.1 (8 - n) (by omega)]
    exact prC_SR h n _ (by omega)
theorem prO_SR (h : SR 26 S S') {hh : Nat} : ∀ (n : Nat) (x : Int64), prO S' hh n x = prO S hh n x
  | 0, _ => rfl
  | n + 1, x => by
    unfold prO
    rw [kNth_SR h]
    exact prO_SR h n _
theorem prS_SR (h : SR 26 S S') {x : Int64} : prS S' x = prS S x := by
  unfold prS
  rw [h.g (j := 5) (by omega) (by omega) (by omega), h.g (j := 6) (by omega) (by omega) (by omega), h.g (j := 10) (by omega) (by omega) (by omega), prC_SR h 9 x (Nat.le_refl _), prO_SR h]
theorem prT_SR {Q Q' : Nat → CS} (h : ∀ i, i < 6 → SR 26 (Q i) (Q' i)) : ∀ (n : Nat) (x : Int64), n ≤ 6 → prT Q' n x = prT Q n x
  | 0, _, _ => rfl
  | n + 1, x, hn => by
    unfold prT
    rw [prS_SR (h (5 - n) (by omega))]
    exact prT_SR h n _ (by omega)
/-- time that passes, at all caches -/
theorem kLapses_i : ∀ (n : Nat) (Q : Nat → CS) (v : Int32), n ≤ 6 → ∀ i, i < 6 → (kLapses now n Q v).1 i = if 6 - n ≤ i then (kLapseAt now (Q i)).1 else Q i
  | 0, Q, v, _, i, hi => by rw [if_neg (by omega)]; rfl
  | n + 1, Q, v, hn, i, hi => by
    unfold kLapses
    rw [kLapses_i n _ _ (by omega) i hi]
    by_cases w : i = 5 - n
    · rw [w, if_neg (by omega), if_pos (by omega), u1_x, if_pos rfl]
    · by_cases w2 : 6 - n ≤ i
      · rw [if_pos w2, if_pos (by omega), u1_n w]
      · rw [if_neg w2, if_neg (by omega), u1_n w]
end Cj
