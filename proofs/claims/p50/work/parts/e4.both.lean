/-! A CACHE OF THE CLASS AND ONE OF THE LAW: a request in both -/
section Ee
variable {S S' S2 : CS} {i j k m n x y e s t pl ru ro cl key h' : Nat} {v v' now w : Int32} {kz kc kw : Nat → Int32} {W sz : Nat → Nat} {these present write : Int32} {q : PQ} {r : Nat → Int64} {Bx : Nat → Bool} {ahead : Option Nat}
theorem CP_same (h : CP sz ru ro S q cl) (h0 : ∀ j, j = 0 ∨ j = 1 ∨ j = 3 ∨ j = 5 ∨ j = 7 ∨ j = 12 → S'.1 0 j = S.1 0 j) (h1 : ∀ j, j < 4 → S'.1 1 j = S.1 1 j) (hL : ∀ k, k < 26 → S'.2 (rkR ru) k = S.2 (rkR ru) k) (hh : S'.1 7 0 = S.1 7 0) : CP sz ru ro S' q cl := by
  obtain ⟨⟨a0, a1, a3, as⟩, ⟨b1, b2, b3⟩, c1, c2, c3, c4, c5, c6, c7, c8, c9⟩ := h
  have e5 := h0 5 (by omega)
  refine ⟨⟨(h0 0 (by omega)).trans a0, (h0 1 (by omega)).trans a1, (h0 3 (by omega)).trans a3, fun j hj => (h1 j hj).trans (as j hj)⟩, ⟨by rw [e5]; exact b1, (h0 12 (by omega)).trans b2, b3⟩, by rw [e5]; exact c1, by rw [e5]; exact c2, fun i j hij hj => ?_, fun j hj => ?_, by rw [h0 7 (by omega)]; exact c5, by rw [e5, h0 7 (by omega)]; exact c6, by rw [e5]; exact c7, by rw [e5]; exact c8, hh.trans c9⟩
  · rw [hL _ (c1 i (by omega)).1, hL _ (c1 j hj).1]; exact c3 i j hij hj
  · rw [hL _ (c1 j hj).1]; exact c4 j hj
theorem CP_hit (h : CP sz ru ro S q cl) (hr : ru ≠ 0) (hp : pl < q.1) (hcl : cl + 1 < 1000000) (h0 : ∀ j, j < 4 → S'.1 0 j = S.1 0 j) (h1 : S'.1 1 = S.1 1) (h12 : S'.1 0 12 = nI (cl + 1)) (h5 : S'.1 0 5 = S.1 0 5) (h7 : S'.1 0 7 = S.1 0 7 ||| bb (q.2.1 pl)) (hL : ∀ k, k < 26 → S'.2 4 k = S.2 4 k) (hh : S'.1 7 0 = nI (q.2.2.2.2 + 1)) : CP sz ru ro S' (q.1, q.2.1, u1 q.2.2.1 pl true, q.2.2.2.1, q.2.2.2.2 + 1) (cl + 1) := by
  have inj := fun {i j} => CP.inj (i := i) (j := j) h
  obtain ⟨⟨a0, a1, a3, as⟩, ⟨b1, b2, b3⟩, c1, c2, c3, c4, c5, c6, c7, c8, c9⟩ := h
  have er : rkR ru = 4 := if_neg hr
  rw [er] at c3 c4
  obtain ⟨kp, bp⟩ := c1 pl hp
  refine ⟨⟨(h0 0 (by omega)).trans a0, (h0 1 (by omega)).trans a1, (h0 3 (by omega)).trans a3, fun j hj => by rw [h1]; exact as j hj⟩, ⟨by rw [h5]; exact b1, h12, hcl⟩, by rw [h5]; exact c1, by rw [h5]; exact c2, fun i j hij hj => ?_, fun j hj => ?_, fun h3 j hj => ?_, fun k hk e => ?_, by rw [h5]; exact c7, by rw [h5]; exact c8, hh⟩
  · have hj' : j < q.1 := hj
    show (S'.2 (rkR ru) (q.2.1 i)).toInt < (S'.2 (rkR ru) (q.2.1 j)).toInt
    rw [er, hL _ (c1 i (by omega)).1, hL _ (c1 j hj').1]; exact c3 i j hij hj'
  · have hj' : j < q.1 := hj
    show (S'.2 (rkR ru) (q.2.1 j)).toInt ≤ _
    rw [er, hL _ (c1 j hj').1]
    have := c4 j hj'
    omega
  · have hj' : j < q.1 := hj
    show bt (S'.1 0 7) (q.2.1 j) = u1 q.2.2.1 pl true j
    rw [h7, b_or, bt_bb (by omega) (by have := (c1 j hj').1; omega), c5 h3 j hj']
    by_cases w : j = pl
    · rw [w, decide_eq_true rfl, Bool.or_true, u1e]
    · rw [decide_eq_false (fun e => w (inj hj' hp e)), Bool.or_false, u1_n w]
  · rw [h7, b_or, bt_bb (by omega) (by omega)] at e
    rw [h5]
    rcases Bool.or_eq_true_iff.mp e with e | e
    · exact c6 k hk e
    · rw [of_decide_eq_true e]; exact bp
theorem fIx_in (h : CP sz ru ro S q cl) (hx : x < 26) : (bt (S.1 0 5) x = true → fIx q.2.1 x q.1 0 < q.1 ∧ q.2.1 (fIx q.2.1 x q.1 0) = x) ∧ (bt (S.1 0 5) x = false → ¬ fIx q.2.1 x q.1 0 < q.1) := by
  obtain ⟨f1, f2, f3⟩ := fIx_le (K := q.2.1) (key := x) q.1 0
  rw [Nat.zero_add] at f2 f3
  refine ⟨fun hb => ?_, fun hb hlt => ?_⟩
  · obtain ⟨j, hj, ej⟩ := h.2.2.2.1 x hx hb
    have : ∀ (n i : Nat), i ≤ j → j < i + n → fIx q.2.1 x n i ≤ j := by
      intro n
      induction n with
      | zero => intro i h1 h2; omega
      | succ n ih =>
        intro i h1 h2
        rw [fIx_s]
        by_cases w : q.2.1 i = x
        · rw [if_pos w]; exact h1
        · rw [if_neg w]
          have : i ≠ j := fun e => w (by rw [e]; exact ej)
          exact ih (i + 1) (by omega) (by omega)
    have := this q.1 0 (Nat.zero_le _) (by omega)
    exact ⟨by omega, f3 (by omega)⟩
  · have e := f3 hlt
    have := (h.2.2.1 _ hlt).2
    rw [e, hb] at this
    cases this
theorem meet_c : (∀ j, j ≠ 7 → j ≠ 9 → j ≠ 12 → (kMeet kz kc S x).1 0 j = S.1 0 j) ∧ (kMeet kz kc S x).1 0 7 = S.1 0 7 ||| bb x ∧ (kMeet kz kc S x).1 0 12 = S.1 0 12 + 1 ∧ (kMeet kz kc S x).1 1 = S.1 1 ∧ (kMeet kz kc S x).1 7 0 = S.1 7 0 ∧ (kMeet kz kc S x).2 4 = S.2 4 ∧ (∀ k, k ≠ x → (kMeet kz kc S x).2 3 k = S.2 3 k) ∧ (kMeet kz kc S x).2 3 x = Int32.toInt64 (S.1 0 12 + 1) := by
  unfold kMeet
  dsimp only
  refine ⟨fun j h1 h2 h3 => ?_, ?_, ?_, ?_, ?_, ?_, fun k hk => ?_, ?_⟩
  · split <;> simp [kUse, rd_wi, cwl_1, h1, h2, h3]
  · split <;> simp [kUse, rd_wi, cwl_1]
  · split <;> simp [kUse, rd_wi, cwl_1]
  · funext j; split <;> simp [kUse, rd_wi, cwl_1]
  · split <;> simp [kUse, rd_wi, cwl_1]
  · funext j; split <;> simp [kUse, rd_wl, cwi_2]
  · split <;> simp [kUse, rd_wl, cwi_2, hk]
  · split <;> simp [kUse, rd_wl, cwi_2, rd_wi, cwl_1]
theorem come_c : (∀ j, j < 4 → (kCome kz kc S x present).1 0 j = S.1 0 j) ∧ (kCome kz kc S x present).1 0 7 = S.1 0 7 ∧ (kCome kz kc S x present).1 0 12 = S.1 0 12 + 1 ∧ (kCome kz kc S x present).1 1 = S.1 1 ∧ (kCome kz kc S x present).1 7 = S.1 7 ∧ (∀ k, k ≠ x → (kCome kz kc S x present).2 3 k = S.2 3 k ∧ (kCome kz kc S x present).2 4 k = S.2 4 k) ∧ (kCome kz kc S x present).2 3 x = Int32.toInt64 (S.1 0 12 + 1) ∧ (kCome kz kc S x present).2 4 x = Int32.toInt64 (S.1 0 12 + 1) := by
  unfold kCome kCome0
  dsimp only
  refine ⟨fun j hj => ?_, ?_, ?_, ?_, ?_, fun k hk => ⟨?_, ?_⟩, ?_, ?_⟩
  · have : j = 0 ∨ j = 1 ∨ j = 2 ∨ j = 3 := by omega
    rcases this with rfl | rfl | rfl | rfl <;> split <;> simp [kUse, rd_wi, cwl_1]
  · split <;> simp [kUse, rd_wi, cwl_1]
  · split <;> simp [kUse, rd_wi, cwl_1]
  · funext j; split <;> simp [kUse, rd_wi, cwl_1]
  · funext j; split <;> simp [kUse, rd_wi, cwl_1]
  · split <;> simp [kUse, rd_wl, cwi_2, hk]
  · split <;> simp [kUse, rd_wl, cwi_2, hk]
  · split <;> simp [kUse, rd_wl, cwi_2, rd_wi, cwl_1]
  · split <;> simp [kUse, rd_wl, cwi_2, rd_wi, cwl_1]
/-- a request in both -/
theorem feed_CP (hz : SZ kz sz) (hr : ru = 0 ∨ ru = 2 ∨ ru = 3) (hx : x < 26) (hro : ro ≤ 20) (h : CP sz ru ro S q cl) (hv : PV ro sz q) (hcl : cl + 1600 < 1000000) (hh : q.2.2.2.2 < 1000) : ∃ cl', cl' ≤ cl + 1600 ∧ CP sz ru ro (kFeed kz kc kw W x ahead present write i S) (pAskQ ru ro sz x q) cl' ∧ PV ro sz (pAskQ ru ro sz x q) := by
  have z1 : ∀ k, k < 26 → 1 ≤ sz k := fun k hk => (hz k hk).2.1
  have a : (kAsked S (nI i) x).1 = S.1 := rfl
  have aL : ∀ t, t ≠ 11 → t ≠ 12 → (kAsked S (nI i) x).2 t = S.2 t := fun t h1 h2 => by
    unfold kAsked
    rw [cwl_z h2, cwl_z h1]
  have rk34 : rkR ru ≠ 11 ∧ rkR ru ≠ 12 := by unfold rkR; split <;> decide
  obtain ⟨fi1, fi2⟩ := fIx_in h hx
  have cm := cMk_le (q := q)
  have m20 := PV_m z1 hv
  have hu := hv.2.1
  -- the first half
  have first : ∃ cl', cl' ≤ cl + 1600 ∧ CP sz ru ro (kFeed1 kz kc kw W x present i S) (pAskQ ru ro sz x q) cl' ∧ PV ro sz (pAskQ ru ro sz x q) := by
    unfold kFeed1
    dsimp only
    rw [a]
    by_cases b : bt (S.1 0 5) x = true
    · rw [if_pos b]
      obtain ⟨p1, p2⟩ := fi1 b
      generalize hpl : fIx q.2.1 x q.1 0 = pl at p1 p2
      have n0 : ∀ t, t ≠ 7 → t ≠ 6 → t ≠ 8 → t ≠ 10 → (kNote0 (kAsked S (nI i) x) i x).1 t = S.1 t := fun t h7 h6 h8 h10 => by
        unfold kNote0
        rw [cwi_z h8, cwi_z h7, cwi_z h6, cwi_z h10, a]
      have n7 : (kNote0 (kAsked S (nI i) x) i x).1 7 0 = nI (q.2.2.2.2 + 1) := by
        unfold kNote0
        rw [cwi_z (by decide), cwi_e, a, h.2.2.2.2.2.2.2.2.2.2]
        exact lt_iA (j := q.2.2.2.2) (k := 1)
      have nL : (kNote0 (kAsked S (nI i) x) i x).2 = (kAsked S (nI i) x).2 := rfl
      obtain ⟨c1, c2, c3, c4, c5, c6, c7, c8⟩ := meet_c (kz := kz) (kc := kc) (S := kNote0 (kAsked S (nI i) x) i x) (x := x)
      have m0 := n0 0 (by decide) (by decide) (by decide) (by decide)
      have m1 := n0 1 (by decide) (by decide) (by decide) (by decide)
      have d12 : (kMeet kz kc (kNote0 (kAsked S (nI i) x) i x) x).1 0 12 = nI (cl + 1) := by rw [c3, m0, h.2.1.2.1]; exact lt_iA (j := cl) (k := 1)
      have d4 : (kMeet kz kc (kNote0 (kAsked S (nI i) x) i x) x).2 4 = S.2 4 := by rw [c6, nL, aL 4 (by decide) (by decide)]
      have pA : pAskQ ru ro sz x q = (if 0 < ru then ((q.1, q.2.1, u1 q.2.2.1 pl true, q.2.2.2.1, q.2.2.2.2 + 1) : PQ) else pInQ sz x (pOutQ sz (q.1, q.2.1, u1 q.2.2.1 pl true, q.2.2.2.1, q.2.2.2.2 + 1) pl)) := by
        unfold pAskQ
        dsimp only
        rw [hpl, if_pos p1]
      rw [pA]
      have hv2 : PV ro sz ((q.1, q.2.1, u1 q.2.2.1 pl true, q.2.2.2.1, q.2.2.2.2 + 1) : PQ) := hv
      by_cases r0 : 0 < ru
      · rw [if_pos r0]
        refine ⟨cl + 1, by omega, CP_hit h (by omega) p1 (by omega) (fun j hj => by rw [c1 j (by omega) (by omega) (by omega), m0]) (by rw [c4, m1]) d12 (by rw [c1 5 (by omega) (by omega) (by omega), m0]) (by rw [c2, m0, p2]) (fun k _ => by rw [d4]) (by rw [c5, n7]), hv2⟩
      · have r00 : ru = 0 := by omega
        have er : rkR ru = 3 := if_pos r00
        rw [if_neg r0]
        obtain ⟨w1, w2, w3⟩ := PV_out (pl := pl) hv2 p1
        have w2' : sz x ≤ q.2.2.2.1 := by
          have : sz (q.2.1 pl) ≤ q.2.2.2.1 := w2
          rw [p2] at this; exact this
        have mv := CP_mv (S' := kMeet kz kc (kNote0 (kAsked S (nI i) x) i x) x) (pl := pl) (Bx := u1 q.2.2.1 pl true) (h' := q.2.2.2.2 + 1) h p1 (by omega) (fun j hj => by rw [c1 j (by omega) (by omega) (by omega), m0]) (by rw [c4, m1]) d12 (by rw [c1 5 (by omega) (by omega) (by omega), m0]) (fun w => by omega) (fun k hk e => by
          rw [c2, m0, b_or, bt_bb (by omega) (by omega)] at e
          rcases Bool.or_eq_true_iff.mp e with e | e
          · exact h.2.2.2.2.2.2.2.1 k hk e
          · rw [of_decide_eq_true e]; exact b) (fun w => by omega) (by
          rw [er, p2, c8, m0, h.2.1.2.1, show nI cl + 1 = nI (cl + 1) from lt_iA (j := cl) (k := 1), Int32.toInt_toInt64, lt_iT (by omega)]) (fun k hk => by
          rw [p2] at hk
          rw [er, c7 k hk, nL, aL 3 (by decide) (by decide)]) (by rw [c5, n7])
        rw [p2] at mv
        refine ⟨cl + 1, by omega, mv, (PV_in w1 hx ?_).1⟩
        show q.2.2.2.1 - sz (q.2.1 pl) + sz x ≤ ro
        rw [p2]; omega
    · have b' : bt (S.1 0 5) x = false := by simpa using b
      have np := fi2 b'
      rw [if_neg b]
      have zx := (hz x hx).2.2
      have cnd : (S.1 0 1 < kz x) ↔ ro < sz x := by rw [h.1.2.1, (hz x hx).1, nI_ltP (by omega) (by omega)]
      by_cases c : ro < sz x
      · rw [if_pos (cnd.mpr c)]
        have pA : pAskQ ru ro sz x q = q := by
          unfold pAskQ
          dsimp only
          rw [if_neg np, if_pos c]
        rw [pA]
        refine ⟨cl, by omega, CP_same h (fun j _ => ?_) (fun j _ => ?_) (fun k _ => ?_) ?_, hv⟩
        · unfold kNote2; rw [cwi_z (by decide), cwi_z (by decide), cwi_z (by decide), cwi_z (by decide), cwi_z (by decide), cwi_z (by decide), a]
        · unfold kNote2; rw [cwi_z (by decide), cwi_z (by decide), cwi_z (by decide), cwi_z (by decide), cwi_z (by decide), cwi_z (by decide), a]
        · exact congrFun (aL (rkR ru) rk34.1 rk34.2) k
        · unfold kNote2; rw [cwi_n (by decide), cwi_n (by decide), cwi_z (by decide), cwi_n (by decide), cwi_z (by decide), cwi_z (by decide), a]
      · rw [if_neg (fun w => c (cnd.mp w))]
        have pA : pAskQ ru ro sz x q = pInQ sz x (pShQ ru ro sz x 60 q) := by
          unfold pAskQ
          dsimp only
          rw [if_neg np, if_neg c]
        have h1 : CP sz ru ro (cwi (kNote1 (kAsked S (nI i) x) i x) 7 8 ((kNote1 (kAsked S (nI i) x) i x).1 7 8 + kc x)) q cl := by
          refine CP_same h (fun j _ => ?_) (fun j _ => ?_) (fun k _ => ?_) ?_
          · unfold kNote1; rw [cwi_z (by decide), cwi_z (by decide), cwi_z (by decide), cwi_z (by decide), cwi_z (by decide), a]
          · unfold kNote1; rw [cwi_z (by decide), cwi_z (by decide), cwi_z (by decide), cwi_z (by decide), cwi_z (by decide), a]
          · exact congrFun (aL (rkR ru) rk34.1 rk34.2) k
          · unfold kNote1; rw [cwi_n (by decide), cwi_z (by decide), cwi_n (by decide), cwi_z (by decide), cwi_z (by decide), a]
        have n5 : (cwi (kNote1 (kAsked S (nI i) x) i x) 7 8 ((kNote1 (kAsked S (nI i) x) i x).1 7 8 + kc x)).1 0 5 = S.1 0 5 := by
          unfold kNote1; rw [cwi_z (by decide), cwi_z (by decide), cwi_z (by decide), cwi_z (by decide), cwi_z (by decide), a]
        generalize cwi (kNote1 (kAsked S (nI i) x) i x) 7 8 ((kNote1 (kAsked S (nI i) x) i x).1 7 8 + kc x) = N at h1 n5
        obtain ⟨cl', g1, g2, g3, g4⟩ := room_CP (kw := kw) (W := W) hz hr hx hro (by omega) 26 N q cl 60 h1 hv (by omega) (by omega) (by omega)
        -- what is held behind it was held
        have sub : bt ((kRoom kz kw W x none 26 N).1 0 5) x = false := by
          have mn := room_MN (present := present) (kz := kz) (kw := kw) (W := W) (y := x) (kept := none) (fun s e => by cases e) 26 (S := N) (by rw [n5]; exact h.2.1.1) x hx
          cases e : bt ((kRoom kz kw W x none 26 N).1 0 5) x with
          | false => rfl
          | true =>
            have hs : KS (N.1 0 5) := by rw [n5]; exact h.2.1.1
            have key : ∀ (n : Nat) (P : CS), KS (P.1 0 5) → bt ((kRoom kz kw W x none n P).1 0 5) x = true → bt (P.1 0 5) x = true := by
              intro n
              induction n with
              | zero => intro P _ h; exact h
              | succ n ih =>
                intro P hP hq
                unfold kRoom at hq
                split at hq
                · obtain ⟨p1, p2, p3⟩ := kGo_in (kz := kz) (kw := kw) (W := W) (S := P) (y := x) (these := P.1 0 5 &&& (obb none ^^^ -1)) (KS_and hP)
                  rcases (kOut_TK (kz := kz) (S := P) p2).2 with g | ⟨k, -, -, g⟩
                  · have := ih _ (by rw [g.1]; exact hP) hq
                    rw [g.1] at this; exact this
                  · have := ih _ (by rw [g.1]; exact KS_and hP) hq
                    rw [g.1] at this; exact and_l this
                · exact hq
            have := key 26 N hs e
            rw [n5, b'] at this
            cases this
        generalize kRoom kz kw W x none 26 N = Q at g1 sub
        rw [pA]
        obtain ⟨c1, c2, c3, c4, c5, c6, c7, c8⟩ := come_c (kz := kz) (kc := kc) (S := Q) (x := x) (present := present)
        have e12 : Q.1 0 12 + 1 = nI (cl' + 1) := by rw [g1.2.1.2.1]; exact lt_iA (j := cl') (k := 1)
        have eL : ∀ t, t = 3 ∨ t = 4 → (kCome kz kc Q x present).2 t x = Int32.toInt64 (nI (cl' + 1)) := fun t ht => by
          rcases ht with rfl | rfl
          · rw [c7, e12]
          · rw [c8, e12]
        have rk : rkR ru = 3 ∨ rkR ru = 4 := by unfold rkR; split <;> simp
        refine ⟨cl' + 1, by omega, CP_in g1 hx sub (by omega) c1 c4 (by rw [c3, e12]) come_5 c2 ?_ (fun k hk => ?_) (by rw [c5]), (PV_in g3 hx (by omega)).1⟩
        · rw [eL _ rk, Int32.toInt_toInt64, lt_iT (by omega)]
        · rcases rk with e | e <;> rw [e]
          · exact (c6 k hk).1
          · exact (c6 k hk).2
  obtain ⟨cl', hle, hC, hV⟩ := first
  refine ⟨cl', hle, ?_, hV⟩
  unfold kFeed
  dsimp only
  generalize kFeed1 kz kc kw W x present i S = P at hC ⊢
  have m3 := hC.1.2.2.1
  have h5 : CP sz ru ro (if write = 0 then P else kWrite P x present) (pAskQ ru ro sz x q) cl' := by
    split
    · exact hC
    · have e : ∀ (V : CS) (u : Int32), (∀ t, t ≠ 2 → V.1 t = P.1 t) → V.2 = P.2 → CP sz ru ro (cwi V 7 4 u) (pAskQ ru ro sz x q) cl' := fun V u hV hV2 => CP_same hC (fun j _ => by rw [cwi_z (by decide), hV 0 (by decide)]) (fun j _ => by rw [cwi_z (by decide), hV 1 (by decide)]) (fun k _ => by rw [cwi_2, hV2]) (by rw [cwi_n (by decide), hV 7 (by decide)])
      unfold kWrite
      split
      · rw [if_pos (by rw [m3]; rfl)]
        exact e _ _ (fun t ht => cwi_z ht) rfl
      · exact e _ _ (fun _ _ => rfl) rfl
  generalize (if write = 0 then P else kWrite P x present) = V at h5 ⊢
  have v3 := h5.1.2.2.1
  have e2 : kFeed2 kz kc kw W x (if V.1 0 3 &&& 2 = 0 then x else ahead.getD x) present V = V := by
    rw [if_pos (by rw [v3]; rfl)]
    unfold kFeed2 kFetch
    rw [decide_eq_false (show ¬ x ≠ x from fun w => w rfl), Bool.false_and, Bool.false_and]
    exact if_neg (by decide)
  have e3 : kFeed3 kz x V = V := by
    unfold kFeed3
    refine if_neg (fun w => ?_)
    rw [h5.1.1] at w
    have := (lt_iE (j := ru) (k := 6) (by omega) (by omega)).mp w
    omega
  rw [e2, e3]
  exact h5
end Ee
