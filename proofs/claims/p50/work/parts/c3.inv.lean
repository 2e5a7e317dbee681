/-! CACHES: what holds of a cache behind so many requests and writes -/
def sN (f : Nat → Nat) : Nat → Nat
  | 0 => 0
  | n + 1 => sN f n + f n
def hCt (g : Nat → Int32) : Nat → Nat
  | 0 => 0
  | n + 1 => hCt g n + (if g n = 0 then 1 else 0)
def IFc (c : Nat → Nat) (S : CS) (n h m : Nat) : Prop := ∃ hk mk : Nat → Nat, (∀ k, k < 26 → S.1 8 k = nI (hk k) ∧ S.1 9 k = nI (mk k)) ∧ sN hk 26 = h ∧ sN mk 26 = m ∧ S.1 7 8 = nI (sN (fun k => mk k * c k) 26) ∧ S.1 6 6 = 0 ∧ S.1 6 7 = nI n ∧ hCt (S.1 10) n = h
def INV (z c : Nat → Nat) (S : CS) (n wr ro : Nat) : Prop := IA S ∧ S.1 0 1 = nI ro ∧ ro ≤ 20 ∧ uS z (bt (S.1 0 5)) 26 ≤ ro ∧ ∃ o X p m h, IC S o X wr n 0 ∧ S.1 7 0 = nI h ∧ S.1 7 1 = nI m ∧ S.1 7 5 = nI p ∧ X + p = m ∧ h + m = n ∧ IFc c S n h m
section Cd
variable {S S' S2 : CS} {i j k m n x y o X wr F q ro s h p : Nat} {z z' c : Nat → Nat} {f g : Nat → Bool} {u v t : Int32} {kz kc kw : Nat → Int32} {W : Nat → Nat} {these present write : Int32} {r : Nat → Int64} {kept ahead : Option Nat} {a b : Nat → Nat} {G : Nat → Int32}
theorem sN_cg (hh : ∀ k, k < n → a k = b k) : sN a n = sN b n := by
  induction n with
  | zero => rfl
  | succ n ih =>
    show sN a n + a n = sN b n + b n
    rw [ih (fun k hk => hh k (by omega)), hh n (by omega)]
theorem sN_up {d : Nat} : ∀ n, sN (fun k => if k = x then a k + d else a k) n = sN a n + (if x < n then d else 0)
  | 0 => rfl
  | n + 1 => by
    show sN (fun k => if k = x then a k + d else a k) n + (if n = x then a n + d else a n) = sN a n + a n + _
    rw [sN_up n]
    by_cases q : n = x
    · rw [if_pos q, if_neg (show ¬ x < n by omega), if_pos (show x < n + 1 by omega)]; omega
    · rw [if_neg q]
      by_cases q2 : x < n
      · rw [if_pos q2, if_pos (show x < n + 1 by omega)]; omega
      · rw [if_neg q2, if_neg (show ¬ x < n + 1 by omega)]; omega
theorem hCt_cg {G' : Nat → Int32} (hh : ∀ k, k < n → G' k = G k) : hCt G' n = hCt G n := by
  induction n with
  | zero => rfl
  | succ n ih =>
    show hCt G' n + (if G' n = 0 then 1 else 0) = hCt G n + (if G n = 0 then 1 else 0)
    rw [ih (fun k hk => hh k (by omega)), hh n (by omega)]
theorem IA_cg (h5 : S'.1 0 5 = S.1 0 5) (h6 : S'.1 0 6 = S.1 0 6) (h9 : S'.1 0 9 = S.1 0 9) (hA : IA S) : IA S' := by
  unfold IA
  rw [h5, h6, h9]
  exact hA
theorem IC_cg (h5 : S'.1 0 5 = S.1 0 5) (h6 : S'.1 0 6 = S.1 0 6) (h9 : S'.1 0 9 = S.1 0 9) (h3 : S'.1 0 3 = S.1 0 3) (h7 : ∀ j, j = 2 ∨ j = 3 ∨ j = 4 ∨ j = 6 ∨ j = 7 → S'.1 7 j = S.1 7 j) (hC : IC S o X wr F q) : IC S' o X wr F q := by
  unfold IC
  rw [h5, h6, h9, h3, h7 2 (by omega), h7 3 (by omega), h7 4 (by omega), h7 6 (by omega), h7 7 (by omega)]
  exact hC
/-- the first half of a request -/
theorem feed1_I (hz : SZ kz z) (hro : ro ≤ 20) (h1 : S.1 0 1 = nI ro) (hA : IA S) (hC : IC S o X wr F q) (hU : uS z (bt (S.1 0 5)) 26 ≤ ro) (hx : x < 26) : IA (kFeed1 kz kc kw W x present i S) ∧ uS z (bt ((kFeed1 kz kc kw W x present i S).1 0 5)) 26 ≤ ro ∧ (∀ j, j < 4 → (kFeed1 kz kc kw W x present i S).1 0 j = S.1 0 j) ∧
    ∃ o' e0 e1 e5 : Nat, o ≤ o' ∧ (kNoVictim kz S x = false → o + 1 ≤ o') ∧ IC (kFeed1 kz kc kw W x present i S) o' (X + e1 - e5) wr F q ∧ e5 ≤ e1 ∧ e1 ≤ 1 ∧ e0 + e1 = 1 ∧ (e0 = 1 ↔ bt (S.1 0 5) x = true) ∧ (kFeed1 kz kc kw W x present i S).1 7 0 = S.1 7 0 + nI e0 ∧ (kFeed1 kz kc kw W x present i S).1 7 1 = S.1 7 1 + nI e1 ∧ (kFeed1 kz kc kw W x present i S).1 7 5 = S.1 7 5 + nI e5 ∧ (kFeed1 kz kc kw W x present i S).1 7 8 = (if e1 = 1 then S.1 7 8 + kc x else S.1 7 8) := by
  have a : (kAsked S (nI i) x).1 = S.1 := rfl
  unfold kFeed1
  dsimp only
  rw [a]
  by_cases b : bt (S.1 0 5) x = true
  · rw [if_pos b]
    let N : CS := kNote0 (kAsked S (nI i) x) i x
    have n0 : N.1 0 = S.1 0 := by
      show (kNote0 (kAsked S (nI i) x) i x).1 0 = _
      unfold kNote0
      rw [cwi_z (by decide), cwi_z (by decide), cwi_z (by decide), cwi_z (by decide)]; rfl
    have n7 : N.1 7 = upd (S.1 7) 0 (S.1 7 0 + 1) := by
      show (kNote0 (kAsked S (nI i) x) i x).1 7 = _
      unfold kNote0
      rw [cwi_z (by decide)]
      funext j
      by_cases w : j = 0
      · rw [w, cwi_e, upd_s]; rfl
      · rw [cwi_n w, upd_o w, cwi_z (by decide), cwi_z (by decide)]; rfl
    have iA : IA N := IA_cg (by rw [n0]) (by rw [n0]) (by rw [n0]) hA
    have iC : IC N o X wr F q := IC_cg (by rw [n0]) (by rw [n0]) (by rw [n0]) (by rw [n0]) (fun j hj => by rw [n7, upd_o (by omega)]) hC
    obtain ⟨m1, m2, m3, m4⟩ := meet_I (kz := kz) (kc := kc) iA iC hx
    refine ⟨m1, by rw [m3, n0]; exact hU, fun j hj => (m4.1 j hj).trans (by rw [n0]), o, 1, 0, 0, Nat.le_refl _, fun e => ?_, m2, Nat.le_refl _, by omega, rfl, ⟨fun _ => b, fun _ => rfl⟩, ?_, ?_, ?_, ?_⟩
    · unfold kNoVictim at e; rw [b] at e; cases e
    · rw [m4.2 0 (by omega)]; show N.1 7 0 = _; rw [n7, upd_s]; rfl
    · rw [m4.2 1 (by omega)]; show N.1 7 1 = _; rw [n7, upd_o (by decide)]; exact (Int32.add_zero _).symm
    · rw [m4.2 5 (by omega)]; show N.1 7 5 = _; rw [n7, upd_o (by decide)]; exact (Int32.add_zero _).symm
    · rw [m4.2 8 (by omega), if_neg (by decide)]; show N.1 7 8 = _; rw [n7, upd_o (by decide)]
  · rw [if_neg b]
    have b' : bt (S.1 0 5) x = false := by simpa using b
    by_cases c : S.1 0 1 < kz x
    · rw [if_pos c]
      let N : CS := cwi (kNote2 (kAsked S (nI i) x) i x) 7 8 ((kNote2 (kAsked S (nI i) x) i x).1 7 8 + kc x)
      have n0 : N.1 0 = S.1 0 := by
        show (cwi (kNote2 (kAsked S (nI i) x) i x) 7 8 _).1 0 = _
        unfold kNote2
        rw [cwi_z (by decide), cwi_z (by decide), cwi_z (by decide), cwi_z (by decide), cwi_z (by decide), cwi_z (by decide)]; rfl
      have k7 : ∀ j, (kNote2 (kAsked S (nI i) x) i x).1 7 j = upd (upd (S.1 7) 1 (S.1 7 1 + 1)) 5 (S.1 7 5 + 1) j := fun j => by
        unfold kNote2
        by_cases w : j = 5
        · rw [w, cwi_e, upd_s]; rfl
        · rw [cwi_n w, upd_o w, cwi_z (by decide)]
          by_cases w1 : j = 1
          · rw [w1, cwi_e, upd_s]; rfl
          · rw [cwi_n w1, upd_o w1, cwi_z (by decide), cwi_z (by decide)]; rfl
      have n7 : ∀ j, j ≠ 8 → N.1 7 j = upd (upd (S.1 7) 1 (S.1 7 1 + 1)) 5 (S.1 7 5 + 1) j := fun j hj => by
        show (cwi (kNote2 (kAsked S (nI i) x) i x) 7 8 _).1 7 j = _
        rw [cwi_n hj, k7]
      have n78 : N.1 7 8 = S.1 7 8 + kc x := by
        show (cwi (kNote2 (kAsked S (nI i) x) i x) 7 8 ((kNote2 (kAsked S (nI i) x) i x).1 7 8 + kc x)).1 7 8 = _
        rw [cwi_e, k7, upd_o (by decide), upd_o (by decide)]
      have iA : IA N := IA_cg (by rw [n0]) (by rw [n0]) (by rw [n0]) hA
      have iC : IC N o X wr F q := IC_cg (by rw [n0]) (by rw [n0]) (by rw [n0]) (by rw [n0]) (fun j hj => by rw [n7 j (by omega), upd_o (by omega), upd_o (by omega)]) hC
      refine ⟨iA, by rw [show (cwi (kNote2 (kAsked S (nI i) x) i x) 7 8 ((kNote2 (kAsked S (nI i) x) i x).1 7 8 + kc x)).1 0 5 = S.1 0 5 from congrFun n0 5]; exact hU, fun j hj => congrFun n0 j, o, 0, 1, 1, Nat.le_refl _, fun e => ?_, iC, Nat.le_refl _, Nat.le_refl _, rfl, ⟨(fun e => by cases e), fun e => absurd e b⟩, ?_, ?_, ?_, ?_⟩
      · unfold kNoVictim at e; rw [b', decide_eq_true c] at e; cases e
      · exact (n7 0 (by decide)).trans (by rw [upd_o (by decide), upd_o (by decide)]; exact (Int32.add_zero _).symm)
      · exact (n7 1 (by decide)).trans (by rw [upd_o (by decide), upd_s]; rfl)
      · exact (n7 5 (by decide)).trans (by rw [upd_s]; rfl)
      · rw [if_pos rfl]; exact n78
    · rw [if_neg c]
      let N : CS := cwi (kNote1 (kAsked S (nI i) x) i x) 7 8 ((kNote1 (kAsked S (nI i) x) i x).1 7 8 + kc x)
      have n0 : N.1 0 = S.1 0 := by
        show (cwi (kNote1 (kAsked S (nI i) x) i x) 7 8 _).1 0 = _
        unfold kNote1
        rw [cwi_z (by decide), cwi_z (by decide), cwi_z (by decide), cwi_z (by decide), cwi_z (by decide)]; rfl
      have k7 : ∀ j, (kNote1 (kAsked S (nI i) x) i x).1 7 j = upd (S.1 7) 1 (S.1 7 1 + 1) j := fun j => by
        unfold kNote1
        rw [cwi_z (by decide)]
        by_cases w1 : j = 1
        · rw [w1, cwi_e, upd_s]; rfl
        · rw [cwi_n w1, upd_o w1, cwi_z (by decide), cwi_z (by decide)]; rfl
      have n7 : ∀ j, j ≠ 8 → N.1 7 j = upd (S.1 7) 1 (S.1 7 1 + 1) j := fun j hj => by
        show (cwi (kNote1 (kAsked S (nI i) x) i x) 7 8 _).1 7 j = _
        rw [cwi_n hj, k7]
      have n78 : N.1 7 8 = S.1 7 8 + kc x := by
        show (cwi (kNote1 (kAsked S (nI i) x) i x) 7 8 ((kNote1 (kAsked S (nI i) x) i x).1 7 8 + kc x)).1 7 8 = _
        rw [cwi_e, k7, upd_o (by decide)]
      have iA : IA N := IA_cg (by rw [n0]) (by rw [n0]) (by rw [n0]) hA
      have iC : IC N o X wr F q := IC_cg (by rw [n0]) (by rw [n0]) (by rw [n0]) (by rw [n0]) (fun j hj => by rw [n7 j (by omega), upd_o (by omega)]) hC
      have zx := (hz x hx).2.2
      have hU8 := uS_le (f := bt (S.1 0 5)) (fun k hk => (hz k hk).2.2) 26 (Nat.le_refl _)
      have fit : z x + kpZ z N none ≤ ro := by
        rw [h1, (hz x hx).1, nI_ltP (by omega) (by omega)] at c
        show z x + 0 ≤ ro
        omega
      obtain ⟨r1, r2, r3, o', r4, r5, r6⟩ := kRoom_all (kw := kw) (W := W) (kept := none) (q := q) hz hx hro (fun s e => by cases e) (by rw [n0]; exact h1) iA iC fit
      show IA (kCome kz kc (kRoom kz kw W x none 26 N) x present) ∧ uS z (bt ((kCome kz kc (kRoom kz kw W x none 26 N) x present).1 0 5)) 26 ≤ ro ∧ (∀ j, j < 4 → (kCome kz kc (kRoom kz kw W x none 26 N) x present).1 0 j = S.1 0 j) ∧ ∃ o' e0 e1 e5 : Nat, o ≤ o' ∧ (kNoVictim kz S x = false → o + 1 ≤ o') ∧ IC (kCome kz kc (kRoom kz kw W x none 26 N) x present) o' (X + e1 - e5) wr F q ∧ e5 ≤ e1 ∧ e1 ≤ 1 ∧ e0 + e1 = 1 ∧ (e0 = 1 ↔ bt (S.1 0 5) x = true) ∧ (kCome kz kc (kRoom kz kw W x none 26 N) x present).1 7 0 = S.1 7 0 + nI e0 ∧ (kCome kz kc (kRoom kz kw W x none 26 N) x present).1 7 1 = S.1 7 1 + nI e1 ∧ (kCome kz kc (kRoom kz kw W x none 26 N) x present).1 7 5 = S.1 7 5 + nI e5 ∧ (kCome kz kc (kRoom kz kw W x none 26 N) x present).1 7 8 = (if e1 = 1 then S.1 7 8 + kc x else S.1 7 8)
      generalize kRoom kz kw W x none 26 N = Q at r1 r2 r3 r5
      have hbQ : bt (Q.1 0 5) x = false := by
        cases w : bt (Q.1 0 5) x with
        | false => rfl
        | true => have := r2.2.2.1 x hx w; rw [n0] at this; exact absurd this b
      obtain ⟨c1, c2, c3, c4, c5, c6⟩ := come_I (kz := kz) (kc := kc) (present := present) r1 r5 hx hbQ
      have r7 : ∀ j, j ≠ 2 → j ≠ 4 → (kCome kz kc Q x present).1 7 j = N.1 7 j := fun j q1 q2 => by rw [c6]; exact r2.2.1 j q1 q2
      refine ⟨c1, ?_, fun j hj => (c5.1 j hj).trans ((r2.1 j hj).trans (congrFun n0 j)), o', 0, 1, 0, r4, fun e => r6 ?_, c2, by omega, Nat.le_refl _, rfl, ⟨(fun e => by cases e), fun e => absurd e b⟩, ?_, ?_, ?_, ?_⟩
      · rw [c3, bt_ad r1.1 hx, uS_ad hbQ, if_pos hx]; exact r3
      · unfold kNoVictim at e
        rw [b', decide_eq_false c, Bool.false_or, Bool.false_or, Bool.not_eq_false', decide_eq_true_iff, h1, pSum_U hz, (hz x hx).1, lt_iA, nI_ltP (by omega) (by omega)] at e
        rw [n0]
        exact e
      · rw [r7 0 (by decide) (by decide), n7 0 (by decide), upd_o (by decide)]; exact (Int32.add_zero _).symm
      · rw [r7 1 (by decide) (by decide), n7 1 (by decide), upd_s]; rfl
      · rw [r7 5 (by decide) (by decide), n7 5 (by decide), upd_o (by decide)]; exact (Int32.add_zero _).symm
      · rw [r7 8 (by decide) (by decide), n78, if_pos rfl]
theorem kNoted_8 (hx : x < 26) : ∀ k, (kNoted kz i x S).1 8 k = if k = x ∧ bt (S.1 0 5) x = true then S.1 8 k + 1 else S.1 8 k := fun k => by
  unfold kNoted
  by_cases b : bt (S.1 0 5) x = true
  · rw [if_pos b]
    unfold kNote0
    by_cases w : k = x
    · rw [if_pos ⟨w, b⟩, w, cwi_e]; rfl
    · rw [if_neg (fun e => w e.1), cwi_n w]; rfl
  · rw [if_neg b, if_neg (show ¬ (k = x ∧ bt (S.1 0 5) x = true) from fun e => b e.2)]
    split
    · unfold kNote2; rw [cwi_z (by decide), cwi_z (by decide), cwi_z (by decide), cwi_z (by decide), cwi_z (by decide)]; rfl
    · unfold kNote1; rw [cwi_z (by decide), cwi_z (by decide), cwi_z (by decide), cwi_z (by decide)]; rfl
theorem kNoted_9 (hx : x < 26) : ∀ k, (kNoted kz i x S).1 9 k = if k = x ∧ bt (S.1 0 5) x = false then S.1 9 k + 1 else S.1 9 k := fun k => by
  unfold kNoted
  by_cases b : bt (S.1 0 5) x = true
  · rw [if_pos b, if_neg (fun e => by rw [b] at e; cases e.2)]
    unfold kNote0; rw [cwi_z (by decide), cwi_z (by decide), cwi_z (by decide), cwi_z (by decide)]; rfl
  · have b' : bt (S.1 0 5) x = false := by simpa using b
    rw [if_neg b]
    split
    · unfold kNote2
      rw [cwi_z (by decide)]
      by_cases w : k = x
      · rw [if_pos ⟨w, b'⟩, w, cwi_e]; rfl
      · rw [if_neg (fun e => w e.1), cwi_n w]; rfl
    · unfold kNote1
      by_cases w : k = x
      · rw [if_pos ⟨w, b'⟩, w, cwi_e]; rfl
      · rw [if_neg (fun e => w e.1), cwi_n w]; rfl
/-- a request done -/
theorem feed_INV (hz : SZ kz z) (hc : ∀ k, k < 26 → kc k = nI (c k)) (hI : INV z c S n wr ro) (hx : x < 26) (hn : n < 300) (hy : (if S.1 0 3 &&& 2 = 0 then x else ahead.getD x) < 26) (hw : write = 0 ∨ write = 1) : INV z c (kFeed kz kc kw W x ahead present write n S) (n + 1) (wr + (if write = 0 then 0 else 1)) ro ∧ (kNoVictim kz S x = false → (kFeed kz kc kw W x ahead present write n S).1 7 2 ≠ 0) := by
  obtain ⟨hA, h1, hro, hU, o, X, p, m, h, hC, g0, g1, g5, gX, gn, hk, mk, f8, fh, fm, f7, f66, f67, fo⟩ := hI
  obtain ⟨a1, a2, a3, o', e0, e1, e5, b1, b2, b3, b4, b5, b6, b7, d0, d1, d5, d8⟩ := feed1_I (kc := kc) (kw := kw) (W := W) (present := present) (i := n) hz hro h1 hA hC hU hx
  have kp := kFeed_p (kz := kz) (kc := kc) (kw := kw) (W := W) (x := x) (ahead := ahead) (present := present) (write := write) (i := n) (S := S)
  have n8 := kNoted_8 (S := S) (kz := kz) (i := n) hx
  have n9 := kNoted_9 (S := S) (kz := kz) (i := n) hx
  have n6 := kNoted_6 (S := S) (kz := kz) (i := n) (x := x)
  have n10 := kNoted_10 (S := S) (kz := kz) (i := n) (x := x)
  obtain ⟨-, -, kp6, kp8, kp9, kp10, -⟩ := kp
  unfold kFeed at kp6 kp8 kp9 kp10 ⊢
  dsimp only at kp6 kp8 kp9 kp10 ⊢
  generalize kFeed1 kz kc kw W x present n S = P1 at a1 a2 a3 b3 d0 d1 d5 d8 kp6 kp8 kp9 kp10 ⊢
  -- the write
  have st5 : ∃ P5, (if write = 0 then P1 else kWrite P1 x present) = P5 ∧ IA P5 ∧ IC P5 o' (X + e1 - e5) (wr + (if write = 0 then 0 else 1)) n 0 ∧ P5.1 0 5 = P1.1 0 5 ∧ K7 P1 P5 := by
    rcases hw with e | e
    · refine ⟨P1, if_pos e, a1, ?_, rfl, K7.rf⟩
      rw [if_pos e]
      exact b3
    · have hne : ¬ write = 0 := by rw [e]; decide
      obtain ⟨w1, w2, w3, w4⟩ := write_I (present := present) a1 b3 hx
      refine ⟨_, if_neg hne, w1, ?_, w3, w4⟩
      rw [if_neg hne]
      exact w2
  obtain ⟨P5, e5', i1, i2, i3, i4⟩ := st5
  rw [e5'] at kp6 kp8 kp9 kp10 ⊢
  have m3 : P5.1 0 3 = S.1 0 3 := (i4.1 3 (by omega)).trans (a3 3 (by omega))
  rw [m3] at kp6 kp8 kp9 kp10 ⊢
  obtain ⟨j1, ⟨o2, j2, j3⟩, j4, j5⟩ := fetch_I (kz := kz) (kc := kc) (kw := kw) (W := W) (present := present) hz hro ((i4.1 1 (by omega)).trans ((a3 1 (by omega)).trans h1)) i1 i2 (by rw [i3]; exact a2) hx hy
  generalize kFeed2 kz kc kw W x (if S.1 0 3 &&& 2 = 0 then x else ahead.getD x) present P5 = P2 at j1 j3 j4 j5 kp6 kp8 kp9 kp10 ⊢
  have ne := feed3_NE (kz := kz) (x := x) (S := P2)
  generalize kFeed3 kz x P2 = P3 at ne kp6 kp8 kp9 kp10 ⊢
  have k7 : ∀ j, j = 0 ∨ j = 1 ∨ j = 5 ∨ j = 8 → P3.1 7 j = P1.1 7 j := fun j hj => by rw [ne.2.2.2.1, j5.2 j hj, i4.2 j hj]
  have C3 := IC_NE j3 ne
  have ob : o2 ≤ X + e1 - e5 + (n + 1) := by
    obtain ⟨l, w, f, u, -, -, -, -, -, q1, q2, -⟩ := C3
    omega
  refine ⟨⟨IA_NE j1 ne, ?_, hro, by rw [ne.1]; exact j4, o2, X + e1 - e5, p + e5, m + e1, h + e0, C3, ?_, ?_, ?_, by omega, by omega, ?_⟩, fun hv => ?_⟩
  · rw [ne.2.2.2.2 1 (by omega), j5.1 1 (by omega), i4.1 1 (by omega), a3 1 (by omega)]; exact h1
  · rw [k7 0 (by omega), d0, g0, lt_iA]
  · rw [k7 1 (by omega), d1, g1, lt_iA]
  · rw [k7 5 (by omega), d5, g5, lt_iA]
  · refine ⟨fun k => if k = x then hk k + e0 else hk k, fun k => if k = x then mk k + e1 else mk k, fun k hk' => ⟨?_, ?_⟩, by rw [sN_up 26, if_pos hx, fh], by rw [sN_up 26, if_pos hx, fm], ?_, ?_, ?_, ?_⟩
    · show P3.1 8 k = nI (if k = x then hk k + e0 else hk k)
      rw [kp8, n8, (f8 k hk').1]
      by_cases w : k = x
      · rw [if_pos w]
        by_cases b : bt (S.1 0 5) x = true
        · rw [if_pos ⟨w, b⟩, b7.mpr b]; exact lt_iA (j := hk k) (k := 1)
        · have : e0 = 0 := by
            by_cases q : e0 = 1
            · exact absurd (b7.mp q) b
            · omega
          rw [if_neg (fun e => b e.2), this, Nat.add_zero]
      · rw [if_neg w, if_neg (fun e => w e.1)]
    · show P3.1 9 k = nI (if k = x then mk k + e1 else mk k)
      rw [kp9, n9, (f8 k hk').2]
      by_cases w : k = x
      · rw [if_pos w]
        by_cases b : bt (S.1 0 5) x = true
        · have : e1 = 0 := by have := b7.mpr b; omega
          rw [if_neg (fun e => by rw [b] at e; cases e.2), this, Nat.add_zero]
        · have : e1 = 1 := by
            by_cases q : e0 = 1
            · exact absurd (b7.mp q) b
            · omega
          rw [if_pos ⟨w, by simpa using b⟩, this]; exact lt_iA (j := mk k) (k := 1)
      · rw [if_neg w, if_neg (fun e => w e.1)]
    · have es : (fun k => (if k = x then mk k + e1 else mk k) * c k) = fun k => if k = x then mk k * c k + e1 * c x else mk k * c k := funext fun k => by
        by_cases w : k = x
        · rw [if_pos w, if_pos w, w, Nat.add_mul]
        · rw [if_neg w, if_neg w]
      rw [es, sN_up (a := fun k => mk k * c k) 26, if_pos hx, k7 8 (by omega), d8, f7]
      by_cases w : e1 = 1
      · rw [if_pos w, hc x hx, w, Nat.one_mul, lt_iA]
      · have : e1 = 0 := by omega
        rw [if_neg w, this, Nat.zero_mul, Nat.add_zero]
    · rw [kp6, n6, upd_o (by decide)]; exact f66
    · rw [kp6, n6, upd_s]; exact lt_iA (j := n) (k := 1)
    · rw [kp10, n10]
      show hCt _ n + (if upd (S.1 10) n _ n = 0 then 1 else 0) = _
      rw [hCt_cg (G := S.1 10) (fun k hk' => upd_o (by omega)), fo, upd_s]
      by_cases b : bt (S.1 0 5) x = true
      · rw [if_pos b, if_pos rfl, b7.mpr b]
      · have : e0 = 0 := by
          by_cases q : e0 = 1
          · exact absurd (b7.mp q) b
          · omega
        rw [if_neg b, this]
        split
        · rw [if_neg (by decide)]
        · rw [if_neg (by decide)]
  · have := b2 hv
    obtain ⟨l, w, f, u, q1, -⟩ := C3
    rw [q1]
    exact fun e => by have := (lt_iE (j := o2) (k := 0) (by omega) (by omega)).mp e; omega
end Cd
