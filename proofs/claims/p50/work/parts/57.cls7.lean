/-! THE CLASS, a bench asked, fed anew, copied -/
def kApp (H : Nat → Nat → Int32) (n k : Nat) (w : Bool) (t : Int32) : Nat → Nat → Int32 := u2 (u2 (u2 (u2 H 6 n (nI k)) 7 n (bI w)) 8 n t) 5 3 (nI (n + 1))
section Ct
variable {M : LM} {B C D K R k i j t n o : Nat} {T : BT} {S : CS} {v x : Int32} {y : Int64} {z : Option (LO × LM)} {H : Nat → Nat → Int32} {Q : Nat → CS} {W : Nat → Nat}
theorem b_ckk (h : bA M B) : lt_ck (bM M B T) (B + 1) 19 z = z := lt_ck_t (M := bM M B T) h.2.2.2.2.2.1.1
theorem b_k0 (h : bA M B) : mP (bM M B T) (B + 1) 0 = some (B + 2) := h.2.2.2.2.2.1.2.1
theorem b_k1 (h : bA M B) : mP (bM M B T) (B + 1) 1 = some (B + 3) := h.2.2.2.2.2.1.2.2.1
theorem b_k2 (h : bA M B) : mP (bM M B T) (B + 1) 2 = some (B + 4) := h.2.2.2.2.2.1.2.2.2.1
theorem b_r0 (h : bA M B) : mP (bM M B T) (B + 5) 0 = some (B + 6) := h.2.2.2.2.2.2.1.2.1
theorem b_r1 (h : bA M B) : mP (bM M B T) (B + 5) 1 = some (B + 7) := h.2.2.2.2.2.2.1.2.2.1
theorem b_r2 (h : bA M B) : mP (bM M B T) (B + 5) 2 = some (B + 8) := h.2.2.2.2.2.2.1.2.2.2.1
theorem b_a2 (h : bA M B) : aI M (B + 2) 26 := h.2.2.2.2.2.1.2.2.2.2.1
theorem b_a3 (h : bA M B) : aI M (B + 3) 26 := h.2.2.2.2.2.1.2.2.2.2.2.1
theorem b_a4 (h : bA M B) : aI M (B + 4) 26 := h.2.2.2.2.2.1.2.2.2.2.2.2
theorem b_a6 (h : bA M B) : aI M (B + 6) 300 := h.2.2.2.2.2.2.1.2.2.2.2.1
theorem b_a7 (h : bA M B) : aI M (B + 7) 300 := h.2.2.2.2.2.2.1.2.2.2.2.2.1
theorem b_a8 (h : bA M B) : aI M (B + 8) 300 := h.2.2.2.2.2.2.1.2.2.2.2.2.2
theorem b_put2 (d : Nat) (h : bA M B) (hk : k < 26) : f_X10_put (d + 1) (bM M B T) (B + 2) (nI k) v = some (.inl none, bM M B (u2 T.1 2 k v, T.2)) := by rw [s10_put (M := bM M B T) d (b_a2 h) hk, bMw (by omega)]
theorem b_put3 (d : Nat) (h : bA M B) (hk : k < 26) : f_X10_put (d + 1) (bM M B T) (B + 3) (nI k) v = some (.inl none, bM M B (u2 T.1 3 k v, T.2)) := by rw [s10_put (M := bM M B T) d (b_a3 h) hk, bMw (by omega)]
theorem b_put4 (d : Nat) (h : bA M B) (hk : k < 26) : f_X10_put (d + 1) (bM M B T) (B + 4) (nI k) v = some (.inl none, bM M B (u2 T.1 4 k v, T.2)) := by rw [s10_put (M := bM M B T) d (b_a4 h) hk, bMw (by omega)]
theorem b_put6 (d : Nat) (h : bA M B) (hk : k < 300) : f_X10_put (d + 1) (bM M B T) (B + 6) (nI k) v = some (.inl none, bM M B (u2 T.1 6 k v, T.2)) := by rw [s10_put (M := bM M B T) d (b_a6 h) hk, bMw (by omega)]
theorem b_put7 (d : Nat) (h : bA M B) (hk : k < 300) : f_X10_put (d + 1) (bM M B T) (B + 7) (nI k) v = some (.inl none, bM M B (u2 T.1 7 k v, T.2)) := by rw [s10_put (M := bM M B T) d (b_a7 h) hk, bMw (by omega)]
theorem b_put8 (d : Nat) (h : bA M B) (hk : k < 300) : f_X10_put (d + 1) (bM M B T) (B + 8) (nI k) v = some (.inl none, bM M B (u2 T.1 8 k v, T.2)) := by rw [s10_put (M := bM M B T) d (b_a8 h) hk, bMw (by omega)]
theorem b_at2 (d : Nat) (h : bA M B) (hk : k < 26) : f_X10_at (d + 1) (bM M B T) (B + 2) (nI k) = some (.inl (some (.int (T.1 2 k))), bM M B T) := by rw [s10_at (M := bM M B T) d (b_a2 h) hk, bMI (by omega)]
theorem b_at3 (d : Nat) (h : bA M B) (hk : k < 26) : f_X10_at (d + 1) (bM M B T) (B + 3) (nI k) = some (.inl (some (.int (T.1 3 k))), bM M B T) := by rw [s10_at (M := bM M B T) d (b_a3 h) hk, bMI (by omega)]
theorem b_at4 (d : Nat) (h : bA M B) (hk : k < 26) : f_X10_at (d + 1) (bM M B T) (B + 4) (nI k) = some (.inl (some (.int (T.1 4 k))), bM M B T) := by rw [s10_at (M := bM M B T) d (b_a4 h) hk, bMI (by omega)]
theorem b_at6 (d : Nat) (h : bA M B) (hk : k < 300) : f_X10_at (d + 1) (bM M B T) (B + 6) (nI k) = some (.inl (some (.int (T.1 6 k))), bM M B T) := by rw [s10_at (M := bM M B T) d (b_a6 h) hk, bMI (by omega)]
theorem b_at7 (d : Nat) (h : bA M B) (hk : k < 300) : f_X10_at (d + 1) (bM M B T) (B + 7) (nI k) = some (.inl (some (.int (T.1 7 k))), bM M B T) := by rw [s10_at (M := bM M B T) d (b_a7 h) hk, bMI (by omega)]
theorem b_at8 (d : Nat) (h : bA M B) (hk : k < 300) : f_X10_at (d + 1) (bM M B T) (B + 8) (nI k) = some (.inl (some (.int (T.1 8 k))), bM M B T) := by rw [s10_at (M := bM M B T) d (b_a8 h) hk, bMI (by omega)]
theorem lt_le300 (h : n < 300) : ¬ (300 : Int32) < nI n + 1 := fun e => by
  rw [show nI n + 1 = nI (n + 1) from lt_iA (j := n) (k := 1)] at e
  have := (lt_iL (j := 300) (k := n + 1) (by omega) (by omega)).mp e
  omega
theorem lt_sub1 : nI (n + 1) - 1 = nI n := by
  rw [show nI (n + 1) = nI n + 1 from (lt_iA (j := n) (k := 1)).symm]
  exact Int32.add_sub_cancel _ _
theorem b_append (d : Nat) (h : bA M B) (hn : n < 300) (hl : T.1 5 3 = nI n) {w : Bool} : f_X4_append (d + 2) (bM M B T) (B + 5) (nI k) (bI w) x = some (.inl none, bM M B (kApp T.1 n k w x, T.2)) := by
  have ha : nI n + 1 = nI (n + 1) := lt_iA (j := n) (k := 1)
  have hm := lt_le300 hn
  rw [ha] at hm
  rw [e_X4_append]
  cases w
  · simp (maxSteps := 1000000) (disch := first | assumption | omega) only [Bool.false_eq_true, Int.reduceEq, x_rf, x_m, lt_bv_r, lt_bi_r, lt_bl_r, lt_br_r, ↓b_ck, b_ckr, b_ckk, b_p0, b_p1, b_p2, b_p3, b_r0, b_r1, b_r2, b_k0, b_k1, b_k2, bMI, bMI0, bMw, bMw0, z2_eq, z2_n1, z2_n2, lt_iN, lt_b1_0, lt_b1_1, x_if1, x_eq1, x_10, x_01, x_11, x_00, ↓reduceIte, s10_bit, s10_has, c_pop, j_max, j_min, b_put2, b_put3, b_put4, b_put6, b_put7, b_put8, b_at2, b_at3, b_at4, b_at6, b_at7, b_at8, hl, bI_f, hm, ha]
    rfl
  · simp (maxSteps := 1000000) (disch := first | assumption | omega) only [Bool.false_eq_true, Int.reduceEq, x_rf, x_m, lt_bv_r, lt_bi_r, lt_bl_r, lt_br_r, ↓b_ck, b_ckr, b_ckk, b_p0, b_p1, b_p2, b_p3, b_r0, b_r1, b_r2, b_k0, b_k1, b_k2, bMI, bMI0, bMw, bMw0, z2_eq, z2_n1, z2_n2, lt_iN, lt_b1_0, lt_b1_1, x_if1, x_eq1, x_10, x_01, x_11, x_00, ↓reduceIte, s10_bit, s10_has, c_pop, j_max, j_min, b_put2, b_put3, b_put4, b_put6, b_put7, b_put8, b_at2, b_at3, b_at4, b_at6, b_at7, b_at8, hl, bI_t, hm, ha]
    rfl
/-- the row's keys up to a request -/
def RKc (H : Nat → Nat → Int32) (kf : Nat → Nat) (n : Nat) : Prop := ∀ i, i < n → kf i < 26 ∧ H 6 i = nI (kf i)
def kAhead (kf : Nat → Nat) (f n : Nat) : Option Nat := (lastTo kf (kf n) f n).map (fun j => kf (j + 1))
theorem LA_row {kf : Nat → Nat} {f : Nat} (h : RKc H kf (n + 1)) (hn : n < 300) : LA (H 6) (lastTo kf (kf n) f n) (kAhead kf f n) := by
  unfold kAhead
  cases q : lastTo kf (kf n) f n with
  | none => rfl
  | some b =>
    have := lastTo_lt n q
    exact ⟨by omega, kf (b + 1), (h (b + 1) (by omega)).1, (h (b + 1) (by omega)).2, rfl⟩
/-- a request of the row done by a cache -/
def kDo (H : Nat → Nat → Int32) (W kf : Nat → Nat) (f n : Nat) (S : CS) : CS := kFeed (H 2) (H 3) (H 4) W (kf n) (kAhead kf f n) (H 8 n) (H 7 n) n S
theorem b_do (d : Nat) (h : bA M B) (hi : i < 6) (hH : bH (H, Q) W) {kf : Nat → Nat} {f : Nat} (hr : RKc H kf (n + 1)) (hn : n < 300) (hs : LsA (Q i) kf f n) :
    f_X1_feed (d + 6) (bM M B (H, Q)) (cc B i) (B + 1) (B + 5) (nI n) = some (.inl (some (.int (bI (bt ((Q i).1 0 5) (kf n))))), bM M B (H, u1 Q i (kDo H W kf f n (Q i)))) :=
  b_feed d h hi hH (hr n (by omega)).1 hn (hr n (by omega)).2 (hs _ (hr n (by omega)).1) (LA_row hr hn) (fun j e => by have := lastTo_lt n e; omega)
/-- the caches for which a request was a hit -/
def kBits (Q : Nat → CS) (k : Nat) : Nat → Int32 → Int32
  | 0, x => x
  | m + 1, x => kBits Q k m (if bt ((Q (5 - m)).1 0 5) k = true then x ||| (1 <<< (nI (5 - m) &&& 31)) else x ||| 0)
def kDoAll (H : Nat → Nat → Int32) (W kf : Nat → Nat) (fd : Nat → Nat) (n : Nat) (Q : Nat → CS) : Nat → CS := fun i => if i < 6 then kDo H W kf (fd i) n (Q i) else Q i
theorem b_ask_18 (d : Nat) (h : bA M B) {kf : Nat → Nat} {fd : Nat → Nat} (hr : RKc H kf (n + 1)) (hn : n < 300) (hl : H 5 3 = nI (n + 1)) :
    ∀ (m : Nat) (Q Q0 : Nat → CS) (x : Int32), m ≤ 6 → bH (H, Q) W → (∀ i, i < 6 → 6 - m ≤ i → Q i = Q0 i ∧ LsA (Q i) kf (fd i) n) → (∀ i, i < 6 - m → Q i = kDo H W kf (fd i) n (Q0 i)) → (∀ i, 6 ≤ i → Q i = Q0 i) →
    f_X0_ask_18 (d + 7) (bM M B (H, Q)) B x (nI (6 - m)) = some (.inl (some (.int (kBits Q0 (kf n) m x))), bM M B (H, kDoAll H W kf fd n Q0))
  | 0, Q, Q0, x, _, _, _, h2, h3 => by
    rw [e_X0_ask_18, if_neg (by decide)]
    have : Q = kDoAll H W kf fd n Q0 := funext fun i => by
      unfold kDoAll
      by_cases q : i < 6
      · rw [if_pos q, h2 i (by omega)]
      · rw [if_neg q, h3 i (by omega)]
    rw [this]
    rfl
  | m + 1, Q, Q0, x, hm, hH, h1, h2, h3 => by
    obtain ⟨g1, g2, g3⟩ := lt_suc6 hm
    have hi : 5 - m < 6 := by omega
    obtain ⟨e1, e2⟩ := h1 (5 - m) hi (by omega)
    have ih := fun x => b_ask_18 d h hr hn hl m (u1 Q (5 - m) (kDo H W kf (fd (5 - m)) n (Q (5 - m)))) Q0 x (by omega) hH
      (fun i a b => by rw [u1_n (by omega)]; exact h1 i a (by omega))
      (fun i a => by
        by_cases q : i = 5 - m
        · rw [q, u1e, e1]
        · rw [u1_n q]; exact h2 i (by omega))
      (fun i a => by rw [u1_n (by omega)]; exact h3 i a)
    rw [g1, e_X0_ask_18, if_pos g3, b_ck h, b_cache (d + 5) h hi, lt_br_r, b_ck h, b_p0 h, x_rf, b_ck h, b_p1 h, x_rf, b_ck h, x_rf, b_ckr h, b_ckc h hi, bMI (by omega)]
    dsimp only
    rw [hl, lt_sub1, b_do d h hi hH hr hn e2, lt_bi_r, g2, ih, ih]
    rw [show kBits Q0 (kf n) (m + 1) x = kBits Q0 (kf n) m (if bt ((Q0 (5 - m)).1 0 5) (kf n) = true then x ||| (1 <<< (nI (5 - m) &&& 31)) else x ||| 0) from rfl, e1]
    by_cases b : bt ((Q0 (5 - m)).1 0 5) (kf n) = true
    · rw [b, if_neg (show ¬ bI true = 0 by decide), if_pos rfl]
    · have b' : bt ((Q0 (5 - m)).1 0 5) (kf n) = false := by simpa using b
      rw [b', if_pos (show bI false = 0 from rfl), if_neg (by decide)]
/-- a bench asked -/
theorem b_ask (d : Nat) (h : bA M B) {kf : Nat → Nat} {fd : Nat → Nat} {w : Bool} (hr : RKc T.1 kf n) (hk : kf n < 26) (hn : n < 300) (hl : T.1 5 3 = nI n) (hH : bH T W) (hs : ∀ i, i < 6 → LsA (T.2 i) kf (fd i) n) :
    f_X0_ask (d + 7) (bM M B T) B (nI (kf n)) (bI w) = some (.inl (some (.int (kBits T.2 (kf n) 6 0))), bM M B (kApp T.1 n (kf n) w (T.1 0 4), kDoAll (kApp T.1 n (kf n) w (T.1 0 4)) W kf fd n T.2)) := by
  have h2 : kApp T.1 n (kf n) w (T.1 0 4) 2 = T.1 2 := by unfold kApp; simp (disch := omega) only [z2_n1]
  have h4 : kApp T.1 n (kf n) w (T.1 0 4) 4 = T.1 4 := by unfold kApp; simp (disch := omega) only [z2_n1]
  have h6 : kApp T.1 n (kf n) w (T.1 0 4) 6 = upd (T.1 6) n (nI (kf n)) := by
    unfold kApp; simp (disch := omega) only [z2_n1]
    funext b
    unfold u2 upd
    by_cases q : b = n
    · rw [if_pos ⟨rfl, q⟩, if_pos q]
    · rw [if_neg (fun e => q e.2), if_neg q]
  have h5 : kApp T.1 n (kf n) w (T.1 0 4) 5 3 = nI (n + 1) := z2_eq
  have := b_ask_18 (W := W) (M := M) (B := B) d h (H := kApp T.1 n (kf n) w (T.1 0 4)) (kf := kf) (fd := fd) (n := n) (fun i hi => ⟨by
      by_cases q : i = n
      · rw [q]; exact hk
      · exact (hr i (by omega)).1, by
      rw [h6]
      by_cases q : i = n
      · rw [q, upd_s]
      · rw [upd_o q]; exact (hr i (by omega)).2⟩) hn h5 6 T.2 T.2 0 (Nat.le_refl _) ⟨fun k hk => by show kApp T.1 n (kf n) w (T.1 0 4) 4 k = _ ∧ _; rw [h4]; exact hH.1 k hk, fun k hk => by show 0 < kApp T.1 n (kf n) w (T.1 0 4) 2 k; rw [h2]; exact hH.2 k hk⟩ (fun i a _ => ⟨rfl, hs i a⟩) (fun i a => by omega) (fun i _ => rfl)
  rw [e_X0_ask, b_ck h, b_p1 h, x_rf, b_ck h, b_ckr h, bMI0, b_append (d + 4) h hn hl, lt_bv_r]
  exact this
theorem kEmpties_i : ∀ (m : Nat) (Q : Nat → CS), m ≤ 6 → kEmpties m Q = fun i => if 6 - m ≤ i ∧ i < 6 then kEmpty (Q i) 0 else Q i
  | 0, Q, _ => funext fun i => (if_neg (by omega)).symm
  | m + 1, Q, hm => by
    show kEmpties m (u1 Q (5 - m) (kEmpty (Q (5 - m)) 0)) = _
    rw [kEmpties_i m _ (by omega)]
    funext i
    by_cases q : i = 5 - m
    · rw [q, if_neg (by omega), if_pos (by omega), u1e]
    · by_cases q2 : 6 - m ≤ i ∧ i < 6
      · rw [if_pos q2, if_pos (by omega), u1_n q]
      · rw [if_neg q2, if_neg (by omega), u1_n q]
/-- a cache fed anew with the row's first requests -/
def kAn1 (H : Nat → Nat → Int32) (W kf : Nat → Nat) (i : Nat) (S : CS) : CS := kDo H W kf 0 i (kLapseAt (H 8 i) S).1
def kAn (H : Nat → Nat → Int32) (W kf : Nat → Nat) : Nat → Nat → CS → Int32 → CS × Int32
  | 0, _, S, m => (S, m)
  | r + 1, i, S, m => kAn H W kf r (i + 1) (kAn1 H W kf i S) (if bt ((kLapseAt (H 8 i) S).1.1 0 5) (kf i) = true then m + 1 else m + 0)
theorem kAn_s {kf : Nat → Nat} {r : Nat} : kAn H W kf (r + 1) i S x = kAn H W kf r (i + 1) (kAn1 H W kf i S) (if bt ((kLapseAt (H 8 i) S).1.1 0 5) (kf i) = true then x + 1 else x + 0) := rfl
theorem b_lapseQ (d : Nat) (h : bA M B) (hi : i < 6) : f_X1_lapseAt (d + 3) (bM M B (H, Q)) (cc B i) x = some (.inl (some (.int (kLapseAt x (Q i)).2)), bM M B (H, u1 Q i (kLapseAt x (Q i)).1)) := b_lapse1 d h hi
theorem u1_v {α : Type} {f : Nat → α} {v w : α} : u1 (u1 f i v) i w = u1 f i w := funext fun b => by
  unfold u1
  split <;> rfl
theorem b_anew_23 (d : Nat) (h : bA M B) (hH : ∀ Q, bH (H, Q) W) {kf : Nat → Nat} {n : Nat} (hr : RKc H kf n) (hn : n ≤ 300) (hl : H 5 3 = nI n) {c : Nat} (hc : c < 6) :
    ∀ (r i : Nat) (Q : Nat → CS) (x : Int32), i + r = n → LsA (Q c) kf 0 i →
      f_X0_feedAnew_23 (d + 7) (bM M B (H, Q)) B x (nI c) (cc B c) (nI i) = f_X0_feedAnew_8 (d + 7) (bM M B (H, u1 Q c (kLapseAt (H 0 4) (kAn H W kf r i (Q c) x).1).1)) B (kAn H W kf r i (Q c) x).2 (nI c + 1)
  | 0, i, Q, x, e, hs => by
    have hlt : ¬ nI i < H 5 3 := fun q => by rw [hl] at q; have := (lt_iL (by omega) (by omega)).mp q; omega
    rw [e_X0_feedAnew_23, b_ck h, b_p1 h, x_rf, b_ckr h, bMI (by omega)]
    dsimp only
    rw [if_neg hlt, b_ck h, b_ckc h hc, bMI0]
    dsimp only
    rw [b_lapseQ (d + 3) h hc, lt_bi_r]
    rfl
  | r + 1, i, Q, x, e, hs => by
    have hlt : nI i < H 5 3 := by rw [hl]; exact (lt_iL (by omega) (by omega)).mpr (by omega)
    have hlt2 : nI i < (300 : Int32) := (lt_iL (j := i) (k := 300) (by omega) (by omega)).mpr (by omega)
    have hs1 : LsA (u1 Q c (kLapseAt (H 8 i) (Q c)).1 c) kf 0 i := by
      rw [u1e]
      exact LsA_p hs (kLapseAt_p Kp.rfl')
    have ha : nI i + 1 = nI (i + 1) := lt_iA (j := i) (k := 1)
    have ih := fun x => b_anew_23 d h hH hr hn hl hc r (i + 1) (u1 Q c (kAn1 H W kf i (Q c))) x (by omega) (by rw [u1e]; exact LsA_step (LsA_p hs (kLapseAt_p Kp.rfl')) (by omega))
    have hr1 : RKc H kf (i + 1) := fun j hj => hr j (by omega)
    rw [e_X0_feedAnew_23, b_ck h, b_p1 h, x_rf, b_ckr h, bMI (by omega)]
    dsimp only
    rw [if_pos hlt, if_pos hlt2, b_ck h, x_rf, b_ckr h, b_r2 h, x_rf, b_at8 (d + 5) h (by omega), lt_bi_r, b_ckc h hc]
    dsimp only
    rw [b_lapseQ (d + 3) h hc, lt_bi_r, b_ck h, b_p0 h, x_rf, b_ck h, b_p1 h, x_rf, b_ckc h hc, b_do d h hc (hH _) hr1 (by omega) hs1, lt_bi_r, ha]
    rw [u1_v]
    simp only [u1e]
    show (if _ then f_X0_feedAnew_23 (d + 7) (bM M B (H, u1 Q c (kAn1 H W kf i (Q c)))) B (x + 0) (nI c) (cc B c) (nI (i + 1)) else f_X0_feedAnew_23 (d + 7) (bM M B (H, u1 Q c (kAn1 H W kf i (Q c)))) B (x + 1) (nI c) (cc B c) (nI (i + 1))) = _
    rw [ih, ih, u1_v]
    simp only [u1e, u1_v]
    rw [kAn_s]
    by_cases b : bt ((kLapseAt (H 8 i) (Q c)).1.1 0 5) (kf i) = true
    · rw [b, if_neg (show ¬ bI true = 0 by decide), if_pos rfl]
    · have b' : bt ((kLapseAt (H 8 i) (Q c)).1.1 0 5) (kf i) = false := by simpa using b
      rw [b', if_pos (show bI false = 0 from rfl), if_neg (by decide)]
def kAnew (H : Nat → Nat → Int32) (W kf : Nat → Nat) (n : Nat) (S : CS) : CS := (kLapseAt (H 0 4) (kAn H W kf n 0 S 0).1).1
theorem kAn_x {kf : Nat → Nat} : ∀ (r i : Nat) (S : CS) (x : Int32), kAn H W kf r i S x = ((kAn H W kf r i S 0).1, x + (kAn H W kf r i S 0).2)
  | 0, i, S, x => by
    show (S, x) = (S, x + 0)
    rw [Int32.add_zero]
  | r + 1, i, S, x => by
    rw [kAn_s, kAn_s]
    by_cases b : bt ((kLapseAt (H 8 i) S).1.1 0 5) (kf i) = true
    · rw [if_pos b, if_pos b, kAn_x r (i + 1) _ (x + 1), kAn_x r (i + 1) _ (0 + 1), Int32.zero_add, Int32.add_assoc]
    · rw [if_neg b, if_neg b, kAn_x r (i + 1) _ (x + 0), kAn_x r (i + 1) _ (0 + 0), Int32.add_zero, Int32.add_zero, Int32.zero_add]
def kAnT (H : Nat → Nat → Int32) (W kf : Nat → Nat) (n : Nat) (Q : Nat → CS) : Nat → Int32 → Int32
  | 0, x => x
  | m + 1, x => kAnT H W kf n Q m (x + (kAn H W kf n 0 (Q (5 - m)) 0).2)
theorem b_anew_8 (d : Nat) (h : bA M B) (hH : ∀ Q, bH (H, Q) W) {kf : Nat → Nat} {n : Nat} (hr : RKc H kf n) (hn : n ≤ 300) (hl : H 5 3 = nI n) :
    ∀ (m : Nat) (Q Q0 : Nat → CS) (x : Int32), m ≤ 6 → (∀ i, i < 6 → 6 - m ≤ i → Q i = Q0 i ∧ LsA (Q i) kf 0 0) → (∀ i, i < 6 - m → Q i = kAnew H W kf n (Q0 i)) → (∀ i, 6 ≤ i → Q i = Q0 i) →
    f_X0_feedAnew_8 (d + 7) (bM M B (H, Q)) B x (nI (6 - m)) = some (.inl (some (.int (kAnT H W kf n Q0 m x))), bM M B (H, fun i => if i < 6 then kAnew H W kf n (Q0 i) else Q0 i))
  | 0, Q, Q0, x, _, _, h2, h3 => by
    rw [e_X0_feedAnew_8, if_neg (by decide)]
    have : Q = fun i => if i < 6 then kAnew H W kf n (Q0 i) else Q0 i := funext fun i => by
      by_cases q : i < 6
      · rw [if_pos q, h2 i (by omega)]
      · rw [if_neg q, h3 i (by omega)]
    rw [this]
    rfl
  | m + 1, Q, Q0, x, hm, h1, h2, h3 => by
    obtain ⟨g1, g2, g3⟩ := lt_suc6 hm
    have hi : 5 - m < 6 := by omega
    obtain ⟨e1, e2⟩ := h1 (5 - m) hi (by omega)
    have ih := fun x => b_anew_8 d h hH hr hn hl m (u1 Q (5 - m) (kAnew H W kf n (Q (5 - m)))) Q0 x (by omega)
      (fun i a b => by rw [u1_n (by omega)]; exact h1 i a (by omega))
      (fun i a => by
        by_cases q : i = 5 - m
        · rw [q, u1e, e1]
        · rw [u1_n q]; exact h2 i (by omega))
      (fun i a => by rw [u1_n (by omega)]; exact h3 i a)
    have h23 := b_anew_23 d h hH hr hn hl hi n 0 Q x (by omega) e2
    rw [kAn_x] at h23
    rw [g1, e_X0_feedAnew_8, if_pos g3, b_ck h, b_cache (d + 5) h hi, lt_br_r]
    refine h23.trans ?_
    rw [g2, show kAnT H W kf n Q0 (m + 1) x = kAnT H W kf n Q0 m (x + (kAn H W kf n 0 (Q0 (5 - m)) 0).2) from rfl, ← e1]
    exact ih _
/-- a bench fed anew -/
theorem b_feedAnew (d : Nat) (h : bA M B) {kf : Nat → Nat} {n : Nat} (hr : RKc T.1 kf n) (hn : n ≤ 300) (hl : T.1 5 3 = nI n) (hH : bH T W) :
    f_X0_feedAnew (d + 7) (bM M B T) B = some (.inl (some (.int (kAnT T.1 W kf n (fun i => kEmpty (T.2 i) 0) 6 0))), bM M B (T.1, fun i => if i < 6 then kAnew T.1 W kf n (kEmpty (T.2 i) 0) else T.2 i)) := by
  have := b_anew_8 d h (H := T.1) (W := W) (fun _ => hH) hr hn hl 6 (kEmpties 6 T.2) (fun i => if i < 6 then kEmpty (T.2 i) 0 else T.2 i) 0 (Nat.le_refl _) (fun i hi _ => by
      rw [kEmpties_i 6 _ (Nat.le_refl _)]
      dsimp only
      rw [if_pos (by omega), if_pos hi]
      refine ⟨rfl, LsA_0 (fun k hk => ?_) (Nat.le_refl _)⟩
      show (kEmpty (T.2 i) 0).2 11 k = -1
      unfold kEmpty kStart cfI cfL
      simp (disch := omega) only [cwi_2, cwl_2, z2_n1, u1_n, u1e, if_pos hk]) (fun i hi => by omega) (fun i hi => by
      rw [kEmpties_i 6 _ (Nat.le_refl _)]
      dsimp only
      rw [if_neg (by omega), if_neg (by omega)])
  rw [e_X0_feedAnew, b_ck h, b_emptyCaches (d + 2) h, lt_bv_r]
  refine this.trans ?_
  congr 3
  · refine Prod.ext rfl (funext fun i => ?_)
    dsimp only
    by_cases q : i < 6
    · rw [if_pos q, if_pos q, if_pos q]
    · rw [if_neg q, if_neg q, if_neg q]
end Ct
