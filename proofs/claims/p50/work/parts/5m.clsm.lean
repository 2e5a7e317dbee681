/-! THE CLASS, a bench made -/
def c00 : CS := (fun _ _ => 0, fun _ _ => 0)
def cFresh (r : Int32) : CS := kEmpty (kSetUp c00 r 4 0 0) 0
def rl (i : Nat) : Int32 := if i < 5 then nI i else 6
def b3Blk (B : Nat) : NW := nP (nCat (nP (nCat (nP (nCat (nNew n0 0 16 0) 1 (kBlk (B + 1))) 0 0 (some (B + 1))) 5 (rBlk (B + 5))) 0 1 (some (B + 5))) 9 (cBlk (B + 9))) 0 2 (some (B + 9))
def b4Blk (B : Nat) : NW := nP (nNew (b3Blk B) 24 6 6) 0 3 (some (B + 24))
/-- the bench's block with i of its caches in place -/
def NB (B i : Nat) (W : NW) : Prop :=
  (∀ u, u < 9 → W.1 u = (b4Blk B).1 u ∧ W.2.2.1 u = (b4Blk B).2.2.1 u ∧ W.2.2.2.1 u = (b4Blk B).2.2.2.1 u ∧ W.2.2.2.2 u = (b4Blk B).2.2.2.2 u) ∧ W.2.2.2.1 24 = 6 ∧ W.2.2.2.2 24 = 6 ∧ (∀ j, j < i → W.2.2.1 24 j = some (cc B j)) ∧
  ∀ j, j < i → ∀ u, u < 15 → W.1 (cc 0 j + u) = (cFresh (rl j)).1 u ∧ W.2.1 (cc 0 j + u) = (cFresh (rl j)).2 u ∧ W.2.2.1 (cc 0 j + u) = (cBlk (cc B j)).2.2.1 u ∧ W.2.2.2.1 (cc 0 j + u) = (cBlk (cc B j)).2.2.2.1 u ∧ W.2.2.2.2 (cc 0 j + u) = (cBlk (cc B j)).2.2.2.2 u
section Nc
variable {M : LM} {A B C n m i j k t c s z o : Nat} {W V : NW} {v x r : Int32} {q : Option (LO × LM)} {S : CS}
theorem u1_00 {α : Type} {a : α} : u1 (fun _ _ => a : Nat → Nat → α) n (fun _ => a) = fun _ _ => a := funext fun b => by
  unfold u1
  split <;> rfl
theorem cat_00 {α : Type} {a : α} : (fun t => if t < n then (fun _ _ => a : Nat → Nat → α) t else (fun _ _ => a : Nat → Nat → α) (t - n)) = fun _ _ => a := funext fun b => by
  split <;> rfl
theorem tBlk_0 : (tBlk A).1 = (fun _ _ => 0) ∧ (tBlk A).2.1 = fun _ _ => 0 := by
  unfold tBlk nP nNew n0
  dsimp only
  simp only [u1_00, and_self]
theorem cBlk_0 : (cBlk A).1 = (fun _ _ => 0) ∧ (cBlk A).2.1 = fun _ _ => 0 := by
  obtain ⟨h1, h2⟩ := tBlk_0 (A := A + 6)
  unfold cBlk c0Blk nP nNew nCat n0
  dsimp only
  rw [h1, h2]
  simp only [u1_00, cat_00, and_self]
/-- by its block a cell range is a cache -/
theorem cA_blk (hn : t + 15 ≤ n) (h : ∀ u, u < 15 → W.2.2.1 (t + u) = (cBlk (B + t)).2.2.1 u ∧ W.2.2.2.1 (t + u) = (cBlk (B + t)).2.2.2.1 u ∧ W.2.2.2.2 (t + u) = (cBlk (B + t)).2.2.2.2 u) : cA (nW M B n W c s) (B + t) := by
  have kk : ∀ u, u < 15 → mK (nW M B n W c s) (B + t + u) = (cBlk (B + t)).2.2.2.1 u := fun u hu => by
    rw [Nat.add_assoc, n_K (by omega), (h u hu).2.1]
  have zz : ∀ u, u < 15 → mZ (nW M B n W c s) (B + t + u) = (cBlk (B + t)).2.2.2.2 u := fun u hu => by
    rw [Nat.add_assoc, n_Z (by omega), (h u hu).2.2]
  have pp : ∀ u, u < 15 → ∀ j, mP (nW M B n W c s) (B + t + u) j = (cBlk (B + t)).2.2.1 u j := fun u hu j => by
    rw [Nat.add_assoc, n_P (by omega), (h u hu).1]
  have ai : ∀ u m, u < 15 → (cBlk (B + t)).2.2.2.1 u = 1 → (cBlk (B + t)).2.2.2.2 u = m → m ≤ 2147483647 → aI (nW M B n W c s) (B + t + u) m := fun u m hu h1 h2 h3 => ⟨by rw [kk u hu, h1], by rw [zz u hu, h2], by omega⟩
  have al : ∀ u m, u < 15 → (cBlk (B + t)).2.2.2.1 u = 2 → (cBlk (B + t)).2.2.2.2 u = m → m ≤ 2147483647 → aL (nW M B n W c s) (B + t + u) m := fun u m hu h1 h2 h3 => ⟨by rw [kk u hu, h1], by rw [zz u hu, h2], by omega⟩
  exact ⟨⟨kk 0 (by omega), pp 0 (by omega) 4, pp 0 (by omega) 13, pp 0 (by omega) 14, pp 0 (by omega) 15, pp 0 (by omega) 16, pp 0 (by omega) 17, pp 0 (by omega) 18, pp 0 (by omega) 19⟩,
    ⟨kk 6 (by omega), pp 6 (by omega) 0, pp 6 (by omega) 1, pp 6 (by omega) 2, pp 6 (by omega) 3, pp 6 (by omega) 4, pp 6 (by omega) 5⟩,
    ⟨kk 13 (by omega), kk 14 (by omega)⟩,
    ⟨ai 1 4 (by omega) rfl rfl (by omega), ai 2 26 (by omega) rfl rfl (by omega), al 3 26 (by omega) rfl rfl (by omega), al 4 26 (by omega) rfl rfl (by omega), al 5 26 (by omega) rfl rfl (by omega), ai 7 9 (by omega) rfl rfl (by omega), ai 8 26 (by omega) rfl rfl (by omega), ai 9 26 (by omega) rfl rfl (by omega), ai 10 300 (by omega) rfl rfl (by omega), al 11 26 (by omega) rfl rfl (by omega), al 12 26 (by omega) rfl rfl (by omega)⟩⟩
theorem nSub_0 (h1 : ∀ u, u < 15 → W.1 (t + u) = fun _ => 0) (h2 : ∀ u, u < 15 → W.2.1 (t + u) = fun _ => 0) : nSub W t c00 = W := by
  refine Prod.ext (funext fun b => ?_) (Prod.ext (funext fun b => ?_) rfl)
  · show (if t ≤ b ∧ b < t + 15 then (fun _ => 0) else W.1 b) = W.1 b
    by_cases q : t ≤ b ∧ b < t + 15
    · rw [if_pos q, ← h1 (b - t) (by omega), show t + (b - t) = b by omega]
    · rw [if_neg q]
  · show (if t ≤ b ∧ b < t + 15 then (fun _ => 0) else W.2.1 b) = W.2.1 b
    by_cases q : t ≤ b ∧ b < t + 15
    · rw [if_pos q, ← h2 (b - t) (by omega), show t + (b - t) = b by omega]
    · rw [if_neg q]
/-- a cache set up and emptied where it lies -/
theorem i_fresh (d : Nat) (hn : t + 15 ≤ n) (hc : cA (nW M B n W c s) (B + t)) (h1 : ∀ u, u < 15 → W.1 (t + u) = fun _ => 0) (h2 : ∀ u, u < 15 → W.2.1 (t + u) = fun _ => 0) {K : LM → Option (LO × LM)} {hl hl' : List (Nat × Int32)} :
    lt_bv (f_X1_setUp (d + 3) (nW M B n W c s) (B + t) r 4 0 0) hl (fun M20 => lt_ck M20 (B + t) 17 (lt_bv (f_X1_empty (d + 3) M20 (B + t) 0) hl' K)) = K (nW M B n (nSub W t (cFresh r)) c s) := by
  have e0 : nW M B n W c s = cM (nW M B n W c s) (B + t) c00 := by
    rw [nW_cM hn, nSub_0 h1 h2]
  have e1 := k_setUp (M := nW M B n W c s) (C := B + t) (S := c00) (d + 1) hc (a := r) (b := 4) (e := 0) (f := 0)
  have e2 := k_empty (M := nW M B n W c s) (C := B + t) (S := kSetUp c00 r 4 0 0) d hc (nx := 0)
  rw [← e0] at e1
  rw [e1, lt_bv_r, k_ck hc, e2, lt_bv_r, nW_cM hn]
  rfl
/-- one cache put into its place -/
theorem i_75 (d : Nat) (hi : i < 6) (h0 : W.2.2.2.1 0 = 16) (hp : W.2.2.1 0 3 = some (B + 24)) (hn24 : 24 < n) (hk : W.2.2.2.1 24 = 6) (hz : W.2.2.2.2 24 = 6) (hn : t + 15 ≤ n) (hc : ∀ u, u < 15 → W.2.2.1 (t + u) = (cBlk (B + t)).2.2.1 u ∧ W.2.2.2.1 (t + u) = (cBlk (B + t)).2.2.2.1 u ∧ W.2.2.2.2 (t + u) = (cBlk (B + t)).2.2.2.2 u) (h1 : ∀ u, u < 15 → W.1 (t + u) = fun _ => 0) (h2 : ∀ u, u < 15 → W.2.1 (t + u) = fun _ => 0) :
    f_X0_init_75 (d + 4) (nW M B n W c s) B (nI i) (B + t) = f_X0_init_48 (d + 4) (nW M B n (nP (nSub W t (cFresh (rl i))) 24 i (some (B + t))) c s) B (nI (i + 1)) := by
  have g1 : nI i + 1 = nI (i + 1) := lt_iA (j := i) (k := 1)
  have ck17 : ∀ {q : Option (LO × LM)}, lt_ck (nW M B n W c s) (B + t) 17 q = q := fun {q} => lt_ck_t (by
    have := (hc 0 (by omega)).2.1
    rw [n_K (by omega)]
    exact this)
  have ck16 : ∀ {r : Int32} {q : Option (LO × LM)}, lt_ck (nW M B n (nSub W t (cFresh r)) c s) B 16 q = q := fun {r q} => lt_ck_t (by rw [n_K0 (by omega)]; exact h0)
  have pq : ∀ {r : Int32}, mP (nW M B n (nSub W t (cFresh r)) c s) B 3 = some (B + 24) := fun {r} => by rw [n_P0 (by omega)]; exact hp
  have as_ : ∀ {r : Int32} {q : Option (LO × LM)}, lt_as (nW M B n (nSub W t (cFresh r)) c s) (B + 24) (nI i) (B + t) q = q := fun {r q} => by
    have k24 : mK (nW M B n (nSub W t (cFresh r)) c s) (B + 24) = 6 := by rw [n_K hn24]; exact hk
    have z24 : mZ (nW M B n (nSub W t (cFresh r)) c s) (B + 24) = 6 := by rw [n_Z hn24]; exact hz
    have kt : mK (nW M B n (nSub W t (cFresh r)) c s) (B + t) = 17 := by
      rw [n_K (by omega)]
      exact (hc 0 (by omega)).2.1
    exact if_pos ⟨by rw [k24]; omega, by rw [z24]; exact lt_iI hi (by omega), by rw [kt, k24]; rfl⟩
  have core : ∀ r : Int32, (lt_ck (nW M B n W c s) (B + t) 17 (lt_bv (f_X1_setUp (d + 3) (nW M B n W c s) (B + t) r 4 0 0) [] fun M20 => lt_ck M20 (B + t) 17 (lt_bv (f_X1_empty (d + 3) M20 (B + t) 0) [] fun M21 => lt_ck M21 B 16 (lt_rf (mP M21 B 3) fun q22 => lt_as M21 q22 (nI i) (B + t) (lt_m (wP M21 q22 (lt_n (nI i)) (some (B + t))) fun M23 => f_X0_init_48 (d + 4) M23 B (nI i + 1))))) : Option (LO × LM)) = f_X0_init_48 (d + 4) (nW M B n (nP (nSub W t (cFresh r)) 24 i (some (B + t))) c s) B (nI (i + 1)) := by
    intro r
    have e := i_fresh (M := M) (B := B) (n := n) (W := W) (c := c) (s := s) (t := t) (r := r) d hn (cA_blk hn hc) h1 h2 (hl := []) (hl' := []) (K := fun M21 => lt_ck M21 B 16 (lt_rf (mP M21 B 3) fun q22 => lt_as M21 q22 (nI i) (B + t) (lt_m (wP M21 q22 (lt_n (nI i)) (some (B + t))) fun M23 => f_X0_init_48 (d + 4) M23 B (nI i + 1))))
    rw [ck17]
    refine e.trans ?_
    rw [ck16, pq, x_rf, as_, lt_iN (by omega), n_wP hn24, x_m, g1]
  rw [e_X0_init_75]
  unfold rl
  by_cases q : i < 5
  · have hlt : nI i < (5 : Int32) := (nI_ltP (j := i) (k := 5) (by omega) (by omega)).mpr q
    rw [if_pos hlt, if_pos q]
    exact core _
  · have hlt : ¬ nI i < (5 : Int32) := fun e => q ((nI_ltP (j := i) (k := 5) (by omega) (by omega)).mp e)
    rw [if_neg hlt, if_neg q]
    exact core _
theorem NB_p (h : NB B i W) : W.2.2.1 0 3 = some (B + 24) ∧ W.2.2.2.1 0 = 16 ∧ W.2.2.1 0 2 = some (B + 9) := by
  obtain ⟨a1, -⟩ := h
  obtain ⟨-, b2, b3, -⟩ := a1 0 (by omega)
  refine ⟨?_, ?_, ?_⟩
  · rw [b2]; rfl
  · rw [b3]; rfl
  · rw [b2]; rfl
theorem cc_0B (i : Nat) : cc B i = B + cc 0 i := by unfold cc; split <;> omega
theorem i_48 (d : Nat) : ∀ (m : Nat) (W : NW) (c s : Nat), m ≤ 5 → NB B (6 - m) W → ∃ W', f_X0_init_48 (d + 4) (nW M B (10 + 15 * (6 - m)) W c s) B (nI (6 - m)) = some (.inl none, nW M B 100 W' (c + 15 * m) (s + 553 * m)) ∧ NB B 6 W'
  | 0, W, c, s, _, h => by
    obtain ⟨p3, k0, -⟩ := NB_p h
    have h' := h
    obtain ⟨-, k24, z24, -⟩ := h
    refine ⟨W, ?_, h'⟩
    have hz : mZ (nW M B 100 W c s) (B + 24) = 6 := by rw [n_Z (by omega)]; exact z24
    have hk : mK (nW M B 100 W c s) (B + 24) = 6 := by rw [n_K (by omega)]; exact k24
    rw [e_X0_init_48, nW_ck k0 (by omega), n_P0 (by omega), p3, x_rf, lt_al_t (by show 1 ≤ mK (nW M B 100 W c s) (B + 24) ∧ mK (nW M B 100 W c s) (B + 24) ≤ 9; omega)]
    show (if nI 6 < nI (mZ (nW M B 100 W c s) (B + 24)) then _ else _) = _
    rw [hz, if_neg (by decide)]
    rfl
  | m + 1, W, c, s, hm, h => by
    obtain ⟨p3, k0, -⟩ := NB_p h
    have h' := h
    obtain ⟨a0, k24, z24, a3, a4⟩ := h
    have hi : 5 - m < 6 := by omega
    have e6 : 6 - (m + 1) = 5 - m := by omega
    rw [e6] at a3 a4 h' ⊢
    have hz : mZ (nW M B (10 + 15 * (5 - m)) W c s) (B + 24) = 6 := by rw [n_Z (by omega)]; exact z24
    have hk : mK (nW M B (10 + 15 * (5 - m)) W c s) (B + 24) = 6 := by rw [n_K (by omega)]; exact k24
    have hlt : nI (5 - m) < nI 6 := by rw [nI_ltP (by omega) (by omega)]; omega
    have hne : ¬ nI (5 - m) = 0 := fun e => by have := (lt_iE (j := 5 - m) (k := 0) (by omega) (by omega)).mp e; omega
    have hb := cBlk_0 (A := B + (10 + 15 * (5 - m)))
    let V : NW := nCat W (10 + 15 * (5 - m)) (cBlk (B + (10 + 15 * (5 - m))))
    have v_l : ∀ u, u < 10 + 15 * (5 - m) → V.1 u = W.1 u ∧ V.2.1 u = W.2.1 u ∧ V.2.2.1 u = W.2.2.1 u ∧ V.2.2.2.1 u = W.2.2.2.1 u ∧ V.2.2.2.2 u = W.2.2.2.2 u := fun u hu => ⟨if_pos hu, if_pos hu, if_pos hu, if_pos hu, if_pos hu⟩
    have v_r : ∀ u, V.1 (10 + 15 * (5 - m) + u) = (cBlk (B + (10 + 15 * (5 - m)))).1 u ∧ V.2.1 (10 + 15 * (5 - m) + u) = (cBlk (B + (10 + 15 * (5 - m)))).2.1 u ∧ V.2.2.1 (10 + 15 * (5 - m) + u) = (cBlk (B + (10 + 15 * (5 - m)))).2.2.1 u ∧ V.2.2.2.1 (10 + 15 * (5 - m) + u) = (cBlk (B + (10 + 15 * (5 - m)))).2.2.2.1 u ∧ V.2.2.2.2 (10 + 15 * (5 - m) + u) = (cBlk (B + (10 + 15 * (5 - m)))).2.2.2.2 u := fun u => by
      have q : ¬ 10 + 15 * (5 - m) + u < 10 + 15 * (5 - m) := by omega
      have e : 10 + 15 * (5 - m) + u - (10 + 15 * (5 - m)) = u := by omega
      refine ⟨?_, ?_, ?_, ?_, ?_⟩
      · show (if 10 + 15 * (5 - m) + u < 10 + 15 * (5 - m) then _ else (cBlk (B + (10 + 15 * (5 - m)))).1 (10 + 15 * (5 - m) + u - (10 + 15 * (5 - m)))) = _
        rw [if_neg q, e]
      · show (if 10 + 15 * (5 - m) + u < 10 + 15 * (5 - m) then _ else (cBlk (B + (10 + 15 * (5 - m)))).2.1 (10 + 15 * (5 - m) + u - (10 + 15 * (5 - m)))) = _
        rw [if_neg q, e]
      · show (if 10 + 15 * (5 - m) + u < 10 + 15 * (5 - m) then _ else (cBlk (B + (10 + 15 * (5 - m)))).2.2.1 (10 + 15 * (5 - m) + u - (10 + 15 * (5 - m)))) = _
        rw [if_neg q, e]
      · show (if 10 + 15 * (5 - m) + u < 10 + 15 * (5 - m) then _ else (cBlk (B + (10 + 15 * (5 - m)))).2.2.2.1 (10 + 15 * (5 - m) + u - (10 + 15 * (5 - m)))) = _
        rw [if_neg q, e]
      · show (if 10 + 15 * (5 - m) + u < 10 + 15 * (5 - m) then _ else (cBlk (B + (10 + 15 * (5 - m)))).2.2.2.2 (10 + 15 * (5 - m) + u - (10 + 15 * (5 - m)))) = _
        rw [if_neg q, e]
    have e75 := i_75 (M := M) (B := B) (n := 10 + 15 * (5 - m) + 15) (W := V) (i := 5 - m) (t := 10 + 15 * (5 - m)) (c := c + 1 + 14) (s := s + 20 + 533) d hi ((v_l 0 (by omega)).2.2.2.1.trans k0) (by rw [(v_l 0 (by omega)).2.2.1]; exact p3) (by omega) ((v_l 24 (by omega)).2.2.2.1.trans k24) ((v_l 24 (by omega)).2.2.2.2.trans z24) (Nat.le_refl _) (fun u hu => ⟨(v_r u).2.2.1, (v_r u).2.2.2.1, (v_r u).2.2.2.2⟩) (fun u hu => by rw [(v_r u).1, hb.1]) (fun u hu => by rw [(v_r u).2.1, hb.2])
    have hcc : cc 0 (5 - m) = 10 + 15 * (5 - m) := (cc_p (by omega)).trans (by omega)
    have hccB : cc B (5 - m) = B + (10 + 15 * (5 - m)) := by rw [cc_0B, hcc]
    have e6' : 5 - m + 1 = 6 - m := by omega
    have hN : NB B (6 - m) (nP (nSub V (10 + 15 * (5 - m)) (cFresh (rl (5 - m)))) 24 (5 - m) (some (B + (10 + 15 * (5 - m))))) := by
      have ns1 : ∀ u, u < 10 + 15 * (5 - m) → (nSub V (10 + 15 * (5 - m)) (cFresh (rl (5 - m)))).1 u = V.1 u ∧ (nSub V (10 + 15 * (5 - m)) (cFresh (rl (5 - m)))).2.1 u = V.2.1 u := fun u hu => ⟨if_neg (by omega), if_neg (by omega)⟩
      have ns2 : ∀ u, u < 15 → (nSub V (10 + 15 * (5 - m)) (cFresh (rl (5 - m)))).1 (10 + 15 * (5 - m) + u) = (cFresh (rl (5 - m))).1 u ∧ (nSub V (10 + 15 * (5 - m)) (cFresh (rl (5 - m)))).2.1 (10 + 15 * (5 - m) + u) = (cFresh (rl (5 - m))).2 u := fun u hu => by
        refine ⟨?_, ?_⟩
        · show (if 10 + 15 * (5 - m) ≤ 10 + 15 * (5 - m) + u ∧ 10 + 15 * (5 - m) + u < 10 + 15 * (5 - m) + 15 then (cFresh (rl (5 - m))).1 (10 + 15 * (5 - m) + u - (10 + 15 * (5 - m))) else _) = _
          rw [if_pos (by omega), show 10 + 15 * (5 - m) + u - (10 + 15 * (5 - m)) = u by omega]
        · show (if 10 + 15 * (5 - m) ≤ 10 + 15 * (5 - m) + u ∧ 10 + 15 * (5 - m) + u < 10 + 15 * (5 - m) + 15 then (cFresh (rl (5 - m))).2 (10 + 15 * (5 - m) + u - (10 + 15 * (5 - m))) else _) = _
          rw [if_pos (by omega), show 10 + 15 * (5 - m) + u - (10 + 15 * (5 - m)) = u by omega]
      have np : ∀ u, u ≠ 24 → (nP (nSub V (10 + 15 * (5 - m)) (cFresh (rl (5 - m)))) 24 (5 - m) (some (B + (10 + 15 * (5 - m))))).2.2.1 u = V.2.2.1 u := fun u hu => z2_n1 hu
      refine ⟨fun u hu => ?_, (v_l 24 (by omega)).2.2.2.1.trans k24, (v_l 24 (by omega)).2.2.2.2.trans z24, fun j hj => ?_, fun j hj u hu => ?_⟩
      · obtain ⟨b1, b2, b3, b4⟩ := a0 u hu
        obtain ⟨w1, w2, w3, w4, w5⟩ := v_l u (by omega)
        exact ⟨(ns1 u (by omega)).1.trans (w1.trans b1), (np u (by omega)).trans (w3.trans b2), w4.trans b3, w5.trans b4⟩
      · by_cases q : j = 5 - m
        · rw [q, hccB]
          exact z2_eq
        · refine (z2_n2 q).trans ?_
          rw [show (nSub V (10 + 15 * (5 - m)) (cFresh (rl (5 - m)))).2.2.1 = V.2.2.1 from rfl, (v_l 24 (by omega)).2.2.1]
          exact a3 j (by omega)
      · by_cases q : j = 5 - m
        · obtain ⟨w1, w2, w3, w4, w5⟩ := v_r u
          rw [q, hcc, hccB]
          exact ⟨(ns2 u hu).1, (ns2 u hu).2, (np _ (by omega)).trans w3, w4, w5⟩
        · have hlt1 : cc 0 j + u < 10 + 15 * (5 - m) := by unfold cc; split <;> omega
          have hne24 : cc 0 j + u ≠ 24 := by unfold cc; split <;> omega
          obtain ⟨w1, w2, w3, w4, w5⟩ := v_l (cc 0 j + u) hlt1
          obtain ⟨b1, b2, b3, b4, b5⟩ := a4 j (by omega) u hu
          exact ⟨(ns1 _ hlt1).1.trans (w1.trans b1), (ns1 _ hlt1).2.trans (w2.trans b2), (np _ hne24).trans (w3.trans b3), w4.trans b4, w5.trans b5⟩
    obtain ⟨W', f1, f2⟩ := i_48 d m _ (c + 1 + 14) (s + 20 + 533) (by omega) hN
    refine ⟨W', ?_, f2⟩
    have sh : 10 + 15 * (5 - m) + 15 = 10 + 15 * (6 - m) := by omega
    rw [e_X0_init_48, nW_ck k0 (by omega), n_P0 (by omega), p3, x_rf, lt_al_t (by show 1 ≤ mK (nW M B (10 + 15 * (5 - m)) W c s) (B + 24) ∧ mK (nW M B (10 + 15 * (5 - m)) W c s) (B + 24) ≤ 9; omega), hz, if_pos hlt, if_neg hne, n_new1 (B := B + (10 + 15 * (5 - m))) (by rfl), x_m, nW_N, i_cache (d + 1), lt_bv_r, nW_cat]
    refine Eq.trans e75 ?_
    rw [sh, e6', f1, show c + 1 + 14 + 15 * m = c + 15 * (m + 1) by omega, show s + 20 + 533 + 553 * m = s + 553 * (m + 1) by omega]
theorem i_bench0 (d : Nat) : f_X0_init (d + 4) (nW M B 1 (nNew n0 0 16 0) c s) B = f_X0_init_48 (d + 4) (nW M B 25 (b4Blk B) (c + 24) (s + 1544)) B 0 := by
  rw [e_X0_init, n_new1 (B := B + 1) (by rfl), x_m, nW_N, i_keys (d + 1), nW_cat, lt_bv_r, nW_ck (by rfl) (by omega), n_wP0 (by omega), x_m,
    n_new1 (B := B + 5) (by rfl), x_m, nW_N, i_row (d + 2), nW_cat, lt_bv_r, nW_ck (by rfl) (by omega), n_wP0 (by omega), x_m,
    n_new1 (B := B + 9) (by rfl), x_m, nW_N, i_cache (d + 1), nW_cat, lt_bv_r, nW_ck (by rfl) (by omega), n_wP0 (by omega), x_m]
  simp only [ltn_6]
  rw [ln_6, n_new, x_m, nW_ck (by rfl) (by omega), nW_N, n_wP0 (by omega), x_m]
  rfl
theorem b4_9 : ∀ u, u < 15 → (b4Blk B).1 (9 + u) = (fun _ => 0) ∧ (b4Blk B).2.1 (9 + u) = (fun _ => 0) ∧ (b4Blk B).2.2.1 (9 + u) = (cBlk (B + 9)).2.2.1 u ∧ (b4Blk B).2.2.2.1 (9 + u) = (cBlk (B + 9)).2.2.2.1 u ∧ (b4Blk B).2.2.2.2 (9 + u) = (cBlk (B + 9)).2.2.2.2 u := by
  intro u hu
  have hb := cBlk_0 (A := B + 9)
  have q : ¬ 9 + u < 9 := by omega
  have e : 9 + u - 9 = u := by omega
  have q24 : 9 + u ≠ 24 := by omega
  have q0 : 9 + u ≠ 0 := by omega
  refine ⟨?_, ?_, ?_, ?_, ?_⟩
  · show u1 _ 24 _ (9 + u) = _
    rw [u1_n q24]
    show (if 9 + u < 9 then _ else (cBlk (B + 9)).1 (9 + u - 9)) = _
    rw [if_neg q, hb.1]
  · show u1 _ 24 _ (9 + u) = _
    rw [u1_n q24]
    show (if 9 + u < 9 then _ else (cBlk (B + 9)).2.1 (9 + u - 9)) = _
    rw [if_neg q, hb.2]
  · show u2 (u1 _ 24 _) 0 3 _ (9 + u) = _
    rw [z2_n1 q0, u1_n q24]
    show u2 _ 0 2 _ (9 + u) = _
    rw [z2_n1 q0]
    show (if 9 + u < 9 then _ else (cBlk (B + 9)).2.2.1 (9 + u - 9)) = _
    rw [if_neg q, e]
  · show u1 _ 24 _ (9 + u) = _
    rw [u1_n q24]
    show (if 9 + u < 9 then _ else (cBlk (B + 9)).2.2.2.1 (9 + u - 9)) = _
    rw [if_neg q, e]
  · show u1 _ 24 _ (9 + u) = _
    rw [u1_n q24]
    show (if 9 + u < 9 then _ else (cBlk (B + 9)).2.2.2.2 (9 + u - 9)) = _
    rw [if_neg q, e]
theorem i_first (d : Nat) : f_X0_init_48 (d + 4) (nW M B 25 (b4Blk B) c s) B 0 = f_X0_init_48 (d + 4) (nW M B 25 (nP (nSub (b4Blk B) 9 (cFresh (rl 0))) 24 0 (some (B + 9))) c s) B 1 ∧ NB B 1 (nP (nSub (b4Blk B) 9 (cFresh (rl 0))) 24 0 (some (B + 9))) := by
  have hz : mZ (nW M B 25 (b4Blk B) c s) (B + 24) = 6 := by rw [n_Z (by omega)]; rfl
  have hk : mK (nW M B 25 (b4Blk B) c s) (B + 24) = 6 := by rw [n_K (by omega)]; rfl
  have e75 := i_75 (M := M) (B := B) (n := 25) (W := b4Blk B) (i := 0) (t := 9) (c := c) (s := s) d (by omega) rfl rfl (by omega) rfl rfl (by omega) (fun u hu => (b4_9 u hu).2.2) (fun u hu => (b4_9 u hu).1) (fun u hu => (b4_9 u hu).2.1)
  refine ⟨?_, ?_⟩
  · rw [e_X0_init_48, nW_ck (by rfl) (by omega), n_P0 (by omega), show (b4Blk B).2.2.1 0 3 = some (B + 24) from rfl, x_rf, lt_al_t (by show 1 ≤ mK (nW M B 25 (b4Blk B) c s) (B + 24) ∧ mK (nW M B 25 (b4Blk B) c s) (B + 24) ≤ 9; omega), hz, if_pos (by decide), if_pos rfl, nW_ck (by rfl) (by omega), n_P0 (by omega), show (b4Blk B).2.2.1 0 2 = some (B + 9) from rfl, x_rf]
    exact e75
  · refine ⟨fun u hu => ⟨if_neg (by omega), z2_n1 (by omega), rfl, rfl⟩, rfl, rfl, fun j hj => ?_, fun j hj u hu => ?_⟩
    · have : j = 0 := by omega
      subst this
      rfl
    · have : j = 0 := by omega
      subst this
      obtain ⟨c1, c2, c3, c4, c5⟩ := b4_9 (B := B) u hu
      have e : 9 + u - 9 = u := by omega
      refine ⟨?_, ?_, (z2_n1 (by rw [cc_0]; omega)).trans (by rw [cc_0]; exact c3), c4, c5⟩
      · show (if 9 ≤ 0 + 9 + u ∧ 0 + 9 + u < 9 + 15 then (cFresh (rl 0)).1 (0 + 9 + u - 9) else _) = _
        rw [if_pos (by omega), show 0 + 9 + u - 9 = u by omega]
      · show (if 9 ≤ 0 + 9 + u ∧ 0 + 9 + u < 9 + 15 then (cFresh (rl 0)).2 (0 + 9 + u - 9) else _) = _
        rw [if_pos (by omega), show 0 + 9 + u - 9 = u by omega]
/-- a bench made -/
theorem b_init (d : Nat) : ∃ W', f_X0_init (d + 4) (nW M B 1 (nNew n0 0 16 0) c s) B = some (.inl none, nW M B 100 W' (c + 99) (s + 4309)) ∧ NB B 6 W' := by
  obtain ⟨h1, h2⟩ := i_first (M := M) (B := B) (c := c + 24) (s := s + 1544) d
  obtain ⟨W', h3, h4⟩ := i_48 (M := M) (B := B) d 5 _ (c + 24) (s + 1544) (Nat.le_refl _) h2
  refine ⟨W', ?_, h4⟩
  rw [i_bench0, h1]
  exact h3
/-- the fresh bench's contents -/
def bFresh : BT := (fun t => if t = 2 ∨ t = 3 then (fun j => if j < 26 then 1 else 0) else fun _ => 0, fun i => cFresh (rl i))
theorem NB_head (h : NB B 6 W) : ∀ u, u < 9 → W.1 u = bFresh.1 u ∧ W.2.2.1 u = (b4Blk B).2.2.1 u ∧ W.2.2.2.1 u = (b4Blk B).2.2.2.1 u ∧ W.2.2.2.2 u = (b4Blk B).2.2.2.2 u := by
  intro u hu
  obtain ⟨a1, a2, a3, a4⟩ := h.1 u hu
  refine ⟨a1.trans ?_, a2, a3, a4⟩
  rcases (show u = 0 ∨ u = 1 ∨ u = 2 ∨ u = 3 ∨ u = 4 ∨ u = 5 ∨ u = 6 ∨ u = 7 ∨ u = 8 by omega) with e | e | e | e | e | e | e | e | e <;> subst e <;> rfl
theorem NB_bA (h : NB B 6 W) : bA (nW M B 100 W c s) B := by
  have hh := NB_head h
  obtain ⟨-, k24, z24, a3, a4⟩ := h
  have kk : ∀ u, u < 9 → mK (nW M B 100 W c s) (B + u) = (b4Blk B).2.2.2.1 u := fun u hu => by
    rw [n_K (by omega), (hh u hu).2.2.1]
  have zz : ∀ u, u < 9 → mZ (nW M B 100 W c s) (B + u) = (b4Blk B).2.2.2.2 u := fun u hu => by
    rw [n_Z (by omega), (hh u hu).2.2.2]
  have pp : ∀ u, u < 9 → ∀ j, mP (nW M B 100 W c s) (B + u) j = (b4Blk B).2.2.1 u j := fun u hu j => by
    rw [n_P (by omega), (hh u hu).2.1]
  have ai : ∀ u m, u < 9 → (b4Blk B).2.2.2.1 u = 1 → (b4Blk B).2.2.2.2 u = m → m ≤ 2147483647 → aI (nW M B 100 W c s) (B + u) m := fun u m hu h1 h2 h3 => ⟨by rw [kk u hu, h1], by rw [zz u hu, h2], by omega⟩
  refine ⟨kk 0 (by omega), pp 0 (by omega) 0, pp 0 (by omega) 1, pp 0 (by omega) 2, pp 0 (by omega) 3, ⟨kk 1 (by omega), pp 1 (by omega) 0, pp 1 (by omega) 1, pp 1 (by omega) 2, ai 2 26 (by omega) rfl rfl (by omega), ai 3 26 (by omega) rfl rfl (by omega), ai 4 26 (by omega) rfl rfl (by omega)⟩, ⟨kk 5 (by omega), pp 5 (by omega) 0, pp 5 (by omega) 1, pp 5 (by omega) 2, ai 6 300 (by omega) rfl rfl (by omega), ai 7 300 (by omega) rfl rfl (by omega), ai 8 300 (by omega) rfl rfl (by omega)⟩, by rw [n_K (by omega), k24], by rw [n_Z (by omega), z24], fun i hi => ⟨by rw [n_P (by omega), a3 i hi], ?_⟩⟩
  rw [cc_0B]
  have hle : cc 0 i + 15 ≤ 100 := by have := (cc_ge (B := 0) hi).2; omega
  refine cA_blk hle (fun u hu => ?_)
  rw [← cc_0B]
  exact (a4 i hi u hu).2.2
end Nc
