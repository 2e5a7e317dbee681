/-! THE LAW'S OWN CACHE, hits(), some(): the class's own cells are left alone -/
def GX (P : Nat → Prop) (c s : Nat) (M M' : LM) : Prop := FX P c s M M' ∧ ∀ a, 2 ≤ a → a < 124 → a < mN M → ¬ P a → mI M' a = mI M a
section Ga
variable {M M' N : LM} {P Q : Nat → Prop} {c s c' s' o i k n m : Nat} {x : Int32}
theorem GX.rf : GX P 0 0 M M := ⟨FX.rf, fun _ _ _ _ _ => rfl⟩
theorem GX.tr (h : GX P c s M M') (g : GX P c' s' M' N) : GX P (c + c') (s + s') M N := ⟨h.1.tr g.1, fun a h1 h2 h3 h4 => (g.2 a h1 h2 (Nat.lt_of_lt_of_le h3 h.1.1) h4).trans (h.2 a h1 h2 h3 h4)⟩
theorem GX.mo (h : GX P c s M M') (hp : ∀ a, a < mN M → P a → Q a) (hc : c ≤ c') (hs : s ≤ s') : GX Q c' s' M M' := ⟨h.1.mo hp hc hs, fun a h1 h2 h3 h4 => h.2 a h1 h2 h3 (fun q => h4 (hp a h3 q))⟩
theorem GX_wI (hp : P o) : GX P 0 0 M (wI M o i x) := ⟨FX_wI hp, fun a _ _ _ h4 => mI_wI_ne (fun e => h4 (by rw [e]; exact hp))⟩
theorem GX_new (h : 103 < mN M) : GX P 1 m M (aNew M k n m) := ⟨FX_new h, fun a _ _ h3 _ => if_neg (Nat.ne_of_lt h3)⟩
end Ga
section Gb
variable {M M' M0 M1 N : LM} {D i j k t w f n c e r a o m s y key h p z ru ro u nk nb c' s' : Nat} {x v b1 b2 : Int32} {b : Bool} {T T' T2 : BT} {R : Nat → BT} {sz K K' : Nat → Nat} {B B' : Nat → Bool} {q : PQ} {Z : Option (LO × LM)}
theorem gout_32 (d : Nat) {pl : Nat} : ∀ (n k : Nat) (M : LM) (K' : Nat → Nat) (B' : Nat → Bool), k + n = m → m + 1 ≤ 26 → pl ≤ k → LW M T R c → PLN M p z ru ro sz m u h (m + 1) (m + 1) K' B' → (∀ j, j < m + 1 → K' j = (if j < k then shK pl K j else K j) ∧ B' j = (if j < k then shK pl B j else B j)) →
    ∃ M', f_X12_out_32 (d + 1) M p (nI k) = some (.inl none, M') ∧ LW M' T R c ∧ GX (PRg p) 0 0 M M' ∧ PLN M' p z ru ro sz m u h m m (shK pl K) (shK pl B)
  | 0, k, M, K', B', hk, hm, hp, hL, H, hE => by
    refine ⟨M, by rw [e_X12_out_32, H.ck, H.ff.2.2.1, if_neg (by rw [nI_ltP (by omega) (by omega)]; omega)], hL, GX.rf, ?_⟩
    obtain ⟨h1, h2, h3, h4, h5, h6, h7, h8, h9, h10, h11, h12⟩ := H
    exact ⟨h1, h2, h3, h4, h5, h6, h7, h8, fun j hj => by rw [h9 j (by omega), (hE j (by omega)).1, if_pos (by omega)], fun j hj => by rw [h10 j (by omega), (hE j (by omega)).2, if_pos (by omega)], h11, h12⟩
  | n + 1, k, M, K', B', hk, hm, hp, hL, H, hE => by
    have vk : mI M (p + 1) (lt_n (nI (k + 1))) = nI (K' (k + 1)) := H.rk (by omega) (by omega)
    have e1 := nI_p1 (a := k)
    let M1 := wI M (p + 1) k (nI (K' (k + 1)))
    have L1 : LW M1 T R c := LW_wI hL H.oo.2.1
    have F1 : GX (PRg p) 0 0 M M1 := GX_wI (P := PRg p) (by unfold PRg; omega)
    have H1 : PLN M1 p z ru ro sz m u h (m + 1) (m + 1) (fun j => if j = k then K' (k + 1) else K' j) B' := H.wk (fun j hj => by
      by_cases w : j = k
      · exact Or.inl ⟨w, if_pos w⟩
      · exact Or.inr ⟨w, hj, if_neg w⟩)
    have vb : mI M1 (p + 2) (lt_n (nI (k + 1))) = bI (B' (k + 1)) := H1.rb (by omega) (by omega)
    let M2 := wI M1 (p + 2) k (bI (B' (k + 1)))
    have L2 : LW M2 T R c := LW_wI L1 H1.oo.2.2
    have F2 : GX (PRg p) 0 0 M1 M2 := GX_wI (P := PRg p) (by unfold PRg; omega)
    have H2 : PLN M2 p z ru ro sz m u h (m + 1) (m + 1) (fun j => if j = k then K' (k + 1) else K' j) (fun j => if j = k then B' (k + 1) else B' j) := H1.wb (fun j hj => by
      by_cases w : j = k
      · exact Or.inl ⟨w, if_pos w⟩
      · exact Or.inr ⟨w, hj, if_neg w⟩)
    obtain ⟨M', g1, g2, g3, g4⟩ := gout_32 (pl := pl) d n (k + 1) M2 _ _ (by omega) hm (by omega) L2 H2 (fun j hj => by
      have hj1 := hE j hj
      have hk1 := hE (k + 1)
      by_cases w : j = k
      · have := hk1 (by omega)
        rw [if_neg (show ¬ k + 1 < k by omega), if_neg (show ¬ k + 1 < k by omega)] at this
        rw [if_pos w, if_pos w, if_pos (show j < k + 1 by omega), if_pos (show j < k + 1 by omega), this.1, this.2, w]
        unfold shK
        rw [if_neg (by omega), if_neg (by omega)]
        exact ⟨rfl, rfl⟩
      · rw [if_neg w, if_neg w]
        by_cases w2 : j < k
        · rw [if_pos w2, if_pos w2] at hj1
          rw [if_pos (show j < k + 1 by omega), if_pos (show j < k + 1 by omega)]
          exact hj1
        · rw [if_neg w2, if_neg w2] at hj1
          rw [if_neg (show ¬ j < k + 1 by omega), if_neg (show ¬ j < k + 1 by omega)]
          exact hj1)
    refine ⟨M', ?_, g2, (F1.tr F2).tr g3, g4⟩
    rw [e_X12_out_32, H.ck, H.ff.2.2.1, if_pos (by rw [nI_ltP (by omega) (by omega)]; omega), H.ck, H.p3, x_rf, H.ck, x_rf, e1, H.ak (by omega), H.ak (by omega), vk, x_m, lt_iN (by omega)]
    show lt_ck M1 p 28 (lt_rf (mP M1 p 4) fun q8 => lt_ck M1 p 28 (lt_rf (mP M1 p 4) fun q9 => lt_ar M1 q9 3 (nI (k + 1)) (lt_ar M1 q8 3 (nI k) (lt_b1 (mI M1 q9 (lt_n (nI (k + 1)))) (lt_m (wI M1 q8 k (mI M1 q9 (lt_n (nI (k + 1))))) fun M10 => f_X12_out_32 (d + 1) M10 p (nI (k + 1))))))) = _
    rw [H1.ck, H1.p4, x_rf, H1.ck, x_rf, H1.ab (by omega), H1.ab (by omega), vb, b1_I, x_m]
    exact g1
theorem gp_out (d : Nat) {pl : Nat} (hL : LW M T R c) (H : PLQ M p z ru ro sz q) (hv : PV ro sz q) (hro : ro ≤ 20) (hm : q.1 ≤ 26) (hp : pl < q.1) (hz : ∀ k, k < 26 → 1 ≤ sz k) : ∃ M', f_X12_out (d + 1) M p (nI pl) = some (.inl none, M') ∧ LW M' T R c ∧ GX (PRg p) 0 0 M M' ∧ PLQ M' p z ru ro sz (pOutQ sz q pl) := by
  obtain ⟨m, K, B, u, h⟩ := q
  have hu := (PV_out hv hp).2.1
  have hK := hv.2.2 pl hp
  have hur := hv.2.1
  have H' : PLN M p z ru ro sz m u h m m K B := H
  have hp' : pl < m := hp
  have hu' : sz (K pl) ≤ u := hu
  have hm' : m ≤ 26 := hm
  have hK' : K pl < 26 := hK
  obtain ⟨m', em⟩ : ∃ m', m = m' + 1 := ⟨m - 1, by omega⟩
  have vk : mI M (p + 1) (lt_n (nI pl)) = nI (K pl) := H'.rk hp' (by omega)
  have vs : mI M z (lt_n (nI (K pl))) = nI (sz (K pl)) := H'.ss.rd hK'
  have e6 : mI M p 6 - nI (sz (K pl)) = nI (u - sz (K pl)) := by rw [H'.ff.2.2.2.1, nI_sub hu']
  let M1 := wI M p 6 (nI (u - sz (K pl)))
  have L1 : LW M1 T R c := LW_wI hL H'.oo.1
  have F1 : GX (PRg p) 0 0 M M1 := GX_wI (P := PRg p) (by unfold PRg; omega)
  have H1 : PLN M1 p z ru ro sz m (u - sz (K pl)) h m m K B := H'.wf (Or.inr (Or.inl ⟨rfl, rfl, rfl, rfl⟩))
  have e5 : mI M1 p 5 - 1 = nI m' := by rw [H1.ff.2.2.1, em]; exact nI_sub (b := 1) (by omega)
  let M2 := wI M1 p 5 (nI m')
  have L2 : LW M2 T R c := LW_wI L1 H1.oo.1
  have F2 : GX (PRg p) 0 0 M1 M2 := GX_wI (P := PRg p) (by unfold PRg; omega)
  have H2 : PLN M2 p z ru ro sz m' (u - sz (K pl)) h (m' + 1) (m' + 1) K B := by rw [← em]; exact H1.wf (Or.inl ⟨rfl, rfl, rfl, rfl⟩)
  obtain ⟨M', g1, g2, g3, g4⟩ := gout_32 (K := K) (B := B) (pl := pl) d (m' - pl) pl M2 K B (by omega) (by omega) (Nat.le_refl _) L2 H2 (fun j hj => by
    unfold shK
    by_cases w : j < pl
    · rw [if_pos w, if_pos w, if_pos w, if_pos w]; exact ⟨rfl, rfl⟩
    · rw [if_neg w, if_neg w]; exact ⟨rfl, rfl⟩)
  refine ⟨M', ?_, g2, (F1.tr F2).tr g3, ?_⟩
  · rw [e_X12_out, H'.ck, H'.ck, H'.p2, x_rf, H'.ck, H'.p3, x_rf, H'.ak (by omega), vk, H'.ss.ar hK', H'.ck, vs, e6, x_m]
    show lt_ck M1 p 28 (lt_ck M1 p 28 (lt_m (wI M1 p 5 (mI M1 p 5 - 1)) fun M4 => f_X12_out_32 (d + 1) M4 p (nI pl))) = _
    rw [H1.ck, H1.ck, e5, x_m]
    exact g1
  · show PLN M' p z ru ro sz (m - 1) (u - sz (K pl)) h (m - 1) (m - 1) (shK pl K) (shK pl B)
    rw [show m - 1 = m' by omega]
    exact g4
theorem gp_in (d : Nat) (hL : LW M T R c) (H : PLQ M p z ru ro sz q) (hm : q.1 < 26) (hk : key < 26) : ∃ M', f_X12_in (d + 1) M p (nI key) = some (.inl none, M') ∧ LW M' T R c ∧ GX (PRg p) 0 0 M M' ∧ PLQ M' p z ru ro sz (pInQ sz key q) := by
  obtain ⟨m, K, B, u, h⟩ := q
  have H0 : PLN M p z ru ro sz m u h m m K B := H
  have hm' : m < 26 := hm
  have pr : ∀ a, a = p ∨ a = p + 1 ∨ a = p + 2 → PRg p a := fun a ha => by unfold PRg; omega
  have H1 : PLN (wI M (p + 1) m (nI key)) p z ru ro sz m u h (m + 1) m (u1 K m key) B := H0.wk (fun j hj => by
    by_cases w : j = m
    · exact Or.inl ⟨w, by rw [w, u1e]⟩
    · exact Or.inr ⟨w, by omega, u1_n w⟩)
  have L1 : LW (wI M (p + 1) m (nI key)) T R c := LW_wI hL H0.oo.2.1
  have F1 : GX (PRg p) 0 0 M (wI M (p + 1) m (nI key)) := GX_wI (P := PRg p) (pr _ (by omega))
  rw [e_X12_in, H0.ck, H0.p3, x_rf, H0.ck, H0.ff.2.2.1, H0.ak hm', x_m, lt_iN (by omega)]
  generalize wI M (p + 1) m (nI key) = M1 at H1 L1 F1 ⊢
  have H2 : PLN (wI M1 (p + 2) m (bI false)) p z ru ro sz m u h (m + 1) (m + 1) (u1 K m key) (u1 B m false) := H1.wb (fun j hj => by
    by_cases w : j = m
    · exact Or.inl ⟨w, by rw [w, u1e]⟩
    · exact Or.inr ⟨w, by omega, u1_n w⟩)
  have L2 : LW (wI M1 (p + 2) m (bI false)) T R c := LW_wI L1 H1.oo.2.2
  have F2 : GX (PRg p) 0 0 M (wI M1 (p + 2) m (bI false)) := F1.tr (GX_wI (P := PRg p) (pr _ (by omega)))
  have e0 : bI false = 0 := rfl
  rw [H1.ck, H1.p4, x_rf, H1.ck, H1.ff.2.2.1, H1.ab hm', lt_iN (by omega), ← e0, b1_I, x_m]
  generalize wI M1 (p + 2) m (bI false) = M2 at H2 L2 F2 ⊢
  have H3 : PLN (wI M2 p 5 (nI (m + 1))) p z ru ro sz (m + 1) u h (m + 1) (m + 1) (u1 K m key) (u1 B m false) := H2.wf (Or.inl ⟨rfl, rfl, rfl, rfl⟩)
  have L3 : LW (wI M2 p 5 (nI (m + 1))) T R c := LW_wI L2 H2.oo.1
  have F3 : GX (PRg p) 0 0 M (wI M2 p 5 (nI (m + 1))) := F2.tr (GX_wI (P := PRg p) (pr _ (by omega)))
  rw [H2.ck, H2.ck, H2.ff.2.2.1, nI_p1, x_m]
  generalize wI M2 p 5 (nI (m + 1)) = M3 at H3 L3 F3 ⊢
  have vs : mI M3 z (lt_n (nI key)) = nI (sz key) := H3.ss.rd hk
  have H4 : PLN (wI M3 p 6 (nI (u + sz key))) p z ru ro sz (m + 1) (u + sz key) h (m + 1) (m + 1) (u1 K m key) (u1 B m false) := H3.wf (Or.inr (Or.inl ⟨rfl, rfl, rfl, rfl⟩))
  have L4 : LW (wI M3 p 6 (nI (u + sz key))) T R c := LW_wI L3 H3.oo.1
  have F4 : GX (PRg p) 0 0 M (wI M3 p 6 (nI (u + sz key))) := F3.tr (GX_wI (P := PRg p) (pr _ (by omega)))
  rw [H3.ck, H3.ck, H3.p2, x_rf, H3.ss.ar hk, H3.ck, H3.ff.2.2.2.1, vs, lt_iA, x_m]
  exact ⟨_, rfl, L4, F4, H4⟩
end Gb
section Gc
variable {M M' M0 M1 N : LM} {D i j k t w f n c e r a o m s y key h p z ru ro u nk nb c' s' : Nat} {x v b1 b2 : Int32} {b : Bool} {T T' T2 : BT} {R : Nat → BT} {sz K K' : Nat → Nat} {B B' : Nat → Bool} {q : PQ} {Z : Option (LO × LM)}
theorem gask_84 (d : Nat) (hz : ∀ k, k < 26 → 1 ≤ sz k ∧ sz k ≤ 8) (hk : key < 26) (hro : ro ≤ 20) (hru : ru < 10) (hf : sz key ≤ ro) : ∀ (n : Nat) (q : PQ) (M : LM), LW M T R c → PLQ M p z ru ro sz q → PV ro sz q → cMk q + q.1 ≤ n →
    ∃ M', f_X12_ask_84 (d + 2) M p (nI key) = some (.inl none, M') ∧ LW M' T R c ∧ GX (PRg p) 0 0 M M' ∧ PLQ M' p z ru ro sz (pInQ sz key (pShQ ru ro sz key n q)) ∧ PV ro sz (pInQ sz key (pShQ ru ro sz key n q)) := by
  intro n
  have z1 : ∀ k, k < 26 → 1 ≤ sz k := fun k hk => (hz k hk).1
  have zk := (hz key hk).2
  -- it fits
  have fin : ∀ (q : PQ) (M : LM), LW M T R c → PLQ M p z ru ro sz q → PV ro sz q → ¬ ro < q.2.2.2.1 + sz key → ∃ M', f_X12_ask_84 (d + 2) M p (nI key) = some (.inl none, M') ∧ LW M' T R c ∧ GX (PRg p) 0 0 M M' ∧ PLQ M' p z ru ro sz (pInQ sz key q) ∧ PV ro sz (pInQ sz key q) := by
    intro q M hL H hv hn
    have hm := PV_m z1 hv
    have hu := hv.2.1
    obtain ⟨M', e1, e2, e3, e4⟩ := gp_in (key := key) (d := d) hL H (by omega) hk
    have H' : PLN M p z ru ro sz q.1 q.2.2.2.1 q.2.2.2.2 q.1 q.1 q.2.1 q.2.2.1 := H
    have vs : mI M z (lt_n (nI key)) = nI (sz key) := H'.ss.rd hk
    refine ⟨M', ?_, e2, e3, e4, (PV_in hv hk (by omega)).1⟩
    rw [e_X12_ask_84, H'.ck, H'.ck, H'.p2, x_rf, H'.ss.ar hk, H'.ck, H'.ff.2.1, H'.ff.2.2.2.1, vs, lt_iA, if_neg (by rw [nI_ltP (by omega) (by omega)]; exact hn), H'.ck, e1, lt_bv_r]
  induction n with
  | zero =>
    intro q M hL H hv hn
    have h0 : q.1 = 0 := by omega
    have hu : q.2.2.2.1 = 0 := by rw [hv.1, h0]; rfl
    exact fin q M hL H hv (by omega)
  | succ n ih =>
    intro q M hL H hv hn
    unfold pShQ
    by_cases hc : ro < q.2.2.2.1 + sz key
    · rw [if_pos hc]
      have hm := PV_m z1 hv
      have hu := hv.2.1
      have hm0 : 0 < q.1 := by
        by_cases w : q.1 = 0
        · have : q.2.2.2.1 = 0 := by rw [hv.1, w]; rfl
          omega
        · omega
      have H' : PLN M p z ru ro sz q.1 q.2.2.2.1 q.2.2.2.2 q.1 q.1 q.2.1 q.2.2.1 := H
      have vs : mI M z (lt_n (nI key)) = nI (sz key) := H'.ss.rd hk
      have v0 : mI M (p + 1) (lt_n 0) = nI (q.2.1 0) := H'.rk (j := 0) hm0 (by omega)
      have b0 : mI M (p + 2) (lt_n 0) = bI (q.2.2.1 0) := H'.rb (j := 0) hm0 (by omega)
      have a0 : ∀ {Z : Option (LO × LM)}, lt_ar M (p + 1) 1 0 Z = Z := H'.ak (j := 0) (by omega)
      have c0 : ∀ {Z : Option (LO × LM)}, lt_ar M (p + 2) 3 0 Z = Z := H'.ab (j := 0) (by omega)
      obtain ⟨M1, o1, o2, o3, o4⟩ := gp_out (pl := 0) (d := d) hL H hv hro (by omega) hm0 z1
      have o1' : f_X12_out (d + 1) M p 0 = _ := o1
      obtain ⟨w1, w2, w3⟩ := PV_out hv hm0
      have k0 := hv.2.2 0 hm0
      have mo : (pOutQ sz q 0).1 = q.1 - 1 := rfl
      -- the first goes for good
      have go : cMk (pOutQ sz q 0) + (pOutQ sz q 0).1 ≤ n → ¬ (ru = 3 ∧ q.2.2.1 0 = true) → ∃ M', f_X12_ask_84 (d + 2) M1 p (nI key) = some (.inl none, M') ∧ LW M' T R c ∧ GX (PRg p) 0 0 M M' ∧ PLQ M' p z ru ro sz (pInQ sz key (pShQ ru ro sz key n (if ru = 3 ∧ q.2.2.1 0 = true then pInQ sz (q.2.1 0) (pOutQ sz q 0) else pOutQ sz q 0))) ∧ PV ro sz (pInQ sz key (pShQ ru ro sz key n (if ru = 3 ∧ q.2.2.1 0 = true then pInQ sz (q.2.1 0) (pOutQ sz q 0) else pOutQ sz q 0))) := by
        intro hh hne
        obtain ⟨M', g1, g2, g3, g4, g5⟩ := ih (pOutQ sz q 0) M1 o2 o4 w1 hh
        rw [if_neg hne]
        exact ⟨M', g1, g2, o3.tr g3, g4, g5⟩
      have ms : cMk (pOutQ sz q 0) ≤ cMk q := by rw [← w3]; exact Nat.le_add_right _ _
      rw [e_X12_ask_84, H'.ck, H'.ck, H'.p2, x_rf, H'.ss.ar hk, H'.ck, H'.ff.2.1, H'.ff.2.2.2.1, vs, lt_iA, if_pos (by rw [nI_ltP (by omega) (by omega)]; exact hc), H'.ck, H'.p3, x_rf, a0, H'.ck, H'.ff.1]
      by_cases r3 : ru = 3
      · rw [if_pos (show nI ru = 3 by rw [r3]; rfl), H'.ck, H'.p4, x_rf, c0, b0]
        by_cases mk : q.2.2.1 0 = true
        · have e1 : q.2.1 0 < 26 := k0
          rw [mk, if_neg (by decide), H'.ck, o1', lt_bv_r, if_neg (by decide), v0]
          have w3' : cMk (pOutQ sz q 0) + 1 = cMk q := by rw [if_pos mk] at w3; exact w3
          obtain ⟨M2, i1, i2, i3, i4⟩ := gp_in (key := q.2.1 0) (d := d) o2 o4 (by omega) k0
          have fit : (pOutQ sz q 0).2.2.2.1 + sz (q.2.1 0) ≤ ro := by
            show q.2.2.2.1 - sz (q.2.1 0) + sz (q.2.1 0) ≤ ro
            omega
          obtain ⟨y1, y2⟩ := PV_in w1 k0 fit
          have mi : (pInQ sz (q.2.1 0) (pOutQ sz q 0)).1 = q.1 - 1 + 1 := rfl
          obtain ⟨M', g1, g2, g3, g4, g5⟩ := ih (pInQ sz (q.2.1 0) (pOutQ sz q 0)) M2 i2 i4 y1 (by omega)
          have H1 : lt_ck M1 p 28 (lt_bv (f_X12_in (d + 1) M1 p (nI (q.2.1 0))) [] fun M23 => f_X12_ask_84 (d + 2) M23 p (nI key)) = f_X12_ask_84 (d + 2) M2 p (nI key) := by
            rw [PLN.ck (show PLN M1 p z ru ro sz _ _ _ _ _ _ _ from o4), i1, lt_bv_r]
          refine ⟨M', H1.trans g1, g2, (o3.tr i3).tr g3, ?_, ?_⟩
          · rw [if_pos ⟨r3, rfl⟩]; exact g4
          · rw [if_pos ⟨r3, rfl⟩]; exact g5
        · have mk' : q.2.2.1 0 = false := by simpa using mk
          rw [mk', if_pos (show bI false = 0 from rfl), H'.ck, o1', lt_bv_r, if_pos rfl]
          rw [mk'] at go
          exact go (by omega) (fun w => by cases w.2)
      · rw [if_neg (show ¬ nI ru = 3 from fun w => r3 ((lt_iE (j := ru) (k := 3) (by omega) (by omega)).mp w)), H'.ck, o1', lt_bv_r, if_pos rfl]
        exact go (by omega) (fun w => r3 w.1)
    · rw [if_neg hc]
      exact fin q M hL H hv hc
theorem gp_ask (d : Nat) (hL : LW M T R c) (H : PLQ M p z ru ro sz q) (hv : PV ro sz q) (hz : ∀ k, k < 26 → 1 ≤ sz k ∧ sz k ≤ 8) (hk : key < 26) (hro : ro ≤ 20) (hru : ru < 10) (hh : q.2.2.2.2 < 1000) : ∃ M', f_X12_ask (d + 2) M p (nI key) = some (.inl none, M') ∧ LW M' T R c ∧ GX (PRg p) 0 0 M M' ∧ PLQ M' p z ru ro sz (pAskQ ru ro sz key q) ∧ PV ro sz (pAskQ ru ro sz key q) := by
  have z1 : ∀ k, k < 26 → 1 ≤ sz k := fun k hk => (hz k hk).1
  have hm := PV_m z1 hv
  have hu := hv.2.1
  have zk := (hz key hk).2
  have H' : PLN M p z ru ro sz q.1 q.2.2.2.1 q.2.2.2.2 q.1 q.1 q.2.1 q.2.2.1 := H
  have vs : mI M z (lt_n (nI key)) = nI (sz key) := H'.ss.rd hk
  have cm := cMk_le (q := q)
  have main : ∀ (n i : Nat), i + n = q.1 → fIx q.2.1 key q.1 0 = fIx q.2.1 key n i → ∃ M', f_X12_ask_2 (d + 2) M p (nI key) (nI i) = some (.inl none, M') ∧ LW M' T R c ∧ GX (PRg p) 0 0 M M' ∧ PLQ M' p z ru ro sz (pAskQ ru ro sz key q) ∧ PV ro sz (pAskQ ru ro sz key q) := by
    intro n
    induction n with
    | zero =>
      intro i hi he
      have e0 : fIx q.2.1 key q.1 0 = q.1 := by rw [he]; show i = q.1; omega
      rw [e_X12_ask_2, H'.ck, H'.ff.2.2.1, if_neg (by rw [nI_ltP (by omega) (by omega)]; omega), H'.ck, if_neg (by rw [nI_ltP (by omega) (by omega)]; omega), H'.ck, H'.p2, x_rf, H'.ss.ar hk, H'.ck, H'.ff.2.1, vs]
      unfold pAskQ
      dsimp only
      rw [e0, if_neg (Nat.lt_irrefl _)]
      by_cases f : ro < sz key
      · rw [if_pos (by rw [nI_ltP (by omega) (by omega)]; exact f), if_pos f]
        exact ⟨M, rfl, hL, GX.rf, H, hv⟩
      · rw [if_neg (by rw [nI_ltP (by omega) (by omega)]; exact f), if_neg f]
        exact gask_84 d hz hk hro hru (by omega) 60 q M hL H hv (by omega)
    | succ n ih =>
      intro i hi he
      have vk : mI M (p + 1) (lt_n (nI i)) = nI (q.2.1 i) := H'.rk (by omega) (by omega)
      have ki := hv.2.2 i (by omega)
      have l1 : nI i < nI q.1 := by rw [nI_ltP (by omega) (by omega)]; omega
      rw [e_X12_ask_2, H'.ck, H'.ff.2.2.1, if_pos l1, H'.ck, H'.p3, x_rf, H'.ak (by omega), vk]
      rw [fIx_s] at he
      by_cases w : q.2.1 i = key
      · rw [if_pos w] at he
        rw [if_pos (by rw [w]), H'.ck, if_pos l1, H'.ck, H'.ck, H'.ff.2.2.2.2, nI_p1, x_m]
        have pA : pAskQ ru ro sz key q = (if 0 < ru then ((q.1, q.2.1, u1 q.2.2.1 i true, q.2.2.2.1, q.2.2.2.2 + 1) : PQ) else pInQ sz key (pOutQ sz (q.1, q.2.1, u1 q.2.2.1 i true, q.2.2.2.1, q.2.2.2.2 + 1) i)) := by
          unfold pAskQ
          dsimp only
          have he' : fIx q.2.1 key q.1 0 = i := he
          rw [he', if_pos (by omega)]
        rw [pA]
        have H1 : PLN (wI M p 7 (nI (q.2.2.2.2 + 1))) p z ru ro sz q.1 q.2.2.2.1 (q.2.2.2.2 + 1) q.1 q.1 q.2.1 q.2.2.1 := H'.wf (Or.inr (Or.inr ⟨rfl, rfl, rfl, rfl⟩))
        have L1 : LW (wI M p 7 (nI (q.2.2.2.2 + 1))) T R c := LW_wI hL H'.oo.1
        have F1 : GX (PRg p) 0 0 M (wI M p 7 (nI (q.2.2.2.2 + 1))) := GX_wI (P := PRg p) (prg (by omega))
        generalize wI M p 7 (nI (q.2.2.2.2 + 1)) = M1 at H1 L1 F1 ⊢
        have e1 : bI true = 1 := rfl
        have H2 : PLN (wI M1 (p + 2) i (bI true)) p z ru ro sz q.1 q.2.2.2.1 (q.2.2.2.2 + 1) q.1 q.1 q.2.1 (u1 q.2.2.1 i true) := H1.wb (fun j hj => by
          by_cases w : j = i
          · exact Or.inl ⟨w, by rw [w, u1e]⟩
          · exact Or.inr ⟨w, hj, u1_n w⟩)
        have L2 : LW (wI M1 (p + 2) i (bI true)) T R c := LW_wI L1 H1.oo.2.2
        have F2 : GX (PRg p) 0 0 M (wI M1 (p + 2) i (bI true)) := F1.tr (GX_wI (P := PRg p) (prg (by omega)))
        rw [H1.ck, H1.p4, x_rf, H1.ab (by omega), ← e1, b1_I, lt_iN (by omega), x_m]
        generalize wI M1 (p + 2) i (bI true) = M2 at H2 L2 F2 ⊢
        have hv2 : PV ro sz ((q.1, q.2.1, u1 q.2.2.1 i true, q.2.2.2.1, q.2.2.2.2 + 1) : PQ) := hv
        rw [H2.ck, H2.ff.1]
        by_cases r0 : 0 < ru
        · rw [if_pos r0, if_pos (show (0 : Int32) < nI ru from (nI_ltP (j := 0) (k := ru) (by omega) (by omega)).mpr r0)]
          exact ⟨M2, rfl, L2, F2, H2, hv2⟩
        · rw [if_neg r0, if_neg (show ¬ (0 : Int32) < nI ru from fun z => r0 ((nI_ltP (j := 0) (k := ru) (by omega) (by omega)).mp z)), H2.ck]
          obtain ⟨M3, o1, o2, o3, o4⟩ := gp_out (q := (q.1, q.2.1, u1 q.2.2.1 i true, q.2.2.2.1, q.2.2.2.2 + 1)) (pl := i) (d := d) L2 H2 hv2 hro (show q.1 ≤ 26 by omega) (show i < q.1 by omega) z1
          obtain ⟨w1, w2, w3⟩ := PV_out (pl := i) hv2 (show i < q.1 by omega)
          obtain ⟨M4, i1, i2, i3, i4⟩ := gp_in (key := key) (d := d) o2 o4 (show q.1 - 1 < 26 by omega) hk
          have w2' : sz key ≤ q.2.2.2.1 := by
            have : sz (q.2.1 i) ≤ q.2.2.2.1 := w2
            rw [w] at this; exact this
          have y := PV_in w1 hk (show q.2.2.2.1 - sz (q.2.1 i) + sz key ≤ ro by rw [w]; omega)
          rw [o1, lt_bv_r, PLN.ck (show PLN M3 p z ru ro sz _ _ _ _ _ _ _ from o4), i1, lt_bv_r]
          exact ⟨M4, rfl, i2, (F2.tr o3).tr i3, i4, y.1⟩
      · rw [if_neg w] at he
        rw [if_neg (show ¬ nI (q.2.1 i) = nI key from fun z => w ((lt_iE (by omega) (by omega)).mp z)), nI_p1]
        exact ih (i + 1) (by omega) he
  obtain ⟨M', g⟩ := main q.1 0 (by omega) rfl
  refine ⟨M', ?_, g.2⟩
  rw [e_X12_ask]
  exact g.1
theorem gp_new (d : Nat) (hL : LW M T R c) (hA : AR M z 26 (fun k => nI (sz k))) : ∃ M', (lt_m (aNew M 28 0 8) fun M2 => f_X12_init (d + 1) M2 (mN M) (nI ru) (nI ro) z) = some (.inl none, M') ∧ LW M' T R c ∧ GX (fun _ => False) 3 60 M M' ∧ PLQ M' (mN M) z ru ro sz (0, fun _ => 0, fun _ => false, 0, 0) ∧ mN M' = mN M + 3 := by
  have hn := t_n hL.1.1
  have L1 : LW (aNew M 28 0 8) T R c := LW_new hL
  have F1 : GX (fun _ => False) 1 8 M (aNew M 28 0 8) := GX_new (by omega)
  have k1 : mK (aNew M 28 0 8) (mN M) = 28 := if_pos rfl
  have i1 : ∀ j, mI (aNew M 28 0 8) (mN M) j = 0 := fun j => congrFun (if_pos rfl : (if mN M = mN M then (fun _ => (0 : Int32)) else mI M (mN M)) = fun _ => 0) j
  have n1 : mN (aNew M 28 0 8) = mN M + 1 := rfl
  have o1 : ¬ OWN (aNew M 28 0 8) (mN M) := nOWN hL
  have A1 := hA.kp F1.1 (fun q => q)
  rw [x_m, e_X12_init, ln_26, ltn_26, x_m, n1]
  generalize aNew M 28 0 8 = Ma at L1 F1 k1 i1 n1 o1 A1 ⊢
  have L2 : LW (aNew Ma 1 26 26) T R c := LW_new L1
  have F2 : GX (fun _ => False) 2 34 M (aNew Ma 1 26 26) := F1.tr (GX_new (by omega))
  have f2 : GX (fun _ => False) 1 26 Ma (aNew Ma 1 26 26) := GX_new (by omega)
  have s2 : SAM Ma (aNew Ma 1 26 26) (mN M) := f2.1.2.2.1 (mN M) (by omega) o1 (by omega) (fun q => q)
  have a2 : AR (aNew Ma 1 26 26) (mN M + 1) 26 (fun _ => 0) := by rw [← n1]; exact AR_new L1 (by omega)
  have o2 : ¬ OWN (aNew Ma 1 26 26) (mN M) := fun q => o1 (f2.1.2.2.2.1 _ (by omega) q)
  have A2 := A1.kp f2.1 (fun q => q)
  have n2 : mN (aNew Ma 1 26 26) = mN M + 2 := by rw [nN_new, n1]
  have k2 : mK (aNew Ma 1 26 26) (mN M) = 28 := s2.2.2.2.1.trans k1
  have i2 : ∀ j, mI (aNew Ma 1 26 26) (mN M) j = 0 := fun j => by rw [s2.1]; exact i1 j
  generalize aNew Ma 1 26 26 = Mb at L2 F2 s2 a2 o2 A2 n2 k2 i2 ⊢
  -- a reference written
  have wp : ∀ {Mq : LM} {jj : Nat} {vv : Option Nat}, LW Mq T R c → ¬ OWN Mq (mN M) → LW (wP Mq (mN M) jj vv) T R c ∧ GX (fun a => a = mN M) 0 0 Mq (wP Mq (mN M) jj vv) := by
    intro Mq jj vv hq ho
    have hnq := t_n hq.1.1
    have g := LW_wP (j := jj) (v := vv) hq ho (show mN M ≠ 103 by omega)
    exact ⟨g.1, g.2, fun a _ _ _ _ => rfl⟩
  obtain ⟨L3, F3⟩ := wp (jj := 3) (vv := some (mN M + 1)) L2 o2
  have o3 : ¬ OWN (wP Mb (mN M) 3 (some (mN M + 1))) (mN M) := fun q => o2 (F3.1.2.2.2.1 _ (by omega) q)
  have a3 := a2.kp F3.1 (by omega)
  have A3 := A2.kp F3.1 (by have := hA.2.1; omega)
  have p33 : mP (wP Mb (mN M) 3 (some (mN M + 1))) (mN M) 3 = some (mN M + 1) := if_pos ⟨rfl, rfl⟩
  have k3 : mK (wP Mb (mN M) 3 (some (mN M + 1))) (mN M) = 28 := k2
  have i3 : ∀ j, mI (wP Mb (mN M) 3 (some (mN M + 1))) (mN M) j = 0 := i2
  have n3 : mN (wP Mb (mN M) 3 (some (mN M + 1))) = mN M + 2 := n2
  have F3' : GX (fun a => a = mN M) 2 34 M (wP Mb (mN M) 3 (some (mN M + 1))) := (F2.mo (fun _ _ q => q.elim) (Nat.le_refl _) (Nat.le_refl _)).tr F3
  rw [lt_ck_t k2, x_m, ln_26, x_m, n3]
  generalize wP Mb (mN M) 3 (some (mN M + 1)) = Mc at L3 F3' o3 a3 A3 p33 k3 i3 n3 ⊢
  have L4 : LW (aNew Mc 3 26 26) T R c := LW_new L3
  have f4 : GX (fun _ => False) 1 26 Mc (aNew Mc 3 26 26) := GX_new (by have := t_n L3.1.1; omega)
  have s4 : SAM Mc (aNew Mc 3 26 26) (mN M) := f4.1.2.2.1 (mN M) (by omega) o3 (by omega) (fun q => q)
  have o4 : ¬ OWN (aNew Mc 3 26 26) (mN M) := fun q => o3 (f4.1.2.2.2.1 _ (by omega) q)
  have a4 := a3.kp f4.1 (fun q => q)
  have A4 := A3.kp f4.1 (fun q => q)
  have b4 : mK (aNew Mc 3 26 26) (mN M + 2) = 3 ∧ mZ (aNew Mc 3 26 26) (mN M + 2) = 26 := by rw [← n3]; exact ⟨if_pos rfl, if_pos rfl⟩
  have ob4 : ¬ OWN (aNew Mc 3 26 26) (mN M + 2) := by rw [← n3]; exact nOWN L3
  have n4 : mN (aNew Mc 3 26 26) = mN M + 3 := by rw [nN_new, n3]
  have p43 : mP (aNew Mc 3 26 26) (mN M) 3 = some (mN M + 1) := by rw [s4.2.2.1]; exact p33
  have k4 : mK (aNew Mc 3 26 26) (mN M) = 28 := s4.2.2.2.1.trans k3
  have i4 : ∀ j, mI (aNew Mc 3 26 26) (mN M) j = 0 := fun j => by rw [s4.1]; exact i3 j
  have F4 : GX (fun a => a = mN M) 3 60 M (aNew Mc 3 26 26) := F3'.tr (f4.mo (fun _ _ q => q.elim) (Nat.le_refl _) (Nat.le_refl _))
  generalize aNew Mc 3 26 26 = Md at L4 s4 o4 a4 A4 b4 ob4 n4 p43 k4 i4 F4 ⊢
  obtain ⟨L5, F5⟩ := wp (jj := 4) (vv := some (mN M + 2)) L4 o4
  have o5 : ¬ OWN (wP Md (mN M) 4 (some (mN M + 2))) (mN M) := fun q => o4 (F5.1.2.2.2.1 _ (by omega) q)
  have ob5 : ¬ OWN (wP Md (mN M) 4 (some (mN M + 2))) (mN M + 2) := fun q => ob4 (F5.1.2.2.2.1 _ (by omega) q)
  have a5 := a4.kp F5.1 (by omega)
  have A5 := A4.kp F5.1 (by have := hA.2.1; omega)
  have p54 : mP (wP Md (mN M) 4 (some (mN M + 2))) (mN M) 4 = some (mN M + 2) := if_pos ⟨rfl, rfl⟩
  have p53 : mP (wP Md (mN M) 4 (some (mN M + 2))) (mN M) 3 = some (mN M + 1) := (if_neg (fun w => by omega)).trans p43
  have k5 : mK (wP Md (mN M) 4 (some (mN M + 2))) (mN M) = 28 := k4
  have i5 : ∀ j, mI (wP Md (mN M) 4 (some (mN M + 2))) (mN M) j = 0 := i4
  have b5 : mK (wP Md (mN M) 4 (some (mN M + 2))) (mN M + 2) = 3 ∧ mZ (wP Md (mN M) 4 (some (mN M + 2))) (mN M + 2) = 26 := b4
  have n5 : mN (wP Md (mN M) 4 (some (mN M + 2))) = mN M + 3 := n4
  rw [lt_ck_t k4, x_m]
  have F5' := F4.tr F5
  generalize wP Md (mN M) 4 (some (mN M + 2)) = Me at L5 F5' o5 ob5 a5 A5 p54 p53 k5 i5 b5 n5 ⊢
  have F6 : GX (fun a => a = mN M) 0 0 Me (wI Me (mN M) 0 (nI ru)) := GX_wI (P := fun a => a = mN M) rfl
  have L6 : LW (wI Me (mN M) 0 (nI ru)) T R c := LW_wI L5 o5
  have o6 : ¬ OWN (wI Me (mN M) 0 (nI ru)) (mN M) := o5
  rw [lt_ck_t k5, x_m, lt_ck_t (show mK (wI Me (mN M) 0 (nI ru)) (mN M) = 28 from k5), x_m]
  have F7 : GX (fun a => a = mN M) 0 0 (wI Me (mN M) 0 (nI ru)) (wI (wI Me (mN M) 0 (nI ru)) (mN M) 1 (nI ro)) := GX_wI (P := fun a => a = mN M) rfl
  have L7 : LW (wI (wI Me (mN M) 0 (nI ru)) (mN M) 1 (nI ro)) T R c := LW_wI L6 o6
  have o7 : ¬ OWN (wI (wI Me (mN M) 0 (nI ru)) (mN M) 1 (nI ro)) (mN M) := o5
  obtain ⟨L8, F8⟩ := wp (jj := 2) (vv := some z) L7 o7
  rw [lt_ck_t (show mK (wI (wI Me (mN M) 0 (nI ru)) (mN M) 1 (nI ro)) (mN M) = 28 from k5), x_m]
  have F9 := ((F5'.tr F6).tr F7).tr F8
  have FF := (F6.tr F7).tr F8
  have a8 := a5.kp FF.1 (by omega)
  have A8 := A5.kp FF.1 (by have := hA.2.1; omega)
  have own : ∀ a, a < mN Me → ¬ OWN Me a → ¬ OWN (wP (wI (wI Me (mN M) 0 (nI ru)) (mN M) 1 (nI ro)) (mN M) 2 (some z)) a := fun a ha ho q => ho (FF.1.2.2.2.1 a ha q)
  have eI : ∀ j, mI (wP (wI (wI Me (mN M) 0 (nI ru)) (mN M) 1 (nI ro)) (mN M) 2 (some z)) (mN M) j = if j = 1 then nI ro else if j = 0 then nI ru else 0 := fun j => by
    show (if mN M = mN M ∧ j = 1 then nI ro else (if mN M = mN M ∧ j = 0 then nI ru else mI Me (mN M) j)) = _
    by_cases w : j = 1
    · rw [if_pos ⟨rfl, w⟩, if_pos w]
    · rw [if_neg (fun q => w q.2), if_neg w]
      by_cases w0 : j = 0
      · rw [if_pos ⟨rfl, w0⟩, if_pos w0]
      · rw [if_neg (fun q => w0 q.2), if_neg w0]; exact i5 j
  have eP : ∀ j, mP (wP (wI (wI Me (mN M) 0 (nI ru)) (mN M) 1 (nI ro)) (mN M) 2 (some z)) (mN M) j = if j = 2 then some z else mP Me (mN M) j := fun j => by
    show (if mN M = mN M ∧ j = 2 then some z else mP Me (mN M) j) = _
    by_cases w : j = 2
    · rw [if_pos ⟨rfl, w⟩, if_pos w]
    · rw [if_neg (fun q => w q.2), if_neg w]
  have zlt := hA.2.1
  refine ⟨_, rfl, L8, F9.mo (fun a ha q => by omega) (Nat.le_refl _) (Nat.le_refl _), ⟨k5, ?_, ⟨own _ (by omega) o5, a8.own, own _ (by omega) ob5⟩, by omega, ⟨?_, ?_, ?_⟩, ⟨?_, ?_, ?_, ?_, ?_⟩, a8.1, b5, fun j hj => absurd hj (Nat.not_lt_zero _), fun j hj => absurd hj (Nat.not_lt_zero _), A8, zlt⟩, n5⟩
  · show mN M + 2 < mN Me
    omega
  · rw [eP, if_pos rfl]
  · rw [eP, if_neg (by decide)]; exact p53
  · rw [eP, if_neg (by decide)]; exact p54
  · rw [eI, if_neg (by decide), if_pos rfl]
  · rw [eI, if_pos rfl]
  · rw [eI, if_neg (by decide), if_neg (by decide)]; rfl
  · rw [eI, if_neg (by decide), if_neg (by decide)]; rfl
  · rw [eI, if_neg (by decide), if_neg (by decide)]; rfl
end Gc
section Gd
variable {M M' M0 M1 N : LM} {T T' T2 : BT} {R R' : Nat → BT} {j k n x y a o p o4 zc ru ro c c' s' : Nat} {x1 x2 x3 : Int32} {kf : Nat → Nat} {g : Nat → Int32}
theorem ghi_9 (d : Nat) : ∀ (m i : Nat) (M : LM) (g : Nat → Int32), i + m = 26 → LW M T R c → AR M o4 26 g → (∀ j, j < i → g j = 1) → ∃ M', f_L_hits_9 (d + 4) M o x1 x2 x3 o4 (nI i) = f_L_hits_9 (d + 4) M' o x1 x2 x3 o4 26 ∧ LW M' T R c ∧ AR M' o4 26 (fun _ => nI 1) ∧ GX (fun a => a = o4) 0 0 M M'
  | 0, i, M, g, hi, h1, h2, h3 => ⟨M, by rw [show i = 26 by omega]; rfl, h1, h2.cg (fun j hj => (h3 j (by omega)).symm), GX.rf⟩
  | m + 1, i, M, g, hi, h1, h2, h3 => by
    have l26 : nI i < (26 : Int32) := (nI_ltP (j := i) (k := 26) (by omega) (by omega)).mpr (by omega)
    obtain ⟨M', g1, g2, g3, g4⟩ := ghi_9 d m (i + 1) (wI M o4 i 1) _ (by omega) (LW_wI h1 h2.own) (h2.wr (i := i) (x := 1)) (fun j hj => by
      by_cases w : j = i
      · rw [if_pos w]
      · rw [if_neg w]; exact h3 j (by omega))
    refine ⟨M', ?_, g2, g3, (GX_wI (P := fun a => a = o4) rfl).tr g4⟩
    rw [e_L_hits_9, if_pos l26, h2.ar (by omega), x_m, lt_iN (by omega), nI_p1]
    exact g1
theorem ghi_44 (d : Nat) (hn : n ≤ 12) (hg : ∀ k, k < n → g k = nI (kf k) ∧ kf k < 26) (hru : ru < 10) (hro : ro ≤ 20) (hop : o < p) : ∀ (m i : Nat) (M : LM), i + m = n → LW M T R c → AR M o 12 g → PLQ M p zc ru ro (fun _ => 1) (pRunQ ru ro (fun _ => 1) kf i) → PV ro (fun _ => 1) (pRunQ ru ro (fun _ => 1) kf i) → (pRunQ ru ro (fun _ => 1) kf i).2.2.2.2 ≤ i → ∃ M', f_L_hits_44 (d + 4) M o (nI n) p (nI i) = some (.inl (some (.int (nI (pRunQ ru ro (fun _ => 1) kf n).2.2.2.2))), M') ∧ LW M' T R c ∧ GX (PRg p) 0 0 M M' ∧ (pRunQ ru ro (fun _ => 1) kf n).2.2.2.2 ≤ n
  | 0, i, M, hi, h1, h2, h3, h4, h5 => by
    have e : i = n := by omega
    rw [e] at h3 h5 ⊢
    refine ⟨M, ?_, h1, GX.rf, h5⟩
    rw [e_L_hits_44, if_neg (show ¬ nI n < nI n by rw [nI_ltP (by omega) (by omega)]; omega), lt_ck_t h3.1, h3.2.2.2.2.2.1.2.2.2.2]
  | m + 1, i, M, hi, h1, h2, h3, h4, h5 => by
    obtain ⟨gi, ki⟩ := hg i (by omega)
    obtain ⟨M1, e1, e2, e3, e4, e5⟩ := gp_ask (key := kf i) (d + 1) h1 h3 h4 (fun _ _ => ⟨by omega, by omega⟩) ki hro hru (by omega)
    obtain ⟨M', f1, f2, f3, f4⟩ := ghi_44 d hn hg hru hro hop m (i + 1) M1 (by omega) e2 (h2.kp e3.1 (by unfold PRg; omega)) e4 e5 (Nat.le_trans ask_h (by omega))
    refine ⟨M', ?_, f2, e3.tr f3, f4⟩
    rw [e_L_hits_44, if_pos (show nI i < nI n by rw [nI_ltP (by omega) (by omega)]; omega), h2.ar (by omega), lt_ck_t h3.1, lt_iN (by omega), h2.2.2.2.2 i (by omega), gi, show f_X12_ask (d + 3) M p (nI (kf i)) = _ from e1, lt_bv_r, nI_p1]
    exact f1
theorem gl_hits (d : Nat) (hL : LW M T R c) (hA : AR M o 12 g) (hn : n ≤ 12) (hg : ∀ k, k < n → g k = nI (kf k) ∧ kf k < 26) (hru : ru < 10) (hro : ro ≤ 20) : ∃ M', f_L_hits (d + 4) M o (nI n) (nI ru) (nI ro) = some (.inl (some (.int (nI (pRunQ ru ro (fun _ => 1) kf n).2.2.2.2))), M') ∧ LW M' T R c ∧ AR M' o 12 g ∧ GX (fun _ => False) 4 86 M M' ∧ (pRunQ ru ro (fun _ => 1) kf n).2.2.2.2 ≤ n := by
  have hn1 := t_n hL.1.1
  have oM : o < mN M := hA.2.1
  have L2 : LW (aNew M 1 26 26) T R c := LW_new hL
  have A2 : AR (aNew M 1 26 26) (mN M) 26 (fun _ => 0) := AR_new hL (by omega)
  have F2 : GX (fun a => mN M ≤ a) 1 26 M (aNew M 1 26 26) := GX_new (by omega)
  have B2 := hA.kp F2.1 (by omega)
  rw [e_L_hits, ln_26, ltn_26, x_m]
  generalize aNew M 1 26 26 = Ma at L2 A2 F2 B2 ⊢
  obtain ⟨M3, e1, L3, A3, F3⟩ := ghi_9 (o := o) (x1 := nI n) (x2 := nI ru) (x3 := nI ro) d 26 0 Ma _ rfl L2 A2 (fun j hj => absurd hj (Nat.not_lt_zero _))
  have B3 := B2.kp F3.1 (by omega)
  obtain ⟨M4, g1, L4, F4, Q4, n4⟩ := gp_new (ru := ru) (ro := ro) (sz := fun _ => 1) (d + 2) L3 A3
  rw [x_m] at g1
  have B4 := B3.kp F4.1 (fun q => q)
  have le3 : mN M ≤ mN M3 := Nat.le_trans F2.1.1 F3.1.1
  have V0 : PV ro (fun _ => 1) (pRunQ ru ro (fun _ => 1) kf 0) := ⟨rfl, Nat.zero_le _, fun j hj => absurd hj (Nat.not_lt_zero _)⟩
  obtain ⟨M5, h1, L5, F5, h6⟩ := ghi_44 (n := n) (kf := kf) d hn hg hru hro (show o < mN M3 by omega) n 0 M4 (by omega) L4 B4 Q4 V0 (Nat.le_refl _)
  have FF : GX (fun a => mN M ≤ a) 4 86 M M5 := ((F2.tr (F3.mo (fun a _ q => by omega) (Nat.le_refl _) (Nat.le_refl _))).tr (F4.mo (fun _ _ q => q.elim) (Nat.le_refl _) (Nat.le_refl _))).tr (F5.mo (fun a _ q => by unfold PRg at q; omega) (Nat.le_refl _) (Nat.le_refl _))
  refine ⟨M5, ?_, L5, B4.kp F5.1 (by unfold PRg; omega), FF.mo (fun a h q => by omega) (Nat.le_refl _) (Nat.le_refl _), h6⟩
  rw [show f_L_hits_9 (d + 4) Ma o (nI n) (nI ru) (nI ro) (mN M) 0 = _ from e1, e_L_hits_9, if_neg (by decide), x_m, show f_X12_init (d + 3) (aNew M3 28 0 8) (mN M3) (nI ru) (nI ro) (mN M) = _ from g1, lt_bv_r]
  exact h1
end Gd
section Ge
variable {M M' M0 M1 N : LM} {T T' T2 : BT} {R R' : Nat → BT} {j k n o c D C S x1 x2 x4 ru rm gr : Nat} {kf kf' : Nat → Nat} {g : Nat → Int32}
theorem gsm_35 (hx4 : x4 ≤ 26) (hx1 : x1 < 12) (IH : ∀ (M : LM) (g : Nat → Int32) (kf : Nat → Nat), LW M T R c → AR M o 12 g → (∀ k, k < x1 + 1 → g k = nI (kf k)) → CAN kf x4 (x1 + 1) → ∃ M' g', f_L_some (D + 1) M o (nI (x1 + 1)) (nI x2) (nI (mxK kf (x1 + 1))) (nI x4) (nI ru) (nI rm) (nI gr) = some (.inl (some (.int 0)), M') ∧ LW M' T R c ∧ AR M' o 12 g' ∧ (∀ k, k < x1 + 1 → g' k = g k) ∧ GX (fun a => a = o) C S M M') : ∀ (r x8 : Nat) (M : LM) (g : Nat → Int32) (kf : Nat → Nat), x8 + r = x4 → LW M T R c → AR M o 12 g → (∀ k, k < x1 → g k = nI (kf k)) → CAN kf x4 x1 → ∃ M' g', f_L_some_35 (D + 2) M o (nI x1) (nI x2) (nI (mxK kf x1)) (nI x4) (nI ru) (nI rm) (nI gr) (nI x8) = some (.inl (some (.int 0)), M') ∧ LW M' T R c ∧ AR M' o 12 g' ∧ (∀ k, k < x1 → g' k = g k) ∧ GX (fun a => a = o) (C * r) (S * r) M M'
  | 0, x8, M, g, kf, hr, h1, h2, h3, h4 => by
    refine ⟨M, g, ?_, h1, h2, fun _ _ => rfl, GX.rf⟩
    rw [e_L_some_35]
    by_cases q : nI (mxK kf x1) < nI x8
    · rw [if_pos q]; exact if_pos (Or.inl rfl)
    · rw [if_neg q, if_neg (show ¬ nI x8 < nI x4 by rw [nI_ltP (by omega) (by omega)]; omega)]
      exact if_pos (Or.inl rfl)
  | r + 1, x8, M, g, kf, hr, h1, h2, h3, h4 => by
    have mx := mxK_le (kf := kf) (x4 := x4) x1 (fun k hk => (h4 k hk).1)
    by_cases q : nI (mxK kf x1) < nI x8
    · refine ⟨M, g, ?_, h1, h2, fun _ _ => rfl, GX.rf.mo (fun _ _ q => q) (Nat.zero_le _) (Nat.zero_le _)⟩
      rw [e_L_some_35, if_pos q]; exact if_pos (Or.inl rfl)
    · have q2 : x8 ≤ mxK kf x1 := by
        rw [nI_ltP (by omega) (by omega)] at q
        omega
      have ek : ∀ k, k < x1 → u1 kf x1 x8 k = kf k := fun k hk => u1_n (by omega)
      have em : mxK (u1 kf x1 x8) x1 = mxK kf x1 := mxK_cg x1 ek
      have ex : u1 kf x1 x8 x1 = x8 := if_pos rfl
      have em2 : mxK (u1 kf x1 x8) (x1 + 1) = if mxK kf x1 < x8 + 1 then x8 + 1 else mxK kf x1 := by
        show (if mxK (u1 kf x1 x8) x1 < u1 kf x1 x8 x1 + 1 then u1 kf x1 x8 x1 + 1 else mxK (u1 kf x1 x8) x1) = _
        rw [em, ex]
      obtain ⟨M1, g1, e1, L1, A1, G1, F1⟩ := IH (wI M o x1 (nI x8)) _ (u1 kf x1 x8) (LW_wI h1 h2.own) (h2.wr (i := x1) (x := nI x8)) (fun k hk => by
        by_cases w : k = x1
        · rw [if_pos w, w, ex]
        · rw [if_neg w, ek k (by omega)]; exact h3 k (by omega)) (fun k hk => by
        by_cases w : k = x1
        · rw [w, ex, em]; exact ⟨by omega, q2⟩
        · rw [ek k (by omega), mxK_cg k (fun j hj => ek j (by omega))]; exact h4 k (by omega))
      have G2 : ∀ k, k < x1 → g1 k = g k := fun k hk => (G1 k (by omega)).trans (if_neg (by omega))
      obtain ⟨M2, g2, e2, L2, A2, G3, F2⟩ := gsm_35 hx4 hx1 IH r (x8 + 1) M1 g1 kf (by omega) L1 A1 (fun k hk => (G2 k hk).trans (h3 k hk)) h4
      have emI : (if nI (mxK kf x1) < nI x8 + 1 then nI x8 + 1 else nI (mxK kf x1)) = nI (mxK (u1 kf x1 x8) (x1 + 1)) := by
        rw [em2, nI_p1]
        by_cases w : mxK kf x1 < x8 + 1
        · rw [if_pos w, if_pos ((nI_ltP (by omega) (by omega)).mpr w)]
        · rw [if_neg w, if_neg (fun v => w ((nI_ltP (by omega) (by omega)).mp v))]
      refine ⟨M2, g2, ?_, L2, A2, fun k hk => (G3 k hk).trans (G2 k hk), (((GX_wI (P := fun a => a = o) rfl).tr F1).tr F2).mo (fun _ _ q => q) (by rw [Nat.mul_succ]; omega) (by rw [Nat.mul_succ]; omega)⟩
      rw [e_L_some_35, if_neg q, if_pos (show nI x8 < nI x4 by rw [nI_ltP (by omega) (by omega)]; omega), h2.ar (by omega), x_m, lt_iN (by omega), j_max, lt_bi_r, emI, nI_p1, e1, lt_bi_r, if_pos rfl, nI_p1]
      exact e2
theorem gl_some (d : Nat) (hx4 : x4 ≤ 5) (hx2 : x2 ≤ 12) (hru : ru < 10) (hrm : rm ≤ 20) (hgr : gr ≤ 20) (H : ∀ kf, CAN kf x4 x2 → (pRunQ ru rm (fun _ => 1) kf x2).2.2.2.2 ≤ (pRunQ ru gr (fun _ => 1) kf x2).2.2.2.2) : ∀ (m x1 : Nat) (M : LM) (g : Nat → Int32) (kf : Nat → Nat), x1 + m = x2 → LW M T R c → AR M o 12 g → (∀ k, k < x1 → g k = nI (kf k)) → CAN kf x4 x1 → ∃ M' g', f_L_some (d + m + 5) M o (nI x1) (nI x2) (nI (mxK kf x1)) (nI x4) (nI ru) (nI rm) (nI gr) = some (.inl (some (.int 0)), M') ∧ LW M' T R c ∧ AR M' o 12 g' ∧ (∀ k, k < x1 → g' k = g k) ∧ GX (fun a => a = o) (8 * 5 ^ m) (172 * 5 ^ m) M M'
  | 0, x1, M, g, kf, hm, h1, h2, h3, h4 => by
    have e : x1 = x2 := by omega
    rw [e] at h3 h4 ⊢
    have hg : ∀ k, k < x2 → g k = nI (kf k) ∧ kf k < 26 := fun k hk => ⟨h3 k hk, by have := (h4 k hk).1; omega⟩
    obtain ⟨M1, e1, L1, A1, F1, w1⟩ := gl_hits (ru := ru) (ro := gr) (d + 0) h1 h2 hx2 hg hru hgr
    obtain ⟨M2, e2, L2, A2, F2, w2⟩ := gl_hits (ru := ru) (ro := rm) (d + 0) L1 A1 hx2 hg hru hrm
    have hh := H kf h4
    refine ⟨M2, g, ?_, L2, A2, fun _ _ => rfl, (F1.tr F2).mo (fun _ _ q => q.elim) (by omega) (by omega)⟩
    rw [e_L_some, if_pos rfl, e1, lt_bi_r, e2, lt_bi_r, if_neg (show ¬ nI _ < nI _ by rw [nI_ltP (by omega) (by omega)]; omega)]
    exact if_pos (Or.inl rfl)
  | m + 1, x1, M, g, kf, hm, h1, h2, h3, h4 => by
    obtain ⟨M1, g1, e1, L1, A1, G1, F1⟩ := gsm_35 (D := d + m + 4) (x2 := x2) (ru := ru) (rm := rm) (gr := gr) (by omega) (show x1 < 12 by omega) (fun M g kf a1 a2 a3 a4 => gl_some d hx4 hx2 hru hrm hgr H m (x1 + 1) M g kf (by omega) a1 a2 a3 a4) x4 0 M g kf (by omega) h1 h2 h3 h4
    refine ⟨M1, g1, ?_, L1, A1, G1, F1.mo (fun _ _ q => q) ?_ ?_⟩
    · rw [show d + (m + 1) + 5 = (d + m + 4) + 1 + 1 by omega, e_L_some, if_neg (fun w => by
        have v := congrArg Int32.toInt w
        rw [lt_iT (by omega), lt_iT (by omega)] at v
        omega)]
      exact e1
    · have := Nat.mul_le_mul_left (8 * 5 ^ m) hx4
      rw [Nat.pow_succ]; omega
    · have := Nat.mul_le_mul_left (172 * 5 ^ m) hx4
      rw [Nat.pow_succ]; omega
end Ge
