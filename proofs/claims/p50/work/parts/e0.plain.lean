/-! THE LAW'S OWN CACHE (Plain): many, keys, marks, units, hits -/
abbrev PQ : Type := Nat × (Nat → Nat) × (Nat → Bool) × Nat × Nat
def shK {α : Type} (pl : Nat) (K : Nat → α) : Nat → α := fun j => if j < pl then K j else K (j + 1)
def pOutQ (sz : Nat → Nat) (q : PQ) (pl : Nat) : PQ := (q.1 - 1, shK pl q.2.1, shK pl q.2.2.1, q.2.2.2.1 - sz (q.2.1 pl), q.2.2.2.2)
def pInQ (sz : Nat → Nat) (key : Nat) (q : PQ) : PQ := (q.1 + 1, u1 q.2.1 q.1 key, u1 q.2.2.1 q.1 false, q.2.2.2.1 + sz key, q.2.2.2.2)
/-- keys go until one fits -/
def pShQ (ru ro : Nat) (sz : Nat → Nat) (key : Nat) : Nat → PQ → PQ
  | 0, q => q
  | n + 1, q => if ro < q.2.2.2.1 + sz key then pShQ ru ro sz key n (if ru = 3 ∧ q.2.2.1 0 = true then pInQ sz (q.2.1 0) (pOutQ sz q 0) else pOutQ sz q 0) else q
def fIx (K : Nat → Nat) (key : Nat) : Nat → Nat → Nat
  | 0, i => i
  | m + 1, i => if K i = key then i else fIx K key m (i + 1)
def pAskQ (ru ro : Nat) (sz : Nat → Nat) (key : Nat) (q : PQ) : PQ :=
  let pl := fIx q.2.1 key q.1 0
  if pl < q.1 then (let q1 : PQ := (q.1, q.2.1, u1 q.2.2.1 pl true, q.2.2.2.1, q.2.2.2.2 + 1)
    if 0 < ru then q1 else pInQ sz key (pOutQ sz q1 pl))
  else if ro < sz key then q else pInQ sz key (pShQ ru ro sz key 60 q)
/-- what holds of it -/
def PV (ro : Nat) (sz : Nat → Nat) (q : PQ) : Prop := q.2.2.2.1 = sN (fun j => sz (q.2.1 j)) q.1 ∧ q.2.2.2.1 ≤ ro ∧ ∀ j, j < q.1 → q.2.1 j < 26
def cMk (q : PQ) : Nat := sN (fun j => if q.2.2.1 j = true then 1 else 0) q.1
/-- its cells: the object p, keys, marks behind it; sizes z -/
def PLN (M : LM) (p z ru ro : Nat) (sz : Nat → Nat) (m u h nk nb : Nat) (K : Nat → Nat) (B : Nat → Bool) : Prop := mK M p = 28 ∧ p + 2 < mN M ∧ (¬ OWN M p ∧ ¬ OWN M (p + 1) ∧ ¬ OWN M (p + 2)) ∧ 1 < p ∧ (mP M p 2 = some z ∧ mP M p 3 = some (p + 1) ∧ mP M p 4 = some (p + 2)) ∧ (mI M p 0 = nI ru ∧ mI M p 1 = nI ro ∧ mI M p 5 = nI m ∧ mI M p 6 = nI u ∧ mI M p 7 = nI h) ∧ aI M (p + 1) 26 ∧ (mK M (p + 2) = 3 ∧ mZ M (p + 2) = 26) ∧ (∀ j, j < nk → mI M (p + 1) j = nI (K j)) ∧ (∀ j, j < nb → mI M (p + 2) j = bI (B j)) ∧ AR M z 26 (fun k => nI (sz k)) ∧ z < p
def PLQ (M : LM) (p z ru ro : Nat) (sz : Nat → Nat) (q : PQ) : Prop := PLN M p z ru ro sz q.1 q.2.2.2.1 q.2.2.2.2 q.1 q.1 q.2.1 q.2.2.1
def PRg (p a : Nat) : Prop := p ≤ a ∧ a ≤ p + 2
section Ea
variable {M M' M0 M1 N : LM} {D i j k t w f n c e r a o m s y key h p z ru ro u nk nb c' s' : Nat} {x v b1 b2 : Int32} {b : Bool} {T T' T2 : BT} {R : Nat → BT} {sz K K' : Nat → Nat} {B B' : Nat → Bool} {q : PQ} {Z : Option (LO × LM)}
theorem sN_sh {g : Nat → Nat} {pl : Nat} : ∀ m, pl < m + 1 → sN (fun j => g (if j < pl then j else j + 1)) m + g pl = sN g (m + 1)
  | 0, hp => by
    have : pl = 0 := by omega
    rw [this]; rfl
  | m + 1, hp => by
    show sN (fun j => g (if j < pl then j else j + 1)) m + g (if m < pl then m else m + 1) + g pl = sN g (m + 1) + g (m + 1)
    by_cases q : m < pl
    · have e : pl = m + 1 := by omega
      have e2 : sN (fun j => g (if j < pl then j else j + 1)) m = sN g m := sN_cg (fun k hk => by rw [if_pos (by omega)])
      rw [if_pos q, e2, e]
      show sN g m + g m + g (m + 1) = sN g m + g m + g (m + 1)
      rfl
    · rw [if_neg q]
      have := sN_sh (g := g) (pl := pl) m (by omega)
      omega
theorem shK_e {α : Type} {K : Nat → α} {pl j : Nat} : shK pl K j = K (if j < pl then j else j + 1) := by
  unfold shK
  split <;> rfl
theorem sN_le {g : Nat → Nat} (hg : ∀ j, j < n → 1 ≤ g j) : n ≤ sN g n := by
  induction n with
  | zero => exact Nat.zero_le _
  | succ n ih =>
    have := ih (fun j hj => hg j (by omega))
    have := hg n (by omega)
    show n + 1 ≤ sN g n + g n
    omega
theorem PV_m (hz : ∀ k, k < 26 → 1 ≤ sz k) (h : PV ro sz q) : q.1 ≤ q.2.2.2.1 := by
  rw [h.1]
  exact sN_le (fun j hj => hz _ (h.2.2 j hj))
theorem PV_out {pl : Nat} (h : PV ro sz q) (hp : pl < q.1) : PV ro sz (pOutQ sz q pl) ∧ sz (q.2.1 pl) ≤ q.2.2.2.1 ∧ cMk (pOutQ sz q pl) + (if q.2.2.1 pl = true then 1 else 0) = cMk q := by
  obtain ⟨m', em⟩ : ∃ m', q.1 = m' + 1 := ⟨q.1 - 1, by omega⟩
  have e1 := sN_sh (g := fun j => sz (q.2.1 j)) (pl := pl) m' (by omega)
  have e2 := sN_sh (g := fun j => if q.2.2.1 j = true then 1 else 0) (pl := pl) m' (by omega)
  have g1 : sN (fun j => sz (shK pl q.2.1 j)) m' = sN (fun j => sz (q.2.1 (if j < pl then j else j + 1))) m' := sN_cg (fun j _ => by rw [shK_e])
  have g2 : sN (fun j => if shK pl q.2.2.1 j = true then 1 else 0) m' = sN (fun j => if q.2.2.1 (if j < pl then j else j + 1) = true then 1 else 0) m' := sN_cg (fun j _ => by rw [shK_e])
  have hu := h.1
  rw [em] at hu
  have hu2 := h.2.1
  have m1 : q.1 - 1 = m' := by omega
  refine ⟨⟨?_, ?_, fun j hj => ?_⟩, ?_, ?_⟩
  · show q.2.2.2.1 - sz (q.2.1 pl) = sN (fun j => sz (shK pl q.2.1 j)) (q.1 - 1)
    rw [m1, g1]
    omega
  · show q.2.2.2.1 - sz (q.2.1 pl) ≤ ro
    omega
  · show shK pl q.2.1 j < 26
    have hj' : j < q.1 - 1 := hj
    rw [shK_e]
    split
    · exact h.2.2 _ (by omega)
    · exact h.2.2 _ (by omega)
  · omega
  · show sN (fun j => if shK pl q.2.2.1 j = true then 1 else 0) (q.1 - 1) + _ = sN (fun j => if q.2.2.1 j = true then 1 else 0) q.1
    rw [m1, g2, em]
    exact e2
theorem PV_in (h : PV ro sz q) (hk : key < 26) (hf : q.2.2.2.1 + sz key ≤ ro) : PV ro sz (pInQ sz key q) ∧ cMk (pInQ sz key q) = cMk q := by
  refine ⟨⟨?_, hf, fun j hj => ?_⟩, ?_⟩
  · show q.2.2.2.1 + sz key = sN (fun j => sz (u1 q.2.1 q.1 key j)) q.1 + sz (u1 q.2.1 q.1 key q.1)
    rw [h.1, sN_cg (a := fun j => sz (u1 q.2.1 q.1 key j)) (b := fun j => sz (q.2.1 j)) (fun j hj => by rw [u1_n (by omega)]), u1e]
  · show u1 q.2.1 q.1 key j < 26
    have hj' : j < q.1 + 1 := hj
    by_cases w : j = q.1
    · rw [w, u1e]; exact hk
    · rw [u1_n w]; exact h.2.2 j (by omega)
  · show sN (fun j => if u1 q.2.2.1 q.1 false j = true then 1 else 0) q.1 + (if u1 q.2.2.1 q.1 false q.1 = true then 1 else 0) = _
    rw [sN_cg (a := fun j => if u1 q.2.2.1 q.1 false j = true then 1 else 0) (b := fun j => if q.2.2.1 j = true then 1 else 0) (fun j hj => by rw [u1_n (by omega)]), u1e, if_neg (by decide)]
    rfl
/-! ### cells -/
theorem PLN.wf {mm uu hh : Nat} (H : PLN M p z ru ro sz m u h nk nb K B) (e : (j = 5 ∧ x = nI mm ∧ uu = u ∧ hh = h) ∨ (j = 6 ∧ x = nI uu ∧ mm = m ∧ hh = h) ∨ (j = 7 ∧ x = nI hh ∧ mm = m ∧ uu = u)) : PLN (wI M p j x) p z ru ro sz mm uu hh nk nb K B := by
  obtain ⟨h1, h2, h3, h4, h5, ⟨f0, f1, f2, f3, f4⟩, h7, h8, h9, h10, h11, h12⟩ := H
  have rd : ∀ i, i ≠ j → mI (wI M p j x) p i = mI M p i := fun i hi => if_neg (fun w => hi w.2)
  have ro' : ∀ o, o ≠ p → mI (wI M p j x) o = mI M o := fun o ho => mI_wI_ne ho
  have rj : mI (wI M p j x) p j = x := if_pos ⟨rfl, rfl⟩
  refine ⟨h1, h2, h3, h4, h5, ?_, h7, h8, fun i hi => by rw [ro' _ (by omega)]; exact h9 i hi, fun i hi => by rw [ro' _ (by omega)]; exact h10 i hi, h11.kp (P := fun a => a = p) (FX_wI rfl) (by omega), h12⟩
  rcases e with ⟨e1, e2, e3, e4⟩ | ⟨e1, e2, e3, e4⟩ | ⟨e1, e2, e3, e4⟩
  · subst e1 e3 e4
    exact ⟨(rd 0 (by decide)).trans f0, (rd 1 (by decide)).trans f1, rj.trans e2, (rd 6 (by decide)).trans f3, (rd 7 (by decide)).trans f4⟩
  · subst e1 e3 e4
    exact ⟨(rd 0 (by decide)).trans f0, (rd 1 (by decide)).trans f1, (rd 5 (by decide)).trans f2, rj.trans e2, (rd 7 (by decide)).trans f4⟩
  · subst e1 e3 e4
    exact ⟨(rd 0 (by decide)).trans f0, (rd 1 (by decide)).trans f1, (rd 5 (by decide)).trans f2, (rd 6 (by decide)).trans f3, rj.trans e2⟩
theorem PLN.wk {nk' : Nat} (H : PLN M p z ru ro sz m u h nk nb K B) (e : ∀ j, j < nk' → (j = i ∧ K' j = k) ∨ (j ≠ i ∧ j < nk ∧ K' j = K j)) : PLN (wI M (p + 1) i (nI k)) p z ru ro sz m u h nk' nb K' B := by
  obtain ⟨h1, h2, h3, h4, h5, h6, h7, h8, h9, h10, h11, h12⟩ := H
  have ro' : ∀ o, o ≠ p + 1 → mI (wI M (p + 1) i (nI k)) o = mI M o := fun o ho => mI_wI_ne ho
  refine ⟨h1, h2, h3, h4, h5, by rw [ro' p (by omega)]; exact h6, h7, h8, fun j hj => ?_, fun j hj => by rw [ro' _ (by omega)]; exact h10 j hj, h11.kp (P := fun a => a = p + 1) (FX_wI rfl) (by omega), h12⟩
  rcases e j hj with ⟨e1, e2⟩ | ⟨e1, e2, e3⟩
  · rw [e2, e1]; exact if_pos ⟨rfl, rfl⟩
  · rw [e3]
    exact (if_neg (fun w => e1 w.2)).trans (h9 j e2)
theorem PLN.wb {nb' : Nat} (H : PLN M p z ru ro sz m u h nk nb K B) (e : ∀ j, j < nb' → (j = i ∧ B' j = b) ∨ (j ≠ i ∧ j < nb ∧ B' j = B j)) : PLN (wI M (p + 2) i (bI b)) p z ru ro sz m u h nk nb' K B' := by
  obtain ⟨h1, h2, h3, h4, h5, h6, h7, h8, h9, h10, h11, h12⟩ := H
  have ro' : ∀ o, o ≠ p + 2 → mI (wI M (p + 2) i (bI b)) o = mI M o := fun o ho => mI_wI_ne ho
  refine ⟨h1, h2, h3, h4, h5, by rw [ro' p (by omega)]; exact h6, h7, h8, fun j hj => by rw [ro' _ (by omega)]; exact h9 j hj, fun j hj => ?_, h11.kp (P := fun a => a = p + 2) (FX_wI rfl) (by omega), h12⟩
  rcases e j hj with ⟨e1, e2⟩ | ⟨e1, e2, e3⟩
  · rw [e2, e1]; exact if_pos ⟨rfl, rfl⟩
  · rw [e3]
    exact (if_neg (fun w => e1 w.2)).trans (h10 j e2)
theorem PLN.ck (H : PLN M p z ru ro sz m u h nk nb K B) : lt_ck M p 28 Z = Z := lt_ck_t H.1
theorem PLN.ak (H : PLN M p z ru ro sz m u h nk nb K B) (hj : j < 26) : lt_ar M (p + 1) 1 (nI j) Z = Z := lt_ar_t H.2.2.2.2.2.2.1.1 (by rw [H.2.2.2.2.2.2.1.2.1]; exact lt_iI hj (by omega))
theorem PLN.ab (H : PLN M p z ru ro sz m u h nk nb K B) (hj : j < 26) : lt_ar M (p + 2) 3 (nI j) Z = Z := lt_ar_t H.2.2.2.2.2.2.2.1.1 (by rw [H.2.2.2.2.2.2.2.1.2]; exact lt_iI hj (by omega))
theorem PLN.rk (H : PLN M p z ru ro sz m u h nk nb K B) (hj : j < nk) (hj2 : j < 26) : mI M (p + 1) (lt_n (nI j)) = nI (K j) := by rw [lt_iN (by omega)]; exact H.2.2.2.2.2.2.2.2.1 j hj
theorem PLN.rb (H : PLN M p z ru ro sz m u h nk nb K B) (hj : j < nb) (hj2 : j < 26) : mI M (p + 2) (lt_n (nI j)) = bI (B j) := by rw [lt_iN (by omega)]; exact H.2.2.2.2.2.2.2.2.2.1 j hj
theorem PLN.ff (H : PLN M p z ru ro sz m u h nk nb K B) : mI M p 0 = nI ru ∧ mI M p 1 = nI ro ∧ mI M p 5 = nI m ∧ mI M p 6 = nI u ∧ mI M p 7 = nI h := H.2.2.2.2.2.1
theorem PLN.p2 (H : PLN M p z ru ro sz m u h nk nb K B) : mP M p 2 = some z := H.2.2.2.2.1.1
theorem PLN.p3 (H : PLN M p z ru ro sz m u h nk nb K B) : mP M p 3 = some (p + 1) := H.2.2.2.2.1.2.1
theorem PLN.p4 (H : PLN M p z ru ro sz m u h nk nb K B) : mP M p 4 = some (p + 2) := H.2.2.2.2.1.2.2
theorem PLN.ss (H : PLN M p z ru ro sz m u h nk nb K B) : AR M z 26 (fun k => nI (sz k)) := H.2.2.2.2.2.2.2.2.2.2.1
theorem PLN.oo (H : PLN M p z ru ro sz m u h nk nb K B) : ¬ OWN M p ∧ ¬ OWN M (p + 1) ∧ ¬ OWN M (p + 2) := H.2.2.1
theorem PLN.kp (H : PLN M p z ru ro sz m u h nk nb K B) {P : Nat → Prop} (f : FX P c' s' M M') (hp : ¬ P p ∧ ¬ P (p + 1) ∧ ¬ P (p + 2) ∧ ¬ P z) : PLN M' p z ru ro sz m u h nk nb K B := by
  obtain ⟨h1, h2, ⟨h3, h3', h3''⟩, h4, h5, h6, h7, h8, h9, h10, h11, h12⟩ := H
  have s0 := f.2.2.1 p (by omega) h3 (by omega) hp.1
  have s1 := f.2.2.1 (p + 1) (by omega) h3' (by omega) hp.2.1
  have s2 := f.2.2.1 (p + 2) (by omega) h3'' (by omega) hp.2.2.1
  have own : ∀ a, a < mN M → ¬ OWN M a → ¬ OWN M' a := fun a ha ho q => ho (f.2.2.2.1 a ha q)
  exact ⟨s0.2.2.2.1.trans h1, Nat.lt_of_lt_of_le h2 f.1, ⟨own _ (by omega) h3, own _ (by omega) h3', own _ (by omega) h3''⟩, h4, by rw [s0.2.2.1]; exact h5, by rw [s0.1]; exact h6, ⟨s1.2.2.2.1.trans h7.1, s1.2.2.2.2.trans h7.2.1, h7.2.2⟩, ⟨s2.2.2.2.1.trans h8.1, s2.2.2.2.2.trans h8.2⟩, fun j hj => by rw [s1.1]; exact h9 j hj, fun j hj => by rw [s2.1]; exact h10 j hj, h11.kp f hp.2.2.2, h12⟩
theorem b1_I {Y : Option (LO × LM)} : lt_b1 (bI b) Y = Y := by cases b <;> rfl
/-- out() -/
theorem out_32 (d : Nat) {pl : Nat} : ∀ (n k : Nat) (M : LM) (K' : Nat → Nat) (B' : Nat → Bool), k + n = m → m + 1 ≤ 26 → pl ≤ k → LW M T R c → PLN M p z ru ro sz m u h (m + 1) (m + 1) K' B' → (∀ j, j < m + 1 → K' j = (if j < k then shK pl K j else K j) ∧ B' j = (if j < k then shK pl B j else B j)) →
    ∃ M', f_X12_out_32 (d + 1) M p (nI k) = some (.inl none, M') ∧ LW M' T R c ∧ FX (PRg p) 0 0 M M' ∧ PLN M' p z ru ro sz m u h m m (shK pl K) (shK pl B)
  | 0, k, M, K', B', hk, hm, hp, hL, H, hE => by
    refine ⟨M, by rw [e_X12_out_32, H.ck, H.ff.2.2.1, if_neg (by rw [nI_ltP (by omega) (by omega)]; omega)], hL, FX.rf, ?_⟩
    obtain ⟨h1, h2, h3, h4, h5, h6, h7, h8, h9, h10, h11, h12⟩ := H
    exact ⟨h1, h2, h3, h4, h5, h6, h7, h8, fun j hj => by rw [h9 j (by omega), (hE j (by omega)).1, if_pos (by omega)], fun j hj => by rw [h10 j (by omega), (hE j (by omega)).2, if_pos (by omega)], h11, h12⟩
  | n + 1, k, M, K', B', hk, hm, hp, hL, H, hE => by
    have vk : mI M (p + 1) (lt_n (nI (k + 1))) = nI (K' (k + 1)) := H.rk (by omega) (by omega)
    have e1 := nI_p1 (a := k)
    let M1 := wI M (p + 1) k (nI (K' (k + 1)))
    have L1 : LW M1 T R c := LW_wI hL H.oo.2.1
    have F1 : FX (PRg p) 0 0 M M1 := FX_wI (P := PRg p) (by unfold PRg; omega)
    have H1 : PLN M1 p z ru ro sz m u h (m + 1) (m + 1) (fun j => if j = k then K' (k + 1) else K' j) B' := H.wk (fun j hj => by
      by_cases w : j = k
      · exact Or.inl ⟨w, if_pos w⟩
      · exact Or.inr ⟨w, hj, if_neg w⟩)
    have vb : mI M1 (p + 2) (lt_n (nI (k + 1))) = bI (B' (k + 1)) := H1.rb (by omega) (by omega)
    let M2 := wI M1 (p + 2) k (bI (B' (k + 1)))
    have L2 : LW M2 T R c := LW_wI L1 H1.oo.2.2
    have F2 : FX (PRg p) 0 0 M1 M2 := FX_wI (P := PRg p) (by unfold PRg; omega)
    have H2 : PLN M2 p z ru ro sz m u h (m + 1) (m + 1) (fun j => if j = k then K' (k + 1) else K' j) (fun j => if j = k then B' (k + 1) else B' j) := H1.wb (fun j hj => by
      by_cases w : j = k
      · exact Or.inl ⟨w, if_pos w⟩
      · exact Or.inr ⟨w, hj, if_neg w⟩)
    obtain ⟨M', g1, g2, g3, g4⟩ := out_32 (pl := pl) d n (k + 1) M2 _ _ (by omega) hm (by omega) L2 H2 (fun j hj => by
      have hj1 := hE j hj
      have hk1 := hE (k + 1)
      by_cases w : j = k
      · have := hk1 (by omega)
        rw [if_neg (show ¬ k + 1 < k by omega), if_neg (show ¬ k + 1 < k by omega)] at this
        rw [if_pos w, if_pos w, if_pos (show j < k + 1 by omega), if_pos (show j < k + 1 by omega), this.1, this.2, w]
        unfold shK
        rw [if_neg (by omega), if_neg (by omega)]
        exact ⟨rfl, rfl⟩
      · rw [if_neg w, if_neg w]
        by_cases w2 : j < k
        · rw [if_pos w2, if_pos w2] at hj1
          rw [if_pos (show j < k + 1 by omega), if_pos (show j < k + 1 by omega)]
          exact hj1
        · rw [if_neg w2, if_neg w2] at hj1
          rw [if_neg (show ¬ j < k + 1 by omega), if_neg (show ¬ j < k + 1 by omega)]
          exact hj1)
    refine ⟨M', ?_, g2, (F1.tr F2).tr g3, g4⟩
    rw [e_X12_out_32, H.ck, H.ff.2.2.1, if_pos (by rw [nI_ltP (by omega) (by omega)]; omega), H.ck, H.p3, x_rf, H.ck, x_rf, e1, H.ak (by omega), H.ak (by omega), vk, x_m, lt_iN (by omega)]
    show lt_ck M1 p 28 (lt_rf (mP M1 p 4) fun q8 => lt_ck M1 p 28 (lt_rf (mP M1 p 4) fun q9 => lt_ar M1 q9 3 (nI (k + 1)) (lt_ar M1 q8 3 (nI k) (lt_b1 (mI M1 q9 (lt_n (nI (k + 1)))) (lt_m (wI M1 q8 k (mI M1 q9 (lt_n (nI (k + 1))))) fun M10 => f_X12_out_32 (d + 1) M10 p (nI (k + 1))))))) = _
    rw [H1.ck, H1.p4, x_rf, H1.ck, x_rf, H1.ab (by omega), H1.ab (by omega), vb, b1_I, x_m]
    exact g1
theorem p_out (d : Nat) {pl : Nat} (hL : LW M T R c) (H : PLQ M p z ru ro sz q) (hv : PV ro sz q) (hro : ro ≤ 20) (hm : q.1 ≤ 26) (hp : pl < q.1) (hz : ∀ k, k < 26 → 1 ≤ sz k) : ∃ M', f_X12_out (d + 1) M p (nI pl) = some (.inl none, M') ∧ LW M' T R c ∧ FX (PRg p) 0 0 M M' ∧ PLQ M' p z ru ro sz (pOutQ sz q pl) := by
  obtain ⟨m, K, B, u, h⟩ := q
  have hu := (PV_out hv hp).2.1
  have hK := hv.2.2 pl hp
  have hur := hv.2.1
  have H' : PLN M p z ru ro sz m u h m m K B := H
  have hp' : pl < m := hp
  have hu' : sz (K pl) ≤ u := hu
  have hm' : m ≤ 26 := hm
  have hK' : K pl < 26 := hK
  obtain ⟨m', em⟩ : ∃ m', m = m' + 1 := ⟨m - 1, by omega⟩
  have vk : mI M (p + 1) (lt_n (nI pl)) = nI (K pl) := H'.rk hp' (by omega)
  have vs : mI M z (lt_n (nI (K pl))) = nI (sz (K pl)) := H'.ss.rd hK'
  have e6 : mI M p 6 - nI (sz (K pl)) = nI (u - sz (K pl)) := by rw [H'.ff.2.2.2.1, nI_sub hu']
  let M1 := wI M p 6 (nI (u - sz (K pl)))
  have L1 : LW M1 T R c := LW_wI hL H'.oo.1
  have F1 : FX (PRg p) 0 0 M M1 := FX_wI (P := PRg p) (by unfold PRg; omega)
  have H1 : PLN M1 p z ru ro sz m (u - sz (K pl)) h m m K B := H'.wf (Or.inr (Or.inl ⟨rfl, rfl, rfl, rfl⟩))
  have e5 : mI M1 p 5 - 1 = nI m' := by rw [H1.ff.2.2.1, em]; exact nI_sub (b := 1) (by omega)
  let M2 := wI M1 p 5 (nI m')
  have L2 : LW M2 T R c := LW_wI L1 H1.oo.1
  have F2 : FX (PRg p) 0 0 M1 M2 := FX_wI (P := PRg p) (by unfold PRg; omega)
  have H2 : PLN M2 p z ru ro sz m' (u - sz (K pl)) h (m' + 1) (m' + 1) K B := by rw [← em]; exact H1.wf (Or.inl ⟨rfl, rfl, rfl, rfl⟩)
  obtain ⟨M', g1, g2, g3, g4⟩ := out_32 (K := K) (B := B) (pl := pl) d (m' - pl) pl M2 K B (by omega) (by omega) (Nat.le_refl _) L2 H2 (fun j hj => by
    unfold shK
    by_cases w : j < pl
    · rw [if_pos w, if_pos w, if_pos w, if_pos w]; exact ⟨rfl, rfl⟩
    · rw [if_neg w, if_neg w]; exact ⟨rfl, rfl⟩)
  refine ⟨M', ?_, g2, (F1.tr F2).tr g3, ?_⟩
  · rw [e_X12_out, H'.ck, H'.ck, H'.p2, x_rf, H'.ck, H'.p3, x_rf, H'.ak (by omega), vk, H'.ss.ar hK', H'.ck, vs, e6, x_m]
    show lt_ck M1 p 28 (lt_ck M1 p 28 (lt_m (wI M1 p 5 (mI M1 p 5 - 1)) fun M4 => f_X12_out_32 (d + 1) M4 p (nI pl))) = _
    rw [H1.ck, H1.ck, e5, x_m]
    exact g1
  · show PLN M' p z ru ro sz (m - 1) (u - sz (K pl)) h (m - 1) (m - 1) (shK pl K) (shK pl B)
    rw [show m - 1 = m' by omega]
    exact g4
/-- in() -/
theorem p_in (d : Nat) (hL : LW M T R c) (H : PLQ M p z ru ro sz q) (hm : q.1 < 26) (hk : key < 26) : ∃ M', f_X12_in (d + 1) M p (nI key) = some (.inl none, M') ∧ LW M' T R c ∧ FX (PRg p) 0 0 M M' ∧ PLQ M' p z ru ro sz (pInQ sz key q) := by
  obtain ⟨m, K, B, u, h⟩ := q
  have H0 : PLN M p z ru ro sz m u h m m K B := H
  have hm' : m < 26 := hm
  have pr : ∀ a, a = p ∨ a = p + 1 ∨ a = p + 2 → PRg p a := fun a ha => by unfold PRg; omega
  have H1 : PLN (wI M (p + 1) m (nI key)) p z ru ro sz m u h (m + 1) m (u1 K m key) B := H0.wk (fun j hj => by
    by_cases w : j = m
    · exact Or.inl ⟨w, by rw [w, u1e]⟩
    · exact Or.inr ⟨w, by omega, u1_n w⟩)
  have L1 : LW (wI M (p + 1) m (nI key)) T R c := LW_wI hL H0.oo.2.1
  have F1 : FX (PRg p) 0 0 M (wI M (p + 1) m (nI key)) := FX_wI (P := PRg p) (pr _ (by omega))
  rw [e_X12_in, H0.ck, H0.p3, x_rf, H0.ck, H0.ff.2.2.1, H0.ak hm', x_m, lt_iN (by omega)]
  generalize wI M (p + 1) m (nI key) = M1 at H1 L1 F1 ⊢
  have H2 : PLN (wI M1 (p + 2) m (bI false)) p z ru ro sz m u h (m + 1) (m + 1) (u1 K m key) (u1 B m false) := H1.wb (fun j hj => by
    by_cases w : j = m
    · exact Or.inl ⟨w, by rw [w, u1e]⟩
    · exact Or.inr ⟨w, by omega, u1_n w⟩)
  have L2 : LW (wI M1 (p + 2) m (bI false)) T R c := LW_wI L1 H1.oo.2.2
  have F2 : FX (PRg p) 0 0 M (wI M1 (p + 2) m (bI false)) := F1.tr (FX_wI (P := PRg p) (pr _ (by omega)))
  have e0 : bI false = 0 := rfl
  rw [H1.ck, H1.p4, x_rf, H1.ck, H1.ff.2.2.1, H1.ab hm', lt_iN (by omega), ← e0, b1_I, x_m]
  generalize wI M1 (p + 2) m (bI false) = M2 at H2 L2 F2 ⊢
  have H3 : PLN (wI M2 p 5 (nI (m + 1))) p z ru ro sz (m + 1) u h (m + 1) (m + 1) (u1 K m key) (u1 B m false) := H2.wf (Or.inl ⟨rfl, rfl, rfl, rfl⟩)
  have L3 : LW (wI M2 p 5 (nI (m + 1))) T R c := LW_wI L2 H2.oo.1
  have F3 : FX (PRg p) 0 0 M (wI M2 p 5 (nI (m + 1))) := F2.tr (FX_wI (P := PRg p) (pr _ (by omega)))
  rw [H2.ck, H2.ck, H2.ff.2.2.1, nI_p1, x_m]
  generalize wI M2 p 5 (nI (m + 1)) = M3 at H3 L3 F3 ⊢
  have vs : mI M3 z (lt_n (nI key)) = nI (sz key) := H3.ss.rd hk
  have H4 : PLN (wI M3 p 6 (nI (u + sz key))) p z ru ro sz (m + 1) (u + sz key) h (m + 1) (m + 1) (u1 K m key) (u1 B m false) := H3.wf (Or.inr (Or.inl ⟨rfl, rfl, rfl, rfl⟩))
  have L4 : LW (wI M3 p 6 (nI (u + sz key))) T R c := LW_wI L3 H3.oo.1
  have F4 : FX (PRg p) 0 0 M (wI M3 p 6 (nI (u + sz key))) := F3.tr (FX_wI (P := PRg p) (pr _ (by omega)))
  rw [H3.ck, H3.ck, H3.p2, x_rf, H3.ss.ar hk, H3.ck, H3.ff.2.2.2.1, vs, lt_iA, x_m]
  exact ⟨_, rfl, L4, F4, H4⟩
end Ea
