/-! THE LAW: areCaches(): the law's own caches beside the class's, request by request -/
def TT : Nat → Prop := fun _ => True
def PCs (M : LM) (o5 zc : Nat) (pp rr ro sz : Nat → Nat) (Q : Nat → PQ) : Prop := mK M o5 = 8 ∧ mZ M o5 = 6 ∧ o5 < mN M ∧ ¬ OWN M o5 ∧ o5 ≠ 1 ∧ ∀ i, i < 6 → mP M o5 i = some (pp i) ∧ PLQ M (pp i) zc (rr i) (ro i) sz (Q i) ∧ (∀ j, j < 6 → j ≠ i → pp j + 2 < pp i ∨ pp i + 2 < pp j) ∧ (o5 < pp i ∨ pp i + 2 < o5)
/-- both tell the same, behind n requests; x6 says whether there are the law's own -/
def BTH (x6 : Int32) (M : LM) (T : BT) (o5 zc : Nat) (pp rr ro sz kf : Nat → Nat) (n : Nat) : Prop := x6 = 0 ∨ (x6 = 1 ∧ PCs M o5 zc pp rr ro sz (fun i => pRunQ (rr i) (ro i) sz kf n) ∧ ∀ i, i < 6 → (rr i = 0 ∨ rr i = 2 ∨ rr i = 3) ∧ 1 ≤ ro i ∧ ro i ≤ 20 ∧ PV (ro i) sz (pRunQ (rr i) (ro i) sz kf n) ∧ (pRunQ (rr i) (ro i) sz kf n).2.2.2.2 ≤ n ∧ ∃ cl, cl ≤ 1600 * n ∧ CP sz (rr i) (ro i) (T.2 i) (pRunQ (rr i) (ro i) sz kf n) cl)
section Fb
variable {M M' M0 M1 N : LM} {T T' T2 : BT} {R R' : Nat → BT} {i j k m n x y e s t p wr tm a o5 zc key ky ru rw c' s' : Nat} {v x6 : Int32} {W kf kf' fs z c pp rr ro sz : Nat → Nat} {w b : Bool} {q : PQ} {Q : Nat → PQ} {P : Nat → Prop}
theorem PCs.kp (h : PCs M o5 zc pp rr ro sz Q) (f : FX P c' s' M M') (h1 : ¬ P o5) (h2 : ¬ P zc) (h3 : ∀ i, i < 6 → ∀ a, PRg (pp i) a → ¬ P a) : PCs M' o5 zc pp rr ro sz Q := by
  obtain ⟨k1, k2, k3, k4, k5, k6⟩ := h
  have u := f.2.2.1 o5 k3 k4 k5 h1
  refine ⟨u.2.2.2.1.trans k1, u.2.2.2.2.trans k2, Nat.lt_of_lt_of_le k3 f.1, fun q => k4 (f.2.2.2.1 o5 k3 q), k5, fun i hi => ?_⟩
  obtain ⟨a1, a2, a3, a4⟩ := k6 i hi
  exact ⟨by rw [u.2.2.1]; exact a1, PLN.kp a2 f ⟨h3 i hi _ (prg (by omega)), h3 i hi _ (prg (by omega)), h3 i hi _ (prg (by omega)), h2⟩, a3, a4⟩
theorem PCs.fr (h : PCs M o5 zc pp rr ro sz Q) (f : FR M M') : PCs M' o5 zc pp rr ro sz Q := h.kp (P := fun _ => False) (FX.of f) (fun q => q) (fun q => q) (fun _ _ _ _ q => q)
theorem PCs.dr (h : PCs M o5 zc pp rr ro sz Q) : PCs (drw M) o5 zc pp rr ro sz Q := h.kp (P := fun _ => False) FX_drw (fun q => q) (fun q => q) (fun _ _ _ _ q => q)
theorem PCs.ask (d : Nat) (h : PCs M o5 zc pp rr ro sz Q) (hL : LW M T R c') (hi : i < 6) (hz : ∀ k, k < 26 → 1 ≤ sz k ∧ sz k ≤ 8) (hk : key < 26) (hro : ro i ≤ 20) (hru : rr i < 10) (hv : PV (ro i) sz (Q i)) (hh : (Q i).2.2.2.2 < 1000) : ∃ M', f_X12_ask (d + 2) M (pp i) (nI key) = some (.inl none, M') ∧ LW M' T R c' ∧ FX TT 0 0 M M' ∧ PCs M' o5 zc pp rr ro sz (u1 Q i (pAskQ (rr i) (ro i) sz key (Q i))) ∧ PV (ro i) sz (pAskQ (rr i) (ro i) sz key (Q i)) := by
  obtain ⟨k1, k2, k3, k4, k5, k6⟩ := id h
  obtain ⟨a1, a2, a3, a4⟩ := k6 i hi
  obtain ⟨M', e1, e2, e3, e4, e5⟩ := p_ask d hL a2 hv hz hk hro hru hh
  have zlt : zc < pp i := a2.2.2.2.2.2.2.2.2.2.2.2
  have no5 : ¬ PRg (pp i) o5 := fun q => by unfold PRg at q; omega
  have u := e3.2.2.1 o5 k3 k4 k5 no5
  refine ⟨M', e1, e2, e3.mo (fun _ _ _ => trivial) (Nat.le_refl _) (Nat.le_refl _), ⟨u.2.2.2.1.trans k1, u.2.2.2.2.trans k2, Nat.lt_of_lt_of_le k3 e3.1, fun q => k4 (e3.2.2.2.1 o5 k3 q), k5, fun j hj => ?_⟩, e5⟩
  obtain ⟨b1, b2, b3, b4⟩ := k6 j hj
  refine ⟨by rw [u.2.2.1]; exact b1, ?_, b3, b4⟩
  by_cases w : j = i
  · subst w
    rw [u1e]; exact e4
  · rw [u1_n w]
    have := b3 i hi (fun q => w q.symm)
    have zlt2 : zc < pp j := b2.2.2.2.2.2.2.2.2.2.2.2
    exact PLN.kp b2 e3 ⟨fun q => by unfold PRg at q; omega, fun q => by unfold PRg at q; omega, fun q => by unfold PRg at q; omega, fun q => by unfold PRg at q; omega⟩
theorem ask_h {sz : Nat → Nat} : (pAskQ ru rw sz key q).2.2.2.2 ≤ q.2.2.2.2 + 1 := by
  have sh : ∀ (f : Nat) (q : PQ), (pShQ ru rw sz key f q).2.2.2.2 = q.2.2.2.2 := fun f => by
    induction f with
    | zero => intro q; rfl
    | succ f ih =>
      intro q
      unfold pShQ
      split
      · rw [ih]
        split <;> rfl
      · rfl
  unfold pAskQ
  dsimp only
  split
  · split
    · exact Nat.le_refl _
    · exact Nat.le_refl _
  · split
    · exact Nat.le_succ _
    · show (pShQ ru rw sz key 60 q).2.2.2.2 ≤ _
      rw [sh]; exact Nat.le_succ _
theorem run_cg : ∀ n, (∀ i, i < n → kf' i = kf i) → pRunQ ru rw sz kf' n = pRunQ ru rw sz kf n
  | 0, _ => rfl
  | n + 1, h => by
    show pAskQ ru rw sz (kf' n) (pRunQ ru rw sz kf' n) = pAskQ ru rw sz (kf n) (pRunQ ru rw sz kf n)
    rw [h n (by omega), run_cg n (fun i hi => h i (by omega))]
/-- each of the law's own is asked -/
theorem pl_566 (d : Nat) (hz : ∀ k, k < 26 → 1 ≤ sz k ∧ sz k ≤ 8) (hk : key < 26) (hro : ∀ i, i < 6 → ro i ≤ 20 ∧ rr i < 10) {x2 x4 x7 x8 x9 x10 x11 : Int32} : ∀ (m i : Nat) (M : LM) (Q : Nat → PQ), i + m = 6 → LW M T R c' → PCs M o5 zc pp rr ro sz Q → (∀ j, i ≤ j → j < 6 → PV (ro j) sz (Q j) ∧ (Q j).2.2.2.2 < 1000) →
    ∃ M', f_L_areCaches_566 (d + 3) M 2 1 x2 x4 o5 1 x7 x8 x9 x10 x11 (nI key) (nI i) = f_L_areCaches_566 (d + 3) M' 2 1 x2 x4 o5 1 x7 x8 x9 x10 x11 (nI key) 6 ∧ LW M' T R c' ∧ FX TT 0 0 M M' ∧ PCs M' o5 zc pp rr ro sz (fun j => if i ≤ j ∧ j < 6 then pAskQ (rr j) (ro j) sz key (Q j) else Q j) ∧ ∀ j, i ≤ j → j < 6 → PV (ro j) sz (pAskQ (rr j) (ro j) sz key (Q j))
  | 0, i, M, Q, him, hL, h, hv => by
    have e6 : i = 6 := by omega
    refine ⟨M, by rw [e6]; rfl, hL, FX.rf, ?_, fun j h1 h2 => by omega⟩
    have : (fun j => if i ≤ j ∧ j < 6 then pAskQ (rr j) (ro j) sz key (Q j) else Q j) = Q := funext fun j => if_neg (by omega)
    rw [this]; exact h
  | m + 1, i, M, Q, him, hL, h, hv => by
    have hi : i < 6 := by omega
    obtain ⟨k1, k2, k3, k4, k5, k6⟩ := id h
    obtain ⟨a1, a2, a3, a4⟩ := k6 i hi
    have l6 : nI i < (6 : Int32) := (nI_ltP (j := i) (k := 6) (by omega) (by omega)).mpr hi
    have aa : ∀ {Z : Option (LO × LM)}, lt_aa M o5 (nI i) Z = Z := fun {Z} => by
      unfold lt_aa
      rw [if_pos ⟨by omega, by rw [k2]; exact lt_iI hi (by omega)⟩]
    obtain ⟨v1, v2⟩ := hv i (Nat.le_refl _) hi
    obtain ⟨M1, e1, e2, e3, e4, e5⟩ := h.ask (d := d) hL hi hz hk (hro i hi).1 (hro i hi).2 v1 v2
    obtain ⟨M', g1, g2, g3, g4, g5⟩ := pl_566 d hz hk hro (x2 := x2) (x4 := x4) (x7 := x7) (x8 := x8) (x9 := x9) (x10 := x10) (x11 := x11) m (i + 1) M1 _ (by omega) e2 e4 (fun j h1 h2 => by
      rw [u1_n (show j ≠ i by omega)]
      exact hv j (by omega) h2)
    refine ⟨M', ?_, g2, e3.tr g3, ?_, fun j h1 h2 => ?_⟩
    · rw [e_L_areCaches_566, if_pos l6, if_neg (by decide), aa, lt_iN (by omega), a1, x_rf, lt_ck_t a2.1, e1, lt_bv_r, nI_p1]
      exact g1
    · have : (fun j => if i + 1 ≤ j ∧ j < 6 then pAskQ (rr j) (ro j) sz key (u1 Q i (pAskQ (rr i) (ro i) sz key (Q i)) j) else u1 Q i (pAskQ (rr i) (ro i) sz key (Q i)) j) = (fun j => if i ≤ j ∧ j < 6 then pAskQ (rr j) (ro j) sz key (Q j) else Q j) := funext fun j => by
        by_cases w : j = i
        · rw [if_neg (by omega), w, u1e, if_pos (by omega)]
        · rw [u1_n w]
          by_cases w2 : i + 1 ≤ j ∧ j < 6
          · rw [if_pos w2, if_pos (by omega)]
          · rw [if_neg w2, if_neg (by omega)]
      rw [this] at g4
      exact g4
    · by_cases w : j = i
      · rw [w]; exact e5
      · have := g5 j (by omega) h2
        rw [u1_n w] at this
        exact this
/-- a request along, in all -/
theorem bth_ask (hB : BTH x6 M T o5 zc pp rr ro sz kf n) (hA : AT z c W kf n wr tm T) (hz : z = sz) (g : BEq T T2) (hk : k < 26) (hn : n < 100) : x6 = 0 ∨ (x6 = 1 ∧ ∀ i, i < 6 → ∃ cl, cl ≤ 1600 * (n + 1) ∧ CP sz (rr i) (ro i) ((askT kf (fun _ => 0) W n k w T2).2 i) (pRunQ (rr i) (ro i) sz (kfU kf n k) (n + 1)) cl ∧ PV (ro i) sz (pRunQ (rr i) (ro i) sz (kfU kf n k) (n + 1)) ∧ (pRunQ (rr i) (ro i) sz (kfU kf n k) (n + 1)).2.2.2.2 ≤ n + 1 ∧ pRunQ (rr i) (ro i) sz (kfU kf n k) (n + 1) = pAskQ (rr i) (ro i) sz k (pRunQ (rr i) (ro i) sz kf n)) := by
  rcases hB with h | ⟨h, -, hh⟩
  · exact Or.inl h
  · refine Or.inr ⟨h, fun i hi => ?_⟩
    obtain ⟨r1, r2, r3, r4, r5, cl, r6, r7⟩ := hh i hi
    have e : pRunQ (rr i) (ro i) sz (kfU kf n k) (n + 1) = pAskQ (rr i) (ro i) sz k (pRunQ (rr i) (ro i) sz kf n) := by
      show pAskQ (rr i) (ro i) sz (kfU kf n k n) (pRunQ (rr i) (ro i) sz (kfU kf n k) n) = _
      rw [kfU_n, run_cg n (fun i hi => kfU_o (by omega))]
    have A2 := AT_cg g hA
    have r7' := CP_SEq (g.2.2.2.2 i hi) r7
    have q2 : kApp T2.1 n k w (T2.1 0 4) 2 = T2.1 2 := ask_1 (T := T2) (kf := kf) (W := W) (n := n) (k := k) (fs := fun _ => 0) (w := w) (Or.inl rfl)
    obtain ⟨cl', f1, f2, f3⟩ := feed_CP (kz := kApp T2.1 n k w (T2.1 0 4) 2) (kc := kApp T2.1 n k w (T2.1 0 4) 3) (kw := kApp T2.1 n k w (T2.1 0 4) 4) (W := W) (x := k) (ahead := kAhead (kfU kf n k) 0 n) (present := kApp T2.1 n k w (T2.1 0 4) 8 n) (write := kApp T2.1 n k w (T2.1 0 4) 7 n) (i := n) (by rw [q2, ← hz]; exact A2.2.1) r1 hk r3 r7' r4 (by omega) (by omega)
    rw [e]
    refine ⟨cl', by omega, ?_, f3, by have := ask_h (ru := rr i) (rw := ro i) (key := k) (sz := sz) (q := pRunQ (rr i) (ro i) sz kf n); omega, rfl⟩
    rw [ask_2 hi]
    unfold kDo
    rw [kfU_n]
    exact f2
end Fb
