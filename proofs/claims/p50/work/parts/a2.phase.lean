/-! PHASES are no more than misses, by whatever rule -/
section Cb1
variable {kf : Nat → Nat} {sz n m i k x o t p : Nat} {set : Int32} {S T Q : Nat → Bool}
theorem bt_ad (hs : KS set) (hk : k < 26) : bt (set ||| bb k) = sAd (bt set) k := bt_fun (KS_or hs (KS_bb hk)) (fun j hj => by
    show (bt set j || decide (j = k)) = false
    rw [hs j hj, decide_eq_false (by omega)]
    rfl) fun j hj => by
  rw [bt_on hk (by omega)]
  rfl
theorem nK_sub (h : ∀ k, k < 26 → S k = true → T k = true) : nK S 26 ≤ nK T 26 := nK_mono h 26 (Nat.le_refl _)
theorem nI_z0 (h : p < 1000) : (nI p = 0) ↔ p = 0 := lt_iE (j := p) (k := 0) (by omega) (by omega)
theorem ph_le (h1000 : sz < 1000) : ∀ (m i : Nat) (S : Nat → Bool) (c0 c : Nat) (set : Int32) (p : Nat), i + m = t → (∀ j, j < t → kf j < 26) → bP sz kf m i S c → nK S 26 ≤ sz → KS set → p ≤ c0 → (p = c0 → p ≠ 0 → ∀ k, k < 26 → bt set k = true → S k = true) → (c0 = 0 → ∀ k, S k = false) → c0 + m < 1000 → ∃ r, r ≤ c0 + c ∧ kPh kf (nI sz) t m (nI p) set = nI r
  | 0, i, S, c0, c, set, p, _, _, _, _, _, hp, _, _, _ => ⟨p, by omega, rfl⟩
  | m + 1, i, S, c0, c, set, p, ht, hk, h, hS, hs, hp, hP, h0, hb => by
    have hx := hk i (by omega)
    have e1 : t - (m + 1) = i := by omega
    rw [kPh_s, e1]
    have hpp : pPop (set ||| bb (kf i)) = nI (nK (sAd (bt set) (kf i)) 26) := by rw [pPop_nK (KS_or hs (KS_bb hx)), bt_ad hs hx]
    have hnk := nK_le (f := sAd (bt set) (kf i)) 26
    have hcond : (nI p = 0 ∨ nI sz < pPop (set ||| bb (kf i))) ↔ (p = 0 ∨ sz < nK (sAd (bt set) (kf i)) 26) := by
      rw [hpp, nI_z0 (by omega), lt_iL (by omega) (by omega)]
    have ep : nI p + 1 = nI (p + 1) := lt_iA (j := p) (k := 1)
    by_cases c1 : p = 0 ∨ sz < nK (sAd (bt set) (kf i)) 26
    · rw [if_pos (hcond.mpr c1), ep]
      rcases h with ⟨q1, q2⟩ | ⟨q1, c', rfl, q2⟩
      · have hlt : p + 1 ≤ c0 := by
          rcases Nat.lt_or_ge p c0 with z | z
          · exact z
          · exfalso
            have e : p = c0 := by omega
            by_cases z0 : p = 0
            · have := h0 (by omega) (kf i)
              rw [q1] at this; cases this
            · have sub := nK_sub (S := sAd (bt set) (kf i)) (T := S) (fun k hk' hh => by
                have hh' : (bt set k || decide (k = kf i)) = true := hh
                by_cases w : k = kf i
                · rw [w]; exact q1
                · rw [decide_eq_false w, Bool.or_false] at hh'
                  exact hP e z0 k hk' hh')
              rcases c1 with c1 | c1
              · exact z0 c1
              · omega
        exact ph_le h1000 m (i + 1) S c0 c (bb (kf i)) (p + 1) (by omega) hk q2 hS (KS_bb hx) hlt (fun _ _ k hk' hh => by
          rw [bt_bb (by omega) (by omega)] at hh
          rw [of_decide_eq_true hh]; exact q1) h0 (by omega)
      · have key : ∀ S', bP sz kf m (i + 1) S' c' → nK S' 26 ≤ sz → S' (kf i) = true → ∃ r, r ≤ c0 + (c' + 1) ∧ kPh kf (nI sz) t m (nI (p + 1)) (bb (kf i)) = nI r := fun S' g1 g2 g3 => by
          obtain ⟨r, r1, r2⟩ := ph_le h1000 m (i + 1) S' (c0 + 1) c' (bb (kf i)) (p + 1) (by omega) hk g1 g2 (KS_bb hx) (by omega) (fun _ _ k hk' hh => by
            rw [bt_bb (by omega) (by omega)] at hh
            rw [of_decide_eq_true hh]; exact g3) (fun e => absurd e (Nat.succ_ne_zero _)) (by omega)
          exact ⟨r, by omega, r2⟩
        rcases q2 with ⟨g1, g2⟩ | ⟨g1, o, g2, g3, g4⟩
        · exact key _ g2 (by rw [nK_ad q1 26 hx]; exact g1) (by show (S (kf i) || decide (kf i = kf i)) = true; simp)
        · exact key _ g4 (by rw [nK_sw g3 q1 g2 hx]; exact hS) sw_x
    · rw [if_neg (fun q => c1 (hcond.mp q))]
      have hp0 : p ≠ 0 := fun q => c1 (Or.inl q)
      rcases h with ⟨q1, q2⟩ | ⟨q1, c', rfl, q2⟩
      · exact ph_le h1000 m (i + 1) S c0 c (set ||| bb (kf i)) p (by omega) hk q2 hS (KS_or hs (KS_bb hx)) hp (fun e e0 k hk' hh => by
          rw [bt_on hx (by omega)] at hh
          by_cases w : k = kf i
          · rw [w]; exact q1
          · rw [decide_eq_false w, Bool.or_false] at hh
            exact hP e e0 k hk' hh) h0 (by omega)
      · have key : ∀ S', bP sz kf m (i + 1) S' c' → nK S' 26 ≤ sz → ∃ r, r ≤ c0 + (c' + 1) ∧ kPh kf (nI sz) t m (nI p) (set ||| bb (kf i)) = nI r := fun S' g1 g2 => by
          obtain ⟨r, r1, r2⟩ := ph_le h1000 m (i + 1) S' (c0 + 1) c' (set ||| bb (kf i)) p (by omega) hk g1 g2 (KS_or hs (KS_bb hx)) (by omega) (fun e => absurd e (by omega)) (fun e => absurd e (Nat.succ_ne_zero _)) (by omega)
          exact ⟨r, by omega, r2⟩
        rcases q2 with ⟨g1, g2⟩ | ⟨g1, o, g2, g3, g4⟩
        · exact key _ g2 (by rw [nK_ad q1 26 hx]; exact g1)
        · exact key _ g4 (by rw [nK_sw g3 q1 g2 hx]; exact hS)
/-- phases against the misses of a rule -/
theorem phases_le {rule : Int32} (hn : n ≤ 300) (hkf : ∀ i, i < n → kf i < 26) (hp : 0 < sz) (h0 : sz < 1000) : ∃ b r, b ≤ n ∧ r ≤ b ∧ kHits kf n rule (nI sz) = nI (n - b) ∧ kPh kf (nI sz) n n 0 0 = nI r := by
  obtain ⟨b, g1, g2, g3⟩ := rule_hits (rule := rule) (kf := kf) hkf hp h0
  have z : nK (fun _ => false) 26 = 0 := by decide
  obtain ⟨r, r1, r2⟩ := ph_le (kf := kf) (t := n) h0 n 0 (fun _ => false) 0 b 0 0 (by omega) hkf g2 (by rw [z]; omega) KS_0 (Nat.le_refl _) (fun _ e => absurd rfl e) (fun _ _ => rfl) (by omega)
  exact ⟨b, r, g1, by omega, g3, r2⟩
end Cb1
/-! THE SLACK: misses by last use against those of any other -/
section Cb2
variable {kf : Nat → Nat} {sz n m i k h x o t p d : Nat} {set : Int32} {S T Q : Nat → Bool} {ask : Nat → Int32}
/-- what was asked since p: Q; what was held then and not asked since -/
def slZ (S Q : Nat → Bool) (p : Nat) : Nat → Bool := fun j => S j && (!Q j && !decide (j = p))
def SLK (kf : Nat → Nat) (k h i : Nat) (S : Nat → Bool) (mi b : Nat) : Prop := ∃ (p : Nat) (Q : Nat → Bool) (m0 b0 : Nat), p < 26 ∧ Q p = false ∧ (∀ j, 26 ≤ j → Q j = false) ∧ (k - h + 1) * m0 ≤ k * b0 ∧ mi ≤ m0 + nK Q 26 ∧ b0 + nK Q 26 + nK (slZ S Q p) 26 ≤ b + (h - 1) ∧ b0 ≤ b ∧ nK Q 26 < k ∧ 0 < laN kf p 0 i ∧
  (∀ j, j < 26 → Q j = true → 0 < laN kf j 0 i) ∧ ∀ j y, j < 26 → y < 26 → (Q j = true ∨ j = p) → laN kf j 0 i < laN kf y 0 i → (Q y = true ∨ y = p)
theorem SLK_fin (hk : h ≤ k) (h0 : 1 ≤ h) {mi b : Nat} (g : SLK kf k h i S mi b) : (k - h + 1) * mi ≤ k * b + (k - h + 1) * h := by
  obtain ⟨p, Q, m0, b0, g1, g2, g3, g4, g5, g6, g7, g8, -⟩ := g
  generalize nK Q 26 = q at *
  have a1 : (k - h + 1) * mi ≤ (k - h + 1) * (m0 + q) := Nat.mul_le_mul_left _ g5
  rw [Nat.mul_add] at a1
  by_cases c : q ≤ h
  · have a2 : (k - h + 1) * q ≤ (k - h + 1) * h := Nat.mul_le_mul_left _ c
    have a3 : k * b0 ≤ k * b := Nat.mul_le_mul_left _ g7
    omega
  · have a2 : k * (b0 + (q - h)) ≤ k * b := Nat.mul_le_mul_left _ (by omega)
    rw [Nat.mul_add] at a2
    have a3 : (k - h + 1) * (q - h) ≤ k * (q - h) := Nat.mul_le_mul_right _ (by omega)
    have a4 : (k - h + 1) * q = (k - h + 1) * h + (k - h + 1) * (q - h) := by rw [← Nat.mul_add]; congr 1; omega
    omega
theorem nK_one (hp : p < 26) : nK (fun j => decide (j = p)) 26 = 1 := by
  have e : (fun j => decide (j = p)) = sAd (fun _ => false) p := funext fun j => by
    show _ = (false || decide (j = p))
    rw [Bool.false_or]
  rw [e, nK_ad rfl 26 hp]
  have : nK (fun _ => false) 26 = 0 := by decide
  omega
theorem laN_lt (t k : Nat) : laN kf k 0 t ≤ t := laN_le
/-- a request -/
theorem SLK_step (hk : h ≤ k) (h0 : 1 ≤ h) {s : SD} {mi b b' : Nat} {S' : Nat → Bool} (hL : LR kf k i s) (hx : kf i < 26) (g : SLK kf k h i S mi b) (hS' : nK S' 26 ≤ h)
    (hst : (S (kf i) = true ∧ S' = S ∧ b' = b) ∨ (S (kf i) = false ∧ b' = b + 1 ∧ S' (kf i) = true ∧ ∀ j, S' j = true → j ≠ kf i → S j = true)) : SLK kf k h (i + 1) S' (if bt s.1 (kf i) = true then mi else mi + 1) b' := by
  obtain ⟨p, Q, m0, b0, g1, g2, g3, g4, g5, g6, g7, g8, g9, g10, g11⟩ := g
  have lax : laN kf (kf i) 0 (i + 1) = i + 1 := laN_x
  have top : ∀ y, ¬ laN kf (kf i) 0 (i + 1) < laN kf y 0 (i + 1) := fun y q => by
    rw [lax] at q
    have := laN_lt (kf := kf) (i + 1) y
    omega
  have hmi : (if bt s.1 (kf i) = true then mi else mi + 1) ≤ mi + 1 := by split <;> omega
  have hb' : b ≤ b' := by rcases hst with ⟨-, -, e⟩ | ⟨-, e, -, -⟩ <;> omega
  by_cases c : Q (kf i) = true ∨ kf i = p
  · -- it was asked since p
    have hit : bt s.1 (kf i) = true := by
      rw [LR_mem hL hx]
      have h1 : 0 < laN kf (kf i) 0 i := by
        rcases c with c | c
        · exact g10 _ hx c
        · rw [c]; exact g9
      rw [decide_eq_true h1, Bool.true_and]
      refine decide_eq_true ?_
      have sub : nK (abv kf i (kf i)) 26 + 1 ≤ nK (sAd Q p) 26 := by
        refine nK_lt2 (a := kf i) hx (decide_eq_false (Nat.lt_irrefl _)) ?_ (fun y hy hh => ?_)
        · show (Q (kf i) || decide (kf i = p)) = true
          rcases c with c | c
          · rw [c]; rfl
          · rw [decide_eq_true c, Bool.or_true]
        · show (Q y || decide (y = p)) = true
          rcases g11 (kf i) y hx hy c (of_decide_eq_true hh) with q | q
          · rw [q]; rfl
          · rw [decide_eq_true q, Bool.or_true]
      rw [nK_ad g2 26 g1] at sub
      omega
    rw [if_pos hit]
    have hz : nK (slZ S' Q p) 26 ≤ nK (slZ S Q p) 26 := nK_sub (fun j hj hh => by
      have hh' : (S' j && (!Q j && !decide (j = p))) = true := hh
      rw [Bool.and_eq_true, Bool.and_eq_true] at hh'
      show (S j && (!Q j && !decide (j = p))) = true
      rw [Bool.and_eq_true, Bool.and_eq_true]
      refine ⟨?_, hh'.2⟩
      rcases hst with ⟨-, e, -⟩ | ⟨-, -, -, e⟩
      · rw [← e]; exact hh'.1
      · refine e j hh'.1 (fun q => ?_)
        rw [q] at hh'
        rcases c with c | c
        · rw [c] at hh'; exact absurd hh'.2.1 (by decide)
        · rw [decide_eq_true c] at hh'; exact absurd hh'.2.2 (by decide))
    have la : ∀ j, 0 < laN kf j 0 i → 0 < laN kf j 0 (i + 1) := fun j hj => by
      by_cases e : j = kf i
      · rw [e, lax]; omega
      · rw [laN_o e]; exact hj
    refine ⟨p, Q, m0, b0, g1, g2, g3, g4, g5, by omega, by omega, g8, la p g9, fun j hj q => la j (g10 j hj q), fun j y hj hy q hlt => ?_⟩
    by_cases e1 : y = kf i
    · rw [e1]; exact c
    · by_cases e2 : j = kf i
      · rw [e2] at hlt; exact absurd hlt (top y)
      · rw [laN_o e1, laN_o e2] at hlt
        exact g11 j y hj hy q hlt
  · have cQ : Q (kf i) = false := by
      cases e : Q (kf i)
      · rfl
      · exact absurd (Or.inl e) c
    have cp : kf i ≠ p := fun q => c (Or.inr q)
    have hq' : nK (sAd Q (kf i)) 26 = nK Q 26 + 1 := nK_ad cQ 26 hx
    have hz : b0 + (nK Q 26 + 1) + nK (slZ S' (sAd Q (kf i)) p) 26 ≤ b' + (h - 1) := by
      rcases hst with ⟨e0, e1, e2⟩ | ⟨e0, e1, e2, e3⟩
      · have := nK_lt2 (f := slZ S' (sAd Q (kf i)) p) (g := slZ S Q p) hx (by
            show (S' (kf i) && (!(Q (kf i) || decide (kf i = kf i)) && _)) = false
            simp) (by
            show (S (kf i) && (!Q (kf i) && !decide (kf i = p))) = true
            rw [e0, cQ, decide_eq_false cp]; rfl) (fun j hj hh => by
            have hh' : (S' j && (!(Q j || decide (j = kf i)) && !decide (j = p))) = true := hh
            rw [e1] at hh'
            show (S j && (!Q j && !decide (j = p))) = true
            revert hh'
            cases S j <;> cases Q j <;> simp)
        omega
      · have : nK (slZ S' (sAd Q (kf i)) p) 26 ≤ nK (slZ S Q p) 26 := nK_sub (fun j hj hh => by
          have hh' : (S' j && (!(Q j || decide (j = kf i)) && !decide (j = p))) = true := hh
          rw [Bool.and_eq_true, Bool.and_eq_true, Bool.not_eq_true', Bool.or_eq_false_iff] at hh'
          show (S j && (!Q j && !decide (j = p))) = true
          rw [e3 j hh'.1 (of_decide_eq_false hh'.2.1.2), hh'.2.1.1, hh'.2.2]
          rfl)
        omega
    have inS : S' (kf i) = true := by
      rcases hst with ⟨e0, e1, -⟩ | ⟨-, -, e, -⟩
      · rw [e1]; exact e0
      · exact e
    by_cases c2 : nK Q 26 + 1 < k
    · refine ⟨p, sAd Q (kf i), m0, b0, g1, ?_, fun j hj => ?_, g4, by rw [hq']; omega, by rw [hq']; exact hz, by omega, by rw [hq']; exact c2, ?_, fun j hj q => ?_, fun j y hj hy q hlt => ?_⟩
      · show (Q p || decide (p = kf i)) = false
        rw [g2, decide_eq_false (fun q => cp q.symm)]
        rfl
      · show (Q j || decide (j = kf i)) = false
        rw [g3 j hj, decide_eq_false (by omega)]
        rfl
      · rw [laN_o (fun q => cp q.symm)]; exact g9
      · have q' : (Q j || decide (j = kf i)) = true := q
        by_cases e : j = kf i
        · rw [e, lax]; omega
        · rw [laN_o e]
          rw [decide_eq_false e, Bool.or_false] at q'
          exact g10 j hj q'
      · by_cases e1 : y = kf i
        · exact Or.inl (by show (Q y || decide (y = kf i)) = true; rw [decide_eq_true e1, Bool.or_true])
        · by_cases e2 : j = kf i
          · rw [e2] at hlt; exact absurd hlt (top y)
          · rw [laN_o e1, laN_o e2] at hlt
            have q' : Q j = true ∨ j = p := q.imp (fun q => by
              have q' : (Q j || decide (j = kf i)) = true := q
              rwa [decide_eq_false e2, Bool.or_false] at q') id
            rcases g11 j y hj hy q' hlt with r | r
            · exact Or.inl (by show (Q y || decide (y = kf i)) = true; rw [r]; rfl)
            · exact Or.inr r
    · -- a new piece
      have z0 : nK (fun _ => false) 26 = 0 := by decide
      refine ⟨kf i, fun _ => false, (if bt s.1 (kf i) = true then mi else mi + 1), b', hx, rfl, fun _ _ => rfl, ?_, by omega, ?_, Nat.le_refl _, by rw [z0]; omega, by rw [lax]; omega, (fun j _ q => by cases q), fun j y hj hy q hlt => ?_⟩
      · have a1 : (k - h + 1) * (if bt s.1 (kf i) = true then mi else mi + 1) ≤ (k - h + 1) * (m0 + k) := Nat.mul_le_mul_left _ (by omega)
        rw [Nat.mul_add] at a1
        have a2 : k * (b0 + (k - h + 1)) ≤ k * b' := Nat.mul_le_mul_left _ (by omega)
        rw [Nat.mul_add, Nat.mul_comm k (k - h + 1)] at a2
        omega
      · have := nK_lt2 (f := slZ S' (fun _ => false) (kf i)) (g := S') hx (by
            show (S' (kf i) && (!false && !decide (kf i = kf i))) = false
            simp) inS (fun j hj hh => by
            have hh' : (S' j && (!false && !decide (j = kf i))) = true := hh
            rw [Bool.and_eq_true] at hh'
            exact hh'.1)
        rw [z0]
        omega
      · rcases q with q | q
        · cases q
        · rw [q] at hlt; exact absurd hlt (top y)
theorem SLK_first (hk : h ≤ k) (h0 : 1 ≤ h) (hx : kf 0 < 26) {S' : Nat → Bool} (hS : ∀ j, S' j = true → j = kf 0) : SLK kf k h 1 S' 1 1 := by
  have lax : laN kf (kf 0) 0 1 = 1 := laN_x (t := 0)
  have z0 : nK (fun _ => false) 26 = 0 := by decide
  refine ⟨kf 0, fun _ => false, 1, 1, hx, rfl, fun _ _ => rfl, by omega, by omega, ?_, Nat.le_refl _, by rw [z0]; omega, by rw [lax]; omega, (fun j _ q => by cases q), fun j y hj hy q hlt => ?_⟩
  · have : nK (slZ S' (fun _ => false) (kf 0)) 26 = nK (fun _ => false) 26 := nK_cg 26 (fun j hj => by
      show (S' j && (!false && !decide (j = kf 0))) = false
      cases e : S' j
      · rfl
      · rw [hS j e]; simp)
    rw [this, z0]
    omega
  · rcases q with q | q
    · cases q
    · rw [q, lax] at hlt
      have := laN_lt (kf := kf) 1 y
      omega
/-- the whole row -/
theorem SLK_run (hk : h ≤ k) (h0 : 1 ≤ h) (hk2 : k < 1000) (hn : n ≤ 300) (hkf : ∀ i, i < n → kf i < 26) : ∀ (m : Nat) (s : SD) (S : Nat → Bool) (mi b c : Nat), m ≤ n → LR kf k (n - m) s → bP h kf m (n - m) S c → nK S 26 ≤ h → SLK kf k h (n - m) S mi b → s.2.2.1 = nI (n - m) - nI mi → mi ≤ n - m → ∃ mi' S', SLK kf k h n S' mi' (b + c) ∧ (sFeed 0 (nI k) ask kf n m s).2.2.1 = nI n - nI mi' ∧ mi' ≤ n
  | 0, s, S, mi, b, c, _, hL, hP, hS, hg, hh, hmi => by
    have hP : c = 0 := hP
    rw [Nat.sub_zero] at hg hh hmi
    exact ⟨mi, S, by rw [hP]; exact hg, hh, hmi⟩
  | m + 1, s, S, mi, b, c, hm, hL, hP, hS, hg, hh, hmi => by
    have hmi' : (if bt s.1 (kf (n - (m + 1))) = true then mi else mi + 1) ≤ n - m := by split <;> omega
    have hi : n - (m + 1) < n := by omega
    have hx := hkf _ hi
    have e1 : n - m = n - (m + 1) + 1 := by omega
    have hs := hL.1
    have hL' := LR_step (ask := ask) hL hx (by omega) (by omega) hk2
    rw [← e1] at hL'
    have hh' : (sStep 0 (nI k) ask (kf (n - (m + 1))) (n - (m + 1)) s).2.2.1 = nI (n - m) - nI (if bt s.1 (kf (n - (m + 1))) = true then mi else mi + 1) := by
      have e2 : nI (n - m) = nI (n - (m + 1)) + 1 := by rw [e1]; exact (lt_iA (j := n - (m + 1)) (k := 1)).symm
      cases q : bt s.1 (kf (n - (m + 1))) with
      | true =>
        rw [(ss_hit hs hx q).2, hh, if_pos rfl, e2]
        simp only [Int32.sub_eq_add_neg]
        rw [Int32.add_assoc, Int32.add_comm (-nI mi), ← Int32.add_assoc]
      | false =>
        rw [ss_miss q, hh, if_neg (by decide), e2, show nI (mi + 1) = nI mi + 1 from (lt_iA (j := mi) (k := 1)).symm]
        simp only [Int32.sub_eq_add_neg, Int32.neg_add]
        rw [Int32.add_assoc (nI (n - (m + 1))), Int32.add_comm (-nI mi), ← Int32.add_assoc (1 : Int32)]
        rw [show (1 : Int32) + -1 = 0 by decide, Int32.zero_add]
    rcases hP with ⟨q1, q2⟩ | ⟨q1, c', rfl, q2⟩
    · have st := SLK_step hk h0 (b' := b) (S' := S) hL hx hg hS (Or.inl ⟨q1, rfl, rfl⟩)
      rw [← e1] at st q2
      exact SLK_run hk h0 hk2 hn hkf m _ S _ b c (by omega) hL' q2 hS st hh' hmi'
    · have go : ∀ S', bP h kf m (n - m) S' c' → nK S' 26 ≤ h → S' (kf (n - (m + 1))) = true → (∀ j, S' j = true → j ≠ kf (n - (m + 1)) → S j = true) → ∃ mi' S'', SLK kf k h n S'' mi' (b + (c' + 1)) ∧ (sFeed 0 (nI k) ask kf n (m + 1) s).2.2.1 = nI n - nI mi' ∧ mi' ≤ n := fun S' g1 g2 g3 g4 => by
        have st := SLK_step hk h0 (b' := b + 1) (S' := S') hL hx hg g2 (Or.inr ⟨q1, rfl, g3, g4⟩)
        rw [← e1] at st
        obtain ⟨mi', S'', r1, r2⟩ := SLK_run hk h0 hk2 hn hkf m _ S' _ (b + 1) c' (by omega) hL' g1 g2 st hh' hmi'
        exact ⟨mi', S'', by rw [show b + (c' + 1) = b + 1 + c' by omega]; exact r1, r2⟩
      rw [e1] at go
      rcases q2 with ⟨g1, g2⟩ | ⟨g1, o, g2, g3, g4⟩
      · refine go _ g2 (by rw [nK_ad q1 26 hx]; exact g1) (by show (S _ || decide (_ = _)) = true; simp) (fun j hj hne => ?_)
        have hj' : (S j || decide (j = kf (n - (m + 1)))) = true := hj
        rwa [decide_eq_false hne, Bool.or_false] at hj'
      · refine go _ g4 (by rw [nK_sw g3 q1 g2 hx]; exact hS) sw_x (fun j hj hne => ?_)
        have hj' : ((S j && !decide (j = o)) || decide (j = kf (n - (m + 1)))) = true := hj
        rw [decide_eq_false hne, Bool.or_false, Bool.and_eq_true] at hj'
        exact hj'.1
theorem slack_le (hk : h ≤ k) (h0 : 1 ≤ h) (hk2 : k < 1000) (hn : n ≤ 300) (hkf : ∀ i, i < n → kf i < 26) : ∃ mi b, mi ≤ n ∧ b ≤ n ∧ kHits kf n 0 (nI k) = nI (n - mi) ∧ kHits kf n (-1) (nI h) = nI (n - b) ∧ (k - h + 1) * mi ≤ k * b + (k - h + 1) * h := by
  obtain ⟨b, b1, b2, b3⟩ := rule_hits (rule := -1) (kf := kf) (n := n) hkf (show 0 < h by omega) (by omega)
  cases n with
  | zero =>
    have e : b = 0 := by omega
    exact ⟨0, b, Nat.le_refl _, b1, rfl, b3, by rw [e]; exact Nat.zero_le _⟩
  | succ n =>
    have hx := hkf 0 (by omega)
    have z0 : nK (fun _ => false) 26 = 0 := by decide
    rcases b2 with ⟨q1, -⟩ | ⟨-, c', rfl, ⟨q3, q4⟩ | ⟨q3, -⟩⟩
    · cases q1
    · let s0 : SD := (0, none, 0, fun _ => 0)
      let s1 : SD := sStep 0 (nI k) (sAsk kf (n + 1)) (kf 0) 0 s0
      have hL := LR_step (ask := sAsk kf (n + 1)) (kf := kf) (size := k) (t := 0) (s := s0) LR_0 hx (by omega) (by omega) hk2
      have f0 : bt s0.1 (kf 0) = false := b_0 _
      have h1 : s1.2.2.1 = 0 := ss_miss f0
      have n1 : nK (sAd (fun _ => false) (kf 0)) 26 = 1 := by rw [nK_ad rfl 26 hx, z0]
      have g := SLK_first (kf := kf) (S' := sAd (fun _ => false) (kf 0)) hk h0 hx (fun j hj => by
        have hj' : (false || decide (j = kf 0)) = true := hj
        rw [Bool.false_or] at hj'
        exact of_decide_eq_true hj')
      have e1 : n + 1 - n = 1 := by omega
      obtain ⟨mi', S', r1, r2, r3⟩ := SLK_run (ask := sAsk kf (n + 1)) hk h0 hk2 hn hkf n s1 (sAd (fun _ => false) (kf 0)) 1 1 c' (by omega) (by rw [e1]; exact hL) (by rw [e1]; exact q4) (by rw [n1]; exact h0) (by rw [e1]; exact g) (by rw [h1, e1]; decide) (by omega)
      refine ⟨mi', c' + 1, r3, b1, ?_, b3, ?_⟩
      · have r2' : kHits kf (n + 1) 0 (nI k) = nI (n + 1) - nI mi' := by
          have : sFeed 0 (nI k) (sAsk kf (n + 1)) kf (n + 1) (n + 1) s0 = sFeed 0 (nI k) (sAsk kf (n + 1)) kf (n + 1) n s1 := by
            show sFeed 0 (nI k) (sAsk kf (n + 1)) kf (n + 1) n (sStep 0 (nI k) (sAsk kf (n + 1)) (kf (n + 1 - (n + 1))) (n + 1 - (n + 1)) s0) = _
            rw [Nat.sub_self]
          show (sFeed 0 (nI k) (sAsk kf (n + 1)) kf (n + 1) (n + 1) s0).2.2.1 = _
          rw [this, r2]
        rw [r2', nI_sub r3]
      · have := SLK_fin hk h0 r1
        rw [show 1 + c' = c' + 1 by omega] at this
        exact this
    · rw [z0] at q3; exact absurd h0 (by omega)
end Cb2
