/-! ERRORS: there are none -/
section Cd1
variable {kf : Nat → Nat} {sz n m i k x o t p d : Nat} {near ub fb : Int32}
theorem nlt_nI {a b : Nat} (ha : a < 1000) (hb : b < 1000) (h : b ≤ a) : ¬ nI a < nI b := fun e => by
  have := (lt_iL (by omega) (by omega)).mp e
  omega
theorem err1_t (hn : n ≤ 300) (hkf : ∀ i, i < n → kf i < 26) (hp : 0 < sz) (h0 : sz ≤ 12) (h1 : near = kHits kf n 0 (nI sz)) (h2 : sz = 1 → ub = 0 ∧ fb = 0) (h3 : 1 < sz → ub = kHits kf n 0 (nI (sz - 1)) ∧ fb = kHits kf n 1 (nI (sz - 1))) : kErr1 kf n near ub fb (nI sz) = true := by
  have mono : ∀ (rule : Int32) (u : Int32), rule ≠ 2 → (sz = 1 → u = 0) → (1 < sz → u = kHits kf n rule (nI (sz - 1))) → ¬ kHits kf n rule (nI sz) < u := fun rule u hr g1 g2 => by
    by_cases c : sz = 1
    · rw [g1 c]
      obtain ⟨b, b1, -, b2⟩ := rule_hits (rule := rule) (kf := kf) hkf hp (by omega)
      rw [b2]
      exact nlt_nI (b := 0) (by omega) (by omega) (by omega)
    · obtain ⟨a, b, q1, q2, q3, q4⟩ := hits_mono (rule := rule) (sz := sz - 1) (kf := kf) (n := n) (by omega) (by omega) hr hkf
      rw [g2 (by omega), q3]
      rw [show sz - 1 + 1 = sz by omega] at q4
      rw [q4]
      exact nlt_nI (by omega) (by omega) q1
  have best : ∀ rule : Int32, ¬ kHits kf n (-1) (nI sz) < kHits kf n rule (nI sz) := fun rule => by
    obtain ⟨a, b, q1, q2, q3, q4⟩ := best_ge (rule := rule) (kf := kf) hn hkf hp (by omega)
    rw [q3, q4]
    exact nlt_nI (by omega) (by omega) q2
  have ph : ¬ nI n - kHits kf n (-1) (nI sz) < kPh kf (nI sz) n n 0 0 := by
    obtain ⟨b, r, q1, q2, q3, q4⟩ := phases_le (rule := -1) (kf := kf) hn hkf hp (by omega)
    have e : nI n - nI (n - b) = nI b := by rw [nI_sub (Nat.sub_le _ _)]; congr 1; omega
    rw [q3, q4, e]
    exact nlt_nI (by omega) (by omega) q2
  unfold kErr1
  rw [decide_eq_true h1.symm, decide_eq_false (mono 0 ub (by decide) (fun c => (h2 c).1) (fun c => (h3 c).1)), decide_eq_false (mono 1 fb (by decide) (fun c => (h2 c).2) (fun c => (h3 c).2)), decide_eq_false (best 0), decide_eq_false (best 1), decide_eq_false (best 2), decide_eq_false ph]
  rfl
theorem errs_0 (hn : n ≤ 300) (hkf : ∀ i, i < n → kf i < 26) : ∀ (m : Nat) (near ub fb : Int32), m ≤ 12 → near = qHL kf n (nI (12 - m)) n 0 → (m = 12 → ub = 0 ∧ fb = 0) → (m < 12 → ub = kHits kf n 0 (nI (12 - m)) ∧ fb = kHits kf n 1 (nI (12 - m))) → kErrs kf n (kCD kf n n (fun _ => 0)) m 0 near ub fb = 0
  | 0, near, ub, fb, _, _, _, _ => rfl
  | m + 1, near, ub, fb, hm, h1, h2, h3 => by
    have e1 : near + kCD kf n n (fun _ => 0) (12 - m) = kHits kf n 0 (nI (12 - m)) := by
      rw [hits_0 hn hkf (by omega) (by omega), h1]
      have := near_eq (kf := kf) (n := n) (s := 12 - (m + 1)) (by omega) hn hkf n (fun _ => 0) 0 0 (Nat.le_refl _) (by decide)
      rw [show 12 - (m + 1) + 1 = 12 - m by omega] at this
      exact this.symm
    have q := err1_t (sz := 12 - m) (near := near + kCD kf n n (fun _ => 0) (12 - m)) (ub := ub) (fb := fb) hn hkf (by omega) (by omega) e1 (fun c => h2 (by omega)) (fun c => by
      have := h3 (by omega)
      rw [show 12 - m - 1 = 12 - (m + 1) by omega]
      exact this)
    show kErrs kf n (kCD kf n n (fun _ => 0)) m (if kErr1 kf n (near + kCD kf n n (fun _ => 0) (12 - m)) ub fb (nI (12 - m)) = true then 0 + 0 else 0 + 1) (near + kCD kf n n (fun _ => 0) (12 - m)) (kHits kf n 0 (nI (12 - m))) (kHits kf n 1 (nI (12 - m))) = 0
    rw [if_pos q]
    exact errs_0 hn hkf m _ _ _ (by omega) (e1.trans (hits_0 hn hkf (by omega) (by omega))) (fun c => by omega) (fun _ => ⟨rfl, rfl⟩)
theorem errs_none (hn : n ≤ 300) (hkf : ∀ i, i < n → kf i < 26) : kErrs kf n (kCD kf n n (fun _ => 0)) 12 0 0 0 0 = 0 :=
  errs_0 hn hkf 12 0 0 0 (Nat.le_refl _) (by rw [show 12 - 12 = 0 by omega]; exact (qHL_0 n 0).symm) (fun _ => ⟨rfl, rfl⟩) (fun c => absurd c (by decide))
end Cd1
