/-! THE LAW'S OWN CACHE with sizes 1: a row, as both searches have it -/
section Fw
variable {key m room ru n i j : Nat} {mk : Bool} {q : PQ} {s : QQ} {kf kf' : Nat → Nat} {p : XP} {w u : List Nat} {c : Nat}
theorem CAN_le (h : CAN kf m (n + 1)) : CAN kf m n := fun k hk => h k (by omega)
/-- one step, its cache and its code -/
theorem QPC_step (h : QPR mk q s) (hm : NMK mk s) (hc : QC c room s) (h1 : 1 ≤ room) (h6 : room ≤ 6) (hk : key < 6) : ∃ s', QPR mk (pAskQ (if mk = true then 3 else 2) room (fun _ => 1) key q) s' ∧ NMK mk s' ∧ QC (kBh mk room c key) room s' ∧ (pAskQ (if mk = true then 3 else 2) room (fun _ => 1) key q).2.2.2.2 = q.2.2.2.2 + (htk c key).toNat := by
  obtain ⟨a1, a2, a3⟩ := QPR_step (key := key) (room := room) h hm hc.2.2 h1 hc.2.1 h6
  have g := QC_step (mk := mk) (key := key) (l := room - 1) (c := c) (q := s) (by rw [Nat.sub_add_cancel h1]; exact hc) (by omega) hk
  rw [Nat.sub_add_cancel h1] at g
  refine ⟨_, a1, a2, g.2, ?_⟩
  rw [a3, g.1]
  unfold htk
  rw [beq_e]
theorem row_X (hp : XPO p) : ∀ n, n ≤ 12 → CAN kf p.2.2.2 n → ∃ s0 s1, (QPR p.1 (pRunQ (if p.1 = true then 3 else 2) p.2.1 (fun _ => 1) kf n) s0 ∧ NMK p.1 s0 ∧ QC (fL (xR p (rwL kf n)).1) p.2.1 s0) ∧ (QPR p.1 (pRunQ (if p.1 = true then 3 else 2) p.2.2.1 (fun _ => 1) kf n) s1 ∧ NMK p.1 s1 ∧ QC (fG (xR p (rwL kf n)).1) p.2.2.1 s1) ∧ (xR p (rwL kf n)).2 + (pRunQ (if p.1 = true then 3 else 2) p.2.2.1 (fun _ => 1) kf n).2.2.2.2 = 16 + (pRunQ (if p.1 = true then 3 else 2) p.2.1 (fun _ => 1) kf n).2.2.2.2
  | 0, _, _ => ⟨(0, (fun _ => 0), fun _ => false), (0, (fun _ => 0), fun _ => false), ⟨⟨rfl, rfl, fun i hi => absurd hi (Nat.not_lt_zero _)⟩, fun _ _ => rfl, QC_0⟩, ⟨⟨rfl, rfl, fun i hi => absurd hi (Nat.not_lt_zero _)⟩, fun _ _ => rfl, (show QC (0 / 65536 % 16777216) _ _ from QC_0)⟩, rfl⟩
  | n + 1, hn, hC => by
    obtain ⟨s0, s1, ⟨a1, a2, a3⟩, ⟨b1, b2, b3⟩, e⟩ := row_X hp n (by omega) (CAN_le hC)
    have hcan := (rwL_A hp n (CAN_le hC)).1
    have hk5 : kf n < 5 := by
      have := (hC n (by omega)).1
      have := hp.2.2.2.2
      omega
    have hCV := xR_CV hp _ hcan
    have hf := xN_f hp hCV hk5
    obtain ⟨s0', c1, c2, c3, c4⟩ := QPC_step (key := kf n) a1 a2 a3 hp.1 (by have := hp.2.1; omega) (by omega)
    obtain ⟨s1', d1, d2, d3, d4⟩ := QPC_step (key := kf n) b1 b2 b3 hp.2.2.1 hp.2.2.2.1 (by omega)
    have hb := xR_b (p := p) (u := rwL kf n)
    rw [rwL_len] at hb
    have t1 := tN (htk (fG (xR p (rwL kf n)).1) (kf n))
    refine ⟨s0', s1', ⟨c1, c2, ?_⟩, ⟨d1, d2, ?_⟩, ?_⟩
    · show QC (fL (xN p (xR p (rwL kf n)).1 (kf n))) _ _
      rw [hf.1]; exact c3
    · show QC (fG (xN p (xR p (rwL kf n)).1 (kf n))) _ _
      rw [hf.2.1]; exact d3
    · show xD (xR p (rwL kf n)).1 (xR p (rwL kf n)).2 (kf n) + (pAskQ _ _ _ _ _).2.2.2.2 = 16 + (pAskQ _ _ _ _ _).2.2.2.2
      rw [c4, d4]
      unfold xD
      omega
/-- which rows shame -/
theorem row_lt (hp : XPO p) (hn : n ≤ 12) (hC : CAN kf p.2.2.2 n) : 16 < (xR p (rwL kf n)).2 ↔ (pRunQ (if p.1 = true then 3 else 2) p.2.2.1 (fun _ => 1) kf n).2.2.2.2 < (pRunQ (if p.1 = true then 3 else 2) p.2.1 (fun _ => 1) kf n).2.2.2.2 := by
  obtain ⟨s0, s1, -, -, e⟩ := row_X hp n hn hC
  omega
theorem rwL_cg : ∀ n, (∀ k, k < n → kf' k = kf k) → rwL kf' n = rwL kf n
  | 0, _ => rfl
  | n + 1, h => by
    show kf' n :: rwL kf' n = kf n :: rwL kf n
    rw [h n (by omega), rwL_cg n (fun k hk => h k (by omega))]
/-- a row of the search as one of the law -/
theorem can_kf (hp : XPO p) : ∀ w, xCan p w → CAN (fun i => w.reverse.getD i 0) p.2.2.2 w.length ∧ rwL (fun i => w.reverse.getD i 0) w.length = w
  | [], _ => ⟨fun k hk => absurd hk (Nat.not_lt_zero _), rfl⟩
  | k :: u, h => by
    obtain ⟨h1, h2⟩ := can_kf hp u h.1
    have ea : ∀ j, j < u.length → (k :: u).reverse.getD j 0 = u.reverse.getD j 0 := fun j hj => by
      rw [List.reverse_cons]
      exact gd_a _ _ _ (by rw [List.length_reverse]; exact hj)
    have el : (k :: u).reverse.getD u.length 0 = k := by
      rw [List.reverse_cons]
      have := gd_l u.reverse k 0
      rw [List.length_reverse] at this
      exact this
    have er : rwL (fun i => (k :: u).reverse.getD i 0) u.length = u := (rwL_cg u.length ea).trans h2
    have em : mxK (fun i => (k :: u).reverse.getD i 0) u.length = fA (xR p u).1 := by
      rw [mxK_cg u.length ea, ← (rwL_A hp u.length h1).2, h2]
    refine ⟨fun j hj => ?_, ?_⟩
    · have hj' : j < u.length + 1 := hj
      by_cases e : j = u.length
      · rw [e]
        show (k :: u).reverse.getD u.length 0 < _ ∧ (k :: u).reverse.getD u.length 0 ≤ _
        rw [el, em]
        exact h.2
      · have := h1 j (by omega)
        show (k :: u).reverse.getD j 0 < _ ∧ (k :: u).reverse.getD j 0 ≤ _
        rw [ea j (by omega), mxK_cg j (fun i hi => ea i (by omega))]
        exact this
    · show (k :: u).reverse.getD u.length 0 :: rwL (fun i => (k :: u).reverse.getD i 0) u.length = k :: u
      rw [el, er]
end Fw
