/-! THE RELATION, rows that shame: few codes; what the kernel reckons -/
section Ryk
noncomputable def kFr (n : Nat) (k : Nat → Bool) : Bool := Nat.rec (motive := fun _ => Bool) (k 0) (fun m _ => k (Nat.succ m)) n
noncomputable def kFn (n : Nat) (k : Nat → Nat) : Nat := Nat.rec (motive := fun _ => Nat) (k 0) (fun m _ => k (Nat.succ m)) n
noncomputable def kFl (P i : Nat) : Nat := Nat.mod (Nat.shiftRight P (Nat.mul 56 i)) 72057594037927936
noncomputable def kBs (P x f lo hi : Nat) : Nat := Nat.rec (motive := fun _ => Nat → Nat → Nat) (fun lo _ => lo) (fun _ ih lo hi => cond (Nat.ble hi (Nat.succ lo)) lo (kFn (Nat.div (Nat.add lo hi) 2) fun mid => cond (Nat.ble (Nat.div (kFl P mid) 16) x) (ih mid hi) (ih lo mid))) f lo hi
noncomputable def kXN (mk : Bool) (r0 r1 c k : Nat) : Nat := Nat.add (Nat.add (kFn (Nat.mod c 65536) fun q => kBh mk r0 q k) (Nat.mul 65536 (kFn (Nat.mod (Nat.div c 65536) 16777216) fun q => kBh mk r1 q k))) (Nat.mul 1099511627776 (cond (Nat.ble (Nat.succ k) (Nat.div c 1099511627776)) (Nat.div c 1099511627776) (Nat.succ k)))
noncomputable def kHt (c k : Nat) : Nat := kFn c fun q => cond (Nat.beq (kPl (Nat.succ k) 6 q) 6) 0 1
noncomputable def kXD (c a k : Nat) : Nat := Nat.sub (Nat.add a (kHt (Nat.mod c 65536) k)) (kHt (Nat.mod (Nat.div c 65536) 16777216) k)
/-- a pair looked up: there, and not too deep -/
noncomputable def kLk (P n x d : Nat) : Bool := kFr x fun x => kFr (kBs P x 12 0 n) fun i => kFr (kFl P i) fun e => cond (Nat.ble (Nat.succ i) n) (cond (Nat.beq (Nat.div e 16) x) (Nat.ble (Nat.mod e 16) d) false) false
noncomputable def kCkK (mk : Bool) (r0 r1 P n c a d ks : Nat) : Bool := Nat.rec (motive := fun _ => Bool) true (fun k ih => cond (cond (Nat.ble k (Nat.div c 1099511627776)) (kFr (kXD c a k) fun b => cond (Nat.ble 17 b) true (kLk P n (Nat.add (kXN mk r0 r1 c k) (Nat.mul 8796093022208 b)) (Nat.succ d))) true) ih false) ks
noncomputable def kCkE (mk : Bool) (r0 r1 ks LM P n e : Nat) : Bool := kFr e fun e => kFr (Nat.mod e 16) fun d => cond (Nat.ble LM d) true (kFr (Nat.mod (Nat.div e 16) 8796093022208) fun c => kFr (Nat.div (Nat.div e 16) 8796093022208) fun a => kCkK mk r0 r1 P n c a d ks)
noncomputable def kCkA (mk : Bool) (r0 r1 ks LM P n m : Nat) : Bool := Nat.rec (motive := fun _ => Bool) true (fun i ih => cond (kCkE mk r0 r1 ks LM P n (kFl P i)) ih false) m
noncomputable def kCk (mk : Bool) (r0 r1 ks LM P n : Nat) : Bool := cond (Nat.ble n 1199) (cond (kLk P n 140737488355328 0) (kCkA mk r0 r1 ks LM P n n) false) false
end Ryk
section Ryl
variable {a b c d e i j k m n t LM P ks r0 r1 x : Nat} {p : XP} {mk : Bool} {w : List Nat}
theorem kFr_e {n : Nat} {k : Nat → Bool} : kFr n k = k n := by cases n <;> rfl
theorem kFn_e {n : Nat} {k : Nat → Nat} : kFn n k = k n := by cases n <;> rfl
theorem cond_t {b c : Bool} (h : cond b c false = true) : b = true ∧ c = true := by
  cases b with
  | true => exact ⟨rfl, h⟩
  | false => cases h
theorem kXN_e : kXN mk r0 r1 c k = xN (mk, r0, r1, ks) c k := by
  unfold kXN
  rw [kFn_e, kFn_e]
  show kBh mk r0 (fL c) k + 65536 * kBh mk r1 (fG c) k + 1099511627776 * cond (Nat.ble (k + 1) (fA c)) (fA c) (k + 1) = kBh mk r0 (fL c) k + 65536 * kBh mk r1 (fG c) k + 1099511627776 * (if fA c < k + 1 then k + 1 else fA c)
  congr 2
  cases e : Nat.ble (k + 1) (fA c) with
  | true => have := Nat.ble_eq.mp e; rw [if_neg (by omega)]; rfl
  | false =>
    have : ¬ k + 1 ≤ fA c := fun z => by rw [Nat.ble_eq.mpr z] at e; cases e
    rw [if_pos (by omega)]; rfl
theorem kHt_e : kHt c k = (htk c k).toNat := by
  unfold kHt htk
  rw [kFn_e]
  show cond (Nat.beq (kPl (k + 1) 6 c) 6) 0 1 = _
  cases Nat.beq (kPl (k + 1) 6 c) 6 <;> rfl
theorem kXD_e : kXD c a k = xD c a k := by
  unfold kXD
  rw [kHt_e, kHt_e]
  rfl
theorem kLk_t (h : kLk P n x d = true) : kBs P x 12 0 n < n ∧ kFl P (kBs P x 12 0 n) / 16 = x ∧ kFl P (kBs P x 12 0 n) % 16 ≤ d := by
  unfold kLk at h
  rw [kFr_e, kFr_e, kFr_e] at h
  obtain ⟨h1, h2⟩ := cond_t h
  obtain ⟨h3, h4⟩ := cond_t h2
  exact ⟨Nat.ble_eq.mp h1, Nat.eq_of_beq_eq_true h3, Nat.ble_eq.mp h4⟩
theorem kCkK_t : ∀ (ks : Nat), kCkK mk r0 r1 P n c a d ks = true → ∀ k, k < ks → k ≤ fA c → xD c a k ≤ 16 → kLk P n (xN (mk, r0, r1, 0) c k + 8796093022208 * xD c a k) (d + 1) = true
  | 0, _, k, h, _, _ => absurd h (Nat.not_lt_zero k)
  | ks + 1, h, k, hk, h1, h2 => by
    have h' : cond (cond (Nat.ble ks (fA c)) (kFr (kXD c a ks) fun b => cond (Nat.ble 17 b) true (kLk P n (Nat.add (kXN mk r0 r1 c ks) (Nat.mul 8796093022208 b)) (Nat.succ d))) true) (kCkK mk r0 r1 P n c a d ks) false = true := h
    obtain ⟨g1, g2⟩ := cond_t h'
    by_cases z : k = ks
    · subst z
      rw [show Nat.ble k (fA c) = true from Nat.ble_eq.mpr h1, kFr_e, kXD_e, kXN_e (ks := 0)] at g1
      have e17 : Nat.ble 17 (xD c a k) = false := by
        cases e : Nat.ble 17 (xD c a k) with
        | false => rfl
        | true => have := Nat.ble_eq.mp e; omega
      have g1' : cond (Nat.ble 17 (xD c a k)) true (kLk P n (xN (mk, r0, r1, 0) c k + 8796093022208 * xD c a k) (d + 1)) = true := g1
      rw [e17] at g1'
      exact g1'
    · exact kCkK_t ks g2 k (by omega) h1 h2
theorem kCkA_t : ∀ (m : Nat), kCkA mk r0 r1 ks LM P n m = true → ∀ i, i < m → kCkE mk r0 r1 ks LM P n (kFl P i) = true
  | 0, _, i, h => absurd h (Nat.not_lt_zero i)
  | m + 1, h, i, hi => by
    have h' : cond (kCkE mk r0 r1 ks LM P n (kFl P m)) (kCkA mk r0 r1 ks LM P n m) false = true := h
    obtain ⟨g1, g2⟩ := cond_t h'
    by_cases z : i = m
    · rw [z]; exact g1
    · exact kCkA_t m g2 i (by omega)
/-- a table that holds says that rows come to few codes -/
theorem cap_of (hp : XPO p) (h : kCk p.1 p.2.1 p.2.2.1 p.2.2.2 LM P n = true) : CAP p LM := by
  obtain ⟨h1, h2⟩ := cond_t h
  obtain ⟨h3, h4⟩ := cond_t h2
  have hA := kCkA_t n h4
  have key : ∀ w, xOk p w → w.length ≤ LM → kBs P ((xR p w).1 + 8796093022208 * (xR p w).2) 12 0 n < n ∧ kFl P (kBs P ((xR p w).1 + 8796093022208 * (xR p w).2) 12 0 n) / 16 = (xR p w).1 + 8796093022208 * (xR p w).2 ∧ kFl P (kBs P ((xR p w).1 + 8796093022208 * (xR p w).2) 12 0 n) % 16 ≤ w.length := by
    intro w
    induction w with
    | nil =>
      intro _ _
      have e0 : (0 : Nat) + 8796093022208 * 16 = 140737488355328 := by decide
      rw [show (xR p []).1 = 0 from rfl, show (xR p []).2 = 16 from rfl, e0]
      exact kLk_t h3
    | cons k u ih =>
      intro ho hl
      have hl' : u.length + 1 ≤ LM := hl
      obtain ⟨a1, a2, a3⟩ := ih ho.1 (by omega)
      have hc := xR_lt hp ho.1
      have e := hA _ a1
      generalize kFl P (kBs P ((xR p u).1 + 8796093022208 * (xR p u).2) 12 0 n) = E at a2 a3 e
      unfold kCkE at e
      rw [kFr_e, kFr_e] at e
      have eLM : Nat.ble LM (Nat.mod E 16) = false := by
        cases z : Nat.ble LM (Nat.mod E 16) with
        | false => rfl
        | true =>
          have z' : LM ≤ E % 16 := Nat.ble_eq.mp z
          omega
      rw [eLM] at e
      have e' : kFr (Nat.mod (Nat.div E 16) 8796093022208) (fun c => kFr (Nat.div (Nat.div E 16) 8796093022208) fun a => kCkK p.1 p.2.1 p.2.2.1 P n c a (Nat.mod E 16) p.2.2.2) = true := e
      rw [kFr_e, kFr_e] at e'
      have q1 : Nat.mod (Nat.div E 16) 8796093022208 = (xR p u).1 := by
        show E / 16 % 8796093022208 = _
        rw [a2]; omega
      have q2 : Nat.div (Nat.div E 16) 8796093022208 = (xR p u).2 := by
        show E / 16 / 8796093022208 = _
        rw [a2]; omega
      rw [q1, q2] at e'
      have := kLk_t (kCkK_t _ e' k ho.2.1 ho.2.2.1 ho.2.2.2)
      have e5 : xN (p.1, p.2.1, p.2.2.1, 0) (xR p u).1 k = (xR p (k :: u)).1 := rfl
      have e6 : xD (xR p u).1 (xR p u).2 k = (xR p (k :: u)).2 := rfl
      rw [e5, e6] at this
      refine ⟨this.1, this.2.1, Nat.le_trans this.2.2 ?_⟩
      show Nat.mod E 16 + 1 ≤ u.length + 1
      exact Nat.succ_le_succ a3
  refine ⟨n, fun s => kBs P (s.1 + 8796093022208 * s.2) 12 0 n, Nat.ble_eq.mp h1, fun w ho hl => ⟨(key w ho hl).1, fun w' ho' hl' e => ?_⟩⟩
  have k1 := (key w ho hl).2.1
  have k2 := (key w' ho' hl').2.1
  rw [show kBs P ((xR p w).1 + 8796093022208 * (xR p w).2) 12 0 n = kBs P ((xR p w').1 + 8796093022208 * (xR p w').2) 12 0 n from e] at k1
  rw [k1] at k2
  have c1 := xR_lt hp ho
  have c2 := xR_lt hp ho'
  exact Prod.ext (by omega) (by omega)
end Ryl
