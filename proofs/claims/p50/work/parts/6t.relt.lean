/-! THE RELATION, rows that shame: the reference's queues and the class's codes -/
def cqf : Nat → (Nat → Nat) → (Nat → Bool) → Nat
  | 0, _, _ => 0
  | m + 1, K, B => cqf m K B + (K m + 1 + (if B m = true then 8 else 0)) * 16 ^ m
/-- keys that are unlike -/
def KD (m : Nat) (K : Nat → Nat) : Prop := (∀ i, i < m → K i < 6) ∧ ∀ i j, i < m → j < m → K i = K j → i = j
/-- a queue and its code -/
def QC (c room : Nat) (q : QQ) : Prop := c = cqf q.1 q.2.1 q.2.2 ∧ q.1 ≤ room ∧ KD q.1 q.2.1
section Ryf
variable {a b n i j k m c p t l g key room : Nat} {K K' : Nat → Nat} {B B' : Nat → Bool} {mk : Bool} {q : QQ}
theorem cqf_s : cqf (m + 1) K B = cqf m K B + (K m + 1 + (if B m = true then 8 else 0)) * 16 ^ m := rfl
theorem cqf_cg : ∀ (m : Nat), (∀ i, i < m → K i = K' i ∧ B i = B' i) → cqf m K B = cqf m K' B'
  | 0, _ => rfl
  | m + 1, h => by rw [cqf_s, cqf_s, cqf_cg m (fun i hi => h i (by omega)), (h m (by omega)).1, (h m (by omega)).2]
theorem cqf_lt : ∀ (m : Nat), (∀ i, i < m → K i < 6) → cqf m K B < 16 ^ m
  | 0, _ => Nat.one_pos
  | m + 1, h => by
    have h1 := cqf_lt m (fun i hi => h i (by omega))
    have h2 := h m (by omega)
    have : (K m + 1 + (if B m = true then 8 else 0)) * 16 ^ m ≤ 15 * 16 ^ m := Nat.mul_le_mul_right _ (by split <;> omega)
    rw [cqf_s, Nat.pow_succ]
    omega
theorem cqf_split : ∀ (m : Nat), cqf (m + 1) K B = (K 0 + 1 + (if B 0 = true then 8 else 0)) + 16 * cqf m (fun i => K (i + 1)) (fun i => B (i + 1))
  | 0 => by
    rw [cqf_s, Nat.pow_zero, Nat.mul_one]
    show 0 + _ = _ + 16 * 0
    rw [Nat.zero_add, Nat.mul_zero]
    rfl
  | m + 1 => by
    rw [cqf_s, cqf_split m, cqf_s (K := fun i => K (i + 1)), Nat.pow_succ, Nat.mul_add, Nat.add_assoc]
    congr 2
    show _ * (16 ^ m * 16) = 16 * (_ * 16 ^ m)
    rw [← Nat.mul_assoc, Nat.mul_comm]
theorem cqf_sh (h : K 0 < 6) : cqf (m + 1) K B >>> 4 = cqf m (fun i => K (i + 1)) (fun i => B (i + 1)) := by
  rw [cqf_split, Nat.shiftRight_eq_div_pow]
  have : (K 0 + 1 + (if B 0 = true then 8 else 0)) < 16 := by split <;> omega
  omega
theorem cqf_7 (h : K 0 < 6) : cqf (m + 1) K B &&& 7 = K 0 + 1 := by
  rw [cqf_split, and_7]
  split <;> omega
theorem cqf_8 (h : K 0 < 6) : (cqf (m + 1) K B &&& 8 = 0) ↔ B 0 = false := by
  rw [cqf_split, and_8]
  cases B 0 with
  | true => show (K 0 + 1 + 8 + 16 * _) / 8 % 2 = 0 ↔ _; constructor
            · intro e; omega
            · intro e; cases e
  | false => show (K 0 + 1 + 0 + 16 * _) / 8 % 2 = 0 ↔ _; constructor
             · intro _; rfl
             · intro _; omega
/-- the place of a key -/
def fstK (K : Nat → Nat) (key : Nat) : Nat → Nat → Nat
  | 0, _ => 6
  | m + 1, i => if K i = key then i else fstK K key m (i + 1)
theorem fstK_sh : ∀ (m i : Nat), (m = 0 ∨ i + m ≤ 5) → fstK (fun j => K (j + 1)) key m i = (if fstK K key m (i + 1) = 6 then 6 else fstK K key m (i + 1) - 1)
  | 0, i, _ => rfl
  | m + 1, i, h => by
    show (if K (i + 1) = key then i else fstK (fun j => K (j + 1)) key m (i + 1)) = (if (if K (i + 1) = key then i + 1 else fstK K key m (i + 1 + 1)) = 6 then 6 else (if K (i + 1) = key then i + 1 else fstK K key m (i + 1 + 1)) - 1)
    by_cases q : K (i + 1) = key
    · rw [if_pos q, if_pos q, if_neg (by omega)]; rfl
    · rw [if_neg q, if_neg q]
      exact fstK_sh m (i + 1) (by omega)
theorem fstK_b : ∀ (m i : Nat), fstK K key m i = 6 ∨ (i ≤ fstK K key m i ∧ fstK K key m i < i + m ∧ K (fstK K key m i) = key)
  | 0, i => Or.inl rfl
  | m + 1, i => by
    show (if K i = key then i else fstK K key m (i + 1)) = 6 ∨ (i ≤ (if K i = key then i else fstK K key m (i + 1)) ∧ (if K i = key then i else fstK K key m (i + 1)) < i + (m + 1) ∧ K (if K i = key then i else fstK K key m (i + 1)) = key)
    by_cases q : K i = key
    · rw [if_pos q]; exact Or.inr ⟨Nat.le_refl _, by omega, q⟩
    · rw [if_neg q]
      rcases fstK_b m (i + 1) with h | h
      · exact Or.inl h
      · exact Or.inr ⟨by omega, by omega, h.2.2⟩
theorem fstK_6 : ∀ (m i : Nat), i + m ≤ 6 → (fstK K key m i = 6 ↔ ∀ j, i ≤ j → j < i + m → K j ≠ key)
  | 0, i, _ => ⟨fun _ j h1 h2 => by omega, fun _ => rfl⟩
  | m + 1, i, h => by
    show (if K i = key then i else fstK K key m (i + 1)) = 6 ↔ _
    by_cases q : K i = key
    · rw [if_pos q]
      exact ⟨fun e => by omega, fun e => absurd q (e i (Nat.le_refl _) (by omega))⟩
    · rw [if_neg q, fstK_6 m (i + 1) (by omega)]
      constructor
      · intro e j h1 h2
        by_cases ej : j = i
        · rw [ej]; exact q
        · exact e j (by omega) (by omega)
      · intro e j h1 h2
        exact e j (by omega) (by omega)
theorem kPl_0c : ∀ f, kPl (k + 1) f 0 = 6
  | 0 => rfl
  | f + 1 => by
    rw [kPl_s, beq_e, show (0 : Nat) &&& 7 = 0 from rfl, decide_eq_false (by omega)]
    exact kPl_0c f
theorem kPl_cq (hk : key < 6) : ∀ (m f : Nat) (K : Nat → Nat) (B : Nat → Bool), m ≤ f → f ≤ 6 → (∀ i, i < m → K i < 6) → kPl (key + 1) f (cqf m K B) = if fstK K key m 0 = 6 then 6 else fstK K key m 0 + (6 - f)
  | 0, f, K, B, _, _, _ => kPl_0c f
  | m + 1, 0, K, B, h, _, _ => by omega
  | m + 1, f + 1, K, B, h, h6, hK => by
    have h0 := hK 0 (by omega)
    rw [kPl_s, beq_e, cqf_7 h0, cqf_sh h0, kPl_cq hk m f _ _ (by omega) (by omega) (fun i hi => hK (i + 1) (by omega))]
    show _ = if (if K 0 = key then 0 else fstK K key m (0 + 1)) = 6 then 6 else (if K 0 = key then 0 else fstK K key m (0 + 1)) + (6 - (f + 1))
    by_cases q : K 0 = key
    · rw [decide_eq_true (by omega), if_pos q]
      show 5 - f = (if (0 : Nat) = 6 then 6 else 0 + (6 - (f + 1)))
      rw [if_neg (by omega)]
      omega
    · rw [decide_eq_false (by omega), if_neg q, fstK_sh m 0 (by omega)]
      show (if (if fstK K key m (0 + 1) = 6 then 6 else fstK K key m (0 + 1) - 1) = 6 then 6 else (if fstK K key m (0 + 1) = 6 then 6 else fstK K key m (0 + 1) - 1) + (6 - f)) = _
      rcases fstK_b (K := K) (key := key) m (0 + 1) with e | e
      · rw [if_pos e, if_pos e, if_pos rfl]
      · rw [if_neg (c := fstK K key m (0 + 1) = 6) (by omega), if_neg (by omega), if_neg (by omega)]
        omega
theorem kPl_end : ∀ (m f : Nat) (K : Nat → Nat) (B : Nat → Bool), m ≤ f → f ≤ 6 → (∀ i, i < m → K i < 6) → kPl 0 f (cqf m K B) = m + (6 - f)
  | 0, 0, K, B, _, _, _ => rfl
  | 0, f + 1, K, B, _, h6, _ => by
    rw [kPl_s, beq_e]
    show cond (decide ((0 : Nat) &&& 7 = 0)) (5 - f) _ = _
    rw [decide_eq_true (by rfl)]
    show 5 - f = _
    omega
  | m + 1, 0, K, B, h, _, _ => by omega
  | m + 1, f + 1, K, B, h, h6, hK => by
    have h0 := hK 0 (by omega)
    rw [kPl_s, beq_e, cqf_7 h0, cqf_sh h0, kPl_end m f _ _ (by omega) (by omega) (fun i hi => hK (i + 1) (by omega)), decide_eq_false (by omega)]
    show m + (6 - f) = _
    omega
/-- a turn of a queue -/
theorem cqf_turn (h : ∀ i, i < l + 1 → K i < 6) : cqf (l + 1) K B >>> 4 ||| (key + 1) <<< (4 * l) = cqf (l + 1) (qTK (l + 1) key K) (qTB (l + 1) B) := by
  rw [cqf_sh (h 0 (by omega)), sl_16, or_add (cqf_lt l (fun i hi => h (i + 1) (by omega))), cqf_s]
  have e1 : cqf l (fun i => K (i + 1)) (fun i => B (i + 1)) = cqf l (qTK (l + 1) key K) (qTB (l + 1) B) := cqf_cg l (fun i hi => by
    unfold qTK qTB
    rw [if_pos (by omega), if_pos (by omega)]
    exact ⟨rfl, rfl⟩)
  have e2 : qTK (l + 1) key K l = key := by unfold qTK; rw [if_neg (by omega), if_pos rfl]
  have e3 : qTB (l + 1) B l = false := by unfold qTB; rw [if_neg (by omega), if_pos rfl]
  rw [e1, e2, e3]
  rfl
theorem KD_turn (h : KD (m + 1) K) (hk : key < 6) (hn : ∀ i, i < m → K (i + 1) ≠ key) : KD (m + 1) (qTK (m + 1) key K) := by
  have e : ∀ i, i < m + 1 → qTK (m + 1) key K i = if i < m then K (i + 1) else key := by
    intro i hi
    unfold qTK
    by_cases q : i < m
    · rw [if_pos (by omega), if_pos q]
    · rw [if_neg (by omega), if_pos (by omega), if_neg q]
  refine ⟨fun i hi => ?_, fun i j hi hj hij => ?_⟩
  · rw [e i hi]
    split
    · exact h.1 _ (by omega)
    · exact hk
  · rw [e i hi, e j hj] at hij
    by_cases q1 : i < m
    · by_cases q2 : j < m
      · rw [if_pos q1, if_pos q2] at hij
        have := h.2 (i + 1) (j + 1) (by omega) (by omega) hij
        omega
      · rw [if_pos q1, if_neg q2] at hij
        exact absurd hij (hn i q1)
    · by_cases q2 : j < m
      · rw [if_neg q1, if_pos q2] at hij
        exact absurd hij.symm (hn j q2)
      · omega
theorem qTK_ne (hn : ∀ i, i < m + 1 → K i ≠ b) (hk : key ≠ b) : ∀ i, i < m + 1 → qTK (m + 1) key K i ≠ b := by
  intro i hi
  unfold qTK
  split
  · exact hn _ (by omega)
  · split
    · exact hk
    · exact hn _ hi
/-- turned until no mark stands first -/
theorem cqf_spin (hb : b < 6) : ∀ (f : Nat) (K : Nat → Nat) (B : Nat → Bool), KD (l + 1) K → (∀ i, i < l + 1 → K i ≠ b) → kTu (4 * l) f (cqf (l + 1) K B) = cqf (l + 1) (qSpin (l + 1) f K B).1 (qSpin (l + 1) f K B).2 ∧ KD (l + 1) (qSpin (l + 1) f K B).1 ∧ ∀ i, i < l + 1 → (qSpin (l + 1) f K B).1 i ≠ b
  | 0, K, B, h, hn => ⟨rfl, h, hn⟩
  | f + 1, K, B, h, hn => by
    have h0 := h.1 0 (by omega)
    have h8 := cqf_8 (m := l) (B := B) h0
    rw [kTu_s, beq_e]
    cases e : B 0 with
    | true =>
      have es : qSpin (l + 1) (f + 1) K B = qSpin (l + 1) f (qTK (l + 1) (K 0) K) (qTB (l + 1) B) := by
        show (if B 0 = true then _ else _) = _
        rw [if_pos e]
      rw [es, decide_eq_false (fun q => by rw [h8.mp q] at e; cases e), cqf_7 h0]
      show kTu (4 * l) f (cqf (l + 1) K B >>> 4 ||| (K 0 + 1) <<< (4 * l)) = _ ∧ _
      rw [cqf_turn h.1]
      refine cqf_spin hb f _ _ (KD_turn h h0 (fun i hi q => ?_)) (qTK_ne hn (hn 0 (by omega)))
      have := h.2 (i + 1) 0 (by omega) (by omega) q
      omega
    | false =>
      have es : qSpin (l + 1) (f + 1) K B = (K, B) := by
        show (if B 0 = true then _ else _) = _
        rw [if_neg (by rw [e]; decide)]
      rw [es, decide_eq_true (h8.mpr e)]
      exact ⟨rfl, h, hn⟩
theorem qHit_i : ∀ (m : Nat), qHitQ K key m = true ↔ ∃ i, i < m ∧ K i = key
  | 0 => ⟨(fun e => by cases e), (fun ⟨i, h, _⟩ => by omega)⟩
  | m + 1 => by
    show (qHitQ K key m || decide (K m = key)) = true ↔ _
    rw [Bool.or_eq_true, qHit_i m, decide_eq_true_eq]
    constructor
    · rintro (⟨i, h1, h2⟩ | h)
      · exact ⟨i, by omega, h2⟩
      · exact ⟨m, by omega, h⟩
    · rintro ⟨i, h1, h2⟩
      by_cases q : i = m
      · rw [q] at h2; exact Or.inr h2
      · exact Or.inl ⟨i, by omega, h2⟩
/-- a mark set -/
theorem cqf_mark (hp : p < m) (h : ∀ i, i < m → K i < 6) (hB : ∀ i, i < m → B' i = (B i || decide (i = p))) : cqf m K B ||| 8 <<< (4 * p) = cqf m K B' := by
  have key : ∀ (m : Nat), (∀ i, i < m → K i < 6) → (∀ i, i < m → B' i = (B i || decide (i = p))) → cqf m K B' = if p < m then (if B p = true then cqf m K B else cqf m K B + 8 * 16 ^ p) else cqf m K B := by
    intro m
    induction m with
    | zero => intro _ _; rw [if_neg (by omega)]; rfl
    | succ m ih =>
      intro h hB
      have ih := ih (fun i hi => h i (by omega)) (fun i hi => hB i (by omega))
      rw [cqf_s, cqf_s, ih, hB m (by omega)]
      by_cases q1 : p < m
      · rw [if_pos q1, if_pos (c := p < m + 1) (by omega), decide_eq_false (by omega), Bool.or_false]
        by_cases z : B p = true
        · rw [if_pos z, if_pos z]
        · rw [if_neg z, if_neg z]
          omega
      · rw [if_neg q1]
        by_cases q2 : p = m
        · rw [if_pos (c := p < m + 1) (by omega), decide_eq_true q2.symm, Bool.or_true, if_pos rfl, q2]
          cases B m with
          | true => rfl
          | false =>
            show _ + (K m + 1 + 8) * 16 ^ m = _ + (K m + 1) * 16 ^ m + 8 * 16 ^ m
            rw [Nat.add_mul (K m + 1) 8]; omega
        · rw [if_neg (c := p < m + 1) (by omega), decide_eq_false (by omega), Bool.or_false]
  have at8 : ∀ (m : Nat) (K : Nat → Nat) (B : Nat → Bool), (∀ i, i < m → K i < 6) → ∀ p, p < m → (cqf m K B).testBit (4 * p + 3) = B p := by
    intro m
    induction m with
    | zero => intro K B _ p hp; omega
    | succ m ih =>
      intro K B h p hp
      have h0 := h 0 (by omega)
      cases p with
      | zero =>
        have e8 := cqf_8 (m := m) (B := B) h0
        have : ∀ x : Nat, x.testBit 3 = decide (x / 8 % 2 = 1) := fun x => by rw [Nat.testBit_eq_decide_div_mod_eq]
        rw [show 4 * 0 + 3 = 3 from rfl, this]
        rw [and_8] at e8
        cases q : B 0 with
        | true => refine decide_eq_true ?_; rw [q] at e8; have : ¬ cqf (m + 1) K B / 8 % 2 = 0 := fun z => by cases e8.mp z
                  omega
        | false => refine decide_eq_false ?_; have := e8.mpr q; omega
      | succ p =>
        rw [show 4 * (p + 1) + 3 = 4 + (4 * p + 3) by omega, ← Nat.testBit_shiftRight, cqf_sh h0]
        exact ih _ _ (fun i hi => h (i + 1) (by omega)) p (by omega)
  rw [key m h hB, if_pos hp]
  have e8 : (8 : Nat) <<< (4 * p) = 2 ^ (4 * p + 3) := by rw [Nat.shiftLeft_eq, Nat.pow_add, Nat.mul_comm]
  have hb := at8 m K B h p hp
  rw [e8]
  cases q : B p with
  | true =>
    rw [if_pos rfl]
    apply Nat.eq_of_testBit_eq
    intro i
    rw [Nat.testBit_or, Nat.testBit_two_pow]
    by_cases z : 4 * p + 3 = i
    · rw [decide_eq_true z, Bool.or_true, ← z, hb, q]
    · rw [decide_eq_false z, Bool.or_false]
  | false =>
    rw [if_neg (by decide)]
    have hx : 8 * 16 ^ p = 2 ^ (4 * p + 3) := by rw [Nat.pow_add, Nat.pow_mul, Nat.mul_comm]
    rw [hx]
    rw [q] at hb
    generalize cqf m K B = x at hb
    generalize 4 * p + 3 = n at hb
    -- x has no bit n: or is plus
    have hxd : x = (x / 2 ^ (n + 1)) * 2 ^ (n + 1) + x % 2 ^ n := by
      have h1 := Nat.div_add_mod x (2 ^ n)
      have h2 : x / 2 ^ n % 2 = 0 := by
        rw [Nat.testBit_eq_decide_div_mod_eq] at hb
        have := of_decide_eq_false hb
        omega
      have h3 : x / 2 ^ (n + 1) = x / 2 ^ n / 2 := by rw [Nat.pow_succ, Nat.div_div_eq_div_mul]
      rw [h3, Nat.pow_succ]
      have h4 : x / 2 ^ n = 2 * (x / 2 ^ n / 2) := by omega
      have h5 : x / 2 ^ n / 2 * (2 ^ n * 2) = 2 ^ n * (x / 2 ^ n) := by
        rw [Nat.mul_comm (2 ^ n) 2, ← Nat.mul_assoc, Nat.mul_comm _ 2, ← h4, Nat.mul_comm]
      omega
    apply Nat.eq_of_testBit_eq
    intro i
    have hlow : x % 2 ^ n < 2 ^ n := Nat.mod_lt _ (Nat.two_pow_pos n)
    have e1 : x + 2 ^ n = 2 ^ n * (2 * (x / 2 ^ (n + 1)) + 1) + x % 2 ^ n := by
      rw [Nat.mul_add, Nat.mul_one, ← Nat.mul_assoc, ← Nat.pow_succ, Nat.mul_comm (2 ^ (n + 1))]
      omega
    have e2 : x = 2 ^ n * (2 * (x / 2 ^ (n + 1))) + x % 2 ^ n := by
      rw [← Nat.mul_assoc, ← Nat.pow_succ, Nat.mul_comm (2 ^ (n + 1))]
      exact hxd
    rw [Nat.testBit_or, Nat.testBit_two_pow, e1, Nat.testBit_two_pow_mul_add _ hlow]
    conv => lhs; rw [e2]
    rw [Nat.testBit_two_pow_mul_add _ hlow]
    by_cases z : i < n
    · rw [if_pos z, if_pos z, decide_eq_false (by omega), Bool.or_false]
    · rw [if_neg z, if_neg z]
      by_cases z2 : n = i
      · rw [decide_eq_true z2, Bool.or_true, show i - n = 0 by omega, Nat.testBit_zero]
        exact (decide_eq_true (by omega)).symm
      · rw [decide_eq_false z2, Bool.or_false, show i - n = (i - n - 1) + 1 by omega, Nat.testBit_succ, Nat.testBit_succ]
        congr 1
        omega
theorem QC_0 : QC 0 room (0, K, B) := ⟨rfl, Nat.zero_le _, fun i h => absurd h (Nat.not_lt_zero i), fun i j h => absurd h (Nat.not_lt_zero i)⟩
/-- one more request in a queue, and in its code -/
theorem QC_step (h : QC c (l + 1) q) (hl : l ≤ 5) (hk : key < 6) : (qStp mk (l + 1) key q).1 = !decide (kPl (key + 1) 6 c = 6) ∧ QC (kBh mk (l + 1) c key) (l + 1) (qStp mk (l + 1) key q).2 := by
  obtain ⟨m, K, B⟩ := q
  obtain ⟨rfl, hm, hD⟩ := h
  have hm6 : m ≤ 6 := by have : m ≤ l + 1 := hm; omega
  have hm' : m ≤ l + 1 := hm
  have hD' : KD m K := hD
  have e6 := fstK_6 (K := K) (key := key) m 0 (by omega)
  have ep := kPl_cq hk m 6 K B (by omega) (Nat.le_refl _) hD'.1
  rw [show 6 - 6 = 0 from rfl, Nat.add_zero] at ep
  have ep' : kPl (key + 1) 6 (cqf m K B) = fstK K key m 0 := by rw [ep]; split <;> omega
  have en := kPl_end m 6 K B (by omega) (Nat.le_refl _) hD'.1
  rw [show 6 - 6 = 0 from rfl, Nat.add_zero] at en
  unfold qStp
  show (if qHitQ K key m = true then _ else _ : Bool × QQ).1 = !decide (kPl (key + 1) 6 (cqf m K B) = 6) ∧ QC (kBh mk (l + 1) (cqf m K B) key) (l + 1) (if qHitQ K key m = true then _ else _ : Bool × QQ).2
  unfold kBh
  rw [show Nat.succ key = key + 1 from rfl, ep', en, beq_e]
  by_cases q1 : qHitQ K key m = true
  · obtain ⟨i, hi1, hi2⟩ := (qHit_i m).mp q1
    have hne : ¬ fstK K key m 0 = 6 := fun e => (e6.mp e) i (Nat.zero_le _) (by omega) hi2
    rcases fstK_b (K := K) (key := key) m 0 with hb | hb
    · exact absurd hb hne
    · rw [if_pos q1, decide_eq_false hne]
      refine ⟨rfl, ?_, hm', hD'⟩
      show cond mk (cqf m K B ||| 8 <<< (4 * fstK K key m 0)) (cqf m K B) = cqf m K (qMk mk key K B)
      cases mk with
      | true =>
        refine cqf_mark (by omega) hD'.1 (fun j hj => ?_)
        unfold qMk
        rw [Bool.true_and]
        congr 1
        refine decide_eq_decide.mpr ⟨fun e => hD'.2 j _ hj (by omega) (e.trans hb.2.2.symm), fun e => by rw [e]; exact hb.2.2⟩
      | false =>
        refine cqf_cg m (fun j hj => ⟨rfl, ?_⟩)
        unfold qMk
        rw [Bool.false_and, Bool.or_false]
  · have hno : ∀ j, j < m → K j ≠ key := fun j hj e => q1 ((qHit_i m).mpr ⟨j, hj, e⟩)
    have h6 : fstK K key m 0 = 6 := e6.mpr (fun j _ hj => hno j (by omega))
    rw [if_neg q1, decide_eq_true h6]
    have eB : ∀ m', m' ≤ m → cqf m' K B = cqf m' K (qMk mk key K B) := fun m' hm2 => cqf_cg m' (fun j hj => ⟨rfl, by
      unfold qMk
      rw [decide_eq_false (hno j (by omega)), Bool.and_false, Bool.or_false]⟩)
    by_cases q2 : m = l + 1
    · have hsp := cqf_spin hk m K (qMk mk key K B) (l := l) (by rw [← q2]; exact hD') (fun i hi => hno i (by omega))
      rw [show Nat.ble (l + 1) m = true from Nat.ble_eq.mpr (by omega)]
      show (if m = l + 1 then _ else _ : Bool × QQ).1 = false ∧ QC ((kTu (4 * l) (l + 1) (cqf m K B)) >>> 4 ||| (key + 1) <<< (4 * l)) (l + 1) (if m = l + 1 then _ else _ : Bool × QQ).2
      rw [if_pos q2]
      refine ⟨rfl, ?_⟩
      have e2 : kTu (4 * l) (l + 1) (cqf m K B) = cqf (l + 1) (qSpin m m K (qMk mk key K B)).1 (qSpin m m K (qMk mk key K B)).2 := by
        rw [eB m (Nat.le_refl _)]
        have := hsp.1
        rw [← q2] at this ⊢
        exact this
      rw [e2, cqf_turn (by rw [← q2] at hsp; rw [← q2]; exact hsp.2.1.1)]
      refine ⟨?_, ?_, ?_⟩
      · show _ = cqf m (qTK m key (qSpin m m K (qMk mk key K B)).1) (qTB m (qSpin m m K (qMk mk key K B)).2)
        rw [q2]
      · show m ≤ l + 1
        omega
      · show KD m (qTK m key (qSpin m m K (qMk mk key K B)).1)
        have h2 := hsp.2.1
        have h3 := hsp.2.2
        subst q2
        exact KD_turn h2 hk (fun i hi => h3 (i + 1) (by omega))
    · rw [show Nat.ble (l + 1) m = false by
        cases e : Nat.ble (l + 1) m with
        | false => rfl
        | true => have := Nat.ble_eq.mp e; omega]
      show (if m = l + 1 then _ else _ : Bool × QQ).1 = false ∧ QC (cqf m K B ||| (key + 1) <<< (4 * m)) (l + 1) (if m = l + 1 then _ else _ : Bool × QQ).2
      rw [if_neg q2]
      refine ⟨rfl, ?_, ?_, ?_, ?_⟩
      · show _ = cqf (m + 1) (fun i => if i = m then key else K i) (fun i => if i = m then false else qMk mk key K B i)
        rw [sl_16, or_add (cqf_lt m hD'.1), cqf_s, if_pos rfl, if_pos rfl]
        rw [cqf_cg m (K := K) (B := B) (K' := fun i => if i = m then key else K i) (B' := fun i => if i = m then false else qMk mk key K B i) (fun j hj => ⟨by rw [if_neg (by omega)], by
          rw [if_neg (by omega)]
          unfold qMk
          rw [decide_eq_false (hno j hj), Bool.and_false, Bool.or_false]⟩)]
        rfl
      · show m + 1 ≤ l + 1
        omega
      · intro i hi
        show (if i = m then key else K i) < 6
        have hi' : i < m + 1 := hi
        split
        · exact hk
        · exact hD'.1 i (by omega)
      · intro i j hi hj
        show (if i = m then key else K i) = (if j = m then key else K j) → i = j
        have hi' : i < m + 1 := hi
        have hj' : j < m + 1 := hj
        by_cases z1 : i = m
        · by_cases z2 : j = m
          · intro _; omega
          · rw [if_pos z1, if_neg z2]
            intro e
            exact absurd e.symm (hno j (by omega))
        · by_cases z2 : j = m
          · rw [if_neg z1, if_pos z2]
            intro e
            exact absurd e (hno i (by omega))
          · rw [if_neg z1, if_neg z2]
            exact hD'.2 i j (by omega) (by omega)
end Ryf
