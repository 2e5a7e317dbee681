/-! THE CLASS, the text read -/
def tLet (c : Int32) : Bool := !decide (c < 97) && !decide (122 < c)
/-- the reading from a place on: the error, how many requests are told, their keys, which write -/
def kTx (T : Nat → Int32) (len : Nat) : Nat → Nat → Int32 → Bool → List (Nat × Nat) → Nat → (Nat → Nat) → (Nat → Bool) → Option Nat × Nat × (Nat → Nat) × (Nat → Bool)
  | 0, _, num, _, st, N, K, W => (if num = -1 ∧ st = [] then none else some len, N, K, W)
  | f + 1, p, num, beh, st, N, K, W =>
    if len ≤ p then (if num = -1 ∧ st = [] then none else some len, N, K, W) else
    if T p = 32 then kTx T len f (p + 1) num beh st N K W else
    if num = -1 then
      (if qDgt (T p) = true then
        (if kNum T len p = -1 then (some p, N, K, W) else kTx T len f (p + (if tDg T len (p + 1) = true then 2 else 1)) (kNum T len p) false st N K W)
      else if T p = 41 ∧ st ≠ [] then
        kTx T len f (p + 1) num false st.tail ((st.headD (1, N)).2 + (N - (st.headD (1, N)).2) * (st.headD (1, N)).1) (repK K N (st.headD (1, N)).2) (repW W N (st.headD (1, N)).2)
      else if T p = 33 ∧ beh = true then kTx T len f (p + 1) num false st N K (fun j => if j = N - 1 then true else W j)
      else if tLet (T p) = true then kTx T len f (p + 1) num true st (N + 1) (fun j => if j = N then lt_n (T p - 97) else K j) (fun j => if j = N then false else W j)
      else (some p, N, K, W))
    else if T p = 40 ∧ st.length < 3 then kTx T len f (p + 1) (-1) false ((lt_n num, N) :: st) N K W
    else (some p, N, K, W)
def sProd : List (Nat × Nat) → Nat
  | [] => 1
  | e :: st => e.1 * sProd st
def sPhi : List (Nat × Nat) → Nat → Nat
  | [], N => N
  | e :: st, N => (N - e.2) * (e.1 * sProd st) + sPhi st e.2
def SRT : List (Nat × Nat) → Nat → Prop
  | [], _ => True
  | e :: st, N => 1 ≤ e.1 ∧ e.1 ≤ 50 ∧ e.2 ≤ N ∧ SRT st e.2
def SRm (Z : CS) : List (Nat × Nat) → Prop
  | [] => True
  | e :: st => Z.1 4 st.length = nI e.1 ∧ Z.1 5 st.length = nI e.2 ∧ SRm Z st
section Db
variable {M : LM} {U n m i j k t p len N b : Nat} {Z Z' : CS} {v c : Int32} {z : Option (LO × LM)} {T : Nat → Int32} {st : List (Nat × Nat)} {e : Nat × Nat}
theorem sProd_pos : ∀ {st : List (Nat × Nat)} {N : Nat}, SRT st N → 1 ≤ sProd st
  | [], _, _ => Nat.le_refl _
  | e :: st, N, h => Nat.mul_le_mul h.1 (sProd_pos h.2.2.2)
theorem sProd_le : ∀ {st : List (Nat × Nat)} {N : Nat}, SRT st N → sProd st ≤ 50 ^ st.length
  | [], _, _ => Nat.le_refl _
  | e :: st, N, h => by
    have := Nat.mul_le_mul h.2.1 (sProd_le h.2.2.2)
    show e.1 * sProd st ≤ 50 ^ (st.length + 1)
    rw [Nat.pow_succ, Nat.mul_comm (50 ^ st.length)]
    exact this
theorem sPhi_ge : ∀ {st : List (Nat × Nat)} {N : Nat}, SRT st N → N ≤ sPhi st N
  | [], _, _ => Nat.le_refl _
  | e :: st, N, h => by
    have h1 := sPhi_ge h.2.2.2
    have h2 : 1 ≤ e.1 * sProd st := Nat.mul_le_mul h.1 (sProd_pos h.2.2.2)
    have h3 : (N - e.2) * 1 ≤ (N - e.2) * (e.1 * sProd st) := Nat.mul_le_mul_left _ h2
    have := h.2.2.1
    show N ≤ (N - e.2) * (e.1 * sProd st) + sPhi st e.2
    omega
theorem sPhi_add : ∀ {st : List (Nat × Nat)} {N m : Nat}, SRT st N → sPhi st (N + m) = sPhi st N + m * sProd st
  | [], N, m, _ => by show N + m = N + m * 1; omega
  | e :: st, N, m, h => by
    have := h.2.2.1
    show (N + m - e.2) * (e.1 * sProd st) + sPhi st e.2 = (N - e.2) * (e.1 * sProd st) + sPhi st e.2 + m * (e.1 * sProd st)
    rw [show N + m - e.2 = (N - e.2) + m by omega, Nat.add_mul]
    omega
theorem sPhi_pop (h : SRT (e :: st) N) : sPhi st (e.2 + (N - e.2) * e.1) = sPhi (e :: st) N := by
  rw [sPhi_add h.2.2.2]
  show _ = (N - e.2) * (e.1 * sProd st) + sPhi st e.2
  rw [← Nat.mul_assoc]
  omega
theorem SRT_mono : ∀ {st : List (Nat × Nat)} {N m : Nat}, SRT st N → N ≤ m → SRT st m
  | [], _, _, _, _ => trivial
  | e :: st, N, m, h, hm => ⟨h.1, h.2.1, Nat.le_trans h.2.2.1 hm, h.2.2.2⟩
theorem SRm_k : ∀ {st : List (Nat × Nat)}, SRm Z st → TK Z Z' → SRm Z' st
  | [], _, _ => trivial
  | e :: st, h, g => ⟨(congrFun (g.1 4 (by decide) (by decide) (by decide)) _).trans h.1, (congrFun (g.1 5 (by decide) (by decide) (by decide)) _).trans h.2.1, SRm_k h.2.2 g⟩
theorem SRm_w (ht : t = 4 ∨ t = 5) : ∀ {st : List (Nat × Nat)}, SRm Z st → st.length ≤ m → SRm (cwi Z t m v) st
  | [], _, _ => trivial
  | e :: st, h, hm => by
    have hm' : st.length + 1 ≤ m := hm
    have q : ∀ s, (cwi Z t m v).1 s st.length = Z.1 s st.length := fun s => if_neg (by omega)
    exact ⟨(q 4).trans h.1, (q 5).trans h.2.1, SRm_w ht h.2.2 (by omega)⟩
theorem sub97' (h : tLet v = true) : ∃ k, k < 26 ∧ v - 97 = nI k := by
  unfold tLet at h
  simp only [Bool.and_eq_true, Bool.not_eq_true', decide_eq_false_iff_not] at h
  exact sub97 h.1 h.2
theorem st_ne (h : st ≠ []) : 0 < st.length := by
  cases st with
  | nil => exact absurd rfl h
  | cons a b => show 0 < b.length + 1; omega
/-- what is told, behind the end of the text -/
def TE (Z Z' : CS) (r : Option Nat × Nat × (Nat → Nat) × (Nat → Bool)) : Prop := Z'.1 0 2 = nI r.2.1 ∧ r.2.1 < 2147483648 ∧ TW Z' r.2.1 r.2.2.1 r.2.2.2 ∧ Z'.1 1 = Z.1 1 ∧ ∀ j, j ≠ 2 → Z'.1 0 j = Z.1 0 j
theorem y_237 (d p : Nat) {x1 x2 : Int32} {N : LM} : f_X9_findError_237 (d + 4) N U x1 x2 (nI p) c = f_X9_findError_14 (d + 4) N U x1 x2 (bI (tLet c)) (nI (p + 1)) := by
  have g1 : nI p + 1 = nI (p + 1) := lt_iA (j := p) (k := 1)
  rw [e_X9_findError_237, g1]
  unfold tLet
  by_cases a : c < 97
  · rw [if_pos a, decide_eq_true a]; rfl
  · rw [if_neg a, decide_eq_false a]
    by_cases b : 122 < c
    · rw [if_pos b, decide_eq_true b]; rfl
    · rw [if_neg b, decide_eq_false b]; rfl
theorem y_find_14 (h : TA M U) (hl : len ≤ 200) : ∀ (f d p : Nat) (num : Int32) (beh : Bool) (st : List (Nat × Nat)) (N : Nat) (K : Nat → Nat) (W : Nat → Bool) (Z : CS), len - p ≤ f → p ≤ len → Z.1 0 1 = nI len → Z.1 0 2 = nI N → TW Z N K W → SRm Z st → SRT st N → st.length ≤ 3 → sPhi st N ≤ 125000 * p → (num = -1 ∨ ∃ v, 1 ≤ v ∧ v ≤ 50 ∧ num = nI v) → (beh = true → 1 ≤ N) →
    ∃ Z', f_X9_findError_14 (d + 4) (gM M U 6 Z) U (nI st.length) num (bI beh) (nI p) = some (.inl (some (.int (oI (kTx (Z.1 1) len f p num beh st N K W).1))), gM M U 6 Z') ∧ TE Z Z' (kTx (Z.1 1) len f p num beh st N K W) := by
  have hend : ∀ (d p : Nat) (num : Int32) (beh : Bool) (st : List (Nat × Nat)) (N : Nat) (K : Nat → Nat) (W : Nat → Bool) (Z : CS), p ≤ len → len ≤ p → Z.1 0 1 = nI len → Z.1 0 2 = nI N → TW Z N K W → st.length ≤ 3 → N < 2147483648 →
    ∃ Z', f_X9_findError_14 (d + 4) (gM M U 6 Z) U (nI st.length) num (bI beh) (nI p) = some (.inl (some (.int (oI (if num = -1 ∧ st = [] then none else some len)))), gM M U 6 Z') ∧ TE Z Z' (if num = -1 ∧ st = [] then none else some len, N, K, W) := by
    intro d p num beh st N K W Z hp hp2 h1 h2 hW h3 hN
    have hlt : ¬ nI p < nI len := by rw [nI_ltP (by omega) (by omega)]; omega
    refine ⟨Z, ?_, h2, hN, hW, rfl, fun _ _ => rfl⟩
    rw [e_X9_findError_14, y_ck h, gI0 (by omega), h1, if_neg hlt]
    by_cases q : num = -1
    · rw [if_pos q]
      by_cases q2 : st = []
      · subst q2
        rw [if_neg (show ¬ (0 : Int32) < nI ([] : List (Nat × Nat)).length by decide), if_pos ⟨q, rfl⟩]
        rfl
      · have : (0 : Int32) < nI st.length := (nI_ltP (j := 0) (k := st.length) (by omega) (by omega)).mpr (st_ne q2)
        rw [if_pos this, y_ck h, if_neg (fun e => q2 e.2)]
        rfl
    · rw [if_neg q, y_ck h, if_neg (fun e => q e.1)]
      rfl
  intro f
  induction f with
  | zero =>
    intro d p num beh st N K W Z hf hp h1 h2 hW hS hT h3 hP hn hb
    have := sPhi_ge hT
    exact hend d p num beh st N K W Z hp (by omega) h1 h2 hW h3 (by omega)
  | succ f ih =>
    intro d p num beh st N K W Z hf hp h1 h2 hW hS hT h3 hP hn hb
    have hN := sPhi_ge hT
    unfold kTx
    by_cases q0 : len ≤ p
    · rw [if_pos q0]
      exact hend d p num beh st N K W Z hp q0 h1 h2 hW h3 (by omega)
    · rw [if_neg q0]
      have hlt : nI p < nI len := by rw [nI_ltP (by omega) (by omega)]; omega
      have g1 : nI p + 1 = nI (p + 1) := lt_iA (j := p) (k := 1)
      have wrap : ∀ (p' : Nat) (num : Int32) (beh : Bool) (st : List (Nat × Nat)) (N : Nat) (K : Nat → Nat) (W : Nat → Bool) (Z1 : CS), Z1.1 1 = Z.1 1 → (∀ j, j ≠ 2 → Z1.1 0 j = Z.1 0 j) → p < p' → p' ≤ len → Z1.1 0 2 = nI N → TW Z1 N K W → SRm Z1 st → SRT st N → st.length ≤ 3 → sPhi st N ≤ 125000 * p' → (num = -1 ∨ ∃ v, 1 ≤ v ∧ v ≤ 50 ∧ num = nI v) → (beh = true → 1 ≤ N) →
          ∃ Z', f_X9_findError_14 (d + 4) (gM M U 6 Z1) U (nI st.length) num (bI beh) (nI p') = some (.inl (some (.int (oI (kTx (Z.1 1) len f p' num beh st N K W).1))), gM M U 6 Z') ∧ TE Z Z' (kTx (Z.1 1) len f p' num beh st N K W) := by
        intro p' num beh st N K W Z1 a b hp1 hp2 h2 hW hS hT h3 hP hn hb
        obtain ⟨Z', e1, e2, e3, e4, e5, e6⟩ := ih d p' num beh st N K W Z1 (by omega) hp2 ((b 1 (by decide)).trans h1) h2 hW hS hT h3 hP hn hb
        rw [a] at e1 e2 e3 e4 e5
        exact ⟨Z', e1, e2, e3, e4, e5, fun j hj => (e6 j hj).trans (b j hj)⟩
      have err : ∃ Z', (some (.inl (some (.int (nI p))), gM M U 6 Z) : Option (LO × LM)) = some (.inl (some (.int (oI ((some p, N, K, W) : Option Nat × Nat × (Nat → Nat) × (Nat → Bool)).1))), gM M U 6 Z') ∧ TE Z Z' (some p, N, K, W) := ⟨Z, rfl, h2, by show N < _; omega, hW, rfl, fun _ _ => rfl⟩
      have hd3 : (50 : Nat) ^ st.length ≤ 50 ^ 3 := Nat.pow_le_pow_right (by decide) h3
      have hpr := sProd_le hT
      have hlet : ∀ (b0 : Bool), tLet (Z.1 1 p) = b0 → ∃ Z', (if Z.1 1 p < 97 then some (.inl (some (.int (nI p))), gM M U 6 Z) else if (122 : Int32) < Z.1 1 p then some (.inl (some (.int (nI p))), gM M U 6 Z) else lt_ck (gM M U 6 Z) U 25 (lt_bv (f_X9_tell (d + 3) (gM M U 6 Z) U (Z.1 1 p - 97)) [] fun M12 => f_X9_findError_237 (d + 4) M12 U (nI st.length) (-1) (nI p) (Z.1 1 p)) : Option (LO × LM)) = some (.inl (some (.int (oI (if tLet (Z.1 1 p) = true then kTx (Z.1 1) len f (p + 1) (-1) true st (N + 1) (fun j => if j = N then lt_n (Z.1 1 p - 97) else K j) (fun j => if j = N then false else W j) else (some p, N, K, W)).1))), gM M U 6 Z') ∧ TE Z Z' (if tLet (Z.1 1 p) = true then kTx (Z.1 1) len f (p + 1) (-1) true st (N + 1) (fun j => if j = N then lt_n (Z.1 1 p - 97) else K j) (fun j => if j = N then false else W j) else (some p, N, K, W)) := by
        intro b0 hb0
        cases b0
        · rw [hb0, if_neg (show ¬ (false = true) by decide)]
          unfold tLet at hb0
          by_cases a : Z.1 1 p < 97
          · rw [if_pos a]; exact err
          · by_cases b : (122 : Int32) < Z.1 1 p
            · rw [if_neg a, if_pos b]; exact err
            · rw [decide_eq_false a, decide_eq_false b] at hb0
              cases hb0
        · obtain ⟨k, hk, ek⟩ := sub97' hb0
          have a : ¬ Z.1 1 p < 97 := fun e => by unfold tLet at hb0; rw [decide_eq_true e] at hb0; cases hb0
          have b : ¬ (122 : Int32) < Z.1 1 p := fun e => by unfold tLet at hb0; rw [decide_eq_true e, Bool.not_true, Bool.and_false] at hb0; cases hb0
          rw [if_neg a, if_neg b, y_ck h, y_tell (d + 1) h h2 (by omega), lt_bv_r, y_237, hb0, if_pos rfl, ek, lt_iN (by omega)]
          refine wrap (p + 1) (-1) true st (N + 1) _ _ _ ?_ (fun j hj => ?_) (by omega) (by omega) cwi_e (fun j hj hj3 => ?_) ?_ (SRT_mono hT (by omega)) h3 ?_ (Or.inl rfl) (fun _ => by omega)
          · rw [cwi_z (by decide), tPut_t (by decide), tPut_t (by decide)]
          · exact (z2_n2 hj).trans ((congrFun (tPut_t (by decide)) j).trans (congrFun (tPut_t (by decide)) j))
          · have := TW_put (Z := Z) (N := N) (K := K) (W := W) (x := k) (w := false) (fun j hj hj3 => by
              dsimp only
              rw [if_neg (by omega), if_neg (by omega)]
              exact hW j hj hj3) j hj hj3
            rw [cwi_z (by decide), cwi_z (by decide)]
            exact this
          · exact SRm_k (SRm_k (SRm_k hS (TK_p (Or.inl rfl))) (TK_p (Or.inr rfl))) TK_2
          · rw [sPhi_add hT]
            omega
      rw [e_X9_findError_14, y_ck h, gI0 (by omega), h1, if_pos hlt, y_ck h, y_p0 h, x_rf, gw_at (d + 2) (by omega) (y_a1 h) (by omega), lt_bi_r]
      by_cases c32 : Z.1 1 p = 32
      · rw [if_pos c32, if_pos c32, g1]
        exact wrap (p + 1) num beh st N K W Z rfl (fun _ _ => rfl) (by omega) (by omega) h2 hW hS hT h3 (by omega) hn hb
      · rw [if_neg c32, if_neg c32]
        by_cases qn : num = -1
        · rw [if_pos qn, if_pos qn, y_isDigit (d + 2), lt_bi_r]
          by_cases dg : qDgt (Z.1 1 p) = true
          · have hd : ¬ bI (qDgt (Z.1 1 p)) = 0 := by rw [dg]; decide
            rw [if_neg hd, if_pos dg, y_ck h, y_numberAt d h hl h1 (by omega), lt_bi_r]
            have hlt : tLet (Z.1 1 p) = false := by
              unfold qDgt at dg
              simp only [Bool.and_eq_true, Bool.not_eq_true', decide_eq_false_iff_not] at dg
              unfold tLet
              have h57 := dg.2
              have : Z.1 1 p < 97 := by
                rw [Int32.lt_iff_toInt_lt] at h57 ⊢
                have e1 : (57 : Int32).toInt = 57 := rfl
                have e2 : (97 : Int32).toInt = 97 := rfl
                omega
              rw [decide_eq_true this]
              rfl
            by_cases nn : kNum (Z.1 1) len p = -1
            · rw [if_pos nn, if_pos nn]
              exact err
            · have hv : ∃ v, 1 ≤ v ∧ v ≤ 50 ∧ kNum (Z.1 1) len p = nI v := (kNum_v).resolve_left nn
              rw [if_neg nn, if_neg nn, y_ck h, g1, y_byteAt (d + 1) h hl h1 (by omega), lt_bi_r, y_isDigit (d + 2), lt_bi_r, tDg_e]
              cases q1 : tDg (Z.1 1) len (p + 1)
              · rw [bI_f, if_pos rfl, if_neg (show ¬ (false = true) by decide), Int32.add_zero, y_237, hlt]
                exact wrap (p + 1) _ false st N K W Z rfl (fun _ _ => rfl) (by omega) (by omega) h2 hW hS hT h3 (by omega) (Or.inr hv) (fun e => by cases e)
              · have q2 : p + 1 < len := by
                  unfold tDg at q1
                  simp only [Bool.and_eq_true, decide_eq_true_eq] at q1
                  exact q1.1
                rw [bI_t, if_neg (by decide), if_pos rfl, y_237, hlt]
                exact wrap (p + 2) _ false st N K W Z rfl (fun _ _ => rfl) (by omega) (by omega) h2 hW hS hT h3 (by omega) (Or.inr hv) (fun e => by cases e)
          · have hd : bI (qDgt (Z.1 1 p)) = 0 := by rw [show qDgt (Z.1 1 p) = false by simpa using dg]; rfl
            rw [if_pos hd, if_neg dg, qn]
            have hrest : ∃ Z', (if Z.1 1 p = 33 then (if bI beh = 0 then (if Z.1 1 p < 97 then some (.inl (some (.int (nI p))), gM M U 6 Z) else if (122 : Int32) < Z.1 1 p then some (.inl (some (.int (nI p))), gM M U 6 Z) else lt_ck (gM M U 6 Z) U 25 (lt_bv (f_X9_tell (d + 3) (gM M U 6 Z) U (Z.1 1 p - 97)) [] fun M12 => f_X9_findError_237 (d + 4) M12 U (nI st.length) (-1) (nI p) (Z.1 1 p))) else lt_ck (gM M U 6 Z) U 25 (lt_rf (mP (gM M U 6 Z) U 4) fun q13 => lt_ck (gM M U 6 Z) U 25 (lt_bv (f_X10_put (d + 3) (gM M U 6 Z) q13 (mI (gM M U 6 Z) U 2 - 1) 1) [] fun M14 => f_X9_findError_237 (d + 4) M14 U (nI st.length) (-1) (nI p) (Z.1 1 p)))) else (if Z.1 1 p < 97 then some (.inl (some (.int (nI p))), gM M U 6 Z) else if (122 : Int32) < Z.1 1 p then some (.inl (some (.int (nI p))), gM M U 6 Z) else lt_ck (gM M U 6 Z) U 25 (lt_bv (f_X9_tell (d + 3) (gM M U 6 Z) U (Z.1 1 p - 97)) [] fun M12 => f_X9_findError_237 (d + 4) M12 U (nI st.length) (-1) (nI p) (Z.1 1 p))) : Option (LO × LM)) = some (.inl (some (.int (oI (if Z.1 1 p = 33 ∧ beh = true then kTx (Z.1 1) len f (p + 1) (-1) false st N K (fun j => if j = N - 1 then true else W j) else if tLet (Z.1 1 p) = true then kTx (Z.1 1) len f (p + 1) (-1) true st (N + 1) (fun j => if j = N then lt_n (Z.1 1 p - 97) else K j) (fun j => if j = N then false else W j) else (some p, N, K, W)).1))), gM M U 6 Z') ∧ TE Z Z' (if Z.1 1 p = 33 ∧ beh = true then kTx (Z.1 1) len f (p + 1) (-1) false st N K (fun j => if j = N - 1 then true else W j) else if tLet (Z.1 1 p) = true then kTx (Z.1 1) len f (p + 1) (-1) true st (N + 1) (fun j => if j = N then lt_n (Z.1 1 p - 97) else K j) (fun j => if j = N then false else W j) else (some p, N, K, W)) := by
              by_cases c33 : Z.1 1 p = 33
              · rw [if_pos c33]
                cases beh
                · rw [bI_f, if_pos rfl, if_neg (c := Z.1 1 p = 33 ∧ false = true) (fun e => by cases e.2)]
                  exact hlet _ rfl
                · have hN1 := hb rfl
                  have hl33 : tLet (Z.1 1 p) = false := by rw [c33]; decide
                  have e1 : mI (gM M U 6 Z) U 2 - 1 = nI (N - 1) := by
                    rw [gI0 (by omega), h2, show N = N - 1 + 1 by omega]
                    exact lt_sub1
                  rw [bI_t, if_neg (by decide), if_pos (c := Z.1 1 p = 33 ∧ true = true) ⟨c33, rfl⟩, y_ck h, y_p4 h, x_rf, y_ck h, e1, y_put3 (d + 2) h (by omega), lt_bv_r, y_237, hl33]
                  refine wrap (p + 1) (-1) false st N K _ _ (tPut_t (by decide)) (fun j _ => congrFun (tPut_t (by decide)) j) (by omega) (by omega) ((congrFun (tPut_t (by decide)) 2).trans h2) (fun j hj hj3 => ?_) (SRm_k hS (TK_p (Or.inr rfl))) hT h3 (by omega) (Or.inl rfl) (fun e => by cases e)
                  have := hW j hj hj3
                  refine ⟨(congrFun (tPut_t (by decide)) j).trans this.1, ?_⟩
                  unfold tPut
                  by_cases qj : j = N - 1
                  · rw [if_pos (by omega), if_pos qj, qj]
                    exact cwi_e
                  · rw [if_neg qj]
                    split
                    · exact (z2_n2 qj).trans this.2
                    · exact this.2
              · rw [if_neg c33, if_neg (c := Z.1 1 p = 33 ∧ beh = true) (fun e => c33 e.1)]
                exact hlet _ rfl
            by_cases c41 : Z.1 1 p = 41
            · rw [if_pos c41]
              cases st with
              | nil =>
                rw [if_neg (show ¬ (0 : Int32) < nI ([] : List (Nat × Nat)).length by decide), if_neg (c := Z.1 1 p = 41 ∧ ([] : List (Nat × Nat)) ≠ []) (fun e => e.2 rfl)]
                exact hrest
              | cons e st =>
                have hl1 : st.length + 1 ≤ 3 := h3
                have hpos : (0 : Int32) < nI (e :: st).length := (nI_ltP (j := 0) (k := st.length + 1) (by omega) (by omega)).mpr (by omega)
                have e1 : nI (e :: st).length + -1 = nI st.length := by
                  rw [← Int32.sub_eq_add_neg]
                  exact lt_sub1
                have hl41 : tLet (Z.1 1 p) = false := by rw [c41]; decide
                have hpop := sPhi_pop hT
                have hge := sPhi_ge (SRT_mono hT.2.2.2 (show e.2 ≤ e.2 + (N - e.2) * e.1 by omega))
                obtain ⟨Z1, r1, r2, r3, r4⟩ := y_repeat (M := M) (U := U) (Z := Z) (N := N) (b := e.2) (t := e.1) (K := K) (W := W) (d + 1) h h2 hT.2.2.1 hT.1 (by omega) hW
                rw [if_pos hpos, if_pos (c := Z.1 1 p = 41 ∧ (e :: st) ≠ []) ⟨c41, fun q => by cases q⟩, y_ck h, y_p6 h, x_rf, e1, gw_at (d + 2) (by omega) (y_a5 h) (by omega), lt_bi_r, hS.2.1, y_ck h, y_p5 h, x_rf, gw_at (d + 2) (by omega) (y_a4 h) (by omega), lt_bi_r, hS.1, y_ck h, r1, lt_bv_r, y_237, hl41]
                rw [show (e :: st).headD (1, N) = e from rfl, show (e :: st).tail = st from rfl]
                exact wrap (p + 1) (-1) false st _ _ _ Z1 (r4.1 1 (by decide) (by decide) (by decide)) r4.2 (by omega) (by omega) r2 r3 (SRm_k hS.2.2 r4) (SRT_mono hT.2.2.2 (by omega)) (by omega) (by rw [hpop]; omega) (Or.inl rfl) (fun e => by cases e)
            · rw [if_neg c41, if_neg (c := Z.1 1 p = 41 ∧ st ≠ []) (fun e => c41 e.1)]
              exact hrest
        · rw [if_neg qn, if_neg qn]
          by_cases c40 : Z.1 1 p = 40
          · rw [if_pos c40]
            obtain ⟨v, v1, v2, v3⟩ := hn.resolve_left qn
            by_cases q3 : st.length < 3
            · have h3lt : nI st.length < (3 : Int32) := (nI_ltP (j := st.length) (k := 3) (by omega) (by omega)).mpr q3
              have g2 : nI st.length + 1 = nI (st.length + 1) := lt_iA (j := st.length) (k := 1)
              have hl40 : tLet (Z.1 1 p) = false := by rw [c40]; decide
              have e2 : (cwi Z 4 st.length num).1 0 2 = nI N := by rw [cwi_z (by decide)]; exact h2
              rw [if_pos h3lt, if_pos (c := Z.1 1 p = 40 ∧ st.length < 3) ⟨c40, q3⟩, y_ck h, y_p5 h, x_rf, gw_put (d + 2) (by omega) (y_a4 h) q3, lt_bv_r, y_ck h, y_p6 h, x_rf, y_ck h, gI0 (by omega), e2, gw_put (d + 2) (by omega) (y_a5 h) q3, lt_bv_r, y_237, hl40, g2]
              refine wrap (p + 1) (-1) false ((lt_n num, N) :: st) N K W _ ?_ (fun j _ => ?_) (by omega) (by omega) ?_ (fun j hj hj3 => ?_) ⟨?_, ?_, SRm_w (Or.inr rfl) (SRm_w (Or.inl rfl) hS (Nat.le_refl _)) (Nat.le_refl _)⟩ ⟨?_, ?_, Nat.le_refl _, hT⟩ (by show st.length + 1 ≤ 3; omega) ?_ (Or.inl rfl) (fun e => by cases e)
              · rw [cwi_z (by decide), cwi_z (by decide)]
              · rw [cwi_z (by decide), cwi_z (by decide)]
              · rw [cwi_z (by decide)]; exact e2
              · rw [cwi_z (by decide), cwi_z (by decide), cwi_z (by decide), cwi_z (by decide)]
                exact hW j hj hj3
              · rw [cwi_z (by decide), v3, lt_iN (by omega)]
                exact cwi_e
              · exact cwi_e
              · show 1 ≤ lt_n num; rw [v3, lt_iN (by omega)]; exact v1
              · show lt_n num ≤ 50; rw [v3, lt_iN (by omega)]; exact v2
              · show (N - N) * (lt_n num * sProd st) + sPhi st N ≤ _
                rw [Nat.sub_self, Nat.zero_mul]
                omega
            · have h3lt : ¬ nI st.length < (3 : Int32) := fun e => by have := (nI_ltP (j := st.length) (k := 3) (by omega) (by omega)).mp e; omega
              rw [if_neg h3lt, if_neg (c := Z.1 1 p = 40 ∧ st.length < 3) (fun e => q3 e.2)]
              exact err
          · rw [if_neg c40, if_neg (c := Z.1 1 p = 40 ∧ st.length < 3) (fun e => c40 e.1)]
            exact err
theorem y_findError (d : Nat) (h : TA M U) (hl : len ≤ 200) (h1 : Z.1 0 1 = nI len) :
    ∃ Z', f_X9_findError (d + 4) (gM M U 6 Z) U = some (.inl (some (.int (oI (kTx (Z.1 1) len len 0 (-1) false [] 0 (fun _ => 0) (fun _ => false)).1))), gM M U 6 Z') ∧ TE Z Z' (kTx (Z.1 1) len len 0 (-1) false [] 0 (fun _ => 0) (fun _ => false)) := by
  obtain ⟨Z', a1, a2, a3, a4, a5, a6⟩ := y_find_14 (M := M) (U := U) (len := len) h hl len d 0 (-1) false [] 0 (fun _ => 0) (fun _ => false) (cwi Z 0 2 0) (by omega) (by omega) ((TK_2.2 1 (by decide)).trans h1) cwi_e (fun j hj => by omega) trivial trivial (by show 0 ≤ 3; omega) (by show 0 ≤ _; omega) (Or.inl rfl) (fun e => by cases e)
  have e : (cwi Z 0 2 0).1 1 = Z.1 1 := cwi_z (by decide)
  rw [e] at a1 a2 a3 a4 a5
  refine ⟨Z', ?_, a2, a3, a4, a5, fun j hj => (a6 j hj).trans (TK_2.2 j hj)⟩
  rw [e_X9_findError, y_ck h, gwI0 (by omega), x_m]
  exact a1
end Db
