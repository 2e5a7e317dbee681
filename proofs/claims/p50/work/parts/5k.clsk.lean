/-! New cells behind a memory: a block of them as a window that grows -/
abbrev NW : Type := (Nat → Nat → Int32) × (Nat → Nat → Int64) × (Nat → Nat → Option Nat) × (Nat → Nat) × (Nat → Nat)
def nW (M : LM) (B n : Nat) (W : NW) (c s : Nat) : LM :=
  (fun b j => if B ≤ b ∧ b < B + n then W.1 (b - B) j else mI M b j, fun b j => if B ≤ b ∧ b < B + n then W.2.1 (b - B) j else mL M b j,
   fun b j => if B ≤ b ∧ b < B + n then W.2.2.1 (b - B) j else mP M b j, fun b j => if B ≤ b ∧ b < B + n then 0 else mD M b j,
   fun b => if B ≤ b ∧ b < B + n then W.2.2.2.1 (b - B) else mK M b, fun b => if B ≤ b ∧ b < B + n then W.2.2.2.2 (b - B) else mZ M b, B + n, c, s)
def n0 : NW := (fun _ _ => 0, fun _ _ => 0, fun _ _ => none, fun _ => 0, fun _ => 0)
def nNew (W : NW) (n k z : Nat) : NW := (u1 W.1 n (fun _ => 0), u1 W.2.1 n (fun _ => 0), u1 W.2.2.1 n (fun _ => none), u1 W.2.2.2.1 n k, u1 W.2.2.2.2 n z)
def nP (W : NW) (t j : Nat) (v : Option Nat) : NW := (W.1, W.2.1, u2 W.2.2.1 t j v, W.2.2.2)
def nI' (W : NW) (t j : Nat) (v : Int32) : NW := (u2 W.1 t j v, W.2)
def nRI (W : NW) (t : Nat) (g : Nat → Int32) : NW := (u1 W.1 t g, W.2)
def nCat (W : NW) (n : Nat) (V : NW) : NW :=
  (fun t => if t < n then W.1 t else V.1 (t - n), fun t => if t < n then W.2.1 t else V.2.1 (t - n), fun t => if t < n then W.2.2.1 t else V.2.2.1 (t - n), fun t => if t < n then W.2.2.2.1 t else V.2.2.2.1 (t - n), fun t => if t < n then W.2.2.2.2 t else V.2.2.2.2 (t - n))
/-- rows t .. t + 14 replaced by a cache's -/
def nSub (W : NW) (t : Nat) (S : CS) : NW := (fun b => if t ≤ b ∧ b < t + 15 then S.1 (b - t) else W.1 b, fun b => if t ≤ b ∧ b < t + 15 then S.2 (b - t) else W.2.1 b, W.2.2)
section Na
variable {M : LM} {B n m i j k t c s z c' s' : Nat} {W V : NW} {v x : Int32} {y : Int64} {g : Nat → Int32} {p : Option Nat} {S : CS} {q : Option (LO × LM)}
theorem nW_N : mN (nW M B n W c s) = B + n := rfl
theorem nW_0 (h : mN M = B) : nW M B 0 W (mC M) (mS M) = M := by
  subst h
  refine Prod.ext (funext fun b => funext fun i => if_neg (by omega)) (Prod.ext (funext fun b => funext fun i => if_neg (by omega)) (Prod.ext (funext fun b => funext fun i => if_neg (by omega)) (Prod.ext (funext fun b => funext fun i => if_neg (by omega)) (Prod.ext (funext fun b => if_neg (by omega)) (Prod.ext (funext fun b => if_neg (by omega)) rfl)))))
theorem n_if {α : Type} {f g h : Nat → α} (hf : ∀ b, B ≤ b → b < B + n → f (b - B) = h b) (hg : ∀ b, ¬ (B ≤ b ∧ b < B + n) → g b = h b) : (fun b => if B ≤ b ∧ b < B + n then f (b - B) else g b) = h := funext fun b => by
  by_cases q : B ≤ b ∧ b < B + n
  · rw [if_pos q]; exact hf b q.1 q.2
  · rw [if_neg q]; exact hg b q
/-- a new cell -/
theorem n_u1 {α : Type} {f g : Nat → α} {v : α} : u1 (fun b => if B ≤ b ∧ b < B + n then f (b - B) else g b) (B + n) v = fun b => if B ≤ b ∧ b < B + (n + 1) then u1 f n v (b - B) else g b := funext fun b => by
  by_cases q : b = B + n
  · rw [q, u1e, if_pos (by omega), Nat.add_sub_cancel_left, u1e]
  · rw [u1_n q]
    by_cases q2 : B ≤ b ∧ b < B + n
    · rw [if_pos q2, if_pos (by omega), u1_n (by omega)]
    · rw [if_neg q2, if_neg (by omega)]
theorem n_ij {α : Type} {f g : Nat → Nat → α} : (fun b j => if B ≤ b ∧ b < B + n then f (b - B) j else g b j) = fun b => if B ≤ b ∧ b < B + n then f (b - B) else g b := funext fun b => by
  by_cases q : B ≤ b ∧ b < B + n
  · rw [if_pos q]; exact funext fun j => if_pos q
  · rw [if_neg q]; exact funext fun j => if_neg q
theorem n_new : aNew (nW M B n W c s) k z m = nW M B (n + 1) (nNew W n k z) (c + 1) (s + m) := by
  refine Prod.ext ?_ (Prod.ext ?_ (Prod.ext ?_ (Prod.ext ?_ (Prod.ext ?_ (Prod.ext ?_ ?_)))))
  · show u1 (fun b j => if B ≤ b ∧ b < B + n then W.1 (b - B) j else mI M b j) (B + n) (fun _ => 0) = fun b j => if B ≤ b ∧ b < B + (n + 1) then u1 W.1 n (fun _ => 0) (b - B) j else mI M b j
    rw [n_ij, n_ij, n_u1]
  · show u1 (fun b j => if B ≤ b ∧ b < B + n then W.2.1 (b - B) j else mL M b j) (B + n) (fun _ => 0) = fun b j => if B ≤ b ∧ b < B + (n + 1) then u1 W.2.1 n (fun _ => 0) (b - B) j else mL M b j
    rw [n_ij, n_ij, n_u1]
  · show u1 (fun b j => if B ≤ b ∧ b < B + n then W.2.2.1 (b - B) j else mP M b j) (B + n) (fun _ => none) = fun b j => if B ≤ b ∧ b < B + (n + 1) then u1 W.2.2.1 n (fun _ => none) (b - B) j else mP M b j
    rw [n_ij, n_ij, n_u1]
  · show u1 (fun b j => if B ≤ b ∧ b < B + n then (fun _ _ => 0 : Nat → Nat → UInt64) (b - B) j else mD M b j) (B + n) (fun _ => 0) = fun b j => if B ≤ b ∧ b < B + (n + 1) then (fun _ _ => 0 : Nat → Nat → UInt64) (b - B) j else mD M b j
    funext b
    funext j
    show (if b = B + n then (fun _ => 0 : Nat → UInt64) else fun j => if B ≤ b ∧ b < B + n then 0 else mD M b j) j = if B ≤ b ∧ b < B + (n + 1) then 0 else mD M b j
    by_cases q : b = B + n
    · rw [if_pos q, if_pos (by omega)]
    · rw [if_neg q]
      by_cases q2 : B ≤ b ∧ b < B + n
      · show (if B ≤ b ∧ b < B + n then 0 else mD M b j) = _
        rw [if_pos q2, if_pos (by omega)]
      · show (if B ≤ b ∧ b < B + n then 0 else mD M b j) = _
        rw [if_neg q2, if_neg (by omega)]
  · show u1 (fun b => if B ≤ b ∧ b < B + n then W.2.2.2.1 (b - B) else mK M b) (B + n) k = fun b => if B ≤ b ∧ b < B + (n + 1) then u1 W.2.2.2.1 n k (b - B) else mK M b
    rw [n_u1]
  · show u1 (fun b => if B ≤ b ∧ b < B + n then W.2.2.2.2 (b - B) else mZ M b) (B + n) z = fun b => if B ≤ b ∧ b < B + (n + 1) then u1 W.2.2.2.2 n z (b - B) else mZ M b
    rw [n_u1]
  · rfl
theorem n_new1 (h : mN M = B) : aNew M k z m = nW M B 1 (nNew n0 0 k z) (mC M + 1) (mS M + m) := by
  conv => lhs; rw [← nW_0 (W := n0) h]
  rw [n_new]
theorem n_u2 {α : Type} {f g : Nat → Nat → α} {v : α} (ht : t < n) : u2 (fun b j => if B ≤ b ∧ b < B + n then f (b - B) j else g b j) (B + t) k v = fun b j => if B ≤ b ∧ b < B + n then u2 f t k v (b - B) j else g b j := funext fun b => funext fun j => by
  show (if b = B + t ∧ j = k then v else if B ≤ b ∧ b < B + n then f (b - B) j else g b j) = if B ≤ b ∧ b < B + n then (if b - B = t ∧ j = k then v else f (b - B) j) else g b j
  by_cases q : b = B + t
  · subst q
    rw [if_pos (show B ≤ B + t ∧ B + t < B + n by omega), if_pos (show B ≤ B + t ∧ B + t < B + n by omega), Nat.add_sub_cancel_left]
    by_cases q2 : j = k
    · rw [if_pos ⟨rfl, q2⟩, if_pos ⟨rfl, q2⟩]
    · rw [if_neg (fun e => q2 e.2), if_neg (fun e => q2 e.2)]
  · rw [if_neg (fun e => q e.1)]
    by_cases q2 : B ≤ b ∧ b < B + n
    · rw [if_pos q2, if_pos q2, if_neg (by omega)]
    · rw [if_neg q2, if_neg q2]
theorem n_wP (ht : t < n) : wP (nW M B n W c s) (B + t) j p = nW M B n (nP W t j p) c s := by
  refine Prod.ext rfl (Prod.ext rfl (Prod.ext ?_ rfl))
  exact n_u2 ht
theorem n_wP0 (ht : 0 < n) : wP (nW M B n W c s) B j p = nW M B n (nP W 0 j p) c s := n_wP (t := 0) ht
theorem n_wI (ht : t < n) : wI (nW M B n W c s) (B + t) j v = nW M B n (nI' W t j v) c s := by
  refine Prod.ext ?_ rfl
  exact n_u2 ht
theorem n_wI0 (ht : 0 < n) : wI (nW M B n W c s) B j v = nW M B n (nI' W 0 j v) c s := n_wI (t := 0) ht
theorem n_rd (ht : t < n) : mI (nW M B n W c s) (B + t) = W.1 t := funext fun j => by
  show (if B ≤ B + t ∧ B + t < B + n then W.1 (B + t - B) j else _) = _
  rw [if_pos (by omega), Nat.add_sub_cancel_left]
theorem n_P (ht : t < n) : mP (nW M B n W c s) (B + t) j = W.2.2.1 t j := by
  show (if B ≤ B + t ∧ B + t < B + n then W.2.2.1 (B + t - B) j else _) = _
  rw [if_pos (by omega), Nat.add_sub_cancel_left]
theorem n_P0 (ht : 0 < n) : mP (nW M B n W c s) B j = W.2.2.1 0 j := n_P (t := 0) ht
theorem n_K (ht : t < n) : mK (nW M B n W c s) (B + t) = W.2.2.2.1 t := by
  show (if B ≤ B + t ∧ B + t < B + n then W.2.2.2.1 (B + t - B) else _) = _
  rw [if_pos (by omega), Nat.add_sub_cancel_left]
theorem n_K0 (ht : 0 < n) : mK (nW M B n W c s) B = W.2.2.2.1 0 := n_K (t := 0) ht
theorem n_Z (ht : t < n) : mZ (nW M B n W c s) (B + t) = W.2.2.2.2 t := by
  show (if B ≤ B + t ∧ B + t < B + n then W.2.2.2.2 (B + t - B) else _) = _
  rw [if_pos (by omega), Nat.add_sub_cancel_left]
theorem n_wRI (ht : t < n) : wRI (nW M B n W c s) (B + t) g = nW M B n (nRI W t g) c s := by
  refine Prod.ext ?_ rfl
  show u1 (fun b j => if B ≤ b ∧ b < B + n then W.1 (b - B) j else mI M b j) (B + t) g = fun b j => if B ≤ b ∧ b < B + n then u1 W.1 t g (b - B) j else mI M b j
  rw [n_ij, n_ij]
  funext b
  by_cases q : b = B + t
  · rw [q, u1e, if_pos (by omega), Nat.add_sub_cancel_left, u1e]
  · rw [u1_n q]
    by_cases q2 : B ≤ b ∧ b < B + n
    · rw [if_pos q2, if_pos q2, u1_n (by omega)]
    · rw [if_neg q2, if_neg q2]
theorem n_cat1 {α : Type} {f h g : Nat → α} : (fun b => if B + n ≤ b ∧ b < B + n + m then h (b - (B + n)) else if B ≤ b ∧ b < B + n then f (b - B) else g b) = fun b => if B ≤ b ∧ b < B + (n + m) then (if b - B < n then f (b - B) else h (b - B - n)) else g b := funext fun b => by
  by_cases q : B + n ≤ b ∧ b < B + n + m
  · rw [if_pos q, if_pos (by omega), if_neg (by omega), show b - (B + n) = b - B - n by omega]
  · rw [if_neg q]
    by_cases q2 : B ≤ b ∧ b < B + n
    · rw [if_pos q2, if_pos (by omega), if_pos (by omega)]
    · rw [if_neg q2, if_neg (by omega)]
theorem n_cat2 {α : Type} {f h g : Nat → Nat → α} : (fun b j => if B + n ≤ b ∧ b < B + n + m then h (b - (B + n)) j else if B ≤ b ∧ b < B + n then f (b - B) j else g b j) = fun b j => if B ≤ b ∧ b < B + (n + m) then (if b - B < n then f (b - B) else h (b - B - n)) j else g b j := funext fun b => funext fun j => by
  by_cases q : B + n ≤ b ∧ b < B + n + m
  · rw [if_pos q, if_pos (by omega), if_neg (by omega), show b - (B + n) = b - B - n by omega]
  · rw [if_neg q]
    by_cases q2 : B ≤ b ∧ b < B + n
    · rw [if_pos q2, if_pos (by omega), if_pos (by omega)]
    · rw [if_neg q2, if_neg (by omega)]
theorem nW_cat : nW (nW M B n W c s) (B + n) m V c' s' = nW M B (n + m) (nCat W n V) c' s' := by
  refine Prod.ext n_cat2 (Prod.ext n_cat2 (Prod.ext n_cat2 (Prod.ext ?_ (Prod.ext n_cat1 (Prod.ext n_cat1 (Prod.ext (Nat.add_assoc B n m) rfl))))))
  funext b
  funext j
  show (if B + n ≤ b ∧ b < B + n + m then 0 else if B ≤ b ∧ b < B + n then 0 else mD M b j) = if B ≤ b ∧ b < B + (n + m) then 0 else mD M b j
  by_cases q : B + n ≤ b ∧ b < B + n + m
  · rw [if_pos q, if_pos (by omega)]
  · rw [if_neg q]
    by_cases q2 : B ≤ b ∧ b < B + n
    · rw [if_pos q2, if_pos (by omega)]
    · rw [if_neg q2, if_neg (by omega)]
theorem nW_cM (ht : t + 15 ≤ n) : cM (nW M B n W c s) (B + t) S = nW M B n (nSub W t S) c s := by
  refine Prod.ext (funext fun b => funext fun j => ?_) (Prod.ext (funext fun b => funext fun j => ?_) rfl)
  · show (if B + t ≤ b ∧ b < B + t + 15 then S.1 (b - (B + t)) j else if B ≤ b ∧ b < B + n then W.1 (b - B) j else mI M b j) = if B ≤ b ∧ b < B + n then (if t ≤ b - B ∧ b - B < t + 15 then S.1 (b - B - t) else W.1 (b - B)) j else mI M b j
    by_cases q : B + t ≤ b ∧ b < B + t + 15
    · rw [if_pos q, if_pos (by omega), if_pos (by omega), show b - (B + t) = b - B - t by omega]
    · rw [if_neg q]
      by_cases q2 : B ≤ b ∧ b < B + n
      · rw [if_pos q2, if_pos q2, if_neg (by omega)]
      · rw [if_neg q2, if_neg q2]
  · show (if B + t ≤ b ∧ b < B + t + 15 then S.2 (b - (B + t)) j else if B ≤ b ∧ b < B + n then W.2.1 (b - B) j else mL M b j) = if B ≤ b ∧ b < B + n then (if t ≤ b - B ∧ b - B < t + 15 then S.2 (b - B - t) else W.2.1 (b - B)) j else mL M b j
    by_cases q : B + t ≤ b ∧ b < B + t + 15
    · rw [if_pos q, if_pos (by omega), if_pos (by omega), show b - (B + t) = b - B - t by omega]
    · rw [if_neg q]
      by_cases q2 : B ≤ b ∧ b < B + n
      · rw [if_pos q2, if_pos q2, if_neg (by omega)]
      · rw [if_neg q2, if_neg q2]
theorem nW_ck (h : W.2.2.2.1 0 = k) (hn : 0 < n) : lt_ck (nW M B n W c s) B k q = q := lt_ck_t (by rw [n_K0 hn, h])
theorem ln_t {n : Nat} (h : n ≤ 65536) : lt_ln (nI n) q = q := by
  have e : (nI n).toInt = n := lt_iT (by omega)
  exact if_pos ⟨by omega, by omega⟩
end Na
