/-! THE REFERENCE made -/
def nMul (W : NW) (n B ko ki m k : Nat) : NW :=
  (fun t => if n ≤ t ∧ t ≤ n + m then fun _ => 0 else W.1 t, fun t => if n ≤ t ∧ t ≤ n + m then fun _ => 0 else W.2.1 t,
   fun t => if t = n then fun i => if i < m then some (B + n + 1 + i) else none else if n ≤ t ∧ t ≤ n + m then fun _ => none else W.2.2.1 t,
   fun t => if t = n then ko else if n ≤ t ∧ t ≤ n + m then ki else W.2.2.2.1 t, fun t => if t = n then m else if n ≤ t ∧ t ≤ n + m then k else W.2.2.2.2 t)
section Ne
variable {M : LM} {A B C n m i j k t c s z ko ki o u : Nat} {W V : NW} {v x : Int32} {q : Option (LO × LM)} {H : Nat → Int32} {X : Nat → Nat → Int32}
theorem n_mul1 {α : Type} {f g : Nat → α} {a : α} : (fun b => if B + n ≤ b ∧ b ≤ B + n + m then a else if B ≤ b ∧ b < B + n then f (b - B) else g b) = fun b => if B ≤ b ∧ b < B + (n + 1 + m) then (if n ≤ b - B ∧ b - B ≤ n + m then a else f (b - B)) else g b := funext fun b => by
  by_cases q : B + n ≤ b ∧ b ≤ B + n + m
  · rw [if_pos q, if_pos (by omega), if_pos (by omega)]
  · rw [if_neg q]
    by_cases q2 : B ≤ b ∧ b < B + n
    · rw [if_pos q2, if_pos (by omega), if_neg (by omega)]
    · rw [if_neg q2, if_neg (by omega)]
theorem n_mul2 {α : Type} {f g : Nat → α} {a b' : α} : (fun b => if b = B + n then b' else if B + n ≤ b ∧ b ≤ B + n + m then a else if B ≤ b ∧ b < B + n then f (b - B) else g b) = fun b => if B ≤ b ∧ b < B + (n + 1 + m) then (if b - B = n then b' else if n ≤ b - B ∧ b - B ≤ n + m then a else f (b - B)) else g b := funext fun b => by
  by_cases q0 : b = B + n
  · rw [if_pos q0, if_pos (by omega), if_pos (by omega)]
  · rw [if_neg q0]
    by_cases q : B + n ≤ b ∧ b ≤ B + n + m
    · rw [if_pos q, if_pos (by omega), if_neg (by omega), if_pos (by omega)]
    · rw [if_neg q]
      by_cases q2 : B ≤ b ∧ b < B + n
      · rw [if_pos q2, if_pos (by omega), if_neg (by omega), if_neg (by omega)]
      · rw [if_neg q2, if_neg (by omega)]
theorem n_mul : aMul (nW M B n W c s) ko ki m k = nW M B (n + 1 + m) (nMul W n B ko ki m k) (c + (1 + m)) (s + (m + m * k)) := by
  refine Prod.ext ?_ (Prod.ext ?_ (Prod.ext ?_ (Prod.ext ?_ (Prod.ext ?_ (Prod.ext ?_ (Prod.ext ?_ rfl))))))
  · show (fun b => if B + n ≤ b ∧ b ≤ B + n + m then fun _ => 0 else (fun b j => if B ≤ b ∧ b < B + n then W.1 (b - B) j else mI M b j) b) = fun b j => if B ≤ b ∧ b < B + (n + 1 + m) then (if n ≤ b - B ∧ b - B ≤ n + m then (fun _ => 0) else W.1 (b - B)) j else mI M b j
    rw [n_ij, n_ij (f := fun t => if n ≤ t ∧ t ≤ n + m then (fun _ => 0) else W.1 t), n_mul1]
  · show (fun b => if B + n ≤ b ∧ b ≤ B + n + m then fun _ => 0 else (fun b j => if B ≤ b ∧ b < B + n then W.2.1 (b - B) j else mL M b j) b) = fun b j => if B ≤ b ∧ b < B + (n + 1 + m) then (if n ≤ b - B ∧ b - B ≤ n + m then (fun _ => 0) else W.2.1 (b - B)) j else mL M b j
    rw [n_ij, n_ij (f := fun t => if n ≤ t ∧ t ≤ n + m then (fun _ => 0) else W.2.1 t), n_mul1]
  · show (fun b => if b = B + n then (fun i => if i < m then some (B + n + 1 + i) else none) else if B + n ≤ b ∧ b ≤ B + n + m then fun _ => none else (fun b j => if B ≤ b ∧ b < B + n then W.2.2.1 (b - B) j else mP M b j) b) = fun b j => if B ≤ b ∧ b < B + (n + 1 + m) then (if b - B = n then (fun i => if i < m then some (B + n + 1 + i) else none) else if n ≤ b - B ∧ b - B ≤ n + m then (fun _ => none) else W.2.2.1 (b - B)) j else mP M b j
    rw [n_ij, n_ij (f := fun t => if t = n then (fun i => if i < m then some (B + n + 1 + i) else none) else if n ≤ t ∧ t ≤ n + m then (fun _ => none) else W.2.2.1 t), n_mul2]
  · funext b
    funext j
    show (if B + n ≤ b ∧ b ≤ B + n + m then (fun _ => 0 : Nat → UInt64) else fun j => if B ≤ b ∧ b < B + n then 0 else mD M b j) j = if B ≤ b ∧ b < B + (n + 1 + m) then 0 else mD M b j
    by_cases q : B + n ≤ b ∧ b ≤ B + n + m
    · rw [if_pos q, if_pos (by omega)]
    · rw [if_neg q]
      by_cases q2 : B ≤ b ∧ b < B + n
      · show (if B ≤ b ∧ b < B + n then 0 else mD M b j) = _
        rw [if_pos q2, if_pos (by omega)]
      · show (if B ≤ b ∧ b < B + n then 0 else mD M b j) = _
        rw [if_neg q2, if_neg (by omega)]
  · exact n_mul2
  · exact n_mul2
  · show B + n + 1 + m = B + (n + 1 + m)
    omega
theorem ln_2 : lt_ln 2 q = q := ln_t (n := 2) (by decide)
theorem ltn_2 : lt_n 2 = 2 := rfl
theorem ln_13 : lt_ln 13 q = q := ln_t (n := 13) (by decide)
theorem ltn_13 : lt_n 13 = 13 := rfl
theorem ln_12896 : lt_ln 12896 q = q := ln_t (n := 12896) (by decide)
theorem ltn_12896 : lt_n 12896 = 12896 := rfl
set_option maxRecDepth 100000
def refW (A : Nat) : NW := nP (nNew (nP (nNew (nP (nNew (nP (nMul (nP (nMul (nP (nNew (nP (nNew (nP (nNew (nP (nNew (nI' (nP (nNew (nP (nNew (nP (nNew (nP (nNew (nP (nNew (nP (nNew (nP (nNew (nP (nMul (nP (nNew (nNew n0 0 27 0) 1 1 12896) 0 1 (some (A + 1))) 2 A 7 1 6 12896) 0 2 (some (A + 2))) 9 3 26) 0 5 (some (A + 9))) 10 1 26) 0 6 (some (A + 10))) 11 1 26) 0 7 (some (A + 11))) 12 1 26) 0 9 (some (A + 12))) 13 1 26) 0 10 (some (A + 13))) 14 1 26) 0 11 (some (A + 14))) 15 1 26) 0 13 (some (A + 15))) 0 17 (-1)) 16 1 200) 0 19 (some (A + 16))) 17 1 12) 0 23 (some (A + 17))) 18 3 26) 0 26 (some (A + 18))) 19 1 26) 0 27 (some (A + 19))) 20 A 7 1 26 6) 0 30 (some (A + 20))) 47 A 8 3 26 6) 0 31 (some (A + 47))) 74 1 26) 0 32 (some (A + 74))) 75 1 2) 0 33 (some (A + 75))) 76 1 13) 0 34 (some (A + 76))
theorem i_ref0 (d : Nat) : f_X11_init (d + 1) (nW M A 1 (nNew n0 0 27 0) c s) A = f_X11_init_169 (d + 1) (nW M A 77 (refW A) (c + 76) (s + 91129)) A 0 := by
  rw [e_X11_init]
  simp only [ltn_2, ltn_6, ltn_12, ltn_13, ltn_26, ltn_200, ltn_12896]
  rw [ln_12896, n_new, x_m, nW_ck (by rfl) (by omega), nW_N, n_wP0 (by omega), x_m, ln_6, ln_12896, n_mul, x_m, nW_ck (by rfl) (by omega), nW_N, n_wP0 (by omega), x_m, ln_26, n_new, x_m, nW_ck (by rfl) (by omega), nW_N, n_wP0 (by omega), x_m, ln_26, n_new, x_m, nW_ck (by rfl) (by omega), nW_N, n_wP0 (by omega), x_m, ln_26, n_new, x_m, nW_ck (by rfl) (by omega), nW_N, n_wP0 (by omega), x_m, ln_26, n_new, x_m, nW_ck (by rfl) (by omega), nW_N, n_wP0 (by omega), x_m, ln_26, n_new, x_m, nW_ck (by rfl) (by omega), nW_N, n_wP0 (by omega), x_m, ln_26, n_new, x_m, nW_ck (by rfl) (by omega), nW_N, n_wP0 (by omega), x_m, ln_26, n_new, x_m, nW_ck (by rfl) (by omega), nW_N, n_wP0 (by omega), x_m, nW_ck (by rfl) (by omega), n_wI0 (by omega), x_m, ln_200, n_new, x_m, nW_ck (by rfl) (by omega), nW_N, n_wP0 (by omega), x_m, ln_12, n_new, x_m, nW_ck (by rfl) (by omega), nW_N, n_wP0 (by omega), x_m, ln_26, n_new, x_m, nW_ck (by rfl) (by omega), nW_N, n_wP0 (by omega), x_m, ln_26, n_new, x_m, nW_ck (by rfl) (by omega), nW_N, n_wP0 (by omega), x_m, ln_26, ln_6, n_mul, x_m, nW_ck (by rfl) (by omega), nW_N, n_wP0 (by omega), x_m, ln_26, ln_6, n_mul, x_m, nW_ck (by rfl) (by omega), nW_N, n_wP0 (by omega), x_m, ln_26, n_new, x_m, nW_ck (by rfl) (by omega), nW_N, n_wP0 (by omega), x_m, ln_2, n_new, x_m, nW_ck (by rfl) (by omega), nW_N, n_wP0 (by omega), x_m, ln_13, n_new, x_m, nW_ck (by rfl) (by omega), nW_N, n_wP0 (by omega), x_m]
  simp only [Nat.add_assoc, Nat.reduceAdd, Nat.reduceMul]
  rfl
end Ne
