/-! INSTRUCTIONS, one by one: what lt_op answers is what the machine does (laid by wip/whole/gen18.py) -/
/-- only the cell 0 is the script -/
def lt_9 (M : LM) : Prop := ∀ a, mK M a = 9 → a = 0
def lt_Cx (l : Launch) (d : Nat) (X : lt_X) (q : Nat × (Nat → Nat) × Nat × Nat) (m : Nat) : Prop := lt_C X m ∧ lt_rm X q ∧ X.2.1 = l ∧ d + 7 ≤ X.2.2.2.1.frames ∧ 64 * d + 200 ≤ X.2.2.2.1.locals
def lt_U (l : Launch) (d m : Nat) (z : LO × LM) (pc : Nat) (ls st : List Value) (M : LM) : Prop := lt_9 M → (lt_ge M z.2 ∧ lt_9 z.2) ∧ ∀ X q, lt_Cx l d X q m → lt_V X m z q pc ls st M
theorem lt_U.of {l : Launch} {d m : Nat} {z : LO × LM} {pc pc' : Nat} {ls st ls' st' : List Value} {M M' : LM} (g : lt_ge M M') (n : lt_9 M → lt_9 M') (h : lt_U l d m z pc' ls' st' M') (f : lt_9 M → ∀ X q, lt_Cx l d X q m → lt_V X m z q pc' ls' st' M' → lt_V X m z q pc ls st M) : lt_U l d m z pc ls st M :=
  fun h9 => ⟨⟨g.tr (h (n h9)).1.1, (h (n h9)).1.2⟩, fun X q hC => f h9 X q hC ((h (n h9)).2 X q hC)⟩
theorem lt_U.s {l : Launch} {d m : Nat} {z : LO × LM} {pc pc' : Nat} {ls st ls' st' : List Value} {M : LM} (h : lt_U l d m z pc' ls' st' M) (f : ∀ X q, lt_Cx l d X q m → lt_V X m z q pc' ls' st' M → lt_V X m z q pc ls st M) : lt_U l d m z pc ls st M :=
  lt_U.of lt_ge.rf id h fun _ => f
/-- a local is forgotten -/
theorem lt_U.kl {l : Launch} {d m : Nat} {z : LO × LM} {pc : Nat} {ls st : List Value} {M : LM} {ks : List Nat} (h : lt_U l d m z pc (lt_kl ls ks) st M) : lt_U l d m z pc ls st M :=
  h.s fun X q hC hV => by
    obtain ⟨p, l, e, R, s, mid, args, below, meth, c, D, G, A⟩ := X
    obtain ⟨n0, ad0, mc, ms⟩ := q
    exact ⟨hV.1, fun ad H locs cells slots lsM hR hS hL hst hc hs ha hn h0 => hV.2 ad H locs cells slots lsM hR hS (lt_L.kl ks hL) hst hc hs ha hn h0⟩
theorem lt_9.new {M : LM} {k zl n : Nat} (hk : k ≠ 9) (h : lt_9 M) : lt_9 (aNew M k zl n) := fun a ha => by
  have h' : (if a = mN M then k else mK M a) = 9 := ha
  split at h'
  · exact absurd h' hk
  · exact h a h'
theorem lt_9.mul {M : LM} {ko ki n k : Nat} (ho : ko ≠ 9) (hi : ki ≠ 9) (h : lt_9 M) : lt_9 (aMul M ko ki n k) := fun a ha => by
  rw [aMul_K] at ha
  split at ha
  · exact absurd ha ho
  · split at ha
    · exact absurd ha hi
    · exact h a ha
theorem lt_ge.new {M : LM} {k zl n : Nat} : lt_ge M (aNew M k zl n) := ⟨Nat.le_succ _, Nat.le_add_right _ _, Nat.le_succ _⟩
theorem lt_ge.mul {M : LM} {ko ki n k : Nat} : lt_ge M (aMul M ko ki n k) := ⟨Nat.le_add_right _ _, Nat.le_add_right _ _, by show mN M ≤ mN M + 1 + n; omega⟩
/-! what the little operations had -/
section Inv
variable {z : LO × LM} {st ls : List Value}
theorem lt_i1_inv {f : Int32 → List Value → Option (LO × LM)} (h : lt_i1 st f = some z) : ∃ x r, st = .int x :: r ∧ f x r = some z := by
  unfold lt_i1 at h
  split at h
  · exact ⟨_, _, rfl, h⟩
  · cases h
theorem lt_i2_inv {f : Int32 → Int32 → List Value → Option (LO × LM)} (h : lt_i2 st f = some z) : ∃ x y r, st = .int y :: .int x :: r ∧ f x y r = some z := by
  unfold lt_i2 at h
  split at h
  · exact ⟨_, _, _, rfl, h⟩
  · cases h
theorem lt_l1_inv {f : Int64 → List Value → Option (LO × LM)} (h : lt_l1 st f = some z) : ∃ x r, st = .long x :: r ∧ f x r = some z := by
  unfold lt_l1 at h
  split at h
  · exact ⟨_, _, rfl, h⟩
  · cases h
theorem lt_l2_inv {f : Int64 → Int64 → List Value → Option (LO × LM)} (h : lt_l2 st f = some z) : ∃ x y r, st = .long y :: .long x :: r ∧ f x y r = some z := by
  unfold lt_l2 at h
  split at h
  · exact ⟨_, _, _, rfl, h⟩
  · cases h
theorem lt_li_inv {f : Int64 → Int32 → List Value → Option (LO × LM)} (h : lt_li st f = some z) : ∃ x y r, st = .int y :: .long x :: r ∧ f x y r = some z := by
  unfold lt_li at h
  split at h
  · exact ⟨_, _, _, rfl, h⟩
  · cases h
theorem lt_f1_inv {f : UInt32 → List Value → Option (LO × LM)} (h : lt_f1 st f = some z) : ∃ x r, st = .float x :: r ∧ f x r = some z := by
  unfold lt_f1 at h
  split at h
  · exact ⟨_, _, rfl, h⟩
  · cases h
theorem lt_f2_inv {f : UInt32 → UInt32 → List Value → Option (LO × LM)} (h : lt_f2 st f = some z) : ∃ x y r, st = .float y :: .float x :: r ∧ f x y r = some z := by
  unfold lt_f2 at h
  split at h
  · exact ⟨_, _, _, rfl, h⟩
  · cases h
theorem lt_d1_inv {f : UInt64 → List Value → Option (LO × LM)} (h : lt_d1 st f = some z) : ∃ x r, st = .double x :: r ∧ f x r = some z := by
  unfold lt_d1 at h
  split at h
  · exact ⟨_, _, rfl, h⟩
  · cases h
theorem lt_d2_inv {f : UInt64 → UInt64 → List Value → Option (LO × LM)} (h : lt_d2 st f = some z) : ∃ x y r, st = .double y :: .double x :: r ∧ f x y r = some z := by
  unfold lt_d2 at h
  split at h
  · exact ⟨_, _, _, rfl, h⟩
  · cases h
theorem lt_a1_inv {f : Nat → List Value → Option (LO × LM)} (h : lt_a1 st f = some z) : ∃ a r, st = .ref a :: r ∧ f a r = some z := by
  unfold lt_a1 at h
  split at h
  · exact ⟨_, _, rfl, h⟩
  · cases h
theorem lt_x1_inv {f : Nat → Int32 → List Value → Option (LO × LM)} (h : lt_x1 st f = some z) : ∃ a i r, st = .int i :: .ref a :: r ∧ f a i r = some z := by
  unfold lt_x1 at h
  split at h
  · exact ⟨_, _, _, rfl, h⟩
  · cases h
theorem lt_x2_inv {f : Nat → Int32 → Value → List Value → Option (LO × LM)} (h : lt_x2 st f = some z) : ∃ a i v r, st = v :: .int i :: .ref a :: r ∧ f a i v r = some z := by
  unfold lt_x2 at h
  split at h
  · exact ⟨_, _, _, _, rfl, h⟩
  · cases h
theorem lt_p2_inv {f : Nat → Value → List Value → Option (LO × LM)} (h : lt_p2 st f = some z) : ∃ a v r, st = v :: .ref a :: r ∧ f a v r = some z := by
  unfold lt_p2 at h
  split at h
  · exact ⟨_, _, _, rfl, h⟩
  · cases h
theorem lt_n1_inv {f : Nat → List Value → Option (LO × LM)} {g : List Value → Option (LO × LM)} (h : lt_n1 st f g = some z) : (∃ a r, st = .ref a :: r ∧ f a r = some z) ∨ ∃ r, st = .null :: r ∧ g r = some z := by
  unfold lt_n1 at h
  split at h
  · exact Or.inl ⟨_, _, rfl, h⟩
  · exact Or.inr ⟨_, rfl, h⟩
  · cases h
theorem lt_vi_inv {v : Value} {f : Int32 → Option (LO × LM)} (h : lt_vi v f = some z) : ∃ x, v = .int x ∧ f x = some z := by
  unfold lt_vi at h
  split at h
  · exact ⟨_, rfl, h⟩
  · cases h
theorem lt_vl_inv {v : Value} {f : Int64 → Option (LO × LM)} (h : lt_vl v f = some z) : ∃ x, v = .long x ∧ f x = some z := by
  unfold lt_vl at h
  split at h
  · exact ⟨_, rfl, h⟩
  · cases h
theorem lt_vd_inv {v : Value} {f : UInt64 → Option (LO × LM)} (h : lt_vd v f = some z) : ∃ x, v = .double x ∧ f x = some z := by
  unfold lt_vd at h
  split at h
  · exact ⟨_, rfl, h⟩
  · cases h
theorem lt_va_inv {v : Value} {f : Nat → Option (LO × LM)} (h : lt_va v f = some z) : ∃ x, v = .ref x ∧ f x = some z := by
  unfold lt_va at h
  split at h
  · exact ⟨_, rfl, h⟩
  · cases h
theorem lt_gi_inv {k : Nat} {f : Int32 → Option (LO × LM)} (h : lt_gi ls k f = some z) : ∃ x, ls[k]? = some (.int x) ∧ f x = some z := by
  unfold lt_gi at h
  split at h
  · next x e => exact ⟨x, e, h⟩
  · cases h
theorem lt_gl_inv {k : Nat} {f : Int64 → Option (LO × LM)} (h : lt_gl ls k f = some z) : ∃ x, ls[k]? = some (.long x) ∧ f x = some z := by
  unfold lt_gl at h
  split at h
  · next x e => exact ⟨x, e, h⟩
  · cases h
theorem lt_gd_inv {k : Nat} {f : UInt64 → Option (LO × LM)} (h : lt_gd ls k f = some z) : ∃ x, ls[k]? = some (.double x) ∧ f x = some z := by
  unfold lt_gd at h
  split at h
  · next x e => exact ⟨x, e, h⟩
  · cases h
theorem lt_ga_inv {k : Nat} {f : Nat → Option (LO × LM)} {g : Option (LO × LM)} (h : lt_ga ls k f g = some z) : (∃ x, ls[k]? = some (.ref x) ∧ f x = some z) ∨ (ls[k]? = some .null ∧ g = some z) := by
  unfold lt_ga at h
  split at h
  · next x e => exact Or.inl ⟨x, e, h⟩
  · next e => exact Or.inr ⟨e, h⟩
  · cases h
theorem lt_if_inv {c : Prop} [Decidable c] {x : Option (LO × LM)} (h : (if c then x else none) = some z) : c ∧ x = some z := by
  by_cases hc : c
  · rw [if_pos hc] at h; exact ⟨hc, h⟩
  · rw [if_neg hc] at h; cases h
theorem lt_ifn_inv {c : Prop} [Decidable c] {x : Option (LO × LM)} (h : (if c then none else x) = some z) : ¬ c ∧ x = some z := by
  by_cases hc : c
  · rw [if_pos hc] at h; cases h
  · rw [if_neg hc] at h; exact ⟨hc, h⟩
theorem lt_bif_inv {c : Bool} {x : Option (LO × LM)} (h : (bif c then x else none) = some z) : c = true ∧ x = some z := by
  cases c
  · cases h
  · exact ⟨rfl, h⟩
theorem lt_o1_inv {k : Nat} {v : Value} {f : List Value → Option (LO × LM)} (h : lt_o1 ls k v f = some z) : k < ls.length ∧ f (lt_s1 ls k v) = some z := by
  obtain ⟨h1, h2⟩ := lt_bif_inv h
  rw [lt_fc_eq] at h2
  exact ⟨Nat.lt_of_succ_le (Nat.le_of_ble_eq_true h1), h2⟩
theorem lt_o2_inv {k : Nat} {v : Value} {f : List Value → Option (LO × LM)} (h : lt_o2 ls k v f = some z) : k + 1 < ls.length ∧ f (lt_s2 ls k v) = some z := by
  obtain ⟨h1, h2⟩ := lt_bif_inv h
  rw [lt_fc_eq] at h2
  exact ⟨Nat.lt_of_succ_le (Nat.le_of_ble_eq_true h1), h2⟩
theorem lt_rf_inv {o : Option Nat} {f : Nat → Option (LO × LM)} (h : lt_rf o f = some z) : ∃ x, o = some x ∧ f x = some z := by
  unfold lt_rf at h
  split at h
  · exact ⟨_, rfl, h⟩
  · cases h
theorem lt_rn_inv {o : Option Nat} {f : Nat → Option (LO × LM)} {g : Option (LO × LM)} (h : lt_rn o f g = some z) : (∃ x, o = some x ∧ f x = some z) ∨ (o = none ∧ g = some z) := by
  unfold lt_rn at h
  split at h
  · exact Or.inl ⟨_, rfl, h⟩
  · exact Or.inr ⟨rfl, h⟩
theorem lt_tb_inv {x : Int} {f : Int → Option (LO × LM)} {g : Option (LO × LM)} : ∀ (os : List Int) (lo : Int), lt_tb x lo os f g = some z → (∃ q, os[(x - lo).toNat]? = some q ∧ lo ≤ x ∧ x < lo + os.length ∧ f q = some z) ∨ ((x < lo ∨ lo + os.length ≤ x) ∧ g = some z)
  | [], lo, h => Or.inr ⟨by simp only [List.length_nil]; omega, h⟩
  | q :: r, lo, h => by
    unfold lt_tb at h
    by_cases hx : x = lo
    · rw [if_pos hx] at h
      refine Or.inl ⟨q, ?_, by omega, by simp only [List.length_cons]; omega, h⟩
      rw [show (x - lo).toNat = 0 by omega]
      rfl
    · rw [if_neg hx] at h
      rcases lt_tb_inv r (lo + 1) h with ⟨q', e, h1, h2, h3⟩ | ⟨h1, h2⟩
      · refine Or.inl ⟨q', ?_, by omega, by simp only [List.length_cons]; omega, h3⟩
        rw [show (x - lo).toNat = (x - (lo + 1)).toNat + 1 by omega, List.getElem?_cons_succ]
        exact e
      · exact Or.inr ⟨by simp only [List.length_cons]; omega, h2⟩
theorem lt_lk_eq {β : Type} {x : Int} {F : Int → Option β} {d : Int} : ∀ ps : List (Int × Int), lt_lk x ps F (F d) = F (Op.lookupswitch.offset ps d x)
  | [] => rfl
  | q :: r => by
    unfold lt_lk
    rw [lt_lk_eq r, Op.lookupswitch.offset_cons]
    by_cases hx : x = q.1
    · first | rw [if_pos hx, if_pos hx] | rw [if_pos hx, if_pos hx.symm]
    · first | rw [if_neg hx, if_neg hx] | rw [if_neg hx, if_neg (fun e => hx e.symm)]
theorem lt_lk_in {x d : Int} {P : Int → Prop} (hd : P d) : ∀ ps : List (Int × Int), (∀ q ∈ ps, P q.2) → P (Op.lookupswitch.offset ps d x)
  | [], _ => hd
  | q :: r, h => by
    rw [Op.lookupswitch.offset_cons]
    split
    · exact h q List.mem_cons_self
    · exact lt_lk_in hd r fun q hq => h q (List.mem_cons_of_mem _ hq)
end Inv
theorem lt_cst_spec {own k : Nat} {v : Int32} (ho : own < 17) (h : lt_find (lt_cst own) k = some v) : Cond.constant (lt_cn own) k v ∈ lw_good := by
  have h1 := List.all_eq_true.mp (lt_ko own ho) _ (lt_find_mem h)
  unfold lt_kok at h1
  split at h1
  · exact lt_gw_in h1
  · cases h1
theorem lt_csl_spec {own k : Nat} {v : Int64} (ho : own < 17) (h : lt_find (lt_csl own) k = some v) : Cond.constantLong (lt_cn own) k v ∈ lw_good := by
  have h1 := List.all_eq_true.mp (lt_jo own ho) _ (lt_find_mem h)
  unfold lt_jok at h1
  split at h1
  · exact lt_gw_in h1
  · cases h1
def lt_D (m pc nx tg : Nat) (cn : Int32) (i : Instr) : Prop := m < 150 ∧ decode (lt_by m) pc = .ok (i, lt_len i (nx - pc)) ∧ nx = pc + lt_len i (nx - pc) ∧ lt_chi pc tg cn i = true
def lt_HK (l : Launch) (d m : Nat) (z : LO × LM) (K : lt_KT (LO × LM)) : Prop := ∀ pc ls st M, K pc ls st M = some z → lt_U l d m z pc ls st M
section Op
variable {l : Launch} {d m pc nx tg : Nat} {cn : Int32} {fl : Bool} {z : LO × LM} {ls st : List Value} {M : LM} {K : lt_KT (LO × LM)}
theorem o_iload {k : Nat} (hD : lt_D m pc nx tg cn (.iload k)) (hK : lt_HK l d m z K) (h : (lt_gi ls k fun x => K nx ls (.int x :: st) M) = some z) : lt_U l d m z pc ls st M := by
  obtain ⟨hm, hd, hn, hc⟩ := hD
  have hn : nx = pc + 2 := hn
  subst hn
  obtain ⟨x, hl, h⟩ := lt_gi_inv h
  exact (hK _ _ _ _ h).s fun X q hC hV => v_iload hC.1 hd hl hV
theorem o_lload {k : Nat} (hD : lt_D m pc nx tg cn (.lload k)) (hK : lt_HK l d m z K) (h : (lt_gl ls k fun x => K nx ls (.long x :: st) M) = some z) : lt_U l d m z pc ls st M := by
  obtain ⟨hm, hd, hn, hc⟩ := hD
  have hn : nx = pc + 2 := hn
  subst hn
  obtain ⟨x, hl, h⟩ := lt_gl_inv h
  exact (hK _ _ _ _ h).s fun X q hC hV => v_lload hC.1 hd hl hV
theorem o_dload {k : Nat} (hD : lt_D m pc nx tg cn (.dload k)) (hK : lt_HK l d m z K) (h : (lt_gd ls k fun x => K nx ls (.double x :: st) M) = some z) : lt_U l d m z pc ls st M := by
  obtain ⟨hm, hd, hn, hc⟩ := hD
  have hn : nx = pc + 2 := hn
  subst hn
  obtain ⟨x, hl, h⟩ := lt_gd_inv h
  exact (hK _ _ _ _ h).s fun X q hC hV => v_dload hC.1 hd hl hV
theorem o_iload_n {k : Fin 4} (hD : lt_D m pc nx tg cn (.iload_n k)) (hK : lt_HK l d m z K) (h : (lt_gi ls k fun x => K nx ls (.int x :: st) M) = some z) : lt_U l d m z pc ls st M := by
  obtain ⟨hm, hd, hn, hc⟩ := hD
  have hn : nx = pc + 1 := hn
  subst hn
  obtain ⟨x, hl, h⟩ := lt_gi_inv h
  exact (hK _ _ _ _ h).s fun X q hC hV => v_iload_n hC.1 hd hl hV
theorem o_lload_n {k : Fin 4} (hD : lt_D m pc nx tg cn (.lload_n k)) (hK : lt_HK l d m z K) (h : (lt_gl ls k fun x => K nx ls (.long x :: st) M) = some z) : lt_U l d m z pc ls st M := by
  obtain ⟨hm, hd, hn, hc⟩ := hD
  have hn : nx = pc + 1 := hn
  subst hn
  obtain ⟨x, hl, h⟩ := lt_gl_inv h
  exact (hK _ _ _ _ h).s fun X q hC hV => v_lload_n hC.1 hd hl hV
theorem o_aload {k : Nat} (hD : lt_D m pc nx tg cn (.aload k)) (hK : lt_HK l d m z K) (h : (lt_ga ls k (fun x => K nx ls (.ref x :: st) M) (K nx ls (.null :: st) M)) = some z) : lt_U l d m z pc ls st M := by
  obtain ⟨hm, hd, hn, hc⟩ := hD
  have hn : nx = pc + 2 := hn
  subst hn
  rcases lt_ga_inv h with ⟨x, hl, h⟩ | ⟨hl, h⟩
  · exact (hK _ _ _ _ h).s fun X q hC hV => v_aload hC.1 hd hl hV
  · exact (hK _ _ _ _ h).s fun X q hC hV => v_aloadN hC.1 hd hl hV
theorem o_aload_n {k : Fin 4} (hD : lt_D m pc nx tg cn (.aload_n k)) (hK : lt_HK l d m z K) (h : (lt_ga ls k (fun x => K nx ls (.ref x :: st) M) (K nx ls (.null :: st) M)) = some z) : lt_U l d m z pc ls st M := by
  obtain ⟨hm, hd, hn, hc⟩ := hD
  have hn : nx = pc + 1 := hn
  subst hn
  rcases lt_ga_inv h with ⟨x, hl, h⟩ | ⟨hl, h⟩
  · exact (hK _ _ _ _ h).s fun X q hC hV => v_aload_n hC.1 hd hl hV
  · exact (hK _ _ _ _ h).s fun X q hC hV => v_aload_nN hC.1 hd hl hV
theorem o_istore {k : Nat} (hD : lt_D m pc nx tg cn (.istore k)) (hK : lt_HK l d m z K) (h : (lt_i1 st fun x r => lt_o1 ls k (.int x) fun ls => K nx ls r M) = some z) : lt_U l d m z pc ls st M := by
  obtain ⟨hm, hd, hn, hc⟩ := hD
  have hn : nx = pc + 2 := hn
  subst hn
  obtain ⟨x, r, rfl, h⟩ := lt_i1_inv h
  obtain ⟨hk, h⟩ := lt_o1_inv h
  exact (hK _ _ _ _ h).s fun X q hC hV => v_istore hC.1 hd hk hV
theorem o_istore_n {k : Fin 4} (hD : lt_D m pc nx tg cn (.istore_n k)) (hK : lt_HK l d m z K) (h : (lt_i1 st fun x r => lt_o1 ls k (.int x) fun ls => K nx ls r M) = some z) : lt_U l d m z pc ls st M := by
  obtain ⟨hm, hd, hn, hc⟩ := hD
  have hn : nx = pc + 1 := hn
  subst hn
  obtain ⟨x, r, rfl, h⟩ := lt_i1_inv h
  obtain ⟨hk, h⟩ := lt_o1_inv h
  exact (hK _ _ _ _ h).s fun X q hC hV => v_istore_n hC.1 hd hk hV
theorem o_lstore {k : Nat} (hD : lt_D m pc nx tg cn (.lstore k)) (hK : lt_HK l d m z K) (h : (lt_l1 st fun x r => lt_o2 ls k (.long x) fun ls => K nx ls r M) = some z) : lt_U l d m z pc ls st M := by
  obtain ⟨hm, hd, hn, hc⟩ := hD
  have hn : nx = pc + 2 := hn
  subst hn
  obtain ⟨x, r, rfl, h⟩ := lt_l1_inv h
  obtain ⟨hk, h⟩ := lt_o2_inv h
  exact (hK _ _ _ _ h).s fun X q hC hV => v_lstore hC.1 hd hk hV
theorem o_lstore_n {k : Fin 4} (hD : lt_D m pc nx tg cn (.lstore_n k)) (hK : lt_HK l d m z K) (h : (lt_l1 st fun x r => lt_o2 ls k (.long x) fun ls => K nx ls r M) = some z) : lt_U l d m z pc ls st M := by
  obtain ⟨hm, hd, hn, hc⟩ := hD
  have hn : nx = pc + 1 := hn
  subst hn
  obtain ⟨x, r, rfl, h⟩ := lt_l1_inv h
  obtain ⟨hk, h⟩ := lt_o2_inv h
  exact (hK _ _ _ _ h).s fun X q hC hV => v_lstore_n hC.1 hd hk hV
theorem o_dstore {k : Nat} (hD : lt_D m pc nx tg cn (.dstore k)) (hK : lt_HK l d m z K) (h : (lt_d1 st fun x r => lt_o2 ls k (.double x) fun ls => K nx ls r M) = some z) : lt_U l d m z pc ls st M := by
  obtain ⟨hm, hd, hn, hc⟩ := hD
  have hn : nx = pc + 2 := hn
  subst hn
  obtain ⟨x, r, rfl, h⟩ := lt_d1_inv h
  obtain ⟨hk, h⟩ := lt_o2_inv h
  exact (hK _ _ _ _ h).s fun X q hC hV => v_dstore hC.1 hd hk hV
theorem o_astore {k : Nat} (hD : lt_D m pc nx tg cn (.astore k)) (hK : lt_HK l d m z K) (h : (lt_n1 st (fun x r => lt_o1 ls k (.ref x) fun ls => K nx ls r M) (fun r => lt_o1 ls k .null fun ls => K nx ls r M)) = some z) : lt_U l d m z pc ls st M := by
  obtain ⟨hm, hd, hn, hc⟩ := hD
  have hn : nx = pc + 2 := hn
  subst hn
  rcases lt_n1_inv h with ⟨x, r, rfl, h⟩ | ⟨r, rfl, h⟩
  · obtain ⟨hk, h⟩ := lt_o1_inv h
    exact (hK _ _ _ _ h).s fun X q hC hV => v_astore hC.1 hd hk hV
  · obtain ⟨hk, h⟩ := lt_o1_inv h
    exact (hK _ _ _ _ h).s fun X q hC hV => v_astoreN hC.1 hd hk hV
theorem o_astore_n {k : Fin 4} (hD : lt_D m pc nx tg cn (.astore_n k)) (hK : lt_HK l d m z K) (h : (lt_n1 st (fun x r => lt_o1 ls k (.ref x) fun ls => K nx ls r M) (fun r => lt_o1 ls k .null fun ls => K nx ls r M)) = some z) : lt_U l d m z pc ls st M := by
  obtain ⟨hm, hd, hn, hc⟩ := hD
  have hn : nx = pc + 1 := hn
  subst hn
  rcases lt_n1_inv h with ⟨x, r, rfl, h⟩ | ⟨r, rfl, h⟩
  · obtain ⟨hk, h⟩ := lt_o1_inv h
    exact (hK _ _ _ _ h).s fun X q hC hV => v_astore_n hC.1 hd hk hV
  · obtain ⟨hk, h⟩ := lt_o1_inv h
    exact (hK _ _ _ _ h).s fun X q hC hV => v_astore_nN hC.1 hd hk hV
theorem o_iinc {k : Nat} {n : Int} (hD : lt_D m pc nx tg cn (.iinc k n)) (hK : lt_HK l d m z K) (h : (lt_gi ls k fun x => lt_o1 ls k (.int (x + cn)) fun ls => K nx ls st M) = some z) : lt_U l d m z pc ls st M := by
  obtain ⟨hm, hd, hn, hc⟩ := hD
  have hn : nx = pc + 3 := hn
  subst hn
  obtain ⟨x, hl, h⟩ := lt_gi_inv h
  obtain ⟨hk, h⟩ := lt_o1_inv h
  exact (hK _ _ _ _ h).s fun X q hC hV => v_iinc hC.1 hd (of_decide_eq_true hc) hl hV
theorem o_iconst {n : Int} (hD : lt_D m pc nx tg cn (.iconst n)) (hK : lt_HK l d m z K) (h : (K nx ls (.int cn :: st) M) = some z) : lt_U l d m z pc ls st M := by
  obtain ⟨hm, hd, hn, hc⟩ := hD
  have hn : nx = pc + 1 := hn
  subst hn
  exact (hK _ _ _ _ h).s fun X q hC hV => v_iconst hC.1 hd (of_decide_eq_true hc) hV
theorem o_bipush {n : Int} (hD : lt_D m pc nx tg cn (.bipush n)) (hK : lt_HK l d m z K) (h : (K nx ls (.int cn :: st) M) = some z) : lt_U l d m z pc ls st M := by
  obtain ⟨hm, hd, hn, hc⟩ := hD
  have hn : nx = pc + 2 := hn
  subst hn
  exact (hK _ _ _ _ h).s fun X q hC hV => v_bipush hC.1 hd (of_decide_eq_true hc) hV
theorem o_sipush {n : Int} (hD : lt_D m pc nx tg cn (.sipush n)) (hK : lt_HK l d m z K) (h : (K nx ls (.int cn :: st) M) = some z) : lt_U l d m z pc ls st M := by
  obtain ⟨hm, hd, hn, hc⟩ := hD
  have hn : nx = pc + 3 := hn
  subst hn
  exact (hK _ _ _ _ h).s fun X q hC hV => v_sipush hC.1 hd (of_decide_eq_true hc) hV
theorem o_lconst {n : Fin 2} (hD : lt_D m pc nx tg cn (.lconst n)) (hK : lt_HK l d m z K) (h : (K nx ls (.long (Int64.ofNat (n : Nat)) :: st) M) = some z) : lt_U l d m z pc ls st M := by
  obtain ⟨hm, hd, hn, hc⟩ := hD
  have hn : nx = pc + 1 := hn
  subst hn
  exact (hK _ _ _ _ h).s fun X q hC hV => v_lconst hC.1 hd hV
theorem o_fconst (hD : lt_D m pc nx tg cn (.fconst 0)) (hK : lt_HK l d m z K) (h : (K nx ls (.float FP.fconst0 :: st) M) = some z) : lt_U l d m z pc ls st M := by
  obtain ⟨hm, hd, hn, hc⟩ := hD
  have hn : nx = pc + 1 := hn
  subst hn
  exact (hK _ _ _ _ h).s fun X q hC hV => v_fconst hC.1 hd hV
theorem o_dconst (hD : lt_D m pc nx tg cn (.dconst 0)) (hK : lt_HK l d m z K) (h : (K nx ls (.double FP.dconst0 :: st) M) = some z) : lt_U l d m z pc ls st M := by
  obtain ⟨hm, hd, hn, hc⟩ := hD
  have hn : nx = pc + 1 := hn
  subst hn
  exact (hK _ _ _ _ h).s fun X q hC hV => v_dconst hC.1 hd hV
theorem o_null (hD : lt_D m pc nx tg cn (.aconst_null)) (hK : lt_HK l d m z K) (h : (K nx ls (.null :: st) M) = some z) : lt_U l d m z pc ls st M := by
  obtain ⟨hm, hd, hn, hc⟩ := hD
  have hn : nx = pc + 1 := hn
  subst hn
  exact (hK _ _ _ _ h).s fun X q hC hV => v_null hC.1 hd hV
theorem o_ldc {k : Nat} (hD : lt_D m pc nx tg cn (.ldc k)) (hK : lt_HK l d m z K) (h : ((match lt_find (lt_cst (lt_inf m).1) k with
    | some v => K nx ls (.int v :: st) M
    | none => none)) = some z) : lt_U l d m z pc ls st M := by
  obtain ⟨hm, hd, hn, hc⟩ := hD
  have hn : nx = pc + 2 := hn
  subst hn
  split at h
  · next v hf => exact (hK _ _ _ _ h).s fun X q hC hV => v_ldc hC.1 hd (lt_cst_spec (lt_own_lt m hm) hf) hV
  · cases h
theorem o_ldc_w {k : Nat} (hD : lt_D m pc nx tg cn (.ldc_w k)) (hK : lt_HK l d m z K) (h : ((match lt_find (lt_cst (lt_inf m).1) k with
    | some v => K nx ls (.int v :: st) M
    | none => none)) = some z) : lt_U l d m z pc ls st M := by
  obtain ⟨hm, hd, hn, hc⟩ := hD
  have hn : nx = pc + 3 := hn
  subst hn
  split at h
  · next v hf => exact (hK _ _ _ _ h).s fun X q hC hV => v_ldc_w hC.1 hd (lt_cst_spec (lt_own_lt m hm) hf) hV
  · cases h
theorem o_ldc2_w {k : Nat} (hD : lt_D m pc nx tg cn (.ldc2_w k)) (hK : lt_HK l d m z K) (h : ((match lt_find (lt_csl (lt_inf m).1) k with
    | some v => K nx ls (.long v :: st) M
    | none => none)) = some z) : lt_U l d m z pc ls st M := by
  obtain ⟨hm, hd, hn, hc⟩ := hD
  have hn : nx = pc + 3 := hn
  subst hn
  split at h
  · next v hf => exact (hK _ _ _ _ h).s fun X q hC hV => v_ldc2_w hC.1 hd (lt_csl_spec (lt_own_lt m hm) hf) hV
  · cases h
theorem o_iadd (hD : lt_D m pc nx tg cn (.iadd)) (hK : lt_HK l d m z K) (h : (lt_i2 st fun x y r => K nx ls (.int (x + y) :: r) M) = some z) : lt_U l d m z pc ls st M := by
  obtain ⟨hm, hd, hn, hc⟩ := hD
  have hn : nx = pc + 1 := hn
  subst hn
  obtain ⟨x, y, r, rfl, h⟩ := lt_i2_inv h
  exact (hK _ _ _ _ h).s fun X q hC hV => v_iadd hC.1 hd hV
theorem o_isub (hD : lt_D m pc nx tg cn (.isub)) (hK : lt_HK l d m z K) (h : (lt_i2 st fun x y r => K nx ls (.int (x - y) :: r) M) = some z) : lt_U l d m z pc ls st M := by
  obtain ⟨hm, hd, hn, hc⟩ := hD
  have hn : nx = pc + 1 := hn
  subst hn
  obtain ⟨x, y, r, rfl, h⟩ := lt_i2_inv h
  exact (hK _ _ _ _ h).s fun X q hC hV => v_isub hC.1 hd hV
theorem o_imul (hD : lt_D m pc nx tg cn (.imul)) (hK : lt_HK l d m z K) (h : (lt_i2 st fun x y r => K nx ls (.int (x * y) :: r) M) = some z) : lt_U l d m z pc ls st M := by
  obtain ⟨hm, hd, hn, hc⟩ := hD
  have hn : nx = pc + 1 := hn
  subst hn
  obtain ⟨x, y, r, rfl, h⟩ := lt_i2_inv h
  exact (hK _ _ _ _ h).s fun X q hC hV => v_imul hC.1 hd hV
theorem o_iand (hD : lt_D m pc nx tg cn (.iand)) (hK : lt_HK l d m z K) (h : (lt_i2 st fun x y r => K nx ls (.int (x &&& y) :: r) M) = some z) : lt_U l d m z pc ls st M := by
  obtain ⟨hm, hd, hn, hc⟩ := hD
  have hn : nx = pc + 1 := hn
  subst hn
  obtain ⟨x, y, r, rfl, h⟩ := lt_i2_inv h
  exact (hK _ _ _ _ h).s fun X q hC hV => v_iand hC.1 hd hV
theorem o_ior (hD : lt_D m pc nx tg cn (.ior)) (hK : lt_HK l d m z K) (h : (lt_i2 st fun x y r => K nx ls (.int (x ||| y) :: r) M) = some z) : lt_U l d m z pc ls st M := by
  obtain ⟨hm, hd, hn, hc⟩ := hD
  have hn : nx = pc + 1 := hn
  subst hn
  obtain ⟨x, y, r, rfl, h⟩ := lt_i2_inv h
  exact (hK _ _ _ _ h).s fun X q hC hV => v_ior hC.1 hd hV
theorem o_ixor (hD : lt_D m pc nx tg cn (.ixor)) (hK : lt_HK l d m z K) (h : (lt_i2 st fun x y r => K nx ls (.int (x ^^^ y) :: r) M) = some z) : lt_U l d m z pc ls st M := by
  obtain ⟨hm, hd, hn, hc⟩ := hD
  have hn : nx = pc + 1 := hn
  subst hn
  obtain ⟨x, y, r, rfl, h⟩ := lt_i2_inv h
  exact (hK _ _ _ _ h).s fun X q hC hV => v_ixor hC.1 hd hV
theorem o_ishl (hD : lt_D m pc nx tg cn (.ishl)) (hK : lt_HK l d m z K) (h : (lt_i2 st fun x y r => K nx ls (.int (x <<< (y &&& 31)) :: r) M) = some z) : lt_U l d m z pc ls st M := by
  obtain ⟨hm, hd, hn, hc⟩ := hD
  have hn : nx = pc + 1 := hn
  subst hn
  obtain ⟨x, y, r, rfl, h⟩ := lt_i2_inv h
  exact (hK _ _ _ _ h).s fun X q hC hV => v_ishl hC.1 hd hV
theorem o_ishr (hD : lt_D m pc nx tg cn (.ishr)) (hK : lt_HK l d m z K) (h : (lt_i2 st fun x y r => K nx ls (.int (x >>> (y &&& 31)) :: r) M) = some z) : lt_U l d m z pc ls st M := by
  obtain ⟨hm, hd, hn, hc⟩ := hD
  have hn : nx = pc + 1 := hn
  subst hn
  obtain ⟨x, y, r, rfl, h⟩ := lt_i2_inv h
  exact (hK _ _ _ _ h).s fun X q hC hV => v_ishr hC.1 hd hV
theorem o_iushr (hD : lt_D m pc nx tg cn (.iushr)) (hK : lt_HK l d m z K) (h : (lt_i2 st fun x y r => K nx ls (.int (lt_us x y) :: r) M) = some z) : lt_U l d m z pc ls st M := by
  obtain ⟨hm, hd, hn, hc⟩ := hD
  have hn : nx = pc + 1 := hn
  subst hn
  obtain ⟨x, y, r, rfl, h⟩ := lt_i2_inv h
  exact (hK _ _ _ _ h).s fun X q hC hV => v_iushr hC.1 hd hV
theorem o_ladd (hD : lt_D m pc nx tg cn (.ladd)) (hK : lt_HK l d m z K) (h : (lt_l2 st fun x y r => K nx ls (.long (x + y) :: r) M) = some z) : lt_U l d m z pc ls st M := by
  obtain ⟨hm, hd, hn, hc⟩ := hD
  have hn : nx = pc + 1 := hn
  subst hn
  obtain ⟨x, y, r, rfl, h⟩ := lt_l2_inv h
  exact (hK _ _ _ _ h).s fun X q hC hV => v_ladd hC.1 hd hV
theorem o_lmul (hD : lt_D m pc nx tg cn (.lmul)) (hK : lt_HK l d m z K) (h : (lt_l2 st fun x y r => K nx ls (.long (x * y) :: r) M) = some z) : lt_U l d m z pc ls st M := by
  obtain ⟨hm, hd, hn, hc⟩ := hD
  have hn : nx = pc + 1 := hn
  subst hn
  obtain ⟨x, y, r, rfl, h⟩ := lt_l2_inv h
  exact (hK _ _ _ _ h).s fun X q hC hV => v_lmul hC.1 hd hV
theorem o_land (hD : lt_D m pc nx tg cn (.land)) (hK : lt_HK l d m z K) (h : (lt_l2 st fun x y r => K nx ls (.long (x &&& y) :: r) M) = some z) : lt_U l d m z pc ls st M := by
  obtain ⟨hm, hd, hn, hc⟩ := hD
  have hn : nx = pc + 1 := hn
  subst hn
  obtain ⟨x, y, r, rfl, h⟩ := lt_l2_inv h
  exact (hK _ _ _ _ h).s fun X q hC hV => v_land hC.1 hd hV
theorem o_lor (hD : lt_D m pc nx tg cn (.lor)) (hK : lt_HK l d m z K) (h : (lt_l2 st fun x y r => K nx ls (.long (x ||| y) :: r) M) = some z) : lt_U l d m z pc ls st M := by
  obtain ⟨hm, hd, hn, hc⟩ := hD
  have hn : nx = pc + 1 := hn
  subst hn
  obtain ⟨x, y, r, rfl, h⟩ := lt_l2_inv h
  exact (hK _ _ _ _ h).s fun X q hC hV => v_lor hC.1 hd hV
theorem o_lushr (hD : lt_D m pc nx tg cn (.lushr)) (hK : lt_HK l d m z K) (h : (lt_li st fun x y r => K nx ls (.long (lt_lus x y) :: r) M) = some z) : lt_U l d m z pc ls st M := by
  obtain ⟨hm, hd, hn, hc⟩ := hD
  have hn : nx = pc + 1 := hn
  subst hn
  obtain ⟨x, y, r, rfl, h⟩ := lt_li_inv h
  exact (hK _ _ _ _ h).s fun X q hC hV => v_lushr hC.1 hd hV
theorem o_lshl (hD : lt_D m pc nx tg cn (.lshl)) (hK : lt_HK l d m z K) (h : (lt_li st fun x y r => K nx ls (.long (lt_lsl x y) :: r) M) = some z) : lt_U l d m z pc ls st M := by
  obtain ⟨hm, hd, hn, hc⟩ := hD
  have hn : nx = pc + 1 := hn
  subst hn
  obtain ⟨x, y, r, rfl, h⟩ := lt_li_inv h
  exact (hK _ _ _ _ h).s fun X q hC hV => v_lshl hC.1 hd hV
theorem o_lcmp (hD : lt_D m pc nx tg cn (.lcmp)) (hK : lt_HK l d m z K) (h : (lt_l2 st fun x y r => K nx ls (.int (lg_cmp x y) :: r) M) = some z) : lt_U l d m z pc ls st M := by
  obtain ⟨hm, hd, hn, hc⟩ := hD
  have hn : nx = pc + 1 := hn
  subst hn
  obtain ⟨x, y, r, rfl, h⟩ := lt_l2_inv h
  exact (hK _ _ _ _ h).s fun X q hC hV => v_lcmp hC.1 hd hV
theorem o_dcmp {op : CmpOp} (hD : lt_D m pc nx tg cn (.dcmp op)) (hK : lt_HK l d m z K) (h : (lt_d2 st fun x y r => K nx ls (.int (Op.cmpValue (FP.dcmp x y) op) :: r) M) = some z) : lt_U l d m z pc ls st M := by
  obtain ⟨hm, hd, hn, hc⟩ := hD
  have hn : nx = pc + 1 := hn
  subst hn
  obtain ⟨x, y, r, rfl, h⟩ := lt_d2_inv h
  exact (hK _ _ _ _ h).s fun X q hC hV => v_dcmp hC.1 hd hV
theorem o_idiv (hD : lt_D m pc nx tg cn (.idiv)) (hK : lt_HK l d m z K) (h : (lt_i2 st fun x y r => lt_nz y (K nx ls (.int (x / y) :: r) M)) = some z) : lt_U l d m z pc ls st M := by
  obtain ⟨hm, hd, hn, hc⟩ := hD
  have hn : nx = pc + 1 := hn
  subst hn
  obtain ⟨x, y, r, rfl, h⟩ := lt_i2_inv h
  obtain ⟨hne, h⟩ := lt_ifn_inv h
  exact (hK _ _ _ _ h).s fun X q hC hV => v_idiv hC.1 hd hne hV
theorem o_irem (hD : lt_D m pc nx tg cn (.irem)) (hK : lt_HK l d m z K) (h : (lt_i2 st fun x y r => lt_nz y (K nx ls (.int (x - x / y * y) :: r) M)) = some z) : lt_U l d m z pc ls st M := by
  obtain ⟨hm, hd, hn, hc⟩ := hD
  have hn : nx = pc + 1 := hn
  subst hn
  obtain ⟨x, y, r, rfl, h⟩ := lt_i2_inv h
  obtain ⟨hne, h⟩ := lt_ifn_inv h
  exact (hK _ _ _ _ h).s fun X q hC hV => v_irem hC.1 hd hne hV
theorem o_ldiv (hD : lt_D m pc nx tg cn (.ldiv)) (hK : lt_HK l d m z K) (h : (lt_l2 st fun x y r => lt_nzl y (K nx ls (.long (x / y) :: r) M)) = some z) : lt_U l d m z pc ls st M := by
  obtain ⟨hm, hd, hn, hc⟩ := hD
  have hn : nx = pc + 1 := hn
  subst hn
  obtain ⟨x, y, r, rfl, h⟩ := lt_l2_inv h
  obtain ⟨hne, h⟩ := lt_ifn_inv h
  exact (hK _ _ _ _ h).s fun X q hC hV => v_ldiv hC.1 hd hne hV
theorem o_lrem (hD : lt_D m pc nx tg cn (.lrem)) (hK : lt_HK l d m z K) (h : (lt_l2 st fun x y r => lt_nzl y (K nx ls (.long (x - x / y * y) :: r) M)) = some z) : lt_U l d m z pc ls st M := by
  obtain ⟨hm, hd, hn, hc⟩ := hD
  have hn : nx = pc + 1 := hn
  subst hn
  obtain ⟨x, y, r, rfl, h⟩ := lt_l2_inv h
  obtain ⟨hne, h⟩ := lt_ifn_inv h
  exact (hK _ _ _ _ h).s fun X q hC hV => v_lrem hC.1 hd hne hV
theorem o_ineg (hD : lt_D m pc nx tg cn (.ineg)) (hK : lt_HK l d m z K) (h : (lt_i1 st fun x r => K nx ls (.int (-x) :: r) M) = some z) : lt_U l d m z pc ls st M := by
  obtain ⟨hm, hd, hn, hc⟩ := hD
  have hn : nx = pc + 1 := hn
  subst hn
  obtain ⟨x, r, rfl, h⟩ := lt_i1_inv h
  exact (hK _ _ _ _ h).s fun X q hC hV => v_ineg hC.1 hd hV
theorem o_i2l (hD : lt_D m pc nx tg cn (.i2l)) (hK : lt_HK l d m z K) (h : (lt_i1 st fun x r => K nx ls (.long x.toInt64 :: r) M) = some z) : lt_U l d m z pc ls st M := by
  obtain ⟨hm, hd, hn, hc⟩ := hD
  have hn : nx = pc + 1 := hn
  subst hn
  obtain ⟨x, r, rfl, h⟩ := lt_i1_inv h
  exact (hK _ _ _ _ h).s fun X q hC hV => v_i2l hC.1 hd hV
theorem o_l2i (hD : lt_D m pc nx tg cn (.l2i)) (hK : lt_HK l d m z K) (h : (lt_l1 st fun x r => K nx ls (.int x.toInt32 :: r) M) = some z) : lt_U l d m z pc ls st M := by
  obtain ⟨hm, hd, hn, hc⟩ := hD
  have hn : nx = pc + 1 := hn
  subst hn
  obtain ⟨x, r, rfl, h⟩ := lt_l1_inv h
  exact (hK _ _ _ _ h).s fun X q hC hV => v_l2i hC.1 hd hV
theorem o_i2f (hD : lt_D m pc nx tg cn (.i2f)) (hK : lt_HK l d m z K) (h : (lt_i1 st fun x r => K nx ls (.float (FP.i2f x) :: r) M) = some z) : lt_U l d m z pc ls st M := by
  obtain ⟨hm, hd, hn, hc⟩ := hD
  have hn : nx = pc + 1 := hn
  subst hn
  obtain ⟨x, r, rfl, h⟩ := lt_i1_inv h
  exact (hK _ _ _ _ h).s fun X q hC hV => v_i2f hC.1 hd hV
theorem o_i2d (hD : lt_D m pc nx tg cn (.i2d)) (hK : lt_HK l d m z K) (h : (lt_i1 st fun x r => K nx ls (.double (FP.i2d x) :: r) M) = some z) : lt_U l d m z pc ls st M := by
  obtain ⟨hm, hd, hn, hc⟩ := hD
  have hn : nx = pc + 1 := hn
  subst hn
  obtain ⟨x, r, rfl, h⟩ := lt_i1_inv h
  exact (hK _ _ _ _ h).s fun X q hC hV => v_i2d hC.1 hd hV
theorem o_f2d (hD : lt_D m pc nx tg cn (.f2d)) (hK : lt_HK l d m z K) (h : (lt_f1 st fun x r => lt_n64 (FP.f2d x) (K nx ls (.double (FP.f2d x) :: r) M)) = some z) : lt_U l d m z pc ls st M := by
  obtain ⟨hm, hd, hn, hc⟩ := hD
  have hn : nx = pc + 1 := hn
  subst hn
  obtain ⟨x, r, rfl, h⟩ := lt_f1_inv h
  obtain ⟨hne, h⟩ := lt_if_inv h
  exact (hK _ _ _ _ h).s fun X q hC hV => v_f2d hC.1 hd hne hV
theorem o_fdiv (hD : lt_D m pc nx tg cn (.fdiv)) (hK : lt_HK l d m z K) (h : (lt_f2 st fun x y r => lt_n32 (FP.fdiv x y) (K nx ls (.float (FP.fdiv x y) :: r) M)) = some z) : lt_U l d m z pc ls st M := by
  obtain ⟨hm, hd, hn, hc⟩ := hD
  have hn : nx = pc + 1 := hn
  subst hn
  obtain ⟨x, y, r, rfl, h⟩ := lt_f2_inv h
  obtain ⟨hne, h⟩ := lt_if_inv h
  exact (hK _ _ _ _ h).s fun X q hC hV => v_fdiv hC.1 hd hne hV
theorem o_ddiv (hD : lt_D m pc nx tg cn (.ddiv)) (hK : lt_HK l d m z K) (h : (lt_d2 st fun x y r => lt_n64 (FP.ddiv x y) (K nx ls (.double (FP.ddiv x y) :: r) M)) = some z) : lt_U l d m z pc ls st M := by
  obtain ⟨hm, hd, hn, hc⟩ := hD
  have hn : nx = pc + 1 := hn
  subst hn
  obtain ⟨x, y, r, rfl, h⟩ := lt_d2_inv h
  obtain ⟨hne, h⟩ := lt_if_inv h
  exact (hK _ _ _ _ h).s fun X q hC hV => v_ddiv hC.1 hd hne hV
theorem o_dup (hD : lt_D m pc nx tg cn (.dup)) (hK : lt_HK l d m z K) (h : ((match st with
    | v :: r => bif lt_c1 v then K nx ls (v :: v :: r) M else none
    | [] => none)) = some z) : lt_U l d m z pc ls st M := by
  obtain ⟨hm, hd, hn, hc⟩ := hD
  have hn : nx = pc + 1 := hn
  subst hn
  split at h
  · obtain ⟨h1, h⟩ := lt_bif_inv h
    exact (hK _ _ _ _ h).s fun X q hC hV => v_dup hC.1 hd h1 hV
  · cases h
theorem o_dup2 (hD : lt_D m pc nx tg cn (.dup2)) (hK : lt_HK l d m z K) (h : ((match st with
    | v :: w :: r => bif lt_c1 v && lt_c1 w then K nx ls (v :: w :: v :: w :: r) M else none
    | _ => none)) = some z) : lt_U l d m z pc ls st M := by
  obtain ⟨hm, hd, hn, hc⟩ := hD
  have hn : nx = pc + 1 := hn
  subst hn
  split at h
  · obtain ⟨h1, h⟩ := lt_bif_inv h
    rw [Bool.and_eq_true] at h1
    exact (hK _ _ _ _ h).s fun X q hC hV => v_dup2 hC.1 hd h1.1 h1.2 hV
  · cases h
theorem o_pop (hD : lt_D m pc nx tg cn (.pop)) (hK : lt_HK l d m z K) (h : ((match st with
    | v :: r => bif lt_c1 v then K nx ls r M else none
    | [] => none)) = some z) : lt_U l d m z pc ls st M := by
  obtain ⟨hm, hd, hn, hc⟩ := hD
  have hn : nx = pc + 1 := hn
  subst hn
  split at h
  · obtain ⟨h1, h⟩ := lt_bif_inv h
    exact (hK _ _ _ _ h).s fun X q hC hV => v_pop hC.1 hd h1 hV
  · cases h
theorem o_goto {k : Int} (hD : lt_D m pc nx tg cn (.goto k)) (hK : lt_HK l d m z K) (h : (K tg ls st M) = some z) : lt_U l d m z pc ls st M := by
  obtain ⟨hm, hd, hn, hc⟩ := hD
  have hn : nx = pc + 3 := hn
  subst hn
  exact (hK _ _ _ _ h).s fun X q hC hV => v_goto hC.1 hd (of_decide_eq_true hc) hV
theorem o_ifnull {k : Int} (hD : lt_D m pc nx tg cn (.ifnull k)) (hK : lt_HK l d m z K) (h : (lt_n1 st (fun _ r => K nx ls r M) (fun r => K tg ls r M)) = some z) : lt_U l d m z pc ls st M := by
  obtain ⟨hm, hd, hn, hc⟩ := hD
  have hn : nx = pc + 3 := hn
  subst hn
  rcases lt_n1_inv h with ⟨x, r, rfl, h⟩ | ⟨r, rfl, h⟩
  · exact (hK _ _ _ _ h).s fun X q hC hV => v_ifnull hC.1 hd hV
  · exact (hK _ _ _ _ h).s fun X q hC hV => v_ifnullN hC.1 hd (of_decide_eq_true hc) hV
theorem o_ifnonnull {k : Int} (hD : lt_D m pc nx tg cn (.ifnonnull k)) (hK : lt_HK l d m z K) (h : (lt_n1 st (fun _ r => K tg ls r M) (fun r => K nx ls r M)) = some z) : lt_U l d m z pc ls st M := by
  obtain ⟨hm, hd, hn, hc⟩ := hD
  have hn : nx = pc + 3 := hn
  subst hn
  rcases lt_n1_inv h with ⟨x, r, rfl, h⟩ | ⟨r, rfl, h⟩
  · exact (hK _ _ _ _ h).s fun X q hC hV => v_ifnonnull hC.1 hd (of_decide_eq_true hc) hV
  · exact (hK _ _ _ _ h).s fun X q hC hV => v_ifnonnullN hC.1 hd hV
theorem o_ifCond {c : ClassFile.Cond} {k : Int} (hD : lt_D m pc nx tg cn (.ifCond c k)) (hK : lt_HK l d m z K) (h : (lt_i1 st fun x r => lt_if c x (K tg ls r M) (K nx ls r M)) = some z) : lt_U l d m z pc ls st M := by
  obtain ⟨hm, hd, hn, hc⟩ := hD
  have hn : nx = pc + 3 := hn
  subst hn
  obtain ⟨x, r, rfl, h⟩ := lt_i1_inv h
  have ht : (pc : Int) + k = (tg : Int) := by cases c <;> exact of_decide_eq_true hc
  cases c
  · have h : (if x = 0 then K tg ls r M else K (pc + 3) ls r M) = some z := h
    by_cases hx : x = 0
    · rw [if_pos hx] at h
      exact (hK _ _ _ _ h).s fun X q hC hV => v_if_eq hC.1 hd ht hV.1 (fun _ => hV) (fun e => absurd hx e)
    · rw [if_neg hx] at h
      exact (hK _ _ _ _ h).s fun X q hC hV => v_if_eq hC.1 hd ht hV.1 (fun e => absurd e hx) (fun _ => hV)
  · have h : (if x = 0 then K (pc + 3) ls r M else K tg ls r M) = some z := h
    by_cases hx : x = 0
    · rw [if_pos hx] at h
      exact (hK _ _ _ _ h).s fun X q hC hV => v_if_ne hC.1 hd ht hV.1 (fun e => absurd hx e) (fun _ => hV)
    · rw [if_neg hx] at h
      exact (hK _ _ _ _ h).s fun X q hC hV => v_if_ne hC.1 hd ht hV.1 (fun _ => hV) (fun e => absurd hx e)
  · have h : (if x < 0 then K tg ls r M else K (pc + 3) ls r M) = some z := h
    by_cases hx : x < 0
    · rw [if_pos hx] at h
      exact (hK _ _ _ _ h).s fun X q hC hV => v_if_lt hC.1 hd ht hV.1 (fun _ => hV) (fun e => absurd hx e)
    · rw [if_neg hx] at h
      exact (hK _ _ _ _ h).s fun X q hC hV => v_if_lt hC.1 hd ht hV.1 (fun e => absurd e hx) (fun _ => hV)
  · have h : (if x < 0 then K (pc + 3) ls r M else K tg ls r M) = some z := h
    by_cases hx : x < 0
    · rw [if_pos hx] at h
      exact (hK _ _ _ _ h).s fun X q hC hV => v_if_ge hC.1 hd ht hV.1 (fun e => absurd hx (Int32.not_lt.mpr e)) (fun _ => hV)
    · rw [if_neg hx] at h
      exact (hK _ _ _ _ h).s fun X q hC hV => v_if_ge hC.1 hd ht hV.1 (fun _ => hV) (fun e => absurd (Int32.not_lt.mp hx) e)
  · have h : (if 0 < x then K tg ls r M else K (pc + 3) ls r M) = some z := h
    by_cases hx : 0 < x
    · rw [if_pos hx] at h
      exact (hK _ _ _ _ h).s fun X q hC hV => v_if_gt hC.1 hd ht hV.1 (fun _ => hV) (fun e => absurd hx e)
    · rw [if_neg hx] at h
      exact (hK _ _ _ _ h).s fun X q hC hV => v_if_gt hC.1 hd ht hV.1 (fun e => absurd e hx) (fun _ => hV)
  · have h : (if 0 < x then K (pc + 3) ls r M else K tg ls r M) = some z := h
    by_cases hx : 0 < x
    · rw [if_pos hx] at h
      exact (hK _ _ _ _ h).s fun X q hC hV => v_if_le hC.1 hd ht hV.1 (fun e => absurd hx (Int32.not_lt.mpr e)) (fun _ => hV)
    · rw [if_neg hx] at h
      exact (hK _ _ _ _ h).s fun X q hC hV => v_if_le hC.1 hd ht hV.1 (fun _ => hV) (fun e => absurd (Int32.not_lt.mp hx) e)
theorem o_if_icmp {c : ClassFile.Cond} {k : Int} (hD : lt_D m pc nx tg cn (.if_icmp c k)) (hK : lt_HK l d m z K) (h : (lt_i2 st fun x y r => lt_ic c x y (K tg ls r M) (K nx ls r M)) = some z) : lt_U l d m z pc ls st M := by
  obtain ⟨hm, hd, hn, hc⟩ := hD
  have hn : nx = pc + 3 := hn
  subst hn
  obtain ⟨x, y, r, rfl, h⟩ := lt_i2_inv h
  have ht : (pc : Int) + k = (tg : Int) := by cases c <;> exact of_decide_eq_true hc
  cases c
  · have h : (if x = y then K tg ls r M else K (pc + 3) ls r M) = some z := h
    by_cases hx : x = y
    · rw [if_pos hx] at h
      exact (hK _ _ _ _ h).s fun X q hC hV => v_ic_eq hC.1 hd ht hV.1 (fun _ => hV) (fun e => absurd hx e)
    · rw [if_neg hx] at h
      exact (hK _ _ _ _ h).s fun X q hC hV => v_ic_eq hC.1 hd ht hV.1 (fun e => absurd e hx) (fun _ => hV)
  · have h : (if x = y then K (pc + 3) ls r M else K tg ls r M) = some z := h
    by_cases hx : x = y
    · rw [if_pos hx] at h
      exact (hK _ _ _ _ h).s fun X q hC hV => v_ic_ne hC.1 hd ht hV.1 (fun e => absurd hx e) (fun _ => hV)
    · rw [if_neg hx] at h
      exact (hK _ _ _ _ h).s fun X q hC hV => v_ic_ne hC.1 hd ht hV.1 (fun _ => hV) (fun e => absurd hx e)
  · have h : (if x < y then K tg ls r M else K (pc + 3) ls r M) = some z := h
    by_cases hx : x < y
    · rw [if_pos hx] at h
      exact (hK _ _ _ _ h).s fun X q hC hV => v_ic_lt hC.1 hd ht hV.1 (fun _ => hV) (fun e => absurd hx e)
    · rw [if_neg hx] at h
      exact (hK _ _ _ _ h).s fun X q hC hV => v_ic_lt hC.1 hd ht hV.1 (fun e => absurd e hx) (fun _ => hV)
  · have h : (if x < y then K (pc + 3) ls r M else K tg ls r M) = some z := h
    by_cases hx : x < y
    · rw [if_pos hx] at h
      exact (hK _ _ _ _ h).s fun X q hC hV => v_ic_ge hC.1 hd ht hV.1 (fun e => absurd hx (Int32.not_lt.mpr e)) (fun _ => hV)
    · rw [if_neg hx] at h
      exact (hK _ _ _ _ h).s fun X q hC hV => v_ic_ge hC.1 hd ht hV.1 (fun _ => hV) (fun e => absurd (Int32.not_lt.mp hx) e)
  · have h : (if y < x then K tg ls r M else K (pc + 3) ls r M) = some z := h
    by_cases hx : y < x
    · rw [if_pos hx] at h
      exact (hK _ _ _ _ h).s fun X q hC hV => v_ic_gt hC.1 hd ht hV.1 (fun _ => hV) (fun e => absurd hx e)
    · rw [if_neg hx] at h
      exact (hK _ _ _ _ h).s fun X q hC hV => v_ic_gt hC.1 hd ht hV.1 (fun e => absurd e hx) (fun _ => hV)
  · have h : (if y < x then K (pc + 3) ls r M else K tg ls r M) = some z := h
    by_cases hx : y < x
    · rw [if_pos hx] at h
      exact (hK _ _ _ _ h).s fun X q hC hV => v_ic_le hC.1 hd ht hV.1 (fun e => absurd hx (Int32.not_lt.mpr e)) (fun _ => hV)
    · rw [if_neg hx] at h
      exact (hK _ _ _ _ h).s fun X q hC hV => v_ic_le hC.1 hd ht hV.1 (fun _ => hV) (fun e => absurd (Int32.not_lt.mp hx) e)
theorem lt_t_eq {pc : Nat} {q : Int} (h : 0 ≤ (pc : Int) + q) : (pc : Int) + q = (lt_t pc q : Int) := by unfold lt_t; omega
theorem v_tableIn {X : lt_X} {q : Nat × (Nat → Nat) × Nat × Nat} {r : List Value} {df lo hi : Int} {os : Array Int} {len t : Nat} {x : Int32} {off : Int} (hC : lt_C X m) (hd : decode (lt_by m) pc = .ok (.tableswitch df lo hi os, len)) (h1 : ¬ x.toInt < lo) (h2 : ¬ hi < x.toInt) (ho : os[(x.toInt - lo).toNat]? = some off) (ht : (pc : Int) + off = (t : Int)) (h : lt_V X m z q t ls r M) : lt_V X m z q pc ls (.int x :: r) M := by
  obtain ⟨p, l, e, R, s, mid, args, below, meth, c, D, G, A⟩ := X
  obtain ⟨n0, ad0, mc, ms⟩ := q
  obtain ⟨hx, hb, -⟩ := hC
  exact ⟨h.1, fun ad H locs cells slots lsM hR hS hL hst hc hs ha hn h0 => lv_tableIn hx hb hd h1 h2 ho ht (h.2 ad H locs cells slots lsM hR hS hL (fun v hv => hst v (List.mem_cons_of_mem _ hv)) hc hs ha hn h0)⟩
theorem v_tableOut {X : lt_X} {q : Nat × (Nat → Nat) × Nat × Nat} {r : List Value} {df lo hi : Int} {os : Array Int} {len t : Nat} {x : Int32} (hC : lt_C X m) (hd : decode (lt_by m) pc = .ok (.tableswitch df lo hi os, len)) (h1 : x.toInt < lo ∨ hi < x.toInt) (ht : (pc : Int) + df = (t : Int)) (h : lt_V X m z q t ls r M) : lt_V X m z q pc ls (.int x :: r) M := by
  obtain ⟨p, l, e, R, s, mid, args, below, meth, c, D, G, A⟩ := X
  obtain ⟨n0, ad0, mc, ms⟩ := q
  obtain ⟨hx, hb, -⟩ := hC
  exact ⟨h.1, fun ad H locs cells slots lsM hR hS hL hst hc hs ha hn h0 => lv_tableOut hx hb hd h1 ht (h.2 ad H locs cells slots lsM hR hS hL (fun v hv => hst v (List.mem_cons_of_mem _ hv)) hc hs ha hn h0)⟩
theorem v_lookup {X : lt_X} {q : Nat × (Nat → Nat) × Nat × Nat} {r : List Value} {df : Int} {ps : Array (Int × Int)} {len t : Nat} {x : Int32} {off : Int} (hC : lt_C X m) (hd : decode (lt_by m) pc = .ok (.lookupswitch df ps, len)) (hp : (ps.toList.zip (ps.toList.drop 1)).all (fun (a, next) => decide (a.1 < next.1)) = true) (ho : Op.lookupswitch.offset ps.toList df x.toInt = off) (ht : (pc : Int) + off = (t : Int)) (h : lt_V X m z q t ls r M) : lt_V X m z q pc ls (.int x :: r) M := by
  obtain ⟨p, l, e, R, s, mid, args, below, meth, c, D, G, A⟩ := X
  obtain ⟨n0, ad0, mc, ms⟩ := q
  obtain ⟨hx, hb, -⟩ := hC
  exact ⟨h.1, fun ad H locs cells slots lsM hR hS hL hst hc hs ha hn h0 => lv_lookup hx hb hd hp ho ht (h.2 ad H locs cells slots lsM hR hS hL (fun v hv => hst v (List.mem_cons_of_mem _ hv)) hc hs ha hn h0)⟩
theorem o_table {df lo hi : Int} {os : Array Int} (hD : lt_D m pc nx tg cn (.tableswitch df lo hi os)) (hK : lt_HK l d m z K) (h : (lt_i1 st fun x r => lt_tb x.toInt lo os.toList (fun q => K (lt_t pc q) ls r M) (K (lt_t pc df) ls r M)) = some z) : lt_U l d m z pc ls st M := by
  obtain ⟨hm, hd, hn, hc⟩ := hD
  obtain ⟨x, r, rfl, h⟩ := lt_i1_inv h
  have hc : (decide (hi + 1 - lo = (os.toList.length : Int)) && (decide (0 ≤ (pc : Int) + df) && os.toList.all fun q => decide (0 ≤ (pc : Int) + q))) = true := hc
  rw [Bool.and_eq_true, Bool.and_eq_true] at hc
  have c1 := of_decide_eq_true hc.1
  have c2 := of_decide_eq_true hc.2.1
  rcases lt_tb_inv _ _ h with ⟨q0, e, h1, h2, h⟩ | ⟨h1, h⟩
  · have c3 := of_decide_eq_true (List.all_eq_true.mp hc.2.2 q0 (List.mem_of_getElem? e))
    exact (hK _ _ _ _ h).s fun X q hC hV => v_tableIn hC.1 hd (by omega) (by omega) (by rw [← Array.getElem?_toList]; exact e) (lt_t_eq c3) hV
  · exact (hK _ _ _ _ h).s fun X q hC hV => v_tableOut hC.1 hd (by omega) (lt_t_eq c2) hV
theorem o_lookup {df : Int} {ps : Array (Int × Int)} (hD : lt_D m pc nx tg cn (.lookupswitch df ps)) (hK : lt_HK l d m z K) (h : (lt_i1 st fun x r => lt_lk x.toInt ps.toList (fun q => K (lt_t pc q) ls r M) (K (lt_t pc df) ls r M)) = some z) : lt_U l d m z pc ls st M := by
  obtain ⟨hm, hd, hn, hc⟩ := hD
  obtain ⟨x, r, rfl, h⟩ := lt_i1_inv h
  have hc : ((ps.toList.zip (ps.toList.drop 1)).all (fun (a, next) => decide (a.1 < next.1)) && (decide (0 ≤ (pc : Int) + df) && ps.toList.all fun q => decide (0 ≤ (pc : Int) + q.2))) = true := hc
  rw [Bool.and_eq_true, Bool.and_eq_true] at hc
  have c2 := of_decide_eq_true hc.2.1
  have e := lt_lk_eq (x := x.toInt) (F := fun q => K (lt_t pc q) ls r M) (d := df) ps.toList
  have h' : K (lt_t pc (Op.lookupswitch.offset ps.toList df x.toInt)) ls r M = some z := e.symm.trans h
  have c3 : 0 ≤ (pc : Int) + Op.lookupswitch.offset ps.toList df x.toInt := lt_lk_in (P := fun q => 0 ≤ (pc : Int) + q) c2 _ fun q hq => of_decide_eq_true (List.all_eq_true.mp hc.2.2 q hq)
  exact (hK _ _ _ _ h').s fun X q hC hV => v_lookup hC.1 hd hc.1 rfl (lt_t_eq c3) hV
end Op
