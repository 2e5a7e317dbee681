/-! A RUN IS ITS STEPS: what the little machine's runs answer, unfolded step by step -/
def lt_le {β : Type} (a b : Option β) : Prop := ∀ z, a = some z → b = some z
theorem lt_le.rf {β : Type} {a : Option β} : lt_le a a := fun _ h => h
theorem lt_le.no {β : Type} {b : Option β} : lt_le none b := fun _ h => by cases h
theorem lt_bif_le {β : Type} {c : Bool} {a b a' b' : Option β} (h : lt_le a b) (h' : lt_le a' b') : lt_le (bif c then a else a') (bif c then b else b') := by
  cases c
  · exact h'
  · exact h
theorem lt_i1_le {β : Type} {st : List Value} {f g : Int32 → List Value → Option β} (h : ∀ x r, lt_le (f x r) (g x r)) : lt_le (lt_i1 st f) (lt_i1 st g) := by
  unfold lt_i1; split <;> first | exact h _ _ | exact lt_le.no
theorem lt_i2_le {β : Type} {st : List Value} {f g : Int32 → Int32 → List Value → Option β} (h : ∀ x y r, lt_le (f x y r) (g x y r)) : lt_le (lt_i2 st f) (lt_i2 st g) := by
  unfold lt_i2; split <;> first | exact h _ _ _ | exact lt_le.no
theorem lt_l1_le {β : Type} {st : List Value} {f g : Int64 → List Value → Option β} (h : ∀ x r, lt_le (f x r) (g x r)) : lt_le (lt_l1 st f) (lt_l1 st g) := by
  unfold lt_l1; split <;> first | exact h _ _ | exact lt_le.no
theorem lt_l2_le {β : Type} {st : List Value} {f g : Int64 → Int64 → List Value → Option β} (h : ∀ x y r, lt_le (f x y r) (g x y r)) : lt_le (lt_l2 st f) (lt_l2 st g) := by
  unfold lt_l2; split <;> first | exact h _ _ _ | exact lt_le.no
theorem lt_li_le {β : Type} {st : List Value} {f g : Int64 → Int32 → List Value → Option β} (h : ∀ x y r, lt_le (f x y r) (g x y r)) : lt_le (lt_li st f) (lt_li st g) := by
  unfold lt_li; split <;> first | exact h _ _ _ | exact lt_le.no
theorem lt_f1_le {β : Type} {st : List Value} {f g : UInt32 → List Value → Option β} (h : ∀ x r, lt_le (f x r) (g x r)) : lt_le (lt_f1 st f) (lt_f1 st g) := by
  unfold lt_f1; split <;> first | exact h _ _ | exact lt_le.no
theorem lt_f2_le {β : Type} {st : List Value} {f g : UInt32 → UInt32 → List Value → Option β} (h : ∀ x y r, lt_le (f x y r) (g x y r)) : lt_le (lt_f2 st f) (lt_f2 st g) := by
  unfold lt_f2; split <;> first | exact h _ _ _ | exact lt_le.no
theorem lt_d1_le {β : Type} {st : List Value} {f g : UInt64 → List Value → Option β} (h : ∀ x r, lt_le (f x r) (g x r)) : lt_le (lt_d1 st f) (lt_d1 st g) := by
  unfold lt_d1; split <;> first | exact h _ _ | exact lt_le.no
theorem lt_d2_le {β : Type} {st : List Value} {f g : UInt64 → UInt64 → List Value → Option β} (h : ∀ x y r, lt_le (f x y r) (g x y r)) : lt_le (lt_d2 st f) (lt_d2 st g) := by
  unfold lt_d2; split <;> first | exact h _ _ _ | exact lt_le.no
theorem lt_a1_le {β : Type} {st : List Value} {f g : Nat → List Value → Option β} (h : ∀ x r, lt_le (f x r) (g x r)) : lt_le (lt_a1 st f) (lt_a1 st g) := by
  unfold lt_a1; split <;> first | exact h _ _ | exact lt_le.no
theorem lt_n1_le {β : Type} {st : List Value} {f g : Nat → List Value → Option β} {f' g' : List Value → Option β} (h : ∀ x r, lt_le (f x r) (g x r)) (h' : ∀ r, lt_le (f' r) (g' r)) : lt_le (lt_n1 st f f') (lt_n1 st g g') := by
  unfold lt_n1; split <;> first | exact h _ _ | exact h' _ | exact lt_le.no
theorem lt_x1_le {β : Type} {st : List Value} {f g : Nat → Int32 → List Value → Option β} (h : ∀ x y r, lt_le (f x y r) (g x y r)) : lt_le (lt_x1 st f) (lt_x1 st g) := by
  unfold lt_x1; split <;> first | exact h _ _ _ | exact lt_le.no
theorem lt_x2_le {β : Type} {st : List Value} {f g : Nat → Int32 → Value → List Value → Option β} (h : ∀ x y v r, lt_le (f x y v r) (g x y v r)) : lt_le (lt_x2 st f) (lt_x2 st g) := by
  unfold lt_x2; split <;> first | exact h _ _ _ _ | exact lt_le.no
theorem lt_p2_le {β : Type} {st : List Value} {f g : Nat → Value → List Value → Option β} (h : ∀ x v r, lt_le (f x v r) (g x v r)) : lt_le (lt_p2 st f) (lt_p2 st g) := by
  unfold lt_p2; split <;> first | exact h _ _ _ | exact lt_le.no
theorem lt_vi_le {β : Type} {v : Value} {f g : Int32 → Option β} (h : ∀ x, lt_le (f x) (g x)) : lt_le (lt_vi v f) (lt_vi v g) := by
  unfold lt_vi; split <;> first | exact h _ | exact lt_le.no
theorem lt_vl_le {β : Type} {v : Value} {f g : Int64 → Option β} (h : ∀ x, lt_le (f x) (g x)) : lt_le (lt_vl v f) (lt_vl v g) := by
  unfold lt_vl; split <;> first | exact h _ | exact lt_le.no
theorem lt_vd_le {β : Type} {v : Value} {f g : UInt64 → Option β} (h : ∀ x, lt_le (f x) (g x)) : lt_le (lt_vd v f) (lt_vd v g) := by
  unfold lt_vd; split <;> first | exact h _ | exact lt_le.no
theorem lt_va_le {β : Type} {v : Value} {f g : Nat → Option β} (h : ∀ x, lt_le (f x) (g x)) : lt_le (lt_va v f) (lt_va v g) := by
  unfold lt_va; split <;> first | exact h _ | exact lt_le.no
theorem lt_gi_le {β : Type} {ls : List Value} {k : Nat} {f g : Int32 → Option β} (h : ∀ x, lt_le (f x) (g x)) : lt_le (lt_gi ls k f) (lt_gi ls k g) := by
  unfold lt_gi; split <;> first | exact h _ | exact lt_le.no
theorem lt_gl_le {β : Type} {ls : List Value} {k : Nat} {f g : Int64 → Option β} (h : ∀ x, lt_le (f x) (g x)) : lt_le (lt_gl ls k f) (lt_gl ls k g) := by
  unfold lt_gl; split <;> first | exact h _ | exact lt_le.no
theorem lt_gd_le {β : Type} {ls : List Value} {k : Nat} {f g : UInt64 → Option β} (h : ∀ x, lt_le (f x) (g x)) : lt_le (lt_gd ls k f) (lt_gd ls k g) := by
  unfold lt_gd; split <;> first | exact h _ | exact lt_le.no
theorem lt_ga_le {β : Type} {ls : List Value} {k : Nat} {f g : Nat → Option β} {a b : Option β} (h : ∀ x, lt_le (f x) (g x)) (h' : lt_le a b) : lt_le (lt_ga ls k f a) (lt_ga ls k g b) := by
  unfold lt_ga; split <;> first | exact h _ | exact h' | exact lt_le.no
theorem lt_o1_le {β : Type} {ls : List Value} {k : Nat} {v : Value} {f g : List Value → Option β} (h : ∀ x, lt_le (f x) (g x)) : lt_le (lt_o1 ls k v f) (lt_o1 ls k v g) := by
  unfold lt_o1; simp only [lt_fc_eq]; exact lt_bif_le (h _) lt_le.no
theorem lt_o2_le {β : Type} {ls : List Value} {k : Nat} {v : Value} {f g : List Value → Option β} (h : ∀ x, lt_le (f x) (g x)) : lt_le (lt_o2 ls k v f) (lt_o2 ls k v g) := by
  unfold lt_o2; simp only [lt_fc_eq]; exact lt_bif_le (h _) lt_le.no
theorem lt_if2_le {β : Type} {c : Prop} [Decidable c] {a b a' b' : Option β} (h : lt_le a b) (h' : lt_le a' b') : lt_le (if c then a else a') (if c then b else b') := by
  by_cases hc : c
  · rw [if_pos hc, if_pos hc]; exact h
  · rw [if_neg hc, if_neg hc]; exact h'
theorem lt_ck_le {β : Type} {M : LM} {a c : Nat} {x y : Option β} (h : lt_le x y) : lt_le (lt_ck M a c x) (lt_ck M a c y) := lt_if2_le h lt_le.no
theorem lt_rf_le {β : Type} {o : Option Nat} {f g : Nat → Option β} (h : ∀ x, lt_le (f x) (g x)) : lt_le (lt_rf o f) (lt_rf o g) := by
  unfold lt_rf; split <;> first | exact h _ | exact lt_le.no
theorem lt_rn_le {β : Type} {o : Option Nat} {f g : Nat → Option β} {a b : Option β} (h : ∀ x, lt_le (f x) (g x)) (h' : lt_le a b) : lt_le (lt_rn o f a) (lt_rn o g b) := by
  unfold lt_rn; split <;> first | exact h _ | exact h' | exact lt_le.no
theorem lt_ar_le {β : Type} {M : LM} {a c : Nat} {i : Int32} {x y : Option β} (h : lt_le x y) : lt_le (lt_ar M a c i x) (lt_ar M a c i y) := lt_if2_le h lt_le.no
theorem lt_aa_le {β : Type} {M : LM} {a : Nat} {i : Int32} {x y : Option β} (h : lt_le x y) : lt_le (lt_aa M a i x) (lt_aa M a i y) := lt_if2_le h lt_le.no
theorem lt_as_le {β : Type} {M : LM} {a : Nat} {i : Int32} {q : Nat} {x y : Option β} (h : lt_le x y) : lt_le (lt_as M a i q x) (lt_as M a i q y) := lt_if2_le h lt_le.no
theorem lt_al_le {β : Type} {M : LM} {a : Nat} {x y : Option β} (h : lt_le x y) : lt_le (lt_al M a x) (lt_al M a y) := lt_if2_le h lt_le.no
theorem lt_b1_le {β : Type} {v : Int32} {x y : Option β} (h : lt_le x y) : lt_le (lt_b1 v x) (lt_b1 v y) := lt_if2_le h lt_le.no
theorem lt_nz_le {β : Type} {v : Int32} {x y : Option β} (h : lt_le x y) : lt_le (lt_nz v x) (lt_nz v y) := lt_if2_le lt_le.no h
theorem lt_nzl_le {β : Type} {v : Int64} {x y : Option β} (h : lt_le x y) : lt_le (lt_nzl v x) (lt_nzl v y) := lt_if2_le lt_le.no h
theorem lt_ln_le {β : Type} {v : Int32} {x y : Option β} (h : lt_le x y) : lt_le (lt_ln v x) (lt_ln v y) := lt_if2_le h lt_le.no
theorem lt_n32_le {β : Type} {v : UInt32} {x y : Option β} (h : lt_le x y) : lt_le (lt_n32 v x) (lt_n32 v y) := lt_if2_le h lt_le.no
theorem lt_n64_le {β : Type} {v : UInt64} {x y : Option β} (h : lt_le x y) : lt_le (lt_n64 v x) (lt_n64 v y) := lt_if2_le h lt_le.no
theorem lt_cp_le {β : Type} {M : LM} {a d : Nat} {sp dp n : Int32} {f g : LM → Option β} (h : ∀ x, lt_le (f x) (g x)) : lt_le (lt_cp M a d sp dp n f) (lt_cp M a d sp dp n g) := lt_if2_le (lt_if2_le (h _) (lt_if2_le (h _) lt_le.no)) lt_le.no
theorem lt_bv_le {q : Option (LO × LM)} {h : List (Nat × Int32)} {f g : LM → Option (LO × LM)} (hh : ∀ x, lt_le (f x) (g x)) : lt_le (lt_bv q h f) (lt_bv q h g) := by
  unfold lt_bv; split <;> first | exact hh _ | exact lt_le.rf
theorem lt_bi_le {q : Option (LO × LM)} {h : List (Nat × Int32)} {f g : Int32 → LM → Option (LO × LM)} (hh : ∀ x M, lt_le (f x M) (g x M)) : lt_le (lt_bi q h f) (lt_bi q h g) := by
  unfold lt_bi; split <;> first | exact hh _ _ | exact lt_le.rf
theorem lt_bl_le {q : Option (LO × LM)} {h : List (Nat × Int32)} {f g : Int64 → LM → Option (LO × LM)} (hh : ∀ x M, lt_le (f x M) (g x M)) : lt_le (lt_bl q h f) (lt_bl q h g) := by
  unfold lt_bl; split <;> first | exact hh _ _ | exact lt_le.rf
theorem lt_br_le {q : Option (LO × LM)} {h : List (Nat × Int32)} {f g : Nat → LM → Option (LO × LM)} (hh : ∀ x M, lt_le (f x M) (g x M)) : lt_le (lt_br q h f) (lt_br q h g) := by
  unfold lt_br; split <;> first | exact hh _ _ | exact lt_le.rf
theorem lt_bf_le {q : Option (LO × LM)} {h : List (Nat × Int32)} {f g : UInt32 → LM → Option (LO × LM)} (hh : ∀ x M, lt_le (f x M) (g x M)) : lt_le (lt_bf q h f) (lt_bf q h g) := by
  unfold lt_bf; split <;> first | exact hh _ _ | exact lt_le.rf
theorem lt_bd_le {q : Option (LO × LM)} {h : List (Nat × Int32)} {f g : UInt64 → LM → Option (LO × LM)} (hh : ∀ x M, lt_le (f x M) (g x M)) : lt_le (lt_bd q h f) (lt_bd q h g) := by
  unfold lt_bd; split <;> first | exact hh _ _ | exact lt_le.rf
theorem lt_rb_le {rt : Nat} {q : Option (LO × LM)} {h : List (Nat × Int32)} {f g : List Value → LM → Option (LO × LM)} (hh : ∀ x M, lt_le (f x M) (g x M)) : lt_le (lt_rb rt q h f) (lt_rb rt q h g) := by
  unfold lt_rb; split <;> first | exact lt_bv_le fun _ => hh _ _ | exact lt_bi_le fun _ _ => hh _ _ | exact lt_bl_le fun _ _ => hh _ _ | exact lt_br_le fun _ _ => hh _ _ | exact lt_bd_le fun _ _ => hh _ _ | exact lt_bf_le fun _ _ => hh _ _
theorem lt_tb_le {β : Type} {x : Int} {f g : Int → Option β} {a b : Option β} (h : ∀ o, lt_le (f o) (g o)) (h' : lt_le a b) : ∀ (l : List Int) (lo : Int), lt_le (lt_tb x lo l f a) (lt_tb x lo l g b)
  | [], _ => h'
  | o :: r, lo => lt_if2_le (h o) (lt_tb_le h h' r (lo + 1))
theorem lt_lk_le {β : Type} {x : Int} {f g : Int → Option β} {a b : Option β} (h : ∀ o, lt_le (f o) (g o)) (h' : lt_le a b) : ∀ l : List (Int × Int), lt_le (lt_lk x l f a) (lt_lk x l g b)
  | [] => h'
  | o :: r => lt_if2_le (h o.2) (lt_lk_le h h' r)
theorem lt_sk_le {β : Type} {st : List Value} {n : Nat} {a b : Option β} (h : lt_le a b) : lt_le (lt_sk st n a) (lt_sk st n b) := lt_bif_le h lt_le.no
theorem lt_ag_le {β : Type} {st : List Value} {n mx : Nat} {a b : Option β} (h : lt_le a b) : lt_le (lt_ag st n mx a) (lt_ag st n mx b) := lt_bif_le h lt_le.no
theorem lt_rc_le {β : Type} {M : LM} {as : List Value} {c : Nat} {a b : Option β} (h : lt_le a b) : lt_le (lt_rc M as c a) (lt_rc M as c b) := by
  unfold lt_rc; split <;> first | exact lt_ck_le h | exact lt_le.no
theorem lt_fc_le {β : Type} {l : List Value} {f g : List Value → Option β} (h : lt_le (f l) (g l)) : lt_le (lt_fc l f) (lt_fc l g) := by
  rw [lt_fc_eq, lt_fc_eq]; exact h
section Mono
variable {call : Nat → List Value → LM → Option (LO × LM)} {own m nx idx pc k tg : Nat} {fl : Bool} {cn : Int32} {ls st : List Value} {M : LM} {K K' : lt_KT (LO × LM)}
theorem lt_cv_le (h : ∀ pc ls st M, lt_le (K pc ls st M) (K' pc ls st M)) : lt_le (lt_cv call own m nx idx ls st M K) (lt_cv call own m nx idx ls st M K') := by
  unfold lt_cv; split <;> first | exact lt_bif_le (lt_sk_le (lt_ag_le (lt_rc_le (lt_rb_le fun _ _ => lt_fc_le (h _ _ _ _))))) lt_le.no | exact lt_le.no
theorem lt_cp6_le {f g : List Value → LM → Option (LO × LM)} (h : ∀ r M, lt_le (f r M) (g r M)) : lt_le (lt_cp6 M st f) (lt_cp6 M st g) := by
  unfold lt_cp6; split <;> first | exact lt_cp_le fun _ => h _ _ | exact lt_le.no
theorem lt_cs_le (h : ∀ pc ls st M, lt_le (K pc ls st M) (K' pc ls st M)) : lt_le (lt_cs call own m nx idx ls st M K) (lt_cs call own m nx idx ls st M K') := by
  unfold lt_cs; split <;> first | exact lt_bif_le (lt_sk_le (lt_cp6_le fun _ _ => h _ _ _ _)) (lt_bif_le (lt_sk_le (lt_ag_le (lt_rb_le fun _ _ => lt_fc_le (h _ _ _ _)))) lt_le.no) | exact lt_le.no
theorem lt_ci_le (h : ∀ pc ls st M, lt_le (K pc ls st M) (K' pc ls st M)) : lt_le (lt_ci call own m nx idx ls st M K) (lt_ci call own m nx idx ls st M K') := by
  unfold lt_ci
  split
  · refine lt_bif_le (lt_a1_le fun _ _ => lt_bif_le (h _ _ _ _) lt_le.no) (lt_bif_le (lt_sk_le (lt_ag_le ?_)) lt_le.no)
    split <;> first | exact lt_rb_le fun _ _ => lt_fc_le (h _ _ _ _) | exact lt_le.no
  · exact lt_le.no
theorem lt_gf_le (h : ∀ pc ls st M, lt_le (K pc ls st M) (K' pc ls st M)) : lt_le (lt_gf own nx idx ls st M K) (lt_gf own nx idx ls st M K') := by
  unfold lt_gf; split <;> first | exact lt_a1_le fun _ _ => lt_ck_le (h _ _ _ _) | exact lt_a1_le fun _ _ => lt_ck_le (lt_rf_le fun _ => h _ _ _ _) | (split <;> first | exact lt_a1_le fun _ _ => lt_ck_le (h _ _ _ _) | exact lt_le.no)
theorem lt_m_le {β : Type} {f g : LM → Option β} (h : ∀ M, lt_le (f M) (g M)) : lt_le (lt_m M f) (lt_m M g) := h M
theorem lt_pf_le {ini : Bool} (h : ∀ pc ls st M, lt_le (K pc ls st M) (K' pc ls st M)) : lt_le (lt_pf own nx idx ini ls st M K) (lt_pf own nx idx ini ls st M K') := by
  unfold lt_pf
  split
  · refine lt_bif_le (lt_p2_le fun _ _ _ => lt_ck_le ?_) lt_le.no
    split <;> first | exact lt_vi_le fun _ => lt_m_le fun _ => h _ _ _ _ | exact lt_vl_le fun _ => lt_m_le fun _ => h _ _ _ _ | exact lt_va_le fun _ => lt_m_le fun _ => h _ _ _ _ | exact lt_vi_le fun _ => lt_b1_le (lt_m_le fun _ => h _ _ _ _)
  · exact lt_le.no
theorem lt_nw_le (h : ∀ pc ls st M, lt_le (K pc ls st M) (K' pc ls st M)) : lt_le (lt_nw own nx idx ls st M K) (lt_nw own nx idx ls st M K') := by
  unfold lt_nw; split <;> first | exact lt_bif_le (lt_m_le fun _ => h _ _ _ _) lt_le.rf | exact lt_le.no
theorem lt_na_le (h : ∀ pc ls st M, lt_le (K pc ls st M) (K' pc ls st M)) : lt_le (lt_na k nx ls st M K) (lt_na k nx ls st M K') :=
  lt_i1_le fun _ _ => lt_ln_le (lt_m_le fun _ => h _ _ _ _)
theorem lt_nq_le (h : ∀ pc ls st M, lt_le (K pc ls st M) (K' pc ls st M)) : lt_le (lt_nq own nx idx ls st M K) (lt_nq own nx idx ls st M K') := by
  unfold lt_nq; split <;> first | exact lt_na_le h | exact lt_le.no
theorem lt_mu_le (h : ∀ pc ls st M, lt_le (K pc ls st M) (K' pc ls st M)) : lt_le (lt_mu own nx idx ls st M K) (lt_mu own nx idx ls st M K') := by
  refine lt_i2_le fun _ _ _ => ?_
  split <;> first | exact lt_ln_le (lt_ln_le (lt_m_le fun _ => h _ _ _ _)) | exact lt_le.no
theorem lt_ifc_le {c : ClassFile.Cond} {x : Int32} {a b a' b' : Option (LO × LM)} (h : lt_le a b) (h' : lt_le a' b') : lt_le (lt_if c x a a') (lt_if c x b b') := by
  cases c <;> first | exact lt_if2_le h h' | exact lt_if2_le h' h
theorem lt_ic_le {c : ClassFile.Cond} {x y : Int32} {a b a' b' : Option (LO × LM)} (h : lt_le a b) (h' : lt_le a' b') : lt_le (lt_ic c x y a a') (lt_ic c x y b b') := by
  cases c <;> first | exact lt_if2_le h h' | exact lt_if2_le h' h
set_option maxHeartbeats 4000000 in
theorem lt_op_le {i : Instr} (h : ∀ pc ls st M, lt_le (K pc ls st M) (K' pc ls st M)) : lt_le (lt_op call own m pc i nx fl tg cn ls st M K) (lt_op call own m pc i nx fl tg cn ls st M K') := by
  unfold lt_op
  split <;> first
    | exact lt_le.rf
    | exact h _ _ _ _
    | exact lt_gi_le fun _ => h _ _ _ _
    | exact lt_ga_le (fun _ => h _ _ _ _) (h _ _ _ _)
    | exact lt_gl_le fun _ => h _ _ _ _
    | exact lt_gd_le fun _ => h _ _ _ _
    | exact lt_i1_le fun _ _ => lt_o1_le fun _ => h _ _ _ _
    | exact lt_n1_le (fun _ _ => lt_o1_le fun _ => h _ _ _ _) (fun _ => lt_o1_le fun _ => h _ _ _ _)
    | exact lt_l1_le fun _ _ => lt_o2_le fun _ => h _ _ _ _
    | exact lt_d1_le fun _ _ => lt_o2_le fun _ => h _ _ _ _
    | exact lt_gi_le fun _ => lt_o1_le fun _ => h _ _ _ _
    | exact lt_i2_le fun _ _ _ => h _ _ _ _
    | exact lt_i2_le fun _ _ _ => lt_nz_le (h _ _ _ _)
    | exact lt_i1_le fun _ _ => h _ _ _ _
    | exact lt_l2_le fun _ _ _ => h _ _ _ _
    | exact lt_l2_le fun _ _ _ => lt_nzl_le (h _ _ _ _)
    | exact lt_li_le fun _ _ _ => h _ _ _ _
    | exact lt_l1_le fun _ _ => h _ _ _ _
    | exact lt_f1_le fun _ _ => lt_n64_le (h _ _ _ _)
    | exact lt_f2_le fun _ _ _ => lt_n32_le (h _ _ _ _)
    | exact lt_d2_le fun _ _ _ => lt_n64_le (h _ _ _ _)
    | exact lt_d2_le fun _ _ _ => h _ _ _ _
    | exact lt_i1_le fun _ _ => lt_ifc_le (h _ _ _ _) (h _ _ _ _)
    | exact lt_i2_le fun _ _ _ => lt_ic_le (h _ _ _ _) (h _ _ _ _)
    | exact lt_n1_le (fun _ _ => h _ _ _ _) (fun _ => h _ _ _ _)
    | exact lt_i1_le fun _ _ => lt_tb_le (fun _ => h _ _ _ _) (h _ _ _ _) _ _
    | exact lt_i1_le fun _ _ => lt_lk_le (fun _ => h _ _ _ _) (h _ _ _ _) _
    | exact lt_gf_le h
    | exact lt_pf_le h
    | exact lt_x1_le fun _ _ _ => lt_ar_le (h _ _ _ _)
    | exact lt_x1_le fun _ _ _ => lt_aa_le (lt_bif_le (lt_rn_le (fun _ => h _ _ _ _) (h _ _ _ _)) (lt_rf_le fun _ => h _ _ _ _))
    | exact lt_x2_le fun _ _ _ _ => lt_vi_le fun _ => lt_ar_le (lt_m_le fun _ => h _ _ _ _)
    | exact lt_x2_le fun _ _ _ _ => lt_vi_le fun _ => lt_ar_le (lt_b1_le (lt_m_le fun _ => h _ _ _ _))
    | exact lt_x2_le fun _ _ _ _ => lt_vl_le fun _ => lt_ar_le (lt_m_le fun _ => h _ _ _ _)
    | exact lt_x2_le fun _ _ _ _ => lt_vd_le fun _ => lt_ar_le (lt_m_le fun _ => h _ _ _ _)
    | exact lt_x2_le fun _ _ _ _ => lt_va_le fun _ => lt_as_le (lt_m_le fun _ => h _ _ _ _)
    | exact lt_a1_le fun _ _ => lt_al_le (h _ _ _ _)
    | exact lt_na_le h
    | exact lt_nq_le h
    | exact lt_mu_le h
    | exact lt_nw_le h
    | exact lt_cs_le h
    | exact lt_cv_le h
    | exact lt_ci_le h
    | (split <;> first | exact lt_le.no | exact h _ _ _ _ | exact lt_bif_le (h _ _ _ _) lt_le.no)
end Mono
/-- a step goes on at one place, or at none -/
def lt_one (F : lt_KT (LO × LM) → Option (LO × LM)) : Prop := ∀ K z, F K = some z → (∀ K', F K' = some z) ∨ ∃ pc ls st M, K pc ls st M = some z ∧ ∀ K', K' pc ls st M = some z → F K' = some z
theorem lt_one.c {x : Option (LO × LM)} : lt_one (fun _ => x) := fun _ _ h => Or.inl fun _ => h
theorem lt_one.k {pc : Nat} {ls st : List Value} {M : LM} : lt_one (fun K => K pc ls st M) := fun _ _ h => Or.inr ⟨pc, ls, st, M, h, fun _ h => h⟩
theorem lt_one.i {c : Prop} [Decidable c] {F G : lt_KT (LO × LM) → Option (LO × LM)} (h : lt_one F) (h' : lt_one G) : lt_one (fun K => if c then F K else G K) := by
  by_cases hc : c
  · simp only [if_pos hc]; exact h
  · simp only [if_neg hc]; exact h'
theorem lt_one.b {c : Bool} {F G : lt_KT (LO × LM) → Option (LO × LM)} (h : lt_one F) (h' : lt_one G) : lt_one (fun K => bif c then F K else G K) := by
  cases c
  · exact h'
  · exact h
section One
variable {call : Nat → List Value → LM → Option (LO × LM)} {own m nx idx pc k a c d tg : Nat} {fl : Bool} {cn : Int32} {ls st as : List Value} {M : LM} {v : Value}
theorem lt_i1_one {G : Int32 → List Value → lt_KT (LO × LM) → Option (LO × LM)} (h : ∀ x r, lt_one (G x r)) : lt_one (fun K => lt_i1 st (fun x r => G x r K)) := by
  unfold lt_i1
  rcases st with _ | ⟨v, r⟩
  · exact lt_one.c
  · cases v <;> first | exact h _ _ | exact lt_one.c
theorem lt_l1_one {G : Int64 → List Value → lt_KT (LO × LM) → Option (LO × LM)} (h : ∀ x r, lt_one (G x r)) : lt_one (fun K => lt_l1 st (fun x r => G x r K)) := by
  unfold lt_l1
  rcases st with _ | ⟨v, r⟩
  · exact lt_one.c
  · cases v <;> first | exact h _ _ | exact lt_one.c
theorem lt_f1_one {G : UInt32 → List Value → lt_KT (LO × LM) → Option (LO × LM)} (h : ∀ x r, lt_one (G x r)) : lt_one (fun K => lt_f1 st (fun x r => G x r K)) := by
  unfold lt_f1
  rcases st with _ | ⟨v, r⟩
  · exact lt_one.c
  · cases v <;> first | exact h _ _ | exact lt_one.c
theorem lt_d1_one {G : UInt64 → List Value → lt_KT (LO × LM) → Option (LO × LM)} (h : ∀ x r, lt_one (G x r)) : lt_one (fun K => lt_d1 st (fun x r => G x r K)) := by
  unfold lt_d1
  rcases st with _ | ⟨v, r⟩
  · exact lt_one.c
  · cases v <;> first | exact h _ _ | exact lt_one.c
theorem lt_a1_one {G : Nat → List Value → lt_KT (LO × LM) → Option (LO × LM)} (h : ∀ x r, lt_one (G x r)) : lt_one (fun K => lt_a1 st (fun x r => G x r K)) := by
  unfold lt_a1
  rcases st with _ | ⟨v, r⟩
  · exact lt_one.c
  · cases v <;> first | exact h _ _ | exact lt_one.c
theorem lt_i2_one {G : Int32 → Int32 → List Value → lt_KT (LO × LM) → Option (LO × LM)} (h : ∀ x y r, lt_one (G x y r)) : lt_one (fun K => lt_i2 st (fun x y r => G x y r K)) := by
  unfold lt_i2
  rcases st with _ | ⟨v, _ | ⟨w, r⟩⟩
  · exact lt_one.c
  · cases v <;> exact lt_one.c
  · cases v <;> cases w <;> first | exact h _ _ _ | exact lt_one.c
theorem lt_l2_one {G : Int64 → Int64 → List Value → lt_KT (LO × LM) → Option (LO × LM)} (h : ∀ x y r, lt_one (G x y r)) : lt_one (fun K => lt_l2 st (fun x y r => G x y r K)) := by
  unfold lt_l2
  rcases st with _ | ⟨v, _ | ⟨w, r⟩⟩
  · exact lt_one.c
  · cases v <;> exact lt_one.c
  · cases v <;> cases w <;> first | exact h _ _ _ | exact lt_one.c
theorem lt_li_one {G : Int64 → Int32 → List Value → lt_KT (LO × LM) → Option (LO × LM)} (h : ∀ x y r, lt_one (G x y r)) : lt_one (fun K => lt_li st (fun x y r => G x y r K)) := by
  unfold lt_li
  rcases st with _ | ⟨v, _ | ⟨w, r⟩⟩
  · exact lt_one.c
  · cases v <;> exact lt_one.c
  · cases v <;> cases w <;> first | exact h _ _ _ | exact lt_one.c
theorem lt_f2_one {G : UInt32 → UInt32 → List Value → lt_KT (LO × LM) → Option (LO × LM)} (h : ∀ x y r, lt_one (G x y r)) : lt_one (fun K => lt_f2 st (fun x y r => G x y r K)) := by
  unfold lt_f2
  rcases st with _ | ⟨v, _ | ⟨w, r⟩⟩
  · exact lt_one.c
  · cases v <;> exact lt_one.c
  · cases v <;> cases w <;> first | exact h _ _ _ | exact lt_one.c
theorem lt_d2_one {G : UInt64 → UInt64 → List Value → lt_KT (LO × LM) → Option (LO × LM)} (h : ∀ x y r, lt_one (G x y r)) : lt_one (fun K => lt_d2 st (fun x y r => G x y r K)) := by
  unfold lt_d2
  rcases st with _ | ⟨v, _ | ⟨w, r⟩⟩
  · exact lt_one.c
  · cases v <;> exact lt_one.c
  · cases v <;> cases w <;> first | exact h _ _ _ | exact lt_one.c
theorem lt_x1_one {G : Nat → Int32 → List Value → lt_KT (LO × LM) → Option (LO × LM)} (h : ∀ x y r, lt_one (G x y r)) : lt_one (fun K => lt_x1 st (fun x y r => G x y r K)) := by
  unfold lt_x1
  rcases st with _ | ⟨v, _ | ⟨w, r⟩⟩
  · exact lt_one.c
  · cases v <;> exact lt_one.c
  · cases v <;> cases w <;> first | exact h _ _ _ | exact lt_one.c
theorem lt_p2_one {G : Nat → Value → List Value → lt_KT (LO × LM) → Option (LO × LM)} (h : ∀ x y r, lt_one (G x y r)) : lt_one (fun K => lt_p2 st (fun x y r => G x y r K)) := by
  unfold lt_p2
  rcases st with _ | ⟨v, _ | ⟨w, r⟩⟩
  · exact lt_one.c
  · exact lt_one.c
  · cases w <;> first | exact h _ _ _ | exact lt_one.c
theorem lt_x2_one {G : Nat → Int32 → Value → List Value → lt_KT (LO × LM) → Option (LO × LM)} (h : ∀ x y v r, lt_one (G x y v r)) : lt_one (fun K => lt_x2 st (fun x y v r => G x y v r K)) := by
  unfold lt_x2
  rcases st with _ | ⟨u, _ | ⟨v, _ | ⟨w, r⟩⟩⟩
  · exact lt_one.c
  · exact lt_one.c
  · cases v <;> exact lt_one.c
  · cases v <;> cases w <;> first | exact h _ _ _ _ | exact lt_one.c
theorem lt_n1_one {G : Nat → List Value → lt_KT (LO × LM) → Option (LO × LM)} {G' : List Value → lt_KT (LO × LM) → Option (LO × LM)} (h : ∀ x r, lt_one (G x r)) (h' : ∀ r, lt_one (G' r)) : lt_one (fun K => lt_n1 st (fun x r => G x r K) (fun r => G' r K)) := by
  unfold lt_n1
  rcases st with _ | ⟨v, r⟩
  · exact lt_one.c
  · cases v <;> first | exact h _ _ | exact h' _ | exact lt_one.c
theorem lt_vi_one {G : Int32 → lt_KT (LO × LM) → Option (LO × LM)} (h : ∀ x, lt_one (G x)) : lt_one (fun K => lt_vi v (fun x => G x K)) := by
  unfold lt_vi
  cases v <;> first | exact h _ | exact lt_one.c
theorem lt_vl_one {G : Int64 → lt_KT (LO × LM) → Option (LO × LM)} (h : ∀ x, lt_one (G x)) : lt_one (fun K => lt_vl v (fun x => G x K)) := by
  unfold lt_vl
  cases v <;> first | exact h _ | exact lt_one.c
theorem lt_vd_one {G : UInt64 → lt_KT (LO × LM) → Option (LO × LM)} (h : ∀ x, lt_one (G x)) : lt_one (fun K => lt_vd v (fun x => G x K)) := by
  unfold lt_vd
  cases v <;> first | exact h _ | exact lt_one.c
theorem lt_va_one {G : Nat → lt_KT (LO × LM) → Option (LO × LM)} (h : ∀ x, lt_one (G x)) : lt_one (fun K => lt_va v (fun x => G x K)) := by
  unfold lt_va
  cases v <;> first | exact h _ | exact lt_one.c
theorem lt_gi_one {G : Int32 → lt_KT (LO × LM) → Option (LO × LM)} (h : ∀ x, lt_one (G x)) : lt_one (fun K => lt_gi ls k (fun x => G x K)) := by
  unfold lt_gi
  rcases ls[k]? with _ | v
  · exact lt_one.c
  · cases v <;> first | exact h _ | exact lt_one.c
theorem lt_gl_one {G : Int64 → lt_KT (LO × LM) → Option (LO × LM)} (h : ∀ x, lt_one (G x)) : lt_one (fun K => lt_gl ls k (fun x => G x K)) := by
  unfold lt_gl
  rcases ls[k]? with _ | v
  · exact lt_one.c
  · cases v <;> first | exact h _ | exact lt_one.c
theorem lt_gd_one {G : UInt64 → lt_KT (LO × LM) → Option (LO × LM)} (h : ∀ x, lt_one (G x)) : lt_one (fun K => lt_gd ls k (fun x => G x K)) := by
  unfold lt_gd
  rcases ls[k]? with _ | v
  · exact lt_one.c
  · cases v <;> first | exact h _ | exact lt_one.c
theorem lt_ga_one {G : Nat → lt_KT (LO × LM) → Option (LO × LM)} {G' : lt_KT (LO × LM) → Option (LO × LM)} (h : ∀ x, lt_one (G x)) (h' : lt_one G') : lt_one (fun K => lt_ga ls k (fun x => G x K) (G' K)) := by
  unfold lt_ga
  rcases ls[k]? with _ | v
  · exact lt_one.c
  · cases v <;> first | exact h _ | exact h' | exact lt_one.c
theorem lt_fc_one {l : List Value} {G : List Value → lt_KT (LO × LM) → Option (LO × LM)} (h : lt_one (G l)) : lt_one (fun K => lt_fc l (fun x => G x K)) := by
  simp only [lt_fc_eq]; exact h
theorem lt_o1_one {G : List Value → lt_KT (LO × LM) → Option (LO × LM)} (h : ∀ x, lt_one (G x)) : lt_one (fun K => lt_o1 ls k v (fun x => G x K)) := lt_one.b (lt_fc_one (h _)) lt_one.c
theorem lt_o2_one {G : List Value → lt_KT (LO × LM) → Option (LO × LM)} (h : ∀ x, lt_one (G x)) : lt_one (fun K => lt_o2 ls k v (fun x => G x K)) := lt_one.b (lt_fc_one (h _)) lt_one.c
theorem lt_ck_one {F : lt_KT (LO × LM) → Option (LO × LM)} (h : lt_one F) : lt_one (fun K => lt_ck M a c (F K)) := lt_one.i h lt_one.c
theorem lt_rf_one {o : Option Nat} {G : Nat → lt_KT (LO × LM) → Option (LO × LM)} (h : ∀ x, lt_one (G x)) : lt_one (fun K => lt_rf o (fun x => G x K)) := by
  unfold lt_rf
  cases o
  · exact lt_one.c
  · exact h _
theorem lt_rn_one {o : Option Nat} {G : Nat → lt_KT (LO × LM) → Option (LO × LM)} {G' : lt_KT (LO × LM) → Option (LO × LM)} (h : ∀ x, lt_one (G x)) (h' : lt_one G') : lt_one (fun K => lt_rn o (fun x => G x K) (G' K)) := by
  unfold lt_rn
  cases o
  · exact h'
  · exact h _
theorem lt_ar_one {i : Int32} {F : lt_KT (LO × LM) → Option (LO × LM)} (h : lt_one F) : lt_one (fun K => lt_ar M a c i (F K)) := lt_one.i h lt_one.c
theorem lt_aa_one {i : Int32} {F : lt_KT (LO × LM) → Option (LO × LM)} (h : lt_one F) : lt_one (fun K => lt_aa M a i (F K)) := lt_one.i h lt_one.c
theorem lt_as_one {i : Int32} {q : Nat} {F : lt_KT (LO × LM) → Option (LO × LM)} (h : lt_one F) : lt_one (fun K => lt_as M a i q (F K)) := lt_one.i h lt_one.c
theorem lt_al_one {F : lt_KT (LO × LM) → Option (LO × LM)} (h : lt_one F) : lt_one (fun K => lt_al M a (F K)) := lt_one.i h lt_one.c
theorem lt_b1_one {i : Int32} {F : lt_KT (LO × LM) → Option (LO × LM)} (h : lt_one F) : lt_one (fun K => lt_b1 i (F K)) := lt_one.i h lt_one.c
theorem lt_nz_one {i : Int32} {F : lt_KT (LO × LM) → Option (LO × LM)} (h : lt_one F) : lt_one (fun K => lt_nz i (F K)) := lt_one.i lt_one.c h
theorem lt_nzl_one {i : Int64} {F : lt_KT (LO × LM) → Option (LO × LM)} (h : lt_one F) : lt_one (fun K => lt_nzl i (F K)) := lt_one.i lt_one.c h
theorem lt_ln_one {i : Int32} {F : lt_KT (LO × LM) → Option (LO × LM)} (h : lt_one F) : lt_one (fun K => lt_ln i (F K)) := lt_one.i h lt_one.c
theorem lt_n32_one {i : UInt32} {F : lt_KT (LO × LM) → Option (LO × LM)} (h : lt_one F) : lt_one (fun K => lt_n32 i (F K)) := lt_one.i h lt_one.c
theorem lt_n64_one {i : UInt64} {F : lt_KT (LO × LM) → Option (LO × LM)} (h : lt_one F) : lt_one (fun K => lt_n64 i (F K)) := lt_one.i h lt_one.c
theorem lt_cp_one {sp dp n : Int32} {G : LM → lt_KT (LO × LM) → Option (LO × LM)} (h : ∀ x, lt_one (G x)) : lt_one (fun K => lt_cp M a d sp dp n (fun x => G x K)) := lt_one.i (lt_one.i (h _) (lt_one.i (h _) lt_one.c)) lt_one.c
theorem lt_bi_one {q : Option (LO × LM)} {hd : List (Nat × Int32)} {G : Int32 → LM → lt_KT (LO × LM) → Option (LO × LM)} (h : ∀ x M, lt_one (G x M)) : lt_one (fun K => lt_bi q hd (fun x M => G x M K)) := by
  unfold lt_bi
  rcases q with _ | ⟨(_ | v) | e, M⟩
  · exact lt_one.c
  · exact lt_one.c
  · cases v <;> first | exact h _ _ | exact lt_one.c
  · exact lt_one.c
theorem lt_bl_one {q : Option (LO × LM)} {hd : List (Nat × Int32)} {G : Int64 → LM → lt_KT (LO × LM) → Option (LO × LM)} (h : ∀ x M, lt_one (G x M)) : lt_one (fun K => lt_bl q hd (fun x M => G x M K)) := by
  unfold lt_bl
  rcases q with _ | ⟨(_ | v) | e, M⟩
  · exact lt_one.c
  · exact lt_one.c
  · cases v <;> first | exact h _ _ | exact lt_one.c
  · exact lt_one.c
theorem lt_br_one {q : Option (LO × LM)} {hd : List (Nat × Int32)} {G : Nat → LM → lt_KT (LO × LM) → Option (LO × LM)} (h : ∀ x M, lt_one (G x M)) : lt_one (fun K => lt_br q hd (fun x M => G x M K)) := by
  unfold lt_br
  rcases q with _ | ⟨(_ | v) | e, M⟩
  · exact lt_one.c
  · exact lt_one.c
  · cases v <;> first | exact h _ _ | exact lt_one.c
  · exact lt_one.c
theorem lt_bf_one {q : Option (LO × LM)} {hd : List (Nat × Int32)} {G : UInt32 → LM → lt_KT (LO × LM) → Option (LO × LM)} (h : ∀ x M, lt_one (G x M)) : lt_one (fun K => lt_bf q hd (fun x M => G x M K)) := by
  unfold lt_bf
  rcases q with _ | ⟨(_ | v) | e, M⟩
  · exact lt_one.c
  · exact lt_one.c
  · cases v <;> first | exact h _ _ | exact lt_one.c
  · exact lt_one.c
theorem lt_bd_one {q : Option (LO × LM)} {hd : List (Nat × Int32)} {G : UInt64 → LM → lt_KT (LO × LM) → Option (LO × LM)} (h : ∀ x M, lt_one (G x M)) : lt_one (fun K => lt_bd q hd (fun x M => G x M K)) := by
  unfold lt_bd
  rcases q with _ | ⟨(_ | v) | e, M⟩
  · exact lt_one.c
  · exact lt_one.c
  · cases v <;> first | exact h _ _ | exact lt_one.c
  · exact lt_one.c
theorem lt_bv_one {q : Option (LO × LM)} {hd : List (Nat × Int32)} {G : LM → lt_KT (LO × LM) → Option (LO × LM)} (h : ∀ M, lt_one (G M)) : lt_one (fun K => lt_bv q hd (fun M => G M K)) := by
  unfold lt_bv
  rcases q with _ | ⟨(_ | v) | e, M⟩
  · exact lt_one.c
  · exact h _
  · exact lt_one.c
  · exact lt_one.c
theorem lt_rb_one {rt : Nat} {q : Option (LO × LM)} {hd : List (Nat × Int32)} {G : List Value → LM → lt_KT (LO × LM) → Option (LO × LM)} (h : ∀ x M, lt_one (G x M)) : lt_one (fun K => lt_rb rt q hd (fun x M => G x M K)) := by
  unfold lt_rb
  split <;> first | exact lt_bv_one fun _ => h _ _ | exact lt_bi_one fun _ _ => h _ _ | exact lt_bl_one fun _ _ => h _ _ | exact lt_br_one fun _ _ => h _ _ | exact lt_bd_one fun _ _ => h _ _ | exact lt_bf_one fun _ _ => h _ _
theorem lt_tb_one {x : Int} {G : Int → lt_KT (LO × LM) → Option (LO × LM)} {G' : lt_KT (LO × LM) → Option (LO × LM)} (h : ∀ o, lt_one (G o)) (h' : lt_one G') : ∀ (l : List Int) (lo : Int), lt_one (fun K => lt_tb x lo l (fun o => G o K) (G' K))
  | [], _ => h'
  | o :: r, lo => lt_one.i (h o) (lt_tb_one h h' r (lo + 1))
theorem lt_lk_one {x : Int} {G : Int → lt_KT (LO × LM) → Option (LO × LM)} {G' : lt_KT (LO × LM) → Option (LO × LM)} (h : ∀ o, lt_one (G o)) (h' : lt_one G') : ∀ l : List (Int × Int), lt_one (fun K => lt_lk x l (fun o => G o K) (G' K))
  | [] => h'
  | o :: r => lt_one.i (h o.2) (lt_lk_one h h' r)
theorem lt_sk_one {n : Nat} {F : lt_KT (LO × LM) → Option (LO × LM)} (h : lt_one F) : lt_one (fun K => lt_sk st n (F K)) := lt_one.b h lt_one.c
theorem lt_ag_one {n mx : Nat} {F : lt_KT (LO × LM) → Option (LO × LM)} (h : lt_one F) : lt_one (fun K => lt_ag st n mx (F K)) := lt_one.b h lt_one.c
theorem lt_rc_one {F : lt_KT (LO × LM) → Option (LO × LM)} (h : lt_one F) : lt_one (fun K => lt_rc M as c (F K)) := by
  unfold lt_rc
  rcases as with _ | ⟨v, r⟩
  · exact lt_one.c
  · cases v <;> first | exact lt_ck_one h | exact lt_one.c
theorem lt_cv_one : lt_one (fun K => lt_cv call own m nx idx ls st M K) := by
  unfold lt_cv
  rcases lt_find (lt_mth own) idx with _ | ⟨mi, n⟩
  · exact lt_one.c
  · exact lt_one.b (lt_sk_one (lt_ag_one (lt_rc_one (lt_rb_one fun _ _ => lt_fc_one lt_one.k)))) lt_one.c
theorem lt_cp6_one {G : List Value → LM → lt_KT (LO × LM) → Option (LO × LM)} (h : ∀ r M, lt_one (G r M)) : lt_one (fun K => lt_cp6 M st (fun r M => G r M K)) := by
  unfold lt_cp6
  split
  · exact lt_cp_one fun _ => h _ _
  · exact lt_one.c
theorem lt_cs_one : lt_one (fun K => lt_cs call own m nx idx ls st M K) := by
  unfold lt_cs
  rcases lt_find (lt_mth own) idx with _ | ⟨mi, n⟩
  · exact lt_one.c
  · exact lt_one.b (lt_sk_one (lt_cp6_one fun _ _ => lt_one.k)) (lt_one.b (lt_sk_one (lt_ag_one (lt_rb_one fun _ _ => lt_fc_one lt_one.k))) lt_one.c)
theorem lt_ci_one : lt_one (fun K => lt_ci call own m nx idx ls st M K) := by
  unfold lt_ci
  rcases lt_find (lt_mth own) idx with _ | ⟨mi, n⟩
  · exact lt_one.c
  · refine lt_one.b (lt_a1_one fun _ _ => lt_one.b lt_one.k lt_one.c) (lt_one.b (lt_sk_one (lt_ag_one ?_)) lt_one.c)
    split
    · exact lt_rb_one fun _ _ => lt_fc_one lt_one.k
    · exact lt_one.c
theorem lt_gf_one : lt_one (fun K => lt_gf own nx idx ls st M K) := by
  unfold lt_gf
  split <;> first | exact lt_a1_one fun _ _ => lt_ck_one lt_one.k | exact lt_a1_one fun _ _ => lt_ck_one (lt_rf_one fun _ => lt_one.k) | (split <;> first | exact lt_a1_one fun _ _ => lt_ck_one lt_one.k | exact lt_one.c)
theorem lt_m_one {G : LM → lt_KT (LO × LM) → Option (LO × LM)} (h : ∀ M, lt_one (G M)) : lt_one (fun K => lt_m M (fun M => G M K)) := h M
theorem lt_pf_one {ini : Bool} : lt_one (fun K => lt_pf own nx idx ini ls st M K) := by
  unfold lt_pf
  split
  · refine lt_one.b (lt_p2_one fun _ _ _ => lt_ck_one ?_) lt_one.c
    split <;> first | exact lt_vi_one fun _ => lt_m_one fun _ => lt_one.k | exact lt_vl_one fun _ => lt_m_one fun _ => lt_one.k | exact lt_va_one fun _ => lt_m_one fun _ => lt_one.k | exact lt_vi_one fun _ => lt_b1_one (lt_m_one fun _ => lt_one.k)
  · exact lt_one.c
theorem lt_nw_one : lt_one (fun K => lt_nw own nx idx ls st M K) := by
  unfold lt_nw
  split
  · exact lt_one.b (lt_m_one fun _ => lt_one.k) (lt_one.b lt_one.c lt_one.c)
  · exact lt_one.c
theorem lt_na_one : lt_one (fun K => lt_na k nx ls st M K) := lt_i1_one fun _ _ => lt_ln_one (lt_m_one fun _ => lt_one.k)
theorem lt_nq_one : lt_one (fun K => lt_nq own nx idx ls st M K) := by
  unfold lt_nq
  split <;> first | exact lt_na_one | exact lt_one.c
theorem lt_mu_one : lt_one (fun K => lt_mu own nx idx ls st M K) := by
  unfold lt_mu
  refine lt_i2_one fun _ _ _ => ?_
  split <;> first | exact lt_ln_one (lt_ln_one (lt_m_one fun _ => lt_one.k)) | exact lt_one.c
theorem lt_ifc_one {co : ClassFile.Cond} {x : Int32} {F G : lt_KT (LO × LM) → Option (LO × LM)} (h : lt_one F) (h' : lt_one G) : lt_one (fun K => lt_if co x (F K) (G K)) := by
  cases co <;> first | exact lt_one.i h h' | exact lt_one.i h' h
theorem lt_ic_one {co : ClassFile.Cond} {x y : Int32} {F G : lt_KT (LO × LM) → Option (LO × LM)} (h : lt_one F) (h' : lt_one G) : lt_one (fun K => lt_ic co x y (F K) (G K)) := by
  cases co <;> first | exact lt_one.i h h' | exact lt_one.i h' h
set_option maxHeartbeats 4000000 in
theorem lt_op_one {i : Instr} : lt_one (fun K => lt_op call own m pc i nx fl tg cn ls st M K) := by
  unfold lt_op
  split <;> first
    | exact lt_one.k
    | exact lt_one.c
    | exact lt_gi_one fun _ => lt_one.k
    | exact lt_ga_one (fun _ => lt_one.k) lt_one.k
    | exact lt_gl_one fun _ => lt_one.k
    | exact lt_gd_one fun _ => lt_one.k
    | exact lt_i1_one fun _ _ => lt_o1_one fun _ => lt_one.k
    | exact lt_n1_one (fun _ _ => lt_o1_one fun _ => lt_one.k) (fun _ => lt_o1_one fun _ => lt_one.k)
    | exact lt_l1_one fun _ _ => lt_o2_one fun _ => lt_one.k
    | exact lt_d1_one fun _ _ => lt_o2_one fun _ => lt_one.k
    | exact lt_gi_one fun _ => lt_o1_one fun _ => lt_one.k
    | exact lt_i2_one fun _ _ _ => lt_one.k
    | exact lt_i2_one fun _ _ _ => lt_nz_one lt_one.k
    | exact lt_i1_one fun _ _ => lt_one.k
    | exact lt_l2_one fun _ _ _ => lt_one.k
    | exact lt_l2_one fun _ _ _ => lt_nzl_one lt_one.k
    | exact lt_li_one fun _ _ _ => lt_one.k
    | exact lt_l1_one fun _ _ => lt_one.k
    | exact lt_f1_one fun _ _ => lt_n64_one lt_one.k
    | exact lt_f2_one fun _ _ _ => lt_n32_one lt_one.k
    | exact lt_d2_one fun _ _ _ => lt_n64_one lt_one.k
    | exact lt_d2_one fun _ _ _ => lt_one.k
    | exact lt_i1_one fun _ _ => lt_ifc_one lt_one.k lt_one.k
    | exact lt_i2_one fun _ _ _ => lt_ic_one lt_one.k lt_one.k
    | exact lt_n1_one (fun _ _ => lt_one.k) (fun _ => lt_one.k)
    | exact lt_i1_one fun _ _ => lt_tb_one (fun _ => lt_one.k) lt_one.k _ _
    | exact lt_i1_one fun _ _ => lt_lk_one (fun _ => lt_one.k) lt_one.k _
    | exact lt_gf_one
    | exact lt_pf_one
    | exact lt_x1_one fun _ _ _ => lt_ar_one lt_one.k
    | exact lt_x1_one fun _ _ _ => lt_aa_one (lt_one.b (lt_rn_one (fun _ => lt_one.k) lt_one.k) (lt_rf_one fun _ => lt_one.k))
    | exact lt_x2_one fun _ _ _ _ => lt_vi_one fun _ => lt_ar_one (lt_m_one fun _ => lt_one.k)
    | exact lt_x2_one fun _ _ _ _ => lt_vi_one fun _ => lt_ar_one (lt_b1_one (lt_m_one fun _ => lt_one.k))
    | exact lt_x2_one fun _ _ _ _ => lt_vl_one fun _ => lt_ar_one (lt_m_one fun _ => lt_one.k)
    | exact lt_x2_one fun _ _ _ _ => lt_vd_one fun _ => lt_ar_one (lt_m_one fun _ => lt_one.k)
    | exact lt_x2_one fun _ _ _ _ => lt_va_one fun _ => lt_as_one (lt_m_one fun _ => lt_one.k)
    | exact lt_a1_one fun _ _ => lt_al_one lt_one.k
    | exact lt_na_one
    | exact lt_nq_one
    | exact lt_mu_one
    | exact lt_nw_one
    | exact lt_cs_one
    | exact lt_cv_one
    | exact lt_ci_one
    | exact lt_i1_one fun _ _ => lt_one.c
    | exact lt_l1_one fun _ _ => lt_one.c
    | exact lt_f1_one fun _ _ => lt_one.c
    | exact lt_d1_one fun _ _ => lt_one.c
    | exact lt_a1_one fun _ _ => lt_one.c
    | (split <;> first | exact lt_one.c | exact lt_one.k | exact lt_one.b lt_one.k lt_one.c)
end One
theorem lt_do_one {call : Nat → List Value → LM → Option (LO × LM)} {m pc : Nat} {ls st : List Value} {M : LM} : lt_one (fun K => lt_do call m pc ls st M K) := by
  intro K z h
  unfold lt_do at h ⊢
  split at h
  · next i nx fl tg cn e =>
    rcases lt_op_one _ z h with h1 | ⟨p1, l1, s1, M1, h1, h2⟩
    · exact Or.inl fun K' => h1 _
    · cases hk : lt_ks m p1 with
      | nil =>
        rw [hk] at h1
        exact Or.inr ⟨p1, l1, s1, M1, h1, fun K' hz => h2 _ (by rw [hk]; exact hz)⟩
      | cons k r =>
        rw [hk] at h1
        have h3 : K p1 (lt_kl l1 (k :: r)) s1 M1 = some z := (lt_fc_eq (lt_kl l1 (k :: r)) fun ls => K p1 ls s1 M1).symm.trans h1
        exact Or.inr ⟨p1, lt_kl l1 (k :: r), s1, M1, h3, fun K' hz => h2 _ (by rw [hk]; exact (lt_fc_eq (lt_kl l1 (k :: r)) fun ls => K' p1 ls s1 M1).trans hz)⟩
  · cases h
theorem lt_do_le {call : Nat → List Value → LM → Option (LO × LM)} {m pc : Nat} {ls st : List Value} {M : LM} {K K' : lt_KT (LO × LM)} (h : ∀ pc ls st M, lt_le (K pc ls st M) (K' pc ls st M)) : lt_le (lt_do call m pc ls st M K) (lt_do call m pc ls st M K') := by
  unfold lt_do
  split
  · refine lt_op_le fun pc ls st M => ?_
    cases lt_ks m pc with
    | nil => exact h _ _ _ _
    | cons k r => exact lt_fc_le (h _ _ _ _)
  · exact lt_le.no
theorem lt_it_s {call : Nat → List Value → LM → Option (LO × LM)} {m : Nat} : ∀ (n pc : Nat) (ls st : List Value) (M : LM), lt_le (lt_it call m n pc ls st M) (lt_it call m (n + 1) pc ls st M)
  | 0, _, _, _, _ => lt_le.no
  | n + 1, _, _, _, _ => lt_do_le fun _ _ _ _ => lt_it_s n _ _ _ _
theorem lt_it_le {call : Nat → List Value → LM → Option (LO × LM)} {m pc : Nat} {ls st : List Value} {M : LM} {n : Nat} : ∀ k : Nat, lt_le (lt_it call m n pc ls st M) (lt_it call m (n + k) pc ls st M)
  | 0 => lt_le.rf
  | k + 1 => fun z h => lt_it_s (n + k) pc ls st M z (lt_it_le k z h)
theorem lt_it_eq {call : Nat → List Value → LM → Option (LO × LM)} {m pc : Nat} {ls st : List Value} {M : LM} {n k : Nat} {y z : LO × LM} (h : lt_it call m n pc ls st M = some y) (h' : lt_it call m k pc ls st M = some z) : y = z := by
  have h1 := lt_it_le k _ h
  have h2 := lt_it_le n _ h'
  rw [Nat.add_comm] at h2
  rw [h1] at h2
  exact Option.some.inj h2
/-- a run answers what some number of steps answers -/
theorem lt_lim_iff {f : Nat → Option (LO × LM)} (hf : ∀ n k y z, f n = some y → f k = some z → y = z) {z : LO × LM} : lt_lim f = some z ↔ ∃ n, f n = some z := by
  unfold lt_lim
  by_cases h : ∃ n, (f n).isSome = true
  · rw [dif_pos h]
    have hc := Classical.choose_spec h
    constructor
    · intro hz
      exact ⟨_, hz⟩
    · rintro ⟨n, hn⟩
      obtain ⟨y, hy⟩ := Option.isSome_iff_exists.mp hc
      rw [hy, hf _ _ _ _ hy hn]
  · rw [dif_neg h]
    constructor
    · intro hz
      cases hz
    · rintro ⟨n, hn⟩
      exact absurd ⟨n, by rw [hn]; rfl⟩ h
theorem ev_iff {d m pc : Nat} {ls st : List Value} {M : LM} {z : LO × LM} : ev (d + 1) m pc ls st M = some z ↔ ∃ n, lt_it (lt_call d) m n pc ls st M = some z := by
  show lt_lim (fun n => lt_it (lt_call d) m n pc ls st M) = some z ↔ _
  exact lt_lim_iff fun n k y z h h' => lt_it_eq h h'
/-- A RUN'S STEP -/
theorem ev_step {d m pc : Nat} {ls st : List Value} {M : LM} : ev (d + 1) m pc ls st M = lt_do (lt_call d) m pc ls st M (fun pc ls st M => ev (d + 1) m pc ls st M) := by
  have key : ∀ z, ev (d + 1) m pc ls st M = some z ↔ lt_do (lt_call d) m pc ls st M (fun pc ls st M => ev (d + 1) m pc ls st M) = some z := by
    intro z
    constructor
    · intro h
      obtain ⟨n, hn⟩ := ev_iff.mp h
      cases n with
      | zero => cases hn
      | succ n => exact lt_do_le (fun _ _ _ _ z h => ev_iff.mpr ⟨n, h⟩) z hn
    · intro h
      rcases lt_do_one _ z h with h1 | ⟨p1, l1, s1, M1, h1, h2⟩
      · exact ev_iff.mpr ⟨1, h1 _⟩
      · obtain ⟨n, hn⟩ := ev_iff.mp h1
        exact ev_iff.mpr ⟨n + 1, h2 _ hn⟩
  cases h : lt_do (lt_call d) m pc ls st M (fun pc ls st M => ev (d + 1) m pc ls st M) with
  | some z => exact (key z).mpr h
  | none =>
    cases h' : ev (d + 1) m pc ls st M with
    | none => rfl
    | some z =>
      have := (key z).mp h'
      rw [h] at this
      cases this
/-- up to n steps, but not on from a head -/
noncomputable def lx (d m : Nat) (hs : List Nat) : Nat → Nat → List Value → List Value → LM → Option (LO × LM)
  | 0, pc, ls, st, M => ev (d + 1) m pc ls st M
  | n + 1, pc, ls, st, M => lt_do (lt_call d) m pc ls st M fun pc ls st M => bif hs.elem pc then ev (d + 1) m pc ls st M else lx d m hs n pc ls st M
theorem lx_ev {d m : Nat} {hs : List Nat} : ∀ (n pc : Nat) (ls st : List Value) (M : LM), lx d m hs n pc ls st M = ev (d + 1) m pc ls st M
  | 0, _, _, _, _ => rfl
  | n + 1, pc, ls, st, M => by
    rw [ev_step]
    show lt_do _ _ _ _ _ _ _ = _
    congr 1
    funext pc ls st M
    rw [lx_ev n]
    cases hs.elem pc <;> rfl
