/-! A GREATER CACHE holds what a lesser one holds, where ranks are the same for all sizes -/
def lxR (r : Nat → Int64) (k : Nat) : Int := (r k).toInt * 26 + (k : Int)
section Cc1
variable {kf : Nat → Nat} {sz n m i k x o t p d : Nat} {set u : Int32} {r : Nat → Int64} {ask : Nat → Int32} {s s' : SD} {rule : Int32}
theorem lO_lex (h : lO u r = some o) : ∀ j, j < 26 → bt u j = true → lxR r o ≤ lxR r j := by
  have e : lO u r = qFst (fun k => bt u k) (fun i j => decide (lxR r i < lxR r j)) 26 none := by
    refine qFst_cg0 (fun _ _ => rfl) (fun a b ha hb _ _ => ?_)
    refine decide_eq_decide.mpr ?_
    rw [Int64.lt_iff_toInt_lt]
    unfold lxR
    omega
  rw [e] at h
  exact fun j hj hb => qFst_min (can := fun k => bt u k) (rk := lxR r) (fun _ _ => rfl) 26 none (Nat.le_refl _) (fun j hj _ => by omega) o h j hj hb
theorem lxR_inj {a b : Nat} (ha : a < 26) (hb : b < 26) (h : lxR r a = lxR r b) : a = b := by
  unfold lxR at h
  omega
/-- the first of a lesser set, where it is in it -/
theorem lO_sub {v : Int32} (hv : KS u) (h : ∀ j, j < 26 → bt u j = true → bt v j = true) (e : lO v r = some o) (ho : bt u o = true) : lO u r = some o := by
  have ho26 := (lO_lt o e).1
  cases q : lO u r with
  | none =>
    have := (lO_none hv).mp q
    rw [this, b_0] at ho; cases ho
  | some a =>
    obtain ⟨a1, a2⟩ := lO_lt a q
    have h1 := lO_lex e a a1 (h a a1 a2)
    have h2 := lO_lex q o ho26 ho
    rw [lxR_inj (r := r) a1 ho26 (Int.le_antisymm h2 h1)]
def INC (sz : Nat) (s s' : SD) : Prop := KS s.1 ∧ KS s'.1 ∧ (∀ k, k < 26 → bt s.1 k = true → bt s'.1 k = true) ∧ nK (bt s.1) 26 ≤ sz ∧ (nK (bt s.1) 26 < sz → s.1 = s'.1) ∧ nK (bt s'.1) 26 ≤ nK (bt s.1) 26 + 1 ∧ s.2.2.2 = s'.2.2.2
theorem INC_0 : INC sz (0, none, 0, fun _ => 0) (0, none, 0, fun _ => 0) := by
  have e : nK (bt 0) 26 = 0 := by
    have : bt 0 = fun _ => false := funext fun j => b_0 j
    rw [this]; decide
  exact ⟨KS_0, KS_0, fun _ _ h => h, by show nK (bt 0) 26 ≤ sz; omega, fun _ => rfl, Nat.le_succ _, rfl⟩
theorem same_set {a b : Int32} (ha : KS a) (hb : KS b) (h : ∀ k, k < 26 → bt a k = true → bt b k = true) (hn : nK (bt b) 26 ≤ nK (bt a) 26) : a = b := by
  refine KS_ext ha hb fun k hk => ?_
  cases e : bt a k
  · cases e2 : bt b k
    · rfl
    · have := nK_lt2 (f := bt a) (g := bt b) hk e e2 h
      omega
  · exact (h k hk e).symm
theorem INC_step (hp : 0 < sz) (h0 : sz < 900) (hr : rule ≠ 2) (hk : k < 26) (h : INC sz s s') : INC sz (sStep rule (nI sz) ask k i s) (sStep rule (nI (sz + 1)) ask k i s') := by
  obtain ⟨h1, h2, h3, h4, h5, h6, h7⟩ := h
  have hR : (sStep rule (nI sz) ask k i s).2.2.2 = (sStep rule (nI (sz + 1)) ask k i s').2.2.2 := by
    have e1 : (sStep rule (nI sz) ask k i s).2.2.2 = u1 s.2.2.2 k (sRank rule ask s.2.2.2 k i) := if_neg (fun q => hr q.2)
    have e2 : (sStep rule (nI (sz + 1)) ask k i s').2.2.2 = u1 s'.2.2.2 k (sRank rule ask s'.2.2.2 k i) := if_neg (fun q => hr q.2)
    rw [e1, e2, h7]
  have g1 := ss_KS (rule := rule) (size := nI sz) (ask := ask) (i := i) h1 hk
  have g2 := ss_KS (rule := rule) (size := nI (sz + 1)) (ask := ask) (i := i) h2 hk
  have fin : ∀ A B : Nat → Bool, bt (sStep rule (nI sz) ask k i s).1 = A → bt (sStep rule (nI (sz + 1)) ask k i s').1 = B → (∀ j, j < 26 → A j = true → B j = true) → nK A 26 ≤ sz → (nK A 26 < sz → A = B) → nK B 26 ≤ nK A 26 + 1 → INC sz (sStep rule (nI sz) ask k i s) (sStep rule (nI (sz + 1)) ask k i s') := fun A B eA eB f1 f2 f3 f4 =>
    ⟨g1, g2, fun j hj hb => by rw [eA] at hb; rw [eB]; exact f1 j hj hb, by rw [eA]; exact f2, fun q => by
      rw [eA] at q
      exact KS_ext g1 g2 fun j _ => by rw [eA, eB, f3 q], by rw [eA, eB]; exact f4, hR⟩
  cases q : bt s.1 k with
  | true =>
    have q' := h3 k hk q
    refine fin _ _ (by rw [(ss_hit h1 hk q).1]) (by rw [(ss_hit h2 hk q').1]) h3 h4 (fun z => by rw [h5 z]) h6
  | false =>
    by_cases c : nK (bt s.1) 26 < sz
    · have e := h5 c
      have q' : bt s'.1 k = false := by rw [← e]; exact q
      have c' : nK (bt s'.1) 26 < sz + 1 := by rw [← e]; omega
      refine fin _ _ (ss_add h1 hk q (by omega) c).2 (ss_add h2 hk q' (by omega) c').2 (fun j _ hj => by rw [← e]; exact hj) (by rw [nK_ad q 26 hk]; exact c) (fun _ => by rw [e]) (by rw [← e]; omega)
    · obtain ⟨o, o1, o2, o3, o4, o5⟩ := ss_out (rule := rule) (ask := ask) (i := i) h1 hk q hp (by omega) c
      have n1 : nK (sSw (bt s.1) o k) 26 = nK (bt s.1) 26 := nK_sw o3 q o2 hk
      cases q' : bt s'.1 k with
      | true =>
        refine fin _ _ o5 (by rw [(ss_hit h2 hk q').1]) (fun j hj hb => ?_) (by rw [n1]; exact h4) (fun z => by rw [n1] at z; exact absurd z c) (by rw [n1]; exact h6)
        have hb' : ((bt s.1 j && !decide (j = o)) || decide (j = k)) = true := hb
        by_cases w : j = k
        · rw [w]; exact q'
        · rw [decide_eq_false w, Bool.or_false, Bool.and_eq_true] at hb'
          exact h3 j hj hb'.1
      | false =>
        by_cases c' : nK (bt s'.1) 26 < sz + 1
        · have e : s.1 = s'.1 := same_set h1 h2 h3 (by omega)
          refine fin _ _ o5 (ss_add h2 hk q' (by omega) c').2 (fun j hj hb => ?_) (by rw [n1]; exact h4) (fun z => by rw [n1] at z; exact absurd z c) (by rw [n1, nK_ad q' 26 hk, ← e]; omega)
          have hb' : ((bt s.1 j && !decide (j = o)) || decide (j = k)) = true := hb
          show (bt s'.1 j || decide (j = k)) = true
          rw [← e]
          revert hb'
          cases bt s.1 j <;> simp
        · obtain ⟨o', p1, p2, p3, p4, p5⟩ := ss_out (rule := rule) (ask := ask) (i := i) h2 hk q' (Nat.succ_pos sz) (by omega) c'
          refine fin _ _ o5 p5 (fun j hj hb => ?_) (by rw [n1]; exact h4) (fun z => by rw [n1] at z; exact absurd z c) (by rw [n1, nK_sw p3 q' p2 hk]; exact h6)
          have hb' : ((bt s.1 j && !decide (j = o)) || decide (j = k)) = true := hb
          show ((bt s'.1 j && !decide (j = o')) || decide (j = k)) = true
          by_cases w : j = k
          · rw [decide_eq_true w, Bool.or_true]
          · rw [decide_eq_false w, Bool.or_false, Bool.and_eq_true] at hb' ⊢
            refine ⟨h3 j hj hb'.1, ?_⟩
            by_cases w2 : j = o'
            · exfalso
              have hin : bt s.1 o' = true := by rw [← w2]; exact hb'.1
              have : lO s.1 s.2.2.2 = some o' := lO_sub h1 h3 (by rw [h7]; exact p1) hin
              rw [o1] at this
              have e9 : o = o' := Option.some.inj this
              rw [e9, w2] at hb'
              exact absurd hb'.2 (by simp)
            · rw [decide_eq_false w2]; rfl
theorem INC_run (hp : 0 < sz) (h0 : sz < 900) (hr : rule ≠ 2) (hkf : ∀ i, i < t → kf i < 26) : ∀ (m : Nat) (s s' : SD), m ≤ t → INC sz s s' → INC sz (sFeed rule (nI sz) ask kf t m s) (sFeed rule (nI (sz + 1)) ask kf t m s') ∧ ∃ a b, a ≤ b ∧ b ≤ m ∧ (sFeed rule (nI sz) ask kf t m s).2.2.1 = s.2.2.1 + nI a ∧ (sFeed rule (nI (sz + 1)) ask kf t m s').2.2.1 = s'.2.2.1 + nI b
  | 0, s, s', _, h => ⟨h, 0, 0, Nat.le_refl _, Nat.le_refl _, (Int32.add_zero _).symm, (Int32.add_zero _).symm⟩
  | m + 1, s, s', hm, h => by
    have hk := hkf (t - (m + 1)) (by omega)
    obtain ⟨g1, a, b, g2, g3, g4, g5⟩ := INC_run hp h0 hr hkf m _ _ (by omega) (INC_step (ask := ask) (i := t - (m + 1)) hp h0 hr hk h)
    refine ⟨g1, a + (bt s.1 (kf (t - (m + 1)))).toNat, b + (bt s'.1 (kf (t - (m + 1)))).toNat, ?_, ?_, ?_, ?_⟩
    · cases q : bt s.1 (kf (t - (m + 1))) with
      | true => rw [h.2.2.1 _ hk q]; omega
      | false => show a + 0 ≤ _; omega
    · have := tN (bt s'.1 (kf (t - (m + 1))))
      omega
    · have g4' : (sFeed rule (nI sz) ask kf t (m + 1) s).2.2.1 = (sStep rule (nI sz) ask (kf (t - (m + 1))) (t - (m + 1)) s).2.2.1 + nI a := g4
      rw [g4']
      cases q : bt s.1 (kf (t - (m + 1))) with
      | true =>
        rw [(ss_hit h.1 hk q).2, Int32.add_assoc]
        congr 1
        exact (Int32.add_comm _ _).trans (lt_iA (j := a) (k := 1))
      | false => rw [ss_miss q]; rfl
    · have g5' : (sFeed rule (nI (sz + 1)) ask kf t (m + 1) s').2.2.1 = (sStep rule (nI (sz + 1)) ask (kf (t - (m + 1))) (t - (m + 1)) s').2.2.1 + nI b := g5
      rw [g5']
      cases q : bt s'.1 (kf (t - (m + 1))) with
      | true =>
        rw [(ss_hit h.2.1 hk q).2, Int32.add_assoc]
        congr 1
        exact (Int32.add_comm _ _).trans (lt_iA (j := b) (k := 1))
      | false => rw [ss_miss q]; rfl
/-- hits never fall with the size -/
theorem hits_mono (hp : 0 < sz) (h0 : sz < 900) (hr : rule ≠ 2) (hkf : ∀ i, i < n → kf i < 26) : ∃ a b, a ≤ b ∧ b ≤ n ∧ kHits kf n rule (nI sz) = nI a ∧ kHits kf n rule (nI (sz + 1)) = nI b := by
  obtain ⟨-, a, b, g1, g2, g3, g4⟩ := INC_run (ask := sAsk kf n) (kf := kf) hp h0 hr hkf n _ _ (Nat.le_refl _) INC_0
  exact ⟨a, b, g1, g2, g3.trans (Int32.zero_add _), g4.trans (Int32.zero_add _)⟩
/-- what is held by a size is held by a greater one -/
theorem held_mono (hp : 0 < sz) (h0 : sz < 900) (hr : rule ≠ 2) (hkf : ∀ i, i < t → kf i < 26) (hk : k < 26) (hb : bt (sPlay rule (nI sz) kf n t).1 k = true) : bt (sPlay rule (nI (sz + 1)) kf n t).1 k = true :=
  (INC_run (ask := sAsk kf n) (kf := kf) hp h0 hr hkf t _ _ (Nat.le_refl _) INC_0).1.2.2.1 k hk hb
/-- never more than the size is held -/
theorem cap_step (hp : 0 < sz) (h0 : sz < 1000) (hk : k < 26) (hs : KS s.1) (hc : nK (bt s.1) 26 ≤ sz) : KS (sStep rule (nI sz) ask k i s).1 ∧ nK (bt (sStep rule (nI sz) ask k i s).1) 26 ≤ sz ∧ bt (sStep rule (nI sz) ask k i s).1 k = true := by
  refine ⟨ss_KS hs hk, ?_⟩
  cases q : bt s.1 k with
  | true => rw [(ss_hit hs hk q).1]; exact ⟨hc, q⟩
  | false =>
    by_cases c : nK (bt s.1) 26 < sz
    · rw [(ss_add hs hk q h0 c).2, nK_ad q 26 hk]
      exact ⟨c, by show (bt s.1 k || decide (k = k)) = true; simp⟩
    · obtain ⟨o, q1, q2, q3, q4, q5⟩ := ss_out (rule := rule) (ask := ask) (i := i) hs hk q hp h0 c
      rw [q5, nK_sw q3 q q2 hk]
      exact ⟨hc, sw_x⟩
theorem cap_run (hp : 0 < sz) (h0 : sz < 1000) (hkf : ∀ i, i < t → kf i < 26) : ∀ (m : Nat) (s : SD), m ≤ t → KS s.1 → nK (bt s.1) 26 ≤ sz → KS (sFeed rule (nI sz) ask kf t m s).1 ∧ nK (bt (sFeed rule (nI sz) ask kf t m s).1) 26 ≤ sz
  | 0, s, _, h1, h2 => ⟨h1, h2⟩
  | m + 1, s, hm, h1, h2 => by
    obtain ⟨g1, g2, -⟩ := cap_step (rule := rule) (ask := ask) (i := t - (m + 1)) hp h0 (hkf (t - (m + 1)) (by omega)) h1 h2
    exact cap_run hp h0 hkf m _ (by omega) g1 g2
theorem cap_play (hp : 0 < sz) (h0 : sz < 1000) (hkf : ∀ i, i < t → kf i < 26) : KS (sPlay rule (nI sz) kf n t).1 ∧ nK (bt (sPlay rule (nI sz) kf n t).1) 26 ≤ sz :=
  cap_run hp h0 hkf t _ (Nat.le_refl _) KS_0 (by
    have e : nK (bt 0) 26 = 0 := by
      have : bt 0 = fun _ => false := funext fun j => b_0 j
      rw [this]; decide
    show nK (bt 0) 26 ≤ sz
    omega)
/-- one request more -/
theorem sF_shift {size : Int32} : ∀ (m : Nat) (s : SD), m ≤ t → sFeed rule size ask kf (t + 1) (m + 1) s = sStep rule size ask (kf t) t (sFeed rule size ask kf t m s)
  | 0, s, _ => by
    show sStep rule size ask (kf (t + 1 - 1)) (t + 1 - 1) s = sStep rule size ask (kf t) t s
    rw [Nat.add_sub_cancel]
  | m + 1, s, hm => by
    have e : t + 1 - (m + 1 + 1) = t - (m + 1) := by omega
    show sFeed rule size ask kf (t + 1) (m + 1) (sStep rule size ask (kf (t + 1 - (m + 1 + 1))) (t + 1 - (m + 1 + 1)) s) = sStep rule size ask (kf t) t (sFeed rule size ask kf t m (sStep rule size ask (kf (t - (m + 1))) (t - (m + 1)) s))
    rw [e, sF_shift m _ (by omega)]
theorem sPlay_s {size : Int32} : sPlay rule size kf n (t + 1) = sStep rule size (sAsk kf n) (kf t) t (sPlay rule size kf n t) := sF_shift t _ (Nat.le_refl _)
end Cc1
