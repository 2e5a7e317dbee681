/-! THE CLASS, the search for rows that shame, from its begin to its end -/
def HPm (Z : CS) (p : HP) : Prop := Z.1 0 2 = p.1 ∧ Z.1 0 3 = nI p.2.1 ∧ Z.1 0 4 = nI p.2.2.1 ∧ Z.1 0 5 = nI p.2.2.2 ∧ 1 ≤ p.2.1 ∧ p.2.1 ≤ 6 ∧ 1 ≤ p.2.2.1 ∧ p.2.2.1 ≤ 6 ∧ p.2.2.2 ≤ 26
/-- what going on from a node leaves -/
def HG (Z Z' : CS) (nd len : Nat) (r : HS × Option Nat) : Prop := match r.2 with
  | none => HK Z Z'
  | some k => Z'.1 1 = hKeep r.1 nd k len (Z.1 1) ∧ Z'.1 0 1 = nI len
def oB {α : Type} : Option α → Int32
  | none => 0
  | some _ => 1
section De
variable {M : LM} {P n m i j k t most len nd o : Nat} {Z Z' : CS} {v c q key lead from_ marks x lq gq asked : Int32} {st : Int64} {z : Option (LO × LM)} {s : HS} {p : HP} {F : Nat → Int32}
theorem zu_n (h : t ≠ 1) : ((u1 Z.1 1 F, Z.2) : CS).1 t = Z.1 t := u1_n h
theorem zu_e {F : Nat → Nat → Int32} {G : Nat → Int32} {y : Nat → Nat → Int64} : ((u1 F t G, y) : CS).1 t = G := if_pos rfl
theorem zu_o {F : Nat → Nat → Int32} {G : Nat → Int32} {y : Nat → Nat → Int64} (h : i ≠ t) : ((u1 F t G, y) : CS).1 i = F i := if_neg h
theorem hOffer_n : s.1 ≤ (hOffer s st lead from_ key).1 := by
  unfold hOffer hPut
  split
  · exact Nat.le_refl _
  · split
    · exact Nat.le_succ _
    · exact Nat.le_refl _
theorem hGoK_n : ∀ (m k : Nat) (s : HS), s.1 ≤ (hGoK p nd lq gq asked m k s).1.1
  | 0, k, s => Nat.le_refl _
  | m + 1, k, s => by
    unfold hGoK
    split
    · exact Nat.le_refl _
    · split
      · exact Nat.le_refl _
      · exact Nat.le_trans hOffer_n (hGoK_n m (k + 1) _)
theorem HPm_k (h : HPm Z p) (g : HK Z Z') : HPm Z' p := ⟨(g.2 2 (by decide)).trans h.1, (g.2 3 (by decide)).trans h.2.1, (g.2 4 (by decide)).trans h.2.2.1, (g.2 5 (by decide)).trans h.2.2.2.1, h.2.2.2.2⟩
theorem h_goOn_38 (h : PA' M P) (hnd : nd < 1200) (h1 : 1 ≤ len) (h2 : len ≤ 12) : ∀ (m : Nat) (d k : Nat) (s : HS) (Z : CS), k + m = p.2.2.2 → HR Z s → HPm Z p →
    ∃ Z', f_X6_goOn_38 (d + 4) (gM M P 7 Z) P (nI nd) (nI len) lq gq asked (nI k) = some (.inl (some (.int (oB (hGoK p nd lq gq asked m k s).2))), gM M P 7 Z') ∧ HR Z' (hGoK p nd lq gq asked m k s).1 ∧ HG Z Z' nd len (hGoK p nd lq gq asked m k s)
  | 0, d, k, s, Z, e, hR, hp => by
    have hk := hp.2.2.2.2.2.2.2.2
    have hlt : ¬ nI k < nI p.2.2.2 := by rw [nI_ltP (by omega) (by omega)]; omega
    refine ⟨Z, ?_, hR, HK_r⟩
    rw [e_X6_goOn_38, h_ck h, gI0 (by omega), hp.2.2.2.1, if_neg hlt, lt_b1_0]
    rfl
  | m + 1, d, k, s, Z, e, hR, hp => by
    have hk := hp.2.2.2.2.2.2.2.2
    have hlt : nI k < nI p.2.2.2 := by rw [nI_ltP (by omega) (by omega)]; omega
    have g1 : nI k + 1 = nI (k + 1) := lt_iA (j := k) (k := 1)
    have hs : hGoK p nd lq gq asked (m + 1) k s = if asked < nI k then (s, none) else if 0 < s.2.2.1 nd + hGain lq gq k then (s, some k) else hGoK p nd lq gq asked m (k + 1) (hOffer s (hThere p lq gq asked k) (s.2.2.1 nd + hGain lq gq k) (nI nd) (nI k)) := rfl
    rw [hs]
    by_cases a : asked < nI k
    · rw [if_pos a]
      refine ⟨Z, ?_, hR, HK_r⟩
      rw [e_X6_goOn_38, h_ck h, gI0 (by omega), hp.2.2.2.1, if_pos hlt, if_pos a, lt_b1_0]
      rfl
    · rw [if_neg a]
      have e70 : ∃ Z', f_X6_goOn_70 (d + 4) (gM M P 7 Z) P (nI nd) (nI len) lq gq asked (nI k) (if hPlace lq (nI k) = none then 0 else 1) = some (.inl (some (.int (oB (if 0 < s.2.2.1 nd + hGain lq gq k then (s, some k) else hGoK p nd lq gq asked m (k + 1) (hOffer s (hThere p lq gq asked k) (s.2.2.1 nd + hGain lq gq k) (nI nd) (nI k))).2))), gM M P 7 Z') ∧ HR Z' (if 0 < s.2.2.1 nd + hGain lq gq k then (s, some k) else hGoK p nd lq gq asked m (k + 1) (hOffer s (hThere p lq gq asked k) (s.2.2.1 nd + hGain lq gq k) (nI nd) (nI k))).1 ∧ HG Z Z' nd len (if 0 < s.2.2.1 nd + hGain lq gq k then (s, some k) else hGoK p nd lq gq asked m (k + 1) (hOffer s (hThere p lq gq asked k) (s.2.2.1 nd + hGain lq gq k) (nI nd) (nI k))) := by
        have ekeep := h_keep (M := M) (P := P) (Z := Z) (s := s) (nd := nd) (k := k) (len := len) (d + 1) h hR h1 h2
        have hRk : HR (cwi (u1 Z.1 1 (hKeep s nd k len (Z.1 1)), Z.2) 0 1 (nI len)) s := by
          obtain ⟨r1, r2, r3, r4⟩ := hR
          refine ⟨?_, r2, fun i hi => ?_, fun i hi => ?_⟩
          · rw [cwi_n (by decide)]
            exact (congrFun (zu_n (by decide)) 6).trans r1
          · rw [cwi_z (by decide), cwi_z (by decide), cwi_z (by decide)]
            have := r3 i hi
            exact ⟨this.1, (congrFun (zu_n (by decide)) i).trans this.2.1, (congrFun (zu_n (by decide)) i).trans this.2.2.1, (congrFun (zu_n (by decide)) i).trans this.2.2.2⟩
          · rw [cwi_z (by decide)]
            have := r4 i hi
            exact ⟨(congrFun (zu_n (by decide)) i).trans this.1, this.2⟩
        have hlead : Z.1 3 nd = s.2.2.1 nd := (hR.2.2.1 nd hnd).2.1
        obtain ⟨Z1, o1, o2, o3⟩ := h_offer (M := M) (P := P) (Z := Z) (s := s) (st := hThere p lq gq asked k) (lead := s.2.2.1 nd + hGain lq gq k) (from_ := nI nd) (key := nI k) (d + 1) h hR
        obtain ⟨Z', i1, i2, i3⟩ := h_goOn_38 h hnd h1 h2 m d (k + 1) (hOffer s (hThere p lq gq asked k) (s.2.2.1 nd + hGain lq gq k) (nI nd) (nI k)) Z1 (by omega) o2 (HPm_k hp o3)
        have hb1 := h_behind (M := M) (P := P) (Z := Z) (q := lq) (most := p.2.1) (key := nI k) (d + 1) h hp.2.2.2.2.2.1 hp.2.2.2.2.1
        have hb2 := h_behind (M := M) (P := P) (Z := Z) (q := gq) (most := p.2.2.1) (key := nI k) (d + 1) h hp.2.2.2.2.2.2.2.1 hp.2.2.2.2.2.2.1
        have er : (mI (gM M P 7 Z) P 3) = nI p.2.1 := by rw [gI0 (by omega), hp.2.1]
        have eg : (mI (gM M P 7 Z) P 4) = nI p.2.2.1 := by rw [gI0 (by omega), hp.2.2.1]
        have core : ∀ (g : Int32), s.2.2.1 nd + g = s.2.2.1 nd + hGain lq gq k → ∃ Z', (lt_ck (gM M P 7 Z) P 22 (lt_rf (mP (gM M P 7 Z) P 8) fun q8 => lt_bi (f_X10_at (d + 3) (gM M P 7 Z) q8 (nI nd)) [] fun v10 M9 => if @LT.lt Int32 _ 0 (v10 + g) then (lt_ck M9 P 22 (lt_bv (f_X6_keep (d + 3) M9 P (nI nd) (nI k) (nI len)) [] fun M18 => lt_b1 1 (some (.inl (some (.int 1)), M18)))) else (lt_ck M9 P 22 (lt_ck M9 P 22 (lt_bi (f_X6_behind (d + 3) M9 P lq (mI M9 P 3) (nI k)) [] fun v12 M11 => lt_ck M11 P 22 (lt_ck M11 P 22 (lt_bi (f_X6_behind (d + 3) M11 P gq (mI M11 P 4) (nI k)) [] fun v14 M13 => lt_bi (f_J9_max_7cf53 (d + 3) M13 asked (nI k + 1)) [] fun v16 M15 => lt_ck M15 P 22 (lt_bv (f_X6_offer (d + 3) M15 P (((Int32.toInt64 v12) ||| (lt_lsl (Int32.toInt64 v14) 16)) ||| (lt_lsl (Int32.toInt64 v16) 40)) (v10 + g) (nI nd) (nI k)) [] fun M17 => f_X6_goOn_38 (d + 4) M17 P (nI nd) (nI len) lq gq asked (nI k + 1)))))))) : Option (LO × LM)) = some (.inl (some (.int (oB (if 0 < s.2.2.1 nd + hGain lq gq k then (s, some k) else hGoK p nd lq gq asked m (k + 1) (hOffer s (hThere p lq gq asked k) (s.2.2.1 nd + hGain lq gq k) (nI nd) (nI k))).2))), gM M P 7 Z') ∧ HR Z' (if 0 < s.2.2.1 nd + hGain lq gq k then (s, some k) else hGoK p nd lq gq asked m (k + 1) (hOffer s (hThere p lq gq asked k) (s.2.2.1 nd + hGain lq gq k) (nI nd) (nI k))).1 ∧ HG Z Z' nd len (if 0 < s.2.2.1 nd + hGain lq gq k then (s, some k) else hGoK p nd lq gq asked m (k + 1) (hOffer s (hThere p lq gq asked k) (s.2.2.1 nd + hGain lq gq k) (nI nd) (nI k))) := by
          intro g hg
          rw [h_ck h, h_p8 h, x_rf, gw_at (d + 2) (by omega) (h_a3 h) hnd, lt_bi_r, hlead, hg]
          by_cases b : 0 < s.2.2.1 nd + hGain lq gq k
          · rw [if_pos b, if_pos b, h_ck h, ekeep, lt_bv_r, lt_b1_1]
            refine ⟨_, rfl, hRk, ?_, cwi_e⟩
            rw [cwi_z (by decide)]
            exact zu_e
          · rw [if_neg b, if_neg b, h_ck h, h_ck h, er, hb1, lt_bi_r, h_ck h, h_ck h, eg, hb2, lt_bi_r, j_max, lt_bi_r, h_ck h, hp.1]
            refine ⟨Z', ?_, i2, ?_⟩
            · refine Eq.trans ?_ i1
              rw [g1]
              have := o1
              unfold hThere at this
              rw [g1] at this
              rw [this, lt_bv_r]
            · unfold HG at i3 ⊢
              generalize hGoK p nd lq gq asked m (k + 1) (hOffer s (hThere p lq gq asked k) (s.2.2.1 nd + hGain lq gq k) (nI nd) (nI k)) = r at *
              obtain ⟨r1, r2⟩ := r
              cases r2 with
              | none => exact HK_t o3 i3
              | some k' => exact ⟨by rw [i3.1, o3.1], i3.2⟩
        rw [e_X6_goOn_70, h_placeIn (d + 2), lt_bi_r]
        cases hq : hPlace gq (nI k) with
        | none =>
          rw [show oI none = -1 from rfl, if_pos rfl]
          exact core _ (by unfold hGain; rw [hq, if_pos (show (none : Option Nat) = none from rfl)])
        | some l =>
          have := hPlace_lt l hq
          have hne : ¬ nI l = -1 := fun e => by rw [nI_ne1 (by omega)] at e; exact e
          rw [show oI (some l) = nI l from rfl, if_neg hne]
          exact core _ (by unfold hGain; rw [hq, if_neg (show ¬ (some l = none) by intro e; cases e)])
      rw [e_X6_goOn_38, h_ck h, gI0 (by omega), hp.2.2.2.1, if_pos hlt, if_neg a, h_placeIn (d + 2), lt_bi_r]
      cases hq : hPlace lq (nI k) with
      | none =>
        rw [show oI none = -1 from rfl, if_pos rfl]
        rw [hq, if_pos rfl] at e70
        exact e70
      | some l =>
        have := hPlace_lt l hq
        have hne : ¬ nI l = -1 := fun e => by rw [nI_ne1 (by omega)] at e; exact e
        rw [show oI (some l) = nI l from rfl, if_neg hne]
        rw [hq, if_neg (show ¬ (some l = none) by intro e; cases e)] at e70
        exact e70
theorem h_goOn (d : Nat) (h : PA' M P) (hnd : nd < 1200) (h1 : 1 ≤ len) (h2 : len ≤ 12) (hR : HR Z s) (hp : HPm Z p) : ∃ Z', f_X6_goOn (d + 4) (gM M P 7 Z) P (nI nd) (nI len) = some (.inl (some (.int (oB (hGo p nd s).2))), gM M P 7 Z') ∧ HR Z' (hGo p nd s).1 ∧ HG Z Z' nd len (hGo p nd s) := by
  obtain ⟨Z', a1, a2, a3⟩ := h_goOn_38 (M := M) (P := P) (p := p) (lq := Int64.toInt32 (s.2.1 nd &&& 65535)) (gq := Int64.toInt32 (lt_lus (s.2.1 nd) 16 &&& 16777215)) (asked := Int64.toInt32 (lt_lus (s.2.1 nd) 40)) h hnd h1 h2 p.2.2.2 d 0 s Z (by omega) hR hp
  refine ⟨Z', ?_, a2, a3⟩
  rw [e_X6_goOn, h_ck h, h_p7 h, x_rf, gw_atL (d + 2) (by omega) (h_a2 h) hnd, lt_bl_r, (hR.2.2.1 nd hnd).1]
  exact a1
/-- what a search leaves -/
def HF (Z Z' : CS) (r : HS × Option (Nat × Nat × Nat)) : Prop := match r.2 with
  | none => Z'.1 1 = Z.1 1 ∧ Z'.1 0 1 = Z.1 0 1
  | some a => Z'.1 1 = hKeep r.1 a.2.1 a.2.2 a.1 (Z.1 1) ∧ Z'.1 0 1 = nI a.1
def oLen : Option (Nat × Nat × Nat) → Int32
  | none => -1
  | some a => nI a.1
theorem h_look (h : PA' M P) (hm : most ≤ 12) : ∀ (m : Nat) (d len layer : Nat) (s : HS) (Z : CS), len + m = most + 1 → 1 ≤ len → layer ≤ s.1 → HR Z s → HPm Z p →
    ∃ Z', f_X6_look_53 (d + 5) (gM M P 7 Z) P (nI most) (nI layer) (nI len) = some (.inl (some (.int (oLen (hLayers p m len layer s).2))), gM M P 7 Z') ∧ HF Z Z' (hLayers p m len layer s)
  | 0, d, len, layer, s, Z, e, h1, hl, hR, hp => by
    have hlt : nI most < nI len := by rw [nI_ltP (by omega) (by omega)]; omega
    refine ⟨Z, ?_, rfl, rfl⟩
    rw [e_X6_look_53, if_pos hlt]
    rfl
  | m + 1, d, len, layer, s, Z, e, h1, hl, hR, hp => by
    have hlt : ¬ nI most < nI len := by rw [nI_ltP (by omega) (by omega)]; omega
    have hlt2 : ¬ (12 : Int32) < nI len := fun e => by have := (nI_ltP (j := 12) (k := len) (by omega) (by omega)).mp e; omega
    have g1 : nI len + 1 = nI (len + 1) := lt_iA (j := len) (k := 1)
    have e6 : mI (gM M P 7 Z) P 6 = nI s.1 := by rw [gI0 (by omega), hR.1]
    have hn12 := hR.2.1
    have loop : ∀ (j nd : Nat) (s1 : HS) (Z1 : CS), nd + j = s.1 → HR Z1 s1 → HPm Z1 p → HK Z Z1 → s.1 ≤ s1.1 →
        ∃ Z', f_X6_look_77 (d + 5) (gM M P 7 Z1) P (nI most) (nI len) (nI s.1) (nI nd) = (match (hNodes p j nd s1).2 with
          | some r => some (.inl (some (.int (nI len))), gM M P 7 Z')
          | none => f_X6_look_53 (d + 5) (gM M P 7 Z') P (nI most) (nI s.1) (nI (len + 1))) ∧ HR Z' (hNodes p j nd s1).1 ∧ s.1 ≤ (hNodes p j nd s1).1.1 ∧ (match (hNodes p j nd s1).2 with
          | some r => Z'.1 1 = hKeep (hNodes p j nd s1).1 r.1 r.2 len (Z.1 1) ∧ Z'.1 0 1 = nI len
          | none => HK Z Z') := by
      intro j
      induction j with
      | zero =>
        intro nd s1 Z1 e hR1 hp1 hk hle
        have hlt : ¬ nI nd < nI s.1 := by rw [nI_ltP (by omega) (by omega)]; omega
        refine ⟨Z1, ?_, hR1, hle, hk⟩
        rw [e_X6_look_77, if_neg hlt, g1]
        rfl
      | succ j ih =>
        intro nd s1 Z1 e hR1 hp1 hk hle
        have hlt : nI nd < nI s.1 := by rw [nI_ltP (by omega) (by omega)]; omega
        have g2 : nI nd + 1 = nI (nd + 1) := lt_iA (j := nd) (k := 1)
        obtain ⟨Z2, a1, a2, a3⟩ := h_goOn (M := M) (P := P) (Z := Z1) (s := s1) (p := p) (nd := nd) (len := len) d h (by omega) h1 (by omega) hR1 hp1
        have hmono : s1.1 ≤ (hGo p nd s1).1.1 := hGoK_n _ _ _
        unfold hNodes
        rw [e_X6_look_77, if_pos hlt, h_ck h, a1, lt_bi_r]
        unfold HG at a3
        cases hr : (hGo p nd s1).2 with
        | none =>
          rw [hr] at a3
          rw [show oB (none : Option Nat) = 0 from rfl, if_pos rfl, g2]
          exact ih (nd + 1) (hGo p nd s1).1 Z2 (by omega) a2 (HPm_k hp1 a3) (HK_t hk a3) (by omega)
        | some k =>
          rw [hr] at a3
          rw [show oB (some k) = 1 from rfl, if_neg (by decide)]
          exact ⟨Z2, rfl, a2, Nat.le_trans hle hmono, by rw [a3.1, hk.1], a3.2⟩
    obtain ⟨Z1, l1, l2, l3, l4⟩ := loop (s.1 - layer) layer s Z (by omega) hR hp HK_r (Nat.le_refl _)
    rw [e_X6_look_53, if_neg hlt, if_neg hlt2, h_ck h, e6, l1]
    unfold hLayers
    cases hr : (hNodes p (s.1 - layer) layer s).2 with
    | none =>
      rw [hr] at l4
      dsimp only
      obtain ⟨Z', i1, i2⟩ := h_look h hm m d (len + 1) s.1 (hNodes p (s.1 - layer) layer s).1 Z1 (by omega) (by omega) l3 l2 (HPm_k hp l4)
      refine ⟨Z', i1, ?_⟩
      unfold HF at i2 ⊢
      generalize hLayers p m (len + 1) s.1 (hNodes p (s.1 - layer) layer s).1 = r at *
      obtain ⟨r1, r2⟩ := r
      cases r2 with
      | none => exact ⟨i2.1.trans l4.1, i2.2.trans (l4.2 1 (by decide))⟩
      | some a => exact ⟨by rw [i2.1, l4.1], i2.2⟩
    | some r =>
      rw [hr] at l4
      exact ⟨Z1, rfl, l4⟩
/-- the search at its begin: no node but the first -/
def hStart (Z : CS) : HS := hOffer (0, Z.2 2, Z.1 3, Z.1 4, Z.1 5, fun _ => 0) 0 0 (-1) (-1)
theorem h_lookAll (d : Nat) (h : PA' M P) (hm : most ≤ 12) (h1 : 1 ≤ p.2.1) (h2 : p.2.1 ≤ 6) (h3 : 1 ≤ p.2.2.1) (h4 : p.2.2.1 ≤ 6) (h5 : p.2.2.2 ≤ 26) (hb : p.1 = 0 ∨ p.1 = 1) :
    ∃ Z', f_X6_look (d + 6) (gM M P 7 Z) P p.1 (nI p.2.1) (nI p.2.2.1) (nI p.2.2.2) (nI most) = some (.inl (some (.int (oLen (hLayers p most 1 0 (hStart Z)).2))), gM M P 7 Z') ∧ HF (u2 Z.1 0 1 (-1), Z.2) Z' (hLayers p most 1 0 (hStart Z)) := by
  have hb1 : ∀ z : Option (LO × LM), lt_b1 p.1 z = z := fun z => by
    rcases hb with e | e
    · rw [e]; exact lt_b1_0
    · rw [e]; exact lt_b1_1
  let Z6 : CS := cwi (cwi (cwi (cwi (cwi (cwi Z 0 2 p.1) 0 3 (nI p.2.1)) 0 4 (nI p.2.2.1)) 0 5 (nI p.2.2.2)) 0 6 0) 0 1 (-1)
  let Z7 : CS := (u1 Z6.1 6 (fun j => if j < 2048 then 0 else Z6.1 6 j), Z6.2)
  have z0 : Z7.1 0 = Z6.1 0 := zu_o (show (0 : Nat) ≠ 6 by decide)
  have zt : ∀ t, t ≠ 0 → t ≠ 6 → Z7.1 t = Z.1 t := fun t a b => by
    refine (zu_o b).trans ?_
    show (cwi (cwi (cwi (cwi (cwi (cwi Z 0 2 p.1) 0 3 (nI p.2.1)) 0 4 (nI p.2.2.1)) 0 5 (nI p.2.2.2)) 0 6 0) 0 1 (-1)).1 t = _
    rw [cwi_z a, cwi_z a, cwi_z a, cwi_z a, cwi_z a, cwi_z a]
  have hR7 : HR Z7 (0, Z.2 2, Z.1 3, Z.1 4, Z.1 5, fun _ => 0) := by
    refine ⟨?_, by show 0 ≤ 1200; omega, fun i hi => ⟨rfl, by rw [zt 3 (by decide) (by decide)], by rw [zt 4 (by decide) (by decide)], by rw [zt 5 (by decide) (by decide)]⟩, fun i hi => ⟨?_, Nat.le_refl _⟩⟩
    · rw [z0]
      show (cwi (cwi (cwi (cwi (cwi (cwi Z 0 2 p.1) 0 3 (nI p.2.1)) 0 4 (nI p.2.2.1)) 0 5 (nI p.2.2.2)) 0 6 0) 0 1 (-1)).1 0 6 = _
      rw [cwi_n (by decide)]
      exact cwi_e
    · refine (congrFun zu_e i).trans ?_
      rw [if_pos hi]
      rfl
  have hp7 : HPm Z7 p := by
    refine ⟨?_, ?_, ?_, ?_, h1, h2, h3, h4, h5⟩
    · rw [z0]
      show (cwi (cwi (cwi (cwi (cwi (cwi Z 0 2 p.1) 0 3 (nI p.2.1)) 0 4 (nI p.2.2.1)) 0 5 (nI p.2.2.2)) 0 6 0) 0 1 (-1)).1 0 2 = _
      rw [cwi_n (by decide), cwi_n (by decide), cwi_n (by decide), cwi_n (by decide), cwi_n (by decide)]
      exact cwi_e
    · rw [z0]
      show (cwi (cwi (cwi (cwi (cwi (cwi Z 0 2 p.1) 0 3 (nI p.2.1)) 0 4 (nI p.2.2.1)) 0 5 (nI p.2.2.2)) 0 6 0) 0 1 (-1)).1 0 3 = _
      rw [cwi_n (by decide), cwi_n (by decide), cwi_n (by decide), cwi_n (by decide)]
      exact cwi_e
    · rw [z0]
      show (cwi (cwi (cwi (cwi (cwi (cwi Z 0 2 p.1) 0 3 (nI p.2.1)) 0 4 (nI p.2.2.1)) 0 5 (nI p.2.2.2)) 0 6 0) 0 1 (-1)).1 0 4 = _
      rw [cwi_n (by decide), cwi_n (by decide), cwi_n (by decide)]
      exact cwi_e
    · rw [z0]
      show (cwi (cwi (cwi (cwi (cwi (cwi Z 0 2 p.1) 0 3 (nI p.2.1)) 0 4 (nI p.2.2.1)) 0 5 (nI p.2.2.2)) 0 6 0) 0 1 (-1)).1 0 5 = _
      rw [cwi_n (by decide), cwi_n (by decide)]
      exact cwi_e
  obtain ⟨Z8, o1, o2, o3⟩ := h_offer (M := M) (P := P) (Z := Z7) (s := (0, Z.2 2, Z.1 3, Z.1 4, Z.1 5, fun _ => 0)) (st := 0) (lead := 0) (from_ := -1) (key := -1) (d + 3) h hR7
  obtain ⟨Z', l1, l2⟩ := h_look (M := M) (P := P) (p := p) (most := most) h hm most (d + 1) 1 0 (hStart Z) Z8 (by omega) (by omega) (Nat.zero_le _) o2 (HPm_k hp7 o3)
  refine ⟨Z', ?_, ?_⟩
  · rw [e_X6_look, h_ck h, hb1, gwI0 (by omega), x_m, h_ck h, gwI0 (by omega), x_m, h_ck h, gwI0 (by omega), x_m, h_ck h, gwI0 (by omega), x_m, h_ck h, gwI0 (by omega), x_m, h_ck h, gwI0 (by omega), x_m, h_ck h, h_p11 h, x_rf, j_fillI (M := gM M P 7 _) (d + 4) (h_a6 h), g_rI (by omega), gI (by omega), lt_bv_r, h_ck h]
    have o1' : f_X6_offer (d + 5) (gM M P 7 (u1 Z6.1 6 (fun j => if j < 2048 then 0 else Z6.1 6 j), Z6.2)) P 0 0 (-1) (-1) = _ := o1
    rw [o1', lt_bv_r]
    exact l1
  · unfold HF at l2 ⊢
    have e1 : Z8.1 1 = Z.1 1 := o3.1.trans (zt 1 (by decide) (by decide))
    have e2 : Z8.1 0 1 = -1 := by
      rw [o3.2 1 (by decide), z0]
      exact cwi_e
    generalize hLayers p most 1 0 (hStart Z) = r at *
    obtain ⟨r1, r2⟩ := r
    cases r2 with
    | none => exact ⟨l2.1.trans (e1.trans (show Z.1 1 = (cwi Z 0 1 (-1)).1 1 from (cwi_z (by decide)).symm)), l2.2.trans (e2.trans (show -1 = (cwi Z 0 1 (-1)).1 0 1 from cwi_e.symm))⟩
    | some a => exact ⟨by rw [l2.1, e1]; rfl, l2.2⟩
end De
