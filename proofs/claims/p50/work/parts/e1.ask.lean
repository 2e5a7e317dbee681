/-! THE LAW'S OWN CACHE: ask() -/
section Eb
variable {M M' M0 M1 N : LM} {D i j k t w f n c e r a o m s y key h p z ru ro u nk nb c' s' : Nat} {x v b1 b2 : Int32} {b : Bool} {T T' T2 : BT} {R : Nat → BT} {sz K K' : Nat → Nat} {B B' : Nat → Bool} {q : PQ} {Z : Option (LO × LM)}
theorem prg (h : a = p ∨ a = p + 1 ∨ a = p + 2) : PRg p a := by unfold PRg; omega
theorem cMk_le : cMk q ≤ q.1 := by
  unfold cMk
  have : ∀ m, sN (fun j => if q.2.2.1 j = true then 1 else 0) m ≤ m := fun m => by
    induction m with
    | zero => exact Nat.le_refl _
    | succ m ih =>
      show sN _ m + (if q.2.2.1 m = true then 1 else 0) ≤ m + 1
      split <;> omega
  exact this q.1
theorem ask_84 (d : Nat) (hz : ∀ k, k < 26 → 1 ≤ sz k ∧ sz k ≤ 8) (hk : key < 26) (hro : ro ≤ 20) (hru : ru < 10) (hf : sz key ≤ ro) : ∀ (n : Nat) (q : PQ) (M : LM), LW M T R c → PLQ M p z ru ro sz q → PV ro sz q → cMk q + q.1 ≤ n →
    ∃ M', f_X12_ask_84 (d + 2) M p (nI key) = some (.inl none, M') ∧ LW M' T R c ∧ FX (PRg p) 0 0 M M' ∧ PLQ M' p z ru ro sz (pInQ sz key (pShQ ru ro sz key n q)) ∧ PV ro sz (pInQ sz key (pShQ ru ro sz key n q)) := by
  intro n
  have z1 : ∀ k, k < 26 → 1 ≤ sz k := fun k hk => (hz k hk).1
  have zk := (hz key hk).2
  -- it fits
  have fin : ∀ (q : PQ) (M : LM), LW M T R c → PLQ M p z ru ro sz q → PV ro sz q → ¬ ro < q.2.2.2.1 + sz key → ∃ M', f_X12_ask_84 (d + 2) M p (nI key) = some (.inl none, M') ∧ LW M' T R c ∧ FX (PRg p) 0 0 M M' ∧ PLQ M' p z ru ro sz (pInQ sz key q) ∧ PV ro sz (pInQ sz key q) := by
    intro q M hL H hv hn
    have hm := PV_m z1 hv
    have hu := hv.2.1
    obtain ⟨M', e1, e2, e3, e4⟩ := p_in (key := key) (d := d) hL H (by omega) hk
    have H' : PLN M p z ru ro sz q.1 q.2.2.2.1 q.2.2.2.2 q.1 q.1 q.2.1 q.2.2.1 := H
    have vs : mI M z (lt_n (nI key)) = nI (sz key) := H'.ss.rd hk
    refine ⟨M', ?_, e2, e3, e4, (PV_in hv hk (by omega)).1⟩
    rw [e_X12_ask_84, H'.ck, H'.ck, H'.p2, x_rf, H'.ss.ar hk, H'.ck, H'.ff.2.1, H'.ff.2.2.2.1, vs, lt_iA, if_neg (by rw [nI_ltP (by omega) (by omega)]; exact hn), H'.ck, e1, lt_bv_r]
  induction n with
  | zero =>
    intro q M hL H hv hn
    have h0 : q.1 = 0 := by omega
    have hu : q.2.2.2.1 = 0 := by rw [hv.1, h0]; rfl
    exact fin q M hL H hv (by omega)
  | succ n ih =>
    intro q M hL H hv hn
    unfold pShQ
    by_cases hc : ro < q.2.2.2.1 + sz key
    · rw [if_pos hc]
      have hm := PV_m z1 hv
      have hu := hv.2.1
      have hm0 : 0 < q.1 := by
        by_cases w : q.1 = 0
        · have : q.2.2.2.1 = 0 := by rw [hv.1, w]; rfl
          omega
        · omega
      have H' : PLN M p z ru ro sz q.1 q.2.2.2.1 q.2.2.2.2 q.1 q.1 q.2.1 q.2.2.1 := H
      have vs : mI M z (lt_n (nI key)) = nI (sz key) := H'.ss.rd hk
      have v0 : mI M (p + 1) (lt_n 0) = nI (q.2.1 0) := H'.rk (j := 0) hm0 (by omega)
      have b0 : mI M (p + 2) (lt_n 0) = bI (q.2.2.1 0) := H'.rb (j := 0) hm0 (by omega)
      have a0 : ∀ {Z : Option (LO × LM)}, lt_ar M (p + 1) 1 0 Z = Z := H'.ak (j := 0) (by omega)
      have c0 : ∀ {Z : Option (LO × LM)}, lt_ar M (p + 2) 3 0 Z = Z := H'.ab (j := 0) (by omega)
      obtain ⟨M1, o1, o2, o3, o4⟩ := p_out (pl := 0) (d := d) hL H hv hro (by omega) hm0 z1
      have o1' : f_X12_out (d + 1) M p 0 = _ := o1
      obtain ⟨w1, w2, w3⟩ := PV_out hv hm0
      have k0 := hv.2.2 0 hm0
      have mo : (pOutQ sz q 0).1 = q.1 - 1 := rfl
      -- the first goes for good
      have go : cMk (pOutQ sz q 0) + (pOutQ sz q 0).1 ≤ n → ¬ (ru = 3 ∧ q.2.2.1 0 = true) → ∃ M', f_X12_ask_84 (d + 2) M1 p (nI key) = some (.inl none, M') ∧ LW M' T R c ∧ FX (PRg p) 0 0 M M' ∧ PLQ M' p z ru ro sz (pInQ sz key (pShQ ru ro sz key n (if ru = 3 ∧ q.2.2.1 0 = true then pInQ sz (q.2.1 0) (pOutQ sz q 0) else pOutQ sz q 0))) ∧ PV ro sz (pInQ sz key (pShQ ru ro sz key n (if ru = 3 ∧ q.2.2.1 0 = true then pInQ sz (q.2.1 0) (pOutQ sz q 0) else pOutQ sz q 0))) := by
        intro hh hne
        obtain ⟨M', g1, g2, g3, g4, g5⟩ := ih (pOutQ sz q 0) M1 o2 o4 w1 hh
        rw [if_neg hne]
        exact ⟨M', g1, g2, o3.tr g3, g4, g5⟩
      have ms : cMk (pOutQ sz q 0) ≤ cMk q := by rw [← w3]; exact Nat.le_add_right _ _
      rw [e_X12_ask_84, H'.ck, H'.ck, H'.p2, x_rf, H'.ss.ar hk, H'.ck, H'.ff.2.1, H'.ff.2.2.2.1, vs, lt_iA, if_pos (by rw [nI_ltP (by omega) (by omega)]; exact hc), H'.ck, H'.p3, x_rf, a0, H'.ck, H'.ff.1]
      by_cases r3 : ru = 3
      · rw [if_pos (show nI ru = 3 by rw [r3]; rfl), H'.ck, H'.p4, x_rf, c0, b0]
        by_cases mk : q.2.2.1 0 = true
        · have e1 : q.2.1 0 < 26 := k0
          rw [mk, if_neg (by decide), H'.ck, o1', lt_bv_r, if_neg (by decide), v0]
          have w3' : cMk (pOutQ sz q 0) + 1 = cMk q := by rw [if_pos mk] at w3; exact w3
          obtain ⟨M2, i1, i2, i3, i4⟩ := p_in (key := q.2.1 0) (d := d) o2 o4 (by omega) k0
          have fit : (pOutQ sz q 0).2.2.2.1 + sz (q.2.1 0) ≤ ro := by
            show q.2.2.2.1 - sz (q.2.1 0) + sz (q.2.1 0) ≤ ro
            omega
          obtain ⟨y1, y2⟩ := PV_in w1 k0 fit
          have mi : (pInQ sz (q.2.1 0) (pOutQ sz q 0)).1 = q.1 - 1 + 1 := rfl
          obtain ⟨M', g1, g2, g3, g4, g5⟩ := ih (pInQ sz (q.2.1 0) (pOutQ sz q 0)) M2 i2 i4 y1 (by omega)
          have H1 : lt_ck M1 p 28 (lt_bv (f_X12_in (d + 1) M1 p (nI (q.2.1 0))) [] fun M23 => f_X12_ask_84 (d + 2) M23 p (nI key)) = f_X12_ask_84 (d + 2) M2 p (nI key) := by
            rw [PLN.ck (show PLN M1 p z ru ro sz _ _ _ _ _ _ _ from o4), i1, lt_bv_r]
          refine ⟨M', H1.trans g1, g2, (o3.tr i3).tr g3, ?_, ?_⟩
          · rw [if_pos ⟨r3, rfl⟩]; exact g4
          · rw [if_pos ⟨r3, rfl⟩]; exact g5
        · have mk' : q.2.2.1 0 = false := by simpa using mk
          rw [mk', if_pos (show bI false = 0 from rfl), H'.ck, o1', lt_bv_r, if_pos rfl]
          rw [mk'] at go
          exact go (by omega) (fun w => by cases w.2)
      · rw [if_neg (show ¬ nI ru = 3 from fun w => r3 ((lt_iE (j := ru) (k := 3) (by omega) (by omega)).mp w)), H'.ck, o1', lt_bv_r, if_pos rfl]
        exact go (by omega) (fun w => r3 w.1)
    · rw [if_neg hc]
      exact fin q M hL H hv hc
theorem fIx_s {n i : Nat} : fIx K key (n + 1) i = if K i = key then i else fIx K key n (i + 1) := rfl
theorem fIx_le : ∀ (n i : Nat), i ≤ fIx K key n i ∧ fIx K key n i ≤ i + n ∧ (fIx K key n i < i + n → K (fIx K key n i) = key)
  | 0, i => ⟨Nat.le_refl _, Nat.le_refl _, fun h => absurd h (Nat.lt_irrefl _)⟩
  | n + 1, i => by
    unfold fIx
    split
    · exact ⟨Nat.le_refl _, by omega, fun _ => ‹K i = key›⟩
    · obtain ⟨h1, h2, h3⟩ := fIx_le n (i + 1)
      exact ⟨by omega, by omega, fun h => h3 (by omega)⟩
theorem p_ask (d : Nat) (hL : LW M T R c) (H : PLQ M p z ru ro sz q) (hv : PV ro sz q) (hz : ∀ k, k < 26 → 1 ≤ sz k ∧ sz k ≤ 8) (hk : key < 26) (hro : ro ≤ 20) (hru : ru < 10) (hh : q.2.2.2.2 < 1000) : ∃ M', f_X12_ask (d + 2) M p (nI key) = some (.inl none, M') ∧ LW M' T R c ∧ FX (PRg p) 0 0 M M' ∧ PLQ M' p z ru ro sz (pAskQ ru ro sz key q) ∧ PV ro sz (pAskQ ru ro sz key q) := by
  have z1 : ∀ k, k < 26 → 1 ≤ sz k := fun k hk => (hz k hk).1
  have hm := PV_m z1 hv
  have hu := hv.2.1
  have zk := (hz key hk).2
  have H' : PLN M p z ru ro sz q.1 q.2.2.2.1 q.2.2.2.2 q.1 q.1 q.2.1 q.2.2.1 := H
  have vs : mI M z (lt_n (nI key)) = nI (sz key) := H'.ss.rd hk
  have cm := cMk_le (q := q)
  have main : ∀ (n i : Nat), i + n = q.1 → fIx q.2.1 key q.1 0 = fIx q.2.1 key n i → ∃ M', f_X12_ask_2 (d + 2) M p (nI key) (nI i) = some (.inl none, M') ∧ LW M' T R c ∧ FX (PRg p) 0 0 M M' ∧ PLQ M' p z ru ro sz (pAskQ ru ro sz key q) ∧ PV ro sz (pAskQ ru ro sz key q) := by
    intro n
    induction n with
    | zero =>
      intro i hi he
      have e0 : fIx q.2.1 key q.1 0 = q.1 := by rw [he]; show i = q.1; omega
      rw [e_X12_ask_2, H'.ck, H'.ff.2.2.1, if_neg (by rw [nI_ltP (by omega) (by omega)]; omega), H'.ck, if_neg (by rw [nI_ltP (by omega) (by omega)]; omega), H'.ck, H'.p2, x_rf, H'.ss.ar hk, H'.ck, H'.ff.2.1, vs]
      unfold pAskQ
      dsimp only
      rw [e0, if_neg (Nat.lt_irrefl _)]
      by_cases f : ro < sz key
      · rw [if_pos (by rw [nI_ltP (by omega) (by omega)]; exact f), if_pos f]
        exact ⟨M, rfl, hL, FX.rf, H, hv⟩
      · rw [if_neg (by rw [nI_ltP (by omega) (by omega)]; exact f), if_neg f]
        exact ask_84 d hz hk hro hru (by omega) 60 q M hL H hv (by omega)
    | succ n ih =>
      intro i hi he
      have vk : mI M (p + 1) (lt_n (nI i)) = nI (q.2.1 i) := H'.rk (by omega) (by omega)
      have ki := hv.2.2 i (by omega)
      have l1 : nI i < nI q.1 := by rw [nI_ltP (by omega) (by omega)]; omega
      rw [e_X12_ask_2, H'.ck, H'.ff.2.2.1, if_pos l1, H'.ck, H'.p3, x_rf, H'.ak (by omega), vk]
      rw [fIx_s] at he
      by_cases w : q.2.1 i = key
      · rw [if_pos w] at he
        rw [if_pos (by rw [w]), H'.ck, if_pos l1, H'.ck, H'.ck, H'.ff.2.2.2.2, nI_p1, x_m]
        have pA : pAskQ ru ro sz key q = (if 0 < ru then ((q.1, q.2.1, u1 q.2.2.1 i true, q.2.2.2.1, q.2.2.2.2 + 1) : PQ) else pInQ sz key (pOutQ sz (q.1, q.2.1, u1 q.2.2.1 i true, q.2.2.2.1, q.2.2.2.2 + 1) i)) := by
          unfold pAskQ
          dsimp only
          have he' : fIx q.2.1 key q.1 0 = i := he
          rw [he', if_pos (by omega)]
        rw [pA]
        have H1 : PLN (wI M p 7 (nI (q.2.2.2.2 + 1))) p z ru ro sz q.1 q.2.2.2.1 (q.2.2.2.2 + 1) q.1 q.1 q.2.1 q.2.2.1 := H'.wf (Or.inr (Or.inr ⟨rfl, rfl, rfl, rfl⟩))
        have L1 : LW (wI M p 7 (nI (q.2.2.2.2 + 1))) T R c := LW_wI hL H'.oo.1
        have F1 : FX (PRg p) 0 0 M (wI M p 7 (nI (q.2.2.2.2 + 1))) := FX_wI (P := PRg p) (prg (by omega))
        generalize wI M p 7 (nI (q.2.2.2.2 + 1)) = M1 at H1 L1 F1 ⊢
        have e1 : bI true = 1 := rfl
        have H2 : PLN (wI M1 (p + 2) i (bI true)) p z ru ro sz q.1 q.2.2.2.1 (q.2.2.2.2 + 1) q.1 q.1 q.2.1 (u1 q.2.2.1 i true) := H1.wb (fun j hj => by
          by_cases w : j = i
          · exact Or.inl ⟨w, by rw [w, u1e]⟩
          · exact Or.inr ⟨w, hj, u1_n w⟩)
        have L2 : LW (wI M1 (p + 2) i (bI true)) T R c := LW_wI L1 H1.oo.2.2
        have F2 : FX (PRg p) 0 0 M (wI M1 (p + 2) i (bI true)) := F1.tr (FX_wI (P := PRg p) (prg (by omega)))
        rw [H1.ck, H1.p4, x_rf, H1.ab (by omega), ← e1, b1_I, lt_iN (by omega), x_m]
        generalize wI M1 (p + 2) i (bI true) = M2 at H2 L2 F2 ⊢
        have hv2 : PV ro sz ((q.1, q.2.1, u1 q.2.2.1 i true, q.2.2.2.1, q.2.2.2.2 + 1) : PQ) := hv
        rw [H2.ck, H2.ff.1]
        by_cases r0 : 0 < ru
        · rw [if_pos r0, if_pos (show (0 : Int32) < nI ru from (nI_ltP (j := 0) (k := ru) (by omega) (by omega)).mpr r0)]
          exact ⟨M2, rfl, L2, F2, H2, hv2⟩
        · rw [if_neg r0, if_neg (show ¬ (0 : Int32) < nI ru from fun z => r0 ((nI_ltP (j := 0) (k := ru) (by omega) (by omega)).mp z)), H2.ck]
          obtain ⟨M3, o1, o2, o3, o4⟩ := p_out (q := (q.1, q.2.1, u1 q.2.2.1 i true, q.2.2.2.1, q.2.2.2.2 + 1)) (pl := i) (d := d) L2 H2 hv2 hro (show q.1 ≤ 26 by omega) (show i < q.1 by omega) z1
          obtain ⟨w1, w2, w3⟩ := PV_out (pl := i) hv2 (show i < q.1 by omega)
          obtain ⟨M4, i1, i2, i3, i4⟩ := p_in (key := key) (d := d) o2 o4 (show q.1 - 1 < 26 by omega) hk
          have w2' : sz key ≤ q.2.2.2.1 := by
            have : sz (q.2.1 i) ≤ q.2.2.2.1 := w2
            rw [w] at this; exact this
          have y := PV_in w1 hk (show q.2.2.2.1 - sz (q.2.1 i) + sz key ≤ ro by rw [w]; omega)
          rw [o1, lt_bv_r, PLN.ck (show PLN M3 p z ru ro sz _ _ _ _ _ _ _ from o4), i1, lt_bv_r]
          exact ⟨M4, rfl, i2, (F2.tr o3).tr i3, i4, y.1⟩
      · rw [if_neg w] at he
        rw [if_neg (show ¬ nI (q.2.1 i) = nI key from fun z => w ((lt_iE (by omega) (by omega)).mp z)), nI_p1]
        exact ih (i + 1) (by omega) he
  obtain ⟨M', g⟩ := main q.1 0 (by omega) rfl
  refine ⟨M', ?_, g.2⟩
  rw [e_X12_ask]
  exact g.1
/-- a new one -/
theorem p_new (d : Nat) (hL : LW M T R c) (hA : AR M z 26 (fun k => nI (sz k))) : ∃ M', (lt_m (aNew M 28 0 8) fun M2 => f_X12_init (d + 1) M2 (mN M) (nI ru) (nI ro) z) = some (.inl none, M') ∧ LW M' T R c ∧ FX (fun _ => False) 3 60 M M' ∧ PLQ M' (mN M) z ru ro sz (0, fun _ => 0, fun _ => false, 0, 0) ∧ mN M' = mN M + 3 := by
  have hn := t_n hL.1.1
  have L1 : LW (aNew M 28 0 8) T R c := LW_new hL
  have F1 : FX (fun _ => False) 1 8 M (aNew M 28 0 8) := FX_new (by omega)
  have k1 : mK (aNew M 28 0 8) (mN M) = 28 := if_pos rfl
  have i1 : ∀ j, mI (aNew M 28 0 8) (mN M) j = 0 := fun j => congrFun (if_pos rfl : (if mN M = mN M then (fun _ => (0 : Int32)) else mI M (mN M)) = fun _ => 0) j
  have n1 : mN (aNew M 28 0 8) = mN M + 1 := rfl
  have o1 : ¬ OWN (aNew M 28 0 8) (mN M) := nOWN hL
  have A1 := hA.kp F1 (fun q => q)
  rw [x_m, e_X12_init, ln_26, ltn_26, x_m, n1]
  generalize aNew M 28 0 8 = Ma at L1 F1 k1 i1 n1 o1 A1 ⊢
  have L2 : LW (aNew Ma 1 26 26) T R c := LW_new L1
  have F2 : FX (fun _ => False) 2 34 M (aNew Ma 1 26 26) := F1.tr (FX_new (by omega))
  have f2 : FX (fun _ => False) 1 26 Ma (aNew Ma 1 26 26) := FX_new (by omega)
  have s2 : SAM Ma (aNew Ma 1 26 26) (mN M) := f2.2.2.1 (mN M) (by omega) o1 (by omega) (fun q => q)
  have a2 : AR (aNew Ma 1 26 26) (mN M + 1) 26 (fun _ => 0) := by rw [← n1]; exact AR_new L1 (by omega)
  have o2 : ¬ OWN (aNew Ma 1 26 26) (mN M) := fun q => o1 (f2.2.2.2.1 _ (by omega) q)
  have A2 := A1.kp f2 (fun q => q)
  have n2 : mN (aNew Ma 1 26 26) = mN M + 2 := by rw [nN_new, n1]
  have k2 : mK (aNew Ma 1 26 26) (mN M) = 28 := s2.2.2.2.1.trans k1
  have i2 : ∀ j, mI (aNew Ma 1 26 26) (mN M) j = 0 := fun j => by rw [s2.1]; exact i1 j
  generalize aNew Ma 1 26 26 = Mb at L2 F2 s2 a2 o2 A2 n2 k2 i2 ⊢
  -- a reference written
  have wp : ∀ {Mq : LM} {jj : Nat} {vv : Option Nat}, LW Mq T R c → ¬ OWN Mq (mN M) → LW (wP Mq (mN M) jj vv) T R c ∧ FX (fun a => a = mN M) 0 0 Mq (wP Mq (mN M) jj vv) := by
    intro Mq jj vv hq ho
    have hnq := t_n hq.1.1
    have p103 : mP (wP Mq (mN M) jj vv) 103 = mP Mq 103 := funext fun i => if_neg (fun w => by omega)
    refine ⟨⟨SO_keep hq.1 (Nat.le_refl _) (fun a _ hA => ⟨rfl, rfl, funext fun i => if_neg (fun w => ho (by rw [← w.1]; exact hA)), rfl, rfl⟩), hq.2⟩, Nat.le_refl _, fun _ _ _ => ⟨rfl, rfl⟩, fun a _ _ _ h2 => ⟨rfl, rfl, funext fun i => if_neg (fun w => h2 w.1), rfl, rfl⟩, fun a _ q => ?_, ?_, ?_⟩
    · unfold OWN at q ⊢
      rw [p103] at q
      exact q
    · rw [p103]; exact Nat.le_refl _
    · rw [p103]; exact Nat.le_refl _
  obtain ⟨L3, F3⟩ := wp (jj := 3) (vv := some (mN M + 1)) L2 o2
  have o3 : ¬ OWN (wP Mb (mN M) 3 (some (mN M + 1))) (mN M) := fun q => o2 (F3.2.2.2.1 _ (by omega) q)
  have a3 := a2.kp F3 (by omega)
  have A3 := A2.kp F3 (by have := hA.2.1; omega)
  have p33 : mP (wP Mb (mN M) 3 (some (mN M + 1))) (mN M) 3 = some (mN M + 1) := if_pos ⟨rfl, rfl⟩
  have k3 : mK (wP Mb (mN M) 3 (some (mN M + 1))) (mN M) = 28 := k2
  have i3 : ∀ j, mI (wP Mb (mN M) 3 (some (mN M + 1))) (mN M) j = 0 := i2
  have n3 : mN (wP Mb (mN M) 3 (some (mN M + 1))) = mN M + 2 := n2
  have F3' : FX (fun a => a = mN M) 2 34 M (wP Mb (mN M) 3 (some (mN M + 1))) := (F2.mo (fun _ _ q => q.elim) (Nat.le_refl _) (Nat.le_refl _)).tr F3
  rw [lt_ck_t k2, x_m, ln_26, x_m, n3]
  generalize wP Mb (mN M) 3 (some (mN M + 1)) = Mc at L3 F3' o3 a3 A3 p33 k3 i3 n3 ⊢
  have L4 : LW (aNew Mc 3 26 26) T R c := LW_new L3
  have f4 : FX (fun _ => False) 1 26 Mc (aNew Mc 3 26 26) := FX_new (by have := t_n L3.1.1; omega)
  have s4 : SAM Mc (aNew Mc 3 26 26) (mN M) := f4.2.2.1 (mN M) (by omega) o3 (by omega) (fun q => q)
  have o4 : ¬ OWN (aNew Mc 3 26 26) (mN M) := fun q => o3 (f4.2.2.2.1 _ (by omega) q)
  have a4 := a3.kp f4 (fun q => q)
  have A4 := A3.kp f4 (fun q => q)
  have b4 : mK (aNew Mc 3 26 26) (mN M + 2) = 3 ∧ mZ (aNew Mc 3 26 26) (mN M + 2) = 26 := by rw [← n3]; exact ⟨if_pos rfl, if_pos rfl⟩
  have ob4 : ¬ OWN (aNew Mc 3 26 26) (mN M + 2) := by rw [← n3]; exact nOWN L3
  have n4 : mN (aNew Mc 3 26 26) = mN M + 3 := by rw [nN_new, n3]
  have p43 : mP (aNew Mc 3 26 26) (mN M) 3 = some (mN M + 1) := by rw [s4.2.2.1]; exact p33
  have k4 : mK (aNew Mc 3 26 26) (mN M) = 28 := s4.2.2.2.1.trans k3
  have i4 : ∀ j, mI (aNew Mc 3 26 26) (mN M) j = 0 := fun j => by rw [s4.1]; exact i3 j
  have F4 : FX (fun a => a = mN M) 3 60 M (aNew Mc 3 26 26) := F3'.tr (f4.mo (fun _ _ q => q.elim) (Nat.le_refl _) (Nat.le_refl _))
  generalize aNew Mc 3 26 26 = Md at L4 s4 o4 a4 A4 b4 ob4 n4 p43 k4 i4 F4 ⊢
  obtain ⟨L5, F5⟩ := wp (jj := 4) (vv := some (mN M + 2)) L4 o4
  have o5 : ¬ OWN (wP Md (mN M) 4 (some (mN M + 2))) (mN M) := fun q => o4 (F5.2.2.2.1 _ (by omega) q)
  have ob5 : ¬ OWN (wP Md (mN M) 4 (some (mN M + 2))) (mN M + 2) := fun q => ob4 (F5.2.2.2.1 _ (by omega) q)
  have a5 := a4.kp F5 (by omega)
  have A5 := A4.kp F5 (by have := hA.2.1; omega)
  have p54 : mP (wP Md (mN M) 4 (some (mN M + 2))) (mN M) 4 = some (mN M + 2) := if_pos ⟨rfl, rfl⟩
  have p53 : mP (wP Md (mN M) 4 (some (mN M + 2))) (mN M) 3 = some (mN M + 1) := (if_neg (fun w => by omega)).trans p43
  have k5 : mK (wP Md (mN M) 4 (some (mN M + 2))) (mN M) = 28 := k4
  have i5 : ∀ j, mI (wP Md (mN M) 4 (some (mN M + 2))) (mN M) j = 0 := i4
  have b5 : mK (wP Md (mN M) 4 (some (mN M + 2))) (mN M + 2) = 3 ∧ mZ (wP Md (mN M) 4 (some (mN M + 2))) (mN M + 2) = 26 := b4
  have n5 : mN (wP Md (mN M) 4 (some (mN M + 2))) = mN M + 3 := n4
  rw [lt_ck_t k4, x_m]
  have F5' := F4.tr F5
  generalize wP Md (mN M) 4 (some (mN M + 2)) = Me at L5 F5' o5 ob5 a5 A5 p54 p53 k5 i5 b5 n5 ⊢
  have F6 : FX (fun a => a = mN M) 0 0 Me (wI Me (mN M) 0 (nI ru)) := FX_wI (P := fun a => a = mN M) rfl
  have L6 : LW (wI Me (mN M) 0 (nI ru)) T R c := LW_wI L5 o5
  have o6 : ¬ OWN (wI Me (mN M) 0 (nI ru)) (mN M) := o5
  rw [lt_ck_t k5, x_m, lt_ck_t (show mK (wI Me (mN M) 0 (nI ru)) (mN M) = 28 from k5), x_m]
  have F7 : FX (fun a => a = mN M) 0 0 (wI Me (mN M) 0 (nI ru)) (wI (wI Me (mN M) 0 (nI ru)) (mN M) 1 (nI ro)) := FX_wI (P := fun a => a = mN M) rfl
  have L7 : LW (wI (wI Me (mN M) 0 (nI ru)) (mN M) 1 (nI ro)) T R c := LW_wI L6 o6
  have o7 : ¬ OWN (wI (wI Me (mN M) 0 (nI ru)) (mN M) 1 (nI ro)) (mN M) := o5
  obtain ⟨L8, F8⟩ := wp (jj := 2) (vv := some z) L7 o7
  rw [lt_ck_t (show mK (wI (wI Me (mN M) 0 (nI ru)) (mN M) 1 (nI ro)) (mN M) = 28 from k5), x_m]
  have F9 := ((F5'.tr F6).tr F7).tr F8
  have FF := (F6.tr F7).tr F8
  have a8 := a5.kp FF (by omega)
  have A8 := A5.kp FF (by have := hA.2.1; omega)
  have own : ∀ a, a < mN Me → ¬ OWN Me a → ¬ OWN (wP (wI (wI Me (mN M) 0 (nI ru)) (mN M) 1 (nI ro)) (mN M) 2 (some z)) a := fun a ha ho q => ho (FF.2.2.2.1 a ha q)
  have eI : ∀ j, mI (wP (wI (wI Me (mN M) 0 (nI ru)) (mN M) 1 (nI ro)) (mN M) 2 (some z)) (mN M) j = if j = 1 then nI ro else if j = 0 then nI ru else 0 := fun j => by
    show (if mN M = mN M ∧ j = 1 then nI ro else (if mN M = mN M ∧ j = 0 then nI ru else mI Me (mN M) j)) = _
    by_cases w : j = 1
    · rw [if_pos ⟨rfl, w⟩, if_pos w]
    · rw [if_neg (fun q => w q.2), if_neg w]
      by_cases w0 : j = 0
      · rw [if_pos ⟨rfl, w0⟩, if_pos w0]
      · rw [if_neg (fun q => w0 q.2), if_neg w0]; exact i5 j
  have eP : ∀ j, mP (wP (wI (wI Me (mN M) 0 (nI ru)) (mN M) 1 (nI ro)) (mN M) 2 (some z)) (mN M) j = if j = 2 then some z else mP Me (mN M) j := fun j => by
    show (if mN M = mN M ∧ j = 2 then some z else mP Me (mN M) j) = _
    by_cases w : j = 2
    · rw [if_pos ⟨rfl, w⟩, if_pos w]
    · rw [if_neg (fun q => w q.2), if_neg w]
  have zlt := hA.2.1
  refine ⟨_, rfl, L8, F9.mo (fun a ha q => by omega) (Nat.le_refl _) (Nat.le_refl _), ⟨k5, ?_, ⟨own _ (by omega) o5, a8.own, own _ (by omega) ob5⟩, by omega, ⟨?_, ?_, ?_⟩, ⟨?_, ?_, ?_, ?_, ?_⟩, a8.1, b5, fun j hj => absurd hj (Nat.not_lt_zero _), fun j hj => absurd hj (Nat.not_lt_zero _), A8, zlt⟩, n5⟩
  · show mN M + 2 < mN Me
    omega
  · rw [eP, if_pos rfl]
  · rw [eP, if_neg (by decide)]; exact p53
  · rw [eP, if_neg (by decide)]; exact p54
  · rw [eI, if_neg (by decide), if_pos rfl]
  · rw [eI, if_pos rfl]
  · rw [eI, if_neg (by decide), if_neg (by decide)]; rfl
  · rw [eI, if_neg (by decide), if_neg (by decide)]; rfl
  · rw [eI, if_neg (by decide), if_neg (by decide)]; rfl
end Eb
