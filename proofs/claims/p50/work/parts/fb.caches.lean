/-! THE LAW: areCaches(), whole -/
section Fl
variable {M M' M0 M1 N : LM} {T T' T2 : BT} {R R' : Nat → BT} {j k n x y a o3 o5 zc ky ru c c' s' : Nat} {x2 x4 : Int32} {W z co : Nat → Nat}
theorem as_new (d : Nat) (hz1 : x4 = 0 → z = fun _ => 1) (hky0 : 0 < ky) (hky : ky ≤ 26) (hL : LW M T R c) (hK : KT z co W T) (hA : AR M o3 26 (fun k => nI (z k))) : ∃ M', (lt_ln 6 (lt_m (aNew M 8 (lt_n 6) (lt_n 6)) fun M10 => lt_ck M10 1 27 (lt_bi (f_X11_n (d + 14) M10 1 3) [] fun v12 M11 => if @Eq Int32 v12 0 then (f_L_areCaches_160 (d + 15) M11 2 1 (nI ky) o3 x4 (mN M) 1 0) else (f_L_areCaches_160 (d + 15) M11 2 1 (nI ky) o3 x4 (mN M) 0 0)))) = some (.inl (some (.int 1)), M') ∧ FX TT 19 366 M M' := by
  have hn := t_n hL.1.1
  have hs : ∀ k, k < 26 → 1 ≤ z k ∧ z k ≤ 8 := fun k hk => (hK.2.1 k hk).2.2
  have L1 : LW (aNew M 8 6 6) T R c := LW_new hL
  have F1 : FX TT 1 6 M (aNew M 8 6 6) := FX_new (by omega)
  have A1 : AR (aNew M 8 6 6) o3 26 (fun k => nI (z k)) := hA.kp (P := fun _ => False) (FX_new (M := M) (m := 6) (by omega)) (fun q => q)
  have o1 : ¬ OWN (aNew M 8 6 6) (mN M) := nOWN hL
  have P1 : PC1 (aNew M 8 6 6) (mN M) o3 (fun _ => 0) (fun _ => 0) (fun _ => 0) z 0 := ⟨if_pos rfl, if_pos rfl, Nat.lt_succ_self _, o1, by omega, hA.2.1, A1, fun j hj => absurd hj (Nat.not_lt_zero _)⟩
  rw [ln_6, ltn_6, x_m]
  generalize aNew M 8 6 6 = Ma at L1 F1 A1 o1 P1 ⊢
  have P2 : PC1 (drw Ma) (mN M) o3 (fun _ => 0) (fun _ => 0) (fun _ => 0) z 0 := P1.kp (P := fun _ => False) FX_drw (fun q => q) (fun q => q) (fun _ _ _ _ q => q)
  have C2 : CS0 z co W 0 (drw Ma) T R c := ⟨LW_drw L1, hK, fun j hj => absurd hj (Nat.not_lt_zero _), Nat.zero_le _⟩
  rw [lt_ck_t L1.2, show f_X11_n (d + 14) Ma 1 3 = _ from draw_n (m := 3) (d + 13) L1.2 (by omega) (by omega), lt_bi_r]
  by_cases q : nI (drv Ma 3) = 0
  · rw [if_pos q]
    obtain ⟨M1, T1, R1, c1, pp, rr, ro, e1, e2, e3, e4, e5⟩ := cp_160 (x2 := nI ky) (x4 := x4) d 6 0 (drw Ma) T R c _ _ _ rfl C2 P2 (fun j hj => absurd hj (Nat.not_lt_zero _))
    obtain ⟨M2, g1, g2⟩ := as_tail (o3 := o3) (x4 := x4) d hs hz1 hky0 hky e2.1 e2.2.2.2 e2.2.1 e2.2.2.1 (cp_BTH e3 e4)
    exact ⟨M2, e1.trans g1, ((F1.tr FX_drw).tr e5).tr g2⟩
  · rw [if_neg q]
    obtain ⟨M1, T1, R1, c1, e1, e2, e3⟩ := cs_160 (x2 := nI ky) (x4 := x4) (o3 := o3) (o5 := mN M) d 6 0 (drw Ma) T R c rfl C2
    obtain ⟨M2, g1, g2⟩ := as_tail (o3 := o3) (o5 := mN M) (zc := 0) (pp := fun _ => 0) (rr := fun _ => 0) (ro := fun _ => 0) (x6 := 0) (x4 := x4) d hs hz1 hky0 hky e2.1 e2.2.2.2 e2.2.1 e2.2.2.1 (Or.inl rfl)
    exact ⟨M2, e1.trans g1, (((F1.tr FX_drw).tr e3).tr g2).mo (fun _ _ q => q) (by omega) (by omega)⟩
theorem l_areCaches (d : Nat) (hL : LW M T R c) (hK : KT (fun _ => 1) (fun _ => 1) (fun _ => 0) T) : ∃ M', f_L_areCaches (d + 15) M 2 1 = some (.inl (some (.int 1)), M') ∧ FX TT 20 392 M M' := by
  have w10 := drv_lt (M := M) (m := 10) (by omega)
  have L1 := LW_drw hL
  have hn := t_n L1.1.1
  have L2 : LW (aNew (drw M) 1 26 26) T R c := LW_new L1
  have A2 : AR (aNew (drw M) 1 26 26) (mN (drw M)) 26 (fun _ => 0) := AR_new L1 (by omega)
  have F2 : FX TT 1 26 M (aNew (drw M) 1 26 26) := (FX_drw.tr (FX_new (by omega))).mo (fun _ _ q => q) (by omega) (by omega)
  rw [e_L_areCaches, lt_ck_t hL.2, show f_X11_n (d + 14) M 1 10 = _ from draw_n (m := 10) (d + 13) hL.2 (by omega) (by omega), lt_bi_r, ln_26, ltn_26, x_m, show (3 : Int32) + nI (drv M 10) = nI (3 + drv M 10) from lt_iA (j := 3)]
  generalize aNew (drw M) 1 26 26 = Ma at L2 A2 F2 ⊢
  generalize mN (drw M) = o3 at A2 ⊢
  obtain ⟨M3, e1, L3, A3, F3⟩ := st_17 (x2 := nI (3 + drv M 10)) d L2 26 0 Ma _ rfl L2 A2 (fun j hj => absurd hj (Nat.not_lt_zero _))
  have L4 := LW_drw L3
  have A4 : AR (drw M3) o3 26 (fun _ => nI 1) := A3.kp (P := fun _ => False) FX_drw (fun q => q)
  have F4 : FX TT 1 26 M (drw M3) := (F2.tr F3).tr FX_drw
  rw [show f_L_areCaches_17 (d + 15) Ma 2 1 (nI (3 + drv M 10)) o3 0 = _ from e1, e_L_areCaches_17, if_neg (by decide), lt_ck_t L3.2, show f_X11_n (d + 14) M3 1 2 = _ from draw_n (m := 2) (d + 13) L3.2 (by omega) (by omega), lt_bi_r]
  by_cases q : nI (drv M3 2) = 0
  · rw [if_pos q]
    obtain ⟨M5, T5, R5, c5, z, co, W, g1, g2, g3, g4, g5⟩ := st_53 (ky := 3 + drv M 10) d (by omega) (3 + drv M 10) 0 (drw M3) T R c _ _ _ (by omega) L4 hK A4
    obtain ⟨M6, h1, h2⟩ := as_new (x4 := 1) (ky := 3 + drv M 10) d (fun q => absurd q (by decide)) (by omega) (by omega) g2 g3 g4
    refine ⟨M6, ?_, (F4.tr g5).tr h2⟩
    rw [show f_L_areCaches_53 (d + 15) (drw M3) 2 1 (nI (3 + drv M 10)) o3 1 0 = _ from g1, e_L_areCaches_53, if_neg (show ¬ nI (3 + drv M 10) < nI (3 + drv M 10) by rw [nI_ltP (by omega) (by omega)]; omega)]
    exact h1
  · rw [if_neg q]
    obtain ⟨M6, h1, h2⟩ := as_new (x4 := 0) (ky := 3 + drv M 10) d (fun _ => rfl) (by omega) (by omega) L4 hK A4
    refine ⟨M6, ?_, F4.tr h2⟩
    rw [e_L_areCaches_53, if_pos (show (0 : Int32) < nI (3 + drv M 10) from (nI_ltP (j := 0) (k := 3 + drv M 10) (by omega) (by omega)).mpr (by omega)), if_pos rfl]
    exact h1
end Fl
