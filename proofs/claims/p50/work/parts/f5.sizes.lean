/-! THE LAW: areCaches(): all keys get what they have -/
section Ff
variable {M M' M0 M1 N : LM} {T T' T2 : BT} {R R' : Nat → BT} {i j k m n x y e s t p a o3 key ky sz cs ow c : Nat} {v x6 x2 x4 : Int32} {W z co : Nat → Nat}
theorem key_go (d : Nat) {K : LM → Option (LO × LM)} (hL : LW M T R c) (hK : KT z co W T) (hA : AR M o3 26 (fun k => nI (z k))) (hk : k < 26) (hs2 : sz ≤ 7) : ∃ M' T' R' c' z' co' W', (lt_ar M o3 1 (nI k) (lt_m (wI M o3 (lt_n (nI k)) (1 + nI sz)) fun M34 => lt_ar M34 o3 1 (nI k) (lt_ck M34 1 27 (lt_bi (f_X11_n (d + 14) M34 1 4) [] fun v36 M35 => if @Eq Int32 v36 0 then (lt_ck M35 1 27 (lt_bi (f_X11_n (d + 14) M35 1 1001) [] fun v44 M43 => lt_ck M43 1 27 (lt_bi (f_X11_n (d + 14) M43 1 4) [] fun v46 M45 => lt_ck M45 2 26 (lt_bi (f_X10_setKey (d + 14) M45 2 (nI k) (mI M34 o3 (lt_n (nI k))) v44 v46) [] fun v48 M47 => K M47)))) else (lt_ck M35 1 27 (lt_bi (f_X11_n (d + 14) M35 1 5) [] fun v38 M37 => lt_ck M37 1 27 (lt_bi (f_X11_n (d + 14) M37 1 4) [] fun v40 M39 => lt_ck M39 2 26 (lt_bi (f_X10_setKey (d + 14) M39 2 (nI k) (mI M34 o3 (lt_n (nI k))) (1 + v38) v40) [] fun v42 M41 => K M41)))))))) = K M' ∧ LW M' T' R' c' ∧ KT z' co' W' T' ∧ AR M' o3 26 (fun k => nI (z' k)) ∧ FX TT 0 0 M M' := by
  have one : ∀ a : Nat, (1 : Int32) + nI a = nI (1 + a) := fun a => lt_iA (j := 1)
  have A1 : AR (wI M o3 k (nI (1 + sz))) o3 26 (fun j => nI (u1 z k (1 + sz) j)) := (hA.wr (i := k) (x := nI (1 + sz))).cg (fun j hj => by
    by_cases w : j = k
    · rw [if_pos w, w, u1e]
    · rw [if_neg w, u1_n w])
  have L1 : LW (wI M o3 k (nI (1 + sz))) T R c := LW_wI hL hA.own
  have F1 : FX TT 0 0 M (wI M o3 k (nI (1 + sz))) := FX_wI (P := TT) trivial
  have rd : mI (wI M o3 k (nI (1 + sz))) o3 k = nI (1 + sz) := by
    rw [A1.2.2.2.2 k hk]
    show nI (u1 z k (1 + sz) k) = _
    rw [u1e]
  rw [hA.ar hk, x_m, lt_iN (by omega), one]
  generalize wI M o3 k (nI (1 + sz)) = M1 at A1 L1 F1 rd ⊢
  have en : ∀ {M0 : LM} (mm : Nat), LW M0 T R c → 0 < mm → mm < 10000 → f_X11_n (d + 14) M0 1 (nI mm) = some (.inl (some (.int (nI (drv M0 mm)))), drw M0) := fun {M0} mm h h1 h2 => draw_n (d + 13) h.2 h1 (by omega)
  have L2 := LW_drw L1
  have L3 := LW_drw L2
  have L4 := LW_drw L3
  have A4 : AR (drw (drw (drw M1))) o3 26 (fun j => nI (u1 z k (1 + sz) j)) := ((A1.kp (FX_drw (P := fun _ => False)) (fun q => q)).kp (FX_drw (P := fun _ => False)) (fun q => q)).kp (FX_drw (P := fun _ => False)) (fun q => q)
  have F4 : FX TT 0 0 M (drw (drw (drw M1))) := ((F1.tr FX_drw).tr FX_drw).tr FX_drw
  have w4 := drv_lt (M := drw (drw M1)) (m := 4) (by omega)
  -- the key is told
  have tell : ∀ cs, cs ≤ 1000 → ∃ M' T' R' c' z' co' W', (lt_ck (drw (drw (drw M1))) 2 26 (lt_bi (f_X10_setKey (d + 14) (drw (drw (drw M1))) 2 (nI k) (nI (1 + sz)) (nI cs) (nI (drv (drw (drw M1)) 4))) [] fun v48 M47 => K M47)) = K M' ∧ LW M' T' R' c' ∧ KT z' co' W' T' ∧ AR M' o3 26 (fun k => nI (z' k)) ∧ FX TT 0 0 M M' := by
    intro cs hcs
    obtain ⟨T2, M', xx, e0, e1, e2, e3⟩ := q_setKey (ky := k) (sz := 1 + sz) (co := cs) (ow := drv (drw (drw M1)) 4) (d + 2) L4.1 hk (by omega) (by omega) hcs (by omega) (fun i hi => by
      obtain ⟨h5, -, -, -, -, h1, -, h2, -⟩ := hK.2.2.2 i hi
      exact ⟨h5 5 (by omega) (by omega), h1, h2⟩)
    have e1' : f_X10_setKey (d + 14) (drw (drw (drw M1))) 2 (nI k) (nI (1 + sz)) (nI cs) (nI (drv (drw (drw M1)) 4)) = _ := e1
    rw [t_ck L4.1.1, e1', lt_bi_r]
    exact ⟨M', _, _, _, u1 z k (1 + sz), u1 co k cs, u1 W k (drv (drw (drw M1)) 4), rfl, LW_FR L4 e3 e2, KT_key (KT_cg e0 hK) hk (by omega) (by omega) (by omega), A4.kp (P := fun _ => False) (FX.of e3) (fun q => q), F4.tr (FX.of e3)⟩
  rw [A1.ar hk, lt_ck_t L1.2, show f_X11_n (d + 14) M1 1 4 = _ from en 4 L1 (by omega) (by omega), lt_bi_r]
  by_cases q : nI (drv M1 4) = 0
  · have w := drv_lt (M := drw M1) (m := 1001) (by omega)
    rw [if_pos q, lt_ck_t L2.2, show f_X11_n (d + 14) (drw M1) 1 1001 = _ from en 1001 L2 (by omega) (by omega), lt_bi_r, lt_ck_t L3.2, show f_X11_n (d + 14) (drw (drw M1)) 1 4 = _ from en 4 L3 (by omega) (by omega), lt_bi_r, rd]
    exact tell _ (by omega)
  · have w := drv_lt (M := drw M1) (m := 5) (by omega)
    rw [if_neg q, lt_ck_t L2.2, show f_X11_n (d + 14) (drw M1) 1 5 = _ from en 5 L2 (by omega) (by omega), lt_bi_r, lt_ck_t L3.2, show f_X11_n (d + 14) (drw (drw M1)) 1 4 = _ from en 4 L3 (by omega) (by omega), lt_bi_r, rd, one]
    exact tell _ (by omega)
theorem st_53 (d : Nat) (hky : ky ≤ 26) : ∀ (m k : Nat) (M : LM) (T : BT) (R : Nat → BT) (c : Nat) (z co W : Nat → Nat), k + m = ky → LW M T R c → KT z co W T → AR M o3 26 (fun k => nI (z k)) → ∃ M' T' R' c' z' co' W', f_L_areCaches_53 (d + 15) M 2 1 (nI ky) o3 1 (nI k) = f_L_areCaches_53 (d + 15) M' 2 1 (nI ky) o3 1 (nI ky) ∧ LW M' T' R' c' ∧ KT z' co' W' T' ∧ AR M' o3 26 (fun k => nI (z' k)) ∧ FX TT 0 0 M M'
  | 0, k, M, T, R, c, z, co, W, hk, hL, hK, hA => ⟨M, T, R, c, z, co, W, by rw [show k = ky by omega], hL, hK, hA, FX.rf⟩
  | m + 1, k, M, T, R, c, z, co, W, hk, hL, hK, hA => by
    have lk : nI k < nI ky := by rw [nI_ltP (by omega) (by omega)]; omega
    have L1 := LW_drw hL
    have L2 := LW_drw L1
    have A2 : AR (drw (drw M)) o3 26 (fun k => nI (z k)) := (hA.kp (FX_drw (P := fun _ => False)) (fun q => q)).kp (FX_drw (P := fun _ => False)) (fun q => q)
    have F2 : FX TT 0 0 M (drw (drw M)) := FX_drw.tr FX_drw
    have en : ∀ {M0 : LM} (mm : Nat), LW M0 T R c → 0 < mm → mm < 10000 → f_X11_n (d + 14) M0 1 (nI mm) = some (.inl (some (.int (nI (drv M0 mm)))), drw M0) := fun {M0} mm h h1 h2 => draw_n (d + 13) h.2 h1 (by omega)
    have go : ∀ sz, sz ≤ 7 → ∃ M' T' R' c' z' co' W', (lt_ar (drw (drw M)) o3 1 (nI k) (lt_m (wI (drw (drw M)) o3 (lt_n (nI k)) (1 + nI sz)) fun M34 => lt_ar M34 o3 1 (nI k) (lt_ck M34 1 27 (lt_bi (f_X11_n (d + 14) M34 1 4) [] fun v36 M35 => if @Eq Int32 v36 0 then (lt_ck M35 1 27 (lt_bi (f_X11_n (d + 14) M35 1 1001) [] fun v44 M43 => lt_ck M43 1 27 (lt_bi (f_X11_n (d + 14) M43 1 4) [] fun v46 M45 => lt_ck M45 2 26 (lt_bi (f_X10_setKey (d + 14) M45 2 (nI k) (mI M34 o3 (lt_n (nI k))) v44 v46) [] fun v48 M47 => f_L_areCaches_53 (d + 15) M47 2 1 (nI ky) o3 1 (nI k + 1))))) else (lt_ck M35 1 27 (lt_bi (f_X11_n (d + 14) M35 1 5) [] fun v38 M37 => lt_ck M37 1 27 (lt_bi (f_X11_n (d + 14) M37 1 4) [] fun v40 M39 => lt_ck M39 2 26 (lt_bi (f_X10_setKey (d + 14) M39 2 (nI k) (mI M34 o3 (lt_n (nI k))) (1 + v38) v40) [] fun v42 M41 => f_L_areCaches_53 (d + 15) M41 2 1 (nI ky) o3 1 (nI k + 1))))))))) = f_L_areCaches_53 (d + 15) M' 2 1 (nI ky) o3 1 (nI ky) ∧ LW M' T' R' c' ∧ KT z' co' W' T' ∧ AR M' o3 26 (fun k => nI (z' k)) ∧ FX TT 0 0 M M' := by
      intro sz hsz
      obtain ⟨M1, T1, R1, c1, z1, co1, W1, e1, e2, e3, e4, e5⟩ := key_go (K := fun M => f_L_areCaches_53 (d + 15) M 2 1 (nI ky) o3 1 (nI k + 1)) d L2 hK A2 (show k < 26 by omega) hsz
      obtain ⟨M', T', R', c', z', co', W', g1, g2, g3, g4, g5⟩ := st_53 d hky m (k + 1) M1 T1 R1 c1 z1 co1 W1 (by omega) e2 e3 e4
      refine ⟨M', T', R', c', z', co', W', e1.trans ?_, g2, g3, g4, (F2.tr e5).tr g5⟩
      show f_L_areCaches_53 (d + 15) M1 2 1 (nI ky) o3 1 (nI k + 1) = _
      rw [nI_p1]
      exact g1
    rw [e_L_areCaches_53, if_pos lk, if_neg (by decide), lt_ck_t hL.2, show f_X11_n (d + 14) M 1 4 = _ from en 4 hL (by omega) (by omega), lt_bi_r]
    by_cases q : nI (drv M 4) = 0
    · have w := drv_lt (M := drw M) (m := 8) (by omega)
      rw [if_pos q, lt_ck_t L1.2, show f_X11_n (d + 14) (drw M) 1 8 = _ from en 8 L1 (by omega) (by omega), lt_bi_r]
      exact go _ (by omega)
    · have w := drv_lt (M := drw M) (m := 3) (by omega)
      rw [if_neg q, lt_ck_t L1.2, show f_X11_n (d + 14) (drw M) 1 3 = _ from en 3 L1 (by omega) (by omega), lt_bi_r]
      exact go _ (by omega)
end Ff
