/-! THE LAW: areCaches(): from six caches set up to its end -/
section Fi
variable {M : LM} {T : BT} {R : Nat → BT} {c o3 o5 zc ky : Nat} {x6 x4 : Int32} {W z co pp rr ro : Nat → Nat}
theorem as_tail (d : Nat) (hs : ∀ k, k < 26 → 1 ≤ z k ∧ z k ≤ 8) (hz1 : x4 = 0 → z = fun _ => 1) (hky0 : 0 < ky) (hky : ky ≤ 26) (hL : LW M T R c) (hc : 6 ≤ c) (hK : KT z co W T) (hI : ∀ i, i < 6 → SI z co (T.2 i)) (hB : BTH x6 M T o5 zc pp rr ro z (fun _ => 0) 0) : ∃ M', f_L_areCaches_160 (d + 15) M 2 1 (nI ky) o3 x4 o5 x6 6 = some (.inl (some (.int 1)), M') ∧ FX TT 0 0 M M' := by
  have c6 : c = 6 := by have := SO_c hL.1; omega
  rw [c6] at hL
  have w := drv_lt (M := M) (m := 60) (by omega)
  have A : ACS x6 z co W (fun _ => 0) 0 0 0 (drw M) T R o5 zc pp rr ro := ⟨LW_drw hL, AT_start hK hI, hB.dr, Nat.le_refl _⟩
  obtain ⟨M', T', R', kf', n', wr', tm', e1, e2, e3, e4⟩ := go_391 (x4 := x4) (many := 10 + drv M 60) (d + 1) hs hky0 hky (by omega) (10 + drv M 60) 0 (drw M) T R (fun _ => 0) 0 0 0 0 (by omega) (by omega) (by omega) hky0 A
  obtain ⟨M2, g1, g2⟩ := end_627 (x4 := x4) d hky0 hky hz1 (fun k hk => (hs k hk).1) (by omega) e3
  refine ⟨M2, ?_, (FX_drw.tr e4).tr g2⟩
  rw [e_L_areCaches_160, if_neg (by decide), lt_ck_t hL.2, show f_X11_n (d + 14) M 1 60 = _ from draw_n (m := 60) (d + 13) hL.2 (by omega) (by omega), lt_bi_r, show (10 : Int32) + nI (drv M 60) = nI (10 + drv M 60) from lt_iA (j := 10)]
  exact e1.trans g1
end Fi
