/-! INSTRUCTIONS that touch the memory (laid by wip/p50/gen19.py) -/
section Op2
variable {l : Launch} {d m pc nx tg : Nat} {cn : Int32} {fl : Bool} {z : LO × LM} {ls st : List Value} {M : LM} {K : lt_KT (LO × LM)}
theorem o_getfield {idx : Nat} (hD : lt_D m pc nx tg cn (.getfield idx)) (hK : lt_HK l d m z K) (h : lt_gf (lt_inf m).1 nx idx ls st M K = some z) : lt_U l d m z pc ls st M := by
  obtain ⟨hm, hd, hn, hc⟩ := hD
  have hn : nx = pc + 3 := hn
  subst hn
  unfold lt_gf at h
  rcases hf : lt_find (lt_fld (lt_inf m).1) idx with _ | ⟨ci, k, ft, fin⟩
  · rw [hf] at h
    dsimp only at h
    rcases hf2 : lt_find (lt_fln (lt_inf m).1) idx with _ | ⟨ci, k⟩
    · rw [hf2] at h; cases h
    · rw [hf2] at h
      have h : (lt_a1 st fun a r => lt_ck M a (16 + ci) (K (pc + 3) ls (.int (mI M a k) :: r) M)) = some z := h
      obtain ⟨a, r, rfl, h⟩ := lt_a1_inv h
      obtain ⟨hk, h⟩ := lt_if_inv h
      exact (hK _ _ _ _ h).s fun X q hC hV => v_getfieldN hC.1 hd hf2 hk hV
  · rw [hf] at h
    rcases ft with _ | _ | _ | ft
    · have h : (lt_a1 st fun a r => lt_ck M a (16 + ci) (K (pc + 3) ls (.int (mI M a k) :: r) M)) = some z := h
      obtain ⟨a, r, rfl, h⟩ := lt_a1_inv h
      obtain ⟨hk, h⟩ := lt_if_inv h
      exact (hK _ _ _ _ h).s fun X q hC hV => v_getfield (v := .int (mI M a k)) hC.1 hd hf hk (fun hft ad => lt_Fi (by rw [hft]; decide) (by rw [hft]; decide)) (fun _ => trivial) hV
    · have h : (lt_a1 st fun a r => lt_ck M a (16 + ci) (K (pc + 3) ls (.long (mL M a k) :: r) M)) = some z := h
      obtain ⟨a, r, rfl, h⟩ := lt_a1_inv h
      obtain ⟨hk, h⟩ := lt_if_inv h
      exact (hK _ _ _ _ h).s fun X q hC hV => v_getfield (v := .long (mL M a k)) hC.1 hd hf hk (fun hft ad => lt_Fl hft) (fun _ => trivial) hV
    · have h : (lt_a1 st fun a r => lt_ck M a (16 + ci) (lt_rf (mP M a k) fun q => K (pc + 3) ls (.ref q :: r) M)) = some z := h
      obtain ⟨a, r, rfl, h⟩ := lt_a1_inv h
      obtain ⟨hk, h⟩ := lt_if_inv h
      obtain ⟨q0, hp, h⟩ := lt_rf_inv h
      exact (hK _ _ _ _ h).s fun X q hC hV => v_getfield (v := .ref q0) hC.1 hd hf hk (fun hft ad => by rw [lt_Fr hft, hp]; rfl) (fun H => (H a k q0 hp).2) hV
    · have h : (lt_a1 st fun a r => lt_ck M a (16 + ci) (K (pc + 3) ls (.int (mI M a k) :: r) M)) = some z := h
      obtain ⟨a, r, rfl, h⟩ := lt_a1_inv h
      obtain ⟨hk, h⟩ := lt_if_inv h
      exact (hK _ _ _ _ h).s fun X q hC hV => v_getfield (v := .int (mI M a k)) hC.1 hd hf hk (fun hft ad => lt_Fi (by rw [hft]; omega) (by rw [hft]; omega)) (fun _ => trivial) hV
theorem lt_tyo0 {ty : FieldType} (h : lt_tyo 0 ty = true) : ty = .int := by cases ty <;> first | rfl | exact absurd h Bool.false_ne_true
theorem lt_tyo1 {ty : FieldType} (h : lt_tyo 1 ty = true) : ty = .long := by cases ty <;> first | rfl | exact absurd h Bool.false_ne_true
theorem lt_tyo2 {ty : FieldType} {a : Nat} (h : lt_tyo 2 ty = true) : narrow ty (.ref a) = .ref a ∧ fits ty (.ref a) = true := by cases ty <;> first | exact ⟨rfl, rfl⟩ | exact absurd h Bool.false_ne_true
theorem lt_tyo3 {k : Nat} {ty : FieldType} (h : lt_tyo (k + 3) ty = true) : ty = .boolean := by
  rcases k with _ | k
  · cases ty <;> first | rfl | exact absurd h Bool.false_ne_true
  · cases ty <;> exact absurd h Bool.false_ne_true
theorem o_putfield {idx : Nat} (hD : lt_D m pc nx tg cn (.putfield idx)) (hK : lt_HK l d m z K) (h : lt_pf (lt_inf m).1 nx idx (lt_ini m) ls st M K = some z) : lt_U l d m z pc ls st M := by
  obtain ⟨hm, hd, hn, hc⟩ := hD
  have hn : nx = pc + 3 := hn
  subst hn
  unfold lt_pf at h
  rcases hf : lt_find (lt_fld (lt_inf m).1) idx with _ | ⟨ci, k, ft, fin⟩
  · rw [hf] at h; cases h
  · rw [hf] at h
    obtain ⟨hb, h⟩ := lt_bif_inv h
    obtain ⟨a, v, r, rfl, h⟩ := lt_p2_inv h
    obtain ⟨hk, h⟩ := lt_if_inv h
    have hfin : fin = false ∨ (lt_ini m = true ∧ (lt_inf m).1 = ci) := by
      cases fin
      · exact Or.inl rfl
      · have hb' : (lt_ini m && Nat.beq (lt_inf m).1 ci) = true := hb
        rw [Bool.and_eq_true] at hb'
        exact Or.inr ⟨hb'.1, Nat.eq_of_beq_eq_true hb'.2⟩
    rcases ft with _ | _ | _ | ft
    · have h : (lt_vi v fun x => lt_m (wI M a k x) fun M => K (pc + 3) ls r M) = some z := h
      obtain ⟨x, rfl, h⟩ := lt_vi_inv h
      have h : K (pc + 3) ls r (wI M a k x) = some z := h
      refine lt_U.of (M' := wI M a k x) ⟨Nat.le_refl _, Nat.le_refl _, Nat.le_refl _⟩ (fun h9 => h9) (hK _ _ _ _ h) fun _ X q hC hV => ?_
      exact v_putfield (M' := wI M a k x) (v := .int x) hC.1 hd hf hk hfin rfl ⟨rfl, rfl⟩ (fun _ => rfl) (fun _ => rfl) (fun b hb => mI_wI_ne hb) (fun _ _ => rfl) (fun _ _ => rfl) (fun _ => rfl) (fun ad j hj => lt_F_congr (by rw [mI_wI, if_neg (fun e => hj e.2)]) rfl rfl)
        (fun hft ad => by rw [lt_Fi (by rw [hft]; decide) (by rw [hft]; decide), mI_wI, if_pos ⟨rfl, rfl⟩]; rfl) (fun ty ht ad => by rw [lt_tyo0 ht]; exact ⟨rfl, rfl⟩) (fun H _ => H) hV
    · have h : (lt_vl v fun x => lt_m (wL M a k x) fun M => K (pc + 3) ls r M) = some z := h
      obtain ⟨x, rfl, h⟩ := lt_vl_inv h
      have h : K (pc + 3) ls r (wL M a k x) = some z := h
      refine lt_U.of (M' := wL M a k x) ⟨Nat.le_refl _, Nat.le_refl _, Nat.le_refl _⟩ (fun h9 => h9) (hK _ _ _ _ h) fun _ X q hC hV => ?_
      exact v_putfield (M' := wL M a k x) (v := .long x) hC.1 hd hf hk hfin rfl ⟨rfl, rfl⟩ (fun _ => rfl) (fun _ => rfl) (fun _ _ => rfl) (fun b hb => mL_wL_ne hb) (fun _ _ => rfl) (fun _ => rfl) (fun ad j hj => lt_F_congr rfl (by rw [mL_wL, if_neg (fun e => hj e.2)]) rfl)
        (fun hft ad => by rw [lt_Fl hft, mL_wL, if_pos ⟨rfl, rfl⟩]; rfl) (fun ty ht ad => by rw [lt_tyo1 ht]; exact ⟨rfl, rfl⟩) (fun H _ => H) hV
    · have h : (lt_va v fun x => lt_m (wP M a k (some x)) fun M => K (pc + 3) ls r M) = some z := h
      obtain ⟨x, rfl, h⟩ := lt_va_inv h
      have h : K (pc + 3) ls r (wP M a k (some x)) = some z := h
      refine lt_U.of (M' := wP M a k (some x)) ⟨Nat.le_refl _, Nat.le_refl _, Nat.le_refl _⟩ (fun h9 => h9) (hK _ _ _ _ h) fun _ X q hC hV => ?_
      exact v_putfield (M' := wP M a k (some x)) (v := .ref x) hC.1 hd hf hk hfin rfl ⟨rfl, rfl⟩ (fun _ => rfl) (fun _ => rfl) (fun _ _ => rfl) (fun _ _ => rfl) (fun b hb => mP_wP_ne hb) (fun _ => rfl) (fun ad j hj => lt_F_congr rfl rfl (by rw [mP_wP, if_neg (fun e => hj e.2)]))
        (fun hft ad => by rw [lt_Fr hft, mP_wP, if_pos ⟨rfl, rfl⟩]; rfl) (fun ty ht ad => lt_tyo2 ht) (fun H hx i j q hq => by
          have hq' : (if i = a ∧ j = k then some x else mP M i j) = some q := hq
          split at hq'
          · cases hq'; exact ⟨Nat.zero_le _, hx⟩
          · exact H i j q hq') hV
    · have h : (lt_vi v fun x => lt_b1 x (lt_m (wI M a k x) fun M => K (pc + 3) ls r M)) = some z := h
      obtain ⟨x, rfl, h⟩ := lt_vi_inv h
      obtain ⟨hx, h⟩ := lt_if_inv h
      have h : K (pc + 3) ls r (wI M a k x) = some z := h
      refine lt_U.of (M' := wI M a k x) ⟨Nat.le_refl _, Nat.le_refl _, Nat.le_refl _⟩ (fun h9 => h9) (hK _ _ _ _ h) fun _ X q hC hV => ?_
      exact v_putfield (M' := wI M a k x) (v := .int x) hC.1 hd hf hk hfin rfl ⟨rfl, rfl⟩ (fun _ => rfl) (fun _ => rfl) (fun b hb => mI_wI_ne hb) (fun _ _ => rfl) (fun _ _ => rfl) (fun _ => rfl) (fun ad j hj => lt_F_congr (by rw [mI_wI, if_neg (fun e => hj e.2)]) rfl rfl)
        (fun hft ad => by rw [lt_Fi (by rw [hft]; omega) (by rw [hft]; omega), mI_wI, if_pos ⟨rfl, rfl⟩]; rfl) (fun ty ht ad => by rw [lt_tyo3 ht]; rcases hx with rfl | rfl <;> exact ⟨rfl, rfl⟩) (fun H _ => H) hV
theorem o_new {idx : Nat} (hD : lt_D m pc nx tg cn (.new idx)) (hK : lt_HK l d m z K) {c : Nat} (hf : lt_find (lt_cls (lt_inf m).1) idx = some c) (hc12 : c < 13) (h : (lt_m (aNew M (16 + c) 0 (lt_nf c)) fun M' => K nx ls (.ref (mN M) :: st) M') = some z) : lt_U l d m z pc ls st M := by
  obtain ⟨hm, hd, hn, hc⟩ := hD
  have hn : nx = pc + 3 := hn
  subst hn
  have h : K (pc + 3) ls (.ref (mN M) :: st) (aNew M (16 + c) 0 (lt_nf c)) = some z := h
  exact lt_U.of lt_ge.new (lt_9.new (by omega)) (hK _ _ _ _ h) fun _ X q hC hV => v_new hC.1 hd hf hc12 (fun n0 ad0 mc ms e => by subst e; exact hC.2.1) hV
theorem lt_ikc (m : Nat) : lt_ik m = 9 ∨ lt_ik m = 1 := by
  unfold lt_ik
  cases Nat.beq m 123
  · exact Or.inr rfl
  · exact Or.inl rfl
theorem o_iaload (hD : lt_D m pc nx tg cn .iaload) (hK : lt_HK l d m z K) (h : (lt_x1 st fun a i r => lt_ar M a (lt_ik m) i (K nx ls (.int (mI M a (lt_n i)) :: r) M)) = some z) : lt_U l d m z pc ls st M := by
  obtain ⟨hm, hd, hn, hc⟩ := hD
  have hn : nx = pc + 1 := hn
  subst hn
  obtain ⟨a, i, r, rfl, h⟩ := lt_x1_inv h
  obtain ⟨⟨hk, hin⟩, h⟩ := lt_if_inv h
  rcases lt_ikc m with e | e
  · exact lt_U.of lt_ge.rf id (hK _ _ _ _ h) fun h9 X q hC hV => v_iaload9 hC.1 hd (hk.trans e) hin (h9 a) hV
  · exact (hK _ _ _ _ h).s fun X q hC hV => v_iaload hC.1 hd (hk.trans e) hin hV
theorem o_baload (hD : lt_D m pc nx tg cn .baload) (hK : lt_HK l d m z K) (h : (lt_x1 st fun a i r => lt_ar M a 3 i (K nx ls (.int (mI M a (lt_n i)) :: r) M)) = some z) : lt_U l d m z pc ls st M := by
  obtain ⟨hm, hd, hn, hc⟩ := hD
  have hn : nx = pc + 1 := hn
  subst hn
  obtain ⟨a, i, r, rfl, h⟩ := lt_x1_inv h
  obtain ⟨⟨hk, hin⟩, h⟩ := lt_if_inv h
  exact (hK _ _ _ _ h).s fun X q hC hV => v_baload hC.1 hd hk hin hV
theorem o_laload (hD : lt_D m pc nx tg cn .laload) (hK : lt_HK l d m z K) (h : (lt_x1 st fun a i r => lt_ar M a 2 i (K nx ls (.long (mL M a (lt_n i)) :: r) M)) = some z) : lt_U l d m z pc ls st M := by
  obtain ⟨hm, hd, hn, hc⟩ := hD
  have hn : nx = pc + 1 := hn
  subst hn
  obtain ⟨a, i, r, rfl, h⟩ := lt_x1_inv h
  obtain ⟨⟨hk, hin⟩, h⟩ := lt_if_inv h
  exact (hK _ _ _ _ h).s fun X q hC hV => v_laload hC.1 hd hk hin hV
theorem o_aaload (hD : lt_D m pc nx tg cn .aaload) (hK : lt_HK l d m z K) (h : (lt_x1 st fun a i r => lt_aa M a i (bif fl then lt_rn (mP M a (lt_n i)) (fun q => K nx ls (.ref q :: r) M) (K nx ls (.null :: r) M) else lt_rf (mP M a (lt_n i)) fun q => K nx ls (.ref q :: r) M)) = some z) : lt_U l d m z pc ls st M := by
  obtain ⟨hm, hd, hn, hc⟩ := hD
  have hn : nx = pc + 1 := hn
  subst hn
  obtain ⟨a, i, r, rfl, h⟩ := lt_x1_inv h
  obtain ⟨⟨hk, hin⟩, h⟩ := lt_if_inv h
  have hR : ∀ q0, mP M a (lt_n i) = some q0 → K (pc + 1) ls (.ref q0 :: r) M = some z → lt_U l d m z pc ls (.int i :: .ref a :: r) M := fun q0 hp h =>
    (hK _ _ _ _ h).s fun X q hC hV => v_aaload (v := .ref q0) hC.1 hd hk hin (fun ad => by rw [hp]; rfl) (fun H => (H _ _ _ hp).2) hV
  cases fl
  · obtain ⟨q0, hp, h⟩ := lt_rf_inv h
    exact hR q0 hp h
  · rcases lt_rn_inv h with ⟨q0, hp, h⟩ | ⟨hp, h⟩
    · exact hR q0 hp h
    · exact (hK _ _ _ _ h).s fun X q hC hV => v_aaload (v := .null) hC.1 hd hk hin (fun ad => by rw [hp]; rfl) (fun _ => trivial) hV
theorem o_arraylength (hD : lt_D m pc nx tg cn .arraylength) (hK : lt_HK l d m z K) (h : (lt_a1 st fun a r => lt_al M a (K nx ls (.int (nI (mZ M a)) :: r) M)) = some z) : lt_U l d m z pc ls st M := by
  obtain ⟨hm, hd, hn, hc⟩ := hD
  have hn : nx = pc + 1 := hn
  subst hn
  obtain ⟨a, r, rfl, h⟩ := lt_a1_inv h
  obtain ⟨hk, h⟩ := lt_if_inv h
  exact lt_U.of lt_ge.rf id (hK _ _ _ _ h) fun h9 X q hC hV => v_arraylength hC.1 hd hk (h9 a) hV
theorem o_iastore (hD : lt_D m pc nx tg cn .iastore) (hK : lt_HK l d m z K) (h : (lt_x2 st fun a i v r => lt_vi v fun x => lt_ar M a 1 i (lt_m (wI M a (lt_n i) x) fun M => K nx ls r M)) = some z) : lt_U l d m z pc ls st M := by
  obtain ⟨hm, hd, hn, hc⟩ := hD
  have hn : nx = pc + 1 := hn
  subst hn
  obtain ⟨a, i, v, r, rfl, h⟩ := lt_x2_inv h
  obtain ⟨x, rfl, h⟩ := lt_vi_inv h
  obtain ⟨⟨hk, hin⟩, h⟩ := lt_if_inv h
  have h : K (pc + 1) ls r (wI M a (lt_n i) x) = some z := h
  exact lt_U.of (M' := wI M a (lt_n i) x) ⟨Nat.le_refl _, Nat.le_refl _, Nat.le_refl _⟩ (fun h9 => h9) (hK _ _ _ _ h) fun _ X q hC hV => v_iastore hC.1 hd hk hin hV
theorem o_bastore (hD : lt_D m pc nx tg cn .bastore) (hK : lt_HK l d m z K) (h : (lt_x2 st fun a i v r => lt_vi v fun x => lt_ar M a 3 i (lt_b1 x (lt_m (wI M a (lt_n i) x) fun M => K nx ls r M))) = some z) : lt_U l d m z pc ls st M := by
  obtain ⟨hm, hd, hn, hc⟩ := hD
  have hn : nx = pc + 1 := hn
  subst hn
  obtain ⟨a, i, v, r, rfl, h⟩ := lt_x2_inv h
  obtain ⟨x, rfl, h⟩ := lt_vi_inv h
  obtain ⟨⟨hk, hin⟩, h⟩ := lt_if_inv h
  obtain ⟨hx, h⟩ := lt_if_inv h
  have h : K (pc + 1) ls r (wI M a (lt_n i) x) = some z := h
  exact lt_U.of (M' := wI M a (lt_n i) x) ⟨Nat.le_refl _, Nat.le_refl _, Nat.le_refl _⟩ (fun h9 => h9) (hK _ _ _ _ h) fun _ X q hC hV => v_bastore hC.1 hd hk hin hx hV
theorem o_lastore (hD : lt_D m pc nx tg cn .lastore) (hK : lt_HK l d m z K) (h : (lt_x2 st fun a i v r => lt_vl v fun x => lt_ar M a 2 i (lt_m (wL M a (lt_n i) x) fun M => K nx ls r M)) = some z) : lt_U l d m z pc ls st M := by
  obtain ⟨hm, hd, hn, hc⟩ := hD
  have hn : nx = pc + 1 := hn
  subst hn
  obtain ⟨a, i, v, r, rfl, h⟩ := lt_x2_inv h
  obtain ⟨x, rfl, h⟩ := lt_vl_inv h
  obtain ⟨⟨hk, hin⟩, h⟩ := lt_if_inv h
  have h : K (pc + 1) ls r (wL M a (lt_n i) x) = some z := h
  exact lt_U.of (M' := wL M a (lt_n i) x) ⟨Nat.le_refl _, Nat.le_refl _, Nat.le_refl _⟩ (fun h9 => h9) (hK _ _ _ _ h) fun _ X q hC hV => v_lastore hC.1 hd hk hin hV
theorem o_aastore (hD : lt_D m pc nx tg cn .aastore) (hK : lt_HK l d m z K) (h : (lt_x2 st fun a i v r => lt_va v fun x => lt_as M a i x (lt_m (wP M a (lt_n i) (some x)) fun M => K nx ls r M)) = some z) : lt_U l d m z pc ls st M := by
  obtain ⟨hm, hd, hn, hc⟩ := hD
  have hn : nx = pc + 1 := hn
  subst hn
  obtain ⟨a, i, v, r, rfl, h⟩ := lt_x2_inv h
  obtain ⟨x, rfl, h⟩ := lt_va_inv h
  obtain ⟨⟨hk, hin, hb⟩, h⟩ := lt_if_inv h
  have h : K (pc + 1) ls r (wP M a (lt_n i) (some x)) = some z := h
  exact lt_U.of (M' := wP M a (lt_n i) (some x)) ⟨Nat.le_refl _, Nat.le_refl _, Nat.le_refl _⟩ (fun h9 => h9) (hK _ _ _ _ h) fun _ X q hC hV => v_aastore hC.1 hd hk hin hb hV
theorem o_newarray_int (hD : lt_D m pc nx tg cn (.newarray .int)) (hK : lt_HK l d m z K) (h : lt_na 1 nx ls st M K = some z) : lt_U l d m z pc ls st M := by
  obtain ⟨hm, hd, hn, hc⟩ := hD
  have hn : nx = pc + 2 := hn
  subst hn
  obtain ⟨n, r, rfl, h⟩ := lt_i1_inv h
  obtain ⟨hl, h⟩ := lt_if_inv h
  have h : K (pc + 2) ls (.ref (mN M) :: r) (aNew M 1 (lt_n n) (lt_n n)) = some z := h
  exact lt_U.of lt_ge.new (lt_9.new (by decide)) (hK _ _ _ _ h) fun _ X q hC hV => v_newarray_int hC.1 hC.2.1 hd hl hV
theorem o_newarray_long (hD : lt_D m pc nx tg cn (.newarray .long)) (hK : lt_HK l d m z K) (h : lt_na 2 nx ls st M K = some z) : lt_U l d m z pc ls st M := by
  obtain ⟨hm, hd, hn, hc⟩ := hD
  have hn : nx = pc + 2 := hn
  subst hn
  obtain ⟨n, r, rfl, h⟩ := lt_i1_inv h
  obtain ⟨hl, h⟩ := lt_if_inv h
  have h : K (pc + 2) ls (.ref (mN M) :: r) (aNew M 2 (lt_n n) (lt_n n)) = some z := h
  exact lt_U.of lt_ge.new (lt_9.new (by decide)) (hK _ _ _ _ h) fun _ X q hC hV => v_newarray_long hC.1 hC.2.1 hd hl hV
theorem o_newarray_boolean (hD : lt_D m pc nx tg cn (.newarray .boolean)) (hK : lt_HK l d m z K) (h : lt_na 3 nx ls st M K = some z) : lt_U l d m z pc ls st M := by
  obtain ⟨hm, hd, hn, hc⟩ := hD
  have hn : nx = pc + 2 := hn
  subst hn
  obtain ⟨n, r, rfl, h⟩ := lt_i1_inv h
  obtain ⟨hl, h⟩ := lt_if_inv h
  have h : K (pc + 2) ls (.ref (mN M) :: r) (aNew M 3 (lt_n n) (lt_n n)) = some z := h
  exact lt_U.of lt_ge.new (lt_9.new (by decide)) (hK _ _ _ _ h) fun _ X q hC hV => v_newarray_boolean hC.1 hC.2.1 hd hl hV
theorem o_anewarray {idx : Nat} (hD : lt_D m pc nx tg cn (.anewarray idx)) (hK : lt_HK l d m z K) (h : lt_nq (lt_inf m).1 nx idx ls st M K = some z) : lt_U l d m z pc ls st M := by
  obtain ⟨hm, hd, hn, hc⟩ := hD
  have hn : nx = pc + 3 := hn
  subst hn
  unfold lt_nq at h
  split at h
  · next hf =>
    obtain ⟨n, r, rfl, h⟩ := lt_i1_inv h
    obtain ⟨hl, h⟩ := lt_if_inv h
    have h : K (pc + 3) ls (.ref (mN M) :: r) (aNew M 5 (lt_n n) (lt_n n)) = some z := h
    exact lt_U.of lt_ge.new (lt_9.new (by decide)) (hK _ _ _ _ h) fun _ X q hC hV => v_anewarray5 hC.1 hC.2.1 hd hf hl hV
  · next hf =>
    obtain ⟨n, r, rfl, h⟩ := lt_i1_inv h
    obtain ⟨hl, h⟩ := lt_if_inv h
    have h : K (pc + 3) ls (.ref (mN M) :: r) (aNew M 6 (lt_n n) (lt_n n)) = some z := h
    exact lt_U.of lt_ge.new (lt_9.new (by decide)) (hK _ _ _ _ h) fun _ X q hC hV => v_anewarray6 hC.1 hC.2.1 hd hf hl hV
  · next hf =>
    obtain ⟨n, r, rfl, h⟩ := lt_i1_inv h
    obtain ⟨hl, h⟩ := lt_if_inv h
    have h : K (pc + 3) ls (.ref (mN M) :: r) (aNew M 8 (lt_n n) (lt_n n)) = some z := h
    exact lt_U.of lt_ge.new (lt_9.new (by decide)) (hK _ _ _ _ h) fun _ X q hC hV => v_anewarray8 hC.1 hC.2.1 hd hf hl hV
  · cases h
theorem o_multi {idx : Nat} (hD : lt_D m pc nx tg cn (.multianewarray idx 2)) (hK : lt_HK l d m z K) (h : lt_mu (lt_inf m).1 nx idx ls st M K = some z) : lt_U l d m z pc ls st M := by
  obtain ⟨hm, hd, hn, hc⟩ := hD
  have hn : nx = pc + 4 := hn
  subst hn
  obtain ⟨n, k, r, hst, h1⟩ := lt_i2_inv h
  subst hst
  split at h1
  · next hf =>
    obtain ⟨hl, h1⟩ := lt_if_inv h1
    obtain ⟨hl2, h⟩ := lt_if_inv h1
    have h : K (pc + 4) ls (.ref (mN M) :: r) (aMul M 7 1 (lt_n n) (lt_n k)) = some z := h
    exact lt_U.of lt_ge.mul (lt_9.mul (by decide) (by decide)) (hK _ _ _ _ h) fun _ X q hC hV => v_multi7 hC.1 hC.2.1 hd hf hl hl2 hV
  · cases h1
end Op2
