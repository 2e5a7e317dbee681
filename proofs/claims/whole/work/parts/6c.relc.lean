/-! THE RELATION: shadows -/
def RH1 (r : Nat) (room : Int32) (f N c : Nat) (sh mi : Int32) (g : Nat → Int64) (U : Nat → Int32) : Prop :=
  (r = 0 ∨ r = 1) ∧ U 0 = nI r ∧ U 1 = room ∧ U 3 = 0 ∧ U 8 = 0 ∧ U 9 = nI f ∧ HB sh U 24 ∧ U 13 = mi ∧ ∃ q, q ≤ N ∧ U 10 = nI q ∧ (r = 0 → ISO c q sh g (fun k => U (76 + k)))
/-- the ranks by which a shadow lets go -/
def ORD (r : Nat) (rk g : Nat → Int64) (A B : Nat → Int32) : Prop := (r = 0 → ∀ i j, i < 26 → j < 26 → (rk i < rk j ↔ g i < g j)) ∧ (r = 1 → ∀ i j, i < 26 → j < 26 → decide (rk i < rk j) = (decide (A i < A j) || (decide (A i = A j) && decide (B i < B j))))
section Rm'
variable {N c f r i j k x y n w : Nat} {sh mi room v : Int32} {g g' rk : Nat → Int64} {H U U' A B : Nat → Int32} {kz kc kw : Nat → Int32} {W kf : Nat → Nat}
theorem RH1_o (h : RH1 r room f N c sh mi g U) (hi : (i = 2 ∨ (4 ≤ i ∧ i < 8) ∨ i = 11 ∨ i = 12 ∨ (14 ≤ i ∧ i < 24) ∨ (50 ≤ i ∧ i < 76) ∨ 102 ≤ i)) : RH1 r room f N c sh mi g (upd U i v) := by
  obtain ⟨h1, h2, h3, h4, h5, h6, h7, h8, q, h9, h10, h11⟩ := h
  exact ⟨h1, (upd_o (by omega)).trans h2, (upd_o (by omega)).trans h3, (upd_o (by omega)).trans h4, (upd_o (by omega)).trans h5, (upd_o (by omega)).trans h6, HB_o h7 (by omega), (upd_o (by omega)).trans h8, q, h9, (upd_o (by omega)).trans h10, fun e => ISO_sub (h11 e) (fun _ _ e => e) (fun k hk _ => ⟨rfl, upd_o (by omega)⟩)⟩
theorem RH1_mono {N' c' : Nat} (h : RH1 r room f N c sh mi g U) (hN : N ≤ N') (hc : c ≤ c') (hg : ∀ k, k < 26 → bt sh k = true → g' k = g k) : RH1 r room f N' c' sh mi g' U := by
  obtain ⟨h1, h2, h3, h4, h5, h6, h7, h8, q, h9, h10, h11⟩ := h
  exact ⟨h1, h2, h3, h4, h5, h6, h7, h8, q, by omega, h10, fun e => ISO_mono (ISO_sub (h11 e) (fun _ _ e => e) (fun k hk hb => ⟨hg k hk hb, rfl⟩)) hc (Nat.le_refl _)⟩
/-- the keys of a shadow used -/
theorem RH1_used (h : RH1 r room f N c sh mi g U) (hk : k < 26) (hg : g' k = Int32.toInt64 (nI (c + 1))) (ho : ∀ j, j < 26 → j ≠ k → bt sh j = true → g' j = g j) : RH1 r room f (N + 1) (c + 1) sh mi g' (qUsed H U k) := by
  obtain ⟨h1, h2, h3, h4, h5, h6, h7, h8, q, h9, h10, h11⟩ := h
  have e2 : U 10 + 1 = nI (q + 1) := by rw [h10]; exact lt_iA (j := q) (k := 1)
  unfold qUsed
  rw [e2]
  refine ⟨h1, ?_, ?_, ?_, ?_, ?_, HB_o (HB_o (HB_o h7 (by omega)) (by omega)) (by omega), ?_, q + 1, by omega, ?_, fun e => ?_⟩
  · rw [upd_o (by omega), upd_o (by omega), upd_o (by omega)]; exact h2
  · rw [upd_o (by omega), upd_o (by omega), upd_o (by omega)]; exact h3
  · rw [upd_o (by omega), upd_o (by omega), upd_o (by omega)]; exact h4
  · rw [upd_o (by omega), upd_o (by omega), upd_o (by omega)]; exact h5
  · rw [upd_o (by omega), upd_o (by omega), upd_o (by omega)]; exact h6
  · rw [upd_o (by omega), upd_o (by omega), upd_o (by omega)]; exact h8
  · rw [upd_o (by omega), upd_o (by omega), upd_s]
  · refine ISO_new (h11 e) hk hg ?_ (fun j _ _ h => h) (fun j hj hne hb => ⟨ho j hj hne hb, ?_⟩)
    · rw [upd_o (by omega), upd_s]
    · rw [upd_o (by omega), upd_o (by omega), upd_o (by omega)]
theorem RH1_hit (h : RH1 r room f N c sh mi g U) (hk : k < 26) (hg : g' k = Int32.toInt64 (nI (c + 1))) (ho : ∀ j, j < 26 → j ≠ k → bt sh j = true → g' j = g j) : RH1 r room f (N + 1) (c + 1) sh mi g' (qHit H U k) := by
  unfold qHit
  exact RH1_used (RH1_o (RH1_o (RH1_o (RH1_o (RH1_o h (by omega)) (by omega)) (by omega)) (by omega)) (by omega)) hk hg ho
theorem RH1_come (h : RH1 r room f N c sh mi g U) (hk : k < 26) (hb : bt sh k = false) (hg : g' k = Int32.toInt64 (nI (c + 1))) (ho : ∀ j, j < 26 → j ≠ k → bt sh j = true → g' j = g j) : RH1 r room f (N + 1) (c + 1) (sh ||| bb k) mi g' (qCome H U k) := by
  have h1 := RH1_used (H := H) h hk hg ho
  unfold qCome
  refine RH1_o (RH1_o (RH1_o (RH1_o (RH1_o ?_ (by omega)) (by omega)) (by omega)) (by omega)) (by omega)
  obtain ⟨a1, a2, a3, a4, a5, a6, a7, a8, -⟩ := h1
  obtain ⟨-, -, -, -, -, -, -, -, q0, b9, b10, b11⟩ := h
  have e2 : U 10 + 1 = nI (q0 + 1) := by rw [b10]; exact lt_iA (j := q0) (k := 1)
  have u10 : qUsed H U k 10 = nI (q0 + 1) := by
    unfold qUsed
    rw [upd_o (by omega), upd_o (by omega), upd_s, e2]
  refine ⟨a1, (upd_o (by omega)).trans a2, (upd_o (by omega)).trans a3, (upd_o (by omega)).trans a4, (upd_o (by omega)).trans a5, (upd_o (by omega)).trans a6, HB_on a7 hk, (upd_o (by omega)).trans a8, q0 + 1, by omega, (upd_o (by omega)).trans u10, fun e => ?_⟩
  have u76 : ∀ j, j < 26 → upd (qUsed H U k) (24 + k) 1 (76 + j) = if j = k then nI (q0 + 1) else U (76 + j) := fun j hj => by
    unfold qUsed
    rw [upd_o (by omega), upd_o (by omega), e2]
    by_cases d : j = k
    · rw [d, upd_s, if_pos rfl]
    · rw [upd_o (by omega), upd_o (by omega), if_neg d]
  exact ISO_new (b11 e) hk hg ((u76 k hk).trans (if_pos rfl)) (fun j hj hne hb' => by rw [bt_on hk (by omega), decide_eq_false hne, Bool.or_false] at hb'; exact hb') (fun j hj hne hb' => by
    rw [bt_on hk (by omega), decide_eq_false hne, Bool.or_false] at hb'
    exact ⟨ho j hj hne hb', (u76 j hj).trans (if_neg hne)⟩)
theorem RH1_leave (h : RH1 r room f N c sh mi g U) (hk : k < 26) : RH1 r room f N c (sh &&& (bb k ^^^ -1)) mi g (qOut U k) := by
  have u0 : U 0 ≠ 4 ∧ U 0 ≠ 5 := by
    rw [h.2.1]
    rcases h.1 with e | e <;> rw [e] <;> exact ⟨by decide, by decide⟩
  unfold qOut qOut0 qMax
  rw [if_neg (fun e => u0.1 e.1), if_neg u0.2]
  unfold qLeaves
  refine RH1_o (RH1_o (RH1_o ?_ (by omega)) (by omega)) (by omega)
  have h' : RH1 r room f N c sh mi g (upd (upd U 14 (U 14 + 1)) 16 (upd U 14 (U 14 + 1) 16 + upd U 14 (U 14 + 1) (154 + k))) := RH1_o (RH1_o h (by omega)) (by omega)
  obtain ⟨a1, a2, a3, a4, a5, a6, a7, a8, q, a9, a10, a11⟩ := h'
  exact ⟨a1, (upd_o (by omega)).trans a2, (upd_o (by omega)).trans a3, (upd_o (by omega)).trans a4, (upd_o (by omega)).trans a5, (upd_o (by omega)).trans a6, HB_off a7 hk, (upd_o (by omega)).trans a8, q, a9, (upd_o (by omega)).trans a10, fun e => ISO_sub (a11 e) (fun j hj hb => (sub_off hk j hj hb).1) (fun j hj _ => ⟨rfl, upd_o (by omega)⟩)⟩
theorem sh_once (h : RH1 r room f N c sh mi g U) (hN : N < 2147483648) (hc : c < 2147483648) (ho : ORD r rk g A B) (hne : sh ≠ 0) : ∃ k, k < 26 ∧ lO sh rk = some k ∧ bt sh k = true ∧ qOnce H A B 0 y none U = some (qOut U k) := by
  obtain ⟨h1, h2, h3, h4, h5, h6, h7, h8, q, h9, h10, h11⟩ := h
  have u0 : U 0 ≠ 3 ∧ U 0 ≠ 4 ∧ U 0 ≠ 6 := by
    rw [h2]
    rcases h1 with e | e <;> rw [e] <;> exact ⟨by decide, by decide, by decide⟩
  have hq : qSome H U y none 26 false = false := by
    cases e : qSome H U y none 26 false
    · rfl
    · rcases (qSome_iff 26 false (Nat.le_refl _)).mp e with e | ⟨j, -, -, -, e, -⟩
      · cases e
      · rw [h5] at e; cases e
  have hcan : ∀ k, k < 26 → bt sh k = qCan H U y none k := fun k hk => by
    unfold qCan qC0
    rw [hq, h7.2 k hk]
    cases bt sh k <;> simp [bI]
  have hl : lO sh rk = qGo H U A B 0 y none := by
    unfold qGo qRule
    rw [if_neg u0.2.1, if_neg u0.2.2, h2]
    refine lO_q hcan (fun i j hi hj ci cj => ?_)
    have bi := (hcan i hi).trans ci
    have bj := (hcan j (by omega)).trans cj
    rcases h1 with e | e
    · rw [e]
      have a1 := ho.1 e i j hi (by omega)
      have a2 := ISO_lt (h11 e) hc (by omega) hi (by omega) bi bj
      show decide (rk i < rk j) = decide (U (76 + i) < U (76 + j))
      exact decide_eq_decide.mpr (a1.trans a2)
    · rw [e]
      exact ho.2 e i j hi (by omega)
  cases e : lO sh rk with
  | none => exact absurd ((lO_none h7.1).mp e) hne
  | some k =>
    obtain ⟨k1, k2⟩ := lO_lt k e
    refine ⟨k, k1, rfl, k2, ?_⟩
    unfold qOnce
    rw [if_neg u0.1, ← hl, e]
theorem pBit_o {b : Option Nat} (hb : ∀ j, b = some j → j < 26) : pBit (oI b) = obb b := by
  unfold pBit
  cases b with
  | none => exact if_pos (by decide)
  | some k =>
    have hk := hb k rfl
    rw [oI_s, if_neg (lt_neg (by omega)), if_pos (show nI k < 26 from (lt_iL (j := k) (k := 26) (by omega) (by omega)).mpr hk)]
    rfl
theorem sh_room (hK : KY kz kc kw W H) (hN : N < 2147483648) (hc : c < 2147483648) (ho : ORD r rk g A B) (hy : y < 26) (hno : ¬ room < kz y) : ∀ (n : Nat) (sh : Int32) (U : Nat → Int32), RH1 r room f N c sh mi g U → nK (bt sh) 26 ≤ n →
    ∃ U', qRoom H A B 0 y none n U = some U' ∧ RH1 r room f N c (pShed kz rk room (kz y) n sh) mi g U' ∧ ∀ k, k < 26 → bt (pShed kz rk room (kz y) n sh) k = true → bt sh k = true
  | 0, sh, U, h, hn => by
    obtain ⟨⟨m, -, -, m1, m2⟩, -⟩ := hK y hy
    have e0 : sh = 0 := by
      by_cases e : sh = 0
      · exact e
      · obtain ⟨k, k1, k2⟩ := KS_ne h.2.2.2.2.2.2.1.1 e
        have := nK_minus (h1' := bt sh) (h2' := fun j => bt sh j && !decide (j = k)) 26 k1 k2 (by rw [decide_eq_true rfl]; exact Bool.and_false _) (fun j _ hne => by rw [decide_eq_false hne]; exact Bool.and_true _)
        omega
    have hs := all_sum (S := (fun _ _ => sh, fun _ _ => 0)) (U := U) h.2.2.2.2.2.2.1 hK
    refine ⟨U, ?_, h, fun k _ hb => hb⟩
    unfold qRoom
    have e1 : pSum sh kz 26 0 = 0 := by rw [e0]; exact pSum_0 26 0
    have hs' : qUnits H U (-1) 26 0 = 0 := hs.symm.trans e1
    rw [hs', h.2.2.1, m2, ← m1, Int32.zero_add, if_neg hno]
  | n + 1, sh, U, h, hn => by
    obtain ⟨⟨m, -, -, m1, m2⟩, -⟩ := hK y hy
    have hs := all_sum (S := (fun _ _ => sh, fun _ _ => 0)) (U := U) h.2.2.2.2.2.2.1 hK
    have hs' : pSum sh kz 26 0 = qUnits H U (-1) 26 0 := hs
    unfold qRoom
    have ep : pShed kz rk room (kz y) (n + 1) sh = if room < pSum sh kz 26 0 + kz y then pShed kz rk room (kz y) n (sh &&& (pBit (pLst sh rk) ^^^ -1)) else sh := rfl
    rw [ep, hs', h.2.2.1, m1, m2]
    by_cases d : room < qUnits H U (-1) 26 0 + nI m
    · rw [if_pos d, if_pos d]
      have hne : sh ≠ 0 := fun e => by
        have e1 : pSum sh kz 26 0 = 0 := by rw [e]; exact pSum_0 26 0
        rw [← hs', e1, Int32.zero_add, ← m1] at d
        exact hno d
      obtain ⟨k, k1, k2, k3, k4⟩ := sh_once (H := H) (y := y) h hN hc ho hne
      rw [k4, pLst_lO, pBit_o (fun j e => (lO_lt j e).1), k2]
      dsimp only
      have h1 := RH1_leave h k1
      have hn' : nK (bt (sh &&& (bb k ^^^ -1))) 26 ≤ n := by
        have := nK_minus (h1' := bt sh) (h2' := bt (sh &&& (bb k ^^^ -1))) 26 k1 k3 (by rw [bt_off k1 (by omega), decide_eq_true rfl]; exact Bool.and_false _) (fun j hj hne => by rw [bt_off k1 (by omega), decide_eq_false hne]; exact Bool.and_true _)
        omega
      obtain ⟨U', r1, r2, r3⟩ := sh_room hK hN hc ho hy hno n _ _ h1 hn'
      rw [m1] at r2 r3
      exact ⟨U', r1, r2, fun j hj hb => (sub_off k1 j hj (r3 j hj hb)).1⟩
    · rw [if_neg d, if_neg d]
      exact ⟨U, rfl, h, fun k _ hb => hb⟩
/-- a shadow fed -/
def shNew (kz : Nat → Int32) (rk : Nat → Int64) (room : Int32) (x : Nat) (sh mi : Int32) : Int32 × Int32 := if bt sh x = true then (sh, mi) else if room < kz x then (sh, mi + 1) else (pShed kz rk room (kz x) 26 sh ||| bb x, mi + 1)
theorem sh_done (h : RH1 r room f N c sh mi g U) (hx : kf i < 26) : ∃ U', qDone H A B 0 kf f i v U = some U' ∧ RH1 r room f N c sh mi g U' := by
  have h1 : RH1 r room f N c sh mi g (upd U (362 + i) v) := RH1_o h (by omega)
  have h2 : RH1 r room f N c sh mi g (if H (380 + i) = 1 then qWrite H (upd U (362 + i) v) (kf i) else upd U (362 + i) v) := by
    split
    · unfold qWrite
      split
      · split
        · exact RH1_o (RH1_o h1 (by omega)) (by omega)
        · exact RH1_o (RH1_o h1 (by omega)) (by omega)
      · exact RH1_o h1 (by omega)
    · exact h1
  unfold qDone
  dsimp only
  rw [if_neg (by rw [h2.2.2.2.1]; decide)]
  exact ⟨_, rfl, h2⟩
theorem sh_feed (h : RH1 r room f N c sh mi g U) (hK : KY kz kc kw W H) (hN : N < 2147483648) (hc : c < 2147483648) (ho : ORD r rk g' A B) (hx : kf i < 26) (hg : g' (kf i) = Int32.toInt64 (nI (c + 1))) (hgo : ∀ j, j < 26 → j ≠ kf i → g' j = g j) :
    ∃ U', qFeed H A B 0 kf f i U = some U' ∧ RH1 r room f (N + 1) (c + 1) (shNew kz rk room (kf i) sh mi).1 (shNew kz rk room (kf i) sh mi).2 g' U' := by
  generalize hxe : kf i = x at hx hg hgo
  have hb := HB_1 h.2.2.2.2.2.2.1 hx
  have done : ∀ {N c : Nat} {sh mi : Int32} {U1 : Nat → Int32} (v : Int32), RH1 r room f N c sh mi g' U1 → ∃ U', qDone H A B 0 kf f i v U1 = some U' ∧ RH1 r room f N c sh mi g' U' := fun v h => sh_done h (by rw [hxe]; exact hx)
  unfold qFeed shNew
  rw [hxe]
  by_cases d : bt sh x = true
  · rw [if_pos (hb.mpr d), if_pos d]
    exact done 0 (RH1_hit h hx hg (fun j hj hne _ => hgo j hj hne))
  · rw [if_neg (fun e => d (hb.mp e)), if_neg d]
    have d' : bt sh x = false := by simpa using d
    obtain ⟨⟨m, -, -, m1, m2⟩, -⟩ := hK x hx
    have hm : RH1 r room f N c sh (mi + 1) g (qMiss0 H U x) := by
      unfold qMiss0
      refine RH1_o (RH1_o ?_ (by omega)) (by omega)
      obtain ⟨a1, a2, a3, a4, a5, a6, a7, a8, q, a9, a10, a11⟩ := h
      exact ⟨a1, (upd_o (by omega)).trans a2, (upd_o (by omega)).trans a3, (upd_o (by omega)).trans a4, (upd_o (by omega)).trans a5, (upd_o (by omega)).trans a6, HB_o a7 (by omega), by rw [upd_s, a8], q, a9, (upd_o (by omega)).trans a10, fun e => ISO_sub (a11 e) (fun _ _ e => e) (fun k hk _ => ⟨rfl, upd_o (by omega)⟩)⟩
    have hgs : ∀ k, k < 26 → bt sh k = true → g' k = g k := fun k hk hb => hgo k hk (fun e => d (by rw [← e]; exact hb))
    unfold qMiss
    rw [h.2.2.1, m1, m2]
    by_cases e : room < nI m
    · rw [if_pos e, if_pos e]
      dsimp only
      exact done 2 (RH1_mono (RH1_o hm (by omega)) (by omega) (by omega) hgs)
    · rw [if_neg e, if_neg e]
      obtain ⟨U', r1, r2, r3⟩ := sh_room (g := g') hK hN hc ho hx (by rw [m1]; exact e) 26 sh (qMiss0 H U x) (RH1_mono hm (Nat.le_refl _) (Nat.le_refl _) hgs) (nK_le 26)
      rw [r1]
      dsimp only
      rw [m1] at r2 r3
      refine done 1 (RH1_come r2 hx ?_ hg (fun _ _ _ _ => rfl))
      cases q : bt (pShed kz rk room (nI m) 26 sh) x
      · rfl
      · exact absurd (r3 x hx q) d
end Rm'
