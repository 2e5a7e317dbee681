/-! THE RELATION: the queue turned; one put out, by any rule -/
section Ri'
variable {N L : Nat} {Q : (Nat → Int32) × (Nat → Int32)} {S S' : CS} {H U U' A B F P m : Nat → Int32} {k i j t t' j' e y w r c q n a g f : Nat} {kz kc kw : Nat → Int32} {W : Nat → Nat} {v v' x set these beyond ln s s' st : Int32} {z : Int64} {kept : Option Nat} {can h1' h2' : Nat → Bool} {rk : Nat → Int64}
theorem nK_minus : ∀ (n : Nat), a < n → h1' a = true → h2' a = false → (∀ k, k < n → k ≠ a → h2' k = h1' k) → nK h2' n + 1 = nK h1' n
  | 0, h, _, _, _ => by omega
  | n + 1, h, p, q, o => by
    show nK h2' n + (h2' n).toNat + 1 = nK h1' n + (h1' n).toNat
    by_cases e : a = n
    · rw [nK_cg (f := h2') (g := h1') n (fun k hk => o k (by omega) (by omega)), ← e, p, q]
      rfl
    · rw [← nK_minus n (by omega) p q (fun k hk hne => o k (by omega) hne), o n (by omega) (by omega)]
      omega
theorem ISO_injr (h : ISO c q s rk P) (hc : c < 2147483648) (hi : i < 26) (hj : j < 26) (bi : bt s i = true) (bj : bt s j = true) (e : (rk i).toInt = (rk j).toInt) : i = j := by
  obtain ⟨a, b, h1, h2⟩ := h
  obtain ⟨e1, e2, e3, e4⟩ := h1 i hi bi
  obtain ⟨g1, g2, g3, g4⟩ := h1 j hj bj
  rw [e1, g1, L64 (by omega), L64 (by omega)] at e
  have o1 := h2 i j hi hj bi bj
  have o2 := h2 j i hj hi bj bi
  exact o1.2 (by omega)
/-- the first of a set is the first of its part that has it -/
theorem lO_part (h : ISO c q s rk P) (hc : c < 2147483648) (hf : lO s rk = some f) (hs : KS s') (hsub : ∀ k, k < 26 → bt s' k = true → bt s k = true) (hm : bt s' f = true) : lO s' rk = some f := by
  obtain ⟨f1, f2⟩ := lO_lt f hf
  cases e : lO s' rk with
  | none =>
    rw [(lO_none hs).mp e, b_0] at hm
    cases hm
  | some g =>
    obtain ⟨g1, g2⟩ := lO_lt g e
    have a1 := lO_min e f1 hm
    have a2 := lO_min hf g1 (hsub g g1 g2)
    rw [ISO_injr h hc g1 f1 (hsub g g1 g2) f2 (by omega)]
/-- one turn -/
theorem RX_turn1 (h : RX N L Q S U) (h3 : U 0 = 3) (hk : k < 26) (hb : bt (S.1 0 5) k = true) (hN : N + 1 < 2147483648) :
    RX (N + 1) L Q (kTurn1 S these k) (upd (upd (if bt these k = true then upd U (206 + k) 0 else U) 10 (U 10 + 1)) (102 + k) (U 10 + 1)) := by
  obtain ⟨h1, h2, h3', h4, h5, h6, h7, h8, h9, ⟨c, q, b1, b2, b3, b4, b5, b6, b7⟩, ⟨c1, c2⟩, h12, h13⟩ := h
  have e1 : S.1 0 12 + 1 = nI (c + 1) := by rw [b1]; exact lt_iA (j := c) (k := 1)
  have e2 : U 10 + 1 = nI (q + 1) := by rw [b2]; exact lt_iA (j := q) (k := 1)
  unfold kTurn1
  rw [e1, e2]
  generalize hV : (if bt these k = true then upd U (206 + k) 0 else U) = V
  have vv : ∀ w, w ≠ 206 + k → V w = U w := fun w hw => by
    rw [← hV]
    split
    · exact upd_o hw
    · rfl
  have gg : ∀ w, w ≠ 206 + k → w ≠ 10 → w ≠ 102 + k → upd (upd V 10 (nI (q + 1))) (102 + k) (nI (q + 1)) w = U w := fun w a1 a2 a3 => by rw [upd_o a3, upd_o a2, vv w a1]
  have hbo : ∀ {s : Int32} {w : Nat}, HB s U w → w = 24 ∨ w = 154 ∨ w = 180 → HB s (upd (upd V 10 (nI (q + 1))) (102 + k) (nI (q + 1))) w := fun {s w} h hw => ⟨h.1, fun j hj => by
    rw [gg _ (by omega) (by omega) (by omega)]
    exact h.2 j hj⟩
  refine ⟨RF_q h1 (fun j hj => ?_) rfl (fun w hw => gg w (by omega) (by omega) (by omega)), hbo h2 (by omega), hbo h3' (by omega), ?_, hbo h5 (by omega), ⟨h6.1, h6.2.1, fun j hj hb => (gg _ (by omega) (by omega) (by omega)).trans (h6.2.2 j hj hb)⟩, ⟨h7.1, h7.2.1, fun j hj => by rw [gg _ (by omega) (by omega) (by omega)]; exact h7.2.2 j hj⟩, fun j hj hb => (h8 j hj hb).trans (gg _ (by omega) (by omega) (by omega)).symm, ⟨by rw [gg _ (by omega) (by omega) (by omega)]; exact h9.1, fun j hj hb => by rw [gg _ (by omega) (by omega) (by omega)]; exact h9.2 j hj hb⟩, ?_, ⟨fun i hi => (c1 i hi).trans (gg _ (by omega) (by omega) (by omega)).symm, fun i hi => ⟨(c2 i hi).1.trans (gg _ (by omega) (by omega) (by omega)).symm, (c2 i hi).2.trans (gg _ (by omega) (by omega) (by omega)).symm⟩⟩, h12, h13⟩
  · show u2 (u2 S.1 0 7 _) 0 12 (nI (c + 1)) 0 j = _
    rw [z2_n2 (by omega), z2_n2 (by omega)]
  · show HB (S.1 0 7 &&& ((these &&& bb k) ^^^ -1)) _ 206
    refine ⟨KS_and h4.1, fun j hj => ?_⟩
    rw [bt_not (by omega), b_and, bt_bb (by omega) (by omega), upd_o (by omega), upd_o (by omega), ← hV]
    by_cases e : j = k
    · rw [e, decide_eq_true rfl, Bool.and_true]
      cases d : bt these k
      · rw [if_neg (by decide), Bool.not_false, Bool.and_true, h4.2 k hk]
      · rw [if_pos rfl, upd_s, Bool.not_true, Bool.and_false]; rfl
    · rw [decide_eq_false e, Bool.and_false, Bool.not_false, Bool.and_true, hV, vv _ (by omega), h4.2 j hj]
  · have z4 : ∀ j, j ≠ k → u2 S.2 4 k (Int32.toInt64 (nI (c + 1))) 4 j = S.2 4 j := fun j hj => z2_n2 hj
    refine ⟨c + 1, q + 1, rfl, ?_, by omega, by omega, ISO_mono (ISO_sub b5 (fun _ _ e => e) (fun j hj _ => ⟨rfl, gg _ (by omega) (by omega) (by omega)⟩)) (by omega) (by omega), ?_, ISO_mono (ISO_sub b7 (fun _ _ e => e) (fun j hj hb' => ⟨z4 j (fun e => ?_), gg _ (by omega) (by omega) (by omega)⟩)) (by omega) (by omega)⟩
    · rw [upd_o (by omega), upd_s]
    · refine ISO_new b6 hk z2_eq ?_ (fun j hj hne hb => hb) (fun j hj hne hb => ⟨z4 j hne, ?_⟩)
      · unfold SP
        rw [gg 0 (by omega) (by omega) (by omega), if_pos h3, upd_s]
      · unfold SP
        rw [gg 0 (by omega) (by omega) (by omega), if_pos h3, if_pos h3, gg _ (by omega) (by omega) (by omega)]
    · have := h7.2.1 j hj hb'
      rw [e, hb] at this
      cases this
theorem qBack_P (hk : k < 26) : qBack U P m st (102 + k) = P k := by
  unfold qBack
  rw [if_neg (by omega), if_pos (by omega), show 102 + k - 102 = k by omega]
theorem qBack_m (hk : k < 26) : qBack U P m st (206 + k) = m k := by
  unfold qBack
  rw [if_neg (by omega), if_neg (by omega), if_pos (by omega), show 206 + k - 206 = k by omega]
theorem qBack_10 : qBack U P m st 10 = st := if_pos rfl
theorem qBack_o (h : w ≠ 10) (h2 : w < 102 ∨ 128 ≤ w) (h3 : w < 206 ∨ 232 ≤ w) : qBack U P m st w = U w := by
  unfold qBack
  rw [if_neg h, if_neg (by omega), if_neg (by omega)]
theorem qBack_id : qBack U (fun k => U (102 + k)) (fun k => U (206 + k)) (U 10) = U := funext fun w => by
  unfold qBack
  dsimp only
  by_cases a : w = 10
  · rw [if_pos a, a]
  · rw [if_neg a]
    by_cases b : 102 ≤ w ∧ w < 128
    · rw [if_pos b, show 102 + (w - 102) = w by omega]
    · rw [if_neg b]
      by_cases c : 206 ≤ w ∧ w < 232
      · rw [if_pos c, show 206 + (w - 206) = w by omega]
      · rw [if_neg c]
theorem qBack_up (hk : k < 26) {b : Bool} : qBack U (upd P k v) (if b = true then upd m k 0 else m) v = upd (upd (if b = true then upd (qBack U P m st) (206 + k) 0 else qBack U P m st) 10 v) (102 + k) v := funext fun w => by
  by_cases a : w = 102 + k
  · rw [a, upd_s, qBack_P hk, upd_s]
  · rw [upd_o a]
    by_cases b' : w = 10
    · rw [b', upd_s, qBack_10]
    · rw [upd_o b']
      by_cases d : 102 ≤ w ∧ w < 128
      · obtain ⟨u, rfl⟩ : ∃ u, w = 102 + u := ⟨w - 102, by omega⟩
        rw [qBack_P (by omega), upd_o (by omega)]
        cases b
        · rw [if_neg (by decide), qBack_P (by omega)]
        · rw [if_pos rfl, upd_o (by omega), qBack_P (by omega)]
      · by_cases d2 : 206 ≤ w ∧ w < 232
        · obtain ⟨u, rfl⟩ : ∃ u, w = 206 + u := ⟨w - 206, by omega⟩
          rw [qBack_m (by omega)]
          cases b
          · rw [if_neg (by decide), if_neg (by decide), qBack_m (by omega)]
          · rw [if_pos rfl, if_pos rfl]
            by_cases g : u = k
            · rw [g, upd_s, upd_s]
            · rw [upd_o g, upd_o (by omega), qBack_m (by omega)]
        · rw [qBack_o b' (by omega) (by omega)]
          cases b
          · rw [if_neg (by decide), qBack_o b' (by omega) (by omega)]
          · rw [if_pos rfl, upd_o (by omega), qBack_o b' (by omega) (by omega)]
def tRank (held : Int32) (P : Nat → Int32) (g : Nat) : Nat := nK (fun j => bt held j && decide (P j < P g)) 26
def tLeft (held : Int32) (P m : Nat → Int32) (g : Nat) : Nat := tRank held P g + (if m g = 0 then 0 else nK (bt held) 26)
theorem lt_self {v : Int32} : decide (v < v) = false := decide_eq_false (fun q => Int32.lt_irrefl q)
theorem tRank_self (hf : f < 26) (hb : bt set f = true) (hv : ∀ k, k < 26 → bt set k = true → P k < v) : tRank set (upd P f v) f + 1 = nK (bt set) 26 := by
  unfold tRank
  refine nK_minus 26 hf hb ?_ (fun k hk hne => ?_)
  · show (bt set f && decide (upd P f v f < upd P f v f)) = false
    rw [lt_self, Bool.and_false]
  · show (bt set k && decide (upd P f v k < upd P f v f)) = bt set k
    rw [upd_s, upd_o hne]
    cases e2 : bt set k
    · rfl
    · rw [decide_eq_true (hv k hk e2)]; rfl
theorem tRank_other (hf : f < 26) (hb : bt set f = true) (hne : g ≠ f) (h1 : P f < P g) (h2 : ¬ v < P g) : tRank set (upd P f v) g + 1 = tRank set P g := by
  unfold tRank
  refine nK_minus 26 hf ?_ ?_ (fun k hk hne' => ?_)
  · show (bt set f && decide (P f < P g)) = true
    rw [hb, decide_eq_true h1]; rfl
  · show (bt set f && decide (upd P f v f < upd P f v g)) = false
    rw [upd_s, upd_o hne, decide_eq_false h2, Bool.and_false]
  · show (bt set k && decide (upd P f v k < upd P f v g)) = (bt set k && decide (P k < P g))
    rw [upd_o hne', upd_o hne]
theorem bt_and_bb (hk : k < 26) : (x &&& bb k = 0) ↔ bt x k = false := by
  constructor
  · intro e
    have : bt (x &&& bb k) k = bt 0 k := by rw [e]
    rw [b_and, bt_bb (by omega) (by omega), decide_eq_true rfl, Bool.and_true, b_0] at this
    exact this
  · intro e
    refine b_ext (fun j hj => ?_)
    rw [b_and, bt_bb (by omega) hj, b_0]
    by_cases d : j = k
    · rw [d, e]; rfl
    · rw [decide_eq_false d, Bool.and_false]
theorem turn_eq (hg : g < 26) (hcg : can g = true) (hcan : ∀ k, k < 26 → bt these k = can k) (hh : ∀ k, k < 26 → can k = true → bt set k = true) : ∀ (n1 n2 N : Nat) (S : CS) (P m : Nat → Int32) (st : Int32), RX N L Q S (qBack U P m st) → U 0 = 3 → S.1 0 5 = set → tLeft set P m g < n1 → tLeft set P m g < n2 → N + n1 < 2147483648 →
    ∃ f P' m' st', qTurn U can n2 P m st = some (f, P', m', st') ∧ f < 26 ∧ can f = true ∧ m' f = 0 ∧ RX (N + n1) L Q (kTurn these n1 S) (qBack U P' m' st') ∧ (kTurn these n1 S).1 0 5 = set ∧ lO set ((kTurn these n1 S).2 4) = some f
  | 0, _, _, _, _, _, _, _, _, _, h, _, _ => by omega
  | _ + 1, 0, _, _, _, _, _, _, _, _, _, h, _ => by omega
  | n1 + 1, n2 + 1, N, S, P, m, st, h, h3, hset, l1, l2, hN => by
    have h0 : qBack U P m st 0 = 3 := (qBack_o (by omega) (by omega) (by omega)).trans h3
    have hh2 := h.2.1
    rw [hset] at hh2
    obtain ⟨c, q, -, b2, b3, b4, -, b6, -⟩ := h.2.2.2.2.2.2.2.2.2.1
    rw [hset] at b6
    have hsp : ∀ k, k < 26 → SP (qBack U P m st) k = P k := fun k hk => by
      unfold SP
      rw [if_pos h0, qBack_P hk]
    have hiso : ISO c q set (S.2 4) P := ISO_sub b6 (fun _ _ e => e) (fun k hk _ => ⟨rfl, (hsp k hk).symm⟩)
    have hst : st = nI q := by rw [← b2, qBack_10]
    have hld : ∀ k, k < 26 → qHeld U k = bt set k := fun k hk => by
      unfold qHeld
      have := hh2.2 k hk
      rw [qBack_o (by omega) (by omega) (by omega)] at this
      rw [this]
      cases bt set k <;> rfl
    have hmin : lO set (S.2 4) = qMin U P := lO_q (fun k hk => (hld k hk).symm) (fun i j hi hj ci cj => ISO_dec hiso (by omega) (by omega) hi (by omega) (by rw [← hld i hi]; exact ci) (by rw [← hld j (by omega)]; exact cj))
    have hgh := hh g hg hcg
    cases e : lO set (S.2 4) with
    | none =>
      rw [(lO_none hh2.1).mp e, b_0] at hgh
      cases hgh
    | some f =>
      obtain ⟨f1, f2⟩ := lO_lt f e
      have hm4 : ∀ k, k < 26 → m k = bI (bt (S.1 0 7) k) := fun k hk => by
        rw [← h.2.2.2.1.2 k hk, qBack_m hk]
      have stop : ((these &&& (S.1 0 7 ^^^ -1)) &&& bb f = 0) ↔ ¬ (can f = true ∧ m f = 0) := by
        rw [bt_and_bb f1, bt_not (by omega), hcan f f1, hm4 f f1]
        cases can f <;> cases bt (S.1 0 7) f <;> simp [bI]
      unfold qTurn
      rw [← hmin, e]
      dsimp only
      have ek : kTurn these (n1 + 1) S = if (these &&& (S.1 0 7 ^^^ -1)) &&& bb f = 0 then kTurn these n1 (kTurn1 S these f) else S := by
        show (match lO (S.1 0 5) (S.2 4) with
          | none => S
          | some j => if (these &&& (S.1 0 7 ^^^ -1)) &&& bb j = 0 then kTurn these n1 (kTurn1 S these j) else S) = _
        rw [hset, e]
      rw [ek]
      by_cases d : can f = true ∧ m f = 0
      · rw [if_pos d, if_neg (fun q => stop.mp q d)]
        exact ⟨f, P, m, st, rfl, f1, d.1, d.2, RX_mono h (by omega) (Nat.le_refl _), hset, e⟩
      · rw [if_neg d, if_pos (stop.mpr d)]
        have r1 := RX_turn1 (these := these) h h0 f1 (by rw [hset]; exact f2) (by omega)
        rw [qBack_10, hcan f f1, ← qBack_up f1] at r1
        have hq : st + 1 = nI (q + 1) := by rw [hst]; exact lt_iA (j := q) (k := 1)
        have hs1 : (kTurn1 S these f).1 0 5 = set := hset
        have pb : ∀ k, k < 26 → bt set k = true → ∃ b, b ≤ q ∧ P k = nI b := fun k hk hb => by
          obtain ⟨a, b, x1, -⟩ := hiso
          obtain ⟨-, -, x2, x3⟩ := x1 k hk hb
          exact ⟨b k, x3, x2⟩
        have hlt : tLeft set (upd P f (st + 1)) (if can f = true then upd m f 0 else m) g < tLeft set P m g := by
          unfold tLeft
          by_cases eg : g = f
          · have cf : can f = true := by rw [← eg]; exact hcg
            have mf : ¬ m g = 0 := fun q => d ⟨cf, by rw [← eg]; exact q⟩
            rw [if_neg mf, if_pos cf, eg, upd_s, if_pos rfl]
            have key : tRank set (upd P f (st + 1)) f + 1 = nK (bt set) 26 := tRank_self f1 f2 (fun k hk hb => by
              obtain ⟨b, y1, y2⟩ := pb k hk hb
              rw [y2, hq]
              exact (lt_iL (by omega) (by omega)).mpr (by omega))
            omega
          · have mg : (if can f = true then upd m f 0 else m) g = m g := by
              split
              · exact upd_o eg
              · rfl
            rw [mg]
            have key : tRank set (upd P f (st + 1)) g + 1 = tRank set P g := by
              obtain ⟨bg, y1, y2⟩ := pb g hg hgh
              have a1 := lO_min e hg hgh
              refine tRank_other f1 f2 eg ?_ (fun q => ?_)
              · by_cases q1 : P f < P g
                · exact q1
                · exfalso
                  have a2 : ¬ S.2 4 f < S.2 4 g := fun q => q1 ((ISO_lt hiso (by omega) (by omega) f1 hg f2 hgh).mp q)
                  rw [Int64.lt_iff_toInt_lt] at a2
                  exact eg (ISO_injr hiso (by omega) hg f1 hgh f2 (by omega))
              · rw [hq, y2] at q
                have := (lt_iL (j := _ + 1) (k := bg) (by omega) (by omega)).mp q
                omega
            omega
        obtain ⟨f', P', m', st', r2, r3, r4, r5, r6, r7, r8⟩ := turn_eq hg hcg hcan hh n1 n2 (N + 1) _ _ _ _ r1 h3 hs1 (by omega) (by omega) (by omega)
        exact ⟨f', P', m', st', r2, r3, r4, r5, RX_mono r6 (by omega) (Nat.le_refl _), r7, r8⟩
theorem kChO_some (hs : KS these) (hne : these ≠ 0) (h3 : (S.1 0 0).toInt ≠ 3) : kChO kz S these ≠ none := by
  have l : ∀ {x : Int32} {r : Nat → Int64}, KS x → x ≠ 0 → lO x r ≠ none := fun hx hn e => hn ((lO_none hx).mp e)
  unfold kChO
  rw [if_neg h3]
  split
  · exact l hs hne
  · split
    · exact l hs hne
    · split
      · split
        · rename_i cy
          refine l (KS_and hs) (fun ca => hne (KS_ext hs KS_0 (fun k hk => ?_)))
          have a1 : bt (these &&& (S.1 0 8 ^^^ -1)) k = bt 0 k := by rw [cy]
          have a2 : bt (these &&& S.1 0 8) k = bt 0 k := by rw [ca]
          rw [bt_not (by omega), b_0] at a1
          rw [b_and, b_0] at a2
          rw [b_0]
          cases d : bt these k
          · rfl
          · rw [d] at a1 a2
            cases d2 : bt (S.1 0 8) k
            · rw [d2] at a1; cases a1
            · rw [d2] at a2; cases a2
        · rename_i cy
          split
          · exact l (KS_and hs) cy
          · rename_i cc
            exact l (KS_and hs) (fun e => cc (Or.inr e))
      · split
        · exact l hs hne
        · split
          · split
            · exact l hs hne
            · exact l hs hne
          · exact l hs hne
/-- one put out -/
theorem once_eq (h : RX N L Q S U) (hN : N + 53 < 2147483648) (hL : L < 2147483648) (hK : KY kz kc kw W H) (hF : FW S A B) (hln : LN Q ln) (hy : y < 26) (hb : bt (S.1 0 5) y = false) (hkp : ∀ j, kept = some j → j < 26) (hg : g < 26) (hcg : qCan H U y kept g = true) :
    ∃ U' f, qOnce H A B ln y kept U = some U' ∧ f < 26 ∧ qCan H U y kept f = true ∧ RX (N + 53) L Q (kOut kz (kGo kz kw W S (kThese S kept) y) S) U' ∧ (kOut kz (kGo kz kw W S (kThese S kept) y) S).1 0 5 = S.1 0 5 &&& (bb f ^^^ -1) := by
  obtain ⟨hs, hc⟩ := can_eq h.1 h.2.1 hK hy hb hkp
  generalize hT : kGo kz kw W S (kThese S kept) y = these at hs hc ⊢
  have e0 : S.1 0 0 = U 0 := h.1.1 0 (by omega)
  obtain ⟨r, hr, u0⟩ := h.1.2.2.2.1
  have hh : ∀ k, k < 26 → qCan H U y kept k = true → bt (S.1 0 5) k = true := fun k hk e => (qCan_held h.2.1 hk e).1
  have f5 : ∀ (T : CS) (k : Nat), (kOut1 T k).1 0 5 = T.1 0 5 &&& (bb k ^^^ -1) := fun T k => by
    have a1 : (kOld (kLevel T k) k).1 0 5 = T.1 0 5 := by
      have a2 : (kLevel T k).1 0 5 = T.1 0 5 := by unfold kLevel; split <;> rfl
      rw [← a2]
      unfold kOld kRem kRem0
      split
      · split
        · rfl
        · split <;> rfl
      · rfl
    show (kTake (kOld (kLevel T k) k) k).1 0 5 = _
    rw [← a1]
    unfold kTake kTake0
    split <;> simp (disch := omega) only [cwi_1, cwi_2, z2_eq, z2_n1, z2_n2]
  unfold qOnce kOut
  rw [e0]
  by_cases c3 : U 0 = 3
  · rw [if_pos c3, if_pos c3]
    have hbk : RX N L Q S (qBack U (fun k => U (102 + k)) (fun k => U (206 + k)) (U 10)) := by rw [qBack_id]; exact h
    have hle : tLeft (S.1 0 5) (fun k => U (102 + k)) (fun k => U (206 + k)) g < 52 := by
      unfold tLeft tRank
      dsimp only
      have a1 := nK_lt (f := fun j => bt (S.1 0 5) j && decide (U (102 + j) < U (102 + g))) (j := g) (n := 26) hg (by
        show (bt (S.1 0 5) g && decide (U (102 + g) < U (102 + g))) = false
        rw [lt_self, Bool.and_false]) 26 hg
      have a2 := nK_le (f := bt (S.1 0 5)) 26
      split <;> omega
    obtain ⟨f, P', m', st', t1, t2, t3, t4, t5, t6, t7⟩ := turn_eq (these := these) (can := qCan H U y kept) (set := S.1 0 5) hg hcg hc hh 52 60 N S _ _ _ hbk c3 rfl hle (by omega) (by omega)
    rw [t1]
    have fh : bt (S.1 0 5) f = true := hh f t2 t3
    have hm : bt ((kTurn these 52 S).1 0 7) f = false := by
      have := t5.2.2.2.1.2 f t2
      rw [qBack_m t2, t4] at this
      cases d : bt ((kTurn these 52 S).1 0 7) f
      · rfl
      · rw [d] at this; cases this
    have bf : bt (these &&& ((kTurn these 52 S).1 0 7 ^^^ -1)) f = true := by rw [bt_not (by omega), hc f t2, t3, hm]; rfl
    obtain ⟨c, q, -, -, b3, b4, -, b6, -⟩ := t5.2.2.2.2.2.2.2.2.2.1
    rw [t6] at b6
    have hlO : lO (these &&& ((kTurn these 52 S).1 0 7 ^^^ -1)) ((kTurn these 52 S).2 4) = some f := lO_part b6 (by omega) t7 (KS_and hs) (fun k hk hb => by
      rw [bt_not (by omega), hc k hk] at hb
      exact hh k hk ((Bool.and_eq_true _ _).mp hb).1) bf
    have q0 : (kTurn these 52 S).1 0 0 = 3 := (t5.1.1 0 (by omega)).trans ((qBack_o (by omega) (by omega) (by omega)).trans c3)
    have tI : ((kTurn these 52 S).1 0 0).toInt = 3 := by rw [q0]; rfl
    have hch : kChO kz (kTurn these 52 S) these = some f := by
      unfold kChO
      rw [tI, if_neg (by decide), if_neg (by decide), if_pos (by decide), if_neg (fun e => by rw [e, b_0] at bf; cases bf)]
      exact hlO
    have ho : kOut13 kz these (kTurn these 52 S) = kOut1 (kTurn these 52 S) f := by
      unfold kOut13
      rw [hch]
    rw [ho]
    refine ⟨qOut (qBack U P' m' st') f, f, rfl, t2, t3, ?_, ?_⟩
    · exact RX_mono (RX_out1 t5 t2 (by rw [t6]; exact fh) (by omega) hL) (by omega) (Nat.le_refl _)
    · rw [f5, t6]
  · rw [if_neg c3, if_neg c3]
    have hch := choose_eq h (by omega) hL hK hF hln hs hc c3
    have hne : these ≠ 0 := fun e => by
      have := hc g hg
      rw [e, b_0, hcg] at this
      cases this
    have n3 : (S.1 0 0).toInt ≠ 3 := fun e => by
      rw [e0, u0, lt_iT (by omega)] at e
      have : r = 3 := by omega
      rw [this] at u0
      exact c3 u0
    have hsome := kChO_some (kz := kz) hs hne n3
    cases e : kChO kz S these with
    | none => exact absurd e hsome
    | some f =>
      rw [e] at hch
      rw [← hch]
      obtain ⟨g1, g2⟩ := qGo_lt f hch.symm
      have ho : kOut13 kz these S = kOut1 S f := by
        unfold kOut13
        rw [e]
      rw [ho]
      refine ⟨qOut U f, f, rfl, g1, g2, RX_mono (RX_out1 h g1 (hh f g1 g2) (by omega) hL) (by omega) (Nat.le_refl _), ?_⟩
      rw [f5]
end Ri'
