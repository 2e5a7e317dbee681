/-! THE RELATION: keys that lapse, a key dropped, writes flushed */ -/
section Rp'
variable {N L : Nat} {Q : (Nat → Int32) × (Nat → Int32)} {S S' : CS} {T : BT} {G : Nat → Nat → Int32} {H U U1 U2 U' A B : Nat → Int32} {V V' : Nat → Nat → Int32} {P : Nat → CS} {c k i j t e y w r q n a g f b R : Nat} {kz kc kw : Nat → Int32} {W kf kf' fs : Nat → Nat} {ln room present write bits x z m v v' : Int32} {ahead : Option Nat}
theorem RC_p (h : RC kf f t S U U1 U2) (hx : RX (2800 * (t - f)) (840000 * (2 * (t - f))) (S.1 13, S.1 14) S' U') (h6 : S'.1 6 = S.1 6) (h10 : S'.1 10 = S.1 10) (l11 : S'.2 11 = S.2 11) (l12 : S'.2 12 = S.2 12) (lo : ∀ w, w < 10 → U' w = U w) (hi : ∀ w, 362 ≤ w → w < 662 → U' w = U w) : RC kf f t S' U' U1 U2 := by
  obtain ⟨h1, h2, h3, h4, h5, h6', ⟨h7, h8, h9⟩, s1, s2, h10'⟩ := h
  have e13 : S'.1 13 = S.1 13 := hx.2.2.2.2.2.2.2.2.2.2.2.1
  have e14 : S'.1 14 = S.1 14 := hx.2.2.2.2.2.2.2.2.2.2.2.2
  refine ⟨by rw [e13, e14]; exact hx, (lo 9 (by omega)).trans h2, h3, h4, fun k hk => by rw [l11]; exact h5 k hk, fun k hk => by rw [l12]; exact h6' k hk, ⟨by rw [h6]; exact h7, by rw [h6]; exact h8, fun i hi' => by rw [hi _ (by omega) (by omega), h10]; exact h9 i hi'⟩, ?_, ?_, fun q => ?_⟩
  · rw [e13, lo 1 (by omega)]; exact s1
  · rw [e14, lo 1 (by omega)]; exact s2
  · rw [e13, e14]
    exact h10' (by rw [← lo 0 (by omega)]; exact q)
theorem RC_Kp (h : RC kf f t S U U1 U2) (hx : RX (2800 * (t - f)) (840000 * (2 * (t - f))) (S.1 13, S.1 14) S' U') (g : Kp S S') (lo : ∀ w, w < 10 → U' w = U w) (hi : ∀ w, 362 ≤ w → w < 662 → U' w = U w) : RC kf f t S' U' U1 U2 :=
  RC_p h hx g.2.2.1 g.2.2.2.2.2.1 g.2.2.2.2.2.2.1 g.2.2.2.2.2.2.2 lo hi
theorem RC_take (h : RC kf f t S U U1 U2) (hk : k < 26) : RC kf f t (kTake S k) (qLeaves U k) U1 U2 := RC_Kp h (RX_take h.1 hk) (kTake_p Kp.rfl') (fun w hw => qLeaves_lo hw) (fun w hw _ => qLeaves_hi hw hk)
theorem cwi_cwi : cwi (cwi S t j v) t j v' = cwi S t j v' := by
  unfold cwi
  congr 1
  funext a b
  show (if a = t ∧ b = j then v' else if a = t ∧ b = j then v else S.1 a b) = if a = t ∧ b = j then v' else S.1 a b
  by_cases d : a = t ∧ b = j
  · rw [if_pos d, if_pos d]
  · rw [if_neg d, if_neg d, if_neg d]
theorem cwi_id (h : S.1 t j = v) : cwi S t j v = S := by
  unfold cwi
  refine Prod.ext ?_ rfl
  funext a b
  show (if a = t ∧ b = j then v else S.1 a b) = S.1 a b
  by_cases d : a = t ∧ b = j
  · rw [if_pos d, d.1, d.2, h]
  · rw [if_neg d]
theorem kTake0_73 : kTake0 (cwi S 7 3 v) k = cwi (kTake0 S k) 7 3 v := by
  show cwi (cwi (cwi (cwi (cwi (cwi S 7 3 v) 0 5 (S.1 0 5 &&& (bb k ^^^ -1))) 0 6 (S.1 0 6 &&& (bb k ^^^ -1))) 0 7 (S.1 0 7 &&& (bb k ^^^ -1))) 0 8 (S.1 0 8 &&& (bb k ^^^ -1))) 0 9 (S.1 0 9 &&& (bb k ^^^ -1)) = _
  rw [cwi_sw (t := 7) (j := 3) (t' := 0) (j' := 5) (by omega), cwi_sw (t := 7) (j := 3) (t' := 0) (j' := 6) (by omega), cwi_sw (t := 7) (j := 3) (t' := 0) (j' := 7) (by omega), cwi_sw (t := 7) (j := 3) (t' := 0) (j' := 8) (by omega), cwi_sw (t := 7) (j := 3) (t' := 0) (j' := 9) (by omega)]
  rfl
theorem kTake_73 : kTake (cwi S 7 3 v) k = cwi (kTake S k) 7 3 v := by
  show kTake0 (if bt (S.1 0 6) k = true then cwi (cwi S 7 3 v) 7 4 (S.1 7 4 + 1) else cwi S 7 3 v) k = cwi (kTake0 (if bt (S.1 0 6) k = true then cwi S 7 4 (S.1 7 4 + 1) else S) k) 7 3 v
  split
  · rw [cwi_sw (j := 3) (j' := 4) (by omega), kTake0_73]
  · exact kTake0_73
theorem kTake_at73 : (kTake S k).1 7 3 = S.1 7 3 := by
  unfold kTake kTake0
  split <;> rfl
theorem RX_lapse (hx : x = H 1) : ∀ (n : Nat) (S : CS) (m : Int32) (U : Nat → Int32) (z : Int32), n ≤ 26 → RX N L Q (cwi S 7 3 (S.1 7 3 + m)) U → 0 < U 2 →
    RX N L Q (cwi (kLapse x n S m).1 7 3 ((kLapse x n S m).1.1 7 3 + (kLapse x n S m).2)) (qLapse H n U z).1 ∧ (qLapse H n U z).2 + m = z + (kLapse x n S m).2
  | 0, S, m, U, z, _, h, _ => ⟨h, rfl⟩
  | n + 1, S, m, U, z, hn, h, h2 => by
    have hk : 25 - n < 26 := by omega
    have e2 : S.1 0 2 = U 2 := h.1.1 2 (by omega)
    have hb := HB_1 h.2.1 hk
    have hb' : (U (24 + (25 - n)) = 1) = (bt (S.1 0 5) (25 - n) = true) := hb
    have ek : kLapse x (n + 1) S m = if bt (S.1 0 5) (25 - n) = true ∧ ¬ x - S.1 2 (25 - n) < S.1 0 2 then kLapse x n (kTake S (25 - n)) (m + 1) else kLapse x n S m := by
      show (if 0 < S.1 0 2 then _ else _) = _
      rw [if_pos (by rw [e2]; exact h2)]
    have eq : qLapse H (n + 1) U z = if qLapse1 H U (25 - n) = true then qLapse H n (qLeaves (upd U 15 (U 15 + 1)) (25 - n)) (z + 1) else qLapse H n U z := rfl
    have hc : (bt (S.1 0 5) (25 - n) = true ∧ ¬ x - S.1 2 (25 - n) < S.1 0 2) ↔ qLapse1 H U (25 - n) = true := by
      unfold qLapse1
      rw [Bool.and_eq_true, hx, e2]
      constructor
      · rintro ⟨a, b⟩
        have em : S.1 2 (25 - n) = U (128 + (25 - n)) := h.2.2.2.2.2.2.2.1 _ hk a
        rw [em] at b
        exact ⟨decide_eq_true (hb'.mpr a), by rw [decide_eq_false b]; rfl⟩
      · rintro ⟨a, b⟩
        have a' := hb'.mp (of_decide_eq_true a)
        have em : S.1 2 (25 - n) = U (128 + (25 - n)) := h.2.2.2.2.2.2.2.1 _ hk a'
        rw [em]
        exact ⟨a', fun q => by rw [decide_eq_true q] at b; cases b⟩
    rw [ek, eq]
    by_cases d : qLapse1 H U (25 - n) = true
    · rw [if_pos (hc.mpr d), if_pos d]
      have a1 := RX_take (RX_cnt (j := 3) (v := 1) h (by omega)) hk
      have e1 : cwi (cwi S 7 3 (S.1 7 3 + m)) 7 3 ((cwi S 7 3 (S.1 7 3 + m)).1 7 3 + 1) = cwi S 7 3 (S.1 7 3 + (m + 1)) := by
        rw [cwi_cwi, cwi_e, Int32.add_assoc]
      rw [e1, kTake_73] at a1
      have e3 : S.1 7 3 = (kTake S (25 - n)).1 7 3 := kTake_at73.symm
      rw [e3] at a1
      have a2 := RX_lapse hx n (kTake S (25 - n)) (m + 1) (qLeaves (upd U 15 (U 15 + 1)) (25 - n)) (z + 1) (by omega) a1 (by rw [qLeaves_lo (by omega), upd_o (by omega)]; exact h2)
      refine ⟨a2.1, ?_⟩
      have a3 := a2.2
      have : (qLapse H n (qLeaves (upd U 15 (U 15 + 1)) (25 - n)) (z + 1)).2 + m + 1 = z + (kLapse x n (kTake S (25 - n)) (m + 1)).2 + 1 := by
        rw [Int32.add_assoc, a3, Int32.add_assoc, Int32.add_assoc, Int32.add_comm 1]
      exact (Int32.add_left_inj 1).mp this
    · rw [if_neg (fun q => d (hc.mp q)), if_neg d]
      exact RX_lapse hx n S m U z (by omega) h h2
theorem qLapse_hi (hw : 362 ≤ w) : ∀ (n : Nat) (U : Nat → Int32) (z : Int32), n ≤ 26 → (qLapse H n U z).1 w = U w
  | 0, U, z, _ => rfl
  | n + 1, U, z, hn => by
    unfold qLapse
    split
    · rw [qLapse_hi hw n _ _ (by omega), qLeaves_hi hw (by omega), upd_o (by omega)]
    · exact qLapse_hi hw n U z (by omega)
/-- the keys of a cache that lapse -/
theorem RC_lapse (h : RC kf f t S U U1 U2) (hx : x = H 1) : RC kf f t (kLapseAt x S).1 (qLapseC H U z).1 U1 U2 ∧ (qLapseC H U z).2 = z + (kLapseAt x S).2 := by
  have kp : Kp S (kLapseAt x S).1 := kLapseAt_p Kp.rfl'
  have e2 : S.1 0 2 = U 2 := h.1.1.1 2 (by omega)
  have e : kLapseAt x S = (cwi (kLapse x 26 S 0).1 7 3 ((kLapse x 26 S 0).1.1 7 3 + (kLapse x 26 S 0).2), (kLapse x 26 S 0).2) := rfl
  unfold qLapseC
  by_cases d : 0 < U 2
  · rw [if_pos d]
    have h0 : RX (2800 * (t - f)) (840000 * (2 * (t - f))) (S.1 13, S.1 14) (cwi S 7 3 (S.1 7 3 + 0)) U := by rw [cwi_id (Int32.add_zero _).symm]; exact h.1
    have a := RX_lapse (z := z) hx 26 S 0 U (Nat.le_refl _) h0 d
    rw [e] at kp ⊢
    refine ⟨RC_Kp h a.1 kp (fun w hw => qLapse_lo hw 26 U z) (fun w hw _ => qLapse_hi hw 26 U z (Nat.le_refl _)), ?_⟩
    rw [← a.2, Int32.add_zero]
  · rw [if_neg d]
    have e0 : kLapse x 26 S 0 = (S, 0) := by
      show (if 0 < S.1 0 2 then _ else (S, (0 : Int32))) = _
      rw [if_neg (by rw [e2]; exact d)]
    rw [e, e0]
    refine ⟨?_, (Int32.add_zero _).symm⟩
    show RC kf f t (cwi S 7 3 (S.1 7 3 + 0)) U U1 U2
    rw [cwi_id (Int32.add_zero _).symm]
    exact h
theorem RQ_up (h : RQ kf fs t P V) (hc : c < 6) (hr : RC kf (fs c) t S U (V (6 + 2 * c)) (V (7 + 2 * c))) : RQ kf fs t (u1 P c S) (u1 V c U) := fun d hd => by
  rw [u1_n (b := 6 + 2 * d) (by omega), u1_n (b := 7 + 2 * d) (by omega)]
  by_cases e : d = c
  · rw [e, u1e, u1e]; exact hr
  · rw [u1_n e, u1_n e]; exact h d hd
theorem RQ_lapses (hx : x = H 1) : ∀ (n : Nat) (P : Nat → CS) (V : Nat → Nat → Int32) (m : Int32), n ≤ 6 → RQ kf fs t P V → RQ kf fs t (kLapses x n P m).1 (qLapses H n V m).1 ∧ (qLapses H n V m).2 = (kLapses x n P m).2
  | 0, P, V, m, _, h => ⟨h, rfl⟩
  | n + 1, P, V, m, hn, h => by
    have hc : 5 - n < 6 := by omega
    obtain ⟨a1, a2⟩ := RC_lapse (z := m) (h (5 - n) hc) hx
    have b := RQ_lapses hx n (u1 P (5 - n) (kLapseAt x (P (5 - n))).1) (u1 V (5 - n) (qLapseC H (V (5 - n)) m).1) (m + (kLapseAt x (P (5 - n))).2) (by omega) (RQ_up h hc a1)
    unfold qLapses
    rw [a2]
    exact b
/-- writes flushed -/
theorem RX_flush (h : RX N L Q S U) : RX N L Q (kFlush S) (qFlush U) := by
  obtain ⟨h1, h2, h3, h4, h5, h6, h7, h8, h9, ⟨c, q, b1, b2, b3, b4, b5, b6, b7⟩, ⟨c1, c2⟩, h12, h13⟩ := h
  have hp := HB_pop h3
  have gg : ∀ w, w ≠ 16 → (w < 154 ∨ 180 ≤ w) → qFlush U w = U w := fun w a b => by
    unfold qFlush
    rw [upd_o a, if_neg (by omega)]
  have hbo : ∀ {s : Int32} {w : Nat}, HB s U w → w = 24 ∨ w = 206 ∨ w = 180 → HB s (qFlush U) w := fun {s w} h hw => ⟨h.1, fun j hj => by
    rw [gg _ (by omega) (by omega)]
    exact h.2 j hj⟩
  unfold kFlush
  refine ⟨RF_q h1 (fun j hj => ?_) rfl (fun w hw => gg w (by omega) (by omega)), hbo h2 (by omega), ?_, hbo h4 (by omega), hbo h5 (by omega), ⟨h6.1, h6.2.1, fun j hj hb => (gg _ (by omega) (by omega)).trans (h6.2.2 j hj hb)⟩, ⟨h7.1, h7.2.1, fun j hj => by rw [gg _ (by omega) (by omega)]; exact h7.2.2 j hj⟩, fun j hj hb => (h8 j hj hb).trans (gg _ (by omega) (by omega)).symm, ⟨by rw [gg _ (by omega) (by omega)]; exact h9.1, fun j hj hb => by rw [gg _ (by omega) (by omega)]; exact h9.2 j hj hb⟩, ⟨c, q, b1, (gg _ (by omega) (by omega)).trans b2, b3, b4, ISO_sub b5 (fun _ _ e => e) (fun k hk _ => ⟨rfl, gg _ (by omega) (by omega)⟩), ISO_sub b6 (fun _ _ e => e) (fun k hk _ => ⟨rfl, ?_⟩), ISO_sub b7 (fun _ _ e => e) (fun k hk _ => ⟨rfl, gg _ (by omega) (by omega)⟩)⟩, ⟨fun j hj => ?_, fun i hi => ⟨(c2 i hi).1.trans (gg _ (by omega) (by omega)).symm, (c2 i hi).2.trans (gg _ (by omega) (by omega)).symm⟩⟩, h12, h13⟩
  · show u2 (u2 S.1 0 6 0) 7 4 (S.1 7 4 + pPop (S.1 0 6)) 0 j = _
    rw [z2_n1 (by omega), z2_n2 (by omega)]
  · refine ⟨KS_0, fun j hj => ?_⟩
    unfold qFlush
    rw [upd_o (by omega), if_pos (by omega)]
    show 0 = bI (bt 0 j)
    rw [b_0]
    rfl
  · unfold SP
    rw [gg _ (by omega) (by omega), gg _ (by omega) (by omega), gg _ (by omega) (by omega)]
  · by_cases d : j = 4
    · rw [d, cwi_e, c1 4 (by omega), hp]
      unfold qFlush
      rw [upd_s]
    · rw [cwi_n d, gg _ (by omega) (by omega)]
      exact c1 j hj
theorem RC_flush (h : RC kf f t S U U1 U2) : RC kf f t (kFlush S) (qFlush U) U1 U2 := by
  refine RC_p h (RX_flush h.1) rfl rfl rfl rfl (fun w hw => ?_) (fun w hw _ => ?_)
  · unfold qFlush
    rw [upd_o (by omega), if_neg (by omega)]
  · unfold qFlush
    rw [upd_o (by omega), if_neg (by omega)]
/-- a bench with one cache changed alike -/
theorem RB_up (h : RB kf fs W n T H V) (hc : c < 6) (hr : RC kf (fs c) n S U (V (6 + 2 * c)) (V (7 + 2 * c))) : RB kf fs W n (T.1, u1 T.2 c S) H (u1 V c U) := by
  obtain ⟨h1, h2, h3, h4, h5, h6, h7, h8⟩ := h
  exact ⟨h1, h2, h3, h4, h5, h6, h7, RQ_up h8 hc hr⟩
/-- time passes -/
theorem RB_pass (h : RB kf fs W n T H V) : RB kf fs W n (u2 T.1 0 4 (T.1 0 4 + x), (kLapses (T.1 0 4 + x) 6 T.2 0).1) (upd H 1 (H 1 + x)) (qLapses (upd H 1 (H 1 + x)) 6 V 0).1 ∧ (qLapses (upd H 1 (H 1 + x)) 6 V 0).2 = (kLapses (T.1 0 4 + x) 6 T.2 0).2 := by
  obtain ⟨h1, h2, h3, h4, h5, h6, h7, h8⟩ := h
  have a := RQ_lapses (x := T.1 0 4 + x) (H := upd H 1 (H 1 + x)) (by rw [upd_s, h4]) 6 T.2 V 0 (Nat.le_refl _) h8
  refine ⟨⟨h1, ?_, ?_, ?_, fun k hk => ?_, fun i hi => ?_, h7, a.1⟩, a.2⟩
  · show u2 T.1 0 4 (T.1 0 4 + x) 5 3 = nI n
    rw [z2_n1 (by omega)]
    exact h2
  · rw [upd_o (by omega)]
    exact h3
  · show u2 T.1 0 4 (T.1 0 4 + x) 0 4 = upd H 1 (H 1 + x) 1
    rw [z2_eq, upd_s, h4]
  · show (∃ m, 1 ≤ m ∧ m ≤ 8 ∧ u2 T.1 0 4 (T.1 0 4 + x) 2 k = nI m ∧ upd H 1 (H 1 + x) (2 + k) = nI m) ∧ (∃ m, m ≤ 1000 ∧ u2 T.1 0 4 (T.1 0 4 + x) 3 k = nI m ∧ upd H 1 (H 1 + x) (28 + k) = nI m) ∧ W k < 4 ∧ u2 T.1 0 4 (T.1 0 4 + x) 4 k = nI (W k) ∧ upd H 1 (H 1 + x) (54 + k) = nI (W k)
    rw [z2_n1 (by omega), z2_n1 (by omega), z2_n1 (by omega), upd_o (by omega), upd_o (by omega), upd_o (by omega)]
    exact h5 k hk
  · show kf i < 26 ∧ u2 T.1 0 4 (T.1 0 4 + x) 6 i = nI (kf i) ∧ upd H 1 (H 1 + x) (80 + i) = nI (kf i) ∧ (∃ w : Bool, u2 T.1 0 4 (T.1 0 4 + x) 7 i = bI w ∧ upd H 1 (H 1 + x) (380 + i) = bI w) ∧ u2 T.1 0 4 (T.1 0 4 + x) 8 i = upd H 1 (H 1 + x) (680 + i)
    rw [z2_n1 (by omega), z2_n1 (by omega), z2_n1 (by omega), upd_o (by omega), upd_o (by omega), upd_o (by omega)]
    exact h6 i hi
end Rp'
