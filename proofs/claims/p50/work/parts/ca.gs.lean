/-! THE BENCH between any changes: what holds of it whatever is done -/
def GS (z W : Nat → Nat) (T : BT) (n : Nat) : Prop := (∃ kf fs, VL kf fs W n T) ∧ (∀ i, i < 6 → IG z (T.2 i)) ∧ SZ (T.1 2) z
section Ck
variable {S S' S2 Q B B' P : CS} {i j k m n y e s t p x f ro wr ch : Nat} {v v' now mm u nx : Int32} {kz kc kw : Nat → Int32} {W kf kf' fs z c : Nat → Nat} {H H' : Nat → Nat → Int32} {T T' T2 : BT}
theorem SZ_cg (h : SZ kz z) (e : KZ kz kw) : SZ kw z := fun k hk => by rw [e k hk]; exact h k hk
theorem GS_cg (g : BEq T T2) (h : GS z W T n) : GS z W T2 n := by
  obtain ⟨⟨kf, fs, v⟩, hI, hz⟩ := h
  exact ⟨⟨kf, fs, VL_cg v g⟩, fun i hi => IG_cg (g.2.2.2.2 i hi) (hI i hi), SZ_cg hz (fun k hk => (g.2.2.1 k hk).1)⟩
theorem empty_IG (h1 : S.1 0 1 = nI ro) (hro : ro ≤ 20) : IG z (kEmpty S nx) := by
  obtain ⟨hA, ro', q1, q2, q3, o, X, wr, F, q, hC⟩ := INV_IG (empty_INV (z := z) (c := fun _ => 0) h1 hro)
  obtain ⟨b0, -, b5, b7, -⟩ := kEmpty_0 (S := S) (nx := 0)
  obtain ⟨a0, -, a5, a7, -⟩ := kEmpty_0 (S := S) (nx := nx)
  have d5 : (kEmpty S nx).1 0 5 = (kEmpty S 0).1 0 5 := by rw [a5 5 (by omega) (by omega), b5 5 (by omega) (by omega)]
  have d6 : (kEmpty S nx).1 0 6 = (kEmpty S 0).1 0 6 := by rw [a5 6 (by omega) (by omega), b5 6 (by omega) (by omega)]
  have d9 : (kEmpty S nx).1 0 9 = (kEmpty S 0).1 0 9 := by rw [a5 9 (by omega) (by omega), b5 9 (by omega) (by omega)]
  exact ⟨IA_cg d5 d6 d9 hA, ro, (a0 1 (by omega)).trans h1, hro, by rw [a5 5 (by omega) (by omega), uS_0 (fun k _ => b_0 k)]; exact Nat.zero_le _, o, X, wr, F, q, IC_cg d5 d6 d9 (by rw [a0 3 (by omega), b0 3 (by omega)]) (fun j hj => by rw [a7 j (by omega), b7 j (by omega)]) hC⟩
theorem empty_L11 : ∀ k, k < 26 → (kEmpty S nx).2 11 k = -1 := fun k hk => (ZR_empty (S := S) (nx := nx)).2.2.2.2.1 k hk |>.2.2.1
theorem GS_flush (h : GS z W T n) (hc : ch < 6) : GS z W (flushT ch T) n := by
  obtain ⟨⟨kf, fs, v⟩, hI, hz⟩ := h
  have e : ∀ i, (flushT ch T).2 i = if i = ch then kFlush (T.2 ch) else T.2 i := fun i => rfl
  refine ⟨⟨kf, fs, v.1, v.2.1, v.2.2.1, v.2.2.2.1, fun i hi => ⟨(v.2.2.2.2 i hi).1, ?_⟩⟩, fun i hi => ?_, hz⟩
  · rw [e]
    by_cases w : i = ch
    · rw [if_pos w, w]
      exact fun k hk => (v.2.2.2.2 ch hc).2 k hk
    · rw [if_neg w]
      exact (v.2.2.2.2 i hi).2
  · rw [e]
    split
    · exact flush_IG (hI ch hc)
    · exact hI i hi
theorem GS_pass (h : GS z W T n) : GS z W (passT (nI m) T) n := by
  obtain ⟨⟨kf, fs, v⟩, hI, hz⟩ := h
  have e : ∀ i, i < 6 → (passT (nI m) T).2 i = (kLapseAt (T.1 0 4 + nI m) (T.2 i)).1 := fun i hi => by
    show (kLapses (T.1 0 4 + nI m) 6 T.2 0).1 i = _
    rw [kLapses_i 6 T.2 0 (Nat.le_refl _) i hi, if_pos (by omega)]
  have et : ∀ t, t ≠ 0 → (passT (nI m) T).1 t = T.1 t := fun t ht => z2_n1 ht
  refine ⟨⟨kf, fs, fun i hi => by rw [et 6 (by decide)]; exact v.1 i hi, by rw [et 5 (by decide)]; exact v.2.1, v.2.2.1, ⟨fun k hk => by rw [et 4 (by decide)]; exact v.2.2.2.1.1 k hk, fun k hk => by rw [et 2 (by decide)]; exact v.2.2.2.1.2 k hk⟩, fun i hi => ⟨(v.2.2.2.2 i hi).1, ?_⟩⟩, fun i hi => ?_, ?_⟩
  · rw [e i hi]; exact LsA_p (v.2.2.2.2 i hi).2 (kLapseAt_p Kp.rfl')
  · rw [e i hi]; exact lapse_IG (hI i hi)
  · rw [et 2 (by decide)]; exact hz
theorem GS_set (h : GS z W T n) (hc : ch < 6) {ru la mo : Int32} (hro : ro ≤ 20) : GS z W (setT ch ru (nI ro) la mo n T) n := by
  obtain ⟨⟨kf, fs, v⟩, hI, hz⟩ := h
  have e : ∀ i, (setT ch ru (nI ro) la mo n T).2 i = if i = ch then kEmpty (kSetUp (T.2 ch) ru (nI ro) la mo) (nI n) else T.2 i := fun i => rfl
  refine ⟨⟨kf, fun i => if i = ch then n else fs i, v.1, v.2.1, v.2.2.1, v.2.2.2.1, fun i hi => ?_⟩, fun i hi => ?_, hz⟩
  · rw [e]
    by_cases q : i = ch
    · rw [if_pos q]
      show (if i = ch then n else fs i) ≤ n ∧ LsA _ kf (if i = ch then n else fs i) n
      rw [if_pos q]
      exact ⟨Nat.le_refl _, LsA_0 empty_L11 (Nat.le_refl _)⟩
    · rw [if_neg q]
      show (if i = ch then n else fs i) ≤ n ∧ LsA _ kf (if i = ch then n else fs i) n
      rw [if_neg q]
      exact v.2.2.2.2 i hi
  · rw [e]
    split
    · exact empty_IG setUp_1.2.1 hro
    · exact hI i hi
theorem GS_clear (h : GS z W T n) : GS z W (clearT T) 0 := by
  obtain ⟨⟨kf, fs, v⟩, hI, hz⟩ := h
  have e : ∀ i, i < 6 → (clearT T).2 i = kEmpty (T.2 i) 0 := fun i hi => by
    show kEmpties 6 T.2 i = _
    rw [kEmpties_i 6 T.2 (Nat.le_refl _)]
    exact if_pos (by omega)
  have et : ∀ t, t ≠ 5 → (clearT T).1 t = T.1 t := fun t ht => z2_n1 ht
  refine ⟨⟨kf, fun _ => 0, fun i hi => by omega, (show u2 T.1 5 3 0 5 3 = nI 0 from z2_eq), by omega, ⟨fun k hk => by rw [et 4 (by decide)]; exact v.2.2.2.1.1 k hk, fun k hk => by rw [et 2 (by decide)]; exact v.2.2.2.1.2 k hk⟩, fun i hi => ⟨Nat.le_refl _, ?_⟩⟩, fun i hi => ?_, by rw [et 2 (by decide)]; exact hz⟩
  · rw [e i hi]; exact LsA_0 empty_L11 (Nat.le_refl _)
  · obtain ⟨-, ro, h1, hro, -⟩ := hI i hi
    rw [e i hi]; exact empty_IG h1 hro
/-- requests keep it -/
theorem ask_IG (v : VL kf fs W n T) (hz : SZ (T.1 2) z) (hI : ∀ i, i < 6 → IG z (T.2 i)) (hk : k < 26) {w : Bool} : (∀ i, i < 6 → IG z ((askT kf fs W n k w T).2 i)) ∧ SZ ((askT kf fs W n k w T).1 2) z := by
  have q : ∀ t, t = 2 ∨ t = 3 ∨ t = 4 → kApp T.1 n k w (T.1 0 4) t = T.1 t := fun t ht => by unfold kApp; rw [z2_n1 (by omega), z2_n1 (by omega), z2_n1 (by omega), z2_n1 (by omega)]
  have hk' : ∀ i, i < n + 1 → kfU kf n k i < 26 := fun i hi => by
    by_cases q : i = n
    · rw [q, kfU_n]; exact hk
    · rw [kfU_o q]; exact (v.1 i (by omega)).1
  refine ⟨fun i hi => ?_, ?_⟩
  · show IG z (if i < 6 then kDo (kApp T.1 n k w (T.1 0 4)) W (kfU kf n k) (fs i) n (T.2 i) else T.2 i)
    rw [if_pos hi]
    unfold kDo
    rw [q 2 (by omega)]
    exact feed_IG hz (hI i hi) (hk' n (by omega)) (kAhead_26 hk')
  · show SZ (kApp T.1 n k w (T.1 0 4) 2) z
    rw [q 2 (by omega)]; exact hz
theorem run_IG (hz : SZ (H 2) z) (hB : IG z B) : ∀ (n : Nat), (∀ i, i < n → kf i < 26) → IG z (rRun H W kf n B)
  | 0, _ => hB
  | n + 1, hk => by
    rw [rRun_s]
    exact feed_IG hz (lapse_IG (run_IG hz hB n (fun i hi => hk i (by omega)))) (hk n (by omega)) (kAhead_26 hk)
theorem run_Ls (hB : ∀ k, k < 26 → B.2 11 k = -1) : ∀ (n : Nat), LsA (rRun H W kf n B) kf 0 n
  | 0 => LsA_0 hB (Nat.le_refl _)
  | n + 1 => by
    rw [rRun_s]
    exact LsA_step (LsA_p (run_Ls hB n) (kLapseAt_p Kp.rfl')) (Nat.zero_le _)
theorem GS_repl (v : VL kf fs W n T) (hI : ∀ i, i < 6 → IG z (T.2 i)) (hz : SZ (T.1 2) z) : GS z W (replT kf W n T) n := by
  have hk : ∀ i, i < n → kf i < 26 := fun i hi => (v.1 i hi).1
  have e : ∀ i, i < 6 → (replT kf W n T).2 i = (kLapseAt (T.1 0 4) (rRun T.1 W kf n (kEmpty (T.2 i) 0))).1 := fun i hi => if_pos hi
  refine ⟨⟨kf, fun _ => 0, v.1, v.2.1, v.2.2.1, v.2.2.2.1, fun i hi => ⟨Nat.zero_le _, ?_⟩⟩, fun i hi => ?_, hz⟩
  · rw [e i hi]
    exact LsA_p (run_Ls empty_L11 n) (kLapseAt_p Kp.rfl')
  · obtain ⟨-, ro, h1, hro, -⟩ := hI i hi
    rw [e i hi]
    exact lapse_IG (run_IG hz (empty_IG h1 hro) n hk)
theorem IG_KS (h : IG z S) : KS (S.1 0 5) := h.1.1
theorem IG_dirty (h : IG z S) : ¬ pPop (S.1 0 5) < pPop (S.1 0 6) := by
  have n1 := nK_le (f := bt (S.1 0 5)) 26
  have n2 := nK_le (f := bt (S.1 0 6)) 26
  have := nK_sub (S := bt (S.1 0 6)) (T := bt (S.1 0 5)) h.1.2.2.2.1
  rw [pPop_nK h.1.1, pPop_nK h.1.2.1, nI_ltP (by omega) (by omega)]
  omega
end Ck
