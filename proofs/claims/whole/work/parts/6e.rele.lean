/-! THE RELATION: a bench; a request asked -/
def FS (fs : Nat → Nat) : Prop := ∀ c, c < 6 → fs (6 + 2 * c) = fs c ∧ fs (7 + 2 * c) = fs c
def RQ (kf fs : Nat → Nat) (t : Nat) (Q : Nat → CS) (V : Nat → Nat → Int32) : Prop := ∀ c, c < 6 → RC kf (fs c) t (Q c) (V c) (V (6 + 2 * c)) (V (7 + 2 * c))
def RB (kf fs W : Nat → Nat) (n : Nat) (T : BT) (H : Nat → Int32) (V : Nat → Nat → Int32) : Prop :=
  n ≤ 300 ∧ T.1 5 3 = nI n ∧ H 0 = nI n ∧ T.1 0 4 = H 1 ∧ KY (T.1 2) (T.1 3) (T.1 4) W H ∧
  (∀ i, i < n → kf i < 26 ∧ T.1 6 i = nI (kf i) ∧ H (80 + i) = nI (kf i) ∧ (∃ w : Bool, T.1 7 i = bI w ∧ H (380 + i) = bI w) ∧ T.1 8 i = H (680 + i)) ∧ FS fs ∧ RQ kf fs n T.2 V
section Ro'
variable {N L : Nat} {S S' : CS} {T : BT} {G : Nat → Nat → Int32} {H U U1 U2 U' A B : Nat → Int32} {V V' : Nat → Nat → Int32} {Q : Nat → CS} {c k i j t e x y w r q n a g f b R : Nat} {kz kc kw : Nat → Int32} {W kf kf' fs : Nat → Nat} {ln room present write bits : Int32} {ahead : Option Nat}
theorem lastTo_kf : ∀ (t : Nat), (∀ i, i < t → kf i = kf' i) → lastTo kf k f t = lastTo kf' k f t
  | 0, _ => rfl
  | t + 1, h => by
    unfold lastTo
    rw [lastTo_kf t (fun i hi => h i (by omega)), h t (by omega)]
theorem cntTo_kf : ∀ (t : Nat), (∀ i, i < t → kf i = kf' i) → cntTo kf k f t = cntTo kf' k f t
  | 0, _ => rfl
  | t + 1, h => by
    unfold cntTo
    rw [cntTo_kf t (fun i hi => h i (by omega)), h t (by omega)]
theorem fwN_kf : ∀ (t : Nat), (∀ i, i < t → kf i = kf' i) → fwN kf k f t = fwN kf' k f t
  | 0, _ => rfl
  | t + 1, h => by
    unfold fwN
    rw [fwN_kf t (fun i hi => h i (by omega)), h t (by omega)]
theorem RC_kf (h : RC kf f t S U U1 U2) (hk : ∀ i, i < t → kf i = kf' i) : RC kf' f t S U U1 U2 := by
  obtain ⟨h1, h2, h3, h4, h5, h6, h7, h8, h9, h10⟩ := h
  have e : gLa kf f t = gLa kf' f t := funext fun k => by
    unfold gLa laN
    rw [lastTo_kf t hk]
  exact ⟨h1, h2, h3, h4, fun k hk' => by rw [← lastTo_kf t hk]; exact h5 k hk', fun k hk' => by rw [← fwN_kf t hk]; exact h6 k hk', h7, e ▸ h8, e ▸ h9, h10⟩
theorem feedC_eq (h : RC kf (fs c) i S (V c) (V (6 + 2 * c)) (V (7 + 2 * c))) (hfs : fs (6 + 2 * c) = fs c ∧ fs (7 + 2 * c) = fs c) (hc : c < 6) (hi : i < 300) (hK : KY kz kc kw W H) (hkf : ∀ j, j ≤ i → kf j < 26) {wb : Bool} (hw : H (380 + i) = bI wb) :
    ∃ V', qFeedC H kf fs i c V = some V' ∧ V' c (362 + i) = qWhat H (V c) (kf i) ∧ (∀ u, u ≠ c → u ≠ 6 + 2 * c → u ≠ 7 + 2 * c → V' u = V u) ∧ RC kf (fs c) (i + 1) (kFeed kz kc kw W (kf i) (kAhead kf (fs c) i) (H 1) (bI wb) i S) (V' c) (V' (6 + 2 * c)) (V' (7 + 2 * c)) := by
  obtain ⟨U', U1', U2', f1, f2, f3, f4, f5, f6⟩ := RC_feed h hi hK hkf hw
  have e1 : qFeed1 H kf fs i (qLeans V c) c V = some (u1 V c U') := by
    show (match qFeed H (qA kf (fs c) (i + 1)) (qB kf (fs c) (i + 1)) (if V (7 + 2 * c) 13 < V (6 + 2 * c) 13 then 1 else 0) kf (fs c) i (V c) with
      | none => none
      | some U' => some (u1 V c U')) = _
    rw [f1]
  unfold qFeedC
  rw [e1]
  dsimp only
  rw [u1e, f2]
  by_cases c6 : V c 0 = 6
  · obtain ⟨g1, g2⟩ := f4 c6
    have e2 : qFeed1 H kf fs i 0 (6 + 2 * c) (u1 V c U') = some (u1 (u1 V c U') (6 + 2 * c) U1') := by
      unfold qFeed1
      rw [hfs.1, u1_n (by omega), g1]
    have e3 : qFeed1 H kf fs i 0 (7 + 2 * c) (u1 (u1 V c U') (6 + 2 * c) U1') = some (u1 (u1 (u1 V c U') (6 + 2 * c) U1') (7 + 2 * c) U2') := by
      unfold qFeed1
      rw [hfs.2, u1_n (by omega), u1_n (by omega), g2]
    rw [if_pos c6, e2]
    dsimp only
    rw [e3]
    refine ⟨_, rfl, ?_, fun u h1 h2 h3 => ?_, ?_⟩
    · rw [u1_n (by omega), u1_n (by omega), u1e]; exact f3
    · rw [u1_n h3, u1_n h2, u1_n h1]
    · have a1 : u1 (u1 (u1 V c U') (6 + 2 * c) U1') (7 + 2 * c) U2' c = U' := by rw [u1_n (by omega), u1_n (by omega), u1e]
      have a2 : u1 (u1 (u1 V c U') (6 + 2 * c) U1') (7 + 2 * c) U2' (6 + 2 * c) = U1' := by rw [u1_n (by omega), u1e]
      rw [a1, a2, u1e]
      exact f6
  · obtain ⟨g1, g2⟩ := f5 c6
    rw [if_neg c6]
    refine ⟨_, rfl, ?_, fun u h1 h2 h3 => u1_n h1, ?_⟩
    · rw [u1e]; exact f3
    · rw [u1e, u1_n (by omega), u1_n (by omega), ← g1, ← g2]
      exact f6
theorem feedV_eq (hfs : FS fs) (hi : i < 300) (hK : KY (G 2) (G 3) (G 4) W H) (hkf : ∀ j, j ≤ i → kf j < 26) {wb : Bool} (hw : H (380 + i) = bI wb) (hw2 : G 7 i = bI wb) (hp : G 8 i = H 1) : ∀ (m : Nat) (bits : Int32) (V : Nat → Nat → Int32), m ≤ 6 →
    (∀ c, c < 6 → 6 - m ≤ c → RC kf (fs c) i (Q c) (V c) (V (6 + 2 * c)) (V (7 + 2 * c))) → (∀ c, c < 6 - m → RC kf (fs c) (i + 1) (kDo G W kf (fs c) i (Q c)) (V c) (V (6 + 2 * c)) (V (7 + 2 * c))) →
    ∃ V', qFeedV H kf fs i m bits V = some (kBits Q (kf i) m bits, V') ∧ ∀ c, c < 6 → RC kf (fs c) (i + 1) (kDo G W kf (fs c) i (Q c)) (V' c) (V' (6 + 2 * c)) (V' (7 + 2 * c))
  | 0, bits, V, _, _, h2 => ⟨V, rfl, fun c hc => h2 c (by omega)⟩
  | m + 1, bits, V, hm, h1, h2 => by
    have hc : 5 - m < 6 := by omega
    have hr := h1 (5 - m) hc (by omega)
    obtain ⟨V', v1, v2, v3, v4⟩ := feedC_eq hr (hfs (5 - m) hc) hc hi hK hkf hw
    have e : kDo G W kf (fs (5 - m)) i (Q (5 - m)) = kFeed (G 2) (G 3) (G 4) W (kf i) (kAhead kf (fs (5 - m)) i) (H 1) (bI wb) i (Q (5 - m)) := by
      unfold kDo
      rw [hw2, hp]
    rw [← e] at v4
    obtain ⟨V2, w1, w2⟩ := feedV_eq hfs hi hK hkf hw hw2 hp m (bits ||| (if V' (5 - m) (362 + i) = 0 then bb (5 - m) else 0)) V' (by omega) (fun c hc h => by
      rw [v3 c (by omega) (by omega) (by omega), v3 (6 + 2 * c) (by omega) (by omega) (by omega), v3 (7 + 2 * c) (by omega) (by omega) (by omega)]
      exact h1 c hc (by omega)) (fun c h => by
      by_cases q : c = 5 - m
      · rw [q]; exact v4
      · rw [v3 c (by omega) (by omega) (by omega), v3 (6 + 2 * c) (by omega) (by omega) (by omega), v3 (7 + 2 * c) (by omega) (by omega) (by omega)]
        exact h2 c (by omega))
    refine ⟨V2, ?_, w2⟩
    unfold qFeedV
    rw [v1]
    dsimp only
    rw [w1]
    have eb : (bits ||| (if V' (5 - m) (362 + i) = 0 then bb (5 - m) else 0)) = (if bt ((Q (5 - m)).1 0 5) (kf i) = true then bits ||| (1 <<< (nI (5 - m) &&& 31)) else bits ||| 0) := by
      rw [v2]
      unfold qWhat
      have hb := HB_1 hr.1.2.1 (hkf i (Nat.le_refl _))
      by_cases q : bt ((Q (5 - m)).1 0 5) (kf i) = true
      · rw [if_pos q, if_pos (hb.mpr q), if_pos rfl]
        rfl
      · rw [if_neg q, if_neg (fun e => q (hb.mp e))]
        split
        · rw [if_neg (by decide)]
        · rw [if_neg (by decide)]
    rw [eb]
    rfl
theorem RQ_feed (h : RQ kf fs i Q V) (hfs : FS fs) (hi : i < 300) (hK : KY (G 2) (G 3) (G 4) W H) (hkf : ∀ j, j ≤ i → kf j < 26) {wb : Bool} (hw : H (380 + i) = bI wb) (hw2 : G 7 i = bI wb) (hp : G 8 i = H 1) :
    ∃ V', qFeedV H kf fs i 6 0 V = some (kBits Q (kf i) 6 0, V') ∧ RQ kf fs (i + 1) (kDoAll G W kf fs i Q) V' := by
  obtain ⟨V', v1, v2⟩ := feedV_eq (Q := Q) hfs hi hK hkf hw hw2 hp 6 0 V (Nat.le_refl _) (fun c hc _ => h c hc) (fun c hc => by omega)
  exact ⟨V', v1, fun c hc => by
    show RC kf (fs c) (i + 1) (if c < 6 then kDo G W kf (fs c) i (Q c) else Q c) _ _ _
    rw [if_pos hc]
    exact v2 c hc⟩
/-- what the class's and the reference's methods rest on -/
theorem RB_RS (h : RB kf fs W n T H V) : RS H kf n V fs := by
  obtain ⟨h1, h2, h3, h4, h5, h6, h7, h8⟩ := h
  refine ⟨fun k hk => ?_, fun i hi => ⟨(h6 i hi).1, (h6 i hi).2.2.1⟩, h1, h3, fun u hu => ?_⟩
  · obtain ⟨⟨m, m1, m2, m3, m4⟩, -, w1, w2, w3⟩ := h5 k hk
    exact ⟨by rw [m4]; exact fun e => by have := (lt_iE (j := m) (k := 0) (by omega) (by omega)).mp e; omega, W k, w1, w3⟩
  · have cases3 : u < 6 ∨ (∃ c, c < 6 ∧ u = 6 + 2 * c) ∨ ∃ c, c < 6 ∧ u = 7 + 2 * c := by
      by_cases a : u < 6
      · exact Or.inl a
      · by_cases b : u % 2 = 0
        · exact Or.inr (Or.inl ⟨(u - 6) / 2, by omega, by omega⟩)
        · exact Or.inr (Or.inr ⟨(u - 7) / 2, by omega, by omega⟩)
    rcases cases3 with a | ⟨c, hc, rfl⟩ | ⟨c, hc, rfl⟩
    · obtain ⟨a1, a2, a3, -⟩ := h8 u a
      exact ⟨a3, a2, a1.1.2.2.2.1, fun q => by omega⟩
    · obtain ⟨-, -, a3, -, -, -, -, a8, -⟩ := h8 c hc
      rw [(h7 c hc).1]
      exact ⟨a3, a8.2.2.2.2.2.1, ⟨0, by omega, a8.2.1⟩, fun _ => by rw [a8.2.1]; decide⟩
    · obtain ⟨-, -, a3, -, -, -, -, -, a8, -⟩ := h8 c hc
      rw [(h7 c hc).2]
      exact ⟨a3, a8.2.2.2.2.2.1, ⟨1, by omega, a8.2.1⟩, fun _ => by rw [a8.2.1]; decide⟩
theorem RB_bH (h : RB kf fs W n T H V) : bH T W := by
  obtain ⟨-, -, -, -, h5, -⟩ := h
  refine ⟨fun k hk => ⟨(h5 k hk).2.2.2.1, (h5 k hk).2.2.1⟩, fun k hk => ?_⟩
  obtain ⟨⟨m, m1, m2, m3, m4⟩, -⟩ := h5 k hk
  rw [m3]
  exact (lt_iL (j := 0) (k := m) (by omega) (by omega)).mpr m1
theorem RB_RK (h : RB kf fs W n T H V) : RKc T.1 kf n := fun i hi => ⟨(h.2.2.2.2.2.1 i hi).1, (h.2.2.2.2.2.1 i hi).2.1⟩
theorem RB_Ls (h : RB kf fs W n T H V) : ∀ i, i < 6 → LsA (T.2 i) kf (fs i) n := fun i hi => (h.2.2.2.2.2.2.2 i hi).2.2.2.2.1
theorem kfA_o (h : i < n) : kfA kf n x i = kf i := if_neg (by omega)
theorem kfA_n : kfA kf n x n = x := if_pos rfl
/-- a request asked -/
theorem RB_ask (h : RB kf fs W n T H V) (hn : n < 300) (hx : x < 26) {w : Bool} :
    ∃ V', qFeedV (qAsk H n x (bI w)) (kfA kf n x) fs n 6 0 V = some (kBits T.2 x 6 0, V') ∧ RB (kfA kf n x) fs W (n + 1) (kApp T.1 n x w (T.1 0 4), kDoAll (kApp T.1 n x w (T.1 0 4)) W (kfA kf n x) fs n T.2) (qAsk H n x (bI w)) V' := by
  obtain ⟨h1, h2, h3, h4, h5, h6, h7, h8⟩ := h
  have gk : ∀ k, k < 80 → k ≠ 0 → qAsk H n x (bI w) k = H k := fun k hk h0 => by
    unfold qAsk
    rw [upd_o h0, upd_o (by omega), upd_o (by omega), upd_o (by omega)]
  have hK : KY ((kApp T.1 n x w (T.1 0 4)) 2) ((kApp T.1 n x w (T.1 0 4)) 3) ((kApp T.1 n x w (T.1 0 4)) 4) W (qAsk H n x (bI w)) := fun k hk => by
    rw [gk _ (by omega) (by omega), gk _ (by omega) (by omega), gk _ (by omega) (by omega)]
    exact h5 k hk
  have w7 : kApp T.1 n x w (T.1 0 4) 7 n = bI w := by
    unfold kApp
    rw [z2_n1 (by omega), z2_n1 (by omega), z2_eq]
  have w8 : kApp T.1 n x w (T.1 0 4) 8 n = T.1 0 4 := by
    unfold kApp
    rw [z2_n1 (by omega), z2_eq]
  have w6 : kApp T.1 n x w (T.1 0 4) 6 n = nI x := by
    unfold kApp
    rw [z2_n1 (by omega), z2_n1 (by omega), z2_n1 (by omega), z2_eq]
  have q1 : qAsk H n x (bI w) 1 = H 1 := gk 1 (by omega) (by omega)
  have q80 : qAsk H n x (bI w) (80 + n) = nI x := by
    unfold qAsk
    rw [upd_o (by omega), upd_o (by omega), upd_o (by omega), upd_s]
  have q380 : qAsk H n x (bI w) (380 + n) = bI w := by
    unfold qAsk
    rw [upd_o (by omega), upd_o (by omega), upd_s]
  have q680 : qAsk H n x (bI w) (680 + n) = H 1 := by
    unfold qAsk
    rw [upd_o (by omega), upd_s]
  have hQ : RQ (kfA kf n x) fs n T.2 V := fun c hc => RC_kf (h8 c hc) (fun i hi => (kfA_o hi).symm)
  obtain ⟨V', v1, v2⟩ := RQ_feed (G := kApp T.1 n x w (T.1 0 4)) hQ h7 hn hK (fun j hj => by
    by_cases e : j = n
    · rw [e, kfA_n]; exact hx
    · rw [kfA_o (by omega)]; exact (h6 j (by omega)).1) q380 w7 (by rw [w8, q1]; exact h4)
  rw [kfA_n] at v1
  refine ⟨V', v1, by omega, ?_, ?_, ?_, hK, fun i hi => ?_, h7, v2⟩
  · show kApp T.1 n x w (T.1 0 4) 5 3 = _
    unfold kApp
    rw [z2_eq]
  · unfold qAsk
    rw [upd_s]
  · rw [q1]
    show kApp T.1 n x w (T.1 0 4) 0 4 = _
    unfold kApp
    rw [z2_n1 (by omega), z2_n1 (by omega), z2_n1 (by omega), z2_n1 (by omega)]
    exact h4
  · by_cases e : i = n
    · rw [e, kfA_n]
      exact ⟨hx, w6, q80, ⟨w, w7, q380⟩, w8.trans (h4.trans q680.symm)⟩
    · obtain ⟨a1, a2, a3, ⟨wi, a4, a5⟩, a6⟩ := h6 i (by omega)
      rw [kfA_o (by omega)]
      have z6 : kApp T.1 n x w (T.1 0 4) 6 i = T.1 6 i := by
        unfold kApp
        rw [z2_n1 (by omega), z2_n1 (by omega), z2_n1 (by omega), z2_n2 e]
      have z7 : kApp T.1 n x w (T.1 0 4) 7 i = T.1 7 i := by
        unfold kApp
        rw [z2_n1 (by omega), z2_n1 (by omega), z2_n2 e, z2_n1 (by omega)]
      have z8 : kApp T.1 n x w (T.1 0 4) 8 i = T.1 8 i := by
        unfold kApp
        rw [z2_n1 (by omega), z2_n2 e, z2_n1 (by omega), z2_n1 (by omega)]
      have y80 : qAsk H n x (bI w) (80 + i) = H (80 + i) := by
        unfold qAsk
        rw [upd_o (by omega), upd_o (by omega), upd_o (by omega), upd_o (by omega)]
      have y380 : qAsk H n x (bI w) (380 + i) = H (380 + i) := by
        unfold qAsk
        rw [upd_o (by omega), upd_o (by omega), upd_o (by omega), upd_o (by omega)]
      have y680 : qAsk H n x (bI w) (680 + i) = H (680 + i) := by
        unfold qAsk
        rw [upd_o (by omega), upd_o (by omega), upd_o (by omega), upd_o (by omega)]
      exact ⟨a1, z6.trans a2, y80.trans a3, ⟨wi, z7.trans a4, y380.trans a5⟩, z8.trans (a6.trans y680.symm)⟩
end Ro'
