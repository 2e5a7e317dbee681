/-! THE COUNT of hits and misses: a request is one or the other -/
section Um
variable {N L : Nat} {Q : (Nat → Int32) × (Nat → Int32)} {S S' : CS} {H U U' A B F P m : Nat → Int32} {k i j t t' j' e y w r c q n a g f b u : Nat} {kz kc kw : Nat → Int32} {W kf fs fs' : Nat → Nat} {v v' w' x set these beyond ln s s' st : Int32} {z : Int64} {kept : Option Nat} {can h1' h2' : Nat → Bool} {rk : Nat → Int64} {V V' : Nat → Nat → Int32}
theorem qLeaves_ct (hw : 12 ≤ w ∧ w ≤ 13) (hk : k < 26) : qLeaves U k w = U w := by
  unfold qLeaves
  simp (disch := omega) only [upd_o]
theorem qRem_ct (hw : 12 ≤ w ∧ w ≤ 13) (hk : k < 26) : qRem U k w = U w := by
  have h0 : qRem0 U k w = U w := by unfold qRem0; simp (disch := omega) only [upd_o]
  unfold qRem
  split
  · cases q : qElder (qRem0 U k) with
    | none => exact (upd_o (by omega)).trans h0
    | some e => exact (upd_o (by have := qElder_lt e q; omega)).trans h0
  · exact h0
theorem qMax_ct (hw : 12 ≤ w ∧ w ≤ 13) : qMax U k w = U w := by
  unfold qMax
  split
  · exact upd_o (by omega)
  · rfl
theorem qOut_ct (hw : 12 ≤ w ∧ w ≤ 13) (hk : k < 26) : qOut U k w = U w := by
  unfold qOut qOut0
  split
  · rw [qRem_ct hw hk, qLeaves_ct hw hk, upd_o (by omega), qMax_ct hw]
  · rw [qLeaves_ct hw hk, upd_o (by omega), qMax_ct hw]
theorem qUsed_ct (hw : 12 ≤ w ∧ w ≤ 13) (hk : k < 26) : qUsed H U k w = U w := by
  unfold qUsed
  simp (disch := omega) only [upd_o]
theorem qOnce_ct (hw : 12 ≤ w ∧ w ≤ 13) (h : qOnce H A B ln y kept U = some U') : U' w = U w := by
  unfold qOnce at h
  split at h
  · split at h
    · cases h
    · rename_i g P m st e
      cases h
      rw [qOut_ct hw (qTurn_lt _ _ _ _ e), qBack_o (by omega) (by omega) (by omega)]
  · split at h
    · cases h
    · rename_i g e
      cases h
      rw [qOut_ct hw (qGo_lt g e).1]
theorem qRoom_ct (hw : 12 ≤ w ∧ w ≤ 13) : ∀ (n : Nat) (U U' : Nat → Int32), qRoom H A B ln y kept n U = some U' → U' w = U w
  | 0, U, U', h => by
    unfold qRoom at h
    split at h
    · cases h
    · cases h; rfl
  | n + 1, U, U', h => by
    unfold qRoom at h
    split at h
    · split at h
      · cases h
      · rename_i U1 h1
        exact (qRoom_ct hw n U1 U' h).trans (qOnce_ct hw h1)
    · cases h; rfl
theorem qCome_ct (hw : 12 ≤ w ∧ w ≤ 13) (hk : k < 26) : qCome H U k w = U w := by
  unfold qCome
  simp (disch := omega) only [upd_o]
  exact qUsed_ct hw hk
theorem qFetch_ct (hw : 12 ≤ w ∧ w ≤ 13) (hk : ∀ b, lastTo kf (kf i) f i = some b → kf (b + 1) < 26) (e : qFetch H A B ln kf f i U = some U') : U' w = U w := by
  unfold qFetch at e
  split at e
  · cases e; rfl
  · rename_i b hb
    by_cases hc : kf (b + 1) = kf i ∨ U (24 + kf (b + 1)) = 1 ∨ U 1 < (if U (24 + kf i) = 1 then H (2 + kf i) else 0) + H (2 + kf (b + 1))
    · rw [if_pos hc] at e
      cases e; rfl
    · rw [if_neg hc] at e
      have hk' := hk b hb
      split at e
      · cases e
      · rename_i U1 h1
        cases e
        rw [upd_o (by omega), upd_o (by omega), qCome_ct hw hk', qRoom_ct hw _ _ _ h1]
theorem qWrite_ct (hw : 12 ≤ w ∧ w ≤ 13) (hk : k < 26) : qWrite H U k w = U w := by
  unfold qWrite
  split
  · split <;> simp (disch := omega) only [upd_o]
  · simp (disch := omega) only [upd_o]
theorem qDone_ct (hw : 12 ≤ w ∧ w ≤ 13) (hx : kf i < 26) (hk : ∀ b, lastTo kf (kf i) f i = some b → kf (b + 1) < 26) (e : qDone H A B ln kf f i w' U = some U') : U' w = U w := by
  unfold qDone at e
  dsimp only at e
  have h0 : (if H (380 + i) = 1 then qWrite H (upd U (362 + i) w') (kf i) else upd U (362 + i) w') w = U w := by
    split
    · rw [qWrite_ct hw hx, upd_o (by omega)]
    · exact upd_o (by omega)
  generalize (if H (380 + i) = 1 then qWrite H (upd U (362 + i) w') (kf i) else upd U (362 + i) w') = Y at e h0
  split at e
  · rw [qFetch_ct hw hk e, h0]
  · cases e
    exact h0

theorem qHit_ct : (qHit H U k 12 = U 12 + 1 ∧ qHit H U k 13 = U 13) := by
  have e : ∀ U' : Nat → Int32, ∀ w, 12 ≤ w ∧ w ≤ 13 → qUsed H U' k w = U' w := fun U' w hw => by unfold qUsed; simp (disch := omega) only [upd_o]
  unfold qHit
  rw [e _ 12 (by omega), e _ 13 (by omega)]
  constructor
  · simp (disch := omega) only [upd_o, upd_s]
  · simp (disch := omega) only [upd_o]
theorem qMiss_ct (hk : k < 26) {z : Int32} (e : qMiss H A B ln k U = some (z, U')) : U' 12 = U 12 ∧ U' 13 = U 13 + 1 := by
  have h0 : qMiss0 H U k 12 = U 12 := by unfold qMiss0; simp (disch := omega) only [upd_o]
  have h1 : qMiss0 H U k 13 = U 13 + 1 := by unfold qMiss0; simp (disch := omega) only [upd_o, upd_s]
  unfold qMiss at e
  split at e
  · cases e
    rw [upd_o (by omega), upd_o (by omega)]
    exact ⟨h0, h1⟩
  · split at e
    · cases e
    · rename_i U1 h2
      cases e
      rw [qCome_ct ⟨by omega, by omega⟩ hk, qCome_ct ⟨by omega, by omega⟩ hk, qRoom_ct ⟨by omega, by omega⟩ _ _ _ h2, qRoom_ct ⟨by omega, by omega⟩ _ _ _ h2]
      exact ⟨h0, h1⟩
def ct1 (U U' : Nat → Int32) : Prop := (U' 12 = U 12 + 1 ∧ U' 13 = U 13) ∨ (U' 12 = U 12 ∧ U' 13 = U 13 + 1)
theorem qFeed_ct (hx : kf i < 26) (hk : ∀ b, lastTo kf (kf i) f i = some b → kf (b + 1) < 26) (e : qFeed H A B ln kf f i U = some U') : ct1 U U' := by
  unfold qFeed at e
  by_cases c : U (24 + kf i) = 1
  · rw [if_pos c] at e
    have q := qHit_ct (H := H) (U := U) (k := kf i)
    refine Or.inl ⟨?_, ?_⟩
    · rw [qDone_ct ⟨by omega, by omega⟩ hx hk e, q.1]
    · rw [qDone_ct ⟨by omega, by omega⟩ hx hk e, q.2]
  · rw [if_neg c] at e
    split at e
    · cases e
    · rename_i z U1 h1
      have q := qMiss_ct hx h1
      refine Or.inr ⟨?_, ?_⟩
      · rw [qDone_ct ⟨by omega, by omega⟩ hx hk e, q.1]
      · rw [qDone_ct ⟨by omega, by omega⟩ hx hk e, q.2]
theorem qFeed1_ct (hx : kf i < 26) (hk : ∀ b, lastTo kf (kf i) (fs u) i = some b → kf (b + 1) < 26) (e : qFeed1 H kf fs i ln u V = some V') : ct1 (V u) (V' u) ∧ ∀ u', u' ≠ u → V' u' = V u' := by
  unfold qFeed1 at e
  split at e
  · cases e
  · rename_i U1 h1
    cases e
    refine ⟨?_, fun u' h => if_neg h⟩
    rw [u1_x, if_pos rfl]
    exact qFeed_ct hx hk h1
theorem qFeedC_ct (hc : c < 6) (hx : kf i < 26) (hk : ∀ u b, lastTo kf (kf i) (fs u) i = some b → kf (b + 1) < 26) (e : qFeedC H kf fs i c V = some V') : ct1 (V c) (V' c) ∧ ∀ u, u < 6 → u ≠ c → V' u = V u := by
  unfold qFeedC at e
  split at e
  · cases e
  · rename_i V1 h1
    obtain ⟨a1, a2⟩ := qFeed1_ct hx (hk c) h1
    split at e
    · split at e
      · cases e
      · rename_i V2 h2
        obtain ⟨b1, b2⟩ := qFeed1_ct hx (hk _) h2
        obtain ⟨c1, c2⟩ := qFeed1_ct hx (hk _) e
        refine ⟨?_, fun u hu hne => ?_⟩
        · rw [c2 c (by omega), b2 c (by omega)]; exact a1
        · rw [c2 u (by omega), b2 u (by omega), a2 u hne]
    · cases e
      exact ⟨a1, fun u _ hne => a2 u hne⟩
theorem qFeedV_ct (hx : kf i < 26) (hk : ∀ u b, lastTo kf (kf i) (fs u) i = some b → kf (b + 1) < 26) : ∀ (n : Nat) (bits b : Int32) (V V' : Nat → Nat → Int32), n ≤ 6 → qFeedV H kf fs i n bits V = some (b, V') → ∀ u, u < 6 → (6 - n ≤ u → ct1 (V u) (V' u)) ∧ (u < 6 - n → V' u = V u)
  | 0, bits, b, V, V', _, e, u, hu => by
    cases e
    exact ⟨fun q => by omega, fun _ => rfl⟩
  | n + 1, bits, b, V, V', hn, e, u, hu => by
    unfold qFeedV at e
    split at e
    · cases e
    · rename_i V1 h1
      obtain ⟨a1, a2⟩ := qFeedC_ct (by omega) hx hk h1
      obtain ⟨b1, b2⟩ := qFeedV_ct hx hk n _ _ _ _ (by omega) e u hu
      refine ⟨fun q => ?_, fun q => ?_⟩
      · by_cases z : u = 5 - n
        · rw [b2 (by omega), z]; exact a1
        · rw [← a2 u hu z]; exact b1 (by omega)
      · rw [b2 (by omega), a2 u hu (by omega)]
theorem CT_ct1 (h : CT fs n V) (hf : ∀ c, c < 6 → fs c ≤ n) (g : ∀ u, u < 6 → ct1 (V u) (V' u)) : CT fs (n + 1) V' := fun c hc => by
  obtain ⟨a, b, h1, h2, h3⟩ := h c hc
  have := hf c hc
  rcases g c hc with ⟨q1, q2⟩ | ⟨q1, q2⟩
  · exact ⟨a + 1, b, by rw [q1, h1]; exact lt_iA (j := a) (k := 1), by rw [q2, h2], by omega⟩
  · exact ⟨a, b + 1, by rw [q1, h1], by rw [q2, h2]; exact lt_iA (j := b) (k := 1), by omega⟩
theorem CT_fr (h : CT fs n V) (g : ∀ c, c < 6 → V' c 12 = V c 12 ∧ V' c 13 = V c 13) : CT fs n V' := fun c hc => by
  obtain ⟨a, b, h1, h2, h3⟩ := h c hc
  exact ⟨a, b, (g c hc).1.trans h1, (g c hc).2.trans h2, h3⟩
/-! ### lapses -/
theorem qLapse_ct (hw : 12 ≤ w ∧ w ≤ 13) : ∀ (n : Nat) (U : Nat → Int32) (z : Int32), n ≤ 26 → (qLapse H n U z).1 w = U w
  | 0, U, z, _ => rfl
  | n + 1, U, z, hn => by
    unfold qLapse
    split
    · rw [qLapse_ct hw n _ _ (by omega), qLeaves_ct hw (by omega), upd_o (by omega)]
    · exact qLapse_ct hw n U z (by omega)
theorem qLapseC_ct {z : Int32} (hw : 12 ≤ w ∧ w ≤ 13) : (qLapseC H U z).1 w = U w := by
  unfold qLapseC
  split
  · exact qLapse_ct hw 26 U z (by omega)
  · rfl
theorem qLapses_ct (hw : 12 ≤ w ∧ w ≤ 13) : ∀ (n : Nat) (V : Nat → Nat → Int32) (z : Int32) (u : Nat), (qLapses H n V z).1 u w = V u w
  | 0, V, z, u => rfl
  | n + 1, V, z, u => by
    unfold qLapses
    rw [qLapses_ct hw n, u1_x]
    split
    · rename_i q
      rw [q]; exact qLapseC_ct hw
    · rfl
theorem CT_lapses {z : Int32} (h : CT fs n V) : CT fs n (qLapses H 6 V z).1 := CT_fr h fun c _ => ⟨qLapses_ct ⟨by omega, by omega⟩ 6 V z c, qLapses_ct ⟨by omega, by omega⟩ 6 V z c⟩
theorem CT_u1 (h : CT fs n V) (h1 : U' 12 = V c 12) (h2 : U' 13 = V c 13) : CT fs n (u1 V c U') := CT_fr h fun c' _ => by
  rw [u1_x]
  split
  · rename_i q
    rw [q]; exact ⟨h1, h2⟩
  · exact ⟨rfl, rfl⟩
theorem CT_take (h : CT fs n V) (hk : k < 26) : CT fs n (u1 V c (qLeaves (V c) k)) := CT_u1 h (qLeaves_ct ⟨by omega, by omega⟩ hk) (qLeaves_ct ⟨by omega, by omega⟩ hk)
theorem CT_share {a b c' d : Int32} (h : CT fs n V) : CT fs n (u1 V c (qShare (V c) a b c' d)) := CT_u1 h (by unfold qShare; simp (disch := omega) only [upd_o]) (by unfold qShare; simp (disch := omega) only [upd_o])
theorem CT_flush (h : CT fs n V) : CT fs n (u1 V c (qFlush (V c))) := by
  have e : ∀ U : Nat → Int32, ∀ w, 12 ≤ w ∧ w ≤ 13 → qFlush U w = U w := fun U w hw => by
    unfold qFlush
    rw [upd_o (by omega)]
    exact if_neg (by omega)
  exact CT_u1 h (e _ 12 (by omega)) (e _ 13 (by omega))
theorem qEmpty_ct {x : Int32} (hw : 12 ≤ w ∧ w ≤ 13) : qEmpty U x w = 0 := by
  unfold qEmpty
  rw [if_neg (by omega), if_pos (by omega)]
theorem CT_set {rule room lapse mode x : Int32} (h : CT fs n V) (hc : c < 6) : CT (fsA fs c n) n (qEmptyC (qSetUp V c rule room lapse mode) c x) := fun c' hc' => by
  by_cases q : c' = c
  · subst q
    refine ⟨0, 0, ?_, ?_, ?_⟩
    · show (if c' = c' ∨ c' = 6 + 2 * c' ∨ c' = 7 + 2 * c' then qEmpty (qSetUp V c' rule room lapse mode c') x else _) 12 = nI 0
      rw [if_pos (Or.inl rfl)]; exact qEmpty_ct (by omega)
    · show (if c' = c' ∨ c' = 6 + 2 * c' ∨ c' = 7 + 2 * c' then qEmpty (qSetUp V c' rule room lapse mode c') x else _) 13 = nI 0
      rw [if_pos (Or.inl rfl)]; exact qEmpty_ct (by omega)
    · unfold fsA
      simp
  · have e : ∀ w, 12 ≤ w ∧ w ≤ 13 → qEmptyC (qSetUp V c rule room lapse mode) c x c' w = V c' w := fun w hw => by
      show (if c' = c ∨ c' = 6 + 2 * c ∨ c' = 7 + 2 * c then _ else qSetUp V c rule room lapse mode c') w = _
      rw [if_neg (by omega)]
      unfold qSetUp
      rw [if_neg q, if_neg (by omega), if_neg (by omega)]
    obtain ⟨a, b, h1, h2, h3⟩ := h c' hc'
    refine ⟨a, b, (e 12 (by omega)).trans h1, (e 13 (by omega)).trans h2, ?_⟩
    unfold fsA
    rw [if_neg (by omega)]
    exact h3
theorem qClear_ct : ∀ (m : Nat) (V : Nat → Nat → Int32), m ≤ 6 → ∀ c, c < 6 → (6 - m ≤ c ∨ (V c 12 = 0 ∧ V c 13 = 0)) → qClear m V c 12 = 0 ∧ qClear m V c 13 = 0
  | 0, V, _, c, hc, h => by
    rcases h with h | h
    · omega
    · exact h
  | m + 1, V, hm, c, hc, h => by
    unfold qClear
    refine qClear_ct m _ (by omega) c hc ?_
    by_cases z : c = 5 - m
    · refine Or.inr ⟨?_, ?_⟩
      · show (if c = 5 - m ∨ c = 6 + 2 * (5 - m) ∨ c = 7 + 2 * (5 - m) then qEmpty (V c) 0 else V c) 12 = 0
        rw [if_pos (Or.inl z)]; exact qEmpty_ct (by omega)
      · show (if c = 5 - m ∨ c = 6 + 2 * (5 - m) ∨ c = 7 + 2 * (5 - m) then qEmpty (V c) 0 else V c) 13 = 0
        rw [if_pos (Or.inl z)]; exact qEmpty_ct (by omega)
    · by_cases z2 : 6 - m ≤ c
      · exact Or.inl z2
      · refine Or.inr ?_
        have e : qEmptyC V (5 - m) 0 c = V c := if_neg (by omega)
        rw [e]
        rcases h with h | h
        · omega
        · exact h
theorem CT_clear : CT (fun _ => 0) 0 (qClear 6 V) := fun c hc => by
  have := qClear_ct 6 V (Nat.le_refl _) c hc (Or.inl (by omega))
  exact ⟨0, 0, this.1, this.2, rfl⟩
theorem CT_rep (hk : ∀ i, i < t → kf i < 26) : ∀ (n : Nat) (V V' : Nat → Nat → Int32), n ≤ t → qRep H kf (fun _ => 0) t n V = some V' → CT (fun _ => 0) (t - n) V → CT (fun _ => 0) t V'
  | 0, V, V', _, e, h => by
    cases e
    exact h
  | n + 1, V, V', hn, e, h => by
    unfold qRep at e
    split at e
    · cases e
    · rename_i b V1 h1
      refine CT_rep hk n V1 V' (by omega) e ?_
      have hx : kf (t - (n + 1)) < 26 := hk _ (by omega)
      have hb : ∀ u b, lastTo kf (kf (t - (n + 1))) ((fun _ => 0 : Nat → Nat) u) (t - (n + 1)) = some b → kf (b + 1) < 26 := fun u b e => hk _ (by have := (lastTo_lt _ e).1; omega)
      have g := qFeedV_ct hx hb 6 _ _ _ _ (by omega) h1
      have := CT_ct1 (fs := fun _ => 0) (CT_lapses h) (fun c _ => Nat.zero_le _) (fun u hu => (g u hu).1 (by omega))
      rwa [show t - (n + 1) + 1 = t - n by omega] at this
end Um
