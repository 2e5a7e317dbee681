/-! THE LITTLE MACHINE'S MEMORY IN THE HEAP: the cell k lies at the address ad k; the script is the cell 0 -/
def lt_v (ad : Nat → Nat) : Value → Value
  | .ref q => .ref (ad q)
  | v => v
def lt_ok (n : Nat) : Value → Prop
  | .ref q => q < n
  | _ => True
def lt_F (ad : Nat → Nat) (M : LM) (a c k : Nat) : Value := match lt_ft c k with
  | 1 => .long (mL M a k)
  | 2 => va_rf ((mP M a k).map ad)
  | _ => .int (mI M a k)
def lt_E (G : Nat → ClassId) (ad : Nat → Nat) (M : LM) (a : Nat) : va_E := match mK M a with
  | 1 => .inl (G 1, mZ M a, .inl (mI M a))
  | 2 => .inl (G 2, mZ M a, .inr (.inl (mL M a)))
  | 3 => .inl (G 3, mZ M a, .inl (mI M a))
  | 4 => .inl (G 4, mZ M a, .inr (.inr (.inr (.inl (mD M a)))))
  | 5 => .inl (G 5, mZ M a, .inr (.inr (.inr (.inr fun i => (mP M a i).map ad))))
  | 6 => .inl (G 6, mZ M a, .inr (.inr (.inr (.inr fun i => (mP M a i).map ad))))
  | 7 => .inl (G 7, mZ M a, .inr (.inr (.inr (.inr fun i => (mP M a i).map ad))))
  | 8 => .inl (G 8, mZ M a, .inr (.inr (.inr (.inr fun i => (mP M a i).map ad))))
  | c => .inr (c - 16, (List.range (lt_nf (c - 16))).map (lt_F ad M a (c - 16)))
def lt_ws (G : Nat → ClassId) (ad : Nat → Nat) (M : LM) : va_W := (List.range (mN M - 1)).map fun j => (ad (j + 1), lt_E G ad M (j + 1))
def lt_tys (G : Nat → ClassId) : List (ClassId × FieldType) := [(G 1, .int), (G 2, .long), (G 3, .boolean), (G 4, .int), (G 5, .object "Cachebench$Bench"), (G 6, .object "Cachebench$Cache"), (G 7, .array .int), (G 8, .object "CachebenchLaw$Plain")]
theorem lt_ws_get {G : Nat → ClassId} {ad : Nat → Nat} {M : LM} {k : Nat} (h1 : 1 ≤ k) (h2 : k < mN M) : (lt_ws G ad M)[k - 1]? = some (ad k, lt_E G ad M k) := by
  unfold lt_ws
  rw [List.getElem?_map, List.getElem?_range (by omega), Option.map_some]
  rw [show k - 1 + 1 = k by omega]
theorem lt_ws_inv {G : Nat → ClassId} {ad : Nat → Nat} {M : LM} {j : Nat} {q : Nat × va_E} (h : (lt_ws G ad M)[j]? = some q) : j + 1 < mN M ∧ q = (ad (j + 1), lt_E G ad M (j + 1)) := by
  unfold lt_ws at h
  rw [List.getElem?_map] at h
  by_cases hj : j < mN M - 1
  · rw [List.getElem?_range hj] at h
    exact ⟨by omega, (Option.some.inj h).symm⟩
  · rw [List.getElem?_eq_none (by rw [List.length_range]; omega)] at h
    cases h
theorem lt_ws_len {G : Nat → ClassId} {ad : Nat → Nat} {M : LM} : (lt_ws G ad M).length = mN M - 1 := by
  unfold lt_ws; rw [List.length_map, List.length_range]
/-- one cell changes -/
theorem lt_ws_set {G : Nat → ClassId} {ad : Nat → Nat} {M M' : LM} {k : Nat} {e : va_E} (h1 : 1 ≤ k) (hn : mN M' = mN M) (ho : ∀ j, j ≠ k → lt_E G ad M' j = lt_E G ad M j) (he : lt_E G ad M' k = e) : (lt_ws G ad M).set (k - 1) (ad k, e) = lt_ws G ad M' := by
  subst he
  apply List.ext_getElem?
  intro j
  by_cases hj : j = k - 1
  · subst hj
    by_cases hl : k < mN M
    · rw [List.getElem?_set_self (by rw [lt_ws_len]; omega), lt_ws_get h1 (by omega)]
    · rw [List.getElem?_eq_none (by rw [List.length_set, lt_ws_len]; omega), List.getElem?_eq_none (by rw [lt_ws_len]; omega)]
  · rw [List.getElem?_set_ne (fun h => hj h.symm)]
    unfold lt_ws
    rw [hn, List.getElem?_map, List.getElem?_map]
    by_cases hl : j < mN M - 1
    · rw [List.getElem?_range hl, Option.map_some, Option.map_some, ho (j + 1) (by omega)]
    · rw [List.getElem?_eq_none (by rw [List.length_range]; omega)]
      rfl
/-- a cell comes in behind -/
theorem lt_ws_push {G : Nat → ClassId} {ad ad' : Nat → Nat} {M M' : LM} (h1 : 1 ≤ mN M) (hn : mN M' = mN M + 1) (ho : ∀ j, j < mN M → ad' j = ad j ∧ lt_E G ad' M' j = lt_E G ad M j) : lt_ws G ad M ++ [(ad' (mN M), lt_E G ad' M' (mN M))] = lt_ws G ad' M' := by
  apply List.ext_getElem?
  intro j
  by_cases hl : j < mN M - 1
  · rw [List.getElem?_append_left (by rw [lt_ws_len]; exact hl)]
    have g1 := lt_ws_get (G := G) (ad := ad) (M := M) (k := j + 1) (by omega) (by omega)
    have g2 := lt_ws_get (G := G) (ad := ad') (M := M') (k := j + 1) (by omega) (by omega)
    rw [Nat.add_sub_cancel] at g1 g2
    rw [g1, g2, (ho (j + 1) (by omega)).1, (ho (j + 1) (by omega)).2]
  · rw [List.getElem?_append_right (by rw [lt_ws_len]; omega), lt_ws_len]
    by_cases hj : j = mN M - 1
    · subst hj
      have g2 := lt_ws_get (G := G) (ad := ad') (M := M') (k := mN M) (by omega) (by omega)
      rw [Nat.sub_self, g2]
      rfl
    · rw [List.getElem?_eq_none (by rw [List.length_singleton]; omega), List.getElem?_eq_none (by rw [lt_ws_len]; omega)]
/-- the memory M in the heap H -/
def lt_R (D : va_G) (G : Nat → ClassId) (A : Nat → Prop) (ad : Nat → Nat) (M : LM) (s : State) (H : Heap) : Prop :=
  va_P D vwCl (lt_ws G ad M) H ∧ va_D A (lt_ws G ad M) ∧ va_X (ad 0) (mZ M 0) (mI M 0) s H ∧ (¬ A (ad 0) ∧ ad 0 < H.size) ∧ (∀ k i q, mP M k i = some q → 0 ≤ q ∧ q < mN M) ∧ (∀ k, mK M k ≠ 0 → k < mN M) ∧ mK M 0 = 9 ∧ 1 ≤ mN M
theorem lt_R.moved {D : va_G} {G : Nat → ClassId} {A : Nat → Prop} {ad : Nat → Nat} {M : LM} {u U : State} {H : Heap} (hvm : u.vm.Alike U.vm) (h : lt_R D G A ad M u H) : lt_R D G A ad M U H :=
  ⟨h.1, h.2.1, va_X.moved hvm h.2.2.1, h.2.2.2⟩
/-- a cell of a kind that isn't the script's: where it lies -/
theorem lt_R.pos {D : va_G} {G : Nat → ClassId} {A : Nat → Prop} {ad : Nat → Nat} {M : LM} {s : State} {H : Heap} (h : lt_R D G A ad M s H) {a : Nat} (h0 : mK M a ≠ 0) (h9 : mK M a ≠ 9) : 1 ≤ a ∧ a < mN M := by
  obtain ⟨-, -, -, -, -, h6, h7, -⟩ := h
  refine ⟨?_, h6 a h0⟩
  rcases Nat.eq_zero_or_pos a with e | e
  · subst e; exact absurd h7 h9
  · exact e
theorem lt_R.at {D : va_G} {G : Nat → ClassId} {A : Nat → Prop} {ad : Nat → Nat} {M : LM} {s : State} {H : Heap} (h : lt_R D G A ad M s H) {a : Nat} (h0 : mK M a ≠ 0) (h9 : mK M a ≠ 9) : (lt_ws G ad M)[a - 1]? = some (ad a, lt_E G ad M a) :=
  lt_ws_get (h.pos h0 h9).1 (h.pos h0 h9).2
theorem lt_ty {G : Nat → ClassId} : ∀ {c : Nat}, 1 ≤ c → c ≤ 8 → ∃ ty, (lt_tys G)[c - 1]? = some (G c, ty) := by
  intro c h1 h2
  rcases (show c = 1 ∨ c = 2 ∨ c = 3 ∨ c = 4 ∨ c = 5 ∨ c = 6 ∨ c = 7 ∨ c = 8 by omega) with rfl | rfl | rfl | rfl | rfl | rfl | rfl | rfl <;> exact ⟨_, rfl⟩
/-- locals: what the little machine says of them -/
def lt_L (ad : Nat → Nat) (n nL : Nat) (ls : List Value) (lsM : Array Slot) : Prop := lsM.size = nL ∧ ls.length = nL ∧ lv_wf lsM ∧ ∀ (i : Nat) (v : Value), ls[i]? = some v → v ≠ lt_j → lt_ok n v ∧ lsM[i]? = some (.val (lt_v ad v))
def lt_asl (ad : Nat → Nat) (ls : List Value) : List (Nat × Value) := (List.range ls.length).filterMap fun i => match ls[i]? with
  | some v => if v = lt_j then none else some (i, lt_v ad v)
  | none => none
theorem lt_asl_in {ad : Nat → Nat} {ls : List Value} {i : Nat} {w : Value} : (i, w) ∈ lt_asl ad ls ↔ ∃ v, ls[i]? = some v ∧ v ≠ lt_j ∧ w = lt_v ad v := by
  unfold lt_asl
  rw [List.mem_filterMap]
  constructor
  · rintro ⟨j, hj, h⟩
    split at h
    · next v hv =>
      split at h
      · cases h
      · next hn =>
        cases h
        exact ⟨v, hv, hn, rfl⟩
    · cases h
  · rintro ⟨v, hv, hn, rfl⟩
    refine ⟨i, List.mem_range.mpr (List.getElem?_eq_some_iff.mp hv).1, ?_⟩
    rw [hv]
    simp only [if_neg hn]
theorem lt_L.has {ad : Nat → Nat} {n nL : Nat} {ls : List Value} {lsM : Array Slot} (h : lt_L ad n nL ls lsM) : lv_has lsM nL (lt_asl ad ls) :=
  ⟨h.1, h.2.2.1, fun q hq => by
    obtain ⟨v, h1, h2, h3⟩ := (lt_asl_in (i := q.1) (w := q.2)).mp hq
    rw [h3]
    exact (h.2.2.2 _ _ h1 h2).2⟩
theorem lt_L.at {ad : Nat → Nat} {n nL : Nat} {ls : List Value} {lsM : Array Slot} (h : lt_L ad n nL ls lsM) {i : Nat} {v : Value} (hv : ls[i]? = some v) (hn : v ≠ lt_j) : lsM[i]? = some (.val (lt_v ad v)) := (h.2.2.2 _ _ hv hn).2
theorem lt_cat (ad : Nat → Nat) (v : Value) : (lt_v ad v).category = v.category := by cases v <;> rfl
theorem lt_set_len (ls : List Value) : ∀ (i : Nat), (lt_cut ls i).length = ls.length
  | 0 => rfl
  | j + 1 => by
    simp only [lt_cut]
    split <;> first | rfl | exact List.length_set
/-- what cutting leaves -/
theorem lt_cut_at {ls : List Value} {i j : Nat} {v : Value} (h : (lt_cut ls i)[j]? = some v) (hn : v ≠ lt_j) : ls[j]? = some v ∧ ¬ (j + 1 = i ∧ v.category = 2) := by
  cases i with
  | zero => exact ⟨h, fun q => by omega⟩
  | succ k =>
    simp only [lt_cut] at h
    by_cases hj : j = k
    · subst hj
      split at h
      · rw [List.getElem?_set] at h
        simp only [if_true] at h
        split at h
        · cases h; exact absurd rfl hn
        · cases h
      · rw [List.getElem?_set] at h
        simp only [if_true] at h
        split at h
        · cases h; exact absurd rfl hn
        · cases h
      · next h1 h2 =>
        refine ⟨h, fun q => ?_⟩
        cases v with
        | long x => exact h1 x h
        | double x => exact h2 x h
        | _ => exact absurd q.2 (by simp [Value.category])
    · have key : ls[j]? = some v := by
        split at h
        · rwa [List.getElem?_set_ne (fun q => hj q.symm)] at h
        · rwa [List.getElem?_set_ne (fun q => hj q.symm)] at h
        · exact h
      exact ⟨key, fun q => hj (by omega)⟩
/-- a store of one slot -/
theorem lt_L.s1 {ad : Nat → Nat} {n nL : Nat} {ls : List Value} {lsM ls' : Array Slot} {i : Nat} {v : Value} (h : lt_L ad n nL ls lsM) (hi : i < nL) (hv : lt_ok n v) (hj : v ≠ lt_j) (hh : lv_has ls' nL ((i, lt_v ad v) :: (lt_asl ad ls).filter (fun q => !(q.1 == i) && !(q.1 + 1 == i && q.2.category == 2)))) : lt_L ad n nL (lt_s1 ls i v) ls' := by
  refine ⟨hh.1, by unfold lt_s1; rw [List.length_set, lt_set_len]; exact h.2.1, hh.2.1, fun j w hw hn => ?_⟩
  unfold lt_s1 at hw
  by_cases he : j = i
  · subst he
    rw [List.getElem?_set_self (by rw [lt_set_len, h.2.1]; exact hi)] at hw
    cases hw
    exact ⟨hv, hh.2.2 _ List.mem_cons_self⟩
  · rw [List.getElem?_set_ne (fun q => he q.symm)] at hw
    obtain ⟨h1, h2⟩ := lt_cut_at hw hn
    refine ⟨(h.2.2.2 _ _ h1 hn).1, hh.2.2 (j, lt_v ad w) (List.mem_cons_of_mem _ (List.mem_filter.mpr ⟨lt_asl_in.mpr ⟨w, h1, hn, rfl⟩, ?_⟩))⟩
    simp only [Bool.and_eq_true, Bool.not_eq_true', beq_eq_false_iff_ne, ne_eq, Bool.and_eq_false_iff]
    refine ⟨he, ?_⟩
    by_cases hk : j + 1 = i
    · exact Or.inr (by rw [lt_cat]; exact fun q => h2 ⟨hk, q⟩)
    · exact Or.inl hk
/-- a store of two -/
theorem lt_L.s2 {ad : Nat → Nat} {n nL : Nat} {ls : List Value} {lsM ls' : Array Slot} {i : Nat} {v : Value} (h : lt_L ad n nL ls lsM) (hi : i + 1 < nL) (hv : lt_ok n v) (hh : lv_has ls' nL ((i, lt_v ad v) :: (lt_asl ad ls).filter (fun q => !(q.1 == i) && (!(q.1 == i + 1) && !(q.1 + 1 == i && q.2.category == 2))))) : lt_L ad n nL (lt_s2 ls i v) ls' := by
  refine ⟨hh.1, by unfold lt_s2; rw [List.length_set, List.length_set, lt_set_len]; exact h.2.1, hh.2.1, fun j w hw hn => ?_⟩
  unfold lt_s2 at hw
  by_cases h1 : j = i + 1
  · subst h1
    rw [List.getElem?_set_self (by rw [List.length_set, lt_set_len, h.2.1]; exact hi)] at hw
    cases hw
    exact absurd rfl hn
  · rw [List.getElem?_set_ne (fun q => h1 q.symm)] at hw
    by_cases he : j = i
    · subst he
      rw [List.getElem?_set_self (by rw [lt_set_len, h.2.1]; omega)] at hw
      cases hw
      exact ⟨hv, hh.2.2 _ List.mem_cons_self⟩
    · rw [List.getElem?_set_ne (fun q => he q.symm)] at hw
      obtain ⟨g1, g2⟩ := lt_cut_at hw hn
      refine ⟨(h.2.2.2 _ _ g1 hn).1, hh.2.2 (j, lt_v ad w) (List.mem_cons_of_mem _ (List.mem_filter.mpr ⟨lt_asl_in.mpr ⟨w, g1, hn, rfl⟩, ?_⟩))⟩
      simp only [Bool.and_eq_true, Bool.not_eq_true', beq_eq_false_iff_ne, ne_eq, Bool.and_eq_false_iff]
      refine ⟨he, h1, ?_⟩
      by_cases hk : j + 1 = i
      · exact Or.inr (by rw [lt_cat]; exact fun q => g2 ⟨hk, q⟩)
      · exact Or.inl hk
/-- fewer words on locals -/
theorem lt_L.kl {ad : Nat → Nat} {n nL : Nat} {lsM : Array Slot} : ∀ (ks : List Nat) {ls : List Value}, lt_L ad n nL ls lsM → lt_L ad n nL (lt_kl ls ks) lsM
  | [], _, h => h
  | k :: r, ls, h => lt_L.kl r ⟨h.1, by rw [List.length_set]; exact h.2.1, h.2.2.1, fun i v hv hn => by
      rw [List.getElem?_set] at hv
      split at hv
      · split at hv
        · cases hv; exact absurd rfl hn
        · cases hv
      · exact h.2.2.2 i v hv hn⟩
theorem lt_ok.up {n n' : Nat} (h : n ≤ n') {v : Value} (hv : lt_ok n v) : lt_ok n' v := by
  cases v <;> first | trivial | exact Nat.lt_of_lt_of_le hv h
theorem lt_v.up {n : Nat} {ad ad' : Nat → Nat} (h : ∀ k, k < n → ad' k = ad k) {v : Value} (hv : lt_ok n v) : lt_v ad' v = lt_v ad v := by
  cases v <;> first | rfl | exact congrArg Value.ref (h _ hv)
theorem lt_vs.up {n : Nat} {ad ad' : Nat → Nat} (h : ∀ k, k < n → ad' k = ad k) {st : List Value} (hs : ∀ v ∈ st, lt_ok n v) : st.map (lt_v ad') = st.map (lt_v ad) :=
  List.map_congr_left fun v hv => lt_v.up h (hs v hv)
theorem lt_L.up {n n' nL : Nat} {ad ad' : Nat → Nat} {ls : List Value} {lsM : Array Slot} (hn : n ≤ n') (h : ∀ k, k < n → ad' k = ad k) (hl : lt_L ad n nL ls lsM) : lt_L ad' n' nL ls lsM :=
  ⟨hl.1, hl.2.1, hl.2.2.1, fun i v hv hj => ⟨lt_ok.up hn (hl.2.2.2 i v hv hj).1, by rw [lt_v.up h (hl.2.2.2 i v hv hj).1]; exact (hl.2.2.2 i v hv hj).2⟩⟩
/-- what a call has is what a later point has, and more -/
def lt_ge (M M' : LM) : Prop := mC M ≤ mC M' ∧ mS M ≤ mS M' ∧ mN M ≤ mN M'
theorem lt_ge.rf {M : LM} : lt_ge M M := ⟨Nat.le_refl _, Nat.le_refl _, Nat.le_refl _⟩
theorem lt_ge.tr {M M' M'' : LM} (h : lt_ge M M') (h' : lt_ge M' M'') : lt_ge M M'' := ⟨Nat.le_trans h.1 h'.1, Nat.le_trans h.2.1 h'.2.1, Nat.le_trans h.2.2 h'.2.2⟩
theorem lt_w_sum : ∀ st : List Value, (st.map fun v => v.category).sum = lt_w st
  | [] => rfl
  | v :: r => by
    rw [List.map_cons, List.sum_cons, lt_w_sum r]
    show v.category + lt_w r = (bif lt_c1 v then 1 else 2) + lt_w r
    cases v <;> rfl
theorem lt_w_map (ad : Nat → Nat) : ∀ st : List Value, lt_w (st.map (lt_v ad)) = lt_w st
  | [] => rfl
  | v :: r => by
    show (bif lt_c1 (lt_v ad v) then 1 else 2) + lt_w (r.map (lt_v ad)) = (bif lt_c1 v then 1 else 2) + lt_w r
    rw [lt_w_map ad r]
    cases v <;> rfl
