/-! THE LAW'S OWN CACHE with sizes 1: a request, as the search has it -/
/-- no marks where marks don't count -/
def NMK (mk : Bool) (s : QQ) : Prop := mk = false → ∀ i, s.2.2 i = false
section Fv
variable {key m room ru k0 n : Nat} {mk : Bool} {q : PQ} {s : QQ} {K : Nat → Nat} {B : Nat → Bool}
theorem pSh_h {sz : Nat → Nat} : ∀ (f : Nat) (q : PQ), (pShQ ru room sz k0 f q).2.2.2.2 = q.2.2.2.2
  | 0, q => rfl
  | f + 1, q => by
    unfold pShQ
    split
    · rw [pSh_h f]
      split <;> rfl
    · rfl
theorem qSpin_f (h : B 0 = false) : ∀ f, qSpin m f K B = (K, B)
  | 0 => rfl
  | f + 1 => if_neg (fun w => by rw [h] at w; exact Bool.noConfusion w)
theorem QPR_hitK (h : QPR mk q s) : fIx q.2.1 key q.1 0 < q.1 ↔ qHitQ s.2.1 key s.1 = true := by
  rw [← hitQ_fIx, qHitQ_ex, qHitQ_ex, h.1]
  constructor
  · intro ⟨j, a, b⟩
    exact ⟨j, a, by rw [← (h.2.2 j a).1]; exact b⟩
  · intro ⟨j, a, b⟩
    exact ⟨j, a, by rw [(h.2.2 j a).1]; exact b⟩
theorem QPR_step (h : QPR mk q s) (hm : NMK mk s) (hD : KD s.1 s.2.1) (h1 : 1 ≤ room) (hs : s.1 ≤ room) (h6 : room ≤ 6) : QPR mk (pAskQ (if mk = true then 3 else 2) room (fun _ => 1) key q) (qStp mk room key s).2 ∧ NMK mk (qStp mk room key s).2 ∧ (pAskQ (if mk = true then 3 else 2) room (fun _ => 1) key q).2.2.2.2 = q.2.2.2.2 + (qStp mk room key s).1.toNat := by
  obtain ⟨m, K, B⟩ := s
  have hm' : m ≤ room := hs
  have ek := QPR_hitK (key := key) h
  have r0 : 0 < (if mk = true then 3 else 2 : Nat) := by split <;> omega
  have nB : mk = false → ∀ i, qMk mk key K B i = false := fun w i => by
    show (B i || (mk && decide (K i = key))) = false
    rw [show B i = false from hm w i, w]; rfl
  by_cases w : qHitQ K key m = true
  · have lt : fIx q.2.1 key q.1 0 < q.1 := ek.mpr w
    have e1 : pAskQ (if mk = true then 3 else 2) room (fun _ => 1) key q = (q.1, q.2.1, u1 q.2.2.1 (fIx q.2.1 key q.1 0) true, q.2.2.2.1, q.2.2.2.2 + 1) := by
      unfold pAskQ
      dsimp only
      rw [if_pos lt, if_pos r0]
    have e2 : qStp mk room key (m, K, B) = (true, m, K, qMk mk key K B) := by
      unfold qStp
      exact if_pos w
    rw [e1, e2]
    exact ⟨QPR_hit h hD.2 lt, fun v i => nB v i, rfl⟩
  · have nlt : ¬ fIx q.2.1 key q.1 0 < q.1 := fun v => w (ek.mp v)
    have e1 : pAskQ (if mk = true then 3 else 2) room (fun _ => 1) key q = pInQ (fun _ => 1) key (pShQ (if mk = true then 3 else 2) room (fun _ => 1) key 60 q) := by
      unfold pAskQ
      dsimp only
      rw [if_neg nlt, if_neg (by omega)]
    have eh : (pInQ (fun _ => 1) key (pShQ (if mk = true then 3 else 2) room (fun _ => 1) key 60 q)).2.2.2.2 = q.2.2.2.2 := pSh_h 60 q
    by_cases f : m = room
    · have e2 : qStp mk room key (m, K, B) = (false, m, qTK m key (qSpin m m K (qMk mk key K B)).1, qTB m (qSpin m m K (qMk mk key K B)).2) := by
        unfold qStp
        exact (if_neg w).trans (if_pos f)
      rw [e1, e2, ← f]
      rw [← f] at eh
      have h' : QPR mk q (m, K, qMk mk key K B) := ⟨h.1, h.2.1, fun i hi => ⟨(h.2.2 i hi).1, fun v => ((h.2.2 i hi).2 v).trans (qMk_miss (s := (m, K, B)) w i hi).symm⟩⟩
      cases mk with
      | true =>
        refine ⟨sh_spin_m (by omega) h' (by omega), fun v => Bool.noConfusion v, eh⟩
      | false =>
        have es := qSpin_f (m := m) (K := K) (nB rfl 0) m
        rw [es]
        refine ⟨sh_out (n := 59) (by omega) (by decide) h', fun _ i => ?_, eh⟩
        show qTB m (qMk false key K B) i = false
        unfold qTB
        split
        · exact nB rfl _
        · split
          · rfl
          · exact nB rfl _
    · have e2 : qStp mk room key (m, K, B) = (false, m + 1, (fun i => if i = m then key else K i), (fun i => if i = m then false else qMk mk key K B i)) := by
        unfold qStp
        exact (if_neg w).trans (if_neg f)
      rw [e1, e2]
      refine ⟨QPR_room (s := (m, K, B)) h (by omega) w, fun v i => ?_, eh⟩
      show (if i = m then false else qMk mk key K B i) = false
      split
      · rfl
      · exact nB v i
end Fv
