/-! THE START: the memory of the cells that nobody writes -/
def st_Y (g : Nat → Nat) : mY := (fun k _ => if k = 33 then g 1 else g 0, fun k => if k = 33 then 1 else if k = 34 then 1 else 0)
def st_S (L : Nat) (xs : Nat → Int32) : mS := (fun _ _ _ => 0, fun _ _ _ => 0, fun _ _ _ => none, fun _ _ _ => 0, fun _ _ => [], fun _ _ => 0, fun k _ => if k = 33 then L else 0, fun _ _ j => xs j, fun _ _ _ => none)
noncomputable def st_M (Y : mY) (S : mS) : mM := fun a => @dite (Option mCe) (∃ q : Nat × Nat, q.2 < yn Y q.1 ∧ yA Y q.1 q.2 = a) (Classical.propDecidable _) (fun h => some (m_cell Y S (Classical.choose h).1 (Classical.choose h).2)) (fun _ => none)
theorem st_M_at {Y : mY} {S : mS} (inj : ∀ k i k' i', i < yn Y k → i' < yn Y k' → yA Y k i = yA Y k' i' → k = k' ∧ i = i') {k i : Nat} (hi : i < yn Y k) : st_M Y S (yA Y k i) = some (m_cell Y S k i) := by
  have h : ∃ q : Nat × Nat, q.2 < yn Y q.1 ∧ yA Y q.1 q.2 = yA Y k i := ⟨(k, i), hi, rfl⟩
  unfold st_M
  rw [dif_pos h]
  obtain ⟨h1, h2⟩ := inj _ _ _ _ (Classical.choose_spec h).1 hi (Classical.choose_spec h).2
  rw [h1, h2]
theorem st_M_of {Y : mY} {S : mS} {a : Nat} {e : mCe} (h0 : st_M Y S a = some e) : ∃ k i, i < yn Y k ∧ yA Y k i = a ∧ e = m_cell Y S k i := by
  unfold st_M at h0
  by_cases h : ∃ q : Nat × Nat, q.2 < yn Y q.1 ∧ yA Y q.1 q.2 = a
  · rw [dif_pos h] at h0
    exact ⟨_, _, (Classical.choose_spec h).1, (Classical.choose_spec h).2, (Option.some.inj h0).symm⟩
  · rw [dif_neg h] at h0
    cases h0
theorem st_arrT {s : State} {c : ClassId} {t1 t2 : FieldType} (h1 : ArrOfT s c t1) (h2 : ArrOfT s c t2) : t1 = t2 := by
  obtain ⟨-, k1, e1, c1, q1⟩ := h1 0 (fun _ => .null)
  obtain ⟨-, k2, e2, c2, q2⟩ := h2 0 (fun _ => .null)
  cases e1.symm.trans e2
  rw [q1] at q2
  cases q2
  rfl
theorem st_kind {g : Nat → Nat} {k i : Nat} (h : i < yn (st_Y g) k) : (k = 33 ∧ i = 0) ∨ (k = 34 ∧ i = 0) := by
  have h : i < (if k = 33 then 1 else if k = 34 then 1 else 0) := h
  split at h
  · omega
  · split at h <;> omega
/-- what the premises give -/
def st_F (G : mG) (s : State) (g : Nat → Nat) (L : Nat) (xs : Nat → Int32) : Prop := m_roC G (.inl (7, 0, mRf (fun _ => none))) s.heap[g 0]? ∧ m_roC G (.inl (8, L, .inl xs)) s.heap[g 1]?
theorem st_roc {G : mG} {s : State} {g : Nat → Nat} {L : Nat} {xs : Nat → Int32} (F : st_F G s g L xs) : ∀ k i, i < yn (st_Y g) k → m_ro (m_cell (st_Y g) (st_S L xs) k i) = true ∧ m_roC G (m_cell (st_Y g) (st_S L xs) k i) s.heap[yA (st_Y g) k i]? := by
  obtain ⟨F1, F2⟩ := F
  intro k i hi
  rcases st_kind hi with ⟨rfl, rfl⟩ | ⟨rfl, rfl⟩
  · exact ⟨rfl, F2⟩
  · exact ⟨rfl, F1⟩
theorem st_ne {G : mG} {s : State} {g : Nat → Nat} {L : Nat} {xs : Nat → Int32} (F : st_F G s g L xs) (A17 : ArrOfT s (G.2.1 17) (.object "java/lang/Object")) (A18 : ArrOfT s (G.2.1 18) .int) : g 0 ≠ g 1 := by
  obtain ⟨⟨c1, x1, -, -, y1, -⟩, ⟨c2, x2, -, -, y2, -⟩⟩ := F
  intro e
  rw [← e] at x2
  cases x1.symm.trans x2
  have e7 : G.2.1 17 = G.2.1 18 := y1.symm.trans y2
  exact absurd (st_arrT A17 (e7 ▸ A18)) (by decide)
theorem st_inj {g : Nat → Nat} (hne : g 0 ≠ g 1) : ∀ k i k' i', i < yn (st_Y g) k → i' < yn (st_Y g) k' → yA (st_Y g) k i = yA (st_Y g) k' i' → k = k' ∧ i = i' := by
  intro k i k' i' hi hi' he
  rcases st_kind hi with ⟨rfl, rfl⟩ | ⟨rfl, rfl⟩ <;> rcases st_kind hi' with ⟨rfl, rfl⟩ | ⟨rfl, rfl⟩
  · exact ⟨rfl, rfl⟩
  · exact absurd (show g 1 = g 0 from he).symm hne
  · exact absurd (show g 0 = g 1 from he) hne
  · exact ⟨rfl, rfl⟩
theorem st_nL {g : Nat → Nat} {k i : Nat} (hk : mLk k = true) : ¬ i < yn (st_Y g) k := by
  intro h
  rcases st_kind h with ⟨rfl, -⟩ | ⟨rfl, -⟩ <;> exact absurd hk (by decide)
theorem st_mem {G : mG} {s : State} {g : Nat → Nat} {L : Nat} {xs : Nat → Int32} (F : st_F G s g L xs) (A17 : ArrOfT s (G.2.1 17) (.object "java/lang/Object")) (A18 : ArrOfT s (G.2.1 18) .int) : mR g (st_Y g) (st_S L xs) (st_M (st_Y g) (st_S L xs)) ∧ m_H G s.heap.size (st_M (st_Y g) (st_S L xs)) s.heap := by
  have inj := st_inj (st_ne F A17 A18)
  refine ⟨⟨fun k i hi => st_M_at inj hi, inj, fun k i hk hi => absurd hi (st_nL hk), fun k i k' i' hk hi => absurd hi (st_nL hk), fun k i hk hi => absurd hi (st_nL hk), fun k i f t hi ht => ?_, ⟨rfl, rfl, rfl, rfl, rfl⟩⟩, ⟨[], fun k q h => by simp at h, ⟨fun i j p q h => by simp at h, fun k q h => by simp at h⟩, fun a e ha => ?_⟩⟩
  · rcases st_kind hi with ⟨rfl, rfl⟩ | ⟨rfl, rfl⟩
    · have ht : ([] : List (Nat × Nat × Nat))[f]? = some t := ht
      cases ht
    · have ht : ([] : List (Nat × Nat × Nat))[f]? = some t := ht
      cases ht
  · obtain ⟨k, i, hi, rfl, rfl⟩ := st_M_of ha
    obtain ⟨h1, h2⟩ := st_roc F k i hi
    exact Or.inr ⟨h1, h2.lt, h2⟩
