/-! THE START: the memory of the cells that nobody writes -/
/-- the ints of the read-only rows: 35 the digits, 37 the texts "", " ", "b" -/
def st_E (k i j : Nat) : Int32 := if k = 35 then (if i = 0 then nI (48 + j / 10) else nI (48 + j % 10)) else if i = 1 then 32 else if i = 2 then 98 else 0
def st_C (i : Nat) : Nat := if i = 0 then 0 else 1
def st_Y (g a30 a37 : Nat → Nat) : mY := (fun k i => if k = 30 then a30 (128 + i) else if k = 33 then g 1 else if k = 34 then g 0 else if k = 35 then g (2 + i) else if k = 36 then g (11 + i) else a37 i, fun k => if k = 30 then 128 else if k = 33 then 1 else if k = 34 then 1 else if k = 35 then 2 else if k = 36 then 3 else if k = 37 then 3 else 0)
def st_S (a30 : Nat → Nat) : mS := (fun k i _ => if k = 30 then nI i else 0, fun _ _ _ => 0, fun _ _ _ => none, fun _ _ _ => 0, fun _ _ => [], fun _ _ => 0, fun k i => if k = 33 then 256 else if k = 35 then 100 else if k = 37 then st_C i else 0, st_E, fun k _ j => if k = 33 then some (a30 j) else none)
/-- the memory that holds a state's cells and nothing else -/
noncomputable def st_M (Y : mY) (S : mS) : mM := fun a => @dite (Option mCe) (∃ q : Nat × Nat, q.2 < yn Y q.1 ∧ yA Y q.1 q.2 = a) (Classical.propDecidable _) (fun h => some (m_cell Y S (Classical.choose h).1 (Classical.choose h).2)) (fun _ => none)
theorem st_M_at {Y : mY} {S : mS} (inj : ∀ k i k' i', i < yn Y k → i' < yn Y k' → yA Y k i = yA Y k' i' → k = k' ∧ i = i') {k i : Nat} (hi : i < yn Y k) : st_M Y S (yA Y k i) = some (m_cell Y S k i) := by
  have h : ∃ q : Nat × Nat, q.2 < yn Y q.1 ∧ yA Y q.1 q.2 = yA Y k i := ⟨(k, i), hi, rfl⟩
  unfold st_M
  rw [dif_pos h]
  obtain ⟨h1, h2⟩ := inj _ _ _ _ (Classical.choose_spec h).1 hi (Classical.choose_spec h).2
  rw [h1, h2]
theorem st_M_of {Y : mY} {S : mS} {a : Nat} {e : mCe} (h0 : st_M Y S a = some e) : ∃ k i, i < yn Y k ∧ yA Y k i = a ∧ e = m_cell Y S k i := by
  unfold st_M at h0
  by_cases h : ∃ q : Nat × Nat, q.2 < yn Y q.1 ∧ yA Y q.1 q.2 = a
  · rw [dif_pos h] at h0
    exact ⟨_, _, (Classical.choose_spec h).1, (Classical.choose_spec h).2, (Option.some.inj h0).symm⟩
  · rw [dif_neg h] at h0
    cases h0
theorem st_kind {g a30 a37 : Nat → Nat} {k i : Nat} (h : i < yn (st_Y g a30 a37) k) : (k = 30 ∧ i < 128) ∨ (k = 33 ∧ i = 0) ∨ (k = 34 ∧ i = 0) ∨ (k = 35 ∧ i < 2) ∨ (k = 36 ∧ i < 3) ∨ (k = 37 ∧ i < 3) := by
  have h : i < (if k = 30 then 128 else if k = 33 then 1 else if k = 34 then 1 else if k = 35 then 2 else if k = 36 then 3 else if k = 37 then 3 else 0) := h
  split at h
  · omega
  · split at h
    · omega
    · split at h
      · omega
      · split at h
        · omega
        · split at h
          · omega
          · split at h <;> omega
/-- what the premises give: the addresses of the Integers and of the texts' bytes, and what stands there -/
def st_F (G : mG) (s : State) (g a30 a37 : Nat → Nat) : Prop :=
  (∀ v, v < 256 → m_roC G (.inr (2, [.int (nI v - 128)])) s.heap[a30 v]?) ∧
  m_roC G (.inl (7, 0, mRf (fun _ => none))) s.heap[g 0]? ∧
  m_roC G (.inl (8, 256, mRf (fun j => some (a30 j)))) s.heap[g 1]? ∧
  (∀ i, i < 2 → m_roC G (.inl (9, 100, .inl (st_E 35 i))) s.heap[g (2 + i)]?) ∧
  (∀ i, i < 3 → m_roC G (.inr (20, [.ref (a37 i), .int 0, .int 0, .int 0])) s.heap[g (11 + i)]?) ∧
  (∀ i, i < 3 → m_roC G (.inl (9, st_C i, .inl (st_E 37 i))) s.heap[a37 i]?)
theorem st_128 (i : Nat) : nI (128 + i) - 128 = nI i := by
  show Int32.ofNat (128 + i) - 128 = Int32.ofNat i
  rw [Nat.add_comm, Int32.ofNat_add]
  exact Int32.add_sub_cancel (Int32.ofNat i) (Int32.ofNat 128)
theorem st_roc {G : mG} {s : State} {g a30 a37 : Nat → Nat} (F : st_F G s g a30 a37) : ∀ k i, i < yn (st_Y g a30 a37) k → m_ro (m_cell (st_Y g a30 a37) (st_S a30) k i) = true ∧ m_roC G (m_cell (st_Y g a30 a37) (st_S a30) k i) s.heap[yA (st_Y g a30 a37) k i]? := by
  obtain ⟨F1, F2, F3, F4, F5, F6⟩ := F
  intro k i hi
  rcases st_kind hi with ⟨rfl, h⟩ | ⟨rfl, rfl⟩ | ⟨rfl, rfl⟩ | ⟨rfl, h⟩ | ⟨rfl, h⟩ | ⟨rfl, h⟩
  · have h1 := F1 (128 + i) (by omega)
    rw [st_128] at h1
    exact ⟨rfl, h1⟩
  · exact ⟨rfl, F3⟩
  · exact ⟨rfl, F2⟩
  · exact ⟨rfl, F4 i h⟩
  · exact ⟨rfl, F5 i h⟩
  · exact ⟨rfl, F6 i h⟩
theorem st_arrT {s : State} {c : ClassId} {t1 t2 : FieldType} (h1 : ArrOfT s c t1) (h2 : ArrOfT s c t2) : t1 = t2 := by
  obtain ⟨-, k1, e1, c1, q1⟩ := h1 0 (fun _ => .null)
  obtain ⟨-, k2, e2, c2, q2⟩ := h2 0 (fun _ => .null)
  cases e1.symm.trans e2
  rw [q1] at q2
  cases q2
  rfl
theorem st_arrO {s : State} {c : ClassId} {t1 : FieldType} {C : String} (h1 : ArrOfT s c t1) (h2 : ClassAt s C c) : False := by
  obtain ⟨-, k1, e1, c1, q1⟩ := h1 0 (fun _ => .null)
  obtain ⟨-, k2, e2, q2⟩ := h2
  cases e1.symm.trans e2
  rw [q1] at q2
  cases q2
theorem st_name {s : State} {C1 C2 : String} {c : ClassId} (h1 : ClassAt s C1 c) (h2 : ClassAt s C2 c) : C1 = C2 := by
  obtain ⟨k1, e1, q1⟩ := Vm.findClass_spec h1.1
  obtain ⟨k2, e2, q2⟩ := Vm.findClass_spec h2.1
  cases e1.symm.trans e2
  exact q1.symm.trans q2
theorem st_same {G : mG} {o : Option Cell} {N N' : Nat} {f f' : Nat → Int32} (hN : N < 2 ^ 31) (hN' : N' < 2 ^ 31) (h : m_roC G (.inl (9, N, .inl f)) o) (h' : m_roC G (.inl (9, N', .inl f')) o) : N = N' ∧ ∀ j, j < N → f j = f' j := by
  obtain ⟨cell, e, -, -, -, -, a5, a6⟩ := h
  obtain ⟨cell', e', -, -, -, -, b5, b6⟩ := h'
  cases e.symm.trans e'
  have hn : N = N' := (nI_eq hN hN').mp (a5.symm.trans b5)
  subst hn
  refine ⟨rfl, fun j hj => ?_⟩
  have h1 : cell.slots[j]? = (arrV (G.2.1 0) N (fun j => .int (f j))).slots[j]? := a6 j hj
  have h2 : cell.slots[j]? = (arrV (G.2.1 0) N (fun j => .int (f' j))).slots[j]? := b6 j hj
  rw [arrV_read _ _ hj] at h1 h2
  exact Value.int.inj (Option.some.inj (h1.symm.trans h2))
def st_cd (G : mG) (k : Nat) : ClassId := if k = 30 then G.1.1 2 else if k = 33 then G.2.1 18 else if k = 34 then G.2.1 17 else if k = 36 then G.1.1 20 else G.2.1 19
theorem st_cls {G : mG} {s : State} {g a30 a37 : Nat → Nat} (F : st_F G s g a30 a37) {k i : Nat} (hi : i < yn (st_Y g a30 a37) k) : ∃ cell : Cell, s.heap[yA (st_Y g a30 a37) k i]? = some cell ∧ cell.cls = st_cd G k := by
  obtain ⟨F1, F2, F3, F4, F5, F6⟩ := F
  rcases st_kind hi with ⟨rfl, h⟩ | ⟨rfl, rfl⟩ | ⟨rfl, rfl⟩ | ⟨rfl, h⟩ | ⟨rfl, h⟩ | ⟨rfl, h⟩
  · obtain ⟨cell, a1, -, -, a4, -⟩ := F1 (128 + i) (by omega)
    exact ⟨cell, a1, a4⟩
  · obtain ⟨cell, a1, -, -, a4, -⟩ := F3
    exact ⟨cell, a1, a4⟩
  · obtain ⟨cell, a1, -, -, a4, -⟩ := F2
    exact ⟨cell, a1, a4⟩
  · obtain ⟨cell, a1, -, -, a4, -⟩ := F4 i h
    exact ⟨cell, a1, a4⟩
  · obtain ⟨cell, a1, -, -, a4, -⟩ := F5 i h
    exact ⟨cell, a1, a4⟩
  · obtain ⟨cell, a1, -, -, a4, -⟩ := F6 i h
    exact ⟨cell, a1, a4⟩
theorem st_C_lt (i : Nat) : st_C i < 2 ^ 31 := by
  unfold st_C
  split <;> decide
theorem st_37 {G : mG} {s : State} {a37 : Nat → Nat} (F6 : ∀ i, i < 3 → m_roC G (.inl (9, st_C i, .inl (st_E 37 i))) s.heap[a37 i]?) {i i' : Nat} (h : i < 3) (h' : i' < 3) (e : a37 i = a37 i') : i = i' := by
  have h1 := F6 i h
  have h2 := F6 i' h'
  rw [← e] at h2
  obtain ⟨q1, q2⟩ := st_same (st_C_lt i) (st_C_lt i') h1 h2
  rcases (show i = 0 ∨ i = 1 ∨ i = 2 by omega) with rfl | rfl | rfl <;> rcases (show i' = 0 ∨ i' = 1 ∨ i' = 2 by omega) with rfl | rfl | rfl <;> first | rfl | exact absurd q1 (by decide) | exact absurd (q2 0 (by decide)) (by decide)
theorem st_inj {G : mG} {s : State} {g a30 a37 : Nat → Nat} (F : st_F G s g a30 a37) (A17 : ArrOfT s (G.2.1 17) (.object "java/lang/Object")) (A18 : ArrOfT s (G.2.1 18) (.object "java/lang/Integer")) (A19 : ArrOfT s (G.2.1 19) .byte) (K2 : ClassAt s RJ6 (G.1.1 2)) (K20 : ClassAt s RJ0 (G.1.1 20)) : ∀ k i k' i', i < yn (st_Y g a30 a37) k → i' < yn (st_Y g a30 a37) k' → yA (st_Y g a30 a37) k i = yA (st_Y g a30 a37) k' i' → k = k' ∧ i = i' := by
  intro k i k' i' hi hi' he
  have hc : st_cd G k = st_cd G k' := by
    obtain ⟨c1, x1, y1⟩ := st_cls F hi
    obtain ⟨c2, x2, y2⟩ := st_cls F hi'
    rw [← he] at x2
    cases x1.symm.trans x2
    exact y1.symm.trans y2
  have d1 : ¬ G.2.1 17 = G.2.1 18 := fun q => absurd (st_arrT A17 (q ▸ A18)) (by decide)
  have d2 : ¬ G.2.1 17 = G.2.1 19 := fun q => absurd (st_arrT A17 (q ▸ A19)) (by decide)
  have d3 : ¬ G.2.1 18 = G.2.1 19 := fun q => absurd (st_arrT A18 (q ▸ A19)) (by decide)
  have d4 : ¬ G.2.1 17 = G.1.1 2 := fun q => st_arrO A17 (q ▸ K2)
  have d5 : ¬ G.2.1 18 = G.1.1 2 := fun q => st_arrO A18 (q ▸ K2)
  have d6 : ¬ G.2.1 19 = G.1.1 2 := fun q => st_arrO A19 (q ▸ K2)
  have d7 : ¬ G.2.1 17 = G.1.1 20 := fun q => st_arrO A17 (q ▸ K20)
  have d8 : ¬ G.2.1 18 = G.1.1 20 := fun q => st_arrO A18 (q ▸ K20)
  have d9 : ¬ G.2.1 19 = G.1.1 20 := fun q => st_arrO A19 (q ▸ K20)
  have d0 : ¬ G.1.1 2 = G.1.1 20 := fun q => absurd (st_name (q ▸ K2 : ClassAt s RJ6 (G.1.1 20)) K20) (by decide)
  obtain ⟨F1, F2, F3, F4, F5, F6⟩ := F
  have a35 : ∀ {i i' : Nat}, i < 2 → i' < 2 → g (2 + i) = g (2 + i') → i = i' := by
    intro i i' h h' e
    have h1 := F4 i h
    have h2 := F4 i' h'
    rw [← e] at h2
    obtain ⟨-, q2⟩ := st_same (by decide) (by decide) h1 h2
    rcases (show i = 0 ∨ i = 1 by omega) with rfl | rfl <;> rcases (show i' = 0 ∨ i' = 1 by omega) with rfl | rfl <;> first | rfl | exact absurd (q2 1 (by decide)) (by decide)
  have a57 : ∀ {i i' : Nat}, i < 2 → i' < 3 → g (2 + i) = a37 i' → False := by
    intro i i' h h' e
    have h1 := F4 i h
    have h2 := F6 i' h'
    rw [← e] at h2
    obtain ⟨q1, -⟩ := st_same (by decide) (st_C_lt i') h1 h2
    unfold st_C at q1
    split at q1 <;> exact absurd q1 (by decide)
  have a30' : ∀ {i i' : Nat}, i < 128 → i' < 128 → a30 (128 + i) = a30 (128 + i') → i = i' := by
    intro i i' h h' e
    have h1 := F1 (128 + i) (by omega)
    have h2 := F1 (128 + i') (by omega)
    rw [← e] at h2
    rw [st_128] at h1 h2
    obtain ⟨c1, x1, -, -, -, y1⟩ := h1
    obtain ⟨c2, x2, -, -, -, y2⟩ := h2
    cases x1.symm.trans x2
    have z1 := y1 (RJ6, TJ6, 1) rfl 0 (by decide)
    have z2 := y2 (RJ6, TJ6, 1) rfl 0 (by decide)
    have z : some (Value.int (nI i)) = some (Value.int (nI i')) := z1.symm.trans z2
    exact (nI_eq (by omega) (by omega)).mp (Value.int.inj (Option.some.inj z))
  have a36 : ∀ {i i' : Nat}, i < 3 → i' < 3 → g (11 + i) = g (11 + i') → i = i' := by
    intro i i' h h' e
    have h1 := F5 i h
    have h2 := F5 i' h'
    rw [← e] at h2
    obtain ⟨c1, x1, -, -, -, y1⟩ := h1
    obtain ⟨c2, x2, -, -, -, y2⟩ := h2
    cases x1.symm.trans x2
    have z1 := y1 (RJ0, TJ0, 2) rfl 0 (by decide)
    have z2 := y2 (RJ0, TJ0, 2) rfl 0 (by decide)
    have z : some (Value.ref (a37 i)) = some (Value.ref (a37 i')) := z1.symm.trans z2
    exact st_37 F6 h h' (Value.ref.inj (Option.some.inj z))
  rcases st_kind hi with ⟨rfl, h⟩ | ⟨rfl, rfl⟩ | ⟨rfl, rfl⟩ | ⟨rfl, h⟩ | ⟨rfl, h⟩ | ⟨rfl, h⟩ <;> rcases st_kind hi' with ⟨rfl, h'⟩ | ⟨rfl, rfl⟩ | ⟨rfl, rfl⟩ | ⟨rfl, h'⟩ | ⟨rfl, h'⟩ | ⟨rfl, h'⟩ <;> first | exact ⟨rfl, rfl⟩ | exact ⟨rfl, a30' h h' he⟩ | exact ⟨rfl, a35 h h' he⟩ | exact ⟨rfl, a36 h h' he⟩ | exact ⟨rfl, st_37 F6 h h' he⟩ | exact (a57 h h' he).elim | exact (a57 h' h he.symm).elim | exact (d1 hc).elim | exact (d1 hc.symm).elim | exact (d2 hc).elim | exact (d2 hc.symm).elim | exact (d3 hc).elim | exact (d3 hc.symm).elim | exact (d4 hc).elim | exact (d4 hc.symm).elim | exact (d5 hc).elim | exact (d5 hc.symm).elim | exact (d6 hc).elim | exact (d6 hc.symm).elim | exact (d7 hc).elim | exact (d7 hc.symm).elim | exact (d8 hc).elim | exact (d8 hc.symm).elim | exact (d9 hc).elim | exact (d9 hc.symm).elim | exact (d0 hc).elim | exact (d0 hc.symm).elim
theorem st_lv {g a30 a37 : Nat → Nat} : ∀ k i f t, i < yn (st_Y g a30 a37) k → (m_fds k)[f]? = some t → m_lv (st_Y g a30 a37) (st_S a30) k i f t := by
  intro k i f t hi ht
  rcases st_kind hi with ⟨rfl, h⟩ | ⟨rfl, rfl⟩ | ⟨rfl, rfl⟩ | ⟨rfl, h⟩ | ⟨rfl, h⟩ | ⟨rfl, h⟩
  · have ht : ([(0, 0, 0)] : List (Nat × Nat × Nat))[f]? = some t := ht
    rcases f with _ | f
    · cases ht
      exact ⟨fun q => absurd q (by decide), fun q => absurd q (by decide), fun q => absurd q (by decide), fun q => absurd q (by decide)⟩
    · cases ht
  · have ht : ([] : List (Nat × Nat × Nat))[f]? = some t := ht
    cases ht
  · have ht : ([] : List (Nat × Nat × Nat))[f]? = some t := ht
    cases ht
  · have ht : ([] : List (Nat × Nat × Nat))[f]? = some t := ht
    cases ht
  · have ht : ([(7, 37, 0), (0, 0, 0), (0, 0, 0), (0, 0, 0)] : List (Nat × Nat × Nat))[f]? = some t := ht
    rcases f with _ | _ | _ | _ | f
    · cases ht
      exact ⟨fun q => absurd q (by decide), fun q => absurd q (by decide), fun q => absurd q (by decide), fun q => h⟩
    · cases ht
      exact ⟨fun q => absurd q (by decide), fun q => absurd q (by decide), fun q => absurd q (by decide), fun q => absurd q (by decide)⟩
    · cases ht
      exact ⟨fun q => absurd q (by decide), fun q => absurd q (by decide), fun q => absurd q (by decide), fun q => absurd q (by decide)⟩
    · cases ht
      exact ⟨fun q => absurd q (by decide), fun q => absurd q (by decide), fun q => absurd q (by decide), fun q => absurd q (by decide)⟩
    · cases ht
  · have ht : ([] : List (Nat × Nat × Nat))[f]? = some t := ht
    cases ht
theorem st_nL {g a30 a37 : Nat → Nat} {k i : Nat} (hk : mLk k = true) : ¬ i < yn (st_Y g a30 a37) k := by
  intro hi
  rcases mLk_c hk with rfl | rfl | rfl | rfl <;> rcases st_kind hi with h | h | h | h | h | h <;> exact absurd h.1 (by decide)
/-- the start's memory -/
theorem st_mem {G : mG} {s : State} {g a30 a37 : Nat → Nat} (F : st_F G s g a30 a37) (A17 : ArrOfT s (G.2.1 17) (.object "java/lang/Object")) (A18 : ArrOfT s (G.2.1 18) (.object "java/lang/Integer")) (A19 : ArrOfT s (G.2.1 19) .byte) (K2 : ClassAt s RJ6 (G.1.1 2)) (K20 : ClassAt s RJ0 (G.1.1 20)) : mR g (st_Y g a30 a37) (st_S a30) (st_M (st_Y g a30 a37) (st_S a30)) ∧ mKs g (st_Y g a30 a37) (st_S a30) ∧ m_H G s.heap.size (st_M (st_Y g a30 a37) (st_S a30)) s.heap := by
  have inj := st_inj F A17 A18 A19 K2 K20
  refine ⟨⟨fun k i hi => st_M_at inj hi, inj, fun k i hk hi => absurd hi (st_nL hk), fun k i k' i' hk hi => absurd hi (st_nL hk), fun k i hk hi => absurd hi (st_nL hk), st_lv, ⟨rfl, rfl, rfl, rfl, rfl⟩⟩, ⟨⟨rfl, rfl, rfl⟩, ⟨rfl, rfl, rfl, rfl⟩, fun i hi => ⟨rfl, rfl, ?_, ?_⟩⟩, ⟨[], fun k q h => by simp at h, ⟨fun i j p q h => by simp at h, fun k q h => by simp at h⟩, fun a e ha => ?_⟩⟩
  · intro j
    rcases (show i = 0 ∨ i = 1 ∨ i = 2 by omega) with rfl | rfl | rfl <;> rfl
  · show st_C i ≤ 1
    unfold st_C
    split <;> omega
  · obtain ⟨k, i, hi, rfl, rfl⟩ := st_M_of ha
    obtain ⟨h1, h2⟩ := st_roc F k i hi
    exact Or.inr ⟨h1, h2.lt, h2⟩
