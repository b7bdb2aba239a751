/-! THE START: the rest of the static environment -/
theorem st_env {s : State} {args : Array Value} (hts : ∀ w ∈ lw_tbl, w.before args s = true) (hgv : (Jvm.Cond.and given_1 narrow_1).before args s = true) :
    vx_Zq Bundle.tN "UNASSIGNED_STACK" Bundle.steD (fun q => s.heap.size ≤ q) s s.heap ∧ vx_Zq Bundle.tN "SUPPRESSED_SENTINEL" Bundle.listD (fun q => s.heap.size ≤ q) s s.heap ∧ va_Dc s ∧ (∃ g4 : Nat, va_Mi "[Ljava/lang/Object;" g4 s) ∧ va_Fw RJx35411 ⟨"java/util/Iterator", "hasNext", "()Z"⟩ yJx35411_hasNext_aae02 s ∧ va_Fw RJx35411 ⟨"java/util/Iterator", "next", "()Ljava/lang/Object;"⟩ yJx35411_next_0502b s := by
  have hs := flat_of_before _ hgv
  have hA : ∀ a : Nat, a < s.heap.size → ¬ (fun q : Nat => s.heap.size ≤ q) a := fun a h => Nat.not_le.mpr h
  refine ⟨vx_Zqof (hts _ (by decide +kernel)) (hts _ (by decide +kernel)) (hs _ (by decide +kernel)) hA, vx_Zqof (hts _ (by decide +kernel)) (hts _ (by decide +kernel)) (hs _ (by decide +kernel)) hA, va_Dc.of (hts _ (by decide +kernel)), va_Mi.of (hs (.isRef (.mirror "[Ljava/lang/Object;")) (by decide +kernel)), va_Fw.of (hts _ (by decide +kernel)) (hts _ (by decide +kernel)) (hts _ (by decide +kernel)) (hts _ (by decide +kernel)) (hts _ (by decide +kernel)), va_Fw.of (hts _ (by decide +kernel)) (hts _ (by decide +kernel)) (hts _ (by decide +kernel)) (hts _ (by decide +kernel)) (hts _ (by decide +kernel))⟩
theorem st_strs {s : State} {args : Array Value} (hts : ∀ w ∈ lw_tbl, w.before args s = true) : ∃ g10 g11 g12 g13 g14 : Nat, ∀ g : Nat → Nat, g 10 = g10 → g 11 = g11 → g 12 = g12 → g 13 = g13 → g 14 = g14 → ∀ q ∈ m_strs g, vk_R q.1 q.2.1 q.2.2.1 q.2.2.2 s := by
  obtain ⟨g10, e0⟩ := st_str (hts (.stringRef "Lullabygate" 336 "-") (by decide +kernel))
  obtain ⟨g11, e1⟩ := st_str (hts (.stringRef "LullabygateModel" 302 "") (by decide +kernel))
  obtain ⟨g12, e2⟩ := st_str (hts (.stringRef "LullabygateModel" 307 " ") (by decide +kernel))
  obtain ⟨g13, e3⟩ := st_str (hts (.stringRef "LullabygateModel" 316 "b") (by decide +kernel))
  obtain ⟨g14, e4⟩ := st_str (hts (.stringRef "LullabygateModel" 318 "-") (by decide +kernel))
  refine ⟨g10, g11, g12, g13, g14, fun g q0 q1 q2 q3 q4 q hq => ?_⟩
  rcases List.mem_cons.mp hq with rfl | hq
  · dsimp only; rw [q0]; exact e0
  rcases List.mem_cons.mp hq with rfl | hq
  · dsimp only; rw [q1]; exact e1
  rcases List.mem_cons.mp hq with rfl | hq
  · dsimp only; rw [q2]; exact e2
  rcases List.mem_cons.mp hq with rfl | hq
  · dsimp only; rw [q3]; exact e3
  rcases List.mem_cons.mp hq with rfl | hq
  · dsimp only; rw [q4]; exact e4
  · cases hq
