/-! THE START: what statics hold -/
theorem st_Zs {s : State} {args : Array Value} (hts : ∀ w ∈ lw_tbl, w.before args s = true) (hgv : (Jvm.Cond.and given_1 narrow_1).before args s = true) : ∃ g0 g1 g2 g3 : Nat,
    (Term.static "java/util/ArrayList" "DEFAULTCAPACITY_EMPTY_ELEMENTDATA" "[Ljava/lang/Object;").eval args s none [] s = some (.ref g0) ∧ (Term.static "java/lang/Integer$IntegerCache" "cache" "[Ljava/lang/Integer;").eval args s none [] s = some (.ref g1) ∧ (Term.static "java/lang/Integer" "DigitTens" "[B").eval args s none [] s = some (.ref g2) ∧ (Term.static "java/lang/Integer" "DigitOnes" "[B").eval args s none [] s = some (.ref g3) ∧
    ∀ g : Nat → Nat, g 0 = g0 → g 1 = g1 → g 2 = g2 → g 3 = g3 → ∀ q ∈ m_sts g, va_Z q.1 q.2.1 q.2.2.1 q.2.2.2 (fun q => s.heap.size ≤ q) s s.heap := by
  have hs := flat_of_before _ hgv
  have hA : ∀ a : Nat, a < s.heap.size → ¬ (fun q : Nat => s.heap.size ≤ q) a := fun a h => Nat.not_le.mpr h
  obtain ⟨g0, k0, e0, -⟩ := Term.length_spec (va_eqt (hs (.eq (.length (.static "java/util/ArrayList" "DEFAULTCAPACITY_EMPTY_ELEMENTDATA" "[Ljava/lang/Object;")) (.int 0)) (by decide +kernel)))
  obtain ⟨g1, k1, e1, -⟩ := Term.length_spec (va_eqt (hs (.eq (.length (.static "java/lang/Integer$IntegerCache" "cache" "[Ljava/lang/Integer;")) (.int 256)) (by decide +kernel)))
  obtain ⟨g2, k2, e2, -⟩ := Term.length_spec (va_eqt (hs (.eq (.length (.static "java/lang/Integer" "DigitTens" "[B")) (.int 100)) (by decide +kernel)))
  obtain ⟨g3, k3, e3, -⟩ := Term.length_spec (va_eqt (hs (.eq (.length (.static "java/lang/Integer" "DigitOnes" "[B")) (.int 100)) (by decide +kernel)))
  have e4 := va_eqt (hs (.eq (.static "java/lang/Integer$IntegerCache" "high" "I") (.int 127)) (by decide +kernel))
  have e5 := va_eqt (hs (.eq (.static "java/lang/String" "COMPACT_STRINGS" "Z") (.int 1)) (by decide +kernel))
  refine ⟨g0, g1, g2, g3, e0, e1, e2, e3, fun g q0 q1 q2 q3 q hq => ?_⟩
  rcases List.mem_cons.mp hq with rfl | hq
  · dsimp only; rw [q0]; exact va_Zof (hts (.laysStatic "java/util/ArrayList" "DEFAULTCAPACITY_EMPTY_ELEMENTDATA" "[Ljava/lang/Object;") (by decide +kernel)) (hts (.initialized "java/util/ArrayList") (by decide +kernel)) e0 hA
  rcases List.mem_cons.mp hq with rfl | hq
  · dsimp only; rw [q1]; exact va_Zof (hts (.laysStatic "java/lang/Integer$IntegerCache" "cache" "[Ljava/lang/Integer;") (by decide +kernel)) (hts (.initialized "java/lang/Integer$IntegerCache") (by decide +kernel)) e1 hA
  rcases List.mem_cons.mp hq with rfl | hq
  · exact va_Zof (hts (.laysStatic "java/lang/Integer$IntegerCache" "high" "I") (by decide +kernel)) (hts (.initialized "java/lang/Integer$IntegerCache") (by decide +kernel)) e4 hA
  rcases List.mem_cons.mp hq with rfl | hq
  · dsimp only; rw [q2]; exact va_Zof (hts (.laysStatic "java/lang/Integer" "DigitTens" "[B") (by decide +kernel)) (hts (.initialized "java/lang/Integer") (by decide +kernel)) e2 hA
  rcases List.mem_cons.mp hq with rfl | hq
  · dsimp only; rw [q3]; exact va_Zof (hts (.laysStatic "java/lang/Integer" "DigitOnes" "[B") (by decide +kernel)) (hts (.initialized "java/lang/Integer") (by decide +kernel)) e3 hA
  rcases List.mem_cons.mp hq with rfl | hq
  · exact va_Zof (hts (.laysStatic "java/lang/String" "COMPACT_STRINGS" "Z") (by decide +kernel)) (hts (.initialized "java/lang/String") (by decide +kernel)) e5 hA
  · cases hq
