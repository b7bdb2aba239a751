/-! THE START: what the tables say of the classes -/
theorem st_J0 {s : State} {args : Array Value} (hts : ∀ w ∈ lw_tbl, w.before args s = true) : ∃ (cC : ClassId) (iS : Nat → Nat), u_Kn s RJ0 TJ0 4 cC iS := u_known (C := RJ0) (T := TJ0) (N := 4) (n := 4) hts (by decide +kernel) (hts (.instantiable RJ0 4) (by decide +kernel))
theorem st_J4 {s : State} {args : Array Value} (hts : ∀ w ∈ lw_tbl, w.before args s = true) : ∃ (cC : ClassId) (iS : Nat → Nat), u_Kn s RJ4 TJ4 4 cC iS := u_known (C := RJ4) (T := TJ4) (N := 4) (n := 4) hts (by decide +kernel) (hts (.instantiable RJ4 4) (by decide +kernel))
theorem st_J6 {s : State} {args : Array Value} (hts : ∀ w ∈ lw_tbl, w.before args s = true) : ∃ (cC : ClassId) (iS : Nat → Nat), u_Kn s RJ6 TJ6 1 cC iS := u_known (C := RJ6) (T := TJ6) (N := 1) (n := 1) hts (by decide +kernel) (hts (.instantiable RJ6 1) (by decide +kernel))
theorem st_Jx35411 {s : State} {args : Array Value} (hts : ∀ w ∈ lw_tbl, w.before args s = true) : ∃ (cC : ClassId) (iS : Nat → Nat), u_Kn s RJx35411 TJx35411 4 cC iS := u_known (C := RJx35411) (T := TJx35411) (N := 4) (n := 4) hts (by decide +kernel) (hts (.instantiable RJx35411 4) (by decide +kernel))
theorem st_Jx4a65c {s : State} {args : Array Value} (hts : ∀ w ∈ lw_tbl, w.before args s = true) : ∃ (cC : ClassId) (iS : Nat → Nat), u_Kn s RJx4a65c TJx4a65c 3 cC iS := u_known (C := RJx4a65c) (T := TJx4a65c) (N := 3) (n := 3) hts (by decide +kernel) (hts (.instantiable RJx4a65c 3) (by decide +kernel))
theorem st_X0 {s : State} {args : Array Value} (hts : ∀ w ∈ lw_tbl, w.before args s = true) : ∃ (cC : ClassId) (iS : Nat → Nat), u_Kn s RX0 TX0 10 cC iS := u_known (C := RX0) (T := TX0) (N := 10) (n := 10) hts (by decide +kernel) (hts (.instantiable RX0 10) (by decide +kernel))
theorem st_X1 {s : State} {args : Array Value} (hts : ∀ w ∈ lw_tbl, w.before args s = true) : ∃ (cC : ClassId) (iS : Nat → Nat), u_Kn s RX1 TX1 3 cC iS := u_known (C := RX1) (T := TX1) (N := 3) (n := 3) hts (by decide +kernel) (hts (.instantiable RX1 3) (by decide +kernel))
theorem st_X2 {s : State} {args : Array Value} (hts : ∀ w ∈ lw_tbl, w.before args s = true) : ∃ (cC : ClassId) (iS : Nat → Nat), u_Kn s RX2 TX2 7 cC iS := u_known (C := RX2) (T := TX2) (N := 7) (n := 7) hts (by decide +kernel) (hts (.instantiable RX2 7) (by decide +kernel))
theorem st_X3 {s : State} {args : Array Value} (hts : ∀ w ∈ lw_tbl, w.before args s = true) : ∃ (cC : ClassId) (iS : Nat → Nat), u_Kn s RX3 TX3 8 cC iS := u_known (C := RX3) (T := TX3) (N := 8) (n := 8) hts (by decide +kernel) (hts (.instantiable RX3 8) (by decide +kernel))
theorem st_X4 {s : State} {args : Array Value} (hts : ∀ w ∈ lw_tbl, w.before args s = true) : ∃ (cC : ClassId) (iS : Nat → Nat), u_Kn s RX4 TX4 3 cC iS := u_known (C := RX4) (T := TX4) (N := 3) (n := 3) hts (by decide +kernel) (hts (.instantiable RX4 3) (by decide +kernel))
theorem st_X5 {s : State} {args : Array Value} (hts : ∀ w ∈ lw_tbl, w.before args s = true) : ∃ (cC : ClassId) (iS : Nat → Nat), u_Kn s RX5 TX5 2 cC iS := u_known (C := RX5) (T := TX5) (N := 2) (n := 2) hts (by decide +kernel) (hts (.instantiable RX5 2) (by decide +kernel))
theorem st_X6 {s : State} {args : Array Value} (hts : ∀ w ∈ lw_tbl, w.before args s = true) : ∃ (cC : ClassId) (iS : Nat → Nat), u_Kn s RX6 TX6 9 cC iS := u_known (C := RX6) (T := TX6) (N := 9) (n := 9) hts (by decide +kernel) (hts (.instantiable RX6 9) (by decide +kernel))
theorem st_X7 {s : State} {args : Array Value} (hts : ∀ w ∈ lw_tbl, w.before args s = true) : ∃ (cC : ClassId) (iS : Nat → Nat), u_Kn s RX7 TX7 2 cC iS := u_known (C := RX7) (T := TX7) (N := 2) (n := 2) hts (by decide +kernel) (hts (.instantiable RX7 2) (by decide +kernel))
theorem st_X8 {s : State} {args : Array Value} (hts : ∀ w ∈ lw_tbl, w.before args s = true) : ∃ (cC : ClassId) (iS : Nat → Nat), u_Kn s RX8 TX8 11 cC iS := u_known (C := RX8) (T := TX8) (N := 11) (n := 11) hts (by decide +kernel) (hts (.instantiable RX8 11) (by decide +kernel))
theorem st_X9 {s : State} {args : Array Value} (hts : ∀ w ∈ lw_tbl, w.before args s = true) : ∃ (cC : ClassId) (iS : Nat → Nat), u_Kn s RX9 TX9 2 cC iS := u_known (C := RX9) (T := TX9) (N := 2) (n := 2) hts (by decide +kernel) (hts (.instantiable RX9 2) (by decide +kernel))
theorem st_X10 {s : State} {args : Array Value} (hts : ∀ w ∈ lw_tbl, w.before args s = true) : ∃ (cC : ClassId) (iS : Nat → Nat), u_Kn s RX10 TX10 8 cC iS := u_known (C := RX10) (T := TX10) (N := 8) (n := 8) hts (by decide +kernel) (hts (.instantiable RX10 8) (by decide +kernel))
theorem st_X11 {s : State} {args : Array Value} (hts : ∀ w ∈ lw_tbl, w.before args s = true) : ∃ (cC : ClassId) (iS : Nat → Nat), u_Kn s RX11 TX11 6 cC iS := u_known (C := RX11) (T := TX11) (N := 6) (n := 6) hts (by decide +kernel) (hts (.instantiable RX11 6) (by decide +kernel))
theorem st_X12 {s : State} {args : Array Value} (hts : ∀ w ∈ lw_tbl, w.before args s = true) : ∃ (cC : ClassId) (iS : Nat → Nat), u_Kn s RX12 TX12 6 cC iS := u_known (C := RX12) (T := TX12) (N := 6) (n := 6) hts (by decide +kernel) (hts (.instantiable RX12 6) (by decide +kernel))
theorem st_X13 {s : State} {args : Array Value} (hts : ∀ w ∈ lw_tbl, w.before args s = true) : ∃ (cC : ClassId) (iS : Nat → Nat), u_Kn s RX13 TX13 9 cC iS := u_known (C := RX13) (T := TX13) (N := 9) (n := 9) hts (by decide +kernel) (hts (.instantiable RX13 9) (by decide +kernel))
theorem st_X14 {s : State} {args : Array Value} (hts : ∀ w ∈ lw_tbl, w.before args s = true) : ∃ (cC : ClassId) (iS : Nat → Nat), u_Kn s RX14 TX14 13 cC iS := u_known (C := RX14) (T := TX14) (N := 13) (n := 13) hts (by decide +kernel) (hts (.instantiable RX14 13) (by decide +kernel))
theorem st_K {s : State} {args : Array Value} (hts : ∀ w ∈ lw_tbl, w.before args s = true) : ∃ D : va_G, ∀ (k : Nat) (q : vw_C), m_cl[k]? = some q → u_Kn s q.1 q.2.1 q.2.2 (D.1 k) (D.2 k) := by
  obtain ⟨c0, i0, h0⟩ := st_J0 hts
  obtain ⟨c1, i1, h1⟩ := st_J4 hts
  obtain ⟨c2, i2, h2⟩ := st_J6 hts
  obtain ⟨c3, i3, h3⟩ := st_Jx35411 hts
  obtain ⟨c4, i4, h4⟩ := st_Jx4a65c hts
  obtain ⟨c5, i5, h5⟩ := st_X0 hts
  obtain ⟨c6, i6, h6⟩ := st_X1 hts
  obtain ⟨c7, i7, h7⟩ := st_X2 hts
  obtain ⟨c8, i8, h8⟩ := st_X3 hts
  obtain ⟨c9, i9, h9⟩ := st_X4 hts
  obtain ⟨c10, i10, h10⟩ := st_X5 hts
  obtain ⟨c11, i11, h11⟩ := st_X6 hts
  obtain ⟨c12, i12, h12⟩ := st_X7 hts
  obtain ⟨c13, i13, h13⟩ := st_X8 hts
  obtain ⟨c14, i14, h14⟩ := st_X9 hts
  obtain ⟨c15, i15, h15⟩ := st_X10 hts
  obtain ⟨c16, i16, h16⟩ := st_X11 hts
  obtain ⟨c17, i17, h17⟩ := st_X12 hts
  obtain ⟨c18, i18, h18⟩ := st_X13 hts
  obtain ⟨c19, i19, h19⟩ := st_X14 hts
  obtain ⟨c20, i20, h20⟩ := st_J0 hts
  refine ⟨(fun k => [c0, c1, c2, c3, c4, c5, c6, c7, c8, c9, c10, c11, c12, c13, c14, c15, c16, c17, c18, c19, c20].getD k c0, fun k => [i0, i1, i2, i3, i4, i5, i6, i7, i8, i9, i10, i11, i12, i13, i14, i15, i16, i17, i18, i19, i20].getD k i0), fun k q hq => ?_⟩
  rcases k with _ | _ | _ | _ | _ | _ | _ | _ | _ | _ | _ | _ | _ | _ | _ | _ | _ | _ | _ | _ | _ | k
  · cases hq; exact h0
  · cases hq; exact h1
  · cases hq; exact h2
  · cases hq; exact h3
  · cases hq; exact h4
  · cases hq; exact h5
  · cases hq; exact h6
  · cases hq; exact h7
  · cases hq; exact h8
  · cases hq; exact h9
  · cases hq; exact h10
  · cases hq; exact h11
  · cases hq; exact h12
  · cases hq; exact h13
  · cases hq; exact h14
  · cases hq; exact h15
  · cases hq; exact h16
  · cases hq; exact h17
  · cases hq; exact h18
  · cases hq; exact h19
  · cases hq; exact ⟨fun k hk => h20.1 k (Nat.lt_trans hk (by decide)), h20.2⟩
  · cases hq
theorem st_aO {s : State} {args : Array Value} {E : String} (h : (Cond.arrayOver (.object E)).before args s = true) : ∃ cA, ArrOfT s cA (.object E) ∧ va_RA s cA (.object E) := by
  obtain ⟨comp, cA, kA, h1, h2, h3, h4, h5⟩ := Cond.arrayOver_spec h
  exact ⟨cA, fun N z => ⟨(fun k h => by cases h), kA, h3, comp, h4⟩, kA, comp, h3, h4, h1, h5⟩
theorem st_aC {s : State} {args : Array Value} {ty : FieldType} (h : (Cond.arrayClass ty).before args s = true) : ∃ cA, ArrOfT s cA ty ∧ s.vm.findClass ("[" ++ ty.toString) = some cA := by
  obtain ⟨cA, kA, comp, h1, h2, h3⟩ := Cond.arrayClass_spec h
  exact ⟨cA, fun N z => ⟨(fun k h => by cases h), kA, h2, comp, h3⟩, h1⟩
theorem st_aA {s : State} {args : Array Value} {t : FieldType} (h : (Cond.arrayOver (.array t)).before args s = true) : ∃ cA, ArrOfT s cA (.array t) ∧ s.vm.findClass ("[" ++ (FieldType.array t).toString) = some cA := by
  have h' : (Cond.arrayOver (.array t)).holds args s none s [] = true := h
  simp only [Cond.holds, Cond.value, beq_iff_eq] at h'
  cases hc : s.vm.findClass (FieldType.array t).toString with
  | none => simp [hc] at h'
  | some comp =>
    simp only [hc, Option.bind_some, Option.bind_eq_some_iff, Option.map_eq_some_iff] at h'
    obtain ⟨c, hi, k, hk, hb⟩ := h'
    obtain ⟨hlt, hp, -⟩ := Array.findIdx?_eq_some_iff_getElem.mp hi
    have hkk : s.vm.classes[c] = k := (Array.getElem?_eq_some_iff.mp hk).2
    rw [hkk] at hp
    cases hkind : k.kind with
    | array component ty =>
      rw [hkind] at hb hp
      simp at hb hp
      exact ⟨c, fun N z => ⟨(fun k h => by cases h), k, hk, component, by rw [hkind, hb.1]⟩, hb.2⟩
    | _ => rw [hkind] at hb; simp at hb
/-- the arrays' classes, by kind -/
theorem st_A {s : State} {args : Array Value} (hts : ∀ w ∈ lw_tbl, w.before args s = true) : ∃ ids : Nat → ClassId, ∀ (D : va_G) (g : Nat → Nat) (f : Nat → ClassId), (∀ k, k < 10 → f k = ids k) → ∀ (k : Nat) (q : ClassId × FieldType), (m_tys (D, (f, g)))[k]? = some q → ArrOfT s q.1 q.2 ∧ va_RA s q.1 q.2 := by
  obtain ⟨a0, x0, y0⟩ := st_aC (ty := .int) (hts (.arrayClass .int) (by decide +kernel))
  obtain ⟨a1, x1, y1⟩ := st_aC (ty := .boolean) (hts (.arrayClass .boolean) (by decide +kernel))
  obtain ⟨a6, x6, y6⟩ := st_aC (ty := .byte) (hts (.arrayClass .byte) (by decide +kernel))
  obtain ⟨a2, x2, y2⟩ := st_aO (hts (.arrayOver (.object "java/lang/Object")) (by decide +kernel))
  obtain ⟨a3, x3, y3⟩ := st_aO (hts (.arrayOver (.object "Lullabygate$Land")) (by decide +kernel))
  obtain ⟨a4, x4, y4⟩ := st_aO (hts (.arrayOver (.object "LullabygateModel$Land")) (by decide +kernel))
  obtain ⟨a5, x5, y5⟩ := st_aA (t := .int) (hts (.arrayOver (.array .int)) (by decide +kernel))
  refine ⟨fun k => [a0, a1, a2, a3, a4, a5, a6, a2, a2, a6].getD k a0, fun D g f hf k q hq => ?_⟩
  have e0 : f 0 = a0 := hf 0 (by omega)
  have e1 : f 1 = a1 := hf 1 (by omega)
  have e2 : f 2 = a2 := hf 2 (by omega)
  have e3 : f 3 = a3 := hf 3 (by omega)
  have e4 : f 4 = a4 := hf 4 (by omega)
  have e5 : f 5 = a5 := hf 5 (by omega)
  have e6 : f 6 = a6 := hf 6 (by omega)
  have e7 : f 7 = a2 := hf 7 (by omega)
  have e8 : f 8 = a2 := hf 8 (by omega)
  have e9 : f 9 = a6 := hf 9 (by omega)
  rcases k with _ | _ | _ | _ | _ | _ | _ | _ | _ | _ | k
  · cases hq; dsimp only; rw [e0]; exact ⟨x0, y0⟩
  · cases hq; dsimp only; rw [e1]; exact ⟨x1, y1⟩
  · cases hq; dsimp only; rw [e2]; exact ⟨x2, y2⟩
  · cases hq; dsimp only; rw [e3]; exact ⟨x3, y3⟩
  · cases hq; dsimp only; rw [e4]; exact ⟨x4, y4⟩
  · cases hq; dsimp only; rw [e5]; exact ⟨x5, y5⟩
  · cases hq; dsimp only; rw [e6]; exact ⟨x6, y6⟩
  · cases hq; dsimp only; rw [e7]; exact ⟨x2, y2⟩
  · cases hq; dsimp only; rw [e8]; exact ⟨x2, y2⟩
  · cases hq; dsimp only; rw [e9]; exact ⟨x6, y6⟩
  · cases hq
theorem st_str {s : State} {args : Array Value} {own tx : String} {k : Nat} (h : (Cond.stringRef own k tx).before args s = true) : ∃ a, vk_R own k tx a s := by
  have h' : (Cond.stringRef own k tx).before #[] s = true := h
  have h2 := h'
  simp only [Cond.before, Cond.holds, Cond.value] at h2
  cases hc : s.vm.findClass own with
  | none => simp [hc] at h2
  | some cur =>
    simp only [hc, Option.map_some] at h2
    cases hr : s.resolvedAt? own k with
    | none => simp [hr] at h2
    | some x =>
      cases x with
      | string a =>
        refine ⟨a, h', ?_⟩
        unfold State.resolvedAt? at hr
        cases hk : s.vm.classes[cur]? with
        | none => simp [hc, hk] at hr
        | some kk =>
          simp [hc, hk] at hr
          simp [Term.eval, hc, hk, hr]
      | _ => simp [hr] at h2
theorem st_nw {s : State} {args : Array Value} (hts : ∀ w ∈ lw_tbl, w.before args s = true) : ∀ w ∈ tables_1, m_nw w = true → va_Nw w s := by
  intro w hw hn
  have h := hts w (List.mem_append_right _ hw)
  cases w <;> first | exact va_any rfl h | exact h | (exfalso; simp [m_nw] at hn; done)
