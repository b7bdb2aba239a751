/-! THE START: what the premises say of the read-only cells -/
abbrev st_T : Cond := Jvm.Cond.and given_1 narrow_1
abbrev st_cT : Term := .static "java/lang/Integer$IntegerCache" "cache" "[Ljava/lang/Integer;"
abbrev st_eT : Term := .elem st_cT (.index 0)
abbrev st_dG (n : String) : Term := .static "java/lang/Integer" n "[B"
abbrev st_vT (own : String) (k : Nat) : Term := .field (.string own k) "java/lang/String" "value" "[B"
theorem st_dT : ∀ j, j < 100 → (flatC st_T)[121 + j]? = some (Cond.eq (.elem (st_dG "DigitTens") (.int (Int32.ofNat j))) (.int (st_E 35 0 j))) := by decide +kernel
theorem st_dO : ∀ j, j < 100 → (flatC st_T)[18 + j]? = some (Cond.eq (.elem (st_dG "DigitOnes") (.int (Int32.ofNat j))) (.int (st_E 35 1 j))) := by decide +kernel
theorem st_roI {G : mG} {s : State} {t N ak : Nat} {f : Nat → Int32} {ty : FieldType} {A : Nat → Prop} (h : va_T ty t N (fun j => .int (f j)) A s s.heap) (hc : ∀ cell : Cell, s.heap[t]? = some cell → cell.cls = G.2.1 (10 + ak)) : m_roC G (.inl (ak, N, .inl f)) s.heap[t]? := by
  obtain ⟨cell, h1, h2, h3, h4, h5, h6, -⟩ := h
  refine ⟨cell, h1, h3, ?_, hc cell h1, h4, h5, fun j hj => ?_⟩
  · cases hvm : cell.vm with
    | statics k => exact absurd hvm (h2.1 k)
    | _ => rfl
  · show cell.slots[j]? = (arrV (G.2.1 0) N (fun j => .int (f j))).slots[j]?
    rw [h6 j hj, arrV_read _ _ hj]
/-- an array whose class is told exactly -/
theorem st_exB {s : State} {args : Array Value} {tm : Term} {nm : String} {t : Nat} (hex : (Cond.exactly tm nm).before args s = true) (ht : tm.eval args s none [] s = some (.ref t)) : ∃ c : ClassId, s.vm.findClass nm = some c ∧ ∀ cell : Cell, s.heap[t]? = some cell → cell.cls = c := by
  obtain ⟨a2, c, cA, kA, q1, q2, q3, q4, q5, q6, -⟩ := Cond.exactly_spec (args := args) (first := s) (o := none) (s := s) (idx := []) (t := tm) (cls := nm) hex
  cases ht.symm.trans q1
  refine ⟨c, q2, fun cell h => ?_⟩
  cases q3.symm.trans h
  exact q6
/-- a constant String and its bytes -/
theorem st_con {G : mG} {s : State} {args : Array Value} {own : String} {k N a : Nat} {f : Nat → Int32} (K : u_Kn s RJ0 TJ0 2 (G.1.1 20) (G.1.2 20)) (hB : s.vm.findClass "[B" = some (G.2.1 19)) (he : (Term.string own k).eval args s none [] s = some (.ref a)) (hx : (Cond.exactly (.string own k) "java/lang/String").before args s = true) (hc : (Cond.eq (.field (.string own k) "java/lang/String" "coder" "B") (.int 0)).before args s = true) (harr : (Cond.arrayOf (st_vT own k) .byte).before args s = true) (hlen : (Cond.eq (.length (st_vT own k)) (.int (Int32.ofNat N))).before args s = true) (hel : ∀ j, j < N → (Cond.eq (.elem (st_vT own k) (.int (Int32.ofNat j))) (.int (f j))).before args s = true) (hxB : (Cond.exactly (st_vT own k) "[B").before args s = true) (hN : N < 2 ^ 31) : ∃ t : Nat, m_roC G (.inr (20, [.ref t, .int 0, .int 0, .int 0])) s.heap[a]? ∧ m_roC G (.inl (9, N, .inl f)) s.heap[t]? := by
  obtain ⟨t, ht, hT⟩ := va_Tof (A := fun _ => False) (f := fun j => .int (f j)) hN harr (va_eqt hlen) (fun j hj => va_eqt (hel j hj)) (fun _ _ h => h)
  obtain ⟨cB, hcB, hcB'⟩ := st_exB hxB ht
  cases hB.symm.trans hcB
  obtain ⟨cS, hcS, hcS'⟩ := st_exB hx he
  have hS0 : SlotIs s "java/lang/String" "value" "[B" (G.1.2 20 0) := K.1 0 (by decide)
  have hS1 : SlotIs s "java/lang/String" "coder" "B" (G.1.2 20 1) := K.1 1 (by decide)
  obtain ⟨cf0, kf0, fi0, fd0, i0, z0⟩ := hS0
  obtain ⟨cf1, kf1, fi1, fd1, i1, z1⟩ := hS1
  obtain ⟨-, cell, q1, q2, q3, -, q5⟩ := Term.field_spec i0 he ht
  obtain ⟨-, cell', r1, -, -, -, r5⟩ := Term.field_spec i1 he (va_eqt hc)
  cases q1.symm.trans r1
  have hcl : cell.cls = G.1.1 20 := by
    have e1 : s.vm.findClass "java/lang/String" = some (G.1.1 20) := K.2.1
    cases e1.symm.trans hcS
    exact hcS' cell q1
  refine ⟨t, ⟨cell, q1, q2, q3, hcl, fun r hr k hk => ?_⟩, st_roI hT hcB'⟩
  cases hr
  rcases (show k = 0 ∨ k = 1 by have : k < 2 := hk; omega) with rfl | rfl
  · rw [← z0]; exact q5
  · rw [← z1]; exact r5
theorem st_and {a b : Cond} {args : Array Value} {first s : State} {o : Option Outcome} {idx : List Nat} (h : (Cond.and a b).value args first o s idx = some true) : a.value args first o s idx = some true ∧ b.value args first o s idx = some true := by
  simp only [Cond.value] at h
  cases ha : a.value args first o s idx with
  | none => rw [ha] at h; cases h
  | some x =>
    cases x with
    | false => rw [ha] at h; cases h
    | true => rw [ha] at h; exact ⟨rfl, h⟩
theorem st_eqv {t : Term} {args : Array Value} {first s : State} {o : Option Outcome} {idx : List Nat} {u : Term} {x : Int32} (h : (Cond.eq t u).value args first o s idx = some true) (hu : u.eval args first o idx s = some (.int x)) : t.eval args first o idx s = some (.int x) := by
  cases hv : t.eval args first o idx s with
  | none => simp [Cond.value, hv] at h
  | some v =>
    simp only [Cond.value, hv, hu] at h
    cases v <;> simp_all
/-- the cache of small Integers -/
theorem st_ints {s : State} {args : Array Value} {g1 : Nat} {c2 : ClassId} {i2 : Nat → Nat} (K : u_Kn s RJ6 TJ6 1 c2 i2) (e1 : st_cT.eval args s none [] s = some (.ref g1)) (hl : (Term.length st_cT).eval args s none [] s = some (.int 256)) (hall : (Cond.all st_cT (.and (.exactly st_eT "java/lang/Integer") (.eq (.field st_eT "java/lang/Integer" "value" "I") (.sub (.index 0) (.int 128))))).before args s = true) : ∃ (cell : Cell) (a30 : Nat → Nat), s.heap[g1]? = some cell ∧ 256 ≤ cell.slots.size ∧ cell.slots.size.toInt32 = Int32.ofNat 256 ∧ ∀ v, v < 256 → cell.slots[v]? = some (.ref (a30 v)) ∧ ∃ ci : Cell, s.heap[a30 v]? = some ci ∧ ci.vm ≠ .unknown ∧ ci.vm.isStatics = false ∧ ci.cls = c2 ∧ ci.slots[i2 0]? = some (.int (nI v - 128)) := by
  obtain ⟨t, cell, ht, hat, hv⟩ := Term.length_spec hl
  cases e1.symm.trans ht
  obtain ⟨hcell, -, -, -⟩ := State.arrayAt?_spec hat
  have hv' : cell.slots.size.toInt32 = Int32.ofNat 256 := (Value.int.inj hv).symm
  have hsz : 256 ≤ cell.slots.size := by
    refine Nat.not_lt.mp fun q => ?_
    have h1 : nI cell.slots.size = nI 256 := hv'
    have := (nI_eq (by omega) (by omega)).mp h1
    omega
  have hall' : (Cond.all st_cT (.and (.exactly st_eT "java/lang/Integer") (.eq (.field st_eT "java/lang/Integer" "value" "I") (.sub (.index 0) (.int 128))))).value args s none s [] = some true := eq_of_beq hall
  have hS : SlotIs s "java/lang/Integer" "value" "I" (i2 0) := K.1 0 (by decide)
  obtain ⟨cf, kf, fi, fd, hi, hz⟩ := hS
  have key : ∀ v, ∃ a : Nat, v < 256 → cell.slots[v]? = some (.ref a) ∧ ∃ ci : Cell, s.heap[a]? = some ci ∧ ci.vm ≠ .unknown ∧ ci.vm.isStatics = false ∧ ci.cls = c2 ∧ ci.slots[i2 0]? = some (.int (nI v - 128)) := by
    intro v
    by_cases hlt : v < 256
    · obtain ⟨h1, h2⟩ := st_and (Cond.all_elim ht hat hall' v (Nat.lt_of_lt_of_le hlt hsz))
      have hx1 : (Cond.exactly st_eT "java/lang/Integer").holds args s none s [v] = true := by unfold Cond.holds; rw [h1]; rfl
      obtain ⟨a, cI, ci, kI, q1, q2, q3, q4, q5, q6, -⟩ := Cond.exactly_spec hx1
      obtain ⟨a', j', cell', r1, r2, r3, r4, r5⟩ := Term.elem_spec q1
      have e1' : st_cT.eval args s none [v] s = some (.ref g1) := e1
      cases e1'.symm.trans r1
      cases hat.symm.trans r3
      have er : (Term.index 0).eval args s none [v] s = some (.int (nI v)) := rfl
      cases er.symm.trans r2
      have hcl : (nI v).toNatClampNeg = v := Int32.toNatClampNeg_ofNat_of_lt (by omega)
      rw [hcl] at r5
      have hf := st_eqv h2 (x := nI v - 128) rfl
      obtain ⟨-, ci', y1, y2, y3, -, y5⟩ := Term.field_spec hi q1 hf
      cases q3.symm.trans y1
      have e2 : s.vm.findClass "java/lang/Integer" = some c2 := K.2.1
      cases e2.symm.trans q2
      exact ⟨a, fun _ => ⟨r5, ci, q3, y2, y3, q6, by rw [← hz]; exact y5⟩⟩
    · exact ⟨0, fun q => absurd q hlt⟩
  obtain ⟨a30, h30⟩ := Classical.axiomOfChoice key
  exact ⟨cell, a30, hcell, hsz, hv', h30⟩
/-- all of it -/
theorem st_Fof {s : State} {args : Array Value} {D : va_G} {g : Nat → Nat} (hgv : st_T.before args s = true) (hK : ∀ (k : Nat) (q : vw_C), m_cl[k]? = some q → u_Kn s q.1 q.2.1 q.2.2 (D.1 k) (D.2 k)) (e0 : (Term.static "java/util/ArrayList" "DEFAULTCAPACITY_EMPTY_ELEMENTDATA" "[Ljava/lang/Object;").eval args s none [] s = some (.ref (g 0))) (e1 : st_cT.eval args s none [] s = some (.ref (g 1))) (e2 : (st_dG "DigitTens").eval args s none [] s = some (.ref (g 2))) (e3 : (st_dG "DigitOnes").eval args s none [] s = some (.ref (g 3))) (e11 : (Term.string "LullabygateModel" 302).eval args s none [] s = some (.ref (g 11))) (e12 : (Term.string "LullabygateModel" 307).eval args s none [] s = some (.ref (g 12))) (e13 : (Term.string "LullabygateModel" 316).eval args s none [] s = some (.ref (g 13))) : ∃ f17 f18 f19 : ClassId, ArrOfT s f17 (.object "java/lang/Object") ∧ ArrOfT s f18 (.object "java/lang/Integer") ∧ ArrOfT s f19 .byte ∧ ∀ f : Nat → ClassId, f 17 = f17 → f 18 = f18 → f 19 = f19 → ∃ a30 a37 : Nat → Nat, st_F (D, (f, g)) s g a30 a37 := by
  have hs := flat_of_before _ hgv
  have hsi : ∀ (i : Nat) (c : Cond), (flatC st_T)[i]? = some c → c.before args s = true := fun i c h => hs c (List.mem_of_getElem? h)
  obtain ⟨a0, cell0, x0, y0, n0, v0, A17⟩ := st_rk (hsi 5 (.arrayOf (.static "java/util/ArrayList" "DEFAULTCAPACITY_EMPTY_ELEMENTDATA" "[Ljava/lang/Object;") (.object "java/lang/Object")) (by decide +kernel)) (va_eqt (hsi 7 (.eq (.length (.static "java/util/ArrayList" "DEFAULTCAPACITY_EMPTY_ELEMENTDATA" "[Ljava/lang/Object;")) (.int 0)) (by decide +kernel)))
  cases e0.symm.trans x0
  have hlc := va_eqt (hsi 224 (.eq (.length st_cT) (.int 256)) (by decide +kernel))
  obtain ⟨a1, cell1, x1, y1, n1, v1, A18⟩ := st_rk (hsi 223 (.arrayOf st_cT (.object "java/lang/Integer")) (by decide +kernel)) hlc
  cases e1.symm.trans x1
  have hlt := va_eqt (hsi 120 (.eq (.length (st_dG "DigitTens")) (.int 100)) (by decide +kernel))
  have hlo := va_eqt (hsi 17 (.eq (.length (st_dG "DigitOnes")) (.int 100)) (by decide +kernel))
  obtain ⟨a2, cell2, x2, y2, n2, v2, A19⟩ := st_rk (hsi 119 (.arrayOf (st_dG "DigitTens") .byte) (by decide +kernel)) hlt
  cases e2.symm.trans x2
  obtain ⟨t2, w2, T2⟩ := va_Tof (A := fun _ => False) (N := 100) (f := fun j => .int (st_E 35 0 j)) (by decide) (hsi 119 (.arrayOf (st_dG "DigitTens") .byte) (by decide +kernel)) hlt (fun j hj => va_eqt (hsi (121 + j) _ (st_dT j hj))) (fun _ _ h => h)
  cases e2.symm.trans w2
  obtain ⟨t3, w3, T3⟩ := va_Tof (A := fun _ => False) (N := 100) (f := fun j => .int (st_E 35 1 j)) (by decide) (hsi 16 (.arrayOf (st_dG "DigitOnes") .byte) (by decide +kernel)) hlo (fun j hj => va_eqt (hsi (18 + j) _ (st_dO j hj))) (fun _ _ h => h)
  cases e3.symm.trans w3
  obtain ⟨cB, hB, hB2⟩ := st_exB (hsi 1348 (.exactly (st_dG "DigitTens") "[B") (by decide +kernel)) e2
  obtain ⟨cB', hB', hB3⟩ := st_exB (hsi 1347 (.exactly (st_dG "DigitOnes") "[B") (by decide +kernel)) e3
  cases hB.symm.trans hB'
  have hcB := hB2 _ y2
  obtain ⟨cellI, a30, z1, z2, z3, z4⟩ := st_ints (hK 2 _ rfl) e1 hlc (hsi 225 _ (by decide +kernel))
  cases y1.symm.trans z1
  refine ⟨cell0.cls, cell1.cls, cell2.cls, A17, A18, A19, fun f q17 q18 q19 => ?_⟩
  have hBf : s.vm.findClass "[B" = some (f 19) := by rw [q19, hcB]; exact hB
  have K20 : u_Kn s RJ0 TJ0 2 (D.1 20) (D.2 20) := hK 20 _ rfl
  obtain ⟨t11, b11, c11⟩ := st_con (G := (D, (f, g))) (N := 0) (f := st_E 37 0) K20 hBf e11 (hsi 1327 _ (by decide +kernel)) (hsi 1328 _ (by decide +kernel)) (hsi 1329 _ (by decide +kernel)) (hsi 1330 _ (by decide +kernel)) (fun j hj => absurd hj (Nat.not_lt_zero j)) (hsi 1377 _ (by decide +kernel)) (by decide)
  obtain ⟨t12, b12, c12⟩ := st_con (G := (D, (f, g))) (N := 1) (f := st_E 37 1) K20 hBf e12 (hsi 1331 _ (by decide +kernel)) (hsi 1332 _ (by decide +kernel)) (hsi 1333 _ (by decide +kernel)) (hsi 1334 _ (by decide +kernel)) (fun j hj => by
    obtain rfl : j = 0 := by omega
    exact hsi 1335 _ (by decide +kernel)) (hsi 1378 _ (by decide +kernel)) (by decide)
  obtain ⟨t13, b13, c13⟩ := st_con (G := (D, (f, g))) (N := 1) (f := st_E 37 2) K20 hBf e13 (hsi 1336 _ (by decide +kernel)) (hsi 1337 _ (by decide +kernel)) (hsi 1338 _ (by decide +kernel)) (hsi 1339 _ (by decide +kernel)) (fun j hj => by
    obtain rfl : j = 0 := by omega
    exact hsi 1340 _ (by decide +kernel)) (hsi 1379 _ (by decide +kernel)) (by decide)
  refine ⟨a30, fun i => if i = 0 then t11 else if i = 1 then t12 else t13, fun v hv => ?_, ?_, ?_, fun i hi => ?_, fun i hi => ?_, fun i hi => ?_⟩
  · obtain ⟨-, ci, m1, m2, m3, m4, m5⟩ := z4 v hv
    refine ⟨ci, m1, m2, m3, m4, fun r hr k hk => ?_⟩
    cases hr
    obtain rfl : k = 0 := by have : k < 1 := hk; omega
    exact m5
  · refine ⟨cell0, y0, n0, v0, q17.symm, Nat.zero_le _, ?_, fun j hj => absurd hj (Nat.not_lt_zero j)⟩
    obtain ⟨t, cell, ht, hat, hv⟩ := Term.length_spec (va_eqt (hsi 7 (.eq (.length (.static "java/util/ArrayList" "DEFAULTCAPACITY_EMPTY_ELEMENTDATA" "[Ljava/lang/Object;")) (.int 0)) (by decide +kernel)))
    cases e0.symm.trans ht
    cases y0.symm.trans (State.arrayAt?_spec hat).1
    exact (Value.int.inj hv).symm
  · refine ⟨cell1, y1, n1, v1, q18.symm, z2, z3, fun j hj => ?_⟩
    show cell1.slots[j]? = (arrV (f 0) 256 (fun j => va_rf (some (a30 j)))).slots[j]?
    rw [(z4 j hj).1, arrV_read _ _ hj]
    rfl
  · rcases (show i = 0 ∨ i = 1 by omega) with rfl | rfl
    · exact st_roI T2 (fun cell h => by rw [hB2 cell h, ← hcB]; exact q19.symm)
    · exact st_roI T3 (fun cell h => by rw [hB3 cell h, ← hcB]; exact q19.symm)
  · rcases (show i = 0 ∨ i = 1 ∨ i = 2 by omega) with rfl | rfl | rfl
    · exact b11
    · exact b12
    · exact b13
  · rcases (show i = 0 ∨ i = 1 ∨ i = 2 by omega) with rfl | rfl | rfl
    · exact c11
    · exact c12
    · exact c13
