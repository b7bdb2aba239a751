/-- what the JDK's lists and arrays do -/
def m_newI (M : mM) (ak : Nat) (n : Int32) (B : Nat) (κ : Nat → mM → Prop) : Prop := ¬ n < 0 ∧ n.toNatClampNeg ≤ B ∧ ∀ q : Nat, M q = none → κ q (m_up M q (.inl (ak, n.toNatClampNeg, .inl (fun _ => 0))))
def m_newR (M : mM) (ak : Nat) (n : Int32) (B : Nat) (κ : Nat → mM → Prop) : Prop := ¬ n < 0 ∧ n.toNatClampNeg ≤ B ∧ ∀ q : Nat, M q = none → κ q (m_up M q (.inl (ak, n.toNatClampNeg, .inr (.inr (.inr (.inr (fun _ => none)))))))
def m_copyR (M : mM) (src : Option Nat) (sp : Int32) (dst : Option Nat) (dp n : Int32) (κ : mM → Prop) : Prop := ∃ (a0 n0 a n1 : Nat) (f g : Nat → Option Nat), src = some a0 ∧ dst = some a ∧ M a0 = some (.inl (2, n0, .inr (.inr (.inr (.inr f))))) ∧ M a = some (.inl (2, n1, .inr (.inr (.inr (.inr g))))) ∧ ¬ sp < 0 ∧ ¬ dp < 0 ∧ ¬ n < 0 ∧ sp.toNatClampNeg + n.toNatClampNeg ≤ n0 ∧ dp.toNatClampNeg + n.toNatClampNeg ≤ n1 ∧
  (∀ i : Nat, i < n.toNatClampNeg → ∀ y : Nat, f (sp.toNatClampNeg + i) = some y → ∃ (ci : Nat) (fs : List Value), M y = some (.inr (ci, fs)) ∧ ci < 20) ∧ κ (m_up M a (.inl (2, n1, .inr (.inr (.inr (.inr (va_cpy f g sp.toNatClampNeg dp.toNatClampNeg n.toNatClampNeg)))))))
section MJDK
variable {p : Program} {l : Launch} {e : Env} {R : Room} {s : State} {m : MethodId} {args : Array Value} {below : List Frame} {meth : Method} {c : Code} {Q : State → Prop}
variable {cc : ByteArray} {nL : Nat} {own : String} {Ts : List Cond} {G : mG} {b0 : Nat} {M : mM} {k n pc : Nat} {lv : List (Nat × Value)} {st : List Value}
theorem m_obj (C : m_C p s m args c cc nL own Ts G b0) {ci : Nat} (h : ci < 20) {r : vw_C} (hr : m_cl[ci]? = some r) : va_Nw (.castable r.1 "java/lang/Object") s := by
  have hZ := C.2.2.2.2.2.2.1.1
  rcases (show ci = 0 ∨ ci = 1 ∨ ci = 2 ∨ ci = 3 ∨ ci = 4 ∨ ci = 5 ∨ ci = 6 ∨ ci = 7 ∨ ci = 8 ∨ ci = 9 ∨ ci = 10 ∨ ci = 11 ∨ ci = 12 ∨ ci = 13 ∨ ci = 14 ∨ ci = 15 ∨ ci = 16 ∨ ci = 17 ∨ ci = 18 ∨ ci = 19 by omega) with rfl | rfl | rfl | rfl | rfl | rfl | rfl | rfl | rfl | rfl | rfl | rfl | rfl | rfl | rfl | rfl | rfl | rfl | rfl | rfl
  · cases hr; exact hZ _ (List.mem_of_getElem? (i := 1865) (by decide +kernel)) rfl
  · cases hr; exact hZ _ (List.mem_of_getElem? (i := 1864) (by decide +kernel)) rfl
  · cases hr; exact hZ _ (List.mem_of_getElem? (i := 1847) (by decide +kernel)) rfl
  · cases hr; exact hZ _ (List.mem_of_getElem? (i := 1867) (by decide +kernel)) rfl
  · cases hr; exact hZ _ (List.mem_of_getElem? (i := 1849) (by decide +kernel)) rfl
  · cases hr; exact hZ _ (List.mem_of_getElem? (i := 1856) (by decide +kernel)) rfl
  · cases hr; exact hZ _ (List.mem_of_getElem? (i := 1866) (by decide +kernel)) rfl
  · cases hr; exact hZ _ (List.mem_of_getElem? (i := 1845) (by decide +kernel)) rfl
  · cases hr; exact hZ _ (List.mem_of_getElem? (i := 1861) (by decide +kernel)) rfl
  · cases hr; exact hZ _ (List.mem_of_getElem? (i := 1863) (by decide +kernel)) rfl
  · cases hr; exact hZ _ (List.mem_of_getElem? (i := 1850) (by decide +kernel)) rfl
  · cases hr; exact hZ _ (List.mem_of_getElem? (i := 1859) (by decide +kernel)) rfl
  · cases hr; exact hZ _ (List.mem_of_getElem? (i := 1857) (by decide +kernel)) rfl
  · cases hr; exact hZ _ (List.mem_of_getElem? (i := 1848) (by decide +kernel)) rfl
  · cases hr; exact hZ _ (List.mem_of_getElem? (i := 1852) (by decide +kernel)) rfl
  · cases hr; exact hZ _ (List.mem_of_getElem? (i := 1858) (by decide +kernel)) rfl
  · cases hr; exact hZ _ (List.mem_of_getElem? (i := 1846) (by decide +kernel)) rfl
  · cases hr; exact hZ _ (List.mem_of_getElem? (i := 1862) (by decide +kernel)) rfl
  · cases hr; exact hZ _ (List.mem_of_getElem? (i := 1860) (by decide +kernel)) rfl
  · cases hr; exact hZ _ (List.mem_of_getElem? (i := 1851) (by decide +kernel)) rfl
theorem m_rAny (C : m_C p s m args c cc nL own Ts G b0) {H : Heap} (hH : m_H G b0 M H) {a ci : Nat} {fs : List Value} {r : vw_C} {E : String} (hM : M a = some (.inr (ci, fs))) (hc : m_cl[ci]? = some r) (hasg : ∀ comp c0 : ClassId, s.vm.findClass E = some comp → s.vm.findClass r.1 = some c0 → s.vm.assignable c0 comp = true) : va_Any E s H a := by
  obtain ⟨cell, h1, h2, h3⟩ := m_recv C hH hM hc
  obtain ⟨kC, hkC, -⟩ := Vm.findClass_spec h3
  exact ⟨cell, h1, h2, ⟨kC, hkC⟩, fun comp h => hasg comp _ h h3⟩
theorem m_any (C : m_C p s m args c cc nL own Ts G b0) {H : Heap} (hH : m_H G b0 M H) {y ci : Nat} {fs : List Value} (hM : M y = some (.inr (ci, fs))) (h : ci < 20) : va_Any "java/lang/Object" s H y := by
  have hlen : ci < m_cl.length := by show ci < 21; omega
  have hr : m_cl[ci]? = some m_cl[ci] := List.getElem?_eq_getElem hlen
  generalize m_cl[ci] = r at hr
  refine m_rAny C hH hM hr (fun comp c0 h1 h2 => ?_)
  obtain ⟨c1, t1, g1, g2, g3⟩ := Cond.castable_spec (va_Nw.use (A := args) rfl (m_obj C h hr))
  cases h1.symm.trans g2
  cases h2.symm.trans g1
  exact g3
theorem q_gets (C : m_C p s m args c cc nL own Ts G b0) {g : Nat → Nat} (hg : G.2.2 = g) {Cn nn dd : String} (v : Value) {index : Nat} (hq : (Cn, nn, dd, v) ∈ m_sts g) (hlink : Cond.fieldLink own index Cn nn dd ∈ Ts) (d : decode cc pc = .ok (.getstatic index, 3)) (kk : m_W p l e R s m args below meth c G b0 Q nL M k n (pc + 3) lv (v :: st)) : m_W p l e R s m args below meth c G b0 Q nL M k n pc lv st := by
  intro H locs ls hW hl
  subst hg
  exact va_gets C.1 C.2.1 (C.2.2.2.2.2.2.1.2.2.2.2.1 _ hq) hW.2 C.2.2.2.1 (C.2.2.2.2.1 _ hlink) (fun _ h => h) d (kk H locs ls hW hl)
theorem q_newI (C : m_C p s m args c cc nL own Ts G b0) {atype : ArrayType} {ak B : Nat} {nn : Int32} {κ : Nat → mM → Prop} (h : m_newI M ak nn B κ) {ty : FieldType} (hty : newarray.typeOf atype = ty) (hak : (m_tys G)[ak]? = some (G.2.1 ak, ty)) (h7 : ak < 7) (hB : B ≤ 65536) (hz : defaultValue ty = .int 0) (hcb : componentBytes ty ≤ 8) (hcl : ∀ cA, va_RA s cA ty → va_RA s (G.2.1 ak) ty → cA = G.2.1 ak) (harr : Cond.arrayClass ty ∈ Ts) (hcells : k + 1 ≤ R.cells) (hslots : n + B ≤ R.slots) (d : decode cc pc = .ok (.newarray atype, 2))
    (kk : ∀ q M', κ q M' → m_W p l e R s m args below meth c G b0 Q nL M' (k + 1) (n + B) (pc + 2) lv (va_rf (some q) :: st)) : m_W p l e R s m args below meth c G b0 Q nL M k n pc lv (.int nn :: st) := by
  obtain ⟨hn, hle, hh⟩ := h
  intro H locs ls hW hl
  have hts := C.2.2.2.2.1
  have hK := C.2.2.2.2.2.1
  have hb0 := C.2.2.2.2.2.2.2
  obtain ⟨ws, hP, hD, hup⟩ := m_push hW.1
  refine va_newa (ty := ty) (N' := nn.toNatClampNeg) (a0 := (nn.toNatClampNeg, .inl (fun _ => 0))) C.1 C.2.1 (by rw [hty]; exact hts _ harr) hty hK hP hD hW.2 (fun q h9 => Nat.le_trans hb0 h9) (fun cA => by rw [vp_cell_i, hz]) hn rfl (Nat.le_trans (Nat.mul_le_mul hle hcb) (by omega)) hcells (by omega) d (fun q cA H1 hK1 hP1 hD1 hS1 => ?_)
  have hA : cA = G.2.1 ak := hcl cA ((hK1.2 (m_tys G).length _ (by rw [List.getElem?_append_right (Nat.le_refl _), Nat.sub_self]; rfl)).2) (hK.2 ak _ hak).2
  subst hA
  obtain ⟨u1, u3⟩ := hup H1 q (.inl (ak, nn.toNatClampNeg, .inl (fun _ => 0))) (by simp [m_ro]; omega) (m_below hb0 hW hS1) hP1 hD1
  exact W.widen (Nat.le_refl _) (by omega) (kk q _ (hh q u1) H1 locs ls ⟨u3, hS1⟩ hl)
theorem m_raI {cA cB : ClassId} (h1 : va_RA s cA .int) (h2 : va_RA s cB .int) : cA = cB := Option.some.inj (Eq.trans (Eq.symm h1) h2)
theorem m_raZ {cA cB : ClassId} (h1 : va_RA s cA .boolean) (h2 : va_RA s cB .boolean) : cA = cB := Option.some.inj (Eq.trans (Eq.symm h1) h2)
theorem m_raB {cA cB : ClassId} (h1 : va_RA s cA .byte) (h2 : va_RA s cB .byte) : cA = cB := Option.some.inj (Eq.trans (Eq.symm h1) h2)
theorem m_raO {cA cB : ClassId} {E : String} (h1 : va_RA s cA (.object E)) (h2 : va_RA s cB (.object E)) : cA = cB := Option.some.inj (Eq.trans (Eq.symm (va_nmO h1 rfl)) (va_nmO h2 rfl))
theorem q_newR (C : m_C p s m args c cc nL own Ts G b0) {E : String} {ak B index : Nat} {nn : Int32} {κ : Nat → mM → Prop} (h : m_newR M ak nn B κ) (hak : (m_tys G)[ak]? = some (G.2.1 ak, .object E)) (h7 : ak < 7) (hB : B ≤ 65536) (hcl : Cond.classLink own index E ∈ Ts) (tb : Nat) (hov : tables_1[tb]? = some (Cond.arrayOver (.object E))) (hcells : k + 1 ≤ R.cells) (hslots : n + B ≤ R.slots) (d : decode cc pc = .ok (.anewarray index, 3))
    (kk : ∀ q M', κ q M' → m_W p l e R s m args below meth c G b0 Q nL M' (k + 1) (n + B) (pc + 3) lv (va_rf (some q) :: st)) : m_W p l e R s m args below meth c G b0 Q nL M k n pc lv (.int nn :: st) := by
  obtain ⟨hn, hle, hh⟩ := h
  intro H locs ls hW hl
  have hts := C.2.2.2.2.1
  have hK := C.2.2.2.2.2.1
  have hb0 := C.2.2.2.2.2.2.2
  have hover : va_AO E s := C.2.2.2.2.2.2.1.1 _ (List.mem_of_getElem? hov) rfl
  obtain ⟨ws, hP, hD, hup⟩ := m_push hW.1
  refine va_newq (C := E) (N' := nn.toNatClampNeg) C.1 C.2.1 C.2.2.2.1 (hts _ hcl) hover hK hP hD hW.2 (fun q h9 => Nat.le_trans hb0 h9) hn rfl (by omega) hcells (by omega) d (fun q cA H1 hK1 hP1 hD1 hS1 => ?_)
  have hA : cA = G.2.1 ak := m_raO ((hK1.2 (m_tys G).length _ (by rw [List.getElem?_append_right (Nat.le_refl _), Nat.sub_self]; rfl)).2) (hK.2 ak _ hak).2
  subst hA
  obtain ⟨u1, u3⟩ := hup H1 q (.inl (ak, nn.toNatClampNeg, .inr (.inr (.inr (.inr (fun _ => none)))))) (by simp [m_ro]; omega) (m_below hb0 hW hS1) hP1 hD1
  exact W.widen (Nat.le_refl _) (by omega) (kk q _ (hh q u1) H1 locs ls ⟨u3, hS1⟩ hl)
theorem q_aast (C : m_C p s m args c cc nL own Ts G b0) {r x : Option Nat} {i : Int32} {ak : Nat} {κ : mM → Prop} (h : m_stR M r i x ak κ) (h2 : ak = 2 ∨ ak = 3 ∨ ak = 4) (d : decode cc pc = .ok (.aastore, 1)) (kk : ∀ M', κ M' → m_W p l e R s m args below meth c G b0 Q nL M' k n (pc + 1) lv st) : m_W p l e R s m args below meth c G b0 Q nL M k n pc lv (va_rf x :: .int i :: va_rf r :: st) := by
  obtain ⟨a, N, f, rfl, hM, hi, hy, hh⟩ := h
  intro H locs ls hW hl
  have hK := C.2.2.2.2.2.1
  have hb0 := C.2.2.2.2.2.2.2
  have hro : m_ro (.inl (ak, N, .inr (.inr (.inr (.inr f))))) = false := by rcases h2 with rfl | rfl | rfl <;> rfl
  obtain ⟨E, hE⟩ : ∃ E, (m_tys G)[ak]? = some (G.2.1 ak, .object E) := by rcases h2 with rfl | rfl | rfl <;> exact ⟨_, rfl⟩
  obtain ⟨ws, q0, hP, hD, he, -, hup⟩ := m_look hW.1 hM hro
  have hro2 : ∀ z, m_ro (.inl (ak, N, .inr (.inr (.inr (.inr z))))) = false := fun z => by rcases h2 with rfl | rfl | rfl <;> rfl
  cases x with
  | none => exact va_astqN (C := E) C.1 C.2.1 hK hP hD hW.2 q0 ak he hE hi d (fun H1 locs1 hP1 hD1 hS1 => kk _ hh H1 locs1 ls ⟨hup H1 (.inl (ak, N, .inr (.inr (.inr (.inr _))))) (hro2 _) (m_below hb0 hW hS1) hP1 hD1, hS1⟩ hl)
  | some y =>
    obtain ⟨ci, fs, hMy, h20, h3, h4⟩ := hy y rfl
    have hany : va_Any E s H y := by
      rcases h2 with rfl | rfl | rfl
      · cases hE; exact m_any C hW.1 hMy h20
      · cases hE
        have := h3 rfl
        subst this
        exact m_rAny C hW.1 hMy rfl (fun comp c0 g1 g2 => by cases g1.symm.trans g2; exact va_asg _ _)
      · cases hE
        have := h4 rfl
        subst this
        exact m_rAny C hW.1 hMy rfl (fun comp c0 g1 g2 => by cases g1.symm.trans g2; exact va_asg _ _)
    exact va_astqM (E := E) C.1 C.2.1 hK hP hD hW.2 q0 ak he hE hany hi d (fun H1 locs1 hP1 hD1 hS1 => kk _ hh H1 locs1 ls ⟨hup H1 (.inl (ak, N, .inr (.inr (.inr (.inr _))))) (hro2 _) (m_below hb0 hW hS1) hP1 hD1, hS1⟩ hl)
theorem q_copyR (C : m_C p s m args c cc nL own Ts G b0) {src dst : Option Nat} {sp dp nn : Int32} {index : Nat} {κ : mM → Prop} (h : m_copyR M src sp dst dp nn κ) (hlink : Cond.methodLink own index arraycopyName ∈ Ts) (hnat : Cond.native arraycopyName ∈ Ts) (hstat : Cond.static arraycopyName ∈ Ts) (hini : Cond.initialized "java/lang/System" ∈ Ts) (hf : 1 ≤ R.frames) (hlo : (st.map fun v => v.category).sum + (nativeFrameWords "java/lang/System" "arraycopy" 5 + 11) ≤ R.locals) (d : decode cc pc = .ok (.invokestatic index, 3))
    (kk : ∀ M', κ M' → m_W p l e R s m args below meth c G b0 Q nL M' k n (pc + 3) lv st) : m_W p l e R s m args below meth c G b0 Q nL M k n pc lv (.int nn :: .int dp :: va_rf dst :: .int sp :: va_rf src :: st) := by
  obtain ⟨a0, n0, a, n1, f, g, rfl, rfl, hM0, hM, h1, h2, h3, h4, h5, hel, hh⟩ := h
  intro H locs ls hW hl
  have hts := C.2.2.2.2.1
  have hb0 := C.2.2.2.2.2.2.2
  obtain ⟨ws, q1, hP, hD, he, hall, hup⟩ := m_look hW.1 hM rfl
  obtain ⟨q0, he0⟩ := hall a0 _ hM0 rfl
  refine va_copyM C.1 C.2.1 (C.2.2.1.trans hl.1.symm) C.2.2.2.1 (hts _ hlink) (hts _ hnat) (hts _ hstat) (hts _ hini) C.2.2.2.2.2.1 hP hD hW.2 q0 q1 2 2 he0 he rfl rfl h1 h2 h3 h4 h5 (fun i hi y hy => ?_) hf hlo d (fun H1 locs1 hP1 hD1 hS1 => kk _ hh H1 locs1 ls ⟨hup H1 (.inl (2, n1, .inr (.inr (.inr (.inr _))))) rfl (m_below hb0 hW hS1) hP1 hD1, hS1⟩ hl)
  obtain ⟨ci, fs, hMy, h20⟩ := hel i hi y hy
  exact m_any C hW.1 hMy h20
theorem q_ldcM (C : m_C p s m args c cc nL own Ts G b0) {g : Nat → Nat} (hg : G.2.2 = g) {index : Nat} (hlink : Cond.classLink own index "[Ljava/lang/Object;" ∈ Ts) (d : decode cc pc = .ok (.ldc index, 2)) (kk : m_W p l e R s m args below meth c G b0 Q nL M k n (pc + 2) lv (va_rf (some (g 4)) :: st)) : m_W p l e R s m args below meth c G b0 Q nL M k n pc lv st := by
  intro H locs ls hW hl
  subst hg
  exact va_ldcM C.1 C.2.1 C.2.2.2.1 (C.2.2.2.2.1 _ hlink) C.2.2.2.2.2.2.1.2.2.2.2.2.2.1 d (kk H locs ls hW hl)
theorem q_getC (C : m_C p s m args c cc nL own Ts G b0) {g : Nat → Nat} (hg : G.2.2 = g) {r : Option Nat} {index : Nat} {κ : Prop} (h : (∃ a v, r = some a ∧ M a = some (.inl (2, v))) ∧ κ) (hlink : Cond.methodLink own index ⟨"java/lang/Object", "getClass", "()Ljava/lang/Class;"⟩ ∈ Ts) (hsel : Cond.selects "[Ljava/lang/Object;" ⟨"java/lang/Object", "getClass", "()Ljava/lang/Class;"⟩ ⟨"java/lang/Object", "getClass", "()Ljava/lang/Class;"⟩ ∈ Ts) (hinst : Cond.instanceMethod ⟨"java/lang/Object", "getClass", "()Ljava/lang/Class;"⟩ ∈ Ts) (hnat : Cond.native ⟨"java/lang/Object", "getClass", "()Ljava/lang/Class;"⟩ ∈ Ts) (hf : 1 ≤ R.frames) (hlo : (st.map fun v => v.category).sum + 14 ≤ R.locals) (d : decode cc pc = .ok (.invokevirtual index, 3)) (kk : κ → m_W p l e R s m args below meth c G b0 Q nL M k n (pc + 3) lv (va_rf (some (g 4)) :: st)) : m_W p l e R s m args below meth c G b0 Q nL M k n pc lv (va_rf r :: st) := by
  obtain ⟨⟨a, v, rfl, hM⟩, hh⟩ := h
  intro H locs ls hW hl
  subst hg
  have hts := C.2.2.2.2.1
  have hZ := C.2.2.2.2.2.2.1
  obtain ⟨ws, q0, hP, he⟩ := m_rd hW.1 hM rfl
  have hcell : H[a]? = some (vp_cell (G.2.1 2) v) := hP q0 _ he
  refine va_getC (C := "[Ljava/lang/Object;") C.1 C.2.1 (C.2.2.1.trans hl.1.symm) C.2.2.2.1 (hts _ hlink) (va_Dc.use hZ.2.2.2.2.2.1) (hts _ hsel) (hts _ hinst) (hts _ hnat) hZ.2.2.2.2.2.2.1 ⟨_, hcell, ?_, ?_⟩ hf hlo d (kk hh H locs ls hW hl)
  · obtain ⟨n9, f | f | f | f | f⟩ := v <;> rfl
  · rw [va_nmO (nm := "[Ljava/lang/Object;") (C.2.2.2.2.2.1.2 2 _ rfl).2 (by decide +kernel)]
    obtain ⟨n9, f | f | f | f | f⟩ := v <;> rfl
end MJDK
