/-- what a method that throws leaves: ξ of the class's name and the memory -/
def m_X (G : mG) (b0 : Nat) (ξ : String → mM → Prop) : String → State → State → Prop := vx_X (fun _ : mM => True) (fun E M' t => ξ E M' ∧ m_B G b0 M' t) (fun q => b0 ≤ q)
section MTHROW
variable {p : Program} {l : Launch} {e : Env} {R : Room} {s : State} {m : MethodId} {args : Array Value} {below : List Frame} {meth : Method} {c : Code} {Q : State → Prop}
variable {cc : ByteArray} {nL : Nat} {own : String} {Ts : List Cond} {G : mG} {b0 : Nat} {M : mM} {k n pc : Nat} {lv : List (Nat × Value)} {st st0 : List Value} {mc ms mc0 ms0 : Nat} {ξ ξ0 : String → mM → Prop}
/-- q is thrown over this frame -/
def m_WX (p : Program) (l : Launch) (e : Env) (R : Room) (s : State) (m : MethodId) (args : Array Value) (below : List Frame) (meth : Method) (c : Code) (G : mG) (b0 : Nat) (Q : State → Prop) (nL : Nat) (E : String) (M : mM) (k n : Nat) (pc : Nat) (lv : List (Nat × Value)) (st : List Value) : Prop :=
  ∀ (H : Heap) (locs : List Loc) (ls : Array Slot) (q : Nat) (ce : Cell), m_Wd G b0 s M H locs → lv_has ls nL lv → H[q]? = some ce → ce.vm = .none → s.vm.findClass E = some ce.cls → vx_W p l e R s m args below meth c H locs k n Q (F0 m pc ls st) q
theorem q_cXi {a : Array Value} {κ : Int32 → mM → Prop} (hr : ∀ (H : Heap) (locs : List Loc) (ls : Array Slot), m_Wd G b0 s M H locs → lv_has ls nL lv → vx_Run p l e R s m args below meth c H locs k n mc ms (F0 m pc ls st0) st (va_Qi κ (m_B G b0) (fun q => b0 ≤ q) a) (m_X G b0 ξ) (fun q => b0 ≤ q)) (kx : ∀ (E : String) (M' : mM), ξ E M' → m_WX p l e R s m args below meth c G b0 Q nL E M' (k + mc) (n + ms) pc lv st) (kk : ∀ x M', κ x M' → m_W p l e R s m args below meth c G b0 Q nL M' (k + mc) (n + ms) (pc + 3) lv (.int x :: st)) : m_W p l e R s m args below meth c G b0 Q nL M k n pc lv st0 :=
  fun H locs ls hW hl => vx_calli (hr H locs ls hW hl) hW.2 (fun q _ h => h) (fun q h => h) (fun q _ h => h) (fun E ce q9 u t H1 locs1 ht hvm _ hB hz hk hS hc1 hc2 hc3 => kx E u hB.1 H1 locs1 ls q9 ce ⟨by rw [← ht]; exact hB.2, hS⟩ hl hc1 hc2 hc3) (fun r u t H1 locs1 ht hvm hp hB hz hk hS => kk r u hp H1 locs1 ls ⟨by rw [← ht]; exact hB, hS⟩ hl)
theorem q_cXl {a : Array Value} {κ : Int64 → mM → Prop} (hr : ∀ (H : Heap) (locs : List Loc) (ls : Array Slot), m_Wd G b0 s M H locs → lv_has ls nL lv → vx_Run p l e R s m args below meth c H locs k n mc ms (F0 m pc ls st0) st (va_Ql κ (m_B G b0) (fun q => b0 ≤ q) a) (m_X G b0 ξ) (fun q => b0 ≤ q)) (kx : ∀ (E : String) (M' : mM), ξ E M' → m_WX p l e R s m args below meth c G b0 Q nL E M' (k + mc) (n + ms) pc lv st) (kk : ∀ x M', κ x M' → m_W p l e R s m args below meth c G b0 Q nL M' (k + mc) (n + ms) (pc + 3) lv (.long x :: st)) : m_W p l e R s m args below meth c G b0 Q nL M k n pc lv st0 :=
  fun H locs ls hW hl => vx_calll (hr H locs ls hW hl) hW.2 (fun q _ h => h) (fun q h => h) (fun q _ h => h) (fun E ce q9 u t H1 locs1 ht hvm _ hB hz hk hS hc1 hc2 hc3 => kx E u hB.1 H1 locs1 ls q9 ce ⟨by rw [← ht]; exact hB.2, hS⟩ hl hc1 hc2 hc3) (fun r u t H1 locs1 ht hvm hp hB hz hk hS => kk r u hp H1 locs1 ls ⟨by rw [← ht]; exact hB, hS⟩ hl)
theorem q_cXv {a : Array Value} {κ : mM → Prop} (hr : ∀ (H : Heap) (locs : List Loc) (ls : Array Slot), m_Wd G b0 s M H locs → lv_has ls nL lv → vx_Run p l e R s m args below meth c H locs k n mc ms (F0 m pc ls st0) st (va_Qv κ (m_B G b0) (fun q => b0 ≤ q) a) (m_X G b0 ξ) (fun q => b0 ≤ q)) (kx : ∀ (E : String) (M' : mM), ξ E M' → m_WX p l e R s m args below meth c G b0 Q nL E M' (k + mc) (n + ms) pc lv st) (kk : ∀ M', κ M' → m_W p l e R s m args below meth c G b0 Q nL M' (k + mc) (n + ms) (pc + 3) lv st) : m_W p l e R s m args below meth c G b0 Q nL M k n pc lv st0 :=
  fun H locs ls hW hl => vx_callv (hr H locs ls hW hl) hW.2 (fun q _ h => h) (fun q h => h) (fun q _ h => h) (fun E ce q9 u t H1 locs1 ht hvm _ hB hz hk hS hc1 hc2 hc3 => kx E u hB.1 H1 locs1 ls q9 ce ⟨by rw [← ht]; exact hB.2, hS⟩ hl hc1 hc2 hc3) (fun u t H1 locs1 ht hvm hp hB hz hk hS => kk u hp H1 locs1 ls ⟨by rw [← ht]; exact hB, hS⟩ hl)
theorem q_cXq {a : Array Value} {κ : Option Nat → mM → Prop} (hr : ∀ (H : Heap) (locs : List Loc) (ls : Array Slot), m_Wd G b0 s M H locs → lv_has ls nL lv → vx_Run p l e R s m args below meth c H locs k n mc ms (F0 m pc ls st0) st (va_Qq κ (m_B G b0) (fun q => b0 ≤ q) a) (m_X G b0 ξ) (fun q => b0 ≤ q)) (kx : ∀ (E : String) (M' : mM), ξ E M' → m_WX p l e R s m args below meth c G b0 Q nL E M' (k + mc) (n + ms) pc lv st) (kk : ∀ x M', κ x M' → m_W p l e R s m args below meth c G b0 Q nL M' (k + mc) (n + ms) (pc + 3) lv (va_rf x :: st)) : m_W p l e R s m args below meth c G b0 Q nL M k n pc lv st0 := by
  intro H locs ls hW hl T hT X
  rcases hr H locs ls hW hl T hT X with ⟨v, st₀, t, T', L, h0, X', hL, e1, e2, ⟨⟨r, u, hv, hp, hb⟩, hF⟩, st9⟩ | ⟨q, st₀, t, T', L, E, ce, h0, X', hL, e1, e2, ⟨u, -, ⟨hp, hb⟩, hF⟩, hce, hcv, hcl, st9⟩
  · cases hv
    obtain ⟨k1, k2, k3⟩ := vx_keep h0 e1 hW.2 (fun q _ h => h) (fun q h => h) hL hF
    obtain ⟨t2, a1, b1⟩ := kk r u hp T'.heap (locs ++ L) ls ⟨by rw [e1]; exact hb, k3⟩ hl T' rfl X'
    exact ⟨t2, st9 t2 a1, b1⟩
  · obtain ⟨k1, k2, k3⟩ := vx_keep h0 e1 hW.2 (fun q _ h => h) (fun q h => h) hL hF
    obtain ⟨t2, a1, b1⟩ := kx E u hp T'.heap (locs ++ L) ls q ce ⟨by rw [e1]; exact hb, k3⟩ hl (by rw [e1]; exact hce) hcv hcl T' rfl X'
    exact ⟨t2, st9.trans a1, b1⟩
/-- it isn't caught here -/
theorem q_out (C : m_C p s m args c cc nL own Ts G b0) {Qc : Array Value → State → Outcome → State → Prop} (hx : ∀ x ∈ c.exceptionTable.toList, False) (hlocks : meth.locks = false) {E : String} (h : ξ0 E M) (hk : k ≤ mc0) (hn : n ≤ ms0) : m_WX p l e R s m args below meth c G b0 (vx_MQ below Qc (m_X G b0 ξ0) args s mc0 ms0 (fun q => b0 ≤ q)) nL E M k n pc lv st :=
  fun H locs ls q ce hW hl h1 h2 h3 => vx_out (fun x hx9 => (hx x hx9).elim) hlocks h1 h2 h3 (fun t ht _ => ⟨M, trivial, ⟨h, by unfold m_B; rw [ht]; exact hW.1⟩, hW.2.F ht⟩) hW.2.2.2 hk hn
theorem q_throwS (C : m_C p s m args c cc nL own Ts G b0) (hL : l.stackTraces = false) (hx : ∀ x ∈ c.exceptionTable.toList, False) (hlocks : meth.locks = false) {Qc : Array Value → State → Outcome → State → Prop} {cls text : String} {names : List String} {ik is ic : Nat} (h : ξ0 cls M) (hcls : Bundle.fit cls = true) (hnames : ∀ n ∈ names, Bundle.fit n = true)
    (hk : Cond.classLink own ik cls ∈ Ts) (hini : Cond.initialized cls ∈ Ts) (hstr : Cond.stringRef own is text ∈ tables_1) (hg : ∀ w ∈ (vx_atS own ic cls names).filter goodWord, w ∈ Ts) (hb : ∀ w ∈ (vx_atS own ic cls names).filter (fun w => !goodWord w), w ∈ tables_1 ∧ m_nw w = true ∧ w.onTables = true)
    (hgood : ∀ w ∈ Cond.classLink own ik cls :: Cond.initialized cls :: vx_atS own ic cls names, vx_ot w = true)
    (d0 : decode cc pc = .ok (.new ik, 3)) (d3 : decode cc (pc + 3) = .ok (.dup, 1)) (d4 : decode cc (pc + 4) = .ok (.ldc is, 2)) (d6 : decode cc (pc + 6) = .ok (.invokespecial ic, 3)) (d9 : decode cc (pc + 9) = .ok (.athrow, 1))
    (hRf : names.length + 3 < R.frames) (hRl : (st.map fun v => v.category).sum + (13 * (names.length + 1) + 43) ≤ R.locals) (hRc : k + 1 ≤ R.cells) (hRs : n + 6 ≤ R.slots) (hc : k + 1 ≤ mc0) (hs : n + 6 ≤ ms0) : m_W p l e R s m args below meth c G b0 (vx_MQ below Qc (m_X G b0 ξ0) args s mc0 ms0 (fun q => b0 ≤ q)) nL M k n pc lv st := by
  intro H locs ls hW hl
  obtain ⟨sa, hsa⟩ := C.2.2.2.2.2.2.1.2.1 own is text hstr
  have hts := C.2.2.2.2.1
  have hZ := C.2.2.2.2.2.2.1
  refine vx_throwS (A := (fun q => b0 ≤ q)) (text := text) (sa := sa) (names := names) C.1 C.2.1 hL C.2.2.2.1 hcls hnames (hts _ hk) (hts _ hini) hsa ?_ hgood hZ.2.2.1 hZ.2.2.2.1 hW.2 (hl.1.trans C.2.2.1.symm) d0 d3 d4 d6 d9 (fun x hx9 => (hx x hx9).elim) hRf hRl hRc hRs hlocks (fun t hvm hz hq => ⟨M, trivial, ⟨h, hW.1.kept hq⟩, ?_⟩) hW.2.2.2 hc hs
  · intro w hw
    by_cases g : goodWord w = true
    · exact hts w (hg w (List.mem_filter.mpr ⟨hw, g⟩))
    · have g2 : (!goodWord w) = true := by
        cases hgw : goodWord w
        · rfl
        · exact absurd hgw g
      obtain ⟨q1, q2, q3⟩ := hb w (List.mem_filter.mpr ⟨hw, g2⟩)
      exact va_Nw.use q3 (hZ.1 w q1 q2)
  · exact ⟨Nat.le_trans hW.2.1 hz, fun q h1 h2 => (hq q (Nat.lt_of_lt_of_le h1 hW.2.1)).trans (hW.2.2.1 q h1 h2)⟩
theorem q_throwSW (C : m_C p s m args c cc nL own Ts G b0) (hL : l.stackTraces = false) (hx : ∀ x ∈ c.exceptionTable.toList, False) (hlocks : meth.locks = false) {Qc : Array Value → State → Outcome → State → Prop} {cls text : String} {names : List String} {ik is ic : Nat} (h : ξ0 cls M) (hcls : Bundle.fit cls = true) (hnames : ∀ n ∈ names, Bundle.fit n = true)
    (hk : Cond.classLink own ik cls ∈ Ts) (hini : Cond.initialized cls ∈ Ts) (hstr : Cond.stringRef own is text ∈ tables_1) (hg : ∀ w ∈ (vx_atS own ic cls names).filter goodWord, w ∈ Ts) (hb : ∀ w ∈ (vx_atS own ic cls names).filter (fun w => !goodWord w), w ∈ tables_1 ∧ m_nw w = true ∧ w.onTables = true)
    (hgood : ∀ w ∈ Cond.classLink own ik cls :: Cond.initialized cls :: vx_atS own ic cls names, vx_ot w = true)
    (d0 : decode cc pc = .ok (.new ik, 3)) (d3 : decode cc (pc + 3) = .ok (.dup, 1)) (d4 : decode cc (pc + 4) = .ok (.ldc_w is, 3)) (d6 : decode cc (pc + 7) = .ok (.invokespecial ic, 3)) (d9 : decode cc (pc + 10) = .ok (.athrow, 1))
    (hRf : names.length + 3 < R.frames) (hRl : (st.map fun v => v.category).sum + (13 * (names.length + 1) + 43) ≤ R.locals) (hRc : k + 1 ≤ R.cells) (hRs : n + 6 ≤ R.slots) (hc : k + 1 ≤ mc0) (hs : n + 6 ≤ ms0) : m_W p l e R s m args below meth c G b0 (vx_MQ below Qc (m_X G b0 ξ0) args s mc0 ms0 (fun q => b0 ≤ q)) nL M k n pc lv st := by
  intro H locs ls hW hl
  obtain ⟨sa, hsa⟩ := C.2.2.2.2.2.2.1.2.1 own is text hstr
  have hts := C.2.2.2.2.1
  have hZ := C.2.2.2.2.2.2.1
  refine vx_throwSW (A := (fun q => b0 ≤ q)) (text := text) (sa := sa) (names := names) C.1 C.2.1 hL C.2.2.2.1 hcls hnames (hts _ hk) (hts _ hini) hsa ?_ hgood hZ.2.2.1 hZ.2.2.2.1 hW.2 (hl.1.trans C.2.2.1.symm) d0 d3 d4 d6 d9 (fun x hx9 => (hx x hx9).elim) hRf hRl hRc hRs hlocks (fun t hvm hz hq => ⟨M, trivial, ⟨h, hW.1.kept hq⟩, ?_⟩) hW.2.2.2 hc hs
  · intro w hw
    by_cases g : goodWord w = true
    · exact hts w (hg w (List.mem_filter.mpr ⟨hw, g⟩))
    · have g2 : (!goodWord w) = true := by
        cases hgw : goodWord w
        · rfl
        · exact absurd hgw g
      obtain ⟨q1, q2, q3⟩ := hb w (List.mem_filter.mpr ⟨hw, g2⟩)
      exact va_Nw.use q3 (hZ.1 w q1 q2)
  · exact ⟨Nat.le_trans hW.2.1 hz, fun q h1 h2 => (hq q (Nat.lt_of_lt_of_le h1 hW.2.1)).trans (hW.2.2.1 q h1 h2)⟩
end MTHROW
section MNEW
variable {p : Program} {l : Launch} {e : Env} {R : Room} {s : State} {m : MethodId} {args : Array Value} {below : List Frame} {meth : Method} {c : Code} {Q : State → Prop}
variable {cc : ByteArray} {nL : Nat} {own : String} {Ts : List Cond} {G : mG} {b0 : Nat} {M : mM} {k n pc : Nat} {lv : List (Nat × Value)} {st : List Value}
theorem q_new (C : m_C p s m args c cc nL own Ts G b0) {ci : Nat} {fs : List Value} {κ : Nat → mM → Prop} (h : m_new M ci fs κ) (hro : (ci == 2 || ci == 20) = false) {Cn : String} {T : u_T} {N index : Nat} (tf : Nat → FieldType) (htf : ∀ k, k < N → parseFieldDescriptor (T k).2.2.1 = some (tf k)) (hc : m_cl[ci]? = some (Cn, T, N)) (hin : ∀ w ∈ u_ws Cn T N, w ∈ Ts) (hcl : Cond.classLink own index Cn ∈ Ts) (hinst : Cond.instantiable Cn N ∈ Ts) (hini : Cond.initialized Cn ∈ Ts) (hfs : ∀ j, j < N → defaultValue (tf j) = vp_V fs j) (hcells : k + 1 ≤ R.cells) (hslots : n + N ≤ R.slots) (d : decode cc pc = .ok (.new index, 3))
    (kk : ∀ q M', κ q M' → m_W p l e R s m args below meth c G b0 Q nL M' (k + 1) (n + N) (pc + 3) lv (va_rf (some q) :: st)) : m_W p l e R s m args below meth c G b0 Q nL M k n pc lv st := by
  intro H locs ls hW hl
  obtain ⟨hx, hb, -, hown, hts, hK, -, hb0⟩ := C
  obtain ⟨ws, hP, hD, hup⟩ := m_push hW.1
  exact va_new (ci := ci) (fs := fs) (C := Cn) (T := T) (N := N) hx hb hts hin tf htf hown (hts _ hcl) (hts _ hinst) (hts _ hini) hK hP hD hW.2 (fun q h9 => Nat.le_trans hb0 h9) hc hfs hcells hslots d (fun q H1 hP1 hD1 hS1 => by
    obtain ⟨u1, u3⟩ := hup H1 q (.inr (ci, fs)) hro (m_below hb0 hW hS1) hP1 hD1
    exact kk q _ (h q u1) H1 locs ls ⟨u3, hS1⟩ hl)
theorem q_mmax (C : m_C p s m args c cc nL own Ts G b0) {index : Nat} {x y : Int32} (hlink : Cond.methodLink own index Lib.Math.max.name ∈ Ts) (hstat : Cond.static Lib.Math.max.name ∈ Ts) (hini : Cond.initialized "java/lang/Math" ∈ Ts) (hcode : Cond.code Lib.Math.max.name Lib.Math.max.code 2 (some .int) ∈ Ts) (hf : 1 ≤ R.frames) (hlo : (st.map fun v => v.category).sum + 13 ≤ R.locals) (hkc : k ≤ R.cells) (hks : n ≤ R.slots) (d : decode cc pc = .ok (.invokestatic index, 3)) (kk : m_W p l e R s m args below meth c G b0 Q nL M k n (pc + 3) lv (.int (if x < y then y else x) :: st)) : m_W p l e R s m args below meth c G b0 Q nL M k n pc lv (.int y :: .int x :: st) := fun H locs ls hW hl => va_mmax C.1 C.2.1 (C.2.2.1.trans hl.1.symm) C.2.2.2.1 (C.2.2.2.2.1 _ hlink) (C.2.2.2.2.1 _ hstat) (C.2.2.2.2.1 _ hini) (C.2.2.2.2.1 _ hcode) hf hlo hkc hks d (kk H locs ls hW hl)
theorem q_mmin (C : m_C p s m args c cc nL own Ts G b0) {index : Nat} {x y : Int32} (hlink : Cond.methodLink own index Lib.Math.min.name ∈ Ts) (hstat : Cond.static Lib.Math.min.name ∈ Ts) (hini : Cond.initialized "java/lang/Math" ∈ Ts) (hcode : Cond.code Lib.Math.min.name Lib.Math.min.code 2 (some .int) ∈ Ts) (hf : 1 ≤ R.frames) (hlo : (st.map fun v => v.category).sum + 13 ≤ R.locals) (hkc : k ≤ R.cells) (hks : n ≤ R.slots) (d : decode cc pc = .ok (.invokestatic index, 3)) (kk : m_W p l e R s m args below meth c G b0 Q nL M k n (pc + 3) lv (.int (if y < x then y else x) :: st)) : m_W p l e R s m args below meth c G b0 Q nL M k n pc lv (.int y :: .int x :: st) := fun H locs ls hW hl => va_mmin C.1 C.2.1 (C.2.2.1.trans hl.1.symm) C.2.2.2.1 (C.2.2.2.2.1 _ hlink) (C.2.2.2.2.1 _ hstat) (C.2.2.2.2.1 _ hini) (C.2.2.2.2.1 _ hcode) hf hlo hkc hks d (kk H locs ls hW hl)
theorem q_mabs (C : m_C p s m args c cc nL own Ts G b0) {index : Nat} {x : Int32} (hlink : Cond.methodLink own index Lib.Math.abs.name ∈ Ts) (hstat : Cond.static Lib.Math.abs.name ∈ Ts) (hini : Cond.initialized "java/lang/Math" ∈ Ts) (hcode : Cond.code Lib.Math.abs.name Lib.Math.abs.code 1 (some .int) ∈ Ts) (hf : 1 ≤ R.frames) (hlo : (st.map fun v => v.category).sum + 13 ≤ R.locals) (hkc : k ≤ R.cells) (hks : n ≤ R.slots) (d : decode cc pc = .ok (.invokestatic index, 3)) (kk : m_W p l e R s m args below meth c G b0 Q nL M k n (pc + 3) lv (.int (if 0 ≤ x then x else 0 - x) :: st)) : m_W p l e R s m args below meth c G b0 Q nL M k n pc lv (.int x :: st) := fun H locs ls hW hl => va_mabs C.1 C.2.1 (C.2.2.1.trans hl.1.symm) C.2.2.2.1 (C.2.2.2.2.1 _ hlink) (C.2.2.2.2.1 _ hstat) (C.2.2.2.2.1 _ hini) (C.2.2.2.2.1 _ hcode) hf hlo hkc hks d (kk H locs ls hW hl)
/-- a cast of what lies there to its own class -/
theorem q_cast (C : m_C p s m args c cc nL own Ts G b0) {r : Option Nat} {ci index : Nat} {κ : Prop} (h : (r = none ∨ ∃ a fs, r = some a ∧ M a = some (.inr (ci, fs))) ∧ κ) {Cn : String} {r9 : vw_C} (hc : m_cl[ci]? = some r9) (hn : r9.1 = Cn) (hlink : Cond.classLink own index Cn ∈ Ts) (d : decode cc pc = .ok (.checkcast index, 3)) (kk : κ → m_W p l e R s m args below meth c G b0 Q nL M k n (pc + 3) lv (va_rf r :: st)) : m_W p l e R s m args below meth c G b0 Q nL M k n pc lv (va_rf r :: st) := by
  obtain ⟨h | ⟨a, fs, rfl, hM⟩, hh⟩ := h
  · subst h
    exact fun H locs ls hW hl => lv_castN C.1 C.2.1 d (kk hh H locs ls hW hl)
  · intro H locs ls hW hl
    subst hn
    exact va_castE C.1 C.2.1 C.2.2.2.1 (C.2.2.2.2.1 _ hlink) (m_recv C hW.1 hM hc) d (kk hh H locs ls hW hl)
end MNEW
