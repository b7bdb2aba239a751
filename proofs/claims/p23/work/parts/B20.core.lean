/-! MY OWN LAYER: a memory is a function from addresses to cells; every method is told by a predicate transformer over it -/
/-- a cell: an array (its kind, its content), or an object (its class by its place in m_cl, its fields) -/
abbrev mCe : Type := (Nat × vp_A) ⊕ (Nat × List Value)
abbrev mM : Type := Nat → Option mCe
def m_up (M : mM) (a : Nat) (e : mCe) : mM := fun q => if q = a then some e else M q
theorem m_up_s (M : mM) (a : Nat) (e : mCe) : m_up M a e a = some e := if_pos rfl
theorem m_up_n {M : mM} {a q : Nat} {e : mCe} (h : q ≠ a) : m_up M a e q = M q := if_neg h
theorem m_up_up (M : mM) (a : Nat) (e e' : mCe) : m_up (m_up M a e) a e' = m_up M a e' := by
  funext q
  by_cases h : q = a
  · subst h; rw [m_up_s, m_up_s]
  · rw [m_up_n h, m_up_n h, m_up_n h]
/-- the classes of the objects; the last one again: the constant Strings, of which the premises tell two fields alone -/
abbrev m_cl : List vw_C := [(RJ0, TJ0, 4), (RJ4, TJ4, 4), (RJ6, TJ6, 1), (RJx35411, TJx35411, 4), (RJx4a65c, TJx4a65c, 3), (RX0, TX0, 10), (RX1, TX1, 3), (RX2, TX2, 7), (RX3, TX3, 8), (RX4, TX4, 3), (RX5, TX5, 2), (RX6, TX6, 9), (RX7, TX7, 2), (RX8, TX8, 11), (RX9, TX9, 2), (RX10, TX10, 8), (RX11, TX11, 6), (RX12, TX12, 6), (RX13, TX13, 9), (RX14, TX14, 13), (RJ0, TJ0, 2)]
/-- the tables' numbers of classes and slots, the classes of the arrays by their kinds, the addresses of what statics hold -/
abbrev mG : Type := va_G × ((Nat → ClassId) × (Nat → Nat))
def m_tr (G : mG) (e : mCe) : va_E := match e with
  | .inl x => .inl (G.2.1 x.1, x.2)
  | .inr o => .inr o
/-- cells that nobody writes: the statics' arrays, Integers, constant Strings -/
def m_ro (e : mCe) : Bool := match e with
  | .inl x => decide (7 ≤ x.1)
  | .inr o => o.1 == 2 || o.1 == 20
abbrev m_tys (G : mG) : List (ClassId × FieldType) := [(G.2.1 0, .int), (G.2.1 1, .boolean), (G.2.1 2, .object "java/lang/Object"), (G.2.1 3, .object "Lullabygate$Land"), (G.2.1 4, .object "LullabygateModel$Land"), (G.2.1 5, .array .int), (G.2.1 6, .byte), (G.2.1 7, .object "java/lang/Object"), (G.2.1 8, .object "java/lang/Object"), (G.2.1 9, .byte)]
/-- the read-only rows' classes: ids of their own; what the tables say of them -/
abbrev m_rks : List (Nat × FieldType) := [(17, .object "java/lang/Object"), (18, .object "java/lang/Integer"), (19, .byte)]
/-- what is known of a cell that nobody writes: no more than the start's premises say -/
def m_roC (G : mG) (e : mCe) (o : Option Cell) : Prop := ∃ cell : Cell, o = some cell ∧ cell.vm ≠ .unknown ∧ cell.vm.isStatics = false ∧ match e with
  | .inl x => cell.cls = G.2.1 (10 + x.1) ∧ x.2.1 ≤ cell.slots.size ∧ cell.slots.size.toInt32 = Int32.ofNat x.2.1 ∧ ∀ j : Nat, j < x.2.1 → cell.slots[j]? = (vp_cell (G.2.1 0) x.2).slots[j]?
  | .inr o => cell.cls = G.1.1 o.1 ∧ ∀ r : vw_C, m_cl[o.1]? = some r → ∀ k : Nat, k < r.2.2 → cell.slots[G.1.2 o.1 k]? = some (vp_V o.2 k)
/-- the heap holds the memory; all that may be written lies from b0 on, the rest ahead of b0 -/
def m_H (G : mG) (b0 : Nat) (M : mM) (H : Heap) : Prop := ∃ ws : va_W, va_P G.1 m_cl ws H ∧ va_D (fun q => b0 ≤ q) ws ∧ ∀ (a : Nat) (e : mCe), M a = some e → (m_ro e = false ∧ ∃ k : Nat, ws[k]? = some (a, m_tr G e)) ∨ (m_ro e = true ∧ a < b0 ∧ m_roC G e H[a]?)
theorem m_roC.lt {G : mG} {e : mCe} {H : Heap} {a : Nat} (h : m_roC G e H[a]?) : a < H.size := by
  obtain ⟨cell, h1, -⟩ := h
  exact (Array.getElem?_eq_some_iff.mp h1).1
theorem m_H.kept {G : mG} {b0 : Nat} {M : mM} {H H1 : Heap} (h : m_H G b0 M H) (hk : ∀ q, q < H.size → H1[q]? = H[q]?) : m_H G b0 M H1 := by
  obtain ⟨ws, h1, h2, h5⟩ := h
  refine ⟨ws, h1.kept (fun k q hq => hk q.1 ((h1 k q hq).lt)), h2, fun a e ha => ?_⟩
  rcases h5 a e ha with h | ⟨h, h', h''⟩
  · exact Or.inl h
  · exact Or.inr ⟨h, h', by rw [hk a h''.lt]; exact h''⟩
/-- an entry that may be written is read -/
theorem m_rd {G : mG} {b0 : Nat} {M : mM} {H : Heap} (h : m_H G b0 M H) {a : Nat} {e : mCe} (ha : M a = some e) (hro : m_ro e = false) : ∃ (ws : va_W) (k : Nat), va_P G.1 m_cl ws H ∧ ws[k]? = some (a, m_tr G e) := by
  obtain ⟨ws, h1, h2, h5⟩ := h
  rcases h5 a e ha with ⟨-, k, hk⟩ | ⟨hr, -⟩
  · exact ⟨ws, k, h1, hk⟩
  · rw [hr] at hro; cases hro
/-- one that may not -/
theorem m_rdC {G : mG} {b0 : Nat} {M : mM} {H : Heap} (h : m_H G b0 M H) {a : Nat} {e : mCe} (ha : M a = some e) (hro : m_ro e = true) : a < b0 ∧ m_roC G e H[a]? := by
  obtain ⟨ws, h1, h2, h5⟩ := h
  rcases h5 a e ha with ⟨hr, -⟩ | ⟨-, h⟩
  · rw [hr] at hro; cases hro
  · exact h
/-- an object's cell, whichever it is -/
theorem m_rdO {G : mG} {b0 : Nat} {M : mM} {H : Heap} (h : m_H G b0 M H) {a ci : Nat} {fs : List Value} (ha : M a = some (.inr (ci, fs))) {r : vw_C} (hc : m_cl[ci]? = some r) : ∃ cell : Cell, H[a]? = some cell ∧ cell.vm ≠ .unknown ∧ cell.vm.isStatics = false ∧ cell.cls = G.1.1 ci ∧ ∀ k : Nat, k < r.2.2 → cell.slots[G.1.2 ci k]? = some (vp_V fs k) := by
  cases hro : m_ro (.inr (ci, fs)) with
  | false =>
    obtain ⟨ws, k, hP, hk⟩ := m_rd h ha hro
    obtain ⟨r', h1, cell, q1, q2, q3, q4⟩ := hP k _ hk
    cases h1.symm.trans hc
    exact ⟨cell, q1, by rw [q3]; exact fun z => (by cases z), by rw [q3]; rfl, q2, q4⟩
  | true =>
    obtain ⟨-, cell, q1, q2, q3, q4, q5⟩ := m_rdC h ha hro
    exact ⟨cell, q1, q2, q3, q4, q5 r hc⟩
theorem m_lt {G : mG} {b0 : Nat} {M : mM} {H : Heap} (h : m_H G b0 M H) {a : Nat} {e : mCe} (ha : M a = some e) : a < H.size := by
  cases hro : m_ro e with
  | false =>
    obtain ⟨ws, k, hP, hk⟩ := m_rd h ha hro
    exact (hP k _ hk).lt
  | true => exact (m_rdC h ha hro).2.lt
/-- an entry is looked up; what the heap holds when it has been written -/
theorem m_look {G : mG} {b0 : Nat} {M : mM} {H : Heap} (h : m_H G b0 M H) {a : Nat} {e : mCe} (ha : M a = some e) (hro : m_ro e = false) : ∃ (ws : va_W) (k : Nat), va_P G.1 m_cl ws H ∧ va_D (fun q => b0 ≤ q) ws ∧ ws[k]? = some (a, m_tr G e) ∧ (∀ (a2 : Nat) (e2 : mCe), M a2 = some e2 → m_ro e2 = false → ∃ k2 : Nat, ws[k2]? = some (a2, m_tr G e2)) ∧
    ∀ (H1 : Heap) (e1 : mCe), m_ro e1 = false → (∀ q, q < b0 → H1[q]? = H[q]?) → va_P G.1 m_cl (ws.set k (a, m_tr G e1)) H1 → va_D (fun q => b0 ≤ q) (ws.set k (a, m_tr G e1)) → m_H G b0 (m_up M a e1) H1 := by
  obtain ⟨ws, hP, hD, hR⟩ := h
  have hrw : ∀ (a2 : Nat) (e2 : mCe), M a2 = some e2 → m_ro e2 = false → ∃ k2 : Nat, ws[k2]? = some (a2, m_tr G e2) := by
    intro a2 e2 h2 hr2
    rcases hR a2 e2 h2 with ⟨-, hk⟩ | ⟨hr, -⟩
    · exact hk
    · rw [hr] at hr2; cases hr2
  obtain ⟨k, hk⟩ := hrw a e ha hro
  refine ⟨ws, k, hP, hD, hk, hrw, fun H1 e1 hr1 hb hP1 hD1 => ⟨_, hP1, hD1, fun a2 e2 h2 => ?_⟩⟩
  have hl := (List.getElem?_eq_some_iff.mp hk).1
  by_cases hq : a2 = a
  · subst hq
    rw [m_up_s] at h2
    cases h2
    exact Or.inl ⟨hr1, k, List.getElem?_set_self hl⟩
  · rw [m_up_n hq] at h2
    rcases hR a2 e2 h2 with ⟨hr2, k2, hk2⟩ | h3
    · refine Or.inl ⟨hr2, k2, ?_⟩
      rw [List.getElem?_set_ne (fun z => ?_)]
      · exact hk2
      · subst z
        rw [hk] at hk2
        exact hq (congrArg Prod.fst (Option.some.inj hk2)).symm
    · exact Or.inr ⟨h3.1, h3.2.1, by rw [hb a2 h3.2.1]; exact h3.2.2⟩
/-- a new entry -/
theorem m_push {G : mG} {b0 : Nat} {M : mM} {H : Heap} (h : m_H G b0 M H) : ∃ ws : va_W, va_P G.1 m_cl ws H ∧ va_D (fun q => b0 ≤ q) ws ∧ ∀ (H1 : Heap) (a : Nat) (e1 : mCe), m_ro e1 = false → (∀ q, q < b0 → H1[q]? = H[q]?) → va_P G.1 m_cl (ws ++ [(a, m_tr G e1)]) H1 → va_D (fun q => b0 ≤ q) (ws ++ [(a, m_tr G e1)]) → M a = none ∧ m_H G b0 (m_up M a e1) H1 := by
  obtain ⟨ws, hP, hD, hR⟩ := h
  refine ⟨ws, hP, hD, fun H1 a e1 hr1 hb hP1 hD1 => ?_⟩
  have hlast : (ws ++ [(a, m_tr G e1)])[ws.length]? = some (a, m_tr G e1) := by simp
  have hab : b0 ≤ a := hD1.2 _ _ hlast
  have hn : ∀ e, M a ≠ some e := by
    intro e he
    rcases hR a e he with ⟨-, k, hk⟩ | ⟨-, hk, -⟩
    · have hl := (List.getElem?_eq_some_iff.mp hk).1
      have hk' : (ws ++ [(a, m_tr G e1)])[k]? = some (a, m_tr G e) := by rw [List.getElem?_append_left hl]; exact hk
      have := hD1.1 k ws.length _ _ hk' hlast rfl
      omega
    · omega
  refine ⟨by cases hM : M a with
    | none => rfl
    | some e => exact absurd hM (hn e), _, hP1, hD1, fun a2 e2 h2 => ?_⟩
  by_cases hq : a2 = a
  · subst hq
    rw [m_up_s] at h2
    cases h2
    exact Or.inl ⟨hr1, _, hlast⟩
  · rw [m_up_n hq] at h2
    rcases hR a2 e2 h2 with ⟨hr2, k2, hk2⟩ | h3
    · exact Or.inl ⟨hr2, k2, by rw [List.getElem?_append_left (List.getElem?_eq_some_iff.mp hk2).1]; exact hk2⟩
    · exact Or.inr ⟨h3.1, h3.2.1, by rw [hb a2 h3.2.1]; exact h3.2.2⟩
/-- words that only the tables decide, but that no list of a method's words may hold -/
def m_nw : Cond → Bool
  | .fieldLinkNest .. => true
  | .methodLinkNest .. => true
  | .castable .. => true
  | .declares _ => true
  | .arrayOver (.object _) => true
  | .arrayOver (.array _) => true
  | _ => false
theorem m_aoa {t : FieldType} {s U : State} (hW : s.WarmedH U.vm) (h : va_Nw (.arrayOver (.array t)) s) : va_Nw (.arrayOver (.array t)) U := by
  have h1 : (Cond.arrayOver (.array t)).before #[] (s.setVm U.vm) = true := (Cond.arrayOver_setVmC hW.alike (.array t)).trans h
  first | exact h1 | (unfold va_Nw; simp only [Cond.before, Cond.holds, Cond.value, State.vm_setVm] at h1 ⊢; exact h1)
theorem m_nw_warm {w : Cond} (hw : m_nw w = true) {s U : State} (hW : s.WarmedH U.vm) (h : va_Nw w s) : va_Nw w U := by
  cases w with
  | arrayOver t =>
    cases t <;> first | exact va_AO.moved hW.alike h | exact m_aoa hW h | (exfalso; simp [m_nw] at hw; done)
  | _ => first | exact absurd hw (by decide) | exact va_Nw.warmF hW h | exact va_Nw.warmM hW h | exact va_Nw.warmC hW h | exact va_tabs rfl (rfl : (s.setVm U.vm).vm = U.vm) (by rw [Cond.declares_setVm hW.alike]; exact h) | (exfalso; simp [m_nw] at hw; done)
/-- what statics hold: the addresses by g -/
abbrev m_sts (g : Nat → Nat) : List (String × String × String × Value) := [("java/util/ArrayList", "DEFAULTCAPACITY_EMPTY_ELEMENTDATA", "[Ljava/lang/Object;", .ref (g 0)), ("java/lang/Integer$IntegerCache", "cache", "[Ljava/lang/Integer;", .ref (g 1)), ("java/lang/Integer$IntegerCache", "high", "I", .int 127), ("java/lang/Integer", "DigitTens", "[B", .ref (g 2)), ("java/lang/Integer", "DigitOnes", "[B", .ref (g 3)), ("java/lang/String", "COMPACT_STRINGS", "Z", .int 1)]
/-- the Strings that are answers: own class, place, text, address -/
abbrev m_strs (g : Nat → Nat) : List (String × Nat × String × Nat) := [("Lullabygate", 336, "-", g 10), ("LullabygateModel", 302, "", g 11), ("LullabygateModel", 307, " ", g 12), ("LullabygateModel", 316, "b", g 13), ("LullabygateModel", 318, "-", g 14)]
/-- the static environment: what the law's start gives and no call changes (cells below b0, the tables) -/
def m_Z (G : mG) (b0 : Nat) (U : State) (H : Heap) : Prop :=
  (∀ w ∈ tables_1, m_nw w = true → va_Nw w U) ∧ (∀ (own : String) (k : Nat) (tx : String), Cond.stringRef own k tx ∈ tables_1 → ∃ a : Nat, vk_R own k tx a U) ∧
  vx_Zq Bundle.tN "UNASSIGNED_STACK" Bundle.steD (fun q => b0 ≤ q) U H ∧ vx_Zq Bundle.tN "SUPPRESSED_SENTINEL" Bundle.listD (fun q => b0 ≤ q) U H ∧
  (∀ q ∈ m_sts G.2.2, va_Z q.1 q.2.1 q.2.2.1 q.2.2.2 (fun q => b0 ≤ q) U H) ∧ va_Dc U ∧ va_Mi "[Ljava/lang/Object;" (G.2.2 4) U ∧ va_Fw RJx35411 ⟨"java/util/Iterator", "hasNext", "()Z"⟩ yJx35411_hasNext_aae02 U ∧ va_Fw RJx35411 ⟨"java/util/Iterator", "next", "()Ljava/lang/Object;"⟩ yJx35411_next_0502b U ∧
  (∀ q ∈ m_strs G.2.2, vk_R q.1 q.2.1 q.2.2.1 q.2.2.2 U) ∧ ∀ q ∈ m_rks, ArrOfT U (G.2.1 q.1) q.2
theorem m_Z.warm {G : mG} {b0 : Nat} {s U : State} {H : Heap} {locs : List Loc} (h : m_Z G b0 s s.heap) (hW : s.WarmedH U.vm) (hS : va_S (fun q => b0 ≤ q) s.heap H locs) (hU : U.heap = H) : m_Z G b0 U U.heap := by
  obtain ⟨h1, h2, h3, h4, h5, h6, h7, h8, h9, h10, h11⟩ := h
  refine ⟨fun w hw hn => m_nw_warm hn hW (h1 w hw hn), fun own k tx hm => ?_, ?_, ?_, ?_, va_Dc.moved hW.alike h6, va_Mi.moved hW.alike h7, va_Fw.moved (by decide) hW.alike h8, va_Fw.moved (by decide) hW.alike h9, fun q hq => vk_R.warm hW (h10 q hq), fun q hq => arrOfT_moved hW.alike (h11 q hq)⟩
  · obtain ⟨a, ha⟩ := h2 own k tx hm
    exact ⟨a, vk_R.warm hW ha⟩
  · rw [hU]; exact vx_Zq.moved hW.alike (h3.kept hS.2.1)
  · rw [hU]; exact vx_Zq.moved hW.alike (h4.kept hS.2.1)
  · intro q hq
    rw [hU]
    exact va_Z.moved hW.alike ((h5 q hq).kept hS.2.1)
theorem m_Z.same {G : mG} {b0 : Nat} {s U : State} (h : m_Z G b0 s s.heap) (hv : s.vm = U.vm) (hh : U.heap = s.heap) : m_Z G b0 U U.heap :=
  h.warm (by rw [← hv]; exact State.WarmedH.refl s) (va_S.rf (H0 := s.heap)) hh
/-- a method's start, and the end of one that returns -/
def m_Pre (G : mG) (b0 : Nat) (M : mM) (U : State) : Prop := m_H G b0 M U.heap ∧ b0 ≤ U.heap.size ∧ va_K G.1 m_cl (m_tys G) U ∧ m_Z G b0 U U.heap
def m_B (G : mG) (b0 : Nat) (M : mM) (t : State) : Prop := m_H G b0 M t.heap
theorem m_Pre.blind {G : mG} {b0 : Nat} {M : mM} {av : List Value} : FrameBlind (va_Pc av (m_Pre G b0 M)) := by
  intro a U g mk q
  obtain ⟨q0, q1, q2, q3, q4⟩ := q
  exact ⟨q0, q1, q2, va_K.moved (u := U) (U := U.calling g mk a) (Vm.Alike.refl U.vm) q3, q4.same rfl rfl⟩
/-- what holds all through a method: the machine, its code, its words, the tables, the statics -/
def m_C (p : Program) (s : State) (m : MethodId) (args : Array Value) (c : Code) (cc : ByteArray) (nL : Nat) (own : String) (Ts : List Cond) (G : mG) (b0 : Nat) : Prop :=
  p.tables.exec = Jvm.exec ∧ c.code = cc ∧ c.maxLocals = nL ∧ s.vm.findClass own = some m.cls ∧ (∀ w ∈ Ts, w.before args s = true) ∧ va_K G.1 m_cl (m_tys G) s ∧ m_Z G b0 s s.heap ∧ b0 ≤ s.heap.size
/-- the world at a place of a method -/
def m_Wd (G : mG) (b0 : Nat) (s : State) (M : mM) (H : Heap) (locs : List Loc) : Prop := m_H G b0 M H ∧ va_S (fun q => b0 ≤ q) s.heap H locs
def m_W (p : Program) (l : Launch) (e : Env) (R : Room) (s : State) (m : MethodId) (args : Array Value) (below : List Frame) (meth : Method) (c : Code) (G : mG) (b0 : Nat) (Q : State → Prop) (nL : Nat) (M : mM) (k n : Nat) (pc : Nat) (lv : List (Nat × Value)) (st : List Value) : Prop :=
  ∀ (H : Heap) (locs : List Loc) (ls : Array Slot), m_Wd G b0 s M H locs → lv_has ls nL lv → W p l e R s m args below meth c H locs k n Q (F0 m pc ls st)
theorem m_pre_call {p : Program} {s : State} {m : MethodId} {args : Array Value} {c : Code} {cc : ByteArray} {nL : Nat} {own : String} {Ts : List Cond} {G : mG} {b0 : Nat} {M : mM} {H : Heap} {locs : List Loc} {av : List Value} (C : m_C p s m args c cc nL own Ts G b0) (hW : m_Wd G b0 s M H locs) : ∀ U : State, U.heap = H → s.WarmedH U.vm → va_Pc av (m_Pre G b0 M) av.toArray U := by
  intro U hU hw
  obtain ⟨-, -, -, -, -, hK, hZ, hb⟩ := C
  refine ⟨rfl, by rw [hU]; exact hW.1, by rw [hU]; exact Nat.le_trans hb hW.2.1, va_K.moved hw.alike hK, hZ.warm hw hW.2 hU⟩
theorem m_below {G : mG} {b0 : Nat} {s : State} {M : mM} {H H1 : Heap} {locs locs1 : List Loc} (hb : b0 ≤ s.heap.size) (hW : m_Wd G b0 s M H locs) (hS : va_S (fun q => b0 ≤ q) s.heap H1 locs1) : ∀ q, q < b0 → H1[q]? = H[q]? := fun q hq => (hS.2.1 q (Nat.lt_of_lt_of_le hq hb) (Nat.not_le.mpr hq)).trans (hW.2.2.1 q (Nat.lt_of_lt_of_le hq hb) (Nat.not_le.mpr hq)).symm
section MROWS
variable {p : Program} {l : Launch} {e : Env} {R : Room} {s : State} {m : MethodId} {args : Array Value} {below : List Frame} {meth : Method} {c : Code} {Q : State → Prop}
variable {cc : ByteArray} {nL : Nat} {own : String} {Ts : List Cond} {G : mG} {b0 : Nat} {M : mM} {k n pc : Nat} {lv : List (Nat × Value)} {st : List Value}

theorem q_iconst (C : m_C p s m args c cc nL own Ts G b0) {n0 : Int} (v : Int32) (d : decode cc pc = .ok (.iconst n0, 1)) (hv : Int32.ofInt n0 = v) (kk : m_W p l e R s m args below meth c G b0 Q nL M k n (pc + 1) lv (.int v :: st)) : m_W p l e R s m args below meth c G b0 Q nL M k n pc lv st := fun H locs ls hW hl => lv_iconst C.1 C.2.1 d hv (kk H locs ls hW hl)
theorem q_bipush (C : m_C p s m args c cc nL own Ts G b0) {n0 : Int} (v : Int32) (d : decode cc pc = .ok (.bipush n0, 2)) (hv : (Int8.ofInt n0).toInt32 = v) (kk : m_W p l e R s m args below meth c G b0 Q nL M k n (pc + 2) lv (.int v :: st)) : m_W p l e R s m args below meth c G b0 Q nL M k n pc lv st := fun H locs ls hW hl => lv_bipush C.1 C.2.1 d hv (kk H locs ls hW hl)
theorem q_sipush (C : m_C p s m args c cc nL own Ts G b0) {n0 : Int} (v : Int32) (d : decode cc pc = .ok (.sipush n0, 3)) (hv : (Int16.ofInt n0).toInt32 = v) (kk : m_W p l e R s m args below meth c G b0 Q nL M k n (pc + 3) lv (.int v :: st)) : m_W p l e R s m args below meth c G b0 Q nL M k n pc lv st := fun H locs ls hW hl => lv_sipush C.1 C.2.1 d hv (kk H locs ls hW hl)
theorem q_lconst (C : m_C p s m args c cc nL own Ts G b0) {n0 : Fin 2} (v : Int64) (d : decode cc pc = .ok (.lconst n0, 1)) (hv : Int64.ofNat (n0 : Nat) = v) (kk : m_W p l e R s m args below meth c G b0 Q nL M k n (pc + 1) lv (.long v :: st)) : m_W p l e R s m args below meth c G b0 Q nL M k n pc lv st := fun H locs ls hW hl => lv_lconst C.1 C.2.1 d hv (kk H locs ls hW hl)
theorem q_null (C : m_C p s m args c cc nL own Ts G b0) (d : decode cc pc = .ok (.aconst_null, 1)) (kk : m_W p l e R s m args below meth c G b0 Q nL M k n (pc + 1) lv (va_rf none :: st)) : m_W p l e R s m args below meth c G b0 Q nL M k n pc lv st := fun H locs ls hW hl => lv_null C.1 C.2.1 d (kk H locs ls hW hl)
theorem q_iload_n (C : m_C p s m args c cc nL own Ts G b0) {j : Fin 4} (i : Nat) (q : Nat) {x : Int32} (d : decode cc pc = .ok (.iload_n j, 1)) (hi : (j : Nat) = i) (hv : lv[q]? = some (i, .int x)) (kk : m_W p l e R s m args below meth c G b0 Q nL M k n (pc + 1) lv (.int x :: st)) : m_W p l e R s m args below meth c G b0 Q nL M k n pc lv st := fun H locs ls hW hl => lv_iload_n C.1 C.2.1 d hi (lv_at hl q hv) (kk H locs ls hW hl)
theorem q_iload (C : m_C p s m args c cc nL own Ts G b0) (i : Nat) (q : Nat) {x : Int32} (d : decode cc pc = .ok (.iload i, 2)) (hv : lv[q]? = some (i, .int x)) (kk : m_W p l e R s m args below meth c G b0 Q nL M k n (pc + 2) lv (.int x :: st)) : m_W p l e R s m args below meth c G b0 Q nL M k n pc lv st := fun H locs ls hW hl => lv_iload C.1 C.2.1 d (lv_at hl q hv) (kk H locs ls hW hl)
theorem q_lload_n (C : m_C p s m args c cc nL own Ts G b0) {j : Fin 4} (i : Nat) (q : Nat) {x : Int64} (d : decode cc pc = .ok (.lload_n j, 1)) (hi : (j : Nat) = i) (hv : lv[q]? = some (i, .long x)) (kk : m_W p l e R s m args below meth c G b0 Q nL M k n (pc + 1) lv (.long x :: st)) : m_W p l e R s m args below meth c G b0 Q nL M k n pc lv st := fun H locs ls hW hl => lv_lload_n C.1 C.2.1 d hi (lv_at hl q hv) (kk H locs ls hW hl)
theorem q_aload_n (C : m_C p s m args c cc nL own Ts G b0) {j : Fin 4} (i : Nat) (q : Nat) {x : Option Nat} (d : decode cc pc = .ok (.aload_n j, 1)) (hi : (j : Nat) = i) (hv : lv[q]? = some (i, va_rf x)) (kk : m_W p l e R s m args below meth c G b0 Q nL M k n (pc + 1) lv (va_rf x :: st)) : m_W p l e R s m args below meth c G b0 Q nL M k n pc lv st := by
  intro H locs ls hW hl
  cases x with
  | none => exact lv_aload_nN C.1 C.2.1 d hi (lv_at hl q hv) (kk H locs ls hW hl)
  | some a => exact lv_aload_n C.1 C.2.1 d hi (lv_at hl q hv) (kk H locs ls hW hl)
theorem q_aload (C : m_C p s m args c cc nL own Ts G b0) (i : Nat) (q : Nat) {x : Option Nat} (d : decode cc pc = .ok (.aload i, 2)) (hv : lv[q]? = some (i, va_rf x)) (kk : m_W p l e R s m args below meth c G b0 Q nL M k n (pc + 2) lv (va_rf x :: st)) : m_W p l e R s m args below meth c G b0 Q nL M k n pc lv st := by
  intro H locs ls hW hl
  cases x with
  | none => exact lv_aloadN C.1 C.2.1 d (lv_at hl q hv) (kk H locs ls hW hl)
  | some a => exact lv_aload C.1 C.2.1 d (lv_at hl q hv) (kk H locs ls hW hl)
theorem q_istore_n (C : m_C p s m args c cc nL own Ts G b0) {j : Fin 4} (i : Nat) {x : Int32} (lw : List (Nat × Value)) (d : decode cc pc = .ok (.istore_n j, 1)) (hi : (j : Nat) = i) (hn : i < nL) (hk : (i, Value.int x) :: lv.filter (fun q => !(q.1 == i) && !(q.1 + 1 == i && q.2.category == 2)) = lw) (kk : m_W p l e R s m args below meth c G b0 Q nL M k n (pc + 1) lw st) : m_W p l e R s m args below meth c G b0 Q nL M k n pc lv (.int x :: st) := fun H locs ls hW hl => lv_istore_n C.1 C.2.1 d hi hl hn hk (fun ls h => kk H locs ls hW h)
theorem q_istore (C : m_C p s m args c cc nL own Ts G b0) (i : Nat) {x : Int32} (lw : List (Nat × Value)) (d : decode cc pc = .ok (.istore i, 2)) (hn : i < nL) (hk : (i, Value.int x) :: lv.filter (fun q => !(q.1 == i) && !(q.1 + 1 == i && q.2.category == 2)) = lw) (kk : m_W p l e R s m args below meth c G b0 Q nL M k n (pc + 2) lw st) : m_W p l e R s m args below meth c G b0 Q nL M k n pc lv (.int x :: st) := fun H locs ls hW hl => lv_istore C.1 C.2.1 d hl hn hk (fun ls h => kk H locs ls hW h)
theorem q_lstore_n (C : m_C p s m args c cc nL own Ts G b0) {j : Fin 4} (i : Nat) {x : Int64} (lw : List (Nat × Value)) (d : decode cc pc = .ok (.lstore_n j, 1)) (hi : (j : Nat) = i) (hn : i + 1 < nL) (hk : (i, Value.long x) :: lv.filter (fun q => !(q.1 == i) && (!(q.1 == i + 1) && !(q.1 + 1 == i && q.2.category == 2))) = lw) (kk : m_W p l e R s m args below meth c G b0 Q nL M k n (pc + 1) lw st) : m_W p l e R s m args below meth c G b0 Q nL M k n pc lv (.long x :: st) := fun H locs ls hW hl => lv_lstore_n C.1 C.2.1 d hi hl hn hk (fun ls h => kk H locs ls hW h)
theorem q_astore_n (C : m_C p s m args c cc nL own Ts G b0) {j : Fin 4} (i : Nat) {x : Option Nat} (lw : List (Nat × Value)) (d : decode cc pc = .ok (.astore_n j, 1)) (hi : (j : Nat) = i) (hn : i < nL) (hk : (i, va_rf x) :: lv.filter (fun q => !(q.1 == i) && !(q.1 + 1 == i && q.2.category == 2)) = lw) (kk : m_W p l e R s m args below meth c G b0 Q nL M k n (pc + 1) lw st) : m_W p l e R s m args below meth c G b0 Q nL M k n pc lv (va_rf x :: st) := by
  intro H locs ls hW hl
  cases x with
  | none => exact lv_astore_nN C.1 C.2.1 d hi hl hn hk (fun ls h => kk H locs ls hW h)
  | some a => exact lv_astore_n C.1 C.2.1 d hi hl hn hk (fun ls h => kk H locs ls hW h)
theorem q_astore (C : m_C p s m args c cc nL own Ts G b0) (i : Nat) {x : Option Nat} (lw : List (Nat × Value)) (d : decode cc pc = .ok (.astore i, 2)) (hn : i < nL) (hk : (i, va_rf x) :: lv.filter (fun q => !(q.1 == i) && !(q.1 + 1 == i && q.2.category == 2)) = lw) (kk : m_W p l e R s m args below meth c G b0 Q nL M k n (pc + 2) lw st) : m_W p l e R s m args below meth c G b0 Q nL M k n pc lv (va_rf x :: st) := by
  intro H locs ls hW hl
  cases x with
  | none => exact lv_astoreN C.1 C.2.1 d hl hn hk (fun ls h => kk H locs ls hW h)
  | some a => exact lv_astore C.1 C.2.1 d hl hn hk (fun ls h => kk H locs ls hW h)
theorem q_iinc (C : m_C p s m args c cc nL own Ts G b0) (i : Nat) (q : Nat) {n0 : Int} {x : Int32} (v : Int32) (lw : List (Nat × Value)) (d : decode cc pc = .ok (.iinc i n0, 3)) (hq : lv[q]? = some (i, .int x)) (hv : x + Int32.ofInt n0 = v) (hn : i < nL) (hk : (i, Value.int v) :: lv.filter (fun q => !(q.1 == i) && !(q.1 + 1 == i && q.2.category == 2)) = lw) (kk : m_W p l e R s m args below meth c G b0 Q nL M k n (pc + 3) lw st) : m_W p l e R s m args below meth c G b0 Q nL M k n pc lv st := fun H locs ls hW hl => lv_iinc C.1 C.2.1 d hl hq hv hn hk (fun ls h => kk H locs ls hW h)
theorem q_lv {lw : List (Nat × Value)} (ks : List Nat) (h : lv_pick lv ks = lw) (kk : m_W p l e R s m args below meth c G b0 Q nL M k n pc lw st) : m_W p l e R s m args below meth c G b0 Q nL M k n pc lv st := fun H locs ls hW hl => kk H locs ls hW (lv_sub hl ks h)
theorem q_widen {k2 n2 : Nat} (h1 : k ≤ k2) (h2 : n ≤ n2) (kk : m_W p l e R s m args below meth c G b0 Q nL M k2 n2 pc lv st) : m_W p l e R s m args below meth c G b0 Q nL M k n pc lv st := fun H locs ls hW hl => W.widen h1 h2 (kk H locs ls hW hl)
theorem q_iadd (C : m_C p s m args c cc nL own Ts G b0) {x y : Int32} (d : decode cc pc = .ok (.iadd, 1)) (kk : m_W p l e R s m args below meth c G b0 Q nL M k n (pc + 1) lv (.int (x + y) :: st)) : m_W p l e R s m args below meth c G b0 Q nL M k n pc lv (.int y :: .int x :: st) := fun H locs ls hW hl => lv_iadd C.1 C.2.1 d (kk H locs ls hW hl)
theorem q_isub (C : m_C p s m args c cc nL own Ts G b0) {x y : Int32} (d : decode cc pc = .ok (.isub, 1)) (kk : m_W p l e R s m args below meth c G b0 Q nL M k n (pc + 1) lv (.int (x - y) :: st)) : m_W p l e R s m args below meth c G b0 Q nL M k n pc lv (.int y :: .int x :: st) := fun H locs ls hW hl => lv_isub C.1 C.2.1 d (kk H locs ls hW hl)
theorem q_imul (C : m_C p s m args c cc nL own Ts G b0) {x y : Int32} (d : decode cc pc = .ok (.imul, 1)) (kk : m_W p l e R s m args below meth c G b0 Q nL M k n (pc + 1) lv (.int (x * y) :: st)) : m_W p l e R s m args below meth c G b0 Q nL M k n pc lv (.int y :: .int x :: st) := fun H locs ls hW hl => lv_imul C.1 C.2.1 d (kk H locs ls hW hl)
theorem q_iand (C : m_C p s m args c cc nL own Ts G b0) {x y : Int32} (d : decode cc pc = .ok (.iand, 1)) (kk : m_W p l e R s m args below meth c G b0 Q nL M k n (pc + 1) lv (.int (x &&& y) :: st)) : m_W p l e R s m args below meth c G b0 Q nL M k n pc lv (.int y :: .int x :: st) := fun H locs ls hW hl => lv_iand C.1 C.2.1 d (kk H locs ls hW hl)
theorem q_ior (C : m_C p s m args c cc nL own Ts G b0) {x y : Int32} (d : decode cc pc = .ok (.ior, 1)) (kk : m_W p l e R s m args below meth c G b0 Q nL M k n (pc + 1) lv (.int (x ||| y) :: st)) : m_W p l e R s m args below meth c G b0 Q nL M k n pc lv (.int y :: .int x :: st) := fun H locs ls hW hl => lv_ior C.1 C.2.1 d (kk H locs ls hW hl)
theorem q_ixor (C : m_C p s m args c cc nL own Ts G b0) {x y : Int32} (d : decode cc pc = .ok (.ixor, 1)) (kk : m_W p l e R s m args below meth c G b0 Q nL M k n (pc + 1) lv (.int (x ^^^ y) :: st)) : m_W p l e R s m args below meth c G b0 Q nL M k n pc lv (.int y :: .int x :: st) := fun H locs ls hW hl => lv_ixor C.1 C.2.1 d (kk H locs ls hW hl)
theorem q_ishl (C : m_C p s m args c cc nL own Ts G b0) {x y : Int32} (d : decode cc pc = .ok (.ishl, 1)) (kk : m_W p l e R s m args below meth c G b0 Q nL M k n (pc + 1) lv (.int (x <<< (y &&& 31)) :: st)) : m_W p l e R s m args below meth c G b0 Q nL M k n pc lv (.int y :: .int x :: st) := fun H locs ls hW hl => lv_ishl C.1 C.2.1 d (kk H locs ls hW hl)
theorem q_ishr (C : m_C p s m args c cc nL own Ts G b0) {x y : Int32} (d : decode cc pc = .ok (.ishr, 1)) (kk : m_W p l e R s m args below meth c G b0 Q nL M k n (pc + 1) lv (.int (x >>> (y &&& 31)) :: st)) : m_W p l e R s m args below meth c G b0 Q nL M k n pc lv (.int y :: .int x :: st) := fun H locs ls hW hl => lv_ishr C.1 C.2.1 d (kk H locs ls hW hl)
theorem q_idiv (C : m_C p s m args c cc nL own Ts G b0) {x y : Int32} (d : decode cc pc = .ok (.idiv, 1)) (hne : ¬ y = 0) (kk : m_W p l e R s m args below meth c G b0 Q nL M k n (pc + 1) lv (.int (x / y) :: st)) : m_W p l e R s m args below meth c G b0 Q nL M k n pc lv (.int y :: .int x :: st) := fun H locs ls hW hl => lv_idiv C.1 C.2.1 d hne (kk H locs ls hW hl)
theorem q_irem (C : m_C p s m args c cc nL own Ts G b0) {x y : Int32} (d : decode cc pc = .ok (.irem, 1)) (hne : ¬ y = 0) (kk : m_W p l e R s m args below meth c G b0 Q nL M k n (pc + 1) lv (.int (x - x / y * y) :: st)) : m_W p l e R s m args below meth c G b0 Q nL M k n pc lv (.int y :: .int x :: st) := fun H locs ls hW hl => lv_irem C.1 C.2.1 d hne (kk H locs ls hW hl)
theorem q_ineg (C : m_C p s m args c cc nL own Ts G b0) {x : Int32} (d : decode cc pc = .ok (.ineg, 1)) (kk : m_W p l e R s m args below meth c G b0 Q nL M k n (pc + 1) lv (.int (-x) :: st)) : m_W p l e R s m args below meth c G b0 Q nL M k n pc lv (.int x :: st) := fun H locs ls hW hl => lv_ineg C.1 C.2.1 d (kk H locs ls hW hl)
theorem q_ladd (C : m_C p s m args c cc nL own Ts G b0) {x y : Int64} (d : decode cc pc = .ok (.ladd, 1)) (kk : m_W p l e R s m args below meth c G b0 Q nL M k n (pc + 1) lv (.long (x + y) :: st)) : m_W p l e R s m args below meth c G b0 Q nL M k n pc lv (.long y :: .long x :: st) := fun H locs ls hW hl => lv_ladd C.1 C.2.1 d (kk H locs ls hW hl)
theorem q_lmul (C : m_C p s m args c cc nL own Ts G b0) {x y : Int64} (d : decode cc pc = .ok (.lmul, 1)) (kk : m_W p l e R s m args below meth c G b0 Q nL M k n (pc + 1) lv (.long (x * y) :: st)) : m_W p l e R s m args below meth c G b0 Q nL M k n pc lv (.long y :: .long x :: st) := fun H locs ls hW hl => lv_lmul C.1 C.2.1 d (kk H locs ls hW hl)
theorem q_land (C : m_C p s m args c cc nL own Ts G b0) {x y : Int64} (d : decode cc pc = .ok (.land, 1)) (kk : m_W p l e R s m args below meth c G b0 Q nL M k n (pc + 1) lv (.long (x &&& y) :: st)) : m_W p l e R s m args below meth c G b0 Q nL M k n pc lv (.long y :: .long x :: st) := fun H locs ls hW hl => lv_land C.1 C.2.1 d (kk H locs ls hW hl)
theorem q_lor (C : m_C p s m args c cc nL own Ts G b0) {x y : Int64} (d : decode cc pc = .ok (.lor, 1)) (kk : m_W p l e R s m args below meth c G b0 Q nL M k n (pc + 1) lv (.long (x ||| y) :: st)) : m_W p l e R s m args below meth c G b0 Q nL M k n pc lv (.long y :: .long x :: st) := fun H locs ls hW hl => lv_lor C.1 C.2.1 d (kk H locs ls hW hl)
theorem q_lushr (C : m_C p s m args c cc nL own Ts G b0) {x : Int64} {y : Int32} (d : decode cc pc = .ok (.lushr, 1)) (kk : m_W p l e R s m args below meth c G b0 Q nL M k n (pc + 1) lv (.long (x.toUInt64 >>> (y.toInt64.toUInt64 &&& Int64.toUInt64 63)).toInt64 :: st)) : m_W p l e R s m args below meth c G b0 Q nL M k n pc lv (.int y :: .long x :: st) := fun H locs ls hW hl => lv_lushr C.1 C.2.1 d rfl (kk H locs ls hW hl)
theorem q_lshl (C : m_C p s m args c cc nL own Ts G b0) {x : Int64} {y : Int32} (d : decode cc pc = .ok (.lshl, 1)) (kk : m_W p l e R s m args below meth c G b0 Q nL M k n (pc + 1) lv (.long (x <<< (y.toInt64 &&& 63)) :: st)) : m_W p l e R s m args below meth c G b0 Q nL M k n pc lv (.int y :: .long x :: st) := fun H locs ls hW hl => lv_lshl C.1 C.2.1 d rfl (kk H locs ls hW hl)
theorem q_i2l (C : m_C p s m args c cc nL own Ts G b0) {x : Int32} (d : decode cc pc = .ok (.i2l, 1)) (kk : m_W p l e R s m args below meth c G b0 Q nL M k n (pc + 1) lv (.long x.toInt64 :: st)) : m_W p l e R s m args below meth c G b0 Q nL M k n pc lv (.int x :: st) := fun H locs ls hW hl => lv_i2l C.1 C.2.1 d rfl (kk H locs ls hW hl)
theorem q_lcmp (C : m_C p s m args c cc nL own Ts G b0) {x y : Int64} (d : decode cc pc = .ok (.lcmp, 1)) (kk : m_W p l e R s m args below meth c G b0 Q nL M k n (pc + 1) lv (.int (lg_cmp x y) :: st)) : m_W p l e R s m args below meth c G b0 Q nL M k n pc lv (.long y :: .long x :: st) := fun H locs ls hW hl => W.lcmp C.1 C.2.1 d (kk H locs ls hW hl)
theorem q_dup (C : m_C p s m args c cc nL own Ts G b0) {v : Value} (d : decode cc pc = .ok (.dup, 1)) (hv : v.category = 1) (kk : m_W p l e R s m args below meth c G b0 Q nL M k n (pc + 1) lv (v :: v :: st)) : m_W p l e R s m args below meth c G b0 Q nL M k n pc lv (v :: st) := fun H locs ls hW hl => lv_dup C.1 C.2.1 d hv (kk H locs ls hW hl)
theorem q_pop (C : m_C p s m args c cc nL own Ts G b0) {v : Value} (d : decode cc pc = .ok (.pop, 1)) (hv : v.category = 1) (kk : m_W p l e R s m args below meth c G b0 Q nL M k n (pc + 1) lv st) : m_W p l e R s m args below meth c G b0 Q nL M k n pc lv (v :: st) := fun H locs ls hW hl => lv_pop C.1 C.2.1 d hv (kk H locs ls hW hl)
theorem q_dup_x1 (C : m_C p s m args c cc nL own Ts G b0) {v w : Value} (d : decode cc pc = .ok (.dup_x1, 1)) (hv : v.category = 1) (hw : w.category = 1) (kk : m_W p l e R s m args below meth c G b0 Q nL M k n (pc + 1) lv (v :: w :: v :: st)) : m_W p l e R s m args below meth c G b0 Q nL M k n pc lv (v :: w :: st) := fun H locs ls hW hl => lv_dup_x1 C.1 C.2.1 d hv hw (kk H locs ls hW hl)
theorem q_cat (r : Option Nat) : (va_rf r).category = 1 := by cases r <;> rfl
theorem q_goto (C : m_C p s m args c cc nL own Ts G b0) {off : Int} (tgt : Nat) (d : decode cc pc = .ok (.goto off, 3)) (ht : (pc : Int) + off = (tgt : Int)) (kk : m_W p l e R s m args below meth c G b0 Q nL M k n tgt lv st) : m_W p l e R s m args below meth c G b0 Q nL M k n pc lv st := fun H locs ls hW hl => lv_goto C.1 C.2.1 d ht (kk H locs ls hW hl)
theorem q_icmp_eq (C : m_C p s m args c cc nL own Ts G b0) {x y : Int32} {off : Int} (tgt : Nat) (d : decode cc pc = .ok (.if_icmp .eq off, 3)) (ht : (pc : Int) + off = (tgt : Int)) (kt : x = y → m_W p l e R s m args below meth c G b0 Q nL M k n tgt lv st) (kf : ¬ x = y → m_W p l e R s m args below meth c G b0 Q nL M k n (pc + 3) lv st) : m_W p l e R s m args below meth c G b0 Q nL M k n pc lv (.int y :: .int x :: st) := fun H locs ls hW hl => lv_icmp_eq C.1 C.2.1 d ht (fun z => kt z H locs ls hW hl) (fun z => kf z H locs ls hW hl)
theorem q_icmp_ne (C : m_C p s m args c cc nL own Ts G b0) {x y : Int32} {off : Int} (tgt : Nat) (d : decode cc pc = .ok (.if_icmp .ne off, 3)) (ht : (pc : Int) + off = (tgt : Int)) (kt : ¬ x = y → m_W p l e R s m args below meth c G b0 Q nL M k n tgt lv st) (kf : x = y → m_W p l e R s m args below meth c G b0 Q nL M k n (pc + 3) lv st) : m_W p l e R s m args below meth c G b0 Q nL M k n pc lv (.int y :: .int x :: st) := fun H locs ls hW hl => lv_icmp_ne C.1 C.2.1 d ht (fun z => kt z H locs ls hW hl) (fun z => kf z H locs ls hW hl)
theorem q_icmp_lt (C : m_C p s m args c cc nL own Ts G b0) {x y : Int32} {off : Int} (tgt : Nat) (d : decode cc pc = .ok (.if_icmp .lt off, 3)) (ht : (pc : Int) + off = (tgt : Int)) (kt : x < y → m_W p l e R s m args below meth c G b0 Q nL M k n tgt lv st) (kf : ¬ x < y → m_W p l e R s m args below meth c G b0 Q nL M k n (pc + 3) lv st) : m_W p l e R s m args below meth c G b0 Q nL M k n pc lv (.int y :: .int x :: st) := fun H locs ls hW hl => lv_icmp_lt C.1 C.2.1 d ht (fun z => kt z H locs ls hW hl) (fun z => kf z H locs ls hW hl)
theorem q_icmp_ge (C : m_C p s m args c cc nL own Ts G b0) {x y : Int32} {off : Int} (tgt : Nat) (d : decode cc pc = .ok (.if_icmp .ge off, 3)) (ht : (pc : Int) + off = (tgt : Int)) (kt : y ≤ x → m_W p l e R s m args below meth c G b0 Q nL M k n tgt lv st) (kf : ¬ y ≤ x → m_W p l e R s m args below meth c G b0 Q nL M k n (pc + 3) lv st) : m_W p l e R s m args below meth c G b0 Q nL M k n pc lv (.int y :: .int x :: st) := fun H locs ls hW hl => lv_icmp_ge C.1 C.2.1 d ht (fun z => kt z H locs ls hW hl) (fun z => kf z H locs ls hW hl)
theorem q_icmp_gt (C : m_C p s m args c cc nL own Ts G b0) {x y : Int32} {off : Int} (tgt : Nat) (d : decode cc pc = .ok (.if_icmp .gt off, 3)) (ht : (pc : Int) + off = (tgt : Int)) (kt : y < x → m_W p l e R s m args below meth c G b0 Q nL M k n tgt lv st) (kf : ¬ y < x → m_W p l e R s m args below meth c G b0 Q nL M k n (pc + 3) lv st) : m_W p l e R s m args below meth c G b0 Q nL M k n pc lv (.int y :: .int x :: st) := fun H locs ls hW hl => lv_icmp_gt C.1 C.2.1 d ht (fun z => kt z H locs ls hW hl) (fun z => kf z H locs ls hW hl)
theorem q_icmp_le (C : m_C p s m args c cc nL own Ts G b0) {x y : Int32} {off : Int} (tgt : Nat) (d : decode cc pc = .ok (.if_icmp .le off, 3)) (ht : (pc : Int) + off = (tgt : Int)) (kt : x ≤ y → m_W p l e R s m args below meth c G b0 Q nL M k n tgt lv st) (kf : ¬ x ≤ y → m_W p l e R s m args below meth c G b0 Q nL M k n (pc + 3) lv st) : m_W p l e R s m args below meth c G b0 Q nL M k n pc lv (.int y :: .int x :: st) := fun H locs ls hW hl => lv_icmp_le C.1 C.2.1 d ht (fun z => kt z H locs ls hW hl) (fun z => kf z H locs ls hW hl)
theorem q_if_eq (C : m_C p s m args c cc nL own Ts G b0) {x : Int32} {off : Int} (tgt : Nat) (d : decode cc pc = .ok (.ifCond .eq off, 3)) (ht : (pc : Int) + off = (tgt : Int)) (kt : x = 0 → m_W p l e R s m args below meth c G b0 Q nL M k n tgt lv st) (kf : ¬ x = 0 → m_W p l e R s m args below meth c G b0 Q nL M k n (pc + 3) lv st) : m_W p l e R s m args below meth c G b0 Q nL M k n pc lv (.int x :: st) := fun H locs ls hW hl => lv_if_eq C.1 C.2.1 d ht (fun z => kt z H locs ls hW hl) (fun z => kf z H locs ls hW hl)
theorem q_if_ne (C : m_C p s m args c cc nL own Ts G b0) {x : Int32} {off : Int} (tgt : Nat) (d : decode cc pc = .ok (.ifCond .ne off, 3)) (ht : (pc : Int) + off = (tgt : Int)) (kt : ¬ x = 0 → m_W p l e R s m args below meth c G b0 Q nL M k n tgt lv st) (kf : x = 0 → m_W p l e R s m args below meth c G b0 Q nL M k n (pc + 3) lv st) : m_W p l e R s m args below meth c G b0 Q nL M k n pc lv (.int x :: st) := fun H locs ls hW hl => lv_if_ne C.1 C.2.1 d ht (fun z => kt z H locs ls hW hl) (fun z => kf z H locs ls hW hl)
theorem q_if_lt (C : m_C p s m args c cc nL own Ts G b0) {x : Int32} {off : Int} (tgt : Nat) (d : decode cc pc = .ok (.ifCond .lt off, 3)) (ht : (pc : Int) + off = (tgt : Int)) (kt : x < 0 → m_W p l e R s m args below meth c G b0 Q nL M k n tgt lv st) (kf : ¬ x < 0 → m_W p l e R s m args below meth c G b0 Q nL M k n (pc + 3) lv st) : m_W p l e R s m args below meth c G b0 Q nL M k n pc lv (.int x :: st) := fun H locs ls hW hl => lv_if_lt C.1 C.2.1 d ht (fun z => kt z H locs ls hW hl) (fun z => kf z H locs ls hW hl)
theorem q_if_ge (C : m_C p s m args c cc nL own Ts G b0) {x : Int32} {off : Int} (tgt : Nat) (d : decode cc pc = .ok (.ifCond .ge off, 3)) (ht : (pc : Int) + off = (tgt : Int)) (kt : 0 ≤ x → m_W p l e R s m args below meth c G b0 Q nL M k n tgt lv st) (kf : ¬ 0 ≤ x → m_W p l e R s m args below meth c G b0 Q nL M k n (pc + 3) lv st) : m_W p l e R s m args below meth c G b0 Q nL M k n pc lv (.int x :: st) := fun H locs ls hW hl => lv_if_ge C.1 C.2.1 d ht (fun z => kt z H locs ls hW hl) (fun z => kf z H locs ls hW hl)
theorem q_if_gt (C : m_C p s m args c cc nL own Ts G b0) {x : Int32} {off : Int} (tgt : Nat) (d : decode cc pc = .ok (.ifCond .gt off, 3)) (ht : (pc : Int) + off = (tgt : Int)) (kt : 0 < x → m_W p l e R s m args below meth c G b0 Q nL M k n tgt lv st) (kf : ¬ 0 < x → m_W p l e R s m args below meth c G b0 Q nL M k n (pc + 3) lv st) : m_W p l e R s m args below meth c G b0 Q nL M k n pc lv (.int x :: st) := fun H locs ls hW hl => lv_if_gt C.1 C.2.1 d ht (fun z => kt z H locs ls hW hl) (fun z => kf z H locs ls hW hl)
theorem q_if_le (C : m_C p s m args c cc nL own Ts G b0) {x : Int32} {off : Int} (tgt : Nat) (d : decode cc pc = .ok (.ifCond .le off, 3)) (ht : (pc : Int) + off = (tgt : Int)) (kt : x ≤ 0 → m_W p l e R s m args below meth c G b0 Q nL M k n tgt lv st) (kf : ¬ x ≤ 0 → m_W p l e R s m args below meth c G b0 Q nL M k n (pc + 3) lv st) : m_W p l e R s m args below meth c G b0 Q nL M k n pc lv (.int x :: st) := fun H locs ls hW hl => lv_if_le C.1 C.2.1 d ht (fun z => kt z H locs ls hW hl) (fun z => kf z H locs ls hW hl)
theorem q_acmp_eq (C : m_C p s m args c cc nL own Ts G b0) {rx ry : Option Nat} {off : Int} (tgt : Nat) (d : decode cc pc = .ok (.if_acmp .eq off, 3)) (ht : (pc : Int) + off = (tgt : Int)) (kt : rx = ry → m_W p l e R s m args below meth c G b0 Q nL M k n tgt lv st) (kf : ¬ rx = ry → m_W p l e R s m args below meth c G b0 Q nL M k n (pc + 3) lv st) : m_W p l e R s m args below meth c G b0 Q nL M k n pc lv (va_rf ry :: va_rf rx :: st) := fun H locs ls hW hl => lv_acmp_eq C.1 C.2.1 d ht (fun z => kt z H locs ls hW hl) (fun z => kf z H locs ls hW hl)
theorem q_acmp_ne (C : m_C p s m args c cc nL own Ts G b0) {rx ry : Option Nat} {off : Int} (tgt : Nat) (d : decode cc pc = .ok (.if_acmp .ne off, 3)) (ht : (pc : Int) + off = (tgt : Int)) (kt : ¬ rx = ry → m_W p l e R s m args below meth c G b0 Q nL M k n tgt lv st) (kf : rx = ry → m_W p l e R s m args below meth c G b0 Q nL M k n (pc + 3) lv st) : m_W p l e R s m args below meth c G b0 Q nL M k n pc lv (va_rf ry :: va_rf rx :: st) := fun H locs ls hW hl => lv_acmp_ne C.1 C.2.1 d ht (fun z => kt z H locs ls hW hl) (fun z => kf z H locs ls hW hl)
theorem q_ifnull (C : m_C p s m args c cc nL own Ts G b0) {x : Option Nat} {off : Int} (tgt : Nat) (d : decode cc pc = .ok (.ifnull off, 3)) (ht : (pc : Int) + off = (tgt : Int)) (kt : x = none → m_W p l e R s m args below meth c G b0 Q nL M k n tgt lv st) (kf : ¬ x = none → m_W p l e R s m args below meth c G b0 Q nL M k n (pc + 3) lv st) : m_W p l e R s m args below meth c G b0 Q nL M k n pc lv (va_rf x :: st) := by
  intro H locs ls hW hl
  cases x with
  | none => exact lv_ifnullN C.1 C.2.1 d ht (kt rfl H locs ls hW hl)
  | some a => exact lv_ifnull C.1 C.2.1 d (kf (fun z => by cases z) H locs ls hW hl)
theorem q_ifnonnull (C : m_C p s m args c cc nL own Ts G b0) {x : Option Nat} {off : Int} (tgt : Nat) (d : decode cc pc = .ok (.ifnonnull off, 3)) (ht : (pc : Int) + off = (tgt : Int)) (kt : ¬ x = none → m_W p l e R s m args below meth c G b0 Q nL M k n tgt lv st) (kf : x = none → m_W p l e R s m args below meth c G b0 Q nL M k n (pc + 3) lv st) : m_W p l e R s m args below meth c G b0 Q nL M k n pc lv (va_rf x :: st) := by
  intro H locs ls hW hl
  cases x with
  | none => exact lv_ifnonnullN C.1 C.2.1 d (kf rfl H locs ls hW hl)
  | some a => exact lv_ifnonnull C.1 C.2.1 d ht (kt (fun z => by cases z) H locs ls hW hl)
theorem q_tableIn (C : m_C p s m args c cc nL own Ts G b0) {dflt lo hi : Int} {offs : Array Int} {len : Nat} {x : Int32} {off : Int} (tgt : Nat) (d : decode cc pc = .ok (.tableswitch dflt lo hi offs, len)) (h1 : ¬ x.toInt < lo) (h2 : ¬ hi < x.toInt) (ho : offs[(x.toInt - lo).toNat]? = some off) (ht : (pc : Int) + off = (tgt : Int)) (kk : m_W p l e R s m args below meth c G b0 Q nL M k n tgt lv st) : m_W p l e R s m args below meth c G b0 Q nL M k n pc lv (.int x :: st) := fun H locs ls hW hl => lv_tableIn C.1 C.2.1 d h1 h2 ho ht (kk H locs ls hW hl)
theorem q_tableOut (C : m_C p s m args c cc nL own Ts G b0) {dflt lo hi : Int} {offs : Array Int} {len : Nat} {x : Int32} (tgt : Nat) (d : decode cc pc = .ok (.tableswitch dflt lo hi offs, len)) (h : x.toInt < lo ∨ hi < x.toInt) (ht : (pc : Int) + dflt = (tgt : Int)) (kk : m_W p l e R s m args below meth c G b0 Q nL M k n tgt lv st) : m_W p l e R s m args below meth c G b0 Q nL M k n pc lv (.int x :: st) := fun H locs ls hW hl => lv_tableOut C.1 C.2.1 d h ht (kk H locs ls hW hl)
end MROWS
/-- what a method reads and writes, told forwards: the rest of the method is κ -/
def m_gI (M : mM) (r : Option Nat) (ci k : Nat) (κ : Int32 → Prop) : Prop := ∃ (a : Nat) (fs : List Value) (x : Int32), r = some a ∧ M a = some (.inr (ci, fs)) ∧ fs[k]? = some (.int x) ∧ κ x
def m_gJ (M : mM) (r : Option Nat) (ci k : Nat) (κ : Int64 → Prop) : Prop := ∃ (a : Nat) (fs : List Value) (x : Int64), r = some a ∧ M a = some (.inr (ci, fs)) ∧ fs[k]? = some (.long x) ∧ κ x
def m_gR (M : mM) (r : Option Nat) (ci k : Nat) (κ : Option Nat → Prop) : Prop := ∃ (a : Nat) (fs : List Value) (x : Option Nat), r = some a ∧ M a = some (.inr (ci, fs)) ∧ fs[k]? = some (va_rf x) ∧ κ x
def m_p (M : mM) (r : Option Nat) (ci k : Nat) (v : Value) (κ : mM → Prop) : Prop := ∃ (a : Nat) (fs : List Value), r = some a ∧ M a = some (.inr (ci, fs)) ∧ k < fs.length ∧ κ (m_up M a (.inr (ci, fs.set k v)))
def m_pZ (M : mM) (r : Option Nat) (ci k : Nat) (x : Int32) (κ : mM → Prop) : Prop := (x = 0 ∨ x = 1) ∧ m_p M r ci k (.int x) κ
def m_ldI (M : mM) (r : Option Nat) (i : Int32) (ak : Nat) (κ : Int32 → Prop) : Prop := ∃ (a n : Nat) (f : Nat → Int32), r = some a ∧ M a = some (.inl (ak, n, .inl f)) ∧ vp_in i n ∧ κ (f i.toNatClampNeg)
def m_ldR (M : mM) (r : Option Nat) (i : Int32) (ak : Nat) (κ : Option Nat → Prop) : Prop := ∃ (a n : Nat) (f : Nat → Option Nat), r = some a ∧ M a = some (.inl (ak, n, .inr (.inr (.inr (.inr f))))) ∧ vp_in i n ∧ κ (f i.toNatClampNeg)
def m_len (M : mM) (r : Option Nat) (κ : Int32 → Prop) : Prop := ∃ (a ak : Nat) (v : vp_A), r = some a ∧ M a = some (.inl (ak, v)) ∧ ak < 10 ∧ κ (Int32.ofNat v.1)
def m_stI (M : mM) (r : Option Nat) (i : Int32) (x : Int32) (κ : mM → Prop) : Prop := ∃ (a n : Nat) (f : Nat → Int32), r = some a ∧ M a = some (.inl (0, n, .inl f)) ∧ vp_in i n ∧ κ (m_up M a (.inl (0, n, .inl (upd f i.toNatClampNeg x))))
def m_stZ (M : mM) (r : Option Nat) (i : Int32) (x : Int32) (κ : mM → Prop) : Prop := ∃ (a n : Nat) (f : Nat → Int32), r = some a ∧ M a = some (.inl (1, n, .inl f)) ∧ vp_in i n ∧ κ (m_up M a (.inl (1, n, .inl (upd f i.toNatClampNeg (vp_nar .boolean x)))))
/-- a store into a row of references: null, or an object of a class that may lie there -/
def m_stR (M : mM) (r : Option Nat) (i : Int32) (x : Option Nat) (ak : Nat) (κ : mM → Prop) : Prop := ∃ (a n : Nat) (f : Nat → Option Nat), r = some a ∧ M a = some (.inl (ak, n, .inr (.inr (.inr (.inr f))))) ∧ vp_in i n ∧ (∀ y, x = some y → ∃ (ci : Nat) (fs : List Value), M y = some (.inr (ci, fs)) ∧ ci < 20 ∧ (ak = 3 → ci = 7) ∧ (ak = 4 → ci = 16)) ∧ κ (m_up M a (.inl (ak, n, .inr (.inr (.inr (.inr (va_up f i.toNatClampNeg x)))))))
def m_new (M : mM) (ci : Nat) (fs : List Value) (κ : Nat → mM → Prop) : Prop := ∀ q : Nat, M q = none → κ q (m_up M q (.inr (ci, fs)))
/-- a receiver: there, and of its class -/
def m_rc (M : mM) (r : Option Nat) (ci : Nat) (κ : Nat → Prop) : Prop := ∃ (a : Nat) (fs : List Value), r = some a ∧ M a = some (.inr (ci, fs)) ∧ κ a
section MMEM
variable {p : Program} {l : Launch} {e : Env} {R : Room} {s : State} {m : MethodId} {args : Array Value} {below : List Frame} {meth : Method} {c : Code} {Q : State → Prop}
variable {cc : ByteArray} {nL : Nat} {own : String} {Ts : List Cond} {G : mG} {b0 : Nat} {M : mM} {k n pc : Nat} {lv : List (Nat × Value)} {st : List Value}
theorem m_nwt (C : m_C p s m args c cc nL own Ts G b0) {w : Cond} (i : Nat) (h : tables_1[i]? = some w) (hn : m_nw w = true) (ho : w.onTables = true) : w.before args s = true := va_Nw.use ho (C.2.2.2.2.2.2.1.1 w (List.mem_of_getElem? h) hn)
theorem q_get (C : m_C p s m args c cc nL own Ts G b0) {a ci : Nat} {fs : List Value} {v : Value} {ref Cn : String} {T : u_T} {N index : Nat} (hM : M a = some (.inr (ci, fs))) (kf : Nat) (hv : fs[kf]? = some v) (hc : m_cl[ci]? = some (Cn, T, N)) (hk : kf < N) (hin : ∀ w ∈ u_ws Cn T N, w ∈ Ts) (hlink : Cond.fieldLink own index ref (T kf).2.1 (T kf).2.2.1 ∈ Ts) (hsame : ∀ x, s.fieldFound? (T kf).1 (T kf).2.1 (T kf).2.2.1 = some x → s.fieldFound? ref (T kf).2.1 (T kf).2.2.1 = some x) (d : decode cc pc = .ok (.getfield index, 3))
    (kk : m_W p l e R s m args below meth c G b0 Q nL M k n (pc + 3) lv (v :: st)) : m_W p l e R s m args below meth c G b0 Q nL M k n pc lv (.ref a :: st) := by
  intro H locs ls hW hl
  obtain ⟨hx, hb, -, hown, hts, hK, -, -⟩ := C
  obtain ⟨cell, q1, q3, -, -, q4⟩ := m_rdO hW.1 hM hc
  obtain ⟨hS, hfc, kC, hkC, hkind⟩ := hK.1 ci _ hc
  obtain ⟨cf, kf', fi, f, hi, hsl⟩ := hS kf hk
  refine W.getf hx hb hown (hts _ hlink) (hsame _ hi) (u_facts hfc hkC (u_lays hts hin hk) hi).1 q1 q3 (v := v) ?_ rfl rfl d (kk H locs ls hW hl)
  rw [hsl, q4 kf hk]
  simp [vp_V, hv]
theorem q_gI (C : m_C p s m args c cc nL own Ts G b0) {r : Option Nat} {ci kf : Nat} {κ : Int32 → Prop} (h : m_gI M r ci kf κ) {ref Cn : String} {T : u_T} {N index : Nat} (hc : m_cl[ci]? = some (Cn, T, N)) (hk : kf < N) (hin : ∀ w ∈ u_ws Cn T N, w ∈ Ts) (hlink : Cond.fieldLink own index ref (T kf).2.1 (T kf).2.2.1 ∈ Ts) (hsame : ∀ x, s.fieldFound? (T kf).1 (T kf).2.1 (T kf).2.2.1 = some x → s.fieldFound? ref (T kf).2.1 (T kf).2.2.1 = some x) (d : decode cc pc = .ok (.getfield index, 3))
    (kk : ∀ x, κ x → m_W p l e R s m args below meth c G b0 Q nL M k n (pc + 3) lv (.int x :: st)) : m_W p l e R s m args below meth c G b0 Q nL M k n pc lv (va_rf r :: st) := by
  obtain ⟨a, fs, x, rfl, hM, hv, hh⟩ := h
  exact q_get C hM kf hv hc hk hin hlink hsame d (kk x hh)
theorem q_gJ (C : m_C p s m args c cc nL own Ts G b0) {r : Option Nat} {ci kf : Nat} {κ : Int64 → Prop} (h : m_gJ M r ci kf κ) {ref Cn : String} {T : u_T} {N index : Nat} (hc : m_cl[ci]? = some (Cn, T, N)) (hk : kf < N) (hin : ∀ w ∈ u_ws Cn T N, w ∈ Ts) (hlink : Cond.fieldLink own index ref (T kf).2.1 (T kf).2.2.1 ∈ Ts) (hsame : ∀ x, s.fieldFound? (T kf).1 (T kf).2.1 (T kf).2.2.1 = some x → s.fieldFound? ref (T kf).2.1 (T kf).2.2.1 = some x) (d : decode cc pc = .ok (.getfield index, 3))
    (kk : ∀ x, κ x → m_W p l e R s m args below meth c G b0 Q nL M k n (pc + 3) lv (.long x :: st)) : m_W p l e R s m args below meth c G b0 Q nL M k n pc lv (va_rf r :: st) := by
  obtain ⟨a, fs, x, rfl, hM, hv, hh⟩ := h
  exact q_get C hM kf hv hc hk hin hlink hsame d (kk x hh)
theorem q_gR (C : m_C p s m args c cc nL own Ts G b0) {r : Option Nat} {ci kf : Nat} {κ : Option Nat → Prop} (h : m_gR M r ci kf κ) {ref Cn : String} {T : u_T} {N index : Nat} (hc : m_cl[ci]? = some (Cn, T, N)) (hk : kf < N) (hin : ∀ w ∈ u_ws Cn T N, w ∈ Ts) (hlink : Cond.fieldLink own index ref (T kf).2.1 (T kf).2.2.1 ∈ Ts) (hsame : ∀ x, s.fieldFound? (T kf).1 (T kf).2.1 (T kf).2.2.1 = some x → s.fieldFound? ref (T kf).2.1 (T kf).2.2.1 = some x) (d : decode cc pc = .ok (.getfield index, 3))
    (kk : ∀ x, κ x → m_W p l e R s m args below meth c G b0 Q nL M k n (pc + 3) lv (va_rf x :: st)) : m_W p l e R s m args below meth c G b0 Q nL M k n pc lv (va_rf r :: st) := by
  obtain ⟨a, fs, x, rfl, hM, hv, hh⟩ := h
  exact q_get C hM kf hv hc hk hin hlink hsame d (kk x hh)
/-- the same across a nest -/
theorem q_getN (C : m_C p s m args c cc nL own Ts G b0) {a ci : Nat} {fs : List Value} {v : Value} {ref Cn host : String} {T : u_T} {N index : Nat} (hM : M a = some (.inr (ci, fs))) (kf : Nat) (hv : fs[kf]? = some v) (hc : m_cl[ci]? = some (Cn, T, N)) (hk : kf < N) (hin : ∀ w ∈ u_ws Cn T N, w ∈ Ts) (tb : Nat) (hlink : tables_1[tb]? = some (Cond.fieldLinkNest own index ref (T kf).2.1 (T kf).2.2.1 host)) (hsame : ∀ x, s.fieldFound? (T kf).1 (T kf).2.1 (T kf).2.2.1 = some x → s.fieldFound? ref (T kf).2.1 (T kf).2.2.1 = some x) (d : decode cc pc = .ok (.getfield index, 3))
    (kk : m_W p l e R s m args below meth c G b0 Q nL M k n (pc + 3) lv (v :: st)) : m_W p l e R s m args below meth c G b0 Q nL M k n pc lv (.ref a :: st) := by
  intro H locs ls hW hl
  have hl2 := m_nwt C tb hlink rfl rfl
  obtain ⟨hx, hb, -, hown, hts, hK, -, -⟩ := C
  obtain ⟨cell, q1, q3, -, -, q4⟩ := m_rdO hW.1 hM hc
  obtain ⟨hS, hfc, kC, hkC, hkind⟩ := hK.1 ci _ hc
  obtain ⟨cf, kf', fi, f, hi, hsl⟩ := hS kf hk
  refine va_Wgetf hx hb hown hl2 (hsame _ hi) (u_facts hfc hkC (u_lays hts hin hk) hi).1 q1 q3 (v := v) ?_ rfl rfl d (kk H locs ls hW hl)
  rw [hsl, q4 kf hk]
  simp [vp_V, hv]
theorem q_gIN (C : m_C p s m args c cc nL own Ts G b0) {r : Option Nat} {ci kf : Nat} {κ : Int32 → Prop} (h : m_gI M r ci kf κ) {ref Cn host : String} {T : u_T} {N index : Nat} (hc : m_cl[ci]? = some (Cn, T, N)) (hk : kf < N) (hin : ∀ w ∈ u_ws Cn T N, w ∈ Ts) (tb : Nat) (hlink : tables_1[tb]? = some (Cond.fieldLinkNest own index ref (T kf).2.1 (T kf).2.2.1 host)) (hsame : ∀ x, s.fieldFound? (T kf).1 (T kf).2.1 (T kf).2.2.1 = some x → s.fieldFound? ref (T kf).2.1 (T kf).2.2.1 = some x) (d : decode cc pc = .ok (.getfield index, 3))
    (kk : ∀ x, κ x → m_W p l e R s m args below meth c G b0 Q nL M k n (pc + 3) lv (.int x :: st)) : m_W p l e R s m args below meth c G b0 Q nL M k n pc lv (va_rf r :: st) := by
  obtain ⟨a, fs, x, rfl, hM, hv, hh⟩ := h
  exact q_getN C hM kf hv hc hk hin tb hlink hsame d (kk x hh)
theorem q_gRN (C : m_C p s m args c cc nL own Ts G b0) {r : Option Nat} {ci kf : Nat} {κ : Option Nat → Prop} (h : m_gR M r ci kf κ) {ref Cn host : String} {T : u_T} {N index : Nat} (hc : m_cl[ci]? = some (Cn, T, N)) (hk : kf < N) (hin : ∀ w ∈ u_ws Cn T N, w ∈ Ts) (tb : Nat) (hlink : tables_1[tb]? = some (Cond.fieldLinkNest own index ref (T kf).2.1 (T kf).2.2.1 host)) (hsame : ∀ x, s.fieldFound? (T kf).1 (T kf).2.1 (T kf).2.2.1 = some x → s.fieldFound? ref (T kf).2.1 (T kf).2.2.1 = some x) (d : decode cc pc = .ok (.getfield index, 3))
    (kk : ∀ x, κ x → m_W p l e R s m args below meth c G b0 Q nL M k n (pc + 3) lv (va_rf x :: st)) : m_W p l e R s m args below meth c G b0 Q nL M k n pc lv (va_rf r :: st) := by
  obtain ⟨a, fs, x, rfl, hM, hv, hh⟩ := h
  exact q_getN C hM kf hv hc hk hin tb hlink hsame d (kk x hh)
/-- a field is written -/
theorem q_p (C : m_C p s m args c cc nL own Ts G b0) {r : Option Nat} {ci kf : Nat} {κ : mM → Prop} {v : Value} (h : m_p M r ci kf v κ) (ty : FieldType) {ref Cn : String} {T : u_T} {N index : Nat} (tf : Nat → FieldType) (htf : ∀ k, k < N → parseFieldDescriptor (T k).2.2.1 = some (tf k)) (hnm : ∀ a, a < N → ∀ b, b < N → a ≠ b → (T a).2.1 ≠ (T b).2.1) (hro : (ci == 2 || ci == 20) = false) (hd : parseFieldDescriptor (T kf).2.2.1 = some ty) (hn : narrow ty v = v) (hfit : fits ty v = true) (hc : m_cl[ci]? = some (Cn, T, N)) (hk : kf < N) (hin : ∀ w ∈ u_ws Cn T N, w ∈ Ts) (hlink : Cond.fieldLink own index ref (T kf).2.1 (T kf).2.2.1 ∈ Ts) (hsame : ∀ x, s.fieldFound? (T kf).1 (T kf).2.1 (T kf).2.2.1 = some x → s.fieldFound? ref (T kf).2.1 (T kf).2.2.1 = some x) (hfin : (T kf).2.2.2 = false) (d : decode cc pc = .ok (.putfield index, 3))
    (kk : ∀ M', κ M' → m_W p l e R s m args below meth c G b0 Q nL M' k n (pc + 3) lv st) : m_W p l e R s m args below meth c G b0 Q nL M k n pc lv (v :: va_rf r :: st) := by
  obtain ⟨a, fs, rfl, hM, hl9, hh⟩ := h
  intro H locs ls hW hl
  obtain ⟨hx, hb, -, hown, hts, hK, -, hb0⟩ := C
  obtain ⟨ws, q0, hP, hD, he, -, hup⟩ := m_look hW.1 hM hro
  exact va_put (D := G.1) (ci := ci) (v := v) (C := Cn) (T := T) (N := N) hx hb hts hin tf htf hnm hown hK hP hD hW.2 q0 he hc kf hk (hts _ hlink) hsame hfin hd hn hfit hl9 d (fun H1 locs1 hP1 hD1 hS1 => kk _ hh H1 locs1 ls ⟨hup H1 (.inr (ci, _)) hro (m_below hb0 hW hS1) hP1 hD1, hS1⟩ hl)
theorem q_pN (C : m_C p s m args c cc nL own Ts G b0) {r : Option Nat} {ci kf : Nat} {κ : mM → Prop} {v : Value} (h : m_p M r ci kf v κ) (ty : FieldType) {ref Cn host : String} {T : u_T} {N index : Nat} (tf : Nat → FieldType) (htf : ∀ k, k < N → parseFieldDescriptor (T k).2.2.1 = some (tf k)) (hnm : ∀ a, a < N → ∀ b, b < N → a ≠ b → (T a).2.1 ≠ (T b).2.1) (hro : (ci == 2 || ci == 20) = false) (hd : parseFieldDescriptor (T kf).2.2.1 = some ty) (hn : narrow ty v = v) (hfit : fits ty v = true) (hc : m_cl[ci]? = some (Cn, T, N)) (hk : kf < N) (hin : ∀ w ∈ u_ws Cn T N, w ∈ Ts) (tb : Nat) (hlink : tables_1[tb]? = some (Cond.fieldLinkNest own index ref (T kf).2.1 (T kf).2.2.1 host)) (hsame : ∀ x, s.fieldFound? (T kf).1 (T kf).2.1 (T kf).2.2.1 = some x → s.fieldFound? ref (T kf).2.1 (T kf).2.2.1 = some x) (hfin : (T kf).2.2.2 = false) (d : decode cc pc = .ok (.putfield index, 3))
    (kk : ∀ M', κ M' → m_W p l e R s m args below meth c G b0 Q nL M' k n (pc + 3) lv st) : m_W p l e R s m args below meth c G b0 Q nL M k n pc lv (v :: va_rf r :: st) := by
  obtain ⟨a, fs, rfl, hM, hl9, hh⟩ := h
  intro H locs ls hW hl
  have hl2 := m_nwt C tb hlink rfl rfl
  obtain ⟨hx, hb, -, hown, hts, hK, -, hb0⟩ := C
  obtain ⟨ws, q0, hP, hD, he, -, hup⟩ := m_look hW.1 hM hro
  exact va_putN (D := G.1) (ci := ci) (v := v) (C := Cn) (T := T) (N := N) hx hb hts hin tf htf hnm hown hK hP hD hW.2 q0 he hc kf hk hl2 hsame hfin hd hn hfit hl9 d (fun H1 locs1 hP1 hD1 hS1 => kk _ hh H1 locs1 ls ⟨hup H1 (.inr (ci, _)) hro (m_below hb0 hW hS1) hP1 hD1, hS1⟩ hl)
theorem q_pF (C : m_C p s m args c cc nL own Ts G b0) (hini : meth.name = "<init>") {r : Option Nat} {ci kf : Nat} {κ : mM → Prop} {v : Value} (h : m_p M r ci kf v κ) (ty : FieldType) {ref Cn : String} {T : u_T} {N index : Nat} (tf : Nat → FieldType) (htf : ∀ k, k < N → parseFieldDescriptor (T k).2.2.1 = some (tf k)) (hnm : ∀ a, a < N → ∀ b, b < N → a ≠ b → (T a).2.1 ≠ (T b).2.1) (hro : (ci == 2 || ci == 20) = false) (hd : parseFieldDescriptor (T kf).2.2.1 = some ty) (hn : narrow ty v = v) (hfit : fits ty v = true) (hc : m_cl[ci]? = some (Cn, T, N)) (hk : kf < N) (hin : ∀ w ∈ u_ws Cn T N, w ∈ Ts) (hlink : Cond.fieldLink own index ref (T kf).2.1 (T kf).2.2.1 ∈ Ts) (hsame : ∀ x, s.fieldFound? (T kf).1 (T kf).2.1 (T kf).2.2.1 = some x → s.fieldFound? ref (T kf).2.1 (T kf).2.2.1 = some x) (hfin : (T kf).2.2.2 = true) (hdecl : (T kf).1 = own) (d : decode cc pc = .ok (.putfield index, 3))
    (kk : ∀ M', κ M' → m_W p l e R s m args below meth c G b0 Q nL M' k n (pc + 3) lv st) : m_W p l e R s m args below meth c G b0 Q nL M k n pc lv (v :: va_rf r :: st) := by
  obtain ⟨a, fs, rfl, hM, hl9, hh⟩ := h
  intro H locs ls hW hl
  obtain ⟨hx, hb, -, hown, hts, hK, -, hb0⟩ := C
  obtain ⟨ws, q0, hP, hD, he, -, hup⟩ := m_look hW.1 hM hro
  exact va_putF (D := G.1) (ci := ci) (v := v) (C := Cn) (T := T) (N := N) hx hb hts hin tf htf hnm hown hK hP hD hW.2 q0 he hc kf hk (hts _ hlink) hsame hfin hini hdecl hd hn hfit hl9 d (fun H1 locs1 hP1 hD1 hS1 => kk _ hh H1 locs1 ls ⟨hup H1 (.inr (ci, _)) hro (m_below hb0 hW hS1) hP1 hD1, hS1⟩ hl)
theorem q_nrO (C : String) (r : Option Nat) : narrow (.object C) (va_rf r) = va_rf r := by cases r <;> rfl
theorem q_ftO (C : String) (r : Option Nat) : fits (.object C) (va_rf r) = true := by cases r <;> rfl
theorem q_nrA (t : FieldType) (r : Option Nat) : narrow (.array t) (va_rf r) = va_rf r := by cases r <;> rfl
theorem q_ftA (t : FieldType) (r : Option Nat) : fits (.array t) (va_rf r) = true := by cases r <;> rfl
theorem q_nrZ {x : Int32} (h : x = 0 ∨ x = 1) : narrow .boolean (.int x) = .int x := by rcases h with rfl | rfl <;> decide
theorem q_ftZ {x : Int32} (h : x = 0 ∨ x = 1) : fits .boolean (.int x) = true := by rcases h with rfl | rfl <;> decide
/-- arrays -/
theorem q_iald (C : m_C p s m args c cc nL own Ts G b0) {r : Option Nat} {i : Int32} {κ : Int32 → Prop} (h : m_ldI M r i 0 κ) (d : decode cc pc = .ok (.iaload, 1)) (kk : ∀ x, κ x → m_W p l e R s m args below meth c G b0 Q nL M k n (pc + 1) lv (.int x :: st)) : m_W p l e R s m args below meth c G b0 Q nL M k n pc lv (.int i :: va_rf r :: st) := by
  obtain ⟨a, N, f, rfl, hM, hi, hh⟩ := h
  intro H locs ls hW hl
  obtain ⟨hx, hb, -, hown, hts, hK, -, -⟩ := C
  obtain ⟨ws, q0, hP, he⟩ := m_rd hW.1 hM rfl
  exact va_iald hx hb hK hP q0 0 he rfl hi d (kk _ hh H locs ls hW hl)
theorem q_zald (C : m_C p s m args c cc nL own Ts G b0) {r : Option Nat} {i : Int32} {κ : Int32 → Prop} (h : m_ldI M r i 1 κ) (d : decode cc pc = .ok (.baload, 1)) (kk : ∀ x, κ x → m_W p l e R s m args below meth c G b0 Q nL M k n (pc + 1) lv (.int x :: st)) : m_W p l e R s m args below meth c G b0 Q nL M k n pc lv (.int i :: va_rf r :: st) := by
  obtain ⟨a, N, f, rfl, hM, hi, hh⟩ := h
  intro H locs ls hW hl
  obtain ⟨hx, hb, -, hown, hts, hK, -, -⟩ := C
  obtain ⟨ws, q0, hP, he⟩ := m_rd hW.1 hM rfl
  exact va_zald hx hb hK hP q0 1 he rfl hi d (kk _ hh H locs ls hW hl)
theorem q_aald (C : m_C p s m args c cc nL own Ts G b0) {r : Option Nat} {i : Int32} {ak : Nat} {κ : Option Nat → Prop} (h : m_ldR M r i ak κ) {E : String} (ht : (m_tys G)[ak]? = some (G.2.1 ak, .object E)) (d : decode cc pc = .ok (.aaload, 1)) (kk : ∀ x, κ x → m_W p l e R s m args below meth c G b0 Q nL M k n (pc + 1) lv (va_rf x :: st)) : m_W p l e R s m args below meth c G b0 Q nL M k n pc lv (.int i :: va_rf r :: st) := by
  obtain ⟨a, N, f, rfl, hM, hi, hh⟩ := h
  intro H locs ls hW hl
  obtain ⟨hx, hb, -, hown, hts, hK, hZ, -⟩ := C
  by_cases h7 : ak < 7
  · obtain ⟨ws, q0, hP, he⟩ := m_rd hW.1 hM (decide_eq_false (by omega))
    exact va_aldq (C := E) hx hb hK hP q0 ak he ht hi d (kk _ hh H locs ls hW hl)
  · have h9 : ak = 7 ∨ ak = 8 := by
      have hl9 := (List.getElem?_eq_some_iff.mp ht).1
      have hl10 : ak < 10 := hl9
      rcases (show ak = 7 ∨ ak = 8 ∨ ak = 9 by omega) with rfl | rfl | rfl
      · exact Or.inl rfl
      · exact Or.inr rfl
      · cases ht
    have hlt : i.toNatClampNeg < N := Nat.not_le.mp fun q => hi (Or.inr q)
    obtain ⟨E', ro, hE⟩ : ∃ E' : String, m_ro (.inl (ak, N, .inr (.inr (.inr (.inr f))))) = true ∧ ArrOfT s (G.2.1 (10 + ak)) (.object E') := by
      rcases h9 with rfl | rfl
      · exact ⟨_, rfl, hZ.2.2.2.2.2.2.2.2.2.2 (17, _) (List.mem_of_getElem? (i := 0) rfl)⟩
      · exact ⟨_, rfl, hZ.2.2.2.2.2.2.2.2.2.2 (18, _) (List.mem_of_getElem? (i := 1) rfl)⟩
    obtain ⟨-, cell, c1, c2, c3, c4, c5, c6, c7⟩ := m_rdC hW.1 hM ro
    have hof : s.isArrayOf cell (.object E') := ⟨fun k z => (by rw [z] at c3; cases c3), by rw [c4]; exact (hE 0 (fun _ => .int 0)).2⟩
    refine W.aald (v := va_rf (f i.toNatClampNeg)) (ty := .object E') hx hb c1 hof rfl c2 (fun q => hi (q.elim Or.inl (fun q => Or.inr (Nat.le_trans c5 q)))) ?_ rfl rfl d (kk _ hh H locs ls hW hl)
    rw [c7 _ hlt]
    show (arrV _ _ _).slots[_]? = _
    rw [arrV_read _ _ hlt]
theorem q_aaldA (C : m_C p s m args c cc nL own Ts G b0) {r : Option Nat} {i : Int32} {κ : Option Nat → Prop} (h : m_ldR M r i 5 κ) (d : decode cc pc = .ok (.aaload, 1)) (kk : ∀ x, κ x → m_W p l e R s m args below meth c G b0 Q nL M k n (pc + 1) lv (va_rf x :: st)) : m_W p l e R s m args below meth c G b0 Q nL M k n pc lv (.int i :: va_rf r :: st) := by
  obtain ⟨a, N, f, rfl, hM, hi, hh⟩ := h
  intro H locs ls hW hl
  obtain ⟨hx, hb, -, hown, hts, hK, -, -⟩ := C
  obtain ⟨ws, q0, hP, he⟩ := m_rd hW.1 hM rfl
  have hlt : i.toNatClampNeg < N := Nat.not_le.mp fun q => hi (Or.inr q)
  exact W.aald (v := va_rf (f i.toNatClampNeg)) (ty := .array .int) hx hb (hP q0 _ he) ((hK.2 5 _ rfl).1 N (fun j => va_rf (f j))) rfl (fun q => by cases q) (by show ¬ (i < 0 ∨ (arrV _ _ _).slots.size ≤ _); rw [arrV_size]; exact hi) (by show (arrV _ _ _).slots[_]? = _; rw [arrV_read _ _ hlt]) rfl rfl d (kk _ hh H locs ls hW hl)
theorem q_len (C : m_C p s m args c cc nL own Ts G b0) {r : Option Nat} {κ : Int32 → Prop} (h : m_len M r κ) (d : decode cc pc = .ok (.arraylength, 1)) (kk : ∀ x, κ x → m_W p l e R s m args below meth c G b0 Q nL M k n (pc + 1) lv (.int x :: st)) : m_W p l e R s m args below meth c G b0 Q nL M k n pc lv (va_rf r :: st) := by
  obtain ⟨a, ak, v, rfl, hM, hak, hh⟩ := h
  obtain ⟨ty, ht⟩ : ∃ ty, (m_tys G)[ak]? = some (G.2.1 ak, ty) := by
    rcases (show ak = 0 ∨ ak = 1 ∨ ak = 2 ∨ ak = 3 ∨ ak = 4 ∨ ak = 5 ∨ ak = 6 ∨ ak = 7 ∨ ak = 8 ∨ ak = 9 by omega) with rfl | rfl | rfl | rfl | rfl | rfl | rfl | rfl | rfl | rfl <;> exact ⟨_, rfl⟩
  intro H locs ls hW hl
  obtain ⟨hx, hb, -, hown, hts, hK, hZ, -⟩ := C
  by_cases h7 : ak < 7
  · obtain ⟨ws, q0, hP, he⟩ := m_rd hW.1 hM (decide_eq_false (by omega))
    exact va_alen hx hb hK hP q0 ak he ht rfl d (kk _ hh H locs ls hW hl)
  · obtain ⟨ty', hE⟩ : ∃ ty', ArrOfT s (G.2.1 (10 + ak)) ty' := by
      rcases (show ak = 7 ∨ ak = 8 ∨ ak = 9 by omega) with rfl | rfl | rfl
      · exact ⟨_, hZ.2.2.2.2.2.2.2.2.2.2 (17, _) (List.mem_of_getElem? (i := 0) rfl)⟩
      · exact ⟨_, hZ.2.2.2.2.2.2.2.2.2.2 (18, _) (List.mem_of_getElem? (i := 1) rfl)⟩
      · exact ⟨_, hZ.2.2.2.2.2.2.2.2.2.2 (19, _) (List.mem_of_getElem? (i := 2) rfl)⟩
    obtain ⟨-, cell, c1, c2, c3, c4, c5, c6, c7⟩ := m_rdC hW.1 hM (decide_eq_true (by omega))
    have hof : s.isArrayOf cell ty' := ⟨fun k z => (by rw [z] at c3; cases c3), by rw [c4]; exact (hE 0 (fun _ => .int 0)).2⟩
    exact W.alen (n := Int32.ofNat v.1) hx hb c1 hof c6 rfl rfl d (kk _ hh H locs ls hW hl)
theorem q_iast (C : m_C p s m args c cc nL own Ts G b0) {r : Option Nat} {i x : Int32} {κ : mM → Prop} (h : m_stI M r i x κ) (d : decode cc pc = .ok (.iastore, 1)) (kk : ∀ M', κ M' → m_W p l e R s m args below meth c G b0 Q nL M' k n (pc + 1) lv st) : m_W p l e R s m args below meth c G b0 Q nL M k n pc lv (.int x :: .int i :: va_rf r :: st) := by
  obtain ⟨a, N, f, rfl, hM, hi, hh⟩ := h
  intro H locs ls hW hl
  obtain ⟨hx, hb, -, hown, hts, hK, -, hb0⟩ := C
  obtain ⟨ws, q0, hP, hD, he, -, hup⟩ := m_look hW.1 hM rfl
  exact va_iast hx hb hK hP hD hW.2 q0 0 he rfl hi d (fun H1 locs1 hP1 hD1 hS1 => kk _ hh H1 locs1 ls ⟨hup H1 (.inl (0, N, .inl _)) rfl (m_below hb0 hW hS1) hP1 hD1, hS1⟩ hl)
theorem q_zast (C : m_C p s m args c cc nL own Ts G b0) {r : Option Nat} {i x : Int32} {κ : mM → Prop} (h : m_stZ M r i x κ) (d : decode cc pc = .ok (.bastore, 1)) (kk : ∀ M', κ M' → m_W p l e R s m args below meth c G b0 Q nL M' k n (pc + 1) lv st) : m_W p l e R s m args below meth c G b0 Q nL M k n pc lv (.int x :: .int i :: va_rf r :: st) := by
  obtain ⟨a, N, f, rfl, hM, hi, hh⟩ := h
  intro H locs ls hW hl
  obtain ⟨hx, hb, -, hown, hts, hK, -, hb0⟩ := C
  obtain ⟨ws, q0, hP, hD, he, -, hup⟩ := m_look hW.1 hM rfl
  exact va_zast hx hb hK hP hD hW.2 q0 1 he rfl hi d (fun H1 locs1 hP1 hD1 hS1 => kk _ hh H1 locs1 ls ⟨hup H1 (.inl (1, N, .inl _)) rfl (m_below hb0 hW hS1) hP1 hD1, hS1⟩ hl)
end MMEM
