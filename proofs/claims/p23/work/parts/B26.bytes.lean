/-- words for the narrowing instructions -/
def m_i2b (x : Int32) : Int32 := x.toInt8.toInt32
def m_i2c (x : Int32) : Int32 := (x.toUInt32 % 65536).toInt32
def m_iushr (x y : Int32) : Int32 := (x.toUInt32 >>> (y.toUInt32 &&& Int32.toUInt32 31)).toInt32
def m_stB (M : mM) (r : Option Nat) (i : Int32) (x : Int32) (κ : mM → Prop) : Prop := ∃ (a n : Nat) (f : Nat → Int32), r = some a ∧ M a = some (.inl (6, n, .inl f)) ∧ vp_in i n ∧ κ (m_up M a (.inl (6, n, .inl (upd f i.toNatClampNeg (vp_nar .byte x)))))
/-- a load from a row of bytes, one's own or a static one -/
def m_ldB (M : mM) (r : Option Nat) (i : Int32) (κ : Int32 → Prop) : Prop := ∃ (a ak n : Nat) (f : Nat → Int32), r = some a ∧ M a = some (.inl (ak, n, .inl f)) ∧ (ak = 6 ∨ ak = 9) ∧ vp_in i n ∧ κ (f i.toNatClampNeg)
def m_copyB (M : mM) (src : Option Nat) (sp : Int32) (dst : Option Nat) (dp n : Int32) (κ : mM → Prop) : Prop := ∃ (a0 ak n0 a n1 : Nat) (f g : Nat → Int32), src = some a0 ∧ dst = some a ∧ M a0 = some (.inl (ak, n0, .inl f)) ∧ (ak = 6 ∨ ak = 9) ∧ M a = some (.inl (6, n1, .inl g)) ∧ ¬ sp < 0 ∧ ¬ dp < 0 ∧ ¬ n < 0 ∧ sp.toNatClampNeg + n.toNatClampNeg ≤ n0 ∧ dp.toNatClampNeg + n.toNatClampNeg ≤ n1 ∧
  (∀ i : Nat, i < n.toNatClampNeg → fits .byte (.int (f (sp.toNatClampNeg + i))) = true) ∧ κ (m_up M a (.inl (6, n1, .inl (va_cpy f g sp.toNatClampNeg dp.toNatClampNeg n.toNatClampNeg))))
def m_cloneB (M : mM) (r : Option Nat) (B : Nat) (κ : Nat → mM → Prop) : Prop := ∃ (a n : Nat) (f : Nat → Int32), r = some a ∧ M a = some (.inl (6, n, .inl f)) ∧ n ≤ B ∧ (∀ i : Nat, i < n → fits .byte (.int (f i)) = true) ∧ ∀ q : Nat, M q = none → κ q (m_up M q (.inl (6, n, .inl f)))
/-- a new entry, and where one lies that is there -/
theorem m_pushAt {G : mG} {b0 : Nat} {M : mM} {H : Heap} (h : m_H G b0 M H) {a : Nat} {e : mCe} (ha : M a = some e) (hro : m_ro e = false) : ∃ (ws : va_W) (q0 : Nat), va_P G.1 m_cl ws H ∧ va_D (fun q => b0 ≤ q) ws ∧ ws[q0]? = some (a, m_tr G e) ∧ ∀ (H1 : Heap) (a9 : Nat) (e1 : mCe), m_ro e1 = false → (∀ q, q < b0 → H1[q]? = H[q]?) → va_P G.1 m_cl (ws ++ [(a9, m_tr G e1)]) H1 → va_D (fun q => b0 ≤ q) (ws ++ [(a9, m_tr G e1)]) → M a9 = none ∧ m_H G b0 (m_up M a9 e1) H1 := by
  obtain ⟨ws, hP, hD, hR⟩ := h
  obtain ⟨q0, hq0⟩ : ∃ k : Nat, ws[k]? = some (a, m_tr G e) := by
    rcases hR a e ha with ⟨-, hk⟩ | ⟨hr, -⟩
    · exact hk
    · rw [hr] at hro; cases hro
  refine ⟨ws, q0, hP, hD, hq0, fun H1 a9 e1 hr1 hb hP1 hD1 => ?_⟩
  have hlast : (ws ++ [(a9, m_tr G e1)])[ws.length]? = some (a9, m_tr G e1) := by simp
  have hab : b0 ≤ a9 := hD1.2 _ _ hlast
  refine ⟨?_, _, hP1, hD1, fun a2 e2 h2 => ?_⟩
  · cases hM : M a9 with
    | none => rfl
    | some e9 =>
      exfalso
      rcases hR a9 e9 hM with ⟨-, k, hk⟩ | ⟨-, hk, -⟩
      · have hl := (List.getElem?_eq_some_iff.mp hk).1
        have hk' : (ws ++ [(a9, m_tr G e1)])[k]? = some (a9, m_tr G e9) := by rw [List.getElem?_append_left hl]; exact hk
        have := hD1.1 k ws.length _ _ hk' hlast rfl
        omega
      · omega
  · by_cases hq : a2 = a9
    · subst hq
      rw [m_up_s] at h2
      cases h2
      exact Or.inl ⟨hr1, _, hlast⟩
    · rw [m_up_n hq] at h2
      rcases hR a2 e2 h2 with ⟨hr2, k2, hk2⟩ | h3
      · exact Or.inl ⟨hr2, k2, by rw [List.getElem?_append_left (List.getElem?_eq_some_iff.mp hk2).1]; exact hk2⟩
      · exact Or.inr ⟨h3.1, h3.2.1, by rw [hb a2 h3.2.1]; exact h3.2.2⟩
/-- several new entries at once -/
def m_ups (M : mM) (L : List (Nat × mCe)) : mM := L.foldl (fun M x => m_up M x.1 x.2) M
theorem m_ups_or (L : List (Nat × mCe)) : ∀ (M : mM) (a : Nat) (e : mCe), m_ups M L a = some e → (a, e) ∈ L ∨ M a = some e := by
  induction L with
  | nil => intro M a e h; exact Or.inr h
  | cons x L ih =>
    intro M a e h
    rcases ih (m_up M x.1 x.2) a e h with h1 | h1
    · exact Or.inl (List.mem_cons_of_mem _ h1)
    · by_cases hq : a = x.1
      · subst hq
        rw [m_up_s] at h1
        cases h1
        exact Or.inl (List.mem_cons_self ..)
      · rw [m_up_n hq] at h1
        exact Or.inr h1
theorem m_pushL {G : mG} {b0 : Nat} {M : mM} {H : Heap} (h : m_H G b0 M H) : ∃ ws : va_W, va_P G.1 m_cl ws H ∧ va_D (fun q => b0 ≤ q) ws ∧ ∀ (H1 : Heap) (L : List (Nat × mCe)), (∀ x ∈ L, m_ro x.2 = false) → (∀ q, q < b0 → H1[q]? = H[q]?) → va_P G.1 m_cl (ws ++ L.map (fun x => (x.1, m_tr G x.2))) H1 → va_D (fun q => b0 ≤ q) (ws ++ L.map (fun x => (x.1, m_tr G x.2))) → (∀ x ∈ L, M x.1 = none) ∧ m_H G b0 (m_ups M L) H1 := by
  obtain ⟨ws, hP, hD, hR⟩ := h
  refine ⟨ws, hP, hD, fun H1 L hr1 hb hP1 hD1 => ⟨fun x hx => ?_, _, hP1, hD1, fun a2 e2 h2 => ?_⟩⟩
  · obtain ⟨j, hj⟩ := List.getElem?_of_mem hx
    have hlast : (ws ++ L.map (fun x => (x.1, m_tr G x.2)))[ws.length + j]? = some (x.1, m_tr G x.2) := by
      rw [List.getElem?_append_right (Nat.le_add_right _ _), Nat.add_sub_cancel_left, List.getElem?_map, hj]
      rfl
    have hab : b0 ≤ x.1 := hD1.2 _ (x.1, m_tr G x.2) hlast
    cases hM : M x.1 with
    | none => rfl
    | some e =>
      exfalso
      rcases hR x.1 e hM with ⟨-, k, hk⟩ | ⟨-, hk, -⟩
      · have hl := (List.getElem?_eq_some_iff.mp hk).1
        have hk' : (ws ++ L.map (fun x => (x.1, m_tr G x.2)))[k]? = some (x.1, m_tr G e) := by rw [List.getElem?_append_left hl]; exact hk
        have := hD1.1 k (ws.length + j) _ _ hk' hlast rfl
        omega
      · omega
  · rcases m_ups_or L M a2 e2 h2 with h1 | h1
    · obtain ⟨j, hj⟩ := List.getElem?_of_mem h1
      refine Or.inl ⟨hr1 _ h1, ws.length + j, ?_⟩
      rw [List.getElem?_append_right (Nat.le_add_right _ _), Nat.add_sub_cancel_left, List.getElem?_map, hj]
      rfl
    · rcases hR a2 e2 h1 with ⟨hr2, k2, hk2⟩ | h3
      · exact Or.inl ⟨hr2, k2, by rw [List.getElem?_append_left (List.getElem?_eq_some_iff.mp hk2).1]; exact hk2⟩
      · exact Or.inr ⟨h3.1, h3.2.1, by rw [hb a2 h3.2.1]; exact h3.2.2⟩
/-- a row of N rows of K words -/
def m_rows (q N K : Nat) (r : Nat → Nat) : List (Nat × mCe) := (q, .inl (5, N, .inr (.inr (.inr (.inr (fun i => if i < N then some (r i) else none)))))) :: (List.range N).map (fun i => (r i, .inl (0, K, .inl (fun _ => 0))))
def m_mna (M : mM) (n k : Int32) (N K : Nat) (κ : Nat → mM → Prop) : Prop := ¬ n < 0 ∧ ¬ k < 0 ∧ n.toNatClampNeg = N ∧ k.toNatClampNeg = K ∧ ∀ (q : Nat) (r : Nat → Nat), (∀ x ∈ m_rows q N K r, M x.1 = none) → (∀ i j : Nat, i < N → j < N → r i = r j → i = j) → (∀ i : Nat, i < N → r i ≠ q) → κ q (m_ups M (m_rows q N K r))
section MBYTE
variable {p : Program} {l : Launch} {e : Env} {R : Room} {s : State} {m : MethodId} {args : Array Value} {below : List Frame} {meth : Method} {c : Code} {Q : State → Prop}
variable {cc : ByteArray} {nL : Nat} {own : String} {Ts : List Cond} {G : mG} {b0 : Nat} {M : mM} {k n pc : Nat} {lv : List (Nat × Value)} {st : List Value}

theorem q_dup2_11 (C : m_C p s m args c cc nL own Ts G b0) {va vb : Value} (hva : va.category = 1) (hvb : vb.category = 1) (d : decode cc pc = .ok (.dup2, 1)) (kk : m_W p l e R s m args below meth c G b0 Q nL M k n (pc + 1) lv (va :: vb :: va :: vb :: st)) : m_W p l e R s m args below meth c G b0 Q nL M k n pc lv (va :: vb :: st) := fun H locs ls hW hl => lv_dup2_11 C.1 C.2.1 d hva hvb (kk H locs ls hW hl)
theorem q_dup2_2 (C : m_C p s m args c cc nL own Ts G b0) {va : Value} (hva : va.category = 2) (d : decode cc pc = .ok (.dup2, 1)) (kk : m_W p l e R s m args below meth c G b0 Q nL M k n (pc + 1) lv (va :: va :: st)) : m_W p l e R s m args below meth c G b0 Q nL M k n pc lv (va :: st) := fun H locs ls hW hl => lv_dup2_2 C.1 C.2.1 d hva (kk H locs ls hW hl)
theorem q_pop2_11 (C : m_C p s m args c cc nL own Ts G b0) {va vb : Value} (hva : va.category = 1) (hvb : vb.category = 1) (d : decode cc pc = .ok (.pop2, 1)) (kk : m_W p l e R s m args below meth c G b0 Q nL M k n (pc + 1) lv st) : m_W p l e R s m args below meth c G b0 Q nL M k n pc lv (va :: vb :: st) := fun H locs ls hW hl => lv_pop2_11 C.1 C.2.1 d hva hvb (kk H locs ls hW hl)
theorem q_pop2_2 (C : m_C p s m args c cc nL own Ts G b0) {va : Value} (hva : va.category = 2) (d : decode cc pc = .ok (.pop2, 1)) (kk : m_W p l e R s m args below meth c G b0 Q nL M k n (pc + 1) lv st) : m_W p l e R s m args below meth c G b0 Q nL M k n pc lv (va :: st) := fun H locs ls hW hl => lv_pop2_2 C.1 C.2.1 d hva (kk H locs ls hW hl)
theorem q_i2b (C : m_C p s m args c cc nL own Ts G b0) {x : Int32} (d : decode cc pc = .ok (.i2b, 1)) (kk : m_W p l e R s m args below meth c G b0 Q nL M k n (pc + 1) lv (.int (m_i2b x) :: st)) : m_W p l e R s m args below meth c G b0 Q nL M k n pc lv (.int x :: st) := fun H locs ls hW hl => lv_i2b C.1 C.2.1 d rfl (kk H locs ls hW hl)
theorem q_i2c (C : m_C p s m args c cc nL own Ts G b0) {x : Int32} (d : decode cc pc = .ok (.i2c, 1)) (kk : m_W p l e R s m args below meth c G b0 Q nL M k n (pc + 1) lv (.int (m_i2c x) :: st)) : m_W p l e R s m args below meth c G b0 Q nL M k n pc lv (.int x :: st) := fun H locs ls hW hl => lv_i2c C.1 C.2.1 d rfl (kk H locs ls hW hl)
theorem q_l2i (C : m_C p s m args c cc nL own Ts G b0) {x : Int64} (d : decode cc pc = .ok (.l2i, 1)) (kk : m_W p l e R s m args below meth c G b0 Q nL M k n (pc + 1) lv (.int x.toInt32 :: st)) : m_W p l e R s m args below meth c G b0 Q nL M k n pc lv (.long x :: st) := fun H locs ls hW hl => lv_l2i C.1 C.2.1 d rfl (kk H locs ls hW hl)
theorem q_iushr (C : m_C p s m args c cc nL own Ts G b0) {x y : Int32} (d : decode cc pc = .ok (.iushr, 1)) (kk : m_W p l e R s m args below meth c G b0 Q nL M k n (pc + 1) lv (.int (m_iushr x y) :: st)) : m_W p l e R s m args below meth c G b0 Q nL M k n pc lv (.int y :: .int x :: st) := fun H locs ls hW hl => lv_iushr C.1 C.2.1 d rfl (kk H locs ls hW hl)
theorem q_bald (C : m_C p s m args c cc nL own Ts G b0) {r : Option Nat} {i : Int32} {κ : Int32 → Prop} (h : m_ldB M r i κ) (d : decode cc pc = .ok (.baload, 1)) (kk : ∀ x, κ x → m_W p l e R s m args below meth c G b0 Q nL M k n (pc + 1) lv (.int x :: st)) : m_W p l e R s m args below meth c G b0 Q nL M k n pc lv (.int i :: va_rf r :: st) := by
  obtain ⟨a, ak, N, f, rfl, hM, hak, hi, hh⟩ := h
  intro H locs ls hW hl
  rcases hak with rfl | rfl
  · obtain ⟨ws, q0, hP, he⟩ := m_rd hW.1 hM rfl
    exact va_bald C.1 C.2.1 C.2.2.2.2.2.1 hP q0 6 he rfl hi d (kk _ hh H locs ls hW hl)
  · have hlt : i.toNatClampNeg < N := Nat.not_le.mp fun q => hi (Or.inr q)
    obtain ⟨-, cell, c1, c2, c3, c4, c5, c6, c7⟩ := m_rdC hW.1 hM rfl
    have hE : ArrOfT s (G.2.1 19) .byte := C.2.2.2.2.2.2.1.2.2.2.2.2.2.2.2.2.2 (19, _) (List.mem_of_getElem? (i := 2) rfl)
    have hof : s.isArrayOf cell .byte := ⟨fun k z => (by rw [z] at c3; cases c3), by rw [c4]; exact (hE 0 (fun _ => .int 0)).2⟩
    refine W.bald (v := .int (f i.toNatClampNeg)) C.1 C.2.1 c1 hof c2 (fun q => hi (q.elim Or.inl (fun q => Or.inr (Nat.le_trans c5 q)))) ?_ rfl rfl d (kk _ hh H locs ls hW hl)
    rw [c7 _ hlt]
    show (arrV _ _ _).slots[_]? = _
    rw [arrV_read _ _ hlt]
theorem q_bast (C : m_C p s m args c cc nL own Ts G b0) {r : Option Nat} {i x : Int32} {κ : mM → Prop} (h : m_stB M r i x κ) (d : decode cc pc = .ok (.bastore, 1)) (kk : ∀ M', κ M' → m_W p l e R s m args below meth c G b0 Q nL M' k n (pc + 1) lv st) : m_W p l e R s m args below meth c G b0 Q nL M k n pc lv (.int x :: .int i :: va_rf r :: st) := by
  obtain ⟨a, N, f, rfl, hM, hi, hh⟩ := h
  intro H locs ls hW hl
  have hb0 := C.2.2.2.2.2.2.2
  obtain ⟨ws, q0, hP, hD, he, -, hup⟩ := m_look hW.1 hM rfl
  exact va_bast C.1 C.2.1 C.2.2.2.2.2.1 hP hD hW.2 q0 6 he rfl hi d (fun H1 locs1 hP1 hD1 hS1 => kk _ hh H1 locs1 ls ⟨hup H1 (.inl (6, N, .inl _)) rfl (m_below hb0 hW hS1) hP1 hD1, hS1⟩ hl)
theorem q_copyB (C : m_C p s m args c cc nL own Ts G b0) {src dst : Option Nat} {sp dp nn : Int32} {index : Nat} {κ : mM → Prop} (h : m_copyB M src sp dst dp nn κ) (hlink : Cond.methodLink own index arraycopyName ∈ Ts) (hnat : Cond.native arraycopyName ∈ Ts) (hstat : Cond.static arraycopyName ∈ Ts) (hini : Cond.initialized "java/lang/System" ∈ Ts) (hf : 1 ≤ R.frames) (hlo : (st.map fun v => v.category).sum + (nativeFrameWords "java/lang/System" "arraycopy" 5 + 11) ≤ R.locals) (d : decode cc pc = .ok (.invokestatic index, 3))
    (kk : ∀ M', κ M' → m_W p l e R s m args below meth c G b0 Q nL M' k n (pc + 3) lv st) : m_W p l e R s m args below meth c G b0 Q nL M k n pc lv (.int nn :: .int dp :: va_rf dst :: .int sp :: va_rf src :: st) := by
  obtain ⟨a0, ak, n0, a, n1, f, g, rfl, rfl, hM0, hak, hM, h1, h2, h3, h4, h5, hfit, hh⟩ := h
  intro H locs ls hW hl
  have hts := C.2.2.2.2.1
  have hK := C.2.2.2.2.2.1
  have hb0 := C.2.2.2.2.2.2.2
  obtain ⟨ws, q1, hP, hD, he, hall, hup⟩ := m_look hW.1 hM rfl
  rcases hak with rfl | rfl
  · obtain ⟨q0, he0⟩ := hall a0 _ hM0 rfl
    exact va_copyi C.1 C.2.1 (C.2.2.1.trans hl.1.symm) C.2.2.2.1 (hts _ hlink) (hts _ hnat) (hts _ hstat) (hts _ hini) hK hP hD hW.2 q0 q1 6 6 (ty := .byte) he0 he rfl rfl rfl h1 h2 h3 h4 h5 hfit hf hlo d (fun H1 locs1 hP1 hD1 hS1 => kk _ hh H1 locs1 ls ⟨hup H1 (.inl (6, n1, .inl _)) rfl (m_below hb0 hW hS1) hP1 hD1, hS1⟩ hl)
  · obtain ⟨hro, cell, c1, c2, c3, c4, c5, c6, c7⟩ := m_rdC hW.1 hM0 rfl
    have hs : s.heap[a0]? = some cell := by rw [← hW.2.2.1 a0 (Nat.lt_of_lt_of_le hro hb0) (Nat.not_le.mpr hro)]; exact c1
    have hE : ArrOfT s (G.2.1 19) .byte := C.2.2.2.2.2.2.1.2.2.2.2.2.2.2.2.2.2 (19, _) (List.mem_of_getElem? (i := 2) rfl)
    have hof : s.isArrayOf cell .byte := ⟨fun k z => (by rw [z] at c3; cases c3), by rw [c4]; exact (hE 0 (fun _ => .int 0)).2⟩
    refine vk_copyt (f := f) (b0 := a0) (n0 := n0) C.1 C.2.1 (C.2.2.1.trans hl.1.symm) C.2.2.2.1 (hts _ hlink) (hts _ hnat) (hts _ hstat) (hts _ hini) hK hP hD hW.2 ⟨_, hs, hof, c2, c5, c6, fun j hj => ?_, Nat.not_le.mpr hro⟩ q1 6 he rfl h1 h2 h3 h4 h5 hfit hf hlo d (fun H1 locs1 hP1 hD1 hS1 => kk _ hh H1 locs1 ls ⟨hup H1 (.inl (6, n1, .inl _)) rfl (m_below hb0 hW hS1) hP1 hD1, hS1⟩ hl)
    rw [c7 j hj]
    show (arrV _ _ _).slots[_]? = _
    rw [arrV_read _ _ hj]
theorem m_raA {t : FieldType} {cA cB : ClassId} (h1 : va_RA s cA (.array t)) (h2 : va_RA s cB (.array t)) : cA = cB := Option.some.inj (Eq.trans (Eq.symm h1) h2)
theorem q_mna (C : m_C p s m args c cc nL own Ts G b0) {nn kq : Int32} {N K index : Nat} {κ : Nat → mM → Prop} (h : m_mna M nn kq N K κ) (hcl : Cond.classLink own index "[[I" ∈ Ts) (hai : Cond.arrayClass .int ∈ Ts) (tb : Nat) (hov : tables_1[tb]? = some (Cond.arrayOver (.array .int))) (hB : N ≤ 65536) (hB2 : K ≤ 65536) (hcells : k + (1 + N) ≤ R.cells) (hslots : n + (N + N * K) ≤ R.slots) (d : decode cc pc = .ok (.multianewarray index 2, 4))
    (kk : ∀ q M', κ q M' → m_W p l e R s m args below meth c G b0 Q nL M' (k + 1 + N) (n + N + N * K) (pc + 4) lv (va_rf (some q) :: st)) : m_W p l e R s m args below meth c G b0 Q nL M k n pc lv (.int kq :: .int nn :: st) := by
  obtain ⟨hn, hk, hN, hK9, hh⟩ := h
  intro H locs ls hW hl
  have hts := C.2.2.2.2.1
  have hK := C.2.2.2.2.2.1
  have hb0 := C.2.2.2.2.2.2.2
  have hover : va_AOA .int s := C.2.2.2.2.2.2.1.1 _ (List.mem_of_getElem? hov) rfl
  obtain ⟨ws, hP, hD, hup⟩ := m_pushL hW.1
  have e0 : ws ++ va_pl [] (fun _ => .inr (0, [])) = ws := List.append_nil ws
  refine va_mna (X := ws) (L := []) (f := fun _ => .inr (0, [])) (cy := G.2.1 0) (z := (K, .inl (fun _ => 0))) C.1 C.2.1 C.2.2.2.1 (hts _ hcl) hover (hts _ hai) (hK.2 0 _ rfl).2 hK (by rw [e0]; exact hP) (by rw [e0]; exact hD) hW.2 (fun q h9 => Nat.le_trans hb0 h9) hn hk hN hK9 (by omega) (by show K * 4 ≤ _; omega) (by omega) rfl rfl hcells hslots (fun c9 => ?_) d (fun q r cA H1 hi hL hK1 hP1 hD1 hS1 => ?_)
  · rw [vp_cell_i, ← arrV_new]
    rfl
  · have hA : cA = G.2.1 5 := m_raA ((hK1.2 (m_tys G).length _ (by rw [List.getElem?_append_right (Nat.le_refl _), Nat.sub_self]; rfl)).2) (hK.2 5 _ rfl).2
    subst hA
    have hl9 : (ws ++ [(q, (.inl (G.2.1 5, N, .inr (.inr (.inr (.inr (fun i => if i < N then some (r i) else none))))) : va_E))]) ++ va_pl ([] ++ (List.range N).map r) (vr_up (fun _ => .inr (0, [])) ((List.range N).map r) (.inl (G.2.1 0, (K, .inl (fun _ => 0))))) = ws ++ (m_rows q N K r).map (fun x => (x.1, m_tr G x.2)) := by
      rw [List.append_assoc]
      congr 1
      show _ :: _ = _ :: _
      congr 1
      unfold va_pl
      rw [List.nil_append, List.map_map, List.map_map]
      refine List.map_congr_left (fun i hi9 => ?_)
      show (r i, vr_up _ _ _ (r i)) = _
      rw [vr_up_in (List.mem_map.mpr ⟨i, hi9, rfl⟩)]
      rfl
    rw [hl9] at hP1 hD1
    obtain ⟨u1, u3⟩ := hup H1 _ (fun x hx => by
      rcases List.mem_cons.mp hx with rfl | hx
      · rfl
      · obtain ⟨i, -, rfl⟩ := List.mem_map.mp hx
        rfl) (m_below hb0 hW hS1) hP1 hD1
    refine kk q _ (hh q r u1 hi (fun i hi9 hq9 => ?_)) H1 locs ls ⟨u3, hS1⟩ hl
    have z0 : (ws ++ (m_rows q N K r).map (fun x => (x.1, m_tr G x.2)))[ws.length + 0]? = some (q, m_tr G (.inl (5, N, .inr (.inr (.inr (.inr (fun i => if i < N then some (r i) else none))))))) := by
      rw [List.getElem?_append_right (Nat.le_add_right _ _), Nat.add_sub_cancel_left]; rfl
    have z1 : (ws ++ (m_rows q N K r).map (fun x => (x.1, m_tr G x.2)))[ws.length + (i + 1)]? = some (r i, m_tr G (.inl (0, K, .inl (fun _ => 0)))) := by
      rw [List.getElem?_append_right (Nat.le_add_right _ _), Nat.add_sub_cancel_left]
      unfold m_rows
      rw [List.map_cons, List.getElem?_cons_succ, List.map_map, List.getElem?_map, List.getElem?_range hi9]
      rfl
    have := hD1.1 _ _ _ _ z0 z1 hq9.symm
    omega
theorem q_cloneB (C : m_C p s m args c cc nL own Ts G b0) {r : Option Nat} {B index : Nat} {κ : Nat → mM → Prop} (h : m_cloneB M r B κ) (hlink : Cond.methodLink own index ⟨"[B", "clone", "()Ljava/lang/Object;"⟩ ∈ Ts) (hsame : Cond.sameMethod "[B" "java/lang/Object" "clone" "()Ljava/lang/Object;" ∈ Ts) (hnat : Cond.native ⟨"java/lang/Object", "clone", "()Ljava/lang/Object;"⟩ ∈ Ts) (hinst : Cond.instanceMethod ⟨"java/lang/Object", "clone", "()Ljava/lang/Object;"⟩ ∈ Ts) (hsel : Cond.selects "[B" ⟨"[B", "clone", "()Ljava/lang/Object;"⟩ ⟨"java/lang/Object", "clone", "()Ljava/lang/Object;"⟩ ∈ Ts) (tb : Nat) (hca : tables_1[tb]? = some (Cond.castable "[B" "java/lang/Cloneable")) (hf : 1 ≤ R.frames) (hlo : (st.map fun v => v.category).sum + 14 ≤ R.locals) (hcells : k + 1 ≤ R.cells) (hslots : n + B ≤ R.slots) (d : decode cc pc = .ok (.invokevirtual index, 3))
    (kk : ∀ q M', κ q M' → m_W p l e R s m args below meth c G b0 Q nL M' (k + 1) (n + B) (pc + 3) lv (va_rf (some q) :: st)) : m_W p l e R s m args below meth c G b0 Q nL M k n pc lv (va_rf r :: st) := by
  obtain ⟨a, N, f, rfl, hM, hB, hfit, hh⟩ := h
  intro H locs ls hW hl
  have hts := C.2.2.2.2.1
  have hK := C.2.2.2.2.2.1
  have hb0 := C.2.2.2.2.2.2.2
  obtain ⟨ws, q0, hP, hD, he, hrest⟩ : ∃ (ws : va_W) (q0 : Nat), va_P G.1 m_cl ws H ∧ va_D (fun q => b0 ≤ q) ws ∧ ws[q0]? = some (a, (.inl (G.2.1 6, N, .inl f) : va_E)) ∧ ∀ (H1 : Heap) (a9 : Nat) (e1 : mCe), m_ro e1 = false → (∀ q, q < b0 → H1[q]? = H[q]?) → va_P G.1 m_cl (ws ++ [(a9, m_tr G e1)]) H1 → va_D (fun q => b0 ≤ q) (ws ++ [(a9, m_tr G e1)]) → M a9 = none ∧ m_H G b0 (m_up M a9 e1) H1 := m_pushAt hW.1 hM rfl
  refine va_clone C.1 C.2.1 (C.2.2.1.trans hl.1.symm) C.2.2.2.1 (hts _ hlink) (hts _ hsame) (hts _ hnat) (hts _ hinst) (hts _ hsel) (C.2.2.2.2.2.2.1.1 _ (List.mem_of_getElem? hca) rfl) hK hP hD hW.2 (fun q h9 => Nat.le_trans hb0 h9) q0 6 (ty := .byte) he rfl (hK.2 6 _ rfl).2 (fun i v hv => ?_) hf hlo hcells (by show n + N ≤ _; omega) d (fun q H1 hK1 hP1 hD1 hS1 => ?_)
  · by_cases hi : i < N
    · rw [show (vp_cell (G.2.1 6) (N, .inl f)).slots[i]? = _ from arrV_read _ _ hi] at hv
      cases hv
      exact hfit i hi
    · rw [Array.getElem?_eq_none (by show (arrV _ _ _).slots.size ≤ _; rw [arrV_size]; omega)] at hv
      cases hv
  · obtain ⟨u1, u3⟩ := hrest H1 q (.inl (6, N, .inl f)) rfl (m_below hb0 hW hS1) hP1 hD1
    exact W.widen (Nat.le_refl _) (by show n + N ≤ _; omega) (kk q _ (hh q u1) H1 locs ls ⟨u3, hS1⟩ hl)
/-- a cast of a row of bytes to itself -/
theorem q_castB (C : m_C p s m args c cc nL own Ts G b0) {r : Option Nat} {index : Nat} {κ : Prop} (h : (∃ a x, r = some a ∧ M a = some (.inl (6, x))) ∧ κ) (hlink : Cond.classLink own index "[B" ∈ Ts) (d : decode cc pc = .ok (.checkcast index, 3)) (kk : κ → m_W p l e R s m args below meth c G b0 Q nL M k n (pc + 3) lv (va_rf r :: st)) : m_W p l e R s m args below meth c G b0 Q nL M k n pc lv (va_rf r :: st) := by
  obtain ⟨⟨a, x, rfl, hM⟩, hh⟩ := h
  intro H locs ls hW hl
  obtain ⟨ws, q0, hP, he⟩ := m_rd hW.1 hM rfl
  have hcell : H[a]? = some (vp_cell (G.2.1 6) x) := hP q0 _ he
  refine va_castE C.1 C.2.1 C.2.2.2.1 (C.2.2.2.2.1 _ hlink) ⟨_, hcell, ?_, ?_⟩ d (kk hh H locs ls hW hl)
  · obtain ⟨n9, f | f | f | f | f⟩ := x <;> rfl
  · rw [show (vp_cell (G.2.1 6) x).cls = G.2.1 6 by obtain ⟨n9, f | f | f | f | f⟩ := x <;> rfl]
    exact (C.2.2.2.2.2.1.2 6 _ rfl).2
end MBYTE
