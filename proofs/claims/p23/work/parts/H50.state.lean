/-! THE PURE SIDE, 1: a state by kinds and places; what the memory holds of it; one step of reading or writing -/
/-- addresses by kind and place; how many there are of a kind -/
abbrev mY : Type := (Nat → Nat → Nat) × (Nat → Nat)
/-- int fields, long fields, references that may be null (the place), references that are not, lists, the lists' arrays, arrays' lengths, their ints, their references -/
abbrev mS : Type := (Nat → Nat → Nat → Int32) × (Nat → Nat → Nat → Int64) × (Nat → Nat → Nat → Option Nat) × (Nat → Nat → Nat → Nat) × (Nat → Nat → List Nat) × (Nat → Nat → Nat) × (Nat → Nat → Nat) × (Nat → Nat → Nat → Int32) × (Nat → Nat → Nat → Option Nat)
def yA (Y : mY) : Nat → Nat → Nat := Y.1
def yn (Y : mY) : Nat → Nat := Y.2
def sI (S : mS) : Nat → Nat → Nat → Int32 := S.1
def sJ (S : mS) : Nat → Nat → Nat → Int64 := S.2.1
def sX (S : mS) : Nat → Nat → Nat → Option Nat := S.2.2.1
def sN (S : mS) : Nat → Nat → Nat → Nat := S.2.2.2.1
def sL (S : mS) : Nat → Nat → List Nat := S.2.2.2.2.1
def se (S : mS) : Nat → Nat → Nat := S.2.2.2.2.2.1
def sC (S : mS) : Nat → Nat → Nat := S.2.2.2.2.2.2.1
def sE (S : mS) : Nat → Nat → Nat → Int32 := S.2.2.2.2.2.2.2.1
def sP (S : mS) : Nat → Nat → Nat → Option Nat := S.2.2.2.2.2.2.2.2
def uI (S : mS) (k i f : Nat) (v : Int32) : mS := (fun k' i' f' => if k' = k ∧ i' = i ∧ f' = f then v else sI S k' i' f', S.2)
def uJ (S : mS) (k i f : Nat) (v : Int64) : mS := (S.1, fun k' i' f' => if k' = k ∧ i' = i ∧ f' = f then v else sJ S k' i' f', S.2.2)
def uX (S : mS) (k i f : Nat) (v : Option Nat) : mS := (S.1, S.2.1, fun k' i' f' => if k' = k ∧ i' = i ∧ f' = f then v else sX S k' i' f', S.2.2.2)
def uN (S : mS) (k i f : Nat) (v : Nat) : mS := (S.1, S.2.1, S.2.2.1, fun k' i' f' => if k' = k ∧ i' = i ∧ f' = f then v else sN S k' i' f', S.2.2.2.2)
def uL (S : mS) (k i : Nat) (md : Int32) (e : Nat) (xs : List Nat) : mS := (fun k' i' f' => if k' = k ∧ i' = i ∧ f' = 0 then md else sI S k' i' f', S.2.1, S.2.2.1, S.2.2.2.1, fun k' i' => if k' = k ∧ i' = i then xs else sL S k' i', fun k' i' => if k' = k ∧ i' = i then e else se S k' i', S.2.2.2.2.2.2)
def uE (S : mS) (k i j : Nat) (v : Int32) : mS := (S.1, S.2.1, S.2.2.1, S.2.2.2.1, S.2.2.2.2.1, S.2.2.2.2.2.1, S.2.2.2.2.2.2.1, fun k' i' j' => if k' = k ∧ i' = i ∧ j' = j then v else sE S k' i' j', S.2.2.2.2.2.2.2.2)
/-- kinds: 0 the class's object, 1 its row of lands, 2 lands, 3 gates, 4 sleepers, 5 parts, 6 hidings, 7 row, 8 and 9 rows of ints, 10 and 11 verses, 12 its lists, 13 lines, 16 passes; 20 the reference, 21 its row of lands, 22 lands, 23 gates, 24 lists, 25 queues, 26 and 27 rows of booleans, 28 sleepers, 29 parts; 30 Integers, 31 the law's Out, 32 iterators, 38 rows of ints made anew, 33 the Integers' cache, 34 the empty row, 35 digits, 36 constant Strings, 37 their bytes -/
def m_cls (k : Nat) : Nat := match k with
  | 0 => 13 | 2 => 7 | 3 => 5 | 4 => 11 | 5 => 8 | 6 => 6 | 7 => 10 | 10 => 12 | 11 => 12 | 12 => 4 | 13 => 4 | 16 => 9 | 20 => 19 | 22 => 16 | 23 => 15 | 24 => 4 | 25 => 4 | 28 => 18 | 29 => 17 | 30 => 2 | 31 => 14 | 32 => 3 | 36 => 20 | _ => 99
/-- fields: 0 int, 1 long, 2 a reference to a kind, 3 one that may be null, 4 and 5 a list's array and length, 6 a fixed reference, 7 one to the same place of a kind, 8 an address -/
def m_fds (k : Nat) : List (Nat × Nat × Nat) := match k with
  | 0 => [(6,1,0),(6,12,0),(6,12,1),(6,12,2),(6,12,3),(6,7,0),(6,8,0),(6,9,9),(0,0,0),(0,0,0),(0,0,0)]
  | 2 => [(0,0,0),(0,0,0),(0,0,0),(0,0,0),(0,0,0),(0,0,0),(0,0,0)]
  | 3 => [(0,0,0),(2,2,0),(2,2,0),(0,0,0),(0,0,0),(7,13,0),(7,10,0),(7,11,0),(0,0,0),(0,0,0)]
  | 4 => [(0,0,0),(0,0,0),(2,2,0),(0,0,0),(0,0,0),(3,3,0),(0,0,0),(3,16,0),(0,0,0)]
  | 5 => [(0,0,0),(0,0,0),(0,0,0),(0,0,0),(0,0,0),(3,4,0),(3,2,0),(3,4,0)]
  | 6 => [(2,4,0),(0,0,0),(0,0,0)]
  | 7 => [(0,0,0),(0,0,0)]
  | 10 => [(1,0,0),(1,0,0)]
  | 11 => [(1,0,0),(1,0,0)]
  | 12 => [(0,0,0),(4,0,0),(5,0,0)]
  | 13 => [(0,0,0),(4,0,0),(5,0,0)]
  | 16 => [(2,3,0),(0,0,0),(0,0,0)]
  | 20 => [(0,0,0),(0,0,0),(0,0,0),(0,0,0),(0,0,0),(0,0,0),(6,21,0),(6,24,0),(6,24,1),(6,24,2),(6,24,3),(6,27,0),(1,0,0)]
  | 22 => [(0,0,0),(0,0,0),(0,0,0),(0,0,0),(0,0,0),(0,0,0)]
  | 23 => [(0,0,0),(0,0,0),(0,0,0),(0,0,0),(0,0,0),(0,0,0),(7,25,0),(7,26,0)]
  | 24 => [(0,0,0),(4,0,0),(5,0,0)]
  | 25 => [(0,0,0),(4,0,0),(5,0,0)]
  | 28 => [(0,0,0),(0,0,0),(0,0,0),(0,0,0),(0,0,0),(0,0,0),(0,0,0),(0,0,0),(0,0,0)]
  | 29 => [(0,0,0),(0,0,0),(0,0,0),(0,0,0),(0,0,0),(0,0,0)]
  | 30 => [(0,0,0)]
  | 31 => [(1,0,0),(8,0,0)]
  | 32 => [(0,0,0),(0,0,0),(0,0,0),(8,0,0)]
  | 36 => [(7,37,0),(0,0,0),(0,0,0),(0,0,0)]
  | _ => []
/-- an array's kind; 99: no array -/
def m_ak (k : Nat) : Nat := match k with
  | 1 => 3 | 8 => 5 | 9 => 0 | 21 => 4 | 26 => 1 | 27 => 1 | 33 => 8 | 34 => 7 | 35 => 9 | 37 => 9 | 38 => 0 | _ => 99
def m_ra (k : Nat) : Bool := k == 1 || k == 8 || k == 21 || k == 33 || k == 34
abbrev mRf (f : Nat → Option Nat) : (Nat → Int32) ⊕ (Nat → Int64) ⊕ (Nat → UInt32) ⊕ (Nat → UInt64) ⊕ (Nat → Option Nat) := .inr (.inr (.inr (.inr f)))
def m_fv (Y : mY) (S : mS) (k i f : Nat) (t : Nat × Nat × Nat) : Value := match t.1 with
  | 0 => .int (sI S k i f)
  | 1 => .long (sJ S k i f)
  | 2 => va_rf (some (yA Y t.2.1 (sN S k i f)))
  | 3 => va_rf ((sX S k i f).map (yA Y t.2.1))
  | 4 => va_rf (some (se S k i))
  | 5 => .int (nI (sL S k i).length)
  | 6 => va_rf (some (yA Y t.2.1 t.2.2))
  | 7 => va_rf (some (yA Y t.2.1 i))
  | _ => va_rf (sX S k i f)
def m_cell (Y : mY) (S : mS) (k i : Nat) : mCe :=
  if m_ak k = 99 then .inr (m_cls k, (m_fds k).mapIdx (fun f t => m_fv Y S k i f t))
  else if m_ra k = true then .inl (m_ak k, sC S k i, mRf (sP S k i))
  else .inl (m_ak k, sC S k i, .inl (sE S k i))
def mLk (k : Nat) : Bool := k == 12 || k == 13 || k == 24 || k == 25
/-- the kind of a list's elements -/
def m_ek (k i : Nat) : Nat := match k with
  | 12 => (match i with | 0 => 3 | 1 => 4 | 2 => 5 | _ => 6)
  | 13 => 4
  | 24 => (match i with | 0 => 23 | 1 => 28 | 2 => 29 | _ => 30)
  | _ => 30
/-- the lengths that a list's array grows through -/
def m_chn : List Nat := [10, 15, 22, 33, 49, 73, 109, 163]
def m_La (Y : mY) (S : mS) (M : mM) (k i : Nat) : Prop := (se S k i = yA Y 34 0 ∧ sL S k i = []) ∨ ∃ (N : Nat) (f : Nat → Option Nat), M (se S k i) = some (.inl (2, N, mRf f)) ∧ N ∈ m_chn ∧ (sL S k i).length ≤ N ∧ ∀ (j x : Nat), (sL S k i)[j]? = some x → f j = some (yA Y (m_ek k i) x)
def m_lv (Y : mY) (S : mS) (k i f : Nat) (t : Nat × Nat × Nat) : Prop := (t.1 = 2 → sN S k i f < yn Y t.2.1) ∧ (t.1 = 3 → ∀ j, sX S k i f = some j → j < yn Y t.2.1) ∧ (t.1 = 6 → t.2.2 < yn Y t.2.1) ∧ (t.1 = 7 → i < yn Y t.2.1)
def mR (g : Nat → Nat) (Y : mY) (S : mS) (M : mM) : Prop :=
  (∀ k i, i < yn Y k → M (yA Y k i) = some (m_cell Y S k i)) ∧
  (∀ k i k' i', i < yn Y k → i' < yn Y k' → yA Y k i = yA Y k' i' → k = k' ∧ i = i') ∧
  (∀ k i, mLk k = true → i < yn Y k → m_La Y S M k i) ∧
  (∀ k i k' i', mLk k = true → i < yn Y k → mLk k' = true → i' < yn Y k' → se S k i = se S k' i' → se S k i ≠ yA Y 34 0 → k = k' ∧ i = i') ∧
  (∀ k i, mLk k = true → i < yn Y k → ∀ x ∈ sL S k i, x < yn Y (m_ek k i)) ∧
  (∀ k i f t, i < yn Y k → (m_fds k)[f]? = some t → m_lv Y S k i f t) ∧
  (yn Y 34 = 1 ∧ yA Y 34 0 = g 0 ∧ yn Y 33 = 1 ∧ yA Y 33 0 = g 1 ∧ sC S 34 0 = 0)
theorem m_cellO {Y : mY} {S : mS} {k i : Nat} (hk : m_ak k = 99) : m_cell Y S k i = .inr (m_cls k, (m_fds k).mapIdx (fun f t => m_fv Y S k i f t)) := if_pos hk
theorem m_ak2 : ∀ k, m_ak k ≠ 2 := by
  intro k
  unfold m_ak
  split <;> decide
theorem m_cell_na (Y : mY) (S : mS) (k i : Nat) (v : vp_A) : m_cell Y S k i ≠ .inl (2, v) := by
  intro h
  unfold m_cell at h
  split at h
  · cases h
  · split at h
    · exact m_ak2 k (congrArg Prod.fst (Sum.inl.inj h))
    · exact m_ak2 k (congrArg Prod.fst (Sum.inl.inj h))
theorem m_fv_cg {Y : mY} {S S' : mS} {k i f : Nat} {t : Nat × Nat × Nat} (a : sI S' k i f = sI S k i f) (b : sJ S' k i f = sJ S k i f) (c : sX S' k i f = sX S k i f) (d : sN S' k i f = sN S k i f) (e : se S' k i = se S k i) (l : sL S' k i = sL S k i) : m_fv Y S' k i f t = m_fv Y S k i f t := by
  unfold m_fv
  rw [a, b, c, d, e, l]
theorem m_cell_cg {Y : mY} {S S' : mS} {k i : Nat} (h : ∀ f t, m_fv Y S' k i f t = m_fv Y S k i f t) (hC : sC S' k i = sC S k i) (hE : sE S' k i = sE S k i) (hP : sP S' k i = sP S k i) : m_cell Y S' k i = m_cell Y S k i := by
  have e : (fun f t => m_fv Y S' k i f t) = (fun f t => m_fv Y S k i f t) := funext fun f => funext fun t => h f t
  unfold m_cell
  rw [hC, hE, hP, e]
theorem m_cell_set {Y : mY} {S S' : mS} {k i f : Nat} {t : Nat × Nat × Nat} {v : Value} (h1 : m_ak k = 99) (h3 : (m_fds k)[f]? = some t) (hv : m_fv Y S' k i f t = v) (ho : ∀ f' t', f' ≠ f → m_fv Y S' k i f' t' = m_fv Y S k i f' t') : m_cell Y S' k i = .inr (m_cls k, ((m_fds k).mapIdx (fun f t => m_fv Y S k i f t)).set f v) := by
  rw [m_cellO h1]
  refine congrArg Sum.inr (congrArg (Prod.mk (m_cls k)) (List.ext_getElem? fun j => ?_))
  have hl : f < ((m_fds k).mapIdx (fun f t => m_fv Y S k i f t)).length := by
    rw [List.length_mapIdx]
    exact (List.getElem?_eq_some_iff.mp h3).1
  by_cases hj : f = j
  · subst hj
    rw [List.getElem?_set_self hl, List.getElem?_mapIdx, h3]
    exact congrArg some hv
  · rw [List.getElem?_set_ne hj, List.getElem?_mapIdx, List.getElem?_mapIdx]
    cases (m_fds k)[j]? with
    | none => rfl
    | some t' => exact congrArg some (ho j t' (fun z => hj z.symm))
theorem mLk_c {k : Nat} (h : mLk k = true) : k = 12 ∨ k = 13 ∨ k = 24 ∨ k = 25 := by
  simp only [mLk, Bool.or_eq_true, beq_iff_eq] at h
  omega
section PURE1
variable {g : Nat → Nat} {Y : mY} {S : mS} {M : mM}

theorem mR.at (H : mR g Y S M) {k i : Nat} (hi : i < yn Y k) (hk : m_ak k = 99) : M (yA Y k i) = some (.inr (m_cls k, (m_fds k).mapIdx (fun f t => m_fv Y S k i f t))) := (H.1 k i hi).trans (congrArg some (m_cellO hk))
theorem mR.hdr (H : mR g Y S M) {k i : Nat} (hk : mLk k = true) (hi : i < yn Y k) : M (yA Y k i) = some (.inr (4, [.int (sI S k i 0), .ref (se S k i), .int (nI (sL S k i).length)])) := by
  have h := H.1 k i hi
  rw [h]
  rcases mLk_c hk with rfl | rfl | rfl | rfl <;> rfl
theorem mR.ne (H : mR g Y S M) {k i k' i' : Nat} (h : i < yn Y k) (h' : i' < yn Y k') (hn : ¬ (k' = k ∧ i' = i)) : yA Y k' i' ≠ yA Y k i := fun z => hn (H.2.1 k' i' k i h' h z)
theorem mR.ine (H : mR g Y S M) {k i i' : Nat} (h : i < yn Y k) (h' : i' < yn Y k) (hn : i' ≠ i) : yA Y k i' ≠ yA Y k i := H.ne h h' (fun z => hn z.2)
theorem mR.inj (H : mR g Y S M) {k i i' : Nat} (h : i < yn Y k) (h' : i' < yn Y k) : yA Y k i' = yA Y k i ↔ i' = i := ⟨fun z => (H.2.1 k i' k i h' h z).2, fun z => by rw [z]⟩
theorem mR.sinj (H : mR g Y S M) {k i i' : Nat} (h : i < yn Y k) (h' : i' < yn Y k) : (some (yA Y k i') = some (yA Y k i)) ↔ i' = i := ⟨fun z => (H.inj h h').mp (Option.some.inj z), fun z => by rw [z]⟩
theorem mR.minj (H : mR g Y S M) {k i : Nat} {o : Option Nat} (h : i < yn Y k) (h' : ∀ j, o = some j → j < yn Y k) : (o.map (yA Y k) = some (yA Y k i)) ↔ o = some i := by
  cases o with
  | none => exact ⟨fun z => (by cases z), fun z => (by cases z)⟩
  | some j => exact ⟨fun z => congrArg some ((H.sinj h (h' j rfl)).mp z), fun z => by rw [z]; rfl⟩
/-- a cell is written -/
theorem mR.put (H : mR g Y S M) {k i : Nat} (hi : i < yn Y k) (S' : mS) (hL : sL S' = sL S) (he : se S' = se S) (hc : sC S' = sC S) (hot : ∀ k' i', ¬ (k' = k ∧ i' = i) → m_cell Y S' k' i' = m_cell Y S k' i') (hlv : ∀ k i f t, i < yn Y k → (m_fds k)[f]? = some t → m_lv Y S' k i f t) {e : mCe} (hce : m_cell Y S' k i = e) : mR g Y S' (m_up M (yA Y k i) e) := by
  obtain ⟨h1, h2, h3, h4, h5, h6, h7⟩ := H
  refine ⟨fun k' i' hi' => ?_, h2, fun k' i' hk' hi' => ?_, by rw [he]; exact h4, by rw [hL]; exact h5, hlv, by rw [hc]; exact h7⟩
  · by_cases z : k' = k ∧ i' = i
    · obtain ⟨rfl, rfl⟩ := z
      rw [m_up_s, hce]
    · rw [m_up_n (fun w => z (h2 k' i' k i hi' hi w)), h1 k' i' hi', hot k' i' z]
  · have h := h3 k' i' hk' hi'
    unfold m_La at h ⊢
    rw [he, hL]
    rcases h with h | ⟨N, f, a1, a2⟩
    · exact Or.inl h
    · refine Or.inr ⟨N, f, ?_, a2⟩
      rw [m_up_n (fun w => ?_)]
      · exact a1
      · rw [w, h1 k i hi] at a1
        exact m_cell_na _ _ _ _ _ (Option.some.inj a1)
/-- reading a field -/
theorem s_gI (H : mR g Y S M) {k i f ci : Nat} (hi : i < yn Y k) (h1 : m_ak k = 99) (h2 : m_cls k = ci) (h3 : (m_fds k)[f]? = some (0, 0, 0)) {κ : Int32 → Prop} (h : κ (sI S k i f)) : m_gI M (some (yA Y k i)) ci f κ := by
  subst h2
  refine ⟨_, _, _, rfl, H.at hi h1, ?_, h⟩
  rw [List.getElem?_mapIdx, h3]
  rfl
theorem s_gJ (H : mR g Y S M) {k i f ci : Nat} (hi : i < yn Y k) (h1 : m_ak k = 99) (h2 : m_cls k = ci) (h3 : (m_fds k)[f]? = some (1, 0, 0)) {κ : Int64 → Prop} (h : κ (sJ S k i f)) : m_gJ M (some (yA Y k i)) ci f κ := by
  subst h2
  refine ⟨_, _, _, rfl, H.at hi h1, ?_, h⟩
  rw [List.getElem?_mapIdx, h3]
  rfl
theorem s_gR2 (H : mR g Y S M) {k i f ci kt : Nat} (hi : i < yn Y k) (h1 : m_ak k = 99) (h2 : m_cls k = ci) (h3 : (m_fds k)[f]? = some (2, kt, 0)) {κ : Option Nat → Prop} (h : κ (some (yA Y kt (sN S k i f)))) : m_gR M (some (yA Y k i)) ci f κ := by
  subst h2
  refine ⟨_, _, _, rfl, H.at hi h1, ?_, h⟩
  rw [List.getElem?_mapIdx, h3]
  rfl
theorem s_gR3 (H : mR g Y S M) {k i f ci kt : Nat} (hi : i < yn Y k) (h1 : m_ak k = 99) (h2 : m_cls k = ci) (h3 : (m_fds k)[f]? = some (3, kt, 0)) {κ : Option Nat → Prop} (h : κ ((sX S k i f).map (yA Y kt))) : m_gR M (some (yA Y k i)) ci f κ := by
  subst h2
  refine ⟨_, _, _, rfl, H.at hi h1, ?_, h⟩
  rw [List.getElem?_mapIdx, h3]
  rfl
theorem s_gR6 (H : mR g Y S M) {k i f ci kt j : Nat} (hi : i < yn Y k) (h1 : m_ak k = 99) (h2 : m_cls k = ci) (h3 : (m_fds k)[f]? = some (6, kt, j)) {κ : Option Nat → Prop} (h : κ (some (yA Y kt j))) : m_gR M (some (yA Y k i)) ci f κ := by
  subst h2
  refine ⟨_, _, _, rfl, H.at hi h1, ?_, h⟩
  rw [List.getElem?_mapIdx, h3]
  rfl
theorem s_gR7 (H : mR g Y S M) {k i f ci kt : Nat} (hi : i < yn Y k) (h1 : m_ak k = 99) (h2 : m_cls k = ci) (h3 : (m_fds k)[f]? = some (7, kt, 0)) {κ : Option Nat → Prop} (h : κ (some (yA Y kt i))) : m_gR M (some (yA Y k i)) ci f κ := by
  subst h2
  refine ⟨_, _, _, rfl, H.at hi h1, ?_, h⟩
  rw [List.getElem?_mapIdx, h3]
  rfl
theorem s_rc (H : mR g Y S M) {k i ci : Nat} (hi : i < yn Y k) (h1 : m_ak k = 99) (h2 : m_cls k = ci) {κ : Nat → Prop} (h : κ (yA Y k i)) : m_rc M (some (yA Y k i)) ci κ := by
  subst h2
  exact ⟨_, _, rfl, H.at hi h1, h⟩
theorem s_cast (H : mR g Y S M) {k i ci : Nat} (hi : i < yn Y k) (h1 : m_ak k = 99) (h2 : m_cls k = ci) {κ : Prop} (h : κ) : m_cast M (some (yA Y k i)) ci κ := by
  subst h2
  exact ⟨Or.inr ⟨_, _, rfl, H.at hi h1⟩, h⟩
/-- liveness -/
theorem mR.lN (H : mR g Y S M) {k i f kt : Nat} (hi : i < yn Y k) (h3 : (m_fds k)[f]? = some (2, kt, 0)) : sN S k i f < yn Y kt := (H.2.2.2.2.2.1 k i f _ hi h3).1 rfl
theorem mR.lX (H : mR g Y S M) {k i f kt : Nat} (hi : i < yn Y k) (h3 : (m_fds k)[f]? = some (3, kt, 0)) : ∀ j, sX S k i f = some j → j < yn Y kt := (H.2.2.2.2.2.1 k i f _ hi h3).2.1 rfl
theorem mR.l6 (H : mR g Y S M) {k i f kt j : Nat} (hi : i < yn Y k) (h3 : (m_fds k)[f]? = some (6, kt, j)) : j < yn Y kt := (H.2.2.2.2.2.1 k i f _ hi h3).2.2.1 rfl
theorem mR.l7 (H : mR g Y S M) {k i f kt : Nat} (hi : i < yn Y k) (h3 : (m_fds k)[f]? = some (7, kt, 0)) : i < yn Y kt := (H.2.2.2.2.2.1 k i f _ hi h3).2.2.2 rfl
theorem mR.lL (H : mR g Y S M) {k i j x : Nat} (hk : mLk k = true) (hi : i < yn Y k) (hx : (sL S k i)[j]? = some x) : x < yn Y (m_ek k i) := H.2.2.2.2.1 k i hk hi x (List.mem_of_getElem? hx)
/-- writing a field -/
theorem s_pI (H : mR g Y S M) {k i f ci : Nat} (hi : i < yn Y k) (h1 : m_ak k = 99) (h2 : m_cls k = ci) (h3 : (m_fds k)[f]? = some (0, 0, 0)) {v : Int32} {κ : mM → Prop} (h : ∀ M', mR g Y (uI S k i f v) M' → κ M') : m_p M (some (yA Y k i)) ci f (.int v) κ := by
  subst h2
  refine ⟨_, _, rfl, H.at hi h1, ?_, ?_⟩
  · rw [List.length_mapIdx]
    exact (List.getElem?_eq_some_iff.mp h3).1
  · refine h _ (H.put hi (uI S k i f v) rfl rfl rfl (fun k' i' z => m_cell_cg (fun f' t => m_fv_cg (if_neg (fun w => z ⟨w.1, w.2.1⟩)) rfl rfl rfl rfl rfl) rfl rfl rfl) H.2.2.2.2.2.1 (m_cell_set h1 h3 ?_ (fun f' t' hf => m_fv_cg (if_neg (fun w => hf w.2.2)) rfl rfl rfl rfl rfl)))
    exact congrArg Value.int (if_pos ⟨rfl, rfl, rfl⟩)
theorem s_pJ (H : mR g Y S M) {k i f ci : Nat} (hi : i < yn Y k) (h1 : m_ak k = 99) (h2 : m_cls k = ci) (h3 : (m_fds k)[f]? = some (1, 0, 0)) {v : Int64} {κ : mM → Prop} (h : ∀ M', mR g Y (uJ S k i f v) M' → κ M') : m_p M (some (yA Y k i)) ci f (.long v) κ := by
  subst h2
  refine ⟨_, _, rfl, H.at hi h1, ?_, ?_⟩
  · rw [List.length_mapIdx]
    exact (List.getElem?_eq_some_iff.mp h3).1
  · refine h _ (H.put hi (uJ S k i f v) rfl rfl rfl (fun k' i' z => m_cell_cg (fun f' t => m_fv_cg rfl (if_neg (fun w => z ⟨w.1, w.2.1⟩)) rfl rfl rfl rfl) rfl rfl rfl) H.2.2.2.2.2.1 (m_cell_set h1 h3 ?_ (fun f' t' hf => m_fv_cg rfl (if_neg (fun w => hf w.2.2)) rfl rfl rfl rfl)))
    exact congrArg Value.long (if_pos ⟨rfl, rfl, rfl⟩)
theorem s_pX (H : mR g Y S M) {k i f ci kt : Nat} (hi : i < yn Y k) (h1 : m_ak k = 99) (h2 : m_cls k = ci) (h3 : (m_fds k)[f]? = some (3, kt, 0)) (v : Option Nat) (hv : ∀ j, v = some j → j < yn Y kt) {κ : mM → Prop} (h : ∀ M', mR g Y (uX S k i f v) M' → κ M') : m_p M (some (yA Y k i)) ci f (va_rf (v.map (yA Y kt))) κ := by
  subst h2
  refine ⟨_, _, rfl, H.at hi h1, ?_, ?_⟩
  · rw [List.length_mapIdx]
    exact (List.getElem?_eq_some_iff.mp h3).1
  · refine h _ (H.put hi (uX S k i f v) rfl rfl rfl (fun k' i' z => m_cell_cg (fun f' t => m_fv_cg rfl rfl (if_neg (fun w => z ⟨w.1, w.2.1⟩)) rfl rfl rfl) rfl rfl rfl) (fun k' i' f' t hi' ht => ?_) (m_cell_set h1 h3 ?_ (fun f' t' hf => m_fv_cg rfl rfl (if_neg (fun w => hf w.2.2)) rfl rfl rfl)))
    · obtain ⟨q1, q2, q3⟩ := H.2.2.2.2.2.1 k' i' f' t hi' ht
      refine ⟨q1, fun ht3 j hj => ?_, q3⟩
      by_cases z : k' = k ∧ i' = i ∧ f' = f
      · obtain ⟨rfl, rfl, rfl⟩ := z
        have ej : v = some j := (if_pos (⟨rfl, rfl, rfl⟩ : k' = k' ∧ i' = i' ∧ f' = f')).symm.trans hj
        have et := Option.some.inj (ht.symm.trans h3)
        rw [et]
        exact hv j ej
      · exact q2 ht3 j ((if_neg z).symm.trans hj)
    · exact congrArg (fun o => va_rf (Option.map (yA Y kt) o)) (if_pos ⟨rfl, rfl, rfl⟩)
theorem s_pX0 (H : mR g Y S M) {k i f ci kt : Nat} (hi : i < yn Y k) (h1 : m_ak k = 99) (h2 : m_cls k = ci) (h3 : (m_fds k)[f]? = some (3, kt, 0)) {κ : mM → Prop} (h : ∀ M', mR g Y (uX S k i f none) M' → κ M') : m_p M (some (yA Y k i)) ci f (va_rf none) κ := s_pX H hi h1 h2 h3 none (fun j hj => by cases hj) h
theorem s_pX1 (H : mR g Y S M) {k i f ci kt x : Nat} (hi : i < yn Y k) (h1 : m_ak k = 99) (h2 : m_cls k = ci) (h3 : (m_fds k)[f]? = some (3, kt, 0)) (hx : x < yn Y kt) {κ : mM → Prop} (h : ∀ M', mR g Y (uX S k i f (some x)) M' → κ M') : m_p M (some (yA Y k i)) ci f (va_rf (some (yA Y kt x))) κ := s_pX H hi h1 h2 h3 (some x) (fun j hj => by cases hj; exact hx) h
theorem s_pN (H : mR g Y S M) {k i f ci kt x : Nat} (hi : i < yn Y k) (h1 : m_ak k = 99) (h2 : m_cls k = ci) (h3 : (m_fds k)[f]? = some (2, kt, 0)) (hx : x < yn Y kt) {κ : mM → Prop} (h : ∀ M', mR g Y (uN S k i f x) M' → κ M') : m_p M (some (yA Y k i)) ci f (va_rf (some (yA Y kt x))) κ := by
  subst h2
  refine ⟨_, _, rfl, H.at hi h1, ?_, ?_⟩
  · rw [List.length_mapIdx]
    exact (List.getElem?_eq_some_iff.mp h3).1
  · refine h _ (H.put hi (uN S k i f x) rfl rfl rfl (fun k' i' z => m_cell_cg (fun f' t => m_fv_cg rfl rfl rfl (if_neg (fun w => z ⟨w.1, w.2.1⟩)) rfl rfl) rfl rfl rfl) (fun k' i' f' t hi' ht => ?_) (m_cell_set h1 h3 ?_ (fun f' t' hf => m_fv_cg rfl rfl rfl (if_neg (fun w => hf w.2.2)) rfl rfl)))
    · obtain ⟨q1, q2, q3⟩ := H.2.2.2.2.2.1 k' i' f' t hi' ht
      refine ⟨fun ht2 => ?_, q2, q3⟩
      by_cases z : k' = k ∧ i' = i ∧ f' = f
      · obtain ⟨rfl, rfl, rfl⟩ := z
        have et := Option.some.inj (ht.symm.trans h3)
        have ej : sN (uN S k' i' f' x) k' i' f' = x := if_pos ⟨rfl, rfl, rfl⟩
        rw [ej, et]
        exact hx
      · have ej : sN (uN S k i f x) k' i' f' = sN S k' i' f' := if_neg z
        rw [ej]
        exact q1 ht2
    · exact congrArg (fun o => va_rf (some (yA Y kt o))) (if_pos ⟨rfl, rfl, rfl⟩)
/-- arrays -/
theorem mR.ari (H : mR g Y S M) {k i : Nat} (hi : i < yn Y k) (h1 : m_ak k ≠ 99) (h2 : m_ra k = false) : M (yA Y k i) = some (.inl (m_ak k, sC S k i, .inl (sE S k i))) := (H.1 k i hi).trans (congrArg some ((if_neg h1).trans (if_neg (by rw [h2]; decide))))
theorem mR.arr (H : mR g Y S M) {k i : Nat} (hi : i < yn Y k) (h1 : m_ak k ≠ 99) (h2 : m_ra k = true) : M (yA Y k i) = some (.inl (m_ak k, sC S k i, mRf (sP S k i))) := (H.1 k i hi).trans (congrArg some ((if_neg h1).trans (if_pos h2)))
theorem s_ldI (H : mR g Y S M) {k i j ak : Nat} (hi : i < yn Y k) (h1 : m_ak k = ak) (h9 : m_ak k ≠ 99) (h2 : m_ra k = false) (hj : j < sC S k i) (hb : sC S k i < 2 ^ 31) {κ : Int32 → Prop} (h : κ (sE S k i j)) : m_ldI M (some (yA Y k i)) (nI j) ak κ := by
  subst h1
  refine ⟨_, _, _, rfl, H.ari hi h9 h2, vp_in_nI hj hb, ?_⟩
  rw [nI_clamp (Nat.lt_trans hj hb)]
  exact h
theorem s_ldR (H : mR g Y S M) {k i j ak : Nat} (hi : i < yn Y k) (h1 : m_ak k = ak) (h9 : m_ak k ≠ 99) (h2 : m_ra k = true) (hj : j < sC S k i) (hb : sC S k i < 2 ^ 31) {κ : Option Nat → Prop} (h : κ (sP S k i j)) : m_ldR M (some (yA Y k i)) (nI j) ak κ := by
  subst h1
  refine ⟨_, _, _, rfl, H.arr hi h9 h2, vp_in_nI hj hb, ?_⟩
  rw [nI_clamp (Nat.lt_trans hj hb)]
  exact h
theorem s_lenI (H : mR g Y S M) {k i : Nat} (hi : i < yn Y k) (h9 : m_ak k < 10) (h2 : m_ra k = false) {κ : Int32 → Prop} (h : κ (nI (sC S k i))) : m_len M (some (yA Y k i)) κ := ⟨_, _, _, rfl, H.ari hi (by omega) h2, h9, h⟩
theorem s_lenR (H : mR g Y S M) {k i : Nat} (hi : i < yn Y k) (h9 : m_ak k < 10) (h2 : m_ra k = true) {κ : Int32 → Prop} (h : κ (nI (sC S k i))) : m_len M (some (yA Y k i)) κ := ⟨_, _, _, rfl, H.arr hi (by omega) h2, h9, h⟩
theorem mR.putE (H : mR g Y S M) {k i : Nat} (hi : i < yn Y k) (h9 : m_ak k ≠ 99) (h2 : m_ra k = false) (j : Nat) (v : Int32) : mR g Y (uE S k i j v) (m_up M (yA Y k i) (.inl (m_ak k, sC S k i, .inl (upd (sE S k i) j v)))) := by
  refine H.put hi (uE S k i j v) rfl rfl rfl (fun k' i' z => m_cell_cg (fun f t => m_fv_cg rfl rfl rfl rfl rfl rfl) rfl ?_ rfl) H.2.2.2.2.2.1 ?_
  · funext j'
    exact if_neg (fun w => z ⟨w.1, w.2.1⟩)
  · refine ((if_neg h9).trans (if_neg (by rw [h2]; decide))).trans ?_
    refine congrArg (fun f => Sum.inl (m_ak k, sC S k i, Sum.inl f)) ?_
    funext j'
    show (if k = k ∧ i = i ∧ j' = j then v else sE S k i j') = if j' = j then v else sE S k i j'
    by_cases z : j' = j
    · rw [if_pos z, if_pos ⟨rfl, rfl, z⟩]
    · rw [if_neg z, if_neg (fun w => z w.2.2)]
theorem s_stI (H : mR g Y S M) {k i j : Nat} (hi : i < yn Y k) (h1 : m_ak k = 0) (h2 : m_ra k = false) (hj : j < sC S k i) (hb : sC S k i < 2 ^ 31) {v : Int32} {κ : mM → Prop} (h : ∀ M', mR g Y (uE S k i j v) M' → κ M') : m_stI M (some (yA Y k i)) (nI j) v κ := by
  have h9 : m_ak k ≠ 99 := by omega
  have hc := H.ari hi h9 h2
  have hp := H.putE hi h9 h2 j v
  rw [h1] at hc hp
  refine ⟨_, _, _, rfl, hc, vp_in_nI hj hb, ?_⟩
  rw [nI_clamp (Nat.lt_trans hj hb)]
  exact h _ hp
theorem s_stZ (H : mR g Y S M) {k i j : Nat} (hi : i < yn Y k) (h1 : m_ak k = 1) (h2 : m_ra k = false) (hj : j < sC S k i) (hb : sC S k i < 2 ^ 31) {v w : Int32} (hv : vp_nar .boolean v = w) {κ : mM → Prop} (h : ∀ M', mR g Y (uE S k i j w) M' → κ M') : m_stZ M (some (yA Y k i)) (nI j) v κ := by
  have h9 : m_ak k ≠ 99 := by omega
  have hc := H.ari hi h9 h2
  have hp := H.putE hi h9 h2 j w
  rw [h1] at hc hp
  refine ⟨_, _, _, rfl, hc, vp_in_nI hj hb, ?_⟩
  rw [nI_clamp (Nat.lt_trans hj hb), hv]
  exact h _ hp
end PURE1
