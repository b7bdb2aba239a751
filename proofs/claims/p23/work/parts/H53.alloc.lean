/-! THE PURE SIDE, 4: new cells -/
def mFr (Y : mY) (S : mS) (q : Nat) : Prop := (∀ k i, i < yn Y k → yA Y k i ≠ q) ∧ (∀ k i, mLk k = true → i < yn Y k → se S k i ≠ q)
def aY (Y : mY) (k q : Nat) : mY := (fun k' i' => if k' = k ∧ i' = yn Y k then q else yA Y k' i', fun k' => if k' = k then yn Y k + 1 else yn Y k')
/-- a whole slice is set -/
def uO (S : mS) (k i : Nat) (fI : Nat → Int32) (fJ : Nat → Int64) (fX : Nat → Option Nat) (fN : Nat → Nat) (xs : List Nat) (e c : Nat) (fE : Nat → Int32) (fP : Nat → Option Nat) : mS :=
  (fun k' i' => if k' = k ∧ i' = i then fI else sI S k' i', fun k' i' => if k' = k ∧ i' = i then fJ else sJ S k' i', fun k' i' => if k' = k ∧ i' = i then fX else sX S k' i', fun k' i' => if k' = k ∧ i' = i then fN else sN S k' i', fun k' i' => if k' = k ∧ i' = i then xs else sL S k' i', fun k' i' => if k' = k ∧ i' = i then e else se S k' i', fun k' i' => if k' = k ∧ i' = i then c else sC S k' i', fun k' i' => if k' = k ∧ i' = i then fE else sE S k' i', fun k' i' => if k' = k ∧ i' = i then fP else sP S k' i')
def mEq (S' S : mS) (k i : Nat) : Prop := sI S' k i = sI S k i ∧ sJ S' k i = sJ S k i ∧ sX S' k i = sX S k i ∧ sN S' k i = sN S k i ∧ sL S' k i = sL S k i ∧ se S' k i = se S k i ∧ sC S' k i = sC S k i ∧ sE S' k i = sE S k i ∧ sP S' k i = sP S k i
theorem mEq.rf (S : mS) (k i : Nat) : mEq S S k i := ⟨rfl, rfl, rfl, rfl, rfl, rfl, rfl, rfl, rfl⟩
theorem mEq.tr {S S' S'' : mS} {k i : Nat} (h : mEq S'' S' k i) (h' : mEq S' S k i) : mEq S'' S k i := ⟨h.1.trans h'.1, h.2.1.trans h'.2.1, h.2.2.1.trans h'.2.2.1, h.2.2.2.1.trans h'.2.2.2.1, h.2.2.2.2.1.trans h'.2.2.2.2.1, h.2.2.2.2.2.1.trans h'.2.2.2.2.2.1, h.2.2.2.2.2.2.1.trans h'.2.2.2.2.2.2.1, h.2.2.2.2.2.2.2.1.trans h'.2.2.2.2.2.2.2.1, h.2.2.2.2.2.2.2.2.trans h'.2.2.2.2.2.2.2.2⟩
theorem mEq.uI {S : mS} {k i f k' i' : Nat} {v : Int32} (h : ¬ (k' = k ∧ i' = i)) : mEq (uI S k i f v) S k' i' := ⟨funext fun f' => if_neg (fun w => h ⟨w.1, w.2.1⟩), rfl, rfl, rfl, rfl, rfl, rfl, rfl, rfl⟩
theorem mEq.uJ {S : mS} {k i f k' i' : Nat} {v : Int64} (h : ¬ (k' = k ∧ i' = i)) : mEq (uJ S k i f v) S k' i' := ⟨rfl, funext fun f' => if_neg (fun w => h ⟨w.1, w.2.1⟩), rfl, rfl, rfl, rfl, rfl, rfl, rfl⟩
theorem mEq.uX {S : mS} {k i f k' i' : Nat} {v : Option Nat} (h : ¬ (k' = k ∧ i' = i)) : mEq (uX S k i f v) S k' i' := ⟨rfl, rfl, funext fun f' => if_neg (fun w => h ⟨w.1, w.2.1⟩), rfl, rfl, rfl, rfl, rfl, rfl⟩
theorem mEq.uN {S : mS} {k i f k' i' : Nat} {v : Nat} (h : ¬ (k' = k ∧ i' = i)) : mEq (uN S k i f v) S k' i' := ⟨rfl, rfl, rfl, funext fun f' => if_neg (fun w => h ⟨w.1, w.2.1⟩), rfl, rfl, rfl, rfl, rfl⟩
theorem mEq.uL {S : mS} {k i k' i' : Nat} {md : Int32} {e : Nat} {xs : List Nat} (h : ¬ (k' = k ∧ i' = i)) : mEq (uL S k i md e xs) S k' i' := ⟨funext fun f' => if_neg (fun w => h ⟨w.1, w.2.1⟩), rfl, rfl, rfl, if_neg h, if_neg h, rfl, rfl, rfl⟩
theorem mEq.uE {S : mS} {k i j k' i' : Nat} {v : Int32} (h : ¬ (k' = k ∧ i' = i)) : mEq (uE S k i j v) S k' i' := ⟨rfl, rfl, rfl, rfl, rfl, rfl, rfl, funext fun f' => if_neg (fun w => h ⟨w.1, w.2.1⟩), rfl⟩
theorem mEq.uO {S : mS} {k i k' i' : Nat} {fI : Nat → Int32} {fJ : Nat → Int64} {fX : Nat → Option Nat} {fN : Nat → Nat} {xs : List Nat} {e c : Nat} {fE : Nat → Int32} {fP : Nat → Option Nat} (h : ¬ (k' = k ∧ i' = i)) : mEq (uO S k i fI fJ fX fN xs e c fE fP) S k' i' := ⟨if_neg h, if_neg h, if_neg h, if_neg h, if_neg h, if_neg h, if_neg h, if_neg h, if_neg h⟩
theorem aY_n {Y : mY} {k q : Nat} : yn (aY Y k q) k = yn Y k + 1 := if_pos rfl
theorem aY_nn {Y : mY} {k q k' : Nat} (h : k' ≠ k) : yn (aY Y k q) k' = yn Y k' := if_neg h
theorem aY_le {Y : mY} {k q k' : Nat} : yn Y k' ≤ yn (aY Y k q) k' := by
  by_cases h : k' = k
  · subst h; rw [aY_n]; omega
  · rw [aY_nn h]; exact Nat.le_refl _
theorem aY_A {Y : mY} {k q k' i' : Nat} (h : i' < yn Y k') : yA (aY Y k q) k' i' = yA Y k' i' := if_neg (fun z => by
  obtain ⟨rfl, rfl⟩ := z
  exact Nat.lt_irrefl _ h)
theorem aY_q {Y : mY} {k q : Nat} : yA (aY Y k q) k (yn Y k) = q := if_pos ⟨rfl, rfl⟩
section ALLOC1
variable {g : Nat → Nat} {Y : mY} {S : mS} {M : mM}
theorem mR.fr (H : mR g Y S M) {q : Nat} (hq : M q = none) : mFr Y S q := ⟨fun k i hi z => (by rw [← z, H.1 k i hi] at hq; cases hq), fun k i hk hi z => H.seN hk hi (by rw [z]; exact hq)⟩
theorem mR.off (H : mR g Y S M) {q : Nat} (hF : mFr Y S q) {M' : mM} (ho : ∀ q', q' ≠ q → M' q' = M q') : mR g Y S M' := by
  obtain ⟨h1, h2, h3, h4, h5, h6, h7⟩ := H
  refine ⟨fun k i hi => (ho _ (hF.1 k i hi)).trans (h1 k i hi), h2, fun k i hk hi => ?_, h4, h5, h6, h7⟩
  rcases h3 k i hk hi with h | ⟨N, f, a1, a2⟩
  · exact Or.inl h
  · exact Or.inr ⟨N, f, (ho _ (hF.2 k i hk hi)).trans a1, a2⟩
/-- cells that don't belong to the state -/
theorem r_p {a c k : Nat} {fs : List Value} {v : Value} {κ : mM → Prop} (ha : M a = some (.inr (c, fs))) (hk : k < fs.length) (h : ∀ M', M' a = some (.inr (c, fs.set k v)) → (∀ q, q ≠ a → M' q = M q) → κ M') : m_p M (some a) c k v κ := ⟨a, fs, rfl, ha, hk, h _ (m_up_s _ _ _) (fun q hq => m_up_n hq)⟩
theorem r_new {ci : Nat} {fs : List Value} {κ : Nat → mM → Prop} (h : ∀ q M', M q = none → M' q = some (.inr (ci, fs)) → (∀ q', q' ≠ q → M' q' = M q') → κ q M') : m_new M ci fs κ := fun q hq => h q _ hq (m_up_s _ _ _) (fun q' hq' => m_up_n hq')
theorem r_rc {a c : Nat} {fs : List Value} {κ : Nat → Prop} (ha : M a = some (.inr (c, fs))) (h : κ a) : m_rc M (some a) c κ := ⟨a, fs, rfl, ha, h⟩
theorem r_newI {ak N B : Nat} {κ : Nat → mM → Prop} (hN : N < 2 ^ 31) (hB : N ≤ B) (h : ∀ q M', M q = none → M' q = some (.inl (ak, N, .inl (fun _ => 0))) → (∀ q', q' ≠ q → M' q' = M q') → κ q M') : m_newI M ak (nI N) B κ := by
  refine ⟨nI_pos hN, by rw [nI_clamp hN]; exact hB, fun q hq => ?_⟩
  rw [nI_clamp hN]
  exact h q _ hq (m_up_s _ _ _) (fun q' hq' => m_up_n hq')
theorem r_newR {ak N B : Nat} {κ : Nat → mM → Prop} (hN : N < 2 ^ 31) (hB : N ≤ B) (h : ∀ q M', M q = none → M' q = some (.inl (ak, N, mRf (fun _ => none))) → (∀ q', q' ≠ q → M' q' = M q') → κ q M') : m_newR M ak (nI N) B κ := by
  refine ⟨nI_pos hN, by rw [nI_clamp hN]; exact hB, fun q hq => ?_⟩
  rw [nI_clamp hN]
  exact h q _ hq (m_up_s _ _ _) (fun q' hq' => m_up_n hq')
/-- a cell outside becomes one of a kind -/
theorem m_cell_aY {k q : Nat} {S' : mS} (H : mR g Y S M) {k' i' : Nat} (hi : i' < yn Y k') (he : mEq S' S k' i') : m_cell (aY Y k q) S' k' i' = m_cell Y S k' i' := by
  obtain ⟨e1, e2, e3, e4, e5, e6, e7, e8, e9⟩ := he
  have hfv : ∀ f t, (m_fds k')[f]? = some t → m_fv (aY Y k q) S' k' i' f t = m_fv Y S k' i' f t := by
    intro f t ht
    obtain ⟨q1, q2, q3, q4⟩ := H.2.2.2.2.2.1 k' i' f t hi ht
    unfold m_fv
    rw [e1, e2, e3, e4, e5, e6]
    split
    · rfl
    · rfl
    · next h => rw [aY_A (q1 h)]
    · next h =>
      cases hx : sX S k' i' f with
      | none => rfl
      | some j => exact congrArg (fun z => va_rf (some z)) (aY_A (q2 h j hx))
    · rfl
    · rfl
    · next h => rw [aY_A (q3 h)]
    · next h => rw [aY_A (q4 h)]
    · rfl
  unfold m_cell
  rw [e7, e8, e9]
  split
  · refine congrArg Sum.inr (congrArg (Prod.mk (m_cls k')) (List.ext_getElem? fun j => ?_))
    rw [List.getElem?_mapIdx, List.getElem?_mapIdx]
    cases ht : (m_fds k')[j]? with
    | none => rfl
    | some t => exact congrArg some (hfv j t ht)
  · rfl
theorem mR.alloc (H : mR g Y S M) {k q : Nat} (hF : mFr Y S q) (S' : mS) (hs : ∀ k' i', i' < yn Y k' → mEq S' S k' i') (hM : M q = some (m_cell (aY Y k q) S' k (yn Y k))) (hL : mLk k = true → se S' k (yn Y k) = yA Y 34 0 ∧ sL S' k (yn Y k) = []) (hlv : ∀ f t, (m_fds k)[f]? = some t → m_lv (aY Y k q) S' k (yn Y k) f t) (h3 : k ≠ 33) (h4 : k ≠ 34) : mR g (aY Y k q) S' M := by
  have hlt : ∀ k' i', i' < yn (aY Y k q) k' → ¬ (k' = k ∧ i' = yn Y k) → i' < yn Y k' := by
    intro k' i' hi z
    by_cases w : k' = k
    · subst w
      rw [aY_n] at hi
      have : i' ≠ yn Y k' := fun e => z ⟨rfl, e⟩
      omega
    · rwa [aY_nn w] at hi
  obtain ⟨g1, g2, g3, g4, g5⟩ := H.2.2.2.2.2.2
  have h34 : yA (aY Y k q) 34 0 = yA Y 34 0 := aY_A (by omega)
  have h33 : yA (aY Y k q) 33 0 = yA Y 33 0 := aY_A (by omega)
  refine ⟨fun k' i' hi => ?_, fun k1 i1 k2 i2 hi1 hi2 he => ?_, fun k' i' hk hi => ?_, fun k1 i1 k2 i2 hk1 hi1 hk2 hi2 he hne => ?_, fun k' i' hk hi x hx => ?_, fun k' i' f t hi ht => ?_, ?_⟩
  · by_cases z : k' = k ∧ i' = yn Y k
    · obtain ⟨rfl, rfl⟩ := z
      rw [aY_q, hM]
    · have hi' := hlt k' i' hi z
      rw [aY_A hi', H.1 k' i' hi', m_cell_aY H hi' (hs k' i' hi')]
  · by_cases z1 : k1 = k ∧ i1 = yn Y k
    · by_cases z2 : k2 = k ∧ i2 = yn Y k
      · exact ⟨z1.1.trans z2.1.symm, z1.2.trans z2.2.symm⟩
      · obtain ⟨rfl, rfl⟩ := z1
        have hi' := hlt k2 i2 hi2 z2
        rw [aY_q, aY_A hi'] at he
        exact absurd he.symm (hF.1 k2 i2 hi')
    · have hi1' := hlt k1 i1 hi1 z1
      by_cases z2 : k2 = k ∧ i2 = yn Y k
      · obtain ⟨rfl, rfl⟩ := z2
        rw [aY_q, aY_A hi1'] at he
        exact absurd he (hF.1 k1 i1 hi1')
      · have hi2' := hlt k2 i2 hi2 z2
        rw [aY_A hi1', aY_A hi2'] at he
        exact H.2.1 k1 i1 k2 i2 hi1' hi2' he
  · by_cases z : k' = k ∧ i' = yn Y k
    · obtain ⟨rfl, rfl⟩ := z
      exact Or.inl ⟨(hL hk).1.trans h34.symm, (hL hk).2⟩
    · have hi' := hlt k' i' hi z
      have hh := H.2.2.1 k' i' hk hi'
      obtain ⟨-, -, -, -, e5, e6, -⟩ := hs k' i' hi'
      unfold m_La at hh ⊢
      rw [e5, e6, h34]
      rcases hh with hh | ⟨N, f, a1, a2, a3, a4⟩
      · exact Or.inl hh
      · refine Or.inr ⟨N, f, a1, a2, a3, fun j x hx => ?_⟩
        rw [aY_A (H.lL hk hi' hx)]
        exact a4 j x hx
  · rw [h34] at hne
    by_cases z1 : k1 = k ∧ i1 = yn Y k
    · obtain ⟨rfl, rfl⟩ := z1
      exact absurd (hL hk1).1 hne
    · by_cases z2 : k2 = k ∧ i2 = yn Y k
      · obtain ⟨rfl, rfl⟩ := z2
        rw [he] at hne
        exact absurd (hL hk2).1 hne
      · have hi1' := hlt k1 i1 hi1 z1
        have hi2' := hlt k2 i2 hi2 z2
        rw [(hs k1 i1 hi1').2.2.2.2.2.1] at he hne
        rw [(hs k2 i2 hi2').2.2.2.2.2.1] at he
        exact H.2.2.2.1 k1 i1 k2 i2 hk1 hi1' hk2 hi2' he hne
  · by_cases z : k' = k ∧ i' = yn Y k
    · obtain ⟨rfl, rfl⟩ := z
      rw [(hL hk).2] at hx
      cases hx
    · have hi' := hlt k' i' hi z
      rw [(hs k' i' hi').2.2.2.2.1] at hx
      exact Nat.lt_of_lt_of_le (H.2.2.2.2.1 k' i' hk hi' x hx) aY_le
  · by_cases z : k' = k ∧ i' = yn Y k
    · obtain ⟨rfl, rfl⟩ := z
      exact hlv f t ht
    · have hi' := hlt k' i' hi z
      obtain ⟨q1, q2, q3, q4⟩ := H.2.2.2.2.2.1 k' i' f t hi' ht
      obtain ⟨-, -, e3, e4, -⟩ := hs k' i' hi'
      refine ⟨fun w => ?_, fun w j hj => ?_, fun w => Nat.lt_of_lt_of_le (q3 w) aY_le, fun w => Nat.lt_of_lt_of_le (q4 w) aY_le⟩
      · rw [e4]; exact Nat.lt_of_lt_of_le (q1 w) aY_le
      · rw [e3] at hj; exact Nat.lt_of_lt_of_le (q2 w j hj) aY_le
  · rw [h34, h33, aY_nn (fun z => h4 z.symm), aY_nn (fun z => h3 z.symm), (hs 34 0 (by omega)).2.2.2.2.2.2.1]
    exact ⟨g1, g2, g3, g4, g5⟩
theorem mFr.al {q q' k : Nat} (hF : mFr Y S q') {S' : mS} (hs : ∀ k' i', i' < yn Y k' → mEq S' S k' i') (hn : q ≠ q') (hL : mLk k = true → se S' k (yn Y k) ≠ q') : mFr (aY Y k q) S' q' := by
  have hlt : ∀ k' i', i' < yn (aY Y k q) k' → ¬ (k' = k ∧ i' = yn Y k) → i' < yn Y k' := by
    intro k' i' hi z
    by_cases w : k' = k
    · subst w
      rw [aY_n] at hi
      have : i' ≠ yn Y k' := fun e => z ⟨rfl, e⟩
      omega
    · rwa [aY_nn w] at hi
  refine ⟨fun k' i' hi => ?_, fun k' i' hk hi => ?_⟩
  · by_cases z : k' = k ∧ i' = yn Y k
    · obtain ⟨rfl, rfl⟩ := z
      rw [aY_q]
      exact hn
    · have hi' := hlt k' i' hi z
      rw [aY_A hi']
      exact hF.1 k' i' hi'
  · by_cases z : k' = k ∧ i' = yn Y k
    · obtain ⟨rfl, rfl⟩ := z
      exact hL hk
    · have hi' := hlt k' i' hi z
      rw [(hs k' i' hi').2.2.2.2.2.1]
      exact hF.2 k' i' hk hi'
end ALLOC1
