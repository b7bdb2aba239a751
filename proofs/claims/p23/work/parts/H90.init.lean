/-! THE PURE SIDE, 22: the constructors -/
/-- what is there stays as it is -/
def gF (Y : mY) (S : mS) (Y1 : mY) (S1 : mS) : Prop := (∀ k i, i < yn Y k → yA Y1 k i = yA Y k i ∧ mEq S1 S k i) ∧ ∀ k, yn Y k ≤ yn Y1 k
theorem gF.rf (Y : mY) (S : mS) : gF Y S Y S := ⟨fun _ _ _ => ⟨rfl, mEq.rf _ _ _⟩, fun _ => Nat.le_refl _⟩
theorem gF.tr {Y Y' Y'' : mY} {S S' S'' : mS} (h : gF Y S Y' S') (h' : gF Y' S' Y'' S'') : gF Y S Y'' S'' := ⟨fun k i hi => ⟨((h'.1 k i (Nat.lt_of_lt_of_le hi (h.2 k))).1).trans (h.1 k i hi).1, ((h'.1 k i (Nat.lt_of_lt_of_le hi (h.2 k))).2).tr (h.1 k i hi).2⟩, fun k => Nat.le_trans (h.2 k) (h'.2 k)⟩
theorem m_ups_n : ∀ (L : List (Nat × mCe)) (M : mM) (a : Nat), (∀ x ∈ L, x.1 ≠ a) → m_ups M L a = M a := by
  intro L
  induction L with
  | nil => intro M a _; rfl
  | cons x L ih =>
    intro M a h
    exact (ih (m_up M x.1 x.2) a (fun y hy => h y (List.mem_cons_of_mem _ hy))).trans (m_up_n (fun q => h x List.mem_cons_self q.symm))
theorem m_ups_s : ∀ (L : List (Nat × mCe)) (M : mM) (a : Nat) (e : mCe), (∀ x ∈ L, x.1 = a → x.2 = e) → (∃ x ∈ L, x.1 = a) → m_ups M L a = some e := by
  intro L
  induction L with
  | nil => intro M a e _ h; obtain ⟨x, hx, _⟩ := h; cases hx
  | cons x L ih =>
    intro M a e h1 h2
    by_cases z : ∃ y ∈ L, y.1 = a
    · exact ih (m_up M x.1 x.2) a e (fun y hy => h1 y (List.mem_cons_of_mem _ hy)) z
    · have z' : ∀ y ∈ L, y.1 ≠ a := fun y hy q => z ⟨y, hy, q⟩
      obtain ⟨y, hy, hya⟩ := h2
      rcases List.mem_cons.mp hy with rfl | hy
      · refine (m_ups_n L (m_up M y.1 y.2) a z').trans ?_
        rw [← hya, m_up_s, h1 y List.mem_cons_self hya]
      · exact absurd hya (z' y hy)
section INIT
variable {g : Nat → Nat} {Y : mY} {S : mS} {M : mM}
theorem mAl.gF {k q e : Nat} {fI : Nat → Int32} {fJ : Nat → Int64} {fX : Nat → Option Nat} {fN : Nat → Nat} {xs : List Nat} {Y1 : mY} {S1 : mS} (h : mAl Y S k q fI fJ fX fN xs e Y1 S1) : gF Y S Y1 S1 := by
  obtain ⟨a1, a2, a3, a4, a5, -⟩ := h
  refine ⟨fun k' i' hi => ⟨a1 k' i' hi, a5 k' i' (fun z => ?_)⟩, fun k' => ?_⟩
  · obtain ⟨rfl, rfl⟩ := z
    exact Nat.lt_irrefl _ hi
  · by_cases z : k' = k
    · subst z; omega
    · rw [a3 k' z]; exact Nat.le_refl _
theorem mAl.cnt {k q e : Nat} {fI : Nat → Int32} {fJ : Nat → Int64} {fX : Nat → Option Nat} {fN : Nat → Nat} {xs : List Nat} {Y1 : mY} {S1 : mS} (h : mAl Y S k q fI fJ fX fN xs e Y1 S1) : ∀ k', yn Y1 k' = yn Y k' + (if k' = k then 1 else 0) := by
  obtain ⟨a1, a2, a3, -⟩ := h
  intro k'
  by_cases z : k' = k
  · subst z
    rw [if_pos rfl]
    exact a2
  · rw [if_neg z]
    exact a3 k' z
theorem mR.allocI (H : mR g Y S M) {k q n : Nat} {f : Nat → Int32} (hF : mFr Y S q) (hak : m_ak k ≠ 99) (hra : m_ra k = false) (hfd : m_fds k = []) (h3 : k ≠ 33) (h4 : k ≠ 34) (hL : mLk k = false) (h1 : M q = some (.inl (m_ak k, n, .inl f))) : ∃ Y1 S1, mR g Y1 S1 M ∧ mAl Y S k q (fun _ => 0) (fun _ => 0) (fun _ => none) (fun _ => 0) [] 0 Y1 S1 ∧ sC S1 k (yn Y k) = n := by
  have eC : sC (uO S k (yn Y k) (fun _ => 0) (fun _ => 0) (fun _ => none) (fun _ => 0) [] 0 n f (fun _ => none)) k (yn Y k) = n := if_pos ⟨rfl, rfl⟩
  have eE : sE (uO S k (yn Y k) (fun _ => 0) (fun _ => 0) (fun _ => none) (fun _ => 0) [] 0 n f (fun _ => none)) k (yn Y k) = f := if_pos ⟨rfl, rfl⟩
  have H2 := H.alloc (k := k) hF (uO S k (yn Y k) (fun _ => 0) (fun _ => 0) (fun _ => none) (fun _ => 0) [] 0 n f (fun _ => none)) (fun k' i' hi => mEq.uO (fun z => by obtain ⟨rfl, rfl⟩ := z; exact Nat.lt_irrefl _ hi)) (by
    rw [h1]
    unfold m_cell
    rw [if_neg hak, if_neg (by rw [hra]; decide), eC, eE]) (fun z => by rw [hL] at z; cases z) (fun f t ht => by rw [hfd] at ht; cases ht) h3 h4
  exact ⟨_, _, H2, ⟨fun k' i' hi => aY_A hi, aY_n, fun k' z => aY_nn z, aY_q, fun k' i' z => mEq.uO z, if_pos ⟨rfl, rfl⟩, if_pos ⟨rfl, rfl⟩, if_pos ⟨rfl, rfl⟩, if_pos ⟨rfl, rfl⟩, if_pos ⟨rfl, rfl⟩, if_pos ⟨rfl, rfl⟩⟩, eC⟩
theorem mR.allocR (H : mR g Y S M) {k q n : Nat} {f : Nat → Option Nat} (hF : mFr Y S q) (hak : m_ak k ≠ 99) (hra : m_ra k = true) (hfd : m_fds k = []) (h3 : k ≠ 33) (h4 : k ≠ 34) (hL : mLk k = false) (h1 : M q = some (.inl (m_ak k, n, mRf f))) : ∃ Y1 S1, mR g Y1 S1 M ∧ mAl Y S k q (fun _ => 0) (fun _ => 0) (fun _ => none) (fun _ => 0) [] 0 Y1 S1 ∧ sC S1 k (yn Y k) = n ∧ sP S1 k (yn Y k) = f := by
  have eC : sC (uO S k (yn Y k) (fun _ => 0) (fun _ => 0) (fun _ => none) (fun _ => 0) [] 0 n (fun _ => 0) f) k (yn Y k) = n := if_pos ⟨rfl, rfl⟩
  have eP : sP (uO S k (yn Y k) (fun _ => 0) (fun _ => 0) (fun _ => none) (fun _ => 0) [] 0 n (fun _ => 0) f) k (yn Y k) = f := if_pos ⟨rfl, rfl⟩
  have H2 := H.alloc (k := k) hF (uO S k (yn Y k) (fun _ => 0) (fun _ => 0) (fun _ => none) (fun _ => 0) [] 0 n (fun _ => 0) f) (fun k' i' hi => mEq.uO (fun z => by obtain ⟨rfl, rfl⟩ := z; exact Nat.lt_irrefl _ hi)) (by
    rw [h1]
    unfold m_cell
    rw [if_neg hak, if_pos hra, eC, eP]) (fun z => by rw [hL] at z; cases z) (fun f t ht => by rw [hfd] at ht; cases ht) h3 h4
  exact ⟨_, _, H2, ⟨fun k' i' hi => aY_A hi, aY_n, fun k' z => aY_nn z, aY_q, fun k' i' z => mEq.uO z, if_pos ⟨rfl, rfl⟩, if_pos ⟨rfl, rfl⟩, if_pos ⟨rfl, rfl⟩, if_pos ⟨rfl, rfl⟩, if_pos ⟨rfl, rfl⟩, if_pos ⟨rfl, rfl⟩⟩, eC, eP⟩
/-- what a step of a constructor leaves: the addresses outside, and what lies there -/
def iO (Y : mY) (S : mS) (M : mM) (q1 : Nat) (Y1 : mY) (S1 : mS) (M1 : mM) : Prop := (∀ q, mFr Y S q → M q ≠ none → mFr Y1 S1 q) ∧ (∀ q, q ≠ q1 → M q ≠ none → M1 q = M q)
theorem mAl.fO {k q e : Nat} {fI : Nat → Int32} {fJ : Nat → Int64} {fX : Nat → Option Nat} {fN : Nat → Nat} {xs : List Nat} {Y1 : mY} {S1 : mS} (A : mAl Y S k q fI fJ fX fN xs e Y1 S1) {M0 : mM} (hq : M0 q = none) (hL : mLk k = true → ∀ q', mFr Y S q' → e ≠ q') : ∀ q', mFr Y S q' → M0 q' ≠ none → mFr Y1 S1 q' := fun q' hF hn => A.fr hF (fun z => hn (by rw [← z]; exact hq)) (fun hk => hL hk q' hF)
/-- a new list is put into a field of the object -/
theorem i_list (H : mR g Y S M) {q1 c fd k : Nat} {fs : List Value} (F1 : mFr Y S q1) (k1 : M q1 = some (.inr (c, fs))) (hfd : fd < fs.length) (hk : k = 12 ∨ k = 24) {κ : mM → Prop} (h : ∀ Y1 S1 M1, mR g Y1 S1 M1 → (∀ k', yn Y1 k' = yn Y k' + (if k' = k then 1 else 0)) → gF Y S Y1 S1 → ((k = 12 → mFc Y S Y1 S1) ∧ (k = 24 → mFm Y S Y1 S1)) → sL S1 k (yn Y k) = [] → iO Y S M q1 Y1 S1 M1 → M1 q1 = some (.inr (c, fs.set fd (.ref (yA Y1 k (yn Y k))))) → κ M1) : m_new M 4 [.int 0, .null, .int 0] fun q M2 => m_rc M2 (some q) 4 fun b => wJx4a65c_init_da8c8 g (fun M3 => m_p M3 (some q1) c fd (va_rf (some q)) κ) (some b) M2 := by
  refine r_new (fun q M2 hq h2 o2 => r_linit h2 (fun M3 h3 o3 => ?_))
  have some_ne : ∀ {M : mM} {a b : Nat} {e : mCe}, M a = some e → M b = none → a ≠ b := fun h1 h2 z => by rw [z, h2] at h1; cases h1
  have n1 := some_ne k1 hq
  have Fq := H.fr hq
  refine r_p ((o3 q1 n1).trans ((o2 q1 n1).trans k1)) hfd (fun M4 h4 o4 => ?_)
  have H4 : mR g Y S M4 := ((H.off Fq o2).off Fq o3).off F1 o4
  have h34 : 0 < yn Y 34 := by rw [H.2.2.2.2.2.2.1]; omega
  have hg0 : yA Y 34 0 = g 0 := H.2.2.2.2.2.2.2.1
  have hq4 : M4 q = some (jH 0 (g 0) 0) := (o4 q n1.symm).trans h3
  have key : ∃ Y1 S1, mR g Y1 S1 M4 ∧ mAl Y S k q (fun _ => 0) (fun _ => 0) (fun _ => none) (fun _ => 0) [] (g 0) Y1 S1 := by
    rcases hk with rfl | rfl
    · exact H4.alloc2 (k := 12) Fq (fun _ => 0) (fun _ => 0) (fun _ => none) (fun _ => 0) [] (g 0) rfl (by decide) (by decide) (fun _ => ⟨hg0.symm, rfl⟩) hq4 (fun f t' ht' => by
        rcases f with _ | _ | _ | f <;> cases ht' <;> exact ⟨fun z => absurd z (by decide), fun z => absurd z (by decide), fun z => absurd z (by decide), fun z => absurd z (by decide)⟩)
    · exact H4.alloc2 (k := 24) Fq (fun _ => 0) (fun _ => 0) (fun _ => none) (fun _ => 0) [] (g 0) rfl (by decide) (by decide) (fun _ => ⟨hg0.symm, rfl⟩) hq4 (fun f t' ht' => by
        rcases f with _ | _ | _ | f <;> cases ht' <;> exact ⟨fun z => absurd z (by decide), fun z => absurd z (by decide), fun z => absurd z (by decide), fun z => absurd z (by decide)⟩)
  obtain ⟨Y1, S1, H5, A⟩ := key
  have e4 := A.2.2.2.1
  have eL : sL S1 k (yn Y k) = [] := A.2.2.2.2.2.2.2.2.2.1
  refine h Y1 S1 M4 H5 A.cnt A.gF ⟨fun z => A.F (by omega), fun z => A.Fm (by omega)⟩ eL ⟨A.fO hq (fun _ q' hF' => by rw [← hg0]; exact hF'.1 34 0 h34), fun q' z1 z2 => ?_⟩ ?_
  · have z3 : q' ≠ q := fun z => z2 (by rw [z]; exact hq)
    exact (o4 q' z1).trans ((o3 q' z3).trans (o2 q' z3))
  · rw [e4]
    exact h4
/-- a new row of ints is put into a field of the object -/
theorem i_row (H : mR g Y S M) {q1 c fd k n B ak : Nat} {fs : List Value} (F1 : mFr Y S q1) (k1 : M q1 = some (.inr (c, fs))) (hfd : fd < fs.length) (hk : (k = 9 ∧ ak = 0) ∨ (k = 27 ∧ ak = 1)) (hn : n < 2 ^ 31) (hB : n ≤ B) {κ : mM → Prop} (h : ∀ Y1 S1 M1, mR g Y1 S1 M1 → (∀ k', yn Y1 k' = yn Y k' + (if k' = k then 1 else 0)) → gF Y S Y1 S1 → ((k = 9 → mFc Y S Y1 S1) ∧ (k = 27 → mFm Y S Y1 S1)) → sC S1 k (yn Y k) = n → iO Y S M q1 Y1 S1 M1 → M1 q1 = some (.inr (c, fs.set fd (.ref (yA Y1 k (yn Y k))))) → κ M1) : m_newI M ak (nI n) B fun q M2 => m_p M2 (some q1) c fd (va_rf (some q)) κ := by
  refine r_newI hn hB (fun q M2 hq h2 o2 => ?_)
  have some_ne : ∀ {M : mM} {a b : Nat} {e : mCe}, M a = some e → M b = none → a ≠ b := fun h1 h2 z => by rw [z, h2] at h1; cases h1
  have n1 := some_ne k1 hq
  have Fq := H.fr hq
  refine r_p ((o2 q1 n1).trans k1) hfd (fun M4 h4 o4 => ?_)
  have H4 : mR g Y S M4 := (H.off Fq o2).off F1 o4
  have hq4 := (o4 q n1.symm).trans h2
  have key : ∃ Y1 S1, mR g Y1 S1 M4 ∧ mAl Y S k q (fun _ => 0) (fun _ => 0) (fun _ => none) (fun _ => 0) [] 0 Y1 S1 ∧ sC S1 k (yn Y k) = n := by
    rcases hk with ⟨rfl, rfl⟩ | ⟨rfl, rfl⟩
    · exact H4.allocI (k := 9) Fq (by decide) rfl rfl (by decide) (by decide) rfl hq4
    · exact H4.allocI (k := 27) Fq (by decide) rfl rfl (by decide) (by decide) rfl hq4
  obtain ⟨Y1, S1, H5, A, eC⟩ := key
  have e4 := A.2.2.2.1
  refine h Y1 S1 M4 H5 A.cnt A.gF ⟨fun z => A.F (by omega), fun z => A.Fm (by omega)⟩ eC ⟨A.fO hq (fun z => by rcases hk with ⟨rfl, -⟩ | ⟨rfl, -⟩ <;> exact absurd z (by decide)), fun q' z1 z2 => ?_⟩ ?_
  · have z3 : q' ≠ q := fun z => z2 (by rw [z]; exact hq)
    exact (o4 q' z1).trans (o2 q' z3)
  · rw [e4]
    exact h4
/-- nine rows become known -/
theorem i_rws (H : mR g Y S M) {r : Nat → Nat} (h9 : yn Y 9 = 0) (hM : ∀ i, i < 9 → M (r i) = some (.inl (0, 81, .inl (fun _ => 0)))) (hF : ∀ i, i < 9 → mFr Y S (r i)) (hi : ∀ i j : Nat, i < 9 → j < 9 → r i = r j → i = j) : ∀ n, n ≤ 9 → ∃ Y1 S1, mR g Y1 S1 M ∧ gF Y S Y1 S1 ∧ mFc Y S Y1 S1 ∧ (∀ k', yn Y1 k' = yn Y k' + (if k' = 9 then n else 0)) ∧ (∀ i, i < n → yA Y1 9 i = r i ∧ sC S1 9 i = 81) ∧ ∀ q', mFr Y S q' → (∀ i, i < n → r i ≠ q') → mFr Y1 S1 q' := by
  intro n
  induction n with
  | zero => exact fun _ => ⟨Y, S, H, gF.rf Y S, mFc.rf Y S, fun k' => by split <;> rfl, fun i hi => absurd hi (by omega), fun q' h _ => h⟩
  | succ n ih =>
    intro hn
    obtain ⟨Y1, S1, H1, G1, F1, c1, e1, f1⟩ := ih (by omega)
    have Fn := f1 (r n) (hF n (by omega)) (fun i hin z => absurd (hi i n (by omega) (by omega) z) (by omega))
    obtain ⟨Y2, S2, H2, A, eC⟩ := H1.allocI (k := 9) Fn (by decide) rfl rfl (by decide) (by decide) rfl (hM n (by omega))
    have y9 : yn Y1 9 = n := by rw [c1 9, if_pos rfl, h9]; omega
    refine ⟨Y2, S2, H2, G1.tr A.gF, F1.tr (A.F (by omega)), fun k' => ?_, fun i hin => ?_, fun q' hq' hne => ?_⟩
    · rw [A.cnt k', c1 k']
      split <;> omega
    · by_cases z : i = n
      · subst z
        have e4 := A.2.2.2.1
        rw [y9] at e4 eC
        exact ⟨e4, eC⟩
      · obtain ⟨p1, p2⟩ := e1 i (by omega)
        obtain ⟨g1, g2⟩ := A.gF.1 9 i (by omega)
        exact ⟨g1.trans p1, g2.2.2.2.2.2.2.1.trans p2⟩
    · exact A.fr (f1 q' hq' (fun i hin => hne i (by omega))) (hne n (by omega)) (fun z => absurd z (by decide))
theorem i_mna (H : mR g Y S M) {q1 c fd : Nat} {fs : List Value} (F1 : mFr Y S q1) (k1 : M q1 = some (.inr (c, fs))) (hfd : fd < fs.length) (y9 : yn Y 9 = 0) (y8 : yn Y 8 = 0) {κ : mM → Prop} (h : ∀ Y1 S1 M1, mR g Y1 S1 M1 → (∀ k', yn Y1 k' = yn Y k' + (if k' = 9 then 9 else 0) + (if k' = 8 then 1 else 0)) → gF Y S Y1 S1 → mFc Y S Y1 S1 → (∀ i, i < 9 → sC S1 9 i = 81) → sC S1 8 0 = 9 → (∀ i, i < 9 → sP S1 8 0 i = some (yA Y1 9 i)) → iO Y S M q1 Y1 S1 M1 → M1 q1 = some (.inr (c, fs.set fd (.ref (yA Y1 8 0)))) → κ M1) : m_mna M 9 81 9 81 fun q M2 => m_p M2 (some q1) c fd (va_rf (some q)) κ := by
  refine ⟨by decide, by decide, by decide, by decide, fun q r hnone hinj hne => ?_⟩
  have some_ne : ∀ {M : mM} {a b : Nat} {e : mCe}, M a = some e → M b = none → a ≠ b := fun h1 h2 z => by rw [z, h2] at h1; cases h1
  have hq : M q = none := hnone _ List.mem_cons_self
  have hr : ∀ i, i < 9 → M (r i) = none := fun i hi => hnone (r i, .inl (0, 81, .inl (fun _ => 0))) (List.mem_cons_of_mem _ (List.mem_map.mpr ⟨i, List.mem_range.mpr hi, rfl⟩))
  have key : ∀ x ∈ m_rows q 9 81 r, x.1 = q ∨ ∃ i, i < 9 ∧ x = (r i, .inl (0, 81, .inl (fun _ => 0))) := fun x hx => by
    rcases List.mem_cons.mp hx with rfl | hx
    · exact Or.inl rfl
    · obtain ⟨i, hi, rfl⟩ := List.mem_map.mp hx
      exact Or.inr ⟨i, List.mem_range.mp hi, rfl⟩
  have eq : m_ups M (m_rows q 9 81 r) q = some (.inl (5, 9, mRf (fun i => if i < 9 then some (r i) else none))) := by
    refine m_ups_s _ _ _ _ (fun x hx hxq => ?_) ⟨_, List.mem_cons_self, rfl⟩
    rcases List.mem_cons.mp hx with rfl | hx
    · rfl
    · obtain ⟨i, hi, rfl⟩ := List.mem_map.mp hx
      exact absurd hxq (hne i (List.mem_range.mp hi))
  have er : ∀ i, i < 9 → m_ups M (m_rows q 9 81 r) (r i) = some (.inl (0, 81, .inl (fun _ => 0))) := fun i hi => by
    refine m_ups_s _ _ _ _ (fun x hx hxq => ?_) ⟨(r i, .inl (0, 81, .inl (fun _ => 0))), List.mem_cons_of_mem _ (List.mem_map.mpr ⟨i, List.mem_range.mpr hi, rfl⟩), rfl⟩
    rcases key x hx with z | ⟨j, hj, rfl⟩
    · exact absurd (hxq.symm.trans z) (hne i hi)
    · rfl
  have eo : ∀ a, M a ≠ none → m_ups M (m_rows q 9 81 r) a = M a := fun a ha => m_ups_n _ _ _ (fun x hx hxa => ha (by rw [← hxa]; exact hnone x hx))
  generalize m_ups M (m_rows q 9 81 r) = M2 at eq er eo
  have H2 : mR g Y S M2 := by
    obtain ⟨h1, h2, h3, h4⟩ := H
    refine ⟨fun k i hi => (eo _ (by rw [h1 k i hi]; exact fun z => by cases z)).trans (h1 k i hi), h2, fun k i hk hi => ?_, h4⟩
    rcases h3 k i hk hi with z | ⟨N, f, a1, a2⟩
    · exact Or.inl z
    · exact Or.inr ⟨N, f, (eo _ (by rw [a1]; exact fun z => by cases z)).trans a1, a2⟩
  have Fq := H.fr hq
  refine r_p ((eo q1 (by rw [k1]; exact fun z => by cases z)).trans k1) hfd (fun M3 h3 o3 => ?_)
  have H3 := H2.off F1 o3
  have nq1 := some_ne k1 hq
  have nr1 : ∀ i, i < 9 → q1 ≠ r i := fun i hi => some_ne k1 (hr i hi)
  obtain ⟨Y1, S1, H4, G1, C1, c1, e1, f1⟩ := i_rws H3 y9 (r := r) (fun i hi => (o3 (r i) (nr1 i hi).symm).trans (er i hi)) (fun i hi => H.fr (hr i hi)) hinj 9 (Nat.le_refl _)
  obtain ⟨Y2, S2, H5, A, eC, eP⟩ := H4.allocR (k := 8) (f1 q Fq (fun i hi => hne i hi)) (by decide) rfl rfl (by decide) (by decide) rfl ((o3 q nq1.symm).trans eq)
  have y8' : yn Y1 8 = 0 := by rw [c1 8, if_neg (by decide), y8]
  have y9' : yn Y1 9 = 9 := by rw [c1 9, if_pos rfl, y9]
  have e4 := A.2.2.2.1
  rw [y8'] at eC eP e4
  refine h Y2 S2 M3 H5 (fun k' => by rw [A.cnt k', c1 k']) (G1.tr A.gF) (C1.tr (A.F (by omega))) (fun i hi => ?_) eC (fun i hi => ?_) ⟨fun q' hF' hn' => ?_, fun q' z1 z2 => (o3 q' z1).trans (eo q' z2)⟩ ?_
  · exact ((A.gF.1 9 i (by omega)).2.2.2.2.2.2.2.1).trans (e1 i hi).2
  · rw [eP]
    dsimp only
    rw [if_pos hi, (A.gF.1 9 i (by omega)).1, (e1 i hi).1]
  · refine A.fr (f1 q' hF' (fun i hi z => hn' (by rw [← z]; exact hr i hi))) (fun z => hn' (by rw [← z]; exact hq)) (fun z => absurd z (by decide))
  · rw [e4]
    exact h3
end INIT
/-- a new land, of the class, of the reference -/
def LD2 (l : Nat) : Nat → Int32 := fun f => match f with | 0 => nI l | 1 => 10 | 2 => 20 | 3 => 5 | _ => 0
def LD22 : Nat → Int32 := fun f => match f with | 0 => 10 | 1 => 20 | 2 => 5 | _ => 0
def ST7 : Nat → Int32 := fun f => match f with | 1 => 3 | _ => 0
section INIT2
variable {g : Nat → Nat} {Y : mY} {S : mS} {M : mM}
theorem sn {M : mM} {q : Nat} {e : mCe} (h : M q = some e) : M q ≠ none := by rw [h]; exact Option.some_ne_none _
theorem sne {M : mM} {a b : Nat} {e : mCe} (h1 : M a = some e) (h2 : M b = none) : a ≠ b := fun z => by rw [z, h2] at h1; cases h1
theorem i_stat (H : mR g Y S M) {q1 c fd : Nat} {fs : List Value} (F1 : mFr Y S q1) (k1 : M q1 = some (.inr (c, fs))) (hfd : fd < fs.length) {κ : mM → Prop} (h : ∀ Y1 S1 M1, mR g Y1 S1 M1 → (∀ k', yn Y1 k' = yn Y k' + (if k' = 7 then 1 else 0)) → gF Y S Y1 S1 → mFc Y S Y1 S1 → iO Y S M q1 Y1 S1 M1 → M1 q1 = some (.inr (c, fs.set fd (.ref (yA Y1 7 (yn Y 7))))) → sI S1 7 (yn Y 7) = ST7 → κ M1) : m_new M 10 [.int 0, .int 0] fun q M2 => m_rc M2 (some q) 10 fun b => wX5_init (fun M3 => m_p M3 (some q1) c fd (va_rf (some q)) κ) (some b) M2 := by
  refine r_new (fun q M2 hq h2 o2 => r_rc h2 ⟨q, rfl, r_p h2 (by simp) (fun M3 h3 o3 => ?_)⟩)
  have n1 := sne k1 hq
  have Fq := H.fr hq
  refine r_p ((o3 q1 n1).trans ((o2 q1 n1).trans k1)) hfd (fun M4 h4 o4 => ?_)
  have H4 : mR g Y S M4 := ((H.off Fq o2).off Fq o3).off F1 o4
  obtain ⟨Y1, S1, H5, A⟩ := H4.alloc2 (k := 7) Fq (fun f => match f with | 1 => 3 | _ => 0) (fun _ => 0) (fun _ => none) (fun _ => 0) [] 0 rfl (by decide) (by decide) (fun z => absurd z (by decide)) ((o4 q n1.symm).trans h3) (fun f t' ht' => by
    rcases f with _ | _ | f <;> cases ht' <;> exact ⟨fun z => absurd z (by decide), fun z => absurd z (by decide), fun z => absurd z (by decide), fun z => absurd z (by decide)⟩)
  refine h Y1 S1 M4 H5 A.cnt A.gF (A.F (by omega)) ⟨A.fO hq (fun z => absurd z (by decide)), fun q' z1 z2 => ?_⟩ ?_ A.2.2.2.2.2.1
  · have z3 : q' ≠ q := fun z => z2 (by rw [z]; exact hq)
    exact (o4 q' z1).trans ((o3 q' z3).trans (o2 q' z3))
  · rw [A.2.2.2.1]
    exact h4
theorem i_lands2 {q1 qr : Nat} {fs : List Value} {x : Option Nat} (hfs : fs[0]? = some (va_rf (some qr))) {Y0 : mY} {S0 : mS} (y0 : yn Y0 2 = 0) {κ : mM → Prop} (h : ∀ Y1 S1 M1 f1, mR g Y1 S1 M1 → gF Y0 S0 Y1 S1 → mFc Y0 S0 Y1 S1 → (∀ k', yn Y1 k' = yn Y0 k' + (if k' = 2 then 6 else 0)) → mFr Y1 S1 q1 → mFr Y1 S1 qr → M1 q1 = some (.inr (13, fs)) → M1 qr = some (.inl (3, 6, mRf f1)) → (∀ i, i < 6 → f1 i = some (yA Y1 2 i)) → (∀ i, i < 6 → sI S1 2 i = LD2 i) → κ M1) : ∀ (d j k9 n9 : Nat) (Y : mY) (S : mS) (M : mM) (f : Nat → Option Nat), mR g Y S M → gF Y0 S0 Y S → mFc Y0 S0 Y S → (∀ k', yn Y k' = yn Y0 k' + (if k' = 2 then j else 0)) → mFr Y S q1 → mFr Y S qr → M q1 = some (.inr (13, fs)) → M qr = some (.inl (3, 6, mRf f)) → (∀ i, i < j → f i = some (yA Y 2 i)) → (∀ i, i < j → sI S 2 i = LD2 i) → k9 ≤ 17 + j → n9 ≤ 764 + 7 * j → j + d = 6 → wX8_init_90 g κ (d + 1) k9 n9 (some q1) (nI j) M := by
  intro d
  induction d with
  | zero =>
    intro j k9 n9 Y S M f H G F c F1 Fr k1 kr hf hI hk hn hj
    have e : j = 6 := by omega
    subst e
    rw [wX8_init_90]
    exact ⟨⟨by omega, by omega⟩, br_t (show (6 : Int32) ≤ nI 6 from nI_le (a := 6) (by omega) (by omega)) ⟨⟨by omega, by omega⟩, h Y S M f H G F c F1 Fr k1 kr hf hI⟩⟩
  | succ d ih =>
    intro j k9 n9 Y S M f H G F c F1 Fr k1 kr hf hI hk hn hj
    have n1r : q1 ≠ qr := fun z => by rw [z, kr] at k1; cases k1
    rw [wX8_init_90]
    refine ⟨⟨by omega, by omega⟩, br_f (show ¬ (6 : Int32) ≤ nI j from nI_ge (b := 6) (by omega) (by omega)) (r_gR k1 hfs ⟨⟨by omega, by omega⟩, r_new (fun q M2 hq h2 o2 => r_rc h2 ⟨q, rfl, ?_⟩)⟩)⟩
    have nq1 := sne k1 hq
    have nqr := sne kr hq
    have Fq := H.fr hq
    refine r_p h2 (by simp) (fun M3 h3 o3 => ?_)
    refine r_p h3 (by simp) (fun M4 h4 o4 => ?_)
    refine r_p h4 (by simp) (fun M5 h5 o5 => ?_)
    refine r_p h5 (by simp) (fun M6 h6 o6 => ?_)
    have kr6 : M6 qr = _ := (o6 qr nqr).trans ((o5 qr nqr).trans ((o4 qr nqr).trans ((o3 qr nqr).trans ((o2 qr nqr).trans (kr)))))
    have k16 : M6 q1 = _ := (o6 q1 nq1).trans ((o5 q1 nq1).trans ((o4 q1 nq1).trans ((o3 q1 nq1).trans ((o2 q1 nq1).trans (k1)))))
    have H6 : mR g Y S M6 := ((((H.off Fq o2).off Fq o3).off Fq o4).off Fq o5).off Fq o6
    refine ⟨qr, 6, f, rfl, kr6, vp_in_nI (by omega) (by omega), fun y hy => by cases hy; exact ⟨7, _, h6, by omega, fun z => rfl, fun z => absurd z (by decide)⟩, ?_⟩
    rw [nI_clamp (by omega), nI_1]
    have o9 : ∀ a, a ≠ qr → m_up M6 qr (.inl (3, 6, mRf (va_up f j (some q)))) a = M6 a := fun a ha => m_up_n ha
    have k9r : m_up M6 qr (.inl (3, 6, mRf (va_up f j (some q)))) qr = some (.inl (3, 6, mRf (va_up f j (some q)))) := m_up_s _ _ _
    have goal : ∀ M9 : mM, (∀ a, a ≠ qr → M9 a = M6 a) → M9 qr = some (.inl (3, 6, mRf (va_up f j (some q)))) → wX8_init_90 g κ (d + 1) (k9 + 1) (n9 + 7) (some q1) (nI (j + 1)) M9 := by
      intro M9 o9 k9r
      have H9 := H6.off Fr o9
      have yj : yn Y 2 = j := by rw [c 2, if_pos rfl, y0]; omega
      obtain ⟨Y1, S1, H10, A⟩ := H9.alloc2 (k := 2) Fq (fun f => match f with | 0 => nI j | 1 => 10 | 2 => 20 | 3 => 5 | _ => 0) (fun _ => 0) (fun _ => none) (fun _ => 0) [] 0 rfl (by decide) (by decide) (fun z => absurd z (by decide)) ((o9 q nqr.symm).trans h6) (fun f t' ht' => by
        rcases f with _ | _ | _ | _ | _ | _ | _ | f <;> cases ht' <;> exact ⟨fun z => absurd z (by decide), fun z => absurd z (by decide), fun z => absurd z (by decide), fun z => absurd z (by decide)⟩)
      have e4 := A.2.2.2.1
      have e6 := A.2.2.2.2.2.1
      rw [yj] at e4 e6
      refine ih (j + 1) (k9 + 1) (n9 + 7) Y1 S1 M9 _ H10 (G.tr A.gF) (F.tr (A.F (by omega))) (fun k' => ?_) (A.fr F1 nq1.symm (fun z => absurd z (by decide))) (A.fr Fr nqr.symm (fun z => absurd z (by decide))) ((o9 q1 n1r).trans k16) k9r (fun i hi => ?_) (fun i hi => ?_) (by omega) (by omega) (by omega)
      · rw [A.cnt k', c k']
        split <;> omega
      · by_cases z : i = j
        · subst z
          rw [va_up_self, e4]
        · rw [va_up_ne _ _ z, hf i (by omega), A.1 2 i (by omega)]
      · by_cases z : i = j
        · subst z
          exact e6
        · have q := (A.gF.1 2 i (by omega)).2.1
          exact q.trans (hI i (by omega))
    exact goal _ o9 k9r
theorem i_lands22 {q1 qr : Nat} {fs : List Value} {x : Option Nat} (hfs : fs[6]? = some (va_rf (some qr))) {Y0 : mY} {S0 : mS} (y0 : yn Y0 22 = 0) {κ : mM → Prop} (h : ∀ Y1 S1 M1 f1, mR g Y1 S1 M1 → gF Y0 S0 Y1 S1 → mFm Y0 S0 Y1 S1 → (∀ k', yn Y1 k' = yn Y0 k' + (if k' = 22 then 6 else 0)) → mFr Y1 S1 q1 → mFr Y1 S1 qr → M1 q1 = some (.inr (19, fs)) → M1 qr = some (.inl (4, 6, mRf f1)) → (∀ i, i < 6 → f1 i = some (yA Y1 22 i)) → (∀ i, i < 6 → sI S1 22 i = LD22) → κ M1) : ∀ (d j k9 n9 : Nat) (Y : mY) (S : mS) (M : mM) (f : Nat → Option Nat), mR g Y S M → gF Y0 S0 Y S → mFm Y0 S0 Y S → (∀ k', yn Y k' = yn Y0 k' + (if k' = 22 then j else 0)) → mFr Y S q1 → mFr Y S qr → M q1 = some (.inr (19, fs)) → M qr = some (.inl (4, 6, mRf f)) → (∀ i, i < j → f i = some (yA Y 22 i)) → (∀ i, i < j → sI S 22 i = LD22) → k9 ≤ 6 + j → n9 ≤ 794 + 6 * j → j + d = 6 → wX14_init_73 g κ (d + 1) k9 n9 (some q1) (nI j) M := by
  intro d
  induction d with
  | zero =>
    intro j k9 n9 Y S M f H G F c F1 Fr k1 kr hf hI hk hn hj
    have e : j = 6 := by omega
    subst e
    rw [wX14_init_73]
    exact ⟨⟨by omega, by omega⟩, br_t (show (6 : Int32) ≤ nI 6 from nI_le (a := 6) (by omega) (by omega)) ⟨⟨by omega, by omega⟩, h Y S M f H G F c F1 Fr k1 kr hf hI⟩⟩
  | succ d ih =>
    intro j k9 n9 Y S M f H G F c F1 Fr k1 kr hf hI hk hn hj
    have n1r : q1 ≠ qr := fun z => by rw [z, kr] at k1; cases k1
    rw [wX14_init_73]
    refine ⟨⟨by omega, by omega⟩, br_f (show ¬ (6 : Int32) ≤ nI j from nI_ge (b := 6) (by omega) (by omega)) (r_gR k1 hfs ⟨⟨by omega, by omega⟩, r_new (fun q M2 hq h2 o2 => r_rc h2 ⟨q, rfl, ?_⟩)⟩)⟩
    have nq1 := sne k1 hq
    have nqr := sne kr hq
    have Fq := H.fr hq
    refine r_p h2 (by simp) (fun M3 h3 o3 => ?_)
    refine r_p h3 (by simp) (fun M4 h4 o4 => ?_)
    refine r_p h4 (by simp) (fun M5 h5 o5 => ?_)
    have kr5 : M5 qr = _ := (o5 qr nqr).trans ((o4 qr nqr).trans ((o3 qr nqr).trans ((o2 qr nqr).trans (kr))))
    have k15 : M5 q1 = _ := (o5 q1 nq1).trans ((o4 q1 nq1).trans ((o3 q1 nq1).trans ((o2 q1 nq1).trans (k1))))
    have H5 : mR g Y S M5 := (((H.off Fq o2).off Fq o3).off Fq o4).off Fq o5
    refine ⟨qr, 6, f, rfl, kr5, vp_in_nI (by omega) (by omega), fun y hy => by cases hy; exact ⟨16, _, h5, by omega, fun z => absurd z (by decide), fun z => rfl⟩, ?_⟩
    rw [nI_clamp (by omega), nI_1]
    have o9 : ∀ a, a ≠ qr → m_up M5 qr (.inl (4, 6, mRf (va_up f j (some q)))) a = M5 a := fun a ha => m_up_n ha
    have k9r : m_up M5 qr (.inl (4, 6, mRf (va_up f j (some q)))) qr = some (.inl (4, 6, mRf (va_up f j (some q)))) := m_up_s _ _ _
    have goal : ∀ M9 : mM, (∀ a, a ≠ qr → M9 a = M5 a) → M9 qr = some (.inl (4, 6, mRf (va_up f j (some q)))) → wX14_init_73 g κ (d + 1) (k9 + 1) (n9 + 6) (some q1) (nI (j + 1)) M9 := by
      intro M9 o9 k9r
      have H9 := H5.off Fr o9
      have yj : yn Y 22 = j := by rw [c 22, if_pos rfl, y0]; omega
      obtain ⟨Y1, S1, H10, A⟩ := H9.alloc2 (k := 22) Fq (fun f => match f with | 0 => 10 | 1 => 20 | 2 => 5 | _ => 0) (fun _ => 0) (fun _ => none) (fun _ => 0) [] 0 rfl (by decide) (by decide) (fun z => absurd z (by decide)) ((o9 q nqr.symm).trans h5) (fun f t' ht' => by
        rcases f with _ | _ | _ | _ | _ | _ | f <;> cases ht' <;> exact ⟨fun z => absurd z (by decide), fun z => absurd z (by decide), fun z => absurd z (by decide), fun z => absurd z (by decide)⟩)
      have e4 := A.2.2.2.1
      have e6 := A.2.2.2.2.2.1
      rw [yj] at e4 e6
      refine ih (j + 1) (k9 + 1) (n9 + 6) Y1 S1 M9 _ H10 (G.tr A.gF) (F.tr (A.Fm (by omega))) (fun k' => ?_) (A.fr F1 nq1.symm (fun z => absurd z (by decide))) (A.fr Fr nqr.symm (fun z => absurd z (by decide))) ((o9 q1 n1r).trans k15) k9r (fun i hi => ?_) (fun i hi => ?_) (by omega) (by omega) (by omega)
      · rw [A.cnt k', c k']
        split <;> omega
      · by_cases z : i = j
        · subst z
          rw [va_up_self, e4]
        · rw [va_up_ne _ _ z, hf i (by omega), A.1 22 i (by omega)]
      · by_cases z : i = j
        · subst z
          exact e6
        · have q := (A.gF.1 22 i (by omega)).2.1
          exact q.trans (hI i (by omega))
    exact goal _ o9 k9r
theorem c_init (H : mR g Y S M) {q1 : Nat} (F1 : mFr Y S q1) (k1 : M q1 = some (.inr (13, [.null, .null, .null, .null, .null, .null, .null, .null, .int 0, .int 0, .int 0]))) (hz : ∀ k, k < 20 → yn Y k = 0) {κ : mM → Prop} (h : ∀ Y1 S1 M1, mR g Y1 S1 M1 → mWs Y1 S1 → mWq Y1 S1 → mFc Y S Y1 S1 → (∀ l, l < 6 → sI S1 2 l = LD2 l) → (yn Y1 3 = 0 ∧ yn Y1 4 = 0 ∧ sI S1 0 0 8 = 0 ∧ sI S1 0 0 9 = 0 ∧ sI S1 0 0 10 = 0 ∧ yn Y1 5 = 0 ∧ yn Y1 6 = 0 ∧ sI S1 7 0 = ST7) → yA Y1 0 0 = q1 → κ M1) : wX8_init g κ (some q1) M := by
  refine ⟨q1, rfl, ⟨by omega, by omega⟩, r_newR (N := 6) (by omega) (by omega) (fun qr M2 hqr h2 o2 => ?_)⟩
  have n1 := sne k1 hqr
  have Fr := H.fr hqr
  refine r_p ((o2 q1 n1).trans k1) (by simp) (fun M3 h3 o3 => ⟨⟨by omega, by omega⟩, ?_⟩)
  have H3 := (H.off Fr o2).off F1 o3
  have kr := (o3 qr n1.symm).trans h2
  refine i_list H3 F1 h3 (fd := 1) (by simp) (Or.inl rfl) (fun Ya Sa Ma Ha ca Ga fa la Oa ka => ⟨⟨by omega, by omega⟩, ?_⟩)
  have F1a := Oa.1 q1 F1 (sn h3)
  have Fra := Oa.1 qr Fr (sn kr)
  have kra := (Oa.2 qr n1.symm (sn kr)).trans kr
  refine i_list Ha F1a ka (fd := 2) (by simp) (Or.inl rfl) (fun Yb Sb Mb Hb cb Gb fb lb Ob kb => ⟨⟨by omega, by omega⟩, ?_⟩)
  have F1b := Ob.1 q1 F1a (sn ka)
  have Frb := Ob.1 qr Fra (sn kra)
  have krb := (Ob.2 qr n1.symm (sn kra)).trans kra
  refine i_list Hb F1b kb (fd := 3) (by simp) (Or.inl rfl) (fun Yc Sc Mc Hc cc Gc fc lc Oc kc => ⟨⟨by omega, by omega⟩, ?_⟩)
  have F1c := Oc.1 q1 F1b (sn kb)
  have Frc := Oc.1 qr Frb (sn krb)
  have krc := (Oc.2 qr n1.symm (sn krb)).trans krb
  refine i_list Hc F1c kc (fd := 4) (by simp) (Or.inl rfl) (fun Yd Sd Md Hd cd Gd fd ld Od kd => ⟨⟨by omega, by omega⟩, ?_⟩)
  have F1d := Od.1 q1 F1c (sn kc)
  have Frd := Od.1 qr Frc (sn krc)
  have krd := (Od.2 qr n1.symm (sn krc)).trans krc
  refine i_stat Hd F1d kd (fd := 5) (by simp) (fun Ye Se Me He ce Ge fe Oe ke k7 => ⟨⟨by omega, by omega⟩, ?_⟩)
  have F1e := Oe.1 q1 F1d (sn kd)
  have Fre := Oe.1 qr Frd (sn krd)
  have kre := (Oe.2 qr n1.symm (sn krd)).trans krd
  have y12 : yn Y 12 = 0 := hz 12 (by omega)
  have y12a : yn Ya 12 = 1 := by rw [ca 12, if_pos rfl, y12]
  have y12b : yn Yb 12 = 2 := by rw [cb 12, if_pos rfl, y12a]
  have y12c : yn Yc 12 = 3 := by rw [cc 12, if_pos rfl, y12b]
  have y7d : yn Yd 7 = 0 := by rw [cd 7, cc 7, cb 7, ca 7, hz 7 (by omega)]; rfl
  have y9e : yn Ye 9 = 0 := by rw [ce 9, cd 9, cc 9, cb 9, ca 9, hz 9 (by omega)]; rfl
  have y8e : yn Ye 8 = 0 := by rw [ce 8, cd 8, cc 8, cb 8, ca 8, hz 8 (by omega)]; rfl
  refine i_mna He F1e ke (fd := 6) (by simp) y9e y8e (fun Yf Sf Mf Hf cf Gf ff s9 s8 p8 Of kf => ⟨⟨by omega, by omega⟩, ?_⟩)
  have F1f := Of.1 q1 F1e (sn ke)
  have Frf := Of.1 qr Fre (sn kre)
  have krf := (Of.2 qr n1.symm (sn kre)).trans kre
  have y9f : yn Yf 9 = 9 := by rw [cf 9, y9e]; rfl
  refine i_row (n := 6) Hf F1f kf (fd := 7) (by simp) (Or.inl ⟨rfl, rfl⟩) (by omega) (by omega) (fun Yg Sg Mg Hg cg Gg fg sg Og kg => ?_)
  have F1g := Og.1 q1 F1f (sn kf)
  have Frg := Og.1 qr Frf (sn krf)
  have krg := (Og.2 qr n1.symm (sn krf)).trans krf
  have y2g : yn Yg 2 = 0 := by rw [cg 2, cf 2, ce 2, cd 2, cc 2, cb 2, ca 2, hz 2 (by omega)]; rfl
  refine ⟨7, i_lands2 (x := none) rfl y2g (fun Yh Sh Mh f1 Hh Gh fh ch F1h Frh kh krh hf1 hI => ?_) 6 0 _ _ Yg Sg Mg _ Hg (gF.rf _ _) (mFc.rf _ _) (fun k' => by split <;> rfl) F1g Frg kg krg (fun i hi => absurd hi (by omega)) (fun i hi => absurd hi (by omega)) (by omega) (by omega) (by omega)⟩
  obtain ⟨Yi, Si, Hi, Ai, si, pi⟩ := Hh.allocR (k := 1) Frh (by decide) rfl rfl (by decide) (by decide) rfl krh
  have nr : qr ≠ q1 := n1.symm
  have F1i := Ai.fr F1h nr (fun z => absurd z (by decide))
  -- what has been put into the object lies there still
  have Gi := Ai.gF
  have y1h : yn Yh 1 = 0 := by rw [ch 1, cg 1, cf 1, ce 1, cd 1, cc 1, cb 1, ca 1, hz 1 (by omega)]; rfl
  have ei := Ai.2.2.2.1
  rw [y1h] at ei si pi
  have Ghi := Gh.tr Gi
  have Ggi := Gg.tr Ghi
  have Gfi := Gf.tr Ggi
  have Gei := Ge.tr Gfi
  have Gdi := Gd.tr Gei
  have Gci := Gc.tr Gdi
  have Gbi := Gb.tr Gci
  have a12a : yA Yi 12 0 = yA Ya 12 0 := (Gbi.1 12 0 (by omega)).1
  have y12d : yn Yd 12 = 4 := by rw [cd 12, if_pos rfl, y12c]
  have a12b : yA Yi 12 1 = yA Yb 12 1 := (Gci.1 12 1 (by omega)).1
  have a12c : yA Yi 12 2 = yA Yc 12 2 := (Gdi.1 12 2 (by omega)).1
  have a12d : yA Yi 12 3 = yA Yd 12 3 := (Gei.1 12 3 (by omega)).1
  have y7e : yn Ye 7 = 1 := by rw [ce 7, if_pos rfl, y7d]
  have a7 : yA Yi 7 0 = yA Ye 7 0 := (Gfi.1 7 0 (by omega)).1
  have y8f : yn Yf 8 = 1 := by rw [cf 8, y8e]; rfl
  have a8 : yA Yi 8 0 = yA Yf 8 0 := (Ggi.1 8 0 (by omega)).1
  have y9g : yn Yg 9 = 10 := by rw [cg 9, if_pos rfl, y9f]
  have a9 : yA Yi 9 9 = yA Yg 9 9 := (Ghi.1 9 9 (by omega)).1
  rw [y12, y12a, y12b, y12c, y7d, y9f, ← a12a, ← a12b, ← a12c, ← a12d, ← a7, ← a8, ← a9, ← ei] at kh
  have c1 : yn Yi 1 = 1 := by rw [Ai.cnt 1, if_pos rfl, y1h]
  have c12 : yn Yi 12 = 4 := by rw [Ai.cnt 12, ch 12, cg 12, cf 12, ce 12, y12d]; rfl
  have c7 : yn Yi 7 = 1 := by rw [Ai.cnt 7, ch 7, cg 7, cf 7, y7e]; rfl
  have c8 : yn Yi 8 = 1 := by rw [Ai.cnt 8, ch 8, cg 8, y8f]; rfl
  have c9 : yn Yi 9 = 10 := by rw [Ai.cnt 9, ch 9, y9g]; rfl
  have c2 : yn Yi 2 = 6 := by rw [Ai.cnt 2, ch 2, y2g]; rfl
  have cz : ∀ k, k < 20 → k ≠ 1 → k ≠ 2 → k ≠ 7 → k ≠ 8 → k ≠ 9 → k ≠ 12 → yn Yi k = 0 := fun k hk z1 z2 z7 z8 z9 z12 => by
    rw [Ai.cnt k, ch k, cg k, cf k, ce k, cd k, cc k, cb k, ca k, hz k hk, if_neg z1, if_neg z2, if_neg z7, if_neg z8, if_neg z9, if_neg z9, if_neg z12]
  obtain ⟨Yj, Sj, Hj, Aj⟩ := Hi.alloc2 (k := 0) F1i (fun _ => 0) (fun _ => 0) (fun _ => none) (fun _ => 0) [] 0 rfl (by decide) (by decide) (fun z => absurd z (by decide)) (by
      rw [kh]
      rfl) (fun f t' ht' => by
    rcases f with _ | _ | _ | _ | _ | _ | _ | _ | _ | _ | _ | f <;> cases ht' <;> refine ⟨fun z => absurd z (by decide), fun z => absurd z (by decide), fun zz => ?_, fun z => absurd z (by decide)⟩
    · exact Nat.lt_of_lt_of_le (show 0 < yn Yi 1 by omega) aY_le
    · exact Nat.lt_of_lt_of_le (show 0 < yn Yi 12 by omega) aY_le
    · exact Nat.lt_of_lt_of_le (show 1 < yn Yi 12 by omega) aY_le
    · exact Nat.lt_of_lt_of_le (show 2 < yn Yi 12 by omega) aY_le
    · exact Nat.lt_of_lt_of_le (show 3 < yn Yi 12 by omega) aY_le
    · exact Nat.lt_of_lt_of_le (show 0 < yn Yi 7 by omega) aY_le
    · exact Nat.lt_of_lt_of_le (show 0 < yn Yi 8 by omega) aY_le
    · exact Nat.lt_of_lt_of_le (show 9 < yn Yi 9 by omega) aY_le
    all_goals exact absurd zz (by decide))
  have ej := Aj.2.2.2.1
  have c0 : yn Yi 0 = 0 := cz 0 (by omega) (by omega) (by omega) (by omega) (by omega) (by omega) (by omega)
  rw [c0] at ej
  have Gj := Aj.gF
  have cj : ∀ k, k ≠ 0 → yn Yj k = yn Yi k := fun k hk => by rw [Aj.cnt k, if_neg hk]; rfl
  have Lj : ∀ i, i < 4 → sL Sj 12 i = [] := fun i hi => by
    rw [(Gj.1 12 i (by omega)).2.2.2.2.2.1]
    have : i = 0 ∨ i = 1 ∨ i = 2 ∨ i = 3 := by omega
    rw [y12] at la
    rw [y12a] at lb
    rw [y12b] at lc
    rw [y12c] at ld
    rcases this with rfl | rfl | rfl | rfl
    · exact ((Gbi.1 12 0 (by omega)).2.2.2.2.2.1).trans la
    · exact ((Gci.1 12 1 (by omega)).2.2.2.2.2.1).trans lb
    · exact ((Gdi.1 12 2 (by omega)).2.2.2.2.2.1).trans lc
    · exact ((Gei.1 12 3 (by omega)).2.2.2.2.2.1).trans ld
  have z3 : yn Yj 3 = 0 := by rw [cj 3 (by omega)]; exact cz 3 (by omega) (by omega) (by omega) (by omega) (by omega) (by omega) (by omega)
  have z4 : yn Yj 4 = 0 := by rw [cj 4 (by omega)]; exact cz 4 (by omega) (by omega) (by omega) (by omega) (by omega) (by omega) (by omega)
  have z5 : yn Yj 5 = 0 := by rw [cj 5 (by omega)]; exact cz 5 (by omega) (by omega) (by omega) (by omega) (by omega) (by omega) (by omega)
  have z6 : yn Yj 6 = 0 := by rw [cj 6 (by omega)]; exact cz 6 (by omega) (by omega) (by omega) (by omega) (by omega) (by omega) (by omega)
  have z10 : yn Yj 10 = 0 := by rw [cj 10 (by omega)]; exact cz 10 (by omega) (by omega) (by omega) (by omega) (by omega) (by omega) (by omega)
  have z11 : yn Yj 11 = 0 := by rw [cj 11 (by omega)]; exact cz 11 (by omega) (by omega) (by omega) (by omega) (by omega) (by omega) (by omega)
  have z13 : yn Yj 13 = 0 := by rw [cj 13 (by omega)]; exact cz 13 (by omega) (by omega) (by omega) (by omega) (by omega) (by omega) (by omega)
  have e60 := Aj.2.2.2.2.2.1
  rw [c0] at e60
  have I2 : ∀ i, i < 6 → sI Sj 2 i = LD2 i := fun i hi => (((Gi.tr Gj).1 2 i (by rw [ch 2, y2g]; exact hi)).2.1).trans (hI i hi)
  have I7 : sI Sj 7 0 = ST7 := by
    rw [y7d] at k7
    exact (((Gfi.tr Gj).1 7 0 (by omega)).2.1).trans k7
  refine h Yj Sj Mh Hj ⟨⟨by rw [Aj.cnt 0, if_pos rfl, c0], by rw [cj 1 (by omega)]; exact c1, by rw [cj 2 (by omega)]; exact c2, by rw [cj 7 (by omega)]; exact c7, by rw [cj 8 (by omega)]; exact c8, by rw [cj 9 (by omega)]; exact c9, by rw [cj 12 (by omega)]; exact c12, by rw [z10, z3], by rw [z11, z3], by rw [z13, z3]⟩, by rw [z3, z4, z5, z6]; omega, by rw [z3, z4, z5, z6, Lj 0 (by omega), Lj 1 (by omega), Lj 2 (by omega), Lj 3 (by omega)]; exact ⟨rfl, rfl, rfl, rfl⟩, ⟨fun i hi => congrFun (I2 i hi) 0, fun i hi => absurd hi (by omega), fun i hi => absurd hi (by omega), fun i hi => absurd hi (by omega)⟩, ⟨?_, fun i hi => ?_⟩, ⟨?_, fun i hi => ?_⟩, fun i hi => ?_, ?_⟩ ⟨fun t ht => absurd ht (by omega), fun s t hs => absurd hs (by omega)⟩ ?_ I2 ⟨z3, z4, congrFun e60 8, congrFun e60 9, congrFun e60 10, z5, z6, I7⟩ ej
  · exact ((Gj.1 1 0 (by omega)).2.2.2.2.2.2.2.1).trans si
  · rw [congrFun (Gj.1 1 0 (by omega)).2.2.2.2.2.2.2.2.2 i, pi, hf1 i hi, ((Gi.tr Gj).1 2 i (by rw [ch 2, y2g]; exact hi)).1]
  · exact (((Ggi.tr Gj).1 8 0 (by omega)).2.2.2.2.2.2.2.1).trans s8
  · rw [congrFun ((Ggi.tr Gj).1 8 0 (by omega)).2.2.2.2.2.2.2.2.2 i, p8 i hi, ((Ggi.tr Gj).1 9 i (by omega)).1]
  · exact (((Ggi.tr Gj).1 9 i (by omega)).2.2.2.2.2.2.2.1).trans (s9 i hi)
  · rw [y9f] at sg
    exact (((Ghi.tr Gj).1 9 9 (by omega)).2.2.2.2.2.2.2.1).trans sg
  · exact ((((((((fa.1 rfl).tr (fb.1 rfl)).tr (fc.1 rfl)).tr (fd.1 rfl)).tr fe).tr ff).tr (fg.1 rfl)).tr fh).tr ((Ai.F (by omega)).tr (Aj.F (by omega)))
end INIT2
section INIT3
variable {g : Nat → Nat} {Y : mY} {S : mS} {M : mM}
theorem v_init (H : mR g Y S M) {q1 : Nat} (F1 : mFr Y S q1) (k1 : M q1 = some (.inr (19, [.int 0, .int 0, .int 0, .int 0, .int 0, .int 0, .null, .null, .null, .null, .null, .null, .long 0]))) (hz : ∀ k, 20 ≤ k → k < 30 → yn Y k = 0) (hb : yn Y 30 = 128 ∧ yn Y 33 = 1) (hc : (∀ v, v < 128 → sI S 30 v 0 = nI v) ∧ sC S 33 0 = 256 ∧ ∀ v, v < 128 → sP S 33 0 (128 + v) = some (yA Y 30 v)) {κ : mM → Prop} (h : ∀ Y1 S1 M1, mVI g Y1 S1 M1 → mFm Y S Y1 S1 → (∀ l, l < 6 → sI S1 22 l = LD22) → (yn Y1 23 = 0 ∧ yn Y1 28 = 0 ∧ sI S1 20 0 1 = 0 ∧ sI S1 20 0 2 = 0 ∧ yn Y1 29 = 0 ∧ sI S1 20 0 3 = 3 ∧ sI S1 20 0 4 = 0 ∧ sI S1 20 0 5 = 0 ∧ sL S1 24 3 = []) → yA Y1 20 0 = q1 → κ M1) : wX14_init g κ (some q1) M := by
  refine ⟨q1, rfl, r_p k1 (by simp) (fun M0 h0 o0 => ⟨⟨by omega, by omega⟩, r_newR (N := 6) (by omega) (by omega) (fun qr M2 hqr h2 o2 => ?_)⟩)⟩
  have H0 := H.off F1 o0
  have n1 := sne h0 hqr
  have Fr := H0.fr hqr
  refine r_p ((o2 q1 n1).trans h0) (by simp) (fun M3 h3 o3 => ⟨⟨by omega, by omega⟩, ?_⟩)
  have H3 := (H0.off Fr o2).off F1 o3
  have kr := (o3 qr n1.symm).trans h2
  refine i_list H3 F1 h3 (fd := 7) (by simp) (Or.inr rfl) (fun Ya Sa Ma Ha ca Ga fa la Oa ka => ⟨⟨by omega, by omega⟩, ?_⟩)
  have F1a := Oa.1 q1 F1 (sn h3)
  have Fra := Oa.1 qr Fr (sn kr)
  have kra := (Oa.2 qr n1.symm (sn kr)).trans kr
  refine i_list Ha F1a ka (fd := 8) (by simp) (Or.inr rfl) (fun Yb Sb Mb Hb cb Gb fb lb Ob kb => ⟨⟨by omega, by omega⟩, ?_⟩)
  have F1b := Ob.1 q1 F1a (sn ka)
  have Frb := Ob.1 qr Fra (sn kra)
  have krb := (Ob.2 qr n1.symm (sn kra)).trans kra
  refine i_list Hb F1b kb (fd := 9) (by simp) (Or.inr rfl) (fun Yc Sc Mc Hc cc Gc fc lc Oc kc => ⟨⟨by omega, by omega⟩, ?_⟩)
  have F1c := Oc.1 q1 F1b (sn kb)
  have Frc := Oc.1 qr Frb (sn krb)
  have krc := (Oc.2 qr n1.symm (sn krb)).trans krb
  refine i_list Hc F1c kc (fd := 10) (by simp) (Or.inr rfl) (fun Yd Sd Md Hd cd Gd fd ld Od kd => ⟨⟨by omega, by omega⟩, ?_⟩)
  have F1d := Od.1 q1 F1c (sn kc)
  have Frd := Od.1 qr Frc (sn krc)
  have krd := (Od.2 qr n1.symm (sn krc)).trans krc
  have y24 : yn Y 24 = 0 := hz 24 (by omega) (by omega)
  have y24a : yn Ya 24 = 1 := by rw [ca 24, if_pos rfl, y24]
  have y24b : yn Yb 24 = 2 := by rw [cb 24, if_pos rfl, y24a]
  have y24c : yn Yc 24 = 3 := by rw [cc 24, if_pos rfl, y24b]
  have y24d : yn Yd 24 = 4 := by rw [cd 24, if_pos rfl, y24c]
  have y27d : yn Yd 27 = 0 := by rw [cd 27, cc 27, cb 27, ca 27, hz 27 (by omega) (by omega)]; rfl
  refine i_row (n := 776) Hd F1d kd (fd := 11) (by simp) (Or.inr ⟨rfl, rfl⟩) (by omega) (by omega) (fun Yg Sg Mg Hg cg Gg fg sg Og kg => ?_)
  have F1g := Og.1 q1 F1d (sn kd)
  have Frg := Og.1 qr Frd (sn krd)
  have krg := (Og.2 qr n1.symm (sn krd)).trans krd
  have y22g : yn Yg 22 = 0 := by rw [cg 22, cd 22, cc 22, cb 22, ca 22, hz 22 (by omega) (by omega)]; rfl
  refine ⟨7, i_lands22 (x := none) rfl y22g (fun Yh Sh Mh f1 Hh Gh fh ch F1h Frh kh krh hf1 hI => ?_) 6 0 _ _ Yg Sg Mg _ Hg (gF.rf _ _) (mFm.rf _ _) (fun k' => by split <;> rfl) F1g Frg kg krg (fun i hi => absurd hi (by omega)) (fun i hi => absurd hi (by omega)) (by omega) (by omega) (by omega)⟩
  obtain ⟨Yi, Si, Hi, Ai, si, pi⟩ := Hh.allocR (k := 21) Frh (by decide) rfl rfl (by decide) (by decide) rfl krh
  have nr : qr ≠ q1 := n1.symm
  have F1i := Ai.fr F1h nr (fun z => absurd z (by decide))
  have Gi := Ai.gF
  have y21h : yn Yh 21 = 0 := by rw [ch 21, cg 21, cd 21, cc 21, cb 21, ca 21, hz 21 (by omega) (by omega)]; rfl
  have ei := Ai.2.2.2.1
  rw [y21h] at ei si pi
  have Ghi := Gh.tr Gi
  have Gei := Gg.tr Ghi
  have Gdi := Gd.tr Gei
  have Gci := Gc.tr Gdi
  have Gbi := Gb.tr Gci
  have Gai := Ga.tr Gbi
  have a24a : yA Yi 24 0 = yA Ya 24 0 := (Gbi.1 24 0 (by omega)).1
  have a24b : yA Yi 24 1 = yA Yb 24 1 := (Gci.1 24 1 (by omega)).1
  have a24c : yA Yi 24 2 = yA Yc 24 2 := (Gdi.1 24 2 (by omega)).1
  have a24d : yA Yi 24 3 = yA Yd 24 3 := (Gei.1 24 3 (by omega)).1
  have y27g : yn Yg 27 = 1 := by rw [cg 27, if_pos rfl, y27d]
  have a27 : yA Yi 27 0 = yA Yg 27 0 := (Ghi.1 27 0 (by omega)).1
  rw [y24, y24a, y24b, y24c, y27d, ← a24a, ← a24b, ← a24c, ← a24d, ← a27, ← ei] at kh
  have c21 : yn Yi 21 = 1 := by rw [Ai.cnt 21, if_pos rfl, y21h]
  have c24 : yn Yi 24 = 4 := by rw [Ai.cnt 24, ch 24, cg 24, y24d]; rfl
  have c27 : yn Yi 27 = 1 := by rw [Ai.cnt 27, ch 27, y27g]; rfl
  have c22 : yn Yi 22 = 6 := by rw [Ai.cnt 22, ch 22, y22g]; rfl
  have ck : ∀ k, k ≠ 21 → k ≠ 22 → k ≠ 24 → k ≠ 27 → yn Yi k = yn Y k := fun k z1 z2 z3 z4 => by
    rw [Ai.cnt k, ch k, cg k, cd k, cc k, cb k, ca k, if_neg z1, if_neg z2, if_neg z4, if_neg z3]
    rfl
  obtain ⟨Yj, Sj, Hj, Aj⟩ := Hi.alloc2 (k := 20) F1i (fun f => match f with | 3 => 3 | _ => 0) (fun _ => 0) (fun _ => none) (fun _ => 0) [] 0 rfl (by decide) (by decide) (fun z => absurd z (by decide)) (by
      rw [kh]
      rfl) (fun f t' ht' => by
    rcases f with _ | _ | _ | _ | _ | _ | _ | _ | _ | _ | _ | _ | _ | f <;> cases ht' <;> refine ⟨fun z => absurd z (by decide), fun z => absurd z (by decide), fun zz => ?_, fun z => absurd z (by decide)⟩
    · exact absurd zz (by decide)
    · exact absurd zz (by decide)
    · exact absurd zz (by decide)
    · exact absurd zz (by decide)
    · exact absurd zz (by decide)
    · exact absurd zz (by decide)
    · exact Nat.lt_of_lt_of_le (show 0 < yn Yi 21 by omega) aY_le
    · exact Nat.lt_of_lt_of_le (show 0 < yn Yi 24 by omega) aY_le
    · exact Nat.lt_of_lt_of_le (show 1 < yn Yi 24 by omega) aY_le
    · exact Nat.lt_of_lt_of_le (show 2 < yn Yi 24 by omega) aY_le
    · exact Nat.lt_of_lt_of_le (show 3 < yn Yi 24 by omega) aY_le
    · exact Nat.lt_of_lt_of_le (show 0 < yn Yi 27 by omega) aY_le
    · exact absurd zz (by decide))
  have ej := Aj.2.2.2.1
  have e6 := Aj.2.2.2.2.2.1
  have c20 : yn Yi 20 = 0 := by rw [ck 20 (by omega) (by omega) (by omega) (by omega)]; exact hz 20 (by omega) (by omega)
  rw [c20] at ej e6
  have Gj := Aj.gF
  have cj : ∀ k, k ≠ 20 → yn Yj k = yn Yi k := fun k hk => by rw [Aj.cnt k, if_neg hk]; rfl
  have cjk : ∀ k, k ≠ 20 → k ≠ 21 → k ≠ 22 → k ≠ 24 → k ≠ 27 → yn Yj k = yn Y k := fun k z0 z1 z2 z3 z4 => (cj k z0).trans (ck k z1 z2 z3 z4)
  have z23 : yn Yj 23 = 0 := (cjk 23 (by omega) (by omega) (by omega) (by omega) (by omega)).trans (hz 23 (by omega) (by omega))
  have z25 : yn Yj 25 = 0 := (cjk 25 (by omega) (by omega) (by omega) (by omega) (by omega)).trans (hz 25 (by omega) (by omega))
  have z26 : yn Yj 26 = 0 := (cjk 26 (by omega) (by omega) (by omega) (by omega) (by omega)).trans (hz 26 (by omega) (by omega))
  have z28 : yn Yj 28 = 0 := (cjk 28 (by omega) (by omega) (by omega) (by omega) (by omega)).trans (hz 28 (by omega) (by omega))
  have z29 : yn Yj 29 = 0 := (cjk 29 (by omega) (by omega) (by omega) (by omega) (by omega)).trans (hz 29 (by omega) (by omega))
  have z30 : yn Yj 30 = 128 := (cjk 30 (by omega) (by omega) (by omega) (by omega) (by omega)).trans hb.1
  have z33 : yn Yj 33 = 1 := (cjk 33 (by omega) (by omega) (by omega) (by omega) (by omega)).trans hb.2
  have Lj : ∀ i, i < 4 → sL Sj 24 i = [] := fun i hi => by
    rw [(Gj.1 24 i (by omega)).2.2.2.2.2.1]
    have : i = 0 ∨ i = 1 ∨ i = 2 ∨ i = 3 := by omega
    rw [y24] at la
    rw [y24a] at lb
    rw [y24b] at lc
    rw [y24c] at ld
    rcases this with rfl | rfl | rfl | rfl
    · exact ((Gbi.1 24 0 (by omega)).2.2.2.2.2.1).trans la
    · exact ((Gci.1 24 1 (by omega)).2.2.2.2.2.1).trans lb
    · exact ((Gdi.1 24 2 (by omega)).2.2.2.2.2.1).trans lc
    · exact ((Gei.1 24 3 (by omega)).2.2.2.2.2.1).trans ld
  have GA := Gai.tr Gj
  refine h Yj Sj Mh ⟨Hj, ⟨⟨by rw [Aj.cnt 20, if_pos rfl, c20], by rw [cj 21 (by omega)]; exact c21, by rw [cj 22 (by omega)]; exact c22, by rw [cj 24 (by omega)]; exact c24, by rw [cj 27 (by omega)]; exact c27, z30, z33, by rw [z25, z23], by rw [z26, z23]⟩, by rw [z23, z28, z29]; omega, ?_, ⟨fun v hv => ?_, ?_, fun v hv => ?_⟩, ⟨?_, fun i hi => ?_, fun t ht => absurd ht (by omega), ?_⟩⟩, ⟨fun k i f hi => ?_, fun p hp => absurd hp (by omega)⟩, ⟨fun t ht => absurd ht (by omega), fun s hs => absurd hs (by omega)⟩, ⟨0, 0, by omega, by omega, congrFun e6 1, congrFun e6 2⟩⟩ ?_ (fun l hl => ?_) ⟨z23, z28, congrFun e6 1, congrFun e6 2, z29, congrFun e6 3, congrFun e6 4, congrFun e6 5, Lj 3 (by omega)⟩ ej
  · rw [z23, z28, z29, Lj 0 (by omega), Lj 1 (by omega), Lj 2 (by omega), Lj 3 (by omega)]
    exact ⟨rfl, rfl, rfl, 0, by omega, rfl, fun j v hj => by cases hj⟩
  · exact (congrFun (GA.1 30 v (by omega)).2.1 0).trans (hc.1 v hv)
  · exact ((GA.1 33 0 (by omega)).2.2.2.2.2.2.2.1).trans hc.2.1
  · rw [congrFun (GA.1 33 0 (by omega)).2.2.2.2.2.2.2.2.2 (128 + v), hc.2.2 v hv, (GA.1 30 v (by omega)).1]
  · exact ((Gj.1 21 0 (by omega)).2.2.2.2.2.2.2.1).trans si
  · rw [congrFun (Gj.1 21 0 (by omega)).2.2.2.2.2.2.2.2.2 i, pi, hf1 i hi, ((Gi.tr Gj).1 22 i (by rw [ch 22, y22g]; exact hi)).1]
  · rw [y27d] at sg
    exact (((Ghi.tr Gj).1 27 0 (by omega)).2.2.2.2.2.2.2.1).trans sg
  · unfold vOK
    split
    · exact absurd hi (by omega)
    · exact absurd hi (by omega)
    · exact absurd hi (by omega)
    · trivial
  · exact ((((((fa.2 rfl).tr (fb.2 rfl)).tr (fc.2 rfl)).tr (fd.2 rfl)).tr (fg.2 rfl)).tr fh).tr ((Ai.Fm (by omega)).tr (Aj.Fm (by omega)))
  · exact (((Gi.tr Gj).1 22 l (by rw [ch 22, y22g]; exact hl)).2.1).trans (hI l hl)
end INIT3
