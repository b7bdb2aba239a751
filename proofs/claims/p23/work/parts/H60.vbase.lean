/-! THE PURE SIDE, 11: the reference's structure; its small methods -/
def mVs (Y : mY) (S : mS) : Prop :=
  (yn Y 20 = 1 ∧ yn Y 21 = 1 ∧ yn Y 22 = 6 ∧ yn Y 24 = 4 ∧ yn Y 27 = 1 ∧ yn Y 30 = 128 ∧ yn Y 33 = 1 ∧ yn Y 25 = yn Y 23 ∧ yn Y 26 = yn Y 23) ∧
  (yn Y 23 ≤ 8 ∧ yn Y 28 ≤ 12 ∧ yn Y 29 ≤ 24) ∧
  (sL S 24 0 = List.range (yn Y 23) ∧ sL S 24 1 = List.range (yn Y 28) ∧ sL S 24 2 = List.range (yn Y 29) ∧ ∃ h, h ≤ 40 ∧ (sL S 24 3).length = 3 * h ∧ ∀ j v, (sL S 24 3)[3 * j]? = some v → v < yn Y 28) ∧
  ((∀ v, v < 128 → sI S 30 v 0 = nI v) ∧ sC S 33 0 = 256 ∧ ∀ v, v < 128 → sP S 33 0 (128 + v) = some (yA Y 30 v)) ∧
  (sC S 21 0 = 6 ∧ (∀ i, i < 6 → sP S 21 0 i = some (yA Y 22 i)) ∧ (∀ t, t < yn Y 23 → sC S 26 t = 97) ∧ sC S 27 0 = 776)
/-- what a field may hold -/
def vOK (Y : mY) (k f : Nat) (v : Int32) : Prop := match k with
  | 23 => (match f with | 0 => ∃ a, a < 6 ∧ v = nI a | 1 => ∃ a, a < 6 ∧ v = nI a | _ => True)
  | 28 => (match f with | 0 => ∃ a, a < 6 ∧ v = nI a | 4 => v = -1 ∨ ∃ t, t < yn Y 23 ∧ v = nI t | 8 => v = -1 ∨ ∃ a, a < 97 ∧ v = nI a | _ => True)
  | 29 => (match f with | 0 => ∃ a, a < 8 ∧ v = nI a | 1 => ∃ a, a ≤ 99 ∧ v = nI a | 4 => ∃ a, v = nI a ∧ (a < yn Y 28 ∨ (100 ≤ a ∧ a < 106) ∨ a = 999) | _ => True)
  | _ => True
def mVv (Y : mY) (S : mS) : Prop := (∀ k i f, i < yn Y k → vOK Y k f (sI S k i f)) ∧ ∀ p, p < yn Y 29 → sI S 29 p 3 = 3 → ∃ b, b < yn Y 28 ∧ sI S 29 p 5 = nI b
def mVq (Y : mY) (S : mS) : Prop := (∀ t, t < yn Y 23 → (sL S 25 t).Nodup ∧ ∀ s ∈ sL S 25 t, s < yn Y 28 ∧ sI S 28 s 3 = 1 ∧ sI S 28 s 4 = nI t) ∧ (∀ s, s < yn Y 28 → sI S 28 s 3 = 1 → ∃ t, t < yn Y 23 ∧ sI S 28 s 4 = nI t ∧ s ∈ sL S 25 t)
def mVt (S : mS) : Prop := ∃ nt h, nt ≤ 99 ∧ h ≤ 23 ∧ sI S 20 0 1 = nI nt ∧ sI S 20 0 2 = nI h
theorem mVs.of {Y : mY} {S S' : mS} (h : mVs Y S) (a : ∀ i, sI S' 30 i 0 = sI S 30 i 0) (b : ∀ i, sL S' 24 i = sL S 24 i) (c : sC S' = sC S) (d : sP S' = sP S) : mVs Y S' := by
  obtain ⟨h1, h2, h3, ⟨n1, n2, n3⟩, h5⟩ := h
  exact ⟨h1, h2, by rw [b, b, b, b]; exact h3, ⟨fun v hv => (a v).trans (n1 v hv), by rw [c]; exact n2, by rw [d]; exact n3⟩, by rw [c, d]; exact h5⟩
theorem vS_uI {Y : mY} {S : mS} (h : mVs Y S) {k i f : Nat} {v : Int32} (hk : k ≠ 30) : mVs Y (uI S k i f v) := h.of (fun i' => sI_uI (by omega)) (fun _ => rfl) rfl rfl
theorem vS_uJ {Y : mY} {S : mS} (h : mVs Y S) {k i f : Nat} {v : Int64} : mVs Y (uJ S k i f v) := h.of (fun _ => rfl) (fun _ => rfl) rfl rfl
theorem vS_uX {Y : mY} {S : mS} (h : mVs Y S) {k i f : Nat} {v : Option Nat} : mVs Y (uX S k i f v) := h.of (fun _ => rfl) (fun _ => rfl) rfl rfl
theorem vS_uE {Y : mY} {S : mS} (h : mVs Y S) {k i j : Nat} {v : Int32} : mVs Y (uE S k i j v) := h.of (fun _ => rfl) (fun _ => rfl) rfl rfl
theorem vS_uL {Y : mY} {S : mS} (h : mVs Y S) {k i : Nat} {md : Int32} {e : Nat} {xs : List Nat} (hk : k = 25) : mVs Y (uL S k i md e xs) := h.of (fun i' => sI_uL (by omega)) (fun i' => sL_uL (by omega)) rfl rfl
theorem vV_uI {Y : mY} {S : mS} (h : mVv Y S) {k i f : Nat} {v : Int32} (hv : vOK Y k f v) (hf : k = 29 → f ≠ 3 ∧ f ≠ 5) : mVv Y (uI S k i f v) := by
  refine ⟨fun k' i' f' hi => ?_, fun p hp h3 => ?_⟩
  · by_cases z : k' = k ∧ i' = i ∧ f' = f
    · obtain ⟨rfl, rfl, rfl⟩ := z
      rw [sI_uI_s]
      exact hv
    · rw [sI_uI z]
      exact h.1 k' i' f' hi
  · rw [sI_uI (by omega)] at h3 ⊢
    exact h.2 p hp h3
theorem vV_fate {Y : mY} {S : mS} (h : mVv Y S) {p : Nat} {v : Int32} (hv : v ≠ 3) : mVv Y (uI S 29 p 3 v) := by
  refine ⟨fun k' i' f' hi => ?_, fun p' hp h3 => ?_⟩
  · by_cases z : k' = 29 ∧ i' = p ∧ f' = 3
    · obtain ⟨rfl, rfl, rfl⟩ := z
      exact trivial
    · rw [sI_uI z]
      exact h.1 k' i' f' hi
  · by_cases z : p' = p
    · subst z
      rw [sI_uI_s] at h3
      exact absurd h3 hv
    · rw [sI_uI (by omega)] at h3 ⊢
      exact h.2 p' hp h3
theorem vV_caught {Y : mY} {S : mS} (h : mVv Y S) {p s : Nat} {v : Int32} (hs : s < yn Y 28) : mVv Y (uI (uI S 29 p 3 v) 29 p 5 (nI s)) := by
  refine ⟨fun k' i' f' hi => ?_, fun p' hp h3 => ?_⟩
  · by_cases z : k' = 29 ∧ i' = p ∧ (f' = 3 ∨ f' = 5)
    · obtain ⟨rfl, rfl, rfl | rfl⟩ := z
      · exact trivial
      · exact trivial
    · rw [sI_uI (by omega), sI_uI (by omega)]
      exact h.1 k' i' f' hi
  · by_cases z : p' = p
    · subst z
      exact ⟨s, hs, sI_uI_s⟩
    · rw [sI_uI (by omega), sI_uI (by omega)] at h3 ⊢
      exact h.2 p' hp h3
theorem mVv.of {Y : mY} {S S' : mS} (h : mVv Y S) (a : ∀ k i f, k = 23 ∨ k = 28 ∨ k = 29 → sI S' k i f = sI S k i f) : mVv Y S' := by
  refine ⟨fun k i f hi => ?_, fun p hp h3 => ?_⟩
  · by_cases z : k = 23 ∨ k = 28 ∨ k = 29
    · rw [a k i f z]
      exact h.1 k i f hi
    · unfold vOK
      split
      · exact absurd (Or.inl rfl) z
      · exact absurd (Or.inr (Or.inl rfl)) z
      · exact absurd (Or.inr (Or.inr rfl)) z
      · trivial
  · rw [a 29 p 3 (by omega)] at h3
    rw [a 29 p 5 (by omega)]
    exact h.2 p hp h3
theorem mVq.of {Y : mY} {S S' : mS} (h : mVq Y S) (a : ∀ t, sL S' 25 t = sL S 25 t) (b : ∀ s, sI S' 28 s 3 = sI S 28 s 3) (c : ∀ s, sI S' 28 s 4 = sI S 28 s 4) : mVq Y S' := by
  refine ⟨fun t ht => ?_, fun s hs h3 => ?_⟩
  · rw [a]
    exact ⟨(h.1 t ht).1, fun s hs => by rw [b, c]; exact (h.1 t ht).2 s hs⟩
  · rw [b] at h3
    obtain ⟨t, q1, q2, q3⟩ := h.2 s hs h3
    exact ⟨t, q1, by rw [c]; exact q2, by rw [a]; exact q3⟩
theorem vQ_uI {Y : mY} {S : mS} (h : mVq Y S) {k i f : Nat} {v : Int32} (hk : ¬ (k = 28 ∧ (f = 3 ∨ f = 4))) : mVq Y (uI S k i f v) := h.of (fun _ => rfl) (fun s => sI_uI (by omega)) (fun s => sI_uI (by omega))
theorem vT_uI {S : mS} (h : mVt S) {k i f : Nat} {v : Int32} (hk : ¬ (k = 20 ∧ (f = 1 ∨ f = 2))) : mVt (uI S k i f v) := by
  obtain ⟨a, b, h1, h2, h3, h4⟩ := h
  exact ⟨a, b, h1, h2, (sI_uI (by omega)).trans h3, (sI_uI (by omega)).trans h4⟩
/-- all that holds between calls, of the reference -/
def mVI (g : Nat → Nat) (Y : mY) (S : mS) (M : mM) : Prop := mR g Y S M ∧ mVs Y S ∧ mVv Y S ∧ mVq Y S ∧ mVt S
/-- fields that few methods write: rates, quotas, odds, night and hour -/
def qV (k f : Nat) : Bool := (k == 22 && (f == 0 || f == 2)) || (k == 23 && f == 4) || (k == 20 && (f == 1 || f == 2))
theorem qV_d {k f : Nat} (h : qV k f = true) : (k = 22 ∧ (f = 0 ∨ f = 2)) ∨ (k = 23 ∧ f = 4) ∨ (k = 20 ∧ (f = 1 ∨ f = 2)) := by
  unfold qV at h
  simp only [Bool.or_eq_true, Bool.and_eq_true, beq_iff_eq] at h
  omega
def vQ (Y : mY) (S : mS) (Y' : mY) (S' : mS) : Prop := (∀ k i f, qV k f = true → sI S' k i f = sI S k i f) ∧ yn Y' 23 = yn Y 23 ∧ yn Y' 28 = yn Y 28
theorem vQ.rf (Y : mY) (S : mS) : vQ Y S Y S := ⟨fun _ _ _ _ => rfl, rfl, rfl⟩
theorem vQ.c {Y0 Y : mY} {S0 S S' : mS} (R : vQ Y0 S0 Y S) (h : ∀ k i f, qV k f = true → sI S' k i f = sI S k i f) : vQ Y0 S0 Y S' := ⟨fun k i f q => (h k i f q).trans (R.1 k i f q), R.2⟩
theorem vQ.tr {Y Y' Y'' : mY} {S S' S'' : mS} (h : vQ Y S Y' S') (h' : vQ Y' S' Y'' S'') : vQ Y S Y'' S'' := ⟨fun k i f q => (h'.1 k i f q).trans (h.1 k i f q), h'.2.1.trans h.2.1, h'.2.2.trans h.2.2⟩
def vP (g : Nat → Nat) (Y : mY) (S : mS) (Y' : mY) (S' : mS) (M' : mM) : Prop := mVI g Y' S' M' ∧ mFm Y S Y' S' ∧ vQ Y S Y' S'
theorem vP.rf {g : Nat → Nat} {Y : mY} {S : mS} {M : mM} (h : mVI g Y S M) : vP g Y S Y S M := ⟨h, mFm.rf Y S, vQ.rf Y S⟩
/-- a plain int is written -/
theorem vP_uI {g : Nat → Nat} {Y : mY} {S0 S : mS} {M M' : mM} (h : vP g Y S0 Y S M) {k i f : Nat} {v : Int32} (H' : mR g Y (uI S k i f v) M') (hv : vOK Y k f v) (hk : 20 ≤ k ∧ k ≠ 31 ∧ ¬ (35 ≤ k ∧ k ≤ 37) ∧ k ≠ 30 ∧ ¬ (k = 22 ∧ (f = 0 ∨ f = 2)) ∧ ¬ (k = 23 ∧ f = 4) ∧ ¬ (k = 20 ∧ (f = 1 ∨ f = 2)) ∧ ¬ (k = 28 ∧ (f = 3 ∨ f = 4)) ∧ ¬ (k = 29 ∧ (f = 3 ∨ f = 5))) : vP g Y S0 Y (uI S k i f v) M' := by
  obtain ⟨⟨H, V, VV, VQ, VT⟩, F, R⟩ := h
  exact ⟨⟨H', vS_uI V (by omega), vV_uI VV hv (by omega), vQ_uI VQ (by omega), vT_uI VT (by omega)⟩, F.tr (mFm.uI (by omega)), vQ.c R (fun k' i' f' q => (sI_uI (by have := qV_d q; omega)))⟩
theorem vP_uJ {g : Nat → Nat} {Y : mY} {S0 S : mS} {M M' : mM} (h : vP g Y S0 Y S M) {k i f : Nat} {v : Int64} (H' : mR g Y (uJ S k i f v) M') (hk : 20 ≤ k ∧ k ≠ 31 ∧ ¬ (35 ≤ k ∧ k ≤ 37)) : vP g Y S0 Y (uJ S k i f v) M' := by
  obtain ⟨⟨H, V, VV, VQ, VT⟩, F, R⟩ := h
  exact ⟨⟨H', vS_uJ V, VV.of (fun _ _ _ _ => rfl), VQ.of (fun _ => rfl) (fun _ => rfl) (fun _ => rfl), VT⟩, F.tr (mFm.uJ hk), ⟨R.1, R.2⟩⟩
theorem vP_uE {g : Nat → Nat} {Y : mY} {S0 S : mS} {M M' : mM} (h : vP g Y S0 Y S M) {k i f : Nat} {v : Int32} (H' : mR g Y (uE S k i f v) M') (hk : 20 ≤ k ∧ k ≠ 31 ∧ ¬ (35 ≤ k ∧ k ≤ 37)) : vP g Y S0 Y (uE S k i f v) M' := by
  obtain ⟨⟨H, V, VV, VQ, VT⟩, F, R⟩ := h
  exact ⟨⟨H', vS_uE V, VV.of (fun _ _ _ _ => rfl), VQ.of (fun _ => rfl) (fun _ => rfl) (fun _ => rfl), VT⟩, F.tr (mFm.uE hk), ⟨R.1, R.2⟩⟩
section VBASE
variable {g : Nat → Nat} {Y : mY} {S : mS} {M : mM}
theorem mVs.x0 (V : mVs Y S) : 0 < yn Y 20 := by rw [V.1.1]; omega
theorem mVs.l24 (V : mVs Y S) {j : Nat} (hj : j < 4) : j < yn Y 24 := by rw [V.1.2.2.2.1]; exact hj
theorem mVs.l22 (V : mVs Y S) {j : Nat} (hj : j < 6) : j < yn Y 22 := by rw [V.1.2.2.1]; exact hj
theorem mVs.l25 (V : mVs Y S) {j : Nat} (hj : j < yn Y 23) : j < yn Y 25 := by rw [V.1.2.2.2.2.2.2.2.1]; exact hj
theorem mVs.l26 (V : mVs Y S) {j : Nat} (hj : j < yn Y 23) : j < yn Y 26 := by rw [V.1.2.2.2.2.2.2.2.2]; exact hj
theorem mVs.l30 (V : mVs Y S) {j : Nat} (hj : j < 128) : j < yn Y 30 := by rw [V.1.2.2.2.2.2.1]; exact hj
theorem mVs.l21 (V : mVs Y S) : 0 < yn Y 21 := by rw [V.1.2.1]; omega
theorem mVs.l27 (V : mVs Y S) : 0 < yn Y 27 := by rw [V.1.2.2.2.2.1]; omega
theorem mVs.l33 (V : mVs Y S) : 0 < yn Y 33 := by rw [V.1.2.2.2.2.2.2.1]; omega
theorem v_szG (H : mR g Y S M) (V : mVs Y S) {κ : Int32 → mM → Prop} (h : κ (nI (yn Y 23)) M) : wJx4a65c_size_8abf5 κ (some (yA Y 24 0)) M := s_size H rfl (V.l24 (by omega)) (by rw [V.2.2.1.1, List.length_range]; exact h)
theorem v_szS (H : mR g Y S M) (V : mVs Y S) {κ : Int32 → mM → Prop} (h : κ (nI (yn Y 28)) M) : wJx4a65c_size_8abf5 κ (some (yA Y 24 1)) M := s_size H rfl (V.l24 (by omega)) (by rw [V.2.2.1.2.1, List.length_range]; exact h)
theorem v_szP (H : mR g Y S M) (V : mVs Y S) {κ : Int32 → mM → Prop} (h : κ (nI (yn Y 29)) M) : wJx4a65c_size_8abf5 κ (some (yA Y 24 2)) M := s_size H rfl (V.l24 (by omega)) (by rw [V.2.2.1.2.2.1, List.length_range]; exact h)
theorem v_szH (H : mR g Y S M) (V : mVs Y S) {κ : Int32 → mM → Prop} (h : κ (nI (sL S 24 3).length) M) : wJx4a65c_size_8abf5 κ (some (yA Y 24 3)) M := s_size H rfl (V.l24 (by omega)) h
theorem v_gtG (H : mR g Y S M) (V : mVs Y S) {j : Nat} (hj : j < yn Y 23) {κ : Option Nat → mM → Prop} (h : κ (some (yA Y 23 j)) M) : wJx4a65c_get_915e3 κ (some (yA Y 24 0)) (nI j) M := s_get (x := j) H rfl (V.l24 (by omega)) (by rw [V.2.2.1.1, List.getElem?_range hj]) h
theorem v_gtS (H : mR g Y S M) (V : mVs Y S) {j : Nat} (hj : j < yn Y 28) {κ : Option Nat → mM → Prop} (h : κ (some (yA Y 28 j)) M) : wJx4a65c_get_915e3 κ (some (yA Y 24 1)) (nI j) M := s_get (x := j) H rfl (V.l24 (by omega)) (by rw [V.2.2.1.2.1, List.getElem?_range hj]) h
theorem v_gtP (H : mR g Y S M) (V : mVs Y S) {j : Nat} (hj : j < yn Y 29) {κ : Option Nat → mM → Prop} (h : κ (some (yA Y 29 j)) M) : wJx4a65c_get_915e3 κ (some (yA Y 24 2)) (nI j) M := s_get (x := j) H rfl (V.l24 (by omega)) (by rw [V.2.2.1.2.2.1, List.getElem?_range hj]) h
/-- an element of one of the reference's lists by its place: all steps at once -/
theorem v_G (H : mR g Y S M) (V : mVs Y S) {j : Nat} (hj : j < yn Y 23) {κ : Option Nat → mM → Prop} (h : κ (some (yA Y 23 j)) M) : m_gR M (some (yA Y 20 0)) 19 7 fun x1 => m_rc M x1 4 fun b4 => wJx4a65c_get_915e3 (fun x2 M3 => m_cast M3 x2 15 (κ x2 M3)) (some b4) (nI j) M := s_gR6 H V.x0 rfl rfl rfl (s_rcL H rfl (V.l24 (by omega)) (v_gtG H V hj (s_cast H hj rfl rfl h)))
theorem v_S (H : mR g Y S M) (V : mVs Y S) {j : Nat} (hj : j < yn Y 28) {κ : Option Nat → mM → Prop} (h : κ (some (yA Y 28 j)) M) : m_gR M (some (yA Y 20 0)) 19 8 fun x1 => m_rc M x1 4 fun b4 => wJx4a65c_get_915e3 (fun x2 M3 => m_cast M3 x2 18 (κ x2 M3)) (some b4) (nI j) M := s_gR6 H V.x0 rfl rfl rfl (s_rcL H rfl (V.l24 (by omega)) (v_gtS H V hj (s_cast H hj rfl rfl h)))
theorem v_Pt (H : mR g Y S M) (V : mVs Y S) {j : Nat} (hj : j < yn Y 29) {κ : Option Nat → mM → Prop} (h : κ (some (yA Y 29 j)) M) : m_gR M (some (yA Y 20 0)) 19 9 fun x1 => m_rc M x1 4 fun b4 => wJx4a65c_get_915e3 (fun x2 M3 => m_cast M3 x2 17 (κ x2 M3)) (some b4) (nI j) M := s_gR6 H V.x0 rfl rfl rfl (s_rcL H rfl (V.l24 (by omega)) (v_gtP H V hj (s_cast H hj rfl rfl h)))
theorem v_Ld (H : mR g Y S M) (V : mVs Y S) {j : Nat} (hj : j < 6) {κ : Option Nat → Prop} (h : κ (some (yA Y 22 j))) : m_gR M (some (yA Y 20 0)) 19 6 fun x1 => m_ldR M x1 (nI j) 4 κ := by
  refine s_gR6 H V.x0 rfl rfl rfl (s_ldR H V.l21 rfl (by decide) rfl (by rw [V.2.2.2.2.1]; exact hj) (by rw [V.2.2.2.2.1]; omega) ?_)
  rw [V.2.2.2.2.2.1 j hj]
  exact h
/-- an Integer's number -/
theorem v_int (H : mR g Y S M) (V : mVs Y S) {v : Nat} (hv : v < 128) {κ : Int32 → mM → Prop} (h : κ (nI v) M) : m_cast M (some (yA Y 30 v)) 2 (m_rc M (some (yA Y 30 v)) 2 fun b12 => wJ6_intValue_8abf5 κ (some b12) M) := by
  refine s_cast H (V.l30 hv) rfl rfl (s_rc H (V.l30 hv) rfl rfl (s_gI H (V.l30 hv) rfl rfl rfl ?_))
  rw [V.2.2.2.1.1 v hv]
  exact h
theorem v_valueOf (H : mR g Y S M) (V : mVs Y S) {v : Nat} (hv : v < 128) {κ : Option Nat → mM → Prop} (h : κ (some (yA Y 30 v)) M) : wJ6_valueOf_2dffe g κ (nI v) M := by
  refine br_f (fun z => ?_) (br_f (show ¬ (127 : Int32) < nI v from nI_nlt (b := v) (a := 127) (by omega) (by omega)) ?_)
  · exact nI_pos (n := v) (by omega) (Int32.lt_trans z (by decide))
  · rw [← H.2.2.2.2.2.2.2.2.2.1]
    rw [show nI v + 128 = nI (128 + v) from by rw [show (128 : Int32) = nI 128 from rfl, nI_add, Nat.add_comm]]
    refine s_ldR H V.l33 rfl (by decide) rfl (by rw [V.2.2.2.1.2.1]; omega) (by rw [V.2.2.2.1.2.1]; omega) ?_
    rw [V.2.2.2.1.2.2 v hv]
    exact h
theorem v_refuse (H : mR g Y S M) (V : mVs Y S) {n : Int32} {κ : Int32 → mM → Prop} (h : ∀ M', mR g Y (uI S 20 0 0 n) M' → κ 0 M') : wX14_refuse κ (some (yA Y 20 0)) n M := s_pI H V.x0 rfl rfl rfl h
theorem v_is {a b c : Int32} {κ : Int32 → mM → Prop} (h1 : ¬ a < b → ¬ c < a → κ 1 M) (h0 : ¬ (¬ a < b ∧ ¬ c < a) → κ 0 M) : wX14_is κ a b c M := br_c (fun z => h0 (fun w => w.1 z)) (fun z => br_c (fun w => h0 (fun q => q.2 w)) (fun w => h1 z w))
theorem v_isLand {a : Int32} {κ : Int32 → mM → Prop} (h1 : ∀ l, l < 6 → a = nI l → κ 1 M) (h0 : ¬ (¬ a < 0 ∧ a < 6) → κ 0 M) {x0 : Option Nat} : wX14_isLand κ x0 a M := by
  refine v_is (fun z w => ⟨Or.inr rfl, ?_⟩) (fun z => ⟨Or.inl rfl, h0 (fun q => z ⟨q.1, ?_⟩)⟩)
  · obtain ⟨j, hj, rfl⟩ := nI_of z
    exact h1 j (by have := Nat.not_lt.mp (fun q => w (nI_lt (a := 5) (b := j) q (by omega))); omega) rfl
  · obtain ⟨j, hj, rfl⟩ := nI_of q.1
    have : j < 6 := (nI_ltI (b := 6) hj (by omega)).mp q.2
    exact nI_nlt (b := j) (a := 5) (by omega) (by omega)
theorem v_isN {a : Int32} {n : Nat} (hn : n < 1000) {κ : Int32 → mM → Prop} (h1 : ∀ l, l < n → a = nI l → κ 1 M) (h0 : ¬ (¬ a < 0 ∧ a < nI n) → κ 0 M) : wX14_is (fun x5 M6 => ((x5 = 0 ∨ x5 = 1) ∧ κ x5 M6)) a 0 (nI n - 1) M := by
  refine v_is (fun z w => ⟨Or.inr rfl, ?_⟩) (fun z => ⟨Or.inl rfl, h0 (fun q => z ⟨q.1, ?_⟩)⟩)
  · obtain ⟨j, hj, rfl⟩ := nI_of z
    refine h1 j ?_ rfl
    cases n with
    | zero => exact absurd (show nI 0 - 1 < nI j from by rw [show nI 0 - 1 = (-1 : Int32) from by decide]; exact Int32.lt_of_lt_of_le (by decide) (nI_pos' hj)) w
    | succ n =>
      rw [nI_pred] at w
      have := Nat.not_lt.mp (fun q => w (nI_lt (a := n) (b := j) q (by omega)))
      omega
  · obtain ⟨j, hj, rfl⟩ := nI_of q.1
    have hjn : j < n := (nI_ltI hj (by omega)).mp q.2
    cases n with
    | zero => exact absurd hjn (by omega)
    | succ n =>
      rw [nI_pred]
      exact nI_nlt (b := j) (a := n) (by omega) (by omega)
theorem v_isGate (H : mR g Y S M) (V : mVs Y S) {a : Int32} {κ : Int32 → mM → Prop} (h1 : ∀ l, l < yn Y 23 → a = nI l → κ 1 M) (h0 : ¬ (¬ a < 0 ∧ a < nI (yn Y 23)) → κ 0 M) : wX14_isGate κ (some (yA Y 20 0)) a M := by
  have hb := V.2.1
  exact s_gR6 H V.x0 rfl rfl rfl (s_rcL H rfl (V.l24 (by omega)) (v_szG H V (v_isN (by omega) h1 h0)))
theorem v_isSleeper (H : mR g Y S M) (V : mVs Y S) {a : Int32} {κ : Int32 → mM → Prop} (h1 : ∀ l, l < yn Y 28 → a = nI l → κ 1 M) (h0 : ¬ (¬ a < 0 ∧ a < nI (yn Y 28)) → κ 0 M) : wX14_isSleeper κ (some (yA Y 20 0)) a M := by
  have hb := V.2.1
  exact s_gR6 H V.x0 rfl rfl rfl (s_rcL H rfl (V.l24 (by omega)) (v_szS H V (v_isN (by omega) h1 h0)))
theorem v_isPart (H : mR g Y S M) (V : mVs Y S) {a : Int32} {κ : Int32 → mM → Prop} (h1 : ∀ l, l < yn Y 29 → a = nI l → κ 1 M) (h0 : ¬ (¬ a < 0 ∧ a < nI (yn Y 29)) → κ 0 M) : wX14_isPart κ (some (yA Y 20 0)) a M := by
  have hb := V.2.1
  exact s_gR6 H V.x0 rfl rfl rfl (s_rcL H rfl (V.l24 (by omega)) (v_szP H V (v_isN (by omega) h1 h0)))
/-- loops' heads -/
theorem v_hdG (H : mR g Y S M) (V : mVs Y S) {j : Nat} (hj : j ≤ yn Y 23) {EX : mM → Prop} {BO : Option Nat → mM → Prop} (he : j = yn Y 23 → EX M) (hb : j < yn Y 23 → BO (some (yA Y 23 j)) M) :
    m_gR M (some (yA Y 20 0)) 19 7 fun x1 => m_rc M x1 4 fun b4 => wJx4a65c_size_8abf5 (fun x2 M3 => ((x2 ≤ nI j → EX M3) ∧ (¬ (x2 ≤ nI j) → m_gR M3 (some (yA Y 20 0)) 19 7 fun x6 => m_rc M3 x6 4 fun b9 => wJx4a65c_get_915e3 (fun x7 M8 => m_cast M8 x7 15 (BO x7 M8)) (some b9) (nI j) M3))) (some b4) M := by
  have hb8 := V.2.1
  refine s_gR6 H V.x0 rfl rfl rfl (s_rcL H rfl (V.l24 (by omega)) (v_szG H V ?_))
  by_cases z : j = yn Y 23
  · exact br_t (nI_le (by omega) (by omega)) (he z)
  · have hlt : j < yn Y 23 := by omega
    exact br_f (nI_ge hlt (by omega)) (v_G H V hlt (hb hlt))
theorem v_hdS (H : mR g Y S M) (V : mVs Y S) {j : Nat} (hj : j ≤ yn Y 28) {EX : mM → Prop} {BO : Option Nat → mM → Prop} (he : j = yn Y 28 → EX M) (hb : j < yn Y 28 → BO (some (yA Y 28 j)) M) :
    m_gR M (some (yA Y 20 0)) 19 8 fun x1 => m_rc M x1 4 fun b4 => wJx4a65c_size_8abf5 (fun x2 M3 => ((x2 ≤ nI j → EX M3) ∧ (¬ (x2 ≤ nI j) → m_gR M3 (some (yA Y 20 0)) 19 8 fun x6 => m_rc M3 x6 4 fun b9 => wJx4a65c_get_915e3 (fun x7 M8 => m_cast M8 x7 18 (BO x7 M8)) (some b9) (nI j) M3))) (some b4) M := by
  have hb8 := V.2.1
  refine s_gR6 H V.x0 rfl rfl rfl (s_rcL H rfl (V.l24 (by omega)) (v_szS H V ?_))
  by_cases z : j = yn Y 28
  · exact br_t (nI_le (by omega) (by omega)) (he z)
  · have hlt : j < yn Y 28 := by omega
    exact br_f (nI_ge hlt (by omega)) (v_S H V hlt (hb hlt))
theorem v_hdP (H : mR g Y S M) (V : mVs Y S) {j : Nat} (hj : j ≤ yn Y 29) {EX : mM → Prop} {BO : Option Nat → mM → Prop} (he : j = yn Y 29 → EX M) (hb : j < yn Y 29 → BO (some (yA Y 29 j)) M) :
    m_gR M (some (yA Y 20 0)) 19 9 fun x1 => m_rc M x1 4 fun b4 => wJx4a65c_size_8abf5 (fun x2 M3 => ((x2 ≤ nI j → EX M3) ∧ (¬ (x2 ≤ nI j) → m_gR M3 (some (yA Y 20 0)) 19 9 fun x6 => m_rc M3 x6 4 fun b9 => wJx4a65c_get_915e3 (fun x7 M8 => m_cast M8 x7 17 (BO x7 M8)) (some b9) (nI j) M3))) (some b4) M := by
  have hb8 := V.2.1
  refine s_gR6 H V.x0 rfl rfl rfl (s_rcL H rfl (V.l24 (by omega)) (v_szP H V ?_))
  by_cases z : j = yn Y 29
  · exact br_t (nI_le (by omega) (by omega)) (he z)
  · have hlt : j < yn Y 29 := by omega
    exact br_f (nI_ge hlt (by omega)) (v_Pt H V hlt (hb hlt))
/-- small methods -/
theorem v_isOpen (H : mR g Y S M) {t : Nat} (ht : t < yn Y 23) {hr : Int32} {κ : Int32 → mM → Prop} (h1 : κ 1 M) (h0 : κ 0 M) : wX10_isOpen κ (some (yA Y 23 t)) hr M := s_gI H ht rfl rfl rfl (s_gI H ht rfl rfl rfl (br_c (fun _ => h0) (fun _ => h1)))
theorem v_dozes (H : mR g Y S M) {t : Nat} (ht : t < yn Y 23) {κ : Int32 → mM → Prop} (h1 : κ 1 M) (h0 : κ 0 M) : wX10_dozes κ (some (yA Y 23 t)) M := s_gI H ht rfl rfl rfl (br_c (fun _ => h0) (fun _ => h1))
theorem v_has (H : mR g Y S M) {t : Nat} (ht : t < yn Y 23) {l : Int32} {κ : Int32 → mM → Prop} (h1 : κ 1 M) (h0 : κ 0 M) : wX10_has κ (some (yA Y 23 t)) l M := s_gI H ht rfl rfl rfl (br_c (fun _ => h1) (fun _ => s_gI H ht rfl rfl rfl (br_c (fun _ => h1) (fun _ => h0))))
theorem v_beyond (H : mR g Y S M) (VV : mVv Y S) {t : Nat} (ht : t < yn Y 23) {l : Int32} {κ : Int32 → mM → Prop} (h : ∀ l', l' < 6 → κ (nI l') M) : wX10_beyond κ (some (yA Y 23 t)) l M := by
  obtain ⟨a, ha, ea⟩ := VV.1 23 t 0 ht
  obtain ⟨b, hb, eb⟩ := VV.1 23 t 1 ht
  refine s_gI H ht rfl rfl rfl (br_c (fun _ => s_gI H ht rfl rfl rfl ?_) (fun _ => s_gI H ht rfl rfl rfl ?_))
  · rw [eb]; exact h b hb
  · rw [ea]; exact h a ha
theorem v_isNm (H : mR g Y S M) {p : Nat} (hp : p < yn Y 29) {κ : Int32 → mM → Prop} (h1 : κ 1 M) (h0 : κ 0 M) : wX12_isNightmare κ (some (yA Y 29 p)) M := s_gI H hp rfl rfl rfl (br_c (fun _ => h0) (fun _ => h1))
/-- the place in a queue -/
theorem v_place_l (H : mR g Y S M) (V : mVs Y S) {t s : Nat} (ht : t < yn Y 23) (hs : s < 2 ^ 31) {κ : Int32 → mM → Prop} (h1 : ∀ j, (sL S 25 t)[j]? = some s → κ (nI j) M) (h0 : s ∉ sL S 25 t → κ (-1) M) : ∀ (d j : Nat), j + d = (sL S 25 t).length → (∀ i, i < j → (sL S 25 t)[i]? ≠ some s) → wX10_place_2 κ (d + 1) (some (yA Y 23 t)) (nI s) (nI j) M := by
  have hl := H.len (k := 25) (i := t) rfl (V.l25 ht)
  intro d
  induction d with
  | zero =>
    intro j hj hn
    rw [wX10_place_2]
    refine s_gR7 H ht rfl rfl rfl (s_rcL H rfl (V.l25 ht) (s_size H rfl (V.l25 ht) (br_t (nI_le (by omega) (by omega)) (h0 (fun hm => ?_)))))
    obtain ⟨i, hi⟩ := List.mem_iff_getElem?.mp hm
    exact hn i (by have := (List.getElem?_eq_some_iff.mp hi).1; omega) hi
  | succ d ih =>
    intro j hj hn
    have hlt : j < (sL S 25 t).length := by omega
    have hx : (sL S 25 t)[j]? = some ((sL S 25 t)[j]) := List.getElem?_eq_getElem hlt
    generalize (sL S 25 t)[j] = v at hx
    have hv : v < 128 := by have := H.lL rfl (V.l25 ht) hx; rw [show m_ek 25 t = 30 from rfl, V.1.2.2.2.2.2.1] at this; exact this
    rw [wX10_place_2]
    refine s_gR7 H ht rfl rfl rfl (s_rcL H rfl (V.l25 ht) (s_size H rfl (V.l25 ht) (br_f (nI_ge hlt (by omega)) ?_)))
    refine s_gR7 H ht rfl rfl rfl (s_rcL H rfl (V.l25 ht) (s_get H rfl (V.l25 ht) hx (v_int H V hv (br_c (fun z => ?_) (fun z => ?_)))))
    · have e := (nI_eq (by omega) hs).mp z
      exact h1 j (by rw [hx, e])
    · rw [nI_1]
      refine ih (j + 1) (by omega) (fun i hi => ?_)
      by_cases w : i = j
      · subst w
        rw [hx]
        exact fun q => z (by rw [Option.some.inj q])
      · exact hn i (by omega)
theorem v_place (H : mR g Y S M) (V : mVs Y S) {t s : Nat} (ht : t < yn Y 23) (hs : s < 2 ^ 31) {κ : Int32 → mM → Prop} (h1 : ∀ j, (sL S 25 t)[j]? = some s → κ (nI j) M) (h0 : s ∉ sL S 25 t → κ (-1) M) : wX10_place κ (some (yA Y 23 t)) (nI s) M := ⟨(sL S 25 t).length + 1, v_place_l H V ht hs h1 h0 (sL S 25 t).length 0 (by omega) (fun i hi => absurd hi (by omega))⟩
theorem v_duty (H : mR g Y S M) {l : Nat} (hl : l < yn Y 22) {x : Int32} {κ : Int32 → mM → Prop} (h : ∀ x, κ x M) {x0 : Option Nat} : wX14_duty κ x0 x (some (yA Y 22 l)) M := s_gI H hl rfl rfl rfl (s_gI H hl rfl rfl rfl (h _))
end VBASE
