/-! THE PURE SIDE, 5: the class's structure; its small methods -/
def mWs (Y : mY) (S : mS) : Prop :=
  (yn Y 0 = 1 ∧ yn Y 1 = 1 ∧ yn Y 2 = 6 ∧ yn Y 7 = 1 ∧ yn Y 8 = 1 ∧ yn Y 9 = 10 ∧ yn Y 12 = 4 ∧ yn Y 10 = yn Y 3 ∧ yn Y 11 = yn Y 3 ∧ yn Y 13 = yn Y 3) ∧
  (yn Y 3 ≤ 8 ∧ yn Y 4 ≤ 12 ∧ yn Y 5 ≤ 24 ∧ yn Y 6 ≤ 40) ∧
  (sL S 12 0 = List.range (yn Y 3) ∧ sL S 12 1 = List.range (yn Y 4) ∧ sL S 12 2 = List.range (yn Y 5) ∧ sL S 12 3 = List.range (yn Y 6)) ∧
  ((∀ i, i < 6 → sI S 2 i 0 = nI i) ∧ (∀ i, i < yn Y 3 → sI S 3 i 0 = nI i) ∧ (∀ i, i < yn Y 4 → sI S 4 i 0 = nI i) ∧ (∀ i, i < yn Y 5 → sI S 5 i 0 = nI i)) ∧
  ((sC S 1 0 = 6 ∧ ∀ i, i < 6 → sP S 1 0 i = some (yA Y 2 i)) ∧ (sC S 8 0 = 9 ∧ ∀ i, i < 9 → sP S 8 0 i = some (yA Y 9 i)) ∧ (∀ i, i < 9 → sC S 9 i = 81) ∧ sC S 9 9 = 6)
theorem mWs.of {Y : mY} {S S' : mS} (h : mWs Y S) (a2 : ∀ i, sI S' 2 i 0 = sI S 2 i 0) (a3 : ∀ i, sI S' 3 i 0 = sI S 3 i 0) (a4 : ∀ i, sI S' 4 i 0 = sI S 4 i 0) (a5 : ∀ i, sI S' 5 i 0 = sI S 5 i 0) (b : ∀ i, sL S' 12 i = sL S 12 i) (c : sC S' = sC S) (d : sP S' = sP S) : mWs Y S' := by
  obtain ⟨h1, h2, h3, ⟨n1, n2, n3, n4⟩, h5⟩ := h
  refine ⟨h1, h2, by rw [b, b, b, b]; exact h3, ⟨fun i hi => (a2 i).trans (n1 i hi), fun i hi => (a3 i).trans (n2 i hi), fun i hi => (a4 i).trans (n3 i hi), fun i hi => (a5 i).trans (n4 i hi)⟩, by rw [c, d]; exact h5⟩
theorem sI_uI {S : mS} {k i f k' i' f' : Nat} {v : Int32} (h : ¬ (k' = k ∧ i' = i ∧ f' = f)) : sI (uI S k i f v) k' i' f' = sI S k' i' f' := if_neg h
theorem sI_uI_s {S : mS} {k i f : Nat} {v : Int32} : sI (uI S k i f v) k i f = v := if_pos ⟨rfl, rfl, rfl⟩
theorem sX_uX {S : mS} {k i f k' i' f' : Nat} {v : Option Nat} (h : ¬ (k' = k ∧ i' = i ∧ f' = f)) : sX (uX S k i f v) k' i' f' = sX S k' i' f' := if_neg h
theorem sX_uX_s {S : mS} {k i f : Nat} {v : Option Nat} : sX (uX S k i f v) k i f = v := if_pos ⟨rfl, rfl, rfl⟩
theorem sN_uN {S : mS} {k i f k' i' f' : Nat} {v : Nat} (h : ¬ (k' = k ∧ i' = i ∧ f' = f)) : sN (uN S k i f v) k' i' f' = sN S k' i' f' := if_neg h
theorem sN_uN_s {S : mS} {k i f : Nat} {v : Nat} : sN (uN S k i f v) k i f = v := if_pos ⟨rfl, rfl, rfl⟩
theorem sL_uL {S : mS} {k i k' i' : Nat} {md : Int32} {e : Nat} {xs : List Nat} (h : ¬ (k' = k ∧ i' = i)) : sL (uL S k i md e xs) k' i' = sL S k' i' := if_neg h
theorem sL_uL_s {S : mS} {k i : Nat} {md : Int32} {e : Nat} {xs : List Nat} : sL (uL S k i md e xs) k i = xs := if_pos ⟨rfl, rfl⟩
theorem sI_uL {S : mS} {k i k' i' f' : Nat} {md : Int32} {e : Nat} {xs : List Nat} (h : ¬ (k' = k ∧ i' = i ∧ f' = 0)) : sI (uL S k i md e xs) k' i' f' = sI S k' i' f' := if_neg h
theorem mWs.uI {Y : mY} {S : mS} (h : mWs Y S) {k i f : Nat} {v : Int32} (hf : f ≠ 0 ∨ ¬ (k = 2 ∨ k = 3 ∨ k = 4 ∨ k = 5)) : mWs Y (uI S k i f v) := h.of (fun i' => sI_uI (by omega)) (fun i' => sI_uI (by omega)) (fun i' => sI_uI (by omega)) (fun i' => sI_uI (by omega)) (fun _ => rfl) rfl rfl
theorem mWs.uJ {Y : mY} {S : mS} (h : mWs Y S) {k i f : Nat} {v : Int64} : mWs Y (uJ S k i f v) := h.of (fun _ => rfl) (fun _ => rfl) (fun _ => rfl) (fun _ => rfl) (fun _ => rfl) rfl rfl
theorem mWs.uX {Y : mY} {S : mS} (h : mWs Y S) {k i f : Nat} {v : Option Nat} : mWs Y (uX S k i f v) := h.of (fun _ => rfl) (fun _ => rfl) (fun _ => rfl) (fun _ => rfl) (fun _ => rfl) rfl rfl
theorem mWs.uN {Y : mY} {S : mS} (h : mWs Y S) {k i f : Nat} {v : Nat} : mWs Y (uN S k i f v) := h.of (fun _ => rfl) (fun _ => rfl) (fun _ => rfl) (fun _ => rfl) (fun _ => rfl) rfl rfl
theorem mWs.uE {Y : mY} {S : mS} (h : mWs Y S) {k i j : Nat} {v : Int32} : mWs Y (uE S k i j v) := h.of (fun _ => rfl) (fun _ => rfl) (fun _ => rfl) (fun _ => rfl) (fun _ => rfl) rfl rfl
theorem mWs.uL {Y : mY} {S : mS} (h : mWs Y S) {k i : Nat} {md : Int32} {e : Nat} {xs : List Nat} (hk : k = 13) : mWs Y (uL S k i md e xs) := h.of (fun i' => sI_uL (by omega)) (fun i' => sI_uL (by omega)) (fun i' => sI_uL (by omega)) (fun i' => sI_uL (by omega)) (fun i' => sL_uL (by omega)) rfl rfl
section CBASE1
variable {g : Nat → Nat} {Y : mY} {S : mS} {M : mM}
theorem mWs.x0 (W : mWs Y S) : 0 < yn Y 0 := by rw [W.1.1]; omega
theorem mWs.l12 (W : mWs Y S) {j : Nat} (hj : j < 4) : j < yn Y 12 := by rw [W.1.2.2.2.2.2.2.1]; exact hj
theorem mWs.l2 (W : mWs Y S) {j : Nat} (hj : j < 6) : j < yn Y 2 := by rw [W.1.2.2.1]; exact hj
theorem mWs.l2' (W : mWs Y S) {j : Nat} (hj : j < yn Y 2) : j < 6 := by rw [W.1.2.2.1] at hj; exact hj
theorem mWs.l13 (W : mWs Y S) {j : Nat} (hj : j < yn Y 3) : j < yn Y 13 := by rw [W.1.2.2.2.2.2.2.2.2.2]; exact hj
theorem mWs.l10 (W : mWs Y S) {j : Nat} (hj : j < yn Y 3) : j < yn Y 10 := by rw [W.1.2.2.2.2.2.2.2.1]; exact hj
theorem mWs.l11 (W : mWs Y S) {j : Nat} (hj : j < yn Y 3) : j < yn Y 11 := by rw [W.1.2.2.2.2.2.2.2.2.1]; exact hj
theorem mWs.l9 (W : mWs Y S) {j : Nat} (hj : j < 10) : j < yn Y 9 := by rw [W.1.2.2.2.2.2.1]; exact hj
theorem mWs.l1 (W : mWs Y S) : 0 < yn Y 1 := by rw [W.1.2.1]; omega
theorem mWs.l7 (W : mWs Y S) : 0 < yn Y 7 := by rw [W.1.2.2.2.1]; omega
theorem mWs.l8 (W : mWs Y S) : 0 < yn Y 8 := by rw [W.1.2.2.2.2.1]; omega
/-- the class's lists -/
theorem c_szG (H : mR g Y S M) (W : mWs Y S) {κ : Int32 → mM → Prop} (h : κ (nI (yn Y 3)) M) : wJx4a65c_size_8abf5 κ (some (yA Y 12 0)) M := s_size H rfl (W.l12 (by omega)) (by rw [W.2.2.1.1, List.length_range]; exact h)
theorem c_szS (H : mR g Y S M) (W : mWs Y S) {κ : Int32 → mM → Prop} (h : κ (nI (yn Y 4)) M) : wJx4a65c_size_8abf5 κ (some (yA Y 12 1)) M := s_size H rfl (W.l12 (by omega)) (by rw [W.2.2.1.2.1, List.length_range]; exact h)
theorem c_szP (H : mR g Y S M) (W : mWs Y S) {κ : Int32 → mM → Prop} (h : κ (nI (yn Y 5)) M) : wJx4a65c_size_8abf5 κ (some (yA Y 12 2)) M := s_size H rfl (W.l12 (by omega)) (by rw [W.2.2.1.2.2.1, List.length_range]; exact h)
theorem c_szH (H : mR g Y S M) (W : mWs Y S) {κ : Int32 → mM → Prop} (h : κ (nI (yn Y 6)) M) : wJx4a65c_size_8abf5 κ (some (yA Y 12 3)) M := s_size H rfl (W.l12 (by omega)) (by rw [W.2.2.1.2.2.2, List.length_range]; exact h)
theorem c_gtG (H : mR g Y S M) (W : mWs Y S) {j : Nat} (hj : j < yn Y 3) {κ : Option Nat → mM → Prop} (h : κ (some (yA Y 3 j)) M) : wJx4a65c_get_915e3 κ (some (yA Y 12 0)) (nI j) M := s_get (x := j) H rfl (W.l12 (by omega)) (by rw [W.2.2.1.1, List.getElem?_range hj]) h
theorem c_gtS (H : mR g Y S M) (W : mWs Y S) {j : Nat} (hj : j < yn Y 4) {κ : Option Nat → mM → Prop} (h : κ (some (yA Y 4 j)) M) : wJx4a65c_get_915e3 κ (some (yA Y 12 1)) (nI j) M := s_get (x := j) H rfl (W.l12 (by omega)) (by rw [W.2.2.1.2.1, List.getElem?_range hj]) h
theorem c_gtP (H : mR g Y S M) (W : mWs Y S) {j : Nat} (hj : j < yn Y 5) {κ : Option Nat → mM → Prop} (h : κ (some (yA Y 5 j)) M) : wJx4a65c_get_915e3 κ (some (yA Y 12 2)) (nI j) M := s_get (x := j) H rfl (W.l12 (by omega)) (by rw [W.2.2.1.2.2.1, List.getElem?_range hj]) h
theorem c_gtH (H : mR g Y S M) (W : mWs Y S) {j : Nat} (hj : j < yn Y 6) {κ : Option Nat → mM → Prop} (h : κ (some (yA Y 6 j)) M) : wJx4a65c_get_915e3 κ (some (yA Y 12 3)) (nI j) M := s_get (x := j) H rfl (W.l12 (by omega)) (by rw [W.2.2.1.2.2.2, List.getElem?_range hj]) h
/-- a loop's head over gates, sleepers, parts, hidings -/
theorem c_hdG (H : mR g Y S M) (W : mWs Y S) {j : Nat} (hj : j ≤ yn Y 3) {EX : mM → Prop} {BO : Option Nat → mM → Prop} (he : j = yn Y 3 → EX M) (hb : j < yn Y 3 → BO (some (yA Y 3 j)) M) :
    m_gR M (some (yA Y 0 0)) 13 1 fun x1 => m_rc M x1 4 fun b4 => wJx4a65c_size_8abf5 (fun x2 M3 => ((x2 ≤ nI j → EX M3) ∧ (¬ (x2 ≤ nI j) → m_gR M3 (some (yA Y 0 0)) 13 1 fun x6 => m_rc M3 x6 4 fun b9 => wJx4a65c_get_915e3 (fun x7 M8 => m_cast M8 x7 5 (BO x7 M8)) (some b9) (nI j) M3))) (some b4) M := by
  have hb8 := W.2.1
  refine s_gR6 H W.x0 rfl rfl rfl (s_rcL H rfl (W.l12 (by omega)) (c_szG H W ?_))
  by_cases z : j = yn Y 3
  · exact br_t (nI_le (by omega) (by omega)) (he z)
  · have hlt : j < yn Y 3 := by omega
    exact br_f (nI_ge hlt (by omega)) (s_gR6 H W.x0 rfl rfl rfl (s_rcL H rfl (W.l12 (by omega)) (c_gtG H W hlt (s_cast H hlt rfl rfl (hb hlt)))))
theorem c_hdS (H : mR g Y S M) (W : mWs Y S) {j : Nat} (hj : j ≤ yn Y 4) {EX : mM → Prop} {BO : Option Nat → mM → Prop} (he : j = yn Y 4 → EX M) (hb : j < yn Y 4 → BO (some (yA Y 4 j)) M) :
    m_gR M (some (yA Y 0 0)) 13 2 fun x1 => m_rc M x1 4 fun b4 => wJx4a65c_size_8abf5 (fun x2 M3 => ((x2 ≤ nI j → EX M3) ∧ (¬ (x2 ≤ nI j) → m_gR M3 (some (yA Y 0 0)) 13 2 fun x6 => m_rc M3 x6 4 fun b9 => wJx4a65c_get_915e3 (fun x7 M8 => m_cast M8 x7 11 (BO x7 M8)) (some b9) (nI j) M3))) (some b4) M := by
  have hb8 := W.2.1
  refine s_gR6 H W.x0 rfl rfl rfl (s_rcL H rfl (W.l12 (by omega)) (c_szS H W ?_))
  by_cases z : j = yn Y 4
  · exact br_t (nI_le (by omega) (by omega)) (he z)
  · have hlt : j < yn Y 4 := by omega
    exact br_f (nI_ge hlt (by omega)) (s_gR6 H W.x0 rfl rfl rfl (s_rcL H rfl (W.l12 (by omega)) (c_gtS H W hlt (s_cast H hlt rfl rfl (hb hlt)))))
theorem c_hdP (H : mR g Y S M) (W : mWs Y S) {j : Nat} (hj : j ≤ yn Y 5) {EX : mM → Prop} {BO : Option Nat → mM → Prop} (he : j = yn Y 5 → EX M) (hb : j < yn Y 5 → BO (some (yA Y 5 j)) M) :
    m_gR M (some (yA Y 0 0)) 13 3 fun x1 => m_rc M x1 4 fun b4 => wJx4a65c_size_8abf5 (fun x2 M3 => ((x2 ≤ nI j → EX M3) ∧ (¬ (x2 ≤ nI j) → m_gR M3 (some (yA Y 0 0)) 13 3 fun x6 => m_rc M3 x6 4 fun b9 => wJx4a65c_get_915e3 (fun x7 M8 => m_cast M8 x7 8 (BO x7 M8)) (some b9) (nI j) M3))) (some b4) M := by
  have hb8 := W.2.1
  refine s_gR6 H W.x0 rfl rfl rfl (s_rcL H rfl (W.l12 (by omega)) (c_szP H W ?_))
  by_cases z : j = yn Y 5
  · exact br_t (nI_le (by omega) (by omega)) (he z)
  · have hlt : j < yn Y 5 := by omega
    exact br_f (nI_ge hlt (by omega)) (s_gR6 H W.x0 rfl rfl rfl (s_rcL H rfl (W.l12 (by omega)) (c_gtP H W hlt (s_cast H hlt rfl rfl (hb hlt)))))
theorem c_hdH (H : mR g Y S M) (W : mWs Y S) {j : Nat} (hj : j ≤ yn Y 6) {EX : mM → Prop} {BO : Option Nat → mM → Prop} (he : j = yn Y 6 → EX M) (hb : j < yn Y 6 → BO (some (yA Y 6 j)) M) :
    m_gR M (some (yA Y 0 0)) 13 4 fun x1 => m_rc M x1 4 fun b4 => wJx4a65c_size_8abf5 (fun x2 M3 => ((x2 ≤ nI j → EX M3) ∧ (¬ (x2 ≤ nI j) → m_gR M3 (some (yA Y 0 0)) 13 4 fun x6 => m_rc M3 x6 4 fun b9 => wJx4a65c_get_915e3 (fun x7 M8 => m_cast M8 x7 6 (BO x7 M8)) (some b9) (nI j) M3))) (some b4) M := by
  have hb8 := W.2.1
  refine s_gR6 H W.x0 rfl rfl rfl (s_rcL H rfl (W.l12 (by omega)) (c_szH H W ?_))
  by_cases z : j = yn Y 6
  · exact br_t (nI_le (by omega) (by omega)) (he z)
  · have hlt : j < yn Y 6 := by omega
    exact br_f (nI_ge hlt (by omega)) (s_gR6 H W.x0 rfl rfl rfl (s_rcL H rfl (W.l12 (by omega)) (c_gtH H W hlt (s_cast H hlt rfl rfl (hb hlt)))))
/-- a loop's head over a line -/
theorem c_hdL (H : mR g Y S M) (W : mWs Y S) {t j : Nat} (ht : t < yn Y 3) (hj : j ≤ (sL S 13 t).length) {EX : mM → Prop} {BO : Option Nat → mM → Prop} (he : j = (sL S 13 t).length → EX M) (hb : ∀ s, (sL S 13 t)[j]? = some s → s < yn Y 4 → BO (some (yA Y 4 s)) M) :
    m_gR M (some (yA Y 3 t)) 5 5 fun x1 => m_rc M x1 4 fun b4 => wJx4a65c_size_8abf5 (fun x2 M3 => ((x2 ≤ nI j → EX M3) ∧ (¬ (x2 ≤ nI j) → m_gR M3 (some (yA Y 3 t)) 5 5 fun x6 => m_rc M3 x6 4 fun b9 => wJx4a65c_get_915e3 BO (some b9) (nI j) M3))) (some b4) M := by
  have hl := H.len (k := 13) (i := t) rfl (W.l13 ht)
  refine s_gR7 H ht rfl rfl rfl (s_rcL H rfl (W.l13 ht) (s_size H rfl (W.l13 ht) ?_))
  by_cases z : j = (sL S 13 t).length
  · exact br_t (nI_le (by omega) (by omega)) (he z)
  · have hlt : j < (sL S 13 t).length := by omega
    have hx : (sL S 13 t)[j]? = some ((sL S 13 t)[j]) := List.getElem?_eq_getElem hlt
    exact br_f (nI_ge hlt (by omega)) (s_gR7 H ht rfl rfl rfl (s_rcL H rfl (W.l13 ht) (s_get H rfl (W.l13 ht) hx (hb _ hx (H.lL rfl (W.l13 ht) hx)))))
/-- small methods -/
def cOpen (S : mS) (t : Nat) (hr : Int32) : Prop := ¬ sI S 3 t 4 ≤ m_rem ((hr - sI S 3 t 3) + 24) 24
theorem c_isOpenAt (H : mR g Y S M) {t : Nat} (ht : t < yn Y 3) {hr : Int32} {κ : Int32 → mM → Prop} (h1 : cOpen S t hr → κ 1 M) (h0 : ¬ cOpen S t hr → κ 0 M) : wX0_isOpenAt κ (some (yA Y 3 t)) hr M := s_gI H ht rfl rfl rfl (s_gI H ht rfl rfl rfl (br_c (fun z => h0 (fun w => w z)) (fun z => h1 z)))
theorem c_dozes (H : mR g Y S M) {t : Nat} (ht : t < yn Y 3) {κ : Int32 → mM → Prop} (h1 : ¬ sI S 3 t 9 < 5 → κ 1 M) (h0 : sI S 3 t 9 < 5 → κ 0 M) : wX0_dozes κ (some (yA Y 3 t)) M := s_gI H ht rfl rfl rfl (br_c h0 h1)
theorem c_isAt (H : mR g Y S M) {t l : Nat} (ht : t < yn Y 3) (hl : l < yn Y 2) {κ : Int32 → mM → Prop} (h1 : (l = sN S 3 t 1 ∨ l = sN S 3 t 2) → κ 1 M) (h0 : ¬ (l = sN S 3 t 1 ∨ l = sN S 3 t 2) → κ 0 M) : wX0_isAt κ (some (yA Y 3 t)) (some (yA Y 2 l)) M := by
  have e1 := H.sinj (H.lN (k := 3) (f := 1) (kt := 2) ht rfl) hl
  have e2 := H.sinj (H.lN (k := 3) (f := 2) (kt := 2) ht rfl) hl
  refine s_gR2 H ht rfl rfl rfl (br_c (fun z => h1 (Or.inl (e1.mp z))) (fun z => s_gR2 H ht rfl rfl rfl (br_c (fun w => h1 (Or.inr (e2.mp w))) (fun w => h0 (fun q => q.elim (fun q => z (e1.mpr q)) (fun q => w (e2.mpr q)))))))
def cAcr (S : mS) (t l : Nat) : Nat := if l = sN S 3 t 1 then sN S 3 t 2 else sN S 3 t 1
theorem c_acr_l (H : mR g Y S M) {t l : Nat} (ht : t < yn Y 3) : cAcr S t l < yn Y 2 := by
  unfold cAcr
  split
  · exact H.lN (k := 3) (f := 2) (kt := 2) ht rfl
  · exact H.lN (k := 3) (f := 1) (kt := 2) ht rfl
theorem c_across (H : mR g Y S M) {t l : Nat} (ht : t < yn Y 3) (hl : l < yn Y 2) {κ : Option Nat → mM → Prop} (h : κ (some (yA Y 2 (cAcr S t l))) M) : wX0_across κ (some (yA Y 3 t)) (some (yA Y 2 l)) M := by
  have e1 := H.sinj (H.lN (k := 3) (f := 1) (kt := 2) ht rfl) hl
  refine s_gR2 H ht rfl rfl rfl (br_c (fun z => s_gR2 H ht rfl rfl rfl ?_) (fun z => s_gR2 H ht rfl rfl rfl ?_))
  · rw [show cAcr S t l = sN S 3 t 2 from if_pos (e1.mp z)] at h
    exact h
  · rw [show cAcr S t l = sN S 3 t 1 from if_neg (fun w => z (e1.mpr w))] at h
    exact h
theorem c_dutyOn (H : mR g Y S M) {l : Nat} (hl : l < yn Y 2) {w : Int32} {κ : Int32 → mM → Prop} (h : κ (if sI S 2 l 2 < w then ((w - sI S 2 l 2) * sI S 2 l 1) / 100 else 0) M) : wX2_dutyOn κ (some (yA Y 2 l)) w M := by
  refine s_gI H hl rfl rfl rfl (br_c (fun z => s_gI H hl rfl rfl rfl (s_gI H hl rfl rfl rfl ?_)) (fun z => ?_))
  · rw [if_pos z] at h
    exact h
  · rw [if_neg z] at h
    exact h
theorem c_isNightmare (H : mR g Y S M) {p : Nat} (hp : p < yn Y 5) {κ : Int32 → mM → Prop} (h1 : ¬ sI S 5 p 3 < 5 → κ 1 M) (h0 : sI S 5 p 3 < 5 → κ 0 M) : wX3_isNightmare κ (some (yA Y 5 p)) M := s_gI H hp rfl rfl rfl (br_c h0 h1)
def cIn (set : Int32) (p : Nat) : Prop := ¬ ((m_shr set (nI p)) &&& 1) = 0
theorem c_isIn (H : mR g Y S M) (W : mWs Y S) {p : Nat} (hp : p < yn Y 5) {set : Int32} {κ : Int32 → mM → Prop} (h1 : cIn set p → κ 1 M) (h0 : ¬ cIn set p → κ 0 M) : wX3_isIn κ (some (yA Y 5 p)) set M := by
  refine s_gI H hp rfl rfl rfl ?_
  rw [W.2.2.2.1.2.2.2 p hp]
  exact br_c (fun z => h0 (fun w => w z)) (fun z => h1 z)
theorem c_isHidden (H : mR g Y S M) (W : mWs Y S) {p : Nat} (hp : p < yn Y 5) {κ : Int32 → mM → Prop} (h1 : ∀ s, sX S 5 p 5 = some s → ¬ cIn (sI S 4 s 6) p → κ 1 M) (h0 : (∀ s, sX S 5 p 5 = some s → cIn (sI S 4 s 6) p) → κ 0 M) : wX3_isHidden κ (some (yA Y 5 p)) M := by
  refine s_gR3 H hp rfl rfl rfl ?_
  cases hx : sX S 5 p 5 with
  | none =>
    exact br_t rfl (h0 (fun s hs => by rw [hx] at hs; cases hs))
  | some s =>
    have hs := H.lX (k := 5) (f := 5) (kt := 4) hp rfl s hx
    refine br_f (fun z => by cases z) (s_gR3 H hp rfl rfl rfl ?_)
    rw [hx]
    refine s_gI H hs rfl rfl rfl (s_rc H hp rfl rfl (c_isIn H W hp (fun z => ?_) (fun z => ?_)))
    · exact br_f (by decide) (h0 (fun s' hs' => by rw [hx] at hs'; cases hs'; exact z))
    · exact br_t rfl (h1 s hx z)
/-- where a part is: none, or a land -/
def cWh (S : mS) (p : Nat) : Option Nat := match sX S 5 p 6 with
  | some l => some l
  | none => (sX S 5 p 5).map (fun s => sN S 4 s 2)
theorem cWh_l (H : mR g Y S M) {p : Nat} (hp : p < yn Y 5) : ∀ l, cWh S p = some l → l < yn Y 2 := by
  intro l hl
  unfold cWh at hl
  split at hl
  · next l' h => cases hl; exact H.lX (k := 5) (f := 6) (kt := 2) hp rfl _ h
  · cases hx : sX S 5 p 5 with
    | none => rw [hx] at hl; cases hl
    | some s =>
      rw [hx] at hl
      cases hl
      exact H.lN (k := 4) (f := 2) (kt := 2) (H.lX (k := 5) (f := 5) (kt := 4) hp rfl s hx) rfl
theorem c_whereabouts (H : mR g Y S M) {p : Nat} (hp : p < yn Y 5) {κ : Option Nat → mM → Prop} (h : κ ((cWh S p).map (yA Y 2)) M) : wX3_whereabouts κ (some (yA Y 5 p)) M := by
  refine s_gR3 H hp rfl rfl rfl ?_
  cases h6 : sX S 5 p 6 with
  | some l =>
    refine br_f (fun z => by cases z) (s_gR3 H hp rfl rfl rfl ?_)
    have e : cWh S p = some l := by unfold cWh; rw [h6]
    rw [e] at h
    rw [h6]
    exact h
  | none =>
    refine br_t rfl (s_gR3 H hp rfl rfl rfl ?_)
    have e : cWh S p = (sX S 5 p 5).map (fun s => sN S 4 s 2) := by unfold cWh; rw [h6]
    rw [e] at h
    cases h5 : sX S 5 p 5 with
    | none =>
      rw [h5] at h
      exact br_t rfl h
    | some s =>
      rw [h5] at h
      refine br_f (fun z => by cases z) (s_gR3 H hp rfl rfl rfl ?_)
      rw [h5]
      exact s_gR2 H (H.lX (k := 5) (f := 5) (kt := 4) hp rfl s h5) rfl rfl rfl h
/-- numbers that callers give -/
theorem c_range (H : mR g Y S M) {l0 : Int32} {a b : Int32} {κ : mM → Prop} {ξ : String → mM → Prop} (h1 : ¬ l0 < a → l0 ≤ b → κ M) (h0 : ¬ (¬ l0 < a ∧ l0 ≤ b) → ξ "java/lang/IllegalArgumentException" M) : wX8_demandRange κ ξ l0 a b M := br_c (fun z => h0 (fun w => w.1 z)) (fun z => br_c (fun w => h1 z w) (fun w => h0 (fun q => w q.2)))
theorem c_landN (H : mR g Y S M) (W : mWs Y S) {l1 : Int32} {κ : Option Nat → mM → Prop} {ξ : String → mM → Prop} (h1 : ∀ l, l < 6 → l1 = nI l → κ (some (yA Y 2 l)) M) (h0 : ¬ (¬ l1 < 0 ∧ l1 < 6) → ξ "java/lang/IndexOutOfBoundsException" M) : wX8_landNumbered κ ξ (some (yA Y 0 0)) l1 M := by
  refine br_c (fun z => h0 (fun w => w.1 z)) (fun z => br_c (fun w => ?_) (fun w => h0 (fun q => w q.2)))
  obtain ⟨j, hj, rfl⟩ := nI_of z
  have hj6 : j < 6 := (nI_ltI (b := 6) hj (by omega)).mp w
  refine s_gR6 H W.x0 rfl rfl rfl (s_ldR H W.l1 rfl (by decide) rfl (by rw [W.2.2.2.2.1.1]; exact hj6) (by rw [W.2.2.2.2.1.1]; omega) ?_)
  rw [W.2.2.2.2.1.2 j hj6]
  exact h1 j hj6 rfl
theorem c_gateN (H : mR g Y S M) (W : mWs Y S) {l1 : Int32} {κ : Option Nat → mM → Prop} {ξ : String → mM → Prop} (h1 : ∀ t, t < yn Y 3 → l1 = nI t → κ (some (yA Y 3 t)) M) (h0 : ¬ (¬ l1 < 0 ∧ l1 < nI (yn Y 3)) → ξ "java/lang/IndexOutOfBoundsException" M) : wX8_gateNumbered κ ξ (some (yA Y 0 0)) l1 M := by
  have hb := W.2.1
  refine br_c (fun z => h0 (fun w => w.1 z)) (fun z => s_gR6 H W.x0 rfl rfl rfl (s_rcL H rfl (W.l12 (by omega)) (c_szG H W (br_c (fun w => ?_) (fun w => h0 (fun q => w q.2))))))
  obtain ⟨j, hj, rfl⟩ := nI_of z
  have hlt : j < yn Y 3 := (nI_ltI hj (by omega)).mp w
  exact s_gR6 H W.x0 rfl rfl rfl (s_rcL H rfl (W.l12 (by omega)) (c_gtG H W hlt (s_cast H hlt rfl rfl (h1 j hlt rfl))))
theorem c_sleeperN (H : mR g Y S M) (W : mWs Y S) {l1 : Int32} {κ : Option Nat → mM → Prop} {ξ : String → mM → Prop} (h1 : ∀ t, t < yn Y 4 → l1 = nI t → κ (some (yA Y 4 t)) M) (h0 : ¬ (¬ l1 < 0 ∧ l1 < nI (yn Y 4)) → ξ "java/lang/IndexOutOfBoundsException" M) : wX8_sleeperNumbered κ ξ (some (yA Y 0 0)) l1 M := by
  have hb := W.2.1
  refine br_c (fun z => h0 (fun w => w.1 z)) (fun z => s_gR6 H W.x0 rfl rfl rfl (s_rcL H rfl (W.l12 (by omega)) (c_szS H W (br_c (fun w => ?_) (fun w => h0 (fun q => w q.2))))))
  obtain ⟨j, hj, rfl⟩ := nI_of z
  have hlt : j < yn Y 4 := (nI_ltI hj (by omega)).mp w
  exact s_gR6 H W.x0 rfl rfl rfl (s_rcL H rfl (W.l12 (by omega)) (c_gtS H W hlt (s_cast H hlt rfl rfl (h1 j hlt rfl))))
theorem c_partN (H : mR g Y S M) (W : mWs Y S) {l1 : Int32} {κ : Option Nat → mM → Prop} {ξ : String → mM → Prop} (h1 : ∀ t, t < yn Y 5 → l1 = nI t → κ (some (yA Y 5 t)) M) (h0 : ¬ (¬ l1 < 0 ∧ l1 < nI (yn Y 5)) → ξ "java/lang/IndexOutOfBoundsException" M) : wX8_partNumbered κ ξ (some (yA Y 0 0)) l1 M := by
  have hb := W.2.1
  refine br_c (fun z => h0 (fun w => w.1 z)) (fun z => s_gR6 H W.x0 rfl rfl rfl (s_rcL H rfl (W.l12 (by omega)) (c_szP H W (br_c (fun w => ?_) (fun w => h0 (fun q => w q.2))))))
  obtain ⟨j, hj, rfl⟩ := nI_of z
  have hlt : j < yn Y 5 := (nI_ltI hj (by omega)).mp w
  exact s_gR6 H W.x0 rfl rfl rfl (s_rcL H rfl (W.l12 (by omega)) (c_gtP H W hlt (s_cast H hlt rfl rfl (h1 j hlt rfl))))
end CBASE1
