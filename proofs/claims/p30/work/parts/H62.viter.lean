/-! THE PURE SIDE, 13: the reference's iterators and new rows -/
/-- all but iterators and new rows is the same -/
def eqT (S' S : mS) : Prop := ∀ k i, k ≠ 32 → k ≠ 38 → mEq S' S k i
theorem eqT.rf (S : mS) : eqT S S := fun k i _ _ => mEq.rf S k i
theorem eqT.tr {S S' S'' : mS} (h : eqT S'' S') (h' : eqT S' S) : eqT S'' S := fun k i a b => (h k i a b).tr (h' k i a b)
/-- one cell more, of one of these two kinds -/
def mX1 (Y : mY) (S : mS) (k : Nat) (Y1 : mY) (S1 : mS) : Prop := (∀ k' i', i' < yn Y k' → yA Y1 k' i' = yA Y k' i') ∧ yn Y1 k = yn Y k + 1 ∧ (∀ k', k' ≠ k → yn Y1 k' = yn Y k') ∧ (∀ k' i', ¬ (k' = k ∧ i' = yn Y k) → mEq S1 S k' i')
theorem vP_uX {g : Nat → Nat} {Y : mY} {S0 S : mS} {M M' : mM} (h : vP g Y S0 Y S M) {k i f : Nat} {v : Option Nat} (H' : mR g Y (uX S k i f v) M') (hk : 20 ≤ k ∧ k ≠ 31 ∧ ¬ (35 ≤ k ∧ k ≤ 37)) : vP g Y S0 Y (uX S k i f v) M' := by
  obtain ⟨⟨H, V, VV, VQ, VT⟩, F, R⟩ := h
  exact ⟨⟨H', vS_uX V, VV.of (fun _ _ _ _ => rfl), VQ.of (fun _ => rfl) (fun _ => rfl) (fun _ => rfl), VT⟩, F.tr (mFm.of (fun k' hk' i' => mEq.uX (by omega))), ⟨R.1, R.2⟩⟩
section VIT
variable {g : Nat → Nat} {Y : mY} {S : mS} {M : mM}
theorem mVs.X1 {k : Nat} (hk : k = 32 ∨ k = 38) {Y1 : mY} {S1 : mS} (a : mX1 Y S k Y1 S1) (V : mVs Y S) : mVs Y1 S1 := by
  obtain ⟨a1, a2, a3, a5⟩ := a
  have n20 := a3 20 (by omega); have n21 := a3 21 (by omega); have n22 := a3 22 (by omega); have n23 := a3 23 (by omega); have n24 := a3 24 (by omega); have n25 := a3 25 (by omega); have n26 := a3 26 (by omega); have n27 := a3 27 (by omega); have n28 := a3 28 (by omega); have n29 := a3 29 (by omega); have n30 := a3 30 (by omega); have n33 := a3 33 (by omega)
  obtain ⟨w1, w2, w3, ⟨v1, v2, v3⟩, ⟨u1, u2, u3, u4⟩⟩ := V
  have hL : ∀ i, sL S1 24 i = sL S 24 i := fun i => (a5 24 i (by omega)).2.2.2.2.1
  refine ⟨by rw [n20, n21, n22, n23, n24, n25, n26, n27, n30, n33]; exact w1, by rw [n23, n28, n29]; exact w2, by rw [hL, hL, hL, hL, n23, n28, n29]; exact w3, ⟨fun v hv => (congrFun (a5 30 v (by omega)).1 0).trans (v1 v hv), ((a5 33 0 (by omega)).2.2.2.2.2.2.1).trans v2, fun v hv => ?_⟩, ⟨((a5 21 0 (by omega)).2.2.2.2.2.2.1).trans u1, fun i hi => ?_, fun t ht => ((a5 26 t (by omega)).2.2.2.2.2.2.1).trans (u3 t (by omega)), ((a5 27 0 (by omega)).2.2.2.2.2.2.1).trans u4⟩⟩
  · rw [congrFun (a5 33 0 (by omega)).2.2.2.2.2.2.2.2 (128 + v), v3 v hv, a1 30 v (by omega)]
  · rw [congrFun (a5 21 0 (by omega)).2.2.2.2.2.2.2.2 i, u2 i hi, a1 22 i (by omega)]
theorem vOK_n {Y1 : mY} (h8 : yn Y1 28 = yn Y 28) (h3 : yn Y1 23 = yn Y 23) {k f : Nat} {v : Int32} (h : vOK Y k f v) : vOK Y1 k f v := by
  unfold vOK at h ⊢
  rw [h8, h3]
  exact h
theorem mVv.X1 {k : Nat} (hk : k = 32 ∨ k = 38) {Y1 : mY} {S1 : mS} (a : mX1 Y S k Y1 S1) (V : mVv Y S) : mVv Y1 S1 := by
  obtain ⟨a1, a2, a3, a5⟩ := a
  refine ⟨fun k' i f hi => ?_, fun p hp h3 => ?_⟩
  · by_cases z : k' = k
    · subst z
      rcases hk with rfl | rfl <;> exact trivial
    · rw [a3 k' z] at hi
      rw [congrFun (a5 k' i (by omega)).1 f]
      exact vOK_n (a3 28 (by omega)) (a3 23 (by omega)) (V.1 k' i f hi)
  · rw [a3 29 (by omega)] at hp
    rw [congrFun (a5 29 p (by omega)).1 3] at h3
    rw [congrFun (a5 29 p (by omega)).1 5, a3 28 (by omega)]
    exact V.2 p hp h3
theorem mVq.X1 {k : Nat} (hk : k = 32 ∨ k = 38) {Y1 : mY} {S1 : mS} (a : mX1 Y S k Y1 S1) (V : mVq Y S) : mVq Y1 S1 := by
  obtain ⟨a1, a2, a3, a5⟩ := a
  have eL : ∀ t, sL S1 25 t = sL S 25 t := fun t => (a5 25 t (by omega)).2.2.2.2.1
  have e3 : ∀ s, sI S1 28 s 3 = sI S 28 s 3 := fun s => congrFun (a5 28 s (by omega)).1 3
  have e4 : ∀ s, sI S1 28 s 4 = sI S 28 s 4 := fun s => congrFun (a5 28 s (by omega)).1 4
  refine ⟨fun t ht => ?_, fun s hs h3 => ?_⟩
  · rw [eL, a3 28 (by omega)]
    exact ⟨(V.1 t (by rw [← a3 23 (by omega)]; exact ht)).1, fun s hs => by rw [e3, e4]; exact (V.1 t (by rw [← a3 23 (by omega)]; exact ht)).2 s hs⟩
  · rw [e3] at h3
    obtain ⟨t, q1, q2, q3⟩ := V.2 s (by rw [← a3 28 (by omega)]; exact hs) h3
    exact ⟨t, by rw [a3 23 (by omega)]; exact q1, by rw [e4]; exact q2, by rw [eL]; exact q3⟩
theorem vP_X1 {Y0 : mY} {S0 : mS} (P : vP g Y0 S0 Y S M) {k : Nat} (hk : k = 32 ∨ k = 38) {Y1 : mY} {S1 : mS} {M1 : mM} (H1 : mR g Y1 S1 M1) (a : mX1 Y S k Y1 S1) : vP g Y0 S0 Y1 S1 M1 := by
  obtain ⟨⟨H, V, VV, VQ, VT⟩, F, R⟩ := P
  have F1 : mFm Y S Y1 S1 := by
    refine ⟨a.1, fun k' => ?_, fun k' hk' => ⟨a.2.2.1 k' (by omega), fun i => a.2.2.2 k' i (by omega)⟩⟩
    by_cases z : k' = k
    · subst z; rw [a.2.1]; omega
    · rw [a.2.2.1 k' z]; exact Nat.le_refl _
  have hT : mVt S1 := by
    obtain ⟨x, y, t1, t2, t3, t4⟩ := VT
    exact ⟨x, y, t1, t2, (congrFun (a.2.2.2 20 0 (by omega)).1 1).trans t3, (congrFun (a.2.2.2 20 0 (by omega)).1 2).trans t4⟩
  exact ⟨⟨H1, V.X1 hk a, VV.X1 hk a, VQ.X1 hk a, hT⟩, F.tr F1, ⟨fun k i f q => (congrFun (a.2.2.2 k i (by have := qV_d q; omega)).1 f).trans (R.1 k i f q), (a.2.2.1 23 (by omega)).trans R.2.1, (a.2.2.1 28 (by omega)).trans R.2.2⟩⟩
theorem s_gR8 (H : mR g Y S M) {k i f ci : Nat} (hi : i < yn Y k) (h1 : m_ak k = 99) (h2 : m_cls k = ci) (h3 : (m_fds k)[f]? = some (8, 0, 0)) {κ : Option Nat → Prop} (h : κ (sX S k i f)) : m_gR M (some (yA Y k i)) ci f κ := by
  subst h2
  refine ⟨_, _, _, rfl, H.at hi h1, ?_, h⟩
  rw [List.getElem?_mapIdx, h3]
  rfl
theorem s_gIL (H : mR g Y S M) {k i : Nat} (hk : mLk k = true) (hi : i < yn Y k) {κ : Int32 → Prop} (h : κ (nI (sL S k i).length)) : m_gI M (some (yA Y k i)) 4 2 κ := ⟨_, _, _, rfl, H.hdr hk hi, rfl, h⟩
theorem s_gRL (H : mR g Y S M) {k i : Nat} (hk : mLk k = true) (hi : i < yn Y k) {κ : Option Nat → Prop} (h : κ (some (se S k i))) : m_gR M (some (yA Y k i)) 4 1 κ := ⟨_, _, some (se S k i), rfl, H.hdr hk hi, rfl, h⟩
/-- an iterator over one of the reference's lists, in front of its element c -/
def vIt (Y : mY) (S : mS) (i j c : Nat) : Prop := i < yn Y 32 ∧ sI S 32 i 0 = nI c ∧ sI S 32 i 2 = sI S 24 j 0 ∧ sX S 32 i 3 = some (yA Y 24 j)
theorem vIt.nx {i j c : Nat} (I : vIt Y S i j c) : vIt Y (uI (uI S 32 i 0 (nI (c + 1))) 32 i 1 (nI c)) i j (c + 1) := ⟨I.1, (sI_uI (by omega)).trans sI_uI_s, (((sI_uI (by omega)).trans (sI_uI (by omega))).trans I.2.2.1).trans ((sI_uI (by omega)).trans (sI_uI (by omega))).symm, I.2.2.2⟩
theorem vP_nx {Y0 : mY} {S0 : mS} (P : vP g Y0 S0 Y S M) {i c : Nat} {M' : mM} (H' : mR g Y (uI (uI S 32 i 0 (nI (c + 1))) 32 i 1 (nI c)) M') : vP g Y0 S0 Y (uI (uI S 32 i 0 (nI (c + 1))) 32 i 1 (nI c)) M' := by
  obtain ⟨⟨H, V, VV, VQ, VT⟩, F, R⟩ := P
  exact ⟨⟨H', vS_uI (vS_uI V (by omega)) (by omega), vV_uI (k := 32) (vV_uI (k := 32) VV trivial (by omega)) trivial (by omega), vQ_uI (vQ_uI VQ (by omega)) (by omega), vT_uI (vT_uI VT (by omega)) (by omega)⟩, (F.tr (mFm.uI (by omega))).tr (mFm.uI (by omega)), vQ.c R (fun k' i' f' q => ((sI_uI (by have := qV_d q; omega)).trans (sI_uI (by have := qV_d q; omega))))⟩
/-- declared ones that come in -/
theorem vP_fate {Y0 : mY} {S0 : mS} (P : vP g Y0 S0 Y S M) {p : Nat} {v : Int32} {M' : mM} (H' : mR g Y (uI S 29 p 3 v) M') (hv : v ≠ 3) : vP g Y0 S0 Y (uI S 29 p 3 v) M' := by
  obtain ⟨⟨H, V, VV, VQ, VT⟩, F, R⟩ := P
  exact ⟨⟨H', vS_uI V (by omega), vV_fate VV hv, vQ_uI VQ (by omega), vT_uI VT (by omega)⟩, F.tr (mFm.uI (by omega)), vQ.c R (fun k' i' f' q => (sI_uI (by have := qV_d q; omega)))⟩
theorem vP_I {Y0 : mY} {S0 : mS} (P : vP g Y0 S0 Y S M) {k i f : Nat} {v : Int32} {M' : mM} (H' : mR g Y (uI S k i f v) M') (hv : vOK Y k f v) (hk : 20 ≤ k ∧ k ≠ 31 ∧ ¬ (35 ≤ k ∧ k ≤ 37) ∧ k ≠ 30 ∧ ¬ (k = 22 ∧ (f = 0 ∨ f = 2)) ∧ ¬ (k = 23 ∧ f = 4) ∧ ¬ (k = 20 ∧ (f = 1 ∨ f = 2)) ∧ ¬ (k = 28 ∧ (f = 3 ∨ f = 4)) ∧ ¬ (k = 29 ∧ (f = 3 ∨ f = 5))) : vP g Y0 S0 Y (uI S k i f v) M' := by
  obtain ⟨⟨H, V, VV, VQ, VT⟩, F, R⟩ := P
  exact ⟨⟨H', vS_uI V (by omega), vV_uI VV hv (by omega), vQ_uI VQ (by omega), vT_uI VT (by omega)⟩, F.tr (mFm.uI (by omega)), vQ.c R (fun k' i' f' q => (sI_uI (by have := qV_d q; omega)))⟩
/-- nothing but parts and what came in has changed -/
def vCi (S' S : mS) : Prop := ∀ k i, k ≠ 29 → k ≠ 22 → mEq S' S k i
/-- a new row of ints -/
theorem v_row {Y0 : mY} {S0 : mS} (P : vP g Y0 S0 Y S M) {n B : Nat} (hn : n < 2 ^ 31) (hB : n ≤ B) {κ : Nat → mM → Prop} (h : ∀ Y1 S1 M1 i, vP g Y0 S0 Y1 S1 M1 → mX1 Y S 38 Y1 S1 → i < yn Y1 38 → sC S1 38 i = n → sE S1 38 i = (fun _ => 0) → κ (yA Y1 38 i) M1) : m_newI M 0 (nI n) B κ := by
  have H := P.1.1
  refine r_newI hn hB (fun q M1 hq h1 o1 => ?_)
  have hF := H.fr hq
  have H1 : mR g Y S M1 := H.off hF o1
  have eC : sC (uO S 38 (yn Y 38) (fun _ => 0) (fun _ => 0) (fun _ => none) (fun _ => 0) [] 0 n (fun _ => 0) (fun _ => none)) 38 (yn Y 38) = n := if_pos ⟨rfl, rfl⟩
  have eE : sE (uO S 38 (yn Y 38) (fun _ => 0) (fun _ => 0) (fun _ => none) (fun _ => 0) [] 0 n (fun _ => 0) (fun _ => none)) 38 (yn Y 38) = (fun _ => 0) := if_pos ⟨rfl, rfl⟩
  have H2 := H1.alloc (k := 38) hF (uO S 38 (yn Y 38) (fun _ => 0) (fun _ => 0) (fun _ => none) (fun _ => 0) [] 0 n (fun _ => 0) (fun _ => none)) (fun k' i' hi => mEq.uO (fun z => by obtain ⟨rfl, rfl⟩ := z; exact Nat.lt_irrefl _ hi)) (by
    rw [h1]
    show _ = some (Sum.inl (0, sC _ 38 (yn Y 38), Sum.inl (sE _ 38 (yn Y 38))))
    rw [eC, eE]) (fun z => absurd z (by decide)) (fun f t ht => by cases ht) (by decide) (by decide)
  have a : mX1 Y S 38 (aY Y 38 q) (uO S 38 (yn Y 38) (fun _ => 0) (fun _ => 0) (fun _ => none) (fun _ => 0) [] 0 n (fun _ => 0) (fun _ => none)) := ⟨fun k' i' hi => aY_A hi, aY_n, fun k' z => aY_nn z, fun k' i' z => mEq.uO z⟩
  have hq' : yA (aY Y 38 q) 38 (yn Y 38) = q := aY_q
  generalize aY Y 38 q = Y1 at H2 a hq'
  rw [← hq']
  exact h Y1 _ M1 _ (vP_X1 P (Or.inr rfl) H2 a) a (by rw [a.2.1]; omega) eC eE
end VIT
