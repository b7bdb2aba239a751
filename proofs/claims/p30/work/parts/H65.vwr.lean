/-! THE PURE SIDE, 16: the reference's short methods that write; sleepers and parts -/
theorem nI_rg {v : Int32} {n : Nat} (hn : n < 100000) (z : ¬ v < 0) (w : ¬ nI n < v) : ∃ a, a ≤ n ∧ v = nI a := by
  obtain ⟨j, hj, rfl⟩ := nI_of z
  refine ⟨j, ?_, rfl⟩
  have := Nat.not_lt.mp (fun q => w (nI_lt (a := n) (b := j) q (by omega)))
  omega
theorem vOK_m {Y Y1 : mY} (h8 : yn Y 28 ≤ yn Y1 28) (h3 : yn Y 23 ≤ yn Y1 23) {k f : Nat} {v : Int32} (h : vOK Y k f v) : vOK Y1 k f v := by
  by_cases z : k = 28 ∧ f = 4
  · obtain ⟨rfl, rfl⟩ := z
    rcases h with h | ⟨t, ht, e⟩
    · exact Or.inl h
    · exact Or.inr ⟨t, by omega, e⟩
  · by_cases z2 : k = 29 ∧ f = 4
    · obtain ⟨rfl, rfl⟩ := z2
      obtain ⟨a, e, h⟩ := h
      exact ⟨a, e, by omega⟩
    · unfold vOK at h ⊢
      split
      · exact h
      · split
        · exact h
        · exact absurd ⟨rfl, rfl⟩ z
        · exact h
        · trivial
      · split
        · exact h
        · exact h
        · exact absurd ⟨rfl, rfl⟩ z2
        · trivial
      · trivial
section VWR
variable {g : Nat → Nat} {Y : mY} {S : mS} {M : mM}
theorem mVI.grow28 {Y0 : mY} {S0 : mS} (P : vP g Y0 S0 Y S M) {q e : Nat} {md : Int32} {fI : Nat → Int32} {fJ : Nat → Int64} {fX : Nat → Option Nat} {fN : Nat → Nat} {xs : List Nat} {e0 : Nat} {Y1 : mY} {S1 : mS} {M1 : mM} (A : mAl Y S 28 q fI fJ fX fN xs e0 Y1 S1) (hcap : yn Y 28 < 12) (hOK : ∀ f, vOK Y 28 f (fI f)) (h3 : fI 3 = 0) (H' : mR g Y1 (uL S1 24 1 md e (List.range (yn Y 28) ++ [yn Y 28])) M1) : mVI g Y1 (uL S1 24 1 md e (List.range (yn Y 28) ++ [yn Y 28])) M1 ∧ mFm Y0 S0 Y1 (uL S1 24 1 md e (List.range (yn Y 28) ++ [yn Y 28])) ∧ (∀ k i f, qV k f = true → sI (uL S1 24 1 md e (List.range (yn Y 28) ++ [yn Y 28])) k i f = sI S k i f) ∧ yn Y1 23 = yn Y 23 ∧ yn Y1 28 = yn Y 28 + 1 ∧ sI (uL S1 24 1 md e (List.range (yn Y 28) ++ [yn Y 28])) 20 0 0 = sI S 20 0 0 := by
  obtain ⟨⟨H, V, VV, VQ, VT⟩, F, R⟩ := P
  have F1 := A.Fm (by omega)
  obtain ⟨a1, a2, a3, a4, a5, a6, -⟩ := A
  have n20 := a3 20 (by omega); have n21 := a3 21 (by omega); have n22 := a3 22 (by omega); have n23 := a3 23 (by omega); have n24 := a3 24 (by omega); have n25 := a3 25 (by omega); have n26 := a3 26 (by omega); have n27 := a3 27 (by omega); have n29 := a3 29 (by omega); have n30 := a3 30 (by omega); have n33 := a3 33 (by omega)
  have hbd := V.2.1
  have hI : ∀ k i f, ¬ (k = 28 ∧ i = yn Y 28) → k ≠ 24 → sI (uL S1 24 1 md e (List.range (yn Y 28) ++ [yn Y 28])) k i f = sI S k i f := fun k i f hk hk' => (sI_uL (by omega)).trans (congrFun (a5 k i hk).1 f)
  have hI' : ∀ f, sI (uL S1 24 1 md e (List.range (yn Y 28) ++ [yn Y 28])) 28 (yn Y 28) f = fI f := fun f => (sI_uL (by omega)).trans (congrFun a6 f)
  have hL : ∀ k i, ¬ (k = 28 ∧ i = yn Y 28) → ¬ (k = 24 ∧ i = 1) → sL (uL S1 24 1 md e (List.range (yn Y 28) ++ [yn Y 28])) k i = sL S k i := fun k i hk hk' => (sL_uL hk').trans (a5 k i hk).2.2.2.2.1
  have hL1 : sL (uL S1 24 1 md e (List.range (yn Y 28) ++ [yn Y 28])) 24 1 = List.range (yn Y 28 + 1) := sL_uL_s.trans List.range_succ.symm
  have hC : ∀ k i, k ≠ 28 → sC (uL S1 24 1 md e (List.range (yn Y 28) ++ [yn Y 28])) k i = sC S k i := fun k i hk => (a5 k i (by omega)).2.2.2.2.2.2.1
  have hP : ∀ k i x, k ≠ 28 → sP (uL S1 24 1 md e (List.range (yn Y 28) ++ [yn Y 28])) k i x = sP S k i x := fun k i x hk => congrFun (a5 k i (by omega)).2.2.2.2.2.2.2.2 x
  have FL : mFm Y S Y1 (uL S1 24 1 md e (List.range (yn Y 28) ++ [yn Y 28])) := F1.tr (mFm.uL (by omega))
  generalize uL S1 24 1 md e (List.range (yn Y 28) ++ [yn Y 28]) = S2 at H' hI hI' hL hL1 hC hP FL ⊢
  refine ⟨⟨H', ?_, ?_, ?_, ?_⟩, F.tr FL, fun k i f q => hI k i f (by have := qV_d q; omega) (by have := qV_d q; omega), n23, a2, hI 20 0 0 (by omega) (by omega)⟩
  · obtain ⟨w1, w2, ⟨p0, p1, p2, ph, p3, p4, p5⟩, ⟨v1, v2, v3⟩, ⟨u1, u2, u3, u4⟩⟩ := V
    refine ⟨by rw [n20, n21, n22, n23, n24, n25, n26, n27, n30, n33]; exact w1, by rw [n23, n29, a2]; omega, ?_, ⟨fun v hv => (hI 30 v 0 (by omega) (by omega)).trans (v1 v hv), (hC 33 0 (by omega)).trans v2, fun v hv => ?_⟩, ⟨(hC 21 0 (by omega)).trans u1, fun i hi => ?_, fun t ht => (hC 26 t (by omega)).trans (u3 t (by omega)), (hC 27 0 (by omega)).trans u4⟩⟩
    · rw [hL 24 0 (by omega) (by omega), hL1, hL 24 2 (by omega) (by omega), hL 24 3 (by omega) (by omega), n23, n29, a2]
      exact ⟨p0, rfl, p2, ph, p3, p4, fun x v hx => Nat.lt_succ_of_lt (p5 x v hx)⟩
    · rw [hP 33 0 _ (by omega), v3 v hv, a1 30 v (by omega)]
    · rw [hP 21 0 i (by omega), u2 i hi, a1 22 i (by omega)]
  · refine ⟨fun k' i f hi => ?_, fun p hp hp3 => ?_⟩
    · by_cases z : k' = 28 ∧ i = yn Y 28
      · obtain ⟨rfl, rfl⟩ := z
        rw [hI']
        exact vOK_m (by omega) (by omega) (hOK f)
      · by_cases z4 : k' = 24
        · subst z4
          exact trivial
        · rw [hI k' i f z z4]
          refine vOK_m (by omega) (by omega) (VV.1 k' i f ?_)
          by_cases zk : k' = 28
          · subst zk
            have : i ≠ yn Y 28 := fun e => z ⟨rfl, e⟩
            omega
          · rw [a3 k' zk] at hi
            exact hi
    · rw [hI 29 p 3 (by omega) (by omega)] at hp3
      rw [hI 29 p 5 (by omega) (by omega)]
      obtain ⟨b, q1, q2⟩ := VV.2 p (by omega) hp3
      exact ⟨b, by omega, q2⟩
  · refine ⟨fun t ht => ?_, fun s hs hs3 => ?_⟩
    · have ht' : t < yn Y 23 := by omega
      rw [hL 25 t (by omega) (by omega)]
      refine ⟨(VQ.1 t ht').1, fun s hs => ?_⟩
      obtain ⟨q1, q2, q3⟩ := (VQ.1 t ht').2 s hs
      rw [hI 28 s 3 (by omega) (by omega), hI 28 s 4 (by omega) (by omega)]
      exact ⟨by omega, q2, q3⟩
    · by_cases z : s = yn Y 28
      · rw [z, hI', h3] at hs3
        exact absurd hs3 (by decide)
      · rw [hI 28 s 3 (by omega) (by omega)] at hs3
        obtain ⟨t, q1, q2, q3⟩ := VQ.2 s (by omega) hs3
        exact ⟨t, by omega, by rw [hI 28 s 4 (by omega) (by omega)]; exact q2, by rw [hL 25 t (by omega) (by omega)]; exact q3⟩
  · obtain ⟨nt, hr, t1, t2, t3, t4⟩ := VT
    exact ⟨nt, hr, t1, t2, (hI 20 0 1 (by omega) (by omega)).trans t3, (hI 20 0 2 (by omega) (by omega)).trans t4⟩
theorem mVI.grow29 {Y0 : mY} {S0 : mS} (P : vP g Y0 S0 Y S M) {q e : Nat} {md : Int32} {fI : Nat → Int32} {fJ : Nat → Int64} {fX : Nat → Option Nat} {fN : Nat → Nat} {xs : List Nat} {e0 : Nat} {Y1 : mY} {S1 : mS} {M1 : mM} (A : mAl Y S 29 q fI fJ fX fN xs e0 Y1 S1) (hcap : yn Y 29 < 24) (hOK : ∀ f, vOK Y 29 f (fI f)) (h3 : fI 3 = 0) (H' : mR g Y1 (uL S1 24 2 md e (List.range (yn Y 29) ++ [yn Y 29])) M1) : vP g Y0 S0 Y1 (uL S1 24 2 md e (List.range (yn Y 29) ++ [yn Y 29])) M1 := by
  obtain ⟨⟨H, V, VV, VQ, VT⟩, F, R⟩ := P
  have F1 := A.Fm (by omega)
  obtain ⟨a1, a2, a3, a4, a5, a6, -⟩ := A
  have n20 := a3 20 (by omega); have n21 := a3 21 (by omega); have n22 := a3 22 (by omega); have n23 := a3 23 (by omega); have n24 := a3 24 (by omega); have n25 := a3 25 (by omega); have n26 := a3 26 (by omega); have n27 := a3 27 (by omega); have n28 := a3 28 (by omega); have n30 := a3 30 (by omega); have n33 := a3 33 (by omega)
  have hbd := V.2.1
  have hI : ∀ k i f, ¬ (k = 29 ∧ i = yn Y 29) → k ≠ 24 → sI (uL S1 24 2 md e (List.range (yn Y 29) ++ [yn Y 29])) k i f = sI S k i f := fun k i f hk hk' => (sI_uL (by omega)).trans (congrFun (a5 k i hk).1 f)
  have hI' : ∀ f, sI (uL S1 24 2 md e (List.range (yn Y 29) ++ [yn Y 29])) 29 (yn Y 29) f = fI f := fun f => (sI_uL (by omega)).trans (congrFun a6 f)
  have hL : ∀ k i, ¬ (k = 29 ∧ i = yn Y 29) → ¬ (k = 24 ∧ i = 2) → sL (uL S1 24 2 md e (List.range (yn Y 29) ++ [yn Y 29])) k i = sL S k i := fun k i hk hk' => (sL_uL hk').trans (a5 k i hk).2.2.2.2.1
  have hL1 : sL (uL S1 24 2 md e (List.range (yn Y 29) ++ [yn Y 29])) 24 2 = List.range (yn Y 29 + 1) := sL_uL_s.trans List.range_succ.symm
  have hC : ∀ k i, k ≠ 29 → sC (uL S1 24 2 md e (List.range (yn Y 29) ++ [yn Y 29])) k i = sC S k i := fun k i hk => (a5 k i (by omega)).2.2.2.2.2.2.1
  have hP : ∀ k i x, k ≠ 29 → sP (uL S1 24 2 md e (List.range (yn Y 29) ++ [yn Y 29])) k i x = sP S k i x := fun k i x hk => congrFun (a5 k i (by omega)).2.2.2.2.2.2.2.2 x
  have FL : mFm Y S Y1 (uL S1 24 2 md e (List.range (yn Y 29) ++ [yn Y 29])) := F1.tr (mFm.uL (by omega))
  generalize uL S1 24 2 md e (List.range (yn Y 29) ++ [yn Y 29]) = S2 at H' hI hI' hL hL1 hC hP FL ⊢
  refine ⟨⟨H', ?_, ?_, ?_, ?_⟩, F.tr FL, ⟨fun k i f q => (hI k i f (by have := qV_d q; omega) (by have := qV_d q; omega)).trans (R.1 k i f q), (a3 23 (by omega)).trans R.2.1, (a3 28 (by omega)).trans R.2.2⟩⟩
  · obtain ⟨w1, w2, ⟨p0, p1, p2, ph, p3, p4, p5⟩, ⟨v1, v2, v3⟩, ⟨u1, u2, u3, u4⟩⟩ := V
    refine ⟨by rw [n20, n21, n22, n23, n24, n25, n26, n27, n30, n33]; exact w1, by rw [n23, n28, a2]; omega, ?_, ⟨fun v hv => (hI 30 v 0 (by omega) (by omega)).trans (v1 v hv), (hC 33 0 (by omega)).trans v2, fun v hv => ?_⟩, ⟨(hC 21 0 (by omega)).trans u1, fun i hi => ?_, fun t ht => (hC 26 t (by omega)).trans (u3 t (by omega)), (hC 27 0 (by omega)).trans u4⟩⟩
    · rw [hL 24 0 (by omega) (by omega), hL 24 1 (by omega) (by omega), hL1, hL 24 3 (by omega) (by omega), n23, n28, a2]
      exact ⟨p0, p1, rfl, ph, p3, p4, p5⟩
    · rw [hP 33 0 _ (by omega), v3 v hv, a1 30 v (by omega)]
    · rw [hP 21 0 i (by omega), u2 i hi, a1 22 i (by omega)]
  · refine ⟨fun k' i f hi => ?_, fun p hp hp3 => ?_⟩
    · by_cases z : k' = 29 ∧ i = yn Y 29
      · obtain ⟨rfl, rfl⟩ := z
        rw [hI']
        exact vOK_m (by omega) (by omega) (hOK f)
      · by_cases z4 : k' = 24
        · subst z4
          exact trivial
        · rw [hI k' i f z z4]
          refine vOK_m (by omega) (by omega) (VV.1 k' i f ?_)
          by_cases zk : k' = 29
          · subst zk
            have : i ≠ yn Y 29 := fun e => z ⟨rfl, e⟩
            omega
          · rw [a3 k' zk] at hi
            exact hi
    · by_cases z : p = yn Y 29
      · rw [z, hI', h3] at hp3
        exact absurd hp3 (by decide)
      · rw [hI 29 p 3 (by omega) (by omega)] at hp3
        rw [hI 29 p 5 (by omega) (by omega), n28]
        exact VV.2 p (by omega) hp3
  · refine ⟨fun t ht => ?_, fun s hs hs3 => ?_⟩
    · have ht' : t < yn Y 23 := by omega
      rw [hL 25 t (by omega) (by omega)]
      refine ⟨(VQ.1 t ht').1, fun s hs => ?_⟩
      obtain ⟨q1, q2, q3⟩ := (VQ.1 t ht').2 s hs
      rw [hI 28 s 3 (by omega) (by omega), hI 28 s 4 (by omega) (by omega)]
      exact ⟨by omega, q2, q3⟩
    · have z : True := trivial
      · rw [hI 28 s 3 (by omega) (by omega)] at hs3
        obtain ⟨t, q1, q2, q3⟩ := VQ.2 s (by omega) hs3
        exact ⟨t, by omega, by rw [hI 28 s 4 (by omega) (by omega)]; exact q2, by rw [hL 25 t (by omega) (by omega)]; exact q3⟩
  · obtain ⟨nt, hr, t1, t2, t3, t4⟩ := VT
    exact ⟨nt, hr, t1, t2, (hI 20 0 1 (by omega) (by omega)).trans t3, (hI 20 0 2 (by omega) (by omega)).trans t4⟩
end VWR
