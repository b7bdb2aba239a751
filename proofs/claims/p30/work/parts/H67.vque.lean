/-! THE PURE SIDE, 18: the reference's queues, yawns and appeals -/
theorem mVq.out {Y : mY} {S : mS} (Q : mVq Y S) (hb : yn Y 23 ≤ 8) {t s j : Nat} {md : Int32} {e : Nat} {v : Int32} (hv : v ≠ 1) (ht : t < yn Y 23) (hj : (sL S 25 t)[j]? = some s) : mVq Y (uI (uI (uL S 25 t md e ((sL S 25 t).eraseIdx j)) 28 s 3 v) 28 s 4 (-1)) := by
  have hnd := (Q.1 t ht).1
  have hst : sI S 28 s 4 = nI t := ((Q.1 t ht).2 s (List.mem_of_getElem? hj)).2.2
  have hout : s ∉ (sL S 25 t).eraseIdx j := by
    intro hm
    obtain ⟨i, hi, hx⟩ := List.mem_eraseIdx_iff_getElem?.mp hm
    exact hi ((List.getElem?_inj (List.getElem?_eq_some_iff.mp hx).1 hnd).mp (hx.trans hj.symm))
  have eL : ∀ t', t' ≠ t → sL (uI (uI (uL S 25 t md e ((sL S 25 t).eraseIdx j)) 28 s 3 v) 28 s 4 (-1)) 25 t' = sL S 25 t' := fun t' z => sL_uL (md := md) (e := e) (by omega)
  have eL0 : sL (uI (uI (uL S 25 t md e ((sL S 25 t).eraseIdx j)) 28 s 3 v) 28 s 4 (-1)) 25 t = (sL S 25 t).eraseIdx j := sL_uL_s (md := md) (e := e)
  have e3 : ∀ s', s' ≠ s → sI (uI (uI (uL S 25 t md e ((sL S 25 t).eraseIdx j)) 28 s 3 v) 28 s 4 (-1)) 28 s' 3 = sI S 28 s' 3 := fun s' z => ((sI_uI (by omega)).trans (sI_uI (by omega))).trans (sI_uL (by omega))
  have e30 : sI (uI (uI (uL S 25 t md e ((sL S 25 t).eraseIdx j)) 28 s 3 v) 28 s 4 (-1)) 28 s 3 = v := (sI_uI (by omega)).trans sI_uI_s
  have e4 : ∀ s', s' ≠ s → sI (uI (uI (uL S 25 t md e ((sL S 25 t).eraseIdx j)) 28 s 3 v) 28 s 4 (-1)) 28 s' 4 = sI S 28 s' 4 := fun s' z => ((sI_uI (by omega)).trans (sI_uI (by omega))).trans (sI_uL (by omega))
  refine ⟨fun t' ht' => ?_, fun s' hs' h3 => ?_⟩
  · by_cases z : t' = t
    · subst z
      rw [eL0]
      refine ⟨hnd.sublist (List.eraseIdx_sublist ..), fun s' hs' => ?_⟩
      have hne : s' ≠ s := fun w => hout (by rw [← w]; exact hs')
      rw [e3 s' hne, e4 s' hne]
      exact (Q.1 t' ht').2 s' (List.mem_of_mem_eraseIdx hs')
    · rw [eL t' z]
      refine ⟨(Q.1 t' ht').1, fun s' hs' => ?_⟩
      have q := (Q.1 t' ht').2 s' hs'
      have hne : s' ≠ s := fun w => by
        rw [w, hst] at q
        exact z ((nI_eq (by omega) (by omega)).mp q.2.2).symm
      rw [e3 s' hne, e4 s' hne]
      exact q
  · have hne : s' ≠ s := fun w => by
      rw [w, e30] at h3
      exact hv h3
    rw [e3 s' hne] at h3
    obtain ⟨t', q1, q2, q3⟩ := Q.2 s' hs' h3
    refine ⟨t', q1, by rw [e4 s' hne]; exact q2, ?_⟩
    by_cases z : t' = t
    · subst z
      rw [eL0]
      obtain ⟨i, hi⟩ := List.mem_iff_getElem?.mp q3
      refine List.mem_eraseIdx_iff_getElem?.mpr ⟨i, fun w => ?_, hi⟩
      rw [w, hj] at hi
      exact hne (Option.some.inj hi).symm
    · rw [eL t' z]
      exact q3
theorem mVq.nin {Y : mY} {S : mS} (Q : mVq Y S) {s : Nat} (h0 : sI S 28 s 3 = 0) : ∀ t, t < yn Y 23 → s ∉ sL S 25 t := fun t ht hm => by
  have := ((Q.1 t ht).2 s hm).2.1
  rw [h0] at this
  exact absurd this (by decide)
theorem mVq.jn {Y : mY} {S : mS} (Q : mVq Y S) {t s p : Nat} {md : Int32} {e : Nat} {d : Int32} (ht : t < yn Y 23) (hs : s < yn Y 28) (h0 : sI S 28 s 3 = 0) : mVq Y (uI (uI (uI (uL S 25 t md e ((sL S 25 t).take p ++ s :: (sL S 25 t).drop p)) 28 s 3 1) 28 s 4 (nI t)) 28 s 5 d) := by
  have hnl := Q.nin h0
  have eL : ∀ t', t' ≠ t → sL (uI (uI (uI (uL S 25 t md e ((sL S 25 t).take p ++ s :: (sL S 25 t).drop p)) 28 s 3 1) 28 s 4 (nI t)) 28 s 5 d) 25 t' = sL S 25 t' := fun t' z => sL_uL (md := md) (e := e) (by omega)
  have eL0 : sL (uI (uI (uI (uL S 25 t md e ((sL S 25 t).take p ++ s :: (sL S 25 t).drop p)) 28 s 3 1) 28 s 4 (nI t)) 28 s 5 d) 25 t = (sL S 25 t).take p ++ s :: (sL S 25 t).drop p := sL_uL_s (md := md) (e := e)
  have e3 : ∀ s', s' ≠ s → sI (uI (uI (uI (uL S 25 t md e ((sL S 25 t).take p ++ s :: (sL S 25 t).drop p)) 28 s 3 1) 28 s 4 (nI t)) 28 s 5 d) 28 s' 3 = sI S 28 s' 3 := fun s' z => (((sI_uI (by omega)).trans (sI_uI (by omega))).trans (sI_uI (by omega))).trans (sI_uL (by omega))
  have e30 : sI (uI (uI (uI (uL S 25 t md e ((sL S 25 t).take p ++ s :: (sL S 25 t).drop p)) 28 s 3 1) 28 s 4 (nI t)) 28 s 5 d) 28 s 3 = 1 := ((sI_uI (by omega)).trans (sI_uI (by omega))).trans sI_uI_s
  have e4 : ∀ s', s' ≠ s → sI (uI (uI (uI (uL S 25 t md e ((sL S 25 t).take p ++ s :: (sL S 25 t).drop p)) 28 s 3 1) 28 s 4 (nI t)) 28 s 5 d) 28 s' 4 = sI S 28 s' 4 := fun s' z => (((sI_uI (by omega)).trans (sI_uI (by omega))).trans (sI_uI (by omega))).trans (sI_uL (by omega))
  have e40 : sI (uI (uI (uI (uL S 25 t md e ((sL S 25 t).take p ++ s :: (sL S 25 t).drop p)) 28 s 3 1) 28 s 4 (nI t)) 28 s 5 d) 28 s 4 = nI t := (sI_uI (by omega)).trans sI_uI_s
  have hperm : ((sL S 25 t).take p ++ s :: (sL S 25 t).drop p).Perm (s :: sL S 25 t) := List.perm_middle.trans (by rw [List.take_append_drop])
  refine ⟨fun t' ht' => ?_, fun s' hs' h3 => ?_⟩
  · by_cases z : t' = t
    · subst z
      rw [eL0]
      refine ⟨hperm.nodup_iff.mpr (List.nodup_cons.mpr ⟨hnl t' ht', (Q.1 t' ht').1⟩), fun s' hs' => ?_⟩
      by_cases w : s' = s
      · rw [w]
        exact ⟨hs, e30, e40⟩
      · rcases List.mem_cons.mp (hperm.mem_iff.mp hs') with q | q
        · exact absurd q w
        · rw [e3 s' w, e4 s' w]
          exact (Q.1 t' ht').2 s' q
    · rw [eL t' z]
      refine ⟨(Q.1 t' ht').1, fun s' hs' => ?_⟩
      have hne : s' ≠ s := fun w => hnl t' ht' (by rw [← w]; exact hs')
      rw [e3 s' hne, e4 s' hne]
      exact (Q.1 t' ht').2 s' hs'
  · by_cases w : s' = s
    · subst w
      exact ⟨t, ht, e40, by rw [eL0]; exact hperm.mem_iff.mpr List.mem_cons_self⟩
    · rw [e3 s' w] at h3
      obtain ⟨t', q1, q2, q3⟩ := Q.2 s' hs' h3
      refine ⟨t', q1, by rw [e4 s' w]; exact q2, ?_⟩
      by_cases z : t' = t
      · subst z
        rw [eL0]
        exact hperm.mem_iff.mpr (List.mem_cons_of_mem _ q3)
      · rw [eL t' z]
        exact q3
theorem vT_uL {S : mS} (h : mVt S) {k i : Nat} {md : Int32} {e : Nat} {xs : List Nat} (hk : k ≠ 20) : mVt (uL S k i md e xs) := by
  obtain ⟨a, b, h1, h2, h3, h4⟩ := h
  exact ⟨a, b, h1, h2, (sI_uL (by omega)).trans h3, (sI_uL (by omega)).trans h4⟩
theorem vV_uL {Y : mY} {S : mS} (h : mVv Y S) {k i : Nat} {md : Int32} {e : Nat} {xs : List Nat} (hk : k = 24 ∨ k = 25) : mVv Y (uL S k i md e xs) := h.of (fun k' i' f' hk' => sI_uL (by omega))
section VQUE
variable {g : Nat → Nat} {Y : mY} {S : mS} {M : mM}
theorem vP_caught {Y0 : mY} {S0 : mS} (P : vP g Y0 S0 Y S M) {p s : Nat} {v : Int32} {M' : mM} (H' : mR g Y (uI (uI S 29 p 3 v) 29 p 5 (nI s)) M') (hs : s < yn Y 28) : vP g Y0 S0 Y (uI (uI S 29 p 3 v) 29 p 5 (nI s)) M' := by
  obtain ⟨⟨H, V, VV, VQ, VT⟩, F, R⟩ := P
  exact ⟨⟨H', vS_uI (vS_uI V (by omega)) (by omega), vV_caught VV hs, vQ_uI (vQ_uI VQ (by omega)) (by omega), vT_uI (vT_uI VT (by omega)) (by omega)⟩, (F.tr (mFm.uI (by omega))).tr (mFm.uI (by omega)), vQ.c R (fun k' i' f' q => ((sI_uI (by have := qV_d q; omega)).trans (sI_uI (by have := qV_d q; omega))))⟩
end VQUE
