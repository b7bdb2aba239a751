/-! THE SIMULATION, 14: what comes new, of the reference -/
theorem RV.nw {N N' : mN} {g : Nat → Nat} {Y : mY} {S : mS} {Y1 : mY} {S1 : mS} (h : RV N Y S) (V : mVs Y S) (m : ∀ k i, k ≠ 24 → i < yn Y k → mEq S1 S k i) (n0 : ∀ k, k = 20 ∨ k = 22 → yn Y1 k = yn Y k) (c : yn Y1 23 = nn N' 23 ∧ yn Y1 28 = nn N' 28 ∧ yn Y1 29 = nn N' 29) (hh : sL S1 24 3 = sL S 24 3) (hn : nh N' = nh N)
    (e : ∀ k i f, i < yn Y k → rK k f = true → nv N' k i f = nv N k i f) (eq : ∀ t, t < yn Y 23 → nq N' t = nq N t) (er : ∀ t v, t < yn Y 23 → nr N' t v = nr N t v)
    (gI : ∀ k i f, ¬ i < yn Y k → i < yn Y1 k → (k = 23 ∨ k = 28 ∨ k = 29) → rK k f = true → sI S1 k i f = nv N' k i f)
    (g3 : ∀ t, ¬ t < yn Y 23 → t < yn Y1 23 → sL S1 25 t = nq N' t ∧ ∀ v, v < 97 → sE S1 26 t v = if nr N' t v = true then 1 else 0) : RV N' Y1 S1 := by
  obtain ⟨h1, h2, h3, h4, h5⟩ := h
  refine ⟨c, fun k i f hk hi => ?_, fun t ht => ?_, fun t v ht hv => ?_, by rw [hh, hn]; exact h5⟩
  · have hd := rK_d hk
    by_cases z : i < yn Y k
    · rw [e k i f z hk]
      exact (congrFun (m k i (by omega) z).1 f).trans (h2 k i f hk z)
    · rcases hd with hd | hd | hd | hd | hd
      · rw [hd.1, n0 20 (by omega)] at hi; rw [hd.1] at z; exact absurd hi z
      · rw [hd.1, n0 22 (by omega)] at hi; rw [hd.1] at z; exact absurd hi z
      · exact gI k i f z hi (by omega) hk
      · exact gI k i f z hi (by omega) hk
      · exact gI k i f z hi (by omega) hk
  · by_cases z : t < yn Y 23
    · rw [eq t z, (m 25 t (by omega) (V.l25 z)).2.2.2.2.1]
      exact h3 t z
    · exact (g3 t z ht).1
  · by_cases z : t < yn Y 23
    · rw [er t v z, congrFun (m 26 t (by omega) (V.l26 z)).2.2.2.2.2.2.2.1 v]
      exact h4 t v z hv
    · exact (g3 t z ht).2 v hv
section SIM14
variable {g : Nat → Nat} {Y : mY} {S : mS} {M : mM} {N : mN} {Y0 : mY} {S0 : mS}
theorem mR.allocZ' (H : mR g Y S M) {q n : Nat} (hF : mFr Y S q) (h1 : M q = some (.inl (1, n, .inl (fun _ => 0)))) : ∃ Y1 S1, mR g Y1 S1 M ∧ mAl Y S 26 q (fun _ => 0) (fun _ => 0) (fun _ => none) (fun _ => 0) [] 0 Y1 S1 ∧ sC S1 26 (yn Y 26) = n ∧ ∀ v, sE S1 26 (yn Y 26) v = 0 := by
  have eC : sC (uO S 26 (yn Y 26) (fun _ => 0) (fun _ => 0) (fun _ => none) (fun _ => 0) [] 0 n (fun _ => 0) (fun _ => none)) 26 (yn Y 26) = n := if_pos ⟨rfl, rfl⟩
  have eE : sE (uO S 26 (yn Y 26) (fun _ => 0) (fun _ => 0) (fun _ => none) (fun _ => 0) [] 0 n (fun _ => 0) (fun _ => none)) 26 (yn Y 26) = (fun _ => 0) := if_pos ⟨rfl, rfl⟩
  have H2 := H.alloc (k := 26) hF (uO S 26 (yn Y 26) (fun _ => 0) (fun _ => 0) (fun _ => none) (fun _ => 0) [] 0 n (fun _ => 0) (fun _ => none)) (fun k' i' hi => mEq.uO (fun z => by obtain ⟨rfl, rfl⟩ := z; exact Nat.lt_irrefl _ hi)) (by
    rw [h1]
    show _ = some (Sum.inl (1, sC _ 26 (yn Y 26), Sum.inl (sE _ 26 (yn Y 26))))
    rw [eC, eE]) (fun z => absurd z (by decide)) (fun f t ht => by cases ht) (by decide) (by decide)
  exact ⟨_, _, H2, ⟨fun k' i' hi => aY_A hi, aY_n, fun k' z => aY_nn z, aY_q, fun k' i' z => mEq.uO z, if_pos ⟨rfl, rfl⟩, if_pos ⟨rfl, rfl⟩, if_pos ⟨rfl, rfl⟩, if_pos ⟨rfl, rfl⟩, if_pos ⟨rfl, rfl⟩, if_pos ⟨rfl, rfl⟩⟩, eC, fun v => congrFun eE v⟩
end SIM14
