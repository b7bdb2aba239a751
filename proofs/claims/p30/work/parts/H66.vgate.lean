/-! THE PURE SIDE, 17: the reference's gates -/
section VGATE
variable {g : Nat → Nat} {Y : mY} {S : mS} {M : mM}
theorem mR.allocZ (H : mR g Y S M) {q n : Nat} (hF : mFr Y S q) (h1 : M q = some (.inl (1, n, .inl (fun _ => 0)))) : ∃ Y1 S1, mR g Y1 S1 M ∧ mAl Y S 26 q (fun _ => 0) (fun _ => 0) (fun _ => none) (fun _ => 0) [] 0 Y1 S1 ∧ sC S1 26 (yn Y 26) = n := by
  have eC : sC (uO S 26 (yn Y 26) (fun _ => 0) (fun _ => 0) (fun _ => none) (fun _ => 0) [] 0 n (fun _ => 0) (fun _ => none)) 26 (yn Y 26) = n := if_pos ⟨rfl, rfl⟩
  have eE : sE (uO S 26 (yn Y 26) (fun _ => 0) (fun _ => 0) (fun _ => none) (fun _ => 0) [] 0 n (fun _ => 0) (fun _ => none)) 26 (yn Y 26) = (fun _ => 0) := if_pos ⟨rfl, rfl⟩
  have H2 := H.alloc (k := 26) hF (uO S 26 (yn Y 26) (fun _ => 0) (fun _ => 0) (fun _ => none) (fun _ => 0) [] 0 n (fun _ => 0) (fun _ => none)) (fun k' i' hi => mEq.uO (fun z => by obtain ⟨rfl, rfl⟩ := z; exact Nat.lt_irrefl _ hi)) (by
    rw [h1]
    show _ = some (Sum.inl (1, sC _ 26 (yn Y 26), Sum.inl (sE _ 26 (yn Y 26))))
    rw [eC, eE]) (fun z => absurd z (by decide)) (fun f t ht => by cases ht) (by decide) (by decide)
  exact ⟨_, _, H2, ⟨fun k' i' hi => aY_A hi, aY_n, fun k' z => aY_nn z, aY_q, fun k' i' z => mEq.uO z, if_pos ⟨rfl, rfl⟩, if_pos ⟨rfl, rfl⟩, if_pos ⟨rfl, rfl⟩, if_pos ⟨rfl, rfl⟩, if_pos ⟨rfl, rfl⟩, if_pos ⟨rfl, rfl⟩⟩, eC⟩
theorem mR.off3 (H : mR g Y S M) {q q1 q7 : Nat} (hF : mFr Y S q) (hF1 : mFr Y S q1) (hF7 : mFr Y S q7) {M' : mM} (ho : ∀ q', q' ≠ q → q' ≠ q1 → q' ≠ q7 → M' q' = M q') : mR g Y S M' := H.off4 hF hF1 hF7 hF7 (fun q' z1 z2 z3 _ => ho q' z1 z2 z3)
end VGATE
