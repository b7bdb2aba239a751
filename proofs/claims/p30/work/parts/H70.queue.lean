/-! THE PURE SIDE, 21: the queues' texts -/
def sbP (N k9 n9 : Nat) : Prop := (N = 16 ∧ k9 ≤ 2 ∧ n9 ≤ 20) ∨ (N = 34 ∧ k9 ≤ 3 ∧ n9 ≤ 54) ∨ (N = 70 ∧ k9 ≤ 4 ∧ n9 ≤ 124)
theorem sbP.st {N k9 n9 need : Nat} (h : sbP N k9 n9) (h1 : need ≤ N + 2) (h2 : need ≤ 70) : sbP (eN N need) (k9 + eK N need) (n9 + eB N need) := by
  unfold sbP at h ⊢
  unfold eN eK eB
  split
  · omega
  · omega
theorem sbP.bd {N k9 n9 : Nat} (h : sbP N k9 n9) : k9 ≤ 4 ∧ n9 ≤ 124 ∧ N ≤ 70 ∧ 16 ≤ N := by
  unfold sbP at h
  omega
theorem mKs.E {g : Nat → Nat} {Y Y' : mY} {S S' : mS} (K : mKs g Y S) (a : ∀ k, 35 ≤ k → k ≤ 37 → yn Y' k = yn Y k ∧ ∀ i, mEq S' S k i) (b : ∀ k i, i < yn Y k → yA Y' k i = yA Y k i) : mKs g Y' S' := by
  obtain ⟨⟨y5, y6, y7⟩, ⟨p1, p2, p3, p4⟩, h⟩ := K
  refine ⟨⟨(a 35 (by omega) (by omega)).1.trans y5, (a 36 (by omega) (by omega)).1.trans y6, (a 37 (by omega) (by omega)).1.trans y7⟩, ⟨(b 35 0 (by omega)).trans p1, (b 35 1 (by omega)).trans p2, (((a 35 (by omega) (by omega)).2 0).2.2.2.2.2.2.1).trans p3, (((a 35 (by omega) (by omega)).2 1).2.2.2.2.2.2.1).trans p4⟩, fun i hi => ?_⟩
  obtain ⟨q1, q2, q3, q4⟩ := h i hi
  refine ⟨(b 36 i (by omega)).trans q1, (congrFun ((a 36 (by omega) (by omega)).2 i).1 1).trans q2, ?_, ?_⟩
  · rw [((a 37 (by omega) (by omega)).2 i).2.2.2.2.2.2.2.1]
    exact q3
  · rw [((a 37 (by omega) (by omega)).2 i).2.2.2.2.2.2.1]
    exact q4
theorem mKs.Fm {g : Nat → Nat} {Y Y' : mY} {S S' : mS} (K : mKs g Y S) (F : mFm Y S Y' S') : mKs g Y' S' := K.E (fun k h1 h2 => F.2.2 k (Or.inr (Or.inr ⟨h1, h2⟩))) F.1
theorem mKs.Fc {g : Nat → Nat} {Y Y' : mY} {S S' : mS} (K : mKs g Y S) (F : mFc Y S Y' S') : mKs g Y' S' := K.E (fun k h1 h2 => F.2.2 k (by omega)) F.1
section QUE
variable {g : Nat → Nat} {Y : mY} {S : mS} {M : mM}
end QUE
