/-! THE SIMULATION, 3: more writes of the class; the reference's writes -/
theorem nU_s {N : mN} {k i f : Nat} {v w : Int32} : nU (nU N k i f v) k i f w = nU N k i f w := by
  refine Prod.ext rfl (Prod.ext ?_ rfl)
  funext a b c
  show (if a = k ∧ b = i ∧ c = f then w else if a = k ∧ b = i ∧ c = f then v else nv N a b c) = (if a = k ∧ b = i ∧ c = f then w else nv N a b c)
  by_cases z : a = k ∧ b = i ∧ c = f
  · rw [if_pos z, if_pos z]
  · rw [if_neg z, if_neg z, if_neg z]
theorem nU_same {N : mN} {k i f : Nat} : nU N k i f (nv N k i f) = N := by
  refine Prod.ext rfl (Prod.ext ?_ rfl)
  funext a b c
  show (if a = k ∧ b = i ∧ c = f then nv N k i f else nv N a b c) = nv N a b c
  by_cases z : a = k ∧ b = i ∧ c = f
  · rw [if_pos z, z.1, z.2.1, z.2.2]
  · rw [if_neg z]
section RC2
variable {x : Nat} {N : mN} {Y : mY} {S : mS}
/-- an int of the reference's that the class has in another form is written: the rest stays -/
theorem RC.nx (h : RC x N Y S) {k i f : Nat} {v : Int32} {S' : mS}
    (hk : (k = 28 ∧ (f = 0 ∨ f = 8)) ∨ (k = 29 ∧ (f = 4 ∨ f = 5)))
    (a : ∀ k i f, (k ≤ 7 ∨ k = 16) → sI S' k i f = sI S k i f) (d : ∀ t, sL S' 13 t = sL S 13 t) (e : ∀ k t f, k = 10 ∨ k = 11 → sJ S' k t f = sJ S k t f)
    (b : ∀ k' i' f', (k' = 3 ∨ k' = 4 ∨ k' = 6 ∨ k' = 16) → ¬ (k = 28 ∧ f = 0 ∧ k' = 4 ∧ i' = i ∧ f' = 2) → sN S' k' i' f' = sN S k' i' f')
    (c : ∀ k' i' f', (k' = 4 ∨ k' = 5) → ¬ (k = 28 ∧ f = 8 ∧ k' = 4 ∧ i' = i ∧ f' = 7) → ¬ (k = 29 ∧ k' = 5 ∧ i' = i) → sX S' k' i' f' = sX S k' i' f')
    (q0 : k = 28 → f = 0 → v = nI (sN S' 4 i 2)) (q8 : k = 28 → f = 8 → sX S' 4 i 7 = none ∧ v = -1)
    (qp : k = 29 → nv (nU N k i f v) 29 i 4 = oAt (sX S' 5 i 6) (sX S' 5 i 5) ∧ nv (nU N k i f v) 29 i 5 = oTo (sX S' 5 i 7) ∧ (sX S' 5 i 6 ≠ none → sX S' 5 i 5 = none)) : RC x (nU N k i f v) Y S' := by
  obtain ⟨h1, h2, h3, h4, h5, h6, h7, h8, h9, h10⟩ := h
  refine ⟨h1, fun k1 i1 f1 k1' f1' hm1 hi hx1 => ?_, fun t ht => ?_, fun s hs => ?_, fun s hs hn => ?_, fun s hs => ?_, fun s hs => ?_, fun p hp => ?_, fun t v ht hv => ?_, h10.1, fun i1 hi => ?_⟩
  · have hd := cM_d hm1
    rw [a k1 i1 f1 (by omega), nv_U (by omega)]
    exact h2 k1 i1 f1 k1' f1' hm1 hi hx1
  · rw [b 3 t 1 (by omega) (by omega), b 3 t 2 (by omega) (by omega), d, nv_U (by omega), nv_U (by omega)]
    exact h3 t ht
  · by_cases z : k = 28 ∧ f = 0 ∧ s = i
    · obtain ⟨rfl, rfl, rfl⟩ := z
      rw [nv_U_s]
      exact q0 rfl rfl
    · rw [nv_U (by omega), b 4 s 2 (by omega) (by omega)]
      exact h4 s hs
  · rw [nv_U (by omega), c 4 s 5 (by omega) (by omega) (by omega)]
    exact h5 s hs hn
  · rw [c 4 s 5 (by omega) (by omega) (by omega), a 4 s 6 (by omega), nv_U (by omega)]
    exact h6 s hs
  · by_cases z : k = 28 ∧ f = 8 ∧ s = i
    · obtain ⟨rfl, rfl, rfl⟩ := z
      obtain ⟨e1, e2⟩ := q8 rfl rfl
      rw [e1, nv_U_s]
      exact ⟨fun _ => e2, fun p hp => by cases hp⟩
    · rw [c 4 s 7 (by omega) (by omega) (by omega), nv_U (by omega), nv_U (by omega), nv_U (by omega)]
      refine ⟨(h7 s hs).1, fun p hp => ?_⟩
      rw [b 16 p 0 (by omega) (by omega), a 16 p 1 (by omega), a 16 p 2 (by omega)]
      exact (h7 s hs).2 p hp
  · by_cases z : k = 29 ∧ p = i
    · obtain ⟨rfl, rfl⟩ := z
      exact qp rfl
    · rw [c 5 p 5 (by omega) (by omega) (by omega), c 5 p 6 (by omega) (by omega) (by omega), c 5 p 7 (by omega) (by omega) (by omega), nv_U (by omega), nv_U (by omega)]
      exact h8 p hp
  · rw [e 10 t 0 (by omega), e 10 t 1 (by omega), e 11 t 0 (by omega), e 11 t 1 (by omega)]
    exact h9 t v ht hv
  · rw [b 6 i1 0 (by omega) (by omega), a 6 i1 1 (by omega), a 6 i1 2 (by omega)]
    exact h10.2 i1 hi
theorem RC.land (h : RC x N Y S) {s l : Nat} : RC x (nU N 28 s 0 (nI l)) Y (uN S 4 s 2 l) :=
  h.nx (Or.inl ⟨rfl, Or.inl rfl⟩) (fun _ _ _ _ => rfl) (fun _ => rfl) (fun _ _ _ _ => rfl) (fun k i f _ z => sN_uN (by omega)) (fun _ _ _ _ _ _ => rfl) (fun _ _ => by rw [sN_uN_s]) (fun _ z => absurd z (by decide)) (fun z => absurd z (by decide))
theorem RC.noPass (h : RC x N Y S) {s : Nat} : RC x (nU N 28 s 8 (-1)) Y (uX S 4 s 7 none) :=
  h.nx (Or.inl ⟨rfl, Or.inr rfl⟩) (fun _ _ _ _ => rfl) (fun _ => rfl) (fun _ _ _ _ => rfl) (fun _ _ _ _ _ => rfl) (fun k i f _ z _ => sX_uX (by omega)) (fun _ z => absurd z (by decide)) (fun _ _ => ⟨sX_uX_s, rfl⟩) (fun z => absurd z (by decide))
theorem RC.hd (h : RC x N Y S) {p : Nat} {o : Option Nat} (hp : p < yn Y 5) (ho : sX S 5 p 6 ≠ none → o = none) : RC x (nU N 29 p 4 (oAt (sX S 5 p 6) o)) Y (uX S 5 p 5 o) := by
  have h8 := h.2.2.2.2.2.2.2.1 p hp
  refine h.nx (Or.inr ⟨rfl, Or.inl rfl⟩) (fun _ _ _ _ => rfl) (fun _ => rfl) (fun _ _ _ _ => rfl) (fun _ _ _ _ _ => rfl) (fun k i f _ _ z => sX_uX (by omega)) (fun z => absurd z (by decide)) (fun z => absurd z (by decide)) (fun _ => ?_)
  have e6 : sX (uX S 5 p 5 o) 5 p 6 = sX S 5 p 6 := sX_uX (by omega)
  have e7 : sX (uX S 5 p 5 o) 5 p 7 = sX S 5 p 7 := sX_uX (by omega)
  rw [e6, e7, sX_uX_s, nv_U_s, nv_U (by omega)]
  exact ⟨rfl, h8.2.1, ho⟩
theorem RC.st (h : RC x N Y S) {p : Nat} {o : Option Nat} (hp : p < yn Y 5) (ho : o ≠ none → sX S 5 p 5 = none) : RC x (nU N 29 p 4 (oAt o (sX S 5 p 5))) Y (uX S 5 p 6 o) := by
  have h8 := h.2.2.2.2.2.2.2.1 p hp
  refine h.nx (Or.inr ⟨rfl, Or.inl rfl⟩) (fun _ _ _ _ => rfl) (fun _ => rfl) (fun _ _ _ _ => rfl) (fun _ _ _ _ _ => rfl) (fun k i f _ _ z => sX_uX (by omega)) (fun z => absurd z (by decide)) (fun z => absurd z (by decide)) (fun _ => ?_)
  have e5 : sX (uX S 5 p 6 o) 5 p 5 = sX S 5 p 5 := sX_uX (by omega)
  have e7 : sX (uX S 5 p 6 o) 5 p 7 = sX S 5 p 7 := sX_uX (by omega)
  rw [e5, e7, sX_uX_s, nv_U_s, nv_U (by omega)]
  exact ⟨rfl, h8.2.1, ho⟩
theorem RC.br (h : RC x N Y S) {p : Nat} {o : Option Nat} (hp : p < yn Y 5) : RC x (nU N 29 p 5 (oTo o)) Y (uX S 5 p 7 o) := by
  have h8 := h.2.2.2.2.2.2.2.1 p hp
  refine h.nx (Or.inr ⟨rfl, Or.inr rfl⟩) (fun _ _ _ _ => rfl) (fun _ => rfl) (fun _ _ _ _ => rfl) (fun _ _ _ _ _ => rfl) (fun k i f _ _ z => sX_uX (by omega)) (fun z => absurd z (by decide)) (fun z => absurd z (by decide)) (fun _ => ?_)
  have e5 : sX (uX S 5 p 7 o) 5 p 5 = sX S 5 p 5 := sX_uX (by omega)
  have e6 : sX (uX S 5 p 7 o) 5 p 6 = sX S 5 p 6 := sX_uX (by omega)
  rw [e5, e6, sX_uX_s, nv_U_s, nv_U (by omega)]
  exact ⟨h8.1, rfl, h8.2.2⟩
end RC2
section RV1
variable {N : mN} {Y : mY} {S : mS}
theorem RV.pI (h : RV N Y S) {k i f : Nat} {v : Int32} : RV (nU N k i f v) Y (uI S k i f v) := by
  obtain ⟨h1, h2, h3, h4, h5⟩ := h
  refine ⟨h1, fun k1 i1 f1 hk hi => ?_, h3, h4, h5⟩
  by_cases z : k1 = k ∧ i1 = i ∧ f1 = f
  · obtain ⟨rfl, rfl, rfl⟩ := z
    rw [sI_uI_s, nv_U_s]
  · rw [sI_uI z, nv_U z]
    exact h2 k1 i1 f1 hk hi
/-- an int that the reference doesn't have -/
theorem RV.n9 (h : RV N Y S) {i : Nat} {v : Int32} : RV (nU N 28 i 9 v) Y S := by
  obtain ⟨h1, h2, h3, h4, h5⟩ := h
  exact ⟨h1, fun k1 i1 f1 hk hi => (h2 k1 i1 f1 hk hi).trans (nv_U (by have := rK_d hk; omega)).symm, h3, h4, h5⟩
/-- what the reference holds is told by these tables alone -/
theorem RV.cg {S' : mS} (h : RV N Y S) (a : ∀ k i f, rK k f = true → sI S' k i f = sI S k i f) (b : ∀ t, sL S' 25 t = sL S 25 t) (c : sL S' 24 3 = sL S 24 3) (d : ∀ t v, sE S' 26 t v = sE S 26 t v) : RV N Y S' := by
  obtain ⟨h1, h2, h3, h4, h5⟩ := h
  exact ⟨h1, fun k1 i1 f1 hk hi => (a k1 i1 f1 hk).trans (h2 k1 i1 f1 hk hi), fun t ht => (b t).trans (h3 t ht), fun t v ht hv => (d t v).trans (h4 t v ht hv), c.trans h5⟩
theorem RV.thr (h : RV N Y S) {v : Int32} : RV N Y (uI S 20 0 0 v) := h.cg (fun k i f q => sI_uI (by have := rK_d q; omega)) (fun _ => rfl) rfl (fun _ _ => rfl)
theorem RV.line (h : RV N Y S) {t : Nat} {md : Int32} {e : Nat} {xs : List Nat} : RV (nQ N t xs) Y (uL S 25 t md e xs) := by
  obtain ⟨h1, h2, h3, h4, h5⟩ := h
  refine ⟨h1, fun k1 i1 f1 hk hi => (sI_uL (by have := rK_d hk; omega)).trans (h2 k1 i1 f1 hk hi), fun t1 ht => ?_, h4, (sL_uL (by omega)).trans h5⟩
  by_cases z : t1 = t
  · rw [z, sL_uL_s, nq_Q_s]
  · rw [sL_uL (by omega), nq_Q z]
    exact h3 t1 ht
theorem RV.hid (h : RV N Y S) {md : Int32} {e : Nat} {xs : List Nat} : RV (nH N xs) Y (uL S 24 3 md e xs) := by
  obtain ⟨h1, h2, h3, h4, h5⟩ := h
  exact ⟨h1, fun k1 i1 f1 hk hi => (sI_uL (by have := rK_d hk; omega)).trans (h2 k1 i1 f1 hk hi), fun t1 ht => (sL_uL (by omega)).trans (h3 t1 ht), h4, sL_uL_s⟩
theorem RV.rev (h : RV N Y S) {t v : Nat} : RV (nW N (fun t' v' => if t' = t ∧ v' = v then true else nr N t' v')) Y (uE S 26 t v 1) := by
  obtain ⟨h1, h2, h3, h4, h5⟩ := h
  refine ⟨h1, h2, h3, fun t1 v1 ht hv => ?_, h5⟩
  show (if (26 : Nat) = 26 ∧ t1 = t ∧ v1 = v then (1 : Int32) else sE S 26 t1 v1) = if (if t1 = t ∧ v1 = v then true else nr N t1 v1) = true then 1 else 0
  by_cases z : t1 = t ∧ v1 = v
  · rw [if_pos ⟨rfl, z⟩, if_pos z, if_pos rfl]
  · rw [if_neg (fun w => z w.2), if_neg z]
    exact h4 t1 v1 ht hv
end RV1
