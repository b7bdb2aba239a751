/-! THE SIMULATION, 2: what a write of the class does to what it holds -/
theorem sJ_uJ {S : mS} {k i f k' i' f' : Nat} {v : Int64} (h : ¬ (k' = k ∧ i' = i ∧ f' = f)) : sJ (uJ S k i f v) k' i' f' = sJ S k' i' f' := if_neg h
theorem sJ_uJ_s {S : mS} {k i f : Nat} {v : Int64} : sJ (uJ S k i f v) k i f = v := if_pos ⟨rfl, rfl, rfl⟩
section RC1
variable {x : Nat} {N : mN} {Y : mY} {S : mS}
theorem RC.pI (h : RC x N Y S) {k i f k' f' : Nat} {v : Int32} (hm : cM k f = some (k', f')) : RC x (nU N k' i f' v) Y (uI S k i f v) := by
  obtain ⟨h1, h2, h3, h4, h5, h6, h7, h8, h9, h10⟩ := h
  have hd := cM_d hm
  refine ⟨h1, fun k1 i1 f1 k1' f1' hm1 hi hx => ?_, fun t ht => ?_, fun s hs => ?_, fun s hs hx => ?_, fun s hs => ?_, fun s hs => ?_, fun p hp => ?_, h9, h10.1, fun i1 hi => ?_⟩
  · by_cases z : k1 = k ∧ i1 = i ∧ f1 = f
    · obtain ⟨rfl, rfl, rfl⟩ := z
      have e := Option.some.inj (hm.symm.trans hm1)
      cases e
      rw [sI_uI_s, nv_U_s]
    · rw [sI_uI z, nv_U (fun w => ?_)]
      · exact h2 k1 i1 f1 k1' f1' hm1 hi hx
      · have e := (cM_I hm1).symm.trans ((by rw [w.1, w.2.2] : cI k1' f1' = cI k' f').trans (cM_I hm))
        cases e
        exact z ⟨rfl, w.2.1, rfl⟩
  · rw [nv_U (by omega), nv_U (by omega)]
    exact h3 t ht
  · rw [nv_U (by omega)]
    exact h4 s hs
  · rw [nv_U (by omega)]
    exact h5 s hs hx
  · rw [nv_U (by omega), sI_uI (by omega)]
    exact h6 s hs
  · rw [nv_U (by omega), nv_U (by omega), nv_U (by omega)]
    obtain ⟨a, b⟩ := h7 s hs
    refine ⟨a, fun p hp => ?_⟩
    rw [sI_uI (by omega), sI_uI (by omega)]
    exact b p hp
  · rw [nv_U (by omega), nv_U (by omega)]
    exact h8 p hp
  · rw [sI_uI (by omega), sI_uI (by omega)]
    exact h10.2 i1 hi
/-- what the class holds is told by these tables alone -/
theorem RC.cg {S' : mS} (h : RC x N Y S) (a : ∀ k i f, (k ≤ 7 ∨ k = 16) → sI S' k i f = sI S k i f) (b : ∀ k i f, (k = 3 ∨ k = 4 ∨ k = 6 ∨ k = 16) → sN S' k i f = sN S k i f) (c : ∀ k i f, (k = 4 ∨ k = 5) → sX S' k i f = sX S k i f) (d : ∀ t, sL S' 13 t = sL S 13 t) (e : ∀ k t f, k = 10 ∨ (k = 11 ∧ x ≠ 98) → sJ S' k t f = sJ S k t f) : RC x N Y S' := by
  obtain ⟨h1, h2, h3, h4, h5, h6, h7, h8, h9, h10⟩ := h
  refine ⟨h1, fun k1 i1 f1 k1' f1' hm1 hi hx => ?_, fun t ht => ?_, fun s hs => ?_, fun s hs hx => ?_, fun s hs => ?_, fun s hs => ?_, fun p hp => ?_, fun t v ht hv => ?_, h10.1, fun i1 hi => ?_⟩
  · have hd := cM_d hm1
    rw [a k1 i1 f1 (by omega)]
    exact h2 k1 i1 f1 k1' f1' hm1 hi hx
  · rw [b 3 t 1 (by omega), b 3 t 2 (by omega), d]
    exact h3 t ht
  · rw [b 4 s 2 (by omega)]
    exact h4 s hs
  · rw [c 4 s 5 (by omega)]
    exact h5 s hs hx
  · rw [c 4 s 5 (by omega), a 4 s 6 (by omega)]
    exact h6 s hs
  · rw [c 4 s 7 (by omega)]
    obtain ⟨q1, q2⟩ := h7 s hs
    refine ⟨q1, fun p hp => ?_⟩
    rw [b 16 p 0 (by omega), a 16 p 1 (by omega), a 16 p 2 (by omega)]
    exact q2 p hp
  · rw [c 5 p 5 (by omega), c 5 p 6 (by omega), c 5 p 7 (by omega)]
    exact h8 p hp
  · rw [e 10 t 0 (by omega), e 10 t 1 (by omega)]
    refine ⟨(h9 t v ht hv).1, fun q => ?_⟩
    rw [e 11 t 0 (by omega), e 11 t 1 (by omega)]
    exact (h9 t v ht hv).2 q
  · rw [b 6 i1 0 (by omega), a 6 i1 1 (by omega), a 6 i1 2 (by omega)]
    exact h10.2 i1 hi
theorem RC.E {S' : mS} (h : RC x N Y S) (e : eqE S' S) : RC x N Y S' := h.cg (fun _ _ _ _ => by rw [e.1]) (fun _ _ _ _ => by rw [e.2.2.2.1]) (fun _ _ _ _ => by rw [e.2.2.1]) (fun _ => by rw [e.2.2.2.2.1]) (fun _ _ _ _ => by rw [e.2.1])
theorem RC.j11 (h : RC 98 N Y S) {t f : Nat} {v : Int64} : RC 98 N Y (uJ S 11 t f v) := h.cg (fun _ _ _ _ => rfl) (fun _ _ _ _ => rfl) (fun _ _ _ _ => rfl) (fun _ => rfl) (fun k t' f' z => sJ_uJ (by omega))
/-- the line of a gate -/
theorem RC.line (h : RC x N Y S) {t : Nat} {md : Int32} {e : Nat} {xs : List Nat} : RC x (nQ N t xs) Y (uL S 13 t md e xs) := by
  obtain ⟨h1, h2, h3, h4, h5, h6, h7, h8, h9, h10⟩ := h
  refine ⟨h1, fun k1 i1 f1 k1' f1' hm1 hi hx => ?_, fun t1 ht => ⟨(h3 t1 ht).1, (h3 t1 ht).2.1, ?_⟩, h4, h5, fun s hs => ?_, fun s hs => ⟨(h7 s hs).1, fun p hp => ?_⟩, h8, h9, h10.1, fun i1 hi => ?_⟩
  · have hd := cM_d hm1
    exact (sI_uL (by omega)).trans (h2 k1 i1 f1 k1' f1' hm1 hi hx)
  · by_cases z : t1 = t
    · rw [z, sL_uL_s, nq_Q_s]
    · rw [sL_uL (by omega), nq_Q z]
      exact (h3 t1 ht).2.2
  · rw [sI_uL (by omega)]
    exact h6 s hs
  · rw [sI_uL (by omega), sI_uL (by omega)]
    exact (h7 s hs).2 p hp
  · rw [sI_uL (by omega), sI_uL (by omega)]
    exact h10.2 i1 hi
/-- one whose line was left steps out -/
theorem RC.out (h : RC x N Y S) (h98 : x ≠ 98) (hx : x < yn Y 4) {v : Int32} (e3 : nv N 28 x 3 = v) (e4 : nv N 28 x 4 = -1) {y : Nat} (hy : yn Y 4 ≤ y) : RC y N Y (uI (uX (uI S 4 x 4 v) 4 x 5 none) 4 x 6 0) := by
  obtain ⟨h1, h2, h3, h4, h5, h6, h7, h8, h9, h10⟩ := h
  have eX : ∀ s, s ≠ x → sX (uI (uX (uI S 4 x 4 v) 4 x 5 none) 4 x 6 0) 4 s 5 = sX S 4 s 5 := fun s hs => sX_uX (by omega)
  have eX0 : sX (uI (uX (uI S 4 x 4 v) 4 x 5 none) 4 x 6 0) 4 x 5 = none := sX_uX_s
  have eI : ∀ k i f, ¬ (k = 4 ∧ i = x ∧ (f = 4 ∨ f = 6)) → sI (uI (uX (uI S 4 x 4 v) 4 x 5 none) 4 x 6 0) k i f = sI S k i f := fun k i f q => (sI_uI (by omega)).trans (sI_uI (by omega))
  have eI4 : sI (uI (uX (uI S 4 x 4 v) 4 x 5 none) 4 x 6 0) 4 x 4 = v := (sI_uI (by omega)).trans sI_uI_s
  have eI6 : sI (uI (uX (uI S 4 x 4 v) 4 x 5 none) 4 x 6 0) 4 x 6 = 0 := sI_uI_s
  have eX7 : ∀ s, sX (uI (uX (uI S 4 x 4 v) 4 x 5 none) 4 x 6 0) 4 s 7 = sX S 4 s 7 := fun s => sX_uX (by omega)
  have eX5 : ∀ s f, sX (uI (uX (uI S 4 x 4 v) 4 x 5 none) 4 x 6 0) 5 s f = sX S 5 s f := fun s f => sX_uX (by omega)
  refine ⟨h1, fun k1 i1 f1 k1' f1' hm1 hi hx1 => ?_, h3, h4, fun s hs hn => ?_, fun s hs => ⟨fun q => ?_, fun q1 q2 => ?_⟩, fun s hs => ?_, fun p hp => ?_, fun t v ht hv => ⟨(h9 t v ht hv).1, fun _ => (h9 t v ht hv).2 h98⟩, h10.1, fun i1 hi => ?_⟩
  · have hd := cM_d hm1
    by_cases z : k1 = 4 ∧ i1 = x ∧ f1 = 4
    · obtain ⟨rfl, rfl, rfl⟩ := z
      cases hm1
      rw [eI4, e3]
    · rw [eI k1 i1 f1 (by omega)]
      exact h2 k1 i1 f1 k1' f1' hm1 hi z
  · by_cases z : s = x
    · rw [z, eX0, e4]; rfl
    · rw [eX s z]; exact h5 s hs z
  · by_cases z : s = x
    · rw [z, eX0] at q
      rcases q with q | q
      · omega
      · exact absurd rfl q
    · rw [eX s z] at q
      rw [eI 4 s 6 (by omega)]
      exact (h6 s hs).1 (Or.inr (q.resolve_left (by omega)))
  · by_cases z : s = x
    · rw [z]; exact eI6
    · rw [eX s z] at q2
      rw [eI 4 s 6 (by omega)]
      exact (h6 s hs).2 z q2
  · rw [eX7]
    refine ⟨(h7 s hs).1, fun p hp => ?_⟩
    rw [eI 16 p 1 (by omega), eI 16 p 2 (by omega)]
    exact (h7 s hs).2 p hp
  · rw [eX5, eX5, eX5]
    exact h8 p hp
  · rw [eI 6 i1 1 (by omega), eI 6 i1 2 (by omega)]
    exact h10.2 i1 hi
/-- one who stands in a line comes to be the excepted one -/
theorem RC.exc (h : RC x N Y S) (h98 : x ≠ 98) (hx : yn Y 4 ≤ x) {s : Nat} (hs : sX S 4 s 5 ≠ none) {v w : Int32} : RC s (nU (nU N 28 s 3 v) 28 s 4 w) Y S := by
  obtain ⟨h1, h2, h3, h4, h5, h6, h7, h8, h9, h10⟩ := h
  refine ⟨h1, fun k1 i1 f1 k1' f1' hm1 hi hx1 => ?_, fun t ht => ?_, fun s' hs' => ?_, fun s' hs' hn => ?_, fun s' hs' => ⟨fun q => ?_, fun q1 q2 => ?_⟩, fun s' hs' => ?_, fun p hp => ?_, fun t v ht hv => ⟨(h9 t v ht hv).1, fun _ => (h9 t v ht hv).2 h98⟩, h10⟩
  · have hd := cM_d hm1
    rw [nv_U (by omega), nv_U (by
      intro z
      have := cM_I hm1
      rw [z.1, z.2.2] at this
      cases this
      exact hx1 ⟨rfl, z.2.1, rfl⟩)]
    exact h2 k1 i1 f1 k1' f1' hm1 hi (fun z => by rw [z.1] at hi; omega)
  · rw [nv_U (by omega), nv_U (by omega), nv_U (by omega), nv_U (by omega)]
    exact h3 t ht
  · rw [nv_U (by omega), nv_U (by omega)]
    exact h4 s' hs'
  · rw [nv_U (by omega), nv_U (by omega)]
    exact h5 s' hs' (by omega)
  · rw [nv_U (by omega), nv_U (by omega)]
    refine (h6 s' hs').1 (Or.inr ?_)
    rcases q with q | q
    · rw [q]; exact hs
    · exact q
  · exact (h6 s' hs').2 (by omega) q2
  · rw [nv_U (by omega), nv_U (by omega), nv_U (by omega), nv_U (by omega), nv_U (by omega), nv_U (by omega)]
    exact h7 s' hs'
  · rw [nv_U (by omega), nv_U (by omega), nv_U (by omega), nv_U (by omega)]
    exact h8 p hp
/-- one who is at rest stands in a line -/
theorem RC.stand (h : RC x N Y S) (hx : yn Y 4 ≤ x) {s t : Nat} {d : Int32} : RC x (nU (nU (nU N 28 s 3 1) 28 s 4 (nI t)) 28 s 5 d) Y (uI (uX (uI S 4 s 4 1) 4 s 5 (some t)) 4 s 6 d) := by
  obtain ⟨h1, h2, h3, h4, h5, h6, h7, h8, h9, h10⟩ := h
  have eX : ∀ s', s' ≠ s → sX (uI (uX (uI S 4 s 4 1) 4 s 5 (some t)) 4 s 6 d) 4 s' 5 = sX S 4 s' 5 := fun s' hs => sX_uX (by omega)
  have eX0 : sX (uI (uX (uI S 4 s 4 1) 4 s 5 (some t)) 4 s 6 d) 4 s 5 = some t := sX_uX_s
  have eI : ∀ k i f, ¬ (k = 4 ∧ i = s ∧ (f = 4 ∨ f = 6)) → sI (uI (uX (uI S 4 s 4 1) 4 s 5 (some t)) 4 s 6 d) k i f = sI S k i f := fun k i f q => (sI_uI (by omega)).trans (sI_uI (by omega))
  have eI4 : sI (uI (uX (uI S 4 s 4 1) 4 s 5 (some t)) 4 s 6 d) 4 s 4 = 1 := (sI_uI (by omega)).trans sI_uI_s
  have eI6 : sI (uI (uX (uI S 4 s 4 1) 4 s 5 (some t)) 4 s 6 d) 4 s 6 = d := sI_uI_s
  have eX7 : ∀ s', sX (uI (uX (uI S 4 s 4 1) 4 s 5 (some t)) 4 s 6 d) 4 s' 7 = sX S 4 s' 7 := fun s' => sX_uX (by omega)
  have eX5 : ∀ s' f, sX (uI (uX (uI S 4 s 4 1) 4 s 5 (some t)) 4 s 6 d) 5 s' f = sX S 5 s' f := fun s' f => sX_uX (by omega)
  refine ⟨h1, fun k1 i1 f1 k1' f1' hm1 hi hx1 => ?_, fun t1 ht => ?_, fun s' hs' => ?_, fun s' hs' hn => ?_, fun s' hs' => ⟨fun q => ?_, fun q1 q2 => ?_⟩, fun s' hs' => ?_, fun p hp => ?_, h9, h10.1, fun i1 hi => ?_⟩
  · have hd := cM_d hm1
    by_cases z : k1 = 4 ∧ i1 = s ∧ f1 = 4
    · obtain ⟨rfl, rfl, rfl⟩ := z
      cases hm1
      rw [eI4, nv_U (by omega), nv_U (by omega), nv_U_s]
    · rw [eI k1 i1 f1 (by omega), nv_U (by omega), nv_U (by omega), nv_U (by
        intro w
        have := cM_I hm1
        rw [w.1, w.2.2] at this
        cases this
        exact z ⟨rfl, w.2.1, rfl⟩)]
      exact h2 k1 i1 f1 k1' f1' hm1 hi hx1
  · rw [nv_U (by omega), nv_U (by omega), nv_U (by omega), nv_U (by omega), nv_U (by omega), nv_U (by omega)]
    exact h3 t1 ht
  · rw [nv_U (by omega), nv_U (by omega), nv_U (by omega)]
    exact h4 s' hs'
  · rw [nv_U (by omega)]
    by_cases z : s' = s
    · rw [z, eX0, nv_U_s]; rfl
    · rw [nv_U (by omega), nv_U (by omega), eX s' z]
      exact h5 s' hs' hn
  · by_cases z : s' = s
    · rw [z, eI6, nv_U_s]
    · rw [eX s' z] at q
      rw [eI 4 s' 6 (by omega), nv_U (by omega), nv_U (by omega), nv_U (by omega)]
      exact (h6 s' hs').1 q
  · by_cases z : s' = s
    · rw [z, eX0] at q2
      cases q2
    · rw [eX s' z] at q2
      rw [eI 4 s' 6 (by omega)]
      exact (h6 s' hs').2 q1 q2
  · rw [eX7, nv_U (by omega), nv_U (by omega), nv_U (by omega), nv_U (by omega), nv_U (by omega), nv_U (by omega), nv_U (by omega), nv_U (by omega), nv_U (by omega)]
    refine ⟨(h7 s' hs').1, fun p hp => ?_⟩
    rw [eI 16 p 1 (by omega), eI 16 p 2 (by omega)]
    exact (h7 s' hs').2 p hp
  · rw [eX5, eX5, eX5, nv_U (by omega), nv_U (by omega), nv_U (by omega), nv_U (by omega), nv_U (by omega), nv_U (by omega)]
    exact h8 p hp
  · rw [eI 6 i1 1 (by omega), eI 6 i1 2 (by omega)]
    exact h10.2 i1 hi
end RC1
