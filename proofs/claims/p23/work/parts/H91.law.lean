/-! THE PURE SIDE, 23: the law -/
theorem mWs.TT {Y Y' : mY} {S S' : mS} (W : mWs Y S) (a : ∀ k, k < 20 → yn Y' k = yn Y k ∧ ∀ i, mEq S' S k i) (b : ∀ k i, i < yn Y k → yA Y' k i = yA Y k i) : mWs Y' S' := by
  obtain ⟨w1, w2, w3, ⟨v1, v2, v3, v4⟩, ⟨u1, u2⟩, ⟨u3, u4⟩, u5, u6⟩ := W
  have n := fun k hk => (a k hk).1
  have hL : ∀ i, sL S' 12 i = sL S 12 i := fun i => ((a 12 (by omega)).2 i).2.2.2.2.1
  refine ⟨by rw [n 0 (by omega), n 1 (by omega), n 2 (by omega), n 3 (by omega), n 7 (by omega), n 8 (by omega), n 9 (by omega), n 10 (by omega), n 11 (by omega), n 12 (by omega), n 13 (by omega)]; exact w1, by rw [n 3 (by omega), n 4 (by omega), n 5 (by omega), n 6 (by omega)]; exact w2, by rw [hL, hL, hL, hL, n 3 (by omega), n 4 (by omega), n 5 (by omega), n 6 (by omega)]; exact w3, ⟨fun i hi => (congrFun ((a 2 (by omega)).2 i).1 0).trans (v1 i hi), fun i hi => (congrFun ((a 3 (by omega)).2 i).1 0).trans (v2 i (by rw [n 3 (by omega)] at hi; exact hi)), fun i hi => (congrFun ((a 4 (by omega)).2 i).1 0).trans (v3 i (by rw [n 4 (by omega)] at hi; exact hi)), fun i hi => (congrFun ((a 5 (by omega)).2 i).1 0).trans (v4 i (by rw [n 5 (by omega)] at hi; exact hi))⟩, ⟨(((a 1 (by omega)).2 0).2.2.2.2.2.2.1).trans u1, fun i hi => ?_⟩, ⟨(((a 8 (by omega)).2 0).2.2.2.2.2.2.1).trans u3, fun i hi => ?_⟩, fun i hi => (((a 9 (by omega)).2 i).2.2.2.2.2.2.1).trans (u5 i hi), (((a 9 (by omega)).2 9).2.2.2.2.2.2.1).trans u6⟩
  · rw [congrFun ((a 1 (by omega)).2 0).2.2.2.2.2.2.2.2 i, u2 i hi, b 2 i (by omega)]
  · rw [congrFun ((a 8 (by omega)).2 0).2.2.2.2.2.2.2.2 i, u4 i hi, b 9 i (by omega)]
theorem mWq.TT {Y Y' : mY} {S S' : mS} (Q : mWq Y S) (a : ∀ k, k < 20 → yn Y' k = yn Y k ∧ ∀ i, mEq S' S k i) : mWq Y' S' := by
  have eL : ∀ t, sL S' 13 t = sL S 13 t := fun t => ((a 13 (by omega)).2 t).2.2.2.2.1
  have eX : ∀ s, sX S' 4 s 5 = sX S 4 s 5 := fun s => congrFun ((a 4 (by omega)).2 s).2.2.1 5
  have eI : ∀ s, sI S' 4 s 4 = sI S 4 s 4 := fun s => congrFun ((a 4 (by omega)).2 s).1 4
  refine ⟨fun t ht => ?_, fun s t hs hx => ?_⟩
  · rw [(a 3 (by omega)).1] at ht
    rw [eL]
    exact ⟨(Q.1 t ht).1, fun s hs => (eX s).trans ((Q.1 t ht).2 s hs)⟩
  · rw [(a 4 (by omega)).1] at hs
    rw [eX] at hx
    rw [eI, eL]
    exact Q.2 s t hs hx
section TTV
variable {Y Y' : mY} {S S' : mS}
theorem mVs.TT (V : mVs Y S) (a : ∀ k, 20 ≤ k → k ≠ 31 → yn Y' k = yn Y k ∧ ∀ i, mEq S' S k i) (b : ∀ k i, i < yn Y k → yA Y' k i = yA Y k i) : mVs Y' S' := by
  obtain ⟨w1, w2, w3, ⟨v1, v2, v3⟩, ⟨u1, u2, u3, u4⟩⟩ := V
  have n := fun k h1 h2 => (a k h1 h2).1
  have hL : ∀ i, sL S' 24 i = sL S 24 i := fun i => ((a 24 (by omega) (by omega)).2 i).2.2.2.2.1
  refine ⟨by rw [n 20 (by omega) (by omega), n 21 (by omega) (by omega), n 22 (by omega) (by omega), n 23 (by omega) (by omega), n 24 (by omega) (by omega), n 25 (by omega) (by omega), n 26 (by omega) (by omega), n 27 (by omega) (by omega), n 30 (by omega) (by omega), n 33 (by omega) (by omega)]; exact w1, by rw [n 23 (by omega) (by omega), n 28 (by omega) (by omega), n 29 (by omega) (by omega)]; exact w2, by rw [hL, hL, hL, hL, n 23 (by omega) (by omega), n 28 (by omega) (by omega), n 29 (by omega) (by omega)]; exact w3, ⟨fun v hv => (congrFun ((a 30 (by omega) (by omega)).2 v).1 0).trans (v1 v hv), (((a 33 (by omega) (by omega)).2 0).2.2.2.2.2.2.1).trans v2, fun v hv => ?_⟩, ⟨(((a 21 (by omega) (by omega)).2 0).2.2.2.2.2.2.1).trans u1, fun i hi => ?_, fun t ht => (((a 26 (by omega) (by omega)).2 t).2.2.2.2.2.2.1).trans (u3 t (by rw [n 23 (by omega) (by omega)] at ht; exact ht)), (((a 27 (by omega) (by omega)).2 0).2.2.2.2.2.2.1).trans u4⟩⟩
  · rw [congrFun ((a 33 (by omega) (by omega)).2 0).2.2.2.2.2.2.2.2 (128 + v), v3 v hv, b 30 v (by omega)]
  · rw [congrFun ((a 21 (by omega) (by omega)).2 0).2.2.2.2.2.2.2.2 i, u2 i hi, b 22 i (by omega)]
theorem mVv.TT (V : mVv Y S) (a : ∀ k, 20 ≤ k → k ≠ 31 → yn Y' k = yn Y k ∧ ∀ i, mEq S' S k i) : mVv Y' S' := by
  have n3 := (a 23 (by omega) (by omega)).1
  have n8 := (a 28 (by omega) (by omega)).1
  have n9 := (a 29 (by omega) (by omega)).1
  refine ⟨fun k i f hi => ?_, fun p hp h3 => ?_⟩
  · by_cases z : k = 23 ∨ k = 28 ∨ k = 29
    · have hk := a k (by omega) (by omega)
      rw [hk.1] at hi
      rw [congrFun (hk.2 i).1 f]
      exact vOK_n n8 n3 (V.1 k i f hi)
    · unfold vOK
      split
      · exact absurd (Or.inl rfl) z
      · exact absurd (Or.inr (Or.inl rfl)) z
      · exact absurd (Or.inr (Or.inr rfl)) z
      · trivial
  · rw [n9] at hp
    rw [congrFun ((a 29 (by omega) (by omega)).2 p).1 3] at h3
    rw [congrFun ((a 29 (by omega) (by omega)).2 p).1 5, n8]
    exact V.2 p hp h3
theorem mVq.TT (V : mVq Y S) (a : ∀ k, 20 ≤ k → k ≠ 31 → yn Y' k = yn Y k ∧ ∀ i, mEq S' S k i) : mVq Y' S' := by
  have n3 := (a 23 (by omega) (by omega)).1
  have n8 := (a 28 (by omega) (by omega)).1
  have eL : ∀ t, sL S' 25 t = sL S 25 t := fun t => ((a 25 (by omega) (by omega)).2 t).2.2.2.2.1
  have e3 : ∀ s, sI S' 28 s 3 = sI S 28 s 3 := fun s => congrFun ((a 28 (by omega) (by omega)).2 s).1 3
  have e4 : ∀ s, sI S' 28 s 4 = sI S 28 s 4 := fun s => congrFun ((a 28 (by omega) (by omega)).2 s).1 4
  refine ⟨fun t ht => ?_, fun s hs h3 => ?_⟩
  · rw [n3] at ht
    rw [eL]
    refine ⟨(V.1 t ht).1, fun s hs => ?_⟩
    rw [e3, e4, n8]
    exact (V.1 t ht).2 s hs
  · rw [n8] at hs
    rw [e3] at h3
    obtain ⟨t, q1, q2, q3⟩ := V.2 s hs h3
    exact ⟨t, by rw [n3]; exact q1, by rw [e4]; exact q2, by rw [eL]; exact q3⟩
theorem mVt.TT (V : mVt S) (a : ∀ k, 20 ≤ k → k ≠ 31 → yn Y' k = yn Y k ∧ ∀ i, mEq S' S k i) : mVt S' := by
  obtain ⟨x, y, h1, h2, h3, h4⟩ := V
  have e := ((a 20 (by omega) (by omega)).2 0).1
  exact ⟨x, y, h1, h2, (congrFun e 1).trans h3, (congrFun e 2).trans h4⟩
end TTV
def LJ (g : Nat → Nat) (a0 a1 a2 : Nat) (Y : mY) (S : mS) (M : mM) : Prop := mVI g Y S M ∧ mWs Y S ∧ mWq Y S ∧ mKs g Y S ∧ (0 < yn Y 31 ∧ yA Y 0 0 = a0 ∧ yA Y 20 0 = a1 ∧ yA Y 31 0 = a2)
theorem RC.TT {x : Nat} {N : mN} {Y Y' : mY} {S S' : mS} (h : RC x N Y S) (a : ∀ k, k < 20 → yn Y' k = yn Y k ∧ ∀ i, mEq S' S k i) : RC x N Y' S' := by
  obtain ⟨h1, h2, h3, h4, h5, h6, h7, h8, h9, h10⟩ := h.cg (S' := S') (fun k i f hk => congrFun ((a k (by omega)).2 i).1 f) (fun k i f hk => congrFun ((a k (by omega)).2 i).2.2.2.1 f) (fun k i f hk => congrFun ((a k (by omega)).2 i).2.2.1 f) (fun t => ((a 13 (by omega)).2 t).2.2.2.2.1) (fun k t f hk => congrFun ((a k (by omega)).2 t).2.1 f)
  have e3 := (a 3 (by omega)).1
  have e4 := (a 4 (by omega)).1
  have e5 := (a 5 (by omega)).1
  have e6 := (a 6 (by omega)).1
  exact ⟨by rw [e3, e4, e5]; exact h1, fun k i f k' f' hm hi => h2 k i f k' f' hm (by rw [← (a k (by have := cM_d hm; omega)).1]; exact hi), fun t ht => h3 t (by rw [← e3]; exact ht), fun s hs => h4 s (by rw [← e4]; exact hs), fun s hs => h5 s (by rw [← e4]; exact hs), fun s hs => h6 s (by rw [← e4]; exact hs), fun s hs => h7 s (by rw [← e4]; exact hs), fun p hp => h8 p (by rw [← e5]; exact hp), fun t v ht => h9 t v (by rw [← e3]; exact ht), by rw [e6]; exact h10.1, fun i hi => h10.2 i (by rw [← e6]; exact hi)⟩
theorem RV.TT {N : mN} {Y Y' : mY} {S S' : mS} (h : RV N Y S) (a : ∀ k, 20 ≤ k → k ≠ 31 → yn Y' k = yn Y k ∧ ∀ i, mEq S' S k i) : RV N Y' S' := by
  obtain ⟨h1, h2, h3, h4, h5⟩ := h
  have e23 := (a 23 (by omega) (by omega)).1
  have e28 := (a 28 (by omega) (by omega)).1
  have e29 := (a 29 (by omega) (by omega)).1
  exact ⟨by rw [e23, e28, e29]; exact h1, fun k i f q hi => (congrFun ((a k (by have := rK_d q; omega) (by have := rK_d q; omega)).2 i).1 f).trans (h2 k i f q (by rw [← (a k (by have := rK_d q; omega) (by have := rK_d q; omega)).1]; exact hi)), fun t ht => (((a 25 (by omega) (by omega)).2 t).2.2.2.2.1).trans (h3 t (by rw [← e23]; exact ht)), fun t v ht hv => (congrFun ((a 26 (by omega) (by omega)).2 t).2.2.2.2.2.2.2.1 v).trans (h4 t v (by rw [← e23]; exact ht) hv), (((a 24 (by omega) (by omega)).2 3).2.2.2.2.1).trans h5⟩
/-- the state at the start -/
def N0 : mN := (fun _ => 0, fun k _ f => match k with | 20 => (match f with | 3 => 3 | _ => 0) | 22 => LD22 f | _ => 0, fun _ => [], fun _ _ => false, [])
theorem RC0 {Y : mY} {S : mS} (W : mWs Y S) (R : ∀ l, l < 6 → sI S 2 l = LD2 l) (C : yn Y 3 = 0 ∧ yn Y 4 = 0 ∧ sI S 0 0 8 = 0 ∧ sI S 0 0 9 = 0 ∧ sI S 0 0 10 = 0 ∧ yn Y 5 = 0 ∧ yn Y 6 = 0 ∧ sI S 7 0 = ST7) : RC 99 N0 Y S := by
  obtain ⟨c3, c4, c8, c9, c10, c5, c6, c7⟩ := C
  have n0 : yn Y 0 = 1 := W.1.1
  have n2 : yn Y 2 = 6 := W.1.2.2.1
  have n7 : yn Y 7 = 1 := W.1.2.2.2.1
  have e8 : ∀ i, i < yn Y 0 → sI S 0 i 8 = 0 := fun i hi => by rw [show i = 0 by omega]; exact c8
  have e9 : ∀ i, i < yn Y 0 → sI S 0 i 9 = 0 := fun i hi => by rw [show i = 0 by omega]; exact c9
  have e10 : ∀ i, i < yn Y 0 → sI S 0 i 10 = 0 := fun i hi => by rw [show i = 0 by omega]; exact c10
  have e7 : ∀ i, i < yn Y 7 → sI S 7 i = ST7 := fun i hi => by rw [show i = 0 by omega]; exact c7
  have e2 : ∀ i, i < yn Y 2 → sI S 2 i = LD2 i := fun i hi => R i (by omega)
  refine ⟨⟨c3, c4, c5⟩, fun k i f k' f' hm hi _ => ?_, fun t ht => absurd ht (by omega), fun s hs => absurd hs (by omega), fun s hs => absurd hs (by omega), fun s hs => absurd hs (by omega), fun s hs => absurd hs (by omega), fun p hp => absurd hp (by omega), fun t v ht => absurd ht (by omega), by rw [c6]; rfl, fun i hi => absurd hi (by omega)⟩
  unfold cM at hm
  split at hm <;> first | (cases hm; first | exact absurd hi (by omega) | exact e8 i hi | exact e9 i hi | exact e10 i hi | exact congrFun (e7 i hi) 0 | exact congrFun (e7 i hi) 1 | exact congrFun (e2 i hi) 1 | exact congrFun (e2 i hi) 2 | exact congrFun (e2 i hi) 3 | exact congrFun (e2 i hi) 4 | exact congrFun (e2 i hi) 5 | exact congrFun (e2 i hi) 6) | cases hm
theorem RV0 {Y : mY} {S : mS} (V : mVs Y S) (R : ∀ l, l < 6 → sI S 22 l = LD22) (C : yn Y 23 = 0 ∧ yn Y 28 = 0 ∧ sI S 20 0 1 = 0 ∧ sI S 20 0 2 = 0 ∧ yn Y 29 = 0 ∧ sI S 20 0 3 = 3 ∧ sI S 20 0 4 = 0 ∧ sI S 20 0 5 = 0 ∧ sL S 24 3 = []) : RV N0 Y S := by
  obtain ⟨c23, c28, q1, q2, c29, q3, q4, q5, qL⟩ := C
  have n20 : yn Y 20 = 1 := V.1.1
  have n22 : yn Y 22 = 6 := V.1.2.2.1
  refine ⟨⟨c23, c28, c29⟩, fun k i f q hi => ?_, fun t ht => absurd ht (by omega), fun t v ht => absurd ht (by omega), qL⟩
  rcases rK_d q with ⟨rfl, h1, h2⟩ | ⟨rfl, h1⟩ | ⟨rfl, -⟩ | ⟨rfl, -⟩ | ⟨rfl, -⟩
  · rw [show i = 0 by omega]
    have hf : f = 1 ∨ f = 2 ∨ f = 3 ∨ f = 4 ∨ f = 5 := by omega
    rcases hf with rfl | rfl | rfl | rfl | rfl
    · exact q1
    · exact q2
    · exact q3
    · exact q4
    · exact q5
  · exact congrFun (R i (by omega)) f
  · exact absurd hi (by omega)
  · exact absurd hi (by omega)
  · exact absurd hi (by omega)
theorem NI0 : NI N0 := NI.mk (fun l _ => ⟨20, by omega, rfl⟩) ⟨fun _ => 5, fun l _ => rfl, rfl⟩ (fun s hs => absurd hs (Nat.not_lt_zero s)) (fun t ht => absurd ht (Nat.not_lt_zero t)) ⟨fun k hk => absurd hk (Nat.not_lt_zero _), fun k k' _ hk => absurd hk (Nat.not_lt_zero _), fun s hs => absurd hs (Nat.not_lt_zero s)⟩
def LI (g : Nat → Nat) (a0 a1 a2 : Nat) (Y : mY) (S : mS) (M : mM) : Prop := LJ g a0 a1 a2 Y S M ∧ ∃ N, RC 99 N Y S ∧ RV N Y S ∧ NI N
section LAWP
variable {g : Nat → Nat} {a0 a1 a2 : Nat} {Y : mY} {S : mS} {M : mM}
theorem LJ.c {Y' : mY} {S' : mS} {M' : mM} (I : LJ g a0 a1 a2 Y S M) (H' : mR g Y' S' M') (W' : mWs Y' S') (Q' : mWq Y' S') (F : mFc Y S Y' S') : LJ g a0 a1 a2 Y' S' M' := by
  obtain ⟨⟨H, V, VV, VQ, VT⟩, W, Q, K, y31, e0, e1, e2⟩ := I
  have a : ∀ k, 20 ≤ k → k ≠ 31 → yn Y' k = yn Y k ∧ ∀ i, mEq S' S k i := fun k h1 _ => F.2.2 k h1
  exact ⟨⟨H', V.TT a F.1, VV.TT a, VQ.TT a, VT.TT a⟩, W', Q', K.Fc F, by rw [(F.2.2 31 (by omega)).1]; exact y31, (F.1 0 0 W.x0).trans e0, (F.1 20 0 V.x0).trans e1, (F.1 31 0 y31).trans e2⟩
theorem LJ.v {Y' : mY} {S' : mS} {M' : mM} (I : LJ g a0 a1 a2 Y S M) (I' : mVI g Y' S' M') (F : mFm Y S Y' S') : LJ g a0 a1 a2 Y' S' M' := by
  obtain ⟨⟨H, V, VV, VQ, VT⟩, W, Q, K, y31, e0, e1, e2⟩ := I
  have a : ∀ k, k < 20 → yn Y' k = yn Y k ∧ ∀ i, mEq S' S k i := fun k hk => F.2.2 k (Or.inl hk)
  exact ⟨I', W.TT a F.1, Q.TT a, K.Fm F, by rw [(F.2.2 31 (Or.inr (Or.inl rfl))).1]; exact y31, (F.1 0 0 W.x0).trans e0, (F.1 20 0 V.x0).trans e1, (F.1 31 0 y31).trans e2⟩
theorem LJ.o {S' : mS} {M' : mM} (I : LJ g a0 a1 a2 Y S M) (H' : mR g Y S' M') (a : ∀ k i, k ≠ 31 → mEq S' S k i) : LJ g a0 a1 a2 Y S' M' := by
  obtain ⟨⟨H, V, VV, VQ, VT⟩, W, Q, K, y31, e0, e1, e2⟩ := I
  have av : ∀ k, 20 ≤ k → k ≠ 31 → yn Y k = yn Y k ∧ ∀ i, mEq S' S k i := fun k _ h2 => ⟨rfl, fun i => a k i h2⟩
  have ac : ∀ k, k < 20 → yn Y k = yn Y k ∧ ∀ i, mEq S' S k i := fun k h => ⟨rfl, fun i => a k i (by omega)⟩
  exact ⟨⟨H', V.TT av (fun _ _ _ => rfl), VV.TT av, VQ.TT av, VT.TT av⟩, W.TT ac (fun _ _ _ => rfl), Q.TT ac, K.E (fun k h1 h2 => ⟨rfl, fun i => a k i (by omega)⟩) (fun _ _ _ => rfl), y31, e0, e1, e2⟩
theorem LI.e {S' : mS} {M' : mM} (I : LI g a0 a1 a2 Y S M) (H' : mR g Y S' M') (e : eqE S' S) : LI g a0 a1 a2 Y S' M' := by
  obtain ⟨J, N, R, V, K⟩ := I
  exact ⟨J.c H' (J.2.1.E e) (J.2.2.1.of (fun t => by rw [e.2.2.2.2.1]) (fun s => by rw [e.2.2.1]) (fun s => by rw [e.1])) (mFc.E e), N, R.E e, V.TT (fun k h1 _ => (mFc.E (Y := Y) e).2.2 k h1), K⟩
theorem LI.o {S' : mS} {M' : mM} (I : LI g a0 a1 a2 Y S M) (H' : mR g Y S' M') (a : ∀ k i, k ≠ 31 → mEq S' S k i) : LI g a0 a1 a2 Y S' M' := by
  obtain ⟨J, N, R, V, K⟩ := I
  exact ⟨J.o H' a, N, R.TT (fun k hk => ⟨rfl, fun i => a k i (by omega)⟩), V.TT (fun k _ h2 => ⟨rfl, fun i => a k i h2⟩), K⟩
theorem LI.n {N : mN} {Y' : mY} {S' : mS} {M' : mM} (J : LJ g a0 a1 a2 Y S M) (R : RC 99 N Y S) (P : vN g N Y S Y' S' M') (K : NI N) : LI g a0 a1 a2 Y' S' M' := ⟨J.v P.1 P.2.1, N, R.TT (fun k hk => P.2.1.2.2 k (Or.inl hk)), P.2.2, K⟩
theorem s_p8 (H : mR g Y S M) {k i f ci : Nat} (hi : i < yn Y k) (h1 : m_ak k = 99) (h2 : m_cls k = ci) (h3 : (m_fds k)[f]? = some (8, 0, 0)) (v : Option Nat) {κ : mM → Prop} (h : ∀ M', mR g Y (uX S k i f v) M' → κ M') : m_p M (some (yA Y k i)) ci f (va_rf v) κ := by
  subst h2
  refine ⟨_, _, rfl, H.at hi h1, ?_, ?_⟩
  · rw [List.length_mapIdx]
    exact (List.getElem?_eq_some_iff.mp h3).1
  · refine h _ (H.put hi (uX S k i f v) rfl rfl rfl (fun k' i' z => m_cell_cg (fun f' t => m_fv_cg rfl rfl (if_neg (fun w => z ⟨w.1, w.2.1⟩)) rfl rfl rfl) rfl rfl rfl) (fun k' i' f' t hi' ht => ?_) (m_cell_set h1 h3 ?_ (fun f' t' hf => m_fv_cg rfl rfl (if_neg (fun w => hf w.2.2)) rfl rfl rfl)))
    · obtain ⟨q1, q2, q3⟩ := H.2.2.2.2.2.1 k' i' f' t hi' ht
      refine ⟨q1, fun ht3 j hj => ?_, q3⟩
      by_cases z : k' = k ∧ i' = i ∧ f' = f
      · obtain ⟨rfl, rfl, rfl⟩ := z
        have et := Option.some.inj (ht.symm.trans h3)
        rw [et] at ht3
        exact absurd ht3 (by decide)
      · exact q2 ht3 j ((if_neg z).symm.trans hj)
    · exact congrArg (fun o => va_rf o) (if_pos ⟨rfl, rfl, rfl⟩)
theorem oJ (I : LJ g a0 a1 a2 Y S M) {v : Int64} {κ : mM → Prop} (h : ∀ S' M', mR g Y S' M' → sJ S' 31 0 0 = v → (∀ k i, k ≠ 31 → mEq S' S k i) → κ M') : m_p M (some a2) 14 0 (.long v) κ := by
  rw [← I.2.2.2.2.2.2.2]
  exact s_pJ I.1.1 I.2.2.2.2.1 rfl rfl rfl (fun M1 H1 => h _ M1 H1 (show (if 31 = 31 ∧ 0 = 0 ∧ 0 = 0 then v else sJ S 31 0 0) = v from if_pos ⟨rfl, rfl, rfl⟩) (fun k i hk => mEq.uJ (by omega)))
theorem oI (I : LI g a0 a1 a2 Y S M) {v : Int64} {κ : mM → Prop} (h : ∀ S' M', LI g a0 a1 a2 Y S' M' → κ M') : m_p M (some a2) 14 0 (.long v) κ := oJ I.1 (fun S' M' H' _ a => h S' M' (I.o H' a))
theorem oA (I : LI g a0 a1 a2 Y S M) {v : Option Nat} {κ : mM → Prop} (h : ∀ S' M', LI g a0 a1 a2 Y S' M' → κ M') : m_p M (some a2) 14 1 (va_rf v) κ := by
  rw [← I.1.2.2.2.2.2.2.2]
  exact s_p8 I.1.1.1 I.1.2.2.2.2.1 rfl rfl rfl v (fun M1 H1 => h _ M1 (I.o H1 (fun k i hk => mEq.uX (by omega))))
theorem lg_s (x : Int64) : lg_cmp x x = 0 := by
  unfold lg_cmp
  simp

theorem W_ofLand (I : LI g a0 a1 a2 Y S M) {x y : Int32} {κ : Int32 → mM → Prop} (h : ∀ n Y' S' M', LI g a0 a1 a2 Y' S' M' → κ n M') : wL_ofLand κ (some a0) x y (some a2) M := by
  have W := I.1.2.1
  rw [← I.1.2.2.2.2.2.1]
  exact s_rc I.1.1.1 W.x0 rfl rfl (c_ofLand I.1.1.1 W (fun _ => oI I (fun S2 M2 I2 => h 0 Y S2 M2 I2)) (fun _ => Or.inl ⟨rfl, h 1 Y S M I⟩) (fun _ => Or.inr (⟨rfl, h 2 Y S M I⟩)))
theorem V_ofLand (I : LI g a0 a1 a2 Y S M) {x y : Int32} {κ : Int32 → mM → Prop} (h : ∀ n Y' S' M', LI g a0 a1 a2 Y' S' M' → κ n M') : m_rc M (some a1) 19 fun b => wX14_ofLand κ (some b) x y M := by
  rw [← I.1.2.2.2.2.2.2.1]
  exact s_rc I.1.1.1 I.1.1.2.1.x0 rfl rfl (by obtain ⟨J, N, R, V, K⟩ := I; exact f_ofLand (N := N) ⟨J.1, mFm.rf Y S, V⟩ (fun x1 Y' S' M' P => h x1 Y' S' M' (LI.n J R P K)))
theorem W_ofGate (I : LI g a0 a1 a2 Y S M) {x y : Int32} {κ : Int32 → mM → Prop} (h : ∀ n Y' S' M', LI g a0 a1 a2 Y' S' M' → κ n M') : wL_ofGate κ (some a0) x y (some a2) M := by
  have W := I.1.2.1
  rw [← I.1.2.2.2.2.2.1]
  exact s_rc I.1.1.1 W.x0 rfl rfl (c_ofGate I.1.1.1 W (fun _ => oI I (fun S2 M2 I2 => h 0 Y S2 M2 I2)) (fun _ => Or.inl ⟨rfl, h 1 Y S M I⟩) (fun _ => Or.inr (⟨rfl, h 2 Y S M I⟩)))
theorem V_ofGate (I : LI g a0 a1 a2 Y S M) {x y : Int32} {κ : Int32 → mM → Prop} (h : ∀ n Y' S' M', LI g a0 a1 a2 Y' S' M' → κ n M') : m_rc M (some a1) 19 fun b => wX14_ofGate κ (some b) x y M := by
  rw [← I.1.2.2.2.2.2.2.1]
  exact s_rc I.1.1.1 I.1.1.2.1.x0 rfl rfl (by obtain ⟨J, N, R, V, K⟩ := I; exact f_ofGate (N := N) ⟨J.1, mFm.rf Y S, V⟩ (fun x1 Y' S' M' P => h x1 Y' S' M' (LI.n J R P K)))
theorem W_ofSleeper (I : LI g a0 a1 a2 Y S M) {x y : Int32} {κ : Int32 → mM → Prop} (h : ∀ n Y' S' M', LI g a0 a1 a2 Y' S' M' → κ n M') : wL_ofSleeper κ (some a0) x y (some a2) M := by
  have W := I.1.2.1
  rw [← I.1.2.2.2.2.2.1]
  exact s_rc I.1.1.1 W.x0 rfl rfl (c_ofSleeper I.1.1.1 W (fun _ => oI I (fun S2 M2 I2 => h 0 Y S2 M2 I2)) (fun _ => Or.inl ⟨rfl, h 1 Y S M I⟩) (fun _ => Or.inr (⟨rfl, h 2 Y S M I⟩)))
theorem V_ofSleeper (I : LI g a0 a1 a2 Y S M) {x y : Int32} {κ : Int32 → mM → Prop} (h : ∀ n Y' S' M', LI g a0 a1 a2 Y' S' M' → κ n M') : m_rc M (some a1) 19 fun b => wX14_ofSleeper κ (some b) x y M := by
  rw [← I.1.2.2.2.2.2.2.1]
  exact s_rc I.1.1.1 I.1.1.2.1.x0 rfl rfl (by obtain ⟨J, N, R, V, K⟩ := I; exact f_ofSleeper (N := N) ⟨J.1, mFm.rf Y S, V⟩ (fun x1 Y' S' M' P => h x1 Y' S' M' (LI.n J R P K)))
theorem W_ofPart (I : LI g a0 a1 a2 Y S M) {x y : Int32} {κ : Int32 → mM → Prop} (h : ∀ n Y' S' M', LI g a0 a1 a2 Y' S' M' → κ n M') : wL_ofPart κ (some a0) x y (some a2) M := by
  have W := I.1.2.1
  rw [← I.1.2.2.2.2.2.1]
  exact s_rc I.1.1.1 W.x0 rfl rfl (c_ofPart I.1.1.1 W (fun _ => oI I (fun S2 M2 I2 => h 0 Y S2 M2 I2)) (fun _ => Or.inl ⟨rfl, h 1 Y S M I⟩) (fun _ => Or.inr (⟨rfl, h 2 Y S M I⟩)))
theorem V_ofPart (I : LI g a0 a1 a2 Y S M) {x y : Int32} {κ : Int32 → mM → Prop} (h : ∀ n Y' S' M', LI g a0 a1 a2 Y' S' M' → κ n M') : m_rc M (some a1) 19 fun b => wX14_ofPart κ (some b) x y M := by
  rw [← I.1.2.2.2.2.2.2.1]
  exact s_rc I.1.1.1 I.1.1.2.1.x0 rfl rfl (by obtain ⟨J, N, R, V, K⟩ := I; exact f_ofPart (N := N) ⟨J.1, mFm.rf Y S, V⟩ (fun x1 Y' S' M' P => h x1 Y' S' M' (LI.n J R P K)))
theorem W_isGood (I : LI g a0 a1 a2 Y S M) {x y : Int32} {κ : Int32 → mM → Prop} (h : ∀ n Y' S' M', LI g a0 a1 a2 Y' S' M' → κ n M') : wL_isGood κ (some a0) x y (some a2) M := by
  have W := I.1.2.1
  rw [← I.1.2.2.2.2.2.1]
  exact s_rc I.1.1.1 W.x0 rfl rfl (c_isGood I.1.1.1 W (br_f (by decide) (oI I (fun S2 M2 I2 => h 0 Y S2 M2 I2))) (br_t rfl (oI I (fun S2 M2 I2 => h 0 Y S2 M2 I2))) (fun _ => ⟨rfl, h 1 Y S M I⟩))
theorem V_isGood (I : LI g a0 a1 a2 Y S M) {x y : Int32} {κ : Int32 → mM → Prop} (h : ∀ n Y' S' M', LI g a0 a1 a2 Y' S' M' → κ n M') : m_rc M (some a1) 19 fun b => wX14_isGood κ (some b) x y M := by
  rw [← I.1.2.2.2.2.2.2.1]
  exact s_rc I.1.1.1 I.1.1.2.1.x0 rfl rfl (by obtain ⟨J, N, R, V, K⟩ := I; exact f_isGood (N := N) ⟨J.1, mFm.rf Y S, V⟩ (fun x1 Y' S' M' P => h x1 Y' S' M' (LI.n J R P K)))
theorem W_queue (I : LI g a0 a1 a2 Y S M) {x : Int32} {κ : Int32 → mM → Prop} (h : ∀ n Y' S' M', LI g a0 a1 a2 Y' S' M' → κ n M') : wL_queue g κ (some a0) x (some a2) M := by
  have W := I.1.2.1
  rw [← I.1.2.2.2.2.2.1]
  exact s_rc I.1.1.1 W.x0 rfl rfl (c_queue I.1.1.1 W I.1.2.2.1 I.1.2.2.2.1 (fun E hE => by subst hE; exact ⟨rfl, h 1 Y S M I⟩) (fun x1 M1 H1 => oA (I.o H1 (fun _ _ _ => mEq.rf _ _ _)) (fun S2 M2 I2 => h 0 Y S2 M2 I2)))
theorem V_queue (I : LI g a0 a1 a2 Y S M) {x : Int32} {κ : Option Nat → mM → Prop} (h : ∀ n Y' S' M', LI g a0 a1 a2 Y' S' M' → κ n M') : m_rc M (some a1) 19 fun b => wX14_queue g κ (some b) x M := by
  rw [← I.1.2.2.2.2.2.2.1]
  exact s_rc I.1.1.1 I.1.1.2.1.x0 rfl rfl (by obtain ⟨J, N, R, V, K⟩ := I; exact f_queue (N := N) ⟨J.1, mFm.rf Y S, V⟩ J.2.2.2.1 (fun x1 Y' S' M' P => h x1 Y' S' M' (LI.n J R P K)))
theorem W_night (I : LI g a0 a1 a2 Y S M) {x : Int32} {κ : Int32 → mM → Prop} (h : ∀ n Y' S' M', LI g a0 a1 a2 Y' S' M' → κ n M') : wL_night κ (some a0) x (some a2) M := by
  have W := I.1.2.1
  rw [← I.1.2.2.2.2.2.1]
  exact s_rc I.1.1.1 W.x0 rfl rfl (c_night I.1.1.1 W (fun _ => oI I (fun S2 M2 I2 => h 0 Y S2 M2 I2)) (fun _ => ⟨rfl, h 1 Y S M I⟩))
theorem V_night (I : LI g a0 a1 a2 Y S M) {x : Int32} {κ : Int32 → mM → Prop} (h : ∀ n Y' S' M', LI g a0 a1 a2 Y' S' M' → κ n M') : m_rc M (some a1) 19 fun b => wX14_night κ (some b) x M := by
  rw [← I.1.2.2.2.2.2.2.1]
  exact s_rc I.1.1.1 I.1.1.2.1.x0 rfl rfl (by obtain ⟨J, N, R, V, K⟩ := I; exact f_night (N := N) ⟨J.1, mFm.rf Y S, V⟩ (fun x1 Y' S' M' P => h x1 Y' S' M' (LI.n J R P K)))
theorem W_way (I : LI g a0 a1 a2 Y S M) {x y : Int32} {κ : Int32 → mM → Prop} (h : ∀ n Y' S' M', LI g a0 a1 a2 Y' S' M' → κ n M') : wL_way κ (some a0) x y (some a2) M := by
  have W := I.1.2.1
  rw [← I.1.2.2.2.2.2.1]
  exact s_rc I.1.1.1 W.x0 rfl rfl (c_way I.1.1.1 W (fun x1 S1 M1 H1 e => oI (I.e H1 e) (fun S2 M2 I2 => h 0 Y S2 M2 I2)) (fun _ => ⟨rfl, h 1 Y S M I⟩))
theorem V_way (I : LI g a0 a1 a2 Y S M) {x y : Int32} {κ : Int32 → mM → Prop} (h : ∀ n Y' S' M', LI g a0 a1 a2 Y' S' M' → κ n M') : m_rc M (some a1) 19 fun b => wX14_way κ (some b) x y M := by
  rw [← I.1.2.2.2.2.2.2.1]
  exact s_rc I.1.1.1 I.1.1.2.1.x0 rfl rfl (by obtain ⟨J, N, R, V, K⟩ := I; exact f_way (N := N) ⟨J.1, mFm.rf Y S, V⟩ (fun x1 Y' S' M' P => h x1 Y' S' M' (LI.n J R P K)))
theorem W_plan (I : LI g a0 a1 a2 Y S M) {x y : Int32} {κ : Int32 → mM → Prop} (h : ∀ n Y' S' M', LI g a0 a1 a2 Y' S' M' → κ n M') : wL_plan κ (some a0) x y (some a2) M := by
  have W := I.1.2.1
  rw [← I.1.2.2.2.2.2.1]
  exact s_rc I.1.1.1 W.x0 rfl rfl (c_plan I.1.1.1 W (fun x1 S1 M1 H1 e => oI (I.e H1 e) (fun S2 M2 I2 => h 0 Y S2 M2 I2)) (fun _ => Or.inl ⟨rfl, h 1 Y S M I⟩) (fun _ _ => Or.inr (⟨rfl, h 2 Y S M I⟩)))
theorem V_plan (I : LI g a0 a1 a2 Y S M) {x y : Int32} {κ : Int32 → mM → Prop} (h : ∀ n Y' S' M', LI g a0 a1 a2 Y' S' M' → κ n M') : m_rc M (some a1) 19 fun b => wX14_plan κ (some b) x y M := by
  rw [← I.1.2.2.2.2.2.2.1]
  exact s_rc I.1.1.1 I.1.1.2.1.x0 rfl rfl (by obtain ⟨J, N, R, V, K⟩ := I; exact f_plan (N := N) ⟨J.1, mFm.rf Y S, V⟩ (fun x1 Y' S' M' P => h x1 Y' S' M' (LI.n J R P K)))
theorem W_wouldPay (I : LI g a0 a1 a2 Y S M) {x : Int32} {κ : Int32 → mM → Prop} (h : ∀ n Y' S' M', LI g a0 a1 a2 Y' S' M' → κ n M') : wL_wouldPay κ (some a0) x (some a2) M := by
  have W := I.1.2.1
  rw [← I.1.2.2.2.2.2.1]
  exact s_rc I.1.1.1 W.x0 rfl rfl (c_wouldPay I.1.1.1 W (fun _ => oI I (fun S2 M2 I2 => h 0 Y S2 M2 I2)) (fun _ => ⟨rfl, h 1 Y S M I⟩))
theorem V_wouldPay (I : LI g a0 a1 a2 Y S M) {x : Int32} {κ : Int32 → mM → Prop} (h : ∀ n Y' S' M', LI g a0 a1 a2 Y' S' M' → κ n M') : m_rc M (some a1) 19 fun b => wX14_wouldPay κ (some b) x M := by
  rw [← I.1.2.2.2.2.2.2.1]
  exact s_rc I.1.1.1 I.1.1.2.1.x0 rfl rfl (by obtain ⟨J, N, R, V, K⟩ := I; exact f_wouldPay (N := N) ⟨J.1, mFm.rf Y S, V⟩ (fun x1 Y' S' M' P => h x1 Y' S' M' (LI.n J R P K)))
theorem W_isSound (I : LI g a0 a1 a2 Y S M) {κ : Int32 → mM → Prop} (h : ∀ n, κ n M) : m_rc M (some a0) 13 fun b => wX8_isSound κ (some b) M := by
  rw [← I.1.2.2.2.2.2.1]
  exact s_rc I.1.1.1 I.1.2.1.x0 rfl rfl (c_isSound I.1.1.1 I.1.2.1 (h 1) (h 0))
theorem V_isSound (I : LI g a0 a1 a2 Y S M) {κ : Int32 → mM → Prop} (h : ∀ n Y' S' M', LI g a0 a1 a2 Y' S' M' → κ n M') : m_rc M (some a1) 19 fun b => wX14_isSound κ (some b) M := by
  rw [← I.1.2.2.2.2.2.2.1]
  exact s_rc I.1.1.1 I.1.1.2.1.x0 rfl rfl (by obtain ⟨J, N, R, V, K⟩ := I; exact f_isSound (N := N) ⟨J.1, mFm.rf Y S, V⟩ (fun x1 Y' S' M' P => h x1 Y' S' M' (LI.n J R P K)))
theorem W_digest (I : LI g a0 a1 a2 Y S M) {κ : Int64 → mM → Prop} (h : ∀ n S' M', LI g a0 a1 a2 Y S' M' → κ n M') : m_rc M (some a0) 13 fun b => wX8_digest κ (some b) M := by
  rw [← I.1.2.2.2.2.2.1]
  exact s_rc I.1.1.1 I.1.2.1.x0 rfl rfl (c_digest I.1.1.1 I.1.2.1 (fun x1 S' M' H' e => h x1 S' M' (I.e H' e)))
theorem V_digest (I : LI g a0 a1 a2 Y S M) {κ : Int64 → mM → Prop} (h : ∀ n Y' S' M', LI g a0 a1 a2 Y' S' M' → κ n M') : m_rc M (some a1) 19 fun b => wX14_digest κ (some b) M := by
  rw [← I.1.2.2.2.2.2.2.1]
  exact s_rc I.1.1.1 I.1.1.2.1.x0 rfl rfl (by obtain ⟨J, N, R, V, K⟩ := I; exact f_digest (N := N) ⟨J.1, mFm.rf Y S, V⟩ (fun x1 Y' S' M' P => h x1 Y' S' M' (LI.n J R P K)))
theorem fLand_e {N N' : mN} {x y z k v : Int32} (h : fLand N x y z = (k, v, N')) (hk : ¬ k = 0) : N' = N := by
  unfold fLand at h
  repeat' split at h
  all_goals first | exact absurd (congrArg (fun x => x.1) h).symm hk | exact (congrArg (fun x => x.2.2) h).symm
theorem fTrade_e {N N' : mN} {x y z k v : Int32} (h : fTrade N x y z = (k, v, N')) (hk : ¬ k = 0) : N' = N := by
  unfold fTrade at h
  repeat' split at h
  all_goals first | exact absurd (congrArg (fun x => x.1) h).symm hk | exact (congrArg (fun x => x.2.2) h).symm
theorem fGate_e {N N' : mN} {x y z u k v : Int32} (h : fGate N x y z u = (k, v, N')) (hk : ¬ k = 0) : N' = N := by
  unfold fGate at h
  repeat' split at h
  all_goals first | exact absurd (congrArg (fun x => x.1) h).symm hk | exact (congrArg (fun x => x.2.2) h).symm
theorem fOdds_e {N N' : mN} {x y k v : Int32} (h : fOdds N x y = (k, v, N')) (hk : ¬ k = 0) : N' = N := by
  unfold fOdds at h
  repeat' split at h
  all_goals first | exact absurd (congrArg (fun x => x.1) h).symm hk | exact (congrArg (fun x => x.2.2) h).symm
theorem fRelieve_e {N N' : mN} {x k v : Int32} (h : fRelieve N x = (k, v, N')) (hk : ¬ k = 0) : N' = N := by
  unfold fRelieve at h
  repeat' split at h
  all_goals first | exact absurd (congrArg (fun x => x.1) h).symm hk | exact (congrArg (fun x => x.2.2) h).symm
theorem fSleeper_e {N N' : mN} {x y z k v : Int32} (h : fSleeper N x y z = (k, v, N')) (hk : ¬ k = 0) : N' = N := by
  unfold fSleeper at h
  repeat' split at h
  all_goals first | exact absurd (congrArg (fun x => x.1) h).symm hk | exact (congrArg (fun x => x.2.2) h).symm
theorem fPart_e {N N' : mN} {x y z u k v : Int32} (h : fPart N x y z u = (k, v, N')) (hk : ¬ k = 0) : N' = N := by
  unfold fPart at h
  repeat' split at h
  all_goals first | exact absurd (congrArg (fun x => x.1) h).symm hk | exact (congrArg (fun x => x.2.2) h).symm
theorem fGive_e {N N' : mN} {x y k v : Int32} (h : fGive N x y = (k, v, N')) (hk : ¬ k = 0) : N' = N := by
  unfold fGive at h
  repeat' split at h
  all_goals first | exact absurd (congrArg (fun x => x.1) h).symm hk | exact (congrArg (fun x => x.2.2) h).symm
theorem fSing_e {N N' : mN} {x y z u k v : Int32} (h : fSing N x y z u = (k, v, N')) (hk : ¬ k = 0) : N' = N := by
  unfold fSing at h
  repeat' split at h
  all_goals first | exact absurd (congrArg (fun x => x.1) h).symm hk | exact (congrArg (fun x => x.2.2) h).symm
theorem fRevoke_e {N N' : mN} {x y k v : Int32} (h : fRevoke N x y = (k, v, N')) (hk : ¬ k = 0) : N' = N := by
  unfold fRevoke at h
  repeat' split at h
  all_goals first | exact absurd (congrArg (fun x => x.1) h).symm hk | exact (congrArg (fun x => x.2.2) h).symm
theorem fJoin_e {N N' : mN} {x y z k v : Int32} (h : fJoin N x y z = (k, v, N')) (hk : ¬ k = 0) : N' = N := by
  unfold fJoin at h
  repeat' split at h
  all_goals first | exact absurd (congrArg (fun x => x.1) h).symm hk | exact (congrArg (fun x => x.2.2) h).symm
theorem fLeave_e {N N' : mN} {x k v : Int32} (h : fLeave N x = (k, v, N')) (hk : ¬ k = 0) : N' = N := by
  unfold fLeave at h
  repeat' split at h
  all_goals first | exact absurd (congrArg (fun x => x.1) h).symm hk | exact (congrArg (fun x => x.2.2) h).symm
theorem fYawn_e {N N' : mN} {x k v : Int32} (h : fYawn N x = (k, v, N')) (hk : ¬ k = 0) : N' = N := by
  unfold fYawn at h
  repeat' split at h
  all_goals first | exact absurd (congrArg (fun x => x.1) h).symm hk | exact (congrArg (fun x => x.2.2) h).symm
theorem fAppeal_e {N N' : mN} {x k v : Int32} (h : fAppeal N x = (k, v, N')) (hk : ¬ k = 0) : N' = N := by
  unfold fAppeal at h
  repeat' split at h
  all_goals first | exact absurd (congrArg (fun x => x.1) h).symm hk | exact (congrArg (fun x => x.2.2) h).symm
theorem fPass_e {N N' : mN} {x k v : Int32} (h : fPass N x = (k, v, N')) (hk : ¬ k = 0) : N' = N := by
  unfold fPass at h
  repeat' split at h
  all_goals first | exact absurd (congrArg (fun x => x.1) h).symm hk | exact (congrArg (fun x => x.2.2) h).symm
theorem fNight_e {N N' : mN} {x k v : Int32} (h : fNight N x = (k, v, N')) (hk : ¬ k = 0) : N' = N := by
  unfold fNight at h
  repeat' split at h
  all_goals first | exact absurd (congrArg (fun x => x.1) h).symm hk | exact (congrArg (fun x => x.2.2) h).symm
theorem fNight_n {N N' : mN} {x k v : Int32} (h : fNight N x = (k, v, N')) : N' = N := by
  unfold fNight at h
  repeat' split at h
  all_goals exact (congrArg (fun x => x.2.2) h).symm
theorem fRevoke_v {N N' : mN} {x y v : Int32} (h : fRevoke N x y = (0, v, N')) : v = 0 ∨ v = 1 := by
  unfold fRevoke at h
  repeat' split at h
  all_goals first | exact absurd (congrArg (fun x => x.1) h) (by decide) | exact Or.inl (congrArg (fun x => x.2.1) h).symm | exact Or.inr (congrArg (fun x => x.2.1) h).symm
theorem fAppeal_v {N N' : mN} {x v : Int32} (h : fAppeal N x = (0, v, N')) : v = 0 ∨ v = 1 := by
  unfold fAppeal at h
  repeat' split at h
  all_goals first | exact absurd (congrArg (fun x => x.1) h) (by decide) | exact Or.inl (congrArg (fun x => x.2.1) h).symm | exact Or.inr (congrArg (fun x => x.2.1) h).symm
/-- one call, of the class, then of the reference -/
theorem LI_go {N : mN} (J : LJ g a0 a1 a2 Y S M) (R : RC 99 N Y S) (RR : RV N Y S) {F : mT} (hF : ∀ k v N', F = (k, v, N') → ¬ k = 0 → N' = N) {VX : (Int32 → mM → Prop) → Option Nat → mM → Prop} (hD : ∀ {Y : mY} {S : mS} {M : mM}, vN g N Y S Y S M → ∀ {κ' : Int32 → mM → Prop}, (∀ k v N' Y' S' M', F = (k, v, N') → vN g N' Y S Y' S' M' → sI S' 20 0 0 = k → NI N' → κ' v M') → VX κ' (some (yA Y 20 0)) M) {κ : Int32 → Int32 → mM → Prop} {κL : Int32 → mM → Prop} (hL : ∀ n M9, (m_rc M9 (some a1) 19 fun b15 => VX (fun x13 M14 => κ n x13 M14) (some b15) M9) → κL n M9) (h : ∀ n v Y' S' M', LI g a0 a1 a2 Y' S' M' → sI S' 20 0 0 = n → (n = 0 → sJ S' 31 0 0 = Int32.toInt64 v) → κ n v M') : (∀ c, ¬ c = 0 → F.1 = c → κL c M) ∧ ∀ v N' Y' S' M', F = (0, v, N') → cX g N' Y S Y' S' M' → m_p M' (some a2) 14 0 (.long (Int32.toInt64 v)) (fun M4 => κL 0 M4) := by
  have rv : ∀ {Y : mY} {S : mS} {M : mM}, LJ g a0 a1 a2 Y S M → ∀ {κ' : Int32 → mM → Prop}, VX κ' (some (yA Y 20 0)) M → m_rc M (some a1) 19 fun b15 => VX κ' (some b15) M := fun J' κ' hh => by
    rw [← J'.2.2.2.2.2.2.1]
    exact s_rc J'.1.1 J'.1.2.1.x0 rfl rfl hh
  refine ⟨fun c hc e => hL c M (rv J (hD ⟨J.1, mFm.rf Y S, RR⟩ (fun k v N' Y' S' M' eF P e3 K => ?_))), fun v N' Y1 S1 M1 eF P => ?_⟩
  · have ek : k = c := by rw [← e, eF]
    have hk : ¬ k = 0 := by rw [ek]; exact hc
    have eN := hF k v N' eF hk
    rw [eN] at P K
    exact h c v Y' S' M' (LI.n J R P K) (e3.trans ek) (fun z => absurd z hc)
  · have J1 := J.c P.1 P.2.1 P.2.2.1 P.2.2.2.1
    refine oJ J1 (fun S2 M2 H2 eJ a2' => hL 0 M2 ?_)
    have J2 := J1.o H2 a2'
    have F1 := P.2.2.2.1
    have R2 : RC 99 N' Y1 S2 := P.2.2.2.2.TT (fun k hk => ⟨rfl, fun i => a2' k i (by omega)⟩)
    have V2 : RV N Y1 S2 := (RR.TT (fun k h1 _ => F1.2.2 k h1)).TT (fun k _ h2 => ⟨rfl, fun i => a2' k i h2⟩)
    refine rv J2 (hD ⟨J2.1, mFm.rf Y1 S2, V2⟩ (fun k w N2 Y3 S3 M3 e' P' e3 K => ?_))
    have e2 := e'.symm.trans eF
    have ek : k = 0 := congrArg (fun x => x.1) e2
    have ew : w = v := congrArg (fun x => x.2.1) e2
    have eN : N2 = N' := congrArg (fun x => x.2.2) e2
    rw [eN] at P' K
    rw [ew]
    exact h 0 v Y3 S3 M3 (LI.n J2 R2 P' K) (e3.trans ek) (fun _ => (congrFun ((P'.2.1.2.2 31 (Or.inr (Or.inl rfl))).2 0).2.1 0).trans eJ)
theorem WV_land (I : LI g a0 a1 a2 Y S M) {x y z : Int32} {κ : Int32 → Int32 → mM → Prop} {κL : Int32 → mM → Prop} (hL : ∀ n M9, (m_rc M9 (some a1) 19 fun b15 => wX14_land (fun x13 M14 => κ n x13 M14) (some b15) x y z M9) → κL n M9) (h : ∀ n v Y' S' M', LI g a0 a1 a2 Y' S' M' → sI S' 20 0 0 = n → (n = 0 → sJ S' 31 0 0 = Int32.toInt64 v) → κ n v M') : wL_land κL (some a0) x y z (some a2) M := by
  obtain ⟨J, N, R, V, K⟩ := I
  have B := nB_of J.1 V
  obtain ⟨bad, ok⟩ := LI_go J R V (F := fLand N x y z) (fun _ _ _ e hk => fLand_e e hk) (VX := fun κ' b M' => wX14_land κ' b x y z M') (fun P _ hh => D_land P (fun k v N1 Y1 S1 M1 e P1 e3 => hh k v N1 Y1 S1 M1 e P1 e3 (NI.land K e))) hL h
  rw [← J.2.2.2.2.2.1]
  exact s_rc J.1.1 J.2.1.x0 rfl rfl (C_land J.1.1 J.2.1 J.2.2.1 R (fun z => Or.inl ⟨rfl, bad 1 (by decide) z⟩) (fun z => Or.inr ⟨rfl, bad 2 (by decide) z⟩) (fun v N1 Y1 S1 M1 e P1 => ok v N1 Y1 S1 M1 e P1))
theorem WV_trade (I : LI g a0 a1 a2 Y S M) {x y z : Int32} {κ : Int32 → Int32 → mM → Prop} {κL : Int32 → mM → Prop} (hL : ∀ n M9, (m_rc M9 (some a1) 19 fun b15 => wX14_trade (fun x13 M14 => κ n x13 M14) (some b15) x y z M9) → κL n M9) (h : ∀ n v Y' S' M', LI g a0 a1 a2 Y' S' M' → sI S' 20 0 0 = n → (n = 0 → sJ S' 31 0 0 = Int32.toInt64 v) → κ n v M') : wL_trade κL (some a0) x y z (some a2) M := by
  obtain ⟨J, N, R, V, K⟩ := I
  have B := nB_of J.1 V
  obtain ⟨bad, ok⟩ := LI_go J R V (F := fTrade N x y z) (fun _ _ _ e hk => fTrade_e e hk) (VX := fun κ' b M' => wX14_trade κ' b x y z M') (fun P _ hh => D_trade P (fun k v N1 Y1 S1 M1 e P1 e3 => hh k v N1 Y1 S1 M1 e P1 e3 (NI.trade K e))) hL h
  rw [← J.2.2.2.2.2.1]
  exact s_rc J.1.1 J.2.1.x0 rfl rfl (C_trade J.1.1 J.2.1 J.2.2.1 R (fun z => Or.inl ⟨rfl, bad 1 (by decide) z⟩) (fun z => Or.inr (Or.inl ⟨rfl, bad 2 (by decide) z⟩)) (fun z => Or.inr (Or.inr ⟨rfl, bad 3 (by decide) z⟩)) (fun v N1 Y1 S1 M1 e P1 => ok v N1 Y1 S1 M1 e P1))
theorem WV_gate (I : LI g a0 a1 a2 Y S M) {x y z u : Int32} {κ : Int32 → Int32 → mM → Prop} {κL : Int32 → mM → Prop} (hL : ∀ n M9, (m_rc M9 (some a1) 19 fun b15 => wX14_gate g (fun x13 M14 => κ n x13 M14) (some b15) x y z u M9) → κL n M9) (h : ∀ n v Y' S' M', LI g a0 a1 a2 Y' S' M' → sI S' 20 0 0 = n → (n = 0 → sJ S' 31 0 0 = Int32.toInt64 v) → κ n v M') : wL_gate g κL (some a0) x y z u (some a2) M := by
  obtain ⟨J, N, R, V, K⟩ := I
  have B := nB_of J.1 V
  obtain ⟨bad, ok⟩ := LI_go J R V (F := fGate N x y z u) (fun _ _ _ e hk => fGate_e e hk) (VX := fun κ' b M' => wX14_gate g κ' b x y z u M') (fun P _ hh => D_gate P (fun k v N1 Y1 S1 M1 e P1 e3 => hh k v N1 Y1 S1 M1 e P1 e3 (NI.gate B K e))) hL h
  rw [← J.2.2.2.2.2.1]
  exact s_rc J.1.1 J.2.1.x0 rfl rfl (C_gate J.1.1 J.2.1 J.2.2.1 R (fun z => Or.inl ⟨rfl, bad 1 (by decide) z⟩) (fun z => Or.inr (Or.inl ⟨rfl, bad 2 (by decide) z⟩)) (fun z => Or.inr (Or.inr ⟨rfl, bad 3 (by decide) z⟩)) (fun v N1 Y1 S1 M1 e P1 => ok v N1 Y1 S1 M1 e P1))
theorem WV_odds (I : LI g a0 a1 a2 Y S M) {x y : Int32} {κ : Int32 → Int32 → mM → Prop} {κL : Int32 → mM → Prop} (hL : ∀ n M9, (m_rc M9 (some a1) 19 fun b15 => wX14_odds (fun x13 M14 => κ n x13 M14) (some b15) x y M9) → κL n M9) (h : ∀ n v Y' S' M', LI g a0 a1 a2 Y' S' M' → sI S' 20 0 0 = n → (n = 0 → sJ S' 31 0 0 = Int32.toInt64 v) → κ n v M') : wL_odds κL (some a0) x y (some a2) M := by
  obtain ⟨J, N, R, V, K⟩ := I
  have B := nB_of J.1 V
  obtain ⟨bad, ok⟩ := LI_go J R V (F := fOdds N x y) (fun _ _ _ e hk => fOdds_e e hk) (VX := fun κ' b M' => wX14_odds κ' b x y M') (fun P _ hh => D_odds P (fun k v N1 Y1 S1 M1 e P1 e3 => hh k v N1 Y1 S1 M1 e P1 e3 (NI.odds K e))) hL h
  rw [← J.2.2.2.2.2.1]
  exact s_rc J.1.1 J.2.1.x0 rfl rfl (C_odds J.1.1 J.2.1 J.2.2.1 R (fun z => Or.inl ⟨rfl, bad 1 (by decide) z⟩) (fun z => Or.inr ⟨rfl, bad 2 (by decide) z⟩) (fun v N1 Y1 S1 M1 e P1 => ok v N1 Y1 S1 M1 e P1))
theorem WV_relieve (I : LI g a0 a1 a2 Y S M) {x : Int32} {κ : Int32 → Int32 → mM → Prop} {κL : Int32 → mM → Prop} (hL : ∀ n M9, (m_rc M9 (some a1) 19 fun b15 => wX14_relieve (fun x13 M14 => κ n x13 M14) (some b15) x M9) → κL n M9) (h : ∀ n v Y' S' M', LI g a0 a1 a2 Y' S' M' → sI S' 20 0 0 = n → (n = 0 → sJ S' 31 0 0 = Int32.toInt64 v) → κ n v M') : wL_relieve κL (some a0) x (some a2) M := by
  obtain ⟨J, N, R, V, K⟩ := I
  have B := nB_of J.1 V
  obtain ⟨bad, ok⟩ := LI_go J R V (F := fRelieve N x) (fun _ _ _ e hk => fRelieve_e e hk) (VX := fun κ' b M' => wX14_relieve κ' b x M') (fun P _ hh => D_relieve P (fun k v N1 Y1 S1 M1 e P1 e3 => hh k v N1 Y1 S1 M1 e P1 e3 (NI.relieve K e))) hL h
  rw [← J.2.2.2.2.2.1]
  exact s_rc J.1.1 J.2.1.x0 rfl rfl (C_relieve J.1.1 J.2.1 J.2.2.1 R (fun z => ⟨rfl, bad 1 (by decide) z⟩) (fun v N1 Y1 S1 M1 e P1 => ok v N1 Y1 S1 M1 e P1))
theorem WV_sleeper (I : LI g a0 a1 a2 Y S M) {x y z : Int32} (hb : y = 0 ∨ y = 1) {κ : Int32 → Int32 → mM → Prop} {κL : Int32 → mM → Prop} (hL : ∀ n M9, (m_rc M9 (some a1) 19 fun b15 => wX14_sleeper g (fun x13 M14 => κ n x13 M14) (some b15) x y z M9) → κL n M9) (h : ∀ n v Y' S' M', LI g a0 a1 a2 Y' S' M' → sI S' 20 0 0 = n → (n = 0 → sJ S' 31 0 0 = Int32.toInt64 v) → κ n v M') : wL_sleeper g κL (some a0) x y z (some a2) M := by
  obtain ⟨J, N, R, V, K⟩ := I
  have B := nB_of J.1 V
  obtain ⟨bad, ok⟩ := LI_go J R V (F := fSleeper N x y z) (fun _ _ _ e hk => fSleeper_e e hk) (VX := fun κ' b M' => wX14_sleeper g κ' b x y z M') (fun P _ hh => D_sleeper P hb (fun k v N1 Y1 S1 M1 e P1 e3 => hh k v N1 Y1 S1 M1 e P1 e3 (NI.sleeper B K e))) hL h
  rw [← J.2.2.2.2.2.1]
  exact s_rc J.1.1 J.2.1.x0 rfl rfl (C_sleeper J.1.1 J.2.1 J.2.2.1 R hb (fun z => Or.inl ⟨rfl, bad 1 (by decide) z⟩) (fun z => Or.inr (Or.inl ⟨rfl, bad 2 (by decide) z⟩)) (fun z => Or.inr (Or.inr ⟨rfl, bad 3 (by decide) z⟩)) (fun v N1 Y1 S1 M1 e P1 => ok v N1 Y1 S1 M1 e P1))
theorem WV_part (I : LI g a0 a1 a2 Y S M) {x y z u : Int32} {κ : Int32 → Int32 → mM → Prop} {κL : Int32 → mM → Prop} (hL : ∀ n M9, (m_rc M9 (some a1) 19 fun b15 => wX14_part g (fun x13 M14 => κ n x13 M14) (some b15) x y z u M9) → κL n M9) (h : ∀ n v Y' S' M', LI g a0 a1 a2 Y' S' M' → sI S' 20 0 0 = n → (n = 0 → sJ S' 31 0 0 = Int32.toInt64 v) → κ n v M') : wL_part g κL (some a0) x y z u (some a2) M := by
  obtain ⟨J, N, R, V, K⟩ := I
  have B := nB_of J.1 V
  obtain ⟨bad, ok⟩ := LI_go J R V (F := fPart N x y z u) (fun _ _ _ e hk => fPart_e e hk) (VX := fun κ' b M' => wX14_part g κ' b x y z u M') (fun P _ hh => D_part P (fun k v N1 Y1 S1 M1 e P1 e3 => hh k v N1 Y1 S1 M1 e P1 e3 (NI.part B K e))) hL h
  rw [← J.2.2.2.2.2.1]
  exact s_rc J.1.1 J.2.1.x0 rfl rfl (C_part J.1.1 J.2.1 J.2.2.1 R (fun z => Or.inl ⟨rfl, bad 1 (by decide) z⟩) (fun z => Or.inr (Or.inl ⟨rfl, bad 2 (by decide) z⟩)) (fun z => Or.inr (Or.inr ⟨rfl, bad 3 (by decide) z⟩)) (fun v N1 Y1 S1 M1 e P1 => ok v N1 Y1 S1 M1 e P1))
theorem WV_give (I : LI g a0 a1 a2 Y S M) {x y : Int32} {κ : Int32 → Int32 → mM → Prop} {κL : Int32 → mM → Prop} (hL : ∀ n M9, (m_rc M9 (some a1) 19 fun b15 => wX14_give (fun x13 M14 => κ n x13 M14) (some b15) x y M9) → κL n M9) (h : ∀ n v Y' S' M', LI g a0 a1 a2 Y' S' M' → sI S' 20 0 0 = n → (n = 0 → sJ S' 31 0 0 = Int32.toInt64 v) → κ n v M') : wL_give κL (some a0) x y (some a2) M := by
  obtain ⟨J, N, R, V, K⟩ := I
  have B := nB_of J.1 V
  obtain ⟨bad, ok⟩ := LI_go J R V (F := fGive N x y) (fun _ _ _ e hk => fGive_e e hk) (VX := fun κ' b M' => wX14_give κ' b x y M') (fun P _ hh => D_give P (fun k v N1 Y1 S1 M1 e P1 e3 => hh k v N1 Y1 S1 M1 e P1 e3 (NI.give B K e))) hL h
  rw [← J.2.2.2.2.2.1]
  exact s_rc J.1.1 J.2.1.x0 rfl rfl (C_give J.1.1 J.2.1 J.2.2.1 R (fun z => Or.inl ⟨rfl, bad 1 (by decide) z⟩) (fun z => Or.inr ⟨rfl, bad 2 (by decide) z⟩) (fun v N1 Y1 S1 M1 e P1 => ok v N1 Y1 S1 M1 e P1))
theorem WV_sing (I : LI g a0 a1 a2 Y S M) {x y z u : Int32} {κ : Int32 → Int32 → mM → Prop} {κL : Int32 → mM → Prop} (hL : ∀ n M9, (m_rc M9 (some a1) 19 fun b15 => wX14_sing (fun x13 M14 => κ n x13 M14) (some b15) x y z u M9) → κL n M9) (h : ∀ n v Y' S' M', LI g a0 a1 a2 Y' S' M' → sI S' 20 0 0 = n → (n = 0 → sJ S' 31 0 0 = Int32.toInt64 v) → κ n v M') : wL_sing κL (some a0) x y z u (some a2) M := by
  obtain ⟨J, N, R, V, K⟩ := I
  have B := nB_of J.1 V
  obtain ⟨bad, ok⟩ := LI_go J R V (F := fSing N x y z u) (fun _ _ _ e hk => fSing_e e hk) (VX := fun κ' b M' => wX14_sing κ' b x y z u M') (fun P _ hh => D_sing P (fun k v N1 Y1 S1 M1 e P1 e3 => hh k v N1 Y1 S1 M1 e P1 e3 (NI.sing K e))) hL h
  rw [← J.2.2.2.2.2.1]
  exact s_rc J.1.1 J.2.1.x0 rfl rfl (C_sing J.1.1 J.2.1 J.2.2.1 R (fun z => Or.inl ⟨rfl, bad 1 (by decide) z⟩) (fun z => Or.inr ⟨rfl, bad 2 (by decide) z⟩) (fun v N1 Y1 S1 M1 e P1 => ok v N1 Y1 S1 M1 e P1))
theorem WV_revoke (I : LI g a0 a1 a2 Y S M) {x y : Int32} {κ : Int32 → Int32 → mM → Prop} {κL : Int32 → mM → Prop} (hL : ∀ n M9, (m_rc M9 (some a1) 19 fun b15 => wX14_revoke (fun x13 M14 => κ n x13 M14) (some b15) x y M9) → κL n M9) (h : ∀ n v Y' S' M', LI g a0 a1 a2 Y' S' M' → sI S' 20 0 0 = n → (n = 0 → sJ S' 31 0 0 = Int32.toInt64 v) → κ n v M') : wL_revoke κL (some a0) x y (some a2) M := by
  obtain ⟨J, N, R, V, K⟩ := I
  have B := nB_of J.1 V
  obtain ⟨bad, ok⟩ := LI_go J R V (F := fRevoke N x y) (fun _ _ _ e hk => fRevoke_e e hk) (VX := fun κ' b M' => wX14_revoke κ' b x y M') (fun P _ hh => D_revoke P (fun k v N1 Y1 S1 M1 e P1 e3 => hh k v N1 Y1 S1 M1 e P1 e3 (NI.revoke K e))) hL h
  rw [← J.2.2.2.2.2.1]
  exact s_rc J.1.1 J.2.1.x0 rfl rfl (C_revoke J.1.1 J.2.1 J.2.2.1 R (fun z => Or.inl ⟨rfl, bad 1 (by decide) z⟩) (fun z => Or.inr ⟨rfl, bad 2 (by decide) z⟩) (fun v N1 Y1 S1 M1 e P1 => (fRevoke_v e).elim (fun q => br_t q (by have w := ok v N1 Y1 S1 M1 e P1; rw [q, show Int32.toInt64 0 = 0 from by decide] at w; exact w)) (fun q => br_f (by rw [q]; decide) (by have w := ok v N1 Y1 S1 M1 e P1; rw [q, show Int32.toInt64 1 = 1 from by decide] at w; exact w))))
theorem WV_join (I : LI g a0 a1 a2 Y S M) {x y z : Int32} {κ : Int32 → Int32 → mM → Prop} {κL : Int32 → mM → Prop} (hL : ∀ n M9, (m_rc M9 (some a1) 19 fun b15 => wX14_join g (fun x13 M14 => κ n x13 M14) (some b15) x y z M9) → κL n M9) (h : ∀ n v Y' S' M', LI g a0 a1 a2 Y' S' M' → sI S' 20 0 0 = n → (n = 0 → sJ S' 31 0 0 = Int32.toInt64 v) → κ n v M') : wL_join g κL (some a0) x y z (some a2) M := by
  obtain ⟨J, N, R, V, K⟩ := I
  have B := nB_of J.1 V
  obtain ⟨bad, ok⟩ := LI_go J R V (F := fJoin N x y z) (fun _ _ _ e hk => fJoin_e e hk) (VX := fun κ' b M' => wX14_join g κ' b x y z M') (fun P _ hh => D_join P K.2.2.2.1 (fun k v N1 Y1 S1 M1 e P1 e3 => hh k v N1 Y1 S1 M1 e P1 e3 (NI.join B K e))) hL h
  rw [← J.2.2.2.2.2.1]
  exact s_rc J.1.1 J.2.1.x0 rfl rfl (C_join J.1.1 J.2.1 J.2.2.1 R (fun z => Or.inl ⟨rfl, bad 1 (by decide) z⟩) (fun z => Or.inr (Or.inl ⟨rfl, bad 2 (by decide) z⟩)) (fun z => Or.inr (Or.inr ⟨rfl, bad 3 (by decide) z⟩)) (fun v N1 Y1 S1 M1 e P1 => ok v N1 Y1 S1 M1 e P1))
theorem WV_leave (I : LI g a0 a1 a2 Y S M) {x : Int32} {κ : Int32 → Int32 → mM → Prop} {κL : Int32 → mM → Prop} (hL : ∀ n M9, (m_rc M9 (some a1) 19 fun b15 => wX14_leave (fun x13 M14 => κ n x13 M14) (some b15) x M9) → κL n M9) (h : ∀ n v Y' S' M', LI g a0 a1 a2 Y' S' M' → sI S' 20 0 0 = n → (n = 0 → sJ S' 31 0 0 = Int32.toInt64 v) → κ n v M') : wL_leave κL (some a0) x (some a2) M := by
  obtain ⟨J, N, R, V, K⟩ := I
  have B := nB_of J.1 V
  obtain ⟨bad, ok⟩ := LI_go J R V (F := fLeave N x) (fun _ _ _ e hk => fLeave_e e hk) (VX := fun κ' b M' => wX14_leave κ' b x M') (fun P _ hh => D_leave P (fun k v N1 Y1 S1 M1 e P1 e3 => hh k v N1 Y1 S1 M1 e P1 e3 (NI.leave B K e))) hL h
  rw [← J.2.2.2.2.2.1]
  exact s_rc J.1.1 J.2.1.x0 rfl rfl (C_leave J.1.1 J.2.1 J.2.2.1 R V J.1.2.2.2.1 (fun z => Or.inl ⟨rfl, bad 1 (by decide) z⟩) (fun z => Or.inr ⟨rfl, bad 2 (by decide) z⟩) (fun v N1 Y1 S1 M1 e P1 => ok v N1 Y1 S1 M1 e P1))
theorem WV_yawn (I : LI g a0 a1 a2 Y S M) {x : Int32} {κ : Int32 → Int32 → mM → Prop} {κL : Int32 → mM → Prop} (hL : ∀ n M9, (m_rc M9 (some a1) 19 fun b15 => wX14_yawn g (fun x13 M14 => κ n x13 M14) (some b15) x M9) → κL n M9) (h : ∀ n v Y' S' M', LI g a0 a1 a2 Y' S' M' → sI S' 20 0 0 = n → (n = 0 → sJ S' 31 0 0 = Int32.toInt64 v) → κ n v M') : wL_yawn g κL (some a0) x (some a2) M := by
  obtain ⟨J, N, R, V, K⟩ := I
  have B := nB_of J.1 V
  obtain ⟨bad, ok⟩ := LI_go J R V (F := fYawn N x) (fun _ _ _ e hk => fYawn_e e hk) (VX := fun κ' b M' => wX14_yawn g κ' b x M') (fun P _ hh => D_yawn P K (fun k v N1 Y1 S1 M1 e P1 e3 K1 => hh k v N1 Y1 S1 M1 e P1 e3 K1)) hL h
  rw [← J.2.2.2.2.2.1]
  exact s_rc J.1.1 J.2.1.x0 rfl rfl (C_yawn J.1.1 J.2.1 J.2.2.1 R B K (fun z => Or.inl ⟨rfl, bad 1 (by decide) z⟩) (fun z => Or.inr ⟨rfl, bad 2 (by decide) z⟩) (fun v N1 Y1 S1 M1 e P1 => ok v N1 Y1 S1 M1 e P1))
theorem WV_appeal (I : LI g a0 a1 a2 Y S M) {x : Int32} {κ : Int32 → Int32 → mM → Prop} {κL : Int32 → mM → Prop} (hL : ∀ n M9, (m_rc M9 (some a1) 19 fun b15 => wX14_appeal (fun x13 M14 => κ n x13 M14) (some b15) x M9) → κL n M9) (h : ∀ n v Y' S' M', LI g a0 a1 a2 Y' S' M' → sI S' 20 0 0 = n → (n = 0 → sJ S' 31 0 0 = Int32.toInt64 v) → κ n v M') : wL_appeal κL (some a0) x (some a2) M := by
  obtain ⟨J, N, R, V, K⟩ := I
  have B := nB_of J.1 V
  obtain ⟨bad, ok⟩ := LI_go J R V (F := fAppeal N x) (fun _ _ _ e hk => fAppeal_e e hk) (VX := fun κ' b M' => wX14_appeal κ' b x M') (fun P _ hh => D_appeal P (fun k v N1 Y1 S1 M1 e P1 e3 => hh k v N1 Y1 S1 M1 e P1 e3 (NI.appeal B K e))) hL h
  rw [← J.2.2.2.2.2.1]
  exact s_rc J.1.1 J.2.1.x0 rfl rfl (C_appeal J.1.1 J.2.1 J.2.2.1 R V J.1.2.2.1 J.1.2.1 (fun z => Or.inl ⟨rfl, bad 1 (by decide) z⟩) (fun z => Or.inr ⟨rfl, bad 2 (by decide) z⟩) (fun v N1 Y1 S1 M1 e P1 => (fAppeal_v e).elim (fun q => br_t q (by have w := ok v N1 Y1 S1 M1 e P1; rw [q, show Int32.toInt64 0 = 0 from by decide] at w; exact w)) (fun q => br_f (by rw [q]; decide) (by have w := ok v N1 Y1 S1 M1 e P1; rw [q, show Int32.toInt64 1 = 1 from by decide] at w; exact w))))
theorem WV_pass (I : LI g a0 a1 a2 Y S M) {x : Int32} {κ : Int32 → Int32 → mM → Prop} {κL : Int32 → mM → Prop} (hL : ∀ n M9, (m_rc M9 (some a1) 19 fun b15 => wX14_pass (fun x13 M14 => κ n x13 M14) (some b15) x M9) → κL n M9) (h : ∀ n v Y' S' M', LI g a0 a1 a2 Y' S' M' → sI S' 20 0 0 = n → (n = 0 → sJ S' 31 0 0 = Int32.toInt64 v) → κ n v M') : wL_pass κL (some a0) x (some a2) M := by
  obtain ⟨J, N, R, V, K⟩ := I
  have B := nB_of J.1 V
  obtain ⟨bad, ok⟩ := LI_go J R V (F := fPass N x) (fun _ _ _ e hk => fPass_e e hk) (VX := fun κ' b M' => wX14_pass κ' b x M') (fun P _ hh => D_pass P (fun k v N1 Y1 S1 M1 e P1 e3 => hh k v N1 Y1 S1 M1 e P1 e3 (NI.pass B K e))) hL h
  rw [← J.2.2.2.2.2.1]
  exact s_rc J.1.1 J.2.1.x0 rfl rfl (C_pass J.1.1 J.2.1 J.2.2.1 R (fun z => Or.inl ⟨rfl, bad 1 (by decide) z⟩) (fun z => Or.inr ⟨rfl, bad 2 (by decide) z⟩) (fun v N1 Y1 S1 M1 e P1 => ok v N1 Y1 S1 M1 e P1))
theorem WV_night (I : LI g a0 a1 a2 Y S M) {x : Int32} {κ : Int32 → Int32 → mM → Prop} {κL : Int32 → mM → Prop} (hL : ∀ n M9, (m_rc M9 (some a1) 19 fun b15 => wX14_night (fun x13 M14 => κ n x13 M14) (some b15) x M9) → κL n M9) (h : ∀ n v Y' S' M', LI g a0 a1 a2 Y' S' M' → sI S' 20 0 0 = n → (n = 0 → sJ S' 31 0 0 = Int32.toInt64 v) → κ n v M') : wL_night κL (some a0) x (some a2) M := by
  obtain ⟨J, N, R, V, K⟩ := I
  have B := nB_of J.1 V
  obtain ⟨bad, ok⟩ := LI_go J R V (F := fNight N x) (fun _ _ _ e hk => fNight_e e hk) (VX := fun κ' b M' => wX14_night κ' b x M') (fun P _ hh => D_night P (fun k v N1 Y1 S1 M1 e P1 e3 => hh k v N1 Y1 S1 M1 e P1 e3 (by rw [fNight_n e]; exact K))) hL h
  rw [← J.2.2.2.2.2.1]
  exact s_rc J.1.1 J.2.1.x0 rfl rfl (C_night J.1.1 J.2.1 J.2.2.1 R (fun z => ⟨rfl, bad 1 (by decide) z⟩) (fun v N1 Y1 S1 M1 e P1 => ok v N1 Y1 S1 M1 e P1))
/-- an answer is compared -/
theorem law_cmp (I : LI g a0 a1 a2 Y S M) {n v : Int32} (e : sI S 20 0 0 = n) (eJ : n = 0 → sJ S 31 0 0 = Int32.toInt64 v) {A B C : mM → Prop} (hA : A M) : m_rc M (some a1) 19 fun b18 => wX14_thrown (fun x16 M17 => ((x16 = n → ((n = 0 → m_gJ M17 (some a2) 14 0 fun x21 => (((lg_cmp x21 (Int32.toInt64 v)) = 0 → A M17) ∧ (¬ ((lg_cmp x21 (Int32.toInt64 v)) = 0) → B M17))) ∧ (¬ (n = 0) → A M17))) ∧ (¬ (x16 = n) → C M17))) (some b18) M := by
  have e1 := I.1.2.2.2.2.2.2.1
  have e2 := I.1.2.2.2.2.2.2.2
  rw [← e1]
  refine s_rc I.1.1.1 I.1.1.2.1.x0 rfl rfl (v_thrown I.1.1.1 I.1.1.2.1 (br_t e ⟨fun hn => ?_, fun _ => hA⟩))
  rw [← e2]
  refine s_gJ I.1.1.1 I.1.2.2.2.2.1 rfl rfl rfl ?_
  rw [eJ hn]
  exact br_t (lg_s _) hA
set_option maxRecDepth 20000 in
theorem law_l {sb L : Nat} {xs : Nat → Int32} (hL : L ≤ 2560) {κ : Int32 → mM → Prop} (h : ∀ M, κ 1 M) : ∀ (d i k9 n9 : Nat) (Y : mY) (S : mS) (M : mM), LI g a0 a1 a2 Y S M → L < 5 * (i + d) + 5 → k9 ≤ 42 + 161 * i → n9 ≤ 1796 + 12996 * i → i ≤ 512 → wL_law_27 sb L xs g κ (d + 1) k9 n9 (some sb) (some a0) (some a1) (some a2) (nI (5 * i)) M := by
  have stop : ∀ (f i k9 n9 : Nat) (M : mM), L < 5 * i + 5 → k9 ≤ 42 + 161 * i → n9 ≤ 1796 + 12996 * i → i ≤ 512 → wL_law_27 sb L xs g κ (f + 1) k9 n9 (some sb) (some a0) (some a1) (some a2) (nI (5 * i)) M := by
    intro f i k9 n9 M hi hk hn h512
    rw [wL_law_27]
    refine ⟨⟨by omega, by omega⟩, rfl, br_t ?_ ⟨⟨by omega, by omega⟩, h M⟩⟩
    rw [Int32.lt_iff_toInt_lt, nI_toInt (by omega), show (5 : Int32) = nI 5 from rfl, show Int32.ofNat L = nI L from rfl, I_sub (by omega) (by rw [nI_toInt (by omega)]; omega) (by rw [nI_toInt (by omega)]; omega), nI_toInt (by omega)]
    omega
  intro d
  induction d with
  | zero =>
    intro i k9 n9 Y S M I hi hk hn h512
    exact stop 0 i k9 n9 M (by omega) hk hn h512
  | succ d ih =>
    intro i k9 n9 Y S M I hi hk hn h512
    by_cases zs : L < 5 * i + 5
    · exact stop (d + 1) i k9 n9 M zs hk hn h512
    have i511 : i ≤ 511 := by omega
    have kb : 42 + 161 * (i + 1) ≤ 601024 := by omega
    have nb : 1796 + 12996 * (i + 1) ≤ 7293034 := Nat.le_trans (Nat.add_le_add_left (Nat.mul_le_mul_left 12996 (show i + 1 ≤ 512 by omega)) 1796) (by decide)
    have hN : n9 + 12996 ≤ 1796 + 12996 * (i + 1) := by
      have e : 12996 * (i + 1) = 12996 * i + 12996 := Nat.mul_succ _ _
      rw [e, ← Nat.add_assoc]
      exact Nat.add_le_add_right hn 12996
    have hY : n9 + 1260 + 11736 ≤ 1796 + 12996 * (i + 1) := by
      rw [Nat.add_assoc]
      exact hN
    have sl : ∀ (c : Nat) {κ' : Int32 → Prop}, c < 5 → κ' (xs (5 * i + c)) → m_sld (some sb) sb L xs (nI (5 * i) + nI c) κ' := fun c κ' hc hh => ⟨rfl, by rw [nI_add]; exact vp_in_nI (by omega) (by omega), by rw [nI_add, nI_clamp (by omega)]; exact hh⟩
    have s1 : ∀ {κ' : Int32 → Prop}, κ' (xs (5 * i + 1)) → m_sld (some sb) sb L xs (nI (5 * i) + 1) κ' := sl 1 (by omega)
    have s2 : ∀ {κ' : Int32 → Prop}, κ' (xs (5 * i + 2)) → m_sld (some sb) sb L xs (nI (5 * i) + 2) κ' := sl 2 (by omega)
    have s3 : ∀ {κ' : Int32 → Prop}, κ' (xs (5 * i + 3)) → m_sld (some sb) sb L xs (nI (5 * i) + 3) κ' := sl 3 (by omega)
    have s4 : ∀ {κ' : Int32 → Prop}, κ' (xs (5 * i + 4)) → m_sld (some sb) sb L xs (nI (5 * i) + 4) κ' := sl 4 (by omega)
    have nxt : ∀ k9' n9' Y' S' M', LI g a0 a1 a2 Y' S' M' → k9' ≤ 42 + 161 * (i + 1) → n9' ≤ 1796 + 12996 * (i + 1) → wL_law_1259 sb L xs g κ (wL_law_27 sb L xs g κ (d + 1)) k9' n9' (some sb) (some a0) (some a1) (some a2) (nI (5 * i)) M' := fun k9' n9' Y' S' M' I' hk' hn' => by
      refine ⟨⟨Nat.le_trans hk' kb, Nat.le_trans hn' nb⟩, ?_⟩
      rw [show (5 : Int32) = nI 5 from rfl, nI_add, show 5 * i + 5 = 5 * (i + 1) by omega]
      exact ih (i + 1) k9' n9' Y' S' M' I' (by omega) hk' hn' (by omega)
    rw [wL_law_27]
    refine ⟨⟨by omega, by omega⟩, rfl, br_f ?_ ⟨rfl, vp_in_nI (by omega) (by omega), ?_⟩⟩
    · rw [Int32.lt_iff_toInt_lt, nI_toInt (by omega), show (5 : Int32) = nI 5 from rfl, show Int32.ofNat L = nI L from rfl, I_sub (by omega) (by rw [nI_toInt (by omega)]; omega) (by rw [nI_toInt (by omega)]; omega), nI_toInt (by omega)]
      omega
    rw [nI_clamp (by omega)]
    refine br_c (fun _ => ?_) (fun _ => ?_)
    · exact s1 (s2 (s3 ⟨⟨by omega, by omega⟩, WV_land I (fun n M9 hh => s1 (s2 (s3 hh))) (fun n v Y2 S2 M2 I2 e eJ => nxt _ _ Y2 S2 M2 I2 (by omega) (by omega))⟩))
    refine br_c (fun _ => ?_) (fun _ => ?_)
    · exact s1 (s2 (s3 ⟨⟨by omega, by omega⟩, WV_trade I (fun n M9 hh => s1 (s2 (s3 hh))) (fun n v Y2 S2 M2 I2 e eJ => nxt _ _ Y2 S2 M2 I2 (by omega) (by omega))⟩))
    refine br_c (fun _ => ?_) (fun _ => ?_)
    · exact s1 (s2 (s3 (s4 ⟨⟨by omega, by omega⟩, WV_gate I (fun n M9 hh => s1 (s2 (s3 (s4 ⟨⟨by omega, by omega⟩, hh⟩)))) (fun n v Y2 S2 M2 I2 e eJ => nxt _ _ Y2 S2 M2 I2 (by omega) (by omega))⟩)))
    refine br_c (fun _ => ?_) (fun _ => ?_)
    · exact s1 (s2 ⟨⟨by omega, by omega⟩, WV_odds I (fun n M9 hh => s1 (s2 hh)) (fun n v Y2 S2 M2 I2 e eJ => nxt _ _ Y2 S2 M2 I2 (by omega) (by omega))⟩)
    refine br_c (fun _ => ?_) (fun _ => ?_)
    · exact s1 (⟨⟨by omega, by omega⟩, WV_relieve I (fun n M9 hh => s1 (hh)) (fun n v Y2 S2 M2 I2 e eJ => nxt _ _ Y2 S2 M2 I2 (by omega) (by omega))⟩)
    refine br_c (fun _ => ?_) (fun _ => ?_)
    · have i450 : ∀ b, (b = if xs (5 * i + 2) = 0 then (0 : Int32) else 1) → wL_law_421 sb L xs g κ (wL_law_27 sb L xs g κ (d + 1)) k9 n9 (some sb) (some a0) (some a1) (some a2) (nI (5 * i)) b (xs (5 * i + 1)) (some a0) M := fun b hb => by
        have hb01 : b = 0 ∨ b = 1 := by rw [hb]; split <;> simp
        refine ⟨⟨by omega, by omega⟩, s3 ⟨⟨by omega, by omega⟩, ?_⟩⟩
        refine WV_sleeper I hb01 (κ := fun n v M33 => wL_law_1259 sb L xs g κ (wL_law_27 sb L xs g κ (d + 1)) (k9 + 5 + 2) (n9 + 42 + 24) (some sb) (some a0) (some a1) (some a2) (nI (5 * i)) M33) (fun n M9 hh => s1 (s2 (br_c (fun z => ?_) (fun z => ?_)))) (fun n v Y2 S2 M2 I2 e eJ => nxt _ _ Y2 S2 M2 I2 (by omega) (by omega))
        · rw [hb, if_pos z] at hh
          exact ⟨⟨by omega, by omega⟩, s3 ⟨⟨by omega, by omega⟩, hh⟩⟩
        · rw [hb, if_neg z] at hh
          exact ⟨⟨by omega, by omega⟩, s3 ⟨⟨by omega, by omega⟩, hh⟩⟩
      exact s1 (s2 (br_c (fun z => i450 0 (if_pos z).symm) (fun z => i450 1 (if_neg z).symm)))
    refine br_c (fun _ => ?_) (fun _ => ?_)
    · exact s1 (s2 (s3 (s4 (⟨⟨by omega, by omega⟩, WV_part I (fun n M9 hh => s1 (s2 (s3 (s4 (⟨⟨by omega, by omega⟩, hh⟩))))) (fun n v Y2 S2 M2 I2 e eJ => nxt _ _ Y2 S2 M2 I2 (by omega) (by omega))⟩))))
    refine br_c (fun _ => ?_) (fun _ => ?_)
    · exact s1 (s2 (⟨⟨by omega, by omega⟩, WV_give I (fun n M9 hh => s1 (s2 (hh))) (fun n v Y2 S2 M2 I2 e eJ => nxt _ _ Y2 S2 M2 I2 (by omega) (by omega))⟩))
    refine br_c (fun _ => ?_) (fun _ => ?_)
    · exact s1 (s2 (s3 (s4 (⟨⟨by omega, by omega⟩, WV_sing I (fun n M9 hh => s1 (s2 (s3 (s4 (hh))))) (fun n v Y2 S2 M2 I2 e eJ => nxt _ _ Y2 S2 M2 I2 (by omega) (by omega))⟩))))
    refine br_c (fun _ => ?_) (fun _ => ?_)
    · exact s1 (s2 (⟨⟨by omega, by omega⟩, WV_revoke I (fun n M9 hh => s1 (s2 (hh))) (fun n v Y2 S2 M2 I2 e eJ => nxt _ _ Y2 S2 M2 I2 (by omega) (by omega))⟩))
    refine br_c (fun _ => ?_) (fun _ => ?_)
    · exact s1 (s2 (s3 (⟨⟨by omega, by omega⟩, WV_join I (fun n M9 hh => s1 (s2 (s3 (⟨⟨by omega, by omega⟩, hh⟩)))) (fun n v Y2 S2 M2 I2 e eJ => nxt _ _ Y2 S2 M2 I2 (by omega) (by omega))⟩)))
    refine br_c (fun _ => ?_) (fun _ => ?_)
    · exact s1 (⟨⟨by omega, by omega⟩, WV_leave I (fun n M9 hh => s1 (hh)) (fun n v Y2 S2 M2 I2 e eJ => nxt _ _ Y2 S2 M2 I2 (by omega) (by omega))⟩)
    refine br_c (fun _ => ?_) (fun _ => ?_)
    · exact s1 (⟨⟨by omega, by omega⟩, WV_yawn I (fun n M9 hh => s1 (⟨⟨by omega, Nat.le_trans hY nb⟩, hh⟩)) (fun n v Y2 S2 M2 I2 e eJ => nxt _ _ Y2 S2 M2 I2 (by omega) hY)⟩)
    refine br_c (fun _ => ?_) (fun _ => ?_)
    · exact s1 (⟨⟨by omega, by omega⟩, WV_appeal I (fun n M9 hh => s1 (hh)) (fun n v Y2 S2 M2 I2 e eJ => nxt _ _ Y2 S2 M2 I2 (by omega) (by omega))⟩)
    refine br_c (fun _ => ?_) (fun _ => ?_)
    · exact s1 ⟨⟨by omega, by omega⟩, WV_pass I (fun n M9 hh => s1 ⟨⟨by omega, by omega⟩, hh⟩) (fun n v Y2 S2 M2 I2 e eJ => nxt _ _ Y2 S2 M2 I2 (by omega) (by omega))⟩
    refine br_c (fun _ => ?_) (fun _ => ?_)
    · exact s1 (s2 (⟨⟨by omega, by omega⟩, W_ofLand I (fun _ Y1 S1 M1 I1 => s1 (s2 (V_ofLand I1 (fun _ Y2 S2 M2 I2 => nxt _ _ Y2 S2 M2 I2 (by omega) (by omega)))))⟩))
    refine br_c (fun _ => ?_) (fun _ => ?_)
    · exact s1 (s2 (⟨⟨by omega, by omega⟩, W_ofGate I (fun _ Y1 S1 M1 I1 => s1 (s2 (V_ofGate I1 (fun _ Y2 S2 M2 I2 => nxt _ _ Y2 S2 M2 I2 (by omega) (by omega)))))⟩))
    refine br_c (fun _ => ?_) (fun _ => ?_)
    · exact s1 (s2 (⟨⟨by omega, by omega⟩, W_ofSleeper I (fun _ Y1 S1 M1 I1 => s1 (s2 (V_ofSleeper I1 (fun _ Y2 S2 M2 I2 => nxt _ _ Y2 S2 M2 I2 (by omega) (by omega)))))⟩))
    refine br_c (fun _ => ?_) (fun _ => ?_)
    · exact s1 (s2 (⟨⟨by omega, by omega⟩, W_ofPart I (fun _ Y1 S1 M1 I1 => s1 (s2 (V_ofPart I1 (fun _ Y2 S2 M2 I2 => nxt _ _ Y2 S2 M2 I2 (by omega) (by omega)))))⟩))
    refine br_c (fun _ => ?_) (fun _ => ?_)
    · exact s1 (s2 (⟨⟨by omega, by omega⟩, W_isGood I (fun _ Y1 S1 M1 I1 => s1 (s2 (V_isGood I1 (fun _ Y2 S2 M2 I2 => nxt _ _ Y2 S2 M2 I2 (by omega) (by omega)))))⟩))
    refine br_c (fun _ => ?_) (fun _ => ?_)
    · exact s1 (⟨⟨by omega, by omega⟩, W_queue I (fun _ Y1 S1 M1 I1 => s1 (⟨⟨by omega, by omega⟩, V_queue I1 (fun _ Y2 S2 M2 I2 => nxt _ _ Y2 S2 M2 I2 (by omega) (by omega))⟩))⟩)
    refine br_c (fun _ => ?_) (fun _ => ?_)
    · exact s1 (⟨⟨by omega, by omega⟩, WV_night I (fun n M9 hh => s1 (⟨⟨by omega, by omega⟩, hh⟩)) (fun n v Y2 S2 M2 I2 e eJ => law_cmp I2 e eJ (show wL_law_1122 sb L xs g κ (wL_law_27 sb L xs g κ (d + 1)) _ _ (some sb) (some a0) (some a1) (some a2) (nI (5 * i)) M2 from ⟨⟨by omega, by omega⟩, nxt _ _ Y2 S2 M2 I2 (by omega) (by omega)⟩))⟩)
    refine br_c (fun _ => ?_) (fun _ => ?_)
    · exact s1 (s2 (⟨⟨by omega, by omega⟩, W_way I (fun _ Y1 S1 M1 I1 => s1 (s2 (V_way I1 (fun _ Y2 S2 M2 I2 => nxt _ _ Y2 S2 M2 I2 (by omega) (by omega)))))⟩))
    refine br_c (fun _ => ?_) (fun _ => ?_)
    · exact s1 (s2 (⟨⟨by omega, by omega⟩, W_plan I (fun _ Y1 S1 M1 I1 => s1 (s2 (⟨⟨by omega, by omega⟩, V_plan I1 (fun _ Y2 S2 M2 I2 => nxt _ _ Y2 S2 M2 I2 (by omega) (by omega))⟩)))⟩))
    refine br_c (fun _ => ?_) (fun _ => ?_)
    · exact s1 (⟨⟨by omega, by omega⟩, W_wouldPay I (fun _ Y1 S1 M1 I1 => s1 (V_wouldPay I1 (fun _ Y2 S2 M2 I2 => nxt _ _ Y2 S2 M2 I2 (by omega) (by omega))))⟩)
    refine br_c (fun _ => ?_) (fun _ => ?_)
    · exact W_isSound I (fun _ => ⟨⟨by omega, by omega⟩, V_isSound I (fun _ Y2 S2 M2 I2 => nxt _ _ Y2 S2 M2 I2 (by omega) (by omega))⟩)
    refine br_c (fun _ => ?_) (fun _ => ?_)
    · exact W_digest I (fun _ S1 M1 I1 => ⟨⟨by omega, by omega⟩, V_digest I1 (fun _ Y2 S2 M2 I2 => nxt _ _ Y2 S2 M2 I2 (by omega) (by omega))⟩)
    exact nxt _ _ Y S M I (by omega) (by omega)
set_option maxRecDepth 20000 in
/-- the law, from a memory of what may not be written -/
theorem law_p {sb L : Nat} {xs : Nat → Int32} (hL : L ≤ 2560) (H : mR g Y S M) (K : mKs g Y S) (hz : ∀ k, k < 30 → yn Y k = 0) (h31 : yn Y 31 = 0) (hb : yn Y 30 = 128 ∧ yn Y 33 = 1) (hc : (∀ v, v < 128 → sI S 30 v 0 = nI v) ∧ sC S 33 0 = 256 ∧ ∀ v, v < 128 → sP S 33 0 (128 + v) = some (yA Y 30 v)) {κ : Int32 → mM → Prop} (h : ∀ M, κ 1 M) : wL_law sb L xs g κ (some sb) M := by
  refine ⟨⟨by omega, by omega⟩, r_new (fun q1 M2 hq h2 o2 => ⟨⟨by omega, by omega⟩, ?_⟩)⟩
  have F1 := H.fr hq
  have H2 := H.off F1 o2
  refine r_rc h2 (c_init H2 F1 h2 (fun k hk => hz k (by omega)) (fun Y1 S1 M3 H3 W Q F R7 C7 ea => ⟨⟨by omega, by omega⟩, r_new (fun q5 M6 hq5 h6 o6 => ⟨⟨by omega, by omega⟩, ?_⟩)⟩))
  have F5 := H3.fr hq5
  have H6 := H3.off F5 o6
  have n := fun k (hk : 20 ≤ k) => F.2.2 k hk
  refine r_rc h6 (v_init H6 F5 h6 (fun k h1 h2 => (n k h1).1.trans (hz k h2)) ⟨(n 30 (by omega)).1.trans hb.1, (n 33 (by omega)).1.trans hb.2⟩ ⟨fun v hv => (congrFun ((n 30 (by omega)).2 v).1 0).trans (hc.1 v hv), (((n 33 (by omega)).2 0).2.2.2.2.2.2.1).trans hc.2.1, fun v hv => ?_⟩ (fun Y2 S2 M7 I7 G R8 C8 eb => ⟨⟨by omega, by omega⟩, r_new (fun q9 M10 hq9 h10 o10 => ?_)⟩))
  · rw [congrFun ((n 33 (by omega)).2 0).2.2.2.2.2.2.2.2 (128 + v), hc.2.2 v hv, F.1 30 v (by omega)]
  have F9 := I7.1.fr hq9
  have H10 := I7.1.off F9 o10
  refine r_rc h10 ⟨q9, rfl, ?_⟩
  have aw : ∀ k, k < 20 → yn Y2 k = yn Y1 k ∧ ∀ i, mEq S2 S1 k i := fun k hk => G.2.2 k (Or.inl hk)
  have W2 := W.TT aw G.1
  have Q2 := Q.TT aw
  have K2 : mKs g Y2 S2 := (K.Fc F).Fm G
  have y31 : yn Y2 31 = 0 := (G.2.2 31 (Or.inr (Or.inl rfl))).1.trans ((n 31 (by omega)).1.trans h31)
  obtain ⟨Y3, S3, H11, A⟩ := H10.alloc2 (k := 31) F9 (fun _ => 0) (fun _ => 0) (fun _ => none) (fun _ => 0) [] 0 rfl (by decide) (by decide) (fun z => absurd z (by decide)) h10 (fun f t' ht' => by
    rcases f with _ | _ | f <;> cases ht' <;> exact ⟨fun z => absurd z (by decide), fun z => absurd z (by decide), fun z => absurd z (by decide), fun z => absurd z (by decide)⟩)
  obtain ⟨x1, x2, x3, x4, x5, -⟩ := A
  rw [y31] at x4
  have av : ∀ k, 20 ≤ k → k ≠ 31 → yn Y3 k = yn Y2 k ∧ ∀ i, mEq S3 S2 k i := fun k _ h2 => ⟨x3 k h2, fun i => x5 k i (by omega)⟩
  have ac : ∀ k, k < 20 → yn Y3 k = yn Y2 k ∧ ∀ i, mEq S3 S2 k i := fun k h => ⟨x3 k (by omega), fun i => x5 k i (by omega)⟩
  obtain ⟨_, V, VV, VQ, VT⟩ := I7
  have I : LI g q1 q5 q9 Y3 S3 M10 := ⟨⟨⟨H11, V.TT av x1, VV.TT av, VQ.TT av, VT.TT av⟩, W2.TT ac x1, Q2.TT ac, K2.E (fun k h1 h2 => ⟨x3 k (by omega), fun i => x5 k i (by omega)⟩) x1, by rw [x2]; omega, (x1 0 0 W2.x0).trans ((G.1 0 0 W.x0).trans ea), (x1 20 0 V.x0).trans eb, x4⟩, N0, ((RC0 W R7 C7).TT aw).TT ac, (RV0 V R8 C8).TT av, NI0⟩
  · exact ⟨L + 1, law_l hL h L 0 _ _ Y3 S3 M10 I (by omega) (by omega) (by omega) (by omega)⟩
end LAWP
