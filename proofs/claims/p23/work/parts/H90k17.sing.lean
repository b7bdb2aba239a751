/-! THE SIMULATION, 8: songs of both -/
/-- something new has come, and all else is as it was -/
theorem RC.al {x : Nat} {N : mN} {g : Nat → Nat} {Y : mY} {S : mS} {M : mM} {Y1 : mY} {S1 : mS} (h : RC x N Y S) (H : mR g Y S M) (W : mWs Y S) (n : ∀ k, k ≤ 7 → yn Y1 k = yn Y k) (m : ∀ k i, i < yn Y k → mEq S1 S k i) : RC x N Y1 S1 := by
  have n3 := n 3 (by omega)
  have n4 := n 4 (by omega)
  have n5 := n 5 (by omega)
  have n6 := n 6 (by omega)
  have hX := @mR.lX g Y S M H
  obtain ⟨h1, h2, h3, h4, h5, h6, h7, h8, h9, h10⟩ := h
  refine ⟨by rw [n3, n4, n5]; exact h1, fun k1 i1 f1 k1' f1' hm1 hi hx => ?_, fun t ht => ?_, fun s hs => ?_, fun s hs hx => ?_, fun s hs => ?_, fun s hs => ?_, fun p hp => ?_, fun t v ht hv => ?_, by rw [n6]; exact h10.1, fun i1 hi => ?_⟩
  · rw [n k1 (by have := cM_d hm1; omega)] at hi
    exact (congrFun (m k1 i1 hi).1 f1).trans (h2 k1 i1 f1 k1' f1' hm1 hi hx)
  · rw [n3] at ht
    rw [congrFun (m 3 t ht).2.2.2.1 1, congrFun (m 3 t ht).2.2.2.1 2, (m 13 t (W.l13 ht)).2.2.2.2.1]
    exact h3 t ht
  · rw [n4] at hs
    rw [congrFun (m 4 s hs).2.2.2.1 2]
    exact h4 s hs
  · rw [n4] at hs
    rw [congrFun (m 4 s hs).2.2.1 5]
    exact h5 s hs hx
  · rw [n4] at hs
    rw [congrFun (m 4 s hs).2.2.1 5, congrFun (m 4 s hs).1 6]
    exact h6 s hs
  · rw [n4] at hs
    rw [congrFun (m 4 s hs).2.2.1 7]
    refine ⟨(h7 s hs).1, fun p hp => ?_⟩
    have hp16 := hX (k := 4) (f := 7) (kt := 16) hs rfl p hp
    rw [congrFun (m 16 p hp16).2.2.2.1 0, congrFun (m 16 p hp16).1 1, congrFun (m 16 p hp16).1 2]
    exact (h7 s hs).2 p hp
  · rw [n5] at hp
    rw [congrFun (m 5 p hp).2.2.1 5, congrFun (m 5 p hp).2.2.1 6, congrFun (m 5 p hp).2.2.1 7]
    exact h8 p hp
  · rw [n3] at ht
    rw [congrFun (m 10 t (W.l10 ht)).2.1 0, congrFun (m 10 t (W.l10 ht)).2.1 1, congrFun (m 11 t (W.l11 ht)).2.1 0, congrFun (m 11 t (W.l11 ht)).2.1 1]
    exact h9 t v ht hv
  · rw [n6] at hi
    rw [congrFun (m 6 i1 hi).2.2.2.1 0, congrFun (m 6 i1 hi).1 1, congrFun (m 6 i1 hi).1 2]
    exact h10.2 i1 hi
/-- a pass is given -/
theorem RC.pass {x : Nat} {N : mN} {Y : mY} {S : mS} (h : RC x N Y S) {s p : Nat} (hv : ¬ sI S 16 p 2 = -1) : RC x (nU (nU (nU N 28 s 6 (nI (sN S 16 p 0))) 28 s 7 (sI S 16 p 1)) 28 s 8 (sI S 16 p 2)) Y (uX S 4 s 7 (some p)) := by
  obtain ⟨h1, h2, h3, h4, h5, h6, h7, h8, h9, h10⟩ := h
  have e : ∀ k i f, ¬ (k = 28 ∧ i = s ∧ 6 ≤ f ∧ f ≤ 8) → nv (nU (nU (nU N 28 s 6 (nI (sN S 16 p 0))) 28 s 7 (sI S 16 p 1)) 28 s 8 (sI S 16 p 2)) k i f = nv N k i f := fun k i f z => by rw [nv_U (by omega), nv_U (by omega), nv_U (by omega)]
  have eX : ∀ k i f, ¬ (k = 4 ∧ i = s ∧ f = 7) → sX (uX S 4 s 7 (some p)) k i f = sX S k i f := fun k i f z => sX_uX z
  refine ⟨h1, fun k1 i1 f1 k1' f1' hm1 hi hx => ?_, fun t ht => ?_, fun s' hs => ?_, fun s' hs hx => ?_, fun s' hs => ?_, fun s' hs => ?_, fun p' hp => ?_, h9, h10⟩
  · rw [e k1' i1 f1' (by have := cM_d hm1; omega)]
    exact h2 k1 i1 f1 k1' f1' hm1 hi hx
  · rw [e 23 t 0 (by omega), e 23 t 1 (by omega)]
    exact h3 t ht
  · rw [e 28 s' 0 (by omega)]
    exact h4 s' hs
  · rw [e 28 s' 4 (by omega), eX 4 s' 5 (by omega)]
    exact h5 s' hs hx
  · rw [e 28 s' 5 (by omega), eX 4 s' 5 (by omega)]
    exact h6 s' hs
  · by_cases z : s' = s
    · subst z
      have e6 : nv (nU (nU (nU N 28 s' 6 (nI (sN S 16 p 0))) 28 s' 7 (sI S 16 p 1)) 28 s' 8 (sI S 16 p 2)) 28 s' 6 = nI (sN S 16 p 0) := by rw [nv_U (by omega), nv_U (by omega), nv_U_s]
      have e7 : nv (nU (nU (nU N 28 s' 6 (nI (sN S 16 p 0))) 28 s' 7 (sI S 16 p 1)) 28 s' 8 (sI S 16 p 2)) 28 s' 7 = sI S 16 p 1 := by rw [nv_U (by omega), nv_U_s]
      rw [sX_uX_s]
      refine ⟨fun w => absurd w (fun q => by cases q), fun p' hp => ?_⟩
      cases hp
      exact ⟨e6, e7, nv_U_s, hv⟩
    · rw [eX 4 s' 7 (by omega), e 28 s' 6 (by omega), e 28 s' 7 (by omega), e 28 s' 8 (by omega)]
      exact h7 s' hs
  · rw [e 29 p' 4 (by omega), e 29 p' 5 (by omega), eX 5 p' 5 (by omega), eX 5 p' 6 (by omega), eX 5 p' 7 (by omega)]
    exact h8 p' hp
section SIM8
variable {g : Nat → Nat} {Y : mY} {S : mS} {M : mM} {N : mN}
theorem C_sing (H : mR g Y S M) (W : mWs Y S) (Q : mWq Y S) (R : RC 99 N Y S) {a b n v : Int32} {κ : Int32 → mM → Prop} {ξ : String → mM → Prop} (hx1 : (fSing N a b n v).1 = 1 → ξ "java/lang/IndexOutOfBoundsException" M) (hx2 : (fSing N a b n v).1 = 2 → ξ "java/lang/IllegalArgumentException" M)
    (h : ∀ w N' Y' S' M', fSing N a b n v = (0, w, N') → cX g N' Y S Y' S' M' → κ w M') : wX8_sing κ ξ (some (yA Y 0 0)) a b n v M := by
  have hb := W.2.1
  unfold fSing at hx1 hx2 h
  rw [← R.1.1, ← R.1.2.1, ← R.2.1 0 0 8 20 1 rfl W.x0 (by omega)] at hx1 hx2 h
  refine s_rc H W.x0 rfl rfl (c_sleeperN H W (fun s hs es => s_rc H W.x0 rfl rfl (c_gateN H W (fun t ht et => ?_) (fun z => hx1 (by rw [if_pos (fun w => z w.2)])))) (fun z => hx1 (by rw [if_pos (fun w => z w.1)])))
  have hv : (¬ a < 0 ∧ a < nI (yn Y 4)) ∧ (¬ b < 0 ∧ b < nI (yn Y 3)) := ⟨by rw [es]; exact m_in hs (by omega), by rw [et]; exact m_in ht (by omega)⟩
  have t1 : tN a = s := by rw [es]; exact tN_nI (by omega)
  rw [if_neg (fun w => w hv)] at hx2 h
  rw [t1] at h
  have hn : ¬ ((¬ n < sI S 0 0 8 ∧ n ≤ 99) ∧ (¬ v < 0 ∧ v ≤ 96)) → ξ "java/lang/IllegalArgumentException" M := fun z => hx2 (by rw [if_pos z])
  refine s_gI H W.x0 rfl rfl rfl (c_range H (fun r1 r2 => c_range H (fun r3 r4 => ?_) (fun z => hn (fun w => z w.2))) (fun z => hn (fun w => z w.1)))
  rw [if_neg (fun w => w ⟨⟨r1, r2⟩, ⟨r3, r4⟩⟩)] at h
  refine r_new (fun q M1 hq h1 o1 => r_rc h1 ⟨q, rfl, r_p h1 (by simp) (fun M2 h2 o2 => r_p h2 (by simp) (fun M3 h3 o3 => r_p h3 (by simp) (fun M4 h4 o4 => ?_)))⟩)
  have hF := H.fr hq
  have H4 : mR g Y S M4 := H.off hF (fun q' z => (o4 q' z).trans ((o3 q' z).trans ((o2 q' z).trans (o1 q' z))))
  obtain ⟨Y1, S1, H5, A⟩ := H4.alloc2 (k := 16) hF (fun f => match f with | 1 => n | _ => v) (fun _ => 0) (fun _ => none) (fun _ => t) [] 0 rfl (by decide) (by decide) (fun z => absurd z (by decide)) h4 (fun f t' ht' => by
    rcases f with _ | _ | _ | f
    · cases ht'; exact ⟨fun _ => Nat.lt_of_lt_of_le ht aY_le, fun z => absurd z (by decide), fun z => absurd z (by decide), fun z => absurd z (by decide)⟩
    · cases ht'; exact ⟨fun z => absurd z (by decide), fun z => absurd z (by decide), fun z => absurd z (by decide), fun z => absurd z (by decide)⟩
    · cases ht'; exact ⟨fun z => absurd z (by decide), fun z => absurd z (by decide), fun z => absurd z (by decide), fun z => absurd z (by decide)⟩
    · cases ht')
  have W1 := A.W16 W
  have Q1 := A.Q ⟨by omega, by omega, by omega⟩ Q
  have F1 := A.F (by omega)
  obtain ⟨a1, a2, a3, a4, a5, a6, a7, a8, a9, -⟩ := A
  have R1 : RC 99 N Y1 S1 := R.al H W (fun k hk => a3 k (by omega)) (fun k i hi => a5 k i (fun w => by rw [w.1] at hi; omega))
  have eg0 : ∀ s, s < yn Y 4 → sI S1 4 s 0 = nI s := fun s hs => (congrFun (a5 4 s (by omega)).1 0).trans (W.2.2.2.1.2.2.1 s hs)
  have eg1 : ∀ t, t < yn Y 3 → sI S1 3 t 0 = nI t := fun t ht => (congrFun (a5 3 t (by omega)).1 0).trans (W.2.2.2.1.2.1 t ht)
  have p0 : sN S1 16 (yn Y 16) 0 = t := congrFun a9 0
  have p1 : sI S1 16 (yn Y 16) 1 = n := congrFun a6 1
  have p2 : sI S1 16 (yn Y 16) 2 = v := congrFun a6 2
  have nv1 : ¬ sI S1 16 (yn Y 16) 2 = -1 := by
    rw [p2]
    exact fun w => r3 (by rw [w]; decide)
  have R2 := R1.pass (s := s) nv1
  rw [p0, p1, p2] at R2
  rw [← a4, ← a1 4 s hs, ← a1 3 t ht]
  have hs1 : s < yn Y1 4 := by rw [a3 4 (by omega)]; exact hs
  have ht1 : t < yn Y1 3 := by rw [a3 3 (by omega)]; exact ht
  refine s_pX1 H5 hs1 rfl rfl rfl (by rw [a2]; omega) (fun M5 H6 => s_gI H6 hs1 rfl rfl rfl (s_gI H6 ht1 rfl rfl rfl ?_))
  refine h _ _ _ _ M5 ?_ ⟨H6, W1.uX, Q1.uX (by omega), F1.tr (mFc.uX (by omega)), R2⟩
  rw [show sI (uX S1 4 s 7 (some (yn Y 16))) 4 s 0 = a from (eg0 s hs).trans es.symm, show sI (uX S1 4 s 7 (some (yn Y 16))) 3 t 0 = b from (eg1 t ht).trans et.symm, et]
theorem D_sing {Y0 : mY} {S0 : mS} (P : vN g N Y0 S0 Y S M) {a b n v : Int32} {κ : Int32 → mM → Prop} (h : ∀ k w N' Y' S' M', fSing N a b n v = (k, w, N') → vN g N' Y0 S0 Y' S' M' → sI S' 20 0 0 = k → κ w M') : wX14_sing κ (some (yA Y 20 0)) a b n v M := by
  unfold fSing at h
  rw [← P.2.2.1.1, ← P.2.2.1.2.1] at h
  refine n_th P (fun S1 M1 P1 e1 => ?_)
  have H := P1.1.1
  have V := P1.1.2.1
  have hbd := V.2.1
  have RR := P1.2.2.2.1
  have f1 : ¬ ((¬ a < 0 ∧ a < nI (yn Y 28)) ∧ (¬ b < 0 ∧ b < nI (yn Y 23))) → wX14_sing_21 κ (some (yA Y 20 0)) M1 := fun z => n_rf P1 (fun S2 M2 P2 e2 => h 1 0 N Y S2 M2 (by rw [if_pos z]) P2 e2)
  refine s_rc H V.x0 rfl rfl (v_isSleeper H V (fun s hs es => br_f (by decide) (s_rc H V.x0 rfl rfl (v_isGate H V (fun t ht et => br_f (by decide) ?_) (fun z => br_t rfl (f1 (fun w => z w.2)))))) (fun z => br_t rfl (f1 (fun w => z w.1))))
  have hv : (¬ a < 0 ∧ a < nI (yn Y 28)) ∧ (¬ b < 0 ∧ b < nI (yn Y 23)) := ⟨by rw [es]; exact m_in hs (by omega), by rw [et]; exact m_in ht (by omega)⟩
  have t1 : tN a = s := by rw [es]; exact tN_nI (by omega)
  rw [t1, if_neg (fun w => w hv)] at h
  have f2 : ¬ ((¬ n < nv N 20 0 1 ∧ n ≤ 99) ∧ (¬ v < 0 ∧ v ≤ 96)) → wX14_sing_51 κ (some (yA Y 20 0)) M1 := fun z => n_rf P1 (fun S2 M2 P2 e2 => h 2 0 N Y S2 M2 (by rw [if_pos z]) P2 e2)
  refine s_gI H V.x0 rfl rfl rfl ?_
  rw [RR 20 0 1 rfl V.x0]
  refine v_is (fun r1 r2 => br_f (by decide) (v_is (fun z w => br_f (by decide) ?_) (fun q => br_t rfl (f2 (fun w => q ⟨w.2.1, Int32.not_lt.mpr w.2.2⟩))))) (fun q => br_t rfl (f2 (fun w => q ⟨w.1.1, Int32.not_lt.mpr w.1.2⟩)))
  rw [if_neg (fun q => q ⟨⟨r1, Int32.not_lt.mp r2⟩, ⟨z, Int32.not_lt.mp w⟩⟩)] at h
  have hvj : ∃ j, j < 97 ∧ v = nI j := by
    obtain ⟨j, hj, e⟩ := nI_rg (n := 96) (by omega) z w
    exact ⟨j, by omega, e⟩
  subst es
  refine v_S H V hs (s_pI H hs rfl rfl rfl (fun M2 H2 => s_pI H2 hs rfl rfl rfl (fun M3 H3 => s_pI H3 hs rfl rfl rfl (fun M4 H4 => ?_))))
  exact h 0 _ _ Y _ M4 rfl (n_I (n_I (n_I P1 H2 trivial (by omega)) H3 trivial (by omega)) H4 (Or.inr hvj) (by omega)) (((sI_uI (by omega)).trans ((sI_uI (by omega)).trans (sI_uI (by omega)))).trans e1)
end SIM8
