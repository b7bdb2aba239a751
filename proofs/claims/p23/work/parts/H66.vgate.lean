/-! THE PURE SIDE, 17: the reference's gates -/
section VGATE
variable {g : Nat → Nat} {Y : mY} {S : mS} {M : mM}
theorem r_vgate {q : Nat} (h1 : M q = some (.inr (15, [.int 0, .int 0, .int 0, .int 0, .int 0, .int 0, .null, .null]))) {a b c d : Int32} {κ : mM → Prop} (h : ∀ M' q1 q7, M q1 = none → M q7 = none → q1 ≠ q7 → M' q = some (.inr (15, [.int a, .int b, .int c, .int d, .int 5, .int 0, .ref q1, .ref q7])) → M' q1 = some (jH 0 (g 0) 0) → M' q7 = some (.inl (1, 97, .inl (fun _ => 0))) → (∀ q', q' ≠ q → q' ≠ q1 → q' ≠ q7 → M' q' = M q') → κ M') : m_rc M (some q) 15 fun b25 => wX10_init g (fun M24 => m_p M24 (some q) 15 0 (.int a) fun M26 => m_p M26 (some q) 15 1 (.int b) fun M27 => m_p M27 (some q) 15 2 (.int c) fun M28 => m_p M28 (some q) 15 3 (.int d) κ) (some b25) M := by
  have some_ne : ∀ {M : mM} {a b : Nat} {e : mCe}, M a = some e → M b = none → a ≠ b := fun h1 h2 z => by rw [z, h2] at h1; cases h1
  refine r_rc h1 ⟨q, rfl, r_p h1 (by simp) (fun M2 h2 o2 => r_new (fun q1 M3 hq1 h3 o3 => r_linit h3 (fun M4 h4 o4 => ?_)))⟩
  have n1 : q ≠ q1 := some_ne h2 hq1
  have k4 := (o4 q n1).trans ((o3 q n1).trans h2)
  refine r_p k4 (by simp) (fun M5 h5 o5 => r_newI (N := 97) (by omega) (by omega) (fun q7 M6 hq7 h6 o6 => ?_))
  have n7 : q ≠ q7 := some_ne h5 hq7
  have l5 : M5 q1 = some (jH 0 (g 0) 0) := (o5 q1 n1.symm).trans h4
  have n17 : q1 ≠ q7 := some_ne l5 hq7
  have hq1' : M q1 = none := (o2 q1 n1.symm).symm.trans hq1
  have hq7' : M q7 = none := ((((o5 q7 n7.symm).trans (o4 q7 n17.symm)).trans (o3 q7 n17.symm)).trans (o2 q7 n7.symm)).symm.trans hq7
  refine r_p ((o6 q n7).trans h5) (by simp) (fun M7 h7 o7 => r_p h7 (by simp) (fun M8 h8 o8 => r_p h8 (by simp) (fun M9 h9 o9 => r_p h9 (by simp) (fun M10 h10 o10 => r_p h10 (by simp) (fun M11 h11 o11 => ?_)))))
  have o : ∀ q', q' ≠ q → M11 q' = M6 q' := fun q' z => (o11 q' z).trans ((o10 q' z).trans ((o9 q' z).trans ((o8 q' z).trans (o7 q' z))))
  exact h M11 q1 q7 hq1' hq7' n17 h11 ((o q1 n1.symm).trans ((o6 q1 n17).trans l5)) ((o q7 n7.symm).trans h6) (fun q' z1 z2 z3 => (o q' z1).trans ((o6 q' z3).trans ((o5 q' z1).trans ((o4 q' z2).trans ((o3 q' z2).trans (o2 q' z1))))))
theorem mR.allocZ (H : mR g Y S M) {q n : Nat} (hF : mFr Y S q) (h1 : M q = some (.inl (1, n, .inl (fun _ => 0)))) : ∃ Y1 S1, mR g Y1 S1 M ∧ mAl Y S 26 q (fun _ => 0) (fun _ => 0) (fun _ => none) (fun _ => 0) [] 0 Y1 S1 ∧ sC S1 26 (yn Y 26) = n := by
  have eC : sC (uO S 26 (yn Y 26) (fun _ => 0) (fun _ => 0) (fun _ => none) (fun _ => 0) [] 0 n (fun _ => 0) (fun _ => none)) 26 (yn Y 26) = n := if_pos ⟨rfl, rfl⟩
  have eE : sE (uO S 26 (yn Y 26) (fun _ => 0) (fun _ => 0) (fun _ => none) (fun _ => 0) [] 0 n (fun _ => 0) (fun _ => none)) 26 (yn Y 26) = (fun _ => 0) := if_pos ⟨rfl, rfl⟩
  have H2 := H.alloc (k := 26) hF (uO S 26 (yn Y 26) (fun _ => 0) (fun _ => 0) (fun _ => none) (fun _ => 0) [] 0 n (fun _ => 0) (fun _ => none)) (fun k' i' hi => mEq.uO (fun z => by obtain ⟨rfl, rfl⟩ := z; exact Nat.lt_irrefl _ hi)) (by
    rw [h1]
    show _ = some (Sum.inl (1, sC _ 26 (yn Y 26), Sum.inl (sE _ 26 (yn Y 26))))
    rw [eC, eE]) (fun z => absurd z (by decide)) (fun f t ht => by cases ht) (by decide) (by decide)
  exact ⟨_, _, H2, ⟨fun k' i' hi => aY_A hi, aY_n, fun k' z => aY_nn z, aY_q, fun k' i' z => mEq.uO z, if_pos ⟨rfl, rfl⟩, if_pos ⟨rfl, rfl⟩, if_pos ⟨rfl, rfl⟩, if_pos ⟨rfl, rfl⟩, if_pos ⟨rfl, rfl⟩, if_pos ⟨rfl, rfl⟩⟩, eC⟩
theorem mR.off3 (H : mR g Y S M) {q q1 q7 : Nat} (hF : mFr Y S q) (hF1 : mFr Y S q1) (hF7 : mFr Y S q7) {M' : mM} (ho : ∀ q', q' ≠ q → q' ≠ q1 → q' ≠ q7 → M' q' = M q') : mR g Y S M' := H.off4 hF hF1 hF7 hF7 (fun q' z1 z2 z3 _ => ho q' z1 z2 z3)
theorem v_gate (I : mVI g Y S M) {a b f hh : Int32} {κ : Int32 → mM → Prop} (h1 : ¬ ((¬ a < 0 ∧ a < 6) ∧ (¬ b < 0 ∧ b < 6)) → ∀ S' M', vP g Y S Y S' M' → sI S' 20 0 0 = 1 → κ 0 M') (h2 : ((¬ a < 0 ∧ a < 6) ∧ (¬ b < 0 ∧ b < 6)) → (a = b ∨ ¬ ((¬ f < 0 ∧ f ≤ 23) ∧ (¬ hh < 1 ∧ hh ≤ 24))) → ∀ S' M', vP g Y S Y S' M' → sI S' 20 0 0 = 2 → κ 0 M') (h3 : ((¬ a < 0 ∧ a < 6) ∧ (¬ b < 0 ∧ b < 6)) → ¬ a = b → ((¬ f < 0 ∧ f ≤ 23) ∧ (¬ hh < 1 ∧ hh ≤ 24)) → ¬ yn Y 23 < 8 → ∀ S' M', vP g Y S Y S' M' → sI S' 20 0 0 = 3 → κ 0 M')
    (h : ∀ Y' S' M', ((¬ a < 0 ∧ a < 6) ∧ (¬ b < 0 ∧ b < 6)) → ¬ a = b → ((¬ f < 0 ∧ f ≤ 23) ∧ (¬ hh < 1 ∧ hh ≤ 24)) → yn Y 23 < 8 → mVI g Y' S' M' → mFm Y S Y' S' → sI S' 20 0 0 = 0 → (∀ k i f, qV k f = true → ¬ (k = 23 ∧ i = yn Y 23) → sI S' k i f = sI S k i f) → sI S' 23 (yn Y 23) 4 = 5 → yn Y' 23 = yn Y 23 + 1 → yn Y' 28 = yn Y 28 → κ (nI (yn Y 23)) M') : wX14_gate g κ (some (yA Y 20 0)) a b f hh M := by
  refine v_th (vP.rf I) (fun S1 M1 P1 e1 _ => ?_)
  clear I
  have H := P1.1.1
  have V := P1.1.2.1
  have hbd := V.2.1
  have f1 : ¬ ((¬ a < 0 ∧ a < 6) ∧ (¬ b < 0 ∧ b < 6)) → wX14_gate_21 g κ (some (yA Y 20 0)) M1 := fun z => v_rf P1 (fun S2 M2 P2 e2 _ => h1 z S2 M2 P2 e2)
  have f2 : ((¬ a < 0 ∧ a < 6) ∧ (¬ b < 0 ∧ b < 6)) → (a = b ∨ ¬ ((¬ f < 0 ∧ f ≤ 23) ∧ (¬ hh < 1 ∧ hh ≤ 24))) → wX14_gate_53 g κ (some (yA Y 20 0)) M1 := fun z w => v_rf P1 (fun S2 M2 P2 e2 _ => h2 z w S2 M2 P2 e2)
  refine s_rc H V.x0 rfl rfl (v_isLand (fun l hl el => br_f (by decide) (s_rc H V.x0 rfl rfl (v_isLand (fun l' hl' el' => br_f (by decide) ?_) (fun z => br_t rfl (f1 (fun w => z w.2)))))) (fun z => br_t rfl (f1 (fun w => z w.1))))
  have va : ¬ a < 0 ∧ a < 6 := by rw [el]; exact m_in (n := 6) hl (by omega)
  have vb : ¬ b < 0 ∧ b < 6 := by rw [el']; exact m_in (n := 6) hl' (by omega)
  refine br_c (fun q => f2 ⟨va, vb⟩ (Or.inl q)) (fun nab => v_is (fun r1 r2 => br_f (by decide) (v_is (fun r3 r4 => br_f (by decide) ?_) (fun n => br_t rfl (f2 ⟨va, vb⟩ (Or.inr (fun q => n ⟨q.2.1, Int32.not_lt.mpr q.2.2⟩)))))) (fun n => br_t rfl (f2 ⟨va, vb⟩ (Or.inr (fun q => n ⟨q.1.1, Int32.not_lt.mpr q.1.2⟩)))))
  have hr : ((¬ f < 0 ∧ f ≤ 23) ∧ (¬ hh < 1 ∧ hh ≤ 24)) := ⟨⟨r1, Int32.not_lt.mp r2⟩, ⟨r3, Int32.not_lt.mp r4⟩⟩
  subst el
  subst el'
  refine s_gR6 H V.x0 rfl rfl rfl (s_rcL H rfl (V.l24 (by omega)) (v_szG H V (br_c (fun z => v_rf P1 (fun S2 M2 P2 e2 _ => h3 ⟨va, vb⟩ nab hr (fun w => absurd ((nI_eq (a := yn Y 23) (b := 8) (by omega) (by omega)).mp z) (by omega)) S2 M2 P2 e2)) (fun z => ?_))))
  have hn : yn Y 23 < 8 := by
    have : yn Y 23 ≠ 8 := fun e => z (by rw [e]; rfl)
    omega
  refine r_new (fun q M2 hq h2 o2 => r_vgate h2 (fun M3 q1 q7 f1 f7 n17 k0 k1 k7 o3 => ?_))
  have hF := H.fr hq
  have H2 : mR g Y S1 M2 := H.off hF o2
  have hg0 : yA Y 34 0 = g 0 := H.2.2.2.2.2.2.2.1
  have some_ne : ∀ {M : mM} {a b : Nat} {e : mCe}, M a = some e → M b = none → a ≠ b := fun h1 h2 z => by rw [z, h2] at h1; cases h1
  have F1 := H2.fr f1
  have F7 := H2.fr f7
  have nq1 : q ≠ q1 := some_ne h2 f1
  have nq7 : q ≠ q7 := some_ne h2 f7
  have H3 : mR g Y S1 M3 := H2.off3 hF F1 F7 o3
  have h34 : 0 < yn Y 34 := by rw [H.2.2.2.2.2.2.1]; omega
  have ne34 : ∀ {q : Nat}, mFr Y S1 q → g 0 ≠ q := fun hF => by rw [← hg0]; exact hF.1 34 0 h34
  obtain ⟨Ya, Sa, Ha, A⟩ := H3.alloc2 (k := 25) F1 (fun _ => 0) (fun _ => 0) (fun _ => none) (fun _ => 0) [] (g 0) rfl (by decide) (by decide) (fun _ => ⟨hg0.symm, rfl⟩) k1 (fun f t' ht' => by
    rcases f with _ | _ | _ | f <;> cases ht' <;> exact ⟨fun z => absurd z (by decide), fun z => absurd z (by decide), fun z => absurd z (by decide), fun z => absurd z (by decide)⟩)
  have A0 := A.fr hF nq1.symm (fun _ => ne34 hF)
  have A7 := A.fr F7 n17 (fun _ => ne34 F7)
  obtain ⟨Yc, Sc, Hc, C, cC⟩ := Ha.allocZ A7 k7
  have C0 := C.fr A0 nq7.symm (fun z => absurd z (by decide))
  have FA := A.Fm (by omega)
  have FC := C.Fm (by omega)
  obtain ⟨a1, a2, a3, a4, a5, -, -, -, -, a10, -⟩ := A
  obtain ⟨c1, c2, c3, c4, c5, -⟩ := C
  have hn25 : yn Y 25 = yn Y 23 := V.1.2.2.2.2.2.2.2.1
  have hn26 : yn Y 26 = yn Y 23 := V.1.2.2.2.2.2.2.2.2
  have m23 : yn Yc 23 = yn Y 23 := by rw [c3 23 (by omega), a3 23 (by omega)]
  have m25 : yn Yc 25 = yn Y 23 + 1 := by rw [c3 25 (by omega), a2, hn25]
  have m26 : yn Yc 26 = yn Y 23 + 1 := by rw [c2, a3 26 (by omega), hn26]
  have mo : ∀ k, k ≠ 25 → k ≠ 26 → yn Yc k = yn Y k := fun k z1 z2 => by rw [c3 k z2, a3 k z1]
  have ad25 : yA Yc 25 (yn Y 23) = q1 := by
    rw [c1 25 _ (by rw [a2, hn25]; omega), ← hn25, a4]
  have ad26 : yA Yc 26 (yn Y 23) = q7 := by
    have e : yn Ya 26 = yn Y 23 := by rw [a3 26 (by omega), hn26]
    rw [← e, c4]
  have eqs : ∀ k i, ¬ (k = 25 ∧ i = yn Y 23) → ¬ (k = 26 ∧ i = yn Y 23) → mEq Sc S1 k i := fun k i z1 z2 => (c5 k i (fun w => z2 ⟨w.1, by rw [w.2, a3 26 (by omega), hn26]⟩)).tr (a5 k i (fun w => z1 ⟨w.1, by rw [w.2, hn25]⟩))
  have l25 : sL Sc 25 (yn Y 23) = [] := by
    have e1 := (c5 25 (yn Y 23) (by omega)).2.2.2.2.1
    rw [e1, ← hn25, a10]
  have c26 : sC Sc 26 (yn Y 23) = 97 := by
    rw [a3 26 (by omega), hn26] at cC
    exact cC
  have Fc : mFm Y S1 Yc Sc := FA.tr FC
  clear a1 a2 a3 a4 a5 a10 c1 c2 c3 c4 c5 FA FC Ha A0 A7 cC
  obtain ⟨Y1, S2, H7, A⟩ := Hc.alloc2 (k := 23) C0 (fun i => match i with | 0 => nI l | 1 => nI l' | 2 => f | 3 => hh | 4 => 5 | _ => 0) (fun _ => 0) (fun _ => none) (fun _ => 0) [] 0 rfl (by decide) (by decide) (fun z => absurd z (by decide)) (by
      rw [k0, ← ad25, ← ad26, ← m23]
      rfl) (fun f t' ht' => by
    rcases f with _ | _ | _ | _ | _ | _ | _ | _ | f <;> cases ht'
    · exact ⟨fun z => absurd z (by decide), fun z => absurd z (by decide), fun z => absurd z (by decide), fun z => absurd z (by decide)⟩
    · exact ⟨fun z => absurd z (by decide), fun z => absurd z (by decide), fun z => absurd z (by decide), fun z => absurd z (by decide)⟩
    · exact ⟨fun z => absurd z (by decide), fun z => absurd z (by decide), fun z => absurd z (by decide), fun z => absurd z (by decide)⟩
    · exact ⟨fun z => absurd z (by decide), fun z => absurd z (by decide), fun z => absurd z (by decide), fun z => absurd z (by decide)⟩
    · exact ⟨fun z => absurd z (by decide), fun z => absurd z (by decide), fun z => absurd z (by decide), fun z => absurd z (by decide)⟩
    · exact ⟨fun z => absurd z (by decide), fun z => absurd z (by decide), fun z => absurd z (by decide), fun z => absurd z (by decide)⟩
    · exact ⟨fun z => absurd z (by decide), fun z => absurd z (by decide), fun z => absurd z (by decide), fun _ => (show yn Yc 23 < yn Yc 25 by omega)⟩
    · exact ⟨fun z => absurd z (by decide), fun z => absurd z (by decide), fun z => absurd z (by decide), fun _ => (show yn Yc 23 < yn Yc 26 by omega)⟩)
  have FF := Fc.tr (A.Fm (by omega))
  obtain ⟨a1, a2, a3, a4, a5, a6, -⟩ := A
  have n0 : ∀ k, k ≠ 23 → k ≠ 25 → k ≠ 26 → yn Y1 k = yn Y k := fun k z1 z2 z3 => by rw [a3 k z1, mo k z2 z3]
  have ad1 : ∀ k i, i < yn Y k → yA Y1 k i = yA Y k i := FF.1
  have eq1 : ∀ k i, ¬ (k = 25 ∧ i = yn Y 23) → ¬ (k = 26 ∧ i = yn Y 23) → ¬ (k = 23 ∧ i = yn Y 23) → mEq S2 S1 k i := fun k i z1 z2 z4 => (a5 k i (fun w => z4 ⟨w.1, by rw [w.2, m23]⟩)).tr (eqs k i z1 z2)
  have l25' : sL S2 25 (yn Y 23) = [] := ((a5 25 (yn Y 23) (by omega)).2.2.2.2.1).trans l25
  have c26' : sC S2 26 (yn Y 23) = 97 := ((a5 26 (yn Y 23) (by omega)).2.2.2.2.2.2.1).trans c26
  rw [m23] at a2 a4 a6
  rw [← a4, ← ad1 20 0 V.x0]
  have e20 : 0 < yn Y1 20 := by rw [n0 20 (by omega) (by omega) (by omega)]; exact V.x0
  have hn24 : 0 < yn Y1 24 := by rw [n0 24 (by omega) (by omega) (by omega)]; exact V.l24 (by omega)
  have e24 : sL S2 24 0 = List.range (yn Y 23) := ((eq1 24 0 (by omega) (by omega) (by omega)).2.2.2.2.1).trans V.2.2.1.1
  refine s_gR6 H7 e20 rfl rfl rfl (s_rcL H7 rfl hn24 (s_add (k := 24) (i := 0) (x := yn Y 23) (cap := 8) H7 rfl hn24 (show yn Y 23 < yn Y1 23 by omega) (by rw [e24, List.length_range]; exact hn) (by decide) (fun M7 md e H8 => ?_)))
  rw [e24] at H8
  have y20 := n0 20 (by omega) (by omega) (by omega); have y21 := n0 21 (by omega) (by omega) (by omega); have y22 := n0 22 (by omega) (by omega) (by omega); have y24 := n0 24 (by omega) (by omega) (by omega); have y27 := n0 27 (by omega) (by omega) (by omega); have y28 := n0 28 (by omega) (by omega) (by omega); have y29 := n0 29 (by omega) (by omega) (by omega); have y30 := n0 30 (by omega) (by omega) (by omega); have y33 := n0 33 (by omega) (by omega) (by omega)
  have y25 : yn Y1 25 = yn Y 23 + 1 := by rw [a3 25 (by omega), m25]
  have y26 : yn Y1 26 = yn Y 23 + 1 := by rw [a3 26 (by omega), m26]
  have hI : ∀ k i f, ¬ (k = 25 ∧ i = yn Y 23) → ¬ (k = 26 ∧ i = yn Y 23) → ¬ (k = 23 ∧ i = yn Y 23) → k ≠ 24 → sI (uL S2 24 0 md e (List.range (yn Y 23) ++ [yn Y 23])) k i f = sI S1 k i f := fun k i f z1 z2 z3 z4 => (sI_uL (by omega)).trans (congrFun (eq1 k i z1 z2 z3).1 f)
  have hI' : ∀ f', sI (uL S2 24 0 md e (List.range (yn Y 23) ++ [yn Y 23])) 23 (yn Y 23) f' = (match f' with | 0 => nI l | 1 => nI l' | 2 => f | 3 => hh | 4 => 5 | _ => 0) := fun f' => (sI_uL (by omega)).trans (congrFun a6 f')
  have hL : ∀ k i, ¬ (k = 25 ∧ i = yn Y 23) → ¬ (k = 26 ∧ i = yn Y 23) → ¬ (k = 23 ∧ i = yn Y 23) → ¬ (k = 24 ∧ i = 0) → sL (uL S2 24 0 md e (List.range (yn Y 23) ++ [yn Y 23])) k i = sL S1 k i := fun k i z1 z2 z3 z4 => (sL_uL z4).trans (eq1 k i z1 z2 z3).2.2.2.2.1
  have hL1 : sL (uL S2 24 0 md e (List.range (yn Y 23) ++ [yn Y 23])) 24 0 = List.range (yn Y 23 + 1) := sL_uL_s.trans List.range_succ.symm
  have hL25 : sL (uL S2 24 0 md e (List.range (yn Y 23) ++ [yn Y 23])) 25 (yn Y 23) = [] := (sL_uL (by omega)).trans l25'
  have hC : ∀ k i, ¬ (k = 25 ∧ i = yn Y 23) → ¬ (k = 26 ∧ i = yn Y 23) → ¬ (k = 23 ∧ i = yn Y 23) → sC (uL S2 24 0 md e (List.range (yn Y 23) ++ [yn Y 23])) k i = sC S1 k i := fun k i z1 z2 z3 => (eq1 k i z1 z2 z3).2.2.2.2.2.2.1
  have hC26 : sC (uL S2 24 0 md e (List.range (yn Y 23) ++ [yn Y 23])) 26 (yn Y 23) = 97 := c26'
  have hP : ∀ k i x, k = 21 ∨ k = 33 → sP (uL S2 24 0 md e (List.range (yn Y 23) ++ [yn Y 23])) k i x = sP S1 k i x := fun k i x hk => congrFun (eq1 k i (by omega) (by omega) (by omega)).2.2.2.2.2.2.2.2 x
  have FL : mFm Y S1 Y1 (uL S2 24 0 md e (List.range (yn Y 23) ++ [yn Y 23])) := FF.tr (mFm.uL (by omega))
  generalize uL S2 24 0 md e (List.range (yn Y 23) ++ [yn Y 23]) = S3 at H8 hI hI' hL hL1 hL25 hC hC26 hP FL
  have P2 : mVI g Y1 S3 M7 ∧ mFm Y S Y1 S3 ∧ (∀ k i f, qV k f = true → ¬ (k = 23 ∧ i = yn Y 23) → sI S3 k i f = sI S k i f) ∧ sI S3 20 0 0 = 0 ∧ sI S3 23 (yn Y 23) 4 = 5 := by
    obtain ⟨⟨_, V, VV, VQ, VT⟩, F, R⟩ := P1
    refine ⟨⟨H8, ?_, ?_, ?_, ?_⟩, F.tr FL, fun k i f q z => (hI k i f (by have := qV_d q; omega) (by have := qV_d q; omega) z (by have := qV_d q; omega)).trans (R.1 k i f q), (hI 20 0 0 (by omega) (by omega) (by omega) (by omega)).trans e1, hI' 4⟩
    · obtain ⟨w1, w2, ⟨p0, p1, p2, p3⟩, ⟨v1, v2, v3⟩, ⟨u1, u2, u3, u4⟩⟩ := V
      refine ⟨by rw [y20, y21, y22, a2, y24, y25, y26, y27, y30, y33]; omega, by rw [a2, y28, y29]; omega, ?_, ⟨fun v hv => (hI 30 v 0 (by omega) (by omega) (by omega) (by omega)).trans (v1 v hv), (hC 33 0 (by omega) (by omega) (by omega)).trans v2, fun v hv => ?_⟩, ⟨(hC 21 0 (by omega) (by omega) (by omega)).trans u1, fun i hi => ?_, fun t ht => ?_, (hC 27 0 (by omega) (by omega) (by omega)).trans u4⟩⟩
      · rw [hL1, hL 24 1 (by omega) (by omega) (by omega) (by omega), hL 24 2 (by omega) (by omega) (by omega) (by omega), hL 24 3 (by omega) (by omega) (by omega) (by omega), a2, y28, y29]
        exact ⟨rfl, p1, p2, p3⟩
      · rw [hP 33 0 _ (by omega), v3 v hv, ad1 30 v (by omega)]
      · rw [hP 21 0 i (by omega), u2 i hi, ad1 22 i (by omega)]
      · by_cases z : t = yn Y 23
        · rw [z, hC26]
        · rw [hC 26 t (by omega) (by omega) (by omega)]
          exact u3 t (by omega)
    · refine ⟨fun k' i f' hi => ?_, fun p hp hp3 => ?_⟩
      · by_cases z : k' = 23 ∧ i = yn Y 23
        · obtain ⟨rfl, rfl⟩ := z
          rw [hI']
          rcases f' with _ | _ | f'
          · exact ⟨l, hl, rfl⟩
          · exact ⟨l', hl', rfl⟩
          · exact trivial
        · by_cases z4 : k' = 24 ∨ k' = 25 ∨ k' = 26
          · rcases z4 with rfl | rfl | rfl <;> exact trivial
          · rw [hI k' i f' (by omega) (by omega) z (by omega)]
            refine vOK_m (by omega) (by omega) (VV.1 k' i f' ?_)
            by_cases zk : k' = 23
            · subst zk
              have : i ≠ yn Y 23 := fun e => z ⟨rfl, e⟩
              omega
            · rw [n0 k' zk (by omega) (by omega)] at hi
              exact hi
      · rw [hI 29 p 3 (by omega) (by omega) (by omega) (by omega)] at hp3
        rw [hI 29 p 5 (by omega) (by omega) (by omega) (by omega), y28]
        exact VV.2 p (by omega) hp3
    · refine ⟨fun t ht => ?_, fun s hs hs3 => ?_⟩
      · by_cases z : t = yn Y 23
        · rw [z, hL25]
          exact ⟨List.nodup_nil, fun s hs => by cases hs⟩
        · have ht' : t < yn Y 23 := by omega
          rw [hL 25 t (by omega) (by omega) (by omega) (by omega)]
          refine ⟨(VQ.1 t ht').1, fun s hs => ?_⟩
          obtain ⟨q1, q2, q3⟩ := (VQ.1 t ht').2 s hs
          rw [hI 28 s 3 (by omega) (by omega) (by omega) (by omega), hI 28 s 4 (by omega) (by omega) (by omega) (by omega)]
          exact ⟨by omega, q2, q3⟩
      · rw [hI 28 s 3 (by omega) (by omega) (by omega) (by omega)] at hs3
        obtain ⟨t, q1, q2, q3⟩ := VQ.2 s (by omega) hs3
        exact ⟨t, by omega, by rw [hI 28 s 4 (by omega) (by omega) (by omega) (by omega)]; exact q2, by rw [hL 25 t (by omega) (by omega) (by omega) (by omega)]; exact q3⟩
    · obtain ⟨nt, hr, t1, t2, t3, t4⟩ := VT
      exact ⟨nt, hr, t1, t2, (hI 20 0 1 (by omega) (by omega) (by omega) (by omega)).trans t3, (hI 20 0 2 (by omega) (by omega) (by omega) (by omega)).trans t4⟩
  refine s_gR6 H8 e20 rfl rfl rfl (s_rcL H8 rfl hn24 (v_szG H8 P2.1.2.1 ?_))
  have ev : nI (yn Y1 23) - 1 = nI (yn Y 23) := by rw [a2, ← nI_1]; exact Int32.add_sub_cancel _ _
  rw [ev]
  exact h Y1 _ M7 ⟨va, vb⟩ nab hr hn P2.1 P2.2.1 P2.2.2.2.1 P2.2.2.1 P2.2.2.2.2 a2 y28
end VGATE
