/-! THE SIMULATION, 13: what comes new, of the class -/
/-- one more of a kind -/
def nNew (N : mN) (k : Nat) (fs : Nat → Int32) : mN := (fun k' => if k' = k then nn N k + 1 else nn N k', fun k' i' f' => if k' = k ∧ i' = nn N k then fs f' else nv N k' i' f', N.2.2)
def gFs (a b f hh : Int32) (i : Nat) : Int32 := match i with | 0 => a | 1 => b | 2 => f | 3 => hh | 4 => 5 | _ => 0
def sFs (a b p : Int32) (i : Nat) : Int32 := match i with | 0 => a | 1 => b | 2 => p | 4 => -1 | 6 => -1 | 8 => -1 | _ => 0
def pFs (s dr wt d : Int32) (i : Nat) : Int32 := match i with | 0 => dr | 1 => wt | 2 => d | 4 => s | 5 => -1 | _ => 0
def nGate (N : mN) (a b f hh : Int32) : mN := nQ (nW (nNew N 23 (gFs a b f hh)) (fun t v => if t = nn N 23 then false else nr N t v)) (nn N 23) []
def fGate (N : mN) (a b f hh : Int32) : mT :=
  if ¬ ((¬ a < 0 ∧ a < 6) ∧ (¬ b < 0 ∧ b < 6)) then (1, 0, N)
  else if a = b ∨ ¬ ((¬ f < 0 ∧ f ≤ 23) ∧ (¬ hh < 1 ∧ hh ≤ 24)) then (2, 0, N)
  else if ¬ nn N 23 < 8 then (3, 0, N)
  else (0, nI (nn N 23), nGate N a b f hh)
def fSleeper (N : mN) (a b p : Int32) : mT :=
  if ¬ (¬ a < 0 ∧ a < 6) then (1, 0, N)
  else if ¬ (¬ p < 1 ∧ p ≤ 9) then (2, 0, N)
  else if ¬ nn N 28 < 12 then (3, 0, N)
  else (0, nI (nn N 28), nNew N 28 (sFs a b p))
def fPart (N : mN) (a b p d : Int32) : mT :=
  if ¬ (¬ a < 0 ∧ a < nI (nn N 28)) then (1, 0, N)
  else if ¬ ((¬ b < 0 ∧ b ≤ 7) ∧ (¬ p < 0 ∧ p ≤ 99) ∧ (¬ d < 0 ∧ d ≤ 9)) then (2, 0, N)
  else if ¬ nn N 29 < 24 ∨ ¬ nv N 28 (tN a) 3 = 0 then (3, 0, N)
  else (0, nI (nn N 29), nNew N 29 (pFs a b p d))
theorem nn_N {N : mN} {k k' : Nat} {fs : Nat → Int32} (h : k' ≠ k) : nn (nNew N k fs) k' = nn N k' := if_neg h
theorem nn_N_s {N : mN} {k : Nat} {fs : Nat → Int32} : nn (nNew N k fs) k = nn N k + 1 := if_pos rfl
theorem nv_N {N : mN} {k k' i f : Nat} {fs : Nat → Int32} (h : ¬ (k' = k ∧ i = nn N k)) : nv (nNew N k fs) k' i f = nv N k' i f := if_neg h
theorem nv_N_s {N : mN} {k f : Nat} {fs : Nat → Int32} : nv (nNew N k fs) k (nn N k) f = fs f := if_pos ⟨rfl, rfl⟩
/-- hidings, of the class -/
def hC (N : mN) (Y : mY) (S : mS) : Prop := (nh N).length = 3 * yn Y 6 ∧ ∀ i, i < yn Y 6 → (nh N)[3 * i]? = some (sN S 6 i 0) ∧ (∃ d, (nh N)[3 * i + 1]? = some d ∧ d < 128 ∧ sI S 6 i 1 = nI d) ∧ ∃ d, (nh N)[3 * i + 2]? = some d ∧ d < 128 ∧ sI S 6 i 2 = nI d
theorem RC.hk {x : Nat} {N N' : mN} {Y Y1 : mY} {S S1 : mS} (h : RC x N Y S) (m : ∀ k i, k ≠ 12 → i < yn Y k → mEq S1 S k i) (n6 : yn Y1 6 = yn Y 6) (hh : nh N' = nh N) : hC N' Y1 S1 := by
  obtain ⟨-, -, -, -, -, -, -, -, -, h10⟩ := h
  refine ⟨by rw [hh, n6]; exact h10.1, fun i1 hi => ?_⟩
  rw [n6] at hi
  rw [hh, congrFun (m 6 i1 (by omega) hi).2.2.2.1 0, congrFun (m 6 i1 (by omega) hi).1 1, congrFun (m 6 i1 (by omega) hi).1 2]
  exact h10.2 i1 hi
/-- something new has come, of gates, sleepers, parts, hidings -/
theorem RC.nw {x : Nat} {N N' : mN} {g : Nat → Nat} {Y : mY} {S : mS} {M : mM} {Y1 : mY} {S1 : mS} (h : RC x N Y S) (H : mR g Y S M) (W : mWs Y S) (m : ∀ k i, k ≠ 12 → i < yn Y k → mEq S1 S k i) (n0 : ∀ k, k = 0 ∨ k = 2 ∨ k = 7 → yn Y1 k = yn Y k) (c : yn Y1 3 = nn N' 23 ∧ yn Y1 4 = nn N' 28 ∧ yn Y1 5 = nn N' 29) (hh : hC N' Y1 S1)
    (e : ∀ k i f, (k = 23 → i < yn Y 3) → (k = 28 → i < yn Y 4) → (k = 29 → i < yn Y 5) → nv N' k i f = nv N k i f) (eq : ∀ t, t < yn Y 3 → nq N' t = nq N t) (er : ∀ t v, t < yn Y 3 → nr N' t v = nr N t v)
    (g3 : ∀ t, ¬ t < yn Y 3 → t < yn Y1 3 → (∀ f f', cM 3 f = some (23, f') → sI S1 3 t f = nv N' 23 t f') ∧ nv N' 23 t 0 = nI (sN S1 3 t 1) ∧ nv N' 23 t 1 = nI (sN S1 3 t 2) ∧ sL S1 13 t = nq N' t ∧ ∀ v, v < 128 → nr N' t v = vBit (sJ S1 10 t 0) (sJ S1 10 t 1) v ∧ (x ≠ 98 → vBit (sJ S1 11 t 0) (sJ S1 11 t 1) v = true → nr N' t v = true))
    (g4 : ∀ s, ¬ s < yn Y 4 → s < yn Y1 4 → (∀ f f', cM 4 f = some (28, f') → sI S1 4 s f = nv N' 28 s f') ∧ nv N' 28 s 0 = nI (sN S1 4 s 2) ∧ nv N' 28 s 4 = -1 ∧ nv N' 28 s 5 = 0 ∧ sI S1 4 s 6 = 0 ∧ nv N' 28 s 8 = -1 ∧ sX S1 4 s 5 = none ∧ sX S1 4 s 7 = none)
    (g5 : ∀ p, ¬ p < yn Y 5 → p < yn Y1 5 → (∀ f f', cM 5 f = some (29, f') → sI S1 5 p f = nv N' 29 p f') ∧ nv N' 29 p 4 = oAt (sX S1 5 p 6) (sX S1 5 p 5) ∧ nv N' 29 p 5 = oTo (sX S1 5 p 7) ∧ (sX S1 5 p 6 ≠ none → sX S1 5 p 5 = none)) : RC x N' Y1 S1 := by
  have hX := @mR.lX g Y S M H
  obtain ⟨h1, h2, h3, h4, h5, h6, h7, h8, h9, h10⟩ := h
  refine ⟨c, fun k1 i1 f1 k1' f1' hm1 hi hx => ?_, fun t ht => ?_, fun s hs => ?_, fun s hs hx => ?_, fun s hs => ?_, fun s hs => ?_, fun p hp => ?_, fun t v ht hv => ?_, hh⟩
  · have hd := cM_d hm1
    by_cases z : i1 < yn Y k1
    · have q3 : k1' = 23 → i1 < yn Y 3 := fun w => by
        have e3 : k1 = 3 := by omega
        rw [← e3]
        exact z
      have q4 : k1' = 28 → i1 < yn Y 4 := fun w => by
        have e3 : k1 = 4 := by omega
        rw [← e3]
        exact z
      have q5 : k1' = 29 → i1 < yn Y 5 := fun w => by
        have e3 : k1 = 5 := by omega
        rw [← e3]
        exact z
      rw [e k1' i1 f1' q3 q4 q5]
      exact (congrFun (m k1 i1 (by omega) z).1 f1).trans (h2 k1 i1 f1 k1' f1' hm1 z hx)
    · have hk : (k1 = 3 ∧ k1' = 23) ∨ (k1 = 4 ∧ k1' = 28) ∨ (k1 = 5 ∧ k1' = 29) := by
        rcases hd with hd | hd | hd | hd | hd | hd
        · rw [hd.1, n0 0 (by omega)] at hi; rw [hd.1] at z; exact absurd hi z
        · rw [hd.1, n0 7 (by omega)] at hi; rw [hd.1] at z; exact absurd hi z
        · rw [hd.1, n0 2 (by omega)] at hi; rw [hd.1] at z; exact absurd hi z
        · exact Or.inl ⟨hd.1, hd.2.1⟩
        · exact Or.inr (Or.inl ⟨hd.1, hd.2.1⟩)
        · exact Or.inr (Or.inr ⟨hd.1, hd.2.1⟩)
      rcases hk with ⟨rfl, rfl⟩ | ⟨rfl, rfl⟩ | ⟨rfl, rfl⟩
      · exact (g3 i1 z hi).1 f1 f1' hm1
      · exact (g4 i1 z hi).1 f1 f1' hm1
      · exact (g5 i1 z hi).1 f1 f1' hm1
  · by_cases z : t < yn Y 3
    · rw [e 23 t 0 (fun _ => z) (fun w => by omega) (fun w => by omega), e 23 t 1 (fun _ => z) (fun w => by omega) (fun w => by omega), eq t z, congrFun (m 3 t (by omega) z).2.2.2.1 1, congrFun (m 3 t (by omega) z).2.2.2.1 2, (m 13 t (by omega) (W.l13 z)).2.2.2.2.1]
      exact h3 t z
    · obtain ⟨-, q1, q2, q3, -⟩ := g3 t z ht
      exact ⟨q1, q2, q3⟩
  · by_cases z : s < yn Y 4
    · rw [e 28 s 0 (fun w => by omega) (fun _ => z) (fun w => by omega), congrFun (m 4 s (by omega) z).2.2.2.1 2]
      exact h4 s z
    · exact (g4 s z hs).2.1
  · by_cases z : s < yn Y 4
    · rw [e 28 s 4 (fun w => by omega) (fun _ => z) (fun w => by omega), congrFun (m 4 s (by omega) z).2.2.1 5]
      exact h5 s z hx
    · obtain ⟨-, -, q, -, -, -, q2, -⟩ := g4 s z hs
      rw [q, q2]
      rfl
  · by_cases z : s < yn Y 4
    · rw [e 28 s 5 (fun w => by omega) (fun _ => z) (fun w => by omega), congrFun (m 4 s (by omega) z).2.2.1 5, congrFun (m 4 s (by omega) z).1 6]
      exact h6 s z
    · obtain ⟨-, -, -, q, q1, -, -, -⟩ := g4 s z hs
      rw [q, q1]
      exact ⟨fun _ => rfl, fun _ _ => rfl⟩
  · by_cases z : s < yn Y 4
    · rw [e 28 s 6 (fun w => by omega) (fun _ => z) (fun w => by omega), e 28 s 7 (fun w => by omega) (fun _ => z) (fun w => by omega), e 28 s 8 (fun w => by omega) (fun _ => z) (fun w => by omega), congrFun (m 4 s (by omega) z).2.2.1 7]
      refine ⟨(h7 s z).1, fun p hp => ?_⟩
      have hp16 := hX (k := 4) (f := 7) (kt := 16) z rfl p hp
      rw [congrFun (m 16 p (by omega) hp16).2.2.2.1 0, congrFun (m 16 p (by omega) hp16).1 1, congrFun (m 16 p (by omega) hp16).1 2]
      exact (h7 s z).2 p hp
    · obtain ⟨-, -, -, -, -, q, -, q2⟩ := g4 s z hs
      rw [q, q2]
      exact ⟨fun _ => rfl, fun p hp => by cases hp⟩
  · by_cases z : p < yn Y 5
    · rw [e 29 p 4 (fun w => by omega) (fun w => by omega) (fun _ => z), e 29 p 5 (fun w => by omega) (fun w => by omega) (fun _ => z), congrFun (m 5 p (by omega) z).2.2.1 5, congrFun (m 5 p (by omega) z).2.2.1 6, congrFun (m 5 p (by omega) z).2.2.1 7]
      exact h8 p z
    · exact (g5 p z hp).2
  · by_cases z : t < yn Y 3
    · rw [er t v z, congrFun (m 10 t (by omega) (W.l10 z)).2.1 0, congrFun (m 10 t (by omega) (W.l10 z)).2.1 1, congrFun (m 11 t (by omega) (W.l11 z)).2.1 0, congrFun (m 11 t (by omega) (W.l11 z)).2.1 1]
      exact h9 t v z hv
    · exact (g3 t z ht).2.2.2.2 v hv
section SIM13
variable {g : Nat → Nat} {Y : mY} {S : mS} {M : mM}
theorem x_sleeper (H : mR g Y S M) (W : mWs Y S) (Q : mWq Y S) {a b p : Int32} (hb01 : b = 0 ∨ b = 1) {κ : Int32 → mM → Prop} {ξ : String → mM → Prop} (hI : ¬ (¬ a < 0 ∧ a < 6) → ξ "java/lang/IndexOutOfBoundsException" M) (hA : (¬ a < 0 ∧ a < 6) → ¬ (¬ p < 1 ∧ p ≤ 9) → ξ "java/lang/IllegalArgumentException" M) (hS : (¬ a < 0 ∧ a < 6) → (¬ p < 1 ∧ p ≤ 9) → ¬ yn Y 4 < 12 → ξ "java/lang/IllegalStateException" M) (h : ∀ Y' S' M', (¬ a < 0 ∧ a < 6) → (¬ p < 1 ∧ p ≤ 9) → yn Y 4 < 12 → mR g Y' S' M' → mWs Y' S' → mWq Y' S' → mFc Y S Y' S' → (∀ k i f, qC k f = true → sI S' k i f = sI S k i f) → yn Y' 3 = yn Y 3 → yn Y' 4 = yn Y 4 + 1 → (∀ k i, k ≠ 12 → i < yn Y k → mEq S' S k i) → (∀ k, k ≠ 4 → yn Y' k = yn Y k) → (∀ f, sI S' 4 (yn Y 4) f = (match f with | 0 => nI (yn Y 4) | 1 => b | 3 => p | _ => 0)) → (∀ f, sX S' 4 (yn Y 4) f = none) → a = nI (sN S' 4 (yn Y 4) 2) → κ (nI (yn Y 4)) M') : wX8_sleeper g κ ξ (some (yA Y 0 0)) a b p M := by
  have hbd := W.2.1
  refine s_rc H W.x0 rfl rfl (c_landN H W (fun l hl ea => c_range H (fun r1 r2 => ?_) (fun z => hA (by rw [ea]; exact m_in (n := 6) hl (by omega)) z)) (fun z => hI z))
  have va : ¬ a < 0 ∧ a < 6 := by rw [ea]; exact m_in (n := 6) hl (by omega)
  refine s_gR6 H W.x0 rfl rfl rfl (s_rcL H rfl (W.l12 (by omega)) (c_szS H W (br_c (fun z => ?_) (fun z => hS va ⟨r1, r2⟩ (fun w => z (show nI (yn Y 4) < nI 12 from nI_lt w (by omega)))))))
  have hn : yn Y 4 < 12 := (nI_ltI (b := 12) (by omega) (by omega)).mp z
  refine r_new (fun q M1 hq h1 o1 => ?_)
  have hF := H.fr hq
  have H1 : mR g Y S M1 := H.off hF o1
  refine s_gR6 H1 W.x0 rfl rfl rfl (s_rcL H1 rfl (W.l12 (by omega)) (c_szS H1 W (r_rc h1 ⟨q, rfl, r_p h1 (by simp) (fun M2 h2 o2 => r_p h2 (by simp) (fun M3 h3 o3 => r_p h3 (by simp) (fun M4 h4 o4 => ⟨hb01, r_p h4 (by simp) (fun M5 h5 o5 => r_p h5 (by simp) (fun M6 h6 o6 => ?_))⟩)))⟩)))
  have H6 : mR g Y S M6 := H1.off hF (fun q' z => (o6 q' z).trans ((o5 q' z).trans ((o4 q' z).trans ((o3 q' z).trans (o2 q' z)))))
  obtain ⟨Y1, S1, H7, A⟩ := H6.alloc2 (k := 4) hF (fun f => match f with | 0 => nI (yn Y 4) | 1 => b | 3 => p | _ => 0) (fun _ => 0) (fun _ => none) (fun _ => l) [] 0 rfl (by decide) (by decide) (fun z => absurd z (by decide)) h6 (fun f t' ht' => by
    have hl2 : l < yn Y 2 := W.l2 hl
    rcases f with _ | _ | _ | _ | _ | _ | _ | _ | _ | f <;> cases ht' <;> first | exact ⟨fun _ => Nat.lt_of_lt_of_le hl2 aY_le, fun _ j hj => (by cases hj), fun z => absurd z (by decide), fun z => absurd z (by decide)⟩ | exact ⟨fun z => absurd z (by decide), fun _ j hj => (by cases hj), fun z => absurd z (by decide), fun z => absurd z (by decide)⟩)
  have F1 := A.F (by omega)
  obtain ⟨a1, a2, a3, a4, a5, a6, -, a8, a9, -⟩ := A
  rw [← a4, ← a1 0 0 W.x0]
  have hn12 : 1 < yn Y1 12 := by rw [a3 12 (by omega)]; exact W.l12 (by omega)
  have e12 : sL S1 12 1 = List.range (yn Y 4) := ((a5 12 1 (by omega)).2.2.2.2.1).trans W.2.2.1.2.1
  refine s_gR6 H7 (by rw [a3 0 (by omega)]; exact W.x0) rfl rfl rfl (s_rcL H7 rfl hn12 (s_add (k := 12) (i := 1) (x := yn Y 4) (cap := 12) H7 rfl hn12 (show yn Y 4 < yn Y1 4 by omega) (by rw [e12, List.length_range]; exact hn) (by decide) (fun M7 md e H8 => ?_)))
  rw [e12] at H8
  refine s_gI H8 (show yn Y 4 < yn Y1 4 by omega) rfl rfl rfl ?_
  rw [show sI (uL S1 12 1 md e (List.range (yn Y 4) ++ [yn Y 4])) 4 (yn Y 4) 0 = nI (yn Y 4) from (sI_uL (by omega)).trans (congrFun a6 0)]
  refine h Y1 _ M7 va ⟨r1, r2⟩ hn H8 ?_ ?_ (F1.tr (mFc.uL (by omega))) (fun k i f q => (sI_uL (by have := qC_d q; omega)).trans (congrFun (a5 k i (by have := qC_d q; omega)).1 f)) (a3 3 (by omega)) a2 (fun k i hk hi => (mEq.uL (by omega)).tr (a5 k i (fun w => by rw [w.1, w.2] at hi; omega))) (fun k hk => a3 k hk) (fun f => (sI_uL (by omega)).trans (congrFun a6 f)) (fun f => congrFun a8 f) (ea.trans (congrArg nI (congrFun a9 2).symm))
  · obtain ⟨w1, w2, w3, ⟨v1, v2, v3, v4⟩, ⟨u1, u2⟩, ⟨u3, u4⟩, u5, u6⟩ := W
    have n0 := a3 0 (by omega); have n1 := a3 1 (by omega); have n2 := a3 2 (by omega); have n3 := a3 3 (by omega); have n5 := a3 5 (by omega); have n6 := a3 6 (by omega); have n7 := a3 7 (by omega); have n8 := a3 8 (by omega); have n9 := a3 9 (by omega); have n10 := a3 10 (by omega); have n11 := a3 11 (by omega); have n12 := a3 12 (by omega); have n13 := a3 13 (by omega)
    have hI : ∀ k i f, k ≠ 4 → k ≠ 12 → sI (uL S1 12 1 md e (List.range (yn Y 4) ++ [yn Y 4])) k i f = sI S k i f := fun k i f hk hk' => (sI_uL (by omega)).trans (by rw [(a5 k i (by omega)).1])
    have hI4 : ∀ i f, i ≠ yn Y 4 → sI (uL S1 12 1 md e (List.range (yn Y 4) ++ [yn Y 4])) 4 i f = sI S 4 i f := fun i f hi => (sI_uL (by omega)).trans (by rw [(a5 4 i (by omega)).1])
    have hI4' : sI (uL S1 12 1 md e (List.range (yn Y 4) ++ [yn Y 4])) 4 (yn Y 4) 0 = nI (yn Y 4) := (sI_uL (by omega)).trans (congrFun a6 0)
    have hL : ∀ i, i ≠ 1 → sL (uL S1 12 1 md e (List.range (yn Y 4) ++ [yn Y 4])) 12 i = sL S 12 i := fun i hi => (sL_uL (by omega)).trans (a5 12 i (by omega)).2.2.2.2.1
    have hL1 : sL (uL S1 12 1 md e (List.range (yn Y 4) ++ [yn Y 4])) 12 1 = List.range (yn Y 4 + 1) := sL_uL_s.trans List.range_succ.symm
    have hC : ∀ k i, k ≠ 4 → sC (uL S1 12 1 md e (List.range (yn Y 4) ++ [yn Y 4])) k i = sC S k i := fun k i hk => (a5 k i (by omega)).2.2.2.2.2.2.1
    have hP : ∀ k i j, k ≠ 4 → sP (uL S1 12 1 md e (List.range (yn Y 4) ++ [yn Y 4])) k i j = sP S k i j := fun k i j hk => congrFun (a5 k i (by omega)).2.2.2.2.2.2.2.2 j
    refine ⟨by rw [n0, n1, n2, n3, n7, n8, n9, n10, n11, n12, n13]; exact w1, by rw [n3, a2, n5, n6]; omega, by rw [hL 0 (by omega), hL1, hL 2 (by omega), hL 3 (by omega), n3, a2, n5, n6]; exact ⟨w3.1, rfl, w3.2.2⟩, ⟨fun i hi => (hI 2 i 0 (by omega) (by omega)).trans (v1 i hi), fun i hi => (hI 3 i 0 (by omega) (by omega)).trans (v2 i (by omega)), fun i hi => ?_, fun i hi => (hI 5 i 0 (by omega) (by omega)).trans (v4 i (by omega))⟩, ⟨(hC 1 0 (by omega)).trans u1, fun i hi => ?_⟩, ⟨(hC 8 0 (by omega)).trans u3, fun i hi => ?_⟩, fun i hi => (hC 9 i (by omega)).trans (u5 i hi), (hC 9 9 (by omega)).trans u6⟩
    · by_cases z : i = yn Y 4
      · rw [z]; exact hI4'
      · rw [hI4 i 0 z]; exact v3 i (by omega)
    · rw [hP 1 0 i (by omega), u2 i hi, a1 2 i (by omega)]
    · rw [hP 8 0 i (by omega), u4 i hi, a1 9 i (by omega)]
  · have eL : ∀ t, sL (uL S1 12 1 md e (List.range (yn Y 4) ++ [yn Y 4])) 13 t = sL S 13 t := fun t => (sL_uL (by omega)).trans (a5 13 t (by omega)).2.2.2.2.1
    have eX : ∀ s, s ≠ yn Y 4 → sX (uL S1 12 1 md e (List.range (yn Y 4) ++ [yn Y 4])) 4 s 5 = sX S 4 s 5 := fun s hs => congrFun (a5 4 s (by omega)).2.2.1 5
    have eX0 : sX (uL S1 12 1 md e (List.range (yn Y 4) ++ [yn Y 4])) 4 (yn Y 4) 5 = none := congrFun a8 5
    have eI : ∀ s, s ≠ yn Y 4 → sI (uL S1 12 1 md e (List.range (yn Y 4) ++ [yn Y 4])) 4 s 4 = sI S 4 s 4 := fun s hs => (sI_uL (by omega)).trans (congrFun (a5 4 s (by omega)).1 4)
    refine ⟨fun t ht => ?_, fun s t hs hxs => ?_⟩
    · have ht' : t < yn Y 3 := by rw [← a3 3 (by omega)]; exact ht
      rw [eL]
      refine ⟨(Q.1 t ht').1, fun s hs => ?_⟩
      have hsl := H.2.2.2.2.1 13 t rfl (W.l13 ht') s hs
      have hs4 : s < yn Y 4 := hsl
      rw [eX s (by omega)]
      exact (Q.1 t ht').2 s hs
    · by_cases z : s = yn Y 4
      · rw [z, eX0] at hxs
        cases hxs
      · rw [eX s z] at hxs
        rw [eI s z, eL]
        exact Q.2 s t (by omega) hxs
theorem x_part (H : mR g Y S M) (W : mWs Y S) (Q : mWq Y S) {a b p d : Int32} {κ : Int32 → mM → Prop} {ξ : String → mM → Prop} (hI : ¬ (¬ a < 0 ∧ a < nI (yn Y 4)) → ξ "java/lang/IndexOutOfBoundsException" M) (hA : (¬ a < 0 ∧ a < nI (yn Y 4)) → ¬ ((¬ b < 0 ∧ b ≤ 7) ∧ (¬ p < 0 ∧ p ≤ 99) ∧ (¬ d < 0 ∧ d ≤ 9)) → ξ "java/lang/IllegalArgumentException" M) (hS : ∀ s, s < yn Y 4 → a = nI s → ((¬ b < 0 ∧ b ≤ 7) ∧ (¬ p < 0 ∧ p ≤ 99) ∧ (¬ d < 0 ∧ d ≤ 9)) → (¬ yn Y 5 < 24 ∨ ¬ sI S 4 s 4 = 0) → ξ "java/lang/IllegalStateException" M) (h : ∀ s Y' S' M', s < yn Y 4 → a = nI s → ((¬ b < 0 ∧ b ≤ 7) ∧ (¬ p < 0 ∧ p ≤ 99) ∧ (¬ d < 0 ∧ d ≤ 9)) → yn Y 5 < 24 → sI S 4 s 4 = 0 → cP g Y S Y' S' M' → (∀ k i, k ≠ 12 → i < yn Y k → mEq S' S k i) → (∀ k, k ≠ 5 → yn Y' k = yn Y k) → yn Y' 5 = yn Y 5 + 1 → (∀ f, sI S' 5 (yn Y 5) f = (match f with | 0 => nI (yn Y 5) | 1 => b | 2 => p | 3 => d | _ => 0)) → (∀ f, sX S' 5 (yn Y 5) f = (match f with | 5 => some s | _ => none)) → κ (nI (yn Y 5)) M') : wX8_part g κ ξ (some (yA Y 0 0)) a b p d M := by
  have hbd := W.2.1
  refine s_rc H W.x0 rfl rfl (c_sleeperN H W (fun s hs es => c_range H (fun r1 r2 => c_range H (fun r3 r4 => c_range H (fun r5 r6 => ?_) (fun z => hA (by rw [es]; exact m_in hs (by omega)) (fun w => z w.2.2))) (fun z => hA (by rw [es]; exact m_in hs (by omega)) (fun w => z w.2.1))) (fun z => hA (by rw [es]; exact m_in hs (by omega)) (fun w => z w.1))) (fun z => hI z))
  refine s_gR6 H W.x0 rfl rfl rfl (s_rcL H rfl (W.l12 (by omega)) (c_szP H W (br_c (fun z => hS s hs es ⟨⟨r1, r2⟩, ⟨r3, r4⟩, ⟨r5, r6⟩⟩ (Or.inl (fun w => nI_ge (a := yn Y 5) (b := 24) w (by omega) z))) (fun z => s_gI H hs rfl rfl rfl (br_c (fun z0 => ?_) (fun w => hS s hs es ⟨⟨r1, r2⟩, ⟨r3, r4⟩, ⟨r5, r6⟩⟩ (Or.inr w)))))))
  have hn : yn Y 5 < 24 := Nat.not_le.mp (fun w => z (show nI 24 ≤ nI (yn Y 5) from (nI_leI (by omega) (by omega)).mpr w))
  refine r_new (fun q M1 hq h1 o1 => ?_)
  have hF := H.fr hq
  have H1 : mR g Y S M1 := H.off hF o1
  refine s_gR6 H1 W.x0 rfl rfl rfl (s_rcL H1 rfl (W.l12 (by omega)) (c_szP H1 W (r_rc h1 ⟨q, rfl, r_p h1 (by simp) (fun M2 h2 o2 => r_p h2 (by simp) (fun M3 h3 o3 => r_p h3 (by simp) (fun M4 h4 o4 => r_p h4 (by simp) (fun M5 h5 o5 => r_p h5 (by simp) (fun M6 h6 o6 => ?_)))))⟩)))
  have H6 : mR g Y S M6 := H1.off hF (fun q' z => (o6 q' z).trans ((o5 q' z).trans ((o4 q' z).trans ((o3 q' z).trans (o2 q' z)))))
  obtain ⟨Y1, S1, H7, A⟩ := H6.alloc2 (k := 5) hF (fun f => match f with | 0 => nI (yn Y 5) | 1 => b | 2 => p | 3 => d | _ => 0) (fun _ => 0) (fun f => match f with | 5 => some s | _ => none) (fun _ => 0) [] 0 rfl (by decide) (by decide) (fun z => absurd z (by decide)) h6 (fun f t' ht' => by
    rcases f with _ | _ | _ | _ | _ | _ | _ | _ | f <;> cases ht' <;> refine ⟨fun z => absurd z (by decide), fun z j hj => ?_, fun z => absurd z (by decide), fun z => absurd z (by decide)⟩ <;> cases hj
    exact Nat.lt_of_lt_of_le hs aY_le)
  have F1 := A.F (by omega)
  have Q1 := A.Q ⟨by omega, by omega, by omega⟩ Q
  obtain ⟨a1, a2, a3, a4, a5, a6, -, a8, -⟩ := A
  rw [← a4, ← a1 0 0 W.x0]
  have hn12 : 2 < yn Y1 12 := by rw [a3 12 (by omega)]; exact W.l12 (by omega)
  have e12 : sL S1 12 2 = List.range (yn Y 5) := ((a5 12 2 (by omega)).2.2.2.2.1).trans W.2.2.1.2.2.1
  refine s_gR6 H7 (by rw [a3 0 (by omega)]; exact W.x0) rfl rfl rfl (s_rcL H7 rfl hn12 (s_add (k := 12) (i := 2) (x := yn Y 5) (cap := 24) H7 rfl hn12 (show yn Y 5 < yn Y1 5 by omega) (by rw [e12, List.length_range]; exact hn) (by decide) (fun M7 md e H8 => ?_)))
  rw [e12] at H8
  refine s_gI H8 (show yn Y 5 < yn Y1 5 by omega) rfl rfl rfl ?_
  rw [show sI (uL S1 12 2 md e (List.range (yn Y 5) ++ [yn Y 5])) 5 (yn Y 5) 0 = nI (yn Y 5) from (sI_uL (by omega)).trans (congrFun a6 0)]
  refine (h s Y1 _ M7 hs es ⟨⟨r1, r2⟩, ⟨r3, r4⟩, ⟨r5, r6⟩⟩ hn z0 ⟨H8, ?_, Q1.of (fun t => sL_uL (by omega)) (fun _ => rfl) (fun s => sI_uL (by omega)), F1.tr (mFc.uL (by omega)), ⟨fun k i f q => (sI_uL (by have := qC_d q; omega)).trans (congrFun (a5 k i (by have := qC_d q; omega)).1 f), a3 3 (by omega), a3 4 (by omega)⟩⟩ (fun k i hk hi => (mEq.uL (by omega)).tr (a5 k i (fun w => by rw [w.1, w.2] at hi; omega))) (fun k hk => a3 k hk) a2 (fun f => (sI_uL (by omega)).trans (congrFun a6 f)) (fun f => congrFun a8 f))
  · obtain ⟨w1, w2, w3, ⟨v1, v2, v3, v4⟩, ⟨u1, u2⟩, ⟨u3, u4⟩, u5, u6⟩ := W
    have n0 := a3 0 (by omega); have n1 := a3 1 (by omega); have n2 := a3 2 (by omega); have n3 := a3 3 (by omega); have n4 := a3 4 (by omega); have n6 := a3 6 (by omega); have n7 := a3 7 (by omega); have n8 := a3 8 (by omega); have n9 := a3 9 (by omega); have n10 := a3 10 (by omega); have n11 := a3 11 (by omega); have n12 := a3 12 (by omega); have n13 := a3 13 (by omega)
    have hI : ∀ k i f, k ≠ 5 → k ≠ 12 → sI (uL S1 12 2 md e (List.range (yn Y 5) ++ [yn Y 5])) k i f = sI S k i f := fun k i f hk hk' => (sI_uL (by omega)).trans (by rw [(a5 k i (by omega)).1])
    have hI4 : ∀ i f, i ≠ yn Y 5 → sI (uL S1 12 2 md e (List.range (yn Y 5) ++ [yn Y 5])) 5 i f = sI S 5 i f := fun i f hi => (sI_uL (by omega)).trans (by rw [(a5 5 i (by omega)).1])
    have hI4' : sI (uL S1 12 2 md e (List.range (yn Y 5) ++ [yn Y 5])) 5 (yn Y 5) 0 = nI (yn Y 5) := (sI_uL (by omega)).trans (congrFun a6 0)
    have hL : ∀ i, i ≠ 2 → sL (uL S1 12 2 md e (List.range (yn Y 5) ++ [yn Y 5])) 12 i = sL S 12 i := fun i hi => (sL_uL (by omega)).trans (a5 12 i (by omega)).2.2.2.2.1
    have hL1 : sL (uL S1 12 2 md e (List.range (yn Y 5) ++ [yn Y 5])) 12 2 = List.range (yn Y 5 + 1) := sL_uL_s.trans List.range_succ.symm
    have hC : ∀ k i, k ≠ 5 → sC (uL S1 12 2 md e (List.range (yn Y 5) ++ [yn Y 5])) k i = sC S k i := fun k i hk => (a5 k i (by omega)).2.2.2.2.2.2.1
    have hP : ∀ k i j, k ≠ 5 → sP (uL S1 12 2 md e (List.range (yn Y 5) ++ [yn Y 5])) k i j = sP S k i j := fun k i j hk => congrFun (a5 k i (by omega)).2.2.2.2.2.2.2.2 j
    refine ⟨by rw [n0, n1, n2, n3, n7, n8, n9, n10, n11, n12, n13]; exact w1, by rw [n3, n4, a2, n6]; omega, by rw [hL 0 (by omega), hL 1 (by omega), hL1, hL 3 (by omega), n3, n4, a2, n6]; exact ⟨w3.1, w3.2.1, rfl, w3.2.2.2⟩, ⟨fun i hi => (hI 2 i 0 (by omega) (by omega)).trans (v1 i hi), fun i hi => (hI 3 i 0 (by omega) (by omega)).trans (v2 i (by omega)), fun i hi => (hI 4 i 0 (by omega) (by omega)).trans (v3 i (by omega)), fun i hi => ?_⟩, ⟨(hC 1 0 (by omega)).trans u1, fun i hi => ?_⟩, ⟨(hC 8 0 (by omega)).trans u3, fun i hi => ?_⟩, fun i hi => (hC 9 i (by omega)).trans (u5 i hi), (hC 9 9 (by omega)).trans u6⟩
    · by_cases z : i = yn Y 5
      · rw [z]; exact hI4'
      · rw [hI4 i 0 z]; exact v4 i (by omega)
    · rw [hP 1 0 i (by omega), u2 i hi, a1 2 i (by omega)]
    · rw [hP 8 0 i (by omega), u4 i hi, a1 9 i (by omega)]
theorem x_gate (H : mR g Y S M) (W : mWs Y S) (Q : mWq Y S) {a b f hh : Int32} {κ : Int32 → mM → Prop} {ξ : String → mM → Prop} (hI : ¬ ((¬ a < 0 ∧ a < 6) ∧ (¬ b < 0 ∧ b < 6)) → ξ "java/lang/IndexOutOfBoundsException" M) (hA : ((¬ a < 0 ∧ a < 6) ∧ (¬ b < 0 ∧ b < 6)) → (a = b ∨ ¬ ((¬ f < 0 ∧ f ≤ 23) ∧ (¬ hh < 1 ∧ hh ≤ 24))) → ξ "java/lang/IllegalArgumentException" M) (hS : ((¬ a < 0 ∧ a < 6) ∧ (¬ b < 0 ∧ b < 6)) → ¬ a = b → ((¬ f < 0 ∧ f ≤ 23) ∧ (¬ hh < 1 ∧ hh ≤ 24)) → ¬ yn Y 3 < 8 → ξ "java/lang/IllegalStateException" M) (h : ∀ Y' S' M', ((¬ a < 0 ∧ a < 6) ∧ (¬ b < 0 ∧ b < 6)) → ¬ a = b → ((¬ f < 0 ∧ f ≤ 23) ∧ (¬ hh < 1 ∧ hh ≤ 24)) → yn Y 3 < 8 → mR g Y' S' M' → mWs Y' S' → mWq Y' S' → mFc Y S Y' S' → (∀ k i f, qC k f = true → ¬ (k = 3 ∧ i = yn Y 3) → sI S' k i f = sI S k i f) → sI S' 3 (yn Y 3) 8 = 5 → yn Y' 3 = yn Y 3 + 1 → yn Y' 4 = yn Y 4 → (∀ k i, k ≠ 12 → i < yn Y k → mEq S' S k i) → (∀ k, k ≤ 7 → k ≠ 3 → yn Y' k = yn Y k) → (∀ f', sI S' 3 (yn Y 3) f' = (match f' with | 0 => nI (yn Y 3) | 3 => f | 4 => hh | 8 => 5 | _ => 0)) → a = nI (sN S' 3 (yn Y 3) 1) → b = nI (sN S' 3 (yn Y 3) 2) → sL S' 13 (yn Y 3) = [] → (∀ k f', k = 10 ∨ k = 11 → sJ S' k (yn Y 3) f' = 0) → κ (nI (yn Y 3)) M') : wX8_gate g κ ξ (some (yA Y 0 0)) a b f hh M := by
  have hbd := W.2.1
  refine s_rc H W.x0 rfl rfl (c_landN H W (fun l hl ea => s_rc H W.x0 rfl rfl (c_landN H W (fun l' hl' eb => ?_) (fun z => hI (fun w => z w.2)))) (fun z => hI (fun w => z w.1)))
  have va : ¬ a < 0 ∧ a < 6 := by rw [ea]; exact m_in (n := 6) hl (by omega)
  have vb : ¬ b < 0 ∧ b < 6 := by rw [eb]; exact m_in (n := 6) hl' (by omega)
  refine br_c (fun q => hA ⟨va, vb⟩ (Or.inl q)) (fun nab => c_range H (fun r1 r2 => c_range H (fun r3 r4 => ?_) (fun z => hA ⟨va, vb⟩ (Or.inr (fun w => z w.2)))) (fun z => hA ⟨va, vb⟩ (Or.inr (fun w => z w.1))))
  refine s_gR6 H W.x0 rfl rfl rfl (s_rcL H rfl (W.l12 (by omega)) (c_szG H W (br_c (fun z => ?_) (fun z => hS ⟨va, vb⟩ nab ⟨⟨r1, r2⟩, ⟨r3, r4⟩⟩ (fun w => z (show nI (yn Y 3) < nI 8 from nI_lt w (by omega)))))))
  have hn : yn Y 3 < 8 := (nI_ltI (b := 8) (by omega) (by omega)).mp z
  refine r_new (fun q M1 hq h1 o1 => ?_)
  have hF := H.fr hq
  have H1 : mR g Y S M1 := H.off hF o1
  have hg0 : yA Y 34 0 = g 0 := H.2.2.2.2.2.2.2.1
  refine s_gR6 H1 W.x0 rfl rfl rfl (s_rcL H1 rfl (W.l12 (by omega)) (c_szG H1 W (r_rc h1 (r_gateInit h1 (fun M2 q1 q6 q11 f1 f6 f11 n16 n111 n611 k0 k1 k6 k11 o2 => ?_)))))
  have some_ne : ∀ {M : mM} {a b : Nat} {e : mCe}, M a = some e → M b = none → a ≠ b := fun h1 h2 z => by rw [z, h2] at h1; cases h1
  have F1 := H1.fr f1
  have F6 := H1.fr f6
  have F11 := H1.fr f11
  have nq1 : q ≠ q1 := some_ne h1 f1
  have nq6 : q ≠ q6 := some_ne h1 f6
  have nq11 : q ≠ q11 := some_ne h1 f11
  have H2 : mR g Y S M2 := H1.off4 hF F1 F6 F11 o2
  have h34 : 0 < yn Y 34 := by rw [H.2.2.2.2.2.2.1]; omega
  have ne34 : ∀ {q : Nat}, mFr Y S q → g 0 ≠ q := fun hF => by rw [← hg0]; exact hF.1 34 0 h34
  -- the line
  obtain ⟨Ya, Sa, Ha, A⟩ := H2.alloc2 (k := 13) F1 (fun _ => 0) (fun _ => 0) (fun _ => none) (fun _ => 0) [] (g 0) rfl (by decide) (by decide) (fun _ => ⟨hg0.symm, rfl⟩) k1 (fun f t' ht' => by
    rcases f with _ | _ | _ | f <;> cases ht' <;> exact ⟨fun z => absurd z (by decide), fun z => absurd z (by decide), fun z => absurd z (by decide), fun z => absurd z (by decide)⟩)
  have A0 := A.fr hF nq1.symm (fun _ => ne34 hF)
  have A6 := A.fr F6 n16 (fun _ => ne34 F6)
  have A11 := A.fr F11 n111 (fun _ => ne34 F11)
  -- the verses
  obtain ⟨Yb, Sb, Hb, B⟩ := Ha.alloc2 (k := 10) A6 (fun _ => 0) (fun _ => 0) (fun _ => none) (fun _ => 0) [] 0 rfl (by decide) (by decide) (fun z => absurd z (by decide)) k6 (fun f t' ht' => by
    rcases f with _ | _ | f <;> cases ht' <;> exact ⟨fun z => absurd z (by decide), fun z => absurd z (by decide), fun z => absurd z (by decide), fun z => absurd z (by decide)⟩)
  have B0 := B.fr A0 nq6.symm (fun z => absurd z (by decide))
  have B11 := B.fr A11 n611 (fun z => absurd z (by decide))
  obtain ⟨Yc, Sc, Hc, C⟩ := Hb.alloc2 (k := 11) B11 (fun _ => 0) (fun _ => 0) (fun _ => none) (fun _ => 0) [] 0 rfl (by decide) (by decide) (fun z => absurd z (by decide)) k11 (fun f t' ht' => by
    rcases f with _ | _ | f <;> cases ht' <;> exact ⟨fun z => absurd z (by decide), fun z => absurd z (by decide), fun z => absurd z (by decide), fun z => absurd z (by decide)⟩)
  have C0 := C.fr B0 nq11.symm (fun z => absurd z (by decide))
  have FA := A.F (by omega)
  have FB := B.F (by omega)
  have FC := C.F (by omega)
  obtain ⟨a1, a2, a3, a4, a5, -, -, -, -, a10, -⟩ := A
  obtain ⟨b1, b2, b3, b4, b5, -, b7, -⟩ := B
  obtain ⟨c1, c2, c3, c4, c5, -, c7, -⟩ := C
  -- where all that was lies now
  have hn13 : yn Y 13 = yn Y 3 := W.1.2.2.2.2.2.2.2.2.2
  have hn10 : yn Y 10 = yn Y 3 := W.1.2.2.2.2.2.2.2.1
  have hn11 : yn Y 11 = yn Y 3 := W.1.2.2.2.2.2.2.2.2.1
  have m3 : yn Yc 3 = yn Y 3 := by rw [c3 3 (by omega), b3 3 (by omega), a3 3 (by omega)]
  have m13 : yn Yc 13 = yn Y 3 + 1 := by rw [c3 13 (by omega), b3 13 (by omega), a2, hn13]
  have m10 : yn Yc 10 = yn Y 3 + 1 := by rw [c3 10 (by omega), b2, a3 10 (by omega), hn10]
  have m11 : yn Yc 11 = yn Y 3 + 1 := by rw [c2, b3 11 (by omega), a3 11 (by omega), hn11]
  have mo : ∀ k, k ≠ 10 → k ≠ 11 → k ≠ 13 → yn Yc k = yn Y k := fun k z1 z2 z3 => by rw [c3 k z2, b3 k z1, a3 k z3]
  have ad : ∀ k i, i < yn Y k → yA Yc k i = yA Y k i := fun k i hi => by
    have i1 : i < yn Ya k := Nat.lt_of_lt_of_le hi (FA.2.1 k)
    rw [c1 k i (Nat.lt_of_lt_of_le i1 (FB.2.1 k)), b1 k i i1, a1 k i hi]
  have ad13 : yA Yc 13 (yn Y 3) = q1 := by
    have i1 : yn Y 3 < yn Ya 13 := by rw [a2, hn13]; omega
    rw [c1 13 _ (Nat.lt_of_lt_of_le i1 (FB.2.1 13)), b1 13 _ i1, ← hn13, a4]
  have ad10 : yA Yc 10 (yn Y 3) = q6 := by
    have e : yn Ya 10 = yn Y 3 := by rw [a3 10 (by omega), hn10]
    rw [c1 10 _ (by rw [b2, e]; omega), ← e, b4]
  have ad11 : yA Yc 11 (yn Y 3) = q11 := by
    have e : yn Yb 11 = yn Y 3 := by rw [b3 11 (by omega), a3 11 (by omega), hn11]
    rw [← e, c4]
  have eqs : ∀ k i, ¬ (k = 13 ∧ i = yn Y 3) → ¬ (k = 10 ∧ i = yn Y 3) → ¬ (k = 11 ∧ i = yn Y 3) → mEq Sc S k i := fun k i z1 z2 z3 => ((c5 k i (fun w => z3 ⟨w.1, by rw [w.2, b3 11 (by omega), a3 11 (by omega), hn11]⟩)).tr (b5 k i (fun w => z2 ⟨w.1, by rw [w.2, a3 10 (by omega), hn10]⟩))).tr (a5 k i (fun w => z1 ⟨w.1, by rw [w.2, hn13]⟩))
  have l13 : sL Sc 13 (yn Y 3) = [] := by
    have e1 := (c5 13 (yn Y 3) (by omega)).2.2.2.2.1
    have e2 := (b5 13 (yn Y 3) (by omega)).2.2.2.2.1
    rw [e1, e2, ← hn13, a10]
  have j10 : ∀ f', sJ Sc 10 (yn Y 3) f' = 0 := fun f' => by
    have e1 := congrFun (c5 10 (yn Y 3) (by omega)).2.1 f'
    have e2 : yn Ya 10 = yn Y 3 := by rw [a3 10 (by omega), hn10]
    rw [e2] at b7
    exact e1.trans (congrFun b7 f')
  have j11 : ∀ f', sJ Sc 11 (yn Y 3) f' = 0 := fun f' => by
    have e2 : yn Yb 11 = yn Y 3 := by rw [b3 11 (by omega), a3 11 (by omega), hn11]
    rw [e2] at c7
    exact congrFun c7 f'
  have Fc : mFc Y S Yc Sc := (FA.tr FB).tr FC
  clear a1 a2 a3 a4 a5 a10 b1 b2 b3 b4 b5 c1 c2 c3 c4 c5 FA FB FC Ha Hb A0 A6 A11 B0 B11
  -- the gate
  have hla : yA Y 2 l = yA (aY Yc 3 q) 2 l := (ad 2 l (W.l2 hl)).symm
  have hlb : yA Y 2 l' = yA (aY Yc 3 q) 2 l' := (ad 2 l' (W.l2 hl')).symm
  obtain ⟨Y1, S1, H7, A⟩ := Hc.alloc2 (k := 3) C0 (fun i => match i with | 0 => nI (yn Y 3) | 3 => f | 4 => hh | 8 => 5 | _ => 0) (fun _ => 0) (fun _ => none) (fun i => match i with | 1 => l | _ => l') [] 0 rfl (by decide) (by decide) (fun z => absurd z (by decide)) (by
      rw [k0, ← ad13, ← ad10, ← ad11, hla, hlb, ← m3]
      rfl) (fun f t' ht' => by
    have e2 : yn Yc 2 = 6 := by rw [mo 2 (by omega) (by omega) (by omega)]; exact W.1.2.2.1
    rcases f with _ | _ | _ | _ | _ | _ | _ | _ | _ | _ | f <;> cases ht'
    · exact ⟨fun z => absurd z (by decide), fun z => absurd z (by decide), fun z => absurd z (by decide), fun z => absurd z (by decide)⟩
    · exact ⟨fun _ => (show l < yn Yc 2 by omega), fun z => absurd z (by decide), fun z => absurd z (by decide), fun z => absurd z (by decide)⟩
    · exact ⟨fun _ => (show l' < yn Yc 2 by omega), fun z => absurd z (by decide), fun z => absurd z (by decide), fun z => absurd z (by decide)⟩
    · exact ⟨fun z => absurd z (by decide), fun z => absurd z (by decide), fun z => absurd z (by decide), fun z => absurd z (by decide)⟩
    · exact ⟨fun z => absurd z (by decide), fun z => absurd z (by decide), fun z => absurd z (by decide), fun z => absurd z (by decide)⟩
    · exact ⟨fun z => absurd z (by decide), fun z => absurd z (by decide), fun z => absurd z (by decide), fun _ => (show yn Yc 3 < yn Yc 13 by omega)⟩
    · exact ⟨fun z => absurd z (by decide), fun z => absurd z (by decide), fun z => absurd z (by decide), fun _ => (show yn Yc 3 < yn Yc 10 by omega)⟩
    · exact ⟨fun z => absurd z (by decide), fun z => absurd z (by decide), fun z => absurd z (by decide), fun _ => (show yn Yc 3 < yn Yc 11 by omega)⟩
    · exact ⟨fun z => absurd z (by decide), fun z => absurd z (by decide), fun z => absurd z (by decide), fun z => absurd z (by decide)⟩
    · exact ⟨fun z => absurd z (by decide), fun z => absurd z (by decide), fun z => absurd z (by decide), fun z => absurd z (by decide)⟩)
  have F1 := Fc.tr (A.F (by omega))
  obtain ⟨a1, a2, a3, a4, a5, a6, -, -, a9, -⟩ := A
  have n0 : ∀ k, k ≠ 3 → k ≠ 10 → k ≠ 11 → k ≠ 13 → yn Y1 k = yn Y k := fun k z1 z2 z3 z4 => by rw [a3 k z1, mo k z2 z3 z4]
  have ad1 : ∀ k i, i < yn Y k → yA Y1 k i = yA Y k i := F1.1
  have eq1 : ∀ k i, ¬ (k = 13 ∧ i = yn Y 3) → ¬ (k = 10 ∧ i = yn Y 3) → ¬ (k = 11 ∧ i = yn Y 3) → ¬ (k = 3 ∧ i = yn Y 3) → mEq S1 S k i := fun k i z1 z2 z3 z4 => (a5 k i (fun w => z4 ⟨w.1, by rw [w.2, m3]⟩)).tr (eqs k i z1 z2 z3)
  have l13' : sL S1 13 (yn Y 3) = [] := ((a5 13 (yn Y 3) (by omega)).2.2.2.2.1).trans l13
  rw [m3] at a2 a4 a6 a9
  rw [← a4, ← ad1 0 0 W.x0]
  have hn12 : 0 < yn Y1 12 := by rw [n0 12 (by omega) (by omega) (by omega) (by omega)]; exact W.l12 (by omega)
  have e12 : sL S1 12 0 = List.range (yn Y 3) := ((eq1 12 0 (by omega) (by omega) (by omega) (by omega)).2.2.2.2.1).trans W.2.2.1.1
  refine s_gR6 H7 (by rw [n0 0 (by omega) (by omega) (by omega) (by omega)]; exact W.x0) rfl rfl rfl (s_rcL H7 rfl hn12 (s_add (k := 12) (i := 0) (x := yn Y 3) (cap := 8) H7 rfl hn12 (show yn Y 3 < yn Y1 3 by omega) (by rw [e12, List.length_range]; exact hn) (by decide) (fun M7 md e H8 => ?_)))
  rw [e12] at H8
  refine s_gI H8 (show yn Y 3 < yn Y1 3 by omega) rfl rfl rfl ?_
  rw [show sI (uL S1 12 0 md e (List.range (yn Y 3) ++ [yn Y 3])) 3 (yn Y 3) 0 = nI (yn Y 3) from (sI_uL (by omega)).trans (congrFun a6 0)]
  refine h Y1 _ M7 ⟨va, vb⟩ nab ⟨⟨r1, r2⟩, ⟨r3, r4⟩⟩ hn H8 ?_ ?_ (F1.tr (mFc.uL (by omega))) (fun k i f q z => (sI_uL (by have := qC_d q; omega)).trans (congrFun (eq1 k i (by have := qC_d q; omega) (by have := qC_d q; omega) (by have := qC_d q; omega) z).1 f)) ((sI_uL (by omega)).trans (congrFun a6 8)) a2 (n0 4 (by omega) (by omega) (by omega) (by omega)) (fun k i hk hi => (mEq.uL (by omega)).tr (eq1 k i (fun w => by rw [w.1, hn13] at hi; omega) (fun w => by rw [w.1, hn10] at hi; omega) (fun w => by rw [w.1, hn11] at hi; omega) (fun w => by rw [w.1] at hi; omega))) (fun k hk hk3 => n0 k hk3 (by omega) (by omega) (by omega)) (fun f' => (sI_uL (by omega)).trans (congrFun a6 f')) (ea.trans (congrArg nI (congrFun a9 1).symm)) (eb.trans (congrArg nI (congrFun a9 2).symm)) ((sL_uL (by omega)).trans l13') (fun k f' hk => hk.elim (fun e => by rw [e]; exact (congrFun (a5 10 (yn Y 3) (by omega)).2.1 f').trans (j10 f')) (fun e => by rw [e]; exact (congrFun (a5 11 (yn Y 3) (by omega)).2.1 f').trans (j11 f')))
  · obtain ⟨w1, w2, w3, ⟨v1, v2, v3, v4⟩, ⟨u1, u2⟩, ⟨u3, u4⟩, u5, u6⟩ := W
    have y0 := n0 0 (by omega) (by omega) (by omega) (by omega); have y1 := n0 1 (by omega) (by omega) (by omega) (by omega); have y2 := n0 2 (by omega) (by omega) (by omega) (by omega); have y4 := n0 4 (by omega) (by omega) (by omega) (by omega); have y5 := n0 5 (by omega) (by omega) (by omega) (by omega); have y6 := n0 6 (by omega) (by omega) (by omega) (by omega); have y7 := n0 7 (by omega) (by omega) (by omega) (by omega); have y8 := n0 8 (by omega) (by omega) (by omega) (by omega); have y9 := n0 9 (by omega) (by omega) (by omega) (by omega); have y12 := n0 12 (by omega) (by omega) (by omega) (by omega)
    have y10 : yn Y1 10 = yn Y 3 + 1 := by rw [a3 10 (by omega), m10]
    have y11 : yn Y1 11 = yn Y 3 + 1 := by rw [a3 11 (by omega), m11]
    have y13 : yn Y1 13 = yn Y 3 + 1 := by rw [a3 13 (by omega), m13]
    have hI : ∀ k i f, k ≠ 3 → k ≠ 10 → k ≠ 11 → k ≠ 12 → k ≠ 13 → sI (uL S1 12 0 md e (List.range (yn Y 3) ++ [yn Y 3])) k i f = sI S k i f := fun k i f z1 z2 z3 z4 z5 => (sI_uL (by omega)).trans (congrFun (eq1 k i (by omega) (by omega) (by omega) (by omega)).1 f)
    have hI4 : ∀ i f, i ≠ yn Y 3 → sI (uL S1 12 0 md e (List.range (yn Y 3) ++ [yn Y 3])) 3 i f = sI S 3 i f := fun i f hi => (sI_uL (by omega)).trans (congrFun (eq1 3 i (by omega) (by omega) (by omega) (by omega)).1 f)
    have hI4' : sI (uL S1 12 0 md e (List.range (yn Y 3) ++ [yn Y 3])) 3 (yn Y 3) 0 = nI (yn Y 3) := (sI_uL (by omega)).trans (congrFun a6 0)
    have hL : ∀ i, i ≠ 0 → sL (uL S1 12 0 md e (List.range (yn Y 3) ++ [yn Y 3])) 12 i = sL S 12 i := fun i hi => (sL_uL (by omega)).trans (eq1 12 i (by omega) (by omega) (by omega) (by omega)).2.2.2.2.1
    have hL1 : sL (uL S1 12 0 md e (List.range (yn Y 3) ++ [yn Y 3])) 12 0 = List.range (yn Y 3 + 1) := sL_uL_s.trans List.range_succ.symm
    have hC : ∀ k i, k = 1 ∨ k = 8 ∨ k = 9 → sC (uL S1 12 0 md e (List.range (yn Y 3) ++ [yn Y 3])) k i = sC S k i := fun k i hk => (eq1 k i (by omega) (by omega) (by omega) (by omega)).2.2.2.2.2.2.1
    have hP : ∀ k i j, k = 1 ∨ k = 8 → sP (uL S1 12 0 md e (List.range (yn Y 3) ++ [yn Y 3])) k i j = sP S k i j := fun k i j hk => congrFun (eq1 k i (by omega) (by omega) (by omega) (by omega)).2.2.2.2.2.2.2.2 j
    refine ⟨by rw [y0, y1, y2, a2, y7, y8, y9, y10, y11, y12, y13]; omega, by rw [a2, y4, y5, y6]; omega, by rw [hL1, hL 1 (by omega), hL 2 (by omega), hL 3 (by omega), a2, y4, y5, y6]; exact ⟨rfl, w3.2⟩, ⟨fun i hi => (hI 2 i 0 (by omega) (by omega) (by omega) (by omega) (by omega)).trans (v1 i hi), fun i hi => ?_, fun i hi => (hI 4 i 0 (by omega) (by omega) (by omega) (by omega) (by omega)).trans (v3 i (by omega)), fun i hi => (hI 5 i 0 (by omega) (by omega) (by omega) (by omega) (by omega)).trans (v4 i (by omega))⟩, ⟨(hC 1 0 (by omega)).trans u1, fun i hi => ?_⟩, ⟨(hC 8 0 (by omega)).trans u3, fun i hi => ?_⟩, fun i hi => (hC 9 i (by omega)).trans (u5 i hi), (hC 9 9 (by omega)).trans u6⟩
    · by_cases z : i = yn Y 3
      · rw [z]; exact hI4'
      · rw [hI4 i 0 z]; exact v2 i (by omega)
    · rw [hP 1 0 i (by omega), u2 i hi, ad1 2 i (by omega)]
    · rw [hP 8 0 i (by omega), u4 i hi, ad1 9 i (by omega)]
  · have eL : ∀ t, t ≠ yn Y 3 → sL (uL S1 12 0 md e (List.range (yn Y 3) ++ [yn Y 3])) 13 t = sL S 13 t := fun t ht => (sL_uL (by omega)).trans (eq1 13 t (by omega) (by omega) (by omega) (by omega)).2.2.2.2.1
    have eL0 : sL (uL S1 12 0 md e (List.range (yn Y 3) ++ [yn Y 3])) 13 (yn Y 3) = [] := (sL_uL (by omega)).trans l13'
    have eX : ∀ s, sX (uL S1 12 0 md e (List.range (yn Y 3) ++ [yn Y 3])) 4 s 5 = sX S 4 s 5 := fun s => congrFun (eq1 4 s (by omega) (by omega) (by omega) (by omega)).2.2.1 5
    have eI : ∀ s, sI (uL S1 12 0 md e (List.range (yn Y 3) ++ [yn Y 3])) 4 s 4 = sI S 4 s 4 := fun s => (sI_uL (by omega)).trans (congrFun (eq1 4 s (by omega) (by omega) (by omega) (by omega)).1 4)
    have y4 := n0 4 (by omega) (by omega) (by omega) (by omega)
    refine ⟨fun t ht => ?_, fun s t hs hxs => ?_⟩
    · by_cases z : t = yn Y 3
      · rw [z, eL0]
        exact ⟨List.nodup_nil, fun s hs => by cases hs⟩
      · rw [eL t z]
        have ht' : t < yn Y 3 := by omega
        exact ⟨(Q.1 t ht').1, fun s hs => (eX s).trans ((Q.1 t ht').2 s hs)⟩
    · rw [eX] at hxs
      have hs' : s < yn Y 4 := by omega
      have ht := H.lX (k := 4) (f := 5) (kt := 3) hs' rfl t hxs
      rw [eI, eL t (by omega)]
      exact Q.2 s t hs' hxs
end SIM13
section SIM13b
variable {g : Nat → Nat} {Y : mY} {S : mS} {M : mM} {N : mN}
theorem C_sleeper (H : mR g Y S M) (W : mWs Y S) (Q : mWq Y S) (R : RC 99 N Y S) {a b p : Int32} (hb01 : b = 0 ∨ b = 1) {κ : Int32 → mM → Prop} {ξ : String → mM → Prop} (h1 : (fSleeper N a b p).1 = 1 → ξ "java/lang/IndexOutOfBoundsException" M) (h2 : (fSleeper N a b p).1 = 2 → ξ "java/lang/IllegalArgumentException" M) (h3 : (fSleeper N a b p).1 = 3 → ξ "java/lang/IllegalStateException" M)
    (h : ∀ v N' Y' S' M', fSleeper N a b p = (0, v, N') → cX g N' Y S Y' S' M' → κ v M') : wX8_sleeper g κ ξ (some (yA Y 0 0)) a b p M := by
  have c28 : nn N 28 = yn Y 4 := R.1.2.1.symm
  unfold fSleeper at h1 h2 h3 h
  rw [c28] at h1 h2 h3 h
  refine x_sleeper H W Q hb01 (fun z => h1 (by rw [if_pos z])) (fun z1 z2 => h2 (by rw [if_neg (fun w => w z1), if_pos z2])) (fun z1 z2 z3 => h3 (by rw [if_neg (fun w => w z1), if_neg (fun w => w z2), if_pos z3])) (fun Y1 S1 M1 z1 z2 z3 H1 W1 Q1 F1 _ n3 n4 m n0 hI hX hN => ?_)
  refine h _ (nNew N 28 (sFs a b p)) Y1 S1 M1 (by rw [if_neg (fun w => w z1), if_neg (fun w => w z2), if_neg (fun w => w z3)]) ⟨H1, W1, Q1, F1, R.nw H W m (fun k hk => n0 k (by omega)) ⟨?_, ?_, ?_⟩ (R.hk m (n0 6 (by omega)) rfl) (fun k i f _ q _ => nv_N (fun w => ?_)) (fun _ _ => rfl) (fun _ _ _ => rfl) (fun t q1 q2 => absurd q2 (by omega)) (fun s q1 q2 => ?_) (fun q q1 q2 => absurd q2 (by rw [n0 5 (by omega)]; exact q1))⟩
  · rw [nn_N (by omega), n3, R.1.1]
  · rw [nn_N_s, n4, c28]
  · rw [nn_N (by omega), n0 5 (by omega), R.1.2.2]
  · have := q w.1
    rw [w.2, c28] at this
    omega
  · have es : s = yn Y 4 := by omega
    subst es
    have e : ∀ f, nv (nNew N 28 (sFs a b p)) 28 (yn Y 4) f = sFs a b p f := fun f => by rw [← c28]; exact nv_N_s
    refine ⟨fun f f' hm => ?_, ?_, ?_, ?_, hI 6, ?_, hX 5, hX 7⟩
    · rw [e, hI]
      unfold cM at hm
      split at hm <;> first | (cases hm; rfl) | (cases hm; done) | skip
      all_goals omega
    · rw [e]; exact hN
    · rw [e]; rfl
    · rw [e]; rfl
    · rw [e]; rfl
theorem C_part (H : mR g Y S M) (W : mWs Y S) (Q : mWq Y S) (R : RC 99 N Y S) {a b p d : Int32} {κ : Int32 → mM → Prop} {ξ : String → mM → Prop} (h1 : (fPart N a b p d).1 = 1 → ξ "java/lang/IndexOutOfBoundsException" M) (h2 : (fPart N a b p d).1 = 2 → ξ "java/lang/IllegalArgumentException" M) (h3 : (fPart N a b p d).1 = 3 → ξ "java/lang/IllegalStateException" M)
    (h : ∀ v N' Y' S' M', fPart N a b p d = (0, v, N') → cX g N' Y S Y' S' M' → κ v M') : wX8_part g κ ξ (some (yA Y 0 0)) a b p d M := by
  have hbd := W.2.1
  have c29 : nn N 29 = yn Y 5 := R.1.2.2.symm
  unfold fPart at h1 h2 h3 h
  rw [c29, ← R.1.2.1] at h1 h2 h3 h
  have i3 : ∀ s, s < yn Y 4 → sI S 4 s 4 = nv N 28 s 3 := fun s hs => R.2.1 4 s 4 28 3 rfl hs (by omega)
  refine x_part H W Q (fun z => h1 (by rw [if_pos z])) (fun z1 z2 => h2 (by rw [if_neg (fun w => w z1), if_pos z2])) (fun s hs es z2 z3 => h3 ?_) (fun s Y1 S1 M1 hs es z2 z3 z4 P1 m n0 n5 hI hX => ?_)
  · have hv : ¬ a < 0 ∧ a < nI (yn Y 4) := by rw [es]; exact m_in hs (by omega)
    rw [if_neg (fun w => w hv), if_neg (fun w => w z2), es, tN_nI (by omega), ← i3 s hs, if_pos z3]
  · have hv : ¬ a < 0 ∧ a < nI (yn Y 4) := by rw [es]; exact m_in hs (by omega)
    obtain ⟨H1, W1, Q1, F1, -⟩ := P1
    have ev : fPart N a b p d = (0, nI (yn Y 5), nNew N 29 (pFs a b p d)) := by
      unfold fPart
      rw [c29, ← R.1.2.1, if_neg (fun w => w hv), if_neg (fun w => w z2), es, tN_nI (by omega), ← i3 s hs, if_neg (fun w => w.elim (fun w => w z3) (fun w => w z4))]
    unfold fPart at ev
    rw [c29, ← R.1.2.1] at ev
    refine h _ (nNew N 29 (pFs a b p d)) Y1 S1 M1 ev ⟨H1, W1, Q1, F1, R.nw H W m (fun k hk => n0 k (by omega)) ⟨?_, ?_, ?_⟩ (R.hk m (n0 6 (by omega)) rfl) (fun k i f _ _ q => nv_N (fun w => ?_)) (fun _ _ => rfl) (fun _ _ _ => rfl) (fun t q1 q2 => absurd q2 (by rw [n0 3 (by omega)]; exact q1)) (fun s q1 q2 => absurd q2 (by rw [n0 4 (by omega)]; exact q1)) (fun q q1 q2 => ?_)⟩
    · rw [nn_N (by omega), n0 3 (by omega), R.1.1]
    · rw [nn_N (by omega), n0 4 (by omega), R.1.2.1]
    · rw [nn_N_s, n5, c29]
    · have := q w.1
      rw [w.2, c29] at this
      omega
    · have eq : q = yn Y 5 := by omega
      subst eq
      have e : ∀ f, nv (nNew N 29 (pFs a b p d)) 29 (yn Y 5) f = pFs a b p d f := fun f => by rw [← c29]; exact nv_N_s
      refine ⟨fun f f' hm => ?_, ?_, ?_, fun w => ?_⟩
      · rw [e, hI]
        unfold cM at hm
        split at hm <;> first | (cases hm; rfl) | (cases hm; done) | skip
        all_goals omega
      · rw [e, hX, hX]; exact es
      · rw [e, hX]; rfl
      · exact absurd (hX 6) w
theorem C_gate (H : mR g Y S M) (W : mWs Y S) (Q : mWq Y S) (R : RC 99 N Y S) {a b f hh : Int32} {κ : Int32 → mM → Prop} {ξ : String → mM → Prop} (h1 : (fGate N a b f hh).1 = 1 → ξ "java/lang/IndexOutOfBoundsException" M) (h2 : (fGate N a b f hh).1 = 2 → ξ "java/lang/IllegalArgumentException" M) (h3 : (fGate N a b f hh).1 = 3 → ξ "java/lang/IllegalStateException" M)
    (h : ∀ v N' Y' S' M', fGate N a b f hh = (0, v, N') → cX g N' Y S Y' S' M' → κ v M') : wX8_gate g κ ξ (some (yA Y 0 0)) a b f hh M := by
  have c23 : nn N 23 = yn Y 3 := R.1.1.symm
  unfold fGate at h1 h2 h3 h
  rw [c23] at h1 h2 h3 h
  refine x_gate H W Q (fun z => h1 (by rw [if_pos z])) (fun z1 z2 => h2 (by rw [if_neg (fun w => w z1), if_pos z2])) (fun z1 z2 z3 z4 => h3 (by rw [if_neg (fun w => w z1), if_neg (fun w => w.elim z2 (fun w => w z3)), if_pos z4])) (fun Y1 S1 M1 z1 z2 z3 z4 H1 W1 Q1 F1 _ _ n3 n4 m n0 hI hA hB hL hJ => ?_)
  refine h _ (nGate N a b f hh) Y1 S1 M1 (by rw [if_neg (fun w => w z1), if_neg (fun w => w.elim z2 (fun w => w z3)), if_neg (fun w => w z4)]) ⟨H1, W1, Q1, F1, R.nw H W m (fun k hk => n0 k (by omega) (by omega)) ⟨?_, ?_, ?_⟩ (R.hk m (n0 6 (by omega) (by omega)) rfl) (fun k i f' q _ _ => nv_N (fun w => ?_)) (fun t ht => ?_) (fun t v ht => ?_) (fun t q1 q2 => ?_) (fun s q1 q2 => absurd q2 (by rw [n4]; exact q1)) (fun q q1 q2 => absurd q2 (by rw [n0 5 (by omega) (by omega)]; exact q1))⟩
  · exact n3.trans (by rw [← c23]; exact (nn_N_s (N := N) (k := 23) (fs := gFs a b f hh)).symm)
  · exact (n4.trans R.1.2.1).trans (nn_N (N := N) (k := 23) (k' := 28) (fs := gFs a b f hh) (by omega)).symm
  · exact ((n0 5 (by omega) (by omega)).trans R.1.2.2).trans (nn_N (N := N) (k := 23) (k' := 29) (fs := gFs a b f hh) (by omega)).symm
  · have := q w.1
    rw [w.2, c23] at this
    omega
  · exact nq_Q (by rw [c23]; omega)
  · exact if_neg (by rw [c23]; omega)
  · have et : t = yn Y 3 := by omega
    subst et
    have e : ∀ f', nv (nGate N a b f hh) 23 (yn Y 3) f' = gFs a b f hh f' := fun f' => by rw [← c23]; exact nv_N_s (N := N) (k := 23) (fs := gFs a b f hh)
    refine ⟨fun f1 f' hm => ?_, ?_, ?_, ?_, fun v hv => ?_⟩
    · rw [e, hI]
      unfold cM at hm
      split at hm <;> first | (cases hm; rfl) | (cases hm; done) | skip
      all_goals omega
    · rw [e]; exact hA
    · rw [e]; exact hB
    · rw [hL]
      exact (by rw [← c23]; exact nq_Q_s.symm)
    · have v0 : vBit 0 0 v = false := by
        unfold vBit
        by_cases w : v < 64
        · rw [if_pos w]; simp
        · rw [if_neg w]; simp
      rw [hJ 10 0 (Or.inl rfl), hJ 10 1 (Or.inl rfl), hJ 11 0 (Or.inr rfl), hJ 11 1 (Or.inr rfl), v0]
      have e1 : nr (nGate N a b f hh) (yn Y 3) v = false := by rw [← c23]; exact if_pos rfl
      exact ⟨e1, fun _ w => absurd w (by decide)⟩
end SIM13b
