/-! THE PURE SIDE, 9: the class's methods that make objects -/
def m_fvO (Y : mY) (fI : Nat → Int32) (fJ : Nat → Int64) (fX : Nat → Option Nat) (fN : Nat → Nat) (xs : List Nat) (e i f : Nat) (t : Nat × Nat × Nat) : Value := match t.1 with
  | 0 => .int (fI f)
  | 1 => .long (fJ f)
  | 2 => va_rf (some (yA Y t.2.1 (fN f)))
  | 3 => va_rf ((fX f).map (yA Y t.2.1))
  | 4 => va_rf (some e)
  | 5 => .int (nI xs.length)
  | 6 => va_rf (some (yA Y t.2.1 t.2.2))
  | 7 => va_rf (some (yA Y t.2.1 i))
  | _ => va_rf (fX f)
/-- what is known of the state in which a cell has become one of a kind -/
def mAl (Y : mY) (S : mS) (k q : Nat) (fI : Nat → Int32) (fJ : Nat → Int64) (fX : Nat → Option Nat) (fN : Nat → Nat) (xs : List Nat) (e : Nat) (Y1 : mY) (S1 : mS) : Prop :=
  (∀ k' i', i' < yn Y k' → yA Y1 k' i' = yA Y k' i') ∧ yn Y1 k = yn Y k + 1 ∧ (∀ k', k' ≠ k → yn Y1 k' = yn Y k') ∧ yA Y1 k (yn Y k) = q ∧ (∀ k' i', ¬ (k' = k ∧ i' = yn Y k) → mEq S1 S k' i') ∧ sI S1 k (yn Y k) = fI ∧ sJ S1 k (yn Y k) = fJ ∧ sX S1 k (yn Y k) = fX ∧ sN S1 k (yn Y k) = fN ∧ sL S1 k (yn Y k) = xs ∧ se S1 k (yn Y k) = e
def m_lvO (Y : mY) (fX : Nat → Option Nat) (fN : Nat → Nat) (i f : Nat) (t : Nat × Nat × Nat) : Prop := (t.1 = 2 → fN f < yn Y t.2.1) ∧ (t.1 = 3 → ∀ j, fX f = some j → j < yn Y t.2.1) ∧ (t.1 = 6 → t.2.2 < yn Y t.2.1) ∧ (t.1 = 7 → i < yn Y t.2.1)
section MALLOC
variable {g : Nat → Nat} {Y : mY} {S : mS} {M : mM}
theorem mR.alloc2 (H : mR g Y S M) {k q : Nat} (hF : mFr Y S q) (fI : Nat → Int32) (fJ : Nat → Int64) (fX : Nat → Option Nat) (fN : Nat → Nat) (xs : List Nat) (e : Nat) (hak : m_ak k = 99) (h3 : k ≠ 33) (h4 : k ≠ 34) (hL : mLk k = true → e = yA Y 34 0 ∧ xs = [])
    (hM : M q = some (.inr (m_cls k, (m_fds k).mapIdx (fun f t => m_fvO (aY Y k q) fI fJ fX fN xs e (yn Y k) f t)))) (hlv : ∀ f t, (m_fds k)[f]? = some t → m_lvO (aY Y k q) fX fN (yn Y k) f t) : ∃ Y1 S1, mR g Y1 S1 M ∧ mAl Y S k q fI fJ fX fN xs e Y1 S1 := by
  have e1 : sI (uO S k (yn Y k) fI fJ fX fN xs e 0 (fun _ => 0) (fun _ => none)) k (yn Y k) = fI := if_pos ⟨rfl, rfl⟩
  have e2 : sJ (uO S k (yn Y k) fI fJ fX fN xs e 0 (fun _ => 0) (fun _ => none)) k (yn Y k) = fJ := if_pos ⟨rfl, rfl⟩
  have e3 : sX (uO S k (yn Y k) fI fJ fX fN xs e 0 (fun _ => 0) (fun _ => none)) k (yn Y k) = fX := if_pos ⟨rfl, rfl⟩
  have e4 : sN (uO S k (yn Y k) fI fJ fX fN xs e 0 (fun _ => 0) (fun _ => none)) k (yn Y k) = fN := if_pos ⟨rfl, rfl⟩
  have e5 : sL (uO S k (yn Y k) fI fJ fX fN xs e 0 (fun _ => 0) (fun _ => none)) k (yn Y k) = xs := if_pos ⟨rfl, rfl⟩
  have e6 : se (uO S k (yn Y k) fI fJ fX fN xs e 0 (fun _ => 0) (fun _ => none)) k (yn Y k) = e := if_pos ⟨rfl, rfl⟩
  generalize hS : uO S k (yn Y k) fI fJ fX fN xs e 0 (fun _ => 0) (fun _ => none) = S1 at e1 e2 e3 e4 e5 e6
  have hs : ∀ k' i', ¬ (k' = k ∧ i' = yn Y k) → mEq S1 S k' i' := fun k' i' z => by rw [← hS]; exact mEq.uO z
  have hfv : ∀ f t, m_fv (aY Y k q) S1 k (yn Y k) f t = m_fvO (aY Y k q) fI fJ fX fN xs e (yn Y k) f t := fun f t => by
    unfold m_fv m_fvO
    rw [e1, e2, e3, e4, e5, e6]
    rfl
  refine ⟨aY Y k q, S1, H.alloc hF S1 (fun k' i' hi => hs k' i' (fun z => ?_)) ?_ ?_ (fun f t ht => ?_) h3 h4, fun k' i' hi => aY_A hi, aY_n, fun k' z => aY_nn z, aY_q, hs, e1, e2, e3, e4, e5, e6⟩
  · obtain ⟨rfl, rfl⟩ := z
    exact Nat.lt_irrefl _ hi
  · rw [hM, m_cellO hak]
    refine congrArg (fun z => some (Sum.inr (m_cls k, (m_fds k).mapIdx z))) (funext fun f => funext fun t => (hfv f t).symm)
  · intro hk
    rw [e5, e6]
    exact hL hk
  · have := hlv f t ht
    unfold m_lv
    unfold m_lvO at this
    rw [e3, e4]
    exact this
theorem mAl.F {k q e : Nat} {fI : Nat → Int32} {fJ : Nat → Int64} {fX : Nat → Option Nat} {fN : Nat → Nat} {xs : List Nat} {Y1 : mY} {S1 : mS} (h : mAl Y S k q fI fJ fX fN xs e Y1 S1) (hk : k < 20) : mFc Y S Y1 S1 := by
  obtain ⟨a1, a2, a3, a4, a5, -⟩ := h
  refine ⟨a1, fun k' => ?_, fun k' hk' => ⟨a3 k' (by omega), fun i => a5 k' i (by omega)⟩⟩
  by_cases z : k' = k
  · subst z; omega
  · rw [a3 k' z]; exact Nat.le_refl _
theorem mAl.Fm {k q e : Nat} {fI : Nat → Int32} {fJ : Nat → Int64} {fX : Nat → Option Nat} {fN : Nat → Nat} {xs : List Nat} {Y1 : mY} {S1 : mS} (h : mAl Y S k q fI fJ fX fN xs e Y1 S1) (hk : 20 ≤ k ∧ k ≠ 31 ∧ ¬ (35 ≤ k ∧ k ≤ 37)) : mFm Y S Y1 S1 := by
  obtain ⟨a1, a2, a3, a4, a5, -⟩ := h
  refine ⟨a1, fun k' => ?_, fun k' hk' => ⟨a3 k' (by omega), fun i => a5 k' i (by omega)⟩⟩
  by_cases z : k' = k
  · subst z; omega
  · rw [a3 k' z]; exact Nat.le_refl _
theorem mAl.fr {k q e q' : Nat} {fI : Nat → Int32} {fJ : Nat → Int64} {fX : Nat → Option Nat} {fN : Nat → Nat} {xs : List Nat} {Y1 : mY} {S1 : mS} (h : mAl Y S k q fI fJ fX fN xs e Y1 S1) (hF : mFr Y S q') (hn : q ≠ q') (hL : mLk k = true → e ≠ q') : mFr Y1 S1 q' := by
  obtain ⟨a1, a2, a3, a4, a5, -, -, -, -, -, a6⟩ := h
  have hlt : ∀ k' i', i' < yn Y1 k' → ¬ (k' = k ∧ i' = yn Y k) → i' < yn Y k' := by
    intro k' i' hi z
    by_cases w : k' = k
    · subst w
      have : i' ≠ yn Y k' := fun e => z ⟨rfl, e⟩
      omega
    · rwa [a3 k' w] at hi
  refine ⟨fun k' i' hi => ?_, fun k' i' hk hi => ?_⟩
  · by_cases z : k' = k ∧ i' = yn Y k
    · obtain ⟨rfl, rfl⟩ := z
      rw [a4]
      exact hn
    · rw [a1 k' i' (hlt k' i' hi z)]
      exact hF.1 k' i' (hlt k' i' hi z)
  · by_cases z : k' = k ∧ i' = yn Y k
    · obtain ⟨rfl, rfl⟩ := z
      rw [a6]
      exact hL hk
    · rw [(a5 k' i' z).2.2.2.2.2.1]
      exact hF.2 k' i' hk (hlt k' i' hi z)
theorem mFr.ne {q : Nat} (hF : mFr Y S q) {k i : Nat} (hi : i < yn Y k) : yA Y k i ≠ q := hF.1 k i hi
/-- the structure, where a kind that it doesn't count has one more -/
theorem mAl.W16 {q e : Nat} {fI : Nat → Int32} {fJ : Nat → Int64} {fX : Nat → Option Nat} {fN : Nat → Nat} {xs : List Nat} {Y1 : mY} {S1 : mS} (h : mAl Y S 16 q fI fJ fX fN xs e Y1 S1) (W : mWs Y S) : mWs Y1 S1 := by
  obtain ⟨a1, a2, a3, a4, a5, -⟩ := h
  have n0 := a3 0 (by omega); have n1 := a3 1 (by omega); have n2 := a3 2 (by omega); have n3 := a3 3 (by omega); have n4 := a3 4 (by omega); have n5 := a3 5 (by omega); have n6 := a3 6 (by omega); have n7 := a3 7 (by omega); have n8 := a3 8 (by omega); have n9 := a3 9 (by omega); have n10 := a3 10 (by omega); have n11 := a3 11 (by omega); have n12 := a3 12 (by omega); have n13 := a3 13 (by omega)
  obtain ⟨w1, w2, w3, ⟨v1, v2, v3, v4⟩, ⟨u1, u2⟩, ⟨u3, u4⟩, u5, u6⟩ := W
  have hI : ∀ k i f, k ≠ 16 → sI S1 k i f = sI S k i f := fun k i f hk => by rw [(a5 k i (by omega)).1]
  have hL : ∀ i, sL S1 12 i = sL S 12 i := fun i => (a5 12 i (by omega)).2.2.2.2.1
  have hC : ∀ k i, k ≠ 16 → sC S1 k i = sC S k i := fun k i hk => (a5 k i (by omega)).2.2.2.2.2.2.1
  have hP : ∀ k i j, k ≠ 16 → sP S1 k i j = sP S k i j := fun k i j hk => by rw [(a5 k i (by omega)).2.2.2.2.2.2.2.2]
  refine ⟨by rw [n0, n1, n2, n3, n7, n8, n9, n10, n11, n12, n13]; exact w1, by rw [n3, n4, n5, n6]; exact w2, by rw [hL, hL, hL, hL, n3, n4, n5, n6]; exact w3, ⟨fun i hi => (hI 2 i 0 (by omega)).trans (v1 i hi), fun i hi => (hI 3 i 0 (by omega)).trans (v2 i (by omega)), fun i hi => (hI 4 i 0 (by omega)).trans (v3 i (by omega)), fun i hi => (hI 5 i 0 (by omega)).trans (v4 i (by omega))⟩, ⟨(hC 1 0 (by omega)).trans u1, fun i hi => ?_⟩, ⟨(hC 8 0 (by omega)).trans u3, fun i hi => ?_⟩, fun i hi => (hC 9 i (by omega)).trans (u5 i hi), (hC 9 9 (by omega)).trans u6⟩
  · rw [hP 1 0 i (by omega), u2 i hi, a1 2 i (by omega)]
  · rw [hP 8 0 i (by omega), u4 i hi, a1 9 i (by omega)]
theorem mAl.Q {k q e : Nat} {fI : Nat → Int32} {fJ : Nat → Int64} {fX : Nat → Option Nat} {fN : Nat → Nat} {xs : List Nat} {Y1 : mY} {S1 : mS} (h : mAl Y S k q fI fJ fX fN xs e Y1 S1) (hk : k ≠ 3 ∧ k ≠ 4 ∧ k ≠ 13) (Q : mWq Y S) : mWq Y1 S1 := by
  obtain ⟨a1, a2, a3, a4, a5, -⟩ := h
  have eL : ∀ t, sL S1 13 t = sL S 13 t := fun t => (a5 13 t (by omega)).2.2.2.2.1
  have eX : ∀ s, sX S1 4 s 5 = sX S 4 s 5 := fun s => by rw [(a5 4 s (by omega)).2.2.1]
  have eI : ∀ s, sI S1 4 s 4 = sI S 4 s 4 := fun s => by rw [(a5 4 s (by omega)).1]
  refine ⟨fun t ht => ?_, fun s t hs hx => ?_⟩
  · rw [eL]
    exact ⟨(Q.1 t (by rw [← a3 3 (by omega)]; exact ht)).1, fun s hs => (eX s).trans ((Q.1 t (by rw [← a3 3 (by omega)]; exact ht)).2 s hs)⟩
  · rw [eX] at hx
    rw [eI, eL]
    exact Q.2 s t (by rw [← a3 4 (by omega)]; exact hs) hx
theorem c_sing (H : mR g Y S M) (W : mWs Y S) (Q : mWq Y S) {a b n v : Int32} {κ : Int32 → mM → Prop} {ξ : String → mM → Prop} (hx : ∀ E, E = "java/lang/IndexOutOfBoundsException" ∨ E = "java/lang/IllegalArgumentException" → ξ E M) (h : ∀ x Y' S' M', cP g Y S Y' S' M' → κ x M') : wX8_sing κ ξ (some (yA Y 0 0)) a b n v M := by
  refine s_rc H W.x0 rfl rfl (c_sleeperN H W (fun s hs _ => s_rc H W.x0 rfl rfl (c_gateN H W (fun t ht _ => ?_) (fun _ => hx _ (Or.inl rfl)))) (fun _ => hx _ (Or.inl rfl)))
  refine s_gI H W.x0 rfl rfl rfl (c_range H (fun _ _ => c_range H (fun _ _ => ?_) (fun _ => hx _ (Or.inr rfl))) (fun _ => hx _ (Or.inr rfl)))
  refine r_new (fun q M1 hq h1 o1 => r_rc h1 ⟨q, rfl, r_p h1 (by simp) (fun M2 h2 o2 => r_p h2 (by simp) (fun M3 h3 o3 => r_p h3 (by simp) (fun M4 h4 o4 => ?_)))⟩)
  have hF := H.fr hq
  have H4 : mR g Y S M4 := H.off hF (fun q' z => (o4 q' z).trans ((o3 q' z).trans ((o2 q' z).trans (o1 q' z))))
  obtain ⟨Y1, S1, H5, A⟩ := H4.alloc2 (k := 16) hF (fun f => match f with | 1 => n | _ => v) (fun _ => 0) (fun _ => none) (fun _ => t) [] 0 rfl (by decide) (by decide) (fun z => absurd z (by decide)) h4 (fun f t' ht' => by
    rcases f with _ | _ | _ | f
    · cases ht'; exact ⟨fun _ => Nat.lt_of_lt_of_le ht aY_le, fun z => absurd z (by decide), fun z => absurd z (by decide), fun z => absurd z (by decide)⟩
    · cases ht'; exact ⟨fun z => absurd z (by decide), fun z => absurd z (by decide), fun z => absurd z (by decide), fun z => absurd z (by decide)⟩
    · cases ht'; exact ⟨fun z => absurd z (by decide), fun z => absurd z (by decide), fun z => absurd z (by decide), fun z => absurd z (by decide)⟩
    · cases ht')
  have W1 := A.W16 W
  have Q1 := A.Q ⟨by omega, by omega, by omega⟩ Q
  have F1 := A.F (by omega)
  obtain ⟨a1, a2, a3, a4, a5, -⟩ := A
  rw [← a4, ← a1 4 s hs, ← a1 3 t ht]
  have hs1 : s < yn Y1 4 := by rw [a3 4 (by omega)]; exact hs
  refine s_pX1 H5 hs1 rfl rfl rfl (by rw [a2]; omega) (fun M5 H6 => c_rightVerse H6 hs1 (by rw [a3 3 (by omega)]; exact ht) (fun x => h x _ _ M5 ⟨H6, W1.uX, Q1.uX (by omega), F1.tr (mFc.uX (by omega)), ⟨fun k i f q => congrFun (a5 k i (by have := qC_d q; omega)).1 f, a3 3 (by omega), a3 4 (by omega)⟩⟩))

theorem c_sleeper (H : mR g Y S M) (W : mWs Y S) (Q : mWq Y S) {a b p : Int32} (hb01 : b = 0 ∨ b = 1) {κ : Int32 → mM → Prop} {ξ : String → mM → Prop} (hI : ¬ (¬ a < 0 ∧ a < 6) → ξ "java/lang/IndexOutOfBoundsException" M) (hA : (¬ a < 0 ∧ a < 6) → ¬ (¬ p < 1 ∧ p ≤ 9) → ξ "java/lang/IllegalArgumentException" M) (hS : (¬ a < 0 ∧ a < 6) → (¬ p < 1 ∧ p ≤ 9) → ¬ yn Y 4 < 12 → ξ "java/lang/IllegalStateException" M) (h : ∀ Y' S' M', (¬ a < 0 ∧ a < 6) → (¬ p < 1 ∧ p ≤ 9) → yn Y 4 < 12 → mR g Y' S' M' → mWs Y' S' → mWq Y' S' → mFc Y S Y' S' → (∀ k i f, qC k f = true → sI S' k i f = sI S k i f) → yn Y' 3 = yn Y 3 → yn Y' 4 = yn Y 4 + 1 → κ (nI (yn Y 4)) M') : wX8_sleeper g κ ξ (some (yA Y 0 0)) a b p M := by
  have hbd := W.2.1
  refine s_rc H W.x0 rfl rfl (c_landN H W (fun l hl ea => c_range H (fun r1 r2 => ?_) (fun z => hA (by rw [ea]; exact m_in (n := 6) hl (by omega)) z)) (fun z => hI z))
  have va : ¬ a < 0 ∧ a < 6 := by rw [ea]; exact m_in (n := 6) hl (by omega)
  refine s_gR6 H W.x0 rfl rfl rfl (s_rcL H rfl (W.l12 (by omega)) (c_szS H W (br_c (fun z => ?_) (fun z => hS va ⟨r1, r2⟩ (fun w => z (show nI (yn Y 4) < nI 12 from nI_lt w (by omega)))))))
  have hn : yn Y 4 < 12 := (nI_ltI (b := 12) (by omega) (by omega)).mp z
  refine r_new (fun q M1 hq h1 o1 => ?_)
  have hF := H.fr hq
  have H1 : mR g Y S M1 := H.off hF o1
  refine s_gR6 H1 W.x0 rfl rfl rfl (s_rcL H1 rfl (W.l12 (by omega)) (c_szS H1 W (r_rc h1 ⟨q, rfl, r_p h1 (by simp) (fun M2 h2 o2 => r_p h2 (by simp) (fun M3 h3 o3 => r_p h3 (by simp) (fun M4 h4 o4 => ⟨hb01, r_p h4 (by simp) (fun M5 h5 o5 => r_p h5 (by simp) (fun M6 h6 o6 => ?_))⟩)))⟩)))
  have H6 : mR g Y S M6 := H1.off hF (fun q' z => (o6 q' z).trans ((o5 q' z).trans ((o4 q' z).trans ((o3 q' z).trans (o2 q' z)))))
  obtain ⟨Y1, S1, H7, A⟩ := H6.alloc2 (k := 4) hF (fun f => match f with | 0 => nI (yn Y 4) | 1 => b | 3 => p | _ => 0) (fun _ => 0) (fun _ => none) (fun _ => l) [] 0 rfl (by decide) (by decide) (fun z => absurd z (by decide)) h6 (fun f t' ht' => by
    have hl2 : l < yn Y 2 := W.l2 hl
    rcases f with _ | _ | _ | _ | _ | _ | _ | _ | _ | f <;> cases ht' <;> first | exact ⟨fun _ => Nat.lt_of_lt_of_le hl2 aY_le, fun _ j hj => (by cases hj), fun z => absurd z (by decide), fun z => absurd z (by decide)⟩ | exact ⟨fun z => absurd z (by decide), fun _ j hj => (by cases hj), fun z => absurd z (by decide), fun z => absurd z (by decide)⟩)
  have F1 := A.F (by omega)
  obtain ⟨a1, a2, a3, a4, a5, a6, -, a8, -⟩ := A
  rw [← a4, ← a1 0 0 W.x0]
  have hn12 : 1 < yn Y1 12 := by rw [a3 12 (by omega)]; exact W.l12 (by omega)
  have e12 : sL S1 12 1 = List.range (yn Y 4) := ((a5 12 1 (by omega)).2.2.2.2.1).trans W.2.2.1.2.1
  refine s_gR6 H7 (by rw [a3 0 (by omega)]; exact W.x0) rfl rfl rfl (s_rcL H7 rfl hn12 (s_add (k := 12) (i := 1) (x := yn Y 4) (cap := 12) H7 rfl hn12 (show yn Y 4 < yn Y1 4 by omega) (by rw [e12, List.length_range]; exact hn) (by decide) (fun M7 md e H8 => ?_)))
  rw [e12] at H8
  refine s_gI H8 (show yn Y 4 < yn Y1 4 by omega) rfl rfl rfl ?_
  rw [show sI (uL S1 12 1 md e (List.range (yn Y 4) ++ [yn Y 4])) 4 (yn Y 4) 0 = nI (yn Y 4) from (sI_uL (by omega)).trans (congrFun a6 0)]
  refine h Y1 _ M7 va ⟨r1, r2⟩ hn H8 ?_ ?_ (F1.tr (mFc.uL (by omega))) (fun k i f q => (sI_uL (by have := qC_d q; omega)).trans (congrFun (a5 k i (by have := qC_d q; omega)).1 f)) (a3 3 (by omega)) a2
  · obtain ⟨w1, w2, w3, ⟨v1, v2, v3, v4⟩, ⟨u1, u2⟩, ⟨u3, u4⟩, u5, u6⟩ := W
    have n0 := a3 0 (by omega); have n1 := a3 1 (by omega); have n2 := a3 2 (by omega); have n3 := a3 3 (by omega); have n5 := a3 5 (by omega); have n6 := a3 6 (by omega); have n7 := a3 7 (by omega); have n8 := a3 8 (by omega); have n9 := a3 9 (by omega); have n10 := a3 10 (by omega); have n11 := a3 11 (by omega); have n12 := a3 12 (by omega); have n13 := a3 13 (by omega)
    have hI : ∀ k i f, k ≠ 4 → k ≠ 12 → sI (uL S1 12 1 md e (List.range (yn Y 4) ++ [yn Y 4])) k i f = sI S k i f := fun k i f hk hk' => (sI_uL (by omega)).trans (by rw [(a5 k i (by omega)).1])
    have hI4 : ∀ i f, i ≠ yn Y 4 → sI (uL S1 12 1 md e (List.range (yn Y 4) ++ [yn Y 4])) 4 i f = sI S 4 i f := fun i f hi => (sI_uL (by omega)).trans (by rw [(a5 4 i (by omega)).1])
    have hI4' : sI (uL S1 12 1 md e (List.range (yn Y 4) ++ [yn Y 4])) 4 (yn Y 4) 0 = nI (yn Y 4) := (sI_uL (by omega)).trans (congrFun a6 0)
    have hL : ∀ i, i ≠ 1 → sL (uL S1 12 1 md e (List.range (yn Y 4) ++ [yn Y 4])) 12 i = sL S 12 i := fun i hi => (sL_uL (by omega)).trans (a5 12 i (by omega)).2.2.2.2.1
    have hL1 : sL (uL S1 12 1 md e (List.range (yn Y 4) ++ [yn Y 4])) 12 1 = List.range (yn Y 4 + 1) := sL_uL_s.trans List.range_succ.symm
    have hC : ∀ k i, k ≠ 4 → sC (uL S1 12 1 md e (List.range (yn Y 4) ++ [yn Y 4])) k i = sC S k i := fun k i hk => (a5 k i (by omega)).2.2.2.2.2.2.1
    have hP : ∀ k i j, k ≠ 4 → sP (uL S1 12 1 md e (List.range (yn Y 4) ++ [yn Y 4])) k i j = sP S k i j := fun k i j hk => congrFun (a5 k i (by omega)).2.2.2.2.2.2.2.2 j
    refine ⟨by rw [n0, n1, n2, n3, n7, n8, n9, n10, n11, n12, n13]; exact w1, by rw [n3, a2, n5, n6]; omega, by rw [hL 0 (by omega), hL1, hL 2 (by omega), hL 3 (by omega), n3, a2, n5, n6]; exact ⟨w3.1, rfl, w3.2.2⟩, ⟨fun i hi => (hI 2 i 0 (by omega) (by omega)).trans (v1 i hi), fun i hi => (hI 3 i 0 (by omega) (by omega)).trans (v2 i (by omega)), fun i hi => ?_, fun i hi => (hI 5 i 0 (by omega) (by omega)).trans (v4 i (by omega))⟩, ⟨(hC 1 0 (by omega)).trans u1, fun i hi => ?_⟩, ⟨(hC 8 0 (by omega)).trans u3, fun i hi => ?_⟩, fun i hi => (hC 9 i (by omega)).trans (u5 i hi), (hC 9 9 (by omega)).trans u6⟩
    · by_cases z : i = yn Y 4
      · rw [z]; exact hI4'
      · rw [hI4 i 0 z]; exact v3 i (by omega)
    · rw [hP 1 0 i (by omega), u2 i hi, a1 2 i (by omega)]
    · rw [hP 8 0 i (by omega), u4 i hi, a1 9 i (by omega)]
  · have eL : ∀ t, sL (uL S1 12 1 md e (List.range (yn Y 4) ++ [yn Y 4])) 13 t = sL S 13 t := fun t => (sL_uL (by omega)).trans (a5 13 t (by omega)).2.2.2.2.1
    have eX : ∀ s, s ≠ yn Y 4 → sX (uL S1 12 1 md e (List.range (yn Y 4) ++ [yn Y 4])) 4 s 5 = sX S 4 s 5 := fun s hs => congrFun (a5 4 s (by omega)).2.2.1 5
    have eX0 : sX (uL S1 12 1 md e (List.range (yn Y 4) ++ [yn Y 4])) 4 (yn Y 4) 5 = none := congrFun a8 5
    have eI : ∀ s, s ≠ yn Y 4 → sI (uL S1 12 1 md e (List.range (yn Y 4) ++ [yn Y 4])) 4 s 4 = sI S 4 s 4 := fun s hs => (sI_uL (by omega)).trans (congrFun (a5 4 s (by omega)).1 4)
    refine ⟨fun t ht => ?_, fun s t hs hxs => ?_⟩
    · have ht' : t < yn Y 3 := by rw [← a3 3 (by omega)]; exact ht
      rw [eL]
      refine ⟨(Q.1 t ht').1, fun s hs => ?_⟩
      have hsl := H.2.2.2.2.1 13 t rfl (W.l13 ht') s hs
      have hs4 : s < yn Y 4 := hsl
      rw [eX s (by omega)]
      exact (Q.1 t ht').2 s hs
    · by_cases z : s = yn Y 4
      · rw [z, eX0] at hxs
        cases hxs
      · rw [eX s z] at hxs
        rw [eI s z, eL]
        exact Q.2 s t (by omega) hxs
theorem c_part (H : mR g Y S M) (W : mWs Y S) (Q : mWq Y S) {a b p d : Int32} {κ : Int32 → mM → Prop} {ξ : String → mM → Prop} (hx : ∀ E, E = "java/lang/IndexOutOfBoundsException" ∨ E = "java/lang/IllegalArgumentException" ∨ E = "java/lang/IllegalStateException" → ξ E M) (h : ∀ x Y' S' M', cP g Y S Y' S' M' → κ x M') : wX8_part g κ ξ (some (yA Y 0 0)) a b p d M := by
  have hbd := W.2.1
  refine s_rc H W.x0 rfl rfl (c_sleeperN H W (fun s hs _ => c_range H (fun _ _ => c_range H (fun _ _ => c_range H (fun _ _ => ?_) (fun _ => hx _ (Or.inr (Or.inl rfl)))) (fun _ => hx _ (Or.inr (Or.inl rfl)))) (fun _ => hx _ (Or.inr (Or.inl rfl)))) (fun _ => hx _ (Or.inl rfl)))
  refine s_gR6 H W.x0 rfl rfl rfl (s_rcL H rfl (W.l12 (by omega)) (c_szP H W (br_c (fun _ => hx _ (Or.inr (Or.inr rfl))) (fun z => s_gI H hs rfl rfl rfl (br_c (fun _ => ?_) (fun _ => hx _ (Or.inr (Or.inr rfl))))))))
  have hn : yn Y 5 < 24 := Nat.not_le.mp (fun w => z (show nI 24 ≤ nI (yn Y 5) from (nI_leI (by omega) (by omega)).mpr w))
  refine r_new (fun q M1 hq h1 o1 => ?_)
  have hF := H.fr hq
  have H1 : mR g Y S M1 := H.off hF o1
  refine s_gR6 H1 W.x0 rfl rfl rfl (s_rcL H1 rfl (W.l12 (by omega)) (c_szP H1 W (r_rc h1 ⟨q, rfl, r_p h1 (by simp) (fun M2 h2 o2 => r_p h2 (by simp) (fun M3 h3 o3 => r_p h3 (by simp) (fun M4 h4 o4 => r_p h4 (by simp) (fun M5 h5 o5 => r_p h5 (by simp) (fun M6 h6 o6 => ?_)))))⟩)))
  have H6 : mR g Y S M6 := H1.off hF (fun q' z => (o6 q' z).trans ((o5 q' z).trans ((o4 q' z).trans ((o3 q' z).trans (o2 q' z)))))
  obtain ⟨Y1, S1, H7, A⟩ := H6.alloc2 (k := 5) hF (fun f => match f with | 0 => nI (yn Y 5) | 1 => b | 2 => p | 3 => d | _ => 0) (fun _ => 0) (fun f => match f with | 5 => some s | _ => none) (fun _ => 0) [] 0 rfl (by decide) (by decide) (fun z => absurd z (by decide)) h6 (fun f t' ht' => by
    rcases f with _ | _ | _ | _ | _ | _ | _ | _ | f <;> cases ht' <;> refine ⟨fun z => absurd z (by decide), fun z j hj => ?_, fun z => absurd z (by decide), fun z => absurd z (by decide)⟩ <;> cases hj
    exact Nat.lt_of_lt_of_le hs aY_le)
  have F1 := A.F (by omega)
  have Q1 := A.Q ⟨by omega, by omega, by omega⟩ Q
  obtain ⟨a1, a2, a3, a4, a5, a6, -, a8, -⟩ := A
  rw [← a4, ← a1 0 0 W.x0]
  have hn12 : 2 < yn Y1 12 := by rw [a3 12 (by omega)]; exact W.l12 (by omega)
  have e12 : sL S1 12 2 = List.range (yn Y 5) := ((a5 12 2 (by omega)).2.2.2.2.1).trans W.2.2.1.2.2.1
  refine s_gR6 H7 (by rw [a3 0 (by omega)]; exact W.x0) rfl rfl rfl (s_rcL H7 rfl hn12 (s_add (k := 12) (i := 2) (x := yn Y 5) (cap := 24) H7 rfl hn12 (show yn Y 5 < yn Y1 5 by omega) (by rw [e12, List.length_range]; exact hn) (by decide) (fun M7 md e H8 => ?_)))
  rw [e12] at H8
  refine s_gI H8 (show yn Y 5 < yn Y1 5 by omega) rfl rfl rfl (h _ Y1 _ M7 ⟨H8, ?_, Q1.of (fun t => sL_uL (by omega)) (fun _ => rfl) (fun s => sI_uL (by omega)), F1.tr (mFc.uL (by omega)), ⟨fun k i f q => (sI_uL (by have := qC_d q; omega)).trans (congrFun (a5 k i (by have := qC_d q; omega)).1 f), a3 3 (by omega), a3 4 (by omega)⟩⟩)
  · obtain ⟨w1, w2, w3, ⟨v1, v2, v3, v4⟩, ⟨u1, u2⟩, ⟨u3, u4⟩, u5, u6⟩ := W
    have n0 := a3 0 (by omega); have n1 := a3 1 (by omega); have n2 := a3 2 (by omega); have n3 := a3 3 (by omega); have n4 := a3 4 (by omega); have n6 := a3 6 (by omega); have n7 := a3 7 (by omega); have n8 := a3 8 (by omega); have n9 := a3 9 (by omega); have n10 := a3 10 (by omega); have n11 := a3 11 (by omega); have n12 := a3 12 (by omega); have n13 := a3 13 (by omega)
    have hI : ∀ k i f, k ≠ 5 → k ≠ 12 → sI (uL S1 12 2 md e (List.range (yn Y 5) ++ [yn Y 5])) k i f = sI S k i f := fun k i f hk hk' => (sI_uL (by omega)).trans (by rw [(a5 k i (by omega)).1])
    have hI4 : ∀ i f, i ≠ yn Y 5 → sI (uL S1 12 2 md e (List.range (yn Y 5) ++ [yn Y 5])) 5 i f = sI S 5 i f := fun i f hi => (sI_uL (by omega)).trans (by rw [(a5 5 i (by omega)).1])
    have hI4' : sI (uL S1 12 2 md e (List.range (yn Y 5) ++ [yn Y 5])) 5 (yn Y 5) 0 = nI (yn Y 5) := (sI_uL (by omega)).trans (congrFun a6 0)
    have hL : ∀ i, i ≠ 2 → sL (uL S1 12 2 md e (List.range (yn Y 5) ++ [yn Y 5])) 12 i = sL S 12 i := fun i hi => (sL_uL (by omega)).trans (a5 12 i (by omega)).2.2.2.2.1
    have hL1 : sL (uL S1 12 2 md e (List.range (yn Y 5) ++ [yn Y 5])) 12 2 = List.range (yn Y 5 + 1) := sL_uL_s.trans List.range_succ.symm
    have hC : ∀ k i, k ≠ 5 → sC (uL S1 12 2 md e (List.range (yn Y 5) ++ [yn Y 5])) k i = sC S k i := fun k i hk => (a5 k i (by omega)).2.2.2.2.2.2.1
    have hP : ∀ k i j, k ≠ 5 → sP (uL S1 12 2 md e (List.range (yn Y 5) ++ [yn Y 5])) k i j = sP S k i j := fun k i j hk => congrFun (a5 k i (by omega)).2.2.2.2.2.2.2.2 j
    refine ⟨by rw [n0, n1, n2, n3, n7, n8, n9, n10, n11, n12, n13]; exact w1, by rw [n3, n4, a2, n6]; omega, by rw [hL 0 (by omega), hL 1 (by omega), hL1, hL 3 (by omega), n3, n4, a2, n6]; exact ⟨w3.1, w3.2.1, rfl, w3.2.2.2⟩, ⟨fun i hi => (hI 2 i 0 (by omega) (by omega)).trans (v1 i hi), fun i hi => (hI 3 i 0 (by omega) (by omega)).trans (v2 i (by omega)), fun i hi => (hI 4 i 0 (by omega) (by omega)).trans (v3 i (by omega)), fun i hi => ?_⟩, ⟨(hC 1 0 (by omega)).trans u1, fun i hi => ?_⟩, ⟨(hC 8 0 (by omega)).trans u3, fun i hi => ?_⟩, fun i hi => (hC 9 i (by omega)).trans (u5 i hi), (hC 9 9 (by omega)).trans u6⟩
    · by_cases z : i = yn Y 5
      · rw [z]; exact hI4'
      · rw [hI4 i 0 z]; exact v4 i (by omega)
    · rw [hP 1 0 i (by omega), u2 i hi, a1 2 i (by omega)]
    · rw [hP 8 0 i (by omega), u4 i hi, a1 9 i (by omega)]
/-- a new list -/
theorem r_linit {q : Nat} (h1 : M q = some (.inr (4, [.int 0, .null, .int 0]))) {κ : mM → Prop} (h : ∀ M', M' q = some (jH 0 (g 0) 0) → (∀ q', q' ≠ q → M' q' = M q') → κ M') : m_rc M (some q) 4 fun b4 => wJx4a65c_init_da8c8 g κ (some b4) M := by
  refine r_rc h1 (r_rc h1 (r_rc h1 ⟨q, rfl, r_p h1 (by simp) (fun M2 h2 o2 => r_p h2 (by simp) (fun M3 h3 o3 => h M3 h3 (fun q' z => (o3 q' z).trans (o2 q' z))))⟩))
theorem r_gateInit {q : Nat} (h1 : M q = some (.inr (5, [.int 0, .null, .null, .int 0, .int 0, .null, .null, .null, .int 0, .int 0]))) {n f hh : Int32} {A B : Nat} {κ : mM → Prop} (h : ∀ M' q1 q6 q11, M q1 = none → M q6 = none → M q11 = none → q1 ≠ q6 → q1 ≠ q11 → q6 ≠ q11 → M' q = some (.inr (5, [.int n, .ref A, .ref B, .int f, .int hh, .ref q1, .ref q6, .ref q11, .int 5, .int 0])) → M' q1 = some (jH 0 (g 0) 0) → M' q6 = some (.inr (12, [.long 0, .long 0])) → M' q11 = some (.inr (12, [.long 0, .long 0])) → (∀ q', q' ≠ q → q' ≠ q1 → q' ≠ q6 → q' ≠ q11 → M' q' = M q') → κ M') : wX0_init g κ (some q) n (some A) (some B) f hh M := by
  have some_ne : ∀ {M : mM} {a b : Nat} {e : mCe}, M a = some e → M b = none → a ≠ b := fun h1 h2 z => by rw [z, h2] at h1; cases h1
  refine ⟨q, rfl, r_new (fun q1 M2 hq1 h2 o2 => r_linit h2 (fun M3 h3 o3 => ?_))⟩
  have n1 : q ≠ q1 := some_ne h1 hq1
  have k3 := (o3 q n1).trans ((o2 q n1).trans h1)
  refine r_p k3 (by simp) (fun M5 h5 o5 => r_new (fun q6 M7 hq6 h7 o7 => ?_))
  have n6 : q ≠ q6 := some_ne h5 hq6
  have l5 : M5 q1 = some (jH 0 (g 0) 0) := (o5 q1 n1.symm).trans h3
  have n16 : q1 ≠ q6 := some_ne l5 hq6
  have hq6' : M q6 = none := (((o5 q6 n6.symm).trans (o3 q6 n16.symm)).trans (o2 q6 n16.symm)).symm.trans hq6
  refine r_rc h7 ⟨q6, rfl, r_p ((o7 q n6).trans h5) (by simp) (fun M10 h10 o10 => r_new (fun q11 M12 hq11 h12 o12 => ?_))⟩
  have n11 : q ≠ q11 := some_ne h10 hq11
  have l10 : M10 q1 = some (jH 0 (g 0) 0) := (o10 q1 n1.symm).trans ((o7 q1 n16).trans l5)
  have m10 : M10 q6 = some (.inr (12, [.long 0, .long 0])) := (o10 q6 n6.symm).trans h7
  have n111 : q1 ≠ q11 := some_ne l10 hq11
  have n611 : q6 ≠ q11 := some_ne m10 hq11
  have hq11' : M q11 = none := (((((o10 q11 n11.symm).trans (o7 q11 n611.symm)).trans (o5 q11 n11.symm)).trans (o3 q11 n111.symm)).trans (o2 q11 n111.symm)).symm.trans hq11
  refine r_rc h12 ⟨q11, rfl, r_p ((o12 q n11).trans h10) (by simp) (fun M15 h15 o15 => r_p h15 (by simp) (fun M16 h16 o16 => r_p h16 (by simp) (fun M17 h17 o17 => r_p h17 (by simp) (fun M18 h18 o18 => r_p h18 (by simp) (fun M19 h19 o19 => r_p h19 (by simp) (fun M20 h20 o20 => r_p h20 (by simp) (fun M21 h21 o21 => ?_)))))))⟩
  have o : ∀ q', q' ≠ q → M21 q' = M12 q' := fun q' z => (o21 q' z).trans ((o20 q' z).trans ((o19 q' z).trans ((o18 q' z).trans ((o17 q' z).trans ((o16 q' z).trans (o15 q' z))))))
  exact h M21 q1 q6 q11 hq1 hq6' hq11' n16 n111 n611 h21 ((o q1 n1.symm).trans ((o12 q1 n111).trans l10)) ((o q6 n6.symm).trans ((o12 q6 n611).trans m10)) ((o q11 n11.symm).trans h12) (fun q' z1 z2 z3 z4 => (o q' z1).trans ((o12 q' z4).trans ((o10 q' z1).trans ((o7 q' z3).trans ((o5 q' z1).trans ((o3 q' z2).trans (o2 q' z2)))))))
theorem mR.off4 (H : mR g Y S M) {q q1 q6 q11 : Nat} (hF : mFr Y S q) (hF1 : mFr Y S q1) (hF6 : mFr Y S q6) (hF11 : mFr Y S q11) {M' : mM} (ho : ∀ q', q' ≠ q → q' ≠ q1 → q' ≠ q6 → q' ≠ q11 → M' q' = M q') : mR g Y S M' := by
  obtain ⟨h1, h2, h3, h4, h5, h6, h7⟩ := H
  refine ⟨fun k i hi => (ho _ (hF.1 k i hi) (hF1.1 k i hi) (hF6.1 k i hi) (hF11.1 k i hi)).trans (h1 k i hi), h2, fun k i hk hi => ?_, h4, h5, h6, h7⟩
  rcases h3 k i hk hi with h | ⟨N, f, a1, a2⟩
  · exact Or.inl h
  · exact Or.inr ⟨N, f, (ho _ (hF.2 k i hk hi) (hF1.2 k i hk hi) (hF6.2 k i hk hi) (hF11.2 k i hk hi)).trans a1, a2⟩
theorem c_gate (H : mR g Y S M) (W : mWs Y S) (Q : mWq Y S) {a b f hh : Int32} {κ : Int32 → mM → Prop} {ξ : String → mM → Prop} (hI : ¬ ((¬ a < 0 ∧ a < 6) ∧ (¬ b < 0 ∧ b < 6)) → ξ "java/lang/IndexOutOfBoundsException" M) (hA : ((¬ a < 0 ∧ a < 6) ∧ (¬ b < 0 ∧ b < 6)) → (a = b ∨ ¬ ((¬ f < 0 ∧ f ≤ 23) ∧ (¬ hh < 1 ∧ hh ≤ 24))) → ξ "java/lang/IllegalArgumentException" M) (hS : ((¬ a < 0 ∧ a < 6) ∧ (¬ b < 0 ∧ b < 6)) → ¬ a = b → ((¬ f < 0 ∧ f ≤ 23) ∧ (¬ hh < 1 ∧ hh ≤ 24)) → ¬ yn Y 3 < 8 → ξ "java/lang/IllegalStateException" M) (h : ∀ Y' S' M', ((¬ a < 0 ∧ a < 6) ∧ (¬ b < 0 ∧ b < 6)) → ¬ a = b → ((¬ f < 0 ∧ f ≤ 23) ∧ (¬ hh < 1 ∧ hh ≤ 24)) → yn Y 3 < 8 → mR g Y' S' M' → mWs Y' S' → mWq Y' S' → mFc Y S Y' S' → (∀ k i f, qC k f = true → ¬ (k = 3 ∧ i = yn Y 3) → sI S' k i f = sI S k i f) → sI S' 3 (yn Y 3) 8 = 5 → yn Y' 3 = yn Y 3 + 1 → yn Y' 4 = yn Y 4 → κ (nI (yn Y 3)) M') : wX8_gate g κ ξ (some (yA Y 0 0)) a b f hh M := by
  have hbd := W.2.1
  refine s_rc H W.x0 rfl rfl (c_landN H W (fun l hl ea => s_rc H W.x0 rfl rfl (c_landN H W (fun l' hl' eb => ?_) (fun z => hI (fun w => z w.2)))) (fun z => hI (fun w => z w.1)))
  have va : ¬ a < 0 ∧ a < 6 := by rw [ea]; exact m_in (n := 6) hl (by omega)
  have vb : ¬ b < 0 ∧ b < 6 := by rw [eb]; exact m_in (n := 6) hl' (by omega)
  refine br_c (fun q => hA ⟨va, vb⟩ (Or.inl q)) (fun nab => c_range H (fun r1 r2 => c_range H (fun r3 r4 => ?_) (fun z => hA ⟨va, vb⟩ (Or.inr (fun w => z w.2)))) (fun z => hA ⟨va, vb⟩ (Or.inr (fun w => z w.1))))
  refine s_gR6 H W.x0 rfl rfl rfl (s_rcL H rfl (W.l12 (by omega)) (c_szG H W (br_c (fun z => ?_) (fun z => hS ⟨va, vb⟩ nab ⟨⟨r1, r2⟩, ⟨r3, r4⟩⟩ (fun w => z (show nI (yn Y 3) < nI 8 from nI_lt w (by omega)))))))
  have hn : yn Y 3 < 8 := (nI_ltI (b := 8) (by omega) (by omega)).mp z
  refine r_new (fun q M1 hq h1 o1 => ?_)
  have hF := H.fr hq
  have H1 : mR g Y S M1 := H.off hF o1
  have hg0 : yA Y 34 0 = g 0 := H.2.2.2.2.2.2.2.1
  refine s_gR6 H1 W.x0 rfl rfl rfl (s_rcL H1 rfl (W.l12 (by omega)) (c_szG H1 W (r_rc h1 (r_gateInit h1 (fun M2 q1 q6 q11 f1 f6 f11 n16 n111 n611 k0 k1 k6 k11 o2 => ?_)))))
  have some_ne : ∀ {M : mM} {a b : Nat} {e : mCe}, M a = some e → M b = none → a ≠ b := fun h1 h2 z => by rw [z, h2] at h1; cases h1
  have F1 := H1.fr f1
  have F6 := H1.fr f6
  have F11 := H1.fr f11
  have nq1 : q ≠ q1 := some_ne h1 f1
  have nq6 : q ≠ q6 := some_ne h1 f6
  have nq11 : q ≠ q11 := some_ne h1 f11
  have H2 : mR g Y S M2 := H1.off4 hF F1 F6 F11 o2
  have h34 : 0 < yn Y 34 := by rw [H.2.2.2.2.2.2.1]; omega
  have ne34 : ∀ {q : Nat}, mFr Y S q → g 0 ≠ q := fun hF => by rw [← hg0]; exact hF.1 34 0 h34
  -- the line
  obtain ⟨Ya, Sa, Ha, A⟩ := H2.alloc2 (k := 13) F1 (fun _ => 0) (fun _ => 0) (fun _ => none) (fun _ => 0) [] (g 0) rfl (by decide) (by decide) (fun _ => ⟨hg0.symm, rfl⟩) k1 (fun f t' ht' => by
    rcases f with _ | _ | _ | f <;> cases ht' <;> exact ⟨fun z => absurd z (by decide), fun z => absurd z (by decide), fun z => absurd z (by decide), fun z => absurd z (by decide)⟩)
  have A0 := A.fr hF nq1.symm (fun _ => ne34 hF)
  have A6 := A.fr F6 n16 (fun _ => ne34 F6)
  have A11 := A.fr F11 n111 (fun _ => ne34 F11)
  -- the verses
  obtain ⟨Yb, Sb, Hb, B⟩ := Ha.alloc2 (k := 10) A6 (fun _ => 0) (fun _ => 0) (fun _ => none) (fun _ => 0) [] 0 rfl (by decide) (by decide) (fun z => absurd z (by decide)) k6 (fun f t' ht' => by
    rcases f with _ | _ | f <;> cases ht' <;> exact ⟨fun z => absurd z (by decide), fun z => absurd z (by decide), fun z => absurd z (by decide), fun z => absurd z (by decide)⟩)
  have B0 := B.fr A0 nq6.symm (fun z => absurd z (by decide))
  have B11 := B.fr A11 n611 (fun z => absurd z (by decide))
  obtain ⟨Yc, Sc, Hc, C⟩ := Hb.alloc2 (k := 11) B11 (fun _ => 0) (fun _ => 0) (fun _ => none) (fun _ => 0) [] 0 rfl (by decide) (by decide) (fun z => absurd z (by decide)) k11 (fun f t' ht' => by
    rcases f with _ | _ | f <;> cases ht' <;> exact ⟨fun z => absurd z (by decide), fun z => absurd z (by decide), fun z => absurd z (by decide), fun z => absurd z (by decide)⟩)
  have C0 := C.fr B0 nq11.symm (fun z => absurd z (by decide))
  have FA := A.F (by omega)
  have FB := B.F (by omega)
  have FC := C.F (by omega)
  obtain ⟨a1, a2, a3, a4, a5, -, -, -, -, a10, -⟩ := A
  obtain ⟨b1, b2, b3, b4, b5, -⟩ := B
  obtain ⟨c1, c2, c3, c4, c5, -⟩ := C
  -- where all that was lies now
  have hn13 : yn Y 13 = yn Y 3 := W.1.2.2.2.2.2.2.2.2.2
  have hn10 : yn Y 10 = yn Y 3 := W.1.2.2.2.2.2.2.2.1
  have hn11 : yn Y 11 = yn Y 3 := W.1.2.2.2.2.2.2.2.2.1
  have m3 : yn Yc 3 = yn Y 3 := by rw [c3 3 (by omega), b3 3 (by omega), a3 3 (by omega)]
  have m13 : yn Yc 13 = yn Y 3 + 1 := by rw [c3 13 (by omega), b3 13 (by omega), a2, hn13]
  have m10 : yn Yc 10 = yn Y 3 + 1 := by rw [c3 10 (by omega), b2, a3 10 (by omega), hn10]
  have m11 : yn Yc 11 = yn Y 3 + 1 := by rw [c2, b3 11 (by omega), a3 11 (by omega), hn11]
  have mo : ∀ k, k ≠ 10 → k ≠ 11 → k ≠ 13 → yn Yc k = yn Y k := fun k z1 z2 z3 => by rw [c3 k z2, b3 k z1, a3 k z3]
  have ad : ∀ k i, i < yn Y k → yA Yc k i = yA Y k i := fun k i hi => by
    have i1 : i < yn Ya k := Nat.lt_of_lt_of_le hi (FA.2.1 k)
    rw [c1 k i (Nat.lt_of_lt_of_le i1 (FB.2.1 k)), b1 k i i1, a1 k i hi]
  have ad13 : yA Yc 13 (yn Y 3) = q1 := by
    have i1 : yn Y 3 < yn Ya 13 := by rw [a2, hn13]; omega
    rw [c1 13 _ (Nat.lt_of_lt_of_le i1 (FB.2.1 13)), b1 13 _ i1, ← hn13, a4]
  have ad10 : yA Yc 10 (yn Y 3) = q6 := by
    have e : yn Ya 10 = yn Y 3 := by rw [a3 10 (by omega), hn10]
    rw [c1 10 _ (by rw [b2, e]; omega), ← e, b4]
  have ad11 : yA Yc 11 (yn Y 3) = q11 := by
    have e : yn Yb 11 = yn Y 3 := by rw [b3 11 (by omega), a3 11 (by omega), hn11]
    rw [← e, c4]
  have eqs : ∀ k i, ¬ (k = 13 ∧ i = yn Y 3) → ¬ (k = 10 ∧ i = yn Y 3) → ¬ (k = 11 ∧ i = yn Y 3) → mEq Sc S k i := fun k i z1 z2 z3 => ((c5 k i (fun w => z3 ⟨w.1, by rw [w.2, b3 11 (by omega), a3 11 (by omega), hn11]⟩)).tr (b5 k i (fun w => z2 ⟨w.1, by rw [w.2, a3 10 (by omega), hn10]⟩))).tr (a5 k i (fun w => z1 ⟨w.1, by rw [w.2, hn13]⟩))
  have l13 : sL Sc 13 (yn Y 3) = [] := by
    have e1 := (c5 13 (yn Y 3) (by omega)).2.2.2.2.1
    have e2 := (b5 13 (yn Y 3) (by omega)).2.2.2.2.1
    rw [e1, e2, ← hn13, a10]
  have Fc : mFc Y S Yc Sc := (FA.tr FB).tr FC
  clear a1 a2 a3 a4 a5 a10 b1 b2 b3 b4 b5 c1 c2 c3 c4 c5 FA FB FC Ha Hb A0 A6 A11 B0 B11
  -- the gate
  have hla : yA Y 2 l = yA (aY Yc 3 q) 2 l := (ad 2 l (W.l2 hl)).symm
  have hlb : yA Y 2 l' = yA (aY Yc 3 q) 2 l' := (ad 2 l' (W.l2 hl')).symm
  obtain ⟨Y1, S1, H7, A⟩ := Hc.alloc2 (k := 3) C0 (fun i => match i with | 0 => nI (yn Y 3) | 3 => f | 4 => hh | 8 => 5 | _ => 0) (fun _ => 0) (fun _ => none) (fun i => match i with | 1 => l | _ => l') [] 0 rfl (by decide) (by decide) (fun z => absurd z (by decide)) (by
      rw [k0, ← ad13, ← ad10, ← ad11, hla, hlb, ← m3]
      rfl) (fun f t' ht' => by
    have e2 : yn Yc 2 = 6 := by rw [mo 2 (by omega) (by omega) (by omega)]; exact W.1.2.2.1
    rcases f with _ | _ | _ | _ | _ | _ | _ | _ | _ | _ | f <;> cases ht'
    · exact ⟨fun z => absurd z (by decide), fun z => absurd z (by decide), fun z => absurd z (by decide), fun z => absurd z (by decide)⟩
    · exact ⟨fun _ => (show l < yn Yc 2 by omega), fun z => absurd z (by decide), fun z => absurd z (by decide), fun z => absurd z (by decide)⟩
    · exact ⟨fun _ => (show l' < yn Yc 2 by omega), fun z => absurd z (by decide), fun z => absurd z (by decide), fun z => absurd z (by decide)⟩
    · exact ⟨fun z => absurd z (by decide), fun z => absurd z (by decide), fun z => absurd z (by decide), fun z => absurd z (by decide)⟩
    · exact ⟨fun z => absurd z (by decide), fun z => absurd z (by decide), fun z => absurd z (by decide), fun z => absurd z (by decide)⟩
    · exact ⟨fun z => absurd z (by decide), fun z => absurd z (by decide), fun z => absurd z (by decide), fun _ => (show yn Yc 3 < yn Yc 13 by omega)⟩
    · exact ⟨fun z => absurd z (by decide), fun z => absurd z (by decide), fun z => absurd z (by decide), fun _ => (show yn Yc 3 < yn Yc 10 by omega)⟩
    · exact ⟨fun z => absurd z (by decide), fun z => absurd z (by decide), fun z => absurd z (by decide), fun _ => (show yn Yc 3 < yn Yc 11 by omega)⟩
    · exact ⟨fun z => absurd z (by decide), fun z => absurd z (by decide), fun z => absurd z (by decide), fun z => absurd z (by decide)⟩
    · exact ⟨fun z => absurd z (by decide), fun z => absurd z (by decide), fun z => absurd z (by decide), fun z => absurd z (by decide)⟩)
  have F1 := Fc.tr (A.F (by omega))
  obtain ⟨a1, a2, a3, a4, a5, a6, -⟩ := A
  have n0 : ∀ k, k ≠ 3 → k ≠ 10 → k ≠ 11 → k ≠ 13 → yn Y1 k = yn Y k := fun k z1 z2 z3 z4 => by rw [a3 k z1, mo k z2 z3 z4]
  have ad1 : ∀ k i, i < yn Y k → yA Y1 k i = yA Y k i := F1.1
  have eq1 : ∀ k i, ¬ (k = 13 ∧ i = yn Y 3) → ¬ (k = 10 ∧ i = yn Y 3) → ¬ (k = 11 ∧ i = yn Y 3) → ¬ (k = 3 ∧ i = yn Y 3) → mEq S1 S k i := fun k i z1 z2 z3 z4 => (a5 k i (fun w => z4 ⟨w.1, by rw [w.2, m3]⟩)).tr (eqs k i z1 z2 z3)
  have l13' : sL S1 13 (yn Y 3) = [] := ((a5 13 (yn Y 3) (by omega)).2.2.2.2.1).trans l13
  rw [m3] at a2 a4 a6
  rw [← a4, ← ad1 0 0 W.x0]
  have hn12 : 0 < yn Y1 12 := by rw [n0 12 (by omega) (by omega) (by omega) (by omega)]; exact W.l12 (by omega)
  have e12 : sL S1 12 0 = List.range (yn Y 3) := ((eq1 12 0 (by omega) (by omega) (by omega) (by omega)).2.2.2.2.1).trans W.2.2.1.1
  refine s_gR6 H7 (by rw [n0 0 (by omega) (by omega) (by omega) (by omega)]; exact W.x0) rfl rfl rfl (s_rcL H7 rfl hn12 (s_add (k := 12) (i := 0) (x := yn Y 3) (cap := 8) H7 rfl hn12 (show yn Y 3 < yn Y1 3 by omega) (by rw [e12, List.length_range]; exact hn) (by decide) (fun M7 md e H8 => ?_)))
  rw [e12] at H8
  refine s_gI H8 (show yn Y 3 < yn Y1 3 by omega) rfl rfl rfl ?_
  rw [show sI (uL S1 12 0 md e (List.range (yn Y 3) ++ [yn Y 3])) 3 (yn Y 3) 0 = nI (yn Y 3) from (sI_uL (by omega)).trans (congrFun a6 0)]
  refine h Y1 _ M7 ⟨va, vb⟩ nab ⟨⟨r1, r2⟩, ⟨r3, r4⟩⟩ hn H8 ?_ ?_ (F1.tr (mFc.uL (by omega))) (fun k i f q z => (sI_uL (by have := qC_d q; omega)).trans (congrFun (eq1 k i (by have := qC_d q; omega) (by have := qC_d q; omega) (by have := qC_d q; omega) z).1 f)) ((sI_uL (by omega)).trans (congrFun a6 8)) a2 (n0 4 (by omega) (by omega) (by omega) (by omega))
  · obtain ⟨w1, w2, w3, ⟨v1, v2, v3, v4⟩, ⟨u1, u2⟩, ⟨u3, u4⟩, u5, u6⟩ := W
    have y0 := n0 0 (by omega) (by omega) (by omega) (by omega); have y1 := n0 1 (by omega) (by omega) (by omega) (by omega); have y2 := n0 2 (by omega) (by omega) (by omega) (by omega); have y4 := n0 4 (by omega) (by omega) (by omega) (by omega); have y5 := n0 5 (by omega) (by omega) (by omega) (by omega); have y6 := n0 6 (by omega) (by omega) (by omega) (by omega); have y7 := n0 7 (by omega) (by omega) (by omega) (by omega); have y8 := n0 8 (by omega) (by omega) (by omega) (by omega); have y9 := n0 9 (by omega) (by omega) (by omega) (by omega); have y12 := n0 12 (by omega) (by omega) (by omega) (by omega)
    have y10 : yn Y1 10 = yn Y 3 + 1 := by rw [a3 10 (by omega), m10]
    have y11 : yn Y1 11 = yn Y 3 + 1 := by rw [a3 11 (by omega), m11]
    have y13 : yn Y1 13 = yn Y 3 + 1 := by rw [a3 13 (by omega), m13]
    have hI : ∀ k i f, k ≠ 3 → k ≠ 10 → k ≠ 11 → k ≠ 12 → k ≠ 13 → sI (uL S1 12 0 md e (List.range (yn Y 3) ++ [yn Y 3])) k i f = sI S k i f := fun k i f z1 z2 z3 z4 z5 => (sI_uL (by omega)).trans (congrFun (eq1 k i (by omega) (by omega) (by omega) (by omega)).1 f)
    have hI4 : ∀ i f, i ≠ yn Y 3 → sI (uL S1 12 0 md e (List.range (yn Y 3) ++ [yn Y 3])) 3 i f = sI S 3 i f := fun i f hi => (sI_uL (by omega)).trans (congrFun (eq1 3 i (by omega) (by omega) (by omega) (by omega)).1 f)
    have hI4' : sI (uL S1 12 0 md e (List.range (yn Y 3) ++ [yn Y 3])) 3 (yn Y 3) 0 = nI (yn Y 3) := (sI_uL (by omega)).trans (congrFun a6 0)
    have hL : ∀ i, i ≠ 0 → sL (uL S1 12 0 md e (List.range (yn Y 3) ++ [yn Y 3])) 12 i = sL S 12 i := fun i hi => (sL_uL (by omega)).trans (eq1 12 i (by omega) (by omega) (by omega) (by omega)).2.2.2.2.1
    have hL1 : sL (uL S1 12 0 md e (List.range (yn Y 3) ++ [yn Y 3])) 12 0 = List.range (yn Y 3 + 1) := sL_uL_s.trans List.range_succ.symm
    have hC : ∀ k i, k = 1 ∨ k = 8 ∨ k = 9 → sC (uL S1 12 0 md e (List.range (yn Y 3) ++ [yn Y 3])) k i = sC S k i := fun k i hk => (eq1 k i (by omega) (by omega) (by omega) (by omega)).2.2.2.2.2.2.1
    have hP : ∀ k i j, k = 1 ∨ k = 8 → sP (uL S1 12 0 md e (List.range (yn Y 3) ++ [yn Y 3])) k i j = sP S k i j := fun k i j hk => congrFun (eq1 k i (by omega) (by omega) (by omega) (by omega)).2.2.2.2.2.2.2.2 j
    refine ⟨by rw [y0, y1, y2, a2, y7, y8, y9, y10, y11, y12, y13]; omega, by rw [a2, y4, y5, y6]; omega, by rw [hL1, hL 1 (by omega), hL 2 (by omega), hL 3 (by omega), a2, y4, y5, y6]; exact ⟨rfl, w3.2⟩, ⟨fun i hi => (hI 2 i 0 (by omega) (by omega) (by omega) (by omega) (by omega)).trans (v1 i hi), fun i hi => ?_, fun i hi => (hI 4 i 0 (by omega) (by omega) (by omega) (by omega) (by omega)).trans (v3 i (by omega)), fun i hi => (hI 5 i 0 (by omega) (by omega) (by omega) (by omega) (by omega)).trans (v4 i (by omega))⟩, ⟨(hC 1 0 (by omega)).trans u1, fun i hi => ?_⟩, ⟨(hC 8 0 (by omega)).trans u3, fun i hi => ?_⟩, fun i hi => (hC 9 i (by omega)).trans (u5 i hi), (hC 9 9 (by omega)).trans u6⟩
    · by_cases z : i = yn Y 3
      · rw [z]; exact hI4'
      · rw [hI4 i 0 z]; exact v2 i (by omega)
    · rw [hP 1 0 i (by omega), u2 i hi, ad1 2 i (by omega)]
    · rw [hP 8 0 i (by omega), u4 i hi, ad1 9 i (by omega)]
  · have eL : ∀ t, t ≠ yn Y 3 → sL (uL S1 12 0 md e (List.range (yn Y 3) ++ [yn Y 3])) 13 t = sL S 13 t := fun t ht => (sL_uL (by omega)).trans (eq1 13 t (by omega) (by omega) (by omega) (by omega)).2.2.2.2.1
    have eL0 : sL (uL S1 12 0 md e (List.range (yn Y 3) ++ [yn Y 3])) 13 (yn Y 3) = [] := (sL_uL (by omega)).trans l13'
    have eX : ∀ s, sX (uL S1 12 0 md e (List.range (yn Y 3) ++ [yn Y 3])) 4 s 5 = sX S 4 s 5 := fun s => congrFun (eq1 4 s (by omega) (by omega) (by omega) (by omega)).2.2.1 5
    have eI : ∀ s, sI (uL S1 12 0 md e (List.range (yn Y 3) ++ [yn Y 3])) 4 s 4 = sI S 4 s 4 := fun s => (sI_uL (by omega)).trans (congrFun (eq1 4 s (by omega) (by omega) (by omega) (by omega)).1 4)
    have y4 := n0 4 (by omega) (by omega) (by omega) (by omega)
    refine ⟨fun t ht => ?_, fun s t hs hxs => ?_⟩
    · by_cases z : t = yn Y 3
      · rw [z, eL0]
        exact ⟨List.nodup_nil, fun s hs => by cases hs⟩
      · rw [eL t z]
        have ht' : t < yn Y 3 := by omega
        exact ⟨(Q.1 t ht').1, fun s hs => (eX s).trans ((Q.1 t ht').2 s hs)⟩
    · rw [eX] at hxs
      have hs' : s < yn Y 4 := by omega
      have ht := H.lX (k := 4) (f := 5) (kt := 3) hs' rfl t hxs
      rw [eI, eL t (by omega)]
      exact Q.2 s t hs' hxs
end MALLOC
