/-! THE SIMULATION, 17: hidings and passes, of the class -/
theorem nGood_i {N : mN} {s t : Nat} : nGood N s t = true ↔ ¬ nv N 28 s 8 = -1 ∧ nv N 28 s 6 = nI t ∧ nv N 28 s 7 = nv N 20 0 1 ∧ (nv N 23 t 5 < 5 → m_abs (nv N 28 s 8 - m_rem (13 * nI s + 29 * nI t + 7 * nv N 20 0 1) 97) = 0 ∧ nr N t (tN (nv N 28 s 8)) = false) ∧ (¬ nv N 23 t 5 < 5 → ¬ 1 < m_abs (nv N 28 s 8 - m_rem (13 * nI s + 29 * nI t + 7 * nv N 20 0 1) 97)) := by
  unfold nGood
  rw [Bool.and_eq_true, Bool.and_eq_true, Bool.and_eq_true, decide_eq_true_iff, decide_eq_true_iff, decide_eq_true_iff]
  by_cases z : nv N 23 t 5 < 5
  · rw [if_pos z, Bool.and_eq_true, decide_eq_true_iff, Bool.not_eq_true']
    exact ⟨fun w => ⟨w.1, w.2.1, w.2.2.1, fun _ => w.2.2.2, fun q => absurd z q⟩, fun w => ⟨w.1, w.2.1, w.2.2.1, w.2.2.2.1 z⟩⟩
  · rw [if_neg z, decide_eq_true_iff]
    exact ⟨fun w => ⟨w.1, w.2.1, w.2.2.1, fun q => absurd q z, fun _ => w.2.2.2⟩, fun w => ⟨w.1, w.2.1, w.2.2.1, w.2.2.2.2 z⟩⟩
section SIM17
variable {g : Nat → Nat} {Y : mY} {S : mS} {M : mM} {N : mN} {x : Nat}
theorem C_good (R : RC x N Y S) (H : mR g Y S M) (W : mWs Y S) {s t : Nat} (hs : s < yn Y 4) (ht : t < yn Y 3) (hvs : nv N 28 s 8 = -1 ∨ ∃ a, a < 97 ∧ nv N 28 s 8 = nI a) {κ : Int32 → mM → Prop} (h1 : nGood N s t = true → κ 1 M) (h0 : ¬ nGood N s t = true → κ 0 M) : wX8_passIsGood κ (some (yA Y 0 0)) (some (yA Y 4 s)) (some (yA Y 3 t)) M := by
  have hb := W.2.1
  have G := nGood_i (N := N) (s := s) (t := t)
  obtain ⟨r1, r2⟩ := R.2.2.2.2.2.2.1 s hs
  have ent : sI S 0 0 8 = nv N 20 0 1 := R.2.1 0 0 8 20 1 rfl W.x0 (by omega)
  have edz : sI S 3 t 9 = nv N 23 t 5 := R.2.1 3 t 9 23 5 rfl ht (by omega)
  refine s_gR3 H hs rfl rfl rfl ?_
  cases hx : sX S 4 s 7 with
  | none => exact br_t rfl (h0 (fun w => (G.mp w).1 (r1 hx)))
  | some p =>
    have hp := H.lX (k := 4) (f := 7) (kt := 16) hs rfl p hx
    obtain ⟨e6, e7, e8, n8⟩ := r2 p hx
    have hpg := H.lN (k := 16) (f := 0) (kt := 3) hp rfl
    rw [← e8] at n8
    obtain ⟨a, ha, ea⟩ := hvs.resolve_left n8
    refine br_f (fun z => by cases z) (s_gR2 H hp rfl rfl rfl (br_c (fun zg => ?_) (fun zg => h0 (fun w => zg ((H.sinj ht hpg).mpr ((nI_eq (by omega) (by omega)).mp (e6.symm.trans (G.mp w).2.1)))))))
    have eg : nv N 28 s 6 = nI t := by rw [e6, (H.sinj ht hpg).mp zg]
    refine s_gI H hp rfl rfl rfl (s_gI H W.x0 rfl rfl rfl ?_)
    rw [← e7, ent]
    refine br_c (fun zn => ?_) (fun zn => h0 (fun w => zn (G.mp w).2.2.1))
    refine s_gI H hp rfl rfl rfl (s_gI H W.x0 rfl rfl rfl (s_gI H hs rfl rfl rfl (s_gI H ht rfl rfl rfl ?_)))
    rw [← e8, ent, W.2.2.2.1.2.2.1 s hs, W.2.2.2.1.2.1 t ht]
    refine s_rc H ht rfl rfl (c_dozes H ht (fun zd => br_f (by decide) ?_) (fun zd => br_t rfl ?_))
    · rw [edz] at zd
      exact br_c (fun q => h0 (fun w => (G.mp w).2.2.2.2 zd q)) (fun q => h1 (G.mpr ⟨n8, eg, zn, fun z => absurd z zd, fun _ => q⟩))
    · rw [edz] at zd
      refine br_c (fun q => ?_) (fun q => h0 (fun w => q ((G.mp w).2.2.2.1 zd).1))
      refine s_gR7 H ht rfl rfl rfl (s_gI H hp rfl rfl rfl ?_)
      rw [← e8, ea]
      have h9 := (R.2.2.2.2.2.2.2.2.1 t a ht (by omega)).1
      refine s_rc H (W.l10 ht) rfl rfl (C_has H (Or.inl rfl) (W.l10 ht) ha (fun b => br_f (by decide) (h0 (fun w => ?_))) (fun b => br_t rfl (h1 (G.mpr ⟨n8, eg, zn, fun _ => ⟨q, ?_⟩, fun z => absurd zd z⟩))))
      · have := ((G.mp w).2.2.2.1 zd).2
        rw [ea, tN_nI (by omega), h9, b] at this
        cases this
      · rw [ea, tN_nI (by omega), h9, b]
theorem ap3_l {l : List Nat} {a b c i : Nat} (h : i < l.length) : (l ++ [a] ++ [b] ++ [c])[i]? = l[i]? := by
  rw [List.append_assoc, List.append_assoc, List.getElem?_append_left h]
theorem ap3_r {l : List Nat} {a b c i : Nat} : (l ++ [a] ++ [b] ++ [c])[l.length + i]? = [a, b, c][i]? := by
  rw [List.append_assoc, List.append_assoc, List.getElem?_append_right (by omega), show l.length + i - l.length = i by omega]
  rfl
theorem ap3_n {l : List Nat} {a b c : Nat} : (l ++ [a] ++ [b] ++ [c]).length = l.length + 3 := by
  simp only [List.length_append, List.length_singleton]
theorem C_kh15 {S0 : mS} {s : Nat} {dr nt : Nat} (hdr : dr < 128) (hnt : nt < 128) (hN : nv N 20 0 1 = nI nt) {κ : mM → Prop} (h : ∀ Y' S' M', mR g Y' S' M' → mWs Y' S' → cK Y S0 Y' S' → RC x (nH (nLk (nh N) (nI nt) (nI dr) s (yn Y 6) N) (nh N ++ [s] ++ [dr] ++ [nt])) Y' S' → κ M') (hs : s < yn Y 4) (h40 : yn Y 6 < 40) : ∀ (d j : Nat) (S : mS) (M : mM), mR g Y S M → mWs Y S → cK Y S0 Y S → RC x (nLk (nh N) (nI nt) (nI dr) s j N) Y S → j + d = yn Y 6 → wX8_keepHiding_15 g κ (d + 1) (some (yA Y 0 0)) (some (yA Y 4 s)) (nI dr) (nI j) M := by
  have hex : ∀ (S : mS) (M : mM), mR g Y S M → mWs Y S → cK Y S0 Y S → RC x (nLk (nh N) (nI nt) (nI dr) s (yn Y 6) N) Y S → m_gR M (some (yA Y 0 0)) 13 4 fun x6 => m_new M 6 [.null, .int 0, .int 0] fun q7 M8 => m_gI M8 (some (yA Y 0 0)) 13 8 fun x9 => m_rc M8 (some q7) 6 fun b11 => wX1_init (fun M10 => m_rc M10 x6 4 fun b14 => wJx4a65c_add_9ea2d g 49 (fun x12 M13 => κ M13) (some b14) (some q7) M10) (some b11) (some (yA Y 4 s)) (nI dr) x9 M8 := by
    intro S M H W K R
    refine s_gR6 H W.x0 rfl rfl rfl (r_new (fun q M1 hq h1 o1 => ?_))
    have hF := H.fr hq
    have H1 : mR g Y S M1 := H.off hF o1
    refine s_gI H1 W.x0 rfl rfl rfl (r_rc h1 ⟨q, rfl, r_p h1 (by simp) (fun M2 h2 o2 => r_p h2 (by simp) (fun M3 h3 o3 => r_p h3 (by simp) (fun M4 h4 o4 => ?_)))⟩)
    have H4 : mR g Y S M4 := H1.off hF (fun q' z => (o4 q' z).trans ((o3 q' z).trans (o2 q' z)))
    obtain ⟨Y1, S1, H7, A⟩ := H4.alloc2 (k := 6) hF (fun f => match f with | 1 => nI dr | _ => sI S 0 0 8) (fun _ => 0) (fun _ => none) (fun _ => s) [] 0 rfl (by decide) (by decide) (fun z => absurd z (by decide)) h4 (fun f t' ht' => by
      rcases f with _ | _ | _ | f <;> cases ht'
      · exact ⟨fun _ => Nat.lt_of_lt_of_le hs aY_le, fun z => absurd z (by decide), fun z => absurd z (by decide), fun z => absurd z (by decide)⟩
      · exact ⟨fun z => absurd z (by decide), fun z => absurd z (by decide), fun z => absurd z (by decide), fun z => absurd z (by decide)⟩
      · exact ⟨fun z => absurd z (by decide), fun z => absurd z (by decide), fun z => absurd z (by decide), fun z => absurd z (by decide)⟩)
    have F1 := A.F (by omega)
    obtain ⟨a1, a2, a3, a4, a5, a6, -, a8, a9, -⟩ := A
    rw [← a4, ← a1 12 3 (W.l12 (by omega))]
    have hn12 : 3 < yn Y1 12 := by rw [a3 12 (by omega)]; exact W.l12 (by omega)
    have e12 : sL S1 12 3 = List.range (yn Y 6) := ((a5 12 3 (by omega)).2.2.2.2.1).trans W.2.2.1.2.2.2
    refine s_rcL H7 rfl hn12 (s_add (k := 12) (i := 3) (x := yn Y 6) (cap := 40) H7 rfl hn12 (show yn Y 6 < yn Y1 6 by omega) (by rw [e12, List.length_range]; exact h40) (by decide) (fun M7 md e H8 => ?_))
    rw [e12] at H8
    have ent : sI S 0 0 8 = nI nt := ((R.2.1 0 0 8 20 1 rfl W.x0 (by omega)).trans (nLk_v (by omega) _)).trans hN
    have m : ∀ k i, k ≠ 12 → i < yn Y k → mEq (uL S1 12 3 md e (List.range (yn Y 6) ++ [yn Y 6])) S k i := fun k i hk hi => (mEq.uL (by omega)).tr (a5 k i (fun w => by rw [w.1, w.2] at hi; omega))
    have eh : nh (nLk (nh N) (nI nt) (nI dr) s (yn Y 6) N) = nh N := (nLk_o _).2.2.2
    have R2 : RC x (nH (nLk (nh N) (nI nt) (nI dr) s (yn Y 6) N) (nh N ++ [s] ++ [dr] ++ [nt])) Y1 (uL S1 12 3 md e (List.range (yn Y 6) ++ [yn Y 6])) := by
      have h10 := R.2.2.2.2.2.2.2.2.2
      rw [eh] at h10
      refine R.nw H W m (fun k hk => a3 k (by omega)) ⟨(a3 3 (by omega)).trans R.1.1, (a3 4 (by omega)).trans R.1.2.1, (a3 5 (by omega)).trans R.1.2.2⟩ ⟨?_, fun i hi => ?_⟩ (fun _ _ _ _ _ _ => rfl) (fun _ _ => rfl) (fun _ _ _ => rfl) (fun t q1 q2 => absurd q2 (by rw [a3 3 (by omega)]; exact q1)) (fun t q1 q2 => absurd q2 (by rw [a3 4 (by omega)]; exact q1)) (fun t q1 q2 => absurd q2 (by rw [a3 5 (by omega)]; exact q1))
      · show (nh N ++ [s] ++ [dr] ++ [nt]).length = _
        rw [ap3_n, h10.1, a2]
        omega
      · show (nh N ++ [s] ++ [dr] ++ [nt])[3 * i]? = _ ∧ (∃ d, (nh N ++ [s] ++ [dr] ++ [nt])[3 * i + 1]? = _ ∧ _) ∧ ∃ d, (nh N ++ [s] ++ [dr] ++ [nt])[3 * i + 2]? = _ ∧ _
        by_cases z : i < yn Y 6
        · rw [ap3_l (by omega), ap3_l (by omega), ap3_l (by omega), congrFun (m 6 i (by omega) z).2.2.2.1 0, congrFun (m 6 i (by omega) z).1 1, congrFun (m 6 i (by omega) z).1 2]
          exact h10.2 i z
        · have ei : i = yn Y 6 := by omega
          subst ei
          rw [← h10.1, show (nh N).length = (nh N).length + 0 from rfl, ap3_r, show (nh N).length + 0 = (nh N).length from rfl, ap3_r, ap3_r]
          refine ⟨congrArg some (congrFun a9 0).symm, ⟨dr, rfl, hdr, (sI_uL (by omega)).trans (congrFun a6 1)⟩, ⟨nt, rfl, hnt, ((sI_uL (by omega)).trans (congrFun a6 2)).trans ent⟩⟩
    refine h Y1 _ M7 H8 ?_ (K.tr ⟨F1.tr (mFc.uL (by omega)), fun k hk => a3 k hk, fun t => (sL_uL (by omega)).trans (a5 13 t (by omega)).2.2.2.2.1, fun z => congrFun (a5 4 z (by omega)).2.2.1 5, fun z => (sI_uL (by omega)).trans (congrFun (a5 4 z (by omega)).1 4), fun k i f q => (sI_uL (by have := qC_d q; omega)).trans (congrFun (a5 k i (by have := qC_d q; omega)).1 f)⟩) R2
    obtain ⟨w1, w2, w3, ⟨v1, v2, v3, v4⟩, ⟨u1, u2⟩, ⟨u3, u4⟩, u5, u6⟩ := W
    have n0 := a3 0 (by omega); have n1 := a3 1 (by omega); have n2 := a3 2 (by omega); have n3 := a3 3 (by omega); have n4 := a3 4 (by omega); have n5 := a3 5 (by omega); have n7 := a3 7 (by omega); have n8 := a3 8 (by omega); have n9 := a3 9 (by omega); have n10 := a3 10 (by omega); have n11 := a3 11 (by omega); have n12 := a3 12 (by omega); have n13 := a3 13 (by omega)
    have hI : ∀ k i f, k ≠ 6 → k ≠ 12 → sI (uL S1 12 3 md e (List.range (yn Y 6) ++ [yn Y 6])) k i f = sI S k i f := fun k i f hk hk' => (sI_uL (by omega)).trans (by rw [(a5 k i (by omega)).1])
    have hL : ∀ i, i ≠ 3 → sL (uL S1 12 3 md e (List.range (yn Y 6) ++ [yn Y 6])) 12 i = sL S 12 i := fun i hi => (sL_uL (by omega)).trans (a5 12 i (by omega)).2.2.2.2.1
    have hL1 : sL (uL S1 12 3 md e (List.range (yn Y 6) ++ [yn Y 6])) 12 3 = List.range (yn Y 6 + 1) := sL_uL_s.trans List.range_succ.symm
    have hC : ∀ k i, k ≠ 6 → sC (uL S1 12 3 md e (List.range (yn Y 6) ++ [yn Y 6])) k i = sC S k i := fun k i hk => (a5 k i (by omega)).2.2.2.2.2.2.1
    have hP : ∀ k i j, k ≠ 6 → sP (uL S1 12 3 md e (List.range (yn Y 6) ++ [yn Y 6])) k i j = sP S k i j := fun k i j hk => congrFun (a5 k i (by omega)).2.2.2.2.2.2.2.2 j
    refine ⟨by rw [n0, n1, n2, n3, n7, n8, n9, n10, n11, n12, n13]; exact w1, by rw [n3, n4, a2, n5]; omega, by rw [hL 0 (by omega), hL 1 (by omega), hL1, hL 2 (by omega), n3, n4, a2, n5]; exact ⟨w3.1, w3.2.1, w3.2.2.1, rfl⟩, ⟨fun i hi => (hI 2 i 0 (by omega) (by omega)).trans (v1 i hi), fun i hi => (hI 3 i 0 (by omega) (by omega)).trans (v2 i (by omega)), fun i hi => (hI 4 i 0 (by omega) (by omega)).trans (v3 i (by omega)), fun i hi => (hI 5 i 0 (by omega) (by omega)).trans (v4 i (by omega))⟩, ⟨(hC 1 0 (by omega)).trans u1, fun i hi => ?_⟩, ⟨(hC 8 0 (by omega)).trans u3, fun i hi => ?_⟩, fun i hi => (hC 9 i (by omega)).trans (u5 i hi), (hC 9 9 (by omega)).trans u6⟩
    · rw [hP 1 0 i (by omega), u2 i hi, a1 2 i (by omega)]
    · rw [hP 8 0 i (by omega), u4 i hi, a1 9 i (by omega)]
  intro d
  induction d with
  | zero =>
    intro j S M H W K R hj
    rw [wX8_keepHiding_15]
    have ej : j = yn Y 6 := by omega
    rw [ej] at R
    exact c_hdH H W (by omega) (fun _ => hex S M H W K R) (fun hlt => absurd hlt (by omega))
  | succ d ih =>
    intro j S M H W K R hj
    have ih' : ∀ S M, mR g Y S M → mWs Y S → cK Y S0 Y S → RC x (nLk (nh N) (nI nt) (nI dr) s (j + 1) N) Y S → wX8_keepHiding_15 g κ (d + 1) (some (yA Y 0 0)) (some (yA Y 4 s)) (nI dr) (nI j + 1) M := fun S M H W K R => by rw [nI_1]; exact ih (j + 1) S M H W K R (by omega)
    rw [wX8_keepHiding_15]
    refine c_hdH H W (by omega) (fun z => absurd z (by omega)) (fun hlt => ?_)
    have ent : sI S 0 0 8 = nI nt := ((R.2.1 0 0 8 20 1 rfl W.x0 (by omega)).trans (nLk_v (by omega) _)).trans hN
    have h10 := R.2.2.2.2.2.2.2.2.2
    rw [show nh (nLk (nh N) (nI nt) (nI dr) s j N) = nh N from (nLk_o _).2.2.2] at h10
    obtain ⟨q0, ⟨d1, q1, b1, q2⟩, ⟨d2, q3, b2, q4⟩⟩ := h10.2 j hlt
    have eS : hS (nh N) j = sN S 6 j 0 := by unfold hS; rw [q0]; rfl
    have eD : hD (nh N) j = d1 := by unfold hD; rw [q1]; rfl
    have eT : hT (nh N) j = d2 := by unfold hT; rw [q3]; rfl
    have no : ¬ (nI (hD (nh N) j) = nI dr ∧ ¬ 2 < nI nt - nI (hT (nh N) j)) → RC x (nLk (nh N) (nI nt) (nI dr) s (j + 1) N) Y S := fun w => by
      rw [show nLk (nh N) (nI nt) (nI dr) s (j + 1) N = nLk (nh N) (nI nt) (nI dr) s j N from if_neg w]
      exact R
    refine s_gI H hlt rfl rfl rfl ?_
    rw [q2]
    refine br_c (fun w1 => ?_) (fun w1 => ih' S M H W K (no (fun w => w1 (by rw [eD] at w; exact w.1))))
    refine s_gI H W.x0 rfl rfl rfl (s_gI H hlt rfl rfl rfl ?_)
    rw [ent, q4]
    refine br_c (fun w2 => ih' S M H W K (no (fun w => by rw [eT] at w; exact w.2 w2))) (fun w2 => ?_)
    have h6 := H.lN (k := 6) (f := 0) (kt := 4) hlt rfl
    refine s_gR2 H hlt rfl rfl rfl (s_gI H h6 rfl rfl rfl (s_gI H hs rfl rfl rfl ?_))
    rw [W.2.2.2.1.2.2.1 s hs, R.2.1 4 (sN S 6 j 0) 8 28 9 rfl h6 (by omega)]
    refine s_pI H h6 rfl rfl rfl (fun M1 H1 => ?_)
    have R1 := R.pI (k := 4) (i := sN S 6 j 0) (f := 8) (k' := 28) (f' := 9) (v := nv (nLk (nh N) (nI nt) (nI dr) s j N) 28 (sN S 6 j 0) 9 ||| m_shl 1 (nI s)) rfl
    refine s_gI H1 hs rfl rfl rfl (s_gR2 H1 hlt rfl rfl rfl (s_gI H1 h6 rfl rfl rfl ?_))
    rw [R1.2.1 4 s 8 28 9 rfl hs (by omega), show sI (uI S 4 (sN S 6 j 0) 8 (nv (nLk (nh N) (nI nt) (nI dr) s j N) 28 (sN S 6 j 0) 9 ||| m_shl 1 (nI s))) 4 (sN S 6 j 0) 0 = nI (sN S 6 j 0) from (sI_uI (by omega)).trans (W.2.2.2.1.2.2.1 _ h6)]
    refine s_pI H1 hs rfl rfl rfl (fun M2 H2 => ?_)
    refine ih' _ M2 H2 ((W.uI (Or.inl (by omega))).uI (Or.inl (by omega))) ((K.tr (cK.uI (by omega) (by omega) (by decide))).tr (cK.uI (by omega) (by omega) (by decide))) ?_
    rw [show nLk (nh N) (nI nt) (nI dr) s (j + 1) N = nLk1 (nLk (nh N) (nI nt) (nI dr) s j N) (hS (nh N) j) s from if_pos ⟨by rw [eD]; exact w1, by rw [eT]; exact w2⟩, eS]
    exact R1.pI (k := 4) (i := s) (f := 8) (k' := 28) (f' := 9) rfl
theorem C_keepHiding (R : RC x N Y S) (H : mR g Y S M) (W : mWs Y S) {s : Nat} (hs : s < yn Y 4) {dr nt : Nat} (hdr : dr < 128) (hnt : nt < 128) (hN : nv N 20 0 1 = nI nt) {κ : mM → Prop} (h : ∀ Y' S' M', mR g Y' S' M' → mWs Y' S' → cK Y S Y' S' → RC x (nHide N s (nI dr)) Y' S' → κ M') : wX8_keepHiding g κ (some (yA Y 0 0)) (some (yA Y 4 s)) (nI dr) M := by
  have hbd := W.2.1
  have hl := R.2.2.2.2.2.2.2.2.2.1
  refine s_gR6 H W.x0 rfl rfl rfl (s_rcL H rfl (W.l12 (by omega)) (c_szH H W (br_c (fun z => ?_) (fun z => h Y S M H W (cK.rf Y S) ?_))))
  · have h40 : yn Y 6 < 40 := (nI_ltI (b := 40) (by omega) (by omega)).mp z
    have e : nHide N s (nI dr) = nH (nLk (nh N) (nI nt) (nI dr) s (yn Y 6) N) (nh N ++ [s] ++ [dr] ++ [nt]) := by
      unfold nHide
      rw [if_neg (by omega), hN, tN_nI (by omega), tN_nI (by omega), hl, show 3 * yn Y 6 / 3 = yn Y 6 by omega]
    rw [e] at h
    exact ⟨yn Y 6 + 1, C_kh15 hdr hnt hN h hs h40 (yn Y 6) 0 S M H W (cK.rf Y S) R (by omega)⟩
  · have e : nHide N s (nI dr) = N := if_pos (by
      have : ¬ yn Y 6 < 40 := fun w => z (show nI (yn Y 6) < nI 40 from nI_lt w (by omega))
      omega)
    rw [e]
    exact R
end SIM17
