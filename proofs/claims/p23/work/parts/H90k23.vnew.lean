/-! THE SIMULATION, 14: what comes new, of the reference -/
theorem RV.nw {N N' : mN} {g : Nat → Nat} {Y : mY} {S : mS} {Y1 : mY} {S1 : mS} (h : RV N Y S) (V : mVs Y S) (m : ∀ k i, k ≠ 24 → i < yn Y k → mEq S1 S k i) (n0 : ∀ k, k = 20 ∨ k = 22 → yn Y1 k = yn Y k) (c : yn Y1 23 = nn N' 23 ∧ yn Y1 28 = nn N' 28 ∧ yn Y1 29 = nn N' 29) (hh : sL S1 24 3 = sL S 24 3) (hn : nh N' = nh N)
    (e : ∀ k i f, i < yn Y k → rK k f = true → nv N' k i f = nv N k i f) (eq : ∀ t, t < yn Y 23 → nq N' t = nq N t) (er : ∀ t v, t < yn Y 23 → nr N' t v = nr N t v)
    (gI : ∀ k i f, ¬ i < yn Y k → i < yn Y1 k → (k = 23 ∨ k = 28 ∨ k = 29) → rK k f = true → sI S1 k i f = nv N' k i f)
    (g3 : ∀ t, ¬ t < yn Y 23 → t < yn Y1 23 → sL S1 25 t = nq N' t ∧ ∀ v, v < 97 → sE S1 26 t v = if nr N' t v = true then 1 else 0) : RV N' Y1 S1 := by
  obtain ⟨h1, h2, h3, h4, h5⟩ := h
  refine ⟨c, fun k i f hk hi => ?_, fun t ht => ?_, fun t v ht hv => ?_, by rw [hh, hn]; exact h5⟩
  · have hd := rK_d hk
    by_cases z : i < yn Y k
    · rw [e k i f z hk]
      exact (congrFun (m k i (by omega) z).1 f).trans (h2 k i f hk z)
    · rcases hd with hd | hd | hd | hd | hd
      · rw [hd.1, n0 20 (by omega)] at hi; rw [hd.1] at z; exact absurd hi z
      · rw [hd.1, n0 22 (by omega)] at hi; rw [hd.1] at z; exact absurd hi z
      · exact gI k i f z hi (by omega) hk
      · exact gI k i f z hi (by omega) hk
      · exact gI k i f z hi (by omega) hk
  · by_cases z : t < yn Y 23
    · rw [eq t z, (m 25 t (by omega) (V.l25 z)).2.2.2.2.1]
      exact h3 t z
    · exact (g3 t z ht).1
  · by_cases z : t < yn Y 23
    · rw [er t v z, congrFun (m 26 t (by omega) (V.l26 z)).2.2.2.2.2.2.2.1 v]
      exact h4 t v z hv
    · exact (g3 t z ht).2 v hv
section SIM14
variable {g : Nat → Nat} {Y : mY} {S : mS} {M : mM} {N : mN} {Y0 : mY} {S0 : mS}
theorem D_sleeper (P : vN g N Y0 S0 Y S M) {a b p : Int32} (hb01 : b = 0 ∨ b = 1) {κ : Int32 → mM → Prop} (h : ∀ k v N' Y' S' M', fSleeper N a b p = (k, v, N') → vN g N' Y0 S0 Y' S' M' → sI S' 20 0 0 = k → κ v M') : wX14_sleeper g κ (some (yA Y 20 0)) a b p M := by
  have c28 : nn N 28 = yn Y 28 := P.2.2.1.2.1.symm
  unfold fSleeper at h
  rw [c28] at h
  refine n_th P (fun S1 M1 P1 e1 => ?_)
  clear P
  have H := P1.1.1
  have V := P1.1.2.1
  have hbd := V.2.1
  refine s_rc H V.x0 rfl rfl (v_isLand (fun l hl el => br_f (by decide) (v_is (fun r1 r2 => br_f (by decide) ?_) (fun n => br_t rfl ?_))) (fun n => br_t rfl (n_rf P1 (fun S2 M2 P2 e2 => h 1 0 N Y S2 M2 (by rw [if_pos n]) P2 e2))))
  rotate_left
  · have va : ¬ a < 0 ∧ a < 6 := by rw [el]; exact m_in (n := 6) hl (by omega)
    exact n_rf P1 (fun S2 M2 P2 e2 => h 2 0 N Y S2 M2 (by rw [if_neg (fun w => w va), if_pos (fun q => n ⟨q.1, Int32.not_lt.mpr q.2⟩)]) P2 e2)
  have va : ¬ a < 0 ∧ a < 6 := by rw [el]; exact m_in (n := 6) hl (by omega)
  subst el
  refine s_gR6 H V.x0 rfl rfl rfl (s_rcL H rfl (V.l24 (by omega)) (v_szS H V (br_c (fun z => n_rf P1 (fun S2 M2 P2 e2 => h 3 0 N Y S2 M2 (by rw [if_neg (fun w => w va), if_neg (fun w => w ⟨r1, Int32.not_lt.mp r2⟩), if_pos (fun w => absurd ((nI_eq (a := yn Y 28) (b := 12) (by omega) (by omega)).mp z) (by omega))]) P2 e2)) (fun z => ?_))))
  have hn : yn Y 28 < 12 := by
    have : yn Y 28 ≠ 12 := fun e => z (by rw [e]; rfl)
    omega
  refine r_new (fun q M2 hq h2 o2 => r_rc h2 ⟨q, rfl, r_p h2 (by simp) (fun M3 h3 o3 => r_p h3 (by simp) (fun M4 h4 o4 => r_p h4 (by simp) (fun M5 h5 o5 => r_p h5 (by simp) (fun M6 h6 o6 => ⟨hb01, r_p h6 (by simp) (fun M7 h7 o7 => r_p h7 (by simp) (fun M8 h8 o8 => ?_))⟩))))⟩)
  have hF := H.fr hq
  have H8 : mR g Y S1 M8 := H.off hF (fun q' z => (o8 q' z).trans ((o7 q' z).trans ((o6 q' z).trans ((o5 q' z).trans ((o4 q' z).trans ((o3 q' z).trans (o2 q' z)))))))
  obtain ⟨Y1, S2, H9, A⟩ := H8.alloc2 (k := 28) hF (fun f => match f with | 0 => nI l | 1 => b | 2 => p | 4 => -1 | 6 => -1 | 8 => -1 | _ => 0) (fun _ => 0) (fun _ => none) (fun _ => 0) [] 0 rfl (by decide) (by decide) (fun z => absurd z (by decide)) h8 (fun f t' ht' => by
    rcases f with _ | _ | _ | _ | _ | _ | _ | _ | _ | f <;> cases ht' <;> exact ⟨fun z => absurd z (by decide), fun z => absurd z (by decide), fun z => absurd z (by decide), fun z => absurd z (by decide)⟩)
  have hn24 : 1 < yn Y1 24 := by rw [A.2.2.1 24 (by omega)]; exact V.l24 (by omega)
  have e24 : sL S2 24 1 = List.range (yn Y 28) := ((A.2.2.2.2.1 24 1 (by omega)).2.2.2.2.1).trans V.2.2.1.2.1
  have hx1 : yn Y 28 < yn Y1 28 := by rw [A.2.1]; omega
  have e20 : 0 < yn Y1 20 := by rw [A.2.2.1 20 (by omega)]; exact V.x0
  rw [← A.2.2.2.1, ← A.1 20 0 V.x0]
  refine s_gR6 H9 e20 rfl rfl rfl (s_rcL H9 rfl hn24 (s_add (k := 24) (i := 1) (x := yn Y 28) (cap := 12) H9 rfl hn24 hx1 (by rw [e24, List.length_range]; exact hn) (by decide) (fun M9 md e H10 => ?_)))
  rw [e24] at H10
  have P2 := mVI.grow28 (vP.rf P1.1) A hn (fun f => by
    rcases f with _ | _ | _ | _ | _ | _ | _ | _ | _ | f
    · exact ⟨l, hl, rfl⟩
    · exact trivial
    · exact trivial
    · exact trivial
    · exact Or.inl rfl
    · exact trivial
    · exact trivial
    · exact trivial
    · exact Or.inl rfl
    · exact trivial) rfl H10
  refine s_gR6 H10 e20 rfl rfl rfl (s_rcL H10 rfl hn24 (v_szS H10 P2.1.2.1 ?_))
  have ev : nI (yn Y1 28) - 1 = nI (yn Y 28) := by rw [P2.2.2.2.2.1, ← nI_1]; exact Int32.add_sub_cancel _ _
  rw [ev]
  have AA := A
  obtain ⟨a1, a2, a3, a4, a5, a6, -⟩ := A
  have R1 : RV (nNew N 28 (sFs (nI l) b p)) Y1 (uL S2 24 1 md e (List.range (yn Y 28) ++ [yn Y 28])) := by
    refine P1.2.2.nw (g := g) V (fun k i hk hi => (mEq.uL (by omega)).tr (a5 k i (fun w => by rw [w.1, w.2] at hi; omega))) (fun k hk => a3 k (by omega)) ⟨?_, ?_, ?_⟩ ((sL_uL (by omega)).trans (a5 24 3 (by omega)).2.2.2.2.1) rfl (fun k i f hi _ => nv_N (fun w => ?_)) (fun _ _ => rfl) (fun _ _ _ => rfl) (fun k i f z hi hk hf => ?_) (fun t q1 q2 => absurd q2 (by rw [a3 23 (by omega)]; exact q1))
    · rw [nn_N (by omega), a3 23 (by omega), P1.2.2.1.1]
    · rw [nn_N_s, a2, c28]
    · rw [nn_N (by omega), a3 29 (by omega), P1.2.2.1.2.2]
    · rw [w.1, w.2, c28] at hi
      omega
    · have ek : k = 28 := by
        by_cases zk : k = 28
        · exact zk
        · rw [a3 k zk] at hi
          exact absurd hi z
      subst ek
      have ei : i = yn Y 28 := by omega
      subst ei
      rw [show nv (nNew N 28 (sFs (nI l) b p)) 28 (yn Y 28) f = sFs (nI l) b p f from by rw [← c28]; exact nv_N_s]
      refine ((sI_uL (by omega)).trans (congrFun a6 f)).trans ?_
      rcases f with _ | _ | _ | _ | _ | _ | _ | _ | _ | f <;> rfl
  exact h 0 _ _ Y1 _ M9 (by rw [if_neg (fun w => w va), if_neg (fun w => w ⟨r1, Int32.not_lt.mp r2⟩), if_neg (fun w => w hn)]) ⟨P2.1, P1.2.1.tr P2.2.1, R1⟩ (P2.2.2.2.2.2.trans e1)
theorem D_part (P : vN g N Y0 S0 Y S M) {a b p d : Int32} {κ : Int32 → mM → Prop} (h : ∀ k v N' Y' S' M', fPart N a b p d = (k, v, N') → vN g N' Y0 S0 Y' S' M' → sI S' 20 0 0 = k → κ v M') : wX14_part g κ (some (yA Y 20 0)) a b p d M := by
  have c29 : nn N 29 = yn Y 29 := P.2.2.1.2.2.symm
  unfold fPart at h
  rw [c29, ← P.2.2.1.2.1] at h
  refine n_th P (fun S1 M1 P1 e1 => ?_)
  clear P
  have H := P1.1.1
  have V := P1.1.2.1
  have hbd := V.2.1
  have RR := P1.2.2.2.1
  have f2 : (¬ a < 0 ∧ a < nI (yn Y 28)) → ¬ ((¬ b < 0 ∧ b ≤ 7) ∧ (¬ p < 0 ∧ p ≤ 99) ∧ (¬ d < 0 ∧ d ≤ 9)) → wX14_part_50 g κ (some (yA Y 20 0)) M1 := fun z w => n_rf P1 (fun S2 M2 P2 e2 => h 2 0 N Y S2 M2 (by rw [if_neg (fun q => q z), if_pos w]) P2 e2)
  refine s_rc H V.x0 rfl rfl (v_isSleeper H V (fun s hs es => br_f (by decide) (v_is (fun z1 w1 => br_f (by decide) (v_is (fun z2 w2 => br_f (by decide) (v_is (fun z3 w3 => br_f (by decide) ?_) (fun n => br_t rfl (f2 (by rw [es]; exact m_in hs (by omega)) (fun q => n ⟨q.2.2.1, Int32.not_lt.mpr q.2.2.2⟩)))) ) (fun n => br_t rfl (f2 (by rw [es]; exact m_in hs (by omega)) (fun q => n ⟨q.2.1.1, Int32.not_lt.mpr q.2.1.2⟩))))) (fun n => br_t rfl (f2 (by rw [es]; exact m_in hs (by omega)) (fun q => n ⟨q.1.1, Int32.not_lt.mpr q.1.2⟩))))) (fun n => br_t rfl (n_rf P1 (fun S2 M2 P2 e2 => h 1 0 N Y S2 M2 (by rw [if_pos n]) P2 e2))))
  have hv : ¬ a < 0 ∧ a < nI (yn Y 28) := by rw [es]; exact m_in hs (by omega)
  have hr : ((¬ b < 0 ∧ b ≤ 7) ∧ (¬ p < 0 ∧ p ≤ 99) ∧ (¬ d < 0 ∧ d ≤ 9)) := ⟨⟨z1, Int32.not_lt.mp w1⟩, ⟨z2, Int32.not_lt.mp w2⟩, ⟨z3, Int32.not_lt.mp w3⟩⟩
  rw [if_neg (fun w => w hv), if_neg (fun w => w hr), es, tN_nI (by omega)] at h
  have f3 : (¬ yn Y 29 < 24 ∨ ¬ nv N 28 s 3 = 0) → wX14_part_85 g κ (some (yA Y 20 0)) M1 := fun z => n_rf P1 (fun S2 M2 P2 e2 => h 3 0 N Y S2 M2 (by rw [if_pos z]) P2 e2)
  subst es
  obtain ⟨dr, hdr, rfl⟩ := nI_rg (n := 7) (by omega) z1 w1
  obtain ⟨wt, hwt, rfl⟩ := nI_rg (n := 99) (by omega) z2 w2
  refine s_gR6 H V.x0 rfl rfl rfl (s_rcL H rfl (V.l24 (by omega)) (v_szP H V (br_c (fun z => f3 (Or.inl (fun w => absurd ((nI_eq (a := yn Y 29) (b := 24) (by omega) (by omega)).mp z) (by omega)))) (fun z => v_S H V hs (s_gI H hs rfl rfl rfl ?_)))))
  rw [RR 28 s 3 rfl hs]
  refine br_c (fun z0 => ?_) (fun w => f3 (Or.inr w))
  have hn : yn Y 29 < 24 := by
    have : yn Y 29 ≠ 24 := fun e => z (by rw [e]; rfl)
    omega
  refine r_new (fun q M2 hq h2 o2 => r_rc h2 ⟨q, rfl, r_p h2 (by simp) (fun M3 h3 o3 => r_p h3 (by simp) (fun M4 h4 o4 => r_p h4 (by simp) (fun M5 h5 o5 => r_p h5 (by simp) (fun M6 h6 o6 => r_p h6 (by simp) (fun M7 h7 o7 => ?_)))))⟩)
  have hF := H.fr hq
  have H8 : mR g Y S1 M7 := H.off hF (fun q' z => (o7 q' z).trans ((o6 q' z).trans ((o5 q' z).trans ((o4 q' z).trans ((o3 q' z).trans (o2 q' z))))))
  obtain ⟨Y1, S2, H9, A⟩ := H8.alloc2 (k := 29) hF (fun f => match f with | 0 => nI dr | 1 => nI wt | 2 => d | 4 => nI s | 5 => -1 | _ => 0) (fun _ => 0) (fun _ => none) (fun _ => 0) [] 0 rfl (by decide) (by decide) (fun z => absurd z (by decide)) h7 (fun f t' ht' => by
    rcases f with _ | _ | _ | _ | _ | _ | f <;> cases ht' <;> exact ⟨fun z => absurd z (by decide), fun z => absurd z (by decide), fun z => absurd z (by decide), fun z => absurd z (by decide)⟩)
  have hn24 : 2 < yn Y1 24 := by rw [A.2.2.1 24 (by omega)]; exact V.l24 (by omega)
  have e24 : sL S2 24 2 = List.range (yn Y 29) := ((A.2.2.2.2.1 24 2 (by omega)).2.2.2.2.1).trans V.2.2.1.2.2.1
  have hx1 : yn Y 29 < yn Y1 29 := by rw [A.2.1]; omega
  have e20 : 0 < yn Y1 20 := by rw [A.2.2.1 20 (by omega)]; exact V.x0
  rw [← A.2.2.2.1, ← A.1 20 0 V.x0]
  refine s_gR6 H9 e20 rfl rfl rfl (s_rcL H9 rfl hn24 (s_add (k := 24) (i := 2) (x := yn Y 29) (cap := 24) H9 rfl hn24 hx1 (by rw [e24, List.length_range]; exact hn) (by decide) (fun M9 md e H10 => ?_)))
  rw [e24] at H10
  have P2 := mVI.grow29 (vP.rf P1.1) A hn (fun f => by
    rcases f with _ | _ | _ | _ | _ | _ | f
    · exact ⟨dr, by omega, rfl⟩
    · exact ⟨wt, hwt, rfl⟩
    · exact trivial
    · exact trivial
    · exact ⟨s, rfl, Or.inl hs⟩
    · exact trivial
    · exact trivial) rfl H10
  obtain ⟨a1, a2, a3, a4, a5, a6, -⟩ := A
  have R1 : RV (nNew N 29 (pFs (nI s) (nI dr) (nI wt) d)) Y1 (uL S2 24 2 md e (List.range (yn Y 29) ++ [yn Y 29])) := by
    refine P1.2.2.nw (g := g) V (fun k i hk hi => (mEq.uL (by omega)).tr (a5 k i (fun w => by rw [w.1, w.2] at hi; omega))) (fun k hk => a3 k (by omega)) ⟨?_, ?_, ?_⟩ ((sL_uL (by omega)).trans (a5 24 3 (by omega)).2.2.2.2.1) rfl (fun k i f hi _ => nv_N (fun w => ?_)) (fun _ _ => rfl) (fun _ _ _ => rfl) (fun k i f z hi hk hf => ?_) (fun t q1 q2 => absurd q2 (by rw [a3 23 (by omega)]; exact q1))
    · rw [nn_N (by omega), a3 23 (by omega), P1.2.2.1.1]
    · rw [nn_N (by omega), a3 28 (by omega), P1.2.2.1.2.1]
    · rw [nn_N_s, a2, c29]
    · rw [w.1, w.2, c29] at hi
      omega
    · have ek : k = 29 := by
        by_cases zk : k = 29
        · exact zk
        · rw [a3 k zk] at hi
          exact absurd hi z
      subst ek
      have ei : i = yn Y 29 := by omega
      subst ei
      rw [show nv (nNew N 29 (pFs (nI s) (nI dr) (nI wt) d)) 29 (yn Y 29) f = pFs (nI s) (nI dr) (nI wt) d f from by rw [← c29]; exact nv_N_s]
      refine ((sI_uL (by omega)).trans (congrFun a6 f)).trans ?_
      rcases f with _ | _ | _ | _ | _ | _ | f <;> rfl
  have e20' : sI (uL S2 24 2 md e (List.range (yn Y 29) ++ [yn Y 29])) 20 0 0 = 0 := ((sI_uL (by omega)).trans (congrFun (a5 20 0 (by omega)).1 0)).trans e1
  refine s_gR6 H10 e20 rfl rfl rfl (s_rcL H10 rfl hn24 (v_szP H10 P2.1.2.1 ?_))
  have ev : nI (yn Y1 29) - 1 = nI (yn Y 29) := by rw [a2, ← nI_1]; exact Int32.add_sub_cancel _ _
  rw [ev]
  exact h 0 _ _ Y1 _ M9 (by rw [if_neg (fun w => w.elim (fun w => w hn) (fun w => w z0))]) ⟨P2.1, P1.2.1.tr P2.2.1, R1⟩ e20'
theorem mR.allocZ' (H : mR g Y S M) {q n : Nat} (hF : mFr Y S q) (h1 : M q = some (.inl (1, n, .inl (fun _ => 0)))) : ∃ Y1 S1, mR g Y1 S1 M ∧ mAl Y S 26 q (fun _ => 0) (fun _ => 0) (fun _ => none) (fun _ => 0) [] 0 Y1 S1 ∧ sC S1 26 (yn Y 26) = n ∧ ∀ v, sE S1 26 (yn Y 26) v = 0 := by
  have eC : sC (uO S 26 (yn Y 26) (fun _ => 0) (fun _ => 0) (fun _ => none) (fun _ => 0) [] 0 n (fun _ => 0) (fun _ => none)) 26 (yn Y 26) = n := if_pos ⟨rfl, rfl⟩
  have eE : sE (uO S 26 (yn Y 26) (fun _ => 0) (fun _ => 0) (fun _ => none) (fun _ => 0) [] 0 n (fun _ => 0) (fun _ => none)) 26 (yn Y 26) = (fun _ => 0) := if_pos ⟨rfl, rfl⟩
  have H2 := H.alloc (k := 26) hF (uO S 26 (yn Y 26) (fun _ => 0) (fun _ => 0) (fun _ => none) (fun _ => 0) [] 0 n (fun _ => 0) (fun _ => none)) (fun k' i' hi => mEq.uO (fun z => by obtain ⟨rfl, rfl⟩ := z; exact Nat.lt_irrefl _ hi)) (by
    rw [h1]
    show _ = some (Sum.inl (1, sC _ 26 (yn Y 26), Sum.inl (sE _ 26 (yn Y 26))))
    rw [eC, eE]) (fun z => absurd z (by decide)) (fun f t ht => by cases ht) (by decide) (by decide)
  exact ⟨_, _, H2, ⟨fun k' i' hi => aY_A hi, aY_n, fun k' z => aY_nn z, aY_q, fun k' i' z => mEq.uO z, if_pos ⟨rfl, rfl⟩, if_pos ⟨rfl, rfl⟩, if_pos ⟨rfl, rfl⟩, if_pos ⟨rfl, rfl⟩, if_pos ⟨rfl, rfl⟩, if_pos ⟨rfl, rfl⟩⟩, eC, fun v => congrFun eE v⟩
theorem D_gate (P : vN g N Y0 S0 Y S M) {a b f hh : Int32} {κ : Int32 → mM → Prop} (h : ∀ k v N' Y' S' M', fGate N a b f hh = (k, v, N') → vN g N' Y0 S0 Y' S' M' → sI S' 20 0 0 = k → κ v M') : wX14_gate g κ (some (yA Y 20 0)) a b f hh M := by
  have c23 : nn N 23 = yn Y 23 := P.2.2.1.1.symm
  unfold fGate at h
  rw [c23] at h
  refine n_th P (fun S1 M1 P1 e1 => ?_)
  clear P
  have H := P1.1.1
  have V := P1.1.2.1
  have hbd := V.2.1
  have f1 : ¬ ((¬ a < 0 ∧ a < 6) ∧ (¬ b < 0 ∧ b < 6)) → wX14_gate_21 g κ (some (yA Y 20 0)) M1 := fun z => n_rf P1 (fun S2 M2 P2 e2 => h 1 0 N Y S2 M2 (by rw [if_pos z]) P2 e2)
  have f2 : ((¬ a < 0 ∧ a < 6) ∧ (¬ b < 0 ∧ b < 6)) → (a = b ∨ ¬ ((¬ f < 0 ∧ f ≤ 23) ∧ (¬ hh < 1 ∧ hh ≤ 24))) → wX14_gate_53 g κ (some (yA Y 20 0)) M1 := fun z w => n_rf P1 (fun S2 M2 P2 e2 => h 2 0 N Y S2 M2 (by rw [if_neg (fun q => q z), if_pos w]) P2 e2)
  refine s_rc H V.x0 rfl rfl (v_isLand (fun l hl el => br_f (by decide) (s_rc H V.x0 rfl rfl (v_isLand (fun l' hl' el' => br_f (by decide) ?_) (fun z => br_t rfl (f1 (fun w => z w.2)))))) (fun z => br_t rfl (f1 (fun w => z w.1))))
  have va : ¬ a < 0 ∧ a < 6 := by rw [el]; exact m_in (n := 6) hl (by omega)
  have vb : ¬ b < 0 ∧ b < 6 := by rw [el']; exact m_in (n := 6) hl' (by omega)
  refine br_c (fun q => f2 ⟨va, vb⟩ (Or.inl q)) (fun nab => v_is (fun r1 r2 => br_f (by decide) (v_is (fun r3 r4 => br_f (by decide) ?_) (fun n => br_t rfl (f2 ⟨va, vb⟩ (Or.inr (fun q => n ⟨q.2.1, Int32.not_lt.mpr q.2.2⟩)))))) (fun n => br_t rfl (f2 ⟨va, vb⟩ (Or.inr (fun q => n ⟨q.1.1, Int32.not_lt.mpr q.1.2⟩)))))
  have hr : ((¬ f < 0 ∧ f ≤ 23) ∧ (¬ hh < 1 ∧ hh ≤ 24)) := ⟨⟨r1, Int32.not_lt.mp r2⟩, ⟨r3, Int32.not_lt.mp r4⟩⟩
  subst el
  subst el'
  refine s_gR6 H V.x0 rfl rfl rfl (s_rcL H rfl (V.l24 (by omega)) (v_szG H V (br_c (fun z => n_rf P1 (fun S2 M2 P2 e2 => h 3 0 N Y S2 M2 (by rw [if_neg (fun q => q ⟨va, vb⟩), if_neg (fun q => q.elim nab (fun q => q hr)), if_pos (fun w => absurd ((nI_eq (a := yn Y 23) (b := 8) (by omega) (by omega)).mp z) (by omega))]) P2 e2)) (fun z => ?_))))
  have hn : yn Y 23 < 8 := by
    have : yn Y 23 ≠ 8 := fun e => z (by rw [e]; rfl)
    omega
  refine r_new (fun q M2 hq h2 o2 => r_vgate h2 (fun M3 q1 q7 f1 f7 n17 k0 k1 k7 o3 => ?_))
  have hF := H.fr hq
  have H2 : mR g Y S1 M2 := H.off hF o2
  have hg0 : yA Y 34 0 = g 0 := H.2.2.2.2.2.2.2.1
  have some_ne : ∀ {M : mM} {a b : Nat} {e : mCe}, M a = some e → M b = none → a ≠ b := fun h1 h2 z => by rw [z, h2] at h1; cases h1
  have F1 := H2.fr f1
  have F7 := H2.fr f7
  have nq1 : q ≠ q1 := some_ne h2 f1
  have nq7 : q ≠ q7 := some_ne h2 f7
  have H3 : mR g Y S1 M3 := H2.off3 hF F1 F7 o3
  have h34 : 0 < yn Y 34 := by rw [H.2.2.2.2.2.2.1]; omega
  have ne34 : ∀ {q : Nat}, mFr Y S1 q → g 0 ≠ q := fun hF => by rw [← hg0]; exact hF.1 34 0 h34
  obtain ⟨Ya, Sa, Ha, A⟩ := H3.alloc2 (k := 25) F1 (fun _ => 0) (fun _ => 0) (fun _ => none) (fun _ => 0) [] (g 0) rfl (by decide) (by decide) (fun _ => ⟨hg0.symm, rfl⟩) k1 (fun f t' ht' => by
    rcases f with _ | _ | _ | f <;> cases ht' <;> exact ⟨fun z => absurd z (by decide), fun z => absurd z (by decide), fun z => absurd z (by decide), fun z => absurd z (by decide)⟩)
  have A0 := A.fr hF nq1.symm (fun _ => ne34 hF)
  have A7 := A.fr F7 n17 (fun _ => ne34 F7)
  obtain ⟨Yc, Sc, Hc, C, cC, cE⟩ := Ha.allocZ' A7 k7
  have C0 := C.fr A0 nq7.symm (fun z => absurd z (by decide))
  have FA := A.Fm (by omega)
  have FC := C.Fm (by omega)
  obtain ⟨a1, a2, a3, a4, a5, -, -, -, -, a10, -⟩ := A
  obtain ⟨c1, c2, c3, c4, c5, -⟩ := C
  have hn25 : yn Y 25 = yn Y 23 := V.1.2.2.2.2.2.2.2.1
  have hn26 : yn Y 26 = yn Y 23 := V.1.2.2.2.2.2.2.2.2
  have m23 : yn Yc 23 = yn Y 23 := by rw [c3 23 (by omega), a3 23 (by omega)]
  have m25 : yn Yc 25 = yn Y 23 + 1 := by rw [c3 25 (by omega), a2, hn25]
  have m26 : yn Yc 26 = yn Y 23 + 1 := by rw [c2, a3 26 (by omega), hn26]
  have mo : ∀ k, k ≠ 25 → k ≠ 26 → yn Yc k = yn Y k := fun k z1 z2 => by rw [c3 k z2, a3 k z1]
  have ad25 : yA Yc 25 (yn Y 23) = q1 := by
    rw [c1 25 _ (by rw [a2, hn25]; omega), ← hn25, a4]
  have ad26 : yA Yc 26 (yn Y 23) = q7 := by
    have e : yn Ya 26 = yn Y 23 := by rw [a3 26 (by omega), hn26]
    rw [← e, c4]
  have eqs : ∀ k i, ¬ (k = 25 ∧ i = yn Y 23) → ¬ (k = 26 ∧ i = yn Y 23) → mEq Sc S1 k i := fun k i z1 z2 => (c5 k i (fun w => z2 ⟨w.1, by rw [w.2, a3 26 (by omega), hn26]⟩)).tr (a5 k i (fun w => z1 ⟨w.1, by rw [w.2, hn25]⟩))
  have l25 : sL Sc 25 (yn Y 23) = [] := by
    have e1 := (c5 25 (yn Y 23) (by omega)).2.2.2.2.1
    rw [e1, ← hn25, a10]
  have c26 : sC Sc 26 (yn Y 23) = 97 := by
    rw [a3 26 (by omega), hn26] at cC
    exact cC
  have z26 : ∀ v, sE Sc 26 (yn Y 23) v = 0 := by
    rw [a3 26 (by omega), hn26] at cE
    exact cE
  have Fc : mFm Y S1 Yc Sc := FA.tr FC
  clear a1 a2 a3 a4 a5 a10 c1 c2 c3 c4 c5 FA FC Ha A0 A7 cC
  obtain ⟨Y1, S2, H7, A⟩ := Hc.alloc2 (k := 23) C0 (fun i => match i with | 0 => nI l | 1 => nI l' | 2 => f | 3 => hh | 4 => 5 | _ => 0) (fun _ => 0) (fun _ => none) (fun _ => 0) [] 0 rfl (by decide) (by decide) (fun z => absurd z (by decide)) (by
      rw [k0, ← ad25, ← ad26, ← m23]
      rfl) (fun f t' ht' => by
    rcases f with _ | _ | _ | _ | _ | _ | _ | _ | f <;> cases ht'
    · exact ⟨fun z => absurd z (by decide), fun z => absurd z (by decide), fun z => absurd z (by decide), fun z => absurd z (by decide)⟩
    · exact ⟨fun z => absurd z (by decide), fun z => absurd z (by decide), fun z => absurd z (by decide), fun z => absurd z (by decide)⟩
    · exact ⟨fun z => absurd z (by decide), fun z => absurd z (by decide), fun z => absurd z (by decide), fun z => absurd z (by decide)⟩
    · exact ⟨fun z => absurd z (by decide), fun z => absurd z (by decide), fun z => absurd z (by decide), fun z => absurd z (by decide)⟩
    · exact ⟨fun z => absurd z (by decide), fun z => absurd z (by decide), fun z => absurd z (by decide), fun z => absurd z (by decide)⟩
    · exact ⟨fun z => absurd z (by decide), fun z => absurd z (by decide), fun z => absurd z (by decide), fun z => absurd z (by decide)⟩
    · exact ⟨fun z => absurd z (by decide), fun z => absurd z (by decide), fun z => absurd z (by decide), fun _ => (show yn Yc 23 < yn Yc 25 by omega)⟩
    · exact ⟨fun z => absurd z (by decide), fun z => absurd z (by decide), fun z => absurd z (by decide), fun _ => (show yn Yc 23 < yn Yc 26 by omega)⟩)
  have FF := Fc.tr (A.Fm (by omega))
  obtain ⟨a1, a2, a3, a4, a5, a6, -⟩ := A
  have n0 : ∀ k, k ≠ 23 → k ≠ 25 → k ≠ 26 → yn Y1 k = yn Y k := fun k z1 z2 z3 => by rw [a3 k z1, mo k z2 z3]
  have ad1 : ∀ k i, i < yn Y k → yA Y1 k i = yA Y k i := FF.1
  have eq1 : ∀ k i, ¬ (k = 25 ∧ i = yn Y 23) → ¬ (k = 26 ∧ i = yn Y 23) → ¬ (k = 23 ∧ i = yn Y 23) → mEq S2 S1 k i := fun k i z1 z2 z4 => (a5 k i (fun w => z4 ⟨w.1, by rw [w.2, m23]⟩)).tr (eqs k i z1 z2)
  have l25' : sL S2 25 (yn Y 23) = [] := ((a5 25 (yn Y 23) (by omega)).2.2.2.2.1).trans l25
  have c26' : sC S2 26 (yn Y 23) = 97 := ((a5 26 (yn Y 23) (by omega)).2.2.2.2.2.2.1).trans c26
  rw [m23] at a2 a4 a6
  rw [← a4, ← ad1 20 0 V.x0]
  have e20 : 0 < yn Y1 20 := by rw [n0 20 (by omega) (by omega) (by omega)]; exact V.x0
  have hn24 : 0 < yn Y1 24 := by rw [n0 24 (by omega) (by omega) (by omega)]; exact V.l24 (by omega)
  have e24 : sL S2 24 0 = List.range (yn Y 23) := ((eq1 24 0 (by omega) (by omega) (by omega)).2.2.2.2.1).trans V.2.2.1.1
  refine s_gR6 H7 e20 rfl rfl rfl (s_rcL H7 rfl hn24 (s_add (k := 24) (i := 0) (x := yn Y 23) (cap := 8) H7 rfl hn24 (show yn Y 23 < yn Y1 23 by omega) (by rw [e24, List.length_range]; exact hn) (by decide) (fun M7 md e H8 => ?_)))
  rw [e24] at H8
  have y20 := n0 20 (by omega) (by omega) (by omega); have y21 := n0 21 (by omega) (by omega) (by omega); have y22 := n0 22 (by omega) (by omega) (by omega); have y24 := n0 24 (by omega) (by omega) (by omega); have y27 := n0 27 (by omega) (by omega) (by omega); have y28 := n0 28 (by omega) (by omega) (by omega); have y29 := n0 29 (by omega) (by omega) (by omega); have y30 := n0 30 (by omega) (by omega) (by omega); have y33 := n0 33 (by omega) (by omega) (by omega)
  have y25 : yn Y1 25 = yn Y 23 + 1 := by rw [a3 25 (by omega), m25]
  have y26 : yn Y1 26 = yn Y 23 + 1 := by rw [a3 26 (by omega), m26]
  have hI : ∀ k i f, ¬ (k = 25 ∧ i = yn Y 23) → ¬ (k = 26 ∧ i = yn Y 23) → ¬ (k = 23 ∧ i = yn Y 23) → k ≠ 24 → sI (uL S2 24 0 md e (List.range (yn Y 23) ++ [yn Y 23])) k i f = sI S1 k i f := fun k i f z1 z2 z3 z4 => (sI_uL (by omega)).trans (congrFun (eq1 k i z1 z2 z3).1 f)
  have hI' : ∀ f', sI (uL S2 24 0 md e (List.range (yn Y 23) ++ [yn Y 23])) 23 (yn Y 23) f' = (match f' with | 0 => nI l | 1 => nI l' | 2 => f | 3 => hh | 4 => 5 | _ => 0) := fun f' => (sI_uL (by omega)).trans (congrFun a6 f')
  have hL : ∀ k i, ¬ (k = 25 ∧ i = yn Y 23) → ¬ (k = 26 ∧ i = yn Y 23) → ¬ (k = 23 ∧ i = yn Y 23) → ¬ (k = 24 ∧ i = 0) → sL (uL S2 24 0 md e (List.range (yn Y 23) ++ [yn Y 23])) k i = sL S1 k i := fun k i z1 z2 z3 z4 => (sL_uL z4).trans (eq1 k i z1 z2 z3).2.2.2.2.1
  have hL1 : sL (uL S2 24 0 md e (List.range (yn Y 23) ++ [yn Y 23])) 24 0 = List.range (yn Y 23 + 1) := sL_uL_s.trans List.range_succ.symm
  have hL25 : sL (uL S2 24 0 md e (List.range (yn Y 23) ++ [yn Y 23])) 25 (yn Y 23) = [] := (sL_uL (by omega)).trans l25'
  have hC : ∀ k i, ¬ (k = 25 ∧ i = yn Y 23) → ¬ (k = 26 ∧ i = yn Y 23) → ¬ (k = 23 ∧ i = yn Y 23) → sC (uL S2 24 0 md e (List.range (yn Y 23) ++ [yn Y 23])) k i = sC S1 k i := fun k i z1 z2 z3 => (eq1 k i z1 z2 z3).2.2.2.2.2.2.1
  have hC26 : sC (uL S2 24 0 md e (List.range (yn Y 23) ++ [yn Y 23])) 26 (yn Y 23) = 97 := c26'
  have hP : ∀ k i x, k = 21 ∨ k = 33 → sP (uL S2 24 0 md e (List.range (yn Y 23) ++ [yn Y 23])) k i x = sP S1 k i x := fun k i x hk => congrFun (eq1 k i (by omega) (by omega) (by omega)).2.2.2.2.2.2.2.2 x
  have m26 : ∀ v, sE S2 26 (yn Y 23) v = 0 := fun v => (congrFun (a5 26 (yn Y 23) (by omega)).2.2.2.2.2.2.2.1 v).trans (z26 v)
  have mE : ∀ k i, k ≠ 24 → i < yn Y k → mEq (uL S2 24 0 md e (List.range (yn Y 23) ++ [yn Y 23])) S1 k i := fun k i hk hi => (mEq.uL (by omega)).tr (eq1 k i (fun w => by rw [w.1, hn25] at hi; omega) (fun w => by rw [w.1, hn26] at hi; omega) (fun w => by rw [w.1] at hi; omega))
  have mE26 : ∀ v, sE (uL S2 24 0 md e (List.range (yn Y 23) ++ [yn Y 23])) 26 (yn Y 23) v = 0 := m26
  have FL : mFm Y S1 Y1 (uL S2 24 0 md e (List.range (yn Y 23) ++ [yn Y 23])) := FF.tr (mFm.uL (by omega))
  generalize uL S2 24 0 md e (List.range (yn Y 23) ++ [yn Y 23]) = S3 at H8 hI hI' hL hL1 hL25 hC hC26 hP FL mE mE26
  have P2 : mVI g Y1 S3 M7 := by
    obtain ⟨⟨_, V, VV, VQ, VT⟩, F, R⟩ := P1
    refine ⟨H8, ?_, ?_, ?_, ?_⟩
    · obtain ⟨w1, w2, ⟨p0, p1, p2, p3⟩, ⟨v1, v2, v3⟩, ⟨u1, u2, u3, u4⟩⟩ := V
      refine ⟨by rw [y20, y21, y22, a2, y24, y25, y26, y27, y30, y33]; omega, by rw [a2, y28, y29]; omega, ?_, ⟨fun v hv => (hI 30 v 0 (by omega) (by omega) (by omega) (by omega)).trans (v1 v hv), (hC 33 0 (by omega) (by omega) (by omega)).trans v2, fun v hv => ?_⟩, ⟨(hC 21 0 (by omega) (by omega) (by omega)).trans u1, fun i hi => ?_, fun t ht => ?_, (hC 27 0 (by omega) (by omega) (by omega)).trans u4⟩⟩
      · rw [hL1, hL 24 1 (by omega) (by omega) (by omega) (by omega), hL 24 2 (by omega) (by omega) (by omega) (by omega), hL 24 3 (by omega) (by omega) (by omega) (by omega), a2, y28, y29]
        exact ⟨rfl, p1, p2, p3⟩
      · rw [hP 33 0 _ (by omega), v3 v hv, ad1 30 v (by omega)]
      · rw [hP 21 0 i (by omega), u2 i hi, ad1 22 i (by omega)]
      · by_cases z : t = yn Y 23
        · rw [z, hC26]
        · rw [hC 26 t (by omega) (by omega) (by omega)]
          exact u3 t (by omega)
    · refine ⟨fun k' i f' hi => ?_, fun p hp hp3 => ?_⟩
      · by_cases z : k' = 23 ∧ i = yn Y 23
        · obtain ⟨rfl, rfl⟩ := z
          rw [hI']
          rcases f' with _ | _ | f'
          · exact ⟨l, hl, rfl⟩
          · exact ⟨l', hl', rfl⟩
          · exact trivial
        · by_cases z4 : k' = 24 ∨ k' = 25 ∨ k' = 26
          · rcases z4 with rfl | rfl | rfl <;> exact trivial
          · rw [hI k' i f' (by omega) (by omega) z (by omega)]
            refine vOK_m (by omega) (by omega) (VV.1 k' i f' ?_)
            by_cases zk : k' = 23
            · subst zk
              have : i ≠ yn Y 23 := fun e => z ⟨rfl, e⟩
              omega
            · rw [n0 k' zk (by omega) (by omega)] at hi
              exact hi
      · rw [hI 29 p 3 (by omega) (by omega) (by omega) (by omega)] at hp3
        rw [hI 29 p 5 (by omega) (by omega) (by omega) (by omega), y28]
        exact VV.2 p (by omega) hp3
    · refine ⟨fun t ht => ?_, fun s hs hs3 => ?_⟩
      · by_cases z : t = yn Y 23
        · rw [z, hL25]
          exact ⟨List.nodup_nil, fun s hs => by cases hs⟩
        · have ht' : t < yn Y 23 := by omega
          rw [hL 25 t (by omega) (by omega) (by omega) (by omega)]
          refine ⟨(VQ.1 t ht').1, fun s hs => ?_⟩
          obtain ⟨q1, q2, q3⟩ := (VQ.1 t ht').2 s hs
          rw [hI 28 s 3 (by omega) (by omega) (by omega) (by omega), hI 28 s 4 (by omega) (by omega) (by omega) (by omega)]
          exact ⟨by omega, q2, q3⟩
      · rw [hI 28 s 3 (by omega) (by omega) (by omega) (by omega)] at hs3
        obtain ⟨t, q1, q2, q3⟩ := VQ.2 s (by omega) hs3
        exact ⟨t, by omega, by rw [hI 28 s 4 (by omega) (by omega) (by omega) (by omega)]; exact q2, by rw [hL 25 t (by omega) (by omega) (by omega) (by omega)]; exact q3⟩
    · obtain ⟨nt, hr, t1, t2, t3, t4⟩ := VT
      exact ⟨nt, hr, t1, t2, (hI 20 0 1 (by omega) (by omega) (by omega) (by omega)).trans t3, (hI 20 0 2 (by omega) (by omega) (by omega) (by omega)).trans t4⟩
  have R1 : RV (nGate N (nI l) (nI l') f hh) Y1 S3 := by
    refine P1.2.2.nw (g := g) V mE (fun k hk => n0 k (by omega) (by omega) (by omega)) ⟨?_, ?_, ?_⟩ (hL 24 3 (by omega) (by omega) (by omega) (by omega)) rfl (fun k i f hi _ => nv_N (fun w => ?_)) (fun t ht => nq_Q (by rw [c23]; omega)) (fun t v ht => if_neg (by rw [c23]; omega)) (fun k i f' z hi hk hf => ?_) (fun t q1 q2 => ?_)
    · exact a2.trans (by rw [← c23]; exact (nn_N_s (N := N) (k := 23) (fs := gFs (nI l) (nI l') f hh)).symm)
    · exact (y28.trans P1.2.2.1.2.1).trans (nn_N (N := N) (k := 23) (k' := 28) (fs := gFs (nI l) (nI l') f hh) (by omega)).symm
    · exact (y29.trans P1.2.2.1.2.2).trans (nn_N (N := N) (k := 23) (k' := 29) (fs := gFs (nI l) (nI l') f hh) (by omega)).symm
    · rw [w.1, w.2, c23] at hi
      omega
    · have ek : k = 23 := by
        by_cases zk : k = 23
        · exact zk
        · rw [n0 k zk (by omega) (by omega)] at hi
          exact absurd hi z
      subst ek
      have ei : i = yn Y 23 := by omega
      subst ei
      have hd := rK_d hf
      rw [hI', show nv (nGate N (nI l) (nI l') f hh) 23 (yn Y 23) f' = gFs (nI l) (nI l') f hh f' from by rw [← c23]; exact nv_N_s (N := N) (k := 23) (fs := gFs (nI l) (nI l') f hh)]
      rcases f' with _ | _ | _ | _ | _ | _ | f' <;> rfl
    · have et : t = yn Y 23 := by omega
      subst et
      refine ⟨hL25.trans (by rw [← c23]; exact nq_Q_s.symm), fun v hv => ?_⟩
      have e1 : nr (nGate N (nI l) (nI l') f hh) (yn Y 23) v = false := by rw [← c23]; exact if_pos rfl
      rw [e1, mE26]
      rfl
  refine s_gR6 H8 e20 rfl rfl rfl (s_rcL H8 rfl hn24 (v_szG H8 P2.2.1 ?_))
  have ev : nI (yn Y1 23) - 1 = nI (yn Y 23) := by rw [a2, ← nI_1]; exact Int32.add_sub_cancel _ _
  rw [ev]
  exact h 0 _ _ Y1 _ M7 (by rw [if_neg (fun w => w ⟨va, vb⟩), if_neg (fun w => w.elim nab (fun w => w hr)), if_neg (fun w => w hn)]) ⟨P2, P1.2.1.tr FL, R1⟩ ((hI 20 0 0 (by omega) (by omega) (by omega) (by omega)).trans e1)
end SIM14
