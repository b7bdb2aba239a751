/-! THE SIMULATION, 15: who joins a queue, of both -/
/-- how many babies stand at the first places of a row -/
def nBn (N : mN) (xs : List Nat) : Nat → Nat
  | 0 => 0
  | j + 1 => nBn N xs j + (match xs[j]? with
    | some u => if nv N 28 u 1 = 0 then 0 else 1
    | none => 0)
theorem nBn_le (N : mN) (xs : List Nat) : ∀ j, nBn N xs j ≤ j := by
  intro j
  induction j with
  | zero => exact Nat.le_refl _
  | succ j ih =>
    show nBn N xs j + _ ≤ j + 1
    cases xs[j]? with
    | none => exact Nat.le_succ_of_le ih
    | some u =>
      by_cases z : nv N 28 u 1 = 0
      · rw [show (match some u with | some u => if nv N 28 u 1 = 0 then 0 else 1 | none => 0) = 0 from if_pos z]; omega
      · rw [show (match some u with | some u => if nv N 28 u 1 = 0 then 0 else 1 | none => 0) = 1 from if_neg z]; omega
theorem nBn_s {N : mN} {xs : List Nat} {j u : Nat} (h : xs[j]? = some u) : nBn N xs (j + 1) = nBn N xs j + if nv N 28 u 1 = 0 then 0 else 1 := by
  show nBn N xs j + _ = _
  rw [h]
theorem nBn_p {N : mN} {xs : List Nat} {p : Nat} (h1 : ∀ i u, i < p → xs[i]? = some u → ¬ nv N 28 u 1 = 0) (h0 : ∀ i u, p ≤ i → xs[i]? = some u → nv N 28 u 1 = 0) : ∀ j, j ≤ xs.length → nBn N xs j = if j ≤ p then j else p := by
  intro j
  induction j with
  | zero => intro _; rw [if_pos (Nat.zero_le _)]; rfl
  | succ j ih =>
    intro hj
    have hx : xs[j]? = some (xs[j]) := List.getElem?_eq_getElem (by omega)
    rw [nBn_s hx, ih (by omega)]
    by_cases z : j < p
    · rw [if_pos (show j ≤ p by omega), if_neg (h1 j _ z hx), if_pos (show j + 1 ≤ p by omega)]
    · rw [if_pos (h0 j _ (by omega) hx)]
      by_cases w : j ≤ p
      · rw [if_pos w, if_neg (show ¬ j + 1 ≤ p by omega)]; omega
      · rw [if_neg w, if_neg (show ¬ j + 1 ≤ p by omega)]; omega
/-- all ahead of a baby are babies -/
def nAh (N : mN) (t : Nat) : Prop := ∀ (i j u w : Nat), i ≤ j → (nq N t)[i]? = some u → (nq N t)[j]? = some w → ¬ nv N 28 w 1 = 0 → ¬ nv N 28 u 1 = 0
def nPl (N : mN) (s t : Nat) : Nat := if nv N 28 s 1 = 0 then (nq N t).length else nBn N (nq N t) (nq N t).length
theorem nPl_le {N : mN} {s t : Nat} : nPl N s t ≤ (nq N t).length := by
  unfold nPl
  split
  · exact Nat.le_refl _
  · exact nBn_le _ _ _
def nJoin (N : mN) (s t : Nat) (d : Int32) : mN := nU (nU (nU (nQ N t ((nq N t).take (nPl N s t) ++ s :: (nq N t).drop (nPl N s t))) 28 s 3 1) 28 s 4 (nI t)) 28 s 5 d
def fJoin (N : mN) (a b d : Int32) : mT :=
  if ¬ ((¬ a < 0 ∧ a < nI (nn N 28)) ∧ (¬ b < 0 ∧ b < nI (nn N 23))) then (1, 0, N)
  else if d < 0 ∨ ¬ (d &&& (nHd N (tN a) (nn N 29) ^^^ (-1))) = 0 then (2, 0, N)
  else if ¬ (nv N 28 (tN a) 3 = 0 ∧ (nv N 23 (tN b) 0 = nv N 28 (tN a) 0 ∨ nv N 23 (tN b) 1 = nv N 28 (tN a) 0)) then (3, 0, N)
  else (0, nI (nPl N (tN a) (tN b)), nJoin N (tN a) (tN b) d)
section SIM15
variable {g : Nat → Nat} {Y : mY} {S : mS} {M : mM} {N : mN} {x : Nat}
theorem C_babies_l (R : RC x N Y S) (H : mR g Y S M) (W : mWs Y S) {t : Nat} (ht : t < yn Y 3) {κ : Int32 → mM → Prop} (h : κ (nI (nBn N (nq N t) (nq N t).length)) M) : ∀ (d j : Nat), j + d = (sL S 13 t).length → wX0_babiesInLine_4 κ (d + 1) (some (yA Y 3 t)) (nI (nBn N (nq N t) j)) (nI j) M := by
  have eq : sL S 13 t = nq N t := (R.2.2.1 t ht).2.2
  intro d
  induction d with
  | zero =>
    intro j hj
    rw [wX0_babiesInLine_4]
    exact c_hdL H W ht (by omega) (fun e => by rw [e, eq]; exact h) (fun s hx hs => absurd (List.getElem?_eq_some_iff.mp hx).1 (by omega))
  | succ d ih =>
    intro j hj
    have ih' : ∀ (a : Int32), a = nI (nBn N (nq N t) (j + 1)) → wX0_babiesInLine_4 κ (d + 1) (some (yA Y 3 t)) a (nI j + 1) M := fun a e => by rw [nI_1, e]; exact ih (j + 1) (by omega)
    rw [wX0_babiesInLine_4]
    refine c_hdL H W ht (by omega) (fun z => absurd z (by omega)) (fun s hx hs => ?_)
    rw [eq] at hx
    refine s_cast H hs rfl rfl (s_gI H hs rfl rfl rfl ?_)
    rw [R.2.1 4 s 1 28 1 rfl hs (by omega)]
    refine br_c (fun z => ih' _ ?_) (fun z => ih' _ ?_)
    · rw [nBn_s hx, if_pos z]; rfl
    · rw [nBn_s hx, if_neg z, nI_1]
theorem C_babies (R : RC x N Y S) (H : mR g Y S M) (W : mWs Y S) {t : Nat} (ht : t < yn Y 3) {κ : Int32 → mM → Prop} (h : κ (nI (nBn N (nq N t) (nq N t).length)) M) : wX0_babiesInLine κ (some (yA Y 3 t)) M := ⟨(sL S 13 t).length + 1, C_babies_l R H W ht h (sL S 13 t).length 0 (by omega)⟩
/-- whether a gate is at a sleeper's land -/
theorem RC.atL (R : RC x N Y S) (H : mR g Y S M) (W : mWs Y S) {s t : Nat} (hs : s < yn Y 4) (ht : t < yn Y 3) : (sN S 4 s 2 = sN S 3 t 1 ∨ sN S 4 s 2 = sN S 3 t 2) ↔ (nv N 23 t 0 = nv N 28 s 0 ∨ nv N 23 t 1 = nv N 28 s 0) := by
  have b0 := W.l2' (H.lN (k := 4) (f := 2) (kt := 2) hs rfl)
  have b1 := W.l2' (H.lN (k := 3) (f := 1) (kt := 2) ht rfl)
  have b2 := W.l2' (H.lN (k := 3) (f := 2) (kt := 2) ht rfl)
  rw [(R.2.2.1 t ht).1, (R.2.2.1 t ht).2.1, R.2.2.2.1 s hs, nI_eq (by omega) (by omega), nI_eq (by omega) (by omega)]
  exact ⟨fun w => w.elim (fun w => Or.inl w.symm) (fun w => Or.inr w.symm), fun w => w.elim (fun w => Or.inl w.symm) (fun w => Or.inr w.symm)⟩
theorem C_join (H : mR g Y S M) (W : mWs Y S) (Q : mWq Y S) (R : RC 99 N Y S) {a b d : Int32} {κ : Int32 → mM → Prop} {ξ : String → mM → Prop} (h1 : (fJoin N a b d).1 = 1 → ξ "java/lang/IndexOutOfBoundsException" M) (h2 : (fJoin N a b d).1 = 2 → ξ "java/lang/IllegalArgumentException" M) (h3 : (fJoin N a b d).1 = 3 → ξ "java/lang/IllegalStateException" M)
    (h : ∀ v N' Y' S' M', fJoin N a b d = (0, v, N') → cX g N' Y S Y' S' M' → κ v M') : wX8_join g κ ξ (some (yA Y 0 0)) a b d M := by
  have hbd := W.2.1
  unfold fJoin at h1 h2 h3 h
  rw [← R.1.2.1, ← R.1.1] at h1 h2 h3 h
  refine s_rc H W.x0 rfl rfl (c_sleeperN H W (fun s hs es => s_rc H W.x0 rfl rfl (c_gateN H W (fun t ht et => ?_) (fun z => h1 (by rw [if_pos (fun w => z w.2)])))) (fun z => h1 (by rw [if_pos (fun w => z w.1)])))
  have hv : (¬ a < 0 ∧ a < nI (yn Y 4)) ∧ (¬ b < 0 ∧ b < nI (yn Y 3)) := ⟨by rw [es]; exact m_in hs (by omega), by rw [et]; exact m_in ht (by omega)⟩
  have t1 : tN a = s := by rw [es]; exact tN_nI (by omega)
  have t2 : tN b = t := by rw [et]; exact tN_nI (by omega)
  rw [if_neg (fun w => w hv), t1] at h2 h3 h
  rw [t2] at h3 h
  have hn2 : (d < 0 ∨ ¬ (d &&& (nHd N s (nn N 29) ^^^ (-1))) = 0) → wX8_join_31 g κ ξ M := fun z => h2 (by rw [if_pos z])
  refine br_c (fun z => hn2 (Or.inl z)) (fun z0 => s_rc H W.x0 rfl rfl (C_head R H W hs (br_c (fun z1 => ?_) (fun z1 => hn2 (Or.inr z1)))))
  rw [if_neg (fun w => w.elim z0 (fun w => w z1))] at h3 h
  have hn3 : ¬ (nv N 28 s 3 = 0 ∧ (nv N 23 t 0 = nv N 28 s 0 ∨ nv N 23 t 1 = nv N 28 s 0)) → wX8_join_62 g κ ξ M := fun z => h3 (by rw [if_pos z])
  have i3 : sI S 4 s 4 = nv N 28 s 3 := R.2.1 4 s 4 28 3 rfl hs (by omega)
  refine s_gI H hs rfl rfl rfl (br_c (fun hst => ?_) (fun w => hn3 (fun q => w (i3.trans q.1))))
  have hsl := H.lN (k := 4) (f := 2) (kt := 2) hs rfl
  refine s_gR2 H hs rfl rfl rfl (s_rc H ht rfl rfl (c_isAt H ht hsl (fun zl => br_f (by decide) ?_) (fun zl => br_t rfl (hn3 (fun q => zl ((R.atL H W hs ht).mpr q.2))))))
  rw [if_neg (fun w => w ⟨i3.symm.trans hst, (R.atL H W hs ht).mp zl⟩)] at h
  have eq : sL S 13 t = nq N t := (R.2.2.1 t ht).2.2
  have hnone : sX S 4 s 5 = none := by
    cases hxx : sX S 4 s 5 with
    | none => rfl
    | some t' =>
      have := (Q.2 s t' hs hxx).1
      rw [hst] at this
      exact absurd this (by decide)
  have hnl : ∀ t', t' < yn Y 3 → s ∉ sL S 13 t' := fun t' ht' hm => by
    have := (Q.1 t' ht').2 s hm
    rw [hnone] at this
    cases this
  have hlen : (sL S 13 t).length < 12 := by
    have hsub : (s :: sL S 13 t).length ≤ (List.range (yn Y 4)).length := by
      rw [List.length_range]
      refine nd_len (yn Y 4) _ (List.nodup_cons.mpr ⟨hnl t ht, (Q.1 t ht).1⟩) (fun z hz => ?_)
      rcases List.mem_cons.mp hz with rfl | hz
      · exact hs
      · exact H.2.2.2.2.1 13 t rfl (W.l13 ht) z hz
    rw [List.length_cons, List.length_range] at hsub
    omega
  have h96 : ∀ p, p = nPl N s t → wX8_join_96 g κ ξ d (some (yA Y 4 s)) (some (yA Y 3 t)) (nI p) M := by
    intro p ep
    have hp : p ≤ (sL S 13 t).length := by rw [ep, eq]; exact nPl_le
    refine s_gR7 H ht rfl rfl rfl (s_rcL H rfl (W.l13 ht) (s_addAt (k := 13) (i := t) (x := s) (cap := 12) H rfl (W.l13 ht) hs hp hlen (by decide) (fun M1 md e H1 => ?_)))
    refine s_rc H1 hs rfl rfl (s_pI H1 hs rfl rfl rfl (fun M2 H2 => s_pX1 H2 hs rfl rfl rfl ht (fun M3 H3 => s_pI H3 hs rfl rfl rfl (fun M4 H4 => ?_))))
    have R1 := (R.line (t := t) (md := md) (e := e) (xs := (sL S 13 t).take p ++ s :: (sL S 13 t).drop p)).stand (s := s) (t := t) (d := d) (show yn Y 4 ≤ 99 by omega)
    have eN : nU (nU (nU (nQ N t ((sL S 13 t).take p ++ s :: (sL S 13 t).drop p)) 28 s 3 1) 28 s 4 (nI t)) 28 s 5 d = nJoin N s t d := by rw [eq, ep]; rfl
    rw [eN] at R1
    refine h _ _ Y _ M4 (by rw [ep]) ⟨H4, (((W.uL rfl).uI (Or.inl (by omega))).uX).uI (Or.inl (by omega)), ?_, (((mFc.uL (by omega)).tr (mFc.uI (by omega))).tr (mFc.uX (by omega))).tr (mFc.uI (by omega)), R1⟩
    · have eX : ∀ s', s' ≠ s → sX (uI (uX (uI (uL S 13 t md e ((sL S 13 t).take p ++ s :: (sL S 13 t).drop p)) 4 s 4 1) 4 s 5 (some t)) 4 s 6 d) 4 s' 5 = sX S 4 s' 5 := fun s' hs' => sX_uX (by omega)
      have eX0 : sX (uI (uX (uI (uL S 13 t md e ((sL S 13 t).take p ++ s :: (sL S 13 t).drop p)) 4 s 4 1) 4 s 5 (some t)) 4 s 6 d) 4 s 5 = some t := sX_uX_s
      have eI : ∀ s', s' ≠ s → sI (uI (uX (uI (uL S 13 t md e ((sL S 13 t).take p ++ s :: (sL S 13 t).drop p)) 4 s 4 1) 4 s 5 (some t)) 4 s 6 d) 4 s' 4 = sI S 4 s' 4 := fun s' hs' => ((sI_uI (by omega)).trans (sI_uI (by omega))).trans (sI_uL (by omega))
      have eI0 : sI (uI (uX (uI (uL S 13 t md e ((sL S 13 t).take p ++ s :: (sL S 13 t).drop p)) 4 s 4 1) 4 s 5 (some t)) 4 s 6 d) 4 s 4 = 1 := (sI_uI (by omega)).trans sI_uI_s
      have eL : ∀ t', t' ≠ t → sL (uI (uX (uI (uL S 13 t md e ((sL S 13 t).take p ++ s :: (sL S 13 t).drop p)) 4 s 4 1) 4 s 5 (some t)) 4 s 6 d) 13 t' = sL S 13 t' := fun t' ht' => sL_uL (md := md) (e := e) (by omega)
      have eL0 : sL (uI (uX (uI (uL S 13 t md e ((sL S 13 t).take p ++ s :: (sL S 13 t).drop p)) 4 s 4 1) 4 s 5 (some t)) 4 s 6 d) 13 t = (sL S 13 t).take p ++ s :: (sL S 13 t).drop p := sL_uL_s (md := md) (e := e)
      have hperm : ((sL S 13 t).take p ++ s :: (sL S 13 t).drop p).Perm (s :: sL S 13 t) := List.perm_middle.trans (by rw [List.take_append_drop])
      refine ⟨fun t' ht' => ?_, fun s' t' hs' hxx => ?_⟩
      · by_cases z : t' = t
        · subst z
          rw [eL0]
          refine ⟨hperm.nodup_iff.mpr (List.nodup_cons.mpr ⟨hnl t' ht', (Q.1 t' ht').1⟩), fun s' hs' => ?_⟩
          rcases List.mem_cons.mp (hperm.mem_iff.mp hs') with rfl | hs'
          · exact eX0
          · rw [eX s' (fun w => hnl t' ht' (by rw [← w]; exact hs'))]
            exact (Q.1 t' ht').2 s' hs'
        · rw [eL t' z]
          refine ⟨(Q.1 t' ht').1, fun s' hs' => ?_⟩
          rw [eX s' (fun w => hnl t' ht' (by rw [← w]; exact hs'))]
          exact (Q.1 t' ht').2 s' hs'
      · by_cases z : s' = s
        · subst z
          rw [eX0] at hxx
          cases hxx
          rw [eI0, eL0]
          exact ⟨rfl, hperm.mem_iff.mpr List.mem_cons_self⟩
        · rw [eX s' z] at hxx
          obtain ⟨q1, q2⟩ := Q.2 s' t' hs' hxx
          rw [eI s' z]
          refine ⟨q1, ?_⟩
          by_cases w : t' = t
          · subst w
            rw [eL0]
            exact hperm.mem_iff.mpr (List.mem_cons_of_mem _ q2)
          · rw [eL t' w]
            exact q2
  refine s_gI H hs rfl rfl rfl ?_
  rw [R.2.1 4 s 1 28 1 rfl hs (by omega)]
  refine br_c (fun z => ?_) (fun z => ?_)
  · exact s_gR7 H ht rfl rfl rfl (s_rcL H rfl (W.l13 ht) (s_size H rfl (W.l13 ht) (h96 _ (by rw [eq]; exact (if_pos z).symm))))
  · exact s_rc H ht rfl rfl (C_babies R H W ht (h96 _ (if_neg z).symm))
theorem D_has (R : RV N Y S) (H : mR g Y S M) {t : Nat} (ht : t < yn Y 23) {l : Int32} {κ : Int32 → mM → Prop} (h1 : (nv N 23 t 0 = l ∨ nv N 23 t 1 = l) → κ 1 M) (h0 : ¬ (nv N 23 t 0 = l ∨ nv N 23 t 1 = l) → κ 0 M) : wX10_has κ (some (yA Y 23 t)) l M := by
  refine s_gI H ht rfl rfl rfl ?_
  rw [R.2.1 23 t 0 rfl ht]
  refine br_c (fun z => h1 (Or.inl z)) (fun z => s_gI H ht rfl rfl rfl ?_)
  rw [R.2.1 23 t 1 rfl ht]
  exact br_c (fun w => h1 (Or.inr w)) (fun w => h0 (fun q => q.elim z w))
theorem D_join {Y0 : mY} {S0 : mS} (P : vN g N Y0 S0 Y S M) (hah : ∀ t, t < nn N 23 → nAh N t) {a b d : Int32} {κ : Int32 → mM → Prop} (h : ∀ k v N' Y' S' M', fJoin N a b d = (k, v, N') → vN g N' Y0 S0 Y' S' M' → sI S' 20 0 0 = k → κ v M') : wX14_join g κ (some (yA Y 20 0)) a b d M := by
  unfold fJoin at h
  rw [← P.2.2.1.2.1, ← P.2.2.1.1] at h
  refine n_th P (fun S1 M1 P1 e1 => ?_)
  clear P
  have P9 := P1
  have f1 : ¬ ((¬ a < 0 ∧ a < nI (yn Y 28)) ∧ (¬ b < 0 ∧ b < nI (yn Y 23))) → wX14_join_21 g κ (some (yA Y 20 0)) M1 := fun z => n_rf P9 (fun S2 M2 P2 e2 => h 1 0 N Y S2 M2 (by rw [if_pos z]) P2 e2)
  obtain ⟨⟨H, V, VV, VQ, VT⟩, F, RN⟩ := P1
  have RR := RN.2.1
  have hbd := V.2.1
  refine s_rc H V.x0 rfl rfl (v_isSleeper H V (fun s hs es => br_f (by decide) (s_rc H V.x0 rfl rfl (v_isGate H V (fun t ht et => br_f (by decide) ?_) (fun z => br_t rfl (f1 (fun w => z w.2)))))) (fun z => br_t rfl (f1 (fun w => z w.1))))
  have hv : (¬ a < 0 ∧ a < nI (yn Y 28)) ∧ (¬ b < 0 ∧ b < nI (yn Y 23)) := ⟨by rw [es]; exact m_in hs (by omega), by rw [et]; exact m_in ht (by omega)⟩
  have t1 : tN a = s := by rw [es]; exact tN_nI (by omega)
  have t2 : tN b = t := by rw [et]; exact tN_nI (by omega)
  rw [if_neg (fun w => w hv), t1, t2] at h
  have f2 : (d < 0 ∨ ¬ (d &&& (nHd N s (nn N 29) ^^^ (-1))) = 0) → wX14_join_43 g κ (some (yA Y 20 0)) M1 := fun z => n_rf P9 (fun S2 M2 P2 e2 => h 2 0 N Y S2 M2 (by rw [if_pos z]) P2 e2)
  subst es
  subst et
  refine br_c (fun z => f2 (Or.inl z)) (fun z0 => s_rc H V.x0 rfl rfl (D_head RN H V (br_c (fun z1 => ?_) (fun z1 => f2 (Or.inr z1)))))
  rw [if_neg (fun w => w.elim z0 (fun w => w z1))] at h
  have f3 : ¬ (nv N 28 s 3 = 0 ∧ (nv N 23 t 0 = nv N 28 s 0 ∨ nv N 23 t 1 = nv N 28 s 0)) → wX14_join_96 g κ (some (yA Y 20 0)) M1 := fun z => n_rf P9 (fun S2 M2 P2 e2 => h 3 0 N Y S2 M2 (by rw [if_pos z]) P2 e2)
  refine v_S H V hs (v_G H V ht (s_gI H hs rfl rfl rfl (br_c (fun h0 => s_gI H hs rfl rfl rfl ?_) (fun w => f3 (fun q => w ((RR 28 s 3 rfl hs).trans q.1))))))
  rw [RR 28 s 0 rfl hs]
  refine s_rc H ht rfl rfl (D_has RN H ht (fun zl => br_f (by decide) ?_) (fun zl => br_t rfl (f3 (fun q => zl q.2))))
  rw [if_neg (fun w => w ⟨(RR 28 s 3 rfl hs).symm.trans h0, zl⟩)] at h
  have eq : sL S1 25 t = nq N t := RN.2.2.1 t ht
  have hnl := VQ.nin h0
  have hlen : (sL S1 25 t).length < 12 := by
    have hsub : (s :: sL S1 25 t).length ≤ (List.range (yn Y 28)).length := by
      rw [List.length_range]
      refine nd_len (yn Y 28) _ (List.nodup_cons.mpr ⟨hnl t ht, (VQ.1 t ht).1⟩) (fun z hz => ?_)
      rcases List.mem_cons.mp hz with rfl | hz
      · exact hs
      · exact ((VQ.1 t ht).2 z hz).1
    rw [List.length_cons, List.length_range] at hsub
    omega
  have h165 : ∀ p, p = nPl N s t → wX14_join_165 g κ (nI s) (nI t) d (some (yA Y 28 s)) (some (yA Y 23 t)) (nI p) M1 := by
    intro p ep
    have hp : p ≤ (sL S1 25 t).length := by rw [ep, eq]; exact nPl_le
    refine s_gR7 H ht rfl rfl rfl (v_valueOf H V (by omega) (s_rcL H rfl (V.l25 ht) (s_addAt (k := 25) (i := t) (x := s) (cap := 12) H rfl (V.l25 ht) (V.l30 (by omega)) hp hlen (by decide) (fun M2 md e H2 => ?_))))
    refine s_pI H2 hs rfl rfl rfl (fun M3 H3 => s_pI H3 hs rfl rfl rfl (fun M4 H4 => s_pI H4 hs rfl rfl rfl (fun M5 H5 => ?_)))
    have eN : nU (nU (nU (nQ N t ((sL S1 25 t).take p ++ s :: (sL S1 25 t).drop p)) 28 s 3 1) 28 s 4 (nI t)) 28 s 5 d = nJoin N s t d := by rw [eq, ep]; rfl
    have R1 : RV (nJoin N s t d) Y (uI (uI (uI (uL S1 25 t md e ((sL S1 25 t).take p ++ s :: (sL S1 25 t).drop p)) 28 s 3 1) 28 s 4 (nI t)) 28 s 5 d) := by
      rw [← eN]
      exact RN.line.pI.pI.pI
    refine h 0 _ _ Y _ M5 (by rw [ep]) ⟨⟨H5, vS_uI (vS_uI (vS_uI (vS_uL V rfl) (by omega)) (by omega)) (by omega), vV_uI (k := 28) (f := 5) (vV_uI (k := 28) (f := 4) (vV_uI (k := 28) (f := 3) (vV_uL VV (Or.inr rfl)) trivial (by omega)) (Or.inr ⟨t, ht, rfl⟩) (by omega)) trivial (by omega), VQ.jn ht hs h0, vT_uI (vT_uI (vT_uI (vT_uL VT (by omega)) (by omega)) (by omega)) (by omega)⟩, (((F.tr (mFm.uL (by omega))).tr (mFm.uI (by omega))).tr (mFm.uI (by omega))).tr (mFm.uI (by omega)), R1⟩ (((sI_uI (by omega)).trans ((sI_uI (by omega)).trans ((sI_uI (by omega)).trans (sI_uL (by omega))))).trans e1)
  have b1 : sI S1 28 s 1 = nv N 28 s 1 := RR 28 s 1 rfl hs
  have h112 : ∀ p, ¬ nv N 28 s 1 = 0 → p ≤ (sL S1 25 t).length → (∀ i u, p ≤ i → (nq N t)[i]? = some u → nv N 28 u 1 = 0) → wX14_join_112 g κ (p + 1) (some (yA Y 20 0)) (nI s) (nI t) d (some (yA Y 28 s)) (some (yA Y 23 t)) (nI p) M1 := by
    intro p hb
    have done : ∀ p, p ≤ (sL S1 25 t).length → (∀ i u, i < p → (nq N t)[i]? = some u → ¬ nv N 28 u 1 = 0) → (∀ i u, p ≤ i → (nq N t)[i]? = some u → nv N 28 u 1 = 0) → p = nPl N s t := fun p hp k1 k0 => by
      rw [eq] at hp
      have e1 := nBn_p k1 k0 (nq N t).length (Nat.le_refl _)
      unfold nPl
      rw [if_neg hb, e1]
      by_cases w : (nq N t).length ≤ p
      · rw [if_pos w]; omega
      · rw [if_neg w]
    induction p with
    | zero =>
      intro hp hz
      rw [wX14_join_112]
      refine s_gI H hs rfl rfl rfl (br_c (fun q => absurd (b1.symm.trans q) hb) (fun _ => br_t (by decide) (h165 0 (done 0 hp (fun i u hi => absurd hi (by omega)) hz))))
    | succ p ih =>
      intro hp hz
      have hlt : p < (sL S1 25 t).length := by omega
      have hx : (sL S1 25 t)[p]? = some ((sL S1 25 t)[p]) := List.getElem?_eq_getElem hlt
      generalize (sL S1 25 t)[p] = u at hx
      have hu : u < yn Y 28 := ((VQ.1 t ht).2 u (List.mem_of_getElem? hx)).1
      have hx' : (nq N t)[p]? = some u := by rw [← eq]; exact hx
      rw [wX14_join_112]
      refine s_gI H hs rfl rfl rfl (br_c (fun q => absurd (b1.symm.trans q) hb) (fun _ => br_f (nI_nle (by omega) (by omega)) ?_))
      rw [nI_pred, nI_m1, nI_pred]
      refine s_gR6 H V.x0 rfl rfl rfl (s_gR7 H ht rfl rfl rfl (s_rcL H rfl (V.l25 ht) (s_get H rfl (V.l25 ht) hx (v_int H V (by omega) ?_))))
      refine s_rcL H rfl (V.l24 (by omega)) (v_gtS H V hu (s_cast H hu rfl rfl (s_gI H hu rfl rfl rfl ?_)))
      rw [RR 28 u 1 rfl hu]
      refine br_c (fun z => ih (by omega) (fun i w hi hw => ?_)) (fun z => h165 (p + 1) (done (p + 1) hp (fun i w hi hw => hah t (by rw [← RN.1.1]; exact ht) i p w u (by omega) hw hx' z) hz))
      by_cases q : i = p
      · rw [q, hx'] at hw
        rw [← Option.some.inj hw]
        exact z
      · exact hz i w (by omega) hw
  refine s_gR7 H ht rfl rfl rfl (s_rcL H rfl (V.l25 ht) (s_size H rfl (V.l25 ht) ⟨(sL S1 25 t).length + 1, ?_⟩))
  by_cases hb : nv N 28 s 1 = 0
  · rw [wX14_join_112]
    exact s_gI H hs rfl rfl rfl (br_t (b1.trans hb) (h165 _ (by rw [eq]; exact (if_pos hb).symm)))
  · exact h112 _ hb (Nat.le_refl _) (fun i u hi hu => absurd (List.getElem?_eq_some_iff.mp hu).1 (by rw [← eq]; omega))
end SIM15
