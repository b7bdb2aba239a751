/-! THE PURE SIDE, 18: the reference's queues, yawns and appeals -/
theorem mVq.out {Y : mY} {S : mS} (Q : mVq Y S) (hb : yn Y 23 ≤ 8) {t s j : Nat} {md : Int32} {e : Nat} {v : Int32} (hv : v ≠ 1) (ht : t < yn Y 23) (hj : (sL S 25 t)[j]? = some s) : mVq Y (uI (uI (uL S 25 t md e ((sL S 25 t).eraseIdx j)) 28 s 3 v) 28 s 4 (-1)) := by
  have hnd := (Q.1 t ht).1
  have hst : sI S 28 s 4 = nI t := ((Q.1 t ht).2 s (List.mem_of_getElem? hj)).2.2
  have hout : s ∉ (sL S 25 t).eraseIdx j := by
    intro hm
    obtain ⟨i, hi, hx⟩ := List.mem_eraseIdx_iff_getElem?.mp hm
    exact hi ((List.getElem?_inj (List.getElem?_eq_some_iff.mp hx).1 hnd).mp (hx.trans hj.symm))
  have eL : ∀ t', t' ≠ t → sL (uI (uI (uL S 25 t md e ((sL S 25 t).eraseIdx j)) 28 s 3 v) 28 s 4 (-1)) 25 t' = sL S 25 t' := fun t' z => sL_uL (md := md) (e := e) (by omega)
  have eL0 : sL (uI (uI (uL S 25 t md e ((sL S 25 t).eraseIdx j)) 28 s 3 v) 28 s 4 (-1)) 25 t = (sL S 25 t).eraseIdx j := sL_uL_s (md := md) (e := e)
  have e3 : ∀ s', s' ≠ s → sI (uI (uI (uL S 25 t md e ((sL S 25 t).eraseIdx j)) 28 s 3 v) 28 s 4 (-1)) 28 s' 3 = sI S 28 s' 3 := fun s' z => ((sI_uI (by omega)).trans (sI_uI (by omega))).trans (sI_uL (by omega))
  have e30 : sI (uI (uI (uL S 25 t md e ((sL S 25 t).eraseIdx j)) 28 s 3 v) 28 s 4 (-1)) 28 s 3 = v := (sI_uI (by omega)).trans sI_uI_s
  have e4 : ∀ s', s' ≠ s → sI (uI (uI (uL S 25 t md e ((sL S 25 t).eraseIdx j)) 28 s 3 v) 28 s 4 (-1)) 28 s' 4 = sI S 28 s' 4 := fun s' z => ((sI_uI (by omega)).trans (sI_uI (by omega))).trans (sI_uL (by omega))
  refine ⟨fun t' ht' => ?_, fun s' hs' h3 => ?_⟩
  · by_cases z : t' = t
    · subst z
      rw [eL0]
      refine ⟨hnd.sublist (List.eraseIdx_sublist ..), fun s' hs' => ?_⟩
      have hne : s' ≠ s := fun w => hout (by rw [← w]; exact hs')
      rw [e3 s' hne, e4 s' hne]
      exact (Q.1 t' ht').2 s' (List.mem_of_mem_eraseIdx hs')
    · rw [eL t' z]
      refine ⟨(Q.1 t' ht').1, fun s' hs' => ?_⟩
      have q := (Q.1 t' ht').2 s' hs'
      have hne : s' ≠ s := fun w => by
        rw [w, hst] at q
        exact z ((nI_eq (by omega) (by omega)).mp q.2.2).symm
      rw [e3 s' hne, e4 s' hne]
      exact q
  · have hne : s' ≠ s := fun w => by
      rw [w, e30] at h3
      exact hv h3
    rw [e3 s' hne] at h3
    obtain ⟨t', q1, q2, q3⟩ := Q.2 s' hs' h3
    refine ⟨t', q1, by rw [e4 s' hne]; exact q2, ?_⟩
    by_cases z : t' = t
    · subst z
      rw [eL0]
      obtain ⟨i, hi⟩ := List.mem_iff_getElem?.mp q3
      refine List.mem_eraseIdx_iff_getElem?.mpr ⟨i, fun w => ?_, hi⟩
      rw [w, hj] at hi
      exact hne (Option.some.inj hi).symm
    · rw [eL t' z]
      exact q3
theorem mVq.nin {Y : mY} {S : mS} (Q : mVq Y S) {s : Nat} (h0 : sI S 28 s 3 = 0) : ∀ t, t < yn Y 23 → s ∉ sL S 25 t := fun t ht hm => by
  have := ((Q.1 t ht).2 s hm).2.1
  rw [h0] at this
  exact absurd this (by decide)
theorem mVq.jn {Y : mY} {S : mS} (Q : mVq Y S) {t s p : Nat} {md : Int32} {e : Nat} {d : Int32} (ht : t < yn Y 23) (hs : s < yn Y 28) (h0 : sI S 28 s 3 = 0) : mVq Y (uI (uI (uI (uL S 25 t md e ((sL S 25 t).take p ++ s :: (sL S 25 t).drop p)) 28 s 3 1) 28 s 4 (nI t)) 28 s 5 d) := by
  have hnl := Q.nin h0
  have eL : ∀ t', t' ≠ t → sL (uI (uI (uI (uL S 25 t md e ((sL S 25 t).take p ++ s :: (sL S 25 t).drop p)) 28 s 3 1) 28 s 4 (nI t)) 28 s 5 d) 25 t' = sL S 25 t' := fun t' z => sL_uL (md := md) (e := e) (by omega)
  have eL0 : sL (uI (uI (uI (uL S 25 t md e ((sL S 25 t).take p ++ s :: (sL S 25 t).drop p)) 28 s 3 1) 28 s 4 (nI t)) 28 s 5 d) 25 t = (sL S 25 t).take p ++ s :: (sL S 25 t).drop p := sL_uL_s (md := md) (e := e)
  have e3 : ∀ s', s' ≠ s → sI (uI (uI (uI (uL S 25 t md e ((sL S 25 t).take p ++ s :: (sL S 25 t).drop p)) 28 s 3 1) 28 s 4 (nI t)) 28 s 5 d) 28 s' 3 = sI S 28 s' 3 := fun s' z => (((sI_uI (by omega)).trans (sI_uI (by omega))).trans (sI_uI (by omega))).trans (sI_uL (by omega))
  have e30 : sI (uI (uI (uI (uL S 25 t md e ((sL S 25 t).take p ++ s :: (sL S 25 t).drop p)) 28 s 3 1) 28 s 4 (nI t)) 28 s 5 d) 28 s 3 = 1 := ((sI_uI (by omega)).trans (sI_uI (by omega))).trans sI_uI_s
  have e4 : ∀ s', s' ≠ s → sI (uI (uI (uI (uL S 25 t md e ((sL S 25 t).take p ++ s :: (sL S 25 t).drop p)) 28 s 3 1) 28 s 4 (nI t)) 28 s 5 d) 28 s' 4 = sI S 28 s' 4 := fun s' z => (((sI_uI (by omega)).trans (sI_uI (by omega))).trans (sI_uI (by omega))).trans (sI_uL (by omega))
  have e40 : sI (uI (uI (uI (uL S 25 t md e ((sL S 25 t).take p ++ s :: (sL S 25 t).drop p)) 28 s 3 1) 28 s 4 (nI t)) 28 s 5 d) 28 s 4 = nI t := (sI_uI (by omega)).trans sI_uI_s
  have hperm : ((sL S 25 t).take p ++ s :: (sL S 25 t).drop p).Perm (s :: sL S 25 t) := List.perm_middle.trans (by rw [List.take_append_drop])
  refine ⟨fun t' ht' => ?_, fun s' hs' h3 => ?_⟩
  · by_cases z : t' = t
    · subst z
      rw [eL0]
      refine ⟨hperm.nodup_iff.mpr (List.nodup_cons.mpr ⟨hnl t' ht', (Q.1 t' ht').1⟩), fun s' hs' => ?_⟩
      by_cases w : s' = s
      · rw [w]
        exact ⟨hs, e30, e40⟩
      · rcases List.mem_cons.mp (hperm.mem_iff.mp hs') with q | q
        · exact absurd q w
        · rw [e3 s' w, e4 s' w]
          exact (Q.1 t' ht').2 s' q
    · rw [eL t' z]
      refine ⟨(Q.1 t' ht').1, fun s' hs' => ?_⟩
      have hne : s' ≠ s := fun w => hnl t' ht' (by rw [← w]; exact hs')
      rw [e3 s' hne, e4 s' hne]
      exact (Q.1 t' ht').2 s' hs'
  · by_cases w : s' = s
    · subst w
      exact ⟨t, ht, e40, by rw [eL0]; exact hperm.mem_iff.mpr List.mem_cons_self⟩
    · rw [e3 s' w] at h3
      obtain ⟨t', q1, q2, q3⟩ := Q.2 s' hs' h3
      refine ⟨t', q1, by rw [e4 s' w]; exact q2, ?_⟩
      by_cases z : t' = t
      · subst z
        rw [eL0]
        exact hperm.mem_iff.mpr (List.mem_cons_of_mem _ q3)
      · rw [eL t' z]
        exact q3
theorem vT_uL {S : mS} (h : mVt S) {k i : Nat} {md : Int32} {e : Nat} {xs : List Nat} (hk : k ≠ 20) : mVt (uL S k i md e xs) := by
  obtain ⟨a, b, h1, h2, h3, h4⟩ := h
  exact ⟨a, b, h1, h2, (sI_uL (by omega)).trans h3, (sI_uL (by omega)).trans h4⟩
theorem vV_uL {Y : mY} {S : mS} (h : mVv Y S) {k i : Nat} {md : Int32} {e : Nat} {xs : List Nat} (hk : k = 24 ∨ k = 25) : mVv Y (uL S k i md e xs) := h.of (fun k' i' f' hk' => sI_uL (by omega))
section VQUE
variable {g : Nat → Nat} {Y : mY} {S : mS} {M : mM}
theorem v_vO (H : mR g Y S M) (l33 : 0 < yn Y 33) (hC : sC S 33 0 = 256) {v : Nat} (hP : sP S 33 0 (128 + v) = some (yA Y 30 v)) (hv : v < 128) {κ : Option Nat → mM → Prop} (h : κ (some (yA Y 30 v)) M) : wJ6_valueOf_2dffe g κ (nI v) M := by
  refine br_f (fun z => ?_) (br_f (show ¬ (127 : Int32) < nI v from nI_nlt (b := v) (a := 127) (by omega) (by omega)) ?_)
  · exact nI_pos (n := v) (by omega) (Int32.lt_trans z (by decide))
  · rw [← H.2.2.2.2.2.2.2.2.2.1]
    rw [show nI v + 128 = nI (128 + v) from by rw [show (128 : Int32) = nI 128 from rfl, nI_add, Nat.add_comm]]
    refine s_ldR H l33 rfl (by decide) rfl (by rw [hC]; omega) (by rw [hC]; omega) ?_
    rw [hP]
    exact h
theorem v_so56 {Y0 : mY} {S0 : mS} {s : Int32} {v : Int32} {Z : mS → Prop} (hZ : ∀ S p, Z S → Z (uI S 29 p 4 999)) {κ : mM → Prop} (h : ∀ S' M', vP g Y0 S0 Y S' M' → Z S' → κ M') : ∀ (d j : Nat) (S : mS) (M : mM), vP g Y0 S0 Y S M → Z S → j + d = yn Y 29 → wX14_stepOut_56 κ (d + 1) (some (yA Y 20 0)) s v (nI j) M := by
  intro d
  induction d with
  | zero =>
    intro j S M P z0 hj
    rw [wX14_stepOut_56]
    have H := P.1.1
    have V := P.1.2.1
    have hb := V.2.1
    exact s_gR6 H V.x0 rfl rfl rfl (s_rcL H rfl (V.l24 (by omega)) (v_szP H V (br_t (nI_le (by omega) (by omega)) (h S M P z0))))
  | succ d ih =>
    intro j S M P z0 hj
    rw [wX14_stepOut_56]
    have H := P.1.1
    have V := P.1.2.1
    have hb := V.2.1
    have hlt : j < yn Y 29 := by omega
    have i110 : ∀ S M, vP g Y0 S0 Y S M → Z S → wX14_stepOut_110 κ (wX14_stepOut_56 κ (d + 1)) (some (yA Y 20 0)) s v (nI j) M := fun S M P z => by
      show wX14_stepOut_56 κ (d + 1) (some (yA Y 20 0)) s v (nI j + 1) M
      rw [nI_1]
      exact ih (j + 1) S M P z (by omega)
    refine s_gR6 H V.x0 rfl rfl rfl (s_rcL H rfl (V.l24 (by omega)) (v_szP H V (br_f (nI_ge hlt (by omega)) (br_c (fun _ => ?_) (fun _ => h S M P z0)))))
    exact v_Pt H V hlt (s_gI H hlt rfl rfl rfl (br_c (fun _ => v_Pt H V hlt (s_pI H hlt rfl rfl rfl (fun M1 H1 => i110 _ M1 (vP_I P H1 ⟨999, rfl, Or.inr (Or.inr rfl)⟩ (by omega)) (hZ S j z0)))) (fun _ => i110 S M P z0)))
theorem v_stepOut {Y0 : mY} {S0 : mS} (P : vP g Y0 S0 Y S M) {s : Nat} (hs : s < yn Y 28) (h1 : sI S 28 s 3 = 1) {v : Int32} (hv : v ≠ 1) {κ : mM → Prop} (h : ∀ S' M', vP g Y0 S0 Y S' M' → (∀ t, (sL S 25 t).length ≤ (sL S' 25 t).length + 1) → κ M') : wX14_stepOut κ (some (yA Y 20 0)) (nI s) v M := by
  obtain ⟨⟨H, V, VV, VQ, VT⟩, F, R⟩ := P
  have hb := V.2.1
  obtain ⟨t, ht, et, hm⟩ := VQ.2 s hs h1
  refine v_S H V hs (s_gR6 H V.x0 rfl rfl rfl (s_gI H hs rfl rfl rfl ?_))
  rw [et]
  refine s_rcL H rfl (V.l24 (by omega)) (v_gtG H V ht (s_cast H ht rfl rfl (s_gR7 H ht rfl rfl rfl (s_rc H ht rfl rfl (v_place H V ht (by omega) (fun j hj => ?_) (fun hn => absurd hm hn))))))
  refine s_rcL H rfl (V.l25 ht) (s_remove H rfl (V.l25 ht) hj (fun M1 md e H1 => s_pI H1 hs rfl rfl rfl (fun M2 H2 => s_pI H2 hs rfl rfl rfl (fun M3 H3 => ?_))))
  have P3 : vP g Y0 S0 Y (uI (uI (uL S 25 t md e ((sL S 25 t).eraseIdx j)) 28 s 3 v) 28 s 4 (-1)) M3 := ⟨⟨H3, vS_uI (vS_uI (vS_uL V rfl) (by omega)) (by omega), vV_uI (k := 28) (f := 4) (vV_uI (k := 28) (f := 3) (vV_uL VV (Or.inr rfl)) trivial (by omega)) (Or.inl rfl) (by omega), VQ.out (by omega) hv ht hj, vT_uI (vT_uI (vT_uL VT (by omega)) (by omega)) (by omega)⟩, ((F.tr (mFm.uL (by omega))).tr (mFm.uI (by omega))).tr (mFm.uI (by omega)), vQ.c R (fun k' i' f' q => ((sI_uI (by have := qV_d q; omega)).trans ((sI_uI (by have := qV_d q; omega)).trans (sI_uL (by have := qV_d q; omega)))))⟩
  have hlen : ∀ t', (sL S 25 t').length ≤ (sL (uI (uI (uL S 25 t md e ((sL S 25 t).eraseIdx j)) 28 s 3 v) 28 s 4 (-1)) 25 t').length + 1 := by
    intro t'
    by_cases z : t' = t
    · subst z
      have e1 : sL (uI (uI (uL S 25 t' md e ((sL S 25 t').eraseIdx j)) 28 s 3 v) 28 s 4 (-1)) 25 t' = (sL S 25 t').eraseIdx j := sL_uL_s (md := md) (e := e)
      rw [e1, List.length_eraseIdx]
      split <;> omega
    · have e1 : sL (uI (uI (uL S 25 t md e ((sL S 25 t).eraseIdx j)) 28 s 3 v) 28 s 4 (-1)) 25 t' = sL S 25 t' := sL_uL (md := md) (e := e) (by omega)
      rw [e1]
      omega
  exact ⟨yn Y 29 + 1, v_so56 (Z := fun S' => ∀ t, (sL S 25 t).length ≤ (sL S' 25 t).length + 1) (fun S' p z => z) h (yn Y 29) 0 _ M3 P3 hlen (by omega)⟩
theorem v_join {Y0 : mY} {S0 : mS} (P : vP g Y0 S0 Y S M) {a b d : Int32} {κ : Int32 → mM → Prop} (h : ∀ x Y' S' M', vP g Y0 S0 Y' S' M' → κ x M') : wX14_join g κ (some (yA Y 20 0)) a b d M := by
  refine v_th P (fun S1 M1 P1 _ _ => ?_)
  clear P
  have f1 : wX14_join_21 g κ (some (yA Y 20 0)) M1 := v_rf P1 (fun S2 M2 P2 _ _ => h 0 Y S2 M2 P2)
  have f2 : wX14_join_43 g κ (some (yA Y 20 0)) M1 := v_rf P1 (fun S2 M2 P2 _ _ => h 0 Y S2 M2 P2)
  have f3 : wX14_join_96 g κ (some (yA Y 20 0)) M1 := v_rf P1 (fun S2 M2 P2 _ _ => h 0 Y S2 M2 P2)
  obtain ⟨⟨H, V, VV, VQ, VT⟩, F, R⟩ := P1
  have hbd := V.2.1
  refine s_rc H V.x0 rfl rfl (v_isSleeper H V (fun s hs es => br_f (by decide) (s_rc H V.x0 rfl rfl (v_isGate H V (fun t ht et => br_f (by decide) (br_c (fun _ => f2) (fun _ => s_rc H V.x0 rfl rfl (v_head H V VV (fun x => br_c (fun _ => ?_) (fun _ => f2)))))) (fun _ => br_t rfl f1)))) (fun _ => br_t rfl f1))
  subst es
  subst et
  refine v_S H V hs (v_G H V ht (s_gI H hs rfl rfl rfl (br_c (fun h0 => s_gI H hs rfl rfl rfl (s_rc H ht rfl rfl (v_has H ht (br_f (by decide) ?_) (br_t rfl f3)))) (fun _ => f3))))
  have hnl := VQ.nin h0
  have hlen : (sL S1 25 t).length < 12 := by
    have hsub : (s :: sL S1 25 t).length ≤ (List.range (yn Y 28)).length := by
      rw [List.length_range]
      refine nd_len (yn Y 28) _ (List.nodup_cons.mpr ⟨hnl t ht, (VQ.1 t ht).1⟩) (fun z hz => ?_)
      rcases List.mem_cons.mp hz with rfl | hz
      · exact hs
      · exact ((VQ.1 t ht).2 z hz).1
    rw [List.length_cons, List.length_range] at hsub
    omega
  have h165 : ∀ p, p ≤ (sL S1 25 t).length → wX14_join_165 g κ (nI s) (nI t) d (some (yA Y 28 s)) (some (yA Y 23 t)) (nI p) M1 := by
    intro p hp
    refine s_gR7 H ht rfl rfl rfl (v_valueOf H V (by omega) (s_rcL H rfl (V.l25 ht) (s_addAt (k := 25) (i := t) (x := s) (cap := 12) H rfl (V.l25 ht) (V.l30 (by omega)) hp hlen (by decide) (fun M2 md e H2 => ?_))))
    refine s_pI H2 hs rfl rfl rfl (fun M3 H3 => s_pI H3 hs rfl rfl rfl (fun M4 H4 => s_pI H4 hs rfl rfl rfl (fun M5 H5 => ?_)))
    refine h _ Y _ M5 ⟨⟨H5, vS_uI (vS_uI (vS_uI (vS_uL V rfl) (by omega)) (by omega)) (by omega), vV_uI (k := 28) (f := 5) (vV_uI (k := 28) (f := 4) (vV_uI (k := 28) (f := 3) (vV_uL VV (Or.inr rfl)) trivial (by omega)) (Or.inr ⟨t, ht, rfl⟩) (by omega)) trivial (by omega), VQ.jn ht hs h0, vT_uI (vT_uI (vT_uI (vT_uL VT (by omega)) (by omega)) (by omega)) (by omega)⟩, (((F.tr (mFm.uL (by omega))).tr (mFm.uI (by omega))).tr (mFm.uI (by omega))).tr (mFm.uI (by omega)), vQ.c R (fun k' i' f' q => ((sI_uI (by have := qV_d q; omega)).trans ((sI_uI (by have := qV_d q; omega)).trans ((sI_uI (by have := qV_d q; omega)).trans (sI_uL (by have := qV_d q; omega))))))⟩
  have h112 : ∀ p, p ≤ (sL S1 25 t).length → wX14_join_112 g κ (p + 1) (some (yA Y 20 0)) (nI s) (nI t) d (some (yA Y 28 s)) (some (yA Y 23 t)) (nI p) M1 := by
    intro p
    induction p with
    | zero =>
      intro hp
      rw [wX14_join_112]
      exact s_gI H hs rfl rfl rfl (br_c (fun _ => h165 0 hp) (fun _ => br_t (by decide) (h165 0 hp)))
    | succ p ih =>
      intro hp
      have hlt : p < (sL S1 25 t).length := by omega
      have hx : (sL S1 25 t)[p]? = some ((sL S1 25 t)[p]) := List.getElem?_eq_getElem hlt
      generalize (sL S1 25 t)[p] = u at hx
      have hu : u < yn Y 28 := ((VQ.1 t ht).2 u (List.mem_of_getElem? hx)).1
      rw [wX14_join_112]
      refine s_gI H hs rfl rfl rfl (br_c (fun _ => h165 (p + 1) hp) (fun _ => br_c (fun _ => h165 (p + 1) hp) (fun _ => ?_)))
      rw [nI_pred, nI_m1, nI_pred]
      refine s_gR6 H V.x0 rfl rfl rfl (s_gR7 H ht rfl rfl rfl (s_rcL H rfl (V.l25 ht) (s_get H rfl (V.l25 ht) hx (v_int H V (by omega) ?_))))
      exact s_rcL H rfl (V.l24 (by omega)) (v_gtS H V hu (s_cast H hu rfl rfl (s_gI H hu rfl rfl rfl (br_c (fun _ => ih (by omega)) (fun _ => h165 (p + 1) hp)))))
  exact s_gR7 H ht rfl rfl rfl (s_rcL H rfl (V.l25 ht) (s_size H rfl (V.l25 ht) ⟨(sL S1 25 t).length + 1, h112 _ (Nat.le_refl _)⟩))
theorem v_leave {Y0 : mY} {S0 : mS} (P : vP g Y0 S0 Y S M) {a : Int32} {κ : Int32 → mM → Prop} (h : ∀ x Y' S' M', vP g Y0 S0 Y' S' M' → κ x M') : wX14_leave κ (some (yA Y 20 0)) a M := by
  refine v_th P (fun S1 M1 P1 _ _ => ?_)
  have H := P1.1.1
  have V := P1.1.2.1
  have hbd := V.2.1
  refine s_rc H V.x0 rfl rfl (v_isSleeper H V (fun s hs es => br_f (by decide) ?_) (fun _ => br_t rfl (v_rf P1 (fun S2 M2 P2 _ _ => h 0 Y S2 M2 P2))))
  subst es
  refine v_S H V hs (s_gI H hs rfl rfl rfl (br_c (fun h1 => ?_) (fun _ => v_rf P1 (fun S2 M2 P2 _ _ => h 0 Y S2 M2 P2))))
  obtain ⟨t, ht, et, hm⟩ := P1.1.2.2.2.1.2 s hs h1
  refine s_gR6 H V.x0 rfl rfl rfl (s_gI H hs rfl rfl rfl ?_)
  rw [et]
  refine s_rcL H rfl (V.l24 (by omega)) (v_gtG H V ht (s_cast H ht rfl rfl (s_rc H ht rfl rfl (v_place H V ht (by omega) (fun j hj => ?_) (fun hn => absurd hm hn)))))
  exact s_rc H V.x0 rfl rfl (v_stepOut P1 hs h1 (by decide) (fun S2 M2 P2 _ => h _ Y S2 M2 P2))
theorem v_hide {Y0 : mY} {S0 : mS} (P : vP g Y0 S0 Y S M) {s d : Nat} (hs : s < yn Y 28) (hd : d < 128) {κ : mM → Prop} (h : ∀ S' M', vP g Y0 S0 Y S' M' → κ M') : m_rc M (some (yA Y 20 0)) 19 fun b28 => wX14_hide g κ (some b28) (nI s) (nI d) M := by
  have P0 := P
  obtain ⟨⟨H, V, VV, VQ, VT⟩, F, R⟩ := P
  have hbd := V.2.1
  obtain ⟨hh, h40, hlen, hval⟩ := V.2.2.1.2.2.2
  have l3 := V.l24 (j := 3) (by omega)
  refine s_rc H V.x0 rfl rfl (s_gR6 H V.x0 rfl rfl rfl (s_rcL H rfl l3 (v_szH H V (br_c (fun _ => h S M P0) (fun z => ?_)))))
  have hlt : hh < 40 := by
    have : hh ≠ 40 := fun e => z (by rw [hlen, e]; rfl)
    omega
  obtain ⟨nt, hr, t1, t2, t3, t4⟩ := VT
  have n2 := V.2.2.2.1.2.1
  have n3 := V.2.2.2.1.2.2
  refine s_gR6 H V.x0 rfl rfl rfl (v_vO H V.l33 n2 (n3 s (by omega)) (by omega) (s_rcL H rfl l3 (s_add (k := 24) (i := 3) (x := s) (cap := 120) H rfl l3 (V.l30 (by omega)) (by omega) (by decide) (fun M1 m1 e1 H1 => ?_))))
  have c1 : sL (uL S 24 3 m1 e1 (sL S 24 3 ++ [s])) 24 3 = sL S 24 3 ++ [s] := sL_uL_s
  refine s_gR6 H1 V.x0 rfl rfl rfl (v_vO H1 V.l33 n2 (n3 d hd) hd (s_rcL H1 rfl l3 (s_add (k := 24) (i := 3) (x := d) (cap := 120) H1 rfl l3 (V.l30 hd) (by rw [c1, List.length_append, List.length_singleton]; omega) (by decide) (fun M2 m2 e2 H2 => ?_))))
  rw [c1] at H2
  have c2 : sL (uL (uL S 24 3 m1 e1 (sL S 24 3 ++ [s])) 24 3 m2 e2 (sL S 24 3 ++ [s] ++ [d])) 24 3 = sL S 24 3 ++ [s] ++ [d] := sL_uL_s
  refine s_gR6 H2 V.x0 rfl rfl rfl (s_gI H2 V.x0 rfl rfl rfl ?_)
  have c3 : sI (uL (uL S 24 3 m1 e1 (sL S 24 3 ++ [s])) 24 3 m2 e2 (sL S 24 3 ++ [s] ++ [d])) 20 0 1 = nI nt := ((sI_uL (by omega)).trans (sI_uL (by omega))).trans t3
  rw [c3]
  refine v_vO H2 V.l33 n2 (n3 nt (by omega)) (by omega) (s_rcL H2 rfl l3 (s_add (k := 24) (i := 3) (x := nt) (cap := 120) H2 rfl l3 (V.l30 (by omega)) (by rw [c2, List.length_append, List.length_append, List.length_singleton, List.length_singleton]; omega) (by decide) (fun M3 m3 e3 H3 => ?_)))
  rw [c2] at H3
  refine h _ M3 ⟨⟨H3, ?_, vV_uL (vV_uL (vV_uL VV (Or.inl rfl)) (Or.inl rfl)) (Or.inl rfl), ?_, vT_uL (vT_uL (vT_uL ⟨nt, hr, t1, t2, t3, t4⟩ (by omega)) (by omega)) (by omega)⟩, ((F.tr (mFm.uL (by omega))).tr (mFm.uL (by omega))).tr (mFm.uL (by omega)), vQ.c R (fun k' i' f' q => ((sI_uL (by have := qV_d q; omega)).trans ((sI_uL (by have := qV_d q; omega)).trans (sI_uL (by have := qV_d q; omega)))))⟩
  · obtain ⟨w1, w2, ⟨p0, p1, p2, ph⟩, ⟨q1, q2, q3⟩, w5⟩ := V
    have eLi : ∀ i, i ≠ 3 → sL (uL (uL (uL S 24 3 m1 e1 (sL S 24 3 ++ [s])) 24 3 m2 e2 (sL S 24 3 ++ [s] ++ [d])) 24 3 m3 e3 (sL S 24 3 ++ [s] ++ [d] ++ [nt])) 24 i = sL S 24 i := fun i hi => ((sL_uL (by omega)).trans (sL_uL (by omega))).trans (sL_uL (by omega))
    have eL : sL (uL (uL (uL S 24 3 m1 e1 (sL S 24 3 ++ [s])) 24 3 m2 e2 (sL S 24 3 ++ [s] ++ [d])) 24 3 m3 e3 (sL S 24 3 ++ [s] ++ [d] ++ [nt])) 24 3 = sL S 24 3 ++ [s] ++ [d] ++ [nt] := sL_uL_s
    refine ⟨w1, w2, ?_, ⟨fun v hv => ((sI_uL (by omega)).trans ((sI_uL (by omega)).trans (sI_uL (by omega)))).trans (q1 v hv), q2, q3⟩, w5⟩
    rw [eLi 0 (by omega), eLi 1 (by omega), eLi 2 (by omega), eL]
    refine ⟨p0, p1, p2, hh + 1, by omega, by simp only [List.length_append, List.length_singleton]; omega, fun j v hj => ?_⟩
    rw [List.append_assoc, List.append_assoc] at hj
    by_cases z1 : 3 * j < (sL S 24 3).length
    · rw [List.getElem?_append_left z1] at hj
      exact hval j v hj
    · rw [List.getElem?_append_right (by omega)] at hj
      have hj2 := (List.getElem?_eq_some_iff.mp hj).1
      simp only [List.length_append, List.length_singleton] at hj2
      have e0 : 3 * j - (sL S 24 3).length = 0 := by omega
      rw [e0] at hj
      have e1 : s = v := Option.some.inj hj
      rw [← e1]
      exact hs
  · exact VQ.of (fun t => ((sL_uL (by omega)).trans (sL_uL (by omega))).trans (sL_uL (by omega))) (fun s' => (sI_uL (by omega)).trans ((sI_uL (by omega)).trans (sI_uL (by omega)))) (fun s' => (sI_uL (by omega)).trans ((sI_uL (by omega)).trans (sI_uL (by omega))))
theorem v_ct257 {Y0 : mY} {S0 : mS} {k9 n9 s l : Nat} (hk : k9 ≤ 72) (hn : n9 ≤ 11736) (hs : s < yn Y 28) (hl : l < 6) {x w : Int32} {κ : Int32 → mM → Prop} (h : ∀ x S' M', vP g Y0 S0 Y S' M' → κ x M') : ∀ (d j : Nat) (S : mS) (M : mM), vP g Y0 S0 Y S M → j + d = yn Y 29 → wX14_comeThrough_257 g κ (d + 1) k9 n9 (some (yA Y 20 0)) (nI s) (some (yA Y 28 s)) (nI l) x w (nI j) M := by
  intro d
  induction d with
  | zero =>
    intro j S M P hj
    rw [wX14_comeThrough_257]
    refine ⟨⟨hk, hn⟩, v_hdP P.1.1 P.1.2.1 (by omega) (fun _ => ?_) (fun hlt => absurd hlt (by omega))⟩
    exact s_pI P.1.1 hs rfl rfl rfl (fun M1 H1 => s_pI H1 hs rfl rfl rfl (fun M2 H2 => ⟨⟨hk, hn⟩, h x _ M2 (vP_I (vP_I P H1 ⟨l, hl, rfl⟩ (by omega)) H2 (Or.inl rfl) (by omega))⟩))
  | succ d ih =>
    intro j S M P hj
    have H := P.1.1
    have V := P.1.2.1
    have i326 : ∀ S M, vP g Y0 S0 Y S M → wX14_comeThrough_326 g κ (wX14_comeThrough_257 g κ (d + 1)) k9 n9 (some (yA Y 20 0)) (nI s) (some (yA Y 28 s)) (nI l) x w (nI j) M := fun S M P => ⟨⟨hk, hn⟩, by rw [nI_1]; exact ih (j + 1) S M P (by omega)⟩
    rw [wX14_comeThrough_257]
    refine ⟨⟨hk, hn⟩, v_hdP H V (by omega) (fun z => absurd z (by omega)) (fun hlt => s_gI H hlt rfl rfl rfl (br_c (fun _ => s_gI H hs rfl rfl rfl (br_c (fun _ => ?_) (fun _ => i326 S M P))) (fun _ => i326 S M P)))⟩
    exact v_Ld H V hl (s_gI H (V.l22 hl) rfl rfl rfl (br_c (fun _ => i326 S M P) (fun _ => s_pI H hlt rfl rfl rfl (fun M1 H1 => i326 _ M1 (vP_fate P H1 (by decide))))))
theorem vP_caught {Y0 : mY} {S0 : mS} (P : vP g Y0 S0 Y S M) {p s : Nat} {v : Int32} {M' : mM} (H' : mR g Y (uI (uI S 29 p 3 v) 29 p 5 (nI s)) M') (hs : s < yn Y 28) : vP g Y0 S0 Y (uI (uI S 29 p 3 v) 29 p 5 (nI s)) M' := by
  obtain ⟨⟨H, V, VV, VQ, VT⟩, F, R⟩ := P
  exact ⟨⟨H', vS_uI (vS_uI V (by omega)) (by omega), vV_caught VV hs, vQ_uI (vQ_uI VQ (by omega)) (by omega), vT_uI (vT_uI VT (by omega)) (by omega)⟩, (F.tr (mFm.uI (by omega))).tr (mFm.uI (by omega)), vQ.c R (fun k' i' f' q => ((sI_uI (by have := qV_d q; omega)).trans (sI_uI (by have := qV_d q; omega))))⟩
theorem v_ct87 {Y0 : mY} {S0 : mS} {s l : Nat} (hs : s < yn Y 28) (hl : l < 6) {r : Int32} {κ : Int32 → mM → Prop} (h : ∀ x S' M', vP g Y0 S0 Y S' M' → κ x M') : ∀ (d j k9 n9 : Nat) (c : Int32) (S : mS) (M : mM), k9 ≤ 3 * j → n9 ≤ 489 * j → vP g Y0 S0 Y S M → j + d = yn Y 29 → wX14_comeThrough_87 g κ (d + 1) k9 n9 (some (yA Y 20 0)) (nI s) (some (yA Y 28 s)) (nI l) r c (nI j) M := by
  intro d
  induction d with
  | zero =>
    intro j k9 n9 c S M hk hn P hj
    have H := P.1.1
    have V := P.1.2.1
    have hb := V.2.1
    rw [wX14_comeThrough_87]
    refine ⟨⟨by omega, by omega⟩, v_hdP H V (by omega) (fun _ => ?_) (fun hlt => absurd hlt (by omega))⟩
    refine s_rc H V.x0 rfl rfl (v_comeIn P hs hl (fun x S1 M1 P1 => ?_))
    have H1 := P1.1.1
    have V1 := P1.1.2.1
    refine v_Ld H1 V1 hl (s_gI H1 (V1.l22 hl) rfl rfl rfl (v_Ld H1 V1 hl (s_rc H1 V1.x0 rfl rfl (v_duty H1 (V1.l22 hl) (fun y => s_pI H1 (V1.l22 hl) rfl rfl rfl (fun M2 H2 => ?_))))))
    exact ⟨yn Y 29 + 1, v_ct257 (by omega) (by omega) hs hl h (yn Y 29) 0 _ M2 (vP_I P1 H2 trivial (by omega)) (by omega)⟩
  | succ d ih =>
    intro j k9 n9 c S M hk hn P hj
    have H := P.1.1
    have V := P.1.2.1
    have hb := V.2.1
    have i210 : ∀ k9 n9 c S M, k9 ≤ 3 * (j + 1) → n9 ≤ 489 * (j + 1) → vP g Y0 S0 Y S M → wX14_comeThrough_210 g κ (wX14_comeThrough_87 g κ (d + 1)) k9 n9 (some (yA Y 20 0)) (nI s) (some (yA Y 28 s)) (nI l) r c (nI j) M := fun k9 n9 c S M hk hn P => ⟨⟨by omega, by omega⟩, by rw [nI_1]; exact ih (j + 1) k9 n9 c S M hk hn P (by omega)⟩
    rw [wX14_comeThrough_87]
    refine ⟨⟨by omega, by omega⟩, v_hdP H V (by omega) (fun z => absurd z (by omega)) (fun hlt => s_gI H hlt rfl rfl rfl (br_c (fun _ => s_gI H hs rfl rfl rfl (br_c (fun _ => i210 _ _ _ S M (by omega) (by omega) P) (fun _ => ?_))) (fun _ => i210 _ _ _ S M (by omega) (by omega) P)))⟩
    obtain ⟨dr, hdr, edr⟩ := P.1.2.2.1.1 29 j 0 hlt
    refine s_gI H hlt rfl rfl rfl ⟨⟨by omega, by omega⟩, ?_⟩
    rw [edr]
    refine v_hide P hs (by omega) (fun S1 M1 P1 => ?_)
    have i160 : ∀ v, wX14_comeThrough_160 g κ (wX14_comeThrough_87 g κ (d + 1)) (k9 + 3) (n9 + 489) (some (yA Y 20 0)) (nI s) (some (yA Y 28 s)) (nI l) r c (nI j) (some (yA Y 29 j)) v (some (yA Y 29 j)) M1 := by
      intro v
      refine ⟨⟨by omega, by omega⟩, s_pI P1.1.1 hlt rfl rfl rfl (fun M2 H2 => s_pI H2 hlt rfl rfl rfl (fun M3 H3 => ?_))⟩
      have P3 := vP_caught P1 H3 hs
      refine br_c (fun _ => i210 _ _ _ _ M3 (by omega) (by omega) P3) (fun _ => ?_)
      refine s_pI H3 hlt rfl rfl rfl (fun M4 H4 => ?_)
      have P4 := vP_I P3 H4 ⟨100 + l, by rw [← nI_add]; rfl, Or.inr (Or.inl ⟨by omega, by omega⟩)⟩ (by omega)
      exact v_Ld H4 P4.1.2.1 hl (s_gI H4 (V.l22 hl) rfl rfl rfl (s_gI H4 hlt rfl rfl rfl (s_pI H4 (V.l22 hl) rfl rfl rfl (fun M5 H5 => i210 _ _ _ _ M5 (by omega) (by omega) (vP_I P4 H5 trivial (by omega))))))
    exact br_c (fun _ => i160 _) (fun _ => i160 _)
theorem v_comeThrough {Y0 : mY} {S0 : mS} (P : vP g Y0 S0 Y S M) {s t : Nat} (hs : s < yn Y 28) (ht : t < yn Y 23) {κ : Int32 → mM → Prop} (h : ∀ x S' M', vP g Y0 S0 Y S' M' → κ x M') : wX14_comeThrough g κ (some (yA Y 20 0)) (nI s) (some (yA Y 23 t)) M := by
  have H := P.1.1
  have V := P.1.2.1
  refine v_S H V hs (s_gI H hs rfl rfl rfl (s_rc H ht rfl rfl (v_beyond H P.1.2.2.1 ht (fun l hl => ?_))))
  have i81 : ∀ r S M, vP g Y0 S0 Y S M → wX14_comeThrough_81 g κ 0 0 (some (yA Y 20 0)) (nI s) (some (yA Y 28 s)) (nI l) r M := fun r S M P => ⟨⟨by omega, by omega⟩, yn Y 29 + 1, v_ct87 hs hl h (yn Y 29) 0 0 0 0 S M (by omega) (by omega) P (by omega)⟩
  have i51 : ∀ r, wX14_comeThrough_51 g κ 0 0 (some (yA Y 20 0)) (nI s) (some (yA Y 28 s)) (nI l) r M := fun r => by
    refine ⟨⟨by omega, by omega⟩, s_gI H V.x0 rfl rfl rfl (s_pI H V.x0 rfl rfl rfl (fun M1 H1 => s_gI H1 V.x0 rfl rfl rfl (s_pI H1 V.x0 rfl rfl rfl (fun M2 H2 => ?_))))⟩
    exact i81 r _ M2 (vP_I (vP_I P H1 trivial (by omega)) H2 trivial (by omega))
  exact s_rc H ht rfl rfl (v_dozes H ht (br_f (by decide) (i81 _ S M P)) (br_t rfl (s_gI H V.x0 rfl rfl rfl (s_gI H ht rfl rfl rfl (br_c (fun _ => i51 _) (fun _ => i51 _))))))
theorem v_y121 {Y0 : mY} {S0 : mS} {t : Nat} (ht : t < yn Y 23) {a : Int32} {κ : Int32 → mM → Prop} (h : ∀ x S' M', vP g Y0 S0 Y S' M' → κ x M') : ∀ (d : Nat) (S : mS) (M : mM), vP g Y0 S0 Y S M → d ≤ (sL S 25 t).length → wX14_yawn_121 g κ (d + 1) (some (yA Y 20 0)) (some (yA Y 23 t)) a (nI d - 1) M := by
  intro d
  induction d with
  | zero =>
    intro S M P hd
    rw [wX14_yawn_121]
    exact br_t (by decide) (h a S M P)
  | succ d ih =>
    intro S M P hd
    have H := P.1.1
    have V := P.1.2.1
    have hb := V.2.1
    have hl := H.len (k := 25) (i := t) rfl (V.l25 ht)
    have hlt : d < (sL S 25 t).length := by omega
    have hx : (sL S 25 t)[d]? = some ((sL S 25 t)[d]) := List.getElem?_eq_getElem hlt
    generalize (sL S 25 t)[d] = u at hx
    obtain ⟨hu, hu1, -⟩ := (P.1.2.2.2.1.1 t ht).2 u (List.mem_of_getElem? hx)
    rw [wX14_yawn_121, nI_pred]
    refine br_f (nI_pos (by omega)) (s_gR7 H ht rfl rfl rfl (s_rcL H rfl (V.l25 ht) (s_get H rfl (V.l25 ht) hx (v_int H V (by omega) ?_))))
    refine v_S H V hu (s_gI H hu rfl rfl rfl (s_pI H hu rfl rfl rfl (fun M1 H1 => ?_)))
    have P1 := vP_I P H1 trivial (by omega)
    have i189 : ∀ S' M', vP g Y0 S0 Y S' M' → d ≤ (sL S' 25 t).length → wX14_yawn_189 g κ (wX14_yawn_121 g κ (d + 1)) (some (yA Y 20 0)) (some (yA Y 23 t)) a (nI d) M' := fun S' M' P' hd' => by
      show wX14_yawn_121 g κ (d + 1) (some (yA Y 20 0)) (some (yA Y 23 t)) a (nI d + (-1)) M'
      rw [nI_m1]
      exact ih S' M' P' hd'
    refine v_S H1 P1.1.2.1 hu (s_gI H1 hu rfl rfl rfl (br_c (fun _ => ?_) (fun _ => i189 _ M1 P1 (Nat.le_of_lt hlt))))
    exact s_rc H1 V.x0 rfl rfl (v_stepOut P1 hu ((sI_uI (by omega)).trans hu1) (by decide) (fun S2 M2 P2 hL => i189 S2 M2 P2 (by
      have := hL t
      have e : sL (uI S 28 u 2 (sI S 28 u 2 - 1)) 25 t = sL S 25 t := rfl
      rw [e] at this
      omega)))
theorem v_yawn {Y0 : mY} {S0 : mS} (P : vP g Y0 S0 Y S M) {a : Int32} {κ : Int32 → mM → Prop} (h : ∀ x Y' S' M', vP g Y0 S0 Y' S' M' → κ x M') : wX14_yawn g κ (some (yA Y 20 0)) a M := by
  refine v_th P (fun S1 M1 P1 _ _ => ?_)
  have H := P1.1.1
  have V := P1.1.2.1
  have hbd := V.2.1
  have f2 : wX14_yawn_52 g κ (some (yA Y 20 0)) M1 := v_rf P1 (fun S2 M2 P2 _ _ => h 0 Y S2 M2 P2)
  refine s_rc H V.x0 rfl rfl (v_isGate H V (fun t ht et => br_f (by decide) ?_) (fun _ => br_t rfl (v_rf P1 (fun S2 M2 P2 _ _ => h 0 Y S2 M2 P2))))
  subst et
  have i108 : ∀ x S M, vP g Y0 S0 Y S M → wX14_yawn_108 g κ (some (yA Y 20 0)) (some (yA Y 23 t)) x M := fun x S M P => s_gR7 P.1.1 ht rfl rfl rfl (s_rcL P.1.1 rfl (P.1.2.1.l25 ht) (s_size P.1.1 rfl (P.1.2.1.l25 ht) ⟨(sL S 25 t).length + 1, v_y121 ht (fun x S' M' P' => h x Y S' M' P') _ S M P (Nat.le_refl _)⟩))
  refine v_G H V ht (s_gI H V.x0 rfl rfl rfl (s_rc H ht rfl rfl (v_isOpen H ht (br_f (by decide) ?_) (br_t rfl f2))))
  refine s_gR7 H ht rfl rfl rfl (s_rcL H rfl (V.l25 ht) (s_isEmpty H rfl (V.l25 ht) (fun _ => br_f (by decide) f2) (fun hne => br_t rfl ?_)))
  refine s_gI H V.x0 rfl rfl rfl (s_pI H V.x0 rfl rfl rfl (fun M2 H2 => ?_))
  have P2 := vP_I P1 H2 trivial (by omega)
  have V2 := P2.1.2.1
  refine s_gR7 H2 ht rfl rfl rfl (s_rcL H2 rfl (V2.l25 ht) (v_first H2 V2 ht hne (fun s hs128 hs0 => v_int H2 V2 hs128 ?_)))
  obtain ⟨hs, hs1, -⟩ := (P2.1.2.2.2.1.1 t ht).2 s (List.mem_of_getElem? hs0)
  refine s_rc H2 V2.x0 rfl rfl (v_stepOut P2 hs hs1 (by decide) (fun S3 M3 P3 _ => ?_))
  exact s_rc P3.1.1 P3.1.2.1.x0 rfl rfl (v_good P3.1.1 P3.1.2.1 P3.1.2.2.1 hs ht (br_f (by decide) (s_rc P3.1.1 P3.1.2.1.x0 rfl rfl (v_comeThrough P3 hs ht (fun x S4 M4 P4 => i108 x S4 M4 P4)))) (br_t rfl (i108 _ S3 M3 P3)))
theorem v_appeal {Y0 : mY} {S0 : mS} (P : vP g Y0 S0 Y S M) {a : Int32} {κ : Int32 → mM → Prop} (h : ∀ x Y' S' M', vP g Y0 S0 Y' S' M' → κ x M') : wX14_appeal κ (some (yA Y 20 0)) a M := by
  refine v_th P (fun S1 M1 P1 e1 _ => ?_)
  have H := P1.1.1
  have V := P1.1.2.1
  have VV := P1.1.2.2.1
  have hbd := V.2.1
  have ff : ∀ n, ¬ n ≤ (0 : Int32) → m_p M1 (some (yA Y 20 0)) 19 0 (.int n) (fun M2 => wX14_appeal_68 κ (some (yA Y 20 0)) a M2) := fun n hn => v_th P1 (fun S2 M2 P2 e2 _ => s_gI P2.1.1 V.x0 rfl rfl rfl (by rw [e2]; exact br_f hn (h _ Y S2 M2 P2)))
  have f2 : wX14_appeal_63 κ (some (yA Y 20 0)) a M1 := ff 2 (by decide)
  refine s_rc H V.x0 rfl rfl (v_isPart H V (fun p hp ep => br_f (by decide) ?_) (fun _ => br_t rfl (ff 1 (by decide))))
  refine (fun z => ?_ : a = nI p → _) ep
  subst z
  refine v_Pt H V hp (s_gI H hp rfl rfl rfl (br_c (fun h3 => v_Pt H V hp (s_gI H hp rfl rfl rfl (v_is (fun z1 z2 => br_f (by decide) ?_) (fun _ => br_t rfl f2)))) (fun _ => f2)))
  obtain ⟨x, ex, hx⟩ := VV.1 29 p 4 hp
  obtain ⟨b, hb, eb⟩ := VV.2 p hp h3
  rw [ex] at z1 z2
  have hx6 : 100 ≤ x ∧ x < 106 := by
    rcases hx with hx | hx | hx
    · exact absurd (show nI x < (100 : Int32) from nI_lt (b := 100) (by omega) (by omega)) z1
    · exact hx
    · exact absurd (show (105 : Int32) < nI x from nI_lt (a := 105) (by omega) (by omega)) z2
  have hl : x - 100 < 6 := by omega
  have esub : nI x - 100 = nI (x - 100) := by rw [show (100 : Int32) = nI 100 from rfl, pk_sub (by omega)]
  refine s_gI H V.x0 rfl rfl rfl ?_
  rw [e1]
  refine br_t (by decide) (v_Pt H V hp (s_gR6 H V.x0 rfl rfl rfl (s_gI H hp rfl rfl rfl ?_)))
  rw [ex, esub]
  refine s_ldR H V.l21 rfl (by decide) rfl (by rw [V.2.2.2.2.1]; exact hl) (by rw [V.2.2.2.2.1]; omega) ?_
  rw [V.2.2.2.2.2.1 _ hl]
  refine s_gR6 H V.x0 rfl rfl rfl (s_gI H hp rfl rfl rfl ?_)
  rw [eb]
  refine s_rcL H rfl (V.l24 (by omega)) (v_gtS H V hb (s_cast H hb rfl rfl (s_gI H hp rfl rfl rfl (s_gI H (V.l22 hl) rfl rfl rfl (br_c (fun _ => h _ Y S1 M1 P1) (fun _ => ?_))))))
  refine s_gI H hb rfl rfl rfl (s_gI H hp rfl rfl rfl (br_c (fun _ => s_gI H hb rfl rfl rfl (br_c (fun _ => ?_) (fun _ => h _ Y S1 M1 P1))) (fun _ => h _ Y S1 M1 P1)))
  refine s_gI H (V.l22 hl) rfl rfl rfl (s_gI H hp rfl rfl rfl (s_pI H (V.l22 hl) rfl rfl rfl (fun M2 H2 => s_gI H2 hp rfl rfl rfl ?_)))
  have P2 := vP_I P1 H2 trivial (by omega)
  rw [sI_uI (by omega), eb]
  refine s_pI H2 hp rfl rfl rfl (fun M3 H3 => s_pI H3 hp rfl rfl rfl (fun M4 H4 => ?_))
  have P3 := vP_I P2 H3 ⟨b, rfl, Or.inl hb⟩ (by omega)
  exact h _ Y _ M4 (vP_fate P3 H4 (by decide))
end VQUE
