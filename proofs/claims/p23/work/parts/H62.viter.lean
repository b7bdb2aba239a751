/-! THE PURE SIDE, 13: the reference's iterators and new rows -/
/-- all but iterators and new rows is the same -/
def eqT (S' S : mS) : Prop := ∀ k i, k ≠ 32 → k ≠ 38 → mEq S' S k i
theorem eqT.rf (S : mS) : eqT S S := fun k i _ _ => mEq.rf S k i
theorem eqT.tr {S S' S'' : mS} (h : eqT S'' S') (h' : eqT S' S) : eqT S'' S := fun k i a b => (h k i a b).tr (h' k i a b)
/-- one cell more, of one of these two kinds -/
def mX1 (Y : mY) (S : mS) (k : Nat) (Y1 : mY) (S1 : mS) : Prop := (∀ k' i', i' < yn Y k' → yA Y1 k' i' = yA Y k' i') ∧ yn Y1 k = yn Y k + 1 ∧ (∀ k', k' ≠ k → yn Y1 k' = yn Y k') ∧ (∀ k' i', ¬ (k' = k ∧ i' = yn Y k) → mEq S1 S k' i')
theorem vP_uX {g : Nat → Nat} {Y : mY} {S0 S : mS} {M M' : mM} (h : vP g Y S0 Y S M) {k i f : Nat} {v : Option Nat} (H' : mR g Y (uX S k i f v) M') (hk : 20 ≤ k ∧ k ≠ 31 ∧ ¬ (35 ≤ k ∧ k ≤ 37)) : vP g Y S0 Y (uX S k i f v) M' := by
  obtain ⟨⟨H, V, VV, VQ, VT⟩, F, R⟩ := h
  exact ⟨⟨H', vS_uX V, VV.of (fun _ _ _ _ => rfl), VQ.of (fun _ => rfl) (fun _ => rfl) (fun _ => rfl), VT⟩, F.tr (mFm.of (fun k' hk' i' => mEq.uX (by omega))), ⟨R.1, R.2⟩⟩
section VIT
variable {g : Nat → Nat} {Y : mY} {S : mS} {M : mM}
theorem mVs.X1 {k : Nat} (hk : k = 32 ∨ k = 38) {Y1 : mY} {S1 : mS} (a : mX1 Y S k Y1 S1) (V : mVs Y S) : mVs Y1 S1 := by
  obtain ⟨a1, a2, a3, a5⟩ := a
  have n20 := a3 20 (by omega); have n21 := a3 21 (by omega); have n22 := a3 22 (by omega); have n23 := a3 23 (by omega); have n24 := a3 24 (by omega); have n25 := a3 25 (by omega); have n26 := a3 26 (by omega); have n27 := a3 27 (by omega); have n28 := a3 28 (by omega); have n29 := a3 29 (by omega); have n30 := a3 30 (by omega); have n33 := a3 33 (by omega)
  obtain ⟨w1, w2, w3, ⟨v1, v2, v3⟩, ⟨u1, u2, u3, u4⟩⟩ := V
  have hL : ∀ i, sL S1 24 i = sL S 24 i := fun i => (a5 24 i (by omega)).2.2.2.2.1
  refine ⟨by rw [n20, n21, n22, n23, n24, n25, n26, n27, n30, n33]; exact w1, by rw [n23, n28, n29]; exact w2, by rw [hL, hL, hL, hL, n23, n28, n29]; exact w3, ⟨fun v hv => (congrFun (a5 30 v (by omega)).1 0).trans (v1 v hv), ((a5 33 0 (by omega)).2.2.2.2.2.2.1).trans v2, fun v hv => ?_⟩, ⟨((a5 21 0 (by omega)).2.2.2.2.2.2.1).trans u1, fun i hi => ?_, fun t ht => ((a5 26 t (by omega)).2.2.2.2.2.2.1).trans (u3 t (by omega)), ((a5 27 0 (by omega)).2.2.2.2.2.2.1).trans u4⟩⟩
  · rw [congrFun (a5 33 0 (by omega)).2.2.2.2.2.2.2.2 (128 + v), v3 v hv, a1 30 v (by omega)]
  · rw [congrFun (a5 21 0 (by omega)).2.2.2.2.2.2.2.2 i, u2 i hi, a1 22 i (by omega)]
theorem vOK_n {Y1 : mY} (h8 : yn Y1 28 = yn Y 28) (h3 : yn Y1 23 = yn Y 23) {k f : Nat} {v : Int32} (h : vOK Y k f v) : vOK Y1 k f v := by
  unfold vOK at h ⊢
  rw [h8, h3]
  exact h
theorem mVv.X1 {k : Nat} (hk : k = 32 ∨ k = 38) {Y1 : mY} {S1 : mS} (a : mX1 Y S k Y1 S1) (V : mVv Y S) : mVv Y1 S1 := by
  obtain ⟨a1, a2, a3, a5⟩ := a
  refine ⟨fun k' i f hi => ?_, fun p hp h3 => ?_⟩
  · by_cases z : k' = k
    · subst z
      rcases hk with rfl | rfl <;> exact trivial
    · rw [a3 k' z] at hi
      rw [congrFun (a5 k' i (by omega)).1 f]
      exact vOK_n (a3 28 (by omega)) (a3 23 (by omega)) (V.1 k' i f hi)
  · rw [a3 29 (by omega)] at hp
    rw [congrFun (a5 29 p (by omega)).1 3] at h3
    rw [congrFun (a5 29 p (by omega)).1 5, a3 28 (by omega)]
    exact V.2 p hp h3
theorem mVq.X1 {k : Nat} (hk : k = 32 ∨ k = 38) {Y1 : mY} {S1 : mS} (a : mX1 Y S k Y1 S1) (V : mVq Y S) : mVq Y1 S1 := by
  obtain ⟨a1, a2, a3, a5⟩ := a
  have eL : ∀ t, sL S1 25 t = sL S 25 t := fun t => (a5 25 t (by omega)).2.2.2.2.1
  have e3 : ∀ s, sI S1 28 s 3 = sI S 28 s 3 := fun s => congrFun (a5 28 s (by omega)).1 3
  have e4 : ∀ s, sI S1 28 s 4 = sI S 28 s 4 := fun s => congrFun (a5 28 s (by omega)).1 4
  refine ⟨fun t ht => ?_, fun s hs h3 => ?_⟩
  · rw [eL, a3 28 (by omega)]
    exact ⟨(V.1 t (by rw [← a3 23 (by omega)]; exact ht)).1, fun s hs => by rw [e3, e4]; exact (V.1 t (by rw [← a3 23 (by omega)]; exact ht)).2 s hs⟩
  · rw [e3] at h3
    obtain ⟨t, q1, q2, q3⟩ := V.2 s (by rw [← a3 28 (by omega)]; exact hs) h3
    exact ⟨t, by rw [a3 23 (by omega)]; exact q1, by rw [e4]; exact q2, by rw [eL]; exact q3⟩
theorem vP_X1 {Y0 : mY} {S0 : mS} (P : vP g Y0 S0 Y S M) {k : Nat} (hk : k = 32 ∨ k = 38) {Y1 : mY} {S1 : mS} {M1 : mM} (H1 : mR g Y1 S1 M1) (a : mX1 Y S k Y1 S1) : vP g Y0 S0 Y1 S1 M1 := by
  obtain ⟨⟨H, V, VV, VQ, VT⟩, F, R⟩ := P
  have F1 : mFm Y S Y1 S1 := by
    refine ⟨a.1, fun k' => ?_, fun k' hk' => ⟨a.2.2.1 k' (by omega), fun i => a.2.2.2 k' i (by omega)⟩⟩
    by_cases z : k' = k
    · subst z; rw [a.2.1]; omega
    · rw [a.2.2.1 k' z]; exact Nat.le_refl _
  have hT : mVt S1 := by
    obtain ⟨x, y, t1, t2, t3, t4⟩ := VT
    exact ⟨x, y, t1, t2, (congrFun (a.2.2.2 20 0 (by omega)).1 1).trans t3, (congrFun (a.2.2.2 20 0 (by omega)).1 2).trans t4⟩
  exact ⟨⟨H1, V.X1 hk a, VV.X1 hk a, VQ.X1 hk a, hT⟩, F.tr F1, ⟨fun k i f q => (congrFun (a.2.2.2 k i (by have := qV_d q; omega)).1 f).trans (R.1 k i f q), (a.2.2.1 23 (by omega)).trans R.2.1, (a.2.2.1 28 (by omega)).trans R.2.2⟩⟩
theorem s_gR8 (H : mR g Y S M) {k i f ci : Nat} (hi : i < yn Y k) (h1 : m_ak k = 99) (h2 : m_cls k = ci) (h3 : (m_fds k)[f]? = some (8, 0, 0)) {κ : Option Nat → Prop} (h : κ (sX S k i f)) : m_gR M (some (yA Y k i)) ci f κ := by
  subst h2
  refine ⟨_, _, _, rfl, H.at hi h1, ?_, h⟩
  rw [List.getElem?_mapIdx, h3]
  rfl
theorem s_gIL (H : mR g Y S M) {k i : Nat} (hk : mLk k = true) (hi : i < yn Y k) {κ : Int32 → Prop} (h : κ (nI (sL S k i).length)) : m_gI M (some (yA Y k i)) 4 2 κ := ⟨_, _, _, rfl, H.hdr hk hi, rfl, h⟩
theorem s_gRL (H : mR g Y S M) {k i : Nat} (hk : mLk k = true) (hi : i < yn Y k) {κ : Option Nat → Prop} (h : κ (some (se S k i))) : m_gR M (some (yA Y k i)) 4 1 κ := ⟨_, _, some (se S k i), rfl, H.hdr hk hi, rfl, h⟩
/-- an iterator over one of the reference's lists, in front of its element c -/
def vIt (Y : mY) (S : mS) (i j c : Nat) : Prop := i < yn Y 32 ∧ sI S 32 i 0 = nI c ∧ sI S 32 i 2 = sI S 24 j 0 ∧ sX S 32 i 3 = some (yA Y 24 j)
theorem v_iter {Y0 : mY} {S0 : mS} {j : Nat} (hj : j < 4) (P : vP g Y0 S0 Y S M) {κ : Option Nat → mM → Prop} (h : ∀ Y1 S1 M1 i, vP g Y0 S0 Y1 S1 M1 → mX1 Y S 32 Y1 S1 → vIt Y1 S1 i j 0 → κ (some (yA Y1 32 i)) M1) : wJx4a65c_iterator_32c93 κ (some (yA Y 24 j)) M := by
  have H := P.1.1
  have V := P.1.2.1
  refine r_new (fun q M1 hq h1 o1 => r_rc h1 (r_p h1 (by simp) (fun M2 h2 o2 => ⟨q, rfl, r_p h2 (by simp) (fun M3 h3 o3 => ⟨q, _, some (yA Y 24 j), rfl, h3, rfl, ?_⟩)⟩)))
  have hF := H.fr hq
  have H3 : mR g Y S M3 := H.off hF (fun q' z => (o3 q' z).trans ((o2 q' z).trans (o1 q' z)))
  refine ⟨_, _, _, rfl, H3.hdr rfl (V.l24 hj), rfl, r_p h3 (by simp) (fun M4 h4 o4 => ?_)⟩
  have H4 : mR g Y S M4 := H3.off hF o4
  obtain ⟨Y1, S1, H5, A⟩ := H4.alloc2 (k := 32) hF (fun f => match f with | 1 => -1 | 2 => sI S 24 j 0 | _ => 0) (fun _ => 0) (fun _ => some (yA Y 24 j)) (fun _ => 0) [] 0 rfl (by decide) (by decide) (fun z => absurd z (by decide)) h4 (fun f t' ht' => by
    rcases f with _ | _ | _ | _ | f <;> cases ht' <;> exact ⟨fun z => absurd z (by decide), fun z => absurd z (by decide), fun z => absurd z (by decide), fun z => absurd z (by decide)⟩)
  obtain ⟨a1, a2, a3, a4, a5, a6, -, a8, -⟩ := A
  have a : mX1 Y S 32 Y1 S1 := ⟨a1, a2, a3, a5⟩
  rw [← a4]
  exact h Y1 S1 M4 _ (vP_X1 P (Or.inl rfl) H5 a) a ⟨by rw [a2]; omega, congrFun a6 0, (congrFun a6 2).trans (congrFun (a5 24 j (by omega)).1 0).symm, (congrFun a8 3).trans (congrArg some (a1 24 j (V.l24 hj)).symm)⟩
theorem v_hasNext (H : mR g Y S M) {i j c : Nat} (hj : j < yn Y 24) (I : vIt Y S i j c) (hc : c ≤ (sL S 24 j).length) {κ : Int32 → mM → Prop} (h1 : c < (sL S 24 j).length → κ 1 M) (h0 : c = (sL S 24 j).length → κ 0 M) : wJx35411_hasNext_aae02 κ (some (yA Y 32 i)) M := by
  obtain ⟨i1, i2, i3, i4⟩ := I
  have hl := H.len (k := 24) (i := j) rfl hj
  refine s_gI H i1 rfl rfl rfl (s_gR8 H i1 rfl rfl rfl ?_)
  rw [i2, i4]
  refine s_gIL H rfl hj ?_
  by_cases z : c = (sL S 24 j).length
  · exact br_t (by rw [z]) (h0 z)
  · exact br_f (fun e => z ((nI_eq (by omega) (by omega)).mp e)) (h1 (by omega))
theorem v_next (H : mR g Y S M) {i j c x : Nat} (hj : j < yn Y 24) (I : vIt Y S i j c) (hx : (sL S 24 j)[c]? = some x) {κ : Option Nat → mM → Prop} (h : ∀ M', mR g Y (uI (uI S 32 i 0 (nI (c + 1))) 32 i 1 (nI c)) M' → κ (some (yA Y (m_ek 24 j) x)) M') : m_rc M (some (yA Y 32 i)) 3 fun b5 => wJx35411_next_0502b κ (some b5) M := by
  obtain ⟨i1, i2, i3, i4⟩ := I
  have hl := H.len (k := 24) (i := j) rfl hj
  have hc := (List.getElem?_eq_some_iff.mp hx).1
  refine s_rc H i1 rfl rfl (s_rc H i1 rfl rfl (s_gR8 H i1 rfl rfl rfl ?_))
  rw [i4]
  refine s_gI H hj rfl rfl rfl (s_gI H i1 rfl rfl rfl (br_t i3.symm ?_))
  refine s_gI H i1 rfl rfl rfl (s_gR8 H i1 rfl rfl rfl ?_)
  rw [i2, i4]
  refine s_gIL H rfl hj (br_t (nI_lt hc (by omega)) (s_gR8 H i1 rfl rfl rfl ?_))
  rw [i4]
  refine s_gRL H rfl hj ?_
  rcases H.2.2.1 24 j rfl hj with ⟨_, e0⟩ | ⟨N, f, hM, hN, hle, hf⟩
  · rw [e0] at hc; cases hc
  have hN2 := m_chn_le hN
  refine r_len hM (by decide) (br_t (nI_lt (by omega) (by omega)) ?_)
  rw [nI_1]
  refine s_pI H i1 rfl rfl rfl (fun M1 H1 => s_pI H1 i1 rfl rfl rfl (fun M2 H2 => ?_))
  rcases H2.2.2.1 24 j rfl hj with ⟨_, e0⟩ | ⟨N2, f2, hM2, hN2', hle2, hf2⟩
  · have e0' : sL S 24 j = [] := e0
    rw [e0'] at hc; cases hc
  have hM2' : M2 (se S 24 j) = some (jA N2 f2) := hM2
  have hle2' : (sL S 24 j).length ≤ N2 := hle2
  have hN3 := m_chn_le hN2'
  refine ⟨_, N2, f2, rfl, hM2', vp_in_nI (by omega) (by omega), ?_⟩
  rw [nI_clamp (by omega), hf2 c x hx]
  exact h M2 H2
theorem vIt.nx {i j c : Nat} (I : vIt Y S i j c) : vIt Y (uI (uI S 32 i 0 (nI (c + 1))) 32 i 1 (nI c)) i j (c + 1) := ⟨I.1, (sI_uI (by omega)).trans sI_uI_s, (((sI_uI (by omega)).trans (sI_uI (by omega))).trans I.2.2.1).trans ((sI_uI (by omega)).trans (sI_uI (by omega))).symm, I.2.2.2⟩
theorem vP_nx {Y0 : mY} {S0 : mS} (P : vP g Y0 S0 Y S M) {i c : Nat} {M' : mM} (H' : mR g Y (uI (uI S 32 i 0 (nI (c + 1))) 32 i 1 (nI c)) M') : vP g Y0 S0 Y (uI (uI S 32 i 0 (nI (c + 1))) 32 i 1 (nI c)) M' := by
  obtain ⟨⟨H, V, VV, VQ, VT⟩, F, R⟩ := P
  exact ⟨⟨H', vS_uI (vS_uI V (by omega)) (by omega), vV_uI (k := 32) (vV_uI (k := 32) VV trivial (by omega)) trivial (by omega), vQ_uI (vQ_uI VQ (by omega)) (by omega), vT_uI (vT_uI VT (by omega)) (by omega)⟩, (F.tr (mFm.uI (by omega))).tr (mFm.uI (by omega)), vQ.c R (fun k' i' f' q => ((sI_uI (by have := qV_d q; omega)).trans (sI_uI (by have := qV_d q; omega))))⟩
theorem v_nn114 {Y0 : mY} {S0 : mS} {i : Nat}  {κ : Int32 → mM → Prop} (h : ∀ x S M, vP g Y0 S0 Y S M → κ x M) : ∀ (d c : Nat) (a : Int32) (S : mS) (M : mM), vP g Y0 S0 Y S M → vIt Y S i 1 c → c + d = yn Y 28 → wX14_nightNow_114 κ (d + 1)  a (some (yA Y 32 i)) M := by
  intro d
  induction d with
  | zero =>
    intro c a S M P I hc
    have V := P.1.2.1
    have hl : (sL S 24 1).length = yn Y 28 := by rw [V.2.2.1.2.1, List.length_range]
    rw [wX14_nightNow_114]
    exact s_rc P.1.1 I.1 rfl rfl (v_hasNext P.1.1 (V.l24 (by omega)) I (by omega) (fun z => absurd z (by omega)) (fun _ => br_t rfl (h _ S M P)))
  | succ d ih =>
    intro c a S M P I hc
    have V := P.1.2.1
    have hl : (sL S 24 1).length = yn Y 28 := by rw [V.2.2.1.2.1, List.length_range]
    have hx : (sL S 24 1)[c]? = some c := by rw [V.2.2.1.2.1, List.getElem?_range (by omega)]
    have hlt : c < yn Y 28 := by omega
    rw [wX14_nightNow_114]
    refine s_rc P.1.1 I.1 rfl rfl (v_hasNext P.1.1 (V.l24 (by omega)) I (by omega) (fun _ => br_f (by decide) ?_) (fun z => absurd z (by omega)))
    refine v_next P.1.1 (V.l24 (by omega)) I hx (fun M1 H1 => s_cast H1 hlt rfl rfl ?_)
    have ih' : ∀ a : Int32, wX14_nightNow_114 κ (d + 1)  a (some (yA Y 32 i)) M1 := fun a => ih (c + 1) a _ M1 (vP_nx P H1) I.nx (by omega)
    exact s_gI H1 hlt rfl rfl rfl (br_c (fun _ => ih' _) (fun _ => ih' _))
theorem v_nn172 {Y0 : mY} {S0 : mS} {i : Nat} {b : Int32} {κ : Int32 → mM → Prop} (h : ∀ x S M, vP g Y0 S0 Y S M → κ x M) : ∀ (d c : Nat) (a : Int32) (S : mS) (M : mM), vP g Y0 S0 Y S M → vIt Y S i 2 c → c + d = yn Y 29 → wX14_nightNow_172 κ (d + 1) b a (some (yA Y 32 i)) M := by
  intro d
  induction d with
  | zero =>
    intro c a S M P I hc
    have V := P.1.2.1
    have hl : (sL S 24 2).length = yn Y 29 := by rw [V.2.2.1.2.2.1, List.length_range]
    rw [wX14_nightNow_172]
    exact s_rc P.1.1 I.1 rfl rfl (v_hasNext P.1.1 (V.l24 (by omega)) I (by omega) (fun z => absurd z (by omega)) (fun _ => br_t rfl (h _ S M P)))
  | succ d ih =>
    intro c a S M P I hc
    have V := P.1.2.1
    have hl : (sL S 24 2).length = yn Y 29 := by rw [V.2.2.1.2.2.1, List.length_range]
    have hx : (sL S 24 2)[c]? = some c := by rw [V.2.2.1.2.2.1, List.getElem?_range (by omega)]
    have hlt : c < yn Y 29 := by omega
    rw [wX14_nightNow_172]
    refine s_rc P.1.1 I.1 rfl rfl (v_hasNext P.1.1 (V.l24 (by omega)) I (by omega) (fun _ => br_f (by decide) ?_) (fun z => absurd z (by omega)))
    refine v_next P.1.1 (V.l24 (by omega)) I hx (fun M1 H1 => s_cast H1 hlt rfl rfl ?_)
    have ih' : ∀ a : Int32, wX14_nightNow_172 κ (d + 1) b a (some (yA Y 32 i)) M1 := fun a => ih (c + 1) a _ M1 (vP_nx P H1) I.nx (by omega)
    exact s_gI H1 hlt rfl rfl rfl (br_c (fun _ => ih' _) (fun _ => ih' _))
theorem v_nn224 {Y0 : mY} {S0 : mS} {i : Nat}  {κ : Int32 → mM → Prop} (h : ∀ x S M, vP g Y0 S0 Y S M → κ x M) : ∀ (d c : Nat) (a : Int32) (S : mS) (M : mM), vP g Y0 S0 Y S M → vIt Y S i 2 c → c + d = yn Y 29 → wX14_nightNow_224 κ (d + 1)  a (some (yA Y 32 i)) M := by
  intro d
  induction d with
  | zero =>
    intro c a S M P I hc
    have V := P.1.2.1
    have hl : (sL S 24 2).length = yn Y 29 := by rw [V.2.2.1.2.2.1, List.length_range]
    rw [wX14_nightNow_224]
    exact s_rc P.1.1 I.1 rfl rfl (v_hasNext P.1.1 (V.l24 (by omega)) I (by omega) (fun z => absurd z (by omega)) (fun _ => br_t rfl (h _ S M P)))
  | succ d ih =>
    intro c a S M P I hc
    have V := P.1.2.1
    have hl : (sL S 24 2).length = yn Y 29 := by rw [V.2.2.1.2.2.1, List.length_range]
    have hx : (sL S 24 2)[c]? = some c := by rw [V.2.2.1.2.2.1, List.getElem?_range (by omega)]
    have hlt : c < yn Y 29 := by omega
    rw [wX14_nightNow_224]
    refine s_rc P.1.1 I.1 rfl rfl (v_hasNext P.1.1 (V.l24 (by omega)) I (by omega) (fun _ => br_f (by decide) ?_) (fun z => absurd z (by omega)))
    refine v_next P.1.1 (V.l24 (by omega)) I hx (fun M1 H1 => s_cast H1 hlt rfl rfl ?_)
    have ih' : ∀ a : Int32, wX14_nightNow_224 κ (d + 1)  a (some (yA Y 32 i)) M1 := fun a => ih (c + 1) a _ M1 (vP_nx P H1) I.nx (by omega)
    exact s_gI H1 hlt rfl rfl rfl (br_c (fun _ => ih' _) (fun _ => ih' _))
theorem v_nn300 (H : mR g Y S M) (V : mVs Y S) {κ : Int32 → mM → Prop} (h : ∀ x, κ x M) : ∀ (d j : Nat) (a : Int32), j + d = 6 → wX14_nightNow_300 κ (d + 1) a (some (yA Y 21 0)) (nI 6) (nI j) M := by
  intro d
  induction d with
  | zero =>
    intro j a hj
    rw [wX14_nightNow_300]
    exact br_t (nI_le (by omega) (by omega)) (h _)
  | succ d ih =>
    intro j a hj
    have hl6 : j < 6 := by omega
    rw [wX14_nightNow_300]
    refine br_f (nI_ge hl6 (by omega)) (s_ldR H V.l21 rfl (by decide) rfl (by rw [V.2.2.2.2.1]; exact hl6) (by rw [V.2.2.2.2.1]; omega) ?_)
    rw [V.2.2.2.2.2.1 j hl6]
    exact s_gI H (V.l22 hl6) rfl rfl rfl (by rw [nI_1]; exact ih (j + 1) _ (by omega))
theorem v_nn341 (H : mR g Y S M) (V : mVs Y S) {κ : Int32 → mM → Prop} (h : ∀ x, κ x M) : ∀ (d j : Nat) (a : Int32), j + d = 6 → wX14_nightNow_341 κ (d + 1) a (some (yA Y 21 0)) (nI 6) (nI j) M := by
  intro d
  induction d with
  | zero =>
    intro j a hj
    rw [wX14_nightNow_341]
    exact br_t (nI_le (by omega) (by omega)) (h _)
  | succ d ih =>
    intro j a hj
    have hl6 : j < 6 := by omega
    rw [wX14_nightNow_341]
    refine br_f (nI_ge hl6 (by omega)) (s_ldR H V.l21 rfl (by decide) rfl (by rw [V.2.2.2.2.1]; exact hl6) (by rw [V.2.2.2.2.1]; omega) ?_)
    rw [V.2.2.2.2.2.1 j hl6]
    exact s_gI H (V.l22 hl6) rfl rfl rfl (by rw [nI_1]; exact ih (j + 1) _ (by omega))
theorem v_nightNow {Y0 : mY} {S0 : mS} (P : vP g Y0 S0 Y S M) {b : Int32} {κ : Int32 → mM → Prop} (h : ∀ x Y' S' M', vP g Y0 S0 Y' S' M' → (∀ k, k ≠ 32 → k ≠ 38 → yn Y' k = yn Y k) → (∀ k i, i < yn Y k → yA Y' k i = yA Y k i) → κ x M') : wX14_nightNow κ (some (yA Y 20 0)) b M := by
  have H := P.1.1
  have V := P.1.2.1
  have h0 : ∀ x, κ x M := fun x => h x Y S M P (fun _ _ _ => rfl) (fun _ _ _ => rfl)
  have i114 : m_gR M (some (yA Y 20 0)) 19 8 fun x16 => m_rc M x16 4 fun b19 => wJx4a65c_iterator_32c93 (fun x17 M18 => ∃ u : Nat, wX14_nightNow_114 κ u 0 x17 M18) (some b19) M := s_gR6 H V.x0 rfl rfl rfl (s_rcL H rfl (V.l24 (by omega)) (v_iter (by omega) P (fun Y1 S1 M1 i P1 a I => ⟨yn Y1 28 + 1, v_nn114 (fun x S M P => h x Y1 S M P (fun k z _ => a.2.2.1 k z) a.1) (yn Y1 28) 0 0 S1 M1 P1 I (by omega)⟩)))
  have i172 : m_gR M (some (yA Y 20 0)) 19 9 fun x16 => m_rc M x16 4 fun b19 => wJx4a65c_iterator_32c93 (fun x17 M18 => ∃ u : Nat, wX14_nightNow_172 κ u b 0 x17 M18) (some b19) M := s_gR6 H V.x0 rfl rfl rfl (s_rcL H rfl (V.l24 (by omega)) (v_iter (by omega) P (fun Y1 S1 M1 i P1 a I => ⟨yn Y1 29 + 1, v_nn172 (fun x S M P => h x Y1 S M P (fun k z _ => a.2.2.1 k z) a.1) (yn Y1 29) 0 0 S1 M1 P1 I (by omega)⟩)))
  have i224 : m_gR M (some (yA Y 20 0)) 19 9 fun x16 => m_rc M x16 4 fun b19 => wJx4a65c_iterator_32c93 (fun x17 M18 => ∃ u : Nat, wX14_nightNow_224 κ u 0 x17 M18) (some b19) M := s_gR6 H V.x0 rfl rfl rfl (s_rcL H rfl (V.l24 (by omega)) (v_iter (by omega) P (fun Y1 S1 M1 i P1 a I => ⟨yn Y1 29 + 1, v_nn224 (fun x S M P => h x Y1 S M P (fun k z _ => a.2.2.1 k z) a.1) (yn Y1 29) 0 0 S1 M1 P1 I (by omega)⟩)))
  exact br_c (fun _ => s_gI H V.x0 rfl rfl rfl (h0 _)) (fun q0 => br_c (fun _ => s_gI H V.x0 rfl rfl rfl (h0 _)) (fun q1 => br_c (fun _ => s_gR6 H V.x0 rfl rfl rfl (s_rcL H rfl (V.l24 (by omega)) (v_szG H V (h0 _)))) (fun q2 => br_c (fun _ => s_gR6 H V.x0 rfl rfl rfl (s_rcL H rfl (V.l24 (by omega)) (v_szS H V (h0 _)))) (fun q3 => br_c (fun _ => i114) (fun q4 => br_c (fun _ => s_gR6 H V.x0 rfl rfl rfl (s_rcL H rfl (V.l24 (by omega)) (v_szP H V (h0 _)))) (fun q5 => br_c (fun _ => i172) (fun q6 => br_c (fun _ => i172) (fun q7 => br_c (fun _ => i172) (fun q8 => br_c (fun _ => i172) (fun q9 => br_c (fun _ => i172) (fun q10 => br_c (fun _ => i224) (fun q11 => br_c (fun _ => s_gR6 H V.x0 rfl rfl rfl (s_rcL H rfl (V.l24 (by omega)) (v_szH H V (h0 _)))) (fun q12 => br_c (fun _ => s_gI H V.x0 rfl rfl rfl (h0 _)) (fun q13 => br_c (fun _ => s_gI H V.x0 rfl rfl rfl (h0 _)) (fun q14 => br_c (fun _ => s_gR6 H V.x0 rfl rfl rfl (s_lenR H V.l21 (by decide) rfl (by rw [V.2.2.2.2.1]; exact ⟨7, v_nn300 H V h0 6 0 0 (by omega)⟩))) (fun q15 => s_gR6 H V.x0 rfl rfl rfl (s_lenR H V.l21 (by decide) rfl (by rw [V.2.2.2.2.1]; exact ⟨7, v_nn341 H V h0 6 0 0 (by omega)⟩))))))))))))))))))
/-- declared ones that come in -/
theorem vP_fate {Y0 : mY} {S0 : mS} (P : vP g Y0 S0 Y S M) {p : Nat} {v : Int32} {M' : mM} (H' : mR g Y (uI S 29 p 3 v) M') (hv : v ≠ 3) : vP g Y0 S0 Y (uI S 29 p 3 v) M' := by
  obtain ⟨⟨H, V, VV, VQ, VT⟩, F, R⟩ := P
  exact ⟨⟨H', vS_uI V (by omega), vV_fate VV hv, vQ_uI VQ (by omega), vT_uI VT (by omega)⟩, F.tr (mFm.uI (by omega)), vQ.c R (fun k' i' f' q => (sI_uI (by have := qV_d q; omega)))⟩
theorem vP_I {Y0 : mY} {S0 : mS} (P : vP g Y0 S0 Y S M) {k i f : Nat} {v : Int32} {M' : mM} (H' : mR g Y (uI S k i f v) M') (hv : vOK Y k f v) (hk : 20 ≤ k ∧ k ≠ 31 ∧ ¬ (35 ≤ k ∧ k ≤ 37) ∧ k ≠ 30 ∧ ¬ (k = 22 ∧ (f = 0 ∨ f = 2)) ∧ ¬ (k = 23 ∧ f = 4) ∧ ¬ (k = 20 ∧ (f = 1 ∨ f = 2)) ∧ ¬ (k = 28 ∧ (f = 3 ∨ f = 4)) ∧ ¬ (k = 29 ∧ (f = 3 ∨ f = 5))) : vP g Y0 S0 Y (uI S k i f v) M' := by
  obtain ⟨⟨H, V, VV, VQ, VT⟩, F, R⟩ := P
  exact ⟨⟨H', vS_uI V (by omega), vV_uI VV hv (by omega), vQ_uI VQ (by omega), vT_uI VT (by omega)⟩, F.tr (mFm.uI (by omega)), vQ.c R (fun k' i' f' q => (sI_uI (by have := qV_d q; omega)))⟩
/-- nothing but parts and what came in has changed -/
def vCi (S' S : mS) : Prop := ∀ k i, k ≠ 29 → k ≠ 22 → mEq S' S k i
theorem v_ci34 {Y0 : mY} {S0 : mS} {s l : Nat} {sl fl : Int32} (hs : s < yn Y 28) (hl : l < yn Y 22) {κ : Int32 → mM → Prop} (h : ∀ x S' M', vP g Y0 S0 Y S' M' → κ x M') : ∀ (d j : Nat) (b c : Int32) (S : mS) (M : mM), vP g Y0 S0 Y S M → j + d = yn Y 29 → wX14_comeIn_34 κ (d + 1) (some (yA Y 20 0)) sl fl (some (yA Y 28 s)) (some (yA Y 22 l)) b c (nI j) M := by
  intro d
  induction d with
  | zero =>
    intro j b c S M P hj
    rw [wX14_comeIn_34]
    exact v_hdP P.1.1 P.1.2.1 (by omega) (fun _ => br_c (fun _ => h _ S M P) (fun _ => s_pI P.1.1 hl rfl rfl rfl (fun M1 H1 => h _ _ M1 (vP_I P H1 trivial (by omega))))) (fun hlt => absurd hlt (by omega))
  | succ d ih =>
    intro j b c S M P hj
    have hp : j < yn Y 29 := by omega
    have i193 : ∀ b c S M, vP g Y0 S0 Y S M → wX14_comeIn_193 κ (wX14_comeIn_34 κ (d + 1)) (some (yA Y 20 0)) sl fl (some (yA Y 28 s)) (some (yA Y 22 l)) b c (nI j) M := fun b c S M P => by unfold wX14_comeIn_193; rw [nI_1]; exact ih (j + 1) b c S M P (by omega)
    have i190 : ∀ b c v S M, vP g Y0 S0 Y S M → v ≠ 3 → wX14_comeIn_190 κ (wX14_comeIn_34 κ (d + 1)) (some (yA Y 20 0)) sl fl (some (yA Y 28 s)) (some (yA Y 22 l)) b c (nI j) v (some (yA Y 29 j)) M := fun b c v S M P hv => s_pI P.1.1 hp rfl rfl rfl (fun M1 H1 => i193 b c _ M1 (vP_fate P H1 hv))
    have i174 : ∀ b c x S M, vP g Y0 S0 Y S M → wX14_comeIn_174 κ (wX14_comeIn_34 κ (d + 1)) (some (yA Y 20 0)) sl fl (some (yA Y 28 s)) (some (yA Y 22 l)) b c (nI j) (some (yA Y 29 j)) x M := fun b c x S M P => br_c (fun _ => i193 _ _ S M P) (fun _ => br_c (fun _ => i190 _ _ _ S M P (by decide)) (fun _ => i190 _ _ _ S M P (by decide)))
    have i149 : ∀ b x s0 s1 S M, vP g Y0 S0 Y S M → wX14_comeIn_149 κ (wX14_comeIn_34 κ (d + 1)) (some (yA Y 20 0)) sl fl (some (yA Y 28 s)) (some (yA Y 22 l)) b (nI j) (some (yA Y 29 j)) x s0 s1 M := fun b x s0 s1 S M P => by
      refine br_c (fun _ => i174 _ _ _ S M P) (fun _ => br_c (fun _ => i174 _ _ _ S M P) (fun _ => ?_))
      obtain ⟨la, hla, ela⟩ := P.1.2.2.1.1 28 s 0 hs
      refine s_gI P.1.1 hs rfl rfl rfl ?_
      rw [ela, show (100 : Int32) = nI 100 from rfl, nI_add]
      exact s_pI P.1.1 hp rfl rfl rfl (fun M1 H1 => i174 _ _ _ _ M1 (vP_I P H1 ⟨100 + la, rfl, Or.inr (Or.inl ⟨by omega, by omega⟩)⟩ (by omega)))
    have i130 : ∀ c x s0 s1 S M, vP g Y0 S0 Y S M → wX14_comeIn_130 κ (wX14_comeIn_34 κ (d + 1)) (some (yA Y 20 0)) sl fl (some (yA Y 28 s)) (some (yA Y 22 l)) c (nI j) (some (yA Y 29 j)) x s0 s1 M := fun c x s0 s1 S M P => br_c (fun _ => s_gI P.1.1 hp rfl rfl rfl (i149 _ _ _ _ S M P)) (fun _ => i149 _ _ _ _ S M P)
    have i129 : ∀ c x s0 S M, vP g Y0 S0 Y S M → wX14_comeIn_129 κ (wX14_comeIn_34 κ (d + 1)) (some (yA Y 20 0)) sl fl (some (yA Y 28 s)) (some (yA Y 22 l)) c (nI j) (some (yA Y 29 j)) x s0 M := fun c x s0 S M P => i130 c x 0 s0 S M P
    have i108 : ∀ b c x S M, vP g Y0 S0 Y S M → wX14_comeIn_108 κ (wX14_comeIn_34 κ (d + 1)) (some (yA Y 20 0)) sl fl (some (yA Y 28 s)) (some (yA Y 22 l)) b c (nI j) (some (yA Y 29 j)) x M := fun b c x S M P => s_rc P.1.1 hp rfl rfl (v_isNm P.1.1 hp (br_f (by decide) (br_c (fun _ => i130 _ _ _ _ S M P) (fun _ => i129 _ _ _ S M P))) (br_t rfl (i129 _ _ _ S M P)))
    have i107 : ∀ b c S M, vP g Y0 S0 Y S M → wX14_comeIn_107 κ (wX14_comeIn_34 κ (d + 1)) (some (yA Y 20 0)) sl fl (some (yA Y 28 s)) (some (yA Y 22 l)) b c (nI j) (some (yA Y 29 j)) M := fun b c S M P => i108 b c 0 S M P
    have H := P.1.1
    rw [wX14_comeIn_34]
    refine v_hdP H P.1.2.1 (by omega) (fun z => absurd z (by omega)) (fun hlt => ?_)
    refine s_gI H hlt rfl rfl rfl (br_c (fun _ => s_gI H hs rfl rfl rfl (br_c (fun _ => i193 _ _ S M P) (fun _ => ?_))) (fun _ => i193 _ _ S M P))
    exact s_rc H hlt rfl rfl (v_isNm H hlt (br_f (by decide) (s_gI H hl rfl rfl rfl (br_c (fun _ => i107 _ _ S M P) (fun _ => i108 _ _ _ S M P)))) (br_t rfl (i107 _ _ S M P)))
theorem v_comeIn {Y0 : mY} {S0 : mS} (P : vP g Y0 S0 Y S M) {s l : Nat} (hs : s < yn Y 28) (hl : l < 6) {fl : Int32} {κ : Int32 → mM → Prop} (h : ∀ x S' M', vP g Y0 S0 Y S' M' → κ x M') : wX14_comeIn κ (some (yA Y 20 0)) (nI s) (nI l) fl M := by
  have H := P.1.1
  have V := P.1.2.1
  exact v_S H V hs (v_Ld H V hl (s_gI H (V.l22 hl) rfl rfl rfl ⟨yn Y 29 + 1, v_ci34 hs (V.l22 hl) h (yn Y 29) 0 _ _ S M P (by omega)⟩))
theorem v_wouldPayNow {Y0 : mY} {S0 : mS} (P : vP g Y0 S0 Y S M) {t : Nat} (ht : t < yn Y 23) {κ : Int32 → mM → Prop} (h : ∀ x S' M', vP g Y0 S0 Y S' M' → κ x M') : wX14_wouldPayNow κ (some (yA Y 20 0)) (nI t) M := by
  have H := P.1.1
  have V := P.1.2.1
  have VV := P.1.2.2.1
  have VQ := P.1.2.2.2.1
  refine v_G H V ht (s_gR7 H ht rfl rfl rfl (s_rcL H rfl (V.l25 ht) (s_isEmpty H rfl (V.l25 ht) (fun _ => br_f (by decide) (h _ S M P)) (fun hne => br_t rfl ?_))))
  refine s_gR7 H ht rfl rfl rfl (s_rcL H rfl (V.l25 ht) (v_first H V ht hne (fun s hs128 hs0 => v_int H V hs128 ?_)))
  have hs : s < yn Y 28 := ((VQ.1 t ht).2 s (List.mem_of_getElem? hs0)).1
  refine s_rc H V.x0 rfl rfl (v_good H V VV hs ht (br_f (by decide) ?_) (br_t rfl (h _ S M P)))
  refine s_gR7 H ht rfl rfl rfl (s_rcL H rfl (V.l25 ht) (v_first H V ht hne (fun s hs128 hs0 => v_int H V hs128 ?_)))
  have hs : s < yn Y 28 := ((VQ.1 t ht).2 s (List.mem_of_getElem? hs0)).1
  refine v_S H V hs (s_gI H hs rfl rfl rfl (s_rc H ht rfl rfl (v_beyond H VV ht (fun l hl => s_rc H V.x0 rfl rfl (v_comeIn P hs hl (fun x S1 M1 P1 => ?_))))))
  exact v_Ld P1.1.1 P1.1.2.1 hl (s_rc P1.1.1 P1.1.2.1.x0 rfl rfl (v_duty P1.1.1 (P1.1.2.1.l22 hl) (fun x => h x S1 M1 P1)))
/-- a new row of ints -/
theorem v_row {Y0 : mY} {S0 : mS} (P : vP g Y0 S0 Y S M) {n B : Nat} (hn : n < 2 ^ 31) (hB : n ≤ B) {κ : Nat → mM → Prop} (h : ∀ Y1 S1 M1 i, vP g Y0 S0 Y1 S1 M1 → mX1 Y S 38 Y1 S1 → i < yn Y1 38 → sC S1 38 i = n → sE S1 38 i = (fun _ => 0) → κ (yA Y1 38 i) M1) : m_newI M 0 (nI n) B κ := by
  have H := P.1.1
  refine r_newI hn hB (fun q M1 hq h1 o1 => ?_)
  have hF := H.fr hq
  have H1 : mR g Y S M1 := H.off hF o1
  have eC : sC (uO S 38 (yn Y 38) (fun _ => 0) (fun _ => 0) (fun _ => none) (fun _ => 0) [] 0 n (fun _ => 0) (fun _ => none)) 38 (yn Y 38) = n := if_pos ⟨rfl, rfl⟩
  have eE : sE (uO S 38 (yn Y 38) (fun _ => 0) (fun _ => 0) (fun _ => none) (fun _ => 0) [] 0 n (fun _ => 0) (fun _ => none)) 38 (yn Y 38) = (fun _ => 0) := if_pos ⟨rfl, rfl⟩
  have H2 := H1.alloc (k := 38) hF (uO S 38 (yn Y 38) (fun _ => 0) (fun _ => 0) (fun _ => none) (fun _ => 0) [] 0 n (fun _ => 0) (fun _ => none)) (fun k' i' hi => mEq.uO (fun z => by obtain ⟨rfl, rfl⟩ := z; exact Nat.lt_irrefl _ hi)) (by
    rw [h1]
    show _ = some (Sum.inl (0, sC _ 38 (yn Y 38), Sum.inl (sE _ 38 (yn Y 38))))
    rw [eC, eE]) (fun z => absurd z (by decide)) (fun f t ht => by cases ht) (by decide) (by decide)
  have a : mX1 Y S 38 (aY Y 38 q) (uO S 38 (yn Y 38) (fun _ => 0) (fun _ => 0) (fun _ => none) (fun _ => 0) [] 0 n (fun _ => 0) (fun _ => none)) := ⟨fun k' i' hi => aY_A hi, aY_n, fun k' z => aY_nn z, fun k' i' z => mEq.uO z⟩
  have hq' : yA (aY Y 38 q) 38 (yn Y 38) = q := aY_q
  generalize aY Y 38 q = Y1 at H2 a hq'
  rw [← hq']
  exact h Y1 _ M1 _ (vP_X1 P (Or.inr rfl) H2 a) a (by rw [a.2.1]; omega) eC eE
end VIT
