/-! THE SIMULATION, 11: who leaves a queue, of both -/
theorem idx_nd : ∀ (l : List Nat) (j s : Nat), l.Nodup → l[j]? = some s → l.idxOf s = j := by
  intro l
  induction l with
  | nil => intro j s _ h; simp at h
  | cons a l ih =>
    intro j s hn h
    cases j with
    | zero =>
      have e : a = s := by simpa using h
      rw [e, List.idxOf_cons_self]
    | succ j =>
      have h' : l[j]? = some s := by simpa using h
      have hne : a ≠ s := fun w => (List.nodup_cons.mp hn).1 (by rw [w]; exact List.mem_of_getElem? h')
      have e := ih j s (List.nodup_cons.mp hn).2 h'
      rw [List.idxOf_cons, beq_false_of_ne hne, e]
      rfl
/-- the parts of one who wakes are gone -/
def nGo (s : Nat) : Nat → mN → mN
  | 0, N => N
  | j + 1, N => if nv (nGo s j N) 29 j 4 = nI s then nU (nGo s j N) 29 j 4 999 else nGo s j N
def nOut1 (N : mN) (s : Nat) (v : Int32) : mN := nU (nU (nQ N (tN (nv N 28 s 4)) ((nq N (tN (nv N 28 s 4))).eraseIdx ((nq N (tN (nv N 28 s 4))).idxOf s))) 28 s 3 v) 28 s 4 (-1)
def nOut (N : mN) (s : Nat) (v : Int32) : mN := if v = 2 then nGo s (nn N 29) (nOut1 N s v) else nOut1 N s v
def fLeave (N : mN) (a : Int32) : mT :=
  if ¬ (¬ a < 0 ∧ a < nI (nn N 28)) then (1, 0, N)
  else if ¬ nv N 28 (tN a) 3 = 1 then (2, 0, N)
  else (0, nI ((nq N (tN (nv N 28 (tN a) 4))).idxOf (tN a)), nOut N (tN a) 0)
section SIM11
variable {g : Nat → Nat} {Y : mY} {S : mS} {M : mM} {N : mN}
theorem C_leave (H : mR g Y S M) (W : mWs Y S) (Q : mWq Y S) (R : RC 99 N Y S) (RR : RV N Y S) (VQ : mVq Y S) {a : Int32} {κ : Int32 → mM → Prop} {ξ : String → mM → Prop} (hx1 : (fLeave N a).1 = 1 → ξ "java/lang/IndexOutOfBoundsException" M) (hx2 : (fLeave N a).1 = 2 → ξ "java/lang/IllegalStateException" M)
    (h : ∀ v N' Y' S' M', fLeave N a = (0, v, N') → cX g N' Y S Y' S' M' → κ v M') : wX8_leave κ ξ (some (yA Y 0 0)) a M := by
  have hb := W.2.1
  unfold fLeave at hx1 hx2 h
  rw [← R.1.2.1] at hx1 hx2 h
  refine s_rc H W.x0 rfl rfl (c_sleeperN H W (fun s hs es => ?_) (fun z => hx1 (by rw [if_pos z])))
  have hv : ¬ a < 0 ∧ a < nI (yn Y 4) := by rw [es]; exact m_in hs (by omega)
  have t1 : tN a = s := by rw [es]; exact tN_nI (by omega)
  rw [if_neg (fun w => w hv), t1] at hx2 h
  have h5 := R.2.2.2.2.1 s hs (by omega)
  have i3 : sI S 4 s 4 = nv N 28 s 3 := R.2.1 4 s 4 28 3 rfl hs (by omega)
  have hs28 : s < yn Y 28 := by rw [RR.1.2.1, ← R.1.2.1]; exact hs
  refine c_placeOf H W hs (fun t j hxt ht hj => ?_) (fun hno => ?_)
  · have hl := H.len (k := 13) (i := t) rfl (W.l13 ht)
    have hjl := (List.getElem?_eq_some_iff.mp hj).1
    have e3 : nv N 28 s 3 = 1 := i3.symm.trans (Q.2 s t hs hxt).1
    have e4 : nv N 28 s 4 = nI t := by rw [h5, hxt]; rfl
    have eq : sL S 13 t = nq N t := (R.2.2.1 t ht).2.2
    have ej : (nq N t).idxOf s = j := idx_nd _ _ _ (by rw [← eq]; exact (Q.1 t ht).1) (by rw [← eq]; exact hj)
    rw [if_neg (fun w => w e3)] at h
    have hno : nOut N s 0 = nU (nU (nQ N t ((nq N t).eraseIdx j)) 28 s 3 0) 28 s 4 (-1) := by
      unfold nOut nOut1
      rw [if_neg (by decide), e4, tN_nI (by omega), ej]
    rw [hno, e4, tN_nI (by omega), ej] at h
    refine s_gR3 H hs rfl rfl rfl ?_
    rw [hxt]
    refine br_f (fun z => by cases z) (br_f (fun z => ?_) ?_)
    · have := nI_pos (n := j) (by omega)
      rw [z] at this
      exact this (by decide)
    · refine s_gR3 H hs rfl rfl rfl ?_
      rw [hxt]
      refine s_gR7 H ht rfl rfl rfl (s_rcL H rfl (W.l13 ht) (s_remove H rfl (W.l13 ht) hj (fun M1 md e H1 => s_rc H1 hs rfl rfl (c_stepOut H1 hs (fun M2 H2 => ?_)))))
      have R1 : RC 99 (nQ N t ((nq N t).eraseIdx j)) Y (uL S 13 t md e ((sL S 13 t).eraseIdx j)) := by rw [← eq]; exact R.line
      have R2 := (R1.exc (by decide) (by omega) (s := s) (by rw [show sX (uL S 13 t md e ((sL S 13 t).eraseIdx j)) 4 s 5 = sX S 4 s 5 from rfl, hxt]; exact fun w => by cases w) (v := 0) (w := -1)).out (by omega) hs (v := 0) (by rw [nv_U (by omega), nv_U_s]) nv_U_s (y := 99) (by omega)
      exact h _ _ Y _ M2 rfl ⟨H2, so_W (W.uL rfl), (Q.rm ht hj).out, (mFc.uL (by omega)).tr so_F, R2⟩
  · have hnone : sX S 4 s 5 = none := by
      cases hq : sX S 4 s 5 with
      | none => rfl
      | some t => exact absurd (Q.2 s t hs hq).2 (hno t hq)
    have e3 : ¬ nv N 28 s 3 = 1 := fun w => by
      obtain ⟨t, ht, et, -⟩ := VQ.2 s hs28 ((RR.2.1 28 s 3 rfl hs28).trans w)
      rw [RR.2.1 28 s 4 rfl hs28, h5, hnone] at et
      have := nI_pos (n := t) (by have := RR.1.1; have := R.1.1; omega)
      rw [← et] at this
      exact this (by decide)
    have hh := hx2 (by rw [if_pos e3])
    exact s_gR3 H hs rfl rfl rfl (br_c (fun _ => hh) (fun _ => br_t rfl hh))
/-- the reference steps out -/
theorem D_so56 {Y0 : mY} {S0 : mS} {s : Nat} (hs : s < 1000) {c : Int32} {N1 : mN} {κ : mM → Prop} (h : ∀ S' M', vN g (nGo s (yn Y 29) N1) Y0 S0 Y S' M' → sI S' 20 0 0 = c → κ M') : ∀ (d j : Nat) (S : mS) (M : mM), vN g (nGo s j N1) Y0 S0 Y S M → sI S 20 0 0 = c → j + d = yn Y 29 → wX14_stepOut_56 κ (d + 1) (some (yA Y 20 0)) (nI s) 2 (nI j) M := by
  intro d
  induction d with
  | zero =>
    intro j S M P hc hj
    rw [wX14_stepOut_56]
    have H := P.1.1
    have V := P.1.2.1
    have hb := V.2.1
    have ej : j = yn Y 29 := by omega
    subst ej
    exact s_gR6 H V.x0 rfl rfl rfl (s_rcL H rfl (V.l24 (by omega)) (v_szP H V (br_t (nI_le (by omega) (by omega)) (h S M P hc))))
  | succ d ih =>
    intro j S M P hc hj
    rw [wX14_stepOut_56]
    have H := P.1.1
    have V := P.1.2.1
    have hb := V.2.1
    have hlt : j < yn Y 29 := by omega
    have i110 : ∀ S M, vN g (nGo s (j + 1) N1) Y0 S0 Y S M → sI S 20 0 0 = c → wX14_stepOut_110 κ (wX14_stepOut_56 κ (d + 1)) (some (yA Y 20 0)) (nI s) 2 (nI j) M := fun S M P hc => by
      show wX14_stepOut_56 κ (d + 1) (some (yA Y 20 0)) (nI s) 2 (nI j + 1) M
      rw [nI_1]
      exact ih (j + 1) S M P hc (by omega)
    refine s_gR6 H V.x0 rfl rfl rfl (s_rcL H rfl (V.l24 (by omega)) (v_szP H V (br_f (nI_ge hlt (by omega)) (br_t rfl ?_))))
    refine v_Pt H V hlt (s_gI H hlt rfl rfl rfl ?_)
    rw [P.2.2.2.1 29 j 4 rfl hlt]
    refine br_c (fun z => v_Pt H V hlt (s_pI H hlt rfl rfl rfl (fun M1 H1 => i110 (uI S 29 j 4 999) M1 ?_ ((sI_uI (by omega)).trans hc)))) (fun z => i110 S M ?_ hc)
    · have e : nGo s (j + 1) N1 = nU (nGo s j N1) 29 j 4 999 := if_pos z
      rw [e]
      exact n_I P H1 ⟨999, rfl, Or.inr (Or.inr rfl)⟩ (by omega)
    · have e : nGo s (j + 1) N1 = nGo s j N1 := if_neg z
      rw [e]
      exact P
theorem D_stepOut {Y0 : mY} {S0 : mS} (P : vN g N Y0 S0 Y S M) {s : Nat} (hs : s < yn Y 28) (h1 : nv N 28 s 3 = 1) {v : Int32} (hv : v = 0 ∨ v = 2) {κ : mM → Prop} (h : ∀ S' M', vN g (nOut N s v) Y0 S0 Y S' M' → sI S' 20 0 0 = sI S 20 0 0 → κ M') : wX14_stepOut κ (some (yA Y 20 0)) (nI s) v M := by
  obtain ⟨⟨H, V, VV, VQ, VT⟩, F, R⟩ := P
  have hb := V.2.1
  have h1' : sI S 28 s 3 = 1 := (R.2.1 28 s 3 rfl hs).trans h1
  obtain ⟨t, ht, et, hm⟩ := VQ.2 s hs h1'
  have et' : nv N 28 s 4 = nI t := (R.2.1 28 s 4 rfl hs).symm.trans et
  have eq : sL S 25 t = nq N t := R.2.2.1 t ht
  refine v_S H V hs (s_gR6 H V.x0 rfl rfl rfl (s_gI H hs rfl rfl rfl ?_))
  rw [et]
  refine s_rcL H rfl (V.l24 (by omega)) (v_gtG H V ht (s_cast H ht rfl rfl (s_gR7 H ht rfl rfl rfl (s_rc H ht rfl rfl (v_place H V ht (by omega) (fun j hj => ?_) (fun hn => absurd hm hn))))))
  refine s_rcL H rfl (V.l25 ht) (s_remove H rfl (V.l25 ht) hj (fun M1 md e H1 => s_pI H1 hs rfl rfl rfl (fun M2 H2 => s_pI H2 hs rfl rfl rfl (fun M3 H3 => ?_))))
  have ej : (nq N t).idxOf s = j := idx_nd _ _ _ (by rw [← eq]; exact (VQ.1 t ht).1) (by rw [← eq]; exact hj)
  have e1 : nOut1 N s v = nU (nU (nQ N t ((nq N t).eraseIdx j)) 28 s 3 v) 28 s 4 (-1) := by
    unfold nOut1
    rw [et', tN_nI (by omega), ej]
  have P3 : vN g (nOut1 N s v) Y0 S0 Y (uI (uI (uL S 25 t md e ((sL S 25 t).eraseIdx j)) 28 s 3 v) 28 s 4 (-1)) M3 := by
    rw [e1, ← eq]
    exact ⟨⟨H3, vS_uI (vS_uI (vS_uL V rfl) (by omega)) (by omega), vV_uI (k := 28) (f := 4) (vV_uI (k := 28) (f := 3) (vV_uL VV (Or.inr rfl)) trivial (by omega)) (Or.inl rfl) (by omega), VQ.out (by omega) (by rcases hv with rfl | rfl <;> decide) ht hj, vT_uI (vT_uI (vT_uL VT (by omega)) (by omega)) (by omega)⟩, ((F.tr (mFm.uL (by omega))).tr (mFm.uI (by omega))).tr (mFm.uI (by omega)), R.line.pI.pI⟩
  have hc : sI (uI (uI (uL S 25 t md e ((sL S 25 t).eraseIdx j)) 28 s 3 v) 28 s 4 (-1)) 20 0 0 = sI S 20 0 0 := ((sI_uI (by omega)).trans (sI_uI (by omega))).trans (sI_uL (by omega))
  rcases hv with rfl | rfl
  · refine ⟨yn Y 29 + 1, ?_⟩
    have e0 : nOut N s 0 = nOut1 N s 0 := if_neg (by decide)
    rw [e0] at h
    rw [wX14_stepOut_56]
    have H4 := P3.1.1
    have V4 := P3.1.2.1
    refine s_gR6 H4 V4.x0 rfl rfl rfl (s_rcL H4 rfl (V4.l24 (by omega)) (v_szP H4 V4 (br_c (fun _ => h _ M3 P3 hc) (fun _ => br_f (by decide) (h _ M3 P3 hc)))))
  · have e0 : nOut N s 2 = nGo s (yn Y 29) (nOut1 N s 2) := by rw [R.1.2.2]; exact if_pos rfl
    rw [e0] at h
    exact ⟨yn Y 29 + 1, D_so56 (by omega) h (yn Y 29) 0 _ M3 P3 hc (by omega)⟩
theorem D_leave {Y0 : mY} {S0 : mS} (P : vN g N Y0 S0 Y S M) {a : Int32} {κ : Int32 → mM → Prop} (h : ∀ k v N' Y' S' M', fLeave N a = (k, v, N') → vN g N' Y0 S0 Y' S' M' → sI S' 20 0 0 = k → κ v M') : wX14_leave κ (some (yA Y 20 0)) a M := by
  unfold fLeave at h
  rw [← P.2.2.1.2.1] at h
  refine n_th P (fun S1 M1 P1 e1 => ?_)
  have H := P1.1.1
  have V := P1.1.2.1
  have hbd := V.2.1
  have RR := P1.2.2.2.1
  refine s_rc H V.x0 rfl rfl (v_isSleeper H V (fun s hs es => br_f (by decide) ?_) (fun z => br_t rfl (n_rf P1 (fun S2 M2 P2 e2 => h 1 0 N Y S2 M2 (by rw [if_pos z]) P2 e2))))
  have hv : ¬ a < 0 ∧ a < nI (yn Y 28) := by rw [es]; exact m_in hs (by omega)
  have t1 : tN a = s := by rw [es]; exact tN_nI (by omega)
  rw [if_neg (fun w => w hv), t1] at h
  subst es
  refine v_S H V hs (s_gI H hs rfl rfl rfl ?_)
  rw [RR 28 s 3 rfl hs]
  refine br_c (fun h1 => ?_) (fun q => n_rf P1 (fun S2 M2 P2 e2 => h 2 0 N Y S2 M2 (by rw [if_pos q]) P2 e2))
  rw [if_neg (fun w => w h1)] at h
  obtain ⟨t, ht, et, hm⟩ := P1.1.2.2.2.1.2 s hs ((RR 28 s 3 rfl hs).trans h1)
  have et' : nv N 28 s 4 = nI t := (RR 28 s 4 rfl hs).symm.trans et
  have eq : sL S1 25 t = nq N t := P1.2.2.2.2.1 t ht
  rw [et', tN_nI (by omega)] at h
  refine s_gR6 H V.x0 rfl rfl rfl (s_gI H hs rfl rfl rfl ?_)
  rw [et]
  refine s_rcL H rfl (V.l24 (by omega)) (v_gtG H V ht (s_cast H ht rfl rfl (s_rc H ht rfl rfl (v_place H V ht (by omega) (fun j hj => ?_) (fun hn => absurd hm hn)))))
  have ej : (nq N t).idxOf s = j := idx_nd _ _ _ (by rw [← eq]; exact (P1.1.2.2.2.1.1 t ht).1) (by rw [← eq]; exact hj)
  rw [ej] at h
  exact s_rc H V.x0 rfl rfl (D_stepOut P1 hs h1 (Or.inl rfl) (fun S2 M2 P2 e2 => h 0 _ _ Y S2 M2 rfl P2 (e2.trans e1)))
end SIM11
