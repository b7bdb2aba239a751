/-! THE SIMULATION, 7: appeals and songs of both -/
section SIM7
variable {g : Nat → Nat} {Y : mY} {S : mS} {M : mM} {N : mN} {x : Nat}
theorem oTo_some {o : Option Nat} {b : Nat} (e : oTo o = nI b) (ho : ∀ a, o = some a → a < 1000) (hb : b < 1000) : o = some b := by
  cases o with
  | none => exact absurd (show (-1 : Int32) = nI b from e) (fun w => by
      have := nI_pos (n := b) (by omega)
      rw [← w] at this
      exact this (by decide))
  | some a => exact congrArg some ((nI_eq (by have := ho a rfl; omega) (by omega)).mp e)
theorem C_appeal (H : mR g Y S M) (W : mWs Y S) (Q : mWq Y S) (R : RC 99 N Y S) (RR : RV N Y S) (VV : mVv Y S) (V : mVs Y S) {a : Int32} {κ : Int32 → mM → Prop} {ξ : String → mM → Prop} (h1 : (fAppeal N a).1 = 1 → ξ "java/lang/IndexOutOfBoundsException" M) (h2 : (fAppeal N a).1 = 2 → ξ "java/lang/IllegalStateException" M)
    (h : ∀ v N' Y' S' M', fAppeal N a = (0, v, N') → cX g N' Y S Y' S' M' → κ v M') : wX8_appeal κ ξ (some (yA Y 0 0)) a M := by
  have hb := W.2.1
  unfold fAppeal at h1 h2 h
  rw [← R.1.2.2] at h1 h2 h
  refine s_rc H W.x0 rfl rfl (c_partN H W (fun p hp ep => ?_) (fun z => h1 (by rw [if_pos z])))
  have hv : ¬ a < 0 ∧ a < nI (yn Y 5) := by rw [ep]; exact m_in hp (by omega)
  have t1 : tN a = p := by rw [ep]; exact tN_nI (by omega)
  rw [t1, if_neg (fun w => w hv)] at h2 h
  obtain ⟨r4, r5, r6⟩ := R.2.2.2.2.2.2.2.1 p hp
  have iF : sI S 5 p 4 = nv N 29 p 3 := R.2.1 5 p 4 29 3 rfl hp (by omega)
  have iW : sI S 5 p 2 = nv N 29 p 1 := R.2.1 5 p 2 29 1 rfl hp (by omega)
  have hp29 : p < yn Y 29 := by rw [RR.1.2.2, ← R.1.2.2]; exact hp
  refine s_gR3 H hp rfl rfl rfl (s_gR3 H hp rfl rfl rfl (s_gI H hp rfl rfl rfl ?_))
  rw [iF]
  refine br_c (fun f3 => ?_) (fun f3 => h2 (by rw [if_pos (fun w => f3 w.1)]))
  obtain ⟨b, hb28, eb⟩ := VV.2 p hp29 ((RR.2.1 29 p 3 rfl hp29).trans f3)
  have eb' : nv N 29 p 5 = nI b := (RR.2.1 29 p 5 rfl hp29).symm.trans eb
  have hb4 : b < yn Y 4 := by rw [R.1.2.1, ← RR.1.2.1]; exact hb28
  have h7 : sX S 5 p 7 = some b := oTo_some (r5.symm.trans eb') (fun a ha => by have := H.lX (k := 5) (f := 7) (kt := 4) hp rfl a ha; omega) (by omega)
  cases h6 : sX S 5 p 6 with
  | none =>
    have key : ¬ (nv N 29 p 3 = 3 ∧ ¬ nv N 29 p 4 < 100 ∧ nv N 29 p 4 < 106) := by
      intro w
      have w2 := w.2
      rw [h6] at r4
      cases h5 : sX S 5 p 5 with
      | none =>
        rw [h5] at r4
        rw [r4] at w2
        exact absurd w2.2 (by decide)
      | some s =>
        have hs := H.lX (k := 5) (f := 5) (kt := 4) hp rfl s h5
        rw [h5] at r4
        rw [r4] at w2
        exact w2.1 (nI_lt (a := s) (b := 100) (by omega) (by omega))
    exact br_t rfl (h2 (by rw [if_pos key]))
  | some l =>
    have hl := H.lX (k := 5) (f := 6) (kt := 2) hp rfl l h6
    have hl6 := W.l2' hl
    have h5 : sX S 5 p 5 = none := r6 (by rw [h6]; exact fun w => by cases w)
    have e4 : nv N 29 p 4 = nI (100 + l) := by rw [r4, h6]; rfl
    refine br_f (fun z => by cases z) ?_
    rw [h7]
    refine br_f (fun z => by cases z) ?_
    have ok : nv N 29 p 3 = 3 ∧ ¬ nv N 29 p 4 < 100 ∧ nv N 29 p 4 < 106 := ⟨f3, by rw [e4]; exact nI_nlt (a := 100 + l) (b := 100) (by omega) (by omega), by rw [e4]; exact nI_lt (a := 100 + l) (b := 106) (by omega) (by omega)⟩
    have iA : sI S 2 l 2 = nv N 22 l 1 := R.2.1 2 l 2 22 1 rfl hl (by omega)
    have iN : sI S 2 l 6 = nv N 22 l 5 := R.2.1 2 l 6 22 5 rfl hl (by omega)
    have iS : sI S 4 b 4 = nv N 28 b 3 := R.2.1 4 b 4 28 3 rfl hb4 (by omega)
    have L2 := H.lN (k := 4) (f := 2) (kt := 2) hb4 rfl
    have b2 := W.l2' L2
    have eL : nv N 28 b 0 = nI (sN S 4 b 2) := R.2.2.2.1 b hb4
    rw [if_neg (fun w => w ok), e4, tN_nI (by omega), show 100 + l - 100 = l by omega, eb', tN_nI (by omega)] at h
    have h0 : (¬ nv N 29 p 1 ≤ nv N 22 l 1 ∨ ¬ (nv N 28 b 0 = nI l ∧ nv N 28 b 3 = 0)) → κ 0 M := fun z => h 0 N Y S M (by rw [if_pos z]) ⟨H, W, Q, mFc.rf Y S, R⟩
    refine s_gI H hp rfl rfl rfl (s_gI H hl rfl rfl rfl ?_)
    rw [iW, iA]
    refine br_c (fun z => h0 (Or.inl (Int32.not_le.mpr z))) (fun z => s_gR2 H hb4 rfl rfl rfl (br_c (fun q => s_gI H hb4 rfl rfl rfl ?_) (fun q => h0 (Or.inr (fun w => q ((H.sinj hl L2).mpr ((nI_eq (by omega) (by omega)).mp (eL.symm.trans w.1))))))))
    rw [iS]
    refine br_c (fun q2 => ?_) (fun q2 => h0 (Or.inr (fun w => q2 w.2)))
    have q1 : nv N 28 b 0 = nI l := by rw [eL, (H.sinj hl L2).mp q]
    refine s_pX0 H hp rfl rfl rfl (fun M1 H1 => s_pX1 H1 hp rfl rfl rfl hb4 (fun M2 H2 => s_pI H2 hp rfl rfl rfl (fun M3 H3 => s_gI H3 hl rfl rfl rfl (s_gI H3 hp rfl rfl rfl (s_pI H3 hl rfl rfl rfl (fun M4 H4 => ?_))))))
    have g6 : sI (uI (uX (uX S 5 p 6 none) 5 p 5 (some b)) 5 p 4 2) 2 l 6 = nv N 22 l 5 := (sI_uI (by omega)).trans iN
    have g2 : sI (uI (uX (uX S 5 p 6 none) 5 p 5 (some b)) 5 p 4 2) 5 p 2 = nv N 29 p 1 := (sI_uI (by omega)).trans iW
    rw [g6, g2] at H4
    have R1 := R.st (o := none) hp (fun w => absurd rfl w)
    have x6 : sX (uX S 5 p 6 none) 5 p 6 = none := sX_uX_s
    have R2 := R1.hd (o := some b) hp (fun w => absurd x6 w)
    rw [x6, show oAt none (some b) = nI b from rfl, nU_s] at R2
    have R4 := (R2.pI (k := 5) (i := p) (f := 4) (v := 2) rfl).pI (k := 2) (i := l) (f := 6) (v := nv N 22 l 5 - nv N 29 p 1) rfl
    rw [nU_U (k := 29) (k' := 22) (by omega), nU_U (k := 29) (k' := 22) (by omega)] at R4
    refine h 1 _ Y _ M4 ?_ ⟨H4, ((W.uX.uX).uI (Or.inl (by omega))).uI (Or.inl (by omega)), (((Q.uX (by omega)).uX (by omega)).uI (by omega)).uI (by omega), (((mFc.uX (by omega)).tr (mFc.uX (by omega))).tr (mFc.uI (by omega))).tr (mFc.uI (by omega)), R4⟩
    rw [if_neg (fun w => w.elim (fun w => w (Int32.not_lt.mp z)) (fun w => w ⟨q1, q2⟩))]
theorem n_fate {Y0 : mY} {S0 : mS} (P : vN g N Y0 S0 Y S M) {p : Nat} {v : Int32} {M' : mM} (H' : mR g Y (uI S 29 p 3 v) M') (hv : v ≠ 3) : vN g (nU N 29 p 3 v) Y0 S0 Y (uI S 29 p 3 v) M' := by
  obtain ⟨⟨H, V, VV, VQ, VT⟩, F, R⟩ := P
  exact ⟨⟨H', vS_uI V (by omega), vV_fate VV hv, vQ_uI VQ (by omega), vT_uI VT (by omega)⟩, F.tr (mFm.uI (by omega)), R.pI⟩
theorem D_appeal {Y0 : mY} {S0 : mS} (P : vN g N Y0 S0 Y S M) {a : Int32} {κ : Int32 → mM → Prop} (h : ∀ k v N' Y' S' M', fAppeal N a = (k, v, N') → vN g N' Y0 S0 Y' S' M' → sI S' 20 0 0 = k → κ v M') : wX14_appeal κ (some (yA Y 20 0)) a M := by
  unfold fAppeal at h
  rw [← P.2.2.1.2.2] at h
  refine n_th P (fun S1 M1 P1 e1 => ?_)
  have H := P1.1.1
  have V := P1.1.2.1
  have VV := P1.1.2.2.1
  have hbd := V.2.1
  have RR := P1.2.2.2.1
  have ff : ∀ n, ¬ n ≤ (0 : Int32) → (∀ S2 M2, vN g N Y0 S0 Y S2 M2 → sI S2 20 0 0 = n → κ 0 M2) → m_p M1 (some (yA Y 20 0)) 19 0 (.int n) (fun M2 => wX14_appeal_68 κ (some (yA Y 20 0)) a M2) := fun n hn hh => n_th P1 (fun S2 M2 P2 e2 => s_gI P2.1.1 V.x0 rfl rfl rfl (by rw [e2]; exact br_f hn (hh S2 M2 P2 e2)))
  refine s_rc H V.x0 rfl rfl (v_isPart H V (fun p hp ep => br_f (by decide) ?_) (fun z => br_t rfl (ff 1 (by decide) (fun S2 M2 P2 e2 => h 1 0 N Y S2 M2 (by rw [if_pos z]) P2 e2))))
  have hv : ¬ a < 0 ∧ a < nI (yn Y 29) := by rw [ep]; exact m_in hp (by omega)
  have t1 : tN a = p := by rw [ep]; exact tN_nI (by omega)
  rw [t1, if_neg (fun w => w hv)] at h
  refine (fun z => ?_ : a = nI p → _) ep
  subst z
  have f2 : ¬ (nv N 29 p 3 = 3 ∧ ¬ nv N 29 p 4 < 100 ∧ nv N 29 p 4 < 106) → wX14_appeal_63 κ (some (yA Y 20 0)) (nI p) M1 := fun z => ff 2 (by decide) (fun S2 M2 P2 e2 => h 2 0 N Y S2 M2 (by rw [if_pos z]) P2 e2)
  obtain ⟨x, ex, hx⟩ := VV.1 29 p 4 hp
  have exN : nv N 29 p 4 = nI x := (RR 29 p 4 rfl hp).symm.trans ex
  have hx8 : x < 1000 := by omega
  refine v_Pt H V hp (s_gI H hp rfl rfl rfl ?_)
  rw [RR 29 p 3 rfl hp]
  refine br_c (fun h3 => v_Pt H V hp (s_gI H hp rfl rfl rfl (v_is (fun z1 z2 => br_f (by decide) ?_) (fun z => br_t rfl (f2 (fun w => z ?_)))))) (fun h3 => f2 (fun w => h3 w.1))
  rotate_left
  · rw [ex]
    rw [exN] at w
    refine ⟨w.2.1, ?_⟩
    have := (nI_ltI (a := x) (b := 106) (by omega) (by omega)).mp w.2.2
    exact nI_nlt (a := 105) (b := x) (by omega) (by omega)
  obtain ⟨b, hb, eb⟩ := VV.2 p hp ((RR 29 p 3 rfl hp).trans h3)
  have eb' : nv N 29 p 5 = nI b := (RR 29 p 5 rfl hp).symm.trans eb
  rw [ex] at z1 z2
  have hx6 : 100 ≤ x ∧ x < 106 := by
    rcases hx with hx | hx | hx
    · exact absurd (show nI x < (100 : Int32) from nI_lt (b := 100) (by omega) (by omega)) z1
    · exact hx
    · exact absurd (show (105 : Int32) < nI x from nI_lt (a := 105) (by omega) (by omega)) z2
  have hl : x - 100 < 6 := by omega
  have esub : nI x - 100 = nI (x - 100) := by rw [show (100 : Int32) = nI 100 from rfl, pk_sub (by omega)]
  rw [if_neg (fun w => w ⟨h3, by rw [exN]; exact z1, by rw [exN]; exact nI_lt (a := x) (b := 106) (by omega) (by omega)⟩), exN, tN_nI (by omega), eb', tN_nI (by omega)] at h
  have h0 : (¬ nv N 29 p 1 ≤ nv N 22 (x - 100) 1 ∨ ¬ (nv N 28 b 0 = nI (x - 100) ∧ nv N 28 b 3 = 0)) → κ 0 M1 := fun z => h 0 0 N Y S1 M1 (by rw [if_pos z]) P1 e1
  refine s_gI H V.x0 rfl rfl rfl ?_
  rw [e1]
  refine br_t (by decide) (v_Pt H V hp (s_gR6 H V.x0 rfl rfl rfl (s_gI H hp rfl rfl rfl ?_)))
  rw [ex, esub]
  refine s_ldR H V.l21 rfl (by decide) rfl (by rw [V.2.2.2.2.1]; exact hl) (by rw [V.2.2.2.2.1]; omega) ?_
  rw [V.2.2.2.2.2.1 _ hl]
  refine s_gR6 H V.x0 rfl rfl rfl (s_gI H hp rfl rfl rfl ?_)
  rw [eb]
  refine s_rcL H rfl (V.l24 (by omega)) (v_gtS H V hb (s_cast H hb rfl rfl (s_gI H hp rfl rfl rfl (s_gI H (V.l22 hl) rfl rfl rfl ?_))))
  rw [RR 29 p 1 rfl hp, RR 22 (x - 100) 1 rfl (V.l22 hl)]
  refine br_c (fun z => h0 (Or.inl (Int32.not_le.mpr z))) (fun z => s_gI H hb rfl rfl rfl (s_gI H hp rfl rfl rfl ?_))
  rw [ex, esub, RR 28 b 0 rfl hb]
  refine br_c (fun q => s_gI H hb rfl rfl rfl ?_) (fun q => h0 (Or.inr (fun w => q w.1)))
  rw [RR 28 b 3 rfl hb]
  refine br_c (fun q2 => ?_) (fun q2 => h0 (Or.inr (fun w => q2 w.2)))
  refine s_gI H (V.l22 hl) rfl rfl rfl (s_gI H hp rfl rfl rfl ?_)
  rw [RR 22 (x - 100) 5 rfl (V.l22 hl), RR 29 p 1 rfl hp]
  refine s_pI H (V.l22 hl) rfl rfl rfl (fun M2 H2 => s_gI H2 hp rfl rfl rfl ?_)
  have P2 := n_I P1 H2 trivial (by omega)
  rw [sI_uI (by omega), eb]
  refine s_pI H2 hp rfl rfl rfl (fun M3 H3 => s_pI H3 hp rfl rfl rfl (fun M4 H4 => ?_))
  have P3 := n_I P2 H3 ⟨b, rfl, Or.inl hb⟩ (by omega)
  exact h 0 1 _ Y _ M4 (by rw [if_neg (fun w => w.elim (fun w => w (Int32.not_lt.mp z)) (fun w => w ⟨q, q2⟩))]) (n_fate P3 H4 (by decide)) (((sI_uI (by omega)).trans ((sI_uI (by omega)).trans (sI_uI (by omega)))).trans e1)
end SIM7
