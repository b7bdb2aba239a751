/-! THE SIMULATION, 52: leave and appeal of the class, from the plain state alone -/
section SIM52
variable {g : Nat → Nat} {Y : mY} {S : mS} {M : mM} {N : mN}
theorem C_leaveB (H : mR g Y S M) (W : mWs Y S) (Q : mWq Y S) (R : RC 99 N Y S) (B : nB N) {a : Int32} {κ : Int32 → mM → Prop} {ξ : String → mM → Prop} (hx1 : (fLeave N a).1 = 1 → ξ "java/lang/IndexOutOfBoundsException" M) (hx2 : (fLeave N a).1 = 2 → ξ "java/lang/IllegalStateException" M)
    (h : ∀ v N' Y' S' M', fLeave N a = (0, v, N') → cX g N' Y S Y' S' M' → κ v M') : wX8_leave κ ξ (some (yA Y 0 0)) a M := by
  have hb := W.2.1
  unfold fLeave at hx1 hx2 h
  rw [← R.1.2.1] at hx1 hx2 h
  refine s_rc H W.x0 rfl rfl (c_sleeperN H W (fun s hs es => ?_) (fun z => hx1 (by rw [if_pos z])))
  have hv : ¬ a < 0 ∧ a < nI (yn Y 4) := by rw [es]; exact m_in hs (by omega)
  have t1 : tN a = s := by rw [es]; exact tN_nI (by omega)
  rw [if_neg (fun w => w hv), t1] at hx2 h
  have h5 := R.2.2.2.2.1 s hs (by omega)
  have i3 : sI S 4 s 4 = nv N 28 s 3 := R.2.1 4 s 4 28 3 rfl hs (by omega)
  refine c_placeOf H W hs (fun t j hxt ht hj => ?_) (fun hno => ?_)
  · have hl := H.len (k := 13) (i := t) rfl (W.l13 ht)
    have hjl := (List.getElem?_eq_some_iff.mp hj).1
    have e3 : nv N 28 s 3 = 1 := i3.symm.trans (Q.2 s t hs hxt).1
    have e4 : nv N 28 s 4 = nI t := by rw [h5, hxt]; rfl
    have eq : sL S 13 t = nq N t := (R.2.2.1 t ht).2.2
    have ej : (nq N t).idxOf s = j := idx_nd _ _ _ (by rw [← eq]; exact (Q.1 t ht).1) (by rw [← eq]; exact hj)
    rw [if_neg (fun w => w e3)] at h
    have hno : nOut N s 0 = nU (nU (nQ N t ((nq N t).eraseIdx j)) 28 s 3 0) 28 s 4 (-1) := by
      unfold nOut nOut1
      rw [if_neg (by decide), e4, tN_nI (by omega), ej]
    rw [hno, e4, tN_nI (by omega), ej] at h
    refine s_gR3 H hs rfl rfl rfl ?_
    rw [hxt]
    refine br_f (fun z => by cases z) (br_f (fun z => ?_) ?_)
    · have := nI_pos (n := j) (by omega)
      rw [z] at this
      exact this (by decide)
    · refine s_gR3 H hs rfl rfl rfl ?_
      rw [hxt]
      refine s_gR7 H ht rfl rfl rfl (s_rcL H rfl (W.l13 ht) (s_remove H rfl (W.l13 ht) hj (fun M1 md e H1 => s_rc H1 hs rfl rfl (c_stepOut H1 hs (fun M2 H2 => ?_)))))
      have R1 : RC 99 (nQ N t ((nq N t).eraseIdx j)) Y (uL S 13 t md e ((sL S 13 t).eraseIdx j)) := by rw [← eq]; exact R.line
      have R2 := (R1.exc (by decide) (by omega) (s := s) (by rw [show sX (uL S 13 t md e ((sL S 13 t).eraseIdx j)) 4 s 5 = sX S 4 s 5 from rfl, hxt]; exact fun w => by cases w) (v := 0) (w := -1)).out (by omega) hs (v := 0) (by rw [nv_U (by omega), nv_U_s]) nv_U_s (y := 99) (by omega)
      exact h _ _ Y _ M2 rfl ⟨H2, so_W (W.uL rfl), (Q.rm ht hj).out, (mFc.uL (by omega)).tr so_F, R2⟩
  · have hnone : sX S 4 s 5 = none := by
      cases hq : sX S 4 s 5 with
      | none => rfl
      | some t => exact absurd (Q.2 s t hs hq).2 (hno t hq)
    have e3 : ¬ nv N 28 s 3 = 1 := fun w => by
      obtain ⟨t, ht, et, -⟩ := B.2.2.2.2.2.2.1 s (by rw [← R.1.2.1]; exact hs) w
      rw [h5, hnone] at et
      have := nI_pos (n := t) (by have := B.2.1.1; omega)
      rw [← et] at this
      exact this (by decide)
    have hh := hx2 (by rw [if_pos e3])
    exact s_gR3 H hs rfl rfl rfl (br_c (fun _ => hh) (fun _ => br_t rfl hh))
theorem C_appealB (H : mR g Y S M) (W : mWs Y S) (Q : mWq Y S) (R : RC 99 N Y S) (B : nB N) {a : Int32} {κ : Int32 → mM → Prop} {ξ : String → mM → Prop} (h1 : (fAppeal N a).1 = 1 → ξ "java/lang/IndexOutOfBoundsException" M) (h2 : (fAppeal N a).1 = 2 → ξ "java/lang/IllegalStateException" M)
    (h : ∀ v N' Y' S' M', fAppeal N a = (0, v, N') → cX g N' Y S Y' S' M' → κ v M') : wX8_appeal κ ξ (some (yA Y 0 0)) a M := by
  have hb := W.2.1
  unfold fAppeal at h1 h2 h
  rw [← R.1.2.2] at h1 h2 h
  refine s_rc H W.x0 rfl rfl (c_partN H W (fun p hp ep => ?_) (fun z => h1 (by rw [if_pos z])))
  have hv : ¬ a < 0 ∧ a < nI (yn Y 5) := by rw [ep]; exact m_in hp (by omega)
  have t1 : tN a = p := by rw [ep]; exact tN_nI (by omega)
  rw [t1, if_neg (fun w => w hv)] at h2 h
  obtain ⟨r4, r5, r6⟩ := R.2.2.2.2.2.2.2.1 p hp
  have iF : sI S 5 p 4 = nv N 29 p 3 := R.2.1 5 p 4 29 3 rfl hp (by omega)
  have iW : sI S 5 p 2 = nv N 29 p 1 := R.2.1 5 p 2 29 1 rfl hp (by omega)
  refine s_gR3 H hp rfl rfl rfl (s_gR3 H hp rfl rfl rfl (s_gI H hp rfl rfl rfl ?_))
  rw [iF]
  refine br_c (fun f3 => ?_) (fun f3 => h2 (by rw [if_pos (fun w => f3 w.1)]))
  obtain ⟨b, hb28, eb'⟩ := (B.2.2.2.2.1 p (by rw [← R.1.2.2]; exact hp)).2.2.2 f3
  have hb4 : b < yn Y 4 := by rw [R.1.2.1]; exact hb28
  have h7 : sX S 5 p 7 = some b := oTo_some (r5.symm.trans eb') (fun a ha => by have := H.lX (k := 5) (f := 7) (kt := 4) hp rfl a ha; omega) (by omega)
  cases h6 : sX S 5 p 6 with
  | none =>
    have key : ¬ (nv N 29 p 3 = 3 ∧ ¬ nv N 29 p 4 < 100 ∧ nv N 29 p 4 < 106) := by
      intro w
      have w2 := w.2
      rw [h6] at r4
      cases h5 : sX S 5 p 5 with
      | none =>
        rw [h5] at r4
        rw [r4] at w2
        exact absurd w2.2 (by decide)
      | some s =>
        have hs := H.lX (k := 5) (f := 5) (kt := 4) hp rfl s h5
        rw [h5] at r4
        rw [r4] at w2
        exact w2.1 (nI_lt (a := s) (b := 100) (by omega) (by omega))
    exact br_t rfl (h2 (by rw [if_pos key]))
  | some l =>
    have hl := H.lX (k := 5) (f := 6) (kt := 2) hp rfl l h6
    have hl6 := W.l2' hl
    have h5 : sX S 5 p 5 = none := r6 (by rw [h6]; exact fun w => by cases w)
    have e4 : nv N 29 p 4 = nI (100 + l) := by rw [r4, h6]; rfl
    refine br_f (fun z => by cases z) ?_
    rw [h7]
    refine br_f (fun z => by cases z) ?_
    have ok : nv N 29 p 3 = 3 ∧ ¬ nv N 29 p 4 < 100 ∧ nv N 29 p 4 < 106 := ⟨f3, by rw [e4]; exact nI_nlt (a := 100 + l) (b := 100) (by omega) (by omega), by rw [e4]; exact nI_lt (a := 100 + l) (b := 106) (by omega) (by omega)⟩
    have iA : sI S 2 l 2 = nv N 22 l 1 := R.2.1 2 l 2 22 1 rfl hl (by omega)
    have iN : sI S 2 l 6 = nv N 22 l 5 := R.2.1 2 l 6 22 5 rfl hl (by omega)
    have iS : sI S 4 b 4 = nv N 28 b 3 := R.2.1 4 b 4 28 3 rfl hb4 (by omega)
    have L2 := H.lN (k := 4) (f := 2) (kt := 2) hb4 rfl
    have b2 := W.l2' L2
    have eL : nv N 28 b 0 = nI (sN S 4 b 2) := R.2.2.2.1 b hb4
    rw [if_neg (fun w => w ok), e4, tN_nI (by omega), show 100 + l - 100 = l by omega, eb', tN_nI (by omega)] at h
    have h0 : (¬ nv N 29 p 1 ≤ nv N 22 l 1 ∨ ¬ (nv N 28 b 0 = nI l ∧ nv N 28 b 3 = 0)) → κ 0 M := fun z => h 0 N Y S M (by rw [if_pos z]) ⟨H, W, Q, mFc.rf Y S, R⟩
    refine s_gI H hp rfl rfl rfl (s_gI H hl rfl rfl rfl ?_)
    rw [iW, iA]
    refine br_c (fun z => h0 (Or.inl (Int32.not_le.mpr z))) (fun z => s_gR2 H hb4 rfl rfl rfl (br_c (fun q => s_gI H hb4 rfl rfl rfl ?_) (fun q => h0 (Or.inr (fun w => q ((H.sinj hl L2).mpr ((nI_eq (by omega) (by omega)).mp (eL.symm.trans w.1))))))))
    rw [iS]
    refine br_c (fun q2 => ?_) (fun q2 => h0 (Or.inr (fun w => q2 w.2)))
    have q1 : nv N 28 b 0 = nI l := by rw [eL, (H.sinj hl L2).mp q]
    refine s_pX0 H hp rfl rfl rfl (fun M1 H1 => s_pX1 H1 hp rfl rfl rfl hb4 (fun M2 H2 => s_pI H2 hp rfl rfl rfl (fun M3 H3 => s_gI H3 hl rfl rfl rfl (s_gI H3 hp rfl rfl rfl (s_pI H3 hl rfl rfl rfl (fun M4 H4 => ?_))))))
    have g6 : sI (uI (uX (uX S 5 p 6 none) 5 p 5 (some b)) 5 p 4 2) 2 l 6 = nv N 22 l 5 := (sI_uI (by omega)).trans iN
    have g2 : sI (uI (uX (uX S 5 p 6 none) 5 p 5 (some b)) 5 p 4 2) 5 p 2 = nv N 29 p 1 := (sI_uI (by omega)).trans iW
    rw [g6, g2] at H4
    have R1 := R.st (o := none) hp (fun w => absurd rfl w)
    have x6 : sX (uX S 5 p 6 none) 5 p 6 = none := sX_uX_s
    have R2 := R1.hd (o := some b) hp (fun w => absurd x6 w)
    rw [x6, show oAt none (some b) = nI b from rfl, nU_s] at R2
    have R4 := (R2.pI (k := 5) (i := p) (f := 4) (v := 2) rfl).pI (k := 2) (i := l) (f := 6) (v := nv N 22 l 5 - nv N 29 p 1) rfl
    rw [nU_U (k := 29) (k' := 22) (by omega), nU_U (k := 29) (k' := 22) (by omega)] at R4
    refine h 1 _ Y _ M4 ?_ ⟨H4, ((W.uX.uX).uI (Or.inl (by omega))).uI (Or.inl (by omega)), (((Q.uX (by omega)).uX (by omega)).uI (by omega)).uI (by omega), (((mFc.uX (by omega)).tr (mFc.uX (by omega))).tr (mFc.uI (by omega))).tr (mFc.uI (by omega)), R4⟩
    rw [if_neg (fun w => w.elim (fun w => w (Int32.not_lt.mp z)) (fun w => w ⟨q1, q2⟩))]
end SIM52
