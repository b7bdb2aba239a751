/-! THE PURE SIDE, 16: the reference's short methods that write; sleepers and parts -/
theorem nI_rg {v : Int32} {n : Nat} (hn : n < 100000) (z : ¬ v < 0) (w : ¬ nI n < v) : ∃ a, a ≤ n ∧ v = nI a := by
  obtain ⟨j, hj, rfl⟩ := nI_of z
  refine ⟨j, ?_, rfl⟩
  have := Nat.not_lt.mp (fun q => w (nI_lt (a := n) (b := j) q (by omega)))
  omega
theorem vOK_m {Y Y1 : mY} (h8 : yn Y 28 ≤ yn Y1 28) (h3 : yn Y 23 ≤ yn Y1 23) {k f : Nat} {v : Int32} (h : vOK Y k f v) : vOK Y1 k f v := by
  by_cases z : k = 28 ∧ f = 4
  · obtain ⟨rfl, rfl⟩ := z
    rcases h with h | ⟨t, ht, e⟩
    · exact Or.inl h
    · exact Or.inr ⟨t, by omega, e⟩
  · by_cases z2 : k = 29 ∧ f = 4
    · obtain ⟨rfl, rfl⟩ := z2
      obtain ⟨a, e, h⟩ := h
      exact ⟨a, e, by omega⟩
    · unfold vOK at h ⊢
      split
      · exact h
      · split
        · exact h
        · exact absurd ⟨rfl, rfl⟩ z
        · exact h
        · trivial
      · split
        · exact h
        · exact h
        · exact absurd ⟨rfl, rfl⟩ z2
        · trivial
      · trivial
section VWR
variable {g : Nat → Nat} {Y : mY} {S : mS} {M : mM}
theorem v_land (I : mVI g Y S M) {a r al : Int32} {κ : Int32 → mM → Prop} (h1 : ¬ (¬ a < 0 ∧ a < 6) → ∀ S' M', vP g Y S Y S' M' → sI S' 20 0 0 = 1 → κ 0 M') (h2 : (¬ a < 0 ∧ a < 6) → ¬ ((¬ r < 0 ∧ r ≤ 50) ∧ (¬ al < 0 ∧ al ≤ 99)) → ∀ S' M', vP g Y S Y S' M' → sI S' 20 0 0 = 2 → κ 0 M')
    (h : ∀ l S' M', l < 6 → a = nI l → ((¬ r < 0 ∧ r ≤ 50) ∧ (¬ al < 0 ∧ al ≤ 99)) → mVI g Y S' M' → mFm Y S Y S' → sI S' 20 0 0 = 0 → (∀ k i f, qV k f = true → sI S' k i f = if k = 22 ∧ i = l ∧ f = 0 then r else sI S k i f) → κ (sI S 22 l 0) M') : wX14_land κ (some (yA Y 20 0)) a r al M := by
  refine v_th (vP.rf I) (fun S1 M1 P1 e1 _ => ?_)
  have H := P1.1.1
  have V := P1.1.2.1
  refine s_rc H V.x0 rfl rfl (v_isLand (fun l hl el => br_f (by decide) (v_is (fun z1 w1 => br_f (by decide) (v_is (fun z2 w2 => br_f (by decide) ?_) (fun n => br_t rfl ?_))) (fun n => br_t rfl ?_))) (fun n => br_t rfl (v_rf P1 (fun S2 M2 P2 e2 _ => h1 n S2 M2 P2 e2))))
  · subst el
    refine v_Ld H V hl (s_gI H (V.l22 hl) rfl rfl rfl (v_Ld H V hl (s_pI H (V.l22 hl) rfl rfl rfl (fun M2 H2 => ?_))))
    have V2 : mVs Y (uI S1 22 l 0 r) := vS_uI V (by omega)
    refine v_Ld H2 V2 hl (s_pI H2 (V.l22 hl) rfl rfl rfl (fun M3 H3 => ?_))
    rw [P1.2.2.1 22 l 0 rfl]
    refine h l _ M3 hl rfl ⟨⟨z1, Int32.not_lt.mp w1⟩, ⟨z2, Int32.not_lt.mp w2⟩⟩ ⟨H3, vS_uI V2 (by omega), vV_uI (k := 22) (vV_uI (k := 22) P1.1.2.2.1 trivial (by omega)) trivial (by omega), vQ_uI (vQ_uI P1.1.2.2.2.1 (by omega)) (by omega), vT_uI (vT_uI P1.1.2.2.2.2 (by omega)) (by omega)⟩ ((P1.2.1.tr (mFm.uI (by omega))).tr (mFm.uI (by omega))) (((sI_uI (by omega)).trans (sI_uI (by omega))).trans e1) (fun k i f q => ?_)
    have hd := qV_d q
    rw [sI_uI (by omega)]
    by_cases z : k = 22 ∧ i = l ∧ f = 0
    · rw [if_pos z, z.1, z.2.1, z.2.2]
      exact sI_uI_s
    · rw [if_neg z, sI_uI z]
      exact P1.2.2.1 k i f q
  · exact v_rf P1 (fun S2 M2 P2 e2 _ => h2 (by rw [el]; exact m_in (n := 6) hl (by omega)) (fun q => n ⟨q.2.1, Int32.not_lt.mpr q.2.2⟩) S2 M2 P2 e2)
  · exact v_rf P1 (fun S2 M2 P2 e2 _ => h2 (by rw [el]; exact m_in (n := 6) hl (by omega)) (fun q => n ⟨q.1.1, Int32.not_lt.mpr q.1.2⟩) S2 M2 P2 e2)
theorem v_trade (I : mVI g Y S M) {a b n : Int32} {κ : Int32 → mM → Prop} (h1 : ¬ ((¬ a < 0 ∧ a < 6) ∧ (¬ b < 0 ∧ b < 6)) → ∀ S' M', vP g Y S Y S' M' → sI S' 20 0 0 = 1 → κ 0 M') (h2 : ((¬ a < 0 ∧ a < 6) ∧ (¬ b < 0 ∧ b < 6)) → (a = b ∨ ¬ 0 ≤ n) → ∀ S' M', vP g Y S Y S' M' → sI S' 20 0 0 = 2 → κ 0 M') (h3 : ∀ l l', l < 6 → l' < 6 → a = nI l → b = nI l' → ¬ a = b → 0 ≤ n → (sI S 22 l 2 < n ∨ ¬ sI S 22 l' 2 + n ≤ 30) → ∀ S' M', vP g Y S Y S' M' → sI S' 20 0 0 = 3 → κ 0 M')
    (h : ∀ l l' S' M', l < 6 → l' < 6 → a = nI l → b = nI l' → ¬ a = b → 0 ≤ n → ¬ sI S 22 l 2 < n → sI S 22 l' 2 + n ≤ 30 → mVI g Y S' M' → mFm Y S Y S' → sI S' 20 0 0 = 0 → (∀ k i f, qV k f = true → sI S' k i f = if k = 22 ∧ i = l' ∧ f = 2 then sI S 22 l' 2 + n else if k = 22 ∧ i = l ∧ f = 2 then sI S 22 l 2 - n else sI S k i f) → κ (sI S 22 l' 2 + n) M') : wX14_trade κ (some (yA Y 20 0)) a b n M := by
  refine v_th (vP.rf I) (fun S1 M1 P1 e1 _ => ?_)
  have H := P1.1.1
  have V := P1.1.2.1
  have f1 : ¬ ((¬ a < 0 ∧ a < 6) ∧ (¬ b < 0 ∧ b < 6)) → wX14_trade_21 κ (some (yA Y 20 0)) M1 := fun z => v_rf P1 (fun S2 M2 P2 e2 _ => h1 z S2 M2 P2 e2)
  have f2 : ((¬ a < 0 ∧ a < 6) ∧ (¬ b < 0 ∧ b < 6)) → (a = b ∨ ¬ 0 ≤ n) → wX14_trade_36 κ (some (yA Y 20 0)) M1 := fun z w => v_rf P1 (fun S2 M2 P2 e2 _ => h2 z w S2 M2 P2 e2)
  refine s_rc H V.x0 rfl rfl (v_isLand (fun l hl el => br_f (by decide) (s_rc H V.x0 rfl rfl (v_isLand (fun l' hl' el' => br_f (by decide) ?_) (fun z => br_t rfl (f1 (fun w => z w.2)))))) (fun z => br_t rfl (f1 (fun w => z w.1))))
  have va : ¬ a < 0 ∧ a < 6 := by rw [el]; exact m_in (n := 6) hl (by omega)
  have vb : ¬ b < 0 ∧ b < 6 := by rw [el']; exact m_in (n := 6) hl' (by omega)
  have q1 : ∀ l, sI S1 22 l 2 = sI S 22 l 2 := fun l => P1.2.2.1 22 l 2 rfl
  refine br_c (fun q => f2 ⟨va, vb⟩ (Or.inl q)) (fun nab => br_c (fun q2 => ?_) (fun q2 => f2 ⟨va, vb⟩ (Or.inr q2)))
  have f3 : (sI S 22 l 2 < n ∨ ¬ sI S 22 l' 2 + n ≤ 30) → wX14_trade_71 κ (some (yA Y 20 0)) M1 := fun z => v_rf P1 (fun S2 M2 P2 e2 _ => h3 l l' hl hl' el el' nab q2 z S2 M2 P2 e2)
  subst el
  subst el'
  refine v_Ld H V hl (s_gI H (V.l22 hl) rfl rfl rfl ?_)
  rw [q1 l]
  refine br_c (fun z => f3 (Or.inl z)) (fun z => v_Ld H V hl' (s_gI H (V.l22 hl') rfl rfl rfl ?_))
  rw [q1 l']
  refine br_c (fun w => ?_) (fun w => f3 (Or.inr w))
  refine v_Ld H V hl (s_gI H (V.l22 hl) rfl rfl rfl ?_)
  rw [q1 l]
  refine s_pI H (V.l22 hl) rfl rfl rfl (fun M2 H2 => ?_)
  have V2 : mVs Y (uI S1 22 l 2 (sI S 22 l 2 - n)) := vS_uI V (by omega)
  refine v_Ld H2 V2 hl' (s_gI H2 (V.l22 hl') rfl rfl rfl ?_)
  have ne : l' ≠ l := fun z => nab (by rw [z])
  have e2 : sI (uI S1 22 l 2 (sI S 22 l 2 - n)) 22 l' 2 = sI S 22 l' 2 := (sI_uI (by omega)).trans (q1 l')
  rw [e2]
  refine s_pI H2 (V.l22 hl') rfl rfl rfl (fun M3 H3 => ?_)
  have V3 : mVs Y (uI (uI S1 22 l 2 (sI S 22 l 2 - n)) 22 l' 2 (sI S 22 l' 2 + n)) := vS_uI V2 (by omega)
  refine v_Ld H3 V3 hl' (s_gI H3 (V.l22 hl') rfl rfl rfl ?_)
  rw [sI_uI_s]
  refine h l l' _ M3 hl hl' rfl rfl nab q2 z w ⟨H3, V3, vV_uI (k := 22) (vV_uI (k := 22) P1.1.2.2.1 trivial (by omega)) trivial (by omega), vQ_uI (vQ_uI P1.1.2.2.2.1 (by omega)) (by omega), vT_uI (vT_uI P1.1.2.2.2.2 (by omega)) (by omega)⟩ ((P1.2.1.tr (mFm.uI (by omega))).tr (mFm.uI (by omega))) (((sI_uI (by omega)).trans (sI_uI (by omega))).trans e1) (fun k i f q => ?_)
  by_cases z1 : k = 22 ∧ i = l' ∧ f = 2
  · rw [if_pos z1, z1.1, z1.2.1, z1.2.2, sI_uI_s]
  · rw [if_neg z1, sI_uI z1]
    by_cases z2 : k = 22 ∧ i = l ∧ f = 2
    · rw [if_pos z2, z2.1, z2.2.1, z2.2.2]
      exact sI_uI_s
    · rw [if_neg z2, sI_uI z2]
      exact P1.2.2.1 k i f q
theorem v_odds (I : mVI g Y S M) {a b : Int32} {κ : Int32 → mM → Prop} (h1 : ¬ (¬ a < 0 ∧ a < nI (yn Y 23)) → ∀ S' M', vP g Y S Y S' M' → sI S' 20 0 0 = 1 → κ 0 M') (h2 : (¬ a < 0 ∧ a < nI (yn Y 23)) → ¬ (¬ b < 0 ∧ b ≤ 10) → ∀ S' M', vP g Y S Y S' M' → sI S' 20 0 0 = 2 → κ 0 M')
    (h : ∀ t S' M', t < yn Y 23 → a = nI t → (¬ b < 0 ∧ b ≤ 10) → mVI g Y S' M' → mFm Y S Y S' → sI S' 20 0 0 = 0 → (∀ k i f, qV k f = true → sI S' k i f = if k = 23 ∧ i = t ∧ f = 4 then b else sI S k i f) → κ (sI S 23 t 4) M') : wX14_odds κ (some (yA Y 20 0)) a b M := by
  refine v_th (vP.rf I) (fun S1 M1 P1 e1 _ => ?_)
  have H := P1.1.1
  have V := P1.1.2.1
  have hbd := V.2.1
  have q1 : ∀ t, sI S1 23 t 4 = sI S 23 t 4 := fun t => P1.2.2.1 23 t 4 rfl
  refine s_rc H V.x0 rfl rfl (v_isGate H V (fun t ht et => br_f (by decide) (v_is (fun r1 r2 => br_f (by decide) ?_) (fun n => br_t rfl ?_))) (fun n => br_t rfl (v_rf P1 (fun S2 M2 P2 e2 _ => h1 n S2 M2 P2 e2))))
  · subst et
    refine v_G H V ht (s_gI H ht rfl rfl rfl ?_)
    rw [q1 t]
    refine v_G H V ht (s_pI H ht rfl rfl rfl (fun M2 H2 => ?_))
    refine h t _ M2 ht rfl ⟨r1, Int32.not_lt.mp r2⟩ ⟨H2, vS_uI V (by omega), vV_uI (k := 23) P1.1.2.2.1 trivial (by omega), vQ_uI P1.1.2.2.2.1 (by omega), vT_uI P1.1.2.2.2.2 (by omega)⟩ (P1.2.1.tr (mFm.uI (by omega))) ((sI_uI (by omega)).trans e1) (fun k i f q => ?_)
    by_cases z : k = 23 ∧ i = t ∧ f = 4
    · rw [if_pos z, z.1, z.2.1, z.2.2]
      exact sI_uI_s
    · rw [if_neg z, sI_uI z]
      exact P1.2.2.1 k i f q
  · exact v_rf P1 (fun S2 M2 P2 e2 _ => h2 (by rw [et]; exact m_in ht (by omega)) (fun q => n ⟨q.1, Int32.not_lt.mpr q.2⟩) S2 M2 P2 e2)
theorem v_relieve {Y0 : mY} {S0 : mS} (P : vP g Y0 S0 Y S M) {a : Int32} {κ : Int32 → mM → Prop} (h : ∀ x Y' S' M', vP g Y0 S0 Y' S' M' → κ x M') : wX14_relieve κ (some (yA Y 20 0)) a M := by
  refine v_th P (fun S1 M1 P1 _ _ => ?_)
  have H := P1.1.1
  have V := P1.1.2.1
  refine s_rc H V.x0 rfl rfl (v_isGate H V (fun t ht et => br_f (by decide) ?_) (fun _ => br_t rfl (v_rf P1 (fun S2 M2 P2 _ _ => h 0 Y S2 M2 P2))))
  subst et
  exact v_G H V ht (s_gI H ht rfl rfl rfl (v_G H V ht (s_pI H ht rfl rfl rfl (fun M2 H2 => h _ Y _ M2 (vP_I P1 H2 trivial (by omega))))))
theorem v_revoke {Y0 : mY} {S0 : mS} (P : vP g Y0 S0 Y S M) {a b : Int32} {κ : Int32 → mM → Prop} (h : ∀ x Y' S' M', vP g Y0 S0 Y' S' M' → κ x M') : wX14_revoke κ (some (yA Y 20 0)) a b M := by
  have H := P.1.1
  have V := P.1.2.1
  have ff : ∀ n, ¬ n ≤ (0 : Int32) → wX14_revoke_28 κ (some (yA Y 20 0)) a b n (some (yA Y 20 0)) M := fun n hn => by
    unfold wX14_revoke_28
    refine v_th P (fun S1 M1 P1 e1 _ => s_gI P1.1.1 V.x0 rfl rfl rfl ?_)
    rw [e1]
    exact br_f hn (h _ Y S1 M1 P1)
  refine s_rc H V.x0 rfl rfl (v_isGate H V (fun t ht et => br_f (by decide) (v_is (fun z w => br_f (by decide) ?_) (fun _ => br_t rfl (ff 2 (by decide))))) (fun _ => br_t rfl (ff 1 (by decide))))
  subst et
  obtain ⟨j, hj, rfl⟩ := nI_rg (n := 96) (by omega) z w
  unfold wX14_revoke_28
  refine v_th P (fun S1 M1 P1 e1 _ => s_gI P1.1.1 V.x0 rfl rfl rfl ?_)
  rw [e1]
  have H1 := P1.1.1
  have V1 := P1.1.2.1
  have hC : sC S1 26 t = 97 := V1.2.2.2.2.2.2.1 t ht
  refine br_t (by decide) (v_G H1 V1 ht (s_gR7 H1 ht rfl rfl rfl (s_ldI H1 (V1.l26 ht) rfl (by decide) rfl (by rw [hC]; omega) (by rw [hC]; omega) (v_G H1 V1 ht (s_gR7 H1 ht rfl rfl rfl (s_stZ H1 (V1.l26 ht) rfl rfl (by rw [hC]; omega) (by rw [hC]; omega) (w := 1) (by decide) (fun M2 H2 => ?_)))))))
  have P2 := vP_E P1 H2 (by omega)
  exact br_c (fun _ => h _ Y _ M2 P2) (fun _ => h _ Y _ M2 P2)
theorem v_give {Y0 : mY} {S0 : mS} (P : vP g Y0 S0 Y S M) {a b : Int32} {κ : Int32 → mM → Prop} (h : ∀ x Y' S' M', vP g Y0 S0 Y' S' M' → κ x M') : wX14_give κ (some (yA Y 20 0)) a b M := by
  refine v_th P (fun S1 M1 P1 _ _ => ?_)
  have H := P1.1.1
  have V := P1.1.2.1
  have VV := P1.1.2.2.1
  have hb := V.2.1
  have f1 : wX14_give_21 κ (some (yA Y 20 0)) M1 := v_rf P1 (fun S2 M2 P2 _ _ => h 0 Y S2 M2 P2)
  have f2 : wX14_give_53 κ (some (yA Y 20 0)) M1 := v_rf P1 (fun S2 M2 P2 _ _ => h 0 Y S2 M2 P2)
  have f3 : wX14_give_114 κ (some (yA Y 20 0)) M1 := v_rf P1 (fun S2 M2 P2 _ _ => h 0 Y S2 M2 P2)
  refine s_rc H V.x0 rfl rfl (v_isPart H V (fun p hp ep => br_f (by decide) (s_rc H V.x0 rfl rfl (v_isSleeper H V (fun s hs es => br_f (by decide) ?_) (fun _ => br_t rfl f1)))) (fun _ => br_t rfl f1))
  subst ep
  subst es
  obtain ⟨x, ex, hx⟩ := VV.1 29 p 4 hp
  refine v_Pt H V hp (s_gI H hp rfl rfl rfl ?_)
  rw [ex]
  refine br_c (fun _ => f2) (fun z => br_c (fun _ => f2) (fun _ => ?_))
  have hx2 : x < yn Y 28 := by
    rcases hx with hx | hx | hx
    · exact hx
    · exact absurd (show (100 : Int32) ≤ nI x from nI_le (a := 100) (by omega) (by omega)) z
    · exact absurd (show (100 : Int32) ≤ nI x from nI_le (a := 100) (by omega) (by omega)) z
  refine v_S H V hx2 (v_S H V hs (s_gI H hx2 rfl rfl rfl (s_gI H hs rfl rfl rfl (br_c (fun _ => s_gI H hx2 rfl rfl rfl (br_c (fun _ => s_gI H hs rfl rfl rfl (br_c (fun _ => ?_) (fun _ => f3))) (fun _ => f3))) (fun _ => f3)))))
  exact v_Pt H V hp (s_pI H hp rfl rfl rfl (fun M2 H2 => h _ Y _ M2 (vP_I P1 H2 ⟨s, rfl, Or.inl hs⟩ (by omega))))
theorem v_sing {Y0 : mY} {S0 : mS} (P : vP g Y0 S0 Y S M) {a b n v : Int32} {κ : Int32 → mM → Prop} (h : ∀ x Y' S' M', vP g Y0 S0 Y' S' M' → κ x M') : wX14_sing κ (some (yA Y 20 0)) a b n v M := by
  refine v_th P (fun S1 M1 P1 _ _ => ?_)
  have H := P1.1.1
  have V := P1.1.2.1
  have f1 : wX14_sing_21 κ (some (yA Y 20 0)) M1 := v_rf P1 (fun S2 M2 P2 _ _ => h 0 Y S2 M2 P2)
  have f2 : wX14_sing_51 κ (some (yA Y 20 0)) M1 := v_rf P1 (fun S2 M2 P2 _ _ => h 0 Y S2 M2 P2)
  refine s_rc H V.x0 rfl rfl (v_isSleeper H V (fun s hs es => br_f (by decide) (s_rc H V.x0 rfl rfl (v_isGate H V (fun t ht et => br_f (by decide) (s_gI H V.x0 rfl rfl rfl (v_is (fun _ _ => br_f (by decide) (v_is (fun z w => br_f (by decide) ?_) (fun _ => br_t rfl f2))) (fun _ => br_t rfl f2)))) (fun _ => br_t rfl f1)))) (fun _ => br_t rfl f1))
  subst es
  obtain ⟨j, hj, rfl⟩ := nI_rg (n := 96) (by omega) z w
  refine v_S H V hs (s_pI H hs rfl rfl rfl (fun M2 H2 => s_pI H2 hs rfl rfl rfl (fun M3 H3 => s_pI H3 hs rfl rfl rfl (fun M4 H4 => ?_))))
  exact h _ Y _ M4 (vP_I (vP_I (vP_I P1 H2 trivial (by omega)) H3 trivial (by omega)) H4 (Or.inr ⟨j, by omega, rfl⟩) (by omega))

theorem mVI.grow28 {Y0 : mY} {S0 : mS} (P : vP g Y0 S0 Y S M) {q e : Nat} {md : Int32} {fI : Nat → Int32} {fJ : Nat → Int64} {fX : Nat → Option Nat} {fN : Nat → Nat} {xs : List Nat} {e0 : Nat} {Y1 : mY} {S1 : mS} {M1 : mM} (A : mAl Y S 28 q fI fJ fX fN xs e0 Y1 S1) (hcap : yn Y 28 < 12) (hOK : ∀ f, vOK Y 28 f (fI f)) (h3 : fI 3 = 0) (H' : mR g Y1 (uL S1 24 1 md e (List.range (yn Y 28) ++ [yn Y 28])) M1) : mVI g Y1 (uL S1 24 1 md e (List.range (yn Y 28) ++ [yn Y 28])) M1 ∧ mFm Y0 S0 Y1 (uL S1 24 1 md e (List.range (yn Y 28) ++ [yn Y 28])) ∧ (∀ k i f, qV k f = true → sI (uL S1 24 1 md e (List.range (yn Y 28) ++ [yn Y 28])) k i f = sI S k i f) ∧ yn Y1 23 = yn Y 23 ∧ yn Y1 28 = yn Y 28 + 1 ∧ sI (uL S1 24 1 md e (List.range (yn Y 28) ++ [yn Y 28])) 20 0 0 = sI S 20 0 0 := by
  obtain ⟨⟨H, V, VV, VQ, VT⟩, F, R⟩ := P
  have F1 := A.Fm (by omega)
  obtain ⟨a1, a2, a3, a4, a5, a6, -⟩ := A
  have n20 := a3 20 (by omega); have n21 := a3 21 (by omega); have n22 := a3 22 (by omega); have n23 := a3 23 (by omega); have n24 := a3 24 (by omega); have n25 := a3 25 (by omega); have n26 := a3 26 (by omega); have n27 := a3 27 (by omega); have n29 := a3 29 (by omega); have n30 := a3 30 (by omega); have n33 := a3 33 (by omega)
  have hbd := V.2.1
  have hI : ∀ k i f, ¬ (k = 28 ∧ i = yn Y 28) → k ≠ 24 → sI (uL S1 24 1 md e (List.range (yn Y 28) ++ [yn Y 28])) k i f = sI S k i f := fun k i f hk hk' => (sI_uL (by omega)).trans (congrFun (a5 k i hk).1 f)
  have hI' : ∀ f, sI (uL S1 24 1 md e (List.range (yn Y 28) ++ [yn Y 28])) 28 (yn Y 28) f = fI f := fun f => (sI_uL (by omega)).trans (congrFun a6 f)
  have hL : ∀ k i, ¬ (k = 28 ∧ i = yn Y 28) → ¬ (k = 24 ∧ i = 1) → sL (uL S1 24 1 md e (List.range (yn Y 28) ++ [yn Y 28])) k i = sL S k i := fun k i hk hk' => (sL_uL hk').trans (a5 k i hk).2.2.2.2.1
  have hL1 : sL (uL S1 24 1 md e (List.range (yn Y 28) ++ [yn Y 28])) 24 1 = List.range (yn Y 28 + 1) := sL_uL_s.trans List.range_succ.symm
  have hC : ∀ k i, k ≠ 28 → sC (uL S1 24 1 md e (List.range (yn Y 28) ++ [yn Y 28])) k i = sC S k i := fun k i hk => (a5 k i (by omega)).2.2.2.2.2.2.1
  have hP : ∀ k i x, k ≠ 28 → sP (uL S1 24 1 md e (List.range (yn Y 28) ++ [yn Y 28])) k i x = sP S k i x := fun k i x hk => congrFun (a5 k i (by omega)).2.2.2.2.2.2.2.2 x
  have FL : mFm Y S Y1 (uL S1 24 1 md e (List.range (yn Y 28) ++ [yn Y 28])) := F1.tr (mFm.uL (by omega))
  generalize uL S1 24 1 md e (List.range (yn Y 28) ++ [yn Y 28]) = S2 at H' hI hI' hL hL1 hC hP FL ⊢
  refine ⟨⟨H', ?_, ?_, ?_, ?_⟩, F.tr FL, fun k i f q => hI k i f (by have := qV_d q; omega) (by have := qV_d q; omega), n23, a2, hI 20 0 0 (by omega) (by omega)⟩
  · obtain ⟨w1, w2, ⟨p0, p1, p2, ph, p3, p4, p5⟩, ⟨v1, v2, v3⟩, ⟨u1, u2, u3, u4⟩⟩ := V
    refine ⟨by rw [n20, n21, n22, n23, n24, n25, n26, n27, n30, n33]; exact w1, by rw [n23, n29, a2]; omega, ?_, ⟨fun v hv => (hI 30 v 0 (by omega) (by omega)).trans (v1 v hv), (hC 33 0 (by omega)).trans v2, fun v hv => ?_⟩, ⟨(hC 21 0 (by omega)).trans u1, fun i hi => ?_, fun t ht => (hC 26 t (by omega)).trans (u3 t (by omega)), (hC 27 0 (by omega)).trans u4⟩⟩
    · rw [hL 24 0 (by omega) (by omega), hL1, hL 24 2 (by omega) (by omega), hL 24 3 (by omega) (by omega), n23, n29, a2]
      exact ⟨p0, rfl, p2, ph, p3, p4, fun x v hx => Nat.lt_succ_of_lt (p5 x v hx)⟩
    · rw [hP 33 0 _ (by omega), v3 v hv, a1 30 v (by omega)]
    · rw [hP 21 0 i (by omega), u2 i hi, a1 22 i (by omega)]
  · refine ⟨fun k' i f hi => ?_, fun p hp hp3 => ?_⟩
    · by_cases z : k' = 28 ∧ i = yn Y 28
      · obtain ⟨rfl, rfl⟩ := z
        rw [hI']
        exact vOK_m (by omega) (by omega) (hOK f)
      · by_cases z4 : k' = 24
        · subst z4
          exact trivial
        · rw [hI k' i f z z4]
          refine vOK_m (by omega) (by omega) (VV.1 k' i f ?_)
          by_cases zk : k' = 28
          · subst zk
            have : i ≠ yn Y 28 := fun e => z ⟨rfl, e⟩
            omega
          · rw [a3 k' zk] at hi
            exact hi
    · rw [hI 29 p 3 (by omega) (by omega)] at hp3
      rw [hI 29 p 5 (by omega) (by omega)]
      obtain ⟨b, q1, q2⟩ := VV.2 p (by omega) hp3
      exact ⟨b, by omega, q2⟩
  · refine ⟨fun t ht => ?_, fun s hs hs3 => ?_⟩
    · have ht' : t < yn Y 23 := by omega
      rw [hL 25 t (by omega) (by omega)]
      refine ⟨(VQ.1 t ht').1, fun s hs => ?_⟩
      obtain ⟨q1, q2, q3⟩ := (VQ.1 t ht').2 s hs
      rw [hI 28 s 3 (by omega) (by omega), hI 28 s 4 (by omega) (by omega)]
      exact ⟨by omega, q2, q3⟩
    · by_cases z : s = yn Y 28
      · rw [z, hI', h3] at hs3
        exact absurd hs3 (by decide)
      · rw [hI 28 s 3 (by omega) (by omega)] at hs3
        obtain ⟨t, q1, q2, q3⟩ := VQ.2 s (by omega) hs3
        exact ⟨t, by omega, by rw [hI 28 s 4 (by omega) (by omega)]; exact q2, by rw [hL 25 t (by omega) (by omega)]; exact q3⟩
  · obtain ⟨nt, hr, t1, t2, t3, t4⟩ := VT
    exact ⟨nt, hr, t1, t2, (hI 20 0 1 (by omega) (by omega)).trans t3, (hI 20 0 2 (by omega) (by omega)).trans t4⟩
theorem mVI.grow29 {Y0 : mY} {S0 : mS} (P : vP g Y0 S0 Y S M) {q e : Nat} {md : Int32} {fI : Nat → Int32} {fJ : Nat → Int64} {fX : Nat → Option Nat} {fN : Nat → Nat} {xs : List Nat} {e0 : Nat} {Y1 : mY} {S1 : mS} {M1 : mM} (A : mAl Y S 29 q fI fJ fX fN xs e0 Y1 S1) (hcap : yn Y 29 < 24) (hOK : ∀ f, vOK Y 29 f (fI f)) (h3 : fI 3 = 0) (H' : mR g Y1 (uL S1 24 2 md e (List.range (yn Y 29) ++ [yn Y 29])) M1) : vP g Y0 S0 Y1 (uL S1 24 2 md e (List.range (yn Y 29) ++ [yn Y 29])) M1 := by
  obtain ⟨⟨H, V, VV, VQ, VT⟩, F, R⟩ := P
  have F1 := A.Fm (by omega)
  obtain ⟨a1, a2, a3, a4, a5, a6, -⟩ := A
  have n20 := a3 20 (by omega); have n21 := a3 21 (by omega); have n22 := a3 22 (by omega); have n23 := a3 23 (by omega); have n24 := a3 24 (by omega); have n25 := a3 25 (by omega); have n26 := a3 26 (by omega); have n27 := a3 27 (by omega); have n28 := a3 28 (by omega); have n30 := a3 30 (by omega); have n33 := a3 33 (by omega)
  have hbd := V.2.1
  have hI : ∀ k i f, ¬ (k = 29 ∧ i = yn Y 29) → k ≠ 24 → sI (uL S1 24 2 md e (List.range (yn Y 29) ++ [yn Y 29])) k i f = sI S k i f := fun k i f hk hk' => (sI_uL (by omega)).trans (congrFun (a5 k i hk).1 f)
  have hI' : ∀ f, sI (uL S1 24 2 md e (List.range (yn Y 29) ++ [yn Y 29])) 29 (yn Y 29) f = fI f := fun f => (sI_uL (by omega)).trans (congrFun a6 f)
  have hL : ∀ k i, ¬ (k = 29 ∧ i = yn Y 29) → ¬ (k = 24 ∧ i = 2) → sL (uL S1 24 2 md e (List.range (yn Y 29) ++ [yn Y 29])) k i = sL S k i := fun k i hk hk' => (sL_uL hk').trans (a5 k i hk).2.2.2.2.1
  have hL1 : sL (uL S1 24 2 md e (List.range (yn Y 29) ++ [yn Y 29])) 24 2 = List.range (yn Y 29 + 1) := sL_uL_s.trans List.range_succ.symm
  have hC : ∀ k i, k ≠ 29 → sC (uL S1 24 2 md e (List.range (yn Y 29) ++ [yn Y 29])) k i = sC S k i := fun k i hk => (a5 k i (by omega)).2.2.2.2.2.2.1
  have hP : ∀ k i x, k ≠ 29 → sP (uL S1 24 2 md e (List.range (yn Y 29) ++ [yn Y 29])) k i x = sP S k i x := fun k i x hk => congrFun (a5 k i (by omega)).2.2.2.2.2.2.2.2 x
  have FL : mFm Y S Y1 (uL S1 24 2 md e (List.range (yn Y 29) ++ [yn Y 29])) := F1.tr (mFm.uL (by omega))
  generalize uL S1 24 2 md e (List.range (yn Y 29) ++ [yn Y 29]) = S2 at H' hI hI' hL hL1 hC hP FL ⊢
  refine ⟨⟨H', ?_, ?_, ?_, ?_⟩, F.tr FL, ⟨fun k i f q => (hI k i f (by have := qV_d q; omega) (by have := qV_d q; omega)).trans (R.1 k i f q), (a3 23 (by omega)).trans R.2.1, (a3 28 (by omega)).trans R.2.2⟩⟩
  · obtain ⟨w1, w2, ⟨p0, p1, p2, ph, p3, p4, p5⟩, ⟨v1, v2, v3⟩, ⟨u1, u2, u3, u4⟩⟩ := V
    refine ⟨by rw [n20, n21, n22, n23, n24, n25, n26, n27, n30, n33]; exact w1, by rw [n23, n28, a2]; omega, ?_, ⟨fun v hv => (hI 30 v 0 (by omega) (by omega)).trans (v1 v hv), (hC 33 0 (by omega)).trans v2, fun v hv => ?_⟩, ⟨(hC 21 0 (by omega)).trans u1, fun i hi => ?_, fun t ht => (hC 26 t (by omega)).trans (u3 t (by omega)), (hC 27 0 (by omega)).trans u4⟩⟩
    · rw [hL 24 0 (by omega) (by omega), hL 24 1 (by omega) (by omega), hL1, hL 24 3 (by omega) (by omega), n23, n28, a2]
      exact ⟨p0, p1, rfl, ph, p3, p4, p5⟩
    · rw [hP 33 0 _ (by omega), v3 v hv, a1 30 v (by omega)]
    · rw [hP 21 0 i (by omega), u2 i hi, a1 22 i (by omega)]
  · refine ⟨fun k' i f hi => ?_, fun p hp hp3 => ?_⟩
    · by_cases z : k' = 29 ∧ i = yn Y 29
      · obtain ⟨rfl, rfl⟩ := z
        rw [hI']
        exact vOK_m (by omega) (by omega) (hOK f)
      · by_cases z4 : k' = 24
        · subst z4
          exact trivial
        · rw [hI k' i f z z4]
          refine vOK_m (by omega) (by omega) (VV.1 k' i f ?_)
          by_cases zk : k' = 29
          · subst zk
            have : i ≠ yn Y 29 := fun e => z ⟨rfl, e⟩
            omega
          · rw [a3 k' zk] at hi
            exact hi
    · by_cases z : p = yn Y 29
      · rw [z, hI', h3] at hp3
        exact absurd hp3 (by decide)
      · rw [hI 29 p 3 (by omega) (by omega)] at hp3
        rw [hI 29 p 5 (by omega) (by omega), n28]
        exact VV.2 p (by omega) hp3
  · refine ⟨fun t ht => ?_, fun s hs hs3 => ?_⟩
    · have ht' : t < yn Y 23 := by omega
      rw [hL 25 t (by omega) (by omega)]
      refine ⟨(VQ.1 t ht').1, fun s hs => ?_⟩
      obtain ⟨q1, q2, q3⟩ := (VQ.1 t ht').2 s hs
      rw [hI 28 s 3 (by omega) (by omega), hI 28 s 4 (by omega) (by omega)]
      exact ⟨by omega, q2, q3⟩
    · have z : True := trivial
      · rw [hI 28 s 3 (by omega) (by omega)] at hs3
        obtain ⟨t, q1, q2, q3⟩ := VQ.2 s (by omega) hs3
        exact ⟨t, by omega, by rw [hI 28 s 4 (by omega) (by omega)]; exact q2, by rw [hL 25 t (by omega) (by omega)]; exact q3⟩
  · obtain ⟨nt, hr, t1, t2, t3, t4⟩ := VT
    exact ⟨nt, hr, t1, t2, (hI 20 0 1 (by omega) (by omega)).trans t3, (hI 20 0 2 (by omega) (by omega)).trans t4⟩
theorem v_sleeper (I : mVI g Y S M) {a b p : Int32} (hb01 : b = 0 ∨ b = 1) {κ : Int32 → mM → Prop} (h1 : ¬ (¬ a < 0 ∧ a < 6) → ∀ S' M', vP g Y S Y S' M' → sI S' 20 0 0 = 1 → κ 0 M') (h2 : (¬ a < 0 ∧ a < 6) → ¬ (¬ p < 1 ∧ p ≤ 9) → ∀ S' M', vP g Y S Y S' M' → sI S' 20 0 0 = 2 → κ 0 M') (h3 : (¬ a < 0 ∧ a < 6) → (¬ p < 1 ∧ p ≤ 9) → ¬ yn Y 28 < 12 → ∀ S' M', vP g Y S Y S' M' → sI S' 20 0 0 = 3 → κ 0 M')
    (h : ∀ Y' S' M', (¬ a < 0 ∧ a < 6) → (¬ p < 1 ∧ p ≤ 9) → yn Y 28 < 12 → mVI g Y' S' M' → mFm Y S Y' S' → sI S' 20 0 0 = 0 → (∀ k i f, qV k f = true → sI S' k i f = sI S k i f) → yn Y' 23 = yn Y 23 → yn Y' 28 = yn Y 28 + 1 → κ (nI (yn Y 28)) M') : wX14_sleeper g κ (some (yA Y 20 0)) a b p M := by
  refine v_th (vP.rf I) (fun S1 M1 P1 e1 _ => ?_)
  clear I
  have H := P1.1.1
  have V := P1.1.2.1
  have hbd := V.2.1
  refine s_rc H V.x0 rfl rfl (v_isLand (fun l hl el => br_f (by decide) (v_is (fun r1 r2 => br_f (by decide) ?_) (fun n => br_t rfl ?_))) (fun n => br_t rfl (v_rf P1 (fun S2 M2 P2 e2 _ => h1 n S2 M2 P2 e2))))
  rotate_left
  · exact v_rf P1 (fun S2 M2 P2 e2 _ => h2 (by rw [el]; exact m_in (n := 6) hl (by omega)) (fun q => n ⟨q.1, Int32.not_lt.mpr q.2⟩) S2 M2 P2 e2)
  have va : ¬ a < 0 ∧ a < 6 := by rw [el]; exact m_in (n := 6) hl (by omega)
  subst el
  refine s_gR6 H V.x0 rfl rfl rfl (s_rcL H rfl (V.l24 (by omega)) (v_szS H V (br_c (fun z => v_rf P1 (fun S2 M2 P2 e2 _ => h3 va ⟨r1, Int32.not_lt.mp r2⟩ (fun w => absurd ((nI_eq (a := yn Y 28) (b := 12) (by omega) (by omega)).mp z) (by omega)) S2 M2 P2 e2)) (fun z => ?_))))
  have hn : yn Y 28 < 12 := by
    have : yn Y 28 ≠ 12 := fun e => z (by rw [e]; rfl)
    omega
  refine r_new (fun q M2 hq h2 o2 => r_rc h2 ⟨q, rfl, r_p h2 (by simp) (fun M3 h3 o3 => r_p h3 (by simp) (fun M4 h4 o4 => r_p h4 (by simp) (fun M5 h5 o5 => r_p h5 (by simp) (fun M6 h6 o6 => ⟨hb01, r_p h6 (by simp) (fun M7 h7 o7 => r_p h7 (by simp) (fun M8 h8 o8 => ?_))⟩))))⟩)
  have hF := H.fr hq
  have H8 : mR g Y S1 M8 := H.off hF (fun q' z => (o8 q' z).trans ((o7 q' z).trans ((o6 q' z).trans ((o5 q' z).trans ((o4 q' z).trans ((o3 q' z).trans (o2 q' z)))))))
  obtain ⟨Y1, S2, H9, A⟩ := H8.alloc2 (k := 28) hF (fun f => match f with | 0 => nI l | 1 => b | 2 => p | 4 => -1 | 6 => -1 | 8 => -1 | _ => 0) (fun _ => 0) (fun _ => none) (fun _ => 0) [] 0 rfl (by decide) (by decide) (fun z => absurd z (by decide)) h8 (fun f t' ht' => by
    rcases f with _ | _ | _ | _ | _ | _ | _ | _ | _ | f <;> cases ht' <;> exact ⟨fun z => absurd z (by decide), fun z => absurd z (by decide), fun z => absurd z (by decide), fun z => absurd z (by decide)⟩)
  have hn24 : 1 < yn Y1 24 := by rw [A.2.2.1 24 (by omega)]; exact V.l24 (by omega)
  have e24 : sL S2 24 1 = List.range (yn Y 28) := ((A.2.2.2.2.1 24 1 (by omega)).2.2.2.2.1).trans V.2.2.1.2.1
  have hx1 : yn Y 28 < yn Y1 28 := by rw [A.2.1]; omega
  have e20 : 0 < yn Y1 20 := by rw [A.2.2.1 20 (by omega)]; exact V.x0
  rw [← A.2.2.2.1, ← A.1 20 0 V.x0]
  refine s_gR6 H9 e20 rfl rfl rfl (s_rcL H9 rfl hn24 (s_add (k := 24) (i := 1) (x := yn Y 28) (cap := 12) H9 rfl hn24 hx1 (by rw [e24, List.length_range]; exact hn) (by decide) (fun M9 md e H10 => ?_)))
  rw [e24] at H10
  have P2 := mVI.grow28 P1 A hn (fun f => by
    rcases f with _ | _ | _ | _ | _ | _ | _ | _ | _ | f
    · exact ⟨l, hl, rfl⟩
    · exact trivial
    · exact trivial
    · exact trivial
    · exact Or.inl rfl
    · exact trivial
    · exact trivial
    · exact trivial
    · exact Or.inl rfl
    · exact trivial) rfl H10
  refine s_gR6 H10 e20 rfl rfl rfl (s_rcL H10 rfl hn24 (v_szS H10 P2.1.2.1 ?_))
  have ev : nI (yn Y1 28) - 1 = nI (yn Y 28) := by rw [P2.2.2.2.2.1, ← nI_1]; exact Int32.add_sub_cancel _ _
  rw [ev]
  exact h Y1 _ M9 va ⟨r1, Int32.not_lt.mp r2⟩ hn P2.1 P2.2.1 (P2.2.2.2.2.2.trans e1) (fun k i f q => (P2.2.2.1 k i f q).trans (P1.2.2.1 k i f q)) P2.2.2.2.1 P2.2.2.2.2.1
theorem v_part {Y0 : mY} {S0 : mS} (P : vP g Y0 S0 Y S M) {a b p d : Int32} {κ : Int32 → mM → Prop} (h : ∀ x Y' S' M', vP g Y0 S0 Y' S' M' → κ x M') : wX14_part g κ (some (yA Y 20 0)) a b p d M := by
  refine v_th P (fun S1 M1 P1 _ _ => ?_)
  clear P
  have H := P1.1.1
  have V := P1.1.2.1
  have hbd := V.2.1
  have f2 : wX14_part_50 g κ (some (yA Y 20 0)) M1 := v_rf P1 (fun S2 M2 P2 _ _ => h 0 Y S2 M2 P2)
  have f3 : wX14_part_85 g κ (some (yA Y 20 0)) M1 := v_rf P1 (fun S2 M2 P2 _ _ => h 0 Y S2 M2 P2)
  refine s_rc H V.x0 rfl rfl (v_isSleeper H V (fun s hs es => br_f (by decide) (v_is (fun z1 w1 => br_f (by decide) (v_is (fun z2 w2 => br_f (by decide) (v_is (fun _ _ => br_f (by decide) ?_) (fun _ => br_t rfl f2))) (fun _ => br_t rfl f2))) (fun _ => br_t rfl f2))) (fun _ => br_t rfl (v_rf P1 (fun S2 M2 P2 _ _ => h 0 Y S2 M2 P2))))
  subst es
  obtain ⟨dr, hdr, rfl⟩ := nI_rg (n := 7) (by omega) z1 w1
  obtain ⟨wt, hwt, rfl⟩ := nI_rg (n := 99) (by omega) z2 w2
  refine s_gR6 H V.x0 rfl rfl rfl (s_rcL H rfl (V.l24 (by omega)) (v_szP H V (br_c (fun _ => f3) (fun z => v_S H V hs (s_gI H hs rfl rfl rfl (br_c (fun _ => ?_) (fun _ => f3)))))))
  have hn : yn Y 29 < 24 := by
    have : yn Y 29 ≠ 24 := fun e => z (by rw [e]; rfl)
    omega
  refine r_new (fun q M2 hq h2 o2 => r_rc h2 ⟨q, rfl, r_p h2 (by simp) (fun M3 h3 o3 => r_p h3 (by simp) (fun M4 h4 o4 => r_p h4 (by simp) (fun M5 h5 o5 => r_p h5 (by simp) (fun M6 h6 o6 => r_p h6 (by simp) (fun M7 h7 o7 => ?_)))))⟩)
  have hF := H.fr hq
  have H8 : mR g Y S1 M7 := H.off hF (fun q' z => (o7 q' z).trans ((o6 q' z).trans ((o5 q' z).trans ((o4 q' z).trans ((o3 q' z).trans (o2 q' z))))))
  obtain ⟨Y1, S2, H9, A⟩ := H8.alloc2 (k := 29) hF (fun f => match f with | 0 => nI dr | 1 => nI wt | 2 => d | 4 => nI s | 5 => -1 | _ => 0) (fun _ => 0) (fun _ => none) (fun _ => 0) [] 0 rfl (by decide) (by decide) (fun z => absurd z (by decide)) h7 (fun f t' ht' => by
    rcases f with _ | _ | _ | _ | _ | _ | f <;> cases ht' <;> exact ⟨fun z => absurd z (by decide), fun z => absurd z (by decide), fun z => absurd z (by decide), fun z => absurd z (by decide)⟩)
  have hn24 : 2 < yn Y1 24 := by rw [A.2.2.1 24 (by omega)]; exact V.l24 (by omega)
  have e24 : sL S2 24 2 = List.range (yn Y 29) := ((A.2.2.2.2.1 24 2 (by omega)).2.2.2.2.1).trans V.2.2.1.2.2.1
  have hx1 : yn Y 29 < yn Y1 29 := by rw [A.2.1]; omega
  have e20 : 0 < yn Y1 20 := by rw [A.2.2.1 20 (by omega)]; exact V.x0
  rw [← A.2.2.2.1, ← A.1 20 0 V.x0]
  refine s_gR6 H9 e20 rfl rfl rfl (s_rcL H9 rfl hn24 (s_add (k := 24) (i := 2) (x := yn Y 29) (cap := 24) H9 rfl hn24 hx1 (by rw [e24, List.length_range]; exact hn) (by decide) (fun M9 md e H10 => ?_)))
  rw [e24] at H10
  have P2 := mVI.grow29 P1 A hn (fun f => by
    rcases f with _ | _ | _ | _ | _ | _ | f
    · exact ⟨dr, by omega, rfl⟩
    · exact ⟨wt, hwt, rfl⟩
    · exact trivial
    · exact trivial
    · exact ⟨s, rfl, Or.inl hs⟩
    · exact trivial
    · exact trivial) rfl H10
  exact s_gR6 H10 e20 rfl rfl rfl (s_rcL H10 rfl hn24 (v_szP H10 P2.1.2.1 (h _ Y1 _ M9 P2)))
end VWR
