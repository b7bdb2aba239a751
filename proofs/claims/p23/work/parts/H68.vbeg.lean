/-! THE PURE SIDE, 19: the reference's hours -/
/-- the night and the hour -/
def vZ (S : mS) (nt hr : Nat) : Prop := sI S 20 0 1 = nI nt ∧ sI S 20 0 2 = nI hr ∧ sI S 20 0 0 = 0
theorem vZ.I {S : mS} {nt hr k i f : Nat} {v : Int32} (z : vZ S nt hr) (hk : k ≠ 20) : vZ (uI S k i f v) nt hr := ⟨(sI_uI (by omega)).trans z.1, (sI_uI (by omega)).trans z.2.1, (sI_uI (by omega)).trans z.2.2⟩
section VBEG
variable {g : Nat → Nat} {Y : mY} {S : mS} {M : mM}
theorem v_thrown (H : mR g Y S M) (V : mVs Y S) {κ : Int32 → mM → Prop} (h : κ (sI S 20 0 0) M) : wX14_thrown κ (some (yA Y 20 0)) M := s_gI H V.x0 rfl rfl rfl h
theorem v_b301 {Y0 : mY} {S0 : mS} {nt hr i : Nat} (hi : i < yn Y 23) {κ : mM → Prop} {R276 : Option Nat → Int32 → mM → Prop} (hR : ∀ S M, vP g Y0 S0 Y S M → vZ S nt hr → R276 (some (yA Y 20 0)) (nI i + 1) M) : ∀ (d j : Nat) (S : mS) (M : mM), vP g Y0 S0 Y S M → vZ S nt hr → j + d = 97 → wX14_begin_301 κ R276 (d + 1) (some (yA Y 20 0)) (nI i) (some (yA Y 23 i)) (nI j) M := by
  intro d
  induction d with
  | zero =>
    intro j S M P z hj
    have H := P.1.1
    have V := P.1.2.1
    have i356 : ∀ v, wX14_begin_356 κ R276 (some (yA Y 20 0)) (nI i) v (some (yA Y 23 i)) M := fun v => s_pI H hi rfl rfl rfl (fun M1 H1 => hR _ M1 (vP_I P H1 trivial (by omega)) (z.I (by omega)))
    rw [wX14_begin_301]
    exact br_t (show (97 : Int32) ≤ nI j from nI_le (a := 97) (by omega) (by omega)) (s_gI H V.x0 rfl rfl rfl (s_rc H hi rfl rfl (v_isOpen H hi (br_f (by decide) (s_gI H hi rfl rfl rfl (i356 _))) (br_t rfl (i356 _)))))
  | succ d ih =>
    intro j S M P z hj
    have H := P.1.1
    have V := P.1.2.1
    have hb := V.2.1
    have hC : sC S 27 0 = 776 := V.2.2.2.2.2.2.2
    have hC26 : sC S 26 i = 97 := V.2.2.2.2.2.2.1 i hi
    have i328 : ∀ S M, vP g Y0 S0 Y S M → vZ S nt hr → wX14_begin_328 κ R276 (wX14_begin_301 κ R276 (d + 1)) (some (yA Y 20 0)) (nI i) (some (yA Y 23 i)) (nI j) M := fun S M P z => by
      show wX14_begin_301 κ R276 (d + 1) (some (yA Y 20 0)) (nI i) (some (yA Y 23 i)) (nI j + 1) M
      rw [nI_1]
      exact ih (j + 1) S M P z (by omega)
    rw [wX14_begin_301]
    refine br_f (show ¬ (97 : Int32) ≤ nI j from nI_ge (b := 97) (by omega) (by omega)) (s_gR6 H V.x0 rfl rfl rfl ?_)
    rw [show (97 : Int32) = nI 97 from rfl, pk_mul, nI_add]
    refine s_ldI H V.l27 rfl (by decide) rfl (by rw [hC]; omega) (by rw [hC]; omega) (br_c (fun _ => i328 S M P z) (fun _ => ?_))
    exact s_gR7 H hi rfl rfl rfl (s_stZ H (V.l26 hi) rfl rfl (by rw [hC26]; omega) (by rw [hC26]; omega) (w := 1) (by decide) (fun M1 H1 => i328 _ M1 (vP_E P H1 (by omega)) z))
theorem v_b276 {Y0 : mY} {S0 : mS} {nt hr : Nat} {κ : mM → Prop} (h : ∀ S M, vP g Y0 S0 Y S M → vZ S nt hr → κ M) : ∀ (d j : Nat) (S : mS) (M : mM), vP g Y0 S0 Y S M → vZ S nt hr → j + d = yn Y 23 → wX14_begin_276 κ (d + 1) (some (yA Y 20 0)) (nI j) M := by
  intro d
  induction d with
  | zero =>
    intro j S M P z hj
    rw [wX14_begin_276]
    exact v_hdG P.1.1 P.1.2.1 (by omega) (fun _ => h S M P z) (fun hlt => absurd hlt (by omega))
  | succ d ih =>
    intro j S M P z hj
    rw [wX14_begin_276]
    exact v_hdG P.1.1 P.1.2.1 (by omega) (fun z => absurd z (by omega)) (fun hlt => ⟨98, v_b301 hlt (fun S M P z => by rw [nI_1]; exact ih (j + 1) S M P z (by omega)) 97 0 S M P z (by omega)⟩)
theorem v_b225 {Y0 : mY} {S0 : mS} {nt hr i t : Nat} (hi : i < yn Y 23) (ht : t < yn Y 23) {κ : mM → Prop} {R146 : Option Nat → Int32 → mM → Prop} {R159 : Option Nat → Int32 → Int32 → mM → Prop} (hR : ∀ S M, vP g Y0 S0 Y S M → vZ S nt hr → R159 (some (yA Y 20 0)) (nI i) (nI t + 1) M) : ∀ (d j : Nat) (S : mS) (M : mM), vP g Y0 S0 Y S M → vZ S nt hr → j + d = 97 → wX14_begin_225 κ R146 R159 (d + 1) (some (yA Y 20 0)) (nI i) (nI t) (some (yA Y 23 t)) (nI j) M := by
  intro d
  induction d with
  | zero =>
    intro j S M P z hj
    rw [wX14_begin_225]
    exact br_t (show (97 : Int32) ≤ nI j from nI_le (a := 97) (by omega) (by omega)) (hR S M P z)
  | succ d ih =>
    intro j S M P z hj
    have H := P.1.1
    have V := P.1.2.1
    have hb := V.2.1
    have hC : sC S 27 0 = 776 := V.2.2.2.2.2.2.2
    have hC26 : sC S 26 t = 97 := V.2.2.2.2.2.2.1 t ht
    have i256 : ∀ S M, vP g Y0 S0 Y S M → vZ S nt hr → wX14_begin_256 κ R146 R159 (wX14_begin_225 κ R146 R159 (d + 1)) (some (yA Y 20 0)) (nI i) (nI t) (some (yA Y 23 t)) (nI j) M := fun S M P z => by
      show wX14_begin_225 κ R146 R159 (d + 1) (some (yA Y 20 0)) (nI i) (nI t) (some (yA Y 23 t)) (nI j + 1) M
      rw [nI_1]
      exact ih (j + 1) S M P z (by omega)
    rw [wX14_begin_225]
    refine br_f (show ¬ (97 : Int32) ≤ nI j from nI_ge (b := 97) (by omega) (by omega)) (s_gR7 H ht rfl rfl rfl (s_ldI H (V.l26 ht) rfl (by decide) rfl (by rw [hC26]; omega) (by rw [hC26]; omega) (br_c (fun _ => i256 S M P z) (fun _ => s_gR6 H V.x0 rfl rfl rfl ?_))))
    rw [show (97 : Int32) = nI 97 from rfl, pk_mul, nI_add]
    exact s_stZ H V.l27 rfl rfl (by rw [hC]; omega) (by rw [hC]; omega) (w := 1) (by decide) (fun M1 H1 => i256 _ M1 (vP_E P H1 (by omega)) z)
theorem v_b159 {Y0 : mY} {S0 : mS} {nt hr i : Nat} (hi : i < yn Y 23) {κ : mM → Prop} {R146 : Option Nat → Int32 → mM → Prop} (hR : ∀ S M, vP g Y0 S0 Y S M → vZ S nt hr → R146 (some (yA Y 20 0)) (nI i + 1) M) : ∀ (d j : Nat) (S : mS) (M : mM), vP g Y0 S0 Y S M → vZ S nt hr → j + d = yn Y 23 → wX14_begin_159 κ R146 (d + 1) (some (yA Y 20 0)) (nI i) (nI j) M := by
  intro d
  induction d with
  | zero =>
    intro j S M P z hj
    have H := P.1.1
    have V := P.1.2.1
    have hb := V.2.1
    rw [wX14_begin_159]
    exact s_gR6 H V.x0 rfl rfl rfl (s_rcL H rfl (V.l24 (by omega)) (v_szG H V (br_t (nI_le (by omega) (by omega)) (hR S M P z))))
  | succ d ih =>
    intro j S M P z hj
    have H := P.1.1
    have V := P.1.2.1
    have hb := V.2.1
    have hlt : j < yn Y 23 := by omega
    have i262 : ∀ S M, vP g Y0 S0 Y S M → vZ S nt hr → wX14_begin_262 κ R146 (wX14_begin_159 κ R146 (d + 1)) (some (yA Y 20 0)) (nI i) (nI j) M := fun S M P z => by
      show wX14_begin_159 κ R146 (d + 1) (some (yA Y 20 0)) (nI i) (nI j + 1) M
      rw [nI_1]
      exact ih (j + 1) S M P z (by omega)
    have i222 : wX14_begin_222 κ R146 (wX14_begin_159 κ R146 (d + 1)) (some (yA Y 20 0)) (nI i) (nI j) (some (yA Y 23 j)) M := ⟨98, v_b225 hi hlt (fun S M P z => i262 S M P z) 97 0 S M P z (by omega)⟩
    rw [wX14_begin_159]
    refine s_gR6 H V.x0 rfl rfl rfl (s_rcL H rfl (V.l24 (by omega)) (v_szG H V (br_f (nI_ge hlt (by omega)) (v_G H V hi (v_G H V hlt (s_gI H hlt rfl rfl rfl (s_rc H hi rfl rfl ?_)))))))
    exact v_has H hi (br_f (by decide) i222) (br_t rfl (s_gI H hlt rfl rfl rfl (s_rc H hi rfl rfl (v_has H hi (br_f (by decide) i222) (br_t rfl (i262 S M P z))))))
theorem v_b146 {Y0 : mY} {S0 : mS} {nt hr : Nat} {κ : mM → Prop} (h : ∀ S M, vP g Y0 S0 Y S M → vZ S nt hr → κ M) : ∀ (d j : Nat) (S : mS) (M : mM), vP g Y0 S0 Y S M → vZ S nt hr → j + d = yn Y 23 → wX14_begin_146 κ (d + 1) (some (yA Y 20 0)) (nI j) M := by
  intro d
  induction d with
  | zero =>
    intro j S M P z hj
    have H := P.1.1
    have V := P.1.2.1
    have hb := V.2.1
    rw [wX14_begin_146]
    exact s_gR6 H V.x0 rfl rfl rfl (s_rcL H rfl (V.l24 (by omega)) (v_szG H V (br_t (nI_le (by omega) (by omega)) ⟨yn Y 23 + 1, v_b276 h (yn Y 23) 0 S M P z (by omega)⟩)))
  | succ d ih =>
    intro j S M P z hj
    have H := P.1.1
    have V := P.1.2.1
    have hb := V.2.1
    rw [wX14_begin_146]
    exact s_gR6 H V.x0 rfl rfl rfl (s_rcL H rfl (V.l24 (by omega)) (v_szG H V (br_f (nI_ge (by omega) (by omega)) ⟨yn Y 23 + 1, v_b159 (by omega) (fun S M P z => by rw [nI_1]; exact ih (j + 1) S M P z (by omega)) (yn Y 23) 0 S M P z (by omega)⟩)))
theorem v_b122 {Y0 : mY} {S0 : mS} {nt hr : Nat} {κ : mM → Prop} (h : ∀ S M, vP g Y0 S0 Y S M → vZ S nt hr → κ M) : ∀ (d j : Nat) (S : mS) (M : mM), vP g Y0 S0 Y S M → vZ S nt hr → j + d = 776 → wX14_begin_122 κ (d + 1) (some (yA Y 20 0)) (nI j) M := by
  intro d
  induction d with
  | zero =>
    intro j S M P z hj
    have H := P.1.1
    have V := P.1.2.1
    have hC : sC S 27 0 = 776 := V.2.2.2.2.2.2.2
    rw [wX14_begin_122]
    refine s_gR6 H V.x0 rfl rfl rfl (s_lenI H V.l27 (by decide) rfl ?_)
    rw [hC]
    exact br_t (nI_le (by omega) (by omega)) ⟨yn Y 23 + 1, v_b146 h (yn Y 23) 0 S M P z (by omega)⟩
  | succ d ih =>
    intro j S M P z hj
    have H := P.1.1
    have V := P.1.2.1
    have hC : sC S 27 0 = 776 := V.2.2.2.2.2.2.2
    rw [wX14_begin_122]
    refine s_gR6 H V.x0 rfl rfl rfl (s_lenI H V.l27 (by decide) rfl ?_)
    rw [hC]
    refine br_f (nI_ge (by omega) (by omega)) (s_gR6 H V.x0 rfl rfl rfl (s_stZ H V.l27 rfl rfl (by rw [hC]; omega) (by rw [hC]; omega) (w := 0) (by decide) (fun M1 H1 => ?_)))
    rw [nI_1]
    exact ih (j + 1) _ M1 (vP_E P H1 (by omega)) z (by omega)
theorem v_b120 {Y0 : mY} {S0 : mS} {nt hr : Nat} {κ : mM → Prop} (h : ∀ S M, vP g Y0 S0 Y S M → vZ S nt hr → κ M) {S : mS} {M : mM} (P : vP g Y0 S0 Y S M) (z : vZ S nt hr) : wX14_begin_120 κ (some (yA Y 20 0)) M := ⟨777, v_b122 h 776 0 S M P z (by omega)⟩
theorem v_b74 {Y0 : mY} {S0 : mS} {nt hr i : Nat} {κ : mM → Prop} (h : ∀ S M, vP g Y0 S0 Y S M → vZ S nt hr → κ M) : ∀ (d c : Nat) (S : mS) (M : mM), vP g Y0 S0 Y S M → vZ S nt hr → vIt Y S i 1 c → c + d = yn Y 28 → wX14_begin_74 κ (d + 1) (some (yA Y 20 0)) (some (yA Y 32 i)) M := by
  intro d
  induction d with
  | zero =>
    intro c S M P z I hc
    have V := P.1.2.1
    have hl : (sL S 24 1).length = yn Y 28 := by rw [V.2.2.1.2.1, List.length_range]
    rw [wX14_begin_74]
    exact s_rc P.1.1 I.1 rfl rfl (v_hasNext P.1.1 (V.l24 (by omega)) I (by omega) (fun z => absurd z (by omega)) (fun _ => br_t rfl (v_b120 h P z)))
  | succ d ih =>
    intro c S M P z I hc
    have V := P.1.2.1
    have hl : (sL S 24 1).length = yn Y 28 := by rw [V.2.2.1.2.1, List.length_range]
    have hx : (sL S 24 1)[c]? = some c := by rw [V.2.2.1.2.1, List.getElem?_range (by omega)]
    have hlt : c < yn Y 28 := by omega
    rw [wX14_begin_74]
    refine s_rc P.1.1 I.1 rfl rfl (v_hasNext P.1.1 (V.l24 (by omega)) I (by omega) (fun _ => br_f (by decide) ?_) (fun z => absurd z (by omega)))
    refine v_next P.1.1 (V.l24 (by omega)) I hx (fun M1 H1 => s_cast H1 hlt rfl rfl ?_)
    have P1 := vP_nx P H1
    have z1 : vZ (uI (uI S 32 i 0 (nI (c + 1))) 32 i 1 (nI c)) nt hr := (z.I (by omega)).I (by omega)
    have I1 := I.nx
    have i117 : wX14_begin_117 κ (wX14_begin_74 κ (d + 1)) (some (yA Y 20 0)) (some (yA Y 32 i)) M1 := ih (c + 1) _ M1 P1 z1 I1 (by omega)
    refine s_gI H1 hlt rfl rfl rfl (br_c (fun _ => i117) (fun _ => s_gI H1 hlt rfl rfl rfl (s_gI H1 P1.1.2.1.x0 rfl rfl rfl (br_c (fun _ => i117) (fun _ => s_pI H1 hlt rfl rfl rfl (fun M2 H2 => ?_))))))
    exact ih (c + 1) _ M2 (vP_I P1 H2 (Or.inl rfl) (by omega)) (z1.I (by omega)) ⟨I1.1, (sI_uI (by omega)).trans I1.2.1, ((sI_uI (by omega)).trans I1.2.2.1).trans (sI_uI (by omega)).symm, I1.2.2.2⟩ (by omega)
theorem v_b44 {Y0 : mY} {S0 : mS} {nt hr : Nat} {κ : mM → Prop} (h : ∀ Y' S M, vP g Y0 S0 Y' S M → vZ S nt hr → yA Y' 20 0 = yA Y 20 0 → κ M) : ∀ (d j : Nat) (S : mS) (M : mM), vP g Y0 S0 Y S M → vZ S nt hr → j + d = 6 → wX14_begin_44 κ (d + 1) (some (yA Y 20 0)) (some (yA Y 21 0)) (nI 6) (nI j) M := by
  intro d
  induction d with
  | zero =>
    intro j S M P z hj
    have H := P.1.1
    have V := P.1.2.1
    rw [wX14_begin_44]
    refine br_t (nI_le (by omega) (by omega)) (s_gR6 H V.x0 rfl rfl rfl (s_rcL H rfl (V.l24 (by omega)) (v_iter (by omega) P (fun Y1 S1 M1 i P1 a I => ?_))))
    rw [← a.1 20 0 V.x0]
    have z1 : vZ S1 nt hr := ⟨(congrFun (a.2.2.2 20 0 (by omega)).1 1).trans z.1, (congrFun (a.2.2.2 20 0 (by omega)).1 2).trans z.2.1, (congrFun (a.2.2.2 20 0 (by omega)).1 0).trans z.2.2⟩
    exact ⟨yn Y1 28 + 1, v_b74 (fun S M P z => h Y1 S M P z (a.1 20 0 V.x0)) (yn Y1 28) 0 S1 M1 P1 z1 I (by omega)⟩
  | succ d ih =>
    intro j S M P z hj
    have H := P.1.1
    have V := P.1.2.1
    have hl6 : j < 6 := by omega
    rw [wX14_begin_44]
    refine br_f (nI_ge hl6 (by omega)) (s_ldR H V.l21 rfl (by decide) rfl (by rw [V.2.2.2.2.1]; exact hl6) (by rw [V.2.2.2.2.1]; omega) ?_)
    rw [V.2.2.2.2.2.1 j hl6]
    refine s_pI H (V.l22 hl6) rfl rfl rfl (fun M1 H1 => ?_)
    rw [nI_1]
    exact ih (j + 1) _ M1 (vP_I P H1 trivial (by omega)) (z.I (by omega)) (by omega)
/-- inside an hour: night and hour are told -/
def vT (g : Nat → Nat) (Y0 : mY) (S0 : mS) (Y : mY) (S : mS) (M : mM) (nt hr : Nat) : Prop := mVI g Y S M ∧ mFm Y0 S0 Y S ∧ (∀ k i f, qV k f = true → k ≠ 20 → sI S k i f = sI S0 k i f) ∧ yn Y 23 = yn Y0 23 ∧ yn Y 28 = yn Y0 28 ∧ vZ S nt hr
theorem vT.P {Y0 Y' : mY} {S0 S' : mS} {M' : mM} {nt hr : Nat} (T : vT g Y0 S0 Y S M nt hr) (h : vP g Y S Y' S' M') (z : vZ S' nt hr) : vT g Y0 S0 Y' S' M' nt hr := ⟨h.1, T.2.1.tr h.2.1, fun k i f q hk => (h.2.2.1 k i f q).trans (T.2.2.1 k i f q hk), h.2.2.2.1.trans T.2.2.2.1, h.2.2.2.2.trans T.2.2.2.2.1, z⟩
theorem v_begin {Y0 : mY} {S0 : mS} {nt hr : Nat} (T : vT g Y0 S0 Y S M nt hr) (hn : nt ≤ 99) (hh : hr ≤ 23) (hs : 24 * nt + hr + 1 ≤ 2399) {κ : mM → Prop} (h : ∀ Y' S' M' nt' hr', vT g Y0 S0 Y' S' M' nt' hr' → nt' ≤ 99 → hr' ≤ 23 → 24 * nt' + hr' = 24 * nt + hr + 1 → yA Y' 20 0 = yA Y 20 0 → κ M') : wX14_begin κ (some (yA Y 20 0)) M := by
  obtain ⟨⟨H, V, VV, VQ, VT⟩, F, R, c1, c2, z⟩ := T
  refine s_gI H V.x0 rfl rfl rfl ?_
  rw [z.2.1, nI_1]
  refine s_pI H V.x0 rfl rfl rfl (fun M1 H1 => s_gI H1 V.x0 rfl rfl rfl ?_)
  rw [sI_uI_s]
  have V1 : mVs Y (uI S 20 0 2 (nI (hr + 1))) := vS_uI V (by omega)
  have VV1 : mVv Y (uI S 20 0 2 (nI (hr + 1))) := vV_uI (k := 20) VV trivial (by omega)
  have VQ1 : mVq Y (uI S 20 0 2 (nI (hr + 1))) := vQ_uI VQ (by omega)
  have F1 : mFm Y0 S0 Y (uI S 20 0 2 (nI (hr + 1))) := F.tr (mFm.uI (by omega))
  refine br_c (fun e => ?_) (fun e => ?_)
  · have eh : hr + 1 = 24 := (nI_eq (by omega) (by omega)).mp (show nI (hr + 1) = nI 24 from e)
    refine s_pI H1 V.x0 rfl rfl rfl (fun M2 H2 => s_gI H2 V.x0 rfl rfl rfl ?_)
    have e1 : sI (uI (uI S 20 0 2 (nI (hr + 1))) 20 0 2 0) 20 0 1 = nI nt := ((sI_uI (by omega)).trans (sI_uI (by omega))).trans z.1
    rw [e1, nI_1]
    refine s_pI H2 V.x0 rfl rfl rfl (fun M3 H3 => ?_)
    have z3 : vZ (uI (uI (uI S 20 0 2 (nI (hr + 1))) 20 0 2 0) 20 0 1 (nI (nt + 1))) (nt + 1) 0 := ⟨sI_uI_s, (sI_uI (by omega)).trans sI_uI_s, ((sI_uI (by omega)).trans ((sI_uI (by omega)).trans (sI_uI (by omega)))).trans z.2.2⟩
    have I3 : mVI g Y (uI (uI (uI S 20 0 2 (nI (hr + 1))) 20 0 2 0) 20 0 1 (nI (nt + 1))) M3 := ⟨H3, vS_uI (vS_uI V1 (by omega)) (by omega), vV_uI (k := 20) (vV_uI (k := 20) VV1 trivial (by omega)) trivial (by omega), vQ_uI (vQ_uI VQ1 (by omega)) (by omega), ⟨nt + 1, 0, by omega, by omega, z3.1, z3.2.1⟩⟩
    have T3 : vT g Y0 S0 Y (uI (uI (uI S 20 0 2 (nI (hr + 1))) 20 0 2 0) 20 0 1 (nI (nt + 1))) M3 (nt + 1) 0 := ⟨I3, (F1.tr (mFm.uI (by omega))).tr (mFm.uI (by omega)), fun k i f q hk => ((sI_uI (by omega)).trans ((sI_uI (by omega)).trans (sI_uI (by omega)))).trans (R k i f q hk), c1, c2, z3⟩
    refine s_gR6 H3 V.x0 rfl rfl rfl (s_lenR H3 V.l21 (by decide) rfl ?_)
    rw [I3.2.1.2.2.2.2.1]
    exact ⟨7, v_b44 (fun Y' S' M' P' z' ea => h Y' S' M' (nt + 1) 0 (T3.P P' z') (by omega) (by omega) (by omega) ea) 6 0 _ M3 (vP.rf I3) z3 (by omega)⟩
  · have eh : hr + 1 ≠ 24 := fun q => e (by rw [q]; rfl)
    have z1 : vZ (uI S 20 0 2 (nI (hr + 1))) nt (hr + 1) := ⟨(sI_uI (by omega)).trans z.1, sI_uI_s, (sI_uI (by omega)).trans z.2.2⟩
    have I1 : mVI g Y (uI S 20 0 2 (nI (hr + 1))) M1 := ⟨H1, V1, VV1, VQ1, ⟨nt, hr + 1, hn, by omega, z1.1, z1.2.1⟩⟩
    have T1 : vT g Y0 S0 Y (uI S 20 0 2 (nI (hr + 1))) M1 nt (hr + 1) := ⟨I1, F1, fun k i f q hk => (sI_uI (by omega)).trans (R k i f q hk), c1, c2, z1⟩
    exact v_b120 (fun S' M' P' z' => h Y S' M' nt (hr + 1) (T1.P P' z') hn (by omega) (by omega) rfl) (vP.rf I1) z1
theorem v_p48 {Y0 : mY} {S0 : mS} {n tot : Nat} (hn : n ≤ 48) {κ : Int32 → mM → Prop} (h : ∀ Y' S' M' nt' hr', vT g Y0 S0 Y' S' M' nt' hr' → nt' ≤ 99 → hr' ≤ 23 → 24 * nt' + hr' = tot → κ (nI hr') M') : ∀ (d j nt hr : Nat) (Y : mY) (S : mS) (M : mM), vT g Y0 S0 Y S M nt hr → nt ≤ 99 → hr ≤ 23 → 24 * nt + hr + d ≤ 2399 → 24 * nt + hr + d = tot → j + d = n → wX14_pass_48 κ (d + 1) j (4 * j) (some (yA Y 20 0)) (nI n) (nI j) M := by
  intro d
  induction d with
  | zero =>
    intro j nt hr Y S M T h1 h2 h3 h4 hj
    rw [wX14_pass_48]
    refine ⟨⟨by omega, by omega⟩, br_t (nI_le (by omega) (by omega)) (s_gI T.1.1 T.1.2.1.x0 rfl rfl rfl ?_)⟩
    rw [T.2.2.2.2.2.2.1]
    exact ⟨⟨by omega, by omega⟩, h Y S M nt hr T h1 h2 (by omega)⟩
  | succ d ih =>
    intro j nt hr Y S M T h1 h2 h3 h4 hj
    rw [wX14_pass_48]
    refine ⟨⟨by omega, by omega⟩, br_f (nI_ge (by omega) (by omega)) ⟨⟨by omega, by omega⟩, s_rc T.1.1 T.1.2.1.x0 rfl rfl (v_begin T h1 h2 (by omega) (fun Y1 S1 M1 nt' hr' T1 q1 q2 q3 ea => ?_))⟩⟩
    rw [← ea, nI_1]
    exact ih (j + 1) nt' hr' Y1 S1 M1 T1 q1 q2 (by omega) (by omega) (by omega)
theorem v_pass (I : mVI g Y S M) {a : Int32} {κ : Int32 → mM → Prop} (h1 : ¬ (¬ a < 1 ∧ a ≤ 48) → ∀ S' M', vP g Y S Y S' M' → sI S' 20 0 0 = 1 → κ 0 M') (h2 : (¬ a < 1 ∧ a ≤ 48) → ¬ sI S 20 0 1 + (sI S 20 0 2 + a) / 24 ≤ 99 → ∀ S' M', vP g Y S Y S' M' → sI S' 20 0 0 = 2 → κ 0 M')
    (h : ∀ n nt hr Y' S' M' nt' hr', n ≤ 48 → a = nI n → (¬ a < 1 ∧ a ≤ 48) → nt ≤ 99 → hr ≤ 23 → sI S 20 0 1 = nI nt → sI S 20 0 2 = nI hr → sI S 20 0 1 + (sI S 20 0 2 + a) / 24 ≤ 99 → 24 * nt + hr + n ≤ 2399 → vT g Y S Y' S' M' nt' hr' → nt' ≤ 99 → hr' ≤ 23 → 24 * nt' + hr' = 24 * nt + hr + n → κ (nI hr') M') : wX14_pass κ (some (yA Y 20 0)) a M := by
  refine v_th (vP.rf I) (fun S1 M1 P1 e0 _ => ?_)
  have H := P1.1.1
  have V := P1.1.2.1
  obtain ⟨nt, hr, t1, t2, t3, t4⟩ := P1.1.2.2.2.2
  have s1 : sI S 20 0 1 = nI nt := (P1.2.2.1 20 0 1 rfl).symm.trans t3
  have s2 : sI S 20 0 2 = nI hr := (P1.2.2.1 20 0 2 rfl).symm.trans t4
  refine v_is (fun z w => br_f (by decide) ?_) (fun q => br_t rfl (v_rf P1 (fun S2 M2 P2 e2 _ => ⟨⟨by omega, by omega⟩, h1 (fun r => q ⟨r.1, Int32.not_lt.mpr r.2⟩) S2 M2 P2 e2⟩)))
  have rg : ¬ a < 1 ∧ a ≤ 48 := ⟨z, Int32.not_lt.mp w⟩
  obtain ⟨n, hn, ea⟩ := nI_rg (v := a) (n := 48) (by omega) (fun q => z (Int32.lt_trans q (by decide))) w
  have ec : sI S 20 0 1 + (sI S 20 0 2 + a) / 24 = nI (nt + (hr + n) / 24) := by rw [s1, s2, ea, nI_add, show (24 : Int32) = nI 24 from rfl, pk_div (by omega) (by omega) (by omega), nI_add]
  refine s_gI H V.x0 rfl rfl rfl (s_gI H V.x0 rfl rfl rfl ?_)
  have ec1 : sI S1 20 0 1 + (sI S1 20 0 2 + a) / 24 = sI S 20 0 1 + (sI S 20 0 2 + a) / 24 := by rw [P1.2.2.1 20 0 1 rfl, P1.2.2.1 20 0 2 rfl]
  rw [ec1]
  refine br_c (fun q => ?_) (fun q => v_rf P1 (fun S2 M2 P2 e2 _ => ⟨⟨by omega, by omega⟩, h2 rg q S2 M2 P2 e2⟩))
  have q' : nt + (hr + n) / 24 ≤ 99 := by
    have q2 := q
    rw [ec] at q2
    exact (nI_leI (by omega) (by omega)).mp (show nI (nt + (hr + n) / 24) ≤ nI 99 from q2)
  have ea' := ea
  subst ea
  exact ⟨n + 1, v_p48 (tot := 24 * nt + hr + n) hn (fun Y' S' M' nt' hr' T b1 b2 b3 => h n nt hr Y' S' M' nt' hr' hn rfl rg t1 t2 s1 s2 q (by omega) T b1 b2 b3) n 0 nt hr Y S1 M1 ⟨P1.1, P1.2.1, fun k i f qq _ => P1.2.2.1 k i f qq, P1.2.2.2.1, P1.2.2.2.2, ⟨t3, t4, e0⟩⟩ t1 t2 (by omega) rfl (by omega)⟩
end VBEG
