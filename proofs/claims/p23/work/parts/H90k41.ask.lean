/-! THE SIMULATION, 31: parts, lands, passes, nights asked, of both sides -/
theorem b_no5 {b : Int32} (q0 : ¬ b = 0) (q1 : ¬ b = 1) (q2 : ¬ b = 2) (q3 : ¬ b = 3) (q4 : ¬ b = 4) (q5 : ¬ b = 5) : ¬ (¬ b < 0 ∧ ¬ 5 < b) := by
  intro w
  obtain ⟨j, hj, e⟩ := b_rg (n := 5) (by omega) (show ¬ b < 0 ∧ ¬ nI 5 < b from w)
  have hj' : j = 0 ∨ j = 1 ∨ j = 2 ∨ j = 3 ∨ j = 4 ∨ j = 5 := by omega
  rcases hj' with rfl | rfl | rfl | rfl | rfl | rfl
  · exact q0 e
  · exact q1 e
  · exact q2 e
  · exact q3 e
  · exact q4 e
  · exact q5 e
theorem b_no8 {b : Int32} (q0 : ¬ b = 0) (q1 : ¬ b = 1) (q2 : ¬ b = 2) (q3 : ¬ b = 3) (q4 : ¬ b = 4) (q5 : ¬ b = 5) (q6 : ¬ b = 6) (q7 : ¬ b = 7) (q8 : ¬ b = 8) : ¬ (¬ b < 0 ∧ ¬ 8 < b) := by
  intro w
  obtain ⟨j, hj, e⟩ := b_rg (n := 8) (by omega) (show ¬ b < 0 ∧ ¬ nI 8 < b from w)
  have hj' : j = 0 ∨ j = 1 ∨ j = 2 ∨ j = 3 ∨ j = 4 ∨ j = 5 ∨ j = 6 ∨ j = 7 ∨ j = 8 := by omega
  rcases hj' with rfl | rfl | rfl | rfl | rfl | rfl | rfl | rfl | rfl
  · exact q0 e
  · exact q1 e
  · exact q2 e
  · exact q3 e
  · exact q4 e
  · exact q5 e
  · exact q6 e
  · exact q7 e
  · exact q8 e
theorem b_no16 {b : Int32} (q0 : ¬ b = 0) (q1 : ¬ b = 1) (q2 : ¬ b = 2) (q3 : ¬ b = 3) (q4 : ¬ b = 4) (q5 : ¬ b = 5) (q6 : ¬ b = 6) (q7 : ¬ b = 7) (q8 : ¬ b = 8) (q9 : ¬ b = 9) (q10 : ¬ b = 10) (q11 : ¬ b = 11) (q12 : ¬ b = 12) (q13 : ¬ b = 13) (q14 : ¬ b = 14) (q15 : ¬ b = 15) (q16 : ¬ b = 16) : ¬ (¬ b < 0 ∧ ¬ 16 < b) := by
  intro w
  obtain ⟨j, hj, e⟩ := b_rg (n := 16) (by omega) (show ¬ b < 0 ∧ ¬ nI 16 < b from w)
  have hj' : j = 0 ∨ j = 1 ∨ j = 2 ∨ j = 3 ∨ j = 4 ∨ j = 5 ∨ j = 6 ∨ j = 7 ∨ j = 8 ∨ j = 9 ∨ j = 10 ∨ j = 11 ∨ j = 12 ∨ j = 13 ∨ j = 14 ∨ j = 15 ∨ j = 16 := by omega
  rcases hj' with rfl | rfl | rfl | rfl | rfl | rfl | rfl | rfl | rfl | rfl | rfl | rfl | rfl | rfl | rfl | rfl | rfl
  · exact q0 e
  · exact q1 e
  · exact q2 e
  · exact q3 e
  · exact q4 e
  · exact q5 e
  · exact q6 e
  · exact q7 e
  · exact q8 e
  · exact q9 e
  · exact q10 e
  · exact q11 e
  · exact q12 e
  · exact q13 e
  · exact q14 e
  · exact q15 e
  · exact q16 e
section SIM31
variable {g : Nat → Nat} {Y : mY} {S : mS} {M : mM} {N : mN}
theorem C_ofP4 (R : RC 99 N Y S) (H : mR g Y S M) (W : mWs Y S) {p : Nat} (hp : p < yn Y 5) {κ : Int32 → mM → Prop} (h : κ (nLo N p) M) : m_rc M (some (yA Y 5 p)) 8 fun b15 => wX3_whereabouts (fun x13 M14 => ((x13 = none → κ (-1) M14) ∧ (¬ (x13 = none) → m_rc M14 (some (yA Y 5 p)) 8 fun b19 => wX3_whereabouts (fun x17 M18 => m_gI M18 x17 7 0 fun x20 => κ x20 M18) (some b19) M14))) (some b15) M := by
  rw [R.lo H W hp] at h
  refine s_rc H hp rfl rfl (c_whereabouts H hp ?_)
  cases hx : cWh S p with
  | none =>
    rw [hx] at h
    exact br_t rfl h
  | some l =>
    rw [hx] at h
    have hl := cWh_l H hp l hx
    refine br_f (fun z => by cases z) (s_rc H hp rfl rfl (c_whereabouts H hp ?_))
    rw [hx]
    refine s_gI H hl rfl rfl rfl ?_
    rw [W.2.2.2.1.1 l (W.l2' hl)]
    exact h
theorem C_ofP5 (R : RC 99 N Y S) (H : mR g Y S M) (W : mWs Y S) {p : Nat} (hp : p < yn Y 5) {κ : Int32 → mM → Prop} (h : κ (if 100 ≤ nv N 29 p 4 then -1 else nv N 29 p 4) M) : m_gR M (some (yA Y 5 p)) 8 5 fun x => ((x = none → κ (-1) M) ∧ (¬ (x = none) → m_gR M (some (yA Y 5 p)) 8 5 fun x14 => m_gI M x14 11 0 fun x15 => κ x15 M)) := by
  have hb := W.2.1
  refine s_gR3 H hp rfl rfl rfl ?_
  cases hx : sX S 5 p 5 with
  | none =>
    rw [if_pos (Int32.not_lt.mp (R.at0 H W hp hx))] at h
    exact br_t rfl h
  | some s =>
    have hs := H.lX (k := 5) (f := 5) (kt := 4) hp rfl s hx
    have e := (R.at1 hp hx).2
    rw [e, if_neg (show ¬ (100 : Int32) ≤ nI s from fun w => absurd (nI_lt (a := s) (b := 100) (by omega) (by omega)) (Int32.not_lt.mpr w))] at h
    refine br_f (fun z => by cases z) (s_gR3 H hp rfl rfl rfl ?_)
    rw [hx]
    refine s_gI H hs rfl rfl rfl ?_
    rw [W.2.2.2.1.2.2.1 s hs]
    exact h
theorem C_ofPart (H : mR g Y S M) (W : mWs Y S) (Q : mWq Y S) (R : RC 99 N Y S) {a b : Int32} {κ : Int32 → mM → Prop} {ξ : String → mM → Prop} (h1 : (fOfPart N a b).1 = 1 → ξ "java/lang/IndexOutOfBoundsException" M) (h2 : (fOfPart N a b).1 = 2 → ξ "java/lang/IllegalArgumentException" M)
    (h : ∀ v N' Y' S' M', fOfPart N a b = (0, v, N') → cX g N' Y S Y' S' M' → κ v M') : wX8_ofPart κ ξ (some (yA Y 0 0)) a b M := by
  have hb := W.2.1
  unfold fOfPart at h1 h2 h
  rw [← R.1.2.2] at h1 h2 h
  refine s_rc H W.x0 rfl rfl (c_partN H W (fun p hp ep => ?_) (fun z => h1 (by rw [if_pos z])))
  have ha : ¬ a < 0 ∧ a < nI (yn Y 5) := by rw [ep]; exact m_in hp (by omega)
  rw [if_neg (fun w => w ha)] at h2 h
  have tp : tN a = p := by rw [ep, tN_nI (by omega)]
  have ok : ∀ v, v = vPart N p b → (¬ b < 0 ∧ ¬ 5 < b) → κ v M := fun v ev hbk => h v N Y S M (by rw [if_neg (fun w => w hbk), tp, ev]) (cX.rf H W Q R)
  exact br_c (fun q0 => s_gI H hp rfl rfl rfl (ok _ ((R.2.1 5 p 1 29 0 rfl hp (by omega)).trans (by unfold vPart; rw [if_pos q0])) (by rw [q0]; decide))) (fun q0 => br_c (fun q1 => s_gI H hp rfl rfl rfl (ok _ ((R.2.1 5 p 2 29 1 rfl hp (by omega)).trans (by unfold vPart; rw [if_neg q0, if_pos q1])) (by rw [q1]; decide))) (fun q1 => br_c (fun q2 => s_gI H hp rfl rfl rfl (ok _ ((R.2.1 5 p 3 29 2 rfl hp (by omega)).trans (by unfold vPart; rw [if_neg q0, if_neg q1, if_pos q2])) (by rw [q2]; decide))) (fun q2 => br_c (fun q3 => s_gI H hp rfl rfl rfl (ok _ ((R.2.1 5 p 4 29 3 rfl hp (by omega)).trans (by unfold vPart; rw [if_neg q0, if_neg q1, if_neg q2, if_pos q3])) (by rw [q3]; decide))) (fun q3 => br_c (fun q4 => C_ofP4 R H W hp (ok _ (by unfold vPart; rw [if_neg q0, if_neg q1, if_neg q2, if_neg q3, if_pos q4]) (by rw [q4]; decide))) (fun q4 => br_c (fun q5 => C_ofP5 R H W hp (ok _ (by unfold vPart; rw [if_neg q0, if_neg q1, if_neg q2, if_neg q3, if_neg q4]) (by rw [q5]; decide))) (fun q5 => h2 (by rw [if_pos (b_no5 q0 q1 q2 q3 q4 q5)])))))))
theorem C_ofLand (H : mR g Y S M) (W : mWs Y S) (Q : mWq Y S) (R : RC 99 N Y S) {a b : Int32} {κ : Int32 → mM → Prop} {ξ : String → mM → Prop} (h1 : (fOfLand N a b).1 = 1 → ξ "java/lang/IndexOutOfBoundsException" M) (h2 : (fOfLand N a b).1 = 2 → ξ "java/lang/IllegalArgumentException" M)
    (h : ∀ v N' Y' S' M', fOfLand N a b = (0, v, N') → cX g N' Y S Y' S' M' → κ v M') : wX8_ofLand κ ξ (some (yA Y 0 0)) a b M := by
  have hb := W.2.1
  unfold fOfLand at h1 h2 h
  refine s_rc H W.x0 rfl rfl (c_landN H W (fun l hl6 ep => ?_) (fun z => h1 (by rw [if_pos z])))
  have ha : ¬ a < 0 ∧ a < 6 := by rw [ep]; exact m_in (n := 6) hl6 (by omega)
  rw [if_neg (fun w => w ha)] at h2 h
  have tp : tN a = l := by rw [ep, tN_nI (by omega)]
  have ok : ∀ v, v = vLand N l b → (¬ b < 0 ∧ ¬ 8 < b) → κ v M := fun v ev hbk => h v N Y S M (by rw [if_neg (fun w => w hbk), tp, ev]) (cX.rf H W Q R)
  have hl := W.l2 hl6
  exact br_c (fun q0 => s_gI H hl rfl rfl rfl (ok _ ((R.2.1 2 l 1 22 0 rfl hl (by omega)).trans (by unfold vLand; rw [if_pos q0])) (by rw [q0]; decide))) (fun q0 => br_c (fun q1 => s_gI H hl rfl rfl rfl (ok _ ((R.2.1 2 l 2 22 1 rfl hl (by omega)).trans (by unfold vLand; rw [if_neg q0, if_pos q1])) (by rw [q1]; decide))) (fun q1 => br_c (fun q2 => s_gI H hl rfl rfl rfl (ok _ ((R.2.1 2 l 3 22 2 rfl hl (by omega)).trans (by unfold vLand; rw [if_neg q0, if_neg q1, if_pos q2])) (by rw [q2]; decide))) (fun q2 => br_c (fun q3 => s_gI H hl rfl rfl rfl (ok _ ((R.2.1 2 l 4 22 3 rfl hl (by omega)).trans (by unfold vLand; rw [if_neg q0, if_neg q1, if_neg q2, if_pos q3])) (by rw [q3]; decide))) (fun q3 => br_c (fun q4 => s_gI H hl rfl rfl rfl (ok _ ((R.2.1 2 l 5 22 4 rfl hl (by omega)).trans (by unfold vLand; rw [if_neg q0, if_neg q1, if_neg q2, if_neg q3, if_pos q4])) (by rw [q4]; decide))) (fun q4 => br_c (fun q5 => s_gI H hl rfl rfl rfl (ok _ ((R.2.1 2 l 6 22 5 rfl hl (by omega)).trans (by unfold vLand; rw [if_neg q0, if_neg q1, if_neg q2, if_neg q3, if_neg q4, if_pos q5])) (by rw [q5]; decide))) (fun q5 => br_c (fun q6 => s_rc H W.x0 rfl rfl (C_inStore R H W hl (ok _ (by unfold vLand; rw [if_neg q0, if_neg q1, if_neg q2, if_neg q3, if_neg q4, if_neg q5, if_pos q6]) (by rw [q6]; decide)))) (fun q6 => br_c (fun q7 => s_rc H W.x0 rfl rfl (C_sleepersIn R H W hl (ok _ (by unfold vLand; rw [if_neg q0, if_neg q1, if_neg q2, if_neg q3, if_neg q4, if_neg q5, if_neg q6, if_pos q7]) (by rw [q7]; decide)))) (fun q7 => br_c (fun q8 => s_rc H W.x0 rfl rfl (C_whole R H W hl (ok _ (by unfold vLand; rw [if_neg q0, if_neg q1, if_neg q2, if_neg q3, if_neg q4, if_neg q5, if_neg q6, if_neg q7]) (by rw [q8]; decide)))) (fun q8 => h2 (by rw [if_pos (b_no8 q0 q1 q2 q3 q4 q5 q6 q7 q8)]))))))))))
theorem C_isGood (H : mR g Y S M) (W : mWs Y S) (Q : mWq Y S) (R : RC 99 N Y S) (B : nB N) {a b : Int32} {κ : Int32 → mM → Prop} {ξ : String → mM → Prop} (h1 : (fIsGood N a b).1 = 1 → ξ "java/lang/IndexOutOfBoundsException" M)
    (h : ∀ v N' Y' S' M', fIsGood N a b = (0, v, N') → cX g N' Y S Y' S' M' → κ v M') : wX8_isGood κ ξ (some (yA Y 0 0)) a b M := by
  have hb := W.2.1
  unfold fIsGood at h1 h
  rw [← R.1.1, ← R.1.2.1] at h1 h
  refine s_rc H W.x0 rfl rfl (c_sleeperN H W (fun s hs es => s_rc H W.x0 rfl rfl (c_gateN H W (fun t ht et => ?_) (fun z => h1 (by rw [if_pos (fun w => z w.2)])))) (fun z => h1 (by rw [if_pos (fun w => z w.1)])))
  have ha : (¬ a < 0 ∧ a < nI (yn Y 4)) ∧ (¬ b < 0 ∧ b < nI (yn Y 3)) := ⟨by rw [es]; exact m_in hs (by omega), by rw [et]; exact m_in ht (by omega)⟩
  rw [if_neg (fun w => w ha), es, et, tN_nI (by omega), tN_nI (by omega)] at h
  exact s_rc H W.x0 rfl rfl (C_good R H W hs ht (B.2.2.2.1 s (by rw [← R.1.2.1]; exact hs)).2.2 (fun z => ⟨Or.inr rfl, h 1 N Y S M (by rw [if_pos z]) (cX.rf H W Q R)⟩) (fun z => ⟨Or.inl rfl, h 0 N Y S M (by rw [if_neg z]) (cX.rf H W Q R)⟩))
theorem C_night (H : mR g Y S M) (W : mWs Y S) (Q : mWq Y S) (R : RC 99 N Y S) {b : Int32} {κ : Int32 → mM → Prop} {ξ : String → mM → Prop} (h1 : (fNight N b).1 = 1 → ξ "java/lang/IllegalArgumentException" M)
    (h : ∀ v N' Y' S' M', fNight N b = (0, v, N') → cX g N' Y S Y' S' M' → κ v M') : wX8_night κ ξ (some (yA Y 0 0)) b M := by
  unfold fNight at h1 h
  have e12 : nI (yn Y 6) = nI ((nh N).length / 3) := congrArg nI (by have := R.2.2.2.2.2.2.2.2.2.1; omega)
  have ok : ∀ v, v = vNight N b → (¬ b < 0 ∧ ¬ 16 < b) → κ v M := fun v ev hbk => h v N Y S M (by rw [if_neg (fun w => w hbk), ev]) (cX.rf H W Q R)
  exact br_c (fun q0 => s_gI H W.x0 rfl rfl rfl (ok _ ((R.2.1 0 0 8 20 1 rfl W.x0 (by omega)).trans (by unfold vNight; rw [if_pos q0])) (by rw [q0]; decide))) (fun q0 => br_c (fun q1 => s_gI H W.x0 rfl rfl rfl (ok _ ((R.2.1 0 0 9 20 2 rfl W.x0 (by omega)).trans (by unfold vNight; rw [if_neg q0, if_pos q1])) (by rw [q1]; decide))) (fun q1 => br_c (fun q2 => s_gR6 H W.x0 rfl rfl rfl (s_rcL H rfl (W.l12 (by omega)) (c_szG H W (ok _ ((congrArg nI R.1.1).trans (by unfold vNight; rw [if_neg q0, if_neg q1, if_pos q2])) (by rw [q2]; decide))))) (fun q2 => br_c (fun q3 => s_gR6 H W.x0 rfl rfl rfl (s_rcL H rfl (W.l12 (by omega)) (c_szS H W (ok _ ((congrArg nI R.1.2.1).trans (by unfold vNight; rw [if_neg q0, if_neg q1, if_neg q2, if_pos q3])) (by rw [q3]; decide))))) (fun q3 => br_c (fun q4 => s_rc H W.x0 rfl rfl (C_awake R H W (ok _ (by unfold vNight; rw [if_neg q0, if_neg q1, if_neg q2, if_neg q3, if_pos q4]) (by rw [q4]; decide)))) (fun q4 => br_c (fun q5 => s_gR6 H W.x0 rfl rfl rfl (s_rcL H rfl (W.l12 (by omega)) (c_szP H W (ok _ ((congrArg nI R.1.2.2).trans (by unfold vNight; rw [if_neg q0, if_neg q1, if_neg q2, if_neg q3, if_neg q4, if_pos q5])) (by rw [q5]; decide))))) (fun q5 => br_c (fun q6 => s_rc H W.x0 rfl rfl (C_ofFate R H W (ok _ (by unfold vNight; rw [if_neg q0, if_neg q1, if_neg q2, if_neg q3, if_neg q4, if_neg q5, if_pos q6]) (by rw [q6]; decide)))) (fun q6 => br_c (fun q7 => s_rc H W.x0 rfl rfl (C_ofFate R H W (ok _ (by unfold vNight; rw [if_neg q0, if_neg q1, if_neg q2, if_neg q3, if_neg q4, if_neg q5, if_neg q6, if_pos q7]) (by rw [q7]; decide)))) (fun q7 => br_c (fun q8 => s_rc H W.x0 rfl rfl (C_ofFate R H W (ok _ (by unfold vNight; rw [if_neg q0, if_neg q1, if_neg q2, if_neg q3, if_neg q4, if_neg q5, if_neg q6, if_neg q7, if_pos q8]) (by rw [q8]; decide)))) (fun q8 => br_c (fun q9 => s_rc H W.x0 rfl rfl (C_ofFate R H W (ok _ (by unfold vNight; rw [if_neg q0, if_neg q1, if_neg q2, if_neg q3, if_neg q4, if_neg q5, if_neg q6, if_neg q7, if_neg q8, if_pos q9]) (by rw [q9]; decide)))) (fun q9 => br_c (fun q10 => s_rc H W.x0 rfl rfl (C_ofFate R H W (ok _ (by unfold vNight; rw [if_neg q0, if_neg q1, if_neg q2, if_neg q3, if_neg q4, if_neg q5, if_neg q6, if_neg q7, if_neg q8, if_neg q9, if_pos q10]) (by rw [q10]; decide)))) (fun q10 => br_c (fun q11 => s_rc H W.x0 rfl rfl (C_gone R H W (ok _ (by unfold vNight; rw [if_neg q0, if_neg q1, if_neg q2, if_neg q3, if_neg q4, if_neg q5, if_neg q6, if_neg q7, if_neg q8, if_neg q9, if_neg q10, if_pos q11]) (by rw [q11]; decide)))) (fun q11 => br_c (fun q12 => s_gR6 H W.x0 rfl rfl rfl (s_rcL H rfl (W.l12 (by omega)) (c_szH H W (ok _ ((e12).trans (by unfold vNight; rw [if_neg q0, if_neg q1, if_neg q2, if_neg q3, if_neg q4, if_neg q5, if_neg q6, if_neg q7, if_neg q8, if_neg q9, if_neg q10, if_neg q11, if_pos q12])) (by rw [q12]; decide))))) (fun q12 => br_c (fun q13 => s_gR6 H W.x0 rfl rfl rfl (s_gI H W.l7 rfl rfl rfl (ok _ ((R.2.1 7 0 0 20 4 rfl W.l7 (by omega)).trans (by unfold vNight; rw [if_neg q0, if_neg q1, if_neg q2, if_neg q3, if_neg q4, if_neg q5, if_neg q6, if_neg q7, if_neg q8, if_neg q9, if_neg q10, if_neg q11, if_neg q12, if_pos q13])) (by rw [q13]; decide)))) (fun q13 => br_c (fun q14 => s_gI H W.x0 rfl rfl rfl (ok _ ((R.2.1 0 0 10 20 5 rfl W.x0 (by omega)).trans (by unfold vNight; rw [if_neg q0, if_neg q1, if_neg q2, if_neg q3, if_neg q4, if_neg q5, if_neg q6, if_neg q7, if_neg q8, if_neg q9, if_neg q10, if_neg q11, if_neg q12, if_neg q13, if_pos q14])) (by rw [q14]; decide))) (fun q14 => br_c (fun q15 => s_rc H W.x0 rfl rfl (C_duties R H W (ok _ (by unfold vNight; rw [if_neg q0, if_neg q1, if_neg q2, if_neg q3, if_neg q4, if_neg q5, if_neg q6, if_neg q7, if_neg q8, if_neg q9, if_neg q10, if_neg q11, if_neg q12, if_neg q13, if_neg q14, if_pos q15]) (by rw [q15]; decide)))) (fun q15 => br_c (fun q16 => s_rc H W.x0 rfl rfl (C_fines R H W (ok _ (by unfold vNight; rw [if_neg q0, if_neg q1, if_neg q2, if_neg q3, if_neg q4, if_neg q5, if_neg q6, if_neg q7, if_neg q8, if_neg q9, if_neg q10, if_neg q11, if_neg q12, if_neg q13, if_neg q14, if_neg q15]) (by rw [q16]; decide)))) (fun q16 => h1 (by rw [if_pos (b_no16 q0 q1 q2 q3 q4 q5 q6 q7 q8 q9 q10 q11 q12 q13 q14 q15 q16)]))))))))))))))))))
end SIM31
section SIM31v
variable {g : Nat → Nat} {Y : mY} {S : mS} {M : mM} {N : mN} {Y0 : mY} {S0 : mS}
theorem D_landOf (R : RV N Y S) (H : mR g Y S M) (V : mVs Y S) (VV : mVv Y S) {p : Nat} (hp : p < yn Y 29) {κ : Int32 → mM → Prop} (h : κ (nLo N p) M) : wX14_landOf κ (some (yA Y 20 0)) (some (yA Y 29 p)) M := by
  have hb := V.2.1
  obtain ⟨a, ea, ha⟩ := VV.1 29 p 4 hp
  have r4 := R.2.1 29 p 4 rfl hp
  have en : nv N 29 p 4 = nI a := r4.symm.trans ea
  unfold nLo at h
  refine s_gI H hp rfl rfl rfl ?_
  rw [r4]
  refine br_c (fun z => ?_) (fun z => s_gI H hp rfl rfl rfl ?_)
  · rw [if_pos z] at h
    exact h
  rw [if_neg z] at h
  rw [r4]
  refine br_c (fun w => ?_) (fun w => s_gI H hp rfl rfl rfl ?_)
  · rw [if_pos w] at h
    have ha2 : a < yn Y 28 := by
      rw [en] at w z
      rcases ha with ha | ha | ha
      · exact ha
      · have := (nI_ltI (a := a) (b := 100) (by omega) (by omega)).mp w
        omega
      · exact absurd (by rw [ha]; rfl) z
    refine s_gR6 H V.x0 rfl rfl rfl (s_gI H hp rfl rfl rfl ?_)
    rw [ea]
    rw [en, tN_nI (by omega)] at h
    refine s_rcL H rfl (V.l24 (by omega)) (v_gtS H V ha2 (s_cast H ha2 rfl rfl (s_gI H ha2 rfl rfl rfl ?_)))
    rw [R.2.1 28 a 0 rfl ha2]
    exact h
  · rw [if_neg w] at h
    rw [r4]
    exact h
theorem D_ofPartNow (R : RV N Y S) (H : mR g Y S M) (V : mVs Y S) (VV : mVv Y S) {p : Nat} (hp : p < yn Y 29) {b : Int32} {κ : Int32 → mM → Prop} (h : κ (vPart N p b) M) : wX14_ofPartNow κ (some (yA Y 20 0)) (nI p) b M := by
  have r4 := R.2.1 29 p 4 rfl hp
  have ok : ∀ v, v = vPart N p b → κ v M := fun v e => by rw [e]; exact h
  refine v_Pt H V hp ?_
  refine br_c (fun q0 => s_gI H hp rfl rfl rfl (ok _ ((R.2.1 29 p 0 rfl hp).trans (by unfold vPart; rw [if_pos q0])))) (fun q0 => br_c (fun q1 => s_gI H hp rfl rfl rfl (ok _ ((R.2.1 29 p 1 rfl hp).trans (by unfold vPart; rw [if_neg q0, if_pos q1])))) (fun q1 => br_c (fun q2 => s_gI H hp rfl rfl rfl (ok _ ((R.2.1 29 p 2 rfl hp).trans (by unfold vPart; rw [if_neg q0, if_neg q1, if_pos q2])))) (fun q2 => br_c (fun q3 => s_gI H hp rfl rfl rfl (ok _ ((R.2.1 29 p 3 rfl hp).trans (by unfold vPart; rw [if_neg q0, if_neg q1, if_neg q2, if_pos q3])))) (fun q3 => br_c (fun q4 => s_rc H V.x0 rfl rfl (D_landOf R H V VV hp (ok _ (by unfold vPart; rw [if_neg q0, if_neg q1, if_neg q2, if_neg q3, if_pos q4])))) (fun q4 => s_gI H hp rfl rfl rfl ?_)))))
  rw [r4]
  refine br_c (fun z => ok _ ?_) (fun z => s_gI H hp rfl rfl rfl (ok _ ?_))
  · unfold vPart
    rw [if_neg q0, if_neg q1, if_neg q2, if_neg q3, if_neg q4, if_pos z]
  · unfold vPart
    rw [if_neg q0, if_neg q1, if_neg q2, if_neg q3, if_neg q4, if_neg z]
    exact r4
theorem D_ofPart (P : vN g N Y0 S0 Y S M) {a b : Int32} {κ : Int32 → mM → Prop} (h : ∀ k v N' Y' S' M', fOfPart N a b = (k, v, N') → vN g N' Y0 S0 Y' S' M' → sI S' 20 0 0 = k → κ v M') : wX14_ofPart κ (some (yA Y 20 0)) a b M := by
  unfold fOfPart at h
  refine n_th P (fun S1 M1 P1 e1 => ?_)
  have H := P1.1.1
  have V := P1.1.2.1
  have VV := P1.1.2.2.1
  have R := P1.2.2
  have hb := V.2.1
  rw [← R.1.2.2] at h
  refine s_rc H V.x0 rfl rfl (v_isPart H V (fun p hv e => br_f (by decide) (v_is (fun r1 r2 => br_f (by decide) ?_) (fun z => br_t rfl (n_rf P1 (fun S2 M2 P2 e2 => h 2 0 N Y S2 M2 (by rw [if_neg (fun w => w (by rw [e]; exact m_in hv (by omega))), if_pos z]) P2 e2))))) (fun z => br_t rfl (n_rf P1 (fun S2 M2 P2 e2 => h 1 0 N Y S2 M2 (by rw [if_pos z]) P2 e2))))
  have hk : ¬ a < 0 ∧ a < nI (yn Y 29) := by rw [e]; exact m_in hv (by omega)
  rw [if_neg (fun w => w hk), if_neg (fun w => w ⟨r1, r2⟩), e, tN_nI (by omega)] at h
  rw [e]
  exact s_rc H V.x0 rfl rfl (D_ofPartNow R H V VV hv (h 0 _ N Y S1 M1 rfl P1 e1))
theorem D_ol89_l (R : RV N Y S) (H : mR g Y S M) (V : mVs Y S) {l : Nat} (hl6 : l < 6) {κ : Int32 → mM → Prop} (h : κ (nCn (pSt N l) (yn Y 29)) M) : ∀ (d j : Nat), j + d = yn Y 29 → wX14_ofLandNow_89 κ (d + 1) (some (yA Y 20 0)) (nI l) (nCn (pSt N l) j) (nI j) M := by
  intro d
  induction d with
  | zero =>
    intro j hj
    rw [wX14_ofLandNow_89]
    exact v_hdP H V (by omega) (fun e => by rw [e]; exact h) (fun hlt => absurd hlt (by omega))
  | succ d ih =>
    intro j hj
    have ih' : ∀ a : Int32, a = nCn (pSt N l) (j + 1) → wX14_ofLandNow_89 κ (d + 1) (some (yA Y 20 0)) (nI l) a (nI j + 1) M := fun a e => by rw [nI_1, e]; exact ih (j + 1) (by omega)
    rw [wX14_ofLandNow_89]
    refine v_hdP H V (by omega) (fun z => absurd z (by omega)) (fun hlt => s_gI H hlt rfl rfl rfl ?_)
    rw [R.2.1 29 j 4 rfl hlt, nI_100]
    exact br_c (fun w => ih' _ (nCn_t (decide_eq_true w)).symm) (fun w => ih' _ ((Int32.add_zero _).trans (nCn_f (fun q => w (of_decide_eq_true q))).symm))
theorem D_ol145_l (R : RV N Y S) (H : mR g Y S M) (V : mVs Y S) {l : Nat} {κ : Int32 → mM → Prop} (h : κ (nCn (pSl N l) (yn Y 28)) M) : ∀ (d j : Nat), j + d = yn Y 28 → wX14_ofLandNow_145 κ (d + 1) (some (yA Y 20 0)) (nI l) (nCn (pSl N l) j) (nI j) M := by
  intro d
  induction d with
  | zero =>
    intro j hj
    rw [wX14_ofLandNow_145]
    exact v_hdS H V (by omega) (fun e => by rw [e]; exact h) (fun hlt => absurd hlt (by omega))
  | succ d ih =>
    intro j hj
    have ih' : ∀ a : Int32, a = nCn (pSl N l) (j + 1) → wX14_ofLandNow_145 κ (d + 1) (some (yA Y 20 0)) (nI l) a (nI j + 1) M := fun a e => by rw [nI_1, e]; exact ih (j + 1) (by omega)
    rw [wX14_ofLandNow_145]
    refine v_hdS H V (by omega) (fun z => absurd z (by omega)) (fun hlt => s_gI H hlt rfl rfl rfl ?_)
    rw [R.2.1 28 j 0 rfl hlt]
    refine br_c (fun w => v_S H V hlt (s_gI H hlt rfl rfl rfl ?_)) (fun w => ih' _ ((Int32.add_zero _).trans (nCn_f (fun q => w (of_decide_eq_true q).1)).symm))
    rw [R.2.1 28 j 3 rfl hlt]
    exact br_c (fun z => ih' _ ((Int32.add_zero _).trans (nCn_f (fun q => (of_decide_eq_true q).2 z)).symm)) (fun z => ih' _ (nCn_t (decide_eq_true ⟨w, z⟩)).symm)
/-- dream by dream, as the reference tells it -/
def pDr (N : mN) (dr p : Nat) : Bool := decide (nv N 29 p 0 = nI dr)
def nAl (N : mN) (l dr : Nat) : Nat → Int32
  | 0 => 1
  | j + 1 => if nv N 29 j 0 = nI dr then nAl N l dr j &&& (if nLo N j = nI l then 1 else 0) else nAl N l dr j
def nWr (N : mN) (l n : Nat) : Nat → Int32
  | 0 => 0
  | d + 1 => nWr N l n d ||| (if ¬ nAl N l d n = 0 ∧ ¬ nCn (pDr N d) n ≤ 0 then m_shl 1 (nI d) else 0)
theorem D_wh19 (R : RV N Y S) (H : mR g Y S M) (V : mVs Y S) (VV : mVv Y S) {l dr : Nat} {κ : Int32 → mM → Prop} {R4 : Option Nat → Int32 → Int32 → Int32 → mM → Prop} (hR : R4 (some (yA Y 20 0)) (nI l) (nWr N l (yn Y 29) (dr + 1)) (nI dr + 1) M) : ∀ (d j : Nat), j + d = yn Y 29 → wX14_wholes_19 κ R4 (d + 1) (some (yA Y 20 0)) (nI l) (nWr N l (yn Y 29) dr) (nI dr) (nCn (pDr N dr) j) (nAl N l dr j) (nI j) M := by
  intro d
  induction d with
  | zero =>
    intro j hj
    have ej : j = yn Y 29 := by omega
    rw [wX14_wholes_19, ej]
    refine v_hdP H V (by omega) (fun _ => ?_) (fun hlt => absurd hlt (by omega))
    have e : ∀ v, v = (if ¬ nAl N l dr (yn Y 29) = 0 ∧ ¬ nCn (pDr N dr) (yn Y 29) ≤ 0 then m_shl 1 (nI dr) else 0) → nWr N l (yn Y 29) dr ||| v = nWr N l (yn Y 29) (dr + 1) := fun v ev => by rw [ev]; rfl
    refine br_c (fun z => ?_) (fun z => br_c (fun w => ?_) (fun w => ?_))
    · show R4 (some (yA Y 20 0)) (nI l) (nWr N l (yn Y 29) dr ||| 0) (nI dr + 1) M
      rw [e 0 (if_neg (fun q => q.1 z)).symm]
      exact hR
    · show R4 (some (yA Y 20 0)) (nI l) (nWr N l (yn Y 29) dr ||| 0) (nI dr + 1) M
      rw [e 0 (if_neg (fun q => q.2 w)).symm]
      exact hR
    · show R4 (some (yA Y 20 0)) (nI l) (nWr N l (yn Y 29) dr ||| m_shl 1 (nI dr)) (nI dr + 1) M
      rw [e _ (if_pos ⟨z, w⟩).symm]
      exact hR
  | succ d ih =>
    intro j hj
    have i86 : ∀ b c : Int32, b = nCn (pDr N dr) (j + 1) → c = nAl N l dr (j + 1) → wX14_wholes_86 κ R4 (wX14_wholes_19 κ R4 (d + 1)) (some (yA Y 20 0)) (nI l) (nWr N l (yn Y 29) dr) (nI dr) b c (nI j) M := fun b c eb ec => by
      unfold wX14_wholes_86
      rw [nI_1, eb, ec]
      exact ih (j + 1) (by omega)
    rw [wX14_wholes_19]
    refine v_hdP H V (by omega) (fun z => absurd z (by omega)) (fun hlt => s_gI H hlt rfl rfl rfl ?_)
    rw [R.2.1 29 j 0 rfl hlt]
    refine br_c (fun z => v_Pt H V hlt (s_rc H V.x0 rfl rfl (D_landOf R H V VV hlt (br_c (fun w => ?_) (fun w => ?_))))) (fun z => i86 _ _ (nCn_f (fun q => z (of_decide_eq_true q))).symm (if_neg z).symm)
    · exact i86 _ _ (nCn_t (decide_eq_true z)).symm (by show _ = (if nv N 29 j 0 = nI dr then nAl N l dr j &&& (if nLo N j = nI l then 1 else 0) else nAl N l dr j); rw [if_pos z, if_pos w])
    · exact i86 _ _ (nCn_t (decide_eq_true z)).symm (by show _ = (if nv N 29 j 0 = nI dr then nAl N l dr j &&& (if nLo N j = nI l then 1 else 0) else nAl N l dr j); rw [if_pos z, if_neg w])
theorem D_wholes (R : RV N Y S) (H : mR g Y S M) (V : mVs Y S) (VV : mVv Y S) {l : Nat} {κ : Int32 → mM → Prop} (h : κ (nWr N l (yn Y 29) 8) M) : wX14_wholes κ (some (yA Y 20 0)) (nI l) M := by
  have key : ∀ (d j : Nat), j + d = 8 → wX14_wholes_4 κ (d + 1) (some (yA Y 20 0)) (nI l) (nWr N l (yn Y 29) j) (nI j) M := by
    intro d
    induction d with
    | zero =>
      intro j hj
      have ej : j = 8 := by omega
      rw [wX14_wholes_4, ej]
      exact br_t (by decide) h
    | succ d ih =>
      intro j hj
      rw [wX14_wholes_4]
      exact br_f (show ¬ (8 : Int32) ≤ nI j from nI_ge (b := 8) (by omega) (by omega)) ⟨yn Y 29 + 1, D_wh19 R H V VV (by rw [nI_1]; exact ih (j + 1) (by omega)) (yn Y 29) 0 (by omega)⟩
  exact ⟨9, key 8 0 (by omega)⟩
end SIM31v
/-- both ways to tell the whole dreams -/
theorem nHe_zb {N : mN} {l u : Nat} (hu : u < 32) : ∀ n, (∀ p, p < n → ∃ d, d < 8 ∧ nv N 29 p 0 = nI d) → (zb (nHe N l n) u = true ↔ ∃ p, p < n ∧ nv N 29 p 0 = nI u ∧ nLo N p = nI l) := by
  intro n
  induction n with
  | zero => intro _; exact ⟨fun w => absurd w (by rw [show nHe N l 0 = 0 from rfl, zb_0]; decide), fun ⟨p, hp, _⟩ => absurd hp (by omega)⟩
  | succ n ih =>
    intro h
    have ih := ih (fun p hp => h p (by omega))
    obtain ⟨d, hd, ed⟩ := h n (by omega)
    by_cases z : nLo N n = nI l
    · rw [show nHe N l (n + 1) = nHe N l n ||| m_shl 1 (nv N 29 n 0) from if_pos z, zb_or, ed, zb_shl d (by omega) u hu, Bool.or_eq_true, ih, decide_eq_true_iff]
      constructor
      · intro q
        rcases q with ⟨p, hp, q⟩ | q
        · exact ⟨p, by omega, q⟩
        · exact ⟨n, by omega, by rw [ed, q], z⟩
      · intro ⟨p, hp, q1, q2⟩
        by_cases w : p = n
        · rw [w, ed] at q1
          exact Or.inr ((nI_eq (by omega) (by omega)).mp q1).symm
        · exact Or.inl ⟨p, by omega, q1, q2⟩
    · rw [show nHe N l (n + 1) = nHe N l n from if_neg z, ih]
      constructor
      · intro ⟨p, hp, q⟩
        exact ⟨p, by omega, q⟩
      · intro ⟨p, hp, q1, q2⟩
        have : p ≠ n := fun w => z (by rw [← w]; exact q2)
        exact ⟨p, by omega, q1, q2⟩
theorem nEl_zb {N : mN} {l u : Nat} (hu : u < 32) : ∀ n, (∀ p, p < n → ∃ d, d < 8 ∧ nv N 29 p 0 = nI d) → (zb (nEl N l n) u = true ↔ ∃ p, p < n ∧ nv N 29 p 0 = nI u ∧ ¬ nLo N p = nI l) := by
  intro n
  induction n with
  | zero => intro _; exact ⟨fun w => absurd w (by rw [show nEl N l 0 = 0 from rfl, zb_0]; decide), fun ⟨p, hp, _⟩ => absurd hp (by omega)⟩
  | succ n ih =>
    intro h
    have ih := ih (fun p hp => h p (by omega))
    obtain ⟨d, hd, ed⟩ := h n (by omega)
    by_cases z : nLo N n = nI l
    · rw [show nEl N l (n + 1) = nEl N l n from if_pos z, ih]
      constructor
      · intro ⟨p, hp, q⟩
        exact ⟨p, by omega, q⟩
      · intro ⟨p, hp, q1, q2⟩
        have : p ≠ n := fun w => q2 (by rw [w]; exact z)
        exact ⟨p, by omega, q1, q2⟩
    · rw [show nEl N l (n + 1) = nEl N l n ||| m_shl 1 (nv N 29 n 0) from if_neg z, zb_or, ed, zb_shl d (by omega) u hu, Bool.or_eq_true, ih, decide_eq_true_iff]
      constructor
      · intro q
        rcases q with ⟨p, hp, q⟩ | q
        · exact ⟨p, by omega, q⟩
        · exact ⟨n, by omega, by rw [ed, q], z⟩
      · intro ⟨p, hp, q1, q2⟩
        by_cases w : p = n
        · rw [w, ed] at q1
          exact Or.inr ((nI_eq (by omega) (by omega)).mp q1).symm
        · exact Or.inl ⟨p, by omega, q1, q2⟩
theorem nAl_i {N : mN} {l dr : Nat} : ∀ n, (nAl N l dr n = 1 ∧ ∀ p, p < n → nv N 29 p 0 = nI dr → nLo N p = nI l) ∨ (nAl N l dr n = 0 ∧ ∃ p, p < n ∧ nv N 29 p 0 = nI dr ∧ ¬ nLo N p = nI l) := by
  intro n
  induction n with
  | zero => exact Or.inl ⟨rfl, fun p hp => absurd hp (by omega)⟩
  | succ n ih =>
    by_cases z : nv N 29 n 0 = nI dr
    · by_cases w : nLo N n = nI l
      · have e : nAl N l dr (n + 1) = nAl N l dr n &&& 1 := by
          show (if nv N 29 n 0 = nI dr then nAl N l dr n &&& (if nLo N n = nI l then 1 else 0) else nAl N l dr n) = _
          rw [if_pos z, if_pos w]
        rw [e]
        rcases ih with ⟨i1, i2⟩ | ⟨i1, p, i2, i3⟩
        · rw [i1]
          refine Or.inl ⟨by decide, fun p hp q => ?_⟩
          by_cases r : p = n
          · rw [r]; exact w
          · exact i2 p (by omega) q
        · rw [i1]
          exact Or.inr ⟨by decide, p, by omega, i3⟩
      · have e : nAl N l dr (n + 1) = nAl N l dr n &&& 0 := by
          show (if nv N 29 n 0 = nI dr then nAl N l dr n &&& (if nLo N n = nI l then 1 else 0) else nAl N l dr n) = _
          rw [if_pos z, if_neg w]
        rw [e]
        exact Or.inr ⟨Int32.and_zero, n, by omega, z, w⟩
    · have e : nAl N l dr (n + 1) = nAl N l dr n := if_neg z
      rw [e]
      rcases ih with ⟨i1, i2⟩ | ⟨i1, p, i2, i3⟩
      · refine Or.inl ⟨i1, fun p hp q => ?_⟩
        by_cases r : p = n
        · rw [r] at q; exact absurd q z
        · exact i2 p (by omega) q
      · exact Or.inr ⟨i1, p, by omega, i3⟩
theorem nCn_i {p : Nat → Bool} : ∀ n, ∃ c, c ≤ n ∧ nCn p n = nI c ∧ (c = 0 ↔ ∀ j, j < n → ¬ p j = true) := by
  intro n
  induction n with
  | zero => exact ⟨0, by omega, rfl, fun _ j hj => absurd hj (by omega), fun _ => rfl⟩
  | succ n ih =>
    obtain ⟨c, hc, e, q⟩ := ih
    by_cases z : p n = true
    · exact ⟨c + 1, by omega, by rw [nCn_t z, e, nI_1], fun w => absurd w (by omega), fun w => absurd z (w n (by omega))⟩
    · refine ⟨c, by omega, by rw [nCn_f z, e], fun w j hj => ?_, fun w => q.mpr (fun j hj => w j (by omega))⟩
      by_cases r : j = n
      · rw [r]; exact z
      · exact q.mp w j (by omega)
theorem nWr_c {N : mN} {l d n : Nat} (hn : n < 1000) : (¬ nAl N l d n = 0 ∧ ¬ nCn (pDr N d) n ≤ 0) ↔ ((∃ p, p < n ∧ nv N 29 p 0 = nI d ∧ nLo N p = nI l) ∧ ¬ ∃ p, p < n ∧ nv N 29 p 0 = nI d ∧ ¬ nLo N p = nI l) := by
  obtain ⟨c, hc, ec, hz⟩ := nCn_i (p := pDr N d) n
  have hc0 : ¬ nCn (pDr N d) n ≤ 0 ↔ ∃ p, p < n ∧ nv N 29 p 0 = nI d := by
    rw [ec]
    constructor
    · intro w
      refine Classical.byContradiction (fun q => w ?_)
      have : c = 0 := hz.mpr (fun j hj r => q ⟨j, hj, of_decide_eq_true r⟩)
      rw [this]
      decide
    · intro ⟨p, hp, e⟩ w
      have hne : c ≠ 0 := fun r => hz.mp r p hp (decide_eq_true e)
      exact absurd w (nI_ge (a := 0) (b := c) (by omega) (by omega))
  rw [hc0]
  rcases nAl_i (N := N) (l := l) (dr := d) n with ⟨i1, i2⟩ | ⟨i1, p, i2, i3⟩
  · rw [i1]
    constructor
    · intro ⟨_, p, hp, e⟩
      exact ⟨⟨p, hp, e, i2 p hp e⟩, fun ⟨p', hp', e', w⟩ => w (i2 p' hp' e')⟩
    · intro ⟨⟨p, hp, e, _⟩, _⟩
      exact ⟨by decide, p, hp, e⟩
  · rw [i1]
    constructor
    · intro ⟨w, _⟩
      exact absurd rfl w
    · intro ⟨_, w⟩
      exact absurd ⟨p, i2, i3⟩ w
theorem nWr_zb {N : mN} {l u n : Nat} (hn : n < 1000) (hu : u < 32) : ∀ d, d ≤ 8 → (zb (nWr N l n d) u = true ↔ u < d ∧ (∃ p, p < n ∧ nv N 29 p 0 = nI u ∧ nLo N p = nI l) ∧ ¬ ∃ p, p < n ∧ nv N 29 p 0 = nI u ∧ ¬ nLo N p = nI l) := by
  intro d
  induction d with
  | zero => intro _; exact ⟨fun w => absurd w (by rw [show nWr N l n 0 = 0 from rfl, zb_0]; decide), fun w => absurd w.1 (by omega)⟩
  | succ d ih =>
    intro hd
    have ih := ih (by omega)
    have c := nWr_c (N := N) (l := l) (d := d) (n := n) hn
    by_cases z : ¬ nAl N l d n = 0 ∧ ¬ nCn (pDr N d) n ≤ 0
    · rw [show nWr N l n (d + 1) = nWr N l n d ||| m_shl 1 (nI d) from by show nWr N l n d ||| (if ¬ nAl N l d n = 0 ∧ ¬ nCn (pDr N d) n ≤ 0 then m_shl 1 (nI d) else 0) = _; rw [if_pos z], zb_or, zb_shl d (by omega) u hu, Bool.or_eq_true, ih, decide_eq_true_iff]
      constructor
      · intro q
        rcases q with q | q
        · exact ⟨by omega, q.2⟩
        · rw [q]
          exact ⟨by omega, c.mp z⟩
      · intro q
        by_cases w : u = d
        · exact Or.inr w
        · exact Or.inl ⟨by omega, q.2⟩
    · rw [show nWr N l n (d + 1) = nWr N l n d ||| 0 from by show nWr N l n d ||| (if ¬ nAl N l d n = 0 ∧ ¬ nCn (pDr N d) n ≤ 0 then m_shl 1 (nI d) else 0) = _; rw [if_neg z], Int32.or_zero, ih]
      constructor
      · intro q
        exact ⟨by omega, q.2⟩
      · intro q
        have : u ≠ d := fun w => z (c.mpr (by rw [← w]; exact q.2))
        exact ⟨by omega, q.2⟩
theorem nWr_eq {N : mN} {l n : Nat} (hn : n < 1000) (h : ∀ p, p < n → ∃ d, d < 8 ∧ nv N 29 p 0 = nI d) : nWr N l n 8 = nHe N l n &&& (nEl N l n ^^^ (-1)) := by
  refine zb_ext (fun u hu => ?_)
  have a := nWr_zb (N := N) (l := l) hn hu 8 (by omega)
  have b := nHe_zb (N := N) (l := l) hu n h
  have c := nEl_zb (N := N) (l := l) hu n h
  rw [zb_and, zb_xor, zb_m1 u hu]
  refine Bool.eq_iff_iff.mpr ?_
  rw [a, Bool.and_eq_true, b]
  constructor
  · intro ⟨_, q1, q2⟩
    refine ⟨q1, ?_⟩
    cases w : zb (nEl N l n) u with
    | false => rfl
    | true => exact absurd (c.mp w) q2
  · intro ⟨q1, q2⟩
    refine ⟨?_, q1, fun q => ?_⟩
    · obtain ⟨p, hp, e, _⟩ := q1
      obtain ⟨d, hd, ed⟩ := h p hp
      have := (nI_eq (a := d) (b := u) (by omega) (by omega)).mp (ed.symm.trans e)
      omega
    · rw [c.mpr q] at q2
      cases q2
section SIM31w
variable {g : Nat → Nat} {Y : mY} {S : mS} {M : mM} {N : mN} {Y0 : mY} {S0 : mS}
theorem D_ofLandNow (R : RV N Y S) (H : mR g Y S M) (V : mVs Y S) (VV : mVv Y S) {l : Nat} (hl6 : l < 6) {b : Int32} {κ : Int32 → mM → Prop} (h : κ (vLand N l b) M) : wX14_ofLandNow κ (some (yA Y 20 0)) (nI l) b M := by
  have hl := V.l22 hl6
  have hb := V.2.1
  have ok : ∀ v, v = vLand N l b → κ v M := fun v e => by rw [e]; exact h
  have hd : ∀ p, p < yn Y 29 → ∃ d, d < 8 ∧ nv N 29 p 0 = nI d := fun p hp => by
    obtain ⟨d, hd, ed⟩ := VV.1 29 p 0 hp
    exact ⟨d, hd, (R.2.1 29 p 0 rfl hp).symm.trans ed⟩
  refine v_Ld H V hl6 ?_
  exact br_c (fun q0 => s_gI H hl rfl rfl rfl (ok _ ((R.2.1 22 l 0 rfl hl).trans (by unfold vLand; rw [if_pos q0])))) (fun q0 => br_c (fun q1 => s_gI H hl rfl rfl rfl (ok _ ((R.2.1 22 l 1 rfl hl).trans (by unfold vLand; rw [if_neg q0, if_pos q1])))) (fun q1 => br_c (fun q2 => s_gI H hl rfl rfl rfl (ok _ ((R.2.1 22 l 2 rfl hl).trans (by unfold vLand; rw [if_neg q0, if_neg q1, if_pos q2])))) (fun q2 => br_c (fun q3 => s_gI H hl rfl rfl rfl (ok _ ((R.2.1 22 l 3 rfl hl).trans (by unfold vLand; rw [if_neg q0, if_neg q1, if_neg q2, if_pos q3])))) (fun q3 => br_c (fun q4 => s_gI H hl rfl rfl rfl (ok _ ((R.2.1 22 l 4 rfl hl).trans (by unfold vLand; rw [if_neg q0, if_neg q1, if_neg q2, if_neg q3, if_pos q4])))) (fun q4 => br_c (fun q5 => s_gI H hl rfl rfl rfl (ok _ ((R.2.1 22 l 5 rfl hl).trans (by unfold vLand; rw [if_neg q0, if_neg q1, if_neg q2, if_neg q3, if_neg q4, if_pos q5])))) (fun q5 => br_c (fun q6 => ⟨yn Y 29 + 1, D_ol89_l R H V hl6 (ok _ (by unfold vLand; rw [if_neg q0, if_neg q1, if_neg q2, if_neg q3, if_neg q4, if_neg q5, if_pos q6, R.1.2.2])) (yn Y 29) 0 (by omega)⟩) (fun q6 => br_c (fun q7 => ⟨yn Y 28 + 1, D_ol145_l R H V (ok _ (by unfold vLand; rw [if_neg q0, if_neg q1, if_neg q2, if_neg q3, if_neg q4, if_neg q5, if_neg q6, if_pos q7, R.1.2.1])) (yn Y 28) 0 (by omega)⟩) (fun q7 => s_rc H V.x0 rfl rfl (D_wholes R H V VV (ok _ (by rw [nWr_eq (by omega) hd]; unfold vLand vWh; rw [if_neg q0, if_neg q1, if_neg q2, if_neg q3, if_neg q4, if_neg q5, if_neg q6, if_neg q7, R.1.2.2])))))))))))
theorem D_ofLand (P : vN g N Y0 S0 Y S M) {a b : Int32} {κ : Int32 → mM → Prop} (h : ∀ k v N' Y' S' M', fOfLand N a b = (k, v, N') → vN g N' Y0 S0 Y' S' M' → sI S' 20 0 0 = k → κ v M') : wX14_ofLand κ (some (yA Y 20 0)) a b M := by
  unfold fOfLand at h
  refine n_th P (fun S1 M1 P1 e1 => ?_)
  have H := P1.1.1
  have V := P1.1.2.1
  have VV := P1.1.2.2.1
  have R := P1.2.2
  have hb := V.2.1
  refine s_rc H V.x0 rfl rfl (v_isLand (fun l hv e => br_f (by decide) (v_is (fun r1 r2 => br_f (by decide) ?_) (fun z => br_t rfl (n_rf P1 (fun S2 M2 P2 e2 => h 2 0 N Y S2 M2 (by rw [if_neg (fun w => w (by rw [e]; exact m_in (n := 6) hv (by omega))), if_pos z]) P2 e2))))) (fun z => br_t rfl (n_rf P1 (fun S2 M2 P2 e2 => h 1 0 N Y S2 M2 (by rw [if_pos z]) P2 e2))))
  have hk : ¬ a < 0 ∧ a < 6 := by rw [e]; exact m_in (n := 6) hv (by omega)
  rw [if_neg (fun w => w hk), if_neg (fun w => w ⟨r1, r2⟩), e, tN_nI (by omega)] at h
  rw [e]
  exact s_rc H V.x0 rfl rfl (D_ofLandNow R H V VV hv (h 0 _ N Y S1 M1 rfl P1 e1))
theorem D_isGood (P : vN g N Y0 S0 Y S M) {a b : Int32} {κ : Int32 → mM → Prop} (h : ∀ k v N' Y' S' M', fIsGood N a b = (k, v, N') → vN g N' Y0 S0 Y' S' M' → sI S' 20 0 0 = k → κ v M') : wX14_isGood κ (some (yA Y 20 0)) a b M := by
  have H := P.1.1
  have V := P.1.2.1
  have R := P.2.2
  have hb := V.2.1
  unfold fIsGood at h
  rw [← R.1.1, ← R.1.2.1] at h
  have i21 : ¬ ((¬ a < 0 ∧ a < nI (yn Y 28)) ∧ (¬ b < 0 ∧ b < nI (yn Y 23))) → wX14_isGood_21 κ (some (yA Y 20 0)) a b (some (yA Y 20 0)) M := fun z => by
    unfold wX14_isGood_21 wX14_isGood_22
    refine n_th P (fun S1 M1 P1 e1 => s_gI P1.1.1 V.x0 rfl rfl rfl ?_)
    rw [e1]
    exact br_f (by decide) (h 1 0 N Y S1 M1 (by rw [if_pos z]) P1 e1)
  refine s_rc H V.x0 rfl rfl (v_isSleeper H V (fun s hs es => br_f (by decide) (s_rc H V.x0 rfl rfl (v_isGate H V (fun t ht et => br_f (by decide) ?_) (fun z => br_t rfl (i21 (fun w => z w.2)))))) (fun z => br_t rfl (i21 (fun w => z w.1))))
  have ha : (¬ a < 0 ∧ a < nI (yn Y 28)) ∧ (¬ b < 0 ∧ b < nI (yn Y 23)) := ⟨by rw [es]; exact m_in hs (by omega), by rw [et]; exact m_in ht (by omega)⟩
  rw [if_neg (fun w => w ha), es, et, tN_nI (by omega), tN_nI (by omega)] at h
  rw [es, et]
  refine n_th P (fun S1 M1 P1 e1 => s_gI P1.1.1 V.x0 rfl rfl rfl ?_)
  rw [e1]
  exact br_t rfl (s_rc P1.1.1 V.x0 rfl rfl (D_good P1.2.2 P1.1.1 P1.1.2.1 P1.1.2.2.1 hs ht (fun z => br_f (by decide) (h 0 1 N Y S1 M1 (by rw [if_pos z]) P1 e1)) (fun z => br_t rfl (h 0 0 N Y S1 M1 (by rw [if_neg z]) P1 e1))))
theorem D_iter {c0 : Int32} {j : Nat} (hj : j < 4) (P : vZ0 g c0 N Y0 S0 Y S M) {κ : Option Nat → mM → Prop} (h : ∀ Y1 S1 M1 i, vZ0 g c0 N Y0 S0 Y1 S1 M1 → mX1 Y S 32 Y1 S1 → vIt Y1 S1 i j 0 → κ (some (yA Y1 32 i)) M1) : wJx4a65c_iterator_32c93 κ (some (yA Y 24 j)) M := f_iter hj P.1 (fun Y1 S1 M1 i P1 a I => h Y1 S1 M1 i ⟨P1, (congrFun (a.2.2.2 20 0 (by omega)).1 0).trans P.2⟩ a I)
theorem D_nn114 {i : Nat} {κ : Int32 → mM → Prop} {c0 : Int32} (h : ∀ S M, vZ0 g c0 N Y0 S0 Y S M → κ (nCn (pAw N) (yn Y 28)) M) : ∀ (d c : Nat) (S : mS) (M : mM), vZ0 g c0 N Y0 S0 Y S M → vIt Y S i 1 c → c + d = yn Y 28 → wX14_nightNow_114 κ (d + 1) (nCn (pAw N) c) (some (yA Y 32 i)) M := by
  intro d
  induction d with
  | zero =>
    intro c S M P I hc
    have V := P.1.1.2.1
    have hl : (sL S 24 1).length = yn Y 28 := by rw [V.2.2.1.2.1, List.length_range]
    have ec : c = yn Y 28 := by omega
    rw [ec] at I ⊢
    rw [wX14_nightNow_114]
    exact s_rc P.1.1.1 I.1 rfl rfl (v_hasNext P.1.1.1 (V.l24 (by omega)) I (by omega) (fun z => absurd z (by omega)) (fun _ => br_t rfl (h S M P)))
  | succ d ih =>
    intro c S M P I hc
    have V := P.1.1.2.1
    have hl : (sL S 24 1).length = yn Y 28 := by rw [V.2.2.1.2.1, List.length_range]
    have hx : (sL S 24 1)[c]? = some c := by rw [V.2.2.1.2.1, List.getElem?_range (by omega)]
    have hlt : c < yn Y 28 := by omega
    rw [wX14_nightNow_114]
    refine s_rc P.1.1.1 I.1 rfl rfl (v_hasNext P.1.1.1 (V.l24 (by omega)) I (by omega) (fun _ => br_f (by decide) ?_) (fun z => absurd z (by omega)))
    refine v_next P.1.1.1 (V.l24 (by omega)) I hx (fun M1 H1 => s_cast H1 hlt rfl rfl ?_)
    have P1 := P.nx H1
    have ih' : ∀ a : Int32, a = nCn (pAw N) (c + 1) → wX14_nightNow_114 κ (d + 1) a (some (yA Y 32 i)) M1 := fun a e => by rw [e]; exact ih (c + 1) _ M1 P1 I.nx (by omega)
    refine s_gI H1 hlt rfl rfl rfl ?_
    rw [P1.1.2.2.2.1 28 c 3 rfl hlt]
    exact br_c (fun w => ih' _ (nCn_t (decide_eq_true w)).symm) (fun w => ih' _ ((Int32.add_zero _).trans (nCn_f (fun q => w (of_decide_eq_true q))).symm))
theorem D_nn172 {i : Nat} {b : Int32} {κ : Int32 → mM → Prop} {c0 : Int32} (h : ∀ S M, vZ0 g c0 N Y0 S0 Y S M → κ (nCn (pFa N (b - 5)) (yn Y 29)) M) : ∀ (d c : Nat) (S : mS) (M : mM), vZ0 g c0 N Y0 S0 Y S M → vIt Y S i 2 c → c + d = yn Y 29 → wX14_nightNow_172 κ (d + 1) b (nCn (pFa N (b - 5)) c) (some (yA Y 32 i)) M := by
  intro d
  induction d with
  | zero =>
    intro c S M P I hc
    have V := P.1.1.2.1
    have hl : (sL S 24 2).length = yn Y 29 := by rw [V.2.2.1.2.2.1, List.length_range]
    have ec : c = yn Y 29 := by omega
    rw [ec] at I ⊢
    rw [wX14_nightNow_172]
    exact s_rc P.1.1.1 I.1 rfl rfl (v_hasNext P.1.1.1 (V.l24 (by omega)) I (by omega) (fun z => absurd z (by omega)) (fun _ => br_t rfl (h S M P)))
  | succ d ih =>
    intro c S M P I hc
    have V := P.1.1.2.1
    have hl : (sL S 24 2).length = yn Y 29 := by rw [V.2.2.1.2.2.1, List.length_range]
    have hx : (sL S 24 2)[c]? = some c := by rw [V.2.2.1.2.2.1, List.getElem?_range (by omega)]
    have hlt : c < yn Y 29 := by omega
    rw [wX14_nightNow_172]
    refine s_rc P.1.1.1 I.1 rfl rfl (v_hasNext P.1.1.1 (V.l24 (by omega)) I (by omega) (fun _ => br_f (by decide) ?_) (fun z => absurd z (by omega)))
    refine v_next P.1.1.1 (V.l24 (by omega)) I hx (fun M1 H1 => s_cast H1 hlt rfl rfl ?_)
    have P1 := P.nx H1
    have ih' : ∀ a : Int32, a = nCn (pFa N (b - 5)) (c + 1) → wX14_nightNow_172 κ (d + 1) b a (some (yA Y 32 i)) M1 := fun a e => by rw [e]; exact ih (c + 1) _ M1 P1 I.nx (by omega)
    refine s_gI H1 hlt rfl rfl rfl ?_
    rw [P1.1.2.2.2.1 29 c 3 rfl hlt]
    exact br_c (fun w => ih' _ (nCn_t (decide_eq_true w)).symm) (fun w => ih' _ ((Int32.add_zero _).trans (nCn_f (fun q => w (of_decide_eq_true q))).symm))
theorem D_nn224 {i : Nat} {κ : Int32 → mM → Prop} {c0 : Int32} (h : ∀ S M, vZ0 g c0 N Y0 S0 Y S M → κ (nCn (pGo N) (yn Y 29)) M) : ∀ (d c : Nat) (S : mS) (M : mM), vZ0 g c0 N Y0 S0 Y S M → vIt Y S i 2 c → c + d = yn Y 29 → wX14_nightNow_224 κ (d + 1) (nCn (pGo N) c) (some (yA Y 32 i)) M := by
  intro d
  induction d with
  | zero =>
    intro c S M P I hc
    have V := P.1.1.2.1
    have hl : (sL S 24 2).length = yn Y 29 := by rw [V.2.2.1.2.2.1, List.length_range]
    have ec : c = yn Y 29 := by omega
    rw [ec] at I ⊢
    rw [wX14_nightNow_224]
    exact s_rc P.1.1.1 I.1 rfl rfl (v_hasNext P.1.1.1 (V.l24 (by omega)) I (by omega) (fun z => absurd z (by omega)) (fun _ => br_t rfl (h S M P)))
  | succ d ih =>
    intro c S M P I hc
    have V := P.1.1.2.1
    have hl : (sL S 24 2).length = yn Y 29 := by rw [V.2.2.1.2.2.1, List.length_range]
    have hx : (sL S 24 2)[c]? = some c := by rw [V.2.2.1.2.2.1, List.getElem?_range (by omega)]
    have hlt : c < yn Y 29 := by omega
    rw [wX14_nightNow_224]
    refine s_rc P.1.1.1 I.1 rfl rfl (v_hasNext P.1.1.1 (V.l24 (by omega)) I (by omega) (fun _ => br_f (by decide) ?_) (fun z => absurd z (by omega)))
    refine v_next P.1.1.1 (V.l24 (by omega)) I hx (fun M1 H1 => s_cast H1 hlt rfl rfl ?_)
    have P1 := P.nx H1
    have ih' : ∀ a : Int32, a = nCn (pGo N) (c + 1) → wX14_nightNow_224 κ (d + 1) a (some (yA Y 32 i)) M1 := fun a e => by rw [e]; exact ih (c + 1) _ M1 P1 I.nx (by omega)
    refine s_gI H1 hlt rfl rfl rfl ?_
    rw [P1.1.2.2.2.1 29 c 4 rfl hlt]
    exact br_c (fun w => ih' _ (nCn_t (decide_eq_true w)).symm) (fun w => ih' _ ((Int32.add_zero _).trans (nCn_f (fun q => w (of_decide_eq_true q))).symm))
theorem D_nn300 (R : RV N Y S) (H : mR g Y S M) (V : mVs Y S) {κ : Int32 → mM → Prop} (h : κ (nSu (fun l => nv N 22 l 4) 6) M) : ∀ (d j : Nat), j + d = 6 → wX14_nightNow_300 κ (d + 1) (nSu (fun l => nv N 22 l 4) j) (some (yA Y 21 0)) (nI 6) (nI j) M := by
  intro d
  induction d with
  | zero =>
    intro j hj
    have ej : j = 6 := by omega
    rw [wX14_nightNow_300, ej]
    exact br_t (nI_le (by omega) (by omega)) h
  | succ d ih =>
    intro j hj
    have hl6 : j < 6 := by omega
    rw [wX14_nightNow_300]
    refine br_f (nI_ge hl6 (by omega)) (s_ldR H V.l21 rfl (by decide) rfl (by rw [V.2.2.2.2.1]; exact hl6) (by rw [V.2.2.2.2.1]; omega) ?_)
    rw [V.2.2.2.2.2.1 j hl6]
    refine s_gI H (V.l22 hl6) rfl rfl rfl ?_
    rw [R.2.1 22 j 4 rfl (V.l22 hl6), nI_1]
    exact ih (j + 1) (by omega)
theorem D_nn341 (R : RV N Y S) (H : mR g Y S M) (V : mVs Y S) {κ : Int32 → mM → Prop} (h : κ (nSu (fun l => nv N 22 l 5) 6) M) : ∀ (d j : Nat), j + d = 6 → wX14_nightNow_341 κ (d + 1) (nSu (fun l => nv N 22 l 5) j) (some (yA Y 21 0)) (nI 6) (nI j) M := by
  intro d
  induction d with
  | zero =>
    intro j hj
    have ej : j = 6 := by omega
    rw [wX14_nightNow_341, ej]
    exact br_t (nI_le (by omega) (by omega)) h
  | succ d ih =>
    intro j hj
    have hl6 : j < 6 := by omega
    rw [wX14_nightNow_341]
    refine br_f (nI_ge hl6 (by omega)) (s_ldR H V.l21 rfl (by decide) rfl (by rw [V.2.2.2.2.1]; exact hl6) (by rw [V.2.2.2.2.1]; omega) ?_)
    rw [V.2.2.2.2.2.1 j hl6]
    refine s_gI H (V.l22 hl6) rfl rfl rfl ?_
    rw [R.2.1 22 j 5 rfl (V.l22 hl6), nI_1]
    exact ih (j + 1) (by omega)
theorem D_nightNow {c0 : Int32} (P : vZ0 g c0 N Y0 S0 Y S M) {b : Int32} {κ : Int32 → mM → Prop} (h : ∀ Y' S' M', vZ0 g c0 N Y0 S0 Y' S' M' → (∀ k, k ≠ 32 → k ≠ 38 → yn Y' k = yn Y k) → (∀ k i, i < yn Y k → yA Y' k i = yA Y k i) → κ (vNight N b) M') : wX14_nightNow κ (some (yA Y 20 0)) b M := by
  have H := P.1.1.1
  have V := P.1.1.2.1
  have R := P.1.2.2
  have h0 : ∀ v, v = vNight N b → κ v M := fun v e => by rw [e]; exact h Y S M P (fun _ _ _ => rfl) (fun _ _ _ => rfl)
  have e12 : nI (sL S 24 3).length / 3 = nI ((nh N).length / 3) := by
    obtain ⟨n, hn, el, -⟩ := V.2.2.1.2.2.2
    rw [R.2.2.2.2] at el ⊢
    rw [show (3 : Int32) = nI 3 from rfl, pk_div (by omega) (by omega) (by omega)]
  have i114 : nCn (pAw N) (nn N 28) = vNight N b → m_gR M (some (yA Y 20 0)) 19 8 fun x16 => m_rc M x16 4 fun b19 => wJx4a65c_iterator_32c93 (fun x17 M18 => ∃ u : Nat, wX14_nightNow_114 κ u 0 x17 M18) (some b19) M := fun ev => s_gR6 H V.x0 rfl rfl rfl (s_rcL H rfl (V.l24 (by omega)) (D_iter (by omega) P (fun Y1 S1 M1 i P1 a I => ⟨yn Y1 28 + 1, D_nn114 (fun S M P => by
    rw [P.1.2.2.1.2.1, ev]
    exact h Y1 S M P (fun k z _ => a.2.2.1 k z) a.1) (yn Y1 28) 0 S1 M1 P1 I (by omega)⟩)))
  have i172 : nCn (pFa N (b - 5)) (nn N 29) = vNight N b → m_gR M (some (yA Y 20 0)) 19 9 fun x16 => m_rc M x16 4 fun b19 => wJx4a65c_iterator_32c93 (fun x17 M18 => ∃ u : Nat, wX14_nightNow_172 κ u b 0 x17 M18) (some b19) M := fun ev => s_gR6 H V.x0 rfl rfl rfl (s_rcL H rfl (V.l24 (by omega)) (D_iter (by omega) P (fun Y1 S1 M1 i P1 a I => ⟨yn Y1 29 + 1, D_nn172 (fun S M P => by
    rw [P.1.2.2.1.2.2, ev]
    exact h Y1 S M P (fun k z _ => a.2.2.1 k z) a.1) (yn Y1 29) 0 S1 M1 P1 I (by omega)⟩)))
  have i224 : nCn (pGo N) (nn N 29) = vNight N b → m_gR M (some (yA Y 20 0)) 19 9 fun x16 => m_rc M x16 4 fun b19 => wJx4a65c_iterator_32c93 (fun x17 M18 => ∃ u : Nat, wX14_nightNow_224 κ u 0 x17 M18) (some b19) M := fun ev => s_gR6 H V.x0 rfl rfl rfl (s_rcL H rfl (V.l24 (by omega)) (D_iter (by omega) P (fun Y1 S1 M1 i P1 a I => ⟨yn Y1 29 + 1, D_nn224 (fun S M P => by
    rw [P.1.2.2.1.2.2, ev]
    exact h Y1 S M P (fun k z _ => a.2.2.1 k z) a.1) (yn Y1 29) 0 S1 M1 P1 I (by omega)⟩)))
  exact br_c (fun q0 => s_gI H V.x0 rfl rfl rfl (h0 _ ((R.2.1 20 0 1 rfl V.x0).trans (by unfold vNight; rw [if_pos q0])))) (fun q0 => br_c (fun q1 => s_gI H V.x0 rfl rfl rfl (h0 _ ((R.2.1 20 0 2 rfl V.x0).trans (by unfold vNight; rw [if_neg q0, if_pos q1])))) (fun q1 => br_c (fun q2 => s_gR6 H V.x0 rfl rfl rfl (s_rcL H rfl (V.l24 (by omega)) (v_szG H V (h0 _ ((congrArg nI R.1.1).trans (by unfold vNight; rw [if_neg q0, if_neg q1, if_pos q2])))))) (fun q2 => br_c (fun q3 => s_gR6 H V.x0 rfl rfl rfl (s_rcL H rfl (V.l24 (by omega)) (v_szS H V (h0 _ ((congrArg nI R.1.2.1).trans (by unfold vNight; rw [if_neg q0, if_neg q1, if_neg q2, if_pos q3])))))) (fun q3 => br_c (fun q4 => i114 (by unfold vNight; rw [if_neg q0, if_neg q1, if_neg q2, if_neg q3, if_pos q4])) (fun q4 => br_c (fun q5 => s_gR6 H V.x0 rfl rfl rfl (s_rcL H rfl (V.l24 (by omega)) (v_szP H V (h0 _ ((congrArg nI R.1.2.2).trans (by unfold vNight; rw [if_neg q0, if_neg q1, if_neg q2, if_neg q3, if_neg q4, if_pos q5])))))) (fun q5 => br_c (fun q6 => i172 (by rw [show pFa N (b - 5) = pFa N 1 from by rw [q6]; rfl]; unfold vNight; rw [if_neg q0, if_neg q1, if_neg q2, if_neg q3, if_neg q4, if_neg q5, if_pos q6])) (fun q6 => br_c (fun q7 => i172 (by rw [show pFa N (b - 5) = pFa N 2 from by rw [q7]; rfl]; unfold vNight; rw [if_neg q0, if_neg q1, if_neg q2, if_neg q3, if_neg q4, if_neg q5, if_neg q6, if_pos q7])) (fun q7 => br_c (fun q8 => i172 (by rw [show pFa N (b - 5) = pFa N 3 from by rw [q8]; rfl]; unfold vNight; rw [if_neg q0, if_neg q1, if_neg q2, if_neg q3, if_neg q4, if_neg q5, if_neg q6, if_neg q7, if_pos q8])) (fun q8 => br_c (fun q9 => i172 (by rw [show pFa N (b - 5) = pFa N 4 from by rw [q9]; rfl]; unfold vNight; rw [if_neg q0, if_neg q1, if_neg q2, if_neg q3, if_neg q4, if_neg q5, if_neg q6, if_neg q7, if_neg q8, if_pos q9])) (fun q9 => br_c (fun q10 => i172 (by rw [show pFa N (b - 5) = pFa N 5 from by rw [q10]; rfl]; unfold vNight; rw [if_neg q0, if_neg q1, if_neg q2, if_neg q3, if_neg q4, if_neg q5, if_neg q6, if_neg q7, if_neg q8, if_neg q9, if_pos q10])) (fun q10 => br_c (fun q11 => i224 (by unfold vNight; rw [if_neg q0, if_neg q1, if_neg q2, if_neg q3, if_neg q4, if_neg q5, if_neg q6, if_neg q7, if_neg q8, if_neg q9, if_neg q10, if_pos q11])) (fun q11 => br_c (fun q12 => s_gR6 H V.x0 rfl rfl rfl (s_rcL H rfl (V.l24 (by omega)) (v_szH H V (h0 _ ((e12).trans (by unfold vNight; rw [if_neg q0, if_neg q1, if_neg q2, if_neg q3, if_neg q4, if_neg q5, if_neg q6, if_neg q7, if_neg q8, if_neg q9, if_neg q10, if_neg q11, if_pos q12])))))) (fun q12 => br_c (fun q13 => s_gI H V.x0 rfl rfl rfl (h0 _ ((R.2.1 20 0 4 rfl V.x0).trans (by unfold vNight; rw [if_neg q0, if_neg q1, if_neg q2, if_neg q3, if_neg q4, if_neg q5, if_neg q6, if_neg q7, if_neg q8, if_neg q9, if_neg q10, if_neg q11, if_neg q12, if_pos q13])))) (fun q13 => br_c (fun q14 => s_gI H V.x0 rfl rfl rfl (h0 _ ((R.2.1 20 0 5 rfl V.x0).trans (by unfold vNight; rw [if_neg q0, if_neg q1, if_neg q2, if_neg q3, if_neg q4, if_neg q5, if_neg q6, if_neg q7, if_neg q8, if_neg q9, if_neg q10, if_neg q11, if_neg q12, if_neg q13, if_pos q14])))) (fun q14 => br_c (fun q15 => s_gR6 H V.x0 rfl rfl rfl (s_lenR H V.l21 (by decide) rfl (by rw [V.2.2.2.2.1]; exact ⟨7, D_nn300 R H V (h0 _ (by unfold vNight; rw [if_neg q0, if_neg q1, if_neg q2, if_neg q3, if_neg q4, if_neg q5, if_neg q6, if_neg q7, if_neg q8, if_neg q9, if_neg q10, if_neg q11, if_neg q12, if_neg q13, if_neg q14, if_pos q15])) 6 0 (by omega)⟩))) (fun q15 => s_gR6 H V.x0 rfl rfl rfl (s_lenR H V.l21 (by decide) rfl (by rw [V.2.2.2.2.1]; exact ⟨7, D_nn341 R H V (h0 _ (by unfold vNight; rw [if_neg q0, if_neg q1, if_neg q2, if_neg q3, if_neg q4, if_neg q5, if_neg q6, if_neg q7, if_neg q8, if_neg q9, if_neg q10, if_neg q11, if_neg q12, if_neg q13, if_neg q14, if_neg q15])) 6 0 (by omega)⟩))))))))))))))))))
theorem D_night (P : vN g N Y0 S0 Y S M) {b : Int32} {κ : Int32 → mM → Prop} (h : ∀ k v N' Y' S' M', fNight N b = (k, v, N') → vN g N' Y0 S0 Y' S' M' → sI S' 20 0 0 = k → κ v M') : wX14_night κ (some (yA Y 20 0)) b M := by
  unfold fNight at h
  refine n_th P (fun S1 M1 P1 e1 => v_is (fun r1 r2 => br_f (by decide) (s_rc P1.1.1 P1.1.2.1.x0 rfl rfl ?_)) (fun z => br_t rfl (n_rf P1 (fun S2 M2 P2 e2 => h 1 0 N Y S2 M2 (by rw [if_pos z]) P2 e2))))
  rw [if_neg (fun w => w ⟨r1, r2⟩)] at h
  exact D_nightNow (c0 := 0) ⟨P1, e1⟩ (fun Y' S' M' P' _ _ => h 0 _ N Y' S' M' rfl P'.1 P'.2)
end SIM31w
