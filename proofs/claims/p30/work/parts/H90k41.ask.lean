/-! THE SIMULATION, 31: parts, lands, passes, nights asked, of both sides -/
theorem b_no5 {b : Int32} (q0 : ¬ b = 0) (q1 : ¬ b = 1) (q2 : ¬ b = 2) (q3 : ¬ b = 3) (q4 : ¬ b = 4) (q5 : ¬ b = 5) : ¬ (¬ b < 0 ∧ ¬ 5 < b) := by
  intro w
  obtain ⟨j, hj, e⟩ := b_rg (n := 5) (by omega) (show ¬ b < 0 ∧ ¬ nI 5 < b from w)
  have hj' : j = 0 ∨ j = 1 ∨ j = 2 ∨ j = 3 ∨ j = 4 ∨ j = 5 := by omega
  rcases hj' with rfl | rfl | rfl | rfl | rfl | rfl
  · exact q0 e
  · exact q1 e
  · exact q2 e
  · exact q3 e
  · exact q4 e
  · exact q5 e
theorem b_no8 {b : Int32} (q0 : ¬ b = 0) (q1 : ¬ b = 1) (q2 : ¬ b = 2) (q3 : ¬ b = 3) (q4 : ¬ b = 4) (q5 : ¬ b = 5) (q6 : ¬ b = 6) (q7 : ¬ b = 7) (q8 : ¬ b = 8) : ¬ (¬ b < 0 ∧ ¬ 8 < b) := by
  intro w
  obtain ⟨j, hj, e⟩ := b_rg (n := 8) (by omega) (show ¬ b < 0 ∧ ¬ nI 8 < b from w)
  have hj' : j = 0 ∨ j = 1 ∨ j = 2 ∨ j = 3 ∨ j = 4 ∨ j = 5 ∨ j = 6 ∨ j = 7 ∨ j = 8 := by omega
  rcases hj' with rfl | rfl | rfl | rfl | rfl | rfl | rfl | rfl | rfl
  · exact q0 e
  · exact q1 e
  · exact q2 e
  · exact q3 e
  · exact q4 e
  · exact q5 e
  · exact q6 e
  · exact q7 e
  · exact q8 e
theorem b_no16 {b : Int32} (q0 : ¬ b = 0) (q1 : ¬ b = 1) (q2 : ¬ b = 2) (q3 : ¬ b = 3) (q4 : ¬ b = 4) (q5 : ¬ b = 5) (q6 : ¬ b = 6) (q7 : ¬ b = 7) (q8 : ¬ b = 8) (q9 : ¬ b = 9) (q10 : ¬ b = 10) (q11 : ¬ b = 11) (q12 : ¬ b = 12) (q13 : ¬ b = 13) (q14 : ¬ b = 14) (q15 : ¬ b = 15) (q16 : ¬ b = 16) : ¬ (¬ b < 0 ∧ ¬ 16 < b) := by
  intro w
  obtain ⟨j, hj, e⟩ := b_rg (n := 16) (by omega) (show ¬ b < 0 ∧ ¬ nI 16 < b from w)
  have hj' : j = 0 ∨ j = 1 ∨ j = 2 ∨ j = 3 ∨ j = 4 ∨ j = 5 ∨ j = 6 ∨ j = 7 ∨ j = 8 ∨ j = 9 ∨ j = 10 ∨ j = 11 ∨ j = 12 ∨ j = 13 ∨ j = 14 ∨ j = 15 ∨ j = 16 := by omega
  rcases hj' with rfl | rfl | rfl | rfl | rfl | rfl | rfl | rfl | rfl | rfl | rfl | rfl | rfl | rfl | rfl | rfl | rfl
  · exact q0 e
  · exact q1 e
  · exact q2 e
  · exact q3 e
  · exact q4 e
  · exact q5 e
  · exact q6 e
  · exact q7 e
  · exact q8 e
  · exact q9 e
  · exact q10 e
  · exact q11 e
  · exact q12 e
  · exact q13 e
  · exact q14 e
  · exact q15 e
  · exact q16 e
section SIM31
variable {g : Nat → Nat} {Y : mY} {S : mS} {M : mM} {N : mN}
theorem C_ofP4 (R : RC 99 N Y S) (H : mR g Y S M) (W : mWs Y S) {p : Nat} (hp : p < yn Y 5) {κ : Int32 → mM → Prop} (h : κ (nLo N p) M) : m_rc M (some (yA Y 5 p)) 8 fun b15 => wX3_whereabouts (fun x13 M14 => ((x13 = none → κ (-1) M14) ∧ (¬ (x13 = none) → m_rc M14 (some (yA Y 5 p)) 8 fun b19 => wX3_whereabouts (fun x17 M18 => m_gI M18 x17 7 0 fun x20 => κ x20 M18) (some b19) M14))) (some b15) M := by
  rw [R.lo H W hp] at h
  refine s_rc H hp rfl rfl (c_whereabouts H hp ?_)
  cases hx : cWh S p with
  | none =>
    rw [hx] at h
    exact br_t rfl h
  | some l =>
    rw [hx] at h
    have hl := cWh_l H hp l hx
    refine br_f (fun z => by cases z) (s_rc H hp rfl rfl (c_whereabouts H hp ?_))
    rw [hx]
    refine s_gI H hl rfl rfl rfl ?_
    rw [W.2.2.2.1.1 l (W.l2' hl)]
    exact h
theorem C_ofP5 (R : RC 99 N Y S) (H : mR g Y S M) (W : mWs Y S) {p : Nat} (hp : p < yn Y 5) {κ : Int32 → mM → Prop} (h : κ (if 100 ≤ nv N 29 p 4 then -1 else nv N 29 p 4) M) : m_gR M (some (yA Y 5 p)) 8 5 fun x => ((x = none → κ (-1) M) ∧ (¬ (x = none) → m_gR M (some (yA Y 5 p)) 8 5 fun x14 => m_gI M x14 11 0 fun x15 => κ x15 M)) := by
  have hb := W.2.1
  refine s_gR3 H hp rfl rfl rfl ?_
  cases hx : sX S 5 p 5 with
  | none =>
    rw [if_pos (Int32.not_lt.mp (R.at0 H W hp hx))] at h
    exact br_t rfl h
  | some s =>
    have hs := H.lX (k := 5) (f := 5) (kt := 4) hp rfl s hx
    have e := (R.at1 hp hx).2
    rw [e, if_neg (show ¬ (100 : Int32) ≤ nI s from fun w => absurd (nI_lt (a := s) (b := 100) (by omega) (by omega)) (Int32.not_lt.mpr w))] at h
    refine br_f (fun z => by cases z) (s_gR3 H hp rfl rfl rfl ?_)
    rw [hx]
    refine s_gI H hs rfl rfl rfl ?_
    rw [W.2.2.2.1.2.2.1 s hs]
    exact h
theorem C_ofPart (H : mR g Y S M) (W : mWs Y S) (Q : mWq Y S) (R : RC 99 N Y S) {a b : Int32} {κ : Int32 → mM → Prop} {ξ : String → mM → Prop} (h1 : (fOfPart N a b).1 = 1 → ξ "java/lang/IndexOutOfBoundsException" M) (h2 : (fOfPart N a b).1 = 2 → ξ "java/lang/IllegalArgumentException" M)
    (h : ∀ v N' Y' S' M', fOfPart N a b = (0, v, N') → cX g N' Y S Y' S' M' → κ v M') : wX8_ofPart κ ξ (some (yA Y 0 0)) a b M := by
  have hb := W.2.1
  unfold fOfPart at h1 h2 h
  rw [← R.1.2.2] at h1 h2 h
  refine s_rc H W.x0 rfl rfl (c_partN H W (fun p hp ep => ?_) (fun z => h1 (by rw [if_pos z])))
  have ha : ¬ a < 0 ∧ a < nI (yn Y 5) := by rw [ep]; exact m_in hp (by omega)
  rw [if_neg (fun w => w ha)] at h2 h
  have tp : tN a = p := by rw [ep, tN_nI (by omega)]
  have ok : ∀ v, v = vPart N p b → (¬ b < 0 ∧ ¬ 5 < b) → κ v M := fun v ev hbk => h v N Y S M (by rw [if_neg (fun w => w hbk), tp, ev]) (cX.rf H W Q R)
  exact br_c (fun q0 => s_gI H hp rfl rfl rfl (ok _ ((R.2.1 5 p 1 29 0 rfl hp (by omega)).trans (by unfold vPart; rw [if_pos q0])) (by rw [q0]; decide))) (fun q0 => br_c (fun q1 => s_gI H hp rfl rfl rfl (ok _ ((R.2.1 5 p 2 29 1 rfl hp (by omega)).trans (by unfold vPart; rw [if_neg q0, if_pos q1])) (by rw [q1]; decide))) (fun q1 => br_c (fun q2 => s_gI H hp rfl rfl rfl (ok _ ((R.2.1 5 p 3 29 2 rfl hp (by omega)).trans (by unfold vPart; rw [if_neg q0, if_neg q1, if_pos q2])) (by rw [q2]; decide))) (fun q2 => br_c (fun q3 => s_gI H hp rfl rfl rfl (ok _ ((R.2.1 5 p 4 29 3 rfl hp (by omega)).trans (by unfold vPart; rw [if_neg q0, if_neg q1, if_neg q2, if_pos q3])) (by rw [q3]; decide))) (fun q3 => br_c (fun q4 => C_ofP4 R H W hp (ok _ (by unfold vPart; rw [if_neg q0, if_neg q1, if_neg q2, if_neg q3, if_pos q4]) (by rw [q4]; decide))) (fun q4 => br_c (fun q5 => C_ofP5 R H W hp (ok _ (by unfold vPart; rw [if_neg q0, if_neg q1, if_neg q2, if_neg q3, if_neg q4]) (by rw [q5]; decide))) (fun q5 => h2 (by rw [if_pos (b_no5 q0 q1 q2 q3 q4 q5)])))))))
theorem C_ofLand (H : mR g Y S M) (W : mWs Y S) (Q : mWq Y S) (R : RC 99 N Y S) {a b : Int32} {κ : Int32 → mM → Prop} {ξ : String → mM → Prop} (h1 : (fOfLand N a b).1 = 1 → ξ "java/lang/IndexOutOfBoundsException" M) (h2 : (fOfLand N a b).1 = 2 → ξ "java/lang/IllegalArgumentException" M)
    (h : ∀ v N' Y' S' M', fOfLand N a b = (0, v, N') → cX g N' Y S Y' S' M' → κ v M') : wX8_ofLand κ ξ (some (yA Y 0 0)) a b M := by
  have hb := W.2.1
  unfold fOfLand at h1 h2 h
  refine s_rc H W.x0 rfl rfl (c_landN H W (fun l hl6 ep => ?_) (fun z => h1 (by rw [if_pos z])))
  have ha : ¬ a < 0 ∧ a < 6 := by rw [ep]; exact m_in (n := 6) hl6 (by omega)
  rw [if_neg (fun w => w ha)] at h2 h
  have tp : tN a = l := by rw [ep, tN_nI (by omega)]
  have ok : ∀ v, v = vLand N l b → (¬ b < 0 ∧ ¬ 8 < b) → κ v M := fun v ev hbk => h v N Y S M (by rw [if_neg (fun w => w hbk), tp, ev]) (cX.rf H W Q R)
  have hl := W.l2 hl6
  exact br_c (fun q0 => s_gI H hl rfl rfl rfl (ok _ ((R.2.1 2 l 1 22 0 rfl hl (by omega)).trans (by unfold vLand; rw [if_pos q0])) (by rw [q0]; decide))) (fun q0 => br_c (fun q1 => s_gI H hl rfl rfl rfl (ok _ ((R.2.1 2 l 2 22 1 rfl hl (by omega)).trans (by unfold vLand; rw [if_neg q0, if_pos q1])) (by rw [q1]; decide))) (fun q1 => br_c (fun q2 => s_gI H hl rfl rfl rfl (ok _ ((R.2.1 2 l 3 22 2 rfl hl (by omega)).trans (by unfold vLand; rw [if_neg q0, if_neg q1, if_pos q2])) (by rw [q2]; decide))) (fun q2 => br_c (fun q3 => s_gI H hl rfl rfl rfl (ok _ ((R.2.1 2 l 4 22 3 rfl hl (by omega)).trans (by unfold vLand; rw [if_neg q0, if_neg q1, if_neg q2, if_pos q3])) (by rw [q3]; decide))) (fun q3 => br_c (fun q4 => s_gI H hl rfl rfl rfl (ok _ ((R.2.1 2 l 5 22 4 rfl hl (by omega)).trans (by unfold vLand; rw [if_neg q0, if_neg q1, if_neg q2, if_neg q3, if_pos q4])) (by rw [q4]; decide))) (fun q4 => br_c (fun q5 => s_gI H hl rfl rfl rfl (ok _ ((R.2.1 2 l 6 22 5 rfl hl (by omega)).trans (by unfold vLand; rw [if_neg q0, if_neg q1, if_neg q2, if_neg q3, if_neg q4, if_pos q5])) (by rw [q5]; decide))) (fun q5 => br_c (fun q6 => s_rc H W.x0 rfl rfl (C_inStore R H W hl (ok _ (by unfold vLand; rw [if_neg q0, if_neg q1, if_neg q2, if_neg q3, if_neg q4, if_neg q5, if_pos q6]) (by rw [q6]; decide)))) (fun q6 => br_c (fun q7 => s_rc H W.x0 rfl rfl (C_sleepersIn R H W hl (ok _ (by unfold vLand; rw [if_neg q0, if_neg q1, if_neg q2, if_neg q3, if_neg q4, if_neg q5, if_neg q6, if_pos q7]) (by rw [q7]; decide)))) (fun q7 => br_c (fun q8 => s_rc H W.x0 rfl rfl (C_whole R H W hl (ok _ (by unfold vLand; rw [if_neg q0, if_neg q1, if_neg q2, if_neg q3, if_neg q4, if_neg q5, if_neg q6, if_neg q7]) (by rw [q8]; decide)))) (fun q8 => h2 (by rw [if_pos (b_no8 q0 q1 q2 q3 q4 q5 q6 q7 q8)]))))))))))
theorem C_night (H : mR g Y S M) (W : mWs Y S) (Q : mWq Y S) (R : RC 99 N Y S) {b : Int32} {κ : Int32 → mM → Prop} {ξ : String → mM → Prop} (h1 : (fNight N b).1 = 1 → ξ "java/lang/IllegalArgumentException" M)
    (h : ∀ v N' Y' S' M', fNight N b = (0, v, N') → cX g N' Y S Y' S' M' → κ v M') : wX8_night κ ξ (some (yA Y 0 0)) b M := by
  unfold fNight at h1 h
  have e12 : nI (yn Y 6) = nI ((nh N).length / 3) := congrArg nI (by have := R.2.2.2.2.2.2.2.2.2.1; omega)
  have ok : ∀ v, v = vNight N b → (¬ b < 0 ∧ ¬ 16 < b) → κ v M := fun v ev hbk => h v N Y S M (by rw [if_neg (fun w => w hbk), ev]) (cX.rf H W Q R)
  exact br_c (fun q0 => s_gI H W.x0 rfl rfl rfl (ok _ ((R.2.1 0 0 8 20 1 rfl W.x0 (by omega)).trans (by unfold vNight; rw [if_pos q0])) (by rw [q0]; decide))) (fun q0 => br_c (fun q1 => s_gI H W.x0 rfl rfl rfl (ok _ ((R.2.1 0 0 9 20 2 rfl W.x0 (by omega)).trans (by unfold vNight; rw [if_neg q0, if_pos q1])) (by rw [q1]; decide))) (fun q1 => br_c (fun q2 => s_gR6 H W.x0 rfl rfl rfl (s_rcL H rfl (W.l12 (by omega)) (c_szG H W (ok _ ((congrArg nI R.1.1).trans (by unfold vNight; rw [if_neg q0, if_neg q1, if_pos q2])) (by rw [q2]; decide))))) (fun q2 => br_c (fun q3 => s_gR6 H W.x0 rfl rfl rfl (s_rcL H rfl (W.l12 (by omega)) (c_szS H W (ok _ ((congrArg nI R.1.2.1).trans (by unfold vNight; rw [if_neg q0, if_neg q1, if_neg q2, if_pos q3])) (by rw [q3]; decide))))) (fun q3 => br_c (fun q4 => s_rc H W.x0 rfl rfl (C_awake R H W (ok _ (by unfold vNight; rw [if_neg q0, if_neg q1, if_neg q2, if_neg q3, if_pos q4]) (by rw [q4]; decide)))) (fun q4 => br_c (fun q5 => s_gR6 H W.x0 rfl rfl rfl (s_rcL H rfl (W.l12 (by omega)) (c_szP H W (ok _ ((congrArg nI R.1.2.2).trans (by unfold vNight; rw [if_neg q0, if_neg q1, if_neg q2, if_neg q3, if_neg q4, if_pos q5])) (by rw [q5]; decide))))) (fun q5 => br_c (fun q6 => s_rc H W.x0 rfl rfl (C_ofFate R H W (ok _ (by unfold vNight; rw [if_neg q0, if_neg q1, if_neg q2, if_neg q3, if_neg q4, if_neg q5, if_pos q6]) (by rw [q6]; decide)))) (fun q6 => br_c (fun q7 => s_rc H W.x0 rfl rfl (C_ofFate R H W (ok _ (by unfold vNight; rw [if_neg q0, if_neg q1, if_neg q2, if_neg q3, if_neg q4, if_neg q5, if_neg q6, if_pos q7]) (by rw [q7]; decide)))) (fun q7 => br_c (fun q8 => s_rc H W.x0 rfl rfl (C_ofFate R H W (ok _ (by unfold vNight; rw [if_neg q0, if_neg q1, if_neg q2, if_neg q3, if_neg q4, if_neg q5, if_neg q6, if_neg q7, if_pos q8]) (by rw [q8]; decide)))) (fun q8 => br_c (fun q9 => s_rc H W.x0 rfl rfl (C_ofFate R H W (ok _ (by unfold vNight; rw [if_neg q0, if_neg q1, if_neg q2, if_neg q3, if_neg q4, if_neg q5, if_neg q6, if_neg q7, if_neg q8, if_pos q9]) (by rw [q9]; decide)))) (fun q9 => br_c (fun q10 => s_rc H W.x0 rfl rfl (C_ofFate R H W (ok _ (by unfold vNight; rw [if_neg q0, if_neg q1, if_neg q2, if_neg q3, if_neg q4, if_neg q5, if_neg q6, if_neg q7, if_neg q8, if_neg q9, if_pos q10]) (by rw [q10]; decide)))) (fun q10 => br_c (fun q11 => s_rc H W.x0 rfl rfl (C_gone R H W (ok _ (by unfold vNight; rw [if_neg q0, if_neg q1, if_neg q2, if_neg q3, if_neg q4, if_neg q5, if_neg q6, if_neg q7, if_neg q8, if_neg q9, if_neg q10, if_pos q11]) (by rw [q11]; decide)))) (fun q11 => br_c (fun q12 => s_gR6 H W.x0 rfl rfl rfl (s_rcL H rfl (W.l12 (by omega)) (c_szH H W (ok _ ((e12).trans (by unfold vNight; rw [if_neg q0, if_neg q1, if_neg q2, if_neg q3, if_neg q4, if_neg q5, if_neg q6, if_neg q7, if_neg q8, if_neg q9, if_neg q10, if_neg q11, if_pos q12])) (by rw [q12]; decide))))) (fun q12 => br_c (fun q13 => s_gR6 H W.x0 rfl rfl rfl (s_gI H W.l7 rfl rfl rfl (ok _ ((R.2.1 7 0 0 20 4 rfl W.l7 (by omega)).trans (by unfold vNight; rw [if_neg q0, if_neg q1, if_neg q2, if_neg q3, if_neg q4, if_neg q5, if_neg q6, if_neg q7, if_neg q8, if_neg q9, if_neg q10, if_neg q11, if_neg q12, if_pos q13])) (by rw [q13]; decide)))) (fun q13 => br_c (fun q14 => s_gI H W.x0 rfl rfl rfl (ok _ ((R.2.1 0 0 10 20 5 rfl W.x0 (by omega)).trans (by unfold vNight; rw [if_neg q0, if_neg q1, if_neg q2, if_neg q3, if_neg q4, if_neg q5, if_neg q6, if_neg q7, if_neg q8, if_neg q9, if_neg q10, if_neg q11, if_neg q12, if_neg q13, if_pos q14])) (by rw [q14]; decide))) (fun q14 => br_c (fun q15 => s_rc H W.x0 rfl rfl (C_duties R H W (ok _ (by unfold vNight; rw [if_neg q0, if_neg q1, if_neg q2, if_neg q3, if_neg q4, if_neg q5, if_neg q6, if_neg q7, if_neg q8, if_neg q9, if_neg q10, if_neg q11, if_neg q12, if_neg q13, if_neg q14, if_pos q15]) (by rw [q15]; decide)))) (fun q15 => br_c (fun q16 => s_rc H W.x0 rfl rfl (C_fines R H W (ok _ (by unfold vNight; rw [if_neg q0, if_neg q1, if_neg q2, if_neg q3, if_neg q4, if_neg q5, if_neg q6, if_neg q7, if_neg q8, if_neg q9, if_neg q10, if_neg q11, if_neg q12, if_neg q13, if_neg q14, if_neg q15]) (by rw [q16]; decide)))) (fun q16 => h1 (by rw [if_pos (b_no16 q0 q1 q2 q3 q4 q5 q6 q7 q8 q9 q10 q11 q12 q13 q14 q15 q16)]))))))))))))))))))
end SIM31
section SIM31v
variable {g : Nat → Nat} {Y : mY} {S : mS} {M : mM} {N : mN} {Y0 : mY} {S0 : mS}
/-- dream by dream, as the reference tells it -/
def pDr (N : mN) (dr p : Nat) : Bool := decide (nv N 29 p 0 = nI dr)
def nAl (N : mN) (l dr : Nat) : Nat → Int32
  | 0 => 1
  | j + 1 => if nv N 29 j 0 = nI dr then nAl N l dr j &&& (if nLo N j = nI l then 1 else 0) else nAl N l dr j
def nWr (N : mN) (l n : Nat) : Nat → Int32
  | 0 => 0
  | d + 1 => nWr N l n d ||| (if ¬ nAl N l d n = 0 ∧ ¬ nCn (pDr N d) n ≤ 0 then m_shl 1 (nI d) else 0)
end SIM31v
/-- both ways to tell the whole dreams -/
theorem nHe_zb {N : mN} {l u : Nat} (hu : u < 32) : ∀ n, (∀ p, p < n → ∃ d, d < 8 ∧ nv N 29 p 0 = nI d) → (zb (nHe N l n) u = true ↔ ∃ p, p < n ∧ nv N 29 p 0 = nI u ∧ nLo N p = nI l) := by
  intro n
  induction n with
  | zero => intro _; exact ⟨fun w => absurd w (by rw [show nHe N l 0 = 0 from rfl, zb_0]; decide), fun ⟨p, hp, _⟩ => absurd hp (by omega)⟩
  | succ n ih =>
    intro h
    have ih := ih (fun p hp => h p (by omega))
    obtain ⟨d, hd, ed⟩ := h n (by omega)
    by_cases z : nLo N n = nI l
    · rw [show nHe N l (n + 1) = nHe N l n ||| m_shl 1 (nv N 29 n 0) from if_pos z, zb_or, ed, zb_shl d (by omega) u hu, Bool.or_eq_true, ih, decide_eq_true_iff]
      constructor
      · intro q
        rcases q with ⟨p, hp, q⟩ | q
        · exact ⟨p, by omega, q⟩
        · exact ⟨n, by omega, by rw [ed, q], z⟩
      · intro ⟨p, hp, q1, q2⟩
        by_cases w : p = n
        · rw [w, ed] at q1
          exact Or.inr ((nI_eq (by omega) (by omega)).mp q1).symm
        · exact Or.inl ⟨p, by omega, q1, q2⟩
    · rw [show nHe N l (n + 1) = nHe N l n from if_neg z, ih]
      constructor
      · intro ⟨p, hp, q⟩
        exact ⟨p, by omega, q⟩
      · intro ⟨p, hp, q1, q2⟩
        have : p ≠ n := fun w => z (by rw [← w]; exact q2)
        exact ⟨p, by omega, q1, q2⟩
theorem nEl_zb {N : mN} {l u : Nat} (hu : u < 32) : ∀ n, (∀ p, p < n → ∃ d, d < 8 ∧ nv N 29 p 0 = nI d) → (zb (nEl N l n) u = true ↔ ∃ p, p < n ∧ nv N 29 p 0 = nI u ∧ ¬ nLo N p = nI l) := by
  intro n
  induction n with
  | zero => intro _; exact ⟨fun w => absurd w (by rw [show nEl N l 0 = 0 from rfl, zb_0]; decide), fun ⟨p, hp, _⟩ => absurd hp (by omega)⟩
  | succ n ih =>
    intro h
    have ih := ih (fun p hp => h p (by omega))
    obtain ⟨d, hd, ed⟩ := h n (by omega)
    by_cases z : nLo N n = nI l
    · rw [show nEl N l (n + 1) = nEl N l n from if_pos z, ih]
      constructor
      · intro ⟨p, hp, q⟩
        exact ⟨p, by omega, q⟩
      · intro ⟨p, hp, q1, q2⟩
        have : p ≠ n := fun w => q2 (by rw [w]; exact z)
        exact ⟨p, by omega, q1, q2⟩
    · rw [show nEl N l (n + 1) = nEl N l n ||| m_shl 1 (nv N 29 n 0) from if_neg z, zb_or, ed, zb_shl d (by omega) u hu, Bool.or_eq_true, ih, decide_eq_true_iff]
      constructor
      · intro q
        rcases q with ⟨p, hp, q⟩ | q
        · exact ⟨p, by omega, q⟩
        · exact ⟨n, by omega, by rw [ed, q], z⟩
      · intro ⟨p, hp, q1, q2⟩
        by_cases w : p = n
        · rw [w, ed] at q1
          exact Or.inr ((nI_eq (by omega) (by omega)).mp q1).symm
        · exact Or.inl ⟨p, by omega, q1, q2⟩
theorem nAl_i {N : mN} {l dr : Nat} : ∀ n, (nAl N l dr n = 1 ∧ ∀ p, p < n → nv N 29 p 0 = nI dr → nLo N p = nI l) ∨ (nAl N l dr n = 0 ∧ ∃ p, p < n ∧ nv N 29 p 0 = nI dr ∧ ¬ nLo N p = nI l) := by
  intro n
  induction n with
  | zero => exact Or.inl ⟨rfl, fun p hp => absurd hp (by omega)⟩
  | succ n ih =>
    by_cases z : nv N 29 n 0 = nI dr
    · by_cases w : nLo N n = nI l
      · have e : nAl N l dr (n + 1) = nAl N l dr n &&& 1 := by
          show (if nv N 29 n 0 = nI dr then nAl N l dr n &&& (if nLo N n = nI l then 1 else 0) else nAl N l dr n) = _
          rw [if_pos z, if_pos w]
        rw [e]
        rcases ih with ⟨i1, i2⟩ | ⟨i1, p, i2, i3⟩
        · rw [i1]
          refine Or.inl ⟨by decide, fun p hp q => ?_⟩
          by_cases r : p = n
          · rw [r]; exact w
          · exact i2 p (by omega) q
        · rw [i1]
          exact Or.inr ⟨by decide, p, by omega, i3⟩
      · have e : nAl N l dr (n + 1) = nAl N l dr n &&& 0 := by
          show (if nv N 29 n 0 = nI dr then nAl N l dr n &&& (if nLo N n = nI l then 1 else 0) else nAl N l dr n) = _
          rw [if_pos z, if_neg w]
        rw [e]
        exact Or.inr ⟨Int32.and_zero, n, by omega, z, w⟩
    · have e : nAl N l dr (n + 1) = nAl N l dr n := if_neg z
      rw [e]
      rcases ih with ⟨i1, i2⟩ | ⟨i1, p, i2, i3⟩
      · refine Or.inl ⟨i1, fun p hp q => ?_⟩
        by_cases r : p = n
        · rw [r] at q; exact absurd q z
        · exact i2 p (by omega) q
      · exact Or.inr ⟨i1, p, by omega, i3⟩
theorem nCn_i {p : Nat → Bool} : ∀ n, ∃ c, c ≤ n ∧ nCn p n = nI c ∧ (c = 0 ↔ ∀ j, j < n → ¬ p j = true) := by
  intro n
  induction n with
  | zero => exact ⟨0, by omega, rfl, fun _ j hj => absurd hj (by omega), fun _ => rfl⟩
  | succ n ih =>
    obtain ⟨c, hc, e, q⟩ := ih
    by_cases z : p n = true
    · exact ⟨c + 1, by omega, by rw [nCn_t z, e, nI_1], fun w => absurd w (by omega), fun w => absurd z (w n (by omega))⟩
    · refine ⟨c, by omega, by rw [nCn_f z, e], fun w j hj => ?_, fun w => q.mpr (fun j hj => w j (by omega))⟩
      by_cases r : j = n
      · rw [r]; exact z
      · exact q.mp w j (by omega)
theorem nWr_c {N : mN} {l d n : Nat} (hn : n < 1000) : (¬ nAl N l d n = 0 ∧ ¬ nCn (pDr N d) n ≤ 0) ↔ ((∃ p, p < n ∧ nv N 29 p 0 = nI d ∧ nLo N p = nI l) ∧ ¬ ∃ p, p < n ∧ nv N 29 p 0 = nI d ∧ ¬ nLo N p = nI l) := by
  obtain ⟨c, hc, ec, hz⟩ := nCn_i (p := pDr N d) n
  have hc0 : ¬ nCn (pDr N d) n ≤ 0 ↔ ∃ p, p < n ∧ nv N 29 p 0 = nI d := by
    rw [ec]
    constructor
    · intro w
      refine Classical.byContradiction (fun q => w ?_)
      have : c = 0 := hz.mpr (fun j hj r => q ⟨j, hj, of_decide_eq_true r⟩)
      rw [this]
      decide
    · intro ⟨p, hp, e⟩ w
      have hne : c ≠ 0 := fun r => hz.mp r p hp (decide_eq_true e)
      exact absurd w (nI_ge (a := 0) (b := c) (by omega) (by omega))
  rw [hc0]
  rcases nAl_i (N := N) (l := l) (dr := d) n with ⟨i1, i2⟩ | ⟨i1, p, i2, i3⟩
  · rw [i1]
    constructor
    · intro ⟨_, p, hp, e⟩
      exact ⟨⟨p, hp, e, i2 p hp e⟩, fun ⟨p', hp', e', w⟩ => w (i2 p' hp' e')⟩
    · intro ⟨⟨p, hp, e, _⟩, _⟩
      exact ⟨by decide, p, hp, e⟩
  · rw [i1]
    constructor
    · intro ⟨w, _⟩
      exact absurd rfl w
    · intro ⟨_, w⟩
      exact absurd ⟨p, i2, i3⟩ w
theorem nWr_zb {N : mN} {l u n : Nat} (hn : n < 1000) (hu : u < 32) : ∀ d, d ≤ 8 → (zb (nWr N l n d) u = true ↔ u < d ∧ (∃ p, p < n ∧ nv N 29 p 0 = nI u ∧ nLo N p = nI l) ∧ ¬ ∃ p, p < n ∧ nv N 29 p 0 = nI u ∧ ¬ nLo N p = nI l) := by
  intro d
  induction d with
  | zero => intro _; exact ⟨fun w => absurd w (by rw [show nWr N l n 0 = 0 from rfl, zb_0]; decide), fun w => absurd w.1 (by omega)⟩
  | succ d ih =>
    intro hd
    have ih := ih (by omega)
    have c := nWr_c (N := N) (l := l) (d := d) (n := n) hn
    by_cases z : ¬ nAl N l d n = 0 ∧ ¬ nCn (pDr N d) n ≤ 0
    · rw [show nWr N l n (d + 1) = nWr N l n d ||| m_shl 1 (nI d) from by show nWr N l n d ||| (if ¬ nAl N l d n = 0 ∧ ¬ nCn (pDr N d) n ≤ 0 then m_shl 1 (nI d) else 0) = _; rw [if_pos z], zb_or, zb_shl d (by omega) u hu, Bool.or_eq_true, ih, decide_eq_true_iff]
      constructor
      · intro q
        rcases q with q | q
        · exact ⟨by omega, q.2⟩
        · rw [q]
          exact ⟨by omega, c.mp z⟩
      · intro q
        by_cases w : u = d
        · exact Or.inr w
        · exact Or.inl ⟨by omega, q.2⟩
    · rw [show nWr N l n (d + 1) = nWr N l n d ||| 0 from by show nWr N l n d ||| (if ¬ nAl N l d n = 0 ∧ ¬ nCn (pDr N d) n ≤ 0 then m_shl 1 (nI d) else 0) = _; rw [if_neg z], Int32.or_zero, ih]
      constructor
      · intro q
        exact ⟨by omega, q.2⟩
      · intro q
        have : u ≠ d := fun w => z (c.mpr (by rw [← w]; exact q.2))
        exact ⟨by omega, q.2⟩
theorem nWr_eq {N : mN} {l n : Nat} (hn : n < 1000) (h : ∀ p, p < n → ∃ d, d < 8 ∧ nv N 29 p 0 = nI d) : nWr N l n 8 = nHe N l n &&& (nEl N l n ^^^ (-1)) := by
  refine zb_ext (fun u hu => ?_)
  have a := nWr_zb (N := N) (l := l) hn hu 8 (by omega)
  have b := nHe_zb (N := N) (l := l) hu n h
  have c := nEl_zb (N := N) (l := l) hu n h
  rw [zb_and, zb_xor, zb_m1 u hu]
  refine Bool.eq_iff_iff.mpr ?_
  rw [a, Bool.and_eq_true, b]
  constructor
  · intro ⟨_, q1, q2⟩
    refine ⟨q1, ?_⟩
    cases w : zb (nEl N l n) u with
    | false => rfl
    | true => exact absurd (c.mp w) q2
  · intro ⟨q1, q2⟩
    refine ⟨?_, q1, fun q => ?_⟩
    · obtain ⟨p, hp, e, _⟩ := q1
      obtain ⟨d, hd, ed⟩ := h p hp
      have := (nI_eq (a := d) (b := u) (by omega) (by omega)).mp (ed.symm.trans e)
      omega
    · rw [c.mpr q] at q2
      cases q2
section SIM31w
variable {g : Nat → Nat} {Y : mY} {S : mS} {M : mM} {N : mN} {Y0 : mY} {S0 : mS}
end SIM31w
