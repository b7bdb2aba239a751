/-! THE SIMULATION, 33: sleepers, gates, dues asked, of both sides -/
/-- a place in a queue -/
def vPl (N : mN) (s : Nat) : Int32 := if nv N 28 s 4 = -1 then -1 else nI ((nq N (tN (nv N 28 s 4))).idxOf s)
def pHi (N : mN) (s k : Nat) : Bool := decide (hS (nh N) k = s)
def vSlp (N : mN) (s : Nat) (b : Int32) : Int32 := if b = 0 then nv N 28 s 0 else if b = 1 then nv N 28 s 2 else if b = 2 then nv N 28 s 3 else if b = 3 then nv N 28 s 4 else if b = 4 then vPl N s else if b = 5 then nHd N s (nn N 29) else if b = 6 then nv N 28 s 8 else if b = 7 then vRg N s else nCn (pHi N s) ((nh N).length / 3)
def fOfSleeper (N : mN) (a b : Int32) : mT :=
  if ¬ (¬ a < 0 ∧ a < nI (nn N 28)) then (1, 0, N)
  else if ¬ (¬ b < 0 ∧ ¬ 8 < b) then (2, 0, N)
  else (0, vSlp N (tN a) b, N)
/-- hidden worth in a queue -/
def pHw (N : mN) (t p : Nat) : Bool := decide (nv N 29 p 4 < 100) && (decide (tN (nv N 29 p 4) ∈ nq N t) && !zb (nv N 28 (tN (nv N 29 p 4)) 5) p)
def nHw (N : mN) (t : Nat) : Nat → Int32
  | 0 => 0
  | j + 1 => if pHw N t j = true then nHw N t j + nv N 29 j 1 else nHw N t j
theorem pHw_i {N : mN} {t p : Nat} : pHw N t p = true ↔ nv N 29 p 4 < 100 ∧ tN (nv N 29 p 4) ∈ nq N t ∧ zb (nv N 28 (tN (nv N 29 p 4)) 5) p = false := by
  unfold pHw
  rw [Bool.and_eq_true, Bool.and_eq_true, decide_eq_true_iff, decide_eq_true_iff, Bool.not_eq_true']
def vOp (N : mN) (t : Nat) : Int32 := if nv N 23 t 3 ≤ m_rem ((nv N 20 0 2 - nv N 23 t 2) + 24) 24 then 0 else 1
def vFi (N : mN) (t : Nat) : Int32 := match (nq N t)[0]? with
  | none => -1
  | some s => nI s
def vGt (N : mN) (t : Nat) (b : Int32) : Int32 := if b = 0 then nv N 23 t 0 else if b = 1 then nv N 23 t 1 else if b = 2 then vOp N t else if b = 3 then nv N 23 t 4 else if b = 4 then nv N 23 t 5 else if b = 5 then (if nv N 23 t 5 < 5 then 0 else 1) else if b = 6 then nI (nq N t).length else if b = 7 then vFi N t else if b = 8 then nHw N t (nn N 29) else nCn (fun v => nr N t v) 97
def fOfGate (N : mN) (a b : Int32) : mT :=
  if ¬ (¬ a < 0 ∧ a < nI (nn N 23)) then (1, 0, N)
  else if ¬ (¬ b < 0 ∧ ¬ 9 < b) then (2, 0, N)
  else (0, vGt N (tN a) b, N)
def vWp (N : mN) (t : Nat) : Int32 := match (nq N t)[0]? with
  | none => 0
  | some s => if nGood N s t = true then nDuty N (nTo N s t) (nCi N s (nTo N s t) (nn N 29)).2 else 0
def fWouldPay (N : mN) (a : Int32) : mT :=
  if ¬ (¬ a < 0 ∧ a < nI (nn N 23)) then (1, 0, N)
  else (0, vWp N (tN a), N)
theorem b_no9 {b : Int32} (q0 : ¬ b = 0) (q1 : ¬ b = 1) (q2 : ¬ b = 2) (q3 : ¬ b = 3) (q4 : ¬ b = 4) (q5 : ¬ b = 5) (q6 : ¬ b = 6) (q7 : ¬ b = 7) (q8 : ¬ b = 8) (q9 : ¬ b = 9) : ¬ (¬ b < 0 ∧ ¬ 9 < b) := by
  intro w
  obtain ⟨j, hj, e⟩ := b_rg (n := 9) (by omega) (show ¬ b < 0 ∧ ¬ nI 9 < b from w)
  by_cases z : j = 9
  · rw [z] at e
    exact q9 e
  · exact b_no8 q0 q1 q2 q3 q4 q5 q6 q7 q8 (by rw [e]; exact ⟨nI_pos (by omega), nI_nlt (a := 8) (b := j) (by omega) (by omega)⟩)
section SIM33
variable {g : Nat → Nat} {Y : mY} {S : mS} {M : mM} {N : mN}
theorem C_os3 (R : RC 99 N Y S) (H : mR g Y S M) (W : mWs Y S) {s : Nat} (hs : s < yn Y 4) {κ : Int32 → mM → Prop} (h : κ (nv N 28 s 4) M) : m_gR M (some (yA Y 4 s)) 11 5 fun x => ((x = none → κ (-1) M) ∧ (¬ (x = none) → m_gR M (some (yA Y 4 s)) 11 5 fun x14 => m_gI M x14 5 0 fun x15 => κ x15 M)) := by
  have hb := W.2.1
  rw [R.2.2.2.2.1 s hs (by omega)] at h
  refine s_gR3 H hs rfl rfl rfl ?_
  cases hx : sX S 4 s 5 with
  | none =>
    rw [hx] at h
    exact br_t rfl h
  | some t =>
    have ht := H.lX (k := 4) (f := 5) (kt := 3) hs rfl t hx
    rw [hx] at h
    refine br_f (fun z => by cases z) (s_gR3 H hs rfl rfl rfl ?_)
    rw [hx]
    refine s_gI H ht rfl rfl rfl ?_
    rw [W.2.2.2.1.2.1 t ht]
    exact h
theorem C_os6 (R : RC 99 N Y S) (H : mR g Y S M) (W : mWs Y S) {s : Nat} (hs : s < yn Y 4) {κ : Int32 → mM → Prop} (h : κ (nv N 28 s 8) M) : m_gR M (some (yA Y 4 s)) 11 7 fun x => ((x = none → κ (-1) M) ∧ (¬ (x = none) → m_gR M (some (yA Y 4 s)) 11 7 fun x14 => m_gI M x14 9 2 fun x15 => κ x15 M)) := by
  obtain ⟨r1, r2⟩ := R.2.2.2.2.2.2.1 s hs
  refine s_gR3 H hs rfl rfl rfl ?_
  cases hx : sX S 4 s 7 with
  | none =>
    rw [r1 hx] at h
    exact br_t rfl h
  | some p =>
    have hp := H.lX (k := 4) (f := 7) (kt := 16) hs rfl p hx
    rw [(r2 p hx).2.2.1] at h
    refine br_f (fun z => by cases z) (s_gR3 H hs rfl rfl rfl ?_)
    rw [hx]
    exact s_gI H hp rfl rfl rfl h
theorem C_os4 (R : RC 99 N Y S) (H : mR g Y S M) (W : mWs Y S) (Q : mWq Y S) {s : Nat} (hs : s < yn Y 4) {κ : Int32 → mM → Prop} (h : κ (vPl N s) M) : wX8_placeOf κ (some (yA Y 4 s)) M := by
  have hb := W.2.1
  have e5 := R.2.2.2.2.1 s hs (by omega)
  unfold vPl at h
  refine c_placeOf H W hs (fun t j hx ht hj => ?_) (fun hn => ?_)
  · rw [e5, hx, if_neg (fun w => absurd (nI_pos (n := t) (by omega)) (fun q => q (by rw [show nI t = -1 from w]; decide))), show tN (oTo (some t)) = t from tN_nI (by omega), ← (R.2.2.1 t ht).2.2, idx_nd _ _ _ (Q.1 t ht).1 hj] at h
    exact h
  · cases hx : sX S 4 s 5 with
    | none =>
      rw [e5, hx, if_pos (show oTo none = -1 from rfl)] at h
      exact h
    | some t => exact absurd (Q.2 s t hs hx).2 (hn t hx)
theorem C_hidingsOf_l (R : RC 99 N Y S) (H : mR g Y S M) (W : mWs Y S) {s : Nat} (hs : s < yn Y 4) {κ : Int32 → mM → Prop} (h : κ (nCn (pHi N s) (yn Y 6)) M) : ∀ (d j : Nat), j + d = yn Y 6 → wX8_hidingsOf_4 κ (d + 1) (some (yA Y 0 0)) (some (yA Y 4 s)) (nCn (pHi N s) j) (nI j) M := by
  intro d
  induction d with
  | zero =>
    intro j hj
    rw [wX8_hidingsOf_4]
    exact c_hdH H W (by omega) (fun e => by rw [e]; exact h) (fun hlt => absurd hlt (by omega))
  | succ d ih =>
    intro j hj
    have ih' : ∀ a : Int32, a = nCn (pHi N s) (j + 1) → wX8_hidingsOf_4 κ (d + 1) (some (yA Y 0 0)) (some (yA Y 4 s)) a (nI j + 1) M := fun a e => by rw [nI_1, e]; exact ih (j + 1) (by omega)
    rw [wX8_hidingsOf_4]
    refine c_hdH H W (by omega) (fun z => absurd z (by omega)) (fun hlt => ?_)
    have hN := H.lN (k := 6) (f := 0) (kt := 4) hlt rfl
    have eS : hS (nh N) j = sN S 6 j 0 := by unfold hS; rw [(R.2.2.2.2.2.2.2.2.2.2 j hlt).1]; rfl
    refine s_gR2 H hlt rfl rfl rfl (br_c (fun z => ih' _ ?_) (fun z => ih' _ ?_))
    · exact (nCn_t (decide_eq_true (eS.trans ((H.sinj hs hN).mp z)))).symm
    · exact (nCn_f (fun w => z ((H.sinj hs hN).mpr (eS.symm.trans (of_decide_eq_true w))))).symm
theorem C_hidingsOf (R : RC 99 N Y S) (H : mR g Y S M) (W : mWs Y S) {s : Nat} (hs : s < yn Y 4) {κ : Int32 → mM → Prop} (h : κ (nCn (pHi N s) ((nh N).length / 3)) M) : wX8_hidingsOf κ (some (yA Y 0 0)) (some (yA Y 4 s)) M := by
  have e := R.2.2.2.2.2.2.2.2.2.1
  rw [show (nh N).length / 3 = yn Y 6 by omega] at h
  exact ⟨yn Y 6 + 1, C_hidingsOf_l R H W hs h (yn Y 6) 0 (by omega)⟩
theorem C_ofSleeper (H : mR g Y S M) (W : mWs Y S) (Q : mWq Y S) (R : RC 99 N Y S) {a b : Int32} {κ : Int32 → mM → Prop} {ξ : String → mM → Prop} (h1 : (fOfSleeper N a b).1 = 1 → ξ "java/lang/IndexOutOfBoundsException" M) (h2 : (fOfSleeper N a b).1 = 2 → ξ "java/lang/IllegalArgumentException" M)
    (h : ∀ v N' Y' S' M', fOfSleeper N a b = (0, v, N') → cX g N' Y S Y' S' M' → κ v M') : wX8_ofSleeper κ ξ (some (yA Y 0 0)) a b M := by
  have hb := W.2.1
  unfold fOfSleeper at h1 h2 h
  rw [← R.1.2.1] at h1 h2 h
  refine s_rc H W.x0 rfl rfl (c_sleeperN H W (fun s hs ep => ?_) (fun z => h1 (by rw [if_pos z])))
  have ha : ¬ a < 0 ∧ a < nI (yn Y 4) := by rw [ep]; exact m_in hs (by omega)
  rw [if_neg (fun w => w ha)] at h2 h
  have tp : tN a = s := by rw [ep, tN_nI (by omega)]
  have ok : ∀ v, v = vSlp N s b → (¬ b < 0 ∧ ¬ 8 < b) → κ v M := fun v ev hbk => h v N Y S M (by rw [if_neg (fun w => w hbk), tp, ev]) (cX.rf H W Q R)
  have e0 : sI S 2 (sN S 4 s 2) 0 = nv N 28 s 0 := by rw [W.2.2.2.1.1 _ (W.l2' (H.lN (k := 4) (f := 2) (kt := 2) hs rfl)), R.2.2.2.1 s hs]
  exact br_c (fun q0 => s_gR2 H hs rfl rfl rfl (s_gI H (H.lN (k := 4) (f := 2) (kt := 2) hs rfl) rfl rfl rfl (ok _ ((e0).trans (by unfold vSlp; rw [if_pos q0])) (by rw [q0]; decide)))) (fun q0 => br_c (fun q1 => s_gI H hs rfl rfl rfl (ok _ ((R.2.1 4 s 3 28 2 rfl hs (by omega)).trans (by unfold vSlp; rw [if_neg q0, if_pos q1])) (by rw [q1]; decide))) (fun q1 => br_c (fun q2 => s_gI H hs rfl rfl rfl (ok _ ((R.2.1 4 s 4 28 3 rfl hs (by omega)).trans (by unfold vSlp; rw [if_neg q0, if_neg q1, if_pos q2])) (by rw [q2]; decide))) (fun q2 => br_c (fun q3 => C_os3 R H W hs (ok _ (by unfold vSlp; rw [if_neg q0, if_neg q1, if_neg q2, if_pos q3]) (by rw [q3]; decide))) (fun q3 => br_c (fun q4 => C_os4 R H W Q hs (ok _ (by unfold vSlp; rw [if_neg q0, if_neg q1, if_neg q2, if_neg q3, if_pos q4]) (by rw [q4]; decide))) (fun q4 => br_c (fun q5 => s_rc H W.x0 rfl rfl (C_head R H W hs (ok _ (by unfold vSlp; rw [if_neg q0, if_neg q1, if_neg q2, if_neg q3, if_neg q4, if_pos q5]) (by rw [q5]; decide)))) (fun q5 => br_c (fun q6 => C_os6 R H W hs (ok _ (by unfold vSlp; rw [if_neg q0, if_neg q1, if_neg q2, if_neg q3, if_neg q4, if_neg q5, if_pos q6]) (by rw [q6]; decide))) (fun q6 => br_c (fun q7 => s_rc H W.x0 rfl rfl (C_ring R H W hs (ok _ (by unfold vSlp; rw [if_neg q0, if_neg q1, if_neg q2, if_neg q3, if_neg q4, if_neg q5, if_neg q6, if_pos q7]) (by rw [q7]; decide)))) (fun q7 => br_c (fun q8 => s_rc H W.x0 rfl rfl (C_hidingsOf R H W hs (ok _ (by unfold vSlp; rw [if_neg q0, if_neg q1, if_neg q2, if_neg q3, if_neg q4, if_neg q5, if_neg q6, if_neg q7]) (by rw [q8]; decide)))) (fun q8 => h2 (by rw [if_pos (b_no8 q0 q1 q2 q3 q4 q5 q6 q7 q8)]))))))))))
theorem C_hw_l (R : RC 99 N Y S) (H : mR g Y S M) (W : mWs Y S) (Q : mWq Y S) {t : Nat} (ht : t < yn Y 3) {κ : Int32 → mM → Prop} (h : κ (nHw N t (yn Y 5)) M) : ∀ (d j : Nat), j + d = yn Y 5 → wX8_hiddenWorth_4 κ (d + 1) (some (yA Y 0 0)) (some (yA Y 3 t)) (nHw N t j) (nI j) M := by
  have hb := W.2.1
  intro d
  induction d with
  | zero =>
    intro j hj
    rw [wX8_hiddenWorth_4]
    exact c_hdP H W (by omega) (fun e => by rw [e]; exact h) (fun hlt => absurd hlt (by omega))
  | succ d ih =>
    intro j hj
    have ih' : ∀ a : Int32, a = nHw N t (j + 1) → wX8_hiddenWorth_4 κ (d + 1) (some (yA Y 0 0)) (some (yA Y 3 t)) a (nI j + 1) M := fun a e => by rw [nI_1, e]; exact ih (j + 1) (by omega)
    have no : ¬ pHw N t j = true → nHw N t j = nHw N t (j + 1) := fun w => (if_neg w).symm
    rw [wX8_hiddenWorth_4]
    refine c_hdP H W (by omega) (fun z => absurd z (by omega)) (fun hlt => ?_)
    refine s_gR3 H hlt rfl rfl rfl ?_
    cases hx : sX S 5 j 5 with
    | none => exact br_t rfl (ih' _ (no (fun w => R.at0 H W hlt hx (pHw_i.mp w).1)))
    | some s =>
      have hs := H.lX (k := 5) (f := 5) (kt := 4) hlt rfl s hx
      have ea := (R.at1 hlt hx).2
      have hX := H.lX (k := 4) (f := 5) (kt := 3) hs rfl
      refine br_f (fun z => by cases z) (s_gR3 H hlt rfl rfl rfl ?_)
      rw [hx]
      refine s_gR3 H hs rfl rfl rfl (br_c (fun z => ?_) (fun z => ih' _ (no (fun w => z ((H.minj ht hX).mpr ?_)))))
      · have e5 := (H.minj ht hX).mp z
        have hm : s ∈ nq N t := by rw [← (R.2.2.1 t ht).2.2]; exact (Q.2 s t hs e5).2
        have e6 : sI S 4 s 6 = nv N 28 s 5 := (R.2.2.2.2.2.1 s hs).1 (Or.inr (by rw [e5]; exact Option.some_ne_none t))
        refine s_rc H hlt rfl rfl (c_isHidden H W hlt (fun s' hs' hc => br_f (by decide) (s_gI H hlt rfl rfl rfl (ih' _ ?_))) (fun hc => br_t rfl (ih' _ (no (fun w => ?_)))))
        · rw [hx] at hs'
          cases hs'
          rw [zb_cIn (by omega), e6] at hc
          have hp : pHw N t j = true := pHw_i.mpr (by
            rw [ea, tN_nI (by omega)]
            refine ⟨nI_lt (a := s) (b := 100) (by omega) (by omega), hm, ?_⟩
            cases q : zb (nv N 28 s 5) j with
            | false => rfl
            | true => exact absurd q hc)
          rw [R.2.1 5 j 2 29 1 rfl hlt (by omega)]
          exact (if_pos hp).symm
        · have c := hc s hx
          rw [zb_cIn (by omega), e6] at c
          have q := (pHw_i.mp w).2.2
          rw [ea, tN_nI (by omega), c] at q
          cases q
      · have q := (pHw_i.mp w).2.1
        rw [ea, tN_nI (by omega), ← (R.2.2.1 t ht).2.2] at q
        exact (Q.1 t ht).2 s q
theorem C_hw (R : RC 99 N Y S) (H : mR g Y S M) (W : mWs Y S) (Q : mWq Y S) {t : Nat} (ht : t < yn Y 3) {κ : Int32 → mM → Prop} (h : κ (nHw N t (nn N 29)) M) : wX8_hiddenWorth κ (some (yA Y 0 0)) (some (yA Y 3 t)) M := by
  rw [← R.1.2.2] at h
  exact ⟨yn Y 5 + 1, C_hw_l R H W Q ht h (yn Y 5) 0 (by omega)⟩
theorem C_og7 (R : RC 99 N Y S) (H : mR g Y S M) (W : mWs Y S) {t : Nat} (ht : t < yn Y 3) {κ : Int32 → mM → Prop} (h : κ (vFi N t) M) : m_gR M (some (yA Y 3 t)) 5 5 fun x31 => m_rc M x31 4 fun b34 => wJx4a65c_isEmpty_aae02 (fun x32 M33 => ((x32 = 0 → m_gR M33 (some (yA Y 3 t)) 5 5 fun x36 => m_rc M33 x36 4 fun b39 => wJx4a65c_get_915e3 (fun x37 M38 => m_cast M38 x37 11 (m_gI M38 x37 11 0 fun x40 => κ x40 M38)) (some b39) 0 M33) ∧ (¬ (x32 = 0) → κ (-1) M33))) (some b34) M := by
  have eL := (R.2.2.1 t ht).2.2
  unfold vFi at h
  rw [← eL] at h
  refine s_gR7 H ht rfl rfl rfl (s_rcL H rfl (W.l13 ht) (s_isEmpty H rfl (W.l13 ht) (fun z => br_f (by decide) ?_) (fun z => br_t rfl (s_gR7 H ht rfl rfl rfl (s_rcL H rfl (W.l13 ht) (c_first H W ht z (fun s hs hx => s_cast H hs rfl rfl (s_gI H hs rfl rfl rfl ?_))))))))
  · rw [z] at h
    exact h
  · rw [hx] at h
    rw [W.2.2.2.1.2.2.1 s hs]
    exact h
theorem C_wouldPay (H : mR g Y S M) (W : mWs Y S) (Q : mWq Y S) (R : RC 99 N Y S) (B : nB N) (I : NI N) {a : Int32} {κ : Int32 → mM → Prop} {ξ : String → mM → Prop} (h1 : (fWouldPay N a).1 = 1 → ξ "java/lang/IndexOutOfBoundsException" M)
    (h : ∀ v N' Y' S' M', fWouldPay N a = (0, v, N') → cX g N' Y S Y' S' M' → κ v M') : wX8_wouldPay κ ξ (some (yA Y 0 0)) a M := by
  have hb := W.2.1
  unfold fWouldPay at h1 h
  rw [← R.1.1] at h1 h
  refine s_rc H W.x0 rfl rfl (c_gateN H W (fun t ht ep => ?_) (fun z => h1 (by rw [if_pos z])))
  have ha : ¬ a < 0 ∧ a < nI (yn Y 3) := by rw [ep]; exact m_in ht (by omega)
  rw [if_neg (fun w => w ha), ep, tN_nI (by omega)] at h
  have ok : ∀ v, v = vWp N t → κ v M := fun v ev => h v N Y S M (by rw [ev]) (cX.rf H W Q R)
  have eL := (R.2.2.1 t ht).2.2
  unfold vWp at ok
  rw [← eL] at ok
  have b1 := W.l2' (H.lN (k := 3) (f := 1) (kt := 2) ht rfl)
  have b2 := W.l2' (H.lN (k := 3) (f := 2) (kt := 2) ht rfl)
  refine s_gR7 H ht rfl rfl rfl (s_rcL H rfl (W.l13 ht) (s_isEmpty H rfl (W.l13 ht) (fun z => br_f (by decide) (ok _ (by rw [z]; rfl))) (fun z => br_t rfl ?_)))
  refine s_gR7 H ht rfl rfl rfl (s_rcL H rfl (W.l13 ht) (c_first H W ht z (fun s hs hx => s_cast H hs rfl rfl (s_rc H W.x0 rfl rfl ?_))))
  rw [hx] at ok
  have hsn : s < nn N 28 := by rw [← R.1.2.1]; exact hs
  refine C_good R H W hs ht (B.2.2.2.1 s hsn).2.2 (fun zg => br_f (by decide) ?_) (fun zg => br_t rfl (ok _ (if_neg zg).symm))
  have hsl := H.lN (k := 4) (f := 2) (kt := 2) hs rfl
  have b0 := W.l2' hsl
  refine s_gR2 H hs rfl rfl rfl (s_rc H ht rfl rfl (c_across H ht hsl ?_))
  have hl := c_acr_l H ht (l := sN S 4 s 2)
  have eTo : nTo N s t = cAcr S t (sN S 4 s 2) := by
    unfold nTo cAcr
    rw [(R.2.2.1 t ht).1, (R.2.2.1 t ht).2.1, R.2.2.2.1 s hs]
    by_cases z : sN S 4 s 2 = sN S 3 t 1
    · rw [if_pos z, if_pos (by rw [z]), tN_nI (by omega)]
    · rw [if_neg z, if_neg (fun w => z ((nI_eq (by omega) (by omega)).mp w).symm), tN_nI (by omega)]
  have hm : s ∈ nq N t := by rw [← eL]; exact List.mem_of_getElem? hx
  have h3 := ((B.2.2.2.2.2.1 t (by rw [← R.1.1]; exact ht)).2 s hm).2.1
  have e5 : sX S 4 s 5 = some t := (Q.1 t ht).2 s (by rw [eL]; exact hm)
  have e6 : sI S 4 s 6 = nv N 28 s 5 := (R.2.2.2.2.2.1 s hs).1 (Or.inr (by rw [e5]; exact Option.some_ne_none t))
  refine s_rc H W.x0 rfl rfl (C_comeIn H W R hs hl e6 (fun p hp hz => ((I.2.2.1 s hsn).2.2.2.2 h3).1 p (by omega) hz |>.2) (s_rc H W.x0 rfl rfl (C_worthOf H W R (s_rc H hl rfl rfl (c_dutyOn H hl (ok _ ?_))))))
  show _ = (if nGood N s t = true then nDuty N (nTo N s t) (nCi N s (nTo N s t) (nn N 29)).2 else 0)
  rw [if_pos zg, eTo, nWo_eq (by omega) _ (Nat.le_refl _), R.1.2.2, R.2.1 2 _ 2 22 1 rfl hl (by omega), R.2.1 2 _ 1 22 0 rfl hl (by omega)]
  rfl
end SIM33
section SIM33v
variable {g : Nat → Nat} {Y : mY} {S : mS} {M : mM} {N : mN} {Y0 : mY} {S0 : mS}
theorem D_os4 (R : RV N Y S) (H : mR g Y S M) (V : mVs Y S) (B : nB N) (I : NI N) {s : Nat} (hs : s < yn Y 28) {κ : Int32 → mM → Prop} (h : κ (vPl N s) M) : m_gI M (some (yA Y 28 s)) 18 4 fun x14 => ((x14 = (-1) → κ (-1) M) ∧ (¬ (x14 = (-1)) → m_gR M (some (yA Y 20 0)) 19 7 fun x16 => m_gI M (some (yA Y 28 s)) 18 4 fun x17 => m_rc M x16 4 fun b20 => wJx4a65c_get_915e3 (fun x18 M19 => m_cast M19 x18 15 (m_rc M19 x18 15 fun b23 => wX10_place (fun x21 M22 => κ x21 M22) (some b23) (nI s) M19)) (some b20) x17 M)) := by
  have hb := V.2.1
  have hsn : s < nn N 28 := by rw [← R.1.2.1]; exact hs
  unfold vPl at h
  refine s_gI H hs rfl rfl rfl ?_
  rw [R.2.1 28 s 4 rfl hs]
  refine br_c (fun z => ?_) (fun z => s_gR6 H V.x0 rfl rfl rfl (s_gI H hs rfl rfl rfl ?_))
  · rw [if_pos z] at h
    exact h
  rw [if_neg z] at h
  rw [R.2.1 28 s 4 rfl hs]
  have h3 : nv N 28 s 3 = 1 := Classical.byContradiction (fun w => z ((I.2.2.1 s hsn).2.2.2.1 w))
  obtain ⟨t, htn, et, hm⟩ := B.2.2.2.2.2.2.1 s hsn h3
  have ht : t < yn Y 23 := by rw [R.1.1]; exact htn
  rw [et, tN_nI (by omega), ← R.2.2.1 t ht] at h
  rw [et]
  rw [← R.2.2.1 t ht] at hm
  have hnd := (B.2.2.2.2.2.1 t htn).1
  rw [← R.2.2.1 t ht] at hnd
  refine s_rcL H rfl (V.l24 (by omega)) (v_gtG H V ht (s_cast H ht rfl rfl (s_rc H ht rfl rfl (v_place H V ht (by omega) (fun j hj => ?_) (fun hn => absurd hm hn)))))
  rw [idx_nd _ _ _ hnd hj] at h
  exact h
theorem D_os135 (R : RV N Y S) (H : mR g Y S M) (V : mVs Y S) {n : Nat} (hn : (sL S 24 3).length = 3 * n) (hn40 : n ≤ 40) {s : Nat} (hs : s < 1000) {κ : Int32 → mM → Prop} (h : κ (nCn (pHi N s) n) M) : ∀ (d j : Nat), j + d = n → wX14_ofSleeperNow_135 κ (d + 1) (some (yA Y 20 0)) (nI s) (nCn (pHi N s) j) (nI (3 * j)) M := by
  have eh := R.2.2.2.2
  intro d
  induction d with
  | zero =>
    intro j hj
    have ej : j = n := by omega
    rw [wX14_ofSleeperNow_135, ej]
    exact s_gR6 H V.x0 rfl rfl rfl (s_rcL H rfl (V.l24 (by omega)) (v_szH H V (br_t (by rw [hn]; exact nI_le (by omega) (by omega)) h)))
  | succ d ih =>
    intro j hj
    have ih' : ∀ a : Int32, a = nCn (pHi N s) (j + 1) → wX14_ofSleeperNow_135 κ (d + 1) (some (yA Y 20 0)) (nI s) a (nI (3 * j) + 3) M := fun a e => by
      rw [show (3 : Int32) = nI 3 from rfl, nI_add, show 3 * j + 3 = 3 * (j + 1) by omega, e]
      exact ih (j + 1) (by omega)
    rw [wX14_ofSleeperNow_135]
    refine s_gR6 H V.x0 rfl rfl rfl (s_rcL H rfl (V.l24 (by omega)) (v_szH H V (br_f (by rw [hn]; exact nI_ge (by omega) (by omega)) ?_)))
    refine v_H H V (by omega) (fun v hv hx => ?_)
    have eS : hS (nh N) j = v := by unfold hS; rw [← eh, hx]; rfl
    refine br_c (fun z => ih' _ (nCn_t (decide_eq_true (eS.trans ((nI_eq (by omega) (by omega)).mp z)))).symm) (fun z => ih' _ ((Int32.add_zero _).trans (nCn_f (fun w => z (congrArg nI (eS.symm.trans (of_decide_eq_true w))))).symm))
theorem D_ofSleeperNow (R : RV N Y S) (H : mR g Y S M) (V : mVs Y S) (B : nB N) (I : NI N) {s : Nat} (hs : s < yn Y 28) {b : Int32} {κ : Int32 → mM → Prop} (h : κ (vSlp N s b) M) : wX14_ofSleeperNow κ (some (yA Y 20 0)) (nI s) b M := by
  have hb := V.2.1
  obtain ⟨n, hn40, hn, -⟩ := V.2.2.1.2.2.2
  have en : (nh N).length / 3 = n := by rw [← R.2.2.2.2]; omega
  have ok : ∀ v, v = vSlp N s b → κ v M := fun v e => by rw [e]; exact h
  refine v_S H V hs ?_
  exact br_c (fun q0 => s_gI H hs rfl rfl rfl (ok _ ((R.2.1 28 s 0 rfl hs).trans (by unfold vSlp; rw [if_pos q0])))) (fun q0 => br_c (fun q1 => s_gI H hs rfl rfl rfl (ok _ ((R.2.1 28 s 2 rfl hs).trans (by unfold vSlp; rw [if_neg q0, if_pos q1])))) (fun q1 => br_c (fun q2 => s_gI H hs rfl rfl rfl (ok _ ((R.2.1 28 s 3 rfl hs).trans (by unfold vSlp; rw [if_neg q0, if_neg q1, if_pos q2])))) (fun q2 => br_c (fun q3 => s_gI H hs rfl rfl rfl (ok _ ((R.2.1 28 s 4 rfl hs).trans (by unfold vSlp; rw [if_neg q0, if_neg q1, if_neg q2, if_pos q3])))) (fun q3 => br_c (fun q4 => D_os4 R H V B I hs (ok _ (by unfold vSlp; rw [if_neg q0, if_neg q1, if_neg q2, if_neg q3, if_pos q4]))) (fun q4 => br_c (fun q5 => s_rc H V.x0 rfl rfl (D_head R H V (ok _ (by unfold vSlp; rw [if_neg q0, if_neg q1, if_neg q2, if_neg q3, if_neg q4, if_pos q5])))) (fun q5 => br_c (fun q6 => s_gI H hs rfl rfl rfl (ok _ ((R.2.1 28 s 8 rfl hs).trans (by unfold vSlp; rw [if_neg q0, if_neg q1, if_neg q2, if_neg q3, if_neg q4, if_neg q5, if_pos q6])))) (fun q6 => br_c (fun q7 => s_rc H V.x0 rfl rfl (D_ring R H V B I hs (ok _ (by unfold vSlp; rw [if_neg q0, if_neg q1, if_neg q2, if_neg q3, if_neg q4, if_neg q5, if_neg q6, if_pos q7])))) (fun q7 => ⟨n + 1, D_os135 R H V hn hn40 (by omega) (ok _ ((congrArg (nCn (pHi N s)) en.symm).trans (by unfold vSlp; rw [if_neg q0, if_neg q1, if_neg q2, if_neg q3, if_neg q4, if_neg q5, if_neg q6, if_neg q7]))) n 0 (by omega)⟩))))))))
theorem D_ofSleeper (P : vN g N Y0 S0 Y S M) (I : NI N) {a b : Int32} {κ : Int32 → mM → Prop} (h : ∀ k v N' Y' S' M', fOfSleeper N a b = (k, v, N') → vN g N' Y0 S0 Y' S' M' → sI S' 20 0 0 = k → κ v M') : wX14_ofSleeper κ (some (yA Y 20 0)) a b M := by
  unfold fOfSleeper at h
  refine n_th P (fun S1 M1 P1 e1 => ?_)
  have H := P1.1.1
  have V := P1.1.2.1
  have VV := P1.1.2.2.1
  have R := P1.2.2
  have hb := V.2.1
  rw [← R.1.2.1] at h
  refine s_rc H V.x0 rfl rfl (v_isSleeper H V (fun s hv e => br_f (by decide) (v_is (fun r1 r2 => br_f (by decide) ?_) (fun z => br_t rfl (n_rf P1 (fun S2 M2 P2 e2 => h 2 0 N Y S2 M2 (by rw [if_neg (fun w => w (by rw [e]; exact m_in hv (by omega))), if_pos z]) P2 e2))))) (fun z => br_t rfl (n_rf P1 (fun S2 M2 P2 e2 => h 1 0 N Y S2 M2 (by rw [if_pos z]) P2 e2))))
  have hk : ¬ a < 0 ∧ a < nI (yn Y 28) := by rw [e]; exact m_in hv (by omega)
  rw [if_neg (fun w => w hk), if_neg (fun w => w ⟨r1, r2⟩), e, tN_nI (by omega)] at h
  rw [e]
  exact s_rc H V.x0 rfl rfl (D_ofSleeperNow R H V (nB_of P1.1 R) I hv (h 0 _ N Y S1 M1 rfl P1 e1))
theorem D_hw_l (R : RV N Y S) (H : mR g Y S M) (V : mVs Y S) (VV : mVv Y S) {t : Nat} (ht : t < yn Y 23) {κ : Int32 → mM → Prop} (h : κ (nHw N t (yn Y 29)) M) : ∀ (d j : Nat), j + d = yn Y 29 → wX14_hiddenWorth_4 κ (d + 1) (some (yA Y 20 0)) (some (yA Y 23 t)) (nHw N t j) (nI j) M := by
  have hb := V.2.1
  have eL := R.2.2.1 t ht
  intro d
  induction d with
  | zero =>
    intro j hj
    rw [wX14_hiddenWorth_4]
    exact v_hdP H V (by omega) (fun e => by rw [e]; exact h) (fun hlt => absurd hlt (by omega))
  | succ d ih =>
    intro j hj
    have ih' : ∀ a : Int32, a = nHw N t (j + 1) → wX14_hiddenWorth_87 κ (wX14_hiddenWorth_4 κ (d + 1)) (some (yA Y 20 0)) (some (yA Y 23 t)) a (nI j) M := fun a e => by unfold wX14_hiddenWorth_87; rw [nI_1, e]; exact ih (j + 1) (by omega)
    have no : ¬ pHw N t j = true → nHw N t j = nHw N t (j + 1) := fun w => (if_neg w).symm
    rw [wX14_hiddenWorth_4]
    refine v_hdP H V (by omega) (fun z => absurd z (by omega)) (fun hlt => ?_)
    obtain ⟨at', ea, hat⟩ := VV.1 29 j 4 hlt
    have en : nv N 29 j 4 = nI at' := (R.2.1 29 j 4 rfl hlt).symm.trans ea
    refine s_gI H hlt rfl rfl rfl ?_
    rw [ea]
    refine br_c (fun z => ih' _ (no (fun w => ?_))) (fun z => ?_)
    · have q := (pHw_i.mp w).1
      rw [en] at q
      exact absurd q (Int32.not_lt.mpr z)
    have ha2 : at' < yn Y 28 := by
      rcases hat with hat | hat | hat
      · exact hat
      · exact absurd (show (100 : Int32) ≤ nI at' from nI_le (a := 100) (by omega) (by omega)) z
      · exact absurd (show (100 : Int32) ≤ nI at' from nI_le (a := 100) (by omega) (by omega)) z
    refine s_rc H ht rfl rfl (v_place H V ht (by omega) (fun i hi => br_f (fun q => ?_) ?_) (fun hn => br_t rfl (ih' _ (no (fun w => ?_)))))
    · have hil := (List.getElem?_eq_some_iff.mp hi).1
      have hl := H.len (k := 25) (i := t) rfl (V.l25 ht)
      have := nI_pos (n := i) (by omega)
      rw [q] at this
      exact this (by decide)
    · have hm : at' ∈ nq N t := by rw [← eL]; exact List.mem_of_getElem? hi
      refine v_S H V ha2 (s_gI H ha2 rfl rfl rfl ?_)
      rw [R.2.1 28 at' 5 rfl ha2]
      refine br_c (fun q => v_Pt H V hlt (s_gI H hlt rfl rfl rfl ?_)) (fun q => ih' _ (no (fun w => ?_)))
      · rw [zb_shr _ (by omega)] at q
        have hp : pHw N t j = true := pHw_i.mpr (by
          rw [en, tN_nI (by omega)]
          exact ⟨nI_lt (a := at') (b := 100) (by omega) (by omega), hm, q⟩)
        rw [R.2.1 29 j 1 rfl hlt]
        exact ih' _ (if_pos hp).symm
      · have r := (pHw_i.mp w).2.2
        rw [en, tN_nI (by omega)] at r
        exact q ((zb_shr _ (by omega)).mpr r)
    · have q := (pHw_i.mp w).2.1
      rw [en, tN_nI (by omega), ← eL] at q
      exact hn q
theorem D_hw (R : RV N Y S) (H : mR g Y S M) (V : mVs Y S) (VV : mVv Y S) {t : Nat} (ht : t < yn Y 23) {κ : Int32 → mM → Prop} (h : κ (nHw N t (nn N 29)) M) : wX14_hiddenWorth κ (some (yA Y 20 0)) (some (yA Y 23 t)) M := by
  rw [← R.1.2.2] at h
  exact ⟨yn Y 29 + 1, D_hw_l R H V VV ht h (yn Y 29) 0 (by omega)⟩
theorem D_og175 (R : RV N Y S) (H : mR g Y S M) (V : mVs Y S) {t : Nat} (ht : t < yn Y 23) {κ : Int32 → mM → Prop} (h : κ (nCn (fun v => nr N t v) 97) M) : ∀ (d j : Nat), j + d = 97 → wX14_ofGateNow_175 κ (d + 1) (nCn (fun v => nr N t v) j) (some (yA Y 26 t)) (nI 97) (nI j) M := by
  intro d
  induction d with
  | zero =>
    intro j hj
    have ej : j = 97 := by omega
    rw [wX14_ofGateNow_175, ej]
    exact br_t (nI_le (by omega) (by omega)) h
  | succ d ih =>
    intro j hj
    have hj97 : j < 97 := by omega
    have ih' : ∀ a : Int32, a = nCn (fun v => nr N t v) (j + 1) → wX14_ofGateNow_175 κ (d + 1) a (some (yA Y 26 t)) (nI 97) (nI j + 1) M := fun a e => by rw [nI_1, e]; exact ih (j + 1) (by omega)
    rw [wX14_ofGateNow_175]
    refine br_f (nI_ge hj97 (by omega)) (s_ldI H (V.l26 ht) rfl (by decide) rfl (by rw [V.2.2.2.2.2.2.1 t ht]; exact hj97) (by rw [V.2.2.2.2.2.2.1 t ht]; omega) ?_)
    rw [R.2.2.2.1 t j ht hj97]
    cases q : nr N t j with
    | false => exact br_t rfl (ih' _ ((Int32.add_zero _).trans (nCn_f (p := fun v => nr N t v) (by show ¬ nr N t j = true; rw [q]; decide)).symm))
    | true => exact br_f (by decide) (ih' _ (nCn_t (p := fun v => nr N t v) q).symm)
theorem D_open (R : RV N Y S) (H : mR g Y S M) (V : mVs Y S) {t : Nat} (ht : t < yn Y 23) {κ : Int32 → mM → Prop} (h1 : ¬ nv N 23 t 3 ≤ m_rem ((nv N 20 0 2 - nv N 23 t 2) + 24) 24 → κ 1 M) (h0 : nv N 23 t 3 ≤ m_rem ((nv N 20 0 2 - nv N 23 t 2) + 24) 24 → κ 0 M) : wX10_isOpen κ (some (yA Y 23 t)) (sI S 20 0 2) M := by
  refine s_gI H ht rfl rfl rfl (s_gI H ht rfl rfl rfl ?_)
  rw [R.2.1 23 t 2 rfl ht, R.2.1 23 t 3 rfl ht, R.2.1 20 0 2 rfl V.x0, show nv N 20 0 2 + 24 - nv N 23 t 2 = nv N 20 0 2 - nv N 23 t 2 + 24 from by rw [Int32.sub_eq_add_neg, Int32.sub_eq_add_neg, Int32.add_assoc, Int32.add_assoc, Int32.add_comm 24]]
  exact br_c h0 h1
theorem D_ofGateNow (R : RV N Y S) (H : mR g Y S M) (V : mVs Y S) (VV : mVv Y S) {t : Nat} (ht : t < yn Y 23) {b : Int32} {κ : Int32 → mM → Prop} (h : κ (vGt N t b) M) : wX14_ofGateNow κ (some (yA Y 20 0)) (nI t) b M := by
  have hb := V.2.1
  have eL := R.2.2.1 t ht
  have ok : ∀ v, v = vGt N t b → κ v M := fun v e => by rw [e]; exact h
  have e7n : sL S 25 t = [] → (-1 : Int32) = vFi N t := fun z => by unfold vFi; rw [← eL, z]; rfl
  have e7s : ∀ s, (sL S 25 t)[0]? = some s → nI s = vFi N t := fun s z => by unfold vFi; rw [← eL, z]
  refine v_G H V ht ?_
  refine br_c (fun q0 => s_gI H ht rfl rfl rfl (ok _ ((R.2.1 23 t 0 rfl ht).trans (by unfold vGt; rw [if_pos q0])))) (fun q0 => br_c (fun q1 => s_gI H ht rfl rfl rfl (ok _ ((R.2.1 23 t 1 rfl ht).trans (by unfold vGt; rw [if_neg q0, if_pos q1])))) (fun q1 => br_c (fun q2 => s_gI H V.x0 rfl rfl rfl (s_rc H ht rfl rfl (D_open R H V ht (fun zo => br_f (by decide) (ok _ ((show (1 : Int32) = vOp N t from (if_neg zo).symm).trans (by unfold vGt; rw [if_neg q0, if_neg q1, if_pos q2])))) (fun zo => br_t rfl (ok _ ((show (0 : Int32) = vOp N t from (if_pos zo).symm).trans (by unfold vGt; rw [if_neg q0, if_neg q1, if_pos q2]))))))) (fun q2 => br_c (fun q3 => s_gI H ht rfl rfl rfl (ok _ ((R.2.1 23 t 4 rfl ht).trans (by unfold vGt; rw [if_neg q0, if_neg q1, if_neg q2, if_pos q3])))) (fun q3 => br_c (fun q4 => s_gI H ht rfl rfl rfl (ok _ ((R.2.1 23 t 5 rfl ht).trans (by unfold vGt; rw [if_neg q0, if_neg q1, if_neg q2, if_neg q3, if_pos q4])))) (fun q4 => br_c (fun q5 => s_rc H ht rfl rfl (D_dozes R H ht (fun zd => br_f (by decide) (ok _ ((show (1 : Int32) = (if nv N 23 t 5 < 5 then 0 else 1) from (if_neg zd).symm).trans (by unfold vGt; rw [if_neg q0, if_neg q1, if_neg q2, if_neg q3, if_neg q4, if_pos q5])))) (fun zd => br_t rfl (ok _ ((show (0 : Int32) = (if nv N 23 t 5 < 5 then 0 else 1) from (if_pos zd).symm).trans (by unfold vGt; rw [if_neg q0, if_neg q1, if_neg q2, if_neg q3, if_neg q4, if_pos q5])))))) (fun q5 => br_c (fun q6 => s_gR7 H ht rfl rfl rfl (s_rcL H rfl (V.l25 ht) (s_size H rfl (V.l25 ht) (ok _ ((show nI (sL S 25 t).length = nI (nq N t).length from by rw [eL]).trans (by unfold vGt; rw [if_neg q0, if_neg q1, if_neg q2, if_neg q3, if_neg q4, if_neg q5, if_pos q6])))))) (fun q6 => br_c (fun q7 => s_gR7 H ht rfl rfl rfl (s_rcL H rfl (V.l25 ht) (s_isEmpty H rfl (V.l25 ht) (fun z => br_f (by decide) (ok _ ((e7n z).trans (by unfold vGt; rw [if_neg q0, if_neg q1, if_neg q2, if_neg q3, if_neg q4, if_neg q5, if_neg q6, if_pos q7])))) (fun z => br_t rfl (s_gR7 H ht rfl rfl rfl (s_rcL H rfl (V.l25 ht) (v_first H V ht z (fun s hs128 hx => v_int H V hs128 (ok _ ((e7s s hx).trans (by unfold vGt; rw [if_neg q0, if_neg q1, if_neg q2, if_neg q3, if_neg q4, if_neg q5, if_neg q6, if_pos q7]))))))))))) (fun q7 => br_c (fun q8 => s_rc H V.x0 rfl rfl (D_hw R H V VV ht (ok _ (by unfold vGt; rw [if_neg q0, if_neg q1, if_neg q2, if_neg q3, if_neg q4, if_neg q5, if_neg q6, if_neg q7, if_pos q8])))) (fun q8 => s_gR7 H ht rfl rfl rfl (s_lenI H (V.l26 ht) (by decide) rfl ?_))))))))))
  rw [V.2.2.2.2.2.2.1 t ht]
  exact ⟨98, D_og175 R H V ht (ok _ (by unfold vGt; rw [if_neg q0, if_neg q1, if_neg q2, if_neg q3, if_neg q4, if_neg q5, if_neg q6, if_neg q7, if_neg q8])) 97 0 (by omega)⟩
theorem D_ofGate (P : vN g N Y0 S0 Y S M) {a b : Int32} {κ : Int32 → mM → Prop} (h : ∀ k v N' Y' S' M', fOfGate N a b = (k, v, N') → vN g N' Y0 S0 Y' S' M' → sI S' 20 0 0 = k → κ v M') : wX14_ofGate κ (some (yA Y 20 0)) a b M := by
  unfold fOfGate at h
  refine n_th P (fun S1 M1 P1 e1 => ?_)
  have H := P1.1.1
  have V := P1.1.2.1
  have VV := P1.1.2.2.1
  have R := P1.2.2
  have hb := V.2.1
  rw [← R.1.1] at h
  refine s_rc H V.x0 rfl rfl (v_isGate H V (fun t hv e => br_f (by decide) (v_is (fun r1 r2 => br_f (by decide) ?_) (fun z => br_t rfl (n_rf P1 (fun S2 M2 P2 e2 => h 2 0 N Y S2 M2 (by rw [if_neg (fun w => w (by rw [e]; exact m_in hv (by omega))), if_pos z]) P2 e2))))) (fun z => br_t rfl (n_rf P1 (fun S2 M2 P2 e2 => h 1 0 N Y S2 M2 (by rw [if_pos z]) P2 e2))))
  have hk : ¬ a < 0 ∧ a < nI (yn Y 23) := by rw [e]; exact m_in hv (by omega)
  rw [if_neg (fun w => w hk), if_neg (fun w => w ⟨r1, r2⟩), e, tN_nI (by omega)] at h
  rw [e]
  exact s_rc H V.x0 rfl rfl (D_ofGateNow R H V VV hv (h 0 _ N Y S1 M1 rfl P1 e1))
theorem D_wouldPayNow (R : RV N Y S) (H : mR g Y S M) (V : mVs Y S) (VV : mVv Y S) (B : nB N) (I : NI N) {t : Nat} (ht : t < yn Y 23) {κ : Int32 → mM → Prop} (h : κ (vWp N t) M) : wX14_wouldPayNow κ (some (yA Y 20 0)) (nI t) M := by
  have hb := V.2.1
  have eL := R.2.2.1 t ht
  have htn : t < nn N 23 := by rw [← R.1.1]; exact ht
  have ok : ∀ v, v = vWp N t → κ v M := fun v e => by rw [e]; exact h
  unfold vWp at ok
  rw [← eL] at ok
  refine v_G H V ht (s_gR7 H ht rfl rfl rfl (s_rcL H rfl (V.l25 ht) (s_isEmpty H rfl (V.l25 ht) (fun z => br_f (by decide) (ok _ (by rw [z]; rfl))) (fun hne => br_t rfl ?_))))
  refine s_gR7 H ht rfl rfl rfl (s_rcL H rfl (V.l25 ht) (v_first H V ht hne (fun s hs128 hx => v_int H V hs128 ?_)))
  have hm : s ∈ nq N t := by rw [← eL]; exact List.mem_of_getElem? hx
  have hsn := ((B.2.2.2.2.2.1 t htn).2 s hm).1
  have hs : s < yn Y 28 := by rw [R.1.2.1]; exact hsn
  rw [hx] at ok
  refine s_rc H V.x0 rfl rfl (D_good R H V VV hs ht (fun zg => br_f (by decide) ?_) (fun zg => br_t rfl (ok _ (if_neg zg).symm)))
  refine s_gR7 H ht rfl rfl rfl (s_rcL H rfl (V.l25 ht) (v_first H V ht hne (fun s2 hs2 hx2 => v_int H V hs2 ?_)))
  have es : s2 = s := Option.some.inj (hx2.symm.trans hx)
  rw [es]
  have hto : ∃ l, l < 6 ∧ (if nv N 23 t 0 = nv N 28 s 0 then nv N 23 t 1 else nv N 23 t 0) = nI l := by
    obtain ⟨⟨a, ha, ea⟩, ⟨b, hb', eb⟩⟩ := B.2.2.1 t htn
    split
    · exact ⟨b, hb', eb⟩
    · exact ⟨a, ha, ea⟩
  obtain ⟨l, hl, el⟩ := hto
  have eTo : nTo N s t = l := by
    unfold nTo
    rw [el, tN_nI (by omega)]
  refine v_S H V hs (s_gI H hs rfl rfl rfl ?_)
  rw [R.2.1 28 s 0 rfl hs]
  refine s_rc H ht rfl rfl (D_beyond R H ht ?_)
  rw [el]
  have h22 := V.l22 hl
  obtain ⟨w, hw, ew⟩ := nCi_b (N := N) (s := s) (to := l) (yn Y 29) (fun p hp => (B.2.2.2.2.1 p (by rw [← R.1.2.2]; exact hp)).2.1)
  obtain ⟨al, hal, eal⟩ := I.1 l hl
  refine s_rc H V.x0 rfl rfl (D_comeIn0 R H V hs hl (v_Ld H V hl (s_rc H V.x0 rfl rfl (s_gI H h22 rfl rfl rfl (s_gI H h22 rfl rfl rfl (ok _ ?_))))))
  show _ = (if nGood N s t = true then nDuty N (nTo N s t) (nCi N s (nTo N s t) (nn N 29)).2 else 0)
  rw [if_pos zg, eTo, R.2.1 22 l 1 rfl h22, R.2.1 22 l 0 rfl h22, ← R.1.2.2, ew, eal, duty_eq (by omega) (by omega)]
  unfold nDuty
  rw [eal]
theorem D_wouldPay (P : vN g N Y0 S0 Y S M) (I : NI N) {a : Int32} {κ : Int32 → mM → Prop} (h : ∀ k v N' Y' S' M', fWouldPay N a = (k, v, N') → vN g N' Y0 S0 Y' S' M' → sI S' 20 0 0 = k → κ v M') : wX14_wouldPay κ (some (yA Y 20 0)) a M := by
  unfold fWouldPay at h
  refine n_th P (fun S1 M1 P1 e1 => ?_)
  have H := P1.1.1
  have V := P1.1.2.1
  have VV := P1.1.2.2.1
  have R := P1.2.2
  have hb := V.2.1
  rw [← R.1.1] at h
  refine s_rc H V.x0 rfl rfl (v_isGate H V (fun t hv e => br_f (by decide) ?_) (fun z => br_t rfl (n_rf P1 (fun S2 M2 P2 e2 => h 1 0 N Y S2 M2 (by rw [if_pos z]) P2 e2))))
  have hk : ¬ a < 0 ∧ a < nI (yn Y 23) := by rw [e]; exact m_in hv (by omega)
  rw [if_neg (fun w => w hk), e, tN_nI (by omega)] at h
  rw [e]
  exact s_rc H V.x0 rfl rfl (D_wouldPayNow R H V VV (nB_of P1.1 R) I hv (h 0 _ N Y S1 M1 rfl P1 e1))
end SIM33v
