/-! THE SIMULATION, 33: sleepers, gates, dues asked, of both sides -/
/-- a place in a queue -/
def vPl (N : mN) (s : Nat) : Int32 := if nv N 28 s 4 = -1 then -1 else nI ((nq N (tN (nv N 28 s 4))).idxOf s)
def pHi (N : mN) (s k : Nat) : Bool := decide (hS (nh N) k = s)
def vSlp (N : mN) (s : Nat) (b : Int32) : Int32 := if b = 0 then nv N 28 s 0 else if b = 1 then nv N 28 s 2 else if b = 2 then nv N 28 s 3 else if b = 3 then nv N 28 s 4 else if b = 4 then vPl N s else if b = 5 then nHd N s (nn N 29) else if b = 6 then nv N 28 s 8 else if b = 7 then vRg N s else nCn (pHi N s) ((nh N).length / 3)
def fOfSleeper (N : mN) (a b : Int32) : mT :=
  if ¬ (¬ a < 0 ∧ a < nI (nn N 28)) then (1, 0, N)
  else if ¬ (¬ b < 0 ∧ ¬ 8 < b) then (2, 0, N)
  else (0, vSlp N (tN a) b, N)
/-- hidden worth in a queue -/
def pHw (N : mN) (t p : Nat) : Bool := decide (nv N 29 p 4 < 100) && (decide (tN (nv N 29 p 4) ∈ nq N t) && !zb (nv N 28 (tN (nv N 29 p 4)) 5) p)
def nHw (N : mN) (t : Nat) : Nat → Int32
  | 0 => 0
  | j + 1 => if pHw N t j = true then nHw N t j + nv N 29 j 1 else nHw N t j
theorem pHw_i {N : mN} {t p : Nat} : pHw N t p = true ↔ nv N 29 p 4 < 100 ∧ tN (nv N 29 p 4) ∈ nq N t ∧ zb (nv N 28 (tN (nv N 29 p 4)) 5) p = false := by
  unfold pHw
  rw [Bool.and_eq_true, Bool.and_eq_true, decide_eq_true_iff, decide_eq_true_iff, Bool.not_eq_true']
def vOp (N : mN) (t : Nat) : Int32 := if nv N 23 t 3 ≤ m_rem ((nv N 20 0 2 - nv N 23 t 2) + 24) 24 then 0 else 1
def vFi (N : mN) (t : Nat) : Int32 := match (nq N t)[0]? with
  | none => -1
  | some s => nI s
def vGt (N : mN) (t : Nat) (b : Int32) : Int32 := if b = 0 then nv N 23 t 0 else if b = 1 then nv N 23 t 1 else if b = 2 then vOp N t else if b = 3 then nv N 23 t 4 else if b = 4 then nv N 23 t 5 else if b = 5 then (if nv N 23 t 5 < 5 then 0 else 1) else if b = 6 then nI (nq N t).length else if b = 7 then vFi N t else if b = 8 then nHw N t (nn N 29) else nCn (fun v => nr N t v) 97
def fOfGate (N : mN) (a b : Int32) : mT :=
  if ¬ (¬ a < 0 ∧ a < nI (nn N 23)) then (1, 0, N)
  else if ¬ (¬ b < 0 ∧ ¬ 9 < b) then (2, 0, N)
  else (0, vGt N (tN a) b, N)
def vWp (N : mN) (t : Nat) : Int32 := match (nq N t)[0]? with
  | none => 0
  | some s => if nGood N s t = true then nDuty N (nTo N s t) (nCi N s (nTo N s t) (nn N 29)).2 else 0
def fWouldPay (N : mN) (a : Int32) : mT :=
  if ¬ (¬ a < 0 ∧ a < nI (nn N 23)) then (1, 0, N)
  else (0, vWp N (tN a), N)
theorem b_no9 {b : Int32} (q0 : ¬ b = 0) (q1 : ¬ b = 1) (q2 : ¬ b = 2) (q3 : ¬ b = 3) (q4 : ¬ b = 4) (q5 : ¬ b = 5) (q6 : ¬ b = 6) (q7 : ¬ b = 7) (q8 : ¬ b = 8) (q9 : ¬ b = 9) : ¬ (¬ b < 0 ∧ ¬ 9 < b) := by
  intro w
  obtain ⟨j, hj, e⟩ := b_rg (n := 9) (by omega) (show ¬ b < 0 ∧ ¬ nI 9 < b from w)
  by_cases z : j = 9
  · rw [z] at e
    exact q9 e
  · exact b_no8 q0 q1 q2 q3 q4 q5 q6 q7 q8 (by rw [e]; exact ⟨nI_pos (by omega), nI_nlt (a := 8) (b := j) (by omega) (by omega)⟩)
section SIM33
variable {g : Nat → Nat} {Y : mY} {S : mS} {M : mM} {N : mN}
theorem C_os3 (R : RC 99 N Y S) (H : mR g Y S M) (W : mWs Y S) {s : Nat} (hs : s < yn Y 4) {κ : Int32 → mM → Prop} (h : κ (nv N 28 s 4) M) : m_gR M (some (yA Y 4 s)) 11 5 fun x => ((x = none → κ (-1) M) ∧ (¬ (x = none) → m_gR M (some (yA Y 4 s)) 11 5 fun x14 => m_gI M x14 5 0 fun x15 => κ x15 M)) := by
  have hb := W.2.1
  rw [R.2.2.2.2.1 s hs (by omega)] at h
  refine s_gR3 H hs rfl rfl rfl ?_
  cases hx : sX S 4 s 5 with
  | none =>
    rw [hx] at h
    exact br_t rfl h
  | some t =>
    have ht := H.lX (k := 4) (f := 5) (kt := 3) hs rfl t hx
    rw [hx] at h
    refine br_f (fun z => by cases z) (s_gR3 H hs rfl rfl rfl ?_)
    rw [hx]
    refine s_gI H ht rfl rfl rfl ?_
    rw [W.2.2.2.1.2.1 t ht]
    exact h
theorem C_os6 (R : RC 99 N Y S) (H : mR g Y S M) (W : mWs Y S) {s : Nat} (hs : s < yn Y 4) {κ : Int32 → mM → Prop} (h : κ (nv N 28 s 8) M) : m_gR M (some (yA Y 4 s)) 11 7 fun x => ((x = none → κ (-1) M) ∧ (¬ (x = none) → m_gR M (some (yA Y 4 s)) 11 7 fun x14 => m_gI M x14 9 2 fun x15 => κ x15 M)) := by
  obtain ⟨r1, r2⟩ := R.2.2.2.2.2.2.1 s hs
  refine s_gR3 H hs rfl rfl rfl ?_
  cases hx : sX S 4 s 7 with
  | none =>
    rw [r1 hx] at h
    exact br_t rfl h
  | some p =>
    have hp := H.lX (k := 4) (f := 7) (kt := 16) hs rfl p hx
    rw [(r2 p hx).2.2.1] at h
    refine br_f (fun z => by cases z) (s_gR3 H hs rfl rfl rfl ?_)
    rw [hx]
    exact s_gI H hp rfl rfl rfl h
theorem C_os4 (R : RC 99 N Y S) (H : mR g Y S M) (W : mWs Y S) (Q : mWq Y S) {s : Nat} (hs : s < yn Y 4) {κ : Int32 → mM → Prop} (h : κ (vPl N s) M) : wX8_placeOf κ (some (yA Y 4 s)) M := by
  have hb := W.2.1
  have e5 := R.2.2.2.2.1 s hs (by omega)
  unfold vPl at h
  refine c_placeOf H W hs (fun t j hx ht hj => ?_) (fun hn => ?_)
  · rw [e5, hx, if_neg (fun w => absurd (nI_pos (n := t) (by omega)) (fun q => q (by rw [show nI t = -1 from w]; decide))), show tN (oTo (some t)) = t from tN_nI (by omega), ← (R.2.2.1 t ht).2.2, idx_nd _ _ _ (Q.1 t ht).1 hj] at h
    exact h
  · cases hx : sX S 4 s 5 with
    | none =>
      rw [e5, hx, if_pos (show oTo none = -1 from rfl)] at h
      exact h
    | some t => exact absurd (Q.2 s t hs hx).2 (hn t hx)
theorem C_hidingsOf_l (R : RC 99 N Y S) (H : mR g Y S M) (W : mWs Y S) {s : Nat} (hs : s < yn Y 4) {κ : Int32 → mM → Prop} (h : κ (nCn (pHi N s) (yn Y 6)) M) : ∀ (d j : Nat), j + d = yn Y 6 → wX8_hidingsOf_4 κ (d + 1) (some (yA Y 0 0)) (some (yA Y 4 s)) (nCn (pHi N s) j) (nI j) M := by
  intro d
  induction d with
  | zero =>
    intro j hj
    rw [wX8_hidingsOf_4]
    exact c_hdH H W (by omega) (fun e => by rw [e]; exact h) (fun hlt => absurd hlt (by omega))
  | succ d ih =>
    intro j hj
    have ih' : ∀ a : Int32, a = nCn (pHi N s) (j + 1) → wX8_hidingsOf_4 κ (d + 1) (some (yA Y 0 0)) (some (yA Y 4 s)) a (nI j + 1) M := fun a e => by rw [nI_1, e]; exact ih (j + 1) (by omega)
    rw [wX8_hidingsOf_4]
    refine c_hdH H W (by omega) (fun z => absurd z (by omega)) (fun hlt => ?_)
    have hN := H.lN (k := 6) (f := 0) (kt := 4) hlt rfl
    have eS : hS (nh N) j = sN S 6 j 0 := by unfold hS; rw [(R.2.2.2.2.2.2.2.2.2.2 j hlt).1]; rfl
    refine s_gR2 H hlt rfl rfl rfl (br_c (fun z => ih' _ ?_) (fun z => ih' _ ?_))
    · exact (nCn_t (decide_eq_true (eS.trans ((H.sinj hs hN).mp z)))).symm
    · exact (nCn_f (fun w => z ((H.sinj hs hN).mpr (eS.symm.trans (of_decide_eq_true w))))).symm
theorem C_hidingsOf (R : RC 99 N Y S) (H : mR g Y S M) (W : mWs Y S) {s : Nat} (hs : s < yn Y 4) {κ : Int32 → mM → Prop} (h : κ (nCn (pHi N s) ((nh N).length / 3)) M) : wX8_hidingsOf κ (some (yA Y 0 0)) (some (yA Y 4 s)) M := by
  have e := R.2.2.2.2.2.2.2.2.2.1
  rw [show (nh N).length / 3 = yn Y 6 by omega] at h
  exact ⟨yn Y 6 + 1, C_hidingsOf_l R H W hs h (yn Y 6) 0 (by omega)⟩
theorem C_ofSleeper (H : mR g Y S M) (W : mWs Y S) (Q : mWq Y S) (R : RC 99 N Y S) {a b : Int32} {κ : Int32 → mM → Prop} {ξ : String → mM → Prop} (h1 : (fOfSleeper N a b).1 = 1 → ξ "java/lang/IndexOutOfBoundsException" M) (h2 : (fOfSleeper N a b).1 = 2 → ξ "java/lang/IllegalArgumentException" M)
    (h : ∀ v N' Y' S' M', fOfSleeper N a b = (0, v, N') → cX g N' Y S Y' S' M' → κ v M') : wX8_ofSleeper κ ξ (some (yA Y 0 0)) a b M := by
  have hb := W.2.1
  unfold fOfSleeper at h1 h2 h
  rw [← R.1.2.1] at h1 h2 h
  refine s_rc H W.x0 rfl rfl (c_sleeperN H W (fun s hs ep => ?_) (fun z => h1 (by rw [if_pos z])))
  have ha : ¬ a < 0 ∧ a < nI (yn Y 4) := by rw [ep]; exact m_in hs (by omega)
  rw [if_neg (fun w => w ha)] at h2 h
  have tp : tN a = s := by rw [ep, tN_nI (by omega)]
  have ok : ∀ v, v = vSlp N s b → (¬ b < 0 ∧ ¬ 8 < b) → κ v M := fun v ev hbk => h v N Y S M (by rw [if_neg (fun w => w hbk), tp, ev]) (cX.rf H W Q R)
  have e0 : sI S 2 (sN S 4 s 2) 0 = nv N 28 s 0 := by rw [W.2.2.2.1.1 _ (W.l2' (H.lN (k := 4) (f := 2) (kt := 2) hs rfl)), R.2.2.2.1 s hs]
  exact br_c (fun q0 => s_gR2 H hs rfl rfl rfl (s_gI H (H.lN (k := 4) (f := 2) (kt := 2) hs rfl) rfl rfl rfl (ok _ ((e0).trans (by unfold vSlp; rw [if_pos q0])) (by rw [q0]; decide)))) (fun q0 => br_c (fun q1 => s_gI H hs rfl rfl rfl (ok _ ((R.2.1 4 s 3 28 2 rfl hs (by omega)).trans (by unfold vSlp; rw [if_neg q0, if_pos q1])) (by rw [q1]; decide))) (fun q1 => br_c (fun q2 => s_gI H hs rfl rfl rfl (ok _ ((R.2.1 4 s 4 28 3 rfl hs (by omega)).trans (by unfold vSlp; rw [if_neg q0, if_neg q1, if_pos q2])) (by rw [q2]; decide))) (fun q2 => br_c (fun q3 => C_os3 R H W hs (ok _ (by unfold vSlp; rw [if_neg q0, if_neg q1, if_neg q2, if_pos q3]) (by rw [q3]; decide))) (fun q3 => br_c (fun q4 => C_os4 R H W Q hs (ok _ (by unfold vSlp; rw [if_neg q0, if_neg q1, if_neg q2, if_neg q3, if_pos q4]) (by rw [q4]; decide))) (fun q4 => br_c (fun q5 => s_rc H W.x0 rfl rfl (C_head R H W hs (ok _ (by unfold vSlp; rw [if_neg q0, if_neg q1, if_neg q2, if_neg q3, if_neg q4, if_pos q5]) (by rw [q5]; decide)))) (fun q5 => br_c (fun q6 => C_os6 R H W hs (ok _ (by unfold vSlp; rw [if_neg q0, if_neg q1, if_neg q2, if_neg q3, if_neg q4, if_neg q5, if_pos q6]) (by rw [q6]; decide))) (fun q6 => br_c (fun q7 => s_rc H W.x0 rfl rfl (C_ring R H W hs (ok _ (by unfold vSlp; rw [if_neg q0, if_neg q1, if_neg q2, if_neg q3, if_neg q4, if_neg q5, if_neg q6, if_pos q7]) (by rw [q7]; decide)))) (fun q7 => br_c (fun q8 => s_rc H W.x0 rfl rfl (C_hidingsOf R H W hs (ok _ (by unfold vSlp; rw [if_neg q0, if_neg q1, if_neg q2, if_neg q3, if_neg q4, if_neg q5, if_neg q6, if_neg q7]) (by rw [q8]; decide)))) (fun q8 => h2 (by rw [if_pos (b_no8 q0 q1 q2 q3 q4 q5 q6 q7 q8)]))))))))))
theorem C_hw_l (R : RC 99 N Y S) (H : mR g Y S M) (W : mWs Y S) (Q : mWq Y S) {t : Nat} (ht : t < yn Y 3) {κ : Int32 → mM → Prop} (h : κ (nHw N t (yn Y 5)) M) : ∀ (d j : Nat), j + d = yn Y 5 → wX8_hiddenWorth_4 κ (d + 1) (some (yA Y 0 0)) (some (yA Y 3 t)) (nHw N t j) (nI j) M := by
  have hb := W.2.1
  intro d
  induction d with
  | zero =>
    intro j hj
    rw [wX8_hiddenWorth_4]
    exact c_hdP H W (by omega) (fun e => by rw [e]; exact h) (fun hlt => absurd hlt (by omega))
  | succ d ih =>
    intro j hj
    have ih' : ∀ a : Int32, a = nHw N t (j + 1) → wX8_hiddenWorth_4 κ (d + 1) (some (yA Y 0 0)) (some (yA Y 3 t)) a (nI j + 1) M := fun a e => by rw [nI_1, e]; exact ih (j + 1) (by omega)
    have no : ¬ pHw N t j = true → nHw N t j = nHw N t (j + 1) := fun w => (if_neg w).symm
    rw [wX8_hiddenWorth_4]
    refine c_hdP H W (by omega) (fun z => absurd z (by omega)) (fun hlt => ?_)
    refine s_gR3 H hlt rfl rfl rfl ?_
    cases hx : sX S 5 j 5 with
    | none => exact br_t rfl (ih' _ (no (fun w => R.at0 H W hlt hx (pHw_i.mp w).1)))
    | some s =>
      have hs := H.lX (k := 5) (f := 5) (kt := 4) hlt rfl s hx
      have ea := (R.at1 hlt hx).2
      have hX := H.lX (k := 4) (f := 5) (kt := 3) hs rfl
      refine br_f (fun z => by cases z) (s_gR3 H hlt rfl rfl rfl ?_)
      rw [hx]
      refine s_gR3 H hs rfl rfl rfl (br_c (fun z => ?_) (fun z => ih' _ (no (fun w => z ((H.minj ht hX).mpr ?_)))))
      · have e5 := (H.minj ht hX).mp z
        have hm : s ∈ nq N t := by rw [← (R.2.2.1 t ht).2.2]; exact (Q.2 s t hs e5).2
        have e6 : sI S 4 s 6 = nv N 28 s 5 := (R.2.2.2.2.2.1 s hs).1 (Or.inr (by rw [e5]; exact Option.some_ne_none t))
        refine s_rc H hlt rfl rfl (c_isHidden H W hlt (fun s' hs' hc => br_f (by decide) (s_gI H hlt rfl rfl rfl (ih' _ ?_))) (fun hc => br_t rfl (ih' _ (no (fun w => ?_)))))
        · rw [hx] at hs'
          cases hs'
          rw [zb_cIn (by omega), e6] at hc
          have hp : pHw N t j = true := pHw_i.mpr (by
            rw [ea, tN_nI (by omega)]
            refine ⟨nI_lt (a := s) (b := 100) (by omega) (by omega), hm, ?_⟩
            cases q : zb (nv N 28 s 5) j with
            | false => rfl
            | true => exact absurd q hc)
          rw [R.2.1 5 j 2 29 1 rfl hlt (by omega)]
          exact (if_pos hp).symm
        · have c := hc s hx
          rw [zb_cIn (by omega), e6] at c
          have q := (pHw_i.mp w).2.2
          rw [ea, tN_nI (by omega), c] at q
          cases q
      · have q := (pHw_i.mp w).2.1
        rw [ea, tN_nI (by omega), ← (R.2.2.1 t ht).2.2] at q
        exact (Q.1 t ht).2 s q
theorem C_hw (R : RC 99 N Y S) (H : mR g Y S M) (W : mWs Y S) (Q : mWq Y S) {t : Nat} (ht : t < yn Y 3) {κ : Int32 → mM → Prop} (h : κ (nHw N t (nn N 29)) M) : wX8_hiddenWorth κ (some (yA Y 0 0)) (some (yA Y 3 t)) M := by
  rw [← R.1.2.2] at h
  exact ⟨yn Y 5 + 1, C_hw_l R H W Q ht h (yn Y 5) 0 (by omega)⟩
theorem C_og7 (R : RC 99 N Y S) (H : mR g Y S M) (W : mWs Y S) {t : Nat} (ht : t < yn Y 3) {κ : Int32 → mM → Prop} (h : κ (vFi N t) M) : m_gR M (some (yA Y 3 t)) 5 5 fun x31 => m_rc M x31 4 fun b34 => wJx4a65c_isEmpty_aae02 (fun x32 M33 => ((x32 = 0 → m_gR M33 (some (yA Y 3 t)) 5 5 fun x36 => m_rc M33 x36 4 fun b39 => wJx4a65c_get_915e3 (fun x37 M38 => m_cast M38 x37 11 (m_gI M38 x37 11 0 fun x40 => κ x40 M38)) (some b39) 0 M33) ∧ (¬ (x32 = 0) → κ (-1) M33))) (some b34) M := by
  have eL := (R.2.2.1 t ht).2.2
  unfold vFi at h
  rw [← eL] at h
  refine s_gR7 H ht rfl rfl rfl (s_rcL H rfl (W.l13 ht) (s_isEmpty H rfl (W.l13 ht) (fun z => br_f (by decide) ?_) (fun z => br_t rfl (s_gR7 H ht rfl rfl rfl (s_rcL H rfl (W.l13 ht) (c_first H W ht z (fun s hs hx => s_cast H hs rfl rfl (s_gI H hs rfl rfl rfl ?_))))))))
  · rw [z] at h
    exact h
  · rw [hx] at h
    rw [W.2.2.2.1.2.2.1 s hs]
    exact h
theorem C_wouldPay (H : mR g Y S M) (W : mWs Y S) (Q : mWq Y S) (R : RC 99 N Y S) (B : nB N) (I : NI N) {a : Int32} {κ : Int32 → mM → Prop} {ξ : String → mM → Prop} (h1 : (fWouldPay N a).1 = 1 → ξ "java/lang/IndexOutOfBoundsException" M)
    (h : ∀ v N' Y' S' M', fWouldPay N a = (0, v, N') → cX g N' Y S Y' S' M' → κ v M') : wX8_wouldPay κ ξ (some (yA Y 0 0)) a M := by
  have hb := W.2.1
  unfold fWouldPay at h1 h
  rw [← R.1.1] at h1 h
  refine s_rc H W.x0 rfl rfl (c_gateN H W (fun t ht ep => ?_) (fun z => h1 (by rw [if_pos z])))
  have ha : ¬ a < 0 ∧ a < nI (yn Y 3) := by rw [ep]; exact m_in ht (by omega)
  rw [if_neg (fun w => w ha), ep, tN_nI (by omega)] at h
  have ok : ∀ v, v = vWp N t → κ v M := fun v ev => h v N Y S M (by rw [ev]) (cX.rf H W Q R)
  have eL := (R.2.2.1 t ht).2.2
  unfold vWp at ok
  rw [← eL] at ok
  have b1 := W.l2' (H.lN (k := 3) (f := 1) (kt := 2) ht rfl)
  have b2 := W.l2' (H.lN (k := 3) (f := 2) (kt := 2) ht rfl)
  refine s_gR7 H ht rfl rfl rfl (s_rcL H rfl (W.l13 ht) (s_isEmpty H rfl (W.l13 ht) (fun z => br_f (by decide) (ok _ (by rw [z]; rfl))) (fun z => br_t rfl ?_)))
  refine s_gR7 H ht rfl rfl rfl (s_rcL H rfl (W.l13 ht) (c_first H W ht z (fun s hs hx => s_cast H hs rfl rfl (s_rc H W.x0 rfl rfl ?_))))
  rw [hx] at ok
  have hsn : s < nn N 28 := by rw [← R.1.2.1]; exact hs
  refine C_good R H W hs ht (B.2.2.2.1 s hsn).2.2 (fun zg => br_f (by decide) ?_) (fun zg => br_t rfl (ok _ (if_neg zg).symm))
  have hsl := H.lN (k := 4) (f := 2) (kt := 2) hs rfl
  have b0 := W.l2' hsl
  refine s_gR2 H hs rfl rfl rfl (s_rc H ht rfl rfl (c_across H ht hsl ?_))
  have hl := c_acr_l H ht (l := sN S 4 s 2)
  have eTo : nTo N s t = cAcr S t (sN S 4 s 2) := by
    unfold nTo cAcr
    rw [(R.2.2.1 t ht).1, (R.2.2.1 t ht).2.1, R.2.2.2.1 s hs]
    by_cases z : sN S 4 s 2 = sN S 3 t 1
    · rw [if_pos z, if_pos (by rw [z]), tN_nI (by omega)]
    · rw [if_neg z, if_neg (fun w => z ((nI_eq (by omega) (by omega)).mp w).symm), tN_nI (by omega)]
  have hm : s ∈ nq N t := by rw [← eL]; exact List.mem_of_getElem? hx
  have h3 := ((B.2.2.2.2.2.1 t (by rw [← R.1.1]; exact ht)).2 s hm).2.1
  have e5 : sX S 4 s 5 = some t := (Q.1 t ht).2 s (by rw [eL]; exact hm)
  have e6 : sI S 4 s 6 = nv N 28 s 5 := (R.2.2.2.2.2.1 s hs).1 (Or.inr (by rw [e5]; exact Option.some_ne_none t))
  refine s_rc H W.x0 rfl rfl (C_comeIn H W R hs hl e6 (fun p hp hz => ((I.2.2.1 s hsn).2.2.2.2 h3).1 p (by omega) hz |>.2) (s_rc H W.x0 rfl rfl (C_worthOf H W R (s_rc H hl rfl rfl (c_dutyOn H hl (ok _ ?_))))))
  show _ = (if nGood N s t = true then nDuty N (nTo N s t) (nCi N s (nTo N s t) (nn N 29)).2 else 0)
  rw [if_pos zg, eTo, nWo_eq (by omega) _ (Nat.le_refl _), R.1.2.2, R.2.1 2 _ 2 22 1 rfl hl (by omega), R.2.1 2 _ 1 22 0 rfl hl (by omega)]
  rfl
end SIM33
section SIM33v
variable {g : Nat → Nat} {Y : mY} {S : mS} {M : mM} {N : mN} {Y0 : mY} {S0 : mS}
end SIM33v
