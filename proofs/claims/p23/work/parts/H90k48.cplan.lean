/-! THE SIMULATION, 38: plans of the class -/
section SIM38
variable {g : Nat → Nat} {Y : mY} {N : mN}
theorem c_rowV {S : mS} {M : mM} (H : mR g Y S M) (W : mWs Y S) {i j : Nat} (hi : i < 9) (hj : j < 81) {κ : Int32 → Prop} (h : κ (sE S 9 i j)) : m_ldI M (some (yA Y 9 i)) (nI j) 0 κ := s_ldI H (W.l9 (by omega)) rfl (by decide) rfl (by rw [W.c9 hi]; exact hj) (by rw [W.c9 hi]; omega) h
/-- rows told from gate t on -/
def cTb (w : Nat → Nat) (n t : Nat) (S : mS) : Prop := ∀ t' s, t ≤ t' → t' ≤ n → s < 81 → sE S 9 t' s = nI (pR w n (n - t') s)
theorem C_mcf35 {S : mS} {M : mM} (H : mR g Y S M) (W : mWs Y S) {w : Nat → Nat} (hw : ∀ t, w t ≤ 2376) {n t sm L : Nat} (hn : n ≤ 8) (ht : t < n) (hsm : sm < 81) (hL : L ≤ min 10 sm) (hT : cTb w n (t + 1) S) {κ : Int32 → mM → Prop} (h : κ (nI (pM (fun o => w t * o / 10 + pR w n (n - (t + 1)) (sm - o)) (L + 1))) M) : ∀ (d j : Nat), j + d = L + 1 → 1 ≤ j → wX8_mostCaughtFrom_35 κ (d + 1) (nI (w t)) (nI sm) (some (yA Y 9 (t + 1))) (nI (pM (fun o => w t * o / 10 + pR w n (n - (t + 1)) (sm - o)) j)) (nI L) (nI j) M := by
  intro d
  induction d with
  | zero =>
    intro j hj h1
    have ej : j = L + 1 := by omega
    rw [wX8_mostCaughtFrom_35, ej]
    exact br_t (nI_lt (by omega) (by omega)) h
  | succ d ih =>
    intro j hj h1
    have b1 := pR_bd hw (n := n) (n - (t + 1)) (sm - j)
    have b3 := wt10 (hw t) (show j ≤ 10 by omega)
    have b4 : w t * j ≤ 2376 * 10 := Nat.mul_le_mul (hw t) (show j ≤ 10 by omega)
    have b2 : pM (fun o => w t * o / 10 + pR w n (n - (t + 1)) (sm - o)) j ≤ 2376 * 8 := pM_le _ (fun o' ho' => by
      have c1 := wt10 (hw t) (show o' ≤ 10 by omega)
      have c2 := pR_bd hw (n := n) (n - (t + 1)) (sm - o')
      show w t * o' / 10 + pR w n (n - (t + 1)) (sm - o') ≤ 2376 * 8
      omega)
    rw [wX8_mostCaughtFrom_35]
    refine br_f (nI_nlt (by omega) (by omega)) ?_
    rw [pk_sub (by omega)]
    refine c_rowV H W (by omega) (by omega) ?_
    rw [hT (t + 1) (sm - j) (Nat.le_refl _) (by omega) (by omega)]
    show wX8_mostCaughtFrom_35 κ (d + 1) (nI (w t)) (nI sm) (some (yA Y 9 (t + 1))) (m_max (nI (pM (fun o => w t * o / 10 + pR w n (n - (t + 1)) (sm - o)) j)) (nI (pR w n (n - (t + 1)) (sm - j)) + (nI (w t) * nI j) / 10)) (nI L) (nI j + 1) M
    have ev : m_max (nI (pM (fun o => w t * o / 10 + pR w n (n - (t + 1)) (sm - o)) j)) (nI (pR w n (n - (t + 1)) (sm - j)) + (nI (w t) * nI j) / 10) = nI (pM (fun o => w t * o / 10 + pR w n (n - (t + 1)) (sm - o)) (j + 1)) := by
      rw [pk_mul, show (10 : Int32) = nI 10 from rfl, pk_div (by omega) (by omega) (by omega), nI_add, Nat.add_comm (pR w n (n - (t + 1)) (sm - j)), mI_max _ _ (by omega) (by omega)]
      rfl
    rw [ev, nI_1]
    exact ih (j + 1) (by omega) (by omega)
theorem C_mcf {S : mS} {M : mM} (H : mR g Y S M) (W : mWs Y S) {w : Nat → Nat} (hw : ∀ t, w t ≤ 2376) {n t sm : Nat} (hn : n ≤ 8) (ht : t < n) (hsm : sm < 81) (hT : cTb w n (t + 1) S) {κ : Int32 → mM → Prop} (h : κ (nI (pR w n (n - t) sm)) M) : wX8_mostCaughtFrom κ (some (yA Y 0 0)) (nI t) (nI (w t)) (nI sm) M := by
  have e1 : nI (pR w n (n - (t + 1)) sm) = nI (pM (fun o => w t * o / 10 + pR w n (n - (t + 1)) (sm - o)) 1) := by
    show _ = nI (max 0 (w t * 0 / 10 + pR w n (n - (t + 1)) (sm - 0)))
    rw [Nat.mul_zero, Nat.zero_div, Nat.zero_add, Nat.sub_zero, Nat.max_eq_right (Nat.zero_le _)]
  have eR : pR w n (n - t) sm = pM (fun o => w t * o / 10 + pR w n (n - (t + 1)) (sm - o)) (min 10 sm + 1) := by
    rw [show n - t = n - (t + 1) + 1 by omega]
    show pM (fun o => w (n - (n - (t + 1) + 1)) * o / 10 + pR w n (n - (t + 1)) (sm - o)) (min 10 sm + 1) = _
    rw [show n - (n - (t + 1) + 1) = t by omega]
  refine s_gR6 H W.x0 rfl rfl rfl ?_
  rw [nI_1]
  refine c_row H W (by omega) (c_rowV H W (by omega) hsm ?_)
  rw [hT (t + 1) sm (Nat.le_refl _) (by omega) hsm, e1]
  refine br_c (fun z => ?_) (fun _ => ?_)
  · have b := hw t
    have z0 : w t = 0 := (nI_eq (a := w t) (b := 0) (by omega) (by omega)).mp z
    refine ⟨0 + 1, C_mcf35 H W hw hn ht hsm (Nat.zero_le _) hT ?_ 0 1 (by omega) (by omega)⟩
    rw [show n - t = n - (t + 1) + 1 by omega, pR_0 (by rw [show n - (n - (t + 1) + 1) = t by omega]; exact z0), e1] at h
    exact h
  · rw [show m_min (nI sm) 10 = nI (min sm 10) from mI_min sm 10 (by omega) (by omega), show min sm 10 = min 10 sm by omega]
    exact ⟨min 10 sm + 1, C_mcf35 H W hw hn ht hsm (Nat.le_refl _) hT (by rw [← eR]; exact h) (min 10 sm) 1 (by omega) (by omega)⟩
theorem C_fmc63 {S0 : mS} {κ : mM → Prop} {R40 : Option Nat → Int32 → mM → Prop} {w : Nat → Nat} (hw : ∀ t, w t ≤ 2376) {n t : Nat} (hn : n ≤ 8) (ht : t < n) (hR : ∀ S M, mR g Y S M → mWs Y S → eqE S S0 → cTb w n t S → R40 (some (yA Y 0 0)) (nI t + (-1)) M) : ∀ (d j : Nat) (S : mS) (M : mM), mR g Y S M → mWs Y S → eqE S S0 → cTb w n (t + 1) S → (∀ s, s < j → sE S 9 t s = nI (pR w n (n - t) s)) → j + d = 81 → wX8_findMostCaught_63 κ R40 (d + 1) (some (yA Y 0 0)) (nI t) (nI (w t)) (nI j) M := by
  intro d
  induction d with
  | zero =>
    intro j S M H W E hT hJ hj
    rw [wX8_findMostCaught_63]
    refine s_gR6 H W.x0 rfl rfl rfl (c_row H W (by omega) (c_rowN H W (by omega) (br_t (nI_le (by omega) (by omega)) (hR S M H W E (fun t' s h1 h2 h3 => ?_)))))
    by_cases z : t' = t
    · rw [z]; exact hJ s (by omega)
    · exact hT t' s (by omega) h2 h3
  | succ d ih =>
    intro j S M H W E hT hJ hj
    rw [wX8_findMostCaught_63]
    refine s_gR6 H W.x0 rfl rfl rfl (c_row H W (by omega) (c_rowN H W (by omega) (br_f (nI_ge (by omega) (by omega)) ?_)))
    refine s_gR6 H W.x0 rfl rfl rfl (c_row H W (by omega) (s_rc H W.x0 rfl rfl (C_mcf H W hw hn ht (by omega) hT (c_rowS H W (by omega) (by omega) (fun M' H' => ?_)))))
    rw [nI_1]
    refine ih (j + 1) (uE S 9 t j (nI (pR w n (n - t) j))) M' H' W.uE (eqE.uE.tr E) (fun t' s h1 h2 h3 => ?_) (fun s hs => ?_) (by omega)
    · show (if 9 = 9 ∧ t' = t ∧ s = j then nI (pR w n (n - t) j) else sE S 9 t' s) = _
      rw [if_neg (by omega)]
      exact hT t' s h1 h2 h3
    · show (if 9 = 9 ∧ t = t ∧ s = j then nI (pR w n (n - t) j) else sE S 9 t s) = _
      by_cases z : s = j
      · rw [if_pos ⟨rfl, rfl, z⟩, z]
      · rw [if_neg (fun q => z q.2.2)]
        exact hJ s (by omega)
theorem C_fmc40 {S0 : mS} (R : RC 99 N Y S0) (Q : mWq Y S0) (B : nB N) {κ : mM → Prop} (h : ∀ S M, mR g Y S M → mWs Y S → eqE S S0 → cTb (pW N) (yn Y 3) 0 S → κ M) : ∀ (d : Nat) (S : mS) (M : mM), mR g Y S M → mWs Y S → eqE S S0 → d ≤ yn Y 3 → cTb (pW N) (yn Y 3) d S → wX8_findMostCaught_40 κ (d + 1) (some (yA Y 0 0)) (nI d - 1) M := by
  intro d
  induction d with
  | zero =>
    intro S M H W E hd hT
    rw [wX8_findMostCaught_40]
    exact br_t (by decide) (h S M H W E hT)
  | succ d ih =>
    intro S M H W E hd hT
    have hb := W.2.1
    have QS : mWq Y S := Q.of (fun t => by rw [E.2.2.2.2.1]) (fun s => by rw [E.2.2.1]) (fun s => by rw [E.1])
    rw [wX8_findMostCaught_40, nI_pred]
    refine br_f (nI_pos (by omega)) (s_gR6 H W.x0 rfl rfl rfl (s_rcL H rfl (W.l12 (by omega)) (c_gtG H W (by omega) (s_cast H (show d < yn Y 3 by omega) rfl rfl (s_rc H W.x0 rfl rfl (C_hw (R.E E) H W QS (by omega) ?_))))))
    rw [pW_e B]
    refine ⟨82, C_fmc63 (S0 := S0) (pW_le N) (by omega) (show d < yn Y 3 by omega) (fun S M H W E hT => ?_) 81 0 S M H W E hT (fun s hs => absurd hs (by omega)) (by omega)⟩
    rw [nI_m1]
    exact ih S M H W E (by omega) hT
theorem C_fmc10 {S0 : mS} (R : RC 99 N Y S0) (Q : mWq Y S0) (B : nB N) {κ : mM → Prop} (h : ∀ S M, mR g Y S M → mWs Y S → eqE S S0 → cTb (pW N) (yn Y 3) 0 S → κ M) : ∀ (d j : Nat) (S : mS) (M : mM), mR g Y S M → mWs Y S → eqE S S0 → (∀ s, s < j → sE S 9 (yn Y 3) s = 0) → j + d = 81 → wX8_findMostCaught_10 κ (d + 1) (some (yA Y 0 0)) (nI (yn Y 3)) (nI j) M := by
  intro d
  induction d with
  | zero =>
    intro j S M H W E hJ hj
    have hb := W.2.1
    rw [wX8_findMostCaught_10]
    refine s_gR6 H W.x0 rfl rfl rfl (c_row H W (by omega) (c_rowN H W (by omega) (br_t (nI_le (by omega) (by omega)) ⟨yn Y 3 + 1, C_fmc40 R Q B h (yn Y 3) S M H W E (Nat.le_refl _) (fun t' s h1 h2 h3 => ?_)⟩)))
    have e : t' = yn Y 3 := by omega
    rw [e, Nat.sub_self, hJ s (by omega)]
    rfl
  | succ d ih =>
    intro j S M H W E hJ hj
    have hb := W.2.1
    rw [wX8_findMostCaught_10]
    refine s_gR6 H W.x0 rfl rfl rfl (c_row H W (by omega) (c_rowN H W (by omega) (br_f (nI_ge (by omega) (by omega)) ?_)))
    refine s_gR6 H W.x0 rfl rfl rfl (c_row H W (by omega) (c_rowS H W (by omega) (by omega) (fun M' H' => ?_)))
    rw [nI_1]
    refine ih (j + 1) (uE S 9 (yn Y 3) j 0) M' H' W.uE (eqE.uE.tr E) (fun s hs => ?_) (by omega)
    show (if 9 = 9 ∧ yn Y 3 = yn Y 3 ∧ s = j then 0 else sE S 9 (yn Y 3) s) = 0
    by_cases z : s = j
    · rw [if_pos ⟨rfl, rfl, z⟩]
    · rw [if_neg (fun q => z q.2.2)]
      exact hJ s (by omega)
theorem C_fmc {S : mS} {M : mM} (H : mR g Y S M) (W : mWs Y S) (Q : mWq Y S) (R : RC 99 N Y S) (B : nB N) {κ : mM → Prop} (h : ∀ S' M', mR g Y S' M' → mWs Y S' → eqE S' S → cTb (pW N) (yn Y 3) 0 S' → κ M') : wX8_findMostCaught κ (some (yA Y 0 0)) M := s_gR6 H W.x0 rfl rfl rfl (s_rcL H rfl (W.l12 (by omega)) (c_szG H W ⟨82, C_fmc10 (S0 := S) R Q B h 81 0 S M H W (eqE.rf S) (fun s hs => absurd hs (by omega)) (by omega)⟩))
theorem C_leastSum_l {S : mS} {M : mM} (H : mR g Y S M) (W : mWs Y S) {w : Nat → Nat} (hw : ∀ t, w t ≤ 2376) {n p : Nat} (hn : n ≤ 8) (hp : p ≤ 2000) (hT : cTb w n 0 S) {κ : Int32 → mM → Prop} (h : κ (if pS w n p = 81 then -1 else nI (pS w n p)) M) : ∀ (d j : Nat), j + d = 81 → pS w n p = pFi (fun s => decide (p ≤ pR w n n s)) d j → wX8_leastSum_9 κ (d + 1) (nI p) (some (yA Y 9 0)) (nI j) M := by
  intro d
  induction d with
  | zero =>
    intro j hj e
    have e' : pS w n p = 81 := e.trans (by show j = 81; omega)
    rw [if_pos e'] at h
    rw [wX8_leastSum_9]
    exact c_rowN H W (by omega) (br_t (nI_le (by omega) (by omega)) h)
  | succ d ih =>
    intro j hj e
    rw [wX8_leastSum_9]
    refine c_rowN H W (by omega) (br_f (nI_ge (by omega) (by omega)) (c_rowV H W (by omega) (by omega) ?_))
    rw [hT 0 j (Nat.le_refl _) (Nat.zero_le _) (by omega), Nat.sub_zero]
    have b := pR_bd hw (n := n) n j
    refine br_c (fun z => ?_) (fun z => ?_)
    · rw [nI_1]
      refine ih (j + 1) (by omega) (e.trans (if_neg (fun q => ?_)))
      exact absurd z (nI_nlt (of_decide_eq_true q) (by omega))
    · have q : p ≤ pR w n n j := Nat.not_lt.mp (fun q => z (nI_lt q (by omega)))
      have e' : pS w n p = j := e.trans (if_pos (decide_eq_true q))
      rw [e', if_neg (by omega)] at h
      exact h
theorem C_leastSum {S : mS} {M : mM} (H : mR g Y S M) (W : mWs Y S) {w : Nat → Nat} (hw : ∀ t, w t ≤ 2376) {n p : Nat} (hn : n ≤ 8) (hp : p ≤ 2000) (hT : cTb w n 0 S) {κ : Int32 → mM → Prop} (h : κ (if pS w n p = 81 then -1 else nI (pS w n p)) M) : wX8_leastSum κ (some (yA Y 0 0)) (nI p) M := s_gR6 H W.x0 rfl rfl rfl (show m_ldR M (some (yA Y 8 0)) (nI 0) 5 _ from c_row H W (by omega) ⟨82, C_leastSum_l H W hw hn hp hT h 81 0 (by omega) rfl⟩)
theorem C_leastOdds {S : mS} {M : mM} (H : mR g Y S M) (W : mWs Y S) {w : Nat → Nat} (hw : ∀ t, w t ≤ 2376) {n t lf : Nat} (hn : n ≤ 8) (ht : t < n) (hlf : lf < 81) (hT : cTb w n 0 S) {rs : Int32} {κ : Int32 → mM → Prop} (h : κ (nI (pO w n t lf rs)) M) : wX8_leastOdds κ (some (yA Y 0 0)) (nI t) (nI (w t)) rs (nI lf) M := by
  have key : ∀ (d j : Nat), j + d = min 10 lf → pO w n t lf rs = pFi (pP w n t lf rs) d j → wX8_leastOdds_12 κ (d + 1) (some (yA Y 0 0)) (nI t) (nI (w t)) rs (nI lf) (nI (min 10 lf)) (nI j) M := by
    intro d
    induction d with
    | zero =>
      intro j hj e
      have e' : pO w n t lf rs = min 10 lf := e.trans (by show j = min 10 lf; omega)
      rw [e'] at h
      rw [wX8_leastOdds_12]
      exact br_t (nI_le (by omega) (by omega)) h
    | succ d ih =>
      intro j hj e
      have b1 := pR_bd hw (n := n) (n - (t + 1)) (lf - j)
      have b3 := wt10 (hw t) (show j ≤ 10 by omega)
      have b4 : w t * j ≤ 2376 * 10 := Nat.mul_le_mul (hw t) (show j ≤ 10 by omega)
      rw [wX8_leastOdds_12]
      refine br_f (nI_ge (by omega) (by omega)) (s_gR6 H W.x0 rfl rfl rfl ?_)
      rw [nI_1, pk_sub (by omega)]
      refine c_row H W (by omega) (c_rowV H W (by omega) (by omega) ?_)
      rw [hT (t + 1) (lf - j) (Nat.zero_le _) (by omega) (by omega), pk_mul, show (10 : Int32) = nI 10 from rfl, pk_div (by omega) (by omega) (by omega), nI_add]
      refine br_c (fun z => ?_) (fun z => ?_)
      · rw [nI_1]
        exact ih (j + 1) (by omega) (e.trans (if_neg (fun q => absurd z (Int32.not_lt.mpr (of_decide_eq_true q)))))
      · rw [e.trans (if_pos (decide_eq_true (Int32.not_lt.mp z)))] at h
        exact h
  unfold wX8_leastOdds
  rw [show m_min (nI lf) 10 = nI (min lf 10) from mI_min lf 10 (by omega) (by omega), show min lf 10 = min 10 lf by omega]
  exact ⟨min 10 lf + 1, key (min 10 lf) 0 (by omega) rfl⟩
theorem C_planned {S : mS} {M : mM} (H : mR g Y S M) (W : mWs Y S) (Q : mWq Y S) (R : RC 99 N Y S) (B : nB N) {gt : Nat} (hg : gt < yn Y 3) (hT : cTb (pW N) (yn Y 3) 0 S) {κ : Int32 → mM → Prop} : ∀ (d j lf : Nat) (rs pl : Int32), j + d = gt → lf < 81 → κ (nI (pGt (pW N) (yn Y 3) d j lf rs)) M → wX8_plannedOdds_12 κ (d + 2) (some (yA Y 0 0)) (nI gt) rs (nI lf) pl (nI j) M := by
  have hb := W.2.1
  have hw := pW_le N
  intro d
  induction d with
  | zero =>
    intro j lf rs pl hj hlf h
    have ej : j = gt := by omega
    rw [wX8_plannedOdds_12]
    refine br_f (nI_nlt (by omega) (by omega)) (s_gR6 H W.x0 rfl rfl rfl (s_rcL H rfl (W.l12 (by omega)) (c_gtG H W (show j < yn Y 3 by omega) (s_cast H (show j < yn Y 3 by omega) rfl rfl (s_rc H W.x0 rfl rfl (C_hw R H W Q (by omega) ?_))))))
    rw [pW_e B]
    refine s_rc H W.x0 rfl rfl (C_leastOdds H W hw (by omega) (show j < yn Y 3 by omega) hlf hT ?_)
    show wX8_plannedOdds_12 κ (0 + 1) _ _ _ _ _ (nI j + 1) M
    rw [nI_1, wX8_plannedOdds_12]
    exact br_t (nI_lt (by omega) (by omega)) h
  | succ d ih =>
    intro j lf rs pl hj hlf h
    have hl := pO_le (w := pW N) (n := yn Y 3) (k := j) (lf := lf) (rs := rs)
    have b4 : pW N j * pO (pW N) (yn Y 3) j lf rs ≤ 2376 * 10 := Nat.mul_le_mul (hw j) (show pO (pW N) (yn Y 3) j lf rs ≤ 10 by omega)
    rw [wX8_plannedOdds_12]
    refine br_f (nI_nlt (by omega) (by omega)) (s_gR6 H W.x0 rfl rfl rfl (s_rcL H rfl (W.l12 (by omega)) (c_gtG H W (show j < yn Y 3 by omega) (s_cast H (show j < yn Y 3 by omega) rfl rfl (s_rc H W.x0 rfl rfl (C_hw R H W Q (by omega) ?_))))))
    rw [pW_e B]
    refine s_rc H W.x0 rfl rfl (C_leastOdds H W hw (by omega) (show j < yn Y 3 by omega) hlf hT ?_)
    show wX8_plannedOdds_12 κ (d + 2) (some (yA Y 0 0)) (nI gt) (rs - nI (pW N j) * nI (pO (pW N) (yn Y 3) j lf rs) / 10) (nI lf - nI (pO (pW N) (yn Y 3) j lf rs)) (nI (pO (pW N) (yn Y 3) j lf rs)) (nI j + 1) M
    rw [nI_1, pk_sub (by omega), pk_mul, show (10 : Int32) = nI 10 from rfl, pk_div (by omega) (by omega) (by omega)]
    exact ih (j + 1) (lf - pO (pW N) (yn Y 3) j lf rs) _ _ (by omega) (by omega) h
theorem C_plan {S : mS} {M : mM} (H : mR g Y S M) (W : mWs Y S) (Q : mWq Y S) (R : RC 99 N Y S) (B : nB N) {pr t : Int32} {κ : Int32 → mM → Prop} {ξ : String → mM → Prop} (h1 : (fPlan N pr t).1 = 1 → ξ "java/lang/IndexOutOfBoundsException" M) (h2 : (fPlan N pr t).1 = 2 → ξ "java/lang/IllegalArgumentException" M)
    (h : ∀ v N' Y' S' M', fPlan N pr t = (0, v, N') → cX g N' Y S Y' S' M' → κ v M') : wX8_plan κ ξ (some (yA Y 0 0)) pr t M := by
  have hb := W.2.1
  unfold fPlan at h1 h2 h
  rw [← R.1.1] at h1 h2 h
  have p11 : (t = -1 ∨ (¬ t < 0 ∧ t < nI (yn Y 3))) → wX8_plan_11 κ ξ (some (yA Y 0 0)) pr t M := fun hg => by
    rw [if_neg (fun w => w hg)] at h2 h
    refine c_range H (fun r1 r2 => ?_) (fun z => h2 (by rw [if_pos (fun w => z ⟨w.1, Int32.not_lt.mp w.2⟩)]))
    rw [if_neg (fun w => w ⟨r1, Int32.not_lt.mpr r2⟩)] at h
    obtain ⟨p, hp, ep⟩ := nI_rg (n := 2000) (by omega) r1 (show ¬ nI 2000 < pr from Int32.not_lt.mpr r2)
    subst ep
    refine s_rc H W.x0 rfl rfl (C_fmc H W Q R B (fun S1 M1 H1 W1 E1 hT => ?_))
    have Q1 : mWq Y S1 := Q.of (fun t => by rw [E1.2.2.2.2.1]) (fun s => by rw [E1.2.2.1]) (fun s => by rw [E1.1])
    have ok : ∀ v, v = vPlan N (nI p) t → κ v M1 := fun v ev => h v N Y S1 M1 (by rw [ev]) ⟨H1, W1, Q1, mFc.E E1, R.E E1⟩
    unfold vPlan at ok
    rw [tN_nI (by omega), ← R.1.1] at ok
    refine s_rc H1 W.x0 rfl rfl (C_leastSum H1 W1 (pW_le N) (by omega) hp hT ?_)
    by_cases z : pS (pW N) (yn Y 3) p = 81
    · rw [if_pos z]
      exact br_t rfl (ok _ (if_pos z).symm)
    · rw [if_neg z]
      have hs := (pFi_le (P := fun s => decide (p ≤ pR (pW N) (yn Y 3) (yn Y 3) s)) 81 0).2
      have hs' : pS (pW N) (yn Y 3) p < 81 := by
        have : pS (pW N) (yn Y 3) p ≤ 0 + 81 := hs
        omega
      refine br_f (fun w => absurd (nI_pos (n := pS (pW N) (yn Y 3) p) (by omega)) (fun q => q (by rw [w]; decide))) (br_c (fun w => ok _ (by rw [if_neg z, if_pos w])) (fun w => ?_))
      obtain ⟨j, hj0, ej⟩ := nI_of (hg.resolve_left w).1
      have hj : j < yn Y 3 := (nI_ltI (a := j) (b := yn Y 3) (by omega) (by omega)).mp (by rw [← ej]; exact (hg.resolve_left w).2)
      subst ej
      rw [tN_nI (by omega)] at ok
      exact s_rc H1 W.x0 rfl rfl ⟨j + 2, C_planned H1 W1 Q1 (R.E E1) B hj hT j 0 _ _ _ (by omega) hs' (ok _ (by rw [if_neg z, if_neg w]))⟩
  refine br_c (fun z => p11 (Or.inl z)) (fun z => s_rc H W.x0 rfl rfl (c_gateN H W (fun j hj e => p11 (Or.inr ?_)) (fun w => h1 (by rw [if_pos (fun q => q.elim z w)]))))
  rw [e]
  exact ⟨nI_pos (by omega), nI_lt hj (by omega)⟩
end SIM38
