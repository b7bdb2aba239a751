/-! THE PURE SIDE, 7: ways and plans of the class; what is asked of it -/
/-- all but the rows of ints is the same -/
def eqE (S' S : mS) : Prop := sI S' = sI S ∧ sJ S' = sJ S ∧ sX S' = sX S ∧ sN S' = sN S ∧ sL S' = sL S ∧ se S' = se S ∧ sC S' = sC S ∧ (∀ k, k ≠ 9 → sE S' k = sE S k) ∧ sP S' = sP S
theorem eqE.rf (S : mS) : eqE S S := ⟨rfl, rfl, rfl, rfl, rfl, rfl, rfl, fun _ _ => rfl, rfl⟩
theorem eqE.tr {S S' S'' : mS} (h : eqE S'' S') (h' : eqE S' S) : eqE S'' S := ⟨h.1.trans h'.1, h.2.1.trans h'.2.1, h.2.2.1.trans h'.2.2.1, h.2.2.2.1.trans h'.2.2.2.1, h.2.2.2.2.1.trans h'.2.2.2.2.1, h.2.2.2.2.2.1.trans h'.2.2.2.2.2.1, h.2.2.2.2.2.2.1.trans h'.2.2.2.2.2.2.1, fun k hk => (h.2.2.2.2.2.2.2.1 k hk).trans (h'.2.2.2.2.2.2.2.1 k hk), h.2.2.2.2.2.2.2.2.trans h'.2.2.2.2.2.2.2.2⟩
theorem eqE.uE {S : mS} {i j : Nat} {v : Int32} : eqE (uE S 9 i j v) S := ⟨rfl, rfl, rfl, rfl, rfl, rfl, rfl, fun k hk => funext fun i' => funext fun j' => if_neg (fun z => hk z.1), rfl⟩
theorem mWs.E {Y : mY} {S S' : mS} (h : mWs Y S) (e : eqE S' S) : mWs Y S' := h.of (fun i => by rw [e.1]) (fun i => by rw [e.1]) (fun i => by rw [e.1]) (fun i => by rw [e.1]) (fun i => by rw [e.2.2.2.2.1]) e.2.2.2.2.2.2.1 e.2.2.2.2.2.2.2.2
theorem nI_m1 (n : Nat) : nI n + (-1) = nI n - 1 := (Int32.sub_eq_add_neg _ _).symm
theorem mI_min (a b : Nat) (ha : a < 2 ^ 31) (hb : b < 2 ^ 31) : m_min (nI a) (nI b) = nI (min a b) := by
  unfold m_min
  by_cases h : b < a
  · rw [if_pos ((nI_ltI hb ha).mpr h), Nat.min_eq_right (by omega)]
  · rw [if_neg (fun z => h ((nI_ltI hb ha).mp z)), Nat.min_eq_left (by omega)]
section CASK
variable {g : Nat → Nat} {Y : mY}
theorem mWs.c9 {S : mS} (W : mWs Y S) {i : Nat} (hi : i < 9) : sC S 9 i = 81 := W.2.2.2.2.2.2.1 i hi
theorem mWs.c99 {S : mS} (W : mWs Y S) : sC S 9 9 = 6 := W.2.2.2.2.2.2.2
/-- a place of the row of arrivals -/
theorem c_arr {S : mS} {M : mM} (H : mR g Y S M) (W : mWs Y S) {a : Nat} (ha : a < 6) {κ : Int32 → Prop} (h : ∀ x, κ x) : m_ldI M (some (yA Y 9 9)) (nI a) 0 κ := s_ldI H (W.l9 (by omega)) rfl (by decide) rfl (by rw [W.c99]; exact ha) (by rw [W.c99]; omega) (h _)
theorem c_arrS {S : mS} {M : mM} (H : mR g Y S M) (W : mWs Y S) {a : Nat} (ha : a < 6) {v : Int32} {κ : mM → Prop} (h : ∀ M', mR g Y (uE S 9 9 a v) M' → κ M') : m_stI M (some (yA Y 9 9)) (nI a) v κ := s_stI H (W.l9 (by omega)) rfl rfl (by rw [W.c99]; exact ha) (by rw [W.c99]; omega) h
theorem c_cross {S : mS} {M : mM} (H : mR g Y S M) (W : mWs Y S) {a b : Nat} (ha : a < 6) (hb : b < 6) {t : Int32} {κ : mM → Prop} (h : ∀ S' M', mR g Y S' M' → eqE S' S → κ M') : wX8_cross κ (some (yA Y 0 0)) (nI a) (nI b) t M := by
  have h24 : wX8_cross_24 κ (some (yA Y 0 0)) (nI b) t M := br_t rfl (h S M H (eqE.rf S))
  refine s_gR6 H W.x0 rfl rfl rfl (c_arr H W ha (fun x => br_c (fun _ => h24) (fun _ => ?_)))
  refine s_gR6 H W.x0 rfl rfl rfl (c_arr H W ha (fun y => br_c (fun _ => h24) (fun _ => ?_)))
  refine br_f (by decide) (s_gR6 H W.x0 rfl rfl rfl (c_arr H W hb (fun z => br_c (fun _ => ?_) (fun _ => h S M H (eqE.rf S)))))
  exact s_gR6 H W.x0 rfl rfl rfl (c_arrS H W hb (fun M' H' => h _ M' H' eqE.uE))
theorem c_arr43 {S0 : mS} {κ : mM → Prop} {R35 : Option Nat → Int32 → mM → Prop} {b : Int32} (hR : ∀ S M, mR g Y S M → mWs Y S → eqE S S0 → R35 (some (yA Y 0 0)) (b + 1) M) : ∀ (d j : Nat) (S : mS) (M : mM), mR g Y S M → mWs Y S → eqE S S0 → j + d = yn Y 3 → wX8_findArrivals_43 κ R35 (d + 1) (some (yA Y 0 0)) b (nI j) M := by
  intro d
  induction d with
  | zero =>
    intro j S M H W E hj
    rw [wX8_findArrivals_43]
    exact c_hdG H W (by omega) (fun _ => hR S M H W E) (fun hlt => absurd hlt (by omega))
  | succ d ih =>
    intro j S M H W E hj
    have ih' : ∀ S M, mR g Y S M → mWs Y S → eqE S S0 → wX8_findArrivals_43 κ R35 (d + 1) (some (yA Y 0 0)) b (nI j + 1) M := fun S M H W E => by rw [nI_1]; exact ih (j + 1) S M H W E (by omega)
    rw [wX8_findArrivals_43]
    refine c_hdG H W (by omega) (fun z => absurd z (by omega)) (fun hlt => ?_)
    refine s_gI H W.x0 rfl rfl rfl (s_rc H hlt rfl rfl (c_isOpenAt H hlt (fun _ => br_f (by decide) ?_) (fun _ => br_t rfl (ih' S M H W E))))
    have l1 := H.lN (k := 3) (f := 1) (kt := 2) hlt rfl
    have l2 := H.lN (k := 3) (f := 2) (kt := 2) hlt rfl
    refine s_gR2 H hlt rfl rfl rfl (s_gI H l1 rfl rfl rfl (s_gR2 H hlt rfl rfl rfl (s_gI H l2 rfl rfl rfl (s_rc H W.x0 rfl rfl ?_))))
    rw [W.2.2.2.1.1 _ (W.l2' l1), W.2.2.2.1.1 _ (W.l2' l2)]
    refine c_cross H W (W.l2' l1) (W.l2' l2) (fun S1 M1 H1 E1 => ?_)
    have W1 := W.E E1
    refine s_gR2 H1 hlt rfl rfl rfl (s_gI H1 (by rw [E1.2.2.2.1]; exact l2) rfl rfl rfl (s_gR2 H1 hlt rfl rfl rfl (s_gI H1 (by rw [E1.2.2.2.1]; exact l1) rfl rfl rfl (s_rc H1 W.x0 rfl rfl ?_))))
    rw [E1.2.2.2.1, W1.2.2.2.1.1 _ (W.l2' l1), W1.2.2.2.1.1 _ (W.l2' l2)]
    exact c_cross H1 W1 (W.l2' l2) (W.l2' l1) (fun S2 M2 H2 E2 => ih' S2 M2 H2 (W1.E E2) (E2.tr (E1.tr E)))
theorem c_arr35 {S0 : mS} {κ : mM → Prop} (h : ∀ S M, mR g Y S M → mWs Y S → eqE S S0 → κ M) : ∀ (d j : Nat) (S : mS) (M : mM), mR g Y S M → mWs Y S → eqE S S0 → j + d = 72 → wX8_findArrivals_35 κ (d + 1) (some (yA Y 0 0)) (nI j) M := by
  intro d
  induction d with
  | zero =>
    intro j S M H W E hj
    rw [wX8_findArrivals_35]
    exact br_t (show (72 : Int32) ≤ nI j from nI_le (a := 72) (by omega) (by omega)) (h S M H W E)
  | succ d ih =>
    intro j S M H W E hj
    rw [wX8_findArrivals_35]
    refine br_f (show ¬ (72 : Int32) ≤ nI j from nI_ge (b := 72) (by omega) (by omega)) ⟨yn Y 3 + 1, c_arr43 (S0 := S0) (fun S M H W E => ?_) (yn Y 3) 0 S M H W E (by omega)⟩
    rw [nI_1]
    exact ih (j + 1) S M H W E (by omega)
theorem c_arr2 {S0 : mS} {l : Nat} (hl : l < 6) {κ : mM → Prop} (h : ∀ S M, mR g Y S M → mWs Y S → eqE S S0 → κ M) : ∀ (d j : Nat) (S : mS) (M : mM), mR g Y S M → mWs Y S → eqE S S0 → j + d = 6 → wX8_findArrivals_2 κ (d + 1) (some (yA Y 0 0)) (some (yA Y 2 l)) (nI j) M := by
  intro d
  induction d with
  | zero =>
    intro j S M H W E hj
    rw [wX8_findArrivals_2]
    exact br_t (show (6 : Int32) ≤ nI j from nI_le (a := 6) (by omega) (by omega)) ⟨73, c_arr35 h 72 0 S M H W E (by omega)⟩
  | succ d ih =>
    intro j S M H W E hj
    have hj6 : j < 6 := by omega
    have ih' : ∀ v, wX8_findArrivals_26 κ (wX8_findArrivals_2 κ (d + 1)) (some (yA Y 0 0)) (some (yA Y 2 l)) (nI j) v (nI j) (some (yA Y 9 9)) M := fun v => c_arrS H W hj6 (fun M' H' => by rw [nI_1]; exact ih (j + 1) _ M' H' W.uE (eqE.uE.tr E) (by omega))
    rw [wX8_findArrivals_2]
    exact br_f (show ¬ (6 : Int32) ≤ nI j from nI_ge (b := 6) (by omega) (by omega)) (s_gR6 H W.x0 rfl rfl rfl (s_gI H (W.l2 hl) rfl rfl rfl (br_c (fun _ => ih' _) (fun _ => ih' _))))
theorem c_way {S : mS} {M : mM} (H : mR g Y S M) (W : mWs Y S) {a b : Int32} {κ : Int32 → mM → Prop} {ξ : String → mM → Prop} (h : ∀ x S' M', mR g Y S' M' → eqE S' S → κ x M') (h0 : ¬ ((¬ a < 0 ∧ a < 6) ∧ (¬ b < 0 ∧ b < 6)) → ξ "java/lang/IndexOutOfBoundsException" M) : wX8_way κ ξ (some (yA Y 0 0)) a b M := by
  refine s_rc H W.x0 rfl rfl (c_landN H W (fun l hl _ => ?_) (fun z => h0 (fun q => z q.1)))
  refine s_rc H W.x0 rfl rfl (c_landN H W (fun l' hl' _ => ?_) (fun z => h0 (fun q => z q.2)))
  refine s_rc H W.x0 rfl rfl ⟨7, c_arr2 (S0 := S) hl (fun S1 M1 H1 W1 E1 => ?_) 6 0 S M H W (eqE.rf S) (by omega)⟩
  refine s_gR6 H1 W.x0 rfl rfl rfl (s_gI H1 (W.l2 hl') rfl rfl rfl ?_)
  rw [W1.2.2.2.1.1 _ hl']
  exact c_arr H1 W1 hl' (fun x => h x S1 M1 H1 E1)
/-- plans -/
theorem c_row {S : mS} {M : mM} (H : mR g Y S M) (W : mWs Y S) {i : Nat} (hi : i < 9) {κ : Option Nat → Prop} (h : κ (some (yA Y 9 i))) : m_ldR M (some (yA Y 8 0)) (nI i) 5 κ := by
  refine s_ldR H W.l8 rfl (by decide) rfl (by rw [W.2.2.2.2.2.1.1]; exact hi) (by rw [W.2.2.2.2.2.1.1]; omega) ?_
  rw [W.2.2.2.2.2.1.2 i hi]
  exact h
theorem c_rowL {S : mS} {M : mM} (H : mR g Y S M) (W : mWs Y S) {i j : Nat} (hi : i < 9) (hj : j < 81) {κ : Int32 → Prop} (h : ∀ x, κ x) : m_ldI M (some (yA Y 9 i)) (nI j) 0 κ := s_ldI H (W.l9 (by omega)) rfl (by decide) rfl (by rw [W.c9 hi]; exact hj) (by rw [W.c9 hi]; omega) (h _)
theorem c_rowS {S : mS} {M : mM} (H : mR g Y S M) (W : mWs Y S) {i j : Nat} (hi : i < 9) (hj : j < 81) {v : Int32} {κ : mM → Prop} (h : ∀ M', mR g Y (uE S 9 i j v) M' → κ M') : m_stI M (some (yA Y 9 i)) (nI j) v κ := s_stI H (W.l9 (by omega)) rfl rfl (by rw [W.c9 hi]; exact hj) (by rw [W.c9 hi]; omega) h
theorem c_rowN {S : mS} {M : mM} (H : mR g Y S M) (W : mWs Y S) {i : Nat} (hi : i < 9) {κ : Int32 → Prop} (h : κ (nI 81)) : m_len M (some (yA Y 9 i)) κ := s_lenI H (W.l9 (by omega)) (by decide) rfl (by rw [W.c9 hi]; exact h)
theorem c_mcf35 {S : mS} {M : mM} (H : mR g Y S M) (W : mWs Y S) {t sm L : Nat} (ht : t < 8) (hsm : sm < 81) (hL : L ≤ sm) {hid : Int32} {κ : Int32 → mM → Prop} (h : ∀ x, κ x M) : ∀ (d j : Nat) (a : Int32), j + d = L + 1 → 1 ≤ j → wX8_mostCaughtFrom_35 κ (d + 1) hid (nI sm) (some (yA Y 9 (t + 1))) a (nI L) (nI j) M := by
  intro d
  induction d with
  | zero =>
    intro j a hj h1
    rw [wX8_mostCaughtFrom_35]
    exact br_t (nI_lt (by omega) (by omega)) (h _)
  | succ d ih =>
    intro j a hj h1
    rw [wX8_mostCaughtFrom_35]
    refine br_f (nI_nlt (by omega) (by omega)) ?_
    rw [pk_sub (by omega)]
    refine c_rowL H W (by omega) (by omega) (fun x => ?_)
    show wX8_mostCaughtFrom_35 κ (d + 1) _ _ _ _ _ (nI j + 1) M
    rw [nI_1]
    exact ih (j + 1) _ (by omega) (by omega)
theorem c_mcf {S : mS} {M : mM} (H : mR g Y S M) (W : mWs Y S) {t sm : Nat} (ht : t < 8) (hsm : sm < 81) {hid : Int32} {κ : Int32 → mM → Prop} (h : ∀ x, κ x M) : wX8_mostCaughtFrom κ (some (yA Y 0 0)) (nI t) hid (nI sm) M := by
  refine s_gR6 H W.x0 rfl rfl rfl ?_
  rw [nI_1]
  refine c_row H W (by omega) (c_rowL H W (by omega) hsm (fun x => br_c (fun _ => ?_) (fun _ => ?_)))
  · exact ⟨0 + 1, c_mcf35 H W ht hsm (Nat.zero_le _) h 0 1 x (by omega) (by omega)⟩
  · rw [show m_min (nI sm) 10 = nI (min sm 10) from mI_min sm 10 (by omega) (by omega)]
    exact ⟨min sm 10 + 1, c_mcf35 H W ht hsm (Nat.min_le_left _ _) h (min sm 10) 1 x (by omega) (by omega)⟩
theorem c_fmc63 {S0 : mS} {κ : mM → Prop} {R40 : Option Nat → Int32 → mM → Prop} {t : Nat} (ht : t < 8) {hid : Int32} (hR : ∀ S M, mR g Y S M → mWs Y S → eqE S S0 → R40 (some (yA Y 0 0)) (nI t + (-1)) M) : ∀ (d j : Nat) (S : mS) (M : mM), mR g Y S M → mWs Y S → eqE S S0 → j + d = 81 → wX8_findMostCaught_63 κ R40 (d + 1) (some (yA Y 0 0)) (nI t) hid (nI j) M := by
  intro d
  induction d with
  | zero =>
    intro j S M H W E hj
    rw [wX8_findMostCaught_63]
    exact s_gR6 H W.x0 rfl rfl rfl (c_row H W (by omega) (c_rowN H W (by omega) (br_t (nI_le (by omega) (by omega)) (hR S M H W E))))
  | succ d ih =>
    intro j S M H W E hj
    rw [wX8_findMostCaught_63]
    refine s_gR6 H W.x0 rfl rfl rfl (c_row H W (by omega) (c_rowN H W (by omega) (br_f (nI_ge (by omega) (by omega)) ?_)))
    refine s_gR6 H W.x0 rfl rfl rfl (c_row H W (by omega) (s_rc H W.x0 rfl rfl (c_mcf H W ht (by omega) (fun x => c_rowS H W (by omega) (by omega) (fun M' H' => ?_)))))
    rw [nI_1]
    exact ih (j + 1) _ M' H' W.uE (eqE.uE.tr E) (by omega)
theorem c_fmc40 {S0 : mS} {κ : mM → Prop} (h : ∀ S M, mR g Y S M → mWs Y S → eqE S S0 → κ M) : ∀ (d : Nat) (S : mS) (M : mM), mR g Y S M → mWs Y S → eqE S S0 → d ≤ yn Y 3 → wX8_findMostCaught_40 κ (d + 1) (some (yA Y 0 0)) (nI d - 1) M := by
  intro d
  induction d with
  | zero =>
    intro S M H W E hd
    rw [wX8_findMostCaught_40]
    exact br_t (by decide) (h S M H W E)
  | succ d ih =>
    intro S M H W E hd
    have hb := W.2.1
    rw [wX8_findMostCaught_40, nI_pred]
    refine br_f (nI_pos (by omega)) (s_gR6 H W.x0 rfl rfl rfl (s_rcL H rfl (W.l12 (by omega)) (c_gtG H W (by omega) (s_cast H (show d < yn Y 3 by omega) rfl rfl (s_rc H W.x0 rfl rfl (c_hidWorth H W (by omega) (fun x => ⟨82, c_fmc63 (S0 := S0) (by omega) (fun S M H W E => ?_) 81 0 S M H W E (by omega)⟩)))))))
    rw [nI_m1]
    exact ih S M H W E (by omega)
theorem c_fmc10 {S0 : mS} {κ : mM → Prop} (h : ∀ S M, mR g Y S M → mWs Y S → eqE S S0 → κ M) : ∀ (d j : Nat) (S : mS) (M : mM), mR g Y S M → mWs Y S → eqE S S0 → j + d = 81 → wX8_findMostCaught_10 κ (d + 1) (some (yA Y 0 0)) (nI (yn Y 3)) (nI j) M := by
  intro d
  induction d with
  | zero =>
    intro j S M H W E hj
    have hb := W.2.1
    rw [wX8_findMostCaught_10]
    exact s_gR6 H W.x0 rfl rfl rfl (c_row H W (by omega) (c_rowN H W (by omega) (br_t (nI_le (by omega) (by omega)) ⟨yn Y 3 + 1, c_fmc40 h (yn Y 3) S M H W E (Nat.le_refl _)⟩)))
  | succ d ih =>
    intro j S M H W E hj
    have hb := W.2.1
    rw [wX8_findMostCaught_10]
    refine s_gR6 H W.x0 rfl rfl rfl (c_row H W (by omega) (c_rowN H W (by omega) (br_f (nI_ge (by omega) (by omega)) ?_)))
    refine s_gR6 H W.x0 rfl rfl rfl (c_row H W (by omega) (c_rowS H W (by omega) (by omega) (fun M' H' => ?_)))
    rw [nI_1]
    exact ih (j + 1) _ M' H' W.uE (eqE.uE.tr E) (by omega)
theorem c_fmc {S : mS} {M : mM} (H : mR g Y S M) (W : mWs Y S) {κ : mM → Prop} (h : ∀ S' M', mR g Y S' M' → eqE S' S → κ M') : wX8_findMostCaught κ (some (yA Y 0 0)) M := s_gR6 H W.x0 rfl rfl rfl (s_rcL H rfl (W.l12 (by omega)) (c_szG H W ⟨82, c_fmc10 (S0 := S) (fun S' M' H' _ E' => h S' M' H' E') 81 0 S M H W (eqE.rf S) (by omega)⟩))
theorem c_leastSum_l {S : mS} {M : mM} (H : mR g Y S M) (W : mWs Y S) {pr : Int32} {κ : Int32 → mM → Prop} (h1 : ∀ v, v < 81 → κ (nI v) M) (h0 : κ (-1) M) : ∀ (d j : Nat), j + d = 81 → wX8_leastSum_9 κ (d + 1) pr (some (yA Y 9 0)) (nI j) M := by
  intro d
  induction d with
  | zero =>
    intro j hj
    rw [wX8_leastSum_9]
    exact c_rowN H W (by omega) (br_t (nI_le (by omega) (by omega)) h0)
  | succ d ih =>
    intro j hj
    rw [wX8_leastSum_9]
    refine c_rowN H W (by omega) (br_f (nI_ge (by omega) (by omega)) (c_rowL H W (by omega) (by omega) (fun x => br_c (fun _ => ?_) (fun _ => h1 j (by omega)))))
    rw [nI_1]
    exact ih (j + 1) (by omega)
theorem c_leastSum {S : mS} {M : mM} (H : mR g Y S M) (W : mWs Y S) {pr : Int32} {κ : Int32 → mM → Prop} (h1 : ∀ v, v < 81 → κ (nI v) M) (h0 : κ (-1) M) : wX8_leastSum κ (some (yA Y 0 0)) pr M := s_gR6 H W.x0 rfl rfl rfl (show m_ldR M (some (yA Y 8 0)) (nI 0) 5 _ from c_row H W (by omega) ⟨82, c_leastSum_l H W h1 h0 81 0 (by omega)⟩)
theorem c_leastOdds_l {S : mS} {M : mM} (H : mR g Y S M) (W : mWs Y S) {t lf L : Nat} (ht : t < 8) (hlf : lf < 81) (hL : L ≤ lf) {hid ow : Int32} {κ : Int32 → mM → Prop} (h : ∀ o, o ≤ lf → κ (nI o) M) : ∀ (d j : Nat), j + d = L → wX8_leastOdds_12 κ (d + 1) (some (yA Y 0 0)) (nI t) hid ow (nI lf) (nI L) (nI j) M := by
  intro d
  induction d with
  | zero =>
    intro j hj
    rw [wX8_leastOdds_12]
    exact br_t (nI_le (by omega) (by omega)) (h L hL)
  | succ d ih =>
    intro j hj
    rw [wX8_leastOdds_12]
    refine br_f (nI_ge (by omega) (by omega)) (s_gR6 H W.x0 rfl rfl rfl ?_)
    rw [nI_1, pk_sub (by omega)]
    refine c_row H W (by omega) (c_rowL H W (by omega) (by omega) (fun x => br_c (fun _ => ?_) (fun _ => h j (by omega))))
    rw [nI_1]
    exact ih (j + 1) (by omega)
theorem c_leastOdds {S : mS} {M : mM} (H : mR g Y S M) (W : mWs Y S) {t lf : Nat} (ht : t < 8) (hlf : lf < 81) {hid ow : Int32} {κ : Int32 → mM → Prop} (h : ∀ o, o ≤ lf → κ (nI o) M) : wX8_leastOdds κ (some (yA Y 0 0)) (nI t) hid ow (nI lf) M := by
  unfold wX8_leastOdds
  rw [show m_min (nI lf) 10 = nI (min lf 10) from mI_min lf 10 (by omega) (by omega)]
  exact ⟨min lf 10 + 1, c_leastOdds_l H W ht hlf (Nat.min_le_left _ _) h (min lf 10) 0 (by omega)⟩
theorem c_planned_l {S : mS} {M : mM} (H : mR g Y S M) (W : mWs Y S) {t : Nat} (ht : t < yn Y 3) {κ : Int32 → mM → Prop} (h : ∀ x, κ x M) : ∀ (d j lf : Nat) (ow pl : Int32), j + d = t + 1 → lf < 81 → wX8_plannedOdds_12 κ (d + 1) (some (yA Y 0 0)) (nI t) ow (nI lf) pl (nI j) M := by
  have hb := W.2.1
  intro d
  induction d with
  | zero =>
    intro j lf ow pl hj hlf
    rw [wX8_plannedOdds_12]
    exact br_t (nI_lt (by omega) (by omega)) (h _)
  | succ d ih =>
    intro j lf ow pl hj hlf
    rw [wX8_plannedOdds_12]
    refine br_f (nI_nlt (by omega) (by omega)) (s_gR6 H W.x0 rfl rfl rfl (s_rcL H rfl (W.l12 (by omega)) (c_gtG H W (show j < yn Y 3 by omega) (s_cast H (show j < yn Y 3 by omega) rfl rfl (s_rc H W.x0 rfl rfl (c_hidWorth H W (by omega) (fun x => s_rc H W.x0 rfl rfl (c_leastOdds H W (by omega) hlf (fun o ho => ?_)))))))))
    show wX8_plannedOdds_12 κ (d + 1) _ _ _ (nI lf - nI o) _ (nI j + 1) M
    rw [nI_1, pk_sub ho]
    exact ih (j + 1) (lf - o) _ _ (by omega) (by omega)
theorem c_plan11 {S : mS} {M : mM} (H : mR g Y S M) (W : mWs Y S) {pr t : Int32} (ht : t = -1 ∨ ∃ j, j < yn Y 3 ∧ t = nI j) {κ : Int32 → mM → Prop} {ξ : String → mM → Prop} (h : ∀ x S' M', mR g Y S' M' → eqE S' S → κ x M') (h0 : ¬ (¬ pr < 0 ∧ pr ≤ 2000) → ξ "java/lang/IllegalArgumentException" M) : wX8_plan_11 κ ξ (some (yA Y 0 0)) pr t M := by
  have hb := W.2.1
  refine c_range H (fun _ _ => s_rc H W.x0 rfl rfl (c_fmc H W (fun S1 M1 H1 E1 => ?_))) h0
  have W1 := W.E E1
  refine s_rc H1 W.x0 rfl rfl (c_leastSum H1 W1 (fun v hv => br_c (fun _ => h _ S1 M1 H1 E1) (fun _ => br_c (fun _ => h _ S1 M1 H1 E1) (fun z => ?_))) (br_t rfl (h _ S1 M1 H1 E1)))
  rcases ht with rfl | ⟨j, hj, rfl⟩
  · exact absurd rfl z
  · exact s_rc H1 W.x0 rfl rfl ⟨j + 1 + 1, c_planned_l H1 W1 hj (fun x => h x S1 M1 H1 E1) (j + 1) 0 v _ _ (by omega) hv⟩
theorem c_plan {S : mS} {M : mM} (H : mR g Y S M) (W : mWs Y S) {pr t : Int32} {κ : Int32 → mM → Prop} {ξ : String → mM → Prop} (h : ∀ x S' M', mR g Y S' M' → eqE S' S → κ x M') (hI : ¬ (t = -1 ∨ (¬ t < 0 ∧ t < nI (yn Y 3))) → ξ "java/lang/IndexOutOfBoundsException" M) (hA : (t = -1 ∨ (¬ t < 0 ∧ t < nI (yn Y 3))) → ¬ (¬ pr < 0 ∧ pr ≤ 2000) → ξ "java/lang/IllegalArgumentException" M) : wX8_plan κ ξ (some (yA Y 0 0)) pr t M := by
  have hb := W.2.1
  refine br_c (fun z => c_plan11 H W (Or.inl z) h (hA (Or.inl z))) (fun z => s_rc H W.x0 rfl rfl (c_gateN H W (fun j hj e => ?_) (fun w => hI (fun q => q.elim z w))))
  exact c_plan11 H W (Or.inr ⟨j, hj, e⟩) h (hA (Or.inr (by rw [e]; exact ⟨nI_pos (by omega), nI_lt hj (by omega)⟩)))

theorem c_ofLand {S : mS} {M : mM} (H : mR g Y S M) (W : mWs Y S) {a b : Int32} {κ : Int32 → mM → Prop} {ξ : String → mM → Prop} (h : ∀ x, κ x M) (hI : ¬ (¬ a < 0 ∧ a < 6) → ξ "java/lang/IndexOutOfBoundsException" M) (hA : ¬ b = 0 ∧ ¬ b = 1 ∧ ¬ b = 2 ∧ ¬ b = 3 ∧ ¬ b = 4 ∧ ¬ b = 5 ∧ ¬ b = 6 ∧ ¬ b = 7 ∧ ¬ b = 8 → ξ "java/lang/IllegalArgumentException" M) : wX8_ofLand κ ξ (some (yA Y 0 0)) a b M := by
  refine s_rc H W.x0 rfl rfl (c_landN H W (fun l hl6 _ => ?_) hI)
  have hl := W.l2 hl6
  exact br_c (fun _ => s_gI H hl rfl rfl rfl (h _)) (fun q0 => br_c (fun _ => s_gI H hl rfl rfl rfl (h _)) (fun q1 => br_c (fun _ => s_gI H hl rfl rfl rfl (h _)) (fun q2 => br_c (fun _ => s_gI H hl rfl rfl rfl (h _)) (fun q3 => br_c (fun _ => s_gI H hl rfl rfl rfl (h _)) (fun q4 => br_c (fun _ => s_gI H hl rfl rfl rfl (h _)) (fun q5 => br_c (fun _ => s_rc H W.x0 rfl rfl (c_inStore H W hl h)) (fun q6 => br_c (fun _ => s_rc H W.x0 rfl rfl (c_sleepersIn H W hl h)) (fun q7 => br_c (fun _ => s_rc H W.x0 rfl rfl (c_whole H W hl h)) (fun q8 => hA ⟨q0, q1, q2, q3, q4, q5, q6, q7, q8⟩)))))))))
theorem c_first {S : mS} {M : mM} (H : mR g Y S M) (W : mWs Y S) {t : Nat} (ht : t < yn Y 3) (hn : sL S 13 t ≠ []) {κ : Option Nat → mM → Prop} (h : ∀ s, s < yn Y 4 → (sL S 13 t)[0]? = some s → κ (some (yA Y 4 s)) M) : wJx4a65c_get_915e3 κ (some (yA Y 13 t)) 0 M := by
  have hl : 0 < (sL S 13 t).length := List.length_pos_iff.mpr hn
  have hx : (sL S 13 t)[0]? = some ((sL S 13 t)[0]) := List.getElem?_eq_getElem hl
  exact s_get (j := 0) H rfl (W.l13 ht) hx (h _ (H.lL rfl (W.l13 ht) hx) hx)
theorem c_ofGate {S : mS} {M : mM} (H : mR g Y S M) (W : mWs Y S) {a b : Int32} {κ : Int32 → mM → Prop} {ξ : String → mM → Prop} (h : ∀ x, κ x M) (hI : ¬ (¬ a < 0 ∧ a < nI (yn Y 3)) → ξ "java/lang/IndexOutOfBoundsException" M) (hA : ¬ b = 0 ∧ ¬ b = 1 ∧ ¬ b = 2 ∧ ¬ b = 3 ∧ ¬ b = 4 ∧ ¬ b = 5 ∧ ¬ b = 6 ∧ ¬ b = 7 ∧ ¬ b = 8 ∧ ¬ b = 9 → ξ "java/lang/IllegalArgumentException" M) : wX8_ofGate κ ξ (some (yA Y 0 0)) a b M := by
  refine s_rc H W.x0 rfl rfl (c_gateN H W (fun t ht _ => ?_) hI)
  exact br_c (fun _ => s_gR2 H ht rfl rfl rfl (s_gI H (H.lN (k := 3) (f := 1) (kt := 2) ht rfl) rfl rfl rfl (h _))) (fun q0 => br_c (fun _ => s_gR2 H ht rfl rfl rfl (s_gI H (H.lN (k := 3) (f := 2) (kt := 2) ht rfl) rfl rfl rfl (h _))) (fun q1 => br_c (fun _ => s_gI H W.x0 rfl rfl rfl (s_rc H ht rfl rfl (c_isOpenAt H ht (fun _ => br_f (by decide) (h _)) (fun _ => br_t rfl (h _))))) (fun q2 => br_c (fun _ => s_gI H ht rfl rfl rfl (h _)) (fun q3 => br_c (fun _ => s_gI H ht rfl rfl rfl (h _)) (fun q4 => br_c (fun _ => s_rc H ht rfl rfl (c_dozes H ht (fun _ => br_f (by decide) (h _)) (fun _ => br_t rfl (h _)))) (fun q5 => br_c (fun _ => s_gR7 H ht rfl rfl rfl (s_rcL H rfl (W.l13 ht) (s_size H rfl (W.l13 ht) (h _)))) (fun q6 => br_c (fun _ => s_gR7 H ht rfl rfl rfl (s_rcL H rfl (W.l13 ht) (s_isEmpty H rfl (W.l13 ht) (fun _ => br_f (by decide) (h _)) (fun z => br_t rfl (s_gR7 H ht rfl rfl rfl (s_rcL H rfl (W.l13 ht) (c_first H W ht z (fun s hs _ => s_cast H hs rfl rfl (s_gI H hs rfl rfl rfl (h _)))))))))) (fun q7 => br_c (fun _ => s_rc H W.x0 rfl rfl (c_hidWorth H W ht h)) (fun q8 => br_c (fun _ => s_gR7 H ht rfl rfl rfl (s_rc H (W.l10 ht) rfl rfl (c_vsize H (W.l10 ht) h))) (fun q9 => hA ⟨q0, q1, q2, q3, q4, q5, q6, q7, q8, q9⟩))))))))))
theorem c_nul {S : mS} {M : mM} (H : mR g Y S M) {k i f ci kt f2 c2 : Nat} (hi : i < yn Y k) (h1 : m_ak k = 99) (h2 : m_cls k = ci) (h3 : (m_fds k)[f]? = some (3, kt, 0)) (g1 : m_ak kt = 99) (g2 : m_cls kt = c2) (g3 : (m_fds kt)[f2]? = some (0, 0, 0)) {κ : Int32 → mM → Prop} (h : ∀ x, κ x M) : m_gR M (some (yA Y k i)) ci f fun x => ((x = none → κ (-1) M) ∧ (¬ (x = none) → m_gR M (some (yA Y k i)) ci f fun x14 => m_gI M x14 c2 f2 fun x15 => κ x15 M)) := by
  refine s_gR3 H hi h1 h2 h3 ?_
  cases hx : sX S k i f with
  | none => exact br_t rfl (h _)
  | some j =>
    refine br_f (fun z => by cases z) (s_gR3 H hi h1 h2 h3 ?_)
    rw [hx]
    exact s_gI H (H.lX hi h3 j hx) g1 g2 g3 (h _)
theorem c_ofSleeper {S : mS} {M : mM} (H : mR g Y S M) (W : mWs Y S) {a b : Int32} {κ : Int32 → mM → Prop} {ξ : String → mM → Prop} (h : ∀ x, κ x M) (hI : ¬ (¬ a < 0 ∧ a < nI (yn Y 4)) → ξ "java/lang/IndexOutOfBoundsException" M) (hA : ¬ b = 0 ∧ ¬ b = 1 ∧ ¬ b = 2 ∧ ¬ b = 3 ∧ ¬ b = 4 ∧ ¬ b = 5 ∧ ¬ b = 6 ∧ ¬ b = 7 ∧ ¬ b = 8 → ξ "java/lang/IllegalArgumentException" M) : wX8_ofSleeper κ ξ (some (yA Y 0 0)) a b M := by
  refine s_rc H W.x0 rfl rfl (c_sleeperN H W (fun s hs _ => ?_) hI)
  exact br_c (fun _ => s_gR2 H hs rfl rfl rfl (s_gI H (H.lN (k := 4) (f := 2) (kt := 2) hs rfl) rfl rfl rfl (h _))) (fun q0 => br_c (fun _ => s_gI H hs rfl rfl rfl (h _)) (fun q1 => br_c (fun _ => s_gI H hs rfl rfl rfl (h _)) (fun q2 => br_c (fun _ => c_nul (f := 5) (ci := 11) (kt := 3) (f2 := 0) (c2 := 5) H hs rfl rfl rfl rfl rfl rfl h) (fun q3 => br_c (fun _ => c_placeOf H W hs (fun _ _ _ _ _ => h _) (fun _ => h _)) (fun q4 => br_c (fun _ => s_rc H W.x0 rfl rfl (c_headOf H W hs h)) (fun q5 => br_c (fun _ => c_nul (f := 7) (ci := 11) (kt := 16) (f2 := 2) (c2 := 9) H hs rfl rfl rfl rfl rfl rfl h) (fun q6 => br_c (fun _ => s_rc H W.x0 rfl rfl (c_ring H W hs h)) (fun q7 => br_c (fun _ => s_rc H W.x0 rfl rfl (c_hidingsOf H W hs h)) (fun q8 => hA ⟨q0, q1, q2, q3, q4, q5, q6, q7, q8⟩)))))))))
theorem c_ofP4 {S : mS} {M : mM} (H : mR g Y S M) {p : Nat} (hp : p < yn Y 5) {κ : Int32 → mM → Prop} (h : ∀ x, κ x M) : m_rc M (some (yA Y 5 p)) 8 fun b15 => wX3_whereabouts (fun x13 M14 => ((x13 = none → κ (-1) M14) ∧ (¬ (x13 = none) → m_rc M14 (some (yA Y 5 p)) 8 fun b19 => wX3_whereabouts (fun x17 M18 => m_gI M18 x17 7 0 fun x20 => κ x20 M18) (some b19) M14))) (some b15) M := by
  refine s_rc H hp rfl rfl (c_whereabouts H hp ?_)
  cases hx : cWh S p with
  | none => exact br_t rfl (h _)
  | some l =>
    refine br_f (fun z => by cases z) (s_rc H hp rfl rfl (c_whereabouts H hp ?_))
    rw [hx]
    exact s_gI H (cWh_l H hp l hx) rfl rfl rfl (h _)
theorem c_ofPart {S : mS} {M : mM} (H : mR g Y S M) (W : mWs Y S) {a b : Int32} {κ : Int32 → mM → Prop} {ξ : String → mM → Prop} (h : ∀ x, κ x M) (hI : ¬ (¬ a < 0 ∧ a < nI (yn Y 5)) → ξ "java/lang/IndexOutOfBoundsException" M) (hA : ¬ b = 0 ∧ ¬ b = 1 ∧ ¬ b = 2 ∧ ¬ b = 3 ∧ ¬ b = 4 ∧ ¬ b = 5 → ξ "java/lang/IllegalArgumentException" M) : wX8_ofPart κ ξ (some (yA Y 0 0)) a b M := by
  refine s_rc H W.x0 rfl rfl (c_partN H W (fun p hp _ => ?_) hI)
  exact br_c (fun _ => s_gI H hp rfl rfl rfl (h _)) (fun q0 => br_c (fun _ => s_gI H hp rfl rfl rfl (h _)) (fun q1 => br_c (fun _ => s_gI H hp rfl rfl rfl (h _)) (fun q2 => br_c (fun _ => s_gI H hp rfl rfl rfl (h _)) (fun q3 => br_c (fun _ => c_ofP4 H hp h) (fun q4 => br_c (fun _ => c_nul (f := 5) (ci := 8) (kt := 4) (f2 := 0) (c2 := 11) H hp rfl rfl rfl rfl rfl rfl h) (fun q5 => hA ⟨q0, q1, q2, q3, q4, q5⟩))))))
theorem c_isGood {S : mS} {M : mM} (H : mR g Y S M) (W : mWs Y S) {a b : Int32} {κ : Int32 → mM → Prop} {ξ : String → mM → Prop} (h1 : κ 1 M) (h0 : κ 0 M) (hI : ¬ ((¬ a < 0 ∧ a < nI (yn Y 4)) ∧ (¬ b < 0 ∧ b < nI (yn Y 3))) → ξ "java/lang/IndexOutOfBoundsException" M) : wX8_isGood κ ξ (some (yA Y 0 0)) a b M :=
  s_rc H W.x0 rfl rfl (c_sleeperN H W (fun s hs _ => s_rc H W.x0 rfl rfl (c_gateN H W (fun t ht _ => s_rc H W.x0 rfl rfl (c_good H W hs ht ⟨Or.inr rfl, h1⟩ ⟨Or.inl rfl, h0⟩)) (fun z => hI (fun q => z q.2)))) (fun z => hI (fun q => z q.1)))
theorem c_night {S : mS} {M : mM} (H : mR g Y S M) (W : mWs Y S) {b : Int32} {κ : Int32 → mM → Prop} {ξ : String → mM → Prop} (h : ∀ x, κ x M) (hA : ¬ b = 0 ∧ ¬ b = 1 ∧ ¬ b = 2 ∧ ¬ b = 3 ∧ ¬ b = 4 ∧ ¬ b = 5 ∧ ¬ b = 6 ∧ ¬ b = 7 ∧ ¬ b = 8 ∧ ¬ b = 9 ∧ ¬ b = 10 ∧ ¬ b = 11 ∧ ¬ b = 12 ∧ ¬ b = 13 ∧ ¬ b = 14 ∧ ¬ b = 15 ∧ ¬ b = 16 → ξ "java/lang/IllegalArgumentException" M) : wX8_night κ ξ (some (yA Y 0 0)) b M :=
  br_c (fun _ => s_gI H W.x0 rfl rfl rfl (h _)) (fun q0 => br_c (fun _ => s_gI H W.x0 rfl rfl rfl (h _)) (fun q1 => br_c (fun _ => s_gR6 H W.x0 rfl rfl rfl (s_rcL H rfl (W.l12 (by omega)) (c_szG H W (h _)))) (fun q2 => br_c (fun _ => s_gR6 H W.x0 rfl rfl rfl (s_rcL H rfl (W.l12 (by omega)) (c_szS H W (h _)))) (fun q3 => br_c (fun _ => s_rc H W.x0 rfl rfl (c_awake H W h)) (fun q4 => br_c (fun _ => s_gR6 H W.x0 rfl rfl rfl (s_rcL H rfl (W.l12 (by omega)) (c_szP H W (h _)))) (fun q5 => br_c (fun _ => s_rc H W.x0 rfl rfl (c_ofFate H W h)) (fun q6 => br_c (fun _ => s_rc H W.x0 rfl rfl (c_ofFate H W h)) (fun q7 => br_c (fun _ => s_rc H W.x0 rfl rfl (c_ofFate H W h)) (fun q8 => br_c (fun _ => s_rc H W.x0 rfl rfl (c_ofFate H W h)) (fun q9 => br_c (fun _ => s_rc H W.x0 rfl rfl (c_ofFate H W h)) (fun q10 => br_c (fun _ => s_rc H W.x0 rfl rfl (c_gone H W h)) (fun q11 => br_c (fun _ => s_gR6 H W.x0 rfl rfl rfl (s_rcL H rfl (W.l12 (by omega)) (c_szH H W (h _)))) (fun q12 => br_c (fun _ => s_gR6 H W.x0 rfl rfl rfl (s_gI H W.l7 rfl rfl rfl (h _))) (fun q13 => br_c (fun _ => s_gI H W.x0 rfl rfl rfl (h _)) (fun q14 => br_c (fun _ => s_rc H W.x0 rfl rfl (c_duties H W h)) (fun q15 => br_c (fun _ => s_rc H W.x0 rfl rfl (c_fines H W h)) (fun q16 => hA ⟨q0, q1, q2, q3, q4, q5, q6, q7, q8, q9, q10, q11, q12, q13, q14, q15, q16⟩)))))))))))))))))
theorem c_wouldPay {S : mS} {M : mM} (H : mR g Y S M) (W : mWs Y S) {a : Int32} {κ : Int32 → mM → Prop} {ξ : String → mM → Prop} (h : ∀ x, κ x M) (hI : ¬ (¬ a < 0 ∧ a < nI (yn Y 3)) → ξ "java/lang/IndexOutOfBoundsException" M) : wX8_wouldPay κ ξ (some (yA Y 0 0)) a M := by
  refine s_rc H W.x0 rfl rfl (c_gateN H W (fun t ht _ => ?_) hI)
  refine s_gR7 H ht rfl rfl rfl (s_rcL H rfl (W.l13 ht) (s_isEmpty H rfl (W.l13 ht) (fun _ => br_f (by decide) (h _)) (fun z => br_t rfl ?_)))
  refine s_gR7 H ht rfl rfl rfl (s_rcL H rfl (W.l13 ht) (c_first H W ht z (fun s hs _ => s_cast H hs rfl rfl (s_rc H W.x0 rfl rfl (c_good H W hs ht (br_f (by decide) ?_) (br_t rfl (h _)))))))
  have hsl := H.lN (k := 4) (f := 2) (kt := 2) hs rfl
  refine s_gR2 H hs rfl rfl rfl (s_rc H ht rfl rfl (c_across H ht hsl ?_))
  have hl := c_acr_l H ht (l := sN S 4 s 2)
  exact s_rc H W.x0 rfl rfl (c_comeIn H W hs hl (fun x => s_rc H W.x0 rfl rfl (c_worthOf H W (fun y => s_rc H hl rfl rfl (c_dutyOn H hl (h _))))))
/-- soundness -/
theorem c_ss85 {S : mS} {M : mM} (H : mR g Y S M) (W : mWs Y S) {s : Nat} (hs : s < yn Y 4) {a b : Int32} {κ : Int32 → mM → Prop} (h1 : κ 1 M) (h0 : κ 0 M) : wX8_sleeperIsSound_85 κ (some (yA Y 0 0)) (some (yA Y 4 s)) a b M :=
  br_c (fun _ => s_gI H hs rfl rfl rfl (br_c (fun _ => h0) (fun _ => s_gI H hs rfl rfl rfl (br_c (fun _ => s_gI H hs rfl rfl rfl (br_c (fun _ => s_rc H W.x0 rfl rfl (c_headOf H W hs (fun x => br_c (fun _ => h1) (fun _ => h0)))) (fun _ => h1))) (fun _ => h0))))) (fun _ => h0)
theorem c_ss4 {S : mS} {M : mM} (H : mR g Y S M) (W : mWs Y S) {s : Nat} (hs : s < yn Y 4) {κ : Int32 → mM → Prop} (h1 : κ 1 M) (h0 : κ 0 M) : ∀ (d j : Nat) (a : Int32), j + d = yn Y 3 → wX8_sleeperIsSound_4 κ (d + 1) (some (yA Y 0 0)) (some (yA Y 4 s)) a (nI j) M := by
  intro d
  induction d with
  | zero =>
    intro j a hj
    rw [wX8_sleeperIsSound_4]
    exact c_hdG H W (by omega) (fun _ => s_gI H hs rfl rfl rfl (br_c (fun _ => c_ss85 H W hs h1 h0) (fun _ => c_ss85 H W hs h1 h0))) (fun hlt => absurd hlt (by omega))
  | succ d ih =>
    intro j a hj
    have ih' : ∀ a b : Int32, wX8_sleeperIsSound_60 κ (wX8_sleeperIsSound_4 κ (d + 1)) (some (yA Y 0 0)) (some (yA Y 4 s)) a (nI j) b M := fun a b => by
      unfold wX8_sleeperIsSound_60
      rw [nI_1]
      exact ih (j + 1) _ (by omega)
    rw [wX8_sleeperIsSound_4]
    refine c_hdG H W (by omega) (fun z => absurd z (by omega)) (fun hlt => ?_)
    refine s_rc H hlt rfl rfl (c_times H W hlt (fun x => br_c (fun _ => ih' _ _) (fun _ => ?_)))
    refine s_gR6 H W.x0 rfl rfl rfl (s_rcL H rfl (W.l12 (by omega)) (c_gtG H W hlt (s_cast H hlt rfl rfl ?_)))
    exact s_gR2 H hs rfl rfl rfl (s_rc H hlt rfl rfl (c_isAt H hlt (H.lN (k := 4) (f := 2) (kt := 2) hs rfl) (fun _ => br_f (by decide) (ih' _ _)) (fun _ => br_t rfl h0)))
theorem c_is64 {S : mS} {M : mM} (H : mR g Y S M) (W : mWs Y S) {κ : Int32 → mM → Prop} (h1 : κ 1 M) (h0 : κ 0 M) : ∀ (d j : Nat), j + d = yn Y 3 → wX8_isSound_64 κ (d + 1) (some (yA Y 0 0)) (nI j) M := by
  intro d
  induction d with
  | zero =>
    intro j hj
    rw [wX8_isSound_64]
    exact c_hdG H W (by omega) (fun _ => h1) (fun hlt => absurd hlt (by omega))
  | succ d ih =>
    intro j hj
    rw [wX8_isSound_64]
    refine c_hdG H W (by omega) (fun z => absurd z (by omega)) (fun hlt => ?_)
    refine s_rc H hlt rfl rfl (c_ahead H W hlt (br_f (by decide) ?_) (br_t rfl h0))
    rw [nI_1]
    exact ih (j + 1) (by omega)
theorem c_is25 {S : mS} {M : mM} (H : mR g Y S M) (W : mWs Y S) {κ : Int32 → mM → Prop} (h1 : κ 1 M) (h0 : κ 0 M) : ∀ (d j : Nat), j + d = yn Y 4 → wX8_isSound_25 κ (d + 1) (some (yA Y 0 0)) (nI j) M := by
  intro d
  induction d with
  | zero =>
    intro j hj
    rw [wX8_isSound_25]
    exact c_hdS H W (by omega) (fun _ => ⟨yn Y 3 + 1, c_is64 H W h1 h0 (yn Y 3) 0 (by omega)⟩) (fun hlt => absurd hlt (by omega))
  | succ d ih =>
    intro j hj
    rw [wX8_isSound_25]
    refine c_hdS H W (by omega) (fun z => absurd z (by omega)) (fun hlt => ?_)
    refine s_rc H W.x0 rfl rfl ⟨yn Y 3 + 1, c_ss4 H W hlt (br_f (by decide) ?_) (br_t rfl h0) (yn Y 3) 0 0 (by omega)⟩
    rw [nI_1]
    exact ih (j + 1) (by omega)
theorem c_isSound {S : mS} {M : mM} (H : mR g Y S M) (W : mWs Y S) {κ : Int32 → mM → Prop} (h1 : κ 1 M) (h0 : κ 0 M) : wX8_isSound κ (some (yA Y 0 0)) M :=
  s_rc H W.x0 rfl rfl (c_quotas H W (fun x => br_c (fun _ => s_gR6 H W.x0 rfl rfl rfl (s_rcL H rfl (W.l12 (by omega)) (c_szH H W (br_c (fun _ => ⟨yn Y 4 + 1, c_is25 H W h1 h0 (yn Y 4) 0 (by omega)⟩) (fun _ => h0))))) (fun _ => h0)))
end CASK
