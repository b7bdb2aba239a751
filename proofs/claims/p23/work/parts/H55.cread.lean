/-! THE PURE SIDE, 6: the class's methods that only read -/
section CREAD
variable {g : Nat → Nat} {Y : mY} {S : mS} {M : mM}
theorem c_headOf_l (H : mR g Y S M) (W : mWs Y S) {s : Nat} (hs : s < yn Y 4) {κ : Int32 → mM → Prop} (h : ∀ x, κ x M) : ∀ (d j : Nat) (a : Int32), j + d = yn Y 5 → wX8_headOf_4 κ (d + 1) (some (yA Y 0 0)) (some (yA Y 4 s)) a (nI j) M := by
  intro d
  induction d with
  | zero =>
    intro j a hj
    rw [wX8_headOf_4]
    exact c_hdP H W (by omega) (fun _ => h _) (fun hlt => absurd hlt (by omega))
  | succ d ih =>
    intro j a hj
    have ih' : ∀ (a : Int32), wX8_headOf_4 κ (d + 1) (some (yA Y 0 0)) (some (yA Y 4 s)) a (nI j + 1) M := fun a => by rw [nI_1]; exact ih (j + 1) a (by omega)
    rw [wX8_headOf_4]
    refine c_hdP H W (by omega) (fun z => absurd z (by omega)) (fun hlt => ?_)
    refine s_gR3 H hlt rfl rfl rfl (br_c (fun _ => s_gI H hlt rfl rfl rfl (ih' _)) (fun _ => ih' _))
theorem c_headOf (H : mR g Y S M) (W : mWs Y S) {s : Nat} (hs : s < yn Y 4) {κ : Int32 → mM → Prop} (h : ∀ x, κ x M) : wX8_headOf κ (some (yA Y 0 0)) (some (yA Y 4 s)) M := ⟨yn Y 5 + 1, c_headOf_l H W hs h (yn Y 5) 0 0 (by omega)⟩
theorem c_worthOf_l (H : mR g Y S M) (W : mWs Y S) {set : Int32} {κ : Int32 → mM → Prop} (h : ∀ x, κ x M) : ∀ (d j : Nat) (a : Int32), j + d = yn Y 5 → wX8_worthOf_4 κ (d + 1) (some (yA Y 0 0)) set a (nI j) M := by
  intro d
  induction d with
  | zero =>
    intro j a hj
    rw [wX8_worthOf_4]
    exact c_hdP H W (by omega) (fun _ => h _) (fun hlt => absurd hlt (by omega))
  | succ d ih =>
    intro j a hj
    have ih' : ∀ (a : Int32), wX8_worthOf_4 κ (d + 1) (some (yA Y 0 0)) set a (nI j + 1) M := fun a => by rw [nI_1]; exact ih (j + 1) a (by omega)
    rw [wX8_worthOf_4]
    refine c_hdP H W (by omega) (fun z => absurd z (by omega)) (fun hlt => ?_)
    refine s_rc H hlt rfl rfl (c_isIn H W hlt (fun _ => ?_) (fun _ => ?_))
    · exact br_f (by decide) (s_gI H hlt rfl rfl rfl (ih' _))
    · exact br_t rfl (ih' _)
theorem c_worthOf (H : mR g Y S M) (W : mWs Y S) {set : Int32} {κ : Int32 → mM → Prop} (h : ∀ x, κ x M) : wX8_worthOf κ (some (yA Y 0 0)) set M := ⟨yn Y 5 + 1, c_worthOf_l H W  h (yn Y 5) 0 0 (by omega)⟩
theorem c_comeIn_l (H : mR g Y S M) (W : mWs Y S) {s : Nat} (hs : s < yn Y 4) {l : Nat} (hl : l < yn Y 2) {κ : Int32 → mM → Prop} (h : ∀ x, κ x M) : ∀ (d j : Nat) (a : Int32) (b : Int32), j + d = yn Y 5 → wX8_partsThatComeIn_11 κ (d + 1) (some (yA Y 0 0)) (some (yA Y 4 s)) (some (yA Y 2 l)) a b (nI j) M := by
  intro d
  induction d with
  | zero =>
    intro j a b hj
    rw [wX8_partsThatComeIn_11]
    exact c_hdP H W (by omega) (fun _ => h _) (fun hlt => absurd hlt (by omega))
  | succ d ih =>
    intro j a b hj
    have ih' : ∀ (a : Int32) (b : Int32), wX8_partsThatComeIn_11 κ (d + 1) (some (yA Y 0 0)) (some (yA Y 4 s)) (some (yA Y 2 l)) a b (nI j + 1) M := fun a b => by rw [nI_1]; exact ih (j + 1) a b (by omega)
    rw [wX8_partsThatComeIn_11]
    refine c_hdP H W (by omega) (fun z => absurd z (by omega)) (fun hlt => ?_)
    have h69 : ∀ a b, wX8_partsThatComeIn_69 κ (wX8_partsThatComeIn_11 κ (d + 1)) (some (yA Y 0 0)) (some (yA Y 4 s)) (some (yA Y 2 l)) a b (nI j) (some (yA Y 5 j)) M := fun a b => s_gI H hlt rfl rfl rfl (s_rc H hlt rfl rfl (c_isNightmare H hlt (fun _ => br_f (by decide) (ih' _ _)) (fun _ => br_t rfl (ih' _ _))))
    refine s_gI H hs rfl rfl rfl (s_rc H hlt rfl rfl (c_isIn H W hlt (fun _ => br_f (by decide) ?_) (fun _ => br_t rfl (ih' _ _))))
    refine s_rc H hlt rfl rfl (c_isNightmare H hlt (fun _ => br_f (by decide) ?_) (fun _ => br_t rfl (h69 _ _)))
    exact s_gI H hl rfl rfl rfl (br_c (fun _ => h69 _ _) (fun _ => ih' _ _))
theorem c_comeIn (H : mR g Y S M) (W : mWs Y S) {s : Nat} (hs : s < yn Y 4) {l : Nat} (hl : l < yn Y 2) {κ : Int32 → mM → Prop} (h : ∀ x, κ x M) : wX8_partsThatComeIn κ (some (yA Y 0 0)) (some (yA Y 4 s)) (some (yA Y 2 l)) M := s_gI H hl rfl rfl rfl ⟨yn Y 5 + 1, c_comeIn_l H W hs hl h (yn Y 5) 0 0 _ (by omega)⟩
theorem c_inStore_l (H : mR g Y S M) (W : mWs Y S) {l : Nat} (hl : l < yn Y 2) {κ : Int32 → mM → Prop} (h : ∀ x, κ x M) : ∀ (d j : Nat) (a : Int32), j + d = yn Y 5 → wX8_partsInStore_4 κ (d + 1) (some (yA Y 0 0)) (some (yA Y 2 l)) a (nI j) M := by
  intro d
  induction d with
  | zero =>
    intro j a hj
    rw [wX8_partsInStore_4]
    exact c_hdP H W (by omega) (fun _ => h _) (fun hlt => absurd hlt (by omega))
  | succ d ih =>
    intro j a hj
    have ih' : ∀ (a : Int32), wX8_partsInStore_4 κ (d + 1) (some (yA Y 0 0)) (some (yA Y 2 l)) a (nI j + 1) M := fun a => by rw [nI_1]; exact ih (j + 1) a (by omega)
    rw [wX8_partsInStore_4]
    refine c_hdP H W (by omega) (fun z => absurd z (by omega)) (fun hlt => ?_)
    refine s_gR3 H hlt rfl rfl rfl (br_c (fun _ => ih' _) (fun _ => ih' _))
theorem c_inStore (H : mR g Y S M) (W : mWs Y S) {l : Nat} (hl : l < yn Y 2) {κ : Int32 → mM → Prop} (h : ∀ x, κ x M) : wX8_partsInStore κ (some (yA Y 0 0)) (some (yA Y 2 l)) M := ⟨yn Y 5 + 1, c_inStore_l H W hl h (yn Y 5) 0 0 (by omega)⟩
theorem c_sleepersIn_l (H : mR g Y S M) (W : mWs Y S) {l : Nat} (hl : l < yn Y 2) {κ : Int32 → mM → Prop} (h : ∀ x, κ x M) : ∀ (d j : Nat) (a : Int32), j + d = yn Y 4 → wX8_sleepersIn_4 κ (d + 1) (some (yA Y 0 0)) (some (yA Y 2 l)) a (nI j) M := by
  intro d
  induction d with
  | zero =>
    intro j a hj
    rw [wX8_sleepersIn_4]
    exact c_hdS H W (by omega) (fun _ => h _) (fun hlt => absurd hlt (by omega))
  | succ d ih =>
    intro j a hj
    have ih' : ∀ (a : Int32), wX8_sleepersIn_4 κ (d + 1) (some (yA Y 0 0)) (some (yA Y 2 l)) a (nI j + 1) M := fun a => by rw [nI_1]; exact ih (j + 1) a (by omega)
    rw [wX8_sleepersIn_4]
    refine c_hdS H W (by omega) (fun z => absurd z (by omega)) (fun hlt => ?_)
    refine s_gR2 H hlt rfl rfl rfl (br_c (fun _ => s_gI H hlt rfl rfl rfl (br_c (fun _ => ih' _) (fun _ => ih' _))) (fun _ => ih' _))
theorem c_sleepersIn (H : mR g Y S M) (W : mWs Y S) {l : Nat} (hl : l < yn Y 2) {κ : Int32 → mM → Prop} (h : ∀ x, κ x M) : wX8_sleepersIn κ (some (yA Y 0 0)) (some (yA Y 2 l)) M := ⟨yn Y 4 + 1, c_sleepersIn_l H W hl h (yn Y 4) 0 0 (by omega)⟩
theorem c_whole_l (H : mR g Y S M) (W : mWs Y S) {l : Nat} (hl : l < yn Y 2) {κ : Int32 → mM → Prop} (h : ∀ x, κ x M) : ∀ (d j : Nat) (a : Int32) (b : Int32), j + d = yn Y 5 → wX8_wholeDreams_7 κ (d + 1) (some (yA Y 0 0)) (some (yA Y 2 l)) a b (nI j) M := by
  intro d
  induction d with
  | zero =>
    intro j a b hj
    rw [wX8_wholeDreams_7]
    exact c_hdP H W (by omega) (fun _ => h _) (fun hlt => absurd hlt (by omega))
  | succ d ih =>
    intro j a b hj
    have ih' : ∀ (a : Int32) (b : Int32), wX8_wholeDreams_7 κ (d + 1) (some (yA Y 0 0)) (some (yA Y 2 l)) a b (nI j + 1) M := fun a b => by rw [nI_1]; exact ih (j + 1) a b (by omega)
    rw [wX8_wholeDreams_7]
    refine c_hdP H W (by omega) (fun z => absurd z (by omega)) (fun hlt => ?_)
    refine s_rc H hlt rfl rfl (c_whereabouts H hlt (br_c (fun _ => s_gI H hlt rfl rfl rfl (ih' _ _)) (fun _ => s_gI H hlt rfl rfl rfl (ih' _ _))))
theorem c_whole (H : mR g Y S M) (W : mWs Y S) {l : Nat} (hl : l < yn Y 2) {κ : Int32 → mM → Prop} (h : ∀ x, κ x M) : wX8_wholeDreams κ (some (yA Y 0 0)) (some (yA Y 2 l)) M := ⟨yn Y 5 + 1, c_whole_l H W hl h (yn Y 5) 0 0 0 (by omega)⟩
theorem c_hidWorth_l (H : mR g Y S M) (W : mWs Y S) {t : Nat} (ht : t < yn Y 3) {κ : Int32 → mM → Prop} (h : ∀ x, κ x M) : ∀ (d j : Nat) (a : Int32), j + d = yn Y 5 → wX8_hiddenWorth_4 κ (d + 1) (some (yA Y 0 0)) (some (yA Y 3 t)) a (nI j) M := by
  intro d
  induction d with
  | zero =>
    intro j a hj
    rw [wX8_hiddenWorth_4]
    exact c_hdP H W (by omega) (fun _ => h _) (fun hlt => absurd hlt (by omega))
  | succ d ih =>
    intro j a hj
    have ih' : ∀ (a : Int32), wX8_hiddenWorth_4 κ (d + 1) (some (yA Y 0 0)) (some (yA Y 3 t)) a (nI j + 1) M := fun a => by rw [nI_1]; exact ih (j + 1) a (by omega)
    rw [wX8_hiddenWorth_4]
    refine c_hdP H W (by omega) (fun z => absurd z (by omega)) (fun hlt => ?_)
    refine s_gR3 H hlt rfl rfl rfl (br_c (fun _ => ih' _) (fun z => s_gR3 H hlt rfl rfl rfl ?_))
    cases hx : sX S 5 j 5 with
    | none => exact absurd (by rw [hx]; rfl) z
    | some s =>
      refine s_gR3 H (H.lX (k := 5) (f := 5) (kt := 4) hlt rfl s hx) rfl rfl rfl (br_c (fun _ => ?_) (fun _ => ih' _))
      exact s_rc H hlt rfl rfl (c_isHidden H W hlt (fun _ _ _ => br_f (by decide) (s_gI H hlt rfl rfl rfl (ih' _))) (fun _ => br_t rfl (ih' _)))
theorem c_hidWorth (H : mR g Y S M) (W : mWs Y S) {t : Nat} (ht : t < yn Y 3) {κ : Int32 → mM → Prop} (h : ∀ x, κ x M) : wX8_hiddenWorth κ (some (yA Y 0 0)) (some (yA Y 3 t)) M := ⟨yn Y 5 + 1, c_hidWorth_l H W ht h (yn Y 5) 0 0 (by omega)⟩
theorem c_hidingsOf_l (H : mR g Y S M) (W : mWs Y S) {s : Nat} (hs : s < yn Y 4) {κ : Int32 → mM → Prop} (h : ∀ x, κ x M) : ∀ (d j : Nat) (a : Int32), j + d = yn Y 6 → wX8_hidingsOf_4 κ (d + 1) (some (yA Y 0 0)) (some (yA Y 4 s)) a (nI j) M := by
  intro d
  induction d with
  | zero =>
    intro j a hj
    rw [wX8_hidingsOf_4]
    exact c_hdH H W (by omega) (fun _ => h _) (fun hlt => absurd hlt (by omega))
  | succ d ih =>
    intro j a hj
    have ih' : ∀ (a : Int32), wX8_hidingsOf_4 κ (d + 1) (some (yA Y 0 0)) (some (yA Y 4 s)) a (nI j + 1) M := fun a => by rw [nI_1]; exact ih (j + 1) a (by omega)
    rw [wX8_hidingsOf_4]
    refine c_hdH H W (by omega) (fun z => absurd z (by omega)) (fun hlt => ?_)
    refine s_gR2 H hlt rfl rfl rfl (br_c (fun _ => ih' _) (fun _ => ih' _))
theorem c_hidingsOf (H : mR g Y S M) (W : mWs Y S) {s : Nat} (hs : s < yn Y 4) {κ : Int32 → mM → Prop} (h : ∀ x, κ x M) : wX8_hidingsOf κ (some (yA Y 0 0)) (some (yA Y 4 s)) M := ⟨yn Y 6 + 1, c_hidingsOf_l H W hs h (yn Y 6) 0 0 (by omega)⟩
theorem c_awake_l (H : mR g Y S M) (W : mWs Y S)  {κ : Int32 → mM → Prop} (h : ∀ x, κ x M) : ∀ (d j : Nat) (a : Int32), j + d = yn Y 4 → wX8_awakeOnes_4 κ (d + 1) (some (yA Y 0 0)) a (nI j) M := by
  intro d
  induction d with
  | zero =>
    intro j a hj
    rw [wX8_awakeOnes_4]
    exact c_hdS H W (by omega) (fun _ => h _) (fun hlt => absurd hlt (by omega))
  | succ d ih =>
    intro j a hj
    have ih' : ∀ (a : Int32), wX8_awakeOnes_4 κ (d + 1) (some (yA Y 0 0)) a (nI j + 1) M := fun a => by rw [nI_1]; exact ih (j + 1) a (by omega)
    rw [wX8_awakeOnes_4]
    refine c_hdS H W (by omega) (fun z => absurd z (by omega)) (fun hlt => ?_)
    refine s_gI H hlt rfl rfl rfl (br_c (fun _ => ih' _) (fun _ => ih' _))
theorem c_awake (H : mR g Y S M) (W : mWs Y S)  {κ : Int32 → mM → Prop} (h : ∀ x, κ x M) : wX8_awakeOnes κ (some (yA Y 0 0)) M := ⟨yn Y 4 + 1, c_awake_l H W  h (yn Y 4) 0 0 (by omega)⟩
theorem c_ofFate_l (H : mR g Y S M) (W : mWs Y S) {ft : Int32} {κ : Int32 → mM → Prop} (h : ∀ x, κ x M) : ∀ (d j : Nat) (a : Int32), j + d = yn Y 5 → wX8_partsOfFate_4 κ (d + 1) (some (yA Y 0 0)) ft a (nI j) M := by
  intro d
  induction d with
  | zero =>
    intro j a hj
    rw [wX8_partsOfFate_4]
    exact c_hdP H W (by omega) (fun _ => h _) (fun hlt => absurd hlt (by omega))
  | succ d ih =>
    intro j a hj
    have ih' : ∀ (a : Int32), wX8_partsOfFate_4 κ (d + 1) (some (yA Y 0 0)) ft a (nI j + 1) M := fun a => by rw [nI_1]; exact ih (j + 1) a (by omega)
    rw [wX8_partsOfFate_4]
    refine c_hdP H W (by omega) (fun z => absurd z (by omega)) (fun hlt => ?_)
    refine s_gI H hlt rfl rfl rfl (br_c (fun _ => ih' _) (fun _ => ih' _))
theorem c_ofFate (H : mR g Y S M) (W : mWs Y S) {ft : Int32} {κ : Int32 → mM → Prop} (h : ∀ x, κ x M) : wX8_partsOfFate κ (some (yA Y 0 0)) ft M := ⟨yn Y 5 + 1, c_ofFate_l H W  h (yn Y 5) 0 0 (by omega)⟩
theorem c_gone_l (H : mR g Y S M) (W : mWs Y S)  {κ : Int32 → mM → Prop} (h : ∀ x, κ x M) : ∀ (d j : Nat) (a : Int32), j + d = yn Y 5 → wX8_goneParts_4 κ (d + 1) (some (yA Y 0 0)) a (nI j) M := by
  intro d
  induction d with
  | zero =>
    intro j a hj
    rw [wX8_goneParts_4]
    exact c_hdP H W (by omega) (fun _ => h _) (fun hlt => absurd hlt (by omega))
  | succ d ih =>
    intro j a hj
    have ih' : ∀ (a : Int32), wX8_goneParts_4 κ (d + 1) (some (yA Y 0 0)) a (nI j + 1) M := fun a => by rw [nI_1]; exact ih (j + 1) a (by omega)
    rw [wX8_goneParts_4]
    refine c_hdP H W (by omega) (fun z => absurd z (by omega)) (fun hlt => ?_)
    refine s_rc H hlt rfl rfl (c_whereabouts H hlt (br_c (fun _ => ih' _) (fun _ => ih' _)))
theorem c_gone (H : mR g Y S M) (W : mWs Y S)  {κ : Int32 → mM → Prop} (h : ∀ x, κ x M) : wX8_goneParts κ (some (yA Y 0 0)) M := ⟨yn Y 5 + 1, c_gone_l H W  h (yn Y 5) 0 0 (by omega)⟩
theorem c_duties_l (H : mR g Y S M) (W : mWs Y S) {κ : Int32 → mM → Prop} (h : ∀ x, κ x M) : ∀ (d j : Nat) (a : Int32), j + d = 6 → wX8_dutiesOfAll_13 κ (d + 1) a (some (yA Y 1 0)) (nI 6) (nI j) M := by
  intro d
  induction d with
  | zero =>
    intro j a hj
    rw [wX8_dutiesOfAll_13]
    exact br_t (nI_le (by omega) (by omega)) (h _)
  | succ d ih =>
    intro j a hj
    have ih' : ∀ a : Int32, wX8_dutiesOfAll_13 κ (d + 1) a (some (yA Y 1 0)) (nI 6) (nI j + 1) M := fun a => by rw [nI_1]; exact ih (j + 1) a (by omega)
    have hl6 : j < 6 := by omega
    rw [wX8_dutiesOfAll_13]
    refine br_f (nI_ge hl6 (by omega)) (s_ldR H W.l1 rfl (by decide) rfl (by rw [W.2.2.2.2.1.1]; exact hl6) (by rw [W.2.2.2.2.1.1]; omega) ?_)
    rw [W.2.2.2.2.1.2 j hl6]
    exact s_gI H (W.l2 hl6) rfl rfl rfl (ih' _)
theorem c_duties (H : mR g Y S M) (W : mWs Y S) {κ : Int32 → mM → Prop} (h : ∀ x, κ x M) : wX8_dutiesOfAll κ (some (yA Y 0 0)) M := by
  refine s_gR6 H W.x0 rfl rfl rfl (s_lenR H W.l1 (by decide) rfl ?_)
  rw [W.2.2.2.2.1.1]
  exact ⟨7, c_duties_l H W h 6 0 0 (by omega)⟩
theorem c_fines_l (H : mR g Y S M) (W : mWs Y S) {κ : Int32 → mM → Prop} (h : ∀ x, κ x M) : ∀ (d j : Nat) (a : Int32), j + d = 6 → wX8_finesOfAll_13 κ (d + 1) a (some (yA Y 1 0)) (nI 6) (nI j) M := by
  intro d
  induction d with
  | zero =>
    intro j a hj
    rw [wX8_finesOfAll_13]
    exact br_t (nI_le (by omega) (by omega)) (h _)
  | succ d ih =>
    intro j a hj
    have ih' : ∀ a : Int32, wX8_finesOfAll_13 κ (d + 1) a (some (yA Y 1 0)) (nI 6) (nI j + 1) M := fun a => by rw [nI_1]; exact ih (j + 1) a (by omega)
    have hl6 : j < 6 := by omega
    rw [wX8_finesOfAll_13]
    refine br_f (nI_ge hl6 (by omega)) (s_ldR H W.l1 rfl (by decide) rfl (by rw [W.2.2.2.2.1.1]; exact hl6) (by rw [W.2.2.2.2.1.1]; omega) ?_)
    rw [W.2.2.2.2.1.2 j hl6]
    exact s_gI H (W.l2 hl6) rfl rfl rfl (ih' _)
theorem c_fines (H : mR g Y S M) (W : mWs Y S) {κ : Int32 → mM → Prop} (h : ∀ x, κ x M) : wX8_finesOfAll κ (some (yA Y 0 0)) M := by
  refine s_gR6 H W.x0 rfl rfl rfl (s_lenR H W.l1 (by decide) rfl ?_)
  rw [W.2.2.2.2.1.1]
  exact ⟨7, c_fines_l H W h 6 0 0 (by omega)⟩
theorem c_quotas_l (H : mR g Y S M) (W : mWs Y S) {κ : Int32 → mM → Prop} (h : ∀ x, κ x M) : ∀ (d j : Nat) (a : Int32), j + d = 6 → wX8_quotasOfAll_13 κ (d + 1) a (some (yA Y 1 0)) (nI 6) (nI j) M := by
  intro d
  induction d with
  | zero =>
    intro j a hj
    rw [wX8_quotasOfAll_13]
    exact br_t (nI_le (by omega) (by omega)) (h _)
  | succ d ih =>
    intro j a hj
    have ih' : ∀ a : Int32, wX8_quotasOfAll_13 κ (d + 1) a (some (yA Y 1 0)) (nI 6) (nI j + 1) M := fun a => by rw [nI_1]; exact ih (j + 1) a (by omega)
    have hl6 : j < 6 := by omega
    rw [wX8_quotasOfAll_13]
    refine br_f (nI_ge hl6 (by omega)) (s_ldR H W.l1 rfl (by decide) rfl (by rw [W.2.2.2.2.1.1]; exact hl6) (by rw [W.2.2.2.2.1.1]; omega) ?_)
    rw [W.2.2.2.2.1.2 j hl6]
    exact s_gI H (W.l2 hl6) rfl rfl rfl (ih' _)
theorem c_quotas (H : mR g Y S M) (W : mWs Y S) {κ : Int32 → mM → Prop} (h : ∀ x, κ x M) : wX8_quotasOfAll κ (some (yA Y 0 0)) M := by
  refine s_gR6 H W.x0 rfl rfl rfl (s_lenR H W.l1 (by decide) rfl ?_)
  rw [W.2.2.2.2.1.1]
  exact ⟨7, c_quotas_l H W h 6 0 0 (by omega)⟩
theorem c_times_l (H : mR g Y S M) (W : mWs Y S) {t : Nat} (ht : t < yn Y 3) {s0 : Nat} {κ : Int32 → mM → Prop} (h : ∀ x, κ x M) : ∀ (d j : Nat) (a : Int32), j + d = (sL S 13 t).length → wX0_timesInLine_4 κ (d + 1) (some (yA Y 3 t)) (some (yA Y 4 s0)) a (nI j) M := by
  intro d
  induction d with
  | zero =>
    intro j a hj
    rw [wX0_timesInLine_4]
    exact c_hdL H W ht (by omega) (fun _ => h _) (fun s hx hs => absurd (List.getElem?_eq_some_iff.mp hx).1 (by omega))
  | succ d ih =>
    intro j a hj
    have ih' : ∀ (a : Int32), wX0_timesInLine_4 κ (d + 1) (some (yA Y 3 t)) (some (yA Y 4 s0)) a (nI j + 1) M := fun a => by rw [nI_1]; exact ih (j + 1) a (by omega)
    rw [wX0_timesInLine_4]
    refine c_hdL H W ht (by omega) (fun z => absurd z (by omega)) (fun s hx hs => ?_)
    exact br_c (fun _ => ih' _) (fun _ => ih' _)
theorem c_times (H : mR g Y S M) (W : mWs Y S) {t : Nat} (ht : t < yn Y 3) {s0 : Nat} {κ : Int32 → mM → Prop} (h : ∀ x, κ x M) : wX0_timesInLine κ (some (yA Y 3 t)) (some (yA Y 4 s0)) M := ⟨(sL S 13 t).length + 1, c_times_l H W ht h (sL S 13 t).length 0 0 (by omega)⟩
theorem c_babies_l (H : mR g Y S M) (W : mWs Y S) {t : Nat} (ht : t < yn Y 3) {κ : Int32 → mM → Prop} (h : ∀ x, x ≤ (sL S 13 t).length → κ (nI x) M) : ∀ (d j a : Nat), j + d = (sL S 13 t).length → a ≤ j → wX0_babiesInLine_4 κ (d + 1) (some (yA Y 3 t)) (nI a) (nI j) M := by
  intro d
  induction d with
  | zero =>
    intro j a hj ha
    rw [wX0_babiesInLine_4]
    exact c_hdL H W ht (by omega) (fun _ => h a (by omega)) (fun s hx hs => absurd (List.getElem?_eq_some_iff.mp hx).1 (by omega))
  | succ d ih =>
    intro j a hj ha
    have ih0 : wX0_babiesInLine_4 κ (d + 1) (some (yA Y 3 t)) (nI a) (nI j + 1) M := by rw [nI_1]; exact ih (j + 1) a (by omega) (by omega)
    have ih1 : wX0_babiesInLine_4 κ (d + 1) (some (yA Y 3 t)) (nI a + 1) (nI j + 1) M := by rw [nI_1, nI_1]; exact ih (j + 1) (a + 1) (by omega) (by omega)
    rw [wX0_babiesInLine_4]
    refine c_hdL H W ht (by omega) (fun z => absurd z (by omega)) (fun s hx hs => ?_)
    exact s_cast H hs rfl rfl (s_gI H hs rfl rfl rfl (br_c (fun _ => ih0) (fun _ => ih1)))
theorem c_babies (H : mR g Y S M) (W : mWs Y S) {t : Nat} (ht : t < yn Y 3) {κ : Int32 → mM → Prop} (h : ∀ x, x ≤ (sL S 13 t).length → κ (nI x) M) : wX0_babiesInLine κ (some (yA Y 3 t)) M := ⟨(sL S 13 t).length + 1, c_babies_l H W ht h (sL S 13 t).length 0 0 (by omega) (by omega)⟩
theorem c_ahead_l (H : mR g Y S M) (W : mWs Y S) {t : Nat} (ht : t < yn Y 3) {κ : Int32 → mM → Prop} (h1 : κ 1 M) (h0 : κ 0 M) : ∀ (d j : Nat), j + d = (sL S 13 t).length → 1 ≤ j → wX0_babiesAreAhead_2 κ (d + 1) (some (yA Y 3 t)) (nI j) M := by
  intro d
  induction d with
  | zero =>
    intro j hj hj1
    rw [wX0_babiesAreAhead_2]
    exact c_hdL H W ht (by omega) (fun _ => h1) (fun s hx hs => absurd (List.getElem?_eq_some_iff.mp hx).1 (by omega))
  | succ d ih =>
    intro j hj hj1
    have hl := H.len (k := 13) (i := t) rfl (W.l13 ht)
    have ih' : wX0_babiesAreAhead_2 κ (d + 1) (some (yA Y 3 t)) (nI j + 1) M := by rw [nI_1]; exact ih (j + 1) (by omega) (by omega)
    rw [wX0_babiesAreAhead_2]
    refine c_hdL H W ht (by omega) (fun z => absurd z (by omega)) (fun s hx hs => ?_)
    refine s_cast H hs rfl rfl (s_gI H hs rfl rfl rfl (br_c (fun _ => ih') (fun _ => ?_)))
    have hj2 : j - 1 < (sL S 13 t).length := by omega
    have hx2 : (sL S 13 t)[j - 1]? = some ((sL S 13 t)[j - 1]) := List.getElem?_eq_getElem hj2
    have hs2 := H.lL rfl (W.l13 ht) hx2
    refine s_gR7 H ht rfl rfl rfl (s_rcL H rfl (W.l13 ht) ?_)
    rw [show nI j - 1 = nI (j - 1) from by rw [show (1 : Int32) = nI 1 from rfl, pk_sub hj1]]
    exact s_get H rfl (W.l13 ht) hx2 (s_cast H hs2 rfl rfl (s_gI H hs2 rfl rfl rfl (br_c (fun _ => h0) (fun _ => ih'))))
theorem c_ahead (H : mR g Y S M) (W : mWs Y S) {t : Nat} (ht : t < yn Y 3) {κ : Int32 → mM → Prop} (h1 : κ 1 M) (h0 : κ 0 M) : wX0_babiesAreAhead κ (some (yA Y 3 t)) M := by
  by_cases z : (sL S 13 t).length = 0
  · refine ⟨1, ?_⟩
    rw [wX0_babiesAreAhead_2]
    refine s_gR7 H ht rfl rfl rfl (s_rcL H rfl (W.l13 ht) (s_size H rfl (W.l13 ht) (br_t ?_ h1)))
    rw [z]
    decide
  · exact ⟨(sL S 13 t).length - 1 + 1, c_ahead_l H W ht h1 h0 ((sL S 13 t).length - 1) 1 (by omega) (by omega)⟩
theorem c_place_l (H : mR g Y S M) (W : mWs Y S) {t : Nat} (ht : t < yn Y 3) {s : Nat} (hs : s < yn Y 4) {κ : Int32 → mM → Prop} (h1 : ∀ j, (sL S 13 t)[j]? = some s → κ (nI j) M) (h0 : s ∉ sL S 13 t → κ (-1) M) : ∀ (d j : Nat), j + d = (sL S 13 t).length → (∀ i, i < j → (sL S 13 t)[i]? ≠ some s) → wX8_placeOf_19 κ (d + 1) (some (yA Y 4 s)) (some (yA Y 13 t)) (nI j) M := by
  have hl := H.len (k := 13) (i := t) rfl (W.l13 ht)
  intro d
  induction d with
  | zero =>
    intro j hj hn
    rw [wX8_placeOf_19]
    refine s_rcL H rfl (W.l13 ht) (s_size H rfl (W.l13 ht) (br_t (nI_le (by omega) (by omega)) (h0 (fun hm => ?_))))
    obtain ⟨i, hi⟩ := List.mem_iff_getElem?.mp hm
    exact hn i (by have := (List.getElem?_eq_some_iff.mp hi).1; omega) hi
  | succ d ih =>
    intro j hj hn
    have hlt : j < (sL S 13 t).length := by omega
    have hx : (sL S 13 t)[j]? = some ((sL S 13 t)[j]) := List.getElem?_eq_getElem hlt
    have hs2 := H.lL rfl (W.l13 ht) hx
    rw [wX8_placeOf_19]
    refine s_rcL H rfl (W.l13 ht) (s_size H rfl (W.l13 ht) (br_f (nI_ge hlt (by omega)) (s_rcL H rfl (W.l13 ht) (s_get H rfl (W.l13 ht) hx (br_c (fun z => ?_) (fun z => ?_))))))
    · have e := (H.sinj hs hs2).mp z
      exact h1 j (by rw [hx, e])
    · rw [nI_1]
      refine ih (j + 1) (by omega) (fun i hi => ?_)
      by_cases w : i = j
      · subst w
        rw [hx]
        exact fun q => z ((H.sinj hs hs2).mpr (Option.some.inj q))
      · exact hn i (by omega)
theorem c_placeOf (H : mR g Y S M) (W : mWs Y S) {s : Nat} (hs : s < yn Y 4) {κ : Int32 → mM → Prop} (h1 : ∀ t j, sX S 4 s 5 = some t → t < yn Y 3 → (sL S 13 t)[j]? = some s → κ (nI j) M) (h0 : (∀ t, sX S 4 s 5 = some t → s ∉ sL S 13 t) → κ (-1) M) : wX8_placeOf κ (some (yA Y 4 s)) M := by
  refine s_gR3 H hs rfl rfl rfl ?_
  cases hx : sX S 4 s 5 with
  | none => exact br_t rfl (h0 (fun t ht => by rw [hx] at ht; cases ht))
  | some t =>
    have ht := H.lX (k := 4) (f := 5) (kt := 3) hs rfl t hx
    refine br_f (fun z => by cases z) (s_gR3 H hs rfl rfl rfl ?_)
    rw [hx]
    refine s_gR7 H ht rfl rfl rfl ⟨(sL S 13 t).length + 1, c_place_l H W ht hs (fun j hj => h1 t j hx ht hj) (fun hn => h0 (fun t' ht' => by rw [hx] at ht'; cases ht'; exact hn)) (sL S 13 t).length 0 (by omega) (fun i hi => absurd hi (by omega))⟩
theorem c_rightVerse (H : mR g Y S M) {s : Nat} (hs : s < yn Y 4) {t : Nat} (ht : t < yn Y 3) {nt : Int32} {κ : Int32 → mM → Prop} (h : ∀ x, κ x M) : wX8_rightVerse κ (some (yA Y 4 s)) (some (yA Y 3 t)) nt M := s_gI H hs rfl rfl rfl (s_gI H ht rfl rfl rfl (h _))
theorem c_has (H : mR g Y S M) {k t : Nat} (hk : k = 10 ∨ k = 11) (ht : t < yn Y k) {v : Int32} {κ : Int32 → mM → Prop} (h1 : κ 1 M) (h0 : κ 0 M) : wX7_has κ (some (yA Y k t)) v M := by
  rcases hk with rfl | rfl
  · exact br_c (fun _ => s_gJ H ht rfl rfl rfl (br_c (fun _ => h0) (fun _ => h1))) (fun _ => s_gJ H ht rfl rfl rfl (br_c (fun _ => h0) (fun _ => h1)))
  · exact br_c (fun _ => s_gJ H ht rfl rfl rfl (br_c (fun _ => h0) (fun _ => h1))) (fun _ => s_gJ H ht rfl rfl rfl (br_c (fun _ => h0) (fun _ => h1)))
theorem c_vsize (H : mR g Y S M) {t : Nat} (ht : t < yn Y 10) {κ : Int32 → mM → Prop} (h : ∀ x, κ x M) : wX7_size κ (some (yA Y 10 t)) M := s_gJ H ht rfl rfl rfl (show wJ13_bitCount_95d88 _ _ _ from s_gJ H ht rfl rfl rfl (show wJ13_bitCount_95d88 _ _ _ from h _))
theorem c_good (H : mR g Y S M) (W : mWs Y S) {s : Nat} (hs : s < yn Y 4) {t : Nat} (ht : t < yn Y 3) {κ : Int32 → mM → Prop} (h1 : κ 1 M) (h0 : κ 0 M) : wX8_passIsGood κ (some (yA Y 0 0)) (some (yA Y 4 s)) (some (yA Y 3 t)) M := by
  refine s_gR3 H hs rfl rfl rfl ?_
  cases hx : sX S 4 s 7 with
  | none => exact br_t rfl h0
  | some p =>
    have hp := H.lX (k := 4) (f := 7) (kt := 16) hs rfl p hx
    refine br_f (fun z => by cases z) (s_gR2 H hp rfl rfl rfl (br_c (fun _ => ?_) (fun _ => h0)))
    refine s_gI H hp rfl rfl rfl (s_gI H W.x0 rfl rfl rfl (br_c (fun _ => ?_) (fun _ => h0)))
    refine s_gI H hp rfl rfl rfl (s_gI H W.x0 rfl rfl rfl (c_rightVerse H hs ht (fun v => ?_)))
    refine s_rc H ht rfl rfl (c_dozes H ht (fun _ => br_f (by decide) (br_c (fun _ => h0) (fun _ => h1))) (fun _ => br_t rfl (br_c (fun _ => ?_) (fun _ => h0))))
    exact s_gR7 H ht rfl rfl rfl (s_gI H hp rfl rfl rfl (s_rc H (W.l10 ht) rfl rfl (c_has H (Or.inl rfl) (W.l10 ht) (br_f (by decide) h0) (br_t rfl h1))))
/-- rings -/
theorem c_linksOf_l (H : mR g Y S M) (W : mWs Y S) {set : Int32} {κ : Int32 → mM → Prop} (h : ∀ x, κ x M) : ∀ (d j : Nat) (a : Int32), j + d = yn Y 4 → wX8_linksOf_4 κ (d + 1) (some (yA Y 0 0)) set a (nI j) M := by
  have hb := W.2.1
  intro d
  induction d with
  | zero =>
    intro j a hj
    rw [wX8_linksOf_4]
    exact s_gR6 H W.x0 rfl rfl rfl (s_rcL H rfl (W.l12 (by omega)) (c_szS H W (br_t (nI_le (by omega) (by omega)) (h _))))
  | succ d ih =>
    intro j a hj
    have hlt : j < yn Y 4 := by omega
    have ih' : ∀ a : Int32, wX8_linksOf_4 κ (d + 1) (some (yA Y 0 0)) set a (nI j + 1) M := fun a => by rw [nI_1]; exact ih (j + 1) a (by omega)
    rw [wX8_linksOf_4]
    refine s_gR6 H W.x0 rfl rfl rfl (s_rcL H rfl (W.l12 (by omega)) (c_szS H W (br_f (nI_ge hlt (by omega)) (br_c (fun _ => ih' _) (fun _ => ?_)))))
    exact s_gR6 H W.x0 rfl rfl rfl (s_rcL H rfl (W.l12 (by omega)) (c_gtS H W hlt (s_cast H hlt rfl rfl (s_gI H hlt rfl rfl rfl (ih' _)))))
theorem c_linksOf (H : mR g Y S M) (W : mWs Y S) {set : Int32} {κ : Int32 → mM → Prop} (h : ∀ x, κ x M) : wX8_linksOf κ (some (yA Y 0 0)) set M := ⟨yn Y 4 + 1, c_linksOf_l H W h (yn Y 4) 0 0 (by omega)⟩
theorem c_ring_l (H : mR g Y S M) (W : mWs Y S) {κ : Int32 → mM → Prop} (h : ∀ x, κ x M) : ∀ (d j : Nat) (a : Int32), j + d = 12 → wX8_ringOf_9 κ (d + 1) (some (yA Y 0 0)) a (nI j) M := by
  intro d
  induction d with
  | zero =>
    intro j a hj
    rw [wX8_ringOf_9]
    exact br_t (show (12 : Int32) ≤ nI j from nI_le (a := 12) (by omega) (by omega)) (h _)
  | succ d ih =>
    intro j a hj
    rw [wX8_ringOf_9]
    refine br_f (show ¬ (12 : Int32) ≤ nI j from nI_ge (b := 12) (by omega) (by omega)) (s_rc H W.x0 rfl rfl (c_linksOf H W (fun x => br_c (fun _ => h _) (fun _ => ?_))))
    rw [nI_1]
    exact ih (j + 1) _ (by omega)
theorem c_ring (H : mR g Y S M) (W : mWs Y S) {s : Nat} (hs : s < yn Y 4) {κ : Int32 → mM → Prop} (h : ∀ x, κ x M) : wX8_ringOf κ (some (yA Y 0 0)) (some (yA Y 4 s)) M := s_gI H hs rfl rfl rfl ⟨13, c_ring_l H W h 12 0 _ (by omega)⟩
end CREAD
