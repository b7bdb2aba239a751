/-! THE PURE SIDE, 15: the reference's soundness, checksum and asked methods -/
section VASK
variable {g : Nat → Nat} {Y : mY} {S : mS} {M : mM}
theorem v_th {Y0 : mY} {S0 : mS} (P : vP g Y0 S0 Y S M) {n : Int32} {κ : mM → Prop} (h : ∀ S' M', vP g Y0 S0 Y S' M' → sI S' 20 0 0 = n → S' = uI S 20 0 0 n → κ M') : m_p M (some (yA Y 20 0)) 19 0 (.int n) κ := s_pI P.1.1 P.1.2.1.x0 rfl rfl rfl (fun M1 H1 => h _ M1 (vP_I P H1 trivial (by omega)) sI_uI_s rfl)
theorem v_rf {Y0 : mY} {S0 : mS} (P : vP g Y0 S0 Y S M) {n : Int32} {κ : Int32 → mM → Prop} (h : ∀ S' M', vP g Y0 S0 Y S' M' → sI S' 20 0 0 = n → S' = uI S 20 0 0 n → κ 0 M') : m_rc M (some (yA Y 20 0)) 19 fun b => wX14_refuse κ (some b) n M := s_rc P.1.1 P.1.2.1.x0 rfl rfl (v_th P h)
theorem v_add {Y0 : mY} {S0 : mS} (P : vP g Y0 S0 Y S M) {n : Int64} {κ : mM → Prop} (h : ∀ S' M', vP g Y0 S0 Y S' M' → κ M') : m_rc M (some (yA Y 20 0)) 19 fun b => wX14_add κ (some b) n M := s_rc P.1.1 P.1.2.1.x0 rfl rfl (s_gJ P.1.1 P.1.2.1.x0 rfl rfl rfl (s_pJ P.1.1 P.1.2.1.x0 rfl rfl rfl (fun M1 H1 => h _ M1 (vP_J P H1 (by omega)))))
theorem mVv.vg (VV : mVv Y S) : mVg Y S := fun s hs => VV.1 28 s 4 hs
theorem v_s202 {Y0 : mY} {S0 : mS} {r : Nat} (P : vP g Y0 S0 Y S M) (hr : r < yn Y 38) (hC : sC S 38 r = 12) {a : Int32} {κ : Int32 → mM → Prop} (h : ∀ x, x = 0 ∨ x = 1 → κ x M) : ∀ (d j : Nat), j + d = yn Y 28 → wX14_isSoundNow_202 κ (d + 1) (some (yA Y 20 0)) (some (yA Y 38 r)) a (nI j) M := by
  have H := P.1.1
  have V := P.1.2.1
  have VV := P.1.2.2.1
  have hb := V.2.1
  have h0 := h 0 (Or.inl rfl)
  have h1 := h 1 (Or.inr rfl)
  intro d
  induction d with
  | zero =>
    intro j hj
    rw [wX14_isSoundNow_202]
    refine v_hdS H V (by omega) (fun _ => br_c (fun _ => ?_) (fun _ => h0)) (fun hlt => absurd hlt (by omega))
    exact s_gR6 H V.x0 rfl rfl rfl (s_rcL H rfl (V.l24 (by omega)) (v_szH H V (br_c (fun _ => h0) (fun _ => h1))))
  | succ d ih =>
    intro j hj
    have i279 : wX14_isSoundNow_279 κ (wX14_isSoundNow_202 κ (d + 1)) (some (yA Y 20 0)) (some (yA Y 38 r)) a (nI j) M := by
      show wX14_isSoundNow_202 κ (d + 1) (some (yA Y 20 0)) (some (yA Y 38 r)) a (nI j + 1) M
      rw [nI_1]
      exact ih (j + 1) (by omega)
    have i243 : ∀ s0 s1, j < yn Y 28 → wX14_isSoundNow_243 κ (wX14_isSoundNow_202 κ (d + 1)) (some (yA Y 20 0)) (some (yA Y 38 r)) a (nI j) (some (yA Y 28 j)) s0 s1 M := by
      intro s0 s1 hlt
      refine br_c (fun _ => s_gI H hlt rfl rfl rfl (v_is (fun _ _ => br_f (by decide) ?_) (fun _ => br_t rfl h0))) (fun _ => h0)
      exact s_gI H hlt rfl rfl rfl (br_c (fun _ => s_rc H V.x0 rfl rfl (v_head H V VV (fun x => br_c (fun _ => i279) (fun _ => h0)))) (fun _ => i279))
    rw [wX14_isSoundNow_202]
    refine v_hdS H V (by omega) (fun z => absurd z (by omega)) (fun hlt => ?_)
    exact s_ldI H hr rfl (by decide) rfl (by rw [hC]; omega) (by rw [hC]; omega) (s_gI H hlt rfl rfl rfl (br_c (fun _ => i243 _ _ hlt) (fun _ => i243 _ _ hlt)))
theorem v_s173 {Y0 : mY} {S0 : mS} {r : Nat} (P : vP g Y0 S0 Y S M) (hr : r < yn Y 38) (hC : sC S 38 r = 12) {κ : Int32 → mM → Prop} (h : ∀ x, x = 0 ∨ x = 1 → κ x M) : ∀ (d j : Nat) (a : Int32), j + d = 6 → wX14_isSoundNow_173 κ (d + 1) (some (yA Y 20 0)) (some (yA Y 38 r)) a (some (yA Y 21 0)) (nI 6) (nI j) M := by
  have H := P.1.1
  have V := P.1.2.1
  intro d
  induction d with
  | zero =>
    intro j a hj
    rw [wX14_isSoundNow_173]
    exact br_t (nI_le (by omega) (by omega)) ⟨yn Y 28 + 1, v_s202 P hr hC h (yn Y 28) 0 (by omega)⟩
  | succ d ih =>
    intro j a hj
    have hl6 : j < 6 := by omega
    rw [wX14_isSoundNow_173]
    refine br_f (nI_ge hl6 (by omega)) (s_ldR H V.l21 rfl (by decide) rfl (by rw [V.2.2.2.2.1]; exact hl6) (by rw [V.2.2.2.2.1]; omega) ?_)
    rw [V.2.2.2.2.2.1 j hl6]
    exact s_gI H (V.l22 hl6) rfl rfl rfl (by rw [nI_1]; exact ih (j + 1) _ (by omega))
theorem v_s38 {Y0 : mY} {S0 : mS} {i c t r : Nat} (hr : r < yn Y 38) (ht : t < yn Y 23) {κ : Int32 → mM → Prop} {R13 : Option Nat → Option Nat → Option Nat → mM → Prop} (h0 : ∀ S M, vP g Y0 S0 Y S M → κ 0 M) (hR : ∀ S M, vP g Y0 S0 Y S M → sC S 38 r = 12 → vIt Y S i 0 c → R13 (some (yA Y 20 0)) (some (yA Y 38 r)) (some (yA Y 32 i)) M) : ∀ (d j : Nat) (a : Int32) (S : mS) (M : mM), vP g Y0 S0 Y S M → sC S 38 r = 12 → vIt Y S i 0 c → j + d = (sL S 25 t).length → wX14_isSoundNow_38 κ R13 (d + 1) (some (yA Y 20 0)) (some (yA Y 38 r)) (some (yA Y 32 i)) (some (yA Y 23 t)) a (nI j) M := by
  intro d
  induction d with
  | zero =>
    intro j a S M P hC I hj
    have H := P.1.1
    have V := P.1.2.1
    have hl := H.len (k := 25) (i := t) rfl (V.l25 ht)
    rw [wX14_isSoundNow_38]
    exact s_gR7 H ht rfl rfl rfl (s_rcL H rfl (V.l25 ht) (s_size H rfl (V.l25 ht) (br_t (nI_le (by omega) (by omega)) (hR S M P hC I))))
  | succ d ih =>
    intro j a S M P hC I hj
    have H := P.1.1
    have V := P.1.2.1
    have hl := H.len (k := 25) (i := t) rfl (V.l25 ht)
    have hb := V.2.1
    have hlt : j < (sL S 25 t).length := by omega
    have hx : (sL S 25 t)[j]? = some ((sL S 25 t)[j]) := List.getElem?_eq_getElem hlt
    generalize (sL S 25 t)[j] = v at hx
    have hv := ((P.1.2.2.2.1.1 t ht).2 v (List.mem_of_getElem? hx)).1
    rw [wX14_isSoundNow_38]
    refine s_gR7 H ht rfl rfl rfl (s_rcL H rfl (V.l25 ht) (s_size H rfl (V.l25 ht) (br_f (nI_ge hlt (by omega)) ?_)))
    refine s_gR7 H ht rfl rfl rfl (s_rcL H rfl (V.l25 ht) (s_get H rfl (V.l25 ht) hx (v_int H V (by omega) ?_)))
    refine s_ldI H hr rfl (by decide) rfl (by rw [hC]; omega) (by rw [hC]; omega) (s_stI H hr rfl rfl (by rw [hC]; omega) (by rw [hC]; omega) (fun M1 H1 => ?_))
    generalize sE S 38 r v + 1 = e at H1
    have P1 : vP g Y0 S0 Y (uE S 38 r v e) M1 := vP_E P H1 (by omega)
    have V1 := P1.1.2.1
    have ih' : ∀ a, wX14_isSoundNow_38 κ R13 (d + 1) (some (yA Y 20 0)) (some (yA Y 38 r)) (some (yA Y 32 i)) (some (yA Y 23 t)) a (nI j + 1) M1 := fun a => by
      rw [nI_1]
      exact ih (j + 1) a _ M1 P1 hC I (by show _ = (sL S 25 t).length; omega)
    have i122 : ∀ l4, wX14_isSoundNow_122 κ R13 (wX14_isSoundNow_38 κ R13 (d + 1)) (some (yA Y 20 0)) (some (yA Y 38 r)) (some (yA Y 32 i)) (some (yA Y 23 t)) l4 (nI j) (nI v) M1 := fun l4 => v_S H1 V1 hv (s_gI H1 hv rfl rfl rfl (br_c (fun _ => ih' _) (fun _ => ih' _)))
    refine v_S H1 V1 hv (s_gI H1 hv rfl rfl rfl (s_rc H1 ht rfl rfl (v_has H1 ht (br_f (by decide) ?_) (br_t rfl (h0 _ M1 P1)))))
    exact br_c (fun _ => i122 _) (fun _ => v_S H1 V1 hv (s_gI H1 hv rfl rfl rfl (br_c (fun _ => i122 _) (fun _ => h0 _ M1 P1))))
theorem v_s13 {Y0 : mY} {S0 : mS} {i r : Nat} (hr : r < yn Y 38) {κ : Int32 → mM → Prop} (h : ∀ x S M, x = 0 ∨ x = 1 → vP g Y0 S0 Y S M → κ x M) : ∀ (d c : Nat) (S : mS) (M : mM), vP g Y0 S0 Y S M → sC S 38 r = 12 → vIt Y S i 0 c → c + d = yn Y 23 → wX14_isSoundNow_13 κ (d + 1) (some (yA Y 20 0)) (some (yA Y 38 r)) (some (yA Y 32 i)) M := by
  intro d
  induction d with
  | zero =>
    intro c S M P hC I hc
    have H := P.1.1
    have V := P.1.2.1
    have hl : (sL S 24 0).length = yn Y 23 := by rw [V.2.2.1.1, List.length_range]
    rw [wX14_isSoundNow_13]
    refine s_rc P.1.1 I.1 rfl rfl (v_hasNext P.1.1 (V.l24 (by omega)) I (by omega) (fun z => absurd z (by omega)) (fun _ => br_t rfl ?_))
    refine s_gR6 H V.x0 rfl rfl rfl (s_lenR H V.l21 (by decide) rfl ?_)
    rw [V.2.2.2.2.1]
    exact ⟨7, v_s173 P hr hC (fun x hx => h x S M hx P) 6 0 0 (by omega)⟩
  | succ d ih =>
    intro c S M P hC I hc
    have V := P.1.2.1
    have hl : (sL S 24 0).length = yn Y 23 := by rw [V.2.2.1.1, List.length_range]
    have hx : (sL S 24 0)[c]? = some c := by rw [V.2.2.1.1, List.getElem?_range (by omega)]
    have hlt : c < yn Y 23 := by omega
    rw [wX14_isSoundNow_13]
    refine s_rc P.1.1 I.1 rfl rfl (v_hasNext P.1.1 (V.l24 (by omega)) I (by omega) (fun _ => br_f (by decide) ?_) (fun z => absurd z (by omega)))
    refine v_next P.1.1 (V.l24 (by omega)) I hx (fun M1 H1 => s_cast H1 hlt rfl rfl ?_)
    exact ⟨(sL S 25 c).length + 1, v_s38 (c := c + 1) hr hlt (fun S M P => h 0 S M (Or.inl rfl) P) (fun S M P hC I => ih (c + 1) S M P hC I (by omega)) (sL S 25 c).length 0 0 _ M1 (vP_nx P H1) hC I.nx (by show _ = (sL S 25 c).length; omega)⟩
/-- nothing but iterators and rows is made -/
def vU (Y Y' : mY) : Prop := (∀ k, k ≠ 32 → k ≠ 38 → yn Y' k = yn Y k) ∧ ∀ k i, i < yn Y k → yA Y' k i = yA Y k i
theorem v_isSoundNow {Y0 : mY} {S0 : mS} (P : vP g Y0 S0 Y S M) {κ : Int32 → mM → Prop} (h : ∀ x Y' S' M', x = 0 ∨ x = 1 → vP g Y0 S0 Y' S' M' → vU Y Y' → κ x M') : wX14_isSoundNow κ (some (yA Y 20 0)) M := by
  refine v_row (n := 12) P (by omega) (by omega) (fun Y1 S1 M1 r P1 a1 hr hC hE => ?_)
  have V1 := P1.1.2.1
  rw [← a1.1 20 0 P.1.2.1.x0]
  refine s_gR6 P1.1.1 V1.x0 rfl rfl rfl (s_rcL P1.1.1 rfl (V1.l24 (by omega)) (v_iter (by omega) P1 (fun Y2 S2 M2 i P2 a2 I => ?_)))
  rw [← a2.1 20 0 V1.x0, ← a2.1 38 r hr]
  have hr2 : r < yn Y2 38 := by rw [a2.2.2.1 38 (by omega)]; exact hr
  have hC2 : sC S2 38 r = 12 := ((a2.2.2.2 38 r (by omega)).2.2.2.2.2.2.1).trans hC
  refine ⟨yn Y2 23 + 1, v_s13 hr2 (fun x S M hx P => h x Y2 S M hx P ⟨fun k z1 z2 => (a2.2.2.1 k z1).trans (a1.2.2.1 k z2), fun k i hi => (a2.1 k i ?_).trans (a1.1 k i hi)⟩) (yn Y2 23) 0 S2 M2 P2 hC2 I (by omega)⟩
  by_cases z : k = 38
  · subst z
    rw [a1.2.1]
    omega
  · rw [a1.2.2.1 k z]
    exact hi
/-! asked -/

theorem v_ofLand {Y0 : mY} {S0 : mS} (P : vP g Y0 S0 Y S M) {a b : Int32} {κ : Int32 → mM → Prop} (h : ∀ x Y' S' M', vP g Y0 S0 Y' S' M' → κ x M') : wX14_ofLand κ (some (yA Y 20 0)) a b M := by
  refine v_th P (fun S1 M1 P1 _ _ => ?_)
  have H := P1.1.1
  have V := P1.1.2.1
  have VV := P1.1.2.2.1
  refine s_rc H V.x0 rfl rfl (v_isLand (fun l hl e => br_f (by decide) (v_is (fun _ _ => br_f (by decide) ?_) (fun _ => br_t rfl (v_rf P1 (fun S2 M2 P2 _ _ => h 0 Y S2 M2 P2))))) (fun _ => br_t rfl (v_rf P1 (fun S2 M2 P2 _ _ => h 0 Y S2 M2 P2))))
  subst e
  exact s_rc H V.x0 rfl rfl (v_ofLandNow H V VV hl (fun x => h x Y S1 M1 P1))
theorem v_ofGate {Y0 : mY} {S0 : mS} (P : vP g Y0 S0 Y S M) {a b : Int32} {κ : Int32 → mM → Prop} (h : ∀ x Y' S' M', vP g Y0 S0 Y' S' M' → κ x M') : wX14_ofGate κ (some (yA Y 20 0)) a b M := by
  refine v_th P (fun S1 M1 P1 _ _ => ?_)
  have H := P1.1.1
  have V := P1.1.2.1
  have VV := P1.1.2.2.1
  refine s_rc H V.x0 rfl rfl (v_isGate H V (fun l hl e => br_f (by decide) (v_is (fun _ _ => br_f (by decide) ?_) (fun _ => br_t rfl (v_rf P1 (fun S2 M2 P2 _ _ => h 0 Y S2 M2 P2))))) (fun _ => br_t rfl (v_rf P1 (fun S2 M2 P2 _ _ => h 0 Y S2 M2 P2))))
  subst e
  exact s_rc H V.x0 rfl rfl (v_ofGateNow H V VV hl (fun x => h x Y S1 M1 P1))
theorem v_ofSleeper {Y0 : mY} {S0 : mS} (P : vP g Y0 S0 Y S M) {a b : Int32} {κ : Int32 → mM → Prop} (h : ∀ x Y' S' M', vP g Y0 S0 Y' S' M' → κ x M') : wX14_ofSleeper κ (some (yA Y 20 0)) a b M := by
  refine v_th P (fun S1 M1 P1 _ _ => ?_)
  have H := P1.1.1
  have V := P1.1.2.1
  have VV := P1.1.2.2.1
  refine s_rc H V.x0 rfl rfl (v_isSleeper H V (fun l hl e => br_f (by decide) (v_is (fun _ _ => br_f (by decide) ?_) (fun _ => br_t rfl (v_rf P1 (fun S2 M2 P2 _ _ => h 0 Y S2 M2 P2))))) (fun _ => br_t rfl (v_rf P1 (fun S2 M2 P2 _ _ => h 0 Y S2 M2 P2))))
  subst e
  exact s_rc H V.x0 rfl rfl (v_ofSleeperNow H V VV VV.vg hl (fun x => h x Y S1 M1 P1))
theorem v_ofPart {Y0 : mY} {S0 : mS} (P : vP g Y0 S0 Y S M) {a b : Int32} {κ : Int32 → mM → Prop} (h : ∀ x Y' S' M', vP g Y0 S0 Y' S' M' → κ x M') : wX14_ofPart κ (some (yA Y 20 0)) a b M := by
  refine v_th P (fun S1 M1 P1 _ _ => ?_)
  have H := P1.1.1
  have V := P1.1.2.1
  have VV := P1.1.2.2.1
  refine s_rc H V.x0 rfl rfl (v_isPart H V (fun l hl e => br_f (by decide) (v_is (fun _ _ => br_f (by decide) ?_) (fun _ => br_t rfl (v_rf P1 (fun S2 M2 P2 _ _ => h 0 Y S2 M2 P2))))) (fun _ => br_t rfl (v_rf P1 (fun S2 M2 P2 _ _ => h 0 Y S2 M2 P2))))
  subst e
  exact s_rc H V.x0 rfl rfl (v_ofPartNow H V VV hl (fun x => h x Y S1 M1 P1))
theorem v_isGood {Y0 : mY} {S0 : mS} (P : vP g Y0 S0 Y S M) {a b : Int32} {κ : Int32 → mM → Prop} (h : ∀ x Y' S' M', vP g Y0 S0 Y' S' M' → κ x M') : wX14_isGood κ (some (yA Y 20 0)) a b M := by
  have H := P.1.1
  have V := P.1.2.1
  have i21 : wX14_isGood_21 κ (some (yA Y 20 0)) a b (some (yA Y 20 0)) M := by
    unfold wX14_isGood_21 wX14_isGood_22
    refine v_th P (fun S1 M1 P1 e1 _ => s_gI P1.1.1 V.x0 rfl rfl rfl ?_)
    rw [e1]
    exact br_f (by decide) (h _ Y S1 M1 P1)
  refine s_rc H V.x0 rfl rfl (v_isSleeper H V (fun s hs es => br_f (by decide) (s_rc H V.x0 rfl rfl (v_isGate H V (fun t ht et => br_f (by decide) ?_) (fun _ => br_t rfl i21)))) (fun _ => br_t rfl i21))
  subst es
  subst et
  refine v_th P (fun S1 M1 P1 e1 _ => s_gI P1.1.1 V.x0 rfl rfl rfl ?_)
  rw [e1]
  exact br_t rfl (s_rc P1.1.1 V.x0 rfl rfl (v_good P1.1.1 P1.1.2.1 P1.1.2.2.1 hs ht (br_f (by decide) (h _ Y S1 M1 P1)) (br_t rfl (h _ Y S1 M1 P1))))
theorem v_night {Y0 : mY} {S0 : mS} (P : vP g Y0 S0 Y S M) {b : Int32} {κ : Int32 → mM → Prop} (h : ∀ x Y' S' M', vP g Y0 S0 Y' S' M' → κ x M') : wX14_night κ (some (yA Y 20 0)) b M :=
  v_th P (fun S1 M1 P1 _ _ => v_is (fun _ _ => br_f (by decide) (s_rc P1.1.1 P1.1.2.1.x0 rfl rfl (v_nightNow P1 (fun x Y' S' M' P' _ _ => h x Y' S' M' P')))) (fun _ => br_t rfl (v_rf P1 (fun S2 M2 P2 _ _ => h 0 Y S2 M2 P2))))
theorem v_way {Y0 : mY} {S0 : mS} (P : vP g Y0 S0 Y S M) {a b : Int32} {κ : Int32 → mM → Prop} (h : ∀ x Y' S' M', vP g Y0 S0 Y' S' M' → κ x M') : wX14_way κ (some (yA Y 20 0)) a b M := by
  refine v_th P (fun S1 M1 P1 _ _ => ?_)
  have H := P1.1.1
  have V := P1.1.2.1
  have hf : wX14_way_30 κ (some (yA Y 20 0)) M1 := v_rf P1 (fun S2 M2 P2 _ _ => h 0 Y S2 M2 P2)
  exact s_rc H V.x0 rfl rfl (v_isLand (fun _ _ _ => br_f (by decide) (s_rc H V.x0 rfl rfl (v_isLand (fun _ _ _ => br_f (by decide) (s_rc H V.x0 rfl rfl (v_wayNow H V (fun x => h x Y S1 M1 P1)))) (fun _ => br_t rfl hf)))) (fun _ => br_t rfl hf))
theorem v_plan24 {Y0 : mY} {S0 : mS} (P : vP g Y0 S0 Y S M) {a b : Int32} {κ : Int32 → mM → Prop} (h : ∀ x Y' S' M', vP g Y0 S0 Y' S' M' → κ x M') : wX14_plan_24 κ (some (yA Y 20 0)) a b M := by
  refine v_is (fun z w => br_f (by decide) (s_rc P.1.1 P.1.2.1.x0 rfl rfl (v_planNow P ?_ ?_ (fun x Y' S' M' P' _ _ => h x Y' S' M' P')))) (fun _ => br_t rfl (v_rf P (fun S2 M2 P2 _ _ => h 0 Y S2 M2 P2)))
  · rw [Int32.lt_iff_toInt_lt, show (0 : Int32).toInt = 0 from by decide] at z
    omega
  · rw [Int32.lt_iff_toInt_lt, show (2000 : Int32).toInt = 2000 from by decide] at w
    omega
theorem v_plan {Y0 : mY} {S0 : mS} (P : vP g Y0 S0 Y S M) {a b : Int32} {κ : Int32 → mM → Prop} (h : ∀ x Y' S' M', vP g Y0 S0 Y' S' M' → κ x M') : wX14_plan κ (some (yA Y 20 0)) a b M :=
  v_th P (fun S1 M1 P1 _ _ => br_c (fun _ => v_plan24 P1 h) (fun _ => s_rc P1.1.1 P1.1.2.1.x0 rfl rfl (v_isGate P1.1.1 P1.1.2.1 (fun _ _ _ => br_f (by decide) (v_plan24 P1 h)) (fun _ => br_t rfl (v_rf P1 (fun S2 M2 P2 _ _ => h 0 Y S2 M2 P2))))))
theorem v_wouldPay {Y0 : mY} {S0 : mS} (P : vP g Y0 S0 Y S M) {a : Int32} {κ : Int32 → mM → Prop} (h : ∀ x Y' S' M', vP g Y0 S0 Y' S' M' → κ x M') : wX14_wouldPay κ (some (yA Y 20 0)) a M := by
  refine v_th P (fun S1 M1 P1 _ _ => s_rc P1.1.1 P1.1.2.1.x0 rfl rfl (v_isGate P1.1.1 P1.1.2.1 (fun t ht e => br_f (by decide) ?_) (fun _ => br_t rfl (v_rf P1 (fun S2 M2 P2 _ _ => h 0 Y S2 M2 P2)))))
  subst e
  exact s_rc P1.1.1 P1.1.2.1.x0 rfl rfl (v_wouldPayNow P1 ht (fun x S' M' P' => h x Y S' M' P'))
theorem v_isSound {Y0 : mY} {S0 : mS} (P : vP g Y0 S0 Y S M) {κ : Int32 → mM → Prop} (h : ∀ x Y' S' M', vP g Y0 S0 Y' S' M' → κ x M') : wX14_isSound κ (some (yA Y 20 0)) M :=
  v_th P (fun S1 M1 P1 _ _ => s_rc P1.1.1 P1.1.2.1.x0 rfl rfl (v_isSoundNow P1 (fun x Y' S' M' hx P' _ => ⟨hx, h x Y' S' M' P'⟩)))
/-! the checksum -/
theorem v_d267 {Y0 : mY} {S0 : mS} (P : vP g Y0 S0 Y S M) {k9 n9 : Nat} (hk : k9 ≤ 20) (hn : n9 ≤ 821) {n : Int64} {κ : Int64 → mM → Prop} (h : ∀ x Y' S' M', vP g Y0 S0 Y' S' M' → κ x M') : wX14_digest_267 κ k9 n9 (some (yA Y 20 0)) n (some (yA Y 20 0)) M :=
  ⟨⟨hk, hn⟩, v_add P (fun S1 M1 P1 => s_gJ P1.1.1 P1.1.2.1.x0 rfl rfl rfl ⟨⟨hk, hn⟩, h _ Y S1 M1 P1⟩)⟩
theorem v_d219 {Y0 : mY} {S0 : mS} {k9 n9 : Nat} (hk : k9 + 3 ≤ 20) (hn : n9 + 745 ≤ 821) {κ : Int64 → mM → Prop} (h : ∀ x Y' S' M', vP g Y0 S0 Y' S' M' → κ x M') : ∀ (d j : Nat) (S : mS) (M : mM), vP g Y0 S0 Y S M → j + d = 6 → wX14_digest_219 κ (d + 1) k9 n9 (some (yA Y 20 0)) (nI j) M := by
  intro d
  induction d with
  | zero =>
    intro j S M P hj
    rw [wX14_digest_219]
    refine ⟨⟨by omega, by omega⟩, br_t (show (6 : Int32) ≤ nI j from nI_le (a := 6) (by omega) (by omega)) ⟨⟨by omega, by omega⟩, s_rc P.1.1 P.1.2.1.x0 rfl rfl (v_planNow P (by decide) (by decide) (fun x Y1 S1 M1 P1 _ a1 => ?_))⟩⟩
    rw [← a1 20 0 P.1.2.1.x0]
    refine v_add P1 (fun S2 M2 P2 => ⟨⟨by omega, by omega⟩, s_rc P2.1.1 P2.1.2.1.x0 rfl rfl (v_isSoundNow P2 (fun x Y3 S3 M3 _ P3 a3 => ?_))⟩)
    rw [← a3.2 20 0 P2.1.2.1.x0]
    exact br_c (fun _ => v_d267 P3 (by omega) (by omega) h) (fun _ => v_d267 P3 (by omega) (by omega) h)
  | succ d ih =>
    intro j S M P hj
    rw [wX14_digest_219]
    refine ⟨⟨by omega, by omega⟩, br_f (show ¬ (6 : Int32) ≤ nI j from nI_ge (b := 6) (by omega) (by omega)) (s_rc P.1.1 P.1.2.1.x0 rfl rfl (v_wayNow P.1.1 P.1.2.1 (fun x => v_add P (fun S1 M1 P1 => ?_))))⟩
    rw [nI_1]
    exact ih (j + 1) S1 M1 P1 (by omega)

theorem v_d188 {Y0 : mY} {S0 : mS} {k9 n9 : Nat} (hk : k9 ≤ 20) (hn : n9 ≤ 821) {i : Nat} (hi : i < yn Y 29) {κ : Int64 → mM → Prop} {R : Nat → Nat → Option Nat → Int32 → mM → Prop} (hR : ∀ S M, vP g Y0 S0 Y S M → R k9 n9 (some (yA Y 20 0)) (nI i + 1) M) : ∀ (d j : Nat) (S : mS) (M : mM), vP g Y0 S0 Y S M → j + d = 6 → wX14_digest_188 κ R (d + 1) k9 n9 (some (yA Y 20 0)) (nI i) (nI j) M := by
  intro d
  induction d with
  | zero =>
    intro j S M P hj
    rw [wX14_digest_188]
    exact ⟨⟨hk, hn⟩, br_t (show (6 : Int32) ≤ nI j from nI_le (a := 6) (by omega) (by omega)) (hR S M P)⟩
  | succ d ih =>
    intro j S M P hj
    have H := P.1.1
    have V := P.1.2.1
    have VV := P.1.2.2.1
    rw [wX14_digest_188]
    refine ⟨⟨hk, hn⟩, br_f (show ¬ (6 : Int32) ≤ nI j from nI_ge (b := 6) (by omega) (by omega)) (s_rc H V.x0 rfl rfl (v_ofPartNow H V VV hi (fun x => v_add P (fun S1 M1 P1 => ?_))))⟩
    rw [nI_1]
    exact ih (j + 1) S1 M1 P1 (by omega)
theorem v_d144 {Y0 : mY} {S0 : mS} {k9 n9 : Nat} (hk : k9 ≤ 20) (hn : n9 ≤ 821) {i : Nat} (hi : i < yn Y 28) {κ : Int64 → mM → Prop} {R : Nat → Nat → Option Nat → Int32 → mM → Prop} (hR : ∀ S M, vP g Y0 S0 Y S M → R k9 n9 (some (yA Y 20 0)) (nI i + 1) M) : ∀ (d j : Nat) (S : mS) (M : mM), vP g Y0 S0 Y S M → j + d = 9 → wX14_digest_144 κ R (d + 1) k9 n9 (some (yA Y 20 0)) (nI i) (nI j) M := by
  intro d
  induction d with
  | zero =>
    intro j S M P hj
    rw [wX14_digest_144]
    exact ⟨⟨hk, hn⟩, br_t (show (9 : Int32) ≤ nI j from nI_le (a := 9) (by omega) (by omega)) (hR S M P)⟩
  | succ d ih =>
    intro j S M P hj
    have H := P.1.1
    have V := P.1.2.1
    have VV := P.1.2.2.1
    rw [wX14_digest_144]
    refine ⟨⟨hk, hn⟩, br_f (show ¬ (9 : Int32) ≤ nI j from nI_ge (b := 9) (by omega) (by omega)) (s_rc H V.x0 rfl rfl (v_ofSleeperNow H V VV VV.vg hi (fun x => v_add P (fun S1 M1 P1 => ?_))))⟩
    rw [nI_1]
    exact ih (j + 1) S1 M1 P1 (by omega)
theorem v_d90 {Y0 : mY} {S0 : mS} {k9 n9 : Nat} (hk : k9 ≤ 20) (hn : n9 ≤ 821) {i : Nat} (hi : i < yn Y 23) {κ : Int64 → mM → Prop} {R : Nat → Nat → Option Nat → Int32 → mM → Prop} (hR : ∀ S M, vP g Y0 S0 Y S M → R k9 n9 (some (yA Y 20 0)) (nI i + 1) M) : ∀ (d j : Nat) (S : mS) (M : mM), vP g Y0 S0 Y S M → j + d = 10 → wX14_digest_90 κ R (d + 1) k9 n9 (some (yA Y 20 0)) (nI i) (nI j) M := by
  intro d
  induction d with
  | zero =>
    intro j S M P hj
    rw [wX14_digest_90]
    exact ⟨⟨hk, hn⟩, br_t (show (10 : Int32) ≤ nI j from nI_le (a := 10) (by omega) (by omega)) (s_rc P.1.1 P.1.2.1.x0 rfl rfl (v_wouldPayNow P hi (fun x S1 M1 P1 => v_add P1 (fun S2 M2 P2 => hR S2 M2 P2))))⟩
  | succ d ih =>
    intro j S M P hj
    have H := P.1.1
    have V := P.1.2.1
    have VV := P.1.2.2.1
    rw [wX14_digest_90]
    refine ⟨⟨hk, hn⟩, br_f (show ¬ (10 : Int32) ≤ nI j from nI_ge (b := 10) (by omega) (by omega)) (s_rc H V.x0 rfl rfl (v_ofGateNow H V VV hi (fun x => v_add P (fun S1 M1 P1 => ?_))))⟩
    rw [nI_1]
    exact ih (j + 1) S1 M1 P1 (by omega)
theorem v_d46 {Y0 : mY} {S0 : mS} {k9 n9 : Nat} (hk : k9 ≤ 20) (hn : n9 ≤ 821) {i : Nat} (hi : i < 6) {κ : Int64 → mM → Prop} {R : Nat → Nat → Option Nat → Int32 → mM → Prop} (hR : ∀ S M, vP g Y0 S0 Y S M → R k9 n9 (some (yA Y 20 0)) (nI i + 1) M) : ∀ (d j : Nat) (S : mS) (M : mM), vP g Y0 S0 Y S M → j + d = 9 → wX14_digest_46 κ R (d + 1) k9 n9 (some (yA Y 20 0)) (nI i) (nI j) M := by
  intro d
  induction d with
  | zero =>
    intro j S M P hj
    rw [wX14_digest_46]
    exact ⟨⟨hk, hn⟩, br_t (show (9 : Int32) ≤ nI j from nI_le (a := 9) (by omega) (by omega)) (hR S M P)⟩
  | succ d ih =>
    intro j S M P hj
    have H := P.1.1
    have V := P.1.2.1
    have VV := P.1.2.2.1
    rw [wX14_digest_46]
    refine ⟨⟨hk, hn⟩, br_f (show ¬ (9 : Int32) ≤ nI j from nI_ge (b := 9) (by omega) (by omega)) (s_rc H V.x0 rfl rfl (v_ofLandNow H V VV hi (fun x => v_add P (fun S1 M1 P1 => ?_))))⟩
    rw [nI_1]
    exact ih (j + 1) S1 M1 P1 (by omega)
theorem v_d175 {Y0 : mY} {S0 : mS} {k9 n9 : Nat} (hk : k9 + 3 ≤ 20) (hn : n9 + 745 ≤ 821) {κ : Int64 → mM → Prop} (h : ∀ x Y' S' M', vP g Y0 S0 Y' S' M' → κ x M') : ∀ (d j : Nat) (S : mS) (M : mM), vP g Y0 S0 Y S M → j + d = yn Y 29 → wX14_digest_175 κ (d + 1) k9 n9 (some (yA Y 20 0)) (nI j) M := by
  intro d
  induction d with
  | zero =>
    intro j S M P hj
    have H := P.1.1
    have V := P.1.2.1
    have hb := V.2.1
    rw [wX14_digest_175]
    exact ⟨⟨by omega, by omega⟩, s_gR6 H V.x0 rfl rfl rfl (s_rcL H rfl (V.l24 (by omega)) (v_szP H V (br_t (nI_le (by omega) (by omega)) ⟨6 + 1, v_d219 hk hn h (6) 0 S M P (by omega)⟩)))⟩
  | succ d ih =>
    intro j S M P hj
    have H := P.1.1
    have V := P.1.2.1
    have hb := V.2.1
    rw [wX14_digest_175]
    exact ⟨⟨by omega, by omega⟩, s_gR6 H V.x0 rfl rfl rfl (s_rcL H rfl (V.l24 (by omega)) (v_szP H V (br_f (nI_ge (by omega) (by omega)) ⟨3 + 1, v_d188 (by omega) (by omega) (by omega) (fun S M P => by rw [nI_1]; exact ih (j + 1) S M P (by omega)) 3 3 S M P (by omega)⟩)))⟩
theorem v_d131 {Y0 : mY} {S0 : mS} {k9 n9 : Nat} (hk : k9 + 3 ≤ 20) (hn : n9 + 745 ≤ 821) {κ : Int64 → mM → Prop} (h : ∀ x Y' S' M', vP g Y0 S0 Y' S' M' → κ x M') : ∀ (d j : Nat) (S : mS) (M : mM), vP g Y0 S0 Y S M → j + d = yn Y 28 → wX14_digest_131 κ (d + 1) k9 n9 (some (yA Y 20 0)) (nI j) M := by
  intro d
  induction d with
  | zero =>
    intro j S M P hj
    have H := P.1.1
    have V := P.1.2.1
    have hb := V.2.1
    rw [wX14_digest_131]
    exact ⟨⟨by omega, by omega⟩, s_gR6 H V.x0 rfl rfl rfl (s_rcL H rfl (V.l24 (by omega)) (v_szS H V (br_t (nI_le (by omega) (by omega)) ⟨yn Y 29 + 1, v_d175 hk hn h (yn Y 29) 0 S M P (by omega)⟩)))⟩
  | succ d ih =>
    intro j S M P hj
    have H := P.1.1
    have V := P.1.2.1
    have hb := V.2.1
    rw [wX14_digest_131]
    exact ⟨⟨by omega, by omega⟩, s_gR6 H V.x0 rfl rfl rfl (s_rcL H rfl (V.l24 (by omega)) (v_szS H V (br_f (nI_ge (by omega) (by omega)) ⟨9 + 1, v_d144 (by omega) (by omega) (by omega) (fun S M P => by rw [nI_1]; exact ih (j + 1) S M P (by omega)) 9 0 S M P (by omega)⟩)))⟩
theorem v_d77 {Y0 : mY} {S0 : mS} {k9 n9 : Nat} (hk : k9 + 3 ≤ 20) (hn : n9 + 745 ≤ 821) {κ : Int64 → mM → Prop} (h : ∀ x Y' S' M', vP g Y0 S0 Y' S' M' → κ x M') : ∀ (d j : Nat) (S : mS) (M : mM), vP g Y0 S0 Y S M → j + d = yn Y 23 → wX14_digest_77 κ (d + 1) k9 n9 (some (yA Y 20 0)) (nI j) M := by
  intro d
  induction d with
  | zero =>
    intro j S M P hj
    have H := P.1.1
    have V := P.1.2.1
    have hb := V.2.1
    rw [wX14_digest_77]
    exact ⟨⟨by omega, by omega⟩, s_gR6 H V.x0 rfl rfl rfl (s_rcL H rfl (V.l24 (by omega)) (v_szG H V (br_t (nI_le (by omega) (by omega)) ⟨yn Y 28 + 1, v_d131 hk hn h (yn Y 28) 0 S M P (by omega)⟩)))⟩
  | succ d ih =>
    intro j S M P hj
    have H := P.1.1
    have V := P.1.2.1
    have hb := V.2.1
    rw [wX14_digest_77]
    exact ⟨⟨by omega, by omega⟩, s_gR6 H V.x0 rfl rfl rfl (s_rcL H rfl (V.l24 (by omega)) (v_szG H V (br_f (nI_ge (by omega) (by omega)) ⟨8 + 1, v_d90 (by omega) (by omega) (by omega) (fun S M P => by rw [nI_1]; exact ih (j + 1) S M P (by omega)) 8 2 S M P (by omega)⟩)))⟩
theorem v_d38 {Y0 : mY} {S0 : mS} {k9 n9 : Nat} (hk : k9 + 3 ≤ 20) (hn : n9 + 745 ≤ 821) {κ : Int64 → mM → Prop} (h : ∀ x Y' S' M', vP g Y0 S0 Y' S' M' → κ x M') : ∀ (d j : Nat) (S : mS) (M : mM), vP g Y0 S0 Y S M → j + d = 6 → wX14_digest_38 κ (d + 1) k9 n9 (some (yA Y 20 0)) (nI j) M := by
  intro d
  induction d with
  | zero =>
    intro j S M P hj
    rw [wX14_digest_38]
    exact ⟨⟨by omega, by omega⟩, br_t (show (6 : Int32) ≤ nI j from nI_le (a := 6) (by omega) (by omega)) ⟨yn Y 23 + 1, v_d77 hk hn h (yn Y 23) 0 S M P (by omega)⟩⟩
  | succ d ih =>
    intro j S M P hj
    rw [wX14_digest_38]
    exact ⟨⟨by omega, by omega⟩, br_f (show ¬ (6 : Int32) ≤ nI j from nI_ge (b := 6) (by omega) (by omega)) ⟨9 + 1, v_d46 (by omega) (by omega) (by omega) (fun S M P => by rw [nI_1]; exact ih (j + 1) S M P (by omega)) 9 0 S M P (by omega)⟩⟩
theorem v_d14 {Y0 : mY} {S0 : mS} {κ : Int64 → mM → Prop} (h : ∀ x Y' S' M', vP g Y0 S0 Y' S' M' → κ x M') : ∀ (d j : Nat) (Y : mY) (S : mS) (M : mM), vP g Y0 S0 Y S M → j + d = 17 → wX14_digest_14 κ (d + 1) j (4 * j) (some (yA Y 20 0)) (nI j) M := by
  intro d
  induction d with
  | zero =>
    intro j Y S M P hj
    rw [wX14_digest_14]
    exact ⟨⟨by omega, by omega⟩, br_t (show (17 : Int32) ≤ nI j from nI_le (a := 17) (by omega) (by omega)) ⟨7, v_d38 (by omega) (by omega) h 6 0 S M P (by omega)⟩⟩
  | succ d ih =>
    intro j Y S M P hj
    rw [wX14_digest_14]
    refine ⟨⟨by omega, by omega⟩, br_f (show ¬ (17 : Int32) ≤ nI j from nI_ge (b := 17) (by omega) (by omega)) ⟨⟨by omega, by omega⟩, s_rc P.1.1 P.1.2.1.x0 rfl rfl (v_nightNow P (fun x Y1 S1 M1 P1 _ a1 => ?_))⟩⟩
    rw [← a1 20 0 P.1.2.1.x0]
    refine v_add P1 (fun S2 M2 P2 => ?_)
    rw [nI_1]
    exact ih (j + 1) Y1 S2 M2 P2 (by omega)
theorem v_digest {Y0 : mY} {S0 : mS} (P : vP g Y0 S0 Y S M) {κ : Int64 → mM → Prop} (h : ∀ x Y' S' M', vP g Y0 S0 Y' S' M' → κ x M') : wX14_digest κ (some (yA Y 20 0)) M :=
  v_th P (fun S1 M1 P1 _ _ => s_pJ P1.1.1 P1.1.2.1.x0 rfl rfl rfl (fun M2 H2 => ⟨18, v_d14 h 17 0 Y _ M2 (vP_J P1 H2 (by omega)) (by omega)⟩))
end VASK
