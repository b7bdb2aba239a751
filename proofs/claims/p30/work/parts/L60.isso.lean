/-! THE PROPERTY'S LAW, 6: whether all is so -/
section LISSO
variable {g : Nat → Nat} {a0 k : Nat} {N : mN} {Y0 : mY} {S0 : mS}
/-- the fines -/
theorem L_s425 {κ : Int32 → mM → Prop} (h : ∀ Y' S' M', nLP g a0 k N Y' S' M' → mFc Y0 S0 Y' S' → κ 1 M') : ∀ (d j : Nat) (Y : mY) (S : mS) (M : mM), nLP g a0 k N Y S M → mFc Y0 S0 Y S → j + d = nn N 29 → wL_isSo_425 κ (d + 1) (some a0) 30 0 (nI ((nh N).length / 3)) (nI (qP (nWf1 N) j)) (nI j) M := by
  intro d
  induction d with
  | zero =>
    intro j Y S M P F hj
    have hb := P.2.2.1.2.1
    rw [wL_isSo_425]
    refine K_night P (b := 5) (by omega) (fun Y1 S1 M1 P1 F1 => ?_)
    rw [zN_5]
    refine br_t (nI_le (by omega) (by omega)) (br_t rfl (br_t rfl ?_))
    refine K_night P1 (b := 12) (by omega) (fun Y2 S2 M2 P2 F2 => ?_)
    rw [zN_12]
    refine br_t rfl ?_
    refine K_night P2 (b := 12) (by omega) (fun Y3 S3 M3 P3 F3 => ?_)
    rw [zN_12]
    obtain ⟨m, hm, hl, -⟩ := P.2.2.1.2.2.2.2.2.2.2
    refine br_f (show ¬ nI 40 < nI ((nh N).length / 3) from nI_nlt (by omega) (by omega)) ?_
    refine K_night P3 (b := 16) (by omega) (fun Y4 S4 M4 P4 F4 => ?_)
    rw [zN_16]
    have G := P.2.2.2.2.2
    have e : nSu (fun l => nv N 22 l 5) 6 = nI (qP (nWf1 N) j) := by
      rw [nSu_nI (h := fun l => nFn N l (nn N 29)) 6 (fun l hl => G.2.2.2.1 l hl), E_fin (nn N 29) G.2.2.2.2.1, show j = nn N 29 by omega]
    exact br_t e (h Y4 S4 M4 P4 ((((F.tr F1).tr F2).tr F3).tr F4))
  | succ d ih =>
    intro j Y S M P F hj
    have hb := P.2.2.1.2.1
    have hp : j < nn N 29 := by omega
    rw [wL_isSo_425]
    refine K_night P (b := 5) (by omega) (fun Y1 S1 M1 P1 F1 => ?_)
    rw [zN_5]
    refine br_f (nI_ge (by omega) (by omega)) ?_
    refine K_ofPart P1 (l := j) (b := 3) hp (by omega) (fun Y2 S2 M2 P2 F2 => ?_)
    rw [zP_3]
    obtain ⟨w, hw, ew⟩ := (P.2.2.1.2.2.2.2.1 j hp).2.1
    refine br_c (fun h3 => ?_) (fun h3 => ?_)
    · refine K_ofPart P2 (l := j) (b := 1) hp (by omega) (fun Y3 S3 M3 P3 F3 => ?_)
      rw [zP_1]
      have e1 : nI (qP (nWf1 N) j) + nv N 29 j 1 = nI (qP (nWf1 N) (j + 1)) := by
        have ef : nWf1 N j = w := by unfold nWf1; rw [if_pos h3, ew, tN_nI (by omega)]
        rw [ew, nI_add]
        exact congrArg nI (by show _ = qP (nWf1 N) j + nWf1 N j; rw [ef])
      show wL_isSo_425 κ (d + 1) (some a0) 30 0 (nI ((nh N).length / 3)) (nI (qP (nWf1 N) j) + nv N 29 j 1) (nI j + 1) M3
      rw [e1, nI_1]
      exact ih (j + 1) Y3 S3 M3 P3 (((F.tr F1).tr F2).tr F3) (by omega)
    · have e1 : nI (qP (nWf1 N) j) + 0 = nI (qP (nWf1 N) (j + 1)) := by
        have ef : nWf1 N j = 0 := by unfold nWf1; rw [if_neg h3]
        rw [Int32.add_zero]
        exact congrArg nI (by show _ = qP (nWf1 N) j + nWf1 N j; rw [ef]; rfl)
      show wL_isSo_425 κ (d + 1) (some a0) 30 0 (nI ((nh N).length / 3)) (nI (qP (nWf1 N) j) + 0) (nI j + 1) M2
      rw [e1, nI_1]
      exact ih (j + 1) Y2 S2 M2 P2 ((F.tr F1).tr F2) (by omega)
/-- rings: each is in the other's -/
theorem L_s366 {κ : Int32 → mM → Prop} {R : Option Nat → Int32 → Int32 → Int32 → Int32 → mM → Prop} {l1 l2 l3 : Int32} {s : Nat} (hs : s < nn N 28) (h : ∀ Y' S' M', nLP g a0 k N Y' S' M' → mFc Y0 S0 Y' S' → R (some a0) l1 l2 l3 (nI (s + 1)) M') : ∀ (d j : Nat) (Y : mY) (S : mS) (M : mM), nLP g a0 k N Y S M → mFc Y0 S0 Y S → j + d = nn N 28 → wL_isSo_366 κ R (d + 1) (some a0) l1 l2 l3 (nI s) (nI j) M := by
  intro d
  induction d with
  | zero =>
    intro j Y S M P F hj
    have hb := P.2.2.1.2.1
    rw [wL_isSo_366]
    refine K_night P (b := 3) (by omega) (fun Y1 S1 M1 P1 F1 => ?_)
    rw [zN_3]
    refine br_t (nI_le (by omega) (by omega)) ?_
    rw [nI_1]
    exact h Y1 S1 M1 P1 (F.tr F1)
  | succ d ih =>
    intro j Y S M P F hj
    have hb := P.2.2.1.2.1
    have hu : j < nn N 28 := by omega
    rw [wL_isSo_366]
    refine K_night P (b := 3) (by omega) (fun Y1 S1 M1 P1 F1 => ?_)
    rw [zN_3]
    refine br_f (nI_ge (by omega) (by omega)) ?_
    refine K_ofSleeper P1 (l := s) (b := 7) hs (by omega) (fun Y2 S2 M2 P2 F2 => ?_)
    refine K_ofSleeper P2 (l := j) (b := 7) hu (by omega) (fun Y3 S3 M3 P3 F3 => ?_)
    rw [zS_7, zS_7]
    refine br_t (bit_eq (by omega) (by omega) (vRg_sy P.2.2.1 P.2.2.2.1 hs hu)) ?_
    rw [nI_1]
    exact ih (j + 1) Y3 S3 M3 P3 (((F.tr F1).tr F2).tr F3) (by omega)
theorem L_s323 {κ : Int32 → mM → Prop} {R : Option Nat → Int32 → Int32 → Int32 → Int32 → mM → Prop} {l1 l2 l3 : Int32} {s : Nat} (hs : s < nn N 28) (h : ∀ Y' S' M', nLP g a0 k N Y' S' M' → mFc Y0 S0 Y' S' → R (some a0) l1 l2 l3 (nI (s + 1)) M') {Y : mY} {S : mS} {M : mM} (P : nLP g a0 k N Y S M) (F : mFc Y0 S0 Y S) : wL_isSo_323 κ R (some a0) l1 l2 l3 (nI s) M := by
  have hb := P.2.2.1.2.1
  obtain ⟨a, ha, ea⟩ := NI.pat P.2.2.2.1 hs
  refine K_ofSleeper P (l := s) (b := 7) hs (by omega) (fun Y1 S1 M1 P1 F1 => ?_)
  rw [zS_7]
  have h1 : zb (vRg N s) s = true := (vRg_zb P.2.2.1 P.2.2.2.1 hs (by omega)).mpr nCl.rf
  refine br_f (fun w => by rw [(zb_shr _ (by omega)).mp w] at h1; cases h1) ?_
  refine K_ofSleeper P1 (l := s) (b := 1) hs (by omega) (fun Y2 S2 M2 P2 F2 => ?_)
  rw [zS_1, ea]
  refine br_f (nI_pos (by omega)) ?_
  refine K_ofSleeper P2 (l := s) (b := 1) hs (by omega) (fun Y3 S3 M3 P3 F3 => ?_)
  rw [zS_1, ea]
  refine br_t (show nI a ≤ nI 9 from nI_le ha (by omega)) ⟨nn N 28 + 1, ?_⟩
  exact L_s366 hs h (nn N 28) 0 Y3 S3 M3 P3 (((F.tr F1).tr F2).tr F3) (by omega)
/-- each sleeper -/
theorem L_s213 {κ : Int32 → mM → Prop} (h : ∀ Y' S' M', nLP g a0 k N Y' S' M' → mFc Y0 S0 Y' S' → κ 1 M') : ∀ (d j : Nat) (Y : mY) (S : mS) (M : mM), nLP g a0 k N Y S M → mFc Y0 S0 Y S → j + d = nn N 28 → wL_isSo_213 κ (d + 1) (some a0) 30 (nI (qP (nStd N) (nn N 28) - qP (nStd N) j)) (nI (qP (fun s => kCt (pHi N s) ((nh N).length / 3)) j)) (nI j) M := by
  intro d
  induction d with
  | zero =>
    intro j Y S M P F hj
    have hb := P.2.2.1.2.1
    obtain ⟨m, hm, hl, hv⟩ := P.2.2.1.2.2.2.2.2.2.2
    rw [wL_isSo_213]
    refine K_night P (b := 3) (by omega) (fun Y1 S1 M1 P1 F1 => ?_)
    rw [zN_3]
    refine br_t (nI_le (by omega) (by omega)) ⟨nn N 29 + 1, ?_⟩
    have e1 : qP (fun s => kCt (pHi N s) ((nh N).length / 3)) j = (nh N).length / 3 := by
      rw [show j = nn N 28 by omega]
      refine E_hid _ (fun q hq => ?_)
      have hx : (nh N)[3 * q]? = some ((nh N)[3 * q]) := List.getElem?_eq_getElem (by omega)
      have := hv q _ hx
      unfold hS
      rw [hx]
      exact this
    have e2 : qP (nStd N) (nn N 28) - qP (nStd N) j = 0 := by rw [show j = nn N 28 by omega]; exact Nat.sub_self _
    rw [e1, e2]
    exact L_s425 h (nn N 29) 0 Y1 S1 M1 P1 (F.tr F1) (by omega)
  | succ d ih =>
    intro j Y S M P F hj
    have hb := P.2.2.1.2.1
    have hs : j < nn N 28 := by omega
    have I := P.2.2.2.1
    have B := P.2.2.1
    obtain ⟨la, hla, ela⟩ := (B.2.2.2.1 j hs).1
    rw [wL_isSo_213]
    refine K_night P (b := 3) (by omega) (fun Y1 S1 M1 P1 F1 => ?_)
    rw [zN_3]
    refine br_f (nI_ge (by omega) (by omega)) ?_
    refine K_ofSleeper P1 (l := j) (b := 3) hs (by omega) (fun Y2 S2 M2 P2 F2 => ?_)
    refine K_ofSleeper P2 (l := j) (b := 0) hs (by omega) (fun Y3 S3 M3 P3 F3 => ?_)
    refine K_ofSleeper P3 (l := j) (b := 8) hs (by omega) (fun Y4 S4 M4 P4 F4 => ?_)
    rw [zS_3, zS_0, zS_8, nCn_nI, nI_add]
    have F9 : mFc Y0 S0 Y4 S4 := (((F.tr F1).tr F2).tr F3).tr F4
    have nx : ∀ Y' S' M', nLP g a0 k N Y' S' M' → mFc Y0 S0 Y' S' → wL_isSo_213 κ (d + 1) (some a0) 30 (nI (qP (nStd N) (nn N 28) - qP (nStd N) (j + 1))) (nI (qP (fun s => kCt (pHi N s) ((nh N).length / 3)) j + kCt (pHi N j) ((nh N).length / 3))) (nI (j + 1)) M' := fun Y' S' M' P' F' => ih (j + 1) Y' S' M' P' F' (by omega)
    have hle : qP (nStd N) (j + 1) ≤ qP (nStd N) (nn N 28) := qP_le _ (by omega)
    have hsu : qP (nStd N) (j + 1) = qP (nStd N) j + nStd N j := rfl
    by_cases z : nv N 28 j 3 = 1
    · obtain ⟨t, ht, et, -⟩ := B.2.2.2.2.2.2.1 j hs z
      have est : nStd N j = 1 := by unfold nStd; rw [if_pos z]
      rw [et, ela]
      refine br_f (nI_pos (by omega)) (br_f (nI_pos (by omega)) ?_)
      have e2 : nI (qP (nStd N) (nn N 28) - qP (nStd N) j) - 1 = nI (qP (nStd N) (nn N 28) - qP (nStd N) (j + 1)) := by
        rw [show (1 : Int32) = nI 1 from rfl, pk_sub (by omega)]
        exact congrArg nI (by omega)
      rw [e2]
      refine K_ofSleeper P4 (l := j) (b := 2) hs (by omega) (fun Y5 S5 M5 P5 F5 => ?_)
      rw [zS_2]
      refine br_t z (br_t rfl (br_f (nI_pos (by omega)) ?_))
      have hat := (I.2.2.1 j hs).2.2.2.2 z
      have hat := hat.2 t ht et
      rw [ela] at hat
      refine K_ofGate P5 (l := t) (b := 0) ht (by omega) (fun Y6 S6 M6 P6 F6 => ?_)
      rw [zG_0]
      refine br_c (fun _ => L_s323 hs nx P6 ((F9.tr F5).tr F6)) (fun q => ?_)
      refine K_ofGate P6 (l := t) (b := 1) ht (by omega) (fun Y7 S7 M7 P7 F7 => ?_)
      rw [zG_1]
      exact br_t (hat.resolve_left q) (L_s323 hs nx P7 (((F9.tr F5).tr F6).tr F7))
    · have e4 : nv N 28 j 4 = -1 := (I.2.2.1 j hs).2.2.2.1 z
      have est : nStd N j = 0 := by unfold nStd; rw [if_neg z]
      rw [e4, ela]
      refine br_t (by decide) (br_t (by decide) ?_)
      have e2 : nI (qP (nStd N) (nn N 28) - qP (nStd N) j) - 0 = nI (qP (nStd N) (nn N 28) - qP (nStd N) (j + 1)) := by
        rw [show (0 : Int32) = nI 0 from rfl, pk_sub (by omega)]
        exact congrArg nI (by omega)
      rw [e2]
      refine K_ofSleeper P4 (l := j) (b := 2) hs (by omega) (fun Y5 S5 M5 P5 F5 => ?_)
      rw [zS_2]
      exact br_f z (br_t rfl (br_t (by decide) (L_s323 hs nx P5 (F9.tr F5))))
/-- each gate -/
theorem L_s67 {κ : Int32 → mM → Prop} (h : ∀ Y' S' M', nLP g a0 k N Y' S' M' → mFc Y0 S0 Y' S' → κ 1 M') : ∀ (d j : Nat) (Y : mY) (S : mS) (M : mM), nLP g a0 k N Y S M → mFc Y0 S0 Y S → j + d = nn N 23 → wL_isSo_67 κ (d + 1) (some a0) 30 (nI (qP (fun t => (nq N t).length) j)) (nI j) M := by
  intro d
  induction d with
  | zero =>
    intro j Y S M P F hj
    have hb := P.2.2.1.2.1
    rw [wL_isSo_67]
    refine K_night P (b := 2) (by omega) (fun Y1 S1 M1 P1 F1 => ?_)
    rw [zN_2]
    refine br_t (nI_le (by omega) (by omega)) ⟨nn N 28 + 1, ?_⟩
    have e1 : qP (fun t => (nq N t).length) j = qP (nStd N) (nn N 28) - qP (nStd N) 0 := by
      rw [show j = nn N 23 by omega, E_std P.2.2.1]
      rfl
    rw [e1]
    exact L_s213 h (nn N 28) 0 Y1 S1 M1 P1 (F.tr F1) (by omega)
  | succ d ih =>
    intro j Y S M P F hj
    have hb := P.2.2.1.2.1
    have B := P.2.2.1
    have ht : j < nn N 23 := by omega
    rw [wL_isSo_67]
    refine K_night P (b := 2) (by omega) (fun Y1 S1 M1 P1 F1 => ?_)
    rw [zN_2]
    refine br_f (nI_ge (by omega) (by omega)) ?_
    refine K_ofGate P1 (l := j) (b := 6) ht (by omega) (fun Y2 S2 M2 P2 F2 => ?_)
    refine K_ofGate P2 (l := j) (b := 7) ht (by omega) (fun Y3 S3 M3 P3 F3 => ?_)
    rw [zG_6, zG_7, nI_add]
    have F9 : mFc Y0 S0 Y3 S3 := ((F.tr F1).tr F2).tr F3
    -- hidden worth, what would be paid
    have k179 : ∀ (s0 : Int32) (Y : mY) (S : mS) (M : mM), nLP g a0 k N Y S M → mFc Y0 S0 Y S → wL_isSo_179 κ (wL_isSo_67 κ (d + 1)) (some a0) 30 (nI (qP (fun t => (nq N t).length) j + (nq N j).length)) (nI j) s0 s0 M := fun s0 Y S M P F => by
      refine br_t rfl (K_ofGate P (l := j) (b := 8) ht (by omega) (fun Y1 S1 M1 P1 F1 => ?_))
      rw [zG_8]
      obtain ⟨a, ha, ea⟩ := nHw_b (N := N) (t := j) (nn N 29) (fun p hp => (B.2.2.2.2.1 p hp).2.1)
      rw [ea]
      refine br_f (nI_pos (by omega)) (K_wouldPay P1 (l := j) ht (fun Y2 S2 M2 P2 F2 => ?_))
      obtain ⟨c, hc, ec⟩ := vWp_b B P.2.2.2.1 P.2.2.2.2.2 ht
      rw [ec]
      refine br_t (nI_pos' (by omega)) ?_
      rw [nI_1]
      exact ih (j + 1) Y2 S2 M2 P2 ((F.tr F1).tr F2) (by omega)
    have k146 : ∀ (s0 : Int32) (Y : mY) (S : mS) (M : mM), nLP g a0 k N Y S M → mFc Y0 S0 Y S → wL_isSo_146 κ (wL_isSo_67 κ (d + 1)) (some a0) 30 (nI (qP (fun t => (nq N t).length) j + (nq N j).length)) (nI j) s0 s0 M := fun s0 Y S M P F => by
      refine br_t rfl (K_ofGate P (l := j) (b := 4) ht (by omega) (fun Y1 S1 M1 P1 F1 => ?_))
      rw [zG_4]
      refine br_c (fun z => K_ofGate P1 (l := j) (b := 5) ht (by omega) (fun Y2 S2 M2 P2 F2 => ?_)) (fun z => K_ofGate P1 (l := j) (b := 5) ht (by omega) (fun Y2 S2 M2 P2 F2 => ?_))
      · rw [zG_5, if_pos z]
        exact br_f (by decide) (k179 0 Y2 S2 M2 P2 ((F.tr F1).tr F2))
      · rw [zG_5, if_neg z]
        exact br_t rfl (k179 1 Y2 S2 M2 P2 ((F.tr F1).tr F2))
    cases hx : (nq N j)[0]? with
    | none =>
      have hl : (nq N j).length = 0 := by
        have := List.getElem?_eq_none_iff.mp hx
        omega
      have ef : vFi N j = -1 := by unfold vFi; rw [hx]
      rw [ef]
      refine br_t (by decide) (br_f (by decide) ?_)
      refine K_ofGate P3 (l := j) (b := 6) ht (by omega) (fun Y4 S4 M4 P4 F4 => ?_)
      rw [zG_6]
      exact br_t (by rw [hl]; rfl) (k146 1 Y4 S4 M4 P4 (F9.tr F4))
    | some s =>
      have ef : vFi N j = nI s := by unfold vFi; rw [hx]
      obtain ⟨hnd, hmem⟩ := B.2.2.2.2.2.1 j ht
      obtain ⟨hs, h3, h4⟩ := hmem s (List.mem_of_getElem? hx)
      have hl : 0 < (nq N j).length := (List.getElem?_eq_some_iff.mp hx).1
      have hl12 : (nq N j).length ≤ 24 := by
        have h1 := E_std B
        have h2 : qP (nStd N) (nn N 28) ≤ 1 * nn N 28 := qP_b _ (fun s _ => by unfold nStd; split <;> omega)
        have h3 : qP (fun t => (nq N t).length) (j + 1) ≤ qP (fun t => (nq N t).length) (nn N 23) := qP_le _ (by omega)
        have h4 : qP (fun t => (nq N t).length) (j + 1) = qP (fun t => (nq N t).length) j + (nq N j).length := rfl
        omega
      rw [ef]
      refine br_f (nI_pos (by omega)) (K_ofSleeper P3 (l := s) (b := 3) hs (by omega) (fun Y4 S4 M4 P4 F4 => ?_))
      rw [zS_3]
      refine br_t h4 (K_ofSleeper P4 (l := s) (b := 4) hs (by omega) (fun Y5 S5 M5 P5 F5 => ?_))
      have ep : vPl N s = 0 := by
        unfold vPl
        rw [h4, if_neg (fun w => by
          have := nI_pos (n := j) (by omega)
          rw [w] at this
          exact this (by decide)), tN_nI (by omega), idx_nd _ _ _ hnd hx]
        rfl
      rw [zS_4, ep]
      refine br_t rfl (br_t (nI_pos' (by omega)) ?_)
      refine K_ofGate P5 (l := j) (b := 6) ht (by omega) (fun Y6 S6 M6 P6 F6 => ?_)
      rw [zG_6]
      exact br_f (fun w => by
        have := (nI_eq (a := (nq N j).length) (b := 0) (by omega) (by omega)).mp w
        omega) (k146 0 Y6 S6 M6 P6 (((F9.tr F4).tr F5).tr F6))
/-- each land -/
theorem L_s4 {κ : Int32 → mM → Prop} (hk : k ≤ 1000) (h : ∀ Y' S' M', nLP g a0 k N Y' S' M' → mFc Y0 S0 Y' S' → κ 1 M') {q : Nat → Nat} (hq : ∀ l, l < 6 → nv N 22 l 2 = nI (q l)) (h30 : qP q 6 = 30) : ∀ (d j : Nat) (Y : mY) (S : mS) (M : mM), nLP g a0 k N Y S M → mFc Y0 S0 Y S → j + d = 6 → wL_isSo_4 κ (d + 1) (some a0) (nI (qP q j)) (nI j) M := by
  intro d
  induction d with
  | zero =>
    intro j Y S M P F hj
    rw [wL_isSo_4]
    refine br_t (show nI 6 ≤ nI j from nI_le (by omega) (by omega)) ⟨nn N 23 + 1, ?_⟩
    rw [show j = 6 by omega, h30]
    exact L_s67 h (nn N 23) 0 Y S M P F (by omega)
  | succ d ih =>
    intro j Y S M P F hj
    have hb := P.2.2.1.2.1
    have hl : j < 6 := by omega
    have G := P.2.2.2.2.2
    obtain ⟨a3, b3, e3⟩ := G.2.1 j hl
    obtain ⟨a4, b4, e4⟩ := G.2.2.1 j hl
    have e5 := G.2.2.2.1 j hl
    have b5 : nFn N j (nn N 29) ≤ 99 * nn N 29 := nFn_le _ (fun p hp => (P.2.2.1.2.2.2.2.1 p hp).2.1)
    have bq : q j ≤ 30 := by
      have h1 : qP q (j + 1) ≤ qP q 6 := qP_le 6 (by omega)
      have h2 : qP q (j + 1) = qP q j + q j := rfl
      omega
    rw [wL_isSo_4]
    refine br_f (show ¬ nI 6 ≤ nI j from nI_ge (by omega) (by omega)) ?_
    refine K_ofLand P (l := j) (b := 2) hl (by omega) (fun Y1 S1 M1 P1 F1 => ?_)
    refine K_ofLand P1 (l := j) (b := 2) hl (by omega) (fun Y2 S2 M2 P2 F2 => ?_)
    rw [zL_2, hq j hl, nI_add]
    refine br_f (nI_pos (by omega)) (K_ofLand P2 (l := j) (b := 4) hl (by omega) (fun Y3 S3 M3 P3 F3 => ?_))
    rw [zL_4, e4]
    refine br_f (nI_pos (by omega)) (K_ofLand P3 (l := j) (b := 5) hl (by omega) (fun Y4 S4 M4 P4 F4 => ?_))
    rw [zL_5, e5]
    refine br_f (nI_pos (by omega)) (K_ofLand P4 (l := j) (b := 3) hl (by omega) (fun Y5 S5 M5 P5 F5 => ?_))
    rw [zL_3, e3]
    refine br_t (nI_pos' (by omega)) ?_
    rw [nI_1]
    exact ih (j + 1) Y5 S5 M5 P5 (((((F.tr F1).tr F2).tr F3).tr F4).tr F5) (by omega)
theorem L_isSo {Y : mY} {S : mS} {M : mM} (P : nLP g a0 k N Y S M) (hk : k ≤ 1000) {κ : Int32 → mM → Prop} (h : ∀ Y' S' M', nLP g a0 k N Y' S' M' → mFc Y S Y' S' → κ 1 M') : wL_isSo κ (some a0) M := by
  obtain ⟨q, hq, hs⟩ := P.2.2.2.1.2.1
  refine ⟨7, ?_⟩
  exact L_s4 (Y0 := Y) (S0 := S) hk h hq (by show ((((((0 + q 0) + q 1) + q 2) + q 3) + q 4) + q 5) = 30; omega) 6 0 Y S M P (mFc.rf Y S) (by omega)
end LISSO
