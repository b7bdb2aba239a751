/-! THE SIMULATION, 43: the checksum, of the class -/
def dl (f : Nat → Int32) : Nat → Int64 → Int64
  | 0, a => a
  | j + 1, a => dl f j a * 31 + Int32.toInt64 (f j)
def dO (F : Nat → Int64 → Int64) : Nat → Int64 → Int64
  | 0, a => a
  | j + 1, a => F j (dO F j a)
def fLd (N : mN) (i b : Nat) : Int32 := vLand N i (nI b)
def fGt (N : mN) (i b : Nat) : Int32 := vGt N i (nI (b + 2))
def fSp (N : mN) (i b : Nat) : Int32 := vSlp N i (nI b)
def fPt (N : mN) (i b : Nat) : Int32 := vPart N i (nI (b + 3))
def fNt (N : mN) (b : Nat) : Int32 := vNight N (nI b)
def fWy (N : mN) (l : Nat) : Int32 := nWf N 0 l 73 0
def oLd (N : mN) (i : Nat) (a : Int64) : Int64 := dl (fLd N i) 9 a
def oGt (N : mN) (i : Nat) (a : Int64) : Int64 := dl (fGt N i) 8 a * 31 + Int32.toInt64 (vWp N i)
def oSp (N : mN) (i : Nat) (a : Int64) : Int64 := dl (fSp N i) 9 a
def oPt (N : mN) (i : Nat) (a : Int64) : Int64 := dl (fPt N i) 3 a
def e240 (N : mN) (a : Int64) : Int64 := (dl (fWy N) 6 a * 31 + Int32.toInt64 (vPlan N 20 (-1))) * 31 + Int32.toInt64 1
def e191 (N : mN) (a : Int64) : Int64 := e240 N (dO (oPt N) (nn N 29) a)
def e141 (N : mN) (a : Int64) : Int64 := e191 N (dO (oSp N) (nn N 28) a)
def e78 (N : mN) (a : Int64) : Int64 := e141 N (dO (oGt N) (nn N 23) a)
def e33 (N : mN) (a : Int64) : Int64 := e78 N (dO (oLd N) 6 a)
def vDig (N : mN) : Int64 := e33 N (dl (fNt N) 17 6007)
theorem fOfLand_i {N : mN} {i j : Nat} (hi : i < 6) (hj : j < 9) : fOfLand N (nI i) (nI j) = (0, fLd N i j, N) := by
  unfold fOfLand
  rw [if_neg (fun w => w (m_in (n := 6) hi (by omega))), if_neg (fun w => w ⟨nI_pos (by omega), nI_nlt (a := 8) (b := j) (by omega) (by omega)⟩), tN_nI (by omega)]
  rfl
theorem fOfGate_i {N : mN} {i j : Nat} (hi : i < nn N 23) (hb : nn N 23 ≤ 8) (hj : j < 8) : fOfGate N (nI i) (nI (j + 2)) = (0, fGt N i j, N) := by
  unfold fOfGate
  rw [if_neg (fun w => w (m_in hi (by omega))), if_neg (fun w => w ⟨nI_pos (by omega), nI_nlt (a := 9) (b := j + 2) (by omega) (by omega)⟩), tN_nI (by omega)]
  rfl
theorem fOfSleeper_i {N : mN} {i j : Nat} (hi : i < nn N 28) (hb : nn N 28 ≤ 12) (hj : j < 9) : fOfSleeper N (nI i) (nI j) = (0, fSp N i j, N) := by
  unfold fOfSleeper
  rw [if_neg (fun w => w (m_in hi (by omega))), if_neg (fun w => w ⟨nI_pos (by omega), nI_nlt (a := 8) (b := j) (by omega) (by omega)⟩), tN_nI (by omega)]
  rfl
theorem fOfPart_i {N : mN} {i j : Nat} (hi : i < nn N 29) (hb : nn N 29 ≤ 24) (hj : j < 3) : fOfPart N (nI i) (nI (j + 3)) = (0, fPt N i j, N) := by
  unfold fOfPart
  rw [if_neg (fun w => w (m_in hi (by omega))), if_neg (fun w => w ⟨nI_pos (by omega), nI_nlt (a := 5) (b := j + 3) (by omega) (by omega)⟩), tN_nI (by omega)]
  rfl
theorem fWouldPay_i {N : mN} {i : Nat} (hi : i < nn N 23) (hb : nn N 23 ≤ 8) : fWouldPay N (nI i) = (0, vWp N i, N) := by
  unfold fWouldPay
  rw [if_neg (fun w => w (m_in hi (by omega))), tN_nI (by omega)]
theorem fNight_i {N : mN} {j : Nat} (hj : j < 17) : fNight N (nI j) = (0, fNt N j, N) := by
  unfold fNight
  rw [if_neg (fun w => w ⟨nI_pos (by omega), nI_nlt (a := 16) (b := j) (by omega) (by omega)⟩)]
  rfl
theorem fWay_i {N : mN} {j : Nat} (hj : j < 6) : fWay N 0 (nI j) = (0, fWy N j, N) := by
  show fWay N (nI 0) (nI j) = _
  unfold fWay
  rw [if_neg (fun w => w ⟨m_in (n := 6) (by omega) (by omega), m_in (n := 6) hj (by omega)⟩), tN_nI (by omega), tN_nI (by omega)]
  rfl
theorem fPlan_i {N : mN} : fPlan N 20 (-1) = (0, vPlan N 20 (-1), N) := by
  unfold fPlan
  rw [if_neg (fun w => w (Or.inl rfl)), if_neg (fun w => w (by decide))]
theorem mT3 {k v : Int32} {w : Int32} {N N' : mN} (e0 : (k, v, N) = ((0 : Int32), w, N')) : w = v ∧ N' = N := ⟨(congrArg (fun x : mT => x.2.1) e0).symm, (congrArg (fun x : mT => x.2.2) e0).symm⟩
section SIM43
variable {g : Nat → Nat} {Y0 : mY} {S0 : mS} {N : mN}
theorem cX.tr {Y Y' : mY} {S S' : mS} {M' : mM} (F : mFc Y0 S0 Y S) (P : cX g N Y S Y' S' M') : cX g N Y0 S0 Y' S' M' := ⟨P.1, P.2.1, P.2.2.1, F.tr P.2.2.2.1, P.2.2.2.2⟩
/-- parts -/
theorem C_d205 (B : nB N) {κ : Int64 → mM → Prop} {R : Option Nat → Int64 → Int32 → mM → Prop} {i : Nat} (hi : i < nn N 29) {a0 : Int64} (hR : ∀ Y S M, cX g N Y0 S0 Y S M → R (some (yA Y 0 0)) (dl (fPt N i) 3 a0) (nI i + 1) M) : ∀ (d j : Nat) (Y : mY) (S : mS) (M : mM), cX g N Y0 S0 Y S M → j + d = 3 → wX8_digest_205 κ R (d + 1) (some (yA Y 0 0)) (dl (fPt N i) j a0) (nI i) (nI (j + 3)) M := by
  intro d
  induction d with
  | zero =>
    intro j Y S M P hj
    have H := P.1
    have W := P.2.1
    rw [wX8_digest_205]
    exact br_t (show (5 : Int32) < nI (j + 3) from nI_lt (a := 5) (by omega) (by omega)) (by rw [show j = 3 by omega]; exact hR Y S M P)
  | succ d ih =>
    intro j Y S M P hj
    have H := P.1
    have W := P.2.1
    have ef := fOfPart_i (N := N) hi B.2.1.2.2 (show j < 3 by omega)
    rw [wX8_digest_205]
    refine br_f (show ¬ (5 : Int32) < nI (j + 3) from nI_nlt (a := 5) (by omega) (by omega)) (s_rc H W.x0 rfl rfl (C_ofPart H W P.2.2.1 P.2.2.2.2 (fun w => absurd (show (0 : Int32) = 1 from by rw [ef] at w; exact w) (by decide)) (fun w => absurd (show (0 : Int32) = 2 from by rw [ef] at w; exact w) (by decide)) (fun v N' Y' S' M' e P' => ?_)))
    rw [ef] at e
    obtain ⟨rfl, rfl⟩ := mT3 e
    have Q := cX.tr P.2.2.2.1 P'
    rw [nI_1, ← P'.2.2.2.1.1 0 0 W.x0]
    exact ih (j + 1) Y' S' M' Q (by omega)
theorem C_d155 (B : nB N) {κ : Int64 → mM → Prop} {R : Option Nat → Int64 → Int32 → mM → Prop} {i : Nat} (hi : i < nn N 28) {a0 : Int64} (hR : ∀ Y S M, cX g N Y0 S0 Y S M → R (some (yA Y 0 0)) (dl (fSp N i) 9 a0) (nI i + 1) M) : ∀ (d j : Nat) (Y : mY) (S : mS) (M : mM), cX g N Y0 S0 Y S M → j + d = 9 → wX8_digest_155 κ R (d + 1) (some (yA Y 0 0)) (dl (fSp N i) j a0) (nI i) (nI j) M := by
  intro d
  induction d with
  | zero =>
    intro j Y S M P hj
    have H := P.1
    have W := P.2.1
    rw [wX8_digest_155]
    exact br_t (show (8 : Int32) < nI j from nI_lt (a := 8) (by omega) (by omega)) (by rw [show j = 9 by omega]; exact hR Y S M P)
  | succ d ih =>
    intro j Y S M P hj
    have H := P.1
    have W := P.2.1
    have ef := fOfSleeper_i (N := N) hi B.2.1.2.1 (show j < 9 by omega)
    rw [wX8_digest_155]
    refine br_f (show ¬ (8 : Int32) < nI j from nI_nlt (a := 8) (by omega) (by omega)) (s_rc H W.x0 rfl rfl (C_ofSleeper H W P.2.2.1 P.2.2.2.2 (fun w => absurd (show (0 : Int32) = 1 from by rw [ef] at w; exact w) (by decide)) (fun w => absurd (show (0 : Int32) = 2 from by rw [ef] at w; exact w) (by decide)) (fun v N' Y' S' M' e P' => ?_)))
    rw [ef] at e
    obtain ⟨rfl, rfl⟩ := mT3 e
    have Q := cX.tr P.2.2.2.1 P'
    rw [nI_1, ← P'.2.2.2.1.1 0 0 W.x0]
    exact ih (j + 1) Y' S' M' Q (by omega)
theorem C_d92 (B : nB N) (I : NI N) (Z : nZ N) {κ : Int64 → mM → Prop} {R : Option Nat → Int64 → Int32 → mM → Prop} {i : Nat} (hi : i < nn N 23) {a0 : Int64} (hR : ∀ Y S M, cX g N Y0 S0 Y S M → R (some (yA Y 0 0)) (oGt N i a0) (nI i + 1) M) : ∀ (d j : Nat) (Y : mY) (S : mS) (M : mM), cX g N Y0 S0 Y S M → j + d = 8 → wX8_digest_92 κ R (d + 1) (some (yA Y 0 0)) (dl (fGt N i) j a0) (nI i) (nI (j + 2)) M := by
  intro d
  induction d with
  | zero =>
    intro j Y S M P hj
    have H := P.1
    have W := P.2.1
    rw [wX8_digest_92]
    have ef := fWouldPay_i (N := N) hi B.2.1.1
    refine br_t (show (9 : Int32) < nI (j + 2) from nI_lt (a := 9) (by omega) (by omega)) (s_rc H W.x0 rfl rfl (C_wouldPay H W P.2.2.1 P.2.2.2.2 B I (fun w => absurd (show (0 : Int32) = 1 from by rw [ef] at w; exact w) (by decide)) (fun v N' Y' S' M' e P' => ?_)))
    rw [ef] at e
    obtain ⟨rfl, rfl⟩ := mT3 e
    rw [show j = 8 by omega, ← P'.2.2.2.1.1 0 0 W.x0]
    exact hR Y' S' M' (cX.tr P.2.2.2.1 P')
  | succ d ih =>
    intro j Y S M P hj
    have H := P.1
    have W := P.2.1
    have ef := fOfGate_i (N := N) hi B.2.1.1 (show j < 8 by omega)
    rw [wX8_digest_92]
    refine br_f (show ¬ (9 : Int32) < nI (j + 2) from nI_nlt (a := 9) (by omega) (by omega)) (s_rc H W.x0 rfl rfl (C_ofGate H W P.2.2.1 P.2.2.2.2 Z (fun w => absurd (show (0 : Int32) = 1 from by rw [ef] at w; exact w) (by decide)) (fun w => absurd (show (0 : Int32) = 2 from by rw [ef] at w; exact w) (by decide)) (fun v N' Y' S' M' e P' => ?_)))
    rw [ef] at e
    obtain ⟨rfl, rfl⟩ := mT3 e
    have Q := cX.tr P.2.2.2.1 P'
    rw [nI_1, ← P'.2.2.2.1.1 0 0 W.x0]
    exact ih (j + 1) Y' S' M' Q (by omega)
theorem C_d42 {κ : Int64 → mM → Prop} {R : Option Nat → Int64 → Int32 → mM → Prop} {i : Nat} (hi : i < 6) {a0 : Int64} (hR : ∀ Y S M, cX g N Y0 S0 Y S M → R (some (yA Y 0 0)) (dl (fLd N i) 9 a0) (nI i + 1) M) : ∀ (d j : Nat) (Y : mY) (S : mS) (M : mM), cX g N Y0 S0 Y S M → j + d = 9 → wX8_digest_42 κ R (d + 1) (some (yA Y 0 0)) (dl (fLd N i) j a0) (nI i) (nI j) M := by
  intro d
  induction d with
  | zero =>
    intro j Y S M P hj
    have H := P.1
    have W := P.2.1
    rw [wX8_digest_42]
    exact br_t (show (8 : Int32) < nI j from nI_lt (a := 8) (by omega) (by omega)) (by rw [show j = 9 by omega]; exact hR Y S M P)
  | succ d ih =>
    intro j Y S M P hj
    have H := P.1
    have W := P.2.1
    have ef := fOfLand_i (N := N) hi (show j < 9 by omega)
    rw [wX8_digest_42]
    refine br_f (show ¬ (8 : Int32) < nI j from nI_nlt (a := 8) (by omega) (by omega)) (s_rc H W.x0 rfl rfl (C_ofLand H W P.2.2.1 P.2.2.2.2 (fun w => absurd (show (0 : Int32) = 1 from by rw [ef] at w; exact w) (by decide)) (fun w => absurd (show (0 : Int32) = 2 from by rw [ef] at w; exact w) (by decide)) (fun v N' Y' S' M' e P' => ?_)))
    rw [ef] at e
    obtain ⟨rfl, rfl⟩ := mT3 e
    have Q := cX.tr P.2.2.2.1 P'
    rw [nI_1, ← P'.2.2.2.1.1 0 0 W.x0]
    exact ih (j + 1) Y' S' M' Q (by omega)
theorem C_d240 (B : nB N) (I : NI N) {a0 : Int64} {κ : Int64 → mM → Prop} (h : ∀ Y S M, cX g N Y0 S0 Y S M → κ (e240 N a0) M) : ∀ (d j : Nat) (Y : mY) (S : mS) (M : mM), cX g N Y0 S0 Y S M → j + d = 6 → wX8_digest_240 κ (d + 1) (some (yA Y 0 0)) (dl (fWy N) j a0) (nI j) M := by
  intro d
  induction d with
  | zero =>
    intro j Y S M P hj
    have H := P.1
    have W := P.2.1
    have ef := fPlan_i (N := N)
    rw [wX8_digest_240]
    refine br_t (show (6 : Int32) ≤ nI j from nI_le (a := 6) (by omega) (by omega)) (s_rc H W.x0 rfl rfl (C_plan H W P.2.2.1 P.2.2.2.2 B (fun w => absurd (show (0 : Int32) = 1 from by rw [ef] at w; exact w) (by decide)) (fun w => absurd (show (0 : Int32) = 2 from by rw [ef] at w; exact w) (by decide)) (fun v N' Y' S' M' e P' => ?_)))
    rw [ef] at e
    obtain ⟨rfl, rfl⟩ := mT3 e
    have Q := cX.tr P.2.2.2.1 P'
    rw [show j = 6 by omega, ← P'.2.2.2.1.1 0 0 W.x0]
    exact s_rc Q.1 Q.2.1.x0 rfl rfl (C_isSound Q.2.2.2.2 Q.1 Q.2.1 B I (br_f (by decide) (h Y' S' M' Q)))
  | succ d ih =>
    intro j Y S M P hj
    have H := P.1
    have W := P.2.1
    have ef := fWay_i (N := N) (show j < 6 by omega)
    rw [wX8_digest_240]
    refine br_f (show ¬ (6 : Int32) ≤ nI j from nI_ge (b := 6) (by omega) (by omega)) (s_rc H W.x0 rfl rfl (C_way H W P.2.2.1 P.2.2.2.2 (fun w => absurd (show (0 : Int32) = 1 from by rw [ef] at w; exact w) (by decide)) (fun v N' Y' S' M' e P' => ?_)))
    rw [ef] at e
    obtain ⟨rfl, rfl⟩ := mT3 e
    rw [nI_1, ← P'.2.2.2.1.1 0 0 W.x0]
    exact ih (j + 1) Y' S' M' (cX.tr P.2.2.2.1 P') (by omega)
theorem C_d191 (B : nB N) (I : NI N) {a0 : Int64} {κ : Int64 → mM → Prop} (h : ∀ Y S M, cX g N Y0 S0 Y S M → κ (e191 N a0) M) : ∀ (d j : Nat) (Y : mY) (S : mS) (M : mM), cX g N Y0 S0 Y S M → j + d = nn N 29 → wX8_digest_191 κ (d + 1) (some (yA Y 0 0)) (dO (oPt N) j a0) (nI j) M := by
  have b1 := B.2.1.1
  have b2 := B.2.1.2.1
  have b3 := B.2.1.2.2
  intro d
  induction d with
  | zero =>
    intro j Y S M P hj
    have H := P.1
    have W := P.2.1
    have c := P.2.2.2.2.1
    rw [wX8_digest_191, show j = nn N 29 by omega]
    unfold e191 at h
    generalize dO (oPt N) (nn N 29) a0 = a1 at h ⊢
    exact s_gR6 H W.x0 rfl rfl rfl (s_rcL H rfl (W.l12 (by omega)) (c_szP H W (br_t (nI_le (by omega) (by omega)) ⟨7, C_d240 B I h 6 0 Y S M P (by omega)⟩)))
  | succ d ih =>
    intro j Y S M P hj
    have H := P.1
    have W := P.2.1
    have c := P.2.2.2.2.1
    rw [wX8_digest_191]
    exact s_gR6 H W.x0 rfl rfl rfl (s_rcL H rfl (W.l12 (by omega)) (c_szP H W (br_f (nI_ge (by omega) (by omega)) ⟨3 + 1, C_d205 B (i := j) (by omega) (fun Y S M P => by rw [nI_1]; exact ih (j + 1) Y S M P (by omega)) 3 0 Y S M P (by omega)⟩)))
theorem C_d141 (B : nB N) (I : NI N) {a0 : Int64} {κ : Int64 → mM → Prop} (h : ∀ Y S M, cX g N Y0 S0 Y S M → κ (e141 N a0) M) : ∀ (d j : Nat) (Y : mY) (S : mS) (M : mM), cX g N Y0 S0 Y S M → j + d = nn N 28 → wX8_digest_141 κ (d + 1) (some (yA Y 0 0)) (dO (oSp N) j a0) (nI j) M := by
  have b1 := B.2.1.1
  have b2 := B.2.1.2.1
  have b3 := B.2.1.2.2
  intro d
  induction d with
  | zero =>
    intro j Y S M P hj
    have H := P.1
    have W := P.2.1
    have c := P.2.2.2.2.1
    rw [wX8_digest_141, show j = nn N 28 by omega]
    unfold e141 at h
    generalize dO (oSp N) (nn N 28) a0 = a1 at h ⊢
    exact s_gR6 H W.x0 rfl rfl rfl (s_rcL H rfl (W.l12 (by omega)) (c_szS H W (br_t (nI_le (by omega) (by omega)) ⟨nn N 29 + 1, C_d191 B I h (nn N 29) 0 Y S M P (by omega)⟩)))
  | succ d ih =>
    intro j Y S M P hj
    have H := P.1
    have W := P.2.1
    have c := P.2.2.2.2.1
    rw [wX8_digest_141]
    exact s_gR6 H W.x0 rfl rfl rfl (s_rcL H rfl (W.l12 (by omega)) (c_szS H W (br_f (nI_ge (by omega) (by omega)) ⟨9 + 1, C_d155 B (i := j) (by omega) (fun Y S M P => by rw [nI_1]; exact ih (j + 1) Y S M P (by omega)) 9 0 Y S M P (by omega)⟩)))
theorem C_d78 (B : nB N) (I : NI N) (Z : nZ N) {a0 : Int64} {κ : Int64 → mM → Prop} (h : ∀ Y S M, cX g N Y0 S0 Y S M → κ (e78 N a0) M) : ∀ (d j : Nat) (Y : mY) (S : mS) (M : mM), cX g N Y0 S0 Y S M → j + d = nn N 23 → wX8_digest_78 κ (d + 1) (some (yA Y 0 0)) (dO (oGt N) j a0) (nI j) M := by
  have b1 := B.2.1.1
  have b2 := B.2.1.2.1
  have b3 := B.2.1.2.2
  intro d
  induction d with
  | zero =>
    intro j Y S M P hj
    have H := P.1
    have W := P.2.1
    have c := P.2.2.2.2.1
    rw [wX8_digest_78, show j = nn N 23 by omega]
    unfold e78 at h
    generalize dO (oGt N) (nn N 23) a0 = a1 at h ⊢
    exact s_gR6 H W.x0 rfl rfl rfl (s_rcL H rfl (W.l12 (by omega)) (c_szG H W (br_t (nI_le (by omega) (by omega)) ⟨nn N 28 + 1, C_d141 B I h (nn N 28) 0 Y S M P (by omega)⟩)))
  | succ d ih =>
    intro j Y S M P hj
    have H := P.1
    have W := P.2.1
    have c := P.2.2.2.2.1
    rw [wX8_digest_78]
    exact s_gR6 H W.x0 rfl rfl rfl (s_rcL H rfl (W.l12 (by omega)) (c_szG H W (br_f (nI_ge (by omega) (by omega)) ⟨8 + 1, C_d92 B I Z (i := j) (by omega) (fun Y S M P => by rw [nI_1]; exact ih (j + 1) Y S M P (by omega)) 8 0 Y S M P (by omega)⟩)))
theorem C_d33 (B : nB N) (I : NI N) (Z : nZ N) {a0 : Int64} {κ : Int64 → mM → Prop} (h : ∀ Y S M, cX g N Y0 S0 Y S M → κ (e33 N a0) M) : ∀ (d j : Nat) (Y : mY) (S : mS) (M : mM), cX g N Y0 S0 Y S M → j + d = 6 → wX8_digest_33 κ (d + 1) (some (yA Y 0 0)) (dO (oLd N) j a0) (nI j) M := by
  intro d
  induction d with
  | zero =>
    intro j Y S M P hj
    rw [wX8_digest_33, show j = 6 by omega]
    unfold e33 at h
    generalize dO (oLd N) 6 a0 = a1 at h ⊢
    exact br_t (show (6 : Int32) ≤ nI 6 from nI_le (a := 6) (by omega) (by omega)) ⟨nn N 23 + 1, C_d78 B I Z h (nn N 23) 0 Y S M P (by omega)⟩
  | succ d ih =>
    intro j Y S M P hj
    rw [wX8_digest_33]
    exact br_f (show ¬ (6 : Int32) ≤ nI j from nI_ge (b := 6) (by omega) (by omega)) ⟨9 + 1, C_d42 (i := j) (by omega) (fun Y S M P => by rw [nI_1]; exact ih (j + 1) Y S M P (by omega)) 9 0 Y S M P (by omega)⟩
theorem C_d6 (B : nB N) (I : NI N) (Z : nZ N) {κ : Int64 → mM → Prop} (h : ∀ Y S M, cX g N Y0 S0 Y S M → κ (vDig N) M) : ∀ (d j : Nat) (Y : mY) (S : mS) (M : mM), cX g N Y0 S0 Y S M → j + d = 17 → wX8_digest_6 κ (d + 1) (some (yA Y 0 0)) (dl (fNt N) j 6007) (nI j) M := by
  intro d
  induction d with
  | zero =>
    intro j Y S M P hj
    rw [wX8_digest_6, show j = 17 by omega]
    unfold vDig at h
    generalize dl (fNt N) 17 6007 = a1 at h ⊢
    exact br_t (show (16 : Int32) < nI 17 from nI_lt (a := 16) (by omega) (by omega)) ⟨7, C_d33 B I Z h 6 0 Y S M P (by omega)⟩
  | succ d ih =>
    intro j Y S M P hj
    have H := P.1
    have W := P.2.1
    have ef := fNight_i (N := N) (show j < 17 by omega)
    rw [wX8_digest_6]
    refine br_f (show ¬ (16 : Int32) < nI j from nI_nlt (a := 16) (by omega) (by omega)) (s_rc H W.x0 rfl rfl (C_night H W P.2.2.1 P.2.2.2.2 (fun w => absurd (show (0 : Int32) = 1 from by rw [ef] at w; exact w) (by decide)) (fun v N' Y' S' M' e P' => ?_)))
    rw [ef] at e
    obtain ⟨rfl, rfl⟩ := mT3 e
    rw [nI_1, ← P'.2.2.2.1.1 0 0 W.x0]
    exact ih (j + 1) Y' S' M' (cX.tr P.2.2.2.1 P') (by omega)
theorem C_digest (B : nB N) (I : NI N) (Z : nZ N) {Y : mY} {S : mS} {M : mM} (P : cX g N Y S Y S M) {κ : Int64 → mM → Prop} (h : ∀ Y' S' M', cX g N Y S Y' S' M' → κ (vDig N) M') : wX8_digest κ (some (yA Y 0 0)) M := ⟨18, C_d6 B I Z h 17 0 Y S M P (by omega)⟩
end SIM43
