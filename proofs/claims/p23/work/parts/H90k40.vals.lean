/-! THE SIMULATION, 30: what is asked, in numbers; where parts are -/
/-- how many of the first n -/
def nCn (p : Nat → Bool) : Nat → Int32
  | 0 => 0
  | j + 1 => if p j = true then nCn p j + 1 else nCn p j
theorem nCn_t {p : Nat → Bool} {j : Nat} (h : p j = true) : nCn p (j + 1) = nCn p j + 1 := if_pos h
theorem nCn_f {p : Nat → Bool} {j : Nat} (h : ¬ p j = true) : nCn p (j + 1) = nCn p j := if_neg h
theorem nCn_c {p q : Nat → Bool} : ∀ n, (∀ j, j < n → p j = q j) → nCn p n = nCn q n := by
  intro n
  induction n with
  | zero => intro _; rfl
  | succ n ih =>
    intro h
    show (if p n = true then nCn p n + 1 else nCn p n) = if q n = true then nCn q n + 1 else nCn q n
    rw [h n (by omega), ih (fun j hj => h j (by omega))]
/-- a sum over the first n -/
def nSu (f : Nat → Int32) : Nat → Int32
  | 0 => 0
  | j + 1 => nSu f j + f j
/-- where a part is: a land, or -1 -/
def nLo (N : mN) (p : Nat) : Int32 := if nv N 29 p 4 = 999 then -1 else if nv N 29 p 4 < 100 then nv N 28 (tN (nv N 29 p 4)) 0 else nv N 29 p 4 - 100
def vPart (N : mN) (p : Nat) (b : Int32) : Int32 := if b = 0 then nv N 29 p 0 else if b = 1 then nv N 29 p 1 else if b = 2 then nv N 29 p 2 else if b = 3 then nv N 29 p 3 else if b = 4 then nLo N p else if 100 ≤ nv N 29 p 4 then -1 else nv N 29 p 4
def fOfPart (N : mN) (a b : Int32) : mT :=
  if ¬ (¬ a < 0 ∧ a < nI (nn N 29)) then (1, 0, N)
  else if ¬ (¬ b < 0 ∧ ¬ 5 < b) then (2, 0, N)
  else (0, vPart N (tN a) b, N)
def fIsGood (N : mN) (a b : Int32) : mT :=
  if ¬ ((¬ a < 0 ∧ a < nI (nn N 28)) ∧ (¬ b < 0 ∧ b < nI (nn N 23))) then (1, 0, N)
  else (0, (if nGood N (tN a) (tN b) = true then 1 else 0), N)
/-- parts and sleepers of a land -/
def pSt (N : mN) (l p : Nat) : Bool := decide (nv N 29 p 4 = nI (100 + l))
def pSl (N : mN) (l s : Nat) : Bool := decide (nv N 28 s 0 = nI l ∧ ¬ nv N 28 s 3 = 2)
/-- dreams that lie here, and elsewhere -/
def nHe (N : mN) (l : Nat) : Nat → Int32
  | 0 => 0
  | j + 1 => if nLo N j = nI l then nHe N l j ||| m_shl 1 (nv N 29 j 0) else nHe N l j
def nEl (N : mN) (l : Nat) : Nat → Int32
  | 0 => 0
  | j + 1 => if nLo N j = nI l then nEl N l j else nEl N l j ||| m_shl 1 (nv N 29 j 0)
def vWh (N : mN) (l : Nat) : Int32 := nHe N l (nn N 29) &&& (nEl N l (nn N 29) ^^^ (-1))
def vLand (N : mN) (l : Nat) (b : Int32) : Int32 := if b = 0 then nv N 22 l 0 else if b = 1 then nv N 22 l 1 else if b = 2 then nv N 22 l 2 else if b = 3 then nv N 22 l 3 else if b = 4 then nv N 22 l 4 else if b = 5 then nv N 22 l 5 else if b = 6 then nCn (pSt N l) (nn N 29) else if b = 7 then nCn (pSl N l) (nn N 28) else vWh N l
def fOfLand (N : mN) (a b : Int32) : mT :=
  if ¬ (¬ a < 0 ∧ a < 6) then (1, 0, N)
  else if ¬ (¬ b < 0 ∧ ¬ 8 < b) then (2, 0, N)
  else (0, vLand N (tN a) b, N)
/-- the night -/
def pAw (N : mN) (s : Nat) : Bool := decide (nv N 28 s 3 = 2)
def pFa (N : mN) (c : Int32) (p : Nat) : Bool := decide (nv N 29 p 3 = c)
def pGo (N : mN) (p : Nat) : Bool := decide (nv N 29 p 4 = 999)
def vNight (N : mN) (b : Int32) : Int32 := if b = 0 then nv N 20 0 1 else if b = 1 then nv N 20 0 2 else if b = 2 then nI (nn N 23) else if b = 3 then nI (nn N 28) else if b = 4 then nCn (pAw N) (nn N 28) else if b = 5 then nI (nn N 29) else if b = 6 then nCn (pFa N 1) (nn N 29) else if b = 7 then nCn (pFa N 2) (nn N 29) else if b = 8 then nCn (pFa N 3) (nn N 29) else if b = 9 then nCn (pFa N 4) (nn N 29) else if b = 10 then nCn (pFa N 5) (nn N 29) else if b = 11 then nCn (pGo N) (nn N 29) else if b = 12 then nI ((nh N).length / 3) else if b = 13 then nv N 20 0 4 else if b = 14 then nv N 20 0 5 else if b = 15 then nSu (fun l => nv N 22 l 4) 6 else nSu (fun l => nv N 22 l 5) 6
def fNight (N : mN) (b : Int32) : mT :=
  if ¬ (¬ b < 0 ∧ ¬ 16 < b) then (1, 0, N)
  else (0, vNight N b, N)
/-- small numbers -/
theorem b_rg {b : Int32} {n : Nat} (hn : n < 1000) (h : ¬ b < 0 ∧ ¬ nI n < b) : ∃ j, j ≤ n ∧ b = nI j := nI_rg (by omega) h.1 h.2
section SIM30
variable {g : Nat → Nat} {Y : mY} {S : mS} {M : mM} {N : mN}
theorem RC.lo {x : Nat} (R : RC x N Y S) (H : mR g Y S M) (W : mWs Y S) {p : Nat} (hp : p < yn Y 5) : nLo N p = oTo (cWh S p) := by
  have hb := W.2.1
  have h8 := (R.2.2.2.2.2.2.2.1 p hp).1
  have l2 : yn Y 2 = 6 := W.1.2.2.1
  unfold nLo cWh
  rw [h8]
  cases h6 : sX S 5 p 6 with
  | some l =>
    have hl := H.lX (k := 5) (f := 6) (kt := 2) hp rfl l h6
    show (if nI (100 + l) = 999 then (-1 : Int32) else if nI (100 + l) < 100 then nv N 28 (tN (nI (100 + l))) 0 else nI (100 + l) - 100) = nI l
    rw [if_neg (show ¬ nI (100 + l) = 999 from fun w => absurd ((nI_eq (a := 100 + l) (b := 999) (by omega) (by omega)).mp w) (by omega)), if_neg (show ¬ nI (100 + l) < 100 from fun w => absurd ((nI_ltI (a := 100 + l) (b := 100) (by omega) (by omega)).mp w) (by omega)), show (100 : Int32) = nI 100 from rfl, pk_sub (by omega), show 100 + l - 100 = l by omega]
  | none =>
    cases h5 : sX S 5 p 5 with
    | some s =>
      have hs := H.lX (k := 5) (f := 5) (kt := 4) hp rfl s h5
      show (if nI s = 999 then (-1 : Int32) else if nI s < 100 then nv N 28 (tN (nI s)) 0 else nI s - 100) = nI (sN S 4 s 2)
      rw [if_neg (show ¬ nI s = 999 from fun w => absurd ((nI_eq (a := s) (b := 999) (by omega) (by omega)).mp w) (by omega)), if_pos (show nI s < 100 from nI_lt (a := s) (b := 100) (by omega) (by omega)), tN_nI (by omega), R.2.2.2.1 s hs]
    | none => rfl
theorem RC.whI {x : Nat} (R : RC x N Y S) (H : mR g Y S M) (W : mWs Y S) {p l : Nat} (hp : p < yn Y 5) (hl : l < yn Y 2) : cWh S p = some l ↔ nLo N p = nI l := by
  have l2 : yn Y 2 = 6 := W.1.2.2.1
  rw [R.lo H W hp]
  cases h : cWh S p with
  | none => exact ⟨fun w => (by cases w), fun w => absurd (nI_pos (n := l) (by omega)) (fun q => q (by rw [← (show (-1 : Int32) = nI l from w)]; decide))⟩
  | some l' =>
    have hl' := cWh_l H hp l' h
    exact ⟨fun w => by rw [Option.some.inj w]; rfl, fun w => congrArg some ((nI_eq (by omega) (by omega)).mp (show nI l' = nI l from w))⟩
theorem RC.whN {x : Nat} (R : RC x N Y S) (H : mR g Y S M) (W : mWs Y S) {p : Nat} (hp : p < yn Y 5) : cWh S p = none ↔ nv N 29 p 4 = 999 := by
  have hb := W.2.1
  have h8 := (R.2.2.2.2.2.2.2.1 p hp).1
  have l2 : yn Y 2 = 6 := W.1.2.2.1
  unfold cWh
  rw [h8]
  cases h6 : sX S 5 p 6 with
  | some l =>
    have hl := H.lX (k := 5) (f := 6) (kt := 2) hp rfl l h6
    exact ⟨fun w => (by cases w), fun w => absurd ((nI_eq (a := 100 + l) (b := 999) (by omega) (by omega)).mp w) (by omega)⟩
  | none =>
    cases h5 : sX S 5 p 5 with
    | some s =>
      have hs := H.lX (k := 5) (f := 5) (kt := 4) hp rfl s h5
      exact ⟨fun w => (by cases w), fun w => absurd ((nI_eq (a := s) (b := 999) (by omega) (by omega)).mp w) (by omega)⟩
    | none => exact ⟨fun _ => rfl, fun _ => rfl⟩
theorem RC.stI {x : Nat} (R : RC x N Y S) (H : mR g Y S M) (W : mWs Y S) {p l : Nat} (hp : p < yn Y 5) (hl : l < yn Y 2) : sX S 5 p 6 = some l ↔ nv N 29 p 4 = nI (100 + l) := by
  have hb := W.2.1
  have h8 := (R.2.2.2.2.2.2.2.1 p hp).1
  have l2 : yn Y 2 = 6 := W.1.2.2.1
  rw [h8]
  cases h6 : sX S 5 p 6 with
  | some l' =>
    have hl' := H.lX (k := 5) (f := 6) (kt := 2) hp rfl l' h6
    exact ⟨fun w => by rw [Option.some.inj w]; rfl, fun w => congrArg some (by have := (nI_eq (a := 100 + l') (b := 100 + l) (by omega) (by omega)).mp w; omega)⟩
  | none =>
    cases h5 : sX S 5 p 5 with
    | some s =>
      have hs := H.lX (k := 5) (f := 5) (kt := 4) hp rfl s h5
      exact ⟨fun w => (by cases w), fun w => absurd ((nI_eq (a := s) (b := 100 + l) (by omega) (by omega)).mp w) (by omega)⟩
    | none => exact ⟨fun w => (by cases w), fun w => absurd ((nI_eq (a := 999) (b := 100 + l) (by omega) (by omega)).mp w) (by omega)⟩
/-- who asks, leaves the class as it is -/
theorem cX.rf (H : mR g Y S M) (W : mWs Y S) (Q : mWq Y S) (R : RC 99 N Y S) : cX g N Y S Y S M := ⟨H, W, Q, mFc.rf Y S, R⟩
theorem C_inStore_l (R : RC 99 N Y S) (H : mR g Y S M) (W : mWs Y S) {l : Nat} (hl : l < yn Y 2) {κ : Int32 → mM → Prop} (h : κ (nCn (pSt N l) (yn Y 5)) M) : ∀ (d j : Nat), j + d = yn Y 5 → wX8_partsInStore_4 κ (d + 1) (some (yA Y 0 0)) (some (yA Y 2 l)) (nCn (pSt N l) j) (nI j) M := by
  intro d
  induction d with
  | zero =>
    intro j hj
    rw [wX8_partsInStore_4]
    exact c_hdP H W (by omega) (fun e => by rw [e]; exact h) (fun hlt => absurd hlt (by omega))
  | succ d ih =>
    intro j hj
    have ih' : ∀ a : Int32, a = nCn (pSt N l) (j + 1) → wX8_partsInStore_4 κ (d + 1) (some (yA Y 0 0)) (some (yA Y 2 l)) a (nI j + 1) M := fun a e => by rw [nI_1, e]; exact ih (j + 1) (by omega)
    rw [wX8_partsInStore_4]
    refine c_hdP H W (by omega) (fun z => absurd z (by omega)) (fun hlt => ?_)
    have hX := H.lX (k := 5) (f := 6) (kt := 2) hlt rfl
    refine s_gR3 H hlt rfl rfl rfl (br_c (fun z => ih' _ ?_) (fun z => ih' _ ?_))
    · exact (nCn_t (decide_eq_true ((R.stI H W hlt hl).mp ((H.minj hl hX).mp z)))).symm
    · exact (nCn_f (fun w => z ((H.minj hl hX).mpr ((R.stI H W hlt hl).mpr (of_decide_eq_true w))))).symm
theorem C_inStore (R : RC 99 N Y S) (H : mR g Y S M) (W : mWs Y S) {l : Nat} (hl : l < yn Y 2) {κ : Int32 → mM → Prop} (h : κ (nCn (pSt N l) (nn N 29)) M) : wX8_partsInStore κ (some (yA Y 0 0)) (some (yA Y 2 l)) M := by
  rw [← R.1.2.2] at h
  exact ⟨yn Y 5 + 1, C_inStore_l R H W hl h (yn Y 5) 0 (by omega)⟩
theorem C_sleepersIn_l (R : RC 99 N Y S) (H : mR g Y S M) (W : mWs Y S) {l : Nat} (hl : l < yn Y 2) {κ : Int32 → mM → Prop} (h : κ (nCn (pSl N l) (yn Y 4)) M) : ∀ (d j : Nat), j + d = yn Y 4 → wX8_sleepersIn_4 κ (d + 1) (some (yA Y 0 0)) (some (yA Y 2 l)) (nCn (pSl N l) j) (nI j) M := by
  have l2 : yn Y 2 = 6 := W.1.2.2.1
  have hb := W.2.1
  intro d
  induction d with
  | zero =>
    intro j hj
    rw [wX8_sleepersIn_4]
    exact c_hdS H W (by omega) (fun e => by rw [e]; exact h) (fun hlt => absurd hlt (by omega))
  | succ d ih =>
    intro j hj
    have ih' : ∀ a : Int32, a = nCn (pSl N l) (j + 1) → wX8_sleepersIn_4 κ (d + 1) (some (yA Y 0 0)) (some (yA Y 2 l)) a (nI j + 1) M := fun a e => by rw [nI_1, e]; exact ih (j + 1) (by omega)
    rw [wX8_sleepersIn_4]
    refine c_hdS H W (by omega) (fun z => absurd z (by omega)) (fun hlt => ?_)
    have hN := H.lN (k := 4) (f := 2) (kt := 2) hlt rfl
    have e2 := R.2.2.2.1 j hlt
    refine s_gR2 H hlt rfl rfl rfl (br_c (fun z => s_gI H hlt rfl rfl rfl ?_) (fun z => ih' _ ?_))
    · have el := (H.sinj hl hN).mp z
      rw [R.2.1 4 j 4 28 3 rfl hlt (by omega)]
      refine br_c (fun w => ih' _ ?_) (fun w => ih' _ ?_)
      · exact (nCn_f (fun q => (of_decide_eq_true q).2 w)).symm
      · exact (nCn_t (decide_eq_true ⟨by rw [e2, el], w⟩)).symm
    · refine (nCn_f (fun q => z ((H.sinj hl hN).mpr ((nI_eq (by omega) (by omega)).mp ?_)))).symm
      rw [← e2]
      exact (of_decide_eq_true q).1
theorem C_sleepersIn (R : RC 99 N Y S) (H : mR g Y S M) (W : mWs Y S) {l : Nat} (hl : l < yn Y 2) {κ : Int32 → mM → Prop} (h : κ (nCn (pSl N l) (nn N 28)) M) : wX8_sleepersIn κ (some (yA Y 0 0)) (some (yA Y 2 l)) M := by
  rw [← R.1.2.1] at h
  exact ⟨yn Y 4 + 1, C_sleepersIn_l R H W hl h (yn Y 4) 0 (by omega)⟩
theorem C_whole_l (R : RC 99 N Y S) (H : mR g Y S M) (W : mWs Y S) {l : Nat} (hl : l < yn Y 2) {κ : Int32 → mM → Prop} (h : κ (nHe N l (yn Y 5) &&& (nEl N l (yn Y 5) ^^^ (-1))) M) : ∀ (d j : Nat), j + d = yn Y 5 → wX8_wholeDreams_7 κ (d + 1) (some (yA Y 0 0)) (some (yA Y 2 l)) (nHe N l j) (nEl N l j) (nI j) M := by
  intro d
  induction d with
  | zero =>
    intro j hj
    rw [wX8_wholeDreams_7]
    exact c_hdP H W (by omega) (fun e => by rw [e]; exact h) (fun hlt => absurd hlt (by omega))
  | succ d ih =>
    intro j hj
    have ih' : ∀ (a b : Int32), a = nHe N l (j + 1) → b = nEl N l (j + 1) → wX8_wholeDreams_7 κ (d + 1) (some (yA Y 0 0)) (some (yA Y 2 l)) a b (nI j + 1) M := fun a b ea eb => by rw [nI_1, ea, eb]; exact ih (j + 1) (by omega)
    rw [wX8_wholeDreams_7]
    refine c_hdP H W (by omega) (fun z => absurd z (by omega)) (fun hlt => ?_)
    have hM := H.minj hl (cWh_l H hlt)
    refine s_rc H hlt rfl rfl (c_whereabouts H hlt (br_c (fun z => s_gI H hlt rfl rfl rfl ?_) (fun z => s_gI H hlt rfl rfl rfl ?_)))
    · have e := (R.whI H W hlt hl).mp (hM.mp z)
      rw [R.2.1 5 j 1 29 0 rfl hlt (by omega)]
      exact ih' _ _ (if_pos e).symm (if_pos e).symm
    · have e : ¬ nLo N j = nI l := fun w => z (hM.mpr ((R.whI H W hlt hl).mpr w))
      rw [R.2.1 5 j 1 29 0 rfl hlt (by omega)]
      exact ih' _ _ (if_neg e).symm (if_neg e).symm
theorem C_whole (R : RC 99 N Y S) (H : mR g Y S M) (W : mWs Y S) {l : Nat} (hl : l < yn Y 2) {κ : Int32 → mM → Prop} (h : κ (vWh N l) M) : wX8_wholeDreams κ (some (yA Y 0 0)) (some (yA Y 2 l)) M := by
  unfold vWh at h
  rw [← R.1.2.2] at h
  exact ⟨yn Y 5 + 1, C_whole_l R H W hl h (yn Y 5) 0 (by omega)⟩
theorem C_awake_l (R : RC 99 N Y S) (H : mR g Y S M) (W : mWs Y S) {κ : Int32 → mM → Prop} (h : κ (nCn (pAw N) (yn Y 4)) M) : ∀ (d j : Nat), j + d = yn Y 4 → wX8_awakeOnes_4 κ (d + 1) (some (yA Y 0 0)) (nCn (pAw N) j) (nI j) M := by
  have hb := W.2.1
  intro d
  induction d with
  | zero =>
    intro j hj
    rw [wX8_awakeOnes_4]
    exact c_hdS H W (by omega) (fun e => by rw [e]; exact h) (fun hlt => absurd hlt (by omega))
  | succ d ih =>
    intro j hj
    have ih' : ∀ a : Int32, a = nCn (pAw N) (j + 1) → wX8_awakeOnes_4 κ (d + 1) (some (yA Y 0 0)) a (nI j + 1) M := fun a e => by rw [nI_1, e]; exact ih (j + 1) (by omega)
    rw [wX8_awakeOnes_4]
    refine c_hdS H W (by omega) (fun z => absurd z (by omega)) (fun hlt => s_gI H hlt rfl rfl rfl ?_)
    rw [R.2.1 4 j 4 28 3 rfl hlt (by omega)]
    exact br_c (fun w => ih' _ (nCn_t (decide_eq_true w)).symm) (fun w => ih' _ (nCn_f (fun q => w (of_decide_eq_true q))).symm)
theorem C_awake (R : RC 99 N Y S) (H : mR g Y S M) (W : mWs Y S) {κ : Int32 → mM → Prop} (h : κ (nCn (pAw N) (nn N 28)) M) : wX8_awakeOnes κ (some (yA Y 0 0)) M := by
  rw [← R.1.2.1] at h
  exact ⟨yn Y 4 + 1, C_awake_l R H W h (yn Y 4) 0 (by omega)⟩
theorem C_ofFate_l (R : RC 99 N Y S) (H : mR g Y S M) (W : mWs Y S) {c : Int32} {κ : Int32 → mM → Prop} (h : κ (nCn (pFa N c) (yn Y 5)) M) : ∀ (d j : Nat), j + d = yn Y 5 → wX8_partsOfFate_4 κ (d + 1) (some (yA Y 0 0)) c (nCn (pFa N c) j) (nI j) M := by
  intro d
  induction d with
  | zero =>
    intro j hj
    rw [wX8_partsOfFate_4]
    exact c_hdP H W (by omega) (fun e => by rw [e]; exact h) (fun hlt => absurd hlt (by omega))
  | succ d ih =>
    intro j hj
    have ih' : ∀ a : Int32, a = nCn (pFa N c) (j + 1) → wX8_partsOfFate_4 κ (d + 1) (some (yA Y 0 0)) c a (nI j + 1) M := fun a e => by rw [nI_1, e]; exact ih (j + 1) (by omega)
    rw [wX8_partsOfFate_4]
    refine c_hdP H W (by omega) (fun z => absurd z (by omega)) (fun hlt => s_gI H hlt rfl rfl rfl ?_)
    rw [R.2.1 5 j 4 29 3 rfl hlt (by omega)]
    exact br_c (fun w => ih' _ (nCn_t (decide_eq_true w)).symm) (fun w => ih' _ (nCn_f (fun q => w (of_decide_eq_true q))).symm)
theorem C_ofFate (R : RC 99 N Y S) (H : mR g Y S M) (W : mWs Y S) {c : Int32} {κ : Int32 → mM → Prop} (h : κ (nCn (pFa N c) (nn N 29)) M) : wX8_partsOfFate κ (some (yA Y 0 0)) c M := by
  rw [← R.1.2.2] at h
  exact ⟨yn Y 5 + 1, C_ofFate_l R H W h (yn Y 5) 0 (by omega)⟩
theorem C_gone_l (R : RC 99 N Y S) (H : mR g Y S M) (W : mWs Y S) {κ : Int32 → mM → Prop} (h : κ (nCn (pGo N) (yn Y 5)) M) : ∀ (d j : Nat), j + d = yn Y 5 → wX8_goneParts_4 κ (d + 1) (some (yA Y 0 0)) (nCn (pGo N) j) (nI j) M := by
  intro d
  induction d with
  | zero =>
    intro j hj
    rw [wX8_goneParts_4]
    exact c_hdP H W (by omega) (fun e => by rw [e]; exact h) (fun hlt => absurd hlt (by omega))
  | succ d ih =>
    intro j hj
    have ih' : ∀ a : Int32, a = nCn (pGo N) (j + 1) → wX8_goneParts_4 κ (d + 1) (some (yA Y 0 0)) a (nI j + 1) M := fun a e => by rw [nI_1, e]; exact ih (j + 1) (by omega)
    rw [wX8_goneParts_4]
    refine c_hdP H W (by omega) (fun z => absurd z (by omega)) (fun hlt => ?_)
    have hw := R.whN H W hlt
    refine s_rc H hlt rfl rfl (c_whereabouts H hlt (br_c (fun z => ih' _ ?_) (fun z => ih' _ ?_)))
    · exact (nCn_t (decide_eq_true (hw.mp (Option.map_eq_none_iff.mp z)))).symm
    · exact (nCn_f (fun q => z (Option.map_eq_none_iff.mpr (hw.mpr (of_decide_eq_true q))))).symm
theorem C_gone (R : RC 99 N Y S) (H : mR g Y S M) (W : mWs Y S) {κ : Int32 → mM → Prop} (h : κ (nCn (pGo N) (nn N 29)) M) : wX8_goneParts κ (some (yA Y 0 0)) M := by
  rw [← R.1.2.2] at h
  exact ⟨yn Y 5 + 1, C_gone_l R H W h (yn Y 5) 0 (by omega)⟩
theorem C_duties_l (R : RC 99 N Y S) (H : mR g Y S M) (W : mWs Y S) {κ : Int32 → mM → Prop} (h : κ (nSu (fun l => nv N 22 l 4) 6) M) : ∀ (d j : Nat), j + d = 6 → wX8_dutiesOfAll_13 κ (d + 1) (nSu (fun l => nv N 22 l 4) j) (some (yA Y 1 0)) (nI 6) (nI j) M := by
  intro d
  induction d with
  | zero =>
    intro j hj
    have ej : j = 6 := by omega
    rw [wX8_dutiesOfAll_13, ej]
    exact br_t (nI_le (by omega) (by omega)) h
  | succ d ih =>
    intro j hj
    have hl6 : j < 6 := by omega
    rw [wX8_dutiesOfAll_13]
    refine br_f (nI_ge hl6 (by omega)) (s_ldR H W.l1 rfl (by decide) rfl (by rw [W.2.2.2.2.1.1]; exact hl6) (by rw [W.2.2.2.2.1.1]; omega) ?_)
    rw [W.2.2.2.2.1.2 j hl6]
    refine s_gI H (W.l2 hl6) rfl rfl rfl ?_
    rw [R.2.1 2 j 5 22 4 rfl (W.l2 hl6) (by omega), nI_1]
    exact ih (j + 1) (by omega)
theorem C_duties (R : RC 99 N Y S) (H : mR g Y S M) (W : mWs Y S) {κ : Int32 → mM → Prop} (h : κ (nSu (fun l => nv N 22 l 4) 6) M) : wX8_dutiesOfAll κ (some (yA Y 0 0)) M := by
  refine s_gR6 H W.x0 rfl rfl rfl (s_lenR H W.l1 (by decide) rfl ?_)
  rw [W.2.2.2.2.1.1]
  exact ⟨7, C_duties_l R H W h 6 0 (by omega)⟩
theorem C_fines_l (R : RC 99 N Y S) (H : mR g Y S M) (W : mWs Y S) {κ : Int32 → mM → Prop} (h : κ (nSu (fun l => nv N 22 l 5) 6) M) : ∀ (d j : Nat), j + d = 6 → wX8_finesOfAll_13 κ (d + 1) (nSu (fun l => nv N 22 l 5) j) (some (yA Y 1 0)) (nI 6) (nI j) M := by
  intro d
  induction d with
  | zero =>
    intro j hj
    have ej : j = 6 := by omega
    rw [wX8_finesOfAll_13, ej]
    exact br_t (nI_le (by omega) (by omega)) h
  | succ d ih =>
    intro j hj
    have hl6 : j < 6 := by omega
    rw [wX8_finesOfAll_13]
    refine br_f (nI_ge hl6 (by omega)) (s_ldR H W.l1 rfl (by decide) rfl (by rw [W.2.2.2.2.1.1]; exact hl6) (by rw [W.2.2.2.2.1.1]; omega) ?_)
    rw [W.2.2.2.2.1.2 j hl6]
    refine s_gI H (W.l2 hl6) rfl rfl rfl ?_
    rw [R.2.1 2 j 6 22 5 rfl (W.l2 hl6) (by omega), nI_1]
    exact ih (j + 1) (by omega)
theorem C_fines (R : RC 99 N Y S) (H : mR g Y S M) (W : mWs Y S) {κ : Int32 → mM → Prop} (h : κ (nSu (fun l => nv N 22 l 5) 6) M) : wX8_finesOfAll κ (some (yA Y 0 0)) M := by
  refine s_gR6 H W.x0 rfl rfl rfl (s_lenR H W.l1 (by decide) rfl ?_)
  rw [W.2.2.2.2.1.1]
  exact ⟨7, C_fines_l R H W h 6 0 (by omega)⟩
end SIM30
