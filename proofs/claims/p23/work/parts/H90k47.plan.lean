/-! THE SIMULATION, 37: plans, of both sides -/
/-- the most of the first m -/
def pM (f : Nat → Nat) : Nat → Nat
  | 0 => 0
  | m + 1 => max (pM f m) (f m)
theorem pM_le {f : Nat → Nat} {b : Nat} : ∀ m, (∀ o, o < m → f o ≤ b) → pM f m ≤ b := by
  intro m
  induction m with
  | zero => intro _; exact Nat.zero_le _
  | succ m ih =>
    intro h
    exact Nat.max_le.mpr ⟨ih (fun o ho => h o (by omega)), h m (by omega)⟩
theorem pM_ge {f : Nat → Nat} {o : Nat} : ∀ m, o < m → f o ≤ pM f m := by
  intro m
  induction m with
  | zero => intro h; omega
  | succ m ih =>
    intro h
    by_cases z : o = m
    · rw [z]; exact Nat.le_max_right _ _
    · exact Nat.le_trans (ih (by omega)) (Nat.le_max_left _ _)
theorem pM_at {f : Nat → Nat} : ∀ m, 0 < m → ∃ o, o < m ∧ pM f m = f o := by
  intro m
  induction m with
  | zero => intro h; omega
  | succ m ih =>
    intro _
    show ∃ o, o < m + 1 ∧ max (pM f m) (f m) = f o
    by_cases z : pM f m ≤ f m
    · exact ⟨m, by omega, Nat.max_eq_right z⟩
    · by_cases w : 0 < m
      · obtain ⟨o, ho, e⟩ := ih w
        exact ⟨o, by omega, by rw [Nat.max_eq_left (by omega), e]⟩
      · have : m = 0 := by omega
        subst this
        exact absurd (Nat.zero_le _) z
/-- most caught: of the last d gates, with sum s -/
def pR (w : Nat → Nat) (n : Nat) : Nat → Nat → Nat
  | 0, _ => 0
  | d + 1, s => pM (fun o => w (n - (d + 1)) * o / 10 + pR w n d (s - o)) (min 10 s + 1)
theorem pR_mono {w : Nat → Nat} {n : Nat} : ∀ d s s', s ≤ s' → pR w n d s ≤ pR w n d s' := by
  intro d
  induction d with
  | zero => intro s s' _; exact Nat.le_refl _
  | succ d ih =>
    intro s s' h
    show pM (fun o => w (n - (d + 1)) * o / 10 + pR w n d (s - o)) (min 10 s + 1) ≤ pM (fun o => w (n - (d + 1)) * o / 10 + pR w n d (s' - o)) (min 10 s' + 1)
    refine pM_le _ (fun o ho => Nat.le_trans (Nat.add_le_add_left (ih (s - o) (s' - o) (by omega)) _) (pM_ge (f := fun o => w (n - (d + 1)) * o / 10 + pR w n d (s' - o)) (o := o) _ (by omega)))
theorem pR_bd {w : Nat → Nat} (hw : ∀ t, w t ≤ 2376) {n : Nat} : ∀ d s, pR w n d s ≤ 2376 * d := by
  intro d
  induction d with
  | zero => intro s; exact Nat.le_refl _
  | succ d ih =>
    intro s
    refine pM_le _ (fun o ho => ?_)
    have h1 := wt10 (hw (n - (d + 1))) (show o ≤ 10 by omega)
    have h2 := ih (s - o)
    show w (n - (d + 1)) * o / 10 + pR w n d (s - o) ≤ 2376 * (d + 1)
    omega
theorem pR_0 {w : Nat → Nat} {n d s : Nat} (h0 : w (n - (d + 1)) = 0) : pR w n (d + 1) s = pR w n d s := by
  refine Nat.le_antisymm (pM_le _ (fun o ho => ?_)) ?_
  · show w (n - (d + 1)) * o / 10 + pR w n d (s - o) ≤ pR w n d s
    rw [h0, Nat.zero_mul, Nat.zero_div, Nat.zero_add]
    exact pR_mono d _ _ (by omega)
  · refine Nat.le_trans ?_ (pM_ge (f := fun o => w (n - (d + 1)) * o / 10 + pR w n d (s - o)) (o := 0) _ (by omega))
    show pR w n d s ≤ w (n - (d + 1)) * 0 / 10 + pR w n d (s - 0)
    rw [Nat.mul_zero, Nat.zero_div, Nat.zero_add, Nat.sub_zero]
    exact Nat.le_refl _
/-- the first that will do -/
def pFi (P : Nat → Bool) : Nat → Nat → Nat
  | 0, o => o
  | d + 1, o => if P o = true then o else pFi P d (o + 1)
theorem pFi_le {P : Nat → Bool} : ∀ d o, o ≤ pFi P d o ∧ pFi P d o ≤ o + d := by
  intro d
  induction d with
  | zero => intro o; exact ⟨Nat.le_refl _, Nat.le_refl _⟩
  | succ d ih =>
    intro o
    unfold pFi
    split
    · omega
    · have := ih (o + 1)
      omega
/-- a choice of odds for gate k will do -/
def pP (w : Nat → Nat) (n k lf : Nat) (rs : Int32) (o : Nat) : Bool := decide (rs ≤ nI (w k * o / 10 + pR w n (n - (k + 1)) (lf - o)))
def pO (w : Nat → Nat) (n k lf : Nat) (rs : Int32) : Nat := pFi (pP w n k lf rs) (min 10 lf) 0
def pGt (w : Nat → Nat) (n : Nat) : Nat → Nat → Nat → Int32 → Nat
  | 0, k, lf, rs => pO w n k lf rs
  | d + 1, k, lf, rs => pGt w n d (k + 1) (lf - pO w n k lf rs) (rs - nI (w k * pO w n k lf rs / 10))
theorem pO_le {w : Nat → Nat} {n k lf : Nat} {rs : Int32} : pO w n k lf rs ≤ min 10 lf := by
  have := (pFi_le (P := pP w n k lf rs) (min 10 lf) 0).2
  unfold pO
  omega
theorem nHw_b {N : mN} {t : Nat} : ∀ j, (∀ p, p < j → ∃ a, a ≤ 99 ∧ nv N 29 p 1 = nI a) → ∃ a, a ≤ 99 * j ∧ nHw N t j = nI a := by
  intro j
  induction j with
  | zero => intro _; exact ⟨0, by omega, rfl⟩
  | succ j ih =>
    intro h
    obtain ⟨a, ha, ea⟩ := ih (fun p hp => h p (by omega))
    unfold nHw
    split
    · obtain ⟨b, hb, eb⟩ := h j (by omega)
      exact ⟨a + b, by omega, by rw [ea, eb, nI_add]⟩
    · exact ⟨a, by omega, ea⟩
/-- hidden worths as numbers -/
def pW (N : mN) (t : Nat) : Nat := min 2376 (tN (nHw N t (nn N 29)))
theorem pW_le (N : mN) (t : Nat) : pW N t ≤ 2376 := Nat.min_le_left _ _
theorem pW_e {N : mN} (B : nB N) (t : Nat) : nHw N t (nn N 29) = nI (pW N t) := by
  obtain ⟨a, ha, e⟩ := nHw_b (N := N) (t := t) (nn N 29) (fun p hp => (B.2.2.2.2.1 p hp).2.1)
  have := B.2.1.2.2
  unfold pW
  rw [e, tN_nI (by omega), Nat.min_eq_right (by omega)]
/-- the smallest sum -/
def pS (w : Nat → Nat) (n pr : Nat) : Nat := pFi (fun s => decide (pr ≤ pR w n n s)) 81 0
def vPlan (N : mN) (pr gt : Int32) : Int32 := if pS (pW N) (nn N 23) (tN pr) = 81 then -1 else if gt = -1 then nI (pS (pW N) (nn N 23) (tN pr)) else nI (pGt (pW N) (nn N 23) (tN gt) 0 (pS (pW N) (nn N 23) (tN pr)) pr)
def fPlan (N : mN) (pr gt : Int32) : mT :=
  if ¬ (gt = -1 ∨ (¬ gt < 0 ∧ gt < nI (nn N 23))) then (1, 0, N)
  else if ¬ (¬ pr < 0 ∧ ¬ 2000 < pr) then (2, 0, N)
  else (0, vPlan N pr gt, N)
/-- the row of a gate: as far as sum s, odds o -/
def pT (w : Nat → Nat) (n k s o : Nat) (F : Nat → Nat) : Prop := (∀ k' s', k < k' → k' ≤ n → s' < 81 → F (k' * 81 + s') = pR w n (n - k') s') ∧ (∀ s', s' < 81 → F (k * 81 + s') = if s' < s then pR w n (n - k) s' else if s' = s then pM (fun o => w k * o / 10 + pR w n (n - (k + 1)) (s - o)) o else 0) ∧ ∀ x, x < k * 81 → F x = 0
section SIM37v
variable {g : Nat → Nat} {Y : mY} {S : mS} {M : mM} {N : mN} {Y0 : mY} {S0 : mS}
theorem D_c60 {w : Nat → Nat} (hw : ∀ t, w t ≤ 2376) {c0 : Int32} {r n : Nat} (hn : n ≤ 8) {k s : Nat} (hk : k < n) (hs : s < 81) {κ : Option Nat → mM → Prop} {R27 : Option Nat → Int32 → Option Nat → Int32 → mM → Prop} {R51 : Option Nat → Int32 → Option Nat → Int32 → Int32 → Int32 → mM → Prop}
    (hR : ∀ S M F, vZ0 g c0 N Y0 S0 Y S M → vTb Y S r n F → pT w n k s (min 10 s + 1) F → R51 (some (yA Y 20 0)) (nI 81) (some (yA Y 38 r)) (nI k) (nI (w k)) (nI s + 1) M) : ∀ (d o : Nat) (S : mS) (M : mM) (F : Nat → Nat), vZ0 g c0 N Y0 S0 Y S M → vTb Y S r n F → pT w n k s o F → o + d = min 10 s + 1 → wX14_catches_60 κ R27 R51 (d + 1) (some (yA Y 20 0)) (nI 81) (some (yA Y 38 r)) (nI k) (nI (w k)) (nI s) (nI o) M := by
  have hmin : m_min 10 (nI s) = nI (min 10 s) := mI_min 10 s (by omega) (by omega)
  intro d
  induction d with
  | zero =>
    intro o S M F P T D ho
    have eo : o = min 10 s + 1 := by omega
    rw [eo] at D
    rw [wX14_catches_60]
    dsimp only
    rw [hmin]
    exact br_t (nI_lt (by omega) (by omega)) (hR S M F P T D)
  | succ d ih =>
    intro o S M F P T D ho
    obtain ⟨t1, t2, t3⟩ := T
    obtain ⟨d1, d2, d3⟩ := D
    have ho10 : o ≤ 10 := by omega
    have hos : o ≤ s := by omega
    have i1 : nI k * nI 81 + nI s = nI (k * 81 + s) := by rw [pk_mul, nI_add]
    have i2 : (nI k + 1) * nI 81 + nI s - nI o = nI ((k + 1) * 81 + s - o) := by rw [nI_1, pk_mul, nI_add, pk_sub (by omega)]
    have e1 : F (k * 81 + s) = pM (fun o => w k * o / 10 + pR w n (n - (k + 1)) (s - o)) o := by
      rw [d2 s hs, if_neg (Nat.lt_irrefl s), if_pos rfl]
    have e2 : F ((k + 1) * 81 + s - o) = pR w n (n - (k + 1)) (s - o) := by
      rw [show (k + 1) * 81 + s - o = (k + 1) * 81 + (s - o) by omega]
      exact d1 (k + 1) (s - o) (by omega) (by omega) (by omega)
    have b2 := pR_bd hw (n := n) (n - (k + 1)) (s - o)
    have b3 := wt10 (hw k) ho10
    have b4 : w k * o ≤ 2376 * 10 := Nat.mul_le_mul (hw k) ho10
    have b1 : pM (fun o => w k * o / 10 + pR w n (n - (k + 1)) (s - o)) o ≤ 2376 * 8 := pM_le _ (fun o' ho' => by
      have c1 := wt10 (hw k) (show o' ≤ 10 by omega)
      have c2 := pR_bd hw (n := n) (n - (k + 1)) (s - o')
      show w k * o' / 10 + pR w n (n - (k + 1)) (s - o') ≤ 2376 * 8
      omega)
    rw [wX14_catches_60]
    dsimp only
    rw [hmin]
    refine br_f (nI_nlt (by omega) (by omega)) ?_
    rw [i1, i2]
    refine s_ldI P.1.1.1 t1 rfl (by decide) rfl (by rw [t2]; omega) (by rw [t2]; omega) (s_ldI P.1.1.1 t1 rfl (by decide) rfl (by rw [t2]; omega) (by rw [t2]; omega) ?_)
    rw [t3 _ (by omega), t3 _ (by omega), e1, e2]
    have ev : m_max (nI (pM (fun o => w k * o / 10 + pR w n (n - (k + 1)) (s - o)) o)) (nI (w k) * nI o / 10 + nI (pR w n (n - (k + 1)) (s - o))) = nI (pM (fun o => w k * o / 10 + pR w n (n - (k + 1)) (s - o)) (o + 1)) := by
      rw [pk_mul, show (10 : Int32) = nI 10 from rfl, pk_div (by omega) (by omega) (by omega), nI_add, mI_max _ _ (by omega) (by omega)]
      rfl
    rw [ev]
    refine s_stI P.1.1.1 t1 rfl rfl (by rw [t2]; omega) (by rw [t2]; omega) (fun M1 H1 => ?_)
    rw [nI_1]
    refine ih (o + 1) (uE S 38 r (k * 81 + s) (nI (pM (fun o => w k * o / 10 + pR w n (n - (k + 1)) (s - o)) (o + 1)))) M1 (fun x => if x = k * 81 + s then pM (fun o => w k * o / 10 + pR w n (n - (k + 1)) (s - o)) (o + 1) else F x) ⟨vN_E P.1 H1 (by omega), P.2⟩ ⟨t1, t2, fun x hx => ?_⟩ ⟨fun k' s' h1 h2 h3 => ?_, fun s' h3 => ?_, fun x hx => ?_⟩ (by omega)
    · show (if 38 = 38 ∧ r = r ∧ x = k * 81 + s then nI (pM (fun o => w k * o / 10 + pR w n (n - (k + 1)) (s - o)) (o + 1)) else sE S 38 r x) = nI (if x = k * 81 + s then pM (fun o => w k * o / 10 + pR w n (n - (k + 1)) (s - o)) (o + 1) else F x)
      by_cases z : x = k * 81 + s
      · rw [if_pos ⟨rfl, rfl, z⟩, if_pos z]
      · rw [if_neg (fun q => z q.2.2), if_neg z]
        exact t3 x hx
    · show (if k' * 81 + s' = k * 81 + s then _ else F (k' * 81 + s')) = _
      rw [if_neg (by omega)]
      exact d1 k' s' h1 h2 h3
    · show (if k * 81 + s' = k * 81 + s then _ else F (k * 81 + s')) = _
      by_cases z : s' = s
      · rw [if_pos (by omega), if_neg (by omega), if_pos z]
      · rw [if_neg (by omega), d2 s' h3]
        by_cases q : s' < s
        · rw [if_pos q, if_pos q]
        · rw [if_neg q, if_neg q, if_neg z, if_neg z]
    · show (if x = k * 81 + s then _ else F x) = 0
      rw [if_neg (by omega)]
      exact d3 x hx
theorem D_c51 {w : Nat → Nat} (hw : ∀ t, w t ≤ 2376) {c0 : Int32} {r n : Nat} (hn : n ≤ 8) {k : Nat} (hk : k < n) {κ : Option Nat → mM → Prop} {R27 : Option Nat → Int32 → Option Nat → Int32 → mM → Prop}
    (hR : ∀ S M F, vZ0 g c0 N Y0 S0 Y S M → vTb Y S r n F → pT w n k 81 0 F → R27 (some (yA Y 20 0)) (nI 81) (some (yA Y 38 r)) (nI k + (-1)) M) : ∀ (d s : Nat) (S : mS) (M : mM) (F : Nat → Nat), vZ0 g c0 N Y0 S0 Y S M → vTb Y S r n F → pT w n k s 0 F → s + d = 81 → wX14_catches_51 κ R27 (d + 1) (some (yA Y 20 0)) (nI 81) (some (yA Y 38 r)) (nI k) (nI (w k)) (nI s) M := by
  intro d
  induction d with
  | zero =>
    intro s S M F P T D hs
    have es : s = 81 := by omega
    rw [es] at D
    rw [wX14_catches_51]
    exact br_t (nI_le (by omega) (by omega)) (hR S M F P T D)
  | succ d ih =>
    intro s S M F P T D hs
    rw [wX14_catches_51]
    refine br_f (nI_ge (by omega) (by omega)) ⟨min 10 s + 1 + 1, D_c60 hw hn hk (by omega) (fun S M F P T D => ?_) (min 10 s + 1) 0 S M F P T D (by omega)⟩
    rw [nI_1]
    refine ih (s + 1) S M F P T ⟨D.1, fun s' h3 => ?_, D.2.2⟩ (by omega)
    rw [D.2.1 s' h3]
    by_cases z : s' < s
    · rw [if_pos z, if_pos (by omega)]
    · rw [if_neg z]
      by_cases q : s' = s
      · rw [if_pos q, if_pos (by omega), q, show n - k = n - (k + 1) + 1 by omega]
        show _ = pM (fun o => w (n - (n - (k + 1) + 1)) * o / 10 + pR w n (n - (k + 1)) (s - o)) (min 10 s + 1)
        rw [show n - (n - (k + 1) + 1) = k by omega]
      · rw [if_neg q, if_neg (by omega)]
        by_cases q2 : s' = s + 1
        · rw [if_pos q2]; rfl
        · rw [if_neg q2]
theorem D_c27 (B : nB N) {c0 : Int32} {r : Nat} {κ : Option Nat → mM → Prop}
    (h : ∀ S M F, vZ0 g c0 N Y0 S0 Y S M → vTb Y S r (yn Y 23) F → (∀ k s, k ≤ yn Y 23 → s < 81 → F (k * 81 + s) = pR (pW N) (yn Y 23) (yn Y 23 - k) s) → κ (some (yA Y 38 r)) M) : ∀ (d : Nat) (S : mS) (M : mM) (F : Nat → Nat), vZ0 g c0 N Y0 S0 Y S M → vTb Y S r (yn Y 23) F → (∀ k' s', d ≤ k' → k' ≤ yn Y 23 → s' < 81 → F (k' * 81 + s') = pR (pW N) (yn Y 23) (yn Y 23 - k') s') → (∀ x, x < d * 81 → F x = 0) → d ≤ yn Y 23 → wX14_catches_27 κ (d + 1) (some (yA Y 20 0)) (nI 81) (some (yA Y 38 r)) (nI d - 1) M := by
  intro d
  induction d with
  | zero =>
    intro S M F P T D1 D2 hd
    rw [wX14_catches_27]
    exact br_t (by decide) (h S M F P T (fun k s hk hs => D1 k s (by omega) hk hs))
  | succ d ih =>
    intro S M F P T D1 D2 hd
    have H := P.1.1.1
    have V := P.1.1.2.1
    have hb := V.2.1
    have hlt : d < yn Y 23 := by omega
    rw [wX14_catches_27, nI_pred]
    refine br_f (nI_pos (by omega)) (v_G H V hlt (s_rc H V.x0 rfl rfl (D_hw P.1.2.2 H V P.1.1.2.2.1 hlt ?_)))
    rw [pW_e B]
    refine ⟨82, D_c51 (pW_le N) (by omega) hlt (fun S M F P T D => ?_) 81 0 S M F P T ⟨fun k' s' h1 h2 h3 => D1 k' s' (by omega) h2 h3, fun s' h3 => ?_, fun x hx => D2 x (by omega)⟩ (by omega)⟩
    · rw [nI_m1]
      refine ih S M F P T (fun k' s' h1 h2 h3 => ?_) D.2.2 (by omega)
      by_cases z : k' = d
      · rw [z, D.2.1 s' h3, if_pos h3]
      · exact D.1 k' s' (by omega) h2 h3
    · rw [if_neg (Nat.not_lt_zero s'), D2 _ (by omega)]
      by_cases z : s' = 0
      · rw [if_pos z]; rfl
      · rw [if_neg z]
theorem D_catches {c0 : Int32} (P : vZ0 g c0 N Y0 S0 Y S M) {κ : Option Nat → mM → Prop} (h : ∀ Y1 S2 M2 r F, vZ0 g c0 N Y0 S0 Y1 S2 M2 → (∀ k, k ≠ 38 → yn Y1 k = yn Y k) → (∀ k i, i < yn Y k → yA Y1 k i = yA Y k i) → vTb Y1 S2 r (yn Y1 23) F → (∀ k s, k ≤ yn Y1 23 → s < 81 → F (k * 81 + s) = pR (pW N) (yn Y1 23) (yn Y1 23 - k) s) → κ (some (yA Y1 38 r)) M2) : wX14_catches κ (some (yA Y 20 0)) M := by
  have H := P.1.1.1
  have V := P.1.1.2.1
  have hb := V.2.1
  refine s_gR6 H V.x0 rfl rfl rfl (s_rcL H rfl (V.l24 (by omega)) (v_szG H V ?_))
  rw [nI_1, show (81 : Int32) = nI 81 from rfl, pk_mul]
  refine f_row P.1 (by omega) (by omega) (fun Y1 S1 M1 r P1 a hr hC hE => ?_)
  have V1 := P1.1.2.1
  have Z1 : vZ0 g c0 N Y0 S0 Y1 S1 M1 := ⟨P1, (congrFun (a.2.2.2 20 0 (by omega)).1 0).trans P.2⟩
  have n23 := a.2.2.1 23 (by omega)
  rw [← a.1 20 0 V.x0]
  refine s_gR6 P1.1.1 V1.x0 rfl rfl rfl (s_rcL P1.1.1 rfl (V1.l24 (by omega)) (v_szG P1.1.1 V1 ?_))
  refine ⟨yn Y1 23 + 1, D_c27 (nB_of P1.1 P1.2.2) (fun S2 M2 F P2 T D => h Y1 S2 M2 r F P2 a.2.2.1 a.1 T D) (yn Y1 23) S1 M1 (fun _ => 0) Z1 ⟨hr, ?_, fun x _ => by rw [hE]; rfl⟩ (fun k' s' h1 h2 h3 => ?_) (fun _ _ => rfl) (Nat.le_refl _)⟩
  · rw [hC, n23]
  · rw [show yn Y1 23 - k' = 0 by omega]
    rfl
/-- the reference's odds of one gate: they are found, and they are the first -/
theorem D_pn88 {w F : Nat → Nat} (hw : ∀ t, w t ≤ 2376) (H : mR g Y S M) {r n : Nat} (hn : n ≤ 8) (T : vTb Y S r n F) (D : ∀ k s, k ≤ n → s < 81 → F (k * 81 + s) = pR w n (n - k) s) {k lf : Nat} (hk : k < n) (hlf : lf < 81) {gt rs : Int32} {κ : Int32 → mM → Prop} {R55 : Option Nat → Int32 → Int32 → Option Nat → Int32 → Int32 → Int32 → mM → Prop} {x0 : Option Nat}
    (hex : ∃ o, o ≤ min 10 lf ∧ pP w n k lf rs o = true)
    (h1 : nI k = gt → κ (nI (pO w n k lf rs)) M) (h0 : ¬ nI k = gt → R55 x0 gt (nI 81) (some (yA Y 38 r)) (nI lf - nI (pO w n k lf rs)) (rs - nI (w k) * nI (pO w n k lf rs) / 10) (nI k + 1) M) : ∃ u, wX14_planNow_88 κ R55 u x0 gt (nI 81) (some (yA Y 38 r)) (nI lf) rs (nI k) (nI (w k)) (nI 0) M := by
  obtain ⟨t1, t2, t3⟩ := T
  have step : ∀ o, o ≤ min 10 lf → ∀ {W1 W0 : mM → Prop}, (pP w n k lf rs o = true → W1 M) → (¬ pP w n k lf rs o = true → W0 M) → m_ldI M (some (yA Y 38 r)) ((((nI k + 1) * nI 81) + nI lf) - nI o) 0 fun x1 => ((rs ≤ (((nI (w k) * nI o) / 10) + x1) → W1 M) ∧ (¬ (rs ≤ (((nI (w k) * nI o) / 10) + x1)) → W0 M)) := by
    intro o ho W1 W0 hw1 hw0
    have e2 : F ((k + 1) * 81 + lf - o) = pR w n (n - (k + 1)) (lf - o) := by
      rw [show (k + 1) * 81 + lf - o = (k + 1) * 81 + (lf - o) by omega]
      exact D (k + 1) (lf - o) (by omega) (by omega)
    have b3 := wt10 (hw k) (show o ≤ 10 by omega)
    have b4 : w k * o ≤ 2376 * 10 := Nat.mul_le_mul (hw k) (show o ≤ 10 by omega)
    rw [nI_1, pk_mul, nI_add, pk_sub (by omega)]
    refine s_ldI H t1 rfl (by decide) rfl (by rw [t2]; omega) (by rw [t2]; omega) ?_
    rw [t3 _ (by omega), e2, pk_mul, show (10 : Int32) = nI 10 from rfl, pk_div (by omega) (by omega) (by omega), nI_add]
    exact br_c (fun z => hw1 (decide_eq_true z)) (fun z => hw0 (fun q => z (of_decide_eq_true q)))
  have go : ∀ (d o : Nat), o + d = min 10 lf → (∃ o', o ≤ o' ∧ o' ≤ min 10 lf ∧ pP w n k lf rs o' = true) → pO w n k lf rs = pFi (pP w n k lf rs) d o → wX14_planNow_88 κ R55 (d + 1) x0 gt (nI 81) (some (yA Y 38 r)) (nI lf) rs (nI k) (nI (w k)) (nI o) M := by
    intro d
    induction d with
    | zero =>
      intro o ho ⟨o', q1, q2, q3⟩ ep
      have e : o' = o := by omega
      rw [e] at q3
      have ep' : pO w n k lf rs = o := ep
      rw [ep'] at h1 h0
      rw [wX14_planNow_88]
      exact step o (by omega) (W1 := fun M => _) (W0 := fun M => _) (fun _ => br_c h1 h0) (fun z => absurd q3 z)
    | succ d ih =>
      intro o ho ⟨o', q1, q2, q3⟩ ep
      rw [wX14_planNow_88]
      refine step o (by omega) (W1 := fun M => _) (W0 := fun M => _) (fun z => ?_) (fun z => ?_)
      · rw [show pFi (pP w n k lf rs) (d + 1) o = o from if_pos z] at ep
        rw [ep] at h1 h0
        exact br_c h1 h0
      · rw [show pFi (pP w n k lf rs) (d + 1) o = pFi (pP w n k lf rs) d (o + 1) from if_neg z] at ep
        show wX14_planNow_88 κ R55 (d + 1) x0 gt (nI 81) (some (yA Y 38 r)) (nI lf) rs (nI k) (nI (w k)) (nI o + 1) M
        rw [nI_1]
        refine ih (o + 1) (by omega) ⟨o', ?_, q2, q3⟩ ep
        by_cases e : o' = o
        · rw [e] at q3; exact absurd q3 z
        · omega
  obtain ⟨o, h3, h4⟩ := hex
  exact ⟨min 10 lf + 1, go (min 10 lf) 0 (by omega) ⟨o, Nat.zero_le _, h3, h4⟩ rfl⟩
/-- what stays to be caught can be caught -/
theorem pO_ok {w : Nat → Nat} (hw : ∀ t, w t ≤ 2376) {n k lf : Nat} (hn : n ≤ 8) (hk : k < n) {rs : Int32} (h : rs.toInt ≤ ((pR w n (n - k) lf : Nat) : Int)) : ∃ o, o ≤ min 10 lf ∧ pP w n k lf rs o = true := by
  rw [show n - k = n - (k + 1) + 1 by omega] at h
  obtain ⟨o, ho, e⟩ := pM_at (f := fun o => w (n - (n - (k + 1) + 1)) * o / 10 + pR w n (n - (k + 1)) (lf - o)) (min 10 lf + 1) (by omega)
  have e' : pR w n (n - (k + 1) + 1) lf = w k * o / 10 + pR w n (n - (k + 1)) (lf - o) := by
    show pM (fun o => w (n - (n - (k + 1) + 1)) * o / 10 + pR w n (n - (k + 1)) (lf - o)) (min 10 lf + 1) = _
    rw [e]
    show w (n - (n - (k + 1) + 1)) * o / 10 + pR w n (n - (k + 1)) (lf - o) = _
    rw [show n - (n - (k + 1) + 1) = k by omega]
  have b2 := pR_bd hw (n := n) (n - (k + 1)) (lf - o)
  have b3 := wt10 (hw k) (show o ≤ 10 by omega)
  refine ⟨o, by omega, decide_eq_true ?_⟩
  rw [Int32.le_iff_toInt_le, nI_toInt (by omega), ← e']
  exact h
theorem pFi_P {P : Nat → Bool} : ∀ d o, (∃ o', o ≤ o' ∧ o' ≤ o + d ∧ P o' = true) → P (pFi P d o) = true := by
  intro d
  induction d with
  | zero =>
    intro o ⟨o', h1, h2, h3⟩
    have : o' = o := by omega
    rw [this] at h3
    exact h3
  | succ d ih =>
    intro o ⟨o', h1, h2, h3⟩
    unfold pFi
    by_cases z : P o = true
    · rw [if_pos z]; exact z
    · rw [if_neg z]
      refine ih (o + 1) ⟨o', ?_, by omega, h3⟩
      by_cases e : o' = o
      · rw [e] at h3; exact absurd h3 z
      · omega
/-- one gate on -/
theorem pO_next {w : Nat → Nat} (hw : ∀ t, w t ≤ 2376) {n k lf : Nat} (hn : n ≤ 8) (hk : k < n) {rs : Int32} (h : rs.toInt ≤ ((pR w n (n - k) lf : Nat) : Int)) (h2 : -(2376 * (k : Int)) ≤ rs.toInt) (h3 : rs.toInt ≤ 2000) : (rs - nI (w k * pO w n k lf rs / 10)).toInt ≤ ((pR w n (n - (k + 1)) (lf - pO w n k lf rs) : Nat) : Int) ∧ -(2376 * ((k + 1 : Nat) : Int)) ≤ (rs - nI (w k * pO w n k lf rs / 10)).toInt ∧ (rs - nI (w k * pO w n k lf rs / 10)).toInt ≤ 2000 := by
  obtain ⟨o', q1, q2⟩ := pO_ok hw hn hk h
  have q := of_decide_eq_true (show pP w n k lf rs (pO w n k lf rs) = true from pFi_P (min 10 lf) 0 ⟨o', Nat.zero_le _, by omega, q2⟩)
  have hl := pO_le (w := w) (n := n) (k := k) (lf := lf) (rs := rs)
  generalize pO w n k lf rs = o at q hl
  have b2 := pR_bd hw (n := n) (n - (k + 1)) (lf - o)
  have b3 := wt10 (hw k) (show o ≤ 10 by omega)
  rw [Int32.le_iff_toInt_le, nI_toInt (by omega)] at q
  have e := I_sub (a := rs) (c := w k * o / 10) (by omega) (by omega) (by omega)
  rw [e]
  refine ⟨?_, ?_, ?_⟩
  · omega
  · omega
  · omega
theorem D_pn55 {c0 : Int32} {w F : Nat → Nat} (ew : w = pW N) (P : vZ0 g c0 N Y0 S0 Y S M) {r : Nat} (T : vTb Y S r (yn Y 23) F) (D : ∀ k s, k ≤ yn Y 23 → s < 81 → F (k * 81 + s) = pR w (yn Y 23) (yn Y 23 - k) s) {gt : Nat} (hg : gt < yn Y 23) {κ : Int32 → mM → Prop} : ∀ (d k lf : Nat) (rs : Int32), k + d = gt → lf < 81 → rs.toInt ≤ ((pR w (yn Y 23) (yn Y 23 - k) lf : Nat) : Int) → -(2376 * (k : Int)) ≤ rs.toInt → rs.toInt ≤ 2000 → κ (nI (pGt w (yn Y 23) d k lf rs)) M → wX14_planNow_55 κ (d + 1) (some (yA Y 20 0)) (nI gt) (nI 81) (some (yA Y 38 r)) (nI lf) rs (nI k) M := by
  have H := P.1.1.1
  have V := P.1.1.2.1
  have hb := V.2.1
  have B := nB_of P.1.1 P.1.2.2
  have hw : ∀ t, w t ≤ 2376 := by rw [ew]; exact pW_le N
  intro d
  induction d with
  | zero =>
    intro k lf rs hk hlf h1 h2 h3 h
    have ek : k = gt := by omega
    rw [wX14_planNow_55]
    refine v_hdG H V (by omega) (fun z => absurd z (by omega)) (fun hlt => s_rc H V.x0 rfl rfl (D_hw P.1.2.2 H V P.1.1.2.2.1 hlt ?_))
    rw [pW_e B, ← ew]
    exact D_pn88 hw H (by omega) T D hlt hlf (pO_ok hw (by omega) hlt h1) (fun _ => h) (fun z => absurd (by rw [ek]) z)
  | succ d ih =>
    intro k lf rs hk hlf h1 h2 h3 h
    rw [wX14_planNow_55]
    refine v_hdG H V (by omega) (fun z => absurd z (by omega)) (fun hlt => s_rc H V.x0 rfl rfl (D_hw P.1.2.2 H V P.1.1.2.2.1 hlt ?_))
    rw [pW_e B, ← ew]
    have hl := pO_le (w := w) (n := yn Y 23) (k := k) (lf := lf) (rs := rs)
    refine D_pn88 hw H (by omega) T D hlt hlf (pO_ok hw (by omega) hlt h1) (fun z => absurd ((nI_eq (by omega) (by omega)).mp z) (by omega)) (fun _ => ?_)
    obtain ⟨n1, n2, n3⟩ := pO_next hw (by omega) hlt h1 h2 h3
    have b4 : w k * pO w (yn Y 23) k lf rs ≤ 2376 * 10 := Nat.mul_le_mul (hw k) (show pO w (yn Y 23) k lf rs ≤ 10 by omega)
    rw [pk_sub (by omega), pk_mul, show (10 : Int32) = nI 10 from rfl, pk_div (by omega) (by omega) (by omega), nI_1]
    exact ih (k + 1) (lf - pO w (yn Y 23) k lf rs) _ (by omega) (by omega) n1 n2 n3 h
theorem D_planNow {c0 : Int32} (P : vZ0 g c0 N Y0 S0 Y S M) {pr gt : Int32} (hp : ¬ pr < 0 ∧ ¬ 2000 < pr) (hg : gt = -1 ∨ (¬ gt < 0 ∧ gt < nI (nn N 23))) {κ : Int32 → mM → Prop} (h : ∀ Y' S' M', vZ0 g c0 N Y0 S0 Y' S' M' → (∀ k, k ≠ 32 → k ≠ 38 → yn Y' k = yn Y k) → (∀ k i, i < yn Y k → yA Y' k i = yA Y k i) → κ (vPlan N pr gt) M') : wX14_planNow κ (some (yA Y 20 0)) pr gt M := by
  have V := P.1.1.2.1
  have hb := V.2.1
  obtain ⟨p, hp2, ep⟩ := nI_rg (n := 2000) (by omega) hp.1 (show ¬ nI 2000 < pr from hp.2)
  subst ep
  have tp : tN (nI p) = p := tN_nI (by omega)
  unfold vPlan at h
  rw [tp] at h
  refine s_rc P.1.1.1 V.x0 rfl rfl (D_catches P (fun Y1 S2 M2 r F P2 nY aY T D => ?_))
  have e23 : nn N 23 = yn Y1 23 := P2.1.2.2.1.1.symm
  have hb1 := P2.1.1.2.1.2.1
  rw [e23] at h hg
  have hw := pW_le N
  have h' := h Y1 S2 M2 P2 (fun k _ z => nY k z) aY
  rw [← aY 20 0 V.x0]
  have eF : ∀ s, s < 81 → F s = pR (pW N) (yn Y1 23) (yn Y1 23) s := fun s hs => by
    have := D 0 s (Nat.zero_le _) hs
    rw [Nat.zero_mul, Nat.zero_add, Nat.sub_zero] at this
    exact this
  have bF : ∀ s, pR (pW N) (yn Y1 23) (yn Y1 23) s ≤ 2376 * 8 := fun s => Nat.le_trans (pR_bd hw _ s) (by omega)
  have h33 : ∀ j, pS (pW N) (yn Y1 23) p = j → j ≤ 81 → wX14_planNow_33 κ (some (yA Y1 20 0)) (nI p) gt (nI 81) (some (yA Y1 38 r)) (nI j) M2 := by
    intro j ej hj
    rw [ej] at h'
    refine br_c (fun z => ?_) (fun z => br_c (fun q => ?_) (fun q => ?_))
    · have e : j = 81 := (nI_eq (by omega) (by omega)).mp z
      rw [if_pos e] at h'
      exact h'
    · have e : ¬ j = 81 := fun w => z (by rw [w])
      rw [if_neg e, if_pos q] at h'
      exact h'
    · have e : ¬ j = 81 := fun w => z (by rw [w])
      rw [if_neg e, if_neg q] at h'
      obtain ⟨t, ht, et⟩ := nI_of (hg.resolve_left q).1
      have htn : t < yn Y1 23 := (nI_ltI (a := t) (b := yn Y1 23) (by omega) (by omega)).mp (by rw [← et]; exact (hg.resolve_left q).2)
      rw [et, tN_nI (by omega)] at h'
      rw [et]
      refine ⟨t + 1, D_pn55 (w := pW N) rfl P2 T D htn t 0 j (nI p) (by omega) (by omega) ?_ (by rw [nI_toInt (by omega)]; omega) (by rw [nI_toInt (by omega)]; omega) h'⟩
      have hj : j < 81 := by omega
      have pp : (fun s => decide (p ≤ pR (pW N) (yn Y1 23) (yn Y1 23) s)) j = true := by
        have := pFi_le (P := fun s => decide (p ≤ pR (pW N) (yn Y1 23) (yn Y1 23) s)) 81 0
        have key : ∀ d o, pFi (fun s => decide (p ≤ pR (pW N) (yn Y1 23) (yn Y1 23) s)) d o < o + d → (fun s => decide (p ≤ pR (pW N) (yn Y1 23) (yn Y1 23) s)) (pFi (fun s => decide (p ≤ pR (pW N) (yn Y1 23) (yn Y1 23) s)) d o) = true := by
          intro d
          induction d with
          | zero => intro o hh; exact absurd hh (Nat.lt_irrefl _)
          | succ d ih =>
            intro o hh
            unfold pFi at hh ⊢
            by_cases z : decide (p ≤ pR (pW N) (yn Y1 23) (yn Y1 23) o) = true
            · rw [if_pos z]; exact z
            · rw [if_neg z] at hh ⊢
              exact ih (o + 1) (by omega)
        have k2 := key 81 0
        unfold pS at ej
        rw [ej] at k2
        exact k2 (by omega)
      rw [Nat.sub_zero, nI_toInt (by omega)]
      exact Int.ofNat_le.mpr (of_decide_eq_true pp)
  have hl : ∀ (d j : Nat), j + d = 81 → pS (pW N) (yn Y1 23) p = pFi (fun s => decide (p ≤ pR (pW N) (yn Y1 23) (yn Y1 23) s)) d j → wX14_planNow_12 κ (d + 1) (some (yA Y1 20 0)) (nI p) gt (nI 81) (some (yA Y1 38 r)) (nI j) M2 := by
    intro d
    induction d with
    | zero =>
      intro j hj e
      rw [wX14_planNow_12]
      exact br_t (nI_le (by omega) (by omega)) (h33 j e (by omega))
    | succ d ih =>
      intro j hj e
      obtain ⟨t1, t2, t3⟩ := T
      have b := bF j
      rw [wX14_planNow_12]
      refine br_f (nI_ge (by omega) (by omega)) (s_ldI P2.1.1.1 t1 rfl (by decide) rfl (by rw [t2]; omega) (by rw [t2]; omega) ?_)
      rw [t3 _ (by omega), eF j (by omega)]
      have hle : nI p ≤ nI (pR (pW N) (yn Y1 23) (yn Y1 23) j) ↔ p ≤ pR (pW N) (yn Y1 23) (yn Y1 23) j := by
        constructor
        · intro z
          exact Nat.not_lt.mp (fun w => absurd (nI_lt w (by omega)) (Int32.not_lt.mpr z))
        · intro z
          exact nI_le z (by omega)
      refine br_c (fun z => h33 j ?_ (by omega)) (fun z => ?_)
      · rw [e]
        exact if_pos (decide_eq_true (hle.mp z))
      · rw [nI_1]
        refine ih (j + 1) (by omega) ?_
        rw [e]
        exact if_neg (fun w => z (hle.mpr (of_decide_eq_true w)))
  exact ⟨82, hl 81 0 (by omega) rfl⟩
theorem D_plan (P : vN g N Y0 S0 Y S M) {a b : Int32} {κ : Int32 → mM → Prop} (h : ∀ k v N' Y' S' M', fPlan N a b = (k, v, N') → vN g N' Y0 S0 Y' S' M' → sI S' 20 0 0 = k → κ v M') : wX14_plan κ (some (yA Y 20 0)) a b M := by
  unfold fPlan at h
  refine n_th P (fun S1 M1 P1 e1 => ?_)
  have H := P1.1.1
  have V := P1.1.2.1
  have R := P1.2.2
  have hb := V.2.1
  have p24 : (b = -1 ∨ (¬ b < 0 ∧ b < nI (nn N 23))) → wX14_plan_24 κ (some (yA Y 20 0)) a b M1 := fun hg => by
    refine v_is (fun r1 r2 => br_f (by decide) (s_rc H V.x0 rfl rfl (D_planNow (c0 := 0) ⟨P1, e1⟩ ⟨r1, r2⟩ hg (fun Y' S' M' P' _ _ => h 0 _ N Y' S' M' (by rw [if_neg (fun w => w hg), if_neg (fun w => w ⟨r1, r2⟩)]) P'.1 P'.2)))) (fun z => br_t rfl (n_rf P1 (fun S2 M2 P2 e2 => h 2 0 N Y S2 M2 (by rw [if_neg (fun w => w hg), if_pos z]) P2 e2)))
  refine br_c (fun z => p24 (Or.inl z)) (fun z => s_rc H V.x0 rfl rfl (v_isGate H V (fun t ht et => br_f (by decide) (p24 (Or.inr ?_))) (fun w => br_t rfl (n_rf P1 (fun S2 M2 P2 e2 => h 1 0 N Y S2 M2 (by rw [if_pos (fun q => q.elim z (fun q => w (by rw [R.1.1]; exact q)))]) P2 e2)))))
  rw [et, ← R.1.1]
  exact m_in ht (by omega)
end SIM37v
