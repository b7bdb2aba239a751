/-! THE SIMULATION, 37: plans, of both sides -/
/-- the most of the first m -/
def pM (f : Nat → Nat) : Nat → Nat
  | 0 => 0
  | m + 1 => max (pM f m) (f m)
theorem pM_le {f : Nat → Nat} {b : Nat} : ∀ m, (∀ o, o < m → f o ≤ b) → pM f m ≤ b := by
  intro m
  induction m with
  | zero => intro _; exact Nat.zero_le _
  | succ m ih =>
    intro h
    exact Nat.max_le.mpr ⟨ih (fun o ho => h o (by omega)), h m (by omega)⟩
theorem pM_ge {f : Nat → Nat} {o : Nat} : ∀ m, o < m → f o ≤ pM f m := by
  intro m
  induction m with
  | zero => intro h; omega
  | succ m ih =>
    intro h
    by_cases z : o = m
    · rw [z]; exact Nat.le_max_right _ _
    · exact Nat.le_trans (ih (by omega)) (Nat.le_max_left _ _)
theorem pM_at {f : Nat → Nat} : ∀ m, 0 < m → ∃ o, o < m ∧ pM f m = f o := by
  intro m
  induction m with
  | zero => intro h; omega
  | succ m ih =>
    intro _
    show ∃ o, o < m + 1 ∧ max (pM f m) (f m) = f o
    by_cases z : pM f m ≤ f m
    · exact ⟨m, by omega, Nat.max_eq_right z⟩
    · by_cases w : 0 < m
      · obtain ⟨o, ho, e⟩ := ih w
        exact ⟨o, by omega, by rw [Nat.max_eq_left (by omega), e]⟩
      · have : m = 0 := by omega
        subst this
        exact absurd (Nat.zero_le _) z
/-- most caught: of the last d gates, with sum s -/
def pR (w : Nat → Nat) (n : Nat) : Nat → Nat → Nat
  | 0, _ => 0
  | d + 1, s => pM (fun o => w (n - (d + 1)) * o / 10 + pR w n d (s - o)) (min 10 s + 1)
theorem pR_mono {w : Nat → Nat} {n : Nat} : ∀ d s s', s ≤ s' → pR w n d s ≤ pR w n d s' := by
  intro d
  induction d with
  | zero => intro s s' _; exact Nat.le_refl _
  | succ d ih =>
    intro s s' h
    show pM (fun o => w (n - (d + 1)) * o / 10 + pR w n d (s - o)) (min 10 s + 1) ≤ pM (fun o => w (n - (d + 1)) * o / 10 + pR w n d (s' - o)) (min 10 s' + 1)
    refine pM_le _ (fun o ho => Nat.le_trans (Nat.add_le_add_left (ih (s - o) (s' - o) (by omega)) _) (pM_ge (f := fun o => w (n - (d + 1)) * o / 10 + pR w n d (s' - o)) (o := o) _ (by omega)))
theorem pR_bd {w : Nat → Nat} (hw : ∀ t, w t ≤ 2376) {n : Nat} : ∀ d s, pR w n d s ≤ 2376 * d := by
  intro d
  induction d with
  | zero => intro s; exact Nat.le_refl _
  | succ d ih =>
    intro s
    refine pM_le _ (fun o ho => ?_)
    have h1 := wt10 (hw (n - (d + 1))) (show o ≤ 10 by omega)
    have h2 := ih (s - o)
    show w (n - (d + 1)) * o / 10 + pR w n d (s - o) ≤ 2376 * (d + 1)
    omega
theorem pR_0 {w : Nat → Nat} {n d s : Nat} (h0 : w (n - (d + 1)) = 0) : pR w n (d + 1) s = pR w n d s := by
  refine Nat.le_antisymm (pM_le _ (fun o ho => ?_)) ?_
  · show w (n - (d + 1)) * o / 10 + pR w n d (s - o) ≤ pR w n d s
    rw [h0, Nat.zero_mul, Nat.zero_div, Nat.zero_add]
    exact pR_mono d _ _ (by omega)
  · refine Nat.le_trans ?_ (pM_ge (f := fun o => w (n - (d + 1)) * o / 10 + pR w n d (s - o)) (o := 0) _ (by omega))
    show pR w n d s ≤ w (n - (d + 1)) * 0 / 10 + pR w n d (s - 0)
    rw [Nat.mul_zero, Nat.zero_div, Nat.zero_add, Nat.sub_zero]
    exact Nat.le_refl _
/-- the first that will do -/
def pFi (P : Nat → Bool) : Nat → Nat → Nat
  | 0, o => o
  | d + 1, o => if P o = true then o else pFi P d (o + 1)
theorem pFi_le {P : Nat → Bool} : ∀ d o, o ≤ pFi P d o ∧ pFi P d o ≤ o + d := by
  intro d
  induction d with
  | zero => intro o; exact ⟨Nat.le_refl _, Nat.le_refl _⟩
  | succ d ih =>
    intro o
    unfold pFi
    split
    · omega
    · have := ih (o + 1)
      omega
/-- a choice of odds for gate k will do -/
def pP (w : Nat → Nat) (n k lf : Nat) (rs : Int32) (o : Nat) : Bool := decide (rs ≤ nI (w k * o / 10 + pR w n (n - (k + 1)) (lf - o)))
def pO (w : Nat → Nat) (n k lf : Nat) (rs : Int32) : Nat := pFi (pP w n k lf rs) (min 10 lf) 0
def pGt (w : Nat → Nat) (n : Nat) : Nat → Nat → Nat → Int32 → Nat
  | 0, k, lf, rs => pO w n k lf rs
  | d + 1, k, lf, rs => pGt w n d (k + 1) (lf - pO w n k lf rs) (rs - nI (w k * pO w n k lf rs / 10))
theorem pO_le {w : Nat → Nat} {n k lf : Nat} {rs : Int32} : pO w n k lf rs ≤ min 10 lf := by
  have := (pFi_le (P := pP w n k lf rs) (min 10 lf) 0).2
  unfold pO
  omega
theorem nHw_b {N : mN} {t : Nat} : ∀ j, (∀ p, p < j → ∃ a, a ≤ 99 ∧ nv N 29 p 1 = nI a) → ∃ a, a ≤ 99 * j ∧ nHw N t j = nI a := by
  intro j
  induction j with
  | zero => intro _; exact ⟨0, by omega, rfl⟩
  | succ j ih =>
    intro h
    obtain ⟨a, ha, ea⟩ := ih (fun p hp => h p (by omega))
    unfold nHw
    split
    · obtain ⟨b, hb, eb⟩ := h j (by omega)
      exact ⟨a + b, by omega, by rw [ea, eb, nI_add]⟩
    · exact ⟨a, by omega, ea⟩
/-- hidden worths as numbers -/
def pW (N : mN) (t : Nat) : Nat := min 2376 (tN (nHw N t (nn N 29)))
theorem pW_le (N : mN) (t : Nat) : pW N t ≤ 2376 := Nat.min_le_left _ _
theorem pW_e {N : mN} (B : nB N) (t : Nat) : nHw N t (nn N 29) = nI (pW N t) := by
  obtain ⟨a, ha, e⟩ := nHw_b (N := N) (t := t) (nn N 29) (fun p hp => (B.2.2.2.2.1 p hp).2.1)
  have := B.2.1.2.2
  unfold pW
  rw [e, tN_nI (by omega), Nat.min_eq_right (by omega)]
/-- the smallest sum -/
def pS (w : Nat → Nat) (n pr : Nat) : Nat := pFi (fun s => decide (pr ≤ pR w n n s)) 81 0
def vPlan (N : mN) (pr gt : Int32) : Int32 := if pS (pW N) (nn N 23) (tN pr) = 81 then -1 else if gt = -1 then nI (pS (pW N) (nn N 23) (tN pr)) else nI (pGt (pW N) (nn N 23) (tN gt) 0 (pS (pW N) (nn N 23) (tN pr)) pr)
def fPlan (N : mN) (pr gt : Int32) : mT :=
  if ¬ (gt = -1 ∨ (¬ gt < 0 ∧ gt < nI (nn N 23))) then (1, 0, N)
  else if ¬ (¬ pr < 0 ∧ ¬ 2000 < pr) then (2, 0, N)
  else (0, vPlan N pr gt, N)
/-- the row of a gate: as far as sum s, odds o -/
def pT (w : Nat → Nat) (n k s o : Nat) (F : Nat → Nat) : Prop := (∀ k' s', k < k' → k' ≤ n → s' < 81 → F (k' * 81 + s') = pR w n (n - k') s') ∧ (∀ s', s' < 81 → F (k * 81 + s') = if s' < s then pR w n (n - k) s' else if s' = s then pM (fun o => w k * o / 10 + pR w n (n - (k + 1)) (s - o)) o else 0) ∧ ∀ x, x < k * 81 → F x = 0
section SIM37v
variable {g : Nat → Nat} {Y : mY} {S : mS} {M : mM} {N : mN} {Y0 : mY} {S0 : mS}
/-- what stays to be caught can be caught -/
theorem pO_ok {w : Nat → Nat} (hw : ∀ t, w t ≤ 2376) {n k lf : Nat} (hn : n ≤ 8) (hk : k < n) {rs : Int32} (h : rs.toInt ≤ ((pR w n (n - k) lf : Nat) : Int)) : ∃ o, o ≤ min 10 lf ∧ pP w n k lf rs o = true := by
  rw [show n - k = n - (k + 1) + 1 by omega] at h
  obtain ⟨o, ho, e⟩ := pM_at (f := fun o => w (n - (n - (k + 1) + 1)) * o / 10 + pR w n (n - (k + 1)) (lf - o)) (min 10 lf + 1) (by omega)
  have e' : pR w n (n - (k + 1) + 1) lf = w k * o / 10 + pR w n (n - (k + 1)) (lf - o) := by
    show pM (fun o => w (n - (n - (k + 1) + 1)) * o / 10 + pR w n (n - (k + 1)) (lf - o)) (min 10 lf + 1) = _
    rw [e]
    show w (n - (n - (k + 1) + 1)) * o / 10 + pR w n (n - (k + 1)) (lf - o) = _
    rw [show n - (n - (k + 1) + 1) = k by omega]
  have b2 := pR_bd hw (n := n) (n - (k + 1)) (lf - o)
  have b3 := wt10 (hw k) (show o ≤ 10 by omega)
  refine ⟨o, by omega, decide_eq_true ?_⟩
  rw [Int32.le_iff_toInt_le, nI_toInt (by omega), ← e']
  exact h
theorem pFi_P {P : Nat → Bool} : ∀ d o, (∃ o', o ≤ o' ∧ o' ≤ o + d ∧ P o' = true) → P (pFi P d o) = true := by
  intro d
  induction d with
  | zero =>
    intro o ⟨o', h1, h2, h3⟩
    have : o' = o := by omega
    rw [this] at h3
    exact h3
  | succ d ih =>
    intro o ⟨o', h1, h2, h3⟩
    unfold pFi
    by_cases z : P o = true
    · rw [if_pos z]; exact z
    · rw [if_neg z]
      refine ih (o + 1) ⟨o', ?_, by omega, h3⟩
      by_cases e : o' = o
      · rw [e] at h3; exact absurd h3 z
      · omega
/-- one gate on -/
theorem pO_next {w : Nat → Nat} (hw : ∀ t, w t ≤ 2376) {n k lf : Nat} (hn : n ≤ 8) (hk : k < n) {rs : Int32} (h : rs.toInt ≤ ((pR w n (n - k) lf : Nat) : Int)) (h2 : -(2376 * (k : Int)) ≤ rs.toInt) (h3 : rs.toInt ≤ 2000) : (rs - nI (w k * pO w n k lf rs / 10)).toInt ≤ ((pR w n (n - (k + 1)) (lf - pO w n k lf rs) : Nat) : Int) ∧ -(2376 * ((k + 1 : Nat) : Int)) ≤ (rs - nI (w k * pO w n k lf rs / 10)).toInt ∧ (rs - nI (w k * pO w n k lf rs / 10)).toInt ≤ 2000 := by
  obtain ⟨o', q1, q2⟩ := pO_ok hw hn hk h
  have q := of_decide_eq_true (show pP w n k lf rs (pO w n k lf rs) = true from pFi_P (min 10 lf) 0 ⟨o', Nat.zero_le _, by omega, q2⟩)
  have hl := pO_le (w := w) (n := n) (k := k) (lf := lf) (rs := rs)
  generalize pO w n k lf rs = o at q hl
  have b2 := pR_bd hw (n := n) (n - (k + 1)) (lf - o)
  have b3 := wt10 (hw k) (show o ≤ 10 by omega)
  rw [Int32.le_iff_toInt_le, nI_toInt (by omega)] at q
  have e := I_sub (a := rs) (c := w k * o / 10) (by omega) (by omega) (by omega)
  rw [e]
  refine ⟨?_, ?_, ?_⟩
  · omega
  · omega
  · omega
end SIM37v
