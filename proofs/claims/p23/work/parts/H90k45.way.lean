/-! THE SIMULATION, 35: ways, of both sides -/
def nOpn (N : mN) (j : Nat) (hr : Int32) : Bool := decide (¬ nv N 23 j 3 ≤ m_rem ((hr - nv N 23 j 2) + 24) 24)
/-- lands reached in one hour more, by the first gates -/
def nWj (N : mN) (hr : Int32) (X : Nat → Bool) : Nat → Nat → Bool
  | 0 => X
  | j + 1 => fun l => (nWj N hr X j l || (nOpn N j hr && (X (tN (nv N 23 j 0)) && decide (l = tN (nv N 23 j 1))))) || (nOpn N j hr && (X (tN (nv N 23 j 1)) && decide (l = tN (nv N 23 j 0))))
def nWt (N : mN) (c : Nat) : Nat → Nat → Bool
  | 0 => fun l => decide (l = c)
  | t + 1 => nWj N (m_rem (nv N 20 0 2 + nI t) 24) (nWt N c t) (nn N 23)
/-- the first hour when a land is reached -/
def nWf (N : mN) (c l : Nat) : Nat → Nat → Int32
  | 0, _ => -1
  | d + 1, t => if nWt N c t l = true then nI t else nWf N c l d (t + 1)
def fWay (N : mN) (a b : Int32) : mT :=
  if ¬ ((¬ a < 0 ∧ a < 6) ∧ (¬ b < 0 ∧ b < 6)) then (1, 0, N)
  else (0, nWf N (tN a) (tN b) 73 0, N)
theorem nWj_up {N : mN} {hr : Int32} {X : Nat → Bool} {l : Nat} (h : X l = true) : ∀ j, nWj N hr X j l = true := by
  intro j
  induction j with
  | zero => exact h
  | succ j ih =>
    show ((nWj N hr X j l || _) || _) = true
    rw [ih, Bool.true_or, Bool.true_or]
theorem nWf_no {N : mN} {c l : Nat} : ∀ d t, (∀ u, t ≤ u → u < t + d → nWt N c u l = false) → nWf N c l d t = -1 := by
  intro d
  induction d with
  | zero => intro t _; rfl
  | succ d ih =>
    intro t h
    show (if nWt N c t l = true then nI t else nWf N c l d (t + 1)) = -1
    rw [if_neg (by rw [h t (by omega) (by omega)]; decide)]
    exact ih (t + 1) (fun u h1 h2 => h u (by omega) (by omega))
theorem nWf_at {N : mN} {c l u : Nat} (hu : nWt N c u l = true) : ∀ d t, t ≤ u → u < t + d → (∀ v, t ≤ v → v < u → nWt N c v l = false) → nWf N c l d t = nI u := by
  intro d
  induction d with
  | zero => intro t h1 h2 _; omega
  | succ d ih =>
    intro t h1 h2 h3
    show (if nWt N c t l = true then nI t else nWf N c l d (t + 1)) = nI u
    by_cases z : t = u
    · rw [z, if_pos hu]
    · rw [if_neg (by rw [h3 t (by omega) (by omega)]; decide)]
      exact ih (t + 1) (by omega) (by omega) (fun v q1 q2 => h3 v (by omega) q2)
theorem nWt_first {N : mN} {c l : Nat} : ∀ t, nWt N c t l = true → ∃ u, u ≤ t ∧ nWt N c u l = true ∧ ∀ v, v < u → nWt N c v l = false := by
  intro t
  induction t using Nat.strongRecOn with
  | ind t ih =>
    intro h
    by_cases z : ∃ v, v < t ∧ nWt N c v l = true
    · obtain ⟨v, hv, q⟩ := z
      obtain ⟨u, h1, h2, h3⟩ := ih v hv q
      exact ⟨u, by omega, h2, h3⟩
    · refine ⟨t, Nat.le_refl _, h, fun v hv => ?_⟩
      cases q : nWt N c v l with
      | false => rfl
      | true => exact absurd ⟨v, hv, q⟩ z
theorem nWt_mono {N : mN} {c l t : Nat} (h : nWt N c t l = true) : ∀ d, nWt N c (t + d) l = true := by
  intro d
  induction d with
  | zero => exact h
  | succ d ih => exact nWj_up ih _
/-- arrivals while an hour is told: Z: reached by its end as far as told -/
def nFa (N : mN) (c t : Nat) (Z : Nat → Bool) (l : Nat) : Int32 := if nWt N c t l = true then nWf N c l (t + 1) 0 else if Z l = true then nI (t + 1) else -1
theorem nFa_in {N : mN} {c t l : Nat} {Z : Nat → Bool} (h : nWt N c t l = true) : ∃ u, u ≤ t ∧ nFa N c t Z l = nI u := by
  obtain ⟨u, h1, h2, h3⟩ := nWt_first t h
  refine ⟨u, h1, ?_⟩
  rw [show nFa N c t Z l = nWf N c l (t + 1) 0 from if_pos h]
  exact nWf_at h2 (t + 1) 0 (by omega) (by omega) (fun v _ hv => h3 v hv)
theorem nFa_end {N : mN} {c t l : Nat} : nFa N c t (nWt N c (t + 1)) l = nWf N c l (t + 2) 0 := by
  unfold nFa
  by_cases z : nWt N c t l = true
  · obtain ⟨u, h1, h2, h3⟩ := nWt_first t z
    rw [if_pos z, nWf_at h2 (t + 1) 0 (by omega) (by omega) (fun v _ hv => h3 v hv), nWf_at h2 (t + 2) 0 (by omega) (by omega) (fun v _ hv => h3 v hv)]
  · have no : ∀ v, v ≤ t → nWt N c v l = false := fun v hv => by
      cases q : nWt N c v l with
      | false => rfl
      | true =>
        have := nWt_mono q (t - v)
        rw [show v + (t - v) = t by omega] at this
        exact absurd this z
    rw [if_neg z]
    by_cases w : nWt N c (t + 1) l = true
    · rw [if_pos w, nWf_at w (t + 2) 0 (by omega) (by omega) (fun v _ hv => no v (by omega))]
    · rw [if_neg w, nWf_no (t + 2) 0 (fun u _ hu => ?_)]
      by_cases q : u = t + 1
      · rw [q]
        cases r : nWt N c (t + 1) l with
        | false => rfl
        | true => exact absurd r w
      · exact no u (by omega)
theorem nFa_0 {N : mN} {c t l : Nat} : nFa N c t (nWt N c t) l = nWf N c l (t + 1) 0 := by
  unfold nFa
  by_cases z : nWt N c t l = true
  · rw [if_pos z]
  · rw [if_neg z, if_neg z, nWf_no (t + 1) 0 (fun v _ hv => ?_)]
    cases q : nWt N c v l with
    | false => rfl
    | true =>
      have := nWt_mono q (t - v)
      rw [show v + (t - v) = t by omega] at this
      exact absurd this z
section SIM35
variable {g : Nat → Nat} {Y : mY} {N : mN} {c : Nat}
theorem C_cross {S : mS} {M : mM} (H : mR g Y S M) (W : mWs Y S) {a b t : Nat} (ha : a < 6) (hb : b < 6) (ht : t < 1000) {Z : Nat → Bool} (hF : ∀ l, l < 6 → sE S 9 9 l = nFa N c t Z l) {κ : mM → Prop} (h : ∀ S' M', mR g Y S' M' → eqE S' S → (∀ l, l < 6 → sE S' 9 9 l = nFa N c t (fun l => Z l || (nWt N c t a && decide (l = b))) l) → κ M') : wX8_cross κ (some (yA Y 0 0)) (nI a) (nI b) (nI t) M := by
  have ld : ∀ {a : Nat}, a < 6 → ∀ {κ : Int32 → Prop}, κ (nFa N c t Z a) → m_ldI M (some (yA Y 9 9)) (nI a) 0 κ := fun {a} ha {κ} hh => s_ldI H (W.l9 (by omega)) rfl (by decide) rfl (by rw [W.c99]; exact ha) (by rw [W.c99]; omega) (by rw [hF a ha]; exact hh)
  have neg1 : ∀ u : Nat, u < 2000 → ¬ nI u = -1 := fun u hu e => absurd (nI_pos (n := u) (by omega)) (fun q => q (by rw [e]; decide))
  have same : (nWt N c t a = false ∨ Z b = true ∨ nWt N c t b = true) → ∀ l, l < 6 → sE S 9 9 l = nFa N c t (fun l => Z l || (nWt N c t a && decide (l = b))) l := fun q l hl => by
    rw [hF l hl]
    unfold nFa
    by_cases z : nWt N c t l = true
    · rw [if_pos z, if_pos z]
    · rw [if_neg z, if_neg z]
      have e : (Z l || (nWt N c t a && decide (l = b))) = Z l := by
        rcases q with q | q | q
        · rw [q, Bool.false_and, Bool.or_false]
        · by_cases w : l = b
          · rw [w, q, Bool.true_or]
          · rw [decide_eq_false w, Bool.and_false, Bool.or_false]
        · by_cases w : l = b
          · rw [w] at z; exact absurd q z
          · rw [decide_eq_false w, Bool.and_false, Bool.or_false]
      show _ = if (Z l || (nWt N c t a && decide (l = b))) = true then nI (t + 1) else -1
      rw [e]
  have h24 : nWt N c t a = false → wX8_cross_24 κ (some (yA Y 0 0)) (nI b) (nI t) M := fun q => br_t rfl (h S M H (eqE.rf S) (same (Or.inl q)))
  refine s_gR6 H W.x0 rfl rfl rfl (ld ha (br_c (fun z => h24 ?_) (fun z => s_gR6 H W.x0 rfl rfl rfl (ld ha (br_c (fun w => h24 ?_) (fun w => ?_))))))
  · cases q : nWt N c t a with
    | false => rfl
    | true =>
      obtain ⟨u, hu, e⟩ := nFa_in (Z := Z) q
      exact absurd (e.symm.trans z) (neg1 u (by omega))
  · cases q : nWt N c t a with
    | false => rfl
    | true =>
      obtain ⟨u, hu, e⟩ := nFa_in (Z := Z) q
      rw [e] at w
      exact absurd w (nI_nlt (by omega) (by omega))
  · have qa : nWt N c t a = true := by
      cases q : nWt N c t a with
      | true => rfl
      | false =>
        have e : nFa N c t Z a = if Z a = true then nI (t + 1) else -1 := if_neg (by rw [q]; decide)
        rw [e] at z w
        by_cases r : Z a = true
        · rw [if_pos r] at w
          exact absurd (nI_lt (by omega) (by omega)) w
        · rw [if_neg r] at z
          exact absurd rfl z
    refine br_f (by decide) (s_gR6 H W.x0 rfl rfl rfl (ld hb (br_c (fun y => ?_) (fun y => h S M H (eqE.rf S) (same ?_)))))
    · refine s_gR6 H W.x0 rfl rfl rfl (c_arrS H W hb (fun M' H' => h _ M' H' eqE.uE (fun l hl => ?_)))
      have qb : ¬ nWt N c t b = true := fun q => by
        obtain ⟨u, hu, e⟩ := nFa_in (Z := Z) q
        exact absurd (e.symm.trans y) (neg1 u (by omega))
      show (if 9 = 9 ∧ 9 = 9 ∧ l = b then nI t + 1 else sE S 9 9 l) = _
      by_cases w2 : l = b
      · rw [if_pos ⟨rfl, rfl, w2⟩, w2, nI_1]
        unfold nFa
        rw [if_neg qb]
        show _ = if (Z b || (nWt N c t a && decide (b = b))) = true then nI (t + 1) else -1
        rw [qa, decide_eq_true rfl, Bool.and_true, Bool.or_true, if_pos rfl]
      · rw [if_neg (fun q => w2 q.2.2), hF l hl]
        unfold nFa
        show _ = if nWt N c t l = true then nWf N c l (t + 1) 0 else if (Z l || (nWt N c t a && decide (l = b))) = true then nI (t + 1) else -1
        rw [decide_eq_false w2, Bool.and_false, Bool.or_false]
    · by_cases qb : nWt N c t b = true
      · exact Or.inr (Or.inr qb)
      · refine Or.inr (Or.inl ?_)
        have e : nFa N c t Z b = if Z b = true then nI (t + 1) else -1 := if_neg qb
        by_cases r : Z b = true
        · exact r
        · rw [e, if_neg r] at y
          exact absurd rfl y
theorem C_arr43 {S0 : mS} (R : RC 99 N Y S0) {t : Nat} (ht : t < 1000) {κ : mM → Prop} {R35 : Option Nat → Int32 → mM → Prop} (hR : ∀ S M, mR g Y S M → mWs Y S → eqE S S0 → (∀ l, l < 6 → sE S 9 9 l = nWf N c l (t + 2) 0) → R35 (some (yA Y 0 0)) (nI t + 1) M) : ∀ (d j : Nat) (S : mS) (M : mM), mR g Y S M → mWs Y S → eqE S S0 → (∀ l, l < 6 → sE S 9 9 l = nFa N c t (nWj N (m_rem (nv N 20 0 2 + nI t) 24) (nWt N c t) j) l) → j + d = yn Y 3 → wX8_findArrivals_43 κ R35 (d + 1) (some (yA Y 0 0)) (nI t) (nI j) M := by
  intro d
  induction d with
  | zero =>
    intro j S M H W E hF hj
    have ej : j = nn N 23 := by rw [← R.1.1]; omega
    rw [ej] at hF
    rw [wX8_findArrivals_43]
    exact c_hdG H W (by omega) (fun _ => hR S M H W E (fun l hl => (hF l hl).trans nFa_end)) (fun hlt => absurd hlt (by omega))
  | succ d ih =>
    intro j S M H W E hF hj
    have RS : RC 99 N Y S := R.E E
    have ih' : ∀ S M, mR g Y S M → mWs Y S → eqE S S0 → (∀ l, l < 6 → sE S 9 9 l = nFa N c t (nWj N (m_rem (nv N 20 0 2 + nI t) 24) (nWt N c t) (j + 1)) l) → wX8_findArrivals_43 κ R35 (d + 1) (some (yA Y 0 0)) (nI t) (nI j + 1) M := fun S M H W E hF => by rw [nI_1]; exact ih (j + 1) S M H W E hF (by omega)
    rw [wX8_findArrivals_43]
    refine c_hdG H W (by omega) (fun z => absurd z (by omega)) (fun hlt => s_gI H W.x0 rfl rfl rfl ?_)
    rw [RS.2.1 0 0 9 20 2 rfl W.x0 (by omega)]
    have eO : cOpen S j (m_rem (nv N 20 0 2 + nI t) 24) ↔ nOpn N j (m_rem (nv N 20 0 2 + nI t) 24) = true := by
      unfold cOpen nOpn
      rw [RS.2.1 3 j 4 23 3 rfl hlt (by omega), RS.2.1 3 j 3 23 2 rfl hlt (by omega), decide_eq_true_iff]
    have l1 := H.lN (k := 3) (f := 1) (kt := 2) hlt rfl
    have l2 := H.lN (k := 3) (f := 2) (kt := 2) hlt rfl
    have b1 := W.l2' l1
    have b2 := W.l2' l2
    have g1 : tN (nv N 23 j 0) = sN S 3 j 1 := by rw [(RS.2.2.1 j hlt).1, tN_nI (by omega)]
    have g2 : tN (nv N 23 j 1) = sN S 3 j 2 := by rw [(RS.2.2.1 j hlt).2.1, tN_nI (by omega)]
    have step : ∀ l, nWj N (m_rem (nv N 20 0 2 + nI t) 24) (nWt N c t) (j + 1) l = ((nWj N (m_rem (nv N 20 0 2 + nI t) 24) (nWt N c t) j l || (nOpn N j (m_rem (nv N 20 0 2 + nI t) 24) && (nWt N c t (sN S 3 j 1) && decide (l = sN S 3 j 2)))) || (nOpn N j (m_rem (nv N 20 0 2 + nI t) 24) && (nWt N c t (sN S 3 j 2) && decide (l = sN S 3 j 1)))) := fun l => by
      rw [← g1, ← g2]
      rfl
    refine s_rc H hlt rfl rfl (c_isOpenAt H hlt (fun zo => br_f (by decide) ?_) (fun zo => br_t rfl (ih' S M H W E (fun l hl => ?_))))
    · have zo := eO.mp zo
      refine s_gR2 H hlt rfl rfl rfl (s_gI H l1 rfl rfl rfl (s_gR2 H hlt rfl rfl rfl (s_gI H l2 rfl rfl rfl (s_rc H W.x0 rfl rfl ?_))))
      rw [W.2.2.2.1.1 _ b1, W.2.2.2.1.1 _ b2]
      refine C_cross H W b1 b2 ht hF (fun S1 M1 H1 E1 hF1 => ?_)
      have W1 := W.E E1
      refine s_gR2 H1 hlt rfl rfl rfl (s_gI H1 (by rw [E1.2.2.2.1]; exact l2) rfl rfl rfl (s_gR2 H1 hlt rfl rfl rfl (s_gI H1 (by rw [E1.2.2.2.1]; exact l1) rfl rfl rfl (s_rc H1 W.x0 rfl rfl ?_))))
      rw [E1.2.2.2.1, W1.2.2.2.1.1 _ b1, W1.2.2.2.1.1 _ b2]
      refine C_cross H1 W1 b2 b1 ht hF1 (fun S2 M2 H2 E2 hF2 => ih' S2 M2 H2 (W1.E E2) (E2.tr (E1.tr E)) (fun l hl => (hF2 l hl).trans ?_))
      unfold nFa
      dsimp only
      rw [step l, zo, Bool.true_and, Bool.true_and]
    · have zo : nOpn N j (m_rem (nv N 20 0 2 + nI t) 24) = false := by
        cases q : nOpn N j (m_rem (nv N 20 0 2 + nI t) 24) with
        | false => rfl
        | true => exact absurd (eO.mpr q) zo
      rw [hF l hl]
      unfold nFa
      rw [step l, zo, Bool.false_and, Bool.false_and, Bool.or_false, Bool.or_false]
theorem C_arr35 {S0 : mS} (R : RC 99 N Y S0) {κ : mM → Prop} (h : ∀ S M, mR g Y S M → mWs Y S → eqE S S0 → (∀ l, l < 6 → sE S 9 9 l = nWf N c l 73 0) → κ M) : ∀ (d t : Nat) (S : mS) (M : mM), mR g Y S M → mWs Y S → eqE S S0 → (∀ l, l < 6 → sE S 9 9 l = nWf N c l (t + 1) 0) → t + d = 72 → wX8_findArrivals_35 κ (d + 1) (some (yA Y 0 0)) (nI t) M := by
  intro d
  induction d with
  | zero =>
    intro t S M H W E hF hj
    have et : t = 72 := by omega
    rw [et] at hF
    rw [wX8_findArrivals_35]
    exact br_t (show (72 : Int32) ≤ nI t from nI_le (a := 72) (by omega) (by omega)) (h S M H W E hF)
  | succ d ih =>
    intro t S M H W E hF hj
    rw [wX8_findArrivals_35]
    refine br_f (show ¬ (72 : Int32) ≤ nI t from nI_ge (b := 72) (by omega) (by omega)) ⟨yn Y 3 + 1, C_arr43 (c := c) R (by omega) (fun S M H W E hF => ?_) (yn Y 3) 0 S M H W E (fun l hl => (hF l hl).trans nFa_0.symm) (by omega)⟩
    rw [nI_1]
    exact ih (t + 1) S M H W E hF (by omega)
theorem C_arr2 {S0 : mS} (R : RC 99 N Y S0) {l : Nat} (hl : l < 6) {κ : mM → Prop} (h : ∀ S M, mR g Y S M → mWs Y S → eqE S S0 → (∀ i, i < 6 → sE S 9 9 i = nWf N l i 73 0) → κ M) : ∀ (d j : Nat) (S : mS) (M : mM), mR g Y S M → mWs Y S → eqE S S0 → (∀ i, i < j → sE S 9 9 i = nWf N l i 1 0) → j + d = 6 → wX8_findArrivals_2 κ (d + 1) (some (yA Y 0 0)) (some (yA Y 2 l)) (nI j) M := by
  intro d
  induction d with
  | zero =>
    intro j S M H W E hF hj
    rw [wX8_findArrivals_2]
    exact br_t (show (6 : Int32) ≤ nI j from nI_le (a := 6) (by omega) (by omega)) ⟨73, C_arr35 R h 72 0 S M H W E (fun i hi => hF i (by omega)) (by omega)⟩
  | succ d ih =>
    intro j S M H W E hF hj
    have hj6 : j < 6 := by omega
    have ih' : ∀ v, v = nWf N l j 1 0 → wX8_findArrivals_26 κ (wX8_findArrivals_2 κ (d + 1)) (some (yA Y 0 0)) (some (yA Y 2 l)) (nI j) v (nI j) (some (yA Y 9 9)) M := fun v ev => c_arrS H W hj6 (fun M' H' => by
      rw [nI_1]
      refine ih (j + 1) (uE S 9 9 j v) M' H' W.uE (eqE.uE.tr E) (fun i hi => ?_) (by omega)
      show (if 9 = 9 ∧ 9 = 9 ∧ i = j then v else sE S 9 9 i) = _
      by_cases z : i = j
      · rw [if_pos ⟨rfl, rfl, z⟩, z, ev]
      · rw [if_neg (fun q => z q.2.2)]
        exact hF i (by omega))
    rw [wX8_findArrivals_2]
    refine br_f (show ¬ (6 : Int32) ≤ nI j from nI_ge (b := 6) (by omega) (by omega)) (s_gR6 H W.x0 rfl rfl rfl (s_gI H (W.l2 hl) rfl rfl rfl ?_))
    rw [W.2.2.2.1.1 l hl]
    refine br_c (fun z => ih' _ ?_) (fun z => ih' _ ?_)
    · have e := (nI_eq (by omega) (by omega)).mp z
      show (0 : Int32) = if decide (j = l) = true then nI 0 else -1
      rw [decide_eq_true e, if_pos rfl]
      rfl
    · show (-1 : Int32) = if decide (j = l) = true then nI 0 else -1
      rw [decide_eq_false (fun w => z (by rw [w]))]
      rfl
theorem C_way {S : mS} {M : mM} (H : mR g Y S M) (W : mWs Y S) (Q : mWq Y S) (R : RC 99 N Y S) {a b : Int32} {κ : Int32 → mM → Prop} {ξ : String → mM → Prop} (h1 : (fWay N a b).1 = 1 → ξ "java/lang/IndexOutOfBoundsException" M)
    (h : ∀ v N' Y' S' M', fWay N a b = (0, v, N') → cX g N' Y S Y' S' M' → κ v M') : wX8_way κ ξ (some (yA Y 0 0)) a b M := by
  unfold fWay at h1 h
  refine s_rc H W.x0 rfl rfl (c_landN H W (fun l hl el => ?_) (fun z => h1 (by rw [if_pos (fun q => z q.1)])))
  refine s_rc H W.x0 rfl rfl (c_landN H W (fun l' hl' el' => ?_) (fun z => h1 (by rw [if_pos (fun q => z q.2)])))
  have ha : (¬ a < 0 ∧ a < 6) ∧ (¬ b < 0 ∧ b < 6) := ⟨by rw [el]; exact m_in (n := 6) hl (by omega), by rw [el']; exact m_in (n := 6) hl' (by omega)⟩
  rw [if_neg (fun w => w ha), el, el', tN_nI (by omega), tN_nI (by omega)] at h
  refine s_rc H W.x0 rfl rfl ⟨7, C_arr2 (S0 := S) R hl (fun S1 M1 H1 W1 E1 hF => ?_) 6 0 S M H W (eqE.rf S) (fun i hi => absurd hi (by omega)) (by omega)⟩
  refine s_gR6 H1 W.x0 rfl rfl rfl (s_gI H1 (W.l2 hl') rfl rfl rfl ?_)
  rw [W1.2.2.2.1.1 _ hl']
  refine s_ldI H1 (W1.l9 (by omega)) rfl (by decide) rfl (by rw [W1.c99]; exact hl') (by rw [W1.c99]; omega) ?_
  rw [hF l' hl']
  exact h _ N Y S1 M1 rfl ⟨H1, W1, Q.of (fun t => by rw [E1.2.2.2.2.1]) (fun s => by rw [E1.2.2.1]) (fun s => by rw [E1.1]), mFc.E E1, R.E E1⟩
end SIM35
section SIM35v
variable {g : Nat → Nat} {Y : mY} {S : mS} {M : mM} {N : mN} {Y0 : mY} {S0 : mS} {c : Nat}
theorem zb_sh1 {x : Int32} {l : Nat} (hl : l < 32) : ((m_shr x (nI l)) &&& 1) = 1 ↔ zb x l = true := by
  rw [and_10, zb_shr x hl]
  cases zb x l <;> simp
theorem D_wn32 (R : RV N Y S) (H : mR g Y S M) (V : mVs Y S) (VV : mVv Y S) {t : Nat} (ht : t < 1000) {l2 x : Int32} (hx : ∀ l, l < 6 → zb x l = nWt N c t l) {κ : Int32 → mM → Prop} {R7 : Option Nat → Int32 → Int32 → Int32 → mM → Prop} (hR : ∀ z, (∀ l, l < 6 → zb z l = nWt N c (t + 1) l) → R7 (some (yA Y 20 0)) l2 z (nI t + 1) M) : ∀ (d j : Nat) (z : Int32), (∀ l, l < 6 → zb z l = nWj N (m_rem (nv N 20 0 2 + nI t) 24) (nWt N c t) j l) → j + d = yn Y 23 → wX14_wayNow_32 κ R7 (d + 1) (some (yA Y 20 0)) l2 x (nI t) z (nI j) M := by
  have hb := V.2.1
  intro d
  induction d with
  | zero =>
    intro j z hz hj
    have ej : j = nn N 23 := by rw [← R.1.1]; omega
    rw [ej] at hz
    rw [wX14_wayNow_32]
    exact v_hdG H V (by omega) (fun _ => hR z hz) (fun hlt => absurd hlt (by omega))
  | succ d ih =>
    intro j z hz hj
    have i129 : ∀ z, (∀ l, l < 6 → zb z l = nWj N (m_rem (nv N 20 0 2 + nI t) 24) (nWt N c t) (j + 1) l) → wX14_wayNow_129 κ R7 (wX14_wayNow_32 κ R7 (d + 1)) (some (yA Y 20 0)) l2 x (nI t) z (nI j) M := fun z hz => by
      unfold wX14_wayNow_129
      rw [nI_1]
      exact ih (j + 1) z hz (by omega)
    rw [wX14_wayNow_32]
    refine v_hdG H V (by omega) (fun z => absurd z (by omega)) (fun hlt => s_gI H V.x0 rfl rfl rfl ?_)
    rw [R.2.1 20 0 2 rfl V.x0]
    obtain ⟨a, ha, ea⟩ := VV.1 23 j 0 hlt
    obtain ⟨b, hb', eb⟩ := VV.1 23 j 1 hlt
    have na : nv N 23 j 0 = nI a := (R.2.1 23 j 0 rfl hlt).symm.trans ea
    have nb : nv N 23 j 1 = nI b := (R.2.1 23 j 1 rfl hlt).symm.trans eb
    have step : ∀ l, nWj N (m_rem (nv N 20 0 2 + nI t) 24) (nWt N c t) (j + 1) l = ((nWj N (m_rem (nv N 20 0 2 + nI t) 24) (nWt N c t) j l || (nOpn N j (m_rem (nv N 20 0 2 + nI t) 24) && (nWt N c t a && decide (l = b)))) || (nOpn N j (m_rem (nv N 20 0 2 + nI t) 24) && (nWt N c t b && decide (l = a)))) := fun l => by
      show ((nWj N (m_rem (nv N 20 0 2 + nI t) 24) (nWt N c t) j l || (nOpn N j (m_rem (nv N 20 0 2 + nI t) 24) && (nWt N c t (tN (nv N 23 j 0)) && decide (l = tN (nv N 23 j 1))))) || (nOpn N j (m_rem (nv N 20 0 2 + nI t) 24) && (nWt N c t (tN (nv N 23 j 1)) && decide (l = tN (nv N 23 j 0))))) = _
      rw [na, nb, tN_nI (by omega), tN_nI (by omega)]
    have sh : ∀ {u l : Nat}, u < 6 → l < 6 → zb (m_shl 1 (nI u)) l = decide (l = u) := fun {u l} hu hl => zb_shl u (by omega) l (by omega)
    have op : ∀ hr : Int32, wX10_isOpen = wX10_isOpen → True := fun _ _ => trivial
    have i104 : nOpn N j (m_rem (nv N 20 0 2 + nI t) 24) = true → ∀ y, (∀ l, l < 6 → zb y l = (nWj N (m_rem (nv N 20 0 2 + nI t) 24) (nWt N c t) j l || (nWt N c t a && decide (l = b)))) → wX14_wayNow_104 κ R7 (wX14_wayNow_32 κ R7 (d + 1)) (some (yA Y 20 0)) l2 x (nI t) y (nI j) (some (yA Y 23 j)) M := fun zo y hy => by
      refine s_gI H hlt rfl rfl rfl ?_
      rw [eb]
      refine br_c (fun q => s_gI H hlt rfl rfl rfl ?_) (fun q => i129 y (fun l hl => ?_))
      · rw [ea]
        refine i129 _ (fun l hl => ?_)
        rw [zb_sh1 (by omega), hx b hb'] at q
        rw [zb_or, hy l hl, sh ha hl, step l, zo, q, Bool.true_and, Bool.true_and, Bool.true_and]
      · have q' : nWt N c t b = false := by
          cases r : nWt N c t b with
          | false => rfl
          | true => exact absurd ((zb_sh1 (by omega)).mpr ((hx b hb').trans r)) q
        rw [hy l hl, step l, zo, q', Bool.true_and, Bool.false_and, Bool.and_false, Bool.or_false]
    refine s_rc H hlt rfl rfl (s_gI H hlt rfl rfl rfl (s_gI H hlt rfl rfl rfl ?_))
    rw [R.2.1 23 j 2 rfl hlt, R.2.1 23 j 3 rfl hlt, show m_rem (nv N 20 0 2 + nI t) 24 + 24 - nv N 23 j 2 = m_rem (nv N 20 0 2 + nI t) 24 - nv N 23 j 2 + 24 from by rw [Int32.sub_eq_add_neg, Int32.sub_eq_add_neg, Int32.add_assoc, Int32.add_assoc, Int32.add_comm 24]]
    refine br_c (fun zc => br_t rfl (i129 z (fun l hl => ?_))) (fun zc => br_f (by decide) (s_gI H hlt rfl rfl rfl ?_))
    · have zo : nOpn N j (m_rem (nv N 20 0 2 + nI t) 24) = false := decide_eq_false (fun w => w zc)
      rw [hz l hl, step l, zo, Bool.false_and, Bool.false_and, Bool.or_false, Bool.or_false]
    · have zo : nOpn N j (m_rem (nv N 20 0 2 + nI t) 24) = true := decide_eq_true zc
      rw [ea]
      refine br_c (fun q => s_gI H hlt rfl rfl rfl ?_) (fun q => i104 zo z (fun l hl => ?_))
      · rw [eb]
        refine i104 zo _ (fun l hl => ?_)
        rw [zb_sh1 (by omega), hx a ha] at q
        rw [zb_or, hz l hl, sh hb' hl, q, Bool.true_and]
      · have q' : nWt N c t a = false := by
          cases r : nWt N c t a with
          | false => rfl
          | true => exact absurd ((zb_sh1 (by omega)).mpr ((hx a ha).trans r)) q
        rw [hz l hl, q', Bool.false_and, Bool.or_false]
theorem D_wayNow (R : RV N Y S) (H : mR g Y S M) (V : mVs Y S) (VV : mVv Y S) {a b : Nat} (ha : a < 6) (hb : b < 6) {κ : Int32 → mM → Prop} (h : κ (nWf N a b 73 0) M) : wX14_wayNow κ (some (yA Y 20 0)) (nI a) (nI b) M := by
  have key : ∀ (d t : Nat) (x : Int32), t + d = 73 → (∀ l, l < 6 → zb x l = nWt N a t l) → κ (nWf N a b d t) M → wX14_wayNow_7 κ (d + 1) (some (yA Y 20 0)) (nI b) x (nI t) M := by
    intro d
    induction d with
    | zero =>
      intro t x ht hx hk
      rw [wX14_wayNow_7]
      exact br_t (show (72 : Int32) < nI t from nI_lt (a := 72) (by omega) (by omega)) hk
    | succ d ih =>
      intro t x ht hx hk
      rw [wX14_wayNow_7]
      refine br_f (show ¬ (72 : Int32) < nI t from nI_nlt (a := 72) (by omega) (by omega)) (br_c (fun q => ?_) (fun q => ⟨yn Y 23 + 1, D_wn32 (c := a) R H V VV (by omega) hx (fun z hz => ?_) (yn Y 23) 0 x hx (by omega)⟩))
      · rw [zb_sh1 (by omega), hx b hb] at q
        rw [show nWf N a b (d + 1) t = nI t from if_pos q] at hk
        exact hk
      · have q' : ¬ nWt N a t b = true := fun r => q ((zb_sh1 (by omega)).mpr ((hx b hb).trans r))
        rw [show nWf N a b (d + 1) t = nWf N a b d (t + 1) from if_neg q'] at hk
        rw [nI_1]
        exact ih (t + 1) z (by omega) hz hk
  exact ⟨74, key 73 0 _ (by omega) (fun l hl => zb_shl a (by omega) l (by omega)) h⟩
theorem D_way (P : vN g N Y0 S0 Y S M) {a b : Int32} {κ : Int32 → mM → Prop} (h : ∀ k v N' Y' S' M', fWay N a b = (k, v, N') → vN g N' Y0 S0 Y' S' M' → sI S' 20 0 0 = k → κ v M') : wX14_way κ (some (yA Y 20 0)) a b M := by
  unfold fWay at h
  refine n_th P (fun S1 M1 P1 e1 => ?_)
  have H := P1.1.1
  have V := P1.1.2.1
  have VV := P1.1.2.2.1
  have hf : ¬ ((¬ a < 0 ∧ a < 6) ∧ (¬ b < 0 ∧ b < 6)) → wX14_way_30 κ (some (yA Y 20 0)) M1 := fun z => n_rf P1 (fun S2 M2 P2 e2 => h 1 0 N Y S2 M2 (by rw [if_pos z]) P2 e2)
  refine s_rc H V.x0 rfl rfl (v_isLand (fun l hl el => br_f (by decide) (s_rc H V.x0 rfl rfl (v_isLand (fun l' hl' el' => br_f (by decide) (s_rc H V.x0 rfl rfl ?_)) (fun z => br_t rfl (hf (fun w => z w.2)))))) (fun z => br_t rfl (hf (fun w => z w.1))))
  have ha : (¬ a < 0 ∧ a < 6) ∧ (¬ b < 0 ∧ b < 6) := ⟨by rw [el]; exact m_in (n := 6) hl (by omega), by rw [el']; exact m_in (n := 6) hl' (by omega)⟩
  rw [if_neg (fun w => w ha), el, el', tN_nI (by omega), tN_nI (by omega)] at h
  rw [el, el']
  exact D_wayNow P1.2.2 H V VV hl hl' (h 0 _ N Y S1 M1 rfl P1 e1)
end SIM35v
