/-! THE SIMULATION, 21: hours, and those of the class -/
def nL0 : Nat → mN → mN
  | 0, N => N
  | j + 1, N => nU (nL0 j N) 22 j 3 0
def nP0 : Nat → mN → mN
  | 0, N => N
  | j + 1, N => if ¬ nv (nP0 j N) 28 j 8 = -1 ∧ ¬ nv (nP0 j N) 20 0 1 ≤ nv (nP0 j N) 28 j 7 then nU (nP0 j N) 28 j 8 (-1) else nP0 j N
def nNight (N : mN) : mN := nP0 (nn N 28) (nL0 6 (nU (nU N 20 0 2 0) 20 0 1 (nv N 20 0 1 + 1)))
/-- gates that have a land together -/
def nNear (N : mN) (t t' : Nat) : Bool := decide ((nv N 23 t 0 = nv N 23 t' 0 ∨ nv N 23 t 1 = nv N 23 t' 0) ∨ nv N 23 t 0 = nv N 23 t' 1 ∨ nv N 23 t 1 = nv N 23 t' 1)
def nMo (N : mN) (t v : Nat) : Nat → Bool
  | 0 => false
  | j + 1 => nMo N t v j || (nNear N t j && nr N j v)
def nSp (N : mN) : mN := nW N (fun t v => nr N t v || nMo N t v (nn N 23))
def nWa : Nat → mN → mN
  | 0, N => N
  | j + 1, N => nU (nWa j N) 23 j 5 (if nv (nWa j N) 23 j 3 ≤ m_rem ((nv (nWa j N) 20 0 2 - nv (nWa j N) 23 j 2) + 24) 24 then 0 else nv (nWa j N) 23 j 5 + 1)
def nHour1 (N : mN) : mN := if nv N 20 0 2 + 1 = 24 then nNight (nU N 20 0 2 (nv N 20 0 2 + 1)) else nU N 20 0 2 (nv N 20 0 2 + 1)
def nHour (N : mN) : mN := nWa (nn N 23) (nSp (nHour1 N))
def nHours : Nat → mN → mN
  | 0, N => N
  | j + 1, N => nHour (nHours j N)
def fPass (N : mN) (a : Int32) : mT :=
  if ¬ (¬ a < 1 ∧ a ≤ 48) then (1, 0, N)
  else if ¬ nv N 20 0 1 + (nv N 20 0 2 + a) / 24 ≤ 99 then (2, 0, N)
  else (0, nv (nHours (tN a) N) 20 0 2, nHours (tN a) N)
theorem nL0_v {N : mN} {k i f : Nat} (h : ¬ (k = 22 ∧ f = 3)) : ∀ j, nv (nL0 j N) k i f = nv N k i f := by
  intro j
  induction j with
  | zero => rfl
  | succ j ih => exact (nv_U (by omega)).trans ih
theorem nL0_o {N : mN} : ∀ j, nn (nL0 j N) = nn N ∧ nq (nL0 j N) = nq N ∧ nr (nL0 j N) = nr N ∧ nh (nL0 j N) = nh N := by
  intro j
  induction j with
  | zero => exact ⟨rfl, rfl, rfl, rfl⟩
  | succ j ih => exact ih
theorem nP0_v {N : mN} {k i f : Nat} (h : ¬ (k = 28 ∧ f = 8)) : ∀ j, nv (nP0 j N) k i f = nv N k i f := by
  intro j
  induction j with
  | zero => rfl
  | succ j ih =>
    unfold nP0
    split
    · exact (nv_U (by omega)).trans ih
    · exact ih
theorem nP0_o {N : mN} : ∀ j, nn (nP0 j N) = nn N ∧ nq (nP0 j N) = nq N ∧ nr (nP0 j N) = nr N ∧ nh (nP0 j N) = nh N := by
  intro j
  induction j with
  | zero => exact ⟨rfl, rfl, rfl, rfl⟩
  | succ j ih =>
    unfold nP0
    split
    · exact ih
    · exact ih
theorem nWa_v {N : mN} {k i f : Nat} (h : ¬ (k = 23 ∧ f = 5)) : ∀ j, nv (nWa j N) k i f = nv N k i f := by
  intro j
  induction j with
  | zero => rfl
  | succ j ih => exact (nv_U (by omega)).trans ih
theorem nWa_o {N : mN} : ∀ j, nn (nWa j N) = nn N ∧ nq (nWa j N) = nq N ∧ nr (nWa j N) = nr N ∧ nh (nWa j N) = nh N := by
  intro j
  induction j with
  | zero => exact ⟨rfl, rfl, rfl, rfl⟩
  | succ j ih => exact ih
theorem nNight_o {N : mN} : nn (nNight N) = nn N ∧ nq (nNight N) = nq N ∧ nr (nNight N) = nr N ∧ nh (nNight N) = nh N := by
  obtain ⟨a, b, c, d⟩ := nP0_o (N := nL0 6 (nU (nU N 20 0 2 0) 20 0 1 (nv N 20 0 1 + 1))) (nn N 28)
  obtain ⟨a', b', c', d'⟩ := nL0_o (N := nU (nU N 20 0 2 0) 20 0 1 (nv N 20 0 1 + 1)) 6
  exact ⟨a.trans a', b.trans b', c.trans c', d.trans d'⟩
theorem nHour1_o {N : mN} : nn (nHour1 N) = nn N ∧ nq (nHour1 N) = nq N ∧ nr (nHour1 N) = nr N ∧ nh (nHour1 N) = nh N := by
  unfold nHour1
  split
  · exact nNight_o
  · exact ⟨rfl, rfl, rfl, rfl⟩
theorem nHour_o {N : mN} : nn (nHour N) = nn N ∧ nq (nHour N) = nq N ∧ nh (nHour N) = nh N := by
  obtain ⟨a, b, -, d⟩ := nWa_o (N := nSp (nHour1 N)) (nn N 23)
  obtain ⟨a', b', -, d'⟩ := nHour1_o (N := N)
  exact ⟨a.trans a', b.trans b', d.trans d'⟩
theorem nNear_c {N N' : mN} (h : ∀ i f, f ≤ 1 → nv N' 23 i f = nv N 23 i f) {t t' : Nat} : nNear N' t t' = nNear N t t' := by
  unfold nNear
  rw [h t 0 (by omega), h t 1 (by omega), h t' 0 (by omega), h t' 1 (by omega)]
/-- what a part of an hour leaves of the class -/
def cY (x : Nat) (g : Nat → Nat) (N : mN) (Y : mY) (S0 S : mS) (M : mM) : Prop := mR g Y S M ∧ mWs Y S ∧ mWq Y S ∧ mFc Y S0 Y S ∧ RC x N Y S
section SIM21
variable {g : Nat → Nat} {Y : mY} {x : Nat}
theorem cY.I {N : mN} {S0 S : mS} {M : mM} (P : cY x g N Y S0 S M) {k i f k' f' : Nat} {v : Int32} {M' : mM} (H' : mR g Y (uI S k i f v) M') (hm : cM k f = some (k', f')) (h4 : ¬ (k = 4 ∧ f = 4)) (h0 : f ≠ 0) : cY x g (nU N k' i f' v) Y S0 (uI S k i f v) M' := by
  obtain ⟨-, W, Q, F, R⟩ := P
  exact ⟨H', W.uI (Or.inl h0), Q.uI h4, F.tr (mFc.uI (by have := cM_d hm; omega)), R.pI hm⟩
theorem C_bn44 {S0 : mS} {N : mN} {κ : mM → Prop} (h : ∀ S' M', cY x g (nP0 (yn Y 4) N) Y S0 S' M' → κ M') : ∀ (d j : Nat) (S : mS) (M : mM), cY x g (nP0 j N) Y S0 S M → j + d = yn Y 4 → wX8_beginNight_44 κ (d + 1) (some (yA Y 0 0)) (nI j) M := by
  intro d
  induction d with
  | zero =>
    intro j S M P hj
    have ej : j = yn Y 4 := by omega
    rw [ej] at P
    rw [wX8_beginNight_44]
    exact c_hdS P.1 P.2.1 (by omega) (fun _ => h S M P) (fun hlt => absurd hlt (by omega))
  | succ d ih =>
    intro j S M P hj
    obtain ⟨H, W, Q, F, R⟩ := P
    have ih' : ∀ S M, cY x g (nP0 (j + 1) N) Y S0 S M → wX8_beginNight_44 κ (d + 1) (some (yA Y 0 0)) (nI j + 1) M := fun S M P => by rw [nI_1]; exact ih (j + 1) S M P (by omega)
    have stay : ¬ (¬ nv (nP0 j N) 28 j 8 = -1 ∧ ¬ nv (nP0 j N) 20 0 1 ≤ nv (nP0 j N) 28 j 7) → wX8_beginNight_44 κ (d + 1) (some (yA Y 0 0)) (nI j + 1) M := fun w => ih' S M (by
      rw [show nP0 (j + 1) N = nP0 j N from if_neg w]
      exact ⟨H, W, Q, F, R⟩)
    rw [wX8_beginNight_44]
    refine c_hdS H W (by omega) (fun z => absurd z (by omega)) (fun hlt => ?_)
    obtain ⟨r1, r2⟩ := R.2.2.2.2.2.2.1 j hlt
    refine s_gR3 H hlt rfl rfl rfl ?_
    cases hx : sX S 4 j 7 with
    | none => exact br_t rfl (stay (fun w => w.1 (r1 hx)))
    | some p =>
      obtain ⟨e6, e7, e8, n8⟩ := r2 p hx
      have hp := H.lX (k := 4) (f := 7) (kt := 16) hlt rfl p hx
      refine br_f (fun z => by cases z) (s_gR3 H hlt rfl rfl rfl ?_)
      rw [hx]
      refine s_gI H hp rfl rfl rfl (s_gI H W.x0 rfl rfl rfl ?_)
      rw [← e7, R.2.1 0 0 8 20 1 rfl W.x0 (by omega)]
      refine br_c (fun z => stay (fun w => w.2 z)) (fun z => s_pX0 H hlt rfl rfl rfl (fun M1 H1 => ih' (uX S 4 j 7 none) M1 ?_))
      rw [show nP0 (j + 1) N = nU (nP0 j N) 28 j 8 (-1) from if_pos ⟨by rw [e8]; exact n8, z⟩]
      exact ⟨H1, W.uX, Q.uX (by omega), F.tr (mFc.uX (by omega)), R.noPass⟩
theorem C_bn20 {S0 : mS} {N : mN} {κ : mM → Prop} (h : ∀ S' M', cY x g (nP0 (yn Y 4) (nL0 6 N)) Y S0 S' M' → κ M') : ∀ (d j : Nat) (S : mS) (M : mM), cY x g (nL0 j N) Y S0 S M → j + d = 6 → wX8_beginNight_20 κ (d + 1) (some (yA Y 0 0)) (some (yA Y 1 0)) (nI 6) (nI j) M := by
  intro d
  induction d with
  | zero =>
    intro j S M P hj
    have ej : j = 6 := by omega
    rw [ej] at P ⊢
    rw [wX8_beginNight_20]
    exact br_t (nI_le (by omega) (by omega)) ⟨yn Y 4 + 1, C_bn44 h (yn Y 4) 0 S M P (by omega)⟩
  | succ d ih =>
    intro j S M P hj
    have hj6 : j < 6 := by omega
    have H := P.1
    have W := P.2.1
    rw [wX8_beginNight_20]
    refine br_f (nI_ge hj6 (by omega)) (s_ldR H W.l1 rfl (by decide) rfl (by rw [W.2.2.2.2.1.1]; exact hj6) (by rw [W.2.2.2.2.1.1]; omega) ?_)
    rw [W.2.2.2.2.1.2 j hj6]
    exact s_pI H (W.l2 hj6) rfl rfl rfl (fun M1 H1 => by rw [nI_1]; exact ih (j + 1) _ M1 (P.I (k := 2) (f := 4) (k' := 22) (f' := 3) H1 rfl (by omega) (by omega)) (by omega))
theorem C_putAll {S : mS} {M : mM} (H : mR g Y S M) {k i k' i' : Nat} (hk : k = 10 ∨ k = 11) (hk' : k' = 10 ∨ k' = 11) (hi : i < yn Y k) (hi' : i' < yn Y k') {κ : mM → Prop} (h : ∀ M', mR g Y (uJ (uJ S k i 0 (sJ S k i 0 ||| sJ S k' i' 0)) k i 1 (sJ S k i 1 ||| sJ S k' i' 1)) M' → κ M') : wX7_putAll κ (some (yA Y k i)) (some (yA Y k' i')) M := by
  have e1 : sJ (uJ S k i 0 (sJ S k i 0 ||| sJ S k' i' 0)) k i 1 = sJ S k i 1 := sJ_uJ (by omega)
  have e2 : sJ (uJ S k i 0 (sJ S k i 0 ||| sJ S k' i' 0)) k' i' 1 = sJ S k' i' 1 := sJ_uJ (by omega)
  rcases hk with rfl | rfl <;> rcases hk' with rfl | rfl <;> exact s_gJ H hi rfl rfl rfl (s_gJ H hi' rfl rfl rfl (s_pJ H hi rfl rfl rfl (fun M1 H1 => s_gJ H1 hi rfl rfl rfl (s_gJ H1 hi' rfl rfl rfl (by rw [e1, e2]; exact s_pJ H1 hi rfl rfl rfl (fun M2 H2 => h M2 H2))))))
/-- verses that come to a gate, of the class -/
def cAr (S : mS) (t v : Nat) : Bool := vBit (sJ S 11 t 0) (sJ S 11 t 1) v
theorem cAr_u {S : mS} {i j t v : Nat} : cAr (uJ (uJ S 11 i 0 (sJ S 11 i 0 ||| sJ S 10 j 0)) 11 i 1 (sJ S 11 i 1 ||| sJ S 10 j 1)) t v = if t = i then (cAr S i v || vBit (sJ S 10 j 0) (sJ S 10 j 1) v) else cAr S t v := by
  unfold cAr
  by_cases z : t = i
  · subst z
    rw [if_pos rfl, sJ_uJ_s, sJ_uJ (by omega), sJ_uJ_s]
    exact vBit_or _ _ _ _ v
  · rw [if_neg z, sJ_uJ (by omega), sJ_uJ (by omega), sJ_uJ (by omega), sJ_uJ (by omega)]
theorem RC.near {N : mN} {S : mS} {M : mM} (R : RC x N Y S) (H : mR g Y S M) (W : mWs Y S) {i j : Nat} (hi : i < yn Y 3) (hj : j < yn Y 3) : nNear N i j = true ↔ ((sN S 3 j 1 = sN S 3 i 1 ∨ sN S 3 j 1 = sN S 3 i 2) ∨ sN S 3 j 2 = sN S 3 i 1 ∨ sN S 3 j 2 = sN S 3 i 2) := by
  have b1 := W.l2' (H.lN (k := 3) (f := 1) (kt := 2) hi rfl)
  have b2 := W.l2' (H.lN (k := 3) (f := 2) (kt := 2) hi rfl)
  have b3 := W.l2' (H.lN (k := 3) (f := 1) (kt := 2) hj rfl)
  have b4 := W.l2' (H.lN (k := 3) (f := 2) (kt := 2) hj rfl)
  unfold nNear
  rw [decide_eq_true_iff, (R.2.2.1 i hi).1, (R.2.2.1 i hi).2.1, (R.2.2.1 j hj).1, (R.2.2.1 j hj).2.1, nI_eq (by omega) (by omega), nI_eq (by omega) (by omega), nI_eq (by omega) (by omega), nI_eq (by omega) (by omega)]
  omega
theorem C_sp27 {S0 : mS} {N : mN} {i : Nat} (hi : i < yn Y 3) {A : Nat → Nat → Bool} {κ : mM → Prop} {R2 : Option Nat → Int32 → mM → Prop} (hR : ∀ S M, cY 98 g N Y S0 S M → (∀ t v, t < yn Y 3 → v < 128 → cAr S t v = (A t v || (if t < i + 1 then nMo N t v (yn Y 3) else false))) → R2 (some (yA Y 0 0)) (nI i + 1) M) : ∀ (d j : Nat) (S : mS) (M : mM), cY 98 g N Y S0 S M → (∀ t v, t < yn Y 3 → v < 128 → cAr S t v = (A t v || (if t < i then nMo N t v (yn Y 3) else if t = i then nMo N t v j else false))) → j + d = yn Y 3 → wX8_spreadRevoked_27 κ R2 (d + 1) (some (yA Y 0 0)) (nI i) (some (yA Y 3 i)) (nI j) M := by
  intro d
  induction d with
  | zero =>
    intro j S M P hA hj
    have ej : j = yn Y 3 := by omega
    rw [ej] at hA
    rw [wX8_spreadRevoked_27]
    refine c_hdG P.1 P.2.1 (by omega) (fun _ => hR S M P (fun t v ht hv => ?_)) (fun hlt => absurd hlt (by omega))
    rw [hA t v ht hv]
    by_cases z : t < i
    · rw [if_pos z, if_pos (show t < i + 1 by omega)]
    · rw [if_neg z]
      by_cases w : t = i
      · rw [if_pos w, if_pos (show t < i + 1 by omega)]
      · rw [if_neg w, if_neg (show ¬ t < i + 1 by omega)]
  | succ d ih =>
    intro j S M P hA hj
    obtain ⟨H, W, Q, F, R⟩ := P
    have ih' : ∀ S M, cY 98 g N Y S0 S M → (∀ t v, t < yn Y 3 → v < 128 → cAr S t v = (A t v || (if t < i then nMo N t v (yn Y 3) else if t = i then nMo N t v (j + 1) else false))) → wX8_spreadRevoked_27 κ R2 (d + 1) (some (yA Y 0 0)) (nI i) (some (yA Y 3 i)) (nI j + 1) M := fun S M P hA => by rw [nI_1]; exact ih (j + 1) S M P hA (by omega)
    rw [wX8_spreadRevoked_27]
    refine c_hdG H W (by omega) (fun z => absurd z (by omega)) (fun hlt => ?_)
    have l1 := H.lN (k := 3) (f := 1) (kt := 2) hlt rfl
    have l2 := H.lN (k := 3) (f := 2) (kt := 2) hlt rfl
    have hN := R.near H W hi hlt
    have h75 : nNear N i j = true → wX8_spreadRevoked_75 κ R2 (wX8_spreadRevoked_27 κ R2 (d + 1)) (some (yA Y 0 0)) (nI i) (some (yA Y 3 i)) (nI j) (some (yA Y 3 j)) M := fun w => by
      refine s_gR7 H hi rfl rfl rfl (s_gR7 H hlt rfl rfl rfl (s_rc H (W.l11 hi) rfl rfl (C_putAll H (Or.inr rfl) (Or.inl rfl) (W.l11 hi) (W.l10 hlt) (fun M1 H1 => ih' _ M1 ⟨H1, W.uJ.uJ, Q.uJ.uJ, (F.tr (mFc.uJ (by omega))).tr (mFc.uJ (by omega)), R.j11.j11⟩ (fun t v ht hv => ?_)))))
      rw [cAr_u]
      have h9 := (R.2.2.2.2.2.2.2.2.1 j v hlt hv).1
      by_cases z : t = i
      · subst z
        rw [if_pos rfl, hA t v ht hv, if_neg (Nat.lt_irrefl t), if_neg (Nat.lt_irrefl t), if_pos rfl, if_pos rfl, ← h9]
        show _ = (A t v || (nMo N t v j || (nNear N t j && nr N j v)))
        rw [w, Bool.true_and, Bool.or_assoc]
      · rw [if_neg z, hA t v ht hv, if_neg z, if_neg z]
    have h0 : nNear N i j = false → wX8_spreadRevoked_27 κ R2 (d + 1) (some (yA Y 0 0)) (nI i) (some (yA Y 3 i)) (nI j + 1) M := fun w => ih' S M ⟨H, W, Q, F, R⟩ (fun t v ht hv => by
      rw [hA t v ht hv]
      by_cases z : t = i
      · subst z
        rw [if_neg (Nat.lt_irrefl t), if_neg (Nat.lt_irrefl t), if_pos rfl, if_pos rfl]
        show _ = (A t v || (nMo N t v j || (nNear N t j && nr N j v)))
        rw [w, Bool.false_and, Bool.or_false]
      · rw [if_neg z, if_neg z])
    refine s_gR2 H hlt rfl rfl rfl (s_rc H hi rfl rfl (c_isAt H hi l1 (fun q => br_f (by decide) (h75 (hN.mpr (Or.inl q)))) (fun q1 => br_t rfl (s_gR2 H hlt rfl rfl rfl (s_rc H hi rfl rfl (c_isAt H hi l2 (fun q => br_f (by decide) (h75 (hN.mpr (Or.inr q)))) (fun q2 => br_t rfl (h0 ?_))))))))
    cases w : nNear N i j with
    | false => rfl
    | true => exact absurd (hN.mp w) (fun q => q.elim q1 q2)
theorem C_sp101 {S0 : mS} {N : mN} {A : Nat → Nat → Bool} {κ : mM → Prop} (hA : ∀ t v, t < yn Y 3 → v < 128 → (A t v = true ↔ A t v = true)) (h : ∀ S' M', cY 98 g (nW N (fun t v => nr N t v || A t v)) Y S0 S' M' → (∀ t v, t < yn Y 3 → v < 128 → cAr S' t v = A t v) → κ M') : ∀ (d j : Nat) (S : mS) (M : mM), cY 98 g (nW N (fun t v => nr N t v || (if t < j then A t v else false))) Y S0 S M → (∀ t v, t < yn Y 3 → v < 128 → cAr S t v = A t v) → j + d = yn Y 3 → wX8_spreadRevoked_101 κ (d + 1) (some (yA Y 0 0)) (nI j) M := by
  intro d
  induction d with
  | zero =>
    intro j S M P hB hj
    rw [wX8_spreadRevoked_101]
    refine c_hdG P.1 P.2.1 (by omega) (fun _ => h S M ?_ hB) (fun hlt => absurd hlt (by omega))
    obtain ⟨H, W, Q, F, R⟩ := P
    refine ⟨H, W, Q, F, ?_⟩
    obtain ⟨h1, h2, h3, h4, h5, h6, h7, h8, h9, h10⟩ := R
    refine ⟨h1, h2, h3, h4, h5, h6, h7, h8, fun t v ht hv => ⟨?_, fun w => absurd rfl w⟩, h10⟩
    have e := (h9 t v ht hv).1
    have e2 : nr (nW N (fun t v => nr N t v || (if t < j then A t v else false))) t v = (nr N t v || (if t < j then A t v else false)) := rfl
    rw [e2, if_pos (show t < j by omega)] at e
    exact e
  | succ d ih =>
    intro j S M P hB hj
    obtain ⟨H, W, Q, F, R⟩ := P
    rw [wX8_spreadRevoked_101]
    refine c_hdG H W (by omega) (fun z => absurd z (by omega)) (fun hlt => ?_)
    refine s_gR7 H hlt rfl rfl rfl (s_gR7 H hlt rfl rfl rfl (s_rc H (W.l10 hlt) rfl rfl (C_putAll H (Or.inl rfl) (Or.inr rfl) (W.l10 hlt) (W.l11 hlt) (fun M1 H1 => ?_))))
    rw [nI_1]
    have e11 : ∀ t f, sJ (uJ (uJ S 10 j 0 (sJ S 10 j 0 ||| sJ S 11 j 0)) 10 j 1 (sJ S 10 j 1 ||| sJ S 11 j 1)) 11 t f = sJ S 11 t f := fun t f => (sJ_uJ (by omega)).trans (sJ_uJ (by omega))
    refine ih (j + 1) _ M1 ⟨H1, W.uJ.uJ, Q.uJ.uJ, (F.tr (mFc.uJ (by omega))).tr (mFc.uJ (by omega)), ?_⟩ (fun t v ht hv => ?_) (by omega)
    · refine R.rev' (r := fun t v => nr N t v || (if t < j + 1 then A t v else false)) (fun _ _ _ => rfl) rfl rfl rfl (fun t v ht hv => ⟨?_, fun w => absurd rfl w⟩)
      have e := (R.2.2.2.2.2.2.2.2.1 t v ht hv).1
      have e2 : nr (nW N (fun t v => nr N t v || (if t < j then A t v else false))) t v = (nr N t v || (if t < j then A t v else false)) := rfl
      rw [e2] at e
      by_cases z : t = j
      · subst z
        rw [sJ_uJ_s, sJ_uJ (by omega), sJ_uJ_s, vBit_or, ← e, if_neg (Nat.lt_irrefl t), if_pos (show t < t + 1 by omega), Bool.or_false]
        exact congrArg (fun b => nr N t v || b) (hB t v ht hv).symm
      · rw [sJ_uJ (by omega), sJ_uJ (by omega), sJ_uJ (by omega), sJ_uJ (by omega), ← e]
        by_cases w : t < j
        · rw [if_pos w, if_pos (show t < j + 1 by omega)]
        · rw [if_neg w, if_neg (show ¬ t < j + 1 by omega)]
    · show vBit (sJ _ 11 t 0) (sJ _ 11 t 1) v = _
      rw [e11, e11]
      exact hB t v ht hv
theorem nMo_W {N : mN} {r : Nat → Nat → Bool} : nn (nW N r) = nn N := rfl
theorem C_spread {S0 S : mS} {M : mM} {N : mN} {κ : mM → Prop} (h : ∀ S' M', cY 99 g (nSp N) Y S0 S' M' → κ M') (P : cY 99 g N Y S0 S M) : wX8_spreadRevoked κ (some (yA Y 0 0)) M := by
  have hold := P.2.2.2.2.2.2.2.2.2.2.2.2.1
  have en : nn N 23 = yn Y 3 := P.2.2.2.2.1.1.symm
  have fin : ∀ S' M', cY 98 g (nW N (fun t v => nr N t v || (cAr S t v || nMo N t v (yn Y 3)))) Y S0 S' M' → (∀ t v, t < yn Y 3 → v < 128 → cAr S' t v = (cAr S t v || nMo N t v (yn Y 3))) → cY 99 g (nSp N) Y S0 S' M' := by
    intro S' M' P' hA
    obtain ⟨H, W, Q, F, R⟩ := P'
    refine ⟨H, W, Q, F, ?_⟩
    obtain ⟨h1, h2, h3, h4, h5, h6, h7, h8, h9, h10⟩ := R
    have hlt4 : yn Y 4 ≤ 12 := W.2.1.2.1
    refine ⟨h1, fun k i f k' f' hm hi hx => h2 k i f k' f' hm hi (fun w => by rw [w.1] at hi; omega), h3, h4, fun s hs _ => h5 s hs (by omega), fun s hs => ⟨fun w => (h6 s hs).1 (Or.inr (w.resolve_left (by omega))), fun _ => (h6 s hs).2 (by omega)⟩, h7, h8, fun t v ht hv => ?_, h10⟩
    have e := (h9 t v ht hv).1
    have e2 : nr (nW N (fun t v => nr N t v || (cAr S t v || nMo N t v (yn Y 3)))) t v = (nr N t v || (cAr S t v || nMo N t v (yn Y 3))) := rfl
    rw [e2] at e
    have e3 : nr (nSp N) t v = (nr N t v || nMo N t v (yn Y 3)) := by
      show (nr N t v || nMo N t v (nn N 23)) = _
      rw [en]
    have hsub : cAr S t v = true → nr N t v = true := (hold t v ht hv).2 (by decide)
    have e4 : (nr N t v || (cAr S t v || nMo N t v (yn Y 3))) = (nr N t v || nMo N t v (yn Y 3)) := by
      cases q : cAr S t v with
      | false => rfl
      | true => rw [hsub q]; rfl
    refine ⟨by rw [e3, ← e4]; exact e, fun _ w => ?_⟩
    have w' : cAr S' t v = true := w
    rw [hA t v ht hv] at w'
    rw [e3]
    cases q : cAr S t v with
    | false =>
      rw [q, Bool.false_or] at w'
      rw [w', Bool.or_true]
    | true => rw [hsub q]; rfl
  have P98 : cY 98 g N Y S0 S M := by
    obtain ⟨H, W, Q, F, R⟩ := P
    refine ⟨H, W, Q, F, ?_⟩
    obtain ⟨h1, h2, h3, h4, h5, h6, h7, h8, h9, h10⟩ := R
    have hlt4 : yn Y 4 ≤ 12 := W.2.1.2.1
    exact ⟨h1, fun k i f k' f' hm hi hx => h2 k i f k' f' hm hi (fun w => by rw [w.1] at hi; omega), h3, h4, fun s hs _ => h5 s hs (by omega), fun s hs => ⟨fun w => (h6 s hs).1 (Or.inr (w.resolve_left (by omega))), fun _ => (h6 s hs).2 (by omega)⟩, h7, h8, fun t v ht hv => ⟨(h9 t v ht hv).1, fun w => absurd rfl w⟩, h10⟩
  have outer : ∀ (d i : Nat) (S1 : mS) (M1 : mM), cY 98 g N Y S0 S1 M1 → (∀ t v, t < yn Y 3 → v < 128 → cAr S1 t v = (cAr S t v || (if t < i then nMo N t v (yn Y 3) else false))) → i + d = yn Y 3 → wX8_spreadRevoked_2 κ (d + 1) (some (yA Y 0 0)) (nI i) M1 := by
    intro d
    induction d with
    | zero =>
      intro i S1 M1 P1 hA hi
      rw [wX8_spreadRevoked_2]
      refine c_hdG P1.1 P1.2.1 (by omega) (fun _ => ⟨yn Y 3 + 1, C_sp101 (A := fun t v => cAr S t v || nMo N t v (yn Y 3)) (fun _ _ _ _ => Iff.rfl) (fun S' M' P' hB => h S' M' (fin S' M' P' hB)) (yn Y 3) 0 S1 M1 ?_ (fun t v ht hv => ?_) (by omega)⟩) (fun hlt => absurd hlt (by omega))
      · have e : nW N (fun t v => nr N t v || (if t < 0 then (cAr S t v || nMo N t v (yn Y 3)) else false)) = N := by
          refine Prod.ext rfl (Prod.ext rfl (Prod.ext rfl (Prod.ext ?_ rfl)))
          funext t v
          show (nr N t v || (if t < 0 then _ else false)) = nr N t v
          rw [if_neg (Nat.not_lt_zero t), Bool.or_false]
        rw [e]
        exact P1
      · rw [hA t v ht hv, if_pos (show t < i by omega)]
    | succ d ih =>
      intro i S1 M1 P1 hA hi
      rw [wX8_spreadRevoked_2]
      refine c_hdG P1.1 P1.2.1 (by omega) (fun z => absurd z (by omega)) (fun hlt => ?_)
      refine ⟨yn Y 3 + 1, C_sp27 (A := fun t v => cAr S t v) hlt (fun S M P hA => by rw [nI_1]; exact ih (i + 1) S M P hA (by omega)) (yn Y 3) 0 S1 M1 P1 (fun t v ht hv => ?_) (by omega)⟩
      rw [hA t v ht hv]
      by_cases z : t < i
      · rw [if_pos z, if_pos z]
      · rw [if_neg z, if_neg z]
        by_cases w : t = i
        · rw [if_pos w]; rfl
        · rw [if_neg w]
  exact ⟨yn Y 3 + 1, outer (yn Y 3) 0 S M P98 (fun t v ht hv => by rw [if_neg (Nat.not_lt_zero t), Bool.or_false]) (by omega)⟩
theorem C_bh34 {S0 : mS} {N : mN} {κ : mM → Prop} (h : ∀ S' M', cY 99 g (nWa (yn Y 3) N) Y S0 S' M' → κ M') : ∀ (d j : Nat) (S : mS) (M : mM), cY 99 g (nWa j N) Y S0 S M → j + d = yn Y 3 → wX8_beginHour_34 κ (d + 1) (some (yA Y 0 0)) (nI j) M := by
  intro d
  induction d with
  | zero =>
    intro j S M P hj
    have ej : j = yn Y 3 := by omega
    rw [ej] at P
    rw [wX8_beginHour_34]
    exact c_hdG P.1 P.2.1 (by omega) (fun _ => h S M P) (fun hlt => absurd hlt (by omega))
  | succ d ih =>
    intro j S M P hj
    have H := P.1
    have W := P.2.1
    have R := P.2.2.2.2
    rw [wX8_beginHour_34]
    refine c_hdG H W (by omega) (fun z => absurd z (by omega)) (fun hlt => ?_)
    have h79 : ∀ v, v = (if nv (nWa j N) 23 j 3 ≤ m_rem ((nv (nWa j N) 20 0 2 - nv (nWa j N) 23 j 2) + 24) 24 then 0 else nv (nWa j N) 23 j 5 + 1) → wX8_beginHour_79 κ (wX8_beginHour_34 κ (d + 1)) (some (yA Y 0 0)) (nI j) v (some (yA Y 3 j)) M := fun v ev => s_pI H hlt rfl rfl rfl (fun M1 H1 => by
      rw [nI_1]
      refine ih (j + 1) (uI S 3 j 9 v) M1 ?_ (by omega)
      rw [ev] at H1 ⊢
      exact P.I (k := 3) (f := 9) (k' := 23) (f' := 5) H1 rfl (by omega) (by omega))
    have eO : cOpen S j (nv (nWa j N) 20 0 2) ↔ ¬ nv (nWa j N) 23 j 3 ≤ m_rem ((nv (nWa j N) 20 0 2 - nv (nWa j N) 23 j 2) + 24) 24 := by
      unfold cOpen
      rw [R.2.1 3 j 4 23 3 rfl hlt (by omega), R.2.1 3 j 3 23 2 rfl hlt (by omega)]
    refine s_gI H W.x0 rfl rfl rfl ?_
    rw [R.2.1 0 0 9 20 2 rfl W.x0 (by omega)]
    refine s_rc H hlt rfl rfl (c_isOpenAt H hlt (fun zo => br_f (by decide) (s_gI H hlt rfl rfl rfl ?_)) (fun zo => br_t rfl (h79 0 ?_)))
    · rw [R.2.1 3 j 9 23 5 rfl hlt (by omega)]
      exact h79 _ (if_neg (eO.mp zo)).symm
    · refine (if_pos ?_).symm
      by_cases w : nv (nWa j N) 23 j 3 ≤ m_rem ((nv (nWa j N) 20 0 2 - nv (nWa j N) 23 j 2) + 24) 24
      · exact w
      · exact absurd (eO.mpr w) zo
theorem C_bh28 {S0 S : mS} {M : mM} {N : mN} {κ : mM → Prop} (h : ∀ S' M', cY 99 g (nWa (nn N 23) (nSp N)) Y S0 S' M' → κ M') (P : cY 99 g N Y S0 S M) : wX8_beginHour_28 κ (some (yA Y 0 0)) M := by
  have en : nn N 23 = yn Y 3 := P.2.2.2.2.1.1.symm
  rw [en] at h
  exact s_rc P.1 P.2.1.x0 rfl rfl (C_spread (fun S1 M1 P1 => ⟨yn Y 3 + 1, C_bh34 h (yn Y 3) 0 S1 M1 P1 (by omega)⟩) P)
theorem C_beginHour {S0 S : mS} {M : mM} {N : mN} {κ : mM → Prop} (h : ∀ S' M', cY 99 g (nHour N) Y S0 S' M' → κ M') (P : cY 99 g N Y S0 S M) : wX8_beginHour κ (some (yA Y 0 0)) M := by
  have H := P.1
  have W := P.2.1
  have R := P.2.2.2.2
  unfold nHour at h
  refine s_gI H W.x0 rfl rfl rfl ?_
  rw [R.2.1 0 0 9 20 2 rfl W.x0 (by omega)]
  refine s_pI H W.x0 rfl rfl rfl (fun M1 H1 => s_gI H1 W.x0 rfl rfl rfl ?_)
  have P1 : cY 99 g (nU N 20 0 2 (nv N 20 0 2 + 1)) Y S0 (uI S 0 0 9 (nv N 20 0 2 + 1)) M1 := P.I (k := 0) (f := 9) (k' := 20) (f' := 2) H1 rfl (by omega) (by omega)
  rw [sI_uI_s]
  refine br_c (fun z => ?_) (fun z => ?_)
  · have e1 : nHour1 N = nNight (nU N 20 0 2 (nv N 20 0 2 + 1)) := if_pos z
    have e2 := nNight_o (N := nU N 20 0 2 (nv N 20 0 2 + 1))
    have e28 : nn N 28 = yn Y 4 := R.1.2.1.symm
    refine s_pI H1 W.x0 rfl rfl rfl (fun M2 H2 => s_rc H2 W.x0 rfl rfl ?_)
    have P2 := P1.I (k := 0) (i := 0) (f := 9) (k' := 20) (f' := 2) H2 rfl (by omega) (by omega)
    refine s_gI H2 W.x0 rfl rfl rfl ?_
    rw [P2.2.2.2.2.2.1 0 0 8 20 1 rfl W.x0 (by omega), show nv (nU (nU N 20 0 2 (nv N 20 0 2 + 1)) 20 0 2 0) 20 0 1 = nv (nU N 20 0 2 (nv N 20 0 2 + 1)) 20 0 1 from nv_U (by omega)]
    refine s_pI H2 W.x0 rfl rfl rfl (fun M3 H3 => ?_)
    have P3 := P2.I (k := 0) (i := 0) (f := 8) (k' := 20) (f' := 1) H3 rfl (by omega) (by omega)
    refine s_gR6 H3 W.x0 rfl rfl rfl (s_lenR H3 W.l1 (by decide) rfl ?_)
    rw [show sC (uI (uI (uI S 0 0 9 (nv N 20 0 2 + 1)) 0 0 9 0) 0 0 8 (nv (nU N 20 0 2 (nv N 20 0 2 + 1)) 20 0 1 + 1)) 1 0 = 6 from W.2.2.2.2.1.1]
    rw [show nn N 23 = nn (nHour1 N) 23 from by rw [e1, e2.1]; rfl] at h
    refine ⟨7, C_bn20 (fun S4 M4 P4 => C_bh28 (N := nHour1 N) (S := S4) h ?_) 6 0 _ M3 P3 (by omega)⟩
    rw [e1]
    unfold nNight
    rw [show nn (nU N 20 0 2 (nv N 20 0 2 + 1)) 28 = nn N 28 from rfl, e28]
    exact P4
  · have e1 : nHour1 N = nU N 20 0 2 (nv N 20 0 2 + 1) := if_neg z
    rw [show nn N 23 = nn (nHour1 N) 23 from by rw [e1]; rfl] at h
    exact C_bh28 (N := nHour1 N) h (by rw [e1]; exact P1)
theorem C_pass39 {S0 : mS} {n : Nat} (hn : n ≤ 48) {N : mN} {κ : Int32 → mM → Prop} {ξ : String → mM → Prop} (h : ∀ S' M', cY 99 g (nHours n N) Y S0 S' M' → κ (nv (nHours n N) 20 0 2) M') : ∀ (d j : Nat) (S : mS) (M : mM), cY 99 g (nHours j N) Y S0 S M → j + d = n → wX8_pass_39 κ ξ (d + 1) (some (yA Y 0 0)) (nI n) (nI j) M := by
  intro d
  induction d with
  | zero =>
    intro j S M P hj
    have ej : j = n := by omega
    subst ej
    rw [wX8_pass_39]
    refine br_t (nI_le (by omega) (by omega)) (s_gI P.1 P.2.1.x0 rfl rfl rfl ?_)
    rw [P.2.2.2.2.2.1 0 0 9 20 2 rfl P.2.1.x0 (by omega)]
    exact h S M P
  | succ d ih =>
    intro j S M P hj
    rw [wX8_pass_39]
    refine br_f (nI_ge (by omega) (by omega)) (s_rc P.1 P.2.1.x0 rfl rfl (C_beginHour (fun S1 M1 P1 => ?_) P))
    rw [nI_1]
    exact ih (j + 1) S1 M1 P1 (by omega)
theorem C_pass {S : mS} {M : mM} {N : mN} (H : mR g Y S M) (W : mWs Y S) (Q : mWq Y S) (R : RC 99 N Y S) {a : Int32} {κ : Int32 → mM → Prop} {ξ : String → mM → Prop} (h1 : (fPass N a).1 = 1 → ξ "java/lang/IllegalArgumentException" M) (h2 : (fPass N a).1 = 2 → ξ "java/lang/IllegalStateException" M)
    (h : ∀ v N' Y' S' M', fPass N a = (0, v, N') → cX g N' Y S Y' S' M' → κ v M') : wX8_pass κ ξ (some (yA Y 0 0)) a M := by
  unfold fPass at h1 h2 h
  refine c_range H (fun r1 r2 => ?_) (fun z => h1 (by rw [if_pos z]))
  rw [if_neg (fun w => w ⟨r1, r2⟩)] at h2 h
  have r0 : ¬ a < 0 := fun z => r1 (Int32.lt_trans z (by decide))
  obtain ⟨n, hn, ea⟩ := nI_of2 (M := 48) (n := 48) (by decide) r0 r2
  refine s_gI H W.x0 rfl rfl rfl (s_gI H W.x0 rfl rfl rfl ?_)
  rw [R.2.1 0 0 8 20 1 rfl W.x0 (by omega), R.2.1 0 0 9 20 2 rfl W.x0 (by omega)]
  refine br_c (fun z => ?_) (fun z => h2 (by rw [if_pos z]))
  rw [if_neg (fun w => w z)] at h
  subst ea
  rw [tN_nI (by omega)] at h
  exact ⟨n + 1, C_pass39 (S0 := S) hn (fun S1 M1 P1 => h _ _ Y S1 M1 rfl P1) n 0 S M ⟨H, W, Q, mFc.rf Y S, R⟩ (by omega)⟩
end SIM21
