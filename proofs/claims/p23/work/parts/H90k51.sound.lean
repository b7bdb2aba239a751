/-! THE SIMULATION, 41: soundness, of both: what holds between calls makes both answer yes -/
/-- how often one stands in the first j of a line; in the first j lines -/
def tC (xs : List Nat) (s : Nat) : Nat → Nat
  | 0 => 0
  | j + 1 => tC xs s j + (if xs[j]? = some s then 1 else 0)
theorem tC_0 {xs : List Nat} {s : Nat} (h : s ∉ xs) : ∀ j, tC xs s j = 0 := by
  intro j
  induction j with
  | zero => rfl
  | succ j ih =>
    show tC xs s j + (if xs[j]? = some s then 1 else 0) = 0
    rw [ih, if_neg (fun w => h (List.mem_of_getElem? w))]
theorem tC_1 {xs : List Nat} {s i : Nat} (hn : xs.Nodup) (hi : xs[i]? = some s) : ∀ j, tC xs s j = if i < j then 1 else 0 := by
  intro j
  induction j with
  | zero => exact (if_neg (Nat.not_lt_zero i)).symm
  | succ j ih =>
    show tC xs s j + (if xs[j]? = some s then 1 else 0) = if i < j + 1 then 1 else 0
    by_cases z : j = i
    · rw [ih, if_neg (show ¬ i < j by omega), if_pos (show xs[j]? = some s by rw [z]; exact hi), if_pos (show i < j + 1 by omega)]
    · rw [ih, if_neg (show ¬ xs[j]? = some s from fun w => nodup_ne hn w hi z rfl)]
      by_cases w : i < j
      · rw [if_pos w, if_pos (show i < j + 1 by omega)]
      · rw [if_neg w, if_neg (show ¬ i < j + 1 by omega)]
def tS (N : mN) (s : Nat) : Nat → Nat
  | 0 => 0
  | j + 1 => tS N s j + tC (nq N j) s (nq N j).length
theorem tS_e {N : mN} (B : nB N) {s : Nat} (hs : s < nn N 28) : tS N s (nn N 23) = if nv N 28 s 3 = 1 then 1 else 0 := by
  have BQ := B.2.2.2.2.2.1
  have b23 := B.2.1.1
  by_cases z : nv N 28 s 3 = 1
  · rw [if_pos z]
    obtain ⟨t0, h1, h2, h3⟩ := B.2.2.2.2.2.2.1 s hs z
    have key : ∀ j, j ≤ nn N 23 → tS N s j = if t0 < j then 1 else 0 := by
      intro j
      induction j with
      | zero => intro _; exact (if_neg (Nat.not_lt_zero t0)).symm
      | succ j ih =>
        intro hj
        show tS N s j + tC (nq N j) s (nq N j).length = if t0 < j + 1 then 1 else 0
        rw [ih (by omega)]
        by_cases w : j = t0
        · subst w
          obtain ⟨i, hi⟩ := List.getElem?_of_mem h3
          have hl := (List.getElem?_eq_some_iff.mp hi).1
          rw [if_neg (show ¬ j < j by omega), tC_1 (BQ j h1).1 hi, if_pos hl, if_pos (show j < j + 1 by omega)]
        · have hm : s ∉ nq N j := fun q => by
            have e := ((BQ j (by omega)).2 s q).2.2
            rw [h2] at e
            exact w ((nI_eq (by omega) (by omega)).mp e).symm
          rw [tC_0 hm]
          by_cases v : t0 < j
          · rw [if_pos v, if_pos (show t0 < j + 1 by omega)]
          · rw [if_neg v, if_neg (show ¬ t0 < j + 1 by omega)]
    rw [key _ (Nat.le_refl _), if_pos h1]
  · rw [if_neg z]
    have key : ∀ j, j ≤ nn N 23 → tS N s j = 0 := by
      intro j
      induction j with
      | zero => intro _; rfl
      | succ j ih =>
        intro hj
        show tS N s j + tC (nq N j) s (nq N j).length = 0
        rw [ih (by omega), tC_0 (fun q => z ((BQ j (by omega)).2 s q).2.1)]
    exact key _ (Nat.le_refl _)
/-- the head of one awake is empty -/
theorem nHd_0 {N : mN} {s : Nat} (h : ∀ p, p < nn N 29 → ¬ nv N 29 p 4 = nI s) : ∀ j, j ≤ nn N 29 → nHd N s j = 0 := by
  intro j
  induction j with
  | zero => intro _; rfl
  | succ j ih =>
    intro hj
    show (if nv N 29 j 4 = nI s then nHd N s j ||| m_shl 1 (nI j) else nHd N s j) = 0
    rw [if_neg (h j (by omega)), ih (by omega)]
/-- patience -/
theorem NI.pat {N : mN} (I : NI N) {s : Nat} (hs : s < nn N 28) : ∃ a, a ≤ 9 ∧ nv N 28 s 2 = nI a := by
  have I3 := I.2.2.1 s hs
  by_cases z : nv N 28 s 3 = 2
  · exact ⟨0, by omega, (I3.2.1 z).1⟩
  · obtain ⟨a, h1, h2, h3⟩ := I3.2.2.1 z
    exact ⟨a, h2, h3⟩
def qP (q : Nat → Nat) : Nat → Nat
  | 0 => 0
  | j + 1 => qP q j + q j
section SIM41
variable {g : Nat → Nat} {Y : mY} {S : mS} {M : mM} {N : mN}
theorem C_quotas_l (R : RC 99 N Y S) (H : mR g Y S M) (W : mWs Y S) {q : Nat → Nat} (hq : ∀ l, l < 6 → nv N 22 l 2 = nI (q l)) {κ : Int32 → mM → Prop} (h : κ (nI (qP q 6)) M) : ∀ (d j : Nat), j + d = 6 → wX8_quotasOfAll_13 κ (d + 1) (nI (qP q j)) (some (yA Y 1 0)) (nI 6) (nI j) M := by
  intro d
  induction d with
  | zero =>
    intro j hj
    rw [wX8_quotasOfAll_13, show j = 6 by omega]
    exact br_t (nI_le (by omega) (by omega)) h
  | succ d ih =>
    intro j hj
    have hl6 : j < 6 := by omega
    rw [wX8_quotasOfAll_13]
    refine br_f (nI_ge hl6 (by omega)) (s_ldR H W.l1 rfl (by decide) rfl (by rw [W.2.2.2.2.1.1]; exact hl6) (by rw [W.2.2.2.2.1.1]; omega) ?_)
    rw [W.2.2.2.2.1.2 j hl6]
    refine s_gI H (W.l2 hl6) rfl rfl rfl ?_
    rw [R.2.1 2 j 3 22 2 rfl (W.l2 hl6) (by omega), hq j hl6, nI_add, nI_1]
    exact ih (j + 1) (by omega)
theorem C_times_l (R : RC 99 N Y S) (H : mR g Y S M) (W : mWs Y S) {t : Nat} (ht : t < yn Y 3) {s : Nat} (hs : s < yn Y 4) {κ : Int32 → mM → Prop} (h : κ (nI (tC (nq N t) s (nq N t).length)) M) : ∀ (d j : Nat), j + d = (sL S 13 t).length → wX0_timesInLine_4 κ (d + 1) (some (yA Y 3 t)) (some (yA Y 4 s)) (nI (tC (nq N t) s j)) (nI j) M := by
  have eq : sL S 13 t = nq N t := (R.2.2.1 t ht).2.2
  intro d
  induction d with
  | zero =>
    intro j hj
    rw [wX0_timesInLine_4]
    exact c_hdL H W ht (by omega) (fun e => by rw [e, eq]; exact h) (fun s hx hs => absurd (List.getElem?_eq_some_iff.mp hx).1 (by omega))
  | succ d ih =>
    intro j hj
    have ih' : ∀ a : Int32, a = nI (tC (nq N t) s (j + 1)) → wX0_timesInLine_4 κ (d + 1) (some (yA Y 3 t)) (some (yA Y 4 s)) a (nI j + 1) M := fun a e => by rw [nI_1, e]; exact ih (j + 1) (by omega)
    rw [wX0_timesInLine_4]
    refine c_hdL H W ht (by omega) (fun z => absurd z (by omega)) (fun u hx hu => ?_)
    rw [eq] at hx
    refine br_c (fun z => ih' _ ?_) (fun z => ih' _ ?_)
    · have eu : u = s := (H.sinj hs hu).mp z
      show nI (tC (nq N t) s j) + 1 = nI (tC (nq N t) s j + (if (nq N t)[j]? = some s then 1 else 0))
      rw [hx, eu, if_pos rfl, nI_1]
    · have eu : ¬ some u = some s := fun w => z (by rw [Option.some.inj w])
      show nI (tC (nq N t) s j) = nI (tC (nq N t) s j + (if (nq N t)[j]? = some s then 1 else 0))
      rw [hx, if_neg eu, Nat.add_zero]
theorem C_ahead_l (R : RC 99 N Y S) (H : mR g Y S M) (W : mWs Y S) {t : Nat} (ht : t < yn Y 3) (A : nAh N t) {κ : Int32 → mM → Prop} (h1 : κ 1 M) : ∀ (d j : Nat), j + d = (sL S 13 t).length → 1 ≤ j → wX0_babiesAreAhead_2 κ (d + 1) (some (yA Y 3 t)) (nI j) M := by
  have eq : sL S 13 t = nq N t := (R.2.2.1 t ht).2.2
  intro d
  induction d with
  | zero =>
    intro j hj hj1
    rw [wX0_babiesAreAhead_2]
    exact c_hdL H W ht (by omega) (fun _ => h1) (fun s hx hs => absurd (List.getElem?_eq_some_iff.mp hx).1 (by omega))
  | succ d ih =>
    intro j hj hj1
    have hl := H.len (k := 13) (i := t) rfl (W.l13 ht)
    have ih' : wX0_babiesAreAhead_2 κ (d + 1) (some (yA Y 3 t)) (nI j + 1) M := by rw [nI_1]; exact ih (j + 1) (by omega) (by omega)
    rw [wX0_babiesAreAhead_2]
    refine c_hdL H W ht (by omega) (fun z => absurd z (by omega)) (fun s hx hs => ?_)
    refine s_cast H hs rfl rfl (s_gI H hs rfl rfl rfl (br_c (fun _ => ih') (fun z => ?_)))
    have hj2 : j - 1 < (sL S 13 t).length := by omega
    have hx2 : (sL S 13 t)[j - 1]? = some ((sL S 13 t)[j - 1]) := List.getElem?_eq_getElem hj2
    generalize (sL S 13 t)[j - 1] = v at hx2
    have hs2 : v < yn Y 4 := H.lL rfl (W.l13 ht) hx2
    refine s_gR7 H ht rfl rfl rfl (s_rcL H rfl (W.l13 ht) ?_)
    rw [show nI j - 1 = nI (j - 1) from by rw [show (1 : Int32) = nI 1 from rfl, pk_sub hj1]]
    refine s_get H rfl (W.l13 ht) hx2 (s_cast H hs2 rfl rfl (s_gI H hs2 rfl rfl rfl (br_c (fun w => ?_) (fun _ => ih'))))
    have z' : ¬ nv N 28 s 1 = 0 := fun q => z ((R.2.1 4 s 1 28 1 rfl hs (by omega)).trans q)
    have w' : nv N 28 v 1 = 0 := (R.2.1 4 v 1 28 1 rfl hs2 (by omega)).symm.trans w
    rw [eq] at hx hx2
    exact absurd w' (A (j - 1) j v s (by omega) hx2 hx z')
theorem C_ahead (R : RC 99 N Y S) (H : mR g Y S M) (W : mWs Y S) {t : Nat} (ht : t < yn Y 3) (A : nAh N t) {κ : Int32 → mM → Prop} (h1 : κ 1 M) : wX0_babiesAreAhead κ (some (yA Y 3 t)) M := by
  by_cases z : (sL S 13 t).length = 0
  · refine ⟨1, ?_⟩
    rw [wX0_babiesAreAhead_2]
    refine s_gR7 H ht rfl rfl rfl (s_rcL H rfl (W.l13 ht) (s_size H rfl (W.l13 ht) (br_t ?_ h1)))
    rw [z]
    decide
  · exact ⟨(sL S 13 t).length - 1 + 1, C_ahead_l R H W ht A h1 ((sL S 13 t).length - 1) 1 (by omega) (by omega)⟩
theorem C_ss4 (R : RC 99 N Y S) (H : mR g Y S M) (W : mWs Y S) (B : nB N) (I : NI N) {s : Nat} (hs : s < yn Y 4) {κ : Int32 → mM → Prop} (h : κ 1 M) : ∀ (d j : Nat), j + d = yn Y 3 → wX8_sleeperIsSound_4 κ (d + 1) (some (yA Y 0 0)) (some (yA Y 4 s)) (nI (tS N s j)) (nI j) M := by
  have c3 := R.1.1
  have c4 := R.1.2.1
  have hs' : s < nn N 28 := by omega
  have b23 := B.2.1.1
  have b28 := B.2.1.2.1
  have I3 := I.2.2.1 s hs'
  have est : sI S 4 s 4 = nv N 28 s 3 := R.2.1 4 s 4 28 3 rfl hs (by omega)
  have epa : sI S 4 s 3 = nv N 28 s 2 := R.2.1 4 s 3 28 2 rfl hs (by omega)
  obtain ⟨pa, hpa, epa2⟩ := I.pat hs'
  intro d
  induction d with
  | zero =>
    intro j hj
    have e85 : ∀ a b : Int32, b = a → wX8_sleeperIsSound_85 κ (some (yA Y 0 0)) (some (yA Y 4 s)) a b M := fun a b e => by
      refine br_t e (s_gI H hs rfl rfl rfl (br_f ?_ (s_gI H hs rfl rfl rfl (br_t ?_ (s_gI H hs rfl rfl rfl (br_c (fun z => ?_) (fun _ => h)))))))
      · rw [epa, epa2]
        exact nI_pos (by omega)
      · rw [epa, epa2]
        exact nI_le (a := pa) (b := 9) (by omega) (by omega)
      · rw [est] at z
        refine s_rc H W.x0 rfl rfl (C_head R H W hs ?_)
        rw [nHd_0 (I3.2.1 z).2 _ (Nat.le_refl _)]
        exact br_t rfl h
    rw [wX8_sleeperIsSound_4]
    refine c_hdG H W (by omega) (fun e => s_gI H hs rfl rfl rfl (br_c (fun z => e85 _ _ ?_) (fun z => e85 _ _ ?_))) (fun hlt => absurd hlt (by omega))
    · rw [est] at z
      rw [e, c3, tS_e B hs', if_pos z]
      rfl
    · rw [est] at z
      rw [e, c3, tS_e B hs', if_neg z]
      rfl
  | succ d ih =>
    intro j hj
    have ih' : ∀ b : Int32, b = nI (tC (nq N j) s (nq N j).length) → wX8_sleeperIsSound_60 κ (wX8_sleeperIsSound_4 κ (d + 1)) (some (yA Y 0 0)) (some (yA Y 4 s)) (nI (tS N s j)) (nI j) b M := fun b e => by
      unfold wX8_sleeperIsSound_60
      rw [e, nI_add, nI_1]
      exact ih (j + 1) (by omega)
    rw [wX8_sleeperIsSound_4]
    refine c_hdG H W (by omega) (fun z => absurd z (by omega)) (fun hlt => ?_)
    refine s_rc H hlt rfl rfl ⟨(sL S 13 j).length + 1, C_times_l R H W hlt hs ?_ (sL S 13 j).length 0 (by omega)⟩
    refine br_c (fun _ => ih' _ rfl) (fun z => ?_)
    have hm : s ∈ nq N j := Classical.byContradiction (fun w => z (by rw [tC_0 w]; decide))
    have BQ := (B.2.2.2.2.2.1 j (by omega)).2 s hm
    refine s_gR6 H W.x0 rfl rfl rfl (s_rcL H rfl (W.l12 (by omega)) (c_gtG H W hlt (s_cast H hlt rfl rfl ?_)))
    refine s_gR2 H hs rfl rfl rfl (s_rc H hlt rfl rfl (c_isAt H hlt (H.lN (k := 4) (f := 2) (kt := 2) hs rfl) (fun _ => br_f (by decide) (ih' _ rfl)) (fun w => absurd ((R.atL H W hs hlt).mpr ((I3.2.2.2.2 BQ.2.1).2 j (by omega) BQ.2.2)) w)))
theorem C_is64 (R : RC 99 N Y S) (H : mR g Y S M) (W : mWs Y S) (I : NI N) {κ : Int32 → mM → Prop} (h1 : κ 1 M) : ∀ (d j : Nat), j + d = yn Y 3 → wX8_isSound_64 κ (d + 1) (some (yA Y 0 0)) (nI j) M := by
  have c3 := R.1.1
  intro d
  induction d with
  | zero =>
    intro j hj
    rw [wX8_isSound_64]
    exact c_hdG H W (by omega) (fun _ => h1) (fun hlt => absurd hlt (by omega))
  | succ d ih =>
    intro j hj
    rw [wX8_isSound_64]
    refine c_hdG H W (by omega) (fun z => absurd z (by omega)) (fun hlt => ?_)
    refine s_rc H hlt rfl rfl (C_ahead R H W hlt (I.2.2.2.1 j (by omega)) (br_f (by decide) ?_))
    rw [nI_1]
    exact ih (j + 1) (by omega)
theorem C_is25 (R : RC 99 N Y S) (H : mR g Y S M) (W : mWs Y S) (B : nB N) (I : NI N) {κ : Int32 → mM → Prop} (h1 : κ 1 M) : ∀ (d j : Nat), j + d = yn Y 4 → wX8_isSound_25 κ (d + 1) (some (yA Y 0 0)) (nI j) M := by
  intro d
  induction d with
  | zero =>
    intro j hj
    rw [wX8_isSound_25]
    exact c_hdS H W (by omega) (fun _ => ⟨yn Y 3 + 1, C_is64 R H W I h1 (yn Y 3) 0 (by omega)⟩) (fun hlt => absurd hlt (by omega))
  | succ d ih =>
    intro j hj
    rw [wX8_isSound_25]
    refine c_hdS H W (by omega) (fun z => absurd z (by omega)) (fun hlt => ?_)
    refine s_rc H W.x0 rfl rfl ⟨yn Y 3 + 1, C_ss4 R H W B I hlt (br_f (by decide) ?_) (yn Y 3) 0 (by omega)⟩
    rw [nI_1]
    exact ih (j + 1) (by omega)
theorem C_isSound (R : RC 99 N Y S) (H : mR g Y S M) (W : mWs Y S) (B : nB N) (I : NI N) {κ : Int32 → mM → Prop} (h1 : κ 1 M) : wX8_isSound κ (some (yA Y 0 0)) M := by
  obtain ⟨q, hq, hs⟩ := I.2.1
  have b6 : yn Y 6 ≤ 40 := by
    obtain ⟨h, hh, hl, -⟩ := B.2.2.2.2.2.2.2
    have := R.2.2.2.2.2.2.2.2.2.1
    omega
  have e6 : qP q 6 = 30 := by
    show 0 + q 0 + q 1 + q 2 + q 3 + q 4 + q 5 = 30
    omega
  refine s_rc H W.x0 rfl rfl (s_gR6 H W.x0 rfl rfl rfl (s_lenR H W.l1 (by decide) rfl ?_))
  rw [W.2.2.2.2.1.1]
  refine ⟨7, C_quotas_l R H W hq ?_ 6 0 (by omega)⟩
  exact br_t (by rw [e6]; rfl) (s_gR6 H W.x0 rfl rfl rfl (s_rcL H rfl (W.l12 (by omega)) (c_szH H W (br_t (nI_le (a := yn Y 6) (b := 40) b6 (by omega)) ⟨yn Y 4 + 1, C_is25 R H W B I h1 (yn Y 4) 0 (by omega)⟩))))
end SIM41
