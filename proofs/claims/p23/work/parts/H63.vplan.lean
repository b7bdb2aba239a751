/-! THE PURE SIDE, 14: the reference's plans -/
theorem eqT.uE {S : mS} {i j : Nat} {v : Int32} : eqT (uE S 38 i j v) S := fun k i' _ z => mEq.uE (by omega)
theorem eqT.nx {S : mS} {i f : Nat} {v : Int32} : eqT (uI S 32 i f v) S := fun k i' z _ => mEq.uI (by omega)
theorem vP_E {g : Nat → Nat} {Y0 Y : mY} {S0 S : mS} {M M' : mM} (h : vP g Y0 S0 Y S M) {k i f : Nat} {v : Int32} (H' : mR g Y (uE S k i f v) M') (hk : 20 ≤ k ∧ k ≠ 31 ∧ ¬ (35 ≤ k ∧ k ≤ 37)) : vP g Y0 S0 Y (uE S k i f v) M' := by
  obtain ⟨⟨H, V, VV, VQ, VT⟩, F, R⟩ := h
  exact ⟨⟨H', vS_uE V, VV.of (fun _ _ _ _ => rfl), VQ.of (fun _ => rfl) (fun _ => rfl) (fun _ => rfl), VT⟩, F.tr (mFm.uE hk), ⟨R.1, R.2⟩⟩
theorem vP_J {g : Nat → Nat} {Y0 Y : mY} {S0 S : mS} {M M' : mM} (h : vP g Y0 S0 Y S M) {k i f : Nat} {v : Int64} (H' : mR g Y (uJ S k i f v) M') (hk : 20 ≤ k ∧ k ≠ 31 ∧ ¬ (35 ≤ k ∧ k ≤ 37)) : vP g Y0 S0 Y (uJ S k i f v) M' := by
  obtain ⟨⟨H, V, VV, VQ, VT⟩, F, R⟩ := h
  exact ⟨⟨H', vS_uJ V, VV.of (fun _ _ _ _ => rfl), VQ.of (fun _ => rfl) (fun _ => rfl) (fun _ => rfl), VT⟩, F.tr (mFm.uJ hk), ⟨R.1, R.2⟩⟩
theorem mI_max (a b : Nat) (ha : a < 2 ^ 31) (hb : b < 2 ^ 31) : m_max (nI a) (nI b) = nI (max a b) := by
  unfold m_max
  by_cases h : a < b
  · rw [if_pos ((nI_ltI ha hb).mpr h), Nat.max_eq_right (by omega)]
  · rw [if_neg (fun z => h ((nI_ltI ha hb).mp z)), Nat.max_eq_left (by omega)]
/-- a cell of the table: 0, or made of one behind -/
def okc (wt F : Nat → Nat) (k s : Nat) : Prop := F (k * 81 + s) = 0 ∨ ∃ o, o ≤ 10 ∧ o ≤ s ∧ F (k * 81 + s) = wt k * o / 10 + F ((k + 1) * 81 + s - o)
def dpI (n : Nat) (wt : Nat → Nat) (k : Nat) (F : Nat → Nat) : Prop := (∀ x, x < k * 81 → F x = 0) ∧ (∀ k' s, k ≤ k' → k' < n → s < 81 → okc wt F k' s) ∧ (∀ k' s, k' ≤ n → s < 81 → F (k' * 81 + s) ≤ 2376 * (n - k'))
def dpU (wt F : Nat → Nat) (k s o : Nat) : Nat → Nat := fun x => if x = k * 81 + s then max (F (k * 81 + s)) (wt k * o / 10 + F ((k + 1) * 81 + s - o)) else F x
theorem wt10 {a o : Nat} (h : a ≤ 2376) (ho : o ≤ 10) : a * o / 10 ≤ 2376 := by
  have h1 : a * o ≤ a * 10 := Nat.mul_le_mul_left a ho
  have h2 : a * o / 10 ≤ a * 10 / 10 := Nat.div_le_div_right h1
  rw [Nat.mul_div_cancel a (by omega)] at h2
  omega
theorem dp_bd {n : Nat} {wt F : Nat → Nat} {k : Nat} (D : dpI n wt k F) (hn : n ≤ 8) {k' s : Nat} (hk : k' ≤ n) (hs : s < 81) : F (k' * 81 + s) ≤ 19008 := by
  have := D.2.2 k' s hk hs
  omega
theorem dp_set {n : Nat} {wt F : Nat → Nat} {k s o : Nat} (D : dpI n wt k F) (hk : k < n) (hs : s < 81) (ho : o ≤ 10) (hos : o ≤ s) (hw : wt k ≤ 2376) : dpI n wt k (dpU wt F k s o) := by
  obtain ⟨d1, d2, d3⟩ := D
  have hne : ∀ x, x ≠ k * 81 + s → dpU wt F k s o x = F x := fun x hx => if_neg hx
  have heq : dpU wt F k s o (k * 81 + s) = max (F (k * 81 + s)) (wt k * o / 10 + F ((k + 1) * 81 + s - o)) := if_pos rfl
  refine ⟨fun x hx => ?_, fun k' s' h1 h2 h3 => ?_, fun k' s' h2 h3 => ?_⟩
  · rw [hne x (by omega)]
    exact d1 x hx
  · have hb : ∀ o', o' ≤ s' → dpU wt F k s o ((k' + 1) * 81 + s' - o') = F ((k' + 1) * 81 + s' - o') := fun o' ho' => hne _ (by omega)
    by_cases z : k' = k ∧ s' = s
    · obtain ⟨rfl, rfl⟩ := z
      unfold okc
      rw [heq]
      by_cases q : F (k' * 81 + s') < wt k' * o / 10 + F ((k' + 1) * 81 + s' - o)
      · rw [Nat.max_eq_right (by omega)]
        exact Or.inr ⟨o, ho, hos, by rw [hb o hos]⟩
      · rw [Nat.max_eq_left (by omega)]
        rcases d2 k' s' (by omega) h2 h3 with h | ⟨o', p1, p2, p3⟩
        · exact Or.inl h
        · exact Or.inr ⟨o', p1, p2, by rw [hb o' p2]; exact p3⟩
    · have e : dpU wt F k s o (k' * 81 + s') = F (k' * 81 + s') := hne _ (by omega)
      unfold okc
      rw [e]
      rcases d2 k' s' h1 h2 h3 with h | ⟨o', p1, p2, p3⟩
      · exact Or.inl h
      · exact Or.inr ⟨o', p1, p2, by rw [hb o' p2]; exact p3⟩
  · by_cases z : k' = k ∧ s' = s
    · obtain ⟨rfl, rfl⟩ := z
      rw [heq]
      have b1 := d3 k' s' h2 h3
      have b2 := d3 (k' + 1) (s' - o) (by omega) (by omega)
      have b3 := wt10 hw ho
      rw [show (k' + 1) * 81 + (s' - o) = (k' + 1) * 81 + s' - o by omega] at b2
      refine Nat.max_le.mpr ⟨b1, ?_⟩
      omega
    · rw [hne _ (by omega)]
      exact d3 k' s' h2 h3
theorem dp_next {n : Nat} {wt F : Nat → Nat} {k : Nat} (D : dpI n wt (k + 1) F) : dpI n wt k F := by
  obtain ⟨d1, d2, d3⟩ := D
  refine ⟨fun x hx => d1 x (by omega), fun k' s h1 h2 h3 => ?_, d3⟩
  by_cases z : k' = k
  · subst z
    exact Or.inl (d1 _ (by omega))
  · exact d2 k' s (by omega) h2 h3
theorem dp_0 (n : Nat) (wt : Nat → Nat) : dpI n wt n (fun _ => 0) := ⟨fun _ _ => rfl, fun k' s h1 h2 _ => absurd h1 (by omega), fun _ _ _ _ => Nat.zero_le _⟩
section VPLAN
variable {g : Nat → Nat} {Y : mY} {S : mS} {M : mM}
theorem mVs.T {S' : mS} (V : mVs Y S) (a5 : eqT S' S) : mVs Y S' := by
  obtain ⟨w1, w2, w3, ⟨v1, v2, v3⟩, ⟨u1, u2, u3, u4⟩⟩ := V
  have hL : ∀ i, sL S' 24 i = sL S 24 i := fun i => (a5 24 i (by omega) (by omega)).2.2.2.2.1
  refine ⟨w1, w2, by rw [hL, hL, hL, hL]; exact w3, ⟨fun v hv => (congrFun (a5 30 v (by omega) (by omega)).1 0).trans (v1 v hv), ((a5 33 0 (by omega) (by omega)).2.2.2.2.2.2.1).trans v2, fun v hv => ?_⟩, ⟨((a5 21 0 (by omega) (by omega)).2.2.2.2.2.2.1).trans u1, fun i hi => ?_, fun t ht => ((a5 26 t (by omega) (by omega)).2.2.2.2.2.2.1).trans (u3 t ht), ((a5 27 0 (by omega) (by omega)).2.2.2.2.2.2.1).trans u4⟩⟩
  · rw [congrFun (a5 33 0 (by omega) (by omega)).2.2.2.2.2.2.2.2 (128 + v), v3 v hv]
  · rw [congrFun (a5 21 0 (by omega) (by omega)).2.2.2.2.2.2.2.2 i, u2 i hi]
/-- hidden worth is one number, whatever rows are made meanwhile -/
theorem v_hwE_l (V : mVs Y S) (VV : mVv Y S) {t : Nat} (ht : t < yn Y 23) : ∀ (d j a : Nat), j + d = yn Y 29 → a ≤ 99 * j → ∃ w, w ≤ 2376 ∧ ∀ (S' : mS) (M : mM) (κ : Int32 → mM → Prop), mR g Y S' M → eqT S' S → κ (nI w) M → wX14_hiddenWorth_4 κ (d + 1) (some (yA Y 20 0)) (some (yA Y 23 t)) (nI a) (nI j) M := by
  have hb := V.2.1
  intro d
  induction d with
  | zero =>
    intro j a hj ha
    refine ⟨a, by omega, fun S' M κ H E h => ?_⟩
    rw [wX14_hiddenWorth_4]
    exact v_hdP H (V.T E) (by omega) (fun _ => h) (fun hlt => absurd hlt (by omega))
  | succ d ih =>
    intro j a hj ha
    have hlt : j < yn Y 29 := by omega
    obtain ⟨at', ea, hat⟩ := VV.1 29 j 4 hlt
    obtain ⟨wt, hwt, ew⟩ := VV.1 29 j 1 hlt
    obtain ⟨w0, hw0, k0⟩ := ih (j + 1) a (by omega) (by omega)
    have k0' : ∀ (S' : mS) (M : mM) (κ : Int32 → mM → Prop), mR g Y S' M → eqT S' S → κ (nI w0) M → wX14_hiddenWorth_4 κ (d + 1) (some (yA Y 20 0)) (some (yA Y 23 t)) (nI a) (nI j + 1) M := fun S' M κ H E h => by rw [nI_1]; exact k0 S' M κ H E h
    by_cases h100 : (100 : Int32) ≤ nI at'
    · refine ⟨w0, hw0, fun S' M κ H E h => ?_⟩
      rw [wX14_hiddenWorth_4]
      refine v_hdP H (V.T E) (by omega) (fun z => absurd z (by omega)) (fun _ => s_gI H hlt rfl rfl rfl ?_)
      rw [congrFun (E 29 j (by omega) (by omega)).1 4, ea]
      exact br_t h100 (k0' S' M κ H E h)
    · have ha2 : at' < yn Y 28 := by
        rcases hat with hat | hat | hat
        · exact hat
        · exact absurd (show (100 : Int32) ≤ nI at' from nI_le (a := 100) (by omega) (by omega)) h100
        · exact absurd (show (100 : Int32) ≤ nI at' from nI_le (a := 100) (by omega) (by omega)) h100
      by_cases hm : at' ∈ sL S 25 t
      · by_cases hbit : ((m_shr (sI S 28 at' 5) (nI j)) &&& 1) = 0
        · obtain ⟨w1, hw1, k1⟩ := ih (j + 1) (a + wt) (by omega) (by omega)
          refine ⟨w1, hw1, fun S' M κ H E h => ?_⟩
          have V' := V.T E
          rw [wX14_hiddenWorth_4]
          refine v_hdP H V' (by omega) (fun z => absurd z (by omega)) (fun _ => s_gI H hlt rfl rfl rfl ?_)
          rw [congrFun (E 29 j (by omega) (by omega)).1 4, ea]
          refine br_f h100 (s_rc H ht rfl rfl (v_place H V' ht (by omega) (fun i hi => br_f (fun z => ?_) ?_) (fun hn => absurd hm (by rw [← (E 25 t (by omega) (by omega)).2.2.2.2.1]; exact hn))))
          · have hil := (List.getElem?_eq_some_iff.mp hi).1
            have hl := H.len (k := 25) (i := t) rfl (V.l25 ht)
            have := nI_pos (n := i) (by omega)
            rw [z] at this
            exact this (by decide)
          · refine v_S H V' ha2 (s_gI H ha2 rfl rfl rfl ?_)
            rw [congrFun (E 28 at' (by omega) (by omega)).1 5]
            refine br_t hbit (v_Pt H V' hlt (s_gI H hlt rfl rfl rfl ?_))
            rw [congrFun (E 29 j (by omega) (by omega)).1 1, ew]
            show wX14_hiddenWorth_4 κ (d + 1) _ _ (nI a + nI wt) (nI j + 1) M
            rw [nI_add, nI_1]
            exact k1 S' M κ H E h
        · refine ⟨w0, hw0, fun S' M κ H E h => ?_⟩
          have V' := V.T E
          rw [wX14_hiddenWorth_4]
          refine v_hdP H V' (by omega) (fun z => absurd z (by omega)) (fun _ => s_gI H hlt rfl rfl rfl ?_)
          rw [congrFun (E 29 j (by omega) (by omega)).1 4, ea]
          refine br_f h100 (s_rc H ht rfl rfl (v_place H V' ht (by omega) (fun i hi => br_f (fun z => ?_) ?_) (fun hn => absurd hm (by rw [← (E 25 t (by omega) (by omega)).2.2.2.2.1]; exact hn))))
          · have hil := (List.getElem?_eq_some_iff.mp hi).1
            have hl := H.len (k := 25) (i := t) rfl (V.l25 ht)
            have := nI_pos (n := i) (by omega)
            rw [z] at this
            exact this (by decide)
          · refine v_S H V' ha2 (s_gI H ha2 rfl rfl rfl ?_)
            rw [congrFun (E 28 at' (by omega) (by omega)).1 5]
            exact br_f hbit (k0' S' M κ H E h)
      · refine ⟨w0, hw0, fun S' M κ H E h => ?_⟩
        have V' := V.T E
        rw [wX14_hiddenWorth_4]
        refine v_hdP H V' (by omega) (fun z => absurd z (by omega)) (fun _ => s_gI H hlt rfl rfl rfl ?_)
        rw [congrFun (E 29 j (by omega) (by omega)).1 4, ea]
        exact br_f h100 (s_rc H ht rfl rfl (v_place H V' ht (by omega) (fun i hi => absurd (List.mem_of_getElem? (by rw [← (E 25 t (by omega) (by omega)).2.2.2.2.1]; exact hi)) hm) (fun _ => br_t rfl (k0' S' M κ H E h))))
/-- the worths of all gates at once -/
def vWt (g : Nat → Nat) (Y : mY) (S : mS) (wt : Nat → Nat) : Prop := ∀ t, t < yn Y 23 → wt t ≤ 2376 ∧ ∀ (S' : mS) (M : mM) (κ : Int32 → mM → Prop), mR g Y S' M → eqT S' S → κ (nI (wt t)) M → wX14_hiddenWorth κ (some (yA Y 20 0)) (some (yA Y 23 t)) M
theorem v_wts (V : mVs Y S) (VV : mVv Y S) : ∃ wt, vWt g Y S wt := by
  have h : ∀ t, ∃ w, t < yn Y 23 → w ≤ 2376 ∧ ∀ (S' : mS) (M : mM) (κ : Int32 → mM → Prop), mR g Y S' M → eqT S' S → κ (nI w) M → wX14_hiddenWorth κ (some (yA Y 20 0)) (some (yA Y 23 t)) M := by
    intro t
    by_cases ht : t < yn Y 23
    · obtain ⟨w, h1, h2⟩ := v_hwE_l (g := g) V VV ht (yn Y 29) 0 0 (by omega) (by omega)
      exact ⟨w, fun _ => ⟨h1, fun S' M κ a b c => ⟨yn Y 29 + 1, h2 S' M κ a b c⟩⟩⟩
    · exact ⟨0, fun z => absurd z ht⟩
  exact ⟨fun t => Classical.choose (h t), fun t ht => Classical.choose_spec (h t) ht⟩
/-- the row holds the table -/
def vTb (Y : mY) (S : mS) (r n : Nat) (F : Nat → Nat) : Prop := r < yn Y 38 ∧ sC S 38 r = (n + 1) * 81 ∧ ∀ x, x < (n + 1) * 81 → sE S 38 r x = nI (F x)
theorem v_c60 {Y0 : mY} {S0 S1 : mS} {r n : Nat} (hn : n ≤ 8) {wt : Nat → Nat} {k s : Nat} (hk : k < n) (hs : s < 81) (hw : wt k ≤ 2376) {κ : Option Nat → mM → Prop} {R27 : Option Nat → Int32 → Option Nat → Int32 → mM → Prop} {R51 : Option Nat → Int32 → Option Nat → Int32 → Int32 → Int32 → mM → Prop}
    (hR : ∀ S M F, vP g Y0 S0 Y S M → eqT S S1 → vTb Y S r n F → dpI n wt k F → R51 (some (yA Y 20 0)) (nI 81) (some (yA Y 38 r)) (nI k) (nI (wt k)) (nI s + 1) M) : ∀ (d o : Nat) (S : mS) (M : mM) (F : Nat → Nat), vP g Y0 S0 Y S M → eqT S S1 → vTb Y S r n F → dpI n wt k F → o + d = min 10 s + 1 → wX14_catches_60 κ R27 R51 (d + 1) (some (yA Y 20 0)) (nI 81) (some (yA Y 38 r)) (nI k) (nI (wt k)) (nI s) (nI o) M := by
  have hmin : m_min 10 (nI s) = nI (min 10 s) := mI_min 10 s (by omega) (by omega)
  intro d
  induction d with
  | zero =>
    intro o S M F P E T D ho
    rw [wX14_catches_60]
    dsimp only
    rw [hmin]
    exact br_t (nI_lt (by omega) (by omega)) (hR S M F P E T D)
  | succ d ih =>
    intro o S M F P E T D ho
    obtain ⟨t1, t2, t3⟩ := T
    have ho10 : o ≤ 10 := by omega
    have hos : o ≤ s := by omega
    have i1 : nI k * nI 81 + nI s = nI (k * 81 + s) := by rw [pk_mul, nI_add]
    have i2 : (nI k + 1) * nI 81 + nI s - nI o = nI ((k + 1) * 81 + s - o) := by rw [nI_1, pk_mul, nI_add, pk_sub (by omega)]
    have b1 := dp_bd D hn (k' := k) (s := s) (by omega) hs
    have b2 := dp_bd D hn (k' := k + 1) (s := s - o) (by omega) (by omega)
    rw [show (k + 1) * 81 + (s - o) = (k + 1) * 81 + s - o by omega] at b2
    have b3 := wt10 hw ho10
    have b4 : wt k * o ≤ 2376 * 10 := Nat.mul_le_mul hw ho10
    rw [wX14_catches_60]
    dsimp only
    rw [hmin]
    refine br_f (nI_nlt (by omega) (by omega)) ?_
    rw [i1, i2]
    refine s_ldI P.1.1 t1 rfl (by decide) rfl (by rw [t2]; omega) (by rw [t2]; omega) (s_ldI P.1.1 t1 rfl (by decide) rfl (by rw [t2]; omega) (by rw [t2]; omega) ?_)
    rw [t3 _ (by omega), t3 _ (by omega)]
    have ev : m_max (nI (F (k * 81 + s))) (nI (wt k) * nI o / 10 + nI (F ((k + 1) * 81 + s - o))) = nI (max (F (k * 81 + s)) (wt k * o / 10 + F ((k + 1) * 81 + s - o))) := by
      rw [pk_mul, show (10 : Int32) = nI 10 from rfl, pk_div (by omega) (by omega) (by omega), nI_add, mI_max _ _ (by omega) (by omega)]
    rw [ev]
    refine s_stI P.1.1 t1 rfl rfl (by rw [t2]; omega) (by rw [t2]; omega) (fun M1 H1 => ?_)
    rw [nI_1]
    refine ih (o + 1) _ M1 (dpU wt F k s o) (vP_E P H1 (by omega)) (eqT.uE.tr E) ⟨t1, t2, fun x hx => ?_⟩ (dp_set D hk hs ho10 hos hw) (by omega)
    show (if 38 = 38 ∧ r = r ∧ x = k * 81 + s then nI (max (F (k * 81 + s)) (wt k * o / 10 + F ((k + 1) * 81 + s - o))) else sE S 38 r x) = nI (if x = k * 81 + s then max (F (k * 81 + s)) (wt k * o / 10 + F ((k + 1) * 81 + s - o)) else F x)
    by_cases z : x = k * 81 + s
    · rw [if_pos ⟨rfl, rfl, z⟩, if_pos z]
    · rw [if_neg (fun q => z q.2.2), if_neg z]
      exact t3 x hx
theorem v_c51 {Y0 : mY} {S0 S1 : mS} {r n : Nat} (hn : n ≤ 8) {wt : Nat → Nat} {k : Nat} (hk : k < n) (hw : wt k ≤ 2376) {κ : Option Nat → mM → Prop} {R27 : Option Nat → Int32 → Option Nat → Int32 → mM → Prop}
    (hR : ∀ S M F, vP g Y0 S0 Y S M → eqT S S1 → vTb Y S r n F → dpI n wt k F → R27 (some (yA Y 20 0)) (nI 81) (some (yA Y 38 r)) (nI k + (-1)) M) : ∀ (d s : Nat) (S : mS) (M : mM) (F : Nat → Nat), vP g Y0 S0 Y S M → eqT S S1 → vTb Y S r n F → dpI n wt k F → s + d = 81 → wX14_catches_51 κ R27 (d + 1) (some (yA Y 20 0)) (nI 81) (some (yA Y 38 r)) (nI k) (nI (wt k)) (nI s) M := by
  intro d
  induction d with
  | zero =>
    intro s S M F P E T D hs
    rw [wX14_catches_51]
    exact br_t (nI_le (by omega) (by omega)) (hR S M F P E T D)
  | succ d ih =>
    intro s S M F P E T D hs
    rw [wX14_catches_51]
    exact br_f (nI_ge (by omega) (by omega)) ⟨min 10 s + 1 + 1, v_c60 hn hk (by omega) hw (fun S M F P E T D => by rw [nI_1]; exact ih (s + 1) S M F P E T D (by omega)) (min 10 s + 1) 0 S M F P E T D (by omega)⟩
theorem v_c27 {Y0 : mY} {S0 S1 : mS} {r : Nat} {wt : Nat → Nat} (hw : vWt g Y S1 wt) {κ : Option Nat → mM → Prop}
    (h : ∀ S M F, vP g Y0 S0 Y S M → eqT S S1 → vTb Y S r (yn Y 23) F → dpI (yn Y 23) wt 0 F → κ (some (yA Y 38 r)) M) : ∀ (d : Nat) (S : mS) (M : mM) (F : Nat → Nat), vP g Y0 S0 Y S M → eqT S S1 → vTb Y S r (yn Y 23) F → dpI (yn Y 23) wt d F → d ≤ yn Y 23 → wX14_catches_27 κ (d + 1) (some (yA Y 20 0)) (nI 81) (some (yA Y 38 r)) (nI d - 1) M := by
  intro d
  induction d with
  | zero =>
    intro S M F P E T D hd
    rw [wX14_catches_27]
    exact br_t (by decide) (h S M F P E T D)
  | succ d ih =>
    intro S M F P E T D hd
    have hb := P.1.2.1.2.1
    have hlt : d < yn Y 23 := by omega
    rw [wX14_catches_27, nI_pred]
    refine br_f (nI_pos (by omega)) (v_G P.1.1 P.1.2.1 hlt (s_rc P.1.1 P.1.2.1.x0 rfl rfl ((hw d hlt).2 S M _ P.1.1 E ?_)))
    exact ⟨82, v_c51 (by omega) hlt (hw d hlt).1 (fun S M F P E T D => by rw [nI_m1]; exact ih S M F P E T D (by omega)) 81 0 S M F P E T (dp_next D) (by omega)⟩
theorem v_catches {Y0 : mY} {S0 : mS} (P : vP g Y0 S0 Y S M) {κ : Option Nat → mM → Prop} (h : ∀ Y1 S1 S2 M2 r wt F, vP g Y0 S0 Y1 S2 M2 → mX1 Y S 38 Y1 S1 → eqT S2 S1 → vWt g Y1 S1 wt → vTb Y1 S2 r (yn Y1 23) F → dpI (yn Y1 23) wt 0 F → κ (some (yA Y1 38 r)) M2) : wX14_catches κ (some (yA Y 20 0)) M := by
  have H := P.1.1
  have V := P.1.2.1
  have hb := V.2.1
  refine s_gR6 H V.x0 rfl rfl rfl (s_rcL H rfl (V.l24 (by omega)) (v_szG H V ?_))
  rw [nI_1, show (81 : Int32) = nI 81 from rfl, pk_mul]
  refine v_row P (by omega) (by omega) (fun Y1 S1 M1 r P1 a hr hC hE => ?_)
  have V1 := P1.1.2.1
  rw [← a.1 20 0 V.x0]
  refine s_gR6 P1.1.1 V1.x0 rfl rfl rfl (s_rcL P1.1.1 rfl (V1.l24 (by omega)) (v_szG P1.1.1 V1 ?_))
  obtain ⟨wt, hwt⟩ := v_wts (g := g) V1 P1.1.2.2.1
  refine ⟨yn Y1 23 + 1, v_c27 hwt (fun S2 M2 F P2 E T D => h Y1 S1 S2 M2 r wt F P2 a E hwt T D) (yn Y1 23) S1 M1 (fun _ => 0) P1 (eqT.rf S1) ⟨hr, ?_, fun x _ => by rw [hE]; rfl⟩ (dp_0 _ _) (Nat.le_refl _)⟩
  rw [hC, a.2.2.1 23 (by omega)]
/-- the odds of one gate: they are found -/
theorem v_pn88 {Y0 : mY} {S0 : mS} (P : vP g Y0 S0 Y S M) {r n : Nat} (hn : n ≤ 8) {wt F : Nat → Nat} (T : vTb Y S r n F) (D : dpI n wt 0 F) {k lf : Nat} (hk : k < n) (hlf : lf < 81) (hw : wt k ≤ 2376) {gt rs : Int32} {κ : Int32 → mM → Prop} {R55 : Option Nat → Int32 → Int32 → Option Nat → Int32 → Int32 → Int32 → mM → Prop} {x0 : Option Nat}
    (h : ∀ o, κ (nI o) M) (hR : ∀ o, o ≤ 10 → o ≤ lf → rs.toInt ≤ ((wt k * o / 10 + F ((k + 1) * 81 + lf - o) : Nat) : Int) → R55 x0 gt (nI 81) (some (yA Y 38 r)) (nI lf - nI o) (rs - nI (wt k) * nI o / 10) (nI k + 1) M) : ∀ (d o os : Nat), os ≤ 10 → os ≤ lf → rs.toInt ≤ ((wt k * os / 10 + F ((k + 1) * 81 + lf - os) : Nat) : Int) → o + d = os → wX14_planNow_88 κ R55 (d + 1) x0 gt (nI 81) (some (yA Y 38 r)) (nI lf) rs (nI k) (nI (wt k)) (nI o) M := by
  obtain ⟨t1, t2, t3⟩ := T
  have step : ∀ o, o ≤ 10 → o ≤ lf → ∀ {W1 W0 : mM → Prop}, (rs.toInt ≤ ((wt k * o / 10 + F ((k + 1) * 81 + lf - o) : Nat) : Int) → W1 M) → (¬ rs.toInt ≤ ((wt k * o / 10 + F ((k + 1) * 81 + lf - o) : Nat) : Int) → W0 M) → m_ldI M (some (yA Y 38 r)) ((((nI k + 1) * nI 81) + nI lf) - nI o) 0 fun x1 => ((rs ≤ (((nI (wt k) * nI o) / 10) + x1) → W1 M) ∧ (¬ (rs ≤ (((nI (wt k) * nI o) / 10) + x1)) → W0 M)) := by
    intro o h10 hos W1 W0 hw1 hw0
    have b2 := dp_bd D hn (k' := k + 1) (s := lf - o) (by omega) (by omega)
    rw [show (k + 1) * 81 + (lf - o) = (k + 1) * 81 + lf - o by omega] at b2
    have b3 := wt10 hw h10
    have b4 : wt k * o ≤ 2376 * 10 := Nat.mul_le_mul hw h10
    rw [nI_1, pk_mul, nI_add, pk_sub (by omega)]
    refine s_ldI P.1.1 t1 rfl (by decide) rfl (by rw [t2]; omega) (by rw [t2]; omega) ?_
    rw [t3 _ (by omega), pk_mul, show (10 : Int32) = nI 10 from rfl, pk_div (by omega) (by omega) (by omega), nI_add, Int32.le_iff_toInt_le, nI_toInt (by omega)]
    exact br_c hw1 hw0
  intro d
  induction d with
  | zero =>
    intro o os h10 hos hv ho
    have e : o = os := by omega
    subst e
    rw [wX14_planNow_88]
    exact step o h10 hos (W1 := fun M => _) (W0 := fun M => _) (fun hle => br_c (fun _ => h o) (fun _ => hR o h10 hos hle)) (fun hn => absurd hv hn)
  | succ d ih =>
    intro o os h10 hos hv ho
    rw [wX14_planNow_88]
    refine step o (by omega) (by omega) (W1 := fun M => _) (W0 := fun M => _) (fun hle => br_c (fun _ => h o) (fun _ => hR o (by omega) (by omega) hle)) (fun _ => ?_)
    show wX14_planNow_88 κ R55 (d + 1) x0 gt (nI 81) (some (yA Y 38 r)) (nI lf) rs (nI k) (nI (wt k)) (nI o + 1) M
    rw [nI_1]
    exact ih (o + 1) os h10 hos hv (by omega)
theorem I_sub {a : Int32} {c : Nat} (hc : c < 100000) (h : -100000 ≤ a.toInt) (h2 : a.toInt ≤ 100000) : (a - nI c).toInt = a.toInt - c := by
  rw [Int32.toInt_sub, nI_toInt (by omega), Int.bmod_eq_of_le (by omega) (by omega)]
theorem v_pn55 {Y0 : mY} {S0 S1 : mS} (P : vP g Y0 S0 Y S M) (E : eqT S S1) {r : Nat} {wt F : Nat → Nat} (hw : vWt g Y S1 wt) (T : vTb Y S r (yn Y 23) F) (D : dpI (yn Y 23) wt 0 F) {gt : Int32} {κ : Int32 → mM → Prop} (h : ∀ x, κ x M) : ∀ (d k lf : Nat) (rs : Int32), k + d = yn Y 23 → lf < 81 → rs.toInt ≤ (F (k * 81 + lf) : Int) → -(2376 * (k : Int)) ≤ rs.toInt → rs.toInt ≤ 2000 → wX14_planNow_55 κ (d + 1) (some (yA Y 20 0)) gt (nI 81) (some (yA Y 38 r)) (nI lf) rs (nI k) M := by
  have hb := P.1.2.1.2.1
  intro d
  induction d with
  | zero =>
    intro k lf rs hk hlf h1 h2 h3
    rw [wX14_planNow_55]
    exact v_hdG P.1.1 P.1.2.1 (by omega) (fun _ => h _) (fun hlt => absurd hlt (by omega))
  | succ d ih =>
    intro k lf rs hk hlf h1 h2 h3
    rw [wX14_planNow_55]
    refine v_hdG P.1.1 P.1.2.1 (by omega) (fun z => absurd z (by omega)) (fun hlt => s_rc P.1.1 P.1.2.1.x0 rfl rfl ((hw k hlt).2 S M _ P.1.1 E ?_))
    have hstar : ∃ os, os ≤ 10 ∧ os ≤ lf ∧ rs.toInt ≤ ((wt k * os / 10 + F ((k + 1) * 81 + lf - os) : Nat) : Int) := by
      rcases D.2.1 k lf (by omega) hlt hlf with h0 | ⟨os, p1, p2, p3⟩
      · refine ⟨0, by omega, by omega, ?_⟩
        rw [h0] at h1
        exact Int.le_trans h1 (Int.natCast_nonneg _)
      · exact ⟨os, p1, p2, by rw [← p3]; exact h1⟩
    obtain ⟨os, p1, p2, p3⟩ := hstar
    refine ⟨os + 1, v_pn88 P (by omega) T D hlt hlf (hw k hlt).1 (fun o => h _) (fun o q1 q2 q3 => ?_) os 0 os p1 p2 p3 (by omega)⟩
    have b3 := wt10 (hw k hlt).1 q1
    have b4 : wt k * o ≤ 2376 * 10 := Nat.mul_le_mul (hw k hlt).1 q1
    rw [pk_sub q2, pk_mul, show (10 : Int32) = nI 10 from rfl, pk_div (by omega) (by omega) (by omega), nI_1]
    have e := I_sub (a := rs) (c := wt k * o / 10) (by omega) (by omega) (by omega)
    refine ih (k + 1) (lf - o) _ (by omega) (by omega) ?_ ?_ ?_
    · rw [e, show (k + 1) * 81 + (lf - o) = (k + 1) * 81 + lf - o by omega]
      omega
    · rw [e]
      omega
    · rw [e]
      omega
theorem v_planNow {Y0 : mY} {S0 : mS} (P : vP g Y0 S0 Y S M) {pr gt : Int32} (hp0 : 0 ≤ pr.toInt) (hp1 : pr.toInt ≤ 2000) {κ : Int32 → mM → Prop} (h : ∀ x Y' S' M', vP g Y0 S0 Y' S' M' → (∀ k, k ≠ 32 → k ≠ 38 → yn Y' k = yn Y k) → (∀ k i, i < yn Y k → yA Y' k i = yA Y k i) → κ x M') : wX14_planNow κ (some (yA Y 20 0)) pr gt M := by
  have V := P.1.2.1
  have hb := V.2.1
  refine s_rc P.1.1 V.x0 rfl rfl (v_catches P (fun Y1 S1 S2 M2 r wt F P2 a E hwt T D => ?_))
  have h' : ∀ x, κ x M2 := fun x => h x Y1 S2 M2 P2 (fun k z1 z2 => a.2.2.1 k z2) a.1
  have n23 := a.2.2.1 23 (by omega)
  rw [← a.1 20 0 V.x0]
  have h33 : ∀ j, j ≤ 81 → (j < 81 → pr.toInt ≤ (F j : Int)) → wX14_planNow_33 κ (some (yA Y1 20 0)) pr gt (nI 81) (some (yA Y1 38 r)) (nI j) M2 := by
    intro j hj hv
    refine br_c (fun _ => h' _) (fun z => br_c (fun _ => h' _) (fun _ => ?_))
    have hj2 : j < 81 := by
      have : j ≠ 81 := fun e => z (by rw [e])
      omega
    exact ⟨yn Y1 23 + 1, v_pn55 P2 E hwt T D h' (yn Y1 23) 0 j pr (by omega) hj2 (by rw [Nat.zero_mul, Nat.zero_add]; exact hv hj2) (by omega) hp1⟩
  have hl : ∀ (d j : Nat), j + d = 81 → wX14_planNow_12 κ (d + 1) (some (yA Y1 20 0)) pr gt (nI 81) (some (yA Y1 38 r)) (nI j) M2 := by
    intro d
    induction d with
    | zero =>
      intro j hj
      rw [wX14_planNow_12]
      exact br_t (nI_le (by omega) (by omega)) (h33 j (by omega) (fun z => absurd z (by omega)))
    | succ d ih =>
      intro j hj
      obtain ⟨t1, t2, t3⟩ := T
      have bF := dp_bd D (by omega) (k' := 0) (s := j) (by omega) (by omega)
      rw [Nat.zero_mul, Nat.zero_add] at bF
      rw [wX14_planNow_12]
      refine br_f (nI_ge (by omega) (by omega)) (s_ldI P2.1.1 t1 rfl (by decide) rfl (by rw [t2]; omega) (by rw [t2]; omega) ?_)
      rw [t3 _ (by omega)]
      refine br_c (fun z => h33 j (by omega) (fun _ => ?_)) (fun _ => ?_)
      · rw [Int32.le_iff_toInt_le, nI_toInt (by omega)] at z
        exact z
      · rw [nI_1]
        exact ih (j + 1) (by omega)
  exact ⟨82, hl 81 0 (by omega)⟩
end VPLAN
