/-! THE PURE SIDE, 14: the reference's plans -/
theorem eqT.uE {S : mS} {i j : Nat} {v : Int32} : eqT (uE S 38 i j v) S := fun k i' _ z => mEq.uE (by omega)
theorem eqT.nx {S : mS} {i f : Nat} {v : Int32} : eqT (uI S 32 i f v) S := fun k i' z _ => mEq.uI (by omega)
theorem vP_E {g : Nat → Nat} {Y0 Y : mY} {S0 S : mS} {M M' : mM} (h : vP g Y0 S0 Y S M) {k i f : Nat} {v : Int32} (H' : mR g Y (uE S k i f v) M') (hk : 20 ≤ k ∧ k ≠ 31 ∧ ¬ (35 ≤ k ∧ k ≤ 37)) : vP g Y0 S0 Y (uE S k i f v) M' := by
  obtain ⟨⟨H, V, VV, VQ, VT⟩, F, R⟩ := h
  exact ⟨⟨H', vS_uE V, VV.of (fun _ _ _ _ => rfl), VQ.of (fun _ => rfl) (fun _ => rfl) (fun _ => rfl), VT⟩, F.tr (mFm.uE hk), ⟨R.1, R.2⟩⟩
theorem vP_J {g : Nat → Nat} {Y0 Y : mY} {S0 S : mS} {M M' : mM} (h : vP g Y0 S0 Y S M) {k i f : Nat} {v : Int64} (H' : mR g Y (uJ S k i f v) M') (hk : 20 ≤ k ∧ k ≠ 31 ∧ ¬ (35 ≤ k ∧ k ≤ 37)) : vP g Y0 S0 Y (uJ S k i f v) M' := by
  obtain ⟨⟨H, V, VV, VQ, VT⟩, F, R⟩ := h
  exact ⟨⟨H', vS_uJ V, VV.of (fun _ _ _ _ => rfl), VQ.of (fun _ => rfl) (fun _ => rfl) (fun _ => rfl), VT⟩, F.tr (mFm.uJ hk), ⟨R.1, R.2⟩⟩
theorem mI_max (a b : Nat) (ha : a < 2 ^ 31) (hb : b < 2 ^ 31) : m_max (nI a) (nI b) = nI (max a b) := by
  unfold m_max
  by_cases h : a < b
  · rw [if_pos ((nI_ltI ha hb).mpr h), Nat.max_eq_right (by omega)]
  · rw [if_neg (fun z => h ((nI_ltI ha hb).mp z)), Nat.max_eq_left (by omega)]
/-- a cell of the table: 0, or made of one behind -/
def okc (wt F : Nat → Nat) (k s : Nat) : Prop := F (k * 81 + s) = 0 ∨ ∃ o, o ≤ 10 ∧ o ≤ s ∧ F (k * 81 + s) = wt k * o / 10 + F ((k + 1) * 81 + s - o)
def dpI (n : Nat) (wt : Nat → Nat) (k : Nat) (F : Nat → Nat) : Prop := (∀ x, x < k * 81 → F x = 0) ∧ (∀ k' s, k ≤ k' → k' < n → s < 81 → okc wt F k' s) ∧ (∀ k' s, k' ≤ n → s < 81 → F (k' * 81 + s) ≤ 2376 * (n - k'))
def dpU (wt F : Nat → Nat) (k s o : Nat) : Nat → Nat := fun x => if x = k * 81 + s then max (F (k * 81 + s)) (wt k * o / 10 + F ((k + 1) * 81 + s - o)) else F x
theorem wt10 {a o : Nat} (h : a ≤ 2376) (ho : o ≤ 10) : a * o / 10 ≤ 2376 := by
  have h1 : a * o ≤ a * 10 := Nat.mul_le_mul_left a ho
  have h2 : a * o / 10 ≤ a * 10 / 10 := Nat.div_le_div_right h1
  rw [Nat.mul_div_cancel a (by omega)] at h2
  omega
theorem dp_bd {n : Nat} {wt F : Nat → Nat} {k : Nat} (D : dpI n wt k F) (hn : n ≤ 8) {k' s : Nat} (hk : k' ≤ n) (hs : s < 81) : F (k' * 81 + s) ≤ 19008 := by
  have := D.2.2 k' s hk hs
  omega
theorem dp_set {n : Nat} {wt F : Nat → Nat} {k s o : Nat} (D : dpI n wt k F) (hk : k < n) (hs : s < 81) (ho : o ≤ 10) (hos : o ≤ s) (hw : wt k ≤ 2376) : dpI n wt k (dpU wt F k s o) := by
  obtain ⟨d1, d2, d3⟩ := D
  have hne : ∀ x, x ≠ k * 81 + s → dpU wt F k s o x = F x := fun x hx => if_neg hx
  have heq : dpU wt F k s o (k * 81 + s) = max (F (k * 81 + s)) (wt k * o / 10 + F ((k + 1) * 81 + s - o)) := if_pos rfl
  refine ⟨fun x hx => ?_, fun k' s' h1 h2 h3 => ?_, fun k' s' h2 h3 => ?_⟩
  · rw [hne x (by omega)]
    exact d1 x hx
  · have hb : ∀ o', o' ≤ s' → dpU wt F k s o ((k' + 1) * 81 + s' - o') = F ((k' + 1) * 81 + s' - o') := fun o' ho' => hne _ (by omega)
    by_cases z : k' = k ∧ s' = s
    · obtain ⟨rfl, rfl⟩ := z
      unfold okc
      rw [heq]
      by_cases q : F (k' * 81 + s') < wt k' * o / 10 + F ((k' + 1) * 81 + s' - o)
      · rw [Nat.max_eq_right (by omega)]
        exact Or.inr ⟨o, ho, hos, by rw [hb o hos]⟩
      · rw [Nat.max_eq_left (by omega)]
        rcases d2 k' s' (by omega) h2 h3 with h | ⟨o', p1, p2, p3⟩
        · exact Or.inl h
        · exact Or.inr ⟨o', p1, p2, by rw [hb o' p2]; exact p3⟩
    · have e : dpU wt F k s o (k' * 81 + s') = F (k' * 81 + s') := hne _ (by omega)
      unfold okc
      rw [e]
      rcases d2 k' s' h1 h2 h3 with h | ⟨o', p1, p2, p3⟩
      · exact Or.inl h
      · exact Or.inr ⟨o', p1, p2, by rw [hb o' p2]; exact p3⟩
  · by_cases z : k' = k ∧ s' = s
    · obtain ⟨rfl, rfl⟩ := z
      rw [heq]
      have b1 := d3 k' s' h2 h3
      have b2 := d3 (k' + 1) (s' - o) (by omega) (by omega)
      have b3 := wt10 hw ho
      rw [show (k' + 1) * 81 + (s' - o) = (k' + 1) * 81 + s' - o by omega] at b2
      refine Nat.max_le.mpr ⟨b1, ?_⟩
      omega
    · rw [hne _ (by omega)]
      exact d3 k' s' h2 h3
theorem dp_next {n : Nat} {wt F : Nat → Nat} {k : Nat} (D : dpI n wt (k + 1) F) : dpI n wt k F := by
  obtain ⟨d1, d2, d3⟩ := D
  refine ⟨fun x hx => d1 x (by omega), fun k' s h1 h2 h3 => ?_, d3⟩
  by_cases z : k' = k
  · subst z
    exact Or.inl (d1 _ (by omega))
  · exact d2 k' s (by omega) h2 h3
theorem dp_0 (n : Nat) (wt : Nat → Nat) : dpI n wt n (fun _ => 0) := ⟨fun _ _ => rfl, fun k' s h1 h2 _ => absurd h1 (by omega), fun _ _ _ _ => Nat.zero_le _⟩
section VPLAN
variable {g : Nat → Nat} {Y : mY} {S : mS} {M : mM}
theorem mVs.T {S' : mS} (V : mVs Y S) (a5 : eqT S' S) : mVs Y S' := by
  obtain ⟨w1, w2, w3, ⟨v1, v2, v3⟩, ⟨u1, u2, u3, u4⟩⟩ := V
  have hL : ∀ i, sL S' 24 i = sL S 24 i := fun i => (a5 24 i (by omega) (by omega)).2.2.2.2.1
  refine ⟨w1, w2, by rw [hL, hL, hL, hL]; exact w3, ⟨fun v hv => (congrFun (a5 30 v (by omega) (by omega)).1 0).trans (v1 v hv), ((a5 33 0 (by omega) (by omega)).2.2.2.2.2.2.1).trans v2, fun v hv => ?_⟩, ⟨((a5 21 0 (by omega) (by omega)).2.2.2.2.2.2.1).trans u1, fun i hi => ?_, fun t ht => ((a5 26 t (by omega) (by omega)).2.2.2.2.2.2.1).trans (u3 t ht), ((a5 27 0 (by omega) (by omega)).2.2.2.2.2.2.1).trans u4⟩⟩
  · rw [congrFun (a5 33 0 (by omega) (by omega)).2.2.2.2.2.2.2.2 (128 + v), v3 v hv]
  · rw [congrFun (a5 21 0 (by omega) (by omega)).2.2.2.2.2.2.2.2 i, u2 i hi]
/-- the row holds the table -/
def vTb (Y : mY) (S : mS) (r n : Nat) (F : Nat → Nat) : Prop := r < yn Y 38 ∧ sC S 38 r = (n + 1) * 81 ∧ ∀ x, x < (n + 1) * 81 → sE S 38 r x = nI (F x)
theorem I_sub {a : Int32} {c : Nat} (hc : c < 100000) (h : -100000 ≤ a.toInt) (h2 : a.toInt ≤ 100000) : (a - nI c).toInt = a.toInt - c := by
  rw [Int32.toInt_sub, nI_toInt (by omega), Int.bmod_eq_of_le (by omega) (by omega)]
end VPLAN
