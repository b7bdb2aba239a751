/-! THE PROPERTY, 1: what holds besides: rates, nightmares that came in, duties, fines, numbers drawn -/
/-- what one part, what the parts ahead of a place have of the fines of a land -/
def cF (N : mN) (l j : Nat) : Nat := if nv N 29 j 3 = 3 ∧ nv N 29 j 4 = nI (100 + l) then tN (nv N 29 j 1) else 0
def nFn (N : mN) (l : Nat) : Nat → Nat
  | 0 => 0
  | j + 1 => nFn N l j + cF N l j
def gR (N : mN) : Prop := ∀ l, l < 6 → ∃ r, r ≤ 50 ∧ nv N 22 l 0 = nI r
def gN (N : mN) : Prop := ∀ l, l < 6 → ∃ a, a ≤ 30 ∧ nv N 22 l 3 = nI a
def gD (k : Nat) (N : mN) : Prop := ∀ l, l < 6 → ∃ a, a ≤ 1200 * k ∧ nv N 22 l 4 = nI a
def gE (N : mN) : Prop := ∀ l, l < 6 → nv N 22 l 5 = nI (nFn N l (nn N 29))
def gC (N : mN) : Prop := ∀ p, p < nn N 29 → nv N 29 p 3 = 3 → ∃ l, l < 6 ∧ nv N 29 p 4 = nI (100 + l)
def gW (k : Nat) (N : mN) : Prop := ∃ a, a ≤ k ∧ nv N 20 0 4 = nI a
def nG (k : Nat) (N : mN) : Prop := gR N ∧ gN N ∧ gD k N ∧ gE N ∧ gC N ∧ gW k N
theorem cF_cg {N N' : mN} {l j : Nat} (e1 : nv N' 29 j 1 = nv N 29 j 1) (e3 : nv N' 29 j 3 = nv N 29 j 3) (e4 : nv N' 29 j 4 = nv N 29 j 4) : cF N' l j = cF N l j := by
  unfold cF
  rw [e1, e3, e4]
theorem cF_0 {N : mN} {l j : Nat} (h : ¬ (nv N 29 j 3 = 3 ∧ nv N 29 j 4 = nI (100 + l))) : cF N l j = 0 := if_neg h
theorem nFn_eq {N N' : mN} {l : Nat} : ∀ n, (∀ j, j < n → cF N' l j = cF N l j) → nFn N' l n = nFn N l n := by
  intro n
  induction n with
  | zero => intro _; rfl
  | succ n ih =>
    intro h
    show nFn N' l n + cF N' l n = nFn N l n + cF N l n
    rw [ih (fun j hj => h j (by omega)), h n (by omega)]
theorem nFn_one {N N' : mN} {l j : Nat} : ∀ n, j < n → (∀ i, i < n → i ≠ j → cF N' l i = cF N l i) → nFn N' l n + cF N l j = nFn N l n + cF N' l j := by
  intro n
  induction n with
  | zero => intro h _; exact absurd h (by omega)
  | succ n ih =>
    intro hj h
    show nFn N' l n + cF N' l n + cF N l j = nFn N l n + cF N l n + cF N' l j
    by_cases w : n = j
    · subst w
      rw [nFn_eq n (fun i hi => h i (by omega) (by omega))]
      omega
    · have := ih (by omega) (fun i hi hn => h i (by omega) hn)
      rw [h n (by omega) w]
      omega
theorem nFn_le {N : mN} {l : Nat} : ∀ n, (∀ j, j < n → ∃ a, a ≤ 99 ∧ nv N 29 j 1 = nI a) → nFn N l n ≤ 99 * n := by
  intro n
  induction n with
  | zero => intro _; exact Nat.le_refl 0
  | succ n ih =>
    intro h
    have := ih (fun j hj => h j (by omega))
    obtain ⟨a, ha, ea⟩ := h n (by omega)
    have hc : cF N l n ≤ 99 := by
      unfold cF
      split
      · rw [ea, tN_nI (by omega)]; exact ha
      · omega
    show nFn N l n + cF N l n ≤ 99 * (n + 1)
    omega
theorem nG.mono {k k' : Nat} {N : mN} (h : nG k N) (hk : k ≤ k') : nG k' N := by
  obtain ⟨h1, h2, h3, h4, h5, a, ha, ea⟩ := h
  refine ⟨h1, h2, fun l hl => ?_, h4, h5, a, by omega, ea⟩
  obtain ⟨d, hd, ed⟩ := h3 l hl
  exact ⟨d, Nat.le_trans hd (Nat.mul_le_mul_left _ hk), ed⟩
theorem nG.cg {k : Nat} {N N' : mN} (h : nG k N) (n29 : nn N' 29 = nn N 29) (e : ∀ k i f, (k = 20 ∧ f = 4) ∨ (k = 22 ∧ (f = 0 ∨ f = 3 ∨ f = 4 ∨ f = 5)) ∨ (k = 29 ∧ (f = 1 ∨ f = 3 ∨ f = 4)) → nv N' k i f = nv N k i f) : nG k N' := by
  obtain ⟨h1, h2, h3, h4, h5, a, ha, ea⟩ := h
  refine ⟨fun l hl => ?_, fun l hl => ?_, fun l hl => ?_, fun l hl => ?_, fun p hp => ?_, a, ha, ?_⟩
  · rw [e 22 l 0 (by omega)]; exact h1 l hl
  · rw [e 22 l 3 (by omega)]; exact h2 l hl
  · rw [e 22 l 4 (by omega)]; exact h3 l hl
  · rw [e 22 l 5 (by omega), h4 l hl, n29, nFn_eq (nn N 29) (fun j _ => cF_cg (e 29 j 1 (by omega)) (e 29 j 3 (by omega)) (e 29 j 4 (by omega)))]
  · rw [e 29 p 3 (by omega), e 29 p 4 (by omega)]; exact h5 p (by rw [← n29]; exact hp)
  · rw [e 20 0 4 (by omega)]; exact ea
/-- what a call may do, and what it may not -/
def nSt (N N' : mN) : Prop := nn N' = nn N ∧ (∀ p f, f < 3 → nv N' 29 p f = nv N 29 p f) ∧ (∀ p, p < nn N 29 → nv N 29 p 4 = 999 → nv N' 29 p 4 = 999) ∧ (∀ s, s < nn N 28 → nv N 28 s 3 = 2 → nv N' 28 s 3 = 2) ∧ (nh N).length ≤ (nh N').length ∧ tN (nv N 20 0 4) ≤ tN (nv N' 20 0 4) ∧ (∀ l, l < 6 → tN (nv N 22 l 4) ≤ tN (nv N' 22 l 4)) ∧ 24 * tN (nv N 20 0 1) + tN (nv N 20 0 2) ≤ 24 * tN (nv N' 20 0 1) + tN (nv N' 20 0 2)
theorem nSt.rf (N : mN) : nSt N N := ⟨rfl, fun _ _ _ => rfl, fun _ _ h => h, fun _ _ h => h, Nat.le_refl _, Nat.le_refl _, fun _ _ => Nat.le_refl _, Nat.le_refl _⟩
theorem nSt.tr {N N1 N2 : mN} (h : nSt N N1) (h' : nSt N1 N2) : nSt N N2 := by
  obtain ⟨a1, a2, a3, a4, a5, a6, a7, a8⟩ := h
  obtain ⟨b1, b2, b3, b4, b5, b6, b7, b8⟩ := h'
  exact ⟨b1.trans a1, fun p f hf => (b2 p f hf).trans (a2 p f hf), fun p hp h => b3 p (by rw [a1]; exact hp) (a3 p hp h), fun s hs h => b4 s (by rw [a1]; exact hs) (a4 s hs h), Nat.le_trans a5 b5, Nat.le_trans a6 b6, fun l hl => Nat.le_trans (a7 l hl) (b7 l hl), Nat.le_trans a8 b8⟩
theorem nSt.cg {N N' : mN} (n : nn N' = nn N) (hh : nh N' = nh N) (e : ∀ k i f, (k = 20 ∧ (f = 1 ∨ f = 2 ∨ f = 4)) ∨ (k = 22 ∧ f = 4) ∨ (k = 28 ∧ f = 3) ∨ (k = 29 ∧ (f < 3 ∨ f = 4)) → nv N' k i f = nv N k i f) : nSt N N' := by
  refine ⟨n, fun p f hf => e 29 p f (by omega), fun p _ h => ?_, fun s _ h => ?_, by rw [hh]; exact Nat.le_refl _, ?_, fun l _ => ?_, ?_⟩
  · rw [e 29 p 4 (by omega)]; exact h
  · rw [e 28 s 3 (by omega)]; exact h
  · rw [e 20 0 4 (by omega)]; exact Nat.le_refl _
  · rw [e 22 l 4 (by omega)]; exact Nat.le_refl _
  · rw [e 20 0 1 (by omega), e 20 0 2 (by omega)]; exact Nat.le_refl _
/-- a land's, a head's place differ -/
theorem at_hl {s l : Nat} (hs : s < 12) (hl : l < 6) : ¬ nI s = nI (100 + l) := fun w => by
  have := (nI_eq (by omega) (by omega)).mp w
  omega
theorem at_9l {l : Nat} (hl : l < 6) : ¬ (999 : Int32) = nI (100 + l) := fun w => by
  have := (nI_eq (a := 999) (b := 100 + l) (by omega) (by omega)).mp w
  omega
theorem at_9s {s : Nat} (hs : s < 12) : ¬ (999 : Int32) = nI s := fun w => by
  have := (nI_eq (a := 999) (b := s) (by omega) (by omega)).mp w
  omega
/-- what is told ahead of the hours -/
theorem nG.land {k : Nat} {N N' : mN} (G : nG k N) {a r al c v : Int32} (e : fLand N a r al = (c, v, N')) : nG k N' := by
  unfold fLand at e
  by_cases z1 : ¬ (¬ a < 0 ∧ a < 6)
  · rw [if_pos z1] at e; cases e; exact G
  rw [if_neg z1] at e
  by_cases z2 : ¬ ((¬ r < 0 ∧ r ≤ 50) ∧ (¬ al < 0 ∧ al ≤ 99))
  · rw [if_pos z2] at e; cases e; exact G
  rw [if_neg z2] at e
  cases e
  have h2 := (Classical.not_not.mp z2).1
  obtain ⟨q, hq, eq⟩ := nI_rg (n := 50) (by omega) h2.1 (Int32.not_lt.mpr h2.2)
  obtain ⟨h1, h2, h3, h4, h5, h6⟩ := G
  have e9 : ∀ k i f, ¬ (k = 22 ∧ f ≤ 1) → nv (nU (nU N 22 (tN a) 0 r) 22 (tN a) 1 al) k i f = nv N k i f := fun k i f w => (nv_U (by omega)).trans (nv_U (by omega))
  refine ⟨fun l hl => ?_, fun l hl => ?_, fun l hl => ?_, fun l hl => ?_, fun p hp => ?_, ?_⟩
  · rw [nv_U (by omega)]
    by_cases w : l = tN a
    · rw [w, nv_U_s]; exact ⟨q, hq, eq⟩
    · rw [nv_U (by omega)]; exact h1 l hl
  · rw [e9 22 l 3 (by omega)]; exact h2 l hl
  · rw [e9 22 l 4 (by omega)]; exact h3 l hl
  · rw [e9 22 l 5 (by omega), h4 l hl]
    exact congrArg nI (nFn_eq (nn N 29) (fun j _ => cF_cg (e9 29 j 1 (by omega)) (e9 29 j 3 (by omega)) (e9 29 j 4 (by omega)))).symm
  · rw [e9 29 p 3 (by omega), e9 29 p 4 (by omega)]; exact h5 p hp
  · unfold gW; rw [e9 20 0 4 (by omega)]; exact h6
theorem nG.trade {k : Nat} {N N' : mN} (G : nG k N) {a b m c v : Int32} (e : fTrade N a b m = (c, v, N')) : nG k N' := by
  unfold fTrade at e
  repeat' split at e
  all_goals
    cases e
    first
      | exact G
      | exact G.cg rfl (fun k i f w => (nv_U (by omega)).trans (nv_U (by omega)))
theorem nG.odds {k : Nat} {N N' : mN} (G : nG k N) {a b c v : Int32} (e : fOdds N a b = (c, v, N')) : nG k N' ∧ nSt N N' := by
  unfold fOdds at e
  repeat' split at e
  all_goals
    cases e
    first
      | exact ⟨G, nSt.rf N⟩
      | exact ⟨G.cg rfl (fun k i f w => nv_U (by omega)), nSt.cg rfl rfl (fun k i f w => nv_U (by omega))⟩
theorem nG.relieve {k : Nat} {N N' : mN} (G : nG k N) {a c v : Int32} (e : fRelieve N a = (c, v, N')) : nG k N' ∧ nSt N N' := by
  unfold fRelieve at e
  repeat' split at e
  all_goals
    cases e
    first
      | exact ⟨G, nSt.rf N⟩
      | exact ⟨G.cg rfl (fun k i f w => nv_U (by omega)), nSt.cg rfl rfl (fun k i f w => nv_U (by omega))⟩
theorem nG.revoke {k : Nat} {N N' : mN} (G : nG k N) {a b c v : Int32} (e : fRevoke N a b = (c, v, N')) : nG k N' ∧ nSt N N' := by
  unfold fRevoke at e
  by_cases z1 : ¬ (¬ a < 0 ∧ a < nI (nn N 23))
  · rw [if_pos z1] at e; cases e; exact ⟨G, nSt.rf N⟩
  rw [if_neg z1] at e
  by_cases z2 : ¬ (¬ b < 0 ∧ b ≤ 96)
  · rw [if_pos z2] at e; cases e; exact ⟨G, nSt.rf N⟩
  rw [if_neg z2] at e
  cases e
  exact ⟨G.cg rfl (fun _ _ _ _ => rfl), nSt.cg rfl rfl (fun _ _ _ _ => rfl)⟩
theorem nG.sing {k : Nat} {N N' : mN} (G : nG k N) {a b n w c v : Int32} (e : fSing N a b n w = (c, v, N')) : nG k N' ∧ nSt N N' := by
  unfold fSing at e
  by_cases z1 : ¬ ((¬ a < 0 ∧ a < nI (nn N 28)) ∧ (¬ b < 0 ∧ b < nI (nn N 23)))
  · rw [if_pos z1] at e; cases e; exact ⟨G, nSt.rf N⟩
  rw [if_neg z1] at e
  by_cases z2 : ¬ ((¬ n < nv N 20 0 1 ∧ n ≤ 99) ∧ (¬ w < 0 ∧ w ≤ 96))
  · rw [if_pos z2] at e; cases e; exact ⟨G, nSt.rf N⟩
  rw [if_neg z2] at e
  cases e
  have e9 : ∀ k i f, ¬ (k = 28 ∧ 6 ≤ f) → nv (nU (nU (nU N 28 (tN a) 6 b) 28 (tN a) 7 n) 28 (tN a) 8 w) k i f = nv N k i f := fun k i f w => (nv_U (by omega)).trans ((nv_U (by omega)).trans (nv_U (by omega)))
  exact ⟨G.cg rfl (fun k i f w => e9 k i f (by omega)), nSt.cg rfl rfl (fun k i f w => e9 k i f (by omega))⟩
theorem nG.gate {k : Nat} {N N' : mN} (G : nG k N) {a b f hh c v : Int32} (e : fGate N a b f hh = (c, v, N')) : nG k N' := by
  unfold fGate at e
  by_cases z1 : ¬ ((¬ a < 0 ∧ a < 6) ∧ (¬ b < 0 ∧ b < 6))
  · rw [if_pos z1] at e; cases e; exact G
  rw [if_neg z1] at e
  by_cases z2 : a = b ∨ ¬ ((¬ f < 0 ∧ f ≤ 23) ∧ (¬ hh < 1 ∧ hh ≤ 24))
  · rw [if_pos z2] at e; cases e; exact G
  rw [if_neg z2] at e
  by_cases z3 : ¬ nn N 23 < 8
  · rw [if_pos z3] at e; cases e; exact G
  rw [if_neg z3] at e
  cases e
  exact G.cg (show nn (nNew N 23 (gFs a b f hh)) 29 = nn N 29 from nn_N (by omega)) (fun k i f' w => nv_N (N := N) (k := 23) (fs := gFs a b f hh) (by omega))
theorem nG.sleeper {k : Nat} {N N' : mN} (G : nG k N) {a b p c v : Int32} (e : fSleeper N a b p = (c, v, N')) : nG k N' := by
  unfold fSleeper at e
  by_cases z1 : ¬ (¬ a < 0 ∧ a < 6)
  · rw [if_pos z1] at e; cases e; exact G
  rw [if_neg z1] at e
  by_cases z2 : ¬ (¬ p < 1 ∧ p ≤ 9)
  · rw [if_pos z2] at e; cases e; exact G
  rw [if_neg z2] at e
  by_cases z3 : ¬ nn N 28 < 12
  · rw [if_pos z3] at e; cases e; exact G
  rw [if_neg z3] at e
  cases e
  exact G.cg (nn_N (by omega)) (fun k i f' w => nv_N (by omega))
theorem nG.part {k : Nat} {N N' : mN} (G : nG k N) {a b p d c v : Int32} (e : fPart N a b p d = (c, v, N')) : nG k N' := by
  unfold fPart at e
  by_cases z1 : ¬ (¬ a < 0 ∧ a < nI (nn N 28))
  · rw [if_pos z1] at e; cases e; exact G
  rw [if_neg z1] at e
  by_cases z2 : ¬ ((¬ b < 0 ∧ b ≤ 7) ∧ (¬ p < 0 ∧ p ≤ 99) ∧ (¬ d < 0 ∧ d ≤ 9))
  · rw [if_pos z2] at e; cases e; exact G
  rw [if_neg z2] at e
  by_cases z3 : ¬ nn N 29 < 24 ∨ ¬ nv N 28 (tN a) 3 = 0
  · rw [if_pos z3] at e; cases e; exact G
  rw [if_neg z3] at e
  cases e
  have e9 : ∀ k i f', ¬ (k = 29 ∧ i = nn N 29) → nv (nNew N 29 (pFs a b p d)) k i f' = nv N k i f' := fun k i f' w => nv_N w
  have e8 : nv (nNew N 29 (pFs a b p d)) 29 (nn N 29) 3 = 0 := nv_N_s
  have n29 : nn (nNew N 29 (pFs a b p d)) 29 = nn N 29 + 1 := nn_N_s
  obtain ⟨h1, h2, h3, h4, h5, h6⟩ := G
  refine ⟨fun l hl => ?_, fun l hl => ?_, fun l hl => ?_, fun l hl => ?_, fun q hq => ?_, ?_⟩
  · rw [e9 22 l 0 (by omega)]; exact h1 l hl
  · rw [e9 22 l 3 (by omega)]; exact h2 l hl
  · rw [e9 22 l 4 (by omega)]; exact h3 l hl
  · rw [e9 22 l 5 (by omega), h4 l hl, n29]
    show nI (nFn N l (nn N 29)) = nI (nFn (nNew N 29 (pFs a b p d)) l (nn N 29) + cF (nNew N 29 (pFs a b p d)) l (nn N 29))
    rw [nFn_eq (N := N) (nn N 29) (fun j hj => cF_cg (e9 29 j 1 (by omega)) (e9 29 j 3 (by omega)) (e9 29 j 4 (by omega))), cF_0 (fun w => by rw [e8] at w; exact absurd w.1 (by decide))]
    rfl
  · intro w
    by_cases z : q = nn N 29
    · rw [z, e8] at w; exact absurd w (by decide)
    · rw [e9 29 q 3 (by omega)] at w
      rw [e9 29 q 4 (by omega)]
      exact h5 q (by omega) w
  · unfold gW; rw [e9 20 0 4 (by omega)]; exact h6
theorem nG.give {k : Nat} {N N' : mN} (B : nB N) (G : nG k N) {a b c v : Int32} (e : fGive N a b = (c, v, N')) : nG k N' ∧ nSt N N' := by
  unfold fGive at e
  by_cases z1 : ¬ ((¬ a < 0 ∧ a < nI (nn N 29)) ∧ (¬ b < 0 ∧ b < nI (nn N 28)))
  · rw [if_pos z1] at e; cases e; exact ⟨G, nSt.rf N⟩
  rw [if_neg z1] at e
  by_cases z2 : ¬ nv N 29 (tN a) 4 < 100 ∨ nv N 29 (tN a) 4 = b
  · rw [if_pos z2] at e; cases e; exact ⟨G, nSt.rf N⟩
  rw [if_neg z2] at e
  by_cases z3 : ¬ (nv N 28 (tN (nv N 29 (tN a) 4)) 0 = nv N 28 (tN b) 0 ∧ nv N 28 (tN (nv N 29 (tN a) 4)) 3 = 0 ∧ nv N 28 (tN b) 3 = 0)
  · rw [if_pos z3] at e; cases e; exact ⟨G, nSt.rf N⟩
  rw [if_neg z3] at e
  cases e
  have h100 : nv N 29 (tN a) 4 < 100 := Classical.not_not.mp (fun w => z2 (Or.inl w))
  have hb := B.2.1
  obtain ⟨ha, hbb⟩ := Classical.not_not.mp z1
  obtain ⟨p, hp31, ep⟩ := nI_of ha.1
  have hp : p < nn N 29 := (nI_ltI hp31 (by omega)).mp (by rw [← ep]; exact ha.2)
  have tp : tN a = p := by rw [ep, tN_nI (by omega)]
  obtain ⟨x, hx31, ex⟩ := nI_of hbb.1
  have hx : x < nn N 28 := (nI_ltI hx31 (by omega)).mp (by rw [← ex]; exact hbb.2)
  rw [tp] at h100 ⊢
  obtain ⟨h1, h2, h3, h4, h5, h6⟩ := G
  have e9 : ∀ k i f, ¬ (k = 29 ∧ i = p ∧ f = 4) → nv (nU N 29 p 4 b) k i f = nv N k i f := fun k i f w => nv_U w
  have hno : ¬ nv N 29 p 3 = 3 := fun w => by
    obtain ⟨l, hl, el⟩ := h5 p hp w
    rw [el] at h100
    exact nI_nlt (a := 100 + l) (b := 100) (by omega) (by omega) h100
  refine ⟨⟨fun l hl => ?_, fun l hl => ?_, fun l hl => ?_, fun l hl => ?_, fun q hq w => ?_, ?_⟩, rfl, fun q f hf => e9 29 q f (by omega), fun q hq w => ?_, fun s hs w => ?_, Nat.le_refl _, ?_, fun l hl => ?_, ?_⟩
  · rw [e9 22 l 0 (by omega)]; exact h1 l hl
  · rw [e9 22 l 3 (by omega)]; exact h2 l hl
  · rw [e9 22 l 4 (by omega)]; exact h3 l hl
  · rw [e9 22 l 5 (by omega), h4 l hl]
    refine congrArg nI (nFn_eq (nn N 29) (fun j _ => ?_)).symm
    by_cases z : j = p
    · rw [z, cF_0 (fun w => hno (by rw [e9 29 p 3 (by omega)] at w; exact w.1)), cF_0 (fun w => hno w.1)]
    · exact cF_cg (e9 29 j 1 (by omega)) (e9 29 j 3 (by omega)) (e9 29 j 4 (by omega))
  · rw [e9 29 q 3 (by omega)] at w
    have z : q ≠ p := fun z => hno (by rw [← z]; exact w)
    rw [e9 29 q 4 (by omega)]
    exact h5 q hq w
  · unfold gW; rw [e9 20 0 4 (by omega)]; exact h6
  · have z : q ≠ p := fun z => by
      rw [z] at w
      rw [w] at h100
      exact absurd h100 (by decide)
    rw [e9 29 q 4 (by omega)]
    exact w
  · rw [e9 28 s 3 (by omega)]; exact w
  · rw [e9 20 0 4 (by omega)]; exact Nat.le_refl _
  · rw [e9 22 l 4 (by omega)]; exact Nat.le_refl _
  · rw [e9 20 0 1 (by omega), e9 20 0 2 (by omega)]; exact Nat.le_refl _
theorem nG.appeal {k : Nat} {N N' : mN} (B : nB N) (G : nG k N) {a c v : Int32} (e : fAppeal N a = (c, v, N')) : nG k N' ∧ nSt N N' := by
  unfold fAppeal at e
  by_cases z1 : ¬ (¬ a < 0 ∧ a < nI (nn N 29))
  · rw [if_pos z1] at e; cases e; exact ⟨G, nSt.rf N⟩
  rw [if_neg z1] at e
  by_cases z2 : ¬ (nv N 29 (tN a) 3 = 3 ∧ ¬ nv N 29 (tN a) 4 < 100 ∧ nv N 29 (tN a) 4 < 106)
  · rw [if_pos z2] at e; cases e; exact ⟨G, nSt.rf N⟩
  rw [if_neg z2] at e
  by_cases z3 : ¬ nv N 29 (tN a) 1 ≤ nv N 22 (tN (nv N 29 (tN a) 4) - 100) 1 ∨ ¬ (nv N 28 (tN (nv N 29 (tN a) 5)) 0 = nI (tN (nv N 29 (tN a) 4) - 100) ∧ nv N 28 (tN (nv N 29 (tN a) 5)) 3 = 0)
  · rw [if_pos z3] at e; cases e; exact ⟨G, nSt.rf N⟩
  rw [if_neg z3] at e
  cases e
  have hb := B.2.1
  have ha := Classical.not_not.mp z1
  obtain ⟨f3, -, -⟩ := Classical.not_not.mp z2
  obtain ⟨p, hp31, ep⟩ := nI_of ha.1
  have hp : p < nn N 29 := (nI_ltI hp31 (by omega)).mp (by rw [← ep]; exact ha.2)
  have tp : tN a = p := by rw [ep, tN_nI (by omega)]
  rw [tp] at f3 ⊢
  obtain ⟨h1, h2, h3, h4, h5, h6⟩ := G
  obtain ⟨l0, hl0, el0⟩ := h5 p hp f3
  obtain ⟨b, hb28, eb⟩ := (B.2.2.2.2.1 p hp).2.2.2 f3
  obtain ⟨w0, hw0, ew0⟩ := (B.2.2.2.2.1 p hp).2.1
  rw [el0, tN_nI (by omega), show 100 + l0 - 100 = l0 by omega]
  have e9 : ∀ k i f, ¬ (k = 22 ∧ i = l0 ∧ f = 5) → ¬ (k = 29 ∧ i = p ∧ (f = 3 ∨ f = 4)) → nv (nU (nU (nU N 22 l0 5 (nv N 22 l0 5 - nv N 29 p 1)) 29 p 4 (nv N 29 p 5)) 29 p 3 2) k i f = nv N k i f := fun k i f w w2 => (nv_U (by omega)).trans ((nv_U (by omega)).trans (nv_U w))
  have x3 : nv (nU (nU (nU N 22 l0 5 (nv N 22 l0 5 - nv N 29 p 1)) 29 p 4 (nv N 29 p 5)) 29 p 3 2) 29 p 3 = 2 := nv_U_s
  have x5 : nv (nU (nU (nU N 22 l0 5 (nv N 22 l0 5 - nv N 29 p 1)) 29 p 4 (nv N 29 p 5)) 29 p 3 2) 22 l0 5 = nv N 22 l0 5 - nv N 29 p 1 := by rw [nv_U (by omega), nv_U (by omega), nv_U_s]
  have hn : nn (nU (nU (nU N 22 l0 5 (nv N 22 l0 5 - nv N 29 p 1)) 29 p 4 (nv N 29 p 5)) 29 p 3 2) = nn N := rfl
  have hh : nh (nU (nU (nU N 22 l0 5 (nv N 22 l0 5 - nv N 29 p 1)) 29 p 4 (nv N 29 p 5)) 29 p 3 2) = nh N := rfl
  generalize nU (nU (nU N 22 l0 5 (nv N 22 l0 5 - nv N 29 p 1)) 29 p 4 (nv N 29 p 5)) 29 p 3 2 = N2 at e9 x3 x5 hn hh ⊢
  refine ⟨⟨fun l hl => ?_, fun l hl => ?_, fun l hl => ?_, fun l hl => ?_, fun q hq w => ?_, ?_⟩, hn, fun q f hf => e9 29 q f (by omega) (by omega), fun q hq w => ?_, fun s hs w => ?_, by rw [hh]; exact Nat.le_refl _, ?_, fun l hl => ?_, ?_⟩
  · rw [e9 22 l 0 (by omega) (by omega)]; exact h1 l hl
  · rw [e9 22 l 3 (by omega) (by omega)]; exact h2 l hl
  · rw [e9 22 l 4 (by omega) (by omega)]; exact h3 l hl
  · have one := nFn_one (N := N) (N' := N2) (l := l) (j := p) (nn N 29) hp (fun i _ hn => cF_cg (e9 29 i 1 (by omega) (by omega)) (e9 29 i 3 (by omega) (by omega)) (e9 29 i 4 (by omega) (by omega)))
    rw [cF_0 (N := N2) (fun w => by rw [x3] at w; exact absurd w.1 (by decide))] at one
    rw [hn]
    by_cases z : l = l0
    · subst z
      have ec : cF N l p = w0 := by
        unfold cF
        rw [if_pos ⟨f3, el0⟩, ew0, tN_nI (by omega)]
      rw [ec] at one
      rw [x5, h4 l hl, ew0, pk_sub (by omega)]
      exact congrArg nI (by omega)
    · have ec : cF N l p = 0 := cF_0 (fun w => by
        rw [el0] at w
        have := (nI_eq (by omega) (by omega)).mp w.2
        omega)
      rw [ec] at one
      rw [e9 22 l 5 (by omega) (by omega), h4 l hl]
      exact congrArg nI (by omega)
  · have z : q ≠ p := fun z => by rw [z, x3] at w; exact absurd w (by decide)
    rw [e9 29 q 3 (by omega) (by omega)] at w
    rw [e9 29 q 4 (by omega) (by omega)]
    exact h5 q (by rw [← hn]; exact hq) w
  · unfold gW; rw [e9 20 0 4 (by omega) (by omega)]; exact h6
  · have z : q ≠ p := fun z => by
      rw [z, el0] at w
      exact at_9l hl0 w.symm
    rw [e9 29 q 4 (by omega) (by omega)]
    exact w
  · rw [e9 28 s 3 (by omega) (by omega)]; exact w
  · rw [e9 20 0 4 (by omega) (by omega)]; exact Nat.le_refl _
  · rw [e9 22 l 4 (by omega) (by omega)]; exact Nat.le_refl _
  · rw [e9 20 0 1 (by omega) (by omega), e9 20 0 2 (by omega) (by omega)]; exact Nat.le_refl _
theorem nG.join {k : Nat} {N N' : mN} (G : nG k N) {a b d c v : Int32} (e : fJoin N a b d = (c, v, N')) : nG k N' ∧ nSt N N' := by
  unfold fJoin at e
  by_cases z1 : ¬ ((¬ a < 0 ∧ a < nI (nn N 28)) ∧ (¬ b < 0 ∧ b < nI (nn N 23)))
  · rw [if_pos z1] at e; cases e; exact ⟨G, nSt.rf N⟩
  rw [if_neg z1] at e
  by_cases z2 : d < 0 ∨ ¬ (d &&& (nHd N (tN a) (nn N 29) ^^^ (-1))) = 0
  · rw [if_pos z2] at e; cases e; exact ⟨G, nSt.rf N⟩
  rw [if_neg z2] at e
  by_cases z3 : ¬ (nv N 28 (tN a) 3 = 0 ∧ (nv N 23 (tN b) 0 = nv N 28 (tN a) 0 ∨ nv N 23 (tN b) 1 = nv N 28 (tN a) 0))
  · rw [if_pos z3] at e; cases e; exact ⟨G, nSt.rf N⟩
  rw [if_neg z3] at e
  cases e
  have h0 := (Classical.not_not.mp z3).1
  have e9 : ∀ k i f, ¬ (k = 28 ∧ i = tN a ∧ 3 ≤ f ∧ f ≤ 5) → nv (nJoin N (tN a) (tN b) d) k i f = nv N k i f := fun k i f w => by
    unfold nJoin
    rw [nv_U (by omega), nv_U (by omega), nv_U (by omega)]
    rfl
  refine ⟨G.cg rfl (fun k i f w => e9 k i f (by omega)), rfl, fun p f hf => e9 29 p f (by omega), fun p _ w => by rw [e9 29 p 4 (by omega)]; exact w, fun s _ w => ?_, Nat.le_refl _, ?_, fun l _ => ?_, ?_⟩
  · have z : s ≠ tN a := fun z => by rw [z, h0] at w; exact absurd w (by decide)
    rw [e9 28 s 3 (by omega)]
    exact w
  · rw [e9 20 0 4 (by omega)]; exact Nat.le_refl _
  · rw [e9 22 l 4 (by omega)]; exact Nat.le_refl _
  · rw [e9 20 0 1 (by omega), e9 20 0 2 (by omega)]; exact Nat.le_refl _
theorem nOut1_v {N : mN} {s k i f : Nat} {v : Int32} (h : ¬ (k = 28 ∧ i = s ∧ (f = 3 ∨ f = 4))) : nv (nOut1 N s v) k i f = nv N k i f := (nv_U (by omega)).trans (nv_U (by omega))
theorem nG.out1 {k : Nat} {N : mN} (G : nG k N) {s : Nat} {v : Int32} (h : ¬ nv N 28 s 3 = 2 ∨ v = 2) : nG k (nOut1 N s v) ∧ nSt N (nOut1 N s v) := by
  have e9 : ∀ k i f, ¬ (k = 28 ∧ i = s ∧ (f = 3 ∨ f = 4)) → nv (nOut1 N s v) k i f = nv N k i f := fun k i f w => nOut1_v w
  refine ⟨G.cg rfl (fun k i f w => e9 k i f (by omega)), rfl, fun p f hf => e9 29 p f (by omega), fun p _ w => by rw [e9 29 p 4 (by omega)]; exact w, fun u _ w => ?_, Nat.le_refl _, ?_, fun l _ => ?_, ?_⟩
  · by_cases z : u = s
    · rw [z] at w ⊢
      have hv : v = 2 := h.resolve_left (fun q => q w)
      unfold nOut1
      rw [nv_U (by omega), nv_U_s, hv]
    · rw [e9 28 u 3 (by omega)]
      exact w
  · rw [e9 20 0 4 (by omega)]; exact Nat.le_refl _
  · rw [e9 22 l 4 (by omega)]; exact Nat.le_refl _
  · rw [e9 20 0 1 (by omega), e9 20 0 2 (by omega)]; exact Nat.le_refl _
theorem nG.go {k : Nat} {N : mN} (G : nG k N) {s : Nat} (hs : s < 12) (n : Nat) : nG k (nGo s n N) ∧ nSt N (nGo s n N) := by
  have o := nGo_o (s := s) (N := N) n
  have e9 : ∀ k i f, ¬ (k = 29 ∧ f = 4) → nv (nGo s n N) k i f = nv N k i f := fun k i f w => nGo_v w n
  have e4 : ∀ p, nv (nGo s n N) 29 p 4 = if p < n ∧ nv N 29 p 4 = nI s then 999 else nv N 29 p 4 := fun p => nGo_4 n
  obtain ⟨h1, h2, h3, h4, h5, h6⟩ := G
  have hc : ∀ l, l < 6 → ∀ j, cF (nGo s n N) l j = cF N l j := fun l hl j => by
    by_cases z : j < n ∧ nv N 29 j 4 = nI s
    · rw [cF_0 (N := nGo s n N) (fun w => by rw [e4, if_pos z] at w; exact at_9l hl w.2), cF_0 (N := N) (fun w => by rw [z.2] at w; exact at_hl hs hl w.2)]
    · exact cF_cg (e9 29 j 1 (by omega)) (e9 29 j 3 (by omega)) (by rw [e4, if_neg z])
  refine ⟨⟨fun l hl => ?_, fun l hl => ?_, fun l hl => ?_, fun l hl => ?_, fun q hq w => ?_, ?_⟩, o.1, fun q f hf => e9 29 q f (by omega), fun q hq w => ?_, fun u hu w => ?_, by rw [o.2.2.2]; exact Nat.le_refl _, ?_, fun l hl => ?_, ?_⟩
  · rw [e9 22 l 0 (by omega)]; exact h1 l hl
  · rw [e9 22 l 3 (by omega)]; exact h2 l hl
  · rw [e9 22 l 4 (by omega)]; exact h3 l hl
  · rw [e9 22 l 5 (by omega), h4 l hl, o.1, nFn_eq (nn N 29) (fun j _ => hc l hl j)]
  · rw [o.1] at hq
    rw [e9 29 q 3 (by omega)] at w
    obtain ⟨l, hl, el⟩ := h5 q hq w
    refine ⟨l, hl, ?_⟩
    rw [e4, if_neg (fun z => by rw [el] at z; exact at_hl hs hl z.2.symm)]
    exact el
  · unfold gW; rw [e9 20 0 4 (by omega)]; exact h6
  · rw [e4]
    split
    · rfl
    · exact w
  · rw [e9 28 u 3 (by omega)]; exact w
  · rw [e9 20 0 4 (by omega)]; exact Nat.le_refl _
  · rw [e9 22 l 4 (by omega)]; exact Nat.le_refl _
  · rw [e9 20 0 1 (by omega), e9 20 0 2 (by omega)]; exact Nat.le_refl _
theorem nG.out {k : Nat} {N : mN} (G : nG k N) {s : Nat} (hs : s < 12) {v : Int32} (h : ¬ nv N 28 s 3 = 2 ∨ v = 2) : nG k (nOut N s v) ∧ nSt N (nOut N s v) := by
  have P := G.out1 h
  unfold nOut
  split
  · have P2 := P.1.go hs (nn N 29)
    exact ⟨P2.1, P.2.tr P2.2⟩
  · exact P
theorem nG.leave {k : Nat} {N N' : mN} (B : nB N) (G : nG k N) {a c v : Int32} (e : fLeave N a = (c, v, N')) : nG k N' ∧ nSt N N' := by
  unfold fLeave at e
  by_cases z1 : ¬ (¬ a < 0 ∧ a < nI (nn N 28))
  · rw [if_pos z1] at e; cases e; exact ⟨G, nSt.rf N⟩
  rw [if_neg z1] at e
  by_cases z2 : ¬ nv N 28 (tN a) 3 = 1
  · rw [if_pos z2] at e; cases e; exact ⟨G, nSt.rf N⟩
  rw [if_neg z2] at e
  cases e
  have hb := B.2.1
  have ha := Classical.not_not.mp z1
  obtain ⟨s, hs31, es⟩ := nI_of ha.1
  have hs : s < nn N 28 := (nI_ltI hs31 (by omega)).mp (by rw [← es]; exact ha.2)
  have ts : tN a = s := by rw [es, tN_nI (by omega)]
  rw [ts] at z2 ⊢
  exact G.out (by omega) (Or.inl (by rw [Classical.not_not.mp z2]; decide))
