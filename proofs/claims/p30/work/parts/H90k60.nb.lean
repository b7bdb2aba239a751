/-! THE SIMULATION, 50: what the reference's own invariants tell is kept by the calls themselves -/
def bT (N : mN) : Prop := ∃ nt h, nt ≤ 99 ∧ h ≤ 23 ∧ nv N 20 0 1 = nI nt ∧ nv N 20 0 2 = nI h
def bC (N : mN) : Prop := nn N 23 ≤ 8 ∧ nn N 28 ≤ 12 ∧ nn N 29 ≤ 24
def bG (N : mN) (t : Nat) : Prop := (∃ a, a < 6 ∧ nv N 23 t 0 = nI a) ∧ ∃ a, a < 6 ∧ nv N 23 t 1 = nI a
def bS (N : mN) (s : Nat) : Prop := (∃ a, a < 6 ∧ nv N 28 s 0 = nI a) ∧ (nv N 28 s 4 = -1 ∨ ∃ t, t < nn N 23 ∧ nv N 28 s 4 = nI t) ∧ (nv N 28 s 8 = -1 ∨ ∃ a, a < 97 ∧ nv N 28 s 8 = nI a)
def bP (N : mN) (p : Nat) : Prop := (∃ a, a < 8 ∧ nv N 29 p 0 = nI a) ∧ (∃ a, a ≤ 99 ∧ nv N 29 p 1 = nI a) ∧ (∃ a, nv N 29 p 4 = nI a ∧ (a < nn N 28 ∨ (100 ≤ a ∧ a < 106) ∨ a = 999)) ∧ (nv N 29 p 3 = 3 → ∃ b, b < nn N 28 ∧ nv N 29 p 5 = nI b)
def bQ (N : mN) (t : Nat) : Prop := (nq N t).Nodup ∧ ∀ s ∈ nq N t, s < nn N 28 ∧ nv N 28 s 3 = 1 ∧ nv N 28 s 4 = nI t
def bE (N : mN) (s : Nat) : Prop := nv N 28 s 3 = 1 → ∃ t, t < nn N 23 ∧ nv N 28 s 4 = nI t ∧ s ∈ nq N t
def bH (N : mN) : Prop := ∃ h, h ≤ 40 ∧ (nh N).length = 3 * h ∧ ∀ j v, (nh N)[3 * j]? = some v → v < nn N 28
theorem nB.mk {N : mN} (t : bT N) (c : bC N) (g : ∀ t, t < nn N 23 → bG N t) (s : ∀ s, s < nn N 28 → bS N s) (p : ∀ p, p < nn N 29 → bP N p) (q : ∀ t, t < nn N 23 → bQ N t) (e : ∀ s, s < nn N 28 → bE N s) (h : bH N) : nB N := ⟨t, c, g, s, p, q, e, h⟩
theorem bT.cg {N N' : mN} (h : bT N) (e1 : nv N' 20 0 1 = nv N 20 0 1) (e2 : nv N' 20 0 2 = nv N 20 0 2) : bT N' := by
  unfold bT
  rw [e1, e2]
  exact h
theorem bG.cg {N N' : mN} {t : Nat} (h : bG N t) (e : ∀ f, f ≤ 1 → nv N' 23 t f = nv N 23 t f) : bG N' t := by
  unfold bG
  rw [e 0 (by omega), e 1 (by omega)]
  exact h
theorem bS.cg {N N' : mN} {s : Nat} (h : bS N s) (n : nn N 23 ≤ nn N' 23) (e : ∀ f, f = 0 ∨ f = 4 ∨ f = 8 → nv N' 28 s f = nv N 28 s f) : bS N' s := by
  unfold bS
  rw [e 0 (by omega), e 4 (by omega), e 8 (by omega)]
  exact ⟨h.1, h.2.1.elim Or.inl (fun ⟨t, a, b⟩ => Or.inr ⟨t, by omega, b⟩), h.2.2⟩
theorem bP.cg {N N' : mN} {p : Nat} (h : bP N p) (n : nn N 28 ≤ nn N' 28) (e : ∀ f, f = 0 ∨ f = 1 ∨ f = 3 ∨ f = 4 ∨ f = 5 → nv N' 29 p f = nv N 29 p f) : bP N' p := by
  unfold bP
  rw [e 0 (by omega), e 1 (by omega), e 3 (by omega), e 4 (by omega), e 5 (by omega)]
  obtain ⟨h1, h2, ⟨a, ea, ha⟩, h4⟩ := h
  refine ⟨h1, h2, ⟨a, ea, by omega⟩, fun w => ?_⟩
  obtain ⟨b, hb, eb⟩ := h4 w
  exact ⟨b, by omega, eb⟩
theorem bQ.cg {N N' : mN} {t : Nat} (h : bQ N t) (eq : nq N' t = nq N t) (n : nn N 28 ≤ nn N' 28) (e : ∀ s f, s ∈ nq N t → f = 3 ∨ f = 4 → nv N' 28 s f = nv N 28 s f) : bQ N' t := by
  unfold bQ
  rw [eq]
  refine ⟨h.1, fun s hs => ?_⟩
  obtain ⟨a, b, c⟩ := h.2 s hs
  rw [e s 3 hs (by omega), e s 4 hs (by omega)]
  exact ⟨by omega, b, c⟩
theorem bE.cg {N N' : mN} {s : Nat} (h : bE N s) (n : nn N 23 ≤ nn N' 23) (eq : ∀ t, t < nn N 23 → s ∈ nq N t → s ∈ nq N' t) (e : ∀ f, f = 3 ∨ f = 4 → nv N' 28 s f = nv N 28 s f) : bE N' s := by
  unfold bE
  rw [e 3 (by omega), e 4 (by omega)]
  intro w
  obtain ⟨t, a, b, c⟩ := h w
  exact ⟨t, by omega, b, eq t a c⟩
theorem bH.cg {N N' : mN} (h : bH N) (eh : nh N' = nh N) (n : nn N 28 ≤ nn N' 28) : bH N' := by
  obtain ⟨m, a, b, c⟩ := h
  refine ⟨m, a, by rw [eh]; exact b, fun j v hv => ?_⟩
  rw [eh] at hv
  have := c j v hv
  omega
theorem nB.cg {N N' : mN} (B : nB N) (en : nn N' = nn N) (eq : nq N' = nq N) (eh : nh N' = nh N) (ev : ∀ k i f, (k = 20 ∧ (f = 1 ∨ f = 2)) ∨ (k = 23 ∧ f ≤ 1) ∨ (k = 28 ∧ (f = 0 ∨ f = 3 ∨ f = 4 ∨ f = 8)) ∨ (k = 29 ∧ (f ≤ 1 ∨ 3 ≤ f)) → nv N' k i f = nv N k i f) : nB N' := by
  obtain ⟨b1, b2, b3, b4, b5, b6, b7, b8⟩ := B
  refine nB.mk (bT.cg b1 (ev 20 0 1 (by omega)) (ev 20 0 2 (by omega))) (by unfold bC; rw [en]; exact b2) (fun t ht => bG.cg (b3 t (by rw [← en]; exact ht)) (fun f hf => ev 23 t f (by omega))) (fun s hs => bS.cg (b4 s (by rw [← en]; exact hs)) (by rw [en]; exact Nat.le_refl _) (fun f hf => ev 28 s f (by omega))) (fun p hp => bP.cg (b5 p (by rw [← en]; exact hp)) (by rw [en]; exact Nat.le_refl _) (fun f hf => ev 29 p f (by omega))) (fun t ht => bQ.cg (b6 t (by rw [← en]; exact ht)) (by rw [eq]) (by rw [en]; exact Nat.le_refl _) (fun s f _ hf => ev 28 s f (by omega))) (fun s hs => bE.cg (b7 s (by rw [← en]; exact hs)) (by rw [en]; exact Nat.le_refl _) (fun t _ h => by rw [eq]; exact h) (fun f hf => ev 28 s f (by omega))) (bH.cg b8 eh (by rw [en]; exact Nat.le_refl _))
theorem nB.land {N N' : mN} (B : nB N) {a r al k v : Int32} (e : fLand N a r al = (k, v, N')) : nB N' := by
  unfold fLand at e
  repeat' split at e
  all_goals
    cases e
    first
      | exact B
      | exact B.cg rfl rfl rfl (fun k i f w => (nv_U (by omega)).trans (nv_U (by omega)))
theorem nB.trade {N N' : mN} (B : nB N) {a b m k v : Int32} (e : fTrade N a b m = (k, v, N')) : nB N' := by
  unfold fTrade at e
  repeat' split at e
  all_goals
    cases e
    first
      | exact B
      | exact B.cg rfl rfl rfl (fun k i f w => (nv_U (by omega)).trans (nv_U (by omega)))
theorem nB.odds {N N' : mN} (B : nB N) {a b k v : Int32} (e : fOdds N a b = (k, v, N')) : nB N' := by
  unfold fOdds at e
  repeat' split at e
  all_goals
    cases e
    first
      | exact B
      | exact B.cg rfl rfl rfl (fun k i f w => nv_U (by omega))
theorem nB.relieve {N N' : mN} (B : nB N) {a k v : Int32} (e : fRelieve N a = (k, v, N')) : nB N' := by
  unfold fRelieve at e
  repeat' split at e
  all_goals
    cases e
    first
      | exact B
      | exact B.cg rfl rfl rfl (fun k i f w => nv_U (by omega))
theorem nB.revoke {N N' : mN} (B : nB N) {a b k v : Int32} (e : fRevoke N a b = (k, v, N')) : nB N' := by
  unfold fRevoke at e
  by_cases z1 : ¬ (¬ a < 0 ∧ a < nI (nn N 23))
  · rw [if_pos z1] at e; cases e; exact B
  rw [if_neg z1] at e
  by_cases z2 : ¬ (¬ b < 0 ∧ b ≤ 96)
  · rw [if_pos z2] at e; cases e; exact B
  rw [if_neg z2] at e
  cases e
  exact B.cg rfl rfl rfl (fun _ _ _ _ => rfl)
/-- one field of one who sleeps -/
theorem nB.ps {N : mN} (B : nB N) {s : Nat} {v : Int32} (hv : v = -1 ∨ ∃ a, a < 97 ∧ v = nI a) : nB (nU N 28 s 8 v) := by
  obtain ⟨b1, b2, b3, b4, b5, b6, b7, b8⟩ := B
  refine nB.mk (bT.cg b1 (nv_U (by omega)) (nv_U (by omega))) b2 (fun t ht => bG.cg (b3 t ht) (fun f _ => nv_U (by omega))) (fun s' hs => ?_) (fun p hp => bP.cg (b5 p hp) (Nat.le_refl _) (fun f _ => nv_U (by omega))) (fun t ht => bQ.cg (b6 t ht) rfl (Nat.le_refl _) (fun s f _ hf => nv_U (by omega))) (fun s hs => bE.cg (b7 s hs) (Nat.le_refl _) (fun t _ h => h) (fun f hf => nv_U (by omega))) (bH.cg b8 rfl (Nat.le_refl _))
  obtain ⟨c1, c2, c3⟩ := b4 s' hs
  unfold bS
  rw [nv_U (by omega), nv_U (by omega)]
  refine ⟨c1, c2, ?_⟩
  by_cases w : s' = s
  · rw [w, nv_U_s]; exact hv
  · rw [nv_U (by omega)]; exact c3
/-- where a part is -/
theorem nB.at {N : mN} (B : nB N) {p a : Nat} (ha : a < nn N 28 ∨ (100 ≤ a ∧ a < 106) ∨ a = 999) : nB (nU N 29 p 4 (nI a)) := by
  obtain ⟨b1, b2, b3, b4, b5, b6, b7, b8⟩ := B
  refine nB.mk (bT.cg b1 (nv_U (by omega)) (nv_U (by omega))) b2 (fun t ht => bG.cg (b3 t ht) (fun f _ => nv_U (by omega))) (fun s hs => bS.cg (b4 s hs) (Nat.le_refl _) (fun f _ => nv_U (by omega))) (fun q hq => ?_) (fun t ht => bQ.cg (b6 t ht) rfl (Nat.le_refl _) (fun s f _ hf => nv_U (by omega))) (fun s hs => bE.cg (b7 s hs) (Nat.le_refl _) (fun t _ h => h) (fun f hf => nv_U (by omega))) (bH.cg b8 rfl (Nat.le_refl _))
  obtain ⟨c1, c2, c3, c4⟩ := b5 q hq
  unfold bP
  rw [nv_U (f' := 0) (by omega), nv_U (f' := 1) (by omega), nv_U (f' := 3) (by omega), nv_U (f' := 5) (by omega)]
  refine ⟨c1, c2, ?_, c4⟩
  by_cases w : q = p
  · rw [w, nv_U_s]; exact ⟨a, rfl, ha⟩
  · rw [nv_U (by omega)]; exact c3
/-- the fate of a part, and who brought it -/
theorem nB.ft {N : mN} (B : nB N) {p : Nat} {v : Int32} (hv : ¬ v = 3) : nB (nU N 29 p 3 v) := by
  obtain ⟨b1, b2, b3, b4, b5, b6, b7, b8⟩ := B
  refine nB.mk (bT.cg b1 (nv_U (by omega)) (nv_U (by omega))) b2 (fun t ht => bG.cg (b3 t ht) (fun f _ => nv_U (by omega))) (fun s hs => bS.cg (b4 s hs) (Nat.le_refl _) (fun f _ => nv_U (by omega))) (fun q hq => ?_) (fun t ht => bQ.cg (b6 t ht) rfl (Nat.le_refl _) (fun s f _ hf => nv_U (by omega))) (fun s hs => bE.cg (b7 s hs) (Nat.le_refl _) (fun t _ h => h) (fun f hf => nv_U (by omega))) (bH.cg b8 rfl (Nat.le_refl _))
  obtain ⟨c1, c2, c3, c4⟩ := b5 q hq
  unfold bP
  rw [nv_U (f' := 0) (by omega), nv_U (f' := 1) (by omega), nv_U (f' := 4) (by omega), nv_U (f' := 5) (by omega)]
  refine ⟨c1, c2, c3, fun z => ?_⟩
  by_cases w : q = p
  · rw [w, nv_U_s] at z; exact absurd z hv
  · rw [nv_U (by omega)] at z; exact c4 z
theorem nB.fb {N : mN} (B : nB N) {p b : Nat} {v : Int32} (hb : b < nn N 28) : nB (nU (nU N 29 p 3 v) 29 p 5 (nI b)) := by
  obtain ⟨b1, b2, b3, b4, b5, b6, b7, b8⟩ := B
  have e9 : ∀ k i f, ¬ (k = 29 ∧ i = p ∧ (f = 3 ∨ f = 5)) → nv (nU (nU N 29 p 3 v) 29 p 5 (nI b)) k i f = nv N k i f := fun k i f w => (nv_U (by omega)).trans (nv_U (by omega))
  refine nB.mk (bT.cg b1 (e9 _ _ _ (by omega)) (e9 _ _ _ (by omega))) b2 (fun t ht => bG.cg (b3 t ht) (fun f _ => e9 _ _ _ (by omega))) (fun s hs => bS.cg (b4 s hs) (Nat.le_refl _) (fun f _ => e9 _ _ _ (by omega))) (fun q hq => ?_) (fun t ht => bQ.cg (b6 t ht) rfl (Nat.le_refl _) (fun s f _ hf => e9 _ _ _ (by omega))) (fun s hs => bE.cg (b7 s hs) (Nat.le_refl _) (fun t _ h => h) (fun f hf => e9 _ _ _ (by omega))) (bH.cg b8 rfl (Nat.le_refl _))
  obtain ⟨c1, c2, c3, c4⟩ := b5 q hq
  by_cases w : q = p
  · subst w
    unfold bP
    rw [e9 29 q 0 (by omega), e9 29 q 1 (by omega), e9 29 q 4 (by omega)]
    exact ⟨c1, c2, c3, fun _ => ⟨b, hb, nv_U_s⟩⟩
  · exact bP.cg ⟨c1, c2, c3, c4⟩ (Nat.le_refl _) (fun f _ => e9 _ _ _ (by omega))
theorem nB.sing {N N' : mN} (B : nB N) {a b n w k v : Int32} (e : fSing N a b n w = (k, v, N')) : nB N' := by
  unfold fSing at e
  by_cases z1 : ¬ ((¬ a < 0 ∧ a < nI (nn N 28)) ∧ (¬ b < 0 ∧ b < nI (nn N 23)))
  · rw [if_pos z1] at e; cases e; exact B
  rw [if_neg z1] at e
  by_cases z2 : ¬ ((¬ n < nv N 20 0 1 ∧ n ≤ 99) ∧ (¬ w < 0 ∧ w ≤ 96))
  · rw [if_pos z2] at e; cases e; exact B
  rw [if_neg z2] at e
  cases e
  have h2 := (Classical.not_not.mp z2).2
  obtain ⟨c, hc, ec⟩ := nI_rg (n := 96) (by omega) h2.1 (Int32.not_lt.mpr h2.2)
  have B1 : nB (nU (nU N 28 (tN a) 6 b) 28 (tN a) 7 n) := B.cg rfl rfl rfl (fun k i f w => (nv_U (by omega)).trans (nv_U (by omega)))
  exact B1.ps (Or.inr ⟨c, by omega, ec⟩)
theorem nB.give {N N' : mN} (B : nB N) {a b k v : Int32} (e : fGive N a b = (k, v, N')) : nB N' := by
  unfold fGive at e
  by_cases z1 : ¬ ((¬ a < 0 ∧ a < nI (nn N 29)) ∧ (¬ b < 0 ∧ b < nI (nn N 28)))
  · rw [if_pos z1] at e; cases e; exact B
  rw [if_neg z1] at e
  by_cases z2 : ¬ nv N 29 (tN a) 4 < 100 ∨ nv N 29 (tN a) 4 = b
  · rw [if_pos z2] at e; cases e; exact B
  rw [if_neg z2] at e
  by_cases z3 : ¬ (nv N 28 (tN (nv N 29 (tN a) 4)) 0 = nv N 28 (tN b) 0 ∧ nv N 28 (tN (nv N 29 (tN a) 4)) 3 = 0 ∧ nv N 28 (tN b) 3 = 0)
  · rw [if_pos z3] at e; cases e; exact B
  rw [if_neg z3] at e
  cases e
  have hb := B.2.1
  obtain ⟨-, hbb⟩ := Classical.not_not.mp z1
  obtain ⟨x, hx31, ex⟩ := nI_of hbb.1
  have hx : x < nn N 28 := (nI_ltI hx31 (by omega)).mp (by rw [← ex]; exact hbb.2)
  rw [ex]
  exact B.at (Or.inl hx)
theorem nB.appeal {N N' : mN} (B : nB N) {a k v : Int32} (e : fAppeal N a = (k, v, N')) : nB N' := by
  unfold fAppeal at e
  by_cases z1 : ¬ (¬ a < 0 ∧ a < nI (nn N 29))
  · rw [if_pos z1] at e; cases e; exact B
  rw [if_neg z1] at e
  by_cases z2 : ¬ (nv N 29 (tN a) 3 = 3 ∧ ¬ nv N 29 (tN a) 4 < 100 ∧ nv N 29 (tN a) 4 < 106)
  · rw [if_pos z2] at e; cases e; exact B
  rw [if_neg z2] at e
  by_cases z3 : ¬ nv N 29 (tN a) 1 ≤ nv N 22 (tN (nv N 29 (tN a) 4) - 100) 1 ∨ ¬ (nv N 28 (tN (nv N 29 (tN a) 5)) 0 = nI (tN (nv N 29 (tN a) 4) - 100) ∧ nv N 28 (tN (nv N 29 (tN a) 5)) 3 = 0)
  · rw [if_pos z3] at e; cases e; exact B
  rw [if_neg z3] at e
  cases e
  have hb := B.2.1
  have ha := Classical.not_not.mp z1
  obtain ⟨f3, -, -⟩ := Classical.not_not.mp z2
  obtain ⟨p, hp31, ep⟩ := nI_of ha.1
  have hp : p < nn N 29 := (nI_ltI hp31 (by omega)).mp (by rw [← ep]; exact ha.2)
  have tp : tN a = p := by rw [ep, tN_nI (by omega)]
  rw [tp] at f3 ⊢
  obtain ⟨x, hx, ex⟩ := (B.2.2.2.2.1 p hp).2.2.2 f3
  rw [ex]
  have B1 : nB (nU N 22 (tN (nv N 29 p 4) - 100) 5 (nv N 22 (tN (nv N 29 p 4) - 100) 5 - nv N 29 p 1)) := B.cg rfl rfl rfl (fun k i f w => nv_U (by omega))
  exact (B1.at (p := p) (a := x) (Or.inl hx)).ft (by decide)
/-- something new -/
theorem nB.gate {N N' : mN} (B : nB N) {a b f hh k v : Int32} (e : fGate N a b f hh = (k, v, N')) : nB N' := by
  unfold fGate at e
  by_cases z1 : ¬ ((¬ a < 0 ∧ a < 6) ∧ (¬ b < 0 ∧ b < 6))
  · rw [if_pos z1] at e; cases e; exact B
  rw [if_neg z1] at e
  by_cases z2 : a = b ∨ ¬ ((¬ f < 0 ∧ f ≤ 23) ∧ (¬ hh < 1 ∧ hh ≤ 24))
  · rw [if_pos z2] at e; cases e; exact B
  rw [if_neg z2] at e
  by_cases z3 : ¬ nn N 23 < 8
  · rw [if_pos z3] at e; cases e; exact B
  rw [if_neg z3] at e
  cases e
  have e9 : ∀ k i f', ¬ (k = 23 ∧ i = nn N 23) → nv (nGate N a b f hh) k i f' = nv N k i f' := fun k i f' w => nv_N (N := N) (k := 23) (fs := gFs a b f hh) w
  have e8 : ∀ f', nv (nGate N a b f hh) 23 (nn N 23) f' = gFs a b f hh f' := fun f' => nv_N_s (N := N) (k := 23) (fs := gFs a b f hh)
  have n23 : nn (nGate N a b f hh) 23 = nn N 23 + 1 := nn_N_s (N := N) (k := 23) (fs := gFs a b f hh)
  have n28 : nn (nGate N a b f hh) 28 = nn N 28 := (show nn (nNew N 23 (gFs a b f hh)) 28 = nn N 28 from nn_N (by omega))
  have n29 : nn (nGate N a b f hh) 29 = nn N 29 := (show nn (nNew N 23 (gFs a b f hh)) 29 = nn N 29 from nn_N (by omega))
  obtain ⟨⟨a1, a2⟩, c1, c2⟩ := Classical.not_not.mp z1
  obtain ⟨x, hx31, ex⟩ := nI_of a1
  have hx : x < 6 := (nI_ltI (b := 6) hx31 (by omega)).mp (by rw [← ex]; exact a2)
  obtain ⟨y, hy31, ey⟩ := nI_of c1
  have hy : y < 6 := (nI_ltI (b := 6) hy31 (by omega)).mp (by rw [← ey]; exact c2)
  obtain ⟨b1, b2, b3, b4, b5, b6, b7, b8⟩ := B
  refine nB.mk (bT.cg b1 (e9 _ _ _ (by omega)) (e9 _ _ _ (by omega))) (by unfold bC; rw [n23, n28, n29]; omega) (fun t ht => ?_) (fun s hs => bS.cg (b4 s (by omega)) (by omega) (fun f _ => e9 _ _ _ (by omega))) (fun p hp => bP.cg (b5 p (by omega)) (by omega) (fun f _ => e9 _ _ _ (by omega))) (fun t ht => ?_) (fun s hs => bE.cg (b7 s (by omega)) (by omega) (fun t ht h => ?_) (fun f _ => e9 _ _ _ (by omega))) (bH.cg b8 rfl (by omega))
  · by_cases w : t = nn N 23
    · subst w
      unfold bG
      rw [e8, e8]
      exact ⟨⟨x, hx, ex⟩, y, hy, ey⟩
    · exact bG.cg (b3 t (by omega)) (fun f _ => e9 _ _ _ (by omega))
  · by_cases w : t = nn N 23
    · subst w
      unfold bQ
      rw [show nq (nGate N a b f hh) (nn N 23) = [] from nq_Q_s]
      exact ⟨List.nodup_nil, fun s hs => absurd hs List.not_mem_nil⟩
    · exact bQ.cg (b6 t (by omega)) (nq_Q w) (by omega) (fun s f _ _ => e9 _ _ _ (by omega))
  · rw [show nq (nGate N a b f hh) t = nq N t from nq_Q (by omega)]
    exact h
theorem nB.sleeper {N N' : mN} (B : nB N) {a b p k v : Int32} (e : fSleeper N a b p = (k, v, N')) : nB N' := by
  unfold fSleeper at e
  by_cases z1 : ¬ (¬ a < 0 ∧ a < 6)
  · rw [if_pos z1] at e; cases e; exact B
  rw [if_neg z1] at e
  by_cases z2 : ¬ (¬ p < 1 ∧ p ≤ 9)
  · rw [if_pos z2] at e; cases e; exact B
  rw [if_neg z2] at e
  by_cases z3 : ¬ nn N 28 < 12
  · rw [if_pos z3] at e; cases e; exact B
  rw [if_neg z3] at e
  cases e
  have e9 : ∀ k i f', ¬ (k = 28 ∧ i = nn N 28) → nv (nNew N 28 (sFs a b p)) k i f' = nv N k i f' := fun k i f' w => nv_N w
  have e8 : ∀ f', nv (nNew N 28 (sFs a b p)) 28 (nn N 28) f' = sFs a b p f' := fun f' => nv_N_s
  have n28 : nn (nNew N 28 (sFs a b p)) 28 = nn N 28 + 1 := nn_N_s
  have n23 : nn (nNew N 28 (sFs a b p)) 23 = nn N 23 := nn_N (by omega)
  have n29 : nn (nNew N 28 (sFs a b p)) 29 = nn N 29 := nn_N (by omega)
  obtain ⟨a1, a2⟩ := Classical.not_not.mp z1
  obtain ⟨x, hx31, ex⟩ := nI_of a1
  have hx : x < 6 := (nI_ltI (b := 6) hx31 (by omega)).mp (by rw [← ex]; exact a2)
  obtain ⟨b1, b2, b3, b4, b5, b6, b7, b8⟩ := B
  refine nB.mk (bT.cg b1 (e9 _ _ _ (by omega)) (e9 _ _ _ (by omega))) (by unfold bC; rw [n23, n28, n29]; omega) (fun t ht => bG.cg (b3 t (by omega)) (fun f _ => e9 _ _ _ (by omega))) (fun s hs => ?_) (fun p' hp => bP.cg (b5 p' (by omega)) (by omega) (fun f _ => e9 _ _ _ (by omega))) (fun t ht => bQ.cg (b6 t (by omega)) rfl (by omega) (fun s f hs _ => e9 _ _ _ ?_)) (fun s hs => ?_) (bH.cg b8 rfl (by omega))
  · by_cases w : s = nn N 28
    · subst w
      unfold bS
      rw [e8, e8, e8]
      exact ⟨⟨x, hx, ex⟩, Or.inl rfl, Or.inl rfl⟩
    · exact bS.cg (b4 s (by omega)) (by omega) (fun f _ => e9 _ _ _ (by omega))
  · have := ((b6 t (by omega)).2 s hs).1
    omega
  · by_cases w : s = nn N 28
    · subst w
      intro w3
      rw [e8] at w3
      exact absurd (show (0 : Int32) = 1 from w3) (by decide)
    · exact bE.cg (b7 s (by omega)) (by omega) (fun t _ h => h) (fun f _ => e9 _ _ _ (by omega))
theorem nB.part {N N' : mN} (B : nB N) {a b p d k v : Int32} (e : fPart N a b p d = (k, v, N')) : nB N' := by
  unfold fPart at e
  by_cases z1 : ¬ (¬ a < 0 ∧ a < nI (nn N 28))
  · rw [if_pos z1] at e; cases e; exact B
  rw [if_neg z1] at e
  by_cases z2 : ¬ ((¬ b < 0 ∧ b ≤ 7) ∧ (¬ p < 0 ∧ p ≤ 99) ∧ (¬ d < 0 ∧ d ≤ 9))
  · rw [if_pos z2] at e; cases e; exact B
  rw [if_neg z2] at e
  by_cases z3 : ¬ nn N 29 < 24 ∨ ¬ nv N 28 (tN a) 3 = 0
  · rw [if_pos z3] at e; cases e; exact B
  rw [if_neg z3] at e
  cases e
  have hb := B.2.1
  have h24 : nn N 29 < 24 := Classical.not_not.mp (fun w => z3 (Or.inl w))
  have ha := Classical.not_not.mp z1
  obtain ⟨x, hx31, ex⟩ := nI_of ha.1
  have hx : x < nn N 28 := (nI_ltI hx31 (by omega)).mp (by rw [← ex]; exact ha.2)
  obtain ⟨⟨d1, d2⟩, ⟨w1, w2⟩, -⟩ := Classical.not_not.mp z2
  obtain ⟨dr, hdr, edr⟩ := nI_rg (n := 7) (by omega) d1 (Int32.not_lt.mpr d2)
  obtain ⟨wo, hwo, ewo⟩ := nI_rg (n := 99) (by omega) w1 (Int32.not_lt.mpr w2)
  have e9 : ∀ k i f', ¬ (k = 29 ∧ i = nn N 29) → nv (nNew N 29 (pFs a b p d)) k i f' = nv N k i f' := fun k i f' w => nv_N w
  have e8 : ∀ f', nv (nNew N 29 (pFs a b p d)) 29 (nn N 29) f' = pFs a b p d f' := fun f' => nv_N_s
  have n29 : nn (nNew N 29 (pFs a b p d)) 29 = nn N 29 + 1 := nn_N_s
  have n23 : nn (nNew N 29 (pFs a b p d)) 23 = nn N 23 := nn_N (by omega)
  have n28 : nn (nNew N 29 (pFs a b p d)) 28 = nn N 28 := nn_N (by omega)
  obtain ⟨b1, b2, b3, b4, b5, b6, b7, b8⟩ := B
  refine nB.mk (bT.cg b1 (e9 _ _ _ (by omega)) (e9 _ _ _ (by omega))) (by unfold bC; rw [n23, n28, n29]; omega) (fun t ht => bG.cg (b3 t (by omega)) (fun f _ => e9 _ _ _ (by omega))) (fun s hs => bS.cg (b4 s (by omega)) (by omega) (fun f _ => e9 _ _ _ (by omega))) (fun q hq => ?_) (fun t ht => bQ.cg (b6 t (by omega)) rfl (by omega) (fun s f _ _ => e9 _ _ _ (by omega))) (fun s hs => bE.cg (b7 s (by omega)) (by omega) (fun t _ h => h) (fun f _ => e9 _ _ _ (by omega))) (bH.cg b8 rfl (by omega))
  by_cases w : q = nn N 29
  · subst w
    unfold bP
    rw [e8, e8, e8, e8, e8, n28]
    exact ⟨⟨dr, by omega, edr⟩, ⟨wo, hwo, ewo⟩, ⟨x, ex, Or.inl hx⟩, fun w => absurd (show (0 : Int32) = 3 from w) (by decide)⟩
  · exact bP.cg (b5 q (by omega)) (by omega) (fun f _ => e9 _ _ _ (by omega))
/-- queues -/
theorem nB.join {N N' : mN} (B : nB N) {a b d k v : Int32} (e : fJoin N a b d = (k, v, N')) : nB N' := by
  unfold fJoin at e
  by_cases z1 : ¬ ((¬ a < 0 ∧ a < nI (nn N 28)) ∧ (¬ b < 0 ∧ b < nI (nn N 23)))
  · rw [if_pos z1] at e; cases e; exact B
  rw [if_neg z1] at e
  by_cases z2 : d < 0 ∨ ¬ (d &&& (nHd N (tN a) (nn N 29) ^^^ (-1))) = 0
  · rw [if_pos z2] at e; cases e; exact B
  rw [if_neg z2] at e
  by_cases z3 : ¬ (nv N 28 (tN a) 3 = 0 ∧ (nv N 23 (tN b) 0 = nv N 28 (tN a) 0 ∨ nv N 23 (tN b) 1 = nv N 28 (tN a) 0))
  · rw [if_pos z3] at e; cases e; exact B
  rw [if_neg z3] at e
  cases e
  have hb := B.2.1
  obtain ⟨ha, hbb⟩ := Classical.not_not.mp z1
  obtain ⟨h0, -⟩ := Classical.not_not.mp z3
  obtain ⟨s, hs31, es⟩ := nI_of ha.1
  have hs : s < nn N 28 := (nI_ltI hs31 (by omega)).mp (by rw [← es]; exact ha.2)
  obtain ⟨t, ht31, et⟩ := nI_of hbb.1
  have ht : t < nn N 23 := (nI_ltI ht31 (by omega)).mp (by rw [← et]; exact hbb.2)
  have ts : tN a = s := by rw [es, tN_nI (by omega)]
  have tt : tN b = t := by rw [et, tN_nI (by omega)]
  rw [ts] at h0 ⊢
  rw [tt]
  have e9 : ∀ k i f, ¬ (k = 28 ∧ i = s ∧ 3 ≤ f ∧ f ≤ 5) → nv (nJoin N s t d) k i f = nv N k i f := fun k i f w => by
    unfold nJoin
    rw [nv_U (by omega), nv_U (by omega), nv_U (by omega)]
    rfl
  have e3 : nv (nJoin N s t d) 28 s 3 = 1 := by unfold nJoin; rw [nv_U (by omega), nv_U (by omega), nv_U_s]
  have e4 : nv (nJoin N s t d) 28 s 4 = nI t := by unfold nJoin; rw [nv_U (by omega), nv_U_s]
  have eqt : nq (nJoin N s t d) t = (nq N t).take (nPl N s t) ++ s :: (nq N t).drop (nPl N s t) := nq_Q_s
  have eqo : ∀ t', t' ≠ t → nq (nJoin N s t d) t' = nq N t' := fun t' w => nq_Q w
  have pm : ((nq N t).take (nPl N s t) ++ s :: (nq N t).drop (nPl N s t)).Perm (s :: nq N t) := by
    refine List.perm_middle.trans ?_
    rw [List.take_append_drop]
  obtain ⟨b1, b2, b3, b4, b5, b6, b7, b8⟩ := B
  have hm : ∀ t', t' < nn N 23 → s ∉ nq N t' := fun t' h q => by
    have := ((b6 t' h).2 s q).2.1
    rw [h0] at this
    exact absurd this (by decide)
  refine nB.mk (bT.cg b1 (e9 _ _ _ (by omega)) (e9 _ _ _ (by omega))) b2 (fun t' ht' => bG.cg (b3 t' ht') (fun f _ => e9 _ _ _ (by omega))) (fun s' hs' => ?_) (fun p hp => bP.cg (b5 p hp) (Nat.le_refl _) (fun f _ => e9 _ _ _ (by omega))) (fun t' ht' => ?_) (fun s' hs' => ?_) (bH.cg b8 rfl (Nat.le_refl _))
  · have hs2 : s' < nn N 28 := hs'
    by_cases w : s' = s
    · subst w
      unfold bS
      rw [e4, e9 28 s' 0 (by omega), e9 28 s' 8 (by omega)]
      exact ⟨(b4 s' hs2).1, Or.inr ⟨t, ht, rfl⟩, (b4 s' hs2).2.2⟩
    · exact bS.cg (b4 s' hs2) (Nat.le_refl _) (fun f _ => e9 _ _ _ (by omega))
  · have ht2 : t' < nn N 23 := ht'
    by_cases w : t' = t
    · subst w
      unfold bQ
      rw [eqt]
      refine ⟨pm.nodup_iff.mpr (List.nodup_cons.mpr ⟨hm t' ht2, (b6 t' ht2).1⟩), fun u hu => ?_⟩
      rcases List.mem_cons.mp (pm.mem_iff.mp hu) with q | q
      · subst q
        exact ⟨hs, e3, e4⟩
      · have hne : u ≠ s := fun r => hm t' ht2 (by rw [← r]; exact q)
        rw [e9 28 u 3 (by omega), e9 28 u 4 (by omega)]
        exact (b6 t' ht2).2 u q
    · exact bQ.cg (b6 t' ht2) (eqo t' w) (Nat.le_refl _) (fun u f hu _ => e9 _ _ _ (fun q => hm t' ht2 (by rw [← q.2.1]; exact hu)))
  · have hs2 : s' < nn N 28 := hs'
    by_cases w : s' = s
    · subst w
      exact fun _ => ⟨t, ht, e4, by rw [eqt]; exact pm.mem_iff.mpr List.mem_cons_self⟩
    · refine bE.cg (b7 s' hs2) (Nat.le_refl _) (fun t' _ h => ?_) (fun f _ => e9 _ _ _ (by omega))
      by_cases q : t' = t
      · subst q
        rw [eqt]
        exact pm.mem_iff.mpr (List.mem_cons_of_mem _ h)
      · rw [eqo t' q]
        exact h
theorem nB.out1 {N : mN} (B : nB N) {s t j : Nat} {v : Int32} (ht : t < nn N 23) (hj : (nq N t)[j]? = some s) (hv : ¬ v = 1) : nB (nU (nU (nQ N t ((nq N t).eraseIdx j)) 28 s 3 v) 28 s 4 (-1)) := by
  have e9 : ∀ k i f, ¬ (k = 28 ∧ i = s ∧ (f = 3 ∨ f = 4)) → nv (nU (nU (nQ N t ((nq N t).eraseIdx j)) 28 s 3 v) 28 s 4 (-1)) k i f = nv N k i f := fun k i f w => (nv_U (by omega)).trans (nv_U (by omega))
  have e3 : nv (nU (nU (nQ N t ((nq N t).eraseIdx j)) 28 s 3 v) 28 s 4 (-1)) 28 s 3 = v := by rw [nv_U (by omega), nv_U_s]
  have e4 : nv (nU (nU (nQ N t ((nq N t).eraseIdx j)) 28 s 3 v) 28 s 4 (-1)) 28 s 4 = -1 := nv_U_s
  have eqt : nq (nU (nU (nQ N t ((nq N t).eraseIdx j)) 28 s 3 v) 28 s 4 (-1)) t = (nq N t).eraseIdx j := nq_Q_s
  have eqo : ∀ t', t' ≠ t → nq (nU (nU (nQ N t ((nq N t).eraseIdx j)) 28 s 3 v) 28 s 4 (-1)) t' = nq N t' := fun t' w => nq_Q w
  have hb := B.2.1
  obtain ⟨b1, b2, b3, b4, b5, b6, b7, b8⟩ := B
  have hnd := (b6 t ht).1
  have h4 := ((b6 t ht).2 s (List.mem_of_getElem? hj)).2.2
  have hm : ∀ u, u ∈ (nq N t).eraseIdx j → u ∈ nq N t ∧ u ≠ s := fun u hu => by
    obtain ⟨i, hi, hx⟩ := List.mem_eraseIdx_iff_getElem?.mp hu
    exact ⟨List.mem_of_getElem? hx, nodup_ne hnd hx hj hi⟩
  have ho : ∀ t', t' < nn N 23 → t' ≠ t → s ∉ nq N t' := fun t' h w q => by
    have := ((b6 t' h).2 s q).2.2
    rw [h4] at this
    exact w ((nI_eq (by omega) (by omega)).mp this).symm
  refine nB.mk (bT.cg b1 (e9 _ _ _ (by omega)) (e9 _ _ _ (by omega))) b2 (fun t' ht' => bG.cg (b3 t' ht') (fun f _ => e9 _ _ _ (by omega))) (fun s' hs' => ?_) (fun p hp => bP.cg (b5 p hp) (Nat.le_refl _) (fun f _ => e9 _ _ _ (by omega))) (fun t' ht' => ?_) (fun s' hs' => ?_) (bH.cg b8 rfl (Nat.le_refl _))
  · have hs2 : s' < nn N 28 := hs'
    by_cases w : s' = s
    · subst w
      unfold bS
      rw [e4, e9 28 s' 0 (by omega), e9 28 s' 8 (by omega)]
      exact ⟨(b4 s' hs2).1, Or.inl rfl, (b4 s' hs2).2.2⟩
    · exact bS.cg (b4 s' hs2) (Nat.le_refl _) (fun f _ => e9 _ _ _ (by omega))
  · have ht2 : t' < nn N 23 := ht'
    by_cases w : t' = t
    · subst w
      unfold bQ
      rw [eqt]
      refine ⟨hnd.sublist (List.eraseIdx_sublist _ _), fun u hu => ?_⟩
      obtain ⟨h1, h2⟩ := hm u hu
      rw [e9 28 u 3 (by omega), e9 28 u 4 (by omega)]
      exact (b6 t' ht2).2 u h1
    · exact bQ.cg (b6 t' ht2) (eqo t' w) (Nat.le_refl _) (fun u f hu _ => e9 _ _ _ (fun q => ho t' ht2 w (by rw [← q.2.1]; exact hu)))
  · have hs2 : s' < nn N 28 := hs'
    by_cases w : s' = s
    · subst w
      intro z
      rw [e3] at z
      exact absurd z hv
    · refine bE.cg (b7 s' hs2) (Nat.le_refl _) (fun t' _ h => ?_) (fun f _ => e9 _ _ _ (by omega))
      by_cases q : t' = t
      · subst q
        rw [eqt]
        obtain ⟨i, hi⟩ := List.mem_iff_getElem?.mp h
        exact List.mem_eraseIdx_iff_getElem?.mpr ⟨i, fun r => w (by rw [r] at hi; exact Option.some.inj (hi.symm.trans hj)), hi⟩
      · rw [eqo t' q]
        exact h
theorem nB.go {N : mN} (B : nB N) {s : Nat} : ∀ j, nB (nGo s j N) := by
  intro j
  induction j with
  | zero => exact B
  | succ j ih =>
    unfold nGo
    split
    · exact ih.at (a := 999) (Or.inr (Or.inr rfl))
    · exact ih
theorem nB.out {N : mN} (B : nB N) {s : Nat} {v : Int32} (hs : s < nn N 28) (h1 : nv N 28 s 3 = 1) (hv : ¬ v = 1) : nB (nOut N s v) := by
  have hb := B.2.1
  obtain ⟨t, ht, et, hm⟩ := B.2.2.2.2.2.2.1 s hs h1
  obtain ⟨j, hj⟩ := List.mem_iff_getElem?.mp hm
  have e1 : nOut1 N s v = nU (nU (nQ N t ((nq N t).eraseIdx j)) 28 s 3 v) 28 s 4 (-1) := by
    unfold nOut1
    rw [et, tN_nI (by omega), idx_nd _ _ _ (B.2.2.2.2.2.1 t ht).1 hj]
  unfold nOut
  rw [e1]
  split
  · exact (B.out1 ht hj hv).go _
  · exact B.out1 ht hj hv
theorem nB.leave {N N' : mN} (B : nB N) {a k v : Int32} (e : fLeave N a = (k, v, N')) : nB N' := by
  unfold fLeave at e
  by_cases z1 : ¬ (¬ a < 0 ∧ a < nI (nn N 28))
  · rw [if_pos z1] at e; cases e; exact B
  rw [if_neg z1] at e
  by_cases z2 : ¬ nv N 28 (tN a) 3 = 1
  · rw [if_pos z2] at e; cases e; exact B
  rw [if_neg z2] at e
  cases e
  have hb := B.2.1
  have ha := Classical.not_not.mp z1
  obtain ⟨s, hs31, es⟩ := nI_of ha.1
  have hs : s < nn N 28 := (nI_ltI hs31 (by omega)).mp (by rw [← es]; exact ha.2)
  have ts : tN a = s := by rw [es, tN_nI (by omega)]
  rw [ts] at z2 ⊢
  exact B.out hs (Classical.not_not.mp z2) (by decide)
