/-! THE SIMULATION, 19b: what holds between calls is kept: queues, hidings, what comes through -/
def nIS (N : mN) (s : Nat) : Prop := (nv N 28 s 3 = 0 ∨ nv N 28 s 3 = 1 ∨ nv N 28 s 3 = 2) ∧ (nv N 28 s 3 = 2 → nv N 28 s 2 = 0 ∧ ∀ p, p < nn N 29 → ¬ nv N 29 p 4 = nI s) ∧ (¬ nv N 28 s 3 = 2 → ∃ a, 1 ≤ a ∧ a ≤ 9 ∧ nv N 28 s 2 = nI a) ∧ (¬ nv N 28 s 3 = 1 → nv N 28 s 4 = -1) ∧ (nv N 28 s 3 = 1 → (∀ p, p < 32 → zb (nv N 28 s 5) p = true → p < nn N 29 ∧ nv N 29 p 4 = nI s) ∧ ∀ t, t < nn N 23 → nv N 28 s 4 = nI t → (nv N 23 t 0 = nv N 28 s 0 ∨ nv N 23 t 1 = nv N 28 s 0))
def nIH (N : mN) : Prop := (∀ k, 3 * k < (nh N).length → hD (nh N) k < 8 ∧ hT (nh N) k ≤ tN (nv N 20 0 1)) ∧ (∀ k k', k ≤ k' → 3 * k' < (nh N).length → hT (nh N) k ≤ hT (nh N) k') ∧ (∀ s, s < nn N 28 → ∀ u, u < 32 → (zb (nv N 28 s 9) u = true ↔ ∃ a b, 3 * a < (nh N).length ∧ 3 * b < (nh N).length ∧ ¬ a = b ∧ hS (nh N) a = s ∧ hS (nh N) b = u ∧ nLn (nh N) a b))
def nIQ (N : mN) : Prop := ∃ q : Nat → Nat, (∀ l, l < 6 → nv N 22 l 2 = nI (q l)) ∧ q 0 + q 1 + q 2 + q 3 + q 4 + q 5 = 30
def nIA (N : mN) : Prop := ∀ l, l < 6 → ∃ a, a ≤ 99 ∧ nv N 22 l 1 = nI a
theorem NI.mk {N : mN} (a : nIA N) (q : nIQ N) (s : ∀ s, s < nn N 28 → nIS N s) (l : ∀ t, t < nn N 23 → nAh N t) (h : nIH N) : NI N := ⟨a, q, s, l, h⟩
theorem nIA.cg {N N' : mN} (h : nIA N) (e : ∀ l, nv N' 22 l 1 = nv N 22 l 1) : nIA N' := fun l hl => by rw [e]; exact h l hl
theorem nIQ.cg {N N' : mN} (h : nIQ N) (e : ∀ l, nv N' 22 l 2 = nv N 22 l 2) : nIQ N' := by
  obtain ⟨q, a, b⟩ := h
  exact ⟨q, fun l hl => (e l).trans (a l hl), b⟩
theorem nIH.cg {N N' : mN} (h : nIH N) (e1 : nh N' = nh N) (e2 : nv N' 20 0 1 = nv N 20 0 1) (e3 : nn N' 28 = nn N 28) (e4 : ∀ s, nv N' 28 s 9 = nv N 28 s 9) : nIH N' := by
  unfold nIH
  rw [e1, e2, e3]
  exact ⟨h.1, h.2.1, fun s hs u hu => by rw [e4]; exact h.2.2 s hs u hu⟩
theorem nIS.cg {N N' : mN} {s : Nat} (h : nIS N s) (e28 : ∀ f, f = 0 ∨ f = 2 ∨ f = 3 ∨ f = 4 ∨ f = 5 → nv N' 28 s f = nv N 28 s f) (e23 : ∀ t f, f ≤ 1 → nv N' 23 t f = nv N 23 t f) (n23 : nn N' 23 = nn N 23) (n29 : nn N' 29 = nn N 29) (e29 : ∀ p, p < nn N 29 → nv N' 29 p 4 = nv N 29 p 4) : nIS N' s := by
  obtain ⟨a, b, c, d, e⟩ := h
  unfold nIS
  rw [e28 0 (by omega), e28 2 (by omega), e28 3 (by omega), e28 4 (by omega), e28 5 (by omega), n23, n29]
  refine ⟨a, fun w => ⟨(b w).1, fun p hp => by rw [e29 p hp]; exact (b w).2 p hp⟩, c, d, fun w => ⟨fun p hp hz => ?_, fun t ht => by rw [e23 t 0 (by omega), e23 t 1 (by omega)]; exact (e w).2 t ht⟩⟩
  obtain ⟨q1, q2⟩ := (e w).1 p hp hz
  exact ⟨q1, by rw [e29 p q1]; exact q2⟩
theorem nAh.cg {N N' : mN} {t : Nat} (h : nAh N t) (eq : nq N' t = nq N t) (e : ∀ u, nv N' 28 u 1 = nv N 28 u 1) : nAh N' t := by
  intro i j u w
  rw [eq, e, e]
  exact h i j u w
/-- rows of sleepers: who is taken out leaves the order -/
theorem nAh.er {N N' : mN} {t d : Nat} (h : nAh N t) (eq : nq N' t = (nq N t).eraseIdx d) (e : ∀ u, nv N' 28 u 1 = nv N 28 u 1) : nAh N' t := by
  intro i j u w hij hu hw
  rw [eq, List.getElem?_eraseIdx] at hu hw
  rw [e, e]
  by_cases z1 : i < d
  · rw [if_pos z1] at hu
    by_cases z2 : j < d
    · rw [if_pos z2] at hw
      exact h i j u w hij hu hw
    · rw [if_neg z2] at hw
      exact h i (j + 1) u w (by omega) hu hw
  · rw [if_neg z1] at hu
    rw [if_neg (show ¬ j < d by omega)] at hw
    exact h (i + 1) (j + 1) u w (by omega) hu hw
/-- who leaves a queue -/
theorem NI.out {N : mN} (I : NI N) {s t j : Nat} (ht : t < 1000) (h1 : nv N 28 s 3 = 1) (hs : s < nn N 28) : NI (nU (nU (nQ N t ((nq N t).eraseIdx j)) 28 s 3 0) 28 s 4 (-1)) := by
  obtain ⟨i1, i2, i3, i4, i5⟩ := I
  have e9 : ∀ k i f, ¬ (k = 28 ∧ i = s ∧ (f = 3 ∨ f = 4)) → nv (nU (nU (nQ N t ((nq N t).eraseIdx j)) 28 s 3 0) 28 s 4 (-1)) k i f = nv N k i f := fun k i f w => (nv_U (by omega)).trans (nv_U (by omega))
  refine NI.mk (nIA.cg i1 (fun l => e9 22 l 1 (by omega))) (nIQ.cg i2 (fun l => e9 22 l 2 (by omega))) (fun s' hs' => ?_) (fun t' ht' => ?_) (nIH.cg i5 rfl (e9 20 0 1 (by omega)) rfl (fun s => e9 28 s 9 (by omega)))
  · by_cases w : s' = s
    · subst w
      have e3 : nv (nU (nU (nQ N t ((nq N t).eraseIdx j)) 28 s' 3 0) 28 s' 4 (-1)) 28 s' 3 = 0 := by rw [nv_U (by omega), nv_U_s]
      have e4 : nv (nU (nU (nQ N t ((nq N t).eraseIdx j)) 28 s' 3 0) 28 s' 4 (-1)) 28 s' 4 = -1 := nv_U_s
      unfold nIS
      rw [e3, e4, e9 28 s' 2 (by omega)]
      exact ⟨Or.inl rfl, fun w => absurd w (by decide), fun _ => (i3 s' hs').2.2.1 (by rw [h1]; decide), fun _ => rfl, fun w => absurd w (by decide)⟩
    · exact nIS.cg (i3 s' hs') (fun f _ => e9 28 s' f (by omega)) (fun t f _ => e9 23 t f (by omega)) rfl rfl (fun p _ => e9 29 p 4 (by omega))
  · by_cases w : t' = t
    · subst w
      exact nAh.er (i4 t' ht') nq_Q_s (fun u => e9 28 u 1 (by omega))
    · exact nAh.cg (i4 t' ht') (nq_Q w) (fun u => e9 28 u 1 (by omega))
theorem nGo_4 {s : Nat} {N : mN} {p : Nat} : ∀ j, nv (nGo s j N) 29 p 4 = if p < j ∧ nv N 29 p 4 = nI s then 999 else nv N 29 p 4 := by
  intro j
  induction j with
  | zero => rw [if_neg (fun w => absurd w.1 (by omega))]; rfl
  | succ j ih =>
    have hj : nv (nGo s j N) 29 j 4 = nv N 29 j 4 := by
      have : ∀ i, i ≤ j → nv (nGo s i N) 29 j 4 = nv N 29 j 4 := by
        intro i
        induction i with
        | zero => intro _; rfl
        | succ i ihi =>
          intro hi
          unfold nGo
          split
          · exact (nv_U (by omega)).trans (ihi (by omega))
          · exact ihi (by omega)
      exact this j (Nat.le_refl _)
    by_cases w : p = j
    · subst w
      by_cases z : nv N 29 p 4 = nI s
      · rw [show nGo s (p + 1) N = nU (nGo s p N) 29 p 4 999 from if_pos (hj.trans z), nv_U_s, if_pos ⟨by omega, z⟩]
      · rw [show nGo s (p + 1) N = nGo s p N from if_neg (fun q => z (hj.symm.trans q)), hj, if_neg (fun q => z q.2)]
    · have e : nv (nGo s (j + 1) N) 29 p 4 = nv (nGo s j N) 29 p 4 := by
        by_cases q : nv (nGo s j N) 29 j 4 = nI s
        · rw [show nGo s (j + 1) N = nU (nGo s j N) 29 j 4 999 from if_pos q]
          exact nv_U (by omega)
        · rw [show nGo s (j + 1) N = nGo s j N from if_neg q]
      rw [e, ih]
      by_cases z : p < j ∧ nv N 29 p 4 = nI s
      · rw [if_pos z, if_pos ⟨by omega, z.2⟩]
      · rw [if_neg z, if_neg (fun q => z ⟨by omega, q.2⟩)]
/-- one who stands loses patience -/
theorem NI.ti1 {N : mN} (B : nB N) (I : NI N) {u t d : Nat} (ht : t < nn N 23) (hx : (nq N t)[d]? = some u) : NI (nTi1 N u) := by
  have hb := B.2.1
  obtain ⟨hnd, hmem⟩ := B.2.2.2.2.2.1 t ht
  obtain ⟨hu, h3, h4⟩ := hmem u (List.mem_of_getElem? hx)
  obtain ⟨a, a1, a9, ea⟩ := (I.2.2.1 u hu).2.2.1 (by rw [h3]; decide)
  obtain ⟨b, rfl⟩ : ∃ b, a = b + 1 := ⟨a - 1, by omega⟩
  have ep : nv N 28 u 2 - 1 = nI b := by rw [ea, nI_pred]
  obtain ⟨i1, i2, i3, i4, i5⟩ := I
  unfold nTi1
  rw [ep]
  by_cases z : nI b = 0
  · have hb0 : b = 0 := (nI_eq (a := b) (b := 0) (by omega) (by omega)).mp z
    subst hb0
    rw [if_pos z]
    have e4 : nv (nU N 28 u 2 (nI 0)) 28 u 4 = nI t := (nv_U (by omega)).trans h4
    have eo : nOut (nU N 28 u 2 (nI 0)) u 2 = nGo u (nn N 29) (nU (nU (nQ (nU N 28 u 2 (nI 0)) t ((nq N t).eraseIdx d)) 28 u 3 2) 28 u 4 (-1)) := by
      unfold nOut nOut1
      rw [if_pos rfl, e4, tN_nI (by omega), show nq (nU N 28 u 2 (nI 0)) t = nq N t from rfl, idx_nd _ _ _ hnd hx]
      rfl
    rw [eo]
    have e9 : ∀ k i f, ¬ (k = 29 ∧ f = 4) → ¬ (k = 28 ∧ i = u ∧ 2 ≤ f ∧ f ≤ 4) → nv (nGo u (nn N 29) (nU (nU (nQ (nU N 28 u 2 (nI 0)) t ((nq N t).eraseIdx d)) 28 u 3 2) 28 u 4 (-1))) k i f = nv N k i f := fun k i f w1 w2 => (nGo_v w1 _).trans ((nv_U (by omega)).trans ((nv_U (by omega)).trans (nv_U (by omega))))
    have e8 : ∀ p, nv (nGo u (nn N 29) (nU (nU (nQ (nU N 28 u 2 (nI 0)) t ((nq N t).eraseIdx d)) 28 u 3 2) 28 u 4 (-1))) 29 p 4 = if p < nn N 29 ∧ nv N 29 p 4 = nI u then 999 else nv N 29 p 4 := fun p => by
      have e : nv (nU (nU (nQ (nU N 28 u 2 (nI 0)) t ((nq N t).eraseIdx d)) 28 u 3 2) 28 u 4 (-1)) 29 p 4 = nv N 29 p 4 := (nv_U (by omega)).trans ((nv_U (by omega)).trans (show nv (nU N 28 u 2 (nI 0)) 29 p 4 = nv N 29 p 4 from nv_U (by omega)))
      rw [nGo_4, e]
    have o := nGo_o (s := u) (N := nU (nU (nQ (nU N 28 u 2 (nI 0)) t ((nq N t).eraseIdx d)) 28 u 3 2) 28 u 4 (-1)) (nn N 29)
    refine NI.mk (nIA.cg i1 (fun l => e9 22 l 1 (by omega) (by omega))) (nIQ.cg i2 (fun l => e9 22 l 2 (by omega) (by omega))) (fun s' hs' => ?_) (fun t' ht' => ?_) (nIH.cg i5 o.2.2.2 (e9 20 0 1 (by omega) (by omega)) (by rw [o.1]; rfl) (fun s => e9 28 s 9 (by omega) (by omega)))
    · rw [o.1] at hs'
      have hs2 : s' < nn N 28 := hs'
      by_cases w : s' = u
      · subst w
        unfold nIS
        rw [nGo_v (by omega), nGo_v (by omega), nGo_v (by omega), nGo_v (by omega), nGo_v (by omega), o.1, nv_U_s, show nv (nU (nU (nQ (nU N 28 s' 2 (nI 0)) t ((nq N t).eraseIdx d)) 28 s' 3 2) 28 s' 4 (-1)) 28 s' 3 = 2 from (nv_U (by omega)).trans nv_U_s, show nv (nU (nU (nQ (nU N 28 s' 2 (nI 0)) t ((nq N t).eraseIdx d)) 28 s' 3 2) 28 s' 4 (-1)) 28 s' 2 = nI 0 from (nv_U (by omega)).trans ((nv_U (by omega)).trans nv_U_s)]
        refine ⟨Or.inr (Or.inr rfl), fun _ => ⟨rfl, fun p hp => ?_⟩, fun w => absurd rfl w, fun _ => rfl, fun w => absurd w (by decide)⟩
        have hp' : p < nn N 29 := hp
        rw [e8]
        by_cases q : nv N 29 p 4 = nI s'
        · rw [if_pos ⟨hp', q⟩]
          intro q2
          have := (nI_eq (a := 999) (b := s') (by omega) (by omega)).mp q2
          omega
        · rw [if_neg (fun r => q r.2)]
          exact q
      · obtain ⟨c1, c2, c3, c4, c5⟩ := i3 s' hs2
        unfold nIS
        rw [e9 28 s' 0 (by omega) (by omega), e9 28 s' 2 (by omega) (by omega), e9 28 s' 3 (by omega) (by omega), e9 28 s' 4 (by omega) (by omega), e9 28 s' 5 (by omega) (by omega), o.1]
        refine ⟨c1, fun w => ⟨(c2 w).1, fun q hq => ?_⟩, c3, c4, fun w2 => ⟨fun q hq hz => ?_, fun t2 ht2 => by rw [e9 23 t2 0 (by omega) (by omega), e9 23 t2 1 (by omega) (by omega)]; exact (c5 w2).2 t2 ht2⟩⟩
        · rw [e8]
          by_cases r : q < nn N 29 ∧ nv N 29 q 4 = nI u
          · rw [if_pos r]
            intro q2
            have := (nI_eq (a := 999) (b := s') (by omega) (by omega)).mp q2
            omega
          · rw [if_neg r]
            exact (c2 w).2 q hq
        · obtain ⟨r1, r2⟩ := (c5 w2).1 q hq hz
          refine ⟨r1, ?_⟩
          rw [e8, if_neg (fun r => w ((nI_eq (by omega) (by omega)).mp (r2.symm.trans r.2)))]
          exact r2
    · rw [o.1] at ht'
      by_cases w : t' = t
      · subst w
        exact nAh.er (d := d) (i4 t' ht') (by rw [o.2.1]; exact nq_Q_s) (fun x => e9 28 x 1 (by omega) (by omega))
      · exact nAh.cg (i4 t' ht') (by rw [o.2.1]; exact nq_Q w) (fun x => e9 28 x 1 (by omega) (by omega))
  · rw [if_neg z]
    have hb0 : b ≠ 0 := fun w => z (by rw [w]; rfl)
    refine NI.mk (nIA.cg i1 (fun l => nv_U (by omega))) (nIQ.cg i2 (fun l => nv_U (by omega))) (fun s' hs' => ?_) (fun t' ht' => nAh.cg (i4 t' ht') rfl (fun u => nv_U (by omega))) (nIH.cg i5 rfl (nv_U (by omega)) rfl (fun s => nv_U (by omega)))
    by_cases w : s' = u
    · subst w
      obtain ⟨c1, c2, c3, c4, c5⟩ := i3 s' hs'
      unfold nIS
      rw [nv_U_s, nv_U (by omega), nv_U (by omega), nv_U (by omega), nv_U (by omega)]
      refine ⟨c1, fun w => ?_, fun _ => ⟨b, by omega, by omega, rfl⟩, c4, fun w => ⟨fun p hp hz => by rw [nv_U (by omega)]; exact (c5 w).1 p hp hz, fun t ht => by rw [nv_U (by omega), nv_U (by omega)]; exact (c5 w).2 t ht⟩⟩
      rw [h3] at w
      exact absurd w (by decide)
    · exact nIS.cg (i3 s' hs') (fun f _ => nv_U (by omega)) (fun t f _ => nv_U (by omega)) rfl rfl (fun p _ => nv_U (by omega))
/-- links, as hidings tell them -/
theorem nLk1_zb {N : mN} {e s x u : Nat} (he : e < 32) (hs : s < 32) (hu : u < 32) : zb (nv (nLk1 N e s) 28 x 9) u = true ↔ zb (nv N 28 x 9) u = true ∨ (x = e ∧ u = s) ∨ (x = s ∧ u = e) := by
  unfold nLk1
  by_cases z : x = s
  · subst z
    rw [nv_U_s, zb_or, zb_shl e he u hu, Bool.or_eq_true, decide_eq_true_iff]
    by_cases w : x = e
    · subst w
      rw [nv_U_s, zb_or, zb_shl x hs u hu, Bool.or_eq_true, decide_eq_true_iff]
      constructor
      · intro q
        rcases q with (q | q) | q
        · exact Or.inl q
        · exact Or.inr (Or.inl ⟨rfl, q⟩)
        · exact Or.inr (Or.inl ⟨rfl, q⟩)
      · intro q
        rcases q with q | q | q
        · exact Or.inl (Or.inl q)
        · exact Or.inr q.2
        · exact Or.inr q.2
    · rw [nv_U (by omega)]
      constructor
      · intro q
        rcases q with q | q
        · exact Or.inl q
        · exact Or.inr (Or.inr ⟨rfl, q⟩)
      · intro q
        rcases q with q | q | q
        · exact Or.inl q
        · exact absurd q.1 w
        · exact Or.inr q.2
  · rw [nv_U (by omega)]
    by_cases w : x = e
    · subst w
      rw [nv_U_s, zb_or, zb_shl s hs u hu, Bool.or_eq_true, decide_eq_true_iff]
      constructor
      · intro q
        rcases q with q | q
        · exact Or.inl q
        · exact Or.inr (Or.inl ⟨rfl, q⟩)
      · intro q
        rcases q with q | q | q
        · exact Or.inl q
        · exact Or.inr q.2
        · exact absurd q.1 z
    · rw [nv_U (by omega)]
      constructor
      · intro q
        exact Or.inl q
      · intro q
        rcases q with q | q | q
        · exact q
        · exact absurd q.1 w
        · exact absurd q.1 z
theorem nLk_zb {h : List Nat} {nt dr : Int32} {s : Nat} {N : mN} (hs : s < 32) {x u : Nat} (hu : u < 32) : ∀ j, (∀ k, k < j → hS h k < 32) → (zb (nv (nLk h nt dr s j N) 28 x 9) u = true ↔ zb (nv N 28 x 9) u = true ∨ ∃ k, k < j ∧ (nI (hD h k) = dr ∧ ¬ 2 < nt - nI (hT h k)) ∧ ((x = hS h k ∧ u = s) ∨ (x = s ∧ u = hS h k))) := by
  intro j
  induction j with
  | zero =>
    intro _
    exact ⟨fun q => Or.inl q, fun q => q.elim id (fun ⟨k, hk, _⟩ => absurd hk (by omega))⟩
  | succ j ih =>
    intro hh
    have ih := ih (fun k hk => hh k (by omega))
    by_cases c : nI (hD h j) = dr ∧ ¬ 2 < nt - nI (hT h j)
    · rw [show nLk h nt dr s (j + 1) N = nLk1 (nLk h nt dr s j N) (hS h j) s from if_pos c, nLk1_zb (hh j (by omega)) hs hu, ih]
      constructor
      · intro q
        rcases q with (q | ⟨k, hk, q⟩) | q
        · exact Or.inl q
        · exact Or.inr ⟨k, by omega, q⟩
        · exact Or.inr ⟨j, by omega, c, q⟩
      · intro q
        rcases q with q | ⟨k, hk, q, q2⟩
        · exact Or.inl (Or.inl q)
        · by_cases w : k = j
          · subst w
            exact Or.inr q2
          · exact Or.inl (Or.inr ⟨k, by omega, q, q2⟩)
    · rw [show nLk h nt dr s (j + 1) N = nLk h nt dr s j N from if_neg c, ih]
      constructor
      · intro q
        rcases q with q | ⟨k, hk, q⟩
        · exact Or.inl q
        · exact Or.inr ⟨k, by omega, q⟩
      · intro q
        rcases q with q | ⟨k, hk, q, q2⟩
        · exact Or.inl q
        · have : k ≠ j := fun w => c (by rw [← w]; exact q)
          exact Or.inr ⟨k, by omega, q, q2⟩
/-- hidings with what is known of their sleepers -/
def nIJ (N : mN) : Prop := nIH N ∧ ∃ h, h ≤ 40 ∧ (nh N).length = 3 * h ∧ ∀ k, k < h → hS (nh N) k < nn N 28
theorem nIJ.hide {N : mN} (J : nIJ N) {s d nt : Nat} (hs : s < nn N 28) (h12 : nn N 28 ≤ 12) (hd : d < 8) (hN : nv N 20 0 1 = nI nt) (hnt : nt ≤ 99) : nIJ (nHide N s (nI d)) := by
  obtain ⟨⟨i5, i6, i7⟩, m, hm, hl, hv⟩ := J
  by_cases z : (nh N).length = 120
  · rw [show nHide N s (nI d) = N from if_pos z]
    exact ⟨⟨i5, i6, i7⟩, m, hm, hl, hv⟩
  have e : nHide N s (nI d) = nH (nLk (nh N) (nI nt) (nI d) s m N) (nh N ++ [s] ++ [d] ++ [nt]) := by
    unfold nHide
    rw [if_neg z, hN, tN_nI (by omega), tN_nI (by omega), hl, show 3 * m / 3 = m by omega]
  rw [hN, tN_nI (by omega)] at i5
  have eo : ∀ k, k < m → hS (nh N ++ [s] ++ [d] ++ [nt]) k = hS (nh N) k ∧ hD (nh N ++ [s] ++ [d] ++ [nt]) k = hD (nh N) k ∧ hT (nh N ++ [s] ++ [d] ++ [nt]) k = hT (nh N) k := fun k hk => by
    unfold hS hD hT
    rw [ap3_l (by omega), ap3_l (by omega), ap3_l (by omega)]
    exact ⟨rfl, rfl, rfl⟩
  have en : hS (nh N ++ [s] ++ [d] ++ [nt]) m = s ∧ hD (nh N ++ [s] ++ [d] ++ [nt]) m = d ∧ hT (nh N ++ [s] ++ [d] ++ [nt]) m = nt := by
    have a0 := ap3_r (l := nh N) (a := s) (b := d) (c := nt) (i := 0)
    have a1 := ap3_r (l := nh N) (a := s) (b := d) (c := nt) (i := 1)
    have a2 := ap3_r (l := nh N) (a := s) (b := d) (c := nt) (i := 2)
    rw [hl] at a0 a1 a2
    unfold hS hD hT
    rw [show 3 * m = 3 * m + 0 from rfl, a0, show 3 * m + 0 = 3 * m from rfl, a1, a2]
    exact ⟨rfl, rfl, rfl⟩
  have ev : ∀ k i f, ¬ (k = 28 ∧ f = 9) → nv (nH (nLk (nh N) (nI nt) (nI d) s m N) (nh N ++ [s] ++ [d] ++ [nt])) k i f = nv N k i f := fun k i f w => nLk_v w m
  have enn : nn (nH (nLk (nh N) (nI nt) (nI d) s m N) (nh N ++ [s] ++ [d] ++ [nt])) 28 = nn N 28 := congrFun (nLk_o m).1 28
  have elen : (nh (nH (nLk (nh N) (nI nt) (nI d) s m N) (nh N ++ [s] ++ [d] ++ [nt]))).length = 3 * (m + 1) := by
    show (nh N ++ [s] ++ [d] ++ [nt]).length = _
    rw [ap3_n]
    omega
  have eh : nh (nH (nLk (nh N) (nI nt) (nI d) s m N) (nh N ++ [s] ++ [d] ++ [nt])) = nh N ++ [s] ++ [d] ++ [nt] := rfl
  rw [e]
  refine ⟨⟨fun k hk => ?_, fun k k' hkk hk => ?_, fun x hx u hu => ?_⟩, m + 1, by omega, elen, fun k hk => ?_⟩
  · rw [elen] at hk
    rw [ev 20 0 1 (by omega), hN, tN_nI (by omega), eh]
    by_cases w : k = m
    · rw [w, en.2.1, en.2.2]
      exact ⟨hd, Nat.le_refl _⟩
    · rw [(eo k (by omega)).2.1, (eo k (by omega)).2.2]
      exact i5 k (by omega)
  · rw [elen] at hk
    rw [eh]
    by_cases w : k' = m
    · rw [w, en.2.2]
      by_cases w2 : k = m
      · rw [w2, en.2.2]
        exact Nat.le_refl _
      · rw [(eo k (by omega)).2.2]
        exact (i5 k (by omega)).2
    · rw [(eo k (by omega)).2.2, (eo k' (by omega)).2.2]
      exact i6 k k' hkk (by omega)
  · rw [enn] at hx
    rw [elen, eh]
    show zb (nv (nLk (nh N) (nI nt) (nI d) s m N) 28 x 9) u = true ↔ _
    rw [nLk_zb (by omega) hu m (fun k hk => by have := hv k hk; omega), i7 x hx u hu]
    have cnd : ∀ k, k < m → ((nI (hD (nh N) k) = nI d ∧ ¬ 2 < nI nt - nI (hT (nh N) k)) ↔ nLn (nh N ++ [s] ++ [d] ++ [nt]) k m) := fun k hk => by
      obtain ⟨q1, q2⟩ := i5 k (by omega)
      unfold nLn
      rw [(eo k hk).2.1, (eo k hk).2.2, en.2.1, en.2.2, pk_sub q2, nI_eq (by omega) (by omega)]
      constructor
      · intro w
        have : ¬ 2 < nt - hT (nh N) k := fun w2 => w.2 (show nI 2 < nI (nt - hT (nh N) k) from nI_lt w2 (by omega))
        exact ⟨w.1, by omega, by omega⟩
      · intro w
        refine ⟨w.1, fun w2 => ?_⟩
        have := (nI_ltI (a := 2) (b := nt - hT (nh N) k) (by omega) (by omega)).mp w2
        omega
    have sym : ∀ a b, nLn (nh N ++ [s] ++ [d] ++ [nt]) a b → nLn (nh N ++ [s] ++ [d] ++ [nt]) b a := fun a b w => ⟨w.1.symm, w.2.2, w.2.1⟩
    have old : ∀ a b, a < m → b < m → (nLn (nh N ++ [s] ++ [d] ++ [nt]) a b ↔ nLn (nh N) a b) := fun a b ha hb => by
      unfold nLn
      rw [(eo a ha).2.1, (eo a ha).2.2, (eo b hb).2.1, (eo b hb).2.2]
    constructor
    · intro q
      rcases q with ⟨a, b, h1, h2, h3, h4, h5, h6⟩ | ⟨k, hk, c, q⟩
      · exact ⟨a, b, by omega, by omega, h3, by rw [(eo a (by omega)).1]; exact h4, by rw [(eo b (by omega)).1]; exact h5, (old a b (by omega) (by omega)).mpr h6⟩
      · have hc := (cnd k hk).mp c
        rcases q with q | q
        · exact ⟨k, m, by omega, by omega, by omega, by rw [(eo k hk).1]; exact q.1.symm, by rw [en.1]; exact q.2.symm, hc⟩
        · exact ⟨m, k, by omega, by omega, by omega, by rw [en.1]; exact q.1.symm, by rw [(eo k hk).1]; exact q.2.symm, sym k m hc⟩
    · intro q
      obtain ⟨a, b, h1, h2, h3, h4, h5, h6⟩ := q
      by_cases wa : a = m
      · have hb : b < m := by omega
        rw [wa] at h4 h6
        rw [en.1] at h4
        rw [(eo b hb).1] at h5
        exact Or.inr ⟨b, hb, (cnd b hb).mpr (sym m b h6), Or.inr ⟨h4.symm, h5.symm⟩⟩
      · by_cases wb : b = m
        · have ha : a < m := by omega
          rw [wb] at h5 h6
          rw [en.1] at h5
          rw [(eo a ha).1] at h4
          exact Or.inr ⟨a, ha, (cnd a ha).mpr h6, Or.inl ⟨h4.symm, h5.symm⟩⟩
        · rw [(eo a (by omega)).1] at h4
          rw [(eo b (by omega)).1] at h5
          exact Or.inl ⟨a, b, by omega, by omega, h3, h4, h5, (old a b (by omega) (by omega)).mp h6⟩
  · rw [enn, eh]
    by_cases w : k = m
    · rw [w, en.1]
      exact hs
    · rw [(eo k (by omega)).1]
      exact hv k (by omega)
theorem nIJ.cg {N N' : mN} (J : nIJ N) (e1 : nh N' = nh N) (e2 : nv N' 20 0 1 = nv N 20 0 1) (e3 : nn N' 28 = nn N 28) (e4 : ∀ s, nv N' 28 s 9 = nv N 28 s 9) : nIJ N' := by
  obtain ⟨h, k, a, b, c⟩ := J
  exact ⟨h.cg e1 e2 e3 e4, k, a, by rw [e1]; exact b, fun i hi => by rw [e1, e3]; exact c i hi⟩
theorem nIJ.bh {N : mN} (J : nIJ N) {s to nt : Nat} {sr : Int32} (hs : s < nn N 28) (h12 : nn N 28 ≤ 12) (hdr : ∀ p, p < nn N 29 → ∃ d, d < 8 ∧ nv N 29 p 0 = nI d) (hN : nv N 20 0 1 = nI nt) (hnt : nt ≤ 99) : ∀ j, j ≤ nn N 29 → nIJ (nBh s to sr j (N, 0)).1 := by
  intro j
  induction j with
  | zero => intro _; exact J
  | succ j ih =>
    intro hj
    have J1 := ih (by omega)
    have eF := nBh_Fr (s := s) (to := to) (sr := sr) (p := (N, 0)) j
    obtain ⟨d, hd, ed⟩ := hdr j (by omega)
    have ed' : nv (nBh s to sr j (N, 0)).1 29 j 0 = nI d := (eF.2.2.2 29 j 0 (by omega) (by omega) (by omega)).trans ed
    have e1 : nv (nBh s to sr j (N, 0)).1 20 0 1 = nI nt := (eF.2.2.2 20 0 1 (by omega) (by omega) (by omega)).trans hN
    have e28 : nn (nBh s to sr j (N, 0)).1 28 = nn N 28 := congrFun eF.1 28
    have J2 := J1.hide (s := s) (by rw [e28]; exact hs) (by rw [e28]; exact h12) hd e1 hnt
    show nIJ (nBh1 s to sr j (nBh s to sr j (N, 0))).1
    unfold nBh1
    split
    · split
      · show nIJ (nBa _ s j 4)
        unfold nBa
        rw [ed']
        exact J2.cg rfl ((nv_U (by omega)).trans (nv_U (by omega))) rfl (fun s => (nv_U (by omega)).trans (nv_U (by omega)))
      · show nIJ (nBb _ s to j)
        unfold nBb nBa
        rw [ed']
        exact J2.cg rfl ((nv_U (by omega)).trans ((nv_U (by omega)).trans ((nv_U (by omega)).trans (nv_U (by omega))))) rfl (fun s => (nv_U (by omega)).trans ((nv_U (by omega)).trans ((nv_U (by omega)).trans (nv_U (by omega)))))
    · exact J1
/-- where parts are, of one who comes through -/
theorem nBh_at {N : mN} {s to : Nat} {sr : Int32} {p : Nat} : ∀ j, nv (nBh s to sr j (N, 0)).1 29 p 4 = nv N 29 p 4 ∨ (nv N 29 p 4 = nI s ∧ nv (nBh s to sr j (N, 0)).1 29 p 4 = nI (100 + to)) := by
  intro j
  induction j with
  | zero => exact Or.inl rfl
  | succ j ih =>
    by_cases w : p = j
    · subst w
      have e0 : nv (nBh s to sr p (N, 0)).1 29 p 4 = nv N 29 p 4 := nBh_p (p := (N, 0)) p (Nat.le_refl _)
      show nv (nBh1 s to sr p (nBh s to sr p (N, 0))).1 29 p 4 = _ ∨ _ ∧ nv (nBh1 s to sr p (nBh s to sr p (N, 0))).1 29 p 4 = _
      by_cases c : nHn (nBh s to sr p (N, 0)).1 s p = true
      · have hat := (nHn_i.mp c).1
        rw [e0] at hat
        unfold nBh1
        rw [if_pos c]
        split
        · left
          show nv (nBa _ s p 4) 29 p 4 = _
          unfold nBa
          rw [nv_U (by omega), nv_U (by omega), nHide_v (by omega)]
          exact e0
        · right
          refine ⟨hat, ?_⟩
          show nv (nBb _ s to p) 29 p 4 = _
          unfold nBb
          rw [nv_U (by omega), nv_U_s]
      · unfold nBh1
        rw [if_neg c]
        exact Or.inl e0
    · have e : nv (nBh s to sr (j + 1) (N, 0)).1 29 p 4 = nv (nBh s to sr j (N, 0)).1 29 p 4 := nBh1_p (Or.inl w)
      rw [e]
      exact ih
theorem NI.come {N : mN} (B : nB N) (I : NI N) {s t : Nat} (hs : s < nn N 28) (ht : t < nn N 23) (h0 : nv N 28 s 3 = 0) : NI (nCome N s t).1 := by
  have hb := B.2.1
  obtain ⟨nt, hr, t1, -, t3, -⟩ := B.1
  obtain ⟨la, hla, ela⟩ := (B.2.2.2.1 s hs).1
  have hto : nTo N s t < 6 := by
    unfold nTo
    obtain ⟨⟨a, ha, ea⟩, ⟨b, hb', eb⟩⟩ := B.2.2.1 t ht
    split
    · rw [eb, tN_nI (by omega)]; exact hb'
    · rw [ea, tN_nI (by omega)]; exact ha
  have o := nDraw_o (N := N) (t := t)
  unfold nCome
  generalize nTo N s t = to at hto
  generalize nSr N t = sr
  have ed : ∀ k i f, ¬ (k = 20 ∧ (f = 3 ∨ f = 4)) → nv (nDraw N t) k i f = nv N k i f := fun k i f w => nDraw_v w
  have e28 : nn (nDraw N t) 28 = nn N 28 := congrFun o.1 28
  have e29 : nn (nDraw N t) 29 = nn N 29 := congrFun o.1 29
  obtain ⟨hh, h40, hl, hv⟩ := B.2.2.2.2.2.2.2
  obtain ⟨i1, i2, i3, i4, i5⟩ := I
  have J0 : nIJ (nDraw N t) := by
    refine nIJ.cg (N := N) ⟨i5, hh, h40, hl, fun k hk => ?_⟩ o.2.2.2 (ed 20 0 1 (by omega)) e28 (fun s => ed 28 s 9 (by omega))
    have hx : (nh N)[3 * k]? = some ((nh N)[3 * k]) := List.getElem?_eq_getElem (by omega)
    have := hv k _ hx
    unfold hS
    rw [hx]
    exact this
  have J := J0.bh (s := s) (to := to) (sr := sr) (by rw [e28]; exact hs) (by rw [e28]; exact hb.2.1) (fun p hp => by rw [ed 29 p 0 (by omega)]; exact (B.2.2.2.2.1 p (by rw [← e29]; exact hp)).1) ((ed 20 0 1 (by omega)).trans t3) t1 (nn (nDraw N t) 29) (Nat.le_refl _)
  have eF := nBh_Fr (s := s) (to := to) (sr := sr) (p := (nDraw N t, 0)) (nn (nDraw N t) 29)
  have hat : ∀ p, nv (nCt (nDraw N t) s to sr).1 29 p 4 = nv N 29 p 4 ∨ (nv N 29 p 4 = nI s ∧ ∃ l, l < 6 ∧ nv (nCt (nDraw N t) s to sr).1 29 p 4 = nI (100 + l)) := by
    intro p
    have e1 : nv (nCt (nDraw N t) s to sr).1 29 p 4 = nv (nDl (nBh s to sr (nn (nDraw N t) 29) (nDraw N t, 0)).1 s to (fun _ => if nv (nBh s to sr (nn (nDraw N t) 29) (nDraw N t, 0)).1 22 to 1 < (nCi (nBh s to sr (nn (nDraw N t) 29) (nDraw N t, 0)).1 s to (nn (nDraw N t) 29)).2 then 1 else 2) (nn (nDraw N t) 29)) 29 p 4 := by
      show nv (nU (nU (nCd _ s to _) 28 s 0 (nI to)) 28 s 8 (-1)) 29 p 4 = _
      rw [nv_U (by omega), nv_U (by omega)]
      unfold nCd
      rw [nv_U (by omega), nv_U (by omega)]
    have hB := nBh_at (N := nDraw N t) (s := s) (to := to) (sr := sr) (p := p) (nn (nDraw N t) 29)
    rw [ed 29 p 4 (by omega)] at hB
    rw [e1]
    generalize (nBh s to sr (nn (nDraw N t) 29) (nDraw N t, 0)).1 = Nb at hB eF
    by_cases c : p < nn (nDraw N t) 29 ∧ nDc Nb s p = true
    · have hat := (nDc_i.mp c.2).1
      cases q : nBk Nb s to p with
      | true =>
        rw [nDl_bk c.1 c.2 q]
        have el : nv Nb 28 s 0 = nI la := (eF.2.2.2 28 s 0 (by omega) (by omega) (by omega)).trans ((ed 28 s 0 (by omega)).trans ela)
        rw [el, nI_100]
        right
        refine ⟨?_, la, hla, rfl⟩
        rcases hB with hB | hB
        · rw [← hB]; exact hat
        · exact hB.1
      | false =>
        rw [nDl_in c.1 c.2 q]
        rcases hB with hB | hB
        · exact Or.inl hB
        · exact Or.inr ⟨hB.1, to, hto, hB.2⟩
    · rw [nDl_v (fun w => c ⟨w.2.1, w.2.2⟩)]
      rcases hB with hB | hB
      · exact Or.inl hB
      · exact Or.inr ⟨hB.1, to, hto, hB.2⟩
  have ev : ∀ k i f, ¬ (k = 20 ∧ (f = 3 ∨ f = 4)) → ¬ (k = 28 ∧ f = 9) → ¬ (k = 28 ∧ i = s ∧ (f = 0 ∨ f = 8)) → ¬ (k = 29 ∧ 3 ≤ f) → ¬ (k = 22 ∧ 3 ≤ f) → nv (nCt (nDraw N t) s to sr).1 k i f = nv N k i f := fun k i f w1 w2 w3 w4 w5 => by
    show nv (nU (nU (nCd _ s to _) 28 s 0 (nI to)) 28 s 8 (-1)) k i f = _
    rw [nv_U (by omega), nv_U (by omega)]
    unfold nCd
    rw [nv_U (by omega), nv_U (by omega), (nDl_Fr).2.2.2 k i f w2 w4 w5, eF.2.2.2 k i f w2 w4 w5]
    exact ed k i f w1
  have en : nn (nCt (nDraw N t) s to sr).1 = nn N := nCt_n.trans o.1
  have eq : nq (nCt (nDraw N t) s to sr).1 = nq N := nCt_q.trans o.2.1
  refine NI.mk (nIA.cg i1 (fun l => ev 22 l 1 (by omega) (by omega) (by omega) (by omega) (by omega))) (nIQ.cg i2 (fun l => ev 22 l 2 (by omega) (by omega) (by omega) (by omega) (by omega))) (fun s' hs' => ?_) (fun t' ht' => ?_) ?_
  · rw [en] at hs'
    obtain ⟨c1, c2, c3, c4, c5⟩ := i3 s' hs'
    unfold nIS
    rw [ev 28 s' 2 (by omega) (by omega) (by omega) (by omega) (by omega), ev 28 s' 3 (by omega) (by omega) (by omega) (by omega) (by omega), ev 28 s' 4 (by omega) (by omega) (by omega) (by omega) (by omega), ev 28 s' 5 (by omega) (by omega) (by omega) (by omega) (by omega), en]
    refine ⟨c1, fun w => ⟨(c2 w).1, fun p hp => ?_⟩, c3, c4, fun w => ?_⟩
    · rcases hat p with h | ⟨-, l, hl, h⟩
      · rw [h]
        exact (c2 w).2 p hp
      · rw [h]
        intro q
        have := (nI_eq (by omega) (by omega)).mp q
        omega
    · have hne : s' ≠ s := fun q => by rw [q, h0] at w; exact absurd w (by decide)
      rw [ev 28 s' 0 (by omega) (by omega) (by omega) (by omega) (by omega)]
      refine ⟨fun p hp hz => ?_, fun t' ht2 => by rw [ev 23 t' 0 (by omega) (by omega) (by omega) (by omega) (by omega), ev 23 t' 1 (by omega) (by omega) (by omega) (by omega) (by omega)]; exact (c5 w).2 t' ht2⟩
      obtain ⟨r1, r2⟩ := (c5 w).1 p hp hz
      refine ⟨r1, ?_⟩
      rcases hat p with h | ⟨h, -⟩
      · rw [h]; exact r2
      · exact absurd ((nI_eq (by omega) (by omega)).mp (r2.symm.trans h)) hne
  · rw [en] at ht'
    exact nAh.cg (i4 t' ht') (by rw [eq]) (fun u => ev 28 u 1 (by omega) (by omega) (by omega) (by omega) (by omega))
  · refine nIH.cg (N := (nBh s to sr (nn (nDraw N t) 29) (nDraw N t, 0)).1) J.1 rfl ?_ (by rw [en, eF.1]; exact e28.symm) (fun x => ?_)
    · rw [ev 20 0 1 (by omega) (by omega) (by omega) (by omega) (by omega), eF.2.2.2 20 0 1 (by omega) (by omega) (by omega)]
      exact (ed 20 0 1 (by omega)).symm
    · show nv (nU (nU (nCd _ s to _) 28 s 0 (nI to)) 28 s 8 (-1)) 28 x 9 = _
      rw [nv_U (by omega), nv_U (by omega)]
      unfold nCd
      rw [nv_U (by omega), nv_U (by omega)]
      exact nDl_v3 (by omega)
