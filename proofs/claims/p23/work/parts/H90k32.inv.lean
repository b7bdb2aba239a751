/-! THE SIMULATION, 23: what holds between calls is kept: short calls -/
theorem NI.land {N N' : mN} (I : NI N) {a r al k v : Int32} (e : fLand N a r al = (k, v, N')) : NI N' := by
  unfold fLand at e
  by_cases z1 : ¬ (¬ a < 0 ∧ a < 6)
  · rw [if_pos z1] at e; cases e; exact I
  rw [if_neg z1] at e
  by_cases z2 : ¬ ((¬ r < 0 ∧ r ≤ 50) ∧ (¬ al < 0 ∧ al ≤ 99))
  · rw [if_pos z2] at e; cases e; exact I
  rw [if_neg z2] at e
  cases e
  have hal := (Classical.not_not.mp z2).2
  obtain ⟨i1, i2, i3, i4, i5⟩ := I
  refine NI.mk (fun l hl => ?_) (nIQ.cg i2 (fun l => (nv_U (by omega)).trans (nv_U (by omega)))) (fun s hs => nIS.cg (i3 s hs) (fun f _ => (nv_U (by omega)).trans (nv_U (by omega))) (fun t f _ => (nv_U (by omega)).trans (nv_U (by omega))) rfl rfl (fun p _ => (nv_U (by omega)).trans (nv_U (by omega)))) (fun t ht => nAh.cg (i4 t ht) rfl (fun u => (nv_U (by omega)).trans (nv_U (by omega)))) (nIH.cg i5 rfl ((nv_U (by omega)).trans (nv_U (by omega))) rfl (fun s => (nv_U (by omega)).trans (nv_U (by omega))))
  by_cases q : l = tN a
  · subst q
    obtain ⟨j, hj, ej⟩ := nI_rg (n := 99) (by omega) hal.1 (Int32.not_lt.mpr hal.2)
    exact ⟨j, hj, nv_U_s.trans ej⟩
  · rw [nv_U (by omega), nv_U (by omega)]
    exact i1 l hl
theorem NI.trade {N N' : mN} (I : NI N) {a b m k v : Int32} (e : fTrade N a b m = (k, v, N')) : NI N' := by
  unfold fTrade at e
  by_cases z1 : ¬ ((¬ a < 0 ∧ a < 6) ∧ (¬ b < 0 ∧ b < 6))
  · rw [if_pos z1] at e; cases e; exact I
  rw [if_neg z1] at e
  by_cases z2 : a = b ∨ ¬ 0 ≤ m
  · rw [if_pos z2] at e; cases e; exact I
  rw [if_neg z2] at e
  by_cases z3 : nv N 22 (tN a) 2 < m ∨ ¬ nv N 22 (tN b) 2 + m ≤ 30
  · rw [if_pos z3] at e; cases e; exact I
  rw [if_neg z3] at e
  cases e
  obtain ⟨ha, hb⟩ := Classical.not_not.mp z1
  obtain ⟨la, la0, ea⟩ := nI_of ha.1
  obtain ⟨lb, lb0, eb⟩ := nI_of hb.1
  have hla : la < 6 := (nI_ltI (a := la) (b := 6) (by omega) (by omega)).mp (by rw [← ea]; exact ha.2)
  have hlb : lb < 6 := (nI_ltI (a := lb) (b := 6) (by omega) (by omega)).mp (by rw [← eb]; exact hb.2)
  have ta : tN a = la := by rw [ea, tN_nI (by omega)]
  have tb : tN b = lb := by rw [eb, tN_nI (by omega)]
  have hne : la ≠ lb := fun w => z2 (Or.inl (by rw [ea, eb, w]))
  rw [ta, tb] at z3 ⊢
  obtain ⟨i1, ⟨q, q1, q2⟩, i3, i4, i5⟩ := I
  have hm0 : ¬ m < 0 := fun w => z2 (Or.inr (fun w2 => absurd w (Int32.not_lt.mpr w2)))
  obtain ⟨j, hj, ej⟩ := nI_of hm0
  have hq : ∀ l, l < 6 → q l ≤ 30 := fun l hl => by
    have hl' : l = 0 ∨ l = 1 ∨ l = 2 ∨ l = 3 ∨ l = 4 ∨ l = 5 := by omega
    rcases hl' with rfl | rfl | rfl | rfl | rfl | rfl <;> omega
  have hja : j ≤ q la := Nat.not_lt.mp (fun w => z3 (Or.inl (by rw [q1 la hla, ej]; exact nI_lt w hj)))
  have hqa := hq la hla
  refine NI.mk (nIA.cg i1 (fun l => (nv_U (by omega)).trans (nv_U (by omega)))) ⟨fun l => if l = lb then q lb + j else if l = la then q la - j else q l, fun l hl => ?_, ?_⟩ (fun s hs => nIS.cg (i3 s hs) (fun f _ => (nv_U (by omega)).trans (nv_U (by omega))) (fun t f _ => (nv_U (by omega)).trans (nv_U (by omega))) rfl rfl (fun p _ => (nv_U (by omega)).trans (nv_U (by omega)))) (fun t ht => nAh.cg (i4 t ht) rfl (fun u => (nv_U (by omega)).trans (nv_U (by omega)))) (nIH.cg i5 rfl ((nv_U (by omega)).trans (nv_U (by omega))) rfl (fun s => (nv_U (by omega)).trans (nv_U (by omega))))
  · show nv _ 22 l 2 = nI (if l = lb then q lb + j else if l = la then q la - j else q l)
    by_cases w : l = lb
    · subst w
      rw [nv_U_s, if_pos rfl, q1 l hl, ej, nI_add]
    · rw [nv_U (by omega), if_neg w]
      by_cases w2 : l = la
      · subst w2
        rw [nv_U_s, if_pos rfl, q1 l hl, ej, pk_sub hja]
      · rw [nv_U (by omega), if_neg w2]
        exact q1 l hl
  · clear ea eb ta tb z3 hqa la0 lb0
    have hla' : la = 0 ∨ la = 1 ∨ la = 2 ∨ la = 3 ∨ la = 4 ∨ la = 5 := by omega
    have hlb' : lb = 0 ∨ lb = 1 ∨ lb = 2 ∨ lb = 3 ∨ lb = 4 ∨ lb = 5 := by omega
    rcases hla' with rfl | rfl | rfl | rfl | rfl | rfl <;> rcases hlb' with rfl | rfl | rfl | rfl | rfl | rfl <;> first | exact absurd rfl hne | (simp; omega)
theorem NI.gate {N N' : mN} (B : nB N) (I : NI N) {a b f hh k v : Int32} (e : fGate N a b f hh = (k, v, N')) : NI N' := by
  unfold fGate at e
  by_cases z1 : ¬ ((¬ a < 0 ∧ a < 6) ∧ (¬ b < 0 ∧ b < 6))
  · rw [if_pos z1] at e; cases e; exact I
  rw [if_neg z1] at e
  by_cases z2 : a = b ∨ ¬ ((¬ f < 0 ∧ f ≤ 23) ∧ (¬ hh < 1 ∧ hh ≤ 24))
  · rw [if_pos z2] at e; cases e; exact I
  rw [if_neg z2] at e
  by_cases z3 : ¬ nn N 23 < 8
  · rw [if_pos z3] at e; cases e; exact I
  rw [if_neg z3] at e
  cases e
  have e9 : ∀ k i f', ¬ (k = 23 ∧ i = nn N 23) → nv (nGate N a b f hh) k i f' = nv N k i f' := fun k i f' w => nv_N (N := N) (k := 23) (fs := gFs a b f hh) w
  have n23 : nn (nGate N a b f hh) 23 = nn N 23 + 1 := nn_N_s (N := N) (k := 23) (fs := gFs a b f hh)
  have n28 : nn (nGate N a b f hh) 28 = nn N 28 := (show nn (nNew N 23 (gFs a b f hh)) 28 = nn N 28 from nn_N (by omega))
  have n29 : nn (nGate N a b f hh) 29 = nn N 29 := (show nn (nNew N 23 (gFs a b f hh)) 29 = nn N 29 from nn_N (by omega))
  obtain ⟨i1, i2, i3, i4, i5⟩ := I
  refine NI.mk (nIA.cg i1 (fun l => e9 22 l 1 (by omega))) (nIQ.cg i2 (fun l => e9 22 l 2 (by omega))) (fun s hs => ?_) (fun t ht => ?_) (nIH.cg i5 rfl (e9 20 0 1 (by omega)) n28 (fun s => e9 28 s 9 (by omega)))
  · rw [n28] at hs
    obtain ⟨c1, c2, c3, c4, c5⟩ := i3 s hs
    unfold nIS
    rw [e9 28 s 0 (by omega), e9 28 s 2 (by omega), e9 28 s 3 (by omega), e9 28 s 4 (by omega), e9 28 s 5 (by omega), n29, n23]
    refine ⟨c1, fun w => ⟨(c2 w).1, fun p hp => by rw [e9 29 p 4 (by omega)]; exact (c2 w).2 p hp⟩, c3, c4, fun w => ⟨fun p hp hz => by rw [e9 29 p 4 (by omega)]; exact (c5 w).1 p hp hz, fun t ht et => ?_⟩⟩
    have ht' : t < nn N 23 := by
      obtain ⟨t', h1, h2, -⟩ := B.2.2.2.2.2.2.1 s hs w
      have := (nI_eq (by omega) (by omega)).mp (h2.symm.trans et)
      omega
    rw [e9 23 t 0 (by omega), e9 23 t 1 (by omega)]
    exact (c5 w).2 t ht' et
  · by_cases w : t = nn N 23
    · subst w
      intro i j u w' _ hu
      rw [show nq (nGate N a b f hh) (nn N 23) = [] from nq_Q_s] at hu
      cases hu
    · exact nAh.cg (i4 t (by omega)) (nq_Q w) (fun u => e9 28 u 1 (by omega))
theorem NI.odds {N N' : mN} (I : NI N) {a b k v : Int32} (e : fOdds N a b = (k, v, N')) : NI N' := by
  unfold fOdds at e
  by_cases z1 : ¬ (¬ a < 0 ∧ a < nI (nn N 23))
  · rw [if_pos z1] at e; cases e; exact I
  rw [if_neg z1] at e
  by_cases z2 : ¬ (¬ b < 0 ∧ b ≤ 10)
  · rw [if_pos z2] at e; cases e; exact I
  rw [if_neg z2] at e
  cases e
  obtain ⟨i1, i2, i3, i4, i5⟩ := I
  exact NI.mk (nIA.cg i1 (fun l => nv_U (by omega))) (nIQ.cg i2 (fun l => nv_U (by omega))) (fun s hs => nIS.cg (i3 s hs) (fun f _ => nv_U (by omega)) (fun t f _ => nv_U (by omega)) rfl rfl (fun p _ => nv_U (by omega))) (fun t ht => nAh.cg (i4 t ht) rfl (fun u => nv_U (by omega))) (nIH.cg i5 rfl (nv_U (by omega)) rfl (fun s => nv_U (by omega)))
theorem NI.relieve {N N' : mN} (I : NI N) {a k v : Int32} (e : fRelieve N a = (k, v, N')) : NI N' := by
  unfold fRelieve at e
  by_cases z1 : ¬ (¬ a < 0 ∧ a < nI (nn N 23))
  · rw [if_pos z1] at e; cases e; exact I
  rw [if_neg z1] at e
  cases e
  obtain ⟨i1, i2, i3, i4, i5⟩ := I
  exact NI.mk (nIA.cg i1 (fun l => nv_U (by omega))) (nIQ.cg i2 (fun l => nv_U (by omega))) (fun s hs => nIS.cg (i3 s hs) (fun f _ => nv_U (by omega)) (fun t f _ => nv_U (by omega)) rfl rfl (fun p _ => nv_U (by omega))) (fun t ht => nAh.cg (i4 t ht) rfl (fun u => nv_U (by omega))) (nIH.cg i5 rfl (nv_U (by omega)) rfl (fun s => nv_U (by omega)))
theorem NI.sleeper {N N' : mN} (B : nB N) (I : NI N) {a b p k v : Int32} (e : fSleeper N a b p = (k, v, N')) : NI N' := by
  unfold fSleeper at e
  by_cases z1 : ¬ (¬ a < 0 ∧ a < 6)
  · rw [if_pos z1] at e; cases e; exact I
  rw [if_neg z1] at e
  by_cases z2 : ¬ (¬ p < 1 ∧ p ≤ 9)
  · rw [if_pos z2] at e; cases e; exact I
  rw [if_neg z2] at e
  by_cases z3 : ¬ nn N 28 < 12
  · rw [if_pos z3] at e; cases e; exact I
  rw [if_neg z3] at e
  cases e
  have hp := Classical.not_not.mp z2
  have e9 : ∀ k i f', ¬ (k = 28 ∧ i = nn N 28) → nv (nNew N 28 (sFs a b p)) k i f' = nv N k i f' := fun k i f' w => nv_N w
  have e8 : ∀ f, nv (nNew N 28 (sFs a b p)) 28 (nn N 28) f = sFs a b p f := fun f => nv_N_s
  have n28 : nn (nNew N 28 (sFs a b p)) 28 = nn N 28 + 1 := nn_N_s
  have n23 : nn (nNew N 28 (sFs a b p)) 23 = nn N 23 := nn_N (by omega)
  have n29 : nn (nNew N 28 (sFs a b p)) 29 = nn N 29 := nn_N (by omega)
  obtain ⟨i1, i2, i3, i4, i5⟩ := I
  refine NI.mk (nIA.cg i1 (fun l => e9 22 l 1 (by omega))) (nIQ.cg i2 (fun l => e9 22 l 2 (by omega))) (fun s hs => ?_) (fun t ht => ?_) ⟨i5.1, i5.2.1, fun s hs u hu => ?_⟩
  · by_cases w : s = nn N 28
    · subst w
      unfold nIS
      rw [e8, e8, e8, e8, e8]
      refine ⟨Or.inl rfl, fun w => absurd (show (0 : Int32) = 2 from w) (by decide), fun _ => ?_, fun _ => rfl, fun w => absurd (show (0 : Int32) = 1 from w) (by decide)⟩
      obtain ⟨j, hj, ej⟩ := nI_rg (v := p) (n := 9) (by omega) (fun w => hp.1 (Int32.lt_trans w (by decide))) (Int32.not_lt.mpr hp.2)
      refine ⟨j, Nat.pos_of_ne_zero (fun w => ?_), hj, ej⟩
      rw [w] at ej
      exact hp.1 (by rw [ej]; decide)
    · exact nIS.cg (i3 s (by omega)) (fun f _ => e9 28 s f (by omega)) (fun t f _ => e9 23 t f (by omega)) n23 n29 (fun q _ => e9 29 q 4 (by omega))
  · rw [n23] at ht
    intro i j u w hij hu hw
    have m := (B.2.2.2.2.2.1 t ht).2
    have hu' : (nq N t)[i]? = some u := hu
    have hw' : (nq N t)[j]? = some w := hw
    have l1 := (m u (List.mem_of_getElem? hu')).1
    have l2 := (m w (List.mem_of_getElem? hw')).1
    rw [e9 28 u 1 (by omega), e9 28 w 1 (by omega)]
    exact i4 t ht i j u w hij hu' hw'
  · show zb (nv _ 28 s 9) u = true ↔ _
    by_cases w : s = nn N 28
    · subst w
      rw [e8, show sFs a b p 9 = 0 from rfl, zb_0]
      refine ⟨fun q => absurd q (by decide), fun q => ?_⟩
      obtain ⟨x, y, h1, -, -, h4, -⟩ := q
      obtain ⟨hh, -, hl, hv⟩ := B.2.2.2.2.2.2.2
      have h1' : 3 * x < (nh N).length := h1
      have hx : (nh N)[3 * x]? = some ((nh N)[3 * x]) := List.getElem?_eq_getElem h1'
      have := hv x _ hx
      have e4 : hS (nh N) x = (nh N)[3 * x] := by unfold hS; rw [hx]; rfl
      have h4' : hS (nh N) x = nn N 28 := h4
      omega
    · rw [e9 28 s 9 (by omega)]
      exact i5.2.2 s (by omega) u hu
theorem NI.part {N N' : mN} (B : nB N) (I : NI N) {a b p d k v : Int32} (e : fPart N a b p d = (k, v, N')) : NI N' := by
  unfold fPart at e
  by_cases z1 : ¬ (¬ a < 0 ∧ a < nI (nn N 28))
  · rw [if_pos z1] at e; cases e; exact I
  rw [if_neg z1] at e
  by_cases z2 : ¬ ((¬ b < 0 ∧ b ≤ 7) ∧ (¬ p < 0 ∧ p ≤ 99) ∧ (¬ d < 0 ∧ d ≤ 9))
  · rw [if_pos z2] at e; cases e; exact I
  rw [if_neg z2] at e
  by_cases z3 : ¬ nn N 29 < 24 ∨ ¬ nv N 28 (tN a) 3 = 0
  · rw [if_pos z3] at e; cases e; exact I
  rw [if_neg z3] at e
  cases e
  have hb := B.2.1
  have ha := Classical.not_not.mp z1
  obtain ⟨x, hx31, ex⟩ := nI_of ha.1
  have hx : x < nn N 28 := (nI_ltI hx31 (by omega)).mp (by rw [← ex]; exact ha.2)
  have tx : tN a = x := by rw [ex, tN_nI (by omega)]
  have h0 : nv N 28 x 3 = 0 := by
    rw [tx] at z3
    exact Classical.not_not.mp (fun w => z3 (Or.inr w))
  have e9 : ∀ k i f', ¬ (k = 29 ∧ i = nn N 29) → nv (nNew N 29 (pFs a b p d)) k i f' = nv N k i f' := fun k i f' w => nv_N w
  have e8 : nv (nNew N 29 (pFs a b p d)) 29 (nn N 29) 4 = a := nv_N_s
  have n29 : nn (nNew N 29 (pFs a b p d)) 29 = nn N 29 + 1 := nn_N_s
  have n23 : nn (nNew N 29 (pFs a b p d)) 23 = nn N 23 := nn_N (by omega)
  have n28 : nn (nNew N 29 (pFs a b p d)) 28 = nn N 28 := nn_N (by omega)
  obtain ⟨i1, i2, i3, i4, i5⟩ := I
  refine NI.mk (nIA.cg i1 (fun l => e9 22 l 1 (by omega))) (nIQ.cg i2 (fun l => e9 22 l 2 (by omega))) (fun s hs => ?_) (fun t ht => nAh.cg (i4 t (by omega)) rfl (fun u => e9 28 u 1 (by omega))) (nIH.cg i5 rfl (e9 20 0 1 (by omega)) n28 (fun s => e9 28 s 9 (by omega)))
  rw [n28] at hs
  obtain ⟨c1, c2, c3, c4, c5⟩ := i3 s hs
  unfold nIS
  rw [e9 28 s 0 (by omega), e9 28 s 2 (by omega), e9 28 s 3 (by omega), e9 28 s 4 (by omega), e9 28 s 5 (by omega), n29, n23]
  refine ⟨c1, fun w => ⟨(c2 w).1, fun q hq => ?_⟩, c3, c4, fun w => ⟨fun q hq hz => ?_, fun t ht => by rw [e9 23 t 0 (by omega), e9 23 t 1 (by omega)]; exact (c5 w).2 t ht⟩⟩
  · by_cases y : q = nn N 29
    · rw [y, e8, ex]
      intro y2
      have := (nI_eq (by omega) (by omega)).mp y2
      rw [← this, h0] at w
      exact absurd w (by decide)
    · rw [e9 29 q 4 (by omega)]
      exact (c2 w).2 q (by omega)
  · obtain ⟨r1, r2⟩ := (c5 w).1 q hq hz
    rw [e9 29 q 4 (by omega)]
    exact ⟨by omega, r2⟩
theorem NI.give {N N' : mN} (B : nB N) (I : NI N) {a b k v : Int32} (e : fGive N a b = (k, v, N')) : NI N' := by
  unfold fGive at e
  by_cases z1 : ¬ ((¬ a < 0 ∧ a < nI (nn N 29)) ∧ (¬ b < 0 ∧ b < nI (nn N 28)))
  · rw [if_pos z1] at e; cases e; exact I
  rw [if_neg z1] at e
  by_cases z2 : ¬ nv N 29 (tN a) 4 < 100 ∨ nv N 29 (tN a) 4 = b
  · rw [if_pos z2] at e; cases e; exact I
  rw [if_neg z2] at e
  by_cases z3 : ¬ (nv N 28 (tN (nv N 29 (tN a) 4)) 0 = nv N 28 (tN b) 0 ∧ nv N 28 (tN (nv N 29 (tN a) 4)) 3 = 0 ∧ nv N 28 (tN b) 3 = 0)
  · rw [if_pos z3] at e; cases e; exact I
  rw [if_neg z3] at e
  cases e
  have hb := B.2.1
  obtain ⟨ha, hbb⟩ := Classical.not_not.mp z1
  obtain ⟨-, h1, h2⟩ := Classical.not_not.mp z3
  obtain ⟨x, hx31, ex⟩ := nI_of hbb.1
  have hx : x < nn N 28 := (nI_ltI hx31 (by omega)).mp (by rw [← ex]; exact hbb.2)
  obtain ⟨p, hp31, ep⟩ := nI_of ha.1
  have hp : p < nn N 29 := (nI_ltI hp31 (by omega)).mp (by rw [← ep]; exact ha.2)
  have tp : tN a = p := by rw [ep, tN_nI (by omega)]
  rw [tp] at z2 h1 ⊢
  rw [ex, tN_nI (by omega)] at h2
  obtain ⟨y, ey, hy⟩ := (B.2.2.2.2.1 p hp).2.2.1
  have hy1000 : y < 1000 := by omega
  rw [ey, tN_nI (by omega)] at h1
  obtain ⟨i1, i2, i3, i4, i5⟩ := I
  refine NI.mk (nIA.cg i1 (fun l => nv_U (by omega))) (nIQ.cg i2 (fun l => nv_U (by omega))) (fun s hs => ?_) (fun t ht => nAh.cg (i4 t ht) rfl (fun u => nv_U (by omega))) (nIH.cg i5 rfl (nv_U (by omega)) rfl (fun s => nv_U (by omega)))
  have hs' : s < nn N 28 := hs
  obtain ⟨c1, c2, c3, c4, c5⟩ := i3 s hs
  unfold nIS
  rw [nv_U (by omega), nv_U (by omega), nv_U (by omega), nv_U (by omega), nv_U (by omega)]
  refine ⟨c1, fun w => ⟨(c2 w).1, fun q hq => ?_⟩, c3, c4, fun w => ⟨fun q hq hz => ?_, fun t ht => by rw [nv_U (by omega), nv_U (by omega)]; exact (c5 w).2 t ht⟩⟩
  · by_cases yq : q = p
    · rw [yq, nv_U_s, ex]
      intro y2
      have := (nI_eq (by omega) (by omega)).mp y2
      rw [← this, h2] at w
      exact absurd w (by decide)
    · rw [nv_U (by omega)]
      exact (c2 w).2 q hq
  · obtain ⟨r1, r2⟩ := (c5 w).1 q hq hz
    refine ⟨r1, ?_⟩
    by_cases yq : q = p
    · rw [yq, ey] at r2
      have := (nI_eq (by omega) (by omega)).mp r2
      rw [this, w] at h1
      exact absurd h1 (by decide)
    · rw [nv_U (by omega)]
      exact r2
theorem NI.sing {N N' : mN} (I : NI N) {a b n w k v : Int32} (e : fSing N a b n w = (k, v, N')) : NI N' := by
  unfold fSing at e
  by_cases z1 : ¬ ((¬ a < 0 ∧ a < nI (nn N 28)) ∧ (¬ b < 0 ∧ b < nI (nn N 23)))
  · rw [if_pos z1] at e; cases e; exact I
  rw [if_neg z1] at e
  by_cases z2 : ¬ ((¬ n < nv N 20 0 1 ∧ n ≤ 99) ∧ (¬ w < 0 ∧ w ≤ 96))
  · rw [if_pos z2] at e; cases e; exact I
  rw [if_neg z2] at e
  cases e
  have e9 : ∀ k i f', ¬ (k = 28 ∧ 6 ≤ f' ∧ f' ≤ 8) → nv (nU (nU (nU N 28 (tN a) 6 b) 28 (tN a) 7 n) 28 (tN a) 8 w) k i f' = nv N k i f' := fun k i f' q => by rw [nv_U (by omega), nv_U (by omega), nv_U (by omega)]
  obtain ⟨i1, i2, i3, i4, i5⟩ := I
  exact NI.mk (nIA.cg i1 (fun l => e9 _ _ _ (by omega))) (nIQ.cg i2 (fun l => e9 _ _ _ (by omega))) (fun s hs => nIS.cg (i3 s hs) (fun f hf => e9 _ _ _ (by omega)) (fun t f _ => e9 _ _ _ (by omega)) rfl rfl (fun p _ => e9 _ _ _ (by omega))) (fun t ht => nAh.cg (i4 t ht) rfl (fun u => e9 _ _ _ (by omega))) (nIH.cg i5 rfl (e9 _ _ _ (by omega)) rfl (fun s => e9 _ _ _ (by omega)))
theorem NI.nW {N : mN} (I : NI N) {r : Nat → Nat → Bool} : NI (nW N r) := I
theorem NI.revoke {N N' : mN} (I : NI N) {a b k v : Int32} (e : fRevoke N a b = (k, v, N')) : NI N' := by
  unfold fRevoke at e
  by_cases z1 : ¬ (¬ a < 0 ∧ a < nI (nn N 23))
  · rw [if_pos z1] at e; cases e; exact I
  rw [if_neg z1] at e
  by_cases z2 : ¬ (¬ b < 0 ∧ b ≤ 96)
  · rw [if_pos z2] at e; cases e; exact I
  rw [if_neg z2] at e
  cases e
  exact I
theorem NI.appeal {N N' : mN} (B : nB N) (I : NI N) {a k v : Int32} (e : fAppeal N a = (k, v, N')) : NI N' := by
  unfold fAppeal at e
  by_cases z1 : ¬ (¬ a < 0 ∧ a < nI (nn N 29))
  · rw [if_pos z1] at e; cases e; exact I
  rw [if_neg z1] at e
  by_cases z2 : ¬ (nv N 29 (tN a) 3 = 3 ∧ ¬ nv N 29 (tN a) 4 < 100 ∧ nv N 29 (tN a) 4 < 106)
  · rw [if_pos z2] at e; cases e; exact I
  rw [if_neg z2] at e
  by_cases z3 : ¬ nv N 29 (tN a) 1 ≤ nv N 22 (tN (nv N 29 (tN a) 4) - 100) 1 ∨ ¬ (nv N 28 (tN (nv N 29 (tN a) 5)) 0 = nI (tN (nv N 29 (tN a) 4) - 100) ∧ nv N 28 (tN (nv N 29 (tN a) 5)) 3 = 0)
  · rw [if_pos z3] at e; cases e; exact I
  rw [if_neg z3] at e
  cases e
  have hb := B.2.1
  have ha := Classical.not_not.mp z1
  obtain ⟨f3, g1, g2⟩ := Classical.not_not.mp z2
  obtain ⟨p, hp31, ep⟩ := nI_of ha.1
  have hp : p < nn N 29 := (nI_ltI hp31 (by omega)).mp (by rw [← ep]; exact ha.2)
  have tp : tN a = p := by rw [ep, tN_nI (by omega)]
  rw [tp] at f3 g1 g2 z3 ⊢
  obtain ⟨x, hx, ex⟩ := (B.2.2.2.2.1 p hp).2.2.2 f3
  have h0 : nv N 28 x 3 = 0 := by
    rw [ex, tN_nI (by omega)] at z3
    exact Classical.not_not.mp (fun w => z3 (Or.inr (fun q => w q.2)))
  have e9 : ∀ k i f', ¬ (k = 22 ∧ f' = 5) → ¬ (k = 29 ∧ i = p ∧ (f' = 3 ∨ f' = 4)) → nv (nU (nU (nU N 22 (tN (nv N 29 p 4) - 100) 5 (nv N 22 (tN (nv N 29 p 4) - 100) 5 - nv N 29 p 1)) 29 p 4 (nv N 29 p 5)) 29 p 3 2) k i f' = nv N k i f' := fun k i f' q1 q2 => by rw [nv_U (by omega), nv_U (by omega), nv_U (by omega)]
  have e8 : nv (nU (nU (nU N 22 (tN (nv N 29 p 4) - 100) 5 (nv N 22 (tN (nv N 29 p 4) - 100) 5 - nv N 29 p 1)) 29 p 4 (nv N 29 p 5)) 29 p 3 2) 29 p 4 = nI x := by rw [nv_U (by omega), nv_U_s, ex]
  obtain ⟨i1, i2, i3, i4, i5⟩ := I
  refine NI.mk (nIA.cg i1 (fun l => e9 22 l 1 (by omega) (by omega))) (nIQ.cg i2 (fun l => e9 22 l 2 (by omega) (by omega))) (fun s hs => ?_) (fun t ht => nAh.cg (i4 t ht) rfl (fun u => e9 28 u 1 (by omega) (by omega))) (nIH.cg i5 rfl (e9 20 0 1 (by omega) (by omega)) rfl (fun s => e9 28 s 9 (by omega) (by omega)))
  have hs' : s < nn N 28 := hs
  obtain ⟨c1, c2, c3, c4, c5⟩ := i3 s hs
  unfold nIS
  rw [e9 28 s 0 (by omega) (by omega), e9 28 s 2 (by omega) (by omega), e9 28 s 3 (by omega) (by omega), e9 28 s 4 (by omega) (by omega), e9 28 s 5 (by omega) (by omega)]
  refine ⟨c1, fun w => ⟨(c2 w).1, fun q hq => ?_⟩, c3, c4, fun w => ⟨fun q hq hz => ?_, fun t ht => by rw [e9 23 t 0 (by omega) (by omega), e9 23 t 1 (by omega) (by omega)]; exact (c5 w).2 t ht⟩⟩
  · by_cases yq : q = p
    · rw [yq, e8]
      intro y2
      have := (nI_eq (by omega) (by omega)).mp y2
      rw [← this, h0] at w
      exact absurd w (by decide)
    · rw [e9 29 q 4 (by omega) (by omega)]
      exact (c2 w).2 q hq
  · obtain ⟨r1, r2⟩ := (c5 w).1 q hq hz
    refine ⟨r1, ?_⟩
    by_cases yq : q = p
    · rw [yq] at r2
      rw [r2] at g1
      exact absurd (nI_lt (a := s) (b := 100) (by omega) (by omega)) g1
    · rw [e9 29 q 4 (by omega) (by omega)]
      exact r2
/-- hours -/
theorem NI.hour {N : mN} (I : NI N) {nt hr : Nat} (h1 : nv N 20 0 1 = nI nt) (h2 : nv N 20 0 2 = nI hr) (hh : hr ≤ 23) (hn : nt ≤ 99) : NI (nHour N) := by
  obtain ⟨nt', hr', qh, q2, q3, -⟩ := nHour_t h1 h2 hh
  have o := nHour_o (N := N)
  have e9 : ∀ k i f, ¬ (k = 20) → ¬ (k = 22 ∧ f = 3) → ¬ (k = 28 ∧ f = 8) → ¬ (k = 23 ∧ f = 5) → nv (nHour N) k i f = nv N k i f := fun k i f w1 w2 w3 w4 => by
    have e : nv (nHour N) k i f = nv (nHour1 N) k i f := nWa_v w4 _
    rw [e]
    unfold nHour1
    split
    · unfold nNight
      rw [nP0_v w3, nL0_v w2, nv_U (by omega), nv_U (by omega), nv_U (by omega)]
    · exact nv_U (by omega)
  obtain ⟨i1, i2, i3, i4, i5⟩ := I
  refine NI.mk (nIA.cg i1 (fun l => e9 22 l 1 (by omega) (by omega) (by omega) (by omega))) (nIQ.cg i2 (fun l => e9 22 l 2 (by omega) (by omega) (by omega) (by omega))) (fun s hs => ?_) (fun t ht => ?_) ?_
  · rw [o.1] at hs
    exact nIS.cg (i3 s hs) (fun f hf => e9 28 s f (by omega) (by omega) (by omega) (by omega)) (fun t f hf => e9 23 t f (by omega) (by omega) (by omega) (by omega)) (by rw [o.1]) (by rw [o.1]) (fun p _ => e9 29 p 4 (by omega) (by omega) (by omega) (by omega))
  · rw [o.1] at ht
    exact nAh.cg (i4 t ht) (by rw [o.2.1]) (fun u => e9 28 u 1 (by omega) (by omega) (by omega) (by omega))
  · unfold nIH
    rw [o.2.2, o.1]
    refine ⟨fun k hk => ⟨(i5.1 k hk).1, ?_⟩, i5.2.1, fun s hs u hu => by rw [e9 28 s 9 (by omega) (by omega) (by omega) (by omega)]; exact i5.2.2 s hs u hu⟩
    have := (i5.1 k hk).2
    rw [h1, tN_nI (by omega)] at this
    rw [q3, tN_nI (by omega)]
    omega
theorem NI.hours {N : mN} (I : NI N) {nt hr : Nat} (h1 : nv N 20 0 1 = nI nt) (h2 : nv N 20 0 2 = nI hr) (hh : hr ≤ 23) : ∀ j, 24 * nt + hr + j ≤ 2399 + 1 → NI (nHours j N) ∧ ∃ nt' hr', hr' ≤ 23 ∧ 24 * nt' + hr' = 24 * nt + hr + j ∧ nv (nHours j N) 20 0 1 = nI nt' ∧ nv (nHours j N) 20 0 2 = nI hr' := by
  intro j
  induction j with
  | zero => intro _; exact ⟨I, nt, hr, hh, by omega, h1, h2⟩
  | succ j ih =>
    intro hj
    obtain ⟨a, nt', hr', b1, b2, b3, b4⟩ := ih (by omega)
    refine ⟨a.hour b3 b4 b1 (by omega), ?_⟩
    obtain ⟨nt2, hr2, q1, q2, q3, q4⟩ := nHour_t b3 b4 b1
    exact ⟨nt2, hr2, q1, by omega, q3, q4⟩
theorem NI.pass {N N' : mN} (B : nB N) (I : NI N) {a k v : Int32} (e : fPass N a = (k, v, N')) : NI N' := by
  unfold fPass at e
  by_cases z1 : ¬ (¬ a < 1 ∧ a ≤ 48)
  · rw [if_pos z1] at e; cases e; exact I
  rw [if_neg z1] at e
  by_cases z2 : ¬ nv N 20 0 1 + (nv N 20 0 2 + a) / 24 ≤ 99
  · rw [if_pos z2] at e; cases e; exact I
  rw [if_neg z2] at e
  cases e
  obtain ⟨nt, hr, t1, t2, t3, t4⟩ := B.1
  have ha := Classical.not_not.mp z1
  have hz := Classical.not_not.mp z2
  obtain ⟨n, hn, ea⟩ := nI_rg (v := a) (n := 48) (by omega) (fun q => ha.1 (Int32.lt_trans q (by decide))) (Int32.not_lt.mpr ha.2)
  have ec : nv N 20 0 1 + (nv N 20 0 2 + a) / 24 = nI (nt + (hr + n) / 24) := by rw [t3, t4, ea, nI_add, show (24 : Int32) = nI 24 from rfl, pk_div (by omega) (by omega) (by omega), nI_add]
  have q' : nt + (hr + n) / 24 ≤ 99 := by
    rw [ec] at hz
    exact (nI_leI (by omega) (by omega)).mp (show nI (nt + (hr + n) / 24) ≤ nI 99 from hz)
  rw [ea, tN_nI (by omega)]
  exact (I.hours t3 t4 t2 n (by omega)).1
