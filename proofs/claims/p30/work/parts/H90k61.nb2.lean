/-! THE SIMULATION, 51: yawns and hours keep it, too -/
theorem nB.ld {N : mN} (B : nB N) {s a : Nat} (ha : a < 6) : nB (nU N 28 s 0 (nI a)) := by
  obtain ⟨b1, b2, b3, b4, b5, b6, b7, b8⟩ := B
  refine nB.mk (bT.cg b1 (nv_U (by omega)) (nv_U (by omega))) b2 (fun t ht => bG.cg (b3 t ht) (fun f _ => nv_U (by omega))) (fun s' hs => ?_) (fun p hp => bP.cg (b5 p hp) (Nat.le_refl _) (fun f _ => nv_U (by omega))) (fun t ht => bQ.cg (b6 t ht) rfl (Nat.le_refl _) (fun s f _ hf => nv_U (by omega))) (fun s hs => bE.cg (b7 s hs) (Nat.le_refl _) (fun t _ h => h) (fun f hf => nv_U (by omega))) (bH.cg b8 rfl (Nat.le_refl _))
  obtain ⟨c1, c2, c3⟩ := b4 s' hs
  unfold bS
  rw [show nv (nU N 28 s 0 (nI a)) 28 s' 4 = nv N 28 s' 4 from nv_U (by omega), show nv (nU N 28 s 0 (nI a)) 28 s' 8 = nv N 28 s' 8 from nv_U (by omega)]
  refine ⟨?_, c2, c3⟩
  by_cases w : s' = s
  · rw [w, nv_U_s]; exact ⟨a, ha, rfl⟩
  · rw [nv_U (by omega)]; exact c1
theorem nOut_n {N : mN} {s : Nat} {v : Int32} : nn (nOut N s v) = nn N := by
  unfold nOut
  split
  · exact (nGo_o (N := nOut1 N s v) _).1
  · rfl
theorem nTi1_n {N : mN} {u : Nat} : nn (nTi1 N u) = nn N := by
  unfold nTi1
  split
  · exact nOut_n
  · rfl
theorem nB.ti1 {N : mN} (B : nB N) {u : Nat} (hu : u < nn N 28) (h3 : nv N 28 u 3 = 1) : nB (nTi1 N u) := by
  have B1 : nB (nU N 28 u 2 (nv N 28 u 2 - 1)) := B.cg rfl rfl rfl (fun k i f w => nv_U (by omega))
  unfold nTi1
  split
  · exact B1.out hu ((nv_U (by omega)).trans h3) (by decide)
  · exact B1
theorem BI.ti {t : Nat} : ∀ (d : Nat) (N : mN), nB N → NI N → t < nn N 23 → nB (nTi t d N) ∧ NI (nTi t d N) := by
  intro d
  induction d with
  | zero => intro N B I _; exact ⟨B, I⟩
  | succ d ih =>
    intro N B I ht
    show nB (nTi t d (match (nq N t)[d]? with
      | some u => nTi1 N u
      | none => N)) ∧ NI (nTi t d (match (nq N t)[d]? with
      | some u => nTi1 N u
      | none => N))
    cases hx : (nq N t)[d]? with
    | none => exact ih N B I ht
    | some u =>
      obtain ⟨hu, h3, -⟩ := (B.2.2.2.2.2.1 t ht).2 u (List.mem_of_getElem? hx)
      exact ih (nTi1 N u) (B.ti1 hu h3) (NI.ti1 B I ht hx) (by rw [nTi1_n]; exact ht)
theorem nB.hide {N : mN} (B : nB N) {s : Nat} {dr : Int32} (hs : s < nn N 28) : nB (nHide N s dr) := by
  unfold nHide
  split
  · exact B
  · rename_i z
    have o := nLk_o (h := nh N) (nt := nv N 20 0 1) (dr := dr) (s := s) (N := N) ((nh N).length / 3)
    have B1 : nB (nLk (nh N) (nv N 20 0 1) dr s ((nh N).length / 3) N) := B.cg o.1 o.2.1 o.2.2.2 (fun k i f w => nLk_v (by omega) _)
    obtain ⟨b1, b2, b3, b4, b5, b6, b7, -⟩ := B1
    refine nB.mk b1 b2 b3 b4 b5 b6 b7 ?_
    obtain ⟨m, hm, hl, hv⟩ := B.2.2.2.2.2.2.2
    have e28 : nn (nH (nLk (nh N) (nv N 20 0 1) dr s ((nh N).length / 3) N) (nh N ++ [s] ++ [tN dr] ++ [tN (nv N 20 0 1)])) 28 = nn N 28 := congrFun o.1 28
    refine ⟨m + 1, by omega, ?_, fun j v hj => ?_⟩
    · show (nh N ++ [s] ++ [tN dr] ++ [tN (nv N 20 0 1)]).length = _
      rw [ap3_n]
      omega
    · rw [e28]
      have hj' : (nh N ++ [s] ++ [tN dr] ++ [tN (nv N 20 0 1)])[3 * j]? = some v := hj
      have hlt := (List.getElem?_eq_some_iff.mp hj').1
      rw [ap3_n] at hlt
      by_cases w : j = m
      · have a0 := ap3_r (l := nh N) (a := s) (b := tN dr) (c := tN (nv N 20 0 1)) (i := 0)
        rw [hl] at a0
        rw [w, show 3 * m = 3 * m + 0 from rfl, a0] at hj'
        have ev : s = v := Option.some.inj hj'
        rw [← ev]
        exact hs
      · rw [ap3_l (by omega)] at hj'
        exact hv j v hj'
theorem nB.bh {N : mN} (B : nB N) {s to : Nat} {sr : Int32} (hs : s < nn N 28) (hto : to < 6) : ∀ j, nB (nBh s to sr j (N, 0)).1 := by
  intro j
  induction j with
  | zero => exact B
  | succ j ih =>
    have eF := nBh_Fr (s := s) (to := to) (sr := sr) (p := (N, 0)) j
    have hs1 : s < nn (nBh s to sr j (N, 0)).1 28 := by rw [show nn (nBh s to sr j (N, 0)).1 28 = nn N 28 from congrFun eF.1 28]; exact hs
    have Bh := ih.hide (dr := nv (nBh s to sr j (N, 0)).1 29 j 0) hs1
    have hs2 : s < nn (nHide (nBh s to sr j (N, 0)).1 s (nv (nBh s to sr j (N, 0)).1 29 j 0)) 28 := by rw [nHide_o.1]; exact hs1
    show nB (nBh1 s to sr j (nBh s to sr j (N, 0))).1
    unfold nBh1
    split
    · split
      · exact Bh.fb hs2
      · have B2 : nB (nBa (nBh s to sr j (N, 0)).1 s j 3) := Bh.fb hs2
        exact (B2.at (p := j) (a := 100 + to) (Or.inr (Or.inl ⟨by omega, by omega⟩))).cg rfl rfl rfl (fun k i f w => nv_U (by omega))
    · exact ih
theorem nB.dl {N : mN} (B : nB N) {s to n : Nat} {ft : Nat → Int32} (hs : s < nn N 28) (hf : ∀ i, ¬ ft i = 3) : nB (nDl N s to ft n) := by
  obtain ⟨b1, b2, b3, b4, b5, b6, b7, b8⟩ := B
  have e9 : ∀ k i f, ¬ (k = 29 ∧ (f = 3 ∨ f = 4)) → nv (nDl N s to ft n) k i f = nv N k i f := fun k i f w => by
    by_cases z : k = 29
    · exact nDl_v3 (by omega)
    · exact nDl_v (fun q => z q.1)
  refine nB.mk (bT.cg b1 (e9 _ _ _ (by omega)) (e9 _ _ _ (by omega))) b2 (fun t ht => bG.cg (b3 t ht) (fun f _ => e9 _ _ _ (by omega))) (fun s' hs' => bS.cg (b4 s' hs') (Nat.le_refl _) (fun f _ => e9 _ _ _ (by omega))) (fun p hp => ?_) (fun t ht => bQ.cg (b6 t ht) rfl (Nat.le_refl _) (fun s f _ hf => e9 _ _ _ (by omega))) (fun s hs => bE.cg (b7 s hs) (Nat.le_refl _) (fun t _ h => h) (fun f hf => e9 _ _ _ (by omega))) (bH.cg b8 rfl (Nat.le_refl _))
  obtain ⟨la, hla, ela⟩ := (b4 s hs).1
  obtain ⟨c1, c2, c3, c4⟩ := b5 p hp
  by_cases c : p < n ∧ nDc N s p = true
  · unfold bP
    rw [e9 29 p 0 (by omega), e9 29 p 1 (by omega), e9 29 p 5 (by omega)]
    have e3 : ¬ nv (nDl N s to ft n) 29 p 3 = 3 := by
      show ¬ (if 29 = 29 ∧ p < n ∧ nDc N s p = true then (if nBk N s to p = true then (if 3 = 4 then 100 + nv N 28 s 0 else if 3 = 3 then 5 else nv N 29 p 3) else if 3 = 3 then ft p else nv N 29 p 3) else nv N 29 p 3) = 3
      rw [if_pos ⟨rfl, c⟩]
      split
      · rw [if_neg (by decide), if_pos rfl]
        decide
      · rw [if_pos rfl]
        exact hf p
    refine ⟨c1, c2, ?_, fun w => absurd w e3⟩
    cases q : nBk N s to p with
    | true =>
      rw [nDl_bk c.1 c.2 q, ela, nI_100]
      exact ⟨100 + la, rfl, Or.inr (Or.inl ⟨by omega, by omega⟩)⟩
    | false =>
      rw [nDl_in c.1 c.2 q]
      exact c3
  · have e : ∀ f, nv (nDl N s to ft n) 29 p f = nv N 29 p f := fun f => nDl_v (fun w => c w.2)
    exact bP.cg ⟨c1, c2, c3, c4⟩ (Nat.le_refl _) (fun f _ => e f)
theorem nB.come {N : mN} (B : nB N) {s t : Nat} (hs : s < nn N 28) (ht : t < nn N 23) : nB (nCome N s t).1 := by
  have hto : nTo N s t < 6 := by
    unfold nTo
    obtain ⟨⟨a, ha, ea⟩, ⟨b, hb', eb⟩⟩ := B.2.2.1 t ht
    split
    · rw [eb, tN_nI (by omega)]; exact hb'
    · rw [ea, tN_nI (by omega)]; exact ha
  have o := nDraw_o (N := N) (t := t)
  unfold nCome
  generalize nTo N s t = to at hto
  generalize nSr N t = sr
  have B1 : nB (nDraw N t) := B.cg o.1 o.2.1 o.2.2.2 (fun k i f w => nDraw_v (by omega))
  have hs1 : s < nn (nDraw N t) 28 := by rw [o.1]; exact hs
  have B2 := B1.bh (sr := sr) hs1 hto (nn (nDraw N t) 29)
  have eF := nBh_Fr (s := s) (to := to) (sr := sr) (p := (nDraw N t, 0)) (nn (nDraw N t) 29)
  have hs2 : s < nn (nBh s to sr (nn (nDraw N t) 29) (nDraw N t, 0)).1 28 := by rw [show nn (nBh s to sr (nn (nDraw N t) 29) (nDraw N t, 0)).1 28 = nn (nDraw N t) 28 from congrFun eF.1 28]; exact hs1
  have B3 := B2.dl (to := to) (n := nn (nDraw N t) 29) (ft := fun _ => if nv (nBh s to sr (nn (nDraw N t) 29) (nDraw N t, 0)).1 22 to 1 < (nCi (nBh s to sr (nn (nDraw N t) 29) (nDraw N t, 0)).1 s to (nn (nDraw N t) 29)).2 then 1 else 2) hs2 (fun i => by
    show ¬ (if _ then (1 : Int32) else 2) = 3
    split <;> decide)
  have B4 : nB (nCd (nBh s to sr (nn (nDraw N t) 29) (nDraw N t, 0)).1 s to (nn (nDraw N t) 29)) := B3.cg rfl rfl rfl (fun k i f w => (nv_U (by omega)).trans (nv_U (by omega)))
  exact (B4.ld (s := s) hto).ps (Or.inl rfl)
theorem BI.yawn {N N' : mN} (B : nB N) (I : NI N) {a k v : Int32} (e : fYawn N a = (k, v, N')) : nB N' ∧ NI N' := by
  unfold fYawn at e
  by_cases z1 : ¬ (¬ a < 0 ∧ a < nI (nn N 23))
  · rw [if_pos z1] at e; cases e; exact ⟨B, I⟩
  rw [if_neg z1] at e
  by_cases z2 : nv N 23 (tN a) 3 ≤ m_rem ((nv N 20 0 2 - nv N 23 (tN a) 2) + 24) 24 ∨ (nq N (tN a)).length = 0
  · rw [if_pos z2] at e; cases e; exact ⟨B, I⟩
  rw [if_neg z2] at e
  cases e
  have hb := B.2.1
  have ha := Classical.not_not.mp z1
  obtain ⟨t, ht31, et⟩ := nI_of ha.1
  have ht : t < nn N 23 := (nI_ltI ht31 (by omega)).mp (by rw [← et]; exact ha.2)
  have tt : tN a = t := by rw [et, tN_nI (by omega)]
  rw [tt] at z2 ⊢
  obtain ⟨s, rest, el⟩ : ∃ s rest, nq N t = s :: rest := by
    cases h : nq N t with
    | nil => exact absurd (Or.inr (by rw [h]; rfl)) z2
    | cons s rest => exact ⟨s, rest, rfl⟩
  have hj : (nq N t)[0]? = some s := by rw [el]; rfl
  rw [show (nq N t).headD 0 = s from by rw [el]; rfl]
  obtain ⟨hnd, hmem⟩ := B.2.2.2.2.2.1 t ht
  obtain ⟨hs, h3, h4⟩ := hmem s (List.mem_of_getElem? hj)
  have B1 : nB (nU N 20 0 5 (nv N 20 0 5 + 1)) := B.cg rfl rfl rfl (fun k i f w => nv_U (by omega))
  have I1 : NI (nU N 20 0 5 (nv N 20 0 5 + 1)) := by
    obtain ⟨i1, i2, i3, i4, i5⟩ := I
    exact NI.mk (nIA.cg i1 (fun l => nv_U (by omega))) (nIQ.cg i2 (fun l => nv_U (by omega))) (fun s hs => nIS.cg (i3 s hs) (fun f _ => nv_U (by omega)) (fun t f _ => nv_U (by omega)) rfl rfl (fun p _ => nv_U (by omega))) (fun t ht => nAh.cg (i4 t ht) rfl (fun u => nv_U (by omega))) (nIH.cg i5 rfl (nv_U (by omega)) rfl (fun s => nv_U (by omega)))
  have h31 : nv (nU N 20 0 5 (nv N 20 0 5 + 1)) 28 s 3 = 1 := (nv_U (by omega)).trans h3
  have h41 : nv (nU N 20 0 5 (nv N 20 0 5 + 1)) 28 s 4 = nI t := (nv_U (by omega)).trans h4
  have eo := nOut0 (N := nU N 20 0 5 (nv N 20 0 5 + 1)) h41 (by omega) hnd hj
  have B2 : nB (nOut (nU N 20 0 5 (nv N 20 0 5 + 1)) s 0) := B1.out hs h31 (by decide)
  have I2 : NI (nOut (nU N 20 0 5 (nv N 20 0 5 + 1)) s 0) := by
    rw [eo]
    exact NI.out I1 (by omega) h31 hs
  have h02 : nv (nOut (nU N 20 0 5 (nv N 20 0 5 + 1)) s 0) 28 s 3 = 0 := by
    rw [eo, nv_U (by omega), nv_U_s]
  have n2 : nn (nOut (nU N 20 0 5 (nv N 20 0 5 + 1)) s 0) = nn N := nOut_n
  have P : nB (nYw N s t).1 ∧ NI (nYw N s t).1 ∧ nn (nYw N s t).1 = nn N := by
    unfold nYw
    split
    · exact ⟨B2.come (by rw [n2]; exact hs) (by rw [n2]; exact ht), NI.come B2 I2 (by rw [n2]; exact hs) (by rw [n2]; exact ht) h02, nCome_n.trans n2⟩
    · exact ⟨B2, I2, n2⟩
  exact BI.ti _ _ P.1 P.2.1 (by rw [P.2.2]; exact ht)
theorem nP0_8 {N : mN} {s : Nat} : ∀ j, nv (nP0 j N) 28 s 8 = nv N 28 s 8 ∨ nv (nP0 j N) 28 s 8 = -1 := by
  intro j
  induction j with
  | zero => exact Or.inl rfl
  | succ j ih =>
    unfold nP0
    split
    · by_cases w : s = j
      · rw [w, nv_U_s]; exact Or.inr rfl
      · rw [nv_U (by omega)]; exact ih
    · exact ih
theorem nB.hour {N : mN} (B : nB N) {nt hr : Nat} (h1 : nv N 20 0 1 = nI nt) (h2 : nv N 20 0 2 = nI hr) (hh : hr ≤ 23) (hn : 24 * nt + hr + 1 ≤ 2399) : nB (nHour N) := by
  obtain ⟨nt', hr', qh, q2, q3, q4⟩ := nHour_t h1 h2 hh
  have o := nHour_o (N := N)
  have e9 : ∀ k i f, ¬ (k = 20) → ¬ (k = 22 ∧ f = 3) → ¬ (k = 28 ∧ f = 8) → ¬ (k = 23 ∧ f = 5) → nv (nHour N) k i f = nv N k i f := fun k i f w1 w2 w3 w4 => by
    have e : nv (nHour N) k i f = nv (nHour1 N) k i f := nWa_v w4 _
    rw [e]
    unfold nHour1
    split
    · unfold nNight
      rw [nP0_v w3, nL0_v w2, nv_U (by omega), nv_U (by omega), nv_U (by omega)]
    · exact nv_U (by omega)
  have e8 : ∀ s, nv (nHour N) 28 s 8 = nv N 28 s 8 ∨ nv (nHour N) 28 s 8 = -1 := fun s => by
    have e : nv (nHour N) 28 s 8 = nv (nHour1 N) 28 s 8 := nWa_v (by omega) _
    rw [e]
    unfold nHour1
    split
    · unfold nNight
      rcases nP0_8 (N := nL0 6 (nU (nU (nU N 20 0 2 (nv N 20 0 2 + 1)) 20 0 2 0) 20 0 1 (nv (nU N 20 0 2 (nv N 20 0 2 + 1)) 20 0 1 + 1))) (s := s) (nn (nU N 20 0 2 (nv N 20 0 2 + 1)) 28) with q | q
      · left
        rw [q, nL0_v (by omega), nv_U (by omega), nv_U (by omega), nv_U (by omega)]
      · exact Or.inr q
    · exact Or.inl (nv_U (by omega))
  obtain ⟨b1, b2, b3, b4, b5, b6, b7, b8⟩ := B
  refine nB.mk ⟨nt', hr', by omega, qh, q3, q4⟩ (by unfold bC; rw [o.1]; exact b2) (fun t ht => bG.cg (b3 t (by rw [← o.1]; exact ht)) (fun f _ => e9 _ _ _ (by omega) (by omega) (by omega) (by omega))) (fun s hs => ?_) (fun p hp => bP.cg (b5 p (by rw [← o.1]; exact hp)) (by rw [o.1]; exact Nat.le_refl _) (fun f _ => e9 _ _ _ (by omega) (by omega) (by omega) (by omega))) (fun t ht => bQ.cg (b6 t (by rw [← o.1]; exact ht)) (by rw [o.2.1]) (by rw [o.1]; exact Nat.le_refl _) (fun s f _ _ => e9 _ _ _ (by omega) (by omega) (by omega) (by omega))) (fun s hs => bE.cg (b7 s (by rw [← o.1]; exact hs)) (by rw [o.1]; exact Nat.le_refl _) (fun t _ h => by rw [o.2.1]; exact h) (fun f _ => e9 _ _ _ (by omega) (by omega) (by omega) (by omega))) (bH.cg b8 o.2.2 (by rw [o.1]; exact Nat.le_refl _))
  rw [o.1] at hs
  obtain ⟨c1, c2, c3⟩ := b4 s hs
  unfold bS
  rw [e9 28 s 0 (by omega) (by omega) (by omega) (by omega), e9 28 s 4 (by omega) (by omega) (by omega) (by omega), o.1]
  refine ⟨c1, c2, ?_⟩
  rcases e8 s with q | q
  · rw [q]; exact c3
  · exact Or.inl q
theorem nB.hours {N : mN} (B : nB N) {nt hr : Nat} (h1 : nv N 20 0 1 = nI nt) (h2 : nv N 20 0 2 = nI hr) (hh : hr ≤ 23) : ∀ j, 24 * nt + hr + j ≤ 2399 → nB (nHours j N) ∧ ∃ nt' hr', hr' ≤ 23 ∧ 24 * nt' + hr' = 24 * nt + hr + j ∧ nv (nHours j N) 20 0 1 = nI nt' ∧ nv (nHours j N) 20 0 2 = nI hr' := by
  intro j
  induction j with
  | zero => intro _; exact ⟨B, nt, hr, hh, by omega, h1, h2⟩
  | succ j ih =>
    intro hj
    obtain ⟨a, nt', hr', b1, b2, b3, b4⟩ := ih (by omega)
    refine ⟨a.hour b3 b4 b1 (by omega), ?_⟩
    obtain ⟨nt2, hr2, q1, q2, q3, q4⟩ := nHour_t b3 b4 b1
    exact ⟨nt2, hr2, q1, by omega, q3, q4⟩
theorem nB.pass {N N' : mN} (B : nB N) {a k v : Int32} (e : fPass N a = (k, v, N')) : nB N' := by
  unfold fPass at e
  by_cases z1 : ¬ (¬ a < 1 ∧ a ≤ 48)
  · rw [if_pos z1] at e; cases e; exact B
  rw [if_neg z1] at e
  by_cases z2 : ¬ nv N 20 0 1 + (nv N 20 0 2 + a) / 24 ≤ 99
  · rw [if_pos z2] at e; cases e; exact B
  rw [if_neg z2] at e
  cases e
  obtain ⟨nt, hr, t1, t2, t3, t4⟩ := B.1
  have ha := Classical.not_not.mp z1
  have hz := Classical.not_not.mp z2
  obtain ⟨n, hn, ea⟩ := nI_rg (v := a) (n := 48) (by omega) (fun q => ha.1 (Int32.lt_trans q (by decide))) (Int32.not_lt.mpr ha.2)
  have ec : nv N 20 0 1 + (nv N 20 0 2 + a) / 24 = nI (nt + (hr + n) / 24) := by rw [t3, t4, ea, nI_add, show (24 : Int32) = nI 24 from rfl, pk_div (by omega) (by omega) (by omega), nI_add]
  have q' : nt + (hr + n) / 24 ≤ 99 := by
    rw [ec] at hz
    exact (nI_leI (by omega) (by omega)).mp (show nI (nt + (hr + n) / 24) ≤ nI 99 from hz)
  rw [ea, tN_nI (by omega)]
  exact (B.hours t3 t4 t2 n (by omega)).1
