/-! THE PROPERTY, 2: yawns and hours -/
theorem nG.ti1 {k : Nat} {N : mN} (G : nG k N) {u : Nat} (hu : u < 12) : nG k (nTi1 N u) ∧ nSt N (nTi1 N u) := by
  have G1 : nG k (nU N 28 u 2 (nv N 28 u 2 - 1)) ∧ nSt N (nU N 28 u 2 (nv N 28 u 2 - 1)) := ⟨G.cg rfl (fun k i f w => nv_U (by omega)), nSt.cg rfl rfl (fun k i f w => nv_U (by omega))⟩
  unfold nTi1
  split
  · have P := G1.1.out hu (v := 2) (Or.inr rfl)
    exact ⟨P.1, G1.2.tr P.2⟩
  · exact G1
theorem nG.ti {k t : Nat} : ∀ (d : Nat) (N : mN), nB N → NI N → nG k N → t < nn N 23 → nG k (nTi t d N) ∧ nSt N (nTi t d N) := by
  intro d
  induction d with
  | zero => intro N _ _ G _; exact ⟨G, nSt.rf N⟩
  | succ d ih =>
    intro N B I G ht
    show nG k (nTi t d (match (nq N t)[d]? with
      | some u => nTi1 N u
      | none => N)) ∧ nSt N (nTi t d (match (nq N t)[d]? with
      | some u => nTi1 N u
      | none => N))
    cases hx : (nq N t)[d]? with
    | none => exact ih N B I G ht
    | some u =>
      obtain ⟨hu, h3, -⟩ := (B.2.2.2.2.2.1 t ht).2 u (List.mem_of_getElem? hx)
      have hb := B.2.1
      have P := G.ti1 (u := u) (by omega)
      have P2 := ih (nTi1 N u) (B.ti1 hu h3) (NI.ti1 B I ht hx) P.1 (by rw [nTi1_n]; exact ht)
      exact ⟨P2.1, P.2.tr P2.2⟩
theorem nHide_l {N : mN} {s : Nat} {dr : Int32} : (nh N).length ≤ (nh (nHide N s dr)).length := by
  unfold nHide
  split
  · exact Nat.le_refl _
  · show (nh N).length ≤ (nh N ++ [s] ++ [tN dr] ++ [tN (nv N 20 0 1)]).length
    rw [ap3_n]
    omega
/-- one part more that is hidden: brought -/
theorem nG.bh1 {k : Nat} {N : mN} (B : nB N) (G : nG k N) {s to j : Nat} {sr c : Int32} (hs : s < 12) (hto : to < 6) (hj : j < nn N 29) : nG k (nBh1 s to sr j (N, c)).1 ∧ nSt N (nBh1 s to sr j (N, c)).1 := by
  unfold nBh1
  by_cases z : nHn N s j = true
  · rw [if_pos z]
    have hat := (nHn_i.mp z).1
    have oh := nHide_o (N := N) (s := s) (dr := nv N 29 j 0)
    have ol := nHide_l (N := N) (s := s) (dr := nv N 29 j 0)
    have evh : ∀ k i f, ¬ (k = 28 ∧ f = 9) → nv (nHide N s (nv N 29 j 0)) k i f = nv N k i f := fun k i f w => nHide_v w
    obtain ⟨h1, h2, h3, h4, h5, h6⟩ := G
    have hno : ¬ nv N 29 j 3 = 3 := fun w => by
      obtain ⟨l, hl, el⟩ := h5 j hj w
      exact at_hl hs hl (hat.symm.trans el)
    obtain ⟨w0, hw0, ew0⟩ := (B.2.2.2.2.1 j hj).2.1
    split
    · show nG k (nBa N s j 4) ∧ nSt N (nBa N s j 4)
      have e9 : ∀ k i f, ¬ (k = 28 ∧ f = 9) → ¬ (k = 29 ∧ i = j ∧ (f = 3 ∨ f = 5)) → nv (nBa N s j 4) k i f = nv N k i f := fun k i f w w2 => (nv_U (by omega)).trans ((nv_U (by omega)).trans (evh k i f w))
      have x3 : nv (nBa N s j 4) 29 j 3 = 4 := by unfold nBa; rw [nv_U (by omega), nv_U_s]
      have hn : nn (nBa N s j 4) = nn N := oh.1
      have hl : (nh N).length ≤ (nh (nBa N s j 4)).length := ol
      generalize nBa N s j 4 = N2 at e9 x3 hn hl ⊢
      refine ⟨⟨fun l hl => ?_, fun l hl => ?_, fun l hl => ?_, fun l hl => ?_, fun q hq w => ?_, ?_⟩, hn, fun q f hf => e9 29 q f (by omega) (by omega), fun q hq w => ?_, fun u hu w => ?_, hl, ?_, fun l hl => ?_, ?_⟩
      · rw [e9 22 l 0 (by omega) (by omega)]; exact h1 l hl
      · rw [e9 22 l 3 (by omega) (by omega)]; exact h2 l hl
      · rw [e9 22 l 4 (by omega) (by omega)]; exact h3 l hl
      · rw [e9 22 l 5 (by omega) (by omega), h4 l hl, hn]
        refine congrArg nI (nFn_eq (nn N 29) (fun i _ => ?_)).symm
        by_cases q : i = j
        · rw [q, cF_0 (N := N2) (fun w => by rw [x3] at w; exact absurd w.1 (by decide)), cF_0 (N := N) (fun w => hno w.1)]
        · exact cF_cg (e9 29 i 1 (by omega) (by omega)) (e9 29 i 3 (by omega) (by omega)) (e9 29 i 4 (by omega) (by omega))
      · have q9 : q ≠ j := fun z => by rw [z, x3] at w; exact absurd w (by decide)
        rw [e9 29 q 3 (by omega) (by omega)] at w
        rw [e9 29 q 4 (by omega) (by omega)]
        exact h5 q (by rw [← hn]; exact hq) w
      · unfold gW; rw [e9 20 0 4 (by omega) (by omega)]; exact h6
      · rw [e9 29 q 4 (by omega) (by omega)]; exact w
      · rw [e9 28 u 3 (by omega) (by omega)]; exact w
      · rw [e9 20 0 4 (by omega) (by omega)]; exact Nat.le_refl _
      · rw [e9 22 l 4 (by omega) (by omega)]; exact Nat.le_refl _
      · rw [e9 20 0 1 (by omega) (by omega), e9 20 0 2 (by omega) (by omega)]; exact Nat.le_refl _
    · show nG k (nBb N s to j) ∧ nSt N (nBb N s to j)
      have e9 : ∀ k i f, ¬ (k = 28 ∧ f = 9) → ¬ (k = 29 ∧ i = j ∧ (f = 3 ∨ f = 4 ∨ f = 5)) → ¬ (k = 22 ∧ i = to ∧ f = 5) → nv (nBb N s to j) k i f = nv N k i f := fun k i f w w2 w3 => (nv_U (by omega)).trans ((nv_U (by omega)).trans ((nv_U (by omega)).trans ((nv_U (by omega)).trans (evh k i f w))))
      have x3 : nv (nBb N s to j) 29 j 3 = 3 := by unfold nBb nBa; rw [nv_U (by omega), nv_U (by omega), nv_U (by omega), nv_U_s]
      have x4 : nv (nBb N s to j) 29 j 4 = nI (100 + to) := by unfold nBb; rw [nv_U (by omega), nv_U_s]
      have x5 : nv (nBb N s to j) 22 to 5 = nv N 22 to 5 + nv N 29 j 1 := by
        unfold nBb nBa
        exact nv_U_s
      have hn : nn (nBb N s to j) = nn N := oh.1
      have hl : (nh N).length ≤ (nh (nBb N s to j)).length := ol
      generalize nBb N s to j = N2 at e9 x3 x4 x5 hn hl ⊢
      refine ⟨⟨fun l hl => ?_, fun l hl => ?_, fun l hl => ?_, fun l hl => ?_, fun q hq w => ?_, ?_⟩, hn, fun q f hf => e9 29 q f (by omega) (by omega) (by omega), fun q hq w => ?_, fun u hu w => ?_, hl, ?_, fun l hl => ?_, ?_⟩
      · rw [e9 22 l 0 (by omega) (by omega) (by omega)]; exact h1 l hl
      · rw [e9 22 l 3 (by omega) (by omega) (by omega)]; exact h2 l hl
      · rw [e9 22 l 4 (by omega) (by omega) (by omega)]; exact h3 l hl
      · have one := nFn_one (N := N) (N' := N2) (l := l) (j := j) (nn N 29) hj (fun i _ hn => cF_cg (e9 29 i 1 (by omega) (by omega) (by omega)) (e9 29 i 3 (by omega) (by omega) (by omega)) (e9 29 i 4 (by omega) (by omega) (by omega)))
        rw [cF_0 (N := N) (fun w => hno w.1)] at one
        rw [hn]
        by_cases q : l = to
        · subst q
          have ec : cF N2 l j = w0 := by
            unfold cF
            rw [if_pos ⟨x3, x4⟩, e9 29 j 1 (by omega) (by omega) (by omega), ew0, tN_nI (by omega)]
          rw [ec] at one
          rw [x5, h4 l hl, ew0, nI_add]
          exact congrArg nI (by omega)
        · have ec : cF N2 l j = 0 := cF_0 (fun w => by
            rw [x4] at w
            have := (nI_eq (by omega) (by omega)).mp w.2
            omega)
          rw [ec] at one
          rw [e9 22 l 5 (by omega) (by omega) (by omega), h4 l hl]
          exact congrArg nI (by omega)
      · by_cases q9 : q = j
        · rw [q9]; exact ⟨to, hto, x4⟩
        · rw [e9 29 q 3 (by omega) (by omega) (by omega)] at w
          rw [e9 29 q 4 (by omega) (by omega) (by omega)]
          exact h5 q (by rw [← hn]; exact hq) w
      · unfold gW; rw [e9 20 0 4 (by omega) (by omega) (by omega)]; exact h6
      · have q9 : q ≠ j := fun z => by
          rw [z, hat] at w
          exact at_9s hs w.symm
        rw [e9 29 q 4 (by omega) (by omega) (by omega)]; exact w
      · rw [e9 28 u 3 (by omega) (by omega) (by omega)]; exact w
      · rw [e9 20 0 4 (by omega) (by omega) (by omega)]; exact Nat.le_refl _
      · rw [e9 22 l 4 (by omega) (by omega) (by omega)]; exact Nat.le_refl _
      · rw [e9 20 0 1 (by omega) (by omega) (by omega), e9 20 0 2 (by omega) (by omega) (by omega)]; exact Nat.le_refl _
  · rw [if_neg z]
    exact ⟨G, nSt.rf N⟩
theorem nG.bh {k : Nat} {N : mN} (B : nB N) (G : nG k N) {s to : Nat} {sr : Int32} (hs : s < nn N 28) (hto : to < 6) : ∀ j, j ≤ nn N 29 → nG k (nBh s to sr j (N, 0)).1 ∧ nSt N (nBh s to sr j (N, 0)).1 := by
  have hb := B.2.1
  intro j
  induction j with
  | zero => intro _; exact ⟨G, nSt.rf N⟩
  | succ j ih =>
    intro hj
    have P := ih (by omega)
    have Bj := B.bh (sr := sr) hs hto j
    have P2 := nG.bh1 (s := s) (to := to) (j := j) (sr := sr) (c := (nBh s to sr j (N, 0)).2) Bj P.1 (by omega) hto (by rw [P.2.1]; omega)
    exact ⟨P2.1, P.2.tr P2.2⟩
/-- what comes in, in bounds -/
theorem nCiB {N : mN} {s to a q : Nat} (ha : a ≤ 30) (hq : q ≤ 30) (e3 : nv N 22 to 3 = nI a) (e2 : nv N 22 to 2 = nI q) : ∀ n, (∀ j, j < n → ∃ a, a ≤ 99 ∧ nv N 29 j 1 = nI a) → ∃ c w, c ≤ 30 ∧ w ≤ 99 * n ∧ nCi N s to n = (nI c, nI w) := by
  intro n
  induction n with
  | zero => intro _; exact ⟨a, 0, ha, by omega, by show (nv N 22 to 3, (0 : Int32)) = _; rw [e3]; rfl⟩
  | succ n ih =>
    intro hw
    obtain ⟨c, w, hc, hwb, e⟩ := ih (fun j hj => hw j (by omega))
    unfold nCi
    split
    · rename_i z
      obtain ⟨x, hx, ex⟩ := hw n (by omega)
      rw [e, ex] at *
      by_cases z2 : nv N 29 n 2 < 5
      · rw [if_pos z2]
        refine ⟨c, w + x, hc, by omega, ?_⟩
        show (nI c + 0, nI w + nI x) = _
        rw [nI_add, Int32.add_zero]
      · rw [if_neg z2]
        have hlt : nI c < nI q := by
          have := z.2
          rw [e2] at this
          exact Classical.not_not.mp (fun r => this ⟨z2, r⟩)
        have hlt' : c < q := (nI_ltI (by omega) (by omega)).mp hlt
        refine ⟨c + 1, w + x, by omega, by omega, ?_⟩
        show (nI c + 1, nI w + nI x) = _
        rw [nI_add, nI_1]
    · rw [e]
      exact ⟨c, w, hc, by omega, rfl⟩
theorem nDuty_b {N : mN} {to w al r : Nat} (hw : w ≤ 2376) (hal : al ≤ 99) (hr : r ≤ 50) (e1 : nv N 22 to 1 = nI al) (e0 : nv N 22 to 0 = nI r) : ∃ d, d ≤ 1200 ∧ nDuty N to (nI w) = nI d := by
  unfold nDuty
  rw [e1, e0]
  split
  · rename_i z
    have hlt : al < w := (nI_ltI (by omega) (by omega)).mp z
    have hm : (w - al) * r ≤ 2376 * 50 := Nat.mul_le_mul (by omega) hr
    rw [pk_sub (by omega), pk_mul, show (100 : Int32) = nI 100 from rfl, pk_div (by omega) (by omega) (by omega)]
    exact ⟨(w - al) * r / 100, by omega, rfl⟩
  · exact ⟨0, by omega, rfl⟩
theorem nG.dl {k : Nat} {N : mN} (G : nG k N) {s to n : Nat} {ft : Nat → Int32} (hs : s < 12) (hf : ∀ i, ¬ ft i = 3) {la : Nat} (hla : la < 6) (ela : nv N 28 s 0 = nI la) : nG k (nDl N s to ft n) ∧ nSt N (nDl N s to ft n) := by
  have e9 : ∀ k i f, ¬ (k = 29 ∧ (f = 3 ∨ f = 4)) → nv (nDl N s to ft n) k i f = nv N k i f := fun k i f w => by
    by_cases z : k = 29
    · exact nDl_v3 (by omega)
    · exact nDl_v (fun q => z q.1)
  have e3 : ∀ i, i < n → nDc N s i = true → ¬ nv (nDl N s to ft n) 29 i 3 = 3 := fun i hi hd => by
    show ¬ (if 29 = 29 ∧ i < n ∧ nDc N s i = true then (if nBk N s to i = true then (if 3 = 4 then 100 + nv N 28 s 0 else if 3 = 3 then 5 else nv N 29 i 3) else if 3 = 3 then ft i else nv N 29 i 3) else nv N 29 i 3) = 3
    rw [if_pos ⟨rfl, hi, hd⟩]
    split
    · rw [if_neg (by decide), if_pos rfl]
      decide
    · rw [if_pos rfl]
      exact hf i
  have eo : ∀ i f, ¬ (i < n ∧ nDc N s i = true) → nv (nDl N s to ft n) 29 i f = nv N 29 i f := fun i f h => nDl_v (fun w => h w.2)
  have hc : ∀ l, l < 6 → ∀ j, cF (nDl N s to ft n) l j = cF N l j := fun l hl j => by
    by_cases z : j < n ∧ nDc N s j = true
    · rw [cF_0 (N := nDl N s to ft n) (fun w => e3 j z.1 z.2 w.1), cF_0 (N := N) (fun w => by rw [(nDc_i.mp z.2).1] at w; exact at_hl hs hl w.2)]
    · exact cF_cg (eo j 1 z) (eo j 3 z) (eo j 4 z)
  obtain ⟨h1, h2, h3, h4, h5, h6⟩ := G
  have hn : nn (nDl N s to ft n) = nn N := rfl
  have hh : nh (nDl N s to ft n) = nh N := rfl
  refine ⟨⟨fun l hl => ?_, fun l hl => ?_, fun l hl => ?_, fun l hl => ?_, fun q hq w => ?_, ?_⟩, hn, fun q f hf => e9 29 q f (by omega), fun q hq w => ?_, fun u hu w => ?_, by rw [hh]; exact Nat.le_refl _, ?_, fun l hl => ?_, ?_⟩
  · rw [e9 22 l 0 (by omega)]; exact h1 l hl
  · rw [e9 22 l 3 (by omega)]; exact h2 l hl
  · rw [e9 22 l 4 (by omega)]; exact h3 l hl
  · rw [e9 22 l 5 (by omega), h4 l hl, hn, nFn_eq (nn N 29) (fun j _ => hc l hl j)]
  · have z : ¬ (q < n ∧ nDc N s q = true) := fun z => e3 q z.1 z.2 w
    rw [eo q 3 z] at w
    rw [eo q 4 z]
    exact h5 q hq w
  · unfold gW; rw [e9 20 0 4 (by omega)]; exact h6
  · have z : ¬ (q < n ∧ nDc N s q = true) := fun z => by
      rw [(nDc_i.mp z.2).1] at w
      exact at_9s hs w.symm
    rw [eo q 4 z]
    exact w
  · rw [e9 28 u 3 (by omega)]; exact w
  · rw [e9 20 0 4 (by omega)]; exact Nat.le_refl _
  · rw [e9 22 l 4 (by omega)]; exact Nat.le_refl _
  · rw [e9 20 0 1 (by omega), e9 20 0 2 (by omega)]; exact Nat.le_refl _
/-- all that is declared -/
theorem nG.cd {k : Nat} {N : mN} (hk : k ≤ 1000) (B : nB N) (I1 : nIA N) (I2 : nIQ N) (G : nG k N) {s to : Nat} (hs : s < nn N 28) (hto : to < 6) : nG (k + 1) (nCd N s to (nn N 29)) ∧ nSt N (nCd N s to (nn N 29)) := by
  have hb := B.2.1
  obtain ⟨la, hla, ela⟩ := (B.2.2.2.1 s hs).1
  obtain ⟨al, hal, eal⟩ := I1 to hto
  obtain ⟨qf, hqf, hq30⟩ := I2
  have hq : qf to ≤ 30 := by
    rcases (show to = 0 ∨ to = 1 ∨ to = 2 ∨ to = 3 ∨ to = 4 ∨ to = 5 by omega) with rfl | rfl | rfl | rfl | rfl | rfl <;> omega
  have hw : ∀ j, j < nn N 29 → ∃ a, a ≤ 99 ∧ nv N 29 j 1 = nI a := fun j hj => (B.2.2.2.2.1 j hj).2.1
  obtain ⟨ca, hca, eca⟩ := G.2.1 to hto
  obtain ⟨rr, hrr, err⟩ := G.1 to hto
  obtain ⟨c, w, hc, hwb, eci⟩ := nCiB (s := s) hca hq eca (hqf to hto) (nn N 29) hw
  obtain ⟨d, hd, ed⟩ := nDuty_b (w := w) (by omega) hal hrr eal err
  have P := G.dl (to := to) (n := nn N 29) (ft := fun _ => if nv N 22 to 1 < (nCi N s to (nn N 29)).2 then 1 else 2) (by omega) (fun i => by
    show ¬ (if _ then (1 : Int32) else 2) = 3
    split <;> decide) hla ela
  have e34 : nv (nDl N s to (fun _ => if nv N 22 to 1 < (nCi N s to (nn N 29)).2 then 1 else 2) (nn N 29)) 22 to 4 = nv N 22 to 4 := nDl_v (fun w => absurd w.1 (by omega))
  unfold nCd
  rw [eci] at P e34 ⊢
  show nG (k + 1) (nU (nU (nDl N s to (fun _ => if nv N 22 to 1 < nI w then 1 else 2) (nn N 29)) 22 to 3 (nI c)) 22 to 4 (nv N 22 to 4 + nDuty N to (nI w))) ∧ nSt N (nU (nU (nDl N s to (fun _ => if nv N 22 to 1 < nI w then 1 else 2) (nn N 29)) 22 to 3 (nI c)) 22 to 4 (nv N 22 to 4 + nDuty N to (nI w)))
  rw [ed]
  have P : nG k (nDl N s to (fun _ => if nv N 22 to 1 < nI w then 1 else 2) (nn N 29)) ∧ nSt N (nDl N s to (fun _ => if nv N 22 to 1 < nI w then 1 else 2) (nn N 29)) := P
  have e34 : nv (nDl N s to (fun _ => if nv N 22 to 1 < nI w then 1 else 2) (nn N 29)) 22 to 4 = nv N 22 to 4 := e34
  generalize nDl N s to (fun _ => if nv N 22 to 1 < nI w then 1 else 2) (nn N 29) = N1 at P e34 ⊢
  obtain ⟨⟨h1, h2, h3, h4, h5, x, hx, ex⟩, S1⟩ := P
  have e9 : ∀ k i f, ¬ (k = 22 ∧ i = to ∧ (f = 3 ∨ f = 4)) → nv (nU (nU N1 22 to 3 (nI c)) 22 to 4 (nv N 22 to 4 + nI d)) k i f = nv N1 k i f := fun k i f w => (nv_U (by omega)).trans (nv_U (by omega))
  obtain ⟨dd, hdd, edd⟩ := h3 to hto
  have e4 : nv (nU (nU N1 22 to 3 (nI c)) 22 to 4 (nv N 22 to 4 + nI d)) 22 to 4 = nI (dd + d) := by rw [nv_U_s, ← e34, edd, nI_add]
  refine ⟨⟨fun l hl => ?_, fun l hl => ?_, fun l hl => ?_, fun l hl => ?_, fun q hq w => ?_, x, by omega, ?_⟩, S1.tr ⟨rfl, fun q f hf => e9 29 q f (by omega), fun q hq w => ?_, fun u hu w => ?_, Nat.le_refl _, ?_, fun l hl => ?_, ?_⟩⟩
  · rw [e9 22 l 0 (by omega)]; exact h1 l hl
  · rw [nv_U (by omega)]
    by_cases z : l = to
    · rw [z, nv_U_s]; exact ⟨c, hc, rfl⟩
    · rw [nv_U (by omega)]; exact h2 l hl
  · by_cases z : l = to
    · rw [z, e4]; exact ⟨dd + d, by omega, rfl⟩
    · rw [e9 22 l 4 (by omega)]
      obtain ⟨y, hy, ey⟩ := h3 l hl
      exact ⟨y, by omega, ey⟩
  · rw [e9 22 l 5 (by omega), h4 l hl]
    exact congrArg nI (nFn_eq (nn N1 29) (fun j _ => cF_cg (e9 29 j 1 (by omega)) (e9 29 j 3 (by omega)) (e9 29 j 4 (by omega)))).symm
  · rw [e9 29 q 3 (by omega)] at w
    rw [e9 29 q 4 (by omega)]
    exact h5 q hq w
  · rw [e9 20 0 4 (by omega)]; exact ex
  · rw [e9 29 q 4 (by omega)]; exact w
  · rw [e9 28 u 3 (by omega)]; exact w
  · rw [e9 20 0 4 (by omega)]; exact Nat.le_refl _
  · by_cases z : l = to
    · rw [z, e4, edd, tN_nI (by omega), tN_nI (by omega)]
      omega
    · rw [e9 22 l 4 (by omega)]; exact Nat.le_refl _
  · rw [e9 20 0 1 (by omega), e9 20 0 2 (by omega)]; exact Nat.le_refl _
theorem nG.draw {k t : Nat} {N : mN} (G : nG k N) (hk : k ≤ 1000) : nG (k + 1) (nDraw N t) ∧ nSt N (nDraw N t) := by
  unfold nDraw
  split
  · obtain ⟨a, ha, ea⟩ := G.2.2.2.2.2
    have e9 : ∀ k i f, ¬ (k = 20 ∧ i = 0 ∧ (f = 3 ∨ f = 4)) → nv (nU (nU N 20 0 3 (m_rem (21 * nv N 20 0 3 + 11) 4096)) 20 0 4 (nv N 20 0 4 + 1)) k i f = nv N k i f := fun k i f w => (nv_U (by omega)).trans (nv_U (by omega))
    have e4 : nv (nU (nU N 20 0 3 (m_rem (21 * nv N 20 0 3 + 11) 4096)) 20 0 4 (nv N 20 0 4 + 1)) 20 0 4 = nI (a + 1) := by rw [nv_U_s, ea, nI_1]
    have hn : nn (nU (nU N 20 0 3 (m_rem (21 * nv N 20 0 3 + 11) 4096)) 20 0 4 (nv N 20 0 4 + 1)) = nn N := rfl
    have hh : nh (nU (nU N 20 0 3 (m_rem (21 * nv N 20 0 3 + 11) 4096)) 20 0 4 (nv N 20 0 4 + 1)) = nh N := rfl
    generalize nU (nU N 20 0 3 (m_rem (21 * nv N 20 0 3 + 11) 4096)) 20 0 4 (nv N 20 0 4 + 1) = N2 at e9 e4 hn hh ⊢
    obtain ⟨h1, h2, h3, h4, h5, h6⟩ := G
    refine ⟨⟨fun l hl => ?_, fun l hl => ?_, fun l hl => ?_, fun l hl => ?_, fun q hq w => ?_, a + 1, by omega, e4⟩, hn, fun q f hf => e9 29 q f (by omega), fun q hq w => ?_, fun u hu w => ?_, by rw [hh]; exact Nat.le_refl _, ?_, fun l hl => ?_, ?_⟩
    · rw [e9 22 l 0 (by omega)]; exact h1 l hl
    · rw [e9 22 l 3 (by omega)]; exact h2 l hl
    · rw [e9 22 l 4 (by omega)]
      obtain ⟨y, hy, ey⟩ := h3 l hl
      exact ⟨y, by omega, ey⟩
    · rw [e9 22 l 5 (by omega), h4 l hl, hn, nFn_eq (nn N 29) (fun j _ => cF_cg (e9 29 j 1 (by omega)) (e9 29 j 3 (by omega)) (e9 29 j 4 (by omega)))]
    · rw [e9 29 q 3 (by omega)] at w
      rw [e9 29 q 4 (by omega)]
      exact h5 q (by rw [← hn]; exact hq) w
    · rw [e9 29 q 4 (by omega)]; exact w
    · rw [e9 28 u 3 (by omega)]; exact w
    · rw [e4, ea, tN_nI (by omega), tN_nI (by omega)]
      omega
    · rw [e9 22 l 4 (by omega)]; exact Nat.le_refl _
    · rw [e9 20 0 1 (by omega), e9 20 0 2 (by omega)]; exact Nat.le_refl _
  · exact ⟨G.mono (by omega), nSt.rf N⟩
theorem nG.come {k : Nat} {N : mN} (hk : k ≤ 900) (B : nB N) (I : NI N) (G : nG k N) {s t : Nat} (hs : s < nn N 28) (ht : t < nn N 23) : nG (k + 2) (nCome N s t).1 ∧ nSt N (nCome N s t).1 := by
  have hto : nTo N s t < 6 := by
    unfold nTo
    obtain ⟨⟨a, ha, ea⟩, ⟨b, hb', eb⟩⟩ := B.2.2.1 t ht
    split
    · rw [eb, tN_nI (by omega)]; exact hb'
    · rw [ea, tN_nI (by omega)]; exact ha
  have o := nDraw_o (N := N) (t := t)
  unfold nCome
  generalize nTo N s t = to at hto
  generalize nSr N t = sr
  have B1 : nB (nDraw N t) := B.cg o.1 o.2.1 o.2.2.2 (fun k i f w => nDraw_v (by omega))
  have P1 := G.draw (t := t) (by omega)
  have hs1 : s < nn (nDraw N t) 28 := by rw [o.1]; exact hs
  have B2 := B1.bh (sr := sr) hs1 hto (nn (nDraw N t) 29)
  have P2 := nG.bh (sr := sr) B1 P1.1 hs1 hto (nn (nDraw N t) 29) (Nat.le_refl _)
  have eF := nBh_Fr (s := s) (to := to) (sr := sr) (p := (nDraw N t, 0)) (nn (nDraw N t) 29)
  have eN : nn (nBh s to sr (nn (nDraw N t) 29) (nDraw N t, 0)).1 = nn (nDraw N t) := eF.1
  have I1 : nIA (nBh s to sr (nn (nDraw N t) 29) (nDraw N t, 0)).1 := nIA.cg (N := N) I.1 (fun l => (eF.2.2.2 22 l 1 (by omega) (by omega) (by omega)).trans (nDraw_v (by omega)))
  have I2 : nIQ (nBh s to sr (nn (nDraw N t) 29) (nDraw N t, 0)).1 := nIQ.cg (N := N) I.2.1 (fun l => (eF.2.2.2 22 l 2 (by omega) (by omega) (by omega)).trans (nDraw_v (by omega)))
  have P3 := nG.cd (k := k + 1) (by omega) B2 I1 I2 P2.1 (s := s) (to := to) (by rw [eN]; exact hs1) hto
  rw [eN] at P3
  exact ⟨P3.1.cg (N' := (nCt (nDraw N t) s to sr).1) rfl (fun k i f w => (nv_U (by omega)).trans (nv_U (by omega))), ((P1.2.tr P2.2).tr P3.2).tr (nSt.cg rfl rfl (fun k i f w => (nv_U (by omega)).trans (nv_U (by omega))))⟩
theorem nG.yawn {k : Nat} {N N' : mN} (hk : k ≤ 900) (B : nB N) (I : NI N) (G : nG k N) {a c v : Int32} (e : fYawn N a = (c, v, N')) : nG (k + 2) N' ∧ nSt N N' := by
  unfold fYawn at e
  by_cases z1 : ¬ (¬ a < 0 ∧ a < nI (nn N 23))
  · rw [if_pos z1] at e; cases e; exact ⟨G.mono (by omega), nSt.rf N⟩
  rw [if_neg z1] at e
  by_cases z2 : nv N 23 (tN a) 3 ≤ m_rem ((nv N 20 0 2 - nv N 23 (tN a) 2) + 24) 24 ∨ (nq N (tN a)).length = 0
  · rw [if_pos z2] at e; cases e; exact ⟨G.mono (by omega), nSt.rf N⟩
  rw [if_neg z2] at e
  cases e
  have hb := B.2.1
  have ha := Classical.not_not.mp z1
  obtain ⟨t, ht31, et⟩ := nI_of ha.1
  have ht : t < nn N 23 := (nI_ltI ht31 (by omega)).mp (by rw [← et]; exact ha.2)
  have tt : tN a = t := by rw [et, tN_nI (by omega)]
  rw [tt] at z2 ⊢
  obtain ⟨s, rest, el⟩ : ∃ s rest, nq N t = s :: rest := by
    cases h : nq N t with
    | nil => exact absurd (Or.inr (by rw [h]; rfl)) z2
    | cons s rest => exact ⟨s, rest, rfl⟩
  have hj : (nq N t)[0]? = some s := by rw [el]; rfl
  rw [show (nq N t).headD 0 = s from by rw [el]; rfl]
  obtain ⟨hnd, hmem⟩ := B.2.2.2.2.2.1 t ht
  obtain ⟨hs, h3, h4⟩ := hmem s (List.mem_of_getElem? hj)
  have B1 : nB (nU N 20 0 5 (nv N 20 0 5 + 1)) := B.cg rfl rfl rfl (fun k i f w => nv_U (by omega))
  have I1 : NI (nU N 20 0 5 (nv N 20 0 5 + 1)) := by
    obtain ⟨i1, i2, i3, i4, i5⟩ := I
    exact NI.mk (nIA.cg i1 (fun l => nv_U (by omega))) (nIQ.cg i2 (fun l => nv_U (by omega))) (fun s hs => nIS.cg (i3 s hs) (fun f _ => nv_U (by omega)) (fun t f _ => nv_U (by omega)) rfl rfl (fun p _ => nv_U (by omega))) (fun t ht => nAh.cg (i4 t ht) rfl (fun u => nv_U (by omega))) (nIH.cg i5 rfl (nv_U (by omega)) rfl (fun s => nv_U (by omega)))
  have G1 : nG k (nU N 20 0 5 (nv N 20 0 5 + 1)) := G.cg rfl (fun k i f w => nv_U (by omega))
  have S1 : nSt N (nU N 20 0 5 (nv N 20 0 5 + 1)) := nSt.cg rfl rfl (fun k i f w => nv_U (by omega))
  have h31 : nv (nU N 20 0 5 (nv N 20 0 5 + 1)) 28 s 3 = 1 := (nv_U (by omega)).trans h3
  have h41 : nv (nU N 20 0 5 (nv N 20 0 5 + 1)) 28 s 4 = nI t := (nv_U (by omega)).trans h4
  have eo := nOut0 (N := nU N 20 0 5 (nv N 20 0 5 + 1)) h41 (by omega) hnd hj
  have B2 : nB (nOut (nU N 20 0 5 (nv N 20 0 5 + 1)) s 0) := B1.out hs h31 (by decide)
  have P2 := G1.out (s := s) (v := 0) (by omega) (Or.inl (by rw [h31]; decide))
  have I2 : NI (nOut (nU N 20 0 5 (nv N 20 0 5 + 1)) s 0) := by
    rw [eo]
    exact NI.out I1 (by omega) h31 hs
  have h02 : nv (nOut (nU N 20 0 5 (nv N 20 0 5 + 1)) s 0) 28 s 3 = 0 := by
    rw [eo, nv_U (by omega), nv_U_s]
  have n2 : nn (nOut (nU N 20 0 5 (nv N 20 0 5 + 1)) s 0) = nn N := nOut_n
  have P : nB (nYw N s t).1 ∧ NI (nYw N s t).1 ∧ nn (nYw N s t).1 = nn N ∧ nG (k + 2) (nYw N s t).1 ∧ nSt N (nYw N s t).1 := by
    unfold nYw
    split
    · have P3 := nG.come hk B2 I2 P2.1 (s := s) (t := t) (by rw [n2]; exact hs) (by rw [n2]; exact ht)
      exact ⟨B2.come (by rw [n2]; exact hs) (by rw [n2]; exact ht), NI.come B2 I2 (by rw [n2]; exact hs) (by rw [n2]; exact ht) h02, nCome_n.trans n2, P3.1, (S1.tr P2.2).tr P3.2⟩
    · exact ⟨B2, I2, n2, P2.1.mono (by omega), S1.tr P2.2⟩
  have P9 := nG.ti (t := t) (nq (nYw N s t).1 t).length _ P.1 P.2.1 P.2.2.2.1 (by rw [P.2.2.1]; exact ht)
  exact ⟨P9.1, P.2.2.2.2.tr P9.2⟩
theorem nL0_3 {N : mN} {l : Nat} : ∀ j, nv (nL0 j N) 22 l 3 = if l < j then 0 else nv N 22 l 3 := by
  intro j
  induction j with
  | zero => rw [if_neg (by omega)]; rfl
  | succ j ih =>
    show nv (nU (nL0 j N) 22 j 3 0) 22 l 3 = _
    by_cases w : l = j
    · rw [w, nv_U_s, if_pos (by omega)]
    · rw [nv_U (by omega), ih]
      by_cases q : l < j
      · rw [if_pos q, if_pos (by omega)]
      · rw [if_neg q, if_neg (by omega)]
theorem nG.hour {k : Nat} {N : mN} (G : nG k N) {nt hr : Nat} (h1 : nv N 20 0 1 = nI nt) (h2 : nv N 20 0 2 = nI hr) (hh : hr ≤ 23) (hn : 24 * nt + hr + 1 ≤ 2399) : nG k (nHour N) ∧ nSt N (nHour N) := by
  obtain ⟨nt', hr', qh, q2, q3, q4⟩ := nHour_t h1 h2 hh
  have o := nHour_o (N := N)
  have e9 : ∀ k i f, ¬ (k = 20 ∧ (f = 1 ∨ f = 2)) → ¬ (k = 22 ∧ f = 3) → ¬ (k = 28 ∧ f = 8) → ¬ (k = 23 ∧ f = 5) → nv (nHour N) k i f = nv N k i f := fun k i f w1 w2 w3 w4 => by
    have e : nv (nHour N) k i f = nv (nHour1 N) k i f := nWa_v w4 _
    rw [e]
    unfold nHour1
    split
    · unfold nNight
      rw [nP0_v w3, nL0_v w2, nv_U (by omega), nv_U (by omega), nv_U (by omega)]
    · exact nv_U (by omega)
  have e3 : ∀ l, l < 6 → nv (nHour N) 22 l 3 = nv N 22 l 3 ∨ nv (nHour N) 22 l 3 = 0 := fun l hl => by
    have e : nv (nHour N) 22 l 3 = nv (nHour1 N) 22 l 3 := nWa_v (by omega) _
    rw [e]
    unfold nHour1
    split
    · right
      unfold nNight
      rw [nP0_v (by omega), nL0_3, if_pos hl]
    · exact Or.inl (nv_U (by omega))
  obtain ⟨g1, g2, g3, g4, g5, g6⟩ := G
  refine ⟨⟨fun l hl => ?_, fun l hl => ?_, fun l hl => ?_, fun l hl => ?_, fun q hq w => ?_, ?_⟩, o.1, fun q f hf => e9 29 q f (by omega) (by omega) (by omega) (by omega), fun q hq w => ?_, fun u hu w => ?_, by rw [o.2.2]; exact Nat.le_refl _, ?_, fun l hl => ?_, ?_⟩
  · rw [e9 22 l 0 (by omega) (by omega) (by omega) (by omega)]; exact g1 l hl
  · rcases e3 l hl with e | e
    · rw [e]; exact g2 l hl
    · rw [e]; exact ⟨0, by omega, rfl⟩
  · rw [e9 22 l 4 (by omega) (by omega) (by omega) (by omega)]; exact g3 l hl
  · rw [e9 22 l 5 (by omega) (by omega) (by omega) (by omega), g4 l hl, o.1]
    exact congrArg nI (nFn_eq (nn N 29) (fun j _ => cF_cg (e9 29 j 1 (by omega) (by omega) (by omega) (by omega)) (e9 29 j 3 (by omega) (by omega) (by omega) (by omega)) (e9 29 j 4 (by omega) (by omega) (by omega) (by omega)))).symm
  · rw [e9 29 q 3 (by omega) (by omega) (by omega) (by omega)] at w
    rw [e9 29 q 4 (by omega) (by omega) (by omega) (by omega)]
    exact g5 q (by rw [← o.1]; exact hq) w
  · unfold gW; rw [e9 20 0 4 (by omega) (by omega) (by omega) (by omega)]; exact g6
  · rw [e9 29 q 4 (by omega) (by omega) (by omega) (by omega)]; exact w
  · rw [e9 28 u 3 (by omega) (by omega) (by omega) (by omega)]; exact w
  · rw [e9 20 0 4 (by omega) (by omega) (by omega) (by omega)]; exact Nat.le_refl _
  · rw [e9 22 l 4 (by omega) (by omega) (by omega) (by omega)]; exact Nat.le_refl _
  · rw [h1, h2, q3, q4, tN_nI (by omega), tN_nI (by omega), tN_nI (by omega), tN_nI (by omega)]
    omega
theorem nG.hours {k : Nat} {N : mN} (B : nB N) (G : nG k N) {nt hr : Nat} (h1 : nv N 20 0 1 = nI nt) (h2 : nv N 20 0 2 = nI hr) (hh : hr ≤ 23) : ∀ j, 24 * nt + hr + j ≤ 2399 → nG k (nHours j N) ∧ nSt N (nHours j N) := by
  intro j
  induction j with
  | zero => intro _; exact ⟨G, nSt.rf N⟩
  | succ j ih =>
    intro hj
    have P := ih (by omega)
    obtain ⟨-, nt', hr', b1, b2, b3, b4⟩ := B.hours h1 h2 hh j (by omega)
    have P2 := P.1.hour b3 b4 b1 (by omega)
    exact ⟨P2.1, P.2.tr P2.2⟩
theorem nG.pass {k : Nat} {N N' : mN} (B : nB N) (G : nG k N) {a c v : Int32} (e : fPass N a = (c, v, N')) : nG k N' ∧ nSt N N' := by
  unfold fPass at e
  by_cases z1 : ¬ (¬ a < 1 ∧ a ≤ 48)
  · rw [if_pos z1] at e; cases e; exact ⟨G, nSt.rf N⟩
  rw [if_neg z1] at e
  by_cases z2 : ¬ nv N 20 0 1 + (nv N 20 0 2 + a) / 24 ≤ 99
  · rw [if_pos z2] at e; cases e; exact ⟨G, nSt.rf N⟩
  rw [if_neg z2] at e
  cases e
  obtain ⟨nt, hr, t1, t2, t3, t4⟩ := B.1
  have ha := Classical.not_not.mp z1
  have hz := Classical.not_not.mp z2
  obtain ⟨n, hn, ea⟩ := nI_rg (v := a) (n := 48) (by omega) (fun q => ha.1 (Int32.lt_trans q (by decide))) (Int32.not_lt.mpr ha.2)
  have ec : nv N 20 0 1 + (nv N 20 0 2 + a) / 24 = nI (nt + (hr + n) / 24) := by rw [t3, t4, ea, nI_add, show (24 : Int32) = nI 24 from rfl, pk_div (by omega) (by omega) (by omega), nI_add]
  have q' : nt + (hr + n) / 24 ≤ 99 := by
    rw [ec] at hz
    exact (nI_leI (by omega) (by omega)).mp (show nI (nt + (hr + n) / 24) ≤ nI 99 from hz)
  rw [ea, tN_nI (by omega)]
  exact G.hours B t3 t4 t2 n (by omega)
