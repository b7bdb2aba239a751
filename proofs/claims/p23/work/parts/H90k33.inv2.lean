/-! THE SIMULATION, 24: what holds between calls is kept: joining and leaving -/
theorem nHd_zb {N : mN} {s : Nat} : ∀ j, j ≤ 32 → ∀ i, i < 32 → (zb (nHd N s j) i = true ↔ i < j ∧ nv N 29 i 4 = nI s) := by
  intro j
  induction j with
  | zero =>
    intro _ i _
    rw [show nHd N s 0 = 0 from rfl, zb_0]
    exact ⟨fun w => absurd w (by decide), fun w => absurd w.1 (by omega)⟩
  | succ j ih =>
    intro hj i hi
    unfold nHd
    by_cases z : nv N 29 j 4 = nI s
    · rw [if_pos z, zb_or, zb_shl j (by omega) i hi, Bool.or_eq_true, ih (by omega) i hi, decide_eq_true_iff]
      constructor
      · intro w
        rcases w with w | w
        · exact ⟨by omega, w.2⟩
        · rw [w]; exact ⟨by omega, z⟩
      · intro w
        by_cases q : i = j
        · exact Or.inr q
        · exact Or.inl ⟨by omega, w.2⟩
    · rw [if_neg z, ih (by omega) i hi]
      constructor
      · intro w
        exact ⟨by omega, w.2⟩
      · intro w
        have : i ≠ j := fun q => z (by rw [← q]; exact w.2)
        exact ⟨by omega, w.2⟩
theorem ins_l {l : List Nat} {p s i : Nat} (hp : p ≤ l.length) : (l.take p ++ s :: l.drop p)[i]? = if i < p then l[i]? else if i = p then some s else l[i - 1]? := by
  have ht : (l.take p).length = p := List.length_take_of_le hp
  by_cases z : i < p
  · rw [if_pos z, List.getElem?_append_left (by rw [ht]; exact z), List.getElem?_take_of_lt z]
  · rw [if_neg z, List.getElem?_append_right (by rw [ht]; omega), ht]
    by_cases w : i = p
    · rw [if_pos w, w, Nat.sub_self]
      rfl
    · rw [if_neg w]
      obtain ⟨d, rfl⟩ : ∃ d, i = p + d + 1 := ⟨i - p - 1, by omega⟩
      rw [show p + d + 1 - p = d + 1 by omega, List.getElem?_cons_succ, List.getElem?_drop, show p + d + 1 - 1 = p + d by omega]
/-- where babies end -/
theorem nAh_p {N : mN} {t : Nat} (h : nAh N t) : ∃ p, p ≤ (nq N t).length ∧ (∀ i u, i < p → (nq N t)[i]? = some u → ¬ nv N 28 u 1 = 0) ∧ ∀ i u, p ≤ i → (nq N t)[i]? = some u → nv N 28 u 1 = 0 := by
  have key : ∀ m, m ≤ (nq N t).length → (∀ i u, i < m → (nq N t)[i]? = some u → ¬ nv N 28 u 1 = 0) ∨ ∃ p, p < m ∧ (∀ i u, i < p → (nq N t)[i]? = some u → ¬ nv N 28 u 1 = 0) ∧ ∃ u, (nq N t)[p]? = some u ∧ nv N 28 u 1 = 0 := by
    intro m
    induction m with
    | zero => intro _; exact Or.inl (fun i u hi => absurd hi (by omega))
    | succ m ih =>
      intro hm
      rcases ih (by omega) with h1 | ⟨p, h1, h2⟩
      · have hx : (nq N t)[m]? = some ((nq N t)[m]) := List.getElem?_eq_getElem (by omega)
        by_cases z : nv N 28 ((nq N t)[m]) 1 = 0
        · exact Or.inr ⟨m, by omega, h1, _, hx, z⟩
        · left
          intro i u hi hu
          by_cases w : i = m
          · rw [w, hx] at hu
            rw [← Option.some.inj hu]
            exact z
          · exact h1 i u (by omega) hu
      · exact Or.inr ⟨p, by omega, h2⟩
  rcases key (nq N t).length (Nat.le_refl _) with h1 | ⟨p, h1, h2, u, hu, z⟩
  · exact ⟨(nq N t).length, Nat.le_refl _, h1, fun i u hi hu => absurd (List.getElem?_eq_some_iff.mp hu).1 (by omega)⟩
  · refine ⟨p, by omega, h2, fun i w hi hw => ?_⟩
    by_cases q : nv N 28 w 1 = 0
    · exact q
    · exact absurd z (h p i u w hi hu hw q)
theorem nPl_b {N : mN} {s t : Nat} (h : nAh N t) (hs : ¬ nv N 28 s 1 = 0) : (∀ i u, i < nPl N s t → (nq N t)[i]? = some u → ¬ nv N 28 u 1 = 0) ∧ ∀ i u, nPl N s t ≤ i → (nq N t)[i]? = some u → nv N 28 u 1 = 0 := by
  obtain ⟨p, hp, h1, h2⟩ := nAh_p h
  have e : nPl N s t = p := by
    unfold nPl
    rw [if_neg hs, nBn_p h1 h2 _ (Nat.le_refl _)]
    by_cases w : (nq N t).length ≤ p
    · rw [if_pos w]; omega
    · rw [if_neg w]
  rw [e]
  exact ⟨h1, h2⟩
theorem nJoin_ah {N N' : mN} {s t : Nat} (h : nAh N t) (eq : nq N' t = (nq N t).take (nPl N s t) ++ s :: (nq N t).drop (nPl N s t)) (e : ∀ u, nv N' 28 u 1 = nv N 28 u 1) : nAh N' t := by
  have hp := nPl_le (N := N) (s := s) (t := t)
  intro i j u w hij hu hw hb
  rw [eq, ins_l hp] at hu hw
  rw [e] at hb ⊢
  by_cases zs : nv N 28 s 1 = 0
  · have ep : nPl N s t = (nq N t).length := if_pos zs
    by_cases zj : j < nPl N s t
    · rw [if_pos zj] at hw
      rw [if_pos (show i < nPl N s t by omega)] at hu
      exact h i j u w hij hu hw hb
    · rw [if_neg zj] at hw
      by_cases q : j = nPl N s t
      · rw [if_pos q] at hw
        rw [← Option.some.inj hw] at hb
        exact absurd zs hb
      · rw [if_neg q] at hw
        exact absurd (List.getElem?_eq_some_iff.mp hw).1 (by omega)
  · obtain ⟨k1, k2⟩ := nPl_b h zs
    by_cases zi : i < nPl N s t
    · rw [if_pos zi] at hu
      exact k1 i u zi hu
    · rw [if_neg zi] at hu
      by_cases q : i = nPl N s t
      · rw [if_pos q] at hu
        rw [← Option.some.inj hu]
        exact zs
      · rw [if_neg (show ¬ j < nPl N s t by omega), if_neg (show ¬ j = nPl N s t by omega)] at hw
        exact absurd (k2 (j - 1) w (by omega) hw) hb
theorem NI.join {N N' : mN} (B : nB N) (I : NI N) {a b d k v : Int32} (e : fJoin N a b d = (k, v, N')) : NI N' := by
  unfold fJoin at e
  by_cases z1 : ¬ ((¬ a < 0 ∧ a < nI (nn N 28)) ∧ (¬ b < 0 ∧ b < nI (nn N 23)))
  · rw [if_pos z1] at e; cases e; exact I
  rw [if_neg z1] at e
  by_cases z2 : d < 0 ∨ ¬ (d &&& (nHd N (tN a) (nn N 29) ^^^ (-1))) = 0
  · rw [if_pos z2] at e; cases e; exact I
  rw [if_neg z2] at e
  by_cases z3 : ¬ (nv N 28 (tN a) 3 = 0 ∧ (nv N 23 (tN b) 0 = nv N 28 (tN a) 0 ∨ nv N 23 (tN b) 1 = nv N 28 (tN a) 0))
  · rw [if_pos z3] at e; cases e; exact I
  rw [if_neg z3] at e
  cases e
  have hb := B.2.1
  obtain ⟨ha, hbb⟩ := Classical.not_not.mp z1
  obtain ⟨h0, hl⟩ := Classical.not_not.mp z3
  obtain ⟨s, hs31, es⟩ := nI_of ha.1
  have hs : s < nn N 28 := (nI_ltI hs31 (by omega)).mp (by rw [← es]; exact ha.2)
  obtain ⟨t, ht31, et⟩ := nI_of hbb.1
  have ht : t < nn N 23 := (nI_ltI ht31 (by omega)).mp (by rw [← et]; exact hbb.2)
  have ts : tN a = s := by rw [es, tN_nI (by omega)]
  have tt : tN b = t := by rw [et, tN_nI (by omega)]
  rw [ts] at z2 h0 hl ⊢
  rw [tt] at hl ⊢
  have hz2 : (d &&& (nHd N s (nn N 29) ^^^ (-1))) = 0 := Classical.not_not.mp (fun w => z2 (Or.inr w))
  have hd : ∀ p, p < 32 → zb d p = true → p < nn N 29 ∧ nv N 29 p 4 = nI s := fun p hp hz => by
    have h1 : zb (d &&& (nHd N s (nn N 29) ^^^ (-1))) p = false := by rw [hz2]; exact zb_0 p
    rw [zb_and, zb_xor, zb_m1 p hp, hz, Bool.true_and] at h1
    have h2 : zb (nHd N s (nn N 29)) p = true := by
      cases q : zb (nHd N s (nn N 29)) p with
      | true => rfl
      | false => rw [q] at h1; cases h1
    exact (nHd_zb (nn N 29) (by omega) p hp).mp h2
  have e9 : ∀ k i f, ¬ (k = 28 ∧ i = s ∧ 3 ≤ f ∧ f ≤ 5) → nv (nJoin N s t d) k i f = nv N k i f := fun k i f w => by
    unfold nJoin
    rw [nv_U (by omega), nv_U (by omega), nv_U (by omega)]
    rfl
  have e3 : nv (nJoin N s t d) 28 s 3 = 1 := by unfold nJoin; rw [nv_U (by omega), nv_U (by omega), nv_U_s]
  have e4 : nv (nJoin N s t d) 28 s 4 = nI t := by unfold nJoin; rw [nv_U (by omega), nv_U_s]
  have e5 : nv (nJoin N s t d) 28 s 5 = d := by unfold nJoin; rw [nv_U_s]
  obtain ⟨i1, i2, i3, i4, i5⟩ := I
  refine NI.mk (nIA.cg i1 (fun l => e9 22 l 1 (by omega))) (nIQ.cg i2 (fun l => e9 22 l 2 (by omega))) (fun s' hs' => ?_) (fun t' ht' => ?_) (nIH.cg i5 rfl (e9 20 0 1 (by omega)) rfl (fun s => e9 28 s 9 (by omega)))
  · have hs2 : s' < nn N 28 := hs'
    by_cases w : s' = s
    · subst w
      unfold nIS
      rw [e3, e4, e5, e9 28 s' 0 (by omega), e9 28 s' 2 (by omega)]
      refine ⟨Or.inr (Or.inl rfl), fun w => absurd w (by decide), fun _ => (i3 s' hs2).2.2.1 (by rw [h0]; decide), fun w => absurd rfl w, fun _ => ⟨fun p hp hz => by rw [e9 29 p 4 (by omega)]; exact hd p hp hz, fun t' ht2 et2 => ?_⟩⟩
      have ht3 : t' < nn N 23 := ht2
      have := (nI_eq (by omega) (by omega)).mp et2
      rw [← this, e9 23 t 0 (by omega), e9 23 t 1 (by omega)]
      exact hl
    · exact nIS.cg (i3 s' hs2) (fun f _ => e9 28 s' f (by omega)) (fun t f _ => e9 23 t f (by omega)) rfl rfl (fun p _ => e9 29 p 4 (by omega))
  · have ht2 : t' < nn N 23 := ht'
    by_cases w : t' = t
    · subst w
      exact nJoin_ah (s := s) (i4 t' ht2) nq_Q_s (fun u => e9 28 u 1 (by omega))
    · exact nAh.cg (i4 t' ht2) (nq_Q w) (fun u => e9 28 u 1 (by omega))
theorem NI.leave {N N' : mN} (B : nB N) (I : NI N) {a k v : Int32} (e : fLeave N a = (k, v, N')) : NI N' := by
  unfold fLeave at e
  by_cases z1 : ¬ (¬ a < 0 ∧ a < nI (nn N 28))
  · rw [if_pos z1] at e; cases e; exact I
  rw [if_neg z1] at e
  by_cases z2 : ¬ nv N 28 (tN a) 3 = 1
  · rw [if_pos z2] at e; cases e; exact I
  rw [if_neg z2] at e
  cases e
  have hb := B.2.1
  have ha := Classical.not_not.mp z1
  obtain ⟨s, hs31, es⟩ := nI_of ha.1
  have hs : s < nn N 28 := (nI_ltI hs31 (by omega)).mp (by rw [← es]; exact ha.2)
  have ts : tN a = s := by rw [es, tN_nI (by omega)]
  rw [ts] at z2 ⊢
  have h1 := Classical.not_not.mp z2
  obtain ⟨t, ht, et, hm⟩ := B.2.2.2.2.2.2.1 s hs h1
  obtain ⟨j, hj⟩ := List.mem_iff_getElem?.mp hm
  rw [nOut0 et (by omega) (B.2.2.2.2.2.1 t ht).1 hj]
  exact I.out (by omega) h1 hs
