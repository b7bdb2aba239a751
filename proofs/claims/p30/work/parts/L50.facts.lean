/-! THE PROPERTY'S LAW, 5: sums -/
theorem qP_add {f h : Nat → Nat} : ∀ n, qP (fun s => f s + h s) n = qP f n + qP h n := by
  intro n
  induction n with
  | zero => rfl
  | succ n ih =>
    show qP (fun s => f s + h s) n + (f n + h n) = (qP f n + f n) + (qP h n + h n)
    rw [ih]
    omega
theorem qP_cg {f h : Nat → Nat} : ∀ n, (∀ s, s < n → f s = h s) → qP f n = qP h n := by
  intro n
  induction n with
  | zero => intro _; rfl
  | succ n ih =>
    intro e
    show qP f n + f n = qP h n + h n
    rw [ih (fun s hs => e s (by omega)), e n (by omega)]
theorem qP_0 {f : Nat → Nat} : ∀ n, (∀ s, s < n → f s = 0) → qP f n = 0 := by
  intro n
  induction n with
  | zero => intro _; rfl
  | succ n ih =>
    intro e
    show qP f n + f n = 0
    rw [ih (fun s hs => e s (by omega)), e n (by omega)]
theorem qP_pt {x w : Nat} : ∀ n, x < n → qP (fun s => if x = s then w else 0) n = w := by
  intro n
  induction n with
  | zero => intro h; exact absurd h (by omega)
  | succ n ih =>
    intro h
    show qP (fun s => if x = s then w else 0) n + (if x = n then w else 0) = w
    by_cases z : x = n
    · rw [if_pos z, qP_0 n (fun s hs => if_neg (by omega))]
      omega
    · rw [if_neg z, ih (by omega)]
      rfl
theorem qP_le {f : Nat → Nat} {m : Nat} : ∀ n, m ≤ n → qP f m ≤ qP f n := by
  intro n
  induction n with
  | zero => intro h; rw [show m = 0 by omega]; exact Nat.le_refl _
  | succ n ih =>
    intro h
    show qP f m ≤ qP f n + f n
    by_cases z : m = n + 1
    · rw [z]; exact Nat.le_refl _
    · have := ih (by omega)
      omega
theorem qP_b {f : Nat → Nat} {c : Nat} : ∀ n, (∀ s, s < n → f s ≤ c) → qP f n ≤ c * n := by
  intro n
  induction n with
  | zero => intro _; exact Nat.le_refl 0
  | succ n ih =>
    intro e
    have h1 := ih (fun s hs => e s (by omega))
    have h2 := e n (by omega)
    show qP f n + f n ≤ c * (n + 1)
    rw [Nat.mul_add, Nat.mul_one]
    omega
theorem nSu_nI {f : Nat → Int32} {h : Nat → Nat} : ∀ n, (∀ s, s < n → f s = nI (h s)) → nSu f n = nI (qP h n) := by
  intro n
  induction n with
  | zero => intro _; rfl
  | succ n ih =>
    intro e
    show nSu f n + f n = nI (qP h n + h n)
    rw [ih (fun s hs => e s (by omega)), e n (by omega), nI_add]
/-- each place of a row is one number's -/
theorem tC_sum {xs : List Nat} {n : Nat} (hx : ∀ x ∈ xs, x < n) : ∀ j, j ≤ xs.length → qP (fun s => tC xs s j) n = j := by
  intro j
  induction j with
  | zero => intro _; exact qP_0 n (fun _ _ => rfl)
  | succ j ih =>
    intro hj
    have e : xs[j]? = some xs[j] := List.getElem?_eq_getElem (by omega)
    have e1 : qP (fun s => tC xs s (j + 1)) n = qP (fun s => tC xs s j) n + qP (fun s => if xs[j] = s then 1 else 0) n := by
      rw [← qP_add]
      refine qP_cg n (fun s _ => ?_)
      show tC xs s j + (if xs[j]? = some s then 1 else 0) = tC xs s j + (if xs[j] = s then 1 else 0)
      rw [e]
      by_cases z : xs[j] = s
      · rw [if_pos (congrArg some z), if_pos z]
      · rw [if_neg (fun w => z (Option.some.inj w)), if_neg z]
    rw [e1, ih (by omega), qP_pt n (hx _ (List.getElem_mem _))]
theorem tS_sum {N : mN} {n : Nat} : ∀ j, (∀ t, t < j → ∀ s ∈ nq N t, s < n) → qP (fun s => tS N s j) n = qP (fun t => (nq N t).length) j := by
  intro j
  induction j with
  | zero => intro _; exact qP_0 n (fun _ _ => rfl)
  | succ j ih =>
    intro h
    show qP (fun s => tS N s j + tC (nq N j) s (nq N j).length) n = qP (fun t => (nq N t).length) j + (nq N j).length
    rw [qP_add, ih (fun t ht => h t (by omega)), tC_sum (h j (by omega)) _ (Nat.le_refl _)]
/-- who stands -/
def nStd (N : mN) (s : Nat) : Nat := if nv N 28 s 3 = 1 then 1 else 0
theorem E_std {N : mN} (B : nB N) : qP (fun t => (nq N t).length) (nn N 23) = qP (nStd N) (nn N 28) := by
  rw [← tS_sum (n := nn N 28) (nn N 23) (fun t ht s hs => ((B.2.2.2.2.2.1 t ht).2 s hs).1)]
  exact qP_cg _ (fun s hs => tS_e B hs)
/-- hidings, by who brought them -/
theorem E_hid {N : mN} {n : Nat} : ∀ h, (∀ k, k < h → hS (nh N) k < n) → qP (fun s => kCt (pHi N s) h) n = h := by
  intro h
  induction h with
  | zero => intro _; exact qP_0 n (fun _ _ => rfl)
  | succ h ih =>
    intro hk
    have e1 : qP (fun s => kCt (pHi N s) (h + 1)) n = qP (fun s => kCt (pHi N s) h) n + qP (fun s => if hS (nh N) h = s then 1 else 0) n := by
      rw [← qP_add]
      refine qP_cg n (fun s _ => ?_)
      show kCt (pHi N s) h + (if decide (hS (nh N) h = s) = true then 1 else 0) = kCt (pHi N s) h + (if hS (nh N) h = s then 1 else 0)
      by_cases z : hS (nh N) h = s
      · rw [if_pos (decide_eq_true z), if_pos z]
      · rw [if_neg (fun w => z (of_decide_eq_true w)), if_neg z]
    rw [e1, ih (fun k hk' => hk k (by omega)), qP_pt n (hk h (by omega))]
/-- what was caught and is not given back -/
def nWf1 (N : mN) (p : Nat) : Nat := if nv N 29 p 3 = 3 then tN (nv N 29 p 1) else 0
theorem E_fin {N : mN} : ∀ n, (∀ p, p < n → nv N 29 p 3 = 3 → ∃ l, l < 6 ∧ nv N 29 p 4 = nI (100 + l)) → qP (fun l => nFn N l n) 6 = qP (nWf1 N) n := by
  intro n
  induction n with
  | zero => intro _; rfl
  | succ n ih =>
    intro h
    show qP (fun l => nFn N l n + cF N l n) 6 = qP (nWf1 N) n + nWf1 N n
    rw [qP_add, ih (fun p hp => h p (by omega))]
    have e : qP (fun l => cF N l n) 6 = nWf1 N n := by
      unfold nWf1
      by_cases z : nv N 29 n 3 = 3
      · rw [if_pos z]
        obtain ⟨l0, hl0, el⟩ := h n (by omega) z
        rw [← qP_pt (x := l0) (w := tN (nv N 29 n 1)) 6 hl0]
        refine qP_cg 6 (fun l hl => ?_)
        unfold cF
        by_cases q : l0 = l
        · rw [if_pos q, if_pos ⟨z, by rw [el, q]⟩]
        · rw [if_neg q, if_neg (fun w => q (by
            have := (nI_eq (by omega) (by omega)).mp (el.symm.trans w.2)
            omega))]
      · rw [if_neg z]
        exact qP_0 6 (fun l _ => cF_0 (fun w => z w.1))
    rw [e]
/-- duty that would be paid -/
theorem vWp_b {N : mN} {k t : Nat} (B : nB N) (I : NI N) (G : nG k N) (ht : t < nn N 23) : ∃ a, a ≤ 1200 ∧ vWp N t = nI a := by
  have hb := B.2.1
  unfold vWp
  cases hx : (nq N t)[0]? with
  | none => exact ⟨0, by omega, rfl⟩
  | some s =>
    show ∃ a, a ≤ 1200 ∧ (if nGood N s t = true then nDuty N (nTo N s t) (nCi N s (nTo N s t) (nn N 29)).2 else 0) = nI a
    split
    · have hto : nTo N s t < 6 := by
        unfold nTo
        obtain ⟨⟨a, ha, ea⟩, ⟨b, hb', eb⟩⟩ := B.2.2.1 t ht
        split
        · rw [eb, tN_nI (by omega)]; exact hb'
        · rw [ea, tN_nI (by omega)]; exact ha
      generalize nTo N s t = to at hto
      obtain ⟨al, hal, eal⟩ := I.1 to hto
      obtain ⟨qf, hqf, hq30⟩ := I.2.1
      have hq : qf to ≤ 30 := by
        rcases (show to = 0 ∨ to = 1 ∨ to = 2 ∨ to = 3 ∨ to = 4 ∨ to = 5 by omega) with rfl | rfl | rfl | rfl | rfl | rfl <;> omega
      obtain ⟨ca, hca, eca⟩ := G.2.1 to hto
      obtain ⟨rr, hrr, err⟩ := G.1 to hto
      obtain ⟨c, w, hc, hwb, eci⟩ := nCiB (s := s) hca hq eca (hqf to hto) (nn N 29) (fun j hj => (B.2.2.2.2.1 j hj).2.1)
      rw [eci]
      exact nDuty_b (w := w) (by omega) hal hrr eal err
    · exact ⟨0, by omega, rfl⟩
/-- rings -/
theorem nE_sy {N : mN} {u w : Nat} (h : nE N u w) : nE N w u := by
  obtain ⟨a, b, h1, h2, h3, h4, h5, h6⟩ := h
  exact ⟨b, a, h2, h1, fun q => h3 q.symm, h5, h4, h6.1.symm, h6.2.2, h6.2.1⟩
theorem nCl_sy {N : mN} {s u : Nat} (h : nCl N s u) : nCl N u s := h (fun x => nCl N x s) nCl.rf (fun a b ha e P p0 p1 => ha P (p1 b a p0 (nE_sy e)) p1)
theorem vRg_sy {N : mN} (B : nB N) (I : NI N) {s u : Nat} (hs : s < nn N 28) (hu : u < nn N 28) : zb (vRg N s) u = zb (vRg N u) s := by
  have hb := B.2.1
  have e1 := vRg_zb B I hs (u := u) (by omega)
  have e2 := vRg_zb B I hu (u := s) (by omega)
  cases h1 : zb (vRg N s) u with
  | true => exact (e2.mpr (nCl_sy (e1.mp h1))).symm
  | false =>
    cases h2 : zb (vRg N u) s with
    | false => rfl
    | true =>
      have := e1.mpr (nCl_sy (e2.mp h2))
      rw [h1] at this
      cases this
theorem bit_eq {x y : Int32} {i j : Nat} (hi : i < 32) (hj : j < 32) (h : zb x i = zb y j) : (m_shr x (nI i)) &&& 1 = (m_shr y (nI j)) &&& 1 := by
  cases h1 : zb x i with
  | false =>
    rw [(zb_shr x hi).mpr h1, (zb_shr y hj).mpr (h ▸ h1)]
  | true =>
    have h2 : zb y j = true := h ▸ h1
    rw [(and_10 _).mpr (fun w => by rw [(zb_shr x hi).mp w] at h1; cases h1), (and_10 _).mpr (fun w => by rw [(zb_shr y hj).mp w] at h2; cases h2)]
