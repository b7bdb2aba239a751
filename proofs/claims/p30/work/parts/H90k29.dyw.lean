/-! THE SIMULATION, 20: a yawn of the reference -/
/-- the state, and what is thrown -/
def vZ0 (g : Nat → Nat) (c0 : Int32) (N : mN) (Y0 : mY) (S0 : mS) (Y : mY) (S : mS) (M : mM) : Prop := vN g N Y0 S0 Y S M ∧ sI S 20 0 0 = c0
theorem RV.lk {N : mN} {Y : mY} {S : mS} (h : RV N Y S) {l : List Nat} {nt dr : Int32} {s : Nat} : ∀ j, RV (nLk l nt dr s j N) Y S := by
  intro j
  induction j with
  | zero => exact h
  | succ j ih =>
    unfold nLk
    split
    · exact ih.n9.n9
    · exact ih
theorem nDl_cg {N : mN} {s to n : Nat} {ft ft' : Nat → Int32} (h : ∀ i, i < n → ft i = ft' i) : nDl N s to ft n = nDl N s to ft' n := by
  refine Prod.ext rfl (Prod.ext ?_ rfl)
  funext k i f
  show (if k = 29 ∧ i < n ∧ nDc N s i = true then (if nBk N s to i = true then (if f = 4 then 100 + nv N 28 s 0 else if f = 3 then 5 else nv N k i f) else if f = 3 then ft i else nv N k i f) else nv N k i f) = if k = 29 ∧ i < n ∧ nDc N s i = true then (if nBk N s to i = true then (if f = 4 then 100 + nv N 28 s 0 else if f = 3 then 5 else nv N k i f) else if f = 3 then ft' i else nv N k i f) else nv N k i f
  by_cases q : k = 29 ∧ i < n ∧ nDc N s i = true
  · rw [if_pos q, if_pos q, h i q.2.1]
  · rw [if_neg q, if_neg q]
theorem nCi_b {N : mN} {s to : Nat} : ∀ n, (∀ p, p < n → ∃ a, a ≤ 99 ∧ nv N 29 p 1 = nI a) → ∃ b, b ≤ 99 * n ∧ (nCi N s to n).2 = nI b := by
  intro n
  induction n with
  | zero => intro _; exact ⟨0, by omega, rfl⟩
  | succ n ih =>
    intro h
    obtain ⟨b, hb, e⟩ := ih (fun p hp => h p (by omega))
    cases hd : nDc N s n with
    | false => exact ⟨b, by omega, by rw [nCi_no hd]; exact e⟩
    | true =>
      cases hk : nBk N s to n with
      | true => exact ⟨b, by omega, by rw [nCi_bk hk]; exact e⟩
      | false =>
        obtain ⟨a, ha, ea⟩ := h n (by omega)
        exact ⟨b + a, by omega, by rw [nCi_in hd hk, ea, e, nI_add]⟩
theorem duty_eq {a b : Nat} (ha : a < 100000) (hb : b < 100000) (r : Int32) : ((m_max 0 (nI b - nI a)) * r) / 100 = if nI a < nI b then ((nI b - nI a) * r) / 100 else 0 := by
  by_cases z : a < b
  · rw [if_pos (nI_lt z (by omega)), pk_sub (by omega), show m_max 0 (nI (b - a)) = nI (b - a) from if_pos (nI_lt (a := 0) (by omega) (by omega))]
  · rw [if_neg (nI_nlt (by omega) (by omega))]
    have e : m_max 0 (nI b - nI a) = 0 := by
      refine if_neg (fun w => ?_)
      by_cases q : a = b
      · subst q
        rw [Int32.sub_self] at w
        exact absurd w (by decide)
      · exact Int32.lt_asymm w (pk_sneg (by omega) (by omega))
    rw [e, Int32.zero_mul]
    rfl
section SIM20
variable {g : Nat → Nat} {Y : mY} {S : mS} {M : mM} {N : mN} {Y0 : mY} {S0 : mS} {c0 : Int32}
theorem vZ0.I (P : vZ0 g c0 N Y0 S0 Y S M) {k i f : Nat} {v : Int32} {M' : mM} (H' : mR g Y (uI S k i f v) M') (hv : vOK Y k f v) (hk : 20 ≤ k ∧ k ≠ 31 ∧ ¬ (35 ≤ k ∧ k ≤ 37) ∧ k ≠ 30 ∧ ¬ (k = 20 ∧ (f = 0 ∨ f = 1 ∨ f = 2)) ∧ ¬ (k = 28 ∧ (f = 3 ∨ f = 4)) ∧ ¬ (k = 29 ∧ (f = 3 ∨ f = 5))) : vZ0 g c0 (nU N k i f v) Y0 S0 Y (uI S k i f v) M' := ⟨n_I P.1 H' hv (by omega), (sI_uI (by omega)).trans P.2⟩
theorem vZ0.ft (P : vZ0 g c0 N Y0 S0 Y S M) {p : Nat} {v : Int32} {M' : mM} (H' : mR g Y (uI S 29 p 3 v) M') (hv : v ≠ 3) : vZ0 g c0 (nU N 29 p 3 v) Y0 S0 Y (uI S 29 p 3 v) M' := ⟨n_fate P.1 H' hv, (sI_uI (by omega)).trans P.2⟩
theorem vZ0.ca (P : vZ0 g c0 N Y0 S0 Y S M) {p s : Nat} {v : Int32} {M' : mM} (H' : mR g Y (uI (uI S 29 p 3 v) 29 p 5 (nI s)) M') (hs : s < yn Y 28) : vZ0 g c0 (nU (nU N 29 p 3 v) 29 p 5 (nI s)) Y0 S0 Y (uI (uI S 29 p 3 v) 29 p 5 (nI s)) M' := by
  obtain ⟨⟨⟨H, V, VV, VQ, VT⟩, F, R⟩, e⟩ := P
  exact ⟨⟨⟨H', vS_uI (vS_uI V (by omega)) (by omega), vV_caught VV hs, vQ_uI (vQ_uI VQ (by omega)) (by omega), vT_uI (vT_uI VT (by omega)) (by omega)⟩, (F.tr (mFm.uI (by omega))).tr (mFm.uI (by omega)), R.pI.pI⟩, ((sI_uI (by omega)).trans (sI_uI (by omega))).trans e⟩
/-- fates as they are told at the end -/
def fG (N : mN) (l : Nat) (w : Int32) (j : Nat) : Nat → Int32 := fun i => if i < j then (if nv N 22 l 1 < w then 1 else 2) else 1
end SIM20
