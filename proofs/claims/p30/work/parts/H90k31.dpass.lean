/-! THE SIMULATION, 22: hours of the reference -/
theorem nWa_W {N : mN} {r : Nat → Nat → Bool} : ∀ j, nWa j (nW N r) = nW (nWa j N) r := by
  intro j
  induction j with
  | zero => rfl
  | succ j ih =>
    show nU (nWa j (nW N r)) 23 j 5 (if nv (nWa j (nW N r)) 23 j 3 ≤ m_rem ((nv (nWa j (nW N r)) 20 0 2 - nv (nWa j (nW N r)) 23 j 2) + 24) 24 then 0 else nv (nWa j (nW N r)) 23 j 5 + 1) = _
    rw [ih]
    rfl
theorem RV.nr' {N : mN} {Y : mY} {S : mS} {r r' : Nat → Nat → Bool} (h : RV (nW N r) Y S) (e : ∀ t v, t < yn Y 23 → v < 97 → r' t v = r t v) : RV (nW N r') Y S := by
  obtain ⟨h1, h2, h3, h4, h5⟩ := h
  refine ⟨h1, h2, h3, fun t v ht hv => ?_, h5⟩
  show sE S 26 t v = if r' t v = true then 1 else 0
  rw [e t v ht hv]
  exact h4 t v ht hv
/-- verses that come to gates, of the reference -/
def vMo (Y : mY) (S : mS) (B : Nat → Nat → Bool) : Prop := ∀ t v, t < yn Y 23 → v < 97 → sE S 27 0 (t * 97 + v) = if B t v = true then 1 else 0
section SIM22
variable {g : Nat → Nat} {Y : mY} {S : mS} {M : mM} {Y0 : mY} {S0 : mS} {c0 : Int32}
theorem vZ0.e27 {N : mN} (P : vZ0 g c0 N Y0 S0 Y S M) {j : Nat} {v : Int32} {M' : mM} (H' : mR g Y (uE S 27 0 j v) M') : vZ0 g c0 N Y0 S0 Y (uE S 27 0 j v) M' := by
  obtain ⟨⟨⟨H, V, VV, VQ, VT⟩, F, R⟩, e⟩ := P
  exact ⟨⟨⟨H', vS_uE V, VV.of (fun _ _ _ _ => rfl), VQ.of (fun _ => rfl) (fun _ => rfl) (fun _ => rfl), VT⟩, F.tr (mFm.uE (by omega)), R.cg (fun _ _ _ _ => rfl) (fun _ => rfl) rfl (fun t u => show (if 26 = 27 ∧ t = 0 ∧ u = j then v else sE S 26 t u) = _ from if_neg (by omega))⟩, e⟩
theorem vZ0.rev {N : mN} (P : vZ0 g c0 N Y0 S0 Y S M) {t v : Nat} {M' : mM} (H' : mR g Y (uE S 26 t v 1) M') : vZ0 g c0 (nRev N t v) Y0 S0 Y (uE S 26 t v 1) M' := ⟨n_rev P.1 H', P.2⟩
/-- revoked as far as gate i, verse j -/
def rIJ (N : mN) (B : Nat → Nat → Bool) (i j t v : Nat) : Bool := nr N t v || (if t < i ∨ (t = i ∧ v < j) then B t v else false)
/-- as far as gate i, other gate j -/
def bIJ (N : mN) (n i j t v : Nat) : Bool := if t < i then nMo N t v n else if t = i then nMo N t v j else false
theorem RV.nx {N : mN} (R : RV N Y S) {i f : Nat} {v : Int32} : RV N Y (uI S 32 i f v) := R.cg (fun k i f q => sI_uI (by have := rK_d q; omega)) (fun _ => rfl) rfl (fun _ _ => rfl)
theorem vZ0.nx {N : mN} (P : vZ0 g c0 N Y0 S0 Y S M) {i c : Nat} {M' : mM} (H' : mR g Y (uI (uI S 32 i 0 (nI (c + 1))) 32 i 1 (nI c)) M') : vZ0 g c0 N Y0 S0 Y (uI (uI S 32 i 0 (nI (c + 1))) 32 i 1 (nI c)) M' := by
  obtain ⟨⟨⟨H, V, VV, VQ, VT⟩, F, R⟩, e⟩ := P
  exact ⟨⟨⟨H', vS_uI (vS_uI V (by omega)) (by omega), vV_uI (k := 32) (vV_uI (k := 32) VV trivial (by omega)) trivial (by omega), vQ_uI (vQ_uI VQ (by omega)) (by omega), vT_uI (vT_uI VT (by omega)) (by omega)⟩, (F.tr (mFm.uI (by omega))).tr (mFm.uI (by omega)), R.nx.nx⟩, ((sI_uI (by omega)).trans (sI_uI (by omega))).trans e⟩
/-- something of the reference's tools has come -/
theorem RV.X1 {N : mN} (R : RV N Y S) (V : mVs Y S) {kn : Nat} (hk : kn = 32 ∨ kn = 38) {Y1 : mY} {S1 : mS} (a : mX1 Y S kn Y1 S1) : RV N Y1 S1 := by
  obtain ⟨a1, a2, a3, a5⟩ := a
  obtain ⟨h1, h2, h3, h4, h5⟩ := R
  have m : ∀ k i, k ≠ 32 → k ≠ 38 → mEq S1 S k i := fun k i w1 w2 => a5 k i (by omega)
  refine ⟨by rw [a3 23 (by omega), a3 28 (by omega), a3 29 (by omega)]; exact h1, fun k i f q hi => ?_, fun t ht => ?_, fun t v ht hv => ?_, (m 24 3 (by omega) (by omega)).2.2.2.2.1.trans h5⟩
  · have hd := rK_d q
    rw [a3 k (by omega)] at hi
    exact (congrFun (m k i (by omega) (by omega)).1 f).trans (h2 k i f q hi)
  · rw [a3 23 (by omega)] at ht
    exact (m 25 t (by omega) (by omega)).2.2.2.2.1.trans (h3 t ht)
  · rw [a3 23 (by omega)] at ht
    exact (congrFun (m 26 t (by omega) (by omega)).2.2.2.2.2.2.2.1 v).trans (h4 t v ht hv)
theorem nHour_t {N : mN} {nt hr : Nat} (h1 : nv N 20 0 1 = nI nt) (h2 : nv N 20 0 2 = nI hr) (hh : hr ≤ 23) : ∃ nt' hr', hr' ≤ 23 ∧ 24 * nt' + hr' = 24 * nt + hr + 1 ∧ nv (nHour N) 20 0 1 = nI nt' ∧ nv (nHour N) 20 0 2 = nI hr' := by
  have e : ∀ f, nv (nHour N) 20 0 f = nv (nHour1 N) 20 0 f := fun f => nWa_v (by omega) _
  rw [e, e]
  by_cases z : hr + 1 = 24
  · have e1 : nHour1 N = nNight (nU N 20 0 2 (nv N 20 0 2 + 1)) := if_pos (by rw [h2, nI_1, z]; rfl)
    rw [e1]
    unfold nNight
    rw [nP0_v (by omega), nP0_v (by omega), nL0_v (by omega), nL0_v (by omega)]
    refine ⟨nt + 1, 0, by omega, by omega, ?_, ?_⟩
    · rw [nv_U_s, nv_U (by omega), h1, nI_1]
    · rw [nv_U (by omega), nv_U_s]
      rfl
  · have e1 : nHour1 N = nU N 20 0 2 (nv N 20 0 2 + 1) := if_neg (by rw [h2, nI_1]; exact fun w => z ((nI_eq (a := hr + 1) (b := 24) (by omega) (by omega)).mp w))
    rw [e1]
    refine ⟨nt, hr + 1, by omega, by omega, ?_, ?_⟩
    · rw [nv_U (by omega), h1]
    · rw [nv_U_s, h2, nI_1]
end SIM22
