/-! THE SIMULATION, 5: the reference's short methods that write -/
def vN (g : Nat → Nat) (N : mN) (Y0 : mY) (S0 : mS) (Y : mY) (S : mS) (M : mM) : Prop := mVI g Y S M ∧ mFm Y0 S0 Y S ∧ RV N Y S
section SIMV1
variable {g : Nat → Nat} {Y : mY} {S : mS} {M : mM} {N : mN} {Y0 : mY} {S0 : mS}
theorem n_I (P : vN g N Y0 S0 Y S M) {k i f : Nat} {v : Int32} {M' : mM} (H' : mR g Y (uI S k i f v) M') (hv : vOK Y k f v) (hk : 20 ≤ k ∧ k ≠ 31 ∧ ¬ (35 ≤ k ∧ k ≤ 37) ∧ k ≠ 30 ∧ ¬ (k = 20 ∧ (f = 1 ∨ f = 2)) ∧ ¬ (k = 28 ∧ (f = 3 ∨ f = 4)) ∧ ¬ (k = 29 ∧ (f = 3 ∨ f = 5))) : vN g (nU N k i f v) Y0 S0 Y (uI S k i f v) M' := by
  obtain ⟨⟨H, V, VV, VQ, VT⟩, F, R⟩ := P
  exact ⟨⟨H', vS_uI V (by omega), vV_uI VV hv (by omega), vQ_uI VQ (by omega), vT_uI VT (by omega)⟩, F.tr (mFm.uI (by omega)), R.pI⟩
theorem n_th (P : vN g N Y0 S0 Y S M) {n : Int32} {κ : mM → Prop} (h : ∀ S' M', vN g N Y0 S0 Y S' M' → sI S' 20 0 0 = n → κ M') : m_p M (some (yA Y 20 0)) 19 0 (.int n) κ := s_pI P.1.1 P.1.2.1.x0 rfl rfl rfl (fun M1 H1 => h _ M1 ⟨(n_I P H1 trivial (by omega)).1, (n_I P H1 trivial (by omega)).2.1, P.2.2.thr⟩ sI_uI_s)
end SIMV1
