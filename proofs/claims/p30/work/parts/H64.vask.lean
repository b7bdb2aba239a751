/-! THE PURE SIDE, 15: the reference's soundness, checksum and asked methods -/
section VASK
variable {g : Nat → Nat} {Y : mY} {S : mS} {M : mM}
theorem v_th {Y0 : mY} {S0 : mS} (P : vP g Y0 S0 Y S M) {n : Int32} {κ : mM → Prop} (h : ∀ S' M', vP g Y0 S0 Y S' M' → sI S' 20 0 0 = n → S' = uI S 20 0 0 n → κ M') : m_p M (some (yA Y 20 0)) 19 0 (.int n) κ := s_pI P.1.1 P.1.2.1.x0 rfl rfl rfl (fun M1 H1 => h _ M1 (vP_I P H1 trivial (by omega)) sI_uI_s rfl)
theorem mVv.vg (VV : mVv Y S) : mVg Y S := fun s hs => VV.1 28 s 4 hs
/-- nothing but iterators and rows is made -/
def vU (Y Y' : mY) : Prop := (∀ k, k ≠ 32 → k ≠ 38 → yn Y' k = yn Y k) ∧ ∀ k i, i < yn Y k → yA Y' k i = yA Y k i
/-! asked -/

/-! the checksum -/
end VASK
