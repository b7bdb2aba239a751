/-! THE PURE SIDE, 19: the reference's hours -/
/-- the night and the hour -/
def vZ (S : mS) (nt hr : Nat) : Prop := sI S 20 0 1 = nI nt ∧ sI S 20 0 2 = nI hr ∧ sI S 20 0 0 = 0
theorem vZ.I {S : mS} {nt hr k i f : Nat} {v : Int32} (z : vZ S nt hr) (hk : k ≠ 20) : vZ (uI S k i f v) nt hr := ⟨(sI_uI (by omega)).trans z.1, (sI_uI (by omega)).trans z.2.1, (sI_uI (by omega)).trans z.2.2⟩
section VBEG
variable {g : Nat → Nat} {Y : mY} {S : mS} {M : mM}
/-- inside an hour: night and hour are told -/
def vT (g : Nat → Nat) (Y0 : mY) (S0 : mS) (Y : mY) (S : mS) (M : mM) (nt hr : Nat) : Prop := mVI g Y S M ∧ mFm Y0 S0 Y S ∧ (∀ k i f, qV k f = true → k ≠ 20 → sI S k i f = sI S0 k i f) ∧ yn Y 23 = yn Y0 23 ∧ yn Y 28 = yn Y0 28 ∧ vZ S nt hr
theorem vT.P {Y0 Y' : mY} {S0 S' : mS} {M' : mM} {nt hr : Nat} (T : vT g Y0 S0 Y S M nt hr) (h : vP g Y S Y' S' M') (z : vZ S' nt hr) : vT g Y0 S0 Y' S' M' nt hr := ⟨h.1, T.2.1.tr h.2.1, fun k i f q hk => (h.2.2.1 k i f q).trans (T.2.2.1 k i f q hk), h.2.2.2.1.trans T.2.2.2.1, h.2.2.2.2.trans T.2.2.2.2.1, z⟩
end VBEG
