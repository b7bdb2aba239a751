/-! THE SIMULATION, 44: the checksum, of the reference -/
/-- the reference's state, and the sum so far -/
def vZJ (g : Nat → Nat) (c0 : Int64) (N : mN) (Y0 : mY) (S0 : mS) (Y : mY) (S : mS) (M : mM) : Prop := vN g N Y0 S0 Y S M ∧ sJ S 20 0 12 = c0
section SIM44
variable {g : Nat → Nat} {Y : mY} {S : mS} {M : mM} {N : mN} {Y0 : mY} {S0 : mS}
theorem vZJ.nx {c0 : Int64} (P : vZJ g c0 N Y0 S0 Y S M) {i c : Nat} {M' : mM} (H' : mR g Y (uI (uI S 32 i 0 (nI (c + 1))) 32 i 1 (nI c)) M') : vZJ g c0 N Y0 S0 Y (uI (uI S 32 i 0 (nI (c + 1))) 32 i 1 (nI c)) M' := ⟨vN_nx P.1 H', P.2⟩
end SIM44
