/-! THE SIMULATION, 39b: Long.bitCount -/
section SIM39b
/-- how many bits -/
theorem c_bits {x : Int64} {κ : Int32 → mM → Prop} {M : mM} (h : κ (nI (kCt (fun i => x.toBitVec.getLsbD i) 64)) M) : wJ13_bitCount_95d88 κ x M := by
  unfold wJ13_bitCount_95d88
  have m1 : tn 6148914691236517205 = mMk 85 8 := by decide +kernel
  have m2 : tn 3689348814741910323 = mMk 51 8 := by decide +kernel
  have m3 : tn 1085102592571150095 = mMk 15 8 := by decide +kernel
  have p8 : (256 : Nat) ^ 8 = 2 ^ 64 := by decide
  have X := tn_lt x
  obtain ⟨i1, i2⟩ := mB_1 8 (tn x) (by rw [p8]; exact X)
  have e1 : tn (x - ((m_lushr x 1) &&& 6148914691236517205)) = mB bG1 8 (tn x) := by
    have ea : tn ((m_lushr x 1) &&& 6148914691236517205) = (tn x / 2) &&& mMk 85 8 := by
      rw [tn_and, m1, show (1 : Int32) = nI 1 from rfl, tn_shr x (by omega)]
    rw [tn_sub (by rw [ea]; exact i1), ea, i2]
  generalize x - ((m_lushr x 1) &&& 6148914691236517205) = I1 at e1 ⊢
  have l1 : mB bG1 8 (tn x) < 256 ^ 8 := mB_lt bG1_lt 8 _
  have i3 := mB_2 8 _ l1
  have l2 : mB (fun b => bG2 (bG1 b)) 8 (tn x) < 256 ^ 8 := mB_lt (fun b hb => bG2_lt _ (bG1_lt b hb)) 8 _
  rw [mB_c bG1_lt] at i3
  have e2 : tn ((I1 &&& 3689348814741910323) + ((m_lushr I1 2) &&& 3689348814741910323)) = mB (fun b => bG2 (bG1 b)) 8 (tn x) := by
    have ea : tn (I1 &&& 3689348814741910323) + tn ((m_lushr I1 2) &&& 3689348814741910323) = mB (fun b => bG2 (bG1 b)) 8 (tn x) := by
      rw [tn_and, tn_and, m2, show (2 : Int32) = nI 2 from rfl, tn_shr I1 (by omega), e1]
      exact i3
    rw [tn_add (by rw [ea, ← p8]; exact l2), ea]
  generalize (I1 &&& 3689348814741910323) + ((m_lushr I1 2) &&& 3689348814741910323) = I2 at e2 ⊢
  have i4 := mB_3 8 _ l2 (okB_2 8 (tn x))
  rw [mB_c (fun b hb => bG2_lt _ (bG1_lt b hb))] at i4
  have l3 := okB_s 8 _ (okB_2 8 (tn x)) l2
  rw [p8] at l3
  have e3 : tn ((I2 + (m_lushr I2 4)) &&& 1085102592571150095) = mB bPc 8 (tn x) := by
    have ea : tn (m_lushr I2 4) = tn I2 / 16 := by rw [show (4 : Int32) = nI 4 from rfl, tn_shr I2 (by omega)]
    rw [tn_and, m3, tn_add (by rw [ea, e2]; omega), ea, e2]
    exact i4
  generalize (I2 + (m_lushr I2 4)) &&& 1085102592571150095 = I3 at e3 ⊢
  have sb := sB_t 8 (tn x)
  have hc : ∀ b, bPc (b % 256) ≤ 8 := fun b => (bPc_8 _ (Nat.mod_lt _ (by omega))).2
  simp only [mB] at e3
  simp only [sB] at sb
  have h0 := hc (tn x)
  have h1 := hc (tn x / 256)
  have h2 := hc (tn x / 256 / 256)
  have h3 := hc (tn x / 256 / 256 / 256)
  have h4 := hc (tn x / 256 / 256 / 256 / 256)
  have h5 := hc (tn x / 256 / 256 / 256 / 256 / 256)
  have h6 := hc (tn x / 256 / 256 / 256 / 256 / 256 / 256)
  have h7 := hc (tn x / 256 / 256 / 256 / 256 / 256 / 256 / 256)
  clear i1 i2 i3 i4 l1 l2 e1 e2 X m1 m2 m3
  generalize bPc (tn x % 256) = c0 at e3 sb h0
  generalize bPc (tn x / 256 % 256) = c1 at e3 sb h1
  generalize bPc (tn x / 256 / 256 % 256) = c2 at e3 sb h2
  generalize bPc (tn x / 256 / 256 / 256 % 256) = c3 at e3 sb h3
  generalize bPc (tn x / 256 / 256 / 256 / 256 % 256) = c4 at e3 sb h4
  generalize bPc (tn x / 256 / 256 / 256 / 256 / 256 % 256) = c5 at e3 sb h5
  generalize bPc (tn x / 256 / 256 / 256 / 256 / 256 / 256 % 256) = c6 at e3 sb h6
  generalize bPc (tn x / 256 / 256 / 256 / 256 / 256 / 256 / 256 % 256) = c7 at e3 sb h7
  have T3 : tn I3 = B8 c0 c1 c2 c3 c4 c5 c6 c7 := by
    rw [e3, Nat.mul_zero, Nat.add_zero]
    rfl
  clear e3 l3 hc
  have e4 : tn (I3 + (m_lushr I3 8)) = B8 (c0 + c1) (c1 + c2) (c2 + c3) (c3 + c4) (c4 + c5) (c5 + c6) (c6 + c7) (c7 + 0) := by
    have ea : tn (m_lushr I3 8) = B8 c1 c2 c3 c4 c5 c6 c7 0 := by rw [show (8 : Int32) = nI 8 from rfl, tn_shr I3 (by omega), T3]; exact B8_d (lt256 h0 (by omega))
    rw [tn_add (by rw [ea, T3, B8_a]; exact B8_lt (by omega) (by omega) (by omega) (by omega) (by omega) (by omega) (by omega) (by omega)), ea, T3, B8_a]
  generalize I3 + (m_lushr I3 8) = I4 at e4 ⊢
  have e5 : tn (I4 + (m_lushr I4 16)) = B8 (c0 + c1 + (c2 + c3)) (c1 + c2 + (c3 + c4)) (c2 + c3 + (c4 + c5)) (c3 + c4 + (c5 + c6)) (c4 + c5 + (c6 + c7)) (c5 + c6 + (c7 + 0)) (c6 + c7 + 0) (c7 + 0 + 0) := by
    have ea : tn (m_lushr I4 16) = B8 (c2 + c3) (c3 + c4) (c4 + c5) (c5 + c6) (c6 + c7) (c7 + 0) 0 0 := by rw [show (16 : Int32) = nI 16 from rfl, tn_shr I4 (by omega), e4]; exact B8_d2 (by omega) (by omega)
    rw [tn_add (by rw [ea, e4, B8_a]; exact B8_lt (by omega) (by omega) (by omega) (by omega) (by omega) (by omega) (by omega) (by omega)), ea, e4, B8_a]
  generalize I4 + (m_lushr I4 16) = I5 at e5 ⊢
  have e6 : tn (I5 + (m_lushr I5 32)) % 128 = c0 + c1 + (c2 + c3) + (c4 + c5 + (c6 + c7)) := by
    have ea : tn (m_lushr I5 32) = B8 (c4 + c5 + (c6 + c7)) (c5 + c6 + (c7 + 0)) (c6 + c7 + 0) (c7 + 0 + 0) 0 0 0 0 := by rw [show (32 : Int32) = nI 32 from rfl, tn_shr I5 (by omega), e5]; exact B8_d4 (by omega) (by omega) (by omega) (by omega)
    rw [tn_add (by rw [ea, e5, B8_a]; exact B8_lt (by omega) (by omega) (by omega) (by omega) (by omega) (by omega) (by omega) (by omega)), ea, e5, B8_a]
    exact B8_m (by omega)
  rw [tn_32, e6]
  have es : kCt (fun i => x.toBitVec.getLsbD i) 64 = c0 + c1 + (c2 + c3) + (c4 + c5 + (c6 + c7)) := by
    rw [kCt_e (q := fun i => (tn x).testBit i) 64 (fun j _ => (BitVec.testBit_toNat x.toBitVec).symm), show (64 : Nat) = 8 * 8 from rfl, sb]
    omega
  rw [← es]
  exact h
end SIM39b
theorem nCn_nI {p : Nat → Bool} : ∀ n, nCn p n = nI (kCt p n) := by
  intro n
  induction n with
  | zero => rfl
  | succ n ih =>
    show (if p n = true then nCn p n + 1 else nCn p n) = nI (kCt p n + (if p n = true then 1 else 0))
    by_cases z : p n = true
    · rw [if_pos z, if_pos z, ih, nI_1]
    · rw [if_neg z, if_neg z, ih]; rfl
