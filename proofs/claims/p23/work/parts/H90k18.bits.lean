/-! THE SIMULATION, 9: sets of verses -/
theorem lgc0 {a b : Int64} : lg_cmp a b = 0 ↔ a = b := by
  unfold lg_cmp
  constructor
  · intro h
    by_cases z : a > b
    · rw [if_pos z] at h
      exact absurd h (by decide)
    · rw [if_neg z] at h
      by_cases w : a = b
      · exact w
      · rw [if_neg w] at h
        exact absurd h (by decide)
  · intro h
    rw [h, if_neg (Int64.lt_irrefl (a := b)), if_pos rfl]
theorem lush_ix : ∀ v : Nat, v < 64 → ((nI v).toInt64.toUInt64 &&& Int64.toUInt64 63) = UInt64.ofNat v := by decide +kernel
theorem lush_md : ∀ v : Nat, v < 64 → ((UInt64.ofNat v).toBitVec % 64).toNat = v := by decide +kernel
theorem lush_b (x : Int64) {v : Nat} (hv : v < 64) : (m_lushr x (nI v)).toBitVec = x.toBitVec >>> v := by
  unfold m_lushr
  rw [lush_ix v hv]
  show x.toBitVec >>> ((UInt64.ofNat v).toBitVec % 64) = _
  rw [BitVec.ushiftRight_eq', lush_md v hv]
theorem one_bit (b : BitVec 64) : b &&& 1#64 = 0#64 ↔ b.getLsbD 0 = false := by
  constructor
  · intro h
    have := congrArg (fun b => BitVec.getLsbD b 0) h
    simpa using this
  · intro h
    apply BitVec.eq_of_getLsbD_eq
    intro i hi
    rw [BitVec.getLsbD_and, BitVec.getLsbD_zero]
    by_cases z : i = 0
    · rw [z, h]; rfl
    · rw [BitVec.getLsbD_one]
      simp [z]
theorem lush_bit (x : Int64) {v : Nat} (hv : v < 64) : ((m_lushr x (nI v)) &&& 1) = 0 ↔ x.toBitVec.getLsbD v = false := by
  rw [← Int64.toBitVec_inj, Int64.toBitVec_and, lush_b x hv]
  show (x.toBitVec >>> v) &&& 1#64 = 0#64 ↔ _
  rw [one_bit, BitVec.getLsbD_ushiftRight, Nat.add_zero]
theorem lshl_ix : ∀ v : Nat, v < 64 → (m_lshl 1 (nI v)).toBitVec = BitVec.ofNat 64 (2 ^ v) := by decide +kernel
/-- a set that holds one verse more -/
theorem or_bit (x : Int64) {v i : Nat} (hv : v < 64) (hi : i < 64) : (x ||| m_lshl 1 (nI v)).toBitVec.getLsbD i = (x.toBitVec.getLsbD i || decide (i = v)) := by
  rw [Int64.toBitVec_or, lshl_ix v hv, BitVec.getLsbD_or, BitVec.getLsbD_ofNat, Nat.testBit_two_pow]
  congr 1
  by_cases z : i = v
  · rw [z]; simp; omega
  · have : ¬ v = i := fun w => z w.symm
    simp [z, this]
theorem vBit_put (lo hi : Int64) {v i : Nat} (hv : v < 97) (h97 : i < 128) : vBit (if v < 64 then lo ||| m_lshl 1 (nI v) else lo) (if v < 64 then hi else hi ||| m_lshl 1 (nI (v - 64))) i = (vBit lo hi i || decide (i = v)) := by
  unfold vBit
  by_cases z : v < 64
  · rw [if_pos z, if_pos z]
    by_cases w : i < 64
    · rw [if_pos w, if_pos w, or_bit lo z w]
    · rw [if_neg w, if_neg w]
      have : ¬ i = v := by omega
      simp [this]
  · rw [if_neg z, if_neg z]
    by_cases w : i < 64
    · rw [if_pos w, if_pos w]
      have : ¬ i = v := by omega
      simp [this]
    · rw [if_neg w, if_neg w, or_bit hi (by omega) (by omega)]
      congr 1
      by_cases q : i = v
      · simp [q]
      · have : ¬ i - 64 = v - 64 := by omega
        simp [q, this]
theorem vBit_or (a b c d : Int64) (v : Nat) : vBit (a ||| c) (b ||| d) v = (vBit a b v || vBit c d v) := by
  unfold vBit
  by_cases z : v < 64
  · rw [if_pos z, if_pos z, if_pos z, Int64.toBitVec_or, BitVec.getLsbD_or]
  · rw [if_neg z, if_neg z, if_neg z, Int64.toBitVec_or, BitVec.getLsbD_or]
