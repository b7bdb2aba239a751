/-! THE PURE SIDE, 12: the reference's methods that only read -/
section VREAD
variable {g : Nat → Nat} {Y : mY} {S : mS} {M : mM}
theorem v_first (H : mR g Y S M) (V : mVs Y S) {t : Nat} (ht : t < yn Y 23) (hn : sL S 25 t ≠ []) {κ : Option Nat → mM → Prop} (h : ∀ s, s < 128 → (sL S 25 t)[0]? = some s → κ (some (yA Y 30 s)) M) : wJx4a65c_get_915e3 κ (some (yA Y 25 t)) 0 M := by
  have hl : 0 < (sL S 25 t).length := List.length_pos_iff.mpr hn
  have hx : (sL S 25 t)[0]? = some ((sL S 25 t)[0]) := List.getElem?_eq_getElem hl
  exact s_get (j := 0) H rfl (V.l25 ht) hx (h _ (by have := H.lL rfl (V.l25 ht) hx; rw [show m_ek 25 t = 30 from rfl, V.1.2.2.2.2.2.1] at this; exact this) hx)
theorem m_b12 : ∀ w : Nat, w < 12 → ((nI w &&& 31).toBitVec.smod 32).toNat = w := by decide +kernel
theorem m_s12 : ∀ w : Nat, w < 12 → m_shl 1 (nI w) = nI (2 ^ w) := by decide +kernel
theorem m_bit {m w : Nat} (hm : m < 4096) (hw : w < 12) : ((m_shr (nI m) (nI w)) &&& 1) = 1 ↔ m.testBit w = true := by
  unfold m_shr
  rw [pk_shrN (by omega) _ w (m_b12 w hw)]
  have hq : m / 2 ^ w < 4096 := Nat.lt_of_le_of_lt (Nat.div_le_self _ _) hm
  rw [pk_andN (m := 1) (by omega) 1 (by decide), show (1 : Int32) = nI 1 from rfl, nI_eq (by omega) (by omega), Nat.testBit_eq_decide_div_mod_eq]
  simp
theorem m_or (a b : Nat) : nI a ||| nI b = nI (a ||| b) := by
  apply Int32.toBitVec_inj.mp
  rw [Int32.toBitVec_or]
  show BitVec.ofNat 32 a ||| BitVec.ofNat 32 b = BitVec.ofNat 32 (a ||| b)
  apply BitVec.eq_of_toNat_eq
  simp [Nat.or_mod_two_pow]
/-- who has a gate stands in its queue -/
def mVg (Y : mY) (S : mS) : Prop := ∀ s, s < yn Y 28 → sI S 28 s 4 = -1 ∨ ∃ t, t < yn Y 23 ∧ sI S 28 s 4 = nI t
end VREAD
