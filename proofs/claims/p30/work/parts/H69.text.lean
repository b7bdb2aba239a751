/-! THE PURE SIDE, 20: text that grows -/
theorem shr0 (x : Int32) : m_shr x 0 = x := by
  unfold m_shr
  rw [show (0 : Int32) &&& 31 = 0 from rfl]
  simp
theorem shl0 (x : Int32) : m_shl x 0 = x := by
  unfold m_shl
  rw [show (0 : Int32) &&& 31 = 0 from rfl]
  simp
theorem ss_a : ∀ n : Nat, n < 12 → ¬ nI n < 0 ∧ 0 ≤ nI n ∧ (-100) < -(nI n) ∧ -(-(nI n)) = nI n := by decide +kernel
theorem ss_b : ∀ n : Nat, n < 10 → ¬ (-(nI n) ≤ (-10 : Int32)) ∧ (-9) ≤ -(nI n) := by decide +kernel
theorem ss_c : ∀ n : Nat, n < 12 → 10 ≤ n → (-(nI n) ≤ (-10 : Int32)) ∧ ¬ (-(nI n) ≤ (10 * (-10) : Int32)) ∧ ¬ ((-9) ≤ -(nI n)) := by decide +kernel
/-- what is known of the constants -/
def mKs (g : Nat → Nat) (Y : mY) (S : mS) : Prop := (yn Y 35 = 2 ∧ yn Y 36 = 3 ∧ yn Y 37 = 3) ∧ (yA Y 35 0 = g 2 ∧ yA Y 35 1 = g 3 ∧ sC S 35 0 = 100 ∧ sC S 35 1 = 100) ∧ ∀ i, i < 3 → yA Y 36 i = g (11 + i) ∧ sI S 36 i 1 = 0 ∧ sb_Fit (sE S 37 i) ∧ sC S 37 i ≤ 1
/-- a growing text at b, outside the state -/
def sbR (g : Nat → Nat) (Y : mY) (S : mS) (M : mM) (b N len : Nat) : Prop := ∃ (v : Nat) (f : Nat → Int32), mR g Y S M ∧ mFr Y S b ∧ mFr Y S v ∧ b ≠ v ∧ M b = some (.inr (1, [va_rf (some v), .int 0, .int 0, .int (nI len)])) ∧ M v = some (.inl (6, N, .inl f)) ∧ sb_Fit f ∧ len ≤ N
def eN (N need : Nat) : Nat := if need ≤ N then N else 2 * N + 2
def eK (N need : Nat) : Nat := if need ≤ N then 0 else 1
def eB (N need : Nat) : Nat := if need ≤ N then 0 else 2 * N + 2
section SB
variable {g : Nat → Nat} {Y : mY} {S : mS} {M : mM}
theorem r_gI {a c k : Nat} {fs : List Value} {x : Int32} (ha : M a = some (.inr (c, fs))) (hx : fs[k]? = some (.int x)) {κ : Int32 → Prop} (h : κ x) : m_gI M (some a) c k κ := ⟨a, fs, x, rfl, ha, hx, h⟩
theorem r_gR {a c k : Nat} {fs : List Value} {x : Option Nat} (ha : M a = some (.inr (c, fs))) (hx : fs[k]? = some (va_rf x)) {κ : Option Nat → Prop} (h : κ x) : m_gR M (some a) c k κ := ⟨a, fs, x, rfl, ha, hx, h⟩
theorem r_stB {v N i : Nat} {f : Nat → Int32} {x : Int32} {κ : mM → Prop} (hv : M v = some (.inl (6, N, .inl f))) (hi : i < N) (hN : N < 2 ^ 31) (h : ∀ M', M' v = some (.inl (6, N, .inl (upd f i (vp_nar .byte x)))) → (∀ q, q ≠ v → M' q = M q) → κ M') : m_stB M (some v) (nI i) x κ := by
  refine ⟨v, N, f, rfl, hv, vp_in_nI hi hN, ?_⟩
  rw [nI_clamp (by omega)]
  exact h _ (m_up_s _ _ _) (fun q hq => m_up_n hq)
theorem r_copyB {a0 ak n0 a n1 sp dp n : Nat} {f f1 : Nat → Int32} {κ : mM → Prop} (h0 : M a0 = some (.inl (ak, n0, .inl f))) (hk : ak = 6 ∨ ak = 9) (h1 : M a = some (.inl (6, n1, .inl f1))) (hn0 : sp + n ≤ n0) (hn1 : dp + n ≤ n1) (hb0 : n0 < 2 ^ 31) (hb1 : n1 < 2 ^ 31) (hf : sb_Fit f) (h : ∀ M', M' a = some (.inl (6, n1, .inl (va_cpy f f1 sp dp n))) → (∀ q, q ≠ a → M' q = M q) → κ M') : m_copyB M (some a0) (nI sp) (some a) (nI dp) (nI n) κ := by
  refine ⟨a0, ak, n0, a, n1, f, f1, rfl, rfl, h0, hk, h1, nI_pos (by omega), nI_pos (by omega), nI_pos (by omega), ?_⟩
  rw [nI_clamp (by omega), nI_clamp (by omega), nI_clamp (by omega)]
  exact ⟨hn0, hn1, fun i _ => hf _, h _ (m_up_s _ _ _) (fun q hq => m_up_n hq)⟩
theorem s_ldB (H : mR g Y S M) {i j : Nat} (hi : i < yn Y 35) (hj : j < sC S 35 i) (hb : sC S 35 i < 2 ^ 31) {κ : Int32 → Prop} (h : ∀ x, κ x) : m_ldB M (some (yA Y 35 i)) (nI j) κ := by
  refine ⟨_, 9, _, _, rfl, H.ari hi (by decide) rfl, Or.inr rfl, vp_in_nI hj hb, ?_⟩
  exact h _
end SB
