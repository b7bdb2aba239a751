/-! THE SIMULATION, 34: how many bits a Long holds; gates asked of the class -/
def bG1 (b : Nat) : Nat := b - ((b / 2) &&& 85)
def bG2 (b : Nat) : Nat := (b &&& 51) + ((b / 4) &&& 51)
def bG3 (b : Nat) : Nat := (b + b / 16) % 16
/-- byte by byte -/
def mB (g : Nat → Nat) : Nat → Nat → Nat
  | 0, _ => 0
  | n + 1, x => g (x % 256) + 256 * mB g n (x / 256)
def mMk (m : Nat) : Nat → Nat
  | 0 => 0
  | n + 1 => m + 256 * mMk m n
theorem land256 (x y : Nat) : x &&& y = ((x % 256) &&& (y % 256)) + 256 * ((x / 256) &&& (y / 256)) := by
  have h1 : (x &&& y) % 2 ^ 8 = ((x % 2 ^ 8) &&& (y % 2 ^ 8)) := Nat.and_mod_two_pow
  have h2 : (x &&& y) / 2 ^ 8 = ((x / 2 ^ 8) &&& (y / 2 ^ 8)) := by
    rw [← Nat.shiftRight_eq_div_pow, ← Nat.shiftRight_eq_div_pow, ← Nat.shiftRight_eq_div_pow, Nat.shiftRight_and_distrib]
  have h3 := Nat.div_add_mod (x &&& y) (2 ^ 8)
  rw [h1, h2] at h3
  show x &&& y = ((x % 2 ^ 8) &&& (y % 2 ^ 8)) + 2 ^ 8 * ((x / 2 ^ 8) &&& (y / 2 ^ 8))
  omega
theorem mMk_s (m n : Nat) (hm : m < 256) : mMk m (n + 1) % 256 = m ∧ mMk m (n + 1) / 256 = mMk m n := by
  show (m + 256 * mMk m n) % 256 = m ∧ (m + 256 * mMk m n) / 256 = mMk m n
  omega
theorem b85 : ∀ c, c < 2 → ∀ b, b < 256 → (b / 2 + 128 * c) &&& 85 = (b / 2) &&& 85 := by decide +kernel
theorem b51 : ∀ c, c < 4 → ∀ b, b < 256 → (b / 4 + 64 * c) &&& 51 = (b / 4) &&& 51 := by decide +kernel
theorem b85l : ∀ b, b < 256 → (b / 2) &&& 85 ≤ b := by decide +kernel
theorem bG1_lt : ∀ b, b < 256 → bG1 b < 256 := by decide +kernel
theorem bG2_lt : ∀ b, b < 256 → bG2 b < 256 := by decide +kernel
theorem bG2_ok : ∀ b, b < 256 → bG2 (bG1 b) % 16 ≤ 4 ∧ bG2 (bG1 b) / 16 ≤ 4 := by decide +kernel
theorem mB_1 : ∀ n x, x < 256 ^ n → (x / 2) &&& mMk 85 n ≤ x ∧ x - ((x / 2) &&& mMk 85 n) = mB bG1 n x := by
  intro n
  induction n with
  | zero =>
    intro x hx
    have : x = 0 := by
      rw [Nat.pow_zero] at hx
      omega
    rw [this]
    exact ⟨by decide, rfl⟩
  | succ n ih =>
    intro x hx
    rw [Nat.pow_succ] at hx
    obtain ⟨i1, i2⟩ := ih (x / 256) (by omega)
    obtain ⟨m1, m2⟩ := mMk_s 85 n (by omega)
    have e1 : x / 2 % 256 = x % 256 / 2 + 128 * (x / 256 % 2) := by omega
    have e2 : x / 2 / 256 = x / 256 / 2 := by omega
    rw [land256 (x / 2), m1, m2, e1, e2, b85 _ (Nat.mod_lt _ (by omega)) _ (Nat.mod_lt _ (by omega))]
    have l := b85l (x % 256) (Nat.mod_lt _ (by omega))
    show _ ∧ _ = bG1 (x % 256) + 256 * mB bG1 n (x / 256)
    rw [← i2]
    unfold bG1
    generalize (x / 256 / 2) &&& mMk 85 n = U at i1 ⊢
    generalize (x % 256 / 2) &&& 85 = T at l ⊢
    clear i2 m1 m2 e1 e2 ih
    omega
theorem mB_2 : ∀ n x, x < 256 ^ n → (x &&& mMk 51 n) + ((x / 4) &&& mMk 51 n) = mB bG2 n x := by
  intro n
  induction n with
  | zero =>
    intro x hx
    have : x = 0 := by
      rw [Nat.pow_zero] at hx
      omega
    rw [this]
    rfl
  | succ n ih =>
    intro x hx
    rw [Nat.pow_succ] at hx
    have i := ih (x / 256) (by omega)
    obtain ⟨m1, m2⟩ := mMk_s 51 n (by omega)
    have e1 : x / 4 % 256 = x % 256 / 4 + 64 * (x / 256 % 4) := by omega
    have e2 : x / 4 / 256 = x / 256 / 4 := by omega
    rw [land256 (x / 4), land256 x, m1, m2, e1, e2, b51 _ (Nat.mod_lt _ (by omega)) _ (Nat.mod_lt _ (by omega))]
    show _ = bG2 (x % 256) + 256 * mB bG2 n (x / 256)
    rw [← i]
    unfold bG2
    omega
/-- no half byte is above four -/
def okB : Nat → Nat → Prop
  | 0, _ => True
  | n + 1, x => x % 256 % 16 ≤ 4 ∧ x % 256 / 16 ≤ 4 ∧ okB n (x / 256)
theorem mB_3 : ∀ n x, x < 256 ^ n → okB n x → (x + x / 16) &&& mMk 15 n = mB bG3 n x := by
  intro n
  induction n with
  | zero =>
    intro x hx _
    exact Nat.and_zero _
  | succ n ih =>
    intro x hx ⟨o1, o2, o3⟩
    rw [Nat.pow_succ] at hx
    have i := ih (x / 256) (by omega) o3
    obtain ⟨m1, m2⟩ := mMk_s 15 n (by omega)
    have hA : x / 256 % 16 ≤ 4 := by
      cases n with
      | zero =>
        rw [Nat.pow_zero] at hx
        omega
      | succ n =>
        have := o3.1
        omega
    have e1 : (x + x / 16) % 256 = x % 256 + x % 256 / 16 + 16 * (x / 256 % 16) := by omega
    have e2 : (x + x / 16) / 256 = x / 256 + x / 256 / 16 := by omega
    rw [land256 (x + x / 16), m1, m2, e1, e2, i]
    show _ = bG3 (x % 256) + 256 * mB bG3 n (x / 256)
    have q := Nat.and_two_pow_sub_one_eq_mod (x % 256 + x % 256 / 16 + 16 * (x / 256 % 16)) 4
    rw [show (15 : Nat) = 2 ^ 4 - 1 from rfl, q]
    unfold bG3
    omega
theorem mB_lt {f : Nat → Nat} (hf : ∀ b, b < 256 → f b < 256) : ∀ n x, mB f n x < 256 ^ n := by
  intro n
  induction n with
  | zero => intro x; exact Nat.zero_lt_one
  | succ n ih =>
    intro x
    have h1 := hf (x % 256) (Nat.mod_lt _ (by omega))
    have h2 := ih (x / 256)
    show f (x % 256) + 256 * mB f n (x / 256) < 256 ^ (n + 1)
    rw [Nat.pow_succ]
    omega
theorem mB_c {f h : Nat → Nat} (hf : ∀ b, b < 256 → f b < 256) : ∀ n x, mB h n (mB f n x) = mB (fun b => h (f b)) n x := by
  intro n
  induction n with
  | zero => intro x; rfl
  | succ n ih =>
    intro x
    have h1 := hf (x % 256) (Nat.mod_lt _ (by omega))
    show h ((f (x % 256) + 256 * mB f n (x / 256)) % 256) + 256 * mB h n ((f (x % 256) + 256 * mB f n (x / 256)) / 256) = h (f (x % 256)) + 256 * mB (fun b => h (f b)) n (x / 256)
    rw [show (f (x % 256) + 256 * mB f n (x / 256)) % 256 = f (x % 256) by omega, show (f (x % 256) + 256 * mB f n (x / 256)) / 256 = mB f n (x / 256) by omega, ih]
theorem okB_2 : ∀ n x, okB n (mB (fun b => bG2 (bG1 b)) n x) := by
  intro n
  induction n with
  | zero => intro x; trivial
  | succ n ih =>
    intro x
    have hb : x % 256 < 256 := Nat.mod_lt _ (by omega)
    have h1 := bG2_lt _ (bG1_lt _ hb)
    obtain ⟨o1, o2⟩ := bG2_ok _ hb
    show (bG2 (bG1 (x % 256)) + 256 * mB (fun b => bG2 (bG1 b)) n (x / 256)) % 256 % 16 ≤ 4 ∧ (bG2 (bG1 (x % 256)) + 256 * mB (fun b => bG2 (bG1 b)) n (x / 256)) % 256 / 16 ≤ 4 ∧ okB n ((bG2 (bG1 (x % 256)) + 256 * mB (fun b => bG2 (bG1 b)) n (x / 256)) / 256)
    rw [show (bG2 (bG1 (x % 256)) + 256 * mB (fun b => bG2 (bG1 b)) n (x / 256)) % 256 = bG2 (bG1 (x % 256)) by omega, show (bG2 (bG1 (x % 256)) + 256 * mB (fun b => bG2 (bG1 b)) n (x / 256)) / 256 = mB (fun b => bG2 (bG1 b)) n (x / 256) by omega]
    exact ⟨o1, o2, ih _⟩
def bPc (b : Nat) : Nat := bG3 (bG2 (bG1 b))
/-- bits of a byte, of a number -/
def sB : Nat → Nat → Nat
  | 0, _ => 0
  | n + 1, x => bPc (x % 256) + sB n (x / 256)
theorem bPc_8 : ∀ b, b < 256 → bPc b = kCt (fun i => b.testBit i) 8 ∧ bPc b ≤ 8 := by decide +kernel
theorem kCt_e {p q : Nat → Bool} : ∀ n, (∀ j, j < n → p j = q j) → kCt p n = kCt q n := fun n h => Nat.le_antisymm (kCt_le n (fun j hj w => by rw [← h j hj]; exact w)) (kCt_le n (fun j hj w => by rw [h j hj]; exact w))
theorem kCt_a {p : Nat → Bool} (m : Nat) : ∀ n, kCt p (m + n) = kCt p m + kCt (fun j => p (m + j)) n := by
  intro n
  induction n with
  | zero => rfl
  | succ n ih =>
    show kCt p (m + n) + (if p (m + n) = true then 1 else 0) = kCt p m + (kCt (fun j => p (m + j)) n + (if p (m + n) = true then 1 else 0))
    rw [ih, Nat.add_assoc]
theorem sB_t : ∀ n x, kCt (fun i => x.testBit i) (8 * n) = sB n x := by
  intro n
  induction n with
  | zero => intro x; rfl
  | succ n ih =>
    intro x
    rw [show 8 * (n + 1) = 8 + 8 * n by omega, kCt_a]
    show _ = bPc (x % 256) + sB n (x / 256)
    rw [(bPc_8 _ (Nat.mod_lt _ (by omega))).1, ← ih (x / 256)]
    congr 1
    · refine kCt_e 8 (fun j hj => ?_)
      rw [show (256 : Nat) = 2 ^ 8 from rfl, Nat.testBit_mod_two_pow]
      simp [hj]
    · refine kCt_e (8 * n) (fun j _ => ?_)
      rw [show (256 : Nat) = 2 ^ 8 from rfl, Nat.testBit_div_two_pow, Nat.add_comm]
/-- a Long as a number -/
def tn (x : Int64) : Nat := x.toBitVec.toNat
theorem tn_lt (x : Int64) : tn x < 2 ^ 64 := x.toBitVec.isLt
theorem tn_sub {x y : Int64} (h : tn y ≤ tn x) : tn (x - y) = tn x - tn y := by
  have hx := tn_lt x
  unfold tn at *
  rw [Int64.toBitVec_sub, BitVec.toNat_sub]
  omega
theorem tn_add {x y : Int64} (h : tn x + tn y < 2 ^ 64) : tn (x + y) = tn x + tn y := by
  unfold tn at *
  rw [Int64.toBitVec_add, BitVec.toNat_add]
  exact Nat.mod_eq_of_lt h
theorem tn_and (x y : Int64) : tn (x &&& y) = tn x &&& tn y := by
  unfold tn
  rw [Int64.toBitVec_and, BitVec.toNat_and]
theorem tn_shr (x : Int64) {v : Nat} (hv : v < 64) : tn (m_lushr x (nI v)) = tn x / 2 ^ v := by
  unfold tn
  rw [lush_b x hv, BitVec.toNat_ushiftRight, Nat.shiftRight_eq_div_pow]
theorem tn_32 (x : Int64) : (Int64.toInt32 x) &&& 127 = nI (tn x % 128) := by
  refine zb_ext (fun u hu => ?_)
  have h127 : ∀ u, u < 32 → zb 127 u = decide (u < 7) := by decide +kernel
  rw [zb_and, h127 u hu, zb_nI (by omega) hu, show (128 : Nat) = 2 ^ 7 from rfl, Nat.testBit_mod_two_pow]
  have e : zb (Int64.toInt32 x) u = (tn x).testBit u := by
    show (Int64.toInt32 x).toBitVec.getLsbD u = x.toBitVec.toNat.testBit u
    rw [Int64.toBitVec_toInt32, BitVec.getLsbD_signExtend]
    have : u < 64 := by omega
    simp [hu, this, BitVec.testBit_toNat]
  rw [e, Bool.and_comm]
theorem okB_s : ∀ n y, okB n y → y < 256 ^ n → 255 * y + 68 ≤ 68 * 256 ^ n := by
  intro n
  induction n with
  | zero => intro y _ hy; rw [Nat.pow_zero] at hy; omega
  | succ n ih =>
    intro y ⟨o1, o2, o3⟩ hy
    rw [Nat.pow_succ] at hy ⊢
    have := ih (y / 256) o3 (by omega)
    have q : 1 ≤ 256 ^ n := Nat.pow_pos (by omega)
    omega
def B8 (c0 c1 c2 c3 c4 c5 c6 c7 : Nat) : Nat := c0 + 256 * (c1 + 256 * (c2 + 256 * (c3 + 256 * (c4 + 256 * (c5 + 256 * (c6 + 256 * c7))))))
theorem B8_lt {c0 c1 c2 c3 c4 c5 c6 c7 : Nat} (h0 : c0 < 256) (h1 : c1 < 256) (h2 : c2 < 256) (h3 : c3 < 256) (h4 : c4 < 256) (h5 : c5 < 256) (h6 : c6 < 256) (h7 : c7 < 256) : B8 c0 c1 c2 c3 c4 c5 c6 c7 < 18446744073709551616 := by
  unfold B8
  omega
theorem d256 {a r : Nat} (h : a < 256) : (a + 256 * r) / 256 = r := by omega
theorem B8_d {c0 c1 c2 c3 c4 c5 c6 c7 : Nat} (h0 : c0 < 256) : B8 c0 c1 c2 c3 c4 c5 c6 c7 / 256 = B8 c1 c2 c3 c4 c5 c6 c7 0 := by
  unfold B8
  rw [d256 h0, Nat.mul_zero, Nat.add_zero]
theorem B8_d2 {c0 c1 c2 c3 c4 c5 c6 c7 : Nat} (h0 : c0 < 256) (h1 : c1 < 256) : B8 c0 c1 c2 c3 c4 c5 c6 c7 / 65536 = B8 c2 c3 c4 c5 c6 c7 0 0 := by
  rw [show 65536 = 256 * 256 from rfl, ← Nat.div_div_eq_div_mul, B8_d h0, B8_d h1]
theorem B8_d4 {c0 c1 c2 c3 c4 c5 c6 c7 : Nat} (h0 : c0 < 256) (h1 : c1 < 256) (h2 : c2 < 256) (h3 : c3 < 256) : B8 c0 c1 c2 c3 c4 c5 c6 c7 / 4294967296 = B8 c4 c5 c6 c7 0 0 0 0 := by
  rw [show 4294967296 = 65536 * 65536 from rfl, ← Nat.div_div_eq_div_mul, B8_d2 h0 h1, B8_d2 h2 h3]
theorem B8_a {a0 a1 a2 a3 a4 a5 a6 a7 b0 b1 b2 b3 b4 b5 b6 b7 : Nat} : B8 a0 a1 a2 a3 a4 a5 a6 a7 + B8 b0 b1 b2 b3 b4 b5 b6 b7 = B8 (a0 + b0) (a1 + b1) (a2 + b2) (a3 + b3) (a4 + b4) (a5 + b5) (a6 + b6) (a7 + b7) := by
  unfold B8
  omega
theorem B8_m {c0 c1 c2 c3 c4 c5 c6 c7 : Nat} (h0 : c0 < 128) : B8 c0 c1 c2 c3 c4 c5 c6 c7 % 128 = c0 := by
  unfold B8
  omega
theorem lt256 {a n : Nat} (h : a ≤ n) (hn : n < 256) : a < 256 := Nat.lt_of_le_of_lt h hn
