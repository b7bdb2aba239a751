/-! THE SIMULATION, 4: the calls as steps of the plain state: what is thrown, what is answered, what is left -/
def tN (a : Int32) : Nat := a.toNatClampNeg
theorem tN_nI {n : Nat} (h : n < 2 ^ 31) : tN (nI n) = n := nI_clamp h
abbrev mT : Type := Int32 × Int32 × mN
def fLand (N : mN) (a r al : Int32) : mT :=
  if ¬ (¬ a < 0 ∧ a < 6) then (1, 0, N)
  else if ¬ ((¬ r < 0 ∧ r ≤ 50) ∧ (¬ al < 0 ∧ al ≤ 99)) then (2, 0, N)
  else (0, nv N 22 (tN a) 0, nU (nU N 22 (tN a) 0 r) 22 (tN a) 1 al)
def fTrade (N : mN) (a b m : Int32) : mT :=
  if ¬ ((¬ a < 0 ∧ a < 6) ∧ (¬ b < 0 ∧ b < 6)) then (1, 0, N)
  else if a = b ∨ ¬ 0 ≤ m then (2, 0, N)
  else if nv N 22 (tN a) 2 < m ∨ ¬ nv N 22 (tN b) 2 + m ≤ 30 then (3, 0, N)
  else (0, nv N 22 (tN b) 2 + m, nU (nU N 22 (tN a) 2 (nv N 22 (tN a) 2 - m)) 22 (tN b) 2 (nv N 22 (tN b) 2 + m))
def fOdds (N : mN) (a b : Int32) : mT :=
  if ¬ (¬ a < 0 ∧ a < nI (nn N 23)) then (1, 0, N)
  else if ¬ (¬ b < 0 ∧ b ≤ 10) then (2, 0, N)
  else (0, nv N 23 (tN a) 4, nU N 23 (tN a) 4 b)
def fRelieve (N : mN) (a : Int32) : mT :=
  if ¬ (¬ a < 0 ∧ a < nI (nn N 23)) then (1, 0, N)
  else (0, nv N 23 (tN a) 5, nU N 23 (tN a) 5 0)
/-- one verse more of a gate -/
def nRev (N : mN) (t v : Nat) : mN := nW N (fun t' v' => if t' = t ∧ v' = v then true else nr N t' v')
def fRevoke (N : mN) (a b : Int32) : mT :=
  if ¬ (¬ a < 0 ∧ a < nI (nn N 23)) then (1, 0, N)
  else if ¬ (¬ b < 0 ∧ b ≤ 96) then (2, 0, N)
  else (0, (if nr N (tN a) (tN b) = true then 0 else 1), nRev N (tN a) (tN b))
def fGive (N : mN) (a b : Int32) : mT :=
  if ¬ ((¬ a < 0 ∧ a < nI (nn N 29)) ∧ (¬ b < 0 ∧ b < nI (nn N 28))) then (1, 0, N)
  else if ¬ nv N 29 (tN a) 4 < 100 ∨ nv N 29 (tN a) 4 = b then (2, 0, N)
  else if ¬ (nv N 28 (tN (nv N 29 (tN a) 4)) 0 = nv N 28 (tN b) 0 ∧ nv N 28 (tN (nv N 29 (tN a) 4)) 3 = 0 ∧ nv N 28 (tN b) 3 = 0) then (2, 0, N)
  else (0, nv N 29 (tN a) 4, nU N 29 (tN a) 4 b)
def fAppeal (N : mN) (a : Int32) : mT :=
  if ¬ (¬ a < 0 ∧ a < nI (nn N 29)) then (1, 0, N)
  else if ¬ (nv N 29 (tN a) 3 = 3 ∧ ¬ nv N 29 (tN a) 4 < 100 ∧ nv N 29 (tN a) 4 < 106) then (2, 0, N)
  else if ¬ nv N 29 (tN a) 1 ≤ nv N 22 (tN (nv N 29 (tN a) 4) - 100) 1 ∨ ¬ (nv N 28 (tN (nv N 29 (tN a) 5)) 0 = nI (tN (nv N 29 (tN a) 4) - 100) ∧ nv N 28 (tN (nv N 29 (tN a) 5)) 3 = 0) then (0, 0, N)
  else (0, 1, nU (nU (nU N 22 (tN (nv N 29 (tN a) 4) - 100) 5 (nv N 22 (tN (nv N 29 (tN a) 4) - 100) 5 - nv N 29 (tN a) 1)) 29 (tN a) 4 (nv N 29 (tN a) 5)) 29 (tN a) 3 2)
def rightV (s t nt : Int32) : Int32 := (13 * s + 29 * t + 7 * nt) % 97
def fSing (N : mN) (a b n v : Int32) : mT :=
  if ¬ ((¬ a < 0 ∧ a < nI (nn N 28)) ∧ (¬ b < 0 ∧ b < nI (nn N 23))) then (1, 0, N)
  else if ¬ ((¬ n < nv N 20 0 1 ∧ n ≤ 99) ∧ (¬ v < 0 ∧ v ≤ 96)) then (2, 0, N)
  else (0, m_rem (13 * a + 29 * b + 7 * n) 97, nU (nU (nU N 28 (tN a) 6 b) 28 (tN a) 7 n) 28 (tN a) 8 v)
/-- what the class is left with -/
def cX (g : Nat → Nat) (N : mN) (Y : mY) (S : mS) (Y' : mY) (S' : mS) (M' : mM) : Prop := mR g Y' S' M' ∧ mWs Y' S' ∧ mWq Y' S' ∧ mFc Y S Y' S' ∧ RC 99 N Y' S'
section SIMC1
variable {g : Nat → Nat} {Y : mY} {S : mS} {M : mM} {N : mN}
theorem C_land (H : mR g Y S M) (W : mWs Y S) (Q : mWq Y S) (R : RC 99 N Y S) {a r al : Int32} {κ : Int32 → mM → Prop} {ξ : String → mM → Prop} (h1 : (fLand N a r al).1 = 1 → ξ "java/lang/IndexOutOfBoundsException" M) (h2 : (fLand N a r al).1 = 2 → ξ "java/lang/IllegalArgumentException" M)
    (h : ∀ v N' Y' S' M', fLand N a r al = (0, v, N') → cX g N' Y S Y' S' M' → κ v M') : wX8_land κ ξ (some (yA Y 0 0)) a r al M := by
  unfold fLand at h1 h2 h
  refine s_rc H W.x0 rfl rfl (c_landN H W (fun l hl e => ?_) (fun z => h1 (by rw [if_pos z])))
  have hv : ¬ a < 0 ∧ a < 6 := by rw [e]; exact m_in (n := 6) hl (by omega)
  have hn : ¬ ((¬ r < 0 ∧ r ≤ 50) ∧ (¬ al < 0 ∧ al ≤ 99)) → ξ "java/lang/IllegalArgumentException" M := fun z => h2 (by rw [if_neg (fun w => w hv), if_pos z])
  refine c_range H (fun r1 r2 => c_range H (fun r3 r4 => ?_) (fun z => hn (fun q => z q.2))) (fun z => hn (fun q => z q.1))
  refine s_gI H (W.l2 hl) rfl rfl rfl (s_pI H (W.l2 hl) rfl rfl rfl (fun M1 H1 => s_pI H1 (W.l2 hl) rfl rfl rfl (fun M2 H2 => ?_)))
  refine h _ (nU (nU N 22 l 0 r) 22 l 1 al) Y _ M2 ?_ ⟨H2, (W.uI (Or.inl (by omega))).uI (Or.inl (by omega)), (Q.uI (by omega)).uI (by omega), (mFc.uI (by omega)).tr (mFc.uI (by omega)), (R.pI rfl).pI rfl⟩
  rw [if_neg (fun w => w hv), if_neg (fun w => w ⟨⟨r1, r2⟩, ⟨r3, r4⟩⟩), e, tN_nI (by omega), R.2.1 2 l 1 22 0 rfl (W.l2 hl) (by omega)]
theorem C_trade (H : mR g Y S M) (W : mWs Y S) (Q : mWq Y S) (R : RC 99 N Y S) {a b m : Int32} {κ : Int32 → mM → Prop} {ξ : String → mM → Prop} (h1 : (fTrade N a b m).1 = 1 → ξ "java/lang/IndexOutOfBoundsException" M) (h2 : (fTrade N a b m).1 = 2 → ξ "java/lang/IllegalArgumentException" M) (h3 : (fTrade N a b m).1 = 3 → ξ "java/lang/IllegalStateException" M)
    (h : ∀ v N' Y' S' M', fTrade N a b m = (0, v, N') → cX g N' Y S Y' S' M' → κ v M') : wX8_trade κ ξ (some (yA Y 0 0)) a b m M := by
  unfold fTrade at h1 h2 h3 h
  refine s_rc H W.x0 rfl rfl (c_landN H W (fun l hl e => s_rc H W.x0 rfl rfl (c_landN H W (fun l' hl' e' => ?_) (fun z => h1 (by rw [if_pos (fun w => z w.2)])))) (fun z => h1 (by rw [if_pos (fun w => z w.1)])))
  have hv : (¬ a < 0 ∧ a < 6) ∧ (¬ b < 0 ∧ b < 6) := ⟨by rw [e]; exact m_in (n := 6) hl (by omega), by rw [e']; exact m_in (n := 6) hl' (by omega)⟩
  have k1 := W.l2 hl
  have k2 := W.l2 hl'
  have t1 : tN a = l := by rw [e]; exact tN_nI (by omega)
  have t2 : tN b = l' := by rw [e']; exact tN_nI (by omega)
  have q1' := R.2.1 2 l 3 22 2 rfl k1 (by omega)
  have q2' := R.2.1 2 l' 3 22 2 rfl k2 (by omega)
  rw [t1, t2, ← q1', ← q2'] at h3 h
  have hn : (a = b ∨ ¬ 0 ≤ m) → ξ "java/lang/IllegalArgumentException" M := fun z => h2 (by rw [if_neg (fun w => w hv), if_pos z])
  refine br_c (fun q => hn (Or.inl q)) (fun q1 => br_c (fun q2 => ?_) (fun q2 => hn (Or.inr q2)))
  have nq : ¬ (a = b ∨ ¬ 0 ≤ m) := fun w => w.elim q1 (fun w => w q2)
  have hs : (sI S 2 l 3 < m ∨ ¬ sI S 2 l' 3 + m ≤ 30) → ξ "java/lang/IllegalStateException" M := fun z => h3 (by rw [if_neg (fun w => w hv), if_neg nq, if_pos z])
  refine s_gI H k1 rfl rfl rfl (br_c (fun q3 => hs (Or.inl q3)) (fun q3 => s_gI H k2 rfl rfl rfl (br_c (fun q4 => ?_) (fun q4 => hs (Or.inr q4)))))
  refine s_gI H k1 rfl rfl rfl (s_pI H k1 rfl rfl rfl (fun M1 H1 => s_gI H1 k2 rfl rfl rfl (s_pI H1 k2 rfl rfl rfl (fun M2 H2 => s_gI H2 k2 rfl rfl rfl ?_))))
  have ne : l' ≠ l := fun z => q1 (by rw [e, e', z])
  have eS : sI (uI S 2 l 3 (sI S 2 l 3 - m)) 2 l' 3 = sI S 2 l' 3 := sI_uI (by omega)
  rw [sI_uI_s, eS]
  rw [eS] at H2
  refine h _ (nU (nU N 22 l 2 (sI S 2 l 3 - m)) 22 l' 2 (sI S 2 l' 3 + m)) Y _ M2 ?_ ⟨H2, (W.uI (Or.inl (by omega))).uI (Or.inl (by omega)), (Q.uI (by omega)).uI (by omega), (mFc.uI (by omega)).tr (mFc.uI (by omega)), (R.pI rfl).pI rfl⟩
  rw [if_neg (fun w => w hv), if_neg nq, if_neg (fun w => w.elim q3 (fun w => w q4))]
theorem C_odds (H : mR g Y S M) (W : mWs Y S) (Q : mWq Y S) (R : RC 99 N Y S) {a b : Int32} {κ : Int32 → mM → Prop} {ξ : String → mM → Prop} (h1 : (fOdds N a b).1 = 1 → ξ "java/lang/IndexOutOfBoundsException" M) (h2 : (fOdds N a b).1 = 2 → ξ "java/lang/IllegalArgumentException" M)
    (h : ∀ v N' Y' S' M', fOdds N a b = (0, v, N') → cX g N' Y S Y' S' M' → κ v M') : wX8_odds κ ξ (some (yA Y 0 0)) a b M := by
  have hbd := W.2.1
  unfold fOdds at h1 h2 h
  rw [← R.1.1] at h1 h2 h
  refine s_rc H W.x0 rfl rfl (c_gateN H W (fun t ht e => ?_) (fun z => h1 (by rw [if_pos z])))
  have hv : ¬ a < 0 ∧ a < nI (yn Y 3) := by rw [e]; exact m_in ht (by omega)
  refine c_range H (fun r1 r2 => s_gI H ht rfl rfl rfl (s_pI H ht rfl rfl rfl (fun M1 H1 => ?_))) (fun z => h2 (by rw [if_neg (fun w => w hv), if_pos z]))
  refine h _ (nU N 23 t 4 b) Y _ M1 ?_ ⟨H1, W.uI (Or.inl (by omega)), Q.uI (by omega), mFc.uI (by omega), R.pI rfl⟩
  rw [if_neg (fun w => w hv), if_neg (fun w => w ⟨r1, r2⟩), e, tN_nI (by omega), R.2.1 3 t 8 23 4 rfl ht (by omega)]
theorem C_relieve (H : mR g Y S M) (W : mWs Y S) (Q : mWq Y S) (R : RC 99 N Y S) {a : Int32} {κ : Int32 → mM → Prop} {ξ : String → mM → Prop} (h1 : (fRelieve N a).1 = 1 → ξ "java/lang/IndexOutOfBoundsException" M)
    (h : ∀ v N' Y' S' M', fRelieve N a = (0, v, N') → cX g N' Y S Y' S' M' → κ v M') : wX8_relieve κ ξ (some (yA Y 0 0)) a M := by
  have hbd := W.2.1
  unfold fRelieve at h1 h
  rw [← R.1.1] at h1 h
  refine s_rc H W.x0 rfl rfl (c_gateN H W (fun t ht e => ?_) (fun z => h1 (by rw [if_pos z])))
  have hv : ¬ a < 0 ∧ a < nI (yn Y 3) := by rw [e]; exact m_in ht (by omega)
  refine s_gI H ht rfl rfl rfl (s_pI H ht rfl rfl rfl (fun M1 H1 => ?_))
  refine h _ (nU N 23 t 5 0) Y _ M1 ?_ ⟨H1, W.uI (Or.inl (by omega)), Q.uI (by omega), mFc.uI (by omega), R.pI rfl⟩
  rw [if_neg (fun w => w hv), e, tN_nI (by omega), R.2.1 3 t 9 23 5 rfl ht (by omega)]
end SIMC1
