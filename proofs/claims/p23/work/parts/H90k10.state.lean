/-! THE SIMULATION, 1: a state of plain numbers that both sides tell of; what each side holds of it -/
/-- counts, ints (by the reference's kinds and fields), queues, verses revoked, hidings (by threes) -/
abbrev mN : Type := (Nat → Nat) × (Nat → Nat → Nat → Int32) × (Nat → List Nat) × (Nat → Nat → Bool) × List Nat
def nn (N : mN) : Nat → Nat := N.1
def nv (N : mN) : Nat → Nat → Nat → Int32 := N.2.1
def nq (N : mN) : Nat → List Nat := N.2.2.1
def nr (N : mN) : Nat → Nat → Bool := N.2.2.2.1
def nh (N : mN) : List Nat := N.2.2.2.2
def nU (N : mN) (k i f : Nat) (v : Int32) : mN := (N.1, fun k' i' f' => if k' = k ∧ i' = i ∧ f' = f then v else nv N k' i' f', N.2.2)
def nQ (N : mN) (t : Nat) (xs : List Nat) : mN := (N.1, N.2.1, fun t' => if t' = t then xs else nq N t', N.2.2.2)
def nW (N : mN) (f : Nat → Nat → Bool) : mN := (N.1, N.2.1, N.2.2.1, f, N.2.2.2.2)
def nH (N : mN) (h : List Nat) : mN := (N.1, N.2.1, N.2.2.1, N.2.2.2.1, h)
def nC (N : mN) (k n : Nat) : mN := (fun k' => if k' = k then n else nn N k', N.2)
theorem nv_U {N : mN} {k i f k' i' f' : Nat} {v : Int32} (h : ¬ (k' = k ∧ i' = i ∧ f' = f)) : nv (nU N k i f v) k' i' f' = nv N k' i' f' := if_neg h
theorem nv_U_s {N : mN} {k i f : Nat} {v : Int32} : nv (nU N k i f v) k i f = v := if_pos ⟨rfl, rfl, rfl⟩
theorem nq_Q {N : mN} {t t' : Nat} {xs : List Nat} (h : t' ≠ t) : nq (nQ N t xs) t' = nq N t' := if_neg h
theorem nq_Q_s {N : mN} {t : Nat} {xs : List Nat} : nq (nQ N t xs) t = xs := if_pos rfl
theorem nn_C {N : mN} {k k' n : Nat} (h : k' ≠ k) : nn (nC N k n) k' = nn N k' := if_neg h
theorem nn_C_s {N : mN} {k n : Nat} : nn (nC N k n) k = n := if_pos rfl
theorem nU_U {N : mN} {k i f k' i' f' : Nat} {v v' : Int32} (h : ¬ (k' = k ∧ i' = i ∧ f' = f)) : nU (nU N k i f v) k' i' f' v' = nU (nU N k' i' f' v') k i f v := by
  refine Prod.ext rfl (Prod.ext ?_ rfl)
  funext a b c
  show (if a = k' ∧ b = i' ∧ c = f' then v' else if a = k ∧ b = i ∧ c = f then v else nv N a b c) = (if a = k ∧ b = i ∧ c = f then v else if a = k' ∧ b = i' ∧ c = f' then v' else nv N a b c)
  by_cases z : a = k' ∧ b = i' ∧ c = f'
  · rw [if_pos z, if_neg (fun w => h ⟨z.1.symm.trans w.1, z.2.1.symm.trans w.2.1, z.2.2.symm.trans w.2.2⟩), if_pos z]
  · rw [if_neg z, if_neg z]
/-- the reference's fields -/
def rK (k f : Nat) : Bool := (k == 20 && (1 ≤ f && f ≤ 5)) || (k == 22 && f < 6) || (k == 23 && f < 6) || (k == 28 && f < 9) || (k == 29 && f < 6)
theorem rK_d {k f : Nat} (h : rK k f = true) : (k = 20 ∧ 1 ≤ f ∧ f ≤ 5) ∨ (k = 22 ∧ f < 6) ∨ (k = 23 ∧ f < 6) ∨ (k = 28 ∧ f < 9) ∨ (k = 29 ∧ f < 6) := by
  unfold rK at h
  simp only [Bool.or_eq_true, Bool.and_eq_true, beq_iff_eq, decide_eq_true_eq] at h
  omega
def RV (N : mN) (Y : mY) (S : mS) : Prop := (yn Y 23 = nn N 23 ∧ yn Y 28 = nn N 28 ∧ yn Y 29 = nn N 29) ∧ (∀ k i f, rK k f = true → i < yn Y k → sI S k i f = nv N k i f) ∧ (∀ t, t < yn Y 23 → sL S 25 t = nq N t) ∧ (∀ t v, t < yn Y 23 → v < 97 → sE S 26 t v = if nr N t v = true then 1 else 0) ∧ sL S 24 3 = nh N
/-- the class's plain fields: where the reference has them -/
def cM (k f : Nat) : Option (Nat × Nat) := match k, f with
  | 0, 8 => some (20, 1) | 0, 9 => some (20, 2) | 0, 10 => some (20, 5) | 7, 0 => some (20, 4) | 7, 1 => some (20, 3)
  | 2, 1 => some (22, 0) | 2, 2 => some (22, 1) | 2, 3 => some (22, 2) | 2, 4 => some (22, 3) | 2, 5 => some (22, 4) | 2, 6 => some (22, 5)
  | 3, 3 => some (23, 2) | 3, 4 => some (23, 3) | 3, 8 => some (23, 4) | 3, 9 => some (23, 5)
  | 4, 1 => some (28, 1) | 4, 3 => some (28, 2) | 4, 4 => some (28, 3) | 4, 8 => some (28, 9)
  | 5, 1 => some (29, 0) | 5, 2 => some (29, 1) | 5, 3 => some (29, 2) | 5, 4 => some (29, 3)
  | _, _ => none
/-- the way back -/
def cI (k f : Nat) : Nat × Nat := match k, f with
  | 20, 1 => (0, 8) | 20, 2 => (0, 9) | 20, 5 => (0, 10) | 20, 4 => (7, 0) | 20, 3 => (7, 1)
  | 22, f => (2, f + 1)
  | 23, 2 => (3, 3) | 23, 3 => (3, 4) | 23, 4 => (3, 8) | 23, 5 => (3, 9)
  | 28, 1 => (4, 1) | 28, 2 => (4, 3) | 28, 3 => (4, 4) | 28, 9 => (4, 8)
  | 29, f => (5, f + 1)
  | _, _ => (99, 99)
theorem cM_I {k f k' f' : Nat} (h : cM k f = some (k', f')) : cI k' f' = (k, f) := by
  unfold cM at h
  split at h <;> first | (cases h; rfl) | (cases h)
theorem cM_d {k f k' f' : Nat} (h : cM k f = some (k', f')) : (k = 0 ∧ k' = 20 ∧ 8 ≤ f ∧ f ≤ 10) ∨ (k = 7 ∧ k' = 20 ∧ f ≤ 1) ∨ (k = 2 ∧ k' = 22 ∧ f' < 6 ∧ 1 ≤ f) ∨ (k = 3 ∧ k' = 23 ∧ 2 ≤ f' ∧ f' < 6 ∧ 3 ≤ f) ∨ (k = 4 ∧ k' = 28 ∧ ((1 ≤ f' ∧ f' ≤ 3 ∧ 1 ≤ f ∧ f ≤ 4 ∧ (f = 4 ↔ f' = 3)) ∨ (f = 8 ∧ f' = 9))) ∨ (k = 5 ∧ k' = 29 ∧ f' < 4 ∧ 1 ≤ f ∧ f ≤ 4) := by
  unfold cM at h
  split at h <;> first | (cases h; omega) | (cases h)
/-- a bit of a set of verses -/
def vBit (lo hi : Int64) (v : Nat) : Bool := if v < 64 then lo.toBitVec.getLsbD v else hi.toBitVec.getLsbD (v - 64)
/-- where a part is -/
def oAt (st : Option Nat) (hd : Option Nat) : Int32 := match st with
  | some l => nI (100 + l)
  | none => (match hd with | some s => nI s | none => 999)
def oTo (o : Option Nat) : Int32 := match o with | some a => nI a | none => -1
/-- the class holds the state; of one (x) it is not known that it stepped out (99: of nobody; 98: of nobody, and verses are spreading); links: 28, 9 -/
def RC (x : Nat) (N : mN) (Y : mY) (S : mS) : Prop :=
  (yn Y 3 = nn N 23 ∧ yn Y 4 = nn N 28 ∧ yn Y 5 = nn N 29) ∧
  (∀ k i f k' f', cM k f = some (k', f') → i < yn Y k → ¬ (k = 4 ∧ i = x ∧ f = 4) → sI S k i f = nv N k' i f') ∧
  (∀ t, t < yn Y 3 → nv N 23 t 0 = nI (sN S 3 t 1) ∧ nv N 23 t 1 = nI (sN S 3 t 2) ∧ sL S 13 t = nq N t) ∧
  (∀ s, s < yn Y 4 → nv N 28 s 0 = nI (sN S 4 s 2)) ∧
  (∀ s, s < yn Y 4 → s ≠ x → nv N 28 s 4 = oTo (sX S 4 s 5)) ∧
  (∀ s, s < yn Y 4 → (s = x ∨ sX S 4 s 5 ≠ none → sI S 4 s 6 = nv N 28 s 5) ∧ (s ≠ x → sX S 4 s 5 = none → sI S 4 s 6 = 0)) ∧
  (∀ s, s < yn Y 4 → (sX S 4 s 7 = none → nv N 28 s 8 = -1) ∧ ∀ p, sX S 4 s 7 = some p → nv N 28 s 6 = nI (sN S 16 p 0) ∧ nv N 28 s 7 = sI S 16 p 1 ∧ nv N 28 s 8 = sI S 16 p 2 ∧ ¬ sI S 16 p 2 = -1) ∧
  (∀ p, p < yn Y 5 → nv N 29 p 4 = oAt (sX S 5 p 6) (sX S 5 p 5) ∧ nv N 29 p 5 = oTo (sX S 5 p 7) ∧ (sX S 5 p 6 ≠ none → sX S 5 p 5 = none)) ∧
  (∀ t v, t < yn Y 3 → v < 128 → nr N t v = vBit (sJ S 10 t 0) (sJ S 10 t 1) v ∧ (x ≠ 98 → vBit (sJ S 11 t 0) (sJ S 11 t 1) v = true → nr N t v = true)) ∧
  ((nh N).length = 3 * yn Y 6 ∧ ∀ i, i < yn Y 6 → (nh N)[3 * i]? = some (sN S 6 i 0) ∧ (∃ d, (nh N)[3 * i + 1]? = some d ∧ d < 128 ∧ sI S 6 i 1 = nI d) ∧ ∃ d, (nh N)[3 * i + 2]? = some d ∧ d < 128 ∧ sI S 6 i 2 = nI d)
