/-! THE SIMULATION, 16: a yawn in plain numbers -/
def zb (x : Int32) (i : Nat) : Bool := x.toBitVec.getLsbD i
theorem zb_or (x y : Int32) (i : Nat) : zb (x ||| y) i = (zb x i || zb y i) := by
  unfold zb
  rw [Int32.toBitVec_or, BitVec.getLsbD_or]
theorem zb_and (x y : Int32) (i : Nat) : zb (x &&& y) i = (zb x i && zb y i) := by
  unfold zb
  rw [Int32.toBitVec_and, BitVec.getLsbD_and]
theorem zb_xor (x y : Int32) (i : Nat) : zb (x ^^^ y) i = (zb x i ^^ zb y i) := by
  unfold zb
  rw [Int32.toBitVec_xor, BitVec.getLsbD_xor]
theorem zb_0 (i : Nat) : zb 0 i = false := BitVec.getLsbD_zero
theorem zb_m1 : ∀ i, i < 32 → zb (-1) i = true := by decide +kernel
theorem zb_shl : ∀ j, j < 32 → ∀ i, i < 32 → zb (m_shl 1 (nI j)) i = decide (i = j) := by decide +kernel
theorem zb_ext {x y : Int32} (h : ∀ i, i < 32 → zb x i = zb y i) : x = y := Int32.toBitVec_inj.mp (BitVec.eq_of_getLsbD_eq (fun i hi => h i hi))
theorem zs_ix : ∀ n, n < 32 → ((nI n &&& 31).toBitVec.smod 32).toNat = n := by decide +kernel
theorem one_bit32 (b : BitVec 32) : b &&& 1#32 = 0#32 ↔ b.getLsbD 0 = false := by
  constructor
  · intro h
    have := congrArg (fun b => BitVec.getLsbD b 0) h
    simpa using this
  · intro h
    apply BitVec.eq_of_getLsbD_eq
    intro i hi
    rw [BitVec.getLsbD_and, BitVec.getLsbD_zero]
    by_cases z : i = 0
    · rw [z, h]; rfl
    · rw [BitVec.getLsbD_one]
      simp [z]
theorem zb_shr (x : Int32) {i : Nat} (hi : i < 32) : ((m_shr x (nI i)) &&& 1) = 0 ↔ zb x i = false := by
  rw [← Int32.toBitVec_inj, Int32.toBitVec_and]
  show (m_shr x (nI i)).toBitVec &&& 1#32 = 0#32 ↔ _
  rw [one_bit32]
  unfold m_shr zb
  rw [Int32.toBitVec_shiftRight]
  show (x.toBitVec.sshiftRight ((nI i &&& 31).toBitVec.smod 32).toNat).getLsbD 0 = false ↔ _
  rw [zs_ix i hi, BitVec.getLsbD_sshiftRight]
  simp [hi]
theorem zb_cIn {set : Int32} {p : Nat} (hp : p < 32) : cIn set p ↔ zb set p = true := by
  unfold cIn
  rw [zb_shr set hp]
  cases zb set p <;> decide
theorem and_10 (x : Int32) : (x &&& 1) = 1 ↔ ¬ (x &&& 1) = 0 := by
  constructor
  · intro e
    rw [e]
    decide
  · intro n
    apply zb_ext
    intro i hi
    rw [zb_and]
    have e1 : zb 1 i = decide (i = 0) := (by decide +kernel : ∀ i, i < 32 → zb 1 i = decide (i = 0)) i hi
    rw [e1]
    by_cases z : i = 0
    · subst z
      have h0 : zb x 0 = true := by
        cases h : zb x 0 with
        | true => rfl
        | false =>
          refine absurd (zb_ext (fun i hi => ?_)) n
          rw [zb_and, zb_0, (by decide +kernel : ∀ i, i < 32 → zb 1 i = decide (i = 0)) i hi]
          by_cases w : i = 0
          · rw [w, h]; rfl
          · simp [w]
      rw [h0]; rfl
    · simp [z]
/-- a hiding of a row of hidings -/
def hS (h : List Nat) (k : Nat) : Nat := (h[3 * k]?).getD 0
def hD (h : List Nat) (k : Nat) : Nat := (h[3 * k + 1]?).getD 0
def hT (h : List Nat) (k : Nat) : Nat := (h[3 * k + 2]?).getD 0
def nLk1 (N : mN) (e s : Nat) : mN := nU (nU N 28 e 9 (nv N 28 e 9 ||| m_shl 1 (nI s))) 28 s 9 (nv (nU N 28 e 9 (nv N 28 e 9 ||| m_shl 1 (nI s))) 28 s 9 ||| m_shl 1 (nI e))
def nLk (h : List Nat) (nt dr : Int32) (s : Nat) : Nat → mN → mN
  | 0, N => N
  | k + 1, N => if nI (hD h k) = dr ∧ ¬ 2 < nt - nI (hT h k) then nLk1 (nLk h nt dr s k N) (hS h k) s else nLk h nt dr s k N
def nHide (N : mN) (s : Nat) (dr : Int32) : mN := if (nh N).length = 120 then N else nH (nLk (nh N) (nv N 20 0 1) dr s ((nh N).length / 3) N) (nh N ++ [s] ++ [tN dr] ++ [tN (nv N 20 0 1)])
/-- what a yawn may write, but for the one who comes through, and the numbers drawn -/
def nFr (N0 N : mN) : Prop := nn N = nn N0 ∧ nq N = nq N0 ∧ nr N = nr N0 ∧ ∀ k i f, ¬ (k = 28 ∧ f = 9) → ¬ (k = 29 ∧ 3 ≤ f) → ¬ (k = 22 ∧ 3 ≤ f) → nv N k i f = nv N0 k i f
theorem nFr.rf (N : mN) : nFr N N := ⟨rfl, rfl, rfl, fun _ _ _ _ _ _ => rfl⟩
theorem nFr.tr {N0 N1 N2 : mN} (h : nFr N0 N1) (h' : nFr N1 N2) : nFr N0 N2 := ⟨h'.1.trans h.1, h'.2.1.trans h.2.1, h'.2.2.1.trans h.2.2.1, fun k i f a b c => (h'.2.2.2 k i f a b c).trans (h.2.2.2 k i f a b c)⟩
theorem nFr.u {N : mN} {k i f : Nat} {v : Int32} (h : (k = 28 ∧ f = 9) ∨ (k = 29 ∧ 3 ≤ f) ∨ (k = 22 ∧ 3 ≤ f)) : nFr N (nU N k i f v) := ⟨rfl, rfl, rfl, fun k' i' f' a b c => nv_U (by omega)⟩
theorem nLk1_v {N : mN} {e s k i f : Nat} (h : ¬ (k = 28 ∧ f = 9)) : nv (nLk1 N e s) k i f = nv N k i f := (nv_U (by omega)).trans (nv_U (by omega))
theorem nLk_v {h : List Nat} {nt dr : Int32} {s k i f : Nat} {N : mN} (z : ¬ (k = 28 ∧ f = 9)) : ∀ j, nv (nLk h nt dr s j N) k i f = nv N k i f := by
  intro j
  induction j with
  | zero => rfl
  | succ j ih =>
    unfold nLk
    split
    · exact (nLk1_v z).trans ih
    · exact ih
theorem nLk_o {h : List Nat} {nt dr : Int32} {s : Nat} {N : mN} : ∀ j, nn (nLk h nt dr s j N) = nn N ∧ nq (nLk h nt dr s j N) = nq N ∧ nr (nLk h nt dr s j N) = nr N ∧ nh (nLk h nt dr s j N) = nh N := by
  intro j
  induction j with
  | zero => exact ⟨rfl, rfl, rfl, rfl⟩
  | succ j ih =>
    unfold nLk
    split
    · exact ih
    · exact ih
theorem nHide_v {N : mN} {s k i f : Nat} {dr : Int32} (z : ¬ (k = 28 ∧ f = 9)) : nv (nHide N s dr) k i f = nv N k i f := by
  unfold nHide
  split
  · rfl
  · exact nLk_v z _
theorem nHide_o {N : mN} {s : Nat} {dr : Int32} : nn (nHide N s dr) = nn N ∧ nq (nHide N s dr) = nq N ∧ nr (nHide N s dr) = nr N := by
  unfold nHide
  split
  · exact ⟨rfl, rfl, rfl⟩
  · obtain ⟨a, b, c, -⟩ := nLk_o (h := nh N) (nt := nv N 20 0 1) (dr := dr) (s := s) (N := N) ((nh N).length / 3)
    exact ⟨a, b, c⟩
theorem nHide_Fr {N : mN} {s : Nat} {dr : Int32} : nFr N (nHide N s dr) := ⟨nHide_o.1, nHide_o.2.1, nHide_o.2.2, fun _ _ _ a _ _ => nHide_v a⟩
/-- a part is declared, a part is hidden -/
def nDc (N : mN) (s p : Nat) : Bool := decide (nv N 29 p 4 = nI s) && zb (nv N 28 s 5) p
def nHn (N : mN) (s p : Nat) : Bool := decide (nv N 29 p 4 = nI s) && !zb (nv N 28 s 5) p
theorem nDc_i {N : mN} {s p : Nat} : nDc N s p = true ↔ nv N 29 p 4 = nI s ∧ zb (nv N 28 s 5) p = true := by
  unfold nDc
  simp
theorem nHn_i {N : mN} {s p : Nat} : nHn N s p = true ↔ nv N 29 p 4 = nI s ∧ zb (nv N 28 s 5) p = false := by
  unfold nHn
  simp
/-- a hidden part is brought -/
def nBa (N : mN) (s j : Nat) (v : Int32) : mN := nU (nU (nHide N s (nv N 29 j 0)) 29 j 3 v) 29 j 5 (nI s)
def nBb (N : mN) (s to j : Nat) : mN := nU (nU (nBa N s j 3) 29 j 4 (nI (100 + to))) 22 to 5 (nv N 22 to 5 + nv N 29 j 1)
def nBh1 (s to : Nat) (sr : Int32) (j : Nat) (p : mN × Int32) : mN × Int32 := if nHn p.1 s j = true then (if sr = 0 then (nBa p.1 s j 4, p.2) else (nBb p.1 s to j, p.2 + 1)) else p
def nBh (s to : Nat) (sr : Int32) : Nat → mN × Int32 → mN × Int32
  | 0, p => p
  | j + 1, p => nBh1 s to sr j (nBh s to sr j p)
theorem nBa_Fr {N : mN} {s j : Nat} {v : Int32} : nFr N (nBa N s j v) := (nHide_Fr.tr (nFr.u (by omega))).tr (nFr.u (by omega))
theorem nBb_Fr {N : mN} {s to j : Nat} : nFr N (nBb N s to j) := (nBa_Fr.tr (nFr.u (by omega))).tr (nFr.u (by omega))
theorem nBh1_Fr {s to j : Nat} {sr : Int32} {p : mN × Int32} : nFr p.1 (nBh1 s to sr j p).1 := by
  unfold nBh1
  split
  · split
    · exact nBa_Fr
    · exact nBb_Fr
  · exact nFr.rf _
theorem nBh_Fr {s to : Nat} {sr : Int32} {p : mN × Int32} : ∀ j, nFr p.1 (nBh s to sr j p).1 := by
  intro j
  induction j with
  | zero => exact nFr.rf _
  | succ j ih => exact ih.tr nBh1_Fr
theorem nBh1_p {s to j : Nat} {sr : Int32} {p : mN × Int32} {i f : Nat} (h : i ≠ j ∨ nHn p.1 s j = false) : nv (nBh1 s to sr j p).1 29 i f = nv p.1 29 i f := by
  unfold nBh1
  by_cases z : nHn p.1 s j = true
  · have hi : i ≠ j := h.resolve_right (by rw [z]; decide)
    rw [if_pos z]
    split
    · exact (nv_U (by omega)).trans ((nv_U (by omega)).trans (nHide_v (by omega)))
    · exact (nv_U (by omega)).trans ((nv_U (by omega)).trans ((nv_U (by omega)).trans ((nv_U (by omega)).trans (nHide_v (by omega)))))
  · rw [if_neg z]
/-- parts yet to come are as they were; so are those declared -/
theorem nBh_p {s to : Nat} {sr : Int32} {p : mN × Int32} {i f : Nat} : ∀ j, j ≤ i → nv (nBh s to sr j p).1 29 i f = nv p.1 29 i f := by
  intro j
  induction j with
  | zero => intro _; rfl
  | succ j ih => intro hj; exact (nBh1_p (Or.inl (by omega))).trans (ih (by omega))
theorem nBh_d {s to : Nat} {sr : Int32} {p : mN × Int32} {i f : Nat} (hz : zb (nv p.1 28 s 5) i = true) : ∀ j, nv (nBh s to sr j p).1 29 i f = nv p.1 29 i f := by
  intro j
  induction j with
  | zero => rfl
  | succ j ih =>
    refine (nBh1_p ?_).trans ih
    by_cases w : i = j
    · subst w
      right
      unfold nHn
      rw [(nBh_Fr i).2.2.2 28 s 5 (by omega) (by omega) (by omega), hz]
      simp
    · exact Or.inl w
/-- what comes in of the declared: nightmares that count, worth -/
def nCi (N : mN) (s to : Nat) : Nat → Int32 × Int32
  | 0 => (nv N 22 to 3, 0)
  | j + 1 => if nDc N s j = true ∧ ¬ (¬ nv N 29 j 2 < 5 ∧ ¬ (nCi N s to j).1 < nv N 22 to 2) then ((nCi N s to j).1 + (if nv N 29 j 2 < 5 then 0 else 1), (nCi N s to j).2 + nv N 29 j 1) else nCi N s to j
def nBk (N : mN) (s to j : Nat) : Bool := decide (¬ nv N 29 j 2 < 5 ∧ ¬ (nCi N s to j).1 < nv N 22 to 2)
theorem nBk_i {N : mN} {s to j : Nat} : nBk N s to j = true ↔ (¬ nv N 29 j 2 < 5 ∧ ¬ (nCi N s to j).1 < nv N 22 to 2) := by
  unfold nBk
  exact decide_eq_true_iff
theorem nCi_in {N : mN} {s to j : Nat} (h : nDc N s j = true) (z : nBk N s to j = false) : nCi N s to (j + 1) = ((nCi N s to j).1 + (if nv N 29 j 2 < 5 then 0 else 1), (nCi N s to j).2 + nv N 29 j 1) := if_pos ⟨h, fun w => by rw [nBk_i.mpr w] at z; cases z⟩
theorem nCi_bk {N : mN} {s to j : Nat} (z : nBk N s to j = true) : nCi N s to (j + 1) = nCi N s to j := if_neg (fun w => w.2 (nBk_i.mp z))
theorem nCi_no {N : mN} {s to j : Nat} (h : nDc N s j = false) : nCi N s to (j + 1) = nCi N s to j := if_neg (fun w => by rw [h] at w; cases w.1)
def nIn (N : mN) (s to : Nat) : Nat → Int32
  | 0 => 0
  | j + 1 => if nDc N s j = true ∧ nBk N s to j = false then nIn N s to j ||| m_shl 1 (nI j) else nIn N s to j
theorem nIn_zb {N : mN} {s to : Nat} : ∀ n, n ≤ 32 → ∀ i, i < 32 → (zb (nIn N s to n) i = true ↔ i < n ∧ nDc N s i = true ∧ nBk N s to i = false) := by
  intro n
  induction n with
  | zero =>
    intro _ i _
    rw [show nIn N s to 0 = 0 from rfl, zb_0]
    exact ⟨fun w => absurd w (by decide), fun w => absurd w.1 (by omega)⟩
  | succ n ih =>
    intro hn i hi
    unfold nIn
    by_cases z : nDc N s n = true ∧ nBk N s to n = false
    · rw [if_pos z, zb_or, zb_shl n (by omega) i hi, Bool.or_eq_true, ih (by omega) i hi, decide_eq_true_iff]
      constructor
      · intro w
        rcases w with w | w
        · exact ⟨by omega, w.2⟩
        · rw [w]; exact ⟨by omega, z⟩
      · intro w
        by_cases q : i = n
        · exact Or.inr q
        · exact Or.inl ⟨by omega, w.2⟩
    · rw [if_neg z, ih (by omega) i hi]
      constructor
      · intro w
        exact ⟨by omega, w.2⟩
      · intro w
        refine ⟨?_, w.2⟩
        have : i ≠ n := fun q => z (by rw [← q]; exact w.2)
        omega
/-- worth of a set of parts -/
def nWo (N : mN) (set : Int32) : Nat → Int32
  | 0 => 0
  | j + 1 => if zb set j = true then nWo N set j + nv N 29 j 1 else nWo N set j
theorem nWo_eq {N : mN} {s to n : Nat} (hn : n ≤ 32) : ∀ j, j ≤ n → nWo N (nIn N s to n) j = (nCi N s to j).2 := by
  intro j
  induction j with
  | zero => intro _; rfl
  | succ j ih =>
    intro hj
    have e := nIn_zb (N := N) (s := s) (to := to) n hn j (by omega)
    unfold nWo
    cases hd : nDc N s j with
    | false =>
      rw [if_neg (fun w => by rw [hd] at e; cases (e.mp w).2.1), nCi_no hd]
      exact ih (by omega)
    | true =>
      cases hb : nBk N s to j with
      | true =>
        rw [if_neg (fun w => by rw [hb] at e; cases (e.mp w).2.2), nCi_bk hb]
        exact ih (by omega)
      | false =>
        rw [if_pos (e.mpr ⟨by omega, hd, hb⟩), nCi_in hd hb, ih (by omega)]
/-- the declared parts come in, or are turned back -/
def nDl (N : mN) (s to : Nat) (ft : Nat → Int32) (n : Nat) : mN := (N.1, fun k i f => if k = 29 ∧ i < n ∧ nDc N s i = true then (if nBk N s to i = true then (if f = 4 then 100 + nv N 28 s 0 else if f = 3 then 5 else nv N k i f) else if f = 3 then ft i else nv N k i f) else nv N k i f, N.2.2)
theorem nDl_0 {N : mN} {s to : Nat} {ft : Nat → Int32} : nDl N s to ft 0 = N := by
  refine Prod.ext rfl (Prod.ext ?_ rfl)
  funext k i f
  exact if_neg (fun w => absurd w.2.1 (by omega))
theorem nDl_v {N : mN} {s to n k i f : Nat} {ft : Nat → Int32} (h : ¬ (k = 29 ∧ i < n ∧ nDc N s i = true)) : nv (nDl N s to ft n) k i f = nv N k i f := if_neg h
theorem nDl_v3 {N : mN} {s to n k i f : Nat} {ft : Nat → Int32} (h : f ≠ 3 ∧ f ≠ 4) : nv (nDl N s to ft n) k i f = nv N k i f := by
  show (if k = 29 ∧ i < n ∧ nDc N s i = true then (if nBk N s to i = true then (if f = 4 then 100 + nv N 28 s 0 else if f = 3 then 5 else nv N k i f) else if f = 3 then ft i else nv N k i f) else nv N k i f) = _
  rw [if_neg h.1, if_neg h.1, if_neg h.2]
  split
  · split <;> rfl
  · rfl
theorem nDl_in {N : mN} {s to n i : Nat} {ft : Nat → Int32} (hi : i < n) (hd : nDc N s i = true) (hb : nBk N s to i = false) : nv (nDl N s to ft n) 29 i 4 = nv N 29 i 4 := by
  show (if 29 = 29 ∧ i < n ∧ nDc N s i = true then (if nBk N s to i = true then _ else if 4 = 3 then ft i else nv N 29 i 4) else nv N 29 i 4) = _
  rw [if_pos ⟨rfl, hi, hd⟩, if_neg (by rw [hb]; decide), if_neg (by decide)]
theorem nDl_bk {N : mN} {s to n i : Nat} {ft : Nat → Int32} (hi : i < n) (hd : nDc N s i = true) (hb : nBk N s to i = true) : nv (nDl N s to ft n) 29 i 4 = 100 + nv N 28 s 0 := by
  show (if 29 = 29 ∧ i < n ∧ nDc N s i = true then (if nBk N s to i = true then (if 4 = 4 then 100 + nv N 28 s 0 else _) else _) else _) = _
  rw [if_pos ⟨rfl, hi, hd⟩, if_pos hb, if_pos rfl]
theorem nDl_Fr {N : mN} {s to n : Nat} {ft : Nat → Int32} : nFr N (nDl N s to ft n) := ⟨rfl, rfl, rfl, fun k i f _ b _ => by
  by_cases z : k = 29
  · exact nDl_v3 (by omega)
  · exact nDl_v (fun w => z w.1)⟩
/-- one part more -/
theorem nDl_s0 {N : mN} {s to j : Nat} {ft : Nat → Int32} (hd : nDc N s j = false) : nDl N s to ft (j + 1) = nDl N s to ft j := by
  refine Prod.ext rfl (Prod.ext ?_ rfl)
  funext k i f
  have e : (k = 29 ∧ i < j + 1 ∧ nDc N s i = true) = (k = 29 ∧ i < j ∧ nDc N s i = true) := propext ⟨fun w => ⟨w.1, by
    have : i ≠ j := fun q => by rw [q, hd] at w; cases w.2.2
    omega, w.2.2⟩, fun w => ⟨w.1, by omega, w.2.2⟩⟩
  show (if k = 29 ∧ i < j + 1 ∧ nDc N s i = true then _ else _) = if k = 29 ∧ i < j ∧ nDc N s i = true then _ else _
  by_cases z : k = 29 ∧ i < j ∧ nDc N s i = true
  · rw [if_pos z, if_pos (e.mpr z)]
  · rw [if_neg z, if_neg (fun w => z (e.mp w))]
theorem nDl_s1 {N : mN} {s to j : Nat} {ft : Nat → Int32} (hd : nDc N s j = true) (hb : nBk N s to j = true) : nDl N s to ft (j + 1) = nU (nU (nDl N s to ft j) 29 j 4 (100 + nv N 28 s 0)) 29 j 3 5 := by
  refine Prod.ext rfl (Prod.ext ?_ rfl)
  funext k i f
  show (if k = 29 ∧ i < j + 1 ∧ nDc N s i = true then (if nBk N s to i = true then (if f = 4 then 100 + nv N 28 s 0 else if f = 3 then 5 else nv N k i f) else if f = 3 then ft i else nv N k i f) else nv N k i f) = if k = 29 ∧ i = j ∧ f = 3 then 5 else if k = 29 ∧ i = j ∧ f = 4 then 100 + nv N 28 s 0 else if k = 29 ∧ i < j ∧ nDc N s i = true then (if nBk N s to i = true then (if f = 4 then 100 + nv N 28 s 0 else if f = 3 then 5 else nv N k i f) else if f = 3 then ft i else nv N k i f) else nv N k i f
  by_cases z : k = 29 ∧ i = j
  · obtain ⟨rfl, rfl⟩ := z
    rw [if_pos ⟨rfl, by omega, hd⟩, if_pos hb]
    by_cases q3 : f = 3
    · rw [if_neg (by omega), if_pos q3, if_pos ⟨rfl, rfl, q3⟩]
    · by_cases q4 : f = 4
      · rw [if_pos q4, if_neg (show ¬ ((29 : Nat) = 29 ∧ i = i ∧ f = 3) from fun w => q3 w.2.2), if_pos (show (29 : Nat) = 29 ∧ i = i ∧ f = 4 from ⟨rfl, rfl, q4⟩)]
      · rw [if_neg q4, if_neg q3, if_neg (show ¬ ((29 : Nat) = 29 ∧ i = i ∧ f = 3) from fun w => q3 w.2.2), if_neg (show ¬ ((29 : Nat) = 29 ∧ i = i ∧ f = 4) from fun w => q4 w.2.2), if_neg (show ¬ ((29 : Nat) = 29 ∧ i < i ∧ nDc N s i = true) from fun w => Nat.lt_irrefl i w.2.1)]
  · rw [if_neg (fun w : k = 29 ∧ i = j ∧ f = 3 => z ⟨w.1, w.2.1⟩), if_neg (fun w : k = 29 ∧ i = j ∧ f = 4 => z ⟨w.1, w.2.1⟩)]
    by_cases q : k = 29 ∧ i < j ∧ nDc N s i = true
    · rw [if_pos q, if_pos ⟨q.1, by omega, q.2.2⟩]
    · rw [if_neg q, if_neg (fun w => q ⟨w.1, by
        have : i ≠ j := fun e => z ⟨w.1, e⟩
        omega, w.2.2⟩)]
theorem nDl_s2 {N : mN} {s to j : Nat} {ft : Nat → Int32} (hd : nDc N s j = true) (hb : nBk N s to j = false) : nDl N s to ft (j + 1) = nU (nDl N s to ft j) 29 j 3 (ft j) := by
  refine Prod.ext rfl (Prod.ext ?_ rfl)
  funext k i f
  show (if k = 29 ∧ i < j + 1 ∧ nDc N s i = true then (if nBk N s to i = true then (if f = 4 then 100 + nv N 28 s 0 else if f = 3 then 5 else nv N k i f) else if f = 3 then ft i else nv N k i f) else nv N k i f) = if k = 29 ∧ i = j ∧ f = 3 then ft j else if k = 29 ∧ i < j ∧ nDc N s i = true then (if nBk N s to i = true then (if f = 4 then 100 + nv N 28 s 0 else if f = 3 then 5 else nv N k i f) else if f = 3 then ft i else nv N k i f) else nv N k i f
  by_cases z : k = 29 ∧ i = j
  · obtain ⟨rfl, rfl⟩ := z
    rw [if_pos ⟨rfl, by omega, hd⟩, if_neg (by rw [hb]; decide)]
    by_cases q3 : f = 3
    · rw [if_pos q3, if_pos ⟨rfl, rfl, q3⟩]
    · rw [if_neg q3, if_neg (show ¬ ((29 : Nat) = 29 ∧ i = i ∧ f = 3) from fun w => q3 w.2.2), if_neg (show ¬ ((29 : Nat) = 29 ∧ i < i ∧ nDc N s i = true) from fun w => Nat.lt_irrefl i w.2.1)]
  · rw [if_neg (fun w : k = 29 ∧ i = j ∧ f = 3 => z ⟨w.1, w.2.1⟩)]
    by_cases q : k = 29 ∧ i < j ∧ nDc N s i = true
    · rw [if_pos q, if_pos ⟨q.1, by omega, q.2.2⟩]
    · rw [if_neg q, if_neg (fun w => q ⟨w.1, by
        have : i ≠ j := fun e => z ⟨w.1, e⟩
        omega, w.2.2⟩)]
/-- a fate is told anew -/
def fU (ft : Nat → Int32) (j : Nat) (v : Int32) : Nat → Int32 := fun i => if i = j then v else ft i
theorem nDl_f1 {N : mN} {s to n j : Nat} {ft : Nat → Int32} {v : Int32} (hj : j < n) (hd : nDc N s j = true) (hb : nBk N s to j = false) : nU (nDl N s to ft n) 29 j 3 v = nDl N s to (fU ft j v) n := by
  refine Prod.ext rfl (Prod.ext ?_ rfl)
  funext k i f
  show (if k = 29 ∧ i = j ∧ f = 3 then v else if k = 29 ∧ i < n ∧ nDc N s i = true then (if nBk N s to i = true then (if f = 4 then 100 + nv N 28 s 0 else if f = 3 then 5 else nv N k i f) else if f = 3 then ft i else nv N k i f) else nv N k i f) = if k = 29 ∧ i < n ∧ nDc N s i = true then (if nBk N s to i = true then (if f = 4 then 100 + nv N 28 s 0 else if f = 3 then 5 else nv N k i f) else if f = 3 then (if i = j then v else ft i) else nv N k i f) else nv N k i f
  by_cases z : i = j
  · subst z
    by_cases q : k = 29 ∧ f = 3
    · rw [if_pos ⟨q.1, rfl, q.2⟩, if_pos ⟨q.1, hj, hd⟩, if_neg (by rw [hb]; decide), if_pos q.2, if_pos rfl]
    · rw [if_neg (fun w : k = 29 ∧ i = i ∧ f = 3 => q ⟨w.1, w.2.2⟩)]
      by_cases q2 : k = 29 ∧ i < n ∧ nDc N s i = true
      · have f3 : ¬ f = 3 := fun e => q ⟨q2.1, e⟩
        rw [if_pos q2, if_pos q2, if_neg f3, if_neg f3, if_neg f3]
      · rw [if_neg q2, if_neg q2]
  · rw [if_neg (fun w : k = 29 ∧ i = j ∧ f = 3 => z w.2.1), if_neg z]
theorem nDl_f0 {N : mN} {s to n j : Nat} {ft : Nat → Int32} {v : Int32} (h : nDc N s j = true → nBk N s to j = true) : nDl N s to ft n = nDl N s to (fU ft j v) n := by
  refine Prod.ext rfl (Prod.ext ?_ rfl)
  funext k i f
  show (if k = 29 ∧ i < n ∧ nDc N s i = true then (if nBk N s to i = true then (if f = 4 then 100 + nv N 28 s 0 else if f = 3 then 5 else nv N k i f) else if f = 3 then ft i else nv N k i f) else nv N k i f) = if k = 29 ∧ i < n ∧ nDc N s i = true then (if nBk N s to i = true then (if f = 4 then 100 + nv N 28 s 0 else if f = 3 then 5 else nv N k i f) else if f = 3 then (if i = j then v else ft i) else nv N k i f) else nv N k i f
  by_cases z : i = j
  · subst z
    by_cases q : k = 29 ∧ i < n ∧ nDc N s i = true
    · rw [if_pos q, if_pos q, if_pos (h q.2.2), if_pos (h q.2.2)]
    · rw [if_neg q, if_neg q]
  · rw [if_neg z]
/-- duty -/
def nDuty (N : mN) (to : Nat) (w : Int32) : Int32 := if nv N 22 to 1 < w then ((w - nv N 22 to 1) * nv N 22 to 0) / 100 else 0
/-- one comes through a gate -/
def nTo (N : mN) (s t : Nat) : Nat := tN (if nv N 23 t 0 = nv N 28 s 0 then nv N 23 t 1 else nv N 23 t 0)
def nSr (N : mN) (t : Nat) : Int32 := if nv N 23 t 5 < 5 then (if nv N 23 t 4 ≤ m_rem (nv N 20 0 3) 10 then 0 else 1) else 0
def nDraw (N : mN) (t : Nat) : mN := if nv N 23 t 5 < 5 then nU (nU N 20 0 3 (m_rem (21 * nv N 20 0 3 + 11) 4096)) 20 0 4 (nv N 20 0 4 + 1) else N
/-- all that is declared, done -/
def nCd (N : mN) (s to n : Nat) : mN := nU (nU (nDl N s to (fun _ => if nv N 22 to 1 < (nCi N s to n).2 then 1 else 2) n) 22 to 3 (nCi N s to n).1) 22 to 4 (nv N 22 to 4 + nDuty N to (nCi N s to n).2)
def nCt (N : mN) (s to : Nat) (sr : Int32) : mN × Int32 := (nU (nU (nCd (nBh s to sr (nn N 29) (N, 0)).1 s to (nn N 29)) 28 s 0 (nI to)) 28 s 8 (-1), (nBh s to sr (nn N 29) (N, 0)).2)
def nCome (N : mN) (s t : Nat) : mN × Int32 := nCt (nDraw N t) s (nTo N s t) (nSr N t)
/-- a pass is good -/
def nGood (N : mN) (s t : Nat) : Bool := decide (¬ nv N 28 s 8 = -1) && (decide (nv N 28 s 6 = nI t) && (decide (nv N 28 s 7 = nv N 20 0 1) && (if nv N 23 t 5 < 5 then decide (m_abs (nv N 28 s 8 - m_rem (13 * nI s + 29 * nI t + 7 * nv N 20 0 1) 97) = 0) && !nr N t (tN (nv N 28 s 8)) else decide (¬ 1 < m_abs (nv N 28 s 8 - m_rem (13 * nI s + 29 * nI t + 7 * nv N 20 0 1) 97)))))
/-- those who stand lose patience -/
def nTi1 (N : mN) (u : Nat) : mN := if nv N 28 u 2 - 1 = 0 then nOut (nU N 28 u 2 (nv N 28 u 2 - 1)) u 2 else nU N 28 u 2 (nv N 28 u 2 - 1)
def nTi (t : Nat) : Nat → mN → mN
  | 0, N => N
  | d + 1, N => nTi t d (match (nq N t)[d]? with
    | some u => nTi1 N u
    | none => N)
def nOpen (N : mN) (t : Nat) : Prop := ¬ nv N 23 t 3 ≤ m_rem ((nv N 20 0 2 - nv N 23 t 2) + 24) 24
def nYw (N : mN) (s t : Nat) : mN × Int32 := if nGood (nOut (nU N 20 0 5 (nv N 20 0 5 + 1)) s 0) s t = true then nCome (nOut (nU N 20 0 5 (nv N 20 0 5 + 1)) s 0) s t else (nOut (nU N 20 0 5 (nv N 20 0 5 + 1)) s 0, -1)
def fYawn (N : mN) (a : Int32) : mT :=
  if ¬ (¬ a < 0 ∧ a < nI (nn N 23)) then (1, 0, N)
  else if nv N 23 (tN a) 3 ≤ m_rem ((nv N 20 0 2 - nv N 23 (tN a) 2) + 24) 24 ∨ (nq N (tN a)).length = 0 then (2, 0, N)
  else (0, (nYw N ((nq N (tN a)).headD 0) (tN a)).2, nTi (tN a) (nq (nYw N ((nq N (tN a)).headD 0) (tN a)).1 (tN a)).length (nYw N ((nq N (tN a)).headD 0) (tN a)).1)
