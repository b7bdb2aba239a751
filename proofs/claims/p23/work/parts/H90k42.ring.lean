/-! THE SIMULATION, 32: rings: who hides one dream on near nights, from one to the next -/
/-- two who are linked -/
def nE (N : mN) (u w : Nat) : Prop := ∃ a b, 3 * a < (nh N).length ∧ 3 * b < (nh N).length ∧ ¬ a = b ∧ hS (nh N) a = u ∧ hS (nh N) b = w ∧ nLn (nh N) a b
def nCl (N : mN) (s u : Nat) : Prop := ∀ P : Nat → Prop, P s → (∀ a b, P a → nE N a b → P b) → P u
theorem nCl.rf {N : mN} {s : Nat} : nCl N s s := fun _ h _ => h
theorem nCl.st {N : mN} {s u w : Nat} (h : nCl N s u) (e : nE N u w) : nCl N s w := fun P h0 h1 => h1 u w (h P h0 h1) e
/-- the links of a set -/
def nLf (N : mN) (x : Int32) : Nat → Int32
  | 0 => 0
  | j + 1 => if zb x j = true then nLf N x j ||| nv N 28 j 9 else nLf N x j
def nRg (N : mN) : Nat → Int32 → Int32
  | 0, x => x
  | f + 1, x => if (x ||| nLf N x (nn N 28)) = x then x else nRg N f (x ||| nLf N x (nn N 28))
def kCt (p : Nat → Bool) : Nat → Nat
  | 0 => 0
  | j + 1 => kCt p j + (if p j = true then 1 else 0)
theorem kCt_le {p q : Nat → Bool} : ∀ n, (∀ j, j < n → p j = true → q j = true) → kCt p n ≤ kCt q n := by
  intro n
  induction n with
  | zero => intro _; exact Nat.le_refl _
  | succ n ih =>
    intro h
    have := ih (fun j hj => h j (by omega))
    show kCt p n + (if p n = true then 1 else 0) ≤ kCt q n + (if q n = true then 1 else 0)
    by_cases z : p n = true
    · rw [if_pos z, if_pos (h n (by omega) z)]; omega
    · rw [if_neg z]; omega
theorem kCt_lt {p q : Nat → Bool} : ∀ n, (∀ j, j < n → p j = true → q j = true) → (∃ j, j < n ∧ q j = true ∧ ¬ p j = true) → kCt p n < kCt q n := by
  intro n
  induction n with
  | zero => intro _ ⟨j, hj, _⟩; omega
  | succ n ih =>
    intro h ⟨j, hj, q1, q2⟩
    have hle := kCt_le n (fun j hj => h j (by omega))
    show kCt p n + (if p n = true then 1 else 0) < kCt q n + (if q n = true then 1 else 0)
    by_cases w : j = n
    · subst w
      rw [if_neg q2, if_pos q1]; omega
    · have := ih (fun j hj => h j (by omega)) ⟨j, by omega, q1, q2⟩
      by_cases z : p n = true
      · rw [if_pos z, if_pos (h n (by omega) z)]; omega
      · rw [if_neg z]; omega
theorem kCt_n {p : Nat → Bool} : ∀ n, kCt p n ≤ n ∧ (n ≤ kCt p n → ∀ j, j < n → p j = true) := by
  intro n
  induction n with
  | zero => exact ⟨Nat.le_refl _, fun _ j hj => absurd hj (by omega)⟩
  | succ n ih =>
    obtain ⟨i1, i2⟩ := ih
    by_cases z : p n = true
    · have e : kCt p (n + 1) = kCt p n + 1 := by show kCt p n + (if p n = true then 1 else 0) = _; rw [if_pos z]
      rw [e]
      refine ⟨by omega, fun h j hj => ?_⟩
      by_cases w : j = n
      · rw [w]; exact z
      · exact i2 (by omega) j (by omega)
    · have e : kCt p (n + 1) = kCt p n := by show kCt p n + (if p n = true then 1 else 0) = _; rw [if_neg z]; rfl
      rw [e]
      exact ⟨by omega, fun h => absurd h (by omega)⟩
/-- bits of links -/
theorem nLf_zb {N : mN} {x : Int32} {u : Nat} : ∀ n, zb (nLf N x n) u = true ↔ ∃ j, j < n ∧ zb x j = true ∧ zb (nv N 28 j 9) u = true := by
  intro n
  induction n with
  | zero => exact ⟨fun w => absurd w (by rw [show nLf N x 0 = 0 from rfl, zb_0]; decide), fun ⟨j, hj, _⟩ => absurd hj (by omega)⟩
  | succ n ih =>
    by_cases z : zb x n = true
    · rw [show nLf N x (n + 1) = nLf N x n ||| nv N 28 n 9 from if_pos z, zb_or, Bool.or_eq_true, ih]
      constructor
      · intro q
        rcases q with ⟨j, hj, q⟩ | q
        · exact ⟨j, by omega, q⟩
        · exact ⟨n, by omega, z, q⟩
      · intro ⟨j, hj, q1, q2⟩
        by_cases w : j = n
        · rw [w] at q2; exact Or.inr q2
        · exact Or.inl ⟨j, by omega, q1, q2⟩
    · rw [show nLf N x (n + 1) = nLf N x n from if_neg z, ih]
      constructor
      · intro ⟨j, hj, q⟩
        exact ⟨j, by omega, q⟩
      · intro ⟨j, hj, q1, q2⟩
        have : j ≠ n := fun w => z (by rw [← w]; exact q1)
        exact ⟨j, by omega, q1, q2⟩
theorem nE_t {N : mN} (B : nB N) {u w : Nat} (e : nE N u w) : u < nn N 28 ∧ w < nn N 28 := by
  obtain ⟨a, b, ha, hb, -, ea, eb, -⟩ := e
  obtain ⟨h, -, hl, hv⟩ := B.2.2.2.2.2.2.2
  have xa : (nh N)[3 * a]? = some ((nh N)[3 * a]) := List.getElem?_eq_getElem ha
  have xb : (nh N)[3 * b]? = some ((nh N)[3 * b]) := List.getElem?_eq_getElem hb
  have va := hv a _ xa
  have vb := hv b _ xb
  have ea' : hS (nh N) a = (nh N)[3 * a] := by unfold hS; rw [xa]; rfl
  have eb' : hS (nh N) b = (nh N)[3 * b] := by unfold hS; rw [xb]; rfl
  omega
theorem nCl_t {N : mN} (B : nB N) {s u : Nat} (hs : s < nn N 28) (h : nCl N s u) : u < nn N 28 := by
  exact h (fun v => v < nn N 28) hs (fun a b _ e => (nE_t B e).2)
/-- the class's way to the ring ends with all of it -/
theorem nRg_cl {N : mN} (B : nB N) (I : NI N) {s : Nat} (hs : s < nn N 28) : ∀ (f : Nat) (x : Int32), 12 ≤ kCt (zb x) 12 + f → zb x s = true → (∀ u, u < 32 → zb x u = true → nCl N s u) → ∀ u, u < 32 → (zb (nRg N f x) u = true ↔ nCl N s u) := by
  have hb := B.2.1
  have link := I.2.2.2.2.2.2
  -- a set that holds its own links is the ring
  have fin : ∀ x : Int32, zb x s = true → (∀ u, u < 32 → zb x u = true → nCl N s u) → (∀ j u, j < nn N 28 → zb x j = true → nE N j u → zb x u = true) → ∀ u, u < 32 → (zb x u = true ↔ nCl N s u) := by
    intro x h1 h2 h3 u hu
    refine ⟨h2 u hu, fun h => ?_⟩
    exact h (fun v => zb x v = true) h1 (fun a b ih e => h3 a b (nE_t B e).1 ih e)
  intro f
  induction f with
  | zero =>
    intro x hc h1 h2
    have all := (kCt_n (p := zb x) 12).2 (by omega)
    exact fin x h1 h2 (fun j u hj _ e => all u (by have := (nE_t B e).2; omega))
  | succ f ih =>
    intro x hc h1 h2
    by_cases z : (x ||| nLf N x (nn N 28)) = x
    · rw [show nRg N (f + 1) x = x from if_pos z]
      refine fin x h1 h2 (fun j u hj hx e => ?_)
      have hu := (nE_t B e).2
      rw [← z, zb_or, Bool.or_eq_true]
      exact Or.inr ((nLf_zb _).mpr ⟨j, hj, hx, (link j hj u (by omega)).mpr e⟩)
    · rw [show nRg N (f + 1) x = nRg N f (x ||| nLf N x (nn N 28)) from if_neg z]
      have sub : ∀ u, zb x u = true → zb (x ||| nLf N x (nn N 28)) u = true := fun u hu => by rw [zb_or, hu]; rfl
      have lim : ∀ u, u < 32 → zb (nLf N x (nn N 28)) u = true → ∃ j, j < nn N 28 ∧ zb x j = true ∧ nE N j u := fun u hu q => by
        obtain ⟨j, hj, q1, q2⟩ := (nLf_zb _).mp q
        exact ⟨j, hj, q1, (link j hj u hu).mp q2⟩
      refine ih _ ?_ (sub s h1) (fun u hu q => ?_)
      · have hlt : kCt (zb x) 12 < kCt (zb (x ||| nLf N x (nn N 28))) 12 := by
          refine kCt_lt 12 (fun j _ q => sub j q) (Classical.byContradiction (fun w => z (zb_ext (fun u hu => ?_))))
          cases q : zb x u with
          | true => exact sub u q
          | false =>
            cases r : zb (x ||| nLf N x (nn N 28)) u with
            | false => rfl
            | true =>
              refine absurd ⟨u, ?_, r, by rw [q]; decide⟩ w
              have r' := r
              rw [zb_or, q, Bool.false_or] at r'
              obtain ⟨j, hj, q1, e⟩ := lim u hu r'
              have := (nE_t B e).2
              omega
        omega
      · rw [zb_or, Bool.or_eq_true] at q
        rcases q with q | q
        · exact h2 u hu q
        · obtain ⟨j, hj, q1, e⟩ := lim u hu q
          exact nCl.st (h2 j (by omega) q1) e
def vRg (N : mN) (s : Nat) : Int32 := nRg N 12 (m_shl 1 (nI s))
theorem vRg_zb {N : mN} (B : nB N) (I : NI N) {s : Nat} (hs : s < nn N 28) {u : Nat} (hu : u < 32) : zb (vRg N s) u = true ↔ nCl N s u := by
  have hb := B.2.1
  have e : ∀ u, u < 32 → (zb (m_shl 1 (nI s)) u = true ↔ u = s) := fun u hu => by rw [zb_shl s (by omega) u hu, decide_eq_true_iff]
  refine nRg_cl B I hs 12 _ (by omega) ((e s (by omega)).mpr rfl) (fun u hu q => ?_) u hu
  rw [(e u hu).mp q]
  exact nCl.rf
/-- a small number's bits -/
theorem zb_nI {m u : Nat} (hm : m < 4096) (hu : u < 32) : zb (nI m) u = m.testBit u := by
  show (BitVec.ofNat 32 m).getLsbD u = m.testBit u
  rw [BitVec.getLsbD_ofNat]
  simp [hu]
theorem abs2 {a b : Nat} (ha : a < 128) (hb : b < 128) : m_abs (nI a - nI b) ≤ 2 ↔ a ≤ b + 2 ∧ b ≤ a + 2 := by
  unfold m_abs
  by_cases z : b ≤ a
  · rw [pk_sub z, if_pos (show (0 : Int32) ≤ nI (a - b) from nI_le (a := 0) (by omega) (by omega))]
    constructor
    · intro w
      have : ¬ 2 < a - b := fun q => absurd (nI_lt (a := 2) (b := a - b) q (by omega)) (Int32.not_lt.mpr w)
      omega
    · intro w
      exact nI_le (a := a - b) (b := 2) (by omega) (by omega)
  · have hn : nI a - nI b < 0 := pk_sneg (by omega) (by omega)
    rw [if_neg (fun w => absurd hn (Int32.not_lt.mpr w)), show (0 : Int32) - (nI a - nI b) = nI b - nI a from by rw [Int32.zero_sub, Int32.neg_sub], pk_sub (by omega)]
    constructor
    · intro w
      have : ¬ 2 < b - a := fun q => absurd (nI_lt (a := 2) (b := b - a) q (by omega)) (Int32.not_lt.mpr w)
      omega
    · intro w
      exact nI_le (a := b - a) (b := 2) (by omega) (by omega)
section SIM32
variable {g : Nat → Nat} {Y : mY} {S : mS} {M : mM} {N : mN}
theorem C_linksOf_l (R : RC 99 N Y S) (H : mR g Y S M) (W : mWs Y S) {x : Int32} {κ : Int32 → mM → Prop} (h : κ (nLf N x (yn Y 4)) M) : ∀ (d j : Nat), j + d = yn Y 4 → wX8_linksOf_4 κ (d + 1) (some (yA Y 0 0)) x (nLf N x j) (nI j) M := by
  have hb := W.2.1
  intro d
  induction d with
  | zero =>
    intro j hj
    have ej : j = yn Y 4 := by omega
    rw [wX8_linksOf_4, ej]
    exact s_gR6 H W.x0 rfl rfl rfl (s_rcL H rfl (W.l12 (by omega)) (c_szS H W (br_t (nI_le (by omega) (by omega)) h)))
  | succ d ih =>
    intro j hj
    have hlt : j < yn Y 4 := by omega
    have ih' : ∀ a : Int32, a = nLf N x (j + 1) → wX8_linksOf_4 κ (d + 1) (some (yA Y 0 0)) x a (nI j + 1) M := fun a e => by rw [nI_1, e]; exact ih (j + 1) (by omega)
    rw [wX8_linksOf_4]
    refine s_gR6 H W.x0 rfl rfl rfl (s_rcL H rfl (W.l12 (by omega)) (c_szS H W (br_f (nI_ge hlt (by omega)) (br_c (fun z => ih' _ ?_) (fun z => ?_)))))
    · rw [zb_shr _ (by omega)] at z
      exact (if_neg (fun w => by rw [z] at w; cases w)).symm
    · refine s_gR6 H W.x0 rfl rfl rfl (s_rcL H rfl (W.l12 (by omega)) (c_gtS H W hlt (s_cast H hlt rfl rfl (s_gI H hlt rfl rfl rfl ?_))))
      rw [R.2.1 4 j 8 28 9 rfl hlt (by omega)]
      refine ih' _ (if_pos ?_).symm
      rw [zb_shr _ (by omega)] at z
      cases q : zb x j with
      | true => rfl
      | false => exact absurd q z
theorem C_ring_l (R : RC 99 N Y S) (H : mR g Y S M) (W : mWs Y S) {κ : Int32 → mM → Prop} : ∀ (d j : Nat) (x : Int32), j + d = 12 → κ (nRg N d x) M → wX8_ringOf_9 κ (d + 1) (some (yA Y 0 0)) x (nI j) M := by
  intro d
  induction d with
  | zero =>
    intro j x hj h
    rw [wX8_ringOf_9]
    exact br_t (show (12 : Int32) ≤ nI j from nI_le (a := 12) (by omega) (by omega)) h
  | succ d ih =>
    intro j x hj h
    have en := R.1.2.1
    unfold nRg at h
    rw [← en] at h
    rw [wX8_ringOf_9]
    refine br_f (show ¬ (12 : Int32) ≤ nI j from nI_ge (b := 12) (by omega) (by omega)) (s_rc H W.x0 rfl rfl ⟨yn Y 4 + 1, C_linksOf_l R H W ?_ (yn Y 4) 0 (by omega)⟩)
    refine br_c (fun z => ?_) (fun z => ?_)
    · rw [if_pos z] at h
      exact h
    · rw [if_neg z] at h
      rw [nI_1]
      exact ih (j + 1) _ (by omega) h
theorem C_ring (R : RC 99 N Y S) (H : mR g Y S M) (W : mWs Y S) {s : Nat} (hs : s < yn Y 4) {κ : Int32 → mM → Prop} (h : κ (vRg N s) M) : wX8_ringOf κ (some (yA Y 0 0)) (some (yA Y 4 s)) M := by
  refine s_gI H hs rfl rfl rfl ?_
  rw [W.2.2.2.1.2.2.1 s hs]
  exact ⟨13, C_ring_l R H W 12 0 _ (by omega) h⟩
/-- the reference's ring -/
def nK (N : mN) (m a b : Nat) : Prop := ∀ i j, (i < a ∨ (i = a ∧ j < b)) → 3 * i < (nh N).length → 3 * j < (nh N).length → ¬ i = j → m.testBit (hS (nh N) i) = true → nLn (nh N) i j → m.testBit (hS (nh N) j) = true
def nPm (N : mN) (s m : Nat) : Prop := m.testBit s = true ∧ ∀ u, m.testBit u = true → nCl N s u
theorem D_rg55 (R : RV N Y S) (H : mR g Y S M) (V : mVs Y S) {s n k m0 : Nat} (hn : (sL S 24 3).length = 3 * n) (hn40 : n ≤ 40) (hk : k < n) {κ : Int32 → mM → Prop} {R6 : Option Nat → Int32 → Int32 → mM → Prop} {R15 : Option Nat → Int32 → Int32 → Int32 → mM → Prop} (hR : ∀ m l3, m < 4096 → nPm N s m → (l3 = 0 ∧ m = m0 ∧ nK N m (k + 1) 0) ∨ (l3 = 1 ∧ m0 < m) → R15 (some (yA Y 20 0)) (nI m) l3 (nI (3 * k) + 3) M) : ∀ (d j m : Nat) (l3 : Int32), j + d = n → m < 4096 → nPm N s m → m.testBit (hS (nh N) k) = true → (l3 = 0 ∧ m = m0 ∧ nK N m k j) ∨ (l3 = 1 ∧ m0 < m) → wX14_ring_55 κ R6 R15 (d + 1) (some (yA Y 20 0)) (nI m) l3 (nI (3 * k)) (nI (3 * j)) M := by
  have hb := V.2.1
  have eh := R.2.2.2.2
  obtain ⟨hh, hh1, hh2, hsl⟩ := V.2.2.1.2.2.2
  have hlen : (nh N).length = 3 * n := by rw [← eh]; exact hn
  have gS : ∀ i v, (sL S 24 3)[3 * i]? = some v → hS (nh N) i = v := fun i v hx => by unfold hS; rw [← eh, hx]; rfl
  have gD : ∀ i v, (sL S 24 3)[3 * i + 1]? = some v → hD (nh N) i = v := fun i v hx => by unfold hD; rw [← eh, hx]; rfl
  have gT : ∀ i v, (sL S 24 3)[3 * i + 2]? = some v → hT (nh N) i = v := fun i v hx => by unfold hT; rw [← eh, hx]; rfl
  intro d
  induction d with
  | zero =>
    intro j m l3 hj hm hp hbk hi
    rw [wX14_ring_55]
    refine s_gR6 H V.x0 rfl rfl rfl (s_rcL H rfl (V.l24 (by omega)) (v_szH H V (br_t (by rw [hn]; exact nI_le (by omega) (by omega)) (hR m l3 hm hp ?_))))
    rcases hi with ⟨i1, i2, i3⟩ | i
    · refine Or.inl ⟨i1, i2, fun a b hab ha hb' => i3 a b ?_ ha hb'⟩
      omega
    · exact Or.inr i
  | succ d ih =>
    intro j m l3 hj hm hp hbk hi
    have ih' : ∀ (m : Nat) (l3 : Int32), m < 4096 → nPm N s m → m.testBit (hS (nh N) k) = true → (l3 = 0 ∧ m = m0 ∧ nK N m k (j + 1)) ∨ (l3 = 1 ∧ m0 < m) → wX14_ring_193 κ R6 R15 (wX14_ring_55 κ R6 R15 (d + 1)) (some (yA Y 20 0)) (nI m) l3 (nI (3 * k)) (nI (3 * j)) M := fun m l3 hm hp hbk hi => by
      unfold wX14_ring_193
      rw [show (3 : Int32) = nI 3 from rfl, nI_add, show 3 * j + 3 = 3 * (j + 1) by omega]
      exact ih (j + 1) m l3 (by omega) hm hp hbk hi
    -- nothing is put in: what is known goes one farther
    have stay : (¬ k = j → nLn (nh N) k j → m.testBit (hS (nh N) j) = true) → wX14_ring_193 κ R6 R15 (wX14_ring_55 κ R6 R15 (d + 1)) (some (yA Y 20 0)) (nI m) l3 (nI (3 * k)) (nI (3 * j)) M := fun hq => ih' m l3 hm hp hbk (by
      rcases hi with ⟨i1, i2, i3⟩ | i
      · refine Or.inl ⟨i1, i2, fun a b hab ha hb' hne hbit hl => ?_⟩
        by_cases w : a = k ∧ b = j
        · obtain ⟨rfl, rfl⟩ := w
          exact hq hne hl
        · exact i3 a b (by omega) ha hb' hne hbit hl
      · exact Or.inr i)
    rw [wX14_ring_55]
    refine s_gR6 H V.x0 rfl rfl rfl (s_rcL H rfl (V.l24 (by omega)) (v_szH H V (br_f (by rw [hn]; exact nI_ge (by omega) (by omega)) ?_)))
    refine v_H H V (by omega) (fun who hwho hxw => ?_)
    have hw12 : who < 12 := by have := hsl j who hxw; omega
    have eS := gS j who hxw
    rw [nI_1 (3 * k), nI_1 (3 * j), show (2 : Int32) = nI 2 from rfl, nI_add (3 * k) 2, nI_add (3 * j) 2]
    refine v_H H V (by omega) (fun dr hdr hxd => v_H H V (by omega) (fun n1 hn1 hx1 => v_H H V (by omega) (fun n2 hn2 hx2 => br_c (fun z => stay (fun _ _ => by rw [eS]; exact (m_bit hm hw12).mp z)) (fun z => ?_))))
    have eD := gD k dr hxd
    have eT1 := gT k n1 hx1
    have eT2 := gT j n2 hx2
    have hnb : m.testBit who = false := by
      cases hc : m.testBit who with
      | false => rfl
      | true => exact absurd ((m_bit hm hw12).mpr hc) z
    have hkj : ¬ k = j := fun w => by
      rw [w, eS, hnb] at hbk
      cases hbk
    refine v_H H V (by omega) (fun dr2 hdr2 hxd2 => ?_)
    have eD2 := gD j dr2 hxd2
    refine br_c (fun zd => br_c (fun zn => ?_) (fun zn => stay (fun _ hl => absurd ((abs2 (by omega) (by omega)).mpr ?_) zn))) (fun zd => stay (fun _ hl => absurd ?_ zd))
    · have lk : nLn (nh N) k j := ⟨by rw [eD, eD2]; exact ((nI_eq (by omega) (by omega)).mp zd).symm, by rw [eT1, eT2]; exact ((abs2 (by omega) (by omega)).mp zn).1, by rw [eT1, eT2]; exact ((abs2 (by omega) (by omega)).mp zn).2⟩
      have ne : nE N (hS (nh N) k) who := ⟨k, j, by omega, by omega, hkj, rfl, eS, lk⟩
      rw [m_s12 who hw12, m_or]
      have tb : ∀ u, (m ||| 2 ^ who).testBit u = (m.testBit u || decide (who = u)) := fun u => by rw [Nat.testBit_or, Nat.testBit_two_pow]
      refine ih' _ 1 (Nat.or_lt_two_pow (n := 12) hm (Nat.pow_lt_pow_right (by omega) hw12)) ⟨by rw [tb, hp.1]; rfl, fun u hu => ?_⟩ (by rw [tb, hbk]; rfl) (Or.inr ⟨rfl, ?_⟩)
      · rw [tb, Bool.or_eq_true] at hu
        rcases hu with hu | hu
        · exact hp.2 u hu
        · rw [← of_decide_eq_true hu]
          exact nCl.st (hp.2 _ hbk) ne
      · have h1 : m ≤ m ||| 2 ^ who := Nat.left_le_or
        have h2 : m ≠ m ||| 2 ^ who := fun e => by
          have := congrArg (fun q => q.testBit who) e
          simp [hnb] at this
        rcases hi with ⟨_, e, _⟩ | ⟨_, e⟩ <;> omega
    · obtain ⟨-, l1, l2⟩ := hl
      rw [eT1, eT2] at l1 l2
      exact ⟨l1, l2⟩
    · have q := hl.1
      rw [eD, eD2] at q
      rw [q]
theorem D_rg15 (R : RV N Y S) (H : mR g Y S M) (V : mVs Y S) {s n m0 : Nat} (hn : (sL S 24 3).length = 3 * n) (hn40 : n ≤ 40) {κ : Int32 → mM → Prop} {R6 : Option Nat → Int32 → Int32 → mM → Prop} (hR : ∀ m l3, m < 4096 → nPm N s m → (l3 = 0 ∧ m = m0 ∧ nK N m n 0) ∨ (l3 = 1 ∧ m0 < m) → R6 (some (yA Y 20 0)) (nI m) l3 M) : ∀ (d j m : Nat) (l3 : Int32), j + d = n → m < 4096 → nPm N s m → (l3 = 0 ∧ m = m0 ∧ nK N m j 0) ∨ (l3 = 1 ∧ m0 < m) → wX14_ring_15 κ R6 (d + 1) (some (yA Y 20 0)) (nI m) l3 (nI (3 * j)) M := by
  have hb := V.2.1
  have eh := R.2.2.2.2
  obtain ⟨hh, hh1, hh2, hsl⟩ := V.2.2.1.2.2.2
  have gS : ∀ i v, (sL S 24 3)[3 * i]? = some v → hS (nh N) i = v := fun i v hx => by unfold hS; rw [← eh, hx]; rfl
  intro d
  induction d with
  | zero =>
    intro j m l3 hj hm hp hi
    have ej : j = n := by omega
    rw [ej] at hi
    rw [wX14_ring_15]
    exact s_gR6 H V.x0 rfl rfl rfl (s_rcL H rfl (V.l24 (by omega)) (v_szH H V (br_t (by rw [hn]; exact nI_le (by omega) (by omega)) (hR m l3 hm hp hi))))
  | succ d ih =>
    intro j m l3 hj hm hp hi
    have ih' : ∀ (m : Nat) (l3 : Int32), m < 4096 → nPm N s m → (l3 = 0 ∧ m = m0 ∧ nK N m (j + 1) 0) ∨ (l3 = 1 ∧ m0 < m) → wX14_ring_15 κ R6 (d + 1) (some (yA Y 20 0)) (nI m) l3 (nI (3 * j) + 3) M := fun m l3 hm hp hi => by
      rw [show (3 : Int32) = nI 3 from rfl, nI_add, show 3 * j + 3 = 3 * (j + 1) by omega]
      exact ih (j + 1) m l3 (by omega) hm hp hi
    rw [wX14_ring_15]
    refine s_gR6 H V.x0 rfl rfl rfl (s_rcL H rfl (V.l24 (by omega)) (v_szH H V (br_f (by rw [hn]; exact nI_ge (by omega) (by omega)) ?_)))
    refine v_H H V (by omega) (fun who hwho hxw => ?_)
    have hw12 : who < 12 := by have := hsl j who hxw; omega
    have eS := gS j who hxw
    refine br_c (fun z => ih' m l3 hm hp ?_) (fun z => ⟨n + 1, D_rg55 R H V hn hn40 (by omega) ih' n 0 m l3 (by omega) hm hp ?_ hi⟩)
    · rcases hi with ⟨i1, i2, i3⟩ | i
      · refine Or.inl ⟨i1, i2, fun a b hab ha hb' hne hbit hl => ?_⟩
        by_cases w : a = j
        · rw [w, eS] at hbit
          exact absurd z ((and_10 _).mp ((m_bit hm hw12).mpr hbit))
        · exact i3 a b (by omega) ha hb' hne hbit hl
      · exact Or.inr i
    · rw [eS]
      exact (m_bit hm hw12).mp ((and_10 _).mpr z)
theorem D_ring (R : RV N Y S) (H : mR g Y S M) (V : mVs Y S) (B : nB N) (I : NI N) {s : Nat} (hs : s < yn Y 28) {κ : Int32 → mM → Prop} (h : κ (vRg N s) M) : wX14_ring κ (some (yA Y 20 0)) (nI s) M := by
  have hb := V.2.1
  have eh := R.2.2.2.2
  obtain ⟨n, hn40, hn, -⟩ := V.2.2.1.2.2.2
  have hlen : (nh N).length = 3 * n := by rw [← eh]; exact hn
  have hs' : s < nn N 28 := by rw [← R.1.2.1]; exact hs
  have done : ∀ m, m < 4096 → nPm N s m → nK N m n 0 → nI m = vRg N s := fun m hm hp hk => by
    refine zb_ext (fun u hu => Bool.eq_iff_iff.mpr ?_)
    rw [zb_nI hm hu, vRg_zb B I hs' hu]
    refine ⟨hp.2 u, fun hc => ?_⟩
    refine hc (fun v => m.testBit v = true) hp.1 (fun u v ih e => ?_)
    obtain ⟨a, b, ha, hb', hne, ea, eb, hl⟩ := e
    show m.testBit v = true
    rw [← eb]
    exact hk a b (by omega) ha hb' hne (by rw [ea]; exact ih) hl
  have hl : ∀ (d m : Nat), m < 4096 → nPm N s m → 4096 - m ≤ d → wX14_ring_6 κ (d + 1) (some (yA Y 20 0)) (nI m) 1 M := by
    intro d
    induction d with
    | zero => intro m hm _ hd; omega
    | succ d ih =>
      intro m hm hp hd
      rw [wX14_ring_6]
      refine br_f (by decide) ⟨n + 1, D_rg15 (m0 := m) R H V hn hn40 (fun m' l3 hm' hp' hi => ?_) n 0 m 0 (by omega) hm hp (Or.inl ⟨rfl, rfl, fun a b hab => absurd hab (by omega)⟩)⟩
      rcases hi with ⟨rfl, rfl, hk⟩ | ⟨rfl, hlt⟩
      · rw [wX14_ring_6]
        refine br_t rfl ?_
        rw [done _ hm' hp' hk]
        exact h
      · exact ih m' hm' hp' (by omega)
  refine ⟨4096 + 1, ?_⟩
  rw [m_s12 s (by omega)]
  refine hl 4096 (2 ^ s) (Nat.pow_lt_pow_right (n := 12) (by omega) (by omega)) ⟨?_, fun u hu => ?_⟩ (Nat.sub_le _ _)
  · rw [Nat.testBit_two_pow]
    exact decide_eq_true rfl
  · rw [Nat.testBit_two_pow] at hu
    rw [← of_decide_eq_true hu]
    exact nCl.rf
end SIM32
