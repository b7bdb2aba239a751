/-! THE PURE SIDE, 8: the class's checksum; frames; short methods that write -/
section CDIG
variable {g : Nat → Nat} {Y : mY}
theorem m_w17 : ∀ j : Nat, j < 17 → ¬ (¬ nI j = 0 ∧ ¬ nI j = 1 ∧ ¬ nI j = 2 ∧ ¬ nI j = 3 ∧ ¬ nI j = 4 ∧ ¬ nI j = 5 ∧ ¬ nI j = 6 ∧ ¬ nI j = 7 ∧ ¬ nI j = 8 ∧ ¬ nI j = 9 ∧ ¬ nI j = 10 ∧ ¬ nI j = 11 ∧ ¬ nI j = 12 ∧ ¬ nI j = 13 ∧ ¬ nI j = 14 ∧ ¬ nI j = 15 ∧ ¬ nI j = 16) := by decide +kernel
theorem m_w9 : ∀ j : Nat, j < 9 → ¬ (¬ nI j = 0 ∧ ¬ nI j = 1 ∧ ¬ nI j = 2 ∧ ¬ nI j = 3 ∧ ¬ nI j = 4 ∧ ¬ nI j = 5 ∧ ¬ nI j = 6 ∧ ¬ nI j = 7 ∧ ¬ nI j = 8) := by decide +kernel
theorem m_w10 : ∀ j : Nat, j < 10 → ¬ (¬ nI j = 0 ∧ ¬ nI j = 1 ∧ ¬ nI j = 2 ∧ ¬ nI j = 3 ∧ ¬ nI j = 4 ∧ ¬ nI j = 5 ∧ ¬ nI j = 6 ∧ ¬ nI j = 7 ∧ ¬ nI j = 8 ∧ ¬ nI j = 9) := by decide +kernel
theorem m_w6 : ∀ j : Nat, j < 6 → ¬ (¬ nI j = 0 ∧ ¬ nI j = 1 ∧ ¬ nI j = 2 ∧ ¬ nI j = 3 ∧ ¬ nI j = 4 ∧ ¬ nI j = 5) := by decide +kernel
theorem m_in {j n : Nat} (h : j < n) (hn : n < 2 ^ 31) : ¬ nI j < 0 ∧ nI j < nI n := ⟨nI_pos (by omega), nI_lt h hn⟩
theorem c_d240 {S0 : mS} {κ : Int64 → mM → Prop} (h : ∀ x S M, mR g Y S M → mWs Y S → eqE S S0 → κ x M) : ∀ (d j : Nat) (a : Int64) (S : mS) (M : mM), mR g Y S M → mWs Y S → eqE S S0 → j + d = 6 → wX8_digest_240 κ (d + 1) (some (yA Y 0 0)) a (nI j) M := by
  intro d
  induction d with
  | zero =>
    intro j a S M H W E hj
    rw [wX8_digest_240]
    refine br_t (show (6 : Int32) ≤ nI j from nI_le (a := 6) (by omega) (by omega)) (s_rc H W.x0 rfl rfl (c_plan H W (fun x S1 M1 H1 E1 => ?_) (fun z => absurd (Or.inl rfl) z) (fun _ z => absurd (by decide) z)))
    have W1 := W.E E1
    exact s_rc H1 W.x0 rfl rfl (c_isSound H1 W1 (br_f (by decide) (h _ S1 M1 H1 W1 (E1.tr E))) (br_t rfl (h _ S1 M1 H1 W1 (E1.tr E))))
  | succ d ih =>
    intro j a S M H W E hj
    rw [wX8_digest_240]
    refine br_f (show ¬ (6 : Int32) ≤ nI j from nI_ge (b := 6) (by omega) (by omega)) (s_rc H W.x0 rfl rfl (c_way H W (fun x S1 M1 H1 E1 => ?_) (fun z => absurd ⟨by decide, m_in (n := 6) (by omega) (by omega)⟩ z)))
    rw [nI_1]
    exact ih (j + 1) _ S1 M1 H1 (W.E E1) (E1.tr E) (by omega)
theorem c_d205 {S : mS} {M : mM} (H : mR g Y S M) (W : mWs Y S) {κ : Int64 → mM → Prop} {R : Option Nat → Int64 → Int32 → mM → Prop} {i : Nat} (hi : i < yn Y 5) (hR : ∀ a, R (some (yA Y 0 0)) a (nI i + 1) M) : ∀ (d j : Nat) (a : Int64), j + d = 6 → wX8_digest_205 κ R (d + 1) (some (yA Y 0 0)) a (nI i) (nI j) M := by
  have hb := W.2.1
  intro d
  induction d with
  | zero =>
    intro j a hj
    rw [wX8_digest_205]
    exact br_t (show (5 : Int32) < nI j from nI_lt (a := 5) (by omega) (by omega)) (hR _)
  | succ d ih =>
    intro j a hj
    rw [wX8_digest_205]
    refine br_f (show ¬ (5 : Int32) < nI j from nI_nlt (b := j) (a := 5) (by omega) (by omega)) (s_rc H W.x0 rfl rfl (c_ofPart H W (fun x => ?_) (fun z => absurd (m_in hi (by omega)) z) (fun z => m_w6 j (by omega) z)))
    rw [nI_1]
    exact ih (j + 1) _ (by omega)
theorem c_d155 {S : mS} {M : mM} (H : mR g Y S M) (W : mWs Y S) {κ : Int64 → mM → Prop} {R : Option Nat → Int64 → Int32 → mM → Prop} {i : Nat} (hi : i < yn Y 4) (hR : ∀ a, R (some (yA Y 0 0)) a (nI i + 1) M) : ∀ (d j : Nat) (a : Int64), j + d = 9 → wX8_digest_155 κ R (d + 1) (some (yA Y 0 0)) a (nI i) (nI j) M := by
  have hb := W.2.1
  intro d
  induction d with
  | zero =>
    intro j a hj
    rw [wX8_digest_155]
    exact br_t (show (8 : Int32) < nI j from nI_lt (a := 8) (by omega) (by omega)) (hR _)
  | succ d ih =>
    intro j a hj
    rw [wX8_digest_155]
    refine br_f (show ¬ (8 : Int32) < nI j from nI_nlt (b := j) (a := 8) (by omega) (by omega)) (s_rc H W.x0 rfl rfl (c_ofSleeper H W (fun x => ?_) (fun z => absurd (m_in hi (by omega)) z) (fun z => m_w9 j (by omega) z)))
    rw [nI_1]
    exact ih (j + 1) _ (by omega)
theorem c_d92 {S : mS} {M : mM} (H : mR g Y S M) (W : mWs Y S) {κ : Int64 → mM → Prop} {R : Option Nat → Int64 → Int32 → mM → Prop} {i : Nat} (hi : i < yn Y 3) (hR : ∀ a, R (some (yA Y 0 0)) a (nI i + 1) M) : ∀ (d j : Nat) (a : Int64), j + d = 10 → wX8_digest_92 κ R (d + 1) (some (yA Y 0 0)) a (nI i) (nI j) M := by
  have hb := W.2.1
  intro d
  induction d with
  | zero =>
    intro j a hj
    rw [wX8_digest_92]
    exact br_t (show (9 : Int32) < nI j from nI_lt (a := 9) (by omega) (by omega)) (s_rc H W.x0 rfl rfl (c_wouldPay H W (fun x => hR _) (fun z => absurd (m_in hi (by omega)) z)))
  | succ d ih =>
    intro j a hj
    rw [wX8_digest_92]
    refine br_f (show ¬ (9 : Int32) < nI j from nI_nlt (b := j) (a := 9) (by omega) (by omega)) (s_rc H W.x0 rfl rfl (c_ofGate H W (fun x => ?_) (fun z => absurd (m_in hi (by omega)) z) (fun z => m_w10 j (by omega) z)))
    rw [nI_1]
    exact ih (j + 1) _ (by omega)
theorem c_d42 {S : mS} {M : mM} (H : mR g Y S M) (W : mWs Y S) {κ : Int64 → mM → Prop} {R : Option Nat → Int64 → Int32 → mM → Prop} {i : Nat} (hi : i < 6) (hR : ∀ a, R (some (yA Y 0 0)) a (nI i + 1) M) : ∀ (d j : Nat) (a : Int64), j + d = 9 → wX8_digest_42 κ R (d + 1) (some (yA Y 0 0)) a (nI i) (nI j) M := by
  have hb := W.2.1
  intro d
  induction d with
  | zero =>
    intro j a hj
    rw [wX8_digest_42]
    exact br_t (show (8 : Int32) < nI j from nI_lt (a := 8) (by omega) (by omega)) (hR _)
  | succ d ih =>
    intro j a hj
    rw [wX8_digest_42]
    refine br_f (show ¬ (8 : Int32) < nI j from nI_nlt (b := j) (a := 8) (by omega) (by omega)) (s_rc H W.x0 rfl rfl (c_ofLand H W (fun x => ?_) (fun z => absurd (m_in (n := 6) hi (by omega)) z) (fun z => m_w9 j (by omega) z)))
    rw [nI_1]
    exact ih (j + 1) _ (by omega)
theorem c_d191 {S : mS} {M : mM} (H : mR g Y S M) (W : mWs Y S) {κ : Int64 → mM → Prop} (h : ∀ x S' M', mR g Y S' M' → mWs Y S' → eqE S' S → κ x M') : ∀ (d j : Nat) (a : Int64), j + d = yn Y 5 → wX8_digest_191 κ (d + 1) (some (yA Y 0 0)) a (nI j) M := by
  have hb := W.2.1
  intro d
  induction d with
  | zero =>
    intro j a hj
    rw [wX8_digest_191]
    exact s_gR6 H W.x0 rfl rfl rfl (s_rcL H rfl (W.l12 (by omega)) (c_szP H W (br_t (nI_le (by omega) (by omega)) ⟨7, c_d240 (S0 := S) h 6 0 _ S M H W (eqE.rf S) (by omega)⟩)))
  | succ d ih =>
    intro j a hj
    rw [wX8_digest_191]
    exact s_gR6 H W.x0 rfl rfl rfl (s_rcL H rfl (W.l12 (by omega)) (c_szP H W (br_f (nI_ge (by omega) (by omega)) ⟨3 + 1, c_d205 H W (by omega) (fun a => by rw [nI_1]; exact ih (j + 1) a (by omega)) 3 3 a (by omega)⟩)))
theorem c_d141 {S : mS} {M : mM} (H : mR g Y S M) (W : mWs Y S) {κ : Int64 → mM → Prop} (h : ∀ x S' M', mR g Y S' M' → mWs Y S' → eqE S' S → κ x M') : ∀ (d j : Nat) (a : Int64), j + d = yn Y 4 → wX8_digest_141 κ (d + 1) (some (yA Y 0 0)) a (nI j) M := by
  have hb := W.2.1
  intro d
  induction d with
  | zero =>
    intro j a hj
    rw [wX8_digest_141]
    exact s_gR6 H W.x0 rfl rfl rfl (s_rcL H rfl (W.l12 (by omega)) (c_szS H W (br_t (nI_le (by omega) (by omega)) ⟨yn Y 5 + 1, c_d191 H W h (yn Y 5) 0 _ (by omega)⟩)))
  | succ d ih =>
    intro j a hj
    rw [wX8_digest_141]
    exact s_gR6 H W.x0 rfl rfl rfl (s_rcL H rfl (W.l12 (by omega)) (c_szS H W (br_f (nI_ge (by omega) (by omega)) ⟨9 + 1, c_d155 H W (by omega) (fun a => by rw [nI_1]; exact ih (j + 1) a (by omega)) 9 0 a (by omega)⟩)))
theorem c_d78 {S : mS} {M : mM} (H : mR g Y S M) (W : mWs Y S) {κ : Int64 → mM → Prop} (h : ∀ x S' M', mR g Y S' M' → mWs Y S' → eqE S' S → κ x M') : ∀ (d j : Nat) (a : Int64), j + d = yn Y 3 → wX8_digest_78 κ (d + 1) (some (yA Y 0 0)) a (nI j) M := by
  have hb := W.2.1
  intro d
  induction d with
  | zero =>
    intro j a hj
    rw [wX8_digest_78]
    exact s_gR6 H W.x0 rfl rfl rfl (s_rcL H rfl (W.l12 (by omega)) (c_szG H W (br_t (nI_le (by omega) (by omega)) ⟨yn Y 4 + 1, c_d141 H W h (yn Y 4) 0 _ (by omega)⟩)))
  | succ d ih =>
    intro j a hj
    rw [wX8_digest_78]
    exact s_gR6 H W.x0 rfl rfl rfl (s_rcL H rfl (W.l12 (by omega)) (c_szG H W (br_f (nI_ge (by omega) (by omega)) ⟨8 + 1, c_d92 H W (by omega) (fun a => by rw [nI_1]; exact ih (j + 1) a (by omega)) 8 2 a (by omega)⟩)))
theorem c_d33 {S : mS} {M : mM} (H : mR g Y S M) (W : mWs Y S) {κ : Int64 → mM → Prop} (h : ∀ x S' M', mR g Y S' M' → mWs Y S' → eqE S' S → κ x M') : ∀ (d j : Nat) (a : Int64), j + d = 6 → wX8_digest_33 κ (d + 1) (some (yA Y 0 0)) a (nI j) M := by
  intro d
  induction d with
  | zero =>
    intro j a hj
    rw [wX8_digest_33]
    exact br_t (show (6 : Int32) ≤ nI j from nI_le (a := 6) (by omega) (by omega)) ⟨yn Y 3 + 1, c_d78 H W h (yn Y 3) 0 _ (by omega)⟩
  | succ d ih =>
    intro j a hj
    rw [wX8_digest_33]
    exact br_f (show ¬ (6 : Int32) ≤ nI j from nI_ge (b := 6) (by omega) (by omega)) ⟨9 + 1, c_d42 H W (by omega) (fun a => by rw [nI_1]; exact ih (j + 1) a (by omega)) 9 0 a (by omega)⟩
theorem c_d6 {S : mS} {M : mM} (H : mR g Y S M) (W : mWs Y S) {κ : Int64 → mM → Prop} (h : ∀ x S' M', mR g Y S' M' → mWs Y S' → eqE S' S → κ x M') : ∀ (d j : Nat) (a : Int64), j + d = 17 → wX8_digest_6 κ (d + 1) (some (yA Y 0 0)) a (nI j) M := by
  intro d
  induction d with
  | zero =>
    intro j a hj
    rw [wX8_digest_6]
    exact br_t (show (16 : Int32) < nI j from nI_lt (a := 16) (by omega) (by omega)) ⟨7, c_d33 H W h 6 0 _ (by omega)⟩
  | succ d ih =>
    intro j a hj
    rw [wX8_digest_6]
    refine br_f (show ¬ (16 : Int32) < nI j from nI_nlt (b := j) (a := 16) (by omega) (by omega)) (s_rc H W.x0 rfl rfl (c_night H W (fun x => ?_) (fun z => m_w17 j (by omega) z)))
    rw [nI_1]
    exact ih (j + 1) _ (by omega)
theorem c_digest {S : mS} {M : mM} (H : mR g Y S M) (W : mWs Y S) {κ : Int64 → mM → Prop} (h : ∀ x S' M', mR g Y S' M' → eqE S' S → κ x M') : wX8_digest κ (some (yA Y 0 0)) M := ⟨18, c_d6 H W (fun x S' M' H' _ E' => h x S' M' H' E') 17 0 _ (by omega)⟩
end CDIG
/-! frames -/
/-- lines: who stands in one stands there alone, and in no other -/
def mWq (Y : mY) (S : mS) : Prop := (∀ t, t < yn Y 3 → (sL S 13 t).Nodup ∧ ∀ s ∈ sL S 13 t, sX S 4 s 5 = some t) ∧ (∀ s t, s < yn Y 4 → sX S 4 s 5 = some t → sI S 4 s 4 = 1 ∧ s ∈ sL S 13 t)
/-- the addresses stay; what is not the class's stays -/
def mFc (Y : mY) (S : mS) (Y' : mY) (S' : mS) : Prop := (∀ k i, i < yn Y k → yA Y' k i = yA Y k i) ∧ (∀ k, yn Y k ≤ yn Y' k) ∧ (∀ k, 20 ≤ k → yn Y' k = yn Y k ∧ ∀ i, mEq S' S k i)
def mFm (Y : mY) (S : mS) (Y' : mY) (S' : mS) : Prop := (∀ k i, i < yn Y k → yA Y' k i = yA Y k i) ∧ (∀ k, yn Y k ≤ yn Y' k) ∧ (∀ k, (k < 20 ∨ k = 31 ∨ (35 ≤ k ∧ k ≤ 37)) → yn Y' k = yn Y k ∧ ∀ i, mEq S' S k i)
theorem mFc.rf (Y : mY) (S : mS) : mFc Y S Y S := ⟨fun _ _ _ => rfl, fun _ => Nat.le_refl _, fun _ _ => ⟨rfl, fun _ => mEq.rf _ _ _⟩⟩
theorem mFm.rf (Y : mY) (S : mS) : mFm Y S Y S := ⟨fun _ _ _ => rfl, fun _ => Nat.le_refl _, fun _ _ => ⟨rfl, fun _ => mEq.rf _ _ _⟩⟩
theorem mFc.tr {Y Y' Y'' : mY} {S S' S'' : mS} (h : mFc Y S Y' S') (h' : mFc Y' S' Y'' S'') : mFc Y S Y'' S'' := ⟨fun k i hi => (h'.1 k i (Nat.lt_of_lt_of_le hi (h.2.1 k))).trans (h.1 k i hi), fun k => Nat.le_trans (h.2.1 k) (h'.2.1 k), fun k hk => ⟨(h'.2.2 k hk).1.trans (h.2.2 k hk).1, fun i => ((h'.2.2 k hk).2 i).tr ((h.2.2 k hk).2 i)⟩⟩
theorem mFm.tr {Y Y' Y'' : mY} {S S' S'' : mS} (h : mFm Y S Y' S') (h' : mFm Y' S' Y'' S'') : mFm Y S Y'' S'' := ⟨fun k i hi => (h'.1 k i (Nat.lt_of_lt_of_le hi (h.2.1 k))).trans (h.1 k i hi), fun k => Nat.le_trans (h.2.1 k) (h'.2.1 k), fun k hk => ⟨(h'.2.2 k hk).1.trans (h.2.2 k hk).1, fun i => ((h'.2.2 k hk).2 i).tr ((h.2.2 k hk).2 i)⟩⟩
theorem mFc.of {Y : mY} {S S' : mS} (h : ∀ k, 20 ≤ k → ∀ i, mEq S' S k i) : mFc Y S Y S' := ⟨fun _ _ _ => rfl, fun _ => Nat.le_refl _, fun k hk => ⟨rfl, h k hk⟩⟩
theorem mFm.of {Y : mY} {S S' : mS} (h : ∀ k, (k < 20 ∨ k = 31 ∨ (35 ≤ k ∧ k ≤ 37)) → ∀ i, mEq S' S k i) : mFm Y S Y S' := ⟨fun _ _ _ => rfl, fun _ => Nat.le_refl _, fun k hk => ⟨rfl, h k hk⟩⟩
theorem mFc.E {Y : mY} {S S' : mS} (e : eqE S' S) : mFc Y S Y S' := mFc.of (fun k hk i => ⟨by rw [e.1], by rw [e.2.1], by rw [e.2.2.1], by rw [e.2.2.2.1], by rw [e.2.2.2.2.1], by rw [e.2.2.2.2.2.1], by rw [e.2.2.2.2.2.2.1], by rw [e.2.2.2.2.2.2.2.1 k (by omega)], by rw [e.2.2.2.2.2.2.2.2]⟩)
theorem mFc.uI {Y : mY} {S : mS} {k i f : Nat} {v : Int32} (hk : k < 20) : mFc Y S Y (uI S k i f v) := mFc.of (fun k' hk' i' => mEq.uI (by omega))
theorem mFc.uJ {Y : mY} {S : mS} {k i f : Nat} {v : Int64} (hk : k < 20) : mFc Y S Y (uJ S k i f v) := mFc.of (fun k' hk' i' => mEq.uJ (by omega))
theorem mFc.uX {Y : mY} {S : mS} {k i f : Nat} {v : Option Nat} (hk : k < 20) : mFc Y S Y (uX S k i f v) := mFc.of (fun k' hk' i' => mEq.uX (by omega))
theorem mFc.uN {Y : mY} {S : mS} {k i f v : Nat} (hk : k < 20) : mFc Y S Y (uN S k i f v) := mFc.of (fun k' hk' i' => mEq.uN (by omega))
theorem mFc.uL {Y : mY} {S : mS} {k i : Nat} {md : Int32} {e : Nat} {xs : List Nat} (hk : k < 20) : mFc Y S Y (uL S k i md e xs) := mFc.of (fun k' hk' i' => mEq.uL (by omega))
theorem mFm.uI {Y : mY} {S : mS} {k i f : Nat} {v : Int32} (hk : 20 ≤ k ∧ k ≠ 31 ∧ ¬ (35 ≤ k ∧ k ≤ 37)) : mFm Y S Y (uI S k i f v) := mFm.of (fun k' hk' i' => mEq.uI (by omega))
theorem mFm.uJ {Y : mY} {S : mS} {k i f : Nat} {v : Int64} (hk : 20 ≤ k ∧ k ≠ 31 ∧ ¬ (35 ≤ k ∧ k ≤ 37)) : mFm Y S Y (uJ S k i f v) := mFm.of (fun k' hk' i' => mEq.uJ (by omega))
theorem mFm.uE {Y : mY} {S : mS} {k i f : Nat} {v : Int32} (hk : 20 ≤ k ∧ k ≠ 31 ∧ ¬ (35 ≤ k ∧ k ≤ 37)) : mFm Y S Y (uE S k i f v) := mFm.of (fun k' hk' i' => mEq.uE (by omega))
theorem mFm.uL {Y : mY} {S : mS} {k i : Nat} {md : Int32} {e : Nat} {xs : List Nat} (hk : 20 ≤ k ∧ k ≠ 31 ∧ ¬ (35 ≤ k ∧ k ≤ 37)) : mFm Y S Y (uL S k i md e xs) := mFm.of (fun k' hk' i' => mEq.uL (by omega))
theorem mWq.of {Y : mY} {S S' : mS} (h : mWq Y S) (a : ∀ t, sL S' 13 t = sL S 13 t) (b : ∀ s, sX S' 4 s 5 = sX S 4 s 5) (c : ∀ s, sI S' 4 s 4 = sI S 4 s 4) : mWq Y S' := by
  refine ⟨fun t ht => ?_, fun s t hs hx => ?_⟩
  · rw [a]
    exact ⟨(h.1 t ht).1, fun s hs => (b s).trans ((h.1 t ht).2 s hs)⟩
  · rw [b] at hx
    rw [a, c]
    exact h.2 s t hs hx
theorem mWq.E {Y : mY} {S S' : mS} (h : mWq Y S) (e : eqE S' S) : mWq Y S' := h.of (fun t => by rw [e.2.2.2.2.1]) (fun s => by rw [e.2.2.1]) (fun s => by rw [e.1])
theorem mWq.uI {Y : mY} {S : mS} {k i f : Nat} {v : Int32} (h : mWq Y S) (hk : ¬ (k = 4 ∧ f = 4)) : mWq Y (uI S k i f v) := h.of (fun _ => rfl) (fun _ => rfl) (fun s => sI_uI (by omega))
theorem mWq.uJ {Y : mY} {S : mS} {k i f : Nat} {v : Int64} (h : mWq Y S) : mWq Y (uJ S k i f v) := h.of (fun _ => rfl) (fun _ => rfl) (fun _ => rfl)
theorem mWq.uX {Y : mY} {S : mS} {k i f : Nat} {v : Option Nat} (h : mWq Y S) (hk : ¬ (k = 4 ∧ f = 5)) : mWq Y (uX S k i f v) := h.of (fun _ => rfl) (fun s => sX_uX (by omega)) (fun _ => rfl)
theorem mWq.uN {Y : mY} {S : mS} {k i f v : Nat} (h : mWq Y S) : mWq Y (uN S k i f v) := h.of (fun _ => rfl) (fun _ => rfl) (fun _ => rfl)
/-- fields that few methods write: rates, quotas, odds, night and hour -/
def qC (k f : Nat) : Bool := (k == 2 && (f == 1 || f == 3)) || (k == 3 && f == 8) || (k == 0 && (f == 8 || f == 9))
theorem qC_d {k f : Nat} (h : qC k f = true) : (k = 2 ∧ (f = 1 ∨ f = 3)) ∨ (k = 3 ∧ f = 8) ∨ (k = 0 ∧ (f = 8 ∨ f = 9)) := by
  unfold qC at h
  simp only [Bool.or_eq_true, Bool.and_eq_true, beq_iff_eq] at h
  omega
def cQ (Y : mY) (S : mS) (Y' : mY) (S' : mS) : Prop := (∀ k i f, qC k f = true → sI S' k i f = sI S k i f) ∧ yn Y' 3 = yn Y 3 ∧ yn Y' 4 = yn Y 4
theorem cQ.rf (Y : mY) (S : mS) : cQ Y S Y S := ⟨fun _ _ _ _ => rfl, rfl, rfl⟩
theorem cQ.tr {Y Y' Y'' : mY} {S S' S'' : mS} (h : cQ Y S Y' S') (h' : cQ Y' S' Y'' S'') : cQ Y S Y'' S'' := ⟨fun k i f q => (h'.1 k i f q).trans (h.1 k i f q), h'.2.1.trans h.2.1, h'.2.2.trans h.2.2⟩
theorem cQ.E {Y : mY} {S S' : mS} (e : eqE S' S) : cQ Y S Y S' := ⟨fun k i f _ => by rw [e.1], rfl, rfl⟩
theorem cQ.uI {Y : mY} {S : mS} {k i f : Nat} {v : Int32} (h : qC k f = false) : cQ Y S Y (uI S k i f v) := ⟨fun k' i' f' q => sI_uI (fun z => by rw [z.1, z.2.2, h] at q; cases q), rfl, rfl⟩
theorem cQ.uJ {Y : mY} {S : mS} {k i f : Nat} {v : Int64} : cQ Y S Y (uJ S k i f v) := ⟨fun _ _ _ _ => rfl, rfl, rfl⟩
theorem cQ.uX {Y : mY} {S : mS} {k i f : Nat} {v : Option Nat} : cQ Y S Y (uX S k i f v) := ⟨fun _ _ _ _ => rfl, rfl, rfl⟩
theorem cQ.uN {Y : mY} {S : mS} {k i f v : Nat} : cQ Y S Y (uN S k i f v) := ⟨fun _ _ _ _ => rfl, rfl, rfl⟩
theorem cQ.uL {Y : mY} {S : mS} {k i : Nat} {md : Int32} {e : Nat} {xs : List Nat} : cQ Y S Y (uL S k i md e xs) := ⟨fun k' i' f' q => sI_uL (fun z => by have := qC_d q; omega), rfl, rfl⟩
/-- what a call of the class leaves behind -/
def cP (g : Nat → Nat) (Y : mY) (S : mS) (Y' : mY) (S' : mS) (M' : mM) : Prop := mR g Y' S' M' ∧ mWs Y' S' ∧ mWq Y' S' ∧ mFc Y S Y' S' ∧ cQ Y S Y' S'
section CWR
variable {g : Nat → Nat} {Y : mY} {S : mS} {M : mM}
theorem cP.rf (H : mR g Y S M) (W : mWs Y S) (Q : mWq Y S) : cP g Y S Y S M := ⟨H, W, Q, mFc.rf Y S, cQ.rf Y S⟩
theorem cP.E {S' : mS} {M' : mM} (W : mWs Y S) (Q : mWq Y S) (H : mR g Y S' M') (e : eqE S' S) : cP g Y S Y S' M' := ⟨H, W.E e, Q.E e, mFc.E e, cQ.E e⟩
theorem c_land (H : mR g Y S M) (W : mWs Y S) (Q : mWq Y S) {a r al : Int32} {κ : Int32 → mM → Prop} {ξ : String → mM → Prop} (hI : ¬ (¬ a < 0 ∧ a < 6) → ξ "java/lang/IndexOutOfBoundsException" M) (hA : (¬ a < 0 ∧ a < 6) → ¬ ((¬ r < 0 ∧ r ≤ 50) ∧ (¬ al < 0 ∧ al ≤ 99)) → ξ "java/lang/IllegalArgumentException" M)
    (h : ∀ l S' M', l < 6 → a = nI l → ((¬ r < 0 ∧ r ≤ 50) ∧ (¬ al < 0 ∧ al ≤ 99)) → mR g Y S' M' → mWs Y S' → mWq Y S' → mFc Y S Y S' → (∀ k i f, qC k f = true → sI S' k i f = if k = 2 ∧ i = l ∧ f = 1 then r else sI S k i f) → κ (sI S 2 l 1) M') : wX8_land κ ξ (some (yA Y 0 0)) a r al M := by
  refine s_rc H W.x0 rfl rfl (c_landN H W (fun l hl e => ?_) hI)
  have hv : ¬ a < 0 ∧ a < 6 := by rw [e]; exact m_in (n := 6) hl (by omega)
  refine c_range H (fun r1 r2 => c_range H (fun r3 r4 => ?_) (fun z => hA hv (fun q => z q.2))) (fun z => hA hv (fun q => z q.1))
  refine s_gI H (W.l2 hl) rfl rfl rfl (s_pI H (W.l2 hl) rfl rfl rfl (fun M1 H1 => s_pI H1 (W.l2 hl) rfl rfl rfl (fun M2 H2 => ?_)))
  refine h l _ M2 hl e ⟨⟨r1, r2⟩, ⟨r3, r4⟩⟩ H2 ((W.uI (Or.inl (by omega))).uI (Or.inl (by omega))) ((Q.uI (by omega)).uI (by omega)) ((mFc.uI (by omega)).tr (mFc.uI (by omega))) (fun k i f hq => ?_)
  have hd := qC_d hq
  rw [sI_uI (by omega)]
  by_cases z : k = 2 ∧ i = l ∧ f = 1
  · rw [if_pos z, z.1, z.2.1, z.2.2]
    exact sI_uI_s
  · rw [if_neg z, sI_uI z]
theorem c_trade (H : mR g Y S M) (W : mWs Y S) (Q : mWq Y S) {a b m : Int32} {κ : Int32 → mM → Prop} {ξ : String → mM → Prop} (hI : ¬ ((¬ a < 0 ∧ a < 6) ∧ (¬ b < 0 ∧ b < 6)) → ξ "java/lang/IndexOutOfBoundsException" M) (hA : ((¬ a < 0 ∧ a < 6) ∧ (¬ b < 0 ∧ b < 6)) → (a = b ∨ ¬ 0 ≤ m) → ξ "java/lang/IllegalArgumentException" M) (hS : ∀ l l', l < 6 → l' < 6 → a = nI l → b = nI l' → ¬ a = b → 0 ≤ m → (sI S 2 l 3 < m ∨ ¬ sI S 2 l' 3 + m ≤ 30) → ξ "java/lang/IllegalStateException" M)
    (h : ∀ l l' S' M', l < 6 → l' < 6 → a = nI l → b = nI l' → ¬ a = b → 0 ≤ m → ¬ sI S 2 l 3 < m → sI S 2 l' 3 + m ≤ 30 → mR g Y S' M' → mWs Y S' → mWq Y S' → mFc Y S Y S' → (∀ k i f, qC k f = true → sI S' k i f = if k = 2 ∧ i = l' ∧ f = 3 then sI S 2 l' 3 + m else if k = 2 ∧ i = l ∧ f = 3 then sI S 2 l 3 - m else sI S k i f) → κ (sI S 2 l' 3 + m) M') : wX8_trade κ ξ (some (yA Y 0 0)) a b m M := by
  refine s_rc H W.x0 rfl rfl (c_landN H W (fun l hl e => s_rc H W.x0 rfl rfl (c_landN H W (fun l' hl' e' => ?_) (fun z => hI (fun w => z w.2)))) (fun z => hI (fun w => z w.1)))
  have va : ¬ a < 0 ∧ a < 6 := by rw [e]; exact m_in (n := 6) hl (by omega)
  have vb : ¬ b < 0 ∧ b < 6 := by rw [e']; exact m_in (n := 6) hl' (by omega)
  have k1 := W.l2 hl
  have k2 := W.l2 hl'
  refine br_c (fun q => hA ⟨va, vb⟩ (Or.inl q)) (fun q1 => br_c (fun q2 => ?_) (fun q2 => hA ⟨va, vb⟩ (Or.inr q2)))
  refine s_gI H k1 rfl rfl rfl (br_c (fun q3 => hS l l' hl hl' e e' q1 q2 (Or.inl q3)) (fun q3 => s_gI H k2 rfl rfl rfl (br_c (fun q4 => ?_) (fun q4 => hS l l' hl hl' e e' q1 q2 (Or.inr q4)))))
  refine s_gI H k1 rfl rfl rfl (s_pI H k1 rfl rfl rfl (fun M1 H1 => s_gI H1 k2 rfl rfl rfl (s_pI H1 k2 rfl rfl rfl (fun M2 H2 => s_gI H2 k2 rfl rfl rfl ?_))))
  have ne : l' ≠ l := fun z => q1 (by rw [e, e', z])
  have eS : sI (uI S 2 l 3 (sI S 2 l 3 - m)) 2 l' 3 = sI S 2 l' 3 := sI_uI (by omega)
  rw [sI_uI_s, eS]
  refine h l l' _ M2 hl hl' e e' q1 q2 q3 q4 H2 ((W.uI (Or.inl (by omega))).uI (Or.inl (by omega))) ((Q.uI (by omega)).uI (by omega)) ((mFc.uI (by omega)).tr (mFc.uI (by omega))) (fun k i f hq => ?_)
  by_cases z : k = 2 ∧ i = l' ∧ f = 3
  · rw [if_pos z, z.1, z.2.1, z.2.2, sI_uI_s, eS]
  · rw [if_neg z, sI_uI z]
    by_cases z2 : k = 2 ∧ i = l ∧ f = 3
    · rw [if_pos z2, z2.1, z2.2.1, z2.2.2]
      exact sI_uI_s
    · rw [if_neg z2, sI_uI z2]
theorem c_odds (H : mR g Y S M) (W : mWs Y S) (Q : mWq Y S) {a b : Int32} {κ : Int32 → mM → Prop} {ξ : String → mM → Prop} (hI : ¬ (¬ a < 0 ∧ a < nI (yn Y 3)) → ξ "java/lang/IndexOutOfBoundsException" M) (hA : (¬ a < 0 ∧ a < nI (yn Y 3)) → ¬ (¬ b < 0 ∧ b ≤ 10) → ξ "java/lang/IllegalArgumentException" M)
    (h : ∀ t S' M', t < yn Y 3 → a = nI t → (¬ b < 0 ∧ b ≤ 10) → mR g Y S' M' → mWs Y S' → mWq Y S' → mFc Y S Y S' → (∀ k i f, qC k f = true → sI S' k i f = if k = 3 ∧ i = t ∧ f = 8 then b else sI S k i f) → κ (sI S 3 t 8) M') : wX8_odds κ ξ (some (yA Y 0 0)) a b M := by
  have hbd := W.2.1
  refine s_rc H W.x0 rfl rfl (c_gateN H W (fun t ht e => ?_) (fun z => hI z))
  have va : ¬ a < 0 ∧ a < nI (yn Y 3) := by rw [e]; exact m_in ht (by omega)
  refine c_range H (fun r1 r2 => s_gI H ht rfl rfl rfl (s_pI H ht rfl rfl rfl (fun M1 H1 => ?_))) (fun z => hA va z)
  refine h t _ M1 ht e ⟨r1, r2⟩ H1 (W.uI (Or.inl (by omega))) (Q.uI (by omega)) (mFc.uI (by omega)) (fun k i f hq => ?_)
  by_cases z : k = 3 ∧ i = t ∧ f = 8
  · rw [if_pos z, z.1, z.2.1, z.2.2]
    exact sI_uI_s
  · rw [if_neg z, sI_uI z]
theorem c_relieve (H : mR g Y S M) (W : mWs Y S) (Q : mWq Y S) {a : Int32} {κ : Int32 → mM → Prop} {ξ : String → mM → Prop} (hx : ξ "java/lang/IndexOutOfBoundsException" M) (h : ∀ x S' M', cP g Y S Y S' M' → κ x M') : wX8_relieve κ ξ (some (yA Y 0 0)) a M :=
  s_rc H W.x0 rfl rfl (c_gateN H W (fun t ht _ => s_gI H ht rfl rfl rfl (s_pI H ht rfl rfl rfl (fun M1 H1 => h _ _ M1 ⟨H1, W.uI (Or.inl (by omega)), Q.uI (by omega), mFc.uI (by omega), cQ.uI (by decide)⟩))) (fun _ => hx))
theorem c_put (H : mR g Y S M) {k t : Nat} (hk : k = 10 ∨ k = 11) (ht : t < yn Y k) {v : Int32} {κ : mM → Prop} (h : ∀ f x M', mR g Y (uJ S k t f x) M' → κ M') : wX7_put κ (some (yA Y k t)) v M := by
  rcases hk with rfl | rfl
  · exact br_c (fun _ => s_gJ H ht rfl rfl rfl (s_pJ H ht rfl rfl rfl (fun M' H' => h _ _ M' H'))) (fun _ => s_gJ H ht rfl rfl rfl (s_pJ H ht rfl rfl rfl (fun M' H' => h _ _ M' H')))
  · exact br_c (fun _ => s_gJ H ht rfl rfl rfl (s_pJ H ht rfl rfl rfl (fun M' H' => h _ _ M' H'))) (fun _ => s_gJ H ht rfl rfl rfl (s_pJ H ht rfl rfl rfl (fun M' H' => h _ _ M' H')))
theorem c_revoke (H : mR g Y S M) (W : mWs Y S) (Q : mWq Y S) {a b : Int32} {κ : Int32 → mM → Prop} {ξ : String → mM → Prop} (hx : ∀ E, E = "java/lang/IndexOutOfBoundsException" ∨ E = "java/lang/IllegalArgumentException" → ξ E M) (h : ∀ x S' M', cP g Y S Y S' M' → κ x M') : wX8_revoke κ ξ (some (yA Y 0 0)) a b M := by
  refine s_rc H W.x0 rfl rfl (c_gateN H W (fun t ht _ => c_range H (fun _ _ => ?_) (fun _ => hx _ (Or.inr rfl))) (fun _ => hx _ (Or.inl rfl)))
  have h29 : ∀ x, x = 0 ∨ x = 1 → wX8_revoke_29 κ ξ b (some (yA Y 3 t)) x M := fun x hx => s_gR7 H ht rfl rfl rfl (s_rc H (W.l10 ht) rfl rfl (c_put H (Or.inl rfl) (W.l10 ht) (fun f v M' H' => ⟨hx, h _ _ M' ⟨H', W.uJ, Q.uJ, mFc.uJ (by omega), cQ.uJ⟩⟩)))
  exact s_gR7 H ht rfl rfl rfl (s_rc H (W.l10 ht) rfl rfl (c_has H (Or.inl rfl) (W.l10 ht) (br_f (by decide) (h29 0 (Or.inl rfl))) (br_t rfl (h29 1 (Or.inr rfl)))))
theorem c_give (H : mR g Y S M) (W : mWs Y S) (Q : mWq Y S) {a b : Int32} {κ : Int32 → mM → Prop} {ξ : String → mM → Prop} (hx : ∀ E, E = "java/lang/IndexOutOfBoundsException" ∨ E = "java/lang/IllegalStateException" → ξ E M) (h : ∀ x S' M', cP g Y S Y S' M' → κ x M') : wX8_give κ ξ (some (yA Y 0 0)) a b M := by
  refine s_rc H W.x0 rfl rfl (c_partN H W (fun p hp _ => s_rc H W.x0 rfl rfl (c_sleeperN H W (fun s hs _ => ?_) (fun _ => hx _ (Or.inl rfl)))) (fun _ => hx _ (Or.inl rfl)))
  refine s_gR3 H hp rfl rfl rfl (br_c (fun _ => hx _ (Or.inr rfl)) (fun z => br_c (fun _ => hx _ (Or.inr rfl)) (fun _ => ?_)))
  cases hq : sX S 5 p 5 with
  | none => exact absurd (by rw [hq]; rfl) z
  | some s1 =>
    have hs1 := H.lX (k := 5) (f := 5) (kt := 4) hp rfl s1 hq
    refine s_gR2 H hs1 rfl rfl rfl (s_gR2 H hs rfl rfl rfl (br_c (fun _ => ?_) (fun _ => hx _ (Or.inr rfl))))
    refine s_gI H hs1 rfl rfl rfl (br_c (fun _ => s_gI H hs rfl rfl rfl (br_c (fun _ => ?_) (fun _ => hx _ (Or.inr rfl)))) (fun _ => hx _ (Or.inr rfl)))
    exact s_pX1 H hp rfl rfl rfl hs (fun M1 H1 => s_gI H1 hs1 rfl rfl rfl (h _ _ M1 ⟨H1, W.uX, Q.uX (by omega), mFc.uX (by omega), cQ.uX⟩))
theorem c_appeal (H : mR g Y S M) (W : mWs Y S) (Q : mWq Y S) {a : Int32} {κ : Int32 → mM → Prop} {ξ : String → mM → Prop} (hx : ∀ E, E = "java/lang/IndexOutOfBoundsException" ∨ E = "java/lang/IllegalStateException" → ξ E M) (h : ∀ x S' M', (x = 0 ∨ x = 1) → cP g Y S Y S' M' → κ x M') : wX8_appeal κ ξ (some (yA Y 0 0)) a M := by
  have h0 : κ 0 M := h 0 S M (Or.inl rfl) (cP.rf H W Q)
  refine s_rc H W.x0 rfl rfl (c_partN H W (fun p hp _ => ?_) (fun _ => hx _ (Or.inl rfl)))
  refine s_gR3 H hp rfl rfl rfl (s_gR3 H hp rfl rfl rfl (s_gI H hp rfl rfl rfl (br_c (fun _ => br_c (fun _ => hx _ (Or.inr rfl)) (fun z1 => br_c (fun _ => hx _ (Or.inr rfl)) (fun z2 => ?_))) (fun _ => hx _ (Or.inr rfl)))))
  cases h6 : sX S 5 p 6 with
  | none => exact absurd (by rw [h6]; rfl) z1
  | some l =>
    cases h7 : sX S 5 p 7 with
    | none => exact absurd (by rw [h7]; rfl) z2
    | some s =>
      have hl := H.lX (k := 5) (f := 6) (kt := 2) hp rfl l h6
      have hs := H.lX (k := 5) (f := 7) (kt := 4) hp rfl s h7
      refine s_gI H hp rfl rfl rfl (s_gI H hl rfl rfl rfl (br_c (fun _ => h0) (fun _ => s_gR2 H hs rfl rfl rfl (br_c (fun _ => s_gI H hs rfl rfl rfl (br_c (fun _ => ?_) (fun _ => h0))) (fun _ => h0)))))
      refine s_pX0 H hp rfl rfl rfl (fun M1 H1 => s_pX1 H1 hp rfl rfl rfl hs (fun M2 H2 => s_pI H2 hp rfl rfl rfl (fun M3 H3 => s_gI H3 hl rfl rfl rfl (s_gI H3 hp rfl rfl rfl (s_pI H3 hl rfl rfl rfl (fun M4 H4 => ?_))))))
      exact h 1 _ M4 (Or.inr rfl) ⟨H4, ((W.uX.uX).uI (Or.inl (by omega))).uI (Or.inl (by omega)), (((Q.uX (by omega)).uX (by omega)).uI (by omega)).uI (by omega), (((mFc.uX (by omega)).tr (mFc.uX (by omega))).tr (mFc.uI (by omega))).tr (mFc.uI (by omega)), ((cQ.uX.tr cQ.uX).tr (cQ.uI (by decide))).tr (cQ.uI (by decide))⟩
end CWR
