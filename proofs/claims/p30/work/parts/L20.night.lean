/-! THE PROPERTY'S LAW, 3: a number below another, a cell of the script, the night that is told by cells -/
theorem L_below {n : Nat} (hn : 0 < n) (h31 : n < 2 ^ 31) {x : Int32} {κ : Int32 → mM → Prop} {M : mM} (h : ∀ r, r < n → κ (nI r) M) : wL_below κ x (nI n) M := by
  have e : x &&& 2147483647 = nI (x.toBitVec.toNat % 2 ^ 31) := pk_and x 31 (by decide +kernel)
  have hb : x.toBitVec.toNat % 2 ^ 31 < 2 ^ 31 := Nat.mod_lt _ (by decide)
  refine ⟨fun w => ?_, ?_⟩
  · have := (nI_eq (a := n) (b := 0) h31 (by omega)).mp w
    omega
  · rw [e]
    have hr : m_rem (nI (x.toBitVec.toNat % 2 ^ 31)) (nI n) = nI (x.toBitVec.toNat % 2 ^ 31 % n) := pk_rem hb hn h31
    rw [hr]
    exact h _ (Nat.mod_lt _ hn)
/-- the same, the bound as it is printed -/
theorem L_belowI {n : Nat} {y : Int32} (hy : y = nI n) (hn : 0 < n) (h31 : n < 2 ^ 31) {x : Int32} {κ : Int32 → mM → Prop} {M : mM} (h : ∀ r, r < n → κ (nI r) M) : wL_below κ x y M := by
  rw [hy]
  exact L_below hn h31 h
section LNIGHT
variable {g : Nat → Nat} {a0 : Nat}
theorem L_cell {Y : mY} {S : mS} {M : mM} (H : mR g Y S M) (hs : sC S 33 0 ≤ 260) {j : Nat} {y : Int32} (hy : y = nI j) (hj : j < 2 ^ 31) {κ : Int32 → mM → Prop} (h : ∀ v, κ v M) : wL_cell κ (some (g 1)) y M := by
  have hM : M (g 1) = some (.inl (8, sC S 33 0, .inl (sE S 33 0))) := by
    have h7 := H.2.2.2.2.2.2
    rw [← h7.2.2.2.1]
    exact H.1 33 0 (by rw [h7.2.2.1]; exact Nat.one_pos)
  rw [hy]
  refine ⟨_, _, _, rfl, hM, by omega, fun _ => h _, fun z => ⟨_, _, _, rfl, hM, ?_, h _⟩⟩
  have hlt : j < sC S 33 0 := Nat.not_le.mp (fun q => z (nI_le q hj))
  intro q
  rcases q with q | q
  · exact nI_pos hj q
  · rw [nI_clamp hj] at q
    omega
theorem P_cell {k : Nat} {N : mN} {Y : mY} {S : mS} {M : mM} (P : nLP g a0 k N Y S M) {y : Int32} (j : Nat) (hy : y = nI j) (hj : j < 2 ^ 31) {κ : Int32 → mM → Prop} (h : ∀ v, κ v M) : wL_cell κ (some (g 1)) y M := L_cell P.1.1 P.2.1.2 hy hj h
/-- all are at rest -/
def nRs (N : mN) : Prop := ∀ s, s < nn N 28 → nv N 28 s 3 = 0
/-- the parts -/
theorem L_n358 {sl : Nat} (h2 : 2 ≤ sl) (h12 : sl ≤ 12) {κ : Option Nat → mM → Prop} (h : ∀ N Y S M, nLP g a0 0 N Y S M → 0 < nn N 23 → nn N 28 = sl → nn N 29 = 10 → κ (some a0) M) : ∀ (d j k9 n9 : Nat) (N : mN) (Y : mY) (S : mS) (M : mM), nLP g a0 0 N Y S M → nRs N → 0 < nn N 23 → nn N 28 = sl → nn N 29 = j → j + d = 10 → k9 + 2 * d ≤ 400 → n9 + 41 * d ≤ 9000 → wL_night_358 g κ (d + 1) k9 n9 (some (g 1)) (some a0) (nI sl) (nI j) M := by
  intro d
  induction d with
  | zero =>
    intro j k9 n9 N Y S M P A hg hs hp hj hk hn
    rw [wL_night_358]
    refine ⟨⟨by omega, by omega⟩, br_t (show nI 10 ≤ nI j from nI_le (by omega) (by omega)) ⟨⟨by omega, by omega⟩, h N Y S M P hg hs (by omega)⟩⟩
  | succ d ih =>
    intro j k9 n9 N Y S M P A hg hs hp hj hk hn
    rw [wL_night_358]
    refine ⟨⟨by omega, by omega⟩, br_f (show ¬ nI 10 ≤ nI j from nI_ge (by omega) (by omega)) ?_⟩
    refine P_cell P 13 rfl (by omega) (fun v => ?_)
    refine L_below (by omega) (by omega) (fun r1 h1 => L_belowI (n := 4) rfl (by omega) (by omega) (fun r2 h2' => L_belowI (n := 60) rfl (by omega) (by omega) (fun r3 h3 => L_belowI (n := 10) rfl (by omega) (by omega) (fun r4 h4 => ⟨⟨by omega, by omega⟩, ?_⟩))))
    have hx : ¬ ¬ (¬ nI r1 < 0 ∧ nI r1 < nI (nn N 28)) := fun w => w (m_in (by omega) (by omega))
    have hy : ¬ ¬ ((¬ nI r2 < 0 ∧ nI r2 ≤ 7) ∧ (¬ nI r3 < 0 ∧ nI r3 ≤ 99) ∧ (¬ nI r4 < 0 ∧ nI r4 ≤ 9)) := fun w => w ⟨⟨nI_pos (by omega), nI_le (a := r2) (b := 7) (by omega) (by omega)⟩, ⟨nI_pos (by omega), nI_le (a := r3) (b := 99) (by omega) (by omega)⟩, nI_pos (by omega), nI_le (a := r4) (b := 9) (by omega) (by omega)⟩
    have hz : ¬ (¬ nn N 29 < 24 ∨ ¬ nv N 28 (tN (nI r1)) 3 = 0) := fun w => w.elim (fun w => w (by omega)) (fun w => w (by rw [tN_nI (by omega)]; exact A r1 (by omega)))
    have e : fPart N (nI r1) (nI r2) (nI r3) (nI r4) = (0, nI (nn N 29), nNew N 29 (pFs (nI r1) (nI r2) (nI r3) (nI r4))) := by
      unfold fPart
      rw [if_neg hx, if_neg hy, if_neg hz]
    refine K_part P (fun z => (L_z0 e z (by decide)).elim) (fun z => (L_z0 e z (by decide)).elim) (fun z => (L_z0 e z (by decide)).elim) (fun v N' Y' S' M' e' P' F => ?_)
    rw [e] at e'
    cases e'
    rw [nI_1]
    have n28 : nn (nNew N 29 (pFs (nI r1) (nI r2) (nI r3) (nI r4))) 28 = nn N 28 := nn_N (by omega)
    have n23 : nn (nNew N 29 (pFs (nI r1) (nI r2) (nI r3) (nI r4))) 23 = nn N 23 := nn_N (by omega)
    have n29 : nn (nNew N 29 (pFs (nI r1) (nI r2) (nI r3) (nI r4))) 29 = nn N 29 + 1 := nn_N_s
    exact ih (j + 1) _ _ _ Y' S' M' P' (fun s hs' => by rw [nv_N (by omega)]; exact A s (by rw [← n28]; exact hs')) (by omega) (by omega) (by omega) (by omega) (by omega) (by omega)
/-- the sleepers -/
theorem L_n284 {sl : Nat} (h2 : 2 ≤ sl) (h12 : sl ≤ 12) {κ : Option Nat → mM → Prop} (h : ∀ N Y S M, nLP g a0 0 N Y S M → 0 < nn N 23 → nn N 28 = sl → nn N 29 = 10 → κ (some a0) M) : ∀ (d j k9 n9 : Nat) (N : mN) (Y : mY) (S : mS) (M : mM), nLP g a0 0 N Y S M → nRs N → 0 < nn N 23 → nn N 28 = j → nn N 29 = 0 → j + d = sl → k9 + 2 * d ≤ 300 → n9 + 24 * d ≤ 8000 → wL_night_284 g κ (d + 1) k9 n9 (some (g 1)) (some a0) (nI sl) (nI j) M := by
  intro d
  induction d with
  | zero =>
    intro j k9 n9 N Y S M P A hg hs hp hj hk hn
    rw [wL_night_284]
    refine ⟨⟨by omega, by omega⟩, br_t (nI_le (by omega) (by omega)) ⟨11, ?_⟩⟩
    exact L_n358 h2 h12 h 10 0 k9 n9 N Y S M P A hg (by omega) hp (by omega) (by omega) (by omega)
  | succ d ih =>
    intro j k9 n9 N Y S M P A hg hs hp hj hk hn
    rw [wL_night_284]
    refine ⟨⟨by omega, by omega⟩, br_f (nI_ge (by omega) (by omega)) ?_⟩
    have key : ∀ (b : Int32) (r : Nat), (b = 0 ∨ b = 1) → r < 4 → wL_night_327 g κ (wL_night_284 g κ (d + 1)) k9 n9 (some (g 1)) (some a0) (nI sl) (nI j) b (nI r) (some a0) M := fun b r hb hr => by
      refine ⟨⟨by omega, by omega⟩, P_cell P 12 rfl (by omega) (fun v => L_belowI (n := 9) rfl (by omega) (by omega) (fun r3 h3 => ⟨⟨by omega, by omega⟩, ?_⟩))⟩
      have e1 : (1 : Int32) + nI r3 = nI (1 + r3) := nI_add 1 r3
      rw [e1]
      have hx : ¬ ¬ (¬ nI r < 0 ∧ nI r < 6) := fun w => w (m_in (n := 6) (by omega) (by omega))
      have hy : ¬ ¬ (¬ nI (1 + r3) < 1 ∧ nI (1 + r3) ≤ 9) := fun w => w ⟨nI_nlt (a := 1 + r3) (b := 1) (by omega) (by omega), nI_le (a := 1 + r3) (b := 9) (by omega) (by omega)⟩
      have hz : ¬ ¬ nn N 28 < 12 := fun w => w (by omega)
      have e : fSleeper N (nI r) b (nI (1 + r3)) = (0, nI (nn N 28), nNew N 28 (sFs (nI r) b (nI (1 + r3)))) := by
        unfold fSleeper
        rw [if_neg hx, if_neg hy, if_neg hz]
      refine K_sleeper P hb (fun z => (L_z0 e z (by decide)).elim) (fun z => (L_z0 e z (by decide)).elim) (fun z => (L_z0 e z (by decide)).elim) (fun v N' Y' S' M' e' P' F => ?_)
      rw [e] at e'
      cases e'
      rw [nI_1]
      have n28 : nn (nNew N 28 (sFs (nI r) b (nI (1 + r3)))) 28 = nn N 28 + 1 := nn_N_s
      have n23 : nn (nNew N 28 (sFs (nI r) b (nI (1 + r3)))) 23 = nn N 23 := nn_N (by omega)
      have n29 : nn (nNew N 28 (sFs (nI r) b (nI (1 + r3)))) 29 = nn N 29 := nn_N (by omega)
      refine ih (j + 1) _ _ _ Y' S' M' P' (fun s hs' => ?_) (by omega) (by omega) (by omega) (by omega) (by omega) (by omega)
      by_cases w : s = nn N 28
      · rw [w, nv_N_s]; rfl
      · rw [nv_N (by omega)]; exact A s (by omega)
    refine P_cell P 10 rfl (by omega) (fun v => L_belowI (n := 4) rfl (by omega) (by omega) (fun r1 h1 => P_cell P 11 rfl (by omega) (fun v2 => L_belowI (n := 3) rfl (by omega) (by omega) (fun r2 _ => br_c (fun _ => key 1 r1 (Or.inr rfl) h1) (fun _ => key 0 r1 (Or.inl rfl) h1)))))
/-- the gates -/
theorem L_n161 {gt : Nat} (h1 : 1 ≤ gt) (h8 : gt ≤ 4) {κ : Option Nat → mM → Prop} (h : ∀ N Y S M, nLP g a0 0 N Y S M → 0 < nn N 23 → 2 ≤ nn N 28 → nn N 29 = 10 → κ (some a0) M) : ∀ (d j k9 n9 : Nat) (N : mN) (Y : mY) (S : mS) (M : mM), nLP g a0 0 N Y S M → nn N 23 = j → nn N 28 = 0 → nn N 29 = 0 → j + d = gt → k9 + 5 * d ≤ 200 → n9 + 27 * d ≤ 7000 → wL_night_161 g κ (d + 1) k9 n9 (some (g 1)) (some a0) (nI gt) (nI j) M := by
  intro d
  induction d with
  | zero =>
    intro j k9 n9 N Y S M P hg hs hp hj hk hn
    rw [wL_night_161]
    refine ⟨⟨by omega, by omega⟩, br_t (nI_le (by omega) (by omega)) ?_⟩
    refine P_cell P 9 rfl (by omega) (fun v => L_belowI (n := 6) rfl (by omega) (by omega) (fun r hr => ⟨2 + r + 1, ?_⟩))
    have e1 : (2 : Int32) + nI r = nI (2 + r) := nI_add 2 r
    rw [e1]
    exact L_n284 (sl := 2 + r) (by omega) (by omega) (fun N Y S M P q1 q2 q3 => h N Y S M P q1 (by omega) q3) (2 + r) 0 k9 n9 N Y S M P (fun s hs' => absurd hs' (by omega)) (by omega) hs hp (by omega) (by omega) (by omega)
  | succ d ih =>
    intro j k9 n9 N Y S M P hg hs hp hj hk hn
    rw [wL_night_161]
    refine ⟨⟨by omega, by omega⟩, br_f (nI_ge (by omega) (by omega)) ?_⟩
    refine P_cell P 4 rfl (by omega) (fun v1 => L_belowI (n := 4) rfl (by omega) (by omega) (fun r1 q1 => P_cell P 5 rfl (by omega) (fun v2 => L_belowI (n := 3) rfl (by omega) (by omega) (fun r2 q2 => P_cell P 6 rfl (by omega) (fun v3 => L_belowI (n := 24) rfl (by omega) (by omega) (fun r3 q3 => P_cell P 7 rfl (by omega) (fun v4 => L_belowI (n := 24) rfl (by omega) (by omega) (fun r4 q4 => ⟨⟨by omega, by omega⟩, ?_⟩))))))))
    have e1 : m_rem ((nI r1 + 1) + nI r2) 4 = nI ((r1 + 1 + r2) % 4) := by
      rw [nI_1, nI_add]
      exact pk_rem (a := r1 + 1 + r2) (d := 4) (by omega) (by omega) (by omega)
    have e2 : (1 : Int32) + nI r4 = nI (1 + r4) := nI_add 1 r4
    rw [e1, e2]
    have hx : ¬ ¬ ((¬ nI r1 < 0 ∧ nI r1 < 6) ∧ (¬ nI ((r1 + 1 + r2) % 4) < 0 ∧ nI ((r1 + 1 + r2) % 4) < 6)) := fun w => w ⟨m_in (n := 6) (by omega) (by omega), m_in (n := 6) (by omega) (by omega)⟩
    have hy : ¬ (nI r1 = nI ((r1 + 1 + r2) % 4) ∨ ¬ ((¬ nI r3 < 0 ∧ nI r3 ≤ 23) ∧ (¬ nI (1 + r4) < 1 ∧ nI (1 + r4) ≤ 24))) := fun w => w.elim (fun w => by
      have := (nI_eq (by omega) (by omega)).mp w
      omega) (fun w => w ⟨⟨nI_pos (by omega), nI_le (a := r3) (b := 23) (by omega) (by omega)⟩, nI_nlt (a := 1 + r4) (b := 1) (by omega) (by omega), nI_le (a := 1 + r4) (b := 24) (by omega) (by omega)⟩)
    have hz : ¬ ¬ nn N 23 < 8 := fun w => w (by omega)
    have e : fGate N (nI r1) (nI ((r1 + 1 + r2) % 4)) (nI r3) (nI (1 + r4)) = (0, nI (nn N 23), nGate N (nI r1) (nI ((r1 + 1 + r2) % 4)) (nI r3) (nI (1 + r4))) := by
      unfold fGate
      rw [if_neg hx, if_neg hy, if_neg hz]
    refine K_gate P (fun z => (L_z0 e z (by decide)).elim) (fun z => (L_z0 e z (by decide)).elim) (fun z => (L_z0 e z (by decide)).elim) (fun v N' Y' S' M' e' P' F => ?_)
    rw [e] at e'
    have eN : N' = nGate N (nI r1) (nI ((r1 + 1 + r2) % 4)) (nI r3) (nI (1 + r4)) := (congrArg (fun x => x.2.2) e').symm
    have n23 : nn N' 23 = nn N 23 + 1 := by rw [eN]; exact nn_N_s (N := N) (k := 23) (fs := gFs (nI r1) (nI ((r1 + 1 + r2) % 4)) (nI r3) (nI (1 + r4)))
    have n28 : nn N' 28 = nn N 28 := by rw [eN]; exact (show nn (nNew N 23 (gFs (nI r1) (nI ((r1 + 1 + r2) % 4)) (nI r3) (nI (1 + r4)))) 28 = nn N 28 from nn_N (by omega))
    have n29 : nn N' 29 = nn N 29 := by rw [eN]; exact (show nn (nNew N 23 (gFs (nI r1) (nI ((r1 + 1 + r2) % 4)) (nI r3) (nI (1 + r4)))) 29 = nn N 29 from nn_N (by omega))
    refine P_cell P' 8 rfl (by omega) (fun v5 => L_belowI (n := 11) rfl (by omega) (by omega) (fun r5 q5 => ?_))
    have fx : ¬ ¬ (¬ nI j < 0 ∧ nI j < nI (nn N' 23)) := fun w => w (m_in (by omega) (by omega))
    have fy : ¬ ¬ (¬ nI r5 < 0 ∧ nI r5 ≤ 10) := fun w => w ⟨nI_pos (by omega), nI_le (a := r5) (b := 10) (by omega) (by omega)⟩
    have ee : fOdds N' (nI j) (nI r5) = (0, nv N' 23 (tN (nI j)) 4, nU N' 23 (tN (nI j)) 4 (nI r5)) := by
      unfold fOdds
      rw [if_neg fx, if_neg fy]
    refine K_odds P' (fun z => (L_z0 ee z (by decide)).elim) (fun z => (L_z0 ee z (by decide)).elim) (fun v N2 Y2 S2 M2 e2' P2 F2 St => ?_)
    rw [nI_1]
    have nS := St.1
    exact ih (j + 1) _ _ N2 Y2 S2 M2 P2 (by rw [nS]; omega) (by rw [nS]; omega) (by rw [nS]; omega) (by omega) (by omega) (by omega)
/-- quotas are traded -/
theorem L_n57 {κ : Option Nat → mM → Prop} (h : ∀ N Y S M, nLP g a0 0 N Y S M → 0 < nn N 23 → 2 ≤ nn N 28 → nn N 29 = 10 → κ (some a0) M) : ∀ (d j k9 n9 : Nat) (N : mN) (Y : mY) (S : mS) (M : mM), nLP g a0 0 N Y S M → nn N 23 = 0 → nn N 28 = 0 → nn N 29 = 0 → j + d = 2 → k9 ≤ 100 → n9 ≤ 6000 → wL_night_57 g κ (d + 1) k9 n9 (some (g 1)) (some a0) (nI j) M := by
  intro d
  induction d with
  | zero =>
    intro j k9 n9 N Y S M P hg hs hp hj hk hn
    rw [wL_night_57]
    refine ⟨⟨by omega, by omega⟩, br_t (show nI 2 ≤ nI j from nI_le (by omega) (by omega)) ?_⟩
    refine P_cell P 3 rfl (by omega) (fun v => L_belowI (n := 4) rfl (by omega) (by omega) (fun r hr => ⟨1 + r + 1, ?_⟩))
    have e1 : (1 : Int32) + nI r = nI (1 + r) := nI_add 1 r
    rw [e1]
    exact L_n161 (gt := 1 + r) (by omega) (by omega) h (1 + r) 0 k9 n9 N Y S M P hg hs hp (by omega) (by omega) (by omega)
  | succ d ih =>
    intro j k9 n9 N Y S M P hg hs hp hj hk hn
    rw [wL_night_57]
    refine ⟨⟨by omega, by omega⟩, br_f (show ¬ nI 2 ≤ nI j from nI_ge (by omega) (by omega)) ?_⟩
    have nxt : ∀ (N' : mN) (Y' : mY) (S' : mS) (M' : mM), nLP g a0 0 N' Y' S' M' → nn N' = nn N → wL_night_141 g κ (wL_night_57 g κ (d + 1)) k9 n9 (some (g 1)) (some a0) (nI j) M' := fun N' Y' S' M' P' en => by
      refine ⟨⟨by omega, by omega⟩, ?_⟩
      rw [nI_1]
      exact ih (j + 1) k9 n9 N' Y' S' M' P' (by rw [en]; exact hg) (by rw [en]; exact hs) (by rw [en]; exact hp) (by omega) hk hn
    refine P_cell P 2 rfl (by omega) (fun v1 => L_belowI (n := 4) rfl (by omega) (by omega) (fun r1 q1 => P_cell P 2 rfl (by omega) (fun v2 => L_belowI (n := 4) rfl (by omega) (by omega) (fun r2 q2 => P_cell P 2 rfl (by omega) (fun v3 => L_belowI (n := 5) rfl (by omega) (by omega) (fun r3 q3 => br_c (fun _ => nxt N Y S M P rfl) (fun hne => ?_)))))))
    have e1 : (1 : Int32) + nI r3 = nI (1 + r3) := nI_add 1 r3
    rw [e1]
    refine K_ofLand P (l := r1) (b := 2) (by omega) (by omega) (fun Y1 S1 M1 P1 F1 => ?_)
    rw [zL_2]
    obtain ⟨q, hq, hsum⟩ := P1.2.2.2.1.2.1
    rw [hq r1 (by omega)]
    refine br_c (fun _ => nxt N Y1 S1 M1 P1 rfl) (fun hge => ?_)
    have hq1 : 1 + r3 ≤ q r1 := Nat.not_lt.mp (fun w => hge (nI_lt w (by
      have : q r1 ≤ 30 := by rcases (show r1 = 0 ∨ r1 = 1 ∨ r1 = 2 ∨ r1 = 3 by omega) with rfl | rfl | rfl | rfl <;> omega
      omega)))
    have hne' : r1 ≠ r2 := fun w => hne (by rw [w])
    have hsum2 : q r1 + q r2 ≤ 30 := by
      rcases (show r1 = 0 ∨ r1 = 1 ∨ r1 = 2 ∨ r1 = 3 by omega) with rfl | rfl | rfl | rfl <;> rcases (show r2 = 0 ∨ r2 = 1 ∨ r2 = 2 ∨ r2 = 3 by omega) with rfl | rfl | rfl | rfl <;> first | exact absurd rfl hne' | omega
    have hx : ¬ ¬ ((¬ nI r1 < 0 ∧ nI r1 < 6) ∧ (¬ nI r2 < 0 ∧ nI r2 < 6)) := fun w => w ⟨m_in (n := 6) (by omega) (by omega), m_in (n := 6) (by omega) (by omega)⟩
    have hy : ¬ (nI r1 = nI r2 ∨ ¬ 0 ≤ nI (1 + r3)) := fun w => w.elim hne (fun w => w (nI_pos' (by omega)))
    have hz : ¬ (nv N 22 (tN (nI r1)) 2 < nI (1 + r3) ∨ ¬ nv N 22 (tN (nI r2)) 2 + nI (1 + r3) ≤ 30) := by
      rw [tN_nI (by omega), tN_nI (by omega), hq r1 (by omega), hq r2 (by omega), nI_add]
      exact fun w => w.elim (nI_nlt (by omega) (by omega)) (fun w => w (nI_le (a := q r2 + (1 + r3)) (b := 30) (by omega) (by omega)))
    obtain ⟨v9, N9, e⟩ : ∃ v9 N9, fTrade N (nI r1) (nI r2) (nI (1 + r3)) = (0, v9, N9) ∧ nn N9 = nn N := by
      unfold fTrade
      rw [if_neg hx, if_neg hy, if_neg hz]
      exact ⟨_, _, rfl, rfl⟩
    refine K_trade P1 (fun z => (L_z0 e.1 z (by decide)).elim) (fun z => (L_z0 e.1 z (by decide)).elim) (fun z => (L_z0 e.1 z (by decide)).elim) (fun v N' Y' S' M' e' P' F => ?_)
    have eN : N' = N9 := (congrArg (fun x => x.2.2) (e'.symm.trans e.1))
    exact nxt N' Y' S' M' P' (by rw [eN]; exact e.2)
/-- the rules of the lands -/
theorem L_n10 {κ : Option Nat → mM → Prop} (h : ∀ N Y S M, nLP g a0 0 N Y S M → 0 < nn N 23 → 2 ≤ nn N 28 → nn N 29 = 10 → κ (some a0) M) : ∀ (d j k9 n9 : Nat) (N : mN) (Y : mY) (S : mS) (M : mM), nLP g a0 0 N Y S M → nn N 23 = 0 → nn N 28 = 0 → nn N 29 = 0 → j + d = 4 → k9 ≤ 100 → n9 ≤ 6000 → wL_night_10 g κ (d + 1) k9 n9 (some (g 1)) (some a0) (nI j) M := by
  intro d
  induction d with
  | zero =>
    intro j k9 n9 N Y S M P hg hs hp hj hk hn
    rw [wL_night_10]
    exact ⟨⟨by omega, by omega⟩, br_t (show nI 4 ≤ nI j from nI_le (by omega) (by omega)) ⟨3, L_n57 h 2 0 k9 n9 N Y S M P hg hs hp (by omega) hk hn⟩⟩
  | succ d ih =>
    intro j k9 n9 N Y S M P hg hs hp hj hk hn
    rw [wL_night_10]
    refine ⟨⟨by omega, by omega⟩, br_f (show ¬ nI 4 ≤ nI j from nI_ge (by omega) (by omega)) ?_⟩
    refine P_cell P 0 rfl (by omega) (fun v1 => L_belowI (n := 51) rfl (by omega) (by omega) (fun r1 q1 => P_cell P 1 rfl (by omega) (fun v2 => L_belowI (n := 60) rfl (by omega) (by omega) (fun r2 q2 => ?_))))
    have hx : ¬ ¬ (¬ nI j < 0 ∧ nI j < 6) := fun w => w (m_in (n := 6) (by omega) (by omega))
    have hy : ¬ ¬ ((¬ nI r1 < 0 ∧ nI r1 ≤ 50) ∧ (¬ nI r2 < 0 ∧ nI r2 ≤ 99)) := fun w => w ⟨⟨nI_pos (by omega), nI_le (a := r1) (b := 50) (by omega) (by omega)⟩, nI_pos (by omega), nI_le (a := r2) (b := 99) (by omega) (by omega)⟩
    obtain ⟨v9, N9, e⟩ : ∃ v9 N9, fLand N (nI j) (nI r1) (nI r2) = (0, v9, N9) ∧ nn N9 = nn N := by
      unfold fLand
      rw [if_neg hx, if_neg hy]
      exact ⟨_, _, rfl, rfl⟩
    refine K_land P (fun z => (L_z0 e.1 z (by decide)).elim) (fun z => (L_z0 e.1 z (by decide)).elim) (fun v N' Y' S' M' e' P' F => ?_)
    have eN : N' = N9 := (congrArg (fun x => x.2.2) (e'.symm.trans e.1))
    rw [nI_1]
    exact ih (j + 1) k9 n9 N' Y' S' M' P' (by rw [eN, e.2]; exact hg) (by rw [eN, e.2]; exact hs) (by rw [eN, e.2]; exact hp) (by omega) hk hn
/-- the night that is told -/
theorem L_night {Y : mY} {S : mS} {M : mM} (H : mR g Y S M) (hz : ∀ k, k < 33 → yn Y k = 0) (h38 : yn Y 38 = 0) (hs : sC S 33 0 ≤ 260) {κ : Option Nat → mM → Prop} (h : ∀ a0 N Y S M, nLP g a0 0 N Y S M → 0 < nn N 23 → 2 ≤ nn N 28 → nn N 29 = 10 → κ (some a0) M) : wL_night g κ (some (g 1)) M := by
  refine ⟨⟨by omega, by omega⟩, r_new (fun q1 M2 hq h2 o2 => ⟨⟨by omega, by omega⟩, ?_⟩)⟩
  have F1 := H.fr hq
  have H2 := H.off F1 o2
  refine r_rc h2 (c_init H2 F1 h2 (fun k hk => hz k (by omega)) (fun Y1 S1 M3 H3 W Q F R7 C7 ea => ⟨5, ?_⟩))
  have P : nLP g q1 0 N0 Y1 S1 M3 := ⟨⟨H3, W, Q, RC0 W R7 C7⟩, ⟨ea, by rw [((F.2.2 33 (by omega)).2 0).2.2.2.2.2.2.1]; exact hs⟩, nB0, NI0, nZ0, nG0⟩
  exact L_n10 (fun N Y S M P q1 q2 q3 => h _ N Y S M P q1 q2 q3) 4 0 _ _ N0 Y1 S1 M3 P rfl rfl rfl (by omega) (by omega) (by omega)
end LNIGHT
