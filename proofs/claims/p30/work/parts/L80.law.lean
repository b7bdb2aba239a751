/-! THE PROPERTY'S LAW, 8: the law -/
theorem nar_0 : vp_nar .boolean 0 = 0 := by decide +kernel
theorem nar_1 : vp_nar .boolean 1 = 1 := by decide +kernel
/-- where a part is gone -/
theorem nLo_9 {N : mN} (B : nB N) {p : Nat} (hp : p < nn N 29) : nLo N p = -1 ↔ nv N 29 p 4 = 999 := by
  have hb := B.2.1
  obtain ⟨a, ea, ha⟩ := (B.2.2.2.2.1 p hp).2.2.1
  have hm : ∀ n, n < 2 ^ 31 → ¬ nI n = -1 := fun n hn w => by
    have := nI_pos hn
    rw [w] at this
    exact this (by decide)
  unfold nLo
  constructor
  · intro w
    by_cases z : nv N 29 p 4 = 999
    · exact z
    · rw [if_neg z] at w
      rcases ha with h | h | h
      · rw [ea, if_pos (show nI a < 100 from nI_lt (b := 100) (by omega) (by omega)), tN_nI (by omega)] at w
        obtain ⟨la, hla, ela⟩ := (B.2.2.2.1 a h).1
        rw [ela] at w
        exact absurd w (hm la (by omega))
      · rw [ea, if_neg (show ¬ nI a < 100 from nI_nlt (b := 100) (by omega) (by omega)), show (100 : Int32) = nI 100 from rfl, pk_sub (by omega)] at w
        exact absurd w (hm _ (by omega))
      · rw [ea, h]
        rfl
  · intro z
    rw [if_pos z]
section LLAW
variable {g : Nat → Nat} {a0 k : Nat} {N : mN} {i4 p4 i5 p5 i6 p6 i7 p7 sl : Nat} {sb L : Nat} {xs : Nat → Int32} {κ : Int32 → mM → Prop} {l0 : Option Nat} {l8 : Int32} {k9 n9 : Nat}
variable {R90 : Nat → Nat → Option Nat → Option Nat → Int32 → Int32 → Option Nat → Option Nat → Option Nat → Option Nat → Int32 → mM → Prop}
/-- who is awake -/
theorem L_l353 (hk : k ≤ 1000) (hk9 : k9 ≤ 600104 ∧ n9 ≤ 7301313) (h56 : i5 ≠ i6) (h : ∀ Y S M, nLP g a0 k N Y S M → LA i4 p4 i5 p5 i6 p6 i7 p7 sl N Y S → R90 k9 n9 l0 (some a0) 10 (nI sl) (some p4) (some p5) (some p6) (some p7) (l8 + 1) M) : ∀ (d j : Nat) (Y : mY) (S : mS) (M : mM), nLP g a0 k N Y S M → LA i4 p4 i5 p5 i6 p6 i7 p7 sl N Y S → j + d = sl → wL_law_353 sb L xs g κ R90 (d + 1) k9 n9 l0 (some a0) 10 (nI sl) (some p4) (some p5) (some p6) (some p7) l8 (nI j) M := by
  intro d
  induction d with
  | zero =>
    intro j Y S M P A hj
    have hb := P.2.2.1.2.1
    have h28 := A.1.2.1
    rw [wL_law_353]
    refine ⟨hk9, br_t (nI_le (by omega) (by omega)) (L_isSo P hk (fun Y1 S1 M1 P1 F1 => br_f (by decide) ?_))⟩
    exact h Y1 S1 M1 P1 (A.c F1 (nSt.rf N))
  | succ d ih =>
    intro j Y S M P A hj
    have hb := P.2.2.1.2.1
    have h28 := A.1.2.1
    have hs : j < nn N 28 := by omega
    rw [wL_law_353]
    refine ⟨hk9, br_f (nI_ge (by omega) (by omega)) (K_ofSleeper P (l := j) (b := 2) hs (by omega) (fun Y1 S1 M1 P1 F1 => ?_))⟩
    rw [zS_2]
    have A1 := A.c F1 (nSt.rf N)
    obtain ⟨E6, a6, w6⟩ := A1.2.2.2.1
    -- what is written
    have k410 : ∀ (Y : mY) (S : mS) (M : mM), nLP g a0 k N Y S M → LA i4 p4 i5 p5 i6 p6 i7 p7 sl N Y S → wL_law_410 sb L xs g κ R90 (wL_law_353 sb L xs g κ R90 (d + 1)) k9 n9 l0 (some a0) 10 (nI sl) (some p4) (some p5) (some p6) (some p7) l8 (nI j) (nv N 28 j 3) M := fun Y S M P A => by
      obtain ⟨E, a, w⟩ := A.2.2.2.1
      refine ⟨hk9, a.ldZ P.1.1 rfl (by omega) (by omega) ?_⟩
      refine br_c (fun z => ⟨hk9, a.stZ P rfl (by omega) (by omega) (w := 1) ?_ (fun M' P' => ?_)⟩) (fun z => ⟨hk9, a.stZ P rfl (by omega) (by omega) (w := E j) ?_ (fun M' P' => ?_)⟩)
      · rcases w j (by omega) with q | q
        · rw [q]; exact nar_1
        · rw [q.1]; exact nar_1
      · rw [nI_1]
        exact ih (j + 1) Y _ M' P' (A.s6 h56 (Or.inr ⟨rfl, z⟩)) (by omega)
      · rcases w j (by omega) with q | q
        · rw [q]; exact nar_0
        · rw [q.1]; exact nar_1
      · rw [nI_1]
        exact ih (j + 1) Y _ M' P' (A.s6 h56 (w j (by omega))) (by omega)
    have k382 : ∀ (Y : mY) (S : mS) (M : mM), nLP g a0 k N Y S M → LA i4 p4 i5 p5 i6 p6 i7 p7 sl N Y S → wL_law_382 sb L xs g κ R90 (wL_law_353 sb L xs g κ R90 (d + 1)) k9 n9 l0 (some a0) 10 (nI sl) (some p4) (some p5) (some p6) (some p7) l8 (nI j) (nv N 28 j 3) M := fun Y S M P A => by
      refine ⟨hk9, br_c (fun z => ?_) (fun _ => k410 Y S M P A)⟩
      obtain ⟨hp, hno⟩ := (P.2.2.2.1.2.2.1 j hs).2.1 z
      refine K_ofSleeper P (l := j) (b := 5) hs (by omega) (fun Y1 S1 M1 P1 F1 => ?_)
      rw [zS_5, nHd_0 hno _ (Nat.le_refl _)]
      refine br_t rfl (K_ofSleeper P1 (l := j) (b := 1) hs (by omega) (fun Y2 S2 M2 P2 F2 => ?_))
      rw [zS_1, hp]
      exact br_t rfl (k410 Y2 S2 M2 P2 (A.c (F1.tr F2) (nSt.rf N)))
    refine a6.ldZ P1.1.1 rfl (by omega) (by omega) ?_
    rcases w6 j (by omega) with q | q
    · exact br_t q (k382 Y1 S1 M1 P1 A1)
    · exact br_f (by rw [q.1]; decide) (br_t q.2 (k382 Y1 S1 M1 P1 A1))
/-- each part -/
theorem L_l227 (hk : k ≤ 1000) (hk9 : k9 ≤ 600104 ∧ n9 ≤ 7301313) (h56 : i5 ≠ i6) (h : ∀ Y S M, nLP g a0 k N Y S M → LA i4 p4 i5 p5 i6 p6 i7 p7 sl N Y S → R90 k9 n9 l0 (some a0) 10 (nI sl) (some p4) (some p5) (some p6) (some p7) (l8 + 1) M) : ∀ (d j : Nat) (Y : mY) (S : mS) (M : mM), nLP g a0 k N Y S M → LA i4 p4 i5 p5 i6 p6 i7 p7 sl N Y S → j + d = 10 → wL_law_227 sb L xs g κ R90 (d + 1) k9 n9 l0 (some a0) 10 (nI sl) (some p4) (some p5) (some p6) (some p7) l8 (nI j) M := by
  intro d
  induction d with
  | zero =>
    intro j Y S M P A hj
    rw [wL_law_227]
    refine ⟨hk9, br_t (show nI 10 ≤ nI j from nI_le (by omega) (by omega)) ⟨sl + 1, ?_⟩⟩
    exact L_l353 hk hk9 h56 h sl 0 Y S M P A (by omega)
  | succ d ih =>
    intro j Y S M P A hj
    have hb := P.2.2.1.2.1
    have B := P.2.2.1
    have h29 := A.1.1
    have hp : j < nn N 29 := by omega
    rw [wL_law_227]
    refine ⟨hk9, br_f (show ¬ nI 10 ≤ nI j from nI_ge (by omega) (by omega)) ?_⟩
    refine K_ofPart P (l := j) (b := 4) hp (by omega) (fun Y1 S1 M1 P1 F1 => ?_)
    refine K_ofPart P1 (l := j) (b := 5) hp (by omega) (fun Y2 S2 M2 P2 F2 => ?_)
    have A2 := A.c (F1.tr F2) (nSt.rf N)
    obtain ⟨E4, a4, w4⟩ := A2.2.1
    refine a4.ldI P2.1.1 rfl (by omega) (by omega) ?_
    refine K_ofPart P2 (l := j) (b := 0) hp (by omega) (fun Y3 S3 M3 P3 F3 => ?_)
    refine K_ofPart P3 (l := j) (b := 1) hp (by omega) (fun Y4 S4 M4 P4 F4 => ?_)
    refine K_ofPart P4 (l := j) (b := 2) hp (by omega) (fun Y5 S5 M5 P5 F5 => ?_)
    rw [zP_0, zP_1, zP_2, zP_4, zP_5]
    have A5 := A2.c ((F3.tr F4).tr F5) (nSt.rf N)
    refine br_t (w4 j (by omega)) ?_
    -- what is written
    have k325 : ∀ (Y : mY) (S : mS) (M : mM), nLP g a0 k N Y S M → LA i4 p4 i5 p5 i6 p6 i7 p7 sl N Y S → wL_law_325 sb L xs g κ R90 (wL_law_227 sb L xs g κ R90 (d + 1)) k9 n9 l0 (some a0) 10 (nI sl) (some p4) (some p5) (some p6) (some p7) l8 (nI j) (nLo N j) M := fun Y S M P A => by
      obtain ⟨E, a, w⟩ := A.2.2.1
      refine ⟨hk9, a.ldZ P.1.1 rfl (by omega) (by omega) ?_⟩
      refine br_c (fun z => ⟨hk9, a.stZ P rfl (by omega) (by omega) (w := 1) ?_ (fun M' P' => ?_)⟩) (fun z => ⟨hk9, a.stZ P rfl (by omega) (by omega) (w := E j) ?_ (fun M' P' => ?_)⟩)
      · rcases w j (by omega) with q | q
        · rw [q]; exact nar_1
        · rw [q.1]; exact nar_1
      · rw [nI_1]
        exact ih (j + 1) Y _ M' P' (A.s5 h56 (Or.inr ⟨rfl, (nLo_9 B hp).mp z⟩)) (by omega)
      · rcases w j (by omega) with q | q
        · rw [q]; exact nar_0
        · rw [q.1]; exact nar_1
      · rw [nI_1]
        exact ih (j + 1) Y _ M' P' (A.s5 h56 (w j (by omega))) (by omega)
    have k303 : wL_law_303 sb L xs g κ R90 (wL_law_227 sb L xs g κ R90 (d + 1)) k9 n9 l0 (some a0) 10 (nI sl) (some p4) (some p5) (some p6) (some p7) l8 (nI j) (nLo N j) (if 100 ≤ nv N 29 j 4 then -1 else nv N 29 j 4) M5 := by
      obtain ⟨a, ea, ha⟩ := (B.2.2.2.2.1 j hp).2.2.1
      by_cases z : 100 ≤ nv N 29 j 4
      · rw [if_pos z]
        exact ⟨hk9, br_t (by decide) (k325 Y5 S5 M5 P5 A5)⟩
      · rw [if_neg z]
        have hal : a < nn N 28 := by
          rcases ha with q | q | q
          · exact q
          · exact absurd (show nI 100 ≤ nv N 29 j 4 by rw [ea]; exact nI_le (by omega) (by omega)) z
          · exact absurd (show nI 100 ≤ nv N 29 j 4 by rw [ea, q]; exact nI_le (by omega) (by omega)) z
        rw [ea]
        refine ⟨hk9, br_f (nI_pos (by omega)) (K_ofSleeper P5 (l := a) (b := 5) hal (by omega) (fun Y6 S6 M6 P6 F6 => ?_))⟩
        rw [zS_5]
        have h1 : zb (nHd N a (nn N 29)) j = true := (nHd_zb (N := N) (s := a) (nn N 29) (by omega) j (by omega)).mpr ⟨hp, ea⟩
        exact br_f (fun w => by rw [(zb_shr _ (by omega)).mp w] at h1; cases h1) (k325 Y6 S6 M6 P6 (A5.c F6 (nSt.rf N)))
    obtain ⟨E5, a5, w5⟩ := A5.2.2.1
    refine a5.ldZ P5.1.1 rfl (by omega) (by omega) ?_
    rcases w5 j (by omega) with q | q
    · exact br_t q k303
    · exact br_f (by rw [q.1]; decide) (br_t ((nLo_9 B hp).mpr q.2) k303)
/-- what never becomes less -/
theorem L_l187 (hk : k ≤ 1000) (hk9 : k9 ≤ 600104 ∧ n9 ≤ 7301313) (h47 : i4 ≠ i7) (h56 : i5 ≠ i6) {i12 p12 : Nat} (h12 : i12 ≠ i7) (h : ∀ Y S M, nLP g a0 k N Y S M → LA i4 p4 i5 p5 i6 p6 i7 p7 sl N Y S → R90 k9 n9 l0 (some a0) 10 (nI sl) (some p4) (some p5) (some p6) (some p7) (l8 + 1) M) {E12 : Nat → Int32} (w12 : ∀ q, q < 4 → E12 q = nI (tw N q)) : ∀ (d j : Nat) (Y : mY) (S : mS) (M : mM), nLP g a0 k N Y S M → LA i4 p4 i5 p5 i6 p6 i7 p7 sl N Y S → AR 38 i12 4 p12 Y S E12 → j + d = 4 → wL_law_187 sb L xs g κ R90 (d + 1) k9 n9 l0 (some a0) 10 (nI sl) (some p4) (some p5) (some p6) (some p7) l8 (some p12) (nI j) M := by
  intro d
  induction d with
  | zero =>
    intro j Y S M P A a12 hj
    rw [wL_law_187]
    refine ⟨hk9, br_t (show nI 4 ≤ nI j from nI_le (by omega) (by omega)) ⟨11, ?_⟩⟩
    exact L_l227 hk hk9 h56 h 10 0 Y S M P A (by omega)
  | succ d ih =>
    intro j Y S M P A a12 hj
    rw [wL_law_187]
    refine ⟨hk9, br_f (show ¬ nI 4 ≤ nI j from nI_ge (by omega) (by omega)) ?_⟩
    refine a12.ldI P.1.1 rfl (by omega) (by omega) ?_
    obtain ⟨E7, a7, w7⟩ := A.2.2.2.2
    refine a7.ldI P.1.1 rfl (by omega) (by omega) ?_
    obtain ⟨c, hc, ec⟩ := w7 j (by omega)
    have hb := tw_b (q := j) P.2.2.1 P.2.2.2.2.2 hk (by omega)
    rw [ec, w12 j (by omega)]
    refine br_t (nI_le hc (by omega)) ?_
    refine a12.ldI P.1.1 rfl (by omega) (by omega) ?_
    rw [w12 j (by omega)]
    refine a7.stI P rfl (by omega) (by omega) (fun M' P' => ?_)
    rw [nI_1]
    exact ih (j + 1) Y _ M' P' (A.s7 h47 rfl) (a12.u (by omega)) (by omega)
/-- one time, behind what was done -/
theorem L_l135 (hk : k ≤ 1000) (hk9 : k9 + 1 ≤ 600104 ∧ n9 + 24 ≤ 7301313) (h47 : i4 ≠ i7) (h56 : i5 ≠ i6) (h : ∀ Y S M, nLP g a0 k N Y S M → LA i4 p4 i5 p5 i6 p6 i7 p7 sl N Y S → R90 (k9 + 1) (n9 + 24) l0 (some a0) 10 (nI sl) (some p4) (some p5) (some p6) (some p7) (l8 + 1) M) {Y : mY} {S : mS} {M : mM} (P : nLP g a0 k N Y S M) (A : LA i4 p4 i5 p5 i6 p6 i7 p7 sl N Y S) : wL_law_135 sb L xs g κ R90 k9 n9 l0 (some a0) 10 (nI sl) (some p4) (some p5) (some p6) (some p7) l8 M := by
  have G := P.2.2.2.2.2
  have B := P.2.2.1
  refine ⟨⟨by omega, by omega⟩, hk9, K_rowI (n := 4) P rfl (by omega) (fun Y1 S1 M1 i p P1 a ei a12 => ?_)⟩
  have A1 := A.x a
  obtain ⟨E4, a4, -⟩ := A.2.1
  obtain ⟨E7, a7, -⟩ := A.2.2.2.2
  have i4' : i ≠ i4 := by have := a4.1; omega
  have i7' : i ≠ i7 := by have := a7.1; omega
  refine K_night P1 (b := 12) (by omega) (fun Y2 S2 M2 P2 F2 => ?_)
  rw [tw_0]
  have b2 := a12.c (by omega) F2
  refine b2.stI P2 (j := 0) rfl (by omega) (by omega) (fun M3 P3 => ?_)
  have A3 := (A1.c F2 (nSt.rf N)).o (j := 0) (v := nI (tw N 0)) i4' i7'
  have b3 := b2.us (j := 0) (v := nI (tw N 0))
  refine K_night P3 (b := 13) (by omega) (fun Y4 S4 M4 P4 F4 => ?_)
  rw [tw_1 G hk]
  have b4 := b3.c (by omega) F4
  refine b4.stI P4 (j := 1) rfl (by omega) (by omega) (fun M5 P5 => ?_)
  have A5 := (A3.c F4 (nSt.rf N)).o (j := 1) (v := nI (tw N 1)) i4' i7'
  have b5 := b4.us (j := 1) (v := nI (tw N 1))
  refine K_night P5 (b := 15) (by omega) (fun Y6 S6 M6 P6 F6 => ?_)
  rw [tw_2 G hk]
  have b6 := b5.c (by omega) F6
  refine b6.stI P6 (j := 2) rfl (by omega) (by omega) (fun M7 P7 => ?_)
  have A7 := (A5.c F6 (nSt.rf N)).o (j := 2) (v := nI (tw N 2)) i4' i7'
  have b7 := b6.us (j := 2) (v := nI (tw N 2))
  refine K_night P7 (b := 0) (by omega) (fun Y8 S8 M8 P8 F8 => ?_)
  refine K_night P8 (b := 1) (by omega) (fun Y9 S9 M9 P9 F9 => ?_)
  rw [tw_3 B]
  have b9 := b7.c (by omega) (F8.tr F9)
  refine b9.stI P9 (j := 3) rfl (by omega) (by omega) (fun M10 P10 => ⟨5, ?_⟩)
  have A10 := (A7.c (F8.tr F9) (nSt.rf N)).o (j := 3) (v := nI (tw N 3)) i4' i7'
  have b10 := b9.us (j := 3) (v := nI (tw N 3))
  refine L_l187 hk hk9 h47 h56 i7' h (fun q hq => ?_) 4 0 Y9 _ M10 P10 A10 b10 (by omega)
  rcases (show q = 0 ∨ q = 1 ∨ q = 2 ∨ q = 3 by omega) with rfl | rfl | rfl | rfl <;> rfl
theorem lg_s (x : Int64) : lg_cmp x x = 0 := by
  unfold lg_cmp
  simp
theorem L_b1 {n d B : Nat} (h : n + 1302 * (d + 1) ≤ B) : n + 1278 ≤ B ∧ n + 1278 + 24 ≤ B ∧ n + 1278 + 24 + 1302 * d ≤ B := by omega
/-- the times -/
theorem L_l90 {κ : Int32 → mM → Prop} (h1 : ∀ M, κ 1 M) (hl0 : l0 = some (g 1)) (h47 : i4 ≠ i7) (h56 : i5 ≠ i6) : ∀ (d j k9 n9 : Nat) (N : mN) (Y : mY) (S : mS) (M : mM), nLP g a0 (2 * j) N Y S M → LA i4 p4 i5 p5 i6 p6 i7 p7 sl N Y S → j + d = 22 → k9 + 54 * d ≤ 600104 → n9 + 1302 * d ≤ 7301313 → wL_law_90 sb L xs g κ (d + 1) k9 n9 l0 (some a0) 10 (nI sl) (some p4) (some p5) (some p6) (some p7) (nI j) M := by
  intro d
  induction d with
  | zero =>
    intro j k9 n9 N Y S M P A hj hk hn
    rw [wL_law_90]
    refine ⟨⟨by omega, by omega⟩, br_t (show nI 22 ≤ nI j from nI_le (by omega) (by omega)) (K_digest P (fun Y1 S1 M1 P1 F1 => K_isSound P1 (br_f (by decide) (K_digest P1 (fun Y2 S2 M2 P2 F2 => br_t (lg_s _) ⟨⟨by omega, by omega⟩, h1 M2⟩)))))⟩
  | succ d ih =>
    intro j k9 n9 N Y S M P A hj hk hn
    rw [wL_law_90]
    refine ⟨⟨by omega, by omega⟩, br_f (show ¬ nI 22 ≤ nI j from nI_ge (by omega) (by omega)) ?_⟩
    rw [hl0]
    obtain ⟨m1, m2, m3⟩ := L_b1 hn
    refine P_cell P (14 + j) (by rw [show (14 : Int32) = nI 14 from rfl, nI_add]) (by omega) (fun v => K_digest P (fun Y1 S1 M1 P1 F1 => ⟨⟨by omega, m1⟩, ?_⟩))
    have A1 := A.c F1 (nSt.rf N)
    refine L_isDone P1 (by omega) A.1.2.2.1 (by have := A.1.2.1; have := A.1.2.2.2; omega) A.1.1 (fun b N2 Y2 S2 M2 P2 F2 St hb hN => ?_)
    have A2 := A1.c F2 St
    have go : ∀ (Y : mY) (S : mS) (M : mM), nLP g a0 (2 * j + 2) N2 Y S M → LA i4 p4 i5 p5 i6 p6 i7 p7 sl N2 Y S → wL_law_135 sb L xs g κ (wL_law_90 sb L xs g κ (d + 1)) (k9 + 53) (n9 + 1278) (some (g 1)) (some a0) 10 (nI sl) (some p4) (some p5) (some p6) (some p7) (nI j) M := fun Y S M P A => by
      refine L_l135 (by omega) ⟨by omega, m2⟩ h47 h56 (fun Y3 S3 M3 P3 A3 => ?_) P A
      rw [nI_1, ← hl0]
      exact ih (j + 1) _ _ N2 Y3 S3 M3 P3 A3 (by omega) (by omega) m3
    rcases hb with rfl | rfl
    · refine br_t rfl (K_digest P2 (fun Y3 S3 M3 P3 F3 => ?_))
      have e9 : vDig N2 = vDig N := by rw [hN rfl]
      rw [e9]
      exact br_t (lg_s _) (go Y3 S3 M3 P3 (A2.c F3 (nSt.rf N2)))
    · exact br_f (by decide) (go Y2 S2 M2 P2 A2)
/-- worths are noted -/
theorem L_l35 {κ : Int32 → mM → Prop} (h1 : ∀ M, κ 1 M) (hl0 : l0 = some (g 1)) (h56 : i5 ≠ i6) : ∀ (d j k9 n9 : Nat) (Y : mY) (S : mS) (M : mM), nLP g a0 0 N Y S M → (nn N 29 = 10 ∧ nn N 28 = sl ∧ 0 < nn N 23 ∧ 0 < sl) → (∃ E, AR 38 i4 10 p4 Y S E ∧ ∀ p, p < j → E p = wv N p) → AR 26 i5 10 p5 Y S (fun _ => 0) → AR 26 i6 sl p6 Y S (fun _ => 0) → j + d = 10 → k9 + 1300 ≤ 600104 → n9 + 40000 ≤ 7301313 → wL_law_35 sb L xs g κ (d + 1) k9 n9 l0 (some a0) 10 (nI sl) (some p4) (some p5) (some p6) (nI j) M := by
  intro d
  induction d with
  | zero =>
    intro j k9 n9 Y S M P hc ⟨E4, a4, w4⟩ a5 a6 hj hk hn
    rw [wL_law_35]
    refine ⟨⟨by omega, by omega⟩, br_t (show nI 10 ≤ nI j from nI_le (by omega) (by omega)) ⟨⟨by omega, by omega⟩, K_rowI (n := 4) P rfl (by omega) (fun Y1 S1 M1 i p P1 a ei a7 => ⟨23, ?_⟩)⟩⟩
    refine L_l90 h1 hl0 (i4 := i4) (i7 := i) (by have := a4.1; omega) h56 22 0 _ _ N Y1 S1 M1 P1 ⟨hc, ⟨E4, a4.x a, fun p hp => w4 p (by omega)⟩, ⟨_, a5.x a, fun _ _ => Or.inl rfl⟩, ⟨_, a6.x a, fun _ _ => Or.inl rfl⟩, ⟨_, a7, fun q _ => ⟨0, Nat.zero_le _, rfl⟩⟩⟩ (by omega) (by omega) (by omega)
  | succ d ih =>
    intro j k9 n9 Y S M P hc ⟨E4, a4, w4⟩ a5 a6 hj hk hn
    have hp : j < nn N 29 := by omega
    rw [wL_law_35]
    refine ⟨⟨by omega, by omega⟩, br_f (show ¬ nI 10 ≤ nI j from nI_ge (by omega) (by omega)) ?_⟩
    refine K_ofPart P (l := j) (b := 0) hp (by omega) (fun Y1 S1 M1 P1 F1 => ?_)
    refine K_ofPart P1 (l := j) (b := 1) hp (by omega) (fun Y2 S2 M2 P2 F2 => ?_)
    refine K_ofPart P2 (l := j) (b := 2) hp (by omega) (fun Y3 S3 M3 P3 F3 => ?_)
    rw [zP_0, zP_1, zP_2]
    have F := (F1.tr F2).tr F3
    have b4 := a4.c (by omega) F
    refine b4.stI P3 (j := j) rfl (by omega) (by omega) (fun M4 P4 => ?_)
    rw [nI_1]
    refine ih (j + 1) k9 n9 Y3 _ M4 P4 hc ⟨_, b4.us, fun p hp => ?_⟩ ((a5.c (by omega) F).u (by omega)) ((a6.c (by omega) F).u (by omega)) (by omega) hk hn
    by_cases z : p = j
    · rw [if_pos z, z]; rfl
    · rw [if_neg z]; exact w4 p (by omega)
/-- the law, out of a memory that holds the script and nothing else that matters -/
theorem law_p {Y : mY} {S : mS} {M : mM} (H : mR g Y S M) (hz : ∀ k, k < 33 → yn Y k = 0) (h38 : yn Y 38 = 0) (hs : sC S 33 0 ≤ 260) {κ : Int32 → mM → Prop} (h1 : ∀ M, κ 1 M) : wL_law sb L xs g κ (some (g 1)) M := by
  refine ⟨⟨by omega, by omega⟩, L_night H hz h38 hs (fun a0 N Y S M P hg hsl hp => ?_)⟩
  have hb := P.2.2.1.2.1
  refine K_night P (b := 5) (by omega) (fun Y1 S1 M1 P1 F1 => ?_)
  rw [zN_5, hp]
  refine K_night P1 (b := 3) (by omega) (fun Y2 S2 M2 P2 F2 => ?_)
  rw [zN_3]
  refine ⟨⟨by omega, by omega⟩, K_rowI (n := 10) P2 rfl (by omega) (fun Y3 S3 M3 i4 p4 P3 x3 e4 a4 => ⟨⟨by omega, by omega⟩, K_rowZ (n := 10) P3 rfl (by omega) (fun Y4 S4 M4 i5 p5 P4 x4 e5 a5 => ⟨⟨by omega, by omega⟩, K_rowZ (n := nn N 28) P4 rfl (by omega) (fun Y5 S5 M5 i6 p6 P5 x5 e6 a6 => ⟨11, ?_⟩)⟩)⟩)⟩
  exact L_l35 (l0 := some (g 1)) h1 rfl (i5 := i5) (i6 := i6) (by have := a5.1; omega) 10 0 _ _ Y5 S5 M5 P5 ⟨hp, rfl, hg, by omega⟩ ⟨_, (a4.x x4).x x5, fun p hp => absurd hp (Nat.not_lt_zero p)⟩ (a5.x x5) a6 (by omega) (by omega) (by omega)
end LLAW
