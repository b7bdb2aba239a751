/-! THE PROPERTY'S LAW, 7: its own rows -/
/-- a row of the law's: kind, place, length, address, content -/
def AR (k i n p : Nat) (Y : mY) (S : mS) (E : Nat → Int32) : Prop := i < yn Y k ∧ sC S k i = n ∧ yA Y k i = p ∧ sE S k i = E
section LARR
variable {g : Nat → Nat} {a0 kk : Nat} {N : mN} {k i n p : Nat} {Y Y' : mY} {S S' : mS} {M : mM} {E : Nat → Int32}
theorem AR.c (h : AR k i n p Y S E) (hk : 20 ≤ k) (F : mFc Y S Y' S') : AR k i n p Y' S' E := by
  obtain ⟨h1, h2, h3, h4⟩ := h
  have f := F.2.2 k hk
  exact ⟨by rw [f.1]; exact h1, by rw [(f.2 i).2.2.2.2.2.2.1]; exact h2, (F.1 k i h1).trans h3, by rw [(f.2 i).2.2.2.2.2.2.2.1]; exact h4⟩
theorem AR.x (h : AR k i n p Y S E) {kx : Nat} (a : mX1 Y S kx Y' S') : AR k i n p Y' S' E := by
  obtain ⟨h1, h2, h3, h4⟩ := h
  have z : ¬ (k = kx ∧ i = yn Y kx) := fun w => by
    rw [w.1, w.2] at h1
    exact Nat.lt_irrefl _ h1
  have e := a.2.2.2 k i z
  have hle : yn Y k ≤ yn Y' k := by
    by_cases w : k = kx
    · rw [w, a.2.1]; omega
    · rw [a.2.2.1 k w]; exact Nat.le_refl _
  exact ⟨Nat.lt_of_lt_of_le h1 hle, by rw [e.2.2.2.2.2.2.1]; exact h2, (a.1 k i h1).trans h3, by rw [e.2.2.2.2.2.2.2.1]; exact h4⟩
theorem AR.u (h : AR k i n p Y S E) {k' i' j : Nat} {v : Int32} (z : ¬ (k = k' ∧ i = i')) : AR k i n p Y (uE S k' i' j v) E := by
  obtain ⟨h1, h2, h3, h4⟩ := h
  have e : mEq (uE S k' i' j v) S k i := mEq.uE z
  exact ⟨h1, by rw [e.2.2.2.2.2.2.1]; exact h2, h3, by rw [e.2.2.2.2.2.2.2.1]; exact h4⟩
theorem AR.us (h : AR k i n p Y S E) {j : Nat} {v : Int32} : AR k i n p Y (uE S k i j v) (fun q => if q = j then v else E q) := by
  obtain ⟨h1, h2, h3, h4⟩ := h
  refine ⟨h1, h2, h3, funext fun q => ?_⟩
  show (if k = k ∧ i = i ∧ q = j then v else sE S k i q) = if q = j then v else E q
  by_cases z : q = j
  · rw [if_pos ⟨rfl, rfl, z⟩, if_pos z]
  · rw [if_neg (fun w => z w.2.2), if_neg z, h4]
theorem AR.ldI (h : AR 38 i n p Y S E) (H : mR g Y S M) {j : Nat} {y : Int32} (hy : y = nI j) (hj : j < n) (hn : n < 1000) {κ : Int32 → Prop} (c : κ (E j)) : m_ldI M (some p) y 0 κ := by
  obtain ⟨h1, h2, h3, h4⟩ := h
  rw [hy, ← h3]
  exact s_ldI H h1 rfl (by decide) rfl (by omega) (by omega) (by rw [h4]; exact c)
theorem AR.ldZ (h : AR 26 i n p Y S E) (H : mR g Y S M) {j : Nat} {y : Int32} (hy : y = nI j) (hj : j < n) (hn : n < 1000) {κ : Int32 → Prop} (c : κ (E j)) : m_ldI M (some p) y 1 κ := by
  obtain ⟨h1, h2, h3, h4⟩ := h
  rw [hy, ← h3]
  exact s_ldI H h1 rfl (by decide) rfl (by omega) (by omega) (by rw [h4]; exact c)
theorem AR.stI (h : AR 38 i n p Y S E) (P : nLP g a0 kk N Y S M) {j : Nat} {y : Int32} (hy : y = nI j) (hj : j < n) (hn : n < 1000) {v : Int32} {κ : mM → Prop} (c : ∀ M', nLP g a0 kk N Y (uE S 38 i j v) M' → κ M') : m_stI M (some p) y v κ := by
  obtain ⟨h1, h2, h3, h4⟩ := h
  rw [hy, ← h3]
  exact s_stI P.1.1 h1 rfl rfl (by omega) (by omega) (fun M' H' => c M' (P.U (Or.inr rfl) H'))
theorem AR.stZ (h : AR 26 i n p Y S E) (P : nLP g a0 kk N Y S M) {j : Nat} {y : Int32} (hy : y = nI j) (hj : j < n) (hn : n < 1000) {v w : Int32} (hv : vp_nar .boolean v = w) {κ : mM → Prop} (c : ∀ M', nLP g a0 kk N Y (uE S 26 i j w) M' → κ M') : m_stZ M (some p) y v κ := by
  obtain ⟨h1, h2, h3, h4⟩ := h
  rw [hy, ← h3]
  exact s_stZ P.1.1 h1 rfl rfl (by omega) (by omega) hv (fun M' H' => c M' (P.U (Or.inl rfl) H'))
theorem K_rowI (P : nLP g a0 kk N Y S M) {y : Int32} (hy : y = nI n) (hn : n ≤ 24) {κ : Nat → mM → Prop} (h : ∀ Y1 S1 M1 i p, nLP g a0 kk N Y1 S1 M1 → mX1 Y S 38 Y1 S1 → i = yn Y 38 → AR 38 i n p Y1 S1 (fun _ => 0) → κ p M1) : m_newI M 0 y 24 κ := by
  rw [hy]
  exact K_row P (Or.inr ⟨rfl, rfl⟩) (by omega) hn (fun Y1 S1 M1 i P1 a ei eC eE => h Y1 S1 M1 i _ P1 a ei ⟨by rw [ei, a.2.1]; omega, eC, rfl, eE⟩)
theorem K_rowZ (P : nLP g a0 kk N Y S M) {y : Int32} (hy : y = nI n) (hn : n ≤ 24) {κ : Nat → mM → Prop} (h : ∀ Y1 S1 M1 i p, nLP g a0 kk N Y1 S1 M1 → mX1 Y S 26 Y1 S1 → i = yn Y 26 → AR 26 i n p Y1 S1 (fun _ => 0) → κ p M1) : m_newI M 1 y 24 κ := by
  rw [hy]
  exact K_row P (Or.inl ⟨rfl, rfl⟩) (by omega) hn (fun Y1 S1 M1 i P1 a ei eC eE => h Y1 S1 M1 i _ P1 a ei ⟨by rw [ei, a.2.1]; omega, eC, rfl, eE⟩)
end LARR
/-- what a part is worth, and of which dream and dread it is -/
def wv (N : mN) (p : Nat) : Int32 := (100 * nv N 29 p 0 + nv N 29 p 1) + 1000 * nv N 29 p 2
/-- what never becomes less -/
def tw (N : mN) (q : Nat) : Nat := match q with
  | 0 => (nh N).length / 3
  | 1 => tN (nv N 20 0 4)
  | 2 => qP (fun l => tN (nv N 22 l 4)) 6
  | _ => 24 * tN (nv N 20 0 1) + tN (nv N 20 0 2)
theorem qP_mono {f h : Nat → Nat} : ∀ n, (∀ s, s < n → f s ≤ h s) → qP f n ≤ qP h n := by
  intro n
  induction n with
  | zero => intro _; exact Nat.le_refl 0
  | succ n ih =>
    intro e
    have h1 := ih (fun s hs => e s (by omega))
    have h2 := e n (by omega)
    show qP f n + f n ≤ qP h n + h n
    omega
theorem tw_mono {N N' : mN} (St : nSt N N') {q : Nat} (hq : q < 4) : tw N q ≤ tw N' q := by
  obtain ⟨-, -, -, -, a5, a6, a7, a8⟩ := St
  rcases (show q = 0 ∨ q = 1 ∨ q = 2 ∨ q = 3 by omega) with rfl | rfl | rfl | rfl
  · exact Nat.div_le_div_right a5
  · exact a6
  · exact qP_mono 6 a7
  · exact a8
theorem tw_b {N : mN} {k q : Nat} (B : nB N) (G : nG k N) (hk : k ≤ 1000) (hq : q < 4) : tw N q < 2 ^ 30 := by
  obtain ⟨nt, hr, t1, t2, t3, t4⟩ := B.1
  obtain ⟨m, hm, hl, -⟩ := B.2.2.2.2.2.2.2
  obtain ⟨-, -, h3, -, -, a, ha, ea⟩ := G
  rcases (show q = 0 ∨ q = 1 ∨ q = 2 ∨ q = 3 by omega) with rfl | rfl | rfl | rfl
  · show (nh N).length / 3 < 2 ^ 30
    omega
  · show tN (nv N 20 0 4) < 2 ^ 30
    rw [ea, tN_nI (by omega)]
    omega
  · have : qP (fun l => tN (nv N 22 l 4)) 6 ≤ (1200 * k) * 6 := qP_b 6 (fun l hl => by
      obtain ⟨d, hd, ed⟩ := h3 l hl
      show tN (nv N 22 l 4) ≤ _
      rw [ed, tN_nI (by omega)]
      exact hd)
    show qP (fun l => tN (nv N 22 l 4)) 6 < 2 ^ 30
    omega
  · show 24 * tN (nv N 20 0 1) + tN (nv N 20 0 2) < 2 ^ 30
    rw [t3, t4, tN_nI (by omega), tN_nI (by omega)]
    omega
theorem tw_0 {N : mN} : vNight N (nI 12) = nI (tw N 0) := zN_12
theorem tw_1 {N : mN} {k : Nat} (G : nG k N) (hk : k ≤ 1000) : vNight N (nI 13) = nI (tw N 1) := by
  obtain ⟨a, ha, ea⟩ := G.2.2.2.2.2
  rw [zN_13]
  show _ = nI (tN (nv N 20 0 4))
  rw [ea, tN_nI (by omega)]
theorem tw_2 {N : mN} {k : Nat} (G : nG k N) (hk : k ≤ 1000) : vNight N (nI 15) = nI (tw N 2) := by
  rw [zN_15]
  exact nSu_nI 6 (fun l hl => by
    obtain ⟨d, hd, ed⟩ := G.2.2.1 l hl
    rw [ed, tN_nI (by omega)])
theorem tw_3 {N : mN} (B : nB N) : vNight N (nI 0) * 24 + vNight N (nI 1) = nI (tw N 3) := by
  obtain ⟨nt, hr, t1, t2, t3, t4⟩ := B.1
  rw [zN_0, zN_1]
  show _ = nI (24 * tN (nv N 20 0 1) + tN (nv N 20 0 2))
  rw [t3, t4, tN_nI (by omega), tN_nI (by omega), show (24 : Int32) = nI 24 from rfl, pk_mul, nI_add]
  exact congrArg nI (by omega)
/-- what the law knows of its rows -/
def LA (i4 p4 i5 p5 i6 p6 i7 p7 sl : Nat) (N : mN) (Y : mY) (S : mS) : Prop := (nn N 29 = 10 ∧ nn N 28 = sl ∧ 0 < nn N 23 ∧ 0 < sl) ∧ (∃ E, AR 38 i4 10 p4 Y S E ∧ ∀ p, p < 10 → E p = wv N p) ∧ (∃ E, AR 26 i5 10 p5 Y S E ∧ ∀ p, p < 10 → E p = 0 ∨ (E p = 1 ∧ nv N 29 p 4 = 999)) ∧ (∃ E, AR 26 i6 sl p6 Y S E ∧ ∀ s, s < sl → E s = 0 ∨ (E s = 1 ∧ nv N 28 s 3 = 2)) ∧ ∃ E, AR 38 i7 4 p7 Y S E ∧ ∀ q, q < 4 → ∃ c, c ≤ tw N q ∧ E q = nI c
section LLA
variable {i4 p4 i5 p5 i6 p6 i7 p7 sl : Nat} {N N' : mN} {Y Y' : mY} {S S' : mS}
theorem LA.c (A : LA i4 p4 i5 p5 i6 p6 i7 p7 sl N Y S) (F : mFc Y S Y' S') (St : nSt N N') : LA i4 p4 i5 p5 i6 p6 i7 p7 sl N' Y' S' := by
  obtain ⟨⟨c1, c2, c3, c4⟩, ⟨E4, a4, w4⟩, ⟨E5, a5, w5⟩, ⟨E6, a6, w6⟩, ⟨E7, a7, w7⟩⟩ := A
  refine ⟨⟨by rw [St.1]; exact c1, by rw [St.1]; exact c2, by rw [St.1]; exact c3, c4⟩, ⟨E4, a4.c (by omega) F, fun p hp => ?_⟩, ⟨E5, a5.c (by omega) F, fun p hp => ?_⟩, ⟨E6, a6.c (by omega) F, fun s hs => ?_⟩, ⟨E7, a7.c (by omega) F, fun q hq => ?_⟩⟩
  · rw [w4 p hp]
    unfold wv
    rw [St.2.1 p 0 (by omega), St.2.1 p 1 (by omega), St.2.1 p 2 (by omega)]
  · exact (w5 p hp).imp id (fun w => ⟨w.1, St.2.2.1 p (by omega) w.2⟩)
  · exact (w6 s hs).imp id (fun w => ⟨w.1, St.2.2.2.1 s (by omega) w.2⟩)
  · obtain ⟨c, hc, ec⟩ := w7 q hq
    exact ⟨c, Nat.le_trans hc (tw_mono St hq), ec⟩
theorem LA.x (A : LA i4 p4 i5 p5 i6 p6 i7 p7 sl N Y S) {kx : Nat} (a : mX1 Y S kx Y' S') : LA i4 p4 i5 p5 i6 p6 i7 p7 sl N Y' S' := by
  obtain ⟨c, ⟨E4, a4, w4⟩, ⟨E5, a5, w5⟩, ⟨E6, a6, w6⟩, ⟨E7, a7, w7⟩⟩ := A
  exact ⟨c, ⟨E4, a4.x a, w4⟩, ⟨E5, a5.x a, w5⟩, ⟨E6, a6.x a, w6⟩, ⟨E7, a7.x a, w7⟩⟩
/-- another row is written -/
theorem LA.o (A : LA i4 p4 i5 p5 i6 p6 i7 p7 sl N Y S) {i j : Nat} {v : Int32} (h4 : i ≠ i4) (h7 : i ≠ i7) : LA i4 p4 i5 p5 i6 p6 i7 p7 sl N Y (uE S 38 i j v) := by
  obtain ⟨c, ⟨E4, a4, w4⟩, ⟨E5, a5, w5⟩, ⟨E6, a6, w6⟩, ⟨E7, a7, w7⟩⟩ := A
  exact ⟨c, ⟨E4, a4.u (by omega), w4⟩, ⟨E5, a5.u (by omega), w5⟩, ⟨E6, a6.u (by omega), w6⟩, ⟨E7, a7.u (by omega), w7⟩⟩
theorem LA.s5 (A : LA i4 p4 i5 p5 i6 p6 i7 p7 sl N Y S) (h56 : i5 ≠ i6) {j : Nat} {v : Int32} (hv : v = 0 ∨ (v = 1 ∧ nv N 29 j 4 = 999)) : LA i4 p4 i5 p5 i6 p6 i7 p7 sl N Y (uE S 26 i5 j v) := by
  obtain ⟨c, ⟨E4, a4, w4⟩, ⟨E5, a5, w5⟩, ⟨E6, a6, w6⟩, ⟨E7, a7, w7⟩⟩ := A
  refine ⟨c, ⟨E4, a4.u (by omega), w4⟩, ⟨_, a5.us, fun p hp => ?_⟩, ⟨E6, a6.u (by omega), w6⟩, ⟨E7, a7.u (by omega), w7⟩⟩
  by_cases z : p = j
  · rw [if_pos z, z]; exact hv
  · rw [if_neg z]; exact w5 p hp
theorem LA.s6 (A : LA i4 p4 i5 p5 i6 p6 i7 p7 sl N Y S) (h56 : i5 ≠ i6) {j : Nat} {v : Int32} (hv : v = 0 ∨ (v = 1 ∧ nv N 28 j 3 = 2)) : LA i4 p4 i5 p5 i6 p6 i7 p7 sl N Y (uE S 26 i6 j v) := by
  obtain ⟨c, ⟨E4, a4, w4⟩, ⟨E5, a5, w5⟩, ⟨E6, a6, w6⟩, ⟨E7, a7, w7⟩⟩ := A
  refine ⟨c, ⟨E4, a4.u (by omega), w4⟩, ⟨E5, a5.u (by omega), w5⟩, ⟨_, a6.us, fun s hs => ?_⟩, ⟨E7, a7.u (by omega), w7⟩⟩
  by_cases z : s = j
  · rw [if_pos z, z]; exact hv
  · rw [if_neg z]; exact w6 s hs
theorem LA.s7 (A : LA i4 p4 i5 p5 i6 p6 i7 p7 sl N Y S) (h47 : i4 ≠ i7) {j : Nat} {v : Int32} (hv : v = nI (tw N j)) : LA i4 p4 i5 p5 i6 p6 i7 p7 sl N Y (uE S 38 i7 j v) := by
  obtain ⟨c, ⟨E4, a4, w4⟩, ⟨E5, a5, w5⟩, ⟨E6, a6, w6⟩, ⟨E7, a7, w7⟩⟩ := A
  refine ⟨c, ⟨E4, a4.u (by omega), w4⟩, ⟨E5, a5.u (by omega), w5⟩, ⟨E6, a6.u (by omega), w6⟩, ⟨_, a7.us, fun q hq => ?_⟩⟩
  by_cases z : q = j
  · rw [if_pos z, z]; exact ⟨_, Nat.le_refl _, hv⟩
  · rw [if_neg z]; exact w7 q hq
end LLA
