/-! THE SIMULATION, 44: the checksum, of the reference -/
/-- the reference's state, and the sum so far -/
def vZJ (g : Nat → Nat) (c0 : Int64) (N : mN) (Y0 : mY) (S0 : mS) (Y : mY) (S : mS) (M : mM) : Prop := vN g N Y0 S0 Y S M ∧ sJ S 20 0 12 = c0
section SIM44
variable {g : Nat → Nat} {Y : mY} {S : mS} {M : mM} {N : mN} {Y0 : mY} {S0 : mS}
theorem vZJ.nx {c0 : Int64} (P : vZJ g c0 N Y0 S0 Y S M) {i c : Nat} {M' : mM} (H' : mR g Y (uI (uI S 32 i 0 (nI (c + 1))) 32 i 1 (nI c)) M') : vZJ g c0 N Y0 S0 Y (uI (uI S 32 i 0 (nI (c + 1))) 32 i 1 (nI c)) M' := ⟨vN_nx P.1 H', P.2⟩
theorem J_add {c0 : Int64} (P : vZJ g c0 N Y0 S0 Y S M) {n : Int64} {κ : mM → Prop} (h : ∀ S' M', vZJ g (c0 * 31 + n) N Y0 S0 Y S' M' → κ M') : m_rc M (some (yA Y 20 0)) 19 fun b => wX14_add κ (some b) n M := by
  refine s_rc P.1.1.1 P.1.1.2.1.x0 rfl rfl (s_gJ P.1.1.1 P.1.1.2.1.x0 rfl rfl rfl ?_)
  rw [P.2]
  exact s_pJ P.1.1.1 P.1.1.2.1.x0 rfl rfl rfl (fun M1 H1 => h _ M1 ⟨vN_J P.1 H1 (by omega), sJ_uJ_s⟩)
theorem J_iter {c0 : Int64} {j : Nat} (hj : j < 4) (P : vZJ g c0 N Y0 S0 Y S M) {κ : Option Nat → mM → Prop} (h : ∀ Y1 S1 M1 i, vZJ g c0 N Y0 S0 Y1 S1 M1 → mX1 Y S 32 Y1 S1 → vIt Y1 S1 i j 0 → κ (some (yA Y1 32 i)) M1) : wJx4a65c_iterator_32c93 κ (some (yA Y 24 j)) M := f_iter hj P.1 (fun Y1 S1 M1 i P1 a I => h Y1 S1 M1 i ⟨P1, (congrFun (a.2.2.2 20 0 (by omega)).2.1 12).trans P.2⟩ a I)
theorem J_nn114 {i : Nat} {κ : Int32 → mM → Prop} {c0 : Int64} (h : ∀ S M, vZJ g c0 N Y0 S0 Y S M → κ (nCn (pAw N) (yn Y 28)) M) : ∀ (d c : Nat) (S : mS) (M : mM), vZJ g c0 N Y0 S0 Y S M → vIt Y S i 1 c → c + d = yn Y 28 → wX14_nightNow_114 κ (d + 1) (nCn (pAw N) c) (some (yA Y 32 i)) M := by
  intro d
  induction d with
  | zero =>
    intro c S M P I hc
    have V := P.1.1.2.1
    have hl : (sL S 24 1).length = yn Y 28 := by rw [V.2.2.1.2.1, List.length_range]
    have ec : c = yn Y 28 := by omega
    rw [ec] at I ⊢
    rw [wX14_nightNow_114]
    exact s_rc P.1.1.1 I.1 rfl rfl (v_hasNext P.1.1.1 (V.l24 (by omega)) I (by omega) (fun z => absurd z (by omega)) (fun _ => br_t rfl (h S M P)))
  | succ d ih =>
    intro c S M P I hc
    have V := P.1.1.2.1
    have hl : (sL S 24 1).length = yn Y 28 := by rw [V.2.2.1.2.1, List.length_range]
    have hx : (sL S 24 1)[c]? = some c := by rw [V.2.2.1.2.1, List.getElem?_range (by omega)]
    have hlt : c < yn Y 28 := by omega
    rw [wX14_nightNow_114]
    refine s_rc P.1.1.1 I.1 rfl rfl (v_hasNext P.1.1.1 (V.l24 (by omega)) I (by omega) (fun _ => br_f (by decide) ?_) (fun z => absurd z (by omega)))
    refine v_next P.1.1.1 (V.l24 (by omega)) I hx (fun M1 H1 => s_cast H1 hlt rfl rfl ?_)
    have P1 := P.nx H1
    have ih' : ∀ a : Int32, a = nCn (pAw N) (c + 1) → wX14_nightNow_114 κ (d + 1) a (some (yA Y 32 i)) M1 := fun a e => by rw [e]; exact ih (c + 1) _ M1 P1 I.nx (by omega)
    refine s_gI H1 hlt rfl rfl rfl ?_
    rw [P1.1.2.2.2.1 28 c 3 rfl hlt]
    exact br_c (fun w => ih' _ (nCn_t (decide_eq_true w)).symm) (fun w => ih' _ ((Int32.add_zero _).trans (nCn_f (fun q => w (of_decide_eq_true q))).symm))
theorem J_nn172 {i : Nat} {b : Int32} {κ : Int32 → mM → Prop} {c0 : Int64} (h : ∀ S M, vZJ g c0 N Y0 S0 Y S M → κ (nCn (pFa N (b - 5)) (yn Y 29)) M) : ∀ (d c : Nat) (S : mS) (M : mM), vZJ g c0 N Y0 S0 Y S M → vIt Y S i 2 c → c + d = yn Y 29 → wX14_nightNow_172 κ (d + 1) b (nCn (pFa N (b - 5)) c) (some (yA Y 32 i)) M := by
  intro d
  induction d with
  | zero =>
    intro c S M P I hc
    have V := P.1.1.2.1
    have hl : (sL S 24 2).length = yn Y 29 := by rw [V.2.2.1.2.2.1, List.length_range]
    have ec : c = yn Y 29 := by omega
    rw [ec] at I ⊢
    rw [wX14_nightNow_172]
    exact s_rc P.1.1.1 I.1 rfl rfl (v_hasNext P.1.1.1 (V.l24 (by omega)) I (by omega) (fun z => absurd z (by omega)) (fun _ => br_t rfl (h S M P)))
  | succ d ih =>
    intro c S M P I hc
    have V := P.1.1.2.1
    have hl : (sL S 24 2).length = yn Y 29 := by rw [V.2.2.1.2.2.1, List.length_range]
    have hx : (sL S 24 2)[c]? = some c := by rw [V.2.2.1.2.2.1, List.getElem?_range (by omega)]
    have hlt : c < yn Y 29 := by omega
    rw [wX14_nightNow_172]
    refine s_rc P.1.1.1 I.1 rfl rfl (v_hasNext P.1.1.1 (V.l24 (by omega)) I (by omega) (fun _ => br_f (by decide) ?_) (fun z => absurd z (by omega)))
    refine v_next P.1.1.1 (V.l24 (by omega)) I hx (fun M1 H1 => s_cast H1 hlt rfl rfl ?_)
    have P1 := P.nx H1
    have ih' : ∀ a : Int32, a = nCn (pFa N (b - 5)) (c + 1) → wX14_nightNow_172 κ (d + 1) b a (some (yA Y 32 i)) M1 := fun a e => by rw [e]; exact ih (c + 1) _ M1 P1 I.nx (by omega)
    refine s_gI H1 hlt rfl rfl rfl ?_
    rw [P1.1.2.2.2.1 29 c 3 rfl hlt]
    exact br_c (fun w => ih' _ (nCn_t (decide_eq_true w)).symm) (fun w => ih' _ ((Int32.add_zero _).trans (nCn_f (fun q => w (of_decide_eq_true q))).symm))
theorem J_nn224 {i : Nat} {κ : Int32 → mM → Prop} {c0 : Int64} (h : ∀ S M, vZJ g c0 N Y0 S0 Y S M → κ (nCn (pGo N) (yn Y 29)) M) : ∀ (d c : Nat) (S : mS) (M : mM), vZJ g c0 N Y0 S0 Y S M → vIt Y S i 2 c → c + d = yn Y 29 → wX14_nightNow_224 κ (d + 1) (nCn (pGo N) c) (some (yA Y 32 i)) M := by
  intro d
  induction d with
  | zero =>
    intro c S M P I hc
    have V := P.1.1.2.1
    have hl : (sL S 24 2).length = yn Y 29 := by rw [V.2.2.1.2.2.1, List.length_range]
    have ec : c = yn Y 29 := by omega
    rw [ec] at I ⊢
    rw [wX14_nightNow_224]
    exact s_rc P.1.1.1 I.1 rfl rfl (v_hasNext P.1.1.1 (V.l24 (by omega)) I (by omega) (fun z => absurd z (by omega)) (fun _ => br_t rfl (h S M P)))
  | succ d ih =>
    intro c S M P I hc
    have V := P.1.1.2.1
    have hl : (sL S 24 2).length = yn Y 29 := by rw [V.2.2.1.2.2.1, List.length_range]
    have hx : (sL S 24 2)[c]? = some c := by rw [V.2.2.1.2.2.1, List.getElem?_range (by omega)]
    have hlt : c < yn Y 29 := by omega
    rw [wX14_nightNow_224]
    refine s_rc P.1.1.1 I.1 rfl rfl (v_hasNext P.1.1.1 (V.l24 (by omega)) I (by omega) (fun _ => br_f (by decide) ?_) (fun z => absurd z (by omega)))
    refine v_next P.1.1.1 (V.l24 (by omega)) I hx (fun M1 H1 => s_cast H1 hlt rfl rfl ?_)
    have P1 := P.nx H1
    have ih' : ∀ a : Int32, a = nCn (pGo N) (c + 1) → wX14_nightNow_224 κ (d + 1) a (some (yA Y 32 i)) M1 := fun a e => by rw [e]; exact ih (c + 1) _ M1 P1 I.nx (by omega)
    refine s_gI H1 hlt rfl rfl rfl ?_
    rw [P1.1.2.2.2.1 29 c 4 rfl hlt]
    exact br_c (fun w => ih' _ (nCn_t (decide_eq_true w)).symm) (fun w => ih' _ ((Int32.add_zero _).trans (nCn_f (fun q => w (of_decide_eq_true q))).symm))
theorem J_nightNow {c0 : Int64} (P : vZJ g c0 N Y0 S0 Y S M) {b : Int32} {κ : Int32 → mM → Prop} (h : ∀ Y' S' M', vZJ g c0 N Y0 S0 Y' S' M' → (∀ k, k ≠ 32 → k ≠ 38 → yn Y' k = yn Y k) → (∀ k i, i < yn Y k → yA Y' k i = yA Y k i) → κ (vNight N b) M') : wX14_nightNow κ (some (yA Y 20 0)) b M := by
  have H := P.1.1.1
  have V := P.1.1.2.1
  have R := P.1.2.2
  have h0 : ∀ v, v = vNight N b → κ v M := fun v e => by rw [e]; exact h Y S M P (fun _ _ _ => rfl) (fun _ _ _ => rfl)
  have e12 : nI (sL S 24 3).length / 3 = nI ((nh N).length / 3) := by
    obtain ⟨n, hn, el, -⟩ := V.2.2.1.2.2.2
    rw [R.2.2.2.2] at el ⊢
    rw [show (3 : Int32) = nI 3 from rfl, pk_div (by omega) (by omega) (by omega)]
  have i114 : nCn (pAw N) (nn N 28) = vNight N b → m_gR M (some (yA Y 20 0)) 19 8 fun x16 => m_rc M x16 4 fun b19 => wJx4a65c_iterator_32c93 (fun x17 M18 => ∃ u : Nat, wX14_nightNow_114 κ u 0 x17 M18) (some b19) M := fun ev => s_gR6 H V.x0 rfl rfl rfl (s_rcL H rfl (V.l24 (by omega)) (J_iter (by omega) P (fun Y1 S1 M1 i P1 a I => ⟨yn Y1 28 + 1, J_nn114 (fun S M P => by
    rw [P.1.2.2.1.2.1, ev]
    exact h Y1 S M P (fun k z _ => a.2.2.1 k z) a.1) (yn Y1 28) 0 S1 M1 P1 I (by omega)⟩)))
  have i172 : nCn (pFa N (b - 5)) (nn N 29) = vNight N b → m_gR M (some (yA Y 20 0)) 19 9 fun x16 => m_rc M x16 4 fun b19 => wJx4a65c_iterator_32c93 (fun x17 M18 => ∃ u : Nat, wX14_nightNow_172 κ u b 0 x17 M18) (some b19) M := fun ev => s_gR6 H V.x0 rfl rfl rfl (s_rcL H rfl (V.l24 (by omega)) (J_iter (by omega) P (fun Y1 S1 M1 i P1 a I => ⟨yn Y1 29 + 1, J_nn172 (fun S M P => by
    rw [P.1.2.2.1.2.2, ev]
    exact h Y1 S M P (fun k z _ => a.2.2.1 k z) a.1) (yn Y1 29) 0 S1 M1 P1 I (by omega)⟩)))
  have i224 : nCn (pGo N) (nn N 29) = vNight N b → m_gR M (some (yA Y 20 0)) 19 9 fun x16 => m_rc M x16 4 fun b19 => wJx4a65c_iterator_32c93 (fun x17 M18 => ∃ u : Nat, wX14_nightNow_224 κ u 0 x17 M18) (some b19) M := fun ev => s_gR6 H V.x0 rfl rfl rfl (s_rcL H rfl (V.l24 (by omega)) (J_iter (by omega) P (fun Y1 S1 M1 i P1 a I => ⟨yn Y1 29 + 1, J_nn224 (fun S M P => by
    rw [P.1.2.2.1.2.2, ev]
    exact h Y1 S M P (fun k z _ => a.2.2.1 k z) a.1) (yn Y1 29) 0 S1 M1 P1 I (by omega)⟩)))
  exact br_c (fun q0 => s_gI H V.x0 rfl rfl rfl (h0 _ ((R.2.1 20 0 1 rfl V.x0).trans (by unfold vNight; rw [if_pos q0])))) (fun q0 => br_c (fun q1 => s_gI H V.x0 rfl rfl rfl (h0 _ ((R.2.1 20 0 2 rfl V.x0).trans (by unfold vNight; rw [if_neg q0, if_pos q1])))) (fun q1 => br_c (fun q2 => s_gR6 H V.x0 rfl rfl rfl (s_rcL H rfl (V.l24 (by omega)) (v_szG H V (h0 _ ((congrArg nI R.1.1).trans (by unfold vNight; rw [if_neg q0, if_neg q1, if_pos q2])))))) (fun q2 => br_c (fun q3 => s_gR6 H V.x0 rfl rfl rfl (s_rcL H rfl (V.l24 (by omega)) (v_szS H V (h0 _ ((congrArg nI R.1.2.1).trans (by unfold vNight; rw [if_neg q0, if_neg q1, if_neg q2, if_pos q3])))))) (fun q3 => br_c (fun q4 => i114 (by unfold vNight; rw [if_neg q0, if_neg q1, if_neg q2, if_neg q3, if_pos q4])) (fun q4 => br_c (fun q5 => s_gR6 H V.x0 rfl rfl rfl (s_rcL H rfl (V.l24 (by omega)) (v_szP H V (h0 _ ((congrArg nI R.1.2.2).trans (by unfold vNight; rw [if_neg q0, if_neg q1, if_neg q2, if_neg q3, if_neg q4, if_pos q5])))))) (fun q5 => br_c (fun q6 => i172 (by rw [show pFa N (b - 5) = pFa N 1 from by rw [q6]; rfl]; unfold vNight; rw [if_neg q0, if_neg q1, if_neg q2, if_neg q3, if_neg q4, if_neg q5, if_pos q6])) (fun q6 => br_c (fun q7 => i172 (by rw [show pFa N (b - 5) = pFa N 2 from by rw [q7]; rfl]; unfold vNight; rw [if_neg q0, if_neg q1, if_neg q2, if_neg q3, if_neg q4, if_neg q5, if_neg q6, if_pos q7])) (fun q7 => br_c (fun q8 => i172 (by rw [show pFa N (b - 5) = pFa N 3 from by rw [q8]; rfl]; unfold vNight; rw [if_neg q0, if_neg q1, if_neg q2, if_neg q3, if_neg q4, if_neg q5, if_neg q6, if_neg q7, if_pos q8])) (fun q8 => br_c (fun q9 => i172 (by rw [show pFa N (b - 5) = pFa N 4 from by rw [q9]; rfl]; unfold vNight; rw [if_neg q0, if_neg q1, if_neg q2, if_neg q3, if_neg q4, if_neg q5, if_neg q6, if_neg q7, if_neg q8, if_pos q9])) (fun q9 => br_c (fun q10 => i172 (by rw [show pFa N (b - 5) = pFa N 5 from by rw [q10]; rfl]; unfold vNight; rw [if_neg q0, if_neg q1, if_neg q2, if_neg q3, if_neg q4, if_neg q5, if_neg q6, if_neg q7, if_neg q8, if_neg q9, if_pos q10])) (fun q10 => br_c (fun q11 => i224 (by unfold vNight; rw [if_neg q0, if_neg q1, if_neg q2, if_neg q3, if_neg q4, if_neg q5, if_neg q6, if_neg q7, if_neg q8, if_neg q9, if_neg q10, if_pos q11])) (fun q11 => br_c (fun q12 => s_gR6 H V.x0 rfl rfl rfl (s_rcL H rfl (V.l24 (by omega)) (v_szH H V (h0 _ ((e12).trans (by unfold vNight; rw [if_neg q0, if_neg q1, if_neg q2, if_neg q3, if_neg q4, if_neg q5, if_neg q6, if_neg q7, if_neg q8, if_neg q9, if_neg q10, if_neg q11, if_pos q12])))))) (fun q12 => br_c (fun q13 => s_gI H V.x0 rfl rfl rfl (h0 _ ((R.2.1 20 0 4 rfl V.x0).trans (by unfold vNight; rw [if_neg q0, if_neg q1, if_neg q2, if_neg q3, if_neg q4, if_neg q5, if_neg q6, if_neg q7, if_neg q8, if_neg q9, if_neg q10, if_neg q11, if_neg q12, if_pos q13])))) (fun q13 => br_c (fun q14 => s_gI H V.x0 rfl rfl rfl (h0 _ ((R.2.1 20 0 5 rfl V.x0).trans (by unfold vNight; rw [if_neg q0, if_neg q1, if_neg q2, if_neg q3, if_neg q4, if_neg q5, if_neg q6, if_neg q7, if_neg q8, if_neg q9, if_neg q10, if_neg q11, if_neg q12, if_neg q13, if_pos q14])))) (fun q14 => br_c (fun q15 => s_gR6 H V.x0 rfl rfl rfl (s_lenR H V.l21 (by decide) rfl (by rw [V.2.2.2.2.1]; exact ⟨7, D_nn300 R H V (h0 _ (by unfold vNight; rw [if_neg q0, if_neg q1, if_neg q2, if_neg q3, if_neg q4, if_neg q5, if_neg q6, if_neg q7, if_neg q8, if_neg q9, if_neg q10, if_neg q11, if_neg q12, if_neg q13, if_neg q14, if_pos q15])) 6 0 (by omega)⟩))) (fun q15 => s_gR6 H V.x0 rfl rfl rfl (s_lenR H V.l21 (by decide) rfl (by rw [V.2.2.2.2.1]; exact ⟨7, D_nn341 R H V (h0 _ (by unfold vNight; rw [if_neg q0, if_neg q1, if_neg q2, if_neg q3, if_neg q4, if_neg q5, if_neg q6, if_neg q7, if_neg q8, if_neg q9, if_neg q10, if_neg q11, if_neg q12, if_neg q13, if_neg q14, if_neg q15])) 6 0 (by omega)⟩))))))))))))))))))
theorem J_c60 {w : Nat → Nat} (hw : ∀ t, w t ≤ 2376) {c0 : Int64} {r n : Nat} (hn : n ≤ 8) {k s : Nat} (hk : k < n) (hs : s < 81) {κ : Option Nat → mM → Prop} {R27 : Option Nat → Int32 → Option Nat → Int32 → mM → Prop} {R51 : Option Nat → Int32 → Option Nat → Int32 → Int32 → Int32 → mM → Prop}
    (hR : ∀ S M F, vZJ g c0 N Y0 S0 Y S M → vTb Y S r n F → pT w n k s (min 10 s + 1) F → R51 (some (yA Y 20 0)) (nI 81) (some (yA Y 38 r)) (nI k) (nI (w k)) (nI s + 1) M) : ∀ (d o : Nat) (S : mS) (M : mM) (F : Nat → Nat), vZJ g c0 N Y0 S0 Y S M → vTb Y S r n F → pT w n k s o F → o + d = min 10 s + 1 → wX14_catches_60 κ R27 R51 (d + 1) (some (yA Y 20 0)) (nI 81) (some (yA Y 38 r)) (nI k) (nI (w k)) (nI s) (nI o) M := by
  have hmin : m_min 10 (nI s) = nI (min 10 s) := mI_min 10 s (by omega) (by omega)
  intro d
  induction d with
  | zero =>
    intro o S M F P T D ho
    have eo : o = min 10 s + 1 := by omega
    rw [eo] at D
    rw [wX14_catches_60]
    dsimp only
    rw [hmin]
    exact br_t (nI_lt (by omega) (by omega)) (hR S M F P T D)
  | succ d ih =>
    intro o S M F P T D ho
    obtain ⟨t1, t2, t3⟩ := T
    obtain ⟨d1, d2, d3⟩ := D
    have ho10 : o ≤ 10 := by omega
    have hos : o ≤ s := by omega
    have i1 : nI k * nI 81 + nI s = nI (k * 81 + s) := by rw [pk_mul, nI_add]
    have i2 : (nI k + 1) * nI 81 + nI s - nI o = nI ((k + 1) * 81 + s - o) := by rw [nI_1, pk_mul, nI_add, pk_sub (by omega)]
    have e1 : F (k * 81 + s) = pM (fun o => w k * o / 10 + pR w n (n - (k + 1)) (s - o)) o := by
      rw [d2 s hs, if_neg (Nat.lt_irrefl s), if_pos rfl]
    have e2 : F ((k + 1) * 81 + s - o) = pR w n (n - (k + 1)) (s - o) := by
      rw [show (k + 1) * 81 + s - o = (k + 1) * 81 + (s - o) by omega]
      exact d1 (k + 1) (s - o) (by omega) (by omega) (by omega)
    have b2 := pR_bd hw (n := n) (n - (k + 1)) (s - o)
    have b3 := wt10 (hw k) ho10
    have b4 : w k * o ≤ 2376 * 10 := Nat.mul_le_mul (hw k) ho10
    have b1 : pM (fun o => w k * o / 10 + pR w n (n - (k + 1)) (s - o)) o ≤ 2376 * 8 := pM_le _ (fun o' ho' => by
      have c1 := wt10 (hw k) (show o' ≤ 10 by omega)
      have c2 := pR_bd hw (n := n) (n - (k + 1)) (s - o')
      show w k * o' / 10 + pR w n (n - (k + 1)) (s - o') ≤ 2376 * 8
      omega)
    rw [wX14_catches_60]
    dsimp only
    rw [hmin]
    refine br_f (nI_nlt (by omega) (by omega)) ?_
    rw [i1, i2]
    refine s_ldI P.1.1.1 t1 rfl (by decide) rfl (by rw [t2]; omega) (by rw [t2]; omega) (s_ldI P.1.1.1 t1 rfl (by decide) rfl (by rw [t2]; omega) (by rw [t2]; omega) ?_)
    rw [t3 _ (by omega), t3 _ (by omega), e1, e2]
    have ev : m_max (nI (pM (fun o => w k * o / 10 + pR w n (n - (k + 1)) (s - o)) o)) (nI (w k) * nI o / 10 + nI (pR w n (n - (k + 1)) (s - o))) = nI (pM (fun o => w k * o / 10 + pR w n (n - (k + 1)) (s - o)) (o + 1)) := by
      rw [pk_mul, show (10 : Int32) = nI 10 from rfl, pk_div (by omega) (by omega) (by omega), nI_add, mI_max _ _ (by omega) (by omega)]
      rfl
    rw [ev]
    refine s_stI P.1.1.1 t1 rfl rfl (by rw [t2]; omega) (by rw [t2]; omega) (fun M1 H1 => ?_)
    rw [nI_1]
    refine ih (o + 1) (uE S 38 r (k * 81 + s) (nI (pM (fun o => w k * o / 10 + pR w n (n - (k + 1)) (s - o)) (o + 1)))) M1 (fun x => if x = k * 81 + s then pM (fun o => w k * o / 10 + pR w n (n - (k + 1)) (s - o)) (o + 1) else F x) ⟨vN_E P.1 H1 (by omega), P.2⟩ ⟨t1, t2, fun x hx => ?_⟩ ⟨fun k' s' h1 h2 h3 => ?_, fun s' h3 => ?_, fun x hx => ?_⟩ (by omega)
    · show (if 38 = 38 ∧ r = r ∧ x = k * 81 + s then nI (pM (fun o => w k * o / 10 + pR w n (n - (k + 1)) (s - o)) (o + 1)) else sE S 38 r x) = nI (if x = k * 81 + s then pM (fun o => w k * o / 10 + pR w n (n - (k + 1)) (s - o)) (o + 1) else F x)
      by_cases z : x = k * 81 + s
      · rw [if_pos ⟨rfl, rfl, z⟩, if_pos z]
      · rw [if_neg (fun q => z q.2.2), if_neg z]
        exact t3 x hx
    · show (if k' * 81 + s' = k * 81 + s then _ else F (k' * 81 + s')) = _
      rw [if_neg (by omega)]
      exact d1 k' s' h1 h2 h3
    · show (if k * 81 + s' = k * 81 + s then _ else F (k * 81 + s')) = _
      by_cases z : s' = s
      · rw [if_pos (by omega), if_neg (by omega), if_pos z]
      · rw [if_neg (by omega), d2 s' h3]
        by_cases q : s' < s
        · rw [if_pos q, if_pos q]
        · rw [if_neg q, if_neg q, if_neg z, if_neg z]
    · show (if x = k * 81 + s then _ else F x) = 0
      rw [if_neg (by omega)]
      exact d3 x hx
theorem J_c51 {w : Nat → Nat} (hw : ∀ t, w t ≤ 2376) {c0 : Int64} {r n : Nat} (hn : n ≤ 8) {k : Nat} (hk : k < n) {κ : Option Nat → mM → Prop} {R27 : Option Nat → Int32 → Option Nat → Int32 → mM → Prop}
    (hR : ∀ S M F, vZJ g c0 N Y0 S0 Y S M → vTb Y S r n F → pT w n k 81 0 F → R27 (some (yA Y 20 0)) (nI 81) (some (yA Y 38 r)) (nI k + (-1)) M) : ∀ (d s : Nat) (S : mS) (M : mM) (F : Nat → Nat), vZJ g c0 N Y0 S0 Y S M → vTb Y S r n F → pT w n k s 0 F → s + d = 81 → wX14_catches_51 κ R27 (d + 1) (some (yA Y 20 0)) (nI 81) (some (yA Y 38 r)) (nI k) (nI (w k)) (nI s) M := by
  intro d
  induction d with
  | zero =>
    intro s S M F P T D hs
    have es : s = 81 := by omega
    rw [es] at D
    rw [wX14_catches_51]
    exact br_t (nI_le (by omega) (by omega)) (hR S M F P T D)
  | succ d ih =>
    intro s S M F P T D hs
    rw [wX14_catches_51]
    refine br_f (nI_ge (by omega) (by omega)) ⟨min 10 s + 1 + 1, J_c60 hw hn hk (by omega) (fun S M F P T D => ?_) (min 10 s + 1) 0 S M F P T D (by omega)⟩
    rw [nI_1]
    refine ih (s + 1) S M F P T ⟨D.1, fun s' h3 => ?_, D.2.2⟩ (by omega)
    rw [D.2.1 s' h3]
    by_cases z : s' < s
    · rw [if_pos z, if_pos (by omega)]
    · rw [if_neg z]
      by_cases q : s' = s
      · rw [if_pos q, if_pos (by omega), q, show n - k = n - (k + 1) + 1 by omega]
        show _ = pM (fun o => w (n - (n - (k + 1) + 1)) * o / 10 + pR w n (n - (k + 1)) (s - o)) (min 10 s + 1)
        rw [show n - (n - (k + 1) + 1) = k by omega]
      · rw [if_neg q, if_neg (by omega)]
        by_cases q2 : s' = s + 1
        · rw [if_pos q2]; rfl
        · rw [if_neg q2]
theorem J_c27 (B : nB N) {c0 : Int64} {r : Nat} {κ : Option Nat → mM → Prop}
    (h : ∀ S M F, vZJ g c0 N Y0 S0 Y S M → vTb Y S r (yn Y 23) F → (∀ k s, k ≤ yn Y 23 → s < 81 → F (k * 81 + s) = pR (pW N) (yn Y 23) (yn Y 23 - k) s) → κ (some (yA Y 38 r)) M) : ∀ (d : Nat) (S : mS) (M : mM) (F : Nat → Nat), vZJ g c0 N Y0 S0 Y S M → vTb Y S r (yn Y 23) F → (∀ k' s', d ≤ k' → k' ≤ yn Y 23 → s' < 81 → F (k' * 81 + s') = pR (pW N) (yn Y 23) (yn Y 23 - k') s') → (∀ x, x < d * 81 → F x = 0) → d ≤ yn Y 23 → wX14_catches_27 κ (d + 1) (some (yA Y 20 0)) (nI 81) (some (yA Y 38 r)) (nI d - 1) M := by
  intro d
  induction d with
  | zero =>
    intro S M F P T D1 D2 hd
    rw [wX14_catches_27]
    exact br_t (by decide) (h S M F P T (fun k s hk hs => D1 k s (by omega) hk hs))
  | succ d ih =>
    intro S M F P T D1 D2 hd
    have H := P.1.1.1
    have V := P.1.1.2.1
    have hb := V.2.1
    have hlt : d < yn Y 23 := by omega
    rw [wX14_catches_27, nI_pred]
    refine br_f (nI_pos (by omega)) (v_G H V hlt (s_rc H V.x0 rfl rfl (D_hw P.1.2.2 H V P.1.1.2.2.1 hlt ?_)))
    rw [pW_e B]
    refine ⟨82, J_c51 (pW_le N) (by omega) hlt (fun S M F P T D => ?_) 81 0 S M F P T ⟨fun k' s' h1 h2 h3 => D1 k' s' (by omega) h2 h3, fun s' h3 => ?_, fun x hx => D2 x (by omega)⟩ (by omega)⟩
    · rw [nI_m1]
      refine ih S M F P T (fun k' s' h1 h2 h3 => ?_) D.2.2 (by omega)
      by_cases z : k' = d
      · rw [z, D.2.1 s' h3, if_pos h3]
      · exact D.1 k' s' (by omega) h2 h3
    · rw [if_neg (Nat.not_lt_zero s'), D2 _ (by omega)]
      by_cases z : s' = 0
      · rw [if_pos z]; rfl
      · rw [if_neg z]
theorem J_catches {c0 : Int64} (P : vZJ g c0 N Y0 S0 Y S M) {κ : Option Nat → mM → Prop} (h : ∀ Y1 S2 M2 r F, vZJ g c0 N Y0 S0 Y1 S2 M2 → (∀ k, k ≠ 38 → yn Y1 k = yn Y k) → (∀ k i, i < yn Y k → yA Y1 k i = yA Y k i) → vTb Y1 S2 r (yn Y1 23) F → (∀ k s, k ≤ yn Y1 23 → s < 81 → F (k * 81 + s) = pR (pW N) (yn Y1 23) (yn Y1 23 - k) s) → κ (some (yA Y1 38 r)) M2) : wX14_catches κ (some (yA Y 20 0)) M := by
  have H := P.1.1.1
  have V := P.1.1.2.1
  have hb := V.2.1
  refine s_gR6 H V.x0 rfl rfl rfl (s_rcL H rfl (V.l24 (by omega)) (v_szG H V ?_))
  rw [nI_1, show (81 : Int32) = nI 81 from rfl, pk_mul]
  refine f_row P.1 (by omega) (by omega) (fun Y1 S1 M1 r P1 a hr hC hE => ?_)
  have V1 := P1.1.2.1
  have Z1 : vZJ g c0 N Y0 S0 Y1 S1 M1 := ⟨P1, (congrFun (a.2.2.2 20 0 (by omega)).2.1 12).trans P.2⟩
  have n23 := a.2.2.1 23 (by omega)
  rw [← a.1 20 0 V.x0]
  refine s_gR6 P1.1.1 V1.x0 rfl rfl rfl (s_rcL P1.1.1 rfl (V1.l24 (by omega)) (v_szG P1.1.1 V1 ?_))
  refine ⟨yn Y1 23 + 1, J_c27 (nB_of P1.1 P1.2.2) (fun S2 M2 F P2 T D => h Y1 S2 M2 r F P2 a.2.2.1 a.1 T D) (yn Y1 23) S1 M1 (fun _ => 0) Z1 ⟨hr, ?_, fun x _ => by rw [hE]; rfl⟩ (fun k' s' h1 h2 h3 => ?_) (fun _ _ => rfl) (Nat.le_refl _)⟩
  · rw [hC, n23]
  · rw [show yn Y1 23 - k' = 0 by omega]
    rfl
theorem J_pn55 {c0 : Int64} {w F : Nat → Nat} (ew : w = pW N) (P : vZJ g c0 N Y0 S0 Y S M) {r : Nat} (T : vTb Y S r (yn Y 23) F) (D : ∀ k s, k ≤ yn Y 23 → s < 81 → F (k * 81 + s) = pR w (yn Y 23) (yn Y 23 - k) s) {gt : Nat} (hg : gt < yn Y 23) {κ : Int32 → mM → Prop} : ∀ (d k lf : Nat) (rs : Int32), k + d = gt → lf < 81 → rs.toInt ≤ ((pR w (yn Y 23) (yn Y 23 - k) lf : Nat) : Int) → -(2376 * (k : Int)) ≤ rs.toInt → rs.toInt ≤ 2000 → κ (nI (pGt w (yn Y 23) d k lf rs)) M → wX14_planNow_55 κ (d + 1) (some (yA Y 20 0)) (nI gt) (nI 81) (some (yA Y 38 r)) (nI lf) rs (nI k) M := by
  have H := P.1.1.1
  have V := P.1.1.2.1
  have hb := V.2.1
  have B := nB_of P.1.1 P.1.2.2
  have hw : ∀ t, w t ≤ 2376 := by rw [ew]; exact pW_le N
  intro d
  induction d with
  | zero =>
    intro k lf rs hk hlf h1 h2 h3 h
    have ek : k = gt := by omega
    rw [wX14_planNow_55]
    refine v_hdG H V (by omega) (fun z => absurd z (by omega)) (fun hlt => s_rc H V.x0 rfl rfl (D_hw P.1.2.2 H V P.1.1.2.2.1 hlt ?_))
    rw [pW_e B, ← ew]
    exact D_pn88 hw H (by omega) T D hlt hlf (pO_ok hw (by omega) hlt h1) (fun _ => h) (fun z => absurd (by rw [ek]) z)
  | succ d ih =>
    intro k lf rs hk hlf h1 h2 h3 h
    rw [wX14_planNow_55]
    refine v_hdG H V (by omega) (fun z => absurd z (by omega)) (fun hlt => s_rc H V.x0 rfl rfl (D_hw P.1.2.2 H V P.1.1.2.2.1 hlt ?_))
    rw [pW_e B, ← ew]
    have hl := pO_le (w := w) (n := yn Y 23) (k := k) (lf := lf) (rs := rs)
    refine D_pn88 hw H (by omega) T D hlt hlf (pO_ok hw (by omega) hlt h1) (fun z => absurd ((nI_eq (by omega) (by omega)).mp z) (by omega)) (fun _ => ?_)
    obtain ⟨n1, n2, n3⟩ := pO_next hw (by omega) hlt h1 h2 h3
    have b4 : w k * pO w (yn Y 23) k lf rs ≤ 2376 * 10 := Nat.mul_le_mul (hw k) (show pO w (yn Y 23) k lf rs ≤ 10 by omega)
    rw [pk_sub (by omega), pk_mul, show (10 : Int32) = nI 10 from rfl, pk_div (by omega) (by omega) (by omega), nI_1]
    exact ih (k + 1) (lf - pO w (yn Y 23) k lf rs) _ (by omega) (by omega) n1 n2 n3 h
theorem J_planNow {c0 : Int64} (P : vZJ g c0 N Y0 S0 Y S M) {pr gt : Int32} (hp : ¬ pr < 0 ∧ ¬ 2000 < pr) (hg : gt = -1 ∨ (¬ gt < 0 ∧ gt < nI (nn N 23))) {κ : Int32 → mM → Prop} (h : ∀ Y' S' M', vZJ g c0 N Y0 S0 Y' S' M' → (∀ k, k ≠ 32 → k ≠ 38 → yn Y' k = yn Y k) → (∀ k i, i < yn Y k → yA Y' k i = yA Y k i) → κ (vPlan N pr gt) M') : wX14_planNow κ (some (yA Y 20 0)) pr gt M := by
  have V := P.1.1.2.1
  have hb := V.2.1
  obtain ⟨p, hp2, ep⟩ := nI_rg (n := 2000) (by omega) hp.1 (show ¬ nI 2000 < pr from hp.2)
  subst ep
  have tp : tN (nI p) = p := tN_nI (by omega)
  unfold vPlan at h
  rw [tp] at h
  refine s_rc P.1.1.1 V.x0 rfl rfl (J_catches P (fun Y1 S2 M2 r F P2 nY aY T D => ?_))
  have e23 : nn N 23 = yn Y1 23 := P2.1.2.2.1.1.symm
  have hb1 := P2.1.1.2.1.2.1
  rw [e23] at h hg
  have hw := pW_le N
  have h' := h Y1 S2 M2 P2 (fun k _ z => nY k z) aY
  rw [← aY 20 0 V.x0]
  have eF : ∀ s, s < 81 → F s = pR (pW N) (yn Y1 23) (yn Y1 23) s := fun s hs => by
    have := D 0 s (Nat.zero_le _) hs
    rw [Nat.zero_mul, Nat.zero_add, Nat.sub_zero] at this
    exact this
  have bF : ∀ s, pR (pW N) (yn Y1 23) (yn Y1 23) s ≤ 2376 * 8 := fun s => Nat.le_trans (pR_bd hw _ s) (by omega)
  have h33 : ∀ j, pS (pW N) (yn Y1 23) p = j → j ≤ 81 → wX14_planNow_33 κ (some (yA Y1 20 0)) (nI p) gt (nI 81) (some (yA Y1 38 r)) (nI j) M2 := by
    intro j ej hj
    rw [ej] at h'
    refine br_c (fun z => ?_) (fun z => br_c (fun q => ?_) (fun q => ?_))
    · have e : j = 81 := (nI_eq (by omega) (by omega)).mp z
      rw [if_pos e] at h'
      exact h'
    · have e : ¬ j = 81 := fun w => z (by rw [w])
      rw [if_neg e, if_pos q] at h'
      exact h'
    · have e : ¬ j = 81 := fun w => z (by rw [w])
      rw [if_neg e, if_neg q] at h'
      obtain ⟨t, ht, et⟩ := nI_of (hg.resolve_left q).1
      have htn : t < yn Y1 23 := (nI_ltI (a := t) (b := yn Y1 23) (by omega) (by omega)).mp (by rw [← et]; exact (hg.resolve_left q).2)
      rw [et, tN_nI (by omega)] at h'
      rw [et]
      refine ⟨t + 1, J_pn55 (w := pW N) rfl P2 T D htn t 0 j (nI p) (by omega) (by omega) ?_ (by rw [nI_toInt (by omega)]; omega) (by rw [nI_toInt (by omega)]; omega) h'⟩
      have hj : j < 81 := by omega
      have pp : (fun s => decide (p ≤ pR (pW N) (yn Y1 23) (yn Y1 23) s)) j = true := by
        have := pFi_le (P := fun s => decide (p ≤ pR (pW N) (yn Y1 23) (yn Y1 23) s)) 81 0
        have key : ∀ d o, pFi (fun s => decide (p ≤ pR (pW N) (yn Y1 23) (yn Y1 23) s)) d o < o + d → (fun s => decide (p ≤ pR (pW N) (yn Y1 23) (yn Y1 23) s)) (pFi (fun s => decide (p ≤ pR (pW N) (yn Y1 23) (yn Y1 23) s)) d o) = true := by
          intro d
          induction d with
          | zero => intro o hh; exact absurd hh (Nat.lt_irrefl _)
          | succ d ih =>
            intro o hh
            unfold pFi at hh ⊢
            by_cases z : decide (p ≤ pR (pW N) (yn Y1 23) (yn Y1 23) o) = true
            · rw [if_pos z]; exact z
            · rw [if_neg z] at hh ⊢
              exact ih (o + 1) (by omega)
        have k2 := key 81 0
        unfold pS at ej
        rw [ej] at k2
        exact k2 (by omega)
      rw [Nat.sub_zero, nI_toInt (by omega)]
      exact Int.ofNat_le.mpr (of_decide_eq_true pp)
  have hl : ∀ (d j : Nat), j + d = 81 → pS (pW N) (yn Y1 23) p = pFi (fun s => decide (p ≤ pR (pW N) (yn Y1 23) (yn Y1 23) s)) d j → wX14_planNow_12 κ (d + 1) (some (yA Y1 20 0)) (nI p) gt (nI 81) (some (yA Y1 38 r)) (nI j) M2 := by
    intro d
    induction d with
    | zero =>
      intro j hj e
      rw [wX14_planNow_12]
      exact br_t (nI_le (by omega) (by omega)) (h33 j e (by omega))
    | succ d ih =>
      intro j hj e
      obtain ⟨t1, t2, t3⟩ := T
      have b := bF j
      rw [wX14_planNow_12]
      refine br_f (nI_ge (by omega) (by omega)) (s_ldI P2.1.1.1 t1 rfl (by decide) rfl (by rw [t2]; omega) (by rw [t2]; omega) ?_)
      rw [t3 _ (by omega), eF j (by omega)]
      have hle : nI p ≤ nI (pR (pW N) (yn Y1 23) (yn Y1 23) j) ↔ p ≤ pR (pW N) (yn Y1 23) (yn Y1 23) j := by
        constructor
        · intro z
          exact Nat.not_lt.mp (fun w => absurd (nI_lt w (by omega)) (Int32.not_lt.mpr z))
        · intro z
          exact nI_le z (by omega)
      refine br_c (fun z => h33 j ?_ (by omega)) (fun z => ?_)
      · rw [e]
        exact if_pos (decide_eq_true (hle.mp z))
      · rw [nI_1]
        refine ih (j + 1) (by omega) ?_
        rw [e]
        exact if_neg (fun w => z (hle.mpr (of_decide_eq_true w)))
  exact ⟨82, hl 81 0 (by omega) rfl⟩
theorem J_is202 {c0 : Int64} (B : nB N) (I : NI N) {r : Nat} (P : vZJ g c0 N Y0 S0 Y S M) (hr : r < yn Y 38) (hC : sC S 38 r = 12) (hE : ∀ v, v < 12 → sE S 38 r v = nI (tS N v (nn N 23))) {κ : Int32 → mM → Prop} (h : κ 1 M) : ∀ (d j : Nat), j + d = yn Y 28 → wX14_isSoundNow_202 κ (d + 1) (some (yA Y 20 0)) (some (yA Y 38 r)) (nI 30) (nI j) M := by
  have H := P.1.1.1
  have V := P.1.1.2.1
  have R := P.1.2.2
  have hb := V.2.1
  have c28 := R.1.2.1
  intro d
  induction d with
  | zero =>
    intro j hj
    rw [wX14_isSoundNow_202]
    refine v_hdS H V (by omega) (fun _ => br_t rfl ?_) (fun hlt => absurd hlt (by omega))
    refine s_gR6 H V.x0 rfl rfl rfl (s_rcL H rfl (V.l24 (by omega)) (v_szH H V (br_f ?_ h)))
    obtain ⟨hh, h1, h2, -⟩ := B.2.2.2.2.2.2.2
    rw [R.2.2.2.2]
    exact nI_nlt (a := 120) (b := (nh N).length) (by omega) (by omega)
  | succ d ih =>
    intro j hj
    have i279 : wX14_isSoundNow_279 κ (wX14_isSoundNow_202 κ (d + 1)) (some (yA Y 20 0)) (some (yA Y 38 r)) (nI 30) (nI j) M := by
      show wX14_isSoundNow_202 κ (d + 1) (some (yA Y 20 0)) (some (yA Y 38 r)) (nI 30) (nI j + 1) M
      rw [nI_1]
      exact ih (j + 1) (by omega)
    rw [wX14_isSoundNow_202]
    refine v_hdS H V (by omega) (fun z => absurd z (by omega)) (fun hlt => ?_)
    have hs' : j < nn N 28 := by omega
    have I3 := I.2.2.1 j hs'
    obtain ⟨pa, hpa, epa⟩ := I.pat hs'
    have i243 : ∀ s0 s1 : Int32, s1 = s0 → wX14_isSoundNow_243 κ (wX14_isSoundNow_202 κ (d + 1)) (some (yA Y 20 0)) (some (yA Y 38 r)) (nI 30) (nI j) (some (yA Y 28 j)) s0 s1 M := by
      intro s0 s1 e
      refine br_t e (s_gI H hlt rfl rfl rfl ?_)
      rw [R.2.1 28 j 2 rfl hlt, epa]
      refine v_is (fun _ _ => br_f (by decide) ?_) (fun w => absurd ⟨nI_pos (by omega), nI_nlt (a := 9) (b := pa) (by omega) (by omega)⟩ w)
      refine s_gI H hlt rfl rfl rfl (br_c (fun z => ?_) (fun _ => i279))
      rw [R.2.1 28 j 3 rfl hlt] at z
      refine s_rc H V.x0 rfl rfl (D_head R H V ?_)
      rw [nHd_0 (I3.2.1 z).2 _ (Nat.le_refl _)]
      exact br_t rfl i279
    refine s_ldI H hr rfl (by decide) rfl (by rw [hC]; omega) (by rw [hC]; omega) ?_
    rw [hE j (by omega), tS_e B hs']
    refine s_gI H hlt rfl rfl rfl ?_
    rw [R.2.1 28 j 3 rfl hlt]
    exact br_c (fun z => i243 _ _ (by rw [if_pos z]; rfl)) (fun z => i243 _ _ (by rw [if_neg z]; rfl))
theorem J_is173 {c0 : Int64} (B : nB N) (I : NI N) {r : Nat} (P : vZJ g c0 N Y0 S0 Y S M) (hr : r < yn Y 38) (hC : sC S 38 r = 12) (hE : ∀ v, v < 12 → sE S 38 r v = nI (tS N v (nn N 23))) {q : Nat → Nat} (hq : ∀ l, l < 6 → nv N 22 l 2 = nI (q l)) (e6 : qP q 6 = 30) {κ : Int32 → mM → Prop} (h : κ 1 M) : ∀ (d j : Nat), j + d = 6 → wX14_isSoundNow_173 κ (d + 1) (some (yA Y 20 0)) (some (yA Y 38 r)) (nI (qP q j)) (some (yA Y 21 0)) (nI 6) (nI j) M := by
  have H := P.1.1.1
  have V := P.1.1.2.1
  have R := P.1.2.2
  intro d
  induction d with
  | zero =>
    intro j hj
    rw [wX14_isSoundNow_173, show j = 6 by omega, e6]
    exact br_t (nI_le (by omega) (by omega)) ⟨yn Y 28 + 1, J_is202 B I P hr hC hE h (yn Y 28) 0 (by omega)⟩
  | succ d ih =>
    intro j hj
    have hl6 : j < 6 := by omega
    rw [wX14_isSoundNow_173]
    refine br_f (nI_ge hl6 (by omega)) (s_ldR H V.l21 rfl (by decide) rfl (by rw [V.2.2.2.2.1]; exact hl6) (by rw [V.2.2.2.2.1]; omega) ?_)
    rw [V.2.2.2.2.2.1 j hl6]
    refine s_gI H (V.l22 hl6) rfl rfl rfl ?_
    rw [R.2.1 22 j 2 rfl (V.l22 hl6), hq j hl6, nI_add, nI_1]
    exact ih (j + 1) (by omega)
theorem J_is38 {c0 : Int64} (B : nB N) (I : NI N) {i c t r : Nat} (hr : r < yn Y 38) (ht : t < yn Y 23) {κ : Int32 → mM → Prop} {R13 : Option Nat → Option Nat → Option Nat → mM → Prop} (hR : ∀ S M, vZJ g c0 N Y0 S0 Y S M → sC S 38 r = 12 → vIt Y S i 0 c → (∀ v, v < 12 → sE S 38 r v = nI (tS N v (t + 1))) → R13 (some (yA Y 20 0)) (some (yA Y 38 r)) (some (yA Y 32 i)) M) : ∀ (d j : Nat) (a : Int32) (S : mS) (M : mM), vZJ g c0 N Y0 S0 Y S M → sC S 38 r = 12 → vIt Y S i 0 c → (∀ v, v < 12 → sE S 38 r v = nI (tS N v t + tC (nq N t) v j)) → (¬ a = 0 → ∃ k u, k < j ∧ (nq N t)[k]? = some u ∧ nv N 28 u 1 = 0) → j + d = (sL S 25 t).length → wX14_isSoundNow_38 κ R13 (d + 1) (some (yA Y 20 0)) (some (yA Y 38 r)) (some (yA Y 32 i)) (some (yA Y 23 t)) a (nI j) M := by
  intro d
  induction d with
  | zero =>
    intro j a S M P hC IT hE hA hj
    have H := P.1.1.1
    have V := P.1.1.2.1
    have eq : sL S 25 t = nq N t := P.1.2.2.2.2.1 t ht
    have hl := H.len (k := 25) (i := t) rfl (V.l25 ht)
    rw [wX14_isSoundNow_38]
    refine s_gR7 H ht rfl rfl rfl (s_rcL H rfl (V.l25 ht) (s_size H rfl (V.l25 ht) (br_t (nI_le (by omega) (by omega)) (hR S M P hC IT (fun v hv => ?_)))))
    rw [hE v hv, show j = (nq N t).length by rw [← eq]; omega]
    rfl
  | succ d ih =>
    intro j a S M P hC IT hE hA hj
    have H := P.1.1.1
    have V := P.1.1.2.1
    have c23 := P.1.2.2.1.1
    have eq : sL S 25 t = nq N t := P.1.2.2.2.2.1 t ht
    have hl := H.len (k := 25) (i := t) rfl (V.l25 ht)
    have hb := V.2.1
    have hlt : j < (sL S 25 t).length := by omega
    have hx : (sL S 25 t)[j]? = some ((sL S 25 t)[j]) := List.getElem?_eq_getElem hlt
    generalize (sL S 25 t)[j] = v at hx
    have hv := ((P.1.1.2.2.2.1.1 t ht).2 v (List.mem_of_getElem? hx)).1
    have hxN : (nq N t)[j]? = some v := by rw [← eq]; exact hx
    have ht' : t < nn N 23 := by omega
    have BQ := (B.2.2.2.2.2.1 t ht').2 v (List.mem_of_getElem? hxN)
    rw [wX14_isSoundNow_38]
    refine s_gR7 H ht rfl rfl rfl (s_rcL H rfl (V.l25 ht) (s_size H rfl (V.l25 ht) (br_f (nI_ge hlt (by omega)) ?_)))
    refine s_gR7 H ht rfl rfl rfl (s_rcL H rfl (V.l25 ht) (s_get H rfl (V.l25 ht) hx (v_int H V (by omega) ?_)))
    refine s_ldI H hr rfl (by decide) rfl (by rw [hC]; omega) (by rw [hC]; omega) (s_stI H hr rfl rfl (by rw [hC]; omega) (by rw [hC]; omega) (fun M1 H1 => ?_))
    have P1 : vZJ g c0 N Y0 S0 Y (uE S 38 r v (sE S 38 r v + 1)) M1 := ⟨vN_E P.1 H1 (by omega), P.2⟩
    have hE1 : ∀ v', v' < 12 → sE (uE S 38 r v (sE S 38 r v + 1)) 38 r v' = nI (tS N v' t + tC (nq N t) v' (j + 1)) := by
      intro v' hv'
      show (if (38 : Nat) = 38 ∧ r = r ∧ v' = v then sE S 38 r v + 1 else sE S 38 r v') = nI (tS N v' t + (tC (nq N t) v' j + (if (nq N t)[j]? = some v' then 1 else 0)))
      by_cases z : v' = v
      · rw [if_pos ⟨rfl, rfl, z⟩, z, if_pos hxN, hE v (by omega), nI_1, Nat.add_assoc]
      · rw [if_neg (fun w => z w.2.2), if_neg (show ¬ (nq N t)[j]? = some v' from fun w => z (Option.some.inj (hxN.symm.trans w)).symm), Nat.add_zero]
        exact hE v' hv'
    generalize sE S 38 r v + 1 = e at H1 P1 hE1 ⊢
    have V1 := P1.1.1.2.1
    have R1 := P1.1.2.2
    have ih' : ∀ a : Int32, (¬ a = 0 → ∃ k u, k < j + 1 ∧ (nq N t)[k]? = some u ∧ nv N 28 u 1 = 0) → wX14_isSoundNow_38 κ R13 (d + 1) (some (yA Y 20 0)) (some (yA Y 38 r)) (some (yA Y 32 i)) (some (yA Y 23 t)) a (nI j + 1) M1 := fun a ha => by
      rw [nI_1]
      exact ih (j + 1) a _ M1 P1 hC IT hE1 ha (by show _ = (sL S 25 t).length; omega)
    have i122 : wX14_isSoundNow_122 κ R13 (wX14_isSoundNow_38 κ R13 (d + 1)) (some (yA Y 20 0)) (some (yA Y 38 r)) (some (yA Y 32 i)) (some (yA Y 23 t)) a (nI j) (nI v) M1 := by
      refine v_S H1 V1 hv (s_gI H1 hv rfl rfl rfl (br_c (fun z => ih' _ (fun _ => ⟨j, v, by omega, hxN, (R1.2.1 28 v 1 rfl hv).symm.trans z⟩)) (fun _ => ih' _ (fun w => ?_))))
      obtain ⟨k, u, h1, h2, h3⟩ := hA (fun q => w (by rw [q]; rfl))
      exact ⟨k, u, by omega, h2, h3⟩
    refine v_S H1 V1 hv (s_gI H1 hv rfl rfl rfl (s_rc H1 ht rfl rfl ?_))
    rw [R1.2.1 28 v 0 rfl hv]
    refine D_has R1 H1 ht (fun _ => br_f (by decide) ?_) (fun w => absurd (((I.2.2.1 v BQ.1).2.2.2.2 BQ.2.1).2 t ht' BQ.2.2) w)
    refine br_c (fun _ => i122) (fun za => v_S H1 V1 hv (s_gI H1 hv rfl rfl rfl (br_c (fun _ => i122) (fun zb => ?_))))
    rw [R1.2.1 28 v 1 rfl hv] at zb
    obtain ⟨k, u, h1, h2, h3⟩ := hA za
    exact absurd h3 (I.2.2.2.1 t ht' k j u v (by omega) h2 hxN zb)
theorem J_is13 {c0 : Int64} (B : nB N) (I : NI N) {i r : Nat} (hr : r < yn Y 38) {κ : Int32 → mM → Prop} (h : ∀ S M, vZJ g c0 N Y0 S0 Y S M → κ 1 M) : ∀ (d c : Nat) (S : mS) (M : mM), vZJ g c0 N Y0 S0 Y S M → sC S 38 r = 12 → vIt Y S i 0 c → (∀ v, v < 12 → sE S 38 r v = nI (tS N v c)) → c + d = yn Y 23 → wX14_isSoundNow_13 κ (d + 1) (some (yA Y 20 0)) (some (yA Y 38 r)) (some (yA Y 32 i)) M := by
  intro d
  induction d with
  | zero =>
    intro c S M P hC IT hE hc
    have H := P.1.1.1
    have V := P.1.1.2.1
    have c23 := P.1.2.2.1.1
    have hl : (sL S 24 0).length = yn Y 23 := by rw [V.2.2.1.1, List.length_range]
    obtain ⟨q, hq, hs⟩ := I.2.1
    have e6 : qP q 6 = 30 := by
      show 0 + q 0 + q 1 + q 2 + q 3 + q 4 + q 5 = 30
      omega
    rw [wX14_isSoundNow_13]
    refine s_rc P.1.1.1 IT.1 rfl rfl (v_hasNext P.1.1.1 (V.l24 (by omega)) IT (by omega) (fun z => absurd z (by omega)) (fun _ => br_t rfl ?_))
    refine s_gR6 H V.x0 rfl rfl rfl (s_lenR H V.l21 (by decide) rfl ?_)
    rw [V.2.2.2.2.1]
    exact ⟨7, J_is173 B I P hr hC (fun v hv => by rw [hE v hv, show c = nn N 23 by omega]) hq e6 (h S M P) 6 0 (by omega)⟩
  | succ d ih =>
    intro c S M P hC IT hE hc
    have V := P.1.1.2.1
    have hl : (sL S 24 0).length = yn Y 23 := by rw [V.2.2.1.1, List.length_range]
    have hx : (sL S 24 0)[c]? = some c := by rw [V.2.2.1.1, List.getElem?_range (by omega)]
    have hlt : c < yn Y 23 := by omega
    rw [wX14_isSoundNow_13]
    refine s_rc P.1.1.1 IT.1 rfl rfl (v_hasNext P.1.1.1 (V.l24 (by omega)) IT (by omega) (fun _ => br_f (by decide) ?_) (fun z => absurd z (by omega)))
    refine v_next P.1.1.1 (V.l24 (by omega)) IT hx (fun M1 H1 => s_cast H1 hlt rfl rfl ?_)
    exact ⟨(sL S 25 c).length + 1, J_is38 B I (c := c + 1) hr hlt (fun S M P hC IT hE => ih (c + 1) S M P hC IT hE (by omega)) (sL S 25 c).length 0 0 _ M1 (P.nx H1) hC IT.nx (fun v hv => hE v hv) (fun w => absurd rfl w) (by show _ = (sL S 25 c).length; omega)⟩
theorem J_isSoundNow {c0 : Int64} (B : nB N) (I : NI N) (P : vZJ g c0 N Y0 S0 Y S M) {κ : Int32 → mM → Prop} (h : ∀ Y' S' M', vZJ g c0 N Y0 S0 Y' S' M' → vU Y Y' → κ 1 M') : wX14_isSoundNow κ (some (yA Y 20 0)) M := by
  refine f_row (n := 12) P.1 (by omega) (by omega) (fun Y1 S1 M1 r PN a1 hr hC hE => ?_)
  have P1 : vZJ g c0 N Y0 S0 Y1 S1 M1 := ⟨PN, (congrFun (a1.2.2.2 20 0 (by omega)).2.1 12).trans P.2⟩
  have V1 := P1.1.1.2.1
  rw [← a1.1 20 0 P.1.1.2.1.x0]
  refine s_gR6 P1.1.1.1 V1.x0 rfl rfl rfl (s_rcL P1.1.1.1 rfl (V1.l24 (by omega)) (J_iter (by omega) P1 (fun Y2 S2 M2 i P2 a2 IT => ?_)))
  rw [← a2.1 20 0 V1.x0, ← a2.1 38 r hr]
  have hr2 : r < yn Y2 38 := by rw [a2.2.2.1 38 (by omega)]; exact hr
  have hC2 : sC S2 38 r = 12 := ((a2.2.2.2 38 r (by omega)).2.2.2.2.2.2.1).trans hC
  have hE2 : sE S2 38 r = fun _ => 0 := ((a2.2.2.2 38 r (by omega)).2.2.2.2.2.2.2.1).trans hE
  refine ⟨yn Y2 23 + 1, J_is13 B I hr2 (fun S M P => h Y2 S M P ⟨fun k z1 z2 => (a2.2.2.1 k z1).trans (a1.2.2.1 k z2), fun k i hi => (a2.1 k i ?_).trans (a1.1 k i hi)⟩) (yn Y2 23) 0 S2 M2 P2 hC2 IT (fun v _ => by rw [hE2]; rfl) (by omega)⟩
  by_cases z : k = 38
  · subst z
    rw [a1.2.1]
    omega
  · rw [a1.2.2.1 k z]
    exact hi
theorem J_d188 {k9 n9 : Nat} (hk : k9 ≤ 20) (hn : n9 ≤ 821) {i : Nat} (hi : i < yn Y 29) {a0 : Int64} {κ : Int64 → mM → Prop} {R : Nat → Nat → Option Nat → Int32 → mM → Prop} (hR : ∀ S M, vZJ g (dl (fPt N i) 3 a0) N Y0 S0 Y S M → R k9 n9 (some (yA Y 20 0)) (nI i + 1) M) : ∀ (d j : Nat) (S : mS) (M : mM), vZJ g (dl (fPt N i) j a0) N Y0 S0 Y S M → j + d = 3 → wX14_digest_188 κ R (d + 1) k9 n9 (some (yA Y 20 0)) (nI i) (nI (j + 3)) M := by
  intro d
  induction d with
  | zero =>
    intro j S M P hj
    have H := P.1.1.1
    have V := P.1.1.2.1
    rw [wX14_digest_188]
    exact ⟨⟨hk, hn⟩, br_t (show (6 : Int32) ≤ nI (j + 3) from nI_le (a := 6) (by omega) (by omega)) (hR S M (by rw [show j = 3 by omega] at P; exact P))⟩
  | succ d ih =>
    intro j S M P hj
    have H := P.1.1.1
    have V := P.1.1.2.1
    have VV := P.1.1.2.2.1
    rw [wX14_digest_188]
    refine ⟨⟨hk, hn⟩, br_f (show ¬ (6 : Int32) ≤ nI (j + 3) from nI_ge (b := 6) (by omega) (by omega)) (s_rc H V.x0 rfl rfl (D_ofPartNow P.1.2.2 H V VV hi (J_add P (fun S1 M1 P1 => ?_))))⟩
    rw [nI_1]
    exact ih (j + 1) S1 M1 P1 (by omega)
theorem J_d144 (B : nB N) (I : NI N) {k9 n9 : Nat} (hk : k9 ≤ 20) (hn : n9 ≤ 821) {i : Nat} (hi : i < yn Y 28) {a0 : Int64} {κ : Int64 → mM → Prop} {R : Nat → Nat → Option Nat → Int32 → mM → Prop} (hR : ∀ S M, vZJ g (dl (fSp N i) 9 a0) N Y0 S0 Y S M → R k9 n9 (some (yA Y 20 0)) (nI i + 1) M) : ∀ (d j : Nat) (S : mS) (M : mM), vZJ g (dl (fSp N i) j a0) N Y0 S0 Y S M → j + d = 9 → wX14_digest_144 κ R (d + 1) k9 n9 (some (yA Y 20 0)) (nI i) (nI j) M := by
  intro d
  induction d with
  | zero =>
    intro j S M P hj
    have H := P.1.1.1
    have V := P.1.1.2.1
    rw [wX14_digest_144]
    exact ⟨⟨hk, hn⟩, br_t (show (9 : Int32) ≤ nI j from nI_le (a := 9) (by omega) (by omega)) (hR S M (by rw [show j = 9 by omega] at P; exact P))⟩
  | succ d ih =>
    intro j S M P hj
    have H := P.1.1.1
    have V := P.1.1.2.1
    have VV := P.1.1.2.2.1
    rw [wX14_digest_144]
    refine ⟨⟨hk, hn⟩, br_f (show ¬ (9 : Int32) ≤ nI j from nI_ge (b := 9) (by omega) (by omega)) (s_rc H V.x0 rfl rfl (D_ofSleeperNow P.1.2.2 H V B I hi (J_add P (fun S1 M1 P1 => ?_))))⟩
    rw [nI_1]
    exact ih (j + 1) S1 M1 P1 (by omega)
theorem J_d90 (B : nB N) (I : NI N) {k9 n9 : Nat} (hk : k9 ≤ 20) (hn : n9 ≤ 821) {i : Nat} (hi : i < yn Y 23) {a0 : Int64} {κ : Int64 → mM → Prop} {R : Nat → Nat → Option Nat → Int32 → mM → Prop} (hR : ∀ S M, vZJ g (oGt N i a0) N Y0 S0 Y S M → R k9 n9 (some (yA Y 20 0)) (nI i + 1) M) : ∀ (d j : Nat) (S : mS) (M : mM), vZJ g (dl (fGt N i) j a0) N Y0 S0 Y S M → j + d = 8 → wX14_digest_90 κ R (d + 1) k9 n9 (some (yA Y 20 0)) (nI i) (nI (j + 2)) M := by
  intro d
  induction d with
  | zero =>
    intro j S M P hj
    have H := P.1.1.1
    have V := P.1.1.2.1
    rw [wX14_digest_90]
    rw [show j = 8 by omega] at P
    exact ⟨⟨hk, hn⟩, br_t (show (10 : Int32) ≤ nI (j + 2) from nI_le (a := 10) (by omega) (by omega)) (s_rc H V.x0 rfl rfl (D_wouldPayNow P.1.2.2 H V P.1.1.2.2.1 B I hi (J_add P (fun S1 M1 P1 => hR S1 M1 P1))))⟩
  | succ d ih =>
    intro j S M P hj
    have H := P.1.1.1
    have V := P.1.1.2.1
    have VV := P.1.1.2.2.1
    rw [wX14_digest_90]
    refine ⟨⟨hk, hn⟩, br_f (show ¬ (10 : Int32) ≤ nI (j + 2) from nI_ge (b := 10) (by omega) (by omega)) (s_rc H V.x0 rfl rfl (D_ofGateNow P.1.2.2 H V VV hi (J_add P (fun S1 M1 P1 => ?_))))⟩
    rw [nI_1]
    exact ih (j + 1) S1 M1 P1 (by omega)
theorem J_d46 {k9 n9 : Nat} (hk : k9 ≤ 20) (hn : n9 ≤ 821) {i : Nat} (hi : i < 6) {a0 : Int64} {κ : Int64 → mM → Prop} {R : Nat → Nat → Option Nat → Int32 → mM → Prop} (hR : ∀ S M, vZJ g (dl (fLd N i) 9 a0) N Y0 S0 Y S M → R k9 n9 (some (yA Y 20 0)) (nI i + 1) M) : ∀ (d j : Nat) (S : mS) (M : mM), vZJ g (dl (fLd N i) j a0) N Y0 S0 Y S M → j + d = 9 → wX14_digest_46 κ R (d + 1) k9 n9 (some (yA Y 20 0)) (nI i) (nI j) M := by
  intro d
  induction d with
  | zero =>
    intro j S M P hj
    have H := P.1.1.1
    have V := P.1.1.2.1
    rw [wX14_digest_46]
    exact ⟨⟨hk, hn⟩, br_t (show (9 : Int32) ≤ nI j from nI_le (a := 9) (by omega) (by omega)) (hR S M (by rw [show j = 9 by omega] at P; exact P))⟩
  | succ d ih =>
    intro j S M P hj
    have H := P.1.1.1
    have V := P.1.1.2.1
    have VV := P.1.1.2.2.1
    rw [wX14_digest_46]
    refine ⟨⟨hk, hn⟩, br_f (show ¬ (9 : Int32) ≤ nI j from nI_ge (b := 9) (by omega) (by omega)) (s_rc H V.x0 rfl rfl (D_ofLandNow P.1.2.2 H V VV hi (J_add P (fun S1 M1 P1 => ?_))))⟩
    rw [nI_1]
    exact ih (j + 1) S1 M1 P1 (by omega)
theorem J_d267 {k9 n9 : Nat} {c0 n : Int64} (P : vZJ g c0 N Y0 S0 Y S M) (hk : k9 ≤ 20) (hn : n9 ≤ 821) {κ : Int64 → mM → Prop} (h : ∀ Y' S' M', vN g N Y0 S0 Y' S' M' → κ (c0 * 31 + n) M') : wX14_digest_267 κ k9 n9 (some (yA Y 20 0)) n (some (yA Y 20 0)) M :=
  ⟨⟨hk, hn⟩, J_add P (fun S1 M1 P1 => s_gJ P1.1.1.1 P1.1.1.2.1.x0 rfl rfl rfl ⟨⟨hk, hn⟩, by rw [P1.2]; exact h Y S1 M1 P1.1⟩)⟩
theorem J_d219 (B : nB N) (I : NI N) {k9 n9 : Nat} (hk : k9 + 3 ≤ 20) (hn : n9 + 745 ≤ 821) {a0 : Int64} {κ : Int64 → mM → Prop} (h : ∀ Y' S' M', vN g N Y0 S0 Y' S' M' → κ (e240 N a0) M') : ∀ (d j : Nat) (S : mS) (M : mM), vZJ g (dl (fWy N) j a0) N Y0 S0 Y S M → j + d = 6 → wX14_digest_219 κ (d + 1) k9 n9 (some (yA Y 20 0)) (nI j) M := by
  intro d
  induction d with
  | zero =>
    intro j S M P hj
    rw [wX14_digest_219]
    refine ⟨⟨by omega, by omega⟩, br_t (show (6 : Int32) ≤ nI j from nI_le (a := 6) (by omega) (by omega)) ⟨⟨by omega, by omega⟩, s_rc P.1.1.1 P.1.1.2.1.x0 rfl rfl (J_planNow P (by decide) (Or.inl rfl) (fun Y1 S1 M1 P1 _ a1 => ?_))⟩⟩
    rw [← a1 20 0 P.1.1.2.1.x0]
    refine J_add P1 (fun S2 M2 P2 => ⟨⟨by omega, by omega⟩, s_rc P2.1.1.1 P2.1.1.2.1.x0 rfl rfl (J_isSoundNow B I P2 (fun Y3 S3 M3 P3 a3 => ?_))⟩)
    rw [← a3.2 20 0 P2.1.1.2.1.x0]
    refine br_f (by decide) (J_d267 P3 (by omega) (by omega) (fun Y' S' M' P' => ?_))
    rw [show j = 6 by omega, show (1 : Int64) = Int32.toInt64 1 from by decide]
    exact h Y' S' M' P'
  | succ d ih =>
    intro j S M P hj
    rw [wX14_digest_219]
    refine ⟨⟨by omega, by omega⟩, br_f (show ¬ (6 : Int32) ≤ nI j from nI_ge (b := 6) (by omega) (by omega)) (s_rc P.1.1.1 P.1.1.2.1.x0 rfl rfl (D_wayNow (a := 0) (b := j) P.1.2.2 P.1.1.1 P.1.1.2.1 P.1.1.2.2.1 (by omega) (by omega) (J_add P (fun S1 M1 P1 => ?_))))⟩
    rw [nI_1]
    exact ih (j + 1) S1 M1 P1 (by omega)
theorem J_d175 (B : nB N) (I : NI N) {k9 n9 : Nat} (hk : k9 + 3 ≤ 20) (hn : n9 + 745 ≤ 821) {a0 : Int64} {κ : Int64 → mM → Prop} (h : ∀ Y' S' M', vN g N Y0 S0 Y' S' M' → κ (e191 N a0) M') : ∀ (d j : Nat) (S : mS) (M : mM), vZJ g (dO (oPt N) j a0) N Y0 S0 Y S M → j + d = nn N 29 → wX14_digest_175 κ (d + 1) k9 n9 (some (yA Y 20 0)) (nI j) M := by
  have b1 := B.2.1.1
  have b2 := B.2.1.2.1
  have b3 := B.2.1.2.2
  intro d
  induction d with
  | zero =>
    intro j S M P hj
    have H := P.1.1.1
    have V := P.1.1.2.1
    have c := P.1.2.2.1
    rw [show j = nn N 29 by omega] at P
    unfold e191 at h
    generalize dO (oPt N) (nn N 29) a0 = a1 at h P
    rw [wX14_digest_175, show j = nn N 29 by omega]
    exact ⟨⟨by omega, by omega⟩, s_gR6 H V.x0 rfl rfl rfl (s_rcL H rfl (V.l24 (by omega)) (v_szP H V (br_t (nI_le (by omega) (by omega)) ⟨7, J_d219 B I hk hn h 6 0 S M P (by omega)⟩)))⟩
  | succ d ih =>
    intro j S M P hj
    have H := P.1.1.1
    have V := P.1.1.2.1
    have c := P.1.2.2.1
    rw [wX14_digest_175]
    exact ⟨⟨by omega, by omega⟩, s_gR6 H V.x0 rfl rfl rfl (s_rcL H rfl (V.l24 (by omega)) (v_szP H V (br_f (nI_ge (by omega) (by omega)) ⟨3 + 1, J_d188 (by omega) (by omega) (i := j) (by omega) (fun S M P => by rw [nI_1]; exact ih (j + 1) S M P (by omega)) 3 0 S M P (by omega)⟩)))⟩
theorem J_d131 (B : nB N) (I : NI N) {k9 n9 : Nat} (hk : k9 + 3 ≤ 20) (hn : n9 + 745 ≤ 821) {a0 : Int64} {κ : Int64 → mM → Prop} (h : ∀ Y' S' M', vN g N Y0 S0 Y' S' M' → κ (e141 N a0) M') : ∀ (d j : Nat) (S : mS) (M : mM), vZJ g (dO (oSp N) j a0) N Y0 S0 Y S M → j + d = nn N 28 → wX14_digest_131 κ (d + 1) k9 n9 (some (yA Y 20 0)) (nI j) M := by
  have b1 := B.2.1.1
  have b2 := B.2.1.2.1
  have b3 := B.2.1.2.2
  intro d
  induction d with
  | zero =>
    intro j S M P hj
    have H := P.1.1.1
    have V := P.1.1.2.1
    have c := P.1.2.2.1
    rw [show j = nn N 28 by omega] at P
    unfold e141 at h
    generalize dO (oSp N) (nn N 28) a0 = a1 at h P
    rw [wX14_digest_131, show j = nn N 28 by omega]
    exact ⟨⟨by omega, by omega⟩, s_gR6 H V.x0 rfl rfl rfl (s_rcL H rfl (V.l24 (by omega)) (v_szS H V (br_t (nI_le (by omega) (by omega)) ⟨nn N 29 + 1, J_d175 B I hk hn h (nn N 29) 0 S M P (by omega)⟩)))⟩
  | succ d ih =>
    intro j S M P hj
    have H := P.1.1.1
    have V := P.1.1.2.1
    have c := P.1.2.2.1
    rw [wX14_digest_131]
    exact ⟨⟨by omega, by omega⟩, s_gR6 H V.x0 rfl rfl rfl (s_rcL H rfl (V.l24 (by omega)) (v_szS H V (br_f (nI_ge (by omega) (by omega)) ⟨9 + 1, J_d144 B I (by omega) (by omega) (i := j) (by omega) (fun S M P => by rw [nI_1]; exact ih (j + 1) S M P (by omega)) 9 0 S M P (by omega)⟩)))⟩
theorem J_d77 (B : nB N) (I : NI N) {k9 n9 : Nat} (hk : k9 + 3 ≤ 20) (hn : n9 + 745 ≤ 821) {a0 : Int64} {κ : Int64 → mM → Prop} (h : ∀ Y' S' M', vN g N Y0 S0 Y' S' M' → κ (e78 N a0) M') : ∀ (d j : Nat) (S : mS) (M : mM), vZJ g (dO (oGt N) j a0) N Y0 S0 Y S M → j + d = nn N 23 → wX14_digest_77 κ (d + 1) k9 n9 (some (yA Y 20 0)) (nI j) M := by
  have b1 := B.2.1.1
  have b2 := B.2.1.2.1
  have b3 := B.2.1.2.2
  intro d
  induction d with
  | zero =>
    intro j S M P hj
    have H := P.1.1.1
    have V := P.1.1.2.1
    have c := P.1.2.2.1
    rw [show j = nn N 23 by omega] at P
    unfold e78 at h
    generalize dO (oGt N) (nn N 23) a0 = a1 at h P
    rw [wX14_digest_77, show j = nn N 23 by omega]
    exact ⟨⟨by omega, by omega⟩, s_gR6 H V.x0 rfl rfl rfl (s_rcL H rfl (V.l24 (by omega)) (v_szG H V (br_t (nI_le (by omega) (by omega)) ⟨nn N 28 + 1, J_d131 B I hk hn h (nn N 28) 0 S M P (by omega)⟩)))⟩
  | succ d ih =>
    intro j S M P hj
    have H := P.1.1.1
    have V := P.1.1.2.1
    have c := P.1.2.2.1
    rw [wX14_digest_77]
    exact ⟨⟨by omega, by omega⟩, s_gR6 H V.x0 rfl rfl rfl (s_rcL H rfl (V.l24 (by omega)) (v_szG H V (br_f (nI_ge (by omega) (by omega)) ⟨8 + 1, J_d90 B I (by omega) (by omega) (i := j) (by omega) (fun S M P => by rw [nI_1]; exact ih (j + 1) S M P (by omega)) 8 0 S M P (by omega)⟩)))⟩
theorem J_d38 (B : nB N) (I : NI N) {k9 n9 : Nat} (hk : k9 + 3 ≤ 20) (hn : n9 + 745 ≤ 821) {a0 : Int64} {κ : Int64 → mM → Prop} (h : ∀ Y' S' M', vN g N Y0 S0 Y' S' M' → κ (e33 N a0) M') : ∀ (d j : Nat) (S : mS) (M : mM), vZJ g (dO (oLd N) j a0) N Y0 S0 Y S M → j + d = 6 → wX14_digest_38 κ (d + 1) k9 n9 (some (yA Y 20 0)) (nI j) M := by
  intro d
  induction d with
  | zero =>
    intro j S M P hj
    rw [show j = 6 by omega] at P
    unfold e33 at h
    generalize dO (oLd N) 6 a0 = a1 at h P
    rw [wX14_digest_38]
    exact ⟨⟨by omega, by omega⟩, br_t (show (6 : Int32) ≤ nI j from nI_le (a := 6) (by omega) (by omega)) ⟨nn N 23 + 1, J_d77 B I hk hn h (nn N 23) 0 S M P (by omega)⟩⟩
  | succ d ih =>
    intro j S M P hj
    rw [wX14_digest_38]
    exact ⟨⟨by omega, by omega⟩, br_f (show ¬ (6 : Int32) ≤ nI j from nI_ge (b := 6) (by omega) (by omega)) ⟨9 + 1, J_d46 (by omega) (by omega) (i := j) (by omega) (fun S M P => by rw [nI_1]; exact ih (j + 1) S M P (by omega)) 9 0 S M P (by omega)⟩⟩
theorem J_d14 (B : nB N) (I : NI N) {κ : Int64 → mM → Prop} (h : ∀ Y' S' M', vN g N Y0 S0 Y' S' M' → κ (vDig N) M') : ∀ (d j : Nat) (Y : mY) (S : mS) (M : mM), vZJ g (dl (fNt N) j 6007) N Y0 S0 Y S M → j + d = 17 → wX14_digest_14 κ (d + 1) j (4 * j) (some (yA Y 20 0)) (nI j) M := by
  intro d
  induction d with
  | zero =>
    intro j Y S M P hj
    rw [show j = 17 by omega] at P
    unfold vDig at h
    generalize dl (fNt N) 17 6007 = a1 at h P
    rw [wX14_digest_14]
    exact ⟨⟨by omega, by omega⟩, br_t (show (17 : Int32) ≤ nI j from nI_le (a := 17) (by omega) (by omega)) ⟨7, J_d38 B I (by omega) (by omega) h 6 0 S M P (by omega)⟩⟩
  | succ d ih =>
    intro j Y S M P hj
    rw [wX14_digest_14]
    refine ⟨⟨by omega, by omega⟩, br_f (show ¬ (17 : Int32) ≤ nI j from nI_ge (b := 17) (by omega) (by omega)) ⟨⟨by omega, by omega⟩, s_rc P.1.1.1 P.1.1.2.1.x0 rfl rfl (J_nightNow P (fun Y1 S1 M1 P1 _ a1 => ?_))⟩⟩
    rw [← a1 20 0 P.1.1.2.1.x0]
    refine J_add P1 (fun S2 M2 P2 => ?_)
    rw [nI_1]
    exact ih (j + 1) Y1 S2 M2 P2 (by omega)
theorem D_digest (B : nB N) (I : NI N) (P : vN g N Y0 S0 Y S M) {κ : Int64 → mM → Prop} (h : ∀ Y' S' M', vN g N Y0 S0 Y' S' M' → κ (vDig N) M') : wX14_digest κ (some (yA Y 20 0)) M :=
  f_th P (fun S1 M1 P1 _ _ => s_pJ P1.1.1 P1.1.2.1.x0 rfl rfl rfl (fun M2 H2 => ⟨18, J_d14 B I h 17 0 Y _ M2 ⟨vN_J P1 H2 (by omega), sJ_uJ_s⟩ (by omega)⟩))
end SIM44
