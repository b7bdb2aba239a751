/-! THE SIMULATION, 6: gifts and appeals of both -/
section SIM6
variable {g : Nat → Nat} {Y : mY} {S : mS} {M : mM} {N : mN} {x : Nat}
theorem RC.at1 (R : RC x N Y S) {p s : Nat} (hp : p < yn Y 5) (hd : sX S 5 p 5 = some s) : sX S 5 p 6 = none ∧ nv N 29 p 4 = nI s := by
  obtain ⟨e, -, z⟩ := R.2.2.2.2.2.2.2.1 p hp
  have h6 : sX S 5 p 6 = none := by
    cases h : sX S 5 p 6 with
    | none => rfl
    | some l => exact absurd ((z (by rw [h]; exact fun w => by cases w)).symm.trans hd) (fun w => by cases w)
  rw [h6, hd] at e
  exact ⟨h6, e⟩
theorem RC.at0 (R : RC x N Y S) (H : mR g Y S M) (W : mWs Y S) {p : Nat} (hp : p < yn Y 5) (hd : sX S 5 p 5 = none) : ¬ nv N 29 p 4 < 100 := by
  obtain ⟨e, -, -⟩ := R.2.2.2.2.2.2.2.1 p hp
  rw [hd] at e
  cases h : sX S 5 p 6 with
  | none =>
    rw [h] at e
    rw [e]
    decide
  | some l =>
    have hl := W.l2' (H.lX (k := 5) (f := 6) (kt := 2) hp rfl l h)
    rw [h] at e
    rw [e]
    exact nI_nlt (a := 100 + l) (b := 100) (by omega) (by omega)
theorem C_give (H : mR g Y S M) (W : mWs Y S) (Q : mWq Y S) (R : RC 99 N Y S) {a b : Int32} {κ : Int32 → mM → Prop} {ξ : String → mM → Prop} (h1 : (fGive N a b).1 = 1 → ξ "java/lang/IndexOutOfBoundsException" M) (h2 : (fGive N a b).1 = 2 → ξ "java/lang/IllegalStateException" M)
    (h : ∀ v N' Y' S' M', fGive N a b = (0, v, N') → cX g N' Y S Y' S' M' → κ v M') : wX8_give κ ξ (some (yA Y 0 0)) a b M := by
  have hb := W.2.1
  unfold fGive at h1 h2 h
  rw [← R.1.2.2, ← R.1.2.1] at h1 h2 h
  refine s_rc H W.x0 rfl rfl (c_partN H W (fun p hp ep => s_rc H W.x0 rfl rfl (c_sleeperN H W (fun s hs es => ?_) (fun z => h1 (by rw [if_pos (fun w => z w.2)])))) (fun z => h1 (by rw [if_pos (fun w => z w.1)])))
  have hv : (¬ a < 0 ∧ a < nI (yn Y 5)) ∧ (¬ b < 0 ∧ b < nI (yn Y 4)) := ⟨by rw [ep]; exact m_in hp (by omega), by rw [es]; exact m_in hs (by omega)⟩
  have t1 : tN a = p := by rw [ep]; exact tN_nI (by omega)
  have t2 : tN b = s := by rw [es]; exact tN_nI (by omega)
  rw [t1, t2] at h2 h
  rw [if_neg (fun w => w hv)] at h2 h
  refine s_gR3 H hp rfl rfl rfl ?_
  cases hd : sX S 5 p 5 with
  | none => exact br_t rfl (h2 (by rw [if_pos (Or.inl (R.at0 H W hp hd))]))
  | some s1 =>
    have hs1 := H.lX (k := 5) (f := 5) (kt := 4) hp rfl s1 hd
    obtain ⟨h6, e4⟩ := R.at1 hp hd
    rw [e4, tN_nI (by omega)] at h2 h
    have l100 : nI s1 < (100 : Int32) := nI_lt (b := 100) (by omega) (by omega)
    refine br_f (fun z => by cases z) (br_c (fun z => h2 (by rw [if_pos (Or.inr (by rw [es, (H.sinj hs hs1).mp z]))])) (fun z => ?_))
    have nq : ¬ (¬ nI s1 < 100 ∨ nI s1 = b) := fun w => w.elim (fun w => w l100) (fun w => z ((H.sinj hs hs1).mpr ((nI_eq (by omega) (by omega)).mp (w.trans es))))
    rw [if_neg nq] at h2 h
    have hn : ¬ (nv N 28 s1 0 = nv N 28 s 0 ∧ nv N 28 s1 3 = 0 ∧ nv N 28 s 3 = 0) → ξ "java/lang/IllegalStateException" M := fun w => h2 (by rw [if_pos w])
    have L1 := H.lN (k := 4) (f := 2) (kt := 2) hs1 rfl
    have L2 := H.lN (k := 4) (f := 2) (kt := 2) hs rfl
    have b1 := W.l2' L1
    have b2 := W.l2' L2
    have i3 : ∀ s, s < yn Y 4 → sI S 4 s 4 = nv N 28 s 3 := fun s hs => R.2.1 4 s 4 28 3 rfl hs (by omega)
    refine s_gR2 H hs1 rfl rfl rfl (s_gR2 H hs rfl rfl rfl (br_c (fun q1 => ?_) (fun q1 => hn (fun w => ?_))))
    · have q1' : nv N 28 s1 0 = nv N 28 s 0 := by rw [R.2.2.2.1 s1 hs1, R.2.2.2.1 s hs, (H.sinj L2 L1).mp q1]
      refine s_gI H hs1 rfl rfl rfl ?_
      rw [i3 s1 hs1]
      refine br_c (fun q2 => s_gI H hs rfl rfl rfl ?_) (fun q2 => hn (fun w => q2 w.2.1))
      rw [i3 s hs]
      refine br_c (fun q3 => ?_) (fun q3 => hn (fun w => q3 w.2.2))
      refine s_pX1 H hp rfl rfl rfl hs (fun M1 H1 => s_gI H1 hs1 rfl rfl rfl ?_)
      have R1 := R.hd (o := some s) hp (fun w => absurd h6 w)
      rw [h6, show oAt none (some s) = b from es.symm] at R1
      refine h _ _ Y _ M1 ?_ ⟨H1, W.uX, Q.uX (by omega), mFc.uX (by omega), R1⟩
      rw [if_neg (fun w => w ⟨q1', q2, q3⟩), show sI (uX S 5 p 5 (some s)) 4 s1 0 = nI s1 from W.2.2.2.1.2.2.1 s1 hs1]
    · have w1 := w.1
      rw [R.2.2.2.1 s1 hs1, R.2.2.2.1 s hs] at w1
      exact q1 ((H.sinj L2 L1).mpr ((nI_eq (by omega) (by omega)).mp w1))
theorem D_give {Y0 : mY} {S0 : mS} (P : vN g N Y0 S0 Y S M) {a b : Int32} {κ : Int32 → mM → Prop} (h : ∀ k v N' Y' S' M', fGive N a b = (k, v, N') → vN g N' Y0 S0 Y' S' M' → sI S' 20 0 0 = k → κ v M') : wX14_give κ (some (yA Y 20 0)) a b M := by
  unfold fGive at h
  rw [← P.2.2.1.2.2, ← P.2.2.1.2.1] at h
  refine n_th P (fun S1 M1 P1 e1 => ?_)
  have H := P1.1.1
  have V := P1.1.2.1
  have VV := P1.1.2.2.1
  have hb := V.2.1
  have RR := P1.2.2.2.1
  have f1 : ¬ ((¬ a < 0 ∧ a < nI (yn Y 29)) ∧ (¬ b < 0 ∧ b < nI (yn Y 28))) → wX14_give_21 κ (some (yA Y 20 0)) M1 := fun z => n_rf P1 (fun S2 M2 P2 e2 => h 1 0 N Y S2 M2 (by rw [if_pos z]) P2 e2)
  refine s_rc H V.x0 rfl rfl (v_isPart H V (fun p hp ep => br_f (by decide) (s_rc H V.x0 rfl rfl (v_isSleeper H V (fun s hs es => br_f (by decide) ?_) (fun z => br_t rfl (f1 (fun w => z w.2)))))) (fun z => br_t rfl (f1 (fun w => z w.1))))
  have hv : (¬ a < 0 ∧ a < nI (yn Y 29)) ∧ (¬ b < 0 ∧ b < nI (yn Y 28)) := ⟨by rw [ep]; exact m_in hp (by omega), by rw [es]; exact m_in hs (by omega)⟩
  have t1 : tN a = p := by rw [ep]; exact tN_nI (by omega)
  have t2 : tN b = s := by rw [es]; exact tN_nI (by omega)
  rw [t1, t2, if_neg (fun w => w hv)] at h
  subst ep
  subst es
  obtain ⟨x, ex, hx⟩ := VV.1 29 p 4 hp
  have exN : nv N 29 p 4 = nI x := (RR 29 p 4 rfl hp).symm.trans ex
  have hx8 : x < 1000 := by omega
  rw [exN, tN_nI (by omega)] at h
  refine v_Pt H V hp (s_gI H hp rfl rfl rfl ?_)
  rw [ex]
  have f2 : (¬ nI x < 100 ∨ nI x = nI s) → wX14_give_53 κ (some (yA Y 20 0)) M1 := fun z => n_rf P1 (fun S2 M2 P2 e2 => h 2 0 N Y S2 M2 (by rw [if_pos z]) P2 e2)
  refine br_c (fun z => f2 (Or.inl (Int32.not_lt.mpr z))) (fun z => br_c (fun w => f2 (Or.inr w)) (fun w => ?_))
  have hx2 : x < yn Y 28 := by
    rcases hx with hx | hx | hx
    · exact hx
    · exact absurd (show (100 : Int32) ≤ nI x from nI_le (a := 100) (by omega) (by omega)) z
    · exact absurd (show (100 : Int32) ≤ nI x from nI_le (a := 100) (by omega) (by omega)) z
  have nq : ¬ (¬ nI x < 100 ∨ nI x = nI s) := fun q => q.elim (fun q => z (Int32.not_lt.mp q)) w
  rw [if_neg nq] at h
  have f3 : ¬ (nv N 28 x 0 = nv N 28 s 0 ∧ nv N 28 x 3 = 0 ∧ nv N 28 s 3 = 0) → wX14_give_114 κ (some (yA Y 20 0)) M1 := fun z => n_rf P1 (fun S2 M2 P2 e2 => h 2 0 N Y S2 M2 (by rw [if_pos z]) P2 e2)
  refine v_S H V hx2 (v_S H V hs (s_gI H hx2 rfl rfl rfl (s_gI H hs rfl rfl rfl ?_)))
  rw [RR 28 x 0 rfl hx2, RR 28 s 0 rfl hs]
  refine br_c (fun q1 => s_gI H hx2 rfl rfl rfl ?_) (fun q1 => f3 (fun w => q1 w.1))
  rw [RR 28 x 3 rfl hx2]
  refine br_c (fun q2 => s_gI H hs rfl rfl rfl ?_) (fun q2 => f3 (fun w => q2 w.2.1))
  rw [RR 28 s 3 rfl hs]
  refine br_c (fun q3 => ?_) (fun q3 => f3 (fun w => q3 w.2.2))
  refine v_Pt H V hp (s_pI H hp rfl rfl rfl (fun M2 H2 => ?_))
  refine h 0 _ _ Y _ M2 ?_ (n_I P1 H2 ⟨s, rfl, Or.inl hs⟩ (by omega)) ((sI_uI (by omega)).trans e1)
  rw [if_neg (fun w => w ⟨q1, q2, q3⟩)]
end SIM6
