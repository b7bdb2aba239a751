/-! THE PURE SIDE, 23: the law -/
theorem mWs.TT {Y Y' : mY} {S S' : mS} (W : mWs Y S) (a : ∀ k, k < 20 → yn Y' k = yn Y k ∧ ∀ i, mEq S' S k i) (b : ∀ k i, i < yn Y k → yA Y' k i = yA Y k i) : mWs Y' S' := by
  obtain ⟨w1, w2, w3, ⟨v1, v2, v3, v4⟩, ⟨u1, u2⟩, ⟨u3, u4⟩, u5, u6⟩ := W
  have n := fun k hk => (a k hk).1
  have hL : ∀ i, sL S' 12 i = sL S 12 i := fun i => ((a 12 (by omega)).2 i).2.2.2.2.1
  refine ⟨by rw [n 0 (by omega), n 1 (by omega), n 2 (by omega), n 3 (by omega), n 7 (by omega), n 8 (by omega), n 9 (by omega), n 10 (by omega), n 11 (by omega), n 12 (by omega), n 13 (by omega)]; exact w1, by rw [n 3 (by omega), n 4 (by omega), n 5 (by omega), n 6 (by omega)]; exact w2, by rw [hL, hL, hL, hL, n 3 (by omega), n 4 (by omega), n 5 (by omega), n 6 (by omega)]; exact w3, ⟨fun i hi => (congrFun ((a 2 (by omega)).2 i).1 0).trans (v1 i hi), fun i hi => (congrFun ((a 3 (by omega)).2 i).1 0).trans (v2 i (by rw [n 3 (by omega)] at hi; exact hi)), fun i hi => (congrFun ((a 4 (by omega)).2 i).1 0).trans (v3 i (by rw [n 4 (by omega)] at hi; exact hi)), fun i hi => (congrFun ((a 5 (by omega)).2 i).1 0).trans (v4 i (by rw [n 5 (by omega)] at hi; exact hi))⟩, ⟨(((a 1 (by omega)).2 0).2.2.2.2.2.2.1).trans u1, fun i hi => ?_⟩, ⟨(((a 8 (by omega)).2 0).2.2.2.2.2.2.1).trans u3, fun i hi => ?_⟩, fun i hi => (((a 9 (by omega)).2 i).2.2.2.2.2.2.1).trans (u5 i hi), (((a 9 (by omega)).2 9).2.2.2.2.2.2.1).trans u6⟩
  · rw [congrFun ((a 1 (by omega)).2 0).2.2.2.2.2.2.2.2 i, u2 i hi, b 2 i (by omega)]
  · rw [congrFun ((a 8 (by omega)).2 0).2.2.2.2.2.2.2.2 i, u4 i hi, b 9 i (by omega)]
theorem mWq.TT {Y Y' : mY} {S S' : mS} (Q : mWq Y S) (a : ∀ k, k < 20 → yn Y' k = yn Y k ∧ ∀ i, mEq S' S k i) : mWq Y' S' := by
  have eL : ∀ t, sL S' 13 t = sL S 13 t := fun t => ((a 13 (by omega)).2 t).2.2.2.2.1
  have eX : ∀ s, sX S' 4 s 5 = sX S 4 s 5 := fun s => congrFun ((a 4 (by omega)).2 s).2.2.1 5
  have eI : ∀ s, sI S' 4 s 4 = sI S 4 s 4 := fun s => congrFun ((a 4 (by omega)).2 s).1 4
  refine ⟨fun t ht => ?_, fun s t hs hx => ?_⟩
  · rw [(a 3 (by omega)).1] at ht
    rw [eL]
    exact ⟨(Q.1 t ht).1, fun s hs => (eX s).trans ((Q.1 t ht).2 s hs)⟩
  · rw [(a 4 (by omega)).1] at hs
    rw [eX] at hx
    rw [eI, eL]
    exact Q.2 s t hs hx
section TTV
variable {Y Y' : mY} {S S' : mS}
theorem mVs.TT (V : mVs Y S) (a : ∀ k, 20 ≤ k → k ≠ 31 → yn Y' k = yn Y k ∧ ∀ i, mEq S' S k i) (b : ∀ k i, i < yn Y k → yA Y' k i = yA Y k i) : mVs Y' S' := by
  obtain ⟨w1, w2, w3, ⟨v1, v2, v3⟩, ⟨u1, u2, u3, u4⟩⟩ := V
  have n := fun k h1 h2 => (a k h1 h2).1
  have hL : ∀ i, sL S' 24 i = sL S 24 i := fun i => ((a 24 (by omega) (by omega)).2 i).2.2.2.2.1
  refine ⟨by rw [n 20 (by omega) (by omega), n 21 (by omega) (by omega), n 22 (by omega) (by omega), n 23 (by omega) (by omega), n 24 (by omega) (by omega), n 25 (by omega) (by omega), n 26 (by omega) (by omega), n 27 (by omega) (by omega), n 30 (by omega) (by omega), n 33 (by omega) (by omega)]; exact w1, by rw [n 23 (by omega) (by omega), n 28 (by omega) (by omega), n 29 (by omega) (by omega)]; exact w2, by rw [hL, hL, hL, hL, n 23 (by omega) (by omega), n 28 (by omega) (by omega), n 29 (by omega) (by omega)]; exact w3, ⟨fun v hv => (congrFun ((a 30 (by omega) (by omega)).2 v).1 0).trans (v1 v hv), (((a 33 (by omega) (by omega)).2 0).2.2.2.2.2.2.1).trans v2, fun v hv => ?_⟩, ⟨(((a 21 (by omega) (by omega)).2 0).2.2.2.2.2.2.1).trans u1, fun i hi => ?_, fun t ht => (((a 26 (by omega) (by omega)).2 t).2.2.2.2.2.2.1).trans (u3 t (by rw [n 23 (by omega) (by omega)] at ht; exact ht)), (((a 27 (by omega) (by omega)).2 0).2.2.2.2.2.2.1).trans u4⟩⟩
  · rw [congrFun ((a 33 (by omega) (by omega)).2 0).2.2.2.2.2.2.2.2 (128 + v), v3 v hv, b 30 v (by omega)]
  · rw [congrFun ((a 21 (by omega) (by omega)).2 0).2.2.2.2.2.2.2.2 i, u2 i hi, b 22 i (by omega)]
theorem mVv.TT (V : mVv Y S) (a : ∀ k, 20 ≤ k → k ≠ 31 → yn Y' k = yn Y k ∧ ∀ i, mEq S' S k i) : mVv Y' S' := by
  have n3 := (a 23 (by omega) (by omega)).1
  have n8 := (a 28 (by omega) (by omega)).1
  have n9 := (a 29 (by omega) (by omega)).1
  refine ⟨fun k i f hi => ?_, fun p hp h3 => ?_⟩
  · by_cases z : k = 23 ∨ k = 28 ∨ k = 29
    · have hk := a k (by omega) (by omega)
      rw [hk.1] at hi
      rw [congrFun (hk.2 i).1 f]
      exact vOK_n n8 n3 (V.1 k i f hi)
    · unfold vOK
      split
      · exact absurd (Or.inl rfl) z
      · exact absurd (Or.inr (Or.inl rfl)) z
      · exact absurd (Or.inr (Or.inr rfl)) z
      · trivial
  · rw [n9] at hp
    rw [congrFun ((a 29 (by omega) (by omega)).2 p).1 3] at h3
    rw [congrFun ((a 29 (by omega) (by omega)).2 p).1 5, n8]
    exact V.2 p hp h3
theorem mVq.TT (V : mVq Y S) (a : ∀ k, 20 ≤ k → k ≠ 31 → yn Y' k = yn Y k ∧ ∀ i, mEq S' S k i) : mVq Y' S' := by
  have n3 := (a 23 (by omega) (by omega)).1
  have n8 := (a 28 (by omega) (by omega)).1
  have eL : ∀ t, sL S' 25 t = sL S 25 t := fun t => ((a 25 (by omega) (by omega)).2 t).2.2.2.2.1
  have e3 : ∀ s, sI S' 28 s 3 = sI S 28 s 3 := fun s => congrFun ((a 28 (by omega) (by omega)).2 s).1 3
  have e4 : ∀ s, sI S' 28 s 4 = sI S 28 s 4 := fun s => congrFun ((a 28 (by omega) (by omega)).2 s).1 4
  refine ⟨fun t ht => ?_, fun s hs h3 => ?_⟩
  · rw [n3] at ht
    rw [eL]
    refine ⟨(V.1 t ht).1, fun s hs => ?_⟩
    rw [e3, e4, n8]
    exact (V.1 t ht).2 s hs
  · rw [n8] at hs
    rw [e3] at h3
    obtain ⟨t, q1, q2, q3⟩ := V.2 s hs h3
    exact ⟨t, by rw [n3]; exact q1, by rw [e4]; exact q2, by rw [eL]; exact q3⟩
theorem mVt.TT (V : mVt S) (a : ∀ k, 20 ≤ k → k ≠ 31 → yn Y' k = yn Y k ∧ ∀ i, mEq S' S k i) : mVt S' := by
  obtain ⟨x, y, h1, h2, h3, h4⟩ := V
  have e := ((a 20 (by omega) (by omega)).2 0).1
  exact ⟨x, y, h1, h2, (congrFun e 1).trans h3, (congrFun e 2).trans h4⟩
end TTV
def LJ (g : Nat → Nat) (a0 a1 a2 : Nat) (Y : mY) (S : mS) (M : mM) : Prop := mVI g Y S M ∧ mWs Y S ∧ mWq Y S ∧ mKs g Y S ∧ (0 < yn Y 31 ∧ yA Y 0 0 = a0 ∧ yA Y 20 0 = a1 ∧ yA Y 31 0 = a2)
def LR (S : mS) : Prop := ∀ l, l < 6 → sI S 2 l 1 = sI S 22 l 0
def LI (g : Nat → Nat) (a0 a1 a2 : Nat) (Y : mY) (S : mS) (M : mM) : Prop := LJ g a0 a1 a2 Y S M ∧ LR S
section LAWP
variable {g : Nat → Nat} {a0 a1 a2 : Nat} {Y : mY} {S : mS} {M : mM}
theorem LJ.c {Y' : mY} {S' : mS} {M' : mM} (I : LJ g a0 a1 a2 Y S M) (H' : mR g Y' S' M') (W' : mWs Y' S') (Q' : mWq Y' S') (F : mFc Y S Y' S') : LJ g a0 a1 a2 Y' S' M' := by
  obtain ⟨⟨H, V, VV, VQ, VT⟩, W, Q, K, y31, e0, e1, e2⟩ := I
  have a : ∀ k, 20 ≤ k → k ≠ 31 → yn Y' k = yn Y k ∧ ∀ i, mEq S' S k i := fun k h1 _ => F.2.2 k h1
  exact ⟨⟨H', V.TT a F.1, VV.TT a, VQ.TT a, VT.TT a⟩, W', Q', K.Fc F, by rw [(F.2.2 31 (by omega)).1]; exact y31, (F.1 0 0 W.x0).trans e0, (F.1 20 0 V.x0).trans e1, (F.1 31 0 y31).trans e2⟩
theorem LJ.v {Y' : mY} {S' : mS} {M' : mM} (I : LJ g a0 a1 a2 Y S M) (I' : mVI g Y' S' M') (F : mFm Y S Y' S') : LJ g a0 a1 a2 Y' S' M' := by
  obtain ⟨⟨H, V, VV, VQ, VT⟩, W, Q, K, y31, e0, e1, e2⟩ := I
  have a : ∀ k, k < 20 → yn Y' k = yn Y k ∧ ∀ i, mEq S' S k i := fun k hk => F.2.2 k (Or.inl hk)
  exact ⟨I', W.TT a F.1, Q.TT a, K.Fm F, by rw [(F.2.2 31 (Or.inr (Or.inl rfl))).1]; exact y31, (F.1 0 0 W.x0).trans e0, (F.1 20 0 V.x0).trans e1, (F.1 31 0 y31).trans e2⟩
theorem LJ.o {S' : mS} {M' : mM} (I : LJ g a0 a1 a2 Y S M) (H' : mR g Y S' M') (a : ∀ k i, k ≠ 31 → mEq S' S k i) : LJ g a0 a1 a2 Y S' M' := by
  obtain ⟨⟨H, V, VV, VQ, VT⟩, W, Q, K, y31, e0, e1, e2⟩ := I
  have av : ∀ k, 20 ≤ k → k ≠ 31 → yn Y k = yn Y k ∧ ∀ i, mEq S' S k i := fun k _ h2 => ⟨rfl, fun i => a k i h2⟩
  have ac : ∀ k, k < 20 → yn Y k = yn Y k ∧ ∀ i, mEq S' S k i := fun k h => ⟨rfl, fun i => a k i (by omega)⟩
  exact ⟨⟨H', V.TT av (fun _ _ _ => rfl), VV.TT av, VQ.TT av, VT.TT av⟩, W.TT ac (fun _ _ _ => rfl), Q.TT ac, K.E (fun k h1 h2 => ⟨rfl, fun i => a k i (by omega)⟩) (fun _ _ _ => rfl), y31, e0, e1, e2⟩
theorem LI.c {Y' : mY} {S' : mS} {M' : mM} (I : LI g a0 a1 a2 Y S M) (P : cP g Y S Y' S' M') : LI g a0 a1 a2 Y' S' M' := ⟨I.1.c P.1 P.2.1 P.2.2.1 P.2.2.2.1, fun l hl => (P.2.2.2.2 l).trans ((I.2 l hl).trans (congrFun ((P.2.2.2.1.2.2 22 (by omega)).2 l).1 0).symm)⟩
theorem LI.v {Y' : mY} {S' : mS} {M' : mM} (I : LI g a0 a1 a2 Y S M) (P : vP g Y S Y' S' M') : LI g a0 a1 a2 Y' S' M' := ⟨I.1.v P.1 P.2.1, fun l hl => (congrFun ((P.2.1.2.2 2 (Or.inl (by omega))).2 l).1 1).trans ((I.2 l hl).trans (P.2.2 l).symm)⟩
theorem LI.e {S' : mS} {M' : mM} (I : LI g a0 a1 a2 Y S M) (H' : mR g Y S' M') (e : eqE S' S) : LI g a0 a1 a2 Y S' M' := I.c ⟨H', I.1.2.1.E e, I.1.2.2.1.of (fun t => by rw [e.2.2.2.2.1]) (fun s => by rw [e.2.2.1]) (fun s => by rw [e.1]), mFc.E e, fun l => by rw [e.1]⟩
theorem LI.o {S' : mS} {M' : mM} (I : LI g a0 a1 a2 Y S M) (H' : mR g Y S' M') (a : ∀ k i, k ≠ 31 → mEq S' S k i) : LI g a0 a1 a2 Y S' M' := ⟨I.1.o H' a, fun l hl => (congrFun (a 2 l (by omega)).1 1).trans ((I.2 l hl).trans (congrFun (a 22 l (by omega)).1 0).symm)⟩
theorem s_p8 (H : mR g Y S M) {k i f ci : Nat} (hi : i < yn Y k) (h1 : m_ak k = 99) (h2 : m_cls k = ci) (h3 : (m_fds k)[f]? = some (8, 0, 0)) (v : Option Nat) {κ : mM → Prop} (h : ∀ M', mR g Y (uX S k i f v) M' → κ M') : m_p M (some (yA Y k i)) ci f (va_rf v) κ := by
  subst h2
  refine ⟨_, _, rfl, H.at hi h1, ?_, ?_⟩
  · rw [List.length_mapIdx]
    exact (List.getElem?_eq_some_iff.mp h3).1
  · refine h _ (H.put hi (uX S k i f v) rfl rfl rfl (fun k' i' z => m_cell_cg (fun f' t => m_fv_cg rfl rfl (if_neg (fun w => z ⟨w.1, w.2.1⟩)) rfl rfl rfl) rfl rfl rfl) (fun k' i' f' t hi' ht => ?_) (m_cell_set h1 h3 ?_ (fun f' t' hf => m_fv_cg rfl rfl (if_neg (fun w => hf w.2.2)) rfl rfl rfl)))
    · obtain ⟨q1, q2, q3⟩ := H.2.2.2.2.2.1 k' i' f' t hi' ht
      refine ⟨q1, fun ht3 j hj => ?_, q3⟩
      by_cases z : k' = k ∧ i' = i ∧ f' = f
      · obtain ⟨rfl, rfl, rfl⟩ := z
        have et := Option.some.inj (ht.symm.trans h3)
        rw [et] at ht3
        exact absurd ht3 (by decide)
      · exact q2 ht3 j ((if_neg z).symm.trans hj)
    · exact congrArg (fun o => va_rf o) (if_pos ⟨rfl, rfl, rfl⟩)
theorem oJ (I : LJ g a0 a1 a2 Y S M) {v : Int64} {κ : mM → Prop} (h : ∀ S' M', mR g Y S' M' → sJ S' 31 0 0 = v → (∀ k i, k ≠ 31 → mEq S' S k i) → κ M') : m_p M (some a2) 14 0 (.long v) κ := by
  rw [← I.2.2.2.2.2.2.2]
  exact s_pJ I.1.1 I.2.2.2.2.1 rfl rfl rfl (fun M1 H1 => h _ M1 H1 (show (if 31 = 31 ∧ 0 = 0 ∧ 0 = 0 then v else sJ S 31 0 0) = v from if_pos ⟨rfl, rfl, rfl⟩) (fun k i hk => mEq.uJ (by omega)))
theorem oI (I : LI g a0 a1 a2 Y S M) {v : Int64} {κ : mM → Prop} (h : ∀ S' M', LI g a0 a1 a2 Y S' M' → κ M') : m_p M (some a2) 14 0 (.long v) κ := oJ I.1 (fun S' M' H' _ a => h S' M' (I.o H' a))
theorem oA (I : LI g a0 a1 a2 Y S M) {v : Option Nat} {κ : mM → Prop} (h : ∀ S' M', LI g a0 a1 a2 Y S' M' → κ M') : m_p M (some a2) 14 1 (va_rf v) κ := by
  rw [← I.1.2.2.2.2.2.2.2]
  exact s_p8 I.1.1.1 I.1.2.2.2.2.1 rfl rfl rfl v (fun M1 H1 => h _ M1 (I.o H1 (fun k i hk => mEq.uX (by omega))))
theorem lg_s (x : Int64) : lg_cmp x x = 0 := by
  unfold lg_cmp
  simp

theorem W_trade (I : LI g a0 a1 a2 Y S M) {x y z : Int32} {κ : Int32 → mM → Prop} (h : ∀ n Y' S' M', LI g a0 a1 a2 Y' S' M' → κ n M') : wL_trade κ (some a0) x y z (some a2) M := by
  have W := I.1.2.1
  rw [← I.1.2.2.2.2.2.1]
  exact s_rc I.1.1.1 W.x0 rfl rfl (c_trade I.1.1.1 W I.1.2.2.1 (fun E hE => by rcases hE with rfl | rfl | rfl <;> first | exact Or.inl ⟨rfl, h 1 Y S M I⟩ | exact Or.inr (Or.inl ⟨rfl, h 2 Y S M I⟩) | exact Or.inr (Or.inr (⟨rfl, h 3 Y S M I⟩))) (fun x1 S1 M1 P => oI (I.c P) (fun S2 M2 I2 => h 0 Y S2 M2 I2)))
theorem V_trade (I : LI g a0 a1 a2 Y S M) {x y z : Int32} {κ : Int32 → mM → Prop} (h : ∀ n Y' S' M', LI g a0 a1 a2 Y' S' M' → κ n M') : m_rc M (some a1) 19 fun b => wX14_trade κ (some b) x y z M := by
  rw [← I.1.2.2.2.2.2.2.1]
  exact s_rc I.1.1.1 I.1.1.2.1.x0 rfl rfl (v_trade (vP.rf I.1.1) (fun x1 Y' S' M' P => h x1 Y' S' M' (I.v P)))
theorem W_gate (I : LI g a0 a1 a2 Y S M) {x y z u : Int32} {κ : Int32 → mM → Prop} (h : ∀ n Y' S' M', LI g a0 a1 a2 Y' S' M' → κ n M') : wL_gate g κ (some a0) x y z u (some a2) M := by
  have W := I.1.2.1
  rw [← I.1.2.2.2.2.2.1]
  exact s_rc I.1.1.1 W.x0 rfl rfl (c_gate I.1.1.1 W I.1.2.2.1 (fun E hE => by rcases hE with rfl | rfl | rfl <;> first | exact Or.inl ⟨rfl, h 1 Y S M I⟩ | exact Or.inr (Or.inl ⟨rfl, h 2 Y S M I⟩) | exact Or.inr (Or.inr (⟨rfl, h 3 Y S M I⟩))) (fun x1 Y1 S1 M1 P => oI (I.c P) (fun S2 M2 I2 => h 0 Y1 S2 M2 I2)))
theorem V_gate (I : LI g a0 a1 a2 Y S M) {x y z u : Int32} {κ : Int32 → mM → Prop} (h : ∀ n Y' S' M', LI g a0 a1 a2 Y' S' M' → κ n M') : m_rc M (some a1) 19 fun b => wX14_gate g κ (some b) x y z u M := by
  rw [← I.1.2.2.2.2.2.2.1]
  exact s_rc I.1.1.1 I.1.1.2.1.x0 rfl rfl (v_gate (vP.rf I.1.1) (fun x1 Y' S' M' P => h x1 Y' S' M' (I.v P)))
theorem W_odds (I : LI g a0 a1 a2 Y S M) {x y : Int32} {κ : Int32 → mM → Prop} (h : ∀ n Y' S' M', LI g a0 a1 a2 Y' S' M' → κ n M') : wL_odds κ (some a0) x y (some a2) M := by
  have W := I.1.2.1
  rw [← I.1.2.2.2.2.2.1]
  exact s_rc I.1.1.1 W.x0 rfl rfl (c_odds I.1.1.1 W I.1.2.2.1 (fun E hE => by rcases hE with rfl | rfl <;> first | exact Or.inl ⟨rfl, h 1 Y S M I⟩ | exact Or.inr (⟨rfl, h 2 Y S M I⟩)) (fun x1 S1 M1 P => oI (I.c P) (fun S2 M2 I2 => h 0 Y S2 M2 I2)))
theorem V_odds (I : LI g a0 a1 a2 Y S M) {x y : Int32} {κ : Int32 → mM → Prop} (h : ∀ n Y' S' M', LI g a0 a1 a2 Y' S' M' → κ n M') : m_rc M (some a1) 19 fun b => wX14_odds κ (some b) x y M := by
  rw [← I.1.2.2.2.2.2.2.1]
  exact s_rc I.1.1.1 I.1.1.2.1.x0 rfl rfl (v_odds (vP.rf I.1.1) (fun x1 Y' S' M' P => h x1 Y' S' M' (I.v P)))
theorem W_relieve (I : LI g a0 a1 a2 Y S M) {x : Int32} {κ : Int32 → mM → Prop} (h : ∀ n Y' S' M', LI g a0 a1 a2 Y' S' M' → κ n M') : wL_relieve κ (some a0) x (some a2) M := by
  have W := I.1.2.1
  rw [← I.1.2.2.2.2.2.1]
  exact s_rc I.1.1.1 W.x0 rfl rfl (c_relieve I.1.1.1 W I.1.2.2.1 (⟨rfl, h 1 Y S M I⟩) (fun x1 S1 M1 P => oI (I.c P) (fun S2 M2 I2 => h 0 Y S2 M2 I2)))
theorem V_relieve (I : LI g a0 a1 a2 Y S M) {x : Int32} {κ : Int32 → mM → Prop} (h : ∀ n Y' S' M', LI g a0 a1 a2 Y' S' M' → κ n M') : m_rc M (some a1) 19 fun b => wX14_relieve κ (some b) x M := by
  rw [← I.1.2.2.2.2.2.2.1]
  exact s_rc I.1.1.1 I.1.1.2.1.x0 rfl rfl (v_relieve (vP.rf I.1.1) (fun x1 Y' S' M' P => h x1 Y' S' M' (I.v P)))
theorem W_sleeper (I : LI g a0 a1 a2 Y S M) {x y z : Int32} (hb : y = 0 ∨ y = 1) {κ : Int32 → mM → Prop} (h : ∀ n Y' S' M', LI g a0 a1 a2 Y' S' M' → κ n M') : wL_sleeper g κ (some a0) x y z (some a2) M := by
  have W := I.1.2.1
  rw [← I.1.2.2.2.2.2.1]
  exact s_rc I.1.1.1 W.x0 rfl rfl (c_sleeper I.1.1.1 W I.1.2.2.1 hb (fun E hE => by rcases hE with rfl | rfl | rfl <;> first | exact Or.inl ⟨rfl, h 1 Y S M I⟩ | exact Or.inr (Or.inl ⟨rfl, h 2 Y S M I⟩) | exact Or.inr (Or.inr (⟨rfl, h 3 Y S M I⟩))) (fun x1 Y1 S1 M1 P => oI (I.c P) (fun S2 M2 I2 => h 0 Y1 S2 M2 I2)))
theorem V_sleeper (I : LI g a0 a1 a2 Y S M) {x y z : Int32} (hb : y = 0 ∨ y = 1) {κ : Int32 → mM → Prop} (h : ∀ n Y' S' M', LI g a0 a1 a2 Y' S' M' → κ n M') : m_rc M (some a1) 19 fun b => wX14_sleeper g κ (some b) x y z M := by
  rw [← I.1.2.2.2.2.2.2.1]
  exact s_rc I.1.1.1 I.1.1.2.1.x0 rfl rfl (v_sleeper (vP.rf I.1.1) hb (fun x1 Y' S' M' P => h x1 Y' S' M' (I.v P)))
theorem W_part (I : LI g a0 a1 a2 Y S M) {x y z u : Int32} {κ : Int32 → mM → Prop} (h : ∀ n Y' S' M', LI g a0 a1 a2 Y' S' M' → κ n M') : wL_part g κ (some a0) x y z u (some a2) M := by
  have W := I.1.2.1
  rw [← I.1.2.2.2.2.2.1]
  exact s_rc I.1.1.1 W.x0 rfl rfl (c_part I.1.1.1 W I.1.2.2.1 (fun E hE => by rcases hE with rfl | rfl | rfl <;> first | exact Or.inl ⟨rfl, h 1 Y S M I⟩ | exact Or.inr (Or.inl ⟨rfl, h 2 Y S M I⟩) | exact Or.inr (Or.inr (⟨rfl, h 3 Y S M I⟩))) (fun x1 Y1 S1 M1 P => oI (I.c P) (fun S2 M2 I2 => h 0 Y1 S2 M2 I2)))
theorem V_part (I : LI g a0 a1 a2 Y S M) {x y z u : Int32} {κ : Int32 → mM → Prop} (h : ∀ n Y' S' M', LI g a0 a1 a2 Y' S' M' → κ n M') : m_rc M (some a1) 19 fun b => wX14_part g κ (some b) x y z u M := by
  rw [← I.1.2.2.2.2.2.2.1]
  exact s_rc I.1.1.1 I.1.1.2.1.x0 rfl rfl (v_part (vP.rf I.1.1) (fun x1 Y' S' M' P => h x1 Y' S' M' (I.v P)))
theorem W_give (I : LI g a0 a1 a2 Y S M) {x y : Int32} {κ : Int32 → mM → Prop} (h : ∀ n Y' S' M', LI g a0 a1 a2 Y' S' M' → κ n M') : wL_give κ (some a0) x y (some a2) M := by
  have W := I.1.2.1
  rw [← I.1.2.2.2.2.2.1]
  exact s_rc I.1.1.1 W.x0 rfl rfl (c_give I.1.1.1 W I.1.2.2.1 (fun E hE => by rcases hE with rfl | rfl <;> first | exact Or.inl ⟨rfl, h 1 Y S M I⟩ | exact Or.inr (⟨rfl, h 2 Y S M I⟩)) (fun x1 S1 M1 P => oI (I.c P) (fun S2 M2 I2 => h 0 Y S2 M2 I2)))
theorem V_give (I : LI g a0 a1 a2 Y S M) {x y : Int32} {κ : Int32 → mM → Prop} (h : ∀ n Y' S' M', LI g a0 a1 a2 Y' S' M' → κ n M') : m_rc M (some a1) 19 fun b => wX14_give κ (some b) x y M := by
  rw [← I.1.2.2.2.2.2.2.1]
  exact s_rc I.1.1.1 I.1.1.2.1.x0 rfl rfl (v_give (vP.rf I.1.1) (fun x1 Y' S' M' P => h x1 Y' S' M' (I.v P)))
theorem W_sing (I : LI g a0 a1 a2 Y S M) {x y z u : Int32} {κ : Int32 → mM → Prop} (h : ∀ n Y' S' M', LI g a0 a1 a2 Y' S' M' → κ n M') : wL_sing κ (some a0) x y z u (some a2) M := by
  have W := I.1.2.1
  rw [← I.1.2.2.2.2.2.1]
  exact s_rc I.1.1.1 W.x0 rfl rfl (c_sing I.1.1.1 W I.1.2.2.1 (fun E hE => by rcases hE with rfl | rfl <;> first | exact Or.inl ⟨rfl, h 1 Y S M I⟩ | exact Or.inr (⟨rfl, h 2 Y S M I⟩)) (fun x1 Y1 S1 M1 P => oI (I.c P) (fun S2 M2 I2 => h 0 Y1 S2 M2 I2)))
theorem V_sing (I : LI g a0 a1 a2 Y S M) {x y z u : Int32} {κ : Int32 → mM → Prop} (h : ∀ n Y' S' M', LI g a0 a1 a2 Y' S' M' → κ n M') : m_rc M (some a1) 19 fun b => wX14_sing κ (some b) x y z u M := by
  rw [← I.1.2.2.2.2.2.2.1]
  exact s_rc I.1.1.1 I.1.1.2.1.x0 rfl rfl (v_sing (vP.rf I.1.1) (fun x1 Y' S' M' P => h x1 Y' S' M' (I.v P)))
theorem W_revoke (I : LI g a0 a1 a2 Y S M) {x y : Int32} {κ : Int32 → mM → Prop} (h : ∀ n Y' S' M', LI g a0 a1 a2 Y' S' M' → κ n M') : wL_revoke κ (some a0) x y (some a2) M := by
  have W := I.1.2.1
  rw [← I.1.2.2.2.2.2.1]
  exact s_rc I.1.1.1 W.x0 rfl rfl (c_revoke I.1.1.1 W I.1.2.2.1 (fun E hE => by rcases hE with rfl | rfl <;> first | exact Or.inl ⟨rfl, h 1 Y S M I⟩ | exact Or.inr (⟨rfl, h 2 Y S M I⟩)) (fun x1 S1 M1 P => br_c (fun _ => oI (I.c P) (fun S2 M2 I2 => h 0 Y S2 M2 I2)) (fun _ => oI (I.c P) (fun S2 M2 I2 => h 0 Y S2 M2 I2))))
theorem V_revoke (I : LI g a0 a1 a2 Y S M) {x y : Int32} {κ : Int32 → mM → Prop} (h : ∀ n Y' S' M', LI g a0 a1 a2 Y' S' M' → κ n M') : m_rc M (some a1) 19 fun b => wX14_revoke κ (some b) x y M := by
  rw [← I.1.2.2.2.2.2.2.1]
  exact s_rc I.1.1.1 I.1.1.2.1.x0 rfl rfl (v_revoke (vP.rf I.1.1) (fun x1 Y' S' M' P => h x1 Y' S' M' (I.v P)))
theorem W_join (I : LI g a0 a1 a2 Y S M) {x y z : Int32} {κ : Int32 → mM → Prop} (h : ∀ n Y' S' M', LI g a0 a1 a2 Y' S' M' → κ n M') : wL_join g κ (some a0) x y z (some a2) M := by
  have W := I.1.2.1
  rw [← I.1.2.2.2.2.2.1]
  exact s_rc I.1.1.1 W.x0 rfl rfl (c_join I.1.1.1 W I.1.2.2.1 (fun E hE => by rcases hE with rfl | rfl | rfl <;> first | exact Or.inl ⟨rfl, h 1 Y S M I⟩ | exact Or.inr (Or.inl ⟨rfl, h 2 Y S M I⟩) | exact Or.inr (Or.inr (⟨rfl, h 3 Y S M I⟩))) (fun x1 S1 M1 P => oI (I.c P) (fun S2 M2 I2 => h 0 Y S2 M2 I2)))
theorem V_join (I : LI g a0 a1 a2 Y S M) {x y z : Int32} {κ : Int32 → mM → Prop} (h : ∀ n Y' S' M', LI g a0 a1 a2 Y' S' M' → κ n M') : m_rc M (some a1) 19 fun b => wX14_join g κ (some b) x y z M := by
  rw [← I.1.2.2.2.2.2.2.1]
  exact s_rc I.1.1.1 I.1.1.2.1.x0 rfl rfl (v_join (vP.rf I.1.1) (fun x1 Y' S' M' P => h x1 Y' S' M' (I.v P)))
theorem W_leave (I : LI g a0 a1 a2 Y S M) {x : Int32} {κ : Int32 → mM → Prop} (h : ∀ n Y' S' M', LI g a0 a1 a2 Y' S' M' → κ n M') : wL_leave κ (some a0) x (some a2) M := by
  have W := I.1.2.1
  rw [← I.1.2.2.2.2.2.1]
  exact s_rc I.1.1.1 W.x0 rfl rfl (c_leave I.1.1.1 W I.1.2.2.1 (fun E hE => by rcases hE with rfl | rfl <;> first | exact Or.inl ⟨rfl, h 1 Y S M I⟩ | exact Or.inr (⟨rfl, h 2 Y S M I⟩)) (fun x1 S1 M1 P => oI (I.c P) (fun S2 M2 I2 => h 0 Y S2 M2 I2)))
theorem V_leave (I : LI g a0 a1 a2 Y S M) {x : Int32} {κ : Int32 → mM → Prop} (h : ∀ n Y' S' M', LI g a0 a1 a2 Y' S' M' → κ n M') : m_rc M (some a1) 19 fun b => wX14_leave κ (some b) x M := by
  rw [← I.1.2.2.2.2.2.2.1]
  exact s_rc I.1.1.1 I.1.1.2.1.x0 rfl rfl (v_leave (vP.rf I.1.1) (fun x1 Y' S' M' P => h x1 Y' S' M' (I.v P)))
theorem W_yawn (I : LI g a0 a1 a2 Y S M) {x : Int32} {κ : Int32 → mM → Prop} (h : ∀ n Y' S' M', LI g a0 a1 a2 Y' S' M' → κ n M') : wL_yawn g κ (some a0) x (some a2) M := by
  have W := I.1.2.1
  rw [← I.1.2.2.2.2.2.1]
  exact s_rc I.1.1.1 W.x0 rfl rfl (c_yawn I.1.1.1 W I.1.2.2.1 (fun E hE => by rcases hE with rfl | rfl <;> first | exact Or.inl ⟨rfl, h 1 Y S M I⟩ | exact Or.inr (⟨rfl, h 2 Y S M I⟩)) (fun x1 Y1 S1 M1 P => oI (I.c P) (fun S2 M2 I2 => h 0 Y1 S2 M2 I2)))
theorem V_yawn (I : LI g a0 a1 a2 Y S M) {x : Int32} {κ : Int32 → mM → Prop} (h : ∀ n Y' S' M', LI g a0 a1 a2 Y' S' M' → κ n M') : m_rc M (some a1) 19 fun b => wX14_yawn g κ (some b) x M := by
  rw [← I.1.2.2.2.2.2.2.1]
  exact s_rc I.1.1.1 I.1.1.2.1.x0 rfl rfl (v_yawn (vP.rf I.1.1) (fun x1 Y' S' M' P => h x1 Y' S' M' (I.v P)))
theorem W_appeal (I : LI g a0 a1 a2 Y S M) {x : Int32} {κ : Int32 → mM → Prop} (h : ∀ n Y' S' M', LI g a0 a1 a2 Y' S' M' → κ n M') : wL_appeal κ (some a0) x (some a2) M := by
  have W := I.1.2.1
  rw [← I.1.2.2.2.2.2.1]
  exact s_rc I.1.1.1 W.x0 rfl rfl (c_appeal I.1.1.1 W I.1.2.2.1 (fun E hE => by rcases hE with rfl | rfl <;> first | exact Or.inl ⟨rfl, h 1 Y S M I⟩ | exact Or.inr (⟨rfl, h 2 Y S M I⟩)) (fun x1 S1 M1 _ P => br_c (fun _ => oI (I.c P) (fun S2 M2 I2 => h 0 Y S2 M2 I2)) (fun _ => oI (I.c P) (fun S2 M2 I2 => h 0 Y S2 M2 I2))))
theorem V_appeal (I : LI g a0 a1 a2 Y S M) {x : Int32} {κ : Int32 → mM → Prop} (h : ∀ n Y' S' M', LI g a0 a1 a2 Y' S' M' → κ n M') : m_rc M (some a1) 19 fun b => wX14_appeal κ (some b) x M := by
  rw [← I.1.2.2.2.2.2.2.1]
  exact s_rc I.1.1.1 I.1.1.2.1.x0 rfl rfl (v_appeal (vP.rf I.1.1) (fun x1 Y' S' M' P => h x1 Y' S' M' (I.v P)))
theorem W_pass (I : LI g a0 a1 a2 Y S M) {x : Int32} {κ : Int32 → mM → Prop} (h : ∀ n Y' S' M', LI g a0 a1 a2 Y' S' M' → κ n M') : wL_pass κ (some a0) x (some a2) M := by
  have W := I.1.2.1
  rw [← I.1.2.2.2.2.2.1]
  exact s_rc I.1.1.1 W.x0 rfl rfl (c_pass I.1.1.1 W I.1.2.2.1 (fun E hE => by rcases hE with rfl | rfl <;> first | exact Or.inl ⟨rfl, h 1 Y S M I⟩ | exact Or.inr (⟨rfl, h 2 Y S M I⟩)) (fun x1 S1 M1 P => oI (I.c P) (fun S2 M2 I2 => h 0 Y S2 M2 I2)))
theorem V_pass (I : LI g a0 a1 a2 Y S M) {x : Int32} {κ : Int32 → mM → Prop} (h : ∀ n Y' S' M', LI g a0 a1 a2 Y' S' M' → κ n M') : m_rc M (some a1) 19 fun b => wX14_pass κ (some b) x M := by
  rw [← I.1.2.2.2.2.2.2.1]
  exact s_rc I.1.1.1 I.1.1.2.1.x0 rfl rfl (v_pass (vP.rf I.1.1) (fun x1 Y' S' M' P => h x1 Y' S' M' (I.v P)))
theorem W_ofLand (I : LI g a0 a1 a2 Y S M) {x y : Int32} {κ : Int32 → mM → Prop} (h : ∀ n Y' S' M', LI g a0 a1 a2 Y' S' M' → κ n M') : wL_ofLand κ (some a0) x y (some a2) M := by
  have W := I.1.2.1
  rw [← I.1.2.2.2.2.2.1]
  exact s_rc I.1.1.1 W.x0 rfl rfl (c_ofLand I.1.1.1 W (fun _ => oI I (fun S2 M2 I2 => h 0 Y S2 M2 I2)) (fun _ => Or.inl ⟨rfl, h 1 Y S M I⟩) (fun _ => Or.inr (⟨rfl, h 2 Y S M I⟩)))
theorem V_ofLand (I : LI g a0 a1 a2 Y S M) {x y : Int32} {κ : Int32 → mM → Prop} (h : ∀ n Y' S' M', LI g a0 a1 a2 Y' S' M' → κ n M') : m_rc M (some a1) 19 fun b => wX14_ofLand κ (some b) x y M := by
  rw [← I.1.2.2.2.2.2.2.1]
  exact s_rc I.1.1.1 I.1.1.2.1.x0 rfl rfl (v_ofLand (vP.rf I.1.1) (fun x1 Y' S' M' P => h x1 Y' S' M' (I.v P)))
theorem W_ofGate (I : LI g a0 a1 a2 Y S M) {x y : Int32} {κ : Int32 → mM → Prop} (h : ∀ n Y' S' M', LI g a0 a1 a2 Y' S' M' → κ n M') : wL_ofGate κ (some a0) x y (some a2) M := by
  have W := I.1.2.1
  rw [← I.1.2.2.2.2.2.1]
  exact s_rc I.1.1.1 W.x0 rfl rfl (c_ofGate I.1.1.1 W (fun _ => oI I (fun S2 M2 I2 => h 0 Y S2 M2 I2)) (fun _ => Or.inl ⟨rfl, h 1 Y S M I⟩) (fun _ => Or.inr (⟨rfl, h 2 Y S M I⟩)))
theorem V_ofGate (I : LI g a0 a1 a2 Y S M) {x y : Int32} {κ : Int32 → mM → Prop} (h : ∀ n Y' S' M', LI g a0 a1 a2 Y' S' M' → κ n M') : m_rc M (some a1) 19 fun b => wX14_ofGate κ (some b) x y M := by
  rw [← I.1.2.2.2.2.2.2.1]
  exact s_rc I.1.1.1 I.1.1.2.1.x0 rfl rfl (v_ofGate (vP.rf I.1.1) (fun x1 Y' S' M' P => h x1 Y' S' M' (I.v P)))
theorem W_ofSleeper (I : LI g a0 a1 a2 Y S M) {x y : Int32} {κ : Int32 → mM → Prop} (h : ∀ n Y' S' M', LI g a0 a1 a2 Y' S' M' → κ n M') : wL_ofSleeper κ (some a0) x y (some a2) M := by
  have W := I.1.2.1
  rw [← I.1.2.2.2.2.2.1]
  exact s_rc I.1.1.1 W.x0 rfl rfl (c_ofSleeper I.1.1.1 W (fun _ => oI I (fun S2 M2 I2 => h 0 Y S2 M2 I2)) (fun _ => Or.inl ⟨rfl, h 1 Y S M I⟩) (fun _ => Or.inr (⟨rfl, h 2 Y S M I⟩)))
theorem V_ofSleeper (I : LI g a0 a1 a2 Y S M) {x y : Int32} {κ : Int32 → mM → Prop} (h : ∀ n Y' S' M', LI g a0 a1 a2 Y' S' M' → κ n M') : m_rc M (some a1) 19 fun b => wX14_ofSleeper κ (some b) x y M := by
  rw [← I.1.2.2.2.2.2.2.1]
  exact s_rc I.1.1.1 I.1.1.2.1.x0 rfl rfl (v_ofSleeper (vP.rf I.1.1) (fun x1 Y' S' M' P => h x1 Y' S' M' (I.v P)))
theorem W_ofPart (I : LI g a0 a1 a2 Y S M) {x y : Int32} {κ : Int32 → mM → Prop} (h : ∀ n Y' S' M', LI g a0 a1 a2 Y' S' M' → κ n M') : wL_ofPart κ (some a0) x y (some a2) M := by
  have W := I.1.2.1
  rw [← I.1.2.2.2.2.2.1]
  exact s_rc I.1.1.1 W.x0 rfl rfl (c_ofPart I.1.1.1 W (fun _ => oI I (fun S2 M2 I2 => h 0 Y S2 M2 I2)) (fun _ => Or.inl ⟨rfl, h 1 Y S M I⟩) (fun _ => Or.inr (⟨rfl, h 2 Y S M I⟩)))
theorem V_ofPart (I : LI g a0 a1 a2 Y S M) {x y : Int32} {κ : Int32 → mM → Prop} (h : ∀ n Y' S' M', LI g a0 a1 a2 Y' S' M' → κ n M') : m_rc M (some a1) 19 fun b => wX14_ofPart κ (some b) x y M := by
  rw [← I.1.2.2.2.2.2.2.1]
  exact s_rc I.1.1.1 I.1.1.2.1.x0 rfl rfl (v_ofPart (vP.rf I.1.1) (fun x1 Y' S' M' P => h x1 Y' S' M' (I.v P)))
theorem W_isGood (I : LI g a0 a1 a2 Y S M) {x y : Int32} {κ : Int32 → mM → Prop} (h : ∀ n Y' S' M', LI g a0 a1 a2 Y' S' M' → κ n M') : wL_isGood κ (some a0) x y (some a2) M := by
  have W := I.1.2.1
  rw [← I.1.2.2.2.2.2.1]
  exact s_rc I.1.1.1 W.x0 rfl rfl (c_isGood I.1.1.1 W (br_f (by decide) (oI I (fun S2 M2 I2 => h 0 Y S2 M2 I2))) (br_t rfl (oI I (fun S2 M2 I2 => h 0 Y S2 M2 I2))) (fun _ => ⟨rfl, h 1 Y S M I⟩))
theorem V_isGood (I : LI g a0 a1 a2 Y S M) {x y : Int32} {κ : Int32 → mM → Prop} (h : ∀ n Y' S' M', LI g a0 a1 a2 Y' S' M' → κ n M') : m_rc M (some a1) 19 fun b => wX14_isGood κ (some b) x y M := by
  rw [← I.1.2.2.2.2.2.2.1]
  exact s_rc I.1.1.1 I.1.1.2.1.x0 rfl rfl (v_isGood (vP.rf I.1.1) (fun x1 Y' S' M' P => h x1 Y' S' M' (I.v P)))
theorem W_queue (I : LI g a0 a1 a2 Y S M) {x : Int32} {κ : Int32 → mM → Prop} (h : ∀ n Y' S' M', LI g a0 a1 a2 Y' S' M' → κ n M') : wL_queue g κ (some a0) x (some a2) M := by
  have W := I.1.2.1
  rw [← I.1.2.2.2.2.2.1]
  exact s_rc I.1.1.1 W.x0 rfl rfl (c_queue I.1.1.1 W I.1.2.2.1 I.1.2.2.2.1 (fun E hE => by subst hE; exact ⟨rfl, h 1 Y S M I⟩) (fun x1 M1 H1 => oA (I.o H1 (fun _ _ _ => mEq.rf _ _ _)) (fun S2 M2 I2 => h 0 Y S2 M2 I2)))
theorem V_queue (I : LI g a0 a1 a2 Y S M) {x : Int32} {κ : Option Nat → mM → Prop} (h : ∀ n Y' S' M', LI g a0 a1 a2 Y' S' M' → κ n M') : m_rc M (some a1) 19 fun b => wX14_queue g κ (some b) x M := by
  rw [← I.1.2.2.2.2.2.2.1]
  exact s_rc I.1.1.1 I.1.1.2.1.x0 rfl rfl (v_queue (vP.rf I.1.1) I.1.2.2.2.1 (fun x1 Y' S' M' P => h x1 Y' S' M' (I.v P)))
theorem W_night (I : LI g a0 a1 a2 Y S M) {x : Int32} {κ : Int32 → mM → Prop} (h : ∀ n Y' S' M', LI g a0 a1 a2 Y' S' M' → κ n M') : wL_night κ (some a0) x (some a2) M := by
  have W := I.1.2.1
  rw [← I.1.2.2.2.2.2.1]
  exact s_rc I.1.1.1 W.x0 rfl rfl (c_night I.1.1.1 W (fun _ => oI I (fun S2 M2 I2 => h 0 Y S2 M2 I2)) (fun _ => ⟨rfl, h 1 Y S M I⟩))
theorem V_night (I : LI g a0 a1 a2 Y S M) {x : Int32} {κ : Int32 → mM → Prop} (h : ∀ n Y' S' M', LI g a0 a1 a2 Y' S' M' → κ n M') : m_rc M (some a1) 19 fun b => wX14_night κ (some b) x M := by
  rw [← I.1.2.2.2.2.2.2.1]
  exact s_rc I.1.1.1 I.1.1.2.1.x0 rfl rfl (v_night (vP.rf I.1.1) (fun x1 Y' S' M' P => h x1 Y' S' M' (I.v P)))
theorem W_way (I : LI g a0 a1 a2 Y S M) {x y : Int32} {κ : Int32 → mM → Prop} (h : ∀ n Y' S' M', LI g a0 a1 a2 Y' S' M' → κ n M') : wL_way κ (some a0) x y (some a2) M := by
  have W := I.1.2.1
  rw [← I.1.2.2.2.2.2.1]
  exact s_rc I.1.1.1 W.x0 rfl rfl (c_way I.1.1.1 W (fun x1 S1 M1 H1 e => oI (I.e H1 e) (fun S2 M2 I2 => h 0 Y S2 M2 I2)) (fun _ => ⟨rfl, h 1 Y S M I⟩))
theorem V_way (I : LI g a0 a1 a2 Y S M) {x y : Int32} {κ : Int32 → mM → Prop} (h : ∀ n Y' S' M', LI g a0 a1 a2 Y' S' M' → κ n M') : m_rc M (some a1) 19 fun b => wX14_way κ (some b) x y M := by
  rw [← I.1.2.2.2.2.2.2.1]
  exact s_rc I.1.1.1 I.1.1.2.1.x0 rfl rfl (v_way (vP.rf I.1.1) (fun x1 Y' S' M' P => h x1 Y' S' M' (I.v P)))
theorem W_plan (I : LI g a0 a1 a2 Y S M) {x y : Int32} {κ : Int32 → mM → Prop} (h : ∀ n Y' S' M', LI g a0 a1 a2 Y' S' M' → κ n M') : wL_plan κ (some a0) x y (some a2) M := by
  have W := I.1.2.1
  rw [← I.1.2.2.2.2.2.1]
  exact s_rc I.1.1.1 W.x0 rfl rfl (c_plan I.1.1.1 W (fun x1 S1 M1 H1 e => oI (I.e H1 e) (fun S2 M2 I2 => h 0 Y S2 M2 I2)) (fun _ => Or.inl ⟨rfl, h 1 Y S M I⟩) (fun _ _ => Or.inr (⟨rfl, h 2 Y S M I⟩)))
theorem V_plan (I : LI g a0 a1 a2 Y S M) {x y : Int32} {κ : Int32 → mM → Prop} (h : ∀ n Y' S' M', LI g a0 a1 a2 Y' S' M' → κ n M') : m_rc M (some a1) 19 fun b => wX14_plan κ (some b) x y M := by
  rw [← I.1.2.2.2.2.2.2.1]
  exact s_rc I.1.1.1 I.1.1.2.1.x0 rfl rfl (v_plan (vP.rf I.1.1) (fun x1 Y' S' M' P => h x1 Y' S' M' (I.v P)))
theorem W_wouldPay (I : LI g a0 a1 a2 Y S M) {x : Int32} {κ : Int32 → mM → Prop} (h : ∀ n Y' S' M', LI g a0 a1 a2 Y' S' M' → κ n M') : wL_wouldPay κ (some a0) x (some a2) M := by
  have W := I.1.2.1
  rw [← I.1.2.2.2.2.2.1]
  exact s_rc I.1.1.1 W.x0 rfl rfl (c_wouldPay I.1.1.1 W (fun _ => oI I (fun S2 M2 I2 => h 0 Y S2 M2 I2)) (fun _ => ⟨rfl, h 1 Y S M I⟩))
theorem V_wouldPay (I : LI g a0 a1 a2 Y S M) {x : Int32} {κ : Int32 → mM → Prop} (h : ∀ n Y' S' M', LI g a0 a1 a2 Y' S' M' → κ n M') : m_rc M (some a1) 19 fun b => wX14_wouldPay κ (some b) x M := by
  rw [← I.1.2.2.2.2.2.2.1]
  exact s_rc I.1.1.1 I.1.1.2.1.x0 rfl rfl (v_wouldPay (vP.rf I.1.1) (fun x1 Y' S' M' P => h x1 Y' S' M' (I.v P)))
theorem W_isSound (I : LI g a0 a1 a2 Y S M) {κ : Int32 → mM → Prop} (h : ∀ n, κ n M) : m_rc M (some a0) 13 fun b => wX8_isSound κ (some b) M := by
  rw [← I.1.2.2.2.2.2.1]
  exact s_rc I.1.1.1 I.1.2.1.x0 rfl rfl (c_isSound I.1.1.1 I.1.2.1 (h 1) (h 0))
theorem V_isSound (I : LI g a0 a1 a2 Y S M) {κ : Int32 → mM → Prop} (h : ∀ n Y' S' M', LI g a0 a1 a2 Y' S' M' → κ n M') : m_rc M (some a1) 19 fun b => wX14_isSound κ (some b) M := by
  rw [← I.1.2.2.2.2.2.2.1]
  exact s_rc I.1.1.1 I.1.1.2.1.x0 rfl rfl (v_isSound (vP.rf I.1.1) (fun x1 Y' S' M' P => h x1 Y' S' M' (I.v P)))
theorem W_digest (I : LI g a0 a1 a2 Y S M) {κ : Int64 → mM → Prop} (h : ∀ n S' M', LI g a0 a1 a2 Y S' M' → κ n M') : m_rc M (some a0) 13 fun b => wX8_digest κ (some b) M := by
  rw [← I.1.2.2.2.2.2.1]
  exact s_rc I.1.1.1 I.1.2.1.x0 rfl rfl (c_digest I.1.1.1 I.1.2.1 (fun x1 S' M' H' e => h x1 S' M' (I.e H' e)))
theorem V_digest (I : LI g a0 a1 a2 Y S M) {κ : Int64 → mM → Prop} (h : ∀ n Y' S' M', LI g a0 a1 a2 Y' S' M' → κ n M') : m_rc M (some a1) 19 fun b => wX14_digest κ (some b) M := by
  rw [← I.1.2.2.2.2.2.2.1]
  exact s_rc I.1.1.1 I.1.1.2.1.x0 rfl rfl (v_digest (vP.rf I.1.1) (fun x1 Y' S' M' P => h x1 Y' S' M' (I.v P)))
/-- land: both answer alike -/
theorem WV_land (I : LI g a0 a1 a2 Y S M) {x y z : Int32} {κ : Int32 → Int32 → mM → Prop} {κL : Int32 → mM → Prop} (hL : ∀ n M9, (m_rc M9 (some a1) 19 fun b15 => wX14_land (fun x13 M14 => κ n x13 M14) (some b15) x y z M9) → κL n M9) (h1 : ∀ n x13 S' M', ¬ n = 0 → LI g a0 a1 a2 Y S' M' → sI S' 20 0 0 = n → κ n x13 M') (h0 : ∀ x13 S' M', LI g a0 a1 a2 Y S' M' → sI S' 20 0 0 = 0 → sJ S' 31 0 0 = Int32.toInt64 x13 → κ 0 x13 M') : wL_land κL (some a0) x y z (some a2) M := by
  have J := I.1
  have W := J.2.1
  have e0 := J.2.2.2.2.2.1
  have e1 := J.2.2.2.2.2.2.1
  have rv : ∀ {S : mS} {M : mM} (I' : mVI g Y S M) {κ' : Int32 → mM → Prop}, wX14_land κ' (some (yA Y 20 0)) x y z M → m_rc M (some a1) 19 fun b15 => wX14_land κ' (some b15) x y z M := fun I' κ' hh => by
    rw [← e1]
    exact s_rc I'.1 I'.2.1.x0 rfl rfl hh
  rw [← e0]
  refine s_rc J.1.1 W.x0 rfl rfl (c_land J.1.1 W J.2.2.1 (fun hn => Or.inl ⟨rfl, hL 1 _ (rv J.1 (v_land J.1 (fun _ S' M' P e => h1 1 0 S' M' (by decide) (I.v P) e) (fun hy => absurd hy hn) (fun l S' M' hl hx => absurd (by rw [hx]; exact m_in (n := 6) hl (by omega)) hn)))⟩) (fun hy hn => Or.inr ⟨rfl, hL 2 _ (rv J.1 (v_land J.1 (fun hq => absurd hy hq) (fun _ _ S' M' P e => h1 2 0 S' M' (by decide) (I.v P) e) (fun l S' M' hl hx hr => absurd hr hn)))⟩) (fun l S1 M1 hl hx hr H1 W1 Q1 F1 R1 => ?_))
  have J1 := J.c H1 W1 Q1 F1
  refine oJ J1 (fun S2 M2 H2 eJ a2' => ?_)
  have J2 := J1.o H2 a2'
  refine hL 0 _ (rv J2.1 (v_land J2.1 (fun hq => absurd (by rw [hx]; exact m_in (n := 6) hl (by omega)) hq) (fun _ hn => absurd hr hn) (fun l2 S3 M3 hl2 hx2 _ I3 F3 e3 R3 => ?_)))
  have el : l2 = l := (nI_eq (by omega) (by omega)).mp (hx2.symm.trans hx)
  subst el
  have J3 := J2.v I3 F3
  have e2 : sI S2 22 l2 0 = sI S 2 l2 1 := (congrFun (a2' 22 l2 (by omega)).1 0).trans ((congrFun ((F1.2.2 22 (by omega)).2 l2).1 0).trans (I.2 l2 hl).symm)
  refine h0 _ S3 M3 ⟨J3, fun l' hl' => ?_⟩ e3 ?_
  · rw [congrFun ((F3.2.2 2 (Or.inl (by omega))).2 l').1 1, congrFun (a2' 2 l' (by omega)).1 1, R1 l', R3 l']
    by_cases z : l' = l2
    · rw [if_pos z, if_pos z]
    · rw [if_neg z, if_neg z, congrFun (a2' 22 l' (by omega)).1 0, congrFun ((F1.2.2 22 (by omega)).2 l').1 0]
      exact I.2 l' hl'
  · rw [congrFun ((F3.2.2 31 (Or.inr (Or.inl rfl))).2 0).2.1 0, eJ, e2]
set_option maxRecDepth 20000 in
theorem law_l {sb L : Nat} {xs : Nat → Int32} (hL : L ≤ 2560) {κ : Int32 → mM → Prop} (h : ∀ M, κ 1 M) : ∀ (d i k9 n9 : Nat) (Y : mY) (S : mS) (M : mM), LI g a0 a1 a2 Y S M → L < 5 * (i + d) + 5 → k9 ≤ 42 + 161 * i → n9 ≤ 1796 + 12996 * i → i ≤ 512 → wL_law_27 sb L xs g κ (d + 1) k9 n9 (some sb) (some a0) (some a1) (some a2) (nI (5 * i)) M := by
  have stop : ∀ (f i k9 n9 : Nat) (M : mM), L < 5 * i + 5 → k9 ≤ 42 + 161 * i → n9 ≤ 1796 + 12996 * i → i ≤ 512 → wL_law_27 sb L xs g κ (f + 1) k9 n9 (some sb) (some a0) (some a1) (some a2) (nI (5 * i)) M := by
    intro f i k9 n9 M hi hk hn h512
    rw [wL_law_27]
    refine ⟨⟨by omega, by omega⟩, rfl, br_t ?_ ⟨⟨by omega, by omega⟩, h M⟩⟩
    rw [Int32.lt_iff_toInt_lt, nI_toInt (by omega), show (5 : Int32) = nI 5 from rfl, show Int32.ofNat L = nI L from rfl, I_sub (by omega) (by rw [nI_toInt (by omega)]; omega) (by rw [nI_toInt (by omega)]; omega), nI_toInt (by omega)]
    omega
  intro d
  induction d with
  | zero =>
    intro i k9 n9 Y S M I hi hk hn h512
    exact stop 0 i k9 n9 M (by omega) hk hn h512
  | succ d ih =>
    intro i k9 n9 Y S M I hi hk hn h512
    by_cases zs : L < 5 * i + 5
    · exact stop (d + 1) i k9 n9 M zs hk hn h512
    have i511 : i ≤ 511 := by omega
    have kb : 42 + 161 * (i + 1) ≤ 601024 := by omega
    have nb : 1796 + 12996 * (i + 1) ≤ 7293034 := Nat.le_trans (Nat.add_le_add_left (Nat.mul_le_mul_left 12996 (show i + 1 ≤ 512 by omega)) 1796) (by decide)
    have hN : n9 + 12996 ≤ 1796 + 12996 * (i + 1) := by
      have e : 12996 * (i + 1) = 12996 * i + 12996 := Nat.mul_succ _ _
      rw [e, ← Nat.add_assoc]
      exact Nat.add_le_add_right hn 12996
    have hY : n9 + 1260 + 11736 ≤ 1796 + 12996 * (i + 1) := by
      rw [Nat.add_assoc]
      exact hN
    have sl : ∀ (c : Nat) {κ' : Int32 → Prop}, c < 5 → κ' (xs (5 * i + c)) → m_sld (some sb) sb L xs (nI (5 * i) + nI c) κ' := fun c κ' hc hh => ⟨rfl, by rw [nI_add]; exact vp_in_nI (by omega) (by omega), by rw [nI_add, nI_clamp (by omega)]; exact hh⟩
    have s1 : ∀ {κ' : Int32 → Prop}, κ' (xs (5 * i + 1)) → m_sld (some sb) sb L xs (nI (5 * i) + 1) κ' := sl 1 (by omega)
    have s2 : ∀ {κ' : Int32 → Prop}, κ' (xs (5 * i + 2)) → m_sld (some sb) sb L xs (nI (5 * i) + 2) κ' := sl 2 (by omega)
    have s3 : ∀ {κ' : Int32 → Prop}, κ' (xs (5 * i + 3)) → m_sld (some sb) sb L xs (nI (5 * i) + 3) κ' := sl 3 (by omega)
    have s4 : ∀ {κ' : Int32 → Prop}, κ' (xs (5 * i + 4)) → m_sld (some sb) sb L xs (nI (5 * i) + 4) κ' := sl 4 (by omega)
    have nxt : ∀ k9' n9' Y' S' M', LI g a0 a1 a2 Y' S' M' → k9' ≤ 42 + 161 * (i + 1) → n9' ≤ 1796 + 12996 * (i + 1) → wL_law_1259 sb L xs g κ (wL_law_27 sb L xs g κ (d + 1)) k9' n9' (some sb) (some a0) (some a1) (some a2) (nI (5 * i)) M' := fun k9' n9' Y' S' M' I' hk' hn' => by
      refine ⟨⟨Nat.le_trans hk' kb, Nat.le_trans hn' nb⟩, ?_⟩
      rw [show (5 : Int32) = nI 5 from rfl, nI_add, show 5 * i + 5 = 5 * (i + 1) by omega]
      exact ih (i + 1) k9' n9' Y' S' M' I' (by omega) hk' hn' (by omega)
    rw [wL_law_27]
    refine ⟨⟨by omega, by omega⟩, rfl, br_f ?_ ⟨rfl, vp_in_nI (by omega) (by omega), ?_⟩⟩
    · rw [Int32.lt_iff_toInt_lt, nI_toInt (by omega), show (5 : Int32) = nI 5 from rfl, show Int32.ofNat L = nI L from rfl, I_sub (by omega) (by rw [nI_toInt (by omega)]; omega) (by rw [nI_toInt (by omega)]; omega), nI_toInt (by omega)]
      omega
    rw [nI_clamp (by omega)]
    refine br_c (fun _ => ?_) (fun _ => ?_)
    · refine s1 (s2 (s3 ⟨⟨by omega, by omega⟩, ?_⟩))
      have fin : ∀ S' M', LI g a0 a1 a2 Y S' M' → wL_law_242 sb L xs g κ (wL_law_27 sb L xs g κ (d + 1)) (k9 + 3) (n9 + 18) (some sb) (some a0) (some a1) (some a2) (nI (5 * i)) M' := fun S' M' I' => ⟨⟨by omega, by omega⟩, nxt _ _ Y S' M' I' (by omega) (by omega)⟩
      have th : ∀ {S' M'} (I' : LI g a0 a1 a2 Y S' M') {κ' : Int32 → mM → Prop}, κ' (sI S' 20 0 0) M' → m_rc M' (some a1) 19 fun b18 => wX14_thrown κ' (some b18) M' := fun I' κ' hh => by
        rw [← I'.1.2.2.2.2.2.2.1]
        exact s_rc I'.1.1.1 I'.1.1.2.1.x0 rfl rfl (v_thrown I'.1.1.1 I'.1.1.2.1 hh)
      exact WV_land I (x := xs (5 * i + 1)) (y := xs (5 * i + 2)) (z := xs (5 * i + 3)) (κ := fun x8 x13 M14 => m_rc M14 (some a1) 19 fun b18 => wX14_thrown (fun x16 M17 => ((x16 = x8 → ((x8 = 0 → m_gJ M17 (some a2) 14 0 fun x21 => (((lg_cmp x21 (Int32.toInt64 x13)) = 0 → wL_law_242 sb L xs g κ (wL_law_27 sb L xs g κ (d + 1)) (k9 + 3) (n9 + 18) (some sb) (some a0) (some a1) (some a2) (nI (5 * i)) M17) ∧ (¬ ((lg_cmp x21 (Int32.toInt64 x13)) = 0) → (((k9 + 3) ≤ 601024 ∧ (n9 + 18) ≤ 7293034) ∧ κ 0 M17)))) ∧ (¬ (x8 = 0) → wL_law_242 sb L xs g κ (wL_law_27 sb L xs g κ (d + 1)) (k9 + 3) (n9 + 18) (some sb) (some a0) (some a1) (some a2) (nI (5 * i)) M17))) ∧ (¬ (x16 = x8) → (((k9 + 3) ≤ 601024 ∧ (n9 + 18) ≤ 7293034) ∧ κ 0 M17)))) (some b18) M14) (fun n M9 hh => s1 (s2 (s3 hh))) (fun n x13 S' M' hn I' e => th I' (by rw [e]; exact br_t rfl (br_f hn (fin S' M' I')))) (fun x13 S' M' I' e eJ => th I' (by
        rw [e]
        refine br_t rfl (br_t rfl ?_)
        rw [← I'.1.2.2.2.2.2.2.2]
        refine s_gJ I'.1.1.1 I'.1.2.2.2.2.1 rfl rfl rfl ?_
        rw [eJ, I'.1.2.2.2.2.2.2.2]
        exact br_t (lg_s _) (fin S' M' I')))
    refine br_c (fun _ => ?_) (fun _ => ?_)
    · exact s1 (s2 (s3 (⟨⟨by omega, by omega⟩, W_trade I (fun _ Y1 S1 M1 I1 => s1 (s2 (s3 (V_trade I1 (fun _ Y2 S2 M2 I2 => nxt _ _ Y2 S2 M2 I2 (by omega) (by omega))))))⟩)))
    refine br_c (fun _ => ?_) (fun _ => ?_)
    · exact s1 (s2 (s3 (s4 (⟨⟨by omega, by omega⟩, W_gate I (fun _ Y1 S1 M1 I1 => s1 (s2 (s3 (s4 (⟨⟨by omega, by omega⟩, V_gate I1 (fun _ Y2 S2 M2 I2 => nxt _ _ Y2 S2 M2 I2 (by omega) (by omega))⟩)))))⟩))))
    refine br_c (fun _ => ?_) (fun _ => ?_)
    · exact s1 (s2 (⟨⟨by omega, by omega⟩, W_odds I (fun _ Y1 S1 M1 I1 => s1 (s2 (V_odds I1 (fun _ Y2 S2 M2 I2 => nxt _ _ Y2 S2 M2 I2 (by omega) (by omega)))))⟩))
    refine br_c (fun _ => ?_) (fun _ => ?_)
    · exact s1 (⟨⟨by omega, by omega⟩, W_relieve I (fun _ Y1 S1 M1 I1 => s1 (V_relieve I1 (fun _ Y2 S2 M2 I2 => nxt _ _ Y2 S2 M2 I2 (by omega) (by omega))))⟩)
    refine br_c (fun _ => ?_) (fun _ => ?_)
    · have i483 : ∀ b v k9' n9' Y' S' M', (b = 0 ∨ b = 1) → LI g a0 a1 a2 Y' S' M' → k9' + 2 ≤ 42 + 161 * (i + 1) → n9' + 24 ≤ 1796 + 12996 * (i + 1) → wL_law_483 sb L xs g κ (wL_law_27 sb L xs g κ (d + 1)) k9' n9' (some sb) (some a0) (some a1) (some a2) (nI (5 * i)) b v (some a1) M' := fun b v k9' n9' Y' S' M' hb I' hk' hn' => ⟨⟨Nat.le_trans (Nat.le_add_right _ _) (Nat.le_trans hk' kb), Nat.le_trans (Nat.le_add_right _ _) (Nat.le_trans hn' nb)⟩, s3 ⟨⟨Nat.le_trans hk' kb, Nat.le_trans hn' nb⟩, V_sleeper I' hb (fun _ Y2 S2 M2 I2 => nxt _ _ Y2 S2 M2 I2 (by omega) (by omega))⟩⟩
      have i450 : ∀ b v, (b = 0 ∨ b = 1) → wL_law_450 sb L xs g κ (wL_law_27 sb L xs g κ (d + 1)) k9 n9 (some sb) (some a0) (some a1) (some a2) (nI (5 * i)) b v (some a0) M := fun b v hb => ⟨⟨by omega, by omega⟩, s3 ⟨⟨by omega, by omega⟩, W_sleeper I hb (fun _ Y1 S1 M1 I1 => s1 (s2 (br_c (fun _ => i483 0 _ _ _ Y1 S1 M1 (Or.inl rfl) I1 (by omega) (by omega)) (fun _ => i483 1 _ _ _ Y1 S1 M1 (Or.inr rfl) I1 (by omega) (by omega)))))⟩⟩
      exact s1 (s2 (br_c (fun _ => i450 0 _ (Or.inl rfl)) (fun _ => i450 1 _ (Or.inr rfl))))
    refine br_c (fun _ => ?_) (fun _ => ?_)
    · exact s1 (s2 (s3 (s4 (⟨⟨by omega, by omega⟩, W_part I (fun _ Y1 S1 M1 I1 => s1 (s2 (s3 (s4 (⟨⟨by omega, by omega⟩, V_part I1 (fun _ Y2 S2 M2 I2 => nxt _ _ Y2 S2 M2 I2 (by omega) (by omega))⟩)))))⟩))))
    refine br_c (fun _ => ?_) (fun _ => ?_)
    · exact s1 (s2 (⟨⟨by omega, by omega⟩, W_give I (fun _ Y1 S1 M1 I1 => s1 (s2 (V_give I1 (fun _ Y2 S2 M2 I2 => nxt _ _ Y2 S2 M2 I2 (by omega) (by omega)))))⟩))
    refine br_c (fun _ => ?_) (fun _ => ?_)
    · exact s1 (s2 (s3 (s4 (⟨⟨by omega, by omega⟩, W_sing I (fun _ Y1 S1 M1 I1 => s1 (s2 (s3 (s4 (V_sing I1 (fun _ Y2 S2 M2 I2 => nxt _ _ Y2 S2 M2 I2 (by omega) (by omega)))))))⟩))))
    refine br_c (fun _ => ?_) (fun _ => ?_)
    · exact s1 (s2 (⟨⟨by omega, by omega⟩, W_revoke I (fun _ Y1 S1 M1 I1 => s1 (s2 (V_revoke I1 (fun _ Y2 S2 M2 I2 => nxt _ _ Y2 S2 M2 I2 (by omega) (by omega)))))⟩))
    refine br_c (fun _ => ?_) (fun _ => ?_)
    · exact s1 (s2 (s3 (⟨⟨by omega, by omega⟩, W_join I (fun _ Y1 S1 M1 I1 => s1 (s2 (s3 (⟨⟨by omega, by omega⟩, V_join I1 (fun _ Y2 S2 M2 I2 => nxt _ _ Y2 S2 M2 I2 (by omega) (by omega))⟩))))⟩)))
    refine br_c (fun _ => ?_) (fun _ => ?_)
    · exact s1 (⟨⟨by omega, by omega⟩, W_leave I (fun _ Y1 S1 M1 I1 => s1 (V_leave I1 (fun _ Y2 S2 M2 I2 => nxt _ _ Y2 S2 M2 I2 (by omega) (by omega))))⟩)
    refine br_c (fun _ => ?_) (fun _ => ?_)
    · exact s1 (⟨⟨by omega, by omega⟩, W_yawn I (fun _ Y1 S1 M1 I1 => s1 (⟨⟨by omega, Nat.le_trans hY nb⟩, V_yawn I1 (fun _ Y2 S2 M2 I2 => nxt _ _ Y2 S2 M2 I2 (by omega) hY)⟩))⟩)
    refine br_c (fun _ => ?_) (fun _ => ?_)
    · exact s1 (⟨⟨by omega, by omega⟩, W_appeal I (fun _ Y1 S1 M1 I1 => s1 (V_appeal I1 (fun _ Y2 S2 M2 I2 => nxt _ _ Y2 S2 M2 I2 (by omega) (by omega))))⟩)
    refine br_c (fun _ => ?_) (fun _ => ?_)
    · exact s1 (⟨⟨by omega, by omega⟩, W_pass I (fun _ Y1 S1 M1 I1 => s1 (⟨⟨by omega, by omega⟩, V_pass I1 (fun _ Y2 S2 M2 I2 => nxt _ _ Y2 S2 M2 I2 (by omega) (by omega))⟩))⟩)
    refine br_c (fun _ => ?_) (fun _ => ?_)
    · exact s1 (s2 (⟨⟨by omega, by omega⟩, W_ofLand I (fun _ Y1 S1 M1 I1 => s1 (s2 (V_ofLand I1 (fun _ Y2 S2 M2 I2 => nxt _ _ Y2 S2 M2 I2 (by omega) (by omega)))))⟩))
    refine br_c (fun _ => ?_) (fun _ => ?_)
    · exact s1 (s2 (⟨⟨by omega, by omega⟩, W_ofGate I (fun _ Y1 S1 M1 I1 => s1 (s2 (V_ofGate I1 (fun _ Y2 S2 M2 I2 => nxt _ _ Y2 S2 M2 I2 (by omega) (by omega)))))⟩))
    refine br_c (fun _ => ?_) (fun _ => ?_)
    · exact s1 (s2 (⟨⟨by omega, by omega⟩, W_ofSleeper I (fun _ Y1 S1 M1 I1 => s1 (s2 (V_ofSleeper I1 (fun _ Y2 S2 M2 I2 => nxt _ _ Y2 S2 M2 I2 (by omega) (by omega)))))⟩))
    refine br_c (fun _ => ?_) (fun _ => ?_)
    · exact s1 (s2 (⟨⟨by omega, by omega⟩, W_ofPart I (fun _ Y1 S1 M1 I1 => s1 (s2 (V_ofPart I1 (fun _ Y2 S2 M2 I2 => nxt _ _ Y2 S2 M2 I2 (by omega) (by omega)))))⟩))
    refine br_c (fun _ => ?_) (fun _ => ?_)
    · exact s1 (s2 (⟨⟨by omega, by omega⟩, W_isGood I (fun _ Y1 S1 M1 I1 => s1 (s2 (V_isGood I1 (fun _ Y2 S2 M2 I2 => nxt _ _ Y2 S2 M2 I2 (by omega) (by omega)))))⟩))
    refine br_c (fun _ => ?_) (fun _ => ?_)
    · exact s1 (⟨⟨by omega, by omega⟩, W_queue I (fun _ Y1 S1 M1 I1 => s1 (⟨⟨by omega, by omega⟩, V_queue I1 (fun _ Y2 S2 M2 I2 => nxt _ _ Y2 S2 M2 I2 (by omega) (by omega))⟩))⟩)
    refine br_c (fun _ => ?_) (fun _ => ?_)
    · exact s1 (⟨⟨by omega, by omega⟩, W_night I (fun _ Y1 S1 M1 I1 => s1 (⟨⟨by omega, by omega⟩, V_night I1 (fun _ Y2 S2 M2 I2 => nxt _ _ Y2 S2 M2 I2 (by omega) (by omega))⟩))⟩)
    refine br_c (fun _ => ?_) (fun _ => ?_)
    · exact s1 (s2 (⟨⟨by omega, by omega⟩, W_way I (fun _ Y1 S1 M1 I1 => s1 (s2 (V_way I1 (fun _ Y2 S2 M2 I2 => nxt _ _ Y2 S2 M2 I2 (by omega) (by omega)))))⟩))
    refine br_c (fun _ => ?_) (fun _ => ?_)
    · exact s1 (s2 (⟨⟨by omega, by omega⟩, W_plan I (fun _ Y1 S1 M1 I1 => s1 (s2 (⟨⟨by omega, by omega⟩, V_plan I1 (fun _ Y2 S2 M2 I2 => nxt _ _ Y2 S2 M2 I2 (by omega) (by omega))⟩)))⟩))
    refine br_c (fun _ => ?_) (fun _ => ?_)
    · exact s1 (⟨⟨by omega, by omega⟩, W_wouldPay I (fun _ Y1 S1 M1 I1 => s1 (V_wouldPay I1 (fun _ Y2 S2 M2 I2 => nxt _ _ Y2 S2 M2 I2 (by omega) (by omega))))⟩)
    refine br_c (fun _ => ?_) (fun _ => ?_)
    · exact W_isSound I (fun _ => ⟨⟨by omega, by omega⟩, V_isSound I (fun _ Y2 S2 M2 I2 => nxt _ _ Y2 S2 M2 I2 (by omega) (by omega))⟩)
    refine br_c (fun _ => ?_) (fun _ => ?_)
    · exact W_digest I (fun _ S1 M1 I1 => ⟨⟨by omega, by omega⟩, V_digest I1 (fun _ Y2 S2 M2 I2 => nxt _ _ Y2 S2 M2 I2 (by omega) (by omega))⟩)
    exact nxt _ _ Y S M I (by omega) (by omega)
set_option maxRecDepth 20000 in
/-- the law, from a memory of what may not be written -/
theorem law_p {sb L : Nat} {xs : Nat → Int32} (hL : L ≤ 2560) (H : mR g Y S M) (K : mKs g Y S) (hz : ∀ k, k < 30 → yn Y k = 0) (h31 : yn Y 31 = 0) (hb : yn Y 30 = 128 ∧ yn Y 33 = 1) (hc : (∀ v, v < 128 → sI S 30 v 0 = nI v) ∧ sC S 33 0 = 256 ∧ ∀ v, v < 128 → sP S 33 0 (128 + v) = some (yA Y 30 v)) {κ : Int32 → mM → Prop} (h : ∀ M, κ 1 M) : wL_law sb L xs g κ (some sb) M := by
  refine ⟨⟨by omega, by omega⟩, r_new (fun q1 M2 hq h2 o2 => ⟨⟨by omega, by omega⟩, ?_⟩)⟩
  have F1 := H.fr hq
  have H2 := H.off F1 o2
  refine r_rc h2 (c_init H2 F1 h2 (fun k hk => hz k (by omega)) (fun Y1 S1 M3 H3 W Q F R ea => ⟨⟨by omega, by omega⟩, r_new (fun q5 M6 hq5 h6 o6 => ⟨⟨by omega, by omega⟩, ?_⟩)⟩))
  have F5 := H3.fr hq5
  have H6 := H3.off F5 o6
  have n := fun k (hk : 20 ≤ k) => F.2.2 k hk
  refine r_rc h6 (v_init H6 F5 h6 (fun k h1 h2 => (n k h1).1.trans (hz k h2)) ⟨(n 30 (by omega)).1.trans hb.1, (n 33 (by omega)).1.trans hb.2⟩ ⟨fun v hv => (congrFun ((n 30 (by omega)).2 v).1 0).trans (hc.1 v hv), (((n 33 (by omega)).2 0).2.2.2.2.2.2.1).trans hc.2.1, fun v hv => ?_⟩ (fun Y2 S2 M7 I7 G R2 eb => ⟨⟨by omega, by omega⟩, r_new (fun q9 M10 hq9 h10 o10 => ?_)⟩))
  · rw [congrFun ((n 33 (by omega)).2 0).2.2.2.2.2.2.2.2 (128 + v), hc.2.2 v hv, F.1 30 v (by omega)]
  have F9 := I7.1.fr hq9
  have H10 := I7.1.off F9 o10
  refine r_rc h10 ⟨q9, rfl, ?_⟩
  have aw : ∀ k, k < 20 → yn Y2 k = yn Y1 k ∧ ∀ i, mEq S2 S1 k i := fun k hk => G.2.2 k (Or.inl hk)
  have W2 := W.TT aw G.1
  have Q2 := Q.TT aw
  have K2 : mKs g Y2 S2 := (K.Fc F).Fm G
  have y31 : yn Y2 31 = 0 := (G.2.2 31 (Or.inr (Or.inl rfl))).1.trans ((n 31 (by omega)).1.trans h31)
  obtain ⟨Y3, S3, H11, A⟩ := H10.alloc2 (k := 31) F9 (fun _ => 0) (fun _ => 0) (fun _ => none) (fun _ => 0) [] 0 rfl (by decide) (by decide) (fun z => absurd z (by decide)) h10 (fun f t' ht' => by
    rcases f with _ | _ | f <;> cases ht' <;> exact ⟨fun z => absurd z (by decide), fun z => absurd z (by decide), fun z => absurd z (by decide), fun z => absurd z (by decide)⟩)
  obtain ⟨x1, x2, x3, x4, x5, -⟩ := A
  rw [y31] at x4
  have av : ∀ k, 20 ≤ k → k ≠ 31 → yn Y3 k = yn Y2 k ∧ ∀ i, mEq S3 S2 k i := fun k _ h2 => ⟨x3 k h2, fun i => x5 k i (by omega)⟩
  have ac : ∀ k, k < 20 → yn Y3 k = yn Y2 k ∧ ∀ i, mEq S3 S2 k i := fun k h => ⟨x3 k (by omega), fun i => x5 k i (by omega)⟩
  obtain ⟨_, V, VV, VQ, VT⟩ := I7
  have I : LI g q1 q5 q9 Y3 S3 M10 := ⟨⟨⟨H11, V.TT av x1, VV.TT av, VQ.TT av, VT.TT av⟩, W2.TT ac x1, Q2.TT ac, K2.E (fun k h1 h2 => ⟨x3 k (by omega), fun i => x5 k i (by omega)⟩) x1, by rw [x2]; omega, (x1 0 0 W2.x0).trans ((G.1 0 0 W.x0).trans ea), (x1 20 0 V.x0).trans eb, x4⟩, fun l hl => ?_⟩
  · exact ⟨L + 1, law_l hL h L 0 _ _ Y3 S3 M10 I (by omega) (by omega) (by omega) (by omega)⟩
  · rw [congrFun (x5 2 l (by omega)).1 1, congrFun (x5 22 l (by omega)).1 0, congrFun ((aw 2 (by omega)).2 l).1 1, R l hl, R2 l hl]
end LAWP
