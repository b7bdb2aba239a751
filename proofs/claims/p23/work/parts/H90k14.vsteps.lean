/-! THE SIMULATION, 5: the reference's short methods that write -/
def vN (g : Nat → Nat) (N : mN) (Y0 : mY) (S0 : mS) (Y : mY) (S : mS) (M : mM) : Prop := mVI g Y S M ∧ mFm Y0 S0 Y S ∧ RV N Y S
section SIMV1
variable {g : Nat → Nat} {Y : mY} {S : mS} {M : mM} {N : mN} {Y0 : mY} {S0 : mS}
theorem n_I (P : vN g N Y0 S0 Y S M) {k i f : Nat} {v : Int32} {M' : mM} (H' : mR g Y (uI S k i f v) M') (hv : vOK Y k f v) (hk : 20 ≤ k ∧ k ≠ 31 ∧ ¬ (35 ≤ k ∧ k ≤ 37) ∧ k ≠ 30 ∧ ¬ (k = 20 ∧ (f = 1 ∨ f = 2)) ∧ ¬ (k = 28 ∧ (f = 3 ∨ f = 4)) ∧ ¬ (k = 29 ∧ (f = 3 ∨ f = 5))) : vN g (nU N k i f v) Y0 S0 Y (uI S k i f v) M' := by
  obtain ⟨⟨H, V, VV, VQ, VT⟩, F, R⟩ := P
  exact ⟨⟨H', vS_uI V (by omega), vV_uI VV hv (by omega), vQ_uI VQ (by omega), vT_uI VT (by omega)⟩, F.tr (mFm.uI (by omega)), R.pI⟩
theorem n_th (P : vN g N Y0 S0 Y S M) {n : Int32} {κ : mM → Prop} (h : ∀ S' M', vN g N Y0 S0 Y S' M' → sI S' 20 0 0 = n → κ M') : m_p M (some (yA Y 20 0)) 19 0 (.int n) κ := s_pI P.1.1 P.1.2.1.x0 rfl rfl rfl (fun M1 H1 => h _ M1 ⟨(n_I P H1 trivial (by omega)).1, (n_I P H1 trivial (by omega)).2.1, P.2.2.thr⟩ sI_uI_s)
theorem n_rf (P : vN g N Y0 S0 Y S M) {n : Int32} {κ : Int32 → mM → Prop} (h : ∀ S' M', vN g N Y0 S0 Y S' M' → sI S' 20 0 0 = n → κ 0 M') : m_rc M (some (yA Y 20 0)) 19 fun b => wX14_refuse κ (some b) n M := s_rc P.1.1 P.1.2.1.x0 rfl rfl (n_th P h)
theorem D_land (P : vN g N Y0 S0 Y S M) {a r al : Int32} {κ : Int32 → mM → Prop} (h : ∀ n v N' Y' S' M', fLand N a r al = (n, v, N') → vN g N' Y0 S0 Y' S' M' → sI S' 20 0 0 = n → κ v M') : wX14_land κ (some (yA Y 20 0)) a r al M := by
  unfold fLand at h
  refine n_th P (fun S1 M1 P1 e1 => ?_)
  have H := P1.1.1
  have V := P1.1.2.1
  refine s_rc H V.x0 rfl rfl (v_isLand (fun l hl el => br_f (by decide) (v_is (fun z1 w1 => br_f (by decide) (v_is (fun z2 w2 => br_f (by decide) ?_) (fun n => br_t rfl ?_))) (fun n => br_t rfl ?_))) (fun n => br_t rfl (n_rf P1 (fun S2 M2 P2 e2 => h 1 0 N Y S2 M2 (by rw [if_pos n]) P2 e2))))
  all_goals have hv : ¬ a < 0 ∧ a < 6 := by rw [el]; exact m_in (n := 6) hl (by omega)
  · subst el
    refine v_Ld H V hl (s_gI H (V.l22 hl) rfl rfl rfl (v_Ld H V hl (s_pI H (V.l22 hl) rfl rfl rfl (fun M2 H2 => ?_))))
    have P2 := n_I P1 H2 trivial (by omega)
    refine v_Ld H2 P2.1.2.1 hl (s_pI H2 (V.l22 hl) rfl rfl rfl (fun M3 H3 => ?_))
    refine h 0 _ _ Y _ M3 ?_ (n_I P2 H3 trivial (by omega)) (((sI_uI (by omega)).trans (sI_uI (by omega))).trans e1)
    rw [if_neg (fun w => w hv), if_neg (fun w => w ⟨⟨z1, Int32.not_lt.mp w1⟩, ⟨z2, Int32.not_lt.mp w2⟩⟩), tN_nI (by omega), P1.2.2.2.1 22 l 0 rfl (V.l22 hl)]
  · exact n_rf P1 (fun S2 M2 P2 e2 => h 2 0 N Y S2 M2 (by rw [if_neg (fun w => w hv), if_pos (fun q => n ⟨q.2.1, Int32.not_lt.mpr q.2.2⟩)]) P2 e2)
  · exact n_rf P1 (fun S2 M2 P2 e2 => h 2 0 N Y S2 M2 (by rw [if_neg (fun w => w hv), if_pos (fun q => n ⟨q.1.1, Int32.not_lt.mpr q.1.2⟩)]) P2 e2)
theorem D_trade (P : vN g N Y0 S0 Y S M) {a b n : Int32} {κ : Int32 → mM → Prop} (h : ∀ k v N' Y' S' M', fTrade N a b n = (k, v, N') → vN g N' Y0 S0 Y' S' M' → sI S' 20 0 0 = k → κ v M') : wX14_trade κ (some (yA Y 20 0)) a b n M := by
  unfold fTrade at h
  refine n_th P (fun S1 M1 P1 e1 => ?_)
  have H := P1.1.1
  have V := P1.1.2.1
  have f1 : ¬ ((¬ a < 0 ∧ a < 6) ∧ (¬ b < 0 ∧ b < 6)) → wX14_trade_21 κ (some (yA Y 20 0)) M1 := fun z => n_rf P1 (fun S2 M2 P2 e2 => h 1 0 N Y S2 M2 (by rw [if_pos z]) P2 e2)
  have f2 : ((¬ a < 0 ∧ a < 6) ∧ (¬ b < 0 ∧ b < 6)) → (a = b ∨ ¬ 0 ≤ n) → wX14_trade_36 κ (some (yA Y 20 0)) M1 := fun z w => n_rf P1 (fun S2 M2 P2 e2 => h 2 0 N Y S2 M2 (by rw [if_neg (fun q => q z), if_pos w]) P2 e2)
  refine s_rc H V.x0 rfl rfl (v_isLand (fun l hl el => br_f (by decide) (s_rc H V.x0 rfl rfl (v_isLand (fun l' hl' el' => br_f (by decide) ?_) (fun z => br_t rfl (f1 (fun w => z w.2)))))) (fun z => br_t rfl (f1 (fun w => z w.1))))
  have va : ¬ a < 0 ∧ a < 6 := by rw [el]; exact m_in (n := 6) hl (by omega)
  have vb : ¬ b < 0 ∧ b < 6 := by rw [el']; exact m_in (n := 6) hl' (by omega)
  have q1 : ∀ l, l < 6 → sI S1 22 l 2 = nv N 22 l 2 := fun l hl => P1.2.2.2.1 22 l 2 rfl (V.l22 hl)
  refine br_c (fun q => f2 ⟨va, vb⟩ (Or.inl q)) (fun nab => br_c (fun q2 => ?_) (fun q2 => f2 ⟨va, vb⟩ (Or.inr q2)))
  have nq : ¬ (a = b ∨ ¬ 0 ≤ n) := fun w => w.elim nab (fun w => w q2)
  have t1 : tN a = l := by rw [el]; exact tN_nI (by omega)
  have t2 : tN b = l' := by rw [el']; exact tN_nI (by omega)
  rw [t1, t2] at h
  have f3 : (nv N 22 l 2 < n ∨ ¬ nv N 22 l' 2 + n ≤ 30) → wX14_trade_71 κ (some (yA Y 20 0)) M1 := fun z => n_rf P1 (fun S2 M2 P2 e2 => h 3 0 N Y S2 M2 (by rw [if_neg (fun w => w ⟨va, vb⟩), if_neg nq, if_pos z]) P2 e2)
  subst el
  subst el'
  refine v_Ld H V hl (s_gI H (V.l22 hl) rfl rfl rfl ?_)
  rw [q1 l hl]
  refine br_c (fun z => f3 (Or.inl z)) (fun z => v_Ld H V hl' (s_gI H (V.l22 hl') rfl rfl rfl ?_))
  rw [q1 l' hl']
  refine br_c (fun w => ?_) (fun w => f3 (Or.inr w))
  refine v_Ld H V hl (s_gI H (V.l22 hl) rfl rfl rfl ?_)
  rw [q1 l hl]
  refine s_pI H (V.l22 hl) rfl rfl rfl (fun M2 H2 => ?_)
  have P2 := n_I P1 H2 trivial (by omega)
  refine v_Ld H2 P2.1.2.1 hl' (s_gI H2 (V.l22 hl') rfl rfl rfl ?_)
  have ne : l' ≠ l := fun z => nab (by rw [z])
  have e2 : sI (uI S1 22 l 2 (nv N 22 l 2 - n)) 22 l' 2 = nv N 22 l' 2 := (sI_uI (by omega)).trans (q1 l' hl')
  rw [e2]
  refine s_pI H2 (V.l22 hl') rfl rfl rfl (fun M3 H3 => ?_)
  have P3 := n_I P2 H3 trivial (by omega)
  refine v_Ld H3 P3.1.2.1 hl' (s_gI H3 (V.l22 hl') rfl rfl rfl ?_)
  rw [sI_uI_s]
  refine h 0 _ _ Y _ M3 ?_ P3 (((sI_uI (by omega)).trans (sI_uI (by omega))).trans e1)
  rw [if_neg (fun w => w ⟨va, vb⟩), if_neg nq, if_neg (fun q => q.elim z (fun q => q w))]
theorem D_odds (P : vN g N Y0 S0 Y S M) {a b : Int32} {κ : Int32 → mM → Prop} (h : ∀ k v N' Y' S' M', fOdds N a b = (k, v, N') → vN g N' Y0 S0 Y' S' M' → sI S' 20 0 0 = k → κ v M') : wX14_odds κ (some (yA Y 20 0)) a b M := by
  unfold fOdds at h
  rw [← P.2.2.1.1] at h
  refine n_th P (fun S1 M1 P1 e1 => ?_)
  have H := P1.1.1
  have V := P1.1.2.1
  have hbd := V.2.1
  refine s_rc H V.x0 rfl rfl (v_isGate H V (fun t ht et => br_f (by decide) (v_is (fun r1 r2 => br_f (by decide) ?_) (fun n => br_t rfl ?_))) (fun n => br_t rfl (n_rf P1 (fun S2 M2 P2 e2 => h 1 0 N Y S2 M2 (by rw [if_pos n]) P2 e2))))
  all_goals have hv : ¬ a < 0 ∧ a < nI (yn Y 23) := by rw [et]; exact m_in ht (by omega)
  · subst et
    refine v_G H V ht (s_gI H ht rfl rfl rfl (v_G H V ht (s_pI H ht rfl rfl rfl (fun M2 H2 => ?_))))
    refine h 0 _ _ Y _ M2 ?_ (n_I P1 H2 trivial (by omega)) ((sI_uI (by omega)).trans e1)
    rw [if_neg (fun w => w hv), if_neg (fun w => w ⟨r1, Int32.not_lt.mp r2⟩), tN_nI (by omega), P1.2.2.2.1 23 t 4 rfl ht]
  · exact n_rf P1 (fun S2 M2 P2 e2 => h 2 0 N Y S2 M2 (by rw [if_neg (fun w => w hv), if_pos (fun q => n ⟨q.1, Int32.not_lt.mpr q.2⟩)]) P2 e2)
theorem D_relieve (P : vN g N Y0 S0 Y S M) {a : Int32} {κ : Int32 → mM → Prop} (h : ∀ k v N' Y' S' M', fRelieve N a = (k, v, N') → vN g N' Y0 S0 Y' S' M' → sI S' 20 0 0 = k → κ v M') : wX14_relieve κ (some (yA Y 20 0)) a M := by
  unfold fRelieve at h
  rw [← P.2.2.1.1] at h
  refine n_th P (fun S1 M1 P1 e1 => ?_)
  have H := P1.1.1
  have V := P1.1.2.1
  have hbd := V.2.1
  refine s_rc H V.x0 rfl rfl (v_isGate H V (fun t ht et => br_f (by decide) ?_) (fun n => br_t rfl (n_rf P1 (fun S2 M2 P2 e2 => h 1 0 N Y S2 M2 (by rw [if_pos n]) P2 e2))))
  have hv : ¬ a < 0 ∧ a < nI (yn Y 23) := by rw [et]; exact m_in ht (by omega)
  subst et
  refine v_G H V ht (s_gI H ht rfl rfl rfl (v_G H V ht (s_pI H ht rfl rfl rfl (fun M2 H2 => ?_))))
  refine h 0 _ _ Y _ M2 ?_ (n_I P1 H2 trivial (by omega)) ((sI_uI (by omega)).trans e1)
  rw [if_neg (fun w => w hv), tN_nI (by omega), P1.2.2.2.1 23 t 5 rfl ht]
end SIMV1
