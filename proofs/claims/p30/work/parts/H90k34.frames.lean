/-! THE SIMULATION, 25: what the asked methods of the reference leave: the state as it was -/
section SIM25
variable {g : Nat → Nat} {Y : mY} {S : mS} {M : mM}
theorem vN_X1 {Y0 : mY} {S0 : mS} {N : mN} (P : vN g N Y0 S0 Y S M) {k : Nat} (hk : k = 32 ∨ k = 38) {Y1 : mY} {S1 : mS} {M1 : mM} (H1 : mR g Y1 S1 M1) (a : mX1 Y S k Y1 S1) : vN g N Y0 S0 Y1 S1 M1 := by
  have Q := vP_X1 (Y0 := Y) (S0 := S) ⟨P.1, mFm.rf Y S, vQ.rf Y S⟩ hk H1 a
  exact ⟨Q.1, P.2.1.tr Q.2.1, P.2.2.X1 P.1.2.1 hk a⟩
theorem vN_nx {Y0 : mY} {S0 : mS} {N : mN} (P : vN g N Y0 S0 Y S M) {i c : Nat} {M' : mM} (H' : mR g Y (uI (uI S 32 i 0 (nI (c + 1))) 32 i 1 (nI c)) M') : vN g N Y0 S0 Y (uI (uI S 32 i 0 (nI (c + 1))) 32 i 1 (nI c)) M' := by
  have Q := vP_nx (Y0 := Y) (S0 := S) ⟨P.1, mFm.rf Y S, vQ.rf Y S⟩ H'
  exact ⟨Q.1, P.2.1.tr Q.2.1, P.2.2.nx.nx⟩
theorem vN_E {Y0 : mY} {S0 : mS} {N : mN} (P : vN g N Y0 S0 Y S M) {i f : Nat} {v : Int32} {M' : mM} (H' : mR g Y (uE S 38 i f v) M') (_ : (20 : Nat) ≤ 38) : vN g N Y0 S0 Y (uE S 38 i f v) M' := by
  have Q := vP_E (Y0 := Y) (S0 := S) ⟨P.1, mFm.rf Y S, vQ.rf Y S⟩ H' (by omega)
  exact ⟨Q.1, P.2.1.tr Q.2.1, P.2.2.cg (fun _ _ _ _ => rfl) (fun _ => rfl) rfl (fun t u => show (if 26 = 38 ∧ t = i ∧ u = f then v else sE S 26 t u) = _ from if_neg (by omega))⟩
theorem vN_J {Y0 : mY} {S0 : mS} {N : mN} (P : vN g N Y0 S0 Y S M) {k i f : Nat} {v : Int64} {M' : mM} (H' : mR g Y (uJ S k i f v) M') (hk : 20 ≤ k ∧ k ≠ 31 ∧ ¬ (35 ≤ k ∧ k ≤ 37)) : vN g N Y0 S0 Y (uJ S k i f v) M' := by
  have Q := vP_J (Y0 := Y) (S0 := S) ⟨P.1, mFm.rf Y S, vQ.rf Y S⟩ H' hk
  exact ⟨Q.1, P.2.1.tr Q.2.1, P.2.2.cg (fun _ _ _ _ => rfl) (fun _ => rfl) rfl (fun _ _ => rfl)⟩
theorem f_th {Y0 : mY} {S0 : mS} {N : mN} (P : vN g N Y0 S0 Y S M) {n : Int32} {κ : mM → Prop} (h : ∀ S' M', vN g N Y0 S0 Y S' M' → sI S' 20 0 0 = n → S' = uI S 20 0 0 n → κ M') : m_p M (some (yA Y 20 0)) 19 0 (.int n) κ := s_pI P.1.1 P.1.2.1.x0 rfl rfl rfl (fun M1 H1 => h _ M1 ⟨(n_I P H1 trivial (by omega)).1, (n_I P H1 trivial (by omega)).2.1, P.2.2.thr⟩ sI_uI_s rfl)
theorem f_row {Y0 : mY} {S0 : mS} {N : mN} (P : vN g N Y0 S0 Y S M) {n B : Nat} (hn : n < 2 ^ 31) (hB : n ≤ B) {κ : Nat → mM → Prop} (h : ∀ Y1 S1 M1 i, vN g N Y0 S0 Y1 S1 M1 → mX1 Y S 38 Y1 S1 → i < yn Y1 38 → sC S1 38 i = n → sE S1 38 i = (fun _ => 0) → κ (yA Y1 38 i) M1) : m_newI M 0 (nI n) B κ := by
  have H := P.1.1
  refine r_newI hn hB (fun q M1 hq h1 o1 => ?_)
  have hF := H.fr hq
  have H1 : mR g Y S M1 := H.off hF o1
  have eC : sC (uO S 38 (yn Y 38) (fun _ => 0) (fun _ => 0) (fun _ => none) (fun _ => 0) [] 0 n (fun _ => 0) (fun _ => none)) 38 (yn Y 38) = n := if_pos ⟨rfl, rfl⟩
  have eE : sE (uO S 38 (yn Y 38) (fun _ => 0) (fun _ => 0) (fun _ => none) (fun _ => 0) [] 0 n (fun _ => 0) (fun _ => none)) 38 (yn Y 38) = (fun _ => 0) := if_pos ⟨rfl, rfl⟩
  have H2 := H1.alloc (k := 38) hF (uO S 38 (yn Y 38) (fun _ => 0) (fun _ => 0) (fun _ => none) (fun _ => 0) [] 0 n (fun _ => 0) (fun _ => none)) (fun k' i' hi => mEq.uO (fun z => by obtain ⟨rfl, rfl⟩ := z; exact Nat.lt_irrefl _ hi)) (by
    rw [h1]
    show _ = some (Sum.inl (0, sC _ 38 (yn Y 38), Sum.inl (sE _ 38 (yn Y 38))))
    rw [eC, eE]) (fun z => absurd z (by decide)) (fun f t ht => by cases ht) (by decide) (by decide)
  have a : mX1 Y S 38 (aY Y 38 q) (uO S 38 (yn Y 38) (fun _ => 0) (fun _ => 0) (fun _ => none) (fun _ => 0) [] 0 n (fun _ => 0) (fun _ => none)) := ⟨fun k' i' hi => aY_A hi, aY_n, fun k' z => aY_nn z, fun k' i' z => mEq.uO z⟩
  have hq' : yA (aY Y 38 q) 38 (yn Y 38) = q := aY_q
  generalize aY Y 38 q = Y1 at H2 a hq'
  rw [← hq']
  exact h Y1 _ M1 _ (vN_X1 P (Or.inr rfl) H2 a) a (by rw [a.2.1]; omega) eC eE
end SIM25
