/-! THE SIMULATION, 25: what the asked methods of the reference leave: the state as it was -/
section SIM25
variable {g : Nat → Nat} {Y : mY} {S : mS} {M : mM}
theorem vN_X1 {Y0 : mY} {S0 : mS} {N : mN} (P : vN g N Y0 S0 Y S M) {k : Nat} (hk : k = 32 ∨ k = 38) {Y1 : mY} {S1 : mS} {M1 : mM} (H1 : mR g Y1 S1 M1) (a : mX1 Y S k Y1 S1) : vN g N Y0 S0 Y1 S1 M1 := by
  have Q := vP_X1 (Y0 := Y) (S0 := S) ⟨P.1, mFm.rf Y S, vQ.rf Y S⟩ hk H1 a
  exact ⟨Q.1, P.2.1.tr Q.2.1, P.2.2.X1 P.1.2.1 hk a⟩
theorem vN_nx {Y0 : mY} {S0 : mS} {N : mN} (P : vN g N Y0 S0 Y S M) {i c : Nat} {M' : mM} (H' : mR g Y (uI (uI S 32 i 0 (nI (c + 1))) 32 i 1 (nI c)) M') : vN g N Y0 S0 Y (uI (uI S 32 i 0 (nI (c + 1))) 32 i 1 (nI c)) M' := by
  have Q := vP_nx (Y0 := Y) (S0 := S) ⟨P.1, mFm.rf Y S, vQ.rf Y S⟩ H'
  exact ⟨Q.1, P.2.1.tr Q.2.1, P.2.2.nx.nx⟩
theorem vN_E {Y0 : mY} {S0 : mS} {N : mN} (P : vN g N Y0 S0 Y S M) {i f : Nat} {v : Int32} {M' : mM} (H' : mR g Y (uE S 38 i f v) M') (_ : (20 : Nat) ≤ 38) : vN g N Y0 S0 Y (uE S 38 i f v) M' := by
  have Q := vP_E (Y0 := Y) (S0 := S) ⟨P.1, mFm.rf Y S, vQ.rf Y S⟩ H' (by omega)
  exact ⟨Q.1, P.2.1.tr Q.2.1, P.2.2.cg (fun _ _ _ _ => rfl) (fun _ => rfl) rfl (fun t u => show (if 26 = 38 ∧ t = i ∧ u = f then v else sE S 26 t u) = _ from if_neg (by omega))⟩
theorem vN_J {Y0 : mY} {S0 : mS} {N : mN} (P : vN g N Y0 S0 Y S M) {k i f : Nat} {v : Int64} {M' : mM} (H' : mR g Y (uJ S k i f v) M') (hk : 20 ≤ k ∧ k ≠ 31 ∧ ¬ (35 ≤ k ∧ k ≤ 37)) : vN g N Y0 S0 Y (uJ S k i f v) M' := by
  have Q := vP_J (Y0 := Y) (S0 := S) ⟨P.1, mFm.rf Y S, vQ.rf Y S⟩ H' hk
  exact ⟨Q.1, P.2.1.tr Q.2.1, P.2.2.cg (fun _ _ _ _ => rfl) (fun _ => rfl) rfl (fun _ _ => rfl)⟩
theorem f_th {Y0 : mY} {S0 : mS} {N : mN} (P : vN g N Y0 S0 Y S M) {n : Int32} {κ : mM → Prop} (h : ∀ S' M', vN g N Y0 S0 Y S' M' → sI S' 20 0 0 = n → S' = uI S 20 0 0 n → κ M') : m_p M (some (yA Y 20 0)) 19 0 (.int n) κ := s_pI P.1.1 P.1.2.1.x0 rfl rfl rfl (fun M1 H1 => h _ M1 ⟨(n_I P H1 trivial (by omega)).1, (n_I P H1 trivial (by omega)).2.1, P.2.2.thr⟩ sI_uI_s rfl)
theorem f_rf {Y0 : mY} {S0 : mS} {N : mN} (P : vN g N Y0 S0 Y S M) {n : Int32} {κ : Int32 → mM → Prop} (h : ∀ S' M', vN g N Y0 S0 Y S' M' → sI S' 20 0 0 = n → S' = uI S 20 0 0 n → κ 0 M') : m_rc M (some (yA Y 20 0)) 19 fun b => wX14_refuse κ (some b) n M := s_rc P.1.1 P.1.2.1.x0 rfl rfl (f_th P h)
theorem f_iter {Y0 : mY} {S0 : mS} {N : mN} {j : Nat} (hj : j < 4) (P : vN g N Y0 S0 Y S M) {κ : Option Nat → mM → Prop} (h : ∀ Y1 S1 M1 i, vN g N Y0 S0 Y1 S1 M1 → mX1 Y S 32 Y1 S1 → vIt Y1 S1 i j 0 → κ (some (yA Y1 32 i)) M1) : wJx4a65c_iterator_32c93 κ (some (yA Y 24 j)) M := by
  have H := P.1.1
  have V := P.1.2.1
  refine r_new (fun q M1 hq h1 o1 => r_rc h1 (r_p h1 (by simp) (fun M2 h2 o2 => ⟨q, rfl, r_p h2 (by simp) (fun M3 h3 o3 => ⟨q, _, some (yA Y 24 j), rfl, h3, rfl, ?_⟩)⟩)))
  have hF := H.fr hq
  have H3 : mR g Y S M3 := H.off hF (fun q' z => (o3 q' z).trans ((o2 q' z).trans (o1 q' z)))
  refine ⟨_, _, _, rfl, H3.hdr rfl (V.l24 hj), rfl, r_p h3 (by simp) (fun M4 h4 o4 => ?_)⟩
  have H4 : mR g Y S M4 := H3.off hF o4
  obtain ⟨Y1, S1, H5, A⟩ := H4.alloc2 (k := 32) hF (fun f => match f with | 1 => -1 | 2 => sI S 24 j 0 | _ => 0) (fun _ => 0) (fun _ => some (yA Y 24 j)) (fun _ => 0) [] 0 rfl (by decide) (by decide) (fun z => absurd z (by decide)) h4 (fun f t' ht' => by
    rcases f with _ | _ | _ | _ | f <;> cases ht' <;> exact ⟨fun z => absurd z (by decide), fun z => absurd z (by decide), fun z => absurd z (by decide), fun z => absurd z (by decide)⟩)
  obtain ⟨a1, a2, a3, a4, a5, a6, -, a8, -⟩ := A
  have a : mX1 Y S 32 Y1 S1 := ⟨a1, a2, a3, a5⟩
  rw [← a4]
  exact h Y1 S1 M4 _ (vN_X1 P (Or.inl rfl) H5 a) a ⟨by rw [a2]; omega, congrFun a6 0, (congrFun a6 2).trans (congrFun (a5 24 j (by omega)).1 0).symm, (congrFun a8 3).trans (congrArg some (a1 24 j (V.l24 hj)).symm)⟩
theorem f_nn114 {Y0 : mY} {S0 : mS} {N : mN} {i : Nat}  {κ : Int32 → mM → Prop} (h : ∀ x S M, vN g N Y0 S0 Y S M → κ x M) : ∀ (d c : Nat) (a : Int32) (S : mS) (M : mM), vN g N Y0 S0 Y S M → vIt Y S i 1 c → c + d = yn Y 28 → wX14_nightNow_114 κ (d + 1)  a (some (yA Y 32 i)) M := by
  intro d
  induction d with
  | zero =>
    intro c a S M P I hc
    have V := P.1.2.1
    have hl : (sL S 24 1).length = yn Y 28 := by rw [V.2.2.1.2.1, List.length_range]
    rw [wX14_nightNow_114]
    exact s_rc P.1.1 I.1 rfl rfl (v_hasNext P.1.1 (V.l24 (by omega)) I (by omega) (fun z => absurd z (by omega)) (fun _ => br_t rfl (h _ S M P)))
  | succ d ih =>
    intro c a S M P I hc
    have V := P.1.2.1
    have hl : (sL S 24 1).length = yn Y 28 := by rw [V.2.2.1.2.1, List.length_range]
    have hx : (sL S 24 1)[c]? = some c := by rw [V.2.2.1.2.1, List.getElem?_range (by omega)]
    have hlt : c < yn Y 28 := by omega
    rw [wX14_nightNow_114]
    refine s_rc P.1.1 I.1 rfl rfl (v_hasNext P.1.1 (V.l24 (by omega)) I (by omega) (fun _ => br_f (by decide) ?_) (fun z => absurd z (by omega)))
    refine v_next P.1.1 (V.l24 (by omega)) I hx (fun M1 H1 => s_cast H1 hlt rfl rfl ?_)
    have ih' : ∀ a : Int32, wX14_nightNow_114 κ (d + 1)  a (some (yA Y 32 i)) M1 := fun a => ih (c + 1) a _ M1 (vN_nx P H1) I.nx (by omega)
    exact s_gI H1 hlt rfl rfl rfl (br_c (fun _ => ih' _) (fun _ => ih' _))
theorem f_nn172 {Y0 : mY} {S0 : mS} {N : mN} {i : Nat} {b : Int32} {κ : Int32 → mM → Prop} (h : ∀ x S M, vN g N Y0 S0 Y S M → κ x M) : ∀ (d c : Nat) (a : Int32) (S : mS) (M : mM), vN g N Y0 S0 Y S M → vIt Y S i 2 c → c + d = yn Y 29 → wX14_nightNow_172 κ (d + 1) b a (some (yA Y 32 i)) M := by
  intro d
  induction d with
  | zero =>
    intro c a S M P I hc
    have V := P.1.2.1
    have hl : (sL S 24 2).length = yn Y 29 := by rw [V.2.2.1.2.2.1, List.length_range]
    rw [wX14_nightNow_172]
    exact s_rc P.1.1 I.1 rfl rfl (v_hasNext P.1.1 (V.l24 (by omega)) I (by omega) (fun z => absurd z (by omega)) (fun _ => br_t rfl (h _ S M P)))
  | succ d ih =>
    intro c a S M P I hc
    have V := P.1.2.1
    have hl : (sL S 24 2).length = yn Y 29 := by rw [V.2.2.1.2.2.1, List.length_range]
    have hx : (sL S 24 2)[c]? = some c := by rw [V.2.2.1.2.2.1, List.getElem?_range (by omega)]
    have hlt : c < yn Y 29 := by omega
    rw [wX14_nightNow_172]
    refine s_rc P.1.1 I.1 rfl rfl (v_hasNext P.1.1 (V.l24 (by omega)) I (by omega) (fun _ => br_f (by decide) ?_) (fun z => absurd z (by omega)))
    refine v_next P.1.1 (V.l24 (by omega)) I hx (fun M1 H1 => s_cast H1 hlt rfl rfl ?_)
    have ih' : ∀ a : Int32, wX14_nightNow_172 κ (d + 1) b a (some (yA Y 32 i)) M1 := fun a => ih (c + 1) a _ M1 (vN_nx P H1) I.nx (by omega)
    exact s_gI H1 hlt rfl rfl rfl (br_c (fun _ => ih' _) (fun _ => ih' _))
theorem f_nn224 {Y0 : mY} {S0 : mS} {N : mN} {i : Nat}  {κ : Int32 → mM → Prop} (h : ∀ x S M, vN g N Y0 S0 Y S M → κ x M) : ∀ (d c : Nat) (a : Int32) (S : mS) (M : mM), vN g N Y0 S0 Y S M → vIt Y S i 2 c → c + d = yn Y 29 → wX14_nightNow_224 κ (d + 1)  a (some (yA Y 32 i)) M := by
  intro d
  induction d with
  | zero =>
    intro c a S M P I hc
    have V := P.1.2.1
    have hl : (sL S 24 2).length = yn Y 29 := by rw [V.2.2.1.2.2.1, List.length_range]
    rw [wX14_nightNow_224]
    exact s_rc P.1.1 I.1 rfl rfl (v_hasNext P.1.1 (V.l24 (by omega)) I (by omega) (fun z => absurd z (by omega)) (fun _ => br_t rfl (h _ S M P)))
  | succ d ih =>
    intro c a S M P I hc
    have V := P.1.2.1
    have hl : (sL S 24 2).length = yn Y 29 := by rw [V.2.2.1.2.2.1, List.length_range]
    have hx : (sL S 24 2)[c]? = some c := by rw [V.2.2.1.2.2.1, List.getElem?_range (by omega)]
    have hlt : c < yn Y 29 := by omega
    rw [wX14_nightNow_224]
    refine s_rc P.1.1 I.1 rfl rfl (v_hasNext P.1.1 (V.l24 (by omega)) I (by omega) (fun _ => br_f (by decide) ?_) (fun z => absurd z (by omega)))
    refine v_next P.1.1 (V.l24 (by omega)) I hx (fun M1 H1 => s_cast H1 hlt rfl rfl ?_)
    have ih' : ∀ a : Int32, wX14_nightNow_224 κ (d + 1)  a (some (yA Y 32 i)) M1 := fun a => ih (c + 1) a _ M1 (vN_nx P H1) I.nx (by omega)
    exact s_gI H1 hlt rfl rfl rfl (br_c (fun _ => ih' _) (fun _ => ih' _))
theorem f_nightNow {Y0 : mY} {S0 : mS} {N : mN} (P : vN g N Y0 S0 Y S M) {b : Int32} {κ : Int32 → mM → Prop} (h : ∀ x Y' S' M', vN g N Y0 S0 Y' S' M' → (∀ k, k ≠ 32 → k ≠ 38 → yn Y' k = yn Y k) → (∀ k i, i < yn Y k → yA Y' k i = yA Y k i) → κ x M') : wX14_nightNow κ (some (yA Y 20 0)) b M := by
  have H := P.1.1
  have V := P.1.2.1
  have h0 : ∀ x, κ x M := fun x => h x Y S M P (fun _ _ _ => rfl) (fun _ _ _ => rfl)
  have i114 : m_gR M (some (yA Y 20 0)) 19 8 fun x16 => m_rc M x16 4 fun b19 => wJx4a65c_iterator_32c93 (fun x17 M18 => ∃ u : Nat, wX14_nightNow_114 κ u 0 x17 M18) (some b19) M := s_gR6 H V.x0 rfl rfl rfl (s_rcL H rfl (V.l24 (by omega)) (f_iter (by omega) P (fun Y1 S1 M1 i P1 a I => ⟨yn Y1 28 + 1, f_nn114 (fun x S M P => h x Y1 S M P (fun k z _ => a.2.2.1 k z) a.1) (yn Y1 28) 0 0 S1 M1 P1 I (by omega)⟩)))
  have i172 : m_gR M (some (yA Y 20 0)) 19 9 fun x16 => m_rc M x16 4 fun b19 => wJx4a65c_iterator_32c93 (fun x17 M18 => ∃ u : Nat, wX14_nightNow_172 κ u b 0 x17 M18) (some b19) M := s_gR6 H V.x0 rfl rfl rfl (s_rcL H rfl (V.l24 (by omega)) (f_iter (by omega) P (fun Y1 S1 M1 i P1 a I => ⟨yn Y1 29 + 1, f_nn172 (fun x S M P => h x Y1 S M P (fun k z _ => a.2.2.1 k z) a.1) (yn Y1 29) 0 0 S1 M1 P1 I (by omega)⟩)))
  have i224 : m_gR M (some (yA Y 20 0)) 19 9 fun x16 => m_rc M x16 4 fun b19 => wJx4a65c_iterator_32c93 (fun x17 M18 => ∃ u : Nat, wX14_nightNow_224 κ u 0 x17 M18) (some b19) M := s_gR6 H V.x0 rfl rfl rfl (s_rcL H rfl (V.l24 (by omega)) (f_iter (by omega) P (fun Y1 S1 M1 i P1 a I => ⟨yn Y1 29 + 1, f_nn224 (fun x S M P => h x Y1 S M P (fun k z _ => a.2.2.1 k z) a.1) (yn Y1 29) 0 0 S1 M1 P1 I (by omega)⟩)))
  exact br_c (fun _ => s_gI H V.x0 rfl rfl rfl (h0 _)) (fun q0 => br_c (fun _ => s_gI H V.x0 rfl rfl rfl (h0 _)) (fun q1 => br_c (fun _ => s_gR6 H V.x0 rfl rfl rfl (s_rcL H rfl (V.l24 (by omega)) (v_szG H V (h0 _)))) (fun q2 => br_c (fun _ => s_gR6 H V.x0 rfl rfl rfl (s_rcL H rfl (V.l24 (by omega)) (v_szS H V (h0 _)))) (fun q3 => br_c (fun _ => i114) (fun q4 => br_c (fun _ => s_gR6 H V.x0 rfl rfl rfl (s_rcL H rfl (V.l24 (by omega)) (v_szP H V (h0 _)))) (fun q5 => br_c (fun _ => i172) (fun q6 => br_c (fun _ => i172) (fun q7 => br_c (fun _ => i172) (fun q8 => br_c (fun _ => i172) (fun q9 => br_c (fun _ => i172) (fun q10 => br_c (fun _ => i224) (fun q11 => br_c (fun _ => s_gR6 H V.x0 rfl rfl rfl (s_rcL H rfl (V.l24 (by omega)) (v_szH H V (h0 _)))) (fun q12 => br_c (fun _ => s_gI H V.x0 rfl rfl rfl (h0 _)) (fun q13 => br_c (fun _ => s_gI H V.x0 rfl rfl rfl (h0 _)) (fun q14 => br_c (fun _ => s_gR6 H V.x0 rfl rfl rfl (s_lenR H V.l21 (by decide) rfl (by rw [V.2.2.2.2.1]; exact ⟨7, v_nn300 H V h0 6 0 0 (by omega)⟩))) (fun q15 => s_gR6 H V.x0 rfl rfl rfl (s_lenR H V.l21 (by decide) rfl (by rw [V.2.2.2.2.1]; exact ⟨7, v_nn341 H V h0 6 0 0 (by omega)⟩))))))))))))))))))
theorem f_row {Y0 : mY} {S0 : mS} {N : mN} (P : vN g N Y0 S0 Y S M) {n B : Nat} (hn : n < 2 ^ 31) (hB : n ≤ B) {κ : Nat → mM → Prop} (h : ∀ Y1 S1 M1 i, vN g N Y0 S0 Y1 S1 M1 → mX1 Y S 38 Y1 S1 → i < yn Y1 38 → sC S1 38 i = n → sE S1 38 i = (fun _ => 0) → κ (yA Y1 38 i) M1) : m_newI M 0 (nI n) B κ := by
  have H := P.1.1
  refine r_newI hn hB (fun q M1 hq h1 o1 => ?_)
  have hF := H.fr hq
  have H1 : mR g Y S M1 := H.off hF o1
  have eC : sC (uO S 38 (yn Y 38) (fun _ => 0) (fun _ => 0) (fun _ => none) (fun _ => 0) [] 0 n (fun _ => 0) (fun _ => none)) 38 (yn Y 38) = n := if_pos ⟨rfl, rfl⟩
  have eE : sE (uO S 38 (yn Y 38) (fun _ => 0) (fun _ => 0) (fun _ => none) (fun _ => 0) [] 0 n (fun _ => 0) (fun _ => none)) 38 (yn Y 38) = (fun _ => 0) := if_pos ⟨rfl, rfl⟩
  have H2 := H1.alloc (k := 38) hF (uO S 38 (yn Y 38) (fun _ => 0) (fun _ => 0) (fun _ => none) (fun _ => 0) [] 0 n (fun _ => 0) (fun _ => none)) (fun k' i' hi => mEq.uO (fun z => by obtain ⟨rfl, rfl⟩ := z; exact Nat.lt_irrefl _ hi)) (by
    rw [h1]
    show _ = some (Sum.inl (0, sC _ 38 (yn Y 38), Sum.inl (sE _ 38 (yn Y 38))))
    rw [eC, eE]) (fun z => absurd z (by decide)) (fun f t ht => by cases ht) (by decide) (by decide)
  have a : mX1 Y S 38 (aY Y 38 q) (uO S 38 (yn Y 38) (fun _ => 0) (fun _ => 0) (fun _ => none) (fun _ => 0) [] 0 n (fun _ => 0) (fun _ => none)) := ⟨fun k' i' hi => aY_A hi, aY_n, fun k' z => aY_nn z, fun k' i' z => mEq.uO z⟩
  have hq' : yA (aY Y 38 q) 38 (yn Y 38) = q := aY_q
  generalize aY Y 38 q = Y1 at H2 a hq'
  rw [← hq']
  exact h Y1 _ M1 _ (vN_X1 P (Or.inr rfl) H2 a) a (by rw [a.2.1]; omega) eC eE
theorem f_c60 {Y0 : mY} {S0 S1 : mS} {N : mN} {r n : Nat} (hn : n ≤ 8) {wt : Nat → Nat} {k s : Nat} (hk : k < n) (hs : s < 81) (hw : wt k ≤ 2376) {κ : Option Nat → mM → Prop} {R27 : Option Nat → Int32 → Option Nat → Int32 → mM → Prop} {R51 : Option Nat → Int32 → Option Nat → Int32 → Int32 → Int32 → mM → Prop}
    (hR : ∀ S M F, vN g N Y0 S0 Y S M → eqT S S1 → vTb Y S r n F → dpI n wt k F → R51 (some (yA Y 20 0)) (nI 81) (some (yA Y 38 r)) (nI k) (nI (wt k)) (nI s + 1) M) : ∀ (d o : Nat) (S : mS) (M : mM) (F : Nat → Nat), vN g N Y0 S0 Y S M → eqT S S1 → vTb Y S r n F → dpI n wt k F → o + d = min 10 s + 1 → wX14_catches_60 κ R27 R51 (d + 1) (some (yA Y 20 0)) (nI 81) (some (yA Y 38 r)) (nI k) (nI (wt k)) (nI s) (nI o) M := by
  have hmin : m_min 10 (nI s) = nI (min 10 s) := mI_min 10 s (by omega) (by omega)
  intro d
  induction d with
  | zero =>
    intro o S M F P E T D ho
    rw [wX14_catches_60]
    dsimp only
    rw [hmin]
    exact br_t (nI_lt (by omega) (by omega)) (hR S M F P E T D)
  | succ d ih =>
    intro o S M F P E T D ho
    obtain ⟨t1, t2, t3⟩ := T
    have ho10 : o ≤ 10 := by omega
    have hos : o ≤ s := by omega
    have i1 : nI k * nI 81 + nI s = nI (k * 81 + s) := by rw [pk_mul, nI_add]
    have i2 : (nI k + 1) * nI 81 + nI s - nI o = nI ((k + 1) * 81 + s - o) := by rw [nI_1, pk_mul, nI_add, pk_sub (by omega)]
    have b1 := dp_bd D hn (k' := k) (s := s) (by omega) hs
    have b2 := dp_bd D hn (k' := k + 1) (s := s - o) (by omega) (by omega)
    rw [show (k + 1) * 81 + (s - o) = (k + 1) * 81 + s - o by omega] at b2
    have b3 := wt10 hw ho10
    have b4 : wt k * o ≤ 2376 * 10 := Nat.mul_le_mul hw ho10
    rw [wX14_catches_60]
    dsimp only
    rw [hmin]
    refine br_f (nI_nlt (by omega) (by omega)) ?_
    rw [i1, i2]
    refine s_ldI P.1.1 t1 rfl (by decide) rfl (by rw [t2]; omega) (by rw [t2]; omega) (s_ldI P.1.1 t1 rfl (by decide) rfl (by rw [t2]; omega) (by rw [t2]; omega) ?_)
    rw [t3 _ (by omega), t3 _ (by omega)]
    have ev : m_max (nI (F (k * 81 + s))) (nI (wt k) * nI o / 10 + nI (F ((k + 1) * 81 + s - o))) = nI (max (F (k * 81 + s)) (wt k * o / 10 + F ((k + 1) * 81 + s - o))) := by
      rw [pk_mul, show (10 : Int32) = nI 10 from rfl, pk_div (by omega) (by omega) (by omega), nI_add, mI_max _ _ (by omega) (by omega)]
    rw [ev]
    refine s_stI P.1.1 t1 rfl rfl (by rw [t2]; omega) (by rw [t2]; omega) (fun M1 H1 => ?_)
    rw [nI_1]
    refine ih (o + 1) _ M1 (dpU wt F k s o) (vN_E P H1 (by omega)) (eqT.uE.tr E) ⟨t1, t2, fun x hx => ?_⟩ (dp_set D hk hs ho10 hos hw) (by omega)
    show (if 38 = 38 ∧ r = r ∧ x = k * 81 + s then nI (max (F (k * 81 + s)) (wt k * o / 10 + F ((k + 1) * 81 + s - o))) else sE S 38 r x) = nI (if x = k * 81 + s then max (F (k * 81 + s)) (wt k * o / 10 + F ((k + 1) * 81 + s - o)) else F x)
    by_cases z : x = k * 81 + s
    · rw [if_pos ⟨rfl, rfl, z⟩, if_pos z]
    · rw [if_neg (fun q => z q.2.2), if_neg z]
      exact t3 x hx
theorem f_c51 {Y0 : mY} {S0 S1 : mS} {N : mN} {r n : Nat} (hn : n ≤ 8) {wt : Nat → Nat} {k : Nat} (hk : k < n) (hw : wt k ≤ 2376) {κ : Option Nat → mM → Prop} {R27 : Option Nat → Int32 → Option Nat → Int32 → mM → Prop}
    (hR : ∀ S M F, vN g N Y0 S0 Y S M → eqT S S1 → vTb Y S r n F → dpI n wt k F → R27 (some (yA Y 20 0)) (nI 81) (some (yA Y 38 r)) (nI k + (-1)) M) : ∀ (d s : Nat) (S : mS) (M : mM) (F : Nat → Nat), vN g N Y0 S0 Y S M → eqT S S1 → vTb Y S r n F → dpI n wt k F → s + d = 81 → wX14_catches_51 κ R27 (d + 1) (some (yA Y 20 0)) (nI 81) (some (yA Y 38 r)) (nI k) (nI (wt k)) (nI s) M := by
  intro d
  induction d with
  | zero =>
    intro s S M F P E T D hs
    rw [wX14_catches_51]
    exact br_t (nI_le (by omega) (by omega)) (hR S M F P E T D)
  | succ d ih =>
    intro s S M F P E T D hs
    rw [wX14_catches_51]
    exact br_f (nI_ge (by omega) (by omega)) ⟨min 10 s + 1 + 1, f_c60 hn hk (by omega) hw (fun S M F P E T D => by rw [nI_1]; exact ih (s + 1) S M F P E T D (by omega)) (min 10 s + 1) 0 S M F P E T D (by omega)⟩
theorem f_c27 {Y0 : mY} {S0 S1 : mS} {N : mN} {r : Nat} {wt : Nat → Nat} (hw : vWt g Y S1 wt) {κ : Option Nat → mM → Prop}
    (h : ∀ S M F, vN g N Y0 S0 Y S M → eqT S S1 → vTb Y S r (yn Y 23) F → dpI (yn Y 23) wt 0 F → κ (some (yA Y 38 r)) M) : ∀ (d : Nat) (S : mS) (M : mM) (F : Nat → Nat), vN g N Y0 S0 Y S M → eqT S S1 → vTb Y S r (yn Y 23) F → dpI (yn Y 23) wt d F → d ≤ yn Y 23 → wX14_catches_27 κ (d + 1) (some (yA Y 20 0)) (nI 81) (some (yA Y 38 r)) (nI d - 1) M := by
  intro d
  induction d with
  | zero =>
    intro S M F P E T D hd
    rw [wX14_catches_27]
    exact br_t (by decide) (h S M F P E T D)
  | succ d ih =>
    intro S M F P E T D hd
    have hb := P.1.2.1.2.1
    have hlt : d < yn Y 23 := by omega
    rw [wX14_catches_27, nI_pred]
    refine br_f (nI_pos (by omega)) (v_G P.1.1 P.1.2.1 hlt (s_rc P.1.1 P.1.2.1.x0 rfl rfl ((hw d hlt).2 S M _ P.1.1 E ?_)))
    exact ⟨82, f_c51 (by omega) hlt (hw d hlt).1 (fun S M F P E T D => by rw [nI_m1]; exact ih S M F P E T D (by omega)) 81 0 S M F P E T (dp_next D) (by omega)⟩
theorem f_catches {Y0 : mY} {S0 : mS} {N : mN} (P : vN g N Y0 S0 Y S M) {κ : Option Nat → mM → Prop} (h : ∀ Y1 S1 S2 M2 r wt F, vN g N Y0 S0 Y1 S2 M2 → mX1 Y S 38 Y1 S1 → eqT S2 S1 → vWt g Y1 S1 wt → vTb Y1 S2 r (yn Y1 23) F → dpI (yn Y1 23) wt 0 F → κ (some (yA Y1 38 r)) M2) : wX14_catches κ (some (yA Y 20 0)) M := by
  have H := P.1.1
  have V := P.1.2.1
  have hb := V.2.1
  refine s_gR6 H V.x0 rfl rfl rfl (s_rcL H rfl (V.l24 (by omega)) (v_szG H V ?_))
  rw [nI_1, show (81 : Int32) = nI 81 from rfl, pk_mul]
  refine f_row P (by omega) (by omega) (fun Y1 S1 M1 r P1 a hr hC hE => ?_)
  have V1 := P1.1.2.1
  rw [← a.1 20 0 V.x0]
  refine s_gR6 P1.1.1 V1.x0 rfl rfl rfl (s_rcL P1.1.1 rfl (V1.l24 (by omega)) (v_szG P1.1.1 V1 ?_))
  obtain ⟨wt, hwt⟩ := v_wts (g := g) V1 P1.1.2.2.1
  refine ⟨yn Y1 23 + 1, f_c27 hwt (fun S2 M2 F P2 E T D => h Y1 S1 S2 M2 r wt F P2 a E hwt T D) (yn Y1 23) S1 M1 (fun _ => 0) P1 (eqT.rf S1) ⟨hr, ?_, fun x _ => by rw [hE]; rfl⟩ (dp_0 _ _) (Nat.le_refl _)⟩
  rw [hC, a.2.2.1 23 (by omega)]
theorem f_pn88 {Y0 : mY} {S0 : mS} {N : mN} (P : vN g N Y0 S0 Y S M) {r n : Nat} (hn : n ≤ 8) {wt F : Nat → Nat} (T : vTb Y S r n F) (D : dpI n wt 0 F) {k lf : Nat} (hk : k < n) (hlf : lf < 81) (hw : wt k ≤ 2376) {gt rs : Int32} {κ : Int32 → mM → Prop} {R55 : Option Nat → Int32 → Int32 → Option Nat → Int32 → Int32 → Int32 → mM → Prop} {x0 : Option Nat}
    (h : ∀ o, κ (nI o) M) (hR : ∀ o, o ≤ 10 → o ≤ lf → rs.toInt ≤ ((wt k * o / 10 + F ((k + 1) * 81 + lf - o) : Nat) : Int) → R55 x0 gt (nI 81) (some (yA Y 38 r)) (nI lf - nI o) (rs - nI (wt k) * nI o / 10) (nI k + 1) M) : ∀ (d o os : Nat), os ≤ 10 → os ≤ lf → rs.toInt ≤ ((wt k * os / 10 + F ((k + 1) * 81 + lf - os) : Nat) : Int) → o + d = os → wX14_planNow_88 κ R55 (d + 1) x0 gt (nI 81) (some (yA Y 38 r)) (nI lf) rs (nI k) (nI (wt k)) (nI o) M := by
  obtain ⟨t1, t2, t3⟩ := T
  have step : ∀ o, o ≤ 10 → o ≤ lf → ∀ {W1 W0 : mM → Prop}, (rs.toInt ≤ ((wt k * o / 10 + F ((k + 1) * 81 + lf - o) : Nat) : Int) → W1 M) → (¬ rs.toInt ≤ ((wt k * o / 10 + F ((k + 1) * 81 + lf - o) : Nat) : Int) → W0 M) → m_ldI M (some (yA Y 38 r)) ((((nI k + 1) * nI 81) + nI lf) - nI o) 0 fun x1 => ((rs ≤ (((nI (wt k) * nI o) / 10) + x1) → W1 M) ∧ (¬ (rs ≤ (((nI (wt k) * nI o) / 10) + x1)) → W0 M)) := by
    intro o h10 hos W1 W0 hw1 hw0
    have b2 := dp_bd D hn (k' := k + 1) (s := lf - o) (by omega) (by omega)
    rw [show (k + 1) * 81 + (lf - o) = (k + 1) * 81 + lf - o by omega] at b2
    have b3 := wt10 hw h10
    have b4 : wt k * o ≤ 2376 * 10 := Nat.mul_le_mul hw h10
    rw [nI_1, pk_mul, nI_add, pk_sub (by omega)]
    refine s_ldI P.1.1 t1 rfl (by decide) rfl (by rw [t2]; omega) (by rw [t2]; omega) ?_
    rw [t3 _ (by omega), pk_mul, show (10 : Int32) = nI 10 from rfl, pk_div (by omega) (by omega) (by omega), nI_add, Int32.le_iff_toInt_le, nI_toInt (by omega)]
    exact br_c hw1 hw0
  intro d
  induction d with
  | zero =>
    intro o os h10 hos hv ho
    have e : o = os := by omega
    subst e
    rw [wX14_planNow_88]
    exact step o h10 hos (W1 := fun M => _) (W0 := fun M => _) (fun hle => br_c (fun _ => h o) (fun _ => hR o h10 hos hle)) (fun hn => absurd hv hn)
  | succ d ih =>
    intro o os h10 hos hv ho
    rw [wX14_planNow_88]
    refine step o (by omega) (by omega) (W1 := fun M => _) (W0 := fun M => _) (fun hle => br_c (fun _ => h o) (fun _ => hR o (by omega) (by omega) hle)) (fun _ => ?_)
    show wX14_planNow_88 κ R55 (d + 1) x0 gt (nI 81) (some (yA Y 38 r)) (nI lf) rs (nI k) (nI (wt k)) (nI o + 1) M
    rw [nI_1]
    exact ih (o + 1) os h10 hos hv (by omega)
theorem f_pn55 {Y0 : mY} {S0 S1 : mS} {N : mN} (P : vN g N Y0 S0 Y S M) (E : eqT S S1) {r : Nat} {wt F : Nat → Nat} (hw : vWt g Y S1 wt) (T : vTb Y S r (yn Y 23) F) (D : dpI (yn Y 23) wt 0 F) {gt : Int32} {κ : Int32 → mM → Prop} (h : ∀ x, κ x M) : ∀ (d k lf : Nat) (rs : Int32), k + d = yn Y 23 → lf < 81 → rs.toInt ≤ (F (k * 81 + lf) : Int) → -(2376 * (k : Int)) ≤ rs.toInt → rs.toInt ≤ 2000 → wX14_planNow_55 κ (d + 1) (some (yA Y 20 0)) gt (nI 81) (some (yA Y 38 r)) (nI lf) rs (nI k) M := by
  have hb := P.1.2.1.2.1
  intro d
  induction d with
  | zero =>
    intro k lf rs hk hlf h1 h2 h3
    rw [wX14_planNow_55]
    exact v_hdG P.1.1 P.1.2.1 (by omega) (fun _ => h _) (fun hlt => absurd hlt (by omega))
  | succ d ih =>
    intro k lf rs hk hlf h1 h2 h3
    rw [wX14_planNow_55]
    refine v_hdG P.1.1 P.1.2.1 (by omega) (fun z => absurd z (by omega)) (fun hlt => s_rc P.1.1 P.1.2.1.x0 rfl rfl ((hw k hlt).2 S M _ P.1.1 E ?_))
    have hstar : ∃ os, os ≤ 10 ∧ os ≤ lf ∧ rs.toInt ≤ ((wt k * os / 10 + F ((k + 1) * 81 + lf - os) : Nat) : Int) := by
      rcases D.2.1 k lf (by omega) hlt hlf with h0 | ⟨os, p1, p2, p3⟩
      · refine ⟨0, by omega, by omega, ?_⟩
        rw [h0] at h1
        exact Int.le_trans h1 (Int.natCast_nonneg _)
      · exact ⟨os, p1, p2, by rw [← p3]; exact h1⟩
    obtain ⟨os, p1, p2, p3⟩ := hstar
    refine ⟨os + 1, f_pn88 P (by omega) T D hlt hlf (hw k hlt).1 (fun o => h _) (fun o q1 q2 q3 => ?_) os 0 os p1 p2 p3 (by omega)⟩
    have b3 := wt10 (hw k hlt).1 q1
    have b4 : wt k * o ≤ 2376 * 10 := Nat.mul_le_mul (hw k hlt).1 q1
    rw [pk_sub q2, pk_mul, show (10 : Int32) = nI 10 from rfl, pk_div (by omega) (by omega) (by omega), nI_1]
    have e := I_sub (a := rs) (c := wt k * o / 10) (by omega) (by omega) (by omega)
    refine ih (k + 1) (lf - o) _ (by omega) (by omega) ?_ ?_ ?_
    · rw [e, show (k + 1) * 81 + (lf - o) = (k + 1) * 81 + lf - o by omega]
      omega
    · rw [e]
      omega
    · rw [e]
      omega
theorem f_planNow {Y0 : mY} {S0 : mS} {N : mN} (P : vN g N Y0 S0 Y S M) {pr gt : Int32} (hp0 : 0 ≤ pr.toInt) (hp1 : pr.toInt ≤ 2000) {κ : Int32 → mM → Prop} (h : ∀ x Y' S' M', vN g N Y0 S0 Y' S' M' → (∀ k, k ≠ 32 → k ≠ 38 → yn Y' k = yn Y k) → (∀ k i, i < yn Y k → yA Y' k i = yA Y k i) → κ x M') : wX14_planNow κ (some (yA Y 20 0)) pr gt M := by
  have V := P.1.2.1
  have hb := V.2.1
  refine s_rc P.1.1 V.x0 rfl rfl (f_catches P (fun Y1 S1 S2 M2 r wt F P2 a E hwt T D => ?_))
  have h' : ∀ x, κ x M2 := fun x => h x Y1 S2 M2 P2 (fun k z1 z2 => a.2.2.1 k z2) a.1
  have n23 := a.2.2.1 23 (by omega)
  rw [← a.1 20 0 V.x0]
  have h33 : ∀ j, j ≤ 81 → (j < 81 → pr.toInt ≤ (F j : Int)) → wX14_planNow_33 κ (some (yA Y1 20 0)) pr gt (nI 81) (some (yA Y1 38 r)) (nI j) M2 := by
    intro j hj hv
    refine br_c (fun _ => h' _) (fun z => br_c (fun _ => h' _) (fun _ => ?_))
    have hj2 : j < 81 := by
      have : j ≠ 81 := fun e => z (by rw [e])
      omega
    exact ⟨yn Y1 23 + 1, f_pn55 P2 E hwt T D h' (yn Y1 23) 0 j pr (by omega) hj2 (by rw [Nat.zero_mul, Nat.zero_add]; exact hv hj2) (by omega) hp1⟩
  have hl : ∀ (d j : Nat), j + d = 81 → wX14_planNow_12 κ (d + 1) (some (yA Y1 20 0)) pr gt (nI 81) (some (yA Y1 38 r)) (nI j) M2 := by
    intro d
    induction d with
    | zero =>
      intro j hj
      rw [wX14_planNow_12]
      exact br_t (nI_le (by omega) (by omega)) (h33 j (by omega) (fun z => absurd z (by omega)))
    | succ d ih =>
      intro j hj
      obtain ⟨t1, t2, t3⟩ := T
      have bF := dp_bd D (by omega) (k' := 0) (s := j) (by omega) (by omega)
      rw [Nat.zero_mul, Nat.zero_add] at bF
      rw [wX14_planNow_12]
      refine br_f (nI_ge (by omega) (by omega)) (s_ldI P2.1.1 t1 rfl (by decide) rfl (by rw [t2]; omega) (by rw [t2]; omega) ?_)
      rw [t3 _ (by omega)]
      refine br_c (fun z => h33 j (by omega) (fun _ => ?_)) (fun _ => ?_)
      · rw [Int32.le_iff_toInt_le, nI_toInt (by omega)] at z
        exact z
      · rw [nI_1]
        exact ih (j + 1) (by omega)
  exact ⟨82, hl 81 0 (by omega)⟩
/-- who asks what would come in, changes nothing -/
theorem D_ci0 {N : mN} (R : RV N Y S) (H : mR g Y S M) (V : mVs Y S) {s l : Nat} (hs : s < yn Y 28) (hl : l < 6) {κ : Int32 → mM → Prop} (h : κ (nCi N s l (yn Y 29)).2 M) : ∀ (d j : Nat), j + d = yn Y 29 → wX14_comeIn_34 κ (d + 1) (some (yA Y 20 0)) (nI s) 0 (some (yA Y 28 s)) (some (yA Y 22 l)) (nCi N s l j).1 (nCi N s l j).2 (nI j) M := by
  intro d
  induction d with
  | zero =>
    intro j hj
    have ej : j = yn Y 29 := by omega
    rw [ej]
    rw [wX14_comeIn_34]
    exact v_hdP H V (by omega) (fun _ => br_t rfl h) (fun hlt => absurd hlt (by omega))
  | succ d ih =>
    intro j hj
    have hb := V.2.1
    have hp : j < yn Y 29 := by omega
    have i193 : ∀ b c, b = (nCi N s l (j + 1)).1 → c = (nCi N s l (j + 1)).2 → wX14_comeIn_193 κ (wX14_comeIn_34 κ (d + 1)) (some (yA Y 20 0)) (nI s) 0 (some (yA Y 28 s)) (some (yA Y 22 l)) b c (nI j) M := fun b c eb ec => by
      unfold wX14_comeIn_193
      rw [nI_1, eb, ec]
      exact ih (j + 1) (by omega)
    have h22 := V.l22 hl
    have skip : nDc N s j = false → wX14_comeIn_193 κ (wX14_comeIn_34 κ (d + 1)) (some (yA Y 20 0)) (nI s) 0 (some (yA Y 28 s)) (some (yA Y 22 l)) (nCi N s l j).1 (nCi N s l j).2 (nI j) M := fun w => i193 _ _ (by rw [nCi_no w]) (by rw [nCi_no w])
    have h107 : nDc N s j = true → nBk N s l j = false → wX14_comeIn_107 κ (wX14_comeIn_34 κ (d + 1)) (some (yA Y 20 0)) (nI s) 0 (some (yA Y 28 s)) (some (yA Y 22 l)) (nCi N s l j).1 (nCi N s l j).2 (nI j) (some (yA Y 29 j)) M := fun hd hk => by
      have e := nCi_in hd hk
      have go : ∀ b, b = (nCi N s l (j + 1)).1 → wX14_comeIn_149 κ (wX14_comeIn_34 κ (d + 1)) (some (yA Y 20 0)) (nI s) 0 (some (yA Y 28 s)) (some (yA Y 22 l)) b (nI j) (some (yA Y 29 j)) 0 (nv N 29 j 1) (nCi N s l j).2 M := fun b eb => br_t rfl (br_t rfl (i193 _ _ eb (by rw [e])))
      refine s_rc H hp rfl rfl (D_isNm R H hp (fun zn => br_f (by decide) (br_t rfl (br_t rfl (s_gI H hp rfl rfl rfl ?_)))) (fun zn => br_t rfl (br_t rfl (s_gI H hp rfl rfl rfl ?_))))
      · rw [R.2.1 29 j 1 rfl hp]
        exact go _ (by rw [e, if_neg zn])
      · rw [R.2.1 29 j 1 rfl hp]
        exact go _ (by rw [e, if_pos zn])
    rw [wX14_comeIn_34]
    refine v_hdP H V (by omega) (fun z => absurd z (by omega)) (fun hlt => s_gI H hlt rfl rfl rfl ?_)
    rw [R.2.1 29 j 4 rfl hlt]
    refine br_c (fun za => s_gI H hs rfl rfl rfl ?_) (fun za => skip (by
      cases w : nDc N s j with
      | false => rfl
      | true => exact absurd (nDc_i.mp w).1 za))
    rw [R.2.1 28 s 5 rfl hs]
    refine br_c (fun zc => skip (by
      cases w : nDc N s j with
      | false => rfl
      | true =>
        rw [zb_shr _ (by omega), (nDc_i.mp w).2] at zc
        cases zc)) (fun zc => ?_)
    have hd : nDc N s j = true := nDc_i.mpr ⟨za, by
      rw [zb_shr _ (by omega)] at zc
      cases w : zb (nv N 28 s 5) j with
      | true => rfl
      | false => exact absurd w zc⟩
    refine s_rc H hlt rfl rfl (D_isNm R H hlt (fun zn => br_f (by decide) (s_gI H h22 rfl rfl rfl ?_)) (fun zn => br_t rfl (h107 hd ?_)))
    · rw [R.2.1 22 l 2 rfl h22]
      refine br_c (fun zq => h107 hd ?_) (fun zq => ?_)
      · cases w : nBk N s l j with
        | false => rfl
        | true => exact absurd zq (nBk_i.mp w).2
      · have hk : nBk N s l j = true := nBk_i.mpr ⟨zn, zq⟩
        have e := nCi_bk hk
        refine s_rc H hp rfl rfl (D_isNm R H hp (fun _ => br_f (by decide) (br_f (by decide) (br_f (by decide) (br_t rfl (br_t rfl (i193 _ _ ?_ ?_)))))) (fun q => absurd q zn))
        · rw [e]; exact Int32.add_zero _
        · rw [e]; exact Int32.add_zero _
    · cases w : nBk N s l j with
      | false => rfl
      | true => exact absurd zn (nBk_i.mp w).1
theorem D_comeIn0 {N : mN} (R : RV N Y S) (H : mR g Y S M) (V : mVs Y S) {s l : Nat} (hs : s < yn Y 28) (hl : l < 6) {κ : Int32 → mM → Prop} (h : κ (nCi N s l (yn Y 29)).2 M) : wX14_comeIn κ (some (yA Y 20 0)) (nI s) (nI l) 0 M := by
  refine v_S H V hs (v_Ld H V hl (s_gI H (V.l22 hl) rfl rfl rfl ?_))
  rw [R.2.1 22 l 3 rfl (V.l22 hl)]
  exact ⟨yn Y 29 + 1, D_ci0 R H V hs hl h (yn Y 29) 0 (by omega)⟩
theorem f_wouldPayNow {Y0 : mY} {S0 : mS} {N : mN} (P : vN g N Y0 S0 Y S M) {t : Nat} (ht : t < yn Y 23) {κ : Int32 → mM → Prop} (h : ∀ x S' M', vN g N Y0 S0 Y S' M' → κ x M') : wX14_wouldPayNow κ (some (yA Y 20 0)) (nI t) M := by
  have H := P.1.1
  have V := P.1.2.1
  have VV := P.1.2.2.1
  have VQ := P.1.2.2.2.1
  refine v_G H V ht (s_gR7 H ht rfl rfl rfl (s_rcL H rfl (V.l25 ht) (s_isEmpty H rfl (V.l25 ht) (fun _ => br_f (by decide) (h _ S M P)) (fun hne => br_t rfl ?_))))
  refine s_gR7 H ht rfl rfl rfl (s_rcL H rfl (V.l25 ht) (v_first H V ht hne (fun s hs128 hs0 => v_int H V hs128 ?_)))
  have hs : s < yn Y 28 := ((VQ.1 t ht).2 s (List.mem_of_getElem? hs0)).1
  refine s_rc H V.x0 rfl rfl (v_good H V VV hs ht (br_f (by decide) ?_) (br_t rfl (h _ S M P)))
  refine s_gR7 H ht rfl rfl rfl (s_rcL H rfl (V.l25 ht) (v_first H V ht hne (fun s hs128 hs0 => v_int H V hs128 ?_)))
  have hs : s < yn Y 28 := ((VQ.1 t ht).2 s (List.mem_of_getElem? hs0)).1
  refine v_S H V hs (s_gI H hs rfl rfl rfl (s_rc H ht rfl rfl (v_beyond H VV ht (fun l hl => s_rc H V.x0 rfl rfl (D_comeIn0 P.2.2 H V hs hl ?_)))))
  exact v_Ld H V hl (s_rc H V.x0 rfl rfl (v_duty H (V.l22 hl) (fun x => h x S M P)))
theorem f_add {Y0 : mY} {S0 : mS} {N : mN} (P : vN g N Y0 S0 Y S M) {n : Int64} {κ : mM → Prop} (h : ∀ S' M', vN g N Y0 S0 Y S' M' → κ M') : m_rc M (some (yA Y 20 0)) 19 fun b => wX14_add κ (some b) n M := s_rc P.1.1 P.1.2.1.x0 rfl rfl (s_gJ P.1.1 P.1.2.1.x0 rfl rfl rfl (s_pJ P.1.1 P.1.2.1.x0 rfl rfl rfl (fun M1 H1 => h _ M1 (vN_J P H1 (by omega)))))
theorem f_s202 {Y0 : mY} {S0 : mS} {N : mN} {r : Nat} (P : vN g N Y0 S0 Y S M) (hr : r < yn Y 38) (hC : sC S 38 r = 12) {a : Int32} {κ : Int32 → mM → Prop} (h : ∀ x, x = 0 ∨ x = 1 → κ x M) : ∀ (d j : Nat), j + d = yn Y 28 → wX14_isSoundNow_202 κ (d + 1) (some (yA Y 20 0)) (some (yA Y 38 r)) a (nI j) M := by
  have H := P.1.1
  have V := P.1.2.1
  have VV := P.1.2.2.1
  have hb := V.2.1
  have h0 := h 0 (Or.inl rfl)
  have h1 := h 1 (Or.inr rfl)
  intro d
  induction d with
  | zero =>
    intro j hj
    rw [wX14_isSoundNow_202]
    refine v_hdS H V (by omega) (fun _ => br_c (fun _ => ?_) (fun _ => h0)) (fun hlt => absurd hlt (by omega))
    exact s_gR6 H V.x0 rfl rfl rfl (s_rcL H rfl (V.l24 (by omega)) (v_szH H V (br_c (fun _ => h0) (fun _ => h1))))
  | succ d ih =>
    intro j hj
    have i279 : wX14_isSoundNow_279 κ (wX14_isSoundNow_202 κ (d + 1)) (some (yA Y 20 0)) (some (yA Y 38 r)) a (nI j) M := by
      show wX14_isSoundNow_202 κ (d + 1) (some (yA Y 20 0)) (some (yA Y 38 r)) a (nI j + 1) M
      rw [nI_1]
      exact ih (j + 1) (by omega)
    have i243 : ∀ s0 s1, j < yn Y 28 → wX14_isSoundNow_243 κ (wX14_isSoundNow_202 κ (d + 1)) (some (yA Y 20 0)) (some (yA Y 38 r)) a (nI j) (some (yA Y 28 j)) s0 s1 M := by
      intro s0 s1 hlt
      refine br_c (fun _ => s_gI H hlt rfl rfl rfl (v_is (fun _ _ => br_f (by decide) ?_) (fun _ => br_t rfl h0))) (fun _ => h0)
      exact s_gI H hlt rfl rfl rfl (br_c (fun _ => s_rc H V.x0 rfl rfl (v_head H V VV (fun x => br_c (fun _ => i279) (fun _ => h0)))) (fun _ => i279))
    rw [wX14_isSoundNow_202]
    refine v_hdS H V (by omega) (fun z => absurd z (by omega)) (fun hlt => ?_)
    exact s_ldI H hr rfl (by decide) rfl (by rw [hC]; omega) (by rw [hC]; omega) (s_gI H hlt rfl rfl rfl (br_c (fun _ => i243 _ _ hlt) (fun _ => i243 _ _ hlt)))
theorem f_s173 {Y0 : mY} {S0 : mS} {N : mN} {r : Nat} (P : vN g N Y0 S0 Y S M) (hr : r < yn Y 38) (hC : sC S 38 r = 12) {κ : Int32 → mM → Prop} (h : ∀ x, x = 0 ∨ x = 1 → κ x M) : ∀ (d j : Nat) (a : Int32), j + d = 6 → wX14_isSoundNow_173 κ (d + 1) (some (yA Y 20 0)) (some (yA Y 38 r)) a (some (yA Y 21 0)) (nI 6) (nI j) M := by
  have H := P.1.1
  have V := P.1.2.1
  intro d
  induction d with
  | zero =>
    intro j a hj
    rw [wX14_isSoundNow_173]
    exact br_t (nI_le (by omega) (by omega)) ⟨yn Y 28 + 1, f_s202 P hr hC h (yn Y 28) 0 (by omega)⟩
  | succ d ih =>
    intro j a hj
    have hl6 : j < 6 := by omega
    rw [wX14_isSoundNow_173]
    refine br_f (nI_ge hl6 (by omega)) (s_ldR H V.l21 rfl (by decide) rfl (by rw [V.2.2.2.2.1]; exact hl6) (by rw [V.2.2.2.2.1]; omega) ?_)
    rw [V.2.2.2.2.2.1 j hl6]
    exact s_gI H (V.l22 hl6) rfl rfl rfl (by rw [nI_1]; exact ih (j + 1) _ (by omega))
theorem f_s38 {Y0 : mY} {S0 : mS} {N : mN} {i c t r : Nat} (hr : r < yn Y 38) (ht : t < yn Y 23) {κ : Int32 → mM → Prop} {R13 : Option Nat → Option Nat → Option Nat → mM → Prop} (h0 : ∀ S M, vN g N Y0 S0 Y S M → κ 0 M) (hR : ∀ S M, vN g N Y0 S0 Y S M → sC S 38 r = 12 → vIt Y S i 0 c → R13 (some (yA Y 20 0)) (some (yA Y 38 r)) (some (yA Y 32 i)) M) : ∀ (d j : Nat) (a : Int32) (S : mS) (M : mM), vN g N Y0 S0 Y S M → sC S 38 r = 12 → vIt Y S i 0 c → j + d = (sL S 25 t).length → wX14_isSoundNow_38 κ R13 (d + 1) (some (yA Y 20 0)) (some (yA Y 38 r)) (some (yA Y 32 i)) (some (yA Y 23 t)) a (nI j) M := by
  intro d
  induction d with
  | zero =>
    intro j a S M P hC I hj
    have H := P.1.1
    have V := P.1.2.1
    have hl := H.len (k := 25) (i := t) rfl (V.l25 ht)
    rw [wX14_isSoundNow_38]
    exact s_gR7 H ht rfl rfl rfl (s_rcL H rfl (V.l25 ht) (s_size H rfl (V.l25 ht) (br_t (nI_le (by omega) (by omega)) (hR S M P hC I))))
  | succ d ih =>
    intro j a S M P hC I hj
    have H := P.1.1
    have V := P.1.2.1
    have hl := H.len (k := 25) (i := t) rfl (V.l25 ht)
    have hb := V.2.1
    have hlt : j < (sL S 25 t).length := by omega
    have hx : (sL S 25 t)[j]? = some ((sL S 25 t)[j]) := List.getElem?_eq_getElem hlt
    generalize (sL S 25 t)[j] = v at hx
    have hv := ((P.1.2.2.2.1.1 t ht).2 v (List.mem_of_getElem? hx)).1
    rw [wX14_isSoundNow_38]
    refine s_gR7 H ht rfl rfl rfl (s_rcL H rfl (V.l25 ht) (s_size H rfl (V.l25 ht) (br_f (nI_ge hlt (by omega)) ?_)))
    refine s_gR7 H ht rfl rfl rfl (s_rcL H rfl (V.l25 ht) (s_get H rfl (V.l25 ht) hx (v_int H V (by omega) ?_)))
    refine s_ldI H hr rfl (by decide) rfl (by rw [hC]; omega) (by rw [hC]; omega) (s_stI H hr rfl rfl (by rw [hC]; omega) (by rw [hC]; omega) (fun M1 H1 => ?_))
    generalize sE S 38 r v + 1 = e at H1
    have P1 : vN g N Y0 S0 Y (uE S 38 r v e) M1 := vN_E P H1 (by omega)
    have V1 := P1.1.2.1
    have ih' : ∀ a, wX14_isSoundNow_38 κ R13 (d + 1) (some (yA Y 20 0)) (some (yA Y 38 r)) (some (yA Y 32 i)) (some (yA Y 23 t)) a (nI j + 1) M1 := fun a => by
      rw [nI_1]
      exact ih (j + 1) a _ M1 P1 hC I (by show _ = (sL S 25 t).length; omega)
    have i122 : ∀ l4, wX14_isSoundNow_122 κ R13 (wX14_isSoundNow_38 κ R13 (d + 1)) (some (yA Y 20 0)) (some (yA Y 38 r)) (some (yA Y 32 i)) (some (yA Y 23 t)) l4 (nI j) (nI v) M1 := fun l4 => v_S H1 V1 hv (s_gI H1 hv rfl rfl rfl (br_c (fun _ => ih' _) (fun _ => ih' _)))
    refine v_S H1 V1 hv (s_gI H1 hv rfl rfl rfl (s_rc H1 ht rfl rfl (v_has H1 ht (br_f (by decide) ?_) (br_t rfl (h0 _ M1 P1)))))
    exact br_c (fun _ => i122 _) (fun _ => v_S H1 V1 hv (s_gI H1 hv rfl rfl rfl (br_c (fun _ => i122 _) (fun _ => h0 _ M1 P1))))
theorem f_s13 {Y0 : mY} {S0 : mS} {N : mN} {i r : Nat} (hr : r < yn Y 38) {κ : Int32 → mM → Prop} (h : ∀ x S M, x = 0 ∨ x = 1 → vN g N Y0 S0 Y S M → κ x M) : ∀ (d c : Nat) (S : mS) (M : mM), vN g N Y0 S0 Y S M → sC S 38 r = 12 → vIt Y S i 0 c → c + d = yn Y 23 → wX14_isSoundNow_13 κ (d + 1) (some (yA Y 20 0)) (some (yA Y 38 r)) (some (yA Y 32 i)) M := by
  intro d
  induction d with
  | zero =>
    intro c S M P hC I hc
    have H := P.1.1
    have V := P.1.2.1
    have hl : (sL S 24 0).length = yn Y 23 := by rw [V.2.2.1.1, List.length_range]
    rw [wX14_isSoundNow_13]
    refine s_rc P.1.1 I.1 rfl rfl (v_hasNext P.1.1 (V.l24 (by omega)) I (by omega) (fun z => absurd z (by omega)) (fun _ => br_t rfl ?_))
    refine s_gR6 H V.x0 rfl rfl rfl (s_lenR H V.l21 (by decide) rfl ?_)
    rw [V.2.2.2.2.1]
    exact ⟨7, f_s173 P hr hC (fun x hx => h x S M hx P) 6 0 0 (by omega)⟩
  | succ d ih =>
    intro c S M P hC I hc
    have V := P.1.2.1
    have hl : (sL S 24 0).length = yn Y 23 := by rw [V.2.2.1.1, List.length_range]
    have hx : (sL S 24 0)[c]? = some c := by rw [V.2.2.1.1, List.getElem?_range (by omega)]
    have hlt : c < yn Y 23 := by omega
    rw [wX14_isSoundNow_13]
    refine s_rc P.1.1 I.1 rfl rfl (v_hasNext P.1.1 (V.l24 (by omega)) I (by omega) (fun _ => br_f (by decide) ?_) (fun z => absurd z (by omega)))
    refine v_next P.1.1 (V.l24 (by omega)) I hx (fun M1 H1 => s_cast H1 hlt rfl rfl ?_)
    exact ⟨(sL S 25 c).length + 1, f_s38 (c := c + 1) hr hlt (fun S M P => h 0 S M (Or.inl rfl) P) (fun S M P hC I => ih (c + 1) S M P hC I (by omega)) (sL S 25 c).length 0 0 _ M1 (vN_nx P H1) hC I.nx (by show _ = (sL S 25 c).length; omega)⟩
theorem f_isSoundNow {Y0 : mY} {S0 : mS} {N : mN} (P : vN g N Y0 S0 Y S M) {κ : Int32 → mM → Prop} (h : ∀ x Y' S' M', x = 0 ∨ x = 1 → vN g N Y0 S0 Y' S' M' → vU Y Y' → κ x M') : wX14_isSoundNow κ (some (yA Y 20 0)) M := by
  refine f_row (n := 12) P (by omega) (by omega) (fun Y1 S1 M1 r P1 a1 hr hC hE => ?_)
  have V1 := P1.1.2.1
  rw [← a1.1 20 0 P.1.2.1.x0]
  refine s_gR6 P1.1.1 V1.x0 rfl rfl rfl (s_rcL P1.1.1 rfl (V1.l24 (by omega)) (f_iter (by omega) P1 (fun Y2 S2 M2 i P2 a2 I => ?_)))
  rw [← a2.1 20 0 V1.x0, ← a2.1 38 r hr]
  have hr2 : r < yn Y2 38 := by rw [a2.2.2.1 38 (by omega)]; exact hr
  have hC2 : sC S2 38 r = 12 := ((a2.2.2.2 38 r (by omega)).2.2.2.2.2.2.1).trans hC
  refine ⟨yn Y2 23 + 1, f_s13 hr2 (fun x S M hx P => h x Y2 S M hx P ⟨fun k z1 z2 => (a2.2.2.1 k z1).trans (a1.2.2.1 k z2), fun k i hi => (a2.1 k i ?_).trans (a1.1 k i hi)⟩) (yn Y2 23) 0 S2 M2 P2 hC2 I (by omega)⟩
  by_cases z : k = 38
  · subst z
    rw [a1.2.1]
    omega
  · rw [a1.2.2.1 k z]
    exact hi
theorem f_ofLand {Y0 : mY} {S0 : mS} {N : mN} (P : vN g N Y0 S0 Y S M) {a b : Int32} {κ : Int32 → mM → Prop} (h : ∀ x Y' S' M', vN g N Y0 S0 Y' S' M' → κ x M') : wX14_ofLand κ (some (yA Y 20 0)) a b M := by
  refine f_th P (fun S1 M1 P1 _ _ => ?_)
  have H := P1.1.1
  have V := P1.1.2.1
  have VV := P1.1.2.2.1
  refine s_rc H V.x0 rfl rfl (v_isLand (fun l hl e => br_f (by decide) (v_is (fun _ _ => br_f (by decide) ?_) (fun _ => br_t rfl (f_rf P1 (fun S2 M2 P2 _ _ => h 0 Y S2 M2 P2))))) (fun _ => br_t rfl (f_rf P1 (fun S2 M2 P2 _ _ => h 0 Y S2 M2 P2))))
  subst e
  exact s_rc H V.x0 rfl rfl (v_ofLandNow H V VV hl (fun x => h x Y S1 M1 P1))
theorem f_ofGate {Y0 : mY} {S0 : mS} {N : mN} (P : vN g N Y0 S0 Y S M) {a b : Int32} {κ : Int32 → mM → Prop} (h : ∀ x Y' S' M', vN g N Y0 S0 Y' S' M' → κ x M') : wX14_ofGate κ (some (yA Y 20 0)) a b M := by
  refine f_th P (fun S1 M1 P1 _ _ => ?_)
  have H := P1.1.1
  have V := P1.1.2.1
  have VV := P1.1.2.2.1
  refine s_rc H V.x0 rfl rfl (v_isGate H V (fun l hl e => br_f (by decide) (v_is (fun _ _ => br_f (by decide) ?_) (fun _ => br_t rfl (f_rf P1 (fun S2 M2 P2 _ _ => h 0 Y S2 M2 P2))))) (fun _ => br_t rfl (f_rf P1 (fun S2 M2 P2 _ _ => h 0 Y S2 M2 P2))))
  subst e
  exact s_rc H V.x0 rfl rfl (v_ofGateNow H V VV hl (fun x => h x Y S1 M1 P1))
theorem f_ofSleeper {Y0 : mY} {S0 : mS} {N : mN} (P : vN g N Y0 S0 Y S M) {a b : Int32} {κ : Int32 → mM → Prop} (h : ∀ x Y' S' M', vN g N Y0 S0 Y' S' M' → κ x M') : wX14_ofSleeper κ (some (yA Y 20 0)) a b M := by
  refine f_th P (fun S1 M1 P1 _ _ => ?_)
  have H := P1.1.1
  have V := P1.1.2.1
  have VV := P1.1.2.2.1
  refine s_rc H V.x0 rfl rfl (v_isSleeper H V (fun l hl e => br_f (by decide) (v_is (fun _ _ => br_f (by decide) ?_) (fun _ => br_t rfl (f_rf P1 (fun S2 M2 P2 _ _ => h 0 Y S2 M2 P2))))) (fun _ => br_t rfl (f_rf P1 (fun S2 M2 P2 _ _ => h 0 Y S2 M2 P2))))
  subst e
  exact s_rc H V.x0 rfl rfl (v_ofSleeperNow H V VV VV.vg hl (fun x => h x Y S1 M1 P1))
theorem f_ofPart {Y0 : mY} {S0 : mS} {N : mN} (P : vN g N Y0 S0 Y S M) {a b : Int32} {κ : Int32 → mM → Prop} (h : ∀ x Y' S' M', vN g N Y0 S0 Y' S' M' → κ x M') : wX14_ofPart κ (some (yA Y 20 0)) a b M := by
  refine f_th P (fun S1 M1 P1 _ _ => ?_)
  have H := P1.1.1
  have V := P1.1.2.1
  have VV := P1.1.2.2.1
  refine s_rc H V.x0 rfl rfl (v_isPart H V (fun l hl e => br_f (by decide) (v_is (fun _ _ => br_f (by decide) ?_) (fun _ => br_t rfl (f_rf P1 (fun S2 M2 P2 _ _ => h 0 Y S2 M2 P2))))) (fun _ => br_t rfl (f_rf P1 (fun S2 M2 P2 _ _ => h 0 Y S2 M2 P2))))
  subst e
  exact s_rc H V.x0 rfl rfl (v_ofPartNow H V VV hl (fun x => h x Y S1 M1 P1))
theorem f_isGood {Y0 : mY} {S0 : mS} {N : mN} (P : vN g N Y0 S0 Y S M) {a b : Int32} {κ : Int32 → mM → Prop} (h : ∀ x Y' S' M', vN g N Y0 S0 Y' S' M' → κ x M') : wX14_isGood κ (some (yA Y 20 0)) a b M := by
  have H := P.1.1
  have V := P.1.2.1
  have i21 : wX14_isGood_21 κ (some (yA Y 20 0)) a b (some (yA Y 20 0)) M := by
    unfold wX14_isGood_21 wX14_isGood_22
    refine f_th P (fun S1 M1 P1 e1 _ => s_gI P1.1.1 V.x0 rfl rfl rfl ?_)
    rw [e1]
    exact br_f (by decide) (h _ Y S1 M1 P1)
  refine s_rc H V.x0 rfl rfl (v_isSleeper H V (fun s hs es => br_f (by decide) (s_rc H V.x0 rfl rfl (v_isGate H V (fun t ht et => br_f (by decide) ?_) (fun _ => br_t rfl i21)))) (fun _ => br_t rfl i21))
  subst es
  subst et
  refine f_th P (fun S1 M1 P1 e1 _ => s_gI P1.1.1 V.x0 rfl rfl rfl ?_)
  rw [e1]
  exact br_t rfl (s_rc P1.1.1 V.x0 rfl rfl (v_good P1.1.1 P1.1.2.1 P1.1.2.2.1 hs ht (br_f (by decide) (h _ Y S1 M1 P1)) (br_t rfl (h _ Y S1 M1 P1))))
theorem f_night {Y0 : mY} {S0 : mS} {N : mN} (P : vN g N Y0 S0 Y S M) {b : Int32} {κ : Int32 → mM → Prop} (h : ∀ x Y' S' M', vN g N Y0 S0 Y' S' M' → κ x M') : wX14_night κ (some (yA Y 20 0)) b M :=
  f_th P (fun S1 M1 P1 _ _ => v_is (fun _ _ => br_f (by decide) (s_rc P1.1.1 P1.1.2.1.x0 rfl rfl (f_nightNow P1 (fun x Y' S' M' P' _ _ => h x Y' S' M' P')))) (fun _ => br_t rfl (f_rf P1 (fun S2 M2 P2 _ _ => h 0 Y S2 M2 P2))))
theorem f_way {Y0 : mY} {S0 : mS} {N : mN} (P : vN g N Y0 S0 Y S M) {a b : Int32} {κ : Int32 → mM → Prop} (h : ∀ x Y' S' M', vN g N Y0 S0 Y' S' M' → κ x M') : wX14_way κ (some (yA Y 20 0)) a b M := by
  refine f_th P (fun S1 M1 P1 _ _ => ?_)
  have H := P1.1.1
  have V := P1.1.2.1
  have hf : wX14_way_30 κ (some (yA Y 20 0)) M1 := f_rf P1 (fun S2 M2 P2 _ _ => h 0 Y S2 M2 P2)
  exact s_rc H V.x0 rfl rfl (v_isLand (fun _ _ _ => br_f (by decide) (s_rc H V.x0 rfl rfl (v_isLand (fun _ _ _ => br_f (by decide) (s_rc H V.x0 rfl rfl (v_wayNow H V (fun x => h x Y S1 M1 P1)))) (fun _ => br_t rfl hf)))) (fun _ => br_t rfl hf))
theorem f_plan24 {Y0 : mY} {S0 : mS} {N : mN} (P : vN g N Y0 S0 Y S M) {a b : Int32} {κ : Int32 → mM → Prop} (h : ∀ x Y' S' M', vN g N Y0 S0 Y' S' M' → κ x M') : wX14_plan_24 κ (some (yA Y 20 0)) a b M := by
  refine v_is (fun z w => br_f (by decide) (s_rc P.1.1 P.1.2.1.x0 rfl rfl (f_planNow P ?_ ?_ (fun x Y' S' M' P' _ _ => h x Y' S' M' P')))) (fun _ => br_t rfl (f_rf P (fun S2 M2 P2 _ _ => h 0 Y S2 M2 P2)))
  · rw [Int32.lt_iff_toInt_lt, show (0 : Int32).toInt = 0 from by decide] at z
    omega
  · rw [Int32.lt_iff_toInt_lt, show (2000 : Int32).toInt = 2000 from by decide] at w
    omega
theorem f_plan {Y0 : mY} {S0 : mS} {N : mN} (P : vN g N Y0 S0 Y S M) {a b : Int32} {κ : Int32 → mM → Prop} (h : ∀ x Y' S' M', vN g N Y0 S0 Y' S' M' → κ x M') : wX14_plan κ (some (yA Y 20 0)) a b M :=
  f_th P (fun S1 M1 P1 _ _ => br_c (fun _ => f_plan24 P1 h) (fun _ => s_rc P1.1.1 P1.1.2.1.x0 rfl rfl (v_isGate P1.1.1 P1.1.2.1 (fun _ _ _ => br_f (by decide) (f_plan24 P1 h)) (fun _ => br_t rfl (f_rf P1 (fun S2 M2 P2 _ _ => h 0 Y S2 M2 P2))))))
theorem f_wouldPay {Y0 : mY} {S0 : mS} {N : mN} (P : vN g N Y0 S0 Y S M) {a : Int32} {κ : Int32 → mM → Prop} (h : ∀ x Y' S' M', vN g N Y0 S0 Y' S' M' → κ x M') : wX14_wouldPay κ (some (yA Y 20 0)) a M := by
  refine f_th P (fun S1 M1 P1 _ _ => s_rc P1.1.1 P1.1.2.1.x0 rfl rfl (v_isGate P1.1.1 P1.1.2.1 (fun t ht e => br_f (by decide) ?_) (fun _ => br_t rfl (f_rf P1 (fun S2 M2 P2 _ _ => h 0 Y S2 M2 P2)))))
  subst e
  exact s_rc P1.1.1 P1.1.2.1.x0 rfl rfl (f_wouldPayNow P1 ht (fun x S' M' P' => h x Y S' M' P'))
theorem f_isSound {Y0 : mY} {S0 : mS} {N : mN} (P : vN g N Y0 S0 Y S M) {κ : Int32 → mM → Prop} (h : ∀ x Y' S' M', vN g N Y0 S0 Y' S' M' → κ x M') : wX14_isSound κ (some (yA Y 20 0)) M :=
  f_th P (fun S1 M1 P1 _ _ => s_rc P1.1.1 P1.1.2.1.x0 rfl rfl (f_isSoundNow P1 (fun x Y' S' M' hx P' _ => ⟨hx, h x Y' S' M' P'⟩)))
theorem f_d267 {Y0 : mY} {S0 : mS} {N : mN} (P : vN g N Y0 S0 Y S M) {k9 n9 : Nat} (hk : k9 ≤ 20) (hn : n9 ≤ 821) {n : Int64} {κ : Int64 → mM → Prop} (h : ∀ x Y' S' M', vN g N Y0 S0 Y' S' M' → κ x M') : wX14_digest_267 κ k9 n9 (some (yA Y 20 0)) n (some (yA Y 20 0)) M :=
  ⟨⟨hk, hn⟩, f_add P (fun S1 M1 P1 => s_gJ P1.1.1 P1.1.2.1.x0 rfl rfl rfl ⟨⟨hk, hn⟩, h _ Y S1 M1 P1⟩)⟩
theorem f_d219 {Y0 : mY} {S0 : mS} {N : mN} {k9 n9 : Nat} (hk : k9 + 3 ≤ 20) (hn : n9 + 745 ≤ 821) {κ : Int64 → mM → Prop} (h : ∀ x Y' S' M', vN g N Y0 S0 Y' S' M' → κ x M') : ∀ (d j : Nat) (S : mS) (M : mM), vN g N Y0 S0 Y S M → j + d = 6 → wX14_digest_219 κ (d + 1) k9 n9 (some (yA Y 20 0)) (nI j) M := by
  intro d
  induction d with
  | zero =>
    intro j S M P hj
    rw [wX14_digest_219]
    refine ⟨⟨by omega, by omega⟩, br_t (show (6 : Int32) ≤ nI j from nI_le (a := 6) (by omega) (by omega)) ⟨⟨by omega, by omega⟩, s_rc P.1.1 P.1.2.1.x0 rfl rfl (f_planNow P (by decide) (by decide) (fun x Y1 S1 M1 P1 _ a1 => ?_))⟩⟩
    rw [← a1 20 0 P.1.2.1.x0]
    refine f_add P1 (fun S2 M2 P2 => ⟨⟨by omega, by omega⟩, s_rc P2.1.1 P2.1.2.1.x0 rfl rfl (f_isSoundNow P2 (fun x Y3 S3 M3 _ P3 a3 => ?_))⟩)
    rw [← a3.2 20 0 P2.1.2.1.x0]
    exact br_c (fun _ => f_d267 P3 (by omega) (by omega) h) (fun _ => f_d267 P3 (by omega) (by omega) h)
  | succ d ih =>
    intro j S M P hj
    rw [wX14_digest_219]
    refine ⟨⟨by omega, by omega⟩, br_f (show ¬ (6 : Int32) ≤ nI j from nI_ge (b := 6) (by omega) (by omega)) (s_rc P.1.1 P.1.2.1.x0 rfl rfl (v_wayNow P.1.1 P.1.2.1 (fun x => f_add P (fun S1 M1 P1 => ?_))))⟩
    rw [nI_1]
    exact ih (j + 1) S1 M1 P1 (by omega)

theorem f_d188 {Y0 : mY} {S0 : mS} {N : mN} {k9 n9 : Nat} (hk : k9 ≤ 20) (hn : n9 ≤ 821) {i : Nat} (hi : i < yn Y 29) {κ : Int64 → mM → Prop} {R : Nat → Nat → Option Nat → Int32 → mM → Prop} (hR : ∀ S M, vN g N Y0 S0 Y S M → R k9 n9 (some (yA Y 20 0)) (nI i + 1) M) : ∀ (d j : Nat) (S : mS) (M : mM), vN g N Y0 S0 Y S M → j + d = 6 → wX14_digest_188 κ R (d + 1) k9 n9 (some (yA Y 20 0)) (nI i) (nI j) M := by
  intro d
  induction d with
  | zero =>
    intro j S M P hj
    rw [wX14_digest_188]
    exact ⟨⟨hk, hn⟩, br_t (show (6 : Int32) ≤ nI j from nI_le (a := 6) (by omega) (by omega)) (hR S M P)⟩
  | succ d ih =>
    intro j S M P hj
    have H := P.1.1
    have V := P.1.2.1
    have VV := P.1.2.2.1
    rw [wX14_digest_188]
    refine ⟨⟨hk, hn⟩, br_f (show ¬ (6 : Int32) ≤ nI j from nI_ge (b := 6) (by omega) (by omega)) (s_rc H V.x0 rfl rfl (v_ofPartNow H V VV hi (fun x => f_add P (fun S1 M1 P1 => ?_))))⟩
    rw [nI_1]
    exact ih (j + 1) S1 M1 P1 (by omega)
theorem f_d144 {Y0 : mY} {S0 : mS} {N : mN} {k9 n9 : Nat} (hk : k9 ≤ 20) (hn : n9 ≤ 821) {i : Nat} (hi : i < yn Y 28) {κ : Int64 → mM → Prop} {R : Nat → Nat → Option Nat → Int32 → mM → Prop} (hR : ∀ S M, vN g N Y0 S0 Y S M → R k9 n9 (some (yA Y 20 0)) (nI i + 1) M) : ∀ (d j : Nat) (S : mS) (M : mM), vN g N Y0 S0 Y S M → j + d = 9 → wX14_digest_144 κ R (d + 1) k9 n9 (some (yA Y 20 0)) (nI i) (nI j) M := by
  intro d
  induction d with
  | zero =>
    intro j S M P hj
    rw [wX14_digest_144]
    exact ⟨⟨hk, hn⟩, br_t (show (9 : Int32) ≤ nI j from nI_le (a := 9) (by omega) (by omega)) (hR S M P)⟩
  | succ d ih =>
    intro j S M P hj
    have H := P.1.1
    have V := P.1.2.1
    have VV := P.1.2.2.1
    rw [wX14_digest_144]
    refine ⟨⟨hk, hn⟩, br_f (show ¬ (9 : Int32) ≤ nI j from nI_ge (b := 9) (by omega) (by omega)) (s_rc H V.x0 rfl rfl (v_ofSleeperNow H V VV VV.vg hi (fun x => f_add P (fun S1 M1 P1 => ?_))))⟩
    rw [nI_1]
    exact ih (j + 1) S1 M1 P1 (by omega)
theorem f_d90 {Y0 : mY} {S0 : mS} {N : mN} {k9 n9 : Nat} (hk : k9 ≤ 20) (hn : n9 ≤ 821) {i : Nat} (hi : i < yn Y 23) {κ : Int64 → mM → Prop} {R : Nat → Nat → Option Nat → Int32 → mM → Prop} (hR : ∀ S M, vN g N Y0 S0 Y S M → R k9 n9 (some (yA Y 20 0)) (nI i + 1) M) : ∀ (d j : Nat) (S : mS) (M : mM), vN g N Y0 S0 Y S M → j + d = 10 → wX14_digest_90 κ R (d + 1) k9 n9 (some (yA Y 20 0)) (nI i) (nI j) M := by
  intro d
  induction d with
  | zero =>
    intro j S M P hj
    rw [wX14_digest_90]
    exact ⟨⟨hk, hn⟩, br_t (show (10 : Int32) ≤ nI j from nI_le (a := 10) (by omega) (by omega)) (s_rc P.1.1 P.1.2.1.x0 rfl rfl (f_wouldPayNow P hi (fun x S1 M1 P1 => f_add P1 (fun S2 M2 P2 => hR S2 M2 P2))))⟩
  | succ d ih =>
    intro j S M P hj
    have H := P.1.1
    have V := P.1.2.1
    have VV := P.1.2.2.1
    rw [wX14_digest_90]
    refine ⟨⟨hk, hn⟩, br_f (show ¬ (10 : Int32) ≤ nI j from nI_ge (b := 10) (by omega) (by omega)) (s_rc H V.x0 rfl rfl (v_ofGateNow H V VV hi (fun x => f_add P (fun S1 M1 P1 => ?_))))⟩
    rw [nI_1]
    exact ih (j + 1) S1 M1 P1 (by omega)
theorem f_d46 {Y0 : mY} {S0 : mS} {N : mN} {k9 n9 : Nat} (hk : k9 ≤ 20) (hn : n9 ≤ 821) {i : Nat} (hi : i < 6) {κ : Int64 → mM → Prop} {R : Nat → Nat → Option Nat → Int32 → mM → Prop} (hR : ∀ S M, vN g N Y0 S0 Y S M → R k9 n9 (some (yA Y 20 0)) (nI i + 1) M) : ∀ (d j : Nat) (S : mS) (M : mM), vN g N Y0 S0 Y S M → j + d = 9 → wX14_digest_46 κ R (d + 1) k9 n9 (some (yA Y 20 0)) (nI i) (nI j) M := by
  intro d
  induction d with
  | zero =>
    intro j S M P hj
    rw [wX14_digest_46]
    exact ⟨⟨hk, hn⟩, br_t (show (9 : Int32) ≤ nI j from nI_le (a := 9) (by omega) (by omega)) (hR S M P)⟩
  | succ d ih =>
    intro j S M P hj
    have H := P.1.1
    have V := P.1.2.1
    have VV := P.1.2.2.1
    rw [wX14_digest_46]
    refine ⟨⟨hk, hn⟩, br_f (show ¬ (9 : Int32) ≤ nI j from nI_ge (b := 9) (by omega) (by omega)) (s_rc H V.x0 rfl rfl (v_ofLandNow H V VV hi (fun x => f_add P (fun S1 M1 P1 => ?_))))⟩
    rw [nI_1]
    exact ih (j + 1) S1 M1 P1 (by omega)
theorem f_d175 {Y0 : mY} {S0 : mS} {N : mN} {k9 n9 : Nat} (hk : k9 + 3 ≤ 20) (hn : n9 + 745 ≤ 821) {κ : Int64 → mM → Prop} (h : ∀ x Y' S' M', vN g N Y0 S0 Y' S' M' → κ x M') : ∀ (d j : Nat) (S : mS) (M : mM), vN g N Y0 S0 Y S M → j + d = yn Y 29 → wX14_digest_175 κ (d + 1) k9 n9 (some (yA Y 20 0)) (nI j) M := by
  intro d
  induction d with
  | zero =>
    intro j S M P hj
    have H := P.1.1
    have V := P.1.2.1
    have hb := V.2.1
    rw [wX14_digest_175]
    exact ⟨⟨by omega, by omega⟩, s_gR6 H V.x0 rfl rfl rfl (s_rcL H rfl (V.l24 (by omega)) (v_szP H V (br_t (nI_le (by omega) (by omega)) ⟨6 + 1, f_d219 hk hn h (6) 0 S M P (by omega)⟩)))⟩
  | succ d ih =>
    intro j S M P hj
    have H := P.1.1
    have V := P.1.2.1
    have hb := V.2.1
    rw [wX14_digest_175]
    exact ⟨⟨by omega, by omega⟩, s_gR6 H V.x0 rfl rfl rfl (s_rcL H rfl (V.l24 (by omega)) (v_szP H V (br_f (nI_ge (by omega) (by omega)) ⟨3 + 1, f_d188 (by omega) (by omega) (by omega) (fun S M P => by rw [nI_1]; exact ih (j + 1) S M P (by omega)) 3 3 S M P (by omega)⟩)))⟩
theorem f_d131 {Y0 : mY} {S0 : mS} {N : mN} {k9 n9 : Nat} (hk : k9 + 3 ≤ 20) (hn : n9 + 745 ≤ 821) {κ : Int64 → mM → Prop} (h : ∀ x Y' S' M', vN g N Y0 S0 Y' S' M' → κ x M') : ∀ (d j : Nat) (S : mS) (M : mM), vN g N Y0 S0 Y S M → j + d = yn Y 28 → wX14_digest_131 κ (d + 1) k9 n9 (some (yA Y 20 0)) (nI j) M := by
  intro d
  induction d with
  | zero =>
    intro j S M P hj
    have H := P.1.1
    have V := P.1.2.1
    have hb := V.2.1
    rw [wX14_digest_131]
    exact ⟨⟨by omega, by omega⟩, s_gR6 H V.x0 rfl rfl rfl (s_rcL H rfl (V.l24 (by omega)) (v_szS H V (br_t (nI_le (by omega) (by omega)) ⟨yn Y 29 + 1, f_d175 hk hn h (yn Y 29) 0 S M P (by omega)⟩)))⟩
  | succ d ih =>
    intro j S M P hj
    have H := P.1.1
    have V := P.1.2.1
    have hb := V.2.1
    rw [wX14_digest_131]
    exact ⟨⟨by omega, by omega⟩, s_gR6 H V.x0 rfl rfl rfl (s_rcL H rfl (V.l24 (by omega)) (v_szS H V (br_f (nI_ge (by omega) (by omega)) ⟨9 + 1, f_d144 (by omega) (by omega) (by omega) (fun S M P => by rw [nI_1]; exact ih (j + 1) S M P (by omega)) 9 0 S M P (by omega)⟩)))⟩
theorem f_d77 {Y0 : mY} {S0 : mS} {N : mN} {k9 n9 : Nat} (hk : k9 + 3 ≤ 20) (hn : n9 + 745 ≤ 821) {κ : Int64 → mM → Prop} (h : ∀ x Y' S' M', vN g N Y0 S0 Y' S' M' → κ x M') : ∀ (d j : Nat) (S : mS) (M : mM), vN g N Y0 S0 Y S M → j + d = yn Y 23 → wX14_digest_77 κ (d + 1) k9 n9 (some (yA Y 20 0)) (nI j) M := by
  intro d
  induction d with
  | zero =>
    intro j S M P hj
    have H := P.1.1
    have V := P.1.2.1
    have hb := V.2.1
    rw [wX14_digest_77]
    exact ⟨⟨by omega, by omega⟩, s_gR6 H V.x0 rfl rfl rfl (s_rcL H rfl (V.l24 (by omega)) (v_szG H V (br_t (nI_le (by omega) (by omega)) ⟨yn Y 28 + 1, f_d131 hk hn h (yn Y 28) 0 S M P (by omega)⟩)))⟩
  | succ d ih =>
    intro j S M P hj
    have H := P.1.1
    have V := P.1.2.1
    have hb := V.2.1
    rw [wX14_digest_77]
    exact ⟨⟨by omega, by omega⟩, s_gR6 H V.x0 rfl rfl rfl (s_rcL H rfl (V.l24 (by omega)) (v_szG H V (br_f (nI_ge (by omega) (by omega)) ⟨8 + 1, f_d90 (by omega) (by omega) (by omega) (fun S M P => by rw [nI_1]; exact ih (j + 1) S M P (by omega)) 8 2 S M P (by omega)⟩)))⟩
theorem f_d38 {Y0 : mY} {S0 : mS} {N : mN} {k9 n9 : Nat} (hk : k9 + 3 ≤ 20) (hn : n9 + 745 ≤ 821) {κ : Int64 → mM → Prop} (h : ∀ x Y' S' M', vN g N Y0 S0 Y' S' M' → κ x M') : ∀ (d j : Nat) (S : mS) (M : mM), vN g N Y0 S0 Y S M → j + d = 6 → wX14_digest_38 κ (d + 1) k9 n9 (some (yA Y 20 0)) (nI j) M := by
  intro d
  induction d with
  | zero =>
    intro j S M P hj
    rw [wX14_digest_38]
    exact ⟨⟨by omega, by omega⟩, br_t (show (6 : Int32) ≤ nI j from nI_le (a := 6) (by omega) (by omega)) ⟨yn Y 23 + 1, f_d77 hk hn h (yn Y 23) 0 S M P (by omega)⟩⟩
  | succ d ih =>
    intro j S M P hj
    rw [wX14_digest_38]
    exact ⟨⟨by omega, by omega⟩, br_f (show ¬ (6 : Int32) ≤ nI j from nI_ge (b := 6) (by omega) (by omega)) ⟨9 + 1, f_d46 (by omega) (by omega) (by omega) (fun S M P => by rw [nI_1]; exact ih (j + 1) S M P (by omega)) 9 0 S M P (by omega)⟩⟩
theorem f_d14 {Y0 : mY} {S0 : mS} {N : mN} {κ : Int64 → mM → Prop} (h : ∀ x Y' S' M', vN g N Y0 S0 Y' S' M' → κ x M') : ∀ (d j : Nat) (Y : mY) (S : mS) (M : mM), vN g N Y0 S0 Y S M → j + d = 17 → wX14_digest_14 κ (d + 1) j (4 * j) (some (yA Y 20 0)) (nI j) M := by
  intro d
  induction d with
  | zero =>
    intro j Y S M P hj
    rw [wX14_digest_14]
    exact ⟨⟨by omega, by omega⟩, br_t (show (17 : Int32) ≤ nI j from nI_le (a := 17) (by omega) (by omega)) ⟨7, f_d38 (by omega) (by omega) h 6 0 S M P (by omega)⟩⟩
  | succ d ih =>
    intro j Y S M P hj
    rw [wX14_digest_14]
    refine ⟨⟨by omega, by omega⟩, br_f (show ¬ (17 : Int32) ≤ nI j from nI_ge (b := 17) (by omega) (by omega)) ⟨⟨by omega, by omega⟩, s_rc P.1.1 P.1.2.1.x0 rfl rfl (f_nightNow P (fun x Y1 S1 M1 P1 _ a1 => ?_))⟩⟩
    rw [← a1 20 0 P.1.2.1.x0]
    refine f_add P1 (fun S2 M2 P2 => ?_)
    rw [nI_1]
    exact ih (j + 1) Y1 S2 M2 P2 (by omega)
theorem f_digest {Y0 : mY} {S0 : mS} {N : mN} (P : vN g N Y0 S0 Y S M) {κ : Int64 → mM → Prop} (h : ∀ x Y' S' M', vN g N Y0 S0 Y' S' M' → κ x M') : wX14_digest κ (some (yA Y 20 0)) M :=
  f_th P (fun S1 M1 P1 _ _ => s_pJ P1.1.1 P1.1.2.1.x0 rfl rfl rfl (fun M2 H2 => ⟨18, f_d14 h 17 0 Y _ M2 (vN_J P1 H2 (by omega)) (by omega)⟩))
theorem f_q54 {Y0 : mY} {S0 : mS} {N : mN} (P : vN g N Y0 S0 Y S M) (Kc : mKs g Y S) {t b m : Nat} (ht : t < yn Y 23) (hm : (sL S 25 t).length = m) (hm12 : m ≤ 12) {κ : Option Nat → mM → Prop} (h : ∀ x M', mR g Y S M' → κ x M') : ∀ (d j k9 n9 N len : Nat) (M : mM), sbR g Y S M b N len → sbP N k9 n9 → len ≤ 4 * j → j + d = m → wX14_queue_54 g κ (d + 1) k9 n9 (some (yA Y 20 0)) (some b) (some (yA Y 25 t)) (nI j) M := by
  have V := P.1.2.1
  have VQ := P.1.2.2.2.1
  clear P
  have hbd := V.2.1
  intro d
  induction d with
  | zero =>
    intro j k9 n9 N len M R p hl hj
    have H : mR g Y S M := by obtain ⟨v, f, H, -⟩ := R; exact H
    have hp := p.bd
    rw [wX14_queue_54]
    exact ⟨⟨by omega, by omega⟩, s_rcL H rfl (V.l25 ht) (s_size H rfl (V.l25 ht) (br_t (nI_le (by omega) (by omega)) (s_rcL H rfl (V.l25 ht) (s_isEmpty H rfl (V.l25 ht) (fun _ => br_f (by decide) ⟨⟨by omega, by omega⟩, h _ M H⟩) (fun _ => br_t rfl ⟨2, 4 + N, ⟨by omega, by omega⟩, sb_toS R (by omega) (Nat.le_refl _) (Nat.le_refl _) (fun x M' H' => ⟨⟨by omega, by omega⟩, h x M' H'⟩)⟩)))))⟩
  | succ d ih =>
    intro j k9 n9 N len M R p hl hj
    have H : mR g Y S M := by obtain ⟨v, f, H, -⟩ := R; exact H
    have hp := p.bd
    have hlt : j < (sL S 25 t).length := by omega
    have hlN : len ≤ N := by obtain ⟨v, f, H, Fb, Fv, nbv, hb, hv, hf, hle⟩ := R; exact hle
    have hx : (sL S 25 t)[j]? = some ((sL S 25 t)[j]) := List.getElem?_eq_getElem hlt
    generalize (sL S 25 t)[j] = u at hx
    have hu : u < yn Y 28 := ((VQ.1 t ht).2 u (List.mem_of_getElem? hx)).1
    have L1 : ∀ i, i < 3 → sC S 37 i ≤ 1 := fun i hi => (Kc.2.2 i hi).2.2.2
    have i127 : ∀ i, i < 3 → ∀ k9 n9 N len M, sbR g Y S M b N len → sbP N k9 n9 → len ≤ 4 * j + 3 → wX14_queue_127 g κ (wX14_queue_54 g κ (d + 1)) k9 n9 (some (yA Y 20 0)) (some b) (some (yA Y 25 t)) (nI j) (some (g (11 + i))) (some b) M := fun i hi k9 n9 N len M R p hl => by
      have hp := p.bd
      have := L1 i hi
      have hlN : len ≤ N := by obtain ⟨v, f, H, Fb, Fv, nbv, hb, hv, hf, hle⟩ := R; exact hle
      obtain ⟨bb1, hbb1⟩ : ∃ bb, M b = some (.inr (1, bb)) := by obtain ⟨v, f, H, Fb, Fv, nbv, hb, hv, hf, hle⟩ := R; exact ⟨_, hb⟩
      have p1 := p.st (need := len + sC S 37 i) (by omega) (by omega)
      have hp1 := p1.bd
      refine ⟨⟨by omega, by omega⟩, _, _, ⟨by omega, by omega⟩, r_rc hbb1 (sb_appS Kc R (by omega) hi (Nat.le_refl _) (Nat.le_refl _) (fun M2 R2 => ?_))⟩
      rw [nI_1]
      exact ih (j + 1) _ _ _ _ M2 R2 p1 (by omega) (by omega)
    have i92 : ∀ i, i < 3 → wX14_queue_92 g κ (wX14_queue_54 g κ (d + 1)) k9 n9 (some (yA Y 20 0)) (some b) (some (yA Y 25 t)) (nI j) (nI u) (some (g (11 + i))) (some b) M := fun i hi => by
      have := L1 i hi
      obtain ⟨bb1, hbb1⟩ : ∃ bb, M b = some (.inr (1, bb)) := by obtain ⟨v, f, H, Fb, Fv, nbv, hb, hv, hf, hle⟩ := R; exact ⟨_, hb⟩
      have p1 := p.st (need := len + sC S 37 i) (by omega) (by omega)
      have hp1 := p1.bd
      refine ⟨⟨by omega, by omega⟩, _, _, ⟨by omega, by omega⟩, r_rc hbb1 (sb_appS Kc R (by omega) hi (Nat.le_refl _) (Nat.le_refl _) (fun M1 R1 => ?_))⟩
      obtain ⟨bb2, hbb2⟩ : ∃ bb, M1 b = some (.inr (1, bb)) := by obtain ⟨v, f, H, Fb, Fv, nbv, hb, hv, hf, hle⟩ := R1; exact ⟨_, hb⟩
      have hlN1 : len + sC S 37 i ≤ eN N (len + sC S 37 i) := by obtain ⟨v, f, H, Fb, Fv, nbv, hb, hv, hf, hle⟩ := R1; exact hle
      obtain ⟨D, hD, hD1, hD2⟩ : ∃ D : Nat, (D = if u < 10 then 1 else 2) ∧ 1 ≤ D ∧ D ≤ 2 := ⟨_, rfl, by split <;> omega, by split <;> omega⟩
      have p2 := p1.st (need := len + sC S 37 i + D) (by omega) (by omega)
      have hp2 := p2.bd
      refine ⟨_, _, ⟨by omega, by omega⟩, r_rc hbb2 (sb_appI Kc R1 (by omega) (by omega) (by omega) hD (Nat.le_refl _) (Nat.le_refl _) (fun M2 R2 => ?_))⟩
      have H2 : mR g Y S M2 := by obtain ⟨v, f, H, -⟩ := R2; exact H
      exact v_S H2 V hu (s_gI H2 hu rfl rfl rfl (br_c (fun _ => i127 0 (by omega) _ _ _ _ M2 R2 p2 (by omega)) (fun _ => i127 2 (by omega) _ _ _ _ M2 R2 p2 (by omega))))
    rw [wX14_queue_54]
    exact ⟨⟨by omega, by omega⟩, s_rcL H rfl (V.l25 ht) (s_size H rfl (V.l25 ht) (br_f (nI_ge (by omega) (by omega)) (s_rcL H rfl (V.l25 ht) (s_get H rfl (V.l25 ht) hx (v_int H V (by omega) (br_c (fun _ => i92 0 (by omega)) (fun _ => i92 1 (by omega))))))))⟩
theorem f_queue {Y0 : mY} {S0 : mS} {N : mN} (P : vN g N Y0 S0 Y S M) (Kc : mKs g Y S) {a : Int32} {κ : Option Nat → mM → Prop} (h : ∀ x Y' S' M', vN g N Y0 S0 Y' S' M' → κ x M') : wX14_queue g κ (some (yA Y 20 0)) a M := by
  have H := P.1.1
  have V := P.1.2.1
  have hbd := V.2.1
  have ff : ∀ n, ¬ n ≤ (0 : Int32) → wX14_queue_14 g κ 0 0 (some (yA Y 20 0)) a n (some (yA Y 20 0)) M := fun n hn => by
    unfold wX14_queue_14
    refine ⟨⟨by omega, by omega⟩, f_th P (fun S1 M1 P1 e1 _ => s_gI P1.1.1 V.x0 rfl rfl rfl ?_)⟩
    rw [e1]
    exact br_f hn ⟨⟨by omega, by omega⟩, h _ Y S1 M1 P1⟩
  refine s_rc H V.x0 rfl rfl (v_isGate H V (fun t ht et => br_f (by decide) ?_) (fun _ => br_t rfl (ff 1 (by decide))))
  subst et
  unfold wX14_queue_14
  refine ⟨⟨by omega, by omega⟩, f_th P (fun S1 M1 P1 e1 eS => s_gI P1.1.1 V.x0 rfl rfl rfl ?_)⟩
  rw [e1]
  have Kc1 : mKs g Y S1 := by rw [eS]; exact Kc.Fm (mFm.uI (by omega))
  have hlen : (sL S1 25 t).length ≤ 12 := by
    have := nd_len (yn Y 28) _ (P1.1.2.2.2.1.1 t ht).1 (fun z hz => ((P1.1.2.2.2.1.1 t ht).2 z hz).1)
    omega
  refine br_t (by decide) ⟨⟨by omega, by omega⟩, ?_⟩
  have key := sb_new (K := 1) (B := 16) (κ := fun q M8 => m_gR M8 (some (yA Y 20 0)) 19 7 fun x10 => m_rc M8 x10 4 fun b13 => wJx4a65c_get_915e3 (fun x11 M12 => m_cast M12 x11 15 (m_gR M12 x11 15 6 fun x14 => ∃ u : Nat, wX14_queue_54 g κ u ((0 + 1) + 1) ((0 + 4) + 16) (some (yA Y 20 0)) (some q) x14 0 M12)) (some b13) (nI t) M8) (C1 := fun _ _ => True) (C2 := fun _ _ _ _ => True) P1.1.1 (fun b M' R => by
    have H' : mR g Y S1 M' := by obtain ⟨v, f, H, -⟩ := R; exact H
    exact v_G H' P1.1.2.1 ht (s_gR7 H' ht rfl rfl rfl ⟨(sL S1 25 t).length + 1, f_q54 P1 Kc1 ht rfl hlen (fun x M'' H'' => h x Y S1 M'' ⟨⟨H'', P1.1.2⟩, P1.2⟩) _ 0 _ _ 16 0 M' R (Or.inl ⟨rfl, by omega, by omega⟩) (by omega) (by omega)⟩)) (by omega) (by omega)
  exact fun q hq => ⟨1, 16, ⟨by omega, by omega⟩, key q hq⟩
end SIM25
