/-! THE SIMULATION, 19: what holds of the plain state between calls; waking, tiring, yawns of the class -/
/-- told by the reference's own invariants -/
def nB (N : mN) : Prop :=
  (∃ nt h, nt ≤ 99 ∧ h ≤ 23 ∧ nv N 20 0 1 = nI nt ∧ nv N 20 0 2 = nI h) ∧
  (nn N 23 ≤ 8 ∧ nn N 28 ≤ 12 ∧ nn N 29 ≤ 24) ∧
  (∀ t, t < nn N 23 → (∃ a, a < 6 ∧ nv N 23 t 0 = nI a) ∧ ∃ a, a < 6 ∧ nv N 23 t 1 = nI a) ∧
  (∀ s, s < nn N 28 → (∃ a, a < 6 ∧ nv N 28 s 0 = nI a) ∧ (nv N 28 s 4 = -1 ∨ ∃ t, t < nn N 23 ∧ nv N 28 s 4 = nI t) ∧ (nv N 28 s 8 = -1 ∨ ∃ a, a < 97 ∧ nv N 28 s 8 = nI a)) ∧
  (∀ p, p < nn N 29 → (∃ a, a < 8 ∧ nv N 29 p 0 = nI a) ∧ (∃ a, a ≤ 99 ∧ nv N 29 p 1 = nI a) ∧ (∃ a, nv N 29 p 4 = nI a ∧ (a < nn N 28 ∨ (100 ≤ a ∧ a < 106) ∨ a = 999)) ∧ (nv N 29 p 3 = 3 → ∃ b, b < nn N 28 ∧ nv N 29 p 5 = nI b)) ∧
  (∀ t, t < nn N 23 → (nq N t).Nodup ∧ ∀ s ∈ nq N t, s < nn N 28 ∧ nv N 28 s 3 = 1 ∧ nv N 28 s 4 = nI t) ∧
  (∀ s, s < nn N 28 → nv N 28 s 3 = 1 → ∃ t, t < nn N 23 ∧ nv N 28 s 4 = nI t ∧ s ∈ nq N t) ∧
  ∃ h, h ≤ 40 ∧ (nh N).length = 3 * h ∧ ∀ j v, (nh N)[3 * j]? = some v → v < nn N 28
theorem nB_of {g : Nat → Nat} {N : mN} {Y : mY} {S : mS} {M : mM} (I : mVI g Y S M) (R : RV N Y S) : nB N := by
  obtain ⟨-, V, VV, VQ, VT⟩ := I
  obtain ⟨⟨c1, c2, c3⟩, r2, r3, -, r5⟩ := R
  obtain ⟨b1, b2, b3⟩ := V.2.1
  refine ⟨?_, ⟨by omega, by omega, by omega⟩, fun t ht => ?_, fun s hs => ?_, fun p hp => ?_, fun t ht => ?_, fun s hs h3 => ?_, ?_⟩
  · obtain ⟨nt, h, t1, t2, t3, t4⟩ := VT
    exact ⟨nt, h, t1, t2, (r2 20 0 1 rfl V.x0).symm.trans t3, (r2 20 0 2 rfl V.x0).symm.trans t4⟩
  · have ht' : t < yn Y 23 := by omega
    rw [← r2 23 t 0 rfl ht', ← r2 23 t 1 rfl ht']
    exact ⟨VV.1 23 t 0 ht', VV.1 23 t 1 ht'⟩
  · have hs' : s < yn Y 28 := by omega
    rw [← r2 28 s 0 rfl hs', ← r2 28 s 4 rfl hs', ← r2 28 s 8 rfl hs', ← c1]
    exact ⟨VV.1 28 s 0 hs', VV.1 28 s 4 hs', VV.1 28 s 8 hs'⟩
  · have hp' : p < yn Y 29 := by omega
    rw [← r2 29 p 0 rfl hp', ← r2 29 p 1 rfl hp', ← r2 29 p 4 rfl hp', ← r2 29 p 3 rfl hp', ← r2 29 p 5 rfl hp', ← c2]
    exact ⟨VV.1 29 p 0 hp', VV.1 29 p 1 hp', VV.1 29 p 4 hp', VV.2 p hp'⟩
  · have ht' : t < yn Y 23 := by omega
    obtain ⟨q1, q2⟩ := VQ.1 t ht'
    rw [r3 t ht'] at q1 q2
    refine ⟨q1, fun s hs => ?_⟩
    obtain ⟨a1, a2, a3⟩ := q2 s hs
    rw [r2 28 s 3 rfl a1] at a2
    rw [r2 28 s 4 rfl a1] at a3
    exact ⟨by omega, a2, a3⟩
  · have hs' : s < yn Y 28 := by omega
    obtain ⟨t, a1, a2, a3⟩ := VQ.2 s hs' ((r2 28 s 3 rfl hs').trans h3)
    rw [r2 28 s 4 rfl hs'] at a2
    rw [r3 t a1] at a3
    exact ⟨t, by omega, a2, a3⟩
  · obtain ⟨h, h1, h2, h3⟩ := V.2.2.1.2.2.2
    rw [r5] at h2 h3
    rw [c2] at h3
    exact ⟨h, h1, h2, h3⟩
/-- who hides one dream on near nights: of two hidings -/
def nLn (h : List Nat) (a b : Nat) : Prop := hD h a = hD h b ∧ hT h a ≤ hT h b + 2 ∧ hT h b ≤ hT h a + 2
/-- what the reference doesn't hold by itself -/
def NI (N : mN) : Prop :=
  (∀ l, l < 6 → ∃ a, a ≤ 99 ∧ nv N 22 l 1 = nI a) ∧
  (∃ q : Nat → Nat, (∀ l, l < 6 → nv N 22 l 2 = nI (q l)) ∧ q 0 + q 1 + q 2 + q 3 + q 4 + q 5 = 30) ∧
  (∀ s, s < nn N 28 → (nv N 28 s 3 = 0 ∨ nv N 28 s 3 = 1 ∨ nv N 28 s 3 = 2) ∧ (nv N 28 s 3 = 2 → nv N 28 s 2 = 0 ∧ ∀ p, p < nn N 29 → ¬ nv N 29 p 4 = nI s) ∧ (¬ nv N 28 s 3 = 2 → ∃ a, 1 ≤ a ∧ a ≤ 9 ∧ nv N 28 s 2 = nI a) ∧ (¬ nv N 28 s 3 = 1 → nv N 28 s 4 = -1) ∧ (nv N 28 s 3 = 1 → (∀ p, p < 32 → zb (nv N 28 s 5) p = true → p < nn N 29 ∧ nv N 29 p 4 = nI s) ∧ ∀ t, t < nn N 23 → nv N 28 s 4 = nI t → (nv N 23 t 0 = nv N 28 s 0 ∨ nv N 23 t 1 = nv N 28 s 0))) ∧
  (∀ t, t < nn N 23 → nAh N t) ∧
  (∀ k, 3 * k < (nh N).length → hD (nh N) k < 8 ∧ hT (nh N) k ≤ tN (nv N 20 0 1)) ∧
  (∀ k k', k ≤ k' → 3 * k' < (nh N).length → hT (nh N) k ≤ hT (nh N) k') ∧
  (∀ s, s < nn N 28 → ∀ u, u < 32 → (zb (nv N 28 s 9) u = true ↔ ∃ a b, 3 * a < (nh N).length ∧ 3 * b < (nh N).length ∧ ¬ a = b ∧ hS (nh N) a = s ∧ hS (nh N) b = u ∧ nLn (nh N) a b))
theorem nGo_v {s k i f : Nat} {N : mN} (h : ¬ (k = 29 ∧ f = 4)) : ∀ j, nv (nGo s j N) k i f = nv N k i f := by
  intro j
  induction j with
  | zero => rfl
  | succ j ih =>
    unfold nGo
    split
    · exact (nv_U (by omega)).trans ih
    · exact ih
theorem nGo_o {s : Nat} {N : mN} : ∀ j, nn (nGo s j N) = nn N ∧ nq (nGo s j N) = nq N ∧ nr (nGo s j N) = nr N ∧ nh (nGo s j N) = nh N := by
  intro j
  induction j with
  | zero => exact ⟨rfl, rfl, rfl, rfl⟩
  | succ j ih =>
    unfold nGo
    split
    · exact ih
    · exact ih
section SIM19
variable {g : Nat → Nat} {Y : mY}
theorem C_wake7 {S0 : mS} {N : mN} {s : Nat} (hs : s < yn Y 4) {κ : mM → Prop} (h : ∀ S' M', mR g Y S' M' → mWs Y S' → cK Y S0 Y S' → RC 99 (nGo s (yn Y 5) N) Y S' → κ M') : ∀ (d j : Nat) (S : mS) (M : mM), mR g Y S M → mWs Y S → cK Y S0 Y S → RC 99 (nGo s j N) Y S → j + d = yn Y 5 → wX8_wake_7 κ (d + 1) (some (yA Y 0 0)) (some (yA Y 4 s)) (nI j) M := by
  intro d
  induction d with
  | zero =>
    intro j S M H W K R hj
    have ej : j = yn Y 5 := by omega
    rw [ej] at R
    rw [wX8_wake_7]
    exact c_hdP H W (by omega) (fun _ => h S M H W K R) (fun hlt => absurd hlt (by omega))
  | succ d ih =>
    intro j S M H W K R hj
    have ih' : ∀ S M, mR g Y S M → mWs Y S → cK Y S0 Y S → RC 99 (nGo s (j + 1) N) Y S → wX8_wake_7 κ (d + 1) (some (yA Y 0 0)) (some (yA Y 4 s)) (nI j + 1) M := fun S M H W K R => by rw [nI_1]; exact ih (j + 1) S M H W K R (by omega)
    rw [wX8_wake_7]
    refine c_hdP H W (by omega) (fun z => absurd z (by omega)) (fun hlt => ?_)
    have hX := H.lX (k := 5) (f := 5) (kt := 4) hlt rfl
    refine s_gR3 H hlt rfl rfl rfl (br_c (fun z => ?_) (fun z => ih' S M H W K ?_))
    · have hx := (H.minj hs hX).mp z
      have R1 := R.hd (o := none) hlt (fun _ => rfl)
      rw [(R.at1 hlt hx).1, show oAt none none = 999 from rfl] at R1
      refine s_pX0 H hlt rfl rfl rfl (fun M1 H1 => ih' _ M1 H1 W.uX (K.tr (cK.uX (by omega) (by omega))) ?_)
      rw [show nGo s (j + 1) N = nU (nGo s j N) 29 j 4 999 from if_pos ((R.at H W hlt hs).mpr hx)]
      exact R1
    · rw [show nGo s (j + 1) N = nGo s j N from if_neg (fun w => z ((H.minj hs hX).mpr ((R.at H W hlt hs).mp w)))]
      exact R
theorem nodup_ne {l : List Nat} (hn : l.Nodup) {i j a b : Nat} (hi : l[i]? = some a) (hj : l[j]? = some b) (h : i ≠ j) : a ≠ b := fun e => h ((List.getElem?_inj (List.getElem?_eq_some_iff.mp hi).1 hn).mp (hi.trans (by rw [e]; exact hj.symm)))
theorem C_tire10 {S0 : mS} {t : Nat} (ht : t < yn Y 3) {NF : mN} {κ : mM → Prop} (h : ∀ S' M', cX g NF Y S0 Y S' M' → κ M') : ∀ (d : Nat) (N : mN) (S : mS) (M : mM), cX g N Y S0 Y S M → nTi t d N = NF → d ≤ (sL S 13 t).length → (∀ i u, i < d → (nq N t)[i]? = some u → ∃ a, 1 ≤ a ∧ a ≤ 9 ∧ nv N 28 u 2 = nI a) → wX8_tireThoseWhoStand_10 κ (d + 1) (some (yA Y 0 0)) (some (yA Y 3 t)) (nI d - 1) M := by
  intro d
  induction d with
  | zero =>
    intro N S M P e hd hp
    rw [show nTi t 0 N = N from rfl] at e
    rw [e] at P
    rw [wX8_tireThoseWhoStand_10]
    exact br_t (by decide) (h S M P)
  | succ d ih =>
    intro N S M P eN hd hp
    obtain ⟨H, W, Q, F, R⟩ := P
    have hbd := W.2.1
    have hl := H.len (k := 13) (i := t) rfl (W.l13 ht)
    have eq : sL S 13 t = nq N t := (R.2.2.1 t ht).2.2
    have ih' : ∀ N S M, cX g N Y S0 Y S M → nTi t d N = NF → d ≤ (sL S 13 t).length → (∀ i u, i < d → (nq N t)[i]? = some u → ∃ a, 1 ≤ a ∧ a ≤ 9 ∧ nv N 28 u 2 = nI a) → wX8_tireThoseWhoStand_10 κ (d + 1) (some (yA Y 0 0)) (some (yA Y 3 t)) (nI d + (-1)) M := fun N S M P e hd hp => by rw [nI_m1]; exact ih N S M P e hd hp
    have hx : (sL S 13 t)[d]? = some ((sL S 13 t)[d]) := List.getElem?_eq_getElem (by omega)
    generalize (sL S 13 t)[d] = u at hx
    have hu : u < yn Y 4 := H.lL rfl (W.l13 ht) hx
    have hx' : (nq N t)[d]? = some u := by rw [← eq]; exact hx
    have hnd : (nq N t).Nodup := by rw [← eq]; exact (Q.1 t ht).1
    obtain ⟨a, a1, a9, ea⟩ := hp d u (by omega) hx'
    obtain ⟨b, rfl⟩ : ∃ b, a = b + 1 := ⟨a - 1, by omega⟩
    have ep : nv N 28 u 2 - 1 = nI b := by rw [ea, nI_pred]
    have e1 : nTi t (d + 1) N = nTi t d (nTi1 N u) := by
      show nTi t d (match (nq N t)[d]? with | some u => nTi1 N u | none => N) = _
      rw [hx']
    rw [e1] at eN
    have hst : sX S 4 u 5 = some t := (Q.1 t ht).2 u (List.mem_of_getElem? hx)
    rw [wX8_tireThoseWhoStand_10, nI_pred]
    refine br_f (nI_pos (by omega)) (s_gR7 H ht rfl rfl rfl (s_rcL H rfl (W.l13 ht) (s_get H rfl (W.l13 ht) hx (s_cast H hu rfl rfl ?_))))
    refine s_gI H hu rfl rfl rfl ?_
    rw [R.2.1 4 u 3 28 2 rfl hu (by omega), ep]
    refine s_pI H hu rfl rfl rfl (fun M1 H1 => s_gI H1 hu rfl rfl rfl ?_)
    have R1 := R.pI (k := 4) (i := u) (f := 3) (k' := 28) (f' := 2) (v := nI b) rfl
    rw [sI_uI_s]
    refine br_c (fun z => ?_) (fun z => ?_)
    · have hb0 : ¬ nI b = 0 := fun w => by rw [w] at z; exact absurd z (by decide)
      have e2 : nTi1 N u = nU N 28 u 2 (nI b) := by
        unfold nTi1
        rw [ep, if_neg hb0]
      rw [e2] at eN
      refine ih' _ _ M1 ⟨H1, W.uI (Or.inl (by omega)), Q.uI (by omega), F.tr (mFc.uI (by omega)), R1⟩ eN (by show d ≤ (sL S 13 t).length; omega) (fun i w hi hw => ?_)
      have hw' : (nq N t)[i]? = some w := hw
      obtain ⟨a', c1, c2, c3⟩ := hp i w (by omega) hw'
      have ne := nodup_ne hnd hw' hx' (by omega)
      exact ⟨a', c1, c2, (nv_U (by omega)).trans c3⟩
    · have hb0 : b = 0 := by
        cases b with
        | zero => rfl
        | succ b => exact absurd (show (0 : Int32) < nI (b + 1) from nI_lt (a := 0) (by omega) (by omega)) z
      subst hb0
      have e4 : nv (nU N 28 u 2 (nI 0)) 28 u 4 = nI t := (nv_U (by omega)).trans ((R.2.2.2.2.1 u hu (by omega)).trans (by rw [hst]; rfl))
      have eo : nOut1 (nU N 28 u 2 (nI 0)) u 2 = nU (nU (nQ (nU N 28 u 2 (nI 0)) t ((nq N t).eraseIdx d)) 28 u 3 2) 28 u 4 (-1) := by
        unfold nOut1
        rw [e4, tN_nI (by omega), show nq (nU N 28 u 2 (nI 0)) t = nq N t from rfl, idx_nd _ _ _ hnd hx']
      have e2 : nTi1 N u = nGo u (yn Y 5) (nU (nU (nQ (nU N 28 u 2 (nI 0)) t ((nq N t).eraseIdx d)) 28 u 3 2) 28 u 4 (-1)) := by
        unfold nTi1
        rw [ep, if_pos (show nI 0 = 0 from rfl)]
        unfold nOut
        rw [if_pos rfl, eo, R.1.2.2]
        rfl
      rw [e2] at eN
      have W1 : mWs Y (uI S 4 u 3 (nI 0)) := W.uI (Or.inl (by omega))
      have Q1 : mWq Y (uI S 4 u 3 (nI 0)) := Q.uI (by omega)
      refine s_gR7 H1 ht rfl rfl rfl (s_rcL H1 rfl (W.l13 ht) (s_remove (x := u) H1 rfl (W.l13 ht) hx (fun M2 md e H2 => s_rc H2 W.x0 rfl rfl (s_rc H2 hu rfl rfl (c_stepOut H2 hu (fun M3 H3 => ?_))))))
      have Q3 := (Q1.rm (md := md) (e := e) ht hx).out (v := 2)
      have R2 : RC 99 (nQ (nU N 28 u 2 (nI 0)) t ((nq N t).eraseIdx d)) Y (uL (uI S 4 u 3 (nI 0)) 13 t md e ((sL (uI S 4 u 3 (nI 0)) 13 t).eraseIdx d)) := by
        rw [← eq]
        exact R1.line
      have R3 := (R2.exc (by decide) (by omega) (s := u) (by rw [show sX (uL (uI S 4 u 3 (nI 0)) 13 t md e ((sL (uI S 4 u 3 (nI 0)) 13 t).eraseIdx d)) 4 u 5 = sX S 4 u 5 from rfl, hst]; exact fun w => by cases w) (v := 2) (w := -1)).out (by omega) hu (v := 2) (by rw [nv_U (by omega), nv_U_s]) nv_U_s (y := 99) (by omega)
      have q3 : nq (nU (nU (nQ (nU N 28 u 2 (nI 0)) t ((nq N t).eraseIdx d)) 28 u 3 2) 28 u 4 (-1)) t = (nq N t).eraseIdx d := nq_Q_s
      have v3 : ∀ w, w ≠ u → nv (nU (nU (nQ (nU N 28 u 2 (nI 0)) t ((nq N t).eraseIdx d)) 28 u 3 2) 28 u 4 (-1)) 28 w 2 = nv N 28 w 2 := fun w hw => by
        rw [nv_U (by omega), nv_U (by omega)]
        exact nv_U (by omega)
      generalize nU (nU (nQ (nU N 28 u 2 (nI 0)) t ((nq N t).eraseIdx d)) 28 u 3 2) 28 u 4 (-1) = N3 at R3 eN q3 v3
      refine ⟨yn Y 5 + 1, C_wake7 (N := N3) hu (fun S4 M4 H4 W4 K4 R4 => ?_) (yn Y 5) 0 _ M3 H3 (so_W (W1.uL rfl)) (cK.rf _ _) R3 (by omega)⟩
      refine ih' _ S4 M4 ⟨H4, W4, K4.Q Q3, (((F.tr (mFc.uI (by omega))).tr (mFc.uL (by omega))).tr so_F).tr K4.1, R4⟩ eN ?_ (fun i w hi hw => ?_)
      · rw [K4.2.2.1]
        show d ≤ (sL (uL (uI S 4 u 3 (nI 0)) 13 t md e ((sL (uI S 4 u 3 (nI 0)) 13 t).eraseIdx d)) 13 t).length
        rw [sL_uL_s]
        show d ≤ ((sL S 13 t).eraseIdx d).length
        rw [List.length_eraseIdx_of_lt (by omega)]
        omega
      · rw [(nGo_o _).2.1] at hw
        rw [q3, List.getElem?_eraseIdx, if_pos hi] at hw
        obtain ⟨a', c1, c2, c3⟩ := hp i w (by omega) hw
        have ne := nodup_ne hnd hw hx' (by omega)
        exact ⟨a', c1, c2, (nGo_v (by omega) _).trans ((v3 w ne).trans c3)⟩
/-- what comes through changes little -/
theorem nCt_v {N : mN} {s to : Nat} {sr : Int32} {i f : Nat} (h : 1 ≤ f ∧ f ≤ 7) : nv (nCt N s to sr).1 28 i f = nv N 28 i f := by
  have e := (nBh_Fr (s := s) (to := to) (sr := sr) (p := (N, 0)) (nn N 29)).2.2.2 28 i f (by omega) (by omega) (by omega)
  show nv (nU (nU (nCd (nBh s to sr (nn N 29) (N, 0)).1 s to (nn N 29)) 28 s 0 (nI to)) 28 s 8 (-1)) 28 i f = _
  rw [nv_U (by omega), nv_U (by omega)]
  unfold nCd
  rw [nv_U (by omega), nv_U (by omega), nDl_v (by omega)]
  exact e
theorem nCt_q {N : mN} {s to : Nat} {sr : Int32} : nq (nCt N s to sr).1 = nq N := (nBh_Fr (s := s) (to := to) (sr := sr) (p := (N, 0)) (nn N 29)).2.1
theorem nCt_n {N : mN} {s to : Nat} {sr : Int32} : nn (nCt N s to sr).1 = nn N := (nBh_Fr (s := s) (to := to) (sr := sr) (p := (N, 0)) (nn N 29)).1
theorem nDraw_o {N : mN} {t : Nat} : nn (nDraw N t) = nn N ∧ nq (nDraw N t) = nq N ∧ nr (nDraw N t) = nr N ∧ nh (nDraw N t) = nh N := by
  unfold nDraw
  split <;> exact ⟨rfl, rfl, rfl, rfl⟩
theorem nCome_v {N : mN} {s t i f : Nat} (h : 1 ≤ f ∧ f ≤ 7) : nv (nCome N s t).1 28 i f = nv N 28 i f := (nCt_v h).trans (nDraw_v (by omega))
theorem nCome_q {N : mN} {s t : Nat} : nq (nCome N s t).1 = nq N := nCt_q.trans nDraw_o.2.1
theorem nCome_n {N : mN} {s t : Nat} : nn (nCome N s t).1 = nn N := nCt_n.trans nDraw_o.1
theorem nOut0 {N : mN} {s t : Nat} (h4 : nv N 28 s 4 = nI t) (ht : t < 1000) (hn : (nq N t).Nodup) {j : Nat} (hj : (nq N t)[j]? = some s) : nOut N s 0 = nU (nU (nQ N t ((nq N t).eraseIdx j)) 28 s 3 0) 28 s 4 (-1) := by
  unfold nOut nOut1
  rw [if_neg (by decide), h4, tN_nI (by omega), idx_nd _ _ _ hn hj]
theorem C_yawn87 {Y0 : mY} {S0 S : mS} {M : mM} {N : mN} (H : mR g Y S M) (W : mWs Y S) {s t : Nat} (Q : mWqx Y S s) (F : mFc Y0 S0 Y S) (R : RC s N Y S) (e3 : nv N 28 s 3 = 0) (e4 : nv N 28 s 4 = -1) (hs : s < yn Y 4) (ht : t < yn Y 3) (hp : ∀ (i u : Nat), (nq N t)[i]? = some u → ∃ a, 1 ≤ a ∧ a ≤ 9 ∧ nv N 28 u 2 = nI a) {x : Int32} {κ : Int32 → mM → Prop} {ξ : String → mM → Prop} (h : ∀ S' M', cX g (nTi t (nq N t).length N) Y0 S0 Y S' M' → κ x M') : wX8_yawn_87 g κ ξ (some (yA Y 0 0)) (some (yA Y 3 t)) (some (yA Y 4 s)) x M := by
  have hbd := W.2.1
  refine s_rc H hs rfl rfl (c_stepOut H hs (fun M1 H1 => s_rc H1 W.x0 rfl rfl ?_))
  have R1 := R.out (by omega) hs e3 e4 (y := 99) (by omega)
  have W1 : mWs Y (uI (uX (uI S 4 s 4 0) 4 s 5 none) 4 s 6 0) := so_W W
  have eq : sL (uI (uX (uI S 4 s 4 0) 4 s 5 none) 4 s 6 0) 13 t = nq N t := (R1.2.2.1 t ht).2.2
  refine s_gR7 H1 ht rfl rfl rfl (s_rcL H1 rfl (W.l13 ht) (s_size H1 rfl (W.l13 ht) ?_))
  rw [eq]
  refine ⟨(nq N t).length + 1, C_tire10 (S0 := uI (uX (uI S 4 s 4 0) 4 s 5 none) 4 s 6 0) ht (NF := nTi t (nq N t).length N) (fun S2 M2 P2 => ?_) (nq N t).length N _ M1 ⟨H1, W1, Q.out, mFc.rf _ _, R1⟩ rfl (by rw [eq]; exact Nat.le_refl _) (fun i u _ hu => hp i u hu)⟩
  obtain ⟨H2, W2, Q2, F2, R2⟩ := P2
  exact h S2 M2 ⟨H2, W2, Q2, (F.tr so_F).tr F2, R2⟩
theorem C_yawn {S : mS} {M : mM} {N : mN} (H : mR g Y S M) (W : mWs Y S) (Q : mWq Y S) (R : RC 99 N Y S) (B : nB N) (I : NI N) {a : Int32} {κ : Int32 → mM → Prop} {ξ : String → mM → Prop} (h1 : (fYawn N a).1 = 1 → ξ "java/lang/IndexOutOfBoundsException" M) (h2 : (fYawn N a).1 = 2 → ξ "java/lang/IllegalStateException" M)
    (h : ∀ v N' Y' S' M', fYawn N a = (0, v, N') → cX g N' Y S Y' S' M' → κ v M') : wX8_yawn g κ ξ (some (yA Y 0 0)) a M := by
  have hbd := W.2.1
  unfold fYawn at h1 h2 h
  rw [← R.1.1] at h1 h2 h
  refine s_rc H W.x0 rfl rfl (c_gateN H W (fun t ht et => ?_) (fun z => h1 (by rw [if_pos z])))
  have hv : ¬ a < 0 ∧ a < nI (yn Y 3) := by rw [et]; exact m_in ht (by omega)
  have t1 : tN a = t := by rw [et]; exact tN_nI (by omega)
  rw [if_neg (fun w => w hv), t1] at h2 h
  have eq : sL S 13 t = nq N t := (R.2.2.1 t ht).2.2
  have n2 : (nv N 23 t 3 ≤ m_rem ((nv N 20 0 2 - nv N 23 t 2) + 24) 24 ∨ (nq N t).length = 0) → wX8_yawn_27 g κ ξ M := fun z => h2 (by rw [if_pos z])
  have eO : cOpen S t (nv N 20 0 2) ↔ ¬ nv N 23 t 3 ≤ m_rem ((nv N 20 0 2 - nv N 23 t 2) + 24) 24 := by
    unfold cOpen
    rw [R.2.1 3 t 4 23 3 rfl ht (by omega), R.2.1 3 t 3 23 2 rfl ht (by omega)]
  refine s_gI H W.x0 rfl rfl rfl ?_
  rw [R.2.1 0 0 9 20 2 rfl W.x0 (by omega)]
  refine s_rc H ht rfl rfl (c_isOpenAt H ht (fun zo => br_f (by decide) ?_) (fun zo => br_t rfl (n2 (Or.inl (by
    by_cases w : nv N 23 t 3 ≤ m_rem ((nv N 20 0 2 - nv N 23 t 2) + 24) 24
    · exact w
    · exact absurd (eO.mpr w) zo)))))
  refine s_gR7 H ht rfl rfl rfl (s_rcL H rfl (W.l13 ht) (s_isEmpty H rfl (W.l13 ht) (fun ze => br_f (by decide) (n2 (Or.inr (by rw [← eq, ze]; rfl)))) (fun hne => br_t rfl ?_)))
  have hne' : ¬ (nq N t).length = 0 := fun w => hne (by rw [eq]; exact List.length_eq_zero_iff.mp w)
  rw [if_neg (fun w => w.elim (eO.mp zo) hne')] at h
  refine s_gI H W.x0 rfl rfl rfl ?_
  rw [R.2.1 0 0 10 20 5 rfl W.x0 (by omega)]
  refine s_pI H W.x0 rfl rfl rfl (fun M1 H1 => ?_)
  have W1 : mWs Y (uI S 0 0 10 (nv N 20 0 5 + 1)) := W.uI (Or.inl (by omega))
  have R1 : RC 99 (nU N 20 0 5 (nv N 20 0 5 + 1)) Y (uI S 0 0 10 (nv N 20 0 5 + 1)) := R.pI (k := 0) (i := 0) (f := 10) (k' := 20) (f' := 5) rfl
  refine s_gR7 H1 ht rfl rfl rfl (s_rcL H1 rfl (W.l13 ht) (c_first H1 W1 ht hne (fun s hs hs0 => s_cast H1 hs rfl rfl ?_)))
  refine s_gR7 H1 ht rfl rfl rfl (s_rcL H1 rfl (W.l13 ht) (s_remove (j := 0) (x := s) H1 rfl (W.l13 ht) hs0 (fun M2 md e H2 => s_rc H2 W.x0 rfl rfl ?_)))
  have hs0' : (nq N t)[0]? = some s := by rw [← eq]; exact hs0
  have ehd : (nq N t).headD 0 = s := by
    cases hq : nq N t with
    | nil => rw [hq] at hs0'; cases hs0'
    | cons b l => rw [hq] at hs0'; exact Option.some.inj hs0'
  rw [ehd] at h
  have c23 : nn N 23 = yn Y 3 := R.1.1.symm
  have c28 : nn N 28 = yn Y 4 := R.1.2.1.symm
  have c29 : nn N 29 = yn Y 5 := R.1.2.2.symm
  obtain ⟨hnd, hmem⟩ := B.2.2.2.2.2.1 t (by omega)
  obtain ⟨-, hs1, hs4⟩ := hmem s (List.mem_of_getElem? hs0')
  have W2 := W1.uL (i := t) (md := md) (e := e) (xs := (sL (uI S 0 0 10 (nv N 20 0 5 + 1)) 13 t).eraseIdx 0) (k := 13) rfl
  have Q1 : mWq Y (uI S 0 0 10 (nv N 20 0 5 + 1)) := Q.uI (by omega)
  have Q2 := Q1.rm (md := md) (e := e) ht hs0
  have F2 : mFc Y S Y (uL (uI S 0 0 10 (nv N 20 0 5 + 1)) 13 t md e ((sL (uI S 0 0 10 (nv N 20 0 5 + 1)) 13 t).eraseIdx 0)) := (mFc.uI (by omega)).tr (mFc.uL (by omega))
  have eo : nOut (nU N 20 0 5 (nv N 20 0 5 + 1)) s 0 = nU (nU (nQ (nU N 20 0 5 (nv N 20 0 5 + 1)) t ((nq N t).eraseIdx 0)) 28 s 3 0) 28 s 4 (-1) := nOut0 ((nv_U (by omega)).trans hs4) (by omega) hnd hs0'
  have R2 : RC s (nOut (nU N 20 0 5 (nv N 20 0 5 + 1)) s 0) Y (uL (uI S 0 0 10 (nv N 20 0 5 + 1)) 13 t md e ((sL (uI S 0 0 10 (nv N 20 0 5 + 1)) 13 t).eraseIdx 0)) := by
    rw [eo, ← eq]
    refine R1.line.exc (by decide) (by omega) ?_
    show sX S 4 s 5 ≠ none
    rw [(Q.1 t ht).2 s (List.mem_of_getElem? hs0)]
    exact fun w => by cases w
  have vo : ∀ k i f, ¬ (k = 20 ∧ f = 5) → ¬ (k = 28 ∧ i = s ∧ (f = 3 ∨ f = 4)) → nv (nOut (nU N 20 0 5 (nv N 20 0 5 + 1)) s 0) k i f = nv N k i f := fun k i f w1 w2 => by
    rw [eo, nv_U (by omega), nv_U (by omega)]
    exact nv_U (by omega)
  have v3 : nv (nOut (nU N 20 0 5 (nv N 20 0 5 + 1)) s 0) 28 s 3 = 0 := by rw [eo, nv_U (by omega), nv_U_s]
  have v4 : nv (nOut (nU N 20 0 5 (nv N 20 0 5 + 1)) s 0) 28 s 4 = -1 := by rw [eo, nv_U_s]
  have vq : nq (nOut (nU N 20 0 5 (nv N 20 0 5 + 1)) s 0) t = (nq N t).eraseIdx 0 := by
    rw [eo]
    exact nq_Q_s
  have hpat : ∀ (i u : Nat), ((nq N t).eraseIdx 0)[i]? = some u → ∃ a, 1 ≤ a ∧ a ≤ 9 ∧ nv N 28 u 2 = nI a := fun i u hu => by
    obtain ⟨m1, m2, -⟩ := hmem u (List.mem_of_mem_eraseIdx (List.mem_of_getElem? hu))
    exact (I.2.2.1 u m1).2.2.1 (by rw [m2]; decide)
  have hvs := (B.2.2.2.1 s (by omega)).2.2
  refine C_good R2 H2 W2 hs ht (by rw [vo 28 s 8 (by omega) (by omega)]; exact hvs) (fun zg => br_f (by decide) ?_) (fun zg => br_t rfl ?_)
  · have ey : nYw N s t = nCome (nOut (nU N 20 0 5 (nv N 20 0 5 + 1)) s 0) s t := if_pos zg
    rw [ey] at h
    obtain ⟨nt, hr, hnt, -, ent, -⟩ := B.1
    refine s_rc H2 W.x0 rfl rfl (C_comeThrough H2 W2 R2 hs ht (nt := nt) (by omega) (by rw [vo 20 0 1 (by omega) (by omega)]; exact ent) (fun p hp => ?_) (fun p hp hz => ?_) (fun Y3 S3 M3 H3 W3 K3 R3 => ?_))
    · rw [vo 29 p 0 (by omega) (by omega)]
      obtain ⟨d, hd, e⟩ := (B.2.2.2.2.1 p (by omega)).1
      exact ⟨d, by omega, e⟩
    · rw [vo 28 s 5 (by omega) (by omega)] at hz
      rw [vo 29 p 4 (by omega) (by omega)]
      exact (((I.2.2.1 s (by omega)).2.2.2.2 hs1).1 p (by omega) hz).2
    · rw [← K3.1.1 0 0 W.x0, ← K3.1.1 3 t ht, ← K3.1.1 4 s hs]
      refine C_yawn87 H3 W3 (K3.Qx Q2) (F2.tr K3.1) R3 ((nCome_v (by omega)).trans v3) ((nCome_v (by omega)).trans v4) (by rw [K3.2.1 4 (by omega)]; exact hs) (by rw [K3.2.1 3 (by omega)]; exact ht) (fun i u hu => ?_) (fun S4 M4 P4 => h _ _ Y3 S4 M4 rfl P4)
      rw [nCome_q, vq] at hu
      obtain ⟨a', c1, c2, c3⟩ := hpat i u hu
      exact ⟨a', c1, c2, (nCome_v (by omega)).trans ((vo 28 u 2 (by omega) (by omega)).trans c3)⟩
  · have ey : nYw N s t = (nOut (nU N 20 0 5 (nv N 20 0 5 + 1)) s 0, -1) := if_neg zg
    rw [ey] at h
    refine C_yawn87 H2 W2 Q2 F2 R2 v3 v4 hs ht (fun i u hu => ?_) (fun S4 M4 P4 => h _ _ Y S4 M4 rfl P4)
    rw [vq] at hu
    obtain ⟨a', c1, c2, c3⟩ := hpat i u hu
    exact ⟨a', c1, c2, (vo 28 u 2 (by omega) (by omega)).trans c3⟩
end SIM19
