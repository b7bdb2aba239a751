/-! THE SIMULATION, 10: verses revoked, of both -/
theorem RC.rev' {x : Nat} {N : mN} {Y : mY} {S : mS} (h : RC x N Y S) {r : Nat → Nat → Bool} {S' : mS} (a : ∀ k i f, sI S' k i f = sI S k i f) (b : sN S' = sN S) (c : sX S' = sX S) (d : sL S' = sL S) (e : ∀ t v, t < yn Y 3 → v < 128 → r t v = vBit (sJ S' 10 t 0) (sJ S' 10 t 1) v ∧ (x ≠ 98 → vBit (sJ S' 11 t 0) (sJ S' 11 t 1) v = true → r t v = true)) : RC x (nW N r) Y S' := by
  obtain ⟨h1, h2, h3, h4, h5, h6, h7, h8, h9, h10⟩ := h
  refine ⟨h1, fun k1 i1 f1 k1' f1' hm1 hi hx1 => (a k1 i1 f1).trans (h2 k1 i1 f1 k1' f1' hm1 hi hx1), by rw [b, d]; exact h3, by rw [b]; exact h4, by rw [c]; exact h5, fun s hs => by rw [c, a]; exact h6 s hs, fun s hs => ?_, by rw [c]; exact h8, e, h10.1, fun i1 hi => by rw [b, a, a]; exact h10.2 i1 hi⟩
  rw [c, b]
  refine ⟨(h7 s hs).1, fun p hp => ?_⟩
  rw [a, a]
  exact (h7 s hs).2 p hp
section SIM10
variable {g : Nat → Nat} {Y : mY} {S : mS} {M : mM} {N : mN}
theorem C_has (H : mR g Y S M) {k t v : Nat} (hk : k = 10 ∨ k = 11) (ht : t < yn Y k) (hv : v < 97) {κ : Int32 → mM → Prop} (h1 : vBit (sJ S k t 0) (sJ S k t 1) v = true → κ 1 M) (h0 : vBit (sJ S k t 0) (sJ S k t 1) v = false → κ 0 M) : wX7_has κ (some (yA Y k t)) (nI v) M := by
  have key : ((64 : Int32) ≤ nI v → wX7_has_24 κ (m_lushr (sJ S k t 1) (nI v - 64)) M) ∧ (¬ (64 : Int32) ≤ nI v → wX7_has_24 κ (m_lushr (sJ S k t 0) (nI v)) M) := by
    constructor
    · intro z
      have h64' : ¬ v < 64 := fun q => nI_ge (a := v) (b := 64) q (by omega) z
      have h64 : 64 ≤ v := by omega
      rw [show (64 : Int32) = nI 64 from rfl, pk_sub h64]
      unfold vBit at h1 h0
      rw [if_neg (by omega)] at h1 h0
      exact br_c (fun w => h0 ((lush_bit _ (by omega)).mp (lgc0.mp w))) (fun w => h1 (by
        cases q : (sJ S k t 1).toBitVec.getLsbD (v - 64) with
        | true => rfl
        | false => exact absurd (lgc0.mpr ((lush_bit _ (by omega)).mpr q)) w))
    · intro z
      have h64 : v < 64 := Nat.not_le.mp (fun q => z (nI_le (a := 64) (b := v) q (by omega)))
      unfold vBit at h1 h0
      rw [if_pos h64] at h1 h0
      exact br_c (fun w => h0 ((lush_bit _ h64).mp (lgc0.mp w))) (fun w => h1 (by
        cases q : (sJ S k t 0).toBitVec.getLsbD v with
        | true => rfl
        | false => exact absurd (lgc0.mpr ((lush_bit _ h64).mpr q)) w))
  rcases hk with rfl | rfl
  · exact br_c (fun z => s_gJ H ht rfl rfl rfl (key.1 z)) (fun z => s_gJ H ht rfl rfl rfl (key.2 z))
  · exact br_c (fun z => s_gJ H ht rfl rfl rfl (key.1 z)) (fun z => s_gJ H ht rfl rfl rfl (key.2 z))
theorem C_put (H : mR g Y S M) {t v : Nat} (ht : t < yn Y 10) (hv : v < 97) {κ : mM → Prop} (h : ∀ f x M', mR g Y (uJ S 10 t f x) M' → (∀ i, i < 128 → vBit (sJ (uJ S 10 t f x) 10 t 0) (sJ (uJ S 10 t f x) 10 t 1) i = (vBit (sJ S 10 t 0) (sJ S 10 t 1) i || decide (i = v))) → κ M') : wX7_put κ (some (yA Y 10 t)) (nI v) M := by
  refine br_c (fun z => s_gJ H ht rfl rfl rfl ?_) (fun z => s_gJ H ht rfl rfl rfl ?_)
  · have h64 : ¬ v < 64 := fun q => nI_ge (a := v) (b := 64) q (by omega) z
    rw [show nI v - 64 = nI (v - 64) from by rw [show (64 : Int32) = nI 64 from rfl, pk_sub (by omega)]]
    refine s_pJ H ht rfl rfl rfl (fun M' H' => h _ _ M' H' (fun i hi => ?_))
    have := vBit_put (sJ S 10 t 0) (sJ S 10 t 1) hv hi
    rw [if_neg h64, if_neg h64] at this
    rw [sJ_uJ_s, sJ_uJ (by omega)]
    exact this
  · have h64 : v < 64 := Nat.not_le.mp (fun q => z (nI_le (a := 64) (b := v) q (by omega)))
    refine s_pJ H ht rfl rfl rfl (fun M' H' => h _ _ M' H' (fun i hi => ?_))
    have := vBit_put (sJ S 10 t 0) (sJ S 10 t 1) hv hi
    rw [if_pos h64, if_pos h64] at this
    rw [sJ_uJ_s, sJ_uJ (by omega)]
    exact this
theorem C_revoke (H : mR g Y S M) (W : mWs Y S) (Q : mWq Y S) (R : RC 99 N Y S) {a b : Int32} {κ : Int32 → mM → Prop} {ξ : String → mM → Prop} (hx1 : (fRevoke N a b).1 = 1 → ξ "java/lang/IndexOutOfBoundsException" M) (hx2 : (fRevoke N a b).1 = 2 → ξ "java/lang/IllegalArgumentException" M)
    (h : ∀ v N' Y' S' M', fRevoke N a b = (0, v, N') → cX g N' Y S Y' S' M' → κ v M') : wX8_revoke κ ξ (some (yA Y 0 0)) a b M := by
  have hb := W.2.1
  unfold fRevoke at hx1 hx2 h
  rw [← R.1.1] at hx1 hx2 h
  refine s_rc H W.x0 rfl rfl (c_gateN H W (fun t ht et => c_range H (fun r1 r2 => ?_) (fun z => hx2 (by rw [if_neg (fun w => w (by rw [et]; exact m_in ht (by omega))), if_pos z]))) (fun z => hx1 (by rw [if_pos z])))
  have hv : ¬ a < 0 ∧ a < nI (yn Y 3) := by rw [et]; exact m_in ht (by omega)
  have t1 : tN a = t := by rw [et]; exact tN_nI (by omega)
  rw [if_neg (fun w => w hv), if_neg (fun w => w ⟨r1, r2⟩), t1] at h
  obtain ⟨v, hv96, rfl⟩ := nI_rg (n := 96) (by omega) r1 (Int32.not_lt.mpr r2)
  rw [tN_nI (by omega)] at h
  have h9 := R.2.2.2.2.2.2.2.2.1
  have hRC : ∀ (f : Nat) (y : Int64), (∀ i, i < 128 → vBit (sJ (uJ S 10 t f y) 10 t 0) (sJ (uJ S 10 t f y) 10 t 1) i = (vBit (sJ S 10 t 0) (sJ S 10 t 1) i || decide (i = v))) → RC 99 (nRev N t v) Y (uJ S 10 t f y) := fun f y hB => by
    refine R.rev' (fun _ _ _ => rfl) rfl rfl rfl (fun t' v' ht' hv' => ?_)
    have e11 : ∀ f', sJ (uJ S 10 t f y) 11 t' f' = sJ S 11 t' f' := fun f' => sJ_uJ (by omega)
    rw [e11, e11]
    by_cases z : t' = t
    · subst z
      rw [hB v' hv', ← (h9 t' v' ht' hv').1]
      by_cases w : v' = v
      · rw [if_pos ⟨rfl, w⟩]; simp [w]
      · rw [if_neg (fun q => w q.2)]
        refine ⟨by simp [w], (h9 t' v' ht' hv').2⟩
    · rw [if_neg (fun q => z q.1), sJ_uJ (by omega), sJ_uJ (by omega)]
      exact h9 t' v' ht' hv'
  have h29 : ∀ x, (x = 0 ∨ x = 1) → x = (if nr N t v = true then 0 else 1) → wX8_revoke_29 κ ξ (nI v) (some (yA Y 3 t)) x M := fun x hx ex => s_gR7 H ht rfl rfl rfl (s_rc H (W.l10 ht) rfl rfl (C_put H (W.l10 ht) (by omega) (fun f y M' H' hB => ⟨hx, h x (nRev N t v) Y _ M' (by rw [ex]) ⟨H', W.uJ, Q.uJ, mFc.uJ (by omega), hRC f y hB⟩⟩)))
  exact s_gR7 H ht rfl rfl rfl (s_rc H (W.l10 ht) rfl rfl (C_has H (Or.inl rfl) (W.l10 ht) (by omega) (fun q => br_f (by decide) (h29 0 (Or.inl rfl) (by rw [(h9 t v ht (by omega)).1, q]; rfl))) (fun q => br_t rfl (h29 1 (Or.inr rfl) (by rw [(h9 t v ht (by omega)).1, q]; rfl)))))
theorem n_rev {Y0 : mY} {S0 : mS} (P : vN g N Y0 S0 Y S M) {t v : Nat} {M' : mM} (H' : mR g Y (uE S 26 t v 1) M') : vN g (nRev N t v) Y0 S0 Y (uE S 26 t v 1) M' := by
  obtain ⟨⟨H, V, VV, VQ, VT⟩, F, R⟩ := P
  exact ⟨⟨H', vS_uE V, VV.of (fun _ _ _ _ => rfl), VQ.of (fun _ => rfl) (fun _ => rfl) (fun _ => rfl), VT⟩, F.tr (mFm.uE (by omega)), R.rev⟩
theorem D_revoke {Y0 : mY} {S0 : mS} (P : vN g N Y0 S0 Y S M) {a b : Int32} {κ : Int32 → mM → Prop} (h : ∀ k v N' Y' S' M', fRevoke N a b = (k, v, N') → vN g N' Y0 S0 Y' S' M' → sI S' 20 0 0 = k → κ v M') : wX14_revoke κ (some (yA Y 20 0)) a b M := by
  unfold fRevoke at h
  rw [← P.2.2.1.1] at h
  have H := P.1.1
  have V := P.1.2.1
  have hbd := V.2.1
  have ff : ∀ n, ¬ n ≤ (0 : Int32) → (∀ S2 M2, vN g N Y0 S0 Y S2 M2 → sI S2 20 0 0 = n → κ 0 M2) → wX14_revoke_28 κ (some (yA Y 20 0)) a b n (some (yA Y 20 0)) M := fun n hn hh => by
    unfold wX14_revoke_28
    refine n_th P (fun S1 M1 P1 e1 => s_gI P1.1.1 V.x0 rfl rfl rfl ?_)
    rw [e1]
    exact br_f hn (hh S1 M1 P1 e1)
  refine s_rc H V.x0 rfl rfl (v_isGate H V (fun t ht et => br_f (by decide) (v_is (fun z w => br_f (by decide) ?_) (fun q => br_t rfl (ff 2 (by decide) (fun S2 M2 P2 e2 => h 2 0 N Y S2 M2 (by rw [if_neg (fun w => w (by rw [et]; exact m_in ht (by omega))), if_pos (fun w => q ⟨w.1, Int32.not_lt.mpr w.2⟩)]) P2 e2))))) (fun z => br_t rfl (ff 1 (by decide) (fun S2 M2 P2 e2 => h 1 0 N Y S2 M2 (by rw [if_pos z]) P2 e2))))
  have hv : ¬ a < 0 ∧ a < nI (yn Y 23) := by rw [et]; exact m_in ht (by omega)
  have t1 : tN a = t := by rw [et]; exact tN_nI (by omega)
  rw [if_neg (fun q => q hv), if_neg (fun q => q ⟨z, Int32.not_lt.mp w⟩), t1] at h
  subst et
  obtain ⟨j, hj, rfl⟩ := nI_rg (n := 96) (by omega) z w
  rw [tN_nI (by omega)] at h
  unfold wX14_revoke_28
  refine n_th P (fun S1 M1 P1 e1 => s_gI P1.1.1 V.x0 rfl rfl rfl ?_)
  rw [e1]
  have H1 := P1.1.1
  have V1 := P1.1.2.1
  have hC : sC S1 26 t = 97 := V1.2.2.2.2.2.2.1 t ht
  have hE : sE S1 26 t j = if nr N t j = true then 1 else 0 := P1.2.2.2.2.2.1 t j ht (by omega)
  refine br_t (by decide) (v_G H1 V1 ht (s_gR7 H1 ht rfl rfl rfl (s_ldI H1 (V1.l26 ht) rfl (by decide) rfl (by rw [hC]; omega) (by rw [hC]; omega) (v_G H1 V1 ht (s_gR7 H1 ht rfl rfl rfl (s_stZ H1 (V1.l26 ht) rfl rfl (by rw [hC]; omega) (by rw [hC]; omega) (w := 1) (by decide) (fun M2 H2 => ?_)))))))
  have P2 := n_rev P1 H2
  rw [hE]
  cases q : nr N t j with
  | true =>
    rw [q] at h
    exact br_f (by decide) (h 0 0 _ Y _ M2 rfl P2 e1)
  | false =>
    rw [q] at h
    exact br_t (by decide) (h 0 1 _ Y _ M2 rfl P2 e1)
end SIM10
