/-! THE SIMULATION, 20: a yawn of the reference -/
/-- the state, and what is thrown -/
def vZ0 (g : Nat → Nat) (c0 : Int32) (N : mN) (Y0 : mY) (S0 : mS) (Y : mY) (S : mS) (M : mM) : Prop := vN g N Y0 S0 Y S M ∧ sI S 20 0 0 = c0
theorem RV.lk {N : mN} {Y : mY} {S : mS} (h : RV N Y S) {l : List Nat} {nt dr : Int32} {s : Nat} : ∀ j, RV (nLk l nt dr s j N) Y S := by
  intro j
  induction j with
  | zero => exact h
  | succ j ih =>
    unfold nLk
    split
    · exact ih.n9.n9
    · exact ih
theorem nDl_cg {N : mN} {s to n : Nat} {ft ft' : Nat → Int32} (h : ∀ i, i < n → ft i = ft' i) : nDl N s to ft n = nDl N s to ft' n := by
  refine Prod.ext rfl (Prod.ext ?_ rfl)
  funext k i f
  show (if k = 29 ∧ i < n ∧ nDc N s i = true then (if nBk N s to i = true then (if f = 4 then 100 + nv N 28 s 0 else if f = 3 then 5 else nv N k i f) else if f = 3 then ft i else nv N k i f) else nv N k i f) = if k = 29 ∧ i < n ∧ nDc N s i = true then (if nBk N s to i = true then (if f = 4 then 100 + nv N 28 s 0 else if f = 3 then 5 else nv N k i f) else if f = 3 then ft' i else nv N k i f) else nv N k i f
  by_cases q : k = 29 ∧ i < n ∧ nDc N s i = true
  · rw [if_pos q, if_pos q, h i q.2.1]
  · rw [if_neg q, if_neg q]
theorem nCi_b {N : mN} {s to : Nat} : ∀ n, (∀ p, p < n → ∃ a, a ≤ 99 ∧ nv N 29 p 1 = nI a) → ∃ b, b ≤ 99 * n ∧ (nCi N s to n).2 = nI b := by
  intro n
  induction n with
  | zero => intro _; exact ⟨0, by omega, rfl⟩
  | succ n ih =>
    intro h
    obtain ⟨b, hb, e⟩ := ih (fun p hp => h p (by omega))
    cases hd : nDc N s n with
    | false => exact ⟨b, by omega, by rw [nCi_no hd]; exact e⟩
    | true =>
      cases hk : nBk N s to n with
      | true => exact ⟨b, by omega, by rw [nCi_bk hk]; exact e⟩
      | false =>
        obtain ⟨a, ha, ea⟩ := h n (by omega)
        exact ⟨b + a, by omega, by rw [nCi_in hd hk, ea, e, nI_add]⟩
theorem duty_eq {a b : Nat} (ha : a < 100000) (hb : b < 100000) (r : Int32) : ((m_max 0 (nI b - nI a)) * r) / 100 = if nI a < nI b then ((nI b - nI a) * r) / 100 else 0 := by
  by_cases z : a < b
  · rw [if_pos (nI_lt z (by omega)), pk_sub (by omega), show m_max 0 (nI (b - a)) = nI (b - a) from if_pos (nI_lt (a := 0) (by omega) (by omega))]
  · rw [if_neg (nI_nlt (by omega) (by omega))]
    have e : m_max 0 (nI b - nI a) = 0 := by
      refine if_neg (fun w => ?_)
      by_cases q : a = b
      · subst q
        rw [Int32.sub_self] at w
        exact absurd w (by decide)
      · exact Int32.lt_asymm w (pk_sneg (by omega) (by omega))
    rw [e, Int32.zero_mul]
    rfl
section SIM20
variable {g : Nat → Nat} {Y : mY} {S : mS} {M : mM} {N : mN} {Y0 : mY} {S0 : mS} {c0 : Int32}
theorem vZ0.I (P : vZ0 g c0 N Y0 S0 Y S M) {k i f : Nat} {v : Int32} {M' : mM} (H' : mR g Y (uI S k i f v) M') (hv : vOK Y k f v) (hk : 20 ≤ k ∧ k ≠ 31 ∧ ¬ (35 ≤ k ∧ k ≤ 37) ∧ k ≠ 30 ∧ ¬ (k = 20 ∧ (f = 0 ∨ f = 1 ∨ f = 2)) ∧ ¬ (k = 28 ∧ (f = 3 ∨ f = 4)) ∧ ¬ (k = 29 ∧ (f = 3 ∨ f = 5))) : vZ0 g c0 (nU N k i f v) Y0 S0 Y (uI S k i f v) M' := ⟨n_I P.1 H' hv (by omega), (sI_uI (by omega)).trans P.2⟩
theorem vZ0.ft (P : vZ0 g c0 N Y0 S0 Y S M) {p : Nat} {v : Int32} {M' : mM} (H' : mR g Y (uI S 29 p 3 v) M') (hv : v ≠ 3) : vZ0 g c0 (nU N 29 p 3 v) Y0 S0 Y (uI S 29 p 3 v) M' := ⟨n_fate P.1 H' hv, (sI_uI (by omega)).trans P.2⟩
theorem vZ0.ca (P : vZ0 g c0 N Y0 S0 Y S M) {p s : Nat} {v : Int32} {M' : mM} (H' : mR g Y (uI (uI S 29 p 3 v) 29 p 5 (nI s)) M') (hs : s < yn Y 28) : vZ0 g c0 (nU (nU N 29 p 3 v) 29 p 5 (nI s)) Y0 S0 Y (uI (uI S 29 p 3 v) 29 p 5 (nI s)) M' := by
  obtain ⟨⟨⟨H, V, VV, VQ, VT⟩, F, R⟩, e⟩ := P
  exact ⟨⟨⟨H', vS_uI (vS_uI V (by omega)) (by omega), vV_caught VV hs, vQ_uI (vQ_uI VQ (by omega)) (by omega), vT_uI (vT_uI VT (by omega)) (by omega)⟩, (F.tr (mFm.uI (by omega))).tr (mFm.uI (by omega)), R.pI.pI⟩, ((sI_uI (by omega)).trans (sI_uI (by omega))).trans e⟩
theorem D_dozes (R : RV N Y S) (H : mR g Y S M) {t : Nat} (ht : t < yn Y 23) {κ : Int32 → mM → Prop} (h1 : ¬ nv N 23 t 5 < 5 → κ 1 M) (h0 : nv N 23 t 5 < 5 → κ 0 M) : wX10_dozes κ (some (yA Y 23 t)) M := by
  refine s_gI H ht rfl rfl rfl ?_
  rw [R.2.1 23 t 5 rfl ht]
  exact br_c h0 h1
theorem D_isNm (R : RV N Y S) (H : mR g Y S M) {p : Nat} (hp : p < yn Y 29) {κ : Int32 → mM → Prop} (h1 : ¬ nv N 29 p 2 < 5 → κ 1 M) (h0 : nv N 29 p 2 < 5 → κ 0 M) : wX12_isNightmare κ (some (yA Y 29 p)) M := by
  refine s_gI H hp rfl rfl rfl ?_
  rw [R.2.1 29 p 2 rfl hp]
  exact br_c h0 h1
theorem D_beyond (R : RV N Y S) (H : mR g Y S M) {t : Nat} (ht : t < yn Y 23) {l : Int32} {κ : Int32 → mM → Prop} (h : κ (if nv N 23 t 0 = l then nv N 23 t 1 else nv N 23 t 0) M) : wX10_beyond κ (some (yA Y 23 t)) l M := by
  refine s_gI H ht rfl rfl rfl ?_
  rw [R.2.1 23 t 0 rfl ht]
  refine br_c (fun z => s_gI H ht rfl rfl rfl ?_) (fun z => s_gI H ht rfl rfl rfl ?_)
  · rw [R.2.1 23 t 1 rfl ht]
    rw [if_pos z] at h
    exact h
  · rw [R.2.1 23 t 0 rfl ht]
    rw [if_neg z] at h
    exact h
theorem D_good (R : RV N Y S) (H : mR g Y S M) (V : mVs Y S) (VV : mVv Y S) {s t : Nat} (hs : s < yn Y 28) (ht : t < yn Y 23) {κ : Int32 → mM → Prop} (h1 : nGood N s t = true → κ 1 M) (h0 : ¬ nGood N s t = true → κ 0 M) : wX14_isGoodNow κ (some (yA Y 20 0)) (nI s) (nI t) M := by
  have hb := V.2.1
  have G := nGood_i (N := N) (s := s) (t := t)
  have RR := R.2.1
  refine v_S H V hs (s_gI H hs rfl rfl rfl ?_)
  rw [RR 28 s 8 rfl hs]
  refine br_c (fun z => h0 (fun w => (G.mp w).1 z)) (fun n8 => s_gI H hs rfl rfl rfl ?_)
  rw [RR 28 s 6 rfl hs]
  refine br_c (fun eg => s_gI H hs rfl rfl rfl (s_gI H V.x0 rfl rfl rfl ?_)) (fun z => h0 (fun w => z (G.mp w).2.1))
  rw [RR 28 s 7 rfl hs, RR 20 0 1 rfl V.x0]
  refine br_c (fun zn => v_G H V ht (s_gI H hs rfl rfl rfl (s_gI H V.x0 rfl rfl rfl ?_))) (fun z => h0 (fun w => z (G.mp w).2.2.1))
  rw [RR 28 s 8 rfl hs, RR 20 0 1 rfl V.x0]
  obtain ⟨a, ha, ea⟩ := (VV.1 28 s 8 hs).resolve_left (fun w => n8 ((RR 28 s 8 rfl hs).symm.trans w))
  have ea' : nv N 28 s 8 = nI a := (RR 28 s 8 rfl hs).symm.trans ea
  refine s_rc H ht rfl rfl (D_dozes R H ht (fun zd => br_f (by decide) ?_) (fun zd => br_t rfl ?_))
  · exact br_c (fun q => h0 (fun w => (G.mp w).2.2.2.2 zd q)) (fun q => h1 (G.mpr ⟨n8, eg, zn, fun z => absurd z zd, fun _ => q⟩))
  · refine br_c (fun q => ?_) (fun q => h0 (fun w => q ((G.mp w).2.2.2.1 zd).1))
    refine s_gR7 H ht rfl rfl rfl (s_gI H hs rfl rfl rfl ?_)
    rw [ea]
    have hE : sE S 26 t a = if nr N t a = true then 1 else 0 := R.2.2.2.1 t a ht ha
    refine s_ldI H (V.l26 ht) rfl (by decide) rfl (by rw [V.2.2.2.2.2.2.1 t ht]; exact ha) (by rw [V.2.2.2.2.2.2.1 t ht]; omega) ?_
    rw [hE]
    cases w : nr N t a with
    | true =>
      refine br_f (by decide) (h0 (fun q => ?_))
      have := ((G.mp q).2.2.2.1 zd).2
      rw [ea', tN_nI (by omega), w] at this
      cases this
    | false => exact br_t rfl (h1 (G.mpr ⟨n8, eg, zn, fun _ => ⟨q, by rw [ea', tN_nI (by omega)]; exact w⟩, fun z => absurd zd z⟩))
theorem D_hide (P : vZ0 g c0 N Y0 S0 Y S M) {s d : Nat} (hs : s < yn Y 28) (hd : d < 128) {κ : mM → Prop} (h : ∀ S' M', vZ0 g c0 (nHide N s (nI d)) Y0 S0 Y S' M' → κ M') : m_rc M (some (yA Y 20 0)) 19 fun b28 => wX14_hide g κ (some b28) (nI s) (nI d) M := by
  have P0 := P
  obtain ⟨⟨⟨H, V, VV, VQ, VT⟩, F, R⟩, e00⟩ := P
  have hbd := V.2.1
  obtain ⟨hh, h40, hlen, hval⟩ := V.2.2.1.2.2.2
  have l3 := V.l24 (j := 3) (by omega)
  refine s_rc H V.x0 rfl rfl (s_gR6 H V.x0 rfl rfl rfl (s_rcL H rfl l3 (v_szH H V (br_c (fun z => ?_) (fun z => ?_)))))
  · have e : nHide N s (nI d) = N := if_pos (by
      rw [← R.2.2.2.2]
      exact (nI_eq (a := (sL S 24 3).length) (b := 120) (by omega) (by omega)).mp z)
    rw [e] at h
    exact h S M P0
  have hlt : hh < 40 := by
    have : hh ≠ 40 := fun e => z (by rw [hlen, e]; rfl)
    omega
  obtain ⟨nt, hr, t1, t2, t3, t4⟩ := VT
  have eh : sL S 24 3 = nh N := R.2.2.2.2
  have eN : nHide N s (nI d) = nH (nLk (nh N) (nv N 20 0 1) (nI d) s ((nh N).length / 3) N) (nh N ++ [s] ++ [d] ++ [nt]) := by
    unfold nHide
    rw [if_neg (by rw [← eh]; omega), ← R.2.1 20 0 1 rfl V.x0, t3, tN_nI (by omega), tN_nI (by omega)]
  rw [eN] at h
  have n2 := V.2.2.2.1.2.1
  have n3 := V.2.2.2.1.2.2
  refine s_gR6 H V.x0 rfl rfl rfl (v_vO H V.l33 n2 (n3 s (by omega)) (by omega) (s_rcL H rfl l3 (s_add (k := 24) (i := 3) (x := s) (cap := 120) H rfl l3 (V.l30 (by omega)) (by omega) (by decide) (fun M1 m1 e1 H1 => ?_))))
  have c1 : sL (uL S 24 3 m1 e1 (sL S 24 3 ++ [s])) 24 3 = sL S 24 3 ++ [s] := sL_uL_s
  refine s_gR6 H1 V.x0 rfl rfl rfl (v_vO H1 V.l33 n2 (n3 d hd) hd (s_rcL H1 rfl l3 (s_add (k := 24) (i := 3) (x := d) (cap := 120) H1 rfl l3 (V.l30 hd) (by rw [c1, List.length_append, List.length_singleton]; omega) (by decide) (fun M2 m2 e2 H2 => ?_))))
  rw [c1] at H2
  have c2 : sL (uL (uL S 24 3 m1 e1 (sL S 24 3 ++ [s])) 24 3 m2 e2 (sL S 24 3 ++ [s] ++ [d])) 24 3 = sL S 24 3 ++ [s] ++ [d] := sL_uL_s
  refine s_gR6 H2 V.x0 rfl rfl rfl (s_gI H2 V.x0 rfl rfl rfl ?_)
  have c3 : sI (uL (uL S 24 3 m1 e1 (sL S 24 3 ++ [s])) 24 3 m2 e2 (sL S 24 3 ++ [s] ++ [d])) 20 0 1 = nI nt := ((sI_uL (by omega)).trans (sI_uL (by omega))).trans t3
  rw [c3]
  refine v_vO H2 V.l33 n2 (n3 nt (by omega)) (by omega) (s_rcL H2 rfl l3 (s_add (k := 24) (i := 3) (x := nt) (cap := 120) H2 rfl l3 (V.l30 (by omega)) (by rw [c2, List.length_append, List.length_append, List.length_singleton, List.length_singleton]; omega) (by decide) (fun M3 m3 e3 H3 => ?_)))
  rw [c2] at H3
  refine h _ M3 ⟨⟨⟨H3, ?_, vV_uL (vV_uL (vV_uL VV (Or.inl rfl)) (Or.inl rfl)) (Or.inl rfl), ?_, vT_uL (vT_uL (vT_uL ⟨nt, hr, t1, t2, t3, t4⟩ (by omega)) (by omega)) (by omega)⟩, ((F.tr (mFm.uL (by omega))).tr (mFm.uL (by omega))).tr (mFm.uL (by omega)), by
    have R3 := (((R.lk (l := sL S 24 3) (nt := nv N 20 0 1) (dr := nI d) (s := s) ((sL S 24 3).length / 3)).hid (md := m1) (e := e1) (xs := sL S 24 3 ++ [s])).hid (md := m2) (e := e2) (xs := sL S 24 3 ++ [s] ++ [d])).hid (md := m3) (e := e3) (xs := sL S 24 3 ++ [s] ++ [d] ++ [nt])
    rw [← eh]
    exact R3⟩, ((sI_uL (by omega)).trans ((sI_uL (by omega)).trans (sI_uL (by omega)))).trans e00⟩
  · obtain ⟨w1, w2, ⟨p0, p1, p2, ph⟩, ⟨q1, q2, q3⟩, w5⟩ := V
    have eLi : ∀ i, i ≠ 3 → sL (uL (uL (uL S 24 3 m1 e1 (sL S 24 3 ++ [s])) 24 3 m2 e2 (sL S 24 3 ++ [s] ++ [d])) 24 3 m3 e3 (sL S 24 3 ++ [s] ++ [d] ++ [nt])) 24 i = sL S 24 i := fun i hi => ((sL_uL (by omega)).trans (sL_uL (by omega))).trans (sL_uL (by omega))
    have eL : sL (uL (uL (uL S 24 3 m1 e1 (sL S 24 3 ++ [s])) 24 3 m2 e2 (sL S 24 3 ++ [s] ++ [d])) 24 3 m3 e3 (sL S 24 3 ++ [s] ++ [d] ++ [nt])) 24 3 = sL S 24 3 ++ [s] ++ [d] ++ [nt] := sL_uL_s
    refine ⟨w1, w2, ?_, ⟨fun v hv => ((sI_uL (by omega)).trans ((sI_uL (by omega)).trans (sI_uL (by omega)))).trans (q1 v hv), q2, q3⟩, w5⟩
    rw [eLi 0 (by omega), eLi 1 (by omega), eLi 2 (by omega), eL]
    refine ⟨p0, p1, p2, hh + 1, by omega, by simp only [List.length_append, List.length_singleton]; omega, fun j v hj => ?_⟩
    rw [List.append_assoc, List.append_assoc] at hj
    by_cases z1 : 3 * j < (sL S 24 3).length
    · rw [List.getElem?_append_left z1] at hj
      exact hval j v hj
    · rw [List.getElem?_append_right (by omega)] at hj
      have hj2 := (List.getElem?_eq_some_iff.mp hj).1
      simp only [List.length_append, List.length_singleton] at hj2
      have e0 : 3 * j - (sL S 24 3).length = 0 := by omega
      rw [e0] at hj
      have e1 : s = v := Option.some.inj hj
      rw [← e1]
      exact hs
  · exact VQ.of (fun t => ((sL_uL (by omega)).trans (sL_uL (by omega))).trans (sL_uL (by omega))) (fun s' => (sI_uL (by omega)).trans ((sI_uL (by omega)).trans (sI_uL (by omega)))) (fun s' => (sI_uL (by omega)).trans ((sI_uL (by omega)).trans (sI_uL (by omega))))
theorem D_ci34 {s l : Nat} (hs : s < yn Y 28) (hl : l < 6) {κ : Int32 → mM → Prop} (h : ∀ S' M', vZ0 g c0 (nU (nDl N s l (fun _ => 1) (yn Y 29)) 22 l 3 (nCi N s l (yn Y 29)).1) Y0 S0 Y S' M' → κ (nCi N s l (yn Y 29)).2 M') : ∀ (d j : Nat) (S : mS) (M : mM), vZ0 g c0 (nDl N s l (fun _ => 1) j) Y0 S0 Y S M → j + d = yn Y 29 → wX14_comeIn_34 κ (d + 1) (some (yA Y 20 0)) (nI s) 1 (some (yA Y 28 s)) (some (yA Y 22 l)) (nCi N s l j).1 (nCi N s l j).2 (nI j) M := by
  intro d
  induction d with
  | zero =>
    intro j S M P hj
    have ej : j = yn Y 29 := by omega
    rw [ej] at P ⊢
    rw [wX14_comeIn_34]
    exact v_hdP P.1.1.1 P.1.1.2.1 (by omega) (fun _ => br_f (by decide) (s_pI P.1.1.1 (P.1.1.2.1.l22 hl) rfl rfl rfl (fun M1 H1 => h _ M1 (P.I H1 trivial (by omega))))) (fun hlt => absurd hlt (by omega))
  | succ d ih =>
    intro j S M P hj
    have hb := P.1.1.2.1.2.1
    have hp : j < yn Y 29 := by omega
    have i193 : ∀ b c S M, vZ0 g c0 (nDl N s l (fun _ => 1) (j + 1)) Y0 S0 Y S M → b = (nCi N s l (j + 1)).1 → c = (nCi N s l (j + 1)).2 → wX14_comeIn_193 κ (wX14_comeIn_34 κ (d + 1)) (some (yA Y 20 0)) (nI s) 1 (some (yA Y 28 s)) (some (yA Y 22 l)) b c (nI j) M := fun b c S M P eb ec => by
      unfold wX14_comeIn_193
      rw [nI_1, eb, ec]
      exact ih (j + 1) S M P (by omega)
    have H := P.1.1.1
    have V := P.1.1.2.1
    have R := P.1.2.2
    have h22 := V.l22 hl
    have vj : ∀ f, nv (nDl N s l (fun _ => 1) j) 29 j f = nv N 29 j f := fun f => nDl_v (fun w => absurd w.2.1 (by omega))
    have v28 : ∀ f, nv (nDl N s l (fun _ => 1) j) 28 s f = nv N 28 s f := fun f => nDl_v (fun w => absurd w.1 (by omega))
    have skip : nDc N s j = false → wX14_comeIn_193 κ (wX14_comeIn_34 κ (d + 1)) (some (yA Y 20 0)) (nI s) 1 (some (yA Y 28 s)) (some (yA Y 22 l)) (nCi N s l j).1 (nCi N s l j).2 (nI j) M := fun w => i193 _ _ S M (by rw [nDl_s0 w]; exact P) (by rw [nCi_no w]) (by rw [nCi_no w])
    have h107 : nDc N s j = true → nBk N s l j = false → wX14_comeIn_107 κ (wX14_comeIn_34 κ (d + 1)) (some (yA Y 20 0)) (nI s) 1 (some (yA Y 28 s)) (some (yA Y 22 l)) (nCi N s l j).1 (nCi N s l j).2 (nI j) (some (yA Y 29 j)) M := fun hd hk => by
      have e := nCi_in hd hk
      have go : ∀ b, b = (nCi N s l (j + 1)).1 → wX14_comeIn_149 κ (wX14_comeIn_34 κ (d + 1)) (some (yA Y 20 0)) (nI s) 1 (some (yA Y 28 s)) (some (yA Y 22 l)) b (nI j) (some (yA Y 29 j)) 0 (nv N 29 j 1) (nCi N s l j).2 M := fun b eb => br_f (by decide) (br_t rfl (br_f (by decide) (br_t rfl (s_pI H hp rfl rfl rfl (fun M1 H1 => i193 _ _ _ M1 (by rw [nDl_s2 hd hk]; exact P.ft H1 (by decide)) eb (by rw [e]))))))
      refine s_rc H hp rfl rfl (D_isNm R H hp (fun zn => br_f (by decide) (br_t rfl (br_t rfl (s_gI H hp rfl rfl rfl ?_)))) (fun zn => br_t rfl (br_t rfl (s_gI H hp rfl rfl rfl ?_))))
      · rw [vj] at zn
        rw [R.2.1 29 j 1 rfl hp, vj]
        exact go _ (by rw [e, if_neg zn])
      · rw [vj] at zn
        rw [R.2.1 29 j 1 rfl hp, vj]
        exact go _ (by rw [e, if_pos zn])
    rw [wX14_comeIn_34]
    refine v_hdP H V (by omega) (fun z => absurd z (by omega)) (fun hlt => s_gI H hlt rfl rfl rfl ?_)
    rw [R.2.1 29 j 4 rfl hlt, vj]
    refine br_c (fun za => s_gI H hs rfl rfl rfl ?_) (fun za => skip (by
      cases w : nDc N s j with
      | false => rfl
      | true => exact absurd (nDc_i.mp w).1 za))
    rw [R.2.1 28 s 5 rfl hs, v28]
    refine br_c (fun zc => skip (by
      cases w : nDc N s j with
      | false => rfl
      | true =>
        rw [zb_shr _ (by omega), (nDc_i.mp w).2] at zc
        cases zc)) (fun zc => ?_)
    have hd : nDc N s j = true := nDc_i.mpr ⟨za, by
      rw [zb_shr _ (by omega)] at zc
      cases w : zb (nv N 28 s 5) j with
      | true => rfl
      | false => exact absurd w zc⟩
    refine s_rc H hlt rfl rfl (D_isNm R H hlt (fun zn => br_f (by decide) (s_gI H h22 rfl rfl rfl ?_)) (fun zn => br_t rfl (h107 hd ?_)))
    · rw [vj] at zn
      rw [R.2.1 22 l 2 rfl h22, show nv (nDl N s l (fun _ => 1) j) 22 l 2 = nv N 22 l 2 from nDl_v (fun w => absurd w.1 (by omega))]
      refine br_c (fun zq => h107 hd ?_) (fun zq => ?_)
      · cases w : nBk N s l j with
        | false => rfl
        | true => exact absurd zq (nBk_i.mp w).2
      · have hk : nBk N s l j = true := nBk_i.mpr ⟨zn, zq⟩
        have e := nCi_bk hk
        refine s_rc H hp rfl rfl (D_isNm R H hp (fun _ => br_f (by decide) (br_f (by decide) (br_f (by decide) (br_f (by decide) (br_f (by decide) (s_gI H hs rfl rfl rfl ?_)))))) (fun q => absurd (by rw [vj] at q; exact q) zn))
        obtain ⟨la, hla, ela⟩ := P.1.1.2.2.1.1 28 s 0 hs
        have ela' : nv N 28 s 0 = nI la := (v28 0).symm.trans ((R.2.1 28 s 0 rfl hs).symm.trans ela)
        rw [ela, nI_100]
        refine s_pI H hp rfl rfl rfl (fun M1 H1 => br_f (by decide) (br_f (by decide) (s_pI H1 hp rfl rfl rfl (fun M2 H2 => i193 _ _ (uI (uI S 29 j 4 (nI (100 + la))) 29 j 3 5) M2 ?_ ?_ ?_))))
        · rw [nDl_s1 hd hk, ela', nI_100]
          exact (P.I H1 ⟨100 + la, rfl, Or.inr (Or.inl ⟨by omega, by omega⟩)⟩ (by omega)).ft H2 (by decide)
        · rw [e]; exact Int32.add_zero _
        · rw [e]; exact Int32.add_zero _
    · rw [vj] at zn
      cases w : nBk N s l j with
      | false => rfl
      | true => exact absurd zn (nBk_i.mp w).1
theorem D_comeIn (P : vZ0 g c0 N Y0 S0 Y S M) {s l : Nat} (hs : s < yn Y 28) (hl : l < 6) {κ : Int32 → mM → Prop} (h : ∀ S' M', vZ0 g c0 (nU (nDl N s l (fun _ => 1) (yn Y 29)) 22 l 3 (nCi N s l (yn Y 29)).1) Y0 S0 Y S' M' → κ (nCi N s l (yn Y 29)).2 M') : wX14_comeIn κ (some (yA Y 20 0)) (nI s) (nI l) 1 M := by
  have H := P.1.1.1
  have V := P.1.1.2.1
  refine v_S H V hs (v_Ld H V hl (s_gI H (V.l22 hl) rfl rfl rfl ?_))
  rw [P.1.2.2.2.1 22 l 3 rfl (V.l22 hl)]
  exact ⟨yn Y 29 + 1, D_ci34 hs hl h (yn Y 29) 0 S M (by rw [nDl_0]; exact P) (by omega)⟩
/-- fates as they are told at the end -/
def fG (N : mN) (l : Nat) (w : Int32) (j : Nat) : Nat → Int32 := fun i => if i < j then (if nv N 22 l 1 < w then 1 else 2) else 1
theorem D_ct257 {k9 n9 s l : Nat} (hk : k9 ≤ 72) (hn : n9 ≤ 11736) (hs : s < yn Y 28) (hl : l < 6) (hla : ∃ la, la < 6 ∧ nv N 28 s 0 = nI la) {x w c dt : Int32} {κ : Int32 → mM → Prop} (h : ∀ S' M', vZ0 g c0 (nU (nU (nU (nU (nDl N s l (fun _ => if nv N 22 l 1 < w then 1 else 2) (yn Y 29)) 22 l 3 c) 22 l 4 dt) 28 s 0 (nI l)) 28 s 8 (-1)) Y0 S0 Y S' M' → κ x M') : ∀ (d j : Nat) (S : mS) (M : mM), vZ0 g c0 (nU (nU (nDl N s l (fG N l w j) (yn Y 29)) 22 l 3 c) 22 l 4 dt) Y0 S0 Y S M → j + d = yn Y 29 → wX14_comeThrough_257 g κ (d + 1) k9 n9 (some (yA Y 20 0)) (nI s) (some (yA Y 28 s)) (nI l) x w (nI j) M := by
  intro d
  induction d with
  | zero =>
    intro j S M P hj
    have ej : j = yn Y 29 := by omega
    have ecg := nDl_cg (N := N) (s := s) (to := l) (n := yn Y 29) (ft := fG N l w (yn Y 29)) (ft' := fun _ => if nv N 22 l 1 < w then 1 else 2) (fun i hi => if_pos hi)
    rw [ej, ecg] at P
    rw [wX14_comeThrough_257]
    refine ⟨⟨hk, hn⟩, v_hdP P.1.1.1 P.1.1.2.1 (by omega) (fun _ => ?_) (fun hlt => absurd hlt (by omega))⟩
    exact s_pI P.1.1.1 hs rfl rfl rfl (fun M1 H1 => s_pI H1 hs rfl rfl rfl (fun M2 H2 => ⟨⟨hk, hn⟩, h _ M2 ((P.I H1 ⟨l, hl, rfl⟩ (by omega)).I H2 (Or.inl rfl) (by omega))⟩))
  | succ d ih =>
    intro j S M P hj
    have H := P.1.1.1
    have V := P.1.1.2.1
    have R := P.1.2.2
    have hb := V.2.1
    have hp : j < yn Y 29 := by omega
    have h22 := V.l22 hl
    have i326 : ∀ S M, vZ0 g c0 (nU (nU (nDl N s l (fG N l w (j + 1)) (yn Y 29)) 22 l 3 c) 22 l 4 dt) Y0 S0 Y S M → wX14_comeThrough_326 g κ (wX14_comeThrough_257 g κ (d + 1)) k9 n9 (some (yA Y 20 0)) (nI s) (some (yA Y 28 s)) (nI l) x w (nI j) M := fun S M P => ⟨⟨hk, hn⟩, by rw [nI_1]; exact ih (j + 1) S M P (by omega)⟩
    have eG : ∀ v, v = (if nv N 22 l 1 < w then 1 else 2) → fU (fG N l w j) j v = fG N l w (j + 1) := fun v ev => by
      funext i
      show (if i = j then v else if i < j then _ else 1) = if i < j + 1 then _ else 1
      by_cases q : i = j
      · rw [if_pos q, if_pos (show i < j + 1 by omega), ev]
      · rw [if_neg q]
        by_cases q2 : i < j
        · rw [if_pos q2, if_pos (show i < j + 1 by omega)]
        · rw [if_neg q2, if_neg (show ¬ i < j + 1 by omega)]
    have skip : (nDc N s j = true → nBk N s l j = true) → wX14_comeThrough_326 g κ (wX14_comeThrough_257 g κ (d + 1)) k9 n9 (some (yA Y 20 0)) (nI s) (some (yA Y 28 s)) (nI l) x w (nI j) M := fun q => i326 S M (by
      rw [← eG _ rfl, ← nDl_f0 q]
      exact P)
    have va : nv (nU (nU (nDl N s l (fG N l w j) (yn Y 29)) 22 l 3 c) 22 l 4 dt) 29 j 4 = nv (nDl N s l (fG N l w j) (yn Y 29)) 29 j 4 := by rw [nv_U (by omega), nv_U (by omega)]
    have v5 : nv (nU (nU (nDl N s l (fG N l w j) (yn Y 29)) 22 l 3 c) 22 l 4 dt) 28 s 5 = nv N 28 s 5 := by rw [nv_U (by omega), nv_U (by omega), nDl_v3 (by omega)]
    have v1 : nv (nU (nU (nDl N s l (fG N l w j) (yn Y 29)) 22 l 3 c) 22 l 4 dt) 22 l 1 = nv N 22 l 1 := by rw [nv_U (by omega), nv_U (by omega), nDl_v3 (by omega)]
    obtain ⟨la, hla, ela⟩ := hla
    rw [wX14_comeThrough_257]
    refine ⟨⟨hk, hn⟩, v_hdP H V (by omega) (fun z => absurd z (by omega)) (fun hlt => s_gI H hlt rfl rfl rfl ?_)⟩
    rw [R.2.1 29 j 4 rfl hlt, va]
    refine br_c (fun za => s_gI H hs rfl rfl rfl ?_) (fun za => skip (fun hd => ?_))
    · rw [R.2.1 28 s 5 rfl hs, v5]
      refine br_c (fun zc => ?_) (fun zc => skip (fun hd => absurd ((and_10 _).mpr (fun q => ?_)) zc))
      · have hz : zb (nv N 28 s 5) j = true := by
          cases q : zb (nv N 28 s 5) j with
          | true => rfl
          | false => exact absurd ((zb_shr _ (by omega)).mpr q) ((and_10 _).mp zc)
        by_cases hd : nDc N s j = true
        · have hk0 : nBk N s l j = false := by
            cases q : nBk N s l j with
            | false => rfl
            | true =>
              rw [nDl_bk hlt hd q, ela, nI_100] at za
              exact absurd ((nI_eq (by omega) (by omega)).mp za) (by omega)
          refine v_Ld H V hl (s_gI H h22 rfl rfl rfl ?_)
          rw [R.2.1 22 l 1 rfl h22, v1]
          refine br_c (fun zw => i326 S M ?_) (fun zw => s_pI H hlt rfl rfl rfl (fun M1 H1 => i326 (uI S 29 j 3 2) M1 ?_))
          · rw [← eG 1 (if_pos zw).symm]
            have e1 : fU (fG N l w j) j 1 = fG N l w j := by
              funext i
              show (if i = j then 1 else fG N l w j i) = fG N l w j i
              by_cases q : i = j
              · rw [if_pos q, q]
                exact (if_neg (Nat.lt_irrefl j)).symm
              · rw [if_neg q]
            rw [e1]
            exact P
          · have P1 := P.ft H1 (by decide)
            rw [nU_U (k := 22) (k' := 29) (f := 4) (by omega), nU_U (k := 22) (k' := 29) (f := 3) (by omega), nDl_f1 hlt hd hk0, eG 2 (if_neg zw).symm] at P1
            exact P1
        · have ea : nv N 29 j 4 = nI s := by
            rw [nDl_v (fun q => hd q.2.2)] at za
            exact za
          exact absurd (nDc_i.mpr ⟨ea, hz⟩) hd
      · rw [zb_shr _ (by omega), (nDc_i.mp hd).2] at q
        cases q
    · cases q : nBk N s l j with
      | true => rfl
      | false =>
        rw [nDl_in hlt hd q] at za
        exact absurd (nDc_i.mp hd).1 za
theorem D_ct87 {s l : Nat} (hs : s < yn Y 28) (hl : l < 6) (hal : ∃ a, a ≤ 99 ∧ nv N 22 l 1 = nI a) {sr : Int32} {κ : Int32 → mM → Prop} (h : ∀ S' M', vZ0 g c0 (nCt N s l sr).1 Y0 S0 Y S' M' → κ (nCt N s l sr).2 M') : ∀ (d j k9 n9 : Nat) (S : mS) (M : mM), k9 ≤ 3 * j → n9 ≤ 489 * j → vZ0 g c0 (nBh s l sr j (N, 0)).1 Y0 S0 Y S M → j + d = yn Y 29 → wX14_comeThrough_87 g κ (d + 1) k9 n9 (some (yA Y 20 0)) (nI s) (some (yA Y 28 s)) (nI l) sr (nBh s l sr j (N, 0)).2 (nI j) M := by
  intro d
  induction d with
  | zero =>
    intro j k9 n9 S M hk hn P hj
    have H := P.1.1.1
    have V := P.1.1.2.1
    have hb := V.2.1
    have ej : j = yn Y 29 := by omega
    have en : nn N 29 = yn Y 29 := by
      have := P.1.2.2.1.2.2
      rw [(nBh_Fr (s := s) (to := l) (sr := sr) (p := (N, 0)) j).1] at this
      exact this.symm
    have eF := nBh_Fr (s := s) (to := l) (sr := sr) (p := (N, 0)) (yn Y 29)
    unfold nCt at h
    rw [en] at h
    rw [ej] at P ⊢
    generalize nBh s l sr (yn Y 29) (N, 0) = p at P h eF ⊢
    rw [wX14_comeThrough_87]
    refine ⟨⟨by omega, by omega⟩, v_hdP H V (by omega) (fun _ => ?_) (fun hlt => absurd hlt (by omega))⟩
    have hla : ∃ la, la < 6 ∧ nv p.1 28 s 0 = nI la := by
      obtain ⟨la, hla, ela⟩ := P.1.1.2.2.1.1 28 s 0 hs
      exact ⟨la, hla, (P.1.2.2.2.1 28 s 0 rfl hs).symm.trans ela⟩
    obtain ⟨b, hb2, eb⟩ := nCi_b (N := p.1) (s := s) (to := l) (yn Y 29) (fun q hq => by
      obtain ⟨a, ha, ea⟩ := P.1.1.2.2.1.1 29 q 1 hq
      exact ⟨a, ha, (P.1.2.2.2.1 29 q 1 rfl hq).symm.trans ea⟩)
    obtain ⟨al, hal9, eal⟩ := hal
    have eal' : nv p.1 22 l 1 = nI al := (eF.2.2.2 22 l 1 (by omega) (by omega) (by omega)).trans eal
    refine s_rc H V.x0 rfl rfl (D_comeIn P hs hl (fun S1 M1 P1 => ?_))
    have H1 := P1.1.1.1
    have V1 := P1.1.1.2.1
    have R1 := P1.1.2.2.2.1
    have h22 := V1.l22 hl
    have vf : ∀ f, f ≠ 3 → nv (nU (nDl p.1 s l (fun _ => 1) (yn Y 29)) 22 l 3 (nCi p.1 s l (yn Y 29)).1) 22 l f = nv p.1 22 l f := fun f hf => (nv_U (by omega)).trans (nDl_v (by omega))
    refine v_Ld H1 V1 hl (s_gI H1 h22 rfl rfl rfl (v_Ld H1 V1 hl (s_rc H1 V1.x0 rfl rfl (s_gI H1 h22 rfl rfl rfl (s_gI H1 h22 rfl rfl rfl ?_)))))
    rw [R1 22 l 4 rfl h22, R1 22 l 1 rfl h22, R1 22 l 0 rfl h22, vf 4 (by omega), vf 1 (by omega), vf 0 (by omega), eb, eal', duty_eq (by omega) (by omega)]
    refine s_pI H1 h22 rfl rfl rfl (fun M2 H2 => ?_)
    have P2 := P1.I H2 trivial (by omega)
    have e0 : fG p.1 l (nI b) 0 = fun _ => 1 := by
      funext i
      exact if_neg (by omega)
    rw [← e0] at P2
    refine ⟨yn Y 29 + 1, D_ct257 (by omega) (by omega) hs hl hla (fun S3 M3 P3 => h S3 M3 ?_) (yn Y 29) 0 _ M2 P2 (by omega)⟩
    have e9 : nCd p.1 s l (yn Y 29) = nU (nU (nDl p.1 s l (fun _ => if nv p.1 22 l 1 < nI b then 1 else 2) (yn Y 29)) 22 l 3 (nCi p.1 s l (yn Y 29)).1) 22 l 4 (nv p.1 22 l 4 + if nI al < nI b then ((nI b - nI al) * nv p.1 22 l 0) / 100 else 0) := by
      unfold nCd nDuty
      rw [eb, eal']
    rw [e9]
    exact P3
  | succ d ih =>
    intro j k9 n9 S M hk hn P hj
    have H := P.1.1.1
    have V := P.1.1.2.1
    have R := P.1.2.2
    have hb := V.2.1
    have h22 := V.l22 hl
    have i210 : ∀ k9 n9 c S M, k9 ≤ 3 * (j + 1) → n9 ≤ 489 * (j + 1) → vZ0 g c0 (nBh s l sr (j + 1) (N, 0)).1 Y0 S0 Y S M → c = (nBh s l sr (j + 1) (N, 0)).2 → wX14_comeThrough_210 g κ (wX14_comeThrough_87 g κ (d + 1)) k9 n9 (some (yA Y 20 0)) (nI s) (some (yA Y 28 s)) (nI l) sr c (nI j) M := fun k9 n9 c S M hk hn P ec => ⟨⟨by omega, by omega⟩, by rw [nI_1, ec]; exact ih (j + 1) k9 n9 S M hk hn P (by omega)⟩
    have eq : nBh s l sr (j + 1) (N, 0) = nBh1 s l sr j (nBh s l sr j (N, 0)) := rfl
    rw [eq] at i210
    clear eq ih
    generalize nBh s l sr j (N, 0) = p at P R i210 ⊢
    have stay : nHn p.1 s j = false → wX14_comeThrough_210 g κ (wX14_comeThrough_87 g κ (d + 1)) k9 n9 (some (yA Y 20 0)) (nI s) (some (yA Y 28 s)) (nI l) sr p.2 (nI j) M := fun w => by
      have e : nBh1 s l sr j p = p := if_neg (by rw [w]; decide)
      exact i210 _ _ _ S M (by omega) (by omega) (by rw [e]; exact P) (by rw [e])
    rw [wX14_comeThrough_87]
    refine ⟨⟨by omega, by omega⟩, v_hdP H V (by omega) (fun z => absurd z (by omega)) (fun hlt => s_gI H hlt rfl rfl rfl ?_)⟩
    rw [R.2.1 29 j 4 rfl hlt]
    refine br_c (fun za => s_gI H hs rfl rfl rfl ?_) (fun za => stay (by
      cases w : nHn p.1 s j with
      | false => rfl
      | true => exact absurd (nHn_i.mp w).1 za))
    rw [R.2.1 28 s 5 rfl hs]
    refine br_c (fun zc => stay (by
      cases w : nHn p.1 s j with
      | false => rfl
      | true => exact absurd ((zb_shr _ (by omega)).mpr (nHn_i.mp w).2) ((and_10 _).mp zc))) (fun zc => ?_)
    have hh : nHn p.1 s j = true := nHn_i.mpr ⟨za, by
      cases q : zb (nv p.1 28 s 5) j with
      | false => rfl
      | true =>
        refine absurd ((and_10 _).mpr (fun w => ?_)) zc
        rw [zb_shr _ (by omega), q] at w
        cases w⟩
    have go : nBh1 s l sr j p = if sr = 0 then (nBa p.1 s j 4, p.2) else (nBb p.1 s l j, p.2 + 1) := if_pos hh
    obtain ⟨dr, hdr, edr⟩ := P.1.1.2.2.1.1 29 j 0 hlt
    have edr' : nv p.1 29 j 0 = nI dr := (R.2.1 29 j 0 rfl hlt).symm.trans edr
    refine s_gI H hlt rfl rfl rfl ⟨⟨by omega, by omega⟩, ?_⟩
    rw [edr]
    refine D_hide P hs (by omega) (fun S1 M1 P1 => ?_)
    have H1 := P1.1.1.1
    refine br_c (fun z => ?_) (fun z => ?_)
    · rw [if_pos z] at go
      refine ⟨⟨by omega, by omega⟩, s_pI H1 hlt rfl rfl rfl (fun M2 H2 => s_pI H2 hlt rfl rfl rfl (fun M3 H3 => br_t z (i210 _ _ _ (uI (uI S1 29 j 3 4) 29 j 5 (nI s)) M3 (by omega) (by omega) ?_ (by rw [go]))))⟩
      rw [go]
      show vZ0 g c0 (nU (nU (nHide p.1 s (nv p.1 29 j 0)) 29 j 3 4) 29 j 5 (nI s)) Y0 S0 Y _ M3
      rw [edr']
      exact P1.ca H3 hs
    · rw [if_neg z] at go
      refine ⟨⟨by omega, by omega⟩, s_pI H1 hlt rfl rfl rfl (fun M2 H2 => s_pI H2 hlt rfl rfl rfl (fun M3 H3 => br_f z ?_))⟩
      have P3 := P1.ca H3 hs (v := 3)
      rw [nI_100]
      refine s_pI H3 hlt rfl rfl rfl (fun M4 H4 => ?_)
      have P4 := P3.I H4 ⟨100 + l, rfl, Or.inr (Or.inl ⟨by omega, by omega⟩)⟩ (by omega)
      have R4 := P4.1.2.2.2.1
      refine v_Ld H4 P4.1.1.2.1 hl (s_gI H4 h22 rfl rfl rfl (s_gI H4 hlt rfl rfl rfl ?_))
      rw [R4 22 l 5 rfl h22, R4 29 j 1 rfl hlt]
      have v1 : nv (nU (nU (nU (nHide p.1 s (nI dr)) 29 j 3 3) 29 j 5 (nI s)) 29 j 4 (nI (100 + l))) 22 l 5 = nv p.1 22 l 5 := by rw [nv_U (by omega), nv_U (by omega), nv_U (by omega), nHide_v (by omega)]
      have v2 : nv (nU (nU (nU (nHide p.1 s (nI dr)) 29 j 3 3) 29 j 5 (nI s)) 29 j 4 (nI (100 + l))) 29 j 1 = nv p.1 29 j 1 := by rw [nv_U (by omega), nv_U (by omega), nv_U (by omega), nHide_v (by omega)]
      rw [v1, v2]
      have conv : ∀ S' M', vZ0 g c0 (nU (nU (nU (nU (nHide p.1 s (nI dr)) 29 j 3 3) 29 j 5 (nI s)) 29 j 4 (nI (100 + l))) 22 l 5 (nv p.1 22 l 5 + nv p.1 29 j 1)) Y0 S0 Y S' M' → vZ0 g c0 (nBh1 s l sr j p).1 Y0 S0 Y S' M' := fun S' M' q => by
        rw [go]
        show vZ0 g c0 (nU (nU (nU (nU (nHide p.1 s (nv p.1 29 j 0)) 29 j 3 3) 29 j 5 (nI s)) 29 j 4 (nI (100 + l))) 22 l 5 (nv p.1 22 l 5 + nv p.1 29 j 1)) Y0 S0 Y S' M'
        rw [edr']
        exact q
      exact s_pI H4 h22 rfl rfl rfl (fun M5 H5 => i210 _ _ _ _ M5 (by omega) (by omega) (conv _ _ (P4.I H5 trivial (by omega))) (by rw [go]))
theorem D_comeThrough (P : vZ0 g c0 N Y0 S0 Y S M) {s t : Nat} (hs : s < yn Y 28) (ht : t < yn Y 23) (hal : ∀ l, l < 6 → ∃ a, a ≤ 99 ∧ nv N 22 l 1 = nI a) {κ : Int32 → mM → Prop} (h : ∀ S' M', vZ0 g c0 (nCome N s t).1 Y0 S0 Y S' M' → κ (nCome N s t).2 M') : wX14_comeThrough g κ (some (yA Y 20 0)) (nI s) (some (yA Y 23 t)) M := by
  have H := P.1.1.1
  have V := P.1.1.2.1
  have VV := P.1.1.2.2.1
  have R := P.1.2.2
  have RR := R.2.1
  have hto : ∃ l, l < 6 ∧ (if nv N 23 t 0 = nv N 28 s 0 then nv N 23 t 1 else nv N 23 t 0) = nI l := by
    split
    · obtain ⟨a, ha, e⟩ := VV.1 23 t 1 ht
      exact ⟨a, ha, (RR 23 t 1 rfl ht).symm.trans e⟩
    · obtain ⟨a, ha, e⟩ := VV.1 23 t 0 ht
      exact ⟨a, ha, (RR 23 t 0 rfl ht).symm.trans e⟩
  obtain ⟨l, hl, el⟩ := hto
  have eTo : nTo N s t = l := by
    unfold nTo
    rw [el, tN_nI (by omega)]
  unfold nCome at h
  rw [eTo] at h
  refine v_S H V hs (s_gI H hs rfl rfl rfl ?_)
  rw [RR 28 s 0 rfl hs]
  refine s_rc H ht rfl rfl (D_beyond R H ht ?_)
  rw [el]
  have i81 : ∀ sr S M, vZ0 g c0 (nDraw N t) Y0 S0 Y S M → sr = nSr N t → wX14_comeThrough_81 g κ 0 0 (some (yA Y 20 0)) (nI s) (some (yA Y 28 s)) (nI l) sr M := fun sr S M P e => by
    subst e
    refine ⟨⟨by omega, by omega⟩, yn Y 29 + 1, D_ct87 (N := nDraw N t) hs hl ?_ h (yn Y 29) 0 0 0 S M (by omega) (by omega) P (by omega)⟩
    rw [nDraw_v (by omega)]
    exact hal l hl
  have i51 : nv N 23 t 5 < 5 → ∀ sr, sr = nSr N t → wX14_comeThrough_51 g κ 0 0 (some (yA Y 20 0)) (nI s) (some (yA Y 28 s)) (nI l) sr M := fun zd sr e => by
    have e1 : nDraw N t = nU (nU N 20 0 3 (m_rem (21 * nv N 20 0 3 + 11) 4096)) 20 0 4 (nv N 20 0 4 + 1) := if_pos zd
    refine ⟨⟨by omega, by omega⟩, s_gI H V.x0 rfl rfl rfl ?_⟩
    rw [RR 20 0 3 rfl V.x0]
    refine s_pI H V.x0 rfl rfl rfl (fun M1 H1 => s_gI H1 V.x0 rfl rfl rfl ?_)
    have P1 := P.I H1 trivial (by omega)
    rw [P1.1.2.2.2.1 20 0 4 rfl V.x0, nv_U (by omega)]
    exact s_pI H1 V.x0 rfl rfl rfl (fun M2 H2 => i81 sr _ M2 (by rw [e1]; exact P1.I H2 trivial (by omega)) e)
  refine s_rc H ht rfl rfl (D_dozes R H ht (fun zd => br_f (by decide) (i81 0 S M (by rw [show nDraw N t = N from if_neg zd]; exact P) (if_neg zd).symm)) (fun zd => br_t rfl (s_gI H V.x0 rfl rfl rfl (s_gI H ht rfl rfl rfl ?_))))
  rw [RR 20 0 3 rfl V.x0, RR 23 t 4 rfl ht]
  have e2 : nSr N t = if nv N 23 t 4 ≤ m_rem (nv N 20 0 3) 10 then 0 else 1 := if_pos zd
  exact br_c (fun z => i51 zd 0 (by rw [e2, if_pos z])) (fun z => i51 zd 1 (by rw [e2, if_neg z]))
theorem D_y121 {t : Nat} (ht : t < yn Y 23) {NF : mN} {a : Int32} {κ : Int32 → mM → Prop} (h : ∀ S' M', vZ0 g c0 NF Y0 S0 Y S' M' → NI NF → κ a M') : ∀ (d : Nat) (N : mN) (S : mS) (M : mM), vZ0 g c0 N Y0 S0 Y S M → NI N → nTi t d N = NF → d ≤ (nq N t).length → wX14_yawn_121 g κ (d + 1) (some (yA Y 20 0)) (some (yA Y 23 t)) a (nI d - 1) M := by
  intro d
  induction d with
  | zero =>
    intro N S M P I eN hd
    rw [show nTi t 0 N = N from rfl] at eN
    rw [eN] at P I
    rw [wX14_yawn_121]
    exact br_t (by decide) (h S M P I)
  | succ d ih =>
    intro N S M P I eN hd
    have B := nB_of P.1.1 P.1.2.2
    have H := P.1.1.1
    have V := P.1.1.2.1
    have R := P.1.2.2
    have hb := V.2.1
    have eq : sL S 25 t = nq N t := R.2.2.1 t ht
    have hl := H.len (k := 25) (i := t) rfl (V.l25 ht)
    rw [eq] at hl
    have hlt : d < (nq N t).length := by omega
    have hx' : (nq N t)[d]? = some ((nq N t)[d]) := List.getElem?_eq_getElem hlt
    generalize (nq N t)[d] = u at hx'
    have hx : (sL S 25 t)[d]? = some u := by rw [eq]; exact hx'
    obtain ⟨hnd, hmem⟩ := P.1.1.2.2.2.1.1 t ht
    obtain ⟨hu, hu1, hu4⟩ := hmem u (List.mem_of_getElem? hx)
    have e1 : nTi t (d + 1) N = nTi t d (nTi1 N u) := by
      show nTi t d (match (nq N t)[d]? with | some u => nTi1 N u | none => N) = _
      rw [hx']
    rw [e1] at eN
    have I1 := NI.ti1 B I (t := t) (d := d) (by rw [← R.1.1]; exact ht) hx'
    rw [wX14_yawn_121, nI_pred]
    refine br_f (nI_pos (by omega)) (s_gR7 H ht rfl rfl rfl (s_rcL H rfl (V.l25 ht) (s_get H rfl (V.l25 ht) hx (v_int H V (by omega) ?_))))
    refine v_S H V hu (s_gI H hu rfl rfl rfl ?_)
    rw [R.2.1 28 u 2 rfl hu]
    refine s_pI H hu rfl rfl rfl (fun M1 H1 => ?_)
    have P1 := P.I H1 trivial (by omega)
    have i189 : ∀ N' S' M', vZ0 g c0 N' Y0 S0 Y S' M' → NI N' → nTi t d N' = NF → d ≤ (nq N' t).length → wX14_yawn_189 g κ (wX14_yawn_121 g κ (d + 1)) (some (yA Y 20 0)) (some (yA Y 23 t)) a (nI d) M' := fun N' S' M' P' I' e' hd' => by
      show wX14_yawn_121 g κ (d + 1) (some (yA Y 20 0)) (some (yA Y 23 t)) a (nI d + (-1)) M'
      rw [nI_m1]
      exact ih N' S' M' P' I' e' hd'
    refine v_S H1 P1.1.1.2.1 hu (s_gI H1 hu rfl rfl rfl ?_)
    rw [sI_uI_s]
    refine br_c (fun z => ?_) (fun z => i189 _ _ M1 P1 (by unfold nTi1 at I1; rw [if_neg z] at I1; exact I1) (by rw [← eN]; unfold nTi1; rw [if_neg z]) (Nat.le_of_lt hlt))
    have e2 : nTi1 N u = nOut (nU N 28 u 2 (nv N 28 u 2 - 1)) u 2 := if_pos z
    rw [e2] at eN I1
    refine s_rc H1 V.x0 rfl rfl (D_stepOut P1.1 hu ((nv_U (by omega)).trans ((R.2.1 28 u 3 rfl hu).symm.trans hu1)) (Or.inr rfl) (fun S2 M2 P2 e20 => i189 _ S2 M2 ⟨P2, e20.trans P1.2⟩ I1 eN ?_))
    have e4 : nv (nU N 28 u 2 (nv N 28 u 2 - 1)) 28 u 4 = nI t := (nv_U (by omega)).trans ((R.2.1 28 u 4 rfl hu).symm.trans hu4)
    have hlen : ((nq N t).eraseIdx d).length = (nq N t).length - 1 := List.length_eraseIdx_of_lt hlt
    have e5 : nq (nOut (nU N 28 u 2 (nv N 28 u 2 - 1)) u 2) t = (nq N t).eraseIdx d := by
      unfold nOut
      rw [if_pos rfl, (nGo_o _).2.1]
      unfold nOut1
      rw [e4, tN_nI (by omega), show nq (nU N 28 u 2 (nv N 28 u 2 - 1)) t = nq N t from rfl, idx_nd _ _ _ (by rw [← eq]; exact hnd) hx']
      exact nq_Q_s
    rw [e5, hlen]
    omega
theorem D_yawn (P : vN g N Y0 S0 Y S M) (I : NI N) {a : Int32} {κ : Int32 → mM → Prop} (h : ∀ k v N' Y' S' M', fYawn N a = (k, v, N') → vN g N' Y0 S0 Y' S' M' → sI S' 20 0 0 = k → NI N' → κ v M') : wX14_yawn g κ (some (yA Y 20 0)) a M := by
  unfold fYawn at h
  rw [← P.2.2.1.1] at h
  refine n_th P (fun S1 M1 P1 e1 => ?_)
  have H := P1.1.1
  have V := P1.1.2.1
  have hbd := V.2.1
  have R := P1.2.2
  have RR := R.2.1
  refine s_rc H V.x0 rfl rfl (v_isGate H V (fun t ht et => br_f (by decide) ?_) (fun n => br_t rfl (n_rf P1 (fun S2 M2 P2 e2 => h 1 0 N Y S2 M2 (by rw [if_pos n]) P2 e2 I))))
  have hv : ¬ a < 0 ∧ a < nI (yn Y 23) := by rw [et]; exact m_in ht (by omega)
  have t1 : tN a = t := by rw [et]; exact tN_nI (by omega)
  rw [if_neg (fun w => w hv), t1] at h
  subst et
  have f2 : (nv N 23 t 3 ≤ m_rem ((nv N 20 0 2 - nv N 23 t 2) + 24) 24 ∨ (nq N t).length = 0) → wX14_yawn_52 g κ (some (yA Y 20 0)) M1 := fun z => n_rf P1 (fun S2 M2 P2 e2 => h 2 0 N Y S2 M2 (by rw [if_pos z]) P2 e2 I)
  have eq : sL S1 25 t = nq N t := R.2.2.1 t ht
  refine v_G H V ht (s_gI H V.x0 rfl rfl rfl (s_rc H ht rfl rfl (s_gI H ht rfl rfl rfl (s_gI H ht rfl rfl rfl ?_))))
  rw [RR 20 0 2 rfl V.x0, RR 23 t 2 rfl ht, RR 23 t 3 rfl ht, show nv N 20 0 2 + 24 - nv N 23 t 2 = nv N 20 0 2 - nv N 23 t 2 + 24 from by rw [Int32.sub_eq_add_neg, Int32.sub_eq_add_neg, Int32.add_assoc, Int32.add_assoc, Int32.add_comm 24]]
  refine br_c (fun zo => br_t rfl (f2 (Or.inl zo))) (fun zo => br_f (by decide) ?_)
  refine s_gR7 H ht rfl rfl rfl (s_rcL H rfl (V.l25 ht) (s_isEmpty H rfl (V.l25 ht) (fun ze => br_f (by decide) (f2 (Or.inr (by rw [← eq, ze]; rfl)))) (fun hne => br_t rfl ?_)))
  have hne' : ¬ (nq N t).length = 0 := fun w => hne (by rw [eq]; exact List.length_eq_zero_iff.mp w)
  rw [if_neg (fun w => w.elim zo hne')] at h
  refine s_gI H V.x0 rfl rfl rfl ?_
  rw [RR 20 0 5 rfl V.x0]
  refine s_pI H V.x0 rfl rfl rfl (fun M2 H2 => ?_)
  have P2 : vZ0 g 0 (nU N 20 0 5 (nv N 20 0 5 + 1)) Y0 S0 Y (uI S1 20 0 5 (nv N 20 0 5 + 1)) M2 := (show vZ0 g 0 N Y0 S0 Y S1 M1 from ⟨P1, e1⟩).I H2 trivial (by omega)
  have V2 := P2.1.1.2.1
  refine s_gR7 H2 ht rfl rfl rfl (s_rcL H2 rfl (V2.l25 ht) (v_first H2 V2 ht hne (fun s hs128 hs0 => v_int H2 V2 hs128 ?_)))
  have hs0' : (nq N t)[0]? = some s := by rw [← eq]; exact hs0
  have ehd : (nq N t).headD 0 = s := by
    cases hq : nq N t with
    | nil => rw [hq] at hs0'; cases hs0'
    | cons b l => rw [hq] at hs0'; exact Option.some.inj hs0'
  rw [ehd] at h
  obtain ⟨hs, hs1, -⟩ := (P2.1.1.2.2.2.1.1 t ht).2 s (List.mem_of_getElem? hs0)
  have hs1' : nv (nU N 20 0 5 (nv N 20 0 5 + 1)) 28 s 3 = 1 := (P2.1.2.2.2.1 28 s 3 rfl hs).symm.trans hs1
  have i108 : ∀ x N' S M, vZ0 g 0 N' Y0 S0 Y S M → NI N' → x = (nYw N s t).2 → N' = (nYw N s t).1 → wX14_yawn_108 g κ (some (yA Y 20 0)) (some (yA Y 23 t)) x M := fun x N' S M P IN ex eN => by
    have eq' : sL S 25 t = nq N' t := P.1.2.2.2.2.1 t ht
    refine s_gR7 P.1.1.1 ht rfl rfl rfl (s_rcL P.1.1.1 rfl (P.1.1.2.1.l25 ht) (s_size P.1.1.1 rfl (P.1.1.2.1.l25 ht) ?_))
    rw [eq']
    refine ⟨(nq N' t).length + 1, D_y121 ht (NF := nTi t (nq N' t).length N') (fun S' M' P' I' => h 0 _ _ Y S' M' (by rw [ex, eN]) P'.1 P'.2 I') (nq N' t).length N' S M P IN rfl (Nat.le_refl _)⟩
  refine s_rc H2 V2.x0 rfl rfl (D_stepOut P2.1 hs hs1' (Or.inl rfl) (fun S3 M3 P3 e3 => ?_))
  have P3' : vZ0 g 0 (nOut (nU N 20 0 5 (nv N 20 0 5 + 1)) s 0) Y0 S0 Y S3 M3 := ⟨P3, e3.trans P2.2⟩
  have IY : NI (nU N 20 0 5 (nv N 20 0 5 + 1)) := by
    obtain ⟨i1, i2, i3, i4, i5⟩ := I
    exact NI.mk (nIA.cg i1 (fun l => nv_U (by omega))) (nIQ.cg i2 (fun l => nv_U (by omega))) (fun s hs => nIS.cg (i3 s hs) (fun f _ => nv_U (by omega)) (fun t f _ => nv_U (by omega)) rfl rfl (fun p _ => nv_U (by omega))) (fun t ht => nAh.cg (i4 t ht) rfl (fun u => nv_U (by omega))) (nIH.cg i5 rfl (nv_U (by omega)) rfl (fun s => nv_U (by omega)))
  have BY := nB_of P2.1.1 P2.1.2.2
  have c23 : t < nn (nU N 20 0 5 (nv N 20 0 5 + 1)) 23 := by rw [← P2.1.2.2.1.1]; exact ht
  have c28 : s < nn (nU N 20 0 5 (nv N 20 0 5 + 1)) 28 := by rw [← P2.1.2.2.1.2.1]; exact hs
  have hmy := (BY.2.2.2.2.2.1 t c23)
  have eo := nOut0 (N := nU N 20 0 5 (nv N 20 0 5 + 1)) (hmy.2 s (List.mem_of_getElem? hs0')).2.2 (by omega) hmy.1 hs0'
  have I3 : NI (nOut (nU N 20 0 5 (nv N 20 0 5 + 1)) s 0) := by
    rw [eo]
    exact IY.out (by omega) hs1' c28
  have o3 : nv (nOut (nU N 20 0 5 (nv N 20 0 5 + 1)) s 0) 28 s 3 = 0 := by rw [eo, nv_U (by omega), nv_U_s]
  have I4 : NI (nCome (nOut (nU N 20 0 5 (nv N 20 0 5 + 1)) s 0) s t).1 := NI.come (nB_of P3.1 P3.2.2) I3 (by rw [eo]; exact c28) (by rw [eo]; exact c23) o3
  refine s_rc P3.1.1 P3.1.2.1.x0 rfl rfl (D_good P3.2.2 P3.1.1 P3.1.2.1 P3.1.2.2.1 hs ht (fun zg => br_f (by decide) ?_) (fun zg => br_t rfl (i108 _ _ S3 M3 P3' I3 (by unfold nYw; rw [if_neg zg]) (by unfold nYw; rw [if_neg zg]))))
  have hal : ∀ l, l < 6 → ∃ a, a ≤ 99 ∧ nv (nOut (nU N 20 0 5 (nv N 20 0 5 + 1)) s 0) 22 l 1 = nI a := fun l hl => by
    obtain ⟨a, ha, e⟩ := I.1 l hl
    refine ⟨a, ha, ?_⟩
    unfold nOut nOut1
    rw [if_neg (by decide), nv_U (by omega), nv_U (by omega)]
    exact (show nv (nU N 20 0 5 (nv N 20 0 5 + 1)) 22 l 1 = _ from nv_U (by omega)).trans e
  exact s_rc P3.1.1 P3.1.2.1.x0 rfl rfl (D_comeThrough P3' hs ht hal (fun S4 M4 P4 => i108 _ _ S4 M4 P4 I4 (by unfold nYw; rw [if_pos zg]) (by unfold nYw; rw [if_pos zg])))
end SIM20
