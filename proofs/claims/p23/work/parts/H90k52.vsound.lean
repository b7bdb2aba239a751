/-! THE SIMULATION, 42: soundness, of the reference -/
section SIM42
variable {g : Nat → Nat} {Y : mY} {S : mS} {M : mM}
theorem D_is202 {Y0 : mY} {S0 : mS} {N : mN} (B : nB N) (I : NI N) {r : Nat} (P : vN g N Y0 S0 Y S M) (hr : r < yn Y 38) (hC : sC S 38 r = 12) (hE : ∀ v, v < 12 → sE S 38 r v = nI (tS N v (nn N 23))) {κ : Int32 → mM → Prop} (h : κ 1 M) : ∀ (d j : Nat), j + d = yn Y 28 → wX14_isSoundNow_202 κ (d + 1) (some (yA Y 20 0)) (some (yA Y 38 r)) (nI 30) (nI j) M := by
  have H := P.1.1
  have V := P.1.2.1
  have R := P.2.2
  have hb := V.2.1
  have c28 := R.1.2.1
  intro d
  induction d with
  | zero =>
    intro j hj
    rw [wX14_isSoundNow_202]
    refine v_hdS H V (by omega) (fun _ => br_t rfl ?_) (fun hlt => absurd hlt (by omega))
    refine s_gR6 H V.x0 rfl rfl rfl (s_rcL H rfl (V.l24 (by omega)) (v_szH H V (br_f ?_ h)))
    obtain ⟨hh, h1, h2, -⟩ := B.2.2.2.2.2.2.2
    rw [R.2.2.2.2]
    exact nI_nlt (a := 120) (b := (nh N).length) (by omega) (by omega)
  | succ d ih =>
    intro j hj
    have i279 : wX14_isSoundNow_279 κ (wX14_isSoundNow_202 κ (d + 1)) (some (yA Y 20 0)) (some (yA Y 38 r)) (nI 30) (nI j) M := by
      show wX14_isSoundNow_202 κ (d + 1) (some (yA Y 20 0)) (some (yA Y 38 r)) (nI 30) (nI j + 1) M
      rw [nI_1]
      exact ih (j + 1) (by omega)
    rw [wX14_isSoundNow_202]
    refine v_hdS H V (by omega) (fun z => absurd z (by omega)) (fun hlt => ?_)
    have hs' : j < nn N 28 := by omega
    have I3 := I.2.2.1 j hs'
    obtain ⟨pa, hpa, epa⟩ := I.pat hs'
    have i243 : ∀ s0 s1 : Int32, s1 = s0 → wX14_isSoundNow_243 κ (wX14_isSoundNow_202 κ (d + 1)) (some (yA Y 20 0)) (some (yA Y 38 r)) (nI 30) (nI j) (some (yA Y 28 j)) s0 s1 M := by
      intro s0 s1 e
      refine br_t e (s_gI H hlt rfl rfl rfl ?_)
      rw [R.2.1 28 j 2 rfl hlt, epa]
      refine v_is (fun _ _ => br_f (by decide) ?_) (fun w => absurd ⟨nI_pos (by omega), nI_nlt (a := 9) (b := pa) (by omega) (by omega)⟩ w)
      refine s_gI H hlt rfl rfl rfl (br_c (fun z => ?_) (fun _ => i279))
      rw [R.2.1 28 j 3 rfl hlt] at z
      refine s_rc H V.x0 rfl rfl (D_head R H V ?_)
      rw [nHd_0 (I3.2.1 z).2 _ (Nat.le_refl _)]
      exact br_t rfl i279
    refine s_ldI H hr rfl (by decide) rfl (by rw [hC]; omega) (by rw [hC]; omega) ?_
    rw [hE j (by omega), tS_e B hs']
    refine s_gI H hlt rfl rfl rfl ?_
    rw [R.2.1 28 j 3 rfl hlt]
    exact br_c (fun z => i243 _ _ (by rw [if_pos z]; rfl)) (fun z => i243 _ _ (by rw [if_neg z]; rfl))
theorem D_is173 {Y0 : mY} {S0 : mS} {N : mN} (B : nB N) (I : NI N) {r : Nat} (P : vN g N Y0 S0 Y S M) (hr : r < yn Y 38) (hC : sC S 38 r = 12) (hE : ∀ v, v < 12 → sE S 38 r v = nI (tS N v (nn N 23))) {q : Nat → Nat} (hq : ∀ l, l < 6 → nv N 22 l 2 = nI (q l)) (e6 : qP q 6 = 30) {κ : Int32 → mM → Prop} (h : κ 1 M) : ∀ (d j : Nat), j + d = 6 → wX14_isSoundNow_173 κ (d + 1) (some (yA Y 20 0)) (some (yA Y 38 r)) (nI (qP q j)) (some (yA Y 21 0)) (nI 6) (nI j) M := by
  have H := P.1.1
  have V := P.1.2.1
  have R := P.2.2
  intro d
  induction d with
  | zero =>
    intro j hj
    rw [wX14_isSoundNow_173, show j = 6 by omega, e6]
    exact br_t (nI_le (by omega) (by omega)) ⟨yn Y 28 + 1, D_is202 B I P hr hC hE h (yn Y 28) 0 (by omega)⟩
  | succ d ih =>
    intro j hj
    have hl6 : j < 6 := by omega
    rw [wX14_isSoundNow_173]
    refine br_f (nI_ge hl6 (by omega)) (s_ldR H V.l21 rfl (by decide) rfl (by rw [V.2.2.2.2.1]; exact hl6) (by rw [V.2.2.2.2.1]; omega) ?_)
    rw [V.2.2.2.2.2.1 j hl6]
    refine s_gI H (V.l22 hl6) rfl rfl rfl ?_
    rw [R.2.1 22 j 2 rfl (V.l22 hl6), hq j hl6, nI_add, nI_1]
    exact ih (j + 1) (by omega)
theorem D_is38 {Y0 : mY} {S0 : mS} {N : mN} (B : nB N) (I : NI N) {i c t r : Nat} (hr : r < yn Y 38) (ht : t < yn Y 23) {κ : Int32 → mM → Prop} {R13 : Option Nat → Option Nat → Option Nat → mM → Prop} (hR : ∀ S M, vN g N Y0 S0 Y S M → sC S 38 r = 12 → vIt Y S i 0 c → (∀ v, v < 12 → sE S 38 r v = nI (tS N v (t + 1))) → R13 (some (yA Y 20 0)) (some (yA Y 38 r)) (some (yA Y 32 i)) M) : ∀ (d j : Nat) (a : Int32) (S : mS) (M : mM), vN g N Y0 S0 Y S M → sC S 38 r = 12 → vIt Y S i 0 c → (∀ v, v < 12 → sE S 38 r v = nI (tS N v t + tC (nq N t) v j)) → (¬ a = 0 → ∃ k u, k < j ∧ (nq N t)[k]? = some u ∧ nv N 28 u 1 = 0) → j + d = (sL S 25 t).length → wX14_isSoundNow_38 κ R13 (d + 1) (some (yA Y 20 0)) (some (yA Y 38 r)) (some (yA Y 32 i)) (some (yA Y 23 t)) a (nI j) M := by
  intro d
  induction d with
  | zero =>
    intro j a S M P hC IT hE hA hj
    have H := P.1.1
    have V := P.1.2.1
    have eq : sL S 25 t = nq N t := P.2.2.2.2.1 t ht
    have hl := H.len (k := 25) (i := t) rfl (V.l25 ht)
    rw [wX14_isSoundNow_38]
    refine s_gR7 H ht rfl rfl rfl (s_rcL H rfl (V.l25 ht) (s_size H rfl (V.l25 ht) (br_t (nI_le (by omega) (by omega)) (hR S M P hC IT (fun v hv => ?_)))))
    rw [hE v hv, show j = (nq N t).length by rw [← eq]; omega]
    rfl
  | succ d ih =>
    intro j a S M P hC IT hE hA hj
    have H := P.1.1
    have V := P.1.2.1
    have c23 := P.2.2.1.1
    have eq : sL S 25 t = nq N t := P.2.2.2.2.1 t ht
    have hl := H.len (k := 25) (i := t) rfl (V.l25 ht)
    have hb := V.2.1
    have hlt : j < (sL S 25 t).length := by omega
    have hx : (sL S 25 t)[j]? = some ((sL S 25 t)[j]) := List.getElem?_eq_getElem hlt
    generalize (sL S 25 t)[j] = v at hx
    have hv := ((P.1.2.2.2.1.1 t ht).2 v (List.mem_of_getElem? hx)).1
    have hxN : (nq N t)[j]? = some v := by rw [← eq]; exact hx
    have ht' : t < nn N 23 := by omega
    have BQ := (B.2.2.2.2.2.1 t ht').2 v (List.mem_of_getElem? hxN)
    rw [wX14_isSoundNow_38]
    refine s_gR7 H ht rfl rfl rfl (s_rcL H rfl (V.l25 ht) (s_size H rfl (V.l25 ht) (br_f (nI_ge hlt (by omega)) ?_)))
    refine s_gR7 H ht rfl rfl rfl (s_rcL H rfl (V.l25 ht) (s_get H rfl (V.l25 ht) hx (v_int H V (by omega) ?_)))
    refine s_ldI H hr rfl (by decide) rfl (by rw [hC]; omega) (by rw [hC]; omega) (s_stI H hr rfl rfl (by rw [hC]; omega) (by rw [hC]; omega) (fun M1 H1 => ?_))
    have P1 : vN g N Y0 S0 Y (uE S 38 r v (sE S 38 r v + 1)) M1 := vN_E P H1 (by omega)
    have hE1 : ∀ v', v' < 12 → sE (uE S 38 r v (sE S 38 r v + 1)) 38 r v' = nI (tS N v' t + tC (nq N t) v' (j + 1)) := by
      intro v' hv'
      show (if (38 : Nat) = 38 ∧ r = r ∧ v' = v then sE S 38 r v + 1 else sE S 38 r v') = nI (tS N v' t + (tC (nq N t) v' j + (if (nq N t)[j]? = some v' then 1 else 0)))
      by_cases z : v' = v
      · rw [if_pos ⟨rfl, rfl, z⟩, z, if_pos hxN, hE v (by omega), nI_1, Nat.add_assoc]
      · rw [if_neg (fun w => z w.2.2), if_neg (show ¬ (nq N t)[j]? = some v' from fun w => z (Option.some.inj (hxN.symm.trans w)).symm), Nat.add_zero]
        exact hE v' hv'
    generalize sE S 38 r v + 1 = e at H1 P1 hE1 ⊢
    have V1 := P1.1.2.1
    have R1 := P1.2.2
    have ih' : ∀ a : Int32, (¬ a = 0 → ∃ k u, k < j + 1 ∧ (nq N t)[k]? = some u ∧ nv N 28 u 1 = 0) → wX14_isSoundNow_38 κ R13 (d + 1) (some (yA Y 20 0)) (some (yA Y 38 r)) (some (yA Y 32 i)) (some (yA Y 23 t)) a (nI j + 1) M1 := fun a ha => by
      rw [nI_1]
      exact ih (j + 1) a _ M1 P1 hC IT hE1 ha (by show _ = (sL S 25 t).length; omega)
    have i122 : wX14_isSoundNow_122 κ R13 (wX14_isSoundNow_38 κ R13 (d + 1)) (some (yA Y 20 0)) (some (yA Y 38 r)) (some (yA Y 32 i)) (some (yA Y 23 t)) a (nI j) (nI v) M1 := by
      refine v_S H1 V1 hv (s_gI H1 hv rfl rfl rfl (br_c (fun z => ih' _ (fun _ => ⟨j, v, by omega, hxN, (R1.2.1 28 v 1 rfl hv).symm.trans z⟩)) (fun _ => ih' _ (fun w => ?_))))
      obtain ⟨k, u, h1, h2, h3⟩ := hA (fun q => w (by rw [q]; rfl))
      exact ⟨k, u, by omega, h2, h3⟩
    refine v_S H1 V1 hv (s_gI H1 hv rfl rfl rfl (s_rc H1 ht rfl rfl ?_))
    rw [R1.2.1 28 v 0 rfl hv]
    refine D_has R1 H1 ht (fun _ => br_f (by decide) ?_) (fun w => absurd (((I.2.2.1 v BQ.1).2.2.2.2 BQ.2.1).2 t ht' BQ.2.2) w)
    refine br_c (fun _ => i122) (fun za => v_S H1 V1 hv (s_gI H1 hv rfl rfl rfl (br_c (fun _ => i122) (fun zb => ?_))))
    rw [R1.2.1 28 v 1 rfl hv] at zb
    obtain ⟨k, u, h1, h2, h3⟩ := hA za
    exact absurd h3 (I.2.2.2.1 t ht' k j u v (by omega) h2 hxN zb)
theorem D_is13 {Y0 : mY} {S0 : mS} {N : mN} (B : nB N) (I : NI N) {i r : Nat} (hr : r < yn Y 38) {κ : Int32 → mM → Prop} (h : ∀ S M, vN g N Y0 S0 Y S M → κ 1 M) : ∀ (d c : Nat) (S : mS) (M : mM), vN g N Y0 S0 Y S M → sC S 38 r = 12 → vIt Y S i 0 c → (∀ v, v < 12 → sE S 38 r v = nI (tS N v c)) → c + d = yn Y 23 → wX14_isSoundNow_13 κ (d + 1) (some (yA Y 20 0)) (some (yA Y 38 r)) (some (yA Y 32 i)) M := by
  intro d
  induction d with
  | zero =>
    intro c S M P hC IT hE hc
    have H := P.1.1
    have V := P.1.2.1
    have c23 := P.2.2.1.1
    have hl : (sL S 24 0).length = yn Y 23 := by rw [V.2.2.1.1, List.length_range]
    obtain ⟨q, hq, hs⟩ := I.2.1
    have e6 : qP q 6 = 30 := by
      show 0 + q 0 + q 1 + q 2 + q 3 + q 4 + q 5 = 30
      omega
    rw [wX14_isSoundNow_13]
    refine s_rc P.1.1 IT.1 rfl rfl (v_hasNext P.1.1 (V.l24 (by omega)) IT (by omega) (fun z => absurd z (by omega)) (fun _ => br_t rfl ?_))
    refine s_gR6 H V.x0 rfl rfl rfl (s_lenR H V.l21 (by decide) rfl ?_)
    rw [V.2.2.2.2.1]
    exact ⟨7, D_is173 B I P hr hC (fun v hv => by rw [hE v hv, show c = nn N 23 by omega]) hq e6 (h S M P) 6 0 (by omega)⟩
  | succ d ih =>
    intro c S M P hC IT hE hc
    have V := P.1.2.1
    have hl : (sL S 24 0).length = yn Y 23 := by rw [V.2.2.1.1, List.length_range]
    have hx : (sL S 24 0)[c]? = some c := by rw [V.2.2.1.1, List.getElem?_range (by omega)]
    have hlt : c < yn Y 23 := by omega
    rw [wX14_isSoundNow_13]
    refine s_rc P.1.1 IT.1 rfl rfl (v_hasNext P.1.1 (V.l24 (by omega)) IT (by omega) (fun _ => br_f (by decide) ?_) (fun z => absurd z (by omega)))
    refine v_next P.1.1 (V.l24 (by omega)) IT hx (fun M1 H1 => s_cast H1 hlt rfl rfl ?_)
    exact ⟨(sL S 25 c).length + 1, D_is38 B I (c := c + 1) hr hlt (fun S M P hC IT hE => ih (c + 1) S M P hC IT hE (by omega)) (sL S 25 c).length 0 0 _ M1 (vN_nx P H1) hC IT.nx (fun v hv => hE v hv) (fun w => absurd rfl w) (by show _ = (sL S 25 c).length; omega)⟩
theorem D_isSoundNow {Y0 : mY} {S0 : mS} {N : mN} (B : nB N) (I : NI N) (P : vN g N Y0 S0 Y S M) {κ : Int32 → mM → Prop} (h : ∀ Y' S' M', vN g N Y0 S0 Y' S' M' → vU Y Y' → κ 1 M') : wX14_isSoundNow κ (some (yA Y 20 0)) M := by
  refine f_row (n := 12) P (by omega) (by omega) (fun Y1 S1 M1 r P1 a1 hr hC hE => ?_)
  have V1 := P1.1.2.1
  rw [← a1.1 20 0 P.1.2.1.x0]
  refine s_gR6 P1.1.1 V1.x0 rfl rfl rfl (s_rcL P1.1.1 rfl (V1.l24 (by omega)) (f_iter (by omega) P1 (fun Y2 S2 M2 i P2 a2 IT => ?_)))
  rw [← a2.1 20 0 V1.x0, ← a2.1 38 r hr]
  have hr2 : r < yn Y2 38 := by rw [a2.2.2.1 38 (by omega)]; exact hr
  have hC2 : sC S2 38 r = 12 := ((a2.2.2.2 38 r (by omega)).2.2.2.2.2.2.1).trans hC
  have hE2 : sE S2 38 r = fun _ => 0 := ((a2.2.2.2 38 r (by omega)).2.2.2.2.2.2.2.1).trans hE
  refine ⟨yn Y2 23 + 1, D_is13 B I hr2 (fun S M P => h Y2 S M P ⟨fun k z1 z2 => (a2.2.2.1 k z1).trans (a1.2.2.1 k z2), fun k i hi => (a2.1 k i ?_).trans (a1.1 k i hi)⟩) (yn Y2 23) 0 S2 M2 P2 hC2 IT (fun v _ => by rw [hE2]; rfl) (by omega)⟩
  by_cases z : k = 38
  · subst z
    rw [a1.2.1]
    omega
  · rw [a1.2.2.1 k z]
    exact hi
theorem D_isSound {Y0 : mY} {S0 : mS} {N : mN} (B : nB N) (I : NI N) (P : vN g N Y0 S0 Y S M) {κ : Int32 → mM → Prop} (h : ∀ Y' S' M', vN g N Y0 S0 Y' S' M' → κ 1 M') : wX14_isSound κ (some (yA Y 20 0)) M :=
  f_th P (fun S1 M1 P1 _ _ => s_rc P1.1.1 P1.1.2.1.x0 rfl rfl (D_isSoundNow B I P1 (fun Y' S' M' P' _ => ⟨Or.inr rfl, h Y' S' M' P'⟩)))
end SIM42
