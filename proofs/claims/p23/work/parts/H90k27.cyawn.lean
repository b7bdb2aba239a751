/-! THE SIMULATION, 18: a yawn of the class -/
section SIM18
variable {g : Nat → Nat}
theorem C_bh6 {Y0 : mY} {S0 : mS} {s l : Nat} {N : mN} (hs : s < yn Y0 4) (hl : l < yn Y0 2) {sr : Int32} {nt : Nat} (hnt : nt < 128) (hN : nv N 20 0 1 = nI nt) (hdr : ∀ p, p < yn Y0 5 → ∃ d, d < 128 ∧ nv N 29 p 0 = nI d) {κ : Int32 → mM → Prop} (h : ∀ Y' S' M', mR g Y' S' M' → mWs Y' S' → cK Y0 S0 Y' S' → RC s (nBh s l sr (yn Y0 5) (N, 0)).1 Y' S' → κ (nBh s l sr (yn Y0 5) (N, 0)).2 M') : ∀ (d j k9 n9 : Nat) (Y : mY) (S : mS) (M : mM), mR g Y S M → mWs Y S → cK Y0 S0 Y S → RC s (nBh s l sr j (N, 0)).1 Y S → j + d = yn Y0 5 → k9 ≤ 2 * j → n9 ≤ 52 * j → wX8_bringHidden_6 g κ (d + 1) k9 n9 (some (yA Y 0 0)) (some (yA Y 4 s)) (some (yA Y 2 l)) sr (nBh s l sr j (N, 0)).2 (nI j) M := by
  intro d
  induction d with
  | zero =>
    intro j k9 n9 Y S M H W K R hj hk hn
    have hbd := W.2.1
    have n5 := K.2.1 5 (by omega)
    have hb : k9 ≤ 48 ∧ n9 ≤ 1248 := by omega
    have ej : j = yn Y0 5 := by omega
    rw [wX8_bringHidden_6]
    refine ⟨hb, c_hdP H W (by omega) (fun _ => ⟨hb, ?_⟩) (fun hlt => absurd hlt (by omega))⟩
    rw [ej] at R ⊢
    exact h Y S M H W K R
  | succ d ih =>
    intro j k9 n9 Y S M H W K R hj hk hn
    have hbd := W.2.1
    have n5 := K.2.1 5 (by omega)
    have n4 := K.2.1 4 (by omega)
    have n2 := K.2.1 2 (by omega)
    have hb : k9 ≤ 48 ∧ n9 ≤ 1248 := by omega
    have ih' : ∀ (k9 n9 : Nat) (c : Int32) (Y : mY) (S : mS) (M : mM), mR g Y S M → mWs Y S → cK Y0 S0 Y S → RC s (nBh s l sr (j + 1) (N, 0)).1 Y S → c = (nBh s l sr (j + 1) (N, 0)).2 → k9 ≤ 2 * (j + 1) → n9 ≤ 52 * (j + 1) → wX8_bringHidden_105 g κ (wX8_bringHidden_6 g κ (d + 1)) k9 n9 (some (yA Y 0 0)) (some (yA Y 4 s)) (some (yA Y 2 l)) sr c (nI j) M := by
      intro k9 n9 c Y S M H W K R ec hk hn
      have hbd := W.2.1
      have n5 := K.2.1 5 (by omega)
      unfold wX8_bringHidden_105
      rw [nI_1, ec]
      exact ⟨by omega, ih (j + 1) k9 n9 Y S M H W K R (by omega) hk hn⟩
    have eF : nFr N (nBh s l sr j (N, 0)).1 := nBh_Fr (p := (N, 0)) j
    obtain ⟨dr, hdr8, edr0⟩ := hdr j (by omega)
    have edr : nv (nBh s l sr j (N, 0)).1 29 j 0 = nI dr := (eF.2.2.2 29 j 0 (by omega) (by omega) (by omega)).trans edr0
    have ent : nv (nBh s l sr j (N, 0)).1 20 0 1 = nI nt := (eF.2.2.2 20 0 1 (by omega) (by omega) (by omega)).trans hN
    have eq : nBh s l sr (j + 1) (N, 0) = nBh1 s l sr j (nBh s l sr j (N, 0)) := rfl
    rw [eq] at ih'
    generalize nBh s l sr j (N, 0) = p at R ih' edr ent ⊢
    have no : nHn p.1 s j = false → nBh1 s l sr j p = p := fun w => if_neg (by rw [w]; decide)
    rw [wX8_bringHidden_6]
    refine ⟨hb, c_hdP H W (by omega) (fun z => absurd z (by omega)) (fun hlt => ?_)⟩
    have hs4 : s < yn Y 4 := by omega
    have hl2 : l < yn Y 2 := by omega
    have hX := H.lX (k := 5) (f := 5) (kt := 4) hlt rfl
    have e5 : sI S 4 s 6 = nv p.1 28 s 5 := (R.2.2.2.2.2.1 s hs4).1 (Or.inl rfl)
    have stay : nHn p.1 s j = false → wX8_bringHidden_105 g κ (wX8_bringHidden_6 g κ (d + 1)) k9 n9 (some (yA Y 0 0)) (some (yA Y 4 s)) (some (yA Y 2 l)) sr p.2 (nI j) M := fun w => ih' k9 n9 p.2 Y S M H W K (by rw [no w]; exact R) (by rw [no w]) (by omega) (by omega)
    refine s_gR3 H hlt rfl rfl rfl (br_c (fun zh => ?_) (fun zh => stay (by
      cases w : nHn p.1 s j with
      | false => rfl
      | true => exact absurd ((H.minj hs4 hX).mpr ((R.at H W hlt hs4).mp (nHn_i.mp w).1)) zh)))
    have hx5 := (H.minj hs4 hX).mp zh
    have hat := (R.at H W hlt hs4).mpr hx5
    refine s_rc H hlt rfl rfl (c_isHidden H W hlt (fun s' hs' hc => br_f (by decide) ?_) (fun hc => br_t rfl (stay (by
      cases w : nHn p.1 s j with
      | false => rfl
      | true =>
        have h1 := (zb_cIn (by omega)).mp (hc s hx5)
        rw [e5, (nHn_i.mp w).2] at h1
        cases h1))))
    have es' : s = s' := Option.some.inj (hx5.symm.trans hs')
    subst es'
    have hhn : nHn p.1 s j = true := nHn_i.mpr ⟨hat, by
      cases w : zb (nv p.1 28 s 5) j with
      | false => rfl
      | true => exact absurd ((zb_cIn (by omega)).mpr (by rw [e5]; exact w)) hc⟩
    have go : nBh1 s l sr j p = if sr = 0 then (nBa p.1 s j 4, p.2) else (nBb p.1 s l j, p.2 + 1) := if_pos hhn
    refine s_gI H hlt rfl rfl rfl ?_
    rw [R.2.1 5 j 1 29 0 rfl hlt (by omega), edr]
    refine ⟨by omega, s_rc H W.x0 rfl rfl (C_keepHiding R H W hs4 hdr8 hnt ent (fun Y1 S1 M1 H1 W1 K1 R1 => ?_))⟩
    have hlt1 : j < yn Y1 5 := by rw [K1.2.1 5 (by omega)]; exact hlt
    have hs1 : s < yn Y1 4 := by rw [K1.2.1 4 (by omega)]; exact hs4
    have hl1 : l < yn Y1 2 := by rw [K1.2.1 2 (by omega)]; exact hl2
    rw [← K1.1.1 5 j hlt, ← K1.1.1 4 s hs4, ← K1.1.1 2 l hl2, ← K1.1.1 0 0 W.x0]
    refine s_pX1 H1 hlt1 rfl rfl rfl hs1 (fun M2 H2 => ?_)
    have R2 := R1.br (o := some s) hlt1
    rw [show oTo (some s) = nI s from rfl] at R2
    refine br_c (fun z => ?_) (fun z => ?_)
    · rw [if_pos z] at go
      refine s_pI H2 hlt1 rfl rfl rfl (fun M3 H3 => ih' _ _ p.2 Y1 _ M3 H3 ((W1.uX).uI (Or.inl (by omega))) (((K.tr K1).tr (cK.uX (by omega) (by omega))).tr (cK.uI (by omega) (by omega) (by decide))) ?_ (by rw [go]) (by omega) (by omega))
      have R3 := R2.pI (k := 5) (i := j) (f := 4) (k' := 29) (f' := 3) (v := 4) rfl
      rw [nU_U (k := 29) (f := 5) (k' := 29) (f' := 3) (by omega)] at R3
      rw [go]
      show RC s (nU (nU (nHide p.1 s (nv p.1 29 j 0)) 29 j 3 4) 29 j 5 (nI s)) Y1 _
      rw [edr]
      exact R3
    · rw [if_neg z] at go
      have R3 := R2.hd (o := none) hlt1 (fun _ => rfl)
      have R4 := R3.st (o := some l) hlt1 (fun _ => sX_uX_s)
      rw [nU_s] at R4
      have R5 := R4.pI (k := 5) (i := j) (f := 4) (k' := 29) (f' := 3) (v := 3) rfl
      rw [nU_U (k := 29) (f := 4) (k' := 29) (f' := 3) (by omega), nU_U (k := 29) (f := 5) (k' := 29) (f' := 3) (by omega)] at R5
      refine s_rc H2 hlt1 rfl rfl (c_store H2 hlt1 hl1 (fun M3 H3 => s_gI H3 hl1 rfl rfl rfl (s_gI H3 hlt1 rfl rfl rfl ?_)))
      rw [R5.2.1 2 l 6 22 5 rfl hl1 (by omega), R5.2.1 5 j 2 29 1 rfl hlt1 (by omega)]
      refine s_pI H3 hl1 rfl rfl rfl (fun M4 H4 => ?_)
      have R6 := R5.pI (k := 2) (i := l) (f := 6) (k' := 22) (f' := 5) (v := nv (nU (nU (nU (nHide p.1 s (nI dr)) 29 j 3 3) 29 j 5 (nI s)) 29 j 4 (oAt (some l) (sX (uX (uX S1 5 j 7 (some s)) 5 j 5 none) 5 j 5))) 22 l 5 + nv (nU (nU (nU (nHide p.1 s (nI dr)) 29 j 3 3) 29 j 5 (nI s)) 29 j 4 (oAt (some l) (sX (uX (uX S1 5 j 7 (some s)) 5 j 5 none) 5 j 5))) 29 j 1) rfl
      refine ih' _ _ _ Y1 _ M4 H4 (((((W1.uX).uX).uX).uI (Or.inl (by omega))).uI (Or.inl (by omega))) ((((((K.tr K1).tr (cK.uX (by omega) (by omega))).tr (cK.uX (by omega) (by omega))).tr (cK.uX (by omega) (by omega))).tr (cK.uI (by omega) (by omega) (by decide))).tr (cK.uI (by omega) (by omega) (by decide))) ?_ (by rw [go]) (by omega) (by omega)
      rw [go]
      show RC s (nU (nU (nU (nU (nHide p.1 s (nv p.1 29 j 0)) 29 j 3 3) 29 j 5 (nI s)) 29 j 4 (nI (100 + l))) 22 l 5 (nv p.1 22 l 5 + nv p.1 29 j 1)) Y1 _
      rw [edr]
      have v1 : nv (nU (nU (nU (nHide p.1 s (nI dr)) 29 j 3 3) 29 j 5 (nI s)) 29 j 4 (oAt (some l) (sX (uX (uX S1 5 j 7 (some s)) 5 j 5 none) 5 j 5))) 22 l 5 = nv p.1 22 l 5 := by rw [nv_U (by omega), nv_U (by omega), nv_U (by omega), nHide_v (by omega)]
      have v2 : nv (nU (nU (nU (nHide p.1 s (nI dr)) 29 j 3 3) 29 j 5 (nI s)) 29 j 4 (oAt (some l) (sX (uX (uX S1 5 j 7 (some s)) 5 j 5 none) 5 j 5))) 29 j 1 = nv p.1 29 j 1 := by rw [nv_U (by omega), nv_U (by omega), nv_U (by omega), nHide_v (by omega)]
      rw [v1, v2] at R6 ⊢
      exact R6
theorem C_bringHidden {Y : mY} {S : mS} {M : mM} {N : mN} (H : mR g Y S M) (W : mWs Y S) {s l : Nat} (R : RC s N Y S) (hs : s < yn Y 4) (hl : l < yn Y 2) {sr : Int32} {nt : Nat} (hnt : nt < 128) (hN : nv N 20 0 1 = nI nt) (hdr : ∀ p, p < yn Y 5 → ∃ d, d < 128 ∧ nv N 29 p 0 = nI d) {κ : Int32 → mM → Prop} (h : ∀ Y' S' M', mR g Y' S' M' → mWs Y' S' → cK Y S Y' S' → RC s (nBh s l sr (yn Y 5) (N, 0)).1 Y' S' → κ (nBh s l sr (yn Y 5) (N, 0)).2 M') : wX8_bringHidden g κ (some (yA Y 0 0)) (some (yA Y 4 s)) (some (yA Y 2 l)) sr M := ⟨yn Y 5 + 1, C_bh6 hs hl hnt hN hdr h (yn Y 5) 0 0 0 Y S M H W (cK.rf Y S) R (by omega) (by omega) (by omega)⟩
section SIM18b
variable {Y : mY} {S : mS} {M : mM} {N : mN} {x : Nat}
/-- bits of what is declared: parts in that head -/
theorem C_comeIn_l (H : mR g Y S M) (W : mWs Y S) (R : RC x N Y S) {s l : Nat} (hs : s < yn Y 4) (hl : l < yn Y 2) (e5 : sI S 4 s 6 = nv N 28 s 5) (hde : ∀ p, p < yn Y 5 → zb (nv N 28 s 5) p = true → nv N 29 p 4 = nI s) {κ : Int32 → mM → Prop} (h : κ (nIn N s l (yn Y 5)) M) : ∀ (d j : Nat), j + d = yn Y 5 → wX8_partsThatComeIn_11 κ (d + 1) (some (yA Y 0 0)) (some (yA Y 4 s)) (some (yA Y 2 l)) (nIn N s l j) (nCi N s l j).1 (nI j) M := by
  have hbd := W.2.1
  intro d
  induction d with
  | zero =>
    intro j hj
    rw [wX8_partsThatComeIn_11]
    exact c_hdP H W (by omega) (fun e => by rw [e]; exact h) (fun hlt => absurd hlt (by omega))
  | succ d ih =>
    intro j hj
    have ih' : ∀ (a b : Int32), a = nIn N s l (j + 1) → b = (nCi N s l (j + 1)).1 → wX8_partsThatComeIn_11 κ (d + 1) (some (yA Y 0 0)) (some (yA Y 4 s)) (some (yA Y 2 l)) a b (nI j + 1) M := fun a b ea eb => by rw [nI_1, ea, eb]; exact ih (j + 1) (by omega)
    rw [wX8_partsThatComeIn_11]
    refine c_hdP H W (by omega) (fun z => absurd z (by omega)) (fun hlt => ?_)
    have ed : sI S 5 j 3 = nv N 29 j 2 := R.2.1 5 j 3 29 2 rfl hlt (by omega)
    have eq : sI S 2 l 3 = nv N 22 l 2 := R.2.1 2 l 3 22 2 rfl hl (by omega)
    refine s_gI H hs rfl rfl rfl ?_
    rw [e5]
    have out : nDc N s j = false ∨ nBk N s l j = true → wX8_partsThatComeIn_11 κ (d + 1) (some (yA Y 0 0)) (some (yA Y 4 s)) (some (yA Y 2 l)) (nIn N s l j) (nCi N s l j).1 (nI j + 1) M := fun w => by
      refine ih' _ _ (if_neg (fun q => ?_)).symm ?_
      · rcases w with w | w
        · rw [w] at q; cases q.1
        · rw [w] at q; cases q.2
      · rcases w with w | w
        · rw [nCi_no w]
        · rw [nCi_bk w]
    refine s_rc H hlt rfl rfl (c_isIn H W hlt (fun zc => br_f (by decide) ?_) (fun zc => br_t rfl (out (Or.inl ?_))))
    rotate_left
    · cases w : nDc N s j with
      | false => rfl
      | true => exact absurd ((zb_cIn (by omega)).mpr (nDc_i.mp w).2) zc
    have hdc : nDc N s j = true := nDc_i.mpr ⟨hde j hlt ((zb_cIn (by omega)).mp zc), (zb_cIn (by omega)).mp zc⟩
    have h69 : nBk N s l j = false → wX8_partsThatComeIn_69 κ (wX8_partsThatComeIn_11 κ (d + 1)) (some (yA Y 0 0)) (some (yA Y 4 s)) (some (yA Y 2 l)) (nIn N s l j) (nCi N s l j).1 (nI j) (some (yA Y 5 j)) M := fun w => by
      have e1 : nIn N s l (j + 1) = nIn N s l j ||| m_shl 1 (nI j) := if_pos ⟨hdc, w⟩
      have e2 := nCi_in hdc w
      refine s_gI H hlt rfl rfl rfl ?_
      rw [W.2.2.2.1.2.2.2 j hlt]
      refine s_rc H hlt rfl rfl (c_isNightmare H hlt (fun zn => br_f (by decide) (ih' _ _ e1.symm ?_)) (fun zn => br_t rfl (ih' _ _ e1.symm ?_)))
      · rw [e2, if_neg (by rw [← ed]; exact zn)]
      · rw [e2, if_pos (by rw [← ed]; exact zn)]
        exact (Int32.add_zero _).symm
    refine s_rc H hlt rfl rfl (c_isNightmare H hlt (fun zn => br_f (by decide) ?_) (fun zn => br_t rfl (h69 ?_)))
    · refine s_gI H hl rfl rfl rfl ?_
      rw [eq]
      refine br_c (fun zq => h69 ?_) (fun zq => out (Or.inr (nBk_i.mpr ⟨by rw [← ed]; exact zn, zq⟩)))
      cases w : nBk N s l j with
      | false => rfl
      | true => exact absurd zq (nBk_i.mp w).2
    · cases w : nBk N s l j with
      | false => rfl
      | true => exact absurd (by rw [← ed]; exact zn) (nBk_i.mp w).1
theorem C_comeIn (H : mR g Y S M) (W : mWs Y S) (R : RC x N Y S) {s l : Nat} (hs : s < yn Y 4) (hl : l < yn Y 2) (e5 : sI S 4 s 6 = nv N 28 s 5) (hde : ∀ p, p < yn Y 5 → zb (nv N 28 s 5) p = true → nv N 29 p 4 = nI s) {κ : Int32 → mM → Prop} (h : κ (nIn N s l (yn Y 5)) M) : wX8_partsThatComeIn κ (some (yA Y 0 0)) (some (yA Y 4 s)) (some (yA Y 2 l)) M := by
  refine s_gI H hl rfl rfl rfl ?_
  rw [R.2.1 2 l 4 22 3 rfl hl (by omega)]
  exact ⟨yn Y 5 + 1, C_comeIn_l H W R hs hl e5 hde h (yn Y 5) 0 (by omega)⟩
theorem C_worthOf_l (H : mR g Y S M) (W : mWs Y S) (R : RC x N Y S) {set : Int32} {κ : Int32 → mM → Prop} (h : κ (nWo N set (yn Y 5)) M) : ∀ (d j : Nat), j + d = yn Y 5 → wX8_worthOf_4 κ (d + 1) (some (yA Y 0 0)) set (nWo N set j) (nI j) M := by
  have hbd := W.2.1
  intro d
  induction d with
  | zero =>
    intro j hj
    rw [wX8_worthOf_4]
    exact c_hdP H W (by omega) (fun e => by rw [e]; exact h) (fun hlt => absurd hlt (by omega))
  | succ d ih =>
    intro j hj
    have ih' : ∀ (a : Int32), a = nWo N set (j + 1) → wX8_worthOf_45 κ (wX8_worthOf_4 κ (d + 1)) (some (yA Y 0 0)) set a (nI j) M := fun a ea => by
      unfold wX8_worthOf_45
      rw [nI_1, ea]
      exact ih (j + 1) (by omega)
    rw [wX8_worthOf_4]
    refine c_hdP H W (by omega) (fun z => absurd z (by omega)) (fun hlt => ?_)
    refine s_rc H hlt rfl rfl (c_isIn H W hlt (fun zc => br_f (by decide) (s_gI H hlt rfl rfl rfl (ih' _ ?_))) (fun zc => br_t rfl (ih' _ ?_)))
    · rw [R.2.1 5 j 2 29 1 rfl hlt (by omega)]
      exact (if_pos ((zb_cIn (by omega)).mp zc)).symm
    · exact (if_neg (fun w => zc ((zb_cIn (by omega)).mpr w))).symm
theorem C_worthOf (H : mR g Y S M) (W : mWs Y S) (R : RC x N Y S) {set : Int32} {κ : Int32 → mM → Prop} (h : κ (nWo N set (yn Y 5)) M) : wX8_worthOf κ (some (yA Y 0 0)) set M := ⟨yn Y 5 + 1, C_worthOf_l H W R h (yn Y 5) 0 (by omega)⟩
end SIM18b
theorem nI_100 (l : Nat) : (100 : Int32) + nI l = nI (100 + l) := by
  rw [show (100 : Int32) = nI 100 from rfl, nI_add]
theorem C_bd33 {Y : mY} {S0 : mS} {N : mN} {s l : Nat} (hs : s < yn Y 4) (hl : l < yn Y 2) (hde : ∀ p, p < yn Y 5 → zb (nv N 28 s 5) p = true → nv N 29 p 4 = nI s) {w ft : Int32} {κ : mM → Prop} (h : ∀ S' M', mR g Y S' M' → mWs Y S' → cK Y S0 Y S' → RC s (nU (nU (nDl N s l (fun _ => ft) (yn Y 5)) 22 l 3 (nCi N s l (yn Y 5)).1) 22 l 4 (nv N 22 l 4 + nDuty N l w)) Y S' → κ M') : ∀ (d j : Nat) (S : mS) (M : mM), mR g Y S M → mWs Y S → cK Y S0 Y S → RC s (nU (nDl N s l (fun _ => ft) j) 22 l 3 (nCi N s l j).1) Y S → j + d = yn Y 5 → wX8_bringDeclared_33 κ (d + 1) (some (yA Y 0 0)) (some (yA Y 4 s)) (some (yA Y 2 l)) (nIn N s l (yn Y 5)) w ft (nI j) M := by
  intro d
  induction d with
  | zero =>
    intro j S M H W K R hj
    have hbd := W.2.1
    have ej : j = yn Y 5 := by omega
    rw [ej] at R
    rw [wX8_bringDeclared_33]
    refine c_hdP H W (by omega) (fun _ => s_gI H hl rfl rfl rfl (s_rc H hl rfl rfl (c_dutyOn H hl ?_))) (fun hlt => absurd hlt (by omega))
    have v : ∀ f, f ≠ 3 → nv (nU (nDl N s l (fun _ => ft) (yn Y 5)) 22 l 3 (nCi N s l (yn Y 5)).1) 22 l f = nv N 22 l f := fun f hf => (nv_U (by omega)).trans (nDl_v (by omega))
    rw [R.2.1 2 l 5 22 4 rfl hl (by omega), R.2.1 2 l 2 22 1 rfl hl (by omega), R.2.1 2 l 1 22 0 rfl hl (by omega), v 4 (by omega), v 1 (by omega), v 0 (by omega)]
    exact s_pI H hl rfl rfl rfl (fun M1 H1 => h _ M1 H1 (W.uI (Or.inl (by omega))) (K.tr (cK.uI (by omega) (by omega) (by decide))) (R.pI (k := 2) (i := l) (f := 5) (k' := 22) (f' := 4) rfl))
  | succ d ih =>
    intro j S M H W K R hj
    have hbd := W.2.1
    have ih' : ∀ S M, mR g Y S M → mWs Y S → cK Y S0 Y S → RC s (nU (nDl N s l (fun _ => ft) (j + 1)) 22 l 3 (nCi N s l (j + 1)).1) Y S → wX8_bringDeclared_33 κ (d + 1) (some (yA Y 0 0)) (some (yA Y 4 s)) (some (yA Y 2 l)) (nIn N s l (yn Y 5)) w ft (nI j + 1) M := fun S M H W K R => by rw [nI_1]; exact ih (j + 1) S M H W K R (by omega)
    rw [wX8_bringDeclared_33]
    refine c_hdP H W (by omega) (fun z => absurd z (by omega)) (fun hlt => ?_)
    have e5 : sI S 4 s 6 = nv N 28 s 5 := ((R.2.2.2.2.2.1 s hs).1 (Or.inl rfl)).trans ((nv_U (by omega)).trans (nDl_v3 (by omega)))
    refine s_gI H hs rfl rfl rfl ?_
    rw [e5]
    refine s_rc H hlt rfl rfl (c_isIn H W hlt (fun zc => br_f (by decide) ?_) (fun zc => br_t rfl (ih' S M H W K ?_)))
    rotate_left
    · have hd : nDc N s j = false := by
        cases q : nDc N s j with
        | false => rfl
        | true => exact absurd ((zb_cIn (by omega)).mpr (nDc_i.mp q).2) zc
      rw [nDl_s0 hd, nCi_no hd]
      exact R
    have hdc : nDc N s j = true := nDc_i.mpr ⟨hde j hlt ((zb_cIn (by omega)).mp zc), (zb_cIn (by omega)).mp zc⟩
    have inI := nIn_zb (N := N) (s := s) (to := l) (yn Y 5) (by omega) j (by omega)
    refine s_rc H hlt rfl rfl (c_isIn H W hlt (fun zi => br_f (by decide) ?_) (fun zi => br_t rfl ?_))
    · have hb := (inI.mp ((zb_cIn (by omega)).mp zi)).2.2
      have eD := nDl_s2 (ft := fun _ => ft) hdc hb
      have eC := nCi_in hdc hb
      refine s_pI H hlt rfl rfl rfl (fun M1 H1 => ?_)
      have R1 := R.pI (k := 5) (i := j) (f := 4) (k' := 29) (f' := 3) (v := ft) rfl
      rw [nU_U (k := 22) (k' := 29) (by omega), ← eD] at R1
      have ed : sI (uI S 5 j 4 ft) 5 j 3 = nv N 29 j 2 := (R1.2.1 5 j 3 29 2 rfl hlt (by omega)).trans ((nv_U (by omega)).trans (nDl_v3 (by omega)))
      refine s_rc H1 hlt rfl rfl (c_isNightmare H1 hlt (fun zn => br_f (by decide) ?_) (fun zn => br_t rfl (ih' _ M1 H1 (W.uI (Or.inl (by omega))) (K.tr (cK.uI (by omega) (by omega) (by decide))) ?_)))
      · rw [ed] at zn
        refine s_gI H1 hl rfl rfl rfl ?_
        rw [R1.2.1 2 l 4 22 3 rfl hl (by omega), nv_U_s]
        refine s_pI H1 hl rfl rfl rfl (fun M2 H2 => ih' _ M2 H2 ((W.uI (Or.inl (by omega))).uI (Or.inl (by omega))) ((K.tr (cK.uI (by omega) (by omega) (by decide))).tr (cK.uI (by omega) (by omega) (by decide))) ?_)
        have R2 := R1.pI (k := 2) (i := l) (f := 4) (k' := 22) (f' := 3) (v := (nCi N s l j).1 + 1) rfl
        rw [nU_s] at R2
        rw [eC, if_neg zn]
        exact R2
      · rw [ed] at zn
        rw [eC, if_pos zn]
        show RC s (nU _ 22 l 3 ((nCi N s l j).1 + 0)) Y _
        rw [Int32.add_zero]
        exact R1
    · have hb : nBk N s l j = true := by
        cases q : nBk N s l j with
        | true => rfl
        | false => exact absurd ((zb_cIn (by omega)).mpr (inI.mpr ⟨hlt, hdc, q⟩)) zi
      have eD := nDl_s1 (ft := fun _ => ft) hdc hb
      have hl' := H.lN (k := 4) (f := 2) (kt := 2) hs rfl
      have el : nv N 28 s 0 = nI (sN S 4 s 2) := ((nv_U (by omega)).trans (nDl_v3 (by omega))).symm.trans (R.2.2.2.1 s hs)
      refine s_gR2 H hs rfl rfl rfl (s_rc H hlt rfl rfl (c_store H hlt hl' (fun M1 H1 => ih' _ M1 H1 (((W.uX).uX).uI (Or.inl (by omega))) (((K.tr (cK.uX (by omega) (by omega))).tr (cK.uX (by omega) (by omega))).tr (cK.uI (by omega) (by omega) (by decide))) ?_)))
      have R1 := R.hd (o := none) hlt (fun _ => rfl)
      have R2 := R1.st (o := some (sN S 4 s 2)) hlt (fun _ => sX_uX_s)
      rw [nU_s] at R2
      have R3 := R2.pI (k := 5) (i := j) (f := 4) (k' := 29) (f' := 3) (v := 5) rfl
      rw [nU_U (k := 22) (k' := 29) (f' := 4) (by omega), nU_U (k := 22) (k' := 29) (f' := 3) (by omega)] at R3
      rw [nCi_bk hb, eD, el, nI_100]
      exact R3
theorem C_bringDeclared {Y : mY} {S : mS} {M : mM} {N : mN} (H : mR g Y S M) (W : mWs Y S) {s l : Nat} (R : RC s N Y S) (hs : s < yn Y 4) (hl : l < yn Y 2) (hde : ∀ p, p < yn Y 5 → zb (nv N 28 s 5) p = true → nv N 29 p 4 = nI s) {κ : mM → Prop} (h : ∀ S' M', mR g Y S' M' → mWs Y S' → cK Y S Y S' → RC s (nCd N s l (yn Y 5)) Y S' → κ M') : wX8_bringDeclared κ (some (yA Y 0 0)) (some (yA Y 4 s)) (some (yA Y 2 l)) M := by
  have hbd := W.2.1
  have e5 : sI S 4 s 6 = nv N 28 s 5 := (R.2.2.2.2.2.1 s hs).1 (Or.inl rfl)
  have e0 : nU (nDl N s l (fun _ => if nv N 22 l 1 < (nCi N s l (yn Y 5)).2 then 1 else 2) 0) 22 l 3 (nCi N s l 0).1 = N := by
    rw [nDl_0]
    exact nU_same
  have h28 : ∀ ft, ft = (if nv N 22 l 1 < (nCi N s l (yn Y 5)).2 then 1 else 2) → wX8_bringDeclared_28 κ (some (yA Y 0 0)) (some (yA Y 4 s)) (some (yA Y 2 l)) (nIn N s l (yn Y 5)) (nCi N s l (yn Y 5)).2 ft M := fun ft e => by
    subst e
    exact ⟨yn Y 5 + 1, C_bd33 hs hl hde h (yn Y 5) 0 S M H W (cK.rf Y S) (by rw [e0]; exact R) (by omega)⟩
  refine s_rc H W.x0 rfl rfl (C_comeIn H W R hs hl e5 hde (s_rc H W.x0 rfl rfl (C_worthOf H W R (s_gI H hl rfl rfl rfl ?_))))
  rw [nWo_eq (by omega) _ (Nat.le_refl _), R.2.1 2 l 2 22 1 rfl hl (by omega)]
  exact br_c (fun z => h28 1 (if_pos z).symm) (fun z => h28 2 (if_neg z).symm)
theorem C_ct38 {Y : mY} {S : mS} {M : mM} {N : mN} (H : mR g Y S M) (W : mWs Y S) {s l : Nat} (R : RC s N Y S) (hs : s < yn Y 4) (hl : l < yn Y 2) {nt : Nat} (hnt : nt < 128) (hN : nv N 20 0 1 = nI nt) (hdr : ∀ p, p < yn Y 5 → ∃ d, d < 128 ∧ nv N 29 p 0 = nI d) (hde : ∀ p, p < yn Y 5 → zb (nv N 28 s 5) p = true → nv N 29 p 4 = nI s) {sr : Int32} {κ : Int32 → mM → Prop} (h : ∀ Y' S' M', mR g Y' S' M' → mWs Y' S' → cK Y S Y' S' → RC s (nCt N s l sr).1 Y' S' → κ (nCt N s l sr).2 M') : wX8_comeThrough_38 g κ (some (yA Y 0 0)) (some (yA Y 4 s)) (some (yA Y 2 l)) sr M := by
  unfold nCt at h
  rw [← R.1.2.2] at h
  refine s_rc H W.x0 rfl rfl (C_bringHidden H W R hs hl hnt hN hdr (fun Y1 S1 M1 H1 W1 K1 R1 => ?_))
  have hs1 : s < yn Y1 4 := by rw [K1.2.1 4 (by omega)]; exact hs
  have hl1 : l < yn Y1 2 := by rw [K1.2.1 2 (by omega)]; exact hl
  have n5 : yn Y1 5 = yn Y 5 := K1.2.1 5 (by omega)
  rw [← K1.1.1 4 s hs, ← K1.1.1 2 l hl, ← K1.1.1 0 0 W.x0]
  have eF : nFr N (nBh s l sr (yn Y 5) (N, 0)).1 := nBh_Fr (p := (N, 0)) (yn Y 5)
  refine s_rc H1 W1.x0 rfl rfl (C_bringDeclared H1 W1 R1 hs1 hl1 (fun p hp hz => ?_) (fun S2 M2 H2 W2 K2 R2 => ?_))
  · rw [eF.2.2.2 28 s 5 (by omega) (by omega) (by omega)] at hz
    exact (nBh_d (p := (N, 0)) hz (yn Y 5)).trans (hde p (by omega) hz)
  · rw [n5] at R2
    refine s_pN H2 hs1 rfl rfl rfl hl1 (fun M3 H3 => s_pX0 H3 hs1 rfl rfl rfl (fun M4 H4 => h Y1 _ M4 H4 ((W2.uN).uX) (((K1.tr K2).tr (cK.uN (by omega))).tr (cK.uX (by omega) (by omega))) ?_))
    exact (R2.land (s := s) (l := l)).noPass
theorem nDraw_v {N : mN} {t k i f : Nat} (h : ¬ (k = 20 ∧ (f = 3 ∨ f = 4))) : nv (nDraw N t) k i f = nv N k i f := by
  unfold nDraw
  split
  · rw [nv_U (by omega), nv_U (by omega)]
  · rfl
theorem C_comeThrough {Y : mY} {S : mS} {M : mM} {N : mN} (H : mR g Y S M) (W : mWs Y S) {s t : Nat} (R : RC s N Y S) (hs : s < yn Y 4) (ht : t < yn Y 3) {nt : Nat} (hnt : nt < 128) (hN : nv N 20 0 1 = nI nt) (hdr : ∀ p, p < yn Y 5 → ∃ d, d < 128 ∧ nv N 29 p 0 = nI d) (hde : ∀ p, p < yn Y 5 → zb (nv N 28 s 5) p = true → nv N 29 p 4 = nI s) {κ : Int32 → mM → Prop} (h : ∀ Y' S' M', mR g Y' S' M' → mWs Y' S' → cK Y S Y' S' → RC s (nCome N s t).1 Y' S' → κ (nCome N s t).2 M') : wX8_comeThrough g κ (some (yA Y 0 0)) (some (yA Y 4 s)) (some (yA Y 3 t)) M := by
  have hsl := H.lN (k := 4) (f := 2) (kt := 2) hs rfl
  have hl := c_acr_l H ht (l := sN S 4 s 2)
  have b0 := W.l2' hsl
  have b1 := W.l2' (H.lN (k := 3) (f := 1) (kt := 2) ht rfl)
  have b2 := W.l2' (H.lN (k := 3) (f := 2) (kt := 2) ht rfl)
  have eTo : nTo N s t = cAcr S t (sN S 4 s 2) := by
    unfold nTo cAcr
    rw [(R.2.2.1 t ht).1, (R.2.2.1 t ht).2.1, R.2.2.2.1 s hs]
    by_cases z : sN S 4 s 2 = sN S 3 t 1
    · rw [if_pos z, if_pos (by rw [z]), tN_nI (by omega)]
    · rw [if_neg z, if_neg (fun w => z ((nI_eq (by omega) (by omega)).mp w).symm), tN_nI (by omega)]
  unfold nCome at h
  rw [eTo] at h
  have edz : sI S 3 t 9 = nv N 23 t 5 := R.2.1 3 t 9 23 5 rfl ht (by omega)
  refine s_gR2 H hs rfl rfl rfl (s_rc H ht rfl rfl (c_across H ht hsl (s_rc H ht rfl rfl (c_dozes H ht (fun zd => br_f (by decide) ?_) (fun zd => br_t rfl ?_)))))
  · rw [edz] at zd
    have e1 : nDraw N t = N := if_neg zd
    have e2 : nSr N t = 0 := if_neg zd
    rw [e1, e2] at h
    exact C_ct38 H W R hs hl hnt hN hdr hde h
  · rw [edz] at zd
    have e1 : nDraw N t = nU (nU N 20 0 3 (m_rem (21 * nv N 20 0 3 + 11) 4096)) 20 0 4 (nv N 20 0 4 + 1) := if_pos zd
    have e2 : nSr N t = if nv N 23 t 4 ≤ m_rem (nv N 20 0 3) 10 then 0 else 1 := if_pos zd
    have en : sI S 7 0 1 = nv N 20 0 3 := R.2.1 7 0 1 20 3 rfl W.l7 (by omega)
    refine s_gR6 H W.x0 rfl rfl rfl (s_rc H W.l7 rfl rfl (s_gI H W.l7 rfl rfl rfl ?_))
    rw [en]
    refine s_pI H W.l7 rfl rfl rfl (fun M1 H1 => s_gI H1 W.l7 rfl rfl rfl ?_)
    have R1 := R.pI (k := 7) (i := 0) (f := 1) (k' := 20) (f' := 3) (v := m_rem (21 * nv N 20 0 3 + 11) 4096) rfl
    rw [R1.2.1 7 0 0 20 4 rfl W.l7 (by omega), nv_U (by omega)]
    refine s_pI H1 W.l7 rfl rfl rfl (fun M2 H2 => ?_)
    have R2 := R1.pI (k := 7) (i := 0) (f := 0) (k' := 20) (f' := 4) (v := nv N 20 0 4 + 1) rfl
    rw [← e1] at R2
    have W2 : mWs Y (uI (uI S 7 0 1 (m_rem (21 * nv N 20 0 3 + 11) 4096)) 7 0 0 (nv N 20 0 4 + 1)) := (W.uI (Or.inr (by omega))).uI (Or.inr (by omega))
    have K2 : cK Y S Y (uI (uI S 7 0 1 (m_rem (21 * nv N 20 0 3 + 11) 4096)) 7 0 0 (nv N 20 0 4 + 1)) := (cK.uI (by omega) (by omega) (by decide)).tr (cK.uI (by omega) (by omega) (by decide))
    have go : ∀ sr, sr = nSr N t → wX8_comeThrough_38 g κ (some (yA Y 0 0)) (some (yA Y 4 s)) (some (yA Y 2 (cAcr S t (sN S 4 s 2)))) sr M2 := fun sr e => by
      subst e
      refine C_ct38 H2 W2 R2 hs hl hnt ((nDraw_v (by omega)).trans hN) (fun p hp => ?_) (fun p hp hz => ?_) (fun Y' S' M' a b c d => h Y' S' M' a b (K2.tr c) d)
      · rw [nDraw_v (by omega)]
        exact hdr p hp
      · rw [nDraw_v (by omega)] at hz ⊢
        exact hde p hp hz
    refine s_gI H2 ht rfl rfl rfl ?_
    rw [show sI (uI (uI S 7 0 1 (m_rem (21 * nv N 20 0 3 + 11) 4096)) 7 0 0 (nv N 20 0 4 + 1)) 3 t 8 = nv N 23 t 4 from (R2.2.1 3 t 8 23 4 rfl ht (by omega)).trans (nDraw_v (by omega))]
    exact br_c (fun z => go 0 (by rw [e2, if_pos z])) (fun z => go 1 (by rw [e2, if_neg z]))
end SIM18
