/-! THE PURE SIDE, 12: the reference's methods that only read -/
section VREAD
variable {g : Nat → Nat} {Y : mY} {S : mS} {M : mM}
theorem v_head_l (H : mR g Y S M) (V : mVs Y S) (VV : mVv Y S) {s : Int32} {κ : Int32 → mM → Prop} (h : ∀ x, κ x M) : ∀ (d j : Nat) (a : Int32), j + d = yn Y 29 → wX14_head_4 κ (d + 1) (some (yA Y 20 0)) s a (nI j) M := by
  intro d
  induction d with
  | zero =>
    intro j a hj
    rw [wX14_head_4]
    exact v_hdP H V (by omega) (fun _ => h _) (fun hlt => absurd hlt (by omega))
  | succ d ih =>
    intro j a hj
    have ih' : ∀ (a : Int32), wX14_head_4 κ (d + 1) (some (yA Y 20 0)) s a (nI j + 1) M := fun a => by rw [nI_1]; exact ih (j + 1) a (by omega)
    rw [wX14_head_4]
    refine v_hdP H V (by omega) (fun z => absurd z (by omega)) (fun hlt => ?_)
    exact s_gI H hlt rfl rfl rfl (br_c (fun _ => ih' _) (fun _ => ih' _))
theorem v_head (H : mR g Y S M) (V : mVs Y S) (VV : mVv Y S) {s : Int32} {κ : Int32 → mM → Prop} (h : ∀ x, κ x M) : wX14_head κ (some (yA Y 20 0)) s M := ⟨yn Y 29 + 1, v_head_l H V VV  h (yn Y 29) 0 0 (by omega)⟩
theorem v_landOf (H : mR g Y S M) (V : mVs Y S) (VV : mVv Y S) {p : Nat} (hp : p < yn Y 29) {κ : Int32 → mM → Prop} (h : ∀ x, κ x M) : wX14_landOf κ (some (yA Y 20 0)) (some (yA Y 29 p)) M := by
  have hb := V.2.1
  obtain ⟨a, ea, ha⟩ := VV.1 29 p 4 hp
  refine s_gI H hp rfl rfl rfl (br_c (fun _ => h _) (fun z => s_gI H hp rfl rfl rfl (br_c (fun w => ?_) (fun _ => s_gI H hp rfl rfl rfl (h _)))))
  refine s_gR6 H V.x0 rfl rfl rfl (s_gI H hp rfl rfl rfl ?_)
  rw [ea] at z w ⊢
  have ha2 : a < yn Y 28 := by
    rcases ha with ha | ha | ha
    · exact ha
    · have := (nI_ltI (b := 100) (by omega) (by omega)).mp w
      omega
    · exact absurd (by rw [ha]; rfl) z
  exact s_rcL H rfl (V.l24 (by omega)) (v_gtS H V ha2 (s_cast H ha2 rfl rfl (s_gI H ha2 rfl rfl rfl (h _))))
theorem v_wh19 (H : mR g Y S M) (V : mVs Y S) (VV : mVv Y S) {l a dr : Int32} {κ : Int32 → mM → Prop} {R4 : Option Nat → Int32 → Int32 → Int32 → mM → Prop} (hR : ∀ x, R4 (some (yA Y 20 0)) l x (dr + 1) M) : ∀ (d j : Nat) (b c : Int32), j + d = yn Y 29 → wX14_wholes_19 κ R4 (d + 1) (some (yA Y 20 0)) l a dr b c (nI j) M := by
  have h109 : ∀ x, wX14_wholes_109 κ R4 (some (yA Y 20 0)) l dr x M := fun x => hR _
  have h110 : ∀ x y, wX14_wholes_110 κ R4 (some (yA Y 20 0)) l dr x y M := fun x y => hR _
  intro d
  induction d with
  | zero =>
    intro j b c hj
    rw [wX14_wholes_19]
    exact v_hdP H V (by omega) (fun _ => br_c (fun _ => h109 _) (fun _ => br_c (fun _ => h109 _) (fun _ => h110 _ _))) (fun hlt => absurd hlt (by omega))
  | succ d ih =>
    intro j b c hj
    have ih' : ∀ b c : Int32, wX14_wholes_19 κ R4 (d + 1) (some (yA Y 20 0)) l a dr b c (nI j + 1) M := fun b c => by rw [nI_1]; exact ih (j + 1) b c (by omega)
    rw [wX14_wholes_19]
    refine v_hdP H V (by omega) (fun z => absurd z (by omega)) (fun hlt => ?_)
    refine s_gI H hlt rfl rfl rfl (br_c (fun _ => ?_) (fun _ => ih' _ _))
    exact v_Pt H V hlt (s_rc H V.x0 rfl rfl (v_landOf H V VV hlt (fun x => br_c (fun _ => ih' _ _) (fun _ => ih' _ _))))
theorem v_wholes (H : mR g Y S M) (V : mVs Y S) (VV : mVv Y S) {l : Int32} {κ : Int32 → mM → Prop} (h : ∀ x, κ x M) : wX14_wholes κ (some (yA Y 20 0)) l M := by
  have hl : ∀ (d j : Nat) (a : Int32), j + d = 8 → wX14_wholes_4 κ (d + 1) (some (yA Y 20 0)) l a (nI j) M := by
    intro d
    induction d with
    | zero =>
      intro j a hj
      rw [wX14_wholes_4]
      exact br_t (show (8 : Int32) ≤ nI j from nI_le (a := 8) (by omega) (by omega)) (h _)
    | succ d ih =>
      intro j a hj
      rw [wX14_wholes_4]
      exact br_f (show ¬ (8 : Int32) ≤ nI j from nI_ge (b := 8) (by omega) (by omega)) ⟨yn Y 29 + 1, v_wh19 H V VV (fun x => by rw [nI_1]; exact ih (j + 1) x (by omega)) (yn Y 29) 0 0 1 (by omega)⟩
  exact ⟨9, hl 8 0 0 (by omega)⟩
theorem v_ol89_l (H : mR g Y S M) (V : mVs Y S) (VV : mVv Y S) {l : Int32} {κ : Int32 → mM → Prop} (h : ∀ x, κ x M) : ∀ (d j : Nat) (a : Int32), j + d = yn Y 29 → wX14_ofLandNow_89 κ (d + 1) (some (yA Y 20 0)) l a (nI j) M := by
  intro d
  induction d with
  | zero =>
    intro j a hj
    rw [wX14_ofLandNow_89]
    exact v_hdP H V (by omega) (fun _ => h _) (fun hlt => absurd hlt (by omega))
  | succ d ih =>
    intro j a hj
    have ih' : ∀ (a : Int32), wX14_ofLandNow_89 κ (d + 1) (some (yA Y 20 0)) l a (nI j + 1) M := fun a => by rw [nI_1]; exact ih (j + 1) a (by omega)
    rw [wX14_ofLandNow_89]
    refine v_hdP H V (by omega) (fun z => absurd z (by omega)) (fun hlt => ?_)
    exact s_gI H hlt rfl rfl rfl (br_c (fun _ => ih' _) (fun _ => ih' _))
theorem v_ol145_l (H : mR g Y S M) (V : mVs Y S) (VV : mVv Y S) {l : Int32} {κ : Int32 → mM → Prop} (h : ∀ x, κ x M) : ∀ (d j : Nat) (a : Int32), j + d = yn Y 28 → wX14_ofLandNow_145 κ (d + 1) (some (yA Y 20 0)) l a (nI j) M := by
  intro d
  induction d with
  | zero =>
    intro j a hj
    rw [wX14_ofLandNow_145]
    exact v_hdS H V (by omega) (fun _ => h _) (fun hlt => absurd hlt (by omega))
  | succ d ih =>
    intro j a hj
    have ih' : ∀ (a : Int32), wX14_ofLandNow_145 κ (d + 1) (some (yA Y 20 0)) l a (nI j + 1) M := fun a => by rw [nI_1]; exact ih (j + 1) a (by omega)
    rw [wX14_ofLandNow_145]
    refine v_hdS H V (by omega) (fun z => absurd z (by omega)) (fun hlt => ?_)
    refine s_gI H hlt rfl rfl rfl (br_c (fun _ => ?_) (fun _ => ih' _))
    exact v_S H V hlt (s_gI H hlt rfl rfl rfl (br_c (fun _ => ih' _) (fun _ => ih' _)))
theorem v_ofLandNow (H : mR g Y S M) (V : mVs Y S) (VV : mVv Y S) {l : Nat} (hl6 : l < 6) {b : Int32} {κ : Int32 → mM → Prop} (h : ∀ x, κ x M) : wX14_ofLandNow κ (some (yA Y 20 0)) (nI l) b M := by
  have hl := V.l22 hl6
  refine v_Ld H V hl6 ?_
  exact br_c (fun _ => s_gI H hl rfl rfl rfl (h _)) (fun q0 => br_c (fun _ => s_gI H hl rfl rfl rfl (h _)) (fun q1 => br_c (fun _ => s_gI H hl rfl rfl rfl (h _)) (fun q2 => br_c (fun _ => s_gI H hl rfl rfl rfl (h _)) (fun q3 => br_c (fun _ => s_gI H hl rfl rfl rfl (h _)) (fun q4 => br_c (fun _ => s_gI H hl rfl rfl rfl (h _)) (fun q5 => br_c (fun _ => ⟨yn Y 29 + 1, v_ol89_l H V VV h (yn Y 29) 0 0 (by omega)⟩) (fun q6 => br_c (fun _ => ⟨yn Y 28 + 1, v_ol145_l H V VV h (yn Y 28) 0 0 (by omega)⟩) (fun q7 => s_rc H V.x0 rfl rfl (v_wholes H V VV h)))))))))
theorem v_good (H : mR g Y S M) (V : mVs Y S) (VV : mVv Y S) {s t : Nat} (hs : s < yn Y 28) (ht : t < yn Y 23) {κ : Int32 → mM → Prop} (h1 : κ 1 M) (h0 : κ 0 M) : wX14_isGoodNow κ (some (yA Y 20 0)) (nI s) (nI t) M := by
  refine v_S H V hs (s_gI H hs rfl rfl rfl (br_c (fun _ => h0) (fun z => s_gI H hs rfl rfl rfl (br_c (fun _ => ?_) (fun _ => h0)))))
  refine s_gI H hs rfl rfl rfl (s_gI H V.x0 rfl rfl rfl (br_c (fun _ => ?_) (fun _ => h0)))
  refine v_G H V ht (s_gI H hs rfl rfl rfl (s_gI H V.x0 rfl rfl rfl (show wX14_right _ _ _ _ _ from s_rc H ht rfl rfl (v_dozes H ht (br_f (by decide) (br_c (fun _ => h0) (fun _ => h1))) (br_t rfl (br_c (fun _ => ?_) (fun _ => h0)))))))
  rcases VV.1 28 s 8 hs with e | ⟨a, ha, e⟩
  · exact absurd e z
  · refine s_gR7 H ht rfl rfl rfl (s_gI H hs rfl rfl rfl ?_)
    rw [e]
    exact s_ldI H (V.l26 ht) rfl (by decide) rfl (by rw [V.2.2.2.2.2.2.1 t ht]; exact ha) (by rw [V.2.2.2.2.2.2.1 t ht]; omega) (br_c (fun _ => h1) (fun _ => h0))
/-- hidden worth: no more than 99 for each part -/
theorem v_hw_l (H : mR g Y S M) (V : mVs Y S) (VV : mVv Y S) {t : Nat} (ht : t < yn Y 23) {κ : Int32 → mM → Prop} (h : ∀ w, w ≤ 2376 → κ (nI w) M) : ∀ (d j a : Nat), j + d = yn Y 29 → a ≤ 99 * j → wX14_hiddenWorth_4 κ (d + 1) (some (yA Y 20 0)) (some (yA Y 23 t)) (nI a) (nI j) M := by
  have hb := V.2.1
  intro d
  induction d with
  | zero =>
    intro j a hj ha
    rw [wX14_hiddenWorth_4]
    exact v_hdP H V (by omega) (fun _ => h a (by omega)) (fun hlt => absurd hlt (by omega))
  | succ d ih =>
    intro j a hj ha
    have ih' : ∀ a, a ≤ 99 * (j + 1) → wX14_hiddenWorth_4 κ (d + 1) (some (yA Y 20 0)) (some (yA Y 23 t)) (nI a) (nI j + 1) M := fun a ha => by rw [nI_1]; exact ih (j + 1) a (by omega) ha
    have ih0 := ih' a (by omega)
    rw [wX14_hiddenWorth_4]
    refine v_hdP H V (by omega) (fun z => absurd z (by omega)) (fun hlt => ?_)
    obtain ⟨at', ea, hat⟩ := VV.1 29 j 4 hlt
    obtain ⟨wt, hwt, ew⟩ := VV.1 29 j 1 hlt
    refine s_gI H hlt rfl rfl rfl ?_
    rw [ea]
    refine br_c (fun _ => ih0) (fun z => ?_)
    have ha2 : at' < yn Y 28 := by
      rcases hat with hat | hat | hat
      · exact hat
      · exact absurd (show (100 : Int32) ≤ nI at' from nI_le (a := 100) (by omega) (by omega)) z
      · exact absurd (show (100 : Int32) ≤ nI at' from nI_le (a := 100) (by omega) (by omega)) z
    refine s_rc H ht rfl rfl (v_place H V ht (by omega) (fun i hi => br_c (fun _ => ih0) (fun _ => ?_)) (fun _ => br_t rfl ih0))
    refine v_S H V ha2 (s_gI H ha2 rfl rfl rfl (br_c (fun _ => ?_) (fun _ => ih0)))
    refine v_Pt H V hlt (s_gI H hlt rfl rfl rfl ?_)
    rw [ew]
    show wX14_hiddenWorth_4 κ (d + 1) _ _ (nI a + nI wt) (nI j + 1) M
    rw [nI_add]
    exact ih' (a + wt) (by omega)
theorem v_hw (H : mR g Y S M) (V : mVs Y S) (VV : mVv Y S) {t : Nat} (ht : t < yn Y 23) {κ : Int32 → mM → Prop} (h : ∀ w, w ≤ 2376 → κ (nI w) M) : wX14_hiddenWorth κ (some (yA Y 20 0)) (some (yA Y 23 t)) M := ⟨yn Y 29 + 1, v_hw_l H V VV ht h (yn Y 29) 0 0 (by omega) (by omega)⟩
theorem v_og175 (H : mR g Y S M) (V : mVs Y S) {t : Nat} (ht : t < yn Y 23) {κ : Int32 → mM → Prop} (h : ∀ x, κ x M) : ∀ (d j : Nat) (a : Int32), j + d = 97 → wX14_ofGateNow_175 κ (d + 1) a (some (yA Y 26 t)) (nI 97) (nI j) M := by
  intro d
  induction d with
  | zero =>
    intro j a hj
    rw [wX14_ofGateNow_175]
    exact br_t (nI_le (by omega) (by omega)) (h _)
  | succ d ih =>
    intro j a hj
    have ih' : ∀ a : Int32, wX14_ofGateNow_175 κ (d + 1) a (some (yA Y 26 t)) (nI 97) (nI j + 1) M := fun a => by rw [nI_1]; exact ih (j + 1) a (by omega)
    rw [wX14_ofGateNow_175]
    exact br_f (nI_ge (by omega) (by omega)) (s_ldI H (V.l26 ht) rfl (by decide) rfl (by rw [V.2.2.2.2.2.2.1 t ht]; omega) (by rw [V.2.2.2.2.2.2.1 t ht]; omega) (br_c (fun _ => ih' _) (fun _ => ih' _)))
theorem v_first (H : mR g Y S M) (V : mVs Y S) {t : Nat} (ht : t < yn Y 23) (hn : sL S 25 t ≠ []) {κ : Option Nat → mM → Prop} (h : ∀ s, s < 128 → (sL S 25 t)[0]? = some s → κ (some (yA Y 30 s)) M) : wJx4a65c_get_915e3 κ (some (yA Y 25 t)) 0 M := by
  have hl : 0 < (sL S 25 t).length := List.length_pos_iff.mpr hn
  have hx : (sL S 25 t)[0]? = some ((sL S 25 t)[0]) := List.getElem?_eq_getElem hl
  exact s_get (j := 0) H rfl (V.l25 ht) hx (h _ (by have := H.lL rfl (V.l25 ht) hx; rw [show m_ek 25 t = 30 from rfl, V.1.2.2.2.2.2.1] at this; exact this) hx)
theorem v_ofGateNow (H : mR g Y S M) (V : mVs Y S) (VV : mVv Y S) {t : Nat} (ht : t < yn Y 23) {b : Int32} {κ : Int32 → mM → Prop} (h : ∀ x, κ x M) : wX14_ofGateNow κ (some (yA Y 20 0)) (nI t) b M := by
  refine v_G H V ht ?_
  exact br_c (fun _ => s_gI H ht rfl rfl rfl (h _)) (fun q0 => br_c (fun _ => s_gI H ht rfl rfl rfl (h _)) (fun q1 => br_c (fun _ => s_gI H V.x0 rfl rfl rfl (s_rc H ht rfl rfl (v_isOpen H ht (br_f (by decide) (h _)) (br_t rfl (h _))))) (fun q2 => br_c (fun _ => s_gI H ht rfl rfl rfl (h _)) (fun q3 => br_c (fun _ => s_gI H ht rfl rfl rfl (h _)) (fun q4 => br_c (fun _ => s_rc H ht rfl rfl (v_dozes H ht (br_f (by decide) (h _)) (br_t rfl (h _)))) (fun q5 => br_c (fun _ => s_gR7 H ht rfl rfl rfl (s_rcL H rfl (V.l25 ht) (s_size H rfl (V.l25 ht) (h _)))) (fun q6 => br_c (fun _ => s_gR7 H ht rfl rfl rfl (s_rcL H rfl (V.l25 ht) (s_isEmpty H rfl (V.l25 ht) (fun _ => br_f (by decide) (h _)) (fun z => br_t rfl (s_gR7 H ht rfl rfl rfl (s_rcL H rfl (V.l25 ht) (v_first H V ht z (fun s hs _ => v_int H V hs (h _))))))))) (fun q7 => br_c (fun _ => s_rc H V.x0 rfl rfl (v_hw H V VV ht (fun w _ => h _))) (fun q8 => s_gR7 H ht rfl rfl rfl (s_lenI H (V.l26 ht) (by decide) rfl (by rw [V.2.2.2.2.2.2.1 t ht]; exact ⟨98, v_og175 H V ht h 97 0 0 (by omega)⟩)))))))))))
/-- an element of the hidings -/
theorem v_H (H : mR g Y S M) (V : mVs Y S) {j : Nat} (hj : j < (sL S 24 3).length) {κ : Int32 → mM → Prop} (h : ∀ v, v < 128 → (sL S 24 3)[j]? = some v → κ (nI v) M) : m_gR M (some (yA Y 20 0)) 19 10 fun x6 => m_rc M x6 4 fun b9 => wJx4a65c_get_915e3 (fun x7 M8 => m_cast M8 x7 2 (m_rc M8 x7 2 fun b12 => wJ6_intValue_8abf5 κ (some b12) M8)) (some b9) (nI j) M := by
  have hx : (sL S 24 3)[j]? = some ((sL S 24 3)[j]) := List.getElem?_eq_getElem hj
  generalize (sL S 24 3)[j] = v at hx
  have hv : v < 128 := by have := H.lL rfl (V.l24 (j := 3) (by omega)) hx; rw [show m_ek 24 3 = 30 from rfl, V.1.2.2.2.2.2.1] at this; exact this
  exact s_gR6 H V.x0 rfl rfl rfl (s_rcL H rfl (V.l24 (by omega)) (s_get H rfl (V.l24 (by omega)) hx (v_int H V hv (h v hv hx))))
theorem m_b12 : ∀ w : Nat, w < 12 → ((nI w &&& 31).toBitVec.smod 32).toNat = w := by decide +kernel
theorem m_s12 : ∀ w : Nat, w < 12 → m_shl 1 (nI w) = nI (2 ^ w) := by decide +kernel
theorem m_bit {m w : Nat} (hm : m < 4096) (hw : w < 12) : ((m_shr (nI m) (nI w)) &&& 1) = 1 ↔ m.testBit w = true := by
  unfold m_shr
  rw [pk_shrN (by omega) _ w (m_b12 w hw)]
  have hq : m / 2 ^ w < 4096 := Nat.lt_of_le_of_lt (Nat.div_le_self _ _) hm
  rw [pk_andN (m := 1) (by omega) 1 (by decide), show (1 : Int32) = nI 1 from rfl, nI_eq (by omega) (by omega), Nat.testBit_eq_decide_div_mod_eq]
  simp
theorem m_or (a b : Nat) : nI a ||| nI b = nI (a ||| b) := by
  apply Int32.toBitVec_inj.mp
  rw [Int32.toBitVec_or]
  show BitVec.ofNat 32 a ||| BitVec.ofNat 32 b = BitVec.ofNat 32 (a ||| b)
  apply BitVec.eq_of_toNat_eq
  simp [Nat.or_mod_two_pow]
theorem v_rg55 (H : mR g Y S M) (V : mVs Y S) {n k m0 : Nat} (hn : (sL S 24 3).length = 3 * n) (hn40 : n ≤ 40) (hk : k < n) {κ : Int32 → mM → Prop} {R6 : Option Nat → Int32 → Int32 → mM → Prop} {R15 : Option Nat → Int32 → Int32 → Int32 → mM → Prop} (hR : ∀ m l3, m < 4096 → (l3 = 0 ∧ m = m0) ∨ (l3 = 1 ∧ m0 < m) → R15 (some (yA Y 20 0)) (nI m) l3 (nI (3 * k) + 3) M) : ∀ (d j m : Nat) (l3 : Int32), j + d = n → m < 4096 → (l3 = 0 ∧ m = m0) ∨ (l3 = 1 ∧ m0 < m) → wX14_ring_55 κ R6 R15 (d + 1) (some (yA Y 20 0)) (nI m) l3 (nI (3 * k)) (nI (3 * j)) M := by
  have hb := V.2.1
  obtain ⟨hh, hh1, hh2, hsl⟩ := V.2.2.1.2.2.2
  intro d
  induction d with
  | zero =>
    intro j m l3 hj hm hi
    rw [wX14_ring_55]
    exact s_gR6 H V.x0 rfl rfl rfl (s_rcL H rfl (V.l24 (by omega)) (v_szH H V (br_t (by rw [hn]; exact nI_le (by omega) (by omega)) (hR m l3 hm hi))))
  | succ d ih =>
    intro j m l3 hj hm hi
    have ih' : ∀ (m : Nat) (l3 : Int32), m < 4096 → (l3 = 0 ∧ m = m0) ∨ (l3 = 1 ∧ m0 < m) → wX14_ring_193 κ R6 R15 (wX14_ring_55 κ R6 R15 (d + 1)) (some (yA Y 20 0)) (nI m) l3 (nI (3 * k)) (nI (3 * j)) M := fun m l3 hm hi => by
      unfold wX14_ring_193
      rw [show (3 : Int32) = nI 3 from rfl, nI_add, show 3 * j + 3 = 3 * (j + 1) by omega]
      exact ih (j + 1) m l3 (by omega) hm hi
    rw [wX14_ring_55]
    refine s_gR6 H V.x0 rfl rfl rfl (s_rcL H rfl (V.l24 (by omega)) (v_szH H V (br_f (by rw [hn]; exact nI_ge (by omega) (by omega)) ?_)))
    refine v_H H V (by omega) (fun who hwho hxw => ?_)
    have hw12 : who < 12 := by have := hsl j who hxw; omega
    rw [nI_1 (3 * k), nI_1 (3 * j), show (2 : Int32) = nI 2 from rfl, nI_add (3 * k) 2, nI_add (3 * j) 2]
    refine v_H H V (by omega) (fun dr hdr _ => v_H H V (by omega) (fun n1 hn1 _ => v_H H V (by omega) (fun n2 hn2 _ => br_c (fun _ => ih' m l3 hm hi) (fun z => ?_))))
    refine v_H H V (by omega) (fun dr2 hdr2 _ => br_c (fun _ => br_c (fun _ => ?_) (fun _ => ih' m l3 hm hi)) (fun _ => ih' m l3 hm hi))
    have hnb : m.testBit who = false := by
      cases hc : m.testBit who with
      | false => rfl
      | true => exact absurd ((m_bit hm hw12).mpr hc) z
    rw [m_s12 who hw12, m_or]
    refine ih' _ 1 (Nat.or_lt_two_pow (n := 12) hm (Nat.pow_lt_pow_right (by omega) hw12)) (Or.inr ⟨rfl, ?_⟩)
    have h1 : m ≤ m ||| 2 ^ who := Nat.left_le_or
    have h2 : m ≠ m ||| 2 ^ who := fun e => by
      have := congrArg (fun q => q.testBit who) e
      simp [hnb] at this
    rcases hi with ⟨_, e⟩ | ⟨_, e⟩ <;> omega
theorem v_rg15 (H : mR g Y S M) (V : mVs Y S) {n m0 : Nat} (hn : (sL S 24 3).length = 3 * n) (hn40 : n ≤ 40) {κ : Int32 → mM → Prop} {R6 : Option Nat → Int32 → Int32 → mM → Prop} (hR : ∀ m l3, m < 4096 → (l3 = 0 ∧ m = m0) ∨ (l3 = 1 ∧ m0 < m) → R6 (some (yA Y 20 0)) (nI m) l3 M) : ∀ (d j m : Nat) (l3 : Int32), j + d = n → m < 4096 → (l3 = 0 ∧ m = m0) ∨ (l3 = 1 ∧ m0 < m) → wX14_ring_15 κ R6 (d + 1) (some (yA Y 20 0)) (nI m) l3 (nI (3 * j)) M := by
  intro d
  induction d with
  | zero =>
    intro j m l3 hj hm hi
    rw [wX14_ring_15]
    exact s_gR6 H V.x0 rfl rfl rfl (s_rcL H rfl (V.l24 (by omega)) (v_szH H V (br_t (by rw [hn]; exact nI_le (by omega) (by omega)) (hR m l3 hm hi))))
  | succ d ih =>
    intro j m l3 hj hm hi
    have ih' : ∀ (m : Nat) (l3 : Int32), m < 4096 → (l3 = 0 ∧ m = m0) ∨ (l3 = 1 ∧ m0 < m) → wX14_ring_15 κ R6 (d + 1) (some (yA Y 20 0)) (nI m) l3 (nI (3 * j) + 3) M := fun m l3 hm hi => by
      rw [show (3 : Int32) = nI 3 from rfl, nI_add, show 3 * j + 3 = 3 * (j + 1) by omega]
      exact ih (j + 1) m l3 (by omega) hm hi
    rw [wX14_ring_15]
    refine s_gR6 H V.x0 rfl rfl rfl (s_rcL H rfl (V.l24 (by omega)) (v_szH H V (br_f (by rw [hn]; exact nI_ge (by omega) (by omega)) ?_)))
    refine v_H H V (by omega) (fun who hwho hxw => br_c (fun _ => ih' m l3 hm hi) (fun _ => ?_))
    exact ⟨n + 1, v_rg55 H V hn hn40 (by omega) ih' n 0 m l3 (by omega) hm hi⟩
theorem v_ring (H : mR g Y S M) (V : mVs Y S) {s : Nat} (hs : s < yn Y 28) {κ : Int32 → mM → Prop} (h : ∀ x, κ x M) : wX14_ring κ (some (yA Y 20 0)) (nI s) M := by
  have hb := V.2.1
  obtain ⟨n, hn40, hn, -⟩ := V.2.2.1.2.2.2
  have hl : ∀ (d m : Nat), m < 4096 → 4096 - m ≤ d → wX14_ring_6 κ (d + 1) (some (yA Y 20 0)) (nI m) 1 M := by
    intro d
    induction d with
    | zero => intro m hm hd; omega
    | succ d ih =>
      intro m hm hd
      rw [wX14_ring_6]
      refine br_f (by decide) ⟨n + 1, v_rg15 (m0 := m) H V hn hn40 (fun m' l3 hm' hi => ?_) n 0 m 0 (by omega) hm (Or.inl ⟨rfl, rfl⟩)⟩
      rcases hi with ⟨rfl, rfl⟩ | ⟨rfl, hlt⟩
      · rw [wX14_ring_6]
        exact br_t rfl (h _)
      · exact ih m' hm' (by omega)
  refine ⟨4096 + 1, ?_⟩
  rw [m_s12 s (by omega)]
  exact hl 4096 (2 ^ s) (Nat.pow_lt_pow_right (n := 12) (by omega) (by omega)) (Nat.sub_le _ _)
theorem v_os135 (H : mR g Y S M) (V : mVs Y S) {n : Nat} (hn : (sL S 24 3).length = 3 * n) (hn40 : n ≤ 40) {s : Int32} {κ : Int32 → mM → Prop} (h : ∀ x, κ x M) : ∀ (d j : Nat) (a : Int32), j + d = n → wX14_ofSleeperNow_135 κ (d + 1) (some (yA Y 20 0)) s a (nI (3 * j)) M := by
  intro d
  induction d with
  | zero =>
    intro j a hj
    rw [wX14_ofSleeperNow_135]
    exact s_gR6 H V.x0 rfl rfl rfl (s_rcL H rfl (V.l24 (by omega)) (v_szH H V (br_t (by rw [hn]; exact nI_le (by omega) (by omega)) (h _))))
  | succ d ih =>
    intro j a hj
    have ih' : ∀ a : Int32, wX14_ofSleeperNow_135 κ (d + 1) (some (yA Y 20 0)) s a (nI (3 * j) + 3) M := fun a => by
      rw [show (3 : Int32) = nI 3 from rfl, nI_add, show 3 * j + 3 = 3 * (j + 1) by omega]
      exact ih (j + 1) a (by omega)
    rw [wX14_ofSleeperNow_135]
    refine s_gR6 H V.x0 rfl rfl rfl (s_rcL H rfl (V.l24 (by omega)) (v_szH H V (br_f (by rw [hn]; exact nI_ge (by omega) (by omega)) ?_)))
    exact v_H H V (by omega) (fun who hwho hxw => br_c (fun _ => ih' _) (fun _ => ih' _))
/-- who has a gate stands in its queue -/
def mVg (Y : mY) (S : mS) : Prop := ∀ s, s < yn Y 28 → sI S 28 s 4 = -1 ∨ ∃ t, t < yn Y 23 ∧ sI S 28 s 4 = nI t
theorem v_os4 (H : mR g Y S M) (V : mVs Y S) (VV : mVv Y S) (VQ : mVg Y S) {s : Nat} (hs : s < yn Y 28) {κ : Int32 → mM → Prop} (h : ∀ x, κ x M) : m_gI M (some (yA Y 28 s)) 18 4 fun x14 => ((x14 = (-1) → κ (-1) M) ∧ (¬ (x14 = (-1)) → m_gR M (some (yA Y 20 0)) 19 7 fun x16 => m_gI M (some (yA Y 28 s)) 18 4 fun x17 => m_rc M x16 4 fun b20 => wJx4a65c_get_915e3 (fun x18 M19 => m_cast M19 x18 15 (m_rc M19 x18 15 fun b23 => wX10_place (fun x21 M22 => κ x21 M22) (some b23) (nI s) M19)) (some b20) x17 M)) := by
  have hb := V.2.1
  refine s_gI H hs rfl rfl rfl (br_c (fun _ => h _) (fun z => s_gR6 H V.x0 rfl rfl rfl (s_gI H hs rfl rfl rfl ?_)))
  rcases VQ s hs with e | ⟨t, ht, e⟩
  · exact absurd e z
  · rw [e]
    exact s_rcL H rfl (V.l24 (by omega)) (v_gtG H V ht (s_cast H ht rfl rfl (s_rc H ht rfl rfl (v_place H V ht (by omega) (fun _ _ => h _) (fun _ => h _)))))
theorem v_ofSleeperNow (H : mR g Y S M) (V : mVs Y S) (VV : mVv Y S) (VQ : mVg Y S) {s : Nat} (hs : s < yn Y 28) {b : Int32} {κ : Int32 → mM → Prop} (h : ∀ x, κ x M) : wX14_ofSleeperNow κ (some (yA Y 20 0)) (nI s) b M := by
  obtain ⟨n, hn40, hn, -⟩ := V.2.2.1.2.2.2
  refine v_S H V hs ?_
  exact br_c (fun _ => s_gI H hs rfl rfl rfl (h _)) (fun q0 => br_c (fun _ => s_gI H hs rfl rfl rfl (h _)) (fun q1 => br_c (fun _ => s_gI H hs rfl rfl rfl (h _)) (fun q2 => br_c (fun _ => s_gI H hs rfl rfl rfl (h _)) (fun q3 => br_c (fun _ => v_os4 H V VV VQ hs h) (fun q4 => br_c (fun _ => s_rc H V.x0 rfl rfl (v_head H V VV h)) (fun q5 => br_c (fun _ => s_gI H hs rfl rfl rfl (h _)) (fun q6 => br_c (fun _ => s_rc H V.x0 rfl rfl (v_ring H V hs h)) (fun q7 => ⟨n + 1, v_os135 H V hn hn40 h n 0 0 (by omega)⟩))))))))
theorem v_ofPartNow (H : mR g Y S M) (V : mVs Y S) (VV : mVv Y S) {p : Nat} (hp : p < yn Y 29) {b : Int32} {κ : Int32 → mM → Prop} (h : ∀ x, κ x M) : wX14_ofPartNow κ (some (yA Y 20 0)) (nI p) b M := by
  refine v_Pt H V hp ?_
  exact br_c (fun _ => s_gI H hp rfl rfl rfl (h _)) (fun q0 => br_c (fun _ => s_gI H hp rfl rfl rfl (h _)) (fun q1 => br_c (fun _ => s_gI H hp rfl rfl rfl (h _)) (fun q2 => br_c (fun _ => s_gI H hp rfl rfl rfl (h _)) (fun q3 => br_c (fun _ => s_rc H V.x0 rfl rfl (v_landOf H V VV hp h)) (fun q4 => s_gI H hp rfl rfl rfl (br_c (fun _ => h _) (fun _ => s_gI H hp rfl rfl rfl (h _))))))))
/-- ways -/
theorem v_wn32 (H : mR g Y S M) (V : mVs Y S) {l2 l3 l4 : Int32} {κ : Int32 → mM → Prop} {R7 : Option Nat → Int32 → Int32 → Int32 → mM → Prop} (hR : ∀ x, R7 (some (yA Y 20 0)) l2 x (l4 + 1) M) : ∀ (d j : Nat) (a : Int32), j + d = yn Y 23 → wX14_wayNow_32 κ R7 (d + 1) (some (yA Y 20 0)) l2 l3 l4 a (nI j) M := by
  intro d
  induction d with
  | zero =>
    intro j a hj
    rw [wX14_wayNow_32]
    exact v_hdG H V (by omega) (fun _ => hR _) (fun hlt => absurd hlt (by omega))
  | succ d ih =>
    intro j a hj
    have ih' : ∀ a : Int32, wX14_wayNow_32 κ R7 (d + 1) (some (yA Y 20 0)) l2 l3 l4 a (nI j + 1) M := fun a => by rw [nI_1]; exact ih (j + 1) a (by omega)
    rw [wX14_wayNow_32]
    refine v_hdG H V (by omega) (fun z => absurd z (by omega)) (fun hlt => ?_)
    have h104 : ∀ a : Int32, wX14_wayNow_104 κ R7 (wX14_wayNow_32 κ R7 (d + 1)) (some (yA Y 20 0)) l2 l3 l4 a (nI j) (some (yA Y 23 j)) M := fun a => s_gI H hlt rfl rfl rfl (br_c (fun _ => s_gI H hlt rfl rfl rfl (ih' _)) (fun _ => ih' _))
    exact s_gI H V.x0 rfl rfl rfl (s_rc H hlt rfl rfl (v_isOpen H hlt (br_f (by decide) (s_gI H hlt rfl rfl rfl (br_c (fun _ => s_gI H hlt rfl rfl rfl (h104 _)) (fun _ => h104 _)))) (br_t rfl (ih' _))))
theorem v_wayNow (H : mR g Y S M) (V : mVs Y S) {a b : Int32} {κ : Int32 → mM → Prop} (h : ∀ x, κ x M) : wX14_wayNow κ (some (yA Y 20 0)) a b M := by
  have hl : ∀ (d j : Nat) (s : Int32), j + d = 73 → wX14_wayNow_7 κ (d + 1) (some (yA Y 20 0)) b s (nI j) M := by
    intro d
    induction d with
    | zero =>
      intro j s hj
      rw [wX14_wayNow_7]
      exact br_t (show (72 : Int32) < nI j from nI_lt (a := 72) (by omega) (by omega)) (h _)
    | succ d ih =>
      intro j s hj
      rw [wX14_wayNow_7]
      exact br_f (show ¬ (72 : Int32) < nI j from nI_nlt (b := j) (a := 72) (by omega) (by omega)) (br_c (fun _ => h _) (fun _ => ⟨yn Y 23 + 1, v_wn32 H V (fun x => by rw [nI_1]; exact ih (j + 1) x (by omega)) (yn Y 23) 0 s (by omega)⟩))
  exact ⟨74, hl 73 0 _ (by omega)⟩
end VREAD
