/-! THE PURE SIDE, 21: the queues' texts -/
def sbP (N k9 n9 : Nat) : Prop := (N = 16 ∧ k9 ≤ 2 ∧ n9 ≤ 20) ∨ (N = 34 ∧ k9 ≤ 3 ∧ n9 ≤ 54) ∨ (N = 70 ∧ k9 ≤ 4 ∧ n9 ≤ 124)
theorem sbP.st {N k9 n9 need : Nat} (h : sbP N k9 n9) (h1 : need ≤ N + 2) (h2 : need ≤ 70) : sbP (eN N need) (k9 + eK N need) (n9 + eB N need) := by
  unfold sbP at h ⊢
  unfold eN eK eB
  split
  · omega
  · omega
theorem sbP.bd {N k9 n9 : Nat} (h : sbP N k9 n9) : k9 ≤ 4 ∧ n9 ≤ 124 ∧ N ≤ 70 ∧ 16 ≤ N := by
  unfold sbP at h
  omega
theorem mKs.E {g : Nat → Nat} {Y Y' : mY} {S S' : mS} (K : mKs g Y S) (a : ∀ k, 35 ≤ k → k ≤ 37 → yn Y' k = yn Y k ∧ ∀ i, mEq S' S k i) (b : ∀ k i, i < yn Y k → yA Y' k i = yA Y k i) : mKs g Y' S' := by
  obtain ⟨⟨y5, y6, y7⟩, ⟨p1, p2, p3, p4⟩, h⟩ := K
  refine ⟨⟨(a 35 (by omega) (by omega)).1.trans y5, (a 36 (by omega) (by omega)).1.trans y6, (a 37 (by omega) (by omega)).1.trans y7⟩, ⟨(b 35 0 (by omega)).trans p1, (b 35 1 (by omega)).trans p2, (((a 35 (by omega) (by omega)).2 0).2.2.2.2.2.2.1).trans p3, (((a 35 (by omega) (by omega)).2 1).2.2.2.2.2.2.1).trans p4⟩, fun i hi => ?_⟩
  obtain ⟨q1, q2, q3, q4⟩ := h i hi
  refine ⟨(b 36 i (by omega)).trans q1, (congrFun ((a 36 (by omega) (by omega)).2 i).1 1).trans q2, ?_, ?_⟩
  · rw [((a 37 (by omega) (by omega)).2 i).2.2.2.2.2.2.2.1]
    exact q3
  · rw [((a 37 (by omega) (by omega)).2 i).2.2.2.2.2.2.1]
    exact q4
theorem mKs.Fm {g : Nat → Nat} {Y Y' : mY} {S S' : mS} (K : mKs g Y S) (F : mFm Y S Y' S') : mKs g Y' S' := K.E (fun k h1 h2 => F.2.2 k (Or.inr (Or.inr ⟨h1, h2⟩))) F.1
theorem mKs.Fc {g : Nat → Nat} {Y Y' : mY} {S S' : mS} (K : mKs g Y S) (F : mFc Y S Y' S') : mKs g Y' S' := K.E (fun k h1 h2 => F.2.2 k (by omega)) F.1
section QUE
variable {g : Nat → Nat} {Y : mY} {S : mS} {M : mM}
theorem c_q31 (W : mWs Y S) (Kc : mKs g Y S) {t b m : Nat} (ht : t < yn Y 3) (hm : (sL S 13 t).length = m) (hm12 : m ≤ 12) {κ : Option Nat → mM → Prop} {ξ : String → mM → Prop} (h : ∀ x M', mR g Y S M' → κ x M') : ∀ (d j k9 n9 N len : Nat) (M : mM), sbR g Y S M b N len → sbP N k9 n9 → len ≤ 4 * j → j + d = m → wX8_queue_31 g κ ξ (d + 1) k9 n9 (some (yA Y 3 t)) (some b) (nI j) M := by
  have hbd := W.2.1
  intro d
  induction d with
  | zero =>
    intro j k9 n9 N len M R p hl hj
    have H : mR g Y S M := by obtain ⟨v, f, H, -⟩ := R; exact H
    have hp := p.bd
    rw [wX8_queue_31]
    refine ⟨⟨by omega, by omega⟩, s_gR7 H ht rfl rfl rfl (s_rcL H rfl (W.l13 ht) (s_size H rfl (W.l13 ht) (br_t (nI_le (by omega) (by omega)) ⟨2, 4 + N, ⟨by omega, by omega⟩, sb_toS R (by omega) (Nat.le_refl _) (Nat.le_refl _) (fun x M' H' => ⟨⟨by omega, by omega⟩, h x M' H'⟩)⟩)))⟩
  | succ d ih =>
    intro j k9 n9 N len M R p hl hj
    have H : mR g Y S M := by obtain ⟨v, f, H, -⟩ := R; exact H
    have hp := p.bd
    have hlt : j < (sL S 13 t).length := by omega
    have hlN : len ≤ N := by obtain ⟨v, f, H, Fb, Fv, nbv, hb, hv, hf, hle⟩ := R; exact hle
    have hx : (sL S 13 t)[j]? = some ((sL S 13 t)[j]) := List.getElem?_eq_getElem hlt
    generalize (sL S 13 t)[j] = u at hx
    have hu : u < yn Y 4 := H.lL rfl (W.l13 ht) hx
    have i94 : ∀ k9 n9 N len M, sbR g Y S M b N len → sbP N k9 n9 → len ≤ 4 * (j + 1) → wX8_queue_94 g κ ξ (wX8_queue_31 g κ ξ (d + 1)) k9 n9 (some (yA Y 3 t)) (some b) (nI j) M := fun k9 n9 N len M R p hl => by
      have hp := p.bd
      refine ⟨⟨by omega, by omega⟩, ?_⟩
      rw [nI_1]
      exact ih (j + 1) k9 n9 N len M R p hl (by omega)
    have i69 : ∀ k9 n9 N len M, sbR g Y S M b N len → sbP N k9 n9 → len ≤ 4 * j + 1 → wX8_queue_69 g κ ξ (wX8_queue_31 g κ ξ (d + 1)) k9 n9 (some (yA Y 3 t)) (some b) (nI j) (some (yA Y 4 u)) M := fun k9 n9 N len M R p hl => by
      have hp := p.bd
      have H : mR g Y S M := by obtain ⟨v, f, H, -⟩ := R; exact H
      have hlN : len ≤ N := by obtain ⟨v, f, H, Fb, Fv, nbv, hb, hv, hf, hle⟩ := R; exact hle
      have hr : ∃ bb, M b = some (.inr (1, bb)) := by obtain ⟨v, f, H, Fb, Fv, nbv, hb, hv, hf, hle⟩ := R; exact ⟨_, hb⟩
      obtain ⟨bb, hbb⟩ := hr
      refine ⟨⟨by omega, by omega⟩, s_gI H hu rfl rfl rfl ?_⟩
      rw [W.2.2.2.1.2.2.1 u hu]
      obtain ⟨D, hD, hD1, hD2⟩ : ∃ D : Nat, (D = if u < 10 then 1 else 2) ∧ 1 ≤ D ∧ D ≤ 2 := ⟨_, rfl, by split <;> omega, by split <;> omega⟩
      have p1 := p.st (need := len + D) (by omega) (by omega)
      have hp1 := p1.bd
      refine ⟨_, _, ⟨by omega, by omega⟩, r_rc hbb (sb_appI Kc R (by omega) (by omega) (by omega) hD (Nat.le_refl _) (Nat.le_refl _) (fun M1 R1 => ?_))⟩
      have H1 : mR g Y S M1 := by obtain ⟨v, f, H, -⟩ := R1; exact H
      have hlN1 : len + D ≤ eN N (len + D) := by obtain ⟨v, f, H, Fb, Fv, nbv, hb, hv, hf, hle⟩ := R1; exact hle
      obtain ⟨bb1, hbb1⟩ : ∃ bb, M1 b = some (.inr (1, bb)) := by obtain ⟨v, f, H, Fb, Fv, nbv, hb, hv, hf, hle⟩ := R1; exact ⟨_, hb⟩
      refine s_gI H1 hu rfl rfl rfl (br_c (fun _ => i94 _ _ _ _ M1 R1 p1 (by omega)) (fun _ => ?_))
      have p2 := p1.st (need := len + D + 1) (by omega) (by omega)
      have hp2 := p2.bd
      exact ⟨_, _, ⟨by omega, by omega⟩, r_rc hbb1 (sb_appC R1 (by omega) (by decide) (Nat.le_refl _) (Nat.le_refl _) (fun M2 R2 => i94 _ _ _ _ M2 R2 p2 (by omega)))⟩
    rw [wX8_queue_31]
    refine ⟨⟨by omega, by omega⟩, s_gR7 H ht rfl rfl rfl (s_rcL H rfl (W.l13 ht) (s_size H rfl (W.l13 ht) (br_f (nI_ge (by omega) (by omega)) (s_gR7 H ht rfl rfl rfl (s_rcL H rfl (W.l13 ht) (s_get H rfl (W.l13 ht) hx (s_cast H hu rfl rfl (br_c (fun _ => i69 _ _ _ _ M R p (by omega)) (fun _ => ?_)))))))))⟩
    have p1 := p.st (need := len + 1) (by omega) (by omega)
    have hp1 := p1.bd
    obtain ⟨bb1, hbb1⟩ : ∃ bb, M b = some (.inr (1, bb)) := by obtain ⟨v, f, H, Fb, Fv, nbv, hb, hv, hf, hle⟩ := R; exact ⟨_, hb⟩
    exact ⟨_, _, ⟨by omega, by omega⟩, r_rc hbb1 (sb_appC R (by omega) (by decide) (Nat.le_refl _) (Nat.le_refl _) (fun M2 R2 => i69 _ _ _ _ M2 R2 p1 (by omega)))⟩
theorem c_queue (H : mR g Y S M) (W : mWs Y S) (Q : mWq Y S) (Kc : mKs g Y S) {a : Int32} {κ : Option Nat → mM → Prop} {ξ : String → mM → Prop} (hx : ∀ E, E = "java/lang/IndexOutOfBoundsException" → ξ E M) (h : ∀ x M', mR g Y S M' → κ x M') : wX8_queue g κ ξ (some (yA Y 0 0)) a M := by
  have hbd := W.2.1
  refine s_rc H W.x0 rfl rfl (c_gateN H W (fun t ht _ => ?_) (fun _ => hx _ rfl))
  refine s_gR7 H ht rfl rfl rfl (s_rcL H rfl (W.l13 ht) (s_isEmpty H rfl (W.l13 ht) (fun _ => br_f (by decide) ⟨⟨by omega, by omega⟩, h _ M H⟩) (fun _ => br_t rfl ⟨⟨by omega, by omega⟩, ?_⟩)))
  have hlen : (sL S 13 t).length ≤ 12 := by
    have := nd_len (yn Y 4) _ (Q.1 t ht).1 (fun z hz => H.2.2.2.2.1 13 t rfl (W.l13 ht) z hz)
    omega
  have key := sb_new (K := 1) (B := 16) (κ := fun q M13 => ∃ u : Nat, wX8_queue_31 g κ ξ u ((0 + 1) + 1) ((0 + 4) + 16) (some (yA Y 3 t)) (some q) 0 M13) (C1 := fun _ _ => True) (C2 := fun _ _ _ _ => True) H (fun b M' R => ⟨(sL S 13 t).length + 1, c_q31 W Kc ht rfl hlen h _ 0 _ _ 16 0 M' R (Or.inl ⟨rfl, by omega, by omega⟩) (by omega) (by omega)⟩) (by omega) (by omega)
  exact fun q hq => ⟨1, 16, ⟨by omega, by omega⟩, key q hq⟩
theorem v_q54 {Y0 : mY} {S0 : mS} (P : vP g Y0 S0 Y S M) (Kc : mKs g Y S) {t b m : Nat} (ht : t < yn Y 23) (hm : (sL S 25 t).length = m) (hm12 : m ≤ 12) {κ : Option Nat → mM → Prop} (h : ∀ x M', mR g Y S M' → κ x M') : ∀ (d j k9 n9 N len : Nat) (M : mM), sbR g Y S M b N len → sbP N k9 n9 → len ≤ 4 * j → j + d = m → wX14_queue_54 g κ (d + 1) k9 n9 (some (yA Y 20 0)) (some b) (some (yA Y 25 t)) (nI j) M := by
  have V := P.1.2.1
  have VQ := P.1.2.2.2.1
  clear P
  have hbd := V.2.1
  intro d
  induction d with
  | zero =>
    intro j k9 n9 N len M R p hl hj
    have H : mR g Y S M := by obtain ⟨v, f, H, -⟩ := R; exact H
    have hp := p.bd
    rw [wX14_queue_54]
    exact ⟨⟨by omega, by omega⟩, s_rcL H rfl (V.l25 ht) (s_size H rfl (V.l25 ht) (br_t (nI_le (by omega) (by omega)) (s_rcL H rfl (V.l25 ht) (s_isEmpty H rfl (V.l25 ht) (fun _ => br_f (by decide) ⟨⟨by omega, by omega⟩, h _ M H⟩) (fun _ => br_t rfl ⟨2, 4 + N, ⟨by omega, by omega⟩, sb_toS R (by omega) (Nat.le_refl _) (Nat.le_refl _) (fun x M' H' => ⟨⟨by omega, by omega⟩, h x M' H'⟩)⟩)))))⟩
  | succ d ih =>
    intro j k9 n9 N len M R p hl hj
    have H : mR g Y S M := by obtain ⟨v, f, H, -⟩ := R; exact H
    have hp := p.bd
    have hlt : j < (sL S 25 t).length := by omega
    have hlN : len ≤ N := by obtain ⟨v, f, H, Fb, Fv, nbv, hb, hv, hf, hle⟩ := R; exact hle
    have hx : (sL S 25 t)[j]? = some ((sL S 25 t)[j]) := List.getElem?_eq_getElem hlt
    generalize (sL S 25 t)[j] = u at hx
    have hu : u < yn Y 28 := ((VQ.1 t ht).2 u (List.mem_of_getElem? hx)).1
    have L1 : ∀ i, i < 3 → sC S 37 i ≤ 1 := fun i hi => (Kc.2.2 i hi).2.2.2
    have i127 : ∀ i, i < 3 → ∀ k9 n9 N len M, sbR g Y S M b N len → sbP N k9 n9 → len ≤ 4 * j + 3 → wX14_queue_127 g κ (wX14_queue_54 g κ (d + 1)) k9 n9 (some (yA Y 20 0)) (some b) (some (yA Y 25 t)) (nI j) (some (g (11 + i))) (some b) M := fun i hi k9 n9 N len M R p hl => by
      have hp := p.bd
      have := L1 i hi
      have hlN : len ≤ N := by obtain ⟨v, f, H, Fb, Fv, nbv, hb, hv, hf, hle⟩ := R; exact hle
      obtain ⟨bb1, hbb1⟩ : ∃ bb, M b = some (.inr (1, bb)) := by obtain ⟨v, f, H, Fb, Fv, nbv, hb, hv, hf, hle⟩ := R; exact ⟨_, hb⟩
      have p1 := p.st (need := len + sC S 37 i) (by omega) (by omega)
      have hp1 := p1.bd
      refine ⟨⟨by omega, by omega⟩, _, _, ⟨by omega, by omega⟩, r_rc hbb1 (sb_appS Kc R (by omega) hi (Nat.le_refl _) (Nat.le_refl _) (fun M2 R2 => ?_))⟩
      rw [nI_1]
      exact ih (j + 1) _ _ _ _ M2 R2 p1 (by omega) (by omega)
    have i92 : ∀ i, i < 3 → wX14_queue_92 g κ (wX14_queue_54 g κ (d + 1)) k9 n9 (some (yA Y 20 0)) (some b) (some (yA Y 25 t)) (nI j) (nI u) (some (g (11 + i))) (some b) M := fun i hi => by
      have := L1 i hi
      obtain ⟨bb1, hbb1⟩ : ∃ bb, M b = some (.inr (1, bb)) := by obtain ⟨v, f, H, Fb, Fv, nbv, hb, hv, hf, hle⟩ := R; exact ⟨_, hb⟩
      have p1 := p.st (need := len + sC S 37 i) (by omega) (by omega)
      have hp1 := p1.bd
      refine ⟨⟨by omega, by omega⟩, _, _, ⟨by omega, by omega⟩, r_rc hbb1 (sb_appS Kc R (by omega) hi (Nat.le_refl _) (Nat.le_refl _) (fun M1 R1 => ?_))⟩
      obtain ⟨bb2, hbb2⟩ : ∃ bb, M1 b = some (.inr (1, bb)) := by obtain ⟨v, f, H, Fb, Fv, nbv, hb, hv, hf, hle⟩ := R1; exact ⟨_, hb⟩
      have hlN1 : len + sC S 37 i ≤ eN N (len + sC S 37 i) := by obtain ⟨v, f, H, Fb, Fv, nbv, hb, hv, hf, hle⟩ := R1; exact hle
      obtain ⟨D, hD, hD1, hD2⟩ : ∃ D : Nat, (D = if u < 10 then 1 else 2) ∧ 1 ≤ D ∧ D ≤ 2 := ⟨_, rfl, by split <;> omega, by split <;> omega⟩
      have p2 := p1.st (need := len + sC S 37 i + D) (by omega) (by omega)
      have hp2 := p2.bd
      refine ⟨_, _, ⟨by omega, by omega⟩, r_rc hbb2 (sb_appI Kc R1 (by omega) (by omega) (by omega) hD (Nat.le_refl _) (Nat.le_refl _) (fun M2 R2 => ?_))⟩
      have H2 : mR g Y S M2 := by obtain ⟨v, f, H, -⟩ := R2; exact H
      exact v_S H2 V hu (s_gI H2 hu rfl rfl rfl (br_c (fun _ => i127 0 (by omega) _ _ _ _ M2 R2 p2 (by omega)) (fun _ => i127 2 (by omega) _ _ _ _ M2 R2 p2 (by omega))))
    rw [wX14_queue_54]
    exact ⟨⟨by omega, by omega⟩, s_rcL H rfl (V.l25 ht) (s_size H rfl (V.l25 ht) (br_f (nI_ge (by omega) (by omega)) (s_rcL H rfl (V.l25 ht) (s_get H rfl (V.l25 ht) hx (v_int H V (by omega) (br_c (fun _ => i92 0 (by omega)) (fun _ => i92 1 (by omega))))))))⟩
theorem v_queue {Y0 : mY} {S0 : mS} (P : vP g Y0 S0 Y S M) (Kc : mKs g Y S) {a : Int32} {κ : Option Nat → mM → Prop} (h : ∀ x Y' S' M', vP g Y0 S0 Y' S' M' → κ x M') : wX14_queue g κ (some (yA Y 20 0)) a M := by
  have H := P.1.1
  have V := P.1.2.1
  have hbd := V.2.1
  have ff : ∀ n, ¬ n ≤ (0 : Int32) → wX14_queue_14 g κ 0 0 (some (yA Y 20 0)) a n (some (yA Y 20 0)) M := fun n hn => by
    unfold wX14_queue_14
    refine ⟨⟨by omega, by omega⟩, v_th P (fun S1 M1 P1 e1 _ => s_gI P1.1.1 V.x0 rfl rfl rfl ?_)⟩
    rw [e1]
    exact br_f hn ⟨⟨by omega, by omega⟩, h _ Y S1 M1 P1⟩
  refine s_rc H V.x0 rfl rfl (v_isGate H V (fun t ht et => br_f (by decide) ?_) (fun _ => br_t rfl (ff 1 (by decide))))
  subst et
  unfold wX14_queue_14
  refine ⟨⟨by omega, by omega⟩, v_th P (fun S1 M1 P1 e1 eS => s_gI P1.1.1 V.x0 rfl rfl rfl ?_)⟩
  rw [e1]
  have Kc1 : mKs g Y S1 := by rw [eS]; exact Kc.Fm (mFm.uI (by omega))
  have hlen : (sL S1 25 t).length ≤ 12 := by
    have := nd_len (yn Y 28) _ (P1.1.2.2.2.1.1 t ht).1 (fun z hz => ((P1.1.2.2.2.1.1 t ht).2 z hz).1)
    omega
  refine br_t (by decide) ⟨⟨by omega, by omega⟩, ?_⟩
  have key := sb_new (K := 1) (B := 16) (κ := fun q M8 => m_gR M8 (some (yA Y 20 0)) 19 7 fun x10 => m_rc M8 x10 4 fun b13 => wJx4a65c_get_915e3 (fun x11 M12 => m_cast M12 x11 15 (m_gR M12 x11 15 6 fun x14 => ∃ u : Nat, wX14_queue_54 g κ u ((0 + 1) + 1) ((0 + 4) + 16) (some (yA Y 20 0)) (some q) x14 0 M12)) (some b13) (nI t) M8) (C1 := fun _ _ => True) (C2 := fun _ _ _ _ => True) P1.1.1 (fun b M' R => by
    have H' : mR g Y S1 M' := by obtain ⟨v, f, H, -⟩ := R; exact H
    exact v_G H' P1.1.2.1 ht (s_gR7 H' ht rfl rfl rfl ⟨(sL S1 25 t).length + 1, v_q54 P1 Kc1 ht rfl hlen (fun x M'' H'' => h x Y S1 M'' ⟨⟨H'', P1.1.2⟩, P1.2⟩) _ 0 _ _ 16 0 M' R (Or.inl ⟨rfl, by omega, by omega⟩) (by omega) (by omega)⟩)) (by omega) (by omega)
  exact fun q hq => ⟨1, 16, ⟨by omega, by omega⟩, key q hq⟩
end QUE
