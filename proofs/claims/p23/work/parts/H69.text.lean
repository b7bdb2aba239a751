/-! THE PURE SIDE, 20: text that grows -/
theorem shr0 (x : Int32) : m_shr x 0 = x := by
  unfold m_shr
  rw [show (0 : Int32) &&& 31 = 0 from rfl]
  simp
theorem shl0 (x : Int32) : m_shl x 0 = x := by
  unfold m_shl
  rw [show (0 : Int32) &&& 31 = 0 from rfl]
  simp
theorem ss_a : ∀ n : Nat, n < 12 → ¬ nI n < 0 ∧ 0 ≤ nI n ∧ (-100) < -(nI n) ∧ -(-(nI n)) = nI n := by decide +kernel
theorem ss_b : ∀ n : Nat, n < 10 → ¬ (-(nI n) ≤ (-10 : Int32)) ∧ (-9) ≤ -(nI n) := by decide +kernel
theorem ss_c : ∀ n : Nat, n < 12 → 10 ≤ n → (-(nI n) ≤ (-10 : Int32)) ∧ ¬ (-(nI n) ≤ (10 * (-10) : Int32)) ∧ ¬ ((-9) ≤ -(nI n)) := by decide +kernel
/-- what is known of the constants -/
def mKs (g : Nat → Nat) (Y : mY) (S : mS) : Prop := (yn Y 35 = 2 ∧ yn Y 36 = 3 ∧ yn Y 37 = 3) ∧ (yA Y 35 0 = g 2 ∧ yA Y 35 1 = g 3 ∧ sC S 35 0 = 100 ∧ sC S 35 1 = 100) ∧ ∀ i, i < 3 → yA Y 36 i = g (11 + i) ∧ sI S 36 i 1 = 0 ∧ sb_Fit (sE S 37 i) ∧ sC S 37 i ≤ 1
/-- a growing text at b, outside the state -/
def sbR (g : Nat → Nat) (Y : mY) (S : mS) (M : mM) (b N len : Nat) : Prop := ∃ (v : Nat) (f : Nat → Int32), mR g Y S M ∧ mFr Y S b ∧ mFr Y S v ∧ b ≠ v ∧ M b = some (.inr (1, [va_rf (some v), .int 0, .int 0, .int (nI len)])) ∧ M v = some (.inl (6, N, .inl f)) ∧ sb_Fit f ∧ len ≤ N
def eN (N need : Nat) : Nat := if need ≤ N then N else 2 * N + 2
def eK (N need : Nat) : Nat := if need ≤ N then 0 else 1
def eB (N need : Nat) : Nat := if need ≤ N then 0 else 2 * N + 2
section SB
variable {g : Nat → Nat} {Y : mY} {S : mS} {M : mM}
theorem r_gI {a c k : Nat} {fs : List Value} {x : Int32} (ha : M a = some (.inr (c, fs))) (hx : fs[k]? = some (.int x)) {κ : Int32 → Prop} (h : κ x) : m_gI M (some a) c k κ := ⟨a, fs, x, rfl, ha, hx, h⟩
theorem r_gR {a c k : Nat} {fs : List Value} {x : Option Nat} (ha : M a = some (.inr (c, fs))) (hx : fs[k]? = some (va_rf x)) {κ : Option Nat → Prop} (h : κ x) : m_gR M (some a) c k κ := ⟨a, fs, x, rfl, ha, hx, h⟩
theorem r_stB {v N i : Nat} {f : Nat → Int32} {x : Int32} {κ : mM → Prop} (hv : M v = some (.inl (6, N, .inl f))) (hi : i < N) (hN : N < 2 ^ 31) (h : ∀ M', M' v = some (.inl (6, N, .inl (upd f i (vp_nar .byte x)))) → (∀ q, q ≠ v → M' q = M q) → κ M') : m_stB M (some v) (nI i) x κ := by
  refine ⟨v, N, f, rfl, hv, vp_in_nI hi hN, ?_⟩
  rw [nI_clamp (by omega)]
  exact h _ (m_up_s _ _ _) (fun q hq => m_up_n hq)
theorem r_copyB {a0 ak n0 a n1 sp dp n : Nat} {f f1 : Nat → Int32} {κ : mM → Prop} (h0 : M a0 = some (.inl (ak, n0, .inl f))) (hk : ak = 6 ∨ ak = 9) (h1 : M a = some (.inl (6, n1, .inl f1))) (hn0 : sp + n ≤ n0) (hn1 : dp + n ≤ n1) (hb0 : n0 < 2 ^ 31) (hb1 : n1 < 2 ^ 31) (hf : sb_Fit f) (h : ∀ M', M' a = some (.inl (6, n1, .inl (va_cpy f f1 sp dp n))) → (∀ q, q ≠ a → M' q = M q) → κ M') : m_copyB M (some a0) (nI sp) (some a) (nI dp) (nI n) κ := by
  refine ⟨a0, ak, n0, a, n1, f, f1, rfl, rfl, h0, hk, h1, nI_pos (by omega), nI_pos (by omega), nI_pos (by omega), ?_⟩
  rw [nI_clamp (by omega), nI_clamp (by omega), nI_clamp (by omega)]
  exact ⟨hn0, hn1, fun i _ => hf _, h _ (m_up_s _ _ _) (fun q hq => m_up_n hq)⟩
theorem s_ldB (H : mR g Y S M) {i j : Nat} (hi : i < yn Y 35) (hj : j < sC S 35 i) (hb : sC S 35 i < 2 ^ 31) {κ : Int32 → Prop} (h : ∀ x, κ x) : m_ldB M (some (yA Y 35 i)) (nI j) κ := by
  refine ⟨_, 9, _, _, rfl, H.ari hi (by decide) rfl, Or.inr rfl, vp_in_nI hj hb, ?_⟩
  exact h _
theorem b_lat {b : Nat} {x y z : Value} (hb : M b = some (.inr (1, [x, .int 0, y, z]))) {κ : Int32 → mM → Prop} (h : κ 1 M) : wJ5_isLatin1_aae02 g κ (some b) M := br_f (by decide) (r_gI hb rfl (br_t rfl h))
theorem sb_ens {b N len need : Nat} (R : sbR g Y S M b N len) (hN : N ≤ 200) (h1 : need ≤ 2 * N + 2) (hl : len ≤ need) {K B : Nat} (hK : eK N need ≤ K) (hB : eB N need ≤ B) {κ : mM → Prop} (h : ∀ M', sbR g Y S M' b (eN N need) len → κ M') : wJ5_ensureCapacityInternal_d00df K B κ (some b) (nI need) M := by
  obtain ⟨v, f, H, Fb, Fv, nbv, hb, hv, hf, hle⟩ := R
  refine r_gR hb rfl (r_len hv (by decide) (r_gI hb rfl ?_))
  rw [shr0]
  have es : (nI need - nI N).toInt = need - N := by
    rw [I_sub (by omega) (by rw [nI_toInt (by omega)]; omega) (by rw [nI_toInt (by omega)]; omega), nI_toInt (by omega)]
  by_cases z : need ≤ N
  · refine br_t ?_ ⟨⟨Nat.zero_le _, Nat.zero_le _⟩, h M ?_⟩
    · rw [Int32.le_iff_toInt_le, es, show (0 : Int32).toInt = 0 from by decide]
      omega
    · unfold eN
      rw [if_pos z]
      exact ⟨v, f, H, Fb, Fv, nbv, hb, hv, hf, hle⟩
  · have hK1 : 1 ≤ K := by
      unfold eK at hK
      rw [if_neg z] at hK
      exact hK
    have hB1 : 2 * N + 2 ≤ B := by
      unfold eB at hB
      rw [if_neg z] at hB
      exact hB
    refine br_f ?_ (r_gR hb rfl (r_rc hb (r_gR hb rfl (r_len hv (by decide) (r_gI hb rfl (r_gI hb rfl ?_))))))
    · rw [Int32.le_iff_toInt_le, es, show (0 : Int32).toInt = 0 from by decide]
      omega
    rw [shl0, shl0, pk_sub (by omega), show (2 : Int32) = nI 2 from rfl, nI_add]
    have em : m_max (nI (need - N)) (nI (N + 2)) = nI (N + 2) := by rw [mI_max _ _ (by omega) (by omega), Nat.max_eq_right (by omega)]
    unfold wJ8_newLength_cabcc
    rw [em, nI_add, show N + (N + 2) = 2 * N + 2 by omega]
    refine br_f (show ¬ nI (2 * N + 2) ≤ nI 0 from fun q => absurd ((nI_leI (by omega) (by omega)).mp q) (by omega)) (br_f (show ¬ (2147483639 : Int32) < nI (2 * N + 2) from nI_nlt (b := 2 * N + 2) (a := 2147483639) (by omega) (by omega)) ?_)
    refine br_f (fun q => absurd ((nI_eq (a := 2 * N + 2) (b := 2147483647) (by omega) (by omega)).mp q) (by omega)) (r_gI hb rfl ?_)
    rw [shr0]
    refine r_gI hb rfl ⟨1, 2 * N + 2, ⟨by omega, by omega⟩, ?_⟩
    rw [shl0]
    refine r_len hv (by decide) (br_f (fun q => absurd ((nI_eq (by omega) (by omega)).mp q) (by omega)) ⟨2 * N + 2, by omega, ⟨by omega, by omega⟩, r_newI (by omega) (Nat.le_refl _) (fun q M1 hq h1' o1 => ?_)⟩)
    have some_ne : ∀ {M : mM} {a b : Nat} {e : mCe}, M a = some e → M b = none → a ≠ b := fun h1 h2 z => by rw [z, h2] at h1; cases h1
    have nvq := some_ne hv hq
    have nbq := some_ne hb hq
    have Fq := H.fr hq
    have hv1 := (o1 v nvq).trans hv
    refine r_len hv1 (by decide) ?_
    have em2 : m_min (nI N) (nI (2 * N + 2)) = nI N := by rw [mI_min _ _ (by omega) (by omega), Nat.min_eq_left (by omega)]
    rw [em2]
    refine r_copyB (sp := 0) (dp := 0) hv1 (Or.inl rfl) h1' (by omega) (by omega) (by omega) (by omega) hf (fun M2 h2 o2 => ⟨⟨by omega, by omega⟩, ?_⟩)
    refine r_p ((o2 b nbq).trans ((o1 b nbq).trans hb)) (by simp) (fun M3 h3 o3 => ⟨⟨by omega, by omega⟩, h M3 ?_⟩)
    unfold eN
    rw [if_neg z]
    exact ⟨q, _, ((H.off Fq o1).off Fq o2).off Fb o3, Fb, Fq, nbq, h3, (o3 q nbq.symm).trans h2, sb_fitC hf sb_fit0, by omega⟩
theorem sb_appC {b N len : Nat} (R : sbR g Y S M b N len) (hN : N ≤ 200) {ch : Int32} (hc : ¬ 255 < ch) {K B : Nat} (hK : eK N (len + 1) ≤ K) (hB : eB N (len + 1) ≤ B) {κ : Option Nat → mM → Prop} (h : ∀ M', sbR g Y S M' b (eN N (len + 1)) (len + 1) → κ (some b) M') : wJ4_append_cf468 g K B κ (some b) ch M := by
  have hlN : len ≤ N := by obtain ⟨v, f, H, Fb, Fv, nbv, hb, hv, hf, hle⟩ := R; exact hle
  have R0 := R
  obtain ⟨v, f, H, Fb, Fv, nbv, hb, hv, hf, hle⟩ := R
  refine ⟨K, B, ⟨by omega, by omega⟩, r_rc hb (r_gI hb rfl ⟨K, B, ⟨by omega, by omega⟩, r_rc hb ?_⟩)⟩
  rw [nI_1]
  refine sb_ens R0 hN (by omega) (by omega) hK hB (fun M1 R1 => ?_)
  have hle1 : len + 1 ≤ eN N (len + 1) := by unfold eN; split <;> omega
  have hN1 : eN N (len + 1) ≤ 402 := by unfold eN; split <;> omega
  obtain ⟨v1, f1, H1, Fb1, Fv1, nbv1, hb1, hv1, hf1, -⟩ := R1
  refine r_rc hb1 (b_lat hb1 (br_f (by decide) (br_f hc (br_f (by decide) (r_gR hb1 rfl (r_gI hb1 rfl (r_p hb1 (by simp) (fun M2 h2 o2 => ?_))))))))
  rw [nI_1] at h2
  refine r_stB ((o2 v1 nbv1.symm).trans hv1) (i := len) (by omega) (by omega) (fun M3 h3 o3 => ⟨⟨by omega, by omega⟩, ⟨by omega, by omega⟩, h M3 ?_⟩)
  exact ⟨v1, _, (H1.off Fb1 o2).off Fv1 o3, Fb1, Fv1, nbv1, (o3 b nbv1).trans h2, h3, sb_fitU hf1 (pk_fb _), hle1⟩
theorem sb_appI {b N len n : Nat} (Kc : mKs g Y S) (R : sbR g Y S M b N len) (hN : N ≤ 200) (hN0 : 2 ≤ N) (hn : n < 12) {K B : Nat} {d : Nat} (hd : d = if n < 10 then 1 else 2) (hK : eK N (len + d) ≤ K) (hB : eB N (len + d) ≤ B) {κ : Option Nat → mM → Prop} (h : ∀ M', sbR g Y S M' b (eN N (len + d)) (len + d) → κ (some b) M') : wJ4_append_bf812 g K B κ (some b) (nI n) M := by
  have hd2 : 1 ≤ d ∧ d ≤ 2 := by rw [hd]; split <;> omega
  have R0 := R
  obtain ⟨v, f, H, Fb, Fv, nbv, hb, hv, hf, hle⟩ := R
  obtain ⟨a1, a2, a3, a4⟩ := ss_a n hn
  refine ⟨K, B, ⟨by omega, by omega⟩, r_rc hb (r_gI hb rfl ?_)⟩
  have hsz : ∀ {κ : Int32 → mM → Prop}, κ (nI d) M → wJ6_stringSize_0f7a4 κ (nI n) M := by
    intro κ hk
    refine br_f a1 ⟨2, ?_⟩
    rw [wJ6_stringSize_0f7a4_16]
    refine br_f (by decide) ?_
    by_cases z : n < 10
    · have e : d = 1 := by rw [hd, if_pos z]
      rw [e] at hk
      exact br_f (ss_b n z).1 hk
    · have e : d = 2 := by rw [hd, if_neg z]
      rw [e] at hk
      refine br_t (ss_c n hn (by omega)).1 ?_
      rw [wJ6_stringSize_0f7a4_16]
      exact br_f (by decide) (br_f (ss_c n hn (by omega)).2.1 hk)
  refine hsz ⟨K, B, ⟨by omega, by omega⟩, r_rc hb ?_⟩
  rw [nI_add]
  refine sb_ens R0 hN (by omega) (by omega) hK hB (fun M1 R1 => ?_)
  have hle1 : len + d ≤ eN N (len + d) := by unfold eN; split <;> omega
  have hN1 : eN N (len + d) ≤ 402 := by unfold eN; split <;> omega
  obtain ⟨v1, f1, H1, Fb1, Fv1, nbv1, hb1, hv1, hf1, -⟩ := R1
  refine r_rc hb1 (b_lat hb1 (br_f (by decide) (r_gR hb1 rfl ?_)))
  refine br_t a2 (br_t rfl ⟨1, ?_⟩)
  obtain ⟨⟨y35, -, -⟩, ⟨k0, k1, c0, c1⟩, -⟩ := Kc
  have fin : ∀ M' f', M' b = M1 b → M' v1 = some (.inl (6, eN N (len + d), .inl f')) → sb_Fit f' → mR g Y S M' → ∀ x, wJ6_getChars_ba4f3_104 g (fun x14 M15 => wJ5_append_c97b9_48 g K B (fun x3 M4 => (((0 + K) ≤ K ∧ (0 + B) ≤ B) ∧ κ (some b) M4)) (0 + K) (0 + B) (some b) (nI (len + d)) M15) (some v1) x 0 M' := by
    intro M' f' e1 e2 hf' H' x
    refine br_t rfl ⟨⟨by omega, by omega⟩, r_p (e1.trans hb1) (by simp) (fun M2 h2 o2 => ⟨⟨by omega, by omega⟩, ⟨by omega, by omega⟩, h M2 ?_⟩)⟩
    exact ⟨v1, f', H'.off Fb1 o2, Fb1, Fv1, nbv1, h2, (o2 v1 nbv1.symm).trans e2, hf', hle1⟩
  rw [wJ6_getChars_ba4f3_22]
  refine br_t a3 ?_
  rw [a4, ← k1]
  refine s_ldB H1 (by omega) (by rw [c1]; omega) (by rw [c1]; omega) (fun x => ?_)
  rw [sb_m1 (by omega)]
  refine r_stB hv1 (i := len + d - 1) (by omega) (by omega) (fun M2 h2 o2 => ?_)
  have H2 := H1.off Fv1 o2
  by_cases z : n < 10
  · exact br_t (ss_b n z).2 (fin M2 _ (o2 b nbv1) h2 (sb_fitU hf1 (pk_fb _)) H2 _)
  · refine br_f (ss_c n hn (by omega)).2.2 ?_
    rw [← k0]
    have e : d = 2 := by rw [hd, if_neg z]
    refine s_ldB H2 (by omega) (by rw [c0]; omega) (by rw [c0]; omega) (fun y => ?_)
    rw [sb_m1 (by omega)]
    refine r_stB h2 (i := len + d - 1 - 1) (by omega) (by omega) (fun M3 h3 o3 => ?_)
    exact fin M3 _ ((o3 b nbv1).trans (o2 b nbv1)) h3 (sb_fitU (sb_fitU hf1 (pk_fb _)) (pk_fb _)) (H2.off Fv1 o3) _
theorem s_cod (H : mR g Y S M) (Kc : mKs g Y S) {i : Nat} (hi : i < 3) {κ : Int32 → mM → Prop} (h : κ 0 M) : m_rc M (some (yA Y 36 i)) 20 fun b => wJ0_coder_7d493 g κ (some b) M := by
  have h36 : i < yn Y 36 := by rw [Kc.1.2.1]; exact hi
  refine s_rc H h36 rfl rfl (br_f (by decide) (s_gI H h36 rfl rfl rfl ?_))
  rw [(Kc.2.2 i hi).2.1]
  exact ⟨by decide, h⟩
theorem sb_appS {b N len i : Nat} (Kc : mKs g Y S) (R : sbR g Y S M b N len) (hN : N ≤ 200) (hi : i < 3) {K B : Nat} (hK : eK N (len + sC S 37 i) ≤ K) (hB : eB N (len + sC S 37 i) ≤ B) {κ : Option Nat → mM → Prop} (h : ∀ M', sbR g Y S M' b (eN N (len + sC S 37 i)) (len + sC S 37 i) → κ (some b) M') : wJ4_append_15ec4 g K B κ (some b) (some (g (11 + i))) M := by
  have R0 := R
  obtain ⟨v, f, H, Fb, Fv, nbv, hb, hv, hf, hle⟩ := R
  have h36 : i < yn Y 36 := by rw [Kc.1.2.1]; exact hi
  have h37 : i < yn Y 37 := by rw [Kc.1.2.2]; exact hi
  obtain ⟨ea, ec, ef, eL⟩ := Kc.2.2 i hi
  have hL : sC S 37 i ≤ 1 := eL
  rw [← ea]
  refine ⟨K, B, ⟨by omega, by omega⟩, r_rc hb (br_f (fun q => by cases q) (s_rc H h36 rfl rfl (s_gR7 H h36 rfl rfl rfl (s_lenI H h37 (by decide) rfl (s_cod H Kc hi ?_)))))⟩
  rw [shr0]
  refine r_gI hb rfl ⟨K, B, ⟨by omega, by omega⟩, r_rc hb ?_⟩
  rw [nI_add]
  refine sb_ens R0 hN (by omega) (by omega) hK hB (fun M1 R1 => ?_)
  have hle1 : len + sC S 37 i ≤ eN N (len + sC S 37 i) := by unfold eN; split <;> omega
  have hN1 : eN N (len + sC S 37 i) ≤ 402 := by unfold eN; split <;> omega
  obtain ⟨v1, f1, H1, Fb1, Fv1, nbv1, hb1, hv1, hf1, -⟩ := R1
  refine r_gI hb1 rfl (r_rc hb1 (r_rc hb1 (br_f (by decide) (r_gI hb1 rfl (s_cod H1 Kc hi (br_t rfl ?_))))))
  refine r_gR hb1 rfl (r_gI hb1 rfl (s_rc H1 h36 rfl rfl (s_cod H1 Kc hi (br_t rfl (s_gR7 H1 h36 rfl rfl rfl (s_gR7 H1 h36 rfl rfl rfl (s_lenI H1 h37 (by decide) rfl ?_)))))))
  rw [shl0]
  refine r_copyB (sp := 0) (H1.ari h37 (by decide) rfl) (Or.inr rfl) hv1 (by omega) (by omega) (by omega) (by omega) ef (fun M2 h2 o2 => ?_)
  have hb2 := (o2 b nbv1).trans hb1
  refine r_gI hb2 rfl (r_p hb2 (by simp) (fun M3 h3 o3 => ⟨⟨by omega, by omega⟩, ⟨by omega, by omega⟩, h M3 ?_⟩))
  rw [nI_add] at h3
  exact ⟨v1, _, (H1.off Fv1 o2).off Fb1 o3, Fb1, Fv1, nbv1, h3, (o3 v1 nbv1.symm).trans h2, sb_fitC ef hf1, hle1⟩
theorem sb_toS {b N len : Nat} (R : sbR g Y S M b N len) (hN : N ≤ 402) {K B : Nat} (hK : 2 ≤ K) (hB : 4 + N ≤ B) {κ : Option Nat → mM → Prop} (h : ∀ x M', mR g Y S M' → κ x M') : m_rc M (some b) 1 fun b13 => wJ4_toString_0e30d g K B κ (some b13) M := by
  obtain ⟨v, f, H, Fb, Fv, nbv, hb, hv, hf, hle⟩ := R
  refine r_rc hb ⟨⟨by omega, by omega⟩, r_new (fun q M1 hq h1 o1 => ⟨1, N, ⟨by omega, by omega⟩, r_rc h1 ⟨1, N, ⟨by omega, by omega⟩, r_rc h1 ⟨q, rfl, ?_⟩⟩⟩)⟩
  have some_ne : ∀ {M : mM} {a b : Nat} {e : mCe}, M a = some e → M b = none → a ≠ b := fun h1 h2 z => by rw [z, h2] at h1; cases h1
  have nbq := some_ne hb hq
  have nvq := some_ne hv hq
  have Fq := H.fr hq
  have H1 := H.off Fq o1
  have hb1 := (o1 b nbq).trans hb
  have hv1 := (o1 v nvq).trans hv
  refine r_rc hb1 (r_gR hb1 rfl (r_rc hb1 (r_rc hb1 (r_gI hb1 rfl (r_rc hb1 (b_lat hb1 (br_f (by decide) ?_)))))))
  refine r_p h1 (by simp) (fun M2 h2 o2 => ⟨1, N, ⟨by omega, by omega⟩, ?_⟩)
  have hv2 := (o2 v nvq).trans hv1
  have H2 := H1.off Fq o2
  refine br_t rfl (r_len hv2 (by decide) (br_c (fun _ => ⟨N, ⟨by omega, by omega⟩, ⟨v, N, f, rfl, hv2, Nat.le_refl _, fun i _ => hf i, fun q' hq' => ?_⟩⟩) (fun _ => ⟨⟨by omega, by omega⟩, 1, N, ⟨by omega, by omega⟩, ?_⟩)))
  · have nqq : q ≠ q' := some_ne h2 hq'
    refine ⟨⟨q', _, rfl, m_up_s _ _ _⟩, ⟨by omega, by omega⟩, ?_⟩
    refine r_p ((m_up_n nqq).trans h2) (by simp) (fun M4 h4 o4 => ⟨⟨by omega, by omega⟩, ⟨by omega, by omega⟩, ⟨by omega, by omega⟩, h _ M4 ?_⟩)
    exact (H2.off (H2.fr hq') (fun q'' z => m_up_n z)).off Fq o4
  · refine br_t (show (0 : Int32) ≤ nI len from (nI_leI (a := 0) (b := len) (by omega) (by omega)).mpr (Nat.zero_le _)) ⟨N, by omega, ⟨by omega, by omega⟩, ?_⟩
    rw [show nI len - 0 = nI len from by rw [show (0 : Int32) = nI 0 from rfl, pk_sub (Nat.zero_le _)]; rfl]
    refine r_newI (by omega) hle (fun q' M3 hq' h3 o3 => ?_)
    have nqq : q ≠ q' := some_ne h2 hq'
    have nvq' : v ≠ q' := some_ne hv2 hq'
    have hv3 := (o3 v nvq').trans hv2
    refine r_len hv3 (by decide) ?_
    rw [show nI N - 0 = nI N from by rw [show (0 : Int32) = nI 0 from rfl, pk_sub (Nat.zero_le _)]; rfl, mI_min _ _ (by omega) (by omega), Nat.min_eq_right hle]
    refine r_copyB (sp := 0) (dp := 0) hv3 (Or.inl rfl) h3 (by omega) (by omega) (by omega) (by omega) hf (fun M4 h4 o4 => ⟨⟨by omega, by omega⟩, ⟨by omega, by omega⟩, ?_⟩)
    have Fq' := H2.fr hq'
    refine r_p ((o4 q nqq).trans ((o3 q nqq).trans h2)) (by simp) (fun M5 h5 o5 => ⟨⟨by omega, by omega⟩, ⟨by omega, by omega⟩, ⟨by omega, by omega⟩, h _ M5 ?_⟩)
    exact ((H2.off Fq' o3).off Fq' o4).off Fq o5
theorem sb_new (H : mR g Y S M) {κ : Nat → mM → Prop} {C1 : Nat → Nat → Prop} {C2 : Nat → Nat → Nat → mM → Prop} (h : ∀ b M', sbR g Y S M' b 16 0 → κ b M') {K B : Nat} (hK : 1 ≤ K) (hB : 16 ≤ B) : m_new M 1 [.null, .int 0, .int 0, .int 0] fun q M1 => m_rc M1 (some q) 1 fun b9 => wJ4_init_da8c8 g K B (fun M2 => κ q M2) (some b9) M1 := by
  refine r_new (fun b M1 hb h1 o1 => r_rc h1 ⟨K, B, ⟨by omega, by omega⟩, r_rc h1 ⟨b, rfl, br_f (by decide) ⟨16, by omega, ⟨by omega, by omega⟩, r_newI (N := 16) (by omega) (by omega) (fun v M2 hv h2 o2 => ?_)⟩⟩⟩)
  have some_ne : ∀ {M : mM} {a b : Nat} {e : mCe}, M a = some e → M b = none → a ≠ b := fun h1 h2 z => by rw [z, h2] at h1; cases h1
  have nbv := some_ne h1 hv
  have Fb := H.fr hb
  have H1 := H.off Fb o1
  have Fv := H1.fr hv
  have H2 := H1.off Fv o2
  refine r_p ((o2 b nbv).trans h1) (by simp) (fun M3 h3 o3 => r_p h3 (by simp) (fun M4 h4 o4 => ⟨⟨by omega, by omega⟩, ⟨by omega, by omega⟩, h b M4 ?_⟩))
  exact ⟨v, _, (H2.off Fb o3).off Fb o4, Fb, Fv, nbv, h4, (o4 v nbv.symm).trans ((o3 v nbv.symm).trans h2), sb_fit0, by omega⟩
end SB
