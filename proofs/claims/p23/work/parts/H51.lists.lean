/-! THE PURE SIDE, 2: the JDK's lists -/
theorem m_chn_le {N : Nat} (h : N ∈ m_chn) : 10 ≤ N ∧ N ≤ 163 := by
  simp only [m_chn, List.mem_cons, List.not_mem_nil, or_false] at h
  omega
theorem m_chn_next : ∀ N ∈ m_chn, N ≠ 163 → N + N / 2 ∈ m_chn ∧ m_max 1 (m_shr (nI N) 1) = nI (N / 2) := by decide +kernel
theorem m_chn_bd {N cap B : Nat} (h : N ∈ m_chn) (hc : N < cap) (hq : (cap = 8 ∧ B = 10) ∨ (cap = 12 ∧ B = 15) ∨ (cap = 24 ∧ B = 33) ∨ (cap = 40 ∧ B = 49) ∨ (cap = 120 ∧ B = 163)) : N + N / 2 ≤ B ∧ N ≠ 163 := by
  simp only [m_chn, List.mem_cons, List.not_mem_nil, or_false] at h
  omega
theorem mI_sub {a b : Nat} (h : b ≤ a) : nI a - nI b = nI (a - b) := pk_sub h
theorem mI_1 : nI 1 = 1 := by decide
section LISTS1
variable {g : Nat → Nat} {M : mM}

abbrev jH (md : Int32) (e n : Nat) : mCe := .inr (4, [.int md, .ref e, .int (nI n)])
abbrev jA (N : Nat) (f : Nat → Option Nat) : mCe := .inl (2, N, mRf f)
theorem r_len {a ak n : Nat} {x : (Nat → Int32) ⊕ (Nat → Int64) ⊕ (Nat → UInt32) ⊕ (Nat → UInt64) ⊕ (Nat → Option Nat)} {κ : Int32 → Prop} (h : M a = some (.inl (ak, n, x))) (h9 : ak < 10) (k : κ (nI n)) : m_len M (some a) κ := ⟨a, ak, (n, x), rfl, h, h9, k⟩
theorem j_checkIndex {κ : Int32 → mM → Prop} {j n : Nat} (h : j < n) (hn : n < 2 ^ 31) (hk : κ (nI j) M) : wJ15_checkIndex_7cf53 κ (nI j) (nI n) M := br_f (nI_pos (Nat.lt_trans h hn)) (br_t (nI_lt h hn) hk)
theorem j_get {a e n N j : Nat} {md : Int32} {f : Nat → Option Nat} (ha : M a = some (jH md e n)) (he : M e = some (jA N f)) (hn : n ≤ N) (hN : N ≤ 163) (hj : j < n) {κ : Option Nat → mM → Prop} (h : κ (f j) M) : wJx4a65c_get_915e3 κ (some a) (nI j) M := by
  refine ⟨_, _, _, rfl, ha, rfl, ?_⟩
  refine j_checkIndex hj (by omega) ?_
  refine ⟨_, _, rfl, ha, ?_⟩
  refine ⟨_, _, some e, rfl, ha, rfl, ?_⟩
  refine ⟨_, N, f, rfl, he, vp_in_nI (by omega) (by omega), ?_⟩
  rw [nI_clamp (by omega)]
  exact h
/-- an element is put behind the last one, where there is room -/
theorem j_store {a e n N y ci : Nat} {md : Int32} {f : Nat → Option Nat} {fs : List Value} {B : Nat} (ha : M a = some (jH md e n)) (he : M e = some (jA N f)) (hn : n < N) (hN : N ≤ 163) (hy : M y = some (.inr (ci, fs))) (hci : ci < 20) {κ : mM → Prop}
    (h : ∀ M', M' a = some (jH md e (n + 1)) → M' e = some (jA N (va_up f n (some y))) → (∀ q, q ≠ a → q ≠ e → M' q = M q) → κ M') : wJx4a65c_add_72be8_11 g B κ (some a) (some y) (some e) (nI n) M := by
  have hae : a ≠ e := fun z => by rw [z, he] at ha; cases ha
  refine ⟨e, N, f, rfl, he, vp_in_nI hn (by omega), fun y' hy' => ?_, ?_⟩
  · cases hy'
    exact ⟨ci, fs, hy, hci, fun z => absurd z (by decide), fun z => absurd z (by decide)⟩
  · refine ⟨a, [.int md, .ref e, .int (nI n)], rfl, (m_up_n hae).trans ha, by simp, ?_⟩
    refine h _ ?_ ?_ ?_
    · rw [m_up_s, nI_1]
      rfl
    · rw [m_up_n (fun z => hae z.symm), m_up_s, nI_clamp (by omega)]
    · intro q h1 h2
      rw [m_up_n h1, m_up_n h2]
/-- the array grows -/
theorem j_grow {a e n : Nat} {md : Int32} (ha : M a = some (jH md e n)) {cap B : Nat} (hcap : n < cap) (hq : (cap = 8 ∧ B = 10) ∨ (cap = 12 ∧ B = 15) ∨ (cap = 24 ∧ B = 33) ∨ (cap = 40 ∧ B = 49) ∨ (cap = 120 ∧ B = 163))
    (hc : (n = 0 ∧ e = g 0 ∧ ∃ f, M e = some (.inl (7, 0, mRf f))) ∨ (n ∈ m_chn ∧ e ≠ g 0 ∧ ∃ f, M e = some (jA n f) ∧ ∀ i, i < n → ∀ y, f i = some y → ∃ (ci : Nat) (fs : List Value), M y = some (.inr (ci, fs)) ∧ ci < 20))
    {κ : Option Nat → mM → Prop} (h : ∀ M' e' N' f', M' a = some (jH md e' n) → M' e' = some (jA N' f') → n < N' → N' ∈ m_chn → M e' = none → (∀ q, M q ≠ none → q ≠ a → M' q = M q) → (∀ f, M e = some (jA n f) → ∀ j, j < n → f' j = f j) → κ (some e') M') : wJx4a65c_grow_d5877 g B κ (some a) M := by
  refine ⟨_, _, _, rfl, ha, rfl, ?_⟩
  refine ⟨_, _, rfl, ha, ?_⟩
  refine ⟨_, _, some e, rfl, ha, rfl, ?_⟩
  rcases hc with ⟨rfl, rfl, f0, he⟩ | ⟨hn, hg, f0, he, hel⟩
  · refine r_len he (by decide) ?_
    refine br_f (by decide) ?_
    refine ⟨_, _, some (g 0), rfl, ha, rfl, ?_⟩
    refine br_t rfl ?_
    have e10 : m_max 10 (nI 0 + 1) = nI 10 := by decide
    rw [e10]
    refine ⟨by decide, ?_, fun q hq0 => ?_⟩
    · rw [nI_clamp (by decide)]
      omega
    · have haq : a ≠ q := fun z => by rw [z, hq0] at ha; cases ha
      refine ⟨a, _, rfl, (m_up_n haq).trans ha, by simp, ?_⟩
      refine h _ q 10 (fun _ => none) (m_up_s _ _ _) ?_ (by omega) (by decide) hq0 ?_ (fun f _ j hj => absurd hj (by omega))
      · rw [m_up_n (fun z => haq z.symm), m_up_s, nI_clamp (by decide)]
      · intro q' h1 h2
        rw [m_up_n h2, m_up_n (fun z => h1 (by rw [z]; exact hq0))]
  · obtain ⟨h10, h163⟩ := m_chn_le hn
    obtain ⟨hB, hne⟩ := m_chn_bd hn hcap hq
    obtain ⟨hnx, hmx⟩ := m_chn_next n hn hne
    have hnx2 := m_chn_le hnx
    refine r_len he (by decide) ?_
    refine br_t (show (0 : Int32) < nI n from nI_lt (a := 0) (by omega) (by omega)) ?_
    have hnl : nI n + m_max (nI n + 1 - nI n) (m_shr (nI n) 1) = nI (n + n / 2) := by
      have e1 : nI n + 1 - nI n = 1 := by
        rw [nI_1, pk_sub (by omega)]
        rw [show n + 1 - n = 1 by omega]
        decide
      rw [e1, hmx, nI_add]
    show (((nI n + (m_max (nI n + 1 - nI n) (m_shr (nI n) 1))) ≤ 0 → _) ∧ (¬ ((nI n + (m_max (nI n + 1 - nI n) (m_shr (nI n) 1))) ≤ 0) → _))
    rw [hnl]
    refine br_f (nI_nle (by omega) (by omega)) (br_f (show ¬ (2147483639 : Int32) < nI (n + n / 2) from nI_nlt (a := 2147483639) (by omega) (by decide)) ?_)
    refine ⟨_, _, some e, rfl, ha, rfl, ?_⟩
    refine ⟨⟨e, _, rfl, he⟩, ?_⟩
    refine br_t rfl ?_
    refine ⟨nI_pos (by omega), by rw [nI_clamp (by omega)]; exact hB, fun q hq0 => ?_⟩
    have haq : a ≠ q := fun z => by rw [z, hq0] at ha; cases ha
    have heq : e ≠ q := fun z => by rw [z, hq0] at he; cases he
    have hae : a ≠ e := fun z => by rw [z, he] at ha; cases ha
    refine r_len ((m_up_n heq).trans he) (by decide) ?_
    have hmin : m_min (nI n) (nI (n + n / 2)) = nI n := if_neg (nI_nlt (by omega) (by omega))
    show m_copyR _ _ 0 _ 0 (m_min (nI n) (nI (n + n / 2))) _
    rw [hmin]
    have hc0 : (0 : Int32).toNatClampNeg = 0 := rfl
    refine ⟨e, n, q, (nI (n + n / 2)).toNatClampNeg, f0, fun _ => none, rfl, rfl, (m_up_n heq).trans he, m_up_s _ _ _, by decide, by decide, nI_pos (by omega), by rw [hc0, nI_clamp (by omega)]; omega, by rw [hc0, nI_clamp (by omega), nI_clamp (by omega)]; omega, ?_, ?_⟩
    · intro i hi y hy
      rw [nI_clamp (by omega)] at hi
      rw [hc0, Nat.zero_add] at hy
      obtain ⟨ci, fs, h1, h2⟩ := hel i hi y hy
      exact ⟨ci, fs, (m_up_n (fun z => by rw [z, hq0] at h1; cases h1)).trans h1, h2⟩
    · refine ⟨a, [.int md, .ref e, .int (nI n)], rfl, (m_up_n haq).trans ((m_up_n haq).trans ha), by simp, ?_⟩
      refine h _ q (n + n / 2) (va_cpy f0 (fun _ => none) 0 0 n) (m_up_s _ _ _) ?_ (by omega) hnx hq0 ?_ ?_
      · rw [m_up_n (fun z => haq z.symm), m_up_s, hc0, nI_clamp (by omega), nI_clamp (by omega)]
      · intro q' h1 h2
        have hq' : q' ≠ q := fun z => h1 (by rw [z]; exact hq0)
        rw [m_up_n h2, m_up_n hq', m_up_n hq']
      · intro f hf j hj
        rw [he] at hf
        have ef : f0 = f := by
          injection hf with hf
          injection hf with hf
          injection hf with _ hf
          injection hf with _ hf
          exact Sum.inr.inj (Sum.inr.inj (Sum.inr.inj (Sum.inr.inj hf)))
        rw [← ef]
        show (if 0 ≤ j ∧ j < 0 + n then f0 (0 + (j - 0)) else none) = f0 j
        rw [if_pos ⟨Nat.zero_le _, by omega⟩]
        congr 1
        omega
end LISTS1
section LISTS2
variable {g : Nat → Nat} {M : mM}
theorem jA_inj {N N' : Nat} {f f' : Nat → Option Nat} (h : (some (jA N f) : Option mCe) = some (jA N' f')) : N = N' ∧ f = f' := by
  injection h with h
  injection h with h
  injection h with _ h
  injection h with h1 h
  exact ⟨h1, Sum.inr.inj (Sum.inr.inj (Sum.inr.inj (Sum.inr.inj h)))⟩
/-- a list's array -/
def jArr (g : Nat → Nat) (M : mM) (e n : Nat) : Prop := (n = 0 ∧ e = g 0 ∧ ∃ f, M e = some (.inl (7, 0, mRf f))) ∨ ∃ N f, M e = some (jA N f) ∧ N ∈ m_chn ∧ n ≤ N ∧ e ≠ g 0 ∧ ∀ i, i < n → ∀ y, f i = some y → ∃ (ci : Nat) (fs : List Value), M y = some (.inr (ci, fs)) ∧ ci < 20
theorem jArr.mv {e n : Nat} {M2 : mM} (h : jArr g M e n) {a : Nat} {c : Nat × List Value} {c2 : Nat × List Value} (ha : M a = some (.inr c)) (ha2 : M2 a = some (.inr c2)) (hc2 : c2.1 = c.1) (ho : ∀ q, q ≠ a → M2 q = M q) : jArr g M2 e n := by
  have hea : e ≠ a := by
    intro z
    rcases h with ⟨_, _, f, hf⟩ | ⟨N, f, hf, _⟩
    · rw [z, ha] at hf; cases hf
    · rw [z, ha] at hf; cases hf
  rcases h with ⟨h1, h2, f, hf⟩ | ⟨N, f, hf, h1, h2, h3, h4⟩
  · exact Or.inl ⟨h1, h2, f, (ho e hea).trans hf⟩
  · refine Or.inr ⟨N, f, (ho e hea).trans hf, h1, h2, h3, fun i hi y hy => ?_⟩
    obtain ⟨ci, fs, q1, q2⟩ := h4 i hi y hy
    by_cases z : y = a
    · subst z
      rw [ha] at q1
      cases q1
      exact ⟨c2.1, c2.2, ha2, by rw [hc2]; exact q2⟩
    · exact ⟨ci, fs, (ho y z).trans q1, q2⟩
theorem j_add {a e n y ci : Nat} {md : Int32} {fs : List Value} (ha : M a = some (jH md e n)) (hA : jArr g M e n) {cap B : Nat} (hcap : n < cap) (hq : (cap = 8 ∧ B = 10) ∨ (cap = 12 ∧ B = 15) ∨ (cap = 24 ∧ B = 33) ∨ (cap = 40 ∧ B = 49) ∨ (cap = 120 ∧ B = 163)) (hy : M y = some (.inr (ci, fs))) (hci : ci < 20) (hya : y ≠ a)
    {κ : Int32 → mM → Prop} (h : ∀ M' e' N' f', M' a = some (jH (md + 1) e' (n + 1)) → M' e' = some (jA N' f') → N' ∈ m_chn → n + 1 ≤ N' → (e' = e ∨ M e' = none) → e' ≠ a → (∀ q, M q ≠ none → q ≠ a → (q ≠ e ∨ e = g 0) → M' q = M q) → f' n = some y → (∀ f N, M e = some (jA N f) → ∀ j, j < n → f' j = f j) → κ 1 M') : wJx4a65c_add_9ea2d g B κ (some a) (some y) M := by
  refine ⟨_, _, _, rfl, ha, rfl, ?_⟩
  refine ⟨_, _, rfl, ha, by simp, ?_⟩
  have ho : ∀ q, q ≠ a → (m_up M a (.inr (4, [Value.int md, .ref e, .int (nI n)].set 0 (.int (md + 1))))) q = M q := fun q hq => m_up_n hq
  have ha2 : (m_up M a (.inr (4, [Value.int md, .ref e, .int (nI n)].set 0 (.int (md + 1))))) a = some (jH (md + 1) e n) := m_up_s _ _ _
  generalize m_up M a (.inr (4, [Value.int md, .ref e, .int (nI n)].set 0 (.int (md + 1)))) = M2 at ho ha2 ⊢
  have hA2 := hA.mv ha ha2 rfl ho
  have hea : e ≠ a := by
    intro z
    rcases hA with ⟨_, _, f, hf⟩ | ⟨N, f, hf, _⟩
    · rw [z, ha] at hf; cases hf
    · rw [z, ha] at hf; cases hf
  have hMe : M2 e = M e := ho e hea
  have hy2 : M2 y = some (.inr (ci, fs)) := (ho y hya).trans hy
  refine ⟨_, _, some e, rfl, ha2, rfl, ?_⟩
  refine ⟨_, _, _, rfl, ha2, rfl, ?_⟩
  refine ⟨_, _, rfl, ha2, ?_⟩
  have grown : (n = 0 ∧ e = g 0 ∧ ∃ f, M2 e = some (.inl (7, 0, mRf f))) ∨ (n ∈ m_chn ∧ e ≠ g 0 ∧ ∃ f, M2 e = some (jA n f) ∧ ∀ i, i < n → ∀ y, f i = some y → ∃ (ci : Nat) (fs : List Value), M2 y = some (.inr (ci, fs)) ∧ ci < 20) → wJx4a65c_grow_d5877 g B (fun x3 M4 => wJx4a65c_add_72be8_11 g B (fun M5 => κ 1 M5) (some a) (some y) x3 (nI n) M4) (some a) M2 := by
    intro hc
    refine j_grow ha2 hcap hq hc (fun M4 e' N' f' h1 h2 h3 h4 h5 h6 h7 => ?_)
    have h163 := m_chn_le h4
    have he'a : e' ≠ a := fun z => by rw [z, ha2] at h5; cases h5
    have hM4y : M4 y = some (.inr (ci, fs)) := (h6 y (by rw [hy2]; exact fun z => by cases z) hya).trans hy2
    refine j_store h1 h2 h3 h163.2 hM4y hci (fun M5 k1 k2 k3 => ?_)
    have hMe' : M e' = none := (ho e' he'a).symm.trans h5
    refine h M5 e' N' _ k1 k2 h4 h3 (Or.inr hMe') he'a (fun q z1 z2 z3 => ?_) (if_pos rfl) (fun f N hf j hj => ?_)
    · have z5 : q ≠ e' := fun z => z1 (by rw [z]; exact hMe')
      exact (k3 q z2 z5).trans ((h6 q (by rw [ho q z2]; exact z1) z2).trans (ho q z2))
    · show va_up f' n (some y) j = f j
      rw [show va_up f' n (some y) j = f' j from if_neg (by omega)]
      rcases hc with ⟨z, _⟩ | ⟨_, _, f0, hf0, _⟩
      · omega
      · rw [← hMe, hf0] at hf
        obtain ⟨_, rfl⟩ := jA_inj hf
        exact h7 f0 hf0 j hj
  rcases hA2 with ⟨rfl, rfl, f0, he⟩ | ⟨N, f0, he, hN, hnN, hg, hel⟩
  · refine r_len he (by decide) ?_
    refine br_t (by decide) ?_
    refine ⟨_, _, rfl, ha2, ?_⟩
    exact grown (Or.inl ⟨rfl, rfl, f0, he⟩)
  · have h163 := m_chn_le hN
    refine r_len he (by decide) ?_
    by_cases hf : n = N
    · subst hf
      refine br_t rfl ?_
      refine ⟨_, _, rfl, ha2, ?_⟩
      exact grown (Or.inr ⟨hN, hg, f0, he, hel⟩)
    · refine br_f (fun z => hf ((nI_eq (by omega) (by omega)).mp z)) ?_
      refine j_store ha2 he (by omega) h163.2 hy2 hci (fun M5 k1 k2 k3 => ?_)
      refine h M5 e N _ k1 k2 hN (by omega) (Or.inl rfl) hea (fun q z1 z2 z3 => ?_) (if_pos rfl) (fun f N' hf' j hj => ?_)
      · rcases z3 with z3 | z3
        · exact (k3 q z2 z3).trans (ho q z2)
        · exact absurd z3 hg
      · show va_up f0 n (some y) j = f j
        rw [show va_up f0 n (some y) j = f0 j from if_neg (by omega)]
        rw [← hMe, he] at hf'
        rw [(jA_inj hf').2]
end LISTS2
section LISTS3
variable {g : Nat → Nat} {Y : mY} {S : mS} {M : mM}
theorem m_cellL {k i : Nat} (hk : mLk k = true) : m_cell Y S k i = jH (sI S k i 0) (se S k i) (sL S k i).length := by
  rcases mLk_c hk with rfl | rfl | rfl | rfl <;> rfl
theorem mR.e7 (H : mR g Y S M) : M (yA Y 34 0) = some (.inl (7, 0, mRf (sP S 34 0))) := by
  have h := H.arr (k := 34) (i := 0) (by rw [H.2.2.2.2.2.2.1]; omega) (by decide) rfl
  rw [H.2.2.2.2.2.2.2.2.2.2] at h
  exact h
theorem mR.seN (H : mR g Y S M) {k i : Nat} (hk : mLk k = true) (hi : i < yn Y k) : M (se S k i) ≠ none := by
  rcases H.2.2.1 k i hk hi with ⟨h, _⟩ | ⟨N, f, h, _⟩
  · rw [h, H.e7]; exact fun z => by cases z
  · rw [h]; exact fun z => by cases z
theorem mR.seA (H : mR g Y S M) {k i k' i' : Nat} (hk : mLk k = true) (hi : i < yn Y k) (hi' : i' < yn Y k') (hz : yA Y k' i' = se S k i) : se S k i = yA Y 34 0 := by
  rcases H.2.2.1 k i hk hi with ⟨h, _⟩ | ⟨N, f, h, _⟩
  · exact h
  · rw [← hz, H.1 k' i' hi'] at h
    exact absurd (Option.some.inj h) (m_cell_na _ _ _ _ _)
theorem mR.jArr (H : mR g Y S M) {k i : Nat} (hk : mLk k = true) (hi : i < yn Y k) : jArr g M (se S k i) (sL S k i).length := by
  rcases H.2.2.1 k i hk hi with ⟨h, h2⟩ | ⟨N, f, h, h1, h2, h3⟩
  · refine Or.inl ⟨by rw [h2]; rfl, h.trans H.2.2.2.2.2.2.2.1, _, by rw [h]; exact H.e7⟩
  · refine Or.inr ⟨N, f, h, h1, h2, fun z => ?_, fun i' hi' y hy => ?_⟩
    · rw [z, ← H.2.2.2.2.2.2.2.1, H.e7] at h
      cases h
    · obtain ⟨x, hx⟩ : ∃ x, (sL S k i)[i']? = some x := ⟨_, List.getElem?_eq_getElem hi'⟩
      have e := h3 i' x hx
      rw [e] at hy
      cases hy
      have hl := H.lL hk hi hx
      have hek : m_ak (m_ek k i) = 99 ∧ m_cls (m_ek k i) < 20 := by
        unfold m_ek
        split
        · split <;> decide
        · decide
        · split <;> decide
        · decide
      exact ⟨_, _, H.at hl hek.1, hek.2⟩
theorem m_ekc (k i : Nat) : m_ak (m_ek k i) = 99 ∧ m_cls (m_ek k i) < 20 := by
  unfold m_ek
  split
  · split <;> decide
  · decide
  · split <;> decide
  · decide
theorem mR.putL (H : mR g Y S M) {k i : Nat} (hk : mLk k = true) (hi : i < yn Y k) {M' : mM} {md : Int32} {e : Nat} {xs : List Nat} (hh : M' (yA Y k i) = some (jH md e xs.length))
    (hla : (e = yA Y 34 0 ∧ xs = []) ∨ ∃ (N : Nat) (f : Nat → Option Nat), M' e = some (jA N f) ∧ N ∈ m_chn ∧ xs.length ≤ N ∧ ∀ (j x : Nat), xs[j]? = some x → f j = some (yA Y (m_ek k i) x))
    (he : e = se S k i ∨ M e = none) (hfr : ∀ q, M q ≠ none → q ≠ yA Y k i → (q ≠ se S k i ∨ se S k i = yA Y 34 0) → M' q = M q) (hx : ∀ x ∈ xs, x < yn Y (m_ek k i)) : mR g Y (uL S k i md e xs) M' := by
  have eL : sL (uL S k i md e xs) k i = xs := if_pos ⟨rfl, rfl⟩
  have eE : se (uL S k i md e xs) k i = e := if_pos ⟨rfl, rfl⟩
  have eI : sI (uL S k i md e xs) k i 0 = md := if_pos ⟨rfl, rfl, rfl⟩
  have nL : ∀ k' i', ¬ (k' = k ∧ i' = i) → sL (uL S k i md e xs) k' i' = sL S k' i' := fun k' i' z => if_neg z
  have nE : ∀ k' i', ¬ (k' = k ∧ i' = i) → se (uL S k i md e xs) k' i' = se S k' i' := fun k' i' z => if_neg z
  have seM' : ∀ k' i', mLk k' = true → i' < yn Y k' → ¬ (k' = k ∧ i' = i) → se S k' i' ≠ yA Y 34 0 → M' (se S k' i') = M (se S k' i') := by
    intro k' i' hk' hi' z h7
    refine hfr _ (H.seN hk' hi') (fun w => h7 (H.seA hk' hi' hi w.symm)) ?_
    by_cases w : se S k' i' = se S k i
    · exact absurd (H.2.2.2.1 k' i' k i hk' hi' hk hi w h7) z
    · exact Or.inl w
  refine ⟨fun k' i' hi' => ?_, H.2.1, fun k' i' hk' hi' => ?_, fun k1 i1 k2 i2 hk1 hi1 hk2 hi2 heq hne => ?_, fun k' i' hk' hi' x hx' => ?_, H.2.2.2.2.2.1, H.2.2.2.2.2.2⟩
  · by_cases z : k' = k ∧ i' = i
    · obtain ⟨rfl, rfl⟩ := z
      rw [hh, m_cellL hk, eL, eE, eI]
    · have hc : m_cell Y (uL S k i md e xs) k' i' = m_cell Y S k' i' := m_cell_cg (fun f t => m_fv_cg (if_neg (fun w => z ⟨w.1, w.2.1⟩)) rfl rfl rfl (nE k' i' z) (nL k' i' z)) rfl rfl rfl
      rw [hc, hfr _ (by rw [H.1 k' i' hi']; exact fun w => by cases w) (H.ne hi hi' z) ?_, H.1 k' i' hi']
      by_cases w : yA Y k' i' = se S k i
      · exact Or.inr (H.seA hk hi hi' w)
      · exact Or.inl w
  · by_cases z : k' = k ∧ i' = i
    · obtain ⟨rfl, rfl⟩ := z
      unfold m_La
      rw [eL, eE]
      exact hla
    · have h := H.2.2.1 k' i' hk' hi'
      unfold m_La at h ⊢
      rw [nL k' i' z, nE k' i' z]
      rcases h with h | ⟨N, f, a1, a2⟩
      · exact Or.inl h
      · refine Or.inr ⟨N, f, (seM' k' i' hk' hi' z (fun w => ?_)).trans a1, a2⟩
        rw [w, H.e7] at a1
        cases a1
  · have hnn : ∀ k' i', mLk k' = true → i' < yn Y k' → M e = none → se S k' i' ≠ e := fun k' i' hk' hi' hn w => H.seN hk' hi' (by rw [w]; exact hn)
    by_cases z1 : k1 = k ∧ i1 = i
    · by_cases z2 : k2 = k ∧ i2 = i
      · exact ⟨z1.1.trans z2.1.symm, z1.2.trans z2.2.symm⟩
      · obtain ⟨rfl, rfl⟩ := z1
        rw [eE, nE k2 i2 z2] at heq
        rw [eE] at hne
        rcases he with he | he
        · rw [he] at heq hne
          exact H.2.2.2.1 k1 i1 k2 i2 hk1 hi1 hk2 hi2 heq hne
        · exact absurd heq.symm (hnn k2 i2 hk2 hi2 he)
    · by_cases z2 : k2 = k ∧ i2 = i
      · obtain ⟨rfl, rfl⟩ := z2
        rw [eE, nE k1 i1 z1] at heq
        rw [nE k1 i1 z1] at hne
        rcases he with he | he
        · rw [he] at heq
          exact H.2.2.2.1 k1 i1 k2 i2 hk1 hi1 hk2 hi2 heq hne
        · exact absurd heq (hnn k1 i1 hk1 hi1 he)
      · rw [nE k1 i1 z1, nE k2 i2 z2] at heq
        rw [nE k1 i1 z1] at hne
        exact H.2.2.2.1 k1 i1 k2 i2 hk1 hi1 hk2 hi2 heq hne
  · by_cases z : k' = k ∧ i' = i
    · obtain ⟨rfl, rfl⟩ := z
      rw [eL] at hx'
      exact hx x hx'
    · rw [nL k' i' z] at hx'
      exact H.2.2.2.2.1 k' i' hk' hi' x hx'
theorem mR.len (H : mR g Y S M) {k i : Nat} (hk : mLk k = true) (hi : i < yn Y k) : (sL S k i).length ≤ 163 := by
  rcases H.2.2.1 k i hk hi with ⟨_, h⟩ | ⟨N, f, _, hN, h, _⟩
  · rw [h]; exact Nat.zero_le _
  · exact Nat.le_trans h (m_chn_le hN).2
/-- the lists' calls -/
theorem s_size (H : mR g Y S M) {k i : Nat} (hk : mLk k = true) (hi : i < yn Y k) {κ : Int32 → mM → Prop} (h : κ (nI (sL S k i).length) M) : wJx4a65c_size_8abf5 κ (some (yA Y k i)) M := ⟨_, _, _, rfl, H.hdr hk hi, rfl, h⟩
theorem s_rcL (H : mR g Y S M) {k i : Nat} (hk : mLk k = true) (hi : i < yn Y k) {κ : Nat → Prop} (h : κ (yA Y k i)) : m_rc M (some (yA Y k i)) 4 κ := ⟨_, _, rfl, H.hdr hk hi, h⟩
theorem s_isEmpty (H : mR g Y S M) {k i : Nat} (hk : mLk k = true) (hi : i < yn Y k) {κ : Int32 → mM → Prop} (h1 : sL S k i = [] → κ 1 M) (h0 : sL S k i ≠ [] → κ 0 M) : wJx4a65c_isEmpty_aae02 κ (some (yA Y k i)) M := by
  refine ⟨_, _, _, rfl, H.hdr hk hi, rfl, ?_⟩
  have hl := H.len hk hi
  by_cases z : sL S k i = []
  · exact br_t (by rw [z]; rfl) (h1 z)
  · have : 0 < (sL S k i).length := List.length_pos_iff.mpr z
    exact br_f (nI_ne0 this (by omega)) (h0 z)
theorem s_get (H : mR g Y S M) {k i j x : Nat} (hk : mLk k = true) (hi : i < yn Y k) (hx : (sL S k i)[j]? = some x) {κ : Option Nat → mM → Prop} (h : κ (some (yA Y (m_ek k i) x)) M) : wJx4a65c_get_915e3 κ (some (yA Y k i)) (nI j) M := by
  have hlt : j < (sL S k i).length := (List.getElem?_eq_some_iff.mp hx).1
  rcases H.2.2.1 k i hk hi with ⟨_, e0⟩ | ⟨N, f, hM, hN, hle, hf⟩
  · rw [e0] at hlt
    cases hlt
  · refine j_get (H.hdr hk hi) hM hle (m_chn_le hN).2 hlt ?_
    rw [hf j x hx]
    exact h
theorem s_add (H : mR g Y S M) {k i x : Nat} (hk : mLk k = true) (hi : i < yn Y k) (hx : x < yn Y (m_ek k i)) {cap B : Nat} (hcap : (sL S k i).length < cap) (hq : (cap = 8 ∧ B = 10) ∨ (cap = 12 ∧ B = 15) ∨ (cap = 24 ∧ B = 33) ∨ (cap = 40 ∧ B = 49) ∨ (cap = 120 ∧ B = 163)) {κ : Int32 → mM → Prop} (h : ∀ M' md e, mR g Y (uL S k i md e (sL S k i ++ [x])) M' → κ 1 M') : wJx4a65c_add_9ea2d g B κ (some (yA Y k i)) (some (yA Y (m_ek k i) x)) M := by
  have hy := H.at hx (m_ekc k i).1
  refine j_add (H.hdr hk hi) (H.jArr hk hi) hcap hq hy (m_ekc k i).2 (fun z => ?_) (fun M' e' N' f' h1 h2 h3 h4 h5 h6 h7 h8 h9 => ?_)
  · rw [z, H.hdr hk hi] at hy
    have h4 := congrArg Prod.fst (Sum.inr.inj (Option.some.inj hy))
    have : m_cls (m_ek k i) ≠ 4 := by
      unfold m_ek
      split
      · split <;> decide
      · decide
      · split <;> decide
      · decide
    exact this h4.symm
  · have hl : (sL S k i ++ [x]).length = (sL S k i).length + 1 := by rw [List.length_append]; rfl
    refine h M' _ e' (H.putL hk hi (by rw [hl]; exact h1) (Or.inr ⟨N', f', h2, h3, by rw [hl]; exact h4, fun j z hj => ?_⟩) h5 (fun q q1 q2 q3 => h7 q q1 q2 (q3.imp_right (fun w => w.trans H.2.2.2.2.2.2.2.1))) (fun z hz => ?_))
    · by_cases w : j < (sL S k i).length
      · rw [List.getElem?_append_left w] at hj
        rcases H.2.2.1 k i hk hi with ⟨_, e0⟩ | ⟨N, f, hM, hN, hle, hf⟩
        · rw [e0] at w; cases w
        · rw [h9 f N hM j w]
          exact hf j z hj
      · have hj2 := (List.getElem?_eq_some_iff.mp hj).1
        rw [hl] at hj2
        have ej : j = (sL S k i).length := by omega
        subst ej
        rw [List.getElem?_append_right (Nat.le_refl _), Nat.sub_self] at hj
        cases hj
        exact h8
    · rcases List.mem_append.mp hz with hz | hz
      · exact H.2.2.2.2.1 k i hk hi z hz
      · rw [List.mem_singleton.mp hz]
        exact hx
end LISTS3
