/-! THE PURE SIDE, 3: putting in and taking out in a list's middle -/
section LISTS4
variable {g : Nat → Nat} {M : mM}
theorem j_ins {a e n N y ci j : Nat} {md : Int32} {f : Nat → Option Nat} {fs : List Value} {B : Nat} (ha : M a = some (jH md e n)) (he : M e = some (jA N f)) (hn : n < N) (hN : N ≤ 163) (hj : j ≤ n) (hel : ∀ i, i < n → ∀ y, f i = some y → ∃ (ci : Nat) (fs : List Value), M y = some (.inr (ci, fs)) ∧ ci < 20) (hy : M y = some (.inr (ci, fs))) (hci : ci < 20) {κ : mM → Prop}
    (h : ∀ M' f', M' a = some (jH md e (n + 1)) → M' e = some (jA N f') → (∀ q, q ≠ a → q ≠ e → M' q = M q) → f' j = some y → (∀ i, i < j → f' i = f i) → (∀ i, j ≤ i → i < n → f' (i + 1) = f i) → κ M') : wJx4a65c_add_7a177_38 g B κ (some a) (nI j) (some y) (nI n) (some e) M := by
  have hae : a ≠ e := fun z => by rw [z, he] at ha; cases ha
  have hye : y ≠ e := fun z => by rw [z, he] at hy; cases hy
  have e1 : (nI j + 1).toNatClampNeg = j + 1 := by rw [nI_1, nI_clamp (by omega)]
  have e2 : (nI n - nI j).toNatClampNeg = n - j := by rw [pk_sub hj, nI_clamp (by omega)]
  have e3 : (nI j).toNatClampNeg = j := nI_clamp (by omega)
  refine ⟨e, N, e, N, f, f, rfl, rfl, he, he, nI_pos (by omega), by rw [nI_1]; exact nI_pos (by omega), by rw [pk_sub hj]; exact nI_pos (by omega), by rw [e2, e3]; omega, by rw [e1, e2]; omega, fun i hi y' hy' => ?_, ?_⟩
  · rw [e2] at hi
    rw [e3] at hy'
    exact hel (j + i) (by omega) y' hy'
  · rw [e1, e2, e3]
    refine ⟨e, N, _, rfl, m_up_s _ _ _, vp_in_nI (by omega) (by omega), fun y' hy' => ?_, ?_⟩
    · cases hy'
      exact ⟨ci, fs, (m_up_n hye).trans hy, hci, fun z => absurd z (by decide), fun z => absurd z (by decide)⟩
    · rw [m_up_up, e3]
      refine ⟨a, [.int md, .ref e, .int (nI n)], rfl, (m_up_n hae).trans ha, by simp, ?_⟩
      refine h _ (va_up (va_cpy f f j (j + 1) (n - j)) j (some y)) ?_ ?_ ?_ (if_pos rfl) (fun i hi => ?_) (fun i hi1 hi2 => ?_)
      · rw [m_up_s, nI_1]
        rfl
      · rw [m_up_n (fun z => hae z.symm), m_up_s]
      · intro q h1 h2
        rw [m_up_n h1, m_up_n h2]
      · rw [show va_up (va_cpy f f j (j + 1) (n - j)) j (some y) i = va_cpy f f j (j + 1) (n - j) i from if_neg (by omega)]
        exact if_neg (by omega)
      · rw [show va_up (va_cpy f f j (j + 1) (n - j)) j (some y) (i + 1) = va_cpy f f j (j + 1) (n - j) (i + 1) from if_neg (by omega)]
        rw [show va_cpy f f j (j + 1) (n - j) (i + 1) = f (j + (i + 1 - (j + 1))) from if_pos ⟨by omega, by omega⟩]
        congr 1
        omega
theorem j_addAt {a e n y ci j : Nat} {md : Int32} {fs : List Value} (ha : M a = some (jH md e n)) (hA : jArr g M e n) (hj : j ≤ n) {cap B : Nat} (hcap : n < cap) (hq : (cap = 8 ∧ B = 10) ∨ (cap = 12 ∧ B = 15) ∨ (cap = 24 ∧ B = 33) ∨ (cap = 40 ∧ B = 49) ∨ (cap = 120 ∧ B = 163)) (hy : M y = some (.inr (ci, fs))) (hci : ci < 20) (hya : y ≠ a)
    {κ : mM → Prop} (h : ∀ M' e' N' f', M' a = some (jH (md + 1) e' (n + 1)) → M' e' = some (jA N' f') → N' ∈ m_chn → n + 1 ≤ N' → (e' = e ∨ M e' = none) → e' ≠ a → (∀ q, M q ≠ none → q ≠ a → (q ≠ e ∨ e = g 0) → M' q = M q) → f' j = some y → (∀ f N, M e = some (jA N f) → (∀ i, i < j → f' i = f i) ∧ (∀ i, j ≤ i → i < n → f' (i + 1) = f i)) → κ M') : wJx4a65c_add_7a177 g B κ (some a) (nI j) (some y) M := by
  have hn163 : n ≤ 163 := by
    rcases hA with ⟨z, _⟩ | ⟨N, _, _, hN, hle, _⟩
    · omega
    · exact Nat.le_trans hle (m_chn_le hN).2
  refine ⟨_, _, rfl, ha, ?_⟩
  refine ⟨_, _, _, rfl, ha, rfl, ?_⟩
  refine br_f (nI_nlt hj (by omega)) (br_t (nI_pos' (by omega)) ?_)
  refine ⟨_, _, _, rfl, ha, rfl, ?_⟩
  refine ⟨_, _, rfl, ha, by simp, ?_⟩
  have ho : ∀ q, q ≠ a → (m_up M a (.inr (4, [Value.int md, .ref e, .int (nI n)].set 0 (.int (md + 1))))) q = M q := fun q hq => m_up_n hq
  have ha2 : (m_up M a (.inr (4, [Value.int md, .ref e, .int (nI n)].set 0 (.int (md + 1))))) a = some (jH (md + 1) e n) := m_up_s _ _ _
  generalize m_up M a (.inr (4, [Value.int md, .ref e, .int (nI n)].set 0 (.int (md + 1)))) = M2 at ho ha2 ⊢
  have hA2 := hA.mv ha ha2 rfl ho
  have hea : e ≠ a := by
    intro z
    rcases hA with ⟨_, _, f, hf⟩ | ⟨N, f, hf, _⟩
    · rw [z, ha] at hf; cases hf
    · rw [z, ha] at hf; cases hf
  have hMe : M2 e = M e := ho e hea
  have hy2 : M2 y = some (.inr (ci, fs)) := (ho y hya).trans hy
  refine ⟨_, _, _, rfl, ha2, rfl, ?_⟩
  refine ⟨_, _, some e, rfl, ha2, rfl, ?_⟩
  have grown : (n = 0 ∧ e = g 0 ∧ ∃ f, M2 e = some (.inl (7, 0, mRf f))) ∨ (n ∈ m_chn ∧ e ≠ g 0 ∧ ∃ f, M2 e = some (jA n f) ∧ ∀ i, i < n → ∀ y, f i = some y → ∃ (ci : Nat) (fs : List Value), M2 y = some (.inr (ci, fs)) ∧ ci < 20) → wJx4a65c_grow_d5877 g B (fun x9 M10 => wJx4a65c_add_7a177_38 g B κ (some a) (nI j) (some y) (nI n) x9 M10) (some a) M2 := by
    intro hc
    refine j_grow ha2 hcap hq hc (fun M4 e' N' f' h1 h2 h3 h4 h5 h6 h7 => ?_)
    have h163 := m_chn_le h4
    have he'a : e' ≠ a := fun z => by rw [z, ha2] at h5; cases h5
    have hM4y : M4 y = some (.inr (ci, fs)) := (h6 y (by rw [hy2]; exact fun z => by cases z) hya).trans hy2
    refine j_ins h1 h2 h3 h163.2 hj (fun i hi y' hy' => ?_) hM4y hci (fun M5 f5 k1 k2 k3 k4 k5 k6 => ?_)
    · rcases hc with ⟨z, _⟩ | ⟨_, _, f0, hf0, hel⟩
      · omega
      · rw [h7 f0 hf0 i hi] at hy'
        obtain ⟨c1, s1, q1, q2⟩ := hel i hi y' hy'
        by_cases w : y' = a
        · subst w
          rw [ha2] at q1
          cases q1
          exact ⟨_, _, h1, q2⟩
        · exact ⟨c1, s1, (h6 y' (by rw [q1]; exact fun z => by cases z) w).trans q1, q2⟩
    · have hMe' : M e' = none := (ho e' he'a).symm.trans h5
      refine h M5 e' N' f5 k1 k2 h4 h3 (Or.inr hMe') he'a (fun q z1 z2 z3 => ?_) k4 (fun f N hf => ?_)
      · have z5 : q ≠ e' := fun z => z1 (by rw [z]; exact hMe')
        exact (k3 q z2 z5).trans ((h6 q (by rw [ho q z2]; exact z1) z2).trans (ho q z2))
      · rcases hc with ⟨z, _⟩ | ⟨_, _, f0, hf0, _⟩
        · exact ⟨fun i hi => absurd hi (by omega), fun i hi1 hi2 => absurd hi2 (by omega)⟩
        · rw [← hMe, hf0] at hf
          obtain ⟨_, rfl⟩ := jA_inj hf
          exact ⟨fun i hi => (k5 i hi).trans (h7 f0 hf0 i (by omega)), fun i hi1 hi2 => (k6 i hi1 hi2).trans (h7 f0 hf0 i hi2)⟩
  rcases hA2 with ⟨rfl, rfl, f0, he⟩ | ⟨N, f0, he, hN, hnN, hg, hel⟩
  · refine r_len he (by decide) ?_
    refine br_t (by decide) ?_
    refine ⟨_, _, rfl, ha2, ?_⟩
    exact grown (Or.inl ⟨rfl, rfl, f0, he⟩)
  · have h163 := m_chn_le hN
    refine r_len he (by decide) ?_
    by_cases hf : n = N
    · subst hf
      refine br_t rfl ?_
      refine ⟨_, _, rfl, ha2, ?_⟩
      exact grown (Or.inr ⟨hN, hg, f0, he, hel⟩)
    · refine br_f (fun z => hf ((nI_eq (by omega) (by omega)).mp z)) ?_
      refine j_ins ha2 he (by omega) h163.2 hj hel hy2 hci (fun M5 f5 k1 k2 k3 k4 k5 k6 => ?_)
      refine h M5 e N f5 k1 k2 hN (by omega) (Or.inl rfl) hea (fun q z1 z2 z3 => ?_) k4 (fun f N' hf' => ?_)
      · rcases z3 with z3 | z3
        · exact (k3 q z2 z3).trans (ho q z2)
        · exact absurd z3 hg
      · rw [← hMe, he] at hf'
        rw [← (jA_inj hf').2]
        exact ⟨k5, k6⟩
/-- taking out -/
theorem j_rm34 {a e n N : Nat} {md : Int32} {f : Nat → Option Nat} (ha : M a = some (jH md e (n + 1))) (he : M e = some (jA N f)) (hn : n < N) (hN : N ≤ 163) {κ : mM → Prop}
    (h : ∀ M', M' a = some (jH md e n) → M' e = some (jA N (va_up f n none)) → (∀ q, q ≠ a → q ≠ e → M' q = M q) → κ M') : wJx4a65c_fastRemove_b59b0_34 κ (some a) (some e) (nI n) M := by
  have hae : a ≠ e := fun z => by rw [z, he] at ha; cases ha
  refine ⟨a, _, rfl, ha, by simp, ?_⟩
  refine ⟨e, N, f, rfl, (m_up_n (fun z => hae z.symm)).trans he, vp_in_nI hn (by omega), fun y hy => (by cases hy), ?_⟩
  refine h _ ?_ ?_ ?_
  · rw [m_up_n hae, m_up_s]
    rfl
  · rw [m_up_s, nI_clamp (by omega)]
  · intro q h1 h2
    rw [m_up_n h2, m_up_n h1]
theorem j_remove {a e n N j : Nat} {md : Int32} {f : Nat → Option Nat} (ha : M a = some (jH md e (n + 1))) (he : M e = some (jA N f)) (hn : n < N) (hN : N ≤ 163) (hj : j ≤ n) (hel : ∀ i, i < n + 1 → ∀ y, f i = some y → ∃ (ci : Nat) (fs : List Value), M y = some (.inr (ci, fs)) ∧ ci < 20) {κ : Option Nat → mM → Prop}
    (h : ∀ M' f', M' a = some (jH (md + 1) e n) → M' e = some (jA N f') → (∀ q, q ≠ a → q ≠ e → M' q = M q) → (∀ i, i < j → f' i = f i) → (∀ i, j ≤ i → i < n → f' i = f (i + 1)) → κ (f j) M') : wJx4a65c_remove_915e3 κ (some a) (nI j) M := by
  have hae : a ≠ e := fun z => by rw [z, he] at ha; cases ha
  refine ⟨_, _, _, rfl, ha, rfl, ?_⟩
  refine j_checkIndex (by omega) (by omega) ?_
  refine ⟨_, _, some e, rfl, ha, rfl, ?_⟩
  refine ⟨_, N, f, rfl, he, vp_in_nI (by omega) (by omega), ?_⟩
  rw [nI_clamp (by omega)]
  refine ⟨_, _, rfl, ha, ?_⟩
  refine ⟨_, _, _, rfl, ha, rfl, ?_⟩
  refine ⟨_, _, rfl, ha, by simp, ?_⟩
  have ho : ∀ q, q ≠ a → (m_up M a (.inr (4, [Value.int md, .ref e, .int (nI (n + 1))].set 0 (.int (md + 1))))) q = M q := fun q hq => m_up_n hq
  have ha2 : (m_up M a (.inr (4, [Value.int md, .ref e, .int (nI (n + 1))].set 0 (.int (md + 1))))) a = some (jH (md + 1) e (n + 1)) := m_up_s _ _ _
  generalize m_up M a (.inr (4, [Value.int md, .ref e, .int (nI (n + 1))].set 0 (.int (md + 1)))) = M2 at ho ha2 ⊢
  have he2 : M2 e = some (jA N f) := (ho e (fun z => hae z.symm)).trans he
  refine ⟨_, _, _, rfl, ha2, rfl, ?_⟩
  dsimp only
  rw [nI_pred]
  by_cases z : n = j
  · subst z
    refine br_t (nI_le (Nat.le_refl _) (by omega)) ?_
    refine j_rm34 ha2 he2 hn hN (fun M' k1 k2 k3 => ?_)
    refine h M' _ k1 k2 (fun q q1 q2 => (k3 q q1 q2).trans (ho q q1)) (fun i hi => if_neg (by omega)) (fun i hi1 hi2 => absurd hi2 (by omega))
  · refine br_f (nI_ge (by omega) (by omega)) ?_
    have e1 : (nI j + 1).toNatClampNeg = j + 1 := by rw [nI_1, nI_clamp (by omega)]
    have e2 : (nI n - nI j).toNatClampNeg = n - j := by rw [pk_sub hj, nI_clamp (by omega)]
    have e3 : (nI j).toNatClampNeg = j := nI_clamp (by omega)
    refine ⟨e, N, e, N, f, f, rfl, rfl, he2, he2, by rw [nI_1]; exact nI_pos (by omega), nI_pos (by omega), by rw [pk_sub hj]; exact nI_pos (by omega), by rw [e1, e2]; omega, by rw [e2, e3]; omega, fun i hi y' hy' => ?_, ?_⟩
    · rw [e2] at hi
      rw [e1] at hy'
      obtain ⟨c1, s1, q1, q2⟩ := hel (j + 1 + i) (by omega) y' hy'
      by_cases w : y' = a
      · subst w
        rw [ha] at q1
        cases q1
        exact ⟨_, _, ha2, q2⟩
      · exact ⟨c1, s1, (ho y' w).trans q1, q2⟩
    · rw [e1, e2, e3]
      refine j_rm34 (M := m_up M2 e _) ((m_up_n hae).trans ha2) (m_up_s _ _ _) hn hN (fun M' k1 k2 k3 => ?_)
      refine h M' _ k1 k2 (fun q q1 q2 => (k3 q q1 q2).trans ((m_up_n q2).trans (ho q q1))) (fun i hi => ?_) (fun i hi1 hi2 => ?_)
      · rw [show va_up (va_cpy f f (j + 1) j (n - j)) n none i = va_cpy f f (j + 1) j (n - j) i from if_neg (by omega)]
        exact if_neg (by omega)
      · rw [show va_up (va_cpy f f (j + 1) j (n - j)) n none i = va_cpy f f (j + 1) j (n - j) i from if_neg (by omega)]
        rw [show va_cpy f f (j + 1) j (n - j) i = f (j + 1 + (i - j)) from if_pos ⟨by omega, by omega⟩]
        congr 1
        omega
end LISTS4
section LISTS5
variable {g : Nat → Nat} {Y : mY} {S : mS} {M : mM}
theorem s_addAt (H : mR g Y S M) {k i x j : Nat} (hk : mLk k = true) (hi : i < yn Y k) (hx : x < yn Y (m_ek k i)) (hj : j ≤ (sL S k i).length) {cap B : Nat} (hcap : (sL S k i).length < cap) (hq : (cap = 8 ∧ B = 10) ∨ (cap = 12 ∧ B = 15) ∨ (cap = 24 ∧ B = 33) ∨ (cap = 40 ∧ B = 49) ∨ (cap = 120 ∧ B = 163)) {κ : mM → Prop} (h : ∀ M' md e, mR g Y (uL S k i md e ((sL S k i).take j ++ x :: (sL S k i).drop j)) M' → κ M') : wJx4a65c_add_7a177 g B κ (some (yA Y k i)) (nI j) (some (yA Y (m_ek k i) x)) M := by
  have hy := H.at hx (m_ekc k i).1
  refine j_addAt (H.hdr hk hi) (H.jArr hk hi) hj hcap hq hy (m_ekc k i).2 (fun z => ?_) (fun M' e' N' f' h1 h2 h3 h4 h5 h6 h7 h8 h9 => ?_)
  · rw [z, H.hdr hk hi] at hy
    have h4 := congrArg Prod.fst (Sum.inr.inj (Option.some.inj hy))
    have : m_cls (m_ek k i) ≠ 4 := by
      unfold m_ek
      split
      · split <;> decide
      · decide
      · split <;> decide
      · decide
    exact this h4.symm
  · have ht : ((sL S k i).take j).length = j := List.length_take_of_le hj
    have hl : ((sL S k i).take j ++ x :: (sL S k i).drop j).length = (sL S k i).length + 1 := by
      rw [List.length_append, ht, List.length_cons, List.length_drop]
      omega
    refine h M' _ e' (H.putL hk hi (by rw [hl]; exact h1) (Or.inr ⟨N', f', h2, h3, by rw [hl]; exact h4, fun i' z hz => ?_⟩) h5 (fun q q1 q2 q3 => h7 q q1 q2 (q3.imp_right (fun w => w.trans H.2.2.2.2.2.2.2.1))) (fun z hz => ?_))
    · have hi2 := (List.getElem?_eq_some_iff.mp hz).1
      rw [hl] at hi2
      by_cases w : i' < j
      · rw [List.getElem?_append_left (by rw [ht]; exact w), List.getElem?_take_of_lt w] at hz
        rcases H.2.2.1 k i hk hi with ⟨_, e0⟩ | ⟨N, f, hM, hN, hle, hf⟩
        · rw [e0] at hz; cases hz
        · rw [(h9 f N hM).1 i' w]
          exact hf i' z hz
      · rw [List.getElem?_append_right (by rw [ht]; omega), ht] at hz
        by_cases w2 : i' = j
        · subst w2
          rw [Nat.sub_self] at hz
          cases hz
          exact h8
        · obtain ⟨d, rfl⟩ : ∃ d, i' = j + d + 1 := ⟨i' - j - 1, by omega⟩
          rw [show j + d + 1 - j = d + 1 by omega, List.getElem?_cons_succ, List.getElem?_drop] at hz
          rcases H.2.2.1 k i hk hi with ⟨_, e0⟩ | ⟨N, f, hM, hN, hle, hf⟩
          · rw [e0] at hz; cases hz
          · rw [(h9 f N hM).2 (j + d) (by omega) (by omega)]
            exact hf (j + d) z hz
    · rcases List.mem_append.mp hz with hz | hz
      · exact H.2.2.2.2.1 k i hk hi z (List.mem_of_mem_take hz)
      · rcases List.mem_cons.mp hz with rfl | hz
        · exact hx
        · exact H.2.2.2.2.1 k i hk hi z (List.mem_of_mem_drop hz)
theorem s_remove (H : mR g Y S M) {k i j x : Nat} (hk : mLk k = true) (hi : i < yn Y k) (hx : (sL S k i)[j]? = some x) {κ : Option Nat → mM → Prop} (h : ∀ M' md e, mR g Y (uL S k i md e ((sL S k i).eraseIdx j)) M' → κ (some (yA Y (m_ek k i) x)) M') : wJx4a65c_remove_915e3 κ (some (yA Y k i)) (nI j) M := by
  have hlt : j < (sL S k i).length := (List.getElem?_eq_some_iff.mp hx).1
  have hA := H.jArr hk hi
  rcases H.2.2.1 k i hk hi with ⟨_, e0⟩ | ⟨N, f, hM, hN, hle, hf⟩
  · rw [e0] at hlt
    cases hlt
  · obtain ⟨n, hn⟩ : ∃ n, (sL S k i).length = n + 1 := ⟨(sL S k i).length - 1, by omega⟩
    have hh := H.hdr hk hi
    rw [hn] at hh hle hlt
    have hel : ∀ i', i' < n + 1 → ∀ y, f i' = some y → ∃ (ci : Nat) (fs : List Value), M y = some (.inr (ci, fs)) ∧ ci < 20 := by
      rcases hA with ⟨z, _⟩ | ⟨N', f', hM', _, _, _, hel⟩
      · omega
      · rw [hM] at hM'
        obtain ⟨_, rfl⟩ := jA_inj hM'
        rw [hn] at hel
        exact hel
    have he7 : se S k i ≠ yA Y 34 0 := fun z => by rw [z, H.e7] at hM; cases hM
    refine j_remove hh hM (by omega) (m_chn_le hN).2 (by omega) hel (fun M' f' h1 h2 h3 h4 h5 => ?_)
    rw [hf j x hx]
    have hl : ((sL S k i).eraseIdx j).length = n := by rw [List.length_eraseIdx_of_lt (by omega)]; omega
    refine h M' _ (se S k i) (H.putL hk hi (by rw [hl]; exact h1) (Or.inr ⟨N, f', h2, hN, by rw [hl]; omega, fun i' z hz => ?_⟩) (Or.inl rfl) (fun q q1 q2 q3 => ?_) (fun z hz => H.2.2.2.2.1 k i hk hi z (List.mem_of_mem_eraseIdx hz)))
    · have hi2 := (List.getElem?_eq_some_iff.mp hz).1
      rw [hl] at hi2
      rw [List.getElem?_eraseIdx] at hz
      by_cases w : i' < j
      · rw [if_pos w] at hz
        rw [h4 i' w]
        exact hf i' z hz
      · rw [if_neg w] at hz
        rw [h5 i' (by omega) hi2]
        exact hf (i' + 1) z hz
    · rcases q3 with q3 | q3
      · exact h3 q q2 q3
      · exact absurd q3 he7
end LISTS5
