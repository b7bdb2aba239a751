/-! THE PURE SIDE, 10: queues, yawns and hours of the class -/
/-- what changes inside a yawn or an hour: not who stands where, not the rates -/
def cK (Y0 : mY) (S0 : mS) (Y : mY) (S : mS) : Prop := mFc Y0 S0 Y S ∧ (∀ k, k ≠ 6 → yn Y k = yn Y0 k) ∧ (∀ t, sL S 13 t = sL S0 13 t) ∧ (∀ s, sX S 4 s 5 = sX S0 4 s 5) ∧ (∀ s, sI S 4 s 4 = sI S0 4 s 4) ∧ (∀ k i f, qC k f = true → sI S k i f = sI S0 k i f)
theorem cK.rf (Y : mY) (S : mS) : cK Y S Y S := ⟨mFc.rf Y S, fun _ _ => rfl, fun _ => rfl, fun _ => rfl, fun _ => rfl, fun _ _ _ _ => rfl⟩
theorem cK.tr {Y Y' Y'' : mY} {S S' S'' : mS} (h : cK Y S Y' S') (h' : cK Y' S' Y'' S'') : cK Y S Y'' S'' := ⟨h.1.tr h'.1, fun k hk => (h'.2.1 k hk).trans (h.2.1 k hk), fun t => (h'.2.2.1 t).trans (h.2.2.1 t), fun t => (h'.2.2.2.1 t).trans (h.2.2.2.1 t), fun t => (h'.2.2.2.2.1 t).trans (h.2.2.2.2.1 t), fun k i f q => (h'.2.2.2.2.2 k i f q).trans (h.2.2.2.2.2 k i f q)⟩
theorem cK.q {Y Y' : mY} {S S' : mS} (h : cK Y S Y' S') : cQ Y S Y' S' := ⟨h.2.2.2.2.2, h.2.1 3 (by omega), h.2.1 4 (by omega)⟩
theorem cK.uI {Y : mY} {S : mS} {k i f : Nat} {v : Int32} (hk : k < 20) (h4 : ¬ (k = 4 ∧ f = 4)) (h2 : qC k f = false) : cK Y S Y (uI S k i f v) := ⟨mFc.uI hk, fun _ _ => rfl, fun _ => rfl, fun _ => rfl, fun s => sI_uI (by omega), (cQ.uI (Y := Y) h2).1⟩
theorem cK.uJ {Y : mY} {S : mS} {k i f : Nat} {v : Int64} (hk : k < 20) : cK Y S Y (uJ S k i f v) := ⟨mFc.uJ hk, fun _ _ => rfl, fun _ => rfl, fun _ => rfl, fun s => rfl, fun _ _ _ _ => rfl⟩
theorem cK.uX {Y : mY} {S : mS} {k i f : Nat} {v : Option Nat} (hk : k < 20) (h4 : ¬ (k = 4 ∧ f = 5)) : cK Y S Y (uX S k i f v) := ⟨mFc.uX hk, fun _ _ => rfl, fun _ => rfl, fun s => sX_uX (by omega), fun s => rfl, fun _ _ _ _ => rfl⟩
theorem cK.uN {Y : mY} {S : mS} {k i f v : Nat} (hk : k < 20) : cK Y S Y (uN S k i f v) := ⟨mFc.uN hk, fun _ _ => rfl, fun _ => rfl, fun s => rfl, fun s => rfl, fun _ _ _ _ => rfl⟩
theorem cK.Q {Y Y' : mY} {S S' : mS} (h : cK Y S Y' S') (Q : mWq Y S) : mWq Y' S' := by
  obtain ⟨-, n, a, b, c, -⟩ := h
  refine ⟨fun t ht => ?_, fun s t hs hx => ?_⟩
  · rw [n 3 (by omega)] at ht
    rw [a]
    exact ⟨(Q.1 t ht).1, fun s hs => (b s).trans ((Q.1 t ht).2 s hs)⟩
  · rw [n 4 (by omega)] at hs
    rw [b] at hx
    rw [a, c]
    exact Q.2 s t hs hx
/-- one has stepped out of a line, and doesn't know it yet -/
def mWqx (Y : mY) (S : mS) (s : Nat) : Prop := (∀ t, t < yn Y 3 → (sL S 13 t).Nodup ∧ ∀ s' ∈ sL S 13 t, s' ≠ s ∧ sX S 4 s' 5 = some t) ∧ (∀ s' t, s' < yn Y 4 → s' ≠ s → sX S 4 s' 5 = some t → sI S 4 s' 4 = 1 ∧ s' ∈ sL S 13 t)
theorem cK.Qx {Y Y' : mY} {S S' : mS} {s : Nat} (h : cK Y S Y' S') (Q : mWqx Y S s) : mWqx Y' S' s := by
  obtain ⟨-, n, a, b, c, -⟩ := h
  refine ⟨fun t ht => ?_, fun s' t hs hn hx => ?_⟩
  · rw [n 3 (by omega)] at ht
    rw [a]
    exact ⟨(Q.1 t ht).1, fun s' hs => ⟨((Q.1 t ht).2 s' hs).1, (b s').trans ((Q.1 t ht).2 s' hs).2⟩⟩
  · rw [n 4 (by omega)] at hs
    rw [b] at hx
    rw [a, c]
    exact Q.2 s' t hs hn hx
theorem mWq.rm {Y : mY} {S : mS} (Q : mWq Y S) {t s j : Nat} {md : Int32} {e : Nat} (ht : t < yn Y 3) (hj : (sL S 13 t)[j]? = some s) : mWqx Y (uL S 13 t md e ((sL S 13 t).eraseIdx j)) s := by
  have hnd := (Q.1 t ht).1
  have hst : sX S 4 s 5 = some t := (Q.1 t ht).2 s (List.mem_of_getElem? hj)
  have hout : s ∉ (sL S 13 t).eraseIdx j := by
    intro hm
    obtain ⟨i, hi, hx⟩ := List.mem_eraseIdx_iff_getElem?.mp hm
    exact hi ((List.getElem?_inj (List.getElem?_eq_some_iff.mp hx).1 hnd).mp (hx.trans hj.symm))
  refine ⟨fun t' ht' => ?_, fun s' t' hs' hn hx => ?_⟩
  · by_cases z : t' = t
    · subst z
      rw [sL_uL_s]
      refine ⟨hnd.sublist (List.eraseIdx_sublist ..), fun s' hs' => ⟨fun w => hout (by rw [← w]; exact hs'), (Q.1 t' ht').2 s' (List.mem_of_mem_eraseIdx hs')⟩⟩
    · rw [sL_uL (by omega)]
      refine ⟨(Q.1 t' ht').1, fun s' hs' => ⟨fun w => ?_, (Q.1 t' ht').2 s' hs'⟩⟩
      have := (Q.1 t' ht').2 s' hs'
      rw [w, hst] at this
      exact z (Option.some.inj this).symm
  · have hx' : sX S 4 s' 5 = some t' := hx
    obtain ⟨q1, q2⟩ := Q.2 s' t' hs' hx'
    refine ⟨(sI_uL (by omega)).trans q1, ?_⟩
    by_cases z : t' = t
    · subst z
      rw [sL_uL_s]
      obtain ⟨i, hi⟩ := List.mem_iff_getElem?.mp q2
      refine List.mem_eraseIdx_iff_getElem?.mpr ⟨i, fun w => ?_, hi⟩
      rw [w, hj] at hi
      exact hn (Option.some.inj hi).symm
    · rw [sL_uL (by omega)]
      exact q2
theorem mWqx.out {Y : mY} {S : mS} {s : Nat} (Q : mWqx Y S s) {v : Int32} : mWq Y (uI (uX (uI S 4 s 4 v) 4 s 5 none) 4 s 6 0) := by
  refine ⟨fun t ht => ⟨(Q.1 t ht).1, fun s' hs' => ?_⟩, fun s' t hs' hx => ?_⟩
  · obtain ⟨q1, q2⟩ := (Q.1 t ht).2 s' hs'
    exact (sX_uX (by omega)).trans q2
  · by_cases z : s' = s
    · rw [z] at hx
      have e : sX (uI (uX (uI S 4 s 4 v) 4 s 5 none) 4 s 6 0) 4 s 5 = none := sX_uX_s
      rw [e] at hx
      cases hx
    · have e : sX (uI (uX (uI S 4 s 4 v) 4 s 5 none) 4 s 6 0) 4 s' 5 = sX S 4 s' 5 := sX_uX (by omega)
      rw [e] at hx
      obtain ⟨q1, q2⟩ := Q.2 s' t hs' z hx
      exact ⟨((sI_uI (by omega)).trans (sI_uI (by omega))).trans q1, q2⟩
theorem nd_len : ∀ (n : Nat) (l : List Nat), l.Nodup → (∀ x ∈ l, x < n) → l.length ≤ n := by
  intro n
  induction n with
  | zero =>
    intro l _ h
    cases l with
    | nil => exact Nat.le_refl _
    | cons a l => exact absurd (h a List.mem_cons_self) (by omega)
  | succ n ih =>
    intro l hn h
    by_cases z : n ∈ l
    · have h1 := ih (l.erase n) (hn.erase n) (fun x hx => by
        have h2 := hn.mem_erase_iff.mp hx
        have h3 := h x h2.2
        have h4 := h2.1
        omega)
      rw [List.length_erase_of_mem z] at h1
      omega
    · have h1 := ih l hn (fun x hx => by
        have h3 := h x hx
        have h4 : x ≠ n := fun w => z (by rw [← w]; exact hx)
        omega)
      omega
section CYAWN
variable {g : Nat → Nat} {Y : mY} {S : mS} {M : mM}
theorem c_stepOut (H : mR g Y S M) {s : Nat} (hs : s < yn Y 4) {v : Int32} {κ : mM → Prop} (h : ∀ M', mR g Y (uI (uX (uI S 4 s 4 v) 4 s 5 none) 4 s 6 0) M' → κ M') : wX6_stepOut κ (some (yA Y 4 s)) v M := s_pI H hs rfl rfl rfl (fun M1 H1 => s_pX0 H1 hs rfl rfl rfl (fun M2 H2 => s_pI H2 hs rfl rfl rfl h))
theorem so_R {Y : mY} {s : Nat} {v d : Int32} {x : Option Nat} : cQ Y S Y (uI (uX (uI S 4 s 4 v) 4 s 5 x) 4 s 6 d) := ((cQ.uI (by decide)).tr cQ.uX).tr (cQ.uI (by decide))
theorem so_W (W : mWs Y S) {s : Nat} {v : Int32} : mWs Y (uI (uX (uI S 4 s 4 v) 4 s 5 none) 4 s 6 0) := ((W.uI (Or.inl (by omega))).uX).uI (Or.inl (by omega))
theorem so_F {s : Nat} {v : Int32} : mFc Y S Y (uI (uX (uI S 4 s 4 v) 4 s 5 none) 4 s 6 0) := ((mFc.uI (by omega)).tr (mFc.uX (by omega))).tr (mFc.uI (by omega))
theorem c_join (H : mR g Y S M) (W : mWs Y S) (Q : mWq Y S) {a b d : Int32} {κ : Int32 → mM → Prop} {ξ : String → mM → Prop} (hx : ∀ E, E = "java/lang/IndexOutOfBoundsException" ∨ E = "java/lang/IllegalArgumentException" ∨ E = "java/lang/IllegalStateException" → ξ E M) (h : ∀ x S' M', cP g Y S Y S' M' → κ x M') : wX8_join g κ ξ (some (yA Y 0 0)) a b d M := by
  have hbd := W.2.1
  refine s_rc H W.x0 rfl rfl (c_sleeperN H W (fun s hs _ => s_rc H W.x0 rfl rfl (c_gateN H W (fun t ht _ => br_c (fun _ => hx _ (Or.inr (Or.inl rfl))) (fun _ => s_rc H W.x0 rfl rfl (c_headOf H W hs (fun x => br_c (fun _ => ?_) (fun _ => hx _ (Or.inr (Or.inl rfl))))))) (fun _ => hx _ (Or.inl rfl)))) (fun _ => hx _ (Or.inl rfl)))
  refine s_gI H hs rfl rfl rfl (br_c (fun hst => ?_) (fun _ => hx _ (Or.inr (Or.inr rfl))))
  have hsl := H.lN (k := 4) (f := 2) (kt := 2) hs rfl
  refine s_gR2 H hs rfl rfl rfl (s_rc H ht rfl rfl (c_isAt H ht hsl (fun _ => br_f (by decide) ?_) (fun _ => br_t rfl (hx _ (Or.inr (Or.inr rfl))))))
  have hnone : sX S 4 s 5 = none := by
    cases hxx : sX S 4 s 5 with
    | none => rfl
    | some t' =>
      have := (Q.2 s t' hs hxx).1
      rw [hst] at this
      exact absurd this (by decide)
  have hnl : ∀ t', t' < yn Y 3 → s ∉ sL S 13 t' := fun t' ht' hm => by
    have := (Q.1 t' ht').2 s hm
    rw [hnone] at this
    cases this
  have hlen : (sL S 13 t).length < 12 := by
    have hsub : (s :: sL S 13 t).length ≤ (List.range (yn Y 4)).length := by
      rw [List.length_range]
      refine nd_len (yn Y 4) _ (List.nodup_cons.mpr ⟨hnl t ht, (Q.1 t ht).1⟩) (fun z hz => ?_)
      rcases List.mem_cons.mp hz with rfl | hz
      · exact hs
      · exact H.2.2.2.2.1 13 t rfl (W.l13 ht) z hz
    rw [List.length_cons, List.length_range] at hsub
    omega
  have h96 : ∀ p, p ≤ (sL S 13 t).length → wX8_join_96 g κ ξ d (some (yA Y 4 s)) (some (yA Y 3 t)) (nI p) M := by
    intro p hp
    refine s_gR7 H ht rfl rfl rfl (s_rcL H rfl (W.l13 ht) (s_addAt (k := 13) (i := t) (x := s) (cap := 12) H rfl (W.l13 ht) hs hp hlen (by decide) (fun M1 md e H1 => ?_)))
    refine s_rc H1 hs rfl rfl (s_pI H1 hs rfl rfl rfl (fun M2 H2 => s_pX1 H2 hs rfl rfl rfl ht (fun M3 H3 => s_pI H3 hs rfl rfl rfl (fun M4 H4 => ?_))))
    refine h _ _ M4 ⟨H4, (((W.uL rfl).uI (Or.inl (by omega))).uX).uI (Or.inl (by omega)), ?_, (((mFc.uL (by omega)).tr (mFc.uI (by omega))).tr (mFc.uX (by omega))).tr (mFc.uI (by omega)), cQ.uL.tr so_R⟩
    · have eX : ∀ s', s' ≠ s → sX (uI (uX (uI (uL S 13 t md e ((sL S 13 t).take p ++ s :: (sL S 13 t).drop p)) 4 s 4 1) 4 s 5 (some t)) 4 s 6 d) 4 s' 5 = sX S 4 s' 5 := fun s' hs' => sX_uX (by omega)
      have eX0 : sX (uI (uX (uI (uL S 13 t md e ((sL S 13 t).take p ++ s :: (sL S 13 t).drop p)) 4 s 4 1) 4 s 5 (some t)) 4 s 6 d) 4 s 5 = some t := sX_uX_s
      have eI : ∀ s', s' ≠ s → sI (uI (uX (uI (uL S 13 t md e ((sL S 13 t).take p ++ s :: (sL S 13 t).drop p)) 4 s 4 1) 4 s 5 (some t)) 4 s 6 d) 4 s' 4 = sI S 4 s' 4 := fun s' hs' => ((sI_uI (by omega)).trans (sI_uI (by omega))).trans (sI_uL (by omega))
      have eI0 : sI (uI (uX (uI (uL S 13 t md e ((sL S 13 t).take p ++ s :: (sL S 13 t).drop p)) 4 s 4 1) 4 s 5 (some t)) 4 s 6 d) 4 s 4 = 1 := (sI_uI (by omega)).trans sI_uI_s
      have eL : ∀ t', t' ≠ t → sL (uI (uX (uI (uL S 13 t md e ((sL S 13 t).take p ++ s :: (sL S 13 t).drop p)) 4 s 4 1) 4 s 5 (some t)) 4 s 6 d) 13 t' = sL S 13 t' := fun t' ht' => sL_uL (md := md) (e := e) (by omega)
      have eL0 : sL (uI (uX (uI (uL S 13 t md e ((sL S 13 t).take p ++ s :: (sL S 13 t).drop p)) 4 s 4 1) 4 s 5 (some t)) 4 s 6 d) 13 t = (sL S 13 t).take p ++ s :: (sL S 13 t).drop p := sL_uL_s (md := md) (e := e)
      have hperm : ((sL S 13 t).take p ++ s :: (sL S 13 t).drop p).Perm (s :: sL S 13 t) := List.perm_middle.trans (by rw [List.take_append_drop])
      refine ⟨fun t' ht' => ?_, fun s' t' hs' hxx => ?_⟩
      · by_cases z : t' = t
        · subst z
          rw [eL0]
          refine ⟨hperm.nodup_iff.mpr (List.nodup_cons.mpr ⟨hnl t' ht', (Q.1 t' ht').1⟩), fun s' hs' => ?_⟩
          rcases List.mem_cons.mp (hperm.mem_iff.mp hs') with rfl | hs'
          · exact eX0
          · rw [eX s' (fun w => hnl t' ht' (by rw [← w]; exact hs'))]
            exact (Q.1 t' ht').2 s' hs'
        · rw [eL t' z]
          refine ⟨(Q.1 t' ht').1, fun s' hs' => ?_⟩
          rw [eX s' (fun w => hnl t' ht' (by rw [← w]; exact hs'))]
          exact (Q.1 t' ht').2 s' hs'
      · by_cases z : s' = s
        · subst z
          rw [eX0] at hxx
          cases hxx
          rw [eI0, eL0]
          exact ⟨rfl, hperm.mem_iff.mpr List.mem_cons_self⟩
        · rw [eX s' z] at hxx
          obtain ⟨q1, q2⟩ := Q.2 s' t' hs' hxx
          rw [eI s' z]
          refine ⟨q1, ?_⟩
          by_cases w : t' = t
          · subst w
            rw [eL0]
            exact hperm.mem_iff.mpr (List.mem_cons_of_mem _ q2)
          · rw [eL t' w]
            exact q2
  refine s_gI H hs rfl rfl rfl (br_c (fun _ => ?_) (fun _ => ?_))
  · exact s_gR7 H ht rfl rfl rfl (s_rcL H rfl (W.l13 ht) (s_size H rfl (W.l13 ht) (h96 _ (Nat.le_refl _))))
  · exact s_rc H ht rfl rfl (c_babies H W ht h96)
theorem c_leave (H : mR g Y S M) (W : mWs Y S) (Q : mWq Y S) {a : Int32} {κ : Int32 → mM → Prop} {ξ : String → mM → Prop} (hx : ∀ E, E = "java/lang/IndexOutOfBoundsException" ∨ E = "java/lang/IllegalStateException" → ξ E M) (h : ∀ x S' M', cP g Y S Y S' M' → κ x M') : wX8_leave κ ξ (some (yA Y 0 0)) a M := by
  refine s_rc H W.x0 rfl rfl (c_sleeperN H W (fun s hs _ => ?_) (fun _ => hx _ (Or.inl rfl)))
  refine c_placeOf H W hs (fun t j hxt ht hj => ?_) (fun hno => ?_)
  · have hl := H.len (k := 13) (i := t) rfl (W.l13 ht)
    have hjl := (List.getElem?_eq_some_iff.mp hj).1
    refine s_gR3 H hs rfl rfl rfl ?_
    rw [hxt]
    refine br_f (fun z => by cases z) (br_f (fun z => ?_) ?_)
    · have := nI_pos (n := j) (by omega)
      rw [z] at this
      exact this (by decide)
    · refine s_gR3 H hs rfl rfl rfl ?_
      rw [hxt]
      refine s_gR7 H ht rfl rfl rfl (s_rcL H rfl (W.l13 ht) (s_remove H rfl (W.l13 ht) hj (fun M1 md e H1 => s_rc H1 hs rfl rfl (c_stepOut H1 hs (fun M2 H2 => ?_)))))
      exact h _ _ M2 ⟨H2, so_W (W.uL rfl), (Q.rm ht hj).out, (mFc.uL (by omega)).tr so_F, cQ.uL.tr so_R⟩
  · exact s_gR3 H hs rfl rfl rfl (br_c (fun _ => hx _ (Or.inr rfl)) (fun _ => br_t rfl (hx _ (Or.inr rfl))))
/-- hidings -/
theorem c_kh15 {S0 : mS} {s : Nat} {dr : Int32} {κ : mM → Prop} (h : ∀ Y' S' M', mR g Y' S' M' → mWs Y' S' → cK Y S0 Y' S' → κ M') (hs : s < yn Y 4) (h40 : yn Y 6 < 40) : ∀ (d j : Nat) (S : mS) (M : mM), mR g Y S M → mWs Y S → cK Y S0 Y S → j + d = yn Y 6 → wX8_keepHiding_15 g κ (d + 1) (some (yA Y 0 0)) (some (yA Y 4 s)) dr (nI j) M := by
  have hex : ∀ (S : mS) (M : mM), mR g Y S M → mWs Y S → cK Y S0 Y S → m_gR M (some (yA Y 0 0)) 13 4 fun x6 => m_new M 6 [.null, .int 0, .int 0] fun q7 M8 => m_gI M8 (some (yA Y 0 0)) 13 8 fun x9 => m_rc M8 (some q7) 6 fun b11 => wX1_init (fun M10 => m_rc M10 x6 4 fun b14 => wJx4a65c_add_9ea2d g 49 (fun x12 M13 => κ M13) (some b14) (some q7) M10) (some b11) (some (yA Y 4 s)) dr x9 M8 := by
    intro S M H W K
    refine s_gR6 H W.x0 rfl rfl rfl (r_new (fun q M1 hq h1 o1 => ?_))
    have hF := H.fr hq
    have H1 : mR g Y S M1 := H.off hF o1
    refine s_gI H1 W.x0 rfl rfl rfl (r_rc h1 ⟨q, rfl, r_p h1 (by simp) (fun M2 h2 o2 => r_p h2 (by simp) (fun M3 h3 o3 => r_p h3 (by simp) (fun M4 h4 o4 => ?_)))⟩)
    have H4 : mR g Y S M4 := H1.off hF (fun q' z => (o4 q' z).trans ((o3 q' z).trans (o2 q' z)))
    obtain ⟨Y1, S1, H7, A⟩ := H4.alloc2 (k := 6) hF (fun f => match f with | 1 => dr | _ => sI S 0 0 8) (fun _ => 0) (fun _ => none) (fun _ => s) [] 0 rfl (by decide) (by decide) (fun z => absurd z (by decide)) h4 (fun f t' ht' => by
      rcases f with _ | _ | _ | f <;> cases ht'
      · exact ⟨fun _ => Nat.lt_of_lt_of_le hs aY_le, fun z => absurd z (by decide), fun z => absurd z (by decide), fun z => absurd z (by decide)⟩
      · exact ⟨fun z => absurd z (by decide), fun z => absurd z (by decide), fun z => absurd z (by decide), fun z => absurd z (by decide)⟩
      · exact ⟨fun z => absurd z (by decide), fun z => absurd z (by decide), fun z => absurd z (by decide), fun z => absurd z (by decide)⟩)
    have F1 := A.F (by omega)
    obtain ⟨a1, a2, a3, a4, a5, a6, -, a8, -⟩ := A
    rw [← a4, ← a1 12 3 (W.l12 (by omega))]
    have hn12 : 3 < yn Y1 12 := by rw [a3 12 (by omega)]; exact W.l12 (by omega)
    have e12 : sL S1 12 3 = List.range (yn Y 6) := ((a5 12 3 (by omega)).2.2.2.2.1).trans W.2.2.1.2.2.2
    refine s_rcL H7 rfl hn12 (s_add (k := 12) (i := 3) (x := yn Y 6) (cap := 40) H7 rfl hn12 (show yn Y 6 < yn Y1 6 by omega) (by rw [e12, List.length_range]; exact h40) (by decide) (fun M7 md e H8 => ?_))
    rw [e12] at H8
    refine h Y1 _ M7 H8 ?_ (K.tr ⟨F1.tr (mFc.uL (by omega)), fun k hk => a3 k hk, fun t => (sL_uL (by omega)).trans (a5 13 t (by omega)).2.2.2.2.1, fun z => congrFun (a5 4 z (by omega)).2.2.1 5, fun z => (sI_uL (by omega)).trans (congrFun (a5 4 z (by omega)).1 4), fun k i f q => (sI_uL (by have := qC_d q; omega)).trans (congrFun (a5 k i (by have := qC_d q; omega)).1 f)⟩)
    obtain ⟨w1, w2, w3, ⟨v1, v2, v3, v4⟩, ⟨u1, u2⟩, ⟨u3, u4⟩, u5, u6⟩ := W
    have n0 := a3 0 (by omega); have n1 := a3 1 (by omega); have n2 := a3 2 (by omega); have n3 := a3 3 (by omega); have n4 := a3 4 (by omega); have n5 := a3 5 (by omega); have n7 := a3 7 (by omega); have n8 := a3 8 (by omega); have n9 := a3 9 (by omega); have n10 := a3 10 (by omega); have n11 := a3 11 (by omega); have n12 := a3 12 (by omega); have n13 := a3 13 (by omega)
    have hI : ∀ k i f, k ≠ 6 → k ≠ 12 → sI (uL S1 12 3 md e (List.range (yn Y 6) ++ [yn Y 6])) k i f = sI S k i f := fun k i f hk hk' => (sI_uL (by omega)).trans (by rw [(a5 k i (by omega)).1])
    have hL : ∀ i, i ≠ 3 → sL (uL S1 12 3 md e (List.range (yn Y 6) ++ [yn Y 6])) 12 i = sL S 12 i := fun i hi => (sL_uL (by omega)).trans (a5 12 i (by omega)).2.2.2.2.1
    have hL1 : sL (uL S1 12 3 md e (List.range (yn Y 6) ++ [yn Y 6])) 12 3 = List.range (yn Y 6 + 1) := sL_uL_s.trans List.range_succ.symm
    have hC : ∀ k i, k ≠ 6 → sC (uL S1 12 3 md e (List.range (yn Y 6) ++ [yn Y 6])) k i = sC S k i := fun k i hk => (a5 k i (by omega)).2.2.2.2.2.2.1
    have hP : ∀ k i j, k ≠ 6 → sP (uL S1 12 3 md e (List.range (yn Y 6) ++ [yn Y 6])) k i j = sP S k i j := fun k i j hk => congrFun (a5 k i (by omega)).2.2.2.2.2.2.2.2 j
    refine ⟨by rw [n0, n1, n2, n3, n7, n8, n9, n10, n11, n12, n13]; exact w1, by rw [n3, n4, a2, n5]; omega, by rw [hL 0 (by omega), hL 1 (by omega), hL1, hL 2 (by omega), n3, n4, a2, n5]; exact ⟨w3.1, w3.2.1, w3.2.2.1, rfl⟩, ⟨fun i hi => (hI 2 i 0 (by omega) (by omega)).trans (v1 i hi), fun i hi => (hI 3 i 0 (by omega) (by omega)).trans (v2 i (by omega)), fun i hi => (hI 4 i 0 (by omega) (by omega)).trans (v3 i (by omega)), fun i hi => (hI 5 i 0 (by omega) (by omega)).trans (v4 i (by omega))⟩, ⟨(hC 1 0 (by omega)).trans u1, fun i hi => ?_⟩, ⟨(hC 8 0 (by omega)).trans u3, fun i hi => ?_⟩, fun i hi => (hC 9 i (by omega)).trans (u5 i hi), (hC 9 9 (by omega)).trans u6⟩
    · rw [hP 1 0 i (by omega), u2 i hi, a1 2 i (by omega)]
    · rw [hP 8 0 i (by omega), u4 i hi, a1 9 i (by omega)]
  intro d
  induction d with
  | zero =>
    intro j S M H W K hj
    rw [wX8_keepHiding_15]
    exact c_hdH H W (by omega) (fun _ => hex S M H W K) (fun hlt => absurd hlt (by omega))
  | succ d ih =>
    intro j S M H W K hj
    have ih' : ∀ S M, mR g Y S M → mWs Y S → cK Y S0 Y S → wX8_keepHiding_15 g κ (d + 1) (some (yA Y 0 0)) (some (yA Y 4 s)) dr (nI j + 1) M := fun S M H W K => by rw [nI_1]; exact ih (j + 1) S M H W K (by omega)
    rw [wX8_keepHiding_15]
    refine c_hdH H W (by omega) (fun z => absurd z (by omega)) (fun hlt => ?_)
    refine s_gI H hlt rfl rfl rfl (br_c (fun _ => ?_) (fun _ => ih' S M H W K))
    refine s_gI H W.x0 rfl rfl rfl (s_gI H hlt rfl rfl rfl (br_c (fun _ => ih' S M H W K) (fun _ => ?_)))
    have h6 := H.lN (k := 6) (f := 0) (kt := 4) hlt rfl
    refine s_gR2 H hlt rfl rfl rfl (s_gI H h6 rfl rfl rfl (s_gI H hs rfl rfl rfl (s_pI H h6 rfl rfl rfl (fun M1 H1 => ?_))))
    refine s_gI H1 hs rfl rfl rfl (s_gR2 H1 hlt rfl rfl rfl (s_gI H1 h6 rfl rfl rfl (s_pI H1 hs rfl rfl rfl (fun M2 H2 => ?_))))
    exact ih' _ M2 H2 ((W.uI (Or.inl (by omega))).uI (Or.inl (by omega))) ((K.tr (cK.uI (by omega) (by omega) (by decide))).tr (cK.uI (by omega) (by omega) (by decide)))
theorem c_keepHiding (H : mR g Y S M) (W : mWs Y S) {s : Nat} (hs : s < yn Y 4) {dr : Int32} {κ : mM → Prop} (h : ∀ Y' S' M', mR g Y' S' M' → mWs Y' S' → cK Y S Y' S' → κ M') : wX8_keepHiding g κ (some (yA Y 0 0)) (some (yA Y 4 s)) dr M := by
  have hbd := W.2.1
  refine s_gR6 H W.x0 rfl rfl rfl (s_rcL H rfl (W.l12 (by omega)) (c_szH H W (br_c (fun z => ?_) (fun _ => h Y S M H W (cK.rf Y S)))))
  exact ⟨yn Y 6 + 1, c_kh15 h hs ((nI_ltI (b := 40) (by omega) (by omega)).mp z) (yn Y 6) 0 S M H W (cK.rf Y S) (by omega)⟩
theorem c_store (H : mR g Y S M) {p l : Nat} (hp : p < yn Y 5) (hl : l < yn Y 2) {f : Int32} {κ : mM → Prop} (h : ∀ M', mR g Y (uI (uX (uX S 5 p 5 none) 5 p 6 (some l)) 5 p 4 f) M' → κ M') : wX3_putInStore κ (some (yA Y 5 p)) (some (yA Y 2 l)) f M := s_pX0 H hp rfl rfl rfl (fun M1 H1 => s_pX1 H1 hp rfl rfl rfl hl (fun M2 H2 => s_pI H2 hp rfl rfl rfl h))
theorem c_bh6 {Y0 : mY} {S0 : mS} {s l : Nat} (hs : s < yn Y0 4) (hl : l < yn Y0 2) {sr : Int32} {κ : Int32 → mM → Prop} (h : ∀ x Y' S' M', mR g Y' S' M' → mWs Y' S' → cK Y0 S0 Y' S' → κ x M') : ∀ (d j k9 n9 : Nat) (c : Int32) (Y : mY) (S : mS) (M : mM), mR g Y S M → mWs Y S → cK Y0 S0 Y S → j + d = yn Y0 5 → k9 ≤ 2 * j → n9 ≤ 52 * j → wX8_bringHidden_6 g κ (d + 1) k9 n9 (some (yA Y 0 0)) (some (yA Y 4 s)) (some (yA Y 2 l)) sr c (nI j) M := by
  intro d
  induction d with
  | zero =>
    intro j k9 n9 c Y S M H W K hj hk hn
    have hbd := W.2.1
    have n5 := K.2.1 5 (by omega)
    have hb : k9 ≤ 48 ∧ n9 ≤ 1248 := by omega
    rw [wX8_bringHidden_6]
    exact ⟨hb, c_hdP H W (by omega) (fun _ => ⟨hb, h c Y S M H W K⟩) (fun hlt => absurd hlt (by omega))⟩
  | succ d ih =>
    intro j k9 n9 c Y S M H W K hj hk hn
    have hbd := W.2.1
    have n5 := K.2.1 5 (by omega)
    have n4 := K.2.1 4 (by omega)
    have n2 := K.2.1 2 (by omega)
    have hb : k9 ≤ 48 ∧ n9 ≤ 1248 := by omega
    have ih' : ∀ (k9 n9 : Nat) (c : Int32) (Y : mY) (S : mS) (M : mM), mR g Y S M → mWs Y S → cK Y0 S0 Y S → k9 ≤ 2 * (j + 1) → n9 ≤ 52 * (j + 1) → wX8_bringHidden_105 g κ (wX8_bringHidden_6 g κ (d + 1)) k9 n9 (some (yA Y 0 0)) (some (yA Y 4 s)) (some (yA Y 2 l)) sr c (nI j) M := by
      intro k9 n9 c Y S M H W K hk hn
      have hbd := W.2.1
      have n5 := K.2.1 5 (by omega)
      unfold wX8_bringHidden_105
      rw [nI_1]
      exact ⟨by omega, ih (j + 1) k9 n9 c Y S M H W K (by omega) hk hn⟩
    rw [wX8_bringHidden_6]
    refine ⟨hb, c_hdP H W (by omega) (fun z => absurd z (by omega)) (fun hlt => ?_)⟩
    refine s_gR3 H hlt rfl rfl rfl (br_c (fun _ => ?_) (fun _ => ih' k9 n9 c Y S M H W K (by omega) (by omega)))
    refine s_rc H hlt rfl rfl (c_isHidden H W hlt (fun _ _ _ => br_f (by decide) ?_) (fun _ => br_t rfl (ih' k9 n9 c Y S M H W K (by omega) (by omega))))
    refine s_gI H hlt rfl rfl rfl ⟨by omega, s_rc H W.x0 rfl rfl (c_keepHiding H W (show s < yn Y 4 by omega) (fun Y1 S1 M1 H1 W1 K1 => ?_))⟩
    have hs4 : s < yn Y 4 := by omega
    have hl2 : l < yn Y 2 := by omega
    have hlt1 : j < yn Y1 5 := by rw [K1.2.1 5 (by omega)]; exact hlt
    have hs1 : s < yn Y1 4 := by rw [K1.2.1 4 (by omega)]; exact hs4
    have hl1 : l < yn Y1 2 := by rw [K1.2.1 2 (by omega)]; exact hl2
    rw [← K1.1.1 5 j hlt, ← K1.1.1 4 s hs4, ← K1.1.1 2 l hl2, ← K1.1.1 0 0 W.x0]
    refine s_pX1 H1 hlt1 rfl rfl rfl hs1 (fun M2 H2 => br_c (fun _ => ?_) (fun _ => ?_))
    · exact s_pI H2 hlt1 rfl rfl rfl (fun M3 H3 => ih' _ _ c Y1 _ M3 H3 ((W1.uX).uI (Or.inl (by omega))) (((K.tr K1).tr (cK.uX (by omega) (by omega))).tr (cK.uI (by omega) (by omega) (by decide))) (by omega) (by omega))
    · refine s_rc H2 hlt1 rfl rfl (c_store H2 hlt1 hl1 (fun M3 H3 => s_gI H3 hl1 rfl rfl rfl (s_gI H3 hlt1 rfl rfl rfl (s_pI H3 hl1 rfl rfl rfl (fun M4 H4 => ?_)))))
      exact ih' _ _ _ Y1 _ M4 H4 (((((W1.uX).uX).uX).uI (Or.inl (by omega))).uI (Or.inl (by omega))) ((((((K.tr K1).tr (cK.uX (by omega) (by omega))).tr (cK.uX (by omega) (by omega))).tr (cK.uX (by omega) (by omega))).tr (cK.uI (by omega) (by omega) (by decide))).tr (cK.uI (by omega) (by omega) (by decide))) (by omega) (by omega)
theorem c_bringHidden (H : mR g Y S M) (W : mWs Y S) {s l : Nat} (hs : s < yn Y 4) (hl : l < yn Y 2) {sr : Int32} {κ : Int32 → mM → Prop} (h : ∀ x Y' S' M', mR g Y' S' M' → mWs Y' S' → cK Y S Y' S' → κ x M') : wX8_bringHidden g κ (some (yA Y 0 0)) (some (yA Y 4 s)) (some (yA Y 2 l)) sr M := ⟨yn Y 5 + 1, c_bh6 hs hl h (yn Y 5) 0 0 0 0 Y S M H W (cK.rf Y S) (by omega) (by omega) (by omega)⟩
theorem c_bd33 {S0 : mS} {s l : Nat} (hs : s < yn Y 4) (hl : l < yn Y 2) {a b c : Int32} {κ : mM → Prop} (h : ∀ S' M', mR g Y S' M' → mWs Y S' → cK Y S0 Y S' → κ M') : ∀ (d j : Nat) (S : mS) (M : mM), mR g Y S M → mWs Y S → cK Y S0 Y S → j + d = yn Y 5 → wX8_bringDeclared_33 κ (d + 1) (some (yA Y 0 0)) (some (yA Y 4 s)) (some (yA Y 2 l)) a b c (nI j) M := by
  intro d
  induction d with
  | zero =>
    intro j S M H W K hj
    rw [wX8_bringDeclared_33]
    exact c_hdP H W (by omega) (fun _ => s_gI H hl rfl rfl rfl (s_rc H hl rfl rfl (c_dutyOn H hl (s_pI H hl rfl rfl rfl (fun M1 H1 => h _ M1 H1 (W.uI (Or.inl (by omega))) (K.tr (cK.uI (by omega) (by omega) (by decide)))))))) (fun hlt => absurd hlt (by omega))
  | succ d ih =>
    intro j S M H W K hj
    have ih' : ∀ S M, mR g Y S M → mWs Y S → cK Y S0 Y S → wX8_bringDeclared_33 κ (d + 1) (some (yA Y 0 0)) (some (yA Y 4 s)) (some (yA Y 2 l)) a b c (nI j + 1) M := fun S M H W K => by rw [nI_1]; exact ih (j + 1) S M H W K (by omega)
    rw [wX8_bringDeclared_33]
    refine c_hdP H W (by omega) (fun z => absurd z (by omega)) (fun hlt => ?_)
    refine s_gI H hs rfl rfl rfl (s_rc H hlt rfl rfl (c_isIn H W hlt (fun _ => br_f (by decide) ?_) (fun _ => br_t rfl (ih' S M H W K))))
    refine s_rc H hlt rfl rfl (c_isIn H W hlt (fun _ => br_f (by decide) ?_) (fun _ => br_t rfl ?_))
    · refine s_pI H hlt rfl rfl rfl (fun M1 H1 => s_rc H1 hlt rfl rfl (c_isNightmare H1 hlt (fun _ => br_f (by decide) ?_) (fun _ => br_t rfl (ih' _ M1 H1 (W.uI (Or.inl (by omega))) (K.tr (cK.uI (by omega) (by omega) (by decide)))))))
      exact s_gI H1 hl rfl rfl rfl (s_pI H1 hl rfl rfl rfl (fun M2 H2 => ih' _ M2 H2 ((W.uI (Or.inl (by omega))).uI (Or.inl (by omega))) ((K.tr (cK.uI (by omega) (by omega) (by decide))).tr (cK.uI (by omega) (by omega) (by decide)))))
    · exact s_gR2 H hs rfl rfl rfl (s_rc H hlt rfl rfl (c_store H hlt (H.lN (k := 4) (f := 2) (kt := 2) hs rfl) (fun M1 H1 => ih' _ M1 H1 (((W.uX).uX).uI (Or.inl (by omega))) (((K.tr (cK.uX (by omega) (by omega))).tr (cK.uX (by omega) (by omega))).tr (cK.uI (by omega) (by omega) (by decide))))))
theorem c_bringDeclared (H : mR g Y S M) (W : mWs Y S) {s l : Nat} (hs : s < yn Y 4) (hl : l < yn Y 2) {κ : mM → Prop} (h : ∀ S' M', mR g Y S' M' → mWs Y S' → cK Y S Y S' → κ M') : wX8_bringDeclared κ (some (yA Y 0 0)) (some (yA Y 4 s)) (some (yA Y 2 l)) M := by
  have h28 : ∀ a b c, wX8_bringDeclared_28 κ (some (yA Y 0 0)) (some (yA Y 4 s)) (some (yA Y 2 l)) a b c M := fun a b c => ⟨yn Y 5 + 1, c_bd33 hs hl h (yn Y 5) 0 S M H W (cK.rf Y S) (by omega)⟩
  exact s_rc H W.x0 rfl rfl (c_comeIn H W hs hl (fun x => s_rc H W.x0 rfl rfl (c_worthOf H W (fun y => s_gI H hl rfl rfl rfl (br_c (fun _ => h28 _ _ _) (fun _ => h28 _ _ _))))))
theorem c_ct38 (H : mR g Y S M) (W : mWs Y S) {s l : Nat} (hs : s < yn Y 4) (hl : l < yn Y 2) {sr : Int32} {κ : Int32 → mM → Prop} (h : ∀ x Y' S' M', mR g Y' S' M' → mWs Y' S' → cK Y S Y' S' → κ x M') : wX8_comeThrough_38 g κ (some (yA Y 0 0)) (some (yA Y 4 s)) (some (yA Y 2 l)) sr M := by
  refine s_rc H W.x0 rfl rfl (c_bringHidden H W hs hl (fun x Y1 S1 M1 H1 W1 K1 => ?_))
  have hs1 : s < yn Y1 4 := by rw [K1.2.1 4 (by omega)]; exact hs
  have hl1 : l < yn Y1 2 := by rw [K1.2.1 2 (by omega)]; exact hl
  rw [← K1.1.1 4 s hs, ← K1.1.1 2 l hl, ← K1.1.1 0 0 W.x0]
  refine s_rc H1 W1.x0 rfl rfl (c_bringDeclared H1 W1 hs1 hl1 (fun S2 M2 H2 W2 K2 => ?_))
  exact s_pN H2 hs1 rfl rfl rfl hl1 (fun M3 H3 => s_pX0 H3 hs1 rfl rfl rfl (fun M4 H4 => h x Y1 _ M4 H4 ((W2.uN).uX) (((K1.tr K2).tr (cK.uN (by omega))).tr (cK.uX (by omega) (by omega)))))
theorem c_comeThrough (H : mR g Y S M) (W : mWs Y S) {s t : Nat} (hs : s < yn Y 4) (ht : t < yn Y 3) {κ : Int32 → mM → Prop} (h : ∀ x Y' S' M', mR g Y' S' M' → mWs Y' S' → cK Y S Y' S' → κ x M') : wX8_comeThrough g κ (some (yA Y 0 0)) (some (yA Y 4 s)) (some (yA Y 3 t)) M := by
  have hsl := H.lN (k := 4) (f := 2) (kt := 2) hs rfl
  have hl := c_acr_l H ht (l := sN S 4 s 2)
  refine s_gR2 H hs rfl rfl rfl (s_rc H ht rfl rfl (c_across H ht hsl (s_rc H ht rfl rfl (c_dozes H ht (fun _ => br_f (by decide) (c_ct38 H W hs hl h)) (fun _ => br_t rfl ?_)))))
  refine s_gR6 H W.x0 rfl rfl rfl (s_rc H W.l7 rfl rfl (s_gI H W.l7 rfl rfl rfl (s_pI H W.l7 rfl rfl rfl (fun M1 H1 => s_gI H1 W.l7 rfl rfl rfl (s_pI H1 W.l7 rfl rfl rfl (fun M2 H2 => ?_))))))
  have W2 : mWs Y (uI (uI S 7 0 1 (m_rem (21 * sI S 7 0 1 + 11) 4096)) 7 0 0 (sI (uI S 7 0 1 (m_rem (21 * sI S 7 0 1 + 11) 4096)) 7 0 0 + 1)) := (W.uI (Or.inr (by omega))).uI (Or.inr (by omega))
  have K2 : cK Y S Y (uI (uI S 7 0 1 (m_rem (21 * sI S 7 0 1 + 11) 4096)) 7 0 0 (sI (uI S 7 0 1 (m_rem (21 * sI S 7 0 1 + 11) 4096)) 7 0 0 + 1)) := (cK.uI (by omega) (by omega) (by decide)).tr (cK.uI (by omega) (by omega) (by decide))
  have h' : ∀ x Y' S' M', mR g Y' S' M' → mWs Y' S' → cK Y (uI (uI S 7 0 1 (m_rem (21 * sI S 7 0 1 + 11) 4096)) 7 0 0 (sI (uI S 7 0 1 (m_rem (21 * sI S 7 0 1 + 11) 4096)) 7 0 0 + 1)) Y' S' → κ x M' := fun x Y' S' M' a b c => h x Y' S' M' a b (K2.tr c)
  exact s_gI H2 ht rfl rfl rfl (br_c (fun _ => c_ct38 H2 W2 hs hl h') (fun _ => c_ct38 H2 W2 hs hl h'))
theorem c_wake7 {S0 : mS} {s : Nat} (hs : s < yn Y 4) {κ : mM → Prop} (h : ∀ S' M', mR g Y S' M' → mWs Y S' → cK Y S0 Y S' → κ M') : ∀ (d j : Nat) (S : mS) (M : mM), mR g Y S M → mWs Y S → cK Y S0 Y S → j + d = yn Y 5 → wX8_wake_7 κ (d + 1) (some (yA Y 0 0)) (some (yA Y 4 s)) (nI j) M := by
  intro d
  induction d with
  | zero =>
    intro j S M H W K hj
    rw [wX8_wake_7]
    exact c_hdP H W (by omega) (fun _ => h S M H W K) (fun hlt => absurd hlt (by omega))
  | succ d ih =>
    intro j S M H W K hj
    have ih' : ∀ S M, mR g Y S M → mWs Y S → cK Y S0 Y S → wX8_wake_7 κ (d + 1) (some (yA Y 0 0)) (some (yA Y 4 s)) (nI j + 1) M := fun S M H W K => by rw [nI_1]; exact ih (j + 1) S M H W K (by omega)
    rw [wX8_wake_7]
    refine c_hdP H W (by omega) (fun z => absurd z (by omega)) (fun hlt => ?_)
    exact s_gR3 H hlt rfl rfl rfl (br_c (fun _ => s_pX0 H hlt rfl rfl rfl (fun M1 H1 => ih' _ M1 H1 W.uX (K.tr (cK.uX (by omega) (by omega))))) (fun _ => ih' S M H W K))
/-- those who stand lose patience -/
theorem c_tire10 {S0 : mS} {t : Nat} (ht : t < yn Y 3) {κ : mM → Prop} (h : ∀ S' M', cP g Y S0 Y S' M' → κ M') : ∀ (d : Nat) (S : mS) (M : mM), cP g Y S0 Y S M → d ≤ (sL S 13 t).length → wX8_tireThoseWhoStand_10 κ (d + 1) (some (yA Y 0 0)) (some (yA Y 3 t)) (nI d - 1) M := by
  intro d
  induction d with
  | zero =>
    intro S M P hd
    rw [wX8_tireThoseWhoStand_10]
    exact br_t (by decide) (h S M P)
  | succ d ih =>
    intro S M P hd
    obtain ⟨H, W, Q, F, R⟩ := P
    have hl := H.len (k := 13) (i := t) rfl (W.l13 ht)
    have ih' : ∀ S M, cP g Y S0 Y S M → d ≤ (sL S 13 t).length → wX8_tireThoseWhoStand_10 κ (d + 1) (some (yA Y 0 0)) (some (yA Y 3 t)) (nI d + (-1)) M := fun S M P hd => by rw [nI_m1]; exact ih S M P hd
    have hx : (sL S 13 t)[d]? = some ((sL S 13 t)[d]) := List.getElem?_eq_getElem (by omega)
    generalize (sL S 13 t)[d] = s at hx
    have hs : s < yn Y 4 := H.lL rfl (W.l13 ht) hx
    rw [wX8_tireThoseWhoStand_10, nI_pred]
    refine br_f (nI_pos (by omega)) (s_gR7 H ht rfl rfl rfl (s_rcL H rfl (W.l13 ht) (s_get H rfl (W.l13 ht) hx (s_cast H hs rfl rfl ?_))))
    refine s_gI H hs rfl rfl rfl (s_pI H hs rfl rfl rfl (fun M1 H1 => s_gI H1 hs rfl rfl rfl (br_c (fun _ => ?_) (fun _ => ?_))))
    · exact ih' _ M1 ⟨H1, W.uI (Or.inl (by omega)), Q.uI (by omega), F.tr (mFc.uI (by omega)), R.tr (cQ.uI (by decide))⟩ (by show d ≤ (sL S 13 t).length; omega)
    · have W1 : mWs Y (uI S 4 s 3 (sI S 4 s 3 - 1)) := W.uI (Or.inl (by omega))
      have Q1 : mWq Y (uI S 4 s 3 (sI S 4 s 3 - 1)) := Q.uI (by omega)
      refine s_gR7 H1 ht rfl rfl rfl (s_rcL H1 rfl (W.l13 ht) (s_remove (x := s) H1 rfl (W.l13 ht) hx (fun M2 md e H2 => s_rc H2 W.x0 rfl rfl (s_rc H2 hs rfl rfl (c_stepOut H2 hs (fun M3 H3 => ?_))))))
      have Q3 := (Q1.rm (md := md) (e := e) ht hx).out (v := 2)
      refine ⟨yn Y 5 + 1, c_wake7 hs (fun S4 M4 H4 W4 K4 => ?_) (yn Y 5) 0 _ M3 H3 (so_W (W1.uL rfl)) (cK.rf _ _) (by omega)⟩
      refine ih' S4 M4 ⟨H4, W4, K4.Q Q3, (((F.tr (mFc.uI (by omega))).tr (mFc.uL (by omega))).tr so_F).tr K4.1, (((R.tr (cQ.uI (by decide))).tr cQ.uL).tr so_R).tr K4.q⟩ ?_
      rw [K4.2.2.1]
      show d ≤ (sL (uL (uI S 4 s 3 (sI S 4 s 3 - 1)) 13 t md e ((sL (uI S 4 s 3 (sI S 4 s 3 - 1)) 13 t).eraseIdx d)) 13 t).length
      rw [sL_uL_s]
      show d ≤ ((sL S 13 t).eraseIdx d).length
      rw [List.length_eraseIdx_of_lt (by omega)]
      omega
theorem c_tire {S0 : mS} {t : Nat} (ht : t < yn Y 3) {κ : mM → Prop} (h : ∀ S' M', cP g Y S0 Y S' M' → κ M') (P : cP g Y S0 Y S M) : wX8_tireThoseWhoStand κ (some (yA Y 0 0)) (some (yA Y 3 t)) M := by
  obtain ⟨H, W, Q, F, R⟩ := P
  exact s_gR7 H ht rfl rfl rfl (s_rcL H rfl (W.l13 ht) (s_size H rfl (W.l13 ht) ⟨(sL S 13 t).length + 1, c_tire10 ht h (sL S 13 t).length S M ⟨H, W, Q, F, R⟩ (Nat.le_refl _)⟩))
theorem c_yawn87 {Y0 : mY} {S0 : mS} (H : mR g Y S M) (W : mWs Y S) {s t : Nat} (Q : mWqx Y S s) (F : mFc Y0 S0 Y S) (R : cQ Y0 S0 Y S) (hs : s < yn Y 4) (ht : t < yn Y 3) {x : Int32} {κ : Int32 → mM → Prop} {ξ : String → mM → Prop} (h : ∀ x Y' S' M', cP g Y0 S0 Y' S' M' → κ x M') : wX8_yawn_87 g κ ξ (some (yA Y 0 0)) (some (yA Y 3 t)) (some (yA Y 4 s)) x M := by
  refine s_rc H hs rfl rfl (c_stepOut H hs (fun M1 H1 => s_rc H1 W.x0 rfl rfl (c_tire (S0 := uI (uX (uI S 4 s 4 0) 4 s 5 none) 4 s 6 0) ht (fun S2 M2 P2 => ?_) ⟨H1, so_W W, Q.out, mFc.rf _ _, cQ.rf Y _⟩)))
  obtain ⟨H2, W2, Q2, F2, R2⟩ := P2
  exact h x Y S2 M2 ⟨H2, W2, Q2, (F.tr so_F).tr F2, (R.tr so_R).tr R2⟩
theorem c_yawn (H : mR g Y S M) (W : mWs Y S) (Q : mWq Y S) {a : Int32} {κ : Int32 → mM → Prop} {ξ : String → mM → Prop} (hx : ∀ E, E = "java/lang/IndexOutOfBoundsException" ∨ E = "java/lang/IllegalStateException" → ξ E M) (h : ∀ x Y' S' M', cP g Y S Y' S' M' → κ x M') : wX8_yawn g κ ξ (some (yA Y 0 0)) a M := by
  refine s_rc H W.x0 rfl rfl (c_gateN H W (fun t ht _ => ?_) (fun _ => hx _ (Or.inl rfl)))
  refine s_gI H W.x0 rfl rfl rfl (s_rc H ht rfl rfl (c_isOpenAt H ht (fun _ => br_f (by decide) ?_) (fun _ => br_t rfl (hx _ (Or.inr rfl)))))
  refine s_gR7 H ht rfl rfl rfl (s_rcL H rfl (W.l13 ht) (s_isEmpty H rfl (W.l13 ht) (fun _ => br_f (by decide) (hx _ (Or.inr rfl))) (fun hne => br_t rfl ?_)))
  refine s_gI H W.x0 rfl rfl rfl (s_pI H W.x0 rfl rfl rfl (fun M1 H1 => ?_))
  have W1 : mWs Y (uI S 0 0 10 (sI S 0 0 10 + 1)) := W.uI (Or.inl (by omega))
  refine s_gR7 H1 ht rfl rfl rfl (s_rcL H1 rfl (W.l13 ht) (c_first H1 W1 ht hne (fun s hs hs0 => s_cast H1 hs rfl rfl ?_)))
  refine s_gR7 H1 ht rfl rfl rfl (s_rcL H1 rfl (W.l13 ht) (s_remove (j := 0) (x := s) H1 rfl (W.l13 ht) hs0 (fun M2 md e H2 => s_rc H2 W.x0 rfl rfl ?_)))
  have W2 := W1.uL (i := t) (md := md) (e := e) (xs := (sL (uI S 0 0 10 (sI S 0 0 10 + 1)) 13 t).eraseIdx 0) (k := 13) rfl
  have Q1 : mWq Y (uI S 0 0 10 (sI S 0 0 10 + 1)) := Q.uI (by omega)
  have Q2 := Q1.rm (md := md) (e := e) ht hs0
  have F2 : mFc Y S Y (uL (uI S 0 0 10 (sI S 0 0 10 + 1)) 13 t md e ((sL (uI S 0 0 10 (sI S 0 0 10 + 1)) 13 t).eraseIdx 0)) := (mFc.uI (by omega)).tr (mFc.uL (by omega))
  have R2 : cQ Y S Y (uL (uI S 0 0 10 (sI S 0 0 10 + 1)) 13 t md e ((sL (uI S 0 0 10 (sI S 0 0 10 + 1)) 13 t).eraseIdx 0)) := (cQ.uI (by decide)).tr cQ.uL
  refine c_good H2 W2 hs ht (br_f (by decide) ?_) (br_t rfl (c_yawn87 H2 W2 Q2 F2 R2 hs ht h))
  refine s_rc H2 W.x0 rfl rfl (c_comeThrough H2 W2 hs ht (fun x Y3 S3 M3 H3 W3 K3 => ?_))
  rw [← K3.1.1 0 0 W.x0, ← K3.1.1 3 t ht, ← K3.1.1 4 s hs]
  exact c_yawn87 H3 W3 (K3.Qx Q2) (F2.tr K3.1) (R2.tr K3.q) (by rw [K3.2.1 4 (by omega)]; exact hs) (by rw [K3.2.1 3 (by omega)]; exact ht) h
/-- hours -/
theorem c_putAll (H : mR g Y S M) {k i k' i' : Nat} (hk : k = 10 ∨ k = 11) (hk' : k' = 10 ∨ k' = 11) (hi : i < yn Y k) (hi' : i' < yn Y k') {κ : mM → Prop} (h : ∀ x y M', mR g Y (uJ (uJ S k i 0 x) k i 1 y) M' → κ M') : wX7_putAll κ (some (yA Y k i)) (some (yA Y k' i')) M := by
  rcases hk with rfl | rfl <;> rcases hk' with rfl | rfl <;> exact s_gJ H hi rfl rfl rfl (s_gJ H hi' rfl rfl rfl (s_pJ H hi rfl rfl rfl (fun M1 H1 => s_gJ H1 hi rfl rfl rfl (s_gJ H1 hi' rfl rfl rfl (s_pJ H1 hi rfl rfl rfl (fun M2 H2 => h _ _ M2 H2))))))
theorem pA_K {k i : Nat} {x y : Int64} (hk : k = 10 ∨ k = 11) : cK Y S Y (uJ (uJ S k i 0 x) k i 1 y) := (cK.uJ (by omega)).tr (cK.uJ (by omega))
theorem c_sp101 {S0 : mS} {κ : mM → Prop} (h : ∀ S' M', mR g Y S' M' → mWs Y S' → cK Y S0 Y S' → κ M') : ∀ (d j : Nat) (S : mS) (M : mM), mR g Y S M → mWs Y S → cK Y S0 Y S → j + d = yn Y 3 → wX8_spreadRevoked_101 κ (d + 1) (some (yA Y 0 0)) (nI j) M := by
  intro d
  induction d with
  | zero =>
    intro j S M H W K hj
    rw [wX8_spreadRevoked_101]
    exact c_hdG H W (by omega) (fun _ => h S M H W K) (fun hlt => absurd hlt (by omega))
  | succ d ih =>
    intro j S M H W K hj
    rw [wX8_spreadRevoked_101]
    refine c_hdG H W (by omega) (fun z => absurd z (by omega)) (fun hlt => ?_)
    refine s_gR7 H hlt rfl rfl rfl (s_gR7 H hlt rfl rfl rfl (s_rc H (W.l10 hlt) rfl rfl (c_putAll H (Or.inl rfl) (Or.inr rfl) (W.l10 hlt) (W.l11 hlt) (fun x y M1 H1 => ?_))))
    rw [nI_1]
    exact ih (j + 1) _ M1 H1 (W.uJ.uJ) (K.tr (pA_K (Or.inl rfl))) (by omega)
theorem c_sp27 {S0 : mS} {i : Nat} (hi : i < yn Y 3) {κ : mM → Prop} {R2 : Option Nat → Int32 → mM → Prop} (hR : ∀ S M, mR g Y S M → mWs Y S → cK Y S0 Y S → R2 (some (yA Y 0 0)) (nI i + 1) M) : ∀ (d j : Nat) (S : mS) (M : mM), mR g Y S M → mWs Y S → cK Y S0 Y S → j + d = yn Y 3 → wX8_spreadRevoked_27 κ R2 (d + 1) (some (yA Y 0 0)) (nI i) (some (yA Y 3 i)) (nI j) M := by
  intro d
  induction d with
  | zero =>
    intro j S M H W K hj
    rw [wX8_spreadRevoked_27]
    exact c_hdG H W (by omega) (fun _ => hR S M H W K) (fun hlt => absurd hlt (by omega))
  | succ d ih =>
    intro j S M H W K hj
    have ih' : ∀ S M, mR g Y S M → mWs Y S → cK Y S0 Y S → wX8_spreadRevoked_27 κ R2 (d + 1) (some (yA Y 0 0)) (nI i) (some (yA Y 3 i)) (nI j + 1) M := fun S M H W K => by rw [nI_1]; exact ih (j + 1) S M H W K (by omega)
    rw [wX8_spreadRevoked_27]
    refine c_hdG H W (by omega) (fun z => absurd z (by omega)) (fun hlt => ?_)
    have h75 : wX8_spreadRevoked_75 κ R2 (wX8_spreadRevoked_27 κ R2 (d + 1)) (some (yA Y 0 0)) (nI i) (some (yA Y 3 i)) (nI j) (some (yA Y 3 j)) M := s_gR7 H hi rfl rfl rfl (s_gR7 H hlt rfl rfl rfl (s_rc H (W.l11 hi) rfl rfl (c_putAll H (Or.inr rfl) (Or.inl rfl) (W.l11 hi) (W.l10 hlt) (fun x y M1 H1 => ih' _ M1 H1 (W.uJ.uJ) (K.tr (pA_K (Or.inr rfl)))))))
    have l1 := H.lN (k := 3) (f := 1) (kt := 2) hlt rfl
    have l2 := H.lN (k := 3) (f := 2) (kt := 2) hlt rfl
    exact s_gR2 H hlt rfl rfl rfl (s_rc H hi rfl rfl (c_isAt H hi l1 (fun _ => br_f (by decide) h75) (fun _ => br_t rfl (s_gR2 H hlt rfl rfl rfl (s_rc H hi rfl rfl (c_isAt H hi l2 (fun _ => br_f (by decide) h75) (fun _ => br_t rfl (ih' S M H W K))))))))
theorem c_sp2 {S0 : mS} {κ : mM → Prop} (h : ∀ S' M', mR g Y S' M' → mWs Y S' → cK Y S0 Y S' → κ M') : ∀ (d j : Nat) (S : mS) (M : mM), mR g Y S M → mWs Y S → cK Y S0 Y S → j + d = yn Y 3 → wX8_spreadRevoked_2 κ (d + 1) (some (yA Y 0 0)) (nI j) M := by
  intro d
  induction d with
  | zero =>
    intro j S M H W K hj
    rw [wX8_spreadRevoked_2]
    exact c_hdG H W (by omega) (fun _ => ⟨yn Y 3 + 1, c_sp101 h (yn Y 3) 0 S M H W K (by omega)⟩) (fun hlt => absurd hlt (by omega))
  | succ d ih =>
    intro j S M H W K hj
    rw [wX8_spreadRevoked_2]
    refine c_hdG H W (by omega) (fun z => absurd z (by omega)) (fun hlt => ?_)
    exact ⟨yn Y 3 + 1, c_sp27 hlt (fun S M H W K => by rw [nI_1]; exact ih (j + 1) S M H W K (by omega)) (yn Y 3) 0 S M H W K (by omega)⟩
theorem c_bh34 {S0 : mS} {κ : mM → Prop} (h : ∀ S' M', mR g Y S' M' → mWs Y S' → cK Y S0 Y S' → κ M') : ∀ (d j : Nat) (S : mS) (M : mM), mR g Y S M → mWs Y S → cK Y S0 Y S → j + d = yn Y 3 → wX8_beginHour_34 κ (d + 1) (some (yA Y 0 0)) (nI j) M := by
  intro d
  induction d with
  | zero =>
    intro j S M H W K hj
    rw [wX8_beginHour_34]
    exact c_hdG H W (by omega) (fun _ => h S M H W K) (fun hlt => absurd hlt (by omega))
  | succ d ih =>
    intro j S M H W K hj
    rw [wX8_beginHour_34]
    refine c_hdG H W (by omega) (fun z => absurd z (by omega)) (fun hlt => ?_)
    have h79 : ∀ x, wX8_beginHour_79 κ (wX8_beginHour_34 κ (d + 1)) (some (yA Y 0 0)) (nI j) x (some (yA Y 3 j)) M := fun x => s_pI H hlt rfl rfl rfl (fun M1 H1 => by rw [nI_1]; exact ih (j + 1) _ M1 H1 (W.uI (Or.inl (by omega))) (K.tr (cK.uI (by omega) (by omega) (by decide))) (by omega))
    exact s_gI H W.x0 rfl rfl rfl (s_rc H hlt rfl rfl (c_isOpenAt H hlt (fun _ => br_f (by decide) (s_gI H hlt rfl rfl rfl (h79 _))) (fun _ => br_t rfl (h79 _))))
theorem c_bh28 {S0 : mS} {κ : mM → Prop} (h : ∀ S' M', mR g Y S' M' → mWs Y S' → cK Y S0 Y S' → κ M') (H : mR g Y S M) (W : mWs Y S) (K : cK Y S0 Y S) : wX8_beginHour_28 κ (some (yA Y 0 0)) M :=
  s_rc H W.x0 rfl rfl ⟨yn Y 3 + 1, c_sp2 (S0 := S0) (fun S1 M1 H1 W1 K1 => ⟨yn Y 3 + 1, c_bh34 h (yn Y 3) 0 S1 M1 H1 W1 K1 (by omega)⟩) (yn Y 3) 0 S M H W K (by omega)⟩
theorem c_bn44 {S0 : mS} {κ : mM → Prop} (h : ∀ S' M', mR g Y S' M' → mWs Y S' → cK Y S0 Y S' → κ M') : ∀ (d j : Nat) (S : mS) (M : mM), mR g Y S M → mWs Y S → cK Y S0 Y S → j + d = yn Y 4 → wX8_beginNight_44 κ (d + 1) (some (yA Y 0 0)) (nI j) M := by
  intro d
  induction d with
  | zero =>
    intro j S M H W K hj
    rw [wX8_beginNight_44]
    exact c_hdS H W (by omega) (fun _ => h S M H W K) (fun hlt => absurd hlt (by omega))
  | succ d ih =>
    intro j S M H W K hj
    have ih' : ∀ S M, mR g Y S M → mWs Y S → cK Y S0 Y S → wX8_beginNight_44 κ (d + 1) (some (yA Y 0 0)) (nI j + 1) M := fun S M H W K => by rw [nI_1]; exact ih (j + 1) S M H W K (by omega)
    rw [wX8_beginNight_44]
    refine c_hdS H W (by omega) (fun z => absurd z (by omega)) (fun hlt => ?_)
    refine s_gR3 H hlt rfl rfl rfl (br_c (fun _ => ih' S M H W K) (fun z => s_gR3 H hlt rfl rfl rfl ?_))
    cases hx : sX S 4 j 7 with
    | none => exact absurd (by rw [hx]; rfl) z
    | some p =>
      have hp := H.lX (k := 4) (f := 7) (kt := 16) hlt rfl p hx
      exact s_gI H hp rfl rfl rfl (s_gI H W.x0 rfl rfl rfl (br_c (fun _ => ih' S M H W K) (fun _ => s_pX0 H hlt rfl rfl rfl (fun M1 H1 => ih' _ M1 H1 W.uX (K.tr (cK.uX (by omega) (by omega)))))))
theorem c_bn20 {S0 : mS} {κ : mM → Prop} (h : ∀ S' M', mR g Y S' M' → mWs Y S' → cK Y S0 Y S' → κ M') : ∀ (d j : Nat) (S : mS) (M : mM), mR g Y S M → mWs Y S → cK Y S0 Y S → j + d = 6 → wX8_beginNight_20 κ (d + 1) (some (yA Y 0 0)) (some (yA Y 1 0)) (nI 6) (nI j) M := by
  intro d
  induction d with
  | zero =>
    intro j S M H W K hj
    rw [wX8_beginNight_20]
    exact br_t (nI_le (by omega) (by omega)) ⟨yn Y 4 + 1, c_bn44 h (yn Y 4) 0 S M H W K (by omega)⟩
  | succ d ih =>
    intro j S M H W K hj
    have hj6 : j < 6 := by omega
    rw [wX8_beginNight_20]
    refine br_f (nI_ge hj6 (by omega)) (s_ldR H W.l1 rfl (by decide) rfl (by rw [W.2.2.2.2.1.1]; exact hj6) (by rw [W.2.2.2.2.1.1]; omega) ?_)
    rw [W.2.2.2.2.1.2 j hj6]
    exact s_pI H (W.l2 hj6) rfl rfl rfl (fun M1 H1 => by rw [nI_1]; exact ih (j + 1) _ M1 H1 (W.uI (Or.inl (by omega))) (K.tr (cK.uI (by omega) (by omega) (by decide))) (by omega))
theorem c_beginNight {S0 : mS} {κ : mM → Prop} (h : ∀ S' M', mR g Y S' M' → mWs Y S' → cK Y S0 Y S' → κ M') (H : mR g Y S M) (W : mWs Y S) (K : cK Y S0 Y (uI S 0 0 8 (sI S 0 0 8 + 1))) : wX8_beginNight κ (some (yA Y 0 0)) M := by
  refine s_gI H W.x0 rfl rfl rfl (s_pI H W.x0 rfl rfl rfl (fun M1 H1 => s_gR6 H1 W.x0 rfl rfl rfl (s_lenR H1 W.l1 (by decide) rfl ?_)))
  show ∃ u : Nat, wX8_beginNight_20 κ u _ _ (nI (sC S 1 0)) 0 M1
  rw [W.2.2.2.2.1.1]
  exact ⟨7, c_bn20 h 6 0 _ M1 H1 (W.uI (Or.inl (by omega))) K (by omega)⟩
/-- inside an hour: as cK, but for night and hour, which are told -/
def cT (Y0 : mY) (S0 : mS) (Y : mY) (S : mS) (n hr : Int32) : Prop := mFc Y0 S0 Y S ∧ (∀ k, k ≠ 6 → yn Y k = yn Y0 k) ∧ (∀ t, sL S 13 t = sL S0 13 t) ∧ (∀ s, sX S 4 s 5 = sX S0 4 s 5) ∧ (∀ s, sI S 4 s 4 = sI S0 4 s 4) ∧ (∀ k i f, qC k f = true → k ≠ 0 → sI S k i f = sI S0 k i f) ∧ sI S 0 0 8 = n ∧ sI S 0 0 9 = hr
theorem cT.K {Y0 Y Y' : mY} {S0 S S' : mS} {n hr : Int32} (T : cT Y0 S0 Y S n hr) (h : cK Y S Y' S') : cT Y0 S0 Y' S' n hr := ⟨T.1.tr h.1, fun k hk => (h.2.1 k hk).trans (T.2.1 k hk), fun t => (h.2.2.1 t).trans (T.2.2.1 t), fun t => (h.2.2.2.1 t).trans (T.2.2.2.1 t), fun t => (h.2.2.2.2.1 t).trans (T.2.2.2.2.1 t), fun k i f q z => (h.2.2.2.2.2 k i f q).trans (T.2.2.2.2.2.1 k i f q z), (h.2.2.2.2.2 0 0 8 (by decide)).trans T.2.2.2.2.2.2.1, (h.2.2.2.2.2 0 0 9 (by decide)).trans T.2.2.2.2.2.2.2⟩
theorem cT.u9 {Y0 Y : mY} {S0 S : mS} {n hr : Int32} (T : cT Y0 S0 Y S n hr) (v : Int32) : cT Y0 S0 Y (uI S 0 0 9 v) n v := ⟨T.1.tr (mFc.uI (by omega)), T.2.1, T.2.2.1, T.2.2.2.1, fun t => (sI_uI (by omega)).trans (T.2.2.2.2.1 t), fun k i f q z => (sI_uI (by omega)).trans (T.2.2.2.2.2.1 k i f q z), (sI_uI (by omega)).trans T.2.2.2.2.2.2.1, sI_uI_s⟩
theorem cT.u8 {Y0 Y : mY} {S0 S : mS} {n hr : Int32} (T : cT Y0 S0 Y S n hr) (v : Int32) : cT Y0 S0 Y (uI S 0 0 8 v) v hr := ⟨T.1.tr (mFc.uI (by omega)), T.2.1, T.2.2.1, T.2.2.2.1, fun t => (sI_uI (by omega)).trans (T.2.2.2.2.1 t), fun k i f q z => (sI_uI (by omega)).trans (T.2.2.2.2.2.1 k i f q z), sI_uI_s, (sI_uI (by omega)).trans T.2.2.2.2.2.2.2⟩
theorem cT.rf (Y : mY) (S : mS) : cT Y S Y S (sI S 0 0 8) (sI S 0 0 9) := ⟨mFc.rf Y S, fun _ _ => rfl, fun _ => rfl, fun _ => rfl, fun _ => rfl, fun _ _ _ _ _ => rfl, rfl, rfl⟩
theorem cT.Q {Y Y' : mY} {S S' : mS} {n hr : Int32} (h : cT Y S Y' S' n hr) (Q : mWq Y S) : mWq Y' S' := by
  obtain ⟨-, n, a, b, c, -⟩ := h
  refine ⟨fun t ht => ?_, fun s t hs hx => ?_⟩
  · rw [n 3 (by omega)] at ht
    rw [a]
    exact ⟨(Q.1 t ht).1, fun s hs => (b s).trans ((Q.1 t ht).2 s hs)⟩
  · rw [n 4 (by omega)] at hs
    rw [b] at hx
    rw [a, c]
    exact Q.2 s t hs hx
/-- an hour goes by: night and hour -/
def ad1 (p : Int32 × Int32) : Int32 × Int32 := if p.2 + 1 = 24 then (p.1 + 1, 0) else (p.1, p.2 + 1)
def adv : Nat → Int32 × Int32 → Int32 × Int32
  | 0, p => p
  | j + 1, p => ad1 (adv j p)
theorem c_beginHour {S0 : mS} {p : Int32 × Int32} {κ : mM → Prop} (h : ∀ S' M', mR g Y S' M' → mWs Y S' → cT Y S0 Y S' (ad1 p).1 (ad1 p).2 → κ M') (H : mR g Y S M) (W : mWs Y S) (T : cT Y S0 Y S p.1 p.2) : wX8_beginHour κ (some (yA Y 0 0)) M := by
  have e9 : sI S 0 0 9 = p.2 := T.2.2.2.2.2.2.2
  refine s_gI H W.x0 rfl rfl rfl (s_pI H W.x0 rfl rfl rfl (fun M1 H1 => ?_))
  rw [e9] at H1
  have W1 := W.uI (k := 0) (i := 0) (f := 9) (v := p.2 + 1) (Or.inl (by omega))
  have T1 := T.u9 (p.2 + 1)
  refine s_gI H1 W.x0 rfl rfl rfl (br_c (fun z => s_pI H1 W.x0 rfl rfl rfl (fun M2 H2 => s_rc H2 W.x0 rfl rfl ?_)) (fun z => ?_))
  · rw [sI_uI_s] at z
    have T2 := T1.u9 0
    have T3 := T2.u8 (sI (uI (uI S 0 0 9 (p.2 + 1)) 0 0 9 0) 0 0 8 + 1)
    have e := T2.2.2.2.2.2.2.1
    refine c_beginNight (S0 := uI (uI (uI S 0 0 9 (p.2 + 1)) 0 0 9 0) 0 0 8 (sI (uI (uI S 0 0 9 (p.2 + 1)) 0 0 9 0) 0 0 8 + 1)) (fun S3 M3 H3 W3 K3 => c_bh28 (S0 := S3) (fun S4 M4 H4 W4 K4 => h S4 M4 H4 W4 ?_) H3 W3 (cK.rf Y S3)) H2 (W1.uI (Or.inl (by omega))) (cK.rf Y _)
    have T4 := (T3.K K3).K K4
    rw [e] at T4
    unfold ad1
    rw [if_pos z]
    exact T4
  · rw [sI_uI_s] at z
    refine c_bh28 (S0 := uI S 0 0 9 (p.2 + 1)) (fun S4 M4 H4 W4 K4 => h S4 M4 H4 W4 ?_) H1 W1 (cK.rf Y _)
    unfold ad1
    rw [if_neg z]
    exact T1.K K4
theorem c_pass39 {S0 : mS} {n : Nat} (hn : n ≤ 48) {p : Int32 × Int32} {κ : Int32 → mM → Prop} {ξ : String → mM → Prop} (h : ∀ S' M', mR g Y S' M' → mWs Y S' → cT Y S0 Y S' (adv n p).1 (adv n p).2 → κ (adv n p).2 M') : ∀ (d j : Nat) (S : mS) (M : mM), mR g Y S M → mWs Y S → cT Y S0 Y S (adv j p).1 (adv j p).2 → j + d = n → wX8_pass_39 κ ξ (d + 1) (some (yA Y 0 0)) (nI n) (nI j) M := by
  intro d
  induction d with
  | zero =>
    intro j S M H W T hj
    rw [wX8_pass_39]
    have ej : j = n := by omega
    subst ej
    exact br_t (nI_le (by omega) (by omega)) (s_gI H W.x0 rfl rfl rfl (by rw [T.2.2.2.2.2.2.2]; exact h S M H W T))
  | succ d ih =>
    intro j S M H W T hj
    rw [wX8_pass_39]
    refine br_f (nI_ge (by omega) (by omega)) (s_rc H W.x0 rfl rfl (c_beginHour (S0 := S0) (p := adv j p) (fun S1 M1 H1 W1 T1 => ?_) H W T))
    rw [nI_1]
    exact ih (j + 1) S1 M1 H1 W1 T1 (by omega)
theorem c_pass (H : mR g Y S M) (W : mWs Y S) (Q : mWq Y S) {a : Int32} {κ : Int32 → mM → Prop} {ξ : String → mM → Prop} (hA : ¬ (¬ a < 1 ∧ a ≤ 48) → ξ "java/lang/IllegalArgumentException" M) (hS : (¬ a < 1 ∧ a ≤ 48) → ¬ sI S 0 0 8 + (sI S 0 0 9 + a) / 24 ≤ 99 → ξ "java/lang/IllegalStateException" M) (h : ∀ n S' M', n ≤ 48 → a = nI n → (¬ a < 1 ∧ a ≤ 48) → sI S 0 0 8 + (sI S 0 0 9 + a) / 24 ≤ 99 → mR g Y S' M' → mWs Y S' → mWq Y S' → cT Y S Y S' (adv n (sI S 0 0 8, sI S 0 0 9)).1 (adv n (sI S 0 0 8, sI S 0 0 9)).2 → κ (adv n (sI S 0 0 8, sI S 0 0 9)).2 M') : wX8_pass κ ξ (some (yA Y 0 0)) a M := by
  refine c_range H (fun r1 r2 => ?_) (fun z => hA z)
  have r0 : ¬ a < 0 := fun z => r1 (Int32.lt_trans z (by decide))
  obtain ⟨n, hn, ea⟩ := nI_of2 (M := 48) (n := 48) (by decide) r0 r2
  refine s_gI H W.x0 rfl rfl rfl (s_gI H W.x0 rfl rfl rfl (br_c (fun z => ?_) (fun z => hS ⟨r1, r2⟩ z)))
  have ha := ea
  subst ea
  exact ⟨n + 1, c_pass39 (S0 := S) hn (p := (sI S 0 0 8, sI S 0 0 9)) (fun S1 M1 H1 W1 T1 => h n S1 M1 hn rfl ⟨r1, r2⟩ z H1 W1 (T1.Q Q) T1) n 0 S M H W (cT.rf Y S) (by omega)⟩
end CYAWN
