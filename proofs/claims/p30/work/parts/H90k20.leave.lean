/-! THE SIMULATION, 11: who leaves a queue, of both -/
theorem idx_nd : ∀ (l : List Nat) (j s : Nat), l.Nodup → l[j]? = some s → l.idxOf s = j := by
  intro l
  induction l with
  | nil => intro j s _ h; simp at h
  | cons a l ih =>
    intro j s hn h
    cases j with
    | zero =>
      have e : a = s := by simpa using h
      rw [e, List.idxOf_cons_self]
    | succ j =>
      have h' : l[j]? = some s := by simpa using h
      have hne : a ≠ s := fun w => (List.nodup_cons.mp hn).1 (by rw [w]; exact List.mem_of_getElem? h')
      have e := ih j s (List.nodup_cons.mp hn).2 h'
      rw [List.idxOf_cons, beq_false_of_ne hne, e]
      rfl
/-- the parts of one who wakes are gone -/
def nGo (s : Nat) : Nat → mN → mN
  | 0, N => N
  | j + 1, N => if nv (nGo s j N) 29 j 4 = nI s then nU (nGo s j N) 29 j 4 999 else nGo s j N
def nOut1 (N : mN) (s : Nat) (v : Int32) : mN := nU (nU (nQ N (tN (nv N 28 s 4)) ((nq N (tN (nv N 28 s 4))).eraseIdx ((nq N (tN (nv N 28 s 4))).idxOf s))) 28 s 3 v) 28 s 4 (-1)
def nOut (N : mN) (s : Nat) (v : Int32) : mN := if v = 2 then nGo s (nn N 29) (nOut1 N s v) else nOut1 N s v
def fLeave (N : mN) (a : Int32) : mT :=
  if ¬ (¬ a < 0 ∧ a < nI (nn N 28)) then (1, 0, N)
  else if ¬ nv N 28 (tN a) 3 = 1 then (2, 0, N)
  else (0, nI ((nq N (tN (nv N 28 (tN a) 4))).idxOf (tN a)), nOut N (tN a) 0)
section SIM11
variable {g : Nat → Nat} {Y : mY} {S : mS} {M : mM} {N : mN}
theorem C_leave (H : mR g Y S M) (W : mWs Y S) (Q : mWq Y S) (R : RC 99 N Y S) (RR : RV N Y S) (VQ : mVq Y S) {a : Int32} {κ : Int32 → mM → Prop} {ξ : String → mM → Prop} (hx1 : (fLeave N a).1 = 1 → ξ "java/lang/IndexOutOfBoundsException" M) (hx2 : (fLeave N a).1 = 2 → ξ "java/lang/IllegalStateException" M)
    (h : ∀ v N' Y' S' M', fLeave N a = (0, v, N') → cX g N' Y S Y' S' M' → κ v M') : wX8_leave κ ξ (some (yA Y 0 0)) a M := by
  have hb := W.2.1
  unfold fLeave at hx1 hx2 h
  rw [← R.1.2.1] at hx1 hx2 h
  refine s_rc H W.x0 rfl rfl (c_sleeperN H W (fun s hs es => ?_) (fun z => hx1 (by rw [if_pos z])))
  have hv : ¬ a < 0 ∧ a < nI (yn Y 4) := by rw [es]; exact m_in hs (by omega)
  have t1 : tN a = s := by rw [es]; exact tN_nI (by omega)
  rw [if_neg (fun w => w hv), t1] at hx2 h
  have h5 := R.2.2.2.2.1 s hs (by omega)
  have i3 : sI S 4 s 4 = nv N 28 s 3 := R.2.1 4 s 4 28 3 rfl hs (by omega)
  have hs28 : s < yn Y 28 := by rw [RR.1.2.1, ← R.1.2.1]; exact hs
  refine c_placeOf H W hs (fun t j hxt ht hj => ?_) (fun hno => ?_)
  · have hl := H.len (k := 13) (i := t) rfl (W.l13 ht)
    have hjl := (List.getElem?_eq_some_iff.mp hj).1
    have e3 : nv N 28 s 3 = 1 := i3.symm.trans (Q.2 s t hs hxt).1
    have e4 : nv N 28 s 4 = nI t := by rw [h5, hxt]; rfl
    have eq : sL S 13 t = nq N t := (R.2.2.1 t ht).2.2
    have ej : (nq N t).idxOf s = j := idx_nd _ _ _ (by rw [← eq]; exact (Q.1 t ht).1) (by rw [← eq]; exact hj)
    rw [if_neg (fun w => w e3)] at h
    have hno : nOut N s 0 = nU (nU (nQ N t ((nq N t).eraseIdx j)) 28 s 3 0) 28 s 4 (-1) := by
      unfold nOut nOut1
      rw [if_neg (by decide), e4, tN_nI (by omega), ej]
    rw [hno, e4, tN_nI (by omega), ej] at h
    refine s_gR3 H hs rfl rfl rfl ?_
    rw [hxt]
    refine br_f (fun z => by cases z) (br_f (fun z => ?_) ?_)
    · have := nI_pos (n := j) (by omega)
      rw [z] at this
      exact this (by decide)
    · refine s_gR3 H hs rfl rfl rfl ?_
      rw [hxt]
      refine s_gR7 H ht rfl rfl rfl (s_rcL H rfl (W.l13 ht) (s_remove H rfl (W.l13 ht) hj (fun M1 md e H1 => s_rc H1 hs rfl rfl (c_stepOut H1 hs (fun M2 H2 => ?_)))))
      have R1 : RC 99 (nQ N t ((nq N t).eraseIdx j)) Y (uL S 13 t md e ((sL S 13 t).eraseIdx j)) := by rw [← eq]; exact R.line
      have R2 := (R1.exc (by decide) (by omega) (s := s) (by rw [show sX (uL S 13 t md e ((sL S 13 t).eraseIdx j)) 4 s 5 = sX S 4 s 5 from rfl, hxt]; exact fun w => by cases w) (v := 0) (w := -1)).out (by omega) hs (v := 0) (by rw [nv_U (by omega), nv_U_s]) nv_U_s (y := 99) (by omega)
      exact h _ _ Y _ M2 rfl ⟨H2, so_W (W.uL rfl), (Q.rm ht hj).out, (mFc.uL (by omega)).tr so_F, R2⟩
  · have hnone : sX S 4 s 5 = none := by
      cases hq : sX S 4 s 5 with
      | none => rfl
      | some t => exact absurd (Q.2 s t hs hq).2 (hno t hq)
    have e3 : ¬ nv N 28 s 3 = 1 := fun w => by
      obtain ⟨t, ht, et, -⟩ := VQ.2 s hs28 ((RR.2.1 28 s 3 rfl hs28).trans w)
      rw [RR.2.1 28 s 4 rfl hs28, h5, hnone] at et
      have := nI_pos (n := t) (by have := RR.1.1; have := R.1.1; omega)
      rw [← et] at this
      exact this (by decide)
    have hh := hx2 (by rw [if_pos e3])
    exact s_gR3 H hs rfl rfl rfl (br_c (fun _ => hh) (fun _ => br_t rfl hh))
end SIM11
