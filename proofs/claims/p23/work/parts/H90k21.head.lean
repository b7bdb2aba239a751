/-! THE SIMULATION, 12: whose head a part is in, of both -/
/-- the set of the parts in a head -/
def nHd (N : mN) (s : Nat) : Nat → Int32
  | 0 => 0
  | j + 1 => if nv N 29 j 4 = nI s then nHd N s j ||| m_shl 1 (nI j) else nHd N s j
section SIM12
variable {g : Nat → Nat} {Y : mY} {S : mS} {M : mM} {N : mN} {x : Nat}
/-- a part is in a head: in the class's words -/
theorem RC.at (R : RC x N Y S) (H : mR g Y S M) (W : mWs Y S) {p s : Nat} (hp : p < yn Y 5) (hs : s < yn Y 4) : nv N 29 p 4 = nI s ↔ sX S 5 p 5 = some s := by
  have hb := W.2.1
  constructor
  · intro e
    cases hd : sX S 5 p 5 with
    | none => exact absurd (by rw [e]; exact nI_lt (a := s) (b := 100) (by omega) (by omega)) (R.at0 H W hp hd)
    | some s1 =>
      have hs1 := H.lX (k := 5) (f := 5) (kt := 4) hp rfl s1 hd
      exact congrArg some ((nI_eq (by omega) (by omega)).mp ((R.at1 hp hd).2.symm.trans e))
  · intro hd
    exact (R.at1 hp hd).2
theorem C_head_l (R : RC x N Y S) (H : mR g Y S M) (W : mWs Y S) {s : Nat} (hs : s < yn Y 4) {κ : Int32 → mM → Prop} (h : κ (nHd N s (yn Y 5)) M) : ∀ (d j : Nat), j + d = yn Y 5 → wX8_headOf_4 κ (d + 1) (some (yA Y 0 0)) (some (yA Y 4 s)) (nHd N s j) (nI j) M := by
  have hb := W.2.1
  intro d
  induction d with
  | zero =>
    intro j hj
    rw [wX8_headOf_4]
    exact c_hdP H W (by omega) (fun e => by rw [e]; exact h) (fun hlt => absurd hlt (by omega))
  | succ d ih =>
    intro j hj
    have ih' : ∀ (a : Int32), a = nHd N s (j + 1) → wX8_headOf_4 κ (d + 1) (some (yA Y 0 0)) (some (yA Y 4 s)) a (nI j + 1) M := fun a e => by rw [nI_1, e]; exact ih (j + 1) (by omega)
    rw [wX8_headOf_4]
    refine c_hdP H W (by omega) (fun z => absurd z (by omega)) (fun hlt => ?_)
    have hX := H.lX (k := 5) (f := 5) (kt := 4) hlt rfl
    have en : sI S 5 j 0 = nI j := W.2.2.2.1.2.2.2 j hlt
    refine s_gR3 H hlt rfl rfl rfl (br_c (fun z => s_gI H hlt rfl rfl rfl (ih' _ ?_)) (fun z => ih' _ ?_))
    · have e := (R.at H W hlt hs).mpr ((H.minj hs hX).mp z)
      rw [en]
      exact (if_pos e).symm
    · exact (if_neg (fun e => z ((H.minj hs hX).mpr ((R.at H W hlt hs).mp e)))).symm
theorem C_head (R : RC x N Y S) (H : mR g Y S M) (W : mWs Y S) {s : Nat} (hs : s < yn Y 4) {κ : Int32 → mM → Prop} (h : κ (nHd N s (nn N 29)) M) : wX8_headOf κ (some (yA Y 0 0)) (some (yA Y 4 s)) M := by
  rw [← R.1.2.2] at h
  exact ⟨yn Y 5 + 1, C_head_l R H W hs h (yn Y 5) 0 (by omega)⟩
theorem D_head_l (R : RV N Y S) (H : mR g Y S M) (V : mVs Y S) {s : Nat} {κ : Int32 → mM → Prop} (h : κ (nHd N s (yn Y 29)) M) : ∀ (d j : Nat), j + d = yn Y 29 → wX14_head_4 κ (d + 1) (some (yA Y 20 0)) (nI s) (nHd N s j) (nI j) M := by
  intro d
  induction d with
  | zero =>
    intro j hj
    rw [wX14_head_4]
    exact v_hdP H V (by omega) (fun e => by rw [e]; exact h) (fun hlt => absurd hlt (by omega))
  | succ d ih =>
    intro j hj
    have ih' : ∀ (a : Int32), a = nHd N s (j + 1) → wX14_head_4 κ (d + 1) (some (yA Y 20 0)) (nI s) a (nI j + 1) M := fun a e => by rw [nI_1, e]; exact ih (j + 1) (by omega)
    rw [wX14_head_4]
    refine v_hdP H V (by omega) (fun z => absurd z (by omega)) (fun hlt => s_gI H hlt rfl rfl rfl ?_)
    rw [R.2.1 29 j 4 rfl hlt]
    refine br_c (fun z => ih' _ ?_) (fun z => ih' _ ?_)
    · exact (if_pos z).symm
    · exact (Int32.or_zero).trans (if_neg z).symm
theorem D_head (R : RV N Y S) (H : mR g Y S M) (V : mVs Y S) {s : Nat} {κ : Int32 → mM → Prop} (h : κ (nHd N s (nn N 29)) M) : wX14_head κ (some (yA Y 20 0)) (nI s) M := by
  rw [← R.1.2.2] at h
  exact ⟨yn Y 29 + 1, D_head_l R H V h (yn Y 29) 0 (by omega)⟩
end SIM12
