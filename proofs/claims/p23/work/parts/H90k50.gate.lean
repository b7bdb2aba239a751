/-! THE SIMULATION, 40: gates asked of the class -/
theorem kCt_z {p : Nat → Bool} : ∀ n, (∀ j, j < n → p j = false) → kCt p n = 0 := by
  intro n
  induction n with
  | zero => intro _; rfl
  | succ n ih =>
    intro h
    show kCt p n + (if p n = true then 1 else 0) = 0
    rw [ih (fun j hj => h j (by omega)), h n (by omega)]
    rfl
section SIM34g
variable {g : Nat → Nat} {Y : mY} {S : mS} {M : mM} {N : mN}
theorem C_vsize (R : RC 99 N Y S) (H : mR g Y S M) (W : mWs Y S) (Z : nZ N) {t : Nat} (ht : t < yn Y 3) {κ : Int32 → mM → Prop} (h : κ (nCn (fun v => nr N t v) 97) M) : wX7_size κ (some (yA Y 10 t)) M := by
  have hl := W.l10 ht
  have h9 := R.2.2.2.2.2.2.2.2.1
  have ka : kCt (fun v => vBit (sJ S 10 t 0) (sJ S 10 t 1) v) 128 = kCt (fun i => (sJ S 10 t 0).toBitVec.getLsbD i) 64 + kCt (fun i => (sJ S 10 t 1).toBitVec.getLsbD i) 64 := by
    rw [show (128 : Nat) = 64 + 64 from rfl, kCt_a]
    congr 1
  have kb : kCt (fun v => nr N t v) 128 = kCt (fun v => nr N t v) 97 := by
    rw [show (128 : Nat) = 97 + 31 from rfl, kCt_a, kCt_z 31 (fun j _ => Z t (97 + j) (by omega)), Nat.add_zero]
  have kc : kCt (fun v => nr N t v) 128 = kCt (fun v => vBit (sJ S 10 t 0) (sJ S 10 t 1) v) 128 := kCt_e 128 (fun j hj => (h9 t j ht hj).1)
  refine s_gJ H hl rfl rfl rfl (c_bits (s_gJ H hl rfl rfl rfl (c_bits ?_)))
  show κ (nI (kCt (fun i => (sJ S 10 t 0).toBitVec.getLsbD i) 64) + nI (kCt (fun i => (sJ S 10 t 1).toBitVec.getLsbD i) 64)) M
  rw [nI_add, ← ka, ← kc, kb, ← nCn_nI]
  exact h
theorem C_ofGate (H : mR g Y S M) (W : mWs Y S) (Q : mWq Y S) (R : RC 99 N Y S) (Z : nZ N) {a b : Int32} {κ : Int32 → mM → Prop} {ξ : String → mM → Prop} (h1 : (fOfGate N a b).1 = 1 → ξ "java/lang/IndexOutOfBoundsException" M) (h2 : (fOfGate N a b).1 = 2 → ξ "java/lang/IllegalArgumentException" M)
    (h : ∀ v N' Y' S' M', fOfGate N a b = (0, v, N') → cX g N' Y S Y' S' M' → κ v M') : wX8_ofGate κ ξ (some (yA Y 0 0)) a b M := by
  have hb := W.2.1
  unfold fOfGate at h1 h2 h
  rw [← R.1.1] at h1 h2 h
  refine s_rc H W.x0 rfl rfl (c_gateN H W (fun t ht ep => ?_) (fun z => h1 (by rw [if_pos z])))
  have ha : ¬ a < 0 ∧ a < nI (yn Y 3) := by rw [ep]; exact m_in ht (by omega)
  rw [if_neg (fun w => w ha)] at h2 h
  have tp : tN a = t := by rw [ep, tN_nI (by omega)]
  have ok : ∀ v, v = vGt N t b → (¬ b < 0 ∧ ¬ 9 < b) → κ v M := fun v ev hbk => h v N Y S M (by rw [if_neg (fun w => w hbk), tp, ev]) (cX.rf H W Q R)
  have e0 : sI S 2 (sN S 3 t 1) 0 = nv N 23 t 0 := by rw [W.2.2.2.1.1 _ (W.l2' (H.lN (k := 3) (f := 1) (kt := 2) ht rfl)), (R.2.2.1 t ht).1]
  have e1 : sI S 2 (sN S 3 t 2) 0 = nv N 23 t 1 := by rw [W.2.2.2.1.1 _ (W.l2' (H.lN (k := 3) (f := 2) (kt := 2) ht rfl)), (R.2.2.1 t ht).2.1]
  have eL := (R.2.2.1 t ht).2.2
  have ed : sI S 3 t 9 = nv N 23 t 5 := R.2.1 3 t 9 23 5 rfl ht (by omega)
  have eO : cOpen S t (sI S 0 0 9) ↔ ¬ nv N 23 t 3 ≤ m_rem ((nv N 20 0 2 - nv N 23 t 2) + 24) 24 := by
    unfold cOpen
    rw [R.2.1 3 t 4 23 3 rfl ht (by omega), R.2.1 3 t 3 23 2 rfl ht (by omega), R.2.1 0 0 9 20 2 rfl W.x0 (by omega)]
  have eo1 : cOpen S t (sI S 0 0 9) → (1 : Int32) = vOp N t := fun z => (if_neg (eO.mp z)).symm
  have eo0 : ¬ cOpen S t (sI S 0 0 9) → (0 : Int32) = vOp N t := fun z => (if_pos (Classical.not_not.mp (fun w => z (eO.mpr w)))).symm
  exact br_c (fun q0 => s_gR2 H ht rfl rfl rfl (s_gI H (H.lN (k := 3) (f := 1) (kt := 2) ht rfl) rfl rfl rfl (ok _ ((e0).trans (by unfold vGt; rw [if_pos q0])) (by rw [q0]; decide)))) (fun q0 => br_c (fun q1 => s_gR2 H ht rfl rfl rfl (s_gI H (H.lN (k := 3) (f := 2) (kt := 2) ht rfl) rfl rfl rfl (ok _ ((e1).trans (by unfold vGt; rw [if_neg q0, if_pos q1])) (by rw [q1]; decide)))) (fun q1 => br_c (fun q2 => s_gI H W.x0 rfl rfl rfl (s_rc H ht rfl rfl (c_isOpenAt H ht (fun zo => br_f (by decide) (ok _ ((eo1 zo).trans (by unfold vGt; rw [if_neg q0, if_neg q1, if_pos q2])) (by rw [q2]; decide))) (fun zo => br_t rfl (ok _ ((eo0 zo).trans (by unfold vGt; rw [if_neg q0, if_neg q1, if_pos q2])) (by rw [q2]; decide)))))) (fun q2 => br_c (fun q3 => s_gI H ht rfl rfl rfl (ok _ ((R.2.1 3 t 8 23 4 rfl ht (by omega)).trans (by unfold vGt; rw [if_neg q0, if_neg q1, if_neg q2, if_pos q3])) (by rw [q3]; decide))) (fun q3 => br_c (fun q4 => s_gI H ht rfl rfl rfl (ok _ ((R.2.1 3 t 9 23 5 rfl ht (by omega)).trans (by unfold vGt; rw [if_neg q0, if_neg q1, if_neg q2, if_neg q3, if_pos q4])) (by rw [q4]; decide))) (fun q4 => br_c (fun q5 => s_rc H ht rfl rfl (c_dozes H ht (fun zd => br_f (by decide) (ok _ ((show (1 : Int32) = (if nv N 23 t 5 < 5 then 0 else 1) from (if_neg (by rw [← ed]; exact zd)).symm).trans (by unfold vGt; rw [if_neg q0, if_neg q1, if_neg q2, if_neg q3, if_neg q4, if_pos q5])) (by rw [q5]; decide))) (fun zd => br_t rfl (ok _ ((show (0 : Int32) = (if nv N 23 t 5 < 5 then 0 else 1) from (if_pos (by rw [← ed]; exact zd)).symm).trans (by unfold vGt; rw [if_neg q0, if_neg q1, if_neg q2, if_neg q3, if_neg q4, if_pos q5])) (by rw [q5]; decide))))) (fun q5 => br_c (fun q6 => s_gR7 H ht rfl rfl rfl (s_rcL H rfl (W.l13 ht) (s_size H rfl (W.l13 ht) (ok _ ((show nI (sL S 13 t).length = nI (nq N t).length from by rw [eL]).trans (by unfold vGt; rw [if_neg q0, if_neg q1, if_neg q2, if_neg q3, if_neg q4, if_neg q5, if_pos q6])) (by rw [q6]; decide))))) (fun q6 => br_c (fun q7 => C_og7 R H W ht (ok _ (by unfold vGt; rw [if_neg q0, if_neg q1, if_neg q2, if_neg q3, if_neg q4, if_neg q5, if_neg q6, if_pos q7]) (by rw [q7]; decide))) (fun q7 => br_c (fun q8 => s_rc H W.x0 rfl rfl (C_hw R H W Q ht (ok _ (by unfold vGt; rw [if_neg q0, if_neg q1, if_neg q2, if_neg q3, if_neg q4, if_neg q5, if_neg q6, if_neg q7, if_pos q8]) (by rw [q8]; decide)))) (fun q8 => br_c (fun q9 => s_gR7 H ht rfl rfl rfl (s_rc H (W.l10 ht) rfl rfl (C_vsize R H W Z ht (ok _ (by unfold vGt; rw [if_neg q0, if_neg q1, if_neg q2, if_neg q3, if_neg q4, if_neg q5, if_neg q6, if_neg q7, if_neg q8]) (by rw [q9]; decide))))) (fun q9 => h2 (by rw [if_pos (b_no9 q0 q1 q2 q3 q4 q5 q6 q7 q8 q9)])))))))))))
end SIM34g
