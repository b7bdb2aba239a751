/-! THE PROPERTY'S LAW, 4: one comes to a gate; something of any sort is done -/
theorem zb_neg {x : Int32} (h : zb x 31 = false) : ¬ x < 0 := by
  intro w
  have w1 : x.toBitVec.toInt < 0 := by
    have := Int32.lt_iff_toInt_lt.mp w
    exact this
  have w2 : x.toBitVec.msb = true := by
    rw [BitVec.msb_eq_toInt]
    exact decide_eq_true w1
  rw [BitVec.msb_eq_getLsbD_last] at w2
  have w3 : zb x 31 = true := w2
  rw [h] at w3
  cases w3
section LDONE
variable {g : Nat → Nat} {a0 k : Nat} {N : mN} {Y : mY} {S : mS} {M : mM}
/-- a pass, with the right numbers -/
theorem P_sing (P : nLP g a0 k N Y S M) {s t n v nt : Nat} (hs : s < nn N 28) (ht : t < nn N 23) (en : nv N 20 0 1 = nI nt) (hn : nt ≤ n) (hn9 : n ≤ 99) (hv : v ≤ 96) {κ : Int32 → mM → Prop} {ξ : String → mM → Prop} (h : ∀ r N' Y' S' M', r < 97 → nLP g a0 k N' Y' S' M' → mFc Y S Y' S' → nSt N N' → nv N' 20 0 1 = nI nt → κ (nI r) M') : m_rc M (some a0) 13 fun b => wX8_sing κ ξ (some b) (nI s) (nI t) (nI n) (nI v) M := by
  have hb := P.2.2.1.2.1
  have hx : ¬ ¬ ((¬ nI s < 0 ∧ nI s < nI (nn N 28)) ∧ (¬ nI t < 0 ∧ nI t < nI (nn N 23))) := fun w => w ⟨m_in hs (by omega), m_in ht (by omega)⟩
  have hy : ¬ ¬ ((¬ nI n < nv N 20 0 1 ∧ nI n ≤ 99) ∧ (¬ nI v < 0 ∧ nI v ≤ 96)) := fun w => w ⟨⟨by rw [en]; exact nI_nlt hn (by omega), nI_le (a := n) (b := 99) hn9 (by omega)⟩, nI_pos (by omega), nI_le (a := v) (b := 96) hv (by omega)⟩
  have e1 : m_rem (13 * nI s + 29 * nI t + 7 * nI n) 97 = nI ((13 * s + 29 * t + 7 * n) % 97) := by
    rw [show (13 : Int32) = nI 13 from rfl, show (29 : Int32) = nI 29 from rfl, show (7 : Int32) = nI 7 from rfl, pk_mul, pk_mul, pk_mul, nI_add, nI_add]
    exact pk_rem (a := 13 * s + 29 * t + 7 * n) (d := 97) (by omega) (by omega) (by omega)
  have e : fSing N (nI s) (nI t) (nI n) (nI v) = (0, nI ((13 * s + 29 * t + 7 * n) % 97), nU (nU (nU N 28 s 6 (nI t)) 28 s 7 (nI n)) 28 s 8 (nI v)) := by
    unfold fSing
    rw [if_neg hx, if_neg hy, e1, tN_nI (by omega)]
  refine K_sing P (fun z => (L_z0 e z (by decide)).elim) (fun z => (L_z0 e z (by decide)).elim) (fun v N' Y' S' M' e' P' F St => ?_)
  rw [e] at e'
  cases e'
  exact h _ _ Y' S' M' (Nat.mod_lt _ (by omega)) P' F St (by rw [nv_U (by omega), nv_U (by omega), nv_U (by omega)]; exact en)
/-- the last of a coming: the queue -/
theorem L_c138 (P : nLP g a0 k N Y S M) {s t : Nat} (hs : s < nn N 28) (ht : t < nn N 23) {l1 is : Int32} (hi : is = 0 ∨ (is = 1 ∧ (nv N 23 t 0 = nv N 28 s 0 ∨ nv N 23 t 1 = nv N 28 s 0))) {κ : mM → Prop} (h : ∀ N' Y' S' M', nLP g a0 k N' Y' S' M' → mFc Y S Y' S' → nSt N N' → κ M') : wL_come_138 g κ (some a0) l1 (nI s) (nI t) is M := by
  have hb := P.2.2.1.2.1
  rcases hi with rfl | ⟨rfl, hat⟩
  · exact br_t rfl (h N Y S M P (mFc.rf Y S) (nSt.rf N))
  · refine br_f (by decide) (K_ofSleeper P (l := s) (b := 2) hs (by omega) (fun Y1 S1 M1 P1 F1 => ?_))
    rw [zS_2]
    refine br_c (fun h0 => ?_) (fun _ => h N Y1 S1 M1 P1 F1 (nSt.rf N))
    refine K_ofSleeper P1 (l := s) (b := 5) hs (by omega) (fun Y2 S2 M2 P2 F2 => ?_)
    rw [zS_5]
    have hz : ∀ i, i < 32 → zb (nHd N s (nn N 29)) i = true → i < nn N 29 := fun i hi w => ((nHd_zb (N := N) (s := s) (nn N 29) (by omega) i hi).mp w).1
    have d0 : ¬ (nHd N s (nn N 29) &&& m_shr l1 7) < 0 := zb_neg (by
      rw [zb_and]
      cases w : zb (nHd N s (nn N 29)) 31 with
      | false => rfl
      | true => exact absurd (hz 31 (by omega) w) (by omega))
    have d1 : (nHd N s (nn N 29) &&& m_shr l1 7) &&& (nHd N s (nn N 29) ^^^ (-1)) = 0 := zb_ext (fun i hi => by
      rw [zb_and, zb_and, zb_xor, zb_m1 i hi, zb_0]
      cases zb (nHd N s (nn N 29)) i <;> simp)
    have hx : ¬ ¬ ((¬ nI s < 0 ∧ nI s < nI (nn N 28)) ∧ (¬ nI t < 0 ∧ nI t < nI (nn N 23))) := fun w => w ⟨m_in hs (by omega), m_in ht (by omega)⟩
    have e : ∃ v N', fJoin N (nI s) (nI t) (nHd N s (nn N 29) &&& m_shr l1 7) = (0, v, N') := by
      unfold fJoin
      rw [if_neg hx, tN_nI (by omega), if_neg (fun w => w.elim d0 (fun w => w d1)), tN_nI (by omega), if_neg (fun w => w ⟨h0, hat⟩)]
      exact ⟨_, _, rfl⟩
    obtain ⟨v9, N9, e⟩ := e
    exact K_join P2 (fun z => (L_z0 e z (by decide)).elim) (fun z => (L_z0 e z (by decide)).elim) (fun z => (L_z0 e z (by decide)).elim) (fun v N' Y' S' M' e' P' F St => h N' Y' S' M' P' ((F1.tr F2).tr F) St)
theorem L_c99 (P : nLP g a0 k N Y S M) {s t n v nt : Nat} (hs : s < nn N 28) (ht : t < nn N 23) (en : nv N 20 0 1 = nI nt) (hn : nt ≤ n) (hn9 : n ≤ 99) (hv : v ≤ 96) {l1 : Int32} {κ : mM → Prop} (h : ∀ N' Y' S' M', nLP g a0 k N' Y' S' M' → mFc Y S Y' S' → nSt N N' → κ M') : wL_come_99 g κ (some a0) l1 (nI s) (nI t) (nI v) (nI n) (nI t) (nI s) (some a0) M := by
  refine P_sing P hs ht en hn hn9 hv (fun r N1 Y1 S1 M1 _ P1 F1 St1 _ => ?_)
  have hs1 : s < nn N1 28 := by rw [St1.1]; exact hs
  have ht1 : t < nn N1 23 := by rw [St1.1]; exact ht
  have h' : ∀ (Y0 : mY) (S0 : mS), mFc Y1 S1 Y0 S0 → ∀ N' Y' S' M', nLP g a0 k N' Y' S' M' → mFc Y0 S0 Y' S' → nSt N1 N' → κ M' := fun Y0 S0 F0 N' Y' S' M' P' F' St' => h N' Y' S' M' P' ((F1.tr F0).tr F') (St1.tr St')
  refine K_ofSleeper P1 (l := s) (b := 0) hs1 (by omega) (fun Y2 S2 M2 P2 F2 => ?_)
  refine K_ofGate P2 (l := t) (b := 0) ht1 (by omega) (fun Y3 S3 M3 P3 F3 => ?_)
  rw [zS_0, zG_0]
  refine br_c (fun w => L_c138 P3 hs1 ht1 (Or.inr ⟨rfl, Or.inl w⟩) (h' Y3 S3 (F2.tr F3))) (fun _ => ?_)
  refine K_ofGate P3 (l := t) (b := 1) ht1 (by omega) (fun Y4 S4 M4 P4 F4 => ?_)
  rw [zG_1]
  exact br_c (fun w => L_c138 P4 hs1 ht1 (Or.inr ⟨rfl, Or.inr w⟩) (h' Y4 S4 ((F2.tr F3).tr F4))) (fun _ => L_c138 P4 hs1 ht1 (Or.inl rfl) (h' Y4 S4 ((F2.tr F3).tr F4)))
theorem L_come (P : nLP g a0 k N Y S M) (hg : 0 < nn N 23) (hsl : 0 < nn N 28) {l1 : Int32} {κ : mM → Prop} (h : ∀ N' Y' S' M', nLP g a0 k N' Y' S' M' → mFc Y S Y' S' → nSt N N' → κ M') : wL_come g κ (some a0) l1 M := by
  have hb := P.2.2.1.2.1
  obtain ⟨nt, hr, t1, -, t3, -⟩ := P.2.2.1.1
  refine K_night P (b := 3) (by omega) (fun Y1 S1 M1 P1 F1 => ?_)
  rw [zN_3]
  refine L_below hsl (by omega) (fun s hs => ?_)
  refine K_night P1 (b := 2) (by omega) (fun Y2 S2 M2 P2 F2 => ?_)
  rw [zN_2]
  refine L_below hg (by omega) (fun t ht => ?_)
  refine K_night P2 (b := 0) (by omega) (fun Y3 S3 M3 P3 F3 => ?_)
  rw [zN_0, t3]
  refine P_sing P3 (v := 0) hs ht t3 (Nat.le_refl nt) t1 (by omega) (fun r N4 Y4 S4 M4 hr P4 F4 St4 en4 => ?_)
  have hs4 : s < nn N4 28 := by rw [St4.1]; exact hs
  have ht4 : t < nn N4 23 := by rw [St4.1]; exact ht
  refine L_belowI (n := 5) rfl (by omega) (by omega) (fun q hq => ?_)
  refine K_night P4 (b := 0) (by omega) (fun Y5 S5 M5 P5 F5 => ?_)
  rw [zN_0, en4]
  have h' : ∀ N' Y' S' M', nLP g a0 k N' Y' S' M' → mFc Y5 S5 Y' S' → nSt N4 N' → κ M' := fun N' Y' S' M' P' F' St' => h N' Y' S' M' P' (((((F1.tr F2).tr F3).tr F4).tr F5).tr F') (St4.tr St')
  have key : ∀ z : Nat, z ≤ 1 → wL_come_66 g κ (some a0) l1 (nI s) (nI t) (nI r) (nI q) (nI z) (nI nt) 99 (nI t) (nI s) (some a0) M5 := fun z hz => by
    have em : m_min 99 (nI nt + nI z) = nI (min 99 (nt + z)) := by
      rw [nI_add]
      exact mI_min 99 (nt + z) (by omega) (by omega)
    have er : m_rem (nI r + 1) 97 = nI ((r + 1) % 97) := by
      rw [nI_1]
      exact pk_rem (a := r + 1) (d := 97) (by omega) (by omega) (by omega)
    have c1 : ∀ v, v ≤ 96 → wL_come_99 g κ (some a0) l1 (nI s) (nI t) (nI v) (m_min 99 (nI nt + nI z)) (nI t) (nI s) (some a0) M5 := fun v hv => by
      rw [em]
      exact L_c99 P5 hs4 ht4 en4 (by omega) (by omega) hv h'
    have c2 : wL_come_99 g κ (some a0) l1 (nI s) (nI t) (m_rem (nI r + 1) 97) (m_min 99 (nI nt + nI z)) (nI t) (nI s) (some a0) M5 := by
      rw [er]
      exact c1 _ (by have := Nat.mod_lt (r + 1) (show 0 < 97 by omega); omega)
    exact br_c (fun _ => br_c (fun _ => c2) (fun _ => c1 r (by omega))) (fun _ => c1 r (by omega))
  exact br_c (fun _ => key 1 (by omega)) (fun _ => key 0 (by omega))
/-- refusals: none for a wrong place -/
theorem n1_0 {v : Int32} {N : mN} : ¬ (((0 : Int32), v, N) : mT).1 = 1 := by show ¬ ((0 : Int32) = 1); decide
theorem n1_2 {v : Int32} {N : mN} : ¬ (((2 : Int32), v, N) : mT).1 = 1 := by show ¬ ((2 : Int32) = 1); decide
theorem n1_yawn {t : Nat} (ht : t < nn N 23) (hb : nn N 23 < 1000) : ¬ (fYawn N (nI t)).1 = 1 := by
  unfold fYawn
  rw [if_neg (fun w => w (m_in ht (by omega)))]
  split <;> first | exact n1_0 | exact n1_2
theorem n1_leave {s : Nat} (hs : s < nn N 28) (hb : nn N 28 < 1000) : ¬ (fLeave N (nI s)).1 = 1 := by
  unfold fLeave
  rw [if_neg (fun w => w (m_in hs (by omega)))]
  split <;> first | exact n1_0 | exact n1_2
theorem n1_give {p s : Nat} (hp : p < nn N 29) (hs : s < nn N 28) (hb : nn N 28 < 1000 ∧ nn N 29 < 1000) : ¬ (fGive N (nI p) (nI s)).1 = 1 := by
  unfold fGive
  rw [if_neg (fun w => w ⟨m_in hp (by omega), m_in hs (by omega)⟩)]
  split
  · first | exact n1_0 | exact n1_2
  · split <;> first | exact n1_0 | exact n1_2
theorem n1_appeal {p : Nat} (hp : p < nn N 29) (hb : nn N 29 < 1000) : ¬ (fAppeal N (nI p)).1 = 1 := by
  unfold fAppeal
  rw [if_neg (fun w => w (m_in hp (by omega)))]
  split
  · first | exact n1_0 | exact n1_2
  · split <;> first | exact n1_0 | exact n1_2
theorem n1_relieve {t : Nat} (ht : t < nn N 23) (hb : nn N 23 < 1000) : ¬ (fRelieve N (nI t)).1 = 1 := by
  unfold fRelieve
  rw [if_neg (fun w => w (m_in ht (by omega)))]
  first | exact n1_0 | exact n1_2
theorem n0_revoke {t v : Nat} (ht : t < nn N 23) (hb : nn N 23 < 1000) (hv : v ≤ 96) : (fRevoke N (nI t) (nI v)).1 = 0 := by
  unfold fRevoke
  rw [if_neg (fun w => w (m_in ht (by omega))), if_neg (fun w => w ⟨nI_pos (by omega), nI_le (a := v) (b := 96) hv (by omega)⟩)]
theorem n0_odds {t v : Nat} (ht : t < nn N 23) (hb : nn N 23 < 1000) (hv : v ≤ 10) : (fOdds N (nI t) (nI v)).1 = 0 := by
  unfold fOdds
  rw [if_neg (fun w => w (m_in ht (by omega))), if_neg (fun w => w ⟨nI_pos (by omega), nI_le (a := v) (b := 10) hv (by omega)⟩)]
theorem n1_pass {h : Nat} (h1 : 1 ≤ h) (h7 : h ≤ 48) : ¬ (fPass N (nI h)).1 = 1 := by
  unfold fPass
  rw [if_neg (fun w => w ⟨nI_nlt (a := h) (b := 1) (by omega) (by omega), nI_le (a := h) (b := 48) (by omega) (by omega)⟩)]
  split <;> first | exact n1_0 | exact n1_2
/-- something of any sort: 0 where it was refused -/
theorem L_isDone (P : nLP g a0 k N Y S M) (hk : k ≤ 900) (hg : 0 < nn N 23) (hsl : 0 < nn N 28) (hpt : nn N 29 = 10) {l1 : Int32} {κ : Int32 → mM → Prop} (h : ∀ b N' Y' S' M', nLP g a0 (k + 2) N' Y' S' M' → mFc Y S Y' S' → nSt N N' → (b = 0 ∨ b = 1) → (b = 0 → N' = N) → κ b M') : wL_isDone g κ (some a0) l1 M := by
  have hb := P.2.2.1.2.1
  obtain ⟨nt, hr, t1, -, t3, -⟩ := P.2.2.1.1
  refine K_night P (b := 2) (by omega) (fun Y1 S1 M1 P1 F1 => ?_)
  rw [zN_2]
  refine L_below hg (by omega) (fun t ht => ?_)
  refine K_night P1 (b := 3) (by omega) (fun Y2 S2 M2 P2 F2 => ?_)
  rw [zN_3]
  refine L_below hsl (by omega) (fun s hs => ?_)
  refine K_night P2 (b := 5) (by omega) (fun Y3 S3 M3 P3 F3 => ?_)
  rw [zN_5, hpt]
  refine L_belowI (n := 10) (by decide +kernel) (by omega) (by omega) (fun p hp => L_belowI (n := 13) rfl (by omega) (by omega) (fun q hq => ?_))
  have F : mFc Y S Y3 S3 := (F1.tr F2).tr F3
  have ok : ∀ N' Y' S' M', nLP g a0 k N' Y' S' M' → mFc Y3 S3 Y' S' → nSt N N' → κ 1 M' := fun N' Y' S' M' P' F' St => h 1 N' Y' S' M' (P'.mono (by omega)) (F.tr F') St (Or.inr rfl) (fun w => absurd w (by decide))
  have no : κ 0 M3 := h 0 N Y3 S3 M3 (P3.mono (by omega)) F (nSt.rf N) (Or.inl rfl) (fun _ => rfl)
  have yw : m_rc M3 (some a0) 13 fun b21 => wX8_yawn g (fun x19 M20 => κ 1 M20) (fun E9 M9 => (E9 = "java/lang/IllegalStateException" ∧ κ 0 M9)) (some b21) (nI t) M3 := K_yawn P3 hk (fun z => absurd z (n1_yawn ht (by omega))) (fun _ => ⟨rfl, no⟩) (fun v N' Y' S' M' e P' F' St => h 1 N' Y' S' M' P' (F.tr F') St (Or.inr rfl) (fun w => absurd w (by decide)))
  refine br_c (fun _ => yw) (fun _ => br_c (fun _ => yw) (fun _ => br_c (fun _ => yw) (fun _ => br_c (fun _ => yw) (fun _ => ?_))))
  refine br_c (fun _ => K_leave P3 (fun z => absurd z (n1_leave hs (by omega))) (fun _ => ⟨rfl, no⟩) (fun v N' Y' S' M' e P' F' St => ok N' Y' S' M' P' F' St)) (fun _ => ?_)
  refine br_c (fun _ => K_give P3 (fun z => absurd z (n1_give (by omega) hs (by omega))) (fun _ => ⟨rfl, no⟩) (fun v N' Y' S' M' e P' F' St => ok N' Y' S' M' P' F' St)) (fun _ => ?_)
  refine br_c (fun _ => K_appeal P3 (fun z => absurd z (n1_appeal (by omega) (by omega))) (fun _ => ⟨rfl, no⟩) (fun v N' Y' S' M' e P' F' St => ok N' Y' S' M' P' F' St)) (fun _ => ?_)
  refine br_c (fun _ => K_relieve P3 (fun z => absurd z (n1_relieve ht (by omega))) (fun v N' Y' S' M' e P' F' St => ok N' Y' S' M' P' F' St)) (fun _ => ?_)
  refine br_c (fun _ => K_night P3 (b := 0) (by omega) (fun Y4 S4 M4 P4 F4 => ?_)) (fun _ => ?_)
  · rw [zN_0, t3]
    refine L_belowI (n := 97) rfl (by omega) (by omega) (fun v hv => P_sing P4 hs ht t3 (Nat.le_refl nt) t1 (by omega) (fun r N5 Y5 S5 M5 hr P5 F5 St5 _ => ?_))
    have e0 := n0_revoke (N := N5) (t := t) (v := r) (by rw [St5.1]; exact ht) (by rw [St5.1]; omega) (by omega)
    exact K_revoke P5 (fun z => absurd (e0.symm.trans z) (by decide)) (fun z => absurd (e0.symm.trans z) (by decide)) (fun v N' Y' S' M' e P' F' St => ok N' Y' S' M' P' ((F4.tr F5).tr F') (St5.tr St))
  refine br_c (fun _ => L_belowI (n := 11) rfl (by omega) (by omega) (fun v hv => ?_)) (fun _ => ?_)
  · have e0 := n0_odds (N := N) (t := t) (v := v) ht (by omega) (by omega)
    exact K_odds P3 (fun z => absurd (e0.symm.trans z) (by decide)) (fun z => absurd (e0.symm.trans z) (by decide)) (fun v N' Y' S' M' e P' F' St => ok N' Y' S' M' P' F' St)
  refine br_c (fun _ => L_belowI (n := 7) rfl (by omega) (by omega) (fun v hv => ?_)) (fun _ => L_come P3 hg hsl ok)
  have e1 : (1 : Int32) + nI v = nI (1 + v) := nI_add 1 v
  rw [e1]
  exact K_pass P3 (fun z => absurd z (n1_pass (by omega) (by omega))) (fun _ => ⟨rfl, no⟩) (fun v N' Y' S' M' e P' F' St => ok N' Y' S' M' P' F' St)
end LDONE
