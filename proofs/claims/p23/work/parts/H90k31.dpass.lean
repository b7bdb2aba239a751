/-! THE SIMULATION, 22: hours of the reference -/
theorem nWa_W {N : mN} {r : Nat → Nat → Bool} : ∀ j, nWa j (nW N r) = nW (nWa j N) r := by
  intro j
  induction j with
  | zero => rfl
  | succ j ih =>
    show nU (nWa j (nW N r)) 23 j 5 (if nv (nWa j (nW N r)) 23 j 3 ≤ m_rem ((nv (nWa j (nW N r)) 20 0 2 - nv (nWa j (nW N r)) 23 j 2) + 24) 24 then 0 else nv (nWa j (nW N r)) 23 j 5 + 1) = _
    rw [ih]
    rfl
theorem RV.nr' {N : mN} {Y : mY} {S : mS} {r r' : Nat → Nat → Bool} (h : RV (nW N r) Y S) (e : ∀ t v, t < yn Y 23 → v < 97 → r' t v = r t v) : RV (nW N r') Y S := by
  obtain ⟨h1, h2, h3, h4, h5⟩ := h
  refine ⟨h1, h2, h3, fun t v ht hv => ?_, h5⟩
  show sE S 26 t v = if r' t v = true then 1 else 0
  rw [e t v ht hv]
  exact h4 t v ht hv
/-- verses that come to gates, of the reference -/
def vMo (Y : mY) (S : mS) (B : Nat → Nat → Bool) : Prop := ∀ t v, t < yn Y 23 → v < 97 → sE S 27 0 (t * 97 + v) = if B t v = true then 1 else 0
section SIM22
variable {g : Nat → Nat} {Y : mY} {S : mS} {M : mM} {Y0 : mY} {S0 : mS} {c0 : Int32}
theorem vZ0.e27 {N : mN} (P : vZ0 g c0 N Y0 S0 Y S M) {j : Nat} {v : Int32} {M' : mM} (H' : mR g Y (uE S 27 0 j v) M') : vZ0 g c0 N Y0 S0 Y (uE S 27 0 j v) M' := by
  obtain ⟨⟨⟨H, V, VV, VQ, VT⟩, F, R⟩, e⟩ := P
  exact ⟨⟨⟨H', vS_uE V, VV.of (fun _ _ _ _ => rfl), VQ.of (fun _ => rfl) (fun _ => rfl) (fun _ => rfl), VT⟩, F.tr (mFm.uE (by omega)), R.cg (fun _ _ _ _ => rfl) (fun _ => rfl) rfl (fun t u => show (if 26 = 27 ∧ t = 0 ∧ u = j then v else sE S 26 t u) = _ from if_neg (by omega))⟩, e⟩
theorem vZ0.rev {N : mN} (P : vZ0 g c0 N Y0 S0 Y S M) {t v : Nat} {M' : mM} (H' : mR g Y (uE S 26 t v 1) M') : vZ0 g c0 (nRev N t v) Y0 S0 Y (uE S 26 t v 1) M' := ⟨n_rev P.1 H', P.2⟩
/-- revoked as far as gate i, verse j -/
def rIJ (N : mN) (B : Nat → Nat → Bool) (i j t v : Nat) : Bool := nr N t v || (if t < i ∨ (t = i ∧ v < j) then B t v else false)
theorem D_b301 {N : mN} {B : Nat → Nat → Bool} {i : Nat} (hi : i < yn Y 23) {κ : mM → Prop} {R276 : Option Nat → Int32 → mM → Prop} (hR : ∀ S M, vZ0 g c0 (nW (nWa (i + 1) N) (rIJ N B (i + 1) 0)) Y0 S0 Y S M → vMo Y S B → R276 (some (yA Y 20 0)) (nI i + 1) M) : ∀ (d j : Nat) (S : mS) (M : mM), vZ0 g c0 (nW (nWa i N) (rIJ N B i j)) Y0 S0 Y S M → vMo Y S B → j + d = 97 → wX14_begin_301 κ R276 (d + 1) (some (yA Y 20 0)) (nI i) (some (yA Y 23 i)) (nI j) M := by
  intro d
  induction d with
  | zero =>
    intro j S M P hB hj
    have H := P.1.1.1
    have V := P.1.1.2.1
    have RR := P.1.2.2.2.1
    have vw : ∀ k i' f, nv (nW (nWa i N) (rIJ N B i j)) k i' f = nv (nWa i N) k i' f := fun _ _ _ => rfl
    have i356 : ∀ v, v = (if nv (nWa i N) 23 i 3 ≤ m_rem ((nv (nWa i N) 20 0 2 - nv (nWa i N) 23 i 2) + 24) 24 then 0 else nv (nWa i N) 23 i 5 + 1) → wX14_begin_356 κ R276 (some (yA Y 20 0)) (nI i) v (some (yA Y 23 i)) M := fun v ev => s_pI H hi rfl rfl rfl (fun M1 H1 => hR (uI S 23 i 5 v) M1 (by
      have P1 := P.I H1 trivial (by omega)
      refine ⟨⟨P1.1.1, P1.1.2.1, ?_⟩, P1.2⟩
      have e : nWa (i + 1) N = nU (nWa i N) 23 i 5 v := by rw [ev]; rfl
      rw [e]
      have R1 : RV (nW (nU (nWa i N) 23 i 5 v) (rIJ N B i j)) Y (uI S 23 i 5 v) := P1.1.2.2
      refine R1.nr' (fun t v' ht hv' => ?_)
      unfold rIJ
      by_cases q : t < i + 1 ∨ (t = i + 1 ∧ v' < 0)
      · rw [if_pos q, if_pos (show t < i ∨ (t = i ∧ v' < j) by omega)]
      · rw [if_neg q, if_neg (show ¬ (t < i ∨ (t = i ∧ v' < j)) by omega)]) hB)
    rw [wX14_begin_301]
    refine br_t (show (97 : Int32) ≤ nI j from nI_le (a := 97) (by omega) (by omega)) (s_gI H V.x0 rfl rfl rfl (s_rc H hi rfl rfl (s_gI H hi rfl rfl rfl (s_gI H hi rfl rfl rfl ?_))))
    rw [RR 20 0 2 rfl V.x0, RR 23 i 2 rfl hi, RR 23 i 3 rfl hi, vw, vw, vw, show nv (nWa i N) 20 0 2 + 24 - nv (nWa i N) 23 i 2 = nv (nWa i N) 20 0 2 - nv (nWa i N) 23 i 2 + 24 from by rw [Int32.sub_eq_add_neg, Int32.sub_eq_add_neg, Int32.add_assoc, Int32.add_assoc, Int32.add_comm 24]]
    refine br_c (fun zo => br_t rfl (i356 0 (if_pos zo).symm)) (fun zo => br_f (by decide) (s_gI H hi rfl rfl rfl ?_))
    rw [RR 23 i 5 rfl hi, vw]
    exact i356 _ (if_neg zo).symm
  | succ d ih =>
    intro j S M P hB hj
    have H := P.1.1.1
    have V := P.1.1.2.1
    have hb := V.2.1
    have hC : sC S 27 0 = 776 := V.2.2.2.2.2.2.2
    have hC26 : sC S 26 i = 97 := V.2.2.2.2.2.2.1 i hi
    have i328 : ∀ S M, vZ0 g c0 (nW (nWa i N) (rIJ N B i (j + 1))) Y0 S0 Y S M → vMo Y S B → wX14_begin_328 κ R276 (wX14_begin_301 κ R276 (d + 1)) (some (yA Y 20 0)) (nI i) (some (yA Y 23 i)) (nI j) M := fun S M P z => by
      show wX14_begin_301 κ R276 (d + 1) (some (yA Y 20 0)) (nI i) (some (yA Y 23 i)) (nI j + 1) M
      rw [nI_1]
      exact ih (j + 1) S M P z (by omega)
    rw [wX14_begin_301]
    refine br_f (show ¬ (97 : Int32) ≤ nI j from nI_ge (b := 97) (by omega) (by omega)) (s_gR6 H V.x0 rfl rfl rfl ?_)
    rw [show (97 : Int32) = nI 97 from rfl, pk_mul, nI_add]
    refine s_ldI H V.l27 rfl (by decide) rfl (by rw [hC]; omega) (by rw [hC]; omega) ?_
    rw [hB i j hi (by omega)]
    cases q : B i j with
    | false =>
      refine br_t rfl (i328 S M ?_ hB)
      have e : rIJ N B i (j + 1) = rIJ N B i j := by
        funext t v
        unfold rIJ
        by_cases z : t = i ∧ v = j
        · rw [z.1, z.2, if_pos (show i < i ∨ (i = i ∧ j < j + 1) by omega), if_neg (show ¬ (i < i ∨ (i = i ∧ j < j)) by omega), q]
        · by_cases w : t < i ∨ (t = i ∧ v < j)
          · rw [if_pos w, if_pos (show t < i ∨ (t = i ∧ v < j + 1) by omega)]
          · rw [if_neg w, if_neg (show ¬ (t < i ∨ (t = i ∧ v < j + 1)) by omega)]
      rw [e]
      exact P
    | true =>
      refine br_f (by decide) (s_gR7 H hi rfl rfl rfl (s_stZ H (V.l26 hi) rfl rfl (by rw [hC26]; omega) (by rw [hC26]; omega) (w := 1) (by decide) (fun M1 H1 => i328 (uE S 26 i j 1) M1 ?_ (fun t v ht hv => (show (if 27 = 26 ∧ 0 = i ∧ t * 97 + v = j then (1 : Int32) else sE S 27 0 (t * 97 + v)) = _ from if_neg (by omega)).trans (hB t v ht hv)))))
      have P1 := P.rev H1
      have e : rIJ N B i (j + 1) = fun t v => if t = i ∧ v = j then true else rIJ N B i j t v := by
        funext t v
        unfold rIJ
        by_cases z : t = i ∧ v = j
        · rw [if_pos z, z.1, z.2, if_pos (show i < i ∨ (i = i ∧ j < j + 1) by omega), q, Bool.or_true]
        · rw [if_neg z]
          by_cases w : t < i ∨ (t = i ∧ v < j)
          · rw [if_pos w, if_pos (show t < i ∨ (t = i ∧ v < j + 1) by omega)]
          · rw [if_neg w, if_neg (show ¬ (t < i ∨ (t = i ∧ v < j + 1)) by omega)]
      rw [e]
      exact P1
theorem D_b276 {N : mN} {B : Nat → Nat → Bool} {κ : mM → Prop} (h : ∀ S M, vZ0 g c0 (nW (nWa (yn Y 23) N) (rIJ N B (yn Y 23) 0)) Y0 S0 Y S M → κ M) : ∀ (d j : Nat) (S : mS) (M : mM), vZ0 g c0 (nW (nWa j N) (rIJ N B j 0)) Y0 S0 Y S M → vMo Y S B → j + d = yn Y 23 → wX14_begin_276 κ (d + 1) (some (yA Y 20 0)) (nI j) M := by
  intro d
  induction d with
  | zero =>
    intro j S M P z hj
    have ej : j = yn Y 23 := by omega
    rw [ej] at P
    rw [wX14_begin_276]
    exact v_hdG P.1.1.1 P.1.1.2.1 (by omega) (fun _ => h S M P) (fun hlt => absurd hlt (by omega))
  | succ d ih =>
    intro j S M P z hj
    rw [wX14_begin_276]
    exact v_hdG P.1.1.1 P.1.1.2.1 (by omega) (fun z => absurd z (by omega)) (fun hlt => ⟨98, D_b301 hlt (fun S M P z => by rw [nI_1]; exact ih (j + 1) S M P z (by omega)) 97 0 S M P z (by omega)⟩)
theorem D_b225 {N : mN} {B : Nat → Nat → Bool} {i t : Nat} (hi : i < yn Y 23) (ht : t < yn Y 23) {κ : mM → Prop} {R146 : Option Nat → Int32 → mM → Prop} {R159 : Option Nat → Int32 → Int32 → mM → Prop} (hR : ∀ S M, vZ0 g c0 N Y0 S0 Y S M → vMo Y S (fun t' v => if t' = i then (B t' v || nr N t v) else B t' v) → R159 (some (yA Y 20 0)) (nI i) (nI t + 1) M) : ∀ (d j : Nat) (S : mS) (M : mM), vZ0 g c0 N Y0 S0 Y S M → vMo Y S (fun t' v => if t' = i ∧ v < j then (B t' v || nr N t v) else B t' v) → j + d = 97 → wX14_begin_225 κ R146 R159 (d + 1) (some (yA Y 20 0)) (nI i) (nI t) (some (yA Y 23 t)) (nI j) M := by
  intro d
  induction d with
  | zero =>
    intro j S M P hB hj
    rw [wX14_begin_225]
    refine br_t (show (97 : Int32) ≤ nI j from nI_le (a := 97) (by omega) (by omega)) (hR S M P (fun t' v h1 h2 => ?_))
    rw [hB t' v h1 h2]
    have e : (if t' = i ∧ v < j then (B t' v || nr N t v) else B t' v) = (if t' = i then (B t' v || nr N t v) else B t' v) := by
      by_cases z : t' = i
      · rw [if_pos z, if_pos ⟨z, by omega⟩]
      · rw [if_neg z, if_neg (fun w => z w.1)]
    show (if (if t' = i ∧ v < j then (B t' v || nr N t v) else B t' v) = true then (1 : Int32) else 0) = if (if t' = i then (B t' v || nr N t v) else B t' v) = true then 1 else 0
    rw [e]
  | succ d ih =>
    intro j S M P hB hj
    have H := P.1.1.1
    have V := P.1.1.2.1
    have hb := V.2.1
    have hC : sC S 27 0 = 776 := V.2.2.2.2.2.2.2
    have hC26 : sC S 26 t = 97 := V.2.2.2.2.2.2.1 t ht
    have hE : sE S 26 t j = if nr N t j = true then 1 else 0 := P.1.2.2.2.2.2.1 t j ht (by omega)
    have i256 : ∀ S M, vZ0 g c0 N Y0 S0 Y S M → vMo Y S (fun t' v => if t' = i ∧ v < j + 1 then (B t' v || nr N t v) else B t' v) → wX14_begin_256 κ R146 R159 (wX14_begin_225 κ R146 R159 (d + 1)) (some (yA Y 20 0)) (nI i) (nI t) (some (yA Y 23 t)) (nI j) M := fun S M P z => by
      show wX14_begin_225 κ R146 R159 (d + 1) (some (yA Y 20 0)) (nI i) (nI t) (some (yA Y 23 t)) (nI j + 1) M
      rw [nI_1]
      exact ih (j + 1) S M P z (by omega)
    rw [wX14_begin_225]
    refine br_f (show ¬ (97 : Int32) ≤ nI j from nI_ge (b := 97) (by omega) (by omega)) (s_gR7 H ht rfl rfl rfl (s_ldI H (V.l26 ht) rfl (by decide) rfl (by rw [hC26]; omega) (by rw [hC26]; omega) ?_))
    rw [hE]
    cases q : nr N t j with
    | false =>
      refine br_t rfl (i256 S M P (fun t' v h1 h2 => ?_))
      rw [hB t' v h1 h2]
      have e : (if t' = i ∧ v < j then (B t' v || nr N t v) else B t' v) = (if t' = i ∧ v < j + 1 then (B t' v || nr N t v) else B t' v) := by
        by_cases z : t' = i ∧ v = j
        · rw [z.1, z.2, if_neg (show ¬ (i = i ∧ j < j) by omega), if_pos (show i = i ∧ j < j + 1 by omega), q, Bool.or_false]
        · by_cases w : t' = i ∧ v < j
          · rw [if_pos w, if_pos (show t' = i ∧ v < j + 1 by omega)]
          · rw [if_neg w, if_neg (show ¬ (t' = i ∧ v < j + 1) by omega)]
      show (if (if t' = i ∧ v < j then (B t' v || nr N t v) else B t' v) = true then (1 : Int32) else 0) = if (if t' = i ∧ v < j + 1 then (B t' v || nr N t v) else B t' v) = true then 1 else 0
      rw [e]
    | true =>
      refine br_f (by decide) (s_gR6 H V.x0 rfl rfl rfl ?_)
      rw [show (97 : Int32) = nI 97 from rfl, pk_mul, nI_add]
      refine s_stZ H V.l27 rfl rfl (by rw [hC]; omega) (by rw [hC]; omega) (w := 1) (by decide) (fun M1 H1 => i256 (uE S 27 0 (i * 97 + j) 1) M1 (P.e27 H1) (fun t' v h1 h2 => ?_))
      show (if 27 = 27 ∧ 0 = 0 ∧ t' * 97 + v = i * 97 + j then (1 : Int32) else sE S 27 0 (t' * 97 + v)) = if (if t' = i ∧ v < j + 1 then (B t' v || nr N t v) else B t' v) = true then 1 else 0
      by_cases z : t' = i ∧ v = j
      · rw [if_pos ⟨rfl, rfl, by rw [z.1, z.2]⟩, z.1, z.2, if_pos (show i = i ∧ j < j + 1 by omega), q, Bool.or_true, if_pos rfl]
      · rw [if_neg (show ¬ (27 = 27 ∧ 0 = 0 ∧ t' * 97 + v = i * 97 + j) by omega), hB t' v h1 h2]
        have e : (if t' = i ∧ v < j then (B t' v || nr N t v) else B t' v) = (if t' = i ∧ v < j + 1 then (B t' v || nr N t v) else B t' v) := by
          by_cases w : t' = i ∧ v < j
          · rw [if_pos w, if_pos (show t' = i ∧ v < j + 1 by omega)]
          · rw [if_neg w, if_neg (show ¬ (t' = i ∧ v < j + 1) by omega)]
        show (if (if t' = i ∧ v < j then (B t' v || nr N t v) else B t' v) = true then (1 : Int32) else 0) = _
        rw [e]
/-- as far as gate i, other gate j -/
def bIJ (N : mN) (n i j t v : Nat) : Bool := if t < i then nMo N t v n else if t = i then nMo N t v j else false
theorem D_b159 {N : mN} {i : Nat} (hi : i < yn Y 23) {κ : mM → Prop} {R146 : Option Nat → Int32 → mM → Prop} (hR : ∀ S M, vZ0 g c0 N Y0 S0 Y S M → vMo Y S (bIJ N (yn Y 23) (i + 1) 0) → R146 (some (yA Y 20 0)) (nI i + 1) M) : ∀ (d j : Nat) (S : mS) (M : mM), vZ0 g c0 N Y0 S0 Y S M → vMo Y S (bIJ N (yn Y 23) i j) → j + d = yn Y 23 → wX14_begin_159 κ R146 (d + 1) (some (yA Y 20 0)) (nI i) (nI j) M := by
  intro d
  induction d with
  | zero =>
    intro j S M P hB hj
    have H := P.1.1.1
    have V := P.1.1.2.1
    have hb := V.2.1
    have ej : j = yn Y 23 := by omega
    rw [wX14_begin_159]
    refine s_gR6 H V.x0 rfl rfl rfl (s_rcL H rfl (V.l24 (by omega)) (v_szG H V (br_t (nI_le (by omega) (by omega)) (hR S M P (fun t v ht hv => ?_)))))
    rw [hB t v ht hv]
    have e : bIJ N (yn Y 23) (i + 1) 0 t v = bIJ N (yn Y 23) i j t v := by
      unfold bIJ
      rw [ej]
      by_cases z : t < i
      · rw [if_pos z, if_pos (show t < i + 1 by omega)]
      · rw [if_neg z]
        by_cases w : t = i
        · rw [if_pos w, if_pos (show t < i + 1 by omega)]
        · rw [if_neg w, if_neg (show ¬ t < i + 1 by omega)]
          by_cases q : t = i + 1
          · rw [if_pos q]; rfl
          · rw [if_neg q]
    rw [e]
  | succ d ih =>
    intro j S M P hB hj
    have H := P.1.1.1
    have V := P.1.1.2.1
    have R := P.1.2.2
    have hb := V.2.1
    have hlt : j < yn Y 23 := by omega
    have i262 : ∀ S M, vZ0 g c0 N Y0 S0 Y S M → vMo Y S (bIJ N (yn Y 23) i (j + 1)) → wX14_begin_262 κ R146 (wX14_begin_159 κ R146 (d + 1)) (some (yA Y 20 0)) (nI i) (nI j) M := fun S M P z => by
      show wX14_begin_159 κ R146 (d + 1) (some (yA Y 20 0)) (nI i) (nI j + 1) M
      rw [nI_1]
      exact ih (j + 1) S M P z (by omega)
    have estep : ∀ t v, bIJ N (yn Y 23) i (j + 1) t v = if t = i then (bIJ N (yn Y 23) i j t v || (nNear N i j && nr N j v)) else bIJ N (yn Y 23) i j t v := fun t v => by
      unfold bIJ
      by_cases z : t = i
      · rw [if_pos z, z, if_neg (Nat.lt_irrefl i), if_neg (Nat.lt_irrefl i), if_pos rfl, if_pos rfl]
        rfl
      · rw [if_neg z, if_neg z, if_neg z]
    have i222 : nNear N i j = true → wX14_begin_222 κ R146 (wX14_begin_159 κ R146 (d + 1)) (some (yA Y 20 0)) (nI i) (nI j) (some (yA Y 23 j)) M := fun w => ⟨98, D_b225 (B := bIJ N (yn Y 23) i j) hi hlt (fun S M P hB' => i262 S M P (fun t v ht hv => (hB' t v ht hv).trans (congrArg (fun b : Bool => if b = true then (1 : Int32) else 0) (show (if t = i then (bIJ N (yn Y 23) i j t v || nr N j v) else bIJ N (yn Y 23) i j t v) = bIJ N (yn Y 23) i (j + 1) t v from by
      rw [estep]
      by_cases z : t = i
      · rw [if_pos z, if_pos z, w, Bool.true_and]
      · rw [if_neg z, if_neg z])))) 97 0 S M P (fun t v ht hv => (hB t v ht hv).trans (congrArg (fun b : Bool => if b = true then (1 : Int32) else 0) (show bIJ N (yn Y 23) i j t v = (if t = i ∧ v < 0 then (bIJ N (yn Y 23) i j t v || nr N j v) else bIJ N (yn Y 23) i j t v) from (if_neg (show ¬ (t = i ∧ v < 0) by omega)).symm))) (by omega)⟩
    rw [wX14_begin_159]
    refine s_gR6 H V.x0 rfl rfl rfl (s_rcL H rfl (V.l24 (by omega)) (v_szG H V (br_f (nI_ge hlt (by omega)) (v_G H V hi (v_G H V hlt (s_gI H hlt rfl rfl rfl (s_rc H hi rfl rfl ?_)))))))
    rw [R.2.1 23 j 0 rfl hlt]
    refine D_has R H hi (fun q => br_f (by decide) (i222 (decide_eq_true (Or.inl q)))) (fun q1 => br_t rfl (s_gI H hlt rfl rfl rfl ?_))
    rw [R.2.1 23 j 1 rfl hlt]
    refine s_rc H hi rfl rfl (D_has R H hi (fun q => br_f (by decide) (i222 (decide_eq_true (Or.inr q)))) (fun q2 => br_t rfl (i262 S M P (fun t v ht hv => ?_))))
    have hn : nNear N i j = false := decide_eq_false (fun w => w.elim q1 q2)
    rw [hB t v ht hv, estep, hn, Bool.false_and, Bool.or_false]
    by_cases z : t = i
    · rw [if_pos z]
    · rw [if_neg z]
theorem D_b146 {N : mN} {κ : mM → Prop} (h : ∀ S M, vZ0 g c0 (nWa (nn N 23) (nSp N)) Y0 S0 Y S M → κ M) : ∀ (d j : Nat) (S : mS) (M : mM), vZ0 g c0 N Y0 S0 Y S M → vMo Y S (bIJ N (yn Y 23) j 0) → j + d = yn Y 23 → wX14_begin_146 κ (d + 1) (some (yA Y 20 0)) (nI j) M := by
  intro d
  induction d with
  | zero =>
    intro j S M P hB hj
    have H := P.1.1.1
    have V := P.1.1.2.1
    have hb := V.2.1
    have en : nn N 23 = yn Y 23 := P.1.2.2.1.1.symm
    have ej : j = yn Y 23 := by omega
    rw [en] at h
    rw [wX14_begin_146]
    refine s_gR6 H V.x0 rfl rfl rfl (s_rcL H rfl (V.l24 (by omega)) (v_szG H V (br_t (nI_le (by omega) (by omega)) ⟨yn Y 23 + 1, D_b276 (g := g) (Y0 := Y0) (S0 := S0) (c0 := c0) (N := N) (B := bIJ N (yn Y 23) (yn Y 23) 0) (fun S1 M1 P1 => h S1 M1 ?_) (yn Y 23) 0 S M ?_ (by rw [← ej] at hB ⊢; exact hB) (by omega)⟩)))
    · obtain ⟨⟨I1, F1, R1⟩, e1⟩ := P1
      refine ⟨⟨I1, F1, ?_⟩, e1⟩
      unfold nSp
      rw [nWa_W]
      refine R1.nr' (fun t v ht hv => ?_)
      unfold rIJ bIJ
      rw [if_pos (Or.inl ht), if_pos ht, en]
    · have e : nW (nWa 0 N) (rIJ N (bIJ N (yn Y 23) (yn Y 23) 0) 0 0) = N := by
        refine Prod.ext rfl (Prod.ext rfl (Prod.ext rfl (Prod.ext ?_ rfl)))
        funext t v
        show (nr N t v || (if t < 0 ∨ (t = 0 ∧ v < 0) then _ else false)) = nr N t v
        rw [if_neg (by omega), Bool.or_false]
      rw [e]
      exact P
  | succ d ih =>
    intro j S M P hB hj
    have H := P.1.1.1
    have V := P.1.1.2.1
    have hb := V.2.1
    rw [wX14_begin_146]
    exact s_gR6 H V.x0 rfl rfl rfl (s_rcL H rfl (V.l24 (by omega)) (v_szG H V (br_f (nI_ge (by omega) (by omega)) ⟨yn Y 23 + 1, D_b159 (by omega) (fun S M P hB => by rw [nI_1]; exact ih (j + 1) S M P hB (by omega)) (yn Y 23) 0 S M P hB (by omega)⟩)))
theorem D_b122 {N : mN} {κ : mM → Prop} (h : ∀ S M, vZ0 g c0 (nWa (nn N 23) (nSp N)) Y0 S0 Y S M → κ M) : ∀ (d j : Nat) (S : mS) (M : mM), vZ0 g c0 N Y0 S0 Y S M → (∀ k, k < j → sE S 27 0 k = 0) → j + d = 776 → wX14_begin_122 κ (d + 1) (some (yA Y 20 0)) (nI j) M := by
  intro d
  induction d with
  | zero =>
    intro j S M P z hj
    have H := P.1.1.1
    have V := P.1.1.2.1
    have hb := V.2.1
    have hC : sC S 27 0 = 776 := V.2.2.2.2.2.2.2
    rw [wX14_begin_122]
    refine s_gR6 H V.x0 rfl rfl rfl (s_lenI H V.l27 (by decide) rfl ?_)
    rw [hC]
    refine br_t (nI_le (by omega) (by omega)) ⟨yn Y 23 + 1, D_b146 h (yn Y 23) 0 S M P (fun t v ht hv => ?_) (by omega)⟩
    rw [z _ (by omega)]
    have e : bIJ N (yn Y 23) 0 0 t v = false := by
      unfold bIJ
      rw [if_neg (Nat.not_lt_zero t)]
      by_cases q : t = 0
      · rw [if_pos q]; rfl
      · rw [if_neg q]
    rw [e]
    rfl
  | succ d ih =>
    intro j S M P z hj
    have H := P.1.1.1
    have V := P.1.1.2.1
    have hC : sC S 27 0 = 776 := V.2.2.2.2.2.2.2
    rw [wX14_begin_122]
    refine s_gR6 H V.x0 rfl rfl rfl (s_lenI H V.l27 (by decide) rfl ?_)
    rw [hC]
    refine br_f (nI_ge (by omega) (by omega)) (s_gR6 H V.x0 rfl rfl rfl (s_stZ H V.l27 rfl rfl (by rw [hC]; omega) (by rw [hC]; omega) (w := 0) (by decide) (fun M1 H1 => ?_)))
    rw [nI_1]
    refine ih (j + 1) _ M1 (P.e27 H1) (fun k hk => ?_) (by omega)
    show (if 27 = 27 ∧ 0 = 0 ∧ k = j then (0 : Int32) else sE S 27 0 k) = 0
    by_cases q : k = j
    · rw [if_pos ⟨rfl, rfl, q⟩]
    · rw [if_neg (fun w => q w.2.2)]
      exact z k (by omega)
theorem D_b120 {N : mN} {κ : mM → Prop} (h : ∀ S M, vZ0 g c0 (nWa (nn N 23) (nSp N)) Y0 S0 Y S M → κ M) (P : vZ0 g c0 N Y0 S0 Y S M) : wX14_begin_120 κ (some (yA Y 20 0)) M := ⟨777, D_b122 h 776 0 S M P (fun k hk => absurd hk (by omega)) (by omega)⟩
theorem RV.nx {N : mN} (R : RV N Y S) {i f : Nat} {v : Int32} : RV N Y (uI S 32 i f v) := R.cg (fun k i f q => sI_uI (by have := rK_d q; omega)) (fun _ => rfl) rfl (fun _ _ => rfl)
theorem vZ0.nx {N : mN} (P : vZ0 g c0 N Y0 S0 Y S M) {i c : Nat} {M' : mM} (H' : mR g Y (uI (uI S 32 i 0 (nI (c + 1))) 32 i 1 (nI c)) M') : vZ0 g c0 N Y0 S0 Y (uI (uI S 32 i 0 (nI (c + 1))) 32 i 1 (nI c)) M' := by
  obtain ⟨⟨⟨H, V, VV, VQ, VT⟩, F, R⟩, e⟩ := P
  exact ⟨⟨⟨H', vS_uI (vS_uI V (by omega)) (by omega), vV_uI (k := 32) (vV_uI (k := 32) VV trivial (by omega)) trivial (by omega), vQ_uI (vQ_uI VQ (by omega)) (by omega), vT_uI (vT_uI VT (by omega)) (by omega)⟩, (F.tr (mFm.uI (by omega))).tr (mFm.uI (by omega)), R.nx.nx⟩, ((sI_uI (by omega)).trans (sI_uI (by omega))).trans e⟩
/-- something of the reference's tools has come -/
theorem RV.X1 {N : mN} (R : RV N Y S) (V : mVs Y S) {kn : Nat} (hk : kn = 32 ∨ kn = 38) {Y1 : mY} {S1 : mS} (a : mX1 Y S kn Y1 S1) : RV N Y1 S1 := by
  obtain ⟨a1, a2, a3, a5⟩ := a
  obtain ⟨h1, h2, h3, h4, h5⟩ := R
  have m : ∀ k i, k ≠ 32 → k ≠ 38 → mEq S1 S k i := fun k i w1 w2 => a5 k i (by omega)
  refine ⟨by rw [a3 23 (by omega), a3 28 (by omega), a3 29 (by omega)]; exact h1, fun k i f q hi => ?_, fun t ht => ?_, fun t v ht hv => ?_, (m 24 3 (by omega) (by omega)).2.2.2.2.1.trans h5⟩
  · have hd := rK_d q
    rw [a3 k (by omega)] at hi
    exact (congrFun (m k i (by omega) (by omega)).1 f).trans (h2 k i f q hi)
  · rw [a3 23 (by omega)] at ht
    exact (m 25 t (by omega) (by omega)).2.2.2.2.1.trans (h3 t ht)
  · rw [a3 23 (by omega)] at ht
    exact (congrFun (m 26 t (by omega) (by omega)).2.2.2.2.2.2.2.1 v).trans (h4 t v ht hv)
theorem D_b74 {N : mN} {i : Nat} {κ : mM → Prop} (h : ∀ S M, vZ0 g c0 (nWa (nn N 23) (nSp (nP0 (nn N 28) N))) Y0 S0 Y S M → κ M) : ∀ (d c : Nat) (S : mS) (M : mM), vZ0 g c0 (nP0 c N) Y0 S0 Y S M → vIt Y S i 1 c → c + d = yn Y 28 → wX14_begin_74 κ (d + 1) (some (yA Y 20 0)) (some (yA Y 32 i)) M := by
  intro d
  induction d with
  | zero =>
    intro c S M P I hc
    have V := P.1.1.2.1
    have hl : (sL S 24 1).length = yn Y 28 := by rw [V.2.2.1.2.1, List.length_range]
    have en : nn N 28 = c := by
      have := P.1.2.2.1.2.1
      rw [(nP0_o c).1] at this
      omega
    rw [en] at h
    rw [wX14_begin_74]
    exact s_rc P.1.1.1 I.1 rfl rfl (v_hasNext P.1.1.1 (V.l24 (by omega)) I (by omega) (fun z => absurd z (by omega)) (fun _ => br_t rfl (D_b120 (N := nP0 c N) (fun S M P => h S M (by rw [(nP0_o c).1] at P; exact P)) P)))
  | succ d ih =>
    intro c S M P I hc
    have V := P.1.1.2.1
    have hl : (sL S 24 1).length = yn Y 28 := by rw [V.2.2.1.2.1, List.length_range]
    have hx : (sL S 24 1)[c]? = some c := by rw [V.2.2.1.2.1, List.getElem?_range (by omega)]
    have hlt : c < yn Y 28 := by omega
    rw [wX14_begin_74]
    refine s_rc P.1.1.1 I.1 rfl rfl (v_hasNext P.1.1.1 (V.l24 (by omega)) I (by omega) (fun _ => br_f (by decide) ?_) (fun z => absurd z (by omega)))
    refine v_next P.1.1.1 (V.l24 (by omega)) I hx (fun M1 H1 => s_cast H1 hlt rfl rfl ?_)
    have P1 := P.nx H1
    have RR := P1.1.2.2.2.1
    have I1 := I.nx
    have stay : ¬ (¬ nv (nP0 c N) 28 c 8 = -1 ∧ ¬ nv (nP0 c N) 20 0 1 ≤ nv (nP0 c N) 28 c 7) → wX14_begin_117 κ (wX14_begin_74 κ (d + 1)) (some (yA Y 20 0)) (some (yA Y 32 i)) M1 := fun w => ih (c + 1) _ M1 (by rw [show nP0 (c + 1) N = nP0 c N from if_neg w]; exact P1) I1 (by omega)
    refine s_gI H1 hlt rfl rfl rfl ?_
    rw [RR 28 c 8 rfl hlt]
    refine br_c (fun z => stay (fun w => w.1 z)) (fun z8 => s_gI H1 hlt rfl rfl rfl (s_gI H1 P1.1.1.2.1.x0 rfl rfl rfl ?_))
    rw [RR 28 c 7 rfl hlt, RR 20 0 1 rfl P1.1.1.2.1.x0]
    refine br_c (fun z => stay (fun w => w.2 z)) (fun z7 => s_pI H1 hlt rfl rfl rfl (fun M2 H2 => ?_))
    refine ih (c + 1) (uI (uI (uI S 32 i 0 (nI (c + 1))) 32 i 1 (nI c)) 28 c 8 (-1)) M2 ?_ ⟨I1.1, (sI_uI (by omega)).trans I1.2.1, ((sI_uI (by omega)).trans I1.2.2.1).trans (sI_uI (by omega)).symm, I1.2.2.2⟩ (by omega)
    rw [show nP0 (c + 1) N = nU (nP0 c N) 28 c 8 (-1) from if_pos ⟨z8, z7⟩]
    exact P1.I H2 (Or.inl rfl) (by omega)
theorem D_b44 {N : mN} {κ : mM → Prop} (h : ∀ Y' S M, vZ0 g c0 (nWa (nn N 23) (nSp (nP0 (nn N 28) (nL0 6 N)))) Y0 S0 Y' S M → yA Y' 20 0 = yA Y 20 0 → κ M) : ∀ (d j : Nat) (S : mS) (M : mM), vZ0 g c0 (nL0 j N) Y0 S0 Y S M → j + d = 6 → wX14_begin_44 κ (d + 1) (some (yA Y 20 0)) (some (yA Y 21 0)) (nI 6) (nI j) M := by
  intro d
  induction d with
  | zero =>
    intro j S M P hj
    have H := P.1.1.1
    have V := P.1.1.2.1
    have ej : j = 6 := by omega
    rw [ej] at P ⊢
    obtain ⟨o1, -⟩ := nL0_o (N := N) 6
    rw [wX14_begin_44]
    refine br_t (nI_le (by omega) (by omega)) (s_gR6 H V.x0 rfl rfl rfl (s_rcL H rfl (V.l24 (by omega)) (v_iter (by omega) (vP.rf P.1.1) (fun Y1 S1 M1 i P1 a I => ?_))))
    rw [← a.1 20 0 V.x0]
    have P2 : vZ0 g c0 (nL0 6 N) Y0 S0 Y1 S1 M1 := ⟨⟨P1.1, P.1.2.1.tr P1.2.1, P.1.2.2.X1 V (Or.inl rfl) a⟩, (congrFun (a.2.2.2 20 0 (by omega)).1 0).trans P.2⟩
    exact ⟨yn Y1 28 + 1, D_b74 (N := nL0 6 N) (fun S M P => h Y1 S M (by rw [o1] at P; exact P) (a.1 20 0 V.x0)) (yn Y1 28) 0 S1 M1 P2 I (by omega)⟩
  | succ d ih =>
    intro j S M P hj
    have H := P.1.1.1
    have V := P.1.1.2.1
    have hl6 : j < 6 := by omega
    rw [wX14_begin_44]
    refine br_f (nI_ge hl6 (by omega)) (s_ldR H V.l21 rfl (by decide) rfl (by rw [V.2.2.2.2.1]; exact hl6) (by rw [V.2.2.2.2.1]; omega) ?_)
    rw [V.2.2.2.2.2.1 j hl6]
    refine s_pI H (V.l22 hl6) rfl rfl rfl (fun M1 H1 => ?_)
    rw [nI_1]
    exact ih (j + 1) _ M1 (P.I H1 trivial (by omega)) (by omega)
theorem nHour_t {N : mN} {nt hr : Nat} (h1 : nv N 20 0 1 = nI nt) (h2 : nv N 20 0 2 = nI hr) (hh : hr ≤ 23) : ∃ nt' hr', hr' ≤ 23 ∧ 24 * nt' + hr' = 24 * nt + hr + 1 ∧ nv (nHour N) 20 0 1 = nI nt' ∧ nv (nHour N) 20 0 2 = nI hr' := by
  have e : ∀ f, nv (nHour N) 20 0 f = nv (nHour1 N) 20 0 f := fun f => nWa_v (by omega) _
  rw [e, e]
  by_cases z : hr + 1 = 24
  · have e1 : nHour1 N = nNight (nU N 20 0 2 (nv N 20 0 2 + 1)) := if_pos (by rw [h2, nI_1, z]; rfl)
    rw [e1]
    unfold nNight
    rw [nP0_v (by omega), nP0_v (by omega), nL0_v (by omega), nL0_v (by omega)]
    refine ⟨nt + 1, 0, by omega, by omega, ?_, ?_⟩
    · rw [nv_U_s, nv_U (by omega), h1, nI_1]
    · rw [nv_U (by omega), nv_U_s]
      rfl
  · have e1 : nHour1 N = nU N 20 0 2 (nv N 20 0 2 + 1) := if_neg (by rw [h2, nI_1]; exact fun w => z ((nI_eq (a := hr + 1) (b := 24) (by omega) (by omega)).mp w))
    rw [e1]
    refine ⟨nt, hr + 1, by omega, by omega, ?_, ?_⟩
    · rw [nv_U (by omega), h1]
    · rw [nv_U_s, h2, nI_1]
theorem D_begin {N : mN} {nt hr : Nat} (P : vZ0 g c0 N Y0 S0 Y S M) (h1 : nv N 20 0 1 = nI nt) (h2 : nv N 20 0 2 = nI hr) (hn : nt ≤ 99) (hh : hr ≤ 23) (hs : 24 * nt + hr + 1 ≤ 2399) {κ : mM → Prop} (h : ∀ Y' S' M', vZ0 g c0 (nHour N) Y0 S0 Y' S' M' → yA Y' 20 0 = yA Y 20 0 → κ M') : wX14_begin κ (some (yA Y 20 0)) M := by
  obtain ⟨⟨⟨H, V, VV, VQ, VT⟩, F, R⟩, e00⟩ := P
  unfold nHour at h
  refine s_gI H V.x0 rfl rfl rfl ?_
  rw [R.2.1 20 0 2 rfl V.x0]
  refine s_pI H V.x0 rfl rfl rfl (fun M1 H1 => s_gI H1 V.x0 rfl rfl rfl ?_)
  rw [sI_uI_s]
  have V1 : mVs Y (uI S 20 0 2 (nv N 20 0 2 + 1)) := vS_uI V (by omega)
  have VV1 : mVv Y (uI S 20 0 2 (nv N 20 0 2 + 1)) := vV_uI (k := 20) VV trivial (by omega)
  have VQ1 : mVq Y (uI S 20 0 2 (nv N 20 0 2 + 1)) := vQ_uI VQ (by omega)
  have F1 : mFm Y0 S0 Y (uI S 20 0 2 (nv N 20 0 2 + 1)) := F.tr (mFm.uI (by omega))
  have R1 : RV (nU N 20 0 2 (nv N 20 0 2 + 1)) Y (uI S 20 0 2 (nv N 20 0 2 + 1)) := R.pI
  have o := nHour1_o (N := N)
  refine br_c (fun e => ?_) (fun e => ?_)
  · have e1 : nHour1 N = nNight (nU N 20 0 2 (nv N 20 0 2 + 1)) := if_pos e
    have eh : hr + 1 = 24 := (nI_eq (by omega) (by omega)).mp (show nI (hr + 1) = nI 24 from by rw [← nI_1, ← h2]; exact e)
    refine s_pI H1 V.x0 rfl rfl rfl (fun M2 H2 => s_gI H2 V.x0 rfl rfl rfl ?_)
    have R2 : RV (nU (nU N 20 0 2 (nv N 20 0 2 + 1)) 20 0 2 0) Y (uI (uI S 20 0 2 (nv N 20 0 2 + 1)) 20 0 2 0) := R1.pI
    rw [R2.2.1 20 0 1 rfl V.x0, show nv (nU (nU N 20 0 2 (nv N 20 0 2 + 1)) 20 0 2 0) 20 0 1 = nv (nU N 20 0 2 (nv N 20 0 2 + 1)) 20 0 1 from nv_U (by omega)]
    refine s_pI H2 V.x0 rfl rfl rfl (fun M3 H3 => ?_)
    have et : nv (nU N 20 0 2 (nv N 20 0 2 + 1)) 20 0 1 + 1 = nI (nt + 1) := by rw [nv_U (by omega), h1, nI_1]
    have P3 : vZ0 g c0 (nU (nU (nU N 20 0 2 (nv N 20 0 2 + 1)) 20 0 2 0) 20 0 1 (nv (nU N 20 0 2 (nv N 20 0 2 + 1)) 20 0 1 + 1)) Y0 S0 Y (uI (uI (uI S 20 0 2 (nv N 20 0 2 + 1)) 20 0 2 0) 20 0 1 (nv (nU N 20 0 2 (nv N 20 0 2 + 1)) 20 0 1 + 1)) M3 := ⟨⟨⟨H3, vS_uI (vS_uI V1 (by omega)) (by omega), vV_uI (k := 20) (vV_uI (k := 20) VV1 trivial (by omega)) trivial (by omega), vQ_uI (vQ_uI VQ1 (by omega)) (by omega), ⟨nt + 1, 0, by omega, by omega, sI_uI_s.trans et, (sI_uI (by omega)).trans sI_uI_s⟩⟩, (F1.tr (mFm.uI (by omega))).tr (mFm.uI (by omega)), R2.pI⟩, ((sI_uI (by omega)).trans ((sI_uI (by omega)).trans (sI_uI (by omega)))).trans e00⟩
    refine s_gR6 H3 V.x0 rfl rfl rfl (s_lenR H3 V.l21 (by decide) rfl ?_)
    rw [P3.1.1.2.1.2.2.2.2.1]
    refine ⟨7, D_b44 (N := nU (nU (nU N 20 0 2 (nv N 20 0 2 + 1)) 20 0 2 0) 20 0 1 (nv (nU N 20 0 2 (nv N 20 0 2 + 1)) 20 0 1 + 1)) (fun Y' S' M' P' ea => h Y' S' M' ?_ ea) 6 0 _ M3 P3 (by omega)⟩
    rw [e1]
    exact P'
  · have e1 : nHour1 N = nU N 20 0 2 (nv N 20 0 2 + 1) := if_neg e
    have eh : hr + 1 ≠ 24 := fun q => e (by rw [h2, nI_1, q]; rfl)
    have P1 : vZ0 g c0 (nU N 20 0 2 (nv N 20 0 2 + 1)) Y0 S0 Y (uI S 20 0 2 (nv N 20 0 2 + 1)) M1 := ⟨⟨⟨H1, V1, VV1, VQ1, ⟨nt, hr + 1, hn, by omega, (sI_uI (by omega)).trans ((R.2.1 20 0 1 rfl V.x0).trans h1), sI_uI_s.trans (by rw [h2, nI_1])⟩⟩, F1, R1⟩, (sI_uI (by omega)).trans e00⟩
    exact D_b120 (N := nU N 20 0 2 (nv N 20 0 2 + 1)) (fun S' M' P' => h Y S' M' (by rw [e1]; exact P') rfl) P1
theorem D_p48 {N : mN} {n tot : Nat} (hn : n ≤ 48) {κ : Int32 → mM → Prop} (h : ∀ Y' S' M', vZ0 g c0 (nHours n N) Y0 S0 Y' S' M' → κ (nv (nHours n N) 20 0 2) M') : ∀ (d j nt hr : Nat) (Y : mY) (S : mS) (M : mM), vZ0 g c0 (nHours j N) Y0 S0 Y S M → nv (nHours j N) 20 0 1 = nI nt → nv (nHours j N) 20 0 2 = nI hr → nt ≤ 99 → hr ≤ 23 → 24 * nt + hr + d ≤ 2399 → j + d = n → wX14_pass_48 κ (d + 1) j (4 * j) (some (yA Y 20 0)) (nI n) (nI j) M := by
  intro d
  induction d with
  | zero =>
    intro j nt hr Y S M P t1 t2 h1 h2 h3 hj
    have ej : j = n := by omega
    rw [wX14_pass_48]
    refine ⟨⟨by omega, by omega⟩, br_t (nI_le (by omega) (by omega)) (s_gI P.1.1.1 P.1.1.2.1.x0 rfl rfl rfl ?_)⟩
    rw [P.1.2.2.2.1 20 0 2 rfl P.1.1.2.1.x0]
    rw [ej] at P ⊢
    exact ⟨⟨by omega, by omega⟩, h Y S M P⟩
  | succ d ih =>
    intro j nt hr Y S M P t1 t2 h1 h2 h3 hj
    rw [wX14_pass_48]
    refine ⟨⟨by omega, by omega⟩, br_f (nI_ge (by omega) (by omega)) ⟨⟨by omega, by omega⟩, s_rc P.1.1.1 P.1.1.2.1.x0 rfl rfl (D_begin P t1 t2 h1 h2 (by omega) (fun Y1 S1 M1 P1 ea => ?_))⟩⟩
    obtain ⟨nt', hr', q1, q2, q3, q4⟩ := nHour_t t1 t2 h2
    rw [← ea, nI_1]
    exact ih (j + 1) nt' hr' Y1 S1 M1 P1 q3 q4 (by omega) q1 (by omega) (by omega)
theorem D_pass {N : mN} (P : vN g N Y0 S0 Y S M) {a : Int32} {κ : Int32 → mM → Prop} (h : ∀ k v N' Y' S' M', fPass N a = (k, v, N') → vN g N' Y0 S0 Y' S' M' → sI S' 20 0 0 = k → κ v M') : wX14_pass κ (some (yA Y 20 0)) a M := by
  unfold fPass at h
  refine n_th P (fun S1 M1 P1 e1 => ?_)
  have H := P1.1.1
  have V := P1.1.2.1
  have R := P1.2.2
  obtain ⟨nt, hr, t1, t2, t3, t4⟩ := P1.1.2.2.2.2
  have s1 : nv N 20 0 1 = nI nt := (R.2.1 20 0 1 rfl V.x0).symm.trans t3
  have s2 : nv N 20 0 2 = nI hr := (R.2.1 20 0 2 rfl V.x0).symm.trans t4
  refine v_is (fun z w => br_f (by decide) ?_) (fun q => br_t rfl (n_rf P1 (fun S2 M2 P2 e2 => ⟨⟨by omega, by omega⟩, h 1 0 N Y S2 M2 (by rw [if_pos (fun r => q ⟨r.1, Int32.not_lt.mpr r.2⟩)]) P2 e2⟩)))
  have rg : ¬ a < 1 ∧ a ≤ 48 := ⟨z, Int32.not_lt.mp w⟩
  obtain ⟨n, hn, ea⟩ := nI_rg (v := a) (n := 48) (by omega) (fun q => z (Int32.lt_trans q (by decide))) w
  rw [if_neg (fun w => w rg)] at h
  refine s_gI H V.x0 rfl rfl rfl (s_gI H V.x0 rfl rfl rfl ?_)
  rw [R.2.1 20 0 1 rfl V.x0, R.2.1 20 0 2 rfl V.x0]
  refine br_c (fun q => ?_) (fun q => n_rf P1 (fun S2 M2 P2 e2 => ⟨⟨by omega, by omega⟩, h 2 0 N Y S2 M2 (by rw [if_pos q]) P2 e2⟩))
  rw [if_neg (fun w => w q)] at h
  have ec : nv N 20 0 1 + (nv N 20 0 2 + a) / 24 = nI (nt + (hr + n) / 24) := by rw [s1, s2, ea, nI_add, show (24 : Int32) = nI 24 from rfl, pk_div (by omega) (by omega) (by omega), nI_add]
  have q' : nt + (hr + n) / 24 ≤ 99 := by
    rw [ec] at q
    exact (nI_leI (by omega) (by omega)).mp (show nI (nt + (hr + n) / 24) ≤ nI 99 from q)
  subst ea
  rw [tN_nI (by omega)] at h
  exact ⟨n + 1, D_p48 (tot := 0) hn (fun Y' S' M' P' => h 0 _ _ Y' S' M' rfl P'.1 P'.2) n 0 nt hr Y S1 M1 ⟨P1, e1⟩ s1 s2 t1 t2 (by omega) (by omega)⟩
end SIM22
