/-! THE PROPERTY'S LAW, 1: what holds between two calls; each call of the class from there -/
theorem mWs.TT {Y Y' : mY} {S S' : mS} (W : mWs Y S) (a : ∀ k, k < 20 → yn Y' k = yn Y k ∧ ∀ i, mEq S' S k i) (b : ∀ k i, i < yn Y k → yA Y' k i = yA Y k i) : mWs Y' S' := by
  obtain ⟨w1, w2, w3, ⟨v1, v2, v3, v4⟩, ⟨u1, u2⟩, ⟨u3, u4⟩, u5, u6⟩ := W
  have n := fun k hk => (a k hk).1
  have hL : ∀ i, sL S' 12 i = sL S 12 i := fun i => ((a 12 (by omega)).2 i).2.2.2.2.1
  refine ⟨by rw [n 0 (by omega), n 1 (by omega), n 2 (by omega), n 3 (by omega), n 7 (by omega), n 8 (by omega), n 9 (by omega), n 10 (by omega), n 11 (by omega), n 12 (by omega), n 13 (by omega)]; exact w1, by rw [n 3 (by omega), n 4 (by omega), n 5 (by omega), n 6 (by omega)]; exact w2, by rw [hL, hL, hL, hL, n 3 (by omega), n 4 (by omega), n 5 (by omega), n 6 (by omega)]; exact w3, ⟨fun i hi => (congrFun ((a 2 (by omega)).2 i).1 0).trans (v1 i hi), fun i hi => (congrFun ((a 3 (by omega)).2 i).1 0).trans (v2 i (by rw [n 3 (by omega)] at hi; exact hi)), fun i hi => (congrFun ((a 4 (by omega)).2 i).1 0).trans (v3 i (by rw [n 4 (by omega)] at hi; exact hi)), fun i hi => (congrFun ((a 5 (by omega)).2 i).1 0).trans (v4 i (by rw [n 5 (by omega)] at hi; exact hi))⟩, ⟨(((a 1 (by omega)).2 0).2.2.2.2.2.2.1).trans u1, fun i hi => ?_⟩, ⟨(((a 8 (by omega)).2 0).2.2.2.2.2.2.1).trans u3, fun i hi => ?_⟩, fun i hi => (((a 9 (by omega)).2 i).2.2.2.2.2.2.1).trans (u5 i hi), (((a 9 (by omega)).2 9).2.2.2.2.2.2.1).trans u6⟩
  · rw [congrFun ((a 1 (by omega)).2 0).2.2.2.2.2.2.2.2 i, u2 i hi, b 2 i (by omega)]
  · rw [congrFun ((a 8 (by omega)).2 0).2.2.2.2.2.2.2.2 i, u4 i hi, b 9 i (by omega)]
theorem mWq.TT {Y Y' : mY} {S S' : mS} (Q : mWq Y S) (a : ∀ k, k < 20 → yn Y' k = yn Y k ∧ ∀ i, mEq S' S k i) : mWq Y' S' := by
  have eL : ∀ t, sL S' 13 t = sL S 13 t := fun t => ((a 13 (by omega)).2 t).2.2.2.2.1
  have eX : ∀ s, sX S' 4 s 5 = sX S 4 s 5 := fun s => congrFun ((a 4 (by omega)).2 s).2.2.1 5
  have eI : ∀ s, sI S' 4 s 4 = sI S 4 s 4 := fun s => congrFun ((a 4 (by omega)).2 s).1 4
  refine ⟨fun t ht => ?_, fun s t hs hx => ?_⟩
  · rw [(a 3 (by omega)).1] at ht
    rw [eL]
    exact ⟨(Q.1 t ht).1, fun s hs => (eX s).trans ((Q.1 t ht).2 s hs)⟩
  · rw [(a 4 (by omega)).1] at hs
    rw [eX] at hx
    rw [eI, eL]
    exact Q.2 s t hs hx
theorem RC.TT {x : Nat} {N : mN} {Y Y' : mY} {S S' : mS} (h : RC x N Y S) (a : ∀ k, k < 20 → yn Y' k = yn Y k ∧ ∀ i, mEq S' S k i) : RC x N Y' S' := by
  obtain ⟨h1, h2, h3, h4, h5, h6, h7, h8, h9, h10⟩ := h.cg (S' := S') (fun k i f hk => congrFun ((a k (by omega)).2 i).1 f) (fun k i f hk => congrFun ((a k (by omega)).2 i).2.2.2.1 f) (fun k i f hk => congrFun ((a k (by omega)).2 i).2.2.1 f) (fun t => ((a 13 (by omega)).2 t).2.2.2.2.1) (fun k t f hk => congrFun ((a k (by omega)).2 t).2.1 f)
  have e3 := (a 3 (by omega)).1
  have e4 := (a 4 (by omega)).1
  have e5 := (a 5 (by omega)).1
  have e6 := (a 6 (by omega)).1
  exact ⟨by rw [e3, e4, e5]; exact h1, fun k i f k' f' hm hi => h2 k i f k' f' hm (by rw [← (a k (by have := cM_d hm; omega)).1]; exact hi), fun t ht => h3 t (by rw [← e3]; exact ht), fun s hs => h4 s (by rw [← e4]; exact hs), fun s hs => h5 s (by rw [← e4]; exact hs), fun s hs => h6 s (by rw [← e4]; exact hs), fun s hs => h7 s (by rw [← e4]; exact hs), fun p hp => h8 p (by rw [← e5]; exact hp), fun t v ht => h9 t v (by rw [← e3]; exact ht), by rw [e6]; exact h10.1, fun i hi => h10.2 i (by rw [← e6]; exact hi)⟩
def N0 : mN := (fun _ => 0, fun k _ f => match k with | 20 => (match f with | 3 => 3 | _ => 0) | 22 => LD22 f | _ => 0, fun _ => [], fun _ _ => false, [])
theorem RC0 {Y : mY} {S : mS} (W : mWs Y S) (R : ∀ l, l < 6 → sI S 2 l = LD2 l) (C : yn Y 3 = 0 ∧ yn Y 4 = 0 ∧ sI S 0 0 8 = 0 ∧ sI S 0 0 9 = 0 ∧ sI S 0 0 10 = 0 ∧ yn Y 5 = 0 ∧ yn Y 6 = 0 ∧ sI S 7 0 = ST7) : RC 99 N0 Y S := by
  obtain ⟨c3, c4, c8, c9, c10, c5, c6, c7⟩ := C
  have n0 : yn Y 0 = 1 := W.1.1
  have n2 : yn Y 2 = 6 := W.1.2.2.1
  have n7 : yn Y 7 = 1 := W.1.2.2.2.1
  have e8 : ∀ i, i < yn Y 0 → sI S 0 i 8 = 0 := fun i hi => by rw [show i = 0 by omega]; exact c8
  have e9 : ∀ i, i < yn Y 0 → sI S 0 i 9 = 0 := fun i hi => by rw [show i = 0 by omega]; exact c9
  have e10 : ∀ i, i < yn Y 0 → sI S 0 i 10 = 0 := fun i hi => by rw [show i = 0 by omega]; exact c10
  have e7 : ∀ i, i < yn Y 7 → sI S 7 i = ST7 := fun i hi => by rw [show i = 0 by omega]; exact c7
  have e2 : ∀ i, i < yn Y 2 → sI S 2 i = LD2 i := fun i hi => R i (by omega)
  refine ⟨⟨c3, c4, c5⟩, fun k i f k' f' hm hi _ => ?_, fun t ht => absurd ht (by omega), fun s hs => absurd hs (by omega), fun s hs => absurd hs (by omega), fun s hs => absurd hs (by omega), fun s hs => absurd hs (by omega), fun p hp => absurd hp (by omega), fun t v ht => absurd ht (by omega), by rw [c6]; rfl, fun i hi => absurd hi (by omega)⟩
  unfold cM at hm
  split at hm <;> first | (cases hm; first | exact absurd hi (by omega) | exact e8 i hi | exact e9 i hi | exact e10 i hi | exact congrFun (e7 i hi) 0 | exact congrFun (e7 i hi) 1 | exact congrFun (e2 i hi) 1 | exact congrFun (e2 i hi) 2 | exact congrFun (e2 i hi) 3 | exact congrFun (e2 i hi) 4 | exact congrFun (e2 i hi) 5 | exact congrFun (e2 i hi) 6) | cases hm
theorem NI0 : NI N0 := NI.mk (fun l _ => ⟨20, by omega, rfl⟩) ⟨fun _ => 5, fun l _ => rfl, rfl⟩ (fun s hs => absurd hs (Nat.not_lt_zero s)) (fun t ht => absurd ht (Nat.not_lt_zero t)) ⟨fun k hk => absurd hk (Nat.not_lt_zero _), fun k k' _ hk => absurd hk (Nat.not_lt_zero _), fun s hs => absurd hs (Nat.not_lt_zero s)⟩
theorem nB0 : nB N0 := nB.mk ⟨0, 0, by omega, by omega, rfl, rfl⟩ ⟨Nat.zero_le _, Nat.zero_le _, Nat.zero_le _⟩ (fun t ht => absurd ht (Nat.not_lt_zero t)) (fun s hs => absurd hs (Nat.not_lt_zero s)) (fun p hp => absurd hp (Nat.not_lt_zero p)) (fun t ht => absurd ht (Nat.not_lt_zero t)) (fun s hs => absurd hs (Nat.not_lt_zero s)) ⟨0, Nat.zero_le _, rfl, fun j v h => by cases h⟩
theorem nZ0 : nZ N0 := fun _ _ _ => rfl
theorem nG0 : nG 0 N0 := ⟨fun l _ => ⟨10, by omega, rfl⟩, fun l _ => ⟨0, by omega, rfl⟩, fun l _ => ⟨0, by omega, rfl⟩, fun l _ => rfl, fun p hp => absurd hp (Nat.not_lt_zero p), 0, Nat.le_refl 0, rfl⟩
/-- between two calls: the class's object at a0 holds the plain state N; the script is there -/
def nLP (g : Nat → Nat) (a0 k : Nat) (N : mN) (Y : mY) (S : mS) (M : mM) : Prop := (mR g Y S M ∧ mWs Y S ∧ mWq Y S ∧ RC 99 N Y S) ∧ (yA Y 0 0 = a0 ∧ sC S 33 0 ≤ 260) ∧ nB N ∧ NI N ∧ nZ N ∧ nG k N
theorem L_z0 {T : mT} {v x : Int32} {N : mN} (e : T = (0, v, N)) (h : T.1 = x) (hx : ¬ (0 : Int32) = x) : False := hx ((congrArg (fun q => q.1) e).symm.trans h)
section LCALLS
variable {g : Nat → Nat} {a0 k : Nat} {N N' : mN} {Y Y' : mY} {S S' : mS} {M M' : mM}
theorem nLP.c (P : nLP g a0 k N Y S M) (C : cX g N' Y S Y' S' M') {k' : Nat} (B : nB N') (I : NI N') (Z : nZ N') (G : nG k' N') : nLP g a0 k' N' Y' S' M' := by
  obtain ⟨⟨H, W, Q, R⟩, ⟨e0, hs⟩, -⟩ := P
  obtain ⟨H', W', Q', F, R'⟩ := C
  exact ⟨⟨H', W', Q', R'⟩, ⟨(F.1 0 0 W.x0).trans e0, by rw [((F.2.2 33 (by omega)).2 0).2.2.2.2.2.2.1]; exact hs⟩, B, I, Z, G⟩
theorem nLP.mono (P : nLP g a0 k N Y S M) {k' : Nat} (h : k ≤ k') : nLP g a0 k' N Y S M := ⟨P.1, P.2.1, P.2.2.1, P.2.2.2.1, P.2.2.2.2.1, P.2.2.2.2.2.mono h⟩
theorem K_land (P : nLP g a0 k N Y S M) {x y z : Int32} {κ : Int32 → mM → Prop} {ξ : String → mM → Prop} (h1 : (fLand N x y z).1 = 1 → ξ "java/lang/IndexOutOfBoundsException" M) (h2 : (fLand N x y z).1 = 2 → ξ "java/lang/IllegalArgumentException" M) (h : ∀ v N' Y' S' M', fLand N x y z = (0, v, N') → nLP g a0 k N' Y' S' M' → mFc Y S Y' S' → κ v M') : m_rc M (some a0) 13 fun b => wX8_land κ ξ (some b) x y z M := by
  obtain ⟨⟨H, W, Q, R⟩, ⟨e0, hs⟩, B, I, Z, G⟩ := id P
  rw [← e0]
  exact s_rc H W.x0 rfl rfl (C_land H W Q R h1 h2 (fun v N' Y' S' M' e C => h v N' Y' S' M' e (P.c C (nB.land B e) (NI.land I e) (nZ_land Z e) (nG.land G e)) C.2.2.2.1))
theorem K_trade (P : nLP g a0 k N Y S M) {x y z : Int32} {κ : Int32 → mM → Prop} {ξ : String → mM → Prop} (h1 : (fTrade N x y z).1 = 1 → ξ "java/lang/IndexOutOfBoundsException" M) (h2 : (fTrade N x y z).1 = 2 → ξ "java/lang/IllegalArgumentException" M) (h3 : (fTrade N x y z).1 = 3 → ξ "java/lang/IllegalStateException" M) (h : ∀ v N' Y' S' M', fTrade N x y z = (0, v, N') → nLP g a0 k N' Y' S' M' → mFc Y S Y' S' → κ v M') : m_rc M (some a0) 13 fun b => wX8_trade κ ξ (some b) x y z M := by
  obtain ⟨⟨H, W, Q, R⟩, ⟨e0, hs⟩, B, I, Z, G⟩ := id P
  rw [← e0]
  exact s_rc H W.x0 rfl rfl (C_trade H W Q R h1 h2 h3 (fun v N' Y' S' M' e C => h v N' Y' S' M' e (P.c C (nB.trade B e) (NI.trade I e) (nZ_trade Z e) (nG.trade G e)) C.2.2.2.1))
theorem K_gate (P : nLP g a0 k N Y S M) {x y z u : Int32} {κ : Int32 → mM → Prop} {ξ : String → mM → Prop} (h1 : (fGate N x y z u).1 = 1 → ξ "java/lang/IndexOutOfBoundsException" M) (h2 : (fGate N x y z u).1 = 2 → ξ "java/lang/IllegalArgumentException" M) (h3 : (fGate N x y z u).1 = 3 → ξ "java/lang/IllegalStateException" M) (h : ∀ v N' Y' S' M', fGate N x y z u = (0, v, N') → nLP g a0 k N' Y' S' M' → mFc Y S Y' S' → κ v M') : m_rc M (some a0) 13 fun b => wX8_gate g κ ξ (some b) x y z u M := by
  obtain ⟨⟨H, W, Q, R⟩, ⟨e0, hs⟩, B, I, Z, G⟩ := id P
  rw [← e0]
  exact s_rc H W.x0 rfl rfl (C_gate H W Q R h1 h2 h3 (fun v N' Y' S' M' e C => h v N' Y' S' M' e (P.c C (nB.gate B e) (NI.gate B I e) (nZ_gate Z e) (nG.gate G e)) C.2.2.2.1))
theorem K_odds (P : nLP g a0 k N Y S M) {x y : Int32} {κ : Int32 → mM → Prop} {ξ : String → mM → Prop} (h1 : (fOdds N x y).1 = 1 → ξ "java/lang/IndexOutOfBoundsException" M) (h2 : (fOdds N x y).1 = 2 → ξ "java/lang/IllegalArgumentException" M) (h : ∀ v N' Y' S' M', fOdds N x y = (0, v, N') → nLP g a0 k N' Y' S' M' → mFc Y S Y' S' → nSt N N' → κ v M') : m_rc M (some a0) 13 fun b => wX8_odds κ ξ (some b) x y M := by
  obtain ⟨⟨H, W, Q, R⟩, ⟨e0, hs⟩, B, I, Z, G⟩ := id P
  rw [← e0]
  exact s_rc H W.x0 rfl rfl (C_odds H W Q R h1 h2 (fun v N' Y' S' M' e C => h v N' Y' S' M' e (P.c C (nB.odds B e) (NI.odds I e) (nZ_odds Z e) (nG.odds G e).1) C.2.2.2.1 (nG.odds G e).2))
theorem K_relieve (P : nLP g a0 k N Y S M) {x : Int32} {κ : Int32 → mM → Prop} {ξ : String → mM → Prop} (h1 : (fRelieve N x).1 = 1 → ξ "java/lang/IndexOutOfBoundsException" M) (h : ∀ v N' Y' S' M', fRelieve N x = (0, v, N') → nLP g a0 k N' Y' S' M' → mFc Y S Y' S' → nSt N N' → κ v M') : m_rc M (some a0) 13 fun b => wX8_relieve κ ξ (some b) x M := by
  obtain ⟨⟨H, W, Q, R⟩, ⟨e0, hs⟩, B, I, Z, G⟩ := id P
  rw [← e0]
  exact s_rc H W.x0 rfl rfl (C_relieve H W Q R h1 (fun v N' Y' S' M' e C => h v N' Y' S' M' e (P.c C (nB.relieve B e) (NI.relieve I e) (nZ_relieve Z e) (nG.relieve G e).1) C.2.2.2.1 (nG.relieve G e).2))
theorem K_sleeper (P : nLP g a0 k N Y S M) {x y z : Int32} (hb : y = 0 ∨ y = 1) {κ : Int32 → mM → Prop} {ξ : String → mM → Prop} (h1 : (fSleeper N x y z).1 = 1 → ξ "java/lang/IndexOutOfBoundsException" M) (h2 : (fSleeper N x y z).1 = 2 → ξ "java/lang/IllegalArgumentException" M) (h3 : (fSleeper N x y z).1 = 3 → ξ "java/lang/IllegalStateException" M) (h : ∀ v N' Y' S' M', fSleeper N x y z = (0, v, N') → nLP g a0 k N' Y' S' M' → mFc Y S Y' S' → κ v M') : m_rc M (some a0) 13 fun b => wX8_sleeper g κ ξ (some b) x y z M := by
  obtain ⟨⟨H, W, Q, R⟩, ⟨e0, hs⟩, B, I, Z, G⟩ := id P
  rw [← e0]
  exact s_rc H W.x0 rfl rfl (C_sleeper H W Q R hb h1 h2 h3 (fun v N' Y' S' M' e C => h v N' Y' S' M' e (P.c C (nB.sleeper B e) (NI.sleeper B I e) (nZ_sleeper Z e) (nG.sleeper G e)) C.2.2.2.1))
theorem K_part (P : nLP g a0 k N Y S M) {x y z u : Int32} {κ : Int32 → mM → Prop} {ξ : String → mM → Prop} (h1 : (fPart N x y z u).1 = 1 → ξ "java/lang/IndexOutOfBoundsException" M) (h2 : (fPart N x y z u).1 = 2 → ξ "java/lang/IllegalArgumentException" M) (h3 : (fPart N x y z u).1 = 3 → ξ "java/lang/IllegalStateException" M) (h : ∀ v N' Y' S' M', fPart N x y z u = (0, v, N') → nLP g a0 k N' Y' S' M' → mFc Y S Y' S' → κ v M') : m_rc M (some a0) 13 fun b => wX8_part g κ ξ (some b) x y z u M := by
  obtain ⟨⟨H, W, Q, R⟩, ⟨e0, hs⟩, B, I, Z, G⟩ := id P
  rw [← e0]
  exact s_rc H W.x0 rfl rfl (C_part H W Q R h1 h2 h3 (fun v N' Y' S' M' e C => h v N' Y' S' M' e (P.c C (nB.part B e) (NI.part B I e) (nZ_part Z e) (nG.part G e)) C.2.2.2.1))
theorem K_give (P : nLP g a0 k N Y S M) {x y : Int32} {κ : Int32 → mM → Prop} {ξ : String → mM → Prop} (h1 : (fGive N x y).1 = 1 → ξ "java/lang/IndexOutOfBoundsException" M) (h2 : (fGive N x y).1 = 2 → ξ "java/lang/IllegalStateException" M) (h : ∀ v N' Y' S' M', fGive N x y = (0, v, N') → nLP g a0 k N' Y' S' M' → mFc Y S Y' S' → nSt N N' → κ v M') : m_rc M (some a0) 13 fun b => wX8_give κ ξ (some b) x y M := by
  obtain ⟨⟨H, W, Q, R⟩, ⟨e0, hs⟩, B, I, Z, G⟩ := id P
  rw [← e0]
  exact s_rc H W.x0 rfl rfl (C_give H W Q R h1 h2 (fun v N' Y' S' M' e C => h v N' Y' S' M' e (P.c C (nB.give B e) (NI.give B I e) (nZ_give Z e) (nG.give B G e).1) C.2.2.2.1 (nG.give B G e).2))
theorem K_sing (P : nLP g a0 k N Y S M) {x y z u : Int32} {κ : Int32 → mM → Prop} {ξ : String → mM → Prop} (h1 : (fSing N x y z u).1 = 1 → ξ "java/lang/IndexOutOfBoundsException" M) (h2 : (fSing N x y z u).1 = 2 → ξ "java/lang/IllegalArgumentException" M) (h : ∀ v N' Y' S' M', fSing N x y z u = (0, v, N') → nLP g a0 k N' Y' S' M' → mFc Y S Y' S' → nSt N N' → κ v M') : m_rc M (some a0) 13 fun b => wX8_sing κ ξ (some b) x y z u M := by
  obtain ⟨⟨H, W, Q, R⟩, ⟨e0, hs⟩, B, I, Z, G⟩ := id P
  rw [← e0]
  exact s_rc H W.x0 rfl rfl (C_sing H W Q R h1 h2 (fun v N' Y' S' M' e C => h v N' Y' S' M' e (P.c C (nB.sing B e) (NI.sing I e) (nZ_sing Z e) (nG.sing G e).1) C.2.2.2.1 (nG.sing G e).2))
theorem K_revoke (P : nLP g a0 k N Y S M) {x y : Int32} {κ : Int32 → mM → Prop} {ξ : String → mM → Prop} (h1 : (fRevoke N x y).1 = 1 → ξ "java/lang/IndexOutOfBoundsException" M) (h2 : (fRevoke N x y).1 = 2 → ξ "java/lang/IllegalArgumentException" M) (h : ∀ v N' Y' S' M', fRevoke N x y = (0, v, N') → nLP g a0 k N' Y' S' M' → mFc Y S Y' S' → nSt N N' → κ v M') : m_rc M (some a0) 13 fun b => wX8_revoke κ ξ (some b) x y M := by
  obtain ⟨⟨H, W, Q, R⟩, ⟨e0, hs⟩, B, I, Z, G⟩ := id P
  rw [← e0]
  exact s_rc H W.x0 rfl rfl (C_revoke H W Q R h1 h2 (fun v N' Y' S' M' e C => h v N' Y' S' M' e (P.c C (nB.revoke B e) (NI.revoke I e) (nZ_revoke Z e) (nG.revoke G e).1) C.2.2.2.1 (nG.revoke G e).2))
theorem K_join (P : nLP g a0 k N Y S M) {x y z : Int32} {κ : Int32 → mM → Prop} {ξ : String → mM → Prop} (h1 : (fJoin N x y z).1 = 1 → ξ "java/lang/IndexOutOfBoundsException" M) (h2 : (fJoin N x y z).1 = 2 → ξ "java/lang/IllegalArgumentException" M) (h3 : (fJoin N x y z).1 = 3 → ξ "java/lang/IllegalStateException" M) (h : ∀ v N' Y' S' M', fJoin N x y z = (0, v, N') → nLP g a0 k N' Y' S' M' → mFc Y S Y' S' → nSt N N' → κ v M') : m_rc M (some a0) 13 fun b => wX8_join g κ ξ (some b) x y z M := by
  obtain ⟨⟨H, W, Q, R⟩, ⟨e0, hs⟩, B, I, Z, G⟩ := id P
  rw [← e0]
  exact s_rc H W.x0 rfl rfl (C_join H W Q R h1 h2 h3 (fun v N' Y' S' M' e C => h v N' Y' S' M' e (P.c C (nB.join B e) (NI.join B I e) (nZ_join Z e) (nG.join G e).1) C.2.2.2.1 (nG.join G e).2))
theorem K_leave (P : nLP g a0 k N Y S M) {x : Int32} {κ : Int32 → mM → Prop} {ξ : String → mM → Prop} (h1 : (fLeave N x).1 = 1 → ξ "java/lang/IndexOutOfBoundsException" M) (h2 : (fLeave N x).1 = 2 → ξ "java/lang/IllegalStateException" M) (h : ∀ v N' Y' S' M', fLeave N x = (0, v, N') → nLP g a0 k N' Y' S' M' → mFc Y S Y' S' → nSt N N' → κ v M') : m_rc M (some a0) 13 fun b => wX8_leave κ ξ (some b) x M := by
  obtain ⟨⟨H, W, Q, R⟩, ⟨e0, hs⟩, B, I, Z, G⟩ := id P
  rw [← e0]
  exact s_rc H W.x0 rfl rfl (C_leaveB H W Q R B h1 h2 (fun v N' Y' S' M' e C => h v N' Y' S' M' e (P.c C (nB.leave B e) (NI.leave B I e) (nZ_leave Z e) (nG.leave B G e).1) C.2.2.2.1 (nG.leave B G e).2))
theorem K_yawn (P : nLP g a0 k N Y S M) {x : Int32} (hk : k ≤ 900) {κ : Int32 → mM → Prop} {ξ : String → mM → Prop} (h1 : (fYawn N x).1 = 1 → ξ "java/lang/IndexOutOfBoundsException" M) (h2 : (fYawn N x).1 = 2 → ξ "java/lang/IllegalStateException" M) (h : ∀ v N' Y' S' M', fYawn N x = (0, v, N') → nLP g a0 (k + 2) N' Y' S' M' → mFc Y S Y' S' → nSt N N' → κ v M') : m_rc M (some a0) 13 fun b => wX8_yawn g κ ξ (some b) x M := by
  obtain ⟨⟨H, W, Q, R⟩, ⟨e0, hs⟩, B, I, Z, G⟩ := id P
  rw [← e0]
  exact s_rc H W.x0 rfl rfl (C_yawn H W Q R B I h1 h2 (fun v N' Y' S' M' e C => h v N' Y' S' M' e (P.c C ((BI.yawn B I e).1) ((BI.yawn B I e).2) (nZ_yawn Z e) (nG.yawn hk B I G e).1) C.2.2.2.1 (nG.yawn hk B I G e).2))
theorem K_appeal (P : nLP g a0 k N Y S M) {x : Int32} {κ : Int32 → mM → Prop} {ξ : String → mM → Prop} (h1 : (fAppeal N x).1 = 1 → ξ "java/lang/IndexOutOfBoundsException" M) (h2 : (fAppeal N x).1 = 2 → ξ "java/lang/IllegalStateException" M) (h : ∀ v N' Y' S' M', fAppeal N x = (0, v, N') → nLP g a0 k N' Y' S' M' → mFc Y S Y' S' → nSt N N' → κ v M') : m_rc M (some a0) 13 fun b => wX8_appeal κ ξ (some b) x M := by
  obtain ⟨⟨H, W, Q, R⟩, ⟨e0, hs⟩, B, I, Z, G⟩ := id P
  rw [← e0]
  exact s_rc H W.x0 rfl rfl (C_appealB H W Q R B h1 h2 (fun v N' Y' S' M' e C => h v N' Y' S' M' e (P.c C (nB.appeal B e) (NI.appeal B I e) (nZ_appeal Z e) (nG.appeal B G e).1) C.2.2.2.1 (nG.appeal B G e).2))
theorem K_pass (P : nLP g a0 k N Y S M) {x : Int32} {κ : Int32 → mM → Prop} {ξ : String → mM → Prop} (h1 : (fPass N x).1 = 1 → ξ "java/lang/IllegalArgumentException" M) (h2 : (fPass N x).1 = 2 → ξ "java/lang/IllegalStateException" M) (h : ∀ v N' Y' S' M', fPass N x = (0, v, N') → nLP g a0 k N' Y' S' M' → mFc Y S Y' S' → nSt N N' → κ v M') : m_rc M (some a0) 13 fun b => wX8_pass κ ξ (some b) x M := by
  obtain ⟨⟨H, W, Q, R⟩, ⟨e0, hs⟩, B, I, Z, G⟩ := id P
  rw [← e0]
  exact s_rc H W.x0 rfl rfl (C_pass H W Q R h1 h2 (fun v N' Y' S' M' e C => h v N' Y' S' M' e (P.c C (nB.pass B e) (NI.pass B I e) (nZ_pass Z e) (nG.pass B G e).1) C.2.2.2.1 (nG.pass B G e).2))
theorem K_ofLand (P : nLP g a0 k N Y S M) {l : Nat} (hl : l < 6) {b : Nat} (hb : b ≤ 8) {κ : Int32 → mM → Prop} {ξ : String → mM → Prop} (h : ∀ Y' S' M', nLP g a0 k N Y' S' M' → mFc Y S Y' S' → κ (vLand N l (nI b)) M') : m_rc M (some a0) 13 fun b9 => wX8_ofLand κ ξ (some b9) (nI l) (nI b) M := by
  obtain ⟨⟨H, W, Q, R⟩, ⟨e0, hs⟩, B, I, Z, G⟩ := id P
  have hbd := B.2.1
  have e : fOfLand N (nI l) (nI b) = (0, vLand N l (nI b), N) := by
    unfold fOfLand
    rw [if_neg (fun w => w (m_in (n := 6) hl (by omega))), if_neg (fun w => w ⟨nI_pos (by omega), nI_nlt (a := 8) (b := b) (by omega) (by omega)⟩), tN_nI (by omega)]
  rw [← e0]
  refine s_rc H W.x0 rfl rfl (C_ofLand H W Q R (fun z => (L_z0 e z (by decide)).elim) (fun z => (L_z0 e z (by decide)).elim) (fun v N' Y' S' M' e' C => ?_))
  rw [e] at e'
  cases e'
  exact h Y' S' M' (P.c C B I Z G) C.2.2.2.1
theorem K_ofGate (P : nLP g a0 k N Y S M) {l : Nat} (hl : l < nn N 23) {b : Nat} (hb : b ≤ 9) {κ : Int32 → mM → Prop} {ξ : String → mM → Prop} (h : ∀ Y' S' M', nLP g a0 k N Y' S' M' → mFc Y S Y' S' → κ (vGt N l (nI b)) M') : m_rc M (some a0) 13 fun b9 => wX8_ofGate κ ξ (some b9) (nI l) (nI b) M := by
  obtain ⟨⟨H, W, Q, R⟩, ⟨e0, hs⟩, B, I, Z, G⟩ := id P
  have hbd := B.2.1
  have e : fOfGate N (nI l) (nI b) = (0, vGt N l (nI b), N) := by
    unfold fOfGate
    rw [if_neg (fun w => w (m_in (n := nn N 23) hl (by omega))), if_neg (fun w => w ⟨nI_pos (by omega), nI_nlt (a := 9) (b := b) (by omega) (by omega)⟩), tN_nI (by omega)]
  rw [← e0]
  refine s_rc H W.x0 rfl rfl (C_ofGate H W Q R Z (fun z => (L_z0 e z (by decide)).elim) (fun z => (L_z0 e z (by decide)).elim) (fun v N' Y' S' M' e' C => ?_))
  rw [e] at e'
  cases e'
  exact h Y' S' M' (P.c C B I Z G) C.2.2.2.1
theorem K_ofSleeper (P : nLP g a0 k N Y S M) {l : Nat} (hl : l < nn N 28) {b : Nat} (hb : b ≤ 8) {κ : Int32 → mM → Prop} {ξ : String → mM → Prop} (h : ∀ Y' S' M', nLP g a0 k N Y' S' M' → mFc Y S Y' S' → κ (vSlp N l (nI b)) M') : m_rc M (some a0) 13 fun b9 => wX8_ofSleeper κ ξ (some b9) (nI l) (nI b) M := by
  obtain ⟨⟨H, W, Q, R⟩, ⟨e0, hs⟩, B, I, Z, G⟩ := id P
  have hbd := B.2.1
  have e : fOfSleeper N (nI l) (nI b) = (0, vSlp N l (nI b), N) := by
    unfold fOfSleeper
    rw [if_neg (fun w => w (m_in (n := nn N 28) hl (by omega))), if_neg (fun w => w ⟨nI_pos (by omega), nI_nlt (a := 8) (b := b) (by omega) (by omega)⟩), tN_nI (by omega)]
  rw [← e0]
  refine s_rc H W.x0 rfl rfl (C_ofSleeper H W Q R (fun z => (L_z0 e z (by decide)).elim) (fun z => (L_z0 e z (by decide)).elim) (fun v N' Y' S' M' e' C => ?_))
  rw [e] at e'
  cases e'
  exact h Y' S' M' (P.c C B I Z G) C.2.2.2.1
theorem K_ofPart (P : nLP g a0 k N Y S M) {l : Nat} (hl : l < nn N 29) {b : Nat} (hb : b ≤ 5) {κ : Int32 → mM → Prop} {ξ : String → mM → Prop} (h : ∀ Y' S' M', nLP g a0 k N Y' S' M' → mFc Y S Y' S' → κ (vPart N l (nI b)) M') : m_rc M (some a0) 13 fun b9 => wX8_ofPart κ ξ (some b9) (nI l) (nI b) M := by
  obtain ⟨⟨H, W, Q, R⟩, ⟨e0, hs⟩, B, I, Z, G⟩ := id P
  have hbd := B.2.1
  have e : fOfPart N (nI l) (nI b) = (0, vPart N l (nI b), N) := by
    unfold fOfPart
    rw [if_neg (fun w => w (m_in (n := nn N 29) hl (by omega))), if_neg (fun w => w ⟨nI_pos (by omega), nI_nlt (a := 5) (b := b) (by omega) (by omega)⟩), tN_nI (by omega)]
  rw [← e0]
  refine s_rc H W.x0 rfl rfl (C_ofPart H W Q R (fun z => (L_z0 e z (by decide)).elim) (fun z => (L_z0 e z (by decide)).elim) (fun v N' Y' S' M' e' C => ?_))
  rw [e] at e'
  cases e'
  exact h Y' S' M' (P.c C B I Z G) C.2.2.2.1
theorem K_night (P : nLP g a0 k N Y S M) {b : Nat} (hb : b ≤ 16) {κ : Int32 → mM → Prop} {ξ : String → mM → Prop} (h : ∀ Y' S' M', nLP g a0 k N Y' S' M' → mFc Y S Y' S' → κ (vNight N (nI b)) M') : m_rc M (some a0) 13 fun b9 => wX8_night κ ξ (some b9) (nI b) M := by
  obtain ⟨⟨H, W, Q, R⟩, ⟨e0, hs⟩, B, I, Z, G⟩ := id P
  have hbd := B.2.1
  have e : fNight N (nI b) = (0, vNight N (nI b), N) := by
    unfold fNight
    rw [if_neg (fun w => w ⟨nI_pos (by omega), nI_nlt (a := 16) (b := b) (by omega) (by omega)⟩)]
  rw [← e0]
  refine s_rc H W.x0 rfl rfl (C_night H W Q R (fun z => (L_z0 e z (by decide)).elim) (fun v N' Y' S' M' e' C => ?_))
  rw [e] at e'
  cases e'
  exact h Y' S' M' (P.c C B I Z G) C.2.2.2.1
theorem K_wouldPay (P : nLP g a0 k N Y S M) {l : Nat} (hl : l < nn N 23) {κ : Int32 → mM → Prop} {ξ : String → mM → Prop} (h : ∀ Y' S' M', nLP g a0 k N Y' S' M' → mFc Y S Y' S' → κ (vWp N l) M') : m_rc M (some a0) 13 fun b9 => wX8_wouldPay κ ξ (some b9) (nI l) M := by
  obtain ⟨⟨H, W, Q, R⟩, ⟨e0, hs⟩, B, I, Z, G⟩ := id P
  have hbd := B.2.1
  have e : fWouldPay N (nI l) = (0, vWp N l, N) := by
    unfold fWouldPay
    rw [if_neg (fun w => w (m_in (n := nn N 23) hl (by omega))), tN_nI (by omega)]
  rw [← e0]
  refine s_rc H W.x0 rfl rfl (C_wouldPay H W Q R B I (fun z => (L_z0 e z (by decide)).elim) (fun v N' Y' S' M' e' C => ?_))
  rw [e] at e'
  cases e'
  exact h Y' S' M' (P.c C B I Z G) C.2.2.2.1
theorem K_isSound (P : nLP g a0 k N Y S M) {κ : Int32 → mM → Prop} (h : κ 1 M) : m_rc M (some a0) 13 fun b => wX8_isSound κ (some b) M := by
  obtain ⟨⟨H, W, Q, R⟩, ⟨e0, hs⟩, B, I, Z, G⟩ := P
  rw [← e0]
  exact s_rc H W.x0 rfl rfl (C_isSound R H W B I h)
theorem K_digest (P : nLP g a0 k N Y S M) {κ : Int64 → mM → Prop} (h : ∀ Y' S' M', nLP g a0 k N Y' S' M' → mFc Y S Y' S' → κ (vDig N) M') : m_rc M (some a0) 13 fun b => wX8_digest κ (some b) M := by
  obtain ⟨⟨H, W, Q, R⟩, ⟨e0, hs⟩, B, I, Z, G⟩ := id P
  rw [← e0]
  exact s_rc H W.x0 rfl rfl (C_digest B I Z ⟨H, W, Q, mFc.rf Y S, R⟩ (fun Y' S' M' C => h Y' S' M' (P.c C B I Z G) C.2.2.2.1))
/-- a row of ints (38), of booleans (26), made anew -/
theorem nLP.X1 (P : nLP g a0 k N Y S M) {kk : Nat} (hk : kk = 26 ∨ kk = 38) {Y1 : mY} {S1 : mS} {M1 : mM} (H1 : mR g Y1 S1 M1) (a : mX1 Y S kk Y1 S1) : nLP g a0 k N Y1 S1 M1 := by
  obtain ⟨⟨H, W, Q, R⟩, ⟨e0, hs⟩, P'⟩ := P
  have a1 : ∀ q, q < 20 → yn Y1 q = yn Y q ∧ ∀ i, mEq S1 S q i := fun q hq => ⟨a.2.2.1 q (by omega), fun i => a.2.2.2 q i (by omega)⟩
  exact ⟨⟨H1, W.TT a1 a.1, Q.TT a1, R.TT a1⟩, ⟨(a.1 0 0 W.x0).trans e0, by rw [(a.2.2.2 33 0 (by omega)).2.2.2.2.2.2.1]; exact hs⟩, P'⟩
theorem nLP.U (P : nLP g a0 k N Y S M) {kk i : Nat} (hk : kk = 26 ∨ kk = 38) {j : Nat} {v : Int32} (H1 : mR g Y (uE S kk i j v) M') : nLP g a0 k N Y (uE S kk i j v) M' := by
  obtain ⟨⟨H, W, Q, R⟩, ⟨e0, hs⟩, P'⟩ := P
  have a1 : ∀ q, q < 20 → yn Y q = yn Y q ∧ ∀ i', mEq (uE S kk i j v) S q i' := fun q hq => ⟨rfl, fun i' => mEq.uE (by omega)⟩
  exact ⟨⟨H1, W.TT a1 (fun _ _ _ => rfl), Q.TT a1, R.TT a1⟩, ⟨e0, hs⟩, P'⟩
theorem K_row (P : nLP g a0 k N Y S M) {kk ak : Nat} (hk : (kk = 26 ∧ ak = 1) ∨ (kk = 38 ∧ ak = 0)) {n B : Nat} (hn : n < 2 ^ 31) (hB : n ≤ B) {κ : Nat → mM → Prop} (h : ∀ Y1 S1 M1 i, nLP g a0 k N Y1 S1 M1 → mX1 Y S kk Y1 S1 → i = yn Y kk → sC S1 kk i = n → sE S1 kk i = (fun _ => 0) → κ (yA Y1 kk i) M1) : m_newI M ak (nI n) B κ := by
  have H := P.1.1
  refine r_newI hn hB (fun q M1 hq h1 o1 => ?_)
  have hF := H.fr hq
  have H1 : mR g Y S M1 := H.off hF o1
  have eC : sC (uO S kk (yn Y kk) (fun _ => 0) (fun _ => 0) (fun _ => none) (fun _ => 0) [] 0 n (fun _ => 0) (fun _ => none)) kk (yn Y kk) = n := if_pos ⟨rfl, rfl⟩
  have eE : sE (uO S kk (yn Y kk) (fun _ => 0) (fun _ => 0) (fun _ => none) (fun _ => 0) [] 0 n (fun _ => 0) (fun _ => none)) kk (yn Y kk) = (fun _ => 0) := if_pos ⟨rfl, rfl⟩
  have H2 := H1.alloc (k := kk) hF (uO S kk (yn Y kk) (fun _ => 0) (fun _ => 0) (fun _ => none) (fun _ => 0) [] 0 n (fun _ => 0) (fun _ => none)) (fun k' i' hi => mEq.uO (fun z => by obtain ⟨rfl, rfl⟩ := z; exact Nat.lt_irrefl _ hi)) (by
    rw [h1]
    rcases hk with ⟨rfl, rfl⟩ | ⟨rfl, rfl⟩
    · show _ = some (Sum.inl (1, sC _ 26 (yn Y 26), Sum.inl (sE _ 26 (yn Y 26))))
      rw [eC, eE]
    · show _ = some (Sum.inl (0, sC _ 38 (yn Y 38), Sum.inl (sE _ 38 (yn Y 38))))
      rw [eC, eE]) (fun z => by rcases hk with ⟨rfl, rfl⟩ | ⟨rfl, rfl⟩ <;> exact absurd z (by decide)) (fun f t ht => by rcases hk with ⟨rfl, rfl⟩ | ⟨rfl, rfl⟩ <;> cases ht) (by omega) (by omega)
  have a : mX1 Y S kk (aY Y kk q) (uO S kk (yn Y kk) (fun _ => 0) (fun _ => 0) (fun _ => none) (fun _ => 0) [] 0 n (fun _ => 0) (fun _ => none)) := ⟨fun k' i' hi => aY_A hi, aY_n, fun k' z => aY_nn z, fun k' i' z => mEq.uO z⟩
  have hq' : yA (aY Y kk q) kk (yn Y kk) = q := aY_q
  generalize aY Y kk q = Y1 at H2 a hq'
  rw [← hq']
  exact h Y1 _ M1 _ (P.X1 (by omega) H2 a) a rfl eC eE
end LCALLS
