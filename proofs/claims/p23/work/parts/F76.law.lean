/-! L_law -/
set_option maxRecDepth 100000 in
set_option maxHeartbeats 4000000 in
theorem tL_law_1259 {p : Program} {l : Launch} {e : Env} {s : State} {m : MethodId} {args : Array Value} {below : List Frame} {meth : Method} {c : Code} {G : mG} {b0 : Nat} (C : m_C p s m args c cL_law 7 RL wsL_lawA G b0) (hr : meth.sig.returnType = (some .boolean)) (hlocks : meth.locks = false) (hL : l.stackTraces = false) (hN : m_N s) {sb L : Nat} {xs : Nat → Int32} (hS : m_scr s args b0 sb L xs) {g : Nat → Nat} (hg : G.2.2 = g) {κ : Int32 → mM → Prop} (hk9 : ∀ x M, κ x M → x = 1) {R27 : Nat → Nat → Option Nat → Option Nat → Option Nat → Option Nat → Int32 → mM → Prop} (hR27 : ∀ (k9 n9 : Nat) (l0 : Option Nat) (l1 : Option Nat) (l2 : Option Nat) (l3 : Option Nat) (l4 : Int32) (M : mM), R27 k9 n9 l0 l1 l2 l3 l4 M → m_W p l e ({ frames := 2048, cells := 601024, slots := 7293034, locals := 84000 } : Room) s m args below meth c G b0 (lw_Z below args s) 7 M k9 n9 27 [(0, va_rf l0), (1, va_rf l1), (2, va_rf l2), (3, va_rf l3), (4, .int l4)] []) {k9 n9 : Nat} {l0 : Option Nat} {l1 : Option Nat} {l2 : Option Nat} {l3 : Option Nat} {l4 : Int32} {M : mM} (h : wL_law_1259 sb L xs g κ R27 k9 n9 l0 l1 l2 l3 l4 M) : m_W p l e ({ frames := 2048, cells := 601024, slots := 7293034, locals := 84000 } : Room) s m args below meth c G b0 (lw_Z below args s) 7 M k9 n9 1259 [(0, va_rf l0), (1, va_rf l1), (2, va_rf l2), (3, va_rf l3), (4, .int l4)] [] := by
  unfold wL_law_1259 at h
  obtain ⟨hbk, h⟩ := h
  refine q_iinc (pc := 1259) C 4 4 (l4 + 5) [(4, .int (l4 + 5)), (0, va_rf l0), (1, va_rf l1), (2, va_rf l2), (3, va_rf l3)] dL_law_1259 rfl (by rfl) (by decide) (by first | rfl | simp [q_cat, q_catI, q_catJ, q_catR, q_catN]) ?_
  refine q_goto (pc := 1262) C 27 dL_law_1262 (by decide) ?_
  refine q_lv [1, 2, 3, 4, 0] rfl ?_
  exact hR27 _ _ _ _ _ _ _ _ h
set_option maxRecDepth 100000 in
set_option maxHeartbeats 4000000 in
theorem tL_law_454 {p : Program} {l : Launch} {e : Env} {s : State} {m : MethodId} {args : Array Value} {below : List Frame} {meth : Method} {c : Code} {G : mG} {b0 : Nat} (C : m_C p s m args c cL_law 7 RL wsL_lawA G b0) (hr : meth.sig.returnType = (some .boolean)) (hlocks : meth.locks = false) (hL : l.stackTraces = false) (hN : m_N s) {sb L : Nat} {xs : Nat → Int32} (hS : m_scr s args b0 sb L xs) {g : Nat → Nat} (hg : G.2.2 = g) {κ : Int32 → mM → Prop} (hk9 : ∀ x M, κ x M → x = 1) {R27 : Nat → Nat → Option Nat → Option Nat → Option Nat → Option Nat → Int32 → mM → Prop} (hR27 : ∀ (k9 n9 : Nat) (l0 : Option Nat) (l1 : Option Nat) (l2 : Option Nat) (l3 : Option Nat) (l4 : Int32) (M : mM), R27 k9 n9 l0 l1 l2 l3 l4 M → m_W p l e ({ frames := 2048, cells := 601024, slots := 7293034, locals := 84000 } : Room) s m args below meth c G b0 (lw_Z below args s) 7 M k9 n9 27 [(0, va_rf l0), (1, va_rf l1), (2, va_rf l2), (3, va_rf l3), (4, .int l4)] []) {k9 n9 : Nat} {l0 : Option Nat} {l1 : Option Nat} {l2 : Option Nat} {l3 : Option Nat} {l4 : Int32} {s0 : Int32} {s1 : Int32} {s2 : Option Nat} {M : mM} (h : wL_law_454 sb L xs g κ R27 k9 n9 l0 l1 l2 l3 l4 s0 s1 s2 M) : m_W p l e ({ frames := 2048, cells := 601024, slots := 7293034, locals := 84000 } : Room) s m args below meth c G b0 (lw_Z below args s) 7 M k9 n9 454 [(0, va_rf l0), (1, va_rf l1), (2, va_rf l2), (3, va_rf l3), (4, .int l4)] [.int s0, .int s1, va_rf s2] := by
  unfold wL_law_454 at h
  obtain ⟨hbk, h⟩ := h
  refine q_aload_n (pc := 454) C 0 0 dL_law_454 rfl rfl ?_
  refine q_iload (pc := 455) C 4 4 dL_law_455 rfl ?_
  refine q_iconst (pc := 457) C 3 dL_law_457 (by decide) ?_
  refine q_iadd (pc := 458) C dL_law_458 ?_
  refine q_sld (pc := 459) C hS h dL_law_459 (fun x1 h => ?_)
  obtain ⟨hbk, h⟩ := h
  obtain ⟨b4, fs9, hb4, hm9, h⟩ := h
  refine q_ci (pc := 460) (q_rV C (st := []) (b := b4) (kX14_sleeper l G b0 hg h) (cwV 3 C.2.2.2.2.1 (m_gapp gL_law_X14_sleeper) rfl rfl rfl (by decide +kernel) ⟨Nat.le_of_ble_eq_true rfl, Nat.le_of_ble_eq_true rfl⟩) hm9 rfl rfl rfl (by first | exact Nat.le_of_ble_eq_true rfl | (simp [q_cat, q_catI, q_catJ, q_catR, q_catN]; done)) (by rw [hb4]; first | done | rfl) dL_law_460 ⟨(by first | omega | (dsimp only; omega)), (by first | omega | (dsimp only; omega))⟩) (fun x2 M3 h => ?_)
  refine q_istore (pc := 463) C 6 [(6, .int x2), (0, va_rf l0), (1, va_rf l1), (2, va_rf l2), (3, va_rf l3), (4, .int l4)] dL_law_463 (by decide) (by first | rfl | simp [q_cat, q_catI, q_catJ, q_catR, q_catN]) ?_
  refine q_goto (pc := 465) C 1259 dL_law_465 (by decide) ?_
  refine q_lv [1, 2, 3, 4, 5] rfl ?_
  exact tL_law_1259 C hr hlocks hL hN hS hg hk9 hR27 h
set_option maxRecDepth 100000 in
set_option maxHeartbeats 4000000 in
theorem tL_law_421 {p : Program} {l : Launch} {e : Env} {s : State} {m : MethodId} {args : Array Value} {below : List Frame} {meth : Method} {c : Code} {G : mG} {b0 : Nat} (C : m_C p s m args c cL_law 7 RL wsL_lawA G b0) (hr : meth.sig.returnType = (some .boolean)) (hlocks : meth.locks = false) (hL : l.stackTraces = false) (hN : m_N s) {sb L : Nat} {xs : Nat → Int32} (hS : m_scr s args b0 sb L xs) {g : Nat → Nat} (hg : G.2.2 = g) {κ : Int32 → mM → Prop} (hk9 : ∀ x M, κ x M → x = 1) {R27 : Nat → Nat → Option Nat → Option Nat → Option Nat → Option Nat → Int32 → mM → Prop} (hR27 : ∀ (k9 n9 : Nat) (l0 : Option Nat) (l1 : Option Nat) (l2 : Option Nat) (l3 : Option Nat) (l4 : Int32) (M : mM), R27 k9 n9 l0 l1 l2 l3 l4 M → m_W p l e ({ frames := 2048, cells := 601024, slots := 7293034, locals := 84000 } : Room) s m args below meth c G b0 (lw_Z below args s) 7 M k9 n9 27 [(0, va_rf l0), (1, va_rf l1), (2, va_rf l2), (3, va_rf l3), (4, .int l4)] []) {k9 n9 : Nat} {l0 : Option Nat} {l1 : Option Nat} {l2 : Option Nat} {l3 : Option Nat} {l4 : Int32} {s0 : Int32} {s1 : Int32} {s2 : Option Nat} {M : mM} (h : wL_law_421 sb L xs g κ R27 k9 n9 l0 l1 l2 l3 l4 s0 s1 s2 M) : m_W p l e ({ frames := 2048, cells := 601024, slots := 7293034, locals := 84000 } : Room) s m args below meth c G b0 (lw_Z below args s) 7 M k9 n9 421 [(0, va_rf l0), (1, va_rf l1), (2, va_rf l2), (3, va_rf l3), (4, .int l4)] [.int s0, .int s1, va_rf s2] := by
  unfold wL_law_421 at h
  obtain ⟨hbk, h⟩ := h
  refine q_aload_n (pc := 421) C 0 0 dL_law_421 rfl rfl ?_
  refine q_iload (pc := 422) C 4 4 dL_law_422 rfl ?_
  refine q_iconst (pc := 424) C 3 dL_law_424 (by decide) ?_
  refine q_iadd (pc := 425) C dL_law_425 ?_
  refine q_sld (pc := 426) C hS h dL_law_426 (fun x1 h => ?_)
  refine q_aload_n (pc := 427) C 3 3 dL_law_427 rfl rfl ?_
  obtain ⟨hbk, h⟩ := h
  refine q_ci (pc := 428) (q_rSW C hN (st := []) (kL_sleeper l G b0 hL hg h) (vx_cwSW 5 C.2.2.2.2.1 (m_gws gL_law_L_sleeper) rfl rfl rfl (by decide +kernel) ⟨Nat.le_of_ble_eq_true rfl, Nat.le_of_ble_eq_true rfl⟩) rfl (by first | exact Nat.le_of_ble_eq_true rfl | (simp [q_cat, q_catI, q_catJ, q_catR, q_catN]; done)) rfl dL_law_428 ⟨(by first | omega | (dsimp only; omega)), (by first | omega | (dsimp only; omega))⟩) (fun x2 M3 h => ?_)
  refine q_istore (pc := 431) C 5 [(5, .int x2), (0, va_rf l0), (1, va_rf l1), (2, va_rf l2), (3, va_rf l3), (4, .int l4)] dL_law_431 (by decide) (by first | rfl | simp [q_cat, q_catI, q_catJ, q_catR, q_catN]) ?_
  refine q_aload_n (pc := 433) C 2 3 dL_law_433 rfl rfl ?_
  refine q_aload_n (pc := 434) C 0 1 dL_law_434 rfl rfl ?_
  refine q_iload (pc := 435) C 4 5 dL_law_435 rfl ?_
  refine q_iconst (pc := 437) C 1 dL_law_437 (by decide) ?_
  refine q_iadd (pc := 438) C dL_law_438 ?_
  refine q_sld (pc := 439) C hS h dL_law_439 (fun x4 h => ?_)
  refine q_aload_n (pc := 440) C 0 1 dL_law_440 rfl rfl ?_
  refine q_iload (pc := 441) C 4 5 dL_law_441 rfl ?_
  refine q_iconst (pc := 443) C 2 dL_law_443 (by decide) ?_
  refine q_iadd (pc := 444) C dL_law_444 ?_
  refine q_sld (pc := 445) C hS h dL_law_445 (fun x5 h => ?_)
  refine q_if_eq (pc := 446) C 453 dL_law_446 (by decide) (fun c6 => ?_) (fun c6 => ?_)
  · have h := h.1 c6
    refine q_iconst (pc := 453) C 0 dL_law_453 (by decide) ?_
    refine q_lv [1, 2, 3, 4, 5] rfl ?_
    exact tL_law_454 C hr hlocks hL hN hS hg hk9 hR27 h
  · have h := h.2 c6
    refine q_iconst (pc := 449) C 1 dL_law_449 (by decide) ?_
    refine q_goto (pc := 450) C 454 dL_law_450 (by decide) ?_
    refine q_lv [1, 2, 3, 4, 5] rfl ?_
    exact tL_law_454 C hr hlocks hL hN hS hg hk9 hR27 h
set_option maxRecDepth 100000 in
set_option maxHeartbeats 4000000 in
theorem tL_law_1122 {p : Program} {l : Launch} {e : Env} {s : State} {m : MethodId} {args : Array Value} {below : List Frame} {meth : Method} {c : Code} {G : mG} {b0 : Nat} (C : m_C p s m args c cL_law 7 RL wsL_lawA G b0) (hr : meth.sig.returnType = (some .boolean)) (hlocks : meth.locks = false) (hL : l.stackTraces = false) (hN : m_N s) {sb L : Nat} {xs : Nat → Int32} (hS : m_scr s args b0 sb L xs) {g : Nat → Nat} (hg : G.2.2 = g) {κ : Int32 → mM → Prop} (hk9 : ∀ x M, κ x M → x = 1) {R27 : Nat → Nat → Option Nat → Option Nat → Option Nat → Option Nat → Int32 → mM → Prop} (hR27 : ∀ (k9 n9 : Nat) (l0 : Option Nat) (l1 : Option Nat) (l2 : Option Nat) (l3 : Option Nat) (l4 : Int32) (M : mM), R27 k9 n9 l0 l1 l2 l3 l4 M → m_W p l e ({ frames := 2048, cells := 601024, slots := 7293034, locals := 84000 } : Room) s m args below meth c G b0 (lw_Z below args s) 7 M k9 n9 27 [(0, va_rf l0), (1, va_rf l1), (2, va_rf l2), (3, va_rf l3), (4, .int l4)] []) {k9 n9 : Nat} {l0 : Option Nat} {l1 : Option Nat} {l2 : Option Nat} {l3 : Option Nat} {l4 : Int32} {M : mM} (h : wL_law_1122 sb L xs g κ R27 k9 n9 l0 l1 l2 l3 l4 M) : m_W p l e ({ frames := 2048, cells := 601024, slots := 7293034, locals := 84000 } : Room) s m args below meth c G b0 (lw_Z below args s) 7 M k9 n9 1122 [(0, va_rf l0), (1, va_rf l1), (2, va_rf l2), (3, va_rf l3), (4, .int l4)] [] := by
  unfold wL_law_1122 at h
  obtain ⟨hbk, h⟩ := h
  refine q_goto (pc := 1122) C 1259 dL_law_1122 (by decide) ?_
  refine q_lv [0, 1, 2, 3, 4] rfl ?_
  exact tL_law_1259 C hr hlocks hL hN hS hg hk9 hR27 h
set_option maxRecDepth 100000 in
set_option maxHeartbeats 4000000 in
theorem tL_law_27 {p : Program} {l : Launch} {e : Env} {s : State} {m : MethodId} {args : Array Value} {below : List Frame} {meth : Method} {c : Code} {G : mG} {b0 : Nat} (C : m_C p s m args c cL_law 7 RL wsL_lawA G b0) (hr : meth.sig.returnType = (some .boolean)) (hlocks : meth.locks = false) (hL : l.stackTraces = false) (hN : m_N s) {sb L : Nat} {xs : Nat → Int32} (hS : m_scr s args b0 sb L xs) {g : Nat → Nat} (hg : G.2.2 = g) {κ : Int32 → mM → Prop} (hk9 : ∀ x M, κ x M → x = 1) : ∀ (f : Nat) (k9 n9 : Nat) (l0 : Option Nat) (l1 : Option Nat) (l2 : Option Nat) (l3 : Option Nat) (l4 : Int32) (M : mM), wL_law_27 sb L xs g κ f k9 n9 l0 l1 l2 l3 l4 M → m_W p l e ({ frames := 2048, cells := 601024, slots := 7293034, locals := 84000 } : Room) s m args below meth c G b0 (lw_Z below args s) 7 M k9 n9 27 [(0, va_rf l0), (1, va_rf l1), (2, va_rf l2), (3, va_rf l3), (4, .int l4)] [] := by
  intro f
  induction f with
  | zero =>
    intro k9 n9 l0 l1 l2 l3 l4 M h
    exact absurd h (by simp [wL_law_27])
  | succ f ih =>
    intro k9 n9 l0 l1 l2 l3 l4 M h
    rw [wL_law_27] at h
    obtain ⟨hbk, h⟩ := h
    refine q_iload (pc := 27) C 4 4 dL_law_27 rfl ?_
    refine q_aload_n (pc := 29) C 0 0 dL_law_29 rfl rfl ?_
    refine q_slen (pc := 30) C hS h dL_law_30 (fun x1 h => ?_)
    refine q_iconst (pc := 31) C 5 dL_law_31 (by decide) ?_
    refine q_isub (pc := 32) C dL_law_32 ?_
    refine q_icmp_gt (pc := 33) C 1265 dL_law_33 (by decide) (fun c2 => ?_) (fun c2 => ?_)
    · have h := h.1 c2
      refine q_iconst (pc := 1265) C 1 dL_law_1265 (by decide) ?_
      obtain ⟨hbk, h⟩ := h
      exact q_lawret (pc := 1266) C hS hr hlocks (hk9 _ _ h) dL_law_1266 (by omega) (by omega)
    · have h := h.2 c2
      refine q_aload_n (pc := 36) C 0 0 dL_law_36 rfl rfl ?_
      refine q_iload (pc := 37) C 4 4 dL_law_37 rfl ?_
      refine q_sld (pc := 39) C hS h dL_law_39 (fun x3 h => ?_)
      refine q_bipush (pc := 40) C 31 dL_law_40 (by decide) ?_
      refine q_iand (pc := 42) C dL_law_42 ?_
      by_cases c4 : (x3 &&& 31) = 0
      · have h := h.1 c4
        refine q_tableIn (pc := 43) C 164 dL_law_43 (by rw [c4]; decide) (by rw [c4]; decide) (by rw [c4]; rfl) (by decide) ?_
        refine q_aload_n (pc := 164) C 1 1 dL_law_164 rfl rfl ?_
        refine q_aload_n (pc := 165) C 0 0 dL_law_165 rfl rfl ?_
        refine q_iload (pc := 166) C 4 4 dL_law_166 rfl ?_
        refine q_iconst (pc := 168) C 1 dL_law_168 (by decide) ?_
        refine q_iadd (pc := 169) C dL_law_169 ?_
        refine q_sld (pc := 170) C hS h dL_law_170 (fun x5 h => ?_)
        refine q_aload_n (pc := 171) C 0 0 dL_law_171 rfl rfl ?_
        refine q_iload (pc := 172) C 4 4 dL_law_172 rfl ?_
        refine q_iconst (pc := 174) C 2 dL_law_174 (by decide) ?_
        refine q_iadd (pc := 175) C dL_law_175 ?_
        refine q_sld (pc := 176) C hS h dL_law_176 (fun x6 h => ?_)
        refine q_aload_n (pc := 177) C 0 0 dL_law_177 rfl rfl ?_
        refine q_iload (pc := 178) C 4 4 dL_law_178 rfl ?_
        refine q_iconst (pc := 180) C 3 dL_law_180 (by decide) ?_
        refine q_iadd (pc := 181) C dL_law_181 ?_
        refine q_sld (pc := 182) C hS h dL_law_182 (fun x7 h => ?_)
        refine q_aload_n (pc := 183) C 3 3 dL_law_183 rfl rfl ?_
        obtain ⟨hbk, h⟩ := h
        refine q_ci (pc := 184) (q_rSW C hN (st := []) (kL_land l G b0 hL h) (vx_cwSW 5 C.2.2.2.2.1 (m_gws gL_law_L_land) rfl rfl rfl (by decide +kernel) ⟨Nat.le_of_ble_eq_true rfl, Nat.le_of_ble_eq_true rfl⟩) rfl (by first | exact Nat.le_of_ble_eq_true rfl | (simp [q_cat, q_catI, q_catJ, q_catR, q_catN]; done)) rfl dL_law_184 ⟨(by first | omega | (dsimp only; omega)), (by first | omega | (dsimp only; omega))⟩) (fun x8 M9 h => ?_)
        refine q_istore (pc := 187) C 5 [(5, .int x8), (0, va_rf l0), (1, va_rf l1), (2, va_rf l2), (3, va_rf l3), (4, .int l4)] dL_law_187 (by decide) (by first | rfl | simp [q_cat, q_catI, q_catJ, q_catR, q_catN]) ?_
        refine q_aload_n (pc := 189) C 2 3 dL_law_189 rfl rfl ?_
        refine q_aload_n (pc := 190) C 0 1 dL_law_190 rfl rfl ?_
        refine q_iload (pc := 191) C 4 5 dL_law_191 rfl ?_
        refine q_iconst (pc := 193) C 1 dL_law_193 (by decide) ?_
        refine q_iadd (pc := 194) C dL_law_194 ?_
        refine q_sld (pc := 195) C hS h dL_law_195 (fun x10 h => ?_)
        refine q_aload_n (pc := 196) C 0 1 dL_law_196 rfl rfl ?_
        refine q_iload (pc := 197) C 4 5 dL_law_197 rfl ?_
        refine q_iconst (pc := 199) C 2 dL_law_199 (by decide) ?_
        refine q_iadd (pc := 200) C dL_law_200 ?_
        refine q_sld (pc := 201) C hS h dL_law_201 (fun x11 h => ?_)
        refine q_aload_n (pc := 202) C 0 1 dL_law_202 rfl rfl ?_
        refine q_iload (pc := 203) C 4 5 dL_law_203 rfl ?_
        refine q_iconst (pc := 205) C 3 dL_law_205 (by decide) ?_
        refine q_iadd (pc := 206) C dL_law_206 ?_
        refine q_sld (pc := 207) C hS h dL_law_207 (fun x12 h => ?_)
        obtain ⟨b15, fs9, hb15, hm9, h⟩ := h
        refine q_ci (pc := 208) (q_rV C (st := []) (b := b15) (kX14_land l G b0 h) (cwV 3 C.2.2.2.2.1 (m_gapp gL_law_X14_land) rfl rfl rfl (by decide +kernel) ⟨Nat.le_of_ble_eq_true rfl, Nat.le_of_ble_eq_true rfl⟩) hm9 rfl rfl rfl (by first | exact Nat.le_of_ble_eq_true rfl | (simp [q_cat, q_catI, q_catJ, q_catR, q_catN]; done)) (by rw [hb15]; first | done | rfl) dL_law_208 ⟨(by first | omega | (dsimp only; omega)), (by first | omega | (dsimp only; omega))⟩) (fun x13 M14 h => ?_)
        refine q_istore (pc := 211) C 6 [(6, .int x13), (5, .int x8), (0, va_rf l0), (1, va_rf l1), (2, va_rf l2), (3, va_rf l3), (4, .int l4)] dL_law_211 (by decide) (by first | rfl | simp [q_cat, q_catI, q_catJ, q_catR, q_catN]) ?_
        refine q_goto (pc := 213) C 1259 dL_law_213 (by decide) ?_
        refine q_lv [2, 3, 4, 5, 6] rfl ?_
        exact tL_law_1259 C hr hlocks hL hN hS hg hk9 ih h
      have h := h.2 c4
      by_cases c16 : (x3 &&& 31) = 1
      · have h := h.1 c16
        refine q_tableIn (pc := 43) C 216 dL_law_43 (by rw [c16]; decide) (by rw [c16]; decide) (by rw [c16]; rfl) (by decide) ?_
        refine q_aload_n (pc := 216) C 1 1 dL_law_216 rfl rfl ?_
        refine q_aload_n (pc := 217) C 0 0 dL_law_217 rfl rfl ?_
        refine q_iload (pc := 218) C 4 4 dL_law_218 rfl ?_
        refine q_iconst (pc := 220) C 1 dL_law_220 (by decide) ?_
        refine q_iadd (pc := 221) C dL_law_221 ?_
        refine q_sld (pc := 222) C hS h dL_law_222 (fun x17 h => ?_)
        refine q_aload_n (pc := 223) C 0 0 dL_law_223 rfl rfl ?_
        refine q_iload (pc := 224) C 4 4 dL_law_224 rfl ?_
        refine q_iconst (pc := 226) C 2 dL_law_226 (by decide) ?_
        refine q_iadd (pc := 227) C dL_law_227 ?_
        refine q_sld (pc := 228) C hS h dL_law_228 (fun x18 h => ?_)
        refine q_aload_n (pc := 229) C 0 0 dL_law_229 rfl rfl ?_
        refine q_iload (pc := 230) C 4 4 dL_law_230 rfl ?_
        refine q_iconst (pc := 232) C 3 dL_law_232 (by decide) ?_
        refine q_iadd (pc := 233) C dL_law_233 ?_
        refine q_sld (pc := 234) C hS h dL_law_234 (fun x19 h => ?_)
        refine q_aload_n (pc := 235) C 3 3 dL_law_235 rfl rfl ?_
        obtain ⟨hbk, h⟩ := h
        refine q_ci (pc := 236) (q_rSW C hN (st := []) (kL_trade l G b0 hL h) (vx_cwSW 5 C.2.2.2.2.1 (m_gws gL_law_L_trade) rfl rfl rfl (by decide +kernel) ⟨Nat.le_of_ble_eq_true rfl, Nat.le_of_ble_eq_true rfl⟩) rfl (by first | exact Nat.le_of_ble_eq_true rfl | (simp [q_cat, q_catI, q_catJ, q_catR, q_catN]; done)) rfl dL_law_236 ⟨(by first | omega | (dsimp only; omega)), (by first | omega | (dsimp only; omega))⟩) (fun x20 M21 h => ?_)
        refine q_istore (pc := 239) C 5 [(5, .int x20), (0, va_rf l0), (1, va_rf l1), (2, va_rf l2), (3, va_rf l3), (4, .int l4)] dL_law_239 (by decide) (by first | rfl | simp [q_cat, q_catI, q_catJ, q_catR, q_catN]) ?_
        refine q_aload_n (pc := 241) C 2 3 dL_law_241 rfl rfl ?_
        refine q_aload_n (pc := 242) C 0 1 dL_law_242 rfl rfl ?_
        refine q_iload (pc := 243) C 4 5 dL_law_243 rfl ?_
        refine q_iconst (pc := 245) C 1 dL_law_245 (by decide) ?_
        refine q_iadd (pc := 246) C dL_law_246 ?_
        refine q_sld (pc := 247) C hS h dL_law_247 (fun x22 h => ?_)
        refine q_aload_n (pc := 248) C 0 1 dL_law_248 rfl rfl ?_
        refine q_iload (pc := 249) C 4 5 dL_law_249 rfl ?_
        refine q_iconst (pc := 251) C 2 dL_law_251 (by decide) ?_
        refine q_iadd (pc := 252) C dL_law_252 ?_
        refine q_sld (pc := 253) C hS h dL_law_253 (fun x23 h => ?_)
        refine q_aload_n (pc := 254) C 0 1 dL_law_254 rfl rfl ?_
        refine q_iload (pc := 255) C 4 5 dL_law_255 rfl ?_
        refine q_iconst (pc := 257) C 3 dL_law_257 (by decide) ?_
        refine q_iadd (pc := 258) C dL_law_258 ?_
        refine q_sld (pc := 259) C hS h dL_law_259 (fun x24 h => ?_)
        obtain ⟨b27, fs9, hb27, hm9, h⟩ := h
        refine q_ci (pc := 260) (q_rV C (st := []) (b := b27) (kX14_trade l G b0 h) (cwV 3 C.2.2.2.2.1 (m_gapp gL_law_X14_trade) rfl rfl rfl (by decide +kernel) ⟨Nat.le_of_ble_eq_true rfl, Nat.le_of_ble_eq_true rfl⟩) hm9 rfl rfl rfl (by first | exact Nat.le_of_ble_eq_true rfl | (simp [q_cat, q_catI, q_catJ, q_catR, q_catN]; done)) (by rw [hb27]; first | done | rfl) dL_law_260 ⟨(by first | omega | (dsimp only; omega)), (by first | omega | (dsimp only; omega))⟩) (fun x25 M26 h => ?_)
        refine q_istore (pc := 263) C 6 [(6, .int x25), (5, .int x20), (0, va_rf l0), (1, va_rf l1), (2, va_rf l2), (3, va_rf l3), (4, .int l4)] dL_law_263 (by decide) (by first | rfl | simp [q_cat, q_catI, q_catJ, q_catR, q_catN]) ?_
        refine q_goto (pc := 265) C 1259 dL_law_265 (by decide) ?_
        refine q_lv [2, 3, 4, 5, 6] rfl ?_
        exact tL_law_1259 C hr hlocks hL hN hS hg hk9 ih h
      have h := h.2 c16
      by_cases c28 : (x3 &&& 31) = 2
      · have h := h.1 c28
        refine q_tableIn (pc := 43) C 268 dL_law_43 (by rw [c28]; decide) (by rw [c28]; decide) (by rw [c28]; rfl) (by decide) ?_
        refine q_aload_n (pc := 268) C 1 1 dL_law_268 rfl rfl ?_
        refine q_aload_n (pc := 269) C 0 0 dL_law_269 rfl rfl ?_
        refine q_iload (pc := 270) C 4 4 dL_law_270 rfl ?_
        refine q_iconst (pc := 272) C 1 dL_law_272 (by decide) ?_
        refine q_iadd (pc := 273) C dL_law_273 ?_
        refine q_sld (pc := 274) C hS h dL_law_274 (fun x29 h => ?_)
        refine q_aload_n (pc := 275) C 0 0 dL_law_275 rfl rfl ?_
        refine q_iload (pc := 276) C 4 4 dL_law_276 rfl ?_
        refine q_iconst (pc := 278) C 2 dL_law_278 (by decide) ?_
        refine q_iadd (pc := 279) C dL_law_279 ?_
        refine q_sld (pc := 280) C hS h dL_law_280 (fun x30 h => ?_)
        refine q_aload_n (pc := 281) C 0 0 dL_law_281 rfl rfl ?_
        refine q_iload (pc := 282) C 4 4 dL_law_282 rfl ?_
        refine q_iconst (pc := 284) C 3 dL_law_284 (by decide) ?_
        refine q_iadd (pc := 285) C dL_law_285 ?_
        refine q_sld (pc := 286) C hS h dL_law_286 (fun x31 h => ?_)
        refine q_aload_n (pc := 287) C 0 0 dL_law_287 rfl rfl ?_
        refine q_iload (pc := 288) C 4 4 dL_law_288 rfl ?_
        refine q_iconst (pc := 290) C 4 dL_law_290 (by decide) ?_
        refine q_iadd (pc := 291) C dL_law_291 ?_
        refine q_sld (pc := 292) C hS h dL_law_292 (fun x32 h => ?_)
        refine q_aload_n (pc := 293) C 3 3 dL_law_293 rfl rfl ?_
        obtain ⟨hbk, h⟩ := h
        refine q_ci (pc := 294) (q_rSW C hN (st := []) (kL_gate l G b0 hL hg h) (vx_cwSW 6 C.2.2.2.2.1 (m_gws gL_law_L_gate) rfl rfl rfl (by decide +kernel) ⟨Nat.le_of_ble_eq_true rfl, Nat.le_of_ble_eq_true rfl⟩) rfl (by first | exact Nat.le_of_ble_eq_true rfl | (simp [q_cat, q_catI, q_catJ, q_catR, q_catN]; done)) rfl dL_law_294 ⟨(by first | omega | (dsimp only; omega)), (by first | omega | (dsimp only; omega))⟩) (fun x33 M34 h => ?_)
        refine q_istore (pc := 297) C 5 [(5, .int x33), (0, va_rf l0), (1, va_rf l1), (2, va_rf l2), (3, va_rf l3), (4, .int l4)] dL_law_297 (by decide) (by first | rfl | simp [q_cat, q_catI, q_catJ, q_catR, q_catN]) ?_
        refine q_aload_n (pc := 299) C 2 3 dL_law_299 rfl rfl ?_
        refine q_aload_n (pc := 300) C 0 1 dL_law_300 rfl rfl ?_
        refine q_iload (pc := 301) C 4 5 dL_law_301 rfl ?_
        refine q_iconst (pc := 303) C 1 dL_law_303 (by decide) ?_
        refine q_iadd (pc := 304) C dL_law_304 ?_
        refine q_sld (pc := 305) C hS h dL_law_305 (fun x35 h => ?_)
        refine q_aload_n (pc := 306) C 0 1 dL_law_306 rfl rfl ?_
        refine q_iload (pc := 307) C 4 5 dL_law_307 rfl ?_
        refine q_iconst (pc := 309) C 2 dL_law_309 (by decide) ?_
        refine q_iadd (pc := 310) C dL_law_310 ?_
        refine q_sld (pc := 311) C hS h dL_law_311 (fun x36 h => ?_)
        refine q_aload_n (pc := 312) C 0 1 dL_law_312 rfl rfl ?_
        refine q_iload (pc := 313) C 4 5 dL_law_313 rfl ?_
        refine q_iconst (pc := 315) C 3 dL_law_315 (by decide) ?_
        refine q_iadd (pc := 316) C dL_law_316 ?_
        refine q_sld (pc := 317) C hS h dL_law_317 (fun x37 h => ?_)
        refine q_aload_n (pc := 318) C 0 1 dL_law_318 rfl rfl ?_
        refine q_iload (pc := 319) C 4 5 dL_law_319 rfl ?_
        refine q_iconst (pc := 321) C 4 dL_law_321 (by decide) ?_
        refine q_iadd (pc := 322) C dL_law_322 ?_
        refine q_sld (pc := 323) C hS h dL_law_323 (fun x38 h => ?_)
        obtain ⟨hbk, h⟩ := h
        obtain ⟨b41, fs9, hb41, hm9, h⟩ := h
        refine q_ci (pc := 324) (q_rV C (st := []) (b := b41) (kX14_gate l G b0 hg h) (cwV 4 C.2.2.2.2.1 (m_gapp gL_law_X14_gate) rfl rfl rfl (by decide +kernel) ⟨Nat.le_of_ble_eq_true rfl, Nat.le_of_ble_eq_true rfl⟩) hm9 rfl rfl rfl (by first | exact Nat.le_of_ble_eq_true rfl | (simp [q_cat, q_catI, q_catJ, q_catR, q_catN]; done)) (by rw [hb41]; first | done | rfl) dL_law_324 ⟨(by first | omega | (dsimp only; omega)), (by first | omega | (dsimp only; omega))⟩) (fun x39 M40 h => ?_)
        refine q_istore (pc := 327) C 6 [(6, .int x39), (5, .int x33), (0, va_rf l0), (1, va_rf l1), (2, va_rf l2), (3, va_rf l3), (4, .int l4)] dL_law_327 (by decide) (by first | rfl | simp [q_cat, q_catI, q_catJ, q_catR, q_catN]) ?_
        refine q_goto (pc := 329) C 1259 dL_law_329 (by decide) ?_
        refine q_lv [2, 3, 4, 5, 6] rfl ?_
        exact tL_law_1259 C hr hlocks hL hN hS hg hk9 ih h
      have h := h.2 c28
      by_cases c42 : (x3 &&& 31) = 3
      · have h := h.1 c42
        refine q_tableIn (pc := 43) C 332 dL_law_43 (by rw [c42]; decide) (by rw [c42]; decide) (by rw [c42]; rfl) (by decide) ?_
        refine q_aload_n (pc := 332) C 1 1 dL_law_332 rfl rfl ?_
        refine q_aload_n (pc := 333) C 0 0 dL_law_333 rfl rfl ?_
        refine q_iload (pc := 334) C 4 4 dL_law_334 rfl ?_
        refine q_iconst (pc := 336) C 1 dL_law_336 (by decide) ?_
        refine q_iadd (pc := 337) C dL_law_337 ?_
        refine q_sld (pc := 338) C hS h dL_law_338 (fun x43 h => ?_)
        refine q_aload_n (pc := 339) C 0 0 dL_law_339 rfl rfl ?_
        refine q_iload (pc := 340) C 4 4 dL_law_340 rfl ?_
        refine q_iconst (pc := 342) C 2 dL_law_342 (by decide) ?_
        refine q_iadd (pc := 343) C dL_law_343 ?_
        refine q_sld (pc := 344) C hS h dL_law_344 (fun x44 h => ?_)
        refine q_aload_n (pc := 345) C 3 3 dL_law_345 rfl rfl ?_
        obtain ⟨hbk, h⟩ := h
        refine q_ci (pc := 346) (q_rSW C hN (st := []) (kL_odds l G b0 hL h) (vx_cwSW 4 C.2.2.2.2.1 (m_gws gL_law_L_odds) rfl rfl rfl (by decide +kernel) ⟨Nat.le_of_ble_eq_true rfl, Nat.le_of_ble_eq_true rfl⟩) rfl (by first | exact Nat.le_of_ble_eq_true rfl | (simp [q_cat, q_catI, q_catJ, q_catR, q_catN]; done)) rfl dL_law_346 ⟨(by first | omega | (dsimp only; omega)), (by first | omega | (dsimp only; omega))⟩) (fun x45 M46 h => ?_)
        refine q_istore (pc := 349) C 5 [(5, .int x45), (0, va_rf l0), (1, va_rf l1), (2, va_rf l2), (3, va_rf l3), (4, .int l4)] dL_law_349 (by decide) (by first | rfl | simp [q_cat, q_catI, q_catJ, q_catR, q_catN]) ?_
        refine q_aload_n (pc := 351) C 2 3 dL_law_351 rfl rfl ?_
        refine q_aload_n (pc := 352) C 0 1 dL_law_352 rfl rfl ?_
        refine q_iload (pc := 353) C 4 5 dL_law_353 rfl ?_
        refine q_iconst (pc := 355) C 1 dL_law_355 (by decide) ?_
        refine q_iadd (pc := 356) C dL_law_356 ?_
        refine q_sld (pc := 357) C hS h dL_law_357 (fun x47 h => ?_)
        refine q_aload_n (pc := 358) C 0 1 dL_law_358 rfl rfl ?_
        refine q_iload (pc := 359) C 4 5 dL_law_359 rfl ?_
        refine q_iconst (pc := 361) C 2 dL_law_361 (by decide) ?_
        refine q_iadd (pc := 362) C dL_law_362 ?_
        refine q_sld (pc := 363) C hS h dL_law_363 (fun x48 h => ?_)
        obtain ⟨b51, fs9, hb51, hm9, h⟩ := h
        refine q_ci (pc := 364) (q_rV C (st := []) (b := b51) (kX14_odds l G b0 h) (cwV 2 C.2.2.2.2.1 (m_gapp gL_law_X14_odds) rfl rfl rfl (by decide +kernel) ⟨Nat.le_of_ble_eq_true rfl, Nat.le_of_ble_eq_true rfl⟩) hm9 rfl rfl rfl (by first | exact Nat.le_of_ble_eq_true rfl | (simp [q_cat, q_catI, q_catJ, q_catR, q_catN]; done)) (by rw [hb51]; first | done | rfl) dL_law_364 ⟨(by first | omega | (dsimp only; omega)), (by first | omega | (dsimp only; omega))⟩) (fun x49 M50 h => ?_)
        refine q_istore (pc := 367) C 6 [(6, .int x49), (5, .int x45), (0, va_rf l0), (1, va_rf l1), (2, va_rf l2), (3, va_rf l3), (4, .int l4)] dL_law_367 (by decide) (by first | rfl | simp [q_cat, q_catI, q_catJ, q_catR, q_catN]) ?_
        refine q_goto (pc := 369) C 1259 dL_law_369 (by decide) ?_
        refine q_lv [2, 3, 4, 5, 6] rfl ?_
        exact tL_law_1259 C hr hlocks hL hN hS hg hk9 ih h
      have h := h.2 c42
      by_cases c52 : (x3 &&& 31) = 4
      · have h := h.1 c52
        refine q_tableIn (pc := 43) C 372 dL_law_43 (by rw [c52]; decide) (by rw [c52]; decide) (by rw [c52]; rfl) (by decide) ?_
        refine q_aload_n (pc := 372) C 1 1 dL_law_372 rfl rfl ?_
        refine q_aload_n (pc := 373) C 0 0 dL_law_373 rfl rfl ?_
        refine q_iload (pc := 374) C 4 4 dL_law_374 rfl ?_
        refine q_iconst (pc := 376) C 1 dL_law_376 (by decide) ?_
        refine q_iadd (pc := 377) C dL_law_377 ?_
        refine q_sld (pc := 378) C hS h dL_law_378 (fun x53 h => ?_)
        refine q_aload_n (pc := 379) C 3 3 dL_law_379 rfl rfl ?_
        obtain ⟨hbk, h⟩ := h
        refine q_ci (pc := 380) (q_rSW C hN (st := []) (kL_relieve l G b0 hL h) (vx_cwSW 3 C.2.2.2.2.1 (m_gws gL_law_L_relieve) rfl rfl rfl (by decide +kernel) ⟨Nat.le_of_ble_eq_true rfl, Nat.le_of_ble_eq_true rfl⟩) rfl (by first | exact Nat.le_of_ble_eq_true rfl | (simp [q_cat, q_catI, q_catJ, q_catR, q_catN]; done)) rfl dL_law_380 ⟨(by first | omega | (dsimp only; omega)), (by first | omega | (dsimp only; omega))⟩) (fun x54 M55 h => ?_)
        refine q_istore (pc := 383) C 5 [(5, .int x54), (0, va_rf l0), (1, va_rf l1), (2, va_rf l2), (3, va_rf l3), (4, .int l4)] dL_law_383 (by decide) (by first | rfl | simp [q_cat, q_catI, q_catJ, q_catR, q_catN]) ?_
        refine q_aload_n (pc := 385) C 2 3 dL_law_385 rfl rfl ?_
        refine q_aload_n (pc := 386) C 0 1 dL_law_386 rfl rfl ?_
        refine q_iload (pc := 387) C 4 5 dL_law_387 rfl ?_
        refine q_iconst (pc := 389) C 1 dL_law_389 (by decide) ?_
        refine q_iadd (pc := 390) C dL_law_390 ?_
        refine q_sld (pc := 391) C hS h dL_law_391 (fun x56 h => ?_)
        obtain ⟨b59, fs9, hb59, hm9, h⟩ := h
        refine q_ci (pc := 392) (q_rV C (st := []) (b := b59) (kX14_relieve l G b0 h) (cwV 1 C.2.2.2.2.1 (m_gapp gL_law_X14_relieve) rfl rfl rfl (by decide +kernel) ⟨Nat.le_of_ble_eq_true rfl, Nat.le_of_ble_eq_true rfl⟩) hm9 rfl rfl rfl (by first | exact Nat.le_of_ble_eq_true rfl | (simp [q_cat, q_catI, q_catJ, q_catR, q_catN]; done)) (by rw [hb59]; first | done | rfl) dL_law_392 ⟨(by first | omega | (dsimp only; omega)), (by first | omega | (dsimp only; omega))⟩) (fun x57 M58 h => ?_)
        refine q_istore (pc := 395) C 6 [(6, .int x57), (5, .int x54), (0, va_rf l0), (1, va_rf l1), (2, va_rf l2), (3, va_rf l3), (4, .int l4)] dL_law_395 (by decide) (by first | rfl | simp [q_cat, q_catI, q_catJ, q_catR, q_catN]) ?_
        refine q_goto (pc := 397) C 1259 dL_law_397 (by decide) ?_
        refine q_lv [2, 3, 4, 5, 6] rfl ?_
        exact tL_law_1259 C hr hlocks hL hN hS hg hk9 ih h
      have h := h.2 c52
      by_cases c60 : (x3 &&& 31) = 5
      · have h := h.1 c60
        refine q_tableIn (pc := 43) C 400 dL_law_43 (by rw [c60]; decide) (by rw [c60]; decide) (by rw [c60]; rfl) (by decide) ?_
        refine q_aload_n (pc := 400) C 1 1 dL_law_400 rfl rfl ?_
        refine q_aload_n (pc := 401) C 0 0 dL_law_401 rfl rfl ?_
        refine q_iload (pc := 402) C 4 4 dL_law_402 rfl ?_
        refine q_iconst (pc := 404) C 1 dL_law_404 (by decide) ?_
        refine q_iadd (pc := 405) C dL_law_405 ?_
        refine q_sld (pc := 406) C hS h dL_law_406 (fun x61 h => ?_)
        refine q_aload_n (pc := 407) C 0 0 dL_law_407 rfl rfl ?_
        refine q_iload (pc := 408) C 4 4 dL_law_408 rfl ?_
        refine q_iconst (pc := 410) C 2 dL_law_410 (by decide) ?_
        refine q_iadd (pc := 411) C dL_law_411 ?_
        refine q_sld (pc := 412) C hS h dL_law_412 (fun x62 h => ?_)
        refine q_if_eq (pc := 413) C 420 dL_law_413 (by decide) (fun c63 => ?_) (fun c63 => ?_)
        · have h := h.1 c63
          refine q_iconst (pc := 420) C 0 dL_law_420 (by decide) ?_
          refine q_lv [0, 1, 2, 3, 4] rfl ?_
          exact tL_law_421 C hr hlocks hL hN hS hg hk9 ih h
        · have h := h.2 c63
          refine q_iconst (pc := 416) C 1 dL_law_416 (by decide) ?_
          refine q_goto (pc := 417) C 421 dL_law_417 (by decide) ?_
          refine q_lv [0, 1, 2, 3, 4] rfl ?_
          exact tL_law_421 C hr hlocks hL hN hS hg hk9 ih h
      have h := h.2 c60
      by_cases c64 : (x3 &&& 31) = 6
      · have h := h.1 c64
        refine q_tableIn (pc := 43) C 468 dL_law_43 (by rw [c64]; decide) (by rw [c64]; decide) (by rw [c64]; rfl) (by decide) ?_
        refine q_aload_n (pc := 468) C 1 1 dL_law_468 rfl rfl ?_
        refine q_aload_n (pc := 469) C 0 0 dL_law_469 rfl rfl ?_
        refine q_iload (pc := 470) C 4 4 dL_law_470 rfl ?_
        refine q_iconst (pc := 472) C 1 dL_law_472 (by decide) ?_
        refine q_iadd (pc := 473) C dL_law_473 ?_
        refine q_sld (pc := 474) C hS h dL_law_474 (fun x65 h => ?_)
        refine q_aload_n (pc := 475) C 0 0 dL_law_475 rfl rfl ?_
        refine q_iload (pc := 476) C 4 4 dL_law_476 rfl ?_
        refine q_iconst (pc := 478) C 2 dL_law_478 (by decide) ?_
        refine q_iadd (pc := 479) C dL_law_479 ?_
        refine q_sld (pc := 480) C hS h dL_law_480 (fun x66 h => ?_)
        refine q_aload_n (pc := 481) C 0 0 dL_law_481 rfl rfl ?_
        refine q_iload (pc := 482) C 4 4 dL_law_482 rfl ?_
        refine q_iconst (pc := 484) C 3 dL_law_484 (by decide) ?_
        refine q_iadd (pc := 485) C dL_law_485 ?_
        refine q_sld (pc := 486) C hS h dL_law_486 (fun x67 h => ?_)
        refine q_aload_n (pc := 487) C 0 0 dL_law_487 rfl rfl ?_
        refine q_iload (pc := 488) C 4 4 dL_law_488 rfl ?_
        refine q_iconst (pc := 490) C 4 dL_law_490 (by decide) ?_
        refine q_iadd (pc := 491) C dL_law_491 ?_
        refine q_sld (pc := 492) C hS h dL_law_492 (fun x68 h => ?_)
        refine q_aload_n (pc := 493) C 3 3 dL_law_493 rfl rfl ?_
        obtain ⟨hbk, h⟩ := h
        refine q_ci (pc := 494) (q_rSW C hN (st := []) (kL_part l G b0 hL hg h) (vx_cwSW 6 C.2.2.2.2.1 (m_gws gL_law_L_part) rfl rfl rfl (by decide +kernel) ⟨Nat.le_of_ble_eq_true rfl, Nat.le_of_ble_eq_true rfl⟩) rfl (by first | exact Nat.le_of_ble_eq_true rfl | (simp [q_cat, q_catI, q_catJ, q_catR, q_catN]; done)) rfl dL_law_494 ⟨(by first | omega | (dsimp only; omega)), (by first | omega | (dsimp only; omega))⟩) (fun x69 M70 h => ?_)
        refine q_istore (pc := 497) C 5 [(5, .int x69), (0, va_rf l0), (1, va_rf l1), (2, va_rf l2), (3, va_rf l3), (4, .int l4)] dL_law_497 (by decide) (by first | rfl | simp [q_cat, q_catI, q_catJ, q_catR, q_catN]) ?_
        refine q_aload_n (pc := 499) C 2 3 dL_law_499 rfl rfl ?_
        refine q_aload_n (pc := 500) C 0 1 dL_law_500 rfl rfl ?_
        refine q_iload (pc := 501) C 4 5 dL_law_501 rfl ?_
        refine q_iconst (pc := 503) C 1 dL_law_503 (by decide) ?_
        refine q_iadd (pc := 504) C dL_law_504 ?_
        refine q_sld (pc := 505) C hS h dL_law_505 (fun x71 h => ?_)
        refine q_aload_n (pc := 506) C 0 1 dL_law_506 rfl rfl ?_
        refine q_iload (pc := 507) C 4 5 dL_law_507 rfl ?_
        refine q_iconst (pc := 509) C 2 dL_law_509 (by decide) ?_
        refine q_iadd (pc := 510) C dL_law_510 ?_
        refine q_sld (pc := 511) C hS h dL_law_511 (fun x72 h => ?_)
        refine q_aload_n (pc := 512) C 0 1 dL_law_512 rfl rfl ?_
        refine q_iload (pc := 513) C 4 5 dL_law_513 rfl ?_
        refine q_iconst (pc := 515) C 3 dL_law_515 (by decide) ?_
        refine q_iadd (pc := 516) C dL_law_516 ?_
        refine q_sld (pc := 517) C hS h dL_law_517 (fun x73 h => ?_)
        refine q_aload_n (pc := 518) C 0 1 dL_law_518 rfl rfl ?_
        refine q_iload (pc := 519) C 4 5 dL_law_519 rfl ?_
        refine q_iconst (pc := 521) C 4 dL_law_521 (by decide) ?_
        refine q_iadd (pc := 522) C dL_law_522 ?_
        refine q_sld (pc := 523) C hS h dL_law_523 (fun x74 h => ?_)
        obtain ⟨hbk, h⟩ := h
        obtain ⟨b77, fs9, hb77, hm9, h⟩ := h
        refine q_ci (pc := 524) (q_rV C (st := []) (b := b77) (kX14_part l G b0 hg h) (cwV 4 C.2.2.2.2.1 (m_gapp gL_law_X14_part) rfl rfl rfl (by decide +kernel) ⟨Nat.le_of_ble_eq_true rfl, Nat.le_of_ble_eq_true rfl⟩) hm9 rfl rfl rfl (by first | exact Nat.le_of_ble_eq_true rfl | (simp [q_cat, q_catI, q_catJ, q_catR, q_catN]; done)) (by rw [hb77]; first | done | rfl) dL_law_524 ⟨(by first | omega | (dsimp only; omega)), (by first | omega | (dsimp only; omega))⟩) (fun x75 M76 h => ?_)
        refine q_istore (pc := 527) C 6 [(6, .int x75), (5, .int x69), (0, va_rf l0), (1, va_rf l1), (2, va_rf l2), (3, va_rf l3), (4, .int l4)] dL_law_527 (by decide) (by first | rfl | simp [q_cat, q_catI, q_catJ, q_catR, q_catN]) ?_
        refine q_goto (pc := 529) C 1259 dL_law_529 (by decide) ?_
        refine q_lv [2, 3, 4, 5, 6] rfl ?_
        exact tL_law_1259 C hr hlocks hL hN hS hg hk9 ih h
      have h := h.2 c64
      by_cases c78 : (x3 &&& 31) = 7
      · have h := h.1 c78
        refine q_tableIn (pc := 43) C 532 dL_law_43 (by rw [c78]; decide) (by rw [c78]; decide) (by rw [c78]; rfl) (by decide) ?_
        refine q_aload_n (pc := 532) C 1 1 dL_law_532 rfl rfl ?_
        refine q_aload_n (pc := 533) C 0 0 dL_law_533 rfl rfl ?_
        refine q_iload (pc := 534) C 4 4 dL_law_534 rfl ?_
        refine q_iconst (pc := 536) C 1 dL_law_536 (by decide) ?_
        refine q_iadd (pc := 537) C dL_law_537 ?_
        refine q_sld (pc := 538) C hS h dL_law_538 (fun x79 h => ?_)
        refine q_aload_n (pc := 539) C 0 0 dL_law_539 rfl rfl ?_
        refine q_iload (pc := 540) C 4 4 dL_law_540 rfl ?_
        refine q_iconst (pc := 542) C 2 dL_law_542 (by decide) ?_
        refine q_iadd (pc := 543) C dL_law_543 ?_
        refine q_sld (pc := 544) C hS h dL_law_544 (fun x80 h => ?_)
        refine q_aload_n (pc := 545) C 3 3 dL_law_545 rfl rfl ?_
        obtain ⟨hbk, h⟩ := h
        refine q_ci (pc := 546) (q_rSW C hN (st := []) (kL_give l G b0 hL h) (vx_cwSW 4 C.2.2.2.2.1 (m_gws gL_law_L_give) rfl rfl rfl (by decide +kernel) ⟨Nat.le_of_ble_eq_true rfl, Nat.le_of_ble_eq_true rfl⟩) rfl (by first | exact Nat.le_of_ble_eq_true rfl | (simp [q_cat, q_catI, q_catJ, q_catR, q_catN]; done)) rfl dL_law_546 ⟨(by first | omega | (dsimp only; omega)), (by first | omega | (dsimp only; omega))⟩) (fun x81 M82 h => ?_)
        refine q_istore (pc := 549) C 5 [(5, .int x81), (0, va_rf l0), (1, va_rf l1), (2, va_rf l2), (3, va_rf l3), (4, .int l4)] dL_law_549 (by decide) (by first | rfl | simp [q_cat, q_catI, q_catJ, q_catR, q_catN]) ?_
        refine q_aload_n (pc := 551) C 2 3 dL_law_551 rfl rfl ?_
        refine q_aload_n (pc := 552) C 0 1 dL_law_552 rfl rfl ?_
        refine q_iload (pc := 553) C 4 5 dL_law_553 rfl ?_
        refine q_iconst (pc := 555) C 1 dL_law_555 (by decide) ?_
        refine q_iadd (pc := 556) C dL_law_556 ?_
        refine q_sld (pc := 557) C hS h dL_law_557 (fun x83 h => ?_)
        refine q_aload_n (pc := 558) C 0 1 dL_law_558 rfl rfl ?_
        refine q_iload (pc := 559) C 4 5 dL_law_559 rfl ?_
        refine q_iconst (pc := 561) C 2 dL_law_561 (by decide) ?_
        refine q_iadd (pc := 562) C dL_law_562 ?_
        refine q_sld (pc := 563) C hS h dL_law_563 (fun x84 h => ?_)
        obtain ⟨b87, fs9, hb87, hm9, h⟩ := h
        refine q_ci (pc := 564) (q_rV C (st := []) (b := b87) (kX14_give l G b0 h) (cwV 2 C.2.2.2.2.1 (m_gapp gL_law_X14_give) rfl rfl rfl (by decide +kernel) ⟨Nat.le_of_ble_eq_true rfl, Nat.le_of_ble_eq_true rfl⟩) hm9 rfl rfl rfl (by first | exact Nat.le_of_ble_eq_true rfl | (simp [q_cat, q_catI, q_catJ, q_catR, q_catN]; done)) (by rw [hb87]; first | done | rfl) dL_law_564 ⟨(by first | omega | (dsimp only; omega)), (by first | omega | (dsimp only; omega))⟩) (fun x85 M86 h => ?_)
        refine q_istore (pc := 567) C 6 [(6, .int x85), (5, .int x81), (0, va_rf l0), (1, va_rf l1), (2, va_rf l2), (3, va_rf l3), (4, .int l4)] dL_law_567 (by decide) (by first | rfl | simp [q_cat, q_catI, q_catJ, q_catR, q_catN]) ?_
        refine q_goto (pc := 569) C 1259 dL_law_569 (by decide) ?_
        refine q_lv [2, 3, 4, 5, 6] rfl ?_
        exact tL_law_1259 C hr hlocks hL hN hS hg hk9 ih h
      have h := h.2 c78
      by_cases c88 : (x3 &&& 31) = 8
      · have h := h.1 c88
        refine q_tableIn (pc := 43) C 572 dL_law_43 (by rw [c88]; decide) (by rw [c88]; decide) (by rw [c88]; rfl) (by decide) ?_
        refine q_aload_n (pc := 572) C 1 1 dL_law_572 rfl rfl ?_
        refine q_aload_n (pc := 573) C 0 0 dL_law_573 rfl rfl ?_
        refine q_iload (pc := 574) C 4 4 dL_law_574 rfl ?_
        refine q_iconst (pc := 576) C 1 dL_law_576 (by decide) ?_
        refine q_iadd (pc := 577) C dL_law_577 ?_
        refine q_sld (pc := 578) C hS h dL_law_578 (fun x89 h => ?_)
        refine q_aload_n (pc := 579) C 0 0 dL_law_579 rfl rfl ?_
        refine q_iload (pc := 580) C 4 4 dL_law_580 rfl ?_
        refine q_iconst (pc := 582) C 2 dL_law_582 (by decide) ?_
        refine q_iadd (pc := 583) C dL_law_583 ?_
        refine q_sld (pc := 584) C hS h dL_law_584 (fun x90 h => ?_)
        refine q_aload_n (pc := 585) C 0 0 dL_law_585 rfl rfl ?_
        refine q_iload (pc := 586) C 4 4 dL_law_586 rfl ?_
        refine q_iconst (pc := 588) C 3 dL_law_588 (by decide) ?_
        refine q_iadd (pc := 589) C dL_law_589 ?_
        refine q_sld (pc := 590) C hS h dL_law_590 (fun x91 h => ?_)
        refine q_aload_n (pc := 591) C 0 0 dL_law_591 rfl rfl ?_
        refine q_iload (pc := 592) C 4 4 dL_law_592 rfl ?_
        refine q_iconst (pc := 594) C 4 dL_law_594 (by decide) ?_
        refine q_iadd (pc := 595) C dL_law_595 ?_
        refine q_sld (pc := 596) C hS h dL_law_596 (fun x92 h => ?_)
        refine q_aload_n (pc := 597) C 3 3 dL_law_597 rfl rfl ?_
        obtain ⟨hbk, h⟩ := h
        refine q_ci (pc := 598) (q_rSW C hN (st := []) (kL_sing l G b0 hL h) (vx_cwSW 6 C.2.2.2.2.1 (m_gws gL_law_L_sing) rfl rfl rfl (by decide +kernel) ⟨Nat.le_of_ble_eq_true rfl, Nat.le_of_ble_eq_true rfl⟩) rfl (by first | exact Nat.le_of_ble_eq_true rfl | (simp [q_cat, q_catI, q_catJ, q_catR, q_catN]; done)) rfl dL_law_598 ⟨(by first | omega | (dsimp only; omega)), (by first | omega | (dsimp only; omega))⟩) (fun x93 M94 h => ?_)
        refine q_istore (pc := 601) C 5 [(5, .int x93), (0, va_rf l0), (1, va_rf l1), (2, va_rf l2), (3, va_rf l3), (4, .int l4)] dL_law_601 (by decide) (by first | rfl | simp [q_cat, q_catI, q_catJ, q_catR, q_catN]) ?_
        refine q_aload_n (pc := 603) C 2 3 dL_law_603 rfl rfl ?_
        refine q_aload_n (pc := 604) C 0 1 dL_law_604 rfl rfl ?_
        refine q_iload (pc := 605) C 4 5 dL_law_605 rfl ?_
        refine q_iconst (pc := 607) C 1 dL_law_607 (by decide) ?_
        refine q_iadd (pc := 608) C dL_law_608 ?_
        refine q_sld (pc := 609) C hS h dL_law_609 (fun x95 h => ?_)
        refine q_aload_n (pc := 610) C 0 1 dL_law_610 rfl rfl ?_
        refine q_iload (pc := 611) C 4 5 dL_law_611 rfl ?_
        refine q_iconst (pc := 613) C 2 dL_law_613 (by decide) ?_
        refine q_iadd (pc := 614) C dL_law_614 ?_
        refine q_sld (pc := 615) C hS h dL_law_615 (fun x96 h => ?_)
        refine q_aload_n (pc := 616) C 0 1 dL_law_616 rfl rfl ?_
        refine q_iload (pc := 617) C 4 5 dL_law_617 rfl ?_
        refine q_iconst (pc := 619) C 3 dL_law_619 (by decide) ?_
        refine q_iadd (pc := 620) C dL_law_620 ?_
        refine q_sld (pc := 621) C hS h dL_law_621 (fun x97 h => ?_)
        refine q_aload_n (pc := 622) C 0 1 dL_law_622 rfl rfl ?_
        refine q_iload (pc := 623) C 4 5 dL_law_623 rfl ?_
        refine q_iconst (pc := 625) C 4 dL_law_625 (by decide) ?_
        refine q_iadd (pc := 626) C dL_law_626 ?_
        refine q_sld (pc := 627) C hS h dL_law_627 (fun x98 h => ?_)
        obtain ⟨b101, fs9, hb101, hm9, h⟩ := h
        refine q_ci (pc := 628) (q_rV C (st := []) (b := b101) (kX14_sing l G b0 h) (cwV 4 C.2.2.2.2.1 (m_gapp gL_law_X14_sing) rfl rfl rfl (by decide +kernel) ⟨Nat.le_of_ble_eq_true rfl, Nat.le_of_ble_eq_true rfl⟩) hm9 rfl rfl rfl (by first | exact Nat.le_of_ble_eq_true rfl | (simp [q_cat, q_catI, q_catJ, q_catR, q_catN]; done)) (by rw [hb101]; first | done | rfl) dL_law_628 ⟨(by first | omega | (dsimp only; omega)), (by first | omega | (dsimp only; omega))⟩) (fun x99 M100 h => ?_)
        refine q_istore (pc := 631) C 6 [(6, .int x99), (5, .int x93), (0, va_rf l0), (1, va_rf l1), (2, va_rf l2), (3, va_rf l3), (4, .int l4)] dL_law_631 (by decide) (by first | rfl | simp [q_cat, q_catI, q_catJ, q_catR, q_catN]) ?_
        refine q_goto (pc := 633) C 1259 dL_law_633 (by decide) ?_
        refine q_lv [2, 3, 4, 5, 6] rfl ?_
        exact tL_law_1259 C hr hlocks hL hN hS hg hk9 ih h
      have h := h.2 c88
      by_cases c102 : (x3 &&& 31) = 9
      · have h := h.1 c102
        refine q_tableIn (pc := 43) C 636 dL_law_43 (by rw [c102]; decide) (by rw [c102]; decide) (by rw [c102]; rfl) (by decide) ?_
        refine q_aload_n (pc := 636) C 1 1 dL_law_636 rfl rfl ?_
        refine q_aload_n (pc := 637) C 0 0 dL_law_637 rfl rfl ?_
        refine q_iload (pc := 638) C 4 4 dL_law_638 rfl ?_
        refine q_iconst (pc := 640) C 1 dL_law_640 (by decide) ?_
        refine q_iadd (pc := 641) C dL_law_641 ?_
        refine q_sld (pc := 642) C hS h dL_law_642 (fun x103 h => ?_)
        refine q_aload_n (pc := 643) C 0 0 dL_law_643 rfl rfl ?_
        refine q_iload (pc := 644) C 4 4 dL_law_644 rfl ?_
        refine q_iconst (pc := 646) C 2 dL_law_646 (by decide) ?_
        refine q_iadd (pc := 647) C dL_law_647 ?_
        refine q_sld (pc := 648) C hS h dL_law_648 (fun x104 h => ?_)
        refine q_aload_n (pc := 649) C 3 3 dL_law_649 rfl rfl ?_
        obtain ⟨hbk, h⟩ := h
        refine q_ci (pc := 650) (q_rSW C hN (st := []) (kL_revoke l G b0 hL h) (vx_cwSW 4 C.2.2.2.2.1 (m_gws gL_law_L_revoke) rfl rfl rfl (by decide +kernel) ⟨Nat.le_of_ble_eq_true rfl, Nat.le_of_ble_eq_true rfl⟩) rfl (by first | exact Nat.le_of_ble_eq_true rfl | (simp [q_cat, q_catI, q_catJ, q_catR, q_catN]; done)) rfl dL_law_650 ⟨(by first | omega | (dsimp only; omega)), (by first | omega | (dsimp only; omega))⟩) (fun x105 M106 h => ?_)
        refine q_istore (pc := 653) C 5 [(5, .int x105), (0, va_rf l0), (1, va_rf l1), (2, va_rf l2), (3, va_rf l3), (4, .int l4)] dL_law_653 (by decide) (by first | rfl | simp [q_cat, q_catI, q_catJ, q_catR, q_catN]) ?_
        refine q_aload_n (pc := 655) C 2 3 dL_law_655 rfl rfl ?_
        refine q_aload_n (pc := 656) C 0 1 dL_law_656 rfl rfl ?_
        refine q_iload (pc := 657) C 4 5 dL_law_657 rfl ?_
        refine q_iconst (pc := 659) C 1 dL_law_659 (by decide) ?_
        refine q_iadd (pc := 660) C dL_law_660 ?_
        refine q_sld (pc := 661) C hS h dL_law_661 (fun x107 h => ?_)
        refine q_aload_n (pc := 662) C 0 1 dL_law_662 rfl rfl ?_
        refine q_iload (pc := 663) C 4 5 dL_law_663 rfl ?_
        refine q_iconst (pc := 665) C 2 dL_law_665 (by decide) ?_
        refine q_iadd (pc := 666) C dL_law_666 ?_
        refine q_sld (pc := 667) C hS h dL_law_667 (fun x108 h => ?_)
        obtain ⟨b111, fs9, hb111, hm9, h⟩ := h
        refine q_ci (pc := 668) (q_rV C (st := []) (b := b111) (kX14_revoke l G b0 h) (cwV 2 C.2.2.2.2.1 (m_gapp gL_law_X14_revoke) rfl rfl rfl (by decide +kernel) ⟨Nat.le_of_ble_eq_true rfl, Nat.le_of_ble_eq_true rfl⟩) hm9 rfl rfl rfl (by first | exact Nat.le_of_ble_eq_true rfl | (simp [q_cat, q_catI, q_catJ, q_catR, q_catN]; done)) (by rw [hb111]; first | done | rfl) dL_law_668 ⟨(by first | omega | (dsimp only; omega)), (by first | omega | (dsimp only; omega))⟩) (fun x109 M110 h => ?_)
        refine q_istore (pc := 671) C 6 [(6, .int x109), (5, .int x105), (0, va_rf l0), (1, va_rf l1), (2, va_rf l2), (3, va_rf l3), (4, .int l4)] dL_law_671 (by decide) (by first | rfl | simp [q_cat, q_catI, q_catJ, q_catR, q_catN]) ?_
        refine q_goto (pc := 673) C 1259 dL_law_673 (by decide) ?_
        refine q_lv [2, 3, 4, 5, 6] rfl ?_
        exact tL_law_1259 C hr hlocks hL hN hS hg hk9 ih h
      have h := h.2 c102
      by_cases c112 : (x3 &&& 31) = 10
      · have h := h.1 c112
        refine q_tableIn (pc := 43) C 676 dL_law_43 (by rw [c112]; decide) (by rw [c112]; decide) (by rw [c112]; rfl) (by decide) ?_
        refine q_aload_n (pc := 676) C 1 1 dL_law_676 rfl rfl ?_
        refine q_aload_n (pc := 677) C 0 0 dL_law_677 rfl rfl ?_
        refine q_iload (pc := 678) C 4 4 dL_law_678 rfl ?_
        refine q_iconst (pc := 680) C 1 dL_law_680 (by decide) ?_
        refine q_iadd (pc := 681) C dL_law_681 ?_
        refine q_sld (pc := 682) C hS h dL_law_682 (fun x113 h => ?_)
        refine q_aload_n (pc := 683) C 0 0 dL_law_683 rfl rfl ?_
        refine q_iload (pc := 684) C 4 4 dL_law_684 rfl ?_
        refine q_iconst (pc := 686) C 2 dL_law_686 (by decide) ?_
        refine q_iadd (pc := 687) C dL_law_687 ?_
        refine q_sld (pc := 688) C hS h dL_law_688 (fun x114 h => ?_)
        refine q_aload_n (pc := 689) C 0 0 dL_law_689 rfl rfl ?_
        refine q_iload (pc := 690) C 4 4 dL_law_690 rfl ?_
        refine q_iconst (pc := 692) C 3 dL_law_692 (by decide) ?_
        refine q_iadd (pc := 693) C dL_law_693 ?_
        refine q_sld (pc := 694) C hS h dL_law_694 (fun x115 h => ?_)
        refine q_aload_n (pc := 695) C 3 3 dL_law_695 rfl rfl ?_
        obtain ⟨hbk, h⟩ := h
        refine q_ci (pc := 696) (q_rSW C hN (st := []) (kL_join l G b0 hL hg h) (vx_cwSW 5 C.2.2.2.2.1 (m_gws gL_law_L_join) rfl rfl rfl (by decide +kernel) ⟨Nat.le_of_ble_eq_true rfl, Nat.le_of_ble_eq_true rfl⟩) rfl (by first | exact Nat.le_of_ble_eq_true rfl | (simp [q_cat, q_catI, q_catJ, q_catR, q_catN]; done)) rfl dL_law_696 ⟨(by first | omega | (dsimp only; omega)), (by first | omega | (dsimp only; omega))⟩) (fun x116 M117 h => ?_)
        refine q_istore (pc := 699) C 5 [(5, .int x116), (0, va_rf l0), (1, va_rf l1), (2, va_rf l2), (3, va_rf l3), (4, .int l4)] dL_law_699 (by decide) (by first | rfl | simp [q_cat, q_catI, q_catJ, q_catR, q_catN]) ?_
        refine q_aload_n (pc := 701) C 2 3 dL_law_701 rfl rfl ?_
        refine q_aload_n (pc := 702) C 0 1 dL_law_702 rfl rfl ?_
        refine q_iload (pc := 703) C 4 5 dL_law_703 rfl ?_
        refine q_iconst (pc := 705) C 1 dL_law_705 (by decide) ?_
        refine q_iadd (pc := 706) C dL_law_706 ?_
        refine q_sld (pc := 707) C hS h dL_law_707 (fun x118 h => ?_)
        refine q_aload_n (pc := 708) C 0 1 dL_law_708 rfl rfl ?_
        refine q_iload (pc := 709) C 4 5 dL_law_709 rfl ?_
        refine q_iconst (pc := 711) C 2 dL_law_711 (by decide) ?_
        refine q_iadd (pc := 712) C dL_law_712 ?_
        refine q_sld (pc := 713) C hS h dL_law_713 (fun x119 h => ?_)
        refine q_aload_n (pc := 714) C 0 1 dL_law_714 rfl rfl ?_
        refine q_iload (pc := 715) C 4 5 dL_law_715 rfl ?_
        refine q_iconst (pc := 717) C 3 dL_law_717 (by decide) ?_
        refine q_iadd (pc := 718) C dL_law_718 ?_
        refine q_sld (pc := 719) C hS h dL_law_719 (fun x120 h => ?_)
        obtain ⟨hbk, h⟩ := h
        obtain ⟨b123, fs9, hb123, hm9, h⟩ := h
        refine q_ci (pc := 720) (q_rV C (st := []) (b := b123) (kX14_join l G b0 hg h) (cwV 3 C.2.2.2.2.1 (m_gapp gL_law_X14_join) rfl rfl rfl (by decide +kernel) ⟨Nat.le_of_ble_eq_true rfl, Nat.le_of_ble_eq_true rfl⟩) hm9 rfl rfl rfl (by first | exact Nat.le_of_ble_eq_true rfl | (simp [q_cat, q_catI, q_catJ, q_catR, q_catN]; done)) (by rw [hb123]; first | done | rfl) dL_law_720 ⟨(by first | omega | (dsimp only; omega)), (by first | omega | (dsimp only; omega))⟩) (fun x121 M122 h => ?_)
        refine q_istore (pc := 723) C 6 [(6, .int x121), (5, .int x116), (0, va_rf l0), (1, va_rf l1), (2, va_rf l2), (3, va_rf l3), (4, .int l4)] dL_law_723 (by decide) (by first | rfl | simp [q_cat, q_catI, q_catJ, q_catR, q_catN]) ?_
        refine q_goto (pc := 725) C 1259 dL_law_725 (by decide) ?_
        refine q_lv [2, 3, 4, 5, 6] rfl ?_
        exact tL_law_1259 C hr hlocks hL hN hS hg hk9 ih h
      have h := h.2 c112
      by_cases c124 : (x3 &&& 31) = 11
      · have h := h.1 c124
        refine q_tableIn (pc := 43) C 728 dL_law_43 (by rw [c124]; decide) (by rw [c124]; decide) (by rw [c124]; rfl) (by decide) ?_
        refine q_aload_n (pc := 728) C 1 1 dL_law_728 rfl rfl ?_
        refine q_aload_n (pc := 729) C 0 0 dL_law_729 rfl rfl ?_
        refine q_iload (pc := 730) C 4 4 dL_law_730 rfl ?_
        refine q_iconst (pc := 732) C 1 dL_law_732 (by decide) ?_
        refine q_iadd (pc := 733) C dL_law_733 ?_
        refine q_sld (pc := 734) C hS h dL_law_734 (fun x125 h => ?_)
        refine q_aload_n (pc := 735) C 3 3 dL_law_735 rfl rfl ?_
        obtain ⟨hbk, h⟩ := h
        refine q_ci (pc := 736) (q_rSW C hN (st := []) (kL_leave l G b0 hL h) (vx_cwSW 3 C.2.2.2.2.1 (m_gws gL_law_L_leave) rfl rfl rfl (by decide +kernel) ⟨Nat.le_of_ble_eq_true rfl, Nat.le_of_ble_eq_true rfl⟩) rfl (by first | exact Nat.le_of_ble_eq_true rfl | (simp [q_cat, q_catI, q_catJ, q_catR, q_catN]; done)) rfl dL_law_736 ⟨(by first | omega | (dsimp only; omega)), (by first | omega | (dsimp only; omega))⟩) (fun x126 M127 h => ?_)
        refine q_istore (pc := 739) C 5 [(5, .int x126), (0, va_rf l0), (1, va_rf l1), (2, va_rf l2), (3, va_rf l3), (4, .int l4)] dL_law_739 (by decide) (by first | rfl | simp [q_cat, q_catI, q_catJ, q_catR, q_catN]) ?_
        refine q_aload_n (pc := 741) C 2 3 dL_law_741 rfl rfl ?_
        refine q_aload_n (pc := 742) C 0 1 dL_law_742 rfl rfl ?_
        refine q_iload (pc := 743) C 4 5 dL_law_743 rfl ?_
        refine q_iconst (pc := 745) C 1 dL_law_745 (by decide) ?_
        refine q_iadd (pc := 746) C dL_law_746 ?_
        refine q_sld (pc := 747) C hS h dL_law_747 (fun x128 h => ?_)
        obtain ⟨b131, fs9, hb131, hm9, h⟩ := h
        refine q_ci (pc := 748) (q_rV C (st := []) (b := b131) (kX14_leave l G b0 h) (cwV 1 C.2.2.2.2.1 (m_gapp gL_law_X14_leave) rfl rfl rfl (by decide +kernel) ⟨Nat.le_of_ble_eq_true rfl, Nat.le_of_ble_eq_true rfl⟩) hm9 rfl rfl rfl (by first | exact Nat.le_of_ble_eq_true rfl | (simp [q_cat, q_catI, q_catJ, q_catR, q_catN]; done)) (by rw [hb131]; first | done | rfl) dL_law_748 ⟨(by first | omega | (dsimp only; omega)), (by first | omega | (dsimp only; omega))⟩) (fun x129 M130 h => ?_)
        refine q_istore (pc := 751) C 6 [(6, .int x129), (5, .int x126), (0, va_rf l0), (1, va_rf l1), (2, va_rf l2), (3, va_rf l3), (4, .int l4)] dL_law_751 (by decide) (by first | rfl | simp [q_cat, q_catI, q_catJ, q_catR, q_catN]) ?_
        refine q_goto (pc := 753) C 1259 dL_law_753 (by decide) ?_
        refine q_lv [2, 3, 4, 5, 6] rfl ?_
        exact tL_law_1259 C hr hlocks hL hN hS hg hk9 ih h
      have h := h.2 c124
      by_cases c132 : (x3 &&& 31) = 12
      · have h := h.1 c132
        refine q_tableIn (pc := 43) C 756 dL_law_43 (by rw [c132]; decide) (by rw [c132]; decide) (by rw [c132]; rfl) (by decide) ?_
        refine q_aload_n (pc := 756) C 1 1 dL_law_756 rfl rfl ?_
        refine q_aload_n (pc := 757) C 0 0 dL_law_757 rfl rfl ?_
        refine q_iload (pc := 758) C 4 4 dL_law_758 rfl ?_
        refine q_iconst (pc := 760) C 1 dL_law_760 (by decide) ?_
        refine q_iadd (pc := 761) C dL_law_761 ?_
        refine q_sld (pc := 762) C hS h dL_law_762 (fun x133 h => ?_)
        refine q_aload_n (pc := 763) C 3 3 dL_law_763 rfl rfl ?_
        obtain ⟨hbk, h⟩ := h
        refine q_ci (pc := 764) (q_rSW C hN (st := []) (kL_yawn l G b0 hL hg h) (vx_cwSW 3 C.2.2.2.2.1 (m_gws gL_law_L_yawn) rfl rfl rfl (by decide +kernel) ⟨Nat.le_of_ble_eq_true rfl, Nat.le_of_ble_eq_true rfl⟩) rfl (by first | exact Nat.le_of_ble_eq_true rfl | (simp [q_cat, q_catI, q_catJ, q_catR, q_catN]; done)) rfl dL_law_764 ⟨(by first | omega | (dsimp only; omega)), (by first | omega | (dsimp only; omega))⟩) (fun x134 M135 h => ?_)
        refine q_istore (pc := 767) C 5 [(5, .int x134), (0, va_rf l0), (1, va_rf l1), (2, va_rf l2), (3, va_rf l3), (4, .int l4)] dL_law_767 (by decide) (by first | rfl | simp [q_cat, q_catI, q_catJ, q_catR, q_catN]) ?_
        refine q_aload_n (pc := 769) C 2 3 dL_law_769 rfl rfl ?_
        refine q_aload_n (pc := 770) C 0 1 dL_law_770 rfl rfl ?_
        refine q_iload (pc := 771) C 4 5 dL_law_771 rfl ?_
        refine q_iconst (pc := 773) C 1 dL_law_773 (by decide) ?_
        refine q_iadd (pc := 774) C dL_law_774 ?_
        refine q_sld (pc := 775) C hS h dL_law_775 (fun x136 h => ?_)
        obtain ⟨hbk, h⟩ := h
        obtain ⟨b139, fs9, hb139, hm9, h⟩ := h
        refine q_ci (pc := 776) (q_rV C (st := []) (b := b139) (kX14_yawn l G b0 hg h) (cwV 1 C.2.2.2.2.1 (m_gapp gL_law_X14_yawn) rfl rfl rfl (by decide +kernel) ⟨Nat.le_of_ble_eq_true rfl, Nat.le_of_ble_eq_true rfl⟩) hm9 rfl rfl rfl (by first | exact Nat.le_of_ble_eq_true rfl | (simp [q_cat, q_catI, q_catJ, q_catR, q_catN]; done)) (by rw [hb139]; first | done | rfl) dL_law_776 ⟨(by first | omega | (dsimp only; omega)), (by first | omega | (dsimp only; omega))⟩) (fun x137 M138 h => ?_)
        refine q_istore (pc := 779) C 6 [(6, .int x137), (5, .int x134), (0, va_rf l0), (1, va_rf l1), (2, va_rf l2), (3, va_rf l3), (4, .int l4)] dL_law_779 (by decide) (by first | rfl | simp [q_cat, q_catI, q_catJ, q_catR, q_catN]) ?_
        refine q_goto (pc := 781) C 1259 dL_law_781 (by decide) ?_
        refine q_lv [2, 3, 4, 5, 6] rfl ?_
        exact tL_law_1259 C hr hlocks hL hN hS hg hk9 ih h
      have h := h.2 c132
      by_cases c140 : (x3 &&& 31) = 13
      · have h := h.1 c140
        refine q_tableIn (pc := 43) C 784 dL_law_43 (by rw [c140]; decide) (by rw [c140]; decide) (by rw [c140]; rfl) (by decide) ?_
        refine q_aload_n (pc := 784) C 1 1 dL_law_784 rfl rfl ?_
        refine q_aload_n (pc := 785) C 0 0 dL_law_785 rfl rfl ?_
        refine q_iload (pc := 786) C 4 4 dL_law_786 rfl ?_
        refine q_iconst (pc := 788) C 1 dL_law_788 (by decide) ?_
        refine q_iadd (pc := 789) C dL_law_789 ?_
        refine q_sld (pc := 790) C hS h dL_law_790 (fun x141 h => ?_)
        refine q_aload_n (pc := 791) C 3 3 dL_law_791 rfl rfl ?_
        obtain ⟨hbk, h⟩ := h
        refine q_ci (pc := 792) (q_rSW C hN (st := []) (kL_appeal l G b0 hL h) (vx_cwSW 3 C.2.2.2.2.1 (m_gws gL_law_L_appeal) rfl rfl rfl (by decide +kernel) ⟨Nat.le_of_ble_eq_true rfl, Nat.le_of_ble_eq_true rfl⟩) rfl (by first | exact Nat.le_of_ble_eq_true rfl | (simp [q_cat, q_catI, q_catJ, q_catR, q_catN]; done)) rfl dL_law_792 ⟨(by first | omega | (dsimp only; omega)), (by first | omega | (dsimp only; omega))⟩) (fun x142 M143 h => ?_)
        refine q_istore (pc := 795) C 5 [(5, .int x142), (0, va_rf l0), (1, va_rf l1), (2, va_rf l2), (3, va_rf l3), (4, .int l4)] dL_law_795 (by decide) (by first | rfl | simp [q_cat, q_catI, q_catJ, q_catR, q_catN]) ?_
        refine q_aload_n (pc := 797) C 2 3 dL_law_797 rfl rfl ?_
        refine q_aload_n (pc := 798) C 0 1 dL_law_798 rfl rfl ?_
        refine q_iload (pc := 799) C 4 5 dL_law_799 rfl ?_
        refine q_iconst (pc := 801) C 1 dL_law_801 (by decide) ?_
        refine q_iadd (pc := 802) C dL_law_802 ?_
        refine q_sld (pc := 803) C hS h dL_law_803 (fun x144 h => ?_)
        obtain ⟨b147, fs9, hb147, hm9, h⟩ := h
        refine q_ci (pc := 804) (q_rV C (st := []) (b := b147) (kX14_appeal l G b0 h) (cwV 1 C.2.2.2.2.1 (m_gapp gL_law_X14_appeal) rfl rfl rfl (by decide +kernel) ⟨Nat.le_of_ble_eq_true rfl, Nat.le_of_ble_eq_true rfl⟩) hm9 rfl rfl rfl (by first | exact Nat.le_of_ble_eq_true rfl | (simp [q_cat, q_catI, q_catJ, q_catR, q_catN]; done)) (by rw [hb147]; first | done | rfl) dL_law_804 ⟨(by first | omega | (dsimp only; omega)), (by first | omega | (dsimp only; omega))⟩) (fun x145 M146 h => ?_)
        refine q_istore (pc := 807) C 6 [(6, .int x145), (5, .int x142), (0, va_rf l0), (1, va_rf l1), (2, va_rf l2), (3, va_rf l3), (4, .int l4)] dL_law_807 (by decide) (by first | rfl | simp [q_cat, q_catI, q_catJ, q_catR, q_catN]) ?_
        refine q_goto (pc := 809) C 1259 dL_law_809 (by decide) ?_
        refine q_lv [2, 3, 4, 5, 6] rfl ?_
        exact tL_law_1259 C hr hlocks hL hN hS hg hk9 ih h
      have h := h.2 c140
      by_cases c148 : (x3 &&& 31) = 14
      · have h := h.1 c148
        refine q_tableIn (pc := 43) C 812 dL_law_43 (by rw [c148]; decide) (by rw [c148]; decide) (by rw [c148]; rfl) (by decide) ?_
        refine q_aload_n (pc := 812) C 1 1 dL_law_812 rfl rfl ?_
        refine q_aload_n (pc := 813) C 0 0 dL_law_813 rfl rfl ?_
        refine q_iload (pc := 814) C 4 4 dL_law_814 rfl ?_
        refine q_iconst (pc := 816) C 1 dL_law_816 (by decide) ?_
        refine q_iadd (pc := 817) C dL_law_817 ?_
        refine q_sld (pc := 818) C hS h dL_law_818 (fun x149 h => ?_)
        refine q_aload_n (pc := 819) C 3 3 dL_law_819 rfl rfl ?_
        obtain ⟨hbk, h⟩ := h
        refine q_ci (pc := 820) (q_rSW C hN (st := []) (kL_pass l G b0 hL h) (vx_cwSW 3 C.2.2.2.2.1 (m_gws gL_law_L_pass) rfl rfl rfl (by decide +kernel) ⟨Nat.le_of_ble_eq_true rfl, Nat.le_of_ble_eq_true rfl⟩) rfl (by first | exact Nat.le_of_ble_eq_true rfl | (simp [q_cat, q_catI, q_catJ, q_catR, q_catN]; done)) rfl dL_law_820 ⟨(by first | omega | (dsimp only; omega)), (by first | omega | (dsimp only; omega))⟩) (fun x150 M151 h => ?_)
        refine q_istore (pc := 823) C 5 [(5, .int x150), (0, va_rf l0), (1, va_rf l1), (2, va_rf l2), (3, va_rf l3), (4, .int l4)] dL_law_823 (by decide) (by first | rfl | simp [q_cat, q_catI, q_catJ, q_catR, q_catN]) ?_
        refine q_aload_n (pc := 825) C 2 3 dL_law_825 rfl rfl ?_
        refine q_aload_n (pc := 826) C 0 1 dL_law_826 rfl rfl ?_
        refine q_iload (pc := 827) C 4 5 dL_law_827 rfl ?_
        refine q_iconst (pc := 829) C 1 dL_law_829 (by decide) ?_
        refine q_iadd (pc := 830) C dL_law_830 ?_
        refine q_sld (pc := 831) C hS h dL_law_831 (fun x152 h => ?_)
        obtain ⟨hbk, h⟩ := h
        obtain ⟨b155, fs9, hb155, hm9, h⟩ := h
        refine q_ci (pc := 832) (q_rV C (st := []) (b := b155) (kX14_pass l G b0 h) (cwV 1 C.2.2.2.2.1 (m_gapp gL_law_X14_pass) rfl rfl rfl (by decide +kernel) ⟨Nat.le_of_ble_eq_true rfl, Nat.le_of_ble_eq_true rfl⟩) hm9 rfl rfl rfl (by first | exact Nat.le_of_ble_eq_true rfl | (simp [q_cat, q_catI, q_catJ, q_catR, q_catN]; done)) (by rw [hb155]; first | done | rfl) dL_law_832 ⟨(by first | omega | (dsimp only; omega)), (by first | omega | (dsimp only; omega))⟩) (fun x153 M154 h => ?_)
        refine q_istore (pc := 835) C 6 [(6, .int x153), (5, .int x150), (0, va_rf l0), (1, va_rf l1), (2, va_rf l2), (3, va_rf l3), (4, .int l4)] dL_law_835 (by decide) (by first | rfl | simp [q_cat, q_catI, q_catJ, q_catR, q_catN]) ?_
        refine q_goto (pc := 837) C 1259 dL_law_837 (by decide) ?_
        refine q_lv [2, 3, 4, 5, 6] rfl ?_
        exact tL_law_1259 C hr hlocks hL hN hS hg hk9 ih h
      have h := h.2 c148
      by_cases c156 : (x3 &&& 31) = 15
      · have h := h.1 c156
        refine q_tableIn (pc := 43) C 840 dL_law_43 (by rw [c156]; decide) (by rw [c156]; decide) (by rw [c156]; rfl) (by decide) ?_
        refine q_aload_n (pc := 840) C 1 1 dL_law_840 rfl rfl ?_
        refine q_aload_n (pc := 841) C 0 0 dL_law_841 rfl rfl ?_
        refine q_iload (pc := 842) C 4 4 dL_law_842 rfl ?_
        refine q_iconst (pc := 844) C 1 dL_law_844 (by decide) ?_
        refine q_iadd (pc := 845) C dL_law_845 ?_
        refine q_sld (pc := 846) C hS h dL_law_846 (fun x157 h => ?_)
        refine q_aload_n (pc := 847) C 0 0 dL_law_847 rfl rfl ?_
        refine q_iload (pc := 848) C 4 4 dL_law_848 rfl ?_
        refine q_iconst (pc := 850) C 2 dL_law_850 (by decide) ?_
        refine q_iadd (pc := 851) C dL_law_851 ?_
        refine q_sld (pc := 852) C hS h dL_law_852 (fun x158 h => ?_)
        refine q_aload_n (pc := 853) C 3 3 dL_law_853 rfl rfl ?_
        obtain ⟨hbk, h⟩ := h
        refine q_ci (pc := 854) (q_rSW C hN (st := []) (kL_ofLand l G b0 hL h) (vx_cwSW 4 C.2.2.2.2.1 (m_gws gL_law_L_ofLand) rfl rfl rfl (by decide +kernel) ⟨Nat.le_of_ble_eq_true rfl, Nat.le_of_ble_eq_true rfl⟩) rfl (by first | exact Nat.le_of_ble_eq_true rfl | (simp [q_cat, q_catI, q_catJ, q_catR, q_catN]; done)) rfl dL_law_854 ⟨(by first | omega | (dsimp only; omega)), (by first | omega | (dsimp only; omega))⟩) (fun x159 M160 h => ?_)
        refine q_istore (pc := 857) C 5 [(5, .int x159), (0, va_rf l0), (1, va_rf l1), (2, va_rf l2), (3, va_rf l3), (4, .int l4)] dL_law_857 (by decide) (by first | rfl | simp [q_cat, q_catI, q_catJ, q_catR, q_catN]) ?_
        refine q_aload_n (pc := 859) C 2 3 dL_law_859 rfl rfl ?_
        refine q_aload_n (pc := 860) C 0 1 dL_law_860 rfl rfl ?_
        refine q_iload (pc := 861) C 4 5 dL_law_861 rfl ?_
        refine q_iconst (pc := 863) C 1 dL_law_863 (by decide) ?_
        refine q_iadd (pc := 864) C dL_law_864 ?_
        refine q_sld (pc := 865) C hS h dL_law_865 (fun x161 h => ?_)
        refine q_aload_n (pc := 866) C 0 1 dL_law_866 rfl rfl ?_
        refine q_iload (pc := 867) C 4 5 dL_law_867 rfl ?_
        refine q_iconst (pc := 869) C 2 dL_law_869 (by decide) ?_
        refine q_iadd (pc := 870) C dL_law_870 ?_
        refine q_sld (pc := 871) C hS h dL_law_871 (fun x162 h => ?_)
        obtain ⟨b165, fs9, hb165, hm9, h⟩ := h
        refine q_ci (pc := 872) (q_rV C (st := []) (b := b165) (kX14_ofLand l G b0 h) (cwV 2 C.2.2.2.2.1 (m_gapp gL_law_X14_ofLand) rfl rfl rfl (by decide +kernel) ⟨Nat.le_of_ble_eq_true rfl, Nat.le_of_ble_eq_true rfl⟩) hm9 rfl rfl rfl (by first | exact Nat.le_of_ble_eq_true rfl | (simp [q_cat, q_catI, q_catJ, q_catR, q_catN]; done)) (by rw [hb165]; first | done | rfl) dL_law_872 ⟨(by first | omega | (dsimp only; omega)), (by first | omega | (dsimp only; omega))⟩) (fun x163 M164 h => ?_)
        refine q_istore (pc := 875) C 6 [(6, .int x163), (5, .int x159), (0, va_rf l0), (1, va_rf l1), (2, va_rf l2), (3, va_rf l3), (4, .int l4)] dL_law_875 (by decide) (by first | rfl | simp [q_cat, q_catI, q_catJ, q_catR, q_catN]) ?_
        refine q_goto (pc := 877) C 1259 dL_law_877 (by decide) ?_
        refine q_lv [2, 3, 4, 5, 6] rfl ?_
        exact tL_law_1259 C hr hlocks hL hN hS hg hk9 ih h
      have h := h.2 c156
      by_cases c166 : (x3 &&& 31) = 16
      · have h := h.1 c166
        refine q_tableIn (pc := 43) C 880 dL_law_43 (by rw [c166]; decide) (by rw [c166]; decide) (by rw [c166]; rfl) (by decide) ?_
        refine q_aload_n (pc := 880) C 1 1 dL_law_880 rfl rfl ?_
        refine q_aload_n (pc := 881) C 0 0 dL_law_881 rfl rfl ?_
        refine q_iload (pc := 882) C 4 4 dL_law_882 rfl ?_
        refine q_iconst (pc := 884) C 1 dL_law_884 (by decide) ?_
        refine q_iadd (pc := 885) C dL_law_885 ?_
        refine q_sld (pc := 886) C hS h dL_law_886 (fun x167 h => ?_)
        refine q_aload_n (pc := 887) C 0 0 dL_law_887 rfl rfl ?_
        refine q_iload (pc := 888) C 4 4 dL_law_888 rfl ?_
        refine q_iconst (pc := 890) C 2 dL_law_890 (by decide) ?_
        refine q_iadd (pc := 891) C dL_law_891 ?_
        refine q_sld (pc := 892) C hS h dL_law_892 (fun x168 h => ?_)
        refine q_aload_n (pc := 893) C 3 3 dL_law_893 rfl rfl ?_
        obtain ⟨hbk, h⟩ := h
        refine q_ci (pc := 894) (q_rSW C hN (st := []) (kL_ofGate l G b0 hL h) (vx_cwSW 4 C.2.2.2.2.1 (m_gws gL_law_L_ofGate) rfl rfl rfl (by decide +kernel) ⟨Nat.le_of_ble_eq_true rfl, Nat.le_of_ble_eq_true rfl⟩) rfl (by first | exact Nat.le_of_ble_eq_true rfl | (simp [q_cat, q_catI, q_catJ, q_catR, q_catN]; done)) rfl dL_law_894 ⟨(by first | omega | (dsimp only; omega)), (by first | omega | (dsimp only; omega))⟩) (fun x169 M170 h => ?_)
        refine q_istore (pc := 897) C 5 [(5, .int x169), (0, va_rf l0), (1, va_rf l1), (2, va_rf l2), (3, va_rf l3), (4, .int l4)] dL_law_897 (by decide) (by first | rfl | simp [q_cat, q_catI, q_catJ, q_catR, q_catN]) ?_
        refine q_aload_n (pc := 899) C 2 3 dL_law_899 rfl rfl ?_
        refine q_aload_n (pc := 900) C 0 1 dL_law_900 rfl rfl ?_
        refine q_iload (pc := 901) C 4 5 dL_law_901 rfl ?_
        refine q_iconst (pc := 903) C 1 dL_law_903 (by decide) ?_
        refine q_iadd (pc := 904) C dL_law_904 ?_
        refine q_sld (pc := 905) C hS h dL_law_905 (fun x171 h => ?_)
        refine q_aload_n (pc := 906) C 0 1 dL_law_906 rfl rfl ?_
        refine q_iload (pc := 907) C 4 5 dL_law_907 rfl ?_
        refine q_iconst (pc := 909) C 2 dL_law_909 (by decide) ?_
        refine q_iadd (pc := 910) C dL_law_910 ?_
        refine q_sld (pc := 911) C hS h dL_law_911 (fun x172 h => ?_)
        obtain ⟨b175, fs9, hb175, hm9, h⟩ := h
        refine q_ci (pc := 912) (q_rV C (st := []) (b := b175) (kX14_ofGate l G b0 h) (cwV 2 C.2.2.2.2.1 (m_gapp gL_law_X14_ofGate) rfl rfl rfl (by decide +kernel) ⟨Nat.le_of_ble_eq_true rfl, Nat.le_of_ble_eq_true rfl⟩) hm9 rfl rfl rfl (by first | exact Nat.le_of_ble_eq_true rfl | (simp [q_cat, q_catI, q_catJ, q_catR, q_catN]; done)) (by rw [hb175]; first | done | rfl) dL_law_912 ⟨(by first | omega | (dsimp only; omega)), (by first | omega | (dsimp only; omega))⟩) (fun x173 M174 h => ?_)
        refine q_istore (pc := 915) C 6 [(6, .int x173), (5, .int x169), (0, va_rf l0), (1, va_rf l1), (2, va_rf l2), (3, va_rf l3), (4, .int l4)] dL_law_915 (by decide) (by first | rfl | simp [q_cat, q_catI, q_catJ, q_catR, q_catN]) ?_
        refine q_goto (pc := 917) C 1259 dL_law_917 (by decide) ?_
        refine q_lv [2, 3, 4, 5, 6] rfl ?_
        exact tL_law_1259 C hr hlocks hL hN hS hg hk9 ih h
      have h := h.2 c166
      by_cases c176 : (x3 &&& 31) = 17
      · have h := h.1 c176
        refine q_tableIn (pc := 43) C 920 dL_law_43 (by rw [c176]; decide) (by rw [c176]; decide) (by rw [c176]; rfl) (by decide) ?_
        refine q_aload_n (pc := 920) C 1 1 dL_law_920 rfl rfl ?_
        refine q_aload_n (pc := 921) C 0 0 dL_law_921 rfl rfl ?_
        refine q_iload (pc := 922) C 4 4 dL_law_922 rfl ?_
        refine q_iconst (pc := 924) C 1 dL_law_924 (by decide) ?_
        refine q_iadd (pc := 925) C dL_law_925 ?_
        refine q_sld (pc := 926) C hS h dL_law_926 (fun x177 h => ?_)
        refine q_aload_n (pc := 927) C 0 0 dL_law_927 rfl rfl ?_
        refine q_iload (pc := 928) C 4 4 dL_law_928 rfl ?_
        refine q_iconst (pc := 930) C 2 dL_law_930 (by decide) ?_
        refine q_iadd (pc := 931) C dL_law_931 ?_
        refine q_sld (pc := 932) C hS h dL_law_932 (fun x178 h => ?_)
        refine q_aload_n (pc := 933) C 3 3 dL_law_933 rfl rfl ?_
        obtain ⟨hbk, h⟩ := h
        refine q_ci (pc := 934) (q_rSW C hN (st := []) (kL_ofSleeper l G b0 hL h) (vx_cwSW 4 C.2.2.2.2.1 (m_gws gL_law_L_ofSleeper) rfl rfl rfl (by decide +kernel) ⟨Nat.le_of_ble_eq_true rfl, Nat.le_of_ble_eq_true rfl⟩) rfl (by first | exact Nat.le_of_ble_eq_true rfl | (simp [q_cat, q_catI, q_catJ, q_catR, q_catN]; done)) rfl dL_law_934 ⟨(by first | omega | (dsimp only; omega)), (by first | omega | (dsimp only; omega))⟩) (fun x179 M180 h => ?_)
        refine q_istore (pc := 937) C 5 [(5, .int x179), (0, va_rf l0), (1, va_rf l1), (2, va_rf l2), (3, va_rf l3), (4, .int l4)] dL_law_937 (by decide) (by first | rfl | simp [q_cat, q_catI, q_catJ, q_catR, q_catN]) ?_
        refine q_aload_n (pc := 939) C 2 3 dL_law_939 rfl rfl ?_
        refine q_aload_n (pc := 940) C 0 1 dL_law_940 rfl rfl ?_
        refine q_iload (pc := 941) C 4 5 dL_law_941 rfl ?_
        refine q_iconst (pc := 943) C 1 dL_law_943 (by decide) ?_
        refine q_iadd (pc := 944) C dL_law_944 ?_
        refine q_sld (pc := 945) C hS h dL_law_945 (fun x181 h => ?_)
        refine q_aload_n (pc := 946) C 0 1 dL_law_946 rfl rfl ?_
        refine q_iload (pc := 947) C 4 5 dL_law_947 rfl ?_
        refine q_iconst (pc := 949) C 2 dL_law_949 (by decide) ?_
        refine q_iadd (pc := 950) C dL_law_950 ?_
        refine q_sld (pc := 951) C hS h dL_law_951 (fun x182 h => ?_)
        obtain ⟨b185, fs9, hb185, hm9, h⟩ := h
        refine q_ci (pc := 952) (q_rV C (st := []) (b := b185) (kX14_ofSleeper l G b0 h) (cwV 2 C.2.2.2.2.1 (m_gapp gL_law_X14_ofSleeper) rfl rfl rfl (by decide +kernel) ⟨Nat.le_of_ble_eq_true rfl, Nat.le_of_ble_eq_true rfl⟩) hm9 rfl rfl rfl (by first | exact Nat.le_of_ble_eq_true rfl | (simp [q_cat, q_catI, q_catJ, q_catR, q_catN]; done)) (by rw [hb185]; first | done | rfl) dL_law_952 ⟨(by first | omega | (dsimp only; omega)), (by first | omega | (dsimp only; omega))⟩) (fun x183 M184 h => ?_)
        refine q_istore (pc := 955) C 6 [(6, .int x183), (5, .int x179), (0, va_rf l0), (1, va_rf l1), (2, va_rf l2), (3, va_rf l3), (4, .int l4)] dL_law_955 (by decide) (by first | rfl | simp [q_cat, q_catI, q_catJ, q_catR, q_catN]) ?_
        refine q_goto (pc := 957) C 1259 dL_law_957 (by decide) ?_
        refine q_lv [2, 3, 4, 5, 6] rfl ?_
        exact tL_law_1259 C hr hlocks hL hN hS hg hk9 ih h
      have h := h.2 c176
      by_cases c186 : (x3 &&& 31) = 18
      · have h := h.1 c186
        refine q_tableIn (pc := 43) C 960 dL_law_43 (by rw [c186]; decide) (by rw [c186]; decide) (by rw [c186]; rfl) (by decide) ?_
        refine q_aload_n (pc := 960) C 1 1 dL_law_960 rfl rfl ?_
        refine q_aload_n (pc := 961) C 0 0 dL_law_961 rfl rfl ?_
        refine q_iload (pc := 962) C 4 4 dL_law_962 rfl ?_
        refine q_iconst (pc := 964) C 1 dL_law_964 (by decide) ?_
        refine q_iadd (pc := 965) C dL_law_965 ?_
        refine q_sld (pc := 966) C hS h dL_law_966 (fun x187 h => ?_)
        refine q_aload_n (pc := 967) C 0 0 dL_law_967 rfl rfl ?_
        refine q_iload (pc := 968) C 4 4 dL_law_968 rfl ?_
        refine q_iconst (pc := 970) C 2 dL_law_970 (by decide) ?_
        refine q_iadd (pc := 971) C dL_law_971 ?_
        refine q_sld (pc := 972) C hS h dL_law_972 (fun x188 h => ?_)
        refine q_aload_n (pc := 973) C 3 3 dL_law_973 rfl rfl ?_
        obtain ⟨hbk, h⟩ := h
        refine q_ci (pc := 974) (q_rSW C hN (st := []) (kL_ofPart l G b0 hL h) (vx_cwSW 4 C.2.2.2.2.1 (m_gws gL_law_L_ofPart) rfl rfl rfl (by decide +kernel) ⟨Nat.le_of_ble_eq_true rfl, Nat.le_of_ble_eq_true rfl⟩) rfl (by first | exact Nat.le_of_ble_eq_true rfl | (simp [q_cat, q_catI, q_catJ, q_catR, q_catN]; done)) rfl dL_law_974 ⟨(by first | omega | (dsimp only; omega)), (by first | omega | (dsimp only; omega))⟩) (fun x189 M190 h => ?_)
        refine q_istore (pc := 977) C 5 [(5, .int x189), (0, va_rf l0), (1, va_rf l1), (2, va_rf l2), (3, va_rf l3), (4, .int l4)] dL_law_977 (by decide) (by first | rfl | simp [q_cat, q_catI, q_catJ, q_catR, q_catN]) ?_
        refine q_aload_n (pc := 979) C 2 3 dL_law_979 rfl rfl ?_
        refine q_aload_n (pc := 980) C 0 1 dL_law_980 rfl rfl ?_
        refine q_iload (pc := 981) C 4 5 dL_law_981 rfl ?_
        refine q_iconst (pc := 983) C 1 dL_law_983 (by decide) ?_
        refine q_iadd (pc := 984) C dL_law_984 ?_
        refine q_sld (pc := 985) C hS h dL_law_985 (fun x191 h => ?_)
        refine q_aload_n (pc := 986) C 0 1 dL_law_986 rfl rfl ?_
        refine q_iload (pc := 987) C 4 5 dL_law_987 rfl ?_
        refine q_iconst (pc := 989) C 2 dL_law_989 (by decide) ?_
        refine q_iadd (pc := 990) C dL_law_990 ?_
        refine q_sld (pc := 991) C hS h dL_law_991 (fun x192 h => ?_)
        obtain ⟨b195, fs9, hb195, hm9, h⟩ := h
        refine q_ci (pc := 992) (q_rV C (st := []) (b := b195) (kX14_ofPart l G b0 h) (cwV 2 C.2.2.2.2.1 (m_gapp gL_law_X14_ofPart) rfl rfl rfl (by decide +kernel) ⟨Nat.le_of_ble_eq_true rfl, Nat.le_of_ble_eq_true rfl⟩) hm9 rfl rfl rfl (by first | exact Nat.le_of_ble_eq_true rfl | (simp [q_cat, q_catI, q_catJ, q_catR, q_catN]; done)) (by rw [hb195]; first | done | rfl) dL_law_992 ⟨(by first | omega | (dsimp only; omega)), (by first | omega | (dsimp only; omega))⟩) (fun x193 M194 h => ?_)
        refine q_istore (pc := 995) C 6 [(6, .int x193), (5, .int x189), (0, va_rf l0), (1, va_rf l1), (2, va_rf l2), (3, va_rf l3), (4, .int l4)] dL_law_995 (by decide) (by first | rfl | simp [q_cat, q_catI, q_catJ, q_catR, q_catN]) ?_
        refine q_goto (pc := 997) C 1259 dL_law_997 (by decide) ?_
        refine q_lv [2, 3, 4, 5, 6] rfl ?_
        exact tL_law_1259 C hr hlocks hL hN hS hg hk9 ih h
      have h := h.2 c186
      by_cases c196 : (x3 &&& 31) = 19
      · have h := h.1 c196
        refine q_tableIn (pc := 43) C 1000 dL_law_43 (by rw [c196]; decide) (by rw [c196]; decide) (by rw [c196]; rfl) (by decide) ?_
        refine q_aload_n (pc := 1000) C 1 1 dL_law_1000 rfl rfl ?_
        refine q_aload_n (pc := 1001) C 0 0 dL_law_1001 rfl rfl ?_
        refine q_iload (pc := 1002) C 4 4 dL_law_1002 rfl ?_
        refine q_iconst (pc := 1004) C 1 dL_law_1004 (by decide) ?_
        refine q_iadd (pc := 1005) C dL_law_1005 ?_
        refine q_sld (pc := 1006) C hS h dL_law_1006 (fun x197 h => ?_)
        refine q_aload_n (pc := 1007) C 0 0 dL_law_1007 rfl rfl ?_
        refine q_iload (pc := 1008) C 4 4 dL_law_1008 rfl ?_
        refine q_iconst (pc := 1010) C 2 dL_law_1010 (by decide) ?_
        refine q_iadd (pc := 1011) C dL_law_1011 ?_
        refine q_sld (pc := 1012) C hS h dL_law_1012 (fun x198 h => ?_)
        refine q_aload_n (pc := 1013) C 3 3 dL_law_1013 rfl rfl ?_
        obtain ⟨hbk, h⟩ := h
        refine q_ci (pc := 1014) (q_rSW C hN (st := []) (kL_isGood l G b0 hL h) (vx_cwSW 4 C.2.2.2.2.1 (m_gws gL_law_L_isGood) rfl rfl rfl (by decide +kernel) ⟨Nat.le_of_ble_eq_true rfl, Nat.le_of_ble_eq_true rfl⟩) rfl (by first | exact Nat.le_of_ble_eq_true rfl | (simp [q_cat, q_catI, q_catJ, q_catR, q_catN]; done)) rfl dL_law_1014 ⟨(by first | omega | (dsimp only; omega)), (by first | omega | (dsimp only; omega))⟩) (fun x199 M200 h => ?_)
        refine q_istore (pc := 1017) C 5 [(5, .int x199), (0, va_rf l0), (1, va_rf l1), (2, va_rf l2), (3, va_rf l3), (4, .int l4)] dL_law_1017 (by decide) (by first | rfl | simp [q_cat, q_catI, q_catJ, q_catR, q_catN]) ?_
        refine q_aload_n (pc := 1019) C 2 3 dL_law_1019 rfl rfl ?_
        refine q_aload_n (pc := 1020) C 0 1 dL_law_1020 rfl rfl ?_
        refine q_iload (pc := 1021) C 4 5 dL_law_1021 rfl ?_
        refine q_iconst (pc := 1023) C 1 dL_law_1023 (by decide) ?_
        refine q_iadd (pc := 1024) C dL_law_1024 ?_
        refine q_sld (pc := 1025) C hS h dL_law_1025 (fun x201 h => ?_)
        refine q_aload_n (pc := 1026) C 0 1 dL_law_1026 rfl rfl ?_
        refine q_iload (pc := 1027) C 4 5 dL_law_1027 rfl ?_
        refine q_iconst (pc := 1029) C 2 dL_law_1029 (by decide) ?_
        refine q_iadd (pc := 1030) C dL_law_1030 ?_
        refine q_sld (pc := 1031) C hS h dL_law_1031 (fun x202 h => ?_)
        obtain ⟨b205, fs9, hb205, hm9, h⟩ := h
        refine q_ci (pc := 1032) (q_rV C (st := []) (b := b205) (kX14_isGood l G b0 h) (cwV 2 C.2.2.2.2.1 (m_gapp gL_law_X14_isGood) rfl rfl rfl (by decide +kernel) ⟨Nat.le_of_ble_eq_true rfl, Nat.le_of_ble_eq_true rfl⟩) hm9 rfl rfl rfl (by first | exact Nat.le_of_ble_eq_true rfl | (simp [q_cat, q_catI, q_catJ, q_catR, q_catN]; done)) (by rw [hb205]; first | done | rfl) dL_law_1032 ⟨(by first | omega | (dsimp only; omega)), (by first | omega | (dsimp only; omega))⟩) (fun x203 M204 h => ?_)
        refine q_istore (pc := 1035) C 6 [(6, .int x203), (5, .int x199), (0, va_rf l0), (1, va_rf l1), (2, va_rf l2), (3, va_rf l3), (4, .int l4)] dL_law_1035 (by decide) (by first | rfl | simp [q_cat, q_catI, q_catJ, q_catR, q_catN]) ?_
        refine q_goto (pc := 1037) C 1259 dL_law_1037 (by decide) ?_
        refine q_lv [2, 3, 4, 5, 6] rfl ?_
        exact tL_law_1259 C hr hlocks hL hN hS hg hk9 ih h
      have h := h.2 c196
      by_cases c206 : (x3 &&& 31) = 20
      · have h := h.1 c206
        refine q_tableIn (pc := 43) C 1040 dL_law_43 (by rw [c206]; decide) (by rw [c206]; decide) (by rw [c206]; rfl) (by decide) ?_
        refine q_aload_n (pc := 1040) C 1 1 dL_law_1040 rfl rfl ?_
        refine q_aload_n (pc := 1041) C 0 0 dL_law_1041 rfl rfl ?_
        refine q_iload (pc := 1042) C 4 4 dL_law_1042 rfl ?_
        refine q_iconst (pc := 1044) C 1 dL_law_1044 (by decide) ?_
        refine q_iadd (pc := 1045) C dL_law_1045 ?_
        refine q_sld (pc := 1046) C hS h dL_law_1046 (fun x207 h => ?_)
        refine q_aload_n (pc := 1047) C 3 3 dL_law_1047 rfl rfl ?_
        obtain ⟨hbk, h⟩ := h
        refine q_ci (pc := 1048) (q_rSW C hN (st := []) (kL_queue l G b0 hL hg h) (vx_cwSW 3 C.2.2.2.2.1 (m_gws gL_law_L_queue) rfl rfl rfl (by decide +kernel) ⟨Nat.le_of_ble_eq_true rfl, Nat.le_of_ble_eq_true rfl⟩) rfl (by first | exact Nat.le_of_ble_eq_true rfl | (simp [q_cat, q_catI, q_catJ, q_catR, q_catN]; done)) rfl dL_law_1048 ⟨(by first | omega | (dsimp only; omega)), (by first | omega | (dsimp only; omega))⟩) (fun x208 M209 h => ?_)
        refine q_istore (pc := 1051) C 5 [(5, .int x208), (0, va_rf l0), (1, va_rf l1), (2, va_rf l2), (3, va_rf l3), (4, .int l4)] dL_law_1051 (by decide) (by first | rfl | simp [q_cat, q_catI, q_catJ, q_catR, q_catN]) ?_
        refine q_aload_n (pc := 1053) C 2 3 dL_law_1053 rfl rfl ?_
        refine q_aload_n (pc := 1054) C 0 1 dL_law_1054 rfl rfl ?_
        refine q_iload (pc := 1055) C 4 5 dL_law_1055 rfl ?_
        refine q_iconst (pc := 1057) C 1 dL_law_1057 (by decide) ?_
        refine q_iadd (pc := 1058) C dL_law_1058 ?_
        refine q_sld (pc := 1059) C hS h dL_law_1059 (fun x210 h => ?_)
        obtain ⟨hbk, h⟩ := h
        obtain ⟨b213, fs9, hb213, hm9, h⟩ := h
        refine q_cq (pc := 1060) (q_rV C (st := []) (b := b213) (kX14_queue l G b0 hg h) (cwV 1 C.2.2.2.2.1 (m_gapp gL_law_X14_queue) rfl rfl rfl (by decide +kernel) ⟨Nat.le_of_ble_eq_true rfl, Nat.le_of_ble_eq_true rfl⟩) hm9 rfl rfl rfl (by first | exact Nat.le_of_ble_eq_true rfl | (simp [q_cat, q_catI, q_catJ, q_catR, q_catN]; done)) (by rw [hb213]; first | done | rfl) dL_law_1060 ⟨(by first | omega | (dsimp only; omega)), (by first | omega | (dsimp only; omega))⟩) (fun x211 M212 h => ?_)
        refine q_astore (pc := 1063) C 6 [(6, va_rf x211), (5, .int x208), (0, va_rf l0), (1, va_rf l1), (2, va_rf l2), (3, va_rf l3), (4, .int l4)] dL_law_1063 (by decide) (by first | rfl | simp [q_cat, q_catI, q_catJ, q_catR, q_catN]) ?_
        refine q_goto (pc := 1065) C 1259 dL_law_1065 (by decide) ?_
        refine q_lv [2, 3, 4, 5, 6] rfl ?_
        exact tL_law_1259 C hr hlocks hL hN hS hg hk9 ih h
      have h := h.2 c206
      by_cases c214 : (x3 &&& 31) = 21
      · have h := h.1 c214
        refine q_tableIn (pc := 43) C 1068 dL_law_43 (by rw [c214]; decide) (by rw [c214]; decide) (by rw [c214]; rfl) (by decide) ?_
        refine q_aload_n (pc := 1068) C 1 1 dL_law_1068 rfl rfl ?_
        refine q_aload_n (pc := 1069) C 0 0 dL_law_1069 rfl rfl ?_
        refine q_iload (pc := 1070) C 4 4 dL_law_1070 rfl ?_
        refine q_iconst (pc := 1072) C 1 dL_law_1072 (by decide) ?_
        refine q_iadd (pc := 1073) C dL_law_1073 ?_
        refine q_sld (pc := 1074) C hS h dL_law_1074 (fun x215 h => ?_)
        refine q_aload_n (pc := 1075) C 3 3 dL_law_1075 rfl rfl ?_
        obtain ⟨hbk, h⟩ := h
        refine q_ci (pc := 1076) (q_rSW C hN (st := []) (kL_night l G b0 hL h) (vx_cwSW 3 C.2.2.2.2.1 (m_gws gL_law_L_night) rfl rfl rfl (by decide +kernel) ⟨Nat.le_of_ble_eq_true rfl, Nat.le_of_ble_eq_true rfl⟩) rfl (by first | exact Nat.le_of_ble_eq_true rfl | (simp [q_cat, q_catI, q_catJ, q_catR, q_catN]; done)) rfl dL_law_1076 ⟨(by first | omega | (dsimp only; omega)), (by first | omega | (dsimp only; omega))⟩) (fun x216 M217 h => ?_)
        refine q_istore (pc := 1079) C 5 [(5, .int x216), (0, va_rf l0), (1, va_rf l1), (2, va_rf l2), (3, va_rf l3), (4, .int l4)] dL_law_1079 (by decide) (by first | rfl | simp [q_cat, q_catI, q_catJ, q_catR, q_catN]) ?_
        refine q_aload_n (pc := 1081) C 2 3 dL_law_1081 rfl rfl ?_
        refine q_aload_n (pc := 1082) C 0 1 dL_law_1082 rfl rfl ?_
        refine q_iload (pc := 1083) C 4 5 dL_law_1083 rfl ?_
        refine q_iconst (pc := 1085) C 1 dL_law_1085 (by decide) ?_
        refine q_iadd (pc := 1086) C dL_law_1086 ?_
        refine q_sld (pc := 1087) C hS h dL_law_1087 (fun x218 h => ?_)
        obtain ⟨hbk, h⟩ := h
        obtain ⟨b221, fs9, hb221, hm9, h⟩ := h
        refine q_ci (pc := 1088) (q_rV C (st := []) (b := b221) (kX14_night l G b0 h) (cwV 1 C.2.2.2.2.1 (m_gapp gL_law_X14_night) rfl rfl rfl (by decide +kernel) ⟨Nat.le_of_ble_eq_true rfl, Nat.le_of_ble_eq_true rfl⟩) hm9 rfl rfl rfl (by first | exact Nat.le_of_ble_eq_true rfl | (simp [q_cat, q_catI, q_catJ, q_catR, q_catN]; done)) (by rw [hb221]; first | done | rfl) dL_law_1088 ⟨(by first | omega | (dsimp only; omega)), (by first | omega | (dsimp only; omega))⟩) (fun x219 M220 h => ?_)
        refine q_istore (pc := 1091) C 6 [(6, .int x219), (5, .int x216), (0, va_rf l0), (1, va_rf l1), (2, va_rf l2), (3, va_rf l3), (4, .int l4)] dL_law_1091 (by decide) (by first | rfl | simp [q_cat, q_catI, q_catJ, q_catR, q_catN]) ?_
        refine q_aload_n (pc := 1093) C 2 4 dL_law_1093 rfl rfl ?_
        obtain ⟨b224, fs9, hb224, hm9, h⟩ := h
        refine q_ci (pc := 1094) (q_rV C (st := []) (b := b224) (kX14_thrown l G b0 h) (cwV 0 C.2.2.2.2.1 (m_gapp gL_law_X14_thrown) rfl rfl rfl (by decide +kernel) ⟨Nat.le_of_ble_eq_true rfl, Nat.le_of_ble_eq_true rfl⟩) hm9 rfl rfl rfl (by first | exact Nat.le_of_ble_eq_true rfl | (simp [q_cat, q_catI, q_catJ, q_catR, q_catN]; done)) (by rw [hb224]; first | done | rfl) dL_law_1094 ⟨(by first | omega | (dsimp only; omega)), (by first | omega | (dsimp only; omega))⟩) (fun x222 M223 h => ?_)
        refine q_iload (pc := 1097) C 5 1 dL_law_1097 rfl ?_
        refine q_icmp_eq (pc := 1099) C 1104 dL_law_1099 (by decide) (fun c225 => ?_) (fun c225 => ?_)
        · have h := h.1 c225
          refine q_iload (pc := 1104) C 5 1 dL_law_1104 rfl ?_
          refine q_if_ne (pc := 1106) C 1122 dL_law_1106 (by decide) (fun c226 => ?_) (fun c226 => ?_)
          · have h := h.2 c226
            refine q_lv [2, 3, 4, 5, 6] rfl ?_
            exact tL_law_1122 C hr hlocks hL hN hS hg hk9 ih h
          · have h := h.1 c226
            refine q_aload_n (pc := 1109) C 3 5 dL_law_1109 rfl rfl ?_
            refine q_gJN (pc := 1110) C h (host := "LullabygateLaw") (T := TX9) rfl (by decide) (by decide +kernel) 528 (by decide +kernel) (fun _ h9 => h9) dL_law_1110 (fun x227 h => ?_)
            refine q_iload (pc := 1113) C 6 0 dL_law_1113 rfl ?_
            refine q_i2l (pc := 1115) C dL_law_1115 ?_
            refine q_lcmp (pc := 1116) C dL_law_1116 ?_
            refine q_if_eq (pc := 1117) C 1122 dL_law_1117 (by decide) (fun c228 => ?_) (fun c228 => ?_)
            · have h := h.1 c228
              refine q_lv [2, 3, 4, 5, 6] rfl ?_
              exact tL_law_1122 C hr hlocks hL hN hS hg hk9 ih h
            · have h := h.2 c228
              refine q_iconst (pc := 1120) C 0 dL_law_1120 (by decide) ?_
              obtain ⟨hbk, h⟩ := h
              exact q_lawret (pc := 1121) C hS hr hlocks (hk9 _ _ h) dL_law_1121 (by omega) (by omega)
        · have h := h.2 c225
          refine q_iconst (pc := 1102) C 0 dL_law_1102 (by decide) ?_
          obtain ⟨hbk, h⟩ := h
          exact q_lawret (pc := 1103) C hS hr hlocks (hk9 _ _ h) dL_law_1103 (by omega) (by omega)
      have h := h.2 c214
      by_cases c229 : (x3 &&& 31) = 22
      · have h := h.1 c229
        refine q_tableIn (pc := 43) C 1125 dL_law_43 (by rw [c229]; decide) (by rw [c229]; decide) (by rw [c229]; rfl) (by decide) ?_
        refine q_aload_n (pc := 1125) C 1 1 dL_law_1125 rfl rfl ?_
        refine q_aload_n (pc := 1126) C 0 0 dL_law_1126 rfl rfl ?_
        refine q_iload (pc := 1127) C 4 4 dL_law_1127 rfl ?_
        refine q_iconst (pc := 1129) C 1 dL_law_1129 (by decide) ?_
        refine q_iadd (pc := 1130) C dL_law_1130 ?_
        refine q_sld (pc := 1131) C hS h dL_law_1131 (fun x230 h => ?_)
        refine q_aload_n (pc := 1132) C 0 0 dL_law_1132 rfl rfl ?_
        refine q_iload (pc := 1133) C 4 4 dL_law_1133 rfl ?_
        refine q_iconst (pc := 1135) C 2 dL_law_1135 (by decide) ?_
        refine q_iadd (pc := 1136) C dL_law_1136 ?_
        refine q_sld (pc := 1137) C hS h dL_law_1137 (fun x231 h => ?_)
        refine q_aload_n (pc := 1138) C 3 3 dL_law_1138 rfl rfl ?_
        obtain ⟨hbk, h⟩ := h
        refine q_ci (pc := 1139) (q_rSW C hN (st := []) (kL_way l G b0 hL h) (vx_cwSW 4 C.2.2.2.2.1 (m_gws gL_law_L_way) rfl rfl rfl (by decide +kernel) ⟨Nat.le_of_ble_eq_true rfl, Nat.le_of_ble_eq_true rfl⟩) rfl (by first | exact Nat.le_of_ble_eq_true rfl | (simp [q_cat, q_catI, q_catJ, q_catR, q_catN]; done)) rfl dL_law_1139 ⟨(by first | omega | (dsimp only; omega)), (by first | omega | (dsimp only; omega))⟩) (fun x232 M233 h => ?_)
        refine q_istore (pc := 1142) C 5 [(5, .int x232), (0, va_rf l0), (1, va_rf l1), (2, va_rf l2), (3, va_rf l3), (4, .int l4)] dL_law_1142 (by decide) (by first | rfl | simp [q_cat, q_catI, q_catJ, q_catR, q_catN]) ?_
        refine q_aload_n (pc := 1144) C 2 3 dL_law_1144 rfl rfl ?_
        refine q_aload_n (pc := 1145) C 0 1 dL_law_1145 rfl rfl ?_
        refine q_iload (pc := 1146) C 4 5 dL_law_1146 rfl ?_
        refine q_iconst (pc := 1148) C 1 dL_law_1148 (by decide) ?_
        refine q_iadd (pc := 1149) C dL_law_1149 ?_
        refine q_sld (pc := 1150) C hS h dL_law_1150 (fun x234 h => ?_)
        refine q_aload_n (pc := 1151) C 0 1 dL_law_1151 rfl rfl ?_
        refine q_iload (pc := 1152) C 4 5 dL_law_1152 rfl ?_
        refine q_iconst (pc := 1154) C 2 dL_law_1154 (by decide) ?_
        refine q_iadd (pc := 1155) C dL_law_1155 ?_
        refine q_sld (pc := 1156) C hS h dL_law_1156 (fun x235 h => ?_)
        obtain ⟨b238, fs9, hb238, hm9, h⟩ := h
        refine q_ci (pc := 1157) (q_rV C (st := []) (b := b238) (kX14_way l G b0 h) (cwV 2 C.2.2.2.2.1 (m_gapp gL_law_X14_way) rfl rfl rfl (by decide +kernel) ⟨Nat.le_of_ble_eq_true rfl, Nat.le_of_ble_eq_true rfl⟩) hm9 rfl rfl rfl (by first | exact Nat.le_of_ble_eq_true rfl | (simp [q_cat, q_catI, q_catJ, q_catR, q_catN]; done)) (by rw [hb238]; first | done | rfl) dL_law_1157 ⟨(by first | omega | (dsimp only; omega)), (by first | omega | (dsimp only; omega))⟩) (fun x236 M237 h => ?_)
        refine q_istore (pc := 1160) C 6 [(6, .int x236), (5, .int x232), (0, va_rf l0), (1, va_rf l1), (2, va_rf l2), (3, va_rf l3), (4, .int l4)] dL_law_1160 (by decide) (by first | rfl | simp [q_cat, q_catI, q_catJ, q_catR, q_catN]) ?_
        refine q_goto (pc := 1162) C 1259 dL_law_1162 (by decide) ?_
        refine q_lv [2, 3, 4, 5, 6] rfl ?_
        exact tL_law_1259 C hr hlocks hL hN hS hg hk9 ih h
      have h := h.2 c229
      by_cases c239 : (x3 &&& 31) = 23
      · have h := h.1 c239
        refine q_tableIn (pc := 43) C 1165 dL_law_43 (by rw [c239]; decide) (by rw [c239]; decide) (by rw [c239]; rfl) (by decide) ?_
        refine q_aload_n (pc := 1165) C 1 1 dL_law_1165 rfl rfl ?_
        refine q_aload_n (pc := 1166) C 0 0 dL_law_1166 rfl rfl ?_
        refine q_iload (pc := 1167) C 4 4 dL_law_1167 rfl ?_
        refine q_iconst (pc := 1169) C 1 dL_law_1169 (by decide) ?_
        refine q_iadd (pc := 1170) C dL_law_1170 ?_
        refine q_sld (pc := 1171) C hS h dL_law_1171 (fun x240 h => ?_)
        refine q_aload_n (pc := 1172) C 0 0 dL_law_1172 rfl rfl ?_
        refine q_iload (pc := 1173) C 4 4 dL_law_1173 rfl ?_
        refine q_iconst (pc := 1175) C 2 dL_law_1175 (by decide) ?_
        refine q_iadd (pc := 1176) C dL_law_1176 ?_
        refine q_sld (pc := 1177) C hS h dL_law_1177 (fun x241 h => ?_)
        refine q_aload_n (pc := 1178) C 3 3 dL_law_1178 rfl rfl ?_
        obtain ⟨hbk, h⟩ := h
        refine q_ci (pc := 1179) (q_rSW C hN (st := []) (kL_plan l G b0 hL h) (vx_cwSW 4 C.2.2.2.2.1 (m_gws gL_law_L_plan) rfl rfl rfl (by decide +kernel) ⟨Nat.le_of_ble_eq_true rfl, Nat.le_of_ble_eq_true rfl⟩) rfl (by first | exact Nat.le_of_ble_eq_true rfl | (simp [q_cat, q_catI, q_catJ, q_catR, q_catN]; done)) rfl dL_law_1179 ⟨(by first | omega | (dsimp only; omega)), (by first | omega | (dsimp only; omega))⟩) (fun x242 M243 h => ?_)
        refine q_istore (pc := 1182) C 5 [(5, .int x242), (0, va_rf l0), (1, va_rf l1), (2, va_rf l2), (3, va_rf l3), (4, .int l4)] dL_law_1182 (by decide) (by first | rfl | simp [q_cat, q_catI, q_catJ, q_catR, q_catN]) ?_
        refine q_aload_n (pc := 1184) C 2 3 dL_law_1184 rfl rfl ?_
        refine q_aload_n (pc := 1185) C 0 1 dL_law_1185 rfl rfl ?_
        refine q_iload (pc := 1186) C 4 5 dL_law_1186 rfl ?_
        refine q_iconst (pc := 1188) C 1 dL_law_1188 (by decide) ?_
        refine q_iadd (pc := 1189) C dL_law_1189 ?_
        refine q_sld (pc := 1190) C hS h dL_law_1190 (fun x244 h => ?_)
        refine q_aload_n (pc := 1191) C 0 1 dL_law_1191 rfl rfl ?_
        refine q_iload (pc := 1192) C 4 5 dL_law_1192 rfl ?_
        refine q_iconst (pc := 1194) C 2 dL_law_1194 (by decide) ?_
        refine q_iadd (pc := 1195) C dL_law_1195 ?_
        refine q_sld (pc := 1196) C hS h dL_law_1196 (fun x245 h => ?_)
        obtain ⟨hbk, h⟩ := h
        obtain ⟨b248, fs9, hb248, hm9, h⟩ := h
        refine q_ci (pc := 1197) (q_rV C (st := []) (b := b248) (kX14_plan l G b0 h) (cwV 2 C.2.2.2.2.1 (m_gapp gL_law_X14_plan) rfl rfl rfl (by decide +kernel) ⟨Nat.le_of_ble_eq_true rfl, Nat.le_of_ble_eq_true rfl⟩) hm9 rfl rfl rfl (by first | exact Nat.le_of_ble_eq_true rfl | (simp [q_cat, q_catI, q_catJ, q_catR, q_catN]; done)) (by rw [hb248]; first | done | rfl) dL_law_1197 ⟨(by first | omega | (dsimp only; omega)), (by first | omega | (dsimp only; omega))⟩) (fun x246 M247 h => ?_)
        refine q_istore (pc := 1200) C 6 [(6, .int x246), (5, .int x242), (0, va_rf l0), (1, va_rf l1), (2, va_rf l2), (3, va_rf l3), (4, .int l4)] dL_law_1200 (by decide) (by first | rfl | simp [q_cat, q_catI, q_catJ, q_catR, q_catN]) ?_
        refine q_goto (pc := 1202) C 1259 dL_law_1202 (by decide) ?_
        refine q_lv [2, 3, 4, 5, 6] rfl ?_
        exact tL_law_1259 C hr hlocks hL hN hS hg hk9 ih h
      have h := h.2 c239
      by_cases c249 : (x3 &&& 31) = 24
      · have h := h.1 c249
        refine q_tableIn (pc := 43) C 1205 dL_law_43 (by rw [c249]; decide) (by rw [c249]; decide) (by rw [c249]; rfl) (by decide) ?_
        refine q_aload_n (pc := 1205) C 1 1 dL_law_1205 rfl rfl ?_
        refine q_aload_n (pc := 1206) C 0 0 dL_law_1206 rfl rfl ?_
        refine q_iload (pc := 1207) C 4 4 dL_law_1207 rfl ?_
        refine q_iconst (pc := 1209) C 1 dL_law_1209 (by decide) ?_
        refine q_iadd (pc := 1210) C dL_law_1210 ?_
        refine q_sld (pc := 1211) C hS h dL_law_1211 (fun x250 h => ?_)
        refine q_aload_n (pc := 1212) C 3 3 dL_law_1212 rfl rfl ?_
        obtain ⟨hbk, h⟩ := h
        refine q_ci (pc := 1213) (q_rSW C hN (st := []) (kL_wouldPay l G b0 hL h) (vx_cwSW 3 C.2.2.2.2.1 (m_gws gL_law_L_wouldPay) rfl rfl rfl (by decide +kernel) ⟨Nat.le_of_ble_eq_true rfl, Nat.le_of_ble_eq_true rfl⟩) rfl (by first | exact Nat.le_of_ble_eq_true rfl | (simp [q_cat, q_catI, q_catJ, q_catR, q_catN]; done)) rfl dL_law_1213 ⟨(by first | omega | (dsimp only; omega)), (by first | omega | (dsimp only; omega))⟩) (fun x251 M252 h => ?_)
        refine q_istore (pc := 1216) C 5 [(5, .int x251), (0, va_rf l0), (1, va_rf l1), (2, va_rf l2), (3, va_rf l3), (4, .int l4)] dL_law_1216 (by decide) (by first | rfl | simp [q_cat, q_catI, q_catJ, q_catR, q_catN]) ?_
        refine q_aload_n (pc := 1218) C 2 3 dL_law_1218 rfl rfl ?_
        refine q_aload_n (pc := 1219) C 0 1 dL_law_1219 rfl rfl ?_
        refine q_iload (pc := 1220) C 4 5 dL_law_1220 rfl ?_
        refine q_iconst (pc := 1222) C 1 dL_law_1222 (by decide) ?_
        refine q_iadd (pc := 1223) C dL_law_1223 ?_
        refine q_sld (pc := 1224) C hS h dL_law_1224 (fun x253 h => ?_)
        obtain ⟨b256, fs9, hb256, hm9, h⟩ := h
        refine q_ci (pc := 1225) (q_rV C (st := []) (b := b256) (kX14_wouldPay l G b0 h) (cwV 1 C.2.2.2.2.1 (m_gapp gL_law_X14_wouldPay) rfl rfl rfl (by decide +kernel) ⟨Nat.le_of_ble_eq_true rfl, Nat.le_of_ble_eq_true rfl⟩) hm9 rfl rfl rfl (by first | exact Nat.le_of_ble_eq_true rfl | (simp [q_cat, q_catI, q_catJ, q_catR, q_catN]; done)) (by rw [hb256]; first | done | rfl) dL_law_1225 ⟨(by first | omega | (dsimp only; omega)), (by first | omega | (dsimp only; omega))⟩) (fun x254 M255 h => ?_)
        refine q_istore (pc := 1228) C 6 [(6, .int x254), (5, .int x251), (0, va_rf l0), (1, va_rf l1), (2, va_rf l2), (3, va_rf l3), (4, .int l4)] dL_law_1228 (by decide) (by first | rfl | simp [q_cat, q_catI, q_catJ, q_catR, q_catN]) ?_
        refine q_goto (pc := 1230) C 1259 dL_law_1230 (by decide) ?_
        refine q_lv [2, 3, 4, 5, 6] rfl ?_
        exact tL_law_1259 C hr hlocks hL hN hS hg hk9 ih h
      have h := h.2 c249
      by_cases c257 : (x3 &&& 31) = 25
      · have h := h.1 c257
        refine q_tableIn (pc := 43) C 1233 dL_law_43 (by rw [c257]; decide) (by rw [c257]; decide) (by rw [c257]; rfl) (by decide) ?_
        refine q_aload_n (pc := 1233) C 1 1 dL_law_1233 rfl rfl ?_
        obtain ⟨b260, fs9, hb260, hm9, h⟩ := h
        refine q_ci (pc := 1234) (q_rV C (st := []) (b := b260) (kX8_isSound l G b0 h) (cwV 0 C.2.2.2.2.1 (m_gapp gL_law_X8_isSound) rfl rfl rfl (by decide +kernel) ⟨Nat.le_of_ble_eq_true rfl, Nat.le_of_ble_eq_true rfl⟩) hm9 rfl rfl rfl (by first | exact Nat.le_of_ble_eq_true rfl | (simp [q_cat, q_catI, q_catJ, q_catR, q_catN]; done)) (by rw [hb260]; first | done | rfl) dL_law_1234 ⟨(by first | omega | (dsimp only; omega)), (by first | omega | (dsimp only; omega))⟩) (fun x258 M259 h => ?_)
        refine q_pop (pc := 1237) C dL_law_1237 rfl ?_
        refine q_aload_n (pc := 1238) C 2 2 dL_law_1238 rfl rfl ?_
        obtain ⟨hbk, h⟩ := h
        obtain ⟨b263, fs9, hb263, hm9, h⟩ := h
        refine q_ci (pc := 1239) (q_rV C (st := []) (b := b263) (kX14_isSound l G b0 h) (cwV 0 C.2.2.2.2.1 (m_gapp gL_law_X14_isSound) rfl rfl rfl (by decide +kernel) ⟨Nat.le_of_ble_eq_true rfl, Nat.le_of_ble_eq_true rfl⟩) hm9 rfl rfl rfl (by first | exact Nat.le_of_ble_eq_true rfl | (simp [q_cat, q_catI, q_catJ, q_catR, q_catN]; done)) (by rw [hb263]; first | done | rfl) dL_law_1239 ⟨(by first | omega | (dsimp only; omega)), (by first | omega | (dsimp only; omega))⟩) (fun x261 M262 h => ?_)
        refine q_pop (pc := 1242) C dL_law_1242 rfl ?_
        refine q_goto (pc := 1243) C 1259 dL_law_1243 (by decide) ?_
        refine q_lv [0, 1, 2, 3, 4] rfl ?_
        exact tL_law_1259 C hr hlocks hL hN hS hg hk9 ih h
      have h := h.2 c257
      by_cases c264 : (x3 &&& 31) = 26
      · have h := h.1 c264
        refine q_tableIn (pc := 43) C 1246 dL_law_43 (by rw [c264]; decide) (by rw [c264]; decide) (by rw [c264]; rfl) (by decide) ?_
        refine q_aload_n (pc := 1246) C 1 1 dL_law_1246 rfl rfl ?_
        obtain ⟨b267, fs9, hb267, hm9, h⟩ := h
        refine q_cl (pc := 1247) (q_rV C (st := []) (b := b267) (kX8_digest l G b0 hL h) (cwV 0 C.2.2.2.2.1 (m_gapp gL_law_X8_digest) rfl rfl rfl (by decide +kernel) ⟨Nat.le_of_ble_eq_true rfl, Nat.le_of_ble_eq_true rfl⟩) hm9 rfl rfl rfl (by first | exact Nat.le_of_ble_eq_true rfl | (simp [q_cat, q_catI, q_catJ, q_catR, q_catN]; done)) (by rw [hb267]; first | done | rfl) dL_law_1247 ⟨(by first | omega | (dsimp only; omega)), (by first | omega | (dsimp only; omega))⟩) (fun x265 M266 h => ?_)
        refine q_pop2_2 (pc := 1250) C rfl dL_law_1250 ?_
        refine q_aload_n (pc := 1251) C 2 2 dL_law_1251 rfl rfl ?_
        obtain ⟨hbk, h⟩ := h
        obtain ⟨b270, fs9, hb270, hm9, h⟩ := h
        refine q_cl (pc := 1252) (q_rV C (st := []) (b := b270) (kX14_digest l G b0 h) (cwV 0 C.2.2.2.2.1 (m_gapp gL_law_X14_digest) rfl rfl rfl (by decide +kernel) ⟨Nat.le_of_ble_eq_true rfl, Nat.le_of_ble_eq_true rfl⟩) hm9 rfl rfl rfl (by first | exact Nat.le_of_ble_eq_true rfl | (simp [q_cat, q_catI, q_catJ, q_catR, q_catN]; done)) (by rw [hb270]; first | done | rfl) dL_law_1252 ⟨(by first | omega | (dsimp only; omega)), (by first | omega | (dsimp only; omega))⟩) (fun x268 M269 h => ?_)
        refine q_pop2_2 (pc := 1255) C rfl dL_law_1255 ?_
        refine q_goto (pc := 1256) C 1259 dL_law_1256 (by decide) ?_
        refine q_lv [0, 1, 2, 3, 4] rfl ?_
        exact tL_law_1259 C hr hlocks hL hN hS hg hk9 ih h
      have h := h.2 c264
      refine q_tableOut (pc := 43) C 1259 dL_law_43 ?_ (by decide) ?_
      · have hsw := m_sw (x := (x3 &&& 31)) 0 27 (fun j hj => by
          rcases (show j = 0 ∨ j = 1 ∨ j = 2 ∨ j = 3 ∨ j = 4 ∨ j = 5 ∨ j = 6 ∨ j = 7 ∨ j = 8 ∨ j = 9 ∨ j = 10 ∨ j = 11 ∨ j = 12 ∨ j = 13 ∨ j = 14 ∨ j = 15 ∨ j = 16 ∨ j = 17 ∨ j = 18 ∨ j = 19 ∨ j = 20 ∨ j = 21 ∨ j = 22 ∨ j = 23 ∨ j = 24 ∨ j = 25 ∨ j = 26 by omega) with rfl | rfl | rfl | rfl | rfl | rfl | rfl | rfl | rfl | rfl | rfl | rfl | rfl | rfl | rfl | rfl | rfl | rfl | rfl | rfl | rfl | rfl | rfl | rfl | rfl | rfl | rfl
          · exact c4
          · exact c16
          · exact c28
          · exact c42
          · exact c52
          · exact c60
          · exact c64
          · exact c78
          · exact c88
          · exact c102
          · exact c112
          · exact c124
          · exact c132
          · exact c140
          · exact c148
          · exact c156
          · exact c166
          · exact c176
          · exact c186
          · exact c196
          · exact c206
          · exact c214
          · exact c229
          · exact c239
          · exact c249
          · exact c257
          · exact c264
          ) (by decide)
        rcases hsw with q9 | q9
        · exact Or.inl (by simpa using q9)
        · exact Or.inr (by simp at q9 ⊢; omega)
      refine q_lv [0, 1, 2, 3, 4] rfl ?_
      exact tL_law_1259 C hr hlocks hL hN hS hg hk9 ih h
set_option maxRecDepth 100000 in
set_option maxHeartbeats 4000000 in
theorem tL_law {p : Program} {l : Launch} {e : Env} {s : State} {m : MethodId} {args : Array Value} {below : List Frame} {meth : Method} {c : Code} {G : mG} {b0 : Nat} (C : m_C p s m args c cL_law 7 RL wsL_lawA G b0) (hr : meth.sig.returnType = (some .boolean)) (hlocks : meth.locks = false) (hL : l.stackTraces = false) (hN : m_N s) {sb L : Nat} {xs : Nat → Int32} (hS : m_scr s args b0 sb L xs) {g : Nat → Nat} (hg : G.2.2 = g) {κ : Int32 → mM → Prop} (hk9 : ∀ x M, κ x M → x = 1) {l0 : Option Nat} {M : mM} (h : wL_law sb L xs g κ l0 M) : m_W p l e ({ frames := 2048, cells := 601024, slots := 7293034, locals := 84000 } : Room) s m args below meth c G b0 (lw_Z below args s) 7 M 0 0 0 [(0, va_rf l0)] [] := by
  unfold wL_law at h
  obtain ⟨hbk, h⟩ := h
  refine q_new (pc := 0) C h rfl (T := TX8) tyX8 tyX8_ok rfl (by decide +kernel) (by decide +kernel) (by decide +kernel) (by decide +kernel) (fun j hj => by rcases (show j = 0 ∨ j = 1 ∨ j = 2 ∨ j = 3 ∨ j = 4 ∨ j = 5 ∨ j = 6 ∨ j = 7 ∨ j = 8 ∨ j = 9 ∨ j = 10 by omega) with rfl | rfl | rfl | rfl | rfl | rfl | rfl | rfl | rfl | rfl | rfl <;> rfl) (by first | omega | (dsimp only; omega)) (by first | omega | (dsimp only; omega)) dL_law_0 (fun q1 M2 h => ?_)
  refine q_dup (pc := 3) C dL_law_3 (q_cat _) ?_
  obtain ⟨hbk, h⟩ := h
  obtain ⟨b4, fs9, hb4, hm9, h⟩ := h
  refine q_cv (pc := 4) (q_rI C (st := [va_rf (some q1)]) (b := b4) (kX8_init l G b0 hg h) (cwI 0 C.2.2.2.2.1 (m_gapp gL_law_X8_init) rfl rfl rfl (C.2.2.2.2.1 (.initialized RX8) (by decide +kernel)) (C.2.2.2.2.1 (.methodLink RL 108 yX8_init) (by decide +kernel)) (C.2.2.2.2.1 (.instanceMethod yX8_init) (by decide +kernel)) rfl (by decide +kernel) ⟨Nat.le_of_ble_eq_true rfl, Nat.le_of_ble_eq_true rfl⟩) rfl (by first | exact Nat.le_of_ble_eq_true rfl | (simp [q_cat, q_catI, q_catJ, q_catR, q_catN]; done)) (by rw [hb4]; first | done | rfl) dL_law_4 ⟨(by first | omega | (dsimp only; omega)), (by first | omega | (dsimp only; omega))⟩) (fun M3 h => ?_)
  refine q_astore_n (pc := 7) C 1 [(1, va_rf (some q1)), (0, va_rf l0)] dL_law_7 rfl (by decide) (by first | rfl | simp [q_cat, q_catI, q_catJ, q_catR, q_catN]) ?_
  obtain ⟨hbk, h⟩ := h
  refine q_new (pc := 8) C h rfl (T := TX14) tyX14 tyX14_ok rfl (by decide +kernel) (by decide +kernel) (by decide +kernel) (by decide +kernel) (fun j hj => by rcases (show j = 0 ∨ j = 1 ∨ j = 2 ∨ j = 3 ∨ j = 4 ∨ j = 5 ∨ j = 6 ∨ j = 7 ∨ j = 8 ∨ j = 9 ∨ j = 10 ∨ j = 11 ∨ j = 12 by omega) with rfl | rfl | rfl | rfl | rfl | rfl | rfl | rfl | rfl | rfl | rfl | rfl | rfl <;> rfl) (by first | omega | (dsimp only; omega)) (by first | omega | (dsimp only; omega)) dL_law_8 (fun q5 M6 h => ?_)
  refine q_dup (pc := 11) C dL_law_11 (q_cat _) ?_
  obtain ⟨hbk, h⟩ := h
  obtain ⟨b8, fs9, hb8, hm9, h⟩ := h
  refine q_cv (pc := 12) (q_rI C (st := [va_rf (some q5)]) (b := b8) (kX14_init l G b0 hg h) (cwI 0 C.2.2.2.2.1 (m_gapp gL_law_X14_init) rfl rfl rfl (C.2.2.2.2.1 (.initialized RX14) (by decide +kernel)) (C.2.2.2.2.1 (.methodLink RL 111 yX14_init) (by decide +kernel)) (C.2.2.2.2.1 (.instanceMethod yX14_init) (by decide +kernel)) rfl (by decide +kernel) ⟨Nat.le_of_ble_eq_true rfl, Nat.le_of_ble_eq_true rfl⟩) rfl (by first | exact Nat.le_of_ble_eq_true rfl | (simp [q_cat, q_catI, q_catJ, q_catR, q_catN]; done)) (by rw [hb8]; first | done | rfl) dL_law_12 ⟨(by first | omega | (dsimp only; omega)), (by first | omega | (dsimp only; omega))⟩) (fun M7 h => ?_)
  refine q_astore_n (pc := 15) C 2 [(2, va_rf (some q5)), (1, va_rf (some q1)), (0, va_rf l0)] dL_law_15 rfl (by decide) (by first | rfl | simp [q_cat, q_catI, q_catJ, q_catR, q_catN]) ?_
  obtain ⟨hbk, h⟩ := h
  refine q_new (pc := 16) C h rfl (T := TX9) tyX9 tyX9_ok rfl (by decide +kernel) (by decide +kernel) (by decide +kernel) (by decide +kernel) (fun j hj => by rcases (show j = 0 ∨ j = 1 by omega) with rfl | rfl <;> rfl) (by first | omega | (dsimp only; omega)) (by first | omega | (dsimp only; omega)) dL_law_16 (fun q9 M10 h => ?_)
  refine q_dup (pc := 19) C dL_law_19 (q_cat _) ?_
  obtain ⟨b12, fs9, hb12, hm9, h⟩ := h
  refine q_cv (pc := 20) (q_rIN C (st := [va_rf (some q9)]) (b := b12) (kX9_init l G b0 h) ⟨va_cnB (host := "LullabygateLaw") 0 C.2.2.2.2.1 (m_gapp gL_law_X9_init_n112) rfl rfl rfl (C.2.2.2.2.2.2.1.1 _ (List.mem_of_getElem? (i := 524) (by decide +kernel)) rfl) (C.2.2.2.2.1 (.initialized RX9) (by decide +kernel)) (by decide +kernel) ⟨Nat.le_of_ble_eq_true rfl, Nat.le_of_ble_eq_true rfl⟩, rfl, C.2.2.2.2.1 (.instanceMethod yX9_init) (by decide +kernel)⟩ rfl (by first | exact Nat.le_of_ble_eq_true rfl | (simp [q_cat, q_catI, q_catJ, q_catR, q_catN]; done)) (by rw [hb12]; first | done | rfl) dL_law_20 ⟨(by first | omega | (dsimp only; omega)), (by first | omega | (dsimp only; omega))⟩) (fun M11 h => ?_)
  refine q_astore_n (pc := 23) C 3 [(3, va_rf (some q9)), (2, va_rf (some q5)), (1, va_rf (some q1)), (0, va_rf l0)] dL_law_23 rfl (by decide) (by first | rfl | simp [q_cat, q_catI, q_catJ, q_catR, q_catN]) ?_
  refine q_iconst (pc := 24) C 0 dL_law_24 (by decide) ?_
  refine q_istore (pc := 25) C 4 [(4, .int 0), (3, va_rf (some q9)), (2, va_rf (some q5)), (1, va_rf (some q1)), (0, va_rf l0)] dL_law_25 (by decide) (by first | rfl | simp [q_cat, q_catI, q_catJ, q_catR, q_catN]) ?_
  refine q_lv [4, 3, 2, 1, 0] rfl ?_
  obtain ⟨f9, h⟩ := h
  exact tL_law_27 C hr hlocks hL hN hS hg hk9 f9 _ _ _ _ _ _ _ _ h
