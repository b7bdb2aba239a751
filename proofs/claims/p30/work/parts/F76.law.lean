/-! L_law -/
set_option maxRecDepth 100000 in
set_option maxHeartbeats 4000000 in
theorem tL_law_427 {p : Program} {l : Launch} {e : Env} {s : State} {m : MethodId} {args : Array Value} {below : List Frame} {meth : Method} {c : Code} {G : mG} {b0 : Nat} (C : m_C p s m args c cL_law 16 RL wsL_law G b0) (hr : meth.sig.returnType = (some .boolean)) (hlocks : meth.locks = false) (hL : l.stackTraces = false) (hN : m_N s) {sb L : Nat} {xs : Nat → Int32} (hS : m_scr s args b0 sb L xs) {g : Nat → Nat} (hg : G.2.2 = g) {κ : Int32 → mM → Prop} (hk9 : ∀ x M, κ x M → x = 1) {R90 : Nat → Nat → Option Nat → Option Nat → Int32 → Int32 → Option Nat → Option Nat → Option Nat → Option Nat → Int32 → mM → Prop} (hR90 : ∀ (k9 n9 : Nat) (l0 : Option Nat) (l1 : Option Nat) (l2 : Int32) (l3 : Int32) (l4 : Option Nat) (l5 : Option Nat) (l6 : Option Nat) (l7 : Option Nat) (l8 : Int32) (M : mM), R90 k9 n9 l0 l1 l2 l3 l4 l5 l6 l7 l8 M → m_W p l e ({ frames := 18, cells := 600104, slots := 7301313, locals := 734 } : Room) s m args below meth c G b0 (lw_Z below args s) 16 M k9 n9 90 [(0, va_rf l0), (1, va_rf l1), (2, .int l2), (3, .int l3), (4, va_rf l4), (5, va_rf l5), (6, va_rf l6), (7, va_rf l7), (8, .int l8)] []) {R353 : Nat → Nat → Option Nat → Option Nat → Int32 → Int32 → Option Nat → Option Nat → Option Nat → Option Nat → Int32 → Int32 → mM → Prop} (hR353 : ∀ (k9 n9 : Nat) (l0 : Option Nat) (l1 : Option Nat) (l2 : Int32) (l3 : Int32) (l4 : Option Nat) (l5 : Option Nat) (l6 : Option Nat) (l7 : Option Nat) (l8 : Int32) (l13 : Int32) (M : mM), R353 k9 n9 l0 l1 l2 l3 l4 l5 l6 l7 l8 l13 M → m_W p l e ({ frames := 18, cells := 600104, slots := 7301313, locals := 734 } : Room) s m args below meth c G b0 (lw_Z below args s) 16 M k9 n9 353 [(0, va_rf l0), (1, va_rf l1), (2, .int l2), (3, .int l3), (4, va_rf l4), (5, va_rf l5), (6, va_rf l6), (7, va_rf l7), (8, .int l8), (13, .int l13)] []) {k9 n9 : Nat} {l0 : Option Nat} {l1 : Option Nat} {l2 : Int32} {l3 : Int32} {l4 : Option Nat} {l5 : Option Nat} {l6 : Option Nat} {l7 : Option Nat} {l8 : Int32} {l13 : Int32} {s0 : Int32} {s1 : Int32} {s2 : Int32} {s3 : Option Nat} {M : mM} (h : wL_law_427 sb L xs g κ R90 R353 k9 n9 l0 l1 l2 l3 l4 l5 l6 l7 l8 l13 s0 s1 s2 s3 M) : m_W p l e ({ frames := 18, cells := 600104, slots := 7301313, locals := 734 } : Room) s m args below meth c G b0 (lw_Z below args s) 16 M k9 n9 427 [(0, va_rf l0), (1, va_rf l1), (2, .int l2), (3, .int l3), (4, va_rf l4), (5, va_rf l5), (6, va_rf l6), (7, va_rf l7), (8, .int l8), (13, .int l13)] [.int s0, .int s1, .int s2, va_rf s3] := by
  unfold wL_law_427 at h
  obtain ⟨hbk, h⟩ := h
  refine q_ior (pc := 427) C dL_law_427 ?_
  refine q_zast (pc := 428) C h dL_law_428 (fun M1 h => ?_)
  refine q_iinc (pc := 429) C 13 9 (l13 + 1) [(13, .int (l13 + 1)), (0, va_rf l0), (1, va_rf l1), (2, .int l2), (3, .int l3), (4, va_rf l4), (5, va_rf l5), (6, va_rf l6), (7, va_rf l7), (8, .int l8)] dL_law_429 rfl (by rfl) (by decide) (by first | rfl | simp [q_cat, q_catI, q_catJ, q_catR, q_catN]) ?_
  refine q_goto (pc := 432) C 353 dL_law_432 (by decide) ?_
  refine q_lv [1, 2, 3, 4, 5, 6, 7, 8, 9, 0] rfl ?_
  exact hR353 _ _ _ _ _ _ _ _ _ _ _ _ _ h
set_option maxRecDepth 100000 in
set_option maxHeartbeats 4000000 in
theorem tL_law_410 {p : Program} {l : Launch} {e : Env} {s : State} {m : MethodId} {args : Array Value} {below : List Frame} {meth : Method} {c : Code} {G : mG} {b0 : Nat} (C : m_C p s m args c cL_law 16 RL wsL_law G b0) (hr : meth.sig.returnType = (some .boolean)) (hlocks : meth.locks = false) (hL : l.stackTraces = false) (hN : m_N s) {sb L : Nat} {xs : Nat → Int32} (hS : m_scr s args b0 sb L xs) {g : Nat → Nat} (hg : G.2.2 = g) {κ : Int32 → mM → Prop} (hk9 : ∀ x M, κ x M → x = 1) {R90 : Nat → Nat → Option Nat → Option Nat → Int32 → Int32 → Option Nat → Option Nat → Option Nat → Option Nat → Int32 → mM → Prop} (hR90 : ∀ (k9 n9 : Nat) (l0 : Option Nat) (l1 : Option Nat) (l2 : Int32) (l3 : Int32) (l4 : Option Nat) (l5 : Option Nat) (l6 : Option Nat) (l7 : Option Nat) (l8 : Int32) (M : mM), R90 k9 n9 l0 l1 l2 l3 l4 l5 l6 l7 l8 M → m_W p l e ({ frames := 18, cells := 600104, slots := 7301313, locals := 734 } : Room) s m args below meth c G b0 (lw_Z below args s) 16 M k9 n9 90 [(0, va_rf l0), (1, va_rf l1), (2, .int l2), (3, .int l3), (4, va_rf l4), (5, va_rf l5), (6, va_rf l6), (7, va_rf l7), (8, .int l8)] []) {R353 : Nat → Nat → Option Nat → Option Nat → Int32 → Int32 → Option Nat → Option Nat → Option Nat → Option Nat → Int32 → Int32 → mM → Prop} (hR353 : ∀ (k9 n9 : Nat) (l0 : Option Nat) (l1 : Option Nat) (l2 : Int32) (l3 : Int32) (l4 : Option Nat) (l5 : Option Nat) (l6 : Option Nat) (l7 : Option Nat) (l8 : Int32) (l13 : Int32) (M : mM), R353 k9 n9 l0 l1 l2 l3 l4 l5 l6 l7 l8 l13 M → m_W p l e ({ frames := 18, cells := 600104, slots := 7301313, locals := 734 } : Room) s m args below meth c G b0 (lw_Z below args s) 16 M k9 n9 353 [(0, va_rf l0), (1, va_rf l1), (2, .int l2), (3, .int l3), (4, va_rf l4), (5, va_rf l5), (6, va_rf l6), (7, va_rf l7), (8, .int l8), (13, .int l13)] []) {k9 n9 : Nat} {l0 : Option Nat} {l1 : Option Nat} {l2 : Int32} {l3 : Int32} {l4 : Option Nat} {l5 : Option Nat} {l6 : Option Nat} {l7 : Option Nat} {l8 : Int32} {l13 : Int32} {l14 : Int32} {M : mM} (h : wL_law_410 sb L xs g κ R90 R353 k9 n9 l0 l1 l2 l3 l4 l5 l6 l7 l8 l13 l14 M) : m_W p l e ({ frames := 18, cells := 600104, slots := 7301313, locals := 734 } : Room) s m args below meth c G b0 (lw_Z below args s) 16 M k9 n9 410 [(0, va_rf l0), (1, va_rf l1), (2, .int l2), (3, .int l3), (4, va_rf l4), (5, va_rf l5), (6, va_rf l6), (7, va_rf l7), (8, .int l8), (13, .int l13), (14, .int l14)] [] := by
  unfold wL_law_410 at h
  obtain ⟨hbk, h⟩ := h
  refine q_aload (pc := 410) C 6 6 dL_law_410 rfl ?_
  refine q_iload (pc := 412) C 13 9 dL_law_412 rfl ?_
  refine q_dup2_11 (pc := 414) C rfl (q_cat _) dL_law_414 ?_
  refine q_zald (pc := 415) C h dL_law_415 (fun x1 h => ?_)
  refine q_iload (pc := 416) C 14 10 dL_law_416 rfl ?_
  refine q_iconst (pc := 418) C 2 dL_law_418 (by decide) ?_
  refine q_icmp_ne (pc := 419) C 426 dL_law_419 (by decide) (fun c2 => ?_) (fun c2 => ?_)
  · have h := h.2 c2
    refine q_iconst (pc := 426) C 0 dL_law_426 (by decide) ?_
    refine q_lv [0, 1, 2, 3, 4, 5, 6, 7, 8, 9] rfl ?_
    exact tL_law_427 C hr hlocks hL hN hS hg hk9 hR90 hR353 h
  · have h := h.1 c2
    refine q_iconst (pc := 422) C 1 dL_law_422 (by decide) ?_
    refine q_goto (pc := 423) C 427 dL_law_423 (by decide) ?_
    refine q_lv [0, 1, 2, 3, 4, 5, 6, 7, 8, 9] rfl ?_
    exact tL_law_427 C hr hlocks hL hN hS hg hk9 hR90 hR353 h
set_option maxRecDepth 100000 in
set_option maxHeartbeats 4000000 in
theorem tL_law_382 {p : Program} {l : Launch} {e : Env} {s : State} {m : MethodId} {args : Array Value} {below : List Frame} {meth : Method} {c : Code} {G : mG} {b0 : Nat} (C : m_C p s m args c cL_law 16 RL wsL_law G b0) (hr : meth.sig.returnType = (some .boolean)) (hlocks : meth.locks = false) (hL : l.stackTraces = false) (hN : m_N s) {sb L : Nat} {xs : Nat → Int32} (hS : m_scr s args b0 sb L xs) {g : Nat → Nat} (hg : G.2.2 = g) {κ : Int32 → mM → Prop} (hk9 : ∀ x M, κ x M → x = 1) {R90 : Nat → Nat → Option Nat → Option Nat → Int32 → Int32 → Option Nat → Option Nat → Option Nat → Option Nat → Int32 → mM → Prop} (hR90 : ∀ (k9 n9 : Nat) (l0 : Option Nat) (l1 : Option Nat) (l2 : Int32) (l3 : Int32) (l4 : Option Nat) (l5 : Option Nat) (l6 : Option Nat) (l7 : Option Nat) (l8 : Int32) (M : mM), R90 k9 n9 l0 l1 l2 l3 l4 l5 l6 l7 l8 M → m_W p l e ({ frames := 18, cells := 600104, slots := 7301313, locals := 734 } : Room) s m args below meth c G b0 (lw_Z below args s) 16 M k9 n9 90 [(0, va_rf l0), (1, va_rf l1), (2, .int l2), (3, .int l3), (4, va_rf l4), (5, va_rf l5), (6, va_rf l6), (7, va_rf l7), (8, .int l8)] []) {R353 : Nat → Nat → Option Nat → Option Nat → Int32 → Int32 → Option Nat → Option Nat → Option Nat → Option Nat → Int32 → Int32 → mM → Prop} (hR353 : ∀ (k9 n9 : Nat) (l0 : Option Nat) (l1 : Option Nat) (l2 : Int32) (l3 : Int32) (l4 : Option Nat) (l5 : Option Nat) (l6 : Option Nat) (l7 : Option Nat) (l8 : Int32) (l13 : Int32) (M : mM), R353 k9 n9 l0 l1 l2 l3 l4 l5 l6 l7 l8 l13 M → m_W p l e ({ frames := 18, cells := 600104, slots := 7301313, locals := 734 } : Room) s m args below meth c G b0 (lw_Z below args s) 16 M k9 n9 353 [(0, va_rf l0), (1, va_rf l1), (2, .int l2), (3, .int l3), (4, va_rf l4), (5, va_rf l5), (6, va_rf l6), (7, va_rf l7), (8, .int l8), (13, .int l13)] []) {k9 n9 : Nat} {l0 : Option Nat} {l1 : Option Nat} {l2 : Int32} {l3 : Int32} {l4 : Option Nat} {l5 : Option Nat} {l6 : Option Nat} {l7 : Option Nat} {l8 : Int32} {l13 : Int32} {l14 : Int32} {M : mM} (h : wL_law_382 sb L xs g κ R90 R353 k9 n9 l0 l1 l2 l3 l4 l5 l6 l7 l8 l13 l14 M) : m_W p l e ({ frames := 18, cells := 600104, slots := 7301313, locals := 734 } : Room) s m args below meth c G b0 (lw_Z below args s) 16 M k9 n9 382 [(0, va_rf l0), (1, va_rf l1), (2, .int l2), (3, .int l3), (4, va_rf l4), (5, va_rf l5), (6, va_rf l6), (7, va_rf l7), (8, .int l8), (13, .int l13), (14, .int l14)] [] := by
  unfold wL_law_382 at h
  obtain ⟨hbk, h⟩ := h
  refine q_iload (pc := 382) C 14 10 dL_law_382 rfl ?_
  refine q_iconst (pc := 384) C 2 dL_law_384 (by decide) ?_
  refine q_icmp_ne (pc := 385) C 410 dL_law_385 (by decide) (fun c1 => ?_) (fun c1 => ?_)
  · have h := h.2 c1
    refine q_lv [0, 1, 2, 3, 4, 5, 6, 7, 8, 9, 10] rfl ?_
    exact tL_law_410 C hr hlocks hL hN hS hg hk9 hR90 hR353 h
  · have h := h.1 c1
    refine q_aload_n (pc := 388) C 1 1 dL_law_388 rfl rfl ?_
    refine q_iload (pc := 389) C 13 9 dL_law_389 rfl ?_
    refine q_iconst (pc := 391) C 5 dL_law_391 (by decide) ?_
    obtain ⟨b4, fs9, hb4, hm9, h⟩ := h
    refine q_cXi (pc := 392) (q_rVX C (st := []) (b := b4) (kX8_ofSleeper l G b0 (t := 0) hL (fun _ _ h9 => h9.elim) h) (cwV 2 C.2.2.2.2.1 gL_law_X8_ofSleeper rfl rfl rfl (by decide +kernel) ⟨Nat.le_of_ble_eq_true rfl, Nat.le_of_ble_eq_true rfl⟩) hm9 rfl rfl rfl (by first | exact Nat.le_of_ble_eq_true rfl | (simp [q_cat, q_catI, q_catJ, q_catR, q_catN]; done)) (by rw [hb4]; first | done | rfl) dL_law_392 ⟨(by first | omega | (dsimp only; omega)), (by first | omega | (dsimp only; omega))⟩) (fun E9 M9 h9 => h9.elim) (fun x2 M3 h => ?_)
    refine q_if_ne (pc := 395) C 408 dL_law_395 (by decide) (fun c5 => ?_) (fun c5 => ?_)
    · have h := h.2 c5
      refine q_iconst (pc := 408) C 0 dL_law_408 (by decide) ?_
      obtain ⟨hbk, h⟩ := h
      exact q_lawret (pc := 409) C hS hr hlocks (hk9 _ _ h) dL_law_409 (by omega) (by omega)
    · have h := h.1 c5
      refine q_aload_n (pc := 398) C 1 1 dL_law_398 rfl rfl ?_
      refine q_iload (pc := 399) C 13 9 dL_law_399 rfl ?_
      refine q_iconst (pc := 401) C 1 dL_law_401 (by decide) ?_
      obtain ⟨b8, fs9, hb8, hm9, h⟩ := h
      refine q_cXi (pc := 402) (q_rVX C (st := []) (b := b8) (kX8_ofSleeper l G b0 (t := 0) hL (fun _ _ h9 => h9.elim) h) (cwV 2 C.2.2.2.2.1 gL_law_X8_ofSleeper rfl rfl rfl (by decide +kernel) ⟨Nat.le_of_ble_eq_true rfl, Nat.le_of_ble_eq_true rfl⟩) hm9 rfl rfl rfl (by first | exact Nat.le_of_ble_eq_true rfl | (simp [q_cat, q_catI, q_catJ, q_catR, q_catN]; done)) (by rw [hb8]; first | done | rfl) dL_law_402 ⟨(by first | omega | (dsimp only; omega)), (by first | omega | (dsimp only; omega))⟩) (fun E9 M9 h9 => h9.elim) (fun x6 M7 h => ?_)
      refine q_if_eq (pc := 405) C 410 dL_law_405 (by decide) (fun c9 => ?_) (fun c9 => ?_)
      · have h := h.1 c9
        refine q_lv [0, 1, 2, 3, 4, 5, 6, 7, 8, 9, 10] rfl ?_
        exact tL_law_410 C hr hlocks hL hN hS hg hk9 hR90 hR353 h
      · have h := h.2 c9
        refine q_iconst (pc := 408) C 0 dL_law_408 (by decide) ?_
        obtain ⟨hbk, h⟩ := h
        exact q_lawret (pc := 409) C hS hr hlocks (hk9 _ _ h) dL_law_409 (by omega) (by omega)
set_option maxRecDepth 100000 in
set_option maxHeartbeats 4000000 in
theorem tL_law_353 {p : Program} {l : Launch} {e : Env} {s : State} {m : MethodId} {args : Array Value} {below : List Frame} {meth : Method} {c : Code} {G : mG} {b0 : Nat} (C : m_C p s m args c cL_law 16 RL wsL_law G b0) (hr : meth.sig.returnType = (some .boolean)) (hlocks : meth.locks = false) (hL : l.stackTraces = false) (hN : m_N s) {sb L : Nat} {xs : Nat → Int32} (hS : m_scr s args b0 sb L xs) {g : Nat → Nat} (hg : G.2.2 = g) {κ : Int32 → mM → Prop} (hk9 : ∀ x M, κ x M → x = 1) {R90 : Nat → Nat → Option Nat → Option Nat → Int32 → Int32 → Option Nat → Option Nat → Option Nat → Option Nat → Int32 → mM → Prop} (hR90 : ∀ (k9 n9 : Nat) (l0 : Option Nat) (l1 : Option Nat) (l2 : Int32) (l3 : Int32) (l4 : Option Nat) (l5 : Option Nat) (l6 : Option Nat) (l7 : Option Nat) (l8 : Int32) (M : mM), R90 k9 n9 l0 l1 l2 l3 l4 l5 l6 l7 l8 M → m_W p l e ({ frames := 18, cells := 600104, slots := 7301313, locals := 734 } : Room) s m args below meth c G b0 (lw_Z below args s) 16 M k9 n9 90 [(0, va_rf l0), (1, va_rf l1), (2, .int l2), (3, .int l3), (4, va_rf l4), (5, va_rf l5), (6, va_rf l6), (7, va_rf l7), (8, .int l8)] []) : ∀ (f : Nat) (k9 n9 : Nat) (l0 : Option Nat) (l1 : Option Nat) (l2 : Int32) (l3 : Int32) (l4 : Option Nat) (l5 : Option Nat) (l6 : Option Nat) (l7 : Option Nat) (l8 : Int32) (l13 : Int32) (M : mM), wL_law_353 sb L xs g κ R90 f k9 n9 l0 l1 l2 l3 l4 l5 l6 l7 l8 l13 M → m_W p l e ({ frames := 18, cells := 600104, slots := 7301313, locals := 734 } : Room) s m args below meth c G b0 (lw_Z below args s) 16 M k9 n9 353 [(0, va_rf l0), (1, va_rf l1), (2, .int l2), (3, .int l3), (4, va_rf l4), (5, va_rf l5), (6, va_rf l6), (7, va_rf l7), (8, .int l8), (13, .int l13)] [] := by
  intro f
  induction f with
  | zero =>
    intro k9 n9 l0 l1 l2 l3 l4 l5 l6 l7 l8 l13 M h
    exact absurd h (by simp [wL_law_353])
  | succ f ih =>
    intro k9 n9 l0 l1 l2 l3 l4 l5 l6 l7 l8 l13 M h
    rw [wL_law_353] at h
    obtain ⟨hbk, h⟩ := h
    refine q_iload (pc := 353) C 13 9 dL_law_353 rfl ?_
    refine q_iload_n (pc := 355) C 3 3 dL_law_355 rfl rfl ?_
    refine q_icmp_ge (pc := 356) C 435 dL_law_356 (by decide) (fun c1 => ?_) (fun c1 => ?_)
    · have h := h.1 c1
      refine q_aload_n (pc := 435) C 1 1 dL_law_435 rfl rfl ?_
      refine q_ci (pc := 436) (q_rS C (st := []) (kL_isSo l G b0 hL h) (va_cwS 1 C.2.2.2.2.1 gL_law_L_isSo rfl rfl rfl (by decide +kernel) ⟨Nat.le_of_ble_eq_true rfl, Nat.le_of_ble_eq_true rfl⟩) rfl (by first | exact Nat.le_of_ble_eq_true rfl | (simp [q_cat, q_catI, q_catJ, q_catR, q_catN]; done)) rfl dL_law_436 ⟨(by first | omega | (dsimp only; omega)), (by first | omega | (dsimp only; omega))⟩) (fun x2 M3 h => ?_)
      refine q_if_ne (pc := 439) C 444 dL_law_439 (by decide) (fun c4 => ?_) (fun c4 => ?_)
      · have h := h.2 c4
        refine q_iinc (pc := 444) C 8 8 (l8 + 1) [(8, .int (l8 + 1)), (0, va_rf l0), (1, va_rf l1), (2, .int l2), (3, .int l3), (4, va_rf l4), (5, va_rf l5), (6, va_rf l6), (7, va_rf l7), (13, .int l13)] dL_law_444 rfl (by rfl) (by decide) (by first | rfl | simp [q_cat, q_catI, q_catJ, q_catR, q_catN]) ?_
        refine q_goto (pc := 447) C 90 dL_law_447 (by decide) ?_
        refine q_lv [1, 2, 3, 4, 5, 6, 7, 8, 0] rfl ?_
        exact hR90 _ _ _ _ _ _ _ _ _ _ _ _ h
      · have h := h.1 c4
        refine q_iconst (pc := 442) C 0 dL_law_442 (by decide) ?_
        obtain ⟨hbk, h⟩ := h
        exact q_lawret (pc := 443) C hS hr hlocks (hk9 _ _ h) dL_law_443 (by omega) (by omega)
    · have h := h.2 c1
      refine q_aload_n (pc := 359) C 1 1 dL_law_359 rfl rfl ?_
      refine q_iload (pc := 360) C 13 9 dL_law_360 rfl ?_
      refine q_iconst (pc := 362) C 2 dL_law_362 (by decide) ?_
      obtain ⟨b7, fs9, hb7, hm9, h⟩ := h
      refine q_cXi (pc := 363) (q_rVX C (st := []) (b := b7) (kX8_ofSleeper l G b0 (t := 0) hL (fun _ _ h9 => h9.elim) h) (cwV 2 C.2.2.2.2.1 gL_law_X8_ofSleeper rfl rfl rfl (by decide +kernel) ⟨Nat.le_of_ble_eq_true rfl, Nat.le_of_ble_eq_true rfl⟩) hm9 rfl rfl rfl (by first | exact Nat.le_of_ble_eq_true rfl | (simp [q_cat, q_catI, q_catJ, q_catR, q_catN]; done)) (by rw [hb7]; first | done | rfl) dL_law_363 ⟨(by first | omega | (dsimp only; omega)), (by first | omega | (dsimp only; omega))⟩) (fun E9 M9 h9 => h9.elim) (fun x5 M6 h => ?_)
      refine q_istore (pc := 366) C 14 [(14, .int x5), (0, va_rf l0), (1, va_rf l1), (2, .int l2), (3, .int l3), (4, va_rf l4), (5, va_rf l5), (6, va_rf l6), (7, va_rf l7), (8, .int l8), (13, .int l13)] dL_law_366 (by decide) (by first | rfl | simp [q_cat, q_catI, q_catJ, q_catR, q_catN]) ?_
      refine q_aload (pc := 368) C 6 7 dL_law_368 rfl ?_
      refine q_iload (pc := 370) C 13 10 dL_law_370 rfl ?_
      refine q_zald (pc := 372) C h dL_law_372 (fun x8 h => ?_)
      refine q_if_eq (pc := 373) C 382 dL_law_373 (by decide) (fun c9 => ?_) (fun c9 => ?_)
      · have h := h.1 c9
        refine q_lv [1, 2, 3, 4, 5, 6, 7, 8, 9, 10, 0] rfl ?_
        exact tL_law_382 C hr hlocks hL hN hS hg hk9 hR90 ih h
      · have h := h.2 c9
        refine q_iload (pc := 376) C 14 0 dL_law_376 rfl ?_
        refine q_iconst (pc := 378) C 2 dL_law_378 (by decide) ?_
        refine q_icmp_ne (pc := 379) C 408 dL_law_379 (by decide) (fun c10 => ?_) (fun c10 => ?_)
        · have h := h.2 c10
          refine q_iconst (pc := 408) C 0 dL_law_408 (by decide) ?_
          obtain ⟨hbk, h⟩ := h
          exact q_lawret (pc := 409) C hS hr hlocks (hk9 _ _ h) dL_law_409 (by omega) (by omega)
        · have h := h.1 c10
          refine q_lv [1, 2, 3, 4, 5, 6, 7, 8, 9, 10, 0] rfl ?_
          exact tL_law_382 C hr hlocks hL hN hS hg hk9 hR90 ih h
set_option maxRecDepth 100000 in
set_option maxHeartbeats 4000000 in
theorem tL_law_342 {p : Program} {l : Launch} {e : Env} {s : State} {m : MethodId} {args : Array Value} {below : List Frame} {meth : Method} {c : Code} {G : mG} {b0 : Nat} (C : m_C p s m args c cL_law 16 RL wsL_law G b0) (hr : meth.sig.returnType = (some .boolean)) (hlocks : meth.locks = false) (hL : l.stackTraces = false) (hN : m_N s) {sb L : Nat} {xs : Nat → Int32} (hS : m_scr s args b0 sb L xs) {g : Nat → Nat} (hg : G.2.2 = g) {κ : Int32 → mM → Prop} (hk9 : ∀ x M, κ x M → x = 1) {R90 : Nat → Nat → Option Nat → Option Nat → Int32 → Int32 → Option Nat → Option Nat → Option Nat → Option Nat → Int32 → mM → Prop} (hR90 : ∀ (k9 n9 : Nat) (l0 : Option Nat) (l1 : Option Nat) (l2 : Int32) (l3 : Int32) (l4 : Option Nat) (l5 : Option Nat) (l6 : Option Nat) (l7 : Option Nat) (l8 : Int32) (M : mM), R90 k9 n9 l0 l1 l2 l3 l4 l5 l6 l7 l8 M → m_W p l e ({ frames := 18, cells := 600104, slots := 7301313, locals := 734 } : Room) s m args below meth c G b0 (lw_Z below args s) 16 M k9 n9 90 [(0, va_rf l0), (1, va_rf l1), (2, .int l2), (3, .int l3), (4, va_rf l4), (5, va_rf l5), (6, va_rf l6), (7, va_rf l7), (8, .int l8)] []) {R227 : Nat → Nat → Option Nat → Option Nat → Int32 → Int32 → Option Nat → Option Nat → Option Nat → Option Nat → Int32 → Int32 → mM → Prop} (hR227 : ∀ (k9 n9 : Nat) (l0 : Option Nat) (l1 : Option Nat) (l2 : Int32) (l3 : Int32) (l4 : Option Nat) (l5 : Option Nat) (l6 : Option Nat) (l7 : Option Nat) (l8 : Int32) (l13 : Int32) (M : mM), R227 k9 n9 l0 l1 l2 l3 l4 l5 l6 l7 l8 l13 M → m_W p l e ({ frames := 18, cells := 600104, slots := 7301313, locals := 734 } : Room) s m args below meth c G b0 (lw_Z below args s) 16 M k9 n9 227 [(0, va_rf l0), (1, va_rf l1), (2, .int l2), (3, .int l3), (4, va_rf l4), (5, va_rf l5), (6, va_rf l6), (7, va_rf l7), (8, .int l8), (13, .int l13)] []) {k9 n9 : Nat} {l0 : Option Nat} {l1 : Option Nat} {l2 : Int32} {l3 : Int32} {l4 : Option Nat} {l5 : Option Nat} {l6 : Option Nat} {l7 : Option Nat} {l8 : Int32} {l13 : Int32} {s0 : Int32} {s1 : Int32} {s2 : Int32} {s3 : Option Nat} {M : mM} (h : wL_law_342 sb L xs g κ R90 R227 k9 n9 l0 l1 l2 l3 l4 l5 l6 l7 l8 l13 s0 s1 s2 s3 M) : m_W p l e ({ frames := 18, cells := 600104, slots := 7301313, locals := 734 } : Room) s m args below meth c G b0 (lw_Z below args s) 16 M k9 n9 342 [(0, va_rf l0), (1, va_rf l1), (2, .int l2), (3, .int l3), (4, va_rf l4), (5, va_rf l5), (6, va_rf l6), (7, va_rf l7), (8, .int l8), (13, .int l13)] [.int s0, .int s1, .int s2, va_rf s3] := by
  unfold wL_law_342 at h
  obtain ⟨hbk, h⟩ := h
  refine q_ior (pc := 342) C dL_law_342 ?_
  refine q_zast (pc := 343) C h dL_law_343 (fun M1 h => ?_)
  refine q_iinc (pc := 344) C 13 9 (l13 + 1) [(13, .int (l13 + 1)), (0, va_rf l0), (1, va_rf l1), (2, .int l2), (3, .int l3), (4, va_rf l4), (5, va_rf l5), (6, va_rf l6), (7, va_rf l7), (8, .int l8)] dL_law_344 rfl (by rfl) (by decide) (by first | rfl | simp [q_cat, q_catI, q_catJ, q_catR, q_catN]) ?_
  refine q_goto (pc := 347) C 227 dL_law_347 (by decide) ?_
  refine q_lv [1, 2, 3, 4, 5, 6, 7, 8, 9, 0] rfl ?_
  exact hR227 _ _ _ _ _ _ _ _ _ _ _ _ _ h
set_option maxRecDepth 100000 in
set_option maxHeartbeats 4000000 in
theorem tL_law_325 {p : Program} {l : Launch} {e : Env} {s : State} {m : MethodId} {args : Array Value} {below : List Frame} {meth : Method} {c : Code} {G : mG} {b0 : Nat} (C : m_C p s m args c cL_law 16 RL wsL_law G b0) (hr : meth.sig.returnType = (some .boolean)) (hlocks : meth.locks = false) (hL : l.stackTraces = false) (hN : m_N s) {sb L : Nat} {xs : Nat → Int32} (hS : m_scr s args b0 sb L xs) {g : Nat → Nat} (hg : G.2.2 = g) {κ : Int32 → mM → Prop} (hk9 : ∀ x M, κ x M → x = 1) {R90 : Nat → Nat → Option Nat → Option Nat → Int32 → Int32 → Option Nat → Option Nat → Option Nat → Option Nat → Int32 → mM → Prop} (hR90 : ∀ (k9 n9 : Nat) (l0 : Option Nat) (l1 : Option Nat) (l2 : Int32) (l3 : Int32) (l4 : Option Nat) (l5 : Option Nat) (l6 : Option Nat) (l7 : Option Nat) (l8 : Int32) (M : mM), R90 k9 n9 l0 l1 l2 l3 l4 l5 l6 l7 l8 M → m_W p l e ({ frames := 18, cells := 600104, slots := 7301313, locals := 734 } : Room) s m args below meth c G b0 (lw_Z below args s) 16 M k9 n9 90 [(0, va_rf l0), (1, va_rf l1), (2, .int l2), (3, .int l3), (4, va_rf l4), (5, va_rf l5), (6, va_rf l6), (7, va_rf l7), (8, .int l8)] []) {R227 : Nat → Nat → Option Nat → Option Nat → Int32 → Int32 → Option Nat → Option Nat → Option Nat → Option Nat → Int32 → Int32 → mM → Prop} (hR227 : ∀ (k9 n9 : Nat) (l0 : Option Nat) (l1 : Option Nat) (l2 : Int32) (l3 : Int32) (l4 : Option Nat) (l5 : Option Nat) (l6 : Option Nat) (l7 : Option Nat) (l8 : Int32) (l13 : Int32) (M : mM), R227 k9 n9 l0 l1 l2 l3 l4 l5 l6 l7 l8 l13 M → m_W p l e ({ frames := 18, cells := 600104, slots := 7301313, locals := 734 } : Room) s m args below meth c G b0 (lw_Z below args s) 16 M k9 n9 227 [(0, va_rf l0), (1, va_rf l1), (2, .int l2), (3, .int l3), (4, va_rf l4), (5, va_rf l5), (6, va_rf l6), (7, va_rf l7), (8, .int l8), (13, .int l13)] []) {k9 n9 : Nat} {l0 : Option Nat} {l1 : Option Nat} {l2 : Int32} {l3 : Int32} {l4 : Option Nat} {l5 : Option Nat} {l6 : Option Nat} {l7 : Option Nat} {l8 : Int32} {l13 : Int32} {l14 : Int32} {M : mM} (h : wL_law_325 sb L xs g κ R90 R227 k9 n9 l0 l1 l2 l3 l4 l5 l6 l7 l8 l13 l14 M) : m_W p l e ({ frames := 18, cells := 600104, slots := 7301313, locals := 734 } : Room) s m args below meth c G b0 (lw_Z below args s) 16 M k9 n9 325 [(0, va_rf l0), (1, va_rf l1), (2, .int l2), (3, .int l3), (4, va_rf l4), (5, va_rf l5), (6, va_rf l6), (7, va_rf l7), (8, .int l8), (13, .int l13), (14, .int l14)] [] := by
  unfold wL_law_325 at h
  obtain ⟨hbk, h⟩ := h
  refine q_aload (pc := 325) C 5 5 dL_law_325 rfl ?_
  refine q_iload (pc := 327) C 13 9 dL_law_327 rfl ?_
  refine q_dup2_11 (pc := 329) C rfl (q_cat _) dL_law_329 ?_
  refine q_zald (pc := 330) C h dL_law_330 (fun x1 h => ?_)
  refine q_iload (pc := 331) C 14 10 dL_law_331 rfl ?_
  refine q_iconst (pc := 333) C (-1) dL_law_333 (by decide) ?_
  refine q_icmp_ne (pc := 334) C 341 dL_law_334 (by decide) (fun c2 => ?_) (fun c2 => ?_)
  · have h := h.2 c2
    refine q_iconst (pc := 341) C 0 dL_law_341 (by decide) ?_
    refine q_lv [0, 1, 2, 3, 4, 5, 6, 7, 8, 9] rfl ?_
    exact tL_law_342 C hr hlocks hL hN hS hg hk9 hR90 hR227 h
  · have h := h.1 c2
    refine q_iconst (pc := 337) C 1 dL_law_337 (by decide) ?_
    refine q_goto (pc := 338) C 342 dL_law_338 (by decide) ?_
    refine q_lv [0, 1, 2, 3, 4, 5, 6, 7, 8, 9] rfl ?_
    exact tL_law_342 C hr hlocks hL hN hS hg hk9 hR90 hR227 h
set_option maxRecDepth 100000 in
set_option maxHeartbeats 4000000 in
theorem tL_law_303 {p : Program} {l : Launch} {e : Env} {s : State} {m : MethodId} {args : Array Value} {below : List Frame} {meth : Method} {c : Code} {G : mG} {b0 : Nat} (C : m_C p s m args c cL_law 16 RL wsL_law G b0) (hr : meth.sig.returnType = (some .boolean)) (hlocks : meth.locks = false) (hL : l.stackTraces = false) (hN : m_N s) {sb L : Nat} {xs : Nat → Int32} (hS : m_scr s args b0 sb L xs) {g : Nat → Nat} (hg : G.2.2 = g) {κ : Int32 → mM → Prop} (hk9 : ∀ x M, κ x M → x = 1) {R90 : Nat → Nat → Option Nat → Option Nat → Int32 → Int32 → Option Nat → Option Nat → Option Nat → Option Nat → Int32 → mM → Prop} (hR90 : ∀ (k9 n9 : Nat) (l0 : Option Nat) (l1 : Option Nat) (l2 : Int32) (l3 : Int32) (l4 : Option Nat) (l5 : Option Nat) (l6 : Option Nat) (l7 : Option Nat) (l8 : Int32) (M : mM), R90 k9 n9 l0 l1 l2 l3 l4 l5 l6 l7 l8 M → m_W p l e ({ frames := 18, cells := 600104, slots := 7301313, locals := 734 } : Room) s m args below meth c G b0 (lw_Z below args s) 16 M k9 n9 90 [(0, va_rf l0), (1, va_rf l1), (2, .int l2), (3, .int l3), (4, va_rf l4), (5, va_rf l5), (6, va_rf l6), (7, va_rf l7), (8, .int l8)] []) {R227 : Nat → Nat → Option Nat → Option Nat → Int32 → Int32 → Option Nat → Option Nat → Option Nat → Option Nat → Int32 → Int32 → mM → Prop} (hR227 : ∀ (k9 n9 : Nat) (l0 : Option Nat) (l1 : Option Nat) (l2 : Int32) (l3 : Int32) (l4 : Option Nat) (l5 : Option Nat) (l6 : Option Nat) (l7 : Option Nat) (l8 : Int32) (l13 : Int32) (M : mM), R227 k9 n9 l0 l1 l2 l3 l4 l5 l6 l7 l8 l13 M → m_W p l e ({ frames := 18, cells := 600104, slots := 7301313, locals := 734 } : Room) s m args below meth c G b0 (lw_Z below args s) 16 M k9 n9 227 [(0, va_rf l0), (1, va_rf l1), (2, .int l2), (3, .int l3), (4, va_rf l4), (5, va_rf l5), (6, va_rf l6), (7, va_rf l7), (8, .int l8), (13, .int l13)] []) {k9 n9 : Nat} {l0 : Option Nat} {l1 : Option Nat} {l2 : Int32} {l3 : Int32} {l4 : Option Nat} {l5 : Option Nat} {l6 : Option Nat} {l7 : Option Nat} {l8 : Int32} {l13 : Int32} {l14 : Int32} {l15 : Int32} {M : mM} (h : wL_law_303 sb L xs g κ R90 R227 k9 n9 l0 l1 l2 l3 l4 l5 l6 l7 l8 l13 l14 l15 M) : m_W p l e ({ frames := 18, cells := 600104, slots := 7301313, locals := 734 } : Room) s m args below meth c G b0 (lw_Z below args s) 16 M k9 n9 303 [(0, va_rf l0), (1, va_rf l1), (2, .int l2), (3, .int l3), (4, va_rf l4), (5, va_rf l5), (6, va_rf l6), (7, va_rf l7), (8, .int l8), (13, .int l13), (14, .int l14), (15, .int l15)] [] := by
  unfold wL_law_303 at h
  obtain ⟨hbk, h⟩ := h
  refine q_iload (pc := 303) C 15 11 dL_law_303 rfl ?_
  refine q_if_lt (pc := 305) C 325 dL_law_305 (by decide) (fun c1 => ?_) (fun c1 => ?_)
  · have h := h.1 c1
    refine q_lv [0, 1, 2, 3, 4, 5, 6, 7, 8, 9, 10] rfl ?_
    exact tL_law_325 C hr hlocks hL hN hS hg hk9 hR90 hR227 h
  · have h := h.2 c1
    refine q_aload_n (pc := 308) C 1 1 dL_law_308 rfl rfl ?_
    refine q_iload (pc := 309) C 15 11 dL_law_309 rfl ?_
    refine q_iconst (pc := 311) C 5 dL_law_311 (by decide) ?_
    obtain ⟨b4, fs9, hb4, hm9, h⟩ := h
    refine q_cXi (pc := 312) (q_rVX C (st := []) (b := b4) (kX8_ofSleeper l G b0 (t := 0) hL (fun _ _ h9 => h9.elim) h) (cwV 2 C.2.2.2.2.1 gL_law_X8_ofSleeper rfl rfl rfl (by decide +kernel) ⟨Nat.le_of_ble_eq_true rfl, Nat.le_of_ble_eq_true rfl⟩) hm9 rfl rfl rfl (by first | exact Nat.le_of_ble_eq_true rfl | (simp [q_cat, q_catI, q_catJ, q_catR, q_catN]; done)) (by rw [hb4]; first | done | rfl) dL_law_312 ⟨(by first | omega | (dsimp only; omega)), (by first | omega | (dsimp only; omega))⟩) (fun E9 M9 h9 => h9.elim) (fun x2 M3 h => ?_)
    refine q_iload (pc := 315) C 13 9 dL_law_315 rfl ?_
    refine q_ishr (pc := 317) C dL_law_317 ?_
    refine m_stk (st2 := .int (m_shr x2 l13) :: _) rfl ?_
    refine q_iconst (pc := 318) C 1 dL_law_318 (by decide) ?_
    refine q_iand (pc := 319) C dL_law_319 ?_
    refine q_if_ne (pc := 320) C 325 dL_law_320 (by decide) (fun c5 => ?_) (fun c5 => ?_)
    · have h := h.2 c5
      refine q_lv [0, 1, 2, 3, 4, 5, 6, 7, 8, 9, 10] rfl ?_
      exact tL_law_325 C hr hlocks hL hN hS hg hk9 hR90 hR227 h
    · have h := h.1 c5
      refine q_iconst (pc := 323) C 0 dL_law_323 (by decide) ?_
      obtain ⟨hbk, h⟩ := h
      exact q_lawret (pc := 324) C hS hr hlocks (hk9 _ _ h) dL_law_324 (by omega) (by omega)
set_option maxRecDepth 100000 in
set_option maxHeartbeats 4000000 in
theorem tL_law_227 {p : Program} {l : Launch} {e : Env} {s : State} {m : MethodId} {args : Array Value} {below : List Frame} {meth : Method} {c : Code} {G : mG} {b0 : Nat} (C : m_C p s m args c cL_law 16 RL wsL_law G b0) (hr : meth.sig.returnType = (some .boolean)) (hlocks : meth.locks = false) (hL : l.stackTraces = false) (hN : m_N s) {sb L : Nat} {xs : Nat → Int32} (hS : m_scr s args b0 sb L xs) {g : Nat → Nat} (hg : G.2.2 = g) {κ : Int32 → mM → Prop} (hk9 : ∀ x M, κ x M → x = 1) {R90 : Nat → Nat → Option Nat → Option Nat → Int32 → Int32 → Option Nat → Option Nat → Option Nat → Option Nat → Int32 → mM → Prop} (hR90 : ∀ (k9 n9 : Nat) (l0 : Option Nat) (l1 : Option Nat) (l2 : Int32) (l3 : Int32) (l4 : Option Nat) (l5 : Option Nat) (l6 : Option Nat) (l7 : Option Nat) (l8 : Int32) (M : mM), R90 k9 n9 l0 l1 l2 l3 l4 l5 l6 l7 l8 M → m_W p l e ({ frames := 18, cells := 600104, slots := 7301313, locals := 734 } : Room) s m args below meth c G b0 (lw_Z below args s) 16 M k9 n9 90 [(0, va_rf l0), (1, va_rf l1), (2, .int l2), (3, .int l3), (4, va_rf l4), (5, va_rf l5), (6, va_rf l6), (7, va_rf l7), (8, .int l8)] []) : ∀ (f : Nat) (k9 n9 : Nat) (l0 : Option Nat) (l1 : Option Nat) (l2 : Int32) (l3 : Int32) (l4 : Option Nat) (l5 : Option Nat) (l6 : Option Nat) (l7 : Option Nat) (l8 : Int32) (l13 : Int32) (M : mM), wL_law_227 sb L xs g κ R90 f k9 n9 l0 l1 l2 l3 l4 l5 l6 l7 l8 l13 M → m_W p l e ({ frames := 18, cells := 600104, slots := 7301313, locals := 734 } : Room) s m args below meth c G b0 (lw_Z below args s) 16 M k9 n9 227 [(0, va_rf l0), (1, va_rf l1), (2, .int l2), (3, .int l3), (4, va_rf l4), (5, va_rf l5), (6, va_rf l6), (7, va_rf l7), (8, .int l8), (13, .int l13)] [] := by
  intro f
  induction f with
  | zero =>
    intro k9 n9 l0 l1 l2 l3 l4 l5 l6 l7 l8 l13 M h
    exact absurd h (by simp [wL_law_227])
  | succ f ih =>
    intro k9 n9 l0 l1 l2 l3 l4 l5 l6 l7 l8 l13 M h
    rw [wL_law_227] at h
    obtain ⟨hbk, h⟩ := h
    refine q_iload (pc := 227) C 13 9 dL_law_227 rfl ?_
    refine q_iload_n (pc := 229) C 2 2 dL_law_229 rfl rfl ?_
    refine q_icmp_ge (pc := 230) C 350 dL_law_230 (by decide) (fun c1 => ?_) (fun c1 => ?_)
    · have h := h.1 c1
      refine q_iconst (pc := 350) C 0 dL_law_350 (by decide) ?_
      refine q_istore (pc := 351) C 13 [(13, .int 0), (0, va_rf l0), (1, va_rf l1), (2, .int l2), (3, .int l3), (4, va_rf l4), (5, va_rf l5), (6, va_rf l6), (7, va_rf l7), (8, .int l8)] dL_law_351 (by decide) (by first | rfl | simp [q_cat, q_catI, q_catJ, q_catR, q_catN]) ?_
      refine q_lv [1, 2, 3, 4, 5, 6, 7, 8, 9, 0] rfl ?_
      obtain ⟨f9, h⟩ := h
      exact tL_law_353 C hr hlocks hL hN hS hg hk9 hR90 f9 _ _ _ _ _ _ _ _ _ _ _ _ _ h
    · have h := h.2 c1
      refine q_aload_n (pc := 233) C 1 1 dL_law_233 rfl rfl ?_
      refine q_iload (pc := 234) C 13 9 dL_law_234 rfl ?_
      refine q_iconst (pc := 236) C 4 dL_law_236 (by decide) ?_
      obtain ⟨b4, fs9, hb4, hm9, h⟩ := h
      refine q_cXi (pc := 237) (q_rVX C (st := []) (b := b4) (kX8_ofPart l G b0 (t := 0) hL (fun _ _ h9 => h9.elim) h) (cwV 2 C.2.2.2.2.1 gL_law_X8_ofPart rfl rfl rfl (by decide +kernel) ⟨Nat.le_of_ble_eq_true rfl, Nat.le_of_ble_eq_true rfl⟩) hm9 rfl rfl rfl (by first | exact Nat.le_of_ble_eq_true rfl | (simp [q_cat, q_catI, q_catJ, q_catR, q_catN]; done)) (by rw [hb4]; first | done | rfl) dL_law_237 ⟨(by first | omega | (dsimp only; omega)), (by first | omega | (dsimp only; omega))⟩) (fun E9 M9 h9 => h9.elim) (fun x2 M3 h => ?_)
      refine q_istore (pc := 240) C 14 [(14, .int x2), (0, va_rf l0), (1, va_rf l1), (2, .int l2), (3, .int l3), (4, va_rf l4), (5, va_rf l5), (6, va_rf l6), (7, va_rf l7), (8, .int l8), (13, .int l13)] dL_law_240 (by decide) (by first | rfl | simp [q_cat, q_catI, q_catJ, q_catR, q_catN]) ?_
      refine q_aload_n (pc := 242) C 1 2 dL_law_242 rfl rfl ?_
      refine q_iload (pc := 243) C 13 10 dL_law_243 rfl ?_
      refine q_iconst (pc := 245) C 5 dL_law_245 (by decide) ?_
      obtain ⟨b7, fs9, hb7, hm9, h⟩ := h
      refine q_cXi (pc := 246) (q_rVX C (st := []) (b := b7) (kX8_ofPart l G b0 (t := 0) hL (fun _ _ h9 => h9.elim) h) (cwV 2 C.2.2.2.2.1 gL_law_X8_ofPart rfl rfl rfl (by decide +kernel) ⟨Nat.le_of_ble_eq_true rfl, Nat.le_of_ble_eq_true rfl⟩) hm9 rfl rfl rfl (by first | exact Nat.le_of_ble_eq_true rfl | (simp [q_cat, q_catI, q_catJ, q_catR, q_catN]; done)) (by rw [hb7]; first | done | rfl) dL_law_246 ⟨(by first | omega | (dsimp only; omega)), (by first | omega | (dsimp only; omega))⟩) (fun E9 M9 h9 => h9.elim) (fun x5 M6 h => ?_)
      refine q_istore (pc := 249) C 15 [(15, .int x5), (14, .int x2), (0, va_rf l0), (1, va_rf l1), (2, .int l2), (3, .int l3), (4, va_rf l4), (5, va_rf l5), (6, va_rf l6), (7, va_rf l7), (8, .int l8), (13, .int l13)] dL_law_249 (by decide) (by first | rfl | simp [q_cat, q_catI, q_catJ, q_catR, q_catN]) ?_
      refine q_aload (pc := 251) C 4 6 dL_law_251 rfl ?_
      refine q_iload (pc := 253) C 13 11 dL_law_253 rfl ?_
      refine q_iald (pc := 255) C h dL_law_255 (fun x8 h => ?_)
      refine q_bipush (pc := 256) C 100 dL_law_256 (by decide) ?_
      refine q_aload_n (pc := 258) C 1 3 dL_law_258 rfl rfl ?_
      refine q_iload (pc := 259) C 13 11 dL_law_259 rfl ?_
      refine q_iconst (pc := 261) C 0 dL_law_261 (by decide) ?_
      obtain ⟨b11, fs9, hb11, hm9, h⟩ := h
      refine q_cXi (pc := 262) (q_rVX C (st := [.int 100, .int x8]) (b := b11) (kX8_ofPart l G b0 (t := 0) hL (fun _ _ h9 => h9.elim) h) (cwV 2 C.2.2.2.2.1 gL_law_X8_ofPart rfl rfl rfl (by decide +kernel) ⟨Nat.le_of_ble_eq_true rfl, Nat.le_of_ble_eq_true rfl⟩) hm9 rfl rfl rfl (by first | exact Nat.le_of_ble_eq_true rfl | (simp [q_cat, q_catI, q_catJ, q_catR, q_catN]; done)) (by rw [hb11]; first | done | rfl) dL_law_262 ⟨(by first | omega | (dsimp only; omega)), (by first | omega | (dsimp only; omega))⟩) (fun E9 M9 h9 => h9.elim) (fun x9 M10 h => ?_)
      refine q_imul (pc := 265) C dL_law_265 ?_
      refine q_aload_n (pc := 266) C 1 3 dL_law_266 rfl rfl ?_
      refine q_iload (pc := 267) C 13 11 dL_law_267 rfl ?_
      refine q_iconst (pc := 269) C 1 dL_law_269 (by decide) ?_
      obtain ⟨b14, fs9, hb14, hm9, h⟩ := h
      refine q_cXi (pc := 270) (q_rVX C (st := [.int (100 * x9), .int x8]) (b := b14) (kX8_ofPart l G b0 (t := 0) hL (fun _ _ h9 => h9.elim) h) (cwV 2 C.2.2.2.2.1 gL_law_X8_ofPart rfl rfl rfl (by decide +kernel) ⟨Nat.le_of_ble_eq_true rfl, Nat.le_of_ble_eq_true rfl⟩) hm9 rfl rfl rfl (by first | exact Nat.le_of_ble_eq_true rfl | (simp [q_cat, q_catI, q_catJ, q_catR, q_catN]; done)) (by rw [hb14]; first | done | rfl) dL_law_270 ⟨(by first | omega | (dsimp only; omega)), (by first | omega | (dsimp only; omega))⟩) (fun E9 M9 h9 => h9.elim) (fun x12 M13 h => ?_)
      refine q_iadd (pc := 273) C dL_law_273 ?_
      refine q_sipush (pc := 274) C 1000 dL_law_274 (by decide) ?_
      refine q_aload_n (pc := 277) C 1 3 dL_law_277 rfl rfl ?_
      refine q_iload (pc := 278) C 13 11 dL_law_278 rfl ?_
      refine q_iconst (pc := 280) C 2 dL_law_280 (by decide) ?_
      obtain ⟨b17, fs9, hb17, hm9, h⟩ := h
      refine q_cXi (pc := 281) (q_rVX C (st := [.int 1000, .int ((100 * x9) + x12), .int x8]) (b := b17) (kX8_ofPart l G b0 (t := 0) hL (fun _ _ h9 => h9.elim) h) (cwV 2 C.2.2.2.2.1 gL_law_X8_ofPart rfl rfl rfl (by decide +kernel) ⟨Nat.le_of_ble_eq_true rfl, Nat.le_of_ble_eq_true rfl⟩) hm9 rfl rfl rfl (by first | exact Nat.le_of_ble_eq_true rfl | (simp [q_cat, q_catI, q_catJ, q_catR, q_catN]; done)) (by rw [hb17]; first | done | rfl) dL_law_281 ⟨(by first | omega | (dsimp only; omega)), (by first | omega | (dsimp only; omega))⟩) (fun E9 M9 h9 => h9.elim) (fun x15 M16 h => ?_)
      refine q_imul (pc := 284) C dL_law_284 ?_
      refine q_iadd (pc := 285) C dL_law_285 ?_
      refine q_icmp_ne (pc := 286) C 323 dL_law_286 (by decide) (fun c18 => ?_) (fun c18 => ?_)
      · have h := h.2 c18
        refine q_iconst (pc := 323) C 0 dL_law_323 (by decide) ?_
        obtain ⟨hbk, h⟩ := h
        exact q_lawret (pc := 324) C hS hr hlocks (hk9 _ _ h) dL_law_324 (by omega) (by omega)
      · have h := h.1 c18
        refine q_aload (pc := 289) C 5 7 dL_law_289 rfl ?_
        refine q_iload (pc := 291) C 13 11 dL_law_291 rfl ?_
        refine q_zald (pc := 293) C h dL_law_293 (fun x19 h => ?_)
        refine q_if_eq (pc := 294) C 303 dL_law_294 (by decide) (fun c20 => ?_) (fun c20 => ?_)
        · have h := h.1 c20
          refine q_lv [2, 3, 4, 5, 6, 7, 8, 9, 10, 11, 1, 0] rfl ?_
          exact tL_law_303 C hr hlocks hL hN hS hg hk9 hR90 ih h
        · have h := h.2 c20
          refine q_iload (pc := 297) C 14 1 dL_law_297 rfl ?_
          refine q_iconst (pc := 299) C (-1) dL_law_299 (by decide) ?_
          refine q_icmp_ne (pc := 300) C 323 dL_law_300 (by decide) (fun c21 => ?_) (fun c21 => ?_)
          · have h := h.2 c21
            refine q_iconst (pc := 323) C 0 dL_law_323 (by decide) ?_
            obtain ⟨hbk, h⟩ := h
            exact q_lawret (pc := 324) C hS hr hlocks (hk9 _ _ h) dL_law_324 (by omega) (by omega)
          · have h := h.1 c21
            refine q_lv [2, 3, 4, 5, 6, 7, 8, 9, 10, 11, 1, 0] rfl ?_
            exact tL_law_303 C hr hlocks hL hN hS hg hk9 hR90 ih h
set_option maxRecDepth 100000 in
set_option maxHeartbeats 4000000 in
theorem tL_law_187 {p : Program} {l : Launch} {e : Env} {s : State} {m : MethodId} {args : Array Value} {below : List Frame} {meth : Method} {c : Code} {G : mG} {b0 : Nat} (C : m_C p s m args c cL_law 16 RL wsL_law G b0) (hr : meth.sig.returnType = (some .boolean)) (hlocks : meth.locks = false) (hL : l.stackTraces = false) (hN : m_N s) {sb L : Nat} {xs : Nat → Int32} (hS : m_scr s args b0 sb L xs) {g : Nat → Nat} (hg : G.2.2 = g) {κ : Int32 → mM → Prop} (hk9 : ∀ x M, κ x M → x = 1) {R90 : Nat → Nat → Option Nat → Option Nat → Int32 → Int32 → Option Nat → Option Nat → Option Nat → Option Nat → Int32 → mM → Prop} (hR90 : ∀ (k9 n9 : Nat) (l0 : Option Nat) (l1 : Option Nat) (l2 : Int32) (l3 : Int32) (l4 : Option Nat) (l5 : Option Nat) (l6 : Option Nat) (l7 : Option Nat) (l8 : Int32) (M : mM), R90 k9 n9 l0 l1 l2 l3 l4 l5 l6 l7 l8 M → m_W p l e ({ frames := 18, cells := 600104, slots := 7301313, locals := 734 } : Room) s m args below meth c G b0 (lw_Z below args s) 16 M k9 n9 90 [(0, va_rf l0), (1, va_rf l1), (2, .int l2), (3, .int l3), (4, va_rf l4), (5, va_rf l5), (6, va_rf l6), (7, va_rf l7), (8, .int l8)] []) : ∀ (f : Nat) (k9 n9 : Nat) (l0 : Option Nat) (l1 : Option Nat) (l2 : Int32) (l3 : Int32) (l4 : Option Nat) (l5 : Option Nat) (l6 : Option Nat) (l7 : Option Nat) (l8 : Int32) (l12 : Option Nat) (l13 : Int32) (M : mM), wL_law_187 sb L xs g κ R90 f k9 n9 l0 l1 l2 l3 l4 l5 l6 l7 l8 l12 l13 M → m_W p l e ({ frames := 18, cells := 600104, slots := 7301313, locals := 734 } : Room) s m args below meth c G b0 (lw_Z below args s) 16 M k9 n9 187 [(0, va_rf l0), (1, va_rf l1), (2, .int l2), (3, .int l3), (4, va_rf l4), (5, va_rf l5), (6, va_rf l6), (7, va_rf l7), (8, .int l8), (12, va_rf l12), (13, .int l13)] [] := by
  intro f
  induction f with
  | zero =>
    intro k9 n9 l0 l1 l2 l3 l4 l5 l6 l7 l8 l12 l13 M h
    exact absurd h (by simp [wL_law_187])
  | succ f ih =>
    intro k9 n9 l0 l1 l2 l3 l4 l5 l6 l7 l8 l12 l13 M h
    rw [wL_law_187] at h
    obtain ⟨hbk, h⟩ := h
    refine q_iload (pc := 187) C 13 10 dL_law_187 rfl ?_
    refine q_iconst (pc := 189) C 4 dL_law_189 (by decide) ?_
    refine q_icmp_ge (pc := 190) C 224 dL_law_190 (by decide) (fun c1 => ?_) (fun c1 => ?_)
    · have h := h.1 c1
      refine q_iconst (pc := 224) C 0 dL_law_224 (by decide) ?_
      refine q_istore (pc := 225) C 13 [(13, .int 0), (0, va_rf l0), (1, va_rf l1), (2, .int l2), (3, .int l3), (4, va_rf l4), (5, va_rf l5), (6, va_rf l6), (7, va_rf l7), (8, .int l8), (12, va_rf l12)] dL_law_225 (by decide) (by first | rfl | simp [q_cat, q_catI, q_catJ, q_catR, q_catN]) ?_
      refine q_lv [1, 2, 3, 4, 5, 6, 7, 8, 9, 0] rfl ?_
      obtain ⟨f9, h⟩ := h
      exact tL_law_227 C hr hlocks hL hN hS hg hk9 hR90 f9 _ _ _ _ _ _ _ _ _ _ _ _ _ h
    · have h := h.2 c1
      refine q_aload (pc := 193) C 12 9 dL_law_193 rfl ?_
      refine q_iload (pc := 195) C 13 10 dL_law_195 rfl ?_
      refine q_iald (pc := 197) C h dL_law_197 (fun x2 h => ?_)
      refine q_aload (pc := 198) C 7 7 dL_law_198 rfl ?_
      refine q_iload (pc := 200) C 13 10 dL_law_200 rfl ?_
      refine q_iald (pc := 202) C h dL_law_202 (fun x3 h => ?_)
      refine q_icmp_ge (pc := 203) C 208 dL_law_203 (by decide) (fun c4 => ?_) (fun c4 => ?_)
      · have h := h.1 c4
        refine q_aload (pc := 208) C 7 7 dL_law_208 rfl ?_
        refine q_iload (pc := 210) C 13 10 dL_law_210 rfl ?_
        refine q_aload (pc := 212) C 12 9 dL_law_212 rfl ?_
        refine q_iload (pc := 214) C 13 10 dL_law_214 rfl ?_
        refine q_iald (pc := 216) C h dL_law_216 (fun x5 h => ?_)
        refine q_iast (pc := 217) C h dL_law_217 (fun M6 h => ?_)
        refine q_iinc (pc := 218) C 13 10 (l13 + 1) [(13, .int (l13 + 1)), (0, va_rf l0), (1, va_rf l1), (2, .int l2), (3, .int l3), (4, va_rf l4), (5, va_rf l5), (6, va_rf l6), (7, va_rf l7), (8, .int l8), (12, va_rf l12)] dL_law_218 rfl (by rfl) (by decide) (by first | rfl | simp [q_cat, q_catI, q_catJ, q_catR, q_catN]) ?_
        refine q_goto (pc := 221) C 187 dL_law_221 (by decide) ?_
        refine q_lv [1, 2, 3, 4, 5, 6, 7, 8, 9, 10, 0] rfl ?_
        exact ih _ _ _ _ _ _ _ _ _ _ _ _ _ _ h
      · have h := h.2 c4
        refine q_iconst (pc := 206) C 0 dL_law_206 (by decide) ?_
        obtain ⟨hbk, h⟩ := h
        exact q_lawret (pc := 207) C hS hr hlocks (hk9 _ _ h) dL_law_207 (by omega) (by omega)
set_option maxRecDepth 100000 in
set_option maxHeartbeats 4000000 in
theorem tL_law_135 {p : Program} {l : Launch} {e : Env} {s : State} {m : MethodId} {args : Array Value} {below : List Frame} {meth : Method} {c : Code} {G : mG} {b0 : Nat} (C : m_C p s m args c cL_law 16 RL wsL_law G b0) (hr : meth.sig.returnType = (some .boolean)) (hlocks : meth.locks = false) (hL : l.stackTraces = false) (hN : m_N s) {sb L : Nat} {xs : Nat → Int32} (hS : m_scr s args b0 sb L xs) {g : Nat → Nat} (hg : G.2.2 = g) {κ : Int32 → mM → Prop} (hk9 : ∀ x M, κ x M → x = 1) {R90 : Nat → Nat → Option Nat → Option Nat → Int32 → Int32 → Option Nat → Option Nat → Option Nat → Option Nat → Int32 → mM → Prop} (hR90 : ∀ (k9 n9 : Nat) (l0 : Option Nat) (l1 : Option Nat) (l2 : Int32) (l3 : Int32) (l4 : Option Nat) (l5 : Option Nat) (l6 : Option Nat) (l7 : Option Nat) (l8 : Int32) (M : mM), R90 k9 n9 l0 l1 l2 l3 l4 l5 l6 l7 l8 M → m_W p l e ({ frames := 18, cells := 600104, slots := 7301313, locals := 734 } : Room) s m args below meth c G b0 (lw_Z below args s) 16 M k9 n9 90 [(0, va_rf l0), (1, va_rf l1), (2, .int l2), (3, .int l3), (4, va_rf l4), (5, va_rf l5), (6, va_rf l6), (7, va_rf l7), (8, .int l8)] []) {k9 n9 : Nat} {l0 : Option Nat} {l1 : Option Nat} {l2 : Int32} {l3 : Int32} {l4 : Option Nat} {l5 : Option Nat} {l6 : Option Nat} {l7 : Option Nat} {l8 : Int32} {M : mM} (h : wL_law_135 sb L xs g κ R90 k9 n9 l0 l1 l2 l3 l4 l5 l6 l7 l8 M) : m_W p l e ({ frames := 18, cells := 600104, slots := 7301313, locals := 734 } : Room) s m args below meth c G b0 (lw_Z below args s) 16 M k9 n9 135 [(0, va_rf l0), (1, va_rf l1), (2, .int l2), (3, .int l3), (4, va_rf l4), (5, va_rf l5), (6, va_rf l6), (7, va_rf l7), (8, .int l8)] [] := by
  unfold wL_law_135 at h
  obtain ⟨hbk, h⟩ := h
  refine q_iconst (pc := 135) C 4 dL_law_135 (by decide) ?_
  obtain ⟨hbk, h⟩ := h
  refine q_newI (pc := 136) C h (ty := .int) rfl (ak := 0) rfl (by decide) (by decide) rfl (by decide) (fun _ => m_raI) (by decide +kernel) (by first | omega | (dsimp only; omega)) (by first | omega | (dsimp only; omega)) dL_law_136 (fun q1 M2 h => ?_)
  refine q_dup (pc := 138) C dL_law_138 (q_cat _) ?_
  refine q_iconst (pc := 139) C 0 dL_law_139 (by decide) ?_
  refine q_aload_n (pc := 140) C 1 1 dL_law_140 rfl rfl ?_
  refine q_bipush (pc := 141) C 12 dL_law_141 (by decide) ?_
  obtain ⟨b5, fs9, hb5, hm9, h⟩ := h
  refine q_cXi (pc := 143) (q_rVX C (st := [.int 0, va_rf (some q1), va_rf (some q1)]) (b := b5) (kX8_night l G b0 (t := 0) hL (fun _ _ h9 => h9.elim) h) (cwV 1 C.2.2.2.2.1 gL_law_X8_night rfl rfl rfl (by decide +kernel) ⟨Nat.le_of_ble_eq_true rfl, Nat.le_of_ble_eq_true rfl⟩) hm9 rfl rfl rfl (by first | exact Nat.le_of_ble_eq_true rfl | (simp [q_cat, q_catI, q_catJ, q_catR, q_catN]; done)) (by rw [hb5]; first | done | rfl) dL_law_143 ⟨(by first | omega | (dsimp only; omega)), (by first | omega | (dsimp only; omega))⟩) (fun E9 M9 h9 => h9.elim) (fun x3 M4 h => ?_)
  refine q_iast (pc := 146) C h dL_law_146 (fun M6 h => ?_)
  refine q_dup (pc := 147) C dL_law_147 (q_cat _) ?_
  refine q_iconst (pc := 148) C 1 dL_law_148 (by decide) ?_
  refine q_aload_n (pc := 149) C 1 1 dL_law_149 rfl rfl ?_
  refine q_bipush (pc := 150) C 13 dL_law_150 (by decide) ?_
  obtain ⟨b9, fs9, hb9, hm9, h⟩ := h
  refine q_cXi (pc := 152) (q_rVX C (st := [.int 1, va_rf (some q1), va_rf (some q1)]) (b := b9) (kX8_night l G b0 (t := 0) hL (fun _ _ h9 => h9.elim) h) (cwV 1 C.2.2.2.2.1 gL_law_X8_night rfl rfl rfl (by decide +kernel) ⟨Nat.le_of_ble_eq_true rfl, Nat.le_of_ble_eq_true rfl⟩) hm9 rfl rfl rfl (by first | exact Nat.le_of_ble_eq_true rfl | (simp [q_cat, q_catI, q_catJ, q_catR, q_catN]; done)) (by rw [hb9]; first | done | rfl) dL_law_152 ⟨(by first | omega | (dsimp only; omega)), (by first | omega | (dsimp only; omega))⟩) (fun E9 M9 h9 => h9.elim) (fun x7 M8 h => ?_)
  refine q_iast (pc := 155) C h dL_law_155 (fun M10 h => ?_)
  refine q_dup (pc := 156) C dL_law_156 (q_cat _) ?_
  refine q_iconst (pc := 157) C 2 dL_law_157 (by decide) ?_
  refine q_aload_n (pc := 158) C 1 1 dL_law_158 rfl rfl ?_
  refine q_bipush (pc := 159) C 15 dL_law_159 (by decide) ?_
  obtain ⟨b13, fs9, hb13, hm9, h⟩ := h
  refine q_cXi (pc := 161) (q_rVX C (st := [.int 2, va_rf (some q1), va_rf (some q1)]) (b := b13) (kX8_night l G b0 (t := 0) hL (fun _ _ h9 => h9.elim) h) (cwV 1 C.2.2.2.2.1 gL_law_X8_night rfl rfl rfl (by decide +kernel) ⟨Nat.le_of_ble_eq_true rfl, Nat.le_of_ble_eq_true rfl⟩) hm9 rfl rfl rfl (by first | exact Nat.le_of_ble_eq_true rfl | (simp [q_cat, q_catI, q_catJ, q_catR, q_catN]; done)) (by rw [hb13]; first | done | rfl) dL_law_161 ⟨(by first | omega | (dsimp only; omega)), (by first | omega | (dsimp only; omega))⟩) (fun E9 M9 h9 => h9.elim) (fun x11 M12 h => ?_)
  refine q_iast (pc := 164) C h dL_law_164 (fun M14 h => ?_)
  refine q_dup (pc := 165) C dL_law_165 (q_cat _) ?_
  refine q_iconst (pc := 166) C 3 dL_law_166 (by decide) ?_
  refine q_aload_n (pc := 167) C 1 1 dL_law_167 rfl rfl ?_
  refine q_iconst (pc := 168) C 0 dL_law_168 (by decide) ?_
  obtain ⟨b17, fs9, hb17, hm9, h⟩ := h
  refine q_cXi (pc := 169) (q_rVX C (st := [.int 3, va_rf (some q1), va_rf (some q1)]) (b := b17) (kX8_night l G b0 (t := 0) hL (fun _ _ h9 => h9.elim) h) (cwV 1 C.2.2.2.2.1 gL_law_X8_night rfl rfl rfl (by decide +kernel) ⟨Nat.le_of_ble_eq_true rfl, Nat.le_of_ble_eq_true rfl⟩) hm9 rfl rfl rfl (by first | exact Nat.le_of_ble_eq_true rfl | (simp [q_cat, q_catI, q_catJ, q_catR, q_catN]; done)) (by rw [hb17]; first | done | rfl) dL_law_169 ⟨(by first | omega | (dsimp only; omega)), (by first | omega | (dsimp only; omega))⟩) (fun E9 M9 h9 => h9.elim) (fun x15 M16 h => ?_)
  refine q_bipush (pc := 172) C 24 dL_law_172 (by decide) ?_
  refine q_imul (pc := 174) C dL_law_174 ?_
  refine q_aload_n (pc := 175) C 1 1 dL_law_175 rfl rfl ?_
  refine q_iconst (pc := 176) C 1 dL_law_176 (by decide) ?_
  obtain ⟨b20, fs9, hb20, hm9, h⟩ := h
  refine q_cXi (pc := 177) (q_rVX C (st := [.int (x15 * 24), .int 3, va_rf (some q1), va_rf (some q1)]) (b := b20) (kX8_night l G b0 (t := 0) hL (fun _ _ h9 => h9.elim) h) (cwV 1 C.2.2.2.2.1 gL_law_X8_night rfl rfl rfl (by decide +kernel) ⟨Nat.le_of_ble_eq_true rfl, Nat.le_of_ble_eq_true rfl⟩) hm9 rfl rfl rfl (by first | exact Nat.le_of_ble_eq_true rfl | (simp [q_cat, q_catI, q_catJ, q_catR, q_catN]; done)) (by rw [hb20]; first | done | rfl) dL_law_177 ⟨(by first | omega | (dsimp only; omega)), (by first | omega | (dsimp only; omega))⟩) (fun E9 M9 h9 => h9.elim) (fun x18 M19 h => ?_)
  refine q_iadd (pc := 180) C dL_law_180 ?_
  refine q_iast (pc := 181) C h dL_law_181 (fun M21 h => ?_)
  refine q_astore (pc := 182) C 12 [(12, va_rf (some q1)), (0, va_rf l0), (1, va_rf l1), (2, .int l2), (3, .int l3), (4, va_rf l4), (5, va_rf l5), (6, va_rf l6), (7, va_rf l7), (8, .int l8)] dL_law_182 (by decide) (by first | rfl | simp [q_cat, q_catI, q_catJ, q_catR, q_catN]) ?_
  refine q_iconst (pc := 184) C 0 dL_law_184 (by decide) ?_
  refine q_istore (pc := 185) C 13 [(13, .int 0), (12, va_rf (some q1)), (0, va_rf l0), (1, va_rf l1), (2, .int l2), (3, .int l3), (4, va_rf l4), (5, va_rf l5), (6, va_rf l6), (7, va_rf l7), (8, .int l8)] dL_law_185 (by decide) (by first | rfl | simp [q_cat, q_catI, q_catJ, q_catR, q_catN]) ?_
  refine q_lv [2, 3, 4, 5, 6, 7, 8, 9, 10, 1, 0] rfl ?_
  obtain ⟨f9, h⟩ := h
  exact tL_law_187 C hr hlocks hL hN hS hg hk9 hR90 f9 _ _ _ _ _ _ _ _ _ _ _ _ _ _ h
set_option maxRecDepth 100000 in
set_option maxHeartbeats 4000000 in
theorem tL_law_90 {p : Program} {l : Launch} {e : Env} {s : State} {m : MethodId} {args : Array Value} {below : List Frame} {meth : Method} {c : Code} {G : mG} {b0 : Nat} (C : m_C p s m args c cL_law 16 RL wsL_law G b0) (hr : meth.sig.returnType = (some .boolean)) (hlocks : meth.locks = false) (hL : l.stackTraces = false) (hN : m_N s) {sb L : Nat} {xs : Nat → Int32} (hS : m_scr s args b0 sb L xs) {g : Nat → Nat} (hg : G.2.2 = g) {κ : Int32 → mM → Prop} (hk9 : ∀ x M, κ x M → x = 1) : ∀ (f : Nat) (k9 n9 : Nat) (l0 : Option Nat) (l1 : Option Nat) (l2 : Int32) (l3 : Int32) (l4 : Option Nat) (l5 : Option Nat) (l6 : Option Nat) (l7 : Option Nat) (l8 : Int32) (M : mM), wL_law_90 sb L xs g κ f k9 n9 l0 l1 l2 l3 l4 l5 l6 l7 l8 M → m_W p l e ({ frames := 18, cells := 600104, slots := 7301313, locals := 734 } : Room) s m args below meth c G b0 (lw_Z below args s) 16 M k9 n9 90 [(0, va_rf l0), (1, va_rf l1), (2, .int l2), (3, .int l3), (4, va_rf l4), (5, va_rf l5), (6, va_rf l6), (7, va_rf l7), (8, .int l8)] [] := by
  intro f
  induction f with
  | zero =>
    intro k9 n9 l0 l1 l2 l3 l4 l5 l6 l7 l8 M h
    exact absurd h (by simp [wL_law_90])
  | succ f ih =>
    intro k9 n9 l0 l1 l2 l3 l4 l5 l6 l7 l8 M h
    rw [wL_law_90] at h
    obtain ⟨hbk, h⟩ := h
    refine q_iload (pc := 90) C 8 8 dL_law_90 rfl ?_
    refine q_bipush (pc := 92) C 22 dL_law_92 (by decide) ?_
    refine q_icmp_ge (pc := 94) C 450 dL_law_94 (by decide) (fun c1 => ?_) (fun c1 => ?_)
    · have h := h.1 c1
      refine q_aload_n (pc := 450) C 1 1 dL_law_450 rfl rfl ?_
      obtain ⟨b4, fs9, hb4, hm9, h⟩ := h
      refine q_cl (pc := 451) (q_rV C (st := []) (b := b4) (kX8_digest l G b0 hL h) (cwV 0 C.2.2.2.2.1 gL_law_X8_digest rfl rfl rfl (by decide +kernel) ⟨Nat.le_of_ble_eq_true rfl, Nat.le_of_ble_eq_true rfl⟩) hm9 rfl rfl rfl (by first | exact Nat.le_of_ble_eq_true rfl | (simp [q_cat, q_catI, q_catJ, q_catR, q_catN]; done)) (by rw [hb4]; first | done | rfl) dL_law_451 ⟨(by first | omega | (dsimp only; omega)), (by first | omega | (dsimp only; omega))⟩) (fun x2 M3 h => ?_)
      refine q_lstore (pc := 454) C 8 [(8, .long x2), (0, va_rf l0), (1, va_rf l1), (2, .int l2), (3, .int l3), (4, va_rf l4), (5, va_rf l5), (6, va_rf l6), (7, va_rf l7)] dL_law_454 (by decide) (by first | rfl | simp [q_cat, q_catI, q_catJ, q_catR, q_catN]) ?_
      refine q_aload_n (pc := 456) C 1 2 dL_law_456 rfl rfl ?_
      obtain ⟨b7, fs9, hb7, hm9, h⟩ := h
      refine q_ci (pc := 457) (q_rV C (st := []) (b := b7) (kX8_isSound l G b0 h) (cwV 0 C.2.2.2.2.1 gL_law_X8_isSound rfl rfl rfl (by decide +kernel) ⟨Nat.le_of_ble_eq_true rfl, Nat.le_of_ble_eq_true rfl⟩) hm9 rfl rfl rfl (by first | exact Nat.le_of_ble_eq_true rfl | (simp [q_cat, q_catI, q_catJ, q_catR, q_catN]; done)) (by rw [hb7]; first | done | rfl) dL_law_457 ⟨(by first | omega | (dsimp only; omega)), (by first | omega | (dsimp only; omega))⟩) (fun x5 M6 h => ?_)
      refine q_if_eq (pc := 460) C 477 dL_law_460 (by decide) (fun c8 => ?_) (fun c8 => ?_)
      · have h := h.1 c8
        refine q_iconst (pc := 477) C 0 dL_law_477 (by decide) ?_
        obtain ⟨hbk, h⟩ := h
        exact q_lawret (pc := 478) C hS hr hlocks (hk9 _ _ h) dL_law_478 (by omega) (by omega)
      · have h := h.2 c8
        refine q_aload_n (pc := 463) C 1 2 dL_law_463 rfl rfl ?_
        obtain ⟨b11, fs9, hb11, hm9, h⟩ := h
        refine q_cl (pc := 464) (q_rV C (st := []) (b := b11) (kX8_digest l G b0 hL h) (cwV 0 C.2.2.2.2.1 gL_law_X8_digest rfl rfl rfl (by decide +kernel) ⟨Nat.le_of_ble_eq_true rfl, Nat.le_of_ble_eq_true rfl⟩) hm9 rfl rfl rfl (by first | exact Nat.le_of_ble_eq_true rfl | (simp [q_cat, q_catI, q_catJ, q_catR, q_catN]; done)) (by rw [hb11]; first | done | rfl) dL_law_464 ⟨(by first | omega | (dsimp only; omega)), (by first | omega | (dsimp only; omega))⟩) (fun x9 M10 h => ?_)
        refine q_lload (pc := 467) C 8 0 dL_law_467 rfl ?_
        refine q_lcmp (pc := 469) C dL_law_469 ?_
        refine q_if_ne (pc := 470) C 477 dL_law_470 (by decide) (fun c12 => ?_) (fun c12 => ?_)
        · have h := h.2 c12
          refine q_iconst (pc := 477) C 0 dL_law_477 (by decide) ?_
          obtain ⟨hbk, h⟩ := h
          exact q_lawret (pc := 478) C hS hr hlocks (hk9 _ _ h) dL_law_478 (by omega) (by omega)
        · have h := h.1 c12
          refine q_iconst (pc := 473) C 1 dL_law_473 (by decide) ?_
          refine q_goto (pc := 474) C 478 dL_law_474 (by decide) ?_
          obtain ⟨hbk, h⟩ := h
          exact q_lawret (pc := 478) C hS hr hlocks (hk9 _ _ h) dL_law_478 (by omega) (by omega)
    · have h := h.2 c1
      refine q_aload_n (pc := 97) C 0 0 dL_law_97 rfl rfl ?_
      refine q_bipush (pc := 98) C 14 dL_law_98 (by decide) ?_
      refine q_iload (pc := 100) C 8 8 dL_law_100 rfl ?_
      refine q_iadd (pc := 102) C dL_law_102 ?_
      refine q_ci (pc := 103) (q_rS C (st := []) (kL_cell l G b0 h) (va_cwS 2 C.2.2.2.2.1 gL_law_L_cell rfl rfl rfl (by decide +kernel) ⟨Nat.le_of_ble_eq_true rfl, Nat.le_of_ble_eq_true rfl⟩) rfl (by first | exact Nat.le_of_ble_eq_true rfl | (simp [q_cat, q_catI, q_catJ, q_catR, q_catN]; done)) rfl dL_law_103 ⟨(by first | omega | (dsimp only; omega)), (by first | omega | (dsimp only; omega))⟩) (fun x13 M14 h => ?_)
      refine q_istore (pc := 106) C 9 [(9, .int x13), (0, va_rf l0), (1, va_rf l1), (2, .int l2), (3, .int l3), (4, va_rf l4), (5, va_rf l5), (6, va_rf l6), (7, va_rf l7), (8, .int l8)] dL_law_106 (by decide) (by first | rfl | simp [q_cat, q_catI, q_catJ, q_catR, q_catN]) ?_
      refine q_aload_n (pc := 108) C 1 2 dL_law_108 rfl rfl ?_
      obtain ⟨b17, fs9, hb17, hm9, h⟩ := h
      refine q_cl (pc := 109) (q_rV C (st := []) (b := b17) (kX8_digest l G b0 hL h) (cwV 0 C.2.2.2.2.1 gL_law_X8_digest rfl rfl rfl (by decide +kernel) ⟨Nat.le_of_ble_eq_true rfl, Nat.le_of_ble_eq_true rfl⟩) hm9 rfl rfl rfl (by first | exact Nat.le_of_ble_eq_true rfl | (simp [q_cat, q_catI, q_catJ, q_catR, q_catN]; done)) (by rw [hb17]; first | done | rfl) dL_law_109 ⟨(by first | omega | (dsimp only; omega)), (by first | omega | (dsimp only; omega))⟩) (fun x15 M16 h => ?_)
      refine q_lstore (pc := 112) C 10 [(10, .long x15), (9, .int x13), (0, va_rf l0), (1, va_rf l1), (2, .int l2), (3, .int l3), (4, va_rf l4), (5, va_rf l5), (6, va_rf l6), (7, va_rf l7), (8, .int l8)] dL_law_112 (by decide) (by first | rfl | simp [q_cat, q_catI, q_catJ, q_catR, q_catN]) ?_
      refine q_aload_n (pc := 114) C 1 3 dL_law_114 rfl rfl ?_
      refine q_iload (pc := 115) C 9 1 dL_law_115 rfl ?_
      obtain ⟨hbk, h⟩ := h
      refine q_ci (pc := 117) (q_rSW C hN (st := []) (kL_isDone l G b0 hL hg h) (vx_cwSW 2 C.2.2.2.2.1 gL_law_L_isDone rfl rfl rfl (by decide +kernel) ⟨Nat.le_of_ble_eq_true rfl, Nat.le_of_ble_eq_true rfl⟩) rfl (by first | exact Nat.le_of_ble_eq_true rfl | (simp [q_cat, q_catI, q_catJ, q_catR, q_catN]; done)) rfl dL_law_117 ⟨(by first | omega | (dsimp only; omega)), (by first | omega | (dsimp only; omega))⟩) (fun x18 M19 h => ?_)
      refine q_if_ne (pc := 120) C 135 dL_law_120 (by decide) (fun c20 => ?_) (fun c20 => ?_)
      · have h := h.2 c20
        refine q_lv [2, 3, 4, 5, 6, 7, 8, 9, 10] rfl ?_
        exact tL_law_135 C hr hlocks hL hN hS hg hk9 ih h
      · have h := h.1 c20
        refine q_aload_n (pc := 123) C 1 3 dL_law_123 rfl rfl ?_
        obtain ⟨b23, fs9, hb23, hm9, h⟩ := h
        refine q_cl (pc := 124) (q_rV C (st := []) (b := b23) (kX8_digest l G b0 hL h) (cwV 0 C.2.2.2.2.1 gL_law_X8_digest rfl rfl rfl (by decide +kernel) ⟨Nat.le_of_ble_eq_true rfl, Nat.le_of_ble_eq_true rfl⟩) hm9 rfl rfl rfl (by first | exact Nat.le_of_ble_eq_true rfl | (simp [q_cat, q_catI, q_catJ, q_catR, q_catN]; done)) (by rw [hb23]; first | done | rfl) dL_law_124 ⟨(by first | omega | (dsimp only; omega)), (by first | omega | (dsimp only; omega))⟩) (fun x21 M22 h => ?_)
        refine q_lload (pc := 127) C 10 0 dL_law_127 rfl ?_
        refine q_lcmp (pc := 129) C dL_law_129 ?_
        refine q_if_eq (pc := 130) C 135 dL_law_130 (by decide) (fun c24 => ?_) (fun c24 => ?_)
        · have h := h.1 c24
          refine q_lv [2, 3, 4, 5, 6, 7, 8, 9, 10] rfl ?_
          exact tL_law_135 C hr hlocks hL hN hS hg hk9 ih h
        · have h := h.2 c24
          refine q_iconst (pc := 133) C 0 dL_law_133 (by decide) ?_
          obtain ⟨hbk, h⟩ := h
          exact q_lawret (pc := 134) C hS hr hlocks (hk9 _ _ h) dL_law_134 (by omega) (by omega)
set_option maxRecDepth 100000 in
set_option maxHeartbeats 4000000 in
theorem tL_law_35 {p : Program} {l : Launch} {e : Env} {s : State} {m : MethodId} {args : Array Value} {below : List Frame} {meth : Method} {c : Code} {G : mG} {b0 : Nat} (C : m_C p s m args c cL_law 16 RL wsL_law G b0) (hr : meth.sig.returnType = (some .boolean)) (hlocks : meth.locks = false) (hL : l.stackTraces = false) (hN : m_N s) {sb L : Nat} {xs : Nat → Int32} (hS : m_scr s args b0 sb L xs) {g : Nat → Nat} (hg : G.2.2 = g) {κ : Int32 → mM → Prop} (hk9 : ∀ x M, κ x M → x = 1) : ∀ (f : Nat) (k9 n9 : Nat) (l0 : Option Nat) (l1 : Option Nat) (l2 : Int32) (l3 : Int32) (l4 : Option Nat) (l5 : Option Nat) (l6 : Option Nat) (l7 : Int32) (M : mM), wL_law_35 sb L xs g κ f k9 n9 l0 l1 l2 l3 l4 l5 l6 l7 M → m_W p l e ({ frames := 18, cells := 600104, slots := 7301313, locals := 734 } : Room) s m args below meth c G b0 (lw_Z below args s) 16 M k9 n9 35 [(0, va_rf l0), (1, va_rf l1), (2, .int l2), (3, .int l3), (4, va_rf l4), (5, va_rf l5), (6, va_rf l6), (7, .int l7)] [] := by
  intro f
  induction f with
  | zero =>
    intro k9 n9 l0 l1 l2 l3 l4 l5 l6 l7 M h
    exact absurd h (by simp [wL_law_35])
  | succ f ih =>
    intro k9 n9 l0 l1 l2 l3 l4 l5 l6 l7 M h
    rw [wL_law_35] at h
    obtain ⟨hbk, h⟩ := h
    refine q_iload (pc := 35) C 7 7 dL_law_35 rfl ?_
    refine q_iload_n (pc := 37) C 2 2 dL_law_37 rfl rfl ?_
    refine q_icmp_ge (pc := 38) C 82 dL_law_38 (by decide) (fun c1 => ?_) (fun c1 => ?_)
    · have h := h.1 c1
      refine q_iconst (pc := 82) C 4 dL_law_82 (by decide) ?_
      obtain ⟨hbk, h⟩ := h
      refine q_newI (pc := 83) C h (ty := .int) rfl (ak := 0) rfl (by decide) (by decide) rfl (by decide) (fun _ => m_raI) (by decide +kernel) (by first | omega | (dsimp only; omega)) (by first | omega | (dsimp only; omega)) dL_law_83 (fun q2 M3 h => ?_)
      refine q_astore (pc := 85) C 7 [(7, va_rf (some q2)), (0, va_rf l0), (1, va_rf l1), (2, .int l2), (3, .int l3), (4, va_rf l4), (5, va_rf l5), (6, va_rf l6)] dL_law_85 (by decide) (by first | rfl | simp [q_cat, q_catI, q_catJ, q_catR, q_catN]) ?_
      refine q_iconst (pc := 87) C 0 dL_law_87 (by decide) ?_
      refine q_istore (pc := 88) C 8 [(8, .int 0), (7, va_rf (some q2)), (0, va_rf l0), (1, va_rf l1), (2, .int l2), (3, .int l3), (4, va_rf l4), (5, va_rf l5), (6, va_rf l6)] dL_law_88 (by decide) (by first | rfl | simp [q_cat, q_catI, q_catJ, q_catR, q_catN]) ?_
      refine q_lv [2, 3, 4, 5, 6, 7, 8, 1, 0] rfl ?_
      obtain ⟨f9, h⟩ := h
      exact tL_law_90 C hr hlocks hL hN hS hg hk9 f9 _ _ _ _ _ _ _ _ _ _ _ _ h
    · have h := h.2 c1
      refine q_aload (pc := 41) C 4 4 dL_law_41 rfl ?_
      refine q_iload (pc := 43) C 7 7 dL_law_43 rfl ?_
      refine q_bipush (pc := 45) C 100 dL_law_45 (by decide) ?_
      refine q_aload_n (pc := 47) C 1 1 dL_law_47 rfl rfl ?_
      refine q_iload (pc := 48) C 7 7 dL_law_48 rfl ?_
      refine q_iconst (pc := 50) C 0 dL_law_50 (by decide) ?_
      obtain ⟨b6, fs9, hb6, hm9, h⟩ := h
      refine q_cXi (pc := 51) (q_rVX C (st := [.int 100, .int l7, va_rf l4]) (b := b6) (kX8_ofPart l G b0 (t := 0) hL (fun _ _ h9 => h9.elim) h) (cwV 2 C.2.2.2.2.1 gL_law_X8_ofPart rfl rfl rfl (by decide +kernel) ⟨Nat.le_of_ble_eq_true rfl, Nat.le_of_ble_eq_true rfl⟩) hm9 rfl rfl rfl (by first | exact Nat.le_of_ble_eq_true rfl | (simp [q_cat, q_catI, q_catJ, q_catR, q_catN]; done)) (by rw [hb6]; first | done | rfl) dL_law_51 ⟨(by first | omega | (dsimp only; omega)), (by first | omega | (dsimp only; omega))⟩) (fun E9 M9 h9 => h9.elim) (fun x4 M5 h => ?_)
      refine q_imul (pc := 54) C dL_law_54 ?_
      refine q_aload_n (pc := 55) C 1 1 dL_law_55 rfl rfl ?_
      refine q_iload (pc := 56) C 7 7 dL_law_56 rfl ?_
      refine q_iconst (pc := 58) C 1 dL_law_58 (by decide) ?_
      obtain ⟨b9, fs9, hb9, hm9, h⟩ := h
      refine q_cXi (pc := 59) (q_rVX C (st := [.int (100 * x4), .int l7, va_rf l4]) (b := b9) (kX8_ofPart l G b0 (t := 0) hL (fun _ _ h9 => h9.elim) h) (cwV 2 C.2.2.2.2.1 gL_law_X8_ofPart rfl rfl rfl (by decide +kernel) ⟨Nat.le_of_ble_eq_true rfl, Nat.le_of_ble_eq_true rfl⟩) hm9 rfl rfl rfl (by first | exact Nat.le_of_ble_eq_true rfl | (simp [q_cat, q_catI, q_catJ, q_catR, q_catN]; done)) (by rw [hb9]; first | done | rfl) dL_law_59 ⟨(by first | omega | (dsimp only; omega)), (by first | omega | (dsimp only; omega))⟩) (fun E9 M9 h9 => h9.elim) (fun x7 M8 h => ?_)
      refine q_iadd (pc := 62) C dL_law_62 ?_
      refine q_sipush (pc := 63) C 1000 dL_law_63 (by decide) ?_
      refine q_aload_n (pc := 66) C 1 1 dL_law_66 rfl rfl ?_
      refine q_iload (pc := 67) C 7 7 dL_law_67 rfl ?_
      refine q_iconst (pc := 69) C 2 dL_law_69 (by decide) ?_
      obtain ⟨b12, fs9, hb12, hm9, h⟩ := h
      refine q_cXi (pc := 70) (q_rVX C (st := [.int 1000, .int ((100 * x4) + x7), .int l7, va_rf l4]) (b := b12) (kX8_ofPart l G b0 (t := 0) hL (fun _ _ h9 => h9.elim) h) (cwV 2 C.2.2.2.2.1 gL_law_X8_ofPart rfl rfl rfl (by decide +kernel) ⟨Nat.le_of_ble_eq_true rfl, Nat.le_of_ble_eq_true rfl⟩) hm9 rfl rfl rfl (by first | exact Nat.le_of_ble_eq_true rfl | (simp [q_cat, q_catI, q_catJ, q_catR, q_catN]; done)) (by rw [hb12]; first | done | rfl) dL_law_70 ⟨(by first | omega | (dsimp only; omega)), (by first | omega | (dsimp only; omega))⟩) (fun E9 M9 h9 => h9.elim) (fun x10 M11 h => ?_)
      refine q_imul (pc := 73) C dL_law_73 ?_
      refine q_iadd (pc := 74) C dL_law_74 ?_
      refine q_iast (pc := 75) C h dL_law_75 (fun M13 h => ?_)
      refine q_iinc (pc := 76) C 7 7 (l7 + 1) [(7, .int (l7 + 1)), (0, va_rf l0), (1, va_rf l1), (2, .int l2), (3, .int l3), (4, va_rf l4), (5, va_rf l5), (6, va_rf l6)] dL_law_76 rfl (by rfl) (by decide) (by first | rfl | simp [q_cat, q_catI, q_catJ, q_catR, q_catN]) ?_
      refine q_goto (pc := 79) C 35 dL_law_79 (by decide) ?_
      refine q_lv [1, 2, 3, 4, 5, 6, 7, 0] rfl ?_
      exact ih _ _ _ _ _ _ _ _ _ _ _ h
set_option maxRecDepth 100000 in
set_option maxHeartbeats 4000000 in
theorem tL_law {p : Program} {l : Launch} {e : Env} {s : State} {m : MethodId} {args : Array Value} {below : List Frame} {meth : Method} {c : Code} {G : mG} {b0 : Nat} (C : m_C p s m args c cL_law 16 RL wsL_law G b0) (hr : meth.sig.returnType = (some .boolean)) (hlocks : meth.locks = false) (hL : l.stackTraces = false) (hN : m_N s) {sb L : Nat} {xs : Nat → Int32} (hS : m_scr s args b0 sb L xs) {g : Nat → Nat} (hg : G.2.2 = g) {κ : Int32 → mM → Prop} (hk9 : ∀ x M, κ x M → x = 1) {l0 : Option Nat} {M : mM} (h : wL_law sb L xs g κ l0 M) : m_W p l e ({ frames := 18, cells := 600104, slots := 7301313, locals := 734 } : Room) s m args below meth c G b0 (lw_Z below args s) 16 M 0 0 0 [(0, va_rf l0)] [] := by
  unfold wL_law at h
  refine q_aload_n (pc := 0) C 0 0 dL_law_0 rfl rfl ?_
  obtain ⟨hbk, h⟩ := h
  refine q_cq (pc := 1) (q_rS C (st := []) (kL_night l G b0 hL hg h) (va_cwS 1 C.2.2.2.2.1 gL_law_L_night rfl rfl rfl (by decide +kernel) ⟨Nat.le_of_ble_eq_true rfl, Nat.le_of_ble_eq_true rfl⟩) rfl (by first | exact Nat.le_of_ble_eq_true rfl | (simp [q_cat, q_catI, q_catJ, q_catR, q_catN]; done)) rfl dL_law_1 ⟨(by first | omega | (dsimp only; omega)), (by first | omega | (dsimp only; omega))⟩) (fun x1 M2 h => ?_)
  refine q_astore_n (pc := 4) C 1 [(1, va_rf x1), (0, va_rf l0)] dL_law_4 rfl (by decide) (by first | rfl | simp [q_cat, q_catI, q_catJ, q_catR, q_catN]) ?_
  refine q_aload_n (pc := 5) C 1 0 dL_law_5 rfl rfl ?_
  refine q_iconst (pc := 6) C 5 dL_law_6 (by decide) ?_
  obtain ⟨b5, fs9, hb5, hm9, h⟩ := h
  refine q_cXi (pc := 7) (q_rVX C (st := []) (b := b5) (kX8_night l G b0 (t := 0) hL (fun _ _ h9 => h9.elim) h) (cwV 1 C.2.2.2.2.1 gL_law_X8_night rfl rfl rfl (by decide +kernel) ⟨Nat.le_of_ble_eq_true rfl, Nat.le_of_ble_eq_true rfl⟩) hm9 rfl rfl rfl (by first | exact Nat.le_of_ble_eq_true rfl | (simp [q_cat, q_catI, q_catJ, q_catR, q_catN]; done)) (by rw [hb5]; first | done | rfl) dL_law_7 ⟨(by first | omega | (dsimp only; omega)), (by first | omega | (dsimp only; omega))⟩) (fun E9 M9 h9 => h9.elim) (fun x3 M4 h => ?_)
  refine q_istore_n (pc := 10) C 2 [(2, .int x3), (1, va_rf x1), (0, va_rf l0)] dL_law_10 rfl (by decide) (by first | rfl | simp [q_cat, q_catI, q_catJ, q_catR, q_catN]) ?_
  refine q_aload_n (pc := 11) C 1 1 dL_law_11 rfl rfl ?_
  refine q_iconst (pc := 12) C 3 dL_law_12 (by decide) ?_
  obtain ⟨b8, fs9, hb8, hm9, h⟩ := h
  refine q_cXi (pc := 13) (q_rVX C (st := []) (b := b8) (kX8_night l G b0 (t := 0) hL (fun _ _ h9 => h9.elim) h) (cwV 1 C.2.2.2.2.1 gL_law_X8_night rfl rfl rfl (by decide +kernel) ⟨Nat.le_of_ble_eq_true rfl, Nat.le_of_ble_eq_true rfl⟩) hm9 rfl rfl rfl (by first | exact Nat.le_of_ble_eq_true rfl | (simp [q_cat, q_catI, q_catJ, q_catR, q_catN]; done)) (by rw [hb8]; first | done | rfl) dL_law_13 ⟨(by first | omega | (dsimp only; omega)), (by first | omega | (dsimp only; omega))⟩) (fun E9 M9 h9 => h9.elim) (fun x6 M7 h => ?_)
  refine q_istore_n (pc := 16) C 3 [(3, .int x6), (2, .int x3), (1, va_rf x1), (0, va_rf l0)] dL_law_16 rfl (by decide) (by first | rfl | simp [q_cat, q_catI, q_catJ, q_catR, q_catN]) ?_
  refine q_iload_n (pc := 17) C 2 1 dL_law_17 rfl rfl ?_
  obtain ⟨hbk, h⟩ := h
  refine q_newI (pc := 18) C h (ty := .int) rfl (ak := 0) rfl (by decide) (by decide) rfl (by decide) (fun _ => m_raI) (by decide +kernel) (by first | omega | (dsimp only; omega)) (by first | omega | (dsimp only; omega)) dL_law_18 (fun q9 M10 h => ?_)
  refine q_astore (pc := 20) C 4 [(4, va_rf (some q9)), (3, .int x6), (2, .int x3), (1, va_rf x1), (0, va_rf l0)] dL_law_20 (by decide) (by first | rfl | simp [q_cat, q_catI, q_catJ, q_catR, q_catN]) ?_
  refine q_iload_n (pc := 22) C 2 2 dL_law_22 rfl rfl ?_
  obtain ⟨hbk, h⟩ := h
  refine q_newI (pc := 23) C h (ty := .boolean) rfl (ak := 1) rfl (by decide) (by decide) rfl (by decide) (fun _ => m_raZ) (by decide +kernel) (by first | omega | (dsimp only; omega)) (by first | omega | (dsimp only; omega)) dL_law_23 (fun q11 M12 h => ?_)
  refine q_astore (pc := 25) C 5 [(5, va_rf (some q11)), (4, va_rf (some q9)), (3, .int x6), (2, .int x3), (1, va_rf x1), (0, va_rf l0)] dL_law_25 (by decide) (by first | rfl | simp [q_cat, q_catI, q_catJ, q_catR, q_catN]) ?_
  refine q_iload_n (pc := 27) C 3 2 dL_law_27 rfl rfl ?_
  obtain ⟨hbk, h⟩ := h
  refine q_newI (pc := 28) C h (ty := .boolean) rfl (ak := 1) rfl (by decide) (by decide) rfl (by decide) (fun _ => m_raZ) (by decide +kernel) (by first | omega | (dsimp only; omega)) (by first | omega | (dsimp only; omega)) dL_law_28 (fun q13 M14 h => ?_)
  refine q_astore (pc := 30) C 6 [(6, va_rf (some q13)), (5, va_rf (some q11)), (4, va_rf (some q9)), (3, .int x6), (2, .int x3), (1, va_rf x1), (0, va_rf l0)] dL_law_30 (by decide) (by first | rfl | simp [q_cat, q_catI, q_catJ, q_catR, q_catN]) ?_
  refine q_iconst (pc := 32) C 0 dL_law_32 (by decide) ?_
  refine q_istore (pc := 33) C 7 [(7, .int 0), (6, va_rf (some q13)), (5, va_rf (some q11)), (4, va_rf (some q9)), (3, .int x6), (2, .int x3), (1, va_rf x1), (0, va_rf l0)] dL_law_33 (by decide) (by first | rfl | simp [q_cat, q_catI, q_catJ, q_catR, q_catN]) ?_
  refine q_lv [7, 6, 5, 4, 3, 2, 1, 0] rfl ?_
  obtain ⟨f9, h⟩ := h
  exact tL_law_35 C hr hlocks hL hN hS hg hk9 f9 _ _ _ _ _ _ _ _ _ _ _ h
