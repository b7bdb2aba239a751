/-! L_below -/
set_option maxRecDepth 100000 in
set_option maxHeartbeats 4000000 in
theorem tL_below {p : Program} {l : Launch} {e : Env} {s : State} {m : MethodId} {args : Array Value} {below : List Frame} {meth : Method} {c : Code} {G : mG} {b0 : Nat} (C : m_C p s m args c cL_below 2 RL wsL_below G b0) (hr : meth.sig.returnType = (some .int)) (hlocks : meth.locks = false) {κ : Int32 → mM → Prop} {l0 : Int32} {l1 : Int32} {M : mM} (h : wL_below κ l0 l1 M) : m_W p l e ({ frames := 0, cells := 0, slots := 0, locals := 0 } : Room) s m args below meth c G b0 (MQ below (va_Qi κ (m_B G b0) (fun q => b0 ≤ q)) args s 0 0 (fun q => b0 ≤ q)) 2 M 0 0 0 [(0, .int l0), (1, .int l1)] [] := by
  unfold wL_below at h
  refine q_iload_n (pc := 0) C 0 0 dL_below_0 rfl rfl ?_
  refine q_ldc (pc := 1) C 2147483647 (by decide +kernel) dL_below_1 ?_
  refine q_iand (pc := 3) C dL_below_3 ?_
  refine q_iload_n (pc := 4) C 1 1 dL_below_4 rfl rfl ?_
  refine q_irem (pc := 5) C dL_below_5 h.1 ?_
  refine m_stk (st2 := .int (m_rem (l0 &&& 2147483647) l1) :: _) rfl ?_
  have h := h.2
  exact q_iret (pc := 6) C hr hlocks h dL_below_6 (by omega) (by omega)
set_option maxRecDepth 100000 in
set_option maxHeartbeats 4000000 in
theorem kL_below (l : Launch) (G : mG) (b0 : Nat) {l0 : Int32} {l1 : Int32} {M : mM} {κ : Int32 → mM → Prop} (h : wL_below κ l0 l1 M) : Met l yL_below wsL_below ({ frames := 0, cells := 0, slots := 0, locals := 0 } : Room) (va_Pc [.int l0, .int l1] (m_Pre G b0 M)) (va_Qi κ (m_B G b0) (fun q => b0 ≤ q)) 0 0 (fun q => b0 ≤ q) := by
  refine m_met (cc := cL_below) (maxL := 2) (ret := (some .int)) (lv := [(0, .int l0), (1, .int l1)]) RL rfl (by decide +kernel) rfl (by first | exact Nat.le_of_ble_eq_true rfl | simp [lg_sl, q_cat, q_catI, q_catJ, q_catR, q_catN]) (by first | rfl | (simp [lv_args, q_cat, q_catI, q_catJ, q_catR, q_catN]; done) | (simp [lv_args, q_cat, q_catI, q_catJ, q_catR, q_catN]; rfl)) ?_
  intro p e s m args below meth c C hr hlocks hni
  exact tL_below C hr hlocks h
/-! L_cell -/
set_option maxRecDepth 100000 in
set_option maxHeartbeats 4000000 in
theorem tL_cell {p : Program} {l : Launch} {e : Env} {s : State} {m : MethodId} {args : Array Value} {below : List Frame} {meth : Method} {c : Code} {G : mG} {b0 : Nat} (C : m_C p s m args c cL_cell 2 RL wsL_cell G b0) (hr : meth.sig.returnType = (some .int)) (hlocks : meth.locks = false) {κ : Int32 → mM → Prop} {l0 : Option Nat} {l1 : Int32} {M : mM} (h : wL_cell κ l0 l1 M) : m_W p l e ({ frames := 0, cells := 0, slots := 0, locals := 0 } : Room) s m args below meth c G b0 (MQ below (va_Qi κ (m_B G b0) (fun q => b0 ≤ q)) args s 0 0 (fun q => b0 ≤ q)) 2 M 0 0 0 [(0, va_rf l0), (1, .int l1)] [] := by
  unfold wL_cell at h
  refine q_iload_n (pc := 0) C 1 1 dL_cell_0 rfl rfl ?_
  refine q_aload_n (pc := 1) C 0 0 dL_cell_1 rfl rfl ?_
  refine q_len (pc := 2) C h dL_cell_2 (fun x1 h => ?_)
  refine q_icmp_ge (pc := 3) C 12 dL_cell_3 (by decide) (fun c2 => ?_) (fun c2 => ?_)
  · have h := h.1 c2
    refine q_ldc (pc := 12) C 790386105 (by decide +kernel) dL_cell_12 ?_
    refine q_iload_n (pc := 14) C 1 1 dL_cell_14 rfl rfl ?_
    refine q_iconst (pc := 15) C 3 dL_cell_15 (by decide) ?_
    refine q_iadd (pc := 16) C dL_cell_16 ?_
    refine q_imul (pc := 17) C dL_cell_17 ?_
    exact q_iret (pc := 18) C hr hlocks h dL_cell_18 (by omega) (by omega)
  · have h := h.2 c2
    refine q_aload_n (pc := 6) C 0 0 dL_cell_6 rfl rfl ?_
    refine q_iload_n (pc := 7) C 1 1 dL_cell_7 rfl rfl ?_
    refine q_ialdS (pc := 8) C h dL_cell_8 (fun x3 h => ?_)
    refine q_goto (pc := 9) C 18 dL_cell_9 (by decide) ?_
    exact q_iret (pc := 18) C hr hlocks h dL_cell_18 (by omega) (by omega)
set_option maxRecDepth 100000 in
set_option maxHeartbeats 4000000 in
theorem kL_cell (l : Launch) (G : mG) (b0 : Nat) {l0 : Option Nat} {l1 : Int32} {M : mM} {κ : Int32 → mM → Prop} (h : wL_cell κ l0 l1 M) : Met l yL_cell wsL_cell ({ frames := 0, cells := 0, slots := 0, locals := 0 } : Room) (va_Pc [va_rf l0, .int l1] (m_Pre G b0 M)) (va_Qi κ (m_B G b0) (fun q => b0 ≤ q)) 0 0 (fun q => b0 ≤ q) := by
  refine m_met (cc := cL_cell) (maxL := 2) (ret := (some .int)) (lv := [(0, va_rf l0), (1, .int l1)]) RL rfl (by decide +kernel) rfl (by first | exact Nat.le_of_ble_eq_true rfl | simp [lg_sl, q_cat, q_catI, q_catJ, q_catR, q_catN]) (by first | rfl | (simp [lv_args, q_cat, q_catI, q_catJ, q_catR, q_catN]; done) | (simp [lv_args, q_cat, q_catI, q_catJ, q_catR, q_catN]; rfl)) ?_
  intro p e s m args below meth c C hr hlocks hni
  exact tL_cell C hr hlocks h
/-! L_night -/
set_option maxRecDepth 100000 in
set_option maxHeartbeats 4000000 in
theorem tL_night_358 {p : Program} {l : Launch} {e : Env} {s : State} {m : MethodId} {args : Array Value} {below : List Frame} {meth : Method} {c : Code} {G : mG} {b0 : Nat} (C : m_C p s m args c cL_night 6 RL wsL_night G b0) (hr : meth.sig.returnType = (some (.object "Lullabygate"))) (hlocks : meth.locks = false) (hL : l.stackTraces = false) {g : Nat → Nat} (hg : G.2.2 = g) {κ : Option Nat → mM → Prop} : ∀ (f : Nat) (k9 n9 : Nat) (l0 : Option Nat) (l1 : Option Nat) (l3 : Int32) (l4 : Int32) (M : mM), wL_night_358 g κ f k9 n9 l0 l1 l3 l4 M → m_W p l e ({ frames := 8, cells := 400, slots := 9000, locals := 198 } : Room) s m args below meth c G b0 (MQ below (va_Qq κ (m_B G b0) (fun q => b0 ≤ q)) args s 400 9000 (fun q => b0 ≤ q)) 6 M k9 n9 358 [(0, va_rf l0), (1, va_rf l1), (3, .int l3), (4, .int l4)] [] := by
  intro f
  induction f with
  | zero =>
    intro k9 n9 l0 l1 l3 l4 M h
    exact absurd h (by simp [wL_night_358])
  | succ f ih =>
    intro k9 n9 l0 l1 l3 l4 M h
    rw [wL_night_358] at h
    obtain ⟨hbk, h⟩ := h
    refine q_iload (pc := 358) C 4 3 dL_night_358 rfl ?_
    refine q_bipush (pc := 360) C 10 dL_night_360 (by decide) ?_
    refine q_icmp_ge (pc := 362) C 419 dL_night_362 (by decide) (fun c1 => ?_) (fun c1 => ?_)
    · have h := h.1 c1
      refine q_aload_n (pc := 419) C 1 1 dL_night_419 rfl rfl ?_
      obtain ⟨hbk, h⟩ := h
      exact q_aret (pc := 420) C hr (by first | exact Or.inl ⟨_, rfl⟩ | exact Or.inr ⟨_, rfl⟩) hlocks h dL_night_420 (by omega) (by omega)
    · have h := h.2 c1
      refine q_aload_n (pc := 365) C 0 0 dL_night_365 rfl rfl ?_
      refine q_bipush (pc := 366) C 13 dL_night_366 (by decide) ?_
      refine q_ci (pc := 368) (q_rS C (st := []) (kL_cell l G b0 h) (va_cwS 2 C.2.2.2.2.1 gL_night_L_cell rfl rfl rfl (by decide +kernel) ⟨Nat.le_of_ble_eq_true rfl, Nat.le_of_ble_eq_true rfl⟩) rfl (by first | exact Nat.le_of_ble_eq_true rfl | (simp [q_cat, q_catI, q_catJ, q_catR, q_catN]; done)) rfl dL_night_368 ⟨(by first | omega | (dsimp only; omega)), (by first | omega | (dsimp only; omega))⟩) (fun x2 M3 h => ?_)
      refine q_iload (pc := 371) C 4 3 dL_night_371 rfl ?_
      refine q_ishr (pc := 373) C dL_night_373 ?_
      refine m_stk (st2 := .int (m_shr x2 l4) :: _) rfl ?_
      refine q_istore (pc := 374) C 5 [(5, .int (m_shr x2 l4)), (0, va_rf l0), (1, va_rf l1), (3, .int l3), (4, .int l4)] dL_night_374 (by decide) (by first | rfl | simp [q_cat, q_catI, q_catJ, q_catR, q_catN]) ?_
      refine q_aload_n (pc := 376) C 1 2 dL_night_376 rfl rfl ?_
      refine q_iload (pc := 377) C 5 0 dL_night_377 rfl ?_
      refine q_iload_n (pc := 379) C 3 3 dL_night_379 rfl rfl ?_
      refine q_ci (pc := 380) (q_rS C (st := [va_rf l1]) (kL_below l G b0 h) (va_cwS 2 C.2.2.2.2.1 gL_night_L_below rfl rfl rfl (by decide +kernel) ⟨Nat.le_of_ble_eq_true rfl, Nat.le_of_ble_eq_true rfl⟩) rfl (by first | exact Nat.le_of_ble_eq_true rfl | (simp [q_cat, q_catI, q_catJ, q_catR, q_catN]; done)) rfl dL_night_380 ⟨(by first | omega | (dsimp only; omega)), (by first | omega | (dsimp only; omega))⟩) (fun x4 M5 h => ?_)
      refine q_iload (pc := 383) C 5 0 dL_night_383 rfl ?_
      refine q_iconst (pc := 385) C 3 dL_night_385 (by decide) ?_
      refine q_ishr (pc := 386) C dL_night_386 ?_
      refine m_stk (st2 := .int (m_shr (m_shr x2 l4) 3) :: _) rfl ?_
      refine q_iconst (pc := 387) C 4 dL_night_387 (by decide) ?_
      refine q_ci (pc := 388) (q_rS C (st := [.int x4, va_rf l1]) (kL_below l G b0 h) (va_cwS 2 C.2.2.2.2.1 gL_night_L_below rfl rfl rfl (by decide +kernel) ⟨Nat.le_of_ble_eq_true rfl, Nat.le_of_ble_eq_true rfl⟩) rfl (by first | exact Nat.le_of_ble_eq_true rfl | (simp [q_cat, q_catI, q_catJ, q_catR, q_catN]; done)) rfl dL_night_388 ⟨(by first | omega | (dsimp only; omega)), (by first | omega | (dsimp only; omega))⟩) (fun x6 M7 h => ?_)
      refine q_iload (pc := 391) C 5 0 dL_night_391 rfl ?_
      refine q_iconst (pc := 393) C 5 dL_night_393 (by decide) ?_
      refine q_ishr (pc := 394) C dL_night_394 ?_
      refine m_stk (st2 := .int (m_shr (m_shr x2 l4) 5) :: _) rfl ?_
      refine q_bipush (pc := 395) C 60 dL_night_395 (by decide) ?_
      refine q_ci (pc := 397) (q_rS C (st := [.int x6, .int x4, va_rf l1]) (kL_below l G b0 h) (va_cwS 2 C.2.2.2.2.1 gL_night_L_below rfl rfl rfl (by decide +kernel) ⟨Nat.le_of_ble_eq_true rfl, Nat.le_of_ble_eq_true rfl⟩) rfl (by first | exact Nat.le_of_ble_eq_true rfl | (simp [q_cat, q_catI, q_catJ, q_catR, q_catN]; done)) rfl dL_night_397 ⟨(by first | omega | (dsimp only; omega)), (by first | omega | (dsimp only; omega))⟩) (fun x8 M9 h => ?_)
      refine q_iload (pc := 400) C 5 0 dL_night_400 rfl ?_
      refine q_iconst (pc := 402) C 2 dL_night_402 (by decide) ?_
      refine q_ishr (pc := 403) C dL_night_403 ?_
      refine m_stk (st2 := .int (m_shr (m_shr x2 l4) 2) :: _) rfl ?_
      refine q_bipush (pc := 404) C 10 dL_night_404 (by decide) ?_
      refine q_ci (pc := 406) (q_rS C (st := [.int x8, .int x6, .int x4, va_rf l1]) (kL_below l G b0 h) (va_cwS 2 C.2.2.2.2.1 gL_night_L_below rfl rfl rfl (by decide +kernel) ⟨Nat.le_of_ble_eq_true rfl, Nat.le_of_ble_eq_true rfl⟩) rfl (by first | exact Nat.le_of_ble_eq_true rfl | (simp [q_cat, q_catI, q_catJ, q_catR, q_catN]; done)) rfl dL_night_406 ⟨(by first | omega | (dsimp only; omega)), (by first | omega | (dsimp only; omega))⟩) (fun x10 M11 h => ?_)
      obtain ⟨hbk, h⟩ := h
      obtain ⟨b14, fs9, hb14, hm9, h⟩ := h
      refine q_cXi (pc := 409) (q_rVX C (st := []) (b := b14) (kX8_part l G b0 (t := 0) hL hg (fun _ _ h9 => h9.elim) h) (cwV 4 C.2.2.2.2.1 gL_night_X8_part rfl rfl rfl (by decide +kernel) ⟨Nat.le_of_ble_eq_true rfl, Nat.le_of_ble_eq_true rfl⟩) hm9 rfl rfl rfl (by first | exact Nat.le_of_ble_eq_true rfl | (simp [q_cat, q_catI, q_catJ, q_catR, q_catN]; done)) (by rw [hb14]; first | done | rfl) dL_night_409 ⟨(by first | omega | (dsimp only; omega)), (by first | omega | (dsimp only; omega))⟩) (fun E9 M9 h9 => h9.elim) (fun x12 M13 h => ?_)
      refine q_pop (pc := 412) C dL_night_412 rfl ?_
      refine q_iinc (pc := 413) C 4 4 (l4 + 1) [(4, .int (l4 + 1)), (5, .int (m_shr x2 l4)), (0, va_rf l0), (1, va_rf l1), (3, .int l3)] dL_night_413 rfl (by rfl) (by decide) (by first | rfl | simp [q_cat, q_catI, q_catJ, q_catR, q_catN]) ?_
      refine q_goto (pc := 416) C 358 dL_night_416 (by decide) ?_
      refine q_lv [2, 3, 4, 0] rfl ?_
      exact ih _ _ _ _ _ _ _ h
set_option maxRecDepth 100000 in
set_option maxHeartbeats 4000000 in
theorem tL_night_327 {p : Program} {l : Launch} {e : Env} {s : State} {m : MethodId} {args : Array Value} {below : List Frame} {meth : Method} {c : Code} {G : mG} {b0 : Nat} (C : m_C p s m args c cL_night 6 RL wsL_night G b0) (hr : meth.sig.returnType = (some (.object "Lullabygate"))) (hlocks : meth.locks = false) (hL : l.stackTraces = false) {g : Nat → Nat} (hg : G.2.2 = g) {κ : Option Nat → mM → Prop} {R284 : Nat → Nat → Option Nat → Option Nat → Int32 → Int32 → mM → Prop} (hR284 : ∀ (k9 n9 : Nat) (l0 : Option Nat) (l1 : Option Nat) (l3 : Int32) (l4 : Int32) (M : mM), R284 k9 n9 l0 l1 l3 l4 M → m_W p l e ({ frames := 8, cells := 400, slots := 9000, locals := 198 } : Room) s m args below meth c G b0 (MQ below (va_Qq κ (m_B G b0) (fun q => b0 ≤ q)) args s 400 9000 (fun q => b0 ≤ q)) 6 M k9 n9 284 [(0, va_rf l0), (1, va_rf l1), (3, .int l3), (4, .int l4)] []) {k9 n9 : Nat} {l0 : Option Nat} {l1 : Option Nat} {l3 : Int32} {l4 : Int32} {s0 : Int32} {s1 : Int32} {s2 : Option Nat} {M : mM} (h : wL_night_327 g κ R284 k9 n9 l0 l1 l3 l4 s0 s1 s2 M) : m_W p l e ({ frames := 8, cells := 400, slots := 9000, locals := 198 } : Room) s m args below meth c G b0 (MQ below (va_Qq κ (m_B G b0) (fun q => b0 ≤ q)) args s 400 9000 (fun q => b0 ≤ q)) 6 M k9 n9 327 [(0, va_rf l0), (1, va_rf l1), (3, .int l3), (4, .int l4)] [.int s0, .int s1, va_rf s2] := by
  unfold wL_night_327 at h
  obtain ⟨hbk, h⟩ := h
  refine q_iconst (pc := 327) C 1 dL_night_327 (by decide) ?_
  refine q_aload_n (pc := 328) C 0 0 dL_night_328 rfl rfl ?_
  refine q_bipush (pc := 329) C 12 dL_night_329 (by decide) ?_
  refine q_ci (pc := 331) (q_rS C (st := [.int 1, .int s0, .int s1, va_rf s2]) (kL_cell l G b0 h) (va_cwS 2 C.2.2.2.2.1 gL_night_L_cell rfl rfl rfl (by decide +kernel) ⟨Nat.le_of_ble_eq_true rfl, Nat.le_of_ble_eq_true rfl⟩) rfl (by first | exact Nat.le_of_ble_eq_true rfl | (simp [q_cat, q_catI, q_catJ, q_catR, q_catN]; done)) rfl dL_night_331 ⟨(by first | omega | (dsimp only; omega)), (by first | omega | (dsimp only; omega))⟩) (fun x1 M2 h => ?_)
  refine q_iconst (pc := 334) C 2 dL_night_334 (by decide) ?_
  refine q_iload (pc := 335) C 4 3 dL_night_335 rfl ?_
  refine q_imul (pc := 337) C dL_night_337 ?_
  refine q_ishr (pc := 338) C dL_night_338 ?_
  refine m_stk (st2 := .int (m_shr x1 (2 * l4)) :: _) rfl ?_
  refine q_bipush (pc := 339) C 9 dL_night_339 (by decide) ?_
  refine q_ci (pc := 341) (q_rS C (st := [.int 1, .int s0, .int s1, va_rf s2]) (kL_below l G b0 h) (va_cwS 2 C.2.2.2.2.1 gL_night_L_below rfl rfl rfl (by decide +kernel) ⟨Nat.le_of_ble_eq_true rfl, Nat.le_of_ble_eq_true rfl⟩) rfl (by first | exact Nat.le_of_ble_eq_true rfl | (simp [q_cat, q_catI, q_catJ, q_catR, q_catN]; done)) rfl dL_night_341 ⟨(by first | omega | (dsimp only; omega)), (by first | omega | (dsimp only; omega))⟩) (fun x3 M4 h => ?_)
  refine q_iadd (pc := 344) C dL_night_344 ?_
  obtain ⟨hbk, h⟩ := h
  obtain ⟨b7, fs9, hb7, hm9, h⟩ := h
  refine q_cXi (pc := 345) (q_rVX C (st := []) (b := b7) (kX8_sleeper l G b0 (t := 0) hL hg (fun _ _ h9 => h9.elim) h) (cwV 3 C.2.2.2.2.1 gL_night_X8_sleeper rfl rfl rfl (by decide +kernel) ⟨Nat.le_of_ble_eq_true rfl, Nat.le_of_ble_eq_true rfl⟩) hm9 rfl rfl rfl (by first | exact Nat.le_of_ble_eq_true rfl | (simp [q_cat, q_catI, q_catJ, q_catR, q_catN]; done)) (by rw [hb7]; first | done | rfl) dL_night_345 ⟨(by first | omega | (dsimp only; omega)), (by first | omega | (dsimp only; omega))⟩) (fun E9 M9 h9 => h9.elim) (fun x5 M6 h => ?_)
  refine q_pop (pc := 348) C dL_night_348 rfl ?_
  refine q_iinc (pc := 349) C 4 3 (l4 + 1) [(4, .int (l4 + 1)), (0, va_rf l0), (1, va_rf l1), (3, .int l3)] dL_night_349 rfl (by rfl) (by decide) (by first | rfl | simp [q_cat, q_catI, q_catJ, q_catR, q_catN]) ?_
  refine q_goto (pc := 352) C 284 dL_night_352 (by decide) ?_
  refine q_lv [1, 2, 3, 0] rfl ?_
  exact hR284 _ _ _ _ _ _ _ h
set_option maxRecDepth 100000 in
set_option maxHeartbeats 4000000 in
theorem tL_night_284 {p : Program} {l : Launch} {e : Env} {s : State} {m : MethodId} {args : Array Value} {below : List Frame} {meth : Method} {c : Code} {G : mG} {b0 : Nat} (C : m_C p s m args c cL_night 6 RL wsL_night G b0) (hr : meth.sig.returnType = (some (.object "Lullabygate"))) (hlocks : meth.locks = false) (hL : l.stackTraces = false) {g : Nat → Nat} (hg : G.2.2 = g) {κ : Option Nat → mM → Prop} : ∀ (f : Nat) (k9 n9 : Nat) (l0 : Option Nat) (l1 : Option Nat) (l3 : Int32) (l4 : Int32) (M : mM), wL_night_284 g κ f k9 n9 l0 l1 l3 l4 M → m_W p l e ({ frames := 8, cells := 400, slots := 9000, locals := 198 } : Room) s m args below meth c G b0 (MQ below (va_Qq κ (m_B G b0) (fun q => b0 ≤ q)) args s 400 9000 (fun q => b0 ≤ q)) 6 M k9 n9 284 [(0, va_rf l0), (1, va_rf l1), (3, .int l3), (4, .int l4)] [] := by
  intro f
  induction f with
  | zero =>
    intro k9 n9 l0 l1 l3 l4 M h
    exact absurd h (by simp [wL_night_284])
  | succ f ih =>
    intro k9 n9 l0 l1 l3 l4 M h
    rw [wL_night_284] at h
    obtain ⟨hbk, h⟩ := h
    refine q_iload (pc := 284) C 4 3 dL_night_284 rfl ?_
    refine q_iload_n (pc := 286) C 3 2 dL_night_286 rfl rfl ?_
    refine q_icmp_ge (pc := 287) C 355 dL_night_287 (by decide) (fun c1 => ?_) (fun c1 => ?_)
    · have h := h.1 c1
      refine q_iconst (pc := 355) C 0 dL_night_355 (by decide) ?_
      refine q_istore (pc := 356) C 4 [(4, .int 0), (0, va_rf l0), (1, va_rf l1), (3, .int l3)] dL_night_356 (by decide) (by first | rfl | simp [q_cat, q_catI, q_catJ, q_catR, q_catN]) ?_
      refine q_lv [1, 2, 3, 0] rfl ?_
      obtain ⟨f9, h⟩ := h
      exact tL_night_358 C hr hlocks hL hg f9 _ _ _ _ _ _ _ h
    · have h := h.2 c1
      refine q_aload_n (pc := 290) C 1 1 dL_night_290 rfl rfl ?_
      refine q_aload_n (pc := 291) C 0 0 dL_night_291 rfl rfl ?_
      refine q_bipush (pc := 292) C 10 dL_night_292 (by decide) ?_
      refine q_ci (pc := 294) (q_rS C (st := [va_rf l1]) (kL_cell l G b0 h) (va_cwS 2 C.2.2.2.2.1 gL_night_L_cell rfl rfl rfl (by decide +kernel) ⟨Nat.le_of_ble_eq_true rfl, Nat.le_of_ble_eq_true rfl⟩) rfl (by first | exact Nat.le_of_ble_eq_true rfl | (simp [q_cat, q_catI, q_catJ, q_catR, q_catN]; done)) rfl dL_night_294 ⟨(by first | omega | (dsimp only; omega)), (by first | omega | (dsimp only; omega))⟩) (fun x2 M3 h => ?_)
      refine q_iconst (pc := 297) C 2 dL_night_297 (by decide) ?_
      refine q_iload (pc := 298) C 4 3 dL_night_298 rfl ?_
      refine q_imul (pc := 300) C dL_night_300 ?_
      refine q_ishr (pc := 301) C dL_night_301 ?_
      refine m_stk (st2 := .int (m_shr x2 (2 * l4)) :: _) rfl ?_
      refine q_iconst (pc := 302) C 4 dL_night_302 (by decide) ?_
      refine q_ci (pc := 303) (q_rS C (st := [va_rf l1]) (kL_below l G b0 h) (va_cwS 2 C.2.2.2.2.1 gL_night_L_below rfl rfl rfl (by decide +kernel) ⟨Nat.le_of_ble_eq_true rfl, Nat.le_of_ble_eq_true rfl⟩) rfl (by first | exact Nat.le_of_ble_eq_true rfl | (simp [q_cat, q_catI, q_catJ, q_catR, q_catN]; done)) rfl dL_night_303 ⟨(by first | omega | (dsimp only; omega)), (by first | omega | (dsimp only; omega))⟩) (fun x4 M5 h => ?_)
      refine q_aload_n (pc := 306) C 0 0 dL_night_306 rfl rfl ?_
      refine q_bipush (pc := 307) C 11 dL_night_307 (by decide) ?_
      refine q_ci (pc := 309) (q_rS C (st := [.int x4, va_rf l1]) (kL_cell l G b0 h) (va_cwS 2 C.2.2.2.2.1 gL_night_L_cell rfl rfl rfl (by decide +kernel) ⟨Nat.le_of_ble_eq_true rfl, Nat.le_of_ble_eq_true rfl⟩) rfl (by first | exact Nat.le_of_ble_eq_true rfl | (simp [q_cat, q_catI, q_catJ, q_catR, q_catN]; done)) rfl dL_night_309 ⟨(by first | omega | (dsimp only; omega)), (by first | omega | (dsimp only; omega))⟩) (fun x6 M7 h => ?_)
      refine q_iload (pc := 312) C 4 3 dL_night_312 rfl ?_
      refine q_ishr (pc := 314) C dL_night_314 ?_
      refine m_stk (st2 := .int (m_shr x6 l4) :: _) rfl ?_
      refine q_iconst (pc := 315) C 3 dL_night_315 (by decide) ?_
      refine q_ci (pc := 316) (q_rS C (st := [.int x4, va_rf l1]) (kL_below l G b0 h) (va_cwS 2 C.2.2.2.2.1 gL_night_L_below rfl rfl rfl (by decide +kernel) ⟨Nat.le_of_ble_eq_true rfl, Nat.le_of_ble_eq_true rfl⟩) rfl (by first | exact Nat.le_of_ble_eq_true rfl | (simp [q_cat, q_catI, q_catJ, q_catR, q_catN]; done)) rfl dL_night_316 ⟨(by first | omega | (dsimp only; omega)), (by first | omega | (dsimp only; omega))⟩) (fun x8 M9 h => ?_)
      refine q_if_ne (pc := 319) C 326 dL_night_319 (by decide) (fun c10 => ?_) (fun c10 => ?_)
      · have h := h.2 c10
        refine q_iconst (pc := 326) C 0 dL_night_326 (by decide) ?_
        refine q_lv [0, 1, 2, 3] rfl ?_
        exact tL_night_327 C hr hlocks hL hg ih h
      · have h := h.1 c10
        refine q_iconst (pc := 322) C 1 dL_night_322 (by decide) ?_
        refine q_goto (pc := 323) C 327 dL_night_323 (by decide) ?_
        refine q_lv [0, 1, 2, 3] rfl ?_
        exact tL_night_327 C hr hlocks hL hg ih h
set_option maxRecDepth 100000 in
set_option maxHeartbeats 4000000 in
theorem tL_night_161 {p : Program} {l : Launch} {e : Env} {s : State} {m : MethodId} {args : Array Value} {below : List Frame} {meth : Method} {c : Code} {G : mG} {b0 : Nat} (C : m_C p s m args c cL_night 6 RL wsL_night G b0) (hr : meth.sig.returnType = (some (.object "Lullabygate"))) (hlocks : meth.locks = false) (hL : l.stackTraces = false) {g : Nat → Nat} (hg : G.2.2 = g) {κ : Option Nat → mM → Prop} : ∀ (f : Nat) (k9 n9 : Nat) (l0 : Option Nat) (l1 : Option Nat) (l2 : Int32) (l3 : Int32) (M : mM), wL_night_161 g κ f k9 n9 l0 l1 l2 l3 M → m_W p l e ({ frames := 8, cells := 400, slots := 9000, locals := 198 } : Room) s m args below meth c G b0 (MQ below (va_Qq κ (m_B G b0) (fun q => b0 ≤ q)) args s 400 9000 (fun q => b0 ≤ q)) 6 M k9 n9 161 [(0, va_rf l0), (1, va_rf l1), (2, .int l2), (3, .int l3)] [] := by
  intro f
  induction f with
  | zero =>
    intro k9 n9 l0 l1 l2 l3 M h
    exact absurd h (by simp [wL_night_161])
  | succ f ih =>
    intro k9 n9 l0 l1 l2 l3 M h
    rw [wL_night_161] at h
    obtain ⟨hbk, h⟩ := h
    refine q_iload_n (pc := 161) C 3 3 dL_night_161 rfl rfl ?_
    refine q_iload_n (pc := 162) C 2 2 dL_night_162 rfl rfl ?_
    refine q_icmp_ge (pc := 163) C 267 dL_night_163 (by decide) (fun c1 => ?_) (fun c1 => ?_)
    · have h := h.1 c1
      refine q_iconst (pc := 267) C 2 dL_night_267 (by decide) ?_
      refine q_aload_n (pc := 268) C 0 0 dL_night_268 rfl rfl ?_
      refine q_bipush (pc := 269) C 9 dL_night_269 (by decide) ?_
      refine q_ci (pc := 271) (q_rS C (st := [.int 2]) (kL_cell l G b0 h) (va_cwS 2 C.2.2.2.2.1 gL_night_L_cell rfl rfl rfl (by decide +kernel) ⟨Nat.le_of_ble_eq_true rfl, Nat.le_of_ble_eq_true rfl⟩) rfl (by first | exact Nat.le_of_ble_eq_true rfl | (simp [q_cat, q_catI, q_catJ, q_catR, q_catN]; done)) rfl dL_night_271 ⟨(by first | omega | (dsimp only; omega)), (by first | omega | (dsimp only; omega))⟩) (fun x2 M3 h => ?_)
      refine q_bipush (pc := 274) C 6 dL_night_274 (by decide) ?_
      refine q_ci (pc := 276) (q_rS C (st := [.int 2]) (kL_below l G b0 h) (va_cwS 2 C.2.2.2.2.1 gL_night_L_below rfl rfl rfl (by decide +kernel) ⟨Nat.le_of_ble_eq_true rfl, Nat.le_of_ble_eq_true rfl⟩) rfl (by first | exact Nat.le_of_ble_eq_true rfl | (simp [q_cat, q_catI, q_catJ, q_catR, q_catN]; done)) rfl dL_night_276 ⟨(by first | omega | (dsimp only; omega)), (by first | omega | (dsimp only; omega))⟩) (fun x4 M5 h => ?_)
      refine q_iadd (pc := 279) C dL_night_279 ?_
      refine q_istore_n (pc := 280) C 3 [(3, .int (2 + x4)), (0, va_rf l0), (1, va_rf l1), (2, .int l2)] dL_night_280 rfl (by decide) (by first | rfl | simp [q_cat, q_catI, q_catJ, q_catR, q_catN]) ?_
      refine q_iconst (pc := 281) C 0 dL_night_281 (by decide) ?_
      refine q_istore (pc := 282) C 4 [(4, .int 0), (3, .int (2 + x4)), (0, va_rf l0), (1, va_rf l1), (2, .int l2)] dL_night_282 (by decide) (by first | rfl | simp [q_cat, q_catI, q_catJ, q_catR, q_catN]) ?_
      refine q_lv [2, 3, 1, 0] rfl ?_
      obtain ⟨f9, h⟩ := h
      exact tL_night_284 C hr hlocks hL hg f9 _ _ _ _ _ _ _ h
    · have h := h.2 c1
      refine q_aload_n (pc := 166) C 0 0 dL_night_166 rfl rfl ?_
      refine q_iconst (pc := 167) C 4 dL_night_167 (by decide) ?_
      refine q_ci (pc := 168) (q_rS C (st := []) (kL_cell l G b0 h) (va_cwS 2 C.2.2.2.2.1 gL_night_L_cell rfl rfl rfl (by decide +kernel) ⟨Nat.le_of_ble_eq_true rfl, Nat.le_of_ble_eq_true rfl⟩) rfl (by first | exact Nat.le_of_ble_eq_true rfl | (simp [q_cat, q_catI, q_catJ, q_catR, q_catN]; done)) rfl dL_night_168 ⟨(by first | omega | (dsimp only; omega)), (by first | omega | (dsimp only; omega))⟩) (fun x6 M7 h => ?_)
      refine q_iconst (pc := 171) C 3 dL_night_171 (by decide) ?_
      refine q_iload_n (pc := 172) C 3 3 dL_night_172 rfl rfl ?_
      refine q_imul (pc := 173) C dL_night_173 ?_
      refine q_ishr (pc := 174) C dL_night_174 ?_
      refine m_stk (st2 := .int (m_shr x6 (3 * l3)) :: _) rfl ?_
      refine q_iconst (pc := 175) C 4 dL_night_175 (by decide) ?_
      refine q_ci (pc := 176) (q_rS C (st := []) (kL_below l G b0 h) (va_cwS 2 C.2.2.2.2.1 gL_night_L_below rfl rfl rfl (by decide +kernel) ⟨Nat.le_of_ble_eq_true rfl, Nat.le_of_ble_eq_true rfl⟩) rfl (by first | exact Nat.le_of_ble_eq_true rfl | (simp [q_cat, q_catI, q_catJ, q_catR, q_catN]; done)) rfl dL_night_176 ⟨(by first | omega | (dsimp only; omega)), (by first | omega | (dsimp only; omega))⟩) (fun x8 M9 h => ?_)
      refine q_istore (pc := 179) C 4 [(4, .int x8), (0, va_rf l0), (1, va_rf l1), (2, .int l2), (3, .int l3)] dL_night_179 (by decide) (by first | rfl | simp [q_cat, q_catI, q_catJ, q_catR, q_catN]) ?_
      refine q_aload_n (pc := 181) C 1 2 dL_night_181 rfl rfl ?_
      refine q_iload (pc := 182) C 4 0 dL_night_182 rfl ?_
      refine q_iload (pc := 184) C 4 0 dL_night_184 rfl ?_
      refine q_iconst (pc := 186) C 1 dL_night_186 (by decide) ?_
      refine q_iadd (pc := 187) C dL_night_187 ?_
      refine q_aload_n (pc := 188) C 0 1 dL_night_188 rfl rfl ?_
      refine q_iconst (pc := 189) C 5 dL_night_189 (by decide) ?_
      refine q_ci (pc := 190) (q_rS C (st := [.int (x8 + 1), .int x8, va_rf l1]) (kL_cell l G b0 h) (va_cwS 2 C.2.2.2.2.1 gL_night_L_cell rfl rfl rfl (by decide +kernel) ⟨Nat.le_of_ble_eq_true rfl, Nat.le_of_ble_eq_true rfl⟩) rfl (by first | exact Nat.le_of_ble_eq_true rfl | (simp [q_cat, q_catI, q_catJ, q_catR, q_catN]; done)) rfl dL_night_190 ⟨(by first | omega | (dsimp only; omega)), (by first | omega | (dsimp only; omega))⟩) (fun x10 M11 h => ?_)
      refine q_iconst (pc := 193) C 2 dL_night_193 (by decide) ?_
      refine q_iload_n (pc := 194) C 3 4 dL_night_194 rfl rfl ?_
      refine q_imul (pc := 195) C dL_night_195 ?_
      refine q_ishr (pc := 196) C dL_night_196 ?_
      refine m_stk (st2 := .int (m_shr x10 (2 * l3)) :: _) rfl ?_
      refine q_iconst (pc := 197) C 3 dL_night_197 (by decide) ?_
      refine q_ci (pc := 198) (q_rS C (st := [.int (x8 + 1), .int x8, va_rf l1]) (kL_below l G b0 h) (va_cwS 2 C.2.2.2.2.1 gL_night_L_below rfl rfl rfl (by decide +kernel) ⟨Nat.le_of_ble_eq_true rfl, Nat.le_of_ble_eq_true rfl⟩) rfl (by first | exact Nat.le_of_ble_eq_true rfl | (simp [q_cat, q_catI, q_catJ, q_catR, q_catN]; done)) rfl dL_night_198 ⟨(by first | omega | (dsimp only; omega)), (by first | omega | (dsimp only; omega))⟩) (fun x12 M13 h => ?_)
      refine q_iadd (pc := 201) C dL_night_201 ?_
      refine q_iconst (pc := 202) C 4 dL_night_202 (by decide) ?_
      refine q_irem (pc := 203) C dL_night_203 (by decide) ?_
      refine m_stk (st2 := .int (m_rem ((x8 + 1) + x12) 4) :: _) rfl ?_
      refine q_aload_n (pc := 204) C 0 1 dL_night_204 rfl rfl ?_
      refine q_bipush (pc := 205) C 6 dL_night_205 (by decide) ?_
      refine q_ci (pc := 207) (q_rS C (st := [.int (m_rem ((x8 + 1) + x12) 4), .int x8, va_rf l1]) (kL_cell l G b0 h) (va_cwS 2 C.2.2.2.2.1 gL_night_L_cell rfl rfl rfl (by decide +kernel) ⟨Nat.le_of_ble_eq_true rfl, Nat.le_of_ble_eq_true rfl⟩) rfl (by first | exact Nat.le_of_ble_eq_true rfl | (simp [q_cat, q_catI, q_catJ, q_catR, q_catN]; done)) rfl dL_night_207 ⟨(by first | omega | (dsimp only; omega)), (by first | omega | (dsimp only; omega))⟩) (fun x14 M15 h => ?_)
      refine q_iconst (pc := 210) C 3 dL_night_210 (by decide) ?_
      refine q_iload_n (pc := 211) C 3 4 dL_night_211 rfl rfl ?_
      refine q_imul (pc := 212) C dL_night_212 ?_
      refine q_ishr (pc := 213) C dL_night_213 ?_
      refine m_stk (st2 := .int (m_shr x14 (3 * l3)) :: _) rfl ?_
      refine q_bipush (pc := 214) C 24 dL_night_214 (by decide) ?_
      refine q_ci (pc := 216) (q_rS C (st := [.int (m_rem ((x8 + 1) + x12) 4), .int x8, va_rf l1]) (kL_below l G b0 h) (va_cwS 2 C.2.2.2.2.1 gL_night_L_below rfl rfl rfl (by decide +kernel) ⟨Nat.le_of_ble_eq_true rfl, Nat.le_of_ble_eq_true rfl⟩) rfl (by first | exact Nat.le_of_ble_eq_true rfl | (simp [q_cat, q_catI, q_catJ, q_catR, q_catN]; done)) rfl dL_night_216 ⟨(by first | omega | (dsimp only; omega)), (by first | omega | (dsimp only; omega))⟩) (fun x16 M17 h => ?_)
      refine q_iconst (pc := 219) C 1 dL_night_219 (by decide) ?_
      refine q_aload_n (pc := 220) C 0 1 dL_night_220 rfl rfl ?_
      refine q_bipush (pc := 221) C 7 dL_night_221 (by decide) ?_
      refine q_ci (pc := 223) (q_rS C (st := [.int 1, .int x16, .int (m_rem ((x8 + 1) + x12) 4), .int x8, va_rf l1]) (kL_cell l G b0 h) (va_cwS 2 C.2.2.2.2.1 gL_night_L_cell rfl rfl rfl (by decide +kernel) ⟨Nat.le_of_ble_eq_true rfl, Nat.le_of_ble_eq_true rfl⟩) rfl (by first | exact Nat.le_of_ble_eq_true rfl | (simp [q_cat, q_catI, q_catJ, q_catR, q_catN]; done)) rfl dL_night_223 ⟨(by first | omega | (dsimp only; omega)), (by first | omega | (dsimp only; omega))⟩) (fun x18 M19 h => ?_)
      refine q_iconst (pc := 226) C 3 dL_night_226 (by decide) ?_
      refine q_iload_n (pc := 227) C 3 4 dL_night_227 rfl rfl ?_
      refine q_imul (pc := 228) C dL_night_228 ?_
      refine q_ishr (pc := 229) C dL_night_229 ?_
      refine m_stk (st2 := .int (m_shr x18 (3 * l3)) :: _) rfl ?_
      refine q_bipush (pc := 230) C 24 dL_night_230 (by decide) ?_
      refine q_ci (pc := 232) (q_rS C (st := [.int 1, .int x16, .int (m_rem ((x8 + 1) + x12) 4), .int x8, va_rf l1]) (kL_below l G b0 h) (va_cwS 2 C.2.2.2.2.1 gL_night_L_below rfl rfl rfl (by decide +kernel) ⟨Nat.le_of_ble_eq_true rfl, Nat.le_of_ble_eq_true rfl⟩) rfl (by first | exact Nat.le_of_ble_eq_true rfl | (simp [q_cat, q_catI, q_catJ, q_catR, q_catN]; done)) rfl dL_night_232 ⟨(by first | omega | (dsimp only; omega)), (by first | omega | (dsimp only; omega))⟩) (fun x20 M21 h => ?_)
      refine q_iadd (pc := 235) C dL_night_235 ?_
      obtain ⟨hbk, h⟩ := h
      obtain ⟨b24, fs9, hb24, hm9, h⟩ := h
      refine q_cXi (pc := 236) (q_rVX C (st := []) (b := b24) (kX8_gate l G b0 (t := 0) hL hg (fun _ _ h9 => h9.elim) h) (cwV 4 C.2.2.2.2.1 gL_night_X8_gate rfl rfl rfl (by decide +kernel) ⟨Nat.le_of_ble_eq_true rfl, Nat.le_of_ble_eq_true rfl⟩) hm9 rfl rfl rfl (by first | exact Nat.le_of_ble_eq_true rfl | (simp [q_cat, q_catI, q_catJ, q_catR, q_catN]; done)) (by rw [hb24]; first | done | rfl) dL_night_236 ⟨(by first | omega | (dsimp only; omega)), (by first | omega | (dsimp only; omega))⟩) (fun E9 M9 h9 => h9.elim) (fun x22 M23 h => ?_)
      refine q_pop (pc := 239) C dL_night_239 rfl ?_
      refine q_aload_n (pc := 240) C 1 2 dL_night_240 rfl rfl ?_
      refine q_iload_n (pc := 241) C 3 4 dL_night_241 rfl rfl ?_
      refine q_aload_n (pc := 242) C 0 1 dL_night_242 rfl rfl ?_
      refine q_bipush (pc := 243) C 8 dL_night_243 (by decide) ?_
      refine q_ci (pc := 245) (q_rS C (st := [.int l3, va_rf l1]) (kL_cell l G b0 h) (va_cwS 2 C.2.2.2.2.1 gL_night_L_cell rfl rfl rfl (by decide +kernel) ⟨Nat.le_of_ble_eq_true rfl, Nat.le_of_ble_eq_true rfl⟩) rfl (by first | exact Nat.le_of_ble_eq_true rfl | (simp [q_cat, q_catI, q_catJ, q_catR, q_catN]; done)) rfl dL_night_245 ⟨(by first | omega | (dsimp only; omega)), (by first | omega | (dsimp only; omega))⟩) (fun x25 M26 h => ?_)
      refine q_iconst (pc := 248) C 3 dL_night_248 (by decide) ?_
      refine q_iload_n (pc := 249) C 3 4 dL_night_249 rfl rfl ?_
      refine q_imul (pc := 250) C dL_night_250 ?_
      refine q_ishr (pc := 251) C dL_night_251 ?_
      refine m_stk (st2 := .int (m_shr x25 (3 * l3)) :: _) rfl ?_
      refine q_bipush (pc := 252) C 11 dL_night_252 (by decide) ?_
      refine q_ci (pc := 254) (q_rS C (st := [.int l3, va_rf l1]) (kL_below l G b0 h) (va_cwS 2 C.2.2.2.2.1 gL_night_L_below rfl rfl rfl (by decide +kernel) ⟨Nat.le_of_ble_eq_true rfl, Nat.le_of_ble_eq_true rfl⟩) rfl (by first | exact Nat.le_of_ble_eq_true rfl | (simp [q_cat, q_catI, q_catJ, q_catR, q_catN]; done)) rfl dL_night_254 ⟨(by first | omega | (dsimp only; omega)), (by first | omega | (dsimp only; omega))⟩) (fun x27 M28 h => ?_)
      obtain ⟨b31, fs9, hb31, hm9, h⟩ := h
      refine q_cXi (pc := 257) (q_rVX C (st := []) (b := b31) (kX8_odds l G b0 (t := 0) hL (fun _ _ h9 => h9.elim) h) (cwV 2 C.2.2.2.2.1 gL_night_X8_odds rfl rfl rfl (by decide +kernel) ⟨Nat.le_of_ble_eq_true rfl, Nat.le_of_ble_eq_true rfl⟩) hm9 rfl rfl rfl (by first | exact Nat.le_of_ble_eq_true rfl | (simp [q_cat, q_catI, q_catJ, q_catR, q_catN]; done)) (by rw [hb31]; first | done | rfl) dL_night_257 ⟨(by first | omega | (dsimp only; omega)), (by first | omega | (dsimp only; omega))⟩) (fun E9 M9 h9 => h9.elim) (fun x29 M30 h => ?_)
      refine q_pop (pc := 260) C dL_night_260 rfl ?_
      refine q_iinc (pc := 261) C 3 4 (l3 + 1) [(3, .int (l3 + 1)), (4, .int x8), (0, va_rf l0), (1, va_rf l1), (2, .int l2)] dL_night_261 rfl (by rfl) (by decide) (by first | rfl | simp [q_cat, q_catI, q_catJ, q_catR, q_catN]) ?_
      refine q_goto (pc := 264) C 161 dL_night_264 (by decide) ?_
      refine q_lv [2, 3, 4, 0] rfl ?_
      exact ih _ _ _ _ _ _ _ h
set_option maxRecDepth 100000 in
set_option maxHeartbeats 4000000 in
theorem tL_night_141 {p : Program} {l : Launch} {e : Env} {s : State} {m : MethodId} {args : Array Value} {below : List Frame} {meth : Method} {c : Code} {G : mG} {b0 : Nat} (C : m_C p s m args c cL_night 6 RL wsL_night G b0) (hr : meth.sig.returnType = (some (.object "Lullabygate"))) (hlocks : meth.locks = false) (hL : l.stackTraces = false) {g : Nat → Nat} (hg : G.2.2 = g) {κ : Option Nat → mM → Prop} {R57 : Nat → Nat → Option Nat → Option Nat → Int32 → mM → Prop} (hR57 : ∀ (k9 n9 : Nat) (l0 : Option Nat) (l1 : Option Nat) (l2 : Int32) (M : mM), R57 k9 n9 l0 l1 l2 M → m_W p l e ({ frames := 8, cells := 400, slots := 9000, locals := 198 } : Room) s m args below meth c G b0 (MQ below (va_Qq κ (m_B G b0) (fun q => b0 ≤ q)) args s 400 9000 (fun q => b0 ≤ q)) 6 M k9 n9 57 [(0, va_rf l0), (1, va_rf l1), (2, .int l2)] []) {k9 n9 : Nat} {l0 : Option Nat} {l1 : Option Nat} {l2 : Int32} {M : mM} (h : wL_night_141 g κ R57 k9 n9 l0 l1 l2 M) : m_W p l e ({ frames := 8, cells := 400, slots := 9000, locals := 198 } : Room) s m args below meth c G b0 (MQ below (va_Qq κ (m_B G b0) (fun q => b0 ≤ q)) args s 400 9000 (fun q => b0 ≤ q)) 6 M k9 n9 141 [(0, va_rf l0), (1, va_rf l1), (2, .int l2)] [] := by
  unfold wL_night_141 at h
  obtain ⟨hbk, h⟩ := h
  refine q_iinc (pc := 141) C 2 2 (l2 + 1) [(2, .int (l2 + 1)), (0, va_rf l0), (1, va_rf l1)] dL_night_141 rfl (by rfl) (by decide) (by first | rfl | simp [q_cat, q_catI, q_catJ, q_catR, q_catN]) ?_
  refine q_goto (pc := 144) C 57 dL_night_144 (by decide) ?_
  refine q_lv [1, 2, 0] rfl ?_
  exact hR57 _ _ _ _ _ _ h
set_option maxRecDepth 100000 in
set_option maxHeartbeats 4000000 in
theorem tL_night_57 {p : Program} {l : Launch} {e : Env} {s : State} {m : MethodId} {args : Array Value} {below : List Frame} {meth : Method} {c : Code} {G : mG} {b0 : Nat} (C : m_C p s m args c cL_night 6 RL wsL_night G b0) (hr : meth.sig.returnType = (some (.object "Lullabygate"))) (hlocks : meth.locks = false) (hL : l.stackTraces = false) {g : Nat → Nat} (hg : G.2.2 = g) {κ : Option Nat → mM → Prop} : ∀ (f : Nat) (k9 n9 : Nat) (l0 : Option Nat) (l1 : Option Nat) (l2 : Int32) (M : mM), wL_night_57 g κ f k9 n9 l0 l1 l2 M → m_W p l e ({ frames := 8, cells := 400, slots := 9000, locals := 198 } : Room) s m args below meth c G b0 (MQ below (va_Qq κ (m_B G b0) (fun q => b0 ≤ q)) args s 400 9000 (fun q => b0 ≤ q)) 6 M k9 n9 57 [(0, va_rf l0), (1, va_rf l1), (2, .int l2)] [] := by
  intro f
  induction f with
  | zero =>
    intro k9 n9 l0 l1 l2 M h
    exact absurd h (by simp [wL_night_57])
  | succ f ih =>
    intro k9 n9 l0 l1 l2 M h
    rw [wL_night_57] at h
    obtain ⟨hbk, h⟩ := h
    refine q_iload_n (pc := 57) C 2 2 dL_night_57 rfl rfl ?_
    refine q_iconst (pc := 58) C 2 dL_night_58 (by decide) ?_
    refine q_icmp_ge (pc := 59) C 147 dL_night_59 (by decide) (fun c1 => ?_) (fun c1 => ?_)
    · have h := h.1 c1
      refine q_iconst (pc := 147) C 1 dL_night_147 (by decide) ?_
      refine q_aload_n (pc := 148) C 0 0 dL_night_148 rfl rfl ?_
      refine q_iconst (pc := 149) C 3 dL_night_149 (by decide) ?_
      refine q_ci (pc := 150) (q_rS C (st := [.int 1]) (kL_cell l G b0 h) (va_cwS 2 C.2.2.2.2.1 gL_night_L_cell rfl rfl rfl (by decide +kernel) ⟨Nat.le_of_ble_eq_true rfl, Nat.le_of_ble_eq_true rfl⟩) rfl (by first | exact Nat.le_of_ble_eq_true rfl | (simp [q_cat, q_catI, q_catJ, q_catR, q_catN]; done)) rfl dL_night_150 ⟨(by first | omega | (dsimp only; omega)), (by first | omega | (dsimp only; omega))⟩) (fun x2 M3 h => ?_)
      refine q_iconst (pc := 153) C 4 dL_night_153 (by decide) ?_
      refine q_ci (pc := 154) (q_rS C (st := [.int 1]) (kL_below l G b0 h) (va_cwS 2 C.2.2.2.2.1 gL_night_L_below rfl rfl rfl (by decide +kernel) ⟨Nat.le_of_ble_eq_true rfl, Nat.le_of_ble_eq_true rfl⟩) rfl (by first | exact Nat.le_of_ble_eq_true rfl | (simp [q_cat, q_catI, q_catJ, q_catR, q_catN]; done)) rfl dL_night_154 ⟨(by first | omega | (dsimp only; omega)), (by first | omega | (dsimp only; omega))⟩) (fun x4 M5 h => ?_)
      refine q_iadd (pc := 157) C dL_night_157 ?_
      refine q_istore_n (pc := 158) C 2 [(2, .int (1 + x4)), (0, va_rf l0), (1, va_rf l1)] dL_night_158 rfl (by decide) (by first | rfl | simp [q_cat, q_catI, q_catJ, q_catR, q_catN]) ?_
      refine q_iconst (pc := 159) C 0 dL_night_159 (by decide) ?_
      refine q_istore_n (pc := 160) C 3 [(3, .int 0), (2, .int (1 + x4)), (0, va_rf l0), (1, va_rf l1)] dL_night_160 rfl (by decide) (by first | rfl | simp [q_cat, q_catI, q_catJ, q_catR, q_catN]) ?_
      refine q_lv [2, 3, 1, 0] rfl ?_
      obtain ⟨f9, h⟩ := h
      exact tL_night_161 C hr hlocks hL hg f9 _ _ _ _ _ _ _ h
    · have h := h.2 c1
      refine q_aload_n (pc := 62) C 0 0 dL_night_62 rfl rfl ?_
      refine q_iconst (pc := 63) C 2 dL_night_63 (by decide) ?_
      refine q_ci (pc := 64) (q_rS C (st := []) (kL_cell l G b0 h) (va_cwS 2 C.2.2.2.2.1 gL_night_L_cell rfl rfl rfl (by decide +kernel) ⟨Nat.le_of_ble_eq_true rfl, Nat.le_of_ble_eq_true rfl⟩) rfl (by first | exact Nat.le_of_ble_eq_true rfl | (simp [q_cat, q_catI, q_catJ, q_catR, q_catN]; done)) rfl dL_night_64 ⟨(by first | omega | (dsimp only; omega)), (by first | omega | (dsimp only; omega))⟩) (fun x6 M7 h => ?_)
      refine q_iconst (pc := 67) C 3 dL_night_67 (by decide) ?_
      refine q_iload_n (pc := 68) C 2 2 dL_night_68 rfl rfl ?_
      refine q_imul (pc := 69) C dL_night_69 ?_
      refine q_ishr (pc := 70) C dL_night_70 ?_
      refine m_stk (st2 := .int (m_shr x6 (3 * l2)) :: _) rfl ?_
      refine q_iconst (pc := 71) C 4 dL_night_71 (by decide) ?_
      refine q_ci (pc := 72) (q_rS C (st := []) (kL_below l G b0 h) (va_cwS 2 C.2.2.2.2.1 gL_night_L_below rfl rfl rfl (by decide +kernel) ⟨Nat.le_of_ble_eq_true rfl, Nat.le_of_ble_eq_true rfl⟩) rfl (by first | exact Nat.le_of_ble_eq_true rfl | (simp [q_cat, q_catI, q_catJ, q_catR, q_catN]; done)) rfl dL_night_72 ⟨(by first | omega | (dsimp only; omega)), (by first | omega | (dsimp only; omega))⟩) (fun x8 M9 h => ?_)
      refine q_istore_n (pc := 75) C 3 [(3, .int x8), (0, va_rf l0), (1, va_rf l1), (2, .int l2)] dL_night_75 rfl (by decide) (by first | rfl | simp [q_cat, q_catI, q_catJ, q_catR, q_catN]) ?_
      refine q_aload_n (pc := 76) C 0 1 dL_night_76 rfl rfl ?_
      refine q_iconst (pc := 77) C 2 dL_night_77 (by decide) ?_
      refine q_ci (pc := 78) (q_rS C (st := []) (kL_cell l G b0 h) (va_cwS 2 C.2.2.2.2.1 gL_night_L_cell rfl rfl rfl (by decide +kernel) ⟨Nat.le_of_ble_eq_true rfl, Nat.le_of_ble_eq_true rfl⟩) rfl (by first | exact Nat.le_of_ble_eq_true rfl | (simp [q_cat, q_catI, q_catJ, q_catR, q_catN]; done)) rfl dL_night_78 ⟨(by first | omega | (dsimp only; omega)), (by first | omega | (dsimp only; omega))⟩) (fun x10 M11 h => ?_)
      refine q_iconst (pc := 81) C 3 dL_night_81 (by decide) ?_
      refine q_iload_n (pc := 82) C 2 3 dL_night_82 rfl rfl ?_
      refine q_imul (pc := 83) C dL_night_83 ?_
      refine q_bipush (pc := 84) C 6 dL_night_84 (by decide) ?_
      refine q_iadd (pc := 86) C dL_night_86 ?_
      refine q_ishr (pc := 87) C dL_night_87 ?_
      refine m_stk (st2 := .int (m_shr x10 ((3 * l2) + 6)) :: _) rfl ?_
      refine q_iconst (pc := 88) C 4 dL_night_88 (by decide) ?_
      refine q_ci (pc := 89) (q_rS C (st := []) (kL_below l G b0 h) (va_cwS 2 C.2.2.2.2.1 gL_night_L_below rfl rfl rfl (by decide +kernel) ⟨Nat.le_of_ble_eq_true rfl, Nat.le_of_ble_eq_true rfl⟩) rfl (by first | exact Nat.le_of_ble_eq_true rfl | (simp [q_cat, q_catI, q_catJ, q_catR, q_catN]; done)) rfl dL_night_89 ⟨(by first | omega | (dsimp only; omega)), (by first | omega | (dsimp only; omega))⟩) (fun x12 M13 h => ?_)
      refine q_istore (pc := 92) C 4 [(4, .int x12), (3, .int x8), (0, va_rf l0), (1, va_rf l1), (2, .int l2)] dL_night_92 (by decide) (by first | rfl | simp [q_cat, q_catI, q_catJ, q_catR, q_catN]) ?_
      refine q_iconst (pc := 94) C 1 dL_night_94 (by decide) ?_
      refine q_aload_n (pc := 95) C 0 2 dL_night_95 rfl rfl ?_
      refine q_iconst (pc := 96) C 2 dL_night_96 (by decide) ?_
      refine q_ci (pc := 97) (q_rS C (st := [.int 1]) (kL_cell l G b0 h) (va_cwS 2 C.2.2.2.2.1 gL_night_L_cell rfl rfl rfl (by decide +kernel) ⟨Nat.le_of_ble_eq_true rfl, Nat.le_of_ble_eq_true rfl⟩) rfl (by first | exact Nat.le_of_ble_eq_true rfl | (simp [q_cat, q_catI, q_catJ, q_catR, q_catN]; done)) rfl dL_night_97 ⟨(by first | omega | (dsimp only; omega)), (by first | omega | (dsimp only; omega))⟩) (fun x14 M15 h => ?_)
      refine q_iconst (pc := 100) C 3 dL_night_100 (by decide) ?_
      refine q_iload_n (pc := 101) C 2 4 dL_night_101 rfl rfl ?_
      refine q_imul (pc := 102) C dL_night_102 ?_
      refine q_bipush (pc := 103) C 12 dL_night_103 (by decide) ?_
      refine q_iadd (pc := 105) C dL_night_105 ?_
      refine q_ishr (pc := 106) C dL_night_106 ?_
      refine m_stk (st2 := .int (m_shr x14 ((3 * l2) + 12)) :: _) rfl ?_
      refine q_iconst (pc := 107) C 5 dL_night_107 (by decide) ?_
      refine q_ci (pc := 108) (q_rS C (st := [.int 1]) (kL_below l G b0 h) (va_cwS 2 C.2.2.2.2.1 gL_night_L_below rfl rfl rfl (by decide +kernel) ⟨Nat.le_of_ble_eq_true rfl, Nat.le_of_ble_eq_true rfl⟩) rfl (by first | exact Nat.le_of_ble_eq_true rfl | (simp [q_cat, q_catI, q_catJ, q_catR, q_catN]; done)) rfl dL_night_108 ⟨(by first | omega | (dsimp only; omega)), (by first | omega | (dsimp only; omega))⟩) (fun x16 M17 h => ?_)
      refine q_iadd (pc := 111) C dL_night_111 ?_
      refine q_istore (pc := 112) C 5 [(5, .int (1 + x16)), (4, .int x12), (3, .int x8), (0, va_rf l0), (1, va_rf l1), (2, .int l2)] dL_night_112 (by decide) (by first | rfl | simp [q_cat, q_catI, q_catJ, q_catR, q_catN]) ?_
      refine q_iload_n (pc := 114) C 3 2 dL_night_114 rfl rfl ?_
      refine q_iload (pc := 115) C 4 1 dL_night_115 rfl ?_
      refine q_icmp_eq (pc := 117) C 141 dL_night_117 (by decide) (fun c18 => ?_) (fun c18 => ?_)
      · have h := h.1 c18
        refine q_lv [3, 4, 5] rfl ?_
        exact tL_night_141 C hr hlocks hL hg ih h
      · have h := h.2 c18
        refine q_aload_n (pc := 120) C 1 4 dL_night_120 rfl rfl ?_
        refine q_iload_n (pc := 121) C 3 2 dL_night_121 rfl rfl ?_
        refine q_iconst (pc := 122) C 2 dL_night_122 (by decide) ?_
        obtain ⟨b21, fs9, hb21, hm9, h⟩ := h
        refine q_cXi (pc := 123) (q_rVX C (st := []) (b := b21) (kX8_ofLand l G b0 (t := 0) hL (fun _ _ h9 => h9.elim) h) (cwV 2 C.2.2.2.2.1 gL_night_X8_ofLand rfl rfl rfl (by decide +kernel) ⟨Nat.le_of_ble_eq_true rfl, Nat.le_of_ble_eq_true rfl⟩) hm9 rfl rfl rfl (by first | exact Nat.le_of_ble_eq_true rfl | (simp [q_cat, q_catI, q_catJ, q_catR, q_catN]; done)) (by rw [hb21]; first | done | rfl) dL_night_123 ⟨(by first | omega | (dsimp only; omega)), (by first | omega | (dsimp only; omega))⟩) (fun E9 M9 h9 => h9.elim) (fun x19 M20 h => ?_)
        refine q_iload (pc := 126) C 5 0 dL_night_126 rfl ?_
        refine q_icmp_lt (pc := 128) C 141 dL_night_128 (by decide) (fun c22 => ?_) (fun c22 => ?_)
        · have h := h.1 c22
          refine q_lv [3, 4, 5] rfl ?_
          exact tL_night_141 C hr hlocks hL hg ih h
        · have h := h.2 c22
          refine q_aload_n (pc := 131) C 1 4 dL_night_131 rfl rfl ?_
          refine q_iload_n (pc := 132) C 3 2 dL_night_132 rfl rfl ?_
          refine q_iload (pc := 133) C 4 1 dL_night_133 rfl ?_
          refine q_iload (pc := 135) C 5 0 dL_night_135 rfl ?_
          obtain ⟨b25, fs9, hb25, hm9, h⟩ := h
          refine q_cXi (pc := 137) (q_rVX C (st := []) (b := b25) (kX8_trade l G b0 (t := 0) hL (fun _ _ h9 => h9.elim) h) (cwV 3 C.2.2.2.2.1 gL_night_X8_trade rfl rfl rfl (by decide +kernel) ⟨Nat.le_of_ble_eq_true rfl, Nat.le_of_ble_eq_true rfl⟩) hm9 rfl rfl rfl (by first | exact Nat.le_of_ble_eq_true rfl | (simp [q_cat, q_catI, q_catJ, q_catR, q_catN]; done)) (by rw [hb25]; first | done | rfl) dL_night_137 ⟨(by first | omega | (dsimp only; omega)), (by first | omega | (dsimp only; omega))⟩) (fun E9 M9 h9 => h9.elim) (fun x23 M24 h => ?_)
          refine q_pop (pc := 140) C dL_night_140 rfl ?_
          refine q_lv [3, 4, 5] rfl ?_
          exact tL_night_141 C hr hlocks hL hg ih h
set_option maxRecDepth 100000 in
set_option maxHeartbeats 4000000 in
theorem tL_night_10 {p : Program} {l : Launch} {e : Env} {s : State} {m : MethodId} {args : Array Value} {below : List Frame} {meth : Method} {c : Code} {G : mG} {b0 : Nat} (C : m_C p s m args c cL_night 6 RL wsL_night G b0) (hr : meth.sig.returnType = (some (.object "Lullabygate"))) (hlocks : meth.locks = false) (hL : l.stackTraces = false) {g : Nat → Nat} (hg : G.2.2 = g) {κ : Option Nat → mM → Prop} : ∀ (f : Nat) (k9 n9 : Nat) (l0 : Option Nat) (l1 : Option Nat) (l2 : Int32) (M : mM), wL_night_10 g κ f k9 n9 l0 l1 l2 M → m_W p l e ({ frames := 8, cells := 400, slots := 9000, locals := 198 } : Room) s m args below meth c G b0 (MQ below (va_Qq κ (m_B G b0) (fun q => b0 ≤ q)) args s 400 9000 (fun q => b0 ≤ q)) 6 M k9 n9 10 [(0, va_rf l0), (1, va_rf l1), (2, .int l2)] [] := by
  intro f
  induction f with
  | zero =>
    intro k9 n9 l0 l1 l2 M h
    exact absurd h (by simp [wL_night_10])
  | succ f ih =>
    intro k9 n9 l0 l1 l2 M h
    rw [wL_night_10] at h
    obtain ⟨hbk, h⟩ := h
    refine q_iload_n (pc := 10) C 2 2 dL_night_10 rfl rfl ?_
    refine q_iconst (pc := 11) C 4 dL_night_11 (by decide) ?_
    refine q_icmp_ge (pc := 12) C 55 dL_night_12 (by decide) (fun c1 => ?_) (fun c1 => ?_)
    · have h := h.1 c1
      refine q_iconst (pc := 55) C 0 dL_night_55 (by decide) ?_
      refine q_istore_n (pc := 56) C 2 [(2, .int 0), (0, va_rf l0), (1, va_rf l1)] dL_night_56 rfl (by decide) (by first | rfl | simp [q_cat, q_catI, q_catJ, q_catR, q_catN]) ?_
      refine q_lv [1, 2, 0] rfl ?_
      obtain ⟨f9, h⟩ := h
      exact tL_night_57 C hr hlocks hL hg f9 _ _ _ _ _ _ h
    · have h := h.2 c1
      refine q_aload_n (pc := 15) C 1 1 dL_night_15 rfl rfl ?_
      refine q_iload_n (pc := 16) C 2 2 dL_night_16 rfl rfl ?_
      refine q_aload_n (pc := 17) C 0 0 dL_night_17 rfl rfl ?_
      refine q_iconst (pc := 18) C 0 dL_night_18 (by decide) ?_
      refine q_ci (pc := 19) (q_rS C (st := [.int l2, va_rf l1]) (kL_cell l G b0 h) (va_cwS 2 C.2.2.2.2.1 gL_night_L_cell rfl rfl rfl (by decide +kernel) ⟨Nat.le_of_ble_eq_true rfl, Nat.le_of_ble_eq_true rfl⟩) rfl (by first | exact Nat.le_of_ble_eq_true rfl | (simp [q_cat, q_catI, q_catJ, q_catR, q_catN]; done)) rfl dL_night_19 ⟨(by first | omega | (dsimp only; omega)), (by first | omega | (dsimp only; omega))⟩) (fun x2 M3 h => ?_)
      refine q_iconst (pc := 22) C 3 dL_night_22 (by decide) ?_
      refine q_iload_n (pc := 23) C 2 2 dL_night_23 rfl rfl ?_
      refine q_imul (pc := 24) C dL_night_24 ?_
      refine q_ishr (pc := 25) C dL_night_25 ?_
      refine m_stk (st2 := .int (m_shr x2 (3 * l2)) :: _) rfl ?_
      refine q_bipush (pc := 26) C 51 dL_night_26 (by decide) ?_
      refine q_ci (pc := 28) (q_rS C (st := [.int l2, va_rf l1]) (kL_below l G b0 h) (va_cwS 2 C.2.2.2.2.1 gL_night_L_below rfl rfl rfl (by decide +kernel) ⟨Nat.le_of_ble_eq_true rfl, Nat.le_of_ble_eq_true rfl⟩) rfl (by first | exact Nat.le_of_ble_eq_true rfl | (simp [q_cat, q_catI, q_catJ, q_catR, q_catN]; done)) rfl dL_night_28 ⟨(by first | omega | (dsimp only; omega)), (by first | omega | (dsimp only; omega))⟩) (fun x4 M5 h => ?_)
      refine q_aload_n (pc := 31) C 0 0 dL_night_31 rfl rfl ?_
      refine q_iconst (pc := 32) C 1 dL_night_32 (by decide) ?_
      refine q_ci (pc := 33) (q_rS C (st := [.int x4, .int l2, va_rf l1]) (kL_cell l G b0 h) (va_cwS 2 C.2.2.2.2.1 gL_night_L_cell rfl rfl rfl (by decide +kernel) ⟨Nat.le_of_ble_eq_true rfl, Nat.le_of_ble_eq_true rfl⟩) rfl (by first | exact Nat.le_of_ble_eq_true rfl | (simp [q_cat, q_catI, q_catJ, q_catR, q_catN]; done)) rfl dL_night_33 ⟨(by first | omega | (dsimp only; omega)), (by first | omega | (dsimp only; omega))⟩) (fun x6 M7 h => ?_)
      refine q_iconst (pc := 36) C 3 dL_night_36 (by decide) ?_
      refine q_iload_n (pc := 37) C 2 2 dL_night_37 rfl rfl ?_
      refine q_imul (pc := 38) C dL_night_38 ?_
      refine q_ishr (pc := 39) C dL_night_39 ?_
      refine m_stk (st2 := .int (m_shr x6 (3 * l2)) :: _) rfl ?_
      refine q_bipush (pc := 40) C 60 dL_night_40 (by decide) ?_
      refine q_ci (pc := 42) (q_rS C (st := [.int x4, .int l2, va_rf l1]) (kL_below l G b0 h) (va_cwS 2 C.2.2.2.2.1 gL_night_L_below rfl rfl rfl (by decide +kernel) ⟨Nat.le_of_ble_eq_true rfl, Nat.le_of_ble_eq_true rfl⟩) rfl (by first | exact Nat.le_of_ble_eq_true rfl | (simp [q_cat, q_catI, q_catJ, q_catR, q_catN]; done)) rfl dL_night_42 ⟨(by first | omega | (dsimp only; omega)), (by first | omega | (dsimp only; omega))⟩) (fun x8 M9 h => ?_)
      obtain ⟨b12, fs9, hb12, hm9, h⟩ := h
      refine q_cXi (pc := 45) (q_rVX C (st := []) (b := b12) (kX8_land l G b0 (t := 0) hL (fun _ _ h9 => h9.elim) h) (cwV 3 C.2.2.2.2.1 gL_night_X8_land rfl rfl rfl (by decide +kernel) ⟨Nat.le_of_ble_eq_true rfl, Nat.le_of_ble_eq_true rfl⟩) hm9 rfl rfl rfl (by first | exact Nat.le_of_ble_eq_true rfl | (simp [q_cat, q_catI, q_catJ, q_catR, q_catN]; done)) (by rw [hb12]; first | done | rfl) dL_night_45 ⟨(by first | omega | (dsimp only; omega)), (by first | omega | (dsimp only; omega))⟩) (fun E9 M9 h9 => h9.elim) (fun x10 M11 h => ?_)
      refine q_pop (pc := 48) C dL_night_48 rfl ?_
      refine q_iinc (pc := 49) C 2 2 (l2 + 1) [(2, .int (l2 + 1)), (0, va_rf l0), (1, va_rf l1)] dL_night_49 rfl (by rfl) (by decide) (by first | rfl | simp [q_cat, q_catI, q_catJ, q_catR, q_catN]) ?_
      refine q_goto (pc := 52) C 10 dL_night_52 (by decide) ?_
      refine q_lv [1, 2, 0] rfl ?_
      exact ih _ _ _ _ _ _ h
set_option maxRecDepth 100000 in
set_option maxHeartbeats 4000000 in
theorem tL_night {p : Program} {l : Launch} {e : Env} {s : State} {m : MethodId} {args : Array Value} {below : List Frame} {meth : Method} {c : Code} {G : mG} {b0 : Nat} (C : m_C p s m args c cL_night 6 RL wsL_night G b0) (hr : meth.sig.returnType = (some (.object "Lullabygate"))) (hlocks : meth.locks = false) (hL : l.stackTraces = false) {g : Nat → Nat} (hg : G.2.2 = g) {κ : Option Nat → mM → Prop} {l0 : Option Nat} {M : mM} (h : wL_night g κ l0 M) : m_W p l e ({ frames := 8, cells := 400, slots := 9000, locals := 198 } : Room) s m args below meth c G b0 (MQ below (va_Qq κ (m_B G b0) (fun q => b0 ≤ q)) args s 400 9000 (fun q => b0 ≤ q)) 6 M 0 0 0 [(0, va_rf l0)] [] := by
  unfold wL_night at h
  obtain ⟨hbk, h⟩ := h
  refine q_new (pc := 0) C h rfl (T := TX8) tyX8 tyX8_ok rfl (by decide +kernel) (by decide +kernel) (by decide +kernel) (by decide +kernel) (fun j hj => by rcases (show j = 0 ∨ j = 1 ∨ j = 2 ∨ j = 3 ∨ j = 4 ∨ j = 5 ∨ j = 6 ∨ j = 7 ∨ j = 8 ∨ j = 9 ∨ j = 10 by omega) with rfl | rfl | rfl | rfl | rfl | rfl | rfl | rfl | rfl | rfl | rfl <;> rfl) (by first | omega | (dsimp only; omega)) (by first | omega | (dsimp only; omega)) dL_night_0 (fun q1 M2 h => ?_)
  refine q_dup (pc := 3) C dL_night_3 (q_cat _) ?_
  obtain ⟨hbk, h⟩ := h
  obtain ⟨b4, fs9, hb4, hm9, h⟩ := h
  refine q_cv (pc := 4) (q_rI C (st := [va_rf (some q1)]) (b := b4) (kX8_init l G b0 hg h) (cwI 0 C.2.2.2.2.1 gL_night_X8_init rfl rfl rfl (C.2.2.2.2.1 (.initialized RX8) (by decide +kernel)) (C.2.2.2.2.1 (.methodLink RL 11 yX8_init) (by decide +kernel)) (C.2.2.2.2.1 (.instanceMethod yX8_init) (by decide +kernel)) rfl (by decide +kernel) ⟨Nat.le_of_ble_eq_true rfl, Nat.le_of_ble_eq_true rfl⟩) rfl (by first | exact Nat.le_of_ble_eq_true rfl | (simp [q_cat, q_catI, q_catJ, q_catR, q_catN]; done)) (by rw [hb4]; first | done | rfl) dL_night_4 ⟨(by first | omega | (dsimp only; omega)), (by first | omega | (dsimp only; omega))⟩) (fun M3 h => ?_)
  refine q_astore_n (pc := 7) C 1 [(1, va_rf (some q1)), (0, va_rf l0)] dL_night_7 rfl (by decide) (by first | rfl | simp [q_cat, q_catI, q_catJ, q_catR, q_catN]) ?_
  refine q_iconst (pc := 8) C 0 dL_night_8 (by decide) ?_
  refine q_istore_n (pc := 9) C 2 [(2, .int 0), (1, va_rf (some q1)), (0, va_rf l0)] dL_night_9 rfl (by decide) (by first | rfl | simp [q_cat, q_catI, q_catJ, q_catR, q_catN]) ?_
  refine q_lv [2, 1, 0] rfl ?_
  obtain ⟨f9, h⟩ := h
  exact tL_night_10 C hr hlocks hL hg f9 _ _ _ _ _ _ h
set_option maxRecDepth 100000 in
set_option maxHeartbeats 4000000 in
theorem kL_night (l : Launch) (G : mG) (b0 : Nat) (hL : l.stackTraces = false) {g : Nat → Nat} (hg : G.2.2 = g) {l0 : Option Nat} {M : mM} {κ : Option Nat → mM → Prop} (h : wL_night g κ l0 M) : Met l yL_night wsL_night ({ frames := 8, cells := 400, slots := 9000, locals := 198 } : Room) (va_Pc [va_rf l0] (m_Pre G b0 M)) (va_Qq κ (m_B G b0) (fun q => b0 ≤ q)) 400 9000 (fun q => b0 ≤ q) := by
  refine m_met (cc := cL_night) (maxL := 6) (ret := (some (.object "Lullabygate"))) (lv := [(0, va_rf l0)]) RL rfl (by decide +kernel) rfl (by first | exact Nat.le_of_ble_eq_true rfl | simp [lg_sl, q_cat, q_catI, q_catJ, q_catR, q_catN]) (by first | rfl | (simp [lv_args, q_cat, q_catI, q_catJ, q_catR, q_catN]; done) | (simp [lv_args, q_cat, q_catI, q_catJ, q_catR, q_catN]; rfl)) ?_
  intro p e s m args below meth c C hr hlocks hni
  exact tL_night C hr hlocks hL hg h
/-! L_come -/
set_option maxRecDepth 100000 in
set_option maxHeartbeats 4000000 in
theorem tL_come_138 {p : Program} {l : Launch} {e : Env} {s : State} {m : MethodId} {args : Array Value} {below : List Frame} {meth : Method} {c : Code} {G : mG} {b0 : Nat} (C : m_C p s m args c cL_come 8 RL wsL_come G b0) (hr : meth.sig.returnType = none) (hlocks : meth.locks = false) (hL : l.stackTraces = false) {g : Nat → Nat} (hg : G.2.2 = g) {κ : mM → Prop} {l0 : Option Nat} {l1 : Int32} {l2 : Int32} {l3 : Int32} {s0 : Int32} {M : mM} (h : wL_come_138 g κ l0 l1 l2 l3 s0 M) : m_W p l e ({ frames := 8, cells := 3, slots := 21, locals := 177 } : Room) s m args below meth c G b0 (MQ below (va_Qv κ (m_B G b0) (fun q => b0 ≤ q)) args s 3 21 (fun q => b0 ≤ q)) 8 M 2 6 138 [(0, va_rf l0), (1, .int l1), (2, .int l2), (3, .int l3)] [.int s0] := by
  unfold wL_come_138 at h
  refine q_istore (pc := 138) C 7 [(7, .int s0), (0, va_rf l0), (1, .int l1), (2, .int l2), (3, .int l3)] dL_come_138 (by decide) (by first | rfl | simp [q_cat, q_catI, q_catJ, q_catR, q_catN]) ?_
  refine q_iload (pc := 140) C 7 0 dL_come_140 rfl ?_
  refine q_if_eq (pc := 142) C 172 dL_come_142 (by decide) (fun c1 => ?_) (fun c1 => ?_)
  · have h := h.1 c1
    exact q_vret (pc := 172) C hr hlocks h dL_come_172 (by omega) (by omega)
  · have h := h.2 c1
    refine q_aload_n (pc := 145) C 0 1 dL_come_145 rfl rfl ?_
    refine q_iload_n (pc := 146) C 2 3 dL_come_146 rfl rfl ?_
    refine q_iconst (pc := 147) C 2 dL_come_147 (by decide) ?_
    obtain ⟨b4, fs9, hb4, hm9, h⟩ := h
    refine q_cXi (pc := 148) (q_rVX C (st := []) (b := b4) (kX8_ofSleeper l G b0 (t := 0) hL (fun _ _ h9 => h9.elim) h) (cwV 2 C.2.2.2.2.1 gL_come_X8_ofSleeper rfl rfl rfl (by decide +kernel) ⟨Nat.le_of_ble_eq_true rfl, Nat.le_of_ble_eq_true rfl⟩) hm9 rfl rfl rfl (by first | exact Nat.le_of_ble_eq_true rfl | (simp [q_cat, q_catI, q_catJ, q_catR, q_catN]; done)) (by rw [hb4]; first | done | rfl) dL_come_148 ⟨(by first | omega | (dsimp only; omega)), (by first | omega | (dsimp only; omega))⟩) (fun E9 M9 h9 => h9.elim) (fun x2 M3 h => ?_)
    refine q_if_ne (pc := 151) C 172 dL_come_151 (by decide) (fun c5 => ?_) (fun c5 => ?_)
    · have h := h.2 c5
      exact q_vret (pc := 172) C hr hlocks h dL_come_172 (by omega) (by omega)
    · have h := h.1 c5
      refine q_aload_n (pc := 154) C 0 1 dL_come_154 rfl rfl ?_
      refine q_iload_n (pc := 155) C 2 3 dL_come_155 rfl rfl ?_
      refine q_iload_n (pc := 156) C 3 4 dL_come_156 rfl rfl ?_
      refine q_aload_n (pc := 157) C 0 1 dL_come_157 rfl rfl ?_
      refine q_iload_n (pc := 158) C 2 3 dL_come_158 rfl rfl ?_
      refine q_iconst (pc := 159) C 5 dL_come_159 (by decide) ?_
      obtain ⟨b8, fs9, hb8, hm9, h⟩ := h
      refine q_cXi (pc := 160) (q_rVX C (st := [.int l3, .int l2, va_rf l0]) (b := b8) (kX8_ofSleeper l G b0 (t := 0) hL (fun _ _ h9 => h9.elim) h) (cwV 2 C.2.2.2.2.1 gL_come_X8_ofSleeper rfl rfl rfl (by decide +kernel) ⟨Nat.le_of_ble_eq_true rfl, Nat.le_of_ble_eq_true rfl⟩) hm9 rfl rfl rfl (by first | exact Nat.le_of_ble_eq_true rfl | (simp [q_cat, q_catI, q_catJ, q_catR, q_catN]; done)) (by rw [hb8]; first | done | rfl) dL_come_160 ⟨(by first | omega | (dsimp only; omega)), (by first | omega | (dsimp only; omega))⟩) (fun E9 M9 h9 => h9.elim) (fun x6 M7 h => ?_)
      refine q_iload_n (pc := 163) C 1 2 dL_come_163 rfl rfl ?_
      refine q_bipush (pc := 164) C 7 dL_come_164 (by decide) ?_
      refine q_ishr (pc := 166) C dL_come_166 ?_
      refine m_stk (st2 := .int (m_shr l1 7) :: _) rfl ?_
      refine q_iand (pc := 167) C dL_come_167 ?_
      obtain ⟨b11, fs9, hb11, hm9, h⟩ := h
      refine q_cXi (pc := 168) (q_rVX C (st := []) (b := b11) (kX8_join l G b0 (t := 0) hL hg (fun _ _ h9 => h9.elim) h) (cwV 3 C.2.2.2.2.1 gL_come_X8_join rfl rfl rfl (by decide +kernel) ⟨Nat.le_of_ble_eq_true rfl, Nat.le_of_ble_eq_true rfl⟩) hm9 rfl rfl rfl (by first | exact Nat.le_of_ble_eq_true rfl | (simp [q_cat, q_catI, q_catJ, q_catR, q_catN]; done)) (by rw [hb11]; first | done | rfl) dL_come_168 ⟨(by first | omega | (dsimp only; omega)), (by first | omega | (dsimp only; omega))⟩) (fun E9 M9 h9 => h9.elim) (fun x9 M10 h => ?_)
      refine q_pop (pc := 171) C dL_come_171 rfl ?_
      exact q_vret (pc := 172) C hr hlocks h dL_come_172 (by omega) (by omega)
set_option maxRecDepth 100000 in
set_option maxHeartbeats 4000000 in
theorem tL_come_133 {p : Program} {l : Launch} {e : Env} {s : State} {m : MethodId} {args : Array Value} {below : List Frame} {meth : Method} {c : Code} {G : mG} {b0 : Nat} (C : m_C p s m args c cL_come 8 RL wsL_come G b0) (hr : meth.sig.returnType = none) (hlocks : meth.locks = false) (hL : l.stackTraces = false) {g : Nat → Nat} (hg : G.2.2 = g) {κ : mM → Prop} {l0 : Option Nat} {l1 : Int32} {l2 : Int32} {l3 : Int32} {M : mM} (h : wL_come_133 g κ l0 l1 l2 l3 M) : m_W p l e ({ frames := 8, cells := 3, slots := 21, locals := 177 } : Room) s m args below meth c G b0 (MQ below (va_Qv κ (m_B G b0) (fun q => b0 ≤ q)) args s 3 21 (fun q => b0 ≤ q)) 8 M 2 6 133 [(0, va_rf l0), (1, .int l1), (2, .int l2), (3, .int l3)] [] := by
  unfold wL_come_133 at h
  refine q_iconst (pc := 133) C 1 dL_come_133 (by decide) ?_
  refine q_goto (pc := 134) C 138 dL_come_134 (by decide) ?_
  refine q_widen (k2 := 2) (n2 := 6) (by omega) (by omega) ?_
  refine q_lv [0, 1, 2, 3] rfl ?_
  exact tL_come_138 C hr hlocks hL hg h
set_option maxRecDepth 100000 in
set_option maxHeartbeats 4000000 in
theorem tL_come_99 {p : Program} {l : Launch} {e : Env} {s : State} {m : MethodId} {args : Array Value} {below : List Frame} {meth : Method} {c : Code} {G : mG} {b0 : Nat} (C : m_C p s m args c cL_come 8 RL wsL_come G b0) (hr : meth.sig.returnType = none) (hlocks : meth.locks = false) (hL : l.stackTraces = false) {g : Nat → Nat} (hg : G.2.2 = g) {κ : mM → Prop} {l0 : Option Nat} {l1 : Int32} {l2 : Int32} {l3 : Int32} {s0 : Int32} {s1 : Int32} {s2 : Int32} {s3 : Int32} {s4 : Option Nat} {M : mM} (h : wL_come_99 g κ l0 l1 l2 l3 s0 s1 s2 s3 s4 M) : m_W p l e ({ frames := 8, cells := 3, slots := 21, locals := 177 } : Room) s m args below meth c G b0 (MQ below (va_Qv κ (m_B G b0) (fun q => b0 ≤ q)) args s 3 21 (fun q => b0 ≤ q)) 8 M 1 3 99 [(0, va_rf l0), (1, .int l1), (2, .int l2), (3, .int l3)] [.int s0, .int s1, .int s2, .int s3, va_rf s4] := by
  unfold wL_come_99 at h
  obtain ⟨b3, fs9, hb3, hm9, h⟩ := h
  refine q_cXi (pc := 99) (q_rVX C (st := []) (b := b3) (kX8_sing l G b0 (t := 0) hL (fun _ _ h9 => h9.elim) h) (cwV 4 C.2.2.2.2.1 gL_come_X8_sing rfl rfl rfl (by decide +kernel) ⟨Nat.le_of_ble_eq_true rfl, Nat.le_of_ble_eq_true rfl⟩) hm9 rfl rfl rfl (by first | exact Nat.le_of_ble_eq_true rfl | (simp [q_cat, q_catI, q_catJ, q_catR, q_catN]; done)) (by rw [hb3]; first | done | rfl) dL_come_99 ⟨(by first | omega | (dsimp only; omega)), (by first | omega | (dsimp only; omega))⟩) (fun E9 M9 h9 => h9.elim) (fun x1 M2 h => ?_)
  refine q_pop (pc := 102) C dL_come_102 rfl ?_
  refine q_aload_n (pc := 103) C 0 0 dL_come_103 rfl rfl ?_
  refine q_iload_n (pc := 104) C 2 2 dL_come_104 rfl rfl ?_
  refine q_iconst (pc := 105) C 0 dL_come_105 (by decide) ?_
  obtain ⟨b6, fs9, hb6, hm9, h⟩ := h
  refine q_cXi (pc := 106) (q_rVX C (st := []) (b := b6) (kX8_ofSleeper l G b0 (t := 0) hL (fun _ _ h9 => h9.elim) h) (cwV 2 C.2.2.2.2.1 gL_come_X8_ofSleeper rfl rfl rfl (by decide +kernel) ⟨Nat.le_of_ble_eq_true rfl, Nat.le_of_ble_eq_true rfl⟩) hm9 rfl rfl rfl (by first | exact Nat.le_of_ble_eq_true rfl | (simp [q_cat, q_catI, q_catJ, q_catR, q_catN]; done)) (by rw [hb6]; first | done | rfl) dL_come_106 ⟨(by first | omega | (dsimp only; omega)), (by first | omega | (dsimp only; omega))⟩) (fun E9 M9 h9 => h9.elim) (fun x4 M5 h => ?_)
  refine q_istore (pc := 109) C 6 [(6, .int x4), (0, va_rf l0), (1, .int l1), (2, .int l2), (3, .int l3)] dL_come_109 (by decide) (by first | rfl | simp [q_cat, q_catI, q_catJ, q_catR, q_catN]) ?_
  refine q_aload_n (pc := 111) C 0 1 dL_come_111 rfl rfl ?_
  refine q_iload_n (pc := 112) C 3 4 dL_come_112 rfl rfl ?_
  refine q_iconst (pc := 113) C 0 dL_come_113 (by decide) ?_
  obtain ⟨b9, fs9, hb9, hm9, h⟩ := h
  refine q_cXi (pc := 114) (q_rVX C (st := []) (b := b9) (kX8_ofGate l G b0 (t := 0) hL (fun _ _ h9 => h9.elim) h) (cwV 2 C.2.2.2.2.1 gL_come_X8_ofGate rfl rfl rfl (by decide +kernel) ⟨Nat.le_of_ble_eq_true rfl, Nat.le_of_ble_eq_true rfl⟩) hm9 rfl rfl rfl (by first | exact Nat.le_of_ble_eq_true rfl | (simp [q_cat, q_catI, q_catJ, q_catR, q_catN]; done)) (by rw [hb9]; first | done | rfl) dL_come_114 ⟨(by first | omega | (dsimp only; omega)), (by first | omega | (dsimp only; omega))⟩) (fun E9 M9 h9 => h9.elim) (fun x7 M8 h => ?_)
  refine q_iload (pc := 117) C 6 0 dL_come_117 rfl ?_
  refine q_icmp_eq (pc := 119) C 133 dL_come_119 (by decide) (fun c10 => ?_) (fun c10 => ?_)
  · have h := h.1 c10
    refine q_widen (k2 := 2) (n2 := 6) (by omega) (by omega) ?_
    refine q_lv [1, 2, 3, 4] rfl ?_
    exact tL_come_133 C hr hlocks hL hg h
  · have h := h.2 c10
    refine q_aload_n (pc := 122) C 0 1 dL_come_122 rfl rfl ?_
    refine q_iload_n (pc := 123) C 3 4 dL_come_123 rfl rfl ?_
    refine q_iconst (pc := 124) C 1 dL_come_124 (by decide) ?_
    obtain ⟨b13, fs9, hb13, hm9, h⟩ := h
    refine q_cXi (pc := 125) (q_rVX C (st := []) (b := b13) (kX8_ofGate l G b0 (t := 0) hL (fun _ _ h9 => h9.elim) h) (cwV 2 C.2.2.2.2.1 gL_come_X8_ofGate rfl rfl rfl (by decide +kernel) ⟨Nat.le_of_ble_eq_true rfl, Nat.le_of_ble_eq_true rfl⟩) hm9 rfl rfl rfl (by first | exact Nat.le_of_ble_eq_true rfl | (simp [q_cat, q_catI, q_catJ, q_catR, q_catN]; done)) (by rw [hb13]; first | done | rfl) dL_come_125 ⟨(by first | omega | (dsimp only; omega)), (by first | omega | (dsimp only; omega))⟩) (fun E9 M9 h9 => h9.elim) (fun x11 M12 h => ?_)
    refine q_iload (pc := 128) C 6 0 dL_come_128 rfl ?_
    refine q_icmp_ne (pc := 130) C 137 dL_come_130 (by decide) (fun c14 => ?_) (fun c14 => ?_)
    · have h := h.2 c14
      refine q_iconst (pc := 137) C 0 dL_come_137 (by decide) ?_
      refine q_widen (k2 := 2) (n2 := 6) (by omega) (by omega) ?_
      refine q_lv [1, 2, 3, 4] rfl ?_
      exact tL_come_138 C hr hlocks hL hg h
    · have h := h.1 c14
      refine q_widen (k2 := 2) (n2 := 6) (by omega) (by omega) ?_
      refine q_lv [1, 2, 3, 4] rfl ?_
      exact tL_come_133 C hr hlocks hL hg h
set_option maxRecDepth 100000 in
set_option maxHeartbeats 4000000 in
theorem tL_come_66 {p : Program} {l : Launch} {e : Env} {s : State} {m : MethodId} {args : Array Value} {below : List Frame} {meth : Method} {c : Code} {G : mG} {b0 : Nat} (C : m_C p s m args c cL_come 8 RL wsL_come G b0) (hr : meth.sig.returnType = none) (hlocks : meth.locks = false) (hL : l.stackTraces = false) {g : Nat → Nat} (hg : G.2.2 = g) {κ : mM → Prop} {l0 : Option Nat} {l1 : Int32} {l2 : Int32} {l3 : Int32} {l4 : Int32} {l5 : Int32} {s0 : Int32} {s1 : Int32} {s2 : Int32} {s3 : Int32} {s4 : Int32} {s5 : Option Nat} {M : mM} (h : wL_come_66 g κ l0 l1 l2 l3 l4 l5 s0 s1 s2 s3 s4 s5 M) : m_W p l e ({ frames := 8, cells := 3, slots := 21, locals := 177 } : Room) s m args below meth c G b0 (MQ below (va_Qv κ (m_B G b0) (fun q => b0 ≤ q)) args s 3 21 (fun q => b0 ≤ q)) 8 M 1 3 66 [(0, va_rf l0), (1, .int l1), (2, .int l2), (3, .int l3), (4, .int l4), (5, .int l5)] [.int s0, .int s1, .int s2, .int s3, .int s4, va_rf s5] := by
  unfold wL_come_66 at h
  refine q_iadd (pc := 66) C dL_come_66 ?_
  refine q_mmin (pc := 67) C (by decide +kernel) (by decide +kernel) (by decide +kernel) (by decide +kernel) (Nat.le_of_ble_eq_true rfl) (by first | exact Nat.le_of_ble_eq_true rfl | (simp [q_cat, q_catI, q_catJ, q_catR, q_catN]; done) | (simp [q_cat, q_catI, q_catJ, q_catR, q_catN]; decide)) (by first | omega | (dsimp only; omega)) (by first | omega | (dsimp only; omega)) dL_come_67 ?_
  refine m_stk (st2 := .int (m_min s2 (s1 + s0)) :: _) rfl ?_
  refine q_iload (pc := 70) C 5 5 dL_come_70 rfl ?_
  refine q_iconst (pc := 72) C 3 dL_come_72 (by decide) ?_
  refine q_icmp_ge (pc := 73) C 81 dL_come_73 (by decide) (fun c1 => ?_) (fun c1 => ?_)
  · have h := h.1 c1
    refine q_iload (pc := 81) C 5 5 dL_come_81 rfl ?_
    refine q_iconst (pc := 83) C 3 dL_come_83 (by decide) ?_
    refine q_icmp_ne (pc := 84) C 97 dL_come_84 (by decide) (fun c2 => ?_) (fun c2 => ?_)
    · have h := h.2 c2
      refine q_iload (pc := 97) C 4 4 dL_come_97 rfl ?_
      refine q_widen (k2 := 1) (n2 := 3) (by omega) (by omega) ?_
      refine q_lv [0, 1, 2, 3] rfl ?_
      exact tL_come_99 C hr hlocks hL hg h
    · have h := h.1 c2
      refine q_iload (pc := 87) C 4 4 dL_come_87 rfl ?_
      refine q_iconst (pc := 89) C 1 dL_come_89 (by decide) ?_
      refine q_iadd (pc := 90) C dL_come_90 ?_
      refine q_bipush (pc := 91) C 97 dL_come_91 (by decide) ?_
      refine q_irem (pc := 93) C dL_come_93 (by decide) ?_
      refine m_stk (st2 := .int (m_rem (l4 + 1) 97) :: _) rfl ?_
      refine q_goto (pc := 94) C 99 dL_come_94 (by decide) ?_
      refine q_widen (k2 := 1) (n2 := 3) (by omega) (by omega) ?_
      refine q_lv [0, 1, 2, 3] rfl ?_
      exact tL_come_99 C hr hlocks hL hg h
  · have h := h.2 c1
    refine q_iload (pc := 76) C 4 4 dL_come_76 rfl ?_
    refine q_goto (pc := 78) C 99 dL_come_78 (by decide) ?_
    refine q_widen (k2 := 1) (n2 := 3) (by omega) (by omega) ?_
    refine q_lv [0, 1, 2, 3] rfl ?_
    exact tL_come_99 C hr hlocks hL hg h
set_option maxRecDepth 100000 in
set_option maxHeartbeats 4000000 in
theorem tL_come {p : Program} {l : Launch} {e : Env} {s : State} {m : MethodId} {args : Array Value} {below : List Frame} {meth : Method} {c : Code} {G : mG} {b0 : Nat} (C : m_C p s m args c cL_come 8 RL wsL_come G b0) (hr : meth.sig.returnType = none) (hlocks : meth.locks = false) (hL : l.stackTraces = false) {g : Nat → Nat} (hg : G.2.2 = g) {κ : mM → Prop} {l0 : Option Nat} {l1 : Int32} {M : mM} (h : wL_come g κ l0 l1 M) : m_W p l e ({ frames := 8, cells := 3, slots := 21, locals := 177 } : Room) s m args below meth c G b0 (MQ below (va_Qv κ (m_B G b0) (fun q => b0 ≤ q)) args s 3 21 (fun q => b0 ≤ q)) 8 M 0 0 0 [(0, va_rf l0), (1, .int l1)] [] := by
  unfold wL_come at h
  refine q_iload_n (pc := 0) C 1 1 dL_come_0 rfl rfl ?_
  refine q_aload_n (pc := 1) C 0 0 dL_come_1 rfl rfl ?_
  refine q_iconst (pc := 2) C 3 dL_come_2 (by decide) ?_
  obtain ⟨b3, fs9, hb3, hm9, h⟩ := h
  refine q_cXi (pc := 3) (q_rVX C (st := [.int l1]) (b := b3) (kX8_night l G b0 (t := 0) hL (fun _ _ h9 => h9.elim) h) (cwV 1 C.2.2.2.2.1 gL_come_X8_night rfl rfl rfl (by decide +kernel) ⟨Nat.le_of_ble_eq_true rfl, Nat.le_of_ble_eq_true rfl⟩) hm9 rfl rfl rfl (by first | exact Nat.le_of_ble_eq_true rfl | (simp [q_cat, q_catI, q_catJ, q_catR, q_catN]; done)) (by rw [hb3]; first | done | rfl) dL_come_3 ⟨(by first | omega | (dsimp only; omega)), (by first | omega | (dsimp only; omega))⟩) (fun E9 M9 h9 => h9.elim) (fun x1 M2 h => ?_)
  refine q_ci (pc := 6) (q_rS C (st := []) (kL_below l G b0 h) (va_cwS 2 C.2.2.2.2.1 gL_come_L_below rfl rfl rfl (by decide +kernel) ⟨Nat.le_of_ble_eq_true rfl, Nat.le_of_ble_eq_true rfl⟩) rfl (by first | exact Nat.le_of_ble_eq_true rfl | (simp [q_cat, q_catI, q_catJ, q_catR, q_catN]; done)) rfl dL_come_6 ⟨(by first | omega | (dsimp only; omega)), (by first | omega | (dsimp only; omega))⟩) (fun x4 M5 h => ?_)
  refine q_istore_n (pc := 9) C 2 [(2, .int x4), (0, va_rf l0), (1, .int l1)] dL_come_9 rfl (by decide) (by first | rfl | simp [q_cat, q_catI, q_catJ, q_catR, q_catN]) ?_
  refine q_iload_n (pc := 10) C 1 2 dL_come_10 rfl rfl ?_
  refine q_iconst (pc := 11) C 3 dL_come_11 (by decide) ?_
  refine q_ishr (pc := 12) C dL_come_12 ?_
  refine m_stk (st2 := .int (m_shr l1 3) :: _) rfl ?_
  refine q_aload_n (pc := 13) C 0 1 dL_come_13 rfl rfl ?_
  refine q_iconst (pc := 14) C 2 dL_come_14 (by decide) ?_
  obtain ⟨b8, fs9, hb8, hm9, h⟩ := h
  refine q_cXi (pc := 15) (q_rVX C (st := [.int (m_shr l1 3)]) (b := b8) (kX8_night l G b0 (t := 0) hL (fun _ _ h9 => h9.elim) h) (cwV 1 C.2.2.2.2.1 gL_come_X8_night rfl rfl rfl (by decide +kernel) ⟨Nat.le_of_ble_eq_true rfl, Nat.le_of_ble_eq_true rfl⟩) hm9 rfl rfl rfl (by first | exact Nat.le_of_ble_eq_true rfl | (simp [q_cat, q_catI, q_catJ, q_catR, q_catN]; done)) (by rw [hb8]; first | done | rfl) dL_come_15 ⟨(by first | omega | (dsimp only; omega)), (by first | omega | (dsimp only; omega))⟩) (fun E9 M9 h9 => h9.elim) (fun x6 M7 h => ?_)
  refine q_ci (pc := 18) (q_rS C (st := []) (kL_below l G b0 h) (va_cwS 2 C.2.2.2.2.1 gL_come_L_below rfl rfl rfl (by decide +kernel) ⟨Nat.le_of_ble_eq_true rfl, Nat.le_of_ble_eq_true rfl⟩) rfl (by first | exact Nat.le_of_ble_eq_true rfl | (simp [q_cat, q_catI, q_catJ, q_catR, q_catN]; done)) rfl dL_come_18 ⟨(by first | omega | (dsimp only; omega)), (by first | omega | (dsimp only; omega))⟩) (fun x9 M10 h => ?_)
  refine q_istore_n (pc := 21) C 3 [(3, .int x9), (2, .int x4), (0, va_rf l0), (1, .int l1)] dL_come_21 rfl (by decide) (by first | rfl | simp [q_cat, q_catI, q_catJ, q_catR, q_catN]) ?_
  refine q_aload_n (pc := 22) C 0 2 dL_come_22 rfl rfl ?_
  refine q_iload_n (pc := 23) C 2 1 dL_come_23 rfl rfl ?_
  refine q_iload_n (pc := 24) C 3 0 dL_come_24 rfl rfl ?_
  refine q_aload_n (pc := 25) C 0 2 dL_come_25 rfl rfl ?_
  refine q_iconst (pc := 26) C 0 dL_come_26 (by decide) ?_
  obtain ⟨b13, fs9, hb13, hm9, h⟩ := h
  refine q_cXi (pc := 27) (q_rVX C (st := [.int x9, .int x4, va_rf l0]) (b := b13) (kX8_night l G b0 (t := 0) hL (fun _ _ h9 => h9.elim) h) (cwV 1 C.2.2.2.2.1 gL_come_X8_night rfl rfl rfl (by decide +kernel) ⟨Nat.le_of_ble_eq_true rfl, Nat.le_of_ble_eq_true rfl⟩) hm9 rfl rfl rfl (by first | exact Nat.le_of_ble_eq_true rfl | (simp [q_cat, q_catI, q_catJ, q_catR, q_catN]; done)) (by rw [hb13]; first | done | rfl) dL_come_27 ⟨(by first | omega | (dsimp only; omega)), (by first | omega | (dsimp only; omega))⟩) (fun E9 M9 h9 => h9.elim) (fun x11 M12 h => ?_)
  refine q_iconst (pc := 30) C 0 dL_come_30 (by decide) ?_
  obtain ⟨b16, fs9, hb16, hm9, h⟩ := h
  refine q_cXi (pc := 31) (q_rVX C (st := []) (b := b16) (kX8_sing l G b0 (t := 0) hL (fun _ _ h9 => h9.elim) h) (cwV 4 C.2.2.2.2.1 gL_come_X8_sing rfl rfl rfl (by decide +kernel) ⟨Nat.le_of_ble_eq_true rfl, Nat.le_of_ble_eq_true rfl⟩) hm9 rfl rfl rfl (by first | exact Nat.le_of_ble_eq_true rfl | (simp [q_cat, q_catI, q_catJ, q_catR, q_catN]; done)) (by rw [hb16]; first | done | rfl) dL_come_31 ⟨(by first | omega | (dsimp only; omega)), (by first | omega | (dsimp only; omega))⟩) (fun E9 M9 h9 => h9.elim) (fun x14 M15 h => ?_)
  refine q_istore (pc := 34) C 4 [(4, .int x14), (3, .int x9), (2, .int x4), (0, va_rf l0), (1, .int l1)] dL_come_34 (by decide) (by first | rfl | simp [q_cat, q_catI, q_catJ, q_catR, q_catN]) ?_
  refine q_iload_n (pc := 36) C 1 4 dL_come_36 rfl rfl ?_
  refine q_iconst (pc := 37) C 5 dL_come_37 (by decide) ?_
  refine q_ishr (pc := 38) C dL_come_38 ?_
  refine m_stk (st2 := .int (m_shr l1 5) :: _) rfl ?_
  refine q_iconst (pc := 39) C 5 dL_come_39 (by decide) ?_
  refine q_ci (pc := 40) (q_rS C (st := []) (kL_below l G b0 h) (va_cwS 2 C.2.2.2.2.1 gL_come_L_below rfl rfl rfl (by decide +kernel) ⟨Nat.le_of_ble_eq_true rfl, Nat.le_of_ble_eq_true rfl⟩) rfl (by first | exact Nat.le_of_ble_eq_true rfl | (simp [q_cat, q_catI, q_catJ, q_catR, q_catN]; done)) rfl dL_come_40 ⟨(by first | omega | (dsimp only; omega)), (by first | omega | (dsimp only; omega))⟩) (fun x17 M18 h => ?_)
  refine q_istore (pc := 43) C 5 [(5, .int x17), (4, .int x14), (3, .int x9), (2, .int x4), (0, va_rf l0), (1, .int l1)] dL_come_43 (by decide) (by first | rfl | simp [q_cat, q_catI, q_catJ, q_catR, q_catN]) ?_
  refine q_aload_n (pc := 45) C 0 4 dL_come_45 rfl rfl ?_
  refine q_iload_n (pc := 46) C 2 3 dL_come_46 rfl rfl ?_
  refine q_iload_n (pc := 47) C 3 2 dL_come_47 rfl rfl ?_
  refine q_bipush (pc := 48) C 99 dL_come_48 (by decide) ?_
  refine q_aload_n (pc := 50) C 0 4 dL_come_50 rfl rfl ?_
  refine q_iconst (pc := 51) C 0 dL_come_51 (by decide) ?_
  obtain ⟨b21, fs9, hb21, hm9, h⟩ := h
  refine q_cXi (pc := 52) (q_rVX C (st := [.int 99, .int x9, .int x4, va_rf l0]) (b := b21) (kX8_night l G b0 (t := 0) hL (fun _ _ h9 => h9.elim) h) (cwV 1 C.2.2.2.2.1 gL_come_X8_night rfl rfl rfl (by decide +kernel) ⟨Nat.le_of_ble_eq_true rfl, Nat.le_of_ble_eq_true rfl⟩) hm9 rfl rfl rfl (by first | exact Nat.le_of_ble_eq_true rfl | (simp [q_cat, q_catI, q_catJ, q_catR, q_catN]; done)) (by rw [hb21]; first | done | rfl) dL_come_52 ⟨(by first | omega | (dsimp only; omega)), (by first | omega | (dsimp only; omega))⟩) (fun E9 M9 h9 => h9.elim) (fun x19 M20 h => ?_)
  refine q_iload (pc := 55) C 5 0 dL_come_55 rfl ?_
  refine q_iconst (pc := 57) C 4 dL_come_57 (by decide) ?_
  refine q_icmp_ne (pc := 58) C 65 dL_come_58 (by decide) (fun c22 => ?_) (fun c22 => ?_)
  · have h := h.2 c22
    refine q_iconst (pc := 65) C 0 dL_come_65 (by decide) ?_
    refine q_widen (k2 := 1) (n2 := 3) (by omega) (by omega) ?_
    refine q_lv [4, 5, 3, 2, 1, 0] rfl ?_
    exact tL_come_66 C hr hlocks hL hg h
  · have h := h.1 c22
    refine q_iconst (pc := 61) C 1 dL_come_61 (by decide) ?_
    refine q_goto (pc := 62) C 66 dL_come_62 (by decide) ?_
    refine q_widen (k2 := 1) (n2 := 3) (by omega) (by omega) ?_
    refine q_lv [4, 5, 3, 2, 1, 0] rfl ?_
    exact tL_come_66 C hr hlocks hL hg h
set_option maxRecDepth 100000 in
set_option maxHeartbeats 4000000 in
theorem kL_come (l : Launch) (G : mG) (b0 : Nat) (hL : l.stackTraces = false) {g : Nat → Nat} (hg : G.2.2 = g) {l0 : Option Nat} {l1 : Int32} {M : mM} {κ : mM → Prop} (h : wL_come g κ l0 l1 M) : Met l yL_come wsL_come ({ frames := 8, cells := 3, slots := 21, locals := 177 } : Room) (va_Pc [va_rf l0, .int l1] (m_Pre G b0 M)) (va_Qv κ (m_B G b0) (fun q => b0 ≤ q)) 3 21 (fun q => b0 ≤ q) := by
  refine m_met (cc := cL_come) (maxL := 8) (ret := none) (lv := [(0, va_rf l0), (1, .int l1)]) RL rfl (by decide +kernel) rfl (by first | exact Nat.le_of_ble_eq_true rfl | simp [lg_sl, q_cat, q_catI, q_catJ, q_catR, q_catN]) (by first | rfl | (simp [lv_args, q_cat, q_catI, q_catJ, q_catR, q_catN]; done) | (simp [lv_args, q_cat, q_catI, q_catJ, q_catR, q_catN]; rfl)) ?_
  intro p e s m args below meth c C hr hlocks hni
  exact tL_come C hr hlocks hL hg h
/-! L_isDone -/
set_option maxRecDepth 100000 in
set_option maxHeartbeats 4000000 in
theorem tL_isDone {p : Program} {l : Launch} {e : Env} {s : State} {m : MethodId} {args : Array Value} {below : List Frame} {meth : Method} {c : Code} {G : mG} {b0 : Nat} (C : m_C p s m args c cL_isDone 6 RL wsL_isDone G b0) (hr : meth.sig.returnType = (some .boolean)) (hlocks : meth.locks = false) (hL : l.stackTraces = false) (hN : m_N s) (hxt : c.exceptionTable.toList = tableOf [(42, 228, 229, 97), (42, 228, 233, 99)]) {g : Nat → Nat} (hg : G.2.2 = g) {κ : Int32 → mM → Prop} {l0 : Option Nat} {l1 : Int32} {M : mM} (h : wL_isDone g κ l0 l1 M) : m_W p l e ({ frames := 11, cells := 53, slots := 1278, locals := 270 } : Room) s m args below meth c G b0 (vx_MQ below (va_Qi κ (m_B G b0) (fun q => b0 ≤ q)) (fun _ _ _ => False) args s 53 1278 (fun q => b0 ≤ q)) 6 M 0 0 0 [(0, va_rf l0), (1, .int l1)] [] := by
  unfold wL_isDone at h
  refine q_iload_n (pc := 0) C 1 1 dL_isDone_0 rfl rfl ?_
  refine q_iconst (pc := 1) C 4 dL_isDone_1 (by decide) ?_
  refine q_ishr (pc := 2) C dL_isDone_2 ?_
  refine m_stk (st2 := .int (m_shr l1 4) :: _) rfl ?_
  refine q_aload_n (pc := 3) C 0 0 dL_isDone_3 rfl rfl ?_
  refine q_iconst (pc := 4) C 2 dL_isDone_4 (by decide) ?_
  obtain ⟨b3, fs9, hb3, hm9, h⟩ := h
  refine q_cXi (pc := 5) (q_rVX C (st := [.int (m_shr l1 4)]) (b := b3) (kX8_night l G b0 (t := 0) hL (fun _ _ h9 => h9.elim) h) (cwV 1 C.2.2.2.2.1 gL_isDone_X8_night rfl rfl rfl (by decide +kernel) ⟨Nat.le_of_ble_eq_true rfl, Nat.le_of_ble_eq_true rfl⟩) hm9 rfl rfl rfl (by first | exact Nat.le_of_ble_eq_true rfl | (simp [q_cat, q_catI, q_catJ, q_catR, q_catN]; done)) (by rw [hb3]; first | done | rfl) dL_isDone_5 ⟨(by first | omega | (dsimp only; omega)), (by first | omega | (dsimp only; omega))⟩) (fun E9 M9 h9 => h9.elim) (fun x1 M2 h => ?_)
  refine q_ci (pc := 8) (q_rS C (st := []) (kL_below l G b0 h) (va_cwS 2 C.2.2.2.2.1 gL_isDone_L_below rfl rfl rfl (by decide +kernel) ⟨Nat.le_of_ble_eq_true rfl, Nat.le_of_ble_eq_true rfl⟩) rfl (by first | exact Nat.le_of_ble_eq_true rfl | (simp [q_cat, q_catI, q_catJ, q_catR, q_catN]; done)) rfl dL_isDone_8 ⟨(by first | omega | (dsimp only; omega)), (by first | omega | (dsimp only; omega))⟩) (fun x4 M5 h => ?_)
  refine q_istore_n (pc := 11) C 2 [(2, .int x4), (0, va_rf l0), (1, .int l1)] dL_isDone_11 rfl (by decide) (by first | rfl | simp [q_cat, q_catI, q_catJ, q_catR, q_catN]) ?_
  refine q_iload_n (pc := 12) C 1 2 dL_isDone_12 rfl rfl ?_
  refine q_bipush (pc := 13) C 6 dL_isDone_13 (by decide) ?_
  refine q_ishr (pc := 15) C dL_isDone_15 ?_
  refine m_stk (st2 := .int (m_shr l1 6) :: _) rfl ?_
  refine q_aload_n (pc := 16) C 0 1 dL_isDone_16 rfl rfl ?_
  refine q_iconst (pc := 17) C 3 dL_isDone_17 (by decide) ?_
  obtain ⟨b8, fs9, hb8, hm9, h⟩ := h
  refine q_cXi (pc := 18) (q_rVX C (st := [.int (m_shr l1 6)]) (b := b8) (kX8_night l G b0 (t := 0) hL (fun _ _ h9 => h9.elim) h) (cwV 1 C.2.2.2.2.1 gL_isDone_X8_night rfl rfl rfl (by decide +kernel) ⟨Nat.le_of_ble_eq_true rfl, Nat.le_of_ble_eq_true rfl⟩) hm9 rfl rfl rfl (by first | exact Nat.le_of_ble_eq_true rfl | (simp [q_cat, q_catI, q_catJ, q_catR, q_catN]; done)) (by rw [hb8]; first | done | rfl) dL_isDone_18 ⟨(by first | omega | (dsimp only; omega)), (by first | omega | (dsimp only; omega))⟩) (fun E9 M9 h9 => h9.elim) (fun x6 M7 h => ?_)
  refine q_ci (pc := 21) (q_rS C (st := []) (kL_below l G b0 h) (va_cwS 2 C.2.2.2.2.1 gL_isDone_L_below rfl rfl rfl (by decide +kernel) ⟨Nat.le_of_ble_eq_true rfl, Nat.le_of_ble_eq_true rfl⟩) rfl (by first | exact Nat.le_of_ble_eq_true rfl | (simp [q_cat, q_catI, q_catJ, q_catR, q_catN]; done)) rfl dL_isDone_21 ⟨(by first | omega | (dsimp only; omega)), (by first | omega | (dsimp only; omega))⟩) (fun x9 M10 h => ?_)
  refine q_istore_n (pc := 24) C 3 [(3, .int x9), (2, .int x4), (0, va_rf l0), (1, .int l1)] dL_isDone_24 rfl (by decide) (by first | rfl | simp [q_cat, q_catI, q_catJ, q_catR, q_catN]) ?_
  refine q_iload_n (pc := 25) C 1 3 dL_isDone_25 rfl rfl ?_
  refine q_iconst (pc := 26) C 5 dL_isDone_26 (by decide) ?_
  refine q_ishr (pc := 27) C dL_isDone_27 ?_
  refine m_stk (st2 := .int (m_shr l1 5) :: _) rfl ?_
  refine q_iconst (pc := 28) C 1 dL_isDone_28 (by decide) ?_
  refine q_aload_n (pc := 29) C 0 2 dL_isDone_29 rfl rfl ?_
  refine q_iconst (pc := 30) C 5 dL_isDone_30 (by decide) ?_
  obtain ⟨b13, fs9, hb13, hm9, h⟩ := h
  refine q_cXi (pc := 31) (q_rVX C (st := [.int 1, .int (m_shr l1 5)]) (b := b13) (kX8_night l G b0 (t := 0) hL (fun _ _ h9 => h9.elim) h) (cwV 1 C.2.2.2.2.1 gL_isDone_X8_night rfl rfl rfl (by decide +kernel) ⟨Nat.le_of_ble_eq_true rfl, Nat.le_of_ble_eq_true rfl⟩) hm9 rfl rfl rfl (by first | exact Nat.le_of_ble_eq_true rfl | (simp [q_cat, q_catI, q_catJ, q_catR, q_catN]; done)) (by rw [hb13]; first | done | rfl) dL_isDone_31 ⟨(by first | omega | (dsimp only; omega)), (by first | omega | (dsimp only; omega))⟩) (fun E9 M9 h9 => h9.elim) (fun x11 M12 h => ?_)
  refine q_mmax (pc := 34) C (by decide +kernel) (by decide +kernel) (by decide +kernel) (by decide +kernel) (Nat.le_of_ble_eq_true rfl) (by first | exact Nat.le_of_ble_eq_true rfl | (simp [q_cat, q_catI, q_catJ, q_catR, q_catN]; done) | (simp [q_cat, q_catI, q_catJ, q_catR, q_catN]; decide)) (by first | omega | (dsimp only; omega)) (by first | omega | (dsimp only; omega)) dL_isDone_34 ?_
  refine m_stk (st2 := .int (m_max 1 x11) :: _) rfl ?_
  refine q_ci (pc := 37) (q_rS C (st := []) (kL_below l G b0 h) (va_cwS 2 C.2.2.2.2.1 gL_isDone_L_below rfl rfl rfl (by decide +kernel) ⟨Nat.le_of_ble_eq_true rfl, Nat.le_of_ble_eq_true rfl⟩) rfl (by first | exact Nat.le_of_ble_eq_true rfl | (simp [q_cat, q_catI, q_catJ, q_catR, q_catN]; done)) rfl dL_isDone_37 ⟨(by first | omega | (dsimp only; omega)), (by first | omega | (dsimp only; omega))⟩) (fun x14 M15 h => ?_)
  refine q_istore (pc := 40) C 4 [(4, .int x14), (3, .int x9), (2, .int x4), (0, va_rf l0), (1, .int l1)] dL_isDone_40 (by decide) (by first | rfl | simp [q_cat, q_catI, q_catJ, q_catR, q_catN]) ?_
  refine q_iload_n (pc := 42) C 1 4 dL_isDone_42 rfl rfl ?_
  refine q_bipush (pc := 43) C 13 dL_isDone_43 (by decide) ?_
  refine q_ci (pc := 45) (q_rS C (st := []) (kL_below l G b0 h) (va_cwS 2 C.2.2.2.2.1 gL_isDone_L_below rfl rfl rfl (by decide +kernel) ⟨Nat.le_of_ble_eq_true rfl, Nat.le_of_ble_eq_true rfl⟩) rfl (by first | exact Nat.le_of_ble_eq_true rfl | (simp [q_cat, q_catI, q_catJ, q_catR, q_catN]; done)) rfl dL_isDone_45 ⟨(by first | omega | (dsimp only; omega)), (by first | omega | (dsimp only; omega))⟩) (fun x16 M17 h => ?_)
  by_cases c18 : x16 = 0
  · have h := h.1 c18
    refine q_tableIn (pc := 48) C 108 dL_isDone_48 (by rw [c18]; decide) (by rw [c18]; decide) (by rw [c18]; rfl) (by decide) ?_
    refine q_aload_n (pc := 108) C 0 3 dL_isDone_108 rfl rfl ?_
    refine q_iload_n (pc := 109) C 2 2 dL_isDone_109 rfl rfl ?_
    obtain ⟨b21, fs9, hb21, hm9, h⟩ := h
    refine q_cXi (pc := 110) (q_rVX C (st := []) (b := b21) (kX8_yawn l G b0 (t := 1) hL hg (fun _ _ _ => Nat.le_refl 1) h) (cwV 1 C.2.2.2.2.1 gL_isDone_X8_yawn rfl rfl rfl (by decide +kernel) ⟨Nat.le_of_ble_eq_true rfl, Nat.le_of_ble_eq_true rfl⟩) hm9 rfl rfl rfl (by first | exact Nat.le_of_ble_eq_true rfl | (simp [q_cat, q_catI, q_catJ, q_catR, q_catN]; done)) (by rw [hb21]; first | done | rfl) dL_isDone_110 ⟨(by first | omega | (dsimp only; omega)), (by first | omega | (dsimp only; omega))⟩) ?_ ?_
    · intro E9 M9 h9
      rcases h9 with ⟨rfl, h⟩
      · refine q_catch (pc := 110) C hxt (E := "java/lang/IllegalStateException") (name := "java/lang/IllegalStateException") [] ⟨42, 228, 229, 97⟩ [⟨42, 228, 233, 99⟩] rfl (fun z hz => by cases hz) (by decide) (by decide) (by decide +kernel) 537 (by decide +kernel) (fun q9 => ?_)
        refine q_astore (pc := 229) C 5 [(5, va_rf (some q9)), (4, .int x14), (3, .int x9), (2, .int x4), (0, va_rf l0), (1, .int l1)] dL_isDone_229 (by decide) (by first | rfl | simp [q_cat, q_catI, q_catJ, q_catR, q_catN]) ?_
        refine q_iconst (pc := 231) C 0 dL_isDone_231 (by decide) ?_
        exact q_zretX (pc := 232) C hr hlocks ⟨(by decide), h⟩ dL_isDone_232 (by omega) (by omega)
    · intro x19 M20 h
      refine q_pop (pc := 113) C dL_isDone_113 rfl ?_
      refine q_goto (pc := 114) C 227 dL_isDone_114 (by decide) ?_
      refine q_iconst (pc := 227) C 1 dL_isDone_227 (by decide) ?_
      exact q_zretX (pc := 228) C hr hlocks ⟨(by decide), h⟩ dL_isDone_228 (by omega) (by omega)
  have h := h.2 c18
  by_cases c22 : x16 = 1
  · have h := h.1 c22
    refine q_tableIn (pc := 48) C 108 dL_isDone_48 (by rw [c22]; decide) (by rw [c22]; decide) (by rw [c22]; rfl) (by decide) ?_
    refine q_aload_n (pc := 108) C 0 3 dL_isDone_108 rfl rfl ?_
    refine q_iload_n (pc := 109) C 2 2 dL_isDone_109 rfl rfl ?_
    obtain ⟨b25, fs9, hb25, hm9, h⟩ := h
    refine q_cXi (pc := 110) (q_rVX C (st := []) (b := b25) (kX8_yawn l G b0 (t := 1) hL hg (fun _ _ _ => Nat.le_refl 1) h) (cwV 1 C.2.2.2.2.1 gL_isDone_X8_yawn rfl rfl rfl (by decide +kernel) ⟨Nat.le_of_ble_eq_true rfl, Nat.le_of_ble_eq_true rfl⟩) hm9 rfl rfl rfl (by first | exact Nat.le_of_ble_eq_true rfl | (simp [q_cat, q_catI, q_catJ, q_catR, q_catN]; done)) (by rw [hb25]; first | done | rfl) dL_isDone_110 ⟨(by first | omega | (dsimp only; omega)), (by first | omega | (dsimp only; omega))⟩) ?_ ?_
    · intro E9 M9 h9
      rcases h9 with ⟨rfl, h⟩
      · refine q_catch (pc := 110) C hxt (E := "java/lang/IllegalStateException") (name := "java/lang/IllegalStateException") [] ⟨42, 228, 229, 97⟩ [⟨42, 228, 233, 99⟩] rfl (fun z hz => by cases hz) (by decide) (by decide) (by decide +kernel) 537 (by decide +kernel) (fun q9 => ?_)
        refine q_astore (pc := 229) C 5 [(5, va_rf (some q9)), (4, .int x14), (3, .int x9), (2, .int x4), (0, va_rf l0), (1, .int l1)] dL_isDone_229 (by decide) (by first | rfl | simp [q_cat, q_catI, q_catJ, q_catR, q_catN]) ?_
        refine q_iconst (pc := 231) C 0 dL_isDone_231 (by decide) ?_
        exact q_zretX (pc := 232) C hr hlocks ⟨(by decide), h⟩ dL_isDone_232 (by omega) (by omega)
    · intro x23 M24 h
      refine q_pop (pc := 113) C dL_isDone_113 rfl ?_
      refine q_goto (pc := 114) C 227 dL_isDone_114 (by decide) ?_
      refine q_iconst (pc := 227) C 1 dL_isDone_227 (by decide) ?_
      exact q_zretX (pc := 228) C hr hlocks ⟨(by decide), h⟩ dL_isDone_228 (by omega) (by omega)
  have h := h.2 c22
  by_cases c26 : x16 = 2
  · have h := h.1 c26
    refine q_tableIn (pc := 48) C 108 dL_isDone_48 (by rw [c26]; decide) (by rw [c26]; decide) (by rw [c26]; rfl) (by decide) ?_
    refine q_aload_n (pc := 108) C 0 3 dL_isDone_108 rfl rfl ?_
    refine q_iload_n (pc := 109) C 2 2 dL_isDone_109 rfl rfl ?_
    obtain ⟨b29, fs9, hb29, hm9, h⟩ := h
    refine q_cXi (pc := 110) (q_rVX C (st := []) (b := b29) (kX8_yawn l G b0 (t := 1) hL hg (fun _ _ _ => Nat.le_refl 1) h) (cwV 1 C.2.2.2.2.1 gL_isDone_X8_yawn rfl rfl rfl (by decide +kernel) ⟨Nat.le_of_ble_eq_true rfl, Nat.le_of_ble_eq_true rfl⟩) hm9 rfl rfl rfl (by first | exact Nat.le_of_ble_eq_true rfl | (simp [q_cat, q_catI, q_catJ, q_catR, q_catN]; done)) (by rw [hb29]; first | done | rfl) dL_isDone_110 ⟨(by first | omega | (dsimp only; omega)), (by first | omega | (dsimp only; omega))⟩) ?_ ?_
    · intro E9 M9 h9
      rcases h9 with ⟨rfl, h⟩
      · refine q_catch (pc := 110) C hxt (E := "java/lang/IllegalStateException") (name := "java/lang/IllegalStateException") [] ⟨42, 228, 229, 97⟩ [⟨42, 228, 233, 99⟩] rfl (fun z hz => by cases hz) (by decide) (by decide) (by decide +kernel) 537 (by decide +kernel) (fun q9 => ?_)
        refine q_astore (pc := 229) C 5 [(5, va_rf (some q9)), (4, .int x14), (3, .int x9), (2, .int x4), (0, va_rf l0), (1, .int l1)] dL_isDone_229 (by decide) (by first | rfl | simp [q_cat, q_catI, q_catJ, q_catR, q_catN]) ?_
        refine q_iconst (pc := 231) C 0 dL_isDone_231 (by decide) ?_
        exact q_zretX (pc := 232) C hr hlocks ⟨(by decide), h⟩ dL_isDone_232 (by omega) (by omega)
    · intro x27 M28 h
      refine q_pop (pc := 113) C dL_isDone_113 rfl ?_
      refine q_goto (pc := 114) C 227 dL_isDone_114 (by decide) ?_
      refine q_iconst (pc := 227) C 1 dL_isDone_227 (by decide) ?_
      exact q_zretX (pc := 228) C hr hlocks ⟨(by decide), h⟩ dL_isDone_228 (by omega) (by omega)
  have h := h.2 c26
  by_cases c30 : x16 = 3
  · have h := h.1 c30
    refine q_tableIn (pc := 48) C 108 dL_isDone_48 (by rw [c30]; decide) (by rw [c30]; decide) (by rw [c30]; rfl) (by decide) ?_
    refine q_aload_n (pc := 108) C 0 3 dL_isDone_108 rfl rfl ?_
    refine q_iload_n (pc := 109) C 2 2 dL_isDone_109 rfl rfl ?_
    obtain ⟨b33, fs9, hb33, hm9, h⟩ := h
    refine q_cXi (pc := 110) (q_rVX C (st := []) (b := b33) (kX8_yawn l G b0 (t := 1) hL hg (fun _ _ _ => Nat.le_refl 1) h) (cwV 1 C.2.2.2.2.1 gL_isDone_X8_yawn rfl rfl rfl (by decide +kernel) ⟨Nat.le_of_ble_eq_true rfl, Nat.le_of_ble_eq_true rfl⟩) hm9 rfl rfl rfl (by first | exact Nat.le_of_ble_eq_true rfl | (simp [q_cat, q_catI, q_catJ, q_catR, q_catN]; done)) (by rw [hb33]; first | done | rfl) dL_isDone_110 ⟨(by first | omega | (dsimp only; omega)), (by first | omega | (dsimp only; omega))⟩) ?_ ?_
    · intro E9 M9 h9
      rcases h9 with ⟨rfl, h⟩
      · refine q_catch (pc := 110) C hxt (E := "java/lang/IllegalStateException") (name := "java/lang/IllegalStateException") [] ⟨42, 228, 229, 97⟩ [⟨42, 228, 233, 99⟩] rfl (fun z hz => by cases hz) (by decide) (by decide) (by decide +kernel) 537 (by decide +kernel) (fun q9 => ?_)
        refine q_astore (pc := 229) C 5 [(5, va_rf (some q9)), (4, .int x14), (3, .int x9), (2, .int x4), (0, va_rf l0), (1, .int l1)] dL_isDone_229 (by decide) (by first | rfl | simp [q_cat, q_catI, q_catJ, q_catR, q_catN]) ?_
        refine q_iconst (pc := 231) C 0 dL_isDone_231 (by decide) ?_
        exact q_zretX (pc := 232) C hr hlocks ⟨(by decide), h⟩ dL_isDone_232 (by omega) (by omega)
    · intro x31 M32 h
      refine q_pop (pc := 113) C dL_isDone_113 rfl ?_
      refine q_goto (pc := 114) C 227 dL_isDone_114 (by decide) ?_
      refine q_iconst (pc := 227) C 1 dL_isDone_227 (by decide) ?_
      exact q_zretX (pc := 228) C hr hlocks ⟨(by decide), h⟩ dL_isDone_228 (by omega) (by omega)
  have h := h.2 c30
  by_cases c34 : x16 = 4
  · have h := h.1 c34
    refine q_tableIn (pc := 48) C 117 dL_isDone_48 (by rw [c34]; decide) (by rw [c34]; decide) (by rw [c34]; rfl) (by decide) ?_
    refine q_aload_n (pc := 117) C 0 3 dL_isDone_117 rfl rfl ?_
    refine q_iload_n (pc := 118) C 3 1 dL_isDone_118 rfl rfl ?_
    obtain ⟨b37, fs9, hb37, hm9, h⟩ := h
    refine q_cXi (pc := 119) (q_rVX C (st := []) (b := b37) (kX8_leave l G b0 (t := 1) hL (fun _ _ _ => Nat.le_refl 1) h) (cwV 1 C.2.2.2.2.1 gL_isDone_X8_leave rfl rfl rfl (by decide +kernel) ⟨Nat.le_of_ble_eq_true rfl, Nat.le_of_ble_eq_true rfl⟩) hm9 rfl rfl rfl (by first | exact Nat.le_of_ble_eq_true rfl | (simp [q_cat, q_catI, q_catJ, q_catR, q_catN]; done)) (by rw [hb37]; first | done | rfl) dL_isDone_119 ⟨(by first | omega | (dsimp only; omega)), (by first | omega | (dsimp only; omega))⟩) ?_ ?_
    · intro E9 M9 h9
      rcases h9 with ⟨rfl, h⟩
      · refine q_catch (pc := 119) C hxt (E := "java/lang/IllegalStateException") (name := "java/lang/IllegalStateException") [] ⟨42, 228, 229, 97⟩ [⟨42, 228, 233, 99⟩] rfl (fun z hz => by cases hz) (by decide) (by decide) (by decide +kernel) 537 (by decide +kernel) (fun q9 => ?_)
        refine q_astore (pc := 229) C 5 [(5, va_rf (some q9)), (4, .int x14), (3, .int x9), (2, .int x4), (0, va_rf l0), (1, .int l1)] dL_isDone_229 (by decide) (by first | rfl | simp [q_cat, q_catI, q_catJ, q_catR, q_catN]) ?_
        refine q_iconst (pc := 231) C 0 dL_isDone_231 (by decide) ?_
        exact q_zretX (pc := 232) C hr hlocks ⟨(by decide), h⟩ dL_isDone_232 (by omega) (by omega)
    · intro x35 M36 h
      refine q_pop (pc := 122) C dL_isDone_122 rfl ?_
      refine q_goto (pc := 123) C 227 dL_isDone_123 (by decide) ?_
      refine q_iconst (pc := 227) C 1 dL_isDone_227 (by decide) ?_
      exact q_zretX (pc := 228) C hr hlocks ⟨(by decide), h⟩ dL_isDone_228 (by omega) (by omega)
  have h := h.2 c34
  by_cases c38 : x16 = 5
  · have h := h.1 c38
    refine q_tableIn (pc := 48) C 126 dL_isDone_48 (by rw [c38]; decide) (by rw [c38]; decide) (by rw [c38]; rfl) (by decide) ?_
    refine q_aload_n (pc := 126) C 0 3 dL_isDone_126 rfl rfl ?_
    refine q_iload (pc := 127) C 4 0 dL_isDone_127 rfl ?_
    refine q_iload_n (pc := 129) C 3 1 dL_isDone_129 rfl rfl ?_
    obtain ⟨b41, fs9, hb41, hm9, h⟩ := h
    refine q_cXi (pc := 130) (q_rVX C (st := []) (b := b41) (kX8_give l G b0 (t := 1) hL (fun _ _ _ => Nat.le_refl 1) h) (cwV 2 C.2.2.2.2.1 gL_isDone_X8_give rfl rfl rfl (by decide +kernel) ⟨Nat.le_of_ble_eq_true rfl, Nat.le_of_ble_eq_true rfl⟩) hm9 rfl rfl rfl (by first | exact Nat.le_of_ble_eq_true rfl | (simp [q_cat, q_catI, q_catJ, q_catR, q_catN]; done)) (by rw [hb41]; first | done | rfl) dL_isDone_130 ⟨(by first | omega | (dsimp only; omega)), (by first | omega | (dsimp only; omega))⟩) ?_ ?_
    · intro E9 M9 h9
      rcases h9 with ⟨rfl, h⟩
      · refine q_catch (pc := 130) C hxt (E := "java/lang/IllegalStateException") (name := "java/lang/IllegalStateException") [] ⟨42, 228, 229, 97⟩ [⟨42, 228, 233, 99⟩] rfl (fun z hz => by cases hz) (by decide) (by decide) (by decide +kernel) 537 (by decide +kernel) (fun q9 => ?_)
        refine q_astore (pc := 229) C 5 [(5, va_rf (some q9)), (4, .int x14), (3, .int x9), (2, .int x4), (0, va_rf l0), (1, .int l1)] dL_isDone_229 (by decide) (by first | rfl | simp [q_cat, q_catI, q_catJ, q_catR, q_catN]) ?_
        refine q_iconst (pc := 231) C 0 dL_isDone_231 (by decide) ?_
        exact q_zretX (pc := 232) C hr hlocks ⟨(by decide), h⟩ dL_isDone_232 (by omega) (by omega)
    · intro x39 M40 h
      refine q_pop (pc := 133) C dL_isDone_133 rfl ?_
      refine q_goto (pc := 134) C 227 dL_isDone_134 (by decide) ?_
      refine q_iconst (pc := 227) C 1 dL_isDone_227 (by decide) ?_
      exact q_zretX (pc := 228) C hr hlocks ⟨(by decide), h⟩ dL_isDone_228 (by omega) (by omega)
  have h := h.2 c38
  by_cases c42 : x16 = 6
  · have h := h.1 c42
    refine q_tableIn (pc := 48) C 137 dL_isDone_48 (by rw [c42]; decide) (by rw [c42]; decide) (by rw [c42]; rfl) (by decide) ?_
    refine q_aload_n (pc := 137) C 0 3 dL_isDone_137 rfl rfl ?_
    refine q_iload (pc := 138) C 4 0 dL_isDone_138 rfl ?_
    obtain ⟨b45, fs9, hb45, hm9, h⟩ := h
    refine q_cXi (pc := 140) (q_rVX C (st := []) (b := b45) (kX8_appeal l G b0 (t := 1) hL (fun _ _ _ => Nat.le_refl 1) h) (cwV 1 C.2.2.2.2.1 gL_isDone_X8_appeal rfl rfl rfl (by decide +kernel) ⟨Nat.le_of_ble_eq_true rfl, Nat.le_of_ble_eq_true rfl⟩) hm9 rfl rfl rfl (by first | exact Nat.le_of_ble_eq_true rfl | (simp [q_cat, q_catI, q_catJ, q_catR, q_catN]; done)) (by rw [hb45]; first | done | rfl) dL_isDone_140 ⟨(by first | omega | (dsimp only; omega)), (by first | omega | (dsimp only; omega))⟩) ?_ ?_
    · intro E9 M9 h9
      rcases h9 with ⟨rfl, h⟩
      · refine q_catch (pc := 140) C hxt (E := "java/lang/IllegalStateException") (name := "java/lang/IllegalStateException") [] ⟨42, 228, 229, 97⟩ [⟨42, 228, 233, 99⟩] rfl (fun z hz => by cases hz) (by decide) (by decide) (by decide +kernel) 537 (by decide +kernel) (fun q9 => ?_)
        refine q_astore (pc := 229) C 5 [(5, va_rf (some q9)), (4, .int x14), (3, .int x9), (2, .int x4), (0, va_rf l0), (1, .int l1)] dL_isDone_229 (by decide) (by first | rfl | simp [q_cat, q_catI, q_catJ, q_catR, q_catN]) ?_
        refine q_iconst (pc := 231) C 0 dL_isDone_231 (by decide) ?_
        exact q_zretX (pc := 232) C hr hlocks ⟨(by decide), h⟩ dL_isDone_232 (by omega) (by omega)
    · intro x43 M44 h
      refine q_pop (pc := 143) C dL_isDone_143 rfl ?_
      refine q_goto (pc := 144) C 227 dL_isDone_144 (by decide) ?_
      refine q_iconst (pc := 227) C 1 dL_isDone_227 (by decide) ?_
      exact q_zretX (pc := 228) C hr hlocks ⟨(by decide), h⟩ dL_isDone_228 (by omega) (by omega)
  have h := h.2 c42
  by_cases c46 : x16 = 7
  · have h := h.1 c46
    refine q_tableIn (pc := 48) C 147 dL_isDone_48 (by rw [c46]; decide) (by rw [c46]; decide) (by rw [c46]; rfl) (by decide) ?_
    refine q_aload_n (pc := 147) C 0 3 dL_isDone_147 rfl rfl ?_
    refine q_iload_n (pc := 148) C 2 2 dL_isDone_148 rfl rfl ?_
    obtain ⟨b49, fs9, hb49, hm9, h⟩ := h
    refine q_cXi (pc := 149) (q_rVX C (st := []) (b := b49) (kX8_relieve l G b0 (t := 1) hL (fun _ _ _ => Nat.le_refl 1) h) (cwV 1 C.2.2.2.2.1 gL_isDone_X8_relieve rfl rfl rfl (by decide +kernel) ⟨Nat.le_of_ble_eq_true rfl, Nat.le_of_ble_eq_true rfl⟩) hm9 rfl rfl rfl (by first | exact Nat.le_of_ble_eq_true rfl | (simp [q_cat, q_catI, q_catJ, q_catR, q_catN]; done)) (by rw [hb49]; first | done | rfl) dL_isDone_149 ⟨(by first | omega | (dsimp only; omega)), (by first | omega | (dsimp only; omega))⟩) ?_ ?_
    · intro E9 M9 h9
      rcases h9 with ⟨rfl, h⟩
      · refine q_catch (pc := 149) C hxt (E := "java/lang/IllegalStateException") (name := "java/lang/IllegalStateException") [] ⟨42, 228, 229, 97⟩ [⟨42, 228, 233, 99⟩] rfl (fun z hz => by cases hz) (by decide) (by decide) (by decide +kernel) 537 (by decide +kernel) (fun q9 => ?_)
        refine q_astore (pc := 229) C 5 [(5, va_rf (some q9)), (4, .int x14), (3, .int x9), (2, .int x4), (0, va_rf l0), (1, .int l1)] dL_isDone_229 (by decide) (by first | rfl | simp [q_cat, q_catI, q_catJ, q_catR, q_catN]) ?_
        refine q_iconst (pc := 231) C 0 dL_isDone_231 (by decide) ?_
        exact q_zretX (pc := 232) C hr hlocks ⟨(by decide), h⟩ dL_isDone_232 (by omega) (by omega)
    · intro x47 M48 h
      refine q_pop (pc := 152) C dL_isDone_152 rfl ?_
      refine q_goto (pc := 153) C 227 dL_isDone_153 (by decide) ?_
      refine q_iconst (pc := 227) C 1 dL_isDone_227 (by decide) ?_
      exact q_zretX (pc := 228) C hr hlocks ⟨(by decide), h⟩ dL_isDone_228 (by omega) (by omega)
  have h := h.2 c46
  by_cases c50 : x16 = 8
  · have h := h.1 c50
    refine q_tableIn (pc := 48) C 156 dL_isDone_48 (by rw [c50]; decide) (by rw [c50]; decide) (by rw [c50]; rfl) (by decide) ?_
    refine q_aload_n (pc := 156) C 0 3 dL_isDone_156 rfl rfl ?_
    refine q_iload_n (pc := 157) C 2 2 dL_isDone_157 rfl rfl ?_
    refine q_aload_n (pc := 158) C 0 3 dL_isDone_158 rfl rfl ?_
    refine q_iload_n (pc := 159) C 3 1 dL_isDone_159 rfl rfl ?_
    refine q_iload_n (pc := 160) C 2 2 dL_isDone_160 rfl rfl ?_
    refine q_aload_n (pc := 161) C 0 3 dL_isDone_161 rfl rfl ?_
    refine q_iconst (pc := 162) C 0 dL_isDone_162 (by decide) ?_
    obtain ⟨b53, fs9, hb53, hm9, h⟩ := h
    refine q_cXi (pc := 163) (q_rVX C (st := [.int x4, .int x9, va_rf l0, .int x4, va_rf l0]) (b := b53) (kX8_night l G b0 (t := 1) hL (fun _ _ _ => Nat.le_refl 1) h) (cwV 1 C.2.2.2.2.1 gL_isDone_X8_night rfl rfl rfl (by decide +kernel) ⟨Nat.le_of_ble_eq_true rfl, Nat.le_of_ble_eq_true rfl⟩) hm9 rfl rfl rfl (by first | exact Nat.le_of_ble_eq_true rfl | (simp [q_cat, q_catI, q_catJ, q_catR, q_catN]; done)) (by rw [hb53]; first | done | rfl) dL_isDone_163 ⟨(by first | omega | (dsimp only; omega)), (by first | omega | (dsimp only; omega))⟩) ?_ ?_
    · intro E9 M9 h9
      rcases h9 with ⟨rfl, h⟩
      · refine q_catch (pc := 163) C hxt (E := "java/lang/IllegalStateException") (name := "java/lang/IllegalStateException") [] ⟨42, 228, 229, 97⟩ [⟨42, 228, 233, 99⟩] rfl (fun z hz => by cases hz) (by decide) (by decide) (by decide +kernel) 537 (by decide +kernel) (fun q9 => ?_)
        refine q_astore (pc := 229) C 5 [(5, va_rf (some q9)), (4, .int x14), (3, .int x9), (2, .int x4), (0, va_rf l0), (1, .int l1)] dL_isDone_229 (by decide) (by first | rfl | simp [q_cat, q_catI, q_catJ, q_catR, q_catN]) ?_
        refine q_iconst (pc := 231) C 0 dL_isDone_231 (by decide) ?_
        exact q_zretX (pc := 232) C hr hlocks ⟨(by decide), h⟩ dL_isDone_232 (by omega) (by omega)
    · intro x51 M52 h
      refine q_iload_n (pc := 166) C 1 4 dL_isDone_166 rfl rfl ?_
      refine q_iconst (pc := 167) C 3 dL_isDone_167 (by decide) ?_
      refine q_ishr (pc := 168) C dL_isDone_168 ?_
      refine m_stk (st2 := .int (m_shr l1 3) :: _) rfl ?_
      refine q_bipush (pc := 169) C 97 dL_isDone_169 (by decide) ?_
      refine q_ci (pc := 171) (q_rS C (st := [.int x51, .int x4, .int x9, va_rf l0, .int x4, va_rf l0]) (kL_below l G b0 h) (va_cwS 2 C.2.2.2.2.1 gL_isDone_L_below rfl rfl rfl (by decide +kernel) ⟨Nat.le_of_ble_eq_true rfl, Nat.le_of_ble_eq_true rfl⟩) rfl (by first | exact Nat.le_of_ble_eq_true rfl | (simp [q_cat, q_catI, q_catJ, q_catR, q_catN]; done)) rfl dL_isDone_171 ⟨(by first | omega | (dsimp only; omega)), (by first | omega | (dsimp only; omega))⟩) (fun x54 M55 h => ?_)
      obtain ⟨b58, fs9, hb58, hm9, h⟩ := h
      refine q_cXi (pc := 174) (q_rVX C (st := [.int x4, va_rf l0]) (b := b58) (kX8_sing l G b0 (t := 1) hL (fun _ _ _ => Nat.le_refl 1) h) (cwV 4 C.2.2.2.2.1 gL_isDone_X8_sing rfl rfl rfl (by decide +kernel) ⟨Nat.le_of_ble_eq_true rfl, Nat.le_of_ble_eq_true rfl⟩) hm9 rfl rfl rfl (by first | exact Nat.le_of_ble_eq_true rfl | (simp [q_cat, q_catI, q_catJ, q_catR, q_catN]; done)) (by rw [hb58]; first | done | rfl) dL_isDone_174 ⟨(by first | omega | (dsimp only; omega)), (by first | omega | (dsimp only; omega))⟩) ?_ ?_
      · intro E9 M9 h9
        rcases h9 with ⟨rfl, h⟩
        · refine q_catch (pc := 174) C hxt (E := "java/lang/IllegalStateException") (name := "java/lang/IllegalStateException") [] ⟨42, 228, 229, 97⟩ [⟨42, 228, 233, 99⟩] rfl (fun z hz => by cases hz) (by decide) (by decide) (by decide +kernel) 537 (by decide +kernel) (fun q9 => ?_)
          refine q_astore (pc := 229) C 5 [(5, va_rf (some q9)), (4, .int x14), (3, .int x9), (2, .int x4), (0, va_rf l0), (1, .int l1)] dL_isDone_229 (by decide) (by first | rfl | simp [q_cat, q_catI, q_catJ, q_catR, q_catN]) ?_
          refine q_iconst (pc := 231) C 0 dL_isDone_231 (by decide) ?_
          exact q_zretX (pc := 232) C hr hlocks ⟨(by decide), h⟩ dL_isDone_232 (by omega) (by omega)
      · intro x56 M57 h
        obtain ⟨b61, fs9, hb61, hm9, h⟩ := h
        refine q_cXi (pc := 177) (q_rVX C (st := []) (b := b61) (kX8_revoke l G b0 (t := 1) hL (fun _ _ _ => Nat.le_refl 1) h) (cwV 2 C.2.2.2.2.1 gL_isDone_X8_revoke rfl rfl rfl (by decide +kernel) ⟨Nat.le_of_ble_eq_true rfl, Nat.le_of_ble_eq_true rfl⟩) hm9 rfl rfl rfl (by first | exact Nat.le_of_ble_eq_true rfl | (simp [q_cat, q_catI, q_catJ, q_catR, q_catN]; done)) (by rw [hb61]; first | done | rfl) dL_isDone_177 ⟨(by first | omega | (dsimp only; omega)), (by first | omega | (dsimp only; omega))⟩) ?_ ?_
        · intro E9 M9 h9
          rcases h9 with ⟨rfl, h⟩
          · refine q_catch (pc := 177) C hxt (E := "java/lang/IllegalStateException") (name := "java/lang/IllegalStateException") [] ⟨42, 228, 229, 97⟩ [⟨42, 228, 233, 99⟩] rfl (fun z hz => by cases hz) (by decide) (by decide) (by decide +kernel) 537 (by decide +kernel) (fun q9 => ?_)
            refine q_astore (pc := 229) C 5 [(5, va_rf (some q9)), (4, .int x14), (3, .int x9), (2, .int x4), (0, va_rf l0), (1, .int l1)] dL_isDone_229 (by decide) (by first | rfl | simp [q_cat, q_catI, q_catJ, q_catR, q_catN]) ?_
            refine q_iconst (pc := 231) C 0 dL_isDone_231 (by decide) ?_
            exact q_zretX (pc := 232) C hr hlocks ⟨(by decide), h⟩ dL_isDone_232 (by omega) (by omega)
        · intro x59 M60 h
          refine q_pop (pc := 180) C dL_isDone_180 rfl ?_
          refine q_goto (pc := 181) C 227 dL_isDone_181 (by decide) ?_
          refine q_iconst (pc := 227) C 1 dL_isDone_227 (by decide) ?_
          exact q_zretX (pc := 228) C hr hlocks ⟨(by decide), h⟩ dL_isDone_228 (by omega) (by omega)
  have h := h.2 c50
  by_cases c62 : x16 = 9
  · have h := h.1 c62
    refine q_tableIn (pc := 48) C 184 dL_isDone_48 (by rw [c62]; decide) (by rw [c62]; decide) (by rw [c62]; rfl) (by decide) ?_
    refine q_aload_n (pc := 184) C 0 3 dL_isDone_184 rfl rfl ?_
    refine q_iload_n (pc := 185) C 2 2 dL_isDone_185 rfl rfl ?_
    refine q_iload_n (pc := 186) C 1 4 dL_isDone_186 rfl rfl ?_
    refine q_bipush (pc := 187) C 7 dL_isDone_187 (by decide) ?_
    refine q_ishr (pc := 189) C dL_isDone_189 ?_
    refine m_stk (st2 := .int (m_shr l1 7) :: _) rfl ?_
    refine q_bipush (pc := 190) C 11 dL_isDone_190 (by decide) ?_
    refine q_ci (pc := 192) (q_rS C (st := [.int x4, va_rf l0]) (kL_below l G b0 h) (va_cwS 2 C.2.2.2.2.1 gL_isDone_L_below rfl rfl rfl (by decide +kernel) ⟨Nat.le_of_ble_eq_true rfl, Nat.le_of_ble_eq_true rfl⟩) rfl (by first | exact Nat.le_of_ble_eq_true rfl | (simp [q_cat, q_catI, q_catJ, q_catR, q_catN]; done)) rfl dL_isDone_192 ⟨(by first | omega | (dsimp only; omega)), (by first | omega | (dsimp only; omega))⟩) (fun x63 M64 h => ?_)
    obtain ⟨b67, fs9, hb67, hm9, h⟩ := h
    refine q_cXi (pc := 195) (q_rVX C (st := []) (b := b67) (kX8_odds l G b0 (t := 1) hL (fun _ _ _ => Nat.le_refl 1) h) (cwV 2 C.2.2.2.2.1 gL_isDone_X8_odds rfl rfl rfl (by decide +kernel) ⟨Nat.le_of_ble_eq_true rfl, Nat.le_of_ble_eq_true rfl⟩) hm9 rfl rfl rfl (by first | exact Nat.le_of_ble_eq_true rfl | (simp [q_cat, q_catI, q_catJ, q_catR, q_catN]; done)) (by rw [hb67]; first | done | rfl) dL_isDone_195 ⟨(by first | omega | (dsimp only; omega)), (by first | omega | (dsimp only; omega))⟩) ?_ ?_
    · intro E9 M9 h9
      rcases h9 with ⟨rfl, h⟩
      · refine q_catch (pc := 195) C hxt (E := "java/lang/IllegalStateException") (name := "java/lang/IllegalStateException") [] ⟨42, 228, 229, 97⟩ [⟨42, 228, 233, 99⟩] rfl (fun z hz => by cases hz) (by decide) (by decide) (by decide +kernel) 537 (by decide +kernel) (fun q9 => ?_)
        refine q_astore (pc := 229) C 5 [(5, va_rf (some q9)), (4, .int x14), (3, .int x9), (2, .int x4), (0, va_rf l0), (1, .int l1)] dL_isDone_229 (by decide) (by first | rfl | simp [q_cat, q_catI, q_catJ, q_catR, q_catN]) ?_
        refine q_iconst (pc := 231) C 0 dL_isDone_231 (by decide) ?_
        exact q_zretX (pc := 232) C hr hlocks ⟨(by decide), h⟩ dL_isDone_232 (by omega) (by omega)
    · intro x65 M66 h
      refine q_pop (pc := 198) C dL_isDone_198 rfl ?_
      refine q_goto (pc := 199) C 227 dL_isDone_199 (by decide) ?_
      refine q_iconst (pc := 227) C 1 dL_isDone_227 (by decide) ?_
      exact q_zretX (pc := 228) C hr hlocks ⟨(by decide), h⟩ dL_isDone_228 (by omega) (by omega)
  have h := h.2 c62
  by_cases c68 : x16 = 10
  · have h := h.1 c68
    refine q_tableIn (pc := 48) C 202 dL_isDone_48 (by rw [c68]; decide) (by rw [c68]; decide) (by rw [c68]; rfl) (by decide) ?_
    refine q_aload_n (pc := 202) C 0 3 dL_isDone_202 rfl rfl ?_
    refine q_iconst (pc := 203) C 1 dL_isDone_203 (by decide) ?_
    refine q_iload_n (pc := 204) C 1 4 dL_isDone_204 rfl rfl ?_
    refine q_iconst (pc := 205) C 4 dL_isDone_205 (by decide) ?_
    refine q_ishr (pc := 206) C dL_isDone_206 ?_
    refine m_stk (st2 := .int (m_shr l1 4) :: _) rfl ?_
    refine q_bipush (pc := 207) C 7 dL_isDone_207 (by decide) ?_
    refine q_ci (pc := 209) (q_rS C (st := [.int 1, va_rf l0]) (kL_below l G b0 h) (va_cwS 2 C.2.2.2.2.1 gL_isDone_L_below rfl rfl rfl (by decide +kernel) ⟨Nat.le_of_ble_eq_true rfl, Nat.le_of_ble_eq_true rfl⟩) rfl (by first | exact Nat.le_of_ble_eq_true rfl | (simp [q_cat, q_catI, q_catJ, q_catR, q_catN]; done)) rfl dL_isDone_209 ⟨(by first | omega | (dsimp only; omega)), (by first | omega | (dsimp only; omega))⟩) (fun x69 M70 h => ?_)
    refine q_iadd (pc := 212) C dL_isDone_212 ?_
    obtain ⟨b73, fs9, hb73, hm9, h⟩ := h
    refine q_cXi (pc := 213) (q_rVX C (st := []) (b := b73) (kX8_pass l G b0 (t := 1) hL (fun _ _ _ => Nat.le_refl 1) h) (cwV 1 C.2.2.2.2.1 gL_isDone_X8_pass rfl rfl rfl (by decide +kernel) ⟨Nat.le_of_ble_eq_true rfl, Nat.le_of_ble_eq_true rfl⟩) hm9 rfl rfl rfl (by first | exact Nat.le_of_ble_eq_true rfl | (simp [q_cat, q_catI, q_catJ, q_catR, q_catN]; done)) (by rw [hb73]; first | done | rfl) dL_isDone_213 ⟨(by first | omega | (dsimp only; omega)), (by first | omega | (dsimp only; omega))⟩) ?_ ?_
    · intro E9 M9 h9
      rcases h9 with ⟨rfl, h⟩
      · refine q_catch (pc := 213) C hxt (E := "java/lang/IllegalStateException") (name := "java/lang/IllegalStateException") [] ⟨42, 228, 229, 97⟩ [⟨42, 228, 233, 99⟩] rfl (fun z hz => by cases hz) (by decide) (by decide) (by decide +kernel) 537 (by decide +kernel) (fun q9 => ?_)
        refine q_astore (pc := 229) C 5 [(5, va_rf (some q9)), (4, .int x14), (3, .int x9), (2, .int x4), (0, va_rf l0), (1, .int l1)] dL_isDone_229 (by decide) (by first | rfl | simp [q_cat, q_catI, q_catJ, q_catR, q_catN]) ?_
        refine q_iconst (pc := 231) C 0 dL_isDone_231 (by decide) ?_
        exact q_zretX (pc := 232) C hr hlocks ⟨(by decide), h⟩ dL_isDone_232 (by omega) (by omega)
    · intro x71 M72 h
      refine q_pop (pc := 216) C dL_isDone_216 rfl ?_
      refine q_goto (pc := 217) C 227 dL_isDone_217 (by decide) ?_
      refine q_iconst (pc := 227) C 1 dL_isDone_227 (by decide) ?_
      exact q_zretX (pc := 228) C hr hlocks ⟨(by decide), h⟩ dL_isDone_228 (by omega) (by omega)
  have h := h.2 c68
  refine q_tableOut (pc := 48) C 220 dL_isDone_48 ?_ (by decide) ?_
  · have hsw := m_sw (x := x16) 0 11 (fun j hj => by
      rcases (show j = 0 ∨ j = 1 ∨ j = 2 ∨ j = 3 ∨ j = 4 ∨ j = 5 ∨ j = 6 ∨ j = 7 ∨ j = 8 ∨ j = 9 ∨ j = 10 by omega) with rfl | rfl | rfl | rfl | rfl | rfl | rfl | rfl | rfl | rfl | rfl
      · exact c18
      · exact c22
      · exact c26
      · exact c30
      · exact c34
      · exact c38
      · exact c42
      · exact c46
      · exact c50
      · exact c62
      · exact c68
      ) (by decide)
    rcases hsw with q9 | q9
    · exact Or.inl (by simpa using q9)
    · exact Or.inr (by simp at q9 ⊢; omega)
  refine q_aload_n (pc := 220) C 0 3 dL_isDone_220 rfl rfl ?_
  refine q_iload_n (pc := 221) C 1 4 dL_isDone_221 rfl rfl ?_
  refine q_iconst (pc := 222) C 4 dL_isDone_222 (by decide) ?_
  refine q_ishr (pc := 223) C dL_isDone_223 ?_
  refine m_stk (st2 := .int (m_shr l1 4) :: _) rfl ?_
  refine q_cv (pc := 224) (q_rS C (st := []) (kL_come l G b0 hL hg h) (va_cwS 2 C.2.2.2.2.1 gL_isDone_L_come rfl rfl rfl (by decide +kernel) ⟨Nat.le_of_ble_eq_true rfl, Nat.le_of_ble_eq_true rfl⟩) rfl (by first | exact Nat.le_of_ble_eq_true rfl | (simp [q_cat, q_catI, q_catJ, q_catR, q_catN]; done)) rfl dL_isDone_224 ⟨(by first | omega | (dsimp only; omega)), (by first | omega | (dsimp only; omega))⟩) (fun M74 h => ?_)
  refine q_iconst (pc := 227) C 1 dL_isDone_227 (by decide) ?_
  exact q_zretX (pc := 228) C hr hlocks ⟨(by decide), h⟩ dL_isDone_228 (by omega) (by omega)
set_option maxRecDepth 100000 in
set_option maxHeartbeats 4000000 in
theorem kL_isDone (l : Launch) (G : mG) (b0 : Nat) (hL : l.stackTraces = false) {g : Nat → Nat} (hg : G.2.2 = g) {l0 : Option Nat} {l1 : Int32} {M : mM} {κ : Int32 → mM → Prop} (h : wL_isDone g κ l0 l1 M) : Met l yL_isDone wsL_isDone ({ frames := 11, cells := 53, slots := 1278, locals := 270 } : Room) (va_Pc [va_rf l0, .int l1] (m_PreN G b0 M)) (va_Qi κ (m_B G b0) (fun q => b0 ≤ q)) 53 1278 (fun q => b0 ≤ q) := by
  refine m_metH (hh := [(42, 228, 229, 97), (42, 228, 233, 99)]) (cc := cL_isDone) (maxL := 6) (ret := (some .boolean)) (lv := [(0, va_rf l0), (1, .int l1)]) RL rfl (by decide +kernel) rfl (by first | exact Nat.le_of_ble_eq_true rfl | simp [lg_sl, q_cat, q_catI, q_catJ, q_catR, q_catN]) (by first | rfl | (simp [lv_args, q_cat, q_catI, q_catJ, q_catR, q_catN]; done) | (simp [lv_args, q_cat, q_catI, q_catJ, q_catR, q_catN]; rfl)) ?_
  intro p e s m args below meth c C hN hr hlocks hxt
  exact tL_isDone C hr hlocks hL hN hxt hg h
/-! L_isSo -/
set_option maxRecDepth 100000 in
set_option maxHeartbeats 4000000 in
theorem tL_isSo_459 {p : Program} {l : Launch} {e : Env} {s : State} {m : MethodId} {args : Array Value} {below : List Frame} {meth : Method} {c : Code} {G : mG} {b0 : Nat} (C : m_C p s m args c cL_isSo 8 RL wsL_isSo G b0) (hr : meth.sig.returnType = (some .boolean)) (hlocks : meth.locks = false) (hL : l.stackTraces = false) {κ : Int32 → mM → Prop} {R425 : Option Nat → Int32 → Int32 → Int32 → Int32 → Int32 → mM → Prop} (hR425 : ∀ (l0 : Option Nat) (l1 : Int32) (l2 : Int32) (l3 : Int32) (l4 : Int32) (l5 : Int32) (M : mM), R425 l0 l1 l2 l3 l4 l5 M → m_W p l e ({ frames := 8, cells := 0, slots := 0, locals := 135 } : Room) s m args below meth c G b0 (MQ below (va_Qi κ (m_B G b0) (fun q => b0 ≤ q)) args s 0 0 (fun q => b0 ≤ q)) 8 M 0 0 425 [(0, va_rf l0), (1, .int l1), (2, .int l2), (3, .int l3), (4, .int l4), (5, .int l5)] []) {l0 : Option Nat} {l1 : Int32} {l2 : Int32} {l3 : Int32} {l5 : Int32} {s0 : Int32} {s1 : Int32} {M : mM} (h : wL_isSo_459 κ R425 l0 l1 l2 l3 l5 s0 s1 M) : m_W p l e ({ frames := 8, cells := 0, slots := 0, locals := 135 } : Room) s m args below meth c G b0 (MQ below (va_Qi κ (m_B G b0) (fun q => b0 ≤ q)) args s 0 0 (fun q => b0 ≤ q)) 8 M 0 0 459 [(0, va_rf l0), (1, .int l1), (2, .int l2), (3, .int l3), (5, .int l5)] [.int s0, .int s1] := by
  unfold wL_isSo_459 at h
  refine q_iadd (pc := 459) C dL_isSo_459 ?_
  refine q_istore (pc := 460) C 4 [(4, .int (s1 + s0)), (0, va_rf l0), (1, .int l1), (2, .int l2), (3, .int l3), (5, .int l5)] dL_isSo_460 (by decide) (by first | rfl | simp [q_cat, q_catI, q_catJ, q_catR, q_catN]) ?_
  refine q_iinc (pc := 462) C 5 5 (l5 + 1) [(5, .int (l5 + 1)), (4, .int (s1 + s0)), (0, va_rf l0), (1, .int l1), (2, .int l2), (3, .int l3)] dL_isSo_462 rfl (by rfl) (by decide) (by first | rfl | simp [q_cat, q_catI, q_catJ, q_catR, q_catN]) ?_
  refine q_goto (pc := 465) C 425 dL_isSo_465 (by decide) ?_
  refine q_widen (k2 := 0) (n2 := 0) (by omega) (by omega) ?_
  refine q_lv [2, 3, 4, 5, 1, 0] rfl ?_
  exact hR425 _ _ _ _ _ _ _ h
set_option maxRecDepth 100000 in
set_option maxHeartbeats 4000000 in
theorem tL_isSo_425 {p : Program} {l : Launch} {e : Env} {s : State} {m : MethodId} {args : Array Value} {below : List Frame} {meth : Method} {c : Code} {G : mG} {b0 : Nat} (C : m_C p s m args c cL_isSo 8 RL wsL_isSo G b0) (hr : meth.sig.returnType = (some .boolean)) (hlocks : meth.locks = false) (hL : l.stackTraces = false) {κ : Int32 → mM → Prop} : ∀ (f : Nat) (l0 : Option Nat) (l1 : Int32) (l2 : Int32) (l3 : Int32) (l4 : Int32) (l5 : Int32) (M : mM), wL_isSo_425 κ f l0 l1 l2 l3 l4 l5 M → m_W p l e ({ frames := 8, cells := 0, slots := 0, locals := 135 } : Room) s m args below meth c G b0 (MQ below (va_Qi κ (m_B G b0) (fun q => b0 ≤ q)) args s 0 0 (fun q => b0 ≤ q)) 8 M 0 0 425 [(0, va_rf l0), (1, .int l1), (2, .int l2), (3, .int l3), (4, .int l4), (5, .int l5)] [] := by
  intro f
  induction f with
  | zero =>
    intro l0 l1 l2 l3 l4 l5 M h
    exact absurd h (by simp [wL_isSo_425])
  | succ f ih =>
    intro l0 l1 l2 l3 l4 l5 M h
    rw [wL_isSo_425] at h
    refine q_iload (pc := 425) C 5 5 dL_isSo_425 rfl ?_
    refine q_aload_n (pc := 427) C 0 0 dL_isSo_427 rfl rfl ?_
    refine q_iconst (pc := 428) C 5 dL_isSo_428 (by decide) ?_
    obtain ⟨b3, fs9, hb3, hm9, h⟩ := h
    refine q_cXi (pc := 429) (q_rVX C (st := [.int l5]) (b := b3) (kX8_night l G b0 (t := 0) hL (fun _ _ h9 => h9.elim) h) (cwV 1 C.2.2.2.2.1 gL_isSo_X8_night rfl rfl rfl (by decide +kernel) ⟨Nat.le_of_ble_eq_true rfl, Nat.le_of_ble_eq_true rfl⟩) hm9 rfl rfl rfl (by first | exact Nat.le_of_ble_eq_true rfl | (simp [q_cat, q_catI, q_catJ, q_catR, q_catN]; done)) (by rw [hb3]; first | done | rfl) dL_isSo_429 ⟨(by first | omega | (dsimp only; omega)), (by first | omega | (dsimp only; omega))⟩) (fun E9 M9 h9 => h9.elim) (fun x1 M2 h => ?_)
    refine q_icmp_ge (pc := 432) C 468 dL_isSo_432 (by decide) (fun c4 => ?_) (fun c4 => ?_)
    · have h := h.1 c4
      refine q_iload_n (pc := 468) C 1 1 dL_isSo_468 rfl rfl ?_
      refine q_bipush (pc := 469) C 30 dL_isSo_469 (by decide) ?_
      refine q_icmp_ne (pc := 471) C 514 dL_isSo_471 (by decide) (fun c5 => ?_) (fun c5 => ?_)
      · have h := h.2 c5
        refine q_iconst (pc := 514) C 0 dL_isSo_514 (by decide) ?_
        exact q_zret (pc := 515) C hr hlocks ⟨(by decide), h⟩ dL_isSo_515 (by omega) (by omega)
      · have h := h.1 c5
        refine q_iload_n (pc := 474) C 2 2 dL_isSo_474 rfl rfl ?_
        refine q_if_ne (pc := 475) C 514 dL_isSo_475 (by decide) (fun c6 => ?_) (fun c6 => ?_)
        · have h := h.2 c6
          refine q_iconst (pc := 514) C 0 dL_isSo_514 (by decide) ?_
          exact q_zret (pc := 515) C hr hlocks ⟨(by decide), h⟩ dL_isSo_515 (by omega) (by omega)
        · have h := h.1 c6
          refine q_iload_n (pc := 478) C 3 3 dL_isSo_478 rfl rfl ?_
          refine q_aload_n (pc := 479) C 0 0 dL_isSo_479 rfl rfl ?_
          refine q_bipush (pc := 480) C 12 dL_isSo_480 (by decide) ?_
          obtain ⟨b9, fs9, hb9, hm9, h⟩ := h
          refine q_cXi (pc := 482) (q_rVX C (st := [.int l3]) (b := b9) (kX8_night l G b0 (t := 0) hL (fun _ _ h9 => h9.elim) h) (cwV 1 C.2.2.2.2.1 gL_isSo_X8_night rfl rfl rfl (by decide +kernel) ⟨Nat.le_of_ble_eq_true rfl, Nat.le_of_ble_eq_true rfl⟩) hm9 rfl rfl rfl (by first | exact Nat.le_of_ble_eq_true rfl | (simp [q_cat, q_catI, q_catJ, q_catR, q_catN]; done)) (by rw [hb9]; first | done | rfl) dL_isSo_482 ⟨(by first | omega | (dsimp only; omega)), (by first | omega | (dsimp only; omega))⟩) (fun E9 M9 h9 => h9.elim) (fun x7 M8 h => ?_)
          refine q_icmp_ne (pc := 485) C 514 dL_isSo_485 (by decide) (fun c10 => ?_) (fun c10 => ?_)
          · have h := h.2 c10
            refine q_iconst (pc := 514) C 0 dL_isSo_514 (by decide) ?_
            exact q_zret (pc := 515) C hr hlocks ⟨(by decide), h⟩ dL_isSo_515 (by omega) (by omega)
          · have h := h.1 c10
            refine q_aload_n (pc := 488) C 0 0 dL_isSo_488 rfl rfl ?_
            refine q_bipush (pc := 489) C 12 dL_isSo_489 (by decide) ?_
            obtain ⟨b13, fs9, hb13, hm9, h⟩ := h
            refine q_cXi (pc := 491) (q_rVX C (st := []) (b := b13) (kX8_night l G b0 (t := 0) hL (fun _ _ h9 => h9.elim) h) (cwV 1 C.2.2.2.2.1 gL_isSo_X8_night rfl rfl rfl (by decide +kernel) ⟨Nat.le_of_ble_eq_true rfl, Nat.le_of_ble_eq_true rfl⟩) hm9 rfl rfl rfl (by first | exact Nat.le_of_ble_eq_true rfl | (simp [q_cat, q_catI, q_catJ, q_catR, q_catN]; done)) (by rw [hb13]; first | done | rfl) dL_isSo_491 ⟨(by first | omega | (dsimp only; omega)), (by first | omega | (dsimp only; omega))⟩) (fun E9 M9 h9 => h9.elim) (fun x11 M12 h => ?_)
            refine q_bipush (pc := 494) C 40 dL_isSo_494 (by decide) ?_
            refine q_icmp_gt (pc := 496) C 514 dL_isSo_496 (by decide) (fun c14 => ?_) (fun c14 => ?_)
            · have h := h.1 c14
              refine q_iconst (pc := 514) C 0 dL_isSo_514 (by decide) ?_
              exact q_zret (pc := 515) C hr hlocks ⟨(by decide), h⟩ dL_isSo_515 (by omega) (by omega)
            · have h := h.2 c14
              refine q_aload_n (pc := 499) C 0 0 dL_isSo_499 rfl rfl ?_
              refine q_bipush (pc := 500) C 16 dL_isSo_500 (by decide) ?_
              obtain ⟨b17, fs9, hb17, hm9, h⟩ := h
              refine q_cXi (pc := 502) (q_rVX C (st := []) (b := b17) (kX8_night l G b0 (t := 0) hL (fun _ _ h9 => h9.elim) h) (cwV 1 C.2.2.2.2.1 gL_isSo_X8_night rfl rfl rfl (by decide +kernel) ⟨Nat.le_of_ble_eq_true rfl, Nat.le_of_ble_eq_true rfl⟩) hm9 rfl rfl rfl (by first | exact Nat.le_of_ble_eq_true rfl | (simp [q_cat, q_catI, q_catJ, q_catR, q_catN]; done)) (by rw [hb17]; first | done | rfl) dL_isSo_502 ⟨(by first | omega | (dsimp only; omega)), (by first | omega | (dsimp only; omega))⟩) (fun E9 M9 h9 => h9.elim) (fun x15 M16 h => ?_)
              refine q_iload (pc := 505) C 4 4 dL_isSo_505 rfl ?_
              refine q_icmp_ne (pc := 507) C 514 dL_isSo_507 (by decide) (fun c18 => ?_) (fun c18 => ?_)
              · have h := h.2 c18
                refine q_iconst (pc := 514) C 0 dL_isSo_514 (by decide) ?_
                exact q_zret (pc := 515) C hr hlocks ⟨(by decide), h⟩ dL_isSo_515 (by omega) (by omega)
              · have h := h.1 c18
                refine q_iconst (pc := 510) C 1 dL_isSo_510 (by decide) ?_
                refine q_goto (pc := 511) C 515 dL_isSo_511 (by decide) ?_
                exact q_zret (pc := 515) C hr hlocks ⟨(by decide), h⟩ dL_isSo_515 (by omega) (by omega)
    · have h := h.2 c4
      refine q_iload (pc := 435) C 4 4 dL_isSo_435 rfl ?_
      refine q_aload_n (pc := 437) C 0 0 dL_isSo_437 rfl rfl ?_
      refine q_iload (pc := 438) C 5 5 dL_isSo_438 rfl ?_
      refine q_iconst (pc := 440) C 3 dL_isSo_440 (by decide) ?_
      obtain ⟨b21, fs9, hb21, hm9, h⟩ := h
      refine q_cXi (pc := 441) (q_rVX C (st := [.int l4]) (b := b21) (kX8_ofPart l G b0 (t := 0) hL (fun _ _ h9 => h9.elim) h) (cwV 2 C.2.2.2.2.1 gL_isSo_X8_ofPart rfl rfl rfl (by decide +kernel) ⟨Nat.le_of_ble_eq_true rfl, Nat.le_of_ble_eq_true rfl⟩) hm9 rfl rfl rfl (by first | exact Nat.le_of_ble_eq_true rfl | (simp [q_cat, q_catI, q_catJ, q_catR, q_catN]; done)) (by rw [hb21]; first | done | rfl) dL_isSo_441 ⟨(by first | omega | (dsimp only; omega)), (by first | omega | (dsimp only; omega))⟩) (fun E9 M9 h9 => h9.elim) (fun x19 M20 h => ?_)
      refine q_iconst (pc := 444) C 3 dL_isSo_444 (by decide) ?_
      refine q_icmp_ne (pc := 445) C 458 dL_isSo_445 (by decide) (fun c22 => ?_) (fun c22 => ?_)
      · have h := h.2 c22
        refine q_iconst (pc := 458) C 0 dL_isSo_458 (by decide) ?_
        refine q_widen (k2 := 0) (n2 := 0) (by omega) (by omega) ?_
        refine q_lv [0, 1, 2, 3, 5] rfl ?_
        exact tL_isSo_459 C hr hlocks hL ih h
      · have h := h.1 c22
        refine q_aload_n (pc := 448) C 0 0 dL_isSo_448 rfl rfl ?_
        refine q_iload (pc := 449) C 5 5 dL_isSo_449 rfl ?_
        refine q_iconst (pc := 451) C 1 dL_isSo_451 (by decide) ?_
        obtain ⟨b25, fs9, hb25, hm9, h⟩ := h
        refine q_cXi (pc := 452) (q_rVX C (st := [.int l4]) (b := b25) (kX8_ofPart l G b0 (t := 0) hL (fun _ _ h9 => h9.elim) h) (cwV 2 C.2.2.2.2.1 gL_isSo_X8_ofPart rfl rfl rfl (by decide +kernel) ⟨Nat.le_of_ble_eq_true rfl, Nat.le_of_ble_eq_true rfl⟩) hm9 rfl rfl rfl (by first | exact Nat.le_of_ble_eq_true rfl | (simp [q_cat, q_catI, q_catJ, q_catR, q_catN]; done)) (by rw [hb25]; first | done | rfl) dL_isSo_452 ⟨(by first | omega | (dsimp only; omega)), (by first | omega | (dsimp only; omega))⟩) (fun E9 M9 h9 => h9.elim) (fun x23 M24 h => ?_)
        refine q_goto (pc := 455) C 459 dL_isSo_455 (by decide) ?_
        refine q_widen (k2 := 0) (n2 := 0) (by omega) (by omega) ?_
        refine q_lv [0, 1, 2, 3, 5] rfl ?_
        exact tL_isSo_459 C hr hlocks hL ih h
set_option maxRecDepth 100000 in
set_option maxHeartbeats 4000000 in
theorem tL_isSo_366 {p : Program} {l : Launch} {e : Env} {s : State} {m : MethodId} {args : Array Value} {below : List Frame} {meth : Method} {c : Code} {G : mG} {b0 : Nat} (C : m_C p s m args c cL_isSo 8 RL wsL_isSo G b0) (hr : meth.sig.returnType = (some .boolean)) (hlocks : meth.locks = false) (hL : l.stackTraces = false) {κ : Int32 → mM → Prop} {R213 : Option Nat → Int32 → Int32 → Int32 → Int32 → mM → Prop} (hR213 : ∀ (l0 : Option Nat) (l1 : Int32) (l2 : Int32) (l3 : Int32) (l4 : Int32) (M : mM), R213 l0 l1 l2 l3 l4 M → m_W p l e ({ frames := 8, cells := 0, slots := 0, locals := 135 } : Room) s m args below meth c G b0 (MQ below (va_Qi κ (m_B G b0) (fun q => b0 ≤ q)) args s 0 0 (fun q => b0 ≤ q)) 8 M 0 0 213 [(0, va_rf l0), (1, .int l1), (2, .int l2), (3, .int l3), (4, .int l4)] []) : ∀ (f : Nat) (l0 : Option Nat) (l1 : Int32) (l2 : Int32) (l3 : Int32) (l4 : Int32) (l7 : Int32) (M : mM), wL_isSo_366 κ R213 f l0 l1 l2 l3 l4 l7 M → m_W p l e ({ frames := 8, cells := 0, slots := 0, locals := 135 } : Room) s m args below meth c G b0 (MQ below (va_Qi κ (m_B G b0) (fun q => b0 ≤ q)) args s 0 0 (fun q => b0 ≤ q)) 8 M 0 0 366 [(0, va_rf l0), (1, .int l1), (2, .int l2), (3, .int l3), (4, .int l4), (7, .int l7)] [] := by
  intro f
  induction f with
  | zero =>
    intro l0 l1 l2 l3 l4 l7 M h
    exact absurd h (by simp [wL_isSo_366])
  | succ f ih =>
    intro l0 l1 l2 l3 l4 l7 M h
    rw [wL_isSo_366] at h
    refine q_iload (pc := 366) C 7 5 dL_isSo_366 rfl ?_
    refine q_aload_n (pc := 368) C 0 0 dL_isSo_368 rfl rfl ?_
    refine q_iconst (pc := 369) C 3 dL_isSo_369 (by decide) ?_
    obtain ⟨b3, fs9, hb3, hm9, h⟩ := h
    refine q_cXi (pc := 370) (q_rVX C (st := [.int l7]) (b := b3) (kX8_night l G b0 (t := 0) hL (fun _ _ h9 => h9.elim) h) (cwV 1 C.2.2.2.2.1 gL_isSo_X8_night rfl rfl rfl (by decide +kernel) ⟨Nat.le_of_ble_eq_true rfl, Nat.le_of_ble_eq_true rfl⟩) hm9 rfl rfl rfl (by first | exact Nat.le_of_ble_eq_true rfl | (simp [q_cat, q_catI, q_catJ, q_catR, q_catN]; done)) (by rw [hb3]; first | done | rfl) dL_isSo_370 ⟨(by first | omega | (dsimp only; omega)), (by first | omega | (dsimp only; omega))⟩) (fun E9 M9 h9 => h9.elim) (fun x1 M2 h => ?_)
    refine q_icmp_ge (pc := 373) C 413 dL_isSo_373 (by decide) (fun c4 => ?_) (fun c4 => ?_)
    · have h := h.1 c4
      refine q_iinc (pc := 413) C 4 4 (l4 + 1) [(4, .int (l4 + 1)), (0, va_rf l0), (1, .int l1), (2, .int l2), (3, .int l3), (7, .int l7)] dL_isSo_413 rfl (by rfl) (by decide) (by first | rfl | simp [q_cat, q_catI, q_catJ, q_catR, q_catN]) ?_
      refine q_goto (pc := 416) C 213 dL_isSo_416 (by decide) ?_
      refine q_widen (k2 := 0) (n2 := 0) (by omega) (by omega) ?_
      refine q_lv [1, 2, 3, 4, 0] rfl ?_
      exact hR213 _ _ _ _ _ _ h
    · have h := h.2 c4
      refine q_aload_n (pc := 376) C 0 0 dL_isSo_376 rfl rfl ?_
      refine q_iload (pc := 377) C 4 4 dL_isSo_377 rfl ?_
      refine q_bipush (pc := 379) C 7 dL_isSo_379 (by decide) ?_
      obtain ⟨b7, fs9, hb7, hm9, h⟩ := h
      refine q_cXi (pc := 381) (q_rVX C (st := []) (b := b7) (kX8_ofSleeper l G b0 (t := 0) hL (fun _ _ h9 => h9.elim) h) (cwV 2 C.2.2.2.2.1 gL_isSo_X8_ofSleeper rfl rfl rfl (by decide +kernel) ⟨Nat.le_of_ble_eq_true rfl, Nat.le_of_ble_eq_true rfl⟩) hm9 rfl rfl rfl (by first | exact Nat.le_of_ble_eq_true rfl | (simp [q_cat, q_catI, q_catJ, q_catR, q_catN]; done)) (by rw [hb7]; first | done | rfl) dL_isSo_381 ⟨(by first | omega | (dsimp only; omega)), (by first | omega | (dsimp only; omega))⟩) (fun E9 M9 h9 => h9.elim) (fun x5 M6 h => ?_)
      refine q_iload (pc := 384) C 7 5 dL_isSo_384 rfl ?_
      refine q_ishr (pc := 386) C dL_isSo_386 ?_
      refine m_stk (st2 := .int (m_shr x5 l7) :: _) rfl ?_
      refine q_iconst (pc := 387) C 1 dL_isSo_387 (by decide) ?_
      refine q_iand (pc := 388) C dL_isSo_388 ?_
      refine q_aload_n (pc := 389) C 0 0 dL_isSo_389 rfl rfl ?_
      refine q_iload (pc := 390) C 7 5 dL_isSo_390 rfl ?_
      refine q_bipush (pc := 392) C 7 dL_isSo_392 (by decide) ?_
      obtain ⟨b10, fs9, hb10, hm9, h⟩ := h
      refine q_cXi (pc := 394) (q_rVX C (st := [.int ((m_shr x5 l7) &&& 1)]) (b := b10) (kX8_ofSleeper l G b0 (t := 0) hL (fun _ _ h9 => h9.elim) h) (cwV 2 C.2.2.2.2.1 gL_isSo_X8_ofSleeper rfl rfl rfl (by decide +kernel) ⟨Nat.le_of_ble_eq_true rfl, Nat.le_of_ble_eq_true rfl⟩) hm9 rfl rfl rfl (by first | exact Nat.le_of_ble_eq_true rfl | (simp [q_cat, q_catI, q_catJ, q_catR, q_catN]; done)) (by rw [hb10]; first | done | rfl) dL_isSo_394 ⟨(by first | omega | (dsimp only; omega)), (by first | omega | (dsimp only; omega))⟩) (fun E9 M9 h9 => h9.elim) (fun x8 M9 h => ?_)
      refine q_iload (pc := 397) C 4 4 dL_isSo_397 rfl ?_
      refine q_ishr (pc := 399) C dL_isSo_399 ?_
      refine m_stk (st2 := .int (m_shr x8 l4) :: _) rfl ?_
      refine q_iconst (pc := 400) C 1 dL_isSo_400 (by decide) ?_
      refine q_iand (pc := 401) C dL_isSo_401 ?_
      refine q_icmp_eq (pc := 402) C 407 dL_isSo_402 (by decide) (fun c11 => ?_) (fun c11 => ?_)
      · have h := h.1 c11
        refine q_iinc (pc := 407) C 7 5 (l7 + 1) [(7, .int (l7 + 1)), (0, va_rf l0), (1, .int l1), (2, .int l2), (3, .int l3), (4, .int l4)] dL_isSo_407 rfl (by rfl) (by decide) (by first | rfl | simp [q_cat, q_catI, q_catJ, q_catR, q_catN]) ?_
        refine q_goto (pc := 410) C 366 dL_isSo_410 (by decide) ?_
        refine q_widen (k2 := 0) (n2 := 0) (by omega) (by omega) ?_
        refine q_lv [1, 2, 3, 4, 5, 0] rfl ?_
        exact ih _ _ _ _ _ _ _ h
      · have h := h.2 c11
        refine q_iconst (pc := 405) C 0 dL_isSo_405 (by decide) ?_
        exact q_zret (pc := 406) C hr hlocks ⟨(by decide), h⟩ dL_isSo_406 (by omega) (by omega)
set_option maxRecDepth 100000 in
set_option maxHeartbeats 4000000 in
theorem tL_isSo_323 {p : Program} {l : Launch} {e : Env} {s : State} {m : MethodId} {args : Array Value} {below : List Frame} {meth : Method} {c : Code} {G : mG} {b0 : Nat} (C : m_C p s m args c cL_isSo 8 RL wsL_isSo G b0) (hr : meth.sig.returnType = (some .boolean)) (hlocks : meth.locks = false) (hL : l.stackTraces = false) {κ : Int32 → mM → Prop} {R213 : Option Nat → Int32 → Int32 → Int32 → Int32 → mM → Prop} (hR213 : ∀ (l0 : Option Nat) (l1 : Int32) (l2 : Int32) (l3 : Int32) (l4 : Int32) (M : mM), R213 l0 l1 l2 l3 l4 M → m_W p l e ({ frames := 8, cells := 0, slots := 0, locals := 135 } : Room) s m args below meth c G b0 (MQ below (va_Qi κ (m_B G b0) (fun q => b0 ≤ q)) args s 0 0 (fun q => b0 ≤ q)) 8 M 0 0 213 [(0, va_rf l0), (1, .int l1), (2, .int l2), (3, .int l3), (4, .int l4)] []) {l0 : Option Nat} {l1 : Int32} {l2 : Int32} {l3 : Int32} {l4 : Int32} {M : mM} (h : wL_isSo_323 κ R213 l0 l1 l2 l3 l4 M) : m_W p l e ({ frames := 8, cells := 0, slots := 0, locals := 135 } : Room) s m args below meth c G b0 (MQ below (va_Qi κ (m_B G b0) (fun q => b0 ≤ q)) args s 0 0 (fun q => b0 ≤ q)) 8 M 0 0 323 [(0, va_rf l0), (1, .int l1), (2, .int l2), (3, .int l3), (4, .int l4)] [] := by
  unfold wL_isSo_323 at h
  refine q_aload_n (pc := 323) C 0 0 dL_isSo_323 rfl rfl ?_
  refine q_iload (pc := 324) C 4 4 dL_isSo_324 rfl ?_
  refine q_bipush (pc := 326) C 7 dL_isSo_326 (by decide) ?_
  obtain ⟨b3, fs9, hb3, hm9, h⟩ := h
  refine q_cXi (pc := 328) (q_rVX C (st := []) (b := b3) (kX8_ofSleeper l G b0 (t := 0) hL (fun _ _ h9 => h9.elim) h) (cwV 2 C.2.2.2.2.1 gL_isSo_X8_ofSleeper rfl rfl rfl (by decide +kernel) ⟨Nat.le_of_ble_eq_true rfl, Nat.le_of_ble_eq_true rfl⟩) hm9 rfl rfl rfl (by first | exact Nat.le_of_ble_eq_true rfl | (simp [q_cat, q_catI, q_catJ, q_catR, q_catN]; done)) (by rw [hb3]; first | done | rfl) dL_isSo_328 ⟨(by first | omega | (dsimp only; omega)), (by first | omega | (dsimp only; omega))⟩) (fun E9 M9 h9 => h9.elim) (fun x1 M2 h => ?_)
  refine q_iload (pc := 331) C 4 4 dL_isSo_331 rfl ?_
  refine q_ishr (pc := 333) C dL_isSo_333 ?_
  refine m_stk (st2 := .int (m_shr x1 l4) :: _) rfl ?_
  refine q_iconst (pc := 334) C 1 dL_isSo_334 (by decide) ?_
  refine q_iand (pc := 335) C dL_isSo_335 ?_
  refine q_if_eq (pc := 336) C 361 dL_isSo_336 (by decide) (fun c4 => ?_) (fun c4 => ?_)
  · have h := h.1 c4
    refine q_iconst (pc := 361) C 0 dL_isSo_361 (by decide) ?_
    exact q_zret (pc := 362) C hr hlocks ⟨(by decide), h⟩ dL_isSo_362 (by omega) (by omega)
  · have h := h.2 c4
    refine q_aload_n (pc := 339) C 0 0 dL_isSo_339 rfl rfl ?_
    refine q_iload (pc := 340) C 4 4 dL_isSo_340 rfl ?_
    refine q_iconst (pc := 342) C 1 dL_isSo_342 (by decide) ?_
    obtain ⟨b7, fs9, hb7, hm9, h⟩ := h
    refine q_cXi (pc := 343) (q_rVX C (st := []) (b := b7) (kX8_ofSleeper l G b0 (t := 0) hL (fun _ _ h9 => h9.elim) h) (cwV 2 C.2.2.2.2.1 gL_isSo_X8_ofSleeper rfl rfl rfl (by decide +kernel) ⟨Nat.le_of_ble_eq_true rfl, Nat.le_of_ble_eq_true rfl⟩) hm9 rfl rfl rfl (by first | exact Nat.le_of_ble_eq_true rfl | (simp [q_cat, q_catI, q_catJ, q_catR, q_catN]; done)) (by rw [hb7]; first | done | rfl) dL_isSo_343 ⟨(by first | omega | (dsimp only; omega)), (by first | omega | (dsimp only; omega))⟩) (fun E9 M9 h9 => h9.elim) (fun x5 M6 h => ?_)
    refine q_if_lt (pc := 346) C 361 dL_isSo_346 (by decide) (fun c8 => ?_) (fun c8 => ?_)
    · have h := h.1 c8
      refine q_iconst (pc := 361) C 0 dL_isSo_361 (by decide) ?_
      exact q_zret (pc := 362) C hr hlocks ⟨(by decide), h⟩ dL_isSo_362 (by omega) (by omega)
    · have h := h.2 c8
      refine q_aload_n (pc := 349) C 0 0 dL_isSo_349 rfl rfl ?_
      refine q_iload (pc := 350) C 4 4 dL_isSo_350 rfl ?_
      refine q_iconst (pc := 352) C 1 dL_isSo_352 (by decide) ?_
      obtain ⟨b11, fs9, hb11, hm9, h⟩ := h
      refine q_cXi (pc := 353) (q_rVX C (st := []) (b := b11) (kX8_ofSleeper l G b0 (t := 0) hL (fun _ _ h9 => h9.elim) h) (cwV 2 C.2.2.2.2.1 gL_isSo_X8_ofSleeper rfl rfl rfl (by decide +kernel) ⟨Nat.le_of_ble_eq_true rfl, Nat.le_of_ble_eq_true rfl⟩) hm9 rfl rfl rfl (by first | exact Nat.le_of_ble_eq_true rfl | (simp [q_cat, q_catI, q_catJ, q_catR, q_catN]; done)) (by rw [hb11]; first | done | rfl) dL_isSo_353 ⟨(by first | omega | (dsimp only; omega)), (by first | omega | (dsimp only; omega))⟩) (fun E9 M9 h9 => h9.elim) (fun x9 M10 h => ?_)
      refine q_bipush (pc := 356) C 9 dL_isSo_356 (by decide) ?_
      refine q_icmp_le (pc := 358) C 363 dL_isSo_358 (by decide) (fun c12 => ?_) (fun c12 => ?_)
      · have h := h.1 c12
        refine q_iconst (pc := 363) C 0 dL_isSo_363 (by decide) ?_
        refine q_istore (pc := 364) C 7 [(7, .int 0), (0, va_rf l0), (1, .int l1), (2, .int l2), (3, .int l3), (4, .int l4)] dL_isSo_364 (by decide) (by first | rfl | simp [q_cat, q_catI, q_catJ, q_catR, q_catN]) ?_
        refine q_widen (k2 := 0) (n2 := 0) (by omega) (by omega) ?_
        refine q_lv [1, 2, 3, 4, 5, 0] rfl ?_
        obtain ⟨f9, h⟩ := h
        exact tL_isSo_366 C hr hlocks hL hR213 f9 _ _ _ _ _ _ _ h
      · have h := h.2 c12
        refine q_iconst (pc := 361) C 0 dL_isSo_361 (by decide) ?_
        exact q_zret (pc := 362) C hr hlocks ⟨(by decide), h⟩ dL_isSo_362 (by omega) (by omega)
set_option maxRecDepth 100000 in
set_option maxHeartbeats 4000000 in
theorem tL_isSo_291 {p : Program} {l : Launch} {e : Env} {s : State} {m : MethodId} {args : Array Value} {below : List Frame} {meth : Method} {c : Code} {G : mG} {b0 : Nat} (C : m_C p s m args c cL_isSo 8 RL wsL_isSo G b0) (hr : meth.sig.returnType = (some .boolean)) (hlocks : meth.locks = false) (hL : l.stackTraces = false) {κ : Int32 → mM → Prop} {R213 : Option Nat → Int32 → Int32 → Int32 → Int32 → mM → Prop} (hR213 : ∀ (l0 : Option Nat) (l1 : Int32) (l2 : Int32) (l3 : Int32) (l4 : Int32) (M : mM), R213 l0 l1 l2 l3 l4 M → m_W p l e ({ frames := 8, cells := 0, slots := 0, locals := 135 } : Room) s m args below meth c G b0 (MQ below (va_Qi κ (m_B G b0) (fun q => b0 ≤ q)) args s 0 0 (fun q => b0 ≤ q)) 8 M 0 0 213 [(0, va_rf l0), (1, .int l1), (2, .int l2), (3, .int l3), (4, .int l4)] []) {l0 : Option Nat} {l1 : Int32} {l2 : Int32} {l3 : Int32} {l4 : Int32} {l5 : Int32} {l6 : Int32} {s0 : Int32} {s1 : Int32} {M : mM} (h : wL_isSo_291 κ R213 l0 l1 l2 l3 l4 l5 l6 s0 s1 M) : m_W p l e ({ frames := 8, cells := 0, slots := 0, locals := 135 } : Room) s m args below meth c G b0 (MQ below (va_Qi κ (m_B G b0) (fun q => b0 ≤ q)) args s 0 0 (fun q => b0 ≤ q)) 8 M 0 0 291 [(0, va_rf l0), (1, .int l1), (2, .int l2), (3, .int l3), (4, .int l4), (5, .int l5), (6, .int l6)] [.int s0, .int s1] := by
  unfold wL_isSo_291 at h
  refine q_icmp_ne (pc := 291) C 361 dL_isSo_291 (by decide) (fun c1 => ?_) (fun c1 => ?_)
  · have h := h.2 c1
    refine q_iconst (pc := 361) C 0 dL_isSo_361 (by decide) ?_
    exact q_zret (pc := 362) C hr hlocks ⟨(by decide), h⟩ dL_isSo_362 (by omega) (by omega)
  · have h := h.1 c1
    refine q_iload (pc := 294) C 5 5 dL_isSo_294 rfl ?_
    refine q_if_lt (pc := 296) C 323 dL_isSo_296 (by decide) (fun c2 => ?_) (fun c2 => ?_)
    · have h := h.1 c2
      refine q_widen (k2 := 0) (n2 := 0) (by omega) (by omega) ?_
      refine q_lv [0, 1, 2, 3, 4] rfl ?_
      exact tL_isSo_323 C hr hlocks hL hR213 h
    · have h := h.2 c2
      refine q_aload_n (pc := 299) C 0 0 dL_isSo_299 rfl rfl ?_
      refine q_iload (pc := 300) C 5 5 dL_isSo_300 rfl ?_
      refine q_iconst (pc := 302) C 0 dL_isSo_302 (by decide) ?_
      obtain ⟨b5, fs9, hb5, hm9, h⟩ := h
      refine q_cXi (pc := 303) (q_rVX C (st := []) (b := b5) (kX8_ofGate l G b0 (t := 0) hL (fun _ _ h9 => h9.elim) h) (cwV 2 C.2.2.2.2.1 gL_isSo_X8_ofGate rfl rfl rfl (by decide +kernel) ⟨Nat.le_of_ble_eq_true rfl, Nat.le_of_ble_eq_true rfl⟩) hm9 rfl rfl rfl (by first | exact Nat.le_of_ble_eq_true rfl | (simp [q_cat, q_catI, q_catJ, q_catR, q_catN]; done)) (by rw [hb5]; first | done | rfl) dL_isSo_303 ⟨(by first | omega | (dsimp only; omega)), (by first | omega | (dsimp only; omega))⟩) (fun E9 M9 h9 => h9.elim) (fun x3 M4 h => ?_)
      refine q_iload (pc := 306) C 6 6 dL_isSo_306 rfl ?_
      refine q_icmp_eq (pc := 308) C 323 dL_isSo_308 (by decide) (fun c6 => ?_) (fun c6 => ?_)
      · have h := h.1 c6
        refine q_widen (k2 := 0) (n2 := 0) (by omega) (by omega) ?_
        refine q_lv [0, 1, 2, 3, 4] rfl ?_
        exact tL_isSo_323 C hr hlocks hL hR213 h
      · have h := h.2 c6
        refine q_aload_n (pc := 311) C 0 0 dL_isSo_311 rfl rfl ?_
        refine q_iload (pc := 312) C 5 5 dL_isSo_312 rfl ?_
        refine q_iconst (pc := 314) C 1 dL_isSo_314 (by decide) ?_
        obtain ⟨b9, fs9, hb9, hm9, h⟩ := h
        refine q_cXi (pc := 315) (q_rVX C (st := []) (b := b9) (kX8_ofGate l G b0 (t := 0) hL (fun _ _ h9 => h9.elim) h) (cwV 2 C.2.2.2.2.1 gL_isSo_X8_ofGate rfl rfl rfl (by decide +kernel) ⟨Nat.le_of_ble_eq_true rfl, Nat.le_of_ble_eq_true rfl⟩) hm9 rfl rfl rfl (by first | exact Nat.le_of_ble_eq_true rfl | (simp [q_cat, q_catI, q_catJ, q_catR, q_catN]; done)) (by rw [hb9]; first | done | rfl) dL_isSo_315 ⟨(by first | omega | (dsimp only; omega)), (by first | omega | (dsimp only; omega))⟩) (fun E9 M9 h9 => h9.elim) (fun x7 M8 h => ?_)
        refine q_iload (pc := 318) C 6 6 dL_isSo_318 rfl ?_
        refine q_icmp_ne (pc := 320) C 361 dL_isSo_320 (by decide) (fun c10 => ?_) (fun c10 => ?_)
        · have h := h.2 c10
          refine q_iconst (pc := 361) C 0 dL_isSo_361 (by decide) ?_
          exact q_zret (pc := 362) C hr hlocks ⟨(by decide), h⟩ dL_isSo_362 (by omega) (by omega)
        · have h := h.1 c10
          refine q_widen (k2 := 0) (n2 := 0) (by omega) (by omega) ?_
          refine q_lv [0, 1, 2, 3, 4] rfl ?_
          exact tL_isSo_323 C hr hlocks hL hR213 h
set_option maxRecDepth 100000 in
set_option maxHeartbeats 4000000 in
theorem tL_isSo_275 {p : Program} {l : Launch} {e : Env} {s : State} {m : MethodId} {args : Array Value} {below : List Frame} {meth : Method} {c : Code} {G : mG} {b0 : Nat} (C : m_C p s m args c cL_isSo 8 RL wsL_isSo G b0) (hr : meth.sig.returnType = (some .boolean)) (hlocks : meth.locks = false) (hL : l.stackTraces = false) {κ : Int32 → mM → Prop} {R213 : Option Nat → Int32 → Int32 → Int32 → Int32 → mM → Prop} (hR213 : ∀ (l0 : Option Nat) (l1 : Int32) (l2 : Int32) (l3 : Int32) (l4 : Int32) (M : mM), R213 l0 l1 l2 l3 l4 M → m_W p l e ({ frames := 8, cells := 0, slots := 0, locals := 135 } : Room) s m args below meth c G b0 (MQ below (va_Qi κ (m_B G b0) (fun q => b0 ≤ q)) args s 0 0 (fun q => b0 ≤ q)) 8 M 0 0 213 [(0, va_rf l0), (1, .int l1), (2, .int l2), (3, .int l3), (4, .int l4)] []) {l0 : Option Nat} {l1 : Int32} {l2 : Int32} {l3 : Int32} {l4 : Int32} {l5 : Int32} {l6 : Int32} {s0 : Int32} {M : mM} (h : wL_isSo_275 κ R213 l0 l1 l2 l3 l4 l5 l6 s0 M) : m_W p l e ({ frames := 8, cells := 0, slots := 0, locals := 135 } : Room) s m args below meth c G b0 (MQ below (va_Qi κ (m_B G b0) (fun q => b0 ≤ q)) args s 0 0 (fun q => b0 ≤ q)) 8 M 0 0 275 [(0, va_rf l0), (1, .int l1), (2, .int l2), (3, .int l3), (4, .int l4), (5, .int l5), (6, .int l6)] [.int s0] := by
  unfold wL_isSo_275 at h
  refine q_aload_n (pc := 275) C 0 0 dL_isSo_275 rfl rfl ?_
  refine q_iload (pc := 276) C 4 4 dL_isSo_276 rfl ?_
  refine q_iconst (pc := 278) C 2 dL_isSo_278 (by decide) ?_
  obtain ⟨b3, fs9, hb3, hm9, h⟩ := h
  refine q_cXi (pc := 279) (q_rVX C (st := [.int s0]) (b := b3) (kX8_ofSleeper l G b0 (t := 0) hL (fun _ _ h9 => h9.elim) h) (cwV 2 C.2.2.2.2.1 gL_isSo_X8_ofSleeper rfl rfl rfl (by decide +kernel) ⟨Nat.le_of_ble_eq_true rfl, Nat.le_of_ble_eq_true rfl⟩) hm9 rfl rfl rfl (by first | exact Nat.le_of_ble_eq_true rfl | (simp [q_cat, q_catI, q_catJ, q_catR, q_catN]; done)) (by rw [hb3]; first | done | rfl) dL_isSo_279 ⟨(by first | omega | (dsimp only; omega)), (by first | omega | (dsimp only; omega))⟩) (fun E9 M9 h9 => h9.elim) (fun x1 M2 h => ?_)
  refine q_iconst (pc := 282) C 1 dL_isSo_282 (by decide) ?_
  refine q_icmp_ne (pc := 283) C 290 dL_isSo_283 (by decide) (fun c4 => ?_) (fun c4 => ?_)
  · have h := h.2 c4
    refine q_iconst (pc := 290) C 0 dL_isSo_290 (by decide) ?_
    refine q_widen (k2 := 0) (n2 := 0) (by omega) (by omega) ?_
    refine q_lv [0, 1, 2, 3, 4, 5, 6] rfl ?_
    exact tL_isSo_291 C hr hlocks hL hR213 h
  · have h := h.1 c4
    refine q_iconst (pc := 286) C 1 dL_isSo_286 (by decide) ?_
    refine q_goto (pc := 287) C 291 dL_isSo_287 (by decide) ?_
    refine q_widen (k2 := 0) (n2 := 0) (by omega) (by omega) ?_
    refine q_lv [0, 1, 2, 3, 4, 5, 6] rfl ?_
    exact tL_isSo_291 C hr hlocks hL hR213 h
set_option maxRecDepth 100000 in
set_option maxHeartbeats 4000000 in
theorem tL_isSo_263 {p : Program} {l : Launch} {e : Env} {s : State} {m : MethodId} {args : Array Value} {below : List Frame} {meth : Method} {c : Code} {G : mG} {b0 : Nat} (C : m_C p s m args c cL_isSo 8 RL wsL_isSo G b0) (hr : meth.sig.returnType = (some .boolean)) (hlocks : meth.locks = false) (hL : l.stackTraces = false) {κ : Int32 → mM → Prop} {R213 : Option Nat → Int32 → Int32 → Int32 → Int32 → mM → Prop} (hR213 : ∀ (l0 : Option Nat) (l1 : Int32) (l2 : Int32) (l3 : Int32) (l4 : Int32) (M : mM), R213 l0 l1 l2 l3 l4 M → m_W p l e ({ frames := 8, cells := 0, slots := 0, locals := 135 } : Room) s m args below meth c G b0 (MQ below (va_Qi κ (m_B G b0) (fun q => b0 ≤ q)) args s 0 0 (fun q => b0 ≤ q)) 8 M 0 0 213 [(0, va_rf l0), (1, .int l1), (2, .int l2), (3, .int l3), (4, .int l4)] []) {l0 : Option Nat} {l1 : Int32} {l3 : Int32} {l4 : Int32} {l5 : Int32} {l6 : Int32} {s0 : Int32} {s1 : Int32} {M : mM} (h : wL_isSo_263 κ R213 l0 l1 l3 l4 l5 l6 s0 s1 M) : m_W p l e ({ frames := 8, cells := 0, slots := 0, locals := 135 } : Room) s m args below meth c G b0 (MQ below (va_Qi κ (m_B G b0) (fun q => b0 ≤ q)) args s 0 0 (fun q => b0 ≤ q)) 8 M 0 0 263 [(0, va_rf l0), (1, .int l1), (3, .int l3), (4, .int l4), (5, .int l5), (6, .int l6)] [.int s0, .int s1] := by
  unfold wL_isSo_263 at h
  refine q_isub (pc := 263) C dL_isSo_263 ?_
  refine q_istore_n (pc := 264) C 2 [(2, .int (s1 - s0)), (0, va_rf l0), (1, .int l1), (3, .int l3), (4, .int l4), (5, .int l5), (6, .int l6)] dL_isSo_264 rfl (by decide) (by first | rfl | simp [q_cat, q_catI, q_catJ, q_catR, q_catN]) ?_
  refine q_iload (pc := 265) C 5 5 dL_isSo_265 rfl ?_
  refine q_if_lt (pc := 267) C 274 dL_isSo_267 (by decide) (fun c1 => ?_) (fun c1 => ?_)
  · have h := h.1 c1
    refine q_iconst (pc := 274) C 0 dL_isSo_274 (by decide) ?_
    refine q_widen (k2 := 0) (n2 := 0) (by omega) (by omega) ?_
    refine q_lv [1, 2, 0, 3, 4, 5, 6] rfl ?_
    exact tL_isSo_275 C hr hlocks hL hR213 h
  · have h := h.2 c1
    refine q_iconst (pc := 270) C 1 dL_isSo_270 (by decide) ?_
    refine q_goto (pc := 271) C 275 dL_isSo_271 (by decide) ?_
    refine q_widen (k2 := 0) (n2 := 0) (by omega) (by omega) ?_
    refine q_lv [1, 2, 0, 3, 4, 5, 6] rfl ?_
    exact tL_isSo_275 C hr hlocks hL hR213 h
set_option maxRecDepth 100000 in
set_option maxHeartbeats 4000000 in
theorem tL_isSo_213 {p : Program} {l : Launch} {e : Env} {s : State} {m : MethodId} {args : Array Value} {below : List Frame} {meth : Method} {c : Code} {G : mG} {b0 : Nat} (C : m_C p s m args c cL_isSo 8 RL wsL_isSo G b0) (hr : meth.sig.returnType = (some .boolean)) (hlocks : meth.locks = false) (hL : l.stackTraces = false) {κ : Int32 → mM → Prop} : ∀ (f : Nat) (l0 : Option Nat) (l1 : Int32) (l2 : Int32) (l3 : Int32) (l4 : Int32) (M : mM), wL_isSo_213 κ f l0 l1 l2 l3 l4 M → m_W p l e ({ frames := 8, cells := 0, slots := 0, locals := 135 } : Room) s m args below meth c G b0 (MQ below (va_Qi κ (m_B G b0) (fun q => b0 ≤ q)) args s 0 0 (fun q => b0 ≤ q)) 8 M 0 0 213 [(0, va_rf l0), (1, .int l1), (2, .int l2), (3, .int l3), (4, .int l4)] [] := by
  intro f
  induction f with
  | zero =>
    intro l0 l1 l2 l3 l4 M h
    exact absurd h (by simp [wL_isSo_213])
  | succ f ih =>
    intro l0 l1 l2 l3 l4 M h
    rw [wL_isSo_213] at h
    refine q_iload (pc := 213) C 4 4 dL_isSo_213 rfl ?_
    refine q_aload_n (pc := 215) C 0 0 dL_isSo_215 rfl rfl ?_
    refine q_iconst (pc := 216) C 3 dL_isSo_216 (by decide) ?_
    obtain ⟨b3, fs9, hb3, hm9, h⟩ := h
    refine q_cXi (pc := 217) (q_rVX C (st := [.int l4]) (b := b3) (kX8_night l G b0 (t := 0) hL (fun _ _ h9 => h9.elim) h) (cwV 1 C.2.2.2.2.1 gL_isSo_X8_night rfl rfl rfl (by decide +kernel) ⟨Nat.le_of_ble_eq_true rfl, Nat.le_of_ble_eq_true rfl⟩) hm9 rfl rfl rfl (by first | exact Nat.le_of_ble_eq_true rfl | (simp [q_cat, q_catI, q_catJ, q_catR, q_catN]; done)) (by rw [hb3]; first | done | rfl) dL_isSo_217 ⟨(by first | omega | (dsimp only; omega)), (by first | omega | (dsimp only; omega))⟩) (fun E9 M9 h9 => h9.elim) (fun x1 M2 h => ?_)
    refine q_icmp_ge (pc := 220) C 419 dL_isSo_220 (by decide) (fun c4 => ?_) (fun c4 => ?_)
    · have h := h.1 c4
      refine q_iconst (pc := 419) C 0 dL_isSo_419 (by decide) ?_
      refine q_istore (pc := 420) C 4 [(4, .int 0), (0, va_rf l0), (1, .int l1), (2, .int l2), (3, .int l3)] dL_isSo_420 (by decide) (by first | rfl | simp [q_cat, q_catI, q_catJ, q_catR, q_catN]) ?_
      refine q_iconst (pc := 422) C 0 dL_isSo_422 (by decide) ?_
      refine q_istore (pc := 423) C 5 [(5, .int 0), (4, .int 0), (0, va_rf l0), (1, .int l1), (2, .int l2), (3, .int l3)] dL_isSo_423 (by decide) (by first | rfl | simp [q_cat, q_catI, q_catJ, q_catR, q_catN]) ?_
      refine q_widen (k2 := 0) (n2 := 0) (by omega) (by omega) ?_
      refine q_lv [2, 3, 4, 5, 1, 0] rfl ?_
      obtain ⟨f9, h⟩ := h
      exact tL_isSo_425 C hr hlocks hL f9 _ _ _ _ _ _ _ h
    · have h := h.2 c4
      refine q_aload_n (pc := 223) C 0 0 dL_isSo_223 rfl rfl ?_
      refine q_iload (pc := 224) C 4 4 dL_isSo_224 rfl ?_
      refine q_iconst (pc := 226) C 3 dL_isSo_226 (by decide) ?_
      obtain ⟨b7, fs9, hb7, hm9, h⟩ := h
      refine q_cXi (pc := 227) (q_rVX C (st := []) (b := b7) (kX8_ofSleeper l G b0 (t := 0) hL (fun _ _ h9 => h9.elim) h) (cwV 2 C.2.2.2.2.1 gL_isSo_X8_ofSleeper rfl rfl rfl (by decide +kernel) ⟨Nat.le_of_ble_eq_true rfl, Nat.le_of_ble_eq_true rfl⟩) hm9 rfl rfl rfl (by first | exact Nat.le_of_ble_eq_true rfl | (simp [q_cat, q_catI, q_catJ, q_catR, q_catN]; done)) (by rw [hb7]; first | done | rfl) dL_isSo_227 ⟨(by first | omega | (dsimp only; omega)), (by first | omega | (dsimp only; omega))⟩) (fun E9 M9 h9 => h9.elim) (fun x5 M6 h => ?_)
      refine q_istore (pc := 230) C 5 [(5, .int x5), (0, va_rf l0), (1, .int l1), (2, .int l2), (3, .int l3), (4, .int l4)] dL_isSo_230 (by decide) (by first | rfl | simp [q_cat, q_catI, q_catJ, q_catR, q_catN]) ?_
      refine q_aload_n (pc := 232) C 0 1 dL_isSo_232 rfl rfl ?_
      refine q_iload (pc := 233) C 4 5 dL_isSo_233 rfl ?_
      refine q_iconst (pc := 235) C 0 dL_isSo_235 (by decide) ?_
      obtain ⟨b10, fs9, hb10, hm9, h⟩ := h
      refine q_cXi (pc := 236) (q_rVX C (st := []) (b := b10) (kX8_ofSleeper l G b0 (t := 0) hL (fun _ _ h9 => h9.elim) h) (cwV 2 C.2.2.2.2.1 gL_isSo_X8_ofSleeper rfl rfl rfl (by decide +kernel) ⟨Nat.le_of_ble_eq_true rfl, Nat.le_of_ble_eq_true rfl⟩) hm9 rfl rfl rfl (by first | exact Nat.le_of_ble_eq_true rfl | (simp [q_cat, q_catI, q_catJ, q_catR, q_catN]; done)) (by rw [hb10]; first | done | rfl) dL_isSo_236 ⟨(by first | omega | (dsimp only; omega)), (by first | omega | (dsimp only; omega))⟩) (fun E9 M9 h9 => h9.elim) (fun x8 M9 h => ?_)
      refine q_istore (pc := 239) C 6 [(6, .int x8), (5, .int x5), (0, va_rf l0), (1, .int l1), (2, .int l2), (3, .int l3), (4, .int l4)] dL_isSo_239 (by decide) (by first | rfl | simp [q_cat, q_catI, q_catJ, q_catR, q_catN]) ?_
      refine q_iload_n (pc := 241) C 3 5 dL_isSo_241 rfl rfl ?_
      refine q_aload_n (pc := 242) C 0 2 dL_isSo_242 rfl rfl ?_
      refine q_iload (pc := 243) C 4 6 dL_isSo_243 rfl ?_
      refine q_bipush (pc := 245) C 8 dL_isSo_245 (by decide) ?_
      obtain ⟨b13, fs9, hb13, hm9, h⟩ := h
      refine q_cXi (pc := 247) (q_rVX C (st := [.int l3]) (b := b13) (kX8_ofSleeper l G b0 (t := 0) hL (fun _ _ h9 => h9.elim) h) (cwV 2 C.2.2.2.2.1 gL_isSo_X8_ofSleeper rfl rfl rfl (by decide +kernel) ⟨Nat.le_of_ble_eq_true rfl, Nat.le_of_ble_eq_true rfl⟩) hm9 rfl rfl rfl (by first | exact Nat.le_of_ble_eq_true rfl | (simp [q_cat, q_catI, q_catJ, q_catR, q_catN]; done)) (by rw [hb13]; first | done | rfl) dL_isSo_247 ⟨(by first | omega | (dsimp only; omega)), (by first | omega | (dsimp only; omega))⟩) (fun E9 M9 h9 => h9.elim) (fun x11 M12 h => ?_)
      refine q_iadd (pc := 250) C dL_isSo_250 ?_
      refine q_istore_n (pc := 251) C 3 [(3, .int (l3 + x11)), (6, .int x8), (5, .int x5), (0, va_rf l0), (1, .int l1), (2, .int l2), (4, .int l4)] dL_isSo_251 rfl (by decide) (by first | rfl | simp [q_cat, q_catI, q_catJ, q_catR, q_catN]) ?_
      refine q_iload_n (pc := 252) C 2 5 dL_isSo_252 rfl rfl ?_
      refine q_iload (pc := 253) C 5 2 dL_isSo_253 rfl ?_
      refine q_if_lt (pc := 255) C 262 dL_isSo_255 (by decide) (fun c14 => ?_) (fun c14 => ?_)
      · have h := h.1 c14
        refine q_iconst (pc := 262) C 0 dL_isSo_262 (by decide) ?_
        refine q_widen (k2 := 0) (n2 := 0) (by omega) (by omega) ?_
        refine q_lv [3, 4, 0, 6, 2, 1] rfl ?_
        exact tL_isSo_263 C hr hlocks hL ih h
      · have h := h.2 c14
        refine q_iconst (pc := 258) C 1 dL_isSo_258 (by decide) ?_
        refine q_goto (pc := 259) C 263 dL_isSo_259 (by decide) ?_
        refine q_widen (k2 := 0) (n2 := 0) (by omega) (by omega) ?_
        refine q_lv [3, 4, 0, 6, 2, 1] rfl ?_
        exact tL_isSo_263 C hr hlocks hL ih h
set_option maxRecDepth 100000 in
set_option maxHeartbeats 4000000 in
theorem tL_isSo_179 {p : Program} {l : Launch} {e : Env} {s : State} {m : MethodId} {args : Array Value} {below : List Frame} {meth : Method} {c : Code} {G : mG} {b0 : Nat} (C : m_C p s m args c cL_isSo 8 RL wsL_isSo G b0) (hr : meth.sig.returnType = (some .boolean)) (hlocks : meth.locks = false) (hL : l.stackTraces = false) {κ : Int32 → mM → Prop} {R67 : Option Nat → Int32 → Int32 → Int32 → mM → Prop} (hR67 : ∀ (l0 : Option Nat) (l1 : Int32) (l2 : Int32) (l3 : Int32) (M : mM), R67 l0 l1 l2 l3 M → m_W p l e ({ frames := 8, cells := 0, slots := 0, locals := 135 } : Room) s m args below meth c G b0 (MQ below (va_Qi κ (m_B G b0) (fun q => b0 ≤ q)) args s 0 0 (fun q => b0 ≤ q)) 8 M 0 0 67 [(0, va_rf l0), (1, .int l1), (2, .int l2), (3, .int l3)] []) {l0 : Option Nat} {l1 : Int32} {l2 : Int32} {l3 : Int32} {s0 : Int32} {s1 : Int32} {M : mM} (h : wL_isSo_179 κ R67 l0 l1 l2 l3 s0 s1 M) : m_W p l e ({ frames := 8, cells := 0, slots := 0, locals := 135 } : Room) s m args below meth c G b0 (MQ below (va_Qi κ (m_B G b0) (fun q => b0 ≤ q)) args s 0 0 (fun q => b0 ≤ q)) 8 M 0 0 179 [(0, va_rf l0), (1, .int l1), (2, .int l2), (3, .int l3)] [.int s0, .int s1] := by
  unfold wL_isSo_179 at h
  refine q_icmp_ne (pc := 179) C 200 dL_isSo_179 (by decide) (fun c1 => ?_) (fun c1 => ?_)
  · have h := h.2 c1
    refine q_iconst (pc := 200) C 0 dL_isSo_200 (by decide) ?_
    exact q_zret (pc := 201) C hr hlocks ⟨(by decide), h⟩ dL_isSo_201 (by omega) (by omega)
  · have h := h.1 c1
    refine q_aload_n (pc := 182) C 0 0 dL_isSo_182 rfl rfl ?_
    refine q_iload_n (pc := 183) C 3 3 dL_isSo_183 rfl rfl ?_
    refine q_bipush (pc := 184) C 8 dL_isSo_184 (by decide) ?_
    obtain ⟨b4, fs9, hb4, hm9, h⟩ := h
    refine q_cXi (pc := 186) (q_rVX C (st := []) (b := b4) (kX8_ofGate l G b0 (t := 0) hL (fun _ _ h9 => h9.elim) h) (cwV 2 C.2.2.2.2.1 gL_isSo_X8_ofGate rfl rfl rfl (by decide +kernel) ⟨Nat.le_of_ble_eq_true rfl, Nat.le_of_ble_eq_true rfl⟩) hm9 rfl rfl rfl (by first | exact Nat.le_of_ble_eq_true rfl | (simp [q_cat, q_catI, q_catJ, q_catR, q_catN]; done)) (by rw [hb4]; first | done | rfl) dL_isSo_186 ⟨(by first | omega | (dsimp only; omega)), (by first | omega | (dsimp only; omega))⟩) (fun E9 M9 h9 => h9.elim) (fun x2 M3 h => ?_)
    refine q_if_lt (pc := 189) C 200 dL_isSo_189 (by decide) (fun c5 => ?_) (fun c5 => ?_)
    · have h := h.1 c5
      refine q_iconst (pc := 200) C 0 dL_isSo_200 (by decide) ?_
      exact q_zret (pc := 201) C hr hlocks ⟨(by decide), h⟩ dL_isSo_201 (by omega) (by omega)
    · have h := h.2 c5
      refine q_aload_n (pc := 192) C 0 0 dL_isSo_192 rfl rfl ?_
      refine q_iload_n (pc := 193) C 3 3 dL_isSo_193 rfl rfl ?_
      obtain ⟨b8, fs9, hb8, hm9, h⟩ := h
      refine q_cXi (pc := 194) (q_rVX C (st := []) (b := b8) (kX8_wouldPay l G b0 (t := 0) hL (fun _ _ h9 => h9.elim) h) (cwV 1 C.2.2.2.2.1 gL_isSo_X8_wouldPay rfl rfl rfl (by decide +kernel) ⟨Nat.le_of_ble_eq_true rfl, Nat.le_of_ble_eq_true rfl⟩) hm9 rfl rfl rfl (by first | exact Nat.le_of_ble_eq_true rfl | (simp [q_cat, q_catI, q_catJ, q_catR, q_catN]; done)) (by rw [hb8]; first | done | rfl) dL_isSo_194 ⟨(by first | omega | (dsimp only; omega)), (by first | omega | (dsimp only; omega))⟩) (fun E9 M9 h9 => h9.elim) (fun x6 M7 h => ?_)
      refine q_if_ge (pc := 197) C 202 dL_isSo_197 (by decide) (fun c9 => ?_) (fun c9 => ?_)
      · have h := h.1 c9
        refine q_iinc (pc := 202) C 3 3 (l3 + 1) [(3, .int (l3 + 1)), (0, va_rf l0), (1, .int l1), (2, .int l2)] dL_isSo_202 rfl (by rfl) (by decide) (by first | rfl | simp [q_cat, q_catI, q_catJ, q_catR, q_catN]) ?_
        refine q_goto (pc := 205) C 67 dL_isSo_205 (by decide) ?_
        refine q_widen (k2 := 0) (n2 := 0) (by omega) (by omega) ?_
        refine q_lv [1, 2, 3, 0] rfl ?_
        exact hR67 _ _ _ _ _ h
      · have h := h.2 c9
        refine q_iconst (pc := 200) C 0 dL_isSo_200 (by decide) ?_
        exact q_zret (pc := 201) C hr hlocks ⟨(by decide), h⟩ dL_isSo_201 (by omega) (by omega)
set_option maxRecDepth 100000 in
set_option maxHeartbeats 4000000 in
theorem tL_isSo_164 {p : Program} {l : Launch} {e : Env} {s : State} {m : MethodId} {args : Array Value} {below : List Frame} {meth : Method} {c : Code} {G : mG} {b0 : Nat} (C : m_C p s m args c cL_isSo 8 RL wsL_isSo G b0) (hr : meth.sig.returnType = (some .boolean)) (hlocks : meth.locks = false) (hL : l.stackTraces = false) {κ : Int32 → mM → Prop} {R67 : Option Nat → Int32 → Int32 → Int32 → mM → Prop} (hR67 : ∀ (l0 : Option Nat) (l1 : Int32) (l2 : Int32) (l3 : Int32) (M : mM), R67 l0 l1 l2 l3 M → m_W p l e ({ frames := 8, cells := 0, slots := 0, locals := 135 } : Room) s m args below meth c G b0 (MQ below (va_Qi κ (m_B G b0) (fun q => b0 ≤ q)) args s 0 0 (fun q => b0 ≤ q)) 8 M 0 0 67 [(0, va_rf l0), (1, .int l1), (2, .int l2), (3, .int l3)] []) {l0 : Option Nat} {l1 : Int32} {l2 : Int32} {l3 : Int32} {s0 : Int32} {M : mM} (h : wL_isSo_164 κ R67 l0 l1 l2 l3 s0 M) : m_W p l e ({ frames := 8, cells := 0, slots := 0, locals := 135 } : Room) s m args below meth c G b0 (MQ below (va_Qi κ (m_B G b0) (fun q => b0 ≤ q)) args s 0 0 (fun q => b0 ≤ q)) 8 M 0 0 164 [(0, va_rf l0), (1, .int l1), (2, .int l2), (3, .int l3)] [.int s0] := by
  unfold wL_isSo_164 at h
  refine q_aload_n (pc := 164) C 0 0 dL_isSo_164 rfl rfl ?_
  refine q_iload_n (pc := 165) C 3 3 dL_isSo_165 rfl rfl ?_
  refine q_iconst (pc := 166) C 5 dL_isSo_166 (by decide) ?_
  obtain ⟨b3, fs9, hb3, hm9, h⟩ := h
  refine q_cXi (pc := 167) (q_rVX C (st := [.int s0]) (b := b3) (kX8_ofGate l G b0 (t := 0) hL (fun _ _ h9 => h9.elim) h) (cwV 2 C.2.2.2.2.1 gL_isSo_X8_ofGate rfl rfl rfl (by decide +kernel) ⟨Nat.le_of_ble_eq_true rfl, Nat.le_of_ble_eq_true rfl⟩) hm9 rfl rfl rfl (by first | exact Nat.le_of_ble_eq_true rfl | (simp [q_cat, q_catI, q_catJ, q_catR, q_catN]; done)) (by rw [hb3]; first | done | rfl) dL_isSo_167 ⟨(by first | omega | (dsimp only; omega)), (by first | omega | (dsimp only; omega))⟩) (fun E9 M9 h9 => h9.elim) (fun x1 M2 h => ?_)
  refine q_iconst (pc := 170) C 1 dL_isSo_170 (by decide) ?_
  refine q_icmp_ne (pc := 171) C 178 dL_isSo_171 (by decide) (fun c4 => ?_) (fun c4 => ?_)
  · have h := h.2 c4
    refine q_iconst (pc := 178) C 0 dL_isSo_178 (by decide) ?_
    refine q_widen (k2 := 0) (n2 := 0) (by omega) (by omega) ?_
    refine q_lv [0, 1, 2, 3] rfl ?_
    exact tL_isSo_179 C hr hlocks hL hR67 h
  · have h := h.1 c4
    refine q_iconst (pc := 174) C 1 dL_isSo_174 (by decide) ?_
    refine q_goto (pc := 175) C 179 dL_isSo_175 (by decide) ?_
    refine q_widen (k2 := 0) (n2 := 0) (by omega) (by omega) ?_
    refine q_lv [0, 1, 2, 3] rfl ?_
    exact tL_isSo_179 C hr hlocks hL hR67 h
set_option maxRecDepth 100000 in
set_option maxHeartbeats 4000000 in
theorem tL_isSo_146 {p : Program} {l : Launch} {e : Env} {s : State} {m : MethodId} {args : Array Value} {below : List Frame} {meth : Method} {c : Code} {G : mG} {b0 : Nat} (C : m_C p s m args c cL_isSo 8 RL wsL_isSo G b0) (hr : meth.sig.returnType = (some .boolean)) (hlocks : meth.locks = false) (hL : l.stackTraces = false) {κ : Int32 → mM → Prop} {R67 : Option Nat → Int32 → Int32 → Int32 → mM → Prop} (hR67 : ∀ (l0 : Option Nat) (l1 : Int32) (l2 : Int32) (l3 : Int32) (M : mM), R67 l0 l1 l2 l3 M → m_W p l e ({ frames := 8, cells := 0, slots := 0, locals := 135 } : Room) s m args below meth c G b0 (MQ below (va_Qi κ (m_B G b0) (fun q => b0 ≤ q)) args s 0 0 (fun q => b0 ≤ q)) 8 M 0 0 67 [(0, va_rf l0), (1, .int l1), (2, .int l2), (3, .int l3)] []) {l0 : Option Nat} {l1 : Int32} {l2 : Int32} {l3 : Int32} {s0 : Int32} {s1 : Int32} {M : mM} (h : wL_isSo_146 κ R67 l0 l1 l2 l3 s0 s1 M) : m_W p l e ({ frames := 8, cells := 0, slots := 0, locals := 135 } : Room) s m args below meth c G b0 (MQ below (va_Qi κ (m_B G b0) (fun q => b0 ≤ q)) args s 0 0 (fun q => b0 ≤ q)) 8 M 0 0 146 [(0, va_rf l0), (1, .int l1), (2, .int l2), (3, .int l3)] [.int s0, .int s1] := by
  unfold wL_isSo_146 at h
  refine q_icmp_ne (pc := 146) C 200 dL_isSo_146 (by decide) (fun c1 => ?_) (fun c1 => ?_)
  · have h := h.2 c1
    refine q_iconst (pc := 200) C 0 dL_isSo_200 (by decide) ?_
    exact q_zret (pc := 201) C hr hlocks ⟨(by decide), h⟩ dL_isSo_201 (by omega) (by omega)
  · have h := h.1 c1
    refine q_aload_n (pc := 149) C 0 0 dL_isSo_149 rfl rfl ?_
    refine q_iload_n (pc := 150) C 3 3 dL_isSo_150 rfl rfl ?_
    refine q_iconst (pc := 151) C 4 dL_isSo_151 (by decide) ?_
    obtain ⟨b4, fs9, hb4, hm9, h⟩ := h
    refine q_cXi (pc := 152) (q_rVX C (st := []) (b := b4) (kX8_ofGate l G b0 (t := 0) hL (fun _ _ h9 => h9.elim) h) (cwV 2 C.2.2.2.2.1 gL_isSo_X8_ofGate rfl rfl rfl (by decide +kernel) ⟨Nat.le_of_ble_eq_true rfl, Nat.le_of_ble_eq_true rfl⟩) hm9 rfl rfl rfl (by first | exact Nat.le_of_ble_eq_true rfl | (simp [q_cat, q_catI, q_catJ, q_catR, q_catN]; done)) (by rw [hb4]; first | done | rfl) dL_isSo_152 ⟨(by first | omega | (dsimp only; omega)), (by first | omega | (dsimp only; omega))⟩) (fun E9 M9 h9 => h9.elim) (fun x2 M3 h => ?_)
    refine q_iconst (pc := 155) C 5 dL_isSo_155 (by decide) ?_
    refine q_icmp_lt (pc := 156) C 163 dL_isSo_156 (by decide) (fun c5 => ?_) (fun c5 => ?_)
    · have h := h.1 c5
      refine q_iconst (pc := 163) C 0 dL_isSo_163 (by decide) ?_
      refine q_widen (k2 := 0) (n2 := 0) (by omega) (by omega) ?_
      refine q_lv [0, 1, 2, 3] rfl ?_
      exact tL_isSo_164 C hr hlocks hL hR67 h
    · have h := h.2 c5
      refine q_iconst (pc := 159) C 1 dL_isSo_159 (by decide) ?_
      refine q_goto (pc := 160) C 164 dL_isSo_160 (by decide) ?_
      refine q_widen (k2 := 0) (n2 := 0) (by omega) (by omega) ?_
      refine q_lv [0, 1, 2, 3] rfl ?_
      exact tL_isSo_164 C hr hlocks hL hR67 h
set_option maxRecDepth 100000 in
set_option maxHeartbeats 4000000 in
theorem tL_isSo_131 {p : Program} {l : Launch} {e : Env} {s : State} {m : MethodId} {args : Array Value} {below : List Frame} {meth : Method} {c : Code} {G : mG} {b0 : Nat} (C : m_C p s m args c cL_isSo 8 RL wsL_isSo G b0) (hr : meth.sig.returnType = (some .boolean)) (hlocks : meth.locks = false) (hL : l.stackTraces = false) {κ : Int32 → mM → Prop} {R67 : Option Nat → Int32 → Int32 → Int32 → mM → Prop} (hR67 : ∀ (l0 : Option Nat) (l1 : Int32) (l2 : Int32) (l3 : Int32) (M : mM), R67 l0 l1 l2 l3 M → m_W p l e ({ frames := 8, cells := 0, slots := 0, locals := 135 } : Room) s m args below meth c G b0 (MQ below (va_Qi κ (m_B G b0) (fun q => b0 ≤ q)) args s 0 0 (fun q => b0 ≤ q)) 8 M 0 0 67 [(0, va_rf l0), (1, .int l1), (2, .int l2), (3, .int l3)] []) {l0 : Option Nat} {l1 : Int32} {l2 : Int32} {l3 : Int32} {s0 : Int32} {M : mM} (h : wL_isSo_131 κ R67 l0 l1 l2 l3 s0 M) : m_W p l e ({ frames := 8, cells := 0, slots := 0, locals := 135 } : Room) s m args below meth c G b0 (MQ below (va_Qi κ (m_B G b0) (fun q => b0 ≤ q)) args s 0 0 (fun q => b0 ≤ q)) 8 M 0 0 131 [(0, va_rf l0), (1, .int l1), (2, .int l2), (3, .int l3)] [.int s0] := by
  unfold wL_isSo_131 at h
  refine q_aload_n (pc := 131) C 0 0 dL_isSo_131 rfl rfl ?_
  refine q_iload_n (pc := 132) C 3 3 dL_isSo_132 rfl rfl ?_
  refine q_bipush (pc := 133) C 6 dL_isSo_133 (by decide) ?_
  obtain ⟨b3, fs9, hb3, hm9, h⟩ := h
  refine q_cXi (pc := 135) (q_rVX C (st := [.int s0]) (b := b3) (kX8_ofGate l G b0 (t := 0) hL (fun _ _ h9 => h9.elim) h) (cwV 2 C.2.2.2.2.1 gL_isSo_X8_ofGate rfl rfl rfl (by decide +kernel) ⟨Nat.le_of_ble_eq_true rfl, Nat.le_of_ble_eq_true rfl⟩) hm9 rfl rfl rfl (by first | exact Nat.le_of_ble_eq_true rfl | (simp [q_cat, q_catI, q_catJ, q_catR, q_catN]; done)) (by rw [hb3]; first | done | rfl) dL_isSo_135 ⟨(by first | omega | (dsimp only; omega)), (by first | omega | (dsimp only; omega))⟩) (fun E9 M9 h9 => h9.elim) (fun x1 M2 h => ?_)
  refine q_if_ne (pc := 138) C 145 dL_isSo_138 (by decide) (fun c4 => ?_) (fun c4 => ?_)
  · have h := h.2 c4
    refine q_iconst (pc := 145) C 0 dL_isSo_145 (by decide) ?_
    refine q_widen (k2 := 0) (n2 := 0) (by omega) (by omega) ?_
    refine q_lv [0, 1, 2, 3] rfl ?_
    exact tL_isSo_146 C hr hlocks hL hR67 h
  · have h := h.1 c4
    refine q_iconst (pc := 141) C 1 dL_isSo_141 (by decide) ?_
    refine q_goto (pc := 142) C 146 dL_isSo_142 (by decide) ?_
    refine q_widen (k2 := 0) (n2 := 0) (by omega) (by omega) ?_
    refine q_lv [0, 1, 2, 3] rfl ?_
    exact tL_isSo_146 C hr hlocks hL hR67 h
set_option maxRecDepth 100000 in
set_option maxHeartbeats 4000000 in
theorem tL_isSo_121 {p : Program} {l : Launch} {e : Env} {s : State} {m : MethodId} {args : Array Value} {below : List Frame} {meth : Method} {c : Code} {G : mG} {b0 : Nat} (C : m_C p s m args c cL_isSo 8 RL wsL_isSo G b0) (hr : meth.sig.returnType = (some .boolean)) (hlocks : meth.locks = false) (hL : l.stackTraces = false) {κ : Int32 → mM → Prop} {R67 : Option Nat → Int32 → Int32 → Int32 → mM → Prop} (hR67 : ∀ (l0 : Option Nat) (l1 : Int32) (l2 : Int32) (l3 : Int32) (M : mM), R67 l0 l1 l2 l3 M → m_W p l e ({ frames := 8, cells := 0, slots := 0, locals := 135 } : Room) s m args below meth c G b0 (MQ below (va_Qi κ (m_B G b0) (fun q => b0 ≤ q)) args s 0 0 (fun q => b0 ≤ q)) 8 M 0 0 67 [(0, va_rf l0), (1, .int l1), (2, .int l2), (3, .int l3)] []) {l0 : Option Nat} {l1 : Int32} {l2 : Int32} {l3 : Int32} {l4 : Int32} {M : mM} (h : wL_isSo_121 κ R67 l0 l1 l2 l3 l4 M) : m_W p l e ({ frames := 8, cells := 0, slots := 0, locals := 135 } : Room) s m args below meth c G b0 (MQ below (va_Qi κ (m_B G b0) (fun q => b0 ≤ q)) args s 0 0 (fun q => b0 ≤ q)) 8 M 0 0 121 [(0, va_rf l0), (1, .int l1), (2, .int l2), (3, .int l3), (4, .int l4)] [] := by
  unfold wL_isSo_121 at h
  refine q_iload (pc := 121) C 4 4 dL_isSo_121 rfl ?_
  refine q_if_ge (pc := 123) C 130 dL_isSo_123 (by decide) (fun c1 => ?_) (fun c1 => ?_)
  · have h := h.1 c1
    refine q_iconst (pc := 130) C 0 dL_isSo_130 (by decide) ?_
    refine q_widen (k2 := 0) (n2 := 0) (by omega) (by omega) ?_
    refine q_lv [0, 1, 2, 3] rfl ?_
    exact tL_isSo_131 C hr hlocks hL hR67 h
  · have h := h.2 c1
    refine q_iconst (pc := 126) C 1 dL_isSo_126 (by decide) ?_
    refine q_goto (pc := 127) C 131 dL_isSo_127 (by decide) ?_
    refine q_widen (k2 := 0) (n2 := 0) (by omega) (by omega) ?_
    refine q_lv [0, 1, 2, 3] rfl ?_
    exact tL_isSo_131 C hr hlocks hL hR67 h
set_option maxRecDepth 100000 in
set_option maxHeartbeats 4000000 in
theorem tL_isSo_67 {p : Program} {l : Launch} {e : Env} {s : State} {m : MethodId} {args : Array Value} {below : List Frame} {meth : Method} {c : Code} {G : mG} {b0 : Nat} (C : m_C p s m args c cL_isSo 8 RL wsL_isSo G b0) (hr : meth.sig.returnType = (some .boolean)) (hlocks : meth.locks = false) (hL : l.stackTraces = false) {κ : Int32 → mM → Prop} : ∀ (f : Nat) (l0 : Option Nat) (l1 : Int32) (l2 : Int32) (l3 : Int32) (M : mM), wL_isSo_67 κ f l0 l1 l2 l3 M → m_W p l e ({ frames := 8, cells := 0, slots := 0, locals := 135 } : Room) s m args below meth c G b0 (MQ below (va_Qi κ (m_B G b0) (fun q => b0 ≤ q)) args s 0 0 (fun q => b0 ≤ q)) 8 M 0 0 67 [(0, va_rf l0), (1, .int l1), (2, .int l2), (3, .int l3)] [] := by
  intro f
  induction f with
  | zero =>
    intro l0 l1 l2 l3 M h
    exact absurd h (by simp [wL_isSo_67])
  | succ f ih =>
    intro l0 l1 l2 l3 M h
    rw [wL_isSo_67] at h
    refine q_iload_n (pc := 67) C 3 3 dL_isSo_67 rfl rfl ?_
    refine q_aload_n (pc := 68) C 0 0 dL_isSo_68 rfl rfl ?_
    refine q_iconst (pc := 69) C 2 dL_isSo_69 (by decide) ?_
    obtain ⟨b3, fs9, hb3, hm9, h⟩ := h
    refine q_cXi (pc := 70) (q_rVX C (st := [.int l3]) (b := b3) (kX8_night l G b0 (t := 0) hL (fun _ _ h9 => h9.elim) h) (cwV 1 C.2.2.2.2.1 gL_isSo_X8_night rfl rfl rfl (by decide +kernel) ⟨Nat.le_of_ble_eq_true rfl, Nat.le_of_ble_eq_true rfl⟩) hm9 rfl rfl rfl (by first | exact Nat.le_of_ble_eq_true rfl | (simp [q_cat, q_catI, q_catJ, q_catR, q_catN]; done)) (by rw [hb3]; first | done | rfl) dL_isSo_70 ⟨(by first | omega | (dsimp only; omega)), (by first | omega | (dsimp only; omega))⟩) (fun E9 M9 h9 => h9.elim) (fun x1 M2 h => ?_)
    refine q_icmp_ge (pc := 73) C 208 dL_isSo_73 (by decide) (fun c4 => ?_) (fun c4 => ?_)
    · have h := h.1 c4
      refine q_iconst (pc := 208) C 0 dL_isSo_208 (by decide) ?_
      refine q_istore_n (pc := 209) C 3 [(3, .int 0), (0, va_rf l0), (1, .int l1), (2, .int l2)] dL_isSo_209 rfl (by decide) (by first | rfl | simp [q_cat, q_catI, q_catJ, q_catR, q_catN]) ?_
      refine q_iconst (pc := 210) C 0 dL_isSo_210 (by decide) ?_
      refine q_istore (pc := 211) C 4 [(4, .int 0), (3, .int 0), (0, va_rf l0), (1, .int l1), (2, .int l2)] dL_isSo_211 (by decide) (by first | rfl | simp [q_cat, q_catI, q_catJ, q_catR, q_catN]) ?_
      refine q_widen (k2 := 0) (n2 := 0) (by omega) (by omega) ?_
      refine q_lv [2, 3, 4, 1, 0] rfl ?_
      obtain ⟨f9, h⟩ := h
      exact tL_isSo_213 C hr hlocks hL f9 _ _ _ _ _ _ h
    · have h := h.2 c4
      refine q_iload_n (pc := 76) C 2 2 dL_isSo_76 rfl rfl ?_
      refine q_aload_n (pc := 77) C 0 0 dL_isSo_77 rfl rfl ?_
      refine q_iload_n (pc := 78) C 3 3 dL_isSo_78 rfl rfl ?_
      refine q_bipush (pc := 79) C 6 dL_isSo_79 (by decide) ?_
      obtain ⟨b7, fs9, hb7, hm9, h⟩ := h
      refine q_cXi (pc := 81) (q_rVX C (st := [.int l2]) (b := b7) (kX8_ofGate l G b0 (t := 0) hL (fun _ _ h9 => h9.elim) h) (cwV 2 C.2.2.2.2.1 gL_isSo_X8_ofGate rfl rfl rfl (by decide +kernel) ⟨Nat.le_of_ble_eq_true rfl, Nat.le_of_ble_eq_true rfl⟩) hm9 rfl rfl rfl (by first | exact Nat.le_of_ble_eq_true rfl | (simp [q_cat, q_catI, q_catJ, q_catR, q_catN]; done)) (by rw [hb7]; first | done | rfl) dL_isSo_81 ⟨(by first | omega | (dsimp only; omega)), (by first | omega | (dsimp only; omega))⟩) (fun E9 M9 h9 => h9.elim) (fun x5 M6 h => ?_)
      refine q_iadd (pc := 84) C dL_isSo_84 ?_
      refine q_istore_n (pc := 85) C 2 [(2, .int (l2 + x5)), (0, va_rf l0), (1, .int l1), (3, .int l3)] dL_isSo_85 rfl (by decide) (by first | rfl | simp [q_cat, q_catI, q_catJ, q_catR, q_catN]) ?_
      refine q_aload_n (pc := 86) C 0 1 dL_isSo_86 rfl rfl ?_
      refine q_iload_n (pc := 87) C 3 3 dL_isSo_87 rfl rfl ?_
      refine q_bipush (pc := 88) C 7 dL_isSo_88 (by decide) ?_
      obtain ⟨b10, fs9, hb10, hm9, h⟩ := h
      refine q_cXi (pc := 90) (q_rVX C (st := []) (b := b10) (kX8_ofGate l G b0 (t := 0) hL (fun _ _ h9 => h9.elim) h) (cwV 2 C.2.2.2.2.1 gL_isSo_X8_ofGate rfl rfl rfl (by decide +kernel) ⟨Nat.le_of_ble_eq_true rfl, Nat.le_of_ble_eq_true rfl⟩) hm9 rfl rfl rfl (by first | exact Nat.le_of_ble_eq_true rfl | (simp [q_cat, q_catI, q_catJ, q_catR, q_catN]; done)) (by rw [hb10]; first | done | rfl) dL_isSo_90 ⟨(by first | omega | (dsimp only; omega)), (by first | omega | (dsimp only; omega))⟩) (fun E9 M9 h9 => h9.elim) (fun x8 M9 h => ?_)
      refine q_istore (pc := 93) C 4 [(4, .int x8), (2, .int (l2 + x5)), (0, va_rf l0), (1, .int l1), (3, .int l3)] dL_isSo_93 (by decide) (by first | rfl | simp [q_cat, q_catI, q_catJ, q_catR, q_catN]) ?_
      refine q_iload (pc := 95) C 4 0 dL_isSo_95 rfl ?_
      refine q_if_lt (pc := 97) C 121 dL_isSo_97 (by decide) (fun c11 => ?_) (fun c11 => ?_)
      · have h := h.1 c11
        refine q_widen (k2 := 0) (n2 := 0) (by omega) (by omega) ?_
        refine q_lv [2, 3, 1, 4, 0] rfl ?_
        exact tL_isSo_121 C hr hlocks hL ih h
      · have h := h.2 c11
        refine q_aload_n (pc := 100) C 0 2 dL_isSo_100 rfl rfl ?_
        refine q_iload (pc := 101) C 4 0 dL_isSo_101 rfl ?_
        refine q_iconst (pc := 103) C 3 dL_isSo_103 (by decide) ?_
        obtain ⟨b14, fs9, hb14, hm9, h⟩ := h
        refine q_cXi (pc := 104) (q_rVX C (st := []) (b := b14) (kX8_ofSleeper l G b0 (t := 0) hL (fun _ _ h9 => h9.elim) h) (cwV 2 C.2.2.2.2.1 gL_isSo_X8_ofSleeper rfl rfl rfl (by decide +kernel) ⟨Nat.le_of_ble_eq_true rfl, Nat.le_of_ble_eq_true rfl⟩) hm9 rfl rfl rfl (by first | exact Nat.le_of_ble_eq_true rfl | (simp [q_cat, q_catI, q_catJ, q_catR, q_catN]; done)) (by rw [hb14]; first | done | rfl) dL_isSo_104 ⟨(by first | omega | (dsimp only; omega)), (by first | omega | (dsimp only; omega))⟩) (fun E9 M9 h9 => h9.elim) (fun x12 M13 h => ?_)
        refine q_iload_n (pc := 107) C 3 4 dL_isSo_107 rfl rfl ?_
        refine q_icmp_ne (pc := 108) C 200 dL_isSo_108 (by decide) (fun c15 => ?_) (fun c15 => ?_)
        · have h := h.2 c15
          refine q_iconst (pc := 200) C 0 dL_isSo_200 (by decide) ?_
          exact q_zret (pc := 201) C hr hlocks ⟨(by decide), h⟩ dL_isSo_201 (by omega) (by omega)
        · have h := h.1 c15
          refine q_aload_n (pc := 111) C 0 2 dL_isSo_111 rfl rfl ?_
          refine q_iload (pc := 112) C 4 0 dL_isSo_112 rfl ?_
          refine q_iconst (pc := 114) C 4 dL_isSo_114 (by decide) ?_
          obtain ⟨b18, fs9, hb18, hm9, h⟩ := h
          refine q_cXi (pc := 115) (q_rVX C (st := []) (b := b18) (kX8_ofSleeper l G b0 (t := 0) hL (fun _ _ h9 => h9.elim) h) (cwV 2 C.2.2.2.2.1 gL_isSo_X8_ofSleeper rfl rfl rfl (by decide +kernel) ⟨Nat.le_of_ble_eq_true rfl, Nat.le_of_ble_eq_true rfl⟩) hm9 rfl rfl rfl (by first | exact Nat.le_of_ble_eq_true rfl | (simp [q_cat, q_catI, q_catJ, q_catR, q_catN]; done)) (by rw [hb18]; first | done | rfl) dL_isSo_115 ⟨(by first | omega | (dsimp only; omega)), (by first | omega | (dsimp only; omega))⟩) (fun E9 M9 h9 => h9.elim) (fun x16 M17 h => ?_)
          refine q_if_ne (pc := 118) C 200 dL_isSo_118 (by decide) (fun c19 => ?_) (fun c19 => ?_)
          · have h := h.2 c19
            refine q_iconst (pc := 200) C 0 dL_isSo_200 (by decide) ?_
            exact q_zret (pc := 201) C hr hlocks ⟨(by decide), h⟩ dL_isSo_201 (by omega) (by omega)
          · have h := h.1 c19
            refine q_widen (k2 := 0) (n2 := 0) (by omega) (by omega) ?_
            refine q_lv [2, 3, 1, 4, 0] rfl ?_
            exact tL_isSo_121 C hr hlocks hL ih h
set_option maxRecDepth 100000 in
set_option maxHeartbeats 4000000 in
theorem tL_isSo_4 {p : Program} {l : Launch} {e : Env} {s : State} {m : MethodId} {args : Array Value} {below : List Frame} {meth : Method} {c : Code} {G : mG} {b0 : Nat} (C : m_C p s m args c cL_isSo 8 RL wsL_isSo G b0) (hr : meth.sig.returnType = (some .boolean)) (hlocks : meth.locks = false) (hL : l.stackTraces = false) {κ : Int32 → mM → Prop} : ∀ (f : Nat) (l0 : Option Nat) (l1 : Int32) (l2 : Int32) (M : mM), wL_isSo_4 κ f l0 l1 l2 M → m_W p l e ({ frames := 8, cells := 0, slots := 0, locals := 135 } : Room) s m args below meth c G b0 (MQ below (va_Qi κ (m_B G b0) (fun q => b0 ≤ q)) args s 0 0 (fun q => b0 ≤ q)) 8 M 0 0 4 [(0, va_rf l0), (1, .int l1), (2, .int l2)] [] := by
  intro f
  induction f with
  | zero =>
    intro l0 l1 l2 M h
    exact absurd h (by simp [wL_isSo_4])
  | succ f ih =>
    intro l0 l1 l2 M h
    rw [wL_isSo_4] at h
    refine q_iload_n (pc := 4) C 2 2 dL_isSo_4 rfl rfl ?_
    refine q_bipush (pc := 5) C 6 dL_isSo_5 (by decide) ?_
    refine q_icmp_ge (pc := 7) C 63 dL_isSo_7 (by decide) (fun c1 => ?_) (fun c1 => ?_)
    · have h := h.1 c1
      refine q_iconst (pc := 63) C 0 dL_isSo_63 (by decide) ?_
      refine q_istore_n (pc := 64) C 2 [(2, .int 0), (0, va_rf l0), (1, .int l1)] dL_isSo_64 rfl (by decide) (by first | rfl | simp [q_cat, q_catI, q_catJ, q_catR, q_catN]) ?_
      refine q_iconst (pc := 65) C 0 dL_isSo_65 (by decide) ?_
      refine q_istore_n (pc := 66) C 3 [(3, .int 0), (2, .int 0), (0, va_rf l0), (1, .int l1)] dL_isSo_66 rfl (by decide) (by first | rfl | simp [q_cat, q_catI, q_catJ, q_catR, q_catN]) ?_
      refine q_widen (k2 := 0) (n2 := 0) (by omega) (by omega) ?_
      refine q_lv [2, 3, 1, 0] rfl ?_
      obtain ⟨f9, h⟩ := h
      exact tL_isSo_67 C hr hlocks hL f9 _ _ _ _ _ h
    · have h := h.2 c1
      refine q_iload_n (pc := 10) C 1 1 dL_isSo_10 rfl rfl ?_
      refine q_aload_n (pc := 11) C 0 0 dL_isSo_11 rfl rfl ?_
      refine q_iload_n (pc := 12) C 2 2 dL_isSo_12 rfl rfl ?_
      refine q_iconst (pc := 13) C 2 dL_isSo_13 (by decide) ?_
      obtain ⟨b4, fs9, hb4, hm9, h⟩ := h
      refine q_cXi (pc := 14) (q_rVX C (st := [.int l1]) (b := b4) (kX8_ofLand l G b0 (t := 0) hL (fun _ _ h9 => h9.elim) h) (cwV 2 C.2.2.2.2.1 gL_isSo_X8_ofLand rfl rfl rfl (by decide +kernel) ⟨Nat.le_of_ble_eq_true rfl, Nat.le_of_ble_eq_true rfl⟩) hm9 rfl rfl rfl (by first | exact Nat.le_of_ble_eq_true rfl | (simp [q_cat, q_catI, q_catJ, q_catR, q_catN]; done)) (by rw [hb4]; first | done | rfl) dL_isSo_14 ⟨(by first | omega | (dsimp only; omega)), (by first | omega | (dsimp only; omega))⟩) (fun E9 M9 h9 => h9.elim) (fun x2 M3 h => ?_)
      refine q_iadd (pc := 17) C dL_isSo_17 ?_
      refine q_istore_n (pc := 18) C 1 [(1, .int (l1 + x2)), (0, va_rf l0), (2, .int l2)] dL_isSo_18 rfl (by decide) (by first | rfl | simp [q_cat, q_catI, q_catJ, q_catR, q_catN]) ?_
      refine q_aload_n (pc := 19) C 0 1 dL_isSo_19 rfl rfl ?_
      refine q_iload_n (pc := 20) C 2 2 dL_isSo_20 rfl rfl ?_
      refine q_iconst (pc := 21) C 2 dL_isSo_21 (by decide) ?_
      obtain ⟨b7, fs9, hb7, hm9, h⟩ := h
      refine q_cXi (pc := 22) (q_rVX C (st := []) (b := b7) (kX8_ofLand l G b0 (t := 0) hL (fun _ _ h9 => h9.elim) h) (cwV 2 C.2.2.2.2.1 gL_isSo_X8_ofLand rfl rfl rfl (by decide +kernel) ⟨Nat.le_of_ble_eq_true rfl, Nat.le_of_ble_eq_true rfl⟩) hm9 rfl rfl rfl (by first | exact Nat.le_of_ble_eq_true rfl | (simp [q_cat, q_catI, q_catJ, q_catR, q_catN]; done)) (by rw [hb7]; first | done | rfl) dL_isSo_22 ⟨(by first | omega | (dsimp only; omega)), (by first | omega | (dsimp only; omega))⟩) (fun E9 M9 h9 => h9.elim) (fun x5 M6 h => ?_)
      refine q_if_lt (pc := 25) C 55 dL_isSo_25 (by decide) (fun c8 => ?_) (fun c8 => ?_)
      · have h := h.1 c8
        refine q_iconst (pc := 55) C 0 dL_isSo_55 (by decide) ?_
        exact q_zret (pc := 56) C hr hlocks ⟨(by decide), h⟩ dL_isSo_56 (by omega) (by omega)
      · have h := h.2 c8
        refine q_aload_n (pc := 28) C 0 1 dL_isSo_28 rfl rfl ?_
        refine q_iload_n (pc := 29) C 2 2 dL_isSo_29 rfl rfl ?_
        refine q_iconst (pc := 30) C 4 dL_isSo_30 (by decide) ?_
        obtain ⟨b11, fs9, hb11, hm9, h⟩ := h
        refine q_cXi (pc := 31) (q_rVX C (st := []) (b := b11) (kX8_ofLand l G b0 (t := 0) hL (fun _ _ h9 => h9.elim) h) (cwV 2 C.2.2.2.2.1 gL_isSo_X8_ofLand rfl rfl rfl (by decide +kernel) ⟨Nat.le_of_ble_eq_true rfl, Nat.le_of_ble_eq_true rfl⟩) hm9 rfl rfl rfl (by first | exact Nat.le_of_ble_eq_true rfl | (simp [q_cat, q_catI, q_catJ, q_catR, q_catN]; done)) (by rw [hb11]; first | done | rfl) dL_isSo_31 ⟨(by first | omega | (dsimp only; omega)), (by first | omega | (dsimp only; omega))⟩) (fun E9 M9 h9 => h9.elim) (fun x9 M10 h => ?_)
        refine q_if_lt (pc := 34) C 55 dL_isSo_34 (by decide) (fun c12 => ?_) (fun c12 => ?_)
        · have h := h.1 c12
          refine q_iconst (pc := 55) C 0 dL_isSo_55 (by decide) ?_
          exact q_zret (pc := 56) C hr hlocks ⟨(by decide), h⟩ dL_isSo_56 (by omega) (by omega)
        · have h := h.2 c12
          refine q_aload_n (pc := 37) C 0 1 dL_isSo_37 rfl rfl ?_
          refine q_iload_n (pc := 38) C 2 2 dL_isSo_38 rfl rfl ?_
          refine q_iconst (pc := 39) C 5 dL_isSo_39 (by decide) ?_
          obtain ⟨b15, fs9, hb15, hm9, h⟩ := h
          refine q_cXi (pc := 40) (q_rVX C (st := []) (b := b15) (kX8_ofLand l G b0 (t := 0) hL (fun _ _ h9 => h9.elim) h) (cwV 2 C.2.2.2.2.1 gL_isSo_X8_ofLand rfl rfl rfl (by decide +kernel) ⟨Nat.le_of_ble_eq_true rfl, Nat.le_of_ble_eq_true rfl⟩) hm9 rfl rfl rfl (by first | exact Nat.le_of_ble_eq_true rfl | (simp [q_cat, q_catI, q_catJ, q_catR, q_catN]; done)) (by rw [hb15]; first | done | rfl) dL_isSo_40 ⟨(by first | omega | (dsimp only; omega)), (by first | omega | (dsimp only; omega))⟩) (fun E9 M9 h9 => h9.elim) (fun x13 M14 h => ?_)
          refine q_if_lt (pc := 43) C 55 dL_isSo_43 (by decide) (fun c16 => ?_) (fun c16 => ?_)
          · have h := h.1 c16
            refine q_iconst (pc := 55) C 0 dL_isSo_55 (by decide) ?_
            exact q_zret (pc := 56) C hr hlocks ⟨(by decide), h⟩ dL_isSo_56 (by omega) (by omega)
          · have h := h.2 c16
            refine q_aload_n (pc := 46) C 0 1 dL_isSo_46 rfl rfl ?_
            refine q_iload_n (pc := 47) C 2 2 dL_isSo_47 rfl rfl ?_
            refine q_iconst (pc := 48) C 3 dL_isSo_48 (by decide) ?_
            obtain ⟨b19, fs9, hb19, hm9, h⟩ := h
            refine q_cXi (pc := 49) (q_rVX C (st := []) (b := b19) (kX8_ofLand l G b0 (t := 0) hL (fun _ _ h9 => h9.elim) h) (cwV 2 C.2.2.2.2.1 gL_isSo_X8_ofLand rfl rfl rfl (by decide +kernel) ⟨Nat.le_of_ble_eq_true rfl, Nat.le_of_ble_eq_true rfl⟩) hm9 rfl rfl rfl (by first | exact Nat.le_of_ble_eq_true rfl | (simp [q_cat, q_catI, q_catJ, q_catR, q_catN]; done)) (by rw [hb19]; first | done | rfl) dL_isSo_49 ⟨(by first | omega | (dsimp only; omega)), (by first | omega | (dsimp only; omega))⟩) (fun E9 M9 h9 => h9.elim) (fun x17 M18 h => ?_)
            refine q_if_ge (pc := 52) C 57 dL_isSo_52 (by decide) (fun c20 => ?_) (fun c20 => ?_)
            · have h := h.1 c20
              refine q_iinc (pc := 57) C 2 2 (l2 + 1) [(2, .int (l2 + 1)), (1, .int (l1 + x2)), (0, va_rf l0)] dL_isSo_57 rfl (by rfl) (by decide) (by first | rfl | simp [q_cat, q_catI, q_catJ, q_catR, q_catN]) ?_
              refine q_goto (pc := 60) C 4 dL_isSo_60 (by decide) ?_
              refine q_widen (k2 := 0) (n2 := 0) (by omega) (by omega) ?_
              refine q_lv [2, 1, 0] rfl ?_
              exact ih _ _ _ _ h
            · have h := h.2 c20
              refine q_iconst (pc := 55) C 0 dL_isSo_55 (by decide) ?_
              exact q_zret (pc := 56) C hr hlocks ⟨(by decide), h⟩ dL_isSo_56 (by omega) (by omega)
set_option maxRecDepth 100000 in
set_option maxHeartbeats 4000000 in
theorem tL_isSo {p : Program} {l : Launch} {e : Env} {s : State} {m : MethodId} {args : Array Value} {below : List Frame} {meth : Method} {c : Code} {G : mG} {b0 : Nat} (C : m_C p s m args c cL_isSo 8 RL wsL_isSo G b0) (hr : meth.sig.returnType = (some .boolean)) (hlocks : meth.locks = false) (hL : l.stackTraces = false) {κ : Int32 → mM → Prop} {l0 : Option Nat} {M : mM} (h : wL_isSo κ l0 M) : m_W p l e ({ frames := 8, cells := 0, slots := 0, locals := 135 } : Room) s m args below meth c G b0 (MQ below (va_Qi κ (m_B G b0) (fun q => b0 ≤ q)) args s 0 0 (fun q => b0 ≤ q)) 8 M 0 0 0 [(0, va_rf l0)] [] := by
  unfold wL_isSo at h
  refine q_iconst (pc := 0) C 0 dL_isSo_0 (by decide) ?_
  refine q_istore_n (pc := 1) C 1 [(1, .int 0), (0, va_rf l0)] dL_isSo_1 rfl (by decide) (by first | rfl | simp [q_cat, q_catI, q_catJ, q_catR, q_catN]) ?_
  refine q_iconst (pc := 2) C 0 dL_isSo_2 (by decide) ?_
  refine q_istore_n (pc := 3) C 2 [(2, .int 0), (1, .int 0), (0, va_rf l0)] dL_isSo_3 rfl (by decide) (by first | rfl | simp [q_cat, q_catI, q_catJ, q_catR, q_catN]) ?_
  refine q_widen (k2 := 0) (n2 := 0) (by omega) (by omega) ?_
  refine q_lv [2, 1, 0] rfl ?_
  obtain ⟨f9, h⟩ := h
  exact tL_isSo_4 C hr hlocks hL f9 _ _ _ _ h
set_option maxRecDepth 100000 in
set_option maxHeartbeats 4000000 in
theorem kL_isSo (l : Launch) (G : mG) (b0 : Nat) (hL : l.stackTraces = false) {l0 : Option Nat} {M : mM} {κ : Int32 → mM → Prop} (h : wL_isSo κ l0 M) : Met l yL_isSo wsL_isSo ({ frames := 8, cells := 0, slots := 0, locals := 135 } : Room) (va_Pc [va_rf l0] (m_Pre G b0 M)) (va_Qi κ (m_B G b0) (fun q => b0 ≤ q)) 0 0 (fun q => b0 ≤ q) := by
  refine m_met (cc := cL_isSo) (maxL := 8) (ret := (some .boolean)) (lv := [(0, va_rf l0)]) RL rfl (by decide +kernel) rfl (by first | exact Nat.le_of_ble_eq_true rfl | simp [lg_sl, q_cat, q_catI, q_catJ, q_catR, q_catN]) (by first | rfl | (simp [lv_args, q_cat, q_catI, q_catJ, q_catR, q_catN]; done) | (simp [lv_args, q_cat, q_catI, q_catJ, q_catR, q_catN]; rfl)) ?_
  intro p e s m args below meth c C hr hlocks hni
  exact tL_isSo C hr hlocks hL h
