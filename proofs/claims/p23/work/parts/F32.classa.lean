/-! X8_landNumbered -/
set_option maxRecDepth 100000 in
set_option maxHeartbeats 4000000 in
theorem tX8_landNumbered_10 {p : Program} {l : Launch} {e : Env} {s : State} {m : MethodId} {args : Array Value} {below : List Frame} {meth : Method} {c : Code} {G : mG} {b0 : Nat} (C : m_C p s m args c cX8_landNumbered 2 RX8 wsX8_landNumbered G b0) (hr : meth.sig.returnType = (some (.object "Lullabygate$Land"))) (hlocks : meth.locks = false) {t : Nat} (hL : l.stackTraces = false) (hx : ∀ x ∈ c.exceptionTable.toList, False) {κ : Option Nat → mM → Prop} {ξ : String → mM → Prop} (ht : ∀ E M, ξ E M → 1 ≤ t) {M : mM} (h : wX8_landNumbered_10 κ ξ M) : m_W p l e ({ frames := 6, cells := (0 + 1 * t), slots := (0 + 6 * t), locals := 90 } : Room) s m args below meth c G b0 (vx_MQ below (va_Qq κ (m_B G b0) (fun q => b0 ≤ q)) (m_X G b0 ξ) args s (0 + 1 * t) (0 + 6 * t) (fun q => b0 ≤ q)) 2 M 0 0 10 [] [] := by
  unfold wX8_landNumbered_10 at h
  have ht9 := ht _ _ h
  exact q_throwSW (pc := 10) (names := ["java/lang/RuntimeException", "java/lang/Exception"]) (text := "no such LAND") C hL hx hlocks h (by decide +kernel) (by decide +kernel) (by decide +kernel) (by decide +kernel) (List.mem_of_getElem? (i := 333) (by decide +kernel)) (by decide +kernel) (by decide +kernel) (by decide +kernel) dX8_landNumbered_10 dX8_landNumbered_13 dX8_landNumbered_14 dX8_landNumbered_17 dX8_landNumbered_20 (Nat.le_of_ble_eq_true rfl) (by first | exact Nat.le_of_ble_eq_true rfl | (simp [q_cat, q_catI, q_catJ, q_catR, q_catN]; done) | (simp [q_cat, q_catI, q_catJ, q_catR, q_catN]; decide)) (by first | omega | (dsimp only; omega)) (by first | omega | (dsimp only; omega)) (by omega) (by omega)
set_option maxRecDepth 100000 in
set_option maxHeartbeats 4000000 in
theorem tX8_landNumbered {p : Program} {l : Launch} {e : Env} {s : State} {m : MethodId} {args : Array Value} {below : List Frame} {meth : Method} {c : Code} {G : mG} {b0 : Nat} (C : m_C p s m args c cX8_landNumbered 2 RX8 wsX8_landNumbered G b0) (hr : meth.sig.returnType = (some (.object "Lullabygate$Land"))) (hlocks : meth.locks = false) {t : Nat} (hL : l.stackTraces = false) (hx : ∀ x ∈ c.exceptionTable.toList, False) {κ : Option Nat → mM → Prop} {ξ : String → mM → Prop} (ht : ∀ E M, ξ E M → 1 ≤ t) {l0 : Option Nat} {l1 : Int32} {M : mM} (h : wX8_landNumbered κ ξ l0 l1 M) : m_W p l e ({ frames := 6, cells := (0 + 1 * t), slots := (0 + 6 * t), locals := 90 } : Room) s m args below meth c G b0 (vx_MQ below (va_Qq κ (m_B G b0) (fun q => b0 ≤ q)) (m_X G b0 ξ) args s (0 + 1 * t) (0 + 6 * t) (fun q => b0 ≤ q)) 2 M 0 0 0 [(0, va_rf l0), (1, .int l1)] [] := by
  unfold wX8_landNumbered at h
  refine q_iload_n (pc := 0) C 1 1 dX8_landNumbered_0 rfl rfl ?_
  refine q_if_lt (pc := 1) C 10 dX8_landNumbered_1 (by decide) (fun c1 => ?_) (fun c1 => ?_)
  · have h := h.1 c1
    refine q_widen (k2 := 0) (n2 := 0) (by omega) (by omega) ?_
    refine q_lv [] rfl ?_
    exact tX8_landNumbered_10 C hr hlocks hL hx ht h
  · have h := h.2 c1
    refine q_iload_n (pc := 4) C 1 1 dX8_landNumbered_4 rfl rfl ?_
    refine q_bipush (pc := 5) C 6 dX8_landNumbered_5 (by decide) ?_
    refine q_icmp_lt (pc := 7) C 21 dX8_landNumbered_7 (by decide) (fun c2 => ?_) (fun c2 => ?_)
    · have h := h.1 c2
      refine q_aload_n (pc := 21) C 0 0 dX8_landNumbered_21 rfl rfl ?_
      refine q_gR (pc := 22) C h (T := TX8) rfl (by decide) (wk_u rfl wm_X8_landNumbered uq_X8 (by decide +kernel)) (by decide +kernel) (fun _ h9 => h9) dX8_landNumbered_22 (fun x3 h => ?_)
      refine q_iload_n (pc := 25) C 1 1 dX8_landNumbered_25 rfl rfl ?_
      refine q_aald (pc := 26) C h rfl dX8_landNumbered_26 (fun x4 h => ?_)
      exact q_aretX (pc := 27) C hr (by first | exact Or.inl ⟨_, rfl⟩ | exact Or.inr ⟨_, rfl⟩) hlocks h dX8_landNumbered_27 (by omega) (by omega)
    · have h := h.2 c2
      refine q_widen (k2 := 0) (n2 := 0) (by omega) (by omega) ?_
      refine q_lv [] rfl ?_
      exact tX8_landNumbered_10 C hr hlocks hL hx ht h
set_option maxRecDepth 100000 in
set_option maxHeartbeats 4000000 in
theorem kX8_landNumbered (l : Launch) (G : mG) (b0 : Nat) {t : Nat} (hL : l.stackTraces = false) {b : Nat} {l1 : Int32} {M : mM} {κ : Option Nat → mM → Prop} {ξ : String → mM → Prop} (ht : ∀ E M, ξ E M → 1 ≤ t) (h : wX8_landNumbered κ ξ (some b) l1 M) : vx_Met l yX8_landNumbered wsX8_landNumbered ({ frames := 6, cells := (0 + 1 * t), slots := (0 + 6 * t), locals := 90 } : Room) (va_Pc [.ref b, .int l1] (m_Pre G b0 M)) (va_Qq κ (m_B G b0) (fun q => b0 ≤ q)) (m_X G b0 ξ) (0 + 1 * t) (0 + 6 * t) (fun q => b0 ≤ q) := by
  refine m_metX (cc := cX8_landNumbered) (maxL := 2) (ret := (some (.object "Lullabygate$Land"))) (lv := [(0, va_rf (some b)), (1, .int l1)]) RX8 rfl (by decide +kernel) rfl (by first | exact Nat.le_of_ble_eq_true rfl | simp [lg_sl, q_cat, q_catI, q_catJ, q_catR, q_catN]) (by first | rfl | (simp [lv_args, q_cat, q_catI, q_catJ, q_catR, q_catN]; done) | (simp [lv_args, q_cat, q_catI, q_catJ, q_catR, q_catN]; rfl)) ?_
  intro p e s m args below meth c C hr hlocks hx
  exact tX8_landNumbered C hr hlocks hL hx ht h
/-! X8_demandRange -/
set_option maxRecDepth 100000 in
set_option maxHeartbeats 4000000 in
theorem tX8_demandRange_10 {p : Program} {l : Launch} {e : Env} {s : State} {m : MethodId} {args : Array Value} {below : List Frame} {meth : Method} {c : Code} {G : mG} {b0 : Nat} (C : m_C p s m args c cX8_demandRange 3 RX8 wsX8_demandRange G b0) (hr : meth.sig.returnType = none) (hlocks : meth.locks = false) {t : Nat} (hL : l.stackTraces = false) (hx : ∀ x ∈ c.exceptionTable.toList, False) {κ : mM → Prop} {ξ : String → mM → Prop} (ht : ∀ E M, ξ E M → 1 ≤ t) {M : mM} (h : wX8_demandRange_10 κ ξ M) : m_W p l e ({ frames := 6, cells := (0 + 1 * t), slots := (0 + 6 * t), locals := 90 } : Room) s m args below meth c G b0 (vx_MQ below (va_Qv κ (m_B G b0) (fun q => b0 ≤ q)) (m_X G b0 ξ) args s (0 + 1 * t) (0 + 6 * t) (fun q => b0 ≤ q)) 3 M 0 0 10 [] [] := by
  unfold wX8_demandRange_10 at h
  have ht9 := ht _ _ h
  exact q_throwSW (pc := 10) (names := ["java/lang/RuntimeException", "java/lang/Exception"]) (text := "a number is outside its range") C hL hx hlocks h (by decide +kernel) (by decide +kernel) (by decide +kernel) (by decide +kernel) (List.mem_of_getElem? (i := 491) (by decide +kernel)) (by decide +kernel) (by decide +kernel) (by decide +kernel) dX8_demandRange_10 dX8_demandRange_13 dX8_demandRange_14 dX8_demandRange_17 dX8_demandRange_20 (Nat.le_of_ble_eq_true rfl) (by first | exact Nat.le_of_ble_eq_true rfl | (simp [q_cat, q_catI, q_catJ, q_catR, q_catN]; done) | (simp [q_cat, q_catI, q_catJ, q_catR, q_catN]; decide)) (by first | omega | (dsimp only; omega)) (by first | omega | (dsimp only; omega)) (by omega) (by omega)
set_option maxRecDepth 100000 in
set_option maxHeartbeats 4000000 in
theorem tX8_demandRange {p : Program} {l : Launch} {e : Env} {s : State} {m : MethodId} {args : Array Value} {below : List Frame} {meth : Method} {c : Code} {G : mG} {b0 : Nat} (C : m_C p s m args c cX8_demandRange 3 RX8 wsX8_demandRange G b0) (hr : meth.sig.returnType = none) (hlocks : meth.locks = false) {t : Nat} (hL : l.stackTraces = false) (hx : ∀ x ∈ c.exceptionTable.toList, False) {κ : mM → Prop} {ξ : String → mM → Prop} (ht : ∀ E M, ξ E M → 1 ≤ t) {l0 : Int32} {l1 : Int32} {l2 : Int32} {M : mM} (h : wX8_demandRange κ ξ l0 l1 l2 M) : m_W p l e ({ frames := 6, cells := (0 + 1 * t), slots := (0 + 6 * t), locals := 90 } : Room) s m args below meth c G b0 (vx_MQ below (va_Qv κ (m_B G b0) (fun q => b0 ≤ q)) (m_X G b0 ξ) args s (0 + 1 * t) (0 + 6 * t) (fun q => b0 ≤ q)) 3 M 0 0 0 [(0, .int l0), (1, .int l1), (2, .int l2)] [] := by
  unfold wX8_demandRange at h
  refine q_iload_n (pc := 0) C 0 0 dX8_demandRange_0 rfl rfl ?_
  refine q_iload_n (pc := 1) C 1 1 dX8_demandRange_1 rfl rfl ?_
  refine q_icmp_lt (pc := 2) C 10 dX8_demandRange_2 (by decide) (fun c1 => ?_) (fun c1 => ?_)
  · have h := h.1 c1
    refine q_widen (k2 := 0) (n2 := 0) (by omega) (by omega) ?_
    refine q_lv [] rfl ?_
    exact tX8_demandRange_10 C hr hlocks hL hx ht h
  · have h := h.2 c1
    refine q_iload_n (pc := 5) C 0 0 dX8_demandRange_5 rfl rfl ?_
    refine q_iload_n (pc := 6) C 2 2 dX8_demandRange_6 rfl rfl ?_
    refine q_icmp_le (pc := 7) C 21 dX8_demandRange_7 (by decide) (fun c2 => ?_) (fun c2 => ?_)
    · have h := h.1 c2
      exact q_vretX (pc := 21) C hr hlocks h dX8_demandRange_21 (by omega) (by omega)
    · have h := h.2 c2
      refine q_widen (k2 := 0) (n2 := 0) (by omega) (by omega) ?_
      refine q_lv [] rfl ?_
      exact tX8_demandRange_10 C hr hlocks hL hx ht h
set_option maxRecDepth 100000 in
set_option maxHeartbeats 4000000 in
theorem kX8_demandRange (l : Launch) (G : mG) (b0 : Nat) {t : Nat} (hL : l.stackTraces = false) {l0 : Int32} {l1 : Int32} {l2 : Int32} {M : mM} {κ : mM → Prop} {ξ : String → mM → Prop} (ht : ∀ E M, ξ E M → 1 ≤ t) (h : wX8_demandRange κ ξ l0 l1 l2 M) : vx_Met l yX8_demandRange wsX8_demandRange ({ frames := 6, cells := (0 + 1 * t), slots := (0 + 6 * t), locals := 90 } : Room) (va_Pc [.int l0, .int l1, .int l2] (m_Pre G b0 M)) (va_Qv κ (m_B G b0) (fun q => b0 ≤ q)) (m_X G b0 ξ) (0 + 1 * t) (0 + 6 * t) (fun q => b0 ≤ q) := by
  refine m_metX (cc := cX8_demandRange) (maxL := 3) (ret := none) (lv := [(0, .int l0), (1, .int l1), (2, .int l2)]) RX8 rfl (by decide +kernel) rfl (by first | exact Nat.le_of_ble_eq_true rfl | simp [lg_sl, q_cat, q_catI, q_catJ, q_catR, q_catN]) (by first | rfl | (simp [lv_args, q_cat, q_catI, q_catJ, q_catR, q_catN]; done) | (simp [lv_args, q_cat, q_catI, q_catJ, q_catR, q_catN]; rfl)) ?_
  intro p e s m args below meth c C hr hlocks hx
  exact tX8_demandRange C hr hlocks hL hx ht h
/-! X8_land -/
set_option maxRecDepth 100000 in
set_option maxHeartbeats 4000000 in
theorem tX8_land {p : Program} {l : Launch} {e : Env} {s : State} {m : MethodId} {args : Array Value} {below : List Frame} {meth : Method} {c : Code} {G : mG} {b0 : Nat} (C : m_C p s m args c cX8_land 6 RX8 wsX8_land G b0) (hr : meth.sig.returnType = (some .int)) (hlocks : meth.locks = false) {t : Nat} (hL : l.stackTraces = false) (hx : ∀ x ∈ c.exceptionTable.toList, False) {κ : Int32 → mM → Prop} {ξ : String → mM → Prop} (ht : ∀ E M, ξ E M → 1 ≤ t) {l0 : Option Nat} {l1 : Int32} {l2 : Int32} {l3 : Int32} {M : mM} (h : wX8_land κ ξ l0 l1 l2 l3 M) : m_W p l e ({ frames := 7, cells := (0 + 3 * t), slots := (0 + 18 * t), locals := 112 } : Room) s m args below meth c G b0 (vx_MQ below (va_Qi κ (m_B G b0) (fun q => b0 ≤ q)) (m_X G b0 ξ) args s (0 + 3 * t) (0 + 18 * t) (fun q => b0 ≤ q)) 6 M 0 0 0 [(0, va_rf l0), (1, .int l1), (2, .int l2), (3, .int l3)] [] := by
  unfold wX8_land at h
  refine q_aload_n (pc := 0) C 0 0 dX8_land_0 rfl rfl ?_
  refine q_iload_n (pc := 1) C 1 1 dX8_land_1 rfl rfl ?_
  obtain ⟨b3, fs9, hb3, hm9, h⟩ := h
  refine q_cXq (pc := 2) (q_rVX C (st := []) (b := b3) (kX8_landNumbered l G b0 (t := t) hL ht h) (cwV 1 C.2.2.2.2.1 gX8_land_X8_landNumbered rfl rfl rfl (by decide +kernel) ⟨Nat.le_of_ble_eq_true rfl, Nat.le_of_ble_eq_true rfl⟩) hm9 rfl rfl rfl (by first | exact Nat.le_of_ble_eq_true rfl | (simp [q_cat, q_catI, q_catJ, q_catR, q_catN]; done)) (by rw [hb3]; first | done | rfl) dX8_land_2 ⟨(by first | omega | (dsimp only; omega)), (by first | omega | (dsimp only; omega))⟩) (fun E9 M9 h9 => q_out C hx hlocks h9 (by omega) (by omega)) (fun x1 M2 h => ?_)
  refine q_astore (pc := 5) C 4 [(4, va_rf x1), (0, va_rf l0), (1, .int l1), (2, .int l2), (3, .int l3)] dX8_land_5 (by decide) (by first | rfl | simp [q_cat, q_catI, q_catJ, q_catR, q_catN]) ?_
  refine q_iload_n (pc := 7) C 2 3 dX8_land_7 rfl rfl ?_
  refine q_iconst (pc := 8) C 0 dX8_land_8 (by decide) ?_
  refine q_bipush (pc := 9) C 50 dX8_land_9 (by decide) ?_
  refine q_cXv (pc := 11) (q_rSX C (st := []) (kX8_demandRange l G b0 (t := t) hL ht h) (va_cwS 3 C.2.2.2.2.1 gX8_land_X8_demandRange rfl rfl rfl (by decide +kernel) ⟨Nat.le_of_ble_eq_true rfl, Nat.le_of_ble_eq_true rfl⟩) rfl (by first | exact Nat.le_of_ble_eq_true rfl | (simp [q_cat, q_catI, q_catJ, q_catR, q_catN]; done)) rfl dX8_land_11 ⟨(by first | omega | (dsimp only; omega)), (by first | omega | (dsimp only; omega))⟩) (fun E9 M9 h9 => q_out C hx hlocks h9 (by omega) (by omega)) (fun M4 h => ?_)
  refine q_iload_n (pc := 14) C 3 4 dX8_land_14 rfl rfl ?_
  refine q_iconst (pc := 15) C 0 dX8_land_15 (by decide) ?_
  refine q_bipush (pc := 16) C 99 dX8_land_16 (by decide) ?_
  refine q_cXv (pc := 18) (q_rSX C (st := []) (kX8_demandRange l G b0 (t := t) hL ht h) (va_cwS 3 C.2.2.2.2.1 gX8_land_X8_demandRange rfl rfl rfl (by decide +kernel) ⟨Nat.le_of_ble_eq_true rfl, Nat.le_of_ble_eq_true rfl⟩) rfl (by first | exact Nat.le_of_ble_eq_true rfl | (simp [q_cat, q_catI, q_catJ, q_catR, q_catN]; done)) rfl dX8_land_18 ⟨(by first | omega | (dsimp only; omega)), (by first | omega | (dsimp only; omega))⟩) (fun E9 M9 h9 => q_out C hx hlocks h9 (by omega) (by omega)) (fun M5 h => ?_)
  refine q_aload (pc := 21) C 4 0 dX8_land_21 rfl ?_
  refine q_gI (pc := 23) C h (T := TX2) rfl (by decide) (wk_u rfl wm_X8_land uq_X2 (by decide +kernel)) (by decide +kernel) (fun _ h9 => h9) dX8_land_23 (fun x6 h => ?_)
  refine q_istore (pc := 26) C 5 [(5, .int x6), (4, va_rf x1), (0, va_rf l0), (1, .int l1), (2, .int l2), (3, .int l3)] dX8_land_26 (by decide) (by first | rfl | simp [q_cat, q_catI, q_catJ, q_catR, q_catN]) ?_
  refine q_aload (pc := 28) C 4 1 dX8_land_28 rfl ?_
  refine q_iload_n (pc := 30) C 2 4 dX8_land_30 rfl rfl ?_
  refine q_p (pc := 31) C h .int (T := TX2) tyX2 tyX2_ok nmX2 rfl (by decide +kernel) rfl rfl rfl (by decide) (wk_u rfl wm_X8_land uq_X2 (by decide +kernel)) (by decide +kernel) (fun _ h9 => h9) rfl dX8_land_31 (fun M7 h => ?_)
  refine q_aload (pc := 34) C 4 1 dX8_land_34 rfl ?_
  refine q_iload_n (pc := 36) C 3 5 dX8_land_36 rfl rfl ?_
  refine q_p (pc := 37) C h .int (T := TX2) tyX2 tyX2_ok nmX2 rfl (by decide +kernel) rfl rfl rfl (by decide) (wk_u rfl wm_X8_land uq_X2 (by decide +kernel)) (by decide +kernel) (fun _ h9 => h9) rfl dX8_land_37 (fun M8 h => ?_)
  refine q_iload (pc := 40) C 5 0 dX8_land_40 rfl ?_
  exact q_iretX (pc := 42) C hr hlocks h dX8_land_42 (by omega) (by omega)
set_option maxRecDepth 100000 in
set_option maxHeartbeats 4000000 in
theorem kX8_land (l : Launch) (G : mG) (b0 : Nat) {t : Nat} (hL : l.stackTraces = false) {b : Nat} {l1 : Int32} {l2 : Int32} {l3 : Int32} {M : mM} {κ : Int32 → mM → Prop} {ξ : String → mM → Prop} (ht : ∀ E M, ξ E M → 1 ≤ t) (h : wX8_land κ ξ (some b) l1 l2 l3 M) : vx_Met l yX8_land wsX8_land ({ frames := 7, cells := (0 + 3 * t), slots := (0 + 18 * t), locals := 112 } : Room) (va_Pc [.ref b, .int l1, .int l2, .int l3] (m_Pre G b0 M)) (va_Qi κ (m_B G b0) (fun q => b0 ≤ q)) (m_X G b0 ξ) (0 + 3 * t) (0 + 18 * t) (fun q => b0 ≤ q) := by
  refine m_metX (cc := cX8_land) (maxL := 6) (ret := (some .int)) (lv := [(0, va_rf (some b)), (1, .int l1), (2, .int l2), (3, .int l3)]) RX8 rfl (by decide +kernel) rfl (by first | exact Nat.le_of_ble_eq_true rfl | simp [lg_sl, q_cat, q_catI, q_catJ, q_catR, q_catN]) (by first | rfl | (simp [lv_args, q_cat, q_catI, q_catJ, q_catR, q_catN]; done) | (simp [lv_args, q_cat, q_catI, q_catJ, q_catR, q_catN]; rfl)) ?_
  intro p e s m args below meth c C hr hlocks hx
  exact tX8_land C hr hlocks hL hx ht h
/-! X8_trade -/
set_option maxRecDepth 100000 in
set_option maxHeartbeats 4000000 in
theorem tX8_trade_23 {p : Program} {l : Launch} {e : Env} {s : State} {m : MethodId} {args : Array Value} {below : List Frame} {meth : Method} {c : Code} {G : mG} {b0 : Nat} (C : m_C p s m args c cX8_trade 6 RX8 wsX8_trade G b0) (hr : meth.sig.returnType = (some .int)) (hlocks : meth.locks = false) {t : Nat} (hL : l.stackTraces = false) (hx : ∀ x ∈ c.exceptionTable.toList, False) {κ : Int32 → mM → Prop} {ξ : String → mM → Prop} (ht : ∀ E M, ξ E M → 1 ≤ t) {M : mM} (h : wX8_trade_23 κ ξ M) : m_W p l e ({ frames := 7, cells := (0 + 3 * t), slots := (0 + 18 * t), locals := 111 } : Room) s m args below meth c G b0 (vx_MQ below (va_Qi κ (m_B G b0) (fun q => b0 ≤ q)) (m_X G b0 ξ) args s (0 + 3 * t) (0 + 18 * t) (fun q => b0 ≤ q)) 6 M (0 + 2 * t) (0 + 12 * t) 23 [] [] := by
  unfold wX8_trade_23 at h
  have ht9 := ht _ _ h
  exact q_throwS (pc := 23) (names := ["java/lang/RuntimeException", "java/lang/Exception"]) (text := "a QUOTA goes to another LAND, and not less than 0 of it") C hL hx hlocks h (by decide +kernel) (by decide +kernel) (by decide +kernel) (by decide +kernel) (List.mem_of_getElem? (i := 552) (by decide +kernel)) (by decide +kernel) (by decide +kernel) (by decide +kernel) dX8_trade_23 dX8_trade_26 dX8_trade_27 dX8_trade_29 dX8_trade_32 (Nat.le_of_ble_eq_true rfl) (by first | exact Nat.le_of_ble_eq_true rfl | (simp [q_cat, q_catI, q_catJ, q_catR, q_catN]; done) | (simp [q_cat, q_catI, q_catJ, q_catR, q_catN]; decide)) (by first | omega | (dsimp only; omega)) (by first | omega | (dsimp only; omega)) (by omega) (by omega)
set_option maxRecDepth 100000 in
set_option maxHeartbeats 4000000 in
theorem tX8_trade_54 {p : Program} {l : Launch} {e : Env} {s : State} {m : MethodId} {args : Array Value} {below : List Frame} {meth : Method} {c : Code} {G : mG} {b0 : Nat} (C : m_C p s m args c cX8_trade 6 RX8 wsX8_trade G b0) (hr : meth.sig.returnType = (some .int)) (hlocks : meth.locks = false) {t : Nat} (hL : l.stackTraces = false) (hx : ∀ x ∈ c.exceptionTable.toList, False) {κ : Int32 → mM → Prop} {ξ : String → mM → Prop} (ht : ∀ E M, ξ E M → 1 ≤ t) {M : mM} (h : wX8_trade_54 κ ξ M) : m_W p l e ({ frames := 7, cells := (0 + 3 * t), slots := (0 + 18 * t), locals := 111 } : Room) s m args below meth c G b0 (vx_MQ below (va_Qi κ (m_B G b0) (fun q => b0 ≤ q)) (m_X G b0 ξ) args s (0 + 3 * t) (0 + 18 * t) (fun q => b0 ≤ q)) 6 M (0 + 2 * t) (0 + 12 * t) 54 [] [] := by
  unfold wX8_trade_54 at h
  have ht9 := ht _ _ h
  exact q_throwS (pc := 54) (names := ["java/lang/RuntimeException", "java/lang/Exception"]) (text := "the QUOTA is not enough, or would be too much") C hL hx hlocks h (by decide +kernel) (by decide +kernel) (by decide +kernel) (by decide +kernel) (List.mem_of_getElem? (i := 562) (by decide +kernel)) (by decide +kernel) (by decide +kernel) (by decide +kernel) dX8_trade_54 dX8_trade_57 dX8_trade_58 dX8_trade_60 dX8_trade_63 (Nat.le_of_ble_eq_true rfl) (by first | exact Nat.le_of_ble_eq_true rfl | (simp [q_cat, q_catI, q_catJ, q_catR, q_catN]; done) | (simp [q_cat, q_catI, q_catJ, q_catR, q_catN]; decide)) (by first | omega | (dsimp only; omega)) (by first | omega | (dsimp only; omega)) (by omega) (by omega)
set_option maxRecDepth 100000 in
set_option maxHeartbeats 4000000 in
theorem tX8_trade {p : Program} {l : Launch} {e : Env} {s : State} {m : MethodId} {args : Array Value} {below : List Frame} {meth : Method} {c : Code} {G : mG} {b0 : Nat} (C : m_C p s m args c cX8_trade 6 RX8 wsX8_trade G b0) (hr : meth.sig.returnType = (some .int)) (hlocks : meth.locks = false) {t : Nat} (hL : l.stackTraces = false) (hx : ∀ x ∈ c.exceptionTable.toList, False) {κ : Int32 → mM → Prop} {ξ : String → mM → Prop} (ht : ∀ E M, ξ E M → 1 ≤ t) {l0 : Option Nat} {l1 : Int32} {l2 : Int32} {l3 : Int32} {M : mM} (h : wX8_trade κ ξ l0 l1 l2 l3 M) : m_W p l e ({ frames := 7, cells := (0 + 3 * t), slots := (0 + 18 * t), locals := 111 } : Room) s m args below meth c G b0 (vx_MQ below (va_Qi κ (m_B G b0) (fun q => b0 ≤ q)) (m_X G b0 ξ) args s (0 + 3 * t) (0 + 18 * t) (fun q => b0 ≤ q)) 6 M 0 0 0 [(0, va_rf l0), (1, .int l1), (2, .int l2), (3, .int l3)] [] := by
  unfold wX8_trade at h
  refine q_aload_n (pc := 0) C 0 0 dX8_trade_0 rfl rfl ?_
  refine q_iload_n (pc := 1) C 1 1 dX8_trade_1 rfl rfl ?_
  obtain ⟨b3, fs9, hb3, hm9, h⟩ := h
  refine q_cXq (pc := 2) (q_rVX C (st := []) (b := b3) (kX8_landNumbered l G b0 (t := t) hL ht h) (cwV 1 C.2.2.2.2.1 gX8_trade_X8_landNumbered rfl rfl rfl (by decide +kernel) ⟨Nat.le_of_ble_eq_true rfl, Nat.le_of_ble_eq_true rfl⟩) hm9 rfl rfl rfl (by first | exact Nat.le_of_ble_eq_true rfl | (simp [q_cat, q_catI, q_catJ, q_catR, q_catN]; done)) (by rw [hb3]; first | done | rfl) dX8_trade_2 ⟨(by first | omega | (dsimp only; omega)), (by first | omega | (dsimp only; omega))⟩) (fun E9 M9 h9 => q_out C hx hlocks h9 (by omega) (by omega)) (fun x1 M2 h => ?_)
  refine q_astore (pc := 5) C 4 [(4, va_rf x1), (0, va_rf l0), (1, .int l1), (2, .int l2), (3, .int l3)] dX8_trade_5 (by decide) (by first | rfl | simp [q_cat, q_catI, q_catJ, q_catR, q_catN]) ?_
  refine q_aload_n (pc := 7) C 0 1 dX8_trade_7 rfl rfl ?_
  refine q_iload_n (pc := 8) C 2 3 dX8_trade_8 rfl rfl ?_
  obtain ⟨b6, fs9, hb6, hm9, h⟩ := h
  refine q_cXq (pc := 9) (q_rVX C (st := []) (b := b6) (kX8_landNumbered l G b0 (t := t) hL ht h) (cwV 1 C.2.2.2.2.1 gX8_trade_X8_landNumbered rfl rfl rfl (by decide +kernel) ⟨Nat.le_of_ble_eq_true rfl, Nat.le_of_ble_eq_true rfl⟩) hm9 rfl rfl rfl (by first | exact Nat.le_of_ble_eq_true rfl | (simp [q_cat, q_catI, q_catJ, q_catR, q_catN]; done)) (by rw [hb6]; first | done | rfl) dX8_trade_9 ⟨(by first | omega | (dsimp only; omega)), (by first | omega | (dsimp only; omega))⟩) (fun E9 M9 h9 => q_out C hx hlocks h9 (by omega) (by omega)) (fun x4 M5 h => ?_)
  refine q_astore (pc := 12) C 5 [(5, va_rf x4), (4, va_rf x1), (0, va_rf l0), (1, .int l1), (2, .int l2), (3, .int l3)] dX8_trade_12 (by decide) (by first | rfl | simp [q_cat, q_catI, q_catJ, q_catR, q_catN]) ?_
  refine q_iload_n (pc := 14) C 1 3 dX8_trade_14 rfl rfl ?_
  refine q_iload_n (pc := 15) C 2 4 dX8_trade_15 rfl rfl ?_
  refine q_icmp_eq (pc := 16) C 23 dX8_trade_16 (by decide) (fun c7 => ?_) (fun c7 => ?_)
  · have h := h.1 c7
    refine q_widen (k2 := (0 + 2 * t)) (n2 := (0 + 12 * t)) (by omega) (by omega) ?_
    refine q_lv [] rfl ?_
    exact tX8_trade_23 C hr hlocks hL hx ht h
  · have h := h.2 c7
    refine q_iload_n (pc := 19) C 3 5 dX8_trade_19 rfl rfl ?_
    refine q_if_ge (pc := 20) C 33 dX8_trade_20 (by decide) (fun c8 => ?_) (fun c8 => ?_)
    · have h := h.1 c8
      refine q_aload (pc := 33) C 4 1 dX8_trade_33 rfl ?_
      refine q_gI (pc := 35) C h (T := TX2) rfl (by decide) (wk_u rfl wm_X8_trade uq_X2 (by decide +kernel)) (by decide +kernel) (fun _ h9 => h9) dX8_trade_35 (fun x9 h => ?_)
      refine q_iload_n (pc := 38) C 3 5 dX8_trade_38 rfl rfl ?_
      refine q_icmp_lt (pc := 39) C 54 dX8_trade_39 (by decide) (fun c10 => ?_) (fun c10 => ?_)
      · have h := h.1 c10
        refine q_widen (k2 := (0 + 2 * t)) (n2 := (0 + 12 * t)) (by omega) (by omega) ?_
        refine q_lv [] rfl ?_
        exact tX8_trade_54 C hr hlocks hL hx ht h
      · have h := h.2 c10
        refine q_aload (pc := 42) C 5 0 dX8_trade_42 rfl ?_
        refine q_gI (pc := 44) C h (T := TX2) rfl (by decide) (wk_u rfl wm_X8_trade uq_X2 (by decide +kernel)) (by decide +kernel) (fun _ h9 => h9) dX8_trade_44 (fun x11 h => ?_)
        refine q_iload_n (pc := 47) C 3 5 dX8_trade_47 rfl rfl ?_
        refine q_iadd (pc := 48) C dX8_trade_48 ?_
        refine q_bipush (pc := 49) C 30 dX8_trade_49 (by decide) ?_
        refine q_icmp_le (pc := 51) C 64 dX8_trade_51 (by decide) (fun c12 => ?_) (fun c12 => ?_)
        · have h := h.1 c12
          refine q_aload (pc := 64) C 4 1 dX8_trade_64 rfl ?_
          refine q_dup (pc := 66) C dX8_trade_66 (q_cat _) ?_
          refine q_gI (pc := 67) C h (T := TX2) rfl (by decide) (wk_u rfl wm_X8_trade uq_X2 (by decide +kernel)) (by decide +kernel) (fun _ h9 => h9) dX8_trade_67 (fun x13 h => ?_)
          refine q_iload_n (pc := 70) C 3 5 dX8_trade_70 rfl rfl ?_
          refine q_isub (pc := 71) C dX8_trade_71 ?_
          refine q_p (pc := 72) C h .int (T := TX2) tyX2 tyX2_ok nmX2 rfl (by decide +kernel) rfl rfl rfl (by decide) (wk_u rfl wm_X8_trade uq_X2 (by decide +kernel)) (by decide +kernel) (fun _ h9 => h9) rfl dX8_trade_72 (fun M14 h => ?_)
          refine q_aload (pc := 75) C 5 0 dX8_trade_75 rfl ?_
          refine q_dup (pc := 77) C dX8_trade_77 (q_cat _) ?_
          refine q_gI (pc := 78) C h (T := TX2) rfl (by decide) (wk_u rfl wm_X8_trade uq_X2 (by decide +kernel)) (by decide +kernel) (fun _ h9 => h9) dX8_trade_78 (fun x15 h => ?_)
          refine q_iload_n (pc := 81) C 3 5 dX8_trade_81 rfl rfl ?_
          refine q_iadd (pc := 82) C dX8_trade_82 ?_
          refine q_p (pc := 83) C h .int (T := TX2) tyX2 tyX2_ok nmX2 rfl (by decide +kernel) rfl rfl rfl (by decide) (wk_u rfl wm_X8_trade uq_X2 (by decide +kernel)) (by decide +kernel) (fun _ h9 => h9) rfl dX8_trade_83 (fun M16 h => ?_)
          refine q_aload (pc := 86) C 5 0 dX8_trade_86 rfl ?_
          refine q_gI (pc := 88) C h (T := TX2) rfl (by decide) (wk_u rfl wm_X8_trade uq_X2 (by decide +kernel)) (by decide +kernel) (fun _ h9 => h9) dX8_trade_88 (fun x17 h => ?_)
          exact q_iretX (pc := 91) C hr hlocks h dX8_trade_91 (by omega) (by omega)
        · have h := h.2 c12
          refine q_widen (k2 := (0 + 2 * t)) (n2 := (0 + 12 * t)) (by omega) (by omega) ?_
          refine q_lv [] rfl ?_
          exact tX8_trade_54 C hr hlocks hL hx ht h
    · have h := h.2 c8
      refine q_widen (k2 := (0 + 2 * t)) (n2 := (0 + 12 * t)) (by omega) (by omega) ?_
      refine q_lv [] rfl ?_
      exact tX8_trade_23 C hr hlocks hL hx ht h
set_option maxRecDepth 100000 in
set_option maxHeartbeats 4000000 in
theorem kX8_trade (l : Launch) (G : mG) (b0 : Nat) {t : Nat} (hL : l.stackTraces = false) {b : Nat} {l1 : Int32} {l2 : Int32} {l3 : Int32} {M : mM} {κ : Int32 → mM → Prop} {ξ : String → mM → Prop} (ht : ∀ E M, ξ E M → 1 ≤ t) (h : wX8_trade κ ξ (some b) l1 l2 l3 M) : vx_Met l yX8_trade wsX8_trade ({ frames := 7, cells := (0 + 3 * t), slots := (0 + 18 * t), locals := 111 } : Room) (va_Pc [.ref b, .int l1, .int l2, .int l3] (m_Pre G b0 M)) (va_Qi κ (m_B G b0) (fun q => b0 ≤ q)) (m_X G b0 ξ) (0 + 3 * t) (0 + 18 * t) (fun q => b0 ≤ q) := by
  refine m_metX (cc := cX8_trade) (maxL := 6) (ret := (some .int)) (lv := [(0, va_rf (some b)), (1, .int l1), (2, .int l2), (3, .int l3)]) RX8 rfl (by decide +kernel) rfl (by first | exact Nat.le_of_ble_eq_true rfl | simp [lg_sl, q_cat, q_catI, q_catJ, q_catR, q_catN]) (by first | rfl | (simp [lv_args, q_cat, q_catI, q_catJ, q_catR, q_catN]; done) | (simp [lv_args, q_cat, q_catI, q_catJ, q_catR, q_catN]; rfl)) ?_
  intro p e s m args below meth c C hr hlocks hx
  exact tX8_trade C hr hlocks hL hx ht h
/-! X8_gate -/
set_option maxRecDepth 100000 in
set_option maxHeartbeats 4000000 in
theorem tX8_gate {p : Program} {l : Launch} {e : Env} {s : State} {m : MethodId} {args : Array Value} {below : List Frame} {meth : Method} {c : Code} {G : mG} {b0 : Nat} (C : m_C p s m args c cX8_gate 8 RX8 wsX8_gate G b0) (hr : meth.sig.returnType = (some .int)) (hlocks : meth.locks = false) {t : Nat} (hL : l.stackTraces = false) (hx : ∀ x ∈ c.exceptionTable.toList, False) {g : Nat → Nat} (hg : G.2.2 = g) {κ : Int32 → mM → Prop} {ξ : String → mM → Prop} (ht : ∀ E M, ξ E M → 1 ≤ t) {l0 : Option Nat} {l1 : Int32} {l2 : Int32} {l3 : Int32} {l4 : Int32} {M : mM} (h : wX8_gate g κ ξ l0 l1 l2 l3 l4 M) : m_W p l e ({ frames := 7, cells := (5 + 5 * t), slots := (27 + 30 * t), locals := 171 } : Room) s m args below meth c G b0 (vx_MQ below (va_Qi κ (m_B G b0) (fun q => b0 ≤ q)) (m_X G b0 ξ) args s (5 + 5 * t) (27 + 30 * t) (fun q => b0 ≤ q)) 8 M 0 0 0 [(0, va_rf l0), (1, .int l1), (2, .int l2), (3, .int l3), (4, .int l4)] [] := by
  unfold wX8_gate at h
  refine q_aload_n (pc := 0) C 0 0 dX8_gate_0 rfl rfl ?_
  refine q_iload_n (pc := 1) C 1 1 dX8_gate_1 rfl rfl ?_
  obtain ⟨b3, fs9, hb3, hm9, h⟩ := h
  refine q_cXq (pc := 2) (q_rVX C (st := []) (b := b3) (kX8_landNumbered l G b0 (t := t) hL ht h) (cwV 1 C.2.2.2.2.1 gX8_gate_X8_landNumbered rfl rfl rfl (by decide +kernel) ⟨Nat.le_of_ble_eq_true rfl, Nat.le_of_ble_eq_true rfl⟩) hm9 rfl rfl rfl (by first | exact Nat.le_of_ble_eq_true rfl | (simp [q_cat, q_catI, q_catJ, q_catR, q_catN]; done)) (by rw [hb3]; first | done | rfl) dX8_gate_2 ⟨(by first | omega | (dsimp only; omega)), (by first | omega | (dsimp only; omega))⟩) (fun E9 M9 h9 => q_out C hx hlocks h9 (by omega) (by omega)) (fun x1 M2 h => ?_)
  refine q_astore (pc := 5) C 5 [(5, va_rf x1), (0, va_rf l0), (1, .int l1), (2, .int l2), (3, .int l3), (4, .int l4)] dX8_gate_5 (by decide) (by first | rfl | simp [q_cat, q_catI, q_catJ, q_catR, q_catN]) ?_
  refine q_aload_n (pc := 7) C 0 1 dX8_gate_7 rfl rfl ?_
  refine q_iload_n (pc := 8) C 2 3 dX8_gate_8 rfl rfl ?_
  obtain ⟨b6, fs9, hb6, hm9, h⟩ := h
  refine q_cXq (pc := 9) (q_rVX C (st := []) (b := b6) (kX8_landNumbered l G b0 (t := t) hL ht h) (cwV 1 C.2.2.2.2.1 gX8_gate_X8_landNumbered rfl rfl rfl (by decide +kernel) ⟨Nat.le_of_ble_eq_true rfl, Nat.le_of_ble_eq_true rfl⟩) hm9 rfl rfl rfl (by first | exact Nat.le_of_ble_eq_true rfl | (simp [q_cat, q_catI, q_catJ, q_catR, q_catN]; done)) (by rw [hb6]; first | done | rfl) dX8_gate_9 ⟨(by first | omega | (dsimp only; omega)), (by first | omega | (dsimp only; omega))⟩) (fun E9 M9 h9 => q_out C hx hlocks h9 (by omega) (by omega)) (fun x4 M5 h => ?_)
  refine q_astore (pc := 12) C 6 [(6, va_rf x4), (5, va_rf x1), (0, va_rf l0), (1, .int l1), (2, .int l2), (3, .int l3), (4, .int l4)] dX8_gate_12 (by decide) (by first | rfl | simp [q_cat, q_catI, q_catJ, q_catR, q_catN]) ?_
  refine q_iload_n (pc := 14) C 1 3 dX8_gate_14 rfl rfl ?_
  refine q_iload_n (pc := 15) C 2 4 dX8_gate_15 rfl rfl ?_
  refine q_icmp_ne (pc := 16) C 29 dX8_gate_16 (by decide) (fun c7 => ?_) (fun c7 => ?_)
  · have h := h.2 c7
    refine q_iload_n (pc := 29) C 3 5 dX8_gate_29 rfl rfl ?_
    refine q_iconst (pc := 30) C 0 dX8_gate_30 (by decide) ?_
    refine q_bipush (pc := 31) C 23 dX8_gate_31 (by decide) ?_
    refine q_cXv (pc := 33) (q_rSX C (st := []) (kX8_demandRange l G b0 (t := t) hL ht h) (va_cwS 3 C.2.2.2.2.1 gX8_gate_X8_demandRange rfl rfl rfl (by decide +kernel) ⟨Nat.le_of_ble_eq_true rfl, Nat.le_of_ble_eq_true rfl⟩) rfl (by first | exact Nat.le_of_ble_eq_true rfl | (simp [q_cat, q_catI, q_catJ, q_catR, q_catN]; done)) rfl dX8_gate_33 ⟨(by first | omega | (dsimp only; omega)), (by first | omega | (dsimp only; omega))⟩) (fun E9 M9 h9 => q_out C hx hlocks h9 (by omega) (by omega)) (fun M8 h => ?_)
    refine q_iload (pc := 36) C 4 6 dX8_gate_36 rfl ?_
    refine q_iconst (pc := 38) C 1 dX8_gate_38 (by decide) ?_
    refine q_bipush (pc := 39) C 24 dX8_gate_39 (by decide) ?_
    refine q_cXv (pc := 41) (q_rSX C (st := []) (kX8_demandRange l G b0 (t := t) hL ht h) (va_cwS 3 C.2.2.2.2.1 gX8_gate_X8_demandRange rfl rfl rfl (by decide +kernel) ⟨Nat.le_of_ble_eq_true rfl, Nat.le_of_ble_eq_true rfl⟩) rfl (by first | exact Nat.le_of_ble_eq_true rfl | (simp [q_cat, q_catI, q_catJ, q_catR, q_catN]; done)) rfl dX8_gate_41 ⟨(by first | omega | (dsimp only; omega)), (by first | omega | (dsimp only; omega))⟩) (fun E9 M9 h9 => q_out C hx hlocks h9 (by omega) (by omega)) (fun M9 h => ?_)
    refine q_aload_n (pc := 44) C 0 2 dX8_gate_44 rfl rfl ?_
    refine q_gR (pc := 45) C h (T := TX8) rfl (by decide) (wk_u rfl wm_X8_gate uq_X8 (by decide +kernel)) (by decide +kernel) (fun _ h9 => h9) dX8_gate_45 (fun x10 h => ?_)
    obtain ⟨b13, fs9, hb13, hm9, h⟩ := h
    refine q_ci (pc := 48) (q_rV C (st := []) (b := b13) (kJx4a65c_size_8abf5 l G b0 h) (cwV 0 C.2.2.2.2.1 gX8_gate_Jx4a65c_size_8abf5 rfl rfl rfl (by decide +kernel) ⟨Nat.le_of_ble_eq_true rfl, Nat.le_of_ble_eq_true rfl⟩) hm9 rfl rfl rfl (by first | exact Nat.le_of_ble_eq_true rfl | (simp [q_cat, q_catI, q_catJ, q_catR, q_catN]; done)) (by rw [hb13]; first | done | rfl) dX8_gate_48 ⟨(by first | omega | (dsimp only; omega)), (by first | omega | (dsimp only; omega))⟩) (fun x11 M12 h => ?_)
    refine q_bipush (pc := 51) C 8 dX8_gate_51 (by decide) ?_
    refine q_icmp_lt (pc := 53) C 66 dX8_gate_53 (by decide) (fun c14 => ?_) (fun c14 => ?_)
    · have h := h.1 c14
      refine q_new (pc := 66) C h rfl (T := TX0) tyX0 tyX0_ok rfl (by decide +kernel) (by decide +kernel) (by decide +kernel) (by decide +kernel) (fun j hj => by rcases (show j = 0 ∨ j = 1 ∨ j = 2 ∨ j = 3 ∨ j = 4 ∨ j = 5 ∨ j = 6 ∨ j = 7 ∨ j = 8 ∨ j = 9 by omega) with rfl | rfl | rfl | rfl | rfl | rfl | rfl | rfl | rfl | rfl <;> rfl) (by first | omega | (dsimp only; omega)) (by first | omega | (dsimp only; omega)) dX8_gate_66 (fun q15 M16 h => ?_)
      refine q_dup (pc := 69) C dX8_gate_69 (q_cat _) ?_
      refine q_aload_n (pc := 70) C 0 2 dX8_gate_70 rfl rfl ?_
      refine q_gR (pc := 71) C h (T := TX8) rfl (by decide) (wk_u rfl wm_X8_gate uq_X8 (by decide +kernel)) (by decide +kernel) (fun _ h9 => h9) dX8_gate_71 (fun x17 h => ?_)
      obtain ⟨b20, fs9, hb20, hm9, h⟩ := h
      refine q_ci (pc := 74) (q_rV C (st := [va_rf (some q15), va_rf (some q15)]) (b := b20) (kJx4a65c_size_8abf5 l G b0 h) (cwV 0 C.2.2.2.2.1 gX8_gate_Jx4a65c_size_8abf5 rfl rfl rfl (by decide +kernel) ⟨Nat.le_of_ble_eq_true rfl, Nat.le_of_ble_eq_true rfl⟩) hm9 rfl rfl rfl (by first | exact Nat.le_of_ble_eq_true rfl | (simp [q_cat, q_catI, q_catJ, q_catR, q_catN]; done)) (by rw [hb20]; first | done | rfl) dX8_gate_74 ⟨(by first | omega | (dsimp only; omega)), (by first | omega | (dsimp only; omega))⟩) (fun x18 M19 h => ?_)
      refine q_aload (pc := 77) C 5 1 dX8_gate_77 rfl ?_
      refine q_aload (pc := 79) C 6 0 dX8_gate_79 rfl ?_
      refine q_iload_n (pc := 81) C 3 5 dX8_gate_81 rfl rfl ?_
      refine q_iload (pc := 82) C 4 6 dX8_gate_82 rfl ?_
      obtain ⟨b22, fs9, hb22, hm9, h⟩ := h
      refine q_cv (pc := 84) (q_rI C (st := [va_rf (some q15)]) (b := b22) (kX0_init l G b0 hg h) (cwI 5 C.2.2.2.2.1 gX8_gate_X0_init rfl rfl rfl (C.2.2.2.2.1 (.initialized RX0) (by decide +kernel)) (C.2.2.2.2.1 (.methodLink RX8 90 yX0_init) (by decide +kernel)) (C.2.2.2.2.1 (.instanceMethod yX0_init) (by decide +kernel)) rfl (by decide +kernel) ⟨Nat.le_of_ble_eq_true rfl, Nat.le_of_ble_eq_true rfl⟩) rfl (by first | exact Nat.le_of_ble_eq_true rfl | (simp [q_cat, q_catI, q_catJ, q_catR, q_catN]; done)) (by rw [hb22]; first | done | rfl) dX8_gate_84 ⟨(by first | omega | (dsimp only; omega)), (by first | omega | (dsimp only; omega))⟩) (fun M21 h => ?_)
      refine q_astore (pc := 87) C 7 [(7, va_rf (some q15)), (6, va_rf x4), (5, va_rf x1), (0, va_rf l0), (1, .int l1), (2, .int l2), (3, .int l3), (4, .int l4)] dX8_gate_87 (by decide) (by first | rfl | simp [q_cat, q_catI, q_catJ, q_catR, q_catN]) ?_
      refine q_aload_n (pc := 89) C 0 3 dX8_gate_89 rfl rfl ?_
      refine q_gR (pc := 90) C h (T := TX8) rfl (by decide) (wk_u rfl wm_X8_gate uq_X8 (by decide +kernel)) (by decide +kernel) (fun _ h9 => h9) dX8_gate_90 (fun x23 h => ?_)
      refine q_aload (pc := 93) C 7 0 dX8_gate_93 rfl ?_
      obtain ⟨b26, fs9, hb26, hm9, h⟩ := h
      refine q_ci (pc := 95) (q_rV C (st := []) (b := b26) (kJx4a65c_add_9ea2d l G b0 hg (by decide) h) (cwV 1 C.2.2.2.2.1 gX8_gate_Jx4a65c_add_9ea2d rfl rfl rfl (by decide +kernel) ⟨Nat.le_of_ble_eq_true rfl, Nat.le_of_ble_eq_true rfl⟩) hm9 rfl rfl rfl (by first | exact Nat.le_of_ble_eq_true rfl | (simp [q_cat, q_catI, q_catJ, q_catR, q_catN]; done)) (by rw [hb26]; first | done | rfl) dX8_gate_95 ⟨(by first | omega | (dsimp only; omega)), (by first | omega | (dsimp only; omega))⟩) (fun x24 M25 h => ?_)
      refine q_pop (pc := 98) C dX8_gate_98 rfl ?_
      refine q_aload (pc := 99) C 7 0 dX8_gate_99 rfl ?_
      refine q_gI (pc := 101) C h (T := TX0) rfl (by decide) (wk_u rfl wm_X8_gate uq_X0 (by decide +kernel)) (by decide +kernel) (fun _ h9 => h9) dX8_gate_101 (fun x27 h => ?_)
      exact q_iretX (pc := 104) C hr hlocks h dX8_gate_104 (by omega) (by omega)
    · have h := h.2 c14
      have ht9 := ht _ _ h
      exact q_throwS (pc := 56) (names := ["java/lang/RuntimeException", "java/lang/Exception"]) (text := "there are all GATES that there may be") C hL hx hlocks h (by decide +kernel) (by decide +kernel) (by decide +kernel) (by decide +kernel) (List.mem_of_getElem? (i := 577) (by decide +kernel)) (by decide +kernel) (by decide +kernel) (by decide +kernel) dX8_gate_56 dX8_gate_59 dX8_gate_60 dX8_gate_62 dX8_gate_65 (Nat.le_of_ble_eq_true rfl) (by first | exact Nat.le_of_ble_eq_true rfl | (simp [q_cat, q_catI, q_catJ, q_catR, q_catN]; done) | (simp [q_cat, q_catI, q_catJ, q_catR, q_catN]; decide)) (by first | omega | (dsimp only; omega)) (by first | omega | (dsimp only; omega)) (by omega) (by omega)
  · have h := h.1 c7
    have ht9 := ht _ _ h
    exact q_throwS (pc := 19) (names := ["java/lang/RuntimeException", "java/lang/Exception"]) (text := "a GATE is between two different LANDS") C hL hx hlocks h (by decide +kernel) (by decide +kernel) (by decide +kernel) (by decide +kernel) (List.mem_of_getElem? (i := 576) (by decide +kernel)) (by decide +kernel) (by decide +kernel) (by decide +kernel) dX8_gate_19 dX8_gate_22 dX8_gate_23 dX8_gate_25 dX8_gate_28 (Nat.le_of_ble_eq_true rfl) (by first | exact Nat.le_of_ble_eq_true rfl | (simp [q_cat, q_catI, q_catJ, q_catR, q_catN]; done) | (simp [q_cat, q_catI, q_catJ, q_catR, q_catN]; decide)) (by first | omega | (dsimp only; omega)) (by first | omega | (dsimp only; omega)) (by omega) (by omega)
set_option maxRecDepth 100000 in
set_option maxHeartbeats 4000000 in
theorem kX8_gate (l : Launch) (G : mG) (b0 : Nat) {t : Nat} (hL : l.stackTraces = false) {g : Nat → Nat} (hg : G.2.2 = g) {b : Nat} {l1 : Int32} {l2 : Int32} {l3 : Int32} {l4 : Int32} {M : mM} {κ : Int32 → mM → Prop} {ξ : String → mM → Prop} (ht : ∀ E M, ξ E M → 1 ≤ t) (h : wX8_gate g κ ξ (some b) l1 l2 l3 l4 M) : vx_Met l yX8_gate wsX8_gate ({ frames := 7, cells := (5 + 5 * t), slots := (27 + 30 * t), locals := 171 } : Room) (va_Pc [.ref b, .int l1, .int l2, .int l3, .int l4] (m_Pre G b0 M)) (va_Qi κ (m_B G b0) (fun q => b0 ≤ q)) (m_X G b0 ξ) (5 + 5 * t) (27 + 30 * t) (fun q => b0 ≤ q) := by
  refine m_metX (cc := cX8_gate) (maxL := 8) (ret := (some .int)) (lv := [(0, va_rf (some b)), (1, .int l1), (2, .int l2), (3, .int l3), (4, .int l4)]) RX8 rfl (by decide +kernel) rfl (by first | exact Nat.le_of_ble_eq_true rfl | simp [lg_sl, q_cat, q_catI, q_catJ, q_catR, q_catN]) (by first | rfl | (simp [lv_args, q_cat, q_catI, q_catJ, q_catR, q_catN]; done) | (simp [lv_args, q_cat, q_catI, q_catJ, q_catR, q_catN]; rfl)) ?_
  intro p e s m args below meth c C hr hlocks hx
  exact tX8_gate C hr hlocks hL hx hg ht h
/-! X8_gateNumbered -/
set_option maxRecDepth 100000 in
set_option maxHeartbeats 4000000 in
theorem tX8_gateNumbered_15 {p : Program} {l : Launch} {e : Env} {s : State} {m : MethodId} {args : Array Value} {below : List Frame} {meth : Method} {c : Code} {G : mG} {b0 : Nat} (C : m_C p s m args c cX8_gateNumbered 2 RX8 wsX8_gateNumbered G b0) (hr : meth.sig.returnType = (some (.object "Lullabygate$Gate"))) (hlocks : meth.locks = false) {t : Nat} (hL : l.stackTraces = false) (hx : ∀ x ∈ c.exceptionTable.toList, False) {κ : Option Nat → mM → Prop} {ξ : String → mM → Prop} (ht : ∀ E M, ξ E M → 1 ≤ t) {M : mM} (h : wX8_gateNumbered_15 κ ξ M) : m_W p l e ({ frames := 6, cells := (0 + 1 * t), slots := (0 + 6 * t), locals := 90 } : Room) s m args below meth c G b0 (vx_MQ below (va_Qq κ (m_B G b0) (fun q => b0 ≤ q)) (m_X G b0 ξ) args s (0 + 1 * t) (0 + 6 * t) (fun q => b0 ≤ q)) 2 M 0 0 15 [] [] := by
  unfold wX8_gateNumbered_15 at h
  have ht9 := ht _ _ h
  exact q_throwSW (pc := 15) (names := ["java/lang/RuntimeException", "java/lang/Exception"]) (text := "no such GATE") C hL hx hlocks h (by decide +kernel) (by decide +kernel) (by decide +kernel) (by decide +kernel) (List.mem_of_getElem? (i := 361) (by decide +kernel)) (by decide +kernel) (by decide +kernel) (by decide +kernel) dX8_gateNumbered_15 dX8_gateNumbered_18 dX8_gateNumbered_19 dX8_gateNumbered_22 dX8_gateNumbered_25 (Nat.le_of_ble_eq_true rfl) (by first | exact Nat.le_of_ble_eq_true rfl | (simp [q_cat, q_catI, q_catJ, q_catR, q_catN]; done) | (simp [q_cat, q_catI, q_catJ, q_catR, q_catN]; decide)) (by first | omega | (dsimp only; omega)) (by first | omega | (dsimp only; omega)) (by omega) (by omega)
set_option maxRecDepth 100000 in
set_option maxHeartbeats 4000000 in
theorem tX8_gateNumbered {p : Program} {l : Launch} {e : Env} {s : State} {m : MethodId} {args : Array Value} {below : List Frame} {meth : Method} {c : Code} {G : mG} {b0 : Nat} (C : m_C p s m args c cX8_gateNumbered 2 RX8 wsX8_gateNumbered G b0) (hr : meth.sig.returnType = (some (.object "Lullabygate$Gate"))) (hlocks : meth.locks = false) {t : Nat} (hL : l.stackTraces = false) (hx : ∀ x ∈ c.exceptionTable.toList, False) {κ : Option Nat → mM → Prop} {ξ : String → mM → Prop} (ht : ∀ E M, ξ E M → 1 ≤ t) {l0 : Option Nat} {l1 : Int32} {M : mM} (h : wX8_gateNumbered κ ξ l0 l1 M) : m_W p l e ({ frames := 6, cells := (0 + 1 * t), slots := (0 + 6 * t), locals := 90 } : Room) s m args below meth c G b0 (vx_MQ below (va_Qq κ (m_B G b0) (fun q => b0 ≤ q)) (m_X G b0 ξ) args s (0 + 1 * t) (0 + 6 * t) (fun q => b0 ≤ q)) 2 M 0 0 0 [(0, va_rf l0), (1, .int l1)] [] := by
  unfold wX8_gateNumbered at h
  refine q_iload_n (pc := 0) C 1 1 dX8_gateNumbered_0 rfl rfl ?_
  refine q_if_lt (pc := 1) C 15 dX8_gateNumbered_1 (by decide) (fun c1 => ?_) (fun c1 => ?_)
  · have h := h.1 c1
    refine q_widen (k2 := 0) (n2 := 0) (by omega) (by omega) ?_
    refine q_lv [] rfl ?_
    exact tX8_gateNumbered_15 C hr hlocks hL hx ht h
  · have h := h.2 c1
    refine q_iload_n (pc := 4) C 1 1 dX8_gateNumbered_4 rfl rfl ?_
    refine q_aload_n (pc := 5) C 0 0 dX8_gateNumbered_5 rfl rfl ?_
    refine q_gR (pc := 6) C h (T := TX8) rfl (by decide) (wk_u rfl wm_X8_gateNumbered uq_X8 (by decide +kernel)) (by decide +kernel) (fun _ h9 => h9) dX8_gateNumbered_6 (fun x2 h => ?_)
    obtain ⟨b5, fs9, hb5, hm9, h⟩ := h
    refine q_ci (pc := 9) (q_rV C (st := [.int l1]) (b := b5) (kJx4a65c_size_8abf5 l G b0 h) (cwV 0 C.2.2.2.2.1 gX8_gateNumbered_Jx4a65c_size_8abf5 rfl rfl rfl (by decide +kernel) ⟨Nat.le_of_ble_eq_true rfl, Nat.le_of_ble_eq_true rfl⟩) hm9 rfl rfl rfl (by first | exact Nat.le_of_ble_eq_true rfl | (simp [q_cat, q_catI, q_catJ, q_catR, q_catN]; done)) (by rw [hb5]; first | done | rfl) dX8_gateNumbered_9 ⟨(by first | omega | (dsimp only; omega)), (by first | omega | (dsimp only; omega))⟩) (fun x3 M4 h => ?_)
    refine q_icmp_lt (pc := 12) C 26 dX8_gateNumbered_12 (by decide) (fun c6 => ?_) (fun c6 => ?_)
    · have h := h.1 c6
      refine q_aload_n (pc := 26) C 0 0 dX8_gateNumbered_26 rfl rfl ?_
      refine q_gR (pc := 27) C h (T := TX8) rfl (by decide) (wk_u rfl wm_X8_gateNumbered uq_X8 (by decide +kernel)) (by decide +kernel) (fun _ h9 => h9) dX8_gateNumbered_27 (fun x7 h => ?_)
      refine q_iload_n (pc := 30) C 1 1 dX8_gateNumbered_30 rfl rfl ?_
      obtain ⟨b10, fs9, hb10, hm9, h⟩ := h
      refine q_cq (pc := 31) (q_rV C (st := []) (b := b10) (kJx4a65c_get_915e3 l G b0 h) (cwV 1 C.2.2.2.2.1 gX8_gateNumbered_Jx4a65c_get_915e3 rfl rfl rfl (by decide +kernel) ⟨Nat.le_of_ble_eq_true rfl, Nat.le_of_ble_eq_true rfl⟩) hm9 rfl rfl rfl (by first | exact Nat.le_of_ble_eq_true rfl | (simp [q_cat, q_catI, q_catJ, q_catR, q_catN]; done)) (by rw [hb10]; first | done | rfl) dX8_gateNumbered_31 ⟨(by first | omega | (dsimp only; omega)), (by first | omega | (dsimp only; omega))⟩) (fun x8 M9 h => ?_)
      refine q_cast (pc := 34) C h rfl rfl (by decide +kernel) dX8_gateNumbered_34 (fun h => ?_)
      exact q_aretX (pc := 37) C hr (by first | exact Or.inl ⟨_, rfl⟩ | exact Or.inr ⟨_, rfl⟩) hlocks h dX8_gateNumbered_37 (by omega) (by omega)
    · have h := h.2 c6
      refine q_widen (k2 := 0) (n2 := 0) (by omega) (by omega) ?_
      refine q_lv [] rfl ?_
      exact tX8_gateNumbered_15 C hr hlocks hL hx ht h
set_option maxRecDepth 100000 in
set_option maxHeartbeats 4000000 in
theorem kX8_gateNumbered (l : Launch) (G : mG) (b0 : Nat) {t : Nat} (hL : l.stackTraces = false) {b : Nat} {l1 : Int32} {M : mM} {κ : Option Nat → mM → Prop} {ξ : String → mM → Prop} (ht : ∀ E M, ξ E M → 1 ≤ t) (h : wX8_gateNumbered κ ξ (some b) l1 M) : vx_Met l yX8_gateNumbered wsX8_gateNumbered ({ frames := 6, cells := (0 + 1 * t), slots := (0 + 6 * t), locals := 90 } : Room) (va_Pc [.ref b, .int l1] (m_Pre G b0 M)) (va_Qq κ (m_B G b0) (fun q => b0 ≤ q)) (m_X G b0 ξ) (0 + 1 * t) (0 + 6 * t) (fun q => b0 ≤ q) := by
  refine m_metX (cc := cX8_gateNumbered) (maxL := 2) (ret := (some (.object "Lullabygate$Gate"))) (lv := [(0, va_rf (some b)), (1, .int l1)]) RX8 rfl (by decide +kernel) rfl (by first | exact Nat.le_of_ble_eq_true rfl | simp [lg_sl, q_cat, q_catI, q_catJ, q_catR, q_catN]) (by first | rfl | (simp [lv_args, q_cat, q_catI, q_catJ, q_catR, q_catN]; done) | (simp [lv_args, q_cat, q_catI, q_catJ, q_catR, q_catN]; rfl)) ?_
  intro p e s m args below meth c C hr hlocks hx
  exact tX8_gateNumbered C hr hlocks hL hx ht h
/-! X8_odds -/
set_option maxRecDepth 100000 in
set_option maxHeartbeats 4000000 in
theorem tX8_odds {p : Program} {l : Launch} {e : Env} {s : State} {m : MethodId} {args : Array Value} {below : List Frame} {meth : Method} {c : Code} {G : mG} {b0 : Nat} (C : m_C p s m args c cX8_odds 5 RX8 wsX8_odds G b0) (hr : meth.sig.returnType = (some .int)) (hlocks : meth.locks = false) {t : Nat} (hL : l.stackTraces = false) (hx : ∀ x ∈ c.exceptionTable.toList, False) {κ : Int32 → mM → Prop} {ξ : String → mM → Prop} (ht : ∀ E M, ξ E M → 1 ≤ t) {l0 : Option Nat} {l1 : Int32} {l2 : Int32} {M : mM} (h : wX8_odds κ ξ l0 l1 l2 M) : m_W p l e ({ frames := 7, cells := (0 + 2 * t), slots := (0 + 12 * t), locals := 112 } : Room) s m args below meth c G b0 (vx_MQ below (va_Qi κ (m_B G b0) (fun q => b0 ≤ q)) (m_X G b0 ξ) args s (0 + 2 * t) (0 + 12 * t) (fun q => b0 ≤ q)) 5 M 0 0 0 [(0, va_rf l0), (1, .int l1), (2, .int l2)] [] := by
  unfold wX8_odds at h
  refine q_aload_n (pc := 0) C 0 0 dX8_odds_0 rfl rfl ?_
  refine q_iload_n (pc := 1) C 1 1 dX8_odds_1 rfl rfl ?_
  obtain ⟨b3, fs9, hb3, hm9, h⟩ := h
  refine q_cXq (pc := 2) (q_rVX C (st := []) (b := b3) (kX8_gateNumbered l G b0 (t := t) hL ht h) (cwV 1 C.2.2.2.2.1 gX8_odds_X8_gateNumbered rfl rfl rfl (by decide +kernel) ⟨Nat.le_of_ble_eq_true rfl, Nat.le_of_ble_eq_true rfl⟩) hm9 rfl rfl rfl (by first | exact Nat.le_of_ble_eq_true rfl | (simp [q_cat, q_catI, q_catJ, q_catR, q_catN]; done)) (by rw [hb3]; first | done | rfl) dX8_odds_2 ⟨(by first | omega | (dsimp only; omega)), (by first | omega | (dsimp only; omega))⟩) (fun E9 M9 h9 => q_out C hx hlocks h9 (by omega) (by omega)) (fun x1 M2 h => ?_)
  refine q_astore_n (pc := 5) C 3 [(3, va_rf x1), (0, va_rf l0), (1, .int l1), (2, .int l2)] dX8_odds_5 rfl (by decide) (by first | rfl | simp [q_cat, q_catI, q_catJ, q_catR, q_catN]) ?_
  refine q_iload_n (pc := 6) C 2 3 dX8_odds_6 rfl rfl ?_
  refine q_iconst (pc := 7) C 0 dX8_odds_7 (by decide) ?_
  refine q_bipush (pc := 8) C 10 dX8_odds_8 (by decide) ?_
  refine q_cXv (pc := 10) (q_rSX C (st := []) (kX8_demandRange l G b0 (t := t) hL ht h) (va_cwS 3 C.2.2.2.2.1 gX8_odds_X8_demandRange rfl rfl rfl (by decide +kernel) ⟨Nat.le_of_ble_eq_true rfl, Nat.le_of_ble_eq_true rfl⟩) rfl (by first | exact Nat.le_of_ble_eq_true rfl | (simp [q_cat, q_catI, q_catJ, q_catR, q_catN]; done)) rfl dX8_odds_10 ⟨(by first | omega | (dsimp only; omega)), (by first | omega | (dsimp only; omega))⟩) (fun E9 M9 h9 => q_out C hx hlocks h9 (by omega) (by omega)) (fun M4 h => ?_)
  refine q_aload_n (pc := 13) C 3 0 dX8_odds_13 rfl rfl ?_
  refine q_gI (pc := 14) C h (T := TX0) rfl (by decide) (wk_u rfl wm_X8_odds uq_X0 (by decide +kernel)) (by decide +kernel) (fun _ h9 => h9) dX8_odds_14 (fun x5 h => ?_)
  refine q_istore (pc := 17) C 4 [(4, .int x5), (3, va_rf x1), (0, va_rf l0), (1, .int l1), (2, .int l2)] dX8_odds_17 (by decide) (by first | rfl | simp [q_cat, q_catI, q_catJ, q_catR, q_catN]) ?_
  refine q_aload_n (pc := 19) C 3 1 dX8_odds_19 rfl rfl ?_
  refine q_iload_n (pc := 20) C 2 4 dX8_odds_20 rfl rfl ?_
  refine q_p (pc := 21) C h .int (T := TX0) tyX0 tyX0_ok nmX0 rfl (by decide +kernel) rfl rfl rfl (by decide) (wk_u rfl wm_X8_odds uq_X0 (by decide +kernel)) (by decide +kernel) (fun _ h9 => h9) rfl dX8_odds_21 (fun M6 h => ?_)
  refine q_iload (pc := 24) C 4 0 dX8_odds_24 rfl ?_
  exact q_iretX (pc := 26) C hr hlocks h dX8_odds_26 (by omega) (by omega)
set_option maxRecDepth 100000 in
set_option maxHeartbeats 4000000 in
theorem kX8_odds (l : Launch) (G : mG) (b0 : Nat) {t : Nat} (hL : l.stackTraces = false) {b : Nat} {l1 : Int32} {l2 : Int32} {M : mM} {κ : Int32 → mM → Prop} {ξ : String → mM → Prop} (ht : ∀ E M, ξ E M → 1 ≤ t) (h : wX8_odds κ ξ (some b) l1 l2 M) : vx_Met l yX8_odds wsX8_odds ({ frames := 7, cells := (0 + 2 * t), slots := (0 + 12 * t), locals := 112 } : Room) (va_Pc [.ref b, .int l1, .int l2] (m_Pre G b0 M)) (va_Qi κ (m_B G b0) (fun q => b0 ≤ q)) (m_X G b0 ξ) (0 + 2 * t) (0 + 12 * t) (fun q => b0 ≤ q) := by
  refine m_metX (cc := cX8_odds) (maxL := 5) (ret := (some .int)) (lv := [(0, va_rf (some b)), (1, .int l1), (2, .int l2)]) RX8 rfl (by decide +kernel) rfl (by first | exact Nat.le_of_ble_eq_true rfl | simp [lg_sl, q_cat, q_catI, q_catJ, q_catR, q_catN]) (by first | rfl | (simp [lv_args, q_cat, q_catI, q_catJ, q_catR, q_catN]; done) | (simp [lv_args, q_cat, q_catI, q_catJ, q_catR, q_catN]; rfl)) ?_
  intro p e s m args below meth c C hr hlocks hx
  exact tX8_odds C hr hlocks hL hx ht h
/-! X8_relieve -/
set_option maxRecDepth 100000 in
set_option maxHeartbeats 4000000 in
theorem tX8_relieve {p : Program} {l : Launch} {e : Env} {s : State} {m : MethodId} {args : Array Value} {below : List Frame} {meth : Method} {c : Code} {G : mG} {b0 : Nat} (C : m_C p s m args c cX8_relieve 4 RX8 wsX8_relieve G b0) (hr : meth.sig.returnType = (some .int)) (hlocks : meth.locks = false) {t : Nat} (hL : l.stackTraces = false) (hx : ∀ x ∈ c.exceptionTable.toList, False) {κ : Int32 → mM → Prop} {ξ : String → mM → Prop} (ht : ∀ E M, ξ E M → 1 ≤ t) {l0 : Option Nat} {l1 : Int32} {M : mM} (h : wX8_relieve κ ξ l0 l1 M) : m_W p l e ({ frames := 7, cells := (0 + 1 * t), slots := (0 + 6 * t), locals := 111 } : Room) s m args below meth c G b0 (vx_MQ below (va_Qi κ (m_B G b0) (fun q => b0 ≤ q)) (m_X G b0 ξ) args s (0 + 1 * t) (0 + 6 * t) (fun q => b0 ≤ q)) 4 M 0 0 0 [(0, va_rf l0), (1, .int l1)] [] := by
  unfold wX8_relieve at h
  refine q_aload_n (pc := 0) C 0 0 dX8_relieve_0 rfl rfl ?_
  refine q_iload_n (pc := 1) C 1 1 dX8_relieve_1 rfl rfl ?_
  obtain ⟨b3, fs9, hb3, hm9, h⟩ := h
  refine q_cXq (pc := 2) (q_rVX C (st := []) (b := b3) (kX8_gateNumbered l G b0 (t := t) hL ht h) (cwV 1 C.2.2.2.2.1 gX8_relieve_X8_gateNumbered rfl rfl rfl (by decide +kernel) ⟨Nat.le_of_ble_eq_true rfl, Nat.le_of_ble_eq_true rfl⟩) hm9 rfl rfl rfl (by first | exact Nat.le_of_ble_eq_true rfl | (simp [q_cat, q_catI, q_catJ, q_catR, q_catN]; done)) (by rw [hb3]; first | done | rfl) dX8_relieve_2 ⟨(by first | omega | (dsimp only; omega)), (by first | omega | (dsimp only; omega))⟩) (fun E9 M9 h9 => q_out C hx hlocks h9 (by omega) (by omega)) (fun x1 M2 h => ?_)
  refine q_astore_n (pc := 5) C 2 [(2, va_rf x1), (0, va_rf l0), (1, .int l1)] dX8_relieve_5 rfl (by decide) (by first | rfl | simp [q_cat, q_catI, q_catJ, q_catR, q_catN]) ?_
  refine q_aload_n (pc := 6) C 2 0 dX8_relieve_6 rfl rfl ?_
  refine q_gI (pc := 7) C h (T := TX0) rfl (by decide) (wk_u rfl wm_X8_relieve uq_X0 (by decide +kernel)) (by decide +kernel) (fun _ h9 => h9) dX8_relieve_7 (fun x4 h => ?_)
  refine q_istore_n (pc := 10) C 3 [(3, .int x4), (2, va_rf x1), (0, va_rf l0), (1, .int l1)] dX8_relieve_10 rfl (by decide) (by first | rfl | simp [q_cat, q_catI, q_catJ, q_catR, q_catN]) ?_
  refine q_aload_n (pc := 11) C 2 1 dX8_relieve_11 rfl rfl ?_
  refine q_iconst (pc := 12) C 0 dX8_relieve_12 (by decide) ?_
  refine q_p (pc := 13) C h .int (T := TX0) tyX0 tyX0_ok nmX0 rfl (by decide +kernel) rfl rfl rfl (by decide) (wk_u rfl wm_X8_relieve uq_X0 (by decide +kernel)) (by decide +kernel) (fun _ h9 => h9) rfl dX8_relieve_13 (fun M5 h => ?_)
  refine q_iload_n (pc := 16) C 3 0 dX8_relieve_16 rfl rfl ?_
  exact q_iretX (pc := 17) C hr hlocks h dX8_relieve_17 (by omega) (by omega)
set_option maxRecDepth 100000 in
set_option maxHeartbeats 4000000 in
theorem kX8_relieve (l : Launch) (G : mG) (b0 : Nat) {t : Nat} (hL : l.stackTraces = false) {b : Nat} {l1 : Int32} {M : mM} {κ : Int32 → mM → Prop} {ξ : String → mM → Prop} (ht : ∀ E M, ξ E M → 1 ≤ t) (h : wX8_relieve κ ξ (some b) l1 M) : vx_Met l yX8_relieve wsX8_relieve ({ frames := 7, cells := (0 + 1 * t), slots := (0 + 6 * t), locals := 111 } : Room) (va_Pc [.ref b, .int l1] (m_Pre G b0 M)) (va_Qi κ (m_B G b0) (fun q => b0 ≤ q)) (m_X G b0 ξ) (0 + 1 * t) (0 + 6 * t) (fun q => b0 ≤ q) := by
  refine m_metX (cc := cX8_relieve) (maxL := 4) (ret := (some .int)) (lv := [(0, va_rf (some b)), (1, .int l1)]) RX8 rfl (by decide +kernel) rfl (by first | exact Nat.le_of_ble_eq_true rfl | simp [lg_sl, q_cat, q_catI, q_catJ, q_catR, q_catN]) (by first | rfl | (simp [lv_args, q_cat, q_catI, q_catJ, q_catR, q_catN]; done) | (simp [lv_args, q_cat, q_catI, q_catJ, q_catR, q_catN]; rfl)) ?_
  intro p e s m args below meth c C hr hlocks hx
  exact tX8_relieve C hr hlocks hL hx ht h
/-! X8_sleeper -/
set_option maxRecDepth 100000 in
set_option maxHeartbeats 4000000 in
theorem tX8_sleeper {p : Program} {l : Launch} {e : Env} {s : State} {m : MethodId} {args : Array Value} {below : List Frame} {meth : Method} {c : Code} {G : mG} {b0 : Nat} (C : m_C p s m args c cX8_sleeper 6 RX8 wsX8_sleeper G b0) (hr : meth.sig.returnType = (some .int)) (hlocks : meth.locks = false) {t : Nat} (hL : l.stackTraces = false) (hx : ∀ x ∈ c.exceptionTable.toList, False) {g : Nat → Nat} (hg : G.2.2 = g) {κ : Int32 → mM → Prop} {ξ : String → mM → Prop} (ht : ∀ E M, ξ E M → 1 ≤ t) {l0 : Option Nat} {l1 : Int32} {l2 : Int32} {l3 : Int32} {M : mM} (h : wX8_sleeper g κ ξ l0 l1 l2 l3 M) : m_W p l e ({ frames := 7, cells := (2 + 3 * t), slots := (24 + 18 * t), locals := 171 } : Room) s m args below meth c G b0 (vx_MQ below (va_Qi κ (m_B G b0) (fun q => b0 ≤ q)) (m_X G b0 ξ) args s (2 + 3 * t) (24 + 18 * t) (fun q => b0 ≤ q)) 6 M 0 0 0 [(0, va_rf l0), (1, .int l1), (2, .int l2), (3, .int l3)] [] := by
  unfold wX8_sleeper at h
  refine q_aload_n (pc := 0) C 0 0 dX8_sleeper_0 rfl rfl ?_
  refine q_iload_n (pc := 1) C 1 1 dX8_sleeper_1 rfl rfl ?_
  obtain ⟨b3, fs9, hb3, hm9, h⟩ := h
  refine q_cXq (pc := 2) (q_rVX C (st := []) (b := b3) (kX8_landNumbered l G b0 (t := t) hL ht h) (cwV 1 C.2.2.2.2.1 gX8_sleeper_X8_landNumbered rfl rfl rfl (by decide +kernel) ⟨Nat.le_of_ble_eq_true rfl, Nat.le_of_ble_eq_true rfl⟩) hm9 rfl rfl rfl (by first | exact Nat.le_of_ble_eq_true rfl | (simp [q_cat, q_catI, q_catJ, q_catR, q_catN]; done)) (by rw [hb3]; first | done | rfl) dX8_sleeper_2 ⟨(by first | omega | (dsimp only; omega)), (by first | omega | (dsimp only; omega))⟩) (fun E9 M9 h9 => q_out C hx hlocks h9 (by omega) (by omega)) (fun x1 M2 h => ?_)
  refine q_astore (pc := 5) C 4 [(4, va_rf x1), (0, va_rf l0), (1, .int l1), (2, .int l2), (3, .int l3)] dX8_sleeper_5 (by decide) (by first | rfl | simp [q_cat, q_catI, q_catJ, q_catR, q_catN]) ?_
  refine q_iload_n (pc := 7) C 3 4 dX8_sleeper_7 rfl rfl ?_
  refine q_iconst (pc := 8) C 1 dX8_sleeper_8 (by decide) ?_
  refine q_bipush (pc := 9) C 9 dX8_sleeper_9 (by decide) ?_
  refine q_cXv (pc := 11) (q_rSX C (st := []) (kX8_demandRange l G b0 (t := t) hL ht h) (va_cwS 3 C.2.2.2.2.1 gX8_sleeper_X8_demandRange rfl rfl rfl (by decide +kernel) ⟨Nat.le_of_ble_eq_true rfl, Nat.le_of_ble_eq_true rfl⟩) rfl (by first | exact Nat.le_of_ble_eq_true rfl | (simp [q_cat, q_catI, q_catJ, q_catR, q_catN]; done)) rfl dX8_sleeper_11 ⟨(by first | omega | (dsimp only; omega)), (by first | omega | (dsimp only; omega))⟩) (fun E9 M9 h9 => q_out C hx hlocks h9 (by omega) (by omega)) (fun M4 h => ?_)
  refine q_aload_n (pc := 14) C 0 1 dX8_sleeper_14 rfl rfl ?_
  refine q_gR (pc := 15) C h (T := TX8) rfl (by decide) (wk_u rfl wm_X8_sleeper uq_X8 (by decide +kernel)) (by decide +kernel) (fun _ h9 => h9) dX8_sleeper_15 (fun x5 h => ?_)
  obtain ⟨b8, fs9, hb8, hm9, h⟩ := h
  refine q_ci (pc := 18) (q_rV C (st := []) (b := b8) (kJx4a65c_size_8abf5 l G b0 h) (cwV 0 C.2.2.2.2.1 gX8_sleeper_Jx4a65c_size_8abf5 rfl rfl rfl (by decide +kernel) ⟨Nat.le_of_ble_eq_true rfl, Nat.le_of_ble_eq_true rfl⟩) hm9 rfl rfl rfl (by first | exact Nat.le_of_ble_eq_true rfl | (simp [q_cat, q_catI, q_catJ, q_catR, q_catN]; done)) (by rw [hb8]; first | done | rfl) dX8_sleeper_18 ⟨(by first | omega | (dsimp only; omega)), (by first | omega | (dsimp only; omega))⟩) (fun x6 M7 h => ?_)
  refine q_bipush (pc := 21) C 12 dX8_sleeper_21 (by decide) ?_
  refine q_icmp_lt (pc := 23) C 36 dX8_sleeper_23 (by decide) (fun c9 => ?_) (fun c9 => ?_)
  · have h := h.1 c9
    refine q_new (pc := 36) C h rfl (T := TX6) tyX6 tyX6_ok rfl (by decide +kernel) (by decide +kernel) (by decide +kernel) (by decide +kernel) (fun j hj => by rcases (show j = 0 ∨ j = 1 ∨ j = 2 ∨ j = 3 ∨ j = 4 ∨ j = 5 ∨ j = 6 ∨ j = 7 ∨ j = 8 by omega) with rfl | rfl | rfl | rfl | rfl | rfl | rfl | rfl | rfl <;> rfl) (by first | omega | (dsimp only; omega)) (by first | omega | (dsimp only; omega)) dX8_sleeper_36 (fun q10 M11 h => ?_)
    refine q_dup (pc := 39) C dX8_sleeper_39 (q_cat _) ?_
    refine q_aload_n (pc := 40) C 0 1 dX8_sleeper_40 rfl rfl ?_
    refine q_gR (pc := 41) C h (T := TX8) rfl (by decide) (wk_u rfl wm_X8_sleeper uq_X8 (by decide +kernel)) (by decide +kernel) (fun _ h9 => h9) dX8_sleeper_41 (fun x12 h => ?_)
    obtain ⟨b15, fs9, hb15, hm9, h⟩ := h
    refine q_ci (pc := 44) (q_rV C (st := [va_rf (some q10), va_rf (some q10)]) (b := b15) (kJx4a65c_size_8abf5 l G b0 h) (cwV 0 C.2.2.2.2.1 gX8_sleeper_Jx4a65c_size_8abf5 rfl rfl rfl (by decide +kernel) ⟨Nat.le_of_ble_eq_true rfl, Nat.le_of_ble_eq_true rfl⟩) hm9 rfl rfl rfl (by first | exact Nat.le_of_ble_eq_true rfl | (simp [q_cat, q_catI, q_catJ, q_catR, q_catN]; done)) (by rw [hb15]; first | done | rfl) dX8_sleeper_44 ⟨(by first | omega | (dsimp only; omega)), (by first | omega | (dsimp only; omega))⟩) (fun x13 M14 h => ?_)
    refine q_aload (pc := 47) C 4 0 dX8_sleeper_47 rfl ?_
    refine q_iload_n (pc := 49) C 2 3 dX8_sleeper_49 rfl rfl ?_
    refine q_iload_n (pc := 50) C 3 4 dX8_sleeper_50 rfl rfl ?_
    obtain ⟨b17, fs9, hb17, hm9, h⟩ := h
    refine q_cv (pc := 51) (q_rI C (st := [va_rf (some q10)]) (b := b17) (kX6_init l G b0 h) (cwI 4 C.2.2.2.2.1 gX8_sleeper_X6_init rfl rfl rfl (C.2.2.2.2.1 (.initialized RX6) (by decide +kernel)) (C.2.2.2.2.1 (.methodLink RX8 114 yX6_init) (by decide +kernel)) (C.2.2.2.2.1 (.instanceMethod yX6_init) (by decide +kernel)) rfl (by decide +kernel) ⟨Nat.le_of_ble_eq_true rfl, Nat.le_of_ble_eq_true rfl⟩) rfl (by first | exact Nat.le_of_ble_eq_true rfl | (simp [q_cat, q_catI, q_catJ, q_catR, q_catN]; done)) (by rw [hb17]; first | done | rfl) dX8_sleeper_51 ⟨(by first | omega | (dsimp only; omega)), (by first | omega | (dsimp only; omega))⟩) (fun M16 h => ?_)
    refine q_astore (pc := 54) C 5 [(5, va_rf (some q10)), (4, va_rf x1), (0, va_rf l0), (1, .int l1), (2, .int l2), (3, .int l3)] dX8_sleeper_54 (by decide) (by first | rfl | simp [q_cat, q_catI, q_catJ, q_catR, q_catN]) ?_
    refine q_aload_n (pc := 56) C 0 2 dX8_sleeper_56 rfl rfl ?_
    refine q_gR (pc := 57) C h (T := TX8) rfl (by decide) (wk_u rfl wm_X8_sleeper uq_X8 (by decide +kernel)) (by decide +kernel) (fun _ h9 => h9) dX8_sleeper_57 (fun x18 h => ?_)
    refine q_aload (pc := 60) C 5 0 dX8_sleeper_60 rfl ?_
    obtain ⟨b21, fs9, hb21, hm9, h⟩ := h
    refine q_ci (pc := 62) (q_rV C (st := []) (b := b21) (kJx4a65c_add_9ea2d l G b0 hg (by decide) h) (cwV 1 C.2.2.2.2.1 gX8_sleeper_Jx4a65c_add_9ea2d rfl rfl rfl (by decide +kernel) ⟨Nat.le_of_ble_eq_true rfl, Nat.le_of_ble_eq_true rfl⟩) hm9 rfl rfl rfl (by first | exact Nat.le_of_ble_eq_true rfl | (simp [q_cat, q_catI, q_catJ, q_catR, q_catN]; done)) (by rw [hb21]; first | done | rfl) dX8_sleeper_62 ⟨(by first | omega | (dsimp only; omega)), (by first | omega | (dsimp only; omega))⟩) (fun x19 M20 h => ?_)
    refine q_pop (pc := 65) C dX8_sleeper_65 rfl ?_
    refine q_aload (pc := 66) C 5 0 dX8_sleeper_66 rfl ?_
    refine q_gI (pc := 68) C h (T := TX6) rfl (by decide) (wk_u rfl wm_X8_sleeper uq_X6 (by decide +kernel)) (by decide +kernel) (fun _ h9 => h9) dX8_sleeper_68 (fun x22 h => ?_)
    exact q_iretX (pc := 71) C hr hlocks h dX8_sleeper_71 (by omega) (by omega)
  · have h := h.2 c9
    have ht9 := ht _ _ h
    exact q_throwS (pc := 26) (names := ["java/lang/RuntimeException", "java/lang/Exception"]) (text := "there are all SLEEPERS that there may be") C hL hx hlocks h (by decide +kernel) (by decide +kernel) (by decide +kernel) (by decide +kernel) (List.mem_of_getElem? (i := 724) (by decide +kernel)) (by decide +kernel) (by decide +kernel) (by decide +kernel) dX8_sleeper_26 dX8_sleeper_29 dX8_sleeper_30 dX8_sleeper_32 dX8_sleeper_35 (Nat.le_of_ble_eq_true rfl) (by first | exact Nat.le_of_ble_eq_true rfl | (simp [q_cat, q_catI, q_catJ, q_catR, q_catN]; done) | (simp [q_cat, q_catI, q_catJ, q_catR, q_catN]; decide)) (by first | omega | (dsimp only; omega)) (by first | omega | (dsimp only; omega)) (by omega) (by omega)
set_option maxRecDepth 100000 in
set_option maxHeartbeats 4000000 in
theorem kX8_sleeper (l : Launch) (G : mG) (b0 : Nat) {t : Nat} (hL : l.stackTraces = false) {g : Nat → Nat} (hg : G.2.2 = g) {b : Nat} {l1 : Int32} {l2 : Int32} {l3 : Int32} {M : mM} {κ : Int32 → mM → Prop} {ξ : String → mM → Prop} (ht : ∀ E M, ξ E M → 1 ≤ t) (h : wX8_sleeper g κ ξ (some b) l1 l2 l3 M) : vx_Met l yX8_sleeper wsX8_sleeper ({ frames := 7, cells := (2 + 3 * t), slots := (24 + 18 * t), locals := 171 } : Room) (va_Pc [.ref b, .int l1, .int l2, .int l3] (m_Pre G b0 M)) (va_Qi κ (m_B G b0) (fun q => b0 ≤ q)) (m_X G b0 ξ) (2 + 3 * t) (24 + 18 * t) (fun q => b0 ≤ q) := by
  refine m_metX (cc := cX8_sleeper) (maxL := 6) (ret := (some .int)) (lv := [(0, va_rf (some b)), (1, .int l1), (2, .int l2), (3, .int l3)]) RX8 rfl (by decide +kernel) rfl (by first | exact Nat.le_of_ble_eq_true rfl | simp [lg_sl, q_cat, q_catI, q_catJ, q_catR, q_catN]) (by first | rfl | (simp [lv_args, q_cat, q_catI, q_catJ, q_catR, q_catN]; done) | (simp [lv_args, q_cat, q_catI, q_catJ, q_catR, q_catN]; rfl)) ?_
  intro p e s m args below meth c C hr hlocks hx
  exact tX8_sleeper C hr hlocks hL hx hg ht h
/-! X8_sleeperNumbered -/
set_option maxRecDepth 100000 in
set_option maxHeartbeats 4000000 in
theorem tX8_sleeperNumbered_15 {p : Program} {l : Launch} {e : Env} {s : State} {m : MethodId} {args : Array Value} {below : List Frame} {meth : Method} {c : Code} {G : mG} {b0 : Nat} (C : m_C p s m args c cX8_sleeperNumbered 2 RX8 wsX8_sleeperNumbered G b0) (hr : meth.sig.returnType = (some (.object "Lullabygate$Sleeper"))) (hlocks : meth.locks = false) {t : Nat} (hL : l.stackTraces = false) (hx : ∀ x ∈ c.exceptionTable.toList, False) {κ : Option Nat → mM → Prop} {ξ : String → mM → Prop} (ht : ∀ E M, ξ E M → 1 ≤ t) {M : mM} (h : wX8_sleeperNumbered_15 κ ξ M) : m_W p l e ({ frames := 6, cells := (0 + 1 * t), slots := (0 + 6 * t), locals := 90 } : Room) s m args below meth c G b0 (vx_MQ below (va_Qq κ (m_B G b0) (fun q => b0 ≤ q)) (m_X G b0 ξ) args s (0 + 1 * t) (0 + 6 * t) (fun q => b0 ≤ q)) 2 M 0 0 15 [] [] := by
  unfold wX8_sleeperNumbered_15 at h
  have ht9 := ht _ _ h
  exact q_throwSW (pc := 15) (names := ["java/lang/RuntimeException", "java/lang/Exception"]) (text := "no such SLEEPER") C hL hx hlocks h (by decide +kernel) (by decide +kernel) (by decide +kernel) (by decide +kernel) (List.mem_of_getElem? (i := 444) (by decide +kernel)) (by decide +kernel) (by decide +kernel) (by decide +kernel) dX8_sleeperNumbered_15 dX8_sleeperNumbered_18 dX8_sleeperNumbered_19 dX8_sleeperNumbered_22 dX8_sleeperNumbered_25 (Nat.le_of_ble_eq_true rfl) (by first | exact Nat.le_of_ble_eq_true rfl | (simp [q_cat, q_catI, q_catJ, q_catR, q_catN]; done) | (simp [q_cat, q_catI, q_catJ, q_catR, q_catN]; decide)) (by first | omega | (dsimp only; omega)) (by first | omega | (dsimp only; omega)) (by omega) (by omega)
set_option maxRecDepth 100000 in
set_option maxHeartbeats 4000000 in
theorem tX8_sleeperNumbered {p : Program} {l : Launch} {e : Env} {s : State} {m : MethodId} {args : Array Value} {below : List Frame} {meth : Method} {c : Code} {G : mG} {b0 : Nat} (C : m_C p s m args c cX8_sleeperNumbered 2 RX8 wsX8_sleeperNumbered G b0) (hr : meth.sig.returnType = (some (.object "Lullabygate$Sleeper"))) (hlocks : meth.locks = false) {t : Nat} (hL : l.stackTraces = false) (hx : ∀ x ∈ c.exceptionTable.toList, False) {κ : Option Nat → mM → Prop} {ξ : String → mM → Prop} (ht : ∀ E M, ξ E M → 1 ≤ t) {l0 : Option Nat} {l1 : Int32} {M : mM} (h : wX8_sleeperNumbered κ ξ l0 l1 M) : m_W p l e ({ frames := 6, cells := (0 + 1 * t), slots := (0 + 6 * t), locals := 90 } : Room) s m args below meth c G b0 (vx_MQ below (va_Qq κ (m_B G b0) (fun q => b0 ≤ q)) (m_X G b0 ξ) args s (0 + 1 * t) (0 + 6 * t) (fun q => b0 ≤ q)) 2 M 0 0 0 [(0, va_rf l0), (1, .int l1)] [] := by
  unfold wX8_sleeperNumbered at h
  refine q_iload_n (pc := 0) C 1 1 dX8_sleeperNumbered_0 rfl rfl ?_
  refine q_if_lt (pc := 1) C 15 dX8_sleeperNumbered_1 (by decide) (fun c1 => ?_) (fun c1 => ?_)
  · have h := h.1 c1
    refine q_widen (k2 := 0) (n2 := 0) (by omega) (by omega) ?_
    refine q_lv [] rfl ?_
    exact tX8_sleeperNumbered_15 C hr hlocks hL hx ht h
  · have h := h.2 c1
    refine q_iload_n (pc := 4) C 1 1 dX8_sleeperNumbered_4 rfl rfl ?_
    refine q_aload_n (pc := 5) C 0 0 dX8_sleeperNumbered_5 rfl rfl ?_
    refine q_gR (pc := 6) C h (T := TX8) rfl (by decide) (wk_u rfl wm_X8_sleeperNumbered uq_X8 (by decide +kernel)) (by decide +kernel) (fun _ h9 => h9) dX8_sleeperNumbered_6 (fun x2 h => ?_)
    obtain ⟨b5, fs9, hb5, hm9, h⟩ := h
    refine q_ci (pc := 9) (q_rV C (st := [.int l1]) (b := b5) (kJx4a65c_size_8abf5 l G b0 h) (cwV 0 C.2.2.2.2.1 gX8_sleeperNumbered_Jx4a65c_size_8abf5 rfl rfl rfl (by decide +kernel) ⟨Nat.le_of_ble_eq_true rfl, Nat.le_of_ble_eq_true rfl⟩) hm9 rfl rfl rfl (by first | exact Nat.le_of_ble_eq_true rfl | (simp [q_cat, q_catI, q_catJ, q_catR, q_catN]; done)) (by rw [hb5]; first | done | rfl) dX8_sleeperNumbered_9 ⟨(by first | omega | (dsimp only; omega)), (by first | omega | (dsimp only; omega))⟩) (fun x3 M4 h => ?_)
    refine q_icmp_lt (pc := 12) C 26 dX8_sleeperNumbered_12 (by decide) (fun c6 => ?_) (fun c6 => ?_)
    · have h := h.1 c6
      refine q_aload_n (pc := 26) C 0 0 dX8_sleeperNumbered_26 rfl rfl ?_
      refine q_gR (pc := 27) C h (T := TX8) rfl (by decide) (wk_u rfl wm_X8_sleeperNumbered uq_X8 (by decide +kernel)) (by decide +kernel) (fun _ h9 => h9) dX8_sleeperNumbered_27 (fun x7 h => ?_)
      refine q_iload_n (pc := 30) C 1 1 dX8_sleeperNumbered_30 rfl rfl ?_
      obtain ⟨b10, fs9, hb10, hm9, h⟩ := h
      refine q_cq (pc := 31) (q_rV C (st := []) (b := b10) (kJx4a65c_get_915e3 l G b0 h) (cwV 1 C.2.2.2.2.1 gX8_sleeperNumbered_Jx4a65c_get_915e3 rfl rfl rfl (by decide +kernel) ⟨Nat.le_of_ble_eq_true rfl, Nat.le_of_ble_eq_true rfl⟩) hm9 rfl rfl rfl (by first | exact Nat.le_of_ble_eq_true rfl | (simp [q_cat, q_catI, q_catJ, q_catR, q_catN]; done)) (by rw [hb10]; first | done | rfl) dX8_sleeperNumbered_31 ⟨(by first | omega | (dsimp only; omega)), (by first | omega | (dsimp only; omega))⟩) (fun x8 M9 h => ?_)
      refine q_cast (pc := 34) C h rfl rfl (by decide +kernel) dX8_sleeperNumbered_34 (fun h => ?_)
      exact q_aretX (pc := 37) C hr (by first | exact Or.inl ⟨_, rfl⟩ | exact Or.inr ⟨_, rfl⟩) hlocks h dX8_sleeperNumbered_37 (by omega) (by omega)
    · have h := h.2 c6
      refine q_widen (k2 := 0) (n2 := 0) (by omega) (by omega) ?_
      refine q_lv [] rfl ?_
      exact tX8_sleeperNumbered_15 C hr hlocks hL hx ht h
set_option maxRecDepth 100000 in
set_option maxHeartbeats 4000000 in
theorem kX8_sleeperNumbered (l : Launch) (G : mG) (b0 : Nat) {t : Nat} (hL : l.stackTraces = false) {b : Nat} {l1 : Int32} {M : mM} {κ : Option Nat → mM → Prop} {ξ : String → mM → Prop} (ht : ∀ E M, ξ E M → 1 ≤ t) (h : wX8_sleeperNumbered κ ξ (some b) l1 M) : vx_Met l yX8_sleeperNumbered wsX8_sleeperNumbered ({ frames := 6, cells := (0 + 1 * t), slots := (0 + 6 * t), locals := 90 } : Room) (va_Pc [.ref b, .int l1] (m_Pre G b0 M)) (va_Qq κ (m_B G b0) (fun q => b0 ≤ q)) (m_X G b0 ξ) (0 + 1 * t) (0 + 6 * t) (fun q => b0 ≤ q) := by
  refine m_metX (cc := cX8_sleeperNumbered) (maxL := 2) (ret := (some (.object "Lullabygate$Sleeper"))) (lv := [(0, va_rf (some b)), (1, .int l1)]) RX8 rfl (by decide +kernel) rfl (by first | exact Nat.le_of_ble_eq_true rfl | simp [lg_sl, q_cat, q_catI, q_catJ, q_catR, q_catN]) (by first | rfl | (simp [lv_args, q_cat, q_catI, q_catJ, q_catR, q_catN]; done) | (simp [lv_args, q_cat, q_catI, q_catJ, q_catR, q_catN]; rfl)) ?_
  intro p e s m args below meth c C hr hlocks hx
  exact tX8_sleeperNumbered C hr hlocks hL hx ht h
/-! X8_part -/
set_option maxRecDepth 100000 in
set_option maxHeartbeats 4000000 in
theorem tX8_part_49 {p : Program} {l : Launch} {e : Env} {s : State} {m : MethodId} {args : Array Value} {below : List Frame} {meth : Method} {c : Code} {G : mG} {b0 : Nat} (C : m_C p s m args c cX8_part 7 RX8 wsX8_part G b0) (hr : meth.sig.returnType = (some .int)) (hlocks : meth.locks = false) {t : Nat} (hL : l.stackTraces = false) (hx : ∀ x ∈ c.exceptionTable.toList, False) {g : Nat → Nat} (hg : G.2.2 = g) {κ : Int32 → mM → Prop} {ξ : String → mM → Prop} (ht : ∀ E M, ξ E M → 1 ≤ t) {M : mM} (h : wX8_part_49 g κ ξ M) : m_W p l e ({ frames := 7, cells := (2 + 5 * t), slots := (41 + 30 * t), locals := 171 } : Room) s m args below meth c G b0 (vx_MQ below (va_Qi κ (m_B G b0) (fun q => b0 ≤ q)) (m_X G b0 ξ) args s (2 + 5 * t) (41 + 30 * t) (fun q => b0 ≤ q)) 7 M (0 + 4 * t) (0 + 24 * t) 49 [] [] := by
  unfold wX8_part_49 at h
  have ht9 := ht _ _ h
  exact q_throwS (pc := 49) (names := ["java/lang/RuntimeException", "java/lang/Exception"]) (text := "there are all PARTS that there may be, or the SLEEPER is not AT REST") C hL hx hlocks h (by decide +kernel) (by decide +kernel) (by decide +kernel) (by decide +kernel) (List.mem_of_getElem? (i := 775) (by decide +kernel)) (by decide +kernel) (by decide +kernel) (by decide +kernel) dX8_part_49 dX8_part_52 dX8_part_53 dX8_part_55 dX8_part_58 (Nat.le_of_ble_eq_true rfl) (by first | exact Nat.le_of_ble_eq_true rfl | (simp [q_cat, q_catI, q_catJ, q_catR, q_catN]; done) | (simp [q_cat, q_catI, q_catJ, q_catR, q_catN]; decide)) (by first | omega | (dsimp only; omega)) (by first | omega | (dsimp only; omega)) (by omega) (by omega)
set_option maxRecDepth 100000 in
set_option maxHeartbeats 4000000 in
theorem tX8_part {p : Program} {l : Launch} {e : Env} {s : State} {m : MethodId} {args : Array Value} {below : List Frame} {meth : Method} {c : Code} {G : mG} {b0 : Nat} (C : m_C p s m args c cX8_part 7 RX8 wsX8_part G b0) (hr : meth.sig.returnType = (some .int)) (hlocks : meth.locks = false) {t : Nat} (hL : l.stackTraces = false) (hx : ∀ x ∈ c.exceptionTable.toList, False) {g : Nat → Nat} (hg : G.2.2 = g) {κ : Int32 → mM → Prop} {ξ : String → mM → Prop} (ht : ∀ E M, ξ E M → 1 ≤ t) {l0 : Option Nat} {l1 : Int32} {l2 : Int32} {l3 : Int32} {l4 : Int32} {M : mM} (h : wX8_part g κ ξ l0 l1 l2 l3 l4 M) : m_W p l e ({ frames := 7, cells := (2 + 5 * t), slots := (41 + 30 * t), locals := 171 } : Room) s m args below meth c G b0 (vx_MQ below (va_Qi κ (m_B G b0) (fun q => b0 ≤ q)) (m_X G b0 ξ) args s (2 + 5 * t) (41 + 30 * t) (fun q => b0 ≤ q)) 7 M 0 0 0 [(0, va_rf l0), (1, .int l1), (2, .int l2), (3, .int l3), (4, .int l4)] [] := by
  unfold wX8_part at h
  refine q_aload_n (pc := 0) C 0 0 dX8_part_0 rfl rfl ?_
  refine q_iload_n (pc := 1) C 1 1 dX8_part_1 rfl rfl ?_
  obtain ⟨b3, fs9, hb3, hm9, h⟩ := h
  refine q_cXq (pc := 2) (q_rVX C (st := []) (b := b3) (kX8_sleeperNumbered l G b0 (t := t) hL ht h) (cwV 1 C.2.2.2.2.1 gX8_part_X8_sleeperNumbered rfl rfl rfl (by decide +kernel) ⟨Nat.le_of_ble_eq_true rfl, Nat.le_of_ble_eq_true rfl⟩) hm9 rfl rfl rfl (by first | exact Nat.le_of_ble_eq_true rfl | (simp [q_cat, q_catI, q_catJ, q_catR, q_catN]; done)) (by rw [hb3]; first | done | rfl) dX8_part_2 ⟨(by first | omega | (dsimp only; omega)), (by first | omega | (dsimp only; omega))⟩) (fun E9 M9 h9 => q_out C hx hlocks h9 (by omega) (by omega)) (fun x1 M2 h => ?_)
  refine q_astore (pc := 5) C 5 [(5, va_rf x1), (0, va_rf l0), (1, .int l1), (2, .int l2), (3, .int l3), (4, .int l4)] dX8_part_5 (by decide) (by first | rfl | simp [q_cat, q_catI, q_catJ, q_catR, q_catN]) ?_
  refine q_iload_n (pc := 7) C 2 3 dX8_part_7 rfl rfl ?_
  refine q_iconst (pc := 8) C 0 dX8_part_8 (by decide) ?_
  refine q_bipush (pc := 9) C 7 dX8_part_9 (by decide) ?_
  refine q_cXv (pc := 11) (q_rSX C (st := []) (kX8_demandRange l G b0 (t := t) hL ht h) (va_cwS 3 C.2.2.2.2.1 gX8_part_X8_demandRange rfl rfl rfl (by decide +kernel) ⟨Nat.le_of_ble_eq_true rfl, Nat.le_of_ble_eq_true rfl⟩) rfl (by first | exact Nat.le_of_ble_eq_true rfl | (simp [q_cat, q_catI, q_catJ, q_catR, q_catN]; done)) rfl dX8_part_11 ⟨(by first | omega | (dsimp only; omega)), (by first | omega | (dsimp only; omega))⟩) (fun E9 M9 h9 => q_out C hx hlocks h9 (by omega) (by omega)) (fun M4 h => ?_)
  refine q_iload_n (pc := 14) C 3 4 dX8_part_14 rfl rfl ?_
  refine q_iconst (pc := 15) C 0 dX8_part_15 (by decide) ?_
  refine q_bipush (pc := 16) C 99 dX8_part_16 (by decide) ?_
  refine q_cXv (pc := 18) (q_rSX C (st := []) (kX8_demandRange l G b0 (t := t) hL ht h) (va_cwS 3 C.2.2.2.2.1 gX8_part_X8_demandRange rfl rfl rfl (by decide +kernel) ⟨Nat.le_of_ble_eq_true rfl, Nat.le_of_ble_eq_true rfl⟩) rfl (by first | exact Nat.le_of_ble_eq_true rfl | (simp [q_cat, q_catI, q_catJ, q_catR, q_catN]; done)) rfl dX8_part_18 ⟨(by first | omega | (dsimp only; omega)), (by first | omega | (dsimp only; omega))⟩) (fun E9 M9 h9 => q_out C hx hlocks h9 (by omega) (by omega)) (fun M5 h => ?_)
  refine q_iload (pc := 21) C 4 5 dX8_part_21 rfl ?_
  refine q_iconst (pc := 23) C 0 dX8_part_23 (by decide) ?_
  refine q_bipush (pc := 24) C 9 dX8_part_24 (by decide) ?_
  refine q_cXv (pc := 26) (q_rSX C (st := []) (kX8_demandRange l G b0 (t := t) hL ht h) (va_cwS 3 C.2.2.2.2.1 gX8_part_X8_demandRange rfl rfl rfl (by decide +kernel) ⟨Nat.le_of_ble_eq_true rfl, Nat.le_of_ble_eq_true rfl⟩) rfl (by first | exact Nat.le_of_ble_eq_true rfl | (simp [q_cat, q_catI, q_catJ, q_catR, q_catN]; done)) rfl dX8_part_26 ⟨(by first | omega | (dsimp only; omega)), (by first | omega | (dsimp only; omega))⟩) (fun E9 M9 h9 => q_out C hx hlocks h9 (by omega) (by omega)) (fun M6 h => ?_)
  refine q_aload_n (pc := 29) C 0 1 dX8_part_29 rfl rfl ?_
  refine q_gR (pc := 30) C h (T := TX8) rfl (by decide) (wk_u rfl wm_X8_part uq_X8 (by decide +kernel)) (by decide +kernel) (fun _ h9 => h9) dX8_part_30 (fun x7 h => ?_)
  obtain ⟨b10, fs9, hb10, hm9, h⟩ := h
  refine q_ci (pc := 33) (q_rV C (st := []) (b := b10) (kJx4a65c_size_8abf5 l G b0 h) (cwV 0 C.2.2.2.2.1 gX8_part_Jx4a65c_size_8abf5 rfl rfl rfl (by decide +kernel) ⟨Nat.le_of_ble_eq_true rfl, Nat.le_of_ble_eq_true rfl⟩) hm9 rfl rfl rfl (by first | exact Nat.le_of_ble_eq_true rfl | (simp [q_cat, q_catI, q_catJ, q_catR, q_catN]; done)) (by rw [hb10]; first | done | rfl) dX8_part_33 ⟨(by first | omega | (dsimp only; omega)), (by first | omega | (dsimp only; omega))⟩) (fun x8 M9 h => ?_)
  refine q_bipush (pc := 36) C 24 dX8_part_36 (by decide) ?_
  refine q_icmp_ge (pc := 38) C 49 dX8_part_38 (by decide) (fun c11 => ?_) (fun c11 => ?_)
  · have h := h.1 c11
    refine q_widen (k2 := (0 + 4 * t)) (n2 := (0 + 24 * t)) (by omega) (by omega) ?_
    refine q_lv [] rfl ?_
    exact tX8_part_49 C hr hlocks hL hx hg ht h
  · have h := h.2 c11
    refine q_aload (pc := 41) C 5 0 dX8_part_41 rfl ?_
    refine q_gI (pc := 43) C h (T := TX6) rfl (by decide) (wk_u rfl wm_X8_part uq_X6 (by decide +kernel)) (by decide +kernel) (fun _ h9 => h9) dX8_part_43 (fun x12 h => ?_)
    refine q_if_eq (pc := 46) C 59 dX8_part_46 (by decide) (fun c13 => ?_) (fun c13 => ?_)
    · have h := h.1 c13
      refine q_new (pc := 59) C h rfl (T := TX3) tyX3 tyX3_ok rfl (by decide +kernel) (by decide +kernel) (by decide +kernel) (by decide +kernel) (fun j hj => by rcases (show j = 0 ∨ j = 1 ∨ j = 2 ∨ j = 3 ∨ j = 4 ∨ j = 5 ∨ j = 6 ∨ j = 7 by omega) with rfl | rfl | rfl | rfl | rfl | rfl | rfl | rfl <;> rfl) (by first | omega | (dsimp only; omega)) (by first | omega | (dsimp only; omega)) dX8_part_59 (fun q14 M15 h => ?_)
      refine q_dup (pc := 62) C dX8_part_62 (q_cat _) ?_
      refine q_aload_n (pc := 63) C 0 1 dX8_part_63 rfl rfl ?_
      refine q_gR (pc := 64) C h (T := TX8) rfl (by decide) (wk_u rfl wm_X8_part uq_X8 (by decide +kernel)) (by decide +kernel) (fun _ h9 => h9) dX8_part_64 (fun x16 h => ?_)
      obtain ⟨b19, fs9, hb19, hm9, h⟩ := h
      refine q_ci (pc := 67) (q_rV C (st := [va_rf (some q14), va_rf (some q14)]) (b := b19) (kJx4a65c_size_8abf5 l G b0 h) (cwV 0 C.2.2.2.2.1 gX8_part_Jx4a65c_size_8abf5 rfl rfl rfl (by decide +kernel) ⟨Nat.le_of_ble_eq_true rfl, Nat.le_of_ble_eq_true rfl⟩) hm9 rfl rfl rfl (by first | exact Nat.le_of_ble_eq_true rfl | (simp [q_cat, q_catI, q_catJ, q_catR, q_catN]; done)) (by rw [hb19]; first | done | rfl) dX8_part_67 ⟨(by first | omega | (dsimp only; omega)), (by first | omega | (dsimp only; omega))⟩) (fun x17 M18 h => ?_)
      refine q_aload (pc := 70) C 5 0 dX8_part_70 rfl ?_
      refine q_iload_n (pc := 72) C 2 3 dX8_part_72 rfl rfl ?_
      refine q_iload_n (pc := 73) C 3 4 dX8_part_73 rfl rfl ?_
      refine q_iload (pc := 74) C 4 5 dX8_part_74 rfl ?_
      obtain ⟨b21, fs9, hb21, hm9, h⟩ := h
      refine q_cv (pc := 76) (q_rI C (st := [va_rf (some q14)]) (b := b21) (kX3_init l G b0 h) (cwI 5 C.2.2.2.2.1 gX8_part_X3_init rfl rfl rfl (C.2.2.2.2.1 (.initialized RX3) (by decide +kernel)) (C.2.2.2.2.1 (.methodLink RX8 129 yX3_init) (by decide +kernel)) (C.2.2.2.2.1 (.instanceMethod yX3_init) (by decide +kernel)) rfl (by decide +kernel) ⟨Nat.le_of_ble_eq_true rfl, Nat.le_of_ble_eq_true rfl⟩) rfl (by first | exact Nat.le_of_ble_eq_true rfl | (simp [q_cat, q_catI, q_catJ, q_catR, q_catN]; done)) (by rw [hb21]; first | done | rfl) dX8_part_76 ⟨(by first | omega | (dsimp only; omega)), (by first | omega | (dsimp only; omega))⟩) (fun M20 h => ?_)
      refine q_astore (pc := 79) C 6 [(6, va_rf (some q14)), (5, va_rf x1), (0, va_rf l0), (1, .int l1), (2, .int l2), (3, .int l3), (4, .int l4)] dX8_part_79 (by decide) (by first | rfl | simp [q_cat, q_catI, q_catJ, q_catR, q_catN]) ?_
      refine q_aload_n (pc := 81) C 0 2 dX8_part_81 rfl rfl ?_
      refine q_gR (pc := 82) C h (T := TX8) rfl (by decide) (wk_u rfl wm_X8_part uq_X8 (by decide +kernel)) (by decide +kernel) (fun _ h9 => h9) dX8_part_82 (fun x22 h => ?_)
      refine q_aload (pc := 85) C 6 0 dX8_part_85 rfl ?_
      obtain ⟨b25, fs9, hb25, hm9, h⟩ := h
      refine q_ci (pc := 87) (q_rV C (st := []) (b := b25) (kJx4a65c_add_9ea2d l G b0 hg (by decide) h) (cwV 1 C.2.2.2.2.1 gX8_part_Jx4a65c_add_9ea2d rfl rfl rfl (by decide +kernel) ⟨Nat.le_of_ble_eq_true rfl, Nat.le_of_ble_eq_true rfl⟩) hm9 rfl rfl rfl (by first | exact Nat.le_of_ble_eq_true rfl | (simp [q_cat, q_catI, q_catJ, q_catR, q_catN]; done)) (by rw [hb25]; first | done | rfl) dX8_part_87 ⟨(by first | omega | (dsimp only; omega)), (by first | omega | (dsimp only; omega))⟩) (fun x23 M24 h => ?_)
      refine q_pop (pc := 90) C dX8_part_90 rfl ?_
      refine q_aload (pc := 91) C 6 0 dX8_part_91 rfl ?_
      refine q_gI (pc := 93) C h (T := TX3) rfl (by decide) (wk_u rfl wm_X8_part uq_X3 (by decide +kernel)) (by decide +kernel) (fun _ h9 => h9) dX8_part_93 (fun x26 h => ?_)
      exact q_iretX (pc := 96) C hr hlocks h dX8_part_96 (by omega) (by omega)
    · have h := h.2 c13
      refine q_widen (k2 := (0 + 4 * t)) (n2 := (0 + 24 * t)) (by omega) (by omega) ?_
      refine q_lv [] rfl ?_
      exact tX8_part_49 C hr hlocks hL hx hg ht h
set_option maxRecDepth 100000 in
set_option maxHeartbeats 4000000 in
theorem kX8_part (l : Launch) (G : mG) (b0 : Nat) {t : Nat} (hL : l.stackTraces = false) {g : Nat → Nat} (hg : G.2.2 = g) {b : Nat} {l1 : Int32} {l2 : Int32} {l3 : Int32} {l4 : Int32} {M : mM} {κ : Int32 → mM → Prop} {ξ : String → mM → Prop} (ht : ∀ E M, ξ E M → 1 ≤ t) (h : wX8_part g κ ξ (some b) l1 l2 l3 l4 M) : vx_Met l yX8_part wsX8_part ({ frames := 7, cells := (2 + 5 * t), slots := (41 + 30 * t), locals := 171 } : Room) (va_Pc [.ref b, .int l1, .int l2, .int l3, .int l4] (m_Pre G b0 M)) (va_Qi κ (m_B G b0) (fun q => b0 ≤ q)) (m_X G b0 ξ) (2 + 5 * t) (41 + 30 * t) (fun q => b0 ≤ q) := by
  refine m_metX (cc := cX8_part) (maxL := 7) (ret := (some .int)) (lv := [(0, va_rf (some b)), (1, .int l1), (2, .int l2), (3, .int l3), (4, .int l4)]) RX8 rfl (by decide +kernel) rfl (by first | exact Nat.le_of_ble_eq_true rfl | simp [lg_sl, q_cat, q_catI, q_catJ, q_catR, q_catN]) (by first | rfl | (simp [lv_args, q_cat, q_catI, q_catJ, q_catR, q_catN]; done) | (simp [lv_args, q_cat, q_catI, q_catJ, q_catR, q_catN]; rfl)) ?_
  intro p e s m args below meth c C hr hlocks hx
  exact tX8_part C hr hlocks hL hx hg ht h
/-! X8_partNumbered -/
set_option maxRecDepth 100000 in
set_option maxHeartbeats 4000000 in
theorem tX8_partNumbered_15 {p : Program} {l : Launch} {e : Env} {s : State} {m : MethodId} {args : Array Value} {below : List Frame} {meth : Method} {c : Code} {G : mG} {b0 : Nat} (C : m_C p s m args c cX8_partNumbered 2 RX8 wsX8_partNumbered G b0) (hr : meth.sig.returnType = (some (.object "Lullabygate$Part"))) (hlocks : meth.locks = false) {t : Nat} (hL : l.stackTraces = false) (hx : ∀ x ∈ c.exceptionTable.toList, False) {κ : Option Nat → mM → Prop} {ξ : String → mM → Prop} (ht : ∀ E M, ξ E M → 1 ≤ t) {M : mM} (h : wX8_partNumbered_15 κ ξ M) : m_W p l e ({ frames := 6, cells := (0 + 1 * t), slots := (0 + 6 * t), locals := 90 } : Room) s m args below meth c G b0 (vx_MQ below (va_Qq κ (m_B G b0) (fun q => b0 ≤ q)) (m_X G b0 ξ) args s (0 + 1 * t) (0 + 6 * t) (fun q => b0 ≤ q)) 2 M 0 0 15 [] [] := by
  unfold wX8_partNumbered_15 at h
  have ht9 := ht _ _ h
  exact q_throwSW (pc := 15) (names := ["java/lang/RuntimeException", "java/lang/Exception"]) (text := "no such PART") C hL hx hlocks h (by decide +kernel) (by decide +kernel) (by decide +kernel) (by decide +kernel) (List.mem_of_getElem? (i := 470) (by decide +kernel)) (by decide +kernel) (by decide +kernel) (by decide +kernel) dX8_partNumbered_15 dX8_partNumbered_18 dX8_partNumbered_19 dX8_partNumbered_22 dX8_partNumbered_25 (Nat.le_of_ble_eq_true rfl) (by first | exact Nat.le_of_ble_eq_true rfl | (simp [q_cat, q_catI, q_catJ, q_catR, q_catN]; done) | (simp [q_cat, q_catI, q_catJ, q_catR, q_catN]; decide)) (by first | omega | (dsimp only; omega)) (by first | omega | (dsimp only; omega)) (by omega) (by omega)
set_option maxRecDepth 100000 in
set_option maxHeartbeats 4000000 in
theorem tX8_partNumbered {p : Program} {l : Launch} {e : Env} {s : State} {m : MethodId} {args : Array Value} {below : List Frame} {meth : Method} {c : Code} {G : mG} {b0 : Nat} (C : m_C p s m args c cX8_partNumbered 2 RX8 wsX8_partNumbered G b0) (hr : meth.sig.returnType = (some (.object "Lullabygate$Part"))) (hlocks : meth.locks = false) {t : Nat} (hL : l.stackTraces = false) (hx : ∀ x ∈ c.exceptionTable.toList, False) {κ : Option Nat → mM → Prop} {ξ : String → mM → Prop} (ht : ∀ E M, ξ E M → 1 ≤ t) {l0 : Option Nat} {l1 : Int32} {M : mM} (h : wX8_partNumbered κ ξ l0 l1 M) : m_W p l e ({ frames := 6, cells := (0 + 1 * t), slots := (0 + 6 * t), locals := 90 } : Room) s m args below meth c G b0 (vx_MQ below (va_Qq κ (m_B G b0) (fun q => b0 ≤ q)) (m_X G b0 ξ) args s (0 + 1 * t) (0 + 6 * t) (fun q => b0 ≤ q)) 2 M 0 0 0 [(0, va_rf l0), (1, .int l1)] [] := by
  unfold wX8_partNumbered at h
  refine q_iload_n (pc := 0) C 1 1 dX8_partNumbered_0 rfl rfl ?_
  refine q_if_lt (pc := 1) C 15 dX8_partNumbered_1 (by decide) (fun c1 => ?_) (fun c1 => ?_)
  · have h := h.1 c1
    refine q_widen (k2 := 0) (n2 := 0) (by omega) (by omega) ?_
    refine q_lv [] rfl ?_
    exact tX8_partNumbered_15 C hr hlocks hL hx ht h
  · have h := h.2 c1
    refine q_iload_n (pc := 4) C 1 1 dX8_partNumbered_4 rfl rfl ?_
    refine q_aload_n (pc := 5) C 0 0 dX8_partNumbered_5 rfl rfl ?_
    refine q_gR (pc := 6) C h (T := TX8) rfl (by decide) (wk_u rfl wm_X8_partNumbered uq_X8 (by decide +kernel)) (by decide +kernel) (fun _ h9 => h9) dX8_partNumbered_6 (fun x2 h => ?_)
    obtain ⟨b5, fs9, hb5, hm9, h⟩ := h
    refine q_ci (pc := 9) (q_rV C (st := [.int l1]) (b := b5) (kJx4a65c_size_8abf5 l G b0 h) (cwV 0 C.2.2.2.2.1 gX8_partNumbered_Jx4a65c_size_8abf5 rfl rfl rfl (by decide +kernel) ⟨Nat.le_of_ble_eq_true rfl, Nat.le_of_ble_eq_true rfl⟩) hm9 rfl rfl rfl (by first | exact Nat.le_of_ble_eq_true rfl | (simp [q_cat, q_catI, q_catJ, q_catR, q_catN]; done)) (by rw [hb5]; first | done | rfl) dX8_partNumbered_9 ⟨(by first | omega | (dsimp only; omega)), (by first | omega | (dsimp only; omega))⟩) (fun x3 M4 h => ?_)
    refine q_icmp_lt (pc := 12) C 26 dX8_partNumbered_12 (by decide) (fun c6 => ?_) (fun c6 => ?_)
    · have h := h.1 c6
      refine q_aload_n (pc := 26) C 0 0 dX8_partNumbered_26 rfl rfl ?_
      refine q_gR (pc := 27) C h (T := TX8) rfl (by decide) (wk_u rfl wm_X8_partNumbered uq_X8 (by decide +kernel)) (by decide +kernel) (fun _ h9 => h9) dX8_partNumbered_27 (fun x7 h => ?_)
      refine q_iload_n (pc := 30) C 1 1 dX8_partNumbered_30 rfl rfl ?_
      obtain ⟨b10, fs9, hb10, hm9, h⟩ := h
      refine q_cq (pc := 31) (q_rV C (st := []) (b := b10) (kJx4a65c_get_915e3 l G b0 h) (cwV 1 C.2.2.2.2.1 gX8_partNumbered_Jx4a65c_get_915e3 rfl rfl rfl (by decide +kernel) ⟨Nat.le_of_ble_eq_true rfl, Nat.le_of_ble_eq_true rfl⟩) hm9 rfl rfl rfl (by first | exact Nat.le_of_ble_eq_true rfl | (simp [q_cat, q_catI, q_catJ, q_catR, q_catN]; done)) (by rw [hb10]; first | done | rfl) dX8_partNumbered_31 ⟨(by first | omega | (dsimp only; omega)), (by first | omega | (dsimp only; omega))⟩) (fun x8 M9 h => ?_)
      refine q_cast (pc := 34) C h rfl rfl (by decide +kernel) dX8_partNumbered_34 (fun h => ?_)
      exact q_aretX (pc := 37) C hr (by first | exact Or.inl ⟨_, rfl⟩ | exact Or.inr ⟨_, rfl⟩) hlocks h dX8_partNumbered_37 (by omega) (by omega)
    · have h := h.2 c6
      refine q_widen (k2 := 0) (n2 := 0) (by omega) (by omega) ?_
      refine q_lv [] rfl ?_
      exact tX8_partNumbered_15 C hr hlocks hL hx ht h
set_option maxRecDepth 100000 in
set_option maxHeartbeats 4000000 in
theorem kX8_partNumbered (l : Launch) (G : mG) (b0 : Nat) {t : Nat} (hL : l.stackTraces = false) {b : Nat} {l1 : Int32} {M : mM} {κ : Option Nat → mM → Prop} {ξ : String → mM → Prop} (ht : ∀ E M, ξ E M → 1 ≤ t) (h : wX8_partNumbered κ ξ (some b) l1 M) : vx_Met l yX8_partNumbered wsX8_partNumbered ({ frames := 6, cells := (0 + 1 * t), slots := (0 + 6 * t), locals := 90 } : Room) (va_Pc [.ref b, .int l1] (m_Pre G b0 M)) (va_Qq κ (m_B G b0) (fun q => b0 ≤ q)) (m_X G b0 ξ) (0 + 1 * t) (0 + 6 * t) (fun q => b0 ≤ q) := by
  refine m_metX (cc := cX8_partNumbered) (maxL := 2) (ret := (some (.object "Lullabygate$Part"))) (lv := [(0, va_rf (some b)), (1, .int l1)]) RX8 rfl (by decide +kernel) rfl (by first | exact Nat.le_of_ble_eq_true rfl | simp [lg_sl, q_cat, q_catI, q_catJ, q_catR, q_catN]) (by first | rfl | (simp [lv_args, q_cat, q_catI, q_catJ, q_catR, q_catN]; done) | (simp [lv_args, q_cat, q_catI, q_catJ, q_catR, q_catN]; rfl)) ?_
  intro p e s m args below meth c C hr hlocks hx
  exact tX8_partNumbered C hr hlocks hL hx ht h
/-! X8_give -/
set_option maxRecDepth 100000 in
set_option maxHeartbeats 4000000 in
theorem tX8_give_31 {p : Program} {l : Launch} {e : Env} {s : State} {m : MethodId} {args : Array Value} {below : List Frame} {meth : Method} {c : Code} {G : mG} {b0 : Nat} (C : m_C p s m args c cX8_give 6 RX8 wsX8_give G b0) (hr : meth.sig.returnType = (some .int)) (hlocks : meth.locks = false) {t : Nat} (hL : l.stackTraces = false) (hx : ∀ x ∈ c.exceptionTable.toList, False) {κ : Int32 → mM → Prop} {ξ : String → mM → Prop} (ht : ∀ E M, ξ E M → 1 ≤ t) {M : mM} (h : wX8_give_31 κ ξ M) : m_W p l e ({ frames := 7, cells := (0 + 3 * t), slots := (0 + 18 * t), locals := 111 } : Room) s m args below meth c G b0 (vx_MQ below (va_Qi κ (m_B G b0) (fun q => b0 ≤ q)) (m_X G b0 ξ) args s (0 + 3 * t) (0 + 18 * t) (fun q => b0 ≤ q)) 6 M (0 + 2 * t) (0 + 12 * t) 31 [] [] := by
  unfold wX8_give_31 at h
  have ht9 := ht _ _ h
  exact q_throwS (pc := 31) (names := ["java/lang/RuntimeException", "java/lang/Exception"]) (text := "the PART is in no HEAD, or in that one") C hL hx hlocks h (by decide +kernel) (by decide +kernel) (by decide +kernel) (by decide +kernel) (List.mem_of_getElem? (i := 820) (by decide +kernel)) (by decide +kernel) (by decide +kernel) (by decide +kernel) dX8_give_31 dX8_give_34 dX8_give_35 dX8_give_37 dX8_give_40 (Nat.le_of_ble_eq_true rfl) (by first | exact Nat.le_of_ble_eq_true rfl | (simp [q_cat, q_catI, q_catJ, q_catR, q_catN]; done) | (simp [q_cat, q_catI, q_catJ, q_catR, q_catN]; decide)) (by first | omega | (dsimp only; omega)) (by first | omega | (dsimp only; omega)) (by omega) (by omega)
set_option maxRecDepth 100000 in
set_option maxHeartbeats 4000000 in
theorem tX8_give_70 {p : Program} {l : Launch} {e : Env} {s : State} {m : MethodId} {args : Array Value} {below : List Frame} {meth : Method} {c : Code} {G : mG} {b0 : Nat} (C : m_C p s m args c cX8_give 6 RX8 wsX8_give G b0) (hr : meth.sig.returnType = (some .int)) (hlocks : meth.locks = false) {t : Nat} (hL : l.stackTraces = false) (hx : ∀ x ∈ c.exceptionTable.toList, False) {κ : Int32 → mM → Prop} {ξ : String → mM → Prop} (ht : ∀ E M, ξ E M → 1 ≤ t) {M : mM} (h : wX8_give_70 κ ξ M) : m_W p l e ({ frames := 7, cells := (0 + 3 * t), slots := (0 + 18 * t), locals := 111 } : Room) s m args below meth c G b0 (vx_MQ below (va_Qi κ (m_B G b0) (fun q => b0 ≤ q)) (m_X G b0 ξ) args s (0 + 3 * t) (0 + 18 * t) (fun q => b0 ≤ q)) 6 M (0 + 2 * t) (0 + 12 * t) 70 [] [] := by
  unfold wX8_give_70 at h
  have ht9 := ht _ _ h
  exact q_throwS (pc := 70) (names := ["java/lang/RuntimeException", "java/lang/Exception"]) (text := "both are not in the same LAND and AT REST") C hL hx hlocks h (by decide +kernel) (by decide +kernel) (by decide +kernel) (by decide +kernel) (List.mem_of_getElem? (i := 821) (by decide +kernel)) (by decide +kernel) (by decide +kernel) (by decide +kernel) dX8_give_70 dX8_give_73 dX8_give_74 dX8_give_76 dX8_give_79 (Nat.le_of_ble_eq_true rfl) (by first | exact Nat.le_of_ble_eq_true rfl | (simp [q_cat, q_catI, q_catJ, q_catR, q_catN]; done) | (simp [q_cat, q_catI, q_catJ, q_catR, q_catN]; decide)) (by first | omega | (dsimp only; omega)) (by first | omega | (dsimp only; omega)) (by omega) (by omega)
set_option maxRecDepth 100000 in
set_option maxHeartbeats 4000000 in
theorem tX8_give {p : Program} {l : Launch} {e : Env} {s : State} {m : MethodId} {args : Array Value} {below : List Frame} {meth : Method} {c : Code} {G : mG} {b0 : Nat} (C : m_C p s m args c cX8_give 6 RX8 wsX8_give G b0) (hr : meth.sig.returnType = (some .int)) (hlocks : meth.locks = false) {t : Nat} (hL : l.stackTraces = false) (hx : ∀ x ∈ c.exceptionTable.toList, False) {κ : Int32 → mM → Prop} {ξ : String → mM → Prop} (ht : ∀ E M, ξ E M → 1 ≤ t) {l0 : Option Nat} {l1 : Int32} {l2 : Int32} {M : mM} (h : wX8_give κ ξ l0 l1 l2 M) : m_W p l e ({ frames := 7, cells := (0 + 3 * t), slots := (0 + 18 * t), locals := 111 } : Room) s m args below meth c G b0 (vx_MQ below (va_Qi κ (m_B G b0) (fun q => b0 ≤ q)) (m_X G b0 ξ) args s (0 + 3 * t) (0 + 18 * t) (fun q => b0 ≤ q)) 6 M 0 0 0 [(0, va_rf l0), (1, .int l1), (2, .int l2)] [] := by
  unfold wX8_give at h
  refine q_aload_n (pc := 0) C 0 0 dX8_give_0 rfl rfl ?_
  refine q_iload_n (pc := 1) C 1 1 dX8_give_1 rfl rfl ?_
  obtain ⟨b3, fs9, hb3, hm9, h⟩ := h
  refine q_cXq (pc := 2) (q_rVX C (st := []) (b := b3) (kX8_partNumbered l G b0 (t := t) hL ht h) (cwV 1 C.2.2.2.2.1 gX8_give_X8_partNumbered rfl rfl rfl (by decide +kernel) ⟨Nat.le_of_ble_eq_true rfl, Nat.le_of_ble_eq_true rfl⟩) hm9 rfl rfl rfl (by first | exact Nat.le_of_ble_eq_true rfl | (simp [q_cat, q_catI, q_catJ, q_catR, q_catN]; done)) (by rw [hb3]; first | done | rfl) dX8_give_2 ⟨(by first | omega | (dsimp only; omega)), (by first | omega | (dsimp only; omega))⟩) (fun E9 M9 h9 => q_out C hx hlocks h9 (by omega) (by omega)) (fun x1 M2 h => ?_)
  refine q_astore_n (pc := 5) C 3 [(3, va_rf x1), (0, va_rf l0), (1, .int l1), (2, .int l2)] dX8_give_5 rfl (by decide) (by first | rfl | simp [q_cat, q_catI, q_catJ, q_catR, q_catN]) ?_
  refine q_aload_n (pc := 6) C 0 1 dX8_give_6 rfl rfl ?_
  refine q_iload_n (pc := 7) C 2 3 dX8_give_7 rfl rfl ?_
  obtain ⟨b6, fs9, hb6, hm9, h⟩ := h
  refine q_cXq (pc := 8) (q_rVX C (st := []) (b := b6) (kX8_sleeperNumbered l G b0 (t := t) hL ht h) (cwV 1 C.2.2.2.2.1 gX8_give_X8_sleeperNumbered rfl rfl rfl (by decide +kernel) ⟨Nat.le_of_ble_eq_true rfl, Nat.le_of_ble_eq_true rfl⟩) hm9 rfl rfl rfl (by first | exact Nat.le_of_ble_eq_true rfl | (simp [q_cat, q_catI, q_catJ, q_catR, q_catN]; done)) (by rw [hb6]; first | done | rfl) dX8_give_8 ⟨(by first | omega | (dsimp only; omega)), (by first | omega | (dsimp only; omega))⟩) (fun E9 M9 h9 => q_out C hx hlocks h9 (by omega) (by omega)) (fun x4 M5 h => ?_)
  refine q_astore (pc := 11) C 4 [(4, va_rf x4), (3, va_rf x1), (0, va_rf l0), (1, .int l1), (2, .int l2)] dX8_give_11 (by decide) (by first | rfl | simp [q_cat, q_catI, q_catJ, q_catR, q_catN]) ?_
  refine q_aload_n (pc := 13) C 3 1 dX8_give_13 rfl rfl ?_
  refine q_gR (pc := 14) C h (T := TX3) rfl (by decide) (wk_u rfl wm_X8_give uq_X3 (by decide +kernel)) (by decide +kernel) (fun _ h9 => h9) dX8_give_14 (fun x7 h => ?_)
  refine q_astore (pc := 17) C 5 [(5, va_rf x7), (4, va_rf x4), (3, va_rf x1), (0, va_rf l0), (1, .int l1), (2, .int l2)] dX8_give_17 (by decide) (by first | rfl | simp [q_cat, q_catI, q_catJ, q_catR, q_catN]) ?_
  refine q_aload (pc := 19) C 5 0 dX8_give_19 rfl ?_
  refine q_ifnull (pc := 21) C 31 dX8_give_21 (by decide) (fun c8 => ?_) (fun c8 => ?_)
  · have h := h.1 c8
    refine q_widen (k2 := (0 + 2 * t)) (n2 := (0 + 12 * t)) (by omega) (by omega) ?_
    refine q_lv [] rfl ?_
    exact tX8_give_31 C hr hlocks hL hx ht h
  · have h := h.2 c8
    refine q_aload (pc := 24) C 5 0 dX8_give_24 rfl ?_
    refine q_aload (pc := 26) C 4 1 dX8_give_26 rfl ?_
    refine q_acmp_ne (pc := 28) C 41 dX8_give_28 (by decide) (fun c9 => ?_) (fun c9 => ?_)
    · have h := h.2 c9
      refine q_aload (pc := 41) C 5 0 dX8_give_41 rfl ?_
      refine q_gR (pc := 43) C h (T := TX6) rfl (by decide) (wk_u rfl wm_X8_give uq_X6 (by decide +kernel)) (by decide +kernel) (fun _ h9 => h9) dX8_give_43 (fun x10 h => ?_)
      refine q_aload (pc := 46) C 4 1 dX8_give_46 rfl ?_
      refine q_gR (pc := 48) C h (T := TX6) rfl (by decide) (wk_u rfl wm_X8_give uq_X6 (by decide +kernel)) (by decide +kernel) (fun _ h9 => h9) dX8_give_48 (fun x11 h => ?_)
      refine q_acmp_ne (pc := 51) C 70 dX8_give_51 (by decide) (fun c12 => ?_) (fun c12 => ?_)
      · have h := h.2 c12
        refine q_widen (k2 := (0 + 2 * t)) (n2 := (0 + 12 * t)) (by omega) (by omega) ?_
        refine q_lv [] rfl ?_
        exact tX8_give_70 C hr hlocks hL hx ht h
      · have h := h.1 c12
        refine q_aload (pc := 54) C 5 0 dX8_give_54 rfl ?_
        refine q_gI (pc := 56) C h (T := TX6) rfl (by decide) (wk_u rfl wm_X8_give uq_X6 (by decide +kernel)) (by decide +kernel) (fun _ h9 => h9) dX8_give_56 (fun x13 h => ?_)
        refine q_if_ne (pc := 59) C 70 dX8_give_59 (by decide) (fun c14 => ?_) (fun c14 => ?_)
        · have h := h.2 c14
          refine q_widen (k2 := (0 + 2 * t)) (n2 := (0 + 12 * t)) (by omega) (by omega) ?_
          refine q_lv [] rfl ?_
          exact tX8_give_70 C hr hlocks hL hx ht h
        · have h := h.1 c14
          refine q_aload (pc := 62) C 4 1 dX8_give_62 rfl ?_
          refine q_gI (pc := 64) C h (T := TX6) rfl (by decide) (wk_u rfl wm_X8_give uq_X6 (by decide +kernel)) (by decide +kernel) (fun _ h9 => h9) dX8_give_64 (fun x15 h => ?_)
          refine q_if_eq (pc := 67) C 80 dX8_give_67 (by decide) (fun c16 => ?_) (fun c16 => ?_)
          · have h := h.1 c16
            refine q_aload_n (pc := 80) C 3 2 dX8_give_80 rfl rfl ?_
            refine q_aload (pc := 81) C 4 1 dX8_give_81 rfl ?_
            refine q_p (pc := 83) C h (.object "Lullabygate$Sleeper") (T := TX3) tyX3 tyX3_ok nmX3 rfl (by decide +kernel) (q_nrO _ _) (q_ftO _ _) rfl (by decide) (wk_u rfl wm_X8_give uq_X3 (by decide +kernel)) (by decide +kernel) (fun _ h9 => h9) rfl dX8_give_83 (fun M17 h => ?_)
            refine q_aload (pc := 86) C 5 0 dX8_give_86 rfl ?_
            refine q_gI (pc := 88) C h (T := TX6) rfl (by decide) (wk_u rfl wm_X8_give uq_X6 (by decide +kernel)) (by decide +kernel) (fun _ h9 => h9) dX8_give_88 (fun x18 h => ?_)
            exact q_iretX (pc := 91) C hr hlocks h dX8_give_91 (by omega) (by omega)
          · have h := h.2 c16
            refine q_widen (k2 := (0 + 2 * t)) (n2 := (0 + 12 * t)) (by omega) (by omega) ?_
            refine q_lv [] rfl ?_
            exact tX8_give_70 C hr hlocks hL hx ht h
    · have h := h.1 c9
      refine q_widen (k2 := (0 + 2 * t)) (n2 := (0 + 12 * t)) (by omega) (by omega) ?_
      refine q_lv [] rfl ?_
      exact tX8_give_31 C hr hlocks hL hx ht h
set_option maxRecDepth 100000 in
set_option maxHeartbeats 4000000 in
theorem kX8_give (l : Launch) (G : mG) (b0 : Nat) {t : Nat} (hL : l.stackTraces = false) {b : Nat} {l1 : Int32} {l2 : Int32} {M : mM} {κ : Int32 → mM → Prop} {ξ : String → mM → Prop} (ht : ∀ E M, ξ E M → 1 ≤ t) (h : wX8_give κ ξ (some b) l1 l2 M) : vx_Met l yX8_give wsX8_give ({ frames := 7, cells := (0 + 3 * t), slots := (0 + 18 * t), locals := 111 } : Room) (va_Pc [.ref b, .int l1, .int l2] (m_Pre G b0 M)) (va_Qi κ (m_B G b0) (fun q => b0 ≤ q)) (m_X G b0 ξ) (0 + 3 * t) (0 + 18 * t) (fun q => b0 ≤ q) := by
  refine m_metX (cc := cX8_give) (maxL := 6) (ret := (some .int)) (lv := [(0, va_rf (some b)), (1, .int l1), (2, .int l2)]) RX8 rfl (by decide +kernel) rfl (by first | exact Nat.le_of_ble_eq_true rfl | simp [lg_sl, q_cat, q_catI, q_catJ, q_catR, q_catN]) (by first | rfl | (simp [lv_args, q_cat, q_catI, q_catJ, q_catR, q_catN]; done) | (simp [lv_args, q_cat, q_catI, q_catJ, q_catR, q_catN]; rfl)) ?_
  intro p e s m args below meth c C hr hlocks hx
  exact tX8_give C hr hlocks hL hx ht h
/-! X8_rightVerse -/
set_option maxRecDepth 100000 in
set_option maxHeartbeats 4000000 in
theorem tX8_rightVerse {p : Program} {l : Launch} {e : Env} {s : State} {m : MethodId} {args : Array Value} {below : List Frame} {meth : Method} {c : Code} {G : mG} {b0 : Nat} (C : m_C p s m args c cX8_rightVerse 3 RX8 wsX8_rightVerse G b0) (hr : meth.sig.returnType = (some .int)) (hlocks : meth.locks = false) {κ : Int32 → mM → Prop} {l0 : Option Nat} {l1 : Option Nat} {l2 : Int32} {M : mM} (h : wX8_rightVerse κ l0 l1 l2 M) : m_W p l e ({ frames := 0, cells := 0, slots := 0, locals := 0 } : Room) s m args below meth c G b0 (MQ below (va_Qi κ (m_B G b0) (fun q => b0 ≤ q)) args s 0 0 (fun q => b0 ≤ q)) 3 M 0 0 0 [(0, va_rf l0), (1, va_rf l1), (2, .int l2)] [] := by
  unfold wX8_rightVerse at h
  refine q_bipush (pc := 0) C 13 dX8_rightVerse_0 (by decide) ?_
  refine q_aload_n (pc := 2) C 0 0 dX8_rightVerse_2 rfl rfl ?_
  refine q_gI (pc := 3) C h (T := TX6) rfl (by decide) (wk_u rfl wm_X8_rightVerse uq_X6 (by decide +kernel)) (by decide +kernel) (fun _ h9 => h9) dX8_rightVerse_3 (fun x1 h => ?_)
  refine q_imul (pc := 6) C dX8_rightVerse_6 ?_
  refine q_bipush (pc := 7) C 29 dX8_rightVerse_7 (by decide) ?_
  refine q_aload_n (pc := 9) C 1 1 dX8_rightVerse_9 rfl rfl ?_
  refine q_gI (pc := 10) C h (T := TX0) rfl (by decide) (wk_u rfl wm_X8_rightVerse uq_X0 (by decide +kernel)) (by decide +kernel) (fun _ h9 => h9) dX8_rightVerse_10 (fun x2 h => ?_)
  refine q_imul (pc := 13) C dX8_rightVerse_13 ?_
  refine q_iadd (pc := 14) C dX8_rightVerse_14 ?_
  refine q_bipush (pc := 15) C 7 dX8_rightVerse_15 (by decide) ?_
  refine q_iload_n (pc := 17) C 2 2 dX8_rightVerse_17 rfl rfl ?_
  refine q_imul (pc := 18) C dX8_rightVerse_18 ?_
  refine q_iadd (pc := 19) C dX8_rightVerse_19 ?_
  refine q_bipush (pc := 20) C 97 dX8_rightVerse_20 (by decide) ?_
  refine q_irem (pc := 22) C dX8_rightVerse_22 (by decide) ?_
  refine m_stk (st2 := .int (m_rem (((13 * x1) + (29 * x2)) + (7 * l2)) 97) :: _) rfl ?_
  exact q_iret (pc := 23) C hr hlocks h dX8_rightVerse_23 (by omega) (by omega)
set_option maxRecDepth 100000 in
set_option maxHeartbeats 4000000 in
theorem kX8_rightVerse (l : Launch) (G : mG) (b0 : Nat) {l0 : Option Nat} {l1 : Option Nat} {l2 : Int32} {M : mM} {κ : Int32 → mM → Prop} (h : wX8_rightVerse κ l0 l1 l2 M) : Met l yX8_rightVerse wsX8_rightVerse ({ frames := 0, cells := 0, slots := 0, locals := 0 } : Room) (va_Pc [va_rf l0, va_rf l1, .int l2] (m_Pre G b0 M)) (va_Qi κ (m_B G b0) (fun q => b0 ≤ q)) 0 0 (fun q => b0 ≤ q) := by
  refine m_met (cc := cX8_rightVerse) (maxL := 3) (ret := (some .int)) (lv := [(0, va_rf l0), (1, va_rf l1), (2, .int l2)]) RX8 rfl (by decide +kernel) rfl (by first | exact Nat.le_of_ble_eq_true rfl | simp [lg_sl, q_cat, q_catI, q_catJ, q_catR, q_catN]) (by first | rfl | (simp [lv_args, q_cat, q_catI, q_catJ, q_catR, q_catN]; done) | (simp [lv_args, q_cat, q_catI, q_catJ, q_catR, q_catN]; rfl)) ?_
  intro p e s m args below meth c C hr hlocks hni
  exact tX8_rightVerse C hr hlocks h
/-! X8_sing -/
set_option maxRecDepth 100000 in
set_option maxHeartbeats 4000000 in
theorem tX8_sing {p : Program} {l : Launch} {e : Env} {s : State} {m : MethodId} {args : Array Value} {below : List Frame} {meth : Method} {c : Code} {G : mG} {b0 : Nat} (C : m_C p s m args c cX8_sing 7 RX8 wsX8_sing G b0) (hr : meth.sig.returnType = (some .int)) (hlocks : meth.locks = false) {t : Nat} (hL : l.stackTraces = false) (hx : ∀ x ∈ c.exceptionTable.toList, False) {κ : Int32 → mM → Prop} {ξ : String → mM → Prop} (ht : ∀ E M, ξ E M → 1 ≤ t) {l0 : Option Nat} {l1 : Int32} {l2 : Int32} {l3 : Int32} {l4 : Int32} {M : mM} (h : wX8_sing κ ξ l0 l1 l2 l3 l4 M) : m_W p l e ({ frames := 7, cells := (1 + 4 * t), slots := (3 + 24 * t), locals := 112 } : Room) s m args below meth c G b0 (vx_MQ below (va_Qi κ (m_B G b0) (fun q => b0 ≤ q)) (m_X G b0 ξ) args s (1 + 4 * t) (3 + 24 * t) (fun q => b0 ≤ q)) 7 M 0 0 0 [(0, va_rf l0), (1, .int l1), (2, .int l2), (3, .int l3), (4, .int l4)] [] := by
  unfold wX8_sing at h
  refine q_aload_n (pc := 0) C 0 0 dX8_sing_0 rfl rfl ?_
  refine q_iload_n (pc := 1) C 1 1 dX8_sing_1 rfl rfl ?_
  obtain ⟨b3, fs9, hb3, hm9, h⟩ := h
  refine q_cXq (pc := 2) (q_rVX C (st := []) (b := b3) (kX8_sleeperNumbered l G b0 (t := t) hL ht h) (cwV 1 C.2.2.2.2.1 gX8_sing_X8_sleeperNumbered rfl rfl rfl (by decide +kernel) ⟨Nat.le_of_ble_eq_true rfl, Nat.le_of_ble_eq_true rfl⟩) hm9 rfl rfl rfl (by first | exact Nat.le_of_ble_eq_true rfl | (simp [q_cat, q_catI, q_catJ, q_catR, q_catN]; done)) (by rw [hb3]; first | done | rfl) dX8_sing_2 ⟨(by first | omega | (dsimp only; omega)), (by first | omega | (dsimp only; omega))⟩) (fun E9 M9 h9 => q_out C hx hlocks h9 (by omega) (by omega)) (fun x1 M2 h => ?_)
  refine q_astore (pc := 5) C 5 [(5, va_rf x1), (0, va_rf l0), (1, .int l1), (2, .int l2), (3, .int l3), (4, .int l4)] dX8_sing_5 (by decide) (by first | rfl | simp [q_cat, q_catI, q_catJ, q_catR, q_catN]) ?_
  refine q_aload_n (pc := 7) C 0 1 dX8_sing_7 rfl rfl ?_
  refine q_iload_n (pc := 8) C 2 3 dX8_sing_8 rfl rfl ?_
  obtain ⟨b6, fs9, hb6, hm9, h⟩ := h
  refine q_cXq (pc := 9) (q_rVX C (st := []) (b := b6) (kX8_gateNumbered l G b0 (t := t) hL ht h) (cwV 1 C.2.2.2.2.1 gX8_sing_X8_gateNumbered rfl rfl rfl (by decide +kernel) ⟨Nat.le_of_ble_eq_true rfl, Nat.le_of_ble_eq_true rfl⟩) hm9 rfl rfl rfl (by first | exact Nat.le_of_ble_eq_true rfl | (simp [q_cat, q_catI, q_catJ, q_catR, q_catN]; done)) (by rw [hb6]; first | done | rfl) dX8_sing_9 ⟨(by first | omega | (dsimp only; omega)), (by first | omega | (dsimp only; omega))⟩) (fun E9 M9 h9 => q_out C hx hlocks h9 (by omega) (by omega)) (fun x4 M5 h => ?_)
  refine q_astore (pc := 12) C 6 [(6, va_rf x4), (5, va_rf x1), (0, va_rf l0), (1, .int l1), (2, .int l2), (3, .int l3), (4, .int l4)] dX8_sing_12 (by decide) (by first | rfl | simp [q_cat, q_catI, q_catJ, q_catR, q_catN]) ?_
  refine q_iload_n (pc := 14) C 3 5 dX8_sing_14 rfl rfl ?_
  refine q_aload_n (pc := 15) C 0 2 dX8_sing_15 rfl rfl ?_
  refine q_gI (pc := 16) C h (T := TX8) rfl (by decide) (wk_u rfl wm_X8_sing uq_X8 (by decide +kernel)) (by decide +kernel) (fun _ h9 => h9) dX8_sing_16 (fun x7 h => ?_)
  refine q_bipush (pc := 19) C 99 dX8_sing_19 (by decide) ?_
  refine q_cXv (pc := 21) (q_rSX C (st := []) (kX8_demandRange l G b0 (t := t) hL ht h) (va_cwS 3 C.2.2.2.2.1 gX8_sing_X8_demandRange rfl rfl rfl (by decide +kernel) ⟨Nat.le_of_ble_eq_true rfl, Nat.le_of_ble_eq_true rfl⟩) rfl (by first | exact Nat.le_of_ble_eq_true rfl | (simp [q_cat, q_catI, q_catJ, q_catR, q_catN]; done)) rfl dX8_sing_21 ⟨(by first | omega | (dsimp only; omega)), (by first | omega | (dsimp only; omega))⟩) (fun E9 M9 h9 => q_out C hx hlocks h9 (by omega) (by omega)) (fun M8 h => ?_)
  refine q_iload (pc := 24) C 4 6 dX8_sing_24 rfl ?_
  refine q_iconst (pc := 26) C 0 dX8_sing_26 (by decide) ?_
  refine q_bipush (pc := 27) C 96 dX8_sing_27 (by decide) ?_
  refine q_cXv (pc := 29) (q_rSX C (st := []) (kX8_demandRange l G b0 (t := t) hL ht h) (va_cwS 3 C.2.2.2.2.1 gX8_sing_X8_demandRange rfl rfl rfl (by decide +kernel) ⟨Nat.le_of_ble_eq_true rfl, Nat.le_of_ble_eq_true rfl⟩) rfl (by first | exact Nat.le_of_ble_eq_true rfl | (simp [q_cat, q_catI, q_catJ, q_catR, q_catN]; done)) rfl dX8_sing_29 ⟨(by first | omega | (dsimp only; omega)), (by first | omega | (dsimp only; omega))⟩) (fun E9 M9 h9 => q_out C hx hlocks h9 (by omega) (by omega)) (fun M9 h => ?_)
  refine q_aload (pc := 32) C 5 1 dX8_sing_32 rfl ?_
  refine q_new (pc := 34) C h rfl (T := TX4) tyX4 tyX4_ok rfl (by decide +kernel) (by decide +kernel) (by decide +kernel) (by decide +kernel) (fun j hj => by rcases (show j = 0 ∨ j = 1 ∨ j = 2 by omega) with rfl | rfl | rfl <;> rfl) (by first | omega | (dsimp only; omega)) (by first | omega | (dsimp only; omega)) dX8_sing_34 (fun q10 M11 h => ?_)
  refine q_dup (pc := 37) C dX8_sing_37 (q_cat _) ?_
  refine q_aload (pc := 38) C 6 0 dX8_sing_38 rfl ?_
  refine q_iload_n (pc := 40) C 3 5 dX8_sing_40 rfl rfl ?_
  refine q_iload (pc := 41) C 4 6 dX8_sing_41 rfl ?_
  obtain ⟨b13, fs9, hb13, hm9, h⟩ := h
  refine q_cv (pc := 43) (q_rI C (st := [va_rf (some q10), va_rf x1]) (b := b13) (kX4_init l G b0 h) (cwI 3 C.2.2.2.2.1 gX8_sing_X4_init rfl rfl rfl (C.2.2.2.2.1 (.initialized RX4) (by decide +kernel)) (C.2.2.2.2.1 (.methodLink RX8 154 yX4_init) (by decide +kernel)) (C.2.2.2.2.1 (.instanceMethod yX4_init) (by decide +kernel)) rfl (by decide +kernel) ⟨Nat.le_of_ble_eq_true rfl, Nat.le_of_ble_eq_true rfl⟩) rfl (by first | exact Nat.le_of_ble_eq_true rfl | (simp [q_cat, q_catI, q_catJ, q_catR, q_catN]; done)) (by rw [hb13]; first | done | rfl) dX8_sing_43 ⟨(by first | omega | (dsimp only; omega)), (by first | omega | (dsimp only; omega))⟩) (fun M12 h => ?_)
  refine q_p (pc := 46) C h (.object "Lullabygate$Pass") (T := TX6) tyX6 tyX6_ok nmX6 rfl (by decide +kernel) (q_nrO _ _) (q_ftO _ _) rfl (by decide) (wk_u rfl wm_X8_sing uq_X6 (by decide +kernel)) (by decide +kernel) (fun _ h9 => h9) rfl dX8_sing_46 (fun M14 h => ?_)
  refine q_aload (pc := 49) C 5 1 dX8_sing_49 rfl ?_
  refine q_aload (pc := 51) C 6 0 dX8_sing_51 rfl ?_
  refine q_iload_n (pc := 53) C 3 5 dX8_sing_53 rfl rfl ?_
  refine q_ci (pc := 54) (q_rS C (st := []) (kX8_rightVerse l G b0 h) (va_cwS 3 C.2.2.2.2.1 gX8_sing_X8_rightVerse rfl rfl rfl (by decide +kernel) ⟨Nat.le_of_ble_eq_true rfl, Nat.le_of_ble_eq_true rfl⟩) rfl (by first | exact Nat.le_of_ble_eq_true rfl | (simp [q_cat, q_catI, q_catJ, q_catR, q_catN]; done)) rfl dX8_sing_54 ⟨(by first | omega | (dsimp only; omega)), (by first | omega | (dsimp only; omega))⟩) (fun x15 M16 h => ?_)
  exact q_iretX (pc := 57) C hr hlocks h dX8_sing_57 (by omega) (by omega)
set_option maxRecDepth 100000 in
set_option maxHeartbeats 4000000 in
theorem kX8_sing (l : Launch) (G : mG) (b0 : Nat) {t : Nat} (hL : l.stackTraces = false) {b : Nat} {l1 : Int32} {l2 : Int32} {l3 : Int32} {l4 : Int32} {M : mM} {κ : Int32 → mM → Prop} {ξ : String → mM → Prop} (ht : ∀ E M, ξ E M → 1 ≤ t) (h : wX8_sing κ ξ (some b) l1 l2 l3 l4 M) : vx_Met l yX8_sing wsX8_sing ({ frames := 7, cells := (1 + 4 * t), slots := (3 + 24 * t), locals := 112 } : Room) (va_Pc [.ref b, .int l1, .int l2, .int l3, .int l4] (m_Pre G b0 M)) (va_Qi κ (m_B G b0) (fun q => b0 ≤ q)) (m_X G b0 ξ) (1 + 4 * t) (3 + 24 * t) (fun q => b0 ≤ q) := by
  refine m_metX (cc := cX8_sing) (maxL := 7) (ret := (some .int)) (lv := [(0, va_rf (some b)), (1, .int l1), (2, .int l2), (3, .int l3), (4, .int l4)]) RX8 rfl (by decide +kernel) rfl (by first | exact Nat.le_of_ble_eq_true rfl | simp [lg_sl, q_cat, q_catI, q_catJ, q_catR, q_catN]) (by first | rfl | (simp [lv_args, q_cat, q_catI, q_catJ, q_catR, q_catN]; done) | (simp [lv_args, q_cat, q_catI, q_catJ, q_catR, q_catN]; rfl)) ?_
  intro p e s m args below meth c C hr hlocks hx
  exact tX8_sing C hr hlocks hL hx ht h
/-! X8_revoke -/
set_option maxRecDepth 100000 in
set_option maxHeartbeats 4000000 in
theorem tX8_revoke_29 {p : Program} {l : Launch} {e : Env} {s : State} {m : MethodId} {args : Array Value} {below : List Frame} {meth : Method} {c : Code} {G : mG} {b0 : Nat} (C : m_C p s m args c cX8_revoke 5 RX8 wsX8_revoke G b0) (hr : meth.sig.returnType = (some .boolean)) (hlocks : meth.locks = false) {t : Nat} (hL : l.stackTraces = false) (hx : ∀ x ∈ c.exceptionTable.toList, False) {κ : Int32 → mM → Prop} {ξ : String → mM → Prop} (ht : ∀ E M, ξ E M → 1 ≤ t) {l2 : Int32} {l3 : Option Nat} {s0 : Int32} {M : mM} (h : wX8_revoke_29 κ ξ l2 l3 s0 M) : m_W p l e ({ frames := 7, cells := (0 + 2 * t), slots := (0 + 12 * t), locals := 112 } : Room) s m args below meth c G b0 (vx_MQ below (va_Qi κ (m_B G b0) (fun q => b0 ≤ q)) (m_X G b0 ξ) args s (0 + 2 * t) (0 + 12 * t) (fun q => b0 ≤ q)) 5 M (0 + 2 * t) (0 + 12 * t) 29 [(2, .int l2), (3, va_rf l3)] [.int s0] := by
  unfold wX8_revoke_29 at h
  refine q_istore (pc := 29) C 4 [(4, .int s0), (2, .int l2), (3, va_rf l3)] dX8_revoke_29 (by decide) (by first | rfl | simp [q_cat, q_catI, q_catJ, q_catR, q_catN]) ?_
  refine q_aload_n (pc := 31) C 3 2 dX8_revoke_31 rfl rfl ?_
  refine q_gR (pc := 32) C h (T := TX0) rfl (by decide) (wk_u rfl wm_X8_revoke uq_X0 (by decide +kernel)) (by decide +kernel) (fun _ h9 => h9) dX8_revoke_32 (fun x1 h => ?_)
  refine q_iload_n (pc := 35) C 2 1 dX8_revoke_35 rfl rfl ?_
  obtain ⟨b3, fs9, hb3, hm9, h⟩ := h
  refine q_cv (pc := 36) (q_rV C (st := []) (b := b3) (kX7_put l G b0 h) (cwV 1 C.2.2.2.2.1 gX8_revoke_X7_put rfl rfl rfl (by decide +kernel) ⟨Nat.le_of_ble_eq_true rfl, Nat.le_of_ble_eq_true rfl⟩) hm9 rfl rfl rfl (by first | exact Nat.le_of_ble_eq_true rfl | (simp [q_cat, q_catI, q_catJ, q_catR, q_catN]; done)) (by rw [hb3]; first | done | rfl) dX8_revoke_36 ⟨(by first | omega | (dsimp only; omega)), (by first | omega | (dsimp only; omega))⟩) (fun M2 h => ?_)
  refine q_iload (pc := 39) C 4 0 dX8_revoke_39 rfl ?_
  exact q_zretX (pc := 41) C hr hlocks h dX8_revoke_41 (by omega) (by omega)
set_option maxRecDepth 100000 in
set_option maxHeartbeats 4000000 in
theorem tX8_revoke {p : Program} {l : Launch} {e : Env} {s : State} {m : MethodId} {args : Array Value} {below : List Frame} {meth : Method} {c : Code} {G : mG} {b0 : Nat} (C : m_C p s m args c cX8_revoke 5 RX8 wsX8_revoke G b0) (hr : meth.sig.returnType = (some .boolean)) (hlocks : meth.locks = false) {t : Nat} (hL : l.stackTraces = false) (hx : ∀ x ∈ c.exceptionTable.toList, False) {κ : Int32 → mM → Prop} {ξ : String → mM → Prop} (ht : ∀ E M, ξ E M → 1 ≤ t) {l0 : Option Nat} {l1 : Int32} {l2 : Int32} {M : mM} (h : wX8_revoke κ ξ l0 l1 l2 M) : m_W p l e ({ frames := 7, cells := (0 + 2 * t), slots := (0 + 12 * t), locals := 112 } : Room) s m args below meth c G b0 (vx_MQ below (va_Qi κ (m_B G b0) (fun q => b0 ≤ q)) (m_X G b0 ξ) args s (0 + 2 * t) (0 + 12 * t) (fun q => b0 ≤ q)) 5 M 0 0 0 [(0, va_rf l0), (1, .int l1), (2, .int l2)] [] := by
  unfold wX8_revoke at h
  refine q_aload_n (pc := 0) C 0 0 dX8_revoke_0 rfl rfl ?_
  refine q_iload_n (pc := 1) C 1 1 dX8_revoke_1 rfl rfl ?_
  obtain ⟨b3, fs9, hb3, hm9, h⟩ := h
  refine q_cXq (pc := 2) (q_rVX C (st := []) (b := b3) (kX8_gateNumbered l G b0 (t := t) hL ht h) (cwV 1 C.2.2.2.2.1 gX8_revoke_X8_gateNumbered rfl rfl rfl (by decide +kernel) ⟨Nat.le_of_ble_eq_true rfl, Nat.le_of_ble_eq_true rfl⟩) hm9 rfl rfl rfl (by first | exact Nat.le_of_ble_eq_true rfl | (simp [q_cat, q_catI, q_catJ, q_catR, q_catN]; done)) (by rw [hb3]; first | done | rfl) dX8_revoke_2 ⟨(by first | omega | (dsimp only; omega)), (by first | omega | (dsimp only; omega))⟩) (fun E9 M9 h9 => q_out C hx hlocks h9 (by omega) (by omega)) (fun x1 M2 h => ?_)
  refine q_astore_n (pc := 5) C 3 [(3, va_rf x1), (0, va_rf l0), (1, .int l1), (2, .int l2)] dX8_revoke_5 rfl (by decide) (by first | rfl | simp [q_cat, q_catI, q_catJ, q_catR, q_catN]) ?_
  refine q_iload_n (pc := 6) C 2 3 dX8_revoke_6 rfl rfl ?_
  refine q_iconst (pc := 7) C 0 dX8_revoke_7 (by decide) ?_
  refine q_bipush (pc := 8) C 96 dX8_revoke_8 (by decide) ?_
  refine q_cXv (pc := 10) (q_rSX C (st := []) (kX8_demandRange l G b0 (t := t) hL ht h) (va_cwS 3 C.2.2.2.2.1 gX8_revoke_X8_demandRange rfl rfl rfl (by decide +kernel) ⟨Nat.le_of_ble_eq_true rfl, Nat.le_of_ble_eq_true rfl⟩) rfl (by first | exact Nat.le_of_ble_eq_true rfl | (simp [q_cat, q_catI, q_catJ, q_catR, q_catN]; done)) rfl dX8_revoke_10 ⟨(by first | omega | (dsimp only; omega)), (by first | omega | (dsimp only; omega))⟩) (fun E9 M9 h9 => q_out C hx hlocks h9 (by omega) (by omega)) (fun M4 h => ?_)
  refine q_aload_n (pc := 13) C 3 0 dX8_revoke_13 rfl rfl ?_
  refine q_gR (pc := 14) C h (T := TX0) rfl (by decide) (wk_u rfl wm_X8_revoke uq_X0 (by decide +kernel)) (by decide +kernel) (fun _ h9 => h9) dX8_revoke_14 (fun x5 h => ?_)
  refine q_iload_n (pc := 17) C 2 3 dX8_revoke_17 rfl rfl ?_
  obtain ⟨b8, fs9, hb8, hm9, h⟩ := h
  refine q_ci (pc := 18) (q_rV C (st := []) (b := b8) (kX7_has l G b0 h) (cwV 1 C.2.2.2.2.1 gX8_revoke_X7_has rfl rfl rfl (by decide +kernel) ⟨Nat.le_of_ble_eq_true rfl, Nat.le_of_ble_eq_true rfl⟩) hm9 rfl rfl rfl (by first | exact Nat.le_of_ble_eq_true rfl | (simp [q_cat, q_catI, q_catJ, q_catR, q_catN]; done)) (by rw [hb8]; first | done | rfl) dX8_revoke_18 ⟨(by first | omega | (dsimp only; omega)), (by first | omega | (dsimp only; omega))⟩) (fun x6 M7 h => ?_)
  refine q_if_ne (pc := 21) C 28 dX8_revoke_21 (by decide) (fun c9 => ?_) (fun c9 => ?_)
  · have h := h.2 c9
    refine q_iconst (pc := 28) C 0 dX8_revoke_28 (by decide) ?_
    refine q_widen (k2 := (0 + 2 * t)) (n2 := (0 + 12 * t)) (by omega) (by omega) ?_
    refine q_lv [3, 0] rfl ?_
    exact tX8_revoke_29 C hr hlocks hL hx ht h
  · have h := h.1 c9
    refine q_iconst (pc := 24) C 1 dX8_revoke_24 (by decide) ?_
    refine q_goto (pc := 25) C 29 dX8_revoke_25 (by decide) ?_
    refine q_widen (k2 := (0 + 2 * t)) (n2 := (0 + 12 * t)) (by omega) (by omega) ?_
    refine q_lv [3, 0] rfl ?_
    exact tX8_revoke_29 C hr hlocks hL hx ht h
set_option maxRecDepth 100000 in
set_option maxHeartbeats 4000000 in
theorem kX8_revoke (l : Launch) (G : mG) (b0 : Nat) {t : Nat} (hL : l.stackTraces = false) {b : Nat} {l1 : Int32} {l2 : Int32} {M : mM} {κ : Int32 → mM → Prop} {ξ : String → mM → Prop} (ht : ∀ E M, ξ E M → 1 ≤ t) (h : wX8_revoke κ ξ (some b) l1 l2 M) : vx_Met l yX8_revoke wsX8_revoke ({ frames := 7, cells := (0 + 2 * t), slots := (0 + 12 * t), locals := 112 } : Room) (va_Pc [.ref b, .int l1, .int l2] (m_Pre G b0 M)) (va_Qi κ (m_B G b0) (fun q => b0 ≤ q)) (m_X G b0 ξ) (0 + 2 * t) (0 + 12 * t) (fun q => b0 ≤ q) := by
  refine m_metX (cc := cX8_revoke) (maxL := 5) (ret := (some .boolean)) (lv := [(0, va_rf (some b)), (1, .int l1), (2, .int l2)]) RX8 rfl (by decide +kernel) rfl (by first | exact Nat.le_of_ble_eq_true rfl | simp [lg_sl, q_cat, q_catI, q_catJ, q_catR, q_catN]) (by first | rfl | (simp [lv_args, q_cat, q_catI, q_catJ, q_catR, q_catN]; done) | (simp [lv_args, q_cat, q_catI, q_catJ, q_catR, q_catN]; rfl)) ?_
  intro p e s m args below meth c C hr hlocks hx
  exact tX8_revoke C hr hlocks hL hx ht h
/-! X8_headOf -/
set_option maxRecDepth 100000 in
set_option maxHeartbeats 4000000 in
theorem tX8_headOf_47 {p : Program} {l : Launch} {e : Env} {s : State} {m : MethodId} {args : Array Value} {below : List Frame} {meth : Method} {c : Code} {G : mG} {b0 : Nat} (C : m_C p s m args c cX8_headOf 5 RX8 wsX8_headOf G b0) (hr : meth.sig.returnType = (some .int)) (hlocks : meth.locks = false) {κ : Int32 → mM → Prop} {R4 : Option Nat → Option Nat → Int32 → Int32 → mM → Prop} (hR4 : ∀ (l0 : Option Nat) (l1 : Option Nat) (l2 : Int32) (l3 : Int32) (M : mM), R4 l0 l1 l2 l3 M → m_W p l e ({ frames := 3, cells := 0, slots := 0, locals := 64 } : Room) s m args below meth c G b0 (MQ below (va_Qi κ (m_B G b0) (fun q => b0 ≤ q)) args s 0 0 (fun q => b0 ≤ q)) 5 M 0 0 4 [(0, va_rf l0), (1, va_rf l1), (2, .int l2), (3, .int l3)] []) {l0 : Option Nat} {l1 : Option Nat} {l2 : Int32} {l3 : Int32} {M : mM} (h : wX8_headOf_47 κ R4 l0 l1 l2 l3 M) : m_W p l e ({ frames := 3, cells := 0, slots := 0, locals := 64 } : Room) s m args below meth c G b0 (MQ below (va_Qi κ (m_B G b0) (fun q => b0 ≤ q)) args s 0 0 (fun q => b0 ≤ q)) 5 M 0 0 47 [(0, va_rf l0), (1, va_rf l1), (2, .int l2), (3, .int l3)] [] := by
  unfold wX8_headOf_47 at h
  refine q_iinc (pc := 47) C 3 3 (l3 + 1) [(3, .int (l3 + 1)), (0, va_rf l0), (1, va_rf l1), (2, .int l2)] dX8_headOf_47 rfl (by rfl) (by decide) (by first | rfl | simp [q_cat, q_catI, q_catJ, q_catR, q_catN]) ?_
  refine q_goto (pc := 50) C 4 dX8_headOf_50 (by decide) ?_
  refine q_widen (k2 := 0) (n2 := 0) (by omega) (by omega) ?_
  refine q_lv [1, 2, 3, 0] rfl ?_
  exact hR4 _ _ _ _ _ h
set_option maxRecDepth 100000 in
set_option maxHeartbeats 4000000 in
theorem tX8_headOf_4 {p : Program} {l : Launch} {e : Env} {s : State} {m : MethodId} {args : Array Value} {below : List Frame} {meth : Method} {c : Code} {G : mG} {b0 : Nat} (C : m_C p s m args c cX8_headOf 5 RX8 wsX8_headOf G b0) (hr : meth.sig.returnType = (some .int)) (hlocks : meth.locks = false) {κ : Int32 → mM → Prop} : ∀ (f : Nat) (l0 : Option Nat) (l1 : Option Nat) (l2 : Int32) (l3 : Int32) (M : mM), wX8_headOf_4 κ f l0 l1 l2 l3 M → m_W p l e ({ frames := 3, cells := 0, slots := 0, locals := 64 } : Room) s m args below meth c G b0 (MQ below (va_Qi κ (m_B G b0) (fun q => b0 ≤ q)) args s 0 0 (fun q => b0 ≤ q)) 5 M 0 0 4 [(0, va_rf l0), (1, va_rf l1), (2, .int l2), (3, .int l3)] [] := by
  intro f
  induction f with
  | zero =>
    intro l0 l1 l2 l3 M h
    exact absurd h (by simp [wX8_headOf_4])
  | succ f ih =>
    intro l0 l1 l2 l3 M h
    rw [wX8_headOf_4] at h
    refine q_iload_n (pc := 4) C 3 3 dX8_headOf_4 rfl rfl ?_
    refine q_aload_n (pc := 5) C 0 0 dX8_headOf_5 rfl rfl ?_
    refine q_gR (pc := 6) C h (T := TX8) rfl (by decide) (wk_u rfl wm_X8_headOf uq_X8 (by decide +kernel)) (by decide +kernel) (fun _ h9 => h9) dX8_headOf_6 (fun x1 h => ?_)
    obtain ⟨b4, fs9, hb4, hm9, h⟩ := h
    refine q_ci (pc := 9) (q_rV C (st := [.int l3]) (b := b4) (kJx4a65c_size_8abf5 l G b0 h) (cwV 0 C.2.2.2.2.1 gX8_headOf_Jx4a65c_size_8abf5 rfl rfl rfl (by decide +kernel) ⟨Nat.le_of_ble_eq_true rfl, Nat.le_of_ble_eq_true rfl⟩) hm9 rfl rfl rfl (by first | exact Nat.le_of_ble_eq_true rfl | (simp [q_cat, q_catI, q_catJ, q_catR, q_catN]; done)) (by rw [hb4]; first | done | rfl) dX8_headOf_9 ⟨(by first | omega | (dsimp only; omega)), (by first | omega | (dsimp only; omega))⟩) (fun x2 M3 h => ?_)
    refine q_icmp_ge (pc := 12) C 53 dX8_headOf_12 (by decide) (fun c5 => ?_) (fun c5 => ?_)
    · have h := h.1 c5
      refine q_iload_n (pc := 53) C 2 2 dX8_headOf_53 rfl rfl ?_
      exact q_iret (pc := 54) C hr hlocks h dX8_headOf_54 (by omega) (by omega)
    · have h := h.2 c5
      refine q_aload_n (pc := 15) C 0 0 dX8_headOf_15 rfl rfl ?_
      refine q_gR (pc := 16) C h (T := TX8) rfl (by decide) (wk_u rfl wm_X8_headOf uq_X8 (by decide +kernel)) (by decide +kernel) (fun _ h9 => h9) dX8_headOf_16 (fun x6 h => ?_)
      refine q_iload_n (pc := 19) C 3 3 dX8_headOf_19 rfl rfl ?_
      obtain ⟨b9, fs9, hb9, hm9, h⟩ := h
      refine q_cq (pc := 20) (q_rV C (st := []) (b := b9) (kJx4a65c_get_915e3 l G b0 h) (cwV 1 C.2.2.2.2.1 gX8_headOf_Jx4a65c_get_915e3 rfl rfl rfl (by decide +kernel) ⟨Nat.le_of_ble_eq_true rfl, Nat.le_of_ble_eq_true rfl⟩) hm9 rfl rfl rfl (by first | exact Nat.le_of_ble_eq_true rfl | (simp [q_cat, q_catI, q_catJ, q_catR, q_catN]; done)) (by rw [hb9]; first | done | rfl) dX8_headOf_20 ⟨(by first | omega | (dsimp only; omega)), (by first | omega | (dsimp only; omega))⟩) (fun x7 M8 h => ?_)
      refine q_cast (pc := 23) C h rfl rfl (by decide +kernel) dX8_headOf_23 (fun h => ?_)
      refine q_astore (pc := 26) C 4 [(4, va_rf x7), (0, va_rf l0), (1, va_rf l1), (2, .int l2), (3, .int l3)] dX8_headOf_26 (by decide) (by first | rfl | simp [q_cat, q_catI, q_catJ, q_catR, q_catN]) ?_
      refine q_aload (pc := 28) C 4 0 dX8_headOf_28 rfl ?_
      refine q_gR (pc := 30) C h (T := TX3) rfl (by decide) (wk_u rfl wm_X8_headOf uq_X3 (by decide +kernel)) (by decide +kernel) (fun _ h9 => h9) dX8_headOf_30 (fun x10 h => ?_)
      refine q_aload_n (pc := 33) C 1 2 dX8_headOf_33 rfl rfl ?_
      refine q_acmp_ne (pc := 34) C 47 dX8_headOf_34 (by decide) (fun c11 => ?_) (fun c11 => ?_)
      · have h := h.2 c11
        refine q_widen (k2 := 0) (n2 := 0) (by omega) (by omega) ?_
        refine q_lv [1, 2, 3, 4] rfl ?_
        exact tX8_headOf_47 C hr hlocks ih h
      · have h := h.1 c11
        refine q_iload_n (pc := 37) C 2 3 dX8_headOf_37 rfl rfl ?_
        refine q_iconst (pc := 38) C 1 dX8_headOf_38 (by decide) ?_
        refine q_aload (pc := 39) C 4 0 dX8_headOf_39 rfl ?_
        refine q_gI (pc := 41) C h (T := TX3) rfl (by decide) (wk_u rfl wm_X8_headOf uq_X3 (by decide +kernel)) (by decide +kernel) (fun _ h9 => h9) dX8_headOf_41 (fun x12 h => ?_)
        refine q_ishl (pc := 44) C dX8_headOf_44 ?_
        refine m_stk (st2 := .int (m_shl 1 x12) :: _) rfl ?_
        refine q_ior (pc := 45) C dX8_headOf_45 ?_
        refine q_istore_n (pc := 46) C 2 [(2, .int (l2 ||| (m_shl 1 x12))), (4, va_rf x7), (0, va_rf l0), (1, va_rf l1), (3, .int l3)] dX8_headOf_46 rfl (by decide) (by first | rfl | simp [q_cat, q_catI, q_catJ, q_catR, q_catN]) ?_
        refine q_widen (k2 := 0) (n2 := 0) (by omega) (by omega) ?_
        refine q_lv [2, 3, 0, 4] rfl ?_
        exact tX8_headOf_47 C hr hlocks ih h
set_option maxRecDepth 100000 in
set_option maxHeartbeats 4000000 in
theorem tX8_headOf {p : Program} {l : Launch} {e : Env} {s : State} {m : MethodId} {args : Array Value} {below : List Frame} {meth : Method} {c : Code} {G : mG} {b0 : Nat} (C : m_C p s m args c cX8_headOf 5 RX8 wsX8_headOf G b0) (hr : meth.sig.returnType = (some .int)) (hlocks : meth.locks = false) {κ : Int32 → mM → Prop} {l0 : Option Nat} {l1 : Option Nat} {M : mM} (h : wX8_headOf κ l0 l1 M) : m_W p l e ({ frames := 3, cells := 0, slots := 0, locals := 64 } : Room) s m args below meth c G b0 (MQ below (va_Qi κ (m_B G b0) (fun q => b0 ≤ q)) args s 0 0 (fun q => b0 ≤ q)) 5 M 0 0 0 [(0, va_rf l0), (1, va_rf l1)] [] := by
  unfold wX8_headOf at h
  refine q_iconst (pc := 0) C 0 dX8_headOf_0 (by decide) ?_
  refine q_istore_n (pc := 1) C 2 [(2, .int 0), (0, va_rf l0), (1, va_rf l1)] dX8_headOf_1 rfl (by decide) (by first | rfl | simp [q_cat, q_catI, q_catJ, q_catR, q_catN]) ?_
  refine q_iconst (pc := 2) C 0 dX8_headOf_2 (by decide) ?_
  refine q_istore_n (pc := 3) C 3 [(3, .int 0), (2, .int 0), (0, va_rf l0), (1, va_rf l1)] dX8_headOf_3 rfl (by decide) (by first | rfl | simp [q_cat, q_catI, q_catJ, q_catR, q_catN]) ?_
  refine q_widen (k2 := 0) (n2 := 0) (by omega) (by omega) ?_
  refine q_lv [2, 3, 1, 0] rfl ?_
  obtain ⟨f9, h⟩ := h
  exact tX8_headOf_4 C hr hlocks f9 _ _ _ _ _ h
set_option maxRecDepth 100000 in
set_option maxHeartbeats 4000000 in
theorem kX8_headOf (l : Launch) (G : mG) (b0 : Nat) {b : Nat} {l1 : Option Nat} {M : mM} {κ : Int32 → mM → Prop} (h : wX8_headOf κ (some b) l1 M) : Met l yX8_headOf wsX8_headOf ({ frames := 3, cells := 0, slots := 0, locals := 64 } : Room) (va_Pc [.ref b, va_rf l1] (m_Pre G b0 M)) (va_Qi κ (m_B G b0) (fun q => b0 ≤ q)) 0 0 (fun q => b0 ≤ q) := by
  refine m_met (cc := cX8_headOf) (maxL := 5) (ret := (some .int)) (lv := [(0, va_rf (some b)), (1, va_rf l1)]) RX8 rfl (by decide +kernel) rfl (by first | exact Nat.le_of_ble_eq_true rfl | simp [lg_sl, q_cat, q_catI, q_catJ, q_catR, q_catN]) (by first | rfl | (simp [lv_args, q_cat, q_catI, q_catJ, q_catR, q_catN]; done) | (simp [lv_args, q_cat, q_catI, q_catJ, q_catR, q_catN]; rfl)) ?_
  intro p e s m args below meth c C hr hlocks hni
  exact tX8_headOf C hr hlocks h
/-! X8_join -/
set_option maxRecDepth 100000 in
set_option maxHeartbeats 4000000 in
theorem tX8_join_31 {p : Program} {l : Launch} {e : Env} {s : State} {m : MethodId} {args : Array Value} {below : List Frame} {meth : Method} {c : Code} {G : mG} {b0 : Nat} (C : m_C p s m args c cX8_join 7 RX8 wsX8_join G b0) (hr : meth.sig.returnType = (some .int)) (hlocks : meth.locks = false) {t : Nat} (hL : l.stackTraces = false) (hx : ∀ x ∈ c.exceptionTable.toList, False) {g : Nat → Nat} (hg : G.2.2 = g) {κ : Int32 → mM → Prop} {ξ : String → mM → Prop} (ht : ∀ E M, ξ E M → 1 ≤ t) {M : mM} (h : wX8_join_31 g κ ξ M) : m_W p l e ({ frames := 7, cells := (1 + 3 * t), slots := (15 + 18 * t), locals := 151 } : Room) s m args below meth c G b0 (vx_MQ below (va_Qi κ (m_B G b0) (fun q => b0 ≤ q)) (m_X G b0 ξ) args s (1 + 3 * t) (15 + 18 * t) (fun q => b0 ≤ q)) 7 M (0 + 2 * t) (0 + 12 * t) 31 [] [] := by
  unfold wX8_join_31 at h
  have ht9 := ht _ _ h
  exact q_throwS (pc := 31) (names := ["java/lang/RuntimeException", "java/lang/Exception"]) (text := "what is declared is not all in that HEAD") C hL hx hlocks h (by decide +kernel) (by decide +kernel) (by decide +kernel) (by decide +kernel) (List.mem_of_getElem? (i := 866) (by decide +kernel)) (by decide +kernel) (by decide +kernel) (by decide +kernel) dX8_join_31 dX8_join_34 dX8_join_35 dX8_join_37 dX8_join_40 (Nat.le_of_ble_eq_true rfl) (by first | exact Nat.le_of_ble_eq_true rfl | (simp [q_cat, q_catI, q_catJ, q_catR, q_catN]; done) | (simp [q_cat, q_catI, q_catJ, q_catR, q_catN]; decide)) (by first | omega | (dsimp only; omega)) (by first | omega | (dsimp only; omega)) (by omega) (by omega)
set_option maxRecDepth 100000 in
set_option maxHeartbeats 4000000 in
theorem tX8_join_62 {p : Program} {l : Launch} {e : Env} {s : State} {m : MethodId} {args : Array Value} {below : List Frame} {meth : Method} {c : Code} {G : mG} {b0 : Nat} (C : m_C p s m args c cX8_join 7 RX8 wsX8_join G b0) (hr : meth.sig.returnType = (some .int)) (hlocks : meth.locks = false) {t : Nat} (hL : l.stackTraces = false) (hx : ∀ x ∈ c.exceptionTable.toList, False) {g : Nat → Nat} (hg : G.2.2 = g) {κ : Int32 → mM → Prop} {ξ : String → mM → Prop} (ht : ∀ E M, ξ E M → 1 ≤ t) {M : mM} (h : wX8_join_62 g κ ξ M) : m_W p l e ({ frames := 7, cells := (1 + 3 * t), slots := (15 + 18 * t), locals := 151 } : Room) s m args below meth c G b0 (vx_MQ below (va_Qi κ (m_B G b0) (fun q => b0 ≤ q)) (m_X G b0 ξ) args s (1 + 3 * t) (15 + 18 * t) (fun q => b0 ≤ q)) 7 M (0 + 2 * t) (0 + 12 * t) 62 [] [] := by
  unfold wX8_join_62 at h
  have ht9 := ht _ _ h
  exact q_throwS (pc := 62) (names := ["java/lang/RuntimeException", "java/lang/Exception"]) (text := "the SLEEPER is not AT REST, or not in a LAND of the GATE") C hL hx hlocks h (by decide +kernel) (by decide +kernel) (by decide +kernel) (by decide +kernel) (List.mem_of_getElem? (i := 867) (by decide +kernel)) (by decide +kernel) (by decide +kernel) (by decide +kernel) dX8_join_62 dX8_join_65 dX8_join_66 dX8_join_68 dX8_join_71 (Nat.le_of_ble_eq_true rfl) (by first | exact Nat.le_of_ble_eq_true rfl | (simp [q_cat, q_catI, q_catJ, q_catR, q_catN]; done) | (simp [q_cat, q_catI, q_catJ, q_catR, q_catN]; decide)) (by first | omega | (dsimp only; omega)) (by first | omega | (dsimp only; omega)) (by omega) (by omega)
set_option maxRecDepth 100000 in
set_option maxHeartbeats 4000000 in
theorem tX8_join_96 {p : Program} {l : Launch} {e : Env} {s : State} {m : MethodId} {args : Array Value} {below : List Frame} {meth : Method} {c : Code} {G : mG} {b0 : Nat} (C : m_C p s m args c cX8_join 7 RX8 wsX8_join G b0) (hr : meth.sig.returnType = (some .int)) (hlocks : meth.locks = false) {t : Nat} (hL : l.stackTraces = false) (hx : ∀ x ∈ c.exceptionTable.toList, False) {g : Nat → Nat} (hg : G.2.2 = g) {κ : Int32 → mM → Prop} {ξ : String → mM → Prop} (ht : ∀ E M, ξ E M → 1 ≤ t) {l3 : Int32} {l4 : Option Nat} {l5 : Option Nat} {s0 : Int32} {M : mM} (h : wX8_join_96 g κ ξ l3 l4 l5 s0 M) : m_W p l e ({ frames := 7, cells := (1 + 3 * t), slots := (15 + 18 * t), locals := 151 } : Room) s m args below meth c G b0 (vx_MQ below (va_Qi κ (m_B G b0) (fun q => b0 ≤ q)) (m_X G b0 ξ) args s (1 + 3 * t) (15 + 18 * t) (fun q => b0 ≤ q)) 7 M (0 + 2 * t) (0 + 12 * t) 96 [(3, .int l3), (4, va_rf l4), (5, va_rf l5)] [.int s0] := by
  unfold wX8_join_96 at h
  refine q_istore (pc := 96) C 6 [(6, .int s0), (3, .int l3), (4, va_rf l4), (5, va_rf l5)] dX8_join_96 (by decide) (by first | rfl | simp [q_cat, q_catI, q_catJ, q_catR, q_catN]) ?_
  refine q_aload (pc := 98) C 5 3 dX8_join_98 rfl ?_
  refine q_gR (pc := 100) C h (T := TX0) rfl (by decide) (wk_u bm_X8_join wm_X8_join uq_X0 (by decide +kernel)) (by decide +kernel) (fun _ h9 => h9) dX8_join_100 (fun x1 h => ?_)
  refine q_iload (pc := 103) C 6 0 dX8_join_103 rfl ?_
  refine q_aload (pc := 105) C 4 2 dX8_join_105 rfl ?_
  obtain ⟨b3, fs9, hb3, hm9, h⟩ := h
  refine q_cv (pc := 107) (q_rV C (st := []) (b := b3) (kJx4a65c_add_7a177 l G b0 hg (by decide) h) (cwV 2 C.2.2.2.2.1 gX8_join_Jx4a65c_add_7a177 rfl rfl rfl (by decide +kernel) ⟨Nat.le_of_ble_eq_true rfl, Nat.le_of_ble_eq_true rfl⟩) hm9 rfl rfl rfl (by first | exact Nat.le_of_ble_eq_true rfl | (simp [q_cat, q_catI, q_catJ, q_catR, q_catN]; done)) (by rw [hb3]; first | done | rfl) dX8_join_107 ⟨(by first | omega | (dsimp only; omega)), (by first | omega | (dsimp only; omega))⟩) (fun M2 h => ?_)
  refine q_aload (pc := 110) C 4 2 dX8_join_110 rfl ?_
  refine q_aload (pc := 112) C 5 3 dX8_join_112 rfl ?_
  refine q_iload_n (pc := 114) C 3 1 dX8_join_114 rfl rfl ?_
  obtain ⟨b5, fs9, hb5, hm9, h⟩ := h
  refine q_cv (pc := 115) (q_rV C (st := []) (b := b5) (kX6_standAt l G b0 h) (cwV 2 C.2.2.2.2.1 gX8_join_X6_standAt rfl rfl rfl (by decide +kernel) ⟨Nat.le_of_ble_eq_true rfl, Nat.le_of_ble_eq_true rfl⟩) hm9 rfl rfl rfl (by first | exact Nat.le_of_ble_eq_true rfl | (simp [q_cat, q_catI, q_catJ, q_catR, q_catN]; done)) (by rw [hb5]; first | done | rfl) dX8_join_115 ⟨(by first | omega | (dsimp only; omega)), (by first | omega | (dsimp only; omega))⟩) (fun M4 h => ?_)
  refine q_iload (pc := 118) C 6 0 dX8_join_118 rfl ?_
  exact q_iretX (pc := 120) C hr hlocks h dX8_join_120 (by omega) (by omega)
set_option maxRecDepth 100000 in
set_option maxHeartbeats 4000000 in
theorem tX8_join {p : Program} {l : Launch} {e : Env} {s : State} {m : MethodId} {args : Array Value} {below : List Frame} {meth : Method} {c : Code} {G : mG} {b0 : Nat} (C : m_C p s m args c cX8_join 7 RX8 wsX8_join G b0) (hr : meth.sig.returnType = (some .int)) (hlocks : meth.locks = false) {t : Nat} (hL : l.stackTraces = false) (hx : ∀ x ∈ c.exceptionTable.toList, False) {g : Nat → Nat} (hg : G.2.2 = g) {κ : Int32 → mM → Prop} {ξ : String → mM → Prop} (ht : ∀ E M, ξ E M → 1 ≤ t) {l0 : Option Nat} {l1 : Int32} {l2 : Int32} {l3 : Int32} {M : mM} (h : wX8_join g κ ξ l0 l1 l2 l3 M) : m_W p l e ({ frames := 7, cells := (1 + 3 * t), slots := (15 + 18 * t), locals := 151 } : Room) s m args below meth c G b0 (vx_MQ below (va_Qi κ (m_B G b0) (fun q => b0 ≤ q)) (m_X G b0 ξ) args s (1 + 3 * t) (15 + 18 * t) (fun q => b0 ≤ q)) 7 M 0 0 0 [(0, va_rf l0), (1, .int l1), (2, .int l2), (3, .int l3)] [] := by
  unfold wX8_join at h
  refine q_aload_n (pc := 0) C 0 0 dX8_join_0 rfl rfl ?_
  refine q_iload_n (pc := 1) C 1 1 dX8_join_1 rfl rfl ?_
  obtain ⟨b3, fs9, hb3, hm9, h⟩ := h
  refine q_cXq (pc := 2) (q_rVX C (st := []) (b := b3) (kX8_sleeperNumbered l G b0 (t := t) hL ht h) (cwV 1 C.2.2.2.2.1 gX8_join_X8_sleeperNumbered rfl rfl rfl (by decide +kernel) ⟨Nat.le_of_ble_eq_true rfl, Nat.le_of_ble_eq_true rfl⟩) hm9 rfl rfl rfl (by first | exact Nat.le_of_ble_eq_true rfl | (simp [q_cat, q_catI, q_catJ, q_catR, q_catN]; done)) (by rw [hb3]; first | done | rfl) dX8_join_2 ⟨(by first | omega | (dsimp only; omega)), (by first | omega | (dsimp only; omega))⟩) (fun E9 M9 h9 => q_out C hx hlocks h9 (by omega) (by omega)) (fun x1 M2 h => ?_)
  refine q_astore (pc := 5) C 4 [(4, va_rf x1), (0, va_rf l0), (1, .int l1), (2, .int l2), (3, .int l3)] dX8_join_5 (by decide) (by first | rfl | simp [q_cat, q_catI, q_catJ, q_catR, q_catN]) ?_
  refine q_aload_n (pc := 7) C 0 1 dX8_join_7 rfl rfl ?_
  refine q_iload_n (pc := 8) C 2 3 dX8_join_8 rfl rfl ?_
  obtain ⟨b6, fs9, hb6, hm9, h⟩ := h
  refine q_cXq (pc := 9) (q_rVX C (st := []) (b := b6) (kX8_gateNumbered l G b0 (t := t) hL ht h) (cwV 1 C.2.2.2.2.1 gX8_join_X8_gateNumbered rfl rfl rfl (by decide +kernel) ⟨Nat.le_of_ble_eq_true rfl, Nat.le_of_ble_eq_true rfl⟩) hm9 rfl rfl rfl (by first | exact Nat.le_of_ble_eq_true rfl | (simp [q_cat, q_catI, q_catJ, q_catR, q_catN]; done)) (by rw [hb6]; first | done | rfl) dX8_join_9 ⟨(by first | omega | (dsimp only; omega)), (by first | omega | (dsimp only; omega))⟩) (fun E9 M9 h9 => q_out C hx hlocks h9 (by omega) (by omega)) (fun x4 M5 h => ?_)
  refine q_astore (pc := 12) C 5 [(5, va_rf x4), (4, va_rf x1), (0, va_rf l0), (1, .int l1), (2, .int l2), (3, .int l3)] dX8_join_12 (by decide) (by first | rfl | simp [q_cat, q_catI, q_catJ, q_catR, q_catN]) ?_
  refine q_iload_n (pc := 14) C 3 5 dX8_join_14 rfl rfl ?_
  refine q_if_lt (pc := 15) C 31 dX8_join_15 (by decide) (fun c7 => ?_) (fun c7 => ?_)
  · have h := h.1 c7
    refine q_widen (k2 := (0 + 2 * t)) (n2 := (0 + 12 * t)) (by omega) (by omega) ?_
    refine q_lv [] rfl ?_
    exact tX8_join_31 C hr hlocks hL hx hg ht h
  · have h := h.2 c7
    refine q_iload_n (pc := 18) C 3 5 dX8_join_18 rfl rfl ?_
    refine q_aload_n (pc := 19) C 0 2 dX8_join_19 rfl rfl ?_
    refine q_aload (pc := 20) C 4 1 dX8_join_20 rfl ?_
    obtain ⟨b10, fs9, hb10, hm9, h⟩ := h
    refine q_ci (pc := 22) (q_rV C (st := [.int l3]) (b := b10) (kX8_headOf l G b0 h) (cwV 1 C.2.2.2.2.1 gX8_join_X8_headOf rfl rfl rfl (by decide +kernel) ⟨Nat.le_of_ble_eq_true rfl, Nat.le_of_ble_eq_true rfl⟩) hm9 rfl rfl rfl (by first | exact Nat.le_of_ble_eq_true rfl | (simp [q_cat, q_catI, q_catJ, q_catR, q_catN]; done)) (by rw [hb10]; first | done | rfl) dX8_join_22 ⟨(by first | omega | (dsimp only; omega)), (by first | omega | (dsimp only; omega))⟩) (fun x8 M9 h => ?_)
    refine q_iconst (pc := 25) C (-1) dX8_join_25 (by decide) ?_
    refine q_ixor (pc := 26) C dX8_join_26 ?_
    refine q_iand (pc := 27) C dX8_join_27 ?_
    refine q_if_eq (pc := 28) C 41 dX8_join_28 (by decide) (fun c11 => ?_) (fun c11 => ?_)
    · have h := h.1 c11
      refine q_aload (pc := 41) C 4 1 dX8_join_41 rfl ?_
      refine q_gI (pc := 43) C h (T := TX6) rfl (by decide) (wk_u bm_X8_join wm_X8_join uq_X6 (by decide +kernel)) (by decide +kernel) (fun _ h9 => h9) dX8_join_43 (fun x12 h => ?_)
      refine q_if_ne (pc := 46) C 62 dX8_join_46 (by decide) (fun c13 => ?_) (fun c13 => ?_)
      · have h := h.2 c13
        refine q_widen (k2 := (0 + 2 * t)) (n2 := (0 + 12 * t)) (by omega) (by omega) ?_
        refine q_lv [] rfl ?_
        exact tX8_join_62 C hr hlocks hL hx hg ht h
      · have h := h.1 c13
        refine q_aload (pc := 49) C 5 0 dX8_join_49 rfl ?_
        refine q_aload (pc := 51) C 4 1 dX8_join_51 rfl ?_
        refine q_gR (pc := 53) C h (T := TX6) rfl (by decide) (wk_u bm_X8_join wm_X8_join uq_X6 (by decide +kernel)) (by decide +kernel) (fun _ h9 => h9) dX8_join_53 (fun x14 h => ?_)
        obtain ⟨b17, fs9, hb17, hm9, h⟩ := h
        refine q_ci (pc := 56) (q_rV C (st := []) (b := b17) (kX0_isAt l G b0 h) (cwV 1 C.2.2.2.2.1 gX8_join_X0_isAt rfl rfl rfl (by decide +kernel) ⟨Nat.le_of_ble_eq_true rfl, Nat.le_of_ble_eq_true rfl⟩) hm9 rfl rfl rfl (by first | exact Nat.le_of_ble_eq_true rfl | (simp [q_cat, q_catI, q_catJ, q_catR, q_catN]; done)) (by rw [hb17]; first | done | rfl) dX8_join_56 ⟨(by first | omega | (dsimp only; omega)), (by first | omega | (dsimp only; omega))⟩) (fun x15 M16 h => ?_)
        refine q_if_ne (pc := 59) C 72 dX8_join_59 (by decide) (fun c18 => ?_) (fun c18 => ?_)
        · have h := h.2 c18
          refine q_aload (pc := 72) C 4 1 dX8_join_72 rfl ?_
          refine q_gI (pc := 74) C h (T := TX6) rfl (by decide) (wk_u bm_X8_join wm_X8_join uq_X6 (by decide +kernel)) (by decide +kernel) (fun _ h9 => h9) dX8_join_74 (fun x19 h => ?_)
          refine q_if_eq (pc := 77) C 88 dX8_join_77 (by decide) (fun c20 => ?_) (fun c20 => ?_)
          · have h := h.1 c20
            refine q_aload (pc := 88) C 5 0 dX8_join_88 rfl ?_
            refine q_gR (pc := 90) C h (T := TX0) rfl (by decide) (wk_u bm_X8_join wm_X8_join uq_X0 (by decide +kernel)) (by decide +kernel) (fun _ h9 => h9) dX8_join_90 (fun x21 h => ?_)
            obtain ⟨b24, fs9, hb24, hm9, h⟩ := h
            refine q_ci (pc := 93) (q_rV C (st := []) (b := b24) (kJx4a65c_size_8abf5 l G b0 h) (cwV 0 C.2.2.2.2.1 gX8_join_Jx4a65c_size_8abf5 rfl rfl rfl (by decide +kernel) ⟨Nat.le_of_ble_eq_true rfl, Nat.le_of_ble_eq_true rfl⟩) hm9 rfl rfl rfl (by first | exact Nat.le_of_ble_eq_true rfl | (simp [q_cat, q_catI, q_catJ, q_catR, q_catN]; done)) (by rw [hb24]; first | done | rfl) dX8_join_93 ⟨(by first | omega | (dsimp only; omega)), (by first | omega | (dsimp only; omega))⟩) (fun x22 M23 h => ?_)
            refine q_widen (k2 := (0 + 2 * t)) (n2 := (0 + 12 * t)) (by omega) (by omega) ?_
            refine q_lv [5, 1, 0] rfl ?_
            exact tX8_join_96 C hr hlocks hL hx hg ht h
          · have h := h.2 c20
            refine q_aload (pc := 80) C 5 0 dX8_join_80 rfl ?_
            obtain ⟨b27, fs9, hb27, hm9, h⟩ := h
            refine q_ci (pc := 82) (q_rV C (st := []) (b := b27) (kX0_babiesInLine l G b0 h) (cwV 0 C.2.2.2.2.1 gX8_join_X0_babiesInLine rfl rfl rfl (by decide +kernel) ⟨Nat.le_of_ble_eq_true rfl, Nat.le_of_ble_eq_true rfl⟩) hm9 rfl rfl rfl (by first | exact Nat.le_of_ble_eq_true rfl | (simp [q_cat, q_catI, q_catJ, q_catR, q_catN]; done)) (by rw [hb27]; first | done | rfl) dX8_join_82 ⟨(by first | omega | (dsimp only; omega)), (by first | omega | (dsimp only; omega))⟩) (fun x25 M26 h => ?_)
            refine q_goto (pc := 85) C 96 dX8_join_85 (by decide) ?_
            refine q_widen (k2 := (0 + 2 * t)) (n2 := (0 + 12 * t)) (by omega) (by omega) ?_
            refine q_lv [5, 1, 0] rfl ?_
            exact tX8_join_96 C hr hlocks hL hx hg ht h
        · have h := h.1 c18
          refine q_widen (k2 := (0 + 2 * t)) (n2 := (0 + 12 * t)) (by omega) (by omega) ?_
          refine q_lv [] rfl ?_
          exact tX8_join_62 C hr hlocks hL hx hg ht h
    · have h := h.2 c11
      refine q_widen (k2 := (0 + 2 * t)) (n2 := (0 + 12 * t)) (by omega) (by omega) ?_
      refine q_lv [] rfl ?_
      exact tX8_join_31 C hr hlocks hL hx hg ht h
set_option maxRecDepth 100000 in
set_option maxHeartbeats 4000000 in
theorem kX8_join (l : Launch) (G : mG) (b0 : Nat) {t : Nat} (hL : l.stackTraces = false) {g : Nat → Nat} (hg : G.2.2 = g) {b : Nat} {l1 : Int32} {l2 : Int32} {l3 : Int32} {M : mM} {κ : Int32 → mM → Prop} {ξ : String → mM → Prop} (ht : ∀ E M, ξ E M → 1 ≤ t) (h : wX8_join g κ ξ (some b) l1 l2 l3 M) : vx_Met l yX8_join wsX8_join ({ frames := 7, cells := (1 + 3 * t), slots := (15 + 18 * t), locals := 151 } : Room) (va_Pc [.ref b, .int l1, .int l2, .int l3] (m_Pre G b0 M)) (va_Qi κ (m_B G b0) (fun q => b0 ≤ q)) (m_X G b0 ξ) (1 + 3 * t) (15 + 18 * t) (fun q => b0 ≤ q) := by
  refine m_metX (cc := cX8_join) (maxL := 7) (ret := (some .int)) (lv := [(0, va_rf (some b)), (1, .int l1), (2, .int l2), (3, .int l3)]) RX8 rfl (by decide +kernel) rfl (by first | exact Nat.le_of_ble_eq_true rfl | simp [lg_sl, q_cat, q_catI, q_catJ, q_catR, q_catN]) (by first | rfl | (simp [lv_args, q_cat, q_catI, q_catJ, q_catR, q_catN]; done) | (simp [lv_args, q_cat, q_catI, q_catJ, q_catR, q_catN]; rfl)) ?_
  intro p e s m args below meth c C hr hlocks hx
  exact tX8_join C hr hlocks hL hx hg ht h
/-! X8_placeOf -/
set_option maxRecDepth 100000 in
set_option maxHeartbeats 4000000 in
theorem tX8_placeOf_19 {p : Program} {l : Launch} {e : Env} {s : State} {m : MethodId} {args : Array Value} {below : List Frame} {meth : Method} {c : Code} {G : mG} {b0 : Nat} (C : m_C p s m args c cX8_placeOf 3 RX8 wsX8_placeOf G b0) (hr : meth.sig.returnType = (some .int)) (hlocks : meth.locks = false) {κ : Int32 → mM → Prop} : ∀ (f : Nat) (l0 : Option Nat) (l1 : Option Nat) (l2 : Int32) (M : mM), wX8_placeOf_19 κ f l0 l1 l2 M → m_W p l e ({ frames := 3, cells := 0, slots := 0, locals := 64 } : Room) s m args below meth c G b0 (MQ below (va_Qi κ (m_B G b0) (fun q => b0 ≤ q)) args s 0 0 (fun q => b0 ≤ q)) 3 M 0 0 19 [(0, va_rf l0), (1, va_rf l1), (2, .int l2)] [] := by
  intro f
  induction f with
  | zero =>
    intro l0 l1 l2 M h
    exact absurd h (by simp [wX8_placeOf_19])
  | succ f ih =>
    intro l0 l1 l2 M h
    rw [wX8_placeOf_19] at h
    refine q_iload_n (pc := 19) C 2 2 dX8_placeOf_19 rfl rfl ?_
    refine q_aload_n (pc := 20) C 1 1 dX8_placeOf_20 rfl rfl ?_
    obtain ⟨b3, fs9, hb3, hm9, h⟩ := h
    refine q_ci (pc := 21) (q_rV C (st := [.int l2]) (b := b3) (kJx4a65c_size_8abf5 l G b0 h) (cwV 0 C.2.2.2.2.1 gX8_placeOf_Jx4a65c_size_8abf5 rfl rfl rfl (by decide +kernel) ⟨Nat.le_of_ble_eq_true rfl, Nat.le_of_ble_eq_true rfl⟩) hm9 rfl rfl rfl (by first | exact Nat.le_of_ble_eq_true rfl | (simp [q_cat, q_catI, q_catJ, q_catR, q_catN]; done)) (by rw [hb3]; first | done | rfl) dX8_placeOf_21 ⟨(by first | omega | (dsimp only; omega)), (by first | omega | (dsimp only; omega))⟩) (fun x1 M2 h => ?_)
    refine q_icmp_ge (pc := 24) C 44 dX8_placeOf_24 (by decide) (fun c4 => ?_) (fun c4 => ?_)
    · have h := h.1 c4
      refine q_iconst (pc := 44) C (-1) dX8_placeOf_44 (by decide) ?_
      exact q_iret (pc := 45) C hr hlocks h dX8_placeOf_45 (by omega) (by omega)
    · have h := h.2 c4
      refine q_aload_n (pc := 27) C 1 1 dX8_placeOf_27 rfl rfl ?_
      refine q_iload_n (pc := 28) C 2 2 dX8_placeOf_28 rfl rfl ?_
      obtain ⟨b7, fs9, hb7, hm9, h⟩ := h
      refine q_cq (pc := 29) (q_rV C (st := []) (b := b7) (kJx4a65c_get_915e3 l G b0 h) (cwV 1 C.2.2.2.2.1 gX8_placeOf_Jx4a65c_get_915e3 rfl rfl rfl (by decide +kernel) ⟨Nat.le_of_ble_eq_true rfl, Nat.le_of_ble_eq_true rfl⟩) hm9 rfl rfl rfl (by first | exact Nat.le_of_ble_eq_true rfl | (simp [q_cat, q_catI, q_catJ, q_catR, q_catN]; done)) (by rw [hb7]; first | done | rfl) dX8_placeOf_29 ⟨(by first | omega | (dsimp only; omega)), (by first | omega | (dsimp only; omega))⟩) (fun x5 M6 h => ?_)
      refine q_aload_n (pc := 32) C 0 0 dX8_placeOf_32 rfl rfl ?_
      refine q_acmp_ne (pc := 33) C 38 dX8_placeOf_33 (by decide) (fun c8 => ?_) (fun c8 => ?_)
      · have h := h.2 c8
        refine q_iinc (pc := 38) C 2 2 (l2 + 1) [(2, .int (l2 + 1)), (0, va_rf l0), (1, va_rf l1)] dX8_placeOf_38 rfl (by rfl) (by decide) (by first | rfl | simp [q_cat, q_catI, q_catJ, q_catR, q_catN]) ?_
        refine q_goto (pc := 41) C 19 dX8_placeOf_41 (by decide) ?_
        refine q_widen (k2 := 0) (n2 := 0) (by omega) (by omega) ?_
        refine q_lv [1, 2, 0] rfl ?_
        exact ih _ _ _ _ h
      · have h := h.1 c8
        refine q_iload_n (pc := 36) C 2 2 dX8_placeOf_36 rfl rfl ?_
        exact q_iret (pc := 37) C hr hlocks h dX8_placeOf_37 (by omega) (by omega)
set_option maxRecDepth 100000 in
set_option maxHeartbeats 4000000 in
theorem tX8_placeOf {p : Program} {l : Launch} {e : Env} {s : State} {m : MethodId} {args : Array Value} {below : List Frame} {meth : Method} {c : Code} {G : mG} {b0 : Nat} (C : m_C p s m args c cX8_placeOf 3 RX8 wsX8_placeOf G b0) (hr : meth.sig.returnType = (some .int)) (hlocks : meth.locks = false) {κ : Int32 → mM → Prop} {l0 : Option Nat} {M : mM} (h : wX8_placeOf κ l0 M) : m_W p l e ({ frames := 3, cells := 0, slots := 0, locals := 64 } : Room) s m args below meth c G b0 (MQ below (va_Qi κ (m_B G b0) (fun q => b0 ≤ q)) args s 0 0 (fun q => b0 ≤ q)) 3 M 0 0 0 [(0, va_rf l0)] [] := by
  unfold wX8_placeOf at h
  refine q_aload_n (pc := 0) C 0 0 dX8_placeOf_0 rfl rfl ?_
  refine q_gR (pc := 1) C h (T := TX6) rfl (by decide) (wk_u rfl wm_X8_placeOf uq_X6 (by decide +kernel)) (by decide +kernel) (fun _ h9 => h9) dX8_placeOf_1 (fun x1 h => ?_)
  refine q_ifnonnull (pc := 4) C 9 dX8_placeOf_4 (by decide) (fun c2 => ?_) (fun c2 => ?_)
  · have h := h.2 c2
    refine q_aload_n (pc := 9) C 0 0 dX8_placeOf_9 rfl rfl ?_
    refine q_gR (pc := 10) C h (T := TX6) rfl (by decide) (wk_u rfl wm_X8_placeOf uq_X6 (by decide +kernel)) (by decide +kernel) (fun _ h9 => h9) dX8_placeOf_10 (fun x3 h => ?_)
    refine q_gR (pc := 13) C h (T := TX0) rfl (by decide) (wk_u rfl wm_X8_placeOf uq_X0 (by decide +kernel)) (by decide +kernel) (fun _ h9 => h9) dX8_placeOf_13 (fun x4 h => ?_)
    refine q_astore_n (pc := 16) C 1 [(1, va_rf x4), (0, va_rf l0)] dX8_placeOf_16 rfl (by decide) (by first | rfl | simp [q_cat, q_catI, q_catJ, q_catR, q_catN]) ?_
    refine q_iconst (pc := 17) C 0 dX8_placeOf_17 (by decide) ?_
    refine q_istore_n (pc := 18) C 2 [(2, .int 0), (1, va_rf x4), (0, va_rf l0)] dX8_placeOf_18 rfl (by decide) (by first | rfl | simp [q_cat, q_catI, q_catJ, q_catR, q_catN]) ?_
    refine q_widen (k2 := 0) (n2 := 0) (by omega) (by omega) ?_
    refine q_lv [2, 1, 0] rfl ?_
    obtain ⟨f9, h⟩ := h
    exact tX8_placeOf_19 C hr hlocks f9 _ _ _ _ h
  · have h := h.1 c2
    refine q_iconst (pc := 7) C (-1) dX8_placeOf_7 (by decide) ?_
    exact q_iret (pc := 8) C hr hlocks h dX8_placeOf_8 (by omega) (by omega)
set_option maxRecDepth 100000 in
set_option maxHeartbeats 4000000 in
theorem kX8_placeOf (l : Launch) (G : mG) (b0 : Nat) {l0 : Option Nat} {M : mM} {κ : Int32 → mM → Prop} (h : wX8_placeOf κ l0 M) : Met l yX8_placeOf wsX8_placeOf ({ frames := 3, cells := 0, slots := 0, locals := 64 } : Room) (va_Pc [va_rf l0] (m_Pre G b0 M)) (va_Qi κ (m_B G b0) (fun q => b0 ≤ q)) 0 0 (fun q => b0 ≤ q) := by
  refine m_met (cc := cX8_placeOf) (maxL := 3) (ret := (some .int)) (lv := [(0, va_rf l0)]) RX8 rfl (by decide +kernel) rfl (by first | exact Nat.le_of_ble_eq_true rfl | simp [lg_sl, q_cat, q_catI, q_catJ, q_catR, q_catN]) (by first | rfl | (simp [lv_args, q_cat, q_catI, q_catJ, q_catR, q_catN]; done) | (simp [lv_args, q_cat, q_catI, q_catJ, q_catR, q_catN]; rfl)) ?_
  intro p e s m args below meth c C hr hlocks hni
  exact tX8_placeOf C hr hlocks h
/-! X8_leave -/
set_option maxRecDepth 100000 in
set_option maxHeartbeats 4000000 in
theorem tX8_leave_23 {p : Program} {l : Launch} {e : Env} {s : State} {m : MethodId} {args : Array Value} {below : List Frame} {meth : Method} {c : Code} {G : mG} {b0 : Nat} (C : m_C p s m args c cX8_leave 4 RX8 wsX8_leave G b0) (hr : meth.sig.returnType = (some .int)) (hlocks : meth.locks = false) {t : Nat} (hL : l.stackTraces = false) (hx : ∀ x ∈ c.exceptionTable.toList, False) {κ : Int32 → mM → Prop} {ξ : String → mM → Prop} (ht : ∀ E M, ξ E M → 1 ≤ t) {M : mM} (h : wX8_leave_23 κ ξ M) : m_W p l e ({ frames := 7, cells := (0 + 2 * t), slots := (0 + 12 * t), locals := 111 } : Room) s m args below meth c G b0 (vx_MQ below (va_Qi κ (m_B G b0) (fun q => b0 ≤ q)) (m_X G b0 ξ) args s (0 + 2 * t) (0 + 12 * t) (fun q => b0 ≤ q)) 4 M (0 + 1 * t) (0 + 6 * t) 23 [] [] := by
  unfold wX8_leave_23 at h
  have ht9 := ht _ _ h
  exact q_throwS (pc := 23) (names := ["java/lang/RuntimeException", "java/lang/Exception"]) (text := "the SLEEPER stands in no QUEUE") C hL hx hlocks h (by decide +kernel) (by decide +kernel) (by decide +kernel) (by decide +kernel) (List.mem_of_getElem? (i := 1129) (by decide +kernel)) (by decide +kernel) (by decide +kernel) (by decide +kernel) dX8_leave_23 dX8_leave_26 dX8_leave_27 dX8_leave_29 dX8_leave_32 (Nat.le_of_ble_eq_true rfl) (by first | exact Nat.le_of_ble_eq_true rfl | (simp [q_cat, q_catI, q_catJ, q_catR, q_catN]; done) | (simp [q_cat, q_catI, q_catJ, q_catR, q_catN]; decide)) (by first | omega | (dsimp only; omega)) (by first | omega | (dsimp only; omega)) (by omega) (by omega)
set_option maxRecDepth 100000 in
set_option maxHeartbeats 4000000 in
theorem tX8_leave {p : Program} {l : Launch} {e : Env} {s : State} {m : MethodId} {args : Array Value} {below : List Frame} {meth : Method} {c : Code} {G : mG} {b0 : Nat} (C : m_C p s m args c cX8_leave 4 RX8 wsX8_leave G b0) (hr : meth.sig.returnType = (some .int)) (hlocks : meth.locks = false) {t : Nat} (hL : l.stackTraces = false) (hx : ∀ x ∈ c.exceptionTable.toList, False) {κ : Int32 → mM → Prop} {ξ : String → mM → Prop} (ht : ∀ E M, ξ E M → 1 ≤ t) {l0 : Option Nat} {l1 : Int32} {M : mM} (h : wX8_leave κ ξ l0 l1 M) : m_W p l e ({ frames := 7, cells := (0 + 2 * t), slots := (0 + 12 * t), locals := 111 } : Room) s m args below meth c G b0 (vx_MQ below (va_Qi κ (m_B G b0) (fun q => b0 ≤ q)) (m_X G b0 ξ) args s (0 + 2 * t) (0 + 12 * t) (fun q => b0 ≤ q)) 4 M 0 0 0 [(0, va_rf l0), (1, .int l1)] [] := by
  unfold wX8_leave at h
  refine q_aload_n (pc := 0) C 0 0 dX8_leave_0 rfl rfl ?_
  refine q_iload_n (pc := 1) C 1 1 dX8_leave_1 rfl rfl ?_
  obtain ⟨b3, fs9, hb3, hm9, h⟩ := h
  refine q_cXq (pc := 2) (q_rVX C (st := []) (b := b3) (kX8_sleeperNumbered l G b0 (t := t) hL ht h) (cwV 1 C.2.2.2.2.1 gX8_leave_X8_sleeperNumbered rfl rfl rfl (by decide +kernel) ⟨Nat.le_of_ble_eq_true rfl, Nat.le_of_ble_eq_true rfl⟩) hm9 rfl rfl rfl (by first | exact Nat.le_of_ble_eq_true rfl | (simp [q_cat, q_catI, q_catJ, q_catR, q_catN]; done)) (by rw [hb3]; first | done | rfl) dX8_leave_2 ⟨(by first | omega | (dsimp only; omega)), (by first | omega | (dsimp only; omega))⟩) (fun E9 M9 h9 => q_out C hx hlocks h9 (by omega) (by omega)) (fun x1 M2 h => ?_)
  refine q_astore_n (pc := 5) C 2 [(2, va_rf x1), (0, va_rf l0), (1, .int l1)] dX8_leave_5 rfl (by decide) (by first | rfl | simp [q_cat, q_catI, q_catJ, q_catR, q_catN]) ?_
  refine q_aload_n (pc := 6) C 2 0 dX8_leave_6 rfl rfl ?_
  refine q_ci (pc := 7) (q_rS C (st := []) (kX8_placeOf l G b0 h) (va_cwS 1 C.2.2.2.2.1 gX8_leave_X8_placeOf rfl rfl rfl (by decide +kernel) ⟨Nat.le_of_ble_eq_true rfl, Nat.le_of_ble_eq_true rfl⟩) rfl (by first | exact Nat.le_of_ble_eq_true rfl | (simp [q_cat, q_catI, q_catJ, q_catR, q_catN]; done)) rfl dX8_leave_7 ⟨(by first | omega | (dsimp only; omega)), (by first | omega | (dsimp only; omega))⟩) (fun x4 M5 h => ?_)
  refine q_istore_n (pc := 10) C 3 [(3, .int x4), (2, va_rf x1), (0, va_rf l0), (1, .int l1)] dX8_leave_10 rfl (by decide) (by first | rfl | simp [q_cat, q_catI, q_catJ, q_catR, q_catN]) ?_
  refine q_aload_n (pc := 11) C 2 1 dX8_leave_11 rfl rfl ?_
  refine q_gR (pc := 12) C h (T := TX6) rfl (by decide) (wk_u rfl wm_X8_leave uq_X6 (by decide +kernel)) (by decide +kernel) (fun _ h9 => h9) dX8_leave_12 (fun x6 h => ?_)
  refine q_ifnull (pc := 15) C 23 dX8_leave_15 (by decide) (fun c7 => ?_) (fun c7 => ?_)
  · have h := h.1 c7
    refine q_widen (k2 := (0 + 1 * t)) (n2 := (0 + 6 * t)) (by omega) (by omega) ?_
    refine q_lv [] rfl ?_
    exact tX8_leave_23 C hr hlocks hL hx ht h
  · have h := h.2 c7
    refine q_iload_n (pc := 18) C 3 0 dX8_leave_18 rfl rfl ?_
    refine q_iconst (pc := 19) C (-1) dX8_leave_19 (by decide) ?_
    refine q_icmp_ne (pc := 20) C 33 dX8_leave_20 (by decide) (fun c8 => ?_) (fun c8 => ?_)
    · have h := h.2 c8
      refine q_aload_n (pc := 33) C 2 1 dX8_leave_33 rfl rfl ?_
      refine q_gR (pc := 34) C h (T := TX6) rfl (by decide) (wk_u rfl wm_X8_leave uq_X6 (by decide +kernel)) (by decide +kernel) (fun _ h9 => h9) dX8_leave_34 (fun x9 h => ?_)
      refine q_gR (pc := 37) C h (T := TX0) rfl (by decide) (wk_u rfl wm_X8_leave uq_X0 (by decide +kernel)) (by decide +kernel) (fun _ h9 => h9) dX8_leave_37 (fun x10 h => ?_)
      refine q_iload_n (pc := 40) C 3 0 dX8_leave_40 rfl rfl ?_
      obtain ⟨b13, fs9, hb13, hm9, h⟩ := h
      refine q_cq (pc := 41) (q_rV C (st := []) (b := b13) (kJx4a65c_remove_915e3 l G b0 h) (cwV 1 C.2.2.2.2.1 gX8_leave_Jx4a65c_remove_915e3 rfl rfl rfl (by decide +kernel) ⟨Nat.le_of_ble_eq_true rfl, Nat.le_of_ble_eq_true rfl⟩) hm9 rfl rfl rfl (by first | exact Nat.le_of_ble_eq_true rfl | (simp [q_cat, q_catI, q_catJ, q_catR, q_catN]; done)) (by rw [hb13]; first | done | rfl) dX8_leave_41 ⟨(by first | omega | (dsimp only; omega)), (by first | omega | (dsimp only; omega))⟩) (fun x11 M12 h => ?_)
      refine q_pop (pc := 44) C dX8_leave_44 (q_cat _) ?_
      refine q_aload_n (pc := 45) C 2 1 dX8_leave_45 rfl rfl ?_
      refine q_iconst (pc := 46) C 0 dX8_leave_46 (by decide) ?_
      obtain ⟨b15, fs9, hb15, hm9, h⟩ := h
      refine q_cv (pc := 47) (q_rV C (st := []) (b := b15) (kX6_stepOut l G b0 h) (cwV 1 C.2.2.2.2.1 gX8_leave_X6_stepOut rfl rfl rfl (by decide +kernel) ⟨Nat.le_of_ble_eq_true rfl, Nat.le_of_ble_eq_true rfl⟩) hm9 rfl rfl rfl (by first | exact Nat.le_of_ble_eq_true rfl | (simp [q_cat, q_catI, q_catJ, q_catR, q_catN]; done)) (by rw [hb15]; first | done | rfl) dX8_leave_47 ⟨(by first | omega | (dsimp only; omega)), (by first | omega | (dsimp only; omega))⟩) (fun M14 h => ?_)
      refine q_iload_n (pc := 50) C 3 0 dX8_leave_50 rfl rfl ?_
      exact q_iretX (pc := 51) C hr hlocks h dX8_leave_51 (by omega) (by omega)
    · have h := h.1 c8
      refine q_widen (k2 := (0 + 1 * t)) (n2 := (0 + 6 * t)) (by omega) (by omega) ?_
      refine q_lv [] rfl ?_
      exact tX8_leave_23 C hr hlocks hL hx ht h
set_option maxRecDepth 100000 in
set_option maxHeartbeats 4000000 in
theorem kX8_leave (l : Launch) (G : mG) (b0 : Nat) {t : Nat} (hL : l.stackTraces = false) {b : Nat} {l1 : Int32} {M : mM} {κ : Int32 → mM → Prop} {ξ : String → mM → Prop} (ht : ∀ E M, ξ E M → 1 ≤ t) (h : wX8_leave κ ξ (some b) l1 M) : vx_Met l yX8_leave wsX8_leave ({ frames := 7, cells := (0 + 2 * t), slots := (0 + 12 * t), locals := 111 } : Room) (va_Pc [.ref b, .int l1] (m_Pre G b0 M)) (va_Qi κ (m_B G b0) (fun q => b0 ≤ q)) (m_X G b0 ξ) (0 + 2 * t) (0 + 12 * t) (fun q => b0 ≤ q) := by
  refine m_metX (cc := cX8_leave) (maxL := 4) (ret := (some .int)) (lv := [(0, va_rf (some b)), (1, .int l1)]) RX8 rfl (by decide +kernel) rfl (by first | exact Nat.le_of_ble_eq_true rfl | simp [lg_sl, q_cat, q_catI, q_catJ, q_catR, q_catN]) (by first | rfl | (simp [lv_args, q_cat, q_catI, q_catJ, q_catR, q_catN]; done) | (simp [lv_args, q_cat, q_catI, q_catJ, q_catR, q_catN]; rfl)) ?_
  intro p e s m args below meth c C hr hlocks hx
  exact tX8_leave C hr hlocks hL hx ht h
/-! X8_passIsGood -/
set_option maxRecDepth 100000 in
set_option maxHeartbeats 4000000 in
theorem tX8_passIsGood {p : Program} {l : Launch} {e : Env} {s : State} {m : MethodId} {args : Array Value} {below : List Frame} {meth : Method} {c : Code} {G : mG} {b0 : Nat} (C : m_C p s m args c cX8_passIsGood 5 RX8 wsX8_passIsGood G b0) (hr : meth.sig.returnType = (some .boolean)) (hlocks : meth.locks = false) {κ : Int32 → mM → Prop} {l0 : Option Nat} {l1 : Option Nat} {l2 : Option Nat} {M : mM} (h : wX8_passIsGood κ l0 l1 l2 M) : m_W p l e ({ frames := 1, cells := 0, slots := 0, locals := 40 } : Room) s m args below meth c G b0 (MQ below (va_Qi κ (m_B G b0) (fun q => b0 ≤ q)) args s 0 0 (fun q => b0 ≤ q)) 5 M 0 0 0 [(0, va_rf l0), (1, va_rf l1), (2, va_rf l2)] [] := by
  unfold wX8_passIsGood at h
  refine q_aload_n (pc := 0) C 1 1 dX8_passIsGood_0 rfl rfl ?_
  refine q_gR (pc := 1) C h (T := TX6) rfl (by decide) (wk_u rfl wm_X8_passIsGood uq_X6 (by decide +kernel)) (by decide +kernel) (fun _ h9 => h9) dX8_passIsGood_1 (fun x1 h => ?_)
  refine q_astore_n (pc := 4) C 3 [(3, va_rf x1), (0, va_rf l0), (1, va_rf l1), (2, va_rf l2)] dX8_passIsGood_4 rfl (by decide) (by first | rfl | simp [q_cat, q_catI, q_catJ, q_catR, q_catN]) ?_
  refine q_aload_n (pc := 5) C 3 0 dX8_passIsGood_5 rfl rfl ?_
  refine q_ifnull (pc := 6) C 28 dX8_passIsGood_6 (by decide) (fun c2 => ?_) (fun c2 => ?_)
  · have h := h.1 c2
    refine q_iconst (pc := 28) C 0 dX8_passIsGood_28 (by decide) ?_
    exact q_zret (pc := 29) C hr hlocks ⟨(by decide), h⟩ dX8_passIsGood_29 (by omega) (by omega)
  · have h := h.2 c2
    refine q_aload_n (pc := 9) C 3 0 dX8_passIsGood_9 rfl rfl ?_
    refine q_gR (pc := 10) C h (T := TX4) rfl (by decide) (wk_u rfl wm_X8_passIsGood uq_X4 (by decide +kernel)) (by decide +kernel) (fun _ h9 => h9) dX8_passIsGood_10 (fun x3 h => ?_)
    refine q_aload_n (pc := 13) C 2 3 dX8_passIsGood_13 rfl rfl ?_
    refine q_acmp_ne (pc := 14) C 28 dX8_passIsGood_14 (by decide) (fun c4 => ?_) (fun c4 => ?_)
    · have h := h.2 c4
      refine q_iconst (pc := 28) C 0 dX8_passIsGood_28 (by decide) ?_
      exact q_zret (pc := 29) C hr hlocks ⟨(by decide), h⟩ dX8_passIsGood_29 (by omega) (by omega)
    · have h := h.1 c4
      refine q_aload_n (pc := 17) C 3 0 dX8_passIsGood_17 rfl rfl ?_
      refine q_gI (pc := 18) C h (T := TX4) rfl (by decide) (wk_u rfl wm_X8_passIsGood uq_X4 (by decide +kernel)) (by decide +kernel) (fun _ h9 => h9) dX8_passIsGood_18 (fun x5 h => ?_)
      refine q_aload_n (pc := 21) C 0 1 dX8_passIsGood_21 rfl rfl ?_
      refine q_gI (pc := 22) C h (T := TX8) rfl (by decide) (wk_u rfl wm_X8_passIsGood uq_X8 (by decide +kernel)) (by decide +kernel) (fun _ h9 => h9) dX8_passIsGood_22 (fun x6 h => ?_)
      refine q_icmp_eq (pc := 25) C 30 dX8_passIsGood_25 (by decide) (fun c7 => ?_) (fun c7 => ?_)
      · have h := h.1 c7
        refine q_aload_n (pc := 30) C 3 0 dX8_passIsGood_30 rfl rfl ?_
        refine q_gI (pc := 31) C h (T := TX4) rfl (by decide) (wk_u rfl wm_X8_passIsGood uq_X4 (by decide +kernel)) (by decide +kernel) (fun _ h9 => h9) dX8_passIsGood_31 (fun x8 h => ?_)
        refine q_aload_n (pc := 34) C 1 2 dX8_passIsGood_34 rfl rfl ?_
        refine q_aload_n (pc := 35) C 2 3 dX8_passIsGood_35 rfl rfl ?_
        refine q_aload_n (pc := 36) C 0 1 dX8_passIsGood_36 rfl rfl ?_
        refine q_gI (pc := 37) C h (T := TX8) rfl (by decide) (wk_u rfl wm_X8_passIsGood uq_X8 (by decide +kernel)) (by decide +kernel) (fun _ h9 => h9) dX8_passIsGood_37 (fun x9 h => ?_)
        refine q_ci (pc := 40) (q_rS C (st := [.int x8]) (kX8_rightVerse l G b0 h) (va_cwS 3 C.2.2.2.2.1 gX8_passIsGood_X8_rightVerse rfl rfl rfl (by decide +kernel) ⟨Nat.le_of_ble_eq_true rfl, Nat.le_of_ble_eq_true rfl⟩) rfl (by first | exact Nat.le_of_ble_eq_true rfl | (simp [q_cat, q_catI, q_catJ, q_catR, q_catN]; done)) rfl dX8_passIsGood_40 ⟨(by first | omega | (dsimp only; omega)), (by first | omega | (dsimp only; omega))⟩) (fun x10 M11 h => ?_)
        refine q_isub (pc := 43) C dX8_passIsGood_43 ?_
        refine q_mabs (pc := 44) C (by decide +kernel) (by decide +kernel) (by decide +kernel) (by decide +kernel) (Nat.le_of_ble_eq_true rfl) (by first | exact Nat.le_of_ble_eq_true rfl | (simp [q_cat, q_catI, q_catJ, q_catR, q_catN]; done) | (simp [q_cat, q_catI, q_catJ, q_catR, q_catN]; decide)) (by first | omega | (dsimp only; omega)) (by first | omega | (dsimp only; omega)) dX8_passIsGood_44 ?_
        refine m_stk (st2 := .int (m_abs (x8 - x10)) :: _) rfl ?_
        refine q_istore (pc := 47) C 4 [(4, .int (m_abs (x8 - x10))), (3, va_rf x1), (0, va_rf l0), (1, va_rf l1), (2, va_rf l2)] dX8_passIsGood_47 (by decide) (by first | rfl | simp [q_cat, q_catI, q_catJ, q_catR, q_catN]) ?_
        refine q_aload_n (pc := 49) C 2 4 dX8_passIsGood_49 rfl rfl ?_
        obtain ⟨b14, fs9, hb14, hm9, h⟩ := h
        refine q_ci (pc := 50) (q_rV C (st := []) (b := b14) (kX0_dozes l G b0 h) (cwV 0 C.2.2.2.2.1 gX8_passIsGood_X0_dozes rfl rfl rfl (by decide +kernel) ⟨Nat.le_of_ble_eq_true rfl, Nat.le_of_ble_eq_true rfl⟩) hm9 rfl rfl rfl (by first | exact Nat.le_of_ble_eq_true rfl | (simp [q_cat, q_catI, q_catJ, q_catR, q_catN]; done)) (by rw [hb14]; first | done | rfl) dX8_passIsGood_50 ⟨(by first | omega | (dsimp only; omega)), (by first | omega | (dsimp only; omega))⟩) (fun x12 M13 h => ?_)
        refine q_if_eq (pc := 53) C 70 dX8_passIsGood_53 (by decide) (fun c15 => ?_) (fun c15 => ?_)
        · have h := h.1 c15
          refine q_iload (pc := 70) C 4 0 dX8_passIsGood_70 rfl ?_
          refine q_if_ne (pc := 72) C 93 dX8_passIsGood_72 (by decide) (fun c16 => ?_) (fun c16 => ?_)
          · have h := h.2 c16
            refine q_iconst (pc := 93) C 0 dX8_passIsGood_93 (by decide) ?_
            exact q_zret (pc := 94) C hr hlocks ⟨(by decide), h⟩ dX8_passIsGood_94 (by omega) (by omega)
          · have h := h.1 c16
            refine q_aload_n (pc := 75) C 2 4 dX8_passIsGood_75 rfl rfl ?_
            refine q_gR (pc := 76) C h (T := TX0) rfl (by decide) (wk_u rfl wm_X8_passIsGood uq_X0 (by decide +kernel)) (by decide +kernel) (fun _ h9 => h9) dX8_passIsGood_76 (fun x17 h => ?_)
            refine q_aload_n (pc := 79) C 3 1 dX8_passIsGood_79 rfl rfl ?_
            refine q_gI (pc := 80) C h (T := TX4) rfl (by decide) (wk_u rfl wm_X8_passIsGood uq_X4 (by decide +kernel)) (by decide +kernel) (fun _ h9 => h9) dX8_passIsGood_80 (fun x18 h => ?_)
            obtain ⟨b21, fs9, hb21, hm9, h⟩ := h
            refine q_ci (pc := 83) (q_rV C (st := []) (b := b21) (kX7_has l G b0 h) (cwV 1 C.2.2.2.2.1 gX8_passIsGood_X7_has rfl rfl rfl (by decide +kernel) ⟨Nat.le_of_ble_eq_true rfl, Nat.le_of_ble_eq_true rfl⟩) hm9 rfl rfl rfl (by first | exact Nat.le_of_ble_eq_true rfl | (simp [q_cat, q_catI, q_catJ, q_catR, q_catN]; done)) (by rw [hb21]; first | done | rfl) dX8_passIsGood_83 ⟨(by first | omega | (dsimp only; omega)), (by first | omega | (dsimp only; omega))⟩) (fun x19 M20 h => ?_)
            refine q_if_ne (pc := 86) C 93 dX8_passIsGood_86 (by decide) (fun c22 => ?_) (fun c22 => ?_)
            · have h := h.2 c22
              refine q_iconst (pc := 93) C 0 dX8_passIsGood_93 (by decide) ?_
              exact q_zret (pc := 94) C hr hlocks ⟨(by decide), h⟩ dX8_passIsGood_94 (by omega) (by omega)
            · have h := h.1 c22
              refine q_iconst (pc := 89) C 1 dX8_passIsGood_89 (by decide) ?_
              refine q_goto (pc := 90) C 94 dX8_passIsGood_90 (by decide) ?_
              exact q_zret (pc := 94) C hr hlocks ⟨(by decide), h⟩ dX8_passIsGood_94 (by omega) (by omega)
        · have h := h.2 c15
          refine q_iload (pc := 56) C 4 0 dX8_passIsGood_56 rfl ?_
          refine q_iconst (pc := 58) C 1 dX8_passIsGood_58 (by decide) ?_
          refine q_icmp_gt (pc := 59) C 66 dX8_passIsGood_59 (by decide) (fun c23 => ?_) (fun c23 => ?_)
          · have h := h.1 c23
            refine q_iconst (pc := 66) C 0 dX8_passIsGood_66 (by decide) ?_
            refine q_goto (pc := 67) C 94 dX8_passIsGood_67 (by decide) ?_
            exact q_zret (pc := 94) C hr hlocks ⟨(by decide), h⟩ dX8_passIsGood_94 (by omega) (by omega)
          · have h := h.2 c23
            refine q_iconst (pc := 62) C 1 dX8_passIsGood_62 (by decide) ?_
            refine q_goto (pc := 63) C 94 dX8_passIsGood_63 (by decide) ?_
            exact q_zret (pc := 94) C hr hlocks ⟨(by decide), h⟩ dX8_passIsGood_94 (by omega) (by omega)
      · have h := h.2 c7
        refine q_iconst (pc := 28) C 0 dX8_passIsGood_28 (by decide) ?_
        exact q_zret (pc := 29) C hr hlocks ⟨(by decide), h⟩ dX8_passIsGood_29 (by omega) (by omega)
set_option maxRecDepth 100000 in
set_option maxHeartbeats 4000000 in
theorem kX8_passIsGood (l : Launch) (G : mG) (b0 : Nat) {b : Nat} {l1 : Option Nat} {l2 : Option Nat} {M : mM} {κ : Int32 → mM → Prop} (h : wX8_passIsGood κ (some b) l1 l2 M) : Met l yX8_passIsGood wsX8_passIsGood ({ frames := 1, cells := 0, slots := 0, locals := 40 } : Room) (va_Pc [.ref b, va_rf l1, va_rf l2] (m_Pre G b0 M)) (va_Qi κ (m_B G b0) (fun q => b0 ≤ q)) 0 0 (fun q => b0 ≤ q) := by
  refine m_met (cc := cX8_passIsGood) (maxL := 5) (ret := (some .boolean)) (lv := [(0, va_rf (some b)), (1, va_rf l1), (2, va_rf l2)]) RX8 rfl (by decide +kernel) rfl (by first | exact Nat.le_of_ble_eq_true rfl | simp [lg_sl, q_cat, q_catI, q_catJ, q_catR, q_catN]) (by first | rfl | (simp [lv_args, q_cat, q_catI, q_catJ, q_catR, q_catN]; done) | (simp [lv_args, q_cat, q_catI, q_catJ, q_catR, q_catN]; rfl)) ?_
  intro p e s m args below meth c C hr hlocks hni
  exact tX8_passIsGood C hr hlocks h
/-! X8_keepHiding -/
set_option maxRecDepth 100000 in
set_option maxHeartbeats 4000000 in
theorem tX8_keepHiding_100 {p : Program} {l : Launch} {e : Env} {s : State} {m : MethodId} {args : Array Value} {below : List Frame} {meth : Method} {c : Code} {G : mG} {b0 : Nat} (C : m_C p s m args c cX8_keepHiding 5 RX8 wsX8_keepHiding G b0) (hr : meth.sig.returnType = none) (hlocks : meth.locks = false) {g : Nat → Nat} (hg : G.2.2 = g) {κ : mM → Prop} {R15 : Option Nat → Option Nat → Int32 → Int32 → mM → Prop} (hR15 : ∀ (l0 : Option Nat) (l1 : Option Nat) (l2 : Int32) (l3 : Int32) (M : mM), R15 l0 l1 l2 l3 M → m_W p l e ({ frames := 7, cells := 2, slots := 52, locals := 171 } : Room) s m args below meth c G b0 (MQ below (va_Qv κ (m_B G b0) (fun q => b0 ≤ q)) args s 2 52 (fun q => b0 ≤ q)) 5 M 0 0 15 [(0, va_rf l0), (1, va_rf l1), (2, .int l2), (3, .int l3)] []) {l0 : Option Nat} {l1 : Option Nat} {l2 : Int32} {l3 : Int32} {M : mM} (h : wX8_keepHiding_100 g κ R15 l0 l1 l2 l3 M) : m_W p l e ({ frames := 7, cells := 2, slots := 52, locals := 171 } : Room) s m args below meth c G b0 (MQ below (va_Qv κ (m_B G b0) (fun q => b0 ≤ q)) args s 2 52 (fun q => b0 ≤ q)) 5 M 0 0 100 [(0, va_rf l0), (1, va_rf l1), (2, .int l2), (3, .int l3)] [] := by
  unfold wX8_keepHiding_100 at h
  refine q_iinc (pc := 100) C 3 3 (l3 + 1) [(3, .int (l3 + 1)), (0, va_rf l0), (1, va_rf l1), (2, .int l2)] dX8_keepHiding_100 rfl (by rfl) (by decide) (by first | rfl | simp [q_cat, q_catI, q_catJ, q_catR, q_catN]) ?_
  refine q_goto (pc := 103) C 15 dX8_keepHiding_103 (by decide) ?_
  refine q_widen (k2 := 0) (n2 := 0) (by omega) (by omega) ?_
  refine q_lv [1, 2, 3, 0] rfl ?_
  exact hR15 _ _ _ _ _ h
set_option maxRecDepth 100000 in
set_option maxHeartbeats 4000000 in
theorem tX8_keepHiding_15 {p : Program} {l : Launch} {e : Env} {s : State} {m : MethodId} {args : Array Value} {below : List Frame} {meth : Method} {c : Code} {G : mG} {b0 : Nat} (C : m_C p s m args c cX8_keepHiding 5 RX8 wsX8_keepHiding G b0) (hr : meth.sig.returnType = none) (hlocks : meth.locks = false) {g : Nat → Nat} (hg : G.2.2 = g) {κ : mM → Prop} : ∀ (f : Nat) (l0 : Option Nat) (l1 : Option Nat) (l2 : Int32) (l3 : Int32) (M : mM), wX8_keepHiding_15 g κ f l0 l1 l2 l3 M → m_W p l e ({ frames := 7, cells := 2, slots := 52, locals := 171 } : Room) s m args below meth c G b0 (MQ below (va_Qv κ (m_B G b0) (fun q => b0 ≤ q)) args s 2 52 (fun q => b0 ≤ q)) 5 M 0 0 15 [(0, va_rf l0), (1, va_rf l1), (2, .int l2), (3, .int l3)] [] := by
  intro f
  induction f with
  | zero =>
    intro l0 l1 l2 l3 M h
    exact absurd h (by simp [wX8_keepHiding_15])
  | succ f ih =>
    intro l0 l1 l2 l3 M h
    rw [wX8_keepHiding_15] at h
    refine q_iload_n (pc := 15) C 3 3 dX8_keepHiding_15 rfl rfl ?_
    refine q_aload_n (pc := 16) C 0 0 dX8_keepHiding_16 rfl rfl ?_
    refine q_gR (pc := 17) C h (T := TX8) rfl (by decide) (wk_u rfl wm_X8_keepHiding uq_X8 (by decide +kernel)) (by decide +kernel) (fun _ h9 => h9) dX8_keepHiding_17 (fun x1 h => ?_)
    obtain ⟨b4, fs9, hb4, hm9, h⟩ := h
    refine q_ci (pc := 20) (q_rV C (st := [.int l3]) (b := b4) (kJx4a65c_size_8abf5 l G b0 h) (cwV 0 C.2.2.2.2.1 gX8_keepHiding_Jx4a65c_size_8abf5 rfl rfl rfl (by decide +kernel) ⟨Nat.le_of_ble_eq_true rfl, Nat.le_of_ble_eq_true rfl⟩) hm9 rfl rfl rfl (by first | exact Nat.le_of_ble_eq_true rfl | (simp [q_cat, q_catI, q_catJ, q_catR, q_catN]; done)) (by rw [hb4]; first | done | rfl) dX8_keepHiding_20 ⟨(by first | omega | (dsimp only; omega)), (by first | omega | (dsimp only; omega))⟩) (fun x2 M3 h => ?_)
    refine q_icmp_ge (pc := 23) C 106 dX8_keepHiding_23 (by decide) (fun c5 => ?_) (fun c5 => ?_)
    · have h := h.1 c5
      refine q_aload_n (pc := 106) C 0 0 dX8_keepHiding_106 rfl rfl ?_
      refine q_gR (pc := 107) C h (T := TX8) rfl (by decide) (wk_u rfl wm_X8_keepHiding uq_X8 (by decide +kernel)) (by decide +kernel) (fun _ h9 => h9) dX8_keepHiding_107 (fun x6 h => ?_)
      refine q_new (pc := 110) C h rfl (T := TX1) tyX1 tyX1_ok rfl (by decide +kernel) (by decide +kernel) (by decide +kernel) (by decide +kernel) (fun j hj => by rcases (show j = 0 ∨ j = 1 ∨ j = 2 by omega) with rfl | rfl | rfl <;> rfl) (by first | omega | (dsimp only; omega)) (by first | omega | (dsimp only; omega)) dX8_keepHiding_110 (fun q7 M8 h => ?_)
      refine q_dup (pc := 113) C dX8_keepHiding_113 (q_cat _) ?_
      refine q_aload_n (pc := 114) C 1 1 dX8_keepHiding_114 rfl rfl ?_
      refine q_iload_n (pc := 115) C 2 2 dX8_keepHiding_115 rfl rfl ?_
      refine q_aload_n (pc := 116) C 0 0 dX8_keepHiding_116 rfl rfl ?_
      refine q_gI (pc := 117) C h (T := TX8) rfl (by decide) (wk_u rfl wm_X8_keepHiding uq_X8 (by decide +kernel)) (by decide +kernel) (fun _ h9 => h9) dX8_keepHiding_117 (fun x9 h => ?_)
      obtain ⟨b11, fs9, hb11, hm9, h⟩ := h
      refine q_cv (pc := 120) (q_rI C (st := [va_rf (some q7), va_rf x6]) (b := b11) (kX1_init l G b0 h) (cwI 3 C.2.2.2.2.1 gX8_keepHiding_X1_init rfl rfl rfl (C.2.2.2.2.1 (.initialized RX1) (by decide +kernel)) (C.2.2.2.2.1 (.methodLink RX8 520 yX1_init) (by decide +kernel)) (C.2.2.2.2.1 (.instanceMethod yX1_init) (by decide +kernel)) rfl (by decide +kernel) ⟨Nat.le_of_ble_eq_true rfl, Nat.le_of_ble_eq_true rfl⟩) rfl (by first | exact Nat.le_of_ble_eq_true rfl | (simp [q_cat, q_catI, q_catJ, q_catR, q_catN]; done)) (by rw [hb11]; first | done | rfl) dX8_keepHiding_120 ⟨(by first | omega | (dsimp only; omega)), (by first | omega | (dsimp only; omega))⟩) (fun M10 h => ?_)
      obtain ⟨b14, fs9, hb14, hm9, h⟩ := h
      refine q_ci (pc := 123) (q_rV C (st := []) (b := b14) (kJx4a65c_add_9ea2d l G b0 hg (by decide) h) (cwV 1 C.2.2.2.2.1 gX8_keepHiding_Jx4a65c_add_9ea2d rfl rfl rfl (by decide +kernel) ⟨Nat.le_of_ble_eq_true rfl, Nat.le_of_ble_eq_true rfl⟩) hm9 rfl rfl rfl (by first | exact Nat.le_of_ble_eq_true rfl | (simp [q_cat, q_catI, q_catJ, q_catR, q_catN]; done)) (by rw [hb14]; first | done | rfl) dX8_keepHiding_123 ⟨(by first | omega | (dsimp only; omega)), (by first | omega | (dsimp only; omega))⟩) (fun x12 M13 h => ?_)
      refine q_pop (pc := 126) C dX8_keepHiding_126 rfl ?_
      exact q_vret (pc := 127) C hr hlocks h dX8_keepHiding_127 (by omega) (by omega)
    · have h := h.2 c5
      refine q_aload_n (pc := 26) C 0 0 dX8_keepHiding_26 rfl rfl ?_
      refine q_gR (pc := 27) C h (T := TX8) rfl (by decide) (wk_u rfl wm_X8_keepHiding uq_X8 (by decide +kernel)) (by decide +kernel) (fun _ h9 => h9) dX8_keepHiding_27 (fun x15 h => ?_)
      refine q_iload_n (pc := 30) C 3 3 dX8_keepHiding_30 rfl rfl ?_
      obtain ⟨b18, fs9, hb18, hm9, h⟩ := h
      refine q_cq (pc := 31) (q_rV C (st := []) (b := b18) (kJx4a65c_get_915e3 l G b0 h) (cwV 1 C.2.2.2.2.1 gX8_keepHiding_Jx4a65c_get_915e3 rfl rfl rfl (by decide +kernel) ⟨Nat.le_of_ble_eq_true rfl, Nat.le_of_ble_eq_true rfl⟩) hm9 rfl rfl rfl (by first | exact Nat.le_of_ble_eq_true rfl | (simp [q_cat, q_catI, q_catJ, q_catR, q_catN]; done)) (by rw [hb18]; first | done | rfl) dX8_keepHiding_31 ⟨(by first | omega | (dsimp only; omega)), (by first | omega | (dsimp only; omega))⟩) (fun x16 M17 h => ?_)
      refine q_cast (pc := 34) C h rfl rfl (by decide +kernel) dX8_keepHiding_34 (fun h => ?_)
      refine q_astore (pc := 37) C 4 [(4, va_rf x16), (0, va_rf l0), (1, va_rf l1), (2, .int l2), (3, .int l3)] dX8_keepHiding_37 (by decide) (by first | rfl | simp [q_cat, q_catI, q_catJ, q_catR, q_catN]) ?_
      refine q_aload (pc := 39) C 4 0 dX8_keepHiding_39 rfl ?_
      refine q_gI (pc := 41) C h (T := TX1) rfl (by decide) (wk_u rfl wm_X8_keepHiding uq_X1 (by decide +kernel)) (by decide +kernel) (fun _ h9 => h9) dX8_keepHiding_41 (fun x19 h => ?_)
      refine q_iload_n (pc := 44) C 2 3 dX8_keepHiding_44 rfl rfl ?_
      refine q_icmp_ne (pc := 45) C 100 dX8_keepHiding_45 (by decide) (fun c20 => ?_) (fun c20 => ?_)
      · have h := h.2 c20
        refine q_widen (k2 := 0) (n2 := 0) (by omega) (by omega) ?_
        refine q_lv [1, 2, 3, 4] rfl ?_
        exact tX8_keepHiding_100 C hr hlocks hg ih h
      · have h := h.1 c20
        refine q_aload_n (pc := 48) C 0 1 dX8_keepHiding_48 rfl rfl ?_
        refine q_gI (pc := 49) C h (T := TX8) rfl (by decide) (wk_u rfl wm_X8_keepHiding uq_X8 (by decide +kernel)) (by decide +kernel) (fun _ h9 => h9) dX8_keepHiding_49 (fun x21 h => ?_)
        refine q_aload (pc := 52) C 4 0 dX8_keepHiding_52 rfl ?_
        refine q_gI (pc := 54) C h (T := TX1) rfl (by decide) (wk_u rfl wm_X8_keepHiding uq_X1 (by decide +kernel)) (by decide +kernel) (fun _ h9 => h9) dX8_keepHiding_54 (fun x22 h => ?_)
        refine q_isub (pc := 57) C dX8_keepHiding_57 ?_
        refine q_iconst (pc := 58) C 2 dX8_keepHiding_58 (by decide) ?_
        refine q_icmp_gt (pc := 59) C 100 dX8_keepHiding_59 (by decide) (fun c23 => ?_) (fun c23 => ?_)
        · have h := h.1 c23
          refine q_widen (k2 := 0) (n2 := 0) (by omega) (by omega) ?_
          refine q_lv [1, 2, 3, 4] rfl ?_
          exact tX8_keepHiding_100 C hr hlocks hg ih h
        · have h := h.2 c23
          refine q_aload (pc := 62) C 4 0 dX8_keepHiding_62 rfl ?_
          refine q_gR (pc := 64) C h (T := TX1) rfl (by decide) (wk_u rfl wm_X8_keepHiding uq_X1 (by decide +kernel)) (by decide +kernel) (fun _ h9 => h9) dX8_keepHiding_64 (fun x24 h => ?_)
          refine q_dup (pc := 67) C dX8_keepHiding_67 (q_cat _) ?_
          refine q_gI (pc := 68) C h (T := TX6) rfl (by decide) (wk_u rfl wm_X8_keepHiding uq_X6 (by decide +kernel)) (by decide +kernel) (fun _ h9 => h9) dX8_keepHiding_68 (fun x25 h => ?_)
          refine q_iconst (pc := 71) C 1 dX8_keepHiding_71 (by decide) ?_
          refine q_aload_n (pc := 72) C 1 2 dX8_keepHiding_72 rfl rfl ?_
          refine q_gI (pc := 73) C h (T := TX6) rfl (by decide) (wk_u rfl wm_X8_keepHiding uq_X6 (by decide +kernel)) (by decide +kernel) (fun _ h9 => h9) dX8_keepHiding_73 (fun x26 h => ?_)
          refine q_ishl (pc := 76) C dX8_keepHiding_76 ?_
          refine m_stk (st2 := .int (m_shl 1 x26) :: _) rfl ?_
          refine q_ior (pc := 77) C dX8_keepHiding_77 ?_
          refine q_p (pc := 78) C h .int (T := TX6) tyX6 tyX6_ok nmX6 rfl (by decide +kernel) rfl rfl rfl (by decide) (wk_u rfl wm_X8_keepHiding uq_X6 (by decide +kernel)) (by decide +kernel) (fun _ h9 => h9) rfl dX8_keepHiding_78 (fun M27 h => ?_)
          refine q_aload_n (pc := 81) C 1 2 dX8_keepHiding_81 rfl rfl ?_
          refine q_dup (pc := 82) C dX8_keepHiding_82 (q_cat _) ?_
          refine q_gI (pc := 83) C h (T := TX6) rfl (by decide) (wk_u rfl wm_X8_keepHiding uq_X6 (by decide +kernel)) (by decide +kernel) (fun _ h9 => h9) dX8_keepHiding_83 (fun x28 h => ?_)
          refine q_iconst (pc := 86) C 1 dX8_keepHiding_86 (by decide) ?_
          refine q_aload (pc := 87) C 4 0 dX8_keepHiding_87 rfl ?_
          refine q_gR (pc := 89) C h (T := TX1) rfl (by decide) (wk_u rfl wm_X8_keepHiding uq_X1 (by decide +kernel)) (by decide +kernel) (fun _ h9 => h9) dX8_keepHiding_89 (fun x29 h => ?_)
          refine q_gI (pc := 92) C h (T := TX6) rfl (by decide) (wk_u rfl wm_X8_keepHiding uq_X6 (by decide +kernel)) (by decide +kernel) (fun _ h9 => h9) dX8_keepHiding_92 (fun x30 h => ?_)
          refine q_ishl (pc := 95) C dX8_keepHiding_95 ?_
          refine m_stk (st2 := .int (m_shl 1 x30) :: _) rfl ?_
          refine q_ior (pc := 96) C dX8_keepHiding_96 ?_
          refine q_p (pc := 97) C h .int (T := TX6) tyX6 tyX6_ok nmX6 rfl (by decide +kernel) rfl rfl rfl (by decide) (wk_u rfl wm_X8_keepHiding uq_X6 (by decide +kernel)) (by decide +kernel) (fun _ h9 => h9) rfl dX8_keepHiding_97 (fun M31 h => ?_)
          refine q_widen (k2 := 0) (n2 := 0) (by omega) (by omega) ?_
          refine q_lv [1, 2, 3, 4] rfl ?_
          exact tX8_keepHiding_100 C hr hlocks hg ih h
set_option maxRecDepth 100000 in
set_option maxHeartbeats 4000000 in
theorem tX8_keepHiding {p : Program} {l : Launch} {e : Env} {s : State} {m : MethodId} {args : Array Value} {below : List Frame} {meth : Method} {c : Code} {G : mG} {b0 : Nat} (C : m_C p s m args c cX8_keepHiding 5 RX8 wsX8_keepHiding G b0) (hr : meth.sig.returnType = none) (hlocks : meth.locks = false) {g : Nat → Nat} (hg : G.2.2 = g) {κ : mM → Prop} {l0 : Option Nat} {l1 : Option Nat} {l2 : Int32} {M : mM} (h : wX8_keepHiding g κ l0 l1 l2 M) : m_W p l e ({ frames := 7, cells := 2, slots := 52, locals := 171 } : Room) s m args below meth c G b0 (MQ below (va_Qv κ (m_B G b0) (fun q => b0 ≤ q)) args s 2 52 (fun q => b0 ≤ q)) 5 M 0 0 0 [(0, va_rf l0), (1, va_rf l1), (2, .int l2)] [] := by
  unfold wX8_keepHiding at h
  refine q_aload_n (pc := 0) C 0 0 dX8_keepHiding_0 rfl rfl ?_
  refine q_gR (pc := 1) C h (T := TX8) rfl (by decide) (wk_u rfl wm_X8_keepHiding uq_X8 (by decide +kernel)) (by decide +kernel) (fun _ h9 => h9) dX8_keepHiding_1 (fun x1 h => ?_)
  obtain ⟨b4, fs9, hb4, hm9, h⟩ := h
  refine q_ci (pc := 4) (q_rV C (st := []) (b := b4) (kJx4a65c_size_8abf5 l G b0 h) (cwV 0 C.2.2.2.2.1 gX8_keepHiding_Jx4a65c_size_8abf5 rfl rfl rfl (by decide +kernel) ⟨Nat.le_of_ble_eq_true rfl, Nat.le_of_ble_eq_true rfl⟩) hm9 rfl rfl rfl (by first | exact Nat.le_of_ble_eq_true rfl | (simp [q_cat, q_catI, q_catJ, q_catR, q_catN]; done)) (by rw [hb4]; first | done | rfl) dX8_keepHiding_4 ⟨(by first | omega | (dsimp only; omega)), (by first | omega | (dsimp only; omega))⟩) (fun x2 M3 h => ?_)
  refine q_bipush (pc := 7) C 40 dX8_keepHiding_7 (by decide) ?_
  refine q_icmp_lt (pc := 9) C 13 dX8_keepHiding_9 (by decide) (fun c5 => ?_) (fun c5 => ?_)
  · have h := h.1 c5
    refine q_iconst (pc := 13) C 0 dX8_keepHiding_13 (by decide) ?_
    refine q_istore_n (pc := 14) C 3 [(3, .int 0), (0, va_rf l0), (1, va_rf l1), (2, .int l2)] dX8_keepHiding_14 rfl (by decide) (by first | rfl | simp [q_cat, q_catI, q_catJ, q_catR, q_catN]) ?_
    refine q_widen (k2 := 0) (n2 := 0) (by omega) (by omega) ?_
    refine q_lv [1, 2, 3, 0] rfl ?_
    obtain ⟨f9, h⟩ := h
    exact tX8_keepHiding_15 C hr hlocks hg f9 _ _ _ _ _ h
  · have h := h.2 c5
    exact q_vret (pc := 12) C hr hlocks h dX8_keepHiding_12 (by omega) (by omega)
set_option maxRecDepth 100000 in
set_option maxHeartbeats 4000000 in
theorem kX8_keepHiding (l : Launch) (G : mG) (b0 : Nat) {g : Nat → Nat} (hg : G.2.2 = g) {b : Nat} {l1 : Option Nat} {l2 : Int32} {M : mM} {κ : mM → Prop} (h : wX8_keepHiding g κ (some b) l1 l2 M) : Met l yX8_keepHiding wsX8_keepHiding ({ frames := 7, cells := 2, slots := 52, locals := 171 } : Room) (va_Pc [.ref b, va_rf l1, .int l2] (m_Pre G b0 M)) (va_Qv κ (m_B G b0) (fun q => b0 ≤ q)) 2 52 (fun q => b0 ≤ q) := by
  refine m_met (cc := cX8_keepHiding) (maxL := 5) (ret := none) (lv := [(0, va_rf (some b)), (1, va_rf l1), (2, .int l2)]) RX8 rfl (by decide +kernel) rfl (by first | exact Nat.le_of_ble_eq_true rfl | simp [lg_sl, q_cat, q_catI, q_catJ, q_catR, q_catN]) (by first | rfl | (simp [lv_args, q_cat, q_catI, q_catJ, q_catR, q_catN]; done) | (simp [lv_args, q_cat, q_catI, q_catJ, q_catR, q_catN]; rfl)) ?_
  intro p e s m args below meth c C hr hlocks hni
  exact tX8_keepHiding C hr hlocks hg h
/-! X8_bringHidden -/
set_option maxRecDepth 100000 in
set_option maxHeartbeats 4000000 in
theorem tX8_bringHidden_105 {p : Program} {l : Launch} {e : Env} {s : State} {m : MethodId} {args : Array Value} {below : List Frame} {meth : Method} {c : Code} {G : mG} {b0 : Nat} (C : m_C p s m args c cX8_bringHidden 7 RX8 wsX8_bringHidden G b0) (hr : meth.sig.returnType = (some .int)) (hlocks : meth.locks = false) {g : Nat → Nat} (hg : G.2.2 = g) {κ : Int32 → mM → Prop} {R6 : Nat → Nat → Option Nat → Option Nat → Option Nat → Int32 → Int32 → Int32 → mM → Prop} (hR6 : ∀ (k9 n9 : Nat) (l0 : Option Nat) (l1 : Option Nat) (l2 : Option Nat) (l3 : Int32) (l4 : Int32) (l5 : Int32) (M : mM), R6 k9 n9 l0 l1 l2 l3 l4 l5 M → m_W p l e ({ frames := 8, cells := 48, slots := 1248, locals := 195 } : Room) s m args below meth c G b0 (MQ below (va_Qi κ (m_B G b0) (fun q => b0 ≤ q)) args s 48 1248 (fun q => b0 ≤ q)) 7 M k9 n9 6 [(0, va_rf l0), (1, va_rf l1), (2, va_rf l2), (3, .int l3), (4, .int l4), (5, .int l5)] []) {k9 n9 : Nat} {l0 : Option Nat} {l1 : Option Nat} {l2 : Option Nat} {l3 : Int32} {l4 : Int32} {l5 : Int32} {M : mM} (h : wX8_bringHidden_105 g κ R6 k9 n9 l0 l1 l2 l3 l4 l5 M) : m_W p l e ({ frames := 8, cells := 48, slots := 1248, locals := 195 } : Room) s m args below meth c G b0 (MQ below (va_Qi κ (m_B G b0) (fun q => b0 ≤ q)) args s 48 1248 (fun q => b0 ≤ q)) 7 M k9 n9 105 [(0, va_rf l0), (1, va_rf l1), (2, va_rf l2), (3, .int l3), (4, .int l4), (5, .int l5)] [] := by
  unfold wX8_bringHidden_105 at h
  obtain ⟨hbk, h⟩ := h
  refine q_iinc (pc := 105) C 5 5 (l5 + 1) [(5, .int (l5 + 1)), (0, va_rf l0), (1, va_rf l1), (2, va_rf l2), (3, .int l3), (4, .int l4)] dX8_bringHidden_105 rfl (by rfl) (by decide) (by first | rfl | simp [q_cat, q_catI, q_catJ, q_catR, q_catN]) ?_
  refine q_goto (pc := 108) C 6 dX8_bringHidden_108 (by decide) ?_
  refine q_lv [1, 2, 3, 4, 5, 0] rfl ?_
  exact hR6 _ _ _ _ _ _ _ _ _ h
set_option maxRecDepth 100000 in
set_option maxHeartbeats 4000000 in
theorem tX8_bringHidden_6 {p : Program} {l : Launch} {e : Env} {s : State} {m : MethodId} {args : Array Value} {below : List Frame} {meth : Method} {c : Code} {G : mG} {b0 : Nat} (C : m_C p s m args c cX8_bringHidden 7 RX8 wsX8_bringHidden G b0) (hr : meth.sig.returnType = (some .int)) (hlocks : meth.locks = false) {g : Nat → Nat} (hg : G.2.2 = g) {κ : Int32 → mM → Prop} : ∀ (f : Nat) (k9 n9 : Nat) (l0 : Option Nat) (l1 : Option Nat) (l2 : Option Nat) (l3 : Int32) (l4 : Int32) (l5 : Int32) (M : mM), wX8_bringHidden_6 g κ f k9 n9 l0 l1 l2 l3 l4 l5 M → m_W p l e ({ frames := 8, cells := 48, slots := 1248, locals := 195 } : Room) s m args below meth c G b0 (MQ below (va_Qi κ (m_B G b0) (fun q => b0 ≤ q)) args s 48 1248 (fun q => b0 ≤ q)) 7 M k9 n9 6 [(0, va_rf l0), (1, va_rf l1), (2, va_rf l2), (3, .int l3), (4, .int l4), (5, .int l5)] [] := by
  intro f
  induction f with
  | zero =>
    intro k9 n9 l0 l1 l2 l3 l4 l5 M h
    exact absurd h (by simp [wX8_bringHidden_6])
  | succ f ih =>
    intro k9 n9 l0 l1 l2 l3 l4 l5 M h
    rw [wX8_bringHidden_6] at h
    obtain ⟨hbk, h⟩ := h
    refine q_iload (pc := 6) C 5 5 dX8_bringHidden_6 rfl ?_
    refine q_aload_n (pc := 8) C 0 0 dX8_bringHidden_8 rfl rfl ?_
    refine q_gR (pc := 9) C h (T := TX8) rfl (by decide) (wk_u bm_X8_bringHidden wm_X8_bringHidden uq_X8 (by decide +kernel)) (by decide +kernel) (fun _ h9 => h9) dX8_bringHidden_9 (fun x1 h => ?_)
    obtain ⟨b4, fs9, hb4, hm9, h⟩ := h
    refine q_ci (pc := 12) (q_rV C (st := [.int l5]) (b := b4) (kJx4a65c_size_8abf5 l G b0 h) (cwV 0 C.2.2.2.2.1 gX8_bringHidden_Jx4a65c_size_8abf5 rfl rfl rfl (by decide +kernel) ⟨Nat.le_of_ble_eq_true rfl, Nat.le_of_ble_eq_true rfl⟩) hm9 rfl rfl rfl (by first | exact Nat.le_of_ble_eq_true rfl | (simp [q_cat, q_catI, q_catJ, q_catR, q_catN]; done)) (by rw [hb4]; first | done | rfl) dX8_bringHidden_12 ⟨(by first | omega | (dsimp only; omega)), (by first | omega | (dsimp only; omega))⟩) (fun x2 M3 h => ?_)
    refine q_icmp_ge (pc := 15) C 111 dX8_bringHidden_15 (by decide) (fun c5 => ?_) (fun c5 => ?_)
    · have h := h.1 c5
      refine q_iload (pc := 111) C 4 4 dX8_bringHidden_111 rfl ?_
      obtain ⟨hbk, h⟩ := h
      exact q_iret (pc := 113) C hr hlocks h dX8_bringHidden_113 (by omega) (by omega)
    · have h := h.2 c5
      refine q_aload_n (pc := 18) C 0 0 dX8_bringHidden_18 rfl rfl ?_
      refine q_gR (pc := 19) C h (T := TX8) rfl (by decide) (wk_u bm_X8_bringHidden wm_X8_bringHidden uq_X8 (by decide +kernel)) (by decide +kernel) (fun _ h9 => h9) dX8_bringHidden_19 (fun x6 h => ?_)
      refine q_iload (pc := 22) C 5 5 dX8_bringHidden_22 rfl ?_
      obtain ⟨b9, fs9, hb9, hm9, h⟩ := h
      refine q_cq (pc := 24) (q_rV C (st := []) (b := b9) (kJx4a65c_get_915e3 l G b0 h) (cwV 1 C.2.2.2.2.1 gX8_bringHidden_Jx4a65c_get_915e3 rfl rfl rfl (by decide +kernel) ⟨Nat.le_of_ble_eq_true rfl, Nat.le_of_ble_eq_true rfl⟩) hm9 rfl rfl rfl (by first | exact Nat.le_of_ble_eq_true rfl | (simp [q_cat, q_catI, q_catJ, q_catR, q_catN]; done)) (by rw [hb9]; first | done | rfl) dX8_bringHidden_24 ⟨(by first | omega | (dsimp only; omega)), (by first | omega | (dsimp only; omega))⟩) (fun x7 M8 h => ?_)
      refine q_cast (pc := 27) C h rfl rfl (by decide +kernel) dX8_bringHidden_27 (fun h => ?_)
      refine q_astore (pc := 30) C 6 [(6, va_rf x7), (0, va_rf l0), (1, va_rf l1), (2, va_rf l2), (3, .int l3), (4, .int l4), (5, .int l5)] dX8_bringHidden_30 (by decide) (by first | rfl | simp [q_cat, q_catI, q_catJ, q_catR, q_catN]) ?_
      refine q_aload (pc := 32) C 6 0 dX8_bringHidden_32 rfl ?_
      refine q_gR (pc := 34) C h (T := TX3) rfl (by decide) (wk_u bm_X8_bringHidden wm_X8_bringHidden uq_X3 (by decide +kernel)) (by decide +kernel) (fun _ h9 => h9) dX8_bringHidden_34 (fun x10 h => ?_)
      refine q_aload_n (pc := 37) C 1 2 dX8_bringHidden_37 rfl rfl ?_
      refine q_acmp_ne (pc := 38) C 105 dX8_bringHidden_38 (by decide) (fun c11 => ?_) (fun c11 => ?_)
      · have h := h.2 c11
        refine q_lv [1, 2, 3, 4, 5, 6] rfl ?_
        exact tX8_bringHidden_105 C hr hlocks hg ih h
      · have h := h.1 c11
        refine q_aload (pc := 41) C 6 0 dX8_bringHidden_41 rfl ?_
        obtain ⟨b14, fs9, hb14, hm9, h⟩ := h
        refine q_ci (pc := 43) (q_rV C (st := []) (b := b14) (kX3_isHidden l G b0 h) (cwV 0 C.2.2.2.2.1 gX8_bringHidden_X3_isHidden rfl rfl rfl (by decide +kernel) ⟨Nat.le_of_ble_eq_true rfl, Nat.le_of_ble_eq_true rfl⟩) hm9 rfl rfl rfl (by first | exact Nat.le_of_ble_eq_true rfl | (simp [q_cat, q_catI, q_catJ, q_catR, q_catN]; done)) (by rw [hb14]; first | done | rfl) dX8_bringHidden_43 ⟨(by first | omega | (dsimp only; omega)), (by first | omega | (dsimp only; omega))⟩) (fun x12 M13 h => ?_)
        refine q_if_ne (pc := 46) C 52 dX8_bringHidden_46 (by decide) (fun c15 => ?_) (fun c15 => ?_)
        · have h := h.2 c15
          refine q_aload_n (pc := 52) C 0 1 dX8_bringHidden_52 rfl rfl ?_
          refine q_aload_n (pc := 53) C 1 2 dX8_bringHidden_53 rfl rfl ?_
          refine q_aload (pc := 54) C 6 0 dX8_bringHidden_54 rfl ?_
          refine q_gI (pc := 56) C h (T := TX3) rfl (by decide) (wk_u bm_X8_bringHidden wm_X8_bringHidden uq_X3 (by decide +kernel)) (by decide +kernel) (fun _ h9 => h9) dX8_bringHidden_56 (fun x16 h => ?_)
          obtain ⟨hbk, h⟩ := h
          obtain ⟨b18, fs9, hb18, hm9, h⟩ := h
          refine q_cv (pc := 59) (q_rV C (st := []) (b := b18) (kX8_keepHiding l G b0 hg h) (cwV 2 C.2.2.2.2.1 gX8_bringHidden_X8_keepHiding rfl rfl rfl (by decide +kernel) ⟨Nat.le_of_ble_eq_true rfl, Nat.le_of_ble_eq_true rfl⟩) hm9 rfl rfl rfl (by first | exact Nat.le_of_ble_eq_true rfl | (simp [q_cat, q_catI, q_catJ, q_catR, q_catN]; done)) (by rw [hb18]; first | done | rfl) dX8_bringHidden_59 ⟨(by first | omega | (dsimp only; omega)), (by first | omega | (dsimp only; omega))⟩) (fun M17 h => ?_)
          refine q_aload (pc := 62) C 6 0 dX8_bringHidden_62 rfl ?_
          refine q_aload_n (pc := 64) C 1 2 dX8_bringHidden_64 rfl rfl ?_
          refine q_p (pc := 65) C h (.object "Lullabygate$Sleeper") (T := TX3) tyX3 tyX3_ok nmX3 rfl (by decide +kernel) (q_nrO _ _) (q_ftO _ _) rfl (by decide) (wk_u bm_X8_bringHidden wm_X8_bringHidden uq_X3 (by decide +kernel)) (by decide +kernel) (fun _ h9 => h9) rfl dX8_bringHidden_65 (fun M19 h => ?_)
          refine q_iload_n (pc := 68) C 3 4 dX8_bringHidden_68 rfl rfl ?_
          refine q_if_eq (pc := 69) C 99 dX8_bringHidden_69 (by decide) (fun c20 => ?_) (fun c20 => ?_)
          · have h := h.1 c20
            refine q_aload (pc := 99) C 6 0 dX8_bringHidden_99 rfl ?_
            refine q_iconst (pc := 101) C 4 dX8_bringHidden_101 (by decide) ?_
            refine q_p (pc := 102) C h .int (T := TX3) tyX3 tyX3_ok nmX3 rfl (by decide +kernel) rfl rfl rfl (by decide) (wk_u bm_X8_bringHidden wm_X8_bringHidden uq_X3 (by decide +kernel)) (by decide +kernel) (fun _ h9 => h9) rfl dX8_bringHidden_102 (fun M21 h => ?_)
            refine q_lv [1, 2, 3, 4, 5, 6] rfl ?_
            exact tX8_bringHidden_105 C hr hlocks hg ih h
          · have h := h.2 c20
            refine q_aload (pc := 72) C 6 0 dX8_bringHidden_72 rfl ?_
            refine q_aload_n (pc := 74) C 2 3 dX8_bringHidden_74 rfl rfl ?_
            refine q_iconst (pc := 75) C 3 dX8_bringHidden_75 (by decide) ?_
            obtain ⟨b23, fs9, hb23, hm9, h⟩ := h
            refine q_cv (pc := 76) (q_rV C (st := []) (b := b23) (kX3_putInStore l G b0 h) (cwV 2 C.2.2.2.2.1 gX8_bringHidden_X3_putInStore rfl rfl rfl (by decide +kernel) ⟨Nat.le_of_ble_eq_true rfl, Nat.le_of_ble_eq_true rfl⟩) hm9 rfl rfl rfl (by first | exact Nat.le_of_ble_eq_true rfl | (simp [q_cat, q_catI, q_catJ, q_catR, q_catN]; done)) (by rw [hb23]; first | done | rfl) dX8_bringHidden_76 ⟨(by first | omega | (dsimp only; omega)), (by first | omega | (dsimp only; omega))⟩) (fun M22 h => ?_)
            refine q_aload_n (pc := 79) C 2 3 dX8_bringHidden_79 rfl rfl ?_
            refine q_dup (pc := 80) C dX8_bringHidden_80 (q_cat _) ?_
            refine q_gI (pc := 81) C h (T := TX2) rfl (by decide) (wk_u bm_X8_bringHidden wm_X8_bringHidden uq_X2 (by decide +kernel)) (by decide +kernel) (fun _ h9 => h9) dX8_bringHidden_81 (fun x24 h => ?_)
            refine q_aload (pc := 84) C 6 0 dX8_bringHidden_84 rfl ?_
            refine q_gI (pc := 86) C h (T := TX3) rfl (by decide) (wk_u bm_X8_bringHidden wm_X8_bringHidden uq_X3 (by decide +kernel)) (by decide +kernel) (fun _ h9 => h9) dX8_bringHidden_86 (fun x25 h => ?_)
            refine q_iadd (pc := 89) C dX8_bringHidden_89 ?_
            refine q_p (pc := 90) C h .int (T := TX2) tyX2 tyX2_ok nmX2 rfl (by decide +kernel) rfl rfl rfl (by decide) (wk_u bm_X8_bringHidden wm_X8_bringHidden uq_X2 (by decide +kernel)) (by decide +kernel) (fun _ h9 => h9) rfl dX8_bringHidden_90 (fun M26 h => ?_)
            refine q_iinc (pc := 93) C 4 5 (l4 + 1) [(4, .int (l4 + 1)), (6, va_rf x7), (0, va_rf l0), (1, va_rf l1), (2, va_rf l2), (3, .int l3), (5, .int l5)] dX8_bringHidden_93 rfl (by rfl) (by decide) (by first | rfl | simp [q_cat, q_catI, q_catJ, q_catR, q_catN]) ?_
            refine q_goto (pc := 96) C 105 dX8_bringHidden_96 (by decide) ?_
            refine q_lv [2, 3, 4, 5, 0, 6] rfl ?_
            exact tX8_bringHidden_105 C hr hlocks hg ih h
        · have h := h.1 c15
          refine q_goto (pc := 49) C 105 dX8_bringHidden_49 (by decide) ?_
          refine q_lv [1, 2, 3, 4, 5, 6] rfl ?_
          exact tX8_bringHidden_105 C hr hlocks hg ih h
set_option maxRecDepth 100000 in
set_option maxHeartbeats 4000000 in
theorem tX8_bringHidden {p : Program} {l : Launch} {e : Env} {s : State} {m : MethodId} {args : Array Value} {below : List Frame} {meth : Method} {c : Code} {G : mG} {b0 : Nat} (C : m_C p s m args c cX8_bringHidden 7 RX8 wsX8_bringHidden G b0) (hr : meth.sig.returnType = (some .int)) (hlocks : meth.locks = false) {g : Nat → Nat} (hg : G.2.2 = g) {κ : Int32 → mM → Prop} {l0 : Option Nat} {l1 : Option Nat} {l2 : Option Nat} {l3 : Int32} {M : mM} (h : wX8_bringHidden g κ l0 l1 l2 l3 M) : m_W p l e ({ frames := 8, cells := 48, slots := 1248, locals := 195 } : Room) s m args below meth c G b0 (MQ below (va_Qi κ (m_B G b0) (fun q => b0 ≤ q)) args s 48 1248 (fun q => b0 ≤ q)) 7 M 0 0 0 [(0, va_rf l0), (1, va_rf l1), (2, va_rf l2), (3, .int l3)] [] := by
  unfold wX8_bringHidden at h
  refine q_iconst (pc := 0) C 0 dX8_bringHidden_0 (by decide) ?_
  refine q_istore (pc := 1) C 4 [(4, .int 0), (0, va_rf l0), (1, va_rf l1), (2, va_rf l2), (3, .int l3)] dX8_bringHidden_1 (by decide) (by first | rfl | simp [q_cat, q_catI, q_catJ, q_catR, q_catN]) ?_
  refine q_iconst (pc := 3) C 0 dX8_bringHidden_3 (by decide) ?_
  refine q_istore (pc := 4) C 5 [(5, .int 0), (4, .int 0), (0, va_rf l0), (1, va_rf l1), (2, va_rf l2), (3, .int l3)] dX8_bringHidden_4 (by decide) (by first | rfl | simp [q_cat, q_catI, q_catJ, q_catR, q_catN]) ?_
  refine q_lv [2, 3, 4, 5, 1, 0] rfl ?_
  obtain ⟨f9, h⟩ := h
  exact tX8_bringHidden_6 C hr hlocks hg f9 _ _ _ _ _ _ _ _ _ h
set_option maxRecDepth 100000 in
set_option maxHeartbeats 4000000 in
theorem kX8_bringHidden (l : Launch) (G : mG) (b0 : Nat) {g : Nat → Nat} (hg : G.2.2 = g) {b : Nat} {l1 : Option Nat} {l2 : Option Nat} {l3 : Int32} {M : mM} {κ : Int32 → mM → Prop} (h : wX8_bringHidden g κ (some b) l1 l2 l3 M) : Met l yX8_bringHidden wsX8_bringHidden ({ frames := 8, cells := 48, slots := 1248, locals := 195 } : Room) (va_Pc [.ref b, va_rf l1, va_rf l2, .int l3] (m_Pre G b0 M)) (va_Qi κ (m_B G b0) (fun q => b0 ≤ q)) 48 1248 (fun q => b0 ≤ q) := by
  refine m_met (cc := cX8_bringHidden) (maxL := 7) (ret := (some .int)) (lv := [(0, va_rf (some b)), (1, va_rf l1), (2, va_rf l2), (3, .int l3)]) RX8 rfl (by decide +kernel) rfl (by first | exact Nat.le_of_ble_eq_true rfl | simp [lg_sl, q_cat, q_catI, q_catJ, q_catR, q_catN]) (by first | rfl | (simp [lv_args, q_cat, q_catI, q_catJ, q_catR, q_catN]; done) | (simp [lv_args, q_cat, q_catI, q_catJ, q_catR, q_catN]; rfl)) ?_
  intro p e s m args below meth c C hr hlocks hni
  exact tX8_bringHidden C hr hlocks hg h
/-! X8_partsThatComeIn -/
set_option maxRecDepth 100000 in
set_option maxHeartbeats 4000000 in
theorem tX8_partsThatComeIn_90 {p : Program} {l : Launch} {e : Env} {s : State} {m : MethodId} {args : Array Value} {below : List Frame} {meth : Method} {c : Code} {G : mG} {b0 : Nat} (C : m_C p s m args c cX8_partsThatComeIn 7 RX8 wsX8_partsThatComeIn G b0) (hr : meth.sig.returnType = (some .int)) (hlocks : meth.locks = false) {κ : Int32 → mM → Prop} {R11 : Option Nat → Option Nat → Option Nat → Int32 → Int32 → Int32 → mM → Prop} (hR11 : ∀ (l0 : Option Nat) (l1 : Option Nat) (l2 : Option Nat) (l3 : Int32) (l4 : Int32) (l5 : Int32) (M : mM), R11 l0 l1 l2 l3 l4 l5 M → m_W p l e ({ frames := 3, cells := 0, slots := 0, locals := 64 } : Room) s m args below meth c G b0 (MQ below (va_Qi κ (m_B G b0) (fun q => b0 ≤ q)) args s 0 0 (fun q => b0 ≤ q)) 7 M 0 0 11 [(0, va_rf l0), (1, va_rf l1), (2, va_rf l2), (3, .int l3), (4, .int l4), (5, .int l5)] []) {l0 : Option Nat} {l1 : Option Nat} {l2 : Option Nat} {l3 : Int32} {l4 : Int32} {l5 : Int32} {M : mM} (h : wX8_partsThatComeIn_90 κ R11 l0 l1 l2 l3 l4 l5 M) : m_W p l e ({ frames := 3, cells := 0, slots := 0, locals := 64 } : Room) s m args below meth c G b0 (MQ below (va_Qi κ (m_B G b0) (fun q => b0 ≤ q)) args s 0 0 (fun q => b0 ≤ q)) 7 M 0 0 90 [(0, va_rf l0), (1, va_rf l1), (2, va_rf l2), (3, .int l3), (4, .int l4), (5, .int l5)] [] := by
  unfold wX8_partsThatComeIn_90 at h
  refine q_iinc (pc := 90) C 5 5 (l5 + 1) [(5, .int (l5 + 1)), (0, va_rf l0), (1, va_rf l1), (2, va_rf l2), (3, .int l3), (4, .int l4)] dX8_partsThatComeIn_90 rfl (by rfl) (by decide) (by first | rfl | simp [q_cat, q_catI, q_catJ, q_catR, q_catN]) ?_
  refine q_goto (pc := 93) C 11 dX8_partsThatComeIn_93 (by decide) ?_
  refine q_widen (k2 := 0) (n2 := 0) (by omega) (by omega) ?_
  refine q_lv [1, 2, 3, 4, 5, 0] rfl ?_
  exact hR11 _ _ _ _ _ _ _ h
set_option maxRecDepth 100000 in
set_option maxHeartbeats 4000000 in
theorem tX8_partsThatComeIn_69 {p : Program} {l : Launch} {e : Env} {s : State} {m : MethodId} {args : Array Value} {below : List Frame} {meth : Method} {c : Code} {G : mG} {b0 : Nat} (C : m_C p s m args c cX8_partsThatComeIn 7 RX8 wsX8_partsThatComeIn G b0) (hr : meth.sig.returnType = (some .int)) (hlocks : meth.locks = false) {κ : Int32 → mM → Prop} {R11 : Option Nat → Option Nat → Option Nat → Int32 → Int32 → Int32 → mM → Prop} (hR11 : ∀ (l0 : Option Nat) (l1 : Option Nat) (l2 : Option Nat) (l3 : Int32) (l4 : Int32) (l5 : Int32) (M : mM), R11 l0 l1 l2 l3 l4 l5 M → m_W p l e ({ frames := 3, cells := 0, slots := 0, locals := 64 } : Room) s m args below meth c G b0 (MQ below (va_Qi κ (m_B G b0) (fun q => b0 ≤ q)) args s 0 0 (fun q => b0 ≤ q)) 7 M 0 0 11 [(0, va_rf l0), (1, va_rf l1), (2, va_rf l2), (3, .int l3), (4, .int l4), (5, .int l5)] []) {l0 : Option Nat} {l1 : Option Nat} {l2 : Option Nat} {l3 : Int32} {l4 : Int32} {l5 : Int32} {l6 : Option Nat} {M : mM} (h : wX8_partsThatComeIn_69 κ R11 l0 l1 l2 l3 l4 l5 l6 M) : m_W p l e ({ frames := 3, cells := 0, slots := 0, locals := 64 } : Room) s m args below meth c G b0 (MQ below (va_Qi κ (m_B G b0) (fun q => b0 ≤ q)) args s 0 0 (fun q => b0 ≤ q)) 7 M 0 0 69 [(0, va_rf l0), (1, va_rf l1), (2, va_rf l2), (3, .int l3), (4, .int l4), (5, .int l5), (6, va_rf l6)] [] := by
  unfold wX8_partsThatComeIn_69 at h
  refine q_iload_n (pc := 69) C 3 3 dX8_partsThatComeIn_69 rfl rfl ?_
  refine q_iconst (pc := 70) C 1 dX8_partsThatComeIn_70 (by decide) ?_
  refine q_aload (pc := 71) C 6 6 dX8_partsThatComeIn_71 rfl ?_
  refine q_gI (pc := 73) C h (T := TX3) rfl (by decide) (wk_u rfl wm_X8_partsThatComeIn uq_X3 (by decide +kernel)) (by decide +kernel) (fun _ h9 => h9) dX8_partsThatComeIn_73 (fun x1 h => ?_)
  refine q_ishl (pc := 76) C dX8_partsThatComeIn_76 ?_
  refine m_stk (st2 := .int (m_shl 1 x1) :: _) rfl ?_
  refine q_ior (pc := 77) C dX8_partsThatComeIn_77 ?_
  refine q_istore_n (pc := 78) C 3 [(3, .int (l3 ||| (m_shl 1 x1))), (0, va_rf l0), (1, va_rf l1), (2, va_rf l2), (4, .int l4), (5, .int l5), (6, va_rf l6)] dX8_partsThatComeIn_78 rfl (by decide) (by first | rfl | simp [q_cat, q_catI, q_catJ, q_catR, q_catN]) ?_
  refine q_aload (pc := 79) C 6 6 dX8_partsThatComeIn_79 rfl ?_
  obtain ⟨b4, fs9, hb4, hm9, h⟩ := h
  refine q_ci (pc := 81) (q_rV C (st := []) (b := b4) (kX3_isNightmare l G b0 h) (cwV 0 C.2.2.2.2.1 gX8_partsThatComeIn_X3_isNightmare rfl rfl rfl (by decide +kernel) ⟨Nat.le_of_ble_eq_true rfl, Nat.le_of_ble_eq_true rfl⟩) hm9 rfl rfl rfl (by first | exact Nat.le_of_ble_eq_true rfl | (simp [q_cat, q_catI, q_catJ, q_catR, q_catN]; done)) (by rw [hb4]; first | done | rfl) dX8_partsThatComeIn_81 ⟨(by first | omega | (dsimp only; omega)), (by first | omega | (dsimp only; omega))⟩) (fun x2 M3 h => ?_)
  refine q_if_eq (pc := 84) C 90 dX8_partsThatComeIn_84 (by decide) (fun c5 => ?_) (fun c5 => ?_)
  · have h := h.1 c5
    refine q_widen (k2 := 0) (n2 := 0) (by omega) (by omega) ?_
    refine q_lv [1, 2, 3, 0, 4, 5] rfl ?_
    exact tX8_partsThatComeIn_90 C hr hlocks hR11 h
  · have h := h.2 c5
    refine q_iinc (pc := 87) C 4 4 (l4 + 1) [(4, .int (l4 + 1)), (3, .int (l3 ||| (m_shl 1 x1))), (0, va_rf l0), (1, va_rf l1), (2, va_rf l2), (5, .int l5), (6, va_rf l6)] dX8_partsThatComeIn_87 rfl (by rfl) (by decide) (by first | rfl | simp [q_cat, q_catI, q_catJ, q_catR, q_catN]) ?_
    refine q_widen (k2 := 0) (n2 := 0) (by omega) (by omega) ?_
    refine q_lv [2, 3, 4, 1, 0, 5] rfl ?_
    exact tX8_partsThatComeIn_90 C hr hlocks hR11 h
set_option maxRecDepth 100000 in
set_option maxHeartbeats 4000000 in
theorem tX8_partsThatComeIn_11 {p : Program} {l : Launch} {e : Env} {s : State} {m : MethodId} {args : Array Value} {below : List Frame} {meth : Method} {c : Code} {G : mG} {b0 : Nat} (C : m_C p s m args c cX8_partsThatComeIn 7 RX8 wsX8_partsThatComeIn G b0) (hr : meth.sig.returnType = (some .int)) (hlocks : meth.locks = false) {κ : Int32 → mM → Prop} : ∀ (f : Nat) (l0 : Option Nat) (l1 : Option Nat) (l2 : Option Nat) (l3 : Int32) (l4 : Int32) (l5 : Int32) (M : mM), wX8_partsThatComeIn_11 κ f l0 l1 l2 l3 l4 l5 M → m_W p l e ({ frames := 3, cells := 0, slots := 0, locals := 64 } : Room) s m args below meth c G b0 (MQ below (va_Qi κ (m_B G b0) (fun q => b0 ≤ q)) args s 0 0 (fun q => b0 ≤ q)) 7 M 0 0 11 [(0, va_rf l0), (1, va_rf l1), (2, va_rf l2), (3, .int l3), (4, .int l4), (5, .int l5)] [] := by
  intro f
  induction f with
  | zero =>
    intro l0 l1 l2 l3 l4 l5 M h
    exact absurd h (by simp [wX8_partsThatComeIn_11])
  | succ f ih =>
    intro l0 l1 l2 l3 l4 l5 M h
    rw [wX8_partsThatComeIn_11] at h
    refine q_iload (pc := 11) C 5 5 dX8_partsThatComeIn_11 rfl ?_
    refine q_aload_n (pc := 13) C 0 0 dX8_partsThatComeIn_13 rfl rfl ?_
    refine q_gR (pc := 14) C h (T := TX8) rfl (by decide) (wk_u rfl wm_X8_partsThatComeIn uq_X8 (by decide +kernel)) (by decide +kernel) (fun _ h9 => h9) dX8_partsThatComeIn_14 (fun x1 h => ?_)
    obtain ⟨b4, fs9, hb4, hm9, h⟩ := h
    refine q_ci (pc := 17) (q_rV C (st := [.int l5]) (b := b4) (kJx4a65c_size_8abf5 l G b0 h) (cwV 0 C.2.2.2.2.1 gX8_partsThatComeIn_Jx4a65c_size_8abf5 rfl rfl rfl (by decide +kernel) ⟨Nat.le_of_ble_eq_true rfl, Nat.le_of_ble_eq_true rfl⟩) hm9 rfl rfl rfl (by first | exact Nat.le_of_ble_eq_true rfl | (simp [q_cat, q_catI, q_catJ, q_catR, q_catN]; done)) (by rw [hb4]; first | done | rfl) dX8_partsThatComeIn_17 ⟨(by first | omega | (dsimp only; omega)), (by first | omega | (dsimp only; omega))⟩) (fun x2 M3 h => ?_)
    refine q_icmp_ge (pc := 20) C 96 dX8_partsThatComeIn_20 (by decide) (fun c5 => ?_) (fun c5 => ?_)
    · have h := h.1 c5
      refine q_iload_n (pc := 96) C 3 3 dX8_partsThatComeIn_96 rfl rfl ?_
      exact q_iret (pc := 97) C hr hlocks h dX8_partsThatComeIn_97 (by omega) (by omega)
    · have h := h.2 c5
      refine q_aload_n (pc := 23) C 0 0 dX8_partsThatComeIn_23 rfl rfl ?_
      refine q_gR (pc := 24) C h (T := TX8) rfl (by decide) (wk_u rfl wm_X8_partsThatComeIn uq_X8 (by decide +kernel)) (by decide +kernel) (fun _ h9 => h9) dX8_partsThatComeIn_24 (fun x6 h => ?_)
      refine q_iload (pc := 27) C 5 5 dX8_partsThatComeIn_27 rfl ?_
      obtain ⟨b9, fs9, hb9, hm9, h⟩ := h
      refine q_cq (pc := 29) (q_rV C (st := []) (b := b9) (kJx4a65c_get_915e3 l G b0 h) (cwV 1 C.2.2.2.2.1 gX8_partsThatComeIn_Jx4a65c_get_915e3 rfl rfl rfl (by decide +kernel) ⟨Nat.le_of_ble_eq_true rfl, Nat.le_of_ble_eq_true rfl⟩) hm9 rfl rfl rfl (by first | exact Nat.le_of_ble_eq_true rfl | (simp [q_cat, q_catI, q_catJ, q_catR, q_catN]; done)) (by rw [hb9]; first | done | rfl) dX8_partsThatComeIn_29 ⟨(by first | omega | (dsimp only; omega)), (by first | omega | (dsimp only; omega))⟩) (fun x7 M8 h => ?_)
      refine q_cast (pc := 32) C h rfl rfl (by decide +kernel) dX8_partsThatComeIn_32 (fun h => ?_)
      refine q_astore (pc := 35) C 6 [(6, va_rf x7), (0, va_rf l0), (1, va_rf l1), (2, va_rf l2), (3, .int l3), (4, .int l4), (5, .int l5)] dX8_partsThatComeIn_35 (by decide) (by first | rfl | simp [q_cat, q_catI, q_catJ, q_catR, q_catN]) ?_
      refine q_aload (pc := 37) C 6 0 dX8_partsThatComeIn_37 rfl ?_
      refine q_aload_n (pc := 39) C 1 2 dX8_partsThatComeIn_39 rfl rfl ?_
      refine q_gI (pc := 40) C h (T := TX6) rfl (by decide) (wk_u rfl wm_X8_partsThatComeIn uq_X6 (by decide +kernel)) (by decide +kernel) (fun _ h9 => h9) dX8_partsThatComeIn_40 (fun x10 h => ?_)
      obtain ⟨b13, fs9, hb13, hm9, h⟩ := h
      refine q_ci (pc := 43) (q_rV C (st := []) (b := b13) (kX3_isIn l G b0 h) (cwV 1 C.2.2.2.2.1 gX8_partsThatComeIn_X3_isIn rfl rfl rfl (by decide +kernel) ⟨Nat.le_of_ble_eq_true rfl, Nat.le_of_ble_eq_true rfl⟩) hm9 rfl rfl rfl (by first | exact Nat.le_of_ble_eq_true rfl | (simp [q_cat, q_catI, q_catJ, q_catR, q_catN]; done)) (by rw [hb13]; first | done | rfl) dX8_partsThatComeIn_43 ⟨(by first | omega | (dsimp only; omega)), (by first | omega | (dsimp only; omega))⟩) (fun x11 M12 h => ?_)
      refine q_if_eq (pc := 46) C 90 dX8_partsThatComeIn_46 (by decide) (fun c14 => ?_) (fun c14 => ?_)
      · have h := h.1 c14
        refine q_widen (k2 := 0) (n2 := 0) (by omega) (by omega) ?_
        refine q_lv [1, 2, 3, 4, 5, 6] rfl ?_
        exact tX8_partsThatComeIn_90 C hr hlocks ih h
      · have h := h.2 c14
        refine q_aload (pc := 49) C 6 0 dX8_partsThatComeIn_49 rfl ?_
        obtain ⟨b17, fs9, hb17, hm9, h⟩ := h
        refine q_ci (pc := 51) (q_rV C (st := []) (b := b17) (kX3_isNightmare l G b0 h) (cwV 0 C.2.2.2.2.1 gX8_partsThatComeIn_X3_isNightmare rfl rfl rfl (by decide +kernel) ⟨Nat.le_of_ble_eq_true rfl, Nat.le_of_ble_eq_true rfl⟩) hm9 rfl rfl rfl (by first | exact Nat.le_of_ble_eq_true rfl | (simp [q_cat, q_catI, q_catJ, q_catR, q_catN]; done)) (by rw [hb17]; first | done | rfl) dX8_partsThatComeIn_51 ⟨(by first | omega | (dsimp only; omega)), (by first | omega | (dsimp only; omega))⟩) (fun x15 M16 h => ?_)
        refine q_if_eq (pc := 54) C 69 dX8_partsThatComeIn_54 (by decide) (fun c18 => ?_) (fun c18 => ?_)
        · have h := h.1 c18
          refine q_widen (k2 := 0) (n2 := 0) (by omega) (by omega) ?_
          refine q_lv [1, 2, 3, 4, 5, 6, 0] rfl ?_
          exact tX8_partsThatComeIn_69 C hr hlocks ih h
        · have h := h.2 c18
          refine q_iload (pc := 57) C 4 5 dX8_partsThatComeIn_57 rfl ?_
          refine q_aload_n (pc := 59) C 2 3 dX8_partsThatComeIn_59 rfl rfl ?_
          refine q_gI (pc := 60) C h (T := TX2) rfl (by decide) (wk_u rfl wm_X8_partsThatComeIn uq_X2 (by decide +kernel)) (by decide +kernel) (fun _ h9 => h9) dX8_partsThatComeIn_60 (fun x19 h => ?_)
          refine q_icmp_lt (pc := 63) C 69 dX8_partsThatComeIn_63 (by decide) (fun c20 => ?_) (fun c20 => ?_)
          · have h := h.1 c20
            refine q_widen (k2 := 0) (n2 := 0) (by omega) (by omega) ?_
            refine q_lv [1, 2, 3, 4, 5, 6, 0] rfl ?_
            exact tX8_partsThatComeIn_69 C hr hlocks ih h
          · have h := h.2 c20
            refine q_goto (pc := 66) C 90 dX8_partsThatComeIn_66 (by decide) ?_
            refine q_widen (k2 := 0) (n2 := 0) (by omega) (by omega) ?_
            refine q_lv [1, 2, 3, 4, 5, 6] rfl ?_
            exact tX8_partsThatComeIn_90 C hr hlocks ih h
set_option maxRecDepth 100000 in
set_option maxHeartbeats 4000000 in
theorem tX8_partsThatComeIn {p : Program} {l : Launch} {e : Env} {s : State} {m : MethodId} {args : Array Value} {below : List Frame} {meth : Method} {c : Code} {G : mG} {b0 : Nat} (C : m_C p s m args c cX8_partsThatComeIn 7 RX8 wsX8_partsThatComeIn G b0) (hr : meth.sig.returnType = (some .int)) (hlocks : meth.locks = false) {κ : Int32 → mM → Prop} {l0 : Option Nat} {l1 : Option Nat} {l2 : Option Nat} {M : mM} (h : wX8_partsThatComeIn κ l0 l1 l2 M) : m_W p l e ({ frames := 3, cells := 0, slots := 0, locals := 64 } : Room) s m args below meth c G b0 (MQ below (va_Qi κ (m_B G b0) (fun q => b0 ≤ q)) args s 0 0 (fun q => b0 ≤ q)) 7 M 0 0 0 [(0, va_rf l0), (1, va_rf l1), (2, va_rf l2)] [] := by
  unfold wX8_partsThatComeIn at h
  refine q_iconst (pc := 0) C 0 dX8_partsThatComeIn_0 (by decide) ?_
  refine q_istore_n (pc := 1) C 3 [(3, .int 0), (0, va_rf l0), (1, va_rf l1), (2, va_rf l2)] dX8_partsThatComeIn_1 rfl (by decide) (by first | rfl | simp [q_cat, q_catI, q_catJ, q_catR, q_catN]) ?_
  refine q_aload_n (pc := 2) C 2 3 dX8_partsThatComeIn_2 rfl rfl ?_
  refine q_gI (pc := 3) C h (T := TX2) rfl (by decide) (wk_u rfl wm_X8_partsThatComeIn uq_X2 (by decide +kernel)) (by decide +kernel) (fun _ h9 => h9) dX8_partsThatComeIn_3 (fun x1 h => ?_)
  refine q_istore (pc := 6) C 4 [(4, .int x1), (3, .int 0), (0, va_rf l0), (1, va_rf l1), (2, va_rf l2)] dX8_partsThatComeIn_6 (by decide) (by first | rfl | simp [q_cat, q_catI, q_catJ, q_catR, q_catN]) ?_
  refine q_iconst (pc := 8) C 0 dX8_partsThatComeIn_8 (by decide) ?_
  refine q_istore (pc := 9) C 5 [(5, .int 0), (4, .int x1), (3, .int 0), (0, va_rf l0), (1, va_rf l1), (2, va_rf l2)] dX8_partsThatComeIn_9 (by decide) (by first | rfl | simp [q_cat, q_catI, q_catJ, q_catR, q_catN]) ?_
  refine q_widen (k2 := 0) (n2 := 0) (by omega) (by omega) ?_
  refine q_lv [3, 4, 5, 2, 1, 0] rfl ?_
  obtain ⟨f9, h⟩ := h
  exact tX8_partsThatComeIn_11 C hr hlocks f9 _ _ _ _ _ _ _ h
set_option maxRecDepth 100000 in
set_option maxHeartbeats 4000000 in
theorem kX8_partsThatComeIn (l : Launch) (G : mG) (b0 : Nat) {b : Nat} {l1 : Option Nat} {l2 : Option Nat} {M : mM} {κ : Int32 → mM → Prop} (h : wX8_partsThatComeIn κ (some b) l1 l2 M) : Met l yX8_partsThatComeIn wsX8_partsThatComeIn ({ frames := 3, cells := 0, slots := 0, locals := 64 } : Room) (va_Pc [.ref b, va_rf l1, va_rf l2] (m_Pre G b0 M)) (va_Qi κ (m_B G b0) (fun q => b0 ≤ q)) 0 0 (fun q => b0 ≤ q) := by
  refine m_met (cc := cX8_partsThatComeIn) (maxL := 7) (ret := (some .int)) (lv := [(0, va_rf (some b)), (1, va_rf l1), (2, va_rf l2)]) RX8 rfl (by decide +kernel) rfl (by first | exact Nat.le_of_ble_eq_true rfl | simp [lg_sl, q_cat, q_catI, q_catJ, q_catR, q_catN]) (by first | rfl | (simp [lv_args, q_cat, q_catI, q_catJ, q_catR, q_catN]; done) | (simp [lv_args, q_cat, q_catI, q_catJ, q_catR, q_catN]; rfl)) ?_
  intro p e s m args below meth c C hr hlocks hni
  exact tX8_partsThatComeIn C hr hlocks h
/-! X8_worthOf -/
set_option maxRecDepth 100000 in
set_option maxHeartbeats 4000000 in
theorem tX8_worthOf_45 {p : Program} {l : Launch} {e : Env} {s : State} {m : MethodId} {args : Array Value} {below : List Frame} {meth : Method} {c : Code} {G : mG} {b0 : Nat} (C : m_C p s m args c cX8_worthOf 5 RX8 wsX8_worthOf G b0) (hr : meth.sig.returnType = (some .int)) (hlocks : meth.locks = false) {κ : Int32 → mM → Prop} {R4 : Option Nat → Int32 → Int32 → Int32 → mM → Prop} (hR4 : ∀ (l0 : Option Nat) (l1 : Int32) (l2 : Int32) (l3 : Int32) (M : mM), R4 l0 l1 l2 l3 M → m_W p l e ({ frames := 3, cells := 0, slots := 0, locals := 64 } : Room) s m args below meth c G b0 (MQ below (va_Qi κ (m_B G b0) (fun q => b0 ≤ q)) args s 0 0 (fun q => b0 ≤ q)) 5 M 0 0 4 [(0, va_rf l0), (1, .int l1), (2, .int l2), (3, .int l3)] []) {l0 : Option Nat} {l1 : Int32} {l2 : Int32} {l3 : Int32} {M : mM} (h : wX8_worthOf_45 κ R4 l0 l1 l2 l3 M) : m_W p l e ({ frames := 3, cells := 0, slots := 0, locals := 64 } : Room) s m args below meth c G b0 (MQ below (va_Qi κ (m_B G b0) (fun q => b0 ≤ q)) args s 0 0 (fun q => b0 ≤ q)) 5 M 0 0 45 [(0, va_rf l0), (1, .int l1), (2, .int l2), (3, .int l3)] [] := by
  unfold wX8_worthOf_45 at h
  refine q_iinc (pc := 45) C 3 3 (l3 + 1) [(3, .int (l3 + 1)), (0, va_rf l0), (1, .int l1), (2, .int l2)] dX8_worthOf_45 rfl (by rfl) (by decide) (by first | rfl | simp [q_cat, q_catI, q_catJ, q_catR, q_catN]) ?_
  refine q_goto (pc := 48) C 4 dX8_worthOf_48 (by decide) ?_
  refine q_widen (k2 := 0) (n2 := 0) (by omega) (by omega) ?_
  refine q_lv [1, 2, 3, 0] rfl ?_
  exact hR4 _ _ _ _ _ h
set_option maxRecDepth 100000 in
set_option maxHeartbeats 4000000 in
theorem tX8_worthOf_4 {p : Program} {l : Launch} {e : Env} {s : State} {m : MethodId} {args : Array Value} {below : List Frame} {meth : Method} {c : Code} {G : mG} {b0 : Nat} (C : m_C p s m args c cX8_worthOf 5 RX8 wsX8_worthOf G b0) (hr : meth.sig.returnType = (some .int)) (hlocks : meth.locks = false) {κ : Int32 → mM → Prop} : ∀ (f : Nat) (l0 : Option Nat) (l1 : Int32) (l2 : Int32) (l3 : Int32) (M : mM), wX8_worthOf_4 κ f l0 l1 l2 l3 M → m_W p l e ({ frames := 3, cells := 0, slots := 0, locals := 64 } : Room) s m args below meth c G b0 (MQ below (va_Qi κ (m_B G b0) (fun q => b0 ≤ q)) args s 0 0 (fun q => b0 ≤ q)) 5 M 0 0 4 [(0, va_rf l0), (1, .int l1), (2, .int l2), (3, .int l3)] [] := by
  intro f
  induction f with
  | zero =>
    intro l0 l1 l2 l3 M h
    exact absurd h (by simp [wX8_worthOf_4])
  | succ f ih =>
    intro l0 l1 l2 l3 M h
    rw [wX8_worthOf_4] at h
    refine q_iload_n (pc := 4) C 3 3 dX8_worthOf_4 rfl rfl ?_
    refine q_aload_n (pc := 5) C 0 0 dX8_worthOf_5 rfl rfl ?_
    refine q_gR (pc := 6) C h (T := TX8) rfl (by decide) (wk_u rfl wm_X8_worthOf uq_X8 (by decide +kernel)) (by decide +kernel) (fun _ h9 => h9) dX8_worthOf_6 (fun x1 h => ?_)
    obtain ⟨b4, fs9, hb4, hm9, h⟩ := h
    refine q_ci (pc := 9) (q_rV C (st := [.int l3]) (b := b4) (kJx4a65c_size_8abf5 l G b0 h) (cwV 0 C.2.2.2.2.1 gX8_worthOf_Jx4a65c_size_8abf5 rfl rfl rfl (by decide +kernel) ⟨Nat.le_of_ble_eq_true rfl, Nat.le_of_ble_eq_true rfl⟩) hm9 rfl rfl rfl (by first | exact Nat.le_of_ble_eq_true rfl | (simp [q_cat, q_catI, q_catJ, q_catR, q_catN]; done)) (by rw [hb4]; first | done | rfl) dX8_worthOf_9 ⟨(by first | omega | (dsimp only; omega)), (by first | omega | (dsimp only; omega))⟩) (fun x2 M3 h => ?_)
    refine q_icmp_ge (pc := 12) C 51 dX8_worthOf_12 (by decide) (fun c5 => ?_) (fun c5 => ?_)
    · have h := h.1 c5
      refine q_iload_n (pc := 51) C 2 2 dX8_worthOf_51 rfl rfl ?_
      exact q_iret (pc := 52) C hr hlocks h dX8_worthOf_52 (by omega) (by omega)
    · have h := h.2 c5
      refine q_aload_n (pc := 15) C 0 0 dX8_worthOf_15 rfl rfl ?_
      refine q_gR (pc := 16) C h (T := TX8) rfl (by decide) (wk_u rfl wm_X8_worthOf uq_X8 (by decide +kernel)) (by decide +kernel) (fun _ h9 => h9) dX8_worthOf_16 (fun x6 h => ?_)
      refine q_iload_n (pc := 19) C 3 3 dX8_worthOf_19 rfl rfl ?_
      obtain ⟨b9, fs9, hb9, hm9, h⟩ := h
      refine q_cq (pc := 20) (q_rV C (st := []) (b := b9) (kJx4a65c_get_915e3 l G b0 h) (cwV 1 C.2.2.2.2.1 gX8_worthOf_Jx4a65c_get_915e3 rfl rfl rfl (by decide +kernel) ⟨Nat.le_of_ble_eq_true rfl, Nat.le_of_ble_eq_true rfl⟩) hm9 rfl rfl rfl (by first | exact Nat.le_of_ble_eq_true rfl | (simp [q_cat, q_catI, q_catJ, q_catR, q_catN]; done)) (by rw [hb9]; first | done | rfl) dX8_worthOf_20 ⟨(by first | omega | (dsimp only; omega)), (by first | omega | (dsimp only; omega))⟩) (fun x7 M8 h => ?_)
      refine q_cast (pc := 23) C h rfl rfl (by decide +kernel) dX8_worthOf_23 (fun h => ?_)
      refine q_astore (pc := 26) C 4 [(4, va_rf x7), (0, va_rf l0), (1, .int l1), (2, .int l2), (3, .int l3)] dX8_worthOf_26 (by decide) (by first | rfl | simp [q_cat, q_catI, q_catJ, q_catR, q_catN]) ?_
      refine q_aload (pc := 28) C 4 0 dX8_worthOf_28 rfl ?_
      refine q_iload_n (pc := 30) C 1 2 dX8_worthOf_30 rfl rfl ?_
      obtain ⟨b12, fs9, hb12, hm9, h⟩ := h
      refine q_ci (pc := 31) (q_rV C (st := []) (b := b12) (kX3_isIn l G b0 h) (cwV 1 C.2.2.2.2.1 gX8_worthOf_X3_isIn rfl rfl rfl (by decide +kernel) ⟨Nat.le_of_ble_eq_true rfl, Nat.le_of_ble_eq_true rfl⟩) hm9 rfl rfl rfl (by first | exact Nat.le_of_ble_eq_true rfl | (simp [q_cat, q_catI, q_catJ, q_catR, q_catN]; done)) (by rw [hb12]; first | done | rfl) dX8_worthOf_31 ⟨(by first | omega | (dsimp only; omega)), (by first | omega | (dsimp only; omega))⟩) (fun x10 M11 h => ?_)
      refine q_if_eq (pc := 34) C 45 dX8_worthOf_34 (by decide) (fun c13 => ?_) (fun c13 => ?_)
      · have h := h.1 c13
        refine q_widen (k2 := 0) (n2 := 0) (by omega) (by omega) ?_
        refine q_lv [1, 2, 3, 4] rfl ?_
        exact tX8_worthOf_45 C hr hlocks ih h
      · have h := h.2 c13
        refine q_iload_n (pc := 37) C 2 3 dX8_worthOf_37 rfl rfl ?_
        refine q_aload (pc := 38) C 4 0 dX8_worthOf_38 rfl ?_
        refine q_gI (pc := 40) C h (T := TX3) rfl (by decide) (wk_u rfl wm_X8_worthOf uq_X3 (by decide +kernel)) (by decide +kernel) (fun _ h9 => h9) dX8_worthOf_40 (fun x14 h => ?_)
        refine q_iadd (pc := 43) C dX8_worthOf_43 ?_
        refine q_istore_n (pc := 44) C 2 [(2, .int (l2 + x14)), (4, va_rf x7), (0, va_rf l0), (1, .int l1), (3, .int l3)] dX8_worthOf_44 rfl (by decide) (by first | rfl | simp [q_cat, q_catI, q_catJ, q_catR, q_catN]) ?_
        refine q_widen (k2 := 0) (n2 := 0) (by omega) (by omega) ?_
        refine q_lv [2, 3, 0, 4] rfl ?_
        exact tX8_worthOf_45 C hr hlocks ih h
set_option maxRecDepth 100000 in
set_option maxHeartbeats 4000000 in
theorem tX8_worthOf {p : Program} {l : Launch} {e : Env} {s : State} {m : MethodId} {args : Array Value} {below : List Frame} {meth : Method} {c : Code} {G : mG} {b0 : Nat} (C : m_C p s m args c cX8_worthOf 5 RX8 wsX8_worthOf G b0) (hr : meth.sig.returnType = (some .int)) (hlocks : meth.locks = false) {κ : Int32 → mM → Prop} {l0 : Option Nat} {l1 : Int32} {M : mM} (h : wX8_worthOf κ l0 l1 M) : m_W p l e ({ frames := 3, cells := 0, slots := 0, locals := 64 } : Room) s m args below meth c G b0 (MQ below (va_Qi κ (m_B G b0) (fun q => b0 ≤ q)) args s 0 0 (fun q => b0 ≤ q)) 5 M 0 0 0 [(0, va_rf l0), (1, .int l1)] [] := by
  unfold wX8_worthOf at h
  refine q_iconst (pc := 0) C 0 dX8_worthOf_0 (by decide) ?_
  refine q_istore_n (pc := 1) C 2 [(2, .int 0), (0, va_rf l0), (1, .int l1)] dX8_worthOf_1 rfl (by decide) (by first | rfl | simp [q_cat, q_catI, q_catJ, q_catR, q_catN]) ?_
  refine q_iconst (pc := 2) C 0 dX8_worthOf_2 (by decide) ?_
  refine q_istore_n (pc := 3) C 3 [(3, .int 0), (2, .int 0), (0, va_rf l0), (1, .int l1)] dX8_worthOf_3 rfl (by decide) (by first | rfl | simp [q_cat, q_catI, q_catJ, q_catR, q_catN]) ?_
  refine q_widen (k2 := 0) (n2 := 0) (by omega) (by omega) ?_
  refine q_lv [2, 3, 1, 0] rfl ?_
  obtain ⟨f9, h⟩ := h
  exact tX8_worthOf_4 C hr hlocks f9 _ _ _ _ _ h
set_option maxRecDepth 100000 in
set_option maxHeartbeats 4000000 in
theorem kX8_worthOf (l : Launch) (G : mG) (b0 : Nat) {b : Nat} {l1 : Int32} {M : mM} {κ : Int32 → mM → Prop} (h : wX8_worthOf κ (some b) l1 M) : Met l yX8_worthOf wsX8_worthOf ({ frames := 3, cells := 0, slots := 0, locals := 64 } : Room) (va_Pc [.ref b, .int l1] (m_Pre G b0 M)) (va_Qi κ (m_B G b0) (fun q => b0 ≤ q)) 0 0 (fun q => b0 ≤ q) := by
  refine m_met (cc := cX8_worthOf) (maxL := 5) (ret := (some .int)) (lv := [(0, va_rf (some b)), (1, .int l1)]) RX8 rfl (by decide +kernel) rfl (by first | exact Nat.le_of_ble_eq_true rfl | simp [lg_sl, q_cat, q_catI, q_catJ, q_catR, q_catN]) (by first | rfl | (simp [lv_args, q_cat, q_catI, q_catJ, q_catR, q_catN]; done) | (simp [lv_args, q_cat, q_catI, q_catJ, q_catR, q_catN]; rfl)) ?_
  intro p e s m args below meth c C hr hlocks hni
  exact tX8_worthOf C hr hlocks h
/-! X8_bringDeclared -/
set_option maxRecDepth 100000 in
set_option maxHeartbeats 4000000 in
theorem tX8_bringDeclared_121 {p : Program} {l : Launch} {e : Env} {s : State} {m : MethodId} {args : Array Value} {below : List Frame} {meth : Method} {c : Code} {G : mG} {b0 : Nat} (C : m_C p s m args c cX8_bringDeclared 8 RX8 wsX8_bringDeclared G b0) (hr : meth.sig.returnType = none) (hlocks : meth.locks = false) {κ : mM → Prop} {R33 : Option Nat → Option Nat → Option Nat → Int32 → Int32 → Int32 → Int32 → mM → Prop} (hR33 : ∀ (l0 : Option Nat) (l1 : Option Nat) (l2 : Option Nat) (l3 : Int32) (l4 : Int32) (l5 : Int32) (l6 : Int32) (M : mM), R33 l0 l1 l2 l3 l4 l5 l6 M → m_W p l e ({ frames := 4, cells := 0, slots := 0, locals := 90 } : Room) s m args below meth c G b0 (MQ below (va_Qv κ (m_B G b0) (fun q => b0 ≤ q)) args s 0 0 (fun q => b0 ≤ q)) 8 M 0 0 33 [(0, va_rf l0), (1, va_rf l1), (2, va_rf l2), (3, .int l3), (4, .int l4), (5, .int l5), (6, .int l6)] []) {l0 : Option Nat} {l1 : Option Nat} {l2 : Option Nat} {l3 : Int32} {l4 : Int32} {l5 : Int32} {l6 : Int32} {M : mM} (h : wX8_bringDeclared_121 κ R33 l0 l1 l2 l3 l4 l5 l6 M) : m_W p l e ({ frames := 4, cells := 0, slots := 0, locals := 90 } : Room) s m args below meth c G b0 (MQ below (va_Qv κ (m_B G b0) (fun q => b0 ≤ q)) args s 0 0 (fun q => b0 ≤ q)) 8 M 0 0 121 [(0, va_rf l0), (1, va_rf l1), (2, va_rf l2), (3, .int l3), (4, .int l4), (5, .int l5), (6, .int l6)] [] := by
  unfold wX8_bringDeclared_121 at h
  refine q_iinc (pc := 121) C 6 6 (l6 + 1) [(6, .int (l6 + 1)), (0, va_rf l0), (1, va_rf l1), (2, va_rf l2), (3, .int l3), (4, .int l4), (5, .int l5)] dX8_bringDeclared_121 rfl (by rfl) (by decide) (by first | rfl | simp [q_cat, q_catI, q_catJ, q_catR, q_catN]) ?_
  refine q_goto (pc := 124) C 33 dX8_bringDeclared_124 (by decide) ?_
  refine q_widen (k2 := 0) (n2 := 0) (by omega) (by omega) ?_
  refine q_lv [1, 2, 3, 4, 5, 6, 0] rfl ?_
  exact hR33 _ _ _ _ _ _ _ _ h
set_option maxRecDepth 100000 in
set_option maxHeartbeats 4000000 in
theorem tX8_bringDeclared_33 {p : Program} {l : Launch} {e : Env} {s : State} {m : MethodId} {args : Array Value} {below : List Frame} {meth : Method} {c : Code} {G : mG} {b0 : Nat} (C : m_C p s m args c cX8_bringDeclared 8 RX8 wsX8_bringDeclared G b0) (hr : meth.sig.returnType = none) (hlocks : meth.locks = false) {κ : mM → Prop} : ∀ (f : Nat) (l0 : Option Nat) (l1 : Option Nat) (l2 : Option Nat) (l3 : Int32) (l4 : Int32) (l5 : Int32) (l6 : Int32) (M : mM), wX8_bringDeclared_33 κ f l0 l1 l2 l3 l4 l5 l6 M → m_W p l e ({ frames := 4, cells := 0, slots := 0, locals := 90 } : Room) s m args below meth c G b0 (MQ below (va_Qv κ (m_B G b0) (fun q => b0 ≤ q)) args s 0 0 (fun q => b0 ≤ q)) 8 M 0 0 33 [(0, va_rf l0), (1, va_rf l1), (2, va_rf l2), (3, .int l3), (4, .int l4), (5, .int l5), (6, .int l6)] [] := by
  intro f
  induction f with
  | zero =>
    intro l0 l1 l2 l3 l4 l5 l6 M h
    exact absurd h (by simp [wX8_bringDeclared_33])
  | succ f ih =>
    intro l0 l1 l2 l3 l4 l5 l6 M h
    rw [wX8_bringDeclared_33] at h
    refine q_iload (pc := 33) C 6 6 dX8_bringDeclared_33 rfl ?_
    refine q_aload_n (pc := 35) C 0 0 dX8_bringDeclared_35 rfl rfl ?_
    refine q_gR (pc := 36) C h (T := TX8) rfl (by decide) (wk_u rfl wm_X8_bringDeclared uq_X8 (by decide +kernel)) (by decide +kernel) (fun _ h9 => h9) dX8_bringDeclared_36 (fun x1 h => ?_)
    obtain ⟨b4, fs9, hb4, hm9, h⟩ := h
    refine q_ci (pc := 39) (q_rV C (st := [.int l6]) (b := b4) (kJx4a65c_size_8abf5 l G b0 h) (cwV 0 C.2.2.2.2.1 gX8_bringDeclared_Jx4a65c_size_8abf5 rfl rfl rfl (by decide +kernel) ⟨Nat.le_of_ble_eq_true rfl, Nat.le_of_ble_eq_true rfl⟩) hm9 rfl rfl rfl (by first | exact Nat.le_of_ble_eq_true rfl | (simp [q_cat, q_catI, q_catJ, q_catR, q_catN]; done)) (by rw [hb4]; first | done | rfl) dX8_bringDeclared_39 ⟨(by first | omega | (dsimp only; omega)), (by first | omega | (dsimp only; omega))⟩) (fun x2 M3 h => ?_)
    refine q_icmp_ge (pc := 42) C 127 dX8_bringDeclared_42 (by decide) (fun c5 => ?_) (fun c5 => ?_)
    · have h := h.1 c5
      refine q_aload_n (pc := 127) C 2 2 dX8_bringDeclared_127 rfl rfl ?_
      refine q_dup (pc := 128) C dX8_bringDeclared_128 (q_cat _) ?_
      refine q_gI (pc := 129) C h (T := TX2) rfl (by decide) (wk_u rfl wm_X8_bringDeclared uq_X2 (by decide +kernel)) (by decide +kernel) (fun _ h9 => h9) dX8_bringDeclared_129 (fun x6 h => ?_)
      refine q_aload_n (pc := 132) C 2 2 dX8_bringDeclared_132 rfl rfl ?_
      refine q_iload (pc := 133) C 4 4 dX8_bringDeclared_133 rfl ?_
      obtain ⟨b9, fs9, hb9, hm9, h⟩ := h
      refine q_ci (pc := 135) (q_rV C (st := [.int x6, va_rf l2]) (b := b9) (kX2_dutyOn l G b0 h) (cwV 1 C.2.2.2.2.1 gX8_bringDeclared_X2_dutyOn rfl rfl rfl (by decide +kernel) ⟨Nat.le_of_ble_eq_true rfl, Nat.le_of_ble_eq_true rfl⟩) hm9 rfl rfl rfl (by first | exact Nat.le_of_ble_eq_true rfl | (simp [q_cat, q_catI, q_catJ, q_catR, q_catN]; done)) (by rw [hb9]; first | done | rfl) dX8_bringDeclared_135 ⟨(by first | omega | (dsimp only; omega)), (by first | omega | (dsimp only; omega))⟩) (fun x7 M8 h => ?_)
      refine q_iadd (pc := 138) C dX8_bringDeclared_138 ?_
      refine q_p (pc := 139) C h .int (T := TX2) tyX2 tyX2_ok nmX2 rfl (by decide +kernel) rfl rfl rfl (by decide) (wk_u rfl wm_X8_bringDeclared uq_X2 (by decide +kernel)) (by decide +kernel) (fun _ h9 => h9) rfl dX8_bringDeclared_139 (fun M10 h => ?_)
      exact q_vret (pc := 142) C hr hlocks h dX8_bringDeclared_142 (by omega) (by omega)
    · have h := h.2 c5
      refine q_aload_n (pc := 45) C 0 0 dX8_bringDeclared_45 rfl rfl ?_
      refine q_gR (pc := 46) C h (T := TX8) rfl (by decide) (wk_u rfl wm_X8_bringDeclared uq_X8 (by decide +kernel)) (by decide +kernel) (fun _ h9 => h9) dX8_bringDeclared_46 (fun x11 h => ?_)
      refine q_iload (pc := 49) C 6 6 dX8_bringDeclared_49 rfl ?_
      obtain ⟨b14, fs9, hb14, hm9, h⟩ := h
      refine q_cq (pc := 51) (q_rV C (st := []) (b := b14) (kJx4a65c_get_915e3 l G b0 h) (cwV 1 C.2.2.2.2.1 gX8_bringDeclared_Jx4a65c_get_915e3 rfl rfl rfl (by decide +kernel) ⟨Nat.le_of_ble_eq_true rfl, Nat.le_of_ble_eq_true rfl⟩) hm9 rfl rfl rfl (by first | exact Nat.le_of_ble_eq_true rfl | (simp [q_cat, q_catI, q_catJ, q_catR, q_catN]; done)) (by rw [hb14]; first | done | rfl) dX8_bringDeclared_51 ⟨(by first | omega | (dsimp only; omega)), (by first | omega | (dsimp only; omega))⟩) (fun x12 M13 h => ?_)
      refine q_cast (pc := 54) C h rfl rfl (by decide +kernel) dX8_bringDeclared_54 (fun h => ?_)
      refine q_astore (pc := 57) C 7 [(7, va_rf x12), (0, va_rf l0), (1, va_rf l1), (2, va_rf l2), (3, .int l3), (4, .int l4), (5, .int l5), (6, .int l6)] dX8_bringDeclared_57 (by decide) (by first | rfl | simp [q_cat, q_catI, q_catJ, q_catR, q_catN]) ?_
      refine q_aload (pc := 59) C 7 0 dX8_bringDeclared_59 rfl ?_
      refine q_aload_n (pc := 61) C 1 2 dX8_bringDeclared_61 rfl rfl ?_
      refine q_gI (pc := 62) C h (T := TX6) rfl (by decide) (wk_u rfl wm_X8_bringDeclared uq_X6 (by decide +kernel)) (by decide +kernel) (fun _ h9 => h9) dX8_bringDeclared_62 (fun x15 h => ?_)
      obtain ⟨b18, fs9, hb18, hm9, h⟩ := h
      refine q_ci (pc := 65) (q_rV C (st := []) (b := b18) (kX3_isIn l G b0 h) (cwV 1 C.2.2.2.2.1 gX8_bringDeclared_X3_isIn rfl rfl rfl (by decide +kernel) ⟨Nat.le_of_ble_eq_true rfl, Nat.le_of_ble_eq_true rfl⟩) hm9 rfl rfl rfl (by first | exact Nat.le_of_ble_eq_true rfl | (simp [q_cat, q_catI, q_catJ, q_catR, q_catN]; done)) (by rw [hb18]; first | done | rfl) dX8_bringDeclared_65 ⟨(by first | omega | (dsimp only; omega)), (by first | omega | (dsimp only; omega))⟩) (fun x16 M17 h => ?_)
      refine q_if_ne (pc := 68) C 74 dX8_bringDeclared_68 (by decide) (fun c19 => ?_) (fun c19 => ?_)
      · have h := h.2 c19
        refine q_aload (pc := 74) C 7 0 dX8_bringDeclared_74 rfl ?_
        refine q_iload_n (pc := 76) C 3 4 dX8_bringDeclared_76 rfl rfl ?_
        obtain ⟨b22, fs9, hb22, hm9, h⟩ := h
        refine q_ci (pc := 77) (q_rV C (st := []) (b := b22) (kX3_isIn l G b0 h) (cwV 1 C.2.2.2.2.1 gX8_bringDeclared_X3_isIn rfl rfl rfl (by decide +kernel) ⟨Nat.le_of_ble_eq_true rfl, Nat.le_of_ble_eq_true rfl⟩) hm9 rfl rfl rfl (by first | exact Nat.le_of_ble_eq_true rfl | (simp [q_cat, q_catI, q_catJ, q_catR, q_catN]; done)) (by rw [hb22]; first | done | rfl) dX8_bringDeclared_77 ⟨(by first | omega | (dsimp only; omega)), (by first | omega | (dsimp only; omega))⟩) (fun x20 M21 h => ?_)
        refine q_if_ne (pc := 80) C 96 dX8_bringDeclared_80 (by decide) (fun c23 => ?_) (fun c23 => ?_)
        · have h := h.2 c23
          refine q_aload (pc := 96) C 7 0 dX8_bringDeclared_96 rfl ?_
          refine q_iload (pc := 98) C 5 6 dX8_bringDeclared_98 rfl ?_
          refine q_p (pc := 100) C h .int (T := TX3) tyX3 tyX3_ok nmX3 rfl (by decide +kernel) rfl rfl rfl (by decide) (wk_u rfl wm_X8_bringDeclared uq_X3 (by decide +kernel)) (by decide +kernel) (fun _ h9 => h9) rfl dX8_bringDeclared_100 (fun M24 h => ?_)
          refine q_aload (pc := 103) C 7 0 dX8_bringDeclared_103 rfl ?_
          obtain ⟨b27, fs9, hb27, hm9, h⟩ := h
          refine q_ci (pc := 105) (q_rV C (st := []) (b := b27) (kX3_isNightmare l G b0 h) (cwV 0 C.2.2.2.2.1 gX8_bringDeclared_X3_isNightmare rfl rfl rfl (by decide +kernel) ⟨Nat.le_of_ble_eq_true rfl, Nat.le_of_ble_eq_true rfl⟩) hm9 rfl rfl rfl (by first | exact Nat.le_of_ble_eq_true rfl | (simp [q_cat, q_catI, q_catJ, q_catR, q_catN]; done)) (by rw [hb27]; first | done | rfl) dX8_bringDeclared_105 ⟨(by first | omega | (dsimp only; omega)), (by first | omega | (dsimp only; omega))⟩) (fun x25 M26 h => ?_)
          refine q_if_eq (pc := 108) C 121 dX8_bringDeclared_108 (by decide) (fun c28 => ?_) (fun c28 => ?_)
          · have h := h.1 c28
            refine q_widen (k2 := 0) (n2 := 0) (by omega) (by omega) ?_
            refine q_lv [1, 2, 3, 4, 5, 6, 7] rfl ?_
            exact tX8_bringDeclared_121 C hr hlocks ih h
          · have h := h.2 c28
            refine q_aload_n (pc := 111) C 2 3 dX8_bringDeclared_111 rfl rfl ?_
            refine q_dup (pc := 112) C dX8_bringDeclared_112 (q_cat _) ?_
            refine q_gI (pc := 113) C h (T := TX2) rfl (by decide) (wk_u rfl wm_X8_bringDeclared uq_X2 (by decide +kernel)) (by decide +kernel) (fun _ h9 => h9) dX8_bringDeclared_113 (fun x29 h => ?_)
            refine q_iconst (pc := 116) C 1 dX8_bringDeclared_116 (by decide) ?_
            refine q_iadd (pc := 117) C dX8_bringDeclared_117 ?_
            refine q_p (pc := 118) C h .int (T := TX2) tyX2 tyX2_ok nmX2 rfl (by decide +kernel) rfl rfl rfl (by decide) (wk_u rfl wm_X8_bringDeclared uq_X2 (by decide +kernel)) (by decide +kernel) (fun _ h9 => h9) rfl dX8_bringDeclared_118 (fun M30 h => ?_)
            refine q_widen (k2 := 0) (n2 := 0) (by omega) (by omega) ?_
            refine q_lv [1, 2, 3, 4, 5, 6, 7] rfl ?_
            exact tX8_bringDeclared_121 C hr hlocks ih h
        · have h := h.1 c23
          refine q_aload (pc := 83) C 7 0 dX8_bringDeclared_83 rfl ?_
          refine q_aload_n (pc := 85) C 1 2 dX8_bringDeclared_85 rfl rfl ?_
          refine q_gR (pc := 86) C h (T := TX6) rfl (by decide) (wk_u rfl wm_X8_bringDeclared uq_X6 (by decide +kernel)) (by decide +kernel) (fun _ h9 => h9) dX8_bringDeclared_86 (fun x31 h => ?_)
          refine q_iconst (pc := 89) C 5 dX8_bringDeclared_89 (by decide) ?_
          obtain ⟨b33, fs9, hb33, hm9, h⟩ := h
          refine q_cv (pc := 90) (q_rV C (st := []) (b := b33) (kX3_putInStore l G b0 h) (cwV 2 C.2.2.2.2.1 gX8_bringDeclared_X3_putInStore rfl rfl rfl (by decide +kernel) ⟨Nat.le_of_ble_eq_true rfl, Nat.le_of_ble_eq_true rfl⟩) hm9 rfl rfl rfl (by first | exact Nat.le_of_ble_eq_true rfl | (simp [q_cat, q_catI, q_catJ, q_catR, q_catN]; done)) (by rw [hb33]; first | done | rfl) dX8_bringDeclared_90 ⟨(by first | omega | (dsimp only; omega)), (by first | omega | (dsimp only; omega))⟩) (fun M32 h => ?_)
          refine q_goto (pc := 93) C 121 dX8_bringDeclared_93 (by decide) ?_
          refine q_widen (k2 := 0) (n2 := 0) (by omega) (by omega) ?_
          refine q_lv [1, 2, 3, 4, 5, 6, 7] rfl ?_
          exact tX8_bringDeclared_121 C hr hlocks ih h
      · have h := h.1 c19
        refine q_goto (pc := 71) C 121 dX8_bringDeclared_71 (by decide) ?_
        refine q_widen (k2 := 0) (n2 := 0) (by omega) (by omega) ?_
        refine q_lv [1, 2, 3, 4, 5, 6, 7] rfl ?_
        exact tX8_bringDeclared_121 C hr hlocks ih h
set_option maxRecDepth 100000 in
set_option maxHeartbeats 4000000 in
theorem tX8_bringDeclared_28 {p : Program} {l : Launch} {e : Env} {s : State} {m : MethodId} {args : Array Value} {below : List Frame} {meth : Method} {c : Code} {G : mG} {b0 : Nat} (C : m_C p s m args c cX8_bringDeclared 8 RX8 wsX8_bringDeclared G b0) (hr : meth.sig.returnType = none) (hlocks : meth.locks = false) {κ : mM → Prop} {l0 : Option Nat} {l1 : Option Nat} {l2 : Option Nat} {l3 : Int32} {l4 : Int32} {s0 : Int32} {M : mM} (h : wX8_bringDeclared_28 κ l0 l1 l2 l3 l4 s0 M) : m_W p l e ({ frames := 4, cells := 0, slots := 0, locals := 90 } : Room) s m args below meth c G b0 (MQ below (va_Qv κ (m_B G b0) (fun q => b0 ≤ q)) args s 0 0 (fun q => b0 ≤ q)) 8 M 0 0 28 [(0, va_rf l0), (1, va_rf l1), (2, va_rf l2), (3, .int l3), (4, .int l4)] [.int s0] := by
  unfold wX8_bringDeclared_28 at h
  refine q_istore (pc := 28) C 5 [(5, .int s0), (0, va_rf l0), (1, va_rf l1), (2, va_rf l2), (3, .int l3), (4, .int l4)] dX8_bringDeclared_28 (by decide) (by first | rfl | simp [q_cat, q_catI, q_catJ, q_catR, q_catN]) ?_
  refine q_iconst (pc := 30) C 0 dX8_bringDeclared_30 (by decide) ?_
  refine q_istore (pc := 31) C 6 [(6, .int 0), (5, .int s0), (0, va_rf l0), (1, va_rf l1), (2, va_rf l2), (3, .int l3), (4, .int l4)] dX8_bringDeclared_31 (by decide) (by first | rfl | simp [q_cat, q_catI, q_catJ, q_catR, q_catN]) ?_
  refine q_widen (k2 := 0) (n2 := 0) (by omega) (by omega) ?_
  refine q_lv [2, 3, 4, 5, 6, 1, 0] rfl ?_
  obtain ⟨f9, h⟩ := h
  exact tX8_bringDeclared_33 C hr hlocks f9 _ _ _ _ _ _ _ _ h
set_option maxRecDepth 100000 in
set_option maxHeartbeats 4000000 in
theorem tX8_bringDeclared {p : Program} {l : Launch} {e : Env} {s : State} {m : MethodId} {args : Array Value} {below : List Frame} {meth : Method} {c : Code} {G : mG} {b0 : Nat} (C : m_C p s m args c cX8_bringDeclared 8 RX8 wsX8_bringDeclared G b0) (hr : meth.sig.returnType = none) (hlocks : meth.locks = false) {κ : mM → Prop} {l0 : Option Nat} {l1 : Option Nat} {l2 : Option Nat} {M : mM} (h : wX8_bringDeclared κ l0 l1 l2 M) : m_W p l e ({ frames := 4, cells := 0, slots := 0, locals := 90 } : Room) s m args below meth c G b0 (MQ below (va_Qv κ (m_B G b0) (fun q => b0 ≤ q)) args s 0 0 (fun q => b0 ≤ q)) 8 M 0 0 0 [(0, va_rf l0), (1, va_rf l1), (2, va_rf l2)] [] := by
  unfold wX8_bringDeclared at h
  refine q_aload_n (pc := 0) C 0 0 dX8_bringDeclared_0 rfl rfl ?_
  refine q_aload_n (pc := 1) C 1 1 dX8_bringDeclared_1 rfl rfl ?_
  refine q_aload_n (pc := 2) C 2 2 dX8_bringDeclared_2 rfl rfl ?_
  obtain ⟨b3, fs9, hb3, hm9, h⟩ := h
  refine q_ci (pc := 3) (q_rV C (st := []) (b := b3) (kX8_partsThatComeIn l G b0 h) (cwV 2 C.2.2.2.2.1 gX8_bringDeclared_X8_partsThatComeIn rfl rfl rfl (by decide +kernel) ⟨Nat.le_of_ble_eq_true rfl, Nat.le_of_ble_eq_true rfl⟩) hm9 rfl rfl rfl (by first | exact Nat.le_of_ble_eq_true rfl | (simp [q_cat, q_catI, q_catJ, q_catR, q_catN]; done)) (by rw [hb3]; first | done | rfl) dX8_bringDeclared_3 ⟨(by first | omega | (dsimp only; omega)), (by first | omega | (dsimp only; omega))⟩) (fun x1 M2 h => ?_)
  refine q_istore_n (pc := 6) C 3 [(3, .int x1), (0, va_rf l0), (1, va_rf l1), (2, va_rf l2)] dX8_bringDeclared_6 rfl (by decide) (by first | rfl | simp [q_cat, q_catI, q_catJ, q_catR, q_catN]) ?_
  refine q_aload_n (pc := 7) C 0 1 dX8_bringDeclared_7 rfl rfl ?_
  refine q_iload_n (pc := 8) C 3 0 dX8_bringDeclared_8 rfl rfl ?_
  obtain ⟨b6, fs9, hb6, hm9, h⟩ := h
  refine q_ci (pc := 9) (q_rV C (st := []) (b := b6) (kX8_worthOf l G b0 h) (cwV 1 C.2.2.2.2.1 gX8_bringDeclared_X8_worthOf rfl rfl rfl (by decide +kernel) ⟨Nat.le_of_ble_eq_true rfl, Nat.le_of_ble_eq_true rfl⟩) hm9 rfl rfl rfl (by first | exact Nat.le_of_ble_eq_true rfl | (simp [q_cat, q_catI, q_catJ, q_catR, q_catN]; done)) (by rw [hb6]; first | done | rfl) dX8_bringDeclared_9 ⟨(by first | omega | (dsimp only; omega)), (by first | omega | (dsimp only; omega))⟩) (fun x4 M5 h => ?_)
  refine q_istore (pc := 12) C 4 [(4, .int x4), (3, .int x1), (0, va_rf l0), (1, va_rf l1), (2, va_rf l2)] dX8_bringDeclared_12 (by decide) (by first | rfl | simp [q_cat, q_catI, q_catJ, q_catR, q_catN]) ?_
  refine q_iload (pc := 14) C 4 0 dX8_bringDeclared_14 rfl ?_
  refine q_aload_n (pc := 16) C 2 4 dX8_bringDeclared_16 rfl rfl ?_
  refine q_gI (pc := 17) C h (T := TX2) rfl (by decide) (wk_u rfl wm_X8_bringDeclared uq_X2 (by decide +kernel)) (by decide +kernel) (fun _ h9 => h9) dX8_bringDeclared_17 (fun x7 h => ?_)
  refine q_icmp_gt (pc := 20) C 27 dX8_bringDeclared_20 (by decide) (fun c8 => ?_) (fun c8 => ?_)
  · have h := h.1 c8
    refine q_iconst (pc := 27) C 1 dX8_bringDeclared_27 (by decide) ?_
    refine q_widen (k2 := 0) (n2 := 0) (by omega) (by omega) ?_
    refine q_lv [2, 3, 4, 1, 0] rfl ?_
    exact tX8_bringDeclared_28 C hr hlocks h
  · have h := h.2 c8
    refine q_iconst (pc := 23) C 2 dX8_bringDeclared_23 (by decide) ?_
    refine q_goto (pc := 24) C 28 dX8_bringDeclared_24 (by decide) ?_
    refine q_widen (k2 := 0) (n2 := 0) (by omega) (by omega) ?_
    refine q_lv [2, 3, 4, 1, 0] rfl ?_
    exact tX8_bringDeclared_28 C hr hlocks h
set_option maxRecDepth 100000 in
set_option maxHeartbeats 4000000 in
theorem kX8_bringDeclared (l : Launch) (G : mG) (b0 : Nat) {b : Nat} {l1 : Option Nat} {l2 : Option Nat} {M : mM} {κ : mM → Prop} (h : wX8_bringDeclared κ (some b) l1 l2 M) : Met l yX8_bringDeclared wsX8_bringDeclared ({ frames := 4, cells := 0, slots := 0, locals := 90 } : Room) (va_Pc [.ref b, va_rf l1, va_rf l2] (m_Pre G b0 M)) (va_Qv κ (m_B G b0) (fun q => b0 ≤ q)) 0 0 (fun q => b0 ≤ q) := by
  refine m_met (cc := cX8_bringDeclared) (maxL := 8) (ret := none) (lv := [(0, va_rf (some b)), (1, va_rf l1), (2, va_rf l2)]) RX8 rfl (by decide +kernel) rfl (by first | exact Nat.le_of_ble_eq_true rfl | simp [lg_sl, q_cat, q_catI, q_catJ, q_catR, q_catN]) (by first | rfl | (simp [lv_args, q_cat, q_catI, q_catJ, q_catR, q_catN]; done) | (simp [lv_args, q_cat, q_catI, q_catJ, q_catR, q_catN]; rfl)) ?_
  intro p e s m args below meth c C hr hlocks hni
  exact tX8_bringDeclared C hr hlocks h
/-! X8_comeThrough -/
set_option maxRecDepth 100000 in
set_option maxHeartbeats 4000000 in
theorem tX8_comeThrough_38 {p : Program} {l : Launch} {e : Env} {s : State} {m : MethodId} {args : Array Value} {below : List Frame} {meth : Method} {c : Code} {G : mG} {b0 : Nat} (C : m_C p s m args c cX8_comeThrough 6 RX8 wsX8_comeThrough G b0) (hr : meth.sig.returnType = (some .int)) (hlocks : meth.locks = false) {g : Nat → Nat} (hg : G.2.2 = g) {κ : Int32 → mM → Prop} {l0 : Option Nat} {l1 : Option Nat} {l3 : Option Nat} {s0 : Int32} {M : mM} (h : wX8_comeThrough_38 g κ l0 l1 l3 s0 M) : m_W p l e ({ frames := 9, cells := 48, slots := 1248, locals := 221 } : Room) s m args below meth c G b0 (MQ below (va_Qi κ (m_B G b0) (fun q => b0 ≤ q)) args s 48 1248 (fun q => b0 ≤ q)) 6 M 0 0 38 [(0, va_rf l0), (1, va_rf l1), (3, va_rf l3)] [.int s0] := by
  unfold wX8_comeThrough_38 at h
  refine q_istore (pc := 38) C 4 [(4, .int s0), (0, va_rf l0), (1, va_rf l1), (3, va_rf l3)] dX8_comeThrough_38 (by decide) (by first | rfl | simp [q_cat, q_catI, q_catJ, q_catR, q_catN]) ?_
  refine q_aload_n (pc := 40) C 0 1 dX8_comeThrough_40 rfl rfl ?_
  refine q_aload_n (pc := 41) C 1 2 dX8_comeThrough_41 rfl rfl ?_
  refine q_aload_n (pc := 42) C 3 3 dX8_comeThrough_42 rfl rfl ?_
  refine q_iload (pc := 43) C 4 0 dX8_comeThrough_43 rfl ?_
  obtain ⟨b3, fs9, hb3, hm9, h⟩ := h
  refine q_ci (pc := 45) (q_rV C (st := []) (b := b3) (kX8_bringHidden l G b0 hg h) (cwV 3 C.2.2.2.2.1 gX8_comeThrough_X8_bringHidden rfl rfl rfl (by decide +kernel) ⟨Nat.le_of_ble_eq_true rfl, Nat.le_of_ble_eq_true rfl⟩) hm9 rfl rfl rfl (by first | exact Nat.le_of_ble_eq_true rfl | (simp [q_cat, q_catI, q_catJ, q_catR, q_catN]; done)) (by rw [hb3]; first | done | rfl) dX8_comeThrough_45 ⟨(by first | omega | (dsimp only; omega)), (by first | omega | (dsimp only; omega))⟩) (fun x1 M2 h => ?_)
  refine q_istore (pc := 48) C 5 [(5, .int x1), (4, .int s0), (0, va_rf l0), (1, va_rf l1), (3, va_rf l3)] dX8_comeThrough_48 (by decide) (by first | rfl | simp [q_cat, q_catI, q_catJ, q_catR, q_catN]) ?_
  refine q_aload_n (pc := 50) C 0 2 dX8_comeThrough_50 rfl rfl ?_
  refine q_aload_n (pc := 51) C 1 3 dX8_comeThrough_51 rfl rfl ?_
  refine q_aload_n (pc := 52) C 3 4 dX8_comeThrough_52 rfl rfl ?_
  obtain ⟨b5, fs9, hb5, hm9, h⟩ := h
  refine q_cv (pc := 53) (q_rV C (st := []) (b := b5) (kX8_bringDeclared l G b0 h) (cwV 2 C.2.2.2.2.1 gX8_comeThrough_X8_bringDeclared rfl rfl rfl (by decide +kernel) ⟨Nat.le_of_ble_eq_true rfl, Nat.le_of_ble_eq_true rfl⟩) hm9 rfl rfl rfl (by first | exact Nat.le_of_ble_eq_true rfl | (simp [q_cat, q_catI, q_catJ, q_catR, q_catN]; done)) (by rw [hb5]; first | done | rfl) dX8_comeThrough_53 ⟨(by first | omega | (dsimp only; omega)), (by first | omega | (dsimp only; omega))⟩) (fun M4 h => ?_)
  refine q_aload_n (pc := 56) C 1 3 dX8_comeThrough_56 rfl rfl ?_
  refine q_aload_n (pc := 57) C 3 4 dX8_comeThrough_57 rfl rfl ?_
  refine q_p (pc := 58) C h (.object "Lullabygate$Land") (T := TX6) tyX6 tyX6_ok nmX6 rfl (by decide +kernel) (q_nrO _ _) (q_ftO _ _) rfl (by decide) (wk_u bm_X8_comeThrough wm_X8_comeThrough uq_X6 (by decide +kernel)) (by decide +kernel) (fun _ h9 => h9) rfl dX8_comeThrough_58 (fun M6 h => ?_)
  refine q_aload_n (pc := 61) C 1 3 dX8_comeThrough_61 rfl rfl ?_
  refine q_null (pc := 62) C dX8_comeThrough_62 ?_
  refine q_p (pc := 63) C h (.object "Lullabygate$Pass") (T := TX6) tyX6 tyX6_ok nmX6 rfl (by decide +kernel) (q_nrO _ _) (q_ftO _ _) rfl (by decide) (wk_u bm_X8_comeThrough wm_X8_comeThrough uq_X6 (by decide +kernel)) (by decide +kernel) (fun _ h9 => h9) rfl dX8_comeThrough_63 (fun M7 h => ?_)
  refine q_iload (pc := 66) C 5 0 dX8_comeThrough_66 rfl ?_
  exact q_iret (pc := 68) C hr hlocks h dX8_comeThrough_68 (by omega) (by omega)
set_option maxRecDepth 100000 in
set_option maxHeartbeats 4000000 in
theorem tX8_comeThrough_37 {p : Program} {l : Launch} {e : Env} {s : State} {m : MethodId} {args : Array Value} {below : List Frame} {meth : Method} {c : Code} {G : mG} {b0 : Nat} (C : m_C p s m args c cX8_comeThrough 6 RX8 wsX8_comeThrough G b0) (hr : meth.sig.returnType = (some .int)) (hlocks : meth.locks = false) {g : Nat → Nat} (hg : G.2.2 = g) {κ : Int32 → mM → Prop} {l0 : Option Nat} {l1 : Option Nat} {l3 : Option Nat} {M : mM} (h : wX8_comeThrough_37 g κ l0 l1 l3 M) : m_W p l e ({ frames := 9, cells := 48, slots := 1248, locals := 221 } : Room) s m args below meth c G b0 (MQ below (va_Qi κ (m_B G b0) (fun q => b0 ≤ q)) args s 48 1248 (fun q => b0 ≤ q)) 6 M 0 0 37 [(0, va_rf l0), (1, va_rf l1), (3, va_rf l3)] [] := by
  unfold wX8_comeThrough_37 at h
  refine q_iconst (pc := 37) C 0 dX8_comeThrough_37 (by decide) ?_
  refine q_widen (k2 := 0) (n2 := 0) (by omega) (by omega) ?_
  refine q_lv [0, 1, 2] rfl ?_
  exact tX8_comeThrough_38 C hr hlocks hg h
set_option maxRecDepth 100000 in
set_option maxHeartbeats 4000000 in
theorem tX8_comeThrough {p : Program} {l : Launch} {e : Env} {s : State} {m : MethodId} {args : Array Value} {below : List Frame} {meth : Method} {c : Code} {G : mG} {b0 : Nat} (C : m_C p s m args c cX8_comeThrough 6 RX8 wsX8_comeThrough G b0) (hr : meth.sig.returnType = (some .int)) (hlocks : meth.locks = false) {g : Nat → Nat} (hg : G.2.2 = g) {κ : Int32 → mM → Prop} {l0 : Option Nat} {l1 : Option Nat} {l2 : Option Nat} {M : mM} (h : wX8_comeThrough g κ l0 l1 l2 M) : m_W p l e ({ frames := 9, cells := 48, slots := 1248, locals := 221 } : Room) s m args below meth c G b0 (MQ below (va_Qi κ (m_B G b0) (fun q => b0 ≤ q)) args s 48 1248 (fun q => b0 ≤ q)) 6 M 0 0 0 [(0, va_rf l0), (1, va_rf l1), (2, va_rf l2)] [] := by
  unfold wX8_comeThrough at h
  refine q_aload_n (pc := 0) C 2 2 dX8_comeThrough_0 rfl rfl ?_
  refine q_aload_n (pc := 1) C 1 1 dX8_comeThrough_1 rfl rfl ?_
  refine q_gR (pc := 2) C h (T := TX6) rfl (by decide) (wk_u bm_X8_comeThrough wm_X8_comeThrough uq_X6 (by decide +kernel)) (by decide +kernel) (fun _ h9 => h9) dX8_comeThrough_2 (fun x1 h => ?_)
  obtain ⟨b4, fs9, hb4, hm9, h⟩ := h
  refine q_cq (pc := 5) (q_rV C (st := []) (b := b4) (kX0_across l G b0 h) (cwV 1 C.2.2.2.2.1 gX8_comeThrough_X0_across rfl rfl rfl (by decide +kernel) ⟨Nat.le_of_ble_eq_true rfl, Nat.le_of_ble_eq_true rfl⟩) hm9 rfl rfl rfl (by first | exact Nat.le_of_ble_eq_true rfl | (simp [q_cat, q_catI, q_catJ, q_catR, q_catN]; done)) (by rw [hb4]; first | done | rfl) dX8_comeThrough_5 ⟨(by first | omega | (dsimp only; omega)), (by first | omega | (dsimp only; omega))⟩) (fun x2 M3 h => ?_)
  refine q_astore_n (pc := 8) C 3 [(3, va_rf x2), (0, va_rf l0), (1, va_rf l1), (2, va_rf l2)] dX8_comeThrough_8 rfl (by decide) (by first | rfl | simp [q_cat, q_catI, q_catJ, q_catR, q_catN]) ?_
  refine q_aload_n (pc := 9) C 2 3 dX8_comeThrough_9 rfl rfl ?_
  obtain ⟨b7, fs9, hb7, hm9, h⟩ := h
  refine q_ci (pc := 10) (q_rV C (st := []) (b := b7) (kX0_dozes l G b0 h) (cwV 0 C.2.2.2.2.1 gX8_comeThrough_X0_dozes rfl rfl rfl (by decide +kernel) ⟨Nat.le_of_ble_eq_true rfl, Nat.le_of_ble_eq_true rfl⟩) hm9 rfl rfl rfl (by first | exact Nat.le_of_ble_eq_true rfl | (simp [q_cat, q_catI, q_catJ, q_catR, q_catN]; done)) (by rw [hb7]; first | done | rfl) dX8_comeThrough_10 ⟨(by first | omega | (dsimp only; omega)), (by first | omega | (dsimp only; omega))⟩) (fun x5 M6 h => ?_)
  refine q_if_ne (pc := 13) C 37 dX8_comeThrough_13 (by decide) (fun c8 => ?_) (fun c8 => ?_)
  · have h := h.2 c8
    refine q_widen (k2 := 0) (n2 := 0) (by omega) (by omega) ?_
    refine q_lv [1, 2, 0] rfl ?_
    exact tX8_comeThrough_37 C hr hlocks hg h
  · have h := h.1 c8
    refine q_aload_n (pc := 16) C 0 1 dX8_comeThrough_16 rfl rfl ?_
    refine q_gR (pc := 17) C h (T := TX8) rfl (by decide) (wk_u bm_X8_comeThrough wm_X8_comeThrough uq_X8 (by decide +kernel)) (by decide +kernel) (fun _ h9 => h9) dX8_comeThrough_17 (fun x9 h => ?_)
    obtain ⟨b12, fs9, hb12, hm9, h⟩ := h
    refine q_ci (pc := 20) (q_rV C (st := []) (b := b12) (kX5_draw l G b0 h) (cwV 0 C.2.2.2.2.1 gX8_comeThrough_X5_draw rfl rfl rfl (by decide +kernel) ⟨Nat.le_of_ble_eq_true rfl, Nat.le_of_ble_eq_true rfl⟩) hm9 rfl rfl rfl (by first | exact Nat.le_of_ble_eq_true rfl | (simp [q_cat, q_catI, q_catJ, q_catR, q_catN]; done)) (by rw [hb12]; first | done | rfl) dX8_comeThrough_20 ⟨(by first | omega | (dsimp only; omega)), (by first | omega | (dsimp only; omega))⟩) (fun x10 M11 h => ?_)
    refine q_bipush (pc := 23) C 10 dX8_comeThrough_23 (by decide) ?_
    refine q_irem (pc := 25) C dX8_comeThrough_25 (by decide) ?_
    refine m_stk (st2 := .int (m_rem x10 10) :: _) rfl ?_
    refine q_aload_n (pc := 26) C 2 3 dX8_comeThrough_26 rfl rfl ?_
    refine q_gI (pc := 27) C h (T := TX0) rfl (by decide) (wk_u bm_X8_comeThrough wm_X8_comeThrough uq_X0 (by decide +kernel)) (by decide +kernel) (fun _ h9 => h9) dX8_comeThrough_27 (fun x13 h => ?_)
    refine q_icmp_ge (pc := 30) C 37 dX8_comeThrough_30 (by decide) (fun c14 => ?_) (fun c14 => ?_)
    · have h := h.1 c14
      refine q_widen (k2 := 0) (n2 := 0) (by omega) (by omega) ?_
      refine q_lv [1, 2, 0] rfl ?_
      exact tX8_comeThrough_37 C hr hlocks hg h
    · have h := h.2 c14
      refine q_iconst (pc := 33) C 1 dX8_comeThrough_33 (by decide) ?_
      refine q_goto (pc := 34) C 38 dX8_comeThrough_34 (by decide) ?_
      refine q_widen (k2 := 0) (n2 := 0) (by omega) (by omega) ?_
      refine q_lv [1, 2, 0] rfl ?_
      exact tX8_comeThrough_38 C hr hlocks hg h
set_option maxRecDepth 100000 in
set_option maxHeartbeats 4000000 in
theorem kX8_comeThrough (l : Launch) (G : mG) (b0 : Nat) {g : Nat → Nat} (hg : G.2.2 = g) {b : Nat} {l1 : Option Nat} {l2 : Option Nat} {M : mM} {κ : Int32 → mM → Prop} (h : wX8_comeThrough g κ (some b) l1 l2 M) : Met l yX8_comeThrough wsX8_comeThrough ({ frames := 9, cells := 48, slots := 1248, locals := 221 } : Room) (va_Pc [.ref b, va_rf l1, va_rf l2] (m_Pre G b0 M)) (va_Qi κ (m_B G b0) (fun q => b0 ≤ q)) 48 1248 (fun q => b0 ≤ q) := by
  refine m_met (cc := cX8_comeThrough) (maxL := 6) (ret := (some .int)) (lv := [(0, va_rf (some b)), (1, va_rf l1), (2, va_rf l2)]) RX8 rfl (by decide +kernel) rfl (by first | exact Nat.le_of_ble_eq_true rfl | simp [lg_sl, q_cat, q_catI, q_catJ, q_catR, q_catN]) (by first | rfl | (simp [lv_args, q_cat, q_catI, q_catJ, q_catR, q_catN]; done) | (simp [lv_args, q_cat, q_catI, q_catJ, q_catR, q_catN]; rfl)) ?_
  intro p e s m args below meth c C hr hlocks hni
  exact tX8_comeThrough C hr hlocks hg h
/-! X8_wake -/
set_option maxRecDepth 100000 in
set_option maxHeartbeats 4000000 in
theorem tX8_wake_43 {p : Program} {l : Launch} {e : Env} {s : State} {m : MethodId} {args : Array Value} {below : List Frame} {meth : Method} {c : Code} {G : mG} {b0 : Nat} (C : m_C p s m args c cX8_wake 4 RX8 wsX8_wake G b0) (hr : meth.sig.returnType = none) (hlocks : meth.locks = false) {κ : mM → Prop} {R7 : Option Nat → Option Nat → Int32 → mM → Prop} (hR7 : ∀ (l0 : Option Nat) (l1 : Option Nat) (l2 : Int32) (M : mM), R7 l0 l1 l2 M → m_W p l e ({ frames := 3, cells := 0, slots := 0, locals := 64 } : Room) s m args below meth c G b0 (MQ below (va_Qv κ (m_B G b0) (fun q => b0 ≤ q)) args s 0 0 (fun q => b0 ≤ q)) 4 M 0 0 7 [(0, va_rf l0), (1, va_rf l1), (2, .int l2)] []) {l0 : Option Nat} {l1 : Option Nat} {l2 : Int32} {M : mM} (h : wX8_wake_43 κ R7 l0 l1 l2 M) : m_W p l e ({ frames := 3, cells := 0, slots := 0, locals := 64 } : Room) s m args below meth c G b0 (MQ below (va_Qv κ (m_B G b0) (fun q => b0 ≤ q)) args s 0 0 (fun q => b0 ≤ q)) 4 M 0 0 43 [(0, va_rf l0), (1, va_rf l1), (2, .int l2)] [] := by
  unfold wX8_wake_43 at h
  refine q_iinc (pc := 43) C 2 2 (l2 + 1) [(2, .int (l2 + 1)), (0, va_rf l0), (1, va_rf l1)] dX8_wake_43 rfl (by rfl) (by decide) (by first | rfl | simp [q_cat, q_catI, q_catJ, q_catR, q_catN]) ?_
  refine q_goto (pc := 46) C 7 dX8_wake_46 (by decide) ?_
  refine q_widen (k2 := 0) (n2 := 0) (by omega) (by omega) ?_
  refine q_lv [1, 2, 0] rfl ?_
  exact hR7 _ _ _ _ h
set_option maxRecDepth 100000 in
set_option maxHeartbeats 4000000 in
theorem tX8_wake_7 {p : Program} {l : Launch} {e : Env} {s : State} {m : MethodId} {args : Array Value} {below : List Frame} {meth : Method} {c : Code} {G : mG} {b0 : Nat} (C : m_C p s m args c cX8_wake 4 RX8 wsX8_wake G b0) (hr : meth.sig.returnType = none) (hlocks : meth.locks = false) {κ : mM → Prop} : ∀ (f : Nat) (l0 : Option Nat) (l1 : Option Nat) (l2 : Int32) (M : mM), wX8_wake_7 κ f l0 l1 l2 M → m_W p l e ({ frames := 3, cells := 0, slots := 0, locals := 64 } : Room) s m args below meth c G b0 (MQ below (va_Qv κ (m_B G b0) (fun q => b0 ≤ q)) args s 0 0 (fun q => b0 ≤ q)) 4 M 0 0 7 [(0, va_rf l0), (1, va_rf l1), (2, .int l2)] [] := by
  intro f
  induction f with
  | zero =>
    intro l0 l1 l2 M h
    exact absurd h (by simp [wX8_wake_7])
  | succ f ih =>
    intro l0 l1 l2 M h
    rw [wX8_wake_7] at h
    refine q_iload_n (pc := 7) C 2 2 dX8_wake_7 rfl rfl ?_
    refine q_aload_n (pc := 8) C 0 0 dX8_wake_8 rfl rfl ?_
    refine q_gR (pc := 9) C h (T := TX8) rfl (by decide) (wk_u rfl wm_X8_wake uq_X8 (by decide +kernel)) (by decide +kernel) (fun _ h9 => h9) dX8_wake_9 (fun x1 h => ?_)
    obtain ⟨b4, fs9, hb4, hm9, h⟩ := h
    refine q_ci (pc := 12) (q_rV C (st := [.int l2]) (b := b4) (kJx4a65c_size_8abf5 l G b0 h) (cwV 0 C.2.2.2.2.1 gX8_wake_Jx4a65c_size_8abf5 rfl rfl rfl (by decide +kernel) ⟨Nat.le_of_ble_eq_true rfl, Nat.le_of_ble_eq_true rfl⟩) hm9 rfl rfl rfl (by first | exact Nat.le_of_ble_eq_true rfl | (simp [q_cat, q_catI, q_catJ, q_catR, q_catN]; done)) (by rw [hb4]; first | done | rfl) dX8_wake_12 ⟨(by first | omega | (dsimp only; omega)), (by first | omega | (dsimp only; omega))⟩) (fun x2 M3 h => ?_)
    refine q_icmp_ge (pc := 15) C 49 dX8_wake_15 (by decide) (fun c5 => ?_) (fun c5 => ?_)
    · have h := h.1 c5
      exact q_vret (pc := 49) C hr hlocks h dX8_wake_49 (by omega) (by omega)
    · have h := h.2 c5
      refine q_aload_n (pc := 18) C 0 0 dX8_wake_18 rfl rfl ?_
      refine q_gR (pc := 19) C h (T := TX8) rfl (by decide) (wk_u rfl wm_X8_wake uq_X8 (by decide +kernel)) (by decide +kernel) (fun _ h9 => h9) dX8_wake_19 (fun x6 h => ?_)
      refine q_iload_n (pc := 22) C 2 2 dX8_wake_22 rfl rfl ?_
      obtain ⟨b9, fs9, hb9, hm9, h⟩ := h
      refine q_cq (pc := 23) (q_rV C (st := []) (b := b9) (kJx4a65c_get_915e3 l G b0 h) (cwV 1 C.2.2.2.2.1 gX8_wake_Jx4a65c_get_915e3 rfl rfl rfl (by decide +kernel) ⟨Nat.le_of_ble_eq_true rfl, Nat.le_of_ble_eq_true rfl⟩) hm9 rfl rfl rfl (by first | exact Nat.le_of_ble_eq_true rfl | (simp [q_cat, q_catI, q_catJ, q_catR, q_catN]; done)) (by rw [hb9]; first | done | rfl) dX8_wake_23 ⟨(by first | omega | (dsimp only; omega)), (by first | omega | (dsimp only; omega))⟩) (fun x7 M8 h => ?_)
      refine q_cast (pc := 26) C h rfl rfl (by decide +kernel) dX8_wake_26 (fun h => ?_)
      refine q_astore_n (pc := 29) C 3 [(3, va_rf x7), (0, va_rf l0), (1, va_rf l1), (2, .int l2)] dX8_wake_29 rfl (by decide) (by first | rfl | simp [q_cat, q_catI, q_catJ, q_catR, q_catN]) ?_
      refine q_aload_n (pc := 30) C 3 0 dX8_wake_30 rfl rfl ?_
      refine q_gR (pc := 31) C h (T := TX3) rfl (by decide) (wk_u rfl wm_X8_wake uq_X3 (by decide +kernel)) (by decide +kernel) (fun _ h9 => h9) dX8_wake_31 (fun x10 h => ?_)
      refine q_aload_n (pc := 34) C 1 2 dX8_wake_34 rfl rfl ?_
      refine q_acmp_ne (pc := 35) C 43 dX8_wake_35 (by decide) (fun c11 => ?_) (fun c11 => ?_)
      · have h := h.2 c11
        refine q_widen (k2 := 0) (n2 := 0) (by omega) (by omega) ?_
        refine q_lv [1, 2, 3] rfl ?_
        exact tX8_wake_43 C hr hlocks ih h
      · have h := h.1 c11
        refine q_aload_n (pc := 38) C 3 0 dX8_wake_38 rfl rfl ?_
        refine q_null (pc := 39) C dX8_wake_39 ?_
        refine q_p (pc := 40) C h (.object "Lullabygate$Sleeper") (T := TX3) tyX3 tyX3_ok nmX3 rfl (by decide +kernel) (q_nrO _ _) (q_ftO _ _) rfl (by decide) (wk_u rfl wm_X8_wake uq_X3 (by decide +kernel)) (by decide +kernel) (fun _ h9 => h9) rfl dX8_wake_40 (fun M12 h => ?_)
        refine q_widen (k2 := 0) (n2 := 0) (by omega) (by omega) ?_
        refine q_lv [1, 2, 3] rfl ?_
        exact tX8_wake_43 C hr hlocks ih h
set_option maxRecDepth 100000 in
set_option maxHeartbeats 4000000 in
theorem tX8_wake {p : Program} {l : Launch} {e : Env} {s : State} {m : MethodId} {args : Array Value} {below : List Frame} {meth : Method} {c : Code} {G : mG} {b0 : Nat} (C : m_C p s m args c cX8_wake 4 RX8 wsX8_wake G b0) (hr : meth.sig.returnType = none) (hlocks : meth.locks = false) {κ : mM → Prop} {l0 : Option Nat} {l1 : Option Nat} {M : mM} (h : wX8_wake κ l0 l1 M) : m_W p l e ({ frames := 3, cells := 0, slots := 0, locals := 64 } : Room) s m args below meth c G b0 (MQ below (va_Qv κ (m_B G b0) (fun q => b0 ≤ q)) args s 0 0 (fun q => b0 ≤ q)) 4 M 0 0 0 [(0, va_rf l0), (1, va_rf l1)] [] := by
  unfold wX8_wake at h
  refine q_aload_n (pc := 0) C 1 1 dX8_wake_0 rfl rfl ?_
  refine q_iconst (pc := 1) C 2 dX8_wake_1 (by decide) ?_
  obtain ⟨b2, fs9, hb2, hm9, h⟩ := h
  refine q_cv (pc := 2) (q_rV C (st := []) (b := b2) (kX6_stepOut l G b0 h) (cwV 1 C.2.2.2.2.1 gX8_wake_X6_stepOut rfl rfl rfl (by decide +kernel) ⟨Nat.le_of_ble_eq_true rfl, Nat.le_of_ble_eq_true rfl⟩) hm9 rfl rfl rfl (by first | exact Nat.le_of_ble_eq_true rfl | (simp [q_cat, q_catI, q_catJ, q_catR, q_catN]; done)) (by rw [hb2]; first | done | rfl) dX8_wake_2 ⟨(by first | omega | (dsimp only; omega)), (by first | omega | (dsimp only; omega))⟩) (fun M1 h => ?_)
  refine q_iconst (pc := 5) C 0 dX8_wake_5 (by decide) ?_
  refine q_istore_n (pc := 6) C 2 [(2, .int 0), (0, va_rf l0), (1, va_rf l1)] dX8_wake_6 rfl (by decide) (by first | rfl | simp [q_cat, q_catI, q_catJ, q_catR, q_catN]) ?_
  refine q_widen (k2 := 0) (n2 := 0) (by omega) (by omega) ?_
  refine q_lv [1, 2, 0] rfl ?_
  obtain ⟨f9, h⟩ := h
  exact tX8_wake_7 C hr hlocks f9 _ _ _ _ h
set_option maxRecDepth 100000 in
set_option maxHeartbeats 4000000 in
theorem kX8_wake (l : Launch) (G : mG) (b0 : Nat) {b : Nat} {l1 : Option Nat} {M : mM} {κ : mM → Prop} (h : wX8_wake κ (some b) l1 M) : Met l yX8_wake wsX8_wake ({ frames := 3, cells := 0, slots := 0, locals := 64 } : Room) (va_Pc [.ref b, va_rf l1] (m_Pre G b0 M)) (va_Qv κ (m_B G b0) (fun q => b0 ≤ q)) 0 0 (fun q => b0 ≤ q) := by
  refine m_met (cc := cX8_wake) (maxL := 4) (ret := none) (lv := [(0, va_rf (some b)), (1, va_rf l1)]) RX8 rfl (by decide +kernel) rfl (by first | exact Nat.le_of_ble_eq_true rfl | simp [lg_sl, q_cat, q_catI, q_catJ, q_catR, q_catN]) (by first | rfl | (simp [lv_args, q_cat, q_catI, q_catJ, q_catR, q_catN]; done) | (simp [lv_args, q_cat, q_catI, q_catJ, q_catR, q_catN]; rfl)) ?_
  intro p e s m args below meth c C hr hlocks hni
  exact tX8_wake C hr hlocks h
/-! X8_tireThoseWhoStand -/
set_option maxRecDepth 100000 in
set_option maxHeartbeats 4000000 in
theorem tX8_tireThoseWhoStand_57 {p : Program} {l : Launch} {e : Env} {s : State} {m : MethodId} {args : Array Value} {below : List Frame} {meth : Method} {c : Code} {G : mG} {b0 : Nat} (C : m_C p s m args c cX8_tireThoseWhoStand 4 RX8 wsX8_tireThoseWhoStand G b0) (hr : meth.sig.returnType = none) (hlocks : meth.locks = false) {κ : mM → Prop} {R10 : Option Nat → Option Nat → Int32 → mM → Prop} (hR10 : ∀ (l0 : Option Nat) (l1 : Option Nat) (l2 : Int32) (M : mM), R10 l0 l1 l2 M → m_W p l e ({ frames := 4, cells := 0, slots := 0, locals := 87 } : Room) s m args below meth c G b0 (MQ below (va_Qv κ (m_B G b0) (fun q => b0 ≤ q)) args s 0 0 (fun q => b0 ≤ q)) 4 M 0 0 10 [(0, va_rf l0), (1, va_rf l1), (2, .int l2)] []) {l0 : Option Nat} {l1 : Option Nat} {l2 : Int32} {M : mM} (h : wX8_tireThoseWhoStand_57 κ R10 l0 l1 l2 M) : m_W p l e ({ frames := 4, cells := 0, slots := 0, locals := 87 } : Room) s m args below meth c G b0 (MQ below (va_Qv κ (m_B G b0) (fun q => b0 ≤ q)) args s 0 0 (fun q => b0 ≤ q)) 4 M 0 0 57 [(0, va_rf l0), (1, va_rf l1), (2, .int l2)] [] := by
  unfold wX8_tireThoseWhoStand_57 at h
  refine q_iinc (pc := 57) C 2 2 (l2 + (-1)) [(2, .int (l2 + (-1))), (0, va_rf l0), (1, va_rf l1)] dX8_tireThoseWhoStand_57 rfl (by rfl) (by decide) (by first | rfl | simp [q_cat, q_catI, q_catJ, q_catR, q_catN]) ?_
  refine q_goto (pc := 60) C 10 dX8_tireThoseWhoStand_60 (by decide) ?_
  refine q_widen (k2 := 0) (n2 := 0) (by omega) (by omega) ?_
  refine q_lv [1, 2, 0] rfl ?_
  exact hR10 _ _ _ _ h
set_option maxRecDepth 100000 in
set_option maxHeartbeats 4000000 in
theorem tX8_tireThoseWhoStand_10 {p : Program} {l : Launch} {e : Env} {s : State} {m : MethodId} {args : Array Value} {below : List Frame} {meth : Method} {c : Code} {G : mG} {b0 : Nat} (C : m_C p s m args c cX8_tireThoseWhoStand 4 RX8 wsX8_tireThoseWhoStand G b0) (hr : meth.sig.returnType = none) (hlocks : meth.locks = false) {κ : mM → Prop} : ∀ (f : Nat) (l0 : Option Nat) (l1 : Option Nat) (l2 : Int32) (M : mM), wX8_tireThoseWhoStand_10 κ f l0 l1 l2 M → m_W p l e ({ frames := 4, cells := 0, slots := 0, locals := 87 } : Room) s m args below meth c G b0 (MQ below (va_Qv κ (m_B G b0) (fun q => b0 ≤ q)) args s 0 0 (fun q => b0 ≤ q)) 4 M 0 0 10 [(0, va_rf l0), (1, va_rf l1), (2, .int l2)] [] := by
  intro f
  induction f with
  | zero =>
    intro l0 l1 l2 M h
    exact absurd h (by simp [wX8_tireThoseWhoStand_10])
  | succ f ih =>
    intro l0 l1 l2 M h
    rw [wX8_tireThoseWhoStand_10] at h
    refine q_iload_n (pc := 10) C 2 2 dX8_tireThoseWhoStand_10 rfl rfl ?_
    refine q_if_lt (pc := 11) C 63 dX8_tireThoseWhoStand_11 (by decide) (fun c1 => ?_) (fun c1 => ?_)
    · have h := h.1 c1
      exact q_vret (pc := 63) C hr hlocks h dX8_tireThoseWhoStand_63 (by omega) (by omega)
    · have h := h.2 c1
      refine q_aload_n (pc := 14) C 1 1 dX8_tireThoseWhoStand_14 rfl rfl ?_
      refine q_gR (pc := 15) C h (T := TX0) rfl (by decide) (wk_u rfl wm_X8_tireThoseWhoStand uq_X0 (by decide +kernel)) (by decide +kernel) (fun _ h9 => h9) dX8_tireThoseWhoStand_15 (fun x2 h => ?_)
      refine q_iload_n (pc := 18) C 2 2 dX8_tireThoseWhoStand_18 rfl rfl ?_
      obtain ⟨b5, fs9, hb5, hm9, h⟩ := h
      refine q_cq (pc := 19) (q_rV C (st := []) (b := b5) (kJx4a65c_get_915e3 l G b0 h) (cwV 1 C.2.2.2.2.1 gX8_tireThoseWhoStand_Jx4a65c_get_915e3 rfl rfl rfl (by decide +kernel) ⟨Nat.le_of_ble_eq_true rfl, Nat.le_of_ble_eq_true rfl⟩) hm9 rfl rfl rfl (by first | exact Nat.le_of_ble_eq_true rfl | (simp [q_cat, q_catI, q_catJ, q_catR, q_catN]; done)) (by rw [hb5]; first | done | rfl) dX8_tireThoseWhoStand_19 ⟨(by first | omega | (dsimp only; omega)), (by first | omega | (dsimp only; omega))⟩) (fun x3 M4 h => ?_)
      refine q_cast (pc := 22) C h rfl rfl (by decide +kernel) dX8_tireThoseWhoStand_22 (fun h => ?_)
      refine q_astore_n (pc := 25) C 3 [(3, va_rf x3), (0, va_rf l0), (1, va_rf l1), (2, .int l2)] dX8_tireThoseWhoStand_25 rfl (by decide) (by first | rfl | simp [q_cat, q_catI, q_catJ, q_catR, q_catN]) ?_
      refine q_aload_n (pc := 26) C 3 0 dX8_tireThoseWhoStand_26 rfl rfl ?_
      refine q_dup (pc := 27) C dX8_tireThoseWhoStand_27 (q_cat _) ?_
      refine q_gI (pc := 28) C h (T := TX6) rfl (by decide) (wk_u rfl wm_X8_tireThoseWhoStand uq_X6 (by decide +kernel)) (by decide +kernel) (fun _ h9 => h9) dX8_tireThoseWhoStand_28 (fun x6 h => ?_)
      refine q_iconst (pc := 31) C 1 dX8_tireThoseWhoStand_31 (by decide) ?_
      refine q_isub (pc := 32) C dX8_tireThoseWhoStand_32 ?_
      refine q_p (pc := 33) C h .int (T := TX6) tyX6 tyX6_ok nmX6 rfl (by decide +kernel) rfl rfl rfl (by decide) (wk_u rfl wm_X8_tireThoseWhoStand uq_X6 (by decide +kernel)) (by decide +kernel) (fun _ h9 => h9) rfl dX8_tireThoseWhoStand_33 (fun M7 h => ?_)
      refine q_aload_n (pc := 36) C 3 0 dX8_tireThoseWhoStand_36 rfl rfl ?_
      refine q_gI (pc := 37) C h (T := TX6) rfl (by decide) (wk_u rfl wm_X8_tireThoseWhoStand uq_X6 (by decide +kernel)) (by decide +kernel) (fun _ h9 => h9) dX8_tireThoseWhoStand_37 (fun x8 h => ?_)
      refine q_if_gt (pc := 40) C 57 dX8_tireThoseWhoStand_40 (by decide) (fun c9 => ?_) (fun c9 => ?_)
      · have h := h.1 c9
        refine q_widen (k2 := 0) (n2 := 0) (by omega) (by omega) ?_
        refine q_lv [1, 2, 3] rfl ?_
        exact tX8_tireThoseWhoStand_57 C hr hlocks ih h
      · have h := h.2 c9
        refine q_aload_n (pc := 43) C 1 2 dX8_tireThoseWhoStand_43 rfl rfl ?_
        refine q_gR (pc := 44) C h (T := TX0) rfl (by decide) (wk_u rfl wm_X8_tireThoseWhoStand uq_X0 (by decide +kernel)) (by decide +kernel) (fun _ h9 => h9) dX8_tireThoseWhoStand_44 (fun x10 h => ?_)
        refine q_iload_n (pc := 47) C 2 3 dX8_tireThoseWhoStand_47 rfl rfl ?_
        obtain ⟨b13, fs9, hb13, hm9, h⟩ := h
        refine q_cq (pc := 48) (q_rV C (st := []) (b := b13) (kJx4a65c_remove_915e3 l G b0 h) (cwV 1 C.2.2.2.2.1 gX8_tireThoseWhoStand_Jx4a65c_remove_915e3 rfl rfl rfl (by decide +kernel) ⟨Nat.le_of_ble_eq_true rfl, Nat.le_of_ble_eq_true rfl⟩) hm9 rfl rfl rfl (by first | exact Nat.le_of_ble_eq_true rfl | (simp [q_cat, q_catI, q_catJ, q_catR, q_catN]; done)) (by rw [hb13]; first | done | rfl) dX8_tireThoseWhoStand_48 ⟨(by first | omega | (dsimp only; omega)), (by first | omega | (dsimp only; omega))⟩) (fun x11 M12 h => ?_)
        refine q_pop (pc := 51) C dX8_tireThoseWhoStand_51 (q_cat _) ?_
        refine q_aload_n (pc := 52) C 0 1 dX8_tireThoseWhoStand_52 rfl rfl ?_
        refine q_aload_n (pc := 53) C 3 0 dX8_tireThoseWhoStand_53 rfl rfl ?_
        obtain ⟨b15, fs9, hb15, hm9, h⟩ := h
        refine q_cv (pc := 54) (q_rV C (st := []) (b := b15) (kX8_wake l G b0 h) (cwV 1 C.2.2.2.2.1 gX8_tireThoseWhoStand_X8_wake rfl rfl rfl (by decide +kernel) ⟨Nat.le_of_ble_eq_true rfl, Nat.le_of_ble_eq_true rfl⟩) hm9 rfl rfl rfl (by first | exact Nat.le_of_ble_eq_true rfl | (simp [q_cat, q_catI, q_catJ, q_catR, q_catN]; done)) (by rw [hb15]; first | done | rfl) dX8_tireThoseWhoStand_54 ⟨(by first | omega | (dsimp only; omega)), (by first | omega | (dsimp only; omega))⟩) (fun M14 h => ?_)
        refine q_widen (k2 := 0) (n2 := 0) (by omega) (by omega) ?_
        refine q_lv [1, 2, 3] rfl ?_
        exact tX8_tireThoseWhoStand_57 C hr hlocks ih h
set_option maxRecDepth 100000 in
set_option maxHeartbeats 4000000 in
theorem tX8_tireThoseWhoStand {p : Program} {l : Launch} {e : Env} {s : State} {m : MethodId} {args : Array Value} {below : List Frame} {meth : Method} {c : Code} {G : mG} {b0 : Nat} (C : m_C p s m args c cX8_tireThoseWhoStand 4 RX8 wsX8_tireThoseWhoStand G b0) (hr : meth.sig.returnType = none) (hlocks : meth.locks = false) {κ : mM → Prop} {l0 : Option Nat} {l1 : Option Nat} {M : mM} (h : wX8_tireThoseWhoStand κ l0 l1 M) : m_W p l e ({ frames := 4, cells := 0, slots := 0, locals := 87 } : Room) s m args below meth c G b0 (MQ below (va_Qv κ (m_B G b0) (fun q => b0 ≤ q)) args s 0 0 (fun q => b0 ≤ q)) 4 M 0 0 0 [(0, va_rf l0), (1, va_rf l1)] [] := by
  unfold wX8_tireThoseWhoStand at h
  refine q_aload_n (pc := 0) C 1 1 dX8_tireThoseWhoStand_0 rfl rfl ?_
  refine q_gR (pc := 1) C h (T := TX0) rfl (by decide) (wk_u rfl wm_X8_tireThoseWhoStand uq_X0 (by decide +kernel)) (by decide +kernel) (fun _ h9 => h9) dX8_tireThoseWhoStand_1 (fun x1 h => ?_)
  obtain ⟨b4, fs9, hb4, hm9, h⟩ := h
  refine q_ci (pc := 4) (q_rV C (st := []) (b := b4) (kJx4a65c_size_8abf5 l G b0 h) (cwV 0 C.2.2.2.2.1 gX8_tireThoseWhoStand_Jx4a65c_size_8abf5 rfl rfl rfl (by decide +kernel) ⟨Nat.le_of_ble_eq_true rfl, Nat.le_of_ble_eq_true rfl⟩) hm9 rfl rfl rfl (by first | exact Nat.le_of_ble_eq_true rfl | (simp [q_cat, q_catI, q_catJ, q_catR, q_catN]; done)) (by rw [hb4]; first | done | rfl) dX8_tireThoseWhoStand_4 ⟨(by first | omega | (dsimp only; omega)), (by first | omega | (dsimp only; omega))⟩) (fun x2 M3 h => ?_)
  refine q_iconst (pc := 7) C 1 dX8_tireThoseWhoStand_7 (by decide) ?_
  refine q_isub (pc := 8) C dX8_tireThoseWhoStand_8 ?_
  refine q_istore_n (pc := 9) C 2 [(2, .int (x2 - 1)), (0, va_rf l0), (1, va_rf l1)] dX8_tireThoseWhoStand_9 rfl (by decide) (by first | rfl | simp [q_cat, q_catI, q_catJ, q_catR, q_catN]) ?_
  refine q_widen (k2 := 0) (n2 := 0) (by omega) (by omega) ?_
  refine q_lv [1, 2, 0] rfl ?_
  obtain ⟨f9, h⟩ := h
  exact tX8_tireThoseWhoStand_10 C hr hlocks f9 _ _ _ _ h
set_option maxRecDepth 100000 in
set_option maxHeartbeats 4000000 in
theorem kX8_tireThoseWhoStand (l : Launch) (G : mG) (b0 : Nat) {b : Nat} {l1 : Option Nat} {M : mM} {κ : mM → Prop} (h : wX8_tireThoseWhoStand κ (some b) l1 M) : Met l yX8_tireThoseWhoStand wsX8_tireThoseWhoStand ({ frames := 4, cells := 0, slots := 0, locals := 87 } : Room) (va_Pc [.ref b, va_rf l1] (m_Pre G b0 M)) (va_Qv κ (m_B G b0) (fun q => b0 ≤ q)) 0 0 (fun q => b0 ≤ q) := by
  refine m_met (cc := cX8_tireThoseWhoStand) (maxL := 4) (ret := none) (lv := [(0, va_rf (some b)), (1, va_rf l1)]) RX8 rfl (by decide +kernel) rfl (by first | exact Nat.le_of_ble_eq_true rfl | simp [lg_sl, q_cat, q_catI, q_catJ, q_catR, q_catN]) (by first | rfl | (simp [lv_args, q_cat, q_catI, q_catJ, q_catR, q_catN]; done) | (simp [lv_args, q_cat, q_catI, q_catJ, q_catR, q_catN]; rfl)) ?_
  intro p e s m args below meth c C hr hlocks hni
  exact tX8_tireThoseWhoStand C hr hlocks h
/-! X8_yawn -/
set_option maxRecDepth 100000 in
set_option maxHeartbeats 4000000 in
theorem tX8_yawn_27 {p : Program} {l : Launch} {e : Env} {s : State} {m : MethodId} {args : Array Value} {below : List Frame} {meth : Method} {c : Code} {G : mG} {b0 : Nat} (C : m_C p s m args c cX8_yawn 5 RX8 wsX8_yawn G b0) (hr : meth.sig.returnType = (some .int)) (hlocks : meth.locks = false) {t : Nat} (hL : l.stackTraces = false) (hx : ∀ x ∈ c.exceptionTable.toList, False) {g : Nat → Nat} (hg : G.2.2 = g) {κ : Int32 → mM → Prop} {ξ : String → mM → Prop} (ht : ∀ E M, ξ E M → 1 ≤ t) {M : mM} (h : wX8_yawn_27 g κ ξ M) : m_W p l e ({ frames := 10, cells := (48 + 2 * t), slots := (1248 + 12 * t), locals := 246 } : Room) s m args below meth c G b0 (vx_MQ below (va_Qi κ (m_B G b0) (fun q => b0 ≤ q)) (m_X G b0 ξ) args s (48 + 2 * t) (1248 + 12 * t) (fun q => b0 ≤ q)) 5 M (0 + 1 * t) (0 + 6 * t) 27 [] [] := by
  unfold wX8_yawn_27 at h
  have ht9 := ht _ _ h
  exact q_throwS (pc := 27) (names := ["java/lang/RuntimeException", "java/lang/Exception"]) (text := "the GATE is not OPEN, or nobody stands there") C hL hx hlocks h (by decide +kernel) (by decide +kernel) (by decide +kernel) (by decide +kernel) (List.mem_of_getElem? (i := 1149) (by decide +kernel)) (by decide +kernel) (by decide +kernel) (by decide +kernel) dX8_yawn_27 dX8_yawn_30 dX8_yawn_31 dX8_yawn_33 dX8_yawn_36 (Nat.le_of_ble_eq_true rfl) (by first | exact Nat.le_of_ble_eq_true rfl | (simp [q_cat, q_catI, q_catJ, q_catR, q_catN]; done) | (simp [q_cat, q_catI, q_catJ, q_catR, q_catN]; decide)) (by first | omega | (dsimp only; omega)) (by first | omega | (dsimp only; omega)) (by omega) (by omega)
set_option maxRecDepth 100000 in
set_option maxHeartbeats 4000000 in
theorem tX8_yawn_87 {p : Program} {l : Launch} {e : Env} {s : State} {m : MethodId} {args : Array Value} {below : List Frame} {meth : Method} {c : Code} {G : mG} {b0 : Nat} (C : m_C p s m args c cX8_yawn 5 RX8 wsX8_yawn G b0) (hr : meth.sig.returnType = (some .int)) (hlocks : meth.locks = false) {t : Nat} (hL : l.stackTraces = false) (hx : ∀ x ∈ c.exceptionTable.toList, False) {g : Nat → Nat} (hg : G.2.2 = g) {κ : Int32 → mM → Prop} {ξ : String → mM → Prop} (ht : ∀ E M, ξ E M → 1 ≤ t) {l0 : Option Nat} {l2 : Option Nat} {l3 : Option Nat} {s0 : Int32} {M : mM} (h : wX8_yawn_87 g κ ξ l0 l2 l3 s0 M) : m_W p l e ({ frames := 10, cells := (48 + 2 * t), slots := (1248 + 12 * t), locals := 246 } : Room) s m args below meth c G b0 (vx_MQ below (va_Qi κ (m_B G b0) (fun q => b0 ≤ q)) (m_X G b0 ξ) args s (48 + 2 * t) (1248 + 12 * t) (fun q => b0 ≤ q)) 5 M (48 + 1 * t) (1248 + 6 * t) 87 [(0, va_rf l0), (2, va_rf l2), (3, va_rf l3)] [.int s0] := by
  unfold wX8_yawn_87 at h
  refine q_istore (pc := 87) C 4 [(4, .int s0), (0, va_rf l0), (2, va_rf l2), (3, va_rf l3)] dX8_yawn_87 (by decide) (by first | rfl | simp [q_cat, q_catI, q_catJ, q_catR, q_catN]) ?_
  refine q_aload_n (pc := 89) C 3 3 dX8_yawn_89 rfl rfl ?_
  refine q_iconst (pc := 90) C 0 dX8_yawn_90 (by decide) ?_
  obtain ⟨b2, fs9, hb2, hm9, h⟩ := h
  refine q_cv (pc := 91) (q_rV C (st := []) (b := b2) (kX6_stepOut l G b0 h) (cwV 1 C.2.2.2.2.1 gX8_yawn_X6_stepOut rfl rfl rfl (by decide +kernel) ⟨Nat.le_of_ble_eq_true rfl, Nat.le_of_ble_eq_true rfl⟩) hm9 rfl rfl rfl (by first | exact Nat.le_of_ble_eq_true rfl | (simp [q_cat, q_catI, q_catJ, q_catR, q_catN]; done)) (by rw [hb2]; first | done | rfl) dX8_yawn_91 ⟨(by first | omega | (dsimp only; omega)), (by first | omega | (dsimp only; omega))⟩) (fun M1 h => ?_)
  refine q_aload_n (pc := 94) C 0 1 dX8_yawn_94 rfl rfl ?_
  refine q_aload_n (pc := 95) C 2 2 dX8_yawn_95 rfl rfl ?_
  obtain ⟨b4, fs9, hb4, hm9, h⟩ := h
  refine q_cv (pc := 96) (q_rV C (st := []) (b := b4) (kX8_tireThoseWhoStand l G b0 h) (cwV 1 C.2.2.2.2.1 gX8_yawn_X8_tireThoseWhoStand rfl rfl rfl (by decide +kernel) ⟨Nat.le_of_ble_eq_true rfl, Nat.le_of_ble_eq_true rfl⟩) hm9 rfl rfl rfl (by first | exact Nat.le_of_ble_eq_true rfl | (simp [q_cat, q_catI, q_catJ, q_catR, q_catN]; done)) (by rw [hb4]; first | done | rfl) dX8_yawn_96 ⟨(by first | omega | (dsimp only; omega)), (by first | omega | (dsimp only; omega))⟩) (fun M3 h => ?_)
  refine q_iload (pc := 99) C 4 0 dX8_yawn_99 rfl ?_
  exact q_iretX (pc := 101) C hr hlocks h dX8_yawn_101 (by omega) (by omega)
set_option maxRecDepth 100000 in
set_option maxHeartbeats 4000000 in
theorem tX8_yawn {p : Program} {l : Launch} {e : Env} {s : State} {m : MethodId} {args : Array Value} {below : List Frame} {meth : Method} {c : Code} {G : mG} {b0 : Nat} (C : m_C p s m args c cX8_yawn 5 RX8 wsX8_yawn G b0) (hr : meth.sig.returnType = (some .int)) (hlocks : meth.locks = false) {t : Nat} (hL : l.stackTraces = false) (hx : ∀ x ∈ c.exceptionTable.toList, False) {g : Nat → Nat} (hg : G.2.2 = g) {κ : Int32 → mM → Prop} {ξ : String → mM → Prop} (ht : ∀ E M, ξ E M → 1 ≤ t) {l0 : Option Nat} {l1 : Int32} {M : mM} (h : wX8_yawn g κ ξ l0 l1 M) : m_W p l e ({ frames := 10, cells := (48 + 2 * t), slots := (1248 + 12 * t), locals := 246 } : Room) s m args below meth c G b0 (vx_MQ below (va_Qi κ (m_B G b0) (fun q => b0 ≤ q)) (m_X G b0 ξ) args s (48 + 2 * t) (1248 + 12 * t) (fun q => b0 ≤ q)) 5 M 0 0 0 [(0, va_rf l0), (1, .int l1)] [] := by
  unfold wX8_yawn at h
  refine q_aload_n (pc := 0) C 0 0 dX8_yawn_0 rfl rfl ?_
  refine q_iload_n (pc := 1) C 1 1 dX8_yawn_1 rfl rfl ?_
  obtain ⟨b3, fs9, hb3, hm9, h⟩ := h
  refine q_cXq (pc := 2) (q_rVX C (st := []) (b := b3) (kX8_gateNumbered l G b0 (t := t) hL ht h) (cwV 1 C.2.2.2.2.1 gX8_yawn_X8_gateNumbered rfl rfl rfl (by decide +kernel) ⟨Nat.le_of_ble_eq_true rfl, Nat.le_of_ble_eq_true rfl⟩) hm9 rfl rfl rfl (by first | exact Nat.le_of_ble_eq_true rfl | (simp [q_cat, q_catI, q_catJ, q_catR, q_catN]; done)) (by rw [hb3]; first | done | rfl) dX8_yawn_2 ⟨(by first | omega | (dsimp only; omega)), (by first | omega | (dsimp only; omega))⟩) (fun E9 M9 h9 => q_out C hx hlocks h9 (by omega) (by omega)) (fun x1 M2 h => ?_)
  refine q_astore_n (pc := 5) C 2 [(2, va_rf x1), (0, va_rf l0), (1, .int l1)] dX8_yawn_5 rfl (by decide) (by first | rfl | simp [q_cat, q_catI, q_catJ, q_catR, q_catN]) ?_
  refine q_aload_n (pc := 6) C 2 0 dX8_yawn_6 rfl rfl ?_
  refine q_aload_n (pc := 7) C 0 1 dX8_yawn_7 rfl rfl ?_
  refine q_gI (pc := 8) C h (T := TX8) rfl (by decide) (wk_u bm_X8_yawn wm_X8_yawn uq_X8 (by decide +kernel)) (by decide +kernel) (fun _ h9 => h9) dX8_yawn_8 (fun x4 h => ?_)
  obtain ⟨b7, fs9, hb7, hm9, h⟩ := h
  refine q_ci (pc := 11) (q_rV C (st := []) (b := b7) (kX0_isOpenAt l G b0 h) (cwV 1 C.2.2.2.2.1 gX8_yawn_X0_isOpenAt rfl rfl rfl (by decide +kernel) ⟨Nat.le_of_ble_eq_true rfl, Nat.le_of_ble_eq_true rfl⟩) hm9 rfl rfl rfl (by first | exact Nat.le_of_ble_eq_true rfl | (simp [q_cat, q_catI, q_catJ, q_catR, q_catN]; done)) (by rw [hb7]; first | done | rfl) dX8_yawn_11 ⟨(by first | omega | (dsimp only; omega)), (by first | omega | (dsimp only; omega))⟩) (fun x5 M6 h => ?_)
  refine q_if_eq (pc := 14) C 27 dX8_yawn_14 (by decide) (fun c8 => ?_) (fun c8 => ?_)
  · have h := h.1 c8
    refine q_widen (k2 := (0 + 1 * t)) (n2 := (0 + 6 * t)) (by omega) (by omega) ?_
    refine q_lv [] rfl ?_
    exact tX8_yawn_27 C hr hlocks hL hx hg ht h
  · have h := h.2 c8
    refine q_aload_n (pc := 17) C 2 0 dX8_yawn_17 rfl rfl ?_
    refine q_gR (pc := 18) C h (T := TX0) rfl (by decide) (wk_u bm_X8_yawn wm_X8_yawn uq_X0 (by decide +kernel)) (by decide +kernel) (fun _ h9 => h9) dX8_yawn_18 (fun x9 h => ?_)
    obtain ⟨b12, fs9, hb12, hm9, h⟩ := h
    refine q_ci (pc := 21) (q_rV C (st := []) (b := b12) (kJx4a65c_isEmpty_aae02 l G b0 h) (cwV 0 C.2.2.2.2.1 gX8_yawn_Jx4a65c_isEmpty_aae02 rfl rfl rfl (by decide +kernel) ⟨Nat.le_of_ble_eq_true rfl, Nat.le_of_ble_eq_true rfl⟩) hm9 rfl rfl rfl (by first | exact Nat.le_of_ble_eq_true rfl | (simp [q_cat, q_catI, q_catJ, q_catR, q_catN]; done)) (by rw [hb12]; first | done | rfl) dX8_yawn_21 ⟨(by first | omega | (dsimp only; omega)), (by first | omega | (dsimp only; omega))⟩) (fun x10 M11 h => ?_)
    refine q_if_eq (pc := 24) C 37 dX8_yawn_24 (by decide) (fun c13 => ?_) (fun c13 => ?_)
    · have h := h.1 c13
      refine q_aload_n (pc := 37) C 0 1 dX8_yawn_37 rfl rfl ?_
      refine q_dup (pc := 38) C dX8_yawn_38 (q_cat _) ?_
      refine q_gI (pc := 39) C h (T := TX8) rfl (by decide) (wk_u bm_X8_yawn wm_X8_yawn uq_X8 (by decide +kernel)) (by decide +kernel) (fun _ h9 => h9) dX8_yawn_39 (fun x14 h => ?_)
      refine q_iconst (pc := 42) C 1 dX8_yawn_42 (by decide) ?_
      refine q_iadd (pc := 43) C dX8_yawn_43 ?_
      refine q_p (pc := 44) C h .int (T := TX8) tyX8 tyX8_ok nmX8 rfl (by decide +kernel) rfl rfl rfl (by decide) (wk_u bm_X8_yawn wm_X8_yawn uq_X8 (by decide +kernel)) (by decide +kernel) (fun _ h9 => h9) rfl dX8_yawn_44 (fun M15 h => ?_)
      refine q_aload_n (pc := 47) C 2 0 dX8_yawn_47 rfl rfl ?_
      refine q_gR (pc := 48) C h (T := TX0) rfl (by decide) (wk_u bm_X8_yawn wm_X8_yawn uq_X0 (by decide +kernel)) (by decide +kernel) (fun _ h9 => h9) dX8_yawn_48 (fun x16 h => ?_)
      refine q_iconst (pc := 51) C 0 dX8_yawn_51 (by decide) ?_
      obtain ⟨b19, fs9, hb19, hm9, h⟩ := h
      refine q_cq (pc := 52) (q_rV C (st := []) (b := b19) (kJx4a65c_get_915e3 l G b0 h) (cwV 1 C.2.2.2.2.1 gX8_yawn_Jx4a65c_get_915e3 rfl rfl rfl (by decide +kernel) ⟨Nat.le_of_ble_eq_true rfl, Nat.le_of_ble_eq_true rfl⟩) hm9 rfl rfl rfl (by first | exact Nat.le_of_ble_eq_true rfl | (simp [q_cat, q_catI, q_catJ, q_catR, q_catN]; done)) (by rw [hb19]; first | done | rfl) dX8_yawn_52 ⟨(by first | omega | (dsimp only; omega)), (by first | omega | (dsimp only; omega))⟩) (fun x17 M18 h => ?_)
      refine q_cast (pc := 55) C h rfl rfl (by decide +kernel) dX8_yawn_55 (fun h => ?_)
      refine q_astore_n (pc := 58) C 3 [(3, va_rf x17), (2, va_rf x1), (0, va_rf l0), (1, .int l1)] dX8_yawn_58 rfl (by decide) (by first | rfl | simp [q_cat, q_catI, q_catJ, q_catR, q_catN]) ?_
      refine q_aload_n (pc := 59) C 2 1 dX8_yawn_59 rfl rfl ?_
      refine q_gR (pc := 60) C h (T := TX0) rfl (by decide) (wk_u bm_X8_yawn wm_X8_yawn uq_X0 (by decide +kernel)) (by decide +kernel) (fun _ h9 => h9) dX8_yawn_60 (fun x20 h => ?_)
      refine q_iconst (pc := 63) C 0 dX8_yawn_63 (by decide) ?_
      obtain ⟨b23, fs9, hb23, hm9, h⟩ := h
      refine q_cq (pc := 64) (q_rV C (st := []) (b := b23) (kJx4a65c_remove_915e3 l G b0 h) (cwV 1 C.2.2.2.2.1 gX8_yawn_Jx4a65c_remove_915e3 rfl rfl rfl (by decide +kernel) ⟨Nat.le_of_ble_eq_true rfl, Nat.le_of_ble_eq_true rfl⟩) hm9 rfl rfl rfl (by first | exact Nat.le_of_ble_eq_true rfl | (simp [q_cat, q_catI, q_catJ, q_catR, q_catN]; done)) (by rw [hb23]; first | done | rfl) dX8_yawn_64 ⟨(by first | omega | (dsimp only; omega)), (by first | omega | (dsimp only; omega))⟩) (fun x21 M22 h => ?_)
      refine q_pop (pc := 67) C dX8_yawn_67 (q_cat _) ?_
      refine q_aload_n (pc := 68) C 0 2 dX8_yawn_68 rfl rfl ?_
      refine q_aload_n (pc := 69) C 3 0 dX8_yawn_69 rfl rfl ?_
      refine q_aload_n (pc := 70) C 2 1 dX8_yawn_70 rfl rfl ?_
      obtain ⟨b26, fs9, hb26, hm9, h⟩ := h
      refine q_ci (pc := 71) (q_rV C (st := []) (b := b26) (kX8_passIsGood l G b0 h) (cwV 2 C.2.2.2.2.1 gX8_yawn_X8_passIsGood rfl rfl rfl (by decide +kernel) ⟨Nat.le_of_ble_eq_true rfl, Nat.le_of_ble_eq_true rfl⟩) hm9 rfl rfl rfl (by first | exact Nat.le_of_ble_eq_true rfl | (simp [q_cat, q_catI, q_catJ, q_catR, q_catN]; done)) (by rw [hb26]; first | done | rfl) dX8_yawn_71 ⟨(by first | omega | (dsimp only; omega)), (by first | omega | (dsimp only; omega))⟩) (fun x24 M25 h => ?_)
      refine q_if_eq (pc := 74) C 86 dX8_yawn_74 (by decide) (fun c27 => ?_) (fun c27 => ?_)
      · have h := h.1 c27
        refine q_iconst (pc := 86) C (-1) dX8_yawn_86 (by decide) ?_
        refine q_widen (k2 := (48 + 1 * t)) (n2 := (1248 + 6 * t)) (by omega) (by omega) ?_
        refine q_lv [2, 1, 0] rfl ?_
        exact tX8_yawn_87 C hr hlocks hL hx hg ht h
      · have h := h.2 c27
        refine q_aload_n (pc := 77) C 0 2 dX8_yawn_77 rfl rfl ?_
        refine q_aload_n (pc := 78) C 3 0 dX8_yawn_78 rfl rfl ?_
        refine q_aload_n (pc := 79) C 2 1 dX8_yawn_79 rfl rfl ?_
        obtain ⟨b30, fs9, hb30, hm9, h⟩ := h
        refine q_ci (pc := 80) (q_rV C (st := []) (b := b30) (kX8_comeThrough l G b0 hg h) (cwV 2 C.2.2.2.2.1 gX8_yawn_X8_comeThrough rfl rfl rfl (by decide +kernel) ⟨Nat.le_of_ble_eq_true rfl, Nat.le_of_ble_eq_true rfl⟩) hm9 rfl rfl rfl (by first | exact Nat.le_of_ble_eq_true rfl | (simp [q_cat, q_catI, q_catJ, q_catR, q_catN]; done)) (by rw [hb30]; first | done | rfl) dX8_yawn_80 ⟨(by first | omega | (dsimp only; omega)), (by first | omega | (dsimp only; omega))⟩) (fun x28 M29 h => ?_)
        refine q_goto (pc := 83) C 87 dX8_yawn_83 (by decide) ?_
        refine q_widen (k2 := (48 + 1 * t)) (n2 := (1248 + 6 * t)) (by omega) (by omega) ?_
        refine q_lv [2, 1, 0] rfl ?_
        exact tX8_yawn_87 C hr hlocks hL hx hg ht h
    · have h := h.2 c13
      refine q_widen (k2 := (0 + 1 * t)) (n2 := (0 + 6 * t)) (by omega) (by omega) ?_
      refine q_lv [] rfl ?_
      exact tX8_yawn_27 C hr hlocks hL hx hg ht h
set_option maxRecDepth 100000 in
set_option maxHeartbeats 4000000 in
theorem kX8_yawn (l : Launch) (G : mG) (b0 : Nat) {t : Nat} (hL : l.stackTraces = false) {g : Nat → Nat} (hg : G.2.2 = g) {b : Nat} {l1 : Int32} {M : mM} {κ : Int32 → mM → Prop} {ξ : String → mM → Prop} (ht : ∀ E M, ξ E M → 1 ≤ t) (h : wX8_yawn g κ ξ (some b) l1 M) : vx_Met l yX8_yawn wsX8_yawn ({ frames := 10, cells := (48 + 2 * t), slots := (1248 + 12 * t), locals := 246 } : Room) (va_Pc [.ref b, .int l1] (m_Pre G b0 M)) (va_Qi κ (m_B G b0) (fun q => b0 ≤ q)) (m_X G b0 ξ) (48 + 2 * t) (1248 + 12 * t) (fun q => b0 ≤ q) := by
  refine m_metX (cc := cX8_yawn) (maxL := 5) (ret := (some .int)) (lv := [(0, va_rf (some b)), (1, .int l1)]) RX8 rfl (by decide +kernel) rfl (by first | exact Nat.le_of_ble_eq_true rfl | simp [lg_sl, q_cat, q_catI, q_catJ, q_catR, q_catN]) (by first | rfl | (simp [lv_args, q_cat, q_catI, q_catJ, q_catR, q_catN]; done) | (simp [lv_args, q_cat, q_catI, q_catJ, q_catR, q_catN]; rfl)) ?_
  intro p e s m args below meth c C hr hlocks hx
  exact tX8_yawn C hr hlocks hL hx hg ht h
/-! X8_appeal -/
set_option maxRecDepth 100000 in
set_option maxHeartbeats 4000000 in
theorem tX8_appeal_34 {p : Program} {l : Launch} {e : Env} {s : State} {m : MethodId} {args : Array Value} {below : List Frame} {meth : Method} {c : Code} {G : mG} {b0 : Nat} (C : m_C p s m args c cX8_appeal 5 RX8 wsX8_appeal G b0) (hr : meth.sig.returnType = (some .boolean)) (hlocks : meth.locks = false) {t : Nat} (hL : l.stackTraces = false) (hx : ∀ x ∈ c.exceptionTable.toList, False) {κ : Int32 → mM → Prop} {ξ : String → mM → Prop} (ht : ∀ E M, ξ E M → 1 ≤ t) {M : mM} (h : wX8_appeal_34 κ ξ M) : m_W p l e ({ frames := 7, cells := (0 + 2 * t), slots := (0 + 12 * t), locals := 111 } : Room) s m args below meth c G b0 (vx_MQ below (va_Qi κ (m_B G b0) (fun q => b0 ≤ q)) (m_X G b0 ξ) args s (0 + 2 * t) (0 + 12 * t) (fun q => b0 ≤ q)) 5 M (0 + 1 * t) (0 + 6 * t) 34 [] [] := by
  unfold wX8_appeal_34 at h
  have ht9 := ht _ _ h
  exact q_throwSW (pc := 34) (names := ["java/lang/RuntimeException", "java/lang/Exception"]) (text := "the PART was not CAUGHT, or is in no STORE") C hL hx hlocks h (by decide +kernel) (by decide +kernel) (by decide +kernel) (by decide +kernel) (List.mem_of_getElem? (i := 1207) (by decide +kernel)) (by decide +kernel) (by decide +kernel) (by decide +kernel) dX8_appeal_34 dX8_appeal_37 dX8_appeal_38 dX8_appeal_41 dX8_appeal_44 (Nat.le_of_ble_eq_true rfl) (by first | exact Nat.le_of_ble_eq_true rfl | (simp [q_cat, q_catI, q_catJ, q_catR, q_catN]; done) | (simp [q_cat, q_catI, q_catJ, q_catR, q_catN]; decide)) (by first | omega | (dsimp only; omega)) (by first | omega | (dsimp only; omega)) (by omega) (by omega)
set_option maxRecDepth 100000 in
set_option maxHeartbeats 4000000 in
theorem tX8_appeal {p : Program} {l : Launch} {e : Env} {s : State} {m : MethodId} {args : Array Value} {below : List Frame} {meth : Method} {c : Code} {G : mG} {b0 : Nat} (C : m_C p s m args c cX8_appeal 5 RX8 wsX8_appeal G b0) (hr : meth.sig.returnType = (some .boolean)) (hlocks : meth.locks = false) {t : Nat} (hL : l.stackTraces = false) (hx : ∀ x ∈ c.exceptionTable.toList, False) {κ : Int32 → mM → Prop} {ξ : String → mM → Prop} (ht : ∀ E M, ξ E M → 1 ≤ t) {l0 : Option Nat} {l1 : Int32} {M : mM} (h : wX8_appeal κ ξ l0 l1 M) : m_W p l e ({ frames := 7, cells := (0 + 2 * t), slots := (0 + 12 * t), locals := 111 } : Room) s m args below meth c G b0 (vx_MQ below (va_Qi κ (m_B G b0) (fun q => b0 ≤ q)) (m_X G b0 ξ) args s (0 + 2 * t) (0 + 12 * t) (fun q => b0 ≤ q)) 5 M 0 0 0 [(0, va_rf l0), (1, .int l1)] [] := by
  unfold wX8_appeal at h
  refine q_aload_n (pc := 0) C 0 0 dX8_appeal_0 rfl rfl ?_
  refine q_iload_n (pc := 1) C 1 1 dX8_appeal_1 rfl rfl ?_
  obtain ⟨b3, fs9, hb3, hm9, h⟩ := h
  refine q_cXq (pc := 2) (q_rVX C (st := []) (b := b3) (kX8_partNumbered l G b0 (t := t) hL ht h) (cwV 1 C.2.2.2.2.1 gX8_appeal_X8_partNumbered rfl rfl rfl (by decide +kernel) ⟨Nat.le_of_ble_eq_true rfl, Nat.le_of_ble_eq_true rfl⟩) hm9 rfl rfl rfl (by first | exact Nat.le_of_ble_eq_true rfl | (simp [q_cat, q_catI, q_catJ, q_catR, q_catN]; done)) (by rw [hb3]; first | done | rfl) dX8_appeal_2 ⟨(by first | omega | (dsimp only; omega)), (by first | omega | (dsimp only; omega))⟩) (fun E9 M9 h9 => q_out C hx hlocks h9 (by omega) (by omega)) (fun x1 M2 h => ?_)
  refine q_astore_n (pc := 5) C 2 [(2, va_rf x1), (0, va_rf l0), (1, .int l1)] dX8_appeal_5 rfl (by decide) (by first | rfl | simp [q_cat, q_catI, q_catJ, q_catR, q_catN]) ?_
  refine q_aload_n (pc := 6) C 2 0 dX8_appeal_6 rfl rfl ?_
  refine q_gR (pc := 7) C h (T := TX3) rfl (by decide) (wk_u rfl wm_X8_appeal uq_X3 (by decide +kernel)) (by decide +kernel) (fun _ h9 => h9) dX8_appeal_7 (fun x4 h => ?_)
  refine q_astore_n (pc := 10) C 3 [(3, va_rf x4), (2, va_rf x1), (0, va_rf l0), (1, .int l1)] dX8_appeal_10 rfl (by decide) (by first | rfl | simp [q_cat, q_catI, q_catJ, q_catR, q_catN]) ?_
  refine q_aload_n (pc := 11) C 2 1 dX8_appeal_11 rfl rfl ?_
  refine q_gR (pc := 12) C h (T := TX3) rfl (by decide) (wk_u rfl wm_X8_appeal uq_X3 (by decide +kernel)) (by decide +kernel) (fun _ h9 => h9) dX8_appeal_12 (fun x5 h => ?_)
  refine q_astore (pc := 15) C 4 [(4, va_rf x5), (3, va_rf x4), (2, va_rf x1), (0, va_rf l0), (1, .int l1)] dX8_appeal_15 (by decide) (by first | rfl | simp [q_cat, q_catI, q_catJ, q_catR, q_catN]) ?_
  refine q_aload_n (pc := 17) C 2 2 dX8_appeal_17 rfl rfl ?_
  refine q_gI (pc := 18) C h (T := TX3) rfl (by decide) (wk_u rfl wm_X8_appeal uq_X3 (by decide +kernel)) (by decide +kernel) (fun _ h9 => h9) dX8_appeal_18 (fun x6 h => ?_)
  refine q_iconst (pc := 21) C 3 dX8_appeal_21 (by decide) ?_
  refine q_icmp_ne (pc := 22) C 34 dX8_appeal_22 (by decide) (fun c7 => ?_) (fun c7 => ?_)
  · have h := h.2 c7
    refine q_widen (k2 := (0 + 1 * t)) (n2 := (0 + 6 * t)) (by omega) (by omega) ?_
    refine q_lv [] rfl ?_
    exact tX8_appeal_34 C hr hlocks hL hx ht h
  · have h := h.1 c7
    refine q_aload_n (pc := 25) C 3 1 dX8_appeal_25 rfl rfl ?_
    refine q_ifnull (pc := 26) C 34 dX8_appeal_26 (by decide) (fun c8 => ?_) (fun c8 => ?_)
    · have h := h.1 c8
      refine q_widen (k2 := (0 + 1 * t)) (n2 := (0 + 6 * t)) (by omega) (by omega) ?_
      refine q_lv [] rfl ?_
      exact tX8_appeal_34 C hr hlocks hL hx ht h
    · have h := h.2 c8
      refine q_aload (pc := 29) C 4 0 dX8_appeal_29 rfl ?_
      refine q_ifnonnull (pc := 31) C 45 dX8_appeal_31 (by decide) (fun c9 => ?_) (fun c9 => ?_)
      · have h := h.2 c9
        refine q_aload_n (pc := 45) C 2 2 dX8_appeal_45 rfl rfl ?_
        refine q_gI (pc := 46) C h (T := TX3) rfl (by decide) (wk_u rfl wm_X8_appeal uq_X3 (by decide +kernel)) (by decide +kernel) (fun _ h9 => h9) dX8_appeal_46 (fun x10 h => ?_)
        refine q_aload_n (pc := 49) C 3 1 dX8_appeal_49 rfl rfl ?_
        refine q_gI (pc := 50) C h (T := TX2) rfl (by decide) (wk_u rfl wm_X8_appeal uq_X2 (by decide +kernel)) (by decide +kernel) (fun _ h9 => h9) dX8_appeal_50 (fun x11 h => ?_)
        refine q_icmp_gt (pc := 53) C 73 dX8_appeal_53 (by decide) (fun c12 => ?_) (fun c12 => ?_)
        · have h := h.1 c12
          refine q_iconst (pc := 73) C 0 dX8_appeal_73 (by decide) ?_
          exact q_zretX (pc := 74) C hr hlocks ⟨(by decide), h⟩ dX8_appeal_74 (by omega) (by omega)
        · have h := h.2 c12
          refine q_aload (pc := 56) C 4 0 dX8_appeal_56 rfl ?_
          refine q_gR (pc := 58) C h (T := TX6) rfl (by decide) (wk_u rfl wm_X8_appeal uq_X6 (by decide +kernel)) (by decide +kernel) (fun _ h9 => h9) dX8_appeal_58 (fun x13 h => ?_)
          refine q_aload_n (pc := 61) C 3 1 dX8_appeal_61 rfl rfl ?_
          refine q_acmp_ne (pc := 62) C 73 dX8_appeal_62 (by decide) (fun c14 => ?_) (fun c14 => ?_)
          · have h := h.2 c14
            refine q_iconst (pc := 73) C 0 dX8_appeal_73 (by decide) ?_
            exact q_zretX (pc := 74) C hr hlocks ⟨(by decide), h⟩ dX8_appeal_74 (by omega) (by omega)
          · have h := h.1 c14
            refine q_aload (pc := 65) C 4 0 dX8_appeal_65 rfl ?_
            refine q_gI (pc := 67) C h (T := TX6) rfl (by decide) (wk_u rfl wm_X8_appeal uq_X6 (by decide +kernel)) (by decide +kernel) (fun _ h9 => h9) dX8_appeal_67 (fun x15 h => ?_)
            refine q_if_eq (pc := 70) C 75 dX8_appeal_70 (by decide) (fun c16 => ?_) (fun c16 => ?_)
            · have h := h.1 c16
              refine q_aload_n (pc := 75) C 2 2 dX8_appeal_75 rfl rfl ?_
              refine q_null (pc := 76) C dX8_appeal_76 ?_
              refine q_p (pc := 77) C h (.object "Lullabygate$Land") (T := TX3) tyX3 tyX3_ok nmX3 rfl (by decide +kernel) (q_nrO _ _) (q_ftO _ _) rfl (by decide) (wk_u rfl wm_X8_appeal uq_X3 (by decide +kernel)) (by decide +kernel) (fun _ h9 => h9) rfl dX8_appeal_77 (fun M17 h => ?_)
              refine q_aload_n (pc := 80) C 2 2 dX8_appeal_80 rfl rfl ?_
              refine q_aload (pc := 81) C 4 0 dX8_appeal_81 rfl ?_
              refine q_p (pc := 83) C h (.object "Lullabygate$Sleeper") (T := TX3) tyX3 tyX3_ok nmX3 rfl (by decide +kernel) (q_nrO _ _) (q_ftO _ _) rfl (by decide) (wk_u rfl wm_X8_appeal uq_X3 (by decide +kernel)) (by decide +kernel) (fun _ h9 => h9) rfl dX8_appeal_83 (fun M18 h => ?_)
              refine q_aload_n (pc := 86) C 2 2 dX8_appeal_86 rfl rfl ?_
              refine q_iconst (pc := 87) C 2 dX8_appeal_87 (by decide) ?_
              refine q_p (pc := 88) C h .int (T := TX3) tyX3 tyX3_ok nmX3 rfl (by decide +kernel) rfl rfl rfl (by decide) (wk_u rfl wm_X8_appeal uq_X3 (by decide +kernel)) (by decide +kernel) (fun _ h9 => h9) rfl dX8_appeal_88 (fun M19 h => ?_)
              refine q_aload_n (pc := 91) C 3 1 dX8_appeal_91 rfl rfl ?_
              refine q_dup (pc := 92) C dX8_appeal_92 (q_cat _) ?_
              refine q_gI (pc := 93) C h (T := TX2) rfl (by decide) (wk_u rfl wm_X8_appeal uq_X2 (by decide +kernel)) (by decide +kernel) (fun _ h9 => h9) dX8_appeal_93 (fun x20 h => ?_)
              refine q_aload_n (pc := 96) C 2 2 dX8_appeal_96 rfl rfl ?_
              refine q_gI (pc := 97) C h (T := TX3) rfl (by decide) (wk_u rfl wm_X8_appeal uq_X3 (by decide +kernel)) (by decide +kernel) (fun _ h9 => h9) dX8_appeal_97 (fun x21 h => ?_)
              refine q_isub (pc := 100) C dX8_appeal_100 ?_
              refine q_p (pc := 101) C h .int (T := TX2) tyX2 tyX2_ok nmX2 rfl (by decide +kernel) rfl rfl rfl (by decide) (wk_u rfl wm_X8_appeal uq_X2 (by decide +kernel)) (by decide +kernel) (fun _ h9 => h9) rfl dX8_appeal_101 (fun M22 h => ?_)
              refine q_iconst (pc := 104) C 1 dX8_appeal_104 (by decide) ?_
              exact q_zretX (pc := 105) C hr hlocks ⟨(by decide), h⟩ dX8_appeal_105 (by omega) (by omega)
            · have h := h.2 c16
              refine q_iconst (pc := 73) C 0 dX8_appeal_73 (by decide) ?_
              exact q_zretX (pc := 74) C hr hlocks ⟨(by decide), h⟩ dX8_appeal_74 (by omega) (by omega)
      · have h := h.1 c9
        refine q_widen (k2 := (0 + 1 * t)) (n2 := (0 + 6 * t)) (by omega) (by omega) ?_
        refine q_lv [] rfl ?_
        exact tX8_appeal_34 C hr hlocks hL hx ht h
set_option maxRecDepth 100000 in
set_option maxHeartbeats 4000000 in
theorem kX8_appeal (l : Launch) (G : mG) (b0 : Nat) {t : Nat} (hL : l.stackTraces = false) {b : Nat} {l1 : Int32} {M : mM} {κ : Int32 → mM → Prop} {ξ : String → mM → Prop} (ht : ∀ E M, ξ E M → 1 ≤ t) (h : wX8_appeal κ ξ (some b) l1 M) : vx_Met l yX8_appeal wsX8_appeal ({ frames := 7, cells := (0 + 2 * t), slots := (0 + 12 * t), locals := 111 } : Room) (va_Pc [.ref b, .int l1] (m_Pre G b0 M)) (va_Qi κ (m_B G b0) (fun q => b0 ≤ q)) (m_X G b0 ξ) (0 + 2 * t) (0 + 12 * t) (fun q => b0 ≤ q) := by
  refine m_metX (cc := cX8_appeal) (maxL := 5) (ret := (some .boolean)) (lv := [(0, va_rf (some b)), (1, .int l1)]) RX8 rfl (by decide +kernel) rfl (by first | exact Nat.le_of_ble_eq_true rfl | simp [lg_sl, q_cat, q_catI, q_catJ, q_catR, q_catN]) (by first | rfl | (simp [lv_args, q_cat, q_catI, q_catJ, q_catR, q_catN]; done) | (simp [lv_args, q_cat, q_catI, q_catJ, q_catR, q_catN]; rfl)) ?_
  intro p e s m args below meth c C hr hlocks hx
  exact tX8_appeal C hr hlocks hL hx ht h
/-! X8_beginNight -/
set_option maxRecDepth 100000 in
set_option maxHeartbeats 4000000 in
theorem tX8_beginNight_93 {p : Program} {l : Launch} {e : Env} {s : State} {m : MethodId} {args : Array Value} {below : List Frame} {meth : Method} {c : Code} {G : mG} {b0 : Nat} (C : m_C p s m args c cX8_beginNight 5 RX8 wsX8_beginNight G b0) (hr : meth.sig.returnType = none) (hlocks : meth.locks = false) {κ : mM → Prop} {R44 : Option Nat → Int32 → mM → Prop} (hR44 : ∀ (l0 : Option Nat) (l1 : Int32) (M : mM), R44 l0 l1 M → m_W p l e ({ frames := 3, cells := 0, slots := 0, locals := 64 } : Room) s m args below meth c G b0 (MQ below (va_Qv κ (m_B G b0) (fun q => b0 ≤ q)) args s 0 0 (fun q => b0 ≤ q)) 5 M 0 0 44 [(0, va_rf l0), (1, .int l1)] []) {l0 : Option Nat} {l1 : Int32} {M : mM} (h : wX8_beginNight_93 κ R44 l0 l1 M) : m_W p l e ({ frames := 3, cells := 0, slots := 0, locals := 64 } : Room) s m args below meth c G b0 (MQ below (va_Qv κ (m_B G b0) (fun q => b0 ≤ q)) args s 0 0 (fun q => b0 ≤ q)) 5 M 0 0 93 [(0, va_rf l0), (1, .int l1)] [] := by
  unfold wX8_beginNight_93 at h
  refine q_iinc (pc := 93) C 1 1 (l1 + 1) [(1, .int (l1 + 1)), (0, va_rf l0)] dX8_beginNight_93 rfl (by rfl) (by decide) (by first | rfl | simp [q_cat, q_catI, q_catJ, q_catR, q_catN]) ?_
  refine q_goto (pc := 96) C 44 dX8_beginNight_96 (by decide) ?_
  refine q_widen (k2 := 0) (n2 := 0) (by omega) (by omega) ?_
  refine q_lv [1, 0] rfl ?_
  exact hR44 _ _ _ h
set_option maxRecDepth 100000 in
set_option maxHeartbeats 4000000 in
theorem tX8_beginNight_44 {p : Program} {l : Launch} {e : Env} {s : State} {m : MethodId} {args : Array Value} {below : List Frame} {meth : Method} {c : Code} {G : mG} {b0 : Nat} (C : m_C p s m args c cX8_beginNight 5 RX8 wsX8_beginNight G b0) (hr : meth.sig.returnType = none) (hlocks : meth.locks = false) {κ : mM → Prop} : ∀ (f : Nat) (l0 : Option Nat) (l1 : Int32) (M : mM), wX8_beginNight_44 κ f l0 l1 M → m_W p l e ({ frames := 3, cells := 0, slots := 0, locals := 64 } : Room) s m args below meth c G b0 (MQ below (va_Qv κ (m_B G b0) (fun q => b0 ≤ q)) args s 0 0 (fun q => b0 ≤ q)) 5 M 0 0 44 [(0, va_rf l0), (1, .int l1)] [] := by
  intro f
  induction f with
  | zero =>
    intro l0 l1 M h
    exact absurd h (by simp [wX8_beginNight_44])
  | succ f ih =>
    intro l0 l1 M h
    rw [wX8_beginNight_44] at h
    refine q_iload_n (pc := 44) C 1 1 dX8_beginNight_44 rfl rfl ?_
    refine q_aload_n (pc := 45) C 0 0 dX8_beginNight_45 rfl rfl ?_
    refine q_gR (pc := 46) C h (T := TX8) rfl (by decide) (wk_u rfl wm_X8_beginNight uq_X8 (by decide +kernel)) (by decide +kernel) (fun _ h9 => h9) dX8_beginNight_46 (fun x1 h => ?_)
    obtain ⟨b4, fs9, hb4, hm9, h⟩ := h
    refine q_ci (pc := 49) (q_rV C (st := [.int l1]) (b := b4) (kJx4a65c_size_8abf5 l G b0 h) (cwV 0 C.2.2.2.2.1 gX8_beginNight_Jx4a65c_size_8abf5 rfl rfl rfl (by decide +kernel) ⟨Nat.le_of_ble_eq_true rfl, Nat.le_of_ble_eq_true rfl⟩) hm9 rfl rfl rfl (by first | exact Nat.le_of_ble_eq_true rfl | (simp [q_cat, q_catI, q_catJ, q_catR, q_catN]; done)) (by rw [hb4]; first | done | rfl) dX8_beginNight_49 ⟨(by first | omega | (dsimp only; omega)), (by first | omega | (dsimp only; omega))⟩) (fun x2 M3 h => ?_)
    refine q_icmp_ge (pc := 52) C 99 dX8_beginNight_52 (by decide) (fun c5 => ?_) (fun c5 => ?_)
    · have h := h.1 c5
      exact q_vret (pc := 99) C hr hlocks h dX8_beginNight_99 (by omega) (by omega)
    · have h := h.2 c5
      refine q_aload_n (pc := 55) C 0 0 dX8_beginNight_55 rfl rfl ?_
      refine q_gR (pc := 56) C h (T := TX8) rfl (by decide) (wk_u rfl wm_X8_beginNight uq_X8 (by decide +kernel)) (by decide +kernel) (fun _ h9 => h9) dX8_beginNight_56 (fun x6 h => ?_)
      refine q_iload_n (pc := 59) C 1 1 dX8_beginNight_59 rfl rfl ?_
      obtain ⟨b9, fs9, hb9, hm9, h⟩ := h
      refine q_cq (pc := 60) (q_rV C (st := []) (b := b9) (kJx4a65c_get_915e3 l G b0 h) (cwV 1 C.2.2.2.2.1 gX8_beginNight_Jx4a65c_get_915e3 rfl rfl rfl (by decide +kernel) ⟨Nat.le_of_ble_eq_true rfl, Nat.le_of_ble_eq_true rfl⟩) hm9 rfl rfl rfl (by first | exact Nat.le_of_ble_eq_true rfl | (simp [q_cat, q_catI, q_catJ, q_catR, q_catN]; done)) (by rw [hb9]; first | done | rfl) dX8_beginNight_60 ⟨(by first | omega | (dsimp only; omega)), (by first | omega | (dsimp only; omega))⟩) (fun x7 M8 h => ?_)
      refine q_cast (pc := 63) C h rfl rfl (by decide +kernel) dX8_beginNight_63 (fun h => ?_)
      refine q_astore_n (pc := 66) C 2 [(2, va_rf x7), (0, va_rf l0), (1, .int l1)] dX8_beginNight_66 rfl (by decide) (by first | rfl | simp [q_cat, q_catI, q_catJ, q_catR, q_catN]) ?_
      refine q_aload_n (pc := 67) C 2 0 dX8_beginNight_67 rfl rfl ?_
      refine q_gR (pc := 68) C h (T := TX6) rfl (by decide) (wk_u rfl wm_X8_beginNight uq_X6 (by decide +kernel)) (by decide +kernel) (fun _ h9 => h9) dX8_beginNight_68 (fun x10 h => ?_)
      refine q_ifnull (pc := 71) C 93 dX8_beginNight_71 (by decide) (fun c11 => ?_) (fun c11 => ?_)
      · have h := h.1 c11
        refine q_widen (k2 := 0) (n2 := 0) (by omega) (by omega) ?_
        refine q_lv [1, 2] rfl ?_
        exact tX8_beginNight_93 C hr hlocks ih h
      · have h := h.2 c11
        refine q_aload_n (pc := 74) C 2 0 dX8_beginNight_74 rfl rfl ?_
        refine q_gR (pc := 75) C h (T := TX6) rfl (by decide) (wk_u rfl wm_X8_beginNight uq_X6 (by decide +kernel)) (by decide +kernel) (fun _ h9 => h9) dX8_beginNight_75 (fun x12 h => ?_)
        refine q_gI (pc := 78) C h (T := TX4) rfl (by decide) (wk_u rfl wm_X8_beginNight uq_X4 (by decide +kernel)) (by decide +kernel) (fun _ h9 => h9) dX8_beginNight_78 (fun x13 h => ?_)
        refine q_aload_n (pc := 81) C 0 1 dX8_beginNight_81 rfl rfl ?_
        refine q_gI (pc := 82) C h (T := TX8) rfl (by decide) (wk_u rfl wm_X8_beginNight uq_X8 (by decide +kernel)) (by decide +kernel) (fun _ h9 => h9) dX8_beginNight_82 (fun x14 h => ?_)
        refine q_icmp_ge (pc := 85) C 93 dX8_beginNight_85 (by decide) (fun c15 => ?_) (fun c15 => ?_)
        · have h := h.1 c15
          refine q_widen (k2 := 0) (n2 := 0) (by omega) (by omega) ?_
          refine q_lv [1, 2] rfl ?_
          exact tX8_beginNight_93 C hr hlocks ih h
        · have h := h.2 c15
          refine q_aload_n (pc := 88) C 2 0 dX8_beginNight_88 rfl rfl ?_
          refine q_null (pc := 89) C dX8_beginNight_89 ?_
          refine q_p (pc := 90) C h (.object "Lullabygate$Pass") (T := TX6) tyX6 tyX6_ok nmX6 rfl (by decide +kernel) (q_nrO _ _) (q_ftO _ _) rfl (by decide) (wk_u rfl wm_X8_beginNight uq_X6 (by decide +kernel)) (by decide +kernel) (fun _ h9 => h9) rfl dX8_beginNight_90 (fun M16 h => ?_)
          refine q_widen (k2 := 0) (n2 := 0) (by omega) (by omega) ?_
          refine q_lv [1, 2] rfl ?_
          exact tX8_beginNight_93 C hr hlocks ih h
set_option maxRecDepth 100000 in
set_option maxHeartbeats 4000000 in
theorem tX8_beginNight_20 {p : Program} {l : Launch} {e : Env} {s : State} {m : MethodId} {args : Array Value} {below : List Frame} {meth : Method} {c : Code} {G : mG} {b0 : Nat} (C : m_C p s m args c cX8_beginNight 5 RX8 wsX8_beginNight G b0) (hr : meth.sig.returnType = none) (hlocks : meth.locks = false) {κ : mM → Prop} : ∀ (f : Nat) (l0 : Option Nat) (l1 : Option Nat) (l2 : Int32) (l3 : Int32) (M : mM), wX8_beginNight_20 κ f l0 l1 l2 l3 M → m_W p l e ({ frames := 3, cells := 0, slots := 0, locals := 64 } : Room) s m args below meth c G b0 (MQ below (va_Qv κ (m_B G b0) (fun q => b0 ≤ q)) args s 0 0 (fun q => b0 ≤ q)) 5 M 0 0 20 [(0, va_rf l0), (1, va_rf l1), (2, .int l2), (3, .int l3)] [] := by
  intro f
  induction f with
  | zero =>
    intro l0 l1 l2 l3 M h
    exact absurd h (by simp [wX8_beginNight_20])
  | succ f ih =>
    intro l0 l1 l2 l3 M h
    rw [wX8_beginNight_20] at h
    refine q_iload_n (pc := 20) C 3 3 dX8_beginNight_20 rfl rfl ?_
    refine q_iload_n (pc := 21) C 2 2 dX8_beginNight_21 rfl rfl ?_
    refine q_icmp_ge (pc := 22) C 42 dX8_beginNight_22 (by decide) (fun c1 => ?_) (fun c1 => ?_)
    · have h := h.1 c1
      refine q_iconst (pc := 42) C 0 dX8_beginNight_42 (by decide) ?_
      refine q_istore_n (pc := 43) C 1 [(1, .int 0), (0, va_rf l0), (2, .int l2), (3, .int l3)] dX8_beginNight_43 rfl (by decide) (by first | rfl | simp [q_cat, q_catI, q_catJ, q_catR, q_catN]) ?_
      refine q_widen (k2 := 0) (n2 := 0) (by omega) (by omega) ?_
      refine q_lv [1, 0] rfl ?_
      obtain ⟨f9, h⟩ := h
      exact tX8_beginNight_44 C hr hlocks f9 _ _ _ h
    · have h := h.2 c1
      refine q_aload_n (pc := 25) C 1 1 dX8_beginNight_25 rfl rfl ?_
      refine q_iload_n (pc := 26) C 3 3 dX8_beginNight_26 rfl rfl ?_
      refine q_aald (pc := 27) C h rfl dX8_beginNight_27 (fun x2 h => ?_)
      refine q_astore (pc := 28) C 4 [(4, va_rf x2), (0, va_rf l0), (1, va_rf l1), (2, .int l2), (3, .int l3)] dX8_beginNight_28 (by decide) (by first | rfl | simp [q_cat, q_catI, q_catJ, q_catR, q_catN]) ?_
      refine q_aload (pc := 30) C 4 0 dX8_beginNight_30 rfl ?_
      refine q_iconst (pc := 32) C 0 dX8_beginNight_32 (by decide) ?_
      refine q_p (pc := 33) C h .int (T := TX2) tyX2 tyX2_ok nmX2 rfl (by decide +kernel) rfl rfl rfl (by decide) (wk_u rfl wm_X8_beginNight uq_X2 (by decide +kernel)) (by decide +kernel) (fun _ h9 => h9) rfl dX8_beginNight_33 (fun M3 h => ?_)
      refine q_iinc (pc := 36) C 3 4 (l3 + 1) [(3, .int (l3 + 1)), (4, va_rf x2), (0, va_rf l0), (1, va_rf l1), (2, .int l2)] dX8_beginNight_36 rfl (by rfl) (by decide) (by first | rfl | simp [q_cat, q_catI, q_catJ, q_catR, q_catN]) ?_
      refine q_goto (pc := 39) C 20 dX8_beginNight_39 (by decide) ?_
      refine q_widen (k2 := 0) (n2 := 0) (by omega) (by omega) ?_
      refine q_lv [2, 3, 4, 0] rfl ?_
      exact ih _ _ _ _ _ h
set_option maxRecDepth 100000 in
set_option maxHeartbeats 4000000 in
theorem tX8_beginNight {p : Program} {l : Launch} {e : Env} {s : State} {m : MethodId} {args : Array Value} {below : List Frame} {meth : Method} {c : Code} {G : mG} {b0 : Nat} (C : m_C p s m args c cX8_beginNight 5 RX8 wsX8_beginNight G b0) (hr : meth.sig.returnType = none) (hlocks : meth.locks = false) {κ : mM → Prop} {l0 : Option Nat} {M : mM} (h : wX8_beginNight κ l0 M) : m_W p l e ({ frames := 3, cells := 0, slots := 0, locals := 64 } : Room) s m args below meth c G b0 (MQ below (va_Qv κ (m_B G b0) (fun q => b0 ≤ q)) args s 0 0 (fun q => b0 ≤ q)) 5 M 0 0 0 [(0, va_rf l0)] [] := by
  unfold wX8_beginNight at h
  refine q_aload_n (pc := 0) C 0 0 dX8_beginNight_0 rfl rfl ?_
  refine q_dup (pc := 1) C dX8_beginNight_1 (q_cat _) ?_
  refine q_gI (pc := 2) C h (T := TX8) rfl (by decide) (wk_u rfl wm_X8_beginNight uq_X8 (by decide +kernel)) (by decide +kernel) (fun _ h9 => h9) dX8_beginNight_2 (fun x1 h => ?_)
  refine q_iconst (pc := 5) C 1 dX8_beginNight_5 (by decide) ?_
  refine q_iadd (pc := 6) C dX8_beginNight_6 ?_
  refine q_p (pc := 7) C h .int (T := TX8) tyX8 tyX8_ok nmX8 rfl (by decide +kernel) rfl rfl rfl (by decide) (wk_u rfl wm_X8_beginNight uq_X8 (by decide +kernel)) (by decide +kernel) (fun _ h9 => h9) rfl dX8_beginNight_7 (fun M2 h => ?_)
  refine q_aload_n (pc := 10) C 0 0 dX8_beginNight_10 rfl rfl ?_
  refine q_gR (pc := 11) C h (T := TX8) rfl (by decide) (wk_u rfl wm_X8_beginNight uq_X8 (by decide +kernel)) (by decide +kernel) (fun _ h9 => h9) dX8_beginNight_11 (fun x3 h => ?_)
  refine q_astore_n (pc := 14) C 1 [(1, va_rf x3), (0, va_rf l0)] dX8_beginNight_14 rfl (by decide) (by first | rfl | simp [q_cat, q_catI, q_catJ, q_catR, q_catN]) ?_
  refine q_aload_n (pc := 15) C 1 0 dX8_beginNight_15 rfl rfl ?_
  refine q_len (pc := 16) C h dX8_beginNight_16 (fun x4 h => ?_)
  refine q_istore_n (pc := 17) C 2 [(2, .int x4), (1, va_rf x3), (0, va_rf l0)] dX8_beginNight_17 rfl (by decide) (by first | rfl | simp [q_cat, q_catI, q_catJ, q_catR, q_catN]) ?_
  refine q_iconst (pc := 18) C 0 dX8_beginNight_18 (by decide) ?_
  refine q_istore_n (pc := 19) C 3 [(3, .int 0), (2, .int x4), (1, va_rf x3), (0, va_rf l0)] dX8_beginNight_19 rfl (by decide) (by first | rfl | simp [q_cat, q_catI, q_catJ, q_catR, q_catN]) ?_
  refine q_widen (k2 := 0) (n2 := 0) (by omega) (by omega) ?_
  refine q_lv [3, 2, 1, 0] rfl ?_
  obtain ⟨f9, h⟩ := h
  exact tX8_beginNight_20 C hr hlocks f9 _ _ _ _ _ h
set_option maxRecDepth 100000 in
set_option maxHeartbeats 4000000 in
theorem kX8_beginNight (l : Launch) (G : mG) (b0 : Nat) {b : Nat} {M : mM} {κ : mM → Prop} (h : wX8_beginNight κ (some b) M) : Met l yX8_beginNight wsX8_beginNight ({ frames := 3, cells := 0, slots := 0, locals := 64 } : Room) (va_Pc [.ref b] (m_Pre G b0 M)) (va_Qv κ (m_B G b0) (fun q => b0 ≤ q)) 0 0 (fun q => b0 ≤ q) := by
  refine m_met (cc := cX8_beginNight) (maxL := 5) (ret := none) (lv := [(0, va_rf (some b))]) RX8 rfl (by decide +kernel) rfl (by first | exact Nat.le_of_ble_eq_true rfl | simp [lg_sl, q_cat, q_catI, q_catJ, q_catR, q_catN]) (by first | rfl | (simp [lv_args, q_cat, q_catI, q_catJ, q_catR, q_catN]; done) | (simp [lv_args, q_cat, q_catI, q_catJ, q_catR, q_catN]; rfl)) ?_
  intro p e s m args below meth c C hr hlocks hni
  exact tX8_beginNight C hr hlocks h
/-! X8_spreadRevoked -/
set_option maxRecDepth 100000 in
set_option maxHeartbeats 4000000 in
theorem tX8_spreadRevoked_101 {p : Program} {l : Launch} {e : Env} {s : State} {m : MethodId} {args : Array Value} {below : List Frame} {meth : Method} {c : Code} {G : mG} {b0 : Nat} (C : m_C p s m args c cX8_spreadRevoked 5 RX8 wsX8_spreadRevoked G b0) (hr : meth.sig.returnType = none) (hlocks : meth.locks = false) {κ : mM → Prop} : ∀ (f : Nat) (l0 : Option Nat) (l1 : Int32) (M : mM), wX8_spreadRevoked_101 κ f l0 l1 M → m_W p l e ({ frames := 3, cells := 0, slots := 0, locals := 64 } : Room) s m args below meth c G b0 (MQ below (va_Qv κ (m_B G b0) (fun q => b0 ≤ q)) args s 0 0 (fun q => b0 ≤ q)) 5 M 0 0 101 [(0, va_rf l0), (1, .int l1)] [] := by
  intro f
  induction f with
  | zero =>
    intro l0 l1 M h
    exact absurd h (by simp [wX8_spreadRevoked_101])
  | succ f ih =>
    intro l0 l1 M h
    rw [wX8_spreadRevoked_101] at h
    refine q_iload_n (pc := 101) C 1 1 dX8_spreadRevoked_101 rfl rfl ?_
    refine q_aload_n (pc := 102) C 0 0 dX8_spreadRevoked_102 rfl rfl ?_
    refine q_gR (pc := 103) C h (T := TX8) rfl (by decide) (wk_u rfl wm_X8_spreadRevoked uq_X8 (by decide +kernel)) (by decide +kernel) (fun _ h9 => h9) dX8_spreadRevoked_103 (fun x1 h => ?_)
    obtain ⟨b4, fs9, hb4, hm9, h⟩ := h
    refine q_ci (pc := 106) (q_rV C (st := [.int l1]) (b := b4) (kJx4a65c_size_8abf5 l G b0 h) (cwV 0 C.2.2.2.2.1 gX8_spreadRevoked_Jx4a65c_size_8abf5 rfl rfl rfl (by decide +kernel) ⟨Nat.le_of_ble_eq_true rfl, Nat.le_of_ble_eq_true rfl⟩) hm9 rfl rfl rfl (by first | exact Nat.le_of_ble_eq_true rfl | (simp [q_cat, q_catI, q_catJ, q_catR, q_catN]; done)) (by rw [hb4]; first | done | rfl) dX8_spreadRevoked_106 ⟨(by first | omega | (dsimp only; omega)), (by first | omega | (dsimp only; omega))⟩) (fun x2 M3 h => ?_)
    refine q_icmp_ge (pc := 109) C 141 dX8_spreadRevoked_109 (by decide) (fun c5 => ?_) (fun c5 => ?_)
    · have h := h.1 c5
      exact q_vret (pc := 141) C hr hlocks h dX8_spreadRevoked_141 (by omega) (by omega)
    · have h := h.2 c5
      refine q_aload_n (pc := 112) C 0 0 dX8_spreadRevoked_112 rfl rfl ?_
      refine q_gR (pc := 113) C h (T := TX8) rfl (by decide) (wk_u rfl wm_X8_spreadRevoked uq_X8 (by decide +kernel)) (by decide +kernel) (fun _ h9 => h9) dX8_spreadRevoked_113 (fun x6 h => ?_)
      refine q_iload_n (pc := 116) C 1 1 dX8_spreadRevoked_116 rfl rfl ?_
      obtain ⟨b9, fs9, hb9, hm9, h⟩ := h
      refine q_cq (pc := 117) (q_rV C (st := []) (b := b9) (kJx4a65c_get_915e3 l G b0 h) (cwV 1 C.2.2.2.2.1 gX8_spreadRevoked_Jx4a65c_get_915e3 rfl rfl rfl (by decide +kernel) ⟨Nat.le_of_ble_eq_true rfl, Nat.le_of_ble_eq_true rfl⟩) hm9 rfl rfl rfl (by first | exact Nat.le_of_ble_eq_true rfl | (simp [q_cat, q_catI, q_catJ, q_catR, q_catN]; done)) (by rw [hb9]; first | done | rfl) dX8_spreadRevoked_117 ⟨(by first | omega | (dsimp only; omega)), (by first | omega | (dsimp only; omega))⟩) (fun x7 M8 h => ?_)
      refine q_cast (pc := 120) C h rfl rfl (by decide +kernel) dX8_spreadRevoked_120 (fun h => ?_)
      refine q_astore_n (pc := 123) C 2 [(2, va_rf x7), (0, va_rf l0), (1, .int l1)] dX8_spreadRevoked_123 rfl (by decide) (by first | rfl | simp [q_cat, q_catI, q_catJ, q_catR, q_catN]) ?_
      refine q_aload_n (pc := 124) C 2 0 dX8_spreadRevoked_124 rfl rfl ?_
      refine q_gR (pc := 125) C h (T := TX0) rfl (by decide) (wk_u rfl wm_X8_spreadRevoked uq_X0 (by decide +kernel)) (by decide +kernel) (fun _ h9 => h9) dX8_spreadRevoked_125 (fun x10 h => ?_)
      refine q_aload_n (pc := 128) C 2 0 dX8_spreadRevoked_128 rfl rfl ?_
      refine q_gR (pc := 129) C h (T := TX0) rfl (by decide) (wk_u rfl wm_X8_spreadRevoked uq_X0 (by decide +kernel)) (by decide +kernel) (fun _ h9 => h9) dX8_spreadRevoked_129 (fun x11 h => ?_)
      obtain ⟨b13, fs9, hb13, hm9, h⟩ := h
      refine q_cv (pc := 132) (q_rV C (st := []) (b := b13) (kX7_putAll l G b0 h) (cwV 1 C.2.2.2.2.1 gX8_spreadRevoked_X7_putAll rfl rfl rfl (by decide +kernel) ⟨Nat.le_of_ble_eq_true rfl, Nat.le_of_ble_eq_true rfl⟩) hm9 rfl rfl rfl (by first | exact Nat.le_of_ble_eq_true rfl | (simp [q_cat, q_catI, q_catJ, q_catR, q_catN]; done)) (by rw [hb13]; first | done | rfl) dX8_spreadRevoked_132 ⟨(by first | omega | (dsimp only; omega)), (by first | omega | (dsimp only; omega))⟩) (fun M12 h => ?_)
      refine q_iinc (pc := 135) C 1 2 (l1 + 1) [(1, .int (l1 + 1)), (2, va_rf x7), (0, va_rf l0)] dX8_spreadRevoked_135 rfl (by rfl) (by decide) (by first | rfl | simp [q_cat, q_catI, q_catJ, q_catR, q_catN]) ?_
      refine q_goto (pc := 138) C 101 dX8_spreadRevoked_138 (by decide) ?_
      refine q_widen (k2 := 0) (n2 := 0) (by omega) (by omega) ?_
      refine q_lv [2, 0] rfl ?_
      exact ih _ _ _ h
set_option maxRecDepth 100000 in
set_option maxHeartbeats 4000000 in
theorem tX8_spreadRevoked_87 {p : Program} {l : Launch} {e : Env} {s : State} {m : MethodId} {args : Array Value} {below : List Frame} {meth : Method} {c : Code} {G : mG} {b0 : Nat} (C : m_C p s m args c cX8_spreadRevoked 5 RX8 wsX8_spreadRevoked G b0) (hr : meth.sig.returnType = none) (hlocks : meth.locks = false) {κ : mM → Prop} {R2 : Option Nat → Int32 → mM → Prop} (hR2 : ∀ (l0 : Option Nat) (l1 : Int32) (M : mM), R2 l0 l1 M → m_W p l e ({ frames := 3, cells := 0, slots := 0, locals := 64 } : Room) s m args below meth c G b0 (MQ below (va_Qv κ (m_B G b0) (fun q => b0 ≤ q)) args s 0 0 (fun q => b0 ≤ q)) 5 M 0 0 2 [(0, va_rf l0), (1, .int l1)] []) {R27 : Option Nat → Int32 → Option Nat → Int32 → mM → Prop} (hR27 : ∀ (l0 : Option Nat) (l1 : Int32) (l2 : Option Nat) (l3 : Int32) (M : mM), R27 l0 l1 l2 l3 M → m_W p l e ({ frames := 3, cells := 0, slots := 0, locals := 64 } : Room) s m args below meth c G b0 (MQ below (va_Qv κ (m_B G b0) (fun q => b0 ≤ q)) args s 0 0 (fun q => b0 ≤ q)) 5 M 0 0 27 [(0, va_rf l0), (1, .int l1), (2, va_rf l2), (3, .int l3)] []) {l0 : Option Nat} {l1 : Int32} {l2 : Option Nat} {l3 : Int32} {M : mM} (h : wX8_spreadRevoked_87 κ R2 R27 l0 l1 l2 l3 M) : m_W p l e ({ frames := 3, cells := 0, slots := 0, locals := 64 } : Room) s m args below meth c G b0 (MQ below (va_Qv κ (m_B G b0) (fun q => b0 ≤ q)) args s 0 0 (fun q => b0 ≤ q)) 5 M 0 0 87 [(0, va_rf l0), (1, .int l1), (2, va_rf l2), (3, .int l3)] [] := by
  unfold wX8_spreadRevoked_87 at h
  refine q_iinc (pc := 87) C 3 3 (l3 + 1) [(3, .int (l3 + 1)), (0, va_rf l0), (1, .int l1), (2, va_rf l2)] dX8_spreadRevoked_87 rfl (by rfl) (by decide) (by first | rfl | simp [q_cat, q_catI, q_catJ, q_catR, q_catN]) ?_
  refine q_goto (pc := 90) C 27 dX8_spreadRevoked_90 (by decide) ?_
  refine q_widen (k2 := 0) (n2 := 0) (by omega) (by omega) ?_
  refine q_lv [1, 2, 3, 0] rfl ?_
  exact hR27 _ _ _ _ _ h
set_option maxRecDepth 100000 in
set_option maxHeartbeats 4000000 in
theorem tX8_spreadRevoked_75 {p : Program} {l : Launch} {e : Env} {s : State} {m : MethodId} {args : Array Value} {below : List Frame} {meth : Method} {c : Code} {G : mG} {b0 : Nat} (C : m_C p s m args c cX8_spreadRevoked 5 RX8 wsX8_spreadRevoked G b0) (hr : meth.sig.returnType = none) (hlocks : meth.locks = false) {κ : mM → Prop} {R2 : Option Nat → Int32 → mM → Prop} (hR2 : ∀ (l0 : Option Nat) (l1 : Int32) (M : mM), R2 l0 l1 M → m_W p l e ({ frames := 3, cells := 0, slots := 0, locals := 64 } : Room) s m args below meth c G b0 (MQ below (va_Qv κ (m_B G b0) (fun q => b0 ≤ q)) args s 0 0 (fun q => b0 ≤ q)) 5 M 0 0 2 [(0, va_rf l0), (1, .int l1)] []) {R27 : Option Nat → Int32 → Option Nat → Int32 → mM → Prop} (hR27 : ∀ (l0 : Option Nat) (l1 : Int32) (l2 : Option Nat) (l3 : Int32) (M : mM), R27 l0 l1 l2 l3 M → m_W p l e ({ frames := 3, cells := 0, slots := 0, locals := 64 } : Room) s m args below meth c G b0 (MQ below (va_Qv κ (m_B G b0) (fun q => b0 ≤ q)) args s 0 0 (fun q => b0 ≤ q)) 5 M 0 0 27 [(0, va_rf l0), (1, .int l1), (2, va_rf l2), (3, .int l3)] []) {l0 : Option Nat} {l1 : Int32} {l2 : Option Nat} {l3 : Int32} {l4 : Option Nat} {M : mM} (h : wX8_spreadRevoked_75 κ R2 R27 l0 l1 l2 l3 l4 M) : m_W p l e ({ frames := 3, cells := 0, slots := 0, locals := 64 } : Room) s m args below meth c G b0 (MQ below (va_Qv κ (m_B G b0) (fun q => b0 ≤ q)) args s 0 0 (fun q => b0 ≤ q)) 5 M 0 0 75 [(0, va_rf l0), (1, .int l1), (2, va_rf l2), (3, .int l3), (4, va_rf l4)] [] := by
  unfold wX8_spreadRevoked_75 at h
  refine q_aload_n (pc := 75) C 2 2 dX8_spreadRevoked_75 rfl rfl ?_
  refine q_gR (pc := 76) C h (T := TX0) rfl (by decide) (wk_u rfl wm_X8_spreadRevoked uq_X0 (by decide +kernel)) (by decide +kernel) (fun _ h9 => h9) dX8_spreadRevoked_76 (fun x1 h => ?_)
  refine q_aload (pc := 79) C 4 4 dX8_spreadRevoked_79 rfl ?_
  refine q_gR (pc := 81) C h (T := TX0) rfl (by decide) (wk_u rfl wm_X8_spreadRevoked uq_X0 (by decide +kernel)) (by decide +kernel) (fun _ h9 => h9) dX8_spreadRevoked_81 (fun x2 h => ?_)
  obtain ⟨b4, fs9, hb4, hm9, h⟩ := h
  refine q_cv (pc := 84) (q_rV C (st := []) (b := b4) (kX7_putAll l G b0 h) (cwV 1 C.2.2.2.2.1 gX8_spreadRevoked_X7_putAll rfl rfl rfl (by decide +kernel) ⟨Nat.le_of_ble_eq_true rfl, Nat.le_of_ble_eq_true rfl⟩) hm9 rfl rfl rfl (by first | exact Nat.le_of_ble_eq_true rfl | (simp [q_cat, q_catI, q_catJ, q_catR, q_catN]; done)) (by rw [hb4]; first | done | rfl) dX8_spreadRevoked_84 ⟨(by first | omega | (dsimp only; omega)), (by first | omega | (dsimp only; omega))⟩) (fun M3 h => ?_)
  refine q_widen (k2 := 0) (n2 := 0) (by omega) (by omega) ?_
  refine q_lv [0, 1, 2, 3] rfl ?_
  exact tX8_spreadRevoked_87 C hr hlocks hR2 hR27 h
set_option maxRecDepth 100000 in
set_option maxHeartbeats 4000000 in
theorem tX8_spreadRevoked_27 {p : Program} {l : Launch} {e : Env} {s : State} {m : MethodId} {args : Array Value} {below : List Frame} {meth : Method} {c : Code} {G : mG} {b0 : Nat} (C : m_C p s m args c cX8_spreadRevoked 5 RX8 wsX8_spreadRevoked G b0) (hr : meth.sig.returnType = none) (hlocks : meth.locks = false) {κ : mM → Prop} {R2 : Option Nat → Int32 → mM → Prop} (hR2 : ∀ (l0 : Option Nat) (l1 : Int32) (M : mM), R2 l0 l1 M → m_W p l e ({ frames := 3, cells := 0, slots := 0, locals := 64 } : Room) s m args below meth c G b0 (MQ below (va_Qv κ (m_B G b0) (fun q => b0 ≤ q)) args s 0 0 (fun q => b0 ≤ q)) 5 M 0 0 2 [(0, va_rf l0), (1, .int l1)] []) : ∀ (f : Nat) (l0 : Option Nat) (l1 : Int32) (l2 : Option Nat) (l3 : Int32) (M : mM), wX8_spreadRevoked_27 κ R2 f l0 l1 l2 l3 M → m_W p l e ({ frames := 3, cells := 0, slots := 0, locals := 64 } : Room) s m args below meth c G b0 (MQ below (va_Qv κ (m_B G b0) (fun q => b0 ≤ q)) args s 0 0 (fun q => b0 ≤ q)) 5 M 0 0 27 [(0, va_rf l0), (1, .int l1), (2, va_rf l2), (3, .int l3)] [] := by
  intro f
  induction f with
  | zero =>
    intro l0 l1 l2 l3 M h
    exact absurd h (by simp [wX8_spreadRevoked_27])
  | succ f ih =>
    intro l0 l1 l2 l3 M h
    rw [wX8_spreadRevoked_27] at h
    refine q_iload_n (pc := 27) C 3 3 dX8_spreadRevoked_27 rfl rfl ?_
    refine q_aload_n (pc := 28) C 0 0 dX8_spreadRevoked_28 rfl rfl ?_
    refine q_gR (pc := 29) C h (T := TX8) rfl (by decide) (wk_u rfl wm_X8_spreadRevoked uq_X8 (by decide +kernel)) (by decide +kernel) (fun _ h9 => h9) dX8_spreadRevoked_29 (fun x1 h => ?_)
    obtain ⟨b4, fs9, hb4, hm9, h⟩ := h
    refine q_ci (pc := 32) (q_rV C (st := [.int l3]) (b := b4) (kJx4a65c_size_8abf5 l G b0 h) (cwV 0 C.2.2.2.2.1 gX8_spreadRevoked_Jx4a65c_size_8abf5 rfl rfl rfl (by decide +kernel) ⟨Nat.le_of_ble_eq_true rfl, Nat.le_of_ble_eq_true rfl⟩) hm9 rfl rfl rfl (by first | exact Nat.le_of_ble_eq_true rfl | (simp [q_cat, q_catI, q_catJ, q_catR, q_catN]; done)) (by rw [hb4]; first | done | rfl) dX8_spreadRevoked_32 ⟨(by first | omega | (dsimp only; omega)), (by first | omega | (dsimp only; omega))⟩) (fun x2 M3 h => ?_)
    refine q_icmp_ge (pc := 35) C 93 dX8_spreadRevoked_35 (by decide) (fun c5 => ?_) (fun c5 => ?_)
    · have h := h.1 c5
      refine q_iinc (pc := 93) C 1 1 (l1 + 1) [(1, .int (l1 + 1)), (0, va_rf l0), (2, va_rf l2), (3, .int l3)] dX8_spreadRevoked_93 rfl (by rfl) (by decide) (by first | rfl | simp [q_cat, q_catI, q_catJ, q_catR, q_catN]) ?_
      refine q_goto (pc := 96) C 2 dX8_spreadRevoked_96 (by decide) ?_
      refine q_widen (k2 := 0) (n2 := 0) (by omega) (by omega) ?_
      refine q_lv [1, 0] rfl ?_
      exact hR2 _ _ _ h
    · have h := h.2 c5
      refine q_aload_n (pc := 38) C 0 0 dX8_spreadRevoked_38 rfl rfl ?_
      refine q_gR (pc := 39) C h (T := TX8) rfl (by decide) (wk_u rfl wm_X8_spreadRevoked uq_X8 (by decide +kernel)) (by decide +kernel) (fun _ h9 => h9) dX8_spreadRevoked_39 (fun x6 h => ?_)
      refine q_iload_n (pc := 42) C 3 3 dX8_spreadRevoked_42 rfl rfl ?_
      obtain ⟨b9, fs9, hb9, hm9, h⟩ := h
      refine q_cq (pc := 43) (q_rV C (st := []) (b := b9) (kJx4a65c_get_915e3 l G b0 h) (cwV 1 C.2.2.2.2.1 gX8_spreadRevoked_Jx4a65c_get_915e3 rfl rfl rfl (by decide +kernel) ⟨Nat.le_of_ble_eq_true rfl, Nat.le_of_ble_eq_true rfl⟩) hm9 rfl rfl rfl (by first | exact Nat.le_of_ble_eq_true rfl | (simp [q_cat, q_catI, q_catJ, q_catR, q_catN]; done)) (by rw [hb9]; first | done | rfl) dX8_spreadRevoked_43 ⟨(by first | omega | (dsimp only; omega)), (by first | omega | (dsimp only; omega))⟩) (fun x7 M8 h => ?_)
      refine q_cast (pc := 46) C h rfl rfl (by decide +kernel) dX8_spreadRevoked_46 (fun h => ?_)
      refine q_astore (pc := 49) C 4 [(4, va_rf x7), (0, va_rf l0), (1, .int l1), (2, va_rf l2), (3, .int l3)] dX8_spreadRevoked_49 (by decide) (by first | rfl | simp [q_cat, q_catI, q_catJ, q_catR, q_catN]) ?_
      refine q_aload_n (pc := 51) C 2 3 dX8_spreadRevoked_51 rfl rfl ?_
      refine q_aload (pc := 52) C 4 0 dX8_spreadRevoked_52 rfl ?_
      refine q_gR (pc := 54) C h (T := TX0) rfl (by decide) (wk_u rfl wm_X8_spreadRevoked uq_X0 (by decide +kernel)) (by decide +kernel) (fun _ h9 => h9) dX8_spreadRevoked_54 (fun x10 h => ?_)
      obtain ⟨b13, fs9, hb13, hm9, h⟩ := h
      refine q_ci (pc := 57) (q_rV C (st := []) (b := b13) (kX0_isAt l G b0 h) (cwV 1 C.2.2.2.2.1 gX8_spreadRevoked_X0_isAt rfl rfl rfl (by decide +kernel) ⟨Nat.le_of_ble_eq_true rfl, Nat.le_of_ble_eq_true rfl⟩) hm9 rfl rfl rfl (by first | exact Nat.le_of_ble_eq_true rfl | (simp [q_cat, q_catI, q_catJ, q_catR, q_catN]; done)) (by rw [hb13]; first | done | rfl) dX8_spreadRevoked_57 ⟨(by first | omega | (dsimp only; omega)), (by first | omega | (dsimp only; omega))⟩) (fun x11 M12 h => ?_)
      refine q_if_ne (pc := 60) C 75 dX8_spreadRevoked_60 (by decide) (fun c14 => ?_) (fun c14 => ?_)
      · have h := h.2 c14
        refine q_widen (k2 := 0) (n2 := 0) (by omega) (by omega) ?_
        refine q_lv [1, 2, 3, 4, 0] rfl ?_
        exact tX8_spreadRevoked_75 C hr hlocks hR2 ih h
      · have h := h.1 c14
        refine q_aload_n (pc := 63) C 2 3 dX8_spreadRevoked_63 rfl rfl ?_
        refine q_aload (pc := 64) C 4 0 dX8_spreadRevoked_64 rfl ?_
        refine q_gR (pc := 66) C h (T := TX0) rfl (by decide) (wk_u rfl wm_X8_spreadRevoked uq_X0 (by decide +kernel)) (by decide +kernel) (fun _ h9 => h9) dX8_spreadRevoked_66 (fun x15 h => ?_)
        obtain ⟨b18, fs9, hb18, hm9, h⟩ := h
        refine q_ci (pc := 69) (q_rV C (st := []) (b := b18) (kX0_isAt l G b0 h) (cwV 1 C.2.2.2.2.1 gX8_spreadRevoked_X0_isAt rfl rfl rfl (by decide +kernel) ⟨Nat.le_of_ble_eq_true rfl, Nat.le_of_ble_eq_true rfl⟩) hm9 rfl rfl rfl (by first | exact Nat.le_of_ble_eq_true rfl | (simp [q_cat, q_catI, q_catJ, q_catR, q_catN]; done)) (by rw [hb18]; first | done | rfl) dX8_spreadRevoked_69 ⟨(by first | omega | (dsimp only; omega)), (by first | omega | (dsimp only; omega))⟩) (fun x16 M17 h => ?_)
        refine q_if_eq (pc := 72) C 87 dX8_spreadRevoked_72 (by decide) (fun c19 => ?_) (fun c19 => ?_)
        · have h := h.1 c19
          refine q_widen (k2 := 0) (n2 := 0) (by omega) (by omega) ?_
          refine q_lv [1, 2, 3, 4] rfl ?_
          exact tX8_spreadRevoked_87 C hr hlocks hR2 ih h
        · have h := h.2 c19
          refine q_widen (k2 := 0) (n2 := 0) (by omega) (by omega) ?_
          refine q_lv [1, 2, 3, 4, 0] rfl ?_
          exact tX8_spreadRevoked_75 C hr hlocks hR2 ih h
set_option maxRecDepth 100000 in
set_option maxHeartbeats 4000000 in
theorem tX8_spreadRevoked_2 {p : Program} {l : Launch} {e : Env} {s : State} {m : MethodId} {args : Array Value} {below : List Frame} {meth : Method} {c : Code} {G : mG} {b0 : Nat} (C : m_C p s m args c cX8_spreadRevoked 5 RX8 wsX8_spreadRevoked G b0) (hr : meth.sig.returnType = none) (hlocks : meth.locks = false) {κ : mM → Prop} : ∀ (f : Nat) (l0 : Option Nat) (l1 : Int32) (M : mM), wX8_spreadRevoked_2 κ f l0 l1 M → m_W p l e ({ frames := 3, cells := 0, slots := 0, locals := 64 } : Room) s m args below meth c G b0 (MQ below (va_Qv κ (m_B G b0) (fun q => b0 ≤ q)) args s 0 0 (fun q => b0 ≤ q)) 5 M 0 0 2 [(0, va_rf l0), (1, .int l1)] [] := by
  intro f
  induction f with
  | zero =>
    intro l0 l1 M h
    exact absurd h (by simp [wX8_spreadRevoked_2])
  | succ f ih =>
    intro l0 l1 M h
    rw [wX8_spreadRevoked_2] at h
    refine q_iload_n (pc := 2) C 1 1 dX8_spreadRevoked_2 rfl rfl ?_
    refine q_aload_n (pc := 3) C 0 0 dX8_spreadRevoked_3 rfl rfl ?_
    refine q_gR (pc := 4) C h (T := TX8) rfl (by decide) (wk_u rfl wm_X8_spreadRevoked uq_X8 (by decide +kernel)) (by decide +kernel) (fun _ h9 => h9) dX8_spreadRevoked_4 (fun x1 h => ?_)
    obtain ⟨b4, fs9, hb4, hm9, h⟩ := h
    refine q_ci (pc := 7) (q_rV C (st := [.int l1]) (b := b4) (kJx4a65c_size_8abf5 l G b0 h) (cwV 0 C.2.2.2.2.1 gX8_spreadRevoked_Jx4a65c_size_8abf5 rfl rfl rfl (by decide +kernel) ⟨Nat.le_of_ble_eq_true rfl, Nat.le_of_ble_eq_true rfl⟩) hm9 rfl rfl rfl (by first | exact Nat.le_of_ble_eq_true rfl | (simp [q_cat, q_catI, q_catJ, q_catR, q_catN]; done)) (by rw [hb4]; first | done | rfl) dX8_spreadRevoked_7 ⟨(by first | omega | (dsimp only; omega)), (by first | omega | (dsimp only; omega))⟩) (fun x2 M3 h => ?_)
    refine q_icmp_ge (pc := 10) C 99 dX8_spreadRevoked_10 (by decide) (fun c5 => ?_) (fun c5 => ?_)
    · have h := h.1 c5
      refine q_iconst (pc := 99) C 0 dX8_spreadRevoked_99 (by decide) ?_
      refine q_istore_n (pc := 100) C 1 [(1, .int 0), (0, va_rf l0)] dX8_spreadRevoked_100 rfl (by decide) (by first | rfl | simp [q_cat, q_catI, q_catJ, q_catR, q_catN]) ?_
      refine q_widen (k2 := 0) (n2 := 0) (by omega) (by omega) ?_
      refine q_lv [1, 0] rfl ?_
      obtain ⟨f9, h⟩ := h
      exact tX8_spreadRevoked_101 C hr hlocks f9 _ _ _ h
    · have h := h.2 c5
      refine q_aload_n (pc := 13) C 0 0 dX8_spreadRevoked_13 rfl rfl ?_
      refine q_gR (pc := 14) C h (T := TX8) rfl (by decide) (wk_u rfl wm_X8_spreadRevoked uq_X8 (by decide +kernel)) (by decide +kernel) (fun _ h9 => h9) dX8_spreadRevoked_14 (fun x6 h => ?_)
      refine q_iload_n (pc := 17) C 1 1 dX8_spreadRevoked_17 rfl rfl ?_
      obtain ⟨b9, fs9, hb9, hm9, h⟩ := h
      refine q_cq (pc := 18) (q_rV C (st := []) (b := b9) (kJx4a65c_get_915e3 l G b0 h) (cwV 1 C.2.2.2.2.1 gX8_spreadRevoked_Jx4a65c_get_915e3 rfl rfl rfl (by decide +kernel) ⟨Nat.le_of_ble_eq_true rfl, Nat.le_of_ble_eq_true rfl⟩) hm9 rfl rfl rfl (by first | exact Nat.le_of_ble_eq_true rfl | (simp [q_cat, q_catI, q_catJ, q_catR, q_catN]; done)) (by rw [hb9]; first | done | rfl) dX8_spreadRevoked_18 ⟨(by first | omega | (dsimp only; omega)), (by first | omega | (dsimp only; omega))⟩) (fun x7 M8 h => ?_)
      refine q_cast (pc := 21) C h rfl rfl (by decide +kernel) dX8_spreadRevoked_21 (fun h => ?_)
      refine q_astore_n (pc := 24) C 2 [(2, va_rf x7), (0, va_rf l0), (1, .int l1)] dX8_spreadRevoked_24 rfl (by decide) (by first | rfl | simp [q_cat, q_catI, q_catJ, q_catR, q_catN]) ?_
      refine q_iconst (pc := 25) C 0 dX8_spreadRevoked_25 (by decide) ?_
      refine q_istore_n (pc := 26) C 3 [(3, .int 0), (2, va_rf x7), (0, va_rf l0), (1, .int l1)] dX8_spreadRevoked_26 rfl (by decide) (by first | rfl | simp [q_cat, q_catI, q_catJ, q_catR, q_catN]) ?_
      refine q_widen (k2 := 0) (n2 := 0) (by omega) (by omega) ?_
      refine q_lv [2, 3, 1, 0] rfl ?_
      obtain ⟨f9, h⟩ := h
      exact tX8_spreadRevoked_27 C hr hlocks ih f9 _ _ _ _ _ h
set_option maxRecDepth 100000 in
set_option maxHeartbeats 4000000 in
theorem tX8_spreadRevoked {p : Program} {l : Launch} {e : Env} {s : State} {m : MethodId} {args : Array Value} {below : List Frame} {meth : Method} {c : Code} {G : mG} {b0 : Nat} (C : m_C p s m args c cX8_spreadRevoked 5 RX8 wsX8_spreadRevoked G b0) (hr : meth.sig.returnType = none) (hlocks : meth.locks = false) {κ : mM → Prop} {l0 : Option Nat} {M : mM} (h : wX8_spreadRevoked κ l0 M) : m_W p l e ({ frames := 3, cells := 0, slots := 0, locals := 64 } : Room) s m args below meth c G b0 (MQ below (va_Qv κ (m_B G b0) (fun q => b0 ≤ q)) args s 0 0 (fun q => b0 ≤ q)) 5 M 0 0 0 [(0, va_rf l0)] [] := by
  unfold wX8_spreadRevoked at h
  refine q_iconst (pc := 0) C 0 dX8_spreadRevoked_0 (by decide) ?_
  refine q_istore_n (pc := 1) C 1 [(1, .int 0), (0, va_rf l0)] dX8_spreadRevoked_1 rfl (by decide) (by first | rfl | simp [q_cat, q_catI, q_catJ, q_catR, q_catN]) ?_
  refine q_widen (k2 := 0) (n2 := 0) (by omega) (by omega) ?_
  refine q_lv [1, 0] rfl ?_
  obtain ⟨f9, h⟩ := h
  exact tX8_spreadRevoked_2 C hr hlocks f9 _ _ _ h
set_option maxRecDepth 100000 in
set_option maxHeartbeats 4000000 in
theorem kX8_spreadRevoked (l : Launch) (G : mG) (b0 : Nat) {b : Nat} {M : mM} {κ : mM → Prop} (h : wX8_spreadRevoked κ (some b) M) : Met l yX8_spreadRevoked wsX8_spreadRevoked ({ frames := 3, cells := 0, slots := 0, locals := 64 } : Room) (va_Pc [.ref b] (m_Pre G b0 M)) (va_Qv κ (m_B G b0) (fun q => b0 ≤ q)) 0 0 (fun q => b0 ≤ q) := by
  refine m_met (cc := cX8_spreadRevoked) (maxL := 5) (ret := none) (lv := [(0, va_rf (some b))]) RX8 rfl (by decide +kernel) rfl (by first | exact Nat.le_of_ble_eq_true rfl | simp [lg_sl, q_cat, q_catI, q_catJ, q_catR, q_catN]) (by first | rfl | (simp [lv_args, q_cat, q_catI, q_catJ, q_catR, q_catN]; done) | (simp [lv_args, q_cat, q_catI, q_catJ, q_catR, q_catN]; rfl)) ?_
  intro p e s m args below meth c C hr hlocks hni
  exact tX8_spreadRevoked C hr hlocks h
