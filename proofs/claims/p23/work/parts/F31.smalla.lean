/-! X7_init -/
set_option maxRecDepth 100000 in
set_option maxHeartbeats 4000000 in
theorem tX7_init {p : Program} {l : Launch} {e : Env} {s : State} {m : MethodId} {args : Array Value} {below : List Frame} {meth : Method} {c : Code} {G : mG} {b0 : Nat} (C : m_C p s m args c cX7_init 1 RX7 wsX7_init G b0) (hr : meth.sig.returnType = none) (hlocks : meth.locks = false) (hni : meth.name = "<init>") {κ : mM → Prop} {l0 : Option Nat} {M : mM} (h : wX7_init κ l0 M) : m_W p l e ({ frames := 1, cells := 0, slots := 0, locals := 20 } : Room) s m args below meth c G b0 (MQ below (va_Qv κ (m_B G b0) (fun q => b0 ≤ q)) args s 0 0 (fun q => b0 ≤ q)) 1 M 0 0 0 [(0, va_rf l0)] [] := by
  unfold wX7_init at h
  refine q_aload_n (pc := 0) C 0 0 dX7_init_0 rfl rfl ?_
  obtain ⟨b9, hb9, h⟩ := h
  refine q_objInit (pc := 1) C hb9 (by decide +kernel) (by decide +kernel) (by decide +kernel) dX7_init_1 (Nat.le_of_ble_eq_true rfl) (by first | exact Nat.le_of_ble_eq_true rfl | (simp [q_cat, q_catI, q_catJ, q_catR, q_catN]; done) | (simp [q_cat, q_catI, q_catJ, q_catR, q_catN]; decide)) ?_
  exact q_vret (pc := 4) C hr hlocks h dX7_init_4 (by omega) (by omega)
set_option maxRecDepth 100000 in
set_option maxHeartbeats 4000000 in
theorem kX7_init (l : Launch) (G : mG) (b0 : Nat) {b : Nat} {M : mM} {κ : mM → Prop} (h : wX7_init κ (some b) M) : Met l yX7_init wsX7_init ({ frames := 1, cells := 0, slots := 0, locals := 20 } : Room) (va_Pc [.ref b] (m_Pre G b0 M)) (va_Qv κ (m_B G b0) (fun q => b0 ≤ q)) 0 0 (fun q => b0 ≤ q) := by
  refine m_met (cc := cX7_init) (maxL := 1) (ret := none) (lv := [(0, va_rf (some b))]) RX7 rfl (by decide +kernel) rfl (by first | exact Nat.le_of_ble_eq_true rfl | simp [lg_sl, q_cat, q_catI, q_catJ, q_catR, q_catN]) (by first | rfl | (simp [lv_args, q_cat, q_catI, q_catJ, q_catR, q_catN]; done) | (simp [lv_args, q_cat, q_catI, q_catJ, q_catR, q_catN]; rfl)) ?_
  intro p e s m args below meth c C hr hlocks hni
  exact tX7_init C hr hlocks hni h
/-! X0_init -/
set_option maxRecDepth 100000 in
set_option maxHeartbeats 4000000 in
theorem tX0_init {p : Program} {l : Launch} {e : Env} {s : State} {m : MethodId} {args : Array Value} {below : List Frame} {meth : Method} {c : Code} {G : mG} {b0 : Nat} (C : m_C p s m args c cX0_init 6 RX0 wsX0_init G b0) (hr : meth.sig.returnType = none) (hlocks : meth.locks = false) {g : Nat → Nat} (hg : G.2.2 = g) (hni : meth.name = "<init>") {κ : mM → Prop} {l0 : Option Nat} {l1 : Int32} {l2 : Option Nat} {l3 : Option Nat} {l4 : Int32} {l5 : Int32} {M : mM} (h : wX0_init g κ l0 l1 l2 l3 l4 l5 M) : m_W p l e ({ frames := 4, cells := 3, slots := 7, locals := 80 } : Room) s m args below meth c G b0 (MQ below (va_Qv κ (m_B G b0) (fun q => b0 ≤ q)) args s 3 7 (fun q => b0 ≤ q)) 6 M 0 0 0 [(0, va_rf l0), (1, .int l1), (2, va_rf l2), (3, va_rf l3), (4, .int l4), (5, .int l5)] [] := by
  unfold wX0_init at h
  refine q_aload_n (pc := 0) C 0 0 dX0_init_0 rfl rfl ?_
  obtain ⟨b9, hb9, h⟩ := h
  refine q_objInit (pc := 1) C hb9 (by decide +kernel) (by decide +kernel) (by decide +kernel) dX0_init_1 (Nat.le_of_ble_eq_true rfl) (by first | exact Nat.le_of_ble_eq_true rfl | (simp [q_cat, q_catI, q_catJ, q_catR, q_catN]; done) | (simp [q_cat, q_catI, q_catJ, q_catR, q_catN]; decide)) ?_
  refine q_aload_n (pc := 4) C 0 0 dX0_init_4 rfl rfl ?_
  refine q_new (pc := 5) C h rfl (T := TJx4a65c) tyJx4a65c tyJx4a65c_ok rfl (by decide +kernel) (by decide +kernel) (by decide +kernel) (by decide +kernel) (fun j hj => by rcases (show j = 0 ∨ j = 1 ∨ j = 2 by omega) with rfl | rfl | rfl <;> rfl) (by first | omega | (dsimp only; omega)) (by first | omega | (dsimp only; omega)) dX0_init_5 (fun q1 M2 h => ?_)
  refine q_dup (pc := 8) C dX0_init_8 (q_cat _) ?_
  obtain ⟨b4, fs9, hb4, hm9, h⟩ := h
  refine q_cv (pc := 9) (q_rI C (st := [va_rf (some q1), va_rf l0]) (b := b4) (kJx4a65c_init_da8c8 l G b0 hg h) (cwI 0 C.2.2.2.2.1 gX0_init_Jx4a65c_init_da8c8 rfl rfl rfl (C.2.2.2.2.1 (.initialized RJx4a65c) (by decide +kernel)) (C.2.2.2.2.1 (.methodLink RX0 11 yJx4a65c_init_da8c8) (by decide +kernel)) (C.2.2.2.2.1 (.instanceMethod yJx4a65c_init_da8c8) (by decide +kernel)) rfl (by decide +kernel) ⟨Nat.le_of_ble_eq_true rfl, Nat.le_of_ble_eq_true rfl⟩) rfl (by first | exact Nat.le_of_ble_eq_true rfl | (simp [q_cat, q_catI, q_catJ, q_catR, q_catN]; done)) (by rw [hb4]; first | done | rfl) dX0_init_9 ⟨(by first | omega | (dsimp only; omega)), (by first | omega | (dsimp only; omega))⟩) (fun M3 h => ?_)
  refine q_pF (pc := 12) C hni h (.object "java/util/ArrayList") (T := TX0) tyX0 tyX0_ok nmX0 rfl (by decide +kernel) (q_nrO _ _) (q_ftO _ _) rfl (by decide) (wk_u rfl wm_X0_init uq_X0 (by decide +kernel)) (by decide +kernel) (fun _ h9 => h9) rfl rfl dX0_init_12 (fun M5 h => ?_)
  refine q_aload_n (pc := 15) C 0 0 dX0_init_15 rfl rfl ?_
  refine q_new (pc := 16) C h rfl (T := TX7) tyX7 tyX7_ok rfl (by decide +kernel) (by decide +kernel) (by decide +kernel) (by decide +kernel) (fun j hj => by rcases (show j = 0 ∨ j = 1 by omega) with rfl | rfl <;> rfl) (by first | omega | (dsimp only; omega)) (by first | omega | (dsimp only; omega)) dX0_init_16 (fun q6 M7 h => ?_)
  refine q_dup (pc := 19) C dX0_init_19 (q_cat _) ?_
  obtain ⟨b9, fs9, hb9, hm9, h⟩ := h
  refine q_cv (pc := 20) (q_rIN C (st := [va_rf (some q6), va_rf l0]) (b := b9) (kX7_init l G b0 h) ⟨va_cnB (host := "Lullabygate") 0 C.2.2.2.2.1 gX0_init_X7_init_n20 rfl rfl rfl (C.2.2.2.2.2.2.1.1 _ (List.mem_of_getElem? (i := 587) (by decide +kernel)) rfl) (C.2.2.2.2.1 (.initialized RX7) (by decide +kernel)) (by decide +kernel) ⟨Nat.le_of_ble_eq_true rfl, Nat.le_of_ble_eq_true rfl⟩, rfl, C.2.2.2.2.1 (.instanceMethod yX7_init) (by decide +kernel)⟩ rfl (by first | exact Nat.le_of_ble_eq_true rfl | (simp [q_cat, q_catI, q_catJ, q_catR, q_catN]; done)) (by rw [hb9]; first | done | rfl) dX0_init_20 ⟨(by first | omega | (dsimp only; omega)), (by first | omega | (dsimp only; omega))⟩) (fun M8 h => ?_)
  refine q_pF (pc := 23) C hni h (.object "Lullabygate$Verses") (T := TX0) tyX0 tyX0_ok nmX0 rfl (by decide +kernel) (q_nrO _ _) (q_ftO _ _) rfl (by decide) (wk_u rfl wm_X0_init uq_X0 (by decide +kernel)) (by decide +kernel) (fun _ h9 => h9) rfl rfl dX0_init_23 (fun M10 h => ?_)
  refine q_aload_n (pc := 26) C 0 0 dX0_init_26 rfl rfl ?_
  refine q_new (pc := 27) C h rfl (T := TX7) tyX7 tyX7_ok rfl (by decide +kernel) (by decide +kernel) (by decide +kernel) (by decide +kernel) (fun j hj => by rcases (show j = 0 ∨ j = 1 by omega) with rfl | rfl <;> rfl) (by first | omega | (dsimp only; omega)) (by first | omega | (dsimp only; omega)) dX0_init_27 (fun q11 M12 h => ?_)
  refine q_dup (pc := 30) C dX0_init_30 (q_cat _) ?_
  obtain ⟨b14, fs9, hb14, hm9, h⟩ := h
  refine q_cv (pc := 31) (q_rIN C (st := [va_rf (some q11), va_rf l0]) (b := b14) (kX7_init l G b0 h) ⟨va_cnB (host := "Lullabygate") 0 C.2.2.2.2.1 gX0_init_X7_init_n20 rfl rfl rfl (C.2.2.2.2.2.2.1.1 _ (List.mem_of_getElem? (i := 587) (by decide +kernel)) rfl) (C.2.2.2.2.1 (.initialized RX7) (by decide +kernel)) (by decide +kernel) ⟨Nat.le_of_ble_eq_true rfl, Nat.le_of_ble_eq_true rfl⟩, rfl, C.2.2.2.2.1 (.instanceMethod yX7_init) (by decide +kernel)⟩ rfl (by first | exact Nat.le_of_ble_eq_true rfl | (simp [q_cat, q_catI, q_catJ, q_catR, q_catN]; done)) (by rw [hb14]; first | done | rfl) dX0_init_31 ⟨(by first | omega | (dsimp only; omega)), (by first | omega | (dsimp only; omega))⟩) (fun M13 h => ?_)
  refine q_pF (pc := 34) C hni h (.object "Lullabygate$Verses") (T := TX0) tyX0 tyX0_ok nmX0 rfl (by decide +kernel) (q_nrO _ _) (q_ftO _ _) rfl (by decide) (wk_u rfl wm_X0_init uq_X0 (by decide +kernel)) (by decide +kernel) (fun _ h9 => h9) rfl rfl dX0_init_34 (fun M15 h => ?_)
  refine q_aload_n (pc := 37) C 0 0 dX0_init_37 rfl rfl ?_
  refine q_iconst (pc := 38) C 5 dX0_init_38 (by decide) ?_
  refine q_p (pc := 39) C h .int (T := TX0) tyX0 tyX0_ok nmX0 rfl (by decide +kernel) rfl rfl rfl (by decide) (wk_u rfl wm_X0_init uq_X0 (by decide +kernel)) (by decide +kernel) (fun _ h9 => h9) rfl dX0_init_39 (fun M16 h => ?_)
  refine q_aload_n (pc := 42) C 0 0 dX0_init_42 rfl rfl ?_
  refine q_iload_n (pc := 43) C 1 1 dX0_init_43 rfl rfl ?_
  refine q_pF (pc := 44) C hni h .int (T := TX0) tyX0 tyX0_ok nmX0 rfl (by decide +kernel) rfl rfl rfl (by decide) (wk_u rfl wm_X0_init uq_X0 (by decide +kernel)) (by decide +kernel) (fun _ h9 => h9) rfl rfl dX0_init_44 (fun M17 h => ?_)
  refine q_aload_n (pc := 47) C 0 0 dX0_init_47 rfl rfl ?_
  refine q_aload_n (pc := 48) C 2 2 dX0_init_48 rfl rfl ?_
  refine q_pF (pc := 49) C hni h (.object "Lullabygate$Land") (T := TX0) tyX0 tyX0_ok nmX0 rfl (by decide +kernel) (q_nrO _ _) (q_ftO _ _) rfl (by decide) (wk_u rfl wm_X0_init uq_X0 (by decide +kernel)) (by decide +kernel) (fun _ h9 => h9) rfl rfl dX0_init_49 (fun M18 h => ?_)
  refine q_aload_n (pc := 52) C 0 0 dX0_init_52 rfl rfl ?_
  refine q_aload_n (pc := 53) C 3 3 dX0_init_53 rfl rfl ?_
  refine q_pF (pc := 54) C hni h (.object "Lullabygate$Land") (T := TX0) tyX0 tyX0_ok nmX0 rfl (by decide +kernel) (q_nrO _ _) (q_ftO _ _) rfl (by decide) (wk_u rfl wm_X0_init uq_X0 (by decide +kernel)) (by decide +kernel) (fun _ h9 => h9) rfl rfl dX0_init_54 (fun M19 h => ?_)
  refine q_aload_n (pc := 57) C 0 0 dX0_init_57 rfl rfl ?_
  refine q_iload (pc := 58) C 4 4 dX0_init_58 rfl ?_
  refine q_pF (pc := 60) C hni h .int (T := TX0) tyX0 tyX0_ok nmX0 rfl (by decide +kernel) rfl rfl rfl (by decide) (wk_u rfl wm_X0_init uq_X0 (by decide +kernel)) (by decide +kernel) (fun _ h9 => h9) rfl rfl dX0_init_60 (fun M20 h => ?_)
  refine q_aload_n (pc := 63) C 0 0 dX0_init_63 rfl rfl ?_
  refine q_iload (pc := 64) C 5 5 dX0_init_64 rfl ?_
  refine q_pF (pc := 66) C hni h .int (T := TX0) tyX0 tyX0_ok nmX0 rfl (by decide +kernel) rfl rfl rfl (by decide) (wk_u rfl wm_X0_init uq_X0 (by decide +kernel)) (by decide +kernel) (fun _ h9 => h9) rfl rfl dX0_init_66 (fun M21 h => ?_)
  exact q_vret (pc := 69) C hr hlocks h dX0_init_69 (by omega) (by omega)
set_option maxRecDepth 100000 in
set_option maxHeartbeats 4000000 in
theorem kX0_init (l : Launch) (G : mG) (b0 : Nat) {g : Nat → Nat} (hg : G.2.2 = g) {b : Nat} {l1 : Int32} {l2 : Option Nat} {l3 : Option Nat} {l4 : Int32} {l5 : Int32} {M : mM} {κ : mM → Prop} (h : wX0_init g κ (some b) l1 l2 l3 l4 l5 M) : Met l yX0_init wsX0_init ({ frames := 4, cells := 3, slots := 7, locals := 80 } : Room) (va_Pc [.ref b, .int l1, va_rf l2, va_rf l3, .int l4, .int l5] (m_Pre G b0 M)) (va_Qv κ (m_B G b0) (fun q => b0 ≤ q)) 3 7 (fun q => b0 ≤ q) := by
  refine m_met (cc := cX0_init) (maxL := 6) (ret := none) (lv := [(0, va_rf (some b)), (1, .int l1), (2, va_rf l2), (3, va_rf l3), (4, .int l4), (5, .int l5)]) RX0 rfl (by decide +kernel) rfl (by first | exact Nat.le_of_ble_eq_true rfl | simp [lg_sl, q_cat, q_catI, q_catJ, q_catR, q_catN]) (by first | rfl | (simp [lv_args, q_cat, q_catI, q_catJ, q_catR, q_catN]; done) | (simp [lv_args, q_cat, q_catI, q_catJ, q_catR, q_catN]; rfl)) ?_
  intro p e s m args below meth c C hr hlocks hni
  exact tX0_init C hr hlocks hg hni h
/-! X0_isOpenAt -/
set_option maxRecDepth 100000 in
set_option maxHeartbeats 4000000 in
theorem tX0_isOpenAt {p : Program} {l : Launch} {e : Env} {s : State} {m : MethodId} {args : Array Value} {below : List Frame} {meth : Method} {c : Code} {G : mG} {b0 : Nat} (C : m_C p s m args c cX0_isOpenAt 2 RX0 wsX0_isOpenAt G b0) (hr : meth.sig.returnType = (some .boolean)) (hlocks : meth.locks = false) {κ : Int32 → mM → Prop} {l0 : Option Nat} {l1 : Int32} {M : mM} (h : wX0_isOpenAt κ l0 l1 M) : m_W p l e ({ frames := 0, cells := 0, slots := 0, locals := 0 } : Room) s m args below meth c G b0 (MQ below (va_Qi κ (m_B G b0) (fun q => b0 ≤ q)) args s 0 0 (fun q => b0 ≤ q)) 2 M 0 0 0 [(0, va_rf l0), (1, .int l1)] [] := by
  unfold wX0_isOpenAt at h
  refine q_iload_n (pc := 0) C 1 1 dX0_isOpenAt_0 rfl rfl ?_
  refine q_aload_n (pc := 1) C 0 0 dX0_isOpenAt_1 rfl rfl ?_
  refine q_gI (pc := 2) C h (T := TX0) rfl (by decide) (wk_u rfl wm_X0_isOpenAt uq_X0 (by decide +kernel)) (by decide +kernel) (fun _ h9 => h9) dX0_isOpenAt_2 (fun x1 h => ?_)
  refine q_isub (pc := 5) C dX0_isOpenAt_5 ?_
  refine q_bipush (pc := 6) C 24 dX0_isOpenAt_6 (by decide) ?_
  refine q_iadd (pc := 8) C dX0_isOpenAt_8 ?_
  refine q_bipush (pc := 9) C 24 dX0_isOpenAt_9 (by decide) ?_
  refine q_irem (pc := 11) C dX0_isOpenAt_11 (by decide) ?_
  refine m_stk (st2 := .int (m_rem ((l1 - x1) + 24) 24) :: _) rfl ?_
  refine q_aload_n (pc := 12) C 0 0 dX0_isOpenAt_12 rfl rfl ?_
  refine q_gI (pc := 13) C h (T := TX0) rfl (by decide) (wk_u rfl wm_X0_isOpenAt uq_X0 (by decide +kernel)) (by decide +kernel) (fun _ h9 => h9) dX0_isOpenAt_13 (fun x2 h => ?_)
  refine q_icmp_ge (pc := 16) C 23 dX0_isOpenAt_16 (by decide) (fun c3 => ?_) (fun c3 => ?_)
  · have h := h.1 c3
    refine q_iconst (pc := 23) C 0 dX0_isOpenAt_23 (by decide) ?_
    exact q_zret (pc := 24) C hr hlocks ⟨(by decide), h⟩ dX0_isOpenAt_24 (by omega) (by omega)
  · have h := h.2 c3
    refine q_iconst (pc := 19) C 1 dX0_isOpenAt_19 (by decide) ?_
    refine q_goto (pc := 20) C 24 dX0_isOpenAt_20 (by decide) ?_
    exact q_zret (pc := 24) C hr hlocks ⟨(by decide), h⟩ dX0_isOpenAt_24 (by omega) (by omega)
set_option maxRecDepth 100000 in
set_option maxHeartbeats 4000000 in
theorem kX0_isOpenAt (l : Launch) (G : mG) (b0 : Nat) {b : Nat} {l1 : Int32} {M : mM} {κ : Int32 → mM → Prop} (h : wX0_isOpenAt κ (some b) l1 M) : Met l yX0_isOpenAt wsX0_isOpenAt ({ frames := 0, cells := 0, slots := 0, locals := 0 } : Room) (va_Pc [.ref b, .int l1] (m_Pre G b0 M)) (va_Qi κ (m_B G b0) (fun q => b0 ≤ q)) 0 0 (fun q => b0 ≤ q) := by
  refine m_met (cc := cX0_isOpenAt) (maxL := 2) (ret := (some .boolean)) (lv := [(0, va_rf (some b)), (1, .int l1)]) RX0 rfl (by decide +kernel) rfl (by first | exact Nat.le_of_ble_eq_true rfl | simp [lg_sl, q_cat, q_catI, q_catJ, q_catR, q_catN]) (by first | rfl | (simp [lv_args, q_cat, q_catI, q_catJ, q_catR, q_catN]; done) | (simp [lv_args, q_cat, q_catI, q_catJ, q_catR, q_catN]; rfl)) ?_
  intro p e s m args below meth c C hr hlocks hni
  exact tX0_isOpenAt C hr hlocks h
/-! X0_dozes -/
set_option maxRecDepth 100000 in
set_option maxHeartbeats 4000000 in
theorem tX0_dozes {p : Program} {l : Launch} {e : Env} {s : State} {m : MethodId} {args : Array Value} {below : List Frame} {meth : Method} {c : Code} {G : mG} {b0 : Nat} (C : m_C p s m args c cX0_dozes 1 RX0 wsX0_dozes G b0) (hr : meth.sig.returnType = (some .boolean)) (hlocks : meth.locks = false) {κ : Int32 → mM → Prop} {l0 : Option Nat} {M : mM} (h : wX0_dozes κ l0 M) : m_W p l e ({ frames := 0, cells := 0, slots := 0, locals := 0 } : Room) s m args below meth c G b0 (MQ below (va_Qi κ (m_B G b0) (fun q => b0 ≤ q)) args s 0 0 (fun q => b0 ≤ q)) 1 M 0 0 0 [(0, va_rf l0)] [] := by
  unfold wX0_dozes at h
  refine q_aload_n (pc := 0) C 0 0 dX0_dozes_0 rfl rfl ?_
  refine q_gI (pc := 1) C h (T := TX0) rfl (by decide) (wk_u rfl wm_X0_dozes uq_X0 (by decide +kernel)) (by decide +kernel) (fun _ h9 => h9) dX0_dozes_1 (fun x1 h => ?_)
  refine q_iconst (pc := 4) C 5 dX0_dozes_4 (by decide) ?_
  refine q_icmp_lt (pc := 5) C 12 dX0_dozes_5 (by decide) (fun c2 => ?_) (fun c2 => ?_)
  · have h := h.1 c2
    refine q_iconst (pc := 12) C 0 dX0_dozes_12 (by decide) ?_
    exact q_zret (pc := 13) C hr hlocks ⟨(by decide), h⟩ dX0_dozes_13 (by omega) (by omega)
  · have h := h.2 c2
    refine q_iconst (pc := 8) C 1 dX0_dozes_8 (by decide) ?_
    refine q_goto (pc := 9) C 13 dX0_dozes_9 (by decide) ?_
    exact q_zret (pc := 13) C hr hlocks ⟨(by decide), h⟩ dX0_dozes_13 (by omega) (by omega)
set_option maxRecDepth 100000 in
set_option maxHeartbeats 4000000 in
theorem kX0_dozes (l : Launch) (G : mG) (b0 : Nat) {b : Nat} {M : mM} {κ : Int32 → mM → Prop} (h : wX0_dozes κ (some b) M) : Met l yX0_dozes wsX0_dozes ({ frames := 0, cells := 0, slots := 0, locals := 0 } : Room) (va_Pc [.ref b] (m_Pre G b0 M)) (va_Qi κ (m_B G b0) (fun q => b0 ≤ q)) 0 0 (fun q => b0 ≤ q) := by
  refine m_met (cc := cX0_dozes) (maxL := 1) (ret := (some .boolean)) (lv := [(0, va_rf (some b))]) RX0 rfl (by decide +kernel) rfl (by first | exact Nat.le_of_ble_eq_true rfl | simp [lg_sl, q_cat, q_catI, q_catJ, q_catR, q_catN]) (by first | rfl | (simp [lv_args, q_cat, q_catI, q_catJ, q_catR, q_catN]; done) | (simp [lv_args, q_cat, q_catI, q_catJ, q_catR, q_catN]; rfl)) ?_
  intro p e s m args below meth c C hr hlocks hni
  exact tX0_dozes C hr hlocks h
/-! X0_isAt -/
set_option maxRecDepth 100000 in
set_option maxHeartbeats 4000000 in
theorem tX0_isAt {p : Program} {l : Launch} {e : Env} {s : State} {m : MethodId} {args : Array Value} {below : List Frame} {meth : Method} {c : Code} {G : mG} {b0 : Nat} (C : m_C p s m args c cX0_isAt 2 RX0 wsX0_isAt G b0) (hr : meth.sig.returnType = (some .boolean)) (hlocks : meth.locks = false) {κ : Int32 → mM → Prop} {l0 : Option Nat} {l1 : Option Nat} {M : mM} (h : wX0_isAt κ l0 l1 M) : m_W p l e ({ frames := 0, cells := 0, slots := 0, locals := 0 } : Room) s m args below meth c G b0 (MQ below (va_Qi κ (m_B G b0) (fun q => b0 ≤ q)) args s 0 0 (fun q => b0 ≤ q)) 2 M 0 0 0 [(0, va_rf l0), (1, va_rf l1)] [] := by
  unfold wX0_isAt at h
  refine q_aload_n (pc := 0) C 1 1 dX0_isAt_0 rfl rfl ?_
  refine q_aload_n (pc := 1) C 0 0 dX0_isAt_1 rfl rfl ?_
  refine q_gR (pc := 2) C h (T := TX0) rfl (by decide) (wk_u rfl wm_X0_isAt uq_X0 (by decide +kernel)) (by decide +kernel) (fun _ h9 => h9) dX0_isAt_2 (fun x1 h => ?_)
  refine q_acmp_eq (pc := 5) C 16 dX0_isAt_5 (by decide) (fun c2 => ?_) (fun c2 => ?_)
  · have h := h.1 c2
    refine q_iconst (pc := 16) C 1 dX0_isAt_16 (by decide) ?_
    refine q_goto (pc := 17) C 21 dX0_isAt_17 (by decide) ?_
    exact q_zret (pc := 21) C hr hlocks ⟨(by decide), h⟩ dX0_isAt_21 (by omega) (by omega)
  · have h := h.2 c2
    refine q_aload_n (pc := 8) C 1 1 dX0_isAt_8 rfl rfl ?_
    refine q_aload_n (pc := 9) C 0 0 dX0_isAt_9 rfl rfl ?_
    refine q_gR (pc := 10) C h (T := TX0) rfl (by decide) (wk_u rfl wm_X0_isAt uq_X0 (by decide +kernel)) (by decide +kernel) (fun _ h9 => h9) dX0_isAt_10 (fun x3 h => ?_)
    refine q_acmp_ne (pc := 13) C 20 dX0_isAt_13 (by decide) (fun c4 => ?_) (fun c4 => ?_)
    · have h := h.2 c4
      refine q_iconst (pc := 20) C 0 dX0_isAt_20 (by decide) ?_
      exact q_zret (pc := 21) C hr hlocks ⟨(by decide), h⟩ dX0_isAt_21 (by omega) (by omega)
    · have h := h.1 c4
      refine q_iconst (pc := 16) C 1 dX0_isAt_16 (by decide) ?_
      refine q_goto (pc := 17) C 21 dX0_isAt_17 (by decide) ?_
      exact q_zret (pc := 21) C hr hlocks ⟨(by decide), h⟩ dX0_isAt_21 (by omega) (by omega)
set_option maxRecDepth 100000 in
set_option maxHeartbeats 4000000 in
theorem kX0_isAt (l : Launch) (G : mG) (b0 : Nat) {b : Nat} {l1 : Option Nat} {M : mM} {κ : Int32 → mM → Prop} (h : wX0_isAt κ (some b) l1 M) : Met l yX0_isAt wsX0_isAt ({ frames := 0, cells := 0, slots := 0, locals := 0 } : Room) (va_Pc [.ref b, va_rf l1] (m_Pre G b0 M)) (va_Qi κ (m_B G b0) (fun q => b0 ≤ q)) 0 0 (fun q => b0 ≤ q) := by
  refine m_met (cc := cX0_isAt) (maxL := 2) (ret := (some .boolean)) (lv := [(0, va_rf (some b)), (1, va_rf l1)]) RX0 rfl (by decide +kernel) rfl (by first | exact Nat.le_of_ble_eq_true rfl | simp [lg_sl, q_cat, q_catI, q_catJ, q_catR, q_catN]) (by first | rfl | (simp [lv_args, q_cat, q_catI, q_catJ, q_catR, q_catN]; done) | (simp [lv_args, q_cat, q_catI, q_catJ, q_catR, q_catN]; rfl)) ?_
  intro p e s m args below meth c C hr hlocks hni
  exact tX0_isAt C hr hlocks h
/-! X0_across -/
set_option maxRecDepth 100000 in
set_option maxHeartbeats 4000000 in
theorem tX0_across {p : Program} {l : Launch} {e : Env} {s : State} {m : MethodId} {args : Array Value} {below : List Frame} {meth : Method} {c : Code} {G : mG} {b0 : Nat} (C : m_C p s m args c cX0_across 2 RX0 wsX0_across G b0) (hr : meth.sig.returnType = (some (.object "Lullabygate$Land"))) (hlocks : meth.locks = false) {κ : Option Nat → mM → Prop} {l0 : Option Nat} {l1 : Option Nat} {M : mM} (h : wX0_across κ l0 l1 M) : m_W p l e ({ frames := 0, cells := 0, slots := 0, locals := 0 } : Room) s m args below meth c G b0 (MQ below (va_Qq κ (m_B G b0) (fun q => b0 ≤ q)) args s 0 0 (fun q => b0 ≤ q)) 2 M 0 0 0 [(0, va_rf l0), (1, va_rf l1)] [] := by
  unfold wX0_across at h
  refine q_aload_n (pc := 0) C 1 1 dX0_across_0 rfl rfl ?_
  refine q_aload_n (pc := 1) C 0 0 dX0_across_1 rfl rfl ?_
  refine q_gR (pc := 2) C h (T := TX0) rfl (by decide) (wk_u rfl wm_X0_across uq_X0 (by decide +kernel)) (by decide +kernel) (fun _ h9 => h9) dX0_across_2 (fun x1 h => ?_)
  refine q_acmp_ne (pc := 5) C 15 dX0_across_5 (by decide) (fun c2 => ?_) (fun c2 => ?_)
  · have h := h.2 c2
    refine q_aload_n (pc := 15) C 0 0 dX0_across_15 rfl rfl ?_
    refine q_gR (pc := 16) C h (T := TX0) rfl (by decide) (wk_u rfl wm_X0_across uq_X0 (by decide +kernel)) (by decide +kernel) (fun _ h9 => h9) dX0_across_16 (fun x3 h => ?_)
    exact q_aret (pc := 19) C hr (by first | exact Or.inl ⟨_, rfl⟩ | exact Or.inr ⟨_, rfl⟩) hlocks h dX0_across_19 (by omega) (by omega)
  · have h := h.1 c2
    refine q_aload_n (pc := 8) C 0 0 dX0_across_8 rfl rfl ?_
    refine q_gR (pc := 9) C h (T := TX0) rfl (by decide) (wk_u rfl wm_X0_across uq_X0 (by decide +kernel)) (by decide +kernel) (fun _ h9 => h9) dX0_across_9 (fun x4 h => ?_)
    refine q_goto (pc := 12) C 19 dX0_across_12 (by decide) ?_
    exact q_aret (pc := 19) C hr (by first | exact Or.inl ⟨_, rfl⟩ | exact Or.inr ⟨_, rfl⟩) hlocks h dX0_across_19 (by omega) (by omega)
set_option maxRecDepth 100000 in
set_option maxHeartbeats 4000000 in
theorem kX0_across (l : Launch) (G : mG) (b0 : Nat) {b : Nat} {l1 : Option Nat} {M : mM} {κ : Option Nat → mM → Prop} (h : wX0_across κ (some b) l1 M) : Met l yX0_across wsX0_across ({ frames := 0, cells := 0, slots := 0, locals := 0 } : Room) (va_Pc [.ref b, va_rf l1] (m_Pre G b0 M)) (va_Qq κ (m_B G b0) (fun q => b0 ≤ q)) 0 0 (fun q => b0 ≤ q) := by
  refine m_met (cc := cX0_across) (maxL := 2) (ret := (some (.object "Lullabygate$Land"))) (lv := [(0, va_rf (some b)), (1, va_rf l1)]) RX0 rfl (by decide +kernel) rfl (by first | exact Nat.le_of_ble_eq_true rfl | simp [lg_sl, q_cat, q_catI, q_catJ, q_catR, q_catN]) (by first | rfl | (simp [lv_args, q_cat, q_catI, q_catJ, q_catR, q_catN]; done) | (simp [lv_args, q_cat, q_catI, q_catJ, q_catR, q_catN]; rfl)) ?_
  intro p e s m args below meth c C hr hlocks hni
  exact tX0_across C hr hlocks h
/-! X0_babiesInLine -/
set_option maxRecDepth 100000 in
set_option maxHeartbeats 4000000 in
theorem tX0_babiesInLine_35 {p : Program} {l : Launch} {e : Env} {s : State} {m : MethodId} {args : Array Value} {below : List Frame} {meth : Method} {c : Code} {G : mG} {b0 : Nat} (C : m_C p s m args c cX0_babiesInLine 3 RX0 wsX0_babiesInLine G b0) (hr : meth.sig.returnType = (some .int)) (hlocks : meth.locks = false) {κ : Int32 → mM → Prop} {R4 : Option Nat → Int32 → Int32 → mM → Prop} (hR4 : ∀ (l0 : Option Nat) (l1 : Int32) (l2 : Int32) (M : mM), R4 l0 l1 l2 M → m_W p l e ({ frames := 3, cells := 0, slots := 0, locals := 64 } : Room) s m args below meth c G b0 (MQ below (va_Qi κ (m_B G b0) (fun q => b0 ≤ q)) args s 0 0 (fun q => b0 ≤ q)) 3 M 0 0 4 [(0, va_rf l0), (1, .int l1), (2, .int l2)] []) {l0 : Option Nat} {l1 : Int32} {l2 : Int32} {M : mM} (h : wX0_babiesInLine_35 κ R4 l0 l1 l2 M) : m_W p l e ({ frames := 3, cells := 0, slots := 0, locals := 64 } : Room) s m args below meth c G b0 (MQ below (va_Qi κ (m_B G b0) (fun q => b0 ≤ q)) args s 0 0 (fun q => b0 ≤ q)) 3 M 0 0 35 [(0, va_rf l0), (1, .int l1), (2, .int l2)] [] := by
  unfold wX0_babiesInLine_35 at h
  refine q_iinc (pc := 35) C 2 2 (l2 + 1) [(2, .int (l2 + 1)), (0, va_rf l0), (1, .int l1)] dX0_babiesInLine_35 rfl (by rfl) (by decide) (by first | rfl | simp [q_cat, q_catI, q_catJ, q_catR, q_catN]) ?_
  refine q_goto (pc := 38) C 4 dX0_babiesInLine_38 (by decide) ?_
  refine q_widen (k2 := 0) (n2 := 0) (by omega) (by omega) ?_
  refine q_lv [1, 2, 0] rfl ?_
  exact hR4 _ _ _ _ h
set_option maxRecDepth 100000 in
set_option maxHeartbeats 4000000 in
theorem tX0_babiesInLine_4 {p : Program} {l : Launch} {e : Env} {s : State} {m : MethodId} {args : Array Value} {below : List Frame} {meth : Method} {c : Code} {G : mG} {b0 : Nat} (C : m_C p s m args c cX0_babiesInLine 3 RX0 wsX0_babiesInLine G b0) (hr : meth.sig.returnType = (some .int)) (hlocks : meth.locks = false) {κ : Int32 → mM → Prop} : ∀ (f : Nat) (l0 : Option Nat) (l1 : Int32) (l2 : Int32) (M : mM), wX0_babiesInLine_4 κ f l0 l1 l2 M → m_W p l e ({ frames := 3, cells := 0, slots := 0, locals := 64 } : Room) s m args below meth c G b0 (MQ below (va_Qi κ (m_B G b0) (fun q => b0 ≤ q)) args s 0 0 (fun q => b0 ≤ q)) 3 M 0 0 4 [(0, va_rf l0), (1, .int l1), (2, .int l2)] [] := by
  intro f
  induction f with
  | zero =>
    intro l0 l1 l2 M h
    exact absurd h (by simp [wX0_babiesInLine_4])
  | succ f ih =>
    intro l0 l1 l2 M h
    rw [wX0_babiesInLine_4] at h
    refine q_iload_n (pc := 4) C 2 2 dX0_babiesInLine_4 rfl rfl ?_
    refine q_aload_n (pc := 5) C 0 0 dX0_babiesInLine_5 rfl rfl ?_
    refine q_gR (pc := 6) C h (T := TX0) rfl (by decide) (wk_u rfl wm_X0_babiesInLine uq_X0 (by decide +kernel)) (by decide +kernel) (fun _ h9 => h9) dX0_babiesInLine_6 (fun x1 h => ?_)
    obtain ⟨b4, fs9, hb4, hm9, h⟩ := h
    refine q_ci (pc := 9) (q_rV C (st := [.int l2]) (b := b4) (kJx4a65c_size_8abf5 l G b0 h) (cwV 0 C.2.2.2.2.1 gX0_babiesInLine_Jx4a65c_size_8abf5 rfl rfl rfl (by decide +kernel) ⟨Nat.le_of_ble_eq_true rfl, Nat.le_of_ble_eq_true rfl⟩) hm9 rfl rfl rfl (by first | exact Nat.le_of_ble_eq_true rfl | (simp [q_cat, q_catI, q_catJ, q_catR, q_catN]; done)) (by rw [hb4]; first | done | rfl) dX0_babiesInLine_9 ⟨(by first | omega | (dsimp only; omega)), (by first | omega | (dsimp only; omega))⟩) (fun x2 M3 h => ?_)
    refine q_icmp_ge (pc := 12) C 41 dX0_babiesInLine_12 (by decide) (fun c5 => ?_) (fun c5 => ?_)
    · have h := h.1 c5
      refine q_iload_n (pc := 41) C 1 1 dX0_babiesInLine_41 rfl rfl ?_
      exact q_iret (pc := 42) C hr hlocks h dX0_babiesInLine_42 (by omega) (by omega)
    · have h := h.2 c5
      refine q_aload_n (pc := 15) C 0 0 dX0_babiesInLine_15 rfl rfl ?_
      refine q_gR (pc := 16) C h (T := TX0) rfl (by decide) (wk_u rfl wm_X0_babiesInLine uq_X0 (by decide +kernel)) (by decide +kernel) (fun _ h9 => h9) dX0_babiesInLine_16 (fun x6 h => ?_)
      refine q_iload_n (pc := 19) C 2 2 dX0_babiesInLine_19 rfl rfl ?_
      obtain ⟨b9, fs9, hb9, hm9, h⟩ := h
      refine q_cq (pc := 20) (q_rV C (st := []) (b := b9) (kJx4a65c_get_915e3 l G b0 h) (cwV 1 C.2.2.2.2.1 gX0_babiesInLine_Jx4a65c_get_915e3 rfl rfl rfl (by decide +kernel) ⟨Nat.le_of_ble_eq_true rfl, Nat.le_of_ble_eq_true rfl⟩) hm9 rfl rfl rfl (by first | exact Nat.le_of_ble_eq_true rfl | (simp [q_cat, q_catI, q_catJ, q_catR, q_catN]; done)) (by rw [hb9]; first | done | rfl) dX0_babiesInLine_20 ⟨(by first | omega | (dsimp only; omega)), (by first | omega | (dsimp only; omega))⟩) (fun x7 M8 h => ?_)
      refine q_cast (pc := 23) C h rfl rfl (by decide +kernel) dX0_babiesInLine_23 (fun h => ?_)
      refine q_gI (pc := 26) C h (T := TX6) rfl (by decide) (wk_u rfl wm_X0_babiesInLine uq_X6 (by decide +kernel)) (by decide +kernel) (fun _ h9 => h9) dX0_babiesInLine_26 (fun x10 h => ?_)
      refine q_if_eq (pc := 29) C 35 dX0_babiesInLine_29 (by decide) (fun c11 => ?_) (fun c11 => ?_)
      · have h := h.1 c11
        refine q_widen (k2 := 0) (n2 := 0) (by omega) (by omega) ?_
        refine q_lv [0, 1, 2] rfl ?_
        exact tX0_babiesInLine_35 C hr hlocks ih h
      · have h := h.2 c11
        refine q_iinc (pc := 32) C 1 1 (l1 + 1) [(1, .int (l1 + 1)), (0, va_rf l0), (2, .int l2)] dX0_babiesInLine_32 rfl (by rfl) (by decide) (by first | rfl | simp [q_cat, q_catI, q_catJ, q_catR, q_catN]) ?_
        refine q_widen (k2 := 0) (n2 := 0) (by omega) (by omega) ?_
        refine q_lv [1, 0, 2] rfl ?_
        exact tX0_babiesInLine_35 C hr hlocks ih h
set_option maxRecDepth 100000 in
set_option maxHeartbeats 4000000 in
theorem tX0_babiesInLine {p : Program} {l : Launch} {e : Env} {s : State} {m : MethodId} {args : Array Value} {below : List Frame} {meth : Method} {c : Code} {G : mG} {b0 : Nat} (C : m_C p s m args c cX0_babiesInLine 3 RX0 wsX0_babiesInLine G b0) (hr : meth.sig.returnType = (some .int)) (hlocks : meth.locks = false) {κ : Int32 → mM → Prop} {l0 : Option Nat} {M : mM} (h : wX0_babiesInLine κ l0 M) : m_W p l e ({ frames := 3, cells := 0, slots := 0, locals := 64 } : Room) s m args below meth c G b0 (MQ below (va_Qi κ (m_B G b0) (fun q => b0 ≤ q)) args s 0 0 (fun q => b0 ≤ q)) 3 M 0 0 0 [(0, va_rf l0)] [] := by
  unfold wX0_babiesInLine at h
  refine q_iconst (pc := 0) C 0 dX0_babiesInLine_0 (by decide) ?_
  refine q_istore_n (pc := 1) C 1 [(1, .int 0), (0, va_rf l0)] dX0_babiesInLine_1 rfl (by decide) (by first | rfl | simp [q_cat, q_catI, q_catJ, q_catR, q_catN]) ?_
  refine q_iconst (pc := 2) C 0 dX0_babiesInLine_2 (by decide) ?_
  refine q_istore_n (pc := 3) C 2 [(2, .int 0), (1, .int 0), (0, va_rf l0)] dX0_babiesInLine_3 rfl (by decide) (by first | rfl | simp [q_cat, q_catI, q_catJ, q_catR, q_catN]) ?_
  refine q_widen (k2 := 0) (n2 := 0) (by omega) (by omega) ?_
  refine q_lv [2, 1, 0] rfl ?_
  obtain ⟨f9, h⟩ := h
  exact tX0_babiesInLine_4 C hr hlocks f9 _ _ _ _ h
set_option maxRecDepth 100000 in
set_option maxHeartbeats 4000000 in
theorem kX0_babiesInLine (l : Launch) (G : mG) (b0 : Nat) {b : Nat} {M : mM} {κ : Int32 → mM → Prop} (h : wX0_babiesInLine κ (some b) M) : Met l yX0_babiesInLine wsX0_babiesInLine ({ frames := 3, cells := 0, slots := 0, locals := 64 } : Room) (va_Pc [.ref b] (m_Pre G b0 M)) (va_Qi κ (m_B G b0) (fun q => b0 ≤ q)) 0 0 (fun q => b0 ≤ q) := by
  refine m_met (cc := cX0_babiesInLine) (maxL := 3) (ret := (some .int)) (lv := [(0, va_rf (some b))]) RX0 rfl (by decide +kernel) rfl (by first | exact Nat.le_of_ble_eq_true rfl | simp [lg_sl, q_cat, q_catI, q_catJ, q_catR, q_catN]) (by first | rfl | (simp [lv_args, q_cat, q_catI, q_catJ, q_catR, q_catN]; done) | (simp [lv_args, q_cat, q_catI, q_catJ, q_catR, q_catN]; rfl)) ?_
  intro p e s m args below meth c C hr hlocks hni
  exact tX0_babiesInLine C hr hlocks h
/-! X0_babiesAreAhead -/
set_option maxRecDepth 100000 in
set_option maxHeartbeats 4000000 in
theorem tX0_babiesAreAhead_51 {p : Program} {l : Launch} {e : Env} {s : State} {m : MethodId} {args : Array Value} {below : List Frame} {meth : Method} {c : Code} {G : mG} {b0 : Nat} (C : m_C p s m args c cX0_babiesAreAhead 2 RX0 wsX0_babiesAreAhead G b0) (hr : meth.sig.returnType = (some .boolean)) (hlocks : meth.locks = false) {κ : Int32 → mM → Prop} {R2 : Option Nat → Int32 → mM → Prop} (hR2 : ∀ (l0 : Option Nat) (l1 : Int32) (M : mM), R2 l0 l1 M → m_W p l e ({ frames := 3, cells := 0, slots := 0, locals := 64 } : Room) s m args below meth c G b0 (MQ below (va_Qi κ (m_B G b0) (fun q => b0 ≤ q)) args s 0 0 (fun q => b0 ≤ q)) 2 M 0 0 2 [(0, va_rf l0), (1, .int l1)] []) {l0 : Option Nat} {l1 : Int32} {M : mM} (h : wX0_babiesAreAhead_51 κ R2 l0 l1 M) : m_W p l e ({ frames := 3, cells := 0, slots := 0, locals := 64 } : Room) s m args below meth c G b0 (MQ below (va_Qi κ (m_B G b0) (fun q => b0 ≤ q)) args s 0 0 (fun q => b0 ≤ q)) 2 M 0 0 51 [(0, va_rf l0), (1, .int l1)] [] := by
  unfold wX0_babiesAreAhead_51 at h
  refine q_iinc (pc := 51) C 1 1 (l1 + 1) [(1, .int (l1 + 1)), (0, va_rf l0)] dX0_babiesAreAhead_51 rfl (by rfl) (by decide) (by first | rfl | simp [q_cat, q_catI, q_catJ, q_catR, q_catN]) ?_
  refine q_goto (pc := 54) C 2 dX0_babiesAreAhead_54 (by decide) ?_
  refine q_widen (k2 := 0) (n2 := 0) (by omega) (by omega) ?_
  refine q_lv [1, 0] rfl ?_
  exact hR2 _ _ _ h
set_option maxRecDepth 100000 in
set_option maxHeartbeats 4000000 in
theorem tX0_babiesAreAhead_2 {p : Program} {l : Launch} {e : Env} {s : State} {m : MethodId} {args : Array Value} {below : List Frame} {meth : Method} {c : Code} {G : mG} {b0 : Nat} (C : m_C p s m args c cX0_babiesAreAhead 2 RX0 wsX0_babiesAreAhead G b0) (hr : meth.sig.returnType = (some .boolean)) (hlocks : meth.locks = false) {κ : Int32 → mM → Prop} : ∀ (f : Nat) (l0 : Option Nat) (l1 : Int32) (M : mM), wX0_babiesAreAhead_2 κ f l0 l1 M → m_W p l e ({ frames := 3, cells := 0, slots := 0, locals := 64 } : Room) s m args below meth c G b0 (MQ below (va_Qi κ (m_B G b0) (fun q => b0 ≤ q)) args s 0 0 (fun q => b0 ≤ q)) 2 M 0 0 2 [(0, va_rf l0), (1, .int l1)] [] := by
  intro f
  induction f with
  | zero =>
    intro l0 l1 M h
    exact absurd h (by simp [wX0_babiesAreAhead_2])
  | succ f ih =>
    intro l0 l1 M h
    rw [wX0_babiesAreAhead_2] at h
    refine q_iload_n (pc := 2) C 1 1 dX0_babiesAreAhead_2 rfl rfl ?_
    refine q_aload_n (pc := 3) C 0 0 dX0_babiesAreAhead_3 rfl rfl ?_
    refine q_gR (pc := 4) C h (T := TX0) rfl (by decide) (wk_u rfl wm_X0_babiesAreAhead uq_X0 (by decide +kernel)) (by decide +kernel) (fun _ h9 => h9) dX0_babiesAreAhead_4 (fun x1 h => ?_)
    obtain ⟨b4, fs9, hb4, hm9, h⟩ := h
    refine q_ci (pc := 7) (q_rV C (st := [.int l1]) (b := b4) (kJx4a65c_size_8abf5 l G b0 h) (cwV 0 C.2.2.2.2.1 gX0_babiesAreAhead_Jx4a65c_size_8abf5 rfl rfl rfl (by decide +kernel) ⟨Nat.le_of_ble_eq_true rfl, Nat.le_of_ble_eq_true rfl⟩) hm9 rfl rfl rfl (by first | exact Nat.le_of_ble_eq_true rfl | (simp [q_cat, q_catI, q_catJ, q_catR, q_catN]; done)) (by rw [hb4]; first | done | rfl) dX0_babiesAreAhead_7 ⟨(by first | omega | (dsimp only; omega)), (by first | omega | (dsimp only; omega))⟩) (fun x2 M3 h => ?_)
    refine q_icmp_ge (pc := 10) C 57 dX0_babiesAreAhead_10 (by decide) (fun c5 => ?_) (fun c5 => ?_)
    · have h := h.1 c5
      refine q_iconst (pc := 57) C 1 dX0_babiesAreAhead_57 (by decide) ?_
      exact q_zret (pc := 58) C hr hlocks ⟨(by decide), h⟩ dX0_babiesAreAhead_58 (by omega) (by omega)
    · have h := h.2 c5
      refine q_aload_n (pc := 13) C 0 0 dX0_babiesAreAhead_13 rfl rfl ?_
      refine q_gR (pc := 14) C h (T := TX0) rfl (by decide) (wk_u rfl wm_X0_babiesAreAhead uq_X0 (by decide +kernel)) (by decide +kernel) (fun _ h9 => h9) dX0_babiesAreAhead_14 (fun x6 h => ?_)
      refine q_iload_n (pc := 17) C 1 1 dX0_babiesAreAhead_17 rfl rfl ?_
      obtain ⟨b9, fs9, hb9, hm9, h⟩ := h
      refine q_cq (pc := 18) (q_rV C (st := []) (b := b9) (kJx4a65c_get_915e3 l G b0 h) (cwV 1 C.2.2.2.2.1 gX0_babiesAreAhead_Jx4a65c_get_915e3 rfl rfl rfl (by decide +kernel) ⟨Nat.le_of_ble_eq_true rfl, Nat.le_of_ble_eq_true rfl⟩) hm9 rfl rfl rfl (by first | exact Nat.le_of_ble_eq_true rfl | (simp [q_cat, q_catI, q_catJ, q_catR, q_catN]; done)) (by rw [hb9]; first | done | rfl) dX0_babiesAreAhead_18 ⟨(by first | omega | (dsimp only; omega)), (by first | omega | (dsimp only; omega))⟩) (fun x7 M8 h => ?_)
      refine q_cast (pc := 21) C h rfl rfl (by decide +kernel) dX0_babiesAreAhead_21 (fun h => ?_)
      refine q_gI (pc := 24) C h (T := TX6) rfl (by decide) (wk_u rfl wm_X0_babiesAreAhead uq_X6 (by decide +kernel)) (by decide +kernel) (fun _ h9 => h9) dX0_babiesAreAhead_24 (fun x10 h => ?_)
      refine q_if_eq (pc := 27) C 51 dX0_babiesAreAhead_27 (by decide) (fun c11 => ?_) (fun c11 => ?_)
      · have h := h.1 c11
        refine q_widen (k2 := 0) (n2 := 0) (by omega) (by omega) ?_
        refine q_lv [0, 1] rfl ?_
        exact tX0_babiesAreAhead_51 C hr hlocks ih h
      · have h := h.2 c11
        refine q_aload_n (pc := 30) C 0 0 dX0_babiesAreAhead_30 rfl rfl ?_
        refine q_gR (pc := 31) C h (T := TX0) rfl (by decide) (wk_u rfl wm_X0_babiesAreAhead uq_X0 (by decide +kernel)) (by decide +kernel) (fun _ h9 => h9) dX0_babiesAreAhead_31 (fun x12 h => ?_)
        refine q_iload_n (pc := 34) C 1 1 dX0_babiesAreAhead_34 rfl rfl ?_
        refine q_iconst (pc := 35) C 1 dX0_babiesAreAhead_35 (by decide) ?_
        refine q_isub (pc := 36) C dX0_babiesAreAhead_36 ?_
        obtain ⟨b15, fs9, hb15, hm9, h⟩ := h
        refine q_cq (pc := 37) (q_rV C (st := []) (b := b15) (kJx4a65c_get_915e3 l G b0 h) (cwV 1 C.2.2.2.2.1 gX0_babiesAreAhead_Jx4a65c_get_915e3 rfl rfl rfl (by decide +kernel) ⟨Nat.le_of_ble_eq_true rfl, Nat.le_of_ble_eq_true rfl⟩) hm9 rfl rfl rfl (by first | exact Nat.le_of_ble_eq_true rfl | (simp [q_cat, q_catI, q_catJ, q_catR, q_catN]; done)) (by rw [hb15]; first | done | rfl) dX0_babiesAreAhead_37 ⟨(by first | omega | (dsimp only; omega)), (by first | omega | (dsimp only; omega))⟩) (fun x13 M14 h => ?_)
        refine q_cast (pc := 40) C h rfl rfl (by decide +kernel) dX0_babiesAreAhead_40 (fun h => ?_)
        refine q_gI (pc := 43) C h (T := TX6) rfl (by decide) (wk_u rfl wm_X0_babiesAreAhead uq_X6 (by decide +kernel)) (by decide +kernel) (fun _ h9 => h9) dX0_babiesAreAhead_43 (fun x16 h => ?_)
        refine q_if_ne (pc := 46) C 51 dX0_babiesAreAhead_46 (by decide) (fun c17 => ?_) (fun c17 => ?_)
        · have h := h.2 c17
          refine q_widen (k2 := 0) (n2 := 0) (by omega) (by omega) ?_
          refine q_lv [0, 1] rfl ?_
          exact tX0_babiesAreAhead_51 C hr hlocks ih h
        · have h := h.1 c17
          refine q_iconst (pc := 49) C 0 dX0_babiesAreAhead_49 (by decide) ?_
          exact q_zret (pc := 50) C hr hlocks ⟨(by decide), h⟩ dX0_babiesAreAhead_50 (by omega) (by omega)
set_option maxRecDepth 100000 in
set_option maxHeartbeats 4000000 in
theorem tX0_babiesAreAhead {p : Program} {l : Launch} {e : Env} {s : State} {m : MethodId} {args : Array Value} {below : List Frame} {meth : Method} {c : Code} {G : mG} {b0 : Nat} (C : m_C p s m args c cX0_babiesAreAhead 2 RX0 wsX0_babiesAreAhead G b0) (hr : meth.sig.returnType = (some .boolean)) (hlocks : meth.locks = false) {κ : Int32 → mM → Prop} {l0 : Option Nat} {M : mM} (h : wX0_babiesAreAhead κ l0 M) : m_W p l e ({ frames := 3, cells := 0, slots := 0, locals := 64 } : Room) s m args below meth c G b0 (MQ below (va_Qi κ (m_B G b0) (fun q => b0 ≤ q)) args s 0 0 (fun q => b0 ≤ q)) 2 M 0 0 0 [(0, va_rf l0)] [] := by
  unfold wX0_babiesAreAhead at h
  refine q_iconst (pc := 0) C 1 dX0_babiesAreAhead_0 (by decide) ?_
  refine q_istore_n (pc := 1) C 1 [(1, .int 1), (0, va_rf l0)] dX0_babiesAreAhead_1 rfl (by decide) (by first | rfl | simp [q_cat, q_catI, q_catJ, q_catR, q_catN]) ?_
  refine q_widen (k2 := 0) (n2 := 0) (by omega) (by omega) ?_
  refine q_lv [1, 0] rfl ?_
  obtain ⟨f9, h⟩ := h
  exact tX0_babiesAreAhead_2 C hr hlocks f9 _ _ _ h
set_option maxRecDepth 100000 in
set_option maxHeartbeats 4000000 in
theorem kX0_babiesAreAhead (l : Launch) (G : mG) (b0 : Nat) {b : Nat} {M : mM} {κ : Int32 → mM → Prop} (h : wX0_babiesAreAhead κ (some b) M) : Met l yX0_babiesAreAhead wsX0_babiesAreAhead ({ frames := 3, cells := 0, slots := 0, locals := 64 } : Room) (va_Pc [.ref b] (m_Pre G b0 M)) (va_Qi κ (m_B G b0) (fun q => b0 ≤ q)) 0 0 (fun q => b0 ≤ q) := by
  refine m_met (cc := cX0_babiesAreAhead) (maxL := 2) (ret := (some .boolean)) (lv := [(0, va_rf (some b))]) RX0 rfl (by decide +kernel) rfl (by first | exact Nat.le_of_ble_eq_true rfl | simp [lg_sl, q_cat, q_catI, q_catJ, q_catR, q_catN]) (by first | rfl | (simp [lv_args, q_cat, q_catI, q_catJ, q_catR, q_catN]; done) | (simp [lv_args, q_cat, q_catI, q_catJ, q_catR, q_catN]; rfl)) ?_
  intro p e s m args below meth c C hr hlocks hni
  exact tX0_babiesAreAhead C hr hlocks h
/-! X0_timesInLine -/
set_option maxRecDepth 100000 in
set_option maxHeartbeats 4000000 in
theorem tX0_timesInLine_30 {p : Program} {l : Launch} {e : Env} {s : State} {m : MethodId} {args : Array Value} {below : List Frame} {meth : Method} {c : Code} {G : mG} {b0 : Nat} (C : m_C p s m args c cX0_timesInLine 4 RX0 wsX0_timesInLine G b0) (hr : meth.sig.returnType = (some .int)) (hlocks : meth.locks = false) {κ : Int32 → mM → Prop} {R4 : Option Nat → Option Nat → Int32 → Int32 → mM → Prop} (hR4 : ∀ (l0 : Option Nat) (l1 : Option Nat) (l2 : Int32) (l3 : Int32) (M : mM), R4 l0 l1 l2 l3 M → m_W p l e ({ frames := 3, cells := 0, slots := 0, locals := 64 } : Room) s m args below meth c G b0 (MQ below (va_Qi κ (m_B G b0) (fun q => b0 ≤ q)) args s 0 0 (fun q => b0 ≤ q)) 4 M 0 0 4 [(0, va_rf l0), (1, va_rf l1), (2, .int l2), (3, .int l3)] []) {l0 : Option Nat} {l1 : Option Nat} {l2 : Int32} {l3 : Int32} {M : mM} (h : wX0_timesInLine_30 κ R4 l0 l1 l2 l3 M) : m_W p l e ({ frames := 3, cells := 0, slots := 0, locals := 64 } : Room) s m args below meth c G b0 (MQ below (va_Qi κ (m_B G b0) (fun q => b0 ≤ q)) args s 0 0 (fun q => b0 ≤ q)) 4 M 0 0 30 [(0, va_rf l0), (1, va_rf l1), (2, .int l2), (3, .int l3)] [] := by
  unfold wX0_timesInLine_30 at h
  refine q_iinc (pc := 30) C 3 3 (l3 + 1) [(3, .int (l3 + 1)), (0, va_rf l0), (1, va_rf l1), (2, .int l2)] dX0_timesInLine_30 rfl (by rfl) (by decide) (by first | rfl | simp [q_cat, q_catI, q_catJ, q_catR, q_catN]) ?_
  refine q_goto (pc := 33) C 4 dX0_timesInLine_33 (by decide) ?_
  refine q_widen (k2 := 0) (n2 := 0) (by omega) (by omega) ?_
  refine q_lv [1, 2, 3, 0] rfl ?_
  exact hR4 _ _ _ _ _ h
set_option maxRecDepth 100000 in
set_option maxHeartbeats 4000000 in
theorem tX0_timesInLine_4 {p : Program} {l : Launch} {e : Env} {s : State} {m : MethodId} {args : Array Value} {below : List Frame} {meth : Method} {c : Code} {G : mG} {b0 : Nat} (C : m_C p s m args c cX0_timesInLine 4 RX0 wsX0_timesInLine G b0) (hr : meth.sig.returnType = (some .int)) (hlocks : meth.locks = false) {κ : Int32 → mM → Prop} : ∀ (f : Nat) (l0 : Option Nat) (l1 : Option Nat) (l2 : Int32) (l3 : Int32) (M : mM), wX0_timesInLine_4 κ f l0 l1 l2 l3 M → m_W p l e ({ frames := 3, cells := 0, slots := 0, locals := 64 } : Room) s m args below meth c G b0 (MQ below (va_Qi κ (m_B G b0) (fun q => b0 ≤ q)) args s 0 0 (fun q => b0 ≤ q)) 4 M 0 0 4 [(0, va_rf l0), (1, va_rf l1), (2, .int l2), (3, .int l3)] [] := by
  intro f
  induction f with
  | zero =>
    intro l0 l1 l2 l3 M h
    exact absurd h (by simp [wX0_timesInLine_4])
  | succ f ih =>
    intro l0 l1 l2 l3 M h
    rw [wX0_timesInLine_4] at h
    refine q_iload_n (pc := 4) C 3 3 dX0_timesInLine_4 rfl rfl ?_
    refine q_aload_n (pc := 5) C 0 0 dX0_timesInLine_5 rfl rfl ?_
    refine q_gR (pc := 6) C h (T := TX0) rfl (by decide) (wk_u rfl wm_X0_timesInLine uq_X0 (by decide +kernel)) (by decide +kernel) (fun _ h9 => h9) dX0_timesInLine_6 (fun x1 h => ?_)
    obtain ⟨b4, fs9, hb4, hm9, h⟩ := h
    refine q_ci (pc := 9) (q_rV C (st := [.int l3]) (b := b4) (kJx4a65c_size_8abf5 l G b0 h) (cwV 0 C.2.2.2.2.1 gX0_timesInLine_Jx4a65c_size_8abf5 rfl rfl rfl (by decide +kernel) ⟨Nat.le_of_ble_eq_true rfl, Nat.le_of_ble_eq_true rfl⟩) hm9 rfl rfl rfl (by first | exact Nat.le_of_ble_eq_true rfl | (simp [q_cat, q_catI, q_catJ, q_catR, q_catN]; done)) (by rw [hb4]; first | done | rfl) dX0_timesInLine_9 ⟨(by first | omega | (dsimp only; omega)), (by first | omega | (dsimp only; omega))⟩) (fun x2 M3 h => ?_)
    refine q_icmp_ge (pc := 12) C 36 dX0_timesInLine_12 (by decide) (fun c5 => ?_) (fun c5 => ?_)
    · have h := h.1 c5
      refine q_iload_n (pc := 36) C 2 2 dX0_timesInLine_36 rfl rfl ?_
      exact q_iret (pc := 37) C hr hlocks h dX0_timesInLine_37 (by omega) (by omega)
    · have h := h.2 c5
      refine q_aload_n (pc := 15) C 0 0 dX0_timesInLine_15 rfl rfl ?_
      refine q_gR (pc := 16) C h (T := TX0) rfl (by decide) (wk_u rfl wm_X0_timesInLine uq_X0 (by decide +kernel)) (by decide +kernel) (fun _ h9 => h9) dX0_timesInLine_16 (fun x6 h => ?_)
      refine q_iload_n (pc := 19) C 3 3 dX0_timesInLine_19 rfl rfl ?_
      obtain ⟨b9, fs9, hb9, hm9, h⟩ := h
      refine q_cq (pc := 20) (q_rV C (st := []) (b := b9) (kJx4a65c_get_915e3 l G b0 h) (cwV 1 C.2.2.2.2.1 gX0_timesInLine_Jx4a65c_get_915e3 rfl rfl rfl (by decide +kernel) ⟨Nat.le_of_ble_eq_true rfl, Nat.le_of_ble_eq_true rfl⟩) hm9 rfl rfl rfl (by first | exact Nat.le_of_ble_eq_true rfl | (simp [q_cat, q_catI, q_catJ, q_catR, q_catN]; done)) (by rw [hb9]; first | done | rfl) dX0_timesInLine_20 ⟨(by first | omega | (dsimp only; omega)), (by first | omega | (dsimp only; omega))⟩) (fun x7 M8 h => ?_)
      refine q_aload_n (pc := 23) C 1 1 dX0_timesInLine_23 rfl rfl ?_
      refine q_acmp_ne (pc := 24) C 30 dX0_timesInLine_24 (by decide) (fun c10 => ?_) (fun c10 => ?_)
      · have h := h.2 c10
        refine q_widen (k2 := 0) (n2 := 0) (by omega) (by omega) ?_
        refine q_lv [0, 1, 2, 3] rfl ?_
        exact tX0_timesInLine_30 C hr hlocks ih h
      · have h := h.1 c10
        refine q_iinc (pc := 27) C 2 2 (l2 + 1) [(2, .int (l2 + 1)), (0, va_rf l0), (1, va_rf l1), (3, .int l3)] dX0_timesInLine_27 rfl (by rfl) (by decide) (by first | rfl | simp [q_cat, q_catI, q_catJ, q_catR, q_catN]) ?_
        refine q_widen (k2 := 0) (n2 := 0) (by omega) (by omega) ?_
        refine q_lv [1, 2, 0, 3] rfl ?_
        exact tX0_timesInLine_30 C hr hlocks ih h
set_option maxRecDepth 100000 in
set_option maxHeartbeats 4000000 in
theorem tX0_timesInLine {p : Program} {l : Launch} {e : Env} {s : State} {m : MethodId} {args : Array Value} {below : List Frame} {meth : Method} {c : Code} {G : mG} {b0 : Nat} (C : m_C p s m args c cX0_timesInLine 4 RX0 wsX0_timesInLine G b0) (hr : meth.sig.returnType = (some .int)) (hlocks : meth.locks = false) {κ : Int32 → mM → Prop} {l0 : Option Nat} {l1 : Option Nat} {M : mM} (h : wX0_timesInLine κ l0 l1 M) : m_W p l e ({ frames := 3, cells := 0, slots := 0, locals := 64 } : Room) s m args below meth c G b0 (MQ below (va_Qi κ (m_B G b0) (fun q => b0 ≤ q)) args s 0 0 (fun q => b0 ≤ q)) 4 M 0 0 0 [(0, va_rf l0), (1, va_rf l1)] [] := by
  unfold wX0_timesInLine at h
  refine q_iconst (pc := 0) C 0 dX0_timesInLine_0 (by decide) ?_
  refine q_istore_n (pc := 1) C 2 [(2, .int 0), (0, va_rf l0), (1, va_rf l1)] dX0_timesInLine_1 rfl (by decide) (by first | rfl | simp [q_cat, q_catI, q_catJ, q_catR, q_catN]) ?_
  refine q_iconst (pc := 2) C 0 dX0_timesInLine_2 (by decide) ?_
  refine q_istore_n (pc := 3) C 3 [(3, .int 0), (2, .int 0), (0, va_rf l0), (1, va_rf l1)] dX0_timesInLine_3 rfl (by decide) (by first | rfl | simp [q_cat, q_catI, q_catJ, q_catR, q_catN]) ?_
  refine q_widen (k2 := 0) (n2 := 0) (by omega) (by omega) ?_
  refine q_lv [2, 3, 1, 0] rfl ?_
  obtain ⟨f9, h⟩ := h
  exact tX0_timesInLine_4 C hr hlocks f9 _ _ _ _ _ h
set_option maxRecDepth 100000 in
set_option maxHeartbeats 4000000 in
theorem kX0_timesInLine (l : Launch) (G : mG) (b0 : Nat) {b : Nat} {l1 : Option Nat} {M : mM} {κ : Int32 → mM → Prop} (h : wX0_timesInLine κ (some b) l1 M) : Met l yX0_timesInLine wsX0_timesInLine ({ frames := 3, cells := 0, slots := 0, locals := 64 } : Room) (va_Pc [.ref b, va_rf l1] (m_Pre G b0 M)) (va_Qi κ (m_B G b0) (fun q => b0 ≤ q)) 0 0 (fun q => b0 ≤ q) := by
  refine m_met (cc := cX0_timesInLine) (maxL := 4) (ret := (some .int)) (lv := [(0, va_rf (some b)), (1, va_rf l1)]) RX0 rfl (by decide +kernel) rfl (by first | exact Nat.le_of_ble_eq_true rfl | simp [lg_sl, q_cat, q_catI, q_catJ, q_catR, q_catN]) (by first | rfl | (simp [lv_args, q_cat, q_catI, q_catJ, q_catR, q_catN]; done) | (simp [lv_args, q_cat, q_catI, q_catJ, q_catR, q_catN]; rfl)) ?_
  intro p e s m args below meth c C hr hlocks hni
  exact tX0_timesInLine C hr hlocks h
/-! X1_init -/
set_option maxRecDepth 100000 in
set_option maxHeartbeats 4000000 in
theorem tX1_init {p : Program} {l : Launch} {e : Env} {s : State} {m : MethodId} {args : Array Value} {below : List Frame} {meth : Method} {c : Code} {G : mG} {b0 : Nat} (C : m_C p s m args c cX1_init 4 RX1 wsX1_init G b0) (hr : meth.sig.returnType = none) (hlocks : meth.locks = false) (hni : meth.name = "<init>") {κ : mM → Prop} {l0 : Option Nat} {l1 : Option Nat} {l2 : Int32} {l3 : Int32} {M : mM} (h : wX1_init κ l0 l1 l2 l3 M) : m_W p l e ({ frames := 1, cells := 0, slots := 0, locals := 20 } : Room) s m args below meth c G b0 (MQ below (va_Qv κ (m_B G b0) (fun q => b0 ≤ q)) args s 0 0 (fun q => b0 ≤ q)) 4 M 0 0 0 [(0, va_rf l0), (1, va_rf l1), (2, .int l2), (3, .int l3)] [] := by
  unfold wX1_init at h
  refine q_aload_n (pc := 0) C 0 0 dX1_init_0 rfl rfl ?_
  obtain ⟨b9, hb9, h⟩ := h
  refine q_objInit (pc := 1) C hb9 (by decide +kernel) (by decide +kernel) (by decide +kernel) dX1_init_1 (Nat.le_of_ble_eq_true rfl) (by first | exact Nat.le_of_ble_eq_true rfl | (simp [q_cat, q_catI, q_catJ, q_catR, q_catN]; done) | (simp [q_cat, q_catI, q_catJ, q_catR, q_catN]; decide)) ?_
  refine q_aload_n (pc := 4) C 0 0 dX1_init_4 rfl rfl ?_
  refine q_aload_n (pc := 5) C 1 1 dX1_init_5 rfl rfl ?_
  refine q_pF (pc := 6) C hni h (.object "Lullabygate$Sleeper") (T := TX1) tyX1 tyX1_ok nmX1 rfl (by decide +kernel) (q_nrO _ _) (q_ftO _ _) rfl (by decide) (wk_u rfl wm_X1_init uq_X1 (by decide +kernel)) (by decide +kernel) (fun _ h9 => h9) rfl rfl dX1_init_6 (fun M1 h => ?_)
  refine q_aload_n (pc := 9) C 0 0 dX1_init_9 rfl rfl ?_
  refine q_iload_n (pc := 10) C 2 2 dX1_init_10 rfl rfl ?_
  refine q_pF (pc := 11) C hni h .int (T := TX1) tyX1 tyX1_ok nmX1 rfl (by decide +kernel) rfl rfl rfl (by decide) (wk_u rfl wm_X1_init uq_X1 (by decide +kernel)) (by decide +kernel) (fun _ h9 => h9) rfl rfl dX1_init_11 (fun M2 h => ?_)
  refine q_aload_n (pc := 14) C 0 0 dX1_init_14 rfl rfl ?_
  refine q_iload_n (pc := 15) C 3 3 dX1_init_15 rfl rfl ?_
  refine q_pF (pc := 16) C hni h .int (T := TX1) tyX1 tyX1_ok nmX1 rfl (by decide +kernel) rfl rfl rfl (by decide) (wk_u rfl wm_X1_init uq_X1 (by decide +kernel)) (by decide +kernel) (fun _ h9 => h9) rfl rfl dX1_init_16 (fun M3 h => ?_)
  exact q_vret (pc := 19) C hr hlocks h dX1_init_19 (by omega) (by omega)
set_option maxRecDepth 100000 in
set_option maxHeartbeats 4000000 in
theorem kX1_init (l : Launch) (G : mG) (b0 : Nat) {b : Nat} {l1 : Option Nat} {l2 : Int32} {l3 : Int32} {M : mM} {κ : mM → Prop} (h : wX1_init κ (some b) l1 l2 l3 M) : Met l yX1_init wsX1_init ({ frames := 1, cells := 0, slots := 0, locals := 20 } : Room) (va_Pc [.ref b, va_rf l1, .int l2, .int l3] (m_Pre G b0 M)) (va_Qv κ (m_B G b0) (fun q => b0 ≤ q)) 0 0 (fun q => b0 ≤ q) := by
  refine m_met (cc := cX1_init) (maxL := 4) (ret := none) (lv := [(0, va_rf (some b)), (1, va_rf l1), (2, .int l2), (3, .int l3)]) RX1 rfl (by decide +kernel) rfl (by first | exact Nat.le_of_ble_eq_true rfl | simp [lg_sl, q_cat, q_catI, q_catJ, q_catR, q_catN]) (by first | rfl | (simp [lv_args, q_cat, q_catI, q_catJ, q_catR, q_catN]; done) | (simp [lv_args, q_cat, q_catI, q_catJ, q_catR, q_catN]; rfl)) ?_
  intro p e s m args below meth c C hr hlocks hni
  exact tX1_init C hr hlocks hni h
/-! X2_init -/
set_option maxRecDepth 100000 in
set_option maxHeartbeats 4000000 in
theorem tX2_init {p : Program} {l : Launch} {e : Env} {s : State} {m : MethodId} {args : Array Value} {below : List Frame} {meth : Method} {c : Code} {G : mG} {b0 : Nat} (C : m_C p s m args c cX2_init 2 RX2 wsX2_init G b0) (hr : meth.sig.returnType = none) (hlocks : meth.locks = false) (hni : meth.name = "<init>") {κ : mM → Prop} {l0 : Option Nat} {l1 : Int32} {M : mM} (h : wX2_init κ l0 l1 M) : m_W p l e ({ frames := 1, cells := 0, slots := 0, locals := 20 } : Room) s m args below meth c G b0 (MQ below (va_Qv κ (m_B G b0) (fun q => b0 ≤ q)) args s 0 0 (fun q => b0 ≤ q)) 2 M 0 0 0 [(0, va_rf l0), (1, .int l1)] [] := by
  unfold wX2_init at h
  refine q_aload_n (pc := 0) C 0 0 dX2_init_0 rfl rfl ?_
  obtain ⟨b9, hb9, h⟩ := h
  refine q_objInit (pc := 1) C hb9 (by decide +kernel) (by decide +kernel) (by decide +kernel) dX2_init_1 (Nat.le_of_ble_eq_true rfl) (by first | exact Nat.le_of_ble_eq_true rfl | (simp [q_cat, q_catI, q_catJ, q_catR, q_catN]; done) | (simp [q_cat, q_catI, q_catJ, q_catR, q_catN]; decide)) ?_
  refine q_aload_n (pc := 4) C 0 0 dX2_init_4 rfl rfl ?_
  refine q_bipush (pc := 5) C 10 dX2_init_5 (by decide) ?_
  refine q_p (pc := 7) C h .int (T := TX2) tyX2 tyX2_ok nmX2 rfl (by decide +kernel) rfl rfl rfl (by decide) (wk_u rfl wm_X2_init uq_X2 (by decide +kernel)) (by decide +kernel) (fun _ h9 => h9) rfl dX2_init_7 (fun M1 h => ?_)
  refine q_aload_n (pc := 10) C 0 0 dX2_init_10 rfl rfl ?_
  refine q_bipush (pc := 11) C 20 dX2_init_11 (by decide) ?_
  refine q_p (pc := 13) C h .int (T := TX2) tyX2 tyX2_ok nmX2 rfl (by decide +kernel) rfl rfl rfl (by decide) (wk_u rfl wm_X2_init uq_X2 (by decide +kernel)) (by decide +kernel) (fun _ h9 => h9) rfl dX2_init_13 (fun M2 h => ?_)
  refine q_aload_n (pc := 16) C 0 0 dX2_init_16 rfl rfl ?_
  refine q_iconst (pc := 17) C 5 dX2_init_17 (by decide) ?_
  refine q_p (pc := 18) C h .int (T := TX2) tyX2 tyX2_ok nmX2 rfl (by decide +kernel) rfl rfl rfl (by decide) (wk_u rfl wm_X2_init uq_X2 (by decide +kernel)) (by decide +kernel) (fun _ h9 => h9) rfl dX2_init_18 (fun M3 h => ?_)
  refine q_aload_n (pc := 21) C 0 0 dX2_init_21 rfl rfl ?_
  refine q_iload_n (pc := 22) C 1 1 dX2_init_22 rfl rfl ?_
  refine q_pF (pc := 23) C hni h .int (T := TX2) tyX2 tyX2_ok nmX2 rfl (by decide +kernel) rfl rfl rfl (by decide) (wk_u rfl wm_X2_init uq_X2 (by decide +kernel)) (by decide +kernel) (fun _ h9 => h9) rfl rfl dX2_init_23 (fun M4 h => ?_)
  exact q_vret (pc := 26) C hr hlocks h dX2_init_26 (by omega) (by omega)
set_option maxRecDepth 100000 in
set_option maxHeartbeats 4000000 in
theorem kX2_init (l : Launch) (G : mG) (b0 : Nat) {b : Nat} {l1 : Int32} {M : mM} {κ : mM → Prop} (h : wX2_init κ (some b) l1 M) : Met l yX2_init wsX2_init ({ frames := 1, cells := 0, slots := 0, locals := 20 } : Room) (va_Pc [.ref b, .int l1] (m_Pre G b0 M)) (va_Qv κ (m_B G b0) (fun q => b0 ≤ q)) 0 0 (fun q => b0 ≤ q) := by
  refine m_met (cc := cX2_init) (maxL := 2) (ret := none) (lv := [(0, va_rf (some b)), (1, .int l1)]) RX2 rfl (by decide +kernel) rfl (by first | exact Nat.le_of_ble_eq_true rfl | simp [lg_sl, q_cat, q_catI, q_catJ, q_catR, q_catN]) (by first | rfl | (simp [lv_args, q_cat, q_catI, q_catJ, q_catR, q_catN]; done) | (simp [lv_args, q_cat, q_catI, q_catJ, q_catR, q_catN]; rfl)) ?_
  intro p e s m args below meth c C hr hlocks hni
  exact tX2_init C hr hlocks hni h
/-! X2_dutyOn -/
set_option maxRecDepth 100000 in
set_option maxHeartbeats 4000000 in
theorem tX2_dutyOn {p : Program} {l : Launch} {e : Env} {s : State} {m : MethodId} {args : Array Value} {below : List Frame} {meth : Method} {c : Code} {G : mG} {b0 : Nat} (C : m_C p s m args c cX2_dutyOn 2 RX2 wsX2_dutyOn G b0) (hr : meth.sig.returnType = (some .int)) (hlocks : meth.locks = false) {κ : Int32 → mM → Prop} {l0 : Option Nat} {l1 : Int32} {M : mM} (h : wX2_dutyOn κ l0 l1 M) : m_W p l e ({ frames := 0, cells := 0, slots := 0, locals := 0 } : Room) s m args below meth c G b0 (MQ below (va_Qi κ (m_B G b0) (fun q => b0 ≤ q)) args s 0 0 (fun q => b0 ≤ q)) 2 M 0 0 0 [(0, va_rf l0), (1, .int l1)] [] := by
  unfold wX2_dutyOn at h
  refine q_iload_n (pc := 0) C 1 1 dX2_dutyOn_0 rfl rfl ?_
  refine q_aload_n (pc := 1) C 0 0 dX2_dutyOn_1 rfl rfl ?_
  refine q_gI (pc := 2) C h (T := TX2) rfl (by decide) (wk_u rfl wm_X2_dutyOn uq_X2 (by decide +kernel)) (by decide +kernel) (fun _ h9 => h9) dX2_dutyOn_2 (fun x1 h => ?_)
  refine q_icmp_gt (pc := 5) C 12 dX2_dutyOn_5 (by decide) (fun c2 => ?_) (fun c2 => ?_)
  · have h := h.1 c2
    refine q_iload_n (pc := 12) C 1 1 dX2_dutyOn_12 rfl rfl ?_
    refine q_aload_n (pc := 13) C 0 0 dX2_dutyOn_13 rfl rfl ?_
    refine q_gI (pc := 14) C h (T := TX2) rfl (by decide) (wk_u rfl wm_X2_dutyOn uq_X2 (by decide +kernel)) (by decide +kernel) (fun _ h9 => h9) dX2_dutyOn_14 (fun x3 h => ?_)
    refine q_isub (pc := 17) C dX2_dutyOn_17 ?_
    refine q_aload_n (pc := 18) C 0 0 dX2_dutyOn_18 rfl rfl ?_
    refine q_gI (pc := 19) C h (T := TX2) rfl (by decide) (wk_u rfl wm_X2_dutyOn uq_X2 (by decide +kernel)) (by decide +kernel) (fun _ h9 => h9) dX2_dutyOn_19 (fun x4 h => ?_)
    refine q_imul (pc := 22) C dX2_dutyOn_22 ?_
    refine q_bipush (pc := 23) C 100 dX2_dutyOn_23 (by decide) ?_
    refine q_idiv (pc := 25) C dX2_dutyOn_25 (by decide) ?_
    exact q_iret (pc := 26) C hr hlocks h dX2_dutyOn_26 (by omega) (by omega)
  · have h := h.2 c2
    refine q_iconst (pc := 8) C 0 dX2_dutyOn_8 (by decide) ?_
    refine q_goto (pc := 9) C 26 dX2_dutyOn_9 (by decide) ?_
    exact q_iret (pc := 26) C hr hlocks h dX2_dutyOn_26 (by omega) (by omega)
set_option maxRecDepth 100000 in
set_option maxHeartbeats 4000000 in
theorem kX2_dutyOn (l : Launch) (G : mG) (b0 : Nat) {b : Nat} {l1 : Int32} {M : mM} {κ : Int32 → mM → Prop} (h : wX2_dutyOn κ (some b) l1 M) : Met l yX2_dutyOn wsX2_dutyOn ({ frames := 0, cells := 0, slots := 0, locals := 0 } : Room) (va_Pc [.ref b, .int l1] (m_Pre G b0 M)) (va_Qi κ (m_B G b0) (fun q => b0 ≤ q)) 0 0 (fun q => b0 ≤ q) := by
  refine m_met (cc := cX2_dutyOn) (maxL := 2) (ret := (some .int)) (lv := [(0, va_rf (some b)), (1, .int l1)]) RX2 rfl (by decide +kernel) rfl (by first | exact Nat.le_of_ble_eq_true rfl | simp [lg_sl, q_cat, q_catI, q_catJ, q_catR, q_catN]) (by first | rfl | (simp [lv_args, q_cat, q_catI, q_catJ, q_catR, q_catN]; done) | (simp [lv_args, q_cat, q_catI, q_catJ, q_catR, q_catN]; rfl)) ?_
  intro p e s m args below meth c C hr hlocks hni
  exact tX2_dutyOn C hr hlocks h
/-! X3_init -/
set_option maxRecDepth 100000 in
set_option maxHeartbeats 4000000 in
theorem tX3_init {p : Program} {l : Launch} {e : Env} {s : State} {m : MethodId} {args : Array Value} {below : List Frame} {meth : Method} {c : Code} {G : mG} {b0 : Nat} (C : m_C p s m args c cX3_init 6 RX3 wsX3_init G b0) (hr : meth.sig.returnType = none) (hlocks : meth.locks = false) (hni : meth.name = "<init>") {κ : mM → Prop} {l0 : Option Nat} {l1 : Int32} {l2 : Option Nat} {l3 : Int32} {l4 : Int32} {l5 : Int32} {M : mM} (h : wX3_init κ l0 l1 l2 l3 l4 l5 M) : m_W p l e ({ frames := 1, cells := 0, slots := 0, locals := 20 } : Room) s m args below meth c G b0 (MQ below (va_Qv κ (m_B G b0) (fun q => b0 ≤ q)) args s 0 0 (fun q => b0 ≤ q)) 6 M 0 0 0 [(0, va_rf l0), (1, .int l1), (2, va_rf l2), (3, .int l3), (4, .int l4), (5, .int l5)] [] := by
  unfold wX3_init at h
  refine q_aload_n (pc := 0) C 0 0 dX3_init_0 rfl rfl ?_
  obtain ⟨b9, hb9, h⟩ := h
  refine q_objInit (pc := 1) C hb9 (by decide +kernel) (by decide +kernel) (by decide +kernel) dX3_init_1 (Nat.le_of_ble_eq_true rfl) (by first | exact Nat.le_of_ble_eq_true rfl | (simp [q_cat, q_catI, q_catJ, q_catR, q_catN]; done) | (simp [q_cat, q_catI, q_catJ, q_catR, q_catN]; decide)) ?_
  refine q_aload_n (pc := 4) C 0 0 dX3_init_4 rfl rfl ?_
  refine q_iload_n (pc := 5) C 1 1 dX3_init_5 rfl rfl ?_
  refine q_pF (pc := 6) C hni h .int (T := TX3) tyX3 tyX3_ok nmX3 rfl (by decide +kernel) rfl rfl rfl (by decide) (wk_u rfl wm_X3_init uq_X3 (by decide +kernel)) (by decide +kernel) (fun _ h9 => h9) rfl rfl dX3_init_6 (fun M1 h => ?_)
  refine q_aload_n (pc := 9) C 0 0 dX3_init_9 rfl rfl ?_
  refine q_aload_n (pc := 10) C 2 2 dX3_init_10 rfl rfl ?_
  refine q_p (pc := 11) C h (.object "Lullabygate$Sleeper") (T := TX3) tyX3 tyX3_ok nmX3 rfl (by decide +kernel) (q_nrO _ _) (q_ftO _ _) rfl (by decide) (wk_u rfl wm_X3_init uq_X3 (by decide +kernel)) (by decide +kernel) (fun _ h9 => h9) rfl dX3_init_11 (fun M2 h => ?_)
  refine q_aload_n (pc := 14) C 0 0 dX3_init_14 rfl rfl ?_
  refine q_iload_n (pc := 15) C 3 3 dX3_init_15 rfl rfl ?_
  refine q_pF (pc := 16) C hni h .int (T := TX3) tyX3 tyX3_ok nmX3 rfl (by decide +kernel) rfl rfl rfl (by decide) (wk_u rfl wm_X3_init uq_X3 (by decide +kernel)) (by decide +kernel) (fun _ h9 => h9) rfl rfl dX3_init_16 (fun M3 h => ?_)
  refine q_aload_n (pc := 19) C 0 0 dX3_init_19 rfl rfl ?_
  refine q_iload (pc := 20) C 4 4 dX3_init_20 rfl ?_
  refine q_pF (pc := 22) C hni h .int (T := TX3) tyX3 tyX3_ok nmX3 rfl (by decide +kernel) rfl rfl rfl (by decide) (wk_u rfl wm_X3_init uq_X3 (by decide +kernel)) (by decide +kernel) (fun _ h9 => h9) rfl rfl dX3_init_22 (fun M4 h => ?_)
  refine q_aload_n (pc := 25) C 0 0 dX3_init_25 rfl rfl ?_
  refine q_iload (pc := 26) C 5 5 dX3_init_26 rfl ?_
  refine q_pF (pc := 28) C hni h .int (T := TX3) tyX3 tyX3_ok nmX3 rfl (by decide +kernel) rfl rfl rfl (by decide) (wk_u rfl wm_X3_init uq_X3 (by decide +kernel)) (by decide +kernel) (fun _ h9 => h9) rfl rfl dX3_init_28 (fun M5 h => ?_)
  exact q_vret (pc := 31) C hr hlocks h dX3_init_31 (by omega) (by omega)
set_option maxRecDepth 100000 in
set_option maxHeartbeats 4000000 in
theorem kX3_init (l : Launch) (G : mG) (b0 : Nat) {b : Nat} {l1 : Int32} {l2 : Option Nat} {l3 : Int32} {l4 : Int32} {l5 : Int32} {M : mM} {κ : mM → Prop} (h : wX3_init κ (some b) l1 l2 l3 l4 l5 M) : Met l yX3_init wsX3_init ({ frames := 1, cells := 0, slots := 0, locals := 20 } : Room) (va_Pc [.ref b, .int l1, va_rf l2, .int l3, .int l4, .int l5] (m_Pre G b0 M)) (va_Qv κ (m_B G b0) (fun q => b0 ≤ q)) 0 0 (fun q => b0 ≤ q) := by
  refine m_met (cc := cX3_init) (maxL := 6) (ret := none) (lv := [(0, va_rf (some b)), (1, .int l1), (2, va_rf l2), (3, .int l3), (4, .int l4), (5, .int l5)]) RX3 rfl (by decide +kernel) rfl (by first | exact Nat.le_of_ble_eq_true rfl | simp [lg_sl, q_cat, q_catI, q_catJ, q_catR, q_catN]) (by first | rfl | (simp [lv_args, q_cat, q_catI, q_catJ, q_catR, q_catN]; done) | (simp [lv_args, q_cat, q_catI, q_catJ, q_catR, q_catN]; rfl)) ?_
  intro p e s m args below meth c C hr hlocks hni
  exact tX3_init C hr hlocks hni h
/-! X3_isNightmare -/
set_option maxRecDepth 100000 in
set_option maxHeartbeats 4000000 in
theorem tX3_isNightmare {p : Program} {l : Launch} {e : Env} {s : State} {m : MethodId} {args : Array Value} {below : List Frame} {meth : Method} {c : Code} {G : mG} {b0 : Nat} (C : m_C p s m args c cX3_isNightmare 1 RX3 wsX3_isNightmare G b0) (hr : meth.sig.returnType = (some .boolean)) (hlocks : meth.locks = false) {κ : Int32 → mM → Prop} {l0 : Option Nat} {M : mM} (h : wX3_isNightmare κ l0 M) : m_W p l e ({ frames := 0, cells := 0, slots := 0, locals := 0 } : Room) s m args below meth c G b0 (MQ below (va_Qi κ (m_B G b0) (fun q => b0 ≤ q)) args s 0 0 (fun q => b0 ≤ q)) 1 M 0 0 0 [(0, va_rf l0)] [] := by
  unfold wX3_isNightmare at h
  refine q_aload_n (pc := 0) C 0 0 dX3_isNightmare_0 rfl rfl ?_
  refine q_gI (pc := 1) C h (T := TX3) rfl (by decide) (wk_u rfl wm_X3_isNightmare uq_X3 (by decide +kernel)) (by decide +kernel) (fun _ h9 => h9) dX3_isNightmare_1 (fun x1 h => ?_)
  refine q_iconst (pc := 4) C 5 dX3_isNightmare_4 (by decide) ?_
  refine q_icmp_lt (pc := 5) C 12 dX3_isNightmare_5 (by decide) (fun c2 => ?_) (fun c2 => ?_)
  · have h := h.1 c2
    refine q_iconst (pc := 12) C 0 dX3_isNightmare_12 (by decide) ?_
    exact q_zret (pc := 13) C hr hlocks ⟨(by decide), h⟩ dX3_isNightmare_13 (by omega) (by omega)
  · have h := h.2 c2
    refine q_iconst (pc := 8) C 1 dX3_isNightmare_8 (by decide) ?_
    refine q_goto (pc := 9) C 13 dX3_isNightmare_9 (by decide) ?_
    exact q_zret (pc := 13) C hr hlocks ⟨(by decide), h⟩ dX3_isNightmare_13 (by omega) (by omega)
set_option maxRecDepth 100000 in
set_option maxHeartbeats 4000000 in
theorem kX3_isNightmare (l : Launch) (G : mG) (b0 : Nat) {b : Nat} {M : mM} {κ : Int32 → mM → Prop} (h : wX3_isNightmare κ (some b) M) : Met l yX3_isNightmare wsX3_isNightmare ({ frames := 0, cells := 0, slots := 0, locals := 0 } : Room) (va_Pc [.ref b] (m_Pre G b0 M)) (va_Qi κ (m_B G b0) (fun q => b0 ≤ q)) 0 0 (fun q => b0 ≤ q) := by
  refine m_met (cc := cX3_isNightmare) (maxL := 1) (ret := (some .boolean)) (lv := [(0, va_rf (some b))]) RX3 rfl (by decide +kernel) rfl (by first | exact Nat.le_of_ble_eq_true rfl | simp [lg_sl, q_cat, q_catI, q_catJ, q_catR, q_catN]) (by first | rfl | (simp [lv_args, q_cat, q_catI, q_catJ, q_catR, q_catN]; done) | (simp [lv_args, q_cat, q_catI, q_catJ, q_catR, q_catN]; rfl)) ?_
  intro p e s m args below meth c C hr hlocks hni
  exact tX3_isNightmare C hr hlocks h
/-! X3_isIn -/
set_option maxRecDepth 100000 in
set_option maxHeartbeats 4000000 in
theorem tX3_isIn {p : Program} {l : Launch} {e : Env} {s : State} {m : MethodId} {args : Array Value} {below : List Frame} {meth : Method} {c : Code} {G : mG} {b0 : Nat} (C : m_C p s m args c cX3_isIn 2 RX3 wsX3_isIn G b0) (hr : meth.sig.returnType = (some .boolean)) (hlocks : meth.locks = false) {κ : Int32 → mM → Prop} {l0 : Option Nat} {l1 : Int32} {M : mM} (h : wX3_isIn κ l0 l1 M) : m_W p l e ({ frames := 0, cells := 0, slots := 0, locals := 0 } : Room) s m args below meth c G b0 (MQ below (va_Qi κ (m_B G b0) (fun q => b0 ≤ q)) args s 0 0 (fun q => b0 ≤ q)) 2 M 0 0 0 [(0, va_rf l0), (1, .int l1)] [] := by
  unfold wX3_isIn at h
  refine q_iload_n (pc := 0) C 1 1 dX3_isIn_0 rfl rfl ?_
  refine q_aload_n (pc := 1) C 0 0 dX3_isIn_1 rfl rfl ?_
  refine q_gI (pc := 2) C h (T := TX3) rfl (by decide) (wk_u rfl wm_X3_isIn uq_X3 (by decide +kernel)) (by decide +kernel) (fun _ h9 => h9) dX3_isIn_2 (fun x1 h => ?_)
  refine q_ishr (pc := 5) C dX3_isIn_5 ?_
  refine m_stk (st2 := .int (m_shr l1 x1) :: _) rfl ?_
  refine q_iconst (pc := 6) C 1 dX3_isIn_6 (by decide) ?_
  refine q_iand (pc := 7) C dX3_isIn_7 ?_
  refine q_if_eq (pc := 8) C 15 dX3_isIn_8 (by decide) (fun c2 => ?_) (fun c2 => ?_)
  · have h := h.1 c2
    refine q_iconst (pc := 15) C 0 dX3_isIn_15 (by decide) ?_
    exact q_zret (pc := 16) C hr hlocks ⟨(by decide), h⟩ dX3_isIn_16 (by omega) (by omega)
  · have h := h.2 c2
    refine q_iconst (pc := 11) C 1 dX3_isIn_11 (by decide) ?_
    refine q_goto (pc := 12) C 16 dX3_isIn_12 (by decide) ?_
    exact q_zret (pc := 16) C hr hlocks ⟨(by decide), h⟩ dX3_isIn_16 (by omega) (by omega)
set_option maxRecDepth 100000 in
set_option maxHeartbeats 4000000 in
theorem kX3_isIn (l : Launch) (G : mG) (b0 : Nat) {b : Nat} {l1 : Int32} {M : mM} {κ : Int32 → mM → Prop} (h : wX3_isIn κ (some b) l1 M) : Met l yX3_isIn wsX3_isIn ({ frames := 0, cells := 0, slots := 0, locals := 0 } : Room) (va_Pc [.ref b, .int l1] (m_Pre G b0 M)) (va_Qi κ (m_B G b0) (fun q => b0 ≤ q)) 0 0 (fun q => b0 ≤ q) := by
  refine m_met (cc := cX3_isIn) (maxL := 2) (ret := (some .boolean)) (lv := [(0, va_rf (some b)), (1, .int l1)]) RX3 rfl (by decide +kernel) rfl (by first | exact Nat.le_of_ble_eq_true rfl | simp [lg_sl, q_cat, q_catI, q_catJ, q_catR, q_catN]) (by first | rfl | (simp [lv_args, q_cat, q_catI, q_catJ, q_catR, q_catN]; done) | (simp [lv_args, q_cat, q_catI, q_catJ, q_catR, q_catN]; rfl)) ?_
  intro p e s m args below meth c C hr hlocks hni
  exact tX3_isIn C hr hlocks h
/-! X3_isHidden -/
set_option maxRecDepth 100000 in
set_option maxHeartbeats 4000000 in
theorem tX3_isHidden {p : Program} {l : Launch} {e : Env} {s : State} {m : MethodId} {args : Array Value} {below : List Frame} {meth : Method} {c : Code} {G : mG} {b0 : Nat} (C : m_C p s m args c cX3_isHidden 1 RX3 wsX3_isHidden G b0) (hr : meth.sig.returnType = (some .boolean)) (hlocks : meth.locks = false) {κ : Int32 → mM → Prop} {l0 : Option Nat} {M : mM} (h : wX3_isHidden κ l0 M) : m_W p l e ({ frames := 1, cells := 0, slots := 0, locals := 21 } : Room) s m args below meth c G b0 (MQ below (va_Qi κ (m_B G b0) (fun q => b0 ≤ q)) args s 0 0 (fun q => b0 ≤ q)) 1 M 0 0 0 [(0, va_rf l0)] [] := by
  unfold wX3_isHidden at h
  refine q_aload_n (pc := 0) C 0 0 dX3_isHidden_0 rfl rfl ?_
  refine q_gR (pc := 1) C h (T := TX3) rfl (by decide) (wk_u rfl wm_X3_isHidden uq_X3 (by decide +kernel)) (by decide +kernel) (fun _ h9 => h9) dX3_isHidden_1 (fun x1 h => ?_)
  refine q_ifnull (pc := 4) C 25 dX3_isHidden_4 (by decide) (fun c2 => ?_) (fun c2 => ?_)
  · have h := h.1 c2
    refine q_iconst (pc := 25) C 0 dX3_isHidden_25 (by decide) ?_
    exact q_zret (pc := 26) C hr hlocks ⟨(by decide), h⟩ dX3_isHidden_26 (by omega) (by omega)
  · have h := h.2 c2
    refine q_aload_n (pc := 7) C 0 0 dX3_isHidden_7 rfl rfl ?_
    refine q_aload_n (pc := 8) C 0 0 dX3_isHidden_8 rfl rfl ?_
    refine q_gR (pc := 9) C h (T := TX3) rfl (by decide) (wk_u rfl wm_X3_isHidden uq_X3 (by decide +kernel)) (by decide +kernel) (fun _ h9 => h9) dX3_isHidden_9 (fun x3 h => ?_)
    refine q_gI (pc := 12) C h (T := TX6) rfl (by decide) (wk_u rfl wm_X3_isHidden uq_X6 (by decide +kernel)) (by decide +kernel) (fun _ h9 => h9) dX3_isHidden_12 (fun x4 h => ?_)
    obtain ⟨b7, fs9, hb7, hm9, h⟩ := h
    refine q_ci (pc := 15) (q_rV C (st := []) (b := b7) (kX3_isIn l G b0 h) (cwV 1 C.2.2.2.2.1 gX3_isHidden_X3_isIn rfl rfl rfl (by decide +kernel) ⟨Nat.le_of_ble_eq_true rfl, Nat.le_of_ble_eq_true rfl⟩) hm9 rfl rfl rfl (by first | exact Nat.le_of_ble_eq_true rfl | (simp [q_cat, q_catI, q_catJ, q_catR, q_catN]; done)) (by rw [hb7]; first | done | rfl) dX3_isHidden_15 ⟨(by first | omega | (dsimp only; omega)), (by first | omega | (dsimp only; omega))⟩) (fun x5 M6 h => ?_)
    refine q_if_ne (pc := 18) C 25 dX3_isHidden_18 (by decide) (fun c8 => ?_) (fun c8 => ?_)
    · have h := h.2 c8
      refine q_iconst (pc := 25) C 0 dX3_isHidden_25 (by decide) ?_
      exact q_zret (pc := 26) C hr hlocks ⟨(by decide), h⟩ dX3_isHidden_26 (by omega) (by omega)
    · have h := h.1 c8
      refine q_iconst (pc := 21) C 1 dX3_isHidden_21 (by decide) ?_
      refine q_goto (pc := 22) C 26 dX3_isHidden_22 (by decide) ?_
      exact q_zret (pc := 26) C hr hlocks ⟨(by decide), h⟩ dX3_isHidden_26 (by omega) (by omega)
set_option maxRecDepth 100000 in
set_option maxHeartbeats 4000000 in
theorem kX3_isHidden (l : Launch) (G : mG) (b0 : Nat) {b : Nat} {M : mM} {κ : Int32 → mM → Prop} (h : wX3_isHidden κ (some b) M) : Met l yX3_isHidden wsX3_isHidden ({ frames := 1, cells := 0, slots := 0, locals := 21 } : Room) (va_Pc [.ref b] (m_Pre G b0 M)) (va_Qi κ (m_B G b0) (fun q => b0 ≤ q)) 0 0 (fun q => b0 ≤ q) := by
  refine m_met (cc := cX3_isHidden) (maxL := 1) (ret := (some .boolean)) (lv := [(0, va_rf (some b))]) RX3 rfl (by decide +kernel) rfl (by first | exact Nat.le_of_ble_eq_true rfl | simp [lg_sl, q_cat, q_catI, q_catJ, q_catR, q_catN]) (by first | rfl | (simp [lv_args, q_cat, q_catI, q_catJ, q_catR, q_catN]; done) | (simp [lv_args, q_cat, q_catI, q_catJ, q_catR, q_catN]; rfl)) ?_
  intro p e s m args below meth c C hr hlocks hni
  exact tX3_isHidden C hr hlocks h
/-! X3_whereabouts -/
set_option maxRecDepth 100000 in
set_option maxHeartbeats 4000000 in
theorem tX3_whereabouts {p : Program} {l : Launch} {e : Env} {s : State} {m : MethodId} {args : Array Value} {below : List Frame} {meth : Method} {c : Code} {G : mG} {b0 : Nat} (C : m_C p s m args c cX3_whereabouts 1 RX3 wsX3_whereabouts G b0) (hr : meth.sig.returnType = (some (.object "Lullabygate$Land"))) (hlocks : meth.locks = false) {κ : Option Nat → mM → Prop} {l0 : Option Nat} {M : mM} (h : wX3_whereabouts κ l0 M) : m_W p l e ({ frames := 0, cells := 0, slots := 0, locals := 0 } : Room) s m args below meth c G b0 (MQ below (va_Qq κ (m_B G b0) (fun q => b0 ≤ q)) args s 0 0 (fun q => b0 ≤ q)) 1 M 0 0 0 [(0, va_rf l0)] [] := by
  unfold wX3_whereabouts at h
  refine q_aload_n (pc := 0) C 0 0 dX3_whereabouts_0 rfl rfl ?_
  refine q_gR (pc := 1) C h (T := TX3) rfl (by decide) (wk_u rfl wm_X3_whereabouts uq_X3 (by decide +kernel)) (by decide +kernel) (fun _ h9 => h9) dX3_whereabouts_1 (fun x1 h => ?_)
  refine q_ifnull (pc := 4) C 12 dX3_whereabouts_4 (by decide) (fun c2 => ?_) (fun c2 => ?_)
  · have h := h.1 c2
    refine q_aload_n (pc := 12) C 0 0 dX3_whereabouts_12 rfl rfl ?_
    refine q_gR (pc := 13) C h (T := TX3) rfl (by decide) (wk_u rfl wm_X3_whereabouts uq_X3 (by decide +kernel)) (by decide +kernel) (fun _ h9 => h9) dX3_whereabouts_13 (fun x3 h => ?_)
    refine q_ifnonnull (pc := 16) C 23 dX3_whereabouts_16 (by decide) (fun c4 => ?_) (fun c4 => ?_)
    · have h := h.2 c4
      refine q_aload_n (pc := 23) C 0 0 dX3_whereabouts_23 rfl rfl ?_
      refine q_gR (pc := 24) C h (T := TX3) rfl (by decide) (wk_u rfl wm_X3_whereabouts uq_X3 (by decide +kernel)) (by decide +kernel) (fun _ h9 => h9) dX3_whereabouts_24 (fun x5 h => ?_)
      refine q_gR (pc := 27) C h (T := TX6) rfl (by decide) (wk_u rfl wm_X3_whereabouts uq_X6 (by decide +kernel)) (by decide +kernel) (fun _ h9 => h9) dX3_whereabouts_27 (fun x6 h => ?_)
      exact q_aret (pc := 30) C hr (by first | exact Or.inl ⟨_, rfl⟩ | exact Or.inr ⟨_, rfl⟩) hlocks h dX3_whereabouts_30 (by omega) (by omega)
    · have h := h.1 c4
      refine q_null (pc := 19) C dX3_whereabouts_19 ?_
      refine q_goto (pc := 20) C 30 dX3_whereabouts_20 (by decide) ?_
      exact q_aret (pc := 30) C hr (by first | exact Or.inl ⟨_, rfl⟩ | exact Or.inr ⟨_, rfl⟩) hlocks h dX3_whereabouts_30 (by omega) (by omega)
  · have h := h.2 c2
    refine q_aload_n (pc := 7) C 0 0 dX3_whereabouts_7 rfl rfl ?_
    refine q_gR (pc := 8) C h (T := TX3) rfl (by decide) (wk_u rfl wm_X3_whereabouts uq_X3 (by decide +kernel)) (by decide +kernel) (fun _ h9 => h9) dX3_whereabouts_8 (fun x7 h => ?_)
    exact q_aret (pc := 11) C hr (by first | exact Or.inl ⟨_, rfl⟩ | exact Or.inr ⟨_, rfl⟩) hlocks h dX3_whereabouts_11 (by omega) (by omega)
set_option maxRecDepth 100000 in
set_option maxHeartbeats 4000000 in
theorem kX3_whereabouts (l : Launch) (G : mG) (b0 : Nat) {b : Nat} {M : mM} {κ : Option Nat → mM → Prop} (h : wX3_whereabouts κ (some b) M) : Met l yX3_whereabouts wsX3_whereabouts ({ frames := 0, cells := 0, slots := 0, locals := 0 } : Room) (va_Pc [.ref b] (m_Pre G b0 M)) (va_Qq κ (m_B G b0) (fun q => b0 ≤ q)) 0 0 (fun q => b0 ≤ q) := by
  refine m_met (cc := cX3_whereabouts) (maxL := 1) (ret := (some (.object "Lullabygate$Land"))) (lv := [(0, va_rf (some b))]) RX3 rfl (by decide +kernel) rfl (by first | exact Nat.le_of_ble_eq_true rfl | simp [lg_sl, q_cat, q_catI, q_catJ, q_catR, q_catN]) (by first | rfl | (simp [lv_args, q_cat, q_catI, q_catJ, q_catR, q_catN]; done) | (simp [lv_args, q_cat, q_catI, q_catJ, q_catR, q_catN]; rfl)) ?_
  intro p e s m args below meth c C hr hlocks hni
  exact tX3_whereabouts C hr hlocks h
/-! X3_putInStore -/
set_option maxRecDepth 100000 in
set_option maxHeartbeats 4000000 in
theorem tX3_putInStore {p : Program} {l : Launch} {e : Env} {s : State} {m : MethodId} {args : Array Value} {below : List Frame} {meth : Method} {c : Code} {G : mG} {b0 : Nat} (C : m_C p s m args c cX3_putInStore 3 RX3 wsX3_putInStore G b0) (hr : meth.sig.returnType = none) (hlocks : meth.locks = false) {κ : mM → Prop} {l0 : Option Nat} {l1 : Option Nat} {l2 : Int32} {M : mM} (h : wX3_putInStore κ l0 l1 l2 M) : m_W p l e ({ frames := 0, cells := 0, slots := 0, locals := 0 } : Room) s m args below meth c G b0 (MQ below (va_Qv κ (m_B G b0) (fun q => b0 ≤ q)) args s 0 0 (fun q => b0 ≤ q)) 3 M 0 0 0 [(0, va_rf l0), (1, va_rf l1), (2, .int l2)] [] := by
  unfold wX3_putInStore at h
  refine q_aload_n (pc := 0) C 0 0 dX3_putInStore_0 rfl rfl ?_
  refine q_null (pc := 1) C dX3_putInStore_1 ?_
  refine q_p (pc := 2) C h (.object "Lullabygate$Sleeper") (T := TX3) tyX3 tyX3_ok nmX3 rfl (by decide +kernel) (q_nrO _ _) (q_ftO _ _) rfl (by decide) (wk_u rfl wm_X3_putInStore uq_X3 (by decide +kernel)) (by decide +kernel) (fun _ h9 => h9) rfl dX3_putInStore_2 (fun M1 h => ?_)
  refine q_aload_n (pc := 5) C 0 0 dX3_putInStore_5 rfl rfl ?_
  refine q_aload_n (pc := 6) C 1 1 dX3_putInStore_6 rfl rfl ?_
  refine q_p (pc := 7) C h (.object "Lullabygate$Land") (T := TX3) tyX3 tyX3_ok nmX3 rfl (by decide +kernel) (q_nrO _ _) (q_ftO _ _) rfl (by decide) (wk_u rfl wm_X3_putInStore uq_X3 (by decide +kernel)) (by decide +kernel) (fun _ h9 => h9) rfl dX3_putInStore_7 (fun M2 h => ?_)
  refine q_aload_n (pc := 10) C 0 0 dX3_putInStore_10 rfl rfl ?_
  refine q_iload_n (pc := 11) C 2 2 dX3_putInStore_11 rfl rfl ?_
  refine q_p (pc := 12) C h .int (T := TX3) tyX3 tyX3_ok nmX3 rfl (by decide +kernel) rfl rfl rfl (by decide) (wk_u rfl wm_X3_putInStore uq_X3 (by decide +kernel)) (by decide +kernel) (fun _ h9 => h9) rfl dX3_putInStore_12 (fun M3 h => ?_)
  exact q_vret (pc := 15) C hr hlocks h dX3_putInStore_15 (by omega) (by omega)
set_option maxRecDepth 100000 in
set_option maxHeartbeats 4000000 in
theorem kX3_putInStore (l : Launch) (G : mG) (b0 : Nat) {b : Nat} {l1 : Option Nat} {l2 : Int32} {M : mM} {κ : mM → Prop} (h : wX3_putInStore κ (some b) l1 l2 M) : Met l yX3_putInStore wsX3_putInStore ({ frames := 0, cells := 0, slots := 0, locals := 0 } : Room) (va_Pc [.ref b, va_rf l1, .int l2] (m_Pre G b0 M)) (va_Qv κ (m_B G b0) (fun q => b0 ≤ q)) 0 0 (fun q => b0 ≤ q) := by
  refine m_met (cc := cX3_putInStore) (maxL := 3) (ret := none) (lv := [(0, va_rf (some b)), (1, va_rf l1), (2, .int l2)]) RX3 rfl (by decide +kernel) rfl (by first | exact Nat.le_of_ble_eq_true rfl | simp [lg_sl, q_cat, q_catI, q_catJ, q_catR, q_catN]) (by first | rfl | (simp [lv_args, q_cat, q_catI, q_catJ, q_catR, q_catN]; done) | (simp [lv_args, q_cat, q_catI, q_catJ, q_catR, q_catN]; rfl)) ?_
  intro p e s m args below meth c C hr hlocks hni
  exact tX3_putInStore C hr hlocks h
/-! X4_init -/
set_option maxRecDepth 100000 in
set_option maxHeartbeats 4000000 in
theorem tX4_init {p : Program} {l : Launch} {e : Env} {s : State} {m : MethodId} {args : Array Value} {below : List Frame} {meth : Method} {c : Code} {G : mG} {b0 : Nat} (C : m_C p s m args c cX4_init 4 RX4 wsX4_init G b0) (hr : meth.sig.returnType = none) (hlocks : meth.locks = false) (hni : meth.name = "<init>") {κ : mM → Prop} {l0 : Option Nat} {l1 : Option Nat} {l2 : Int32} {l3 : Int32} {M : mM} (h : wX4_init κ l0 l1 l2 l3 M) : m_W p l e ({ frames := 1, cells := 0, slots := 0, locals := 20 } : Room) s m args below meth c G b0 (MQ below (va_Qv κ (m_B G b0) (fun q => b0 ≤ q)) args s 0 0 (fun q => b0 ≤ q)) 4 M 0 0 0 [(0, va_rf l0), (1, va_rf l1), (2, .int l2), (3, .int l3)] [] := by
  unfold wX4_init at h
  refine q_aload_n (pc := 0) C 0 0 dX4_init_0 rfl rfl ?_
  obtain ⟨b9, hb9, h⟩ := h
  refine q_objInit (pc := 1) C hb9 (by decide +kernel) (by decide +kernel) (by decide +kernel) dX4_init_1 (Nat.le_of_ble_eq_true rfl) (by first | exact Nat.le_of_ble_eq_true rfl | (simp [q_cat, q_catI, q_catJ, q_catR, q_catN]; done) | (simp [q_cat, q_catI, q_catJ, q_catR, q_catN]; decide)) ?_
  refine q_aload_n (pc := 4) C 0 0 dX4_init_4 rfl rfl ?_
  refine q_aload_n (pc := 5) C 1 1 dX4_init_5 rfl rfl ?_
  refine q_pF (pc := 6) C hni h (.object "Lullabygate$Gate") (T := TX4) tyX4 tyX4_ok nmX4 rfl (by decide +kernel) (q_nrO _ _) (q_ftO _ _) rfl (by decide) (wk_u rfl wm_X4_init uq_X4 (by decide +kernel)) (by decide +kernel) (fun _ h9 => h9) rfl rfl dX4_init_6 (fun M1 h => ?_)
  refine q_aload_n (pc := 9) C 0 0 dX4_init_9 rfl rfl ?_
  refine q_iload_n (pc := 10) C 2 2 dX4_init_10 rfl rfl ?_
  refine q_pF (pc := 11) C hni h .int (T := TX4) tyX4 tyX4_ok nmX4 rfl (by decide +kernel) rfl rfl rfl (by decide) (wk_u rfl wm_X4_init uq_X4 (by decide +kernel)) (by decide +kernel) (fun _ h9 => h9) rfl rfl dX4_init_11 (fun M2 h => ?_)
  refine q_aload_n (pc := 14) C 0 0 dX4_init_14 rfl rfl ?_
  refine q_iload_n (pc := 15) C 3 3 dX4_init_15 rfl rfl ?_
  refine q_pF (pc := 16) C hni h .int (T := TX4) tyX4 tyX4_ok nmX4 rfl (by decide +kernel) rfl rfl rfl (by decide) (wk_u rfl wm_X4_init uq_X4 (by decide +kernel)) (by decide +kernel) (fun _ h9 => h9) rfl rfl dX4_init_16 (fun M3 h => ?_)
  exact q_vret (pc := 19) C hr hlocks h dX4_init_19 (by omega) (by omega)
set_option maxRecDepth 100000 in
set_option maxHeartbeats 4000000 in
theorem kX4_init (l : Launch) (G : mG) (b0 : Nat) {b : Nat} {l1 : Option Nat} {l2 : Int32} {l3 : Int32} {M : mM} {κ : mM → Prop} (h : wX4_init κ (some b) l1 l2 l3 M) : Met l yX4_init wsX4_init ({ frames := 1, cells := 0, slots := 0, locals := 20 } : Room) (va_Pc [.ref b, va_rf l1, .int l2, .int l3] (m_Pre G b0 M)) (va_Qv κ (m_B G b0) (fun q => b0 ≤ q)) 0 0 (fun q => b0 ≤ q) := by
  refine m_met (cc := cX4_init) (maxL := 4) (ret := none) (lv := [(0, va_rf (some b)), (1, va_rf l1), (2, .int l2), (3, .int l3)]) RX4 rfl (by decide +kernel) rfl (by first | exact Nat.le_of_ble_eq_true rfl | simp [lg_sl, q_cat, q_catI, q_catJ, q_catR, q_catN]) (by first | rfl | (simp [lv_args, q_cat, q_catI, q_catJ, q_catR, q_catN]; done) | (simp [lv_args, q_cat, q_catI, q_catJ, q_catR, q_catN]; rfl)) ?_
  intro p e s m args below meth c C hr hlocks hni
  exact tX4_init C hr hlocks hni h
/-! X5_init -/
set_option maxRecDepth 100000 in
set_option maxHeartbeats 4000000 in
theorem tX5_init {p : Program} {l : Launch} {e : Env} {s : State} {m : MethodId} {args : Array Value} {below : List Frame} {meth : Method} {c : Code} {G : mG} {b0 : Nat} (C : m_C p s m args c cX5_init 1 RX5 wsX5_init G b0) (hr : meth.sig.returnType = none) (hlocks : meth.locks = false) (hni : meth.name = "<init>") {κ : mM → Prop} {l0 : Option Nat} {M : mM} (h : wX5_init κ l0 M) : m_W p l e ({ frames := 1, cells := 0, slots := 0, locals := 20 } : Room) s m args below meth c G b0 (MQ below (va_Qv κ (m_B G b0) (fun q => b0 ≤ q)) args s 0 0 (fun q => b0 ≤ q)) 1 M 0 0 0 [(0, va_rf l0)] [] := by
  unfold wX5_init at h
  refine q_aload_n (pc := 0) C 0 0 dX5_init_0 rfl rfl ?_
  obtain ⟨b9, hb9, h⟩ := h
  refine q_objInit (pc := 1) C hb9 (by decide +kernel) (by decide +kernel) (by decide +kernel) dX5_init_1 (Nat.le_of_ble_eq_true rfl) (by first | exact Nat.le_of_ble_eq_true rfl | (simp [q_cat, q_catI, q_catJ, q_catR, q_catN]; done) | (simp [q_cat, q_catI, q_catJ, q_catR, q_catN]; decide)) ?_
  refine q_aload_n (pc := 4) C 0 0 dX5_init_4 rfl rfl ?_
  refine q_iconst (pc := 5) C 3 dX5_init_5 (by decide) ?_
  refine q_p (pc := 6) C h .int (T := TX5) tyX5 tyX5_ok nmX5 rfl (by decide +kernel) rfl rfl rfl (by decide) (wk_u rfl wm_X5_init uq_X5 (by decide +kernel)) (by decide +kernel) (fun _ h9 => h9) rfl dX5_init_6 (fun M1 h => ?_)
  exact q_vret (pc := 9) C hr hlocks h dX5_init_9 (by omega) (by omega)
set_option maxRecDepth 100000 in
set_option maxHeartbeats 4000000 in
theorem kX5_init (l : Launch) (G : mG) (b0 : Nat) {b : Nat} {M : mM} {κ : mM → Prop} (h : wX5_init κ (some b) M) : Met l yX5_init wsX5_init ({ frames := 1, cells := 0, slots := 0, locals := 20 } : Room) (va_Pc [.ref b] (m_Pre G b0 M)) (va_Qv κ (m_B G b0) (fun q => b0 ≤ q)) 0 0 (fun q => b0 ≤ q) := by
  refine m_met (cc := cX5_init) (maxL := 1) (ret := none) (lv := [(0, va_rf (some b))]) RX5 rfl (by decide +kernel) rfl (by first | exact Nat.le_of_ble_eq_true rfl | simp [lg_sl, q_cat, q_catI, q_catJ, q_catR, q_catN]) (by first | rfl | (simp [lv_args, q_cat, q_catI, q_catJ, q_catR, q_catN]; done) | (simp [lv_args, q_cat, q_catI, q_catJ, q_catR, q_catN]; rfl)) ?_
  intro p e s m args below meth c C hr hlocks hni
  exact tX5_init C hr hlocks hni h
/-! X5_draw -/
set_option maxRecDepth 100000 in
set_option maxHeartbeats 4000000 in
theorem tX5_draw {p : Program} {l : Launch} {e : Env} {s : State} {m : MethodId} {args : Array Value} {below : List Frame} {meth : Method} {c : Code} {G : mG} {b0 : Nat} (C : m_C p s m args c cX5_draw 2 RX5 wsX5_draw G b0) (hr : meth.sig.returnType = (some .int)) (hlocks : meth.locks = false) {κ : Int32 → mM → Prop} {l0 : Option Nat} {M : mM} (h : wX5_draw κ l0 M) : m_W p l e ({ frames := 0, cells := 0, slots := 0, locals := 0 } : Room) s m args below meth c G b0 (MQ below (va_Qi κ (m_B G b0) (fun q => b0 ≤ q)) args s 0 0 (fun q => b0 ≤ q)) 2 M 0 0 0 [(0, va_rf l0)] [] := by
  unfold wX5_draw at h
  refine q_aload_n (pc := 0) C 0 0 dX5_draw_0 rfl rfl ?_
  refine q_gI (pc := 1) C h (T := TX5) rfl (by decide) (wk_u rfl wm_X5_draw uq_X5 (by decide +kernel)) (by decide +kernel) (fun _ h9 => h9) dX5_draw_1 (fun x1 h => ?_)
  refine q_istore_n (pc := 4) C 1 [(1, .int x1), (0, va_rf l0)] dX5_draw_4 rfl (by decide) (by first | rfl | simp [q_cat, q_catI, q_catJ, q_catR, q_catN]) ?_
  refine q_aload_n (pc := 5) C 0 1 dX5_draw_5 rfl rfl ?_
  refine q_bipush (pc := 6) C 21 dX5_draw_6 (by decide) ?_
  refine q_iload_n (pc := 8) C 1 0 dX5_draw_8 rfl rfl ?_
  refine q_imul (pc := 9) C dX5_draw_9 ?_
  refine q_bipush (pc := 10) C 11 dX5_draw_10 (by decide) ?_
  refine q_iadd (pc := 12) C dX5_draw_12 ?_
  refine q_sipush (pc := 13) C 4096 dX5_draw_13 (by decide) ?_
  refine q_irem (pc := 16) C dX5_draw_16 (by decide) ?_
  refine m_stk (st2 := .int (m_rem ((21 * x1) + 11) 4096) :: _) rfl ?_
  refine q_p (pc := 17) C h .int (T := TX5) tyX5 tyX5_ok nmX5 rfl (by decide +kernel) rfl rfl rfl (by decide) (wk_u rfl wm_X5_draw uq_X5 (by decide +kernel)) (by decide +kernel) (fun _ h9 => h9) rfl dX5_draw_17 (fun M2 h => ?_)
  refine q_aload_n (pc := 20) C 0 1 dX5_draw_20 rfl rfl ?_
  refine q_dup (pc := 21) C dX5_draw_21 (q_cat _) ?_
  refine q_gI (pc := 22) C h (T := TX5) rfl (by decide) (wk_u rfl wm_X5_draw uq_X5 (by decide +kernel)) (by decide +kernel) (fun _ h9 => h9) dX5_draw_22 (fun x3 h => ?_)
  refine q_iconst (pc := 25) C 1 dX5_draw_25 (by decide) ?_
  refine q_iadd (pc := 26) C dX5_draw_26 ?_
  refine q_p (pc := 27) C h .int (T := TX5) tyX5 tyX5_ok nmX5 rfl (by decide +kernel) rfl rfl rfl (by decide) (wk_u rfl wm_X5_draw uq_X5 (by decide +kernel)) (by decide +kernel) (fun _ h9 => h9) rfl dX5_draw_27 (fun M4 h => ?_)
  refine q_iload_n (pc := 30) C 1 0 dX5_draw_30 rfl rfl ?_
  exact q_iret (pc := 31) C hr hlocks h dX5_draw_31 (by omega) (by omega)
set_option maxRecDepth 100000 in
set_option maxHeartbeats 4000000 in
theorem kX5_draw (l : Launch) (G : mG) (b0 : Nat) {b : Nat} {M : mM} {κ : Int32 → mM → Prop} (h : wX5_draw κ (some b) M) : Met l yX5_draw wsX5_draw ({ frames := 0, cells := 0, slots := 0, locals := 0 } : Room) (va_Pc [.ref b] (m_Pre G b0 M)) (va_Qi κ (m_B G b0) (fun q => b0 ≤ q)) 0 0 (fun q => b0 ≤ q) := by
  refine m_met (cc := cX5_draw) (maxL := 2) (ret := (some .int)) (lv := [(0, va_rf (some b))]) RX5 rfl (by decide +kernel) rfl (by first | exact Nat.le_of_ble_eq_true rfl | simp [lg_sl, q_cat, q_catI, q_catJ, q_catR, q_catN]) (by first | rfl | (simp [lv_args, q_cat, q_catI, q_catJ, q_catR, q_catN]; done) | (simp [lv_args, q_cat, q_catI, q_catJ, q_catR, q_catN]; rfl)) ?_
  intro p e s m args below meth c C hr hlocks hni
  exact tX5_draw C hr hlocks h
/-! X6_init -/
set_option maxRecDepth 100000 in
set_option maxHeartbeats 4000000 in
theorem tX6_init {p : Program} {l : Launch} {e : Env} {s : State} {m : MethodId} {args : Array Value} {below : List Frame} {meth : Method} {c : Code} {G : mG} {b0 : Nat} (C : m_C p s m args c cX6_init 5 RX6 wsX6_init G b0) (hr : meth.sig.returnType = none) (hlocks : meth.locks = false) (hni : meth.name = "<init>") {κ : mM → Prop} {l0 : Option Nat} {l1 : Int32} {l2 : Option Nat} {l3 : Int32} {l4 : Int32} {M : mM} (h : wX6_init κ l0 l1 l2 l3 l4 M) : m_W p l e ({ frames := 1, cells := 0, slots := 0, locals := 20 } : Room) s m args below meth c G b0 (MQ below (va_Qv κ (m_B G b0) (fun q => b0 ≤ q)) args s 0 0 (fun q => b0 ≤ q)) 5 M 0 0 0 [(0, va_rf l0), (1, .int l1), (2, va_rf l2), (3, .int l3), (4, .int l4)] [] := by
  unfold wX6_init at h
  refine q_aload_n (pc := 0) C 0 0 dX6_init_0 rfl rfl ?_
  obtain ⟨b9, hb9, h⟩ := h
  refine q_objInit (pc := 1) C hb9 (by decide +kernel) (by decide +kernel) (by decide +kernel) dX6_init_1 (Nat.le_of_ble_eq_true rfl) (by first | exact Nat.le_of_ble_eq_true rfl | (simp [q_cat, q_catI, q_catJ, q_catR, q_catN]; done) | (simp [q_cat, q_catI, q_catJ, q_catR, q_catN]; decide)) ?_
  refine q_aload_n (pc := 4) C 0 0 dX6_init_4 rfl rfl ?_
  refine q_iconst (pc := 5) C 0 dX6_init_5 (by decide) ?_
  refine q_p (pc := 6) C h .int (T := TX6) tyX6 tyX6_ok nmX6 rfl (by decide +kernel) rfl rfl rfl (by decide) (wk_u rfl wm_X6_init uq_X6 (by decide +kernel)) (by decide +kernel) (fun _ h9 => h9) rfl dX6_init_6 (fun M1 h => ?_)
  refine q_aload_n (pc := 9) C 0 0 dX6_init_9 rfl rfl ?_
  refine q_iload_n (pc := 10) C 1 1 dX6_init_10 rfl rfl ?_
  refine q_pF (pc := 11) C hni h .int (T := TX6) tyX6 tyX6_ok nmX6 rfl (by decide +kernel) rfl rfl rfl (by decide) (wk_u rfl wm_X6_init uq_X6 (by decide +kernel)) (by decide +kernel) (fun _ h9 => h9) rfl rfl dX6_init_11 (fun M2 h => ?_)
  refine q_aload_n (pc := 14) C 0 0 dX6_init_14 rfl rfl ?_
  refine q_aload_n (pc := 15) C 2 2 dX6_init_15 rfl rfl ?_
  refine q_p (pc := 16) C h (.object "Lullabygate$Land") (T := TX6) tyX6 tyX6_ok nmX6 rfl (by decide +kernel) (q_nrO _ _) (q_ftO _ _) rfl (by decide) (wk_u rfl wm_X6_init uq_X6 (by decide +kernel)) (by decide +kernel) (fun _ h9 => h9) rfl dX6_init_16 (fun M3 h => ?_)
  refine q_aload_n (pc := 19) C 0 0 dX6_init_19 rfl rfl ?_
  refine q_iload_n (pc := 20) C 3 3 dX6_init_20 rfl rfl ?_
  refine q_pF (pc := 21) C hni h.2 .boolean (T := TX6) tyX6 tyX6_ok nmX6 rfl (by decide +kernel) (q_nrZ h.1) (q_ftZ h.1) rfl (by decide) (wk_u rfl wm_X6_init uq_X6 (by decide +kernel)) (by decide +kernel) (fun _ h9 => h9) rfl rfl dX6_init_21 (fun M4 h => ?_)
  refine q_aload_n (pc := 24) C 0 0 dX6_init_24 rfl rfl ?_
  refine q_iload (pc := 25) C 4 4 dX6_init_25 rfl ?_
  refine q_p (pc := 27) C h .int (T := TX6) tyX6 tyX6_ok nmX6 rfl (by decide +kernel) rfl rfl rfl (by decide) (wk_u rfl wm_X6_init uq_X6 (by decide +kernel)) (by decide +kernel) (fun _ h9 => h9) rfl dX6_init_27 (fun M5 h => ?_)
  exact q_vret (pc := 30) C hr hlocks h dX6_init_30 (by omega) (by omega)
set_option maxRecDepth 100000 in
set_option maxHeartbeats 4000000 in
theorem kX6_init (l : Launch) (G : mG) (b0 : Nat) {b : Nat} {l1 : Int32} {l2 : Option Nat} {l3 : Int32} {l4 : Int32} {M : mM} {κ : mM → Prop} (h : wX6_init κ (some b) l1 l2 l3 l4 M) : Met l yX6_init wsX6_init ({ frames := 1, cells := 0, slots := 0, locals := 20 } : Room) (va_Pc [.ref b, .int l1, va_rf l2, .int l3, .int l4] (m_Pre G b0 M)) (va_Qv κ (m_B G b0) (fun q => b0 ≤ q)) 0 0 (fun q => b0 ≤ q) := by
  refine m_met (cc := cX6_init) (maxL := 5) (ret := none) (lv := [(0, va_rf (some b)), (1, .int l1), (2, va_rf l2), (3, .int l3), (4, .int l4)]) RX6 rfl (by decide +kernel) rfl (by first | exact Nat.le_of_ble_eq_true rfl | simp [lg_sl, q_cat, q_catI, q_catJ, q_catR, q_catN]) (by first | rfl | (simp [lv_args, q_cat, q_catI, q_catJ, q_catR, q_catN]; done) | (simp [lv_args, q_cat, q_catI, q_catJ, q_catR, q_catN]; rfl)) ?_
  intro p e s m args below meth c C hr hlocks hni
  exact tX6_init C hr hlocks hni h
/-! X6_standAt -/
set_option maxRecDepth 100000 in
set_option maxHeartbeats 4000000 in
theorem tX6_standAt {p : Program} {l : Launch} {e : Env} {s : State} {m : MethodId} {args : Array Value} {below : List Frame} {meth : Method} {c : Code} {G : mG} {b0 : Nat} (C : m_C p s m args c cX6_standAt 3 RX6 wsX6_standAt G b0) (hr : meth.sig.returnType = none) (hlocks : meth.locks = false) {κ : mM → Prop} {l0 : Option Nat} {l1 : Option Nat} {l2 : Int32} {M : mM} (h : wX6_standAt κ l0 l1 l2 M) : m_W p l e ({ frames := 0, cells := 0, slots := 0, locals := 0 } : Room) s m args below meth c G b0 (MQ below (va_Qv κ (m_B G b0) (fun q => b0 ≤ q)) args s 0 0 (fun q => b0 ≤ q)) 3 M 0 0 0 [(0, va_rf l0), (1, va_rf l1), (2, .int l2)] [] := by
  unfold wX6_standAt at h
  refine q_aload_n (pc := 0) C 0 0 dX6_standAt_0 rfl rfl ?_
  refine q_iconst (pc := 1) C 1 dX6_standAt_1 (by decide) ?_
  refine q_p (pc := 2) C h .int (T := TX6) tyX6 tyX6_ok nmX6 rfl (by decide +kernel) rfl rfl rfl (by decide) (wk_u rfl wm_X6_standAt uq_X6 (by decide +kernel)) (by decide +kernel) (fun _ h9 => h9) rfl dX6_standAt_2 (fun M1 h => ?_)
  refine q_aload_n (pc := 5) C 0 0 dX6_standAt_5 rfl rfl ?_
  refine q_aload_n (pc := 6) C 1 1 dX6_standAt_6 rfl rfl ?_
  refine q_p (pc := 7) C h (.object "Lullabygate$Gate") (T := TX6) tyX6 tyX6_ok nmX6 rfl (by decide +kernel) (q_nrO _ _) (q_ftO _ _) rfl (by decide) (wk_u rfl wm_X6_standAt uq_X6 (by decide +kernel)) (by decide +kernel) (fun _ h9 => h9) rfl dX6_standAt_7 (fun M2 h => ?_)
  refine q_aload_n (pc := 10) C 0 0 dX6_standAt_10 rfl rfl ?_
  refine q_iload_n (pc := 11) C 2 2 dX6_standAt_11 rfl rfl ?_
  refine q_p (pc := 12) C h .int (T := TX6) tyX6 tyX6_ok nmX6 rfl (by decide +kernel) rfl rfl rfl (by decide) (wk_u rfl wm_X6_standAt uq_X6 (by decide +kernel)) (by decide +kernel) (fun _ h9 => h9) rfl dX6_standAt_12 (fun M3 h => ?_)
  exact q_vret (pc := 15) C hr hlocks h dX6_standAt_15 (by omega) (by omega)
set_option maxRecDepth 100000 in
set_option maxHeartbeats 4000000 in
theorem kX6_standAt (l : Launch) (G : mG) (b0 : Nat) {b : Nat} {l1 : Option Nat} {l2 : Int32} {M : mM} {κ : mM → Prop} (h : wX6_standAt κ (some b) l1 l2 M) : Met l yX6_standAt wsX6_standAt ({ frames := 0, cells := 0, slots := 0, locals := 0 } : Room) (va_Pc [.ref b, va_rf l1, .int l2] (m_Pre G b0 M)) (va_Qv κ (m_B G b0) (fun q => b0 ≤ q)) 0 0 (fun q => b0 ≤ q) := by
  refine m_met (cc := cX6_standAt) (maxL := 3) (ret := none) (lv := [(0, va_rf (some b)), (1, va_rf l1), (2, .int l2)]) RX6 rfl (by decide +kernel) rfl (by first | exact Nat.le_of_ble_eq_true rfl | simp [lg_sl, q_cat, q_catI, q_catJ, q_catR, q_catN]) (by first | rfl | (simp [lv_args, q_cat, q_catI, q_catJ, q_catR, q_catN]; done) | (simp [lv_args, q_cat, q_catI, q_catJ, q_catR, q_catN]; rfl)) ?_
  intro p e s m args below meth c C hr hlocks hni
  exact tX6_standAt C hr hlocks h
/-! X6_stepOut -/
set_option maxRecDepth 100000 in
set_option maxHeartbeats 4000000 in
theorem tX6_stepOut {p : Program} {l : Launch} {e : Env} {s : State} {m : MethodId} {args : Array Value} {below : List Frame} {meth : Method} {c : Code} {G : mG} {b0 : Nat} (C : m_C p s m args c cX6_stepOut 2 RX6 wsX6_stepOut G b0) (hr : meth.sig.returnType = none) (hlocks : meth.locks = false) {κ : mM → Prop} {l0 : Option Nat} {l1 : Int32} {M : mM} (h : wX6_stepOut κ l0 l1 M) : m_W p l e ({ frames := 0, cells := 0, slots := 0, locals := 0 } : Room) s m args below meth c G b0 (MQ below (va_Qv κ (m_B G b0) (fun q => b0 ≤ q)) args s 0 0 (fun q => b0 ≤ q)) 2 M 0 0 0 [(0, va_rf l0), (1, .int l1)] [] := by
  unfold wX6_stepOut at h
  refine q_aload_n (pc := 0) C 0 0 dX6_stepOut_0 rfl rfl ?_
  refine q_iload_n (pc := 1) C 1 1 dX6_stepOut_1 rfl rfl ?_
  refine q_p (pc := 2) C h .int (T := TX6) tyX6 tyX6_ok nmX6 rfl (by decide +kernel) rfl rfl rfl (by decide) (wk_u rfl wm_X6_stepOut uq_X6 (by decide +kernel)) (by decide +kernel) (fun _ h9 => h9) rfl dX6_stepOut_2 (fun M1 h => ?_)
  refine q_aload_n (pc := 5) C 0 0 dX6_stepOut_5 rfl rfl ?_
  refine q_null (pc := 6) C dX6_stepOut_6 ?_
  refine q_p (pc := 7) C h (.object "Lullabygate$Gate") (T := TX6) tyX6 tyX6_ok nmX6 rfl (by decide +kernel) (q_nrO _ _) (q_ftO _ _) rfl (by decide) (wk_u rfl wm_X6_stepOut uq_X6 (by decide +kernel)) (by decide +kernel) (fun _ h9 => h9) rfl dX6_stepOut_7 (fun M2 h => ?_)
  refine q_aload_n (pc := 10) C 0 0 dX6_stepOut_10 rfl rfl ?_
  refine q_iconst (pc := 11) C 0 dX6_stepOut_11 (by decide) ?_
  refine q_p (pc := 12) C h .int (T := TX6) tyX6 tyX6_ok nmX6 rfl (by decide +kernel) rfl rfl rfl (by decide) (wk_u rfl wm_X6_stepOut uq_X6 (by decide +kernel)) (by decide +kernel) (fun _ h9 => h9) rfl dX6_stepOut_12 (fun M3 h => ?_)
  exact q_vret (pc := 15) C hr hlocks h dX6_stepOut_15 (by omega) (by omega)
set_option maxRecDepth 100000 in
set_option maxHeartbeats 4000000 in
theorem kX6_stepOut (l : Launch) (G : mG) (b0 : Nat) {b : Nat} {l1 : Int32} {M : mM} {κ : mM → Prop} (h : wX6_stepOut κ (some b) l1 M) : Met l yX6_stepOut wsX6_stepOut ({ frames := 0, cells := 0, slots := 0, locals := 0 } : Room) (va_Pc [.ref b, .int l1] (m_Pre G b0 M)) (va_Qv κ (m_B G b0) (fun q => b0 ≤ q)) 0 0 (fun q => b0 ≤ q) := by
  refine m_met (cc := cX6_stepOut) (maxL := 2) (ret := none) (lv := [(0, va_rf (some b)), (1, .int l1)]) RX6 rfl (by decide +kernel) rfl (by first | exact Nat.le_of_ble_eq_true rfl | simp [lg_sl, q_cat, q_catI, q_catJ, q_catR, q_catN]) (by first | rfl | (simp [lv_args, q_cat, q_catI, q_catJ, q_catR, q_catN]; done) | (simp [lv_args, q_cat, q_catI, q_catJ, q_catR, q_catN]; rfl)) ?_
  intro p e s m args below meth c C hr hlocks hni
  exact tX6_stepOut C hr hlocks h
/-! X7_has -/
set_option maxRecDepth 100000 in
set_option maxHeartbeats 4000000 in
theorem tX7_has_24 {p : Program} {l : Launch} {e : Env} {s : State} {m : MethodId} {args : Array Value} {below : List Frame} {meth : Method} {c : Code} {G : mG} {b0 : Nat} (C : m_C p s m args c cX7_has 4 RX7 wsX7_has G b0) (hr : meth.sig.returnType = (some .boolean)) (hlocks : meth.locks = false) {κ : Int32 → mM → Prop} {s0 : Int64} {M : mM} (h : wX7_has_24 κ s0 M) : m_W p l e ({ frames := 0, cells := 0, slots := 0, locals := 0 } : Room) s m args below meth c G b0 (MQ below (va_Qi κ (m_B G b0) (fun q => b0 ≤ q)) args s 0 0 (fun q => b0 ≤ q)) 4 M 0 0 24 [] [.long s0] := by
  unfold wX7_has_24 at h
  refine q_lstore_n (pc := 24) C 2 [(2, .long s0)] dX7_has_24 rfl (by decide) (by first | rfl | simp [q_cat, q_catI, q_catJ, q_catR, q_catN]) ?_
  refine q_lload_n (pc := 25) C 2 0 dX7_has_25 rfl rfl ?_
  refine q_lconst (pc := 26) C 1 dX7_has_26 (by decide) ?_
  refine q_land (pc := 27) C dX7_has_27 ?_
  refine q_lconst (pc := 28) C 0 dX7_has_28 (by decide) ?_
  refine q_lcmp (pc := 29) C dX7_has_29 ?_
  refine q_if_eq (pc := 30) C 37 dX7_has_30 (by decide) (fun c1 => ?_) (fun c1 => ?_)
  · have h := h.1 c1
    refine q_iconst (pc := 37) C 0 dX7_has_37 (by decide) ?_
    exact q_zret (pc := 38) C hr hlocks ⟨(by decide), h⟩ dX7_has_38 (by omega) (by omega)
  · have h := h.2 c1
    refine q_iconst (pc := 33) C 1 dX7_has_33 (by decide) ?_
    refine q_goto (pc := 34) C 38 dX7_has_34 (by decide) ?_
    exact q_zret (pc := 38) C hr hlocks ⟨(by decide), h⟩ dX7_has_38 (by omega) (by omega)
set_option maxRecDepth 100000 in
set_option maxHeartbeats 4000000 in
theorem tX7_has {p : Program} {l : Launch} {e : Env} {s : State} {m : MethodId} {args : Array Value} {below : List Frame} {meth : Method} {c : Code} {G : mG} {b0 : Nat} (C : m_C p s m args c cX7_has 4 RX7 wsX7_has G b0) (hr : meth.sig.returnType = (some .boolean)) (hlocks : meth.locks = false) {κ : Int32 → mM → Prop} {l0 : Option Nat} {l1 : Int32} {M : mM} (h : wX7_has κ l0 l1 M) : m_W p l e ({ frames := 0, cells := 0, slots := 0, locals := 0 } : Room) s m args below meth c G b0 (MQ below (va_Qi κ (m_B G b0) (fun q => b0 ≤ q)) args s 0 0 (fun q => b0 ≤ q)) 4 M 0 0 0 [(0, va_rf l0), (1, .int l1)] [] := by
  unfold wX7_has at h
  refine q_iload_n (pc := 0) C 1 1 dX7_has_0 rfl rfl ?_
  refine q_bipush (pc := 1) C 64 dX7_has_1 (by decide) ?_
  refine q_icmp_ge (pc := 3) C 15 dX7_has_3 (by decide) (fun c1 => ?_) (fun c1 => ?_)
  · have h := h.1 c1
    refine q_aload_n (pc := 15) C 0 0 dX7_has_15 rfl rfl ?_
    refine q_gJ (pc := 16) C h (T := TX7) rfl (by decide) (wk_u rfl wm_X7_has uq_X7 (by decide +kernel)) (by decide +kernel) (fun _ h9 => h9) dX7_has_16 (fun x2 h => ?_)
    refine q_iload_n (pc := 19) C 1 1 dX7_has_19 rfl rfl ?_
    refine q_bipush (pc := 20) C 64 dX7_has_20 (by decide) ?_
    refine q_isub (pc := 22) C dX7_has_22 ?_
    refine q_lushr (pc := 23) C dX7_has_23 ?_
    refine m_stk (st2 := .long (m_lushr x2 (l1 - 64)) :: _) rfl ?_
    refine q_widen (k2 := 0) (n2 := 0) (by omega) (by omega) ?_
    refine q_lv [] rfl ?_
    exact tX7_has_24 C hr hlocks h
  · have h := h.2 c1
    refine q_aload_n (pc := 6) C 0 0 dX7_has_6 rfl rfl ?_
    refine q_gJ (pc := 7) C h (T := TX7) rfl (by decide) (wk_u rfl wm_X7_has uq_X7 (by decide +kernel)) (by decide +kernel) (fun _ h9 => h9) dX7_has_7 (fun x3 h => ?_)
    refine q_iload_n (pc := 10) C 1 1 dX7_has_10 rfl rfl ?_
    refine q_lushr (pc := 11) C dX7_has_11 ?_
    refine m_stk (st2 := .long (m_lushr x3 l1) :: _) rfl ?_
    refine q_goto (pc := 12) C 24 dX7_has_12 (by decide) ?_
    refine q_widen (k2 := 0) (n2 := 0) (by omega) (by omega) ?_
    refine q_lv [] rfl ?_
    exact tX7_has_24 C hr hlocks h
set_option maxRecDepth 100000 in
set_option maxHeartbeats 4000000 in
theorem kX7_has (l : Launch) (G : mG) (b0 : Nat) {b : Nat} {l1 : Int32} {M : mM} {κ : Int32 → mM → Prop} (h : wX7_has κ (some b) l1 M) : Met l yX7_has wsX7_has ({ frames := 0, cells := 0, slots := 0, locals := 0 } : Room) (va_Pc [.ref b, .int l1] (m_Pre G b0 M)) (va_Qi κ (m_B G b0) (fun q => b0 ≤ q)) 0 0 (fun q => b0 ≤ q) := by
  refine m_met (cc := cX7_has) (maxL := 4) (ret := (some .boolean)) (lv := [(0, va_rf (some b)), (1, .int l1)]) RX7 rfl (by decide +kernel) rfl (by first | exact Nat.le_of_ble_eq_true rfl | simp [lg_sl, q_cat, q_catI, q_catJ, q_catR, q_catN]) (by first | rfl | (simp [lv_args, q_cat, q_catI, q_catJ, q_catR, q_catN]; done) | (simp [lv_args, q_cat, q_catI, q_catJ, q_catR, q_catN]; rfl)) ?_
  intro p e s m args below meth c C hr hlocks hni
  exact tX7_has C hr hlocks h
/-! X7_put -/
set_option maxRecDepth 100000 in
set_option maxHeartbeats 4000000 in
theorem tX7_put {p : Program} {l : Launch} {e : Env} {s : State} {m : MethodId} {args : Array Value} {below : List Frame} {meth : Method} {c : Code} {G : mG} {b0 : Nat} (C : m_C p s m args c cX7_put 2 RX7 wsX7_put G b0) (hr : meth.sig.returnType = none) (hlocks : meth.locks = false) {κ : mM → Prop} {l0 : Option Nat} {l1 : Int32} {M : mM} (h : wX7_put κ l0 l1 M) : m_W p l e ({ frames := 0, cells := 0, slots := 0, locals := 0 } : Room) s m args below meth c G b0 (MQ below (va_Qv κ (m_B G b0) (fun q => b0 ≤ q)) args s 0 0 (fun q => b0 ≤ q)) 2 M 0 0 0 [(0, va_rf l0), (1, .int l1)] [] := by
  unfold wX7_put at h
  refine q_iload_n (pc := 0) C 1 1 dX7_put_0 rfl rfl ?_
  refine q_bipush (pc := 1) C 64 dX7_put_1 (by decide) ?_
  refine q_icmp_ge (pc := 3) C 21 dX7_put_3 (by decide) (fun c1 => ?_) (fun c1 => ?_)
  · have h := h.1 c1
    refine q_aload_n (pc := 21) C 0 0 dX7_put_21 rfl rfl ?_
    refine q_dup (pc := 22) C dX7_put_22 (q_cat _) ?_
    refine q_gJ (pc := 23) C h (T := TX7) rfl (by decide) (wk_u rfl wm_X7_put uq_X7 (by decide +kernel)) (by decide +kernel) (fun _ h9 => h9) dX7_put_23 (fun x2 h => ?_)
    refine q_lconst (pc := 26) C 1 dX7_put_26 (by decide) ?_
    refine q_iload_n (pc := 27) C 1 1 dX7_put_27 rfl rfl ?_
    refine q_bipush (pc := 28) C 64 dX7_put_28 (by decide) ?_
    refine q_isub (pc := 30) C dX7_put_30 ?_
    refine q_lshl (pc := 31) C dX7_put_31 ?_
    refine m_stk (st2 := .long (m_lshl 1 (l1 - 64)) :: _) rfl ?_
    refine q_lor (pc := 32) C dX7_put_32 ?_
    refine q_p (pc := 33) C h .long (T := TX7) tyX7 tyX7_ok nmX7 rfl (by decide +kernel) rfl rfl rfl (by decide) (wk_u rfl wm_X7_put uq_X7 (by decide +kernel)) (by decide +kernel) (fun _ h9 => h9) rfl dX7_put_33 (fun M3 h => ?_)
    exact q_vret (pc := 36) C hr hlocks h dX7_put_36 (by omega) (by omega)
  · have h := h.2 c1
    refine q_aload_n (pc := 6) C 0 0 dX7_put_6 rfl rfl ?_
    refine q_dup (pc := 7) C dX7_put_7 (q_cat _) ?_
    refine q_gJ (pc := 8) C h (T := TX7) rfl (by decide) (wk_u rfl wm_X7_put uq_X7 (by decide +kernel)) (by decide +kernel) (fun _ h9 => h9) dX7_put_8 (fun x4 h => ?_)
    refine q_lconst (pc := 11) C 1 dX7_put_11 (by decide) ?_
    refine q_iload_n (pc := 12) C 1 1 dX7_put_12 rfl rfl ?_
    refine q_lshl (pc := 13) C dX7_put_13 ?_
    refine m_stk (st2 := .long (m_lshl 1 l1) :: _) rfl ?_
    refine q_lor (pc := 14) C dX7_put_14 ?_
    refine q_p (pc := 15) C h .long (T := TX7) tyX7 tyX7_ok nmX7 rfl (by decide +kernel) rfl rfl rfl (by decide) (wk_u rfl wm_X7_put uq_X7 (by decide +kernel)) (by decide +kernel) (fun _ h9 => h9) rfl dX7_put_15 (fun M5 h => ?_)
    refine q_goto (pc := 18) C 36 dX7_put_18 (by decide) ?_
    exact q_vret (pc := 36) C hr hlocks h dX7_put_36 (by omega) (by omega)
set_option maxRecDepth 100000 in
set_option maxHeartbeats 4000000 in
theorem kX7_put (l : Launch) (G : mG) (b0 : Nat) {b : Nat} {l1 : Int32} {M : mM} {κ : mM → Prop} (h : wX7_put κ (some b) l1 M) : Met l yX7_put wsX7_put ({ frames := 0, cells := 0, slots := 0, locals := 0 } : Room) (va_Pc [.ref b, .int l1] (m_Pre G b0 M)) (va_Qv κ (m_B G b0) (fun q => b0 ≤ q)) 0 0 (fun q => b0 ≤ q) := by
  refine m_met (cc := cX7_put) (maxL := 2) (ret := none) (lv := [(0, va_rf (some b)), (1, .int l1)]) RX7 rfl (by decide +kernel) rfl (by first | exact Nat.le_of_ble_eq_true rfl | simp [lg_sl, q_cat, q_catI, q_catJ, q_catR, q_catN]) (by first | rfl | (simp [lv_args, q_cat, q_catI, q_catJ, q_catR, q_catN]; done) | (simp [lv_args, q_cat, q_catI, q_catJ, q_catR, q_catN]; rfl)) ?_
  intro p e s m args below meth c C hr hlocks hni
  exact tX7_put C hr hlocks h
/-! X7_putAll -/
set_option maxRecDepth 100000 in
set_option maxHeartbeats 4000000 in
theorem tX7_putAll {p : Program} {l : Launch} {e : Env} {s : State} {m : MethodId} {args : Array Value} {below : List Frame} {meth : Method} {c : Code} {G : mG} {b0 : Nat} (C : m_C p s m args c cX7_putAll 2 RX7 wsX7_putAll G b0) (hr : meth.sig.returnType = none) (hlocks : meth.locks = false) {κ : mM → Prop} {l0 : Option Nat} {l1 : Option Nat} {M : mM} (h : wX7_putAll κ l0 l1 M) : m_W p l e ({ frames := 0, cells := 0, slots := 0, locals := 0 } : Room) s m args below meth c G b0 (MQ below (va_Qv κ (m_B G b0) (fun q => b0 ≤ q)) args s 0 0 (fun q => b0 ≤ q)) 2 M 0 0 0 [(0, va_rf l0), (1, va_rf l1)] [] := by
  unfold wX7_putAll at h
  refine q_aload_n (pc := 0) C 0 0 dX7_putAll_0 rfl rfl ?_
  refine q_dup (pc := 1) C dX7_putAll_1 (q_cat _) ?_
  refine q_gJ (pc := 2) C h (T := TX7) rfl (by decide) (wk_u rfl wm_X7_putAll uq_X7 (by decide +kernel)) (by decide +kernel) (fun _ h9 => h9) dX7_putAll_2 (fun x1 h => ?_)
  refine q_aload_n (pc := 5) C 1 1 dX7_putAll_5 rfl rfl ?_
  refine q_gJ (pc := 6) C h (T := TX7) rfl (by decide) (wk_u rfl wm_X7_putAll uq_X7 (by decide +kernel)) (by decide +kernel) (fun _ h9 => h9) dX7_putAll_6 (fun x2 h => ?_)
  refine q_lor (pc := 9) C dX7_putAll_9 ?_
  refine q_p (pc := 10) C h .long (T := TX7) tyX7 tyX7_ok nmX7 rfl (by decide +kernel) rfl rfl rfl (by decide) (wk_u rfl wm_X7_putAll uq_X7 (by decide +kernel)) (by decide +kernel) (fun _ h9 => h9) rfl dX7_putAll_10 (fun M3 h => ?_)
  refine q_aload_n (pc := 13) C 0 0 dX7_putAll_13 rfl rfl ?_
  refine q_dup (pc := 14) C dX7_putAll_14 (q_cat _) ?_
  refine q_gJ (pc := 15) C h (T := TX7) rfl (by decide) (wk_u rfl wm_X7_putAll uq_X7 (by decide +kernel)) (by decide +kernel) (fun _ h9 => h9) dX7_putAll_15 (fun x4 h => ?_)
  refine q_aload_n (pc := 18) C 1 1 dX7_putAll_18 rfl rfl ?_
  refine q_gJ (pc := 19) C h (T := TX7) rfl (by decide) (wk_u rfl wm_X7_putAll uq_X7 (by decide +kernel)) (by decide +kernel) (fun _ h9 => h9) dX7_putAll_19 (fun x5 h => ?_)
  refine q_lor (pc := 22) C dX7_putAll_22 ?_
  refine q_p (pc := 23) C h .long (T := TX7) tyX7 tyX7_ok nmX7 rfl (by decide +kernel) rfl rfl rfl (by decide) (wk_u rfl wm_X7_putAll uq_X7 (by decide +kernel)) (by decide +kernel) (fun _ h9 => h9) rfl dX7_putAll_23 (fun M6 h => ?_)
  exact q_vret (pc := 26) C hr hlocks h dX7_putAll_26 (by omega) (by omega)
set_option maxRecDepth 100000 in
set_option maxHeartbeats 4000000 in
theorem kX7_putAll (l : Launch) (G : mG) (b0 : Nat) {b : Nat} {l1 : Option Nat} {M : mM} {κ : mM → Prop} (h : wX7_putAll κ (some b) l1 M) : Met l yX7_putAll wsX7_putAll ({ frames := 0, cells := 0, slots := 0, locals := 0 } : Room) (va_Pc [.ref b, va_rf l1] (m_Pre G b0 M)) (va_Qv κ (m_B G b0) (fun q => b0 ≤ q)) 0 0 (fun q => b0 ≤ q) := by
  refine m_met (cc := cX7_putAll) (maxL := 2) (ret := none) (lv := [(0, va_rf (some b)), (1, va_rf l1)]) RX7 rfl (by decide +kernel) rfl (by first | exact Nat.le_of_ble_eq_true rfl | simp [lg_sl, q_cat, q_catI, q_catJ, q_catR, q_catN]) (by first | rfl | (simp [lv_args, q_cat, q_catI, q_catJ, q_catR, q_catN]; done) | (simp [lv_args, q_cat, q_catI, q_catJ, q_catR, q_catN]; rfl)) ?_
  intro p e s m args below meth c C hr hlocks hni
  exact tX7_putAll C hr hlocks h
/-! X7_size -/
set_option maxRecDepth 100000 in
set_option maxHeartbeats 4000000 in
theorem tX7_size {p : Program} {l : Launch} {e : Env} {s : State} {m : MethodId} {args : Array Value} {below : List Frame} {meth : Method} {c : Code} {G : mG} {b0 : Nat} (C : m_C p s m args c cX7_size 1 RX7 wsX7_size G b0) (hr : meth.sig.returnType = (some .int)) (hlocks : meth.locks = false) {κ : Int32 → mM → Prop} {l0 : Option Nat} {M : mM} (h : wX7_size κ l0 M) : m_W p l e ({ frames := 1, cells := 0, slots := 0, locals := 21 } : Room) s m args below meth c G b0 (MQ below (va_Qi κ (m_B G b0) (fun q => b0 ≤ q)) args s 0 0 (fun q => b0 ≤ q)) 1 M 0 0 0 [(0, va_rf l0)] [] := by
  unfold wX7_size at h
  refine q_aload_n (pc := 0) C 0 0 dX7_size_0 rfl rfl ?_
  refine q_gJ (pc := 1) C h (T := TX7) rfl (by decide) (wk_u rfl wm_X7_size uq_X7 (by decide +kernel)) (by decide +kernel) (fun _ h9 => h9) dX7_size_1 (fun x1 h => ?_)
  refine q_ci (pc := 4) (q_rS C (st := []) (kJ13_bitCount_95d88 l G b0 h) (va_cwS 1 C.2.2.2.2.1 gX7_size_J13_bitCount_95d88 rfl rfl rfl (by decide +kernel) ⟨Nat.le_of_ble_eq_true rfl, Nat.le_of_ble_eq_true rfl⟩) rfl (by first | exact Nat.le_of_ble_eq_true rfl | (simp [q_cat, q_catI, q_catJ, q_catR, q_catN]; done)) rfl dX7_size_4 ⟨(by first | omega | (dsimp only; omega)), (by first | omega | (dsimp only; omega))⟩) (fun x2 M3 h => ?_)
  refine q_aload_n (pc := 7) C 0 0 dX7_size_7 rfl rfl ?_
  refine q_gJ (pc := 8) C h (T := TX7) rfl (by decide) (wk_u rfl wm_X7_size uq_X7 (by decide +kernel)) (by decide +kernel) (fun _ h9 => h9) dX7_size_8 (fun x4 h => ?_)
  refine q_ci (pc := 11) (q_rS C (st := [.int x2]) (kJ13_bitCount_95d88 l G b0 h) (va_cwS 1 C.2.2.2.2.1 gX7_size_J13_bitCount_95d88 rfl rfl rfl (by decide +kernel) ⟨Nat.le_of_ble_eq_true rfl, Nat.le_of_ble_eq_true rfl⟩) rfl (by first | exact Nat.le_of_ble_eq_true rfl | (simp [q_cat, q_catI, q_catJ, q_catR, q_catN]; done)) rfl dX7_size_11 ⟨(by first | omega | (dsimp only; omega)), (by first | omega | (dsimp only; omega))⟩) (fun x5 M6 h => ?_)
  refine q_iadd (pc := 14) C dX7_size_14 ?_
  exact q_iret (pc := 15) C hr hlocks h dX7_size_15 (by omega) (by omega)
set_option maxRecDepth 100000 in
set_option maxHeartbeats 4000000 in
theorem kX7_size (l : Launch) (G : mG) (b0 : Nat) {b : Nat} {M : mM} {κ : Int32 → mM → Prop} (h : wX7_size κ (some b) M) : Met l yX7_size wsX7_size ({ frames := 1, cells := 0, slots := 0, locals := 21 } : Room) (va_Pc [.ref b] (m_Pre G b0 M)) (va_Qi κ (m_B G b0) (fun q => b0 ≤ q)) 0 0 (fun q => b0 ≤ q) := by
  refine m_met (cc := cX7_size) (maxL := 1) (ret := (some .int)) (lv := [(0, va_rf (some b))]) RX7 rfl (by decide +kernel) rfl (by first | exact Nat.le_of_ble_eq_true rfl | simp [lg_sl, q_cat, q_catI, q_catJ, q_catR, q_catN]) (by first | rfl | (simp [lv_args, q_cat, q_catI, q_catJ, q_catR, q_catN]; done) | (simp [lv_args, q_cat, q_catI, q_catJ, q_catR, q_catN]; rfl)) ?_
  intro p e s m args below meth c C hr hlocks hni
  exact tX7_size C hr hlocks h
/-! X9_init -/
set_option maxRecDepth 100000 in
set_option maxHeartbeats 4000000 in
theorem tX9_init {p : Program} {l : Launch} {e : Env} {s : State} {m : MethodId} {args : Array Value} {below : List Frame} {meth : Method} {c : Code} {G : mG} {b0 : Nat} (C : m_C p s m args c cX9_init 1 RX9 wsX9_init G b0) (hr : meth.sig.returnType = none) (hlocks : meth.locks = false) (hni : meth.name = "<init>") {κ : mM → Prop} {l0 : Option Nat} {M : mM} (h : wX9_init κ l0 M) : m_W p l e ({ frames := 1, cells := 0, slots := 0, locals := 20 } : Room) s m args below meth c G b0 (MQ below (va_Qv κ (m_B G b0) (fun q => b0 ≤ q)) args s 0 0 (fun q => b0 ≤ q)) 1 M 0 0 0 [(0, va_rf l0)] [] := by
  unfold wX9_init at h
  refine q_aload_n (pc := 0) C 0 0 dX9_init_0 rfl rfl ?_
  obtain ⟨b9, hb9, h⟩ := h
  refine q_objInit (pc := 1) C hb9 (by decide +kernel) (by decide +kernel) (by decide +kernel) dX9_init_1 (Nat.le_of_ble_eq_true rfl) (by first | exact Nat.le_of_ble_eq_true rfl | (simp [q_cat, q_catI, q_catJ, q_catR, q_catN]; done) | (simp [q_cat, q_catI, q_catJ, q_catR, q_catN]; decide)) ?_
  exact q_vret (pc := 4) C hr hlocks h dX9_init_4 (by omega) (by omega)
set_option maxRecDepth 100000 in
set_option maxHeartbeats 4000000 in
theorem kX9_init (l : Launch) (G : mG) (b0 : Nat) {b : Nat} {M : mM} {κ : mM → Prop} (h : wX9_init κ (some b) M) : Met l yX9_init wsX9_init ({ frames := 1, cells := 0, slots := 0, locals := 20 } : Room) (va_Pc [.ref b] (m_Pre G b0 M)) (va_Qv κ (m_B G b0) (fun q => b0 ≤ q)) 0 0 (fun q => b0 ≤ q) := by
  refine m_met (cc := cX9_init) (maxL := 1) (ret := none) (lv := [(0, va_rf (some b))]) RX9 rfl (by decide +kernel) rfl (by first | exact Nat.le_of_ble_eq_true rfl | simp [lg_sl, q_cat, q_catI, q_catJ, q_catR, q_catN]) (by first | rfl | (simp [lv_args, q_cat, q_catI, q_catJ, q_catR, q_catN]; done) | (simp [lv_args, q_cat, q_catI, q_catJ, q_catR, q_catN]; rfl)) ?_
  intro p e s m args below meth c C hr hlocks hni
  exact tX9_init C hr hlocks hni h
/-! X10_init -/
set_option maxRecDepth 100000 in
set_option maxHeartbeats 4000000 in
theorem tX10_init {p : Program} {l : Launch} {e : Env} {s : State} {m : MethodId} {args : Array Value} {below : List Frame} {meth : Method} {c : Code} {G : mG} {b0 : Nat} (C : m_C p s m args c cX10_init 1 RX10 wsX10_init G b0) (hr : meth.sig.returnType = none) (hlocks : meth.locks = false) {g : Nat → Nat} (hg : G.2.2 = g) (hni : meth.name = "<init>") {κ : mM → Prop} {l0 : Option Nat} {M : mM} (h : wX10_init g κ l0 M) : m_W p l e ({ frames := 4, cells := 2, slots := 100, locals := 80 } : Room) s m args below meth c G b0 (MQ below (va_Qv κ (m_B G b0) (fun q => b0 ≤ q)) args s 2 100 (fun q => b0 ≤ q)) 1 M 0 0 0 [(0, va_rf l0)] [] := by
  unfold wX10_init at h
  refine q_aload_n (pc := 0) C 0 0 dX10_init_0 rfl rfl ?_
  obtain ⟨b9, hb9, h⟩ := h
  refine q_objInit (pc := 1) C hb9 (by decide +kernel) (by decide +kernel) (by decide +kernel) dX10_init_1 (Nat.le_of_ble_eq_true rfl) (by first | exact Nat.le_of_ble_eq_true rfl | (simp [q_cat, q_catI, q_catJ, q_catR, q_catN]; done) | (simp [q_cat, q_catI, q_catJ, q_catR, q_catN]; decide)) ?_
  refine q_aload_n (pc := 4) C 0 0 dX10_init_4 rfl rfl ?_
  refine q_iconst (pc := 5) C 5 dX10_init_5 (by decide) ?_
  refine q_p (pc := 6) C h .int (T := TX10) tyX10 tyX10_ok nmX10 rfl (by decide +kernel) rfl rfl rfl (by decide) (wk_u rfl wm_X10_init uq_X10 (by decide +kernel)) (by decide +kernel) (fun _ h9 => h9) rfl dX10_init_6 (fun M1 h => ?_)
  refine q_aload_n (pc := 9) C 0 0 dX10_init_9 rfl rfl ?_
  refine q_new (pc := 10) C h rfl (T := TJx4a65c) tyJx4a65c tyJx4a65c_ok rfl (by decide +kernel) (by decide +kernel) (by decide +kernel) (by decide +kernel) (fun j hj => by rcases (show j = 0 ∨ j = 1 ∨ j = 2 by omega) with rfl | rfl | rfl <;> rfl) (by first | omega | (dsimp only; omega)) (by first | omega | (dsimp only; omega)) dX10_init_10 (fun q2 M3 h => ?_)
  refine q_dup (pc := 13) C dX10_init_13 (q_cat _) ?_
  obtain ⟨b5, fs9, hb5, hm9, h⟩ := h
  refine q_cv (pc := 14) (q_rI C (st := [va_rf (some q2), va_rf l0]) (b := b5) (kJx4a65c_init_da8c8 l G b0 hg h) (cwI 0 C.2.2.2.2.1 gX10_init_Jx4a65c_init_da8c8 rfl rfl rfl (C.2.2.2.2.1 (.initialized RJx4a65c) (by decide +kernel)) (C.2.2.2.2.1 (.methodLink RX10 17 yJx4a65c_init_da8c8) (by decide +kernel)) (C.2.2.2.2.1 (.instanceMethod yJx4a65c_init_da8c8) (by decide +kernel)) rfl (by decide +kernel) ⟨Nat.le_of_ble_eq_true rfl, Nat.le_of_ble_eq_true rfl⟩) rfl (by first | exact Nat.le_of_ble_eq_true rfl | (simp [q_cat, q_catI, q_catJ, q_catR, q_catN]; done)) (by rw [hb5]; first | done | rfl) dX10_init_14 ⟨(by first | omega | (dsimp only; omega)), (by first | omega | (dsimp only; omega))⟩) (fun M4 h => ?_)
  refine q_pF (pc := 17) C hni h (.object "java/util/ArrayList") (T := TX10) tyX10 tyX10_ok nmX10 rfl (by decide +kernel) (q_nrO _ _) (q_ftO _ _) rfl (by decide) (wk_u rfl wm_X10_init uq_X10 (by decide +kernel)) (by decide +kernel) (fun _ h9 => h9) rfl rfl dX10_init_17 (fun M6 h => ?_)
  refine q_aload_n (pc := 20) C 0 0 dX10_init_20 rfl rfl ?_
  refine q_bipush (pc := 21) C 97 dX10_init_21 (by decide) ?_
  refine q_newI (pc := 23) C h (ty := .boolean) rfl (ak := 1) rfl (by decide) (by decide) rfl (by decide) (fun _ => m_raZ) (by decide +kernel) (by first | omega | (dsimp only; omega)) (by first | omega | (dsimp only; omega)) dX10_init_23 (fun q7 M8 h => ?_)
  refine q_pF (pc := 25) C hni h (.array .boolean) (T := TX10) tyX10 tyX10_ok nmX10 rfl (by decide +kernel) (q_nrA _ _) (q_ftA _ _) rfl (by decide) (wk_u rfl wm_X10_init uq_X10 (by decide +kernel)) (by decide +kernel) (fun _ h9 => h9) rfl rfl dX10_init_25 (fun M9 h => ?_)
  exact q_vret (pc := 28) C hr hlocks h dX10_init_28 (by omega) (by omega)
set_option maxRecDepth 100000 in
set_option maxHeartbeats 4000000 in
theorem kX10_init (l : Launch) (G : mG) (b0 : Nat) {g : Nat → Nat} (hg : G.2.2 = g) {b : Nat} {M : mM} {κ : mM → Prop} (h : wX10_init g κ (some b) M) : Met l yX10_init wsX10_init ({ frames := 4, cells := 2, slots := 100, locals := 80 } : Room) (va_Pc [.ref b] (m_Pre G b0 M)) (va_Qv κ (m_B G b0) (fun q => b0 ≤ q)) 2 100 (fun q => b0 ≤ q) := by
  refine m_met (cc := cX10_init) (maxL := 1) (ret := none) (lv := [(0, va_rf (some b))]) RX10 rfl (by decide +kernel) rfl (by first | exact Nat.le_of_ble_eq_true rfl | simp [lg_sl, q_cat, q_catI, q_catJ, q_catR, q_catN]) (by first | rfl | (simp [lv_args, q_cat, q_catI, q_catJ, q_catR, q_catN]; done) | (simp [lv_args, q_cat, q_catI, q_catJ, q_catR, q_catN]; rfl)) ?_
  intro p e s m args below meth c C hr hlocks hni
  exact tX10_init C hr hlocks hg hni h
/-! X10_isOpen -/
set_option maxRecDepth 100000 in
set_option maxHeartbeats 4000000 in
theorem tX10_isOpen {p : Program} {l : Launch} {e : Env} {s : State} {m : MethodId} {args : Array Value} {below : List Frame} {meth : Method} {c : Code} {G : mG} {b0 : Nat} (C : m_C p s m args c cX10_isOpen 2 RX10 wsX10_isOpen G b0) (hr : meth.sig.returnType = (some .boolean)) (hlocks : meth.locks = false) {κ : Int32 → mM → Prop} {l0 : Option Nat} {l1 : Int32} {M : mM} (h : wX10_isOpen κ l0 l1 M) : m_W p l e ({ frames := 0, cells := 0, slots := 0, locals := 0 } : Room) s m args below meth c G b0 (MQ below (va_Qi κ (m_B G b0) (fun q => b0 ≤ q)) args s 0 0 (fun q => b0 ≤ q)) 2 M 0 0 0 [(0, va_rf l0), (1, .int l1)] [] := by
  unfold wX10_isOpen at h
  refine q_iload_n (pc := 0) C 1 1 dX10_isOpen_0 rfl rfl ?_
  refine q_bipush (pc := 1) C 24 dX10_isOpen_1 (by decide) ?_
  refine q_iadd (pc := 3) C dX10_isOpen_3 ?_
  refine q_aload_n (pc := 4) C 0 0 dX10_isOpen_4 rfl rfl ?_
  refine q_gI (pc := 5) C h (T := TX10) rfl (by decide) (wk_u rfl wm_X10_isOpen uq_X10 (by decide +kernel)) (by decide +kernel) (fun _ h9 => h9) dX10_isOpen_5 (fun x1 h => ?_)
  refine q_isub (pc := 8) C dX10_isOpen_8 ?_
  refine q_bipush (pc := 9) C 24 dX10_isOpen_9 (by decide) ?_
  refine q_irem (pc := 11) C dX10_isOpen_11 (by decide) ?_
  refine m_stk (st2 := .int (m_rem ((l1 + 24) - x1) 24) :: _) rfl ?_
  refine q_aload_n (pc := 12) C 0 0 dX10_isOpen_12 rfl rfl ?_
  refine q_gI (pc := 13) C h (T := TX10) rfl (by decide) (wk_u rfl wm_X10_isOpen uq_X10 (by decide +kernel)) (by decide +kernel) (fun _ h9 => h9) dX10_isOpen_13 (fun x2 h => ?_)
  refine q_icmp_ge (pc := 16) C 23 dX10_isOpen_16 (by decide) (fun c3 => ?_) (fun c3 => ?_)
  · have h := h.1 c3
    refine q_iconst (pc := 23) C 0 dX10_isOpen_23 (by decide) ?_
    exact q_zret (pc := 24) C hr hlocks ⟨(by decide), h⟩ dX10_isOpen_24 (by omega) (by omega)
  · have h := h.2 c3
    refine q_iconst (pc := 19) C 1 dX10_isOpen_19 (by decide) ?_
    refine q_goto (pc := 20) C 24 dX10_isOpen_20 (by decide) ?_
    exact q_zret (pc := 24) C hr hlocks ⟨(by decide), h⟩ dX10_isOpen_24 (by omega) (by omega)
set_option maxRecDepth 100000 in
set_option maxHeartbeats 4000000 in
theorem kX10_isOpen (l : Launch) (G : mG) (b0 : Nat) {b : Nat} {l1 : Int32} {M : mM} {κ : Int32 → mM → Prop} (h : wX10_isOpen κ (some b) l1 M) : Met l yX10_isOpen wsX10_isOpen ({ frames := 0, cells := 0, slots := 0, locals := 0 } : Room) (va_Pc [.ref b, .int l1] (m_Pre G b0 M)) (va_Qi κ (m_B G b0) (fun q => b0 ≤ q)) 0 0 (fun q => b0 ≤ q) := by
  refine m_met (cc := cX10_isOpen) (maxL := 2) (ret := (some .boolean)) (lv := [(0, va_rf (some b)), (1, .int l1)]) RX10 rfl (by decide +kernel) rfl (by first | exact Nat.le_of_ble_eq_true rfl | simp [lg_sl, q_cat, q_catI, q_catJ, q_catR, q_catN]) (by first | rfl | (simp [lv_args, q_cat, q_catI, q_catJ, q_catR, q_catN]; done) | (simp [lv_args, q_cat, q_catI, q_catJ, q_catR, q_catN]; rfl)) ?_
  intro p e s m args below meth c C hr hlocks hni
  exact tX10_isOpen C hr hlocks h
/-! X10_dozes -/
set_option maxRecDepth 100000 in
set_option maxHeartbeats 4000000 in
theorem tX10_dozes {p : Program} {l : Launch} {e : Env} {s : State} {m : MethodId} {args : Array Value} {below : List Frame} {meth : Method} {c : Code} {G : mG} {b0 : Nat} (C : m_C p s m args c cX10_dozes 1 RX10 wsX10_dozes G b0) (hr : meth.sig.returnType = (some .boolean)) (hlocks : meth.locks = false) {κ : Int32 → mM → Prop} {l0 : Option Nat} {M : mM} (h : wX10_dozes κ l0 M) : m_W p l e ({ frames := 0, cells := 0, slots := 0, locals := 0 } : Room) s m args below meth c G b0 (MQ below (va_Qi κ (m_B G b0) (fun q => b0 ≤ q)) args s 0 0 (fun q => b0 ≤ q)) 1 M 0 0 0 [(0, va_rf l0)] [] := by
  unfold wX10_dozes at h
  refine q_aload_n (pc := 0) C 0 0 dX10_dozes_0 rfl rfl ?_
  refine q_gI (pc := 1) C h (T := TX10) rfl (by decide) (wk_u rfl wm_X10_dozes uq_X10 (by decide +kernel)) (by decide +kernel) (fun _ h9 => h9) dX10_dozes_1 (fun x1 h => ?_)
  refine q_iconst (pc := 4) C 5 dX10_dozes_4 (by decide) ?_
  refine q_icmp_lt (pc := 5) C 12 dX10_dozes_5 (by decide) (fun c2 => ?_) (fun c2 => ?_)
  · have h := h.1 c2
    refine q_iconst (pc := 12) C 0 dX10_dozes_12 (by decide) ?_
    exact q_zret (pc := 13) C hr hlocks ⟨(by decide), h⟩ dX10_dozes_13 (by omega) (by omega)
  · have h := h.2 c2
    refine q_iconst (pc := 8) C 1 dX10_dozes_8 (by decide) ?_
    refine q_goto (pc := 9) C 13 dX10_dozes_9 (by decide) ?_
    exact q_zret (pc := 13) C hr hlocks ⟨(by decide), h⟩ dX10_dozes_13 (by omega) (by omega)
set_option maxRecDepth 100000 in
set_option maxHeartbeats 4000000 in
theorem kX10_dozes (l : Launch) (G : mG) (b0 : Nat) {b : Nat} {M : mM} {κ : Int32 → mM → Prop} (h : wX10_dozes κ (some b) M) : Met l yX10_dozes wsX10_dozes ({ frames := 0, cells := 0, slots := 0, locals := 0 } : Room) (va_Pc [.ref b] (m_Pre G b0 M)) (va_Qi κ (m_B G b0) (fun q => b0 ≤ q)) 0 0 (fun q => b0 ≤ q) := by
  refine m_met (cc := cX10_dozes) (maxL := 1) (ret := (some .boolean)) (lv := [(0, va_rf (some b))]) RX10 rfl (by decide +kernel) rfl (by first | exact Nat.le_of_ble_eq_true rfl | simp [lg_sl, q_cat, q_catI, q_catJ, q_catR, q_catN]) (by first | rfl | (simp [lv_args, q_cat, q_catI, q_catJ, q_catR, q_catN]; done) | (simp [lv_args, q_cat, q_catI, q_catJ, q_catR, q_catN]; rfl)) ?_
  intro p e s m args below meth c C hr hlocks hni
  exact tX10_dozes C hr hlocks h
/-! X10_has -/
set_option maxRecDepth 100000 in
set_option maxHeartbeats 4000000 in
theorem tX10_has {p : Program} {l : Launch} {e : Env} {s : State} {m : MethodId} {args : Array Value} {below : List Frame} {meth : Method} {c : Code} {G : mG} {b0 : Nat} (C : m_C p s m args c cX10_has 2 RX10 wsX10_has G b0) (hr : meth.sig.returnType = (some .boolean)) (hlocks : meth.locks = false) {κ : Int32 → mM → Prop} {l0 : Option Nat} {l1 : Int32} {M : mM} (h : wX10_has κ l0 l1 M) : m_W p l e ({ frames := 0, cells := 0, slots := 0, locals := 0 } : Room) s m args below meth c G b0 (MQ below (va_Qi κ (m_B G b0) (fun q => b0 ≤ q)) args s 0 0 (fun q => b0 ≤ q)) 2 M 0 0 0 [(0, va_rf l0), (1, .int l1)] [] := by
  unfold wX10_has at h
  refine q_aload_n (pc := 0) C 0 0 dX10_has_0 rfl rfl ?_
  refine q_gI (pc := 1) C h (T := TX10) rfl (by decide) (wk_u rfl wm_X10_has uq_X10 (by decide +kernel)) (by decide +kernel) (fun _ h9 => h9) dX10_has_1 (fun x1 h => ?_)
  refine q_iload_n (pc := 4) C 1 1 dX10_has_4 rfl rfl ?_
  refine q_icmp_eq (pc := 5) C 16 dX10_has_5 (by decide) (fun c2 => ?_) (fun c2 => ?_)
  · have h := h.1 c2
    refine q_iconst (pc := 16) C 1 dX10_has_16 (by decide) ?_
    refine q_goto (pc := 17) C 21 dX10_has_17 (by decide) ?_
    exact q_zret (pc := 21) C hr hlocks ⟨(by decide), h⟩ dX10_has_21 (by omega) (by omega)
  · have h := h.2 c2
    refine q_aload_n (pc := 8) C 0 0 dX10_has_8 rfl rfl ?_
    refine q_gI (pc := 9) C h (T := TX10) rfl (by decide) (wk_u rfl wm_X10_has uq_X10 (by decide +kernel)) (by decide +kernel) (fun _ h9 => h9) dX10_has_9 (fun x3 h => ?_)
    refine q_iload_n (pc := 12) C 1 1 dX10_has_12 rfl rfl ?_
    refine q_icmp_ne (pc := 13) C 20 dX10_has_13 (by decide) (fun c4 => ?_) (fun c4 => ?_)
    · have h := h.2 c4
      refine q_iconst (pc := 20) C 0 dX10_has_20 (by decide) ?_
      exact q_zret (pc := 21) C hr hlocks ⟨(by decide), h⟩ dX10_has_21 (by omega) (by omega)
    · have h := h.1 c4
      refine q_iconst (pc := 16) C 1 dX10_has_16 (by decide) ?_
      refine q_goto (pc := 17) C 21 dX10_has_17 (by decide) ?_
      exact q_zret (pc := 21) C hr hlocks ⟨(by decide), h⟩ dX10_has_21 (by omega) (by omega)
set_option maxRecDepth 100000 in
set_option maxHeartbeats 4000000 in
theorem kX10_has (l : Launch) (G : mG) (b0 : Nat) {b : Nat} {l1 : Int32} {M : mM} {κ : Int32 → mM → Prop} (h : wX10_has κ (some b) l1 M) : Met l yX10_has wsX10_has ({ frames := 0, cells := 0, slots := 0, locals := 0 } : Room) (va_Pc [.ref b, .int l1] (m_Pre G b0 M)) (va_Qi κ (m_B G b0) (fun q => b0 ≤ q)) 0 0 (fun q => b0 ≤ q) := by
  refine m_met (cc := cX10_has) (maxL := 2) (ret := (some .boolean)) (lv := [(0, va_rf (some b)), (1, .int l1)]) RX10 rfl (by decide +kernel) rfl (by first | exact Nat.le_of_ble_eq_true rfl | simp [lg_sl, q_cat, q_catI, q_catJ, q_catR, q_catN]) (by first | rfl | (simp [lv_args, q_cat, q_catI, q_catJ, q_catR, q_catN]; done) | (simp [lv_args, q_cat, q_catI, q_catJ, q_catR, q_catN]; rfl)) ?_
  intro p e s m args below meth c C hr hlocks hni
  exact tX10_has C hr hlocks h
/-! X10_beyond -/
set_option maxRecDepth 100000 in
set_option maxHeartbeats 4000000 in
theorem tX10_beyond {p : Program} {l : Launch} {e : Env} {s : State} {m : MethodId} {args : Array Value} {below : List Frame} {meth : Method} {c : Code} {G : mG} {b0 : Nat} (C : m_C p s m args c cX10_beyond 2 RX10 wsX10_beyond G b0) (hr : meth.sig.returnType = (some .int)) (hlocks : meth.locks = false) {κ : Int32 → mM → Prop} {l0 : Option Nat} {l1 : Int32} {M : mM} (h : wX10_beyond κ l0 l1 M) : m_W p l e ({ frames := 0, cells := 0, slots := 0, locals := 0 } : Room) s m args below meth c G b0 (MQ below (va_Qi κ (m_B G b0) (fun q => b0 ≤ q)) args s 0 0 (fun q => b0 ≤ q)) 2 M 0 0 0 [(0, va_rf l0), (1, .int l1)] [] := by
  unfold wX10_beyond at h
  refine q_aload_n (pc := 0) C 0 0 dX10_beyond_0 rfl rfl ?_
  refine q_gI (pc := 1) C h (T := TX10) rfl (by decide) (wk_u rfl wm_X10_beyond uq_X10 (by decide +kernel)) (by decide +kernel) (fun _ h9 => h9) dX10_beyond_1 (fun x1 h => ?_)
  refine q_iload_n (pc := 4) C 1 1 dX10_beyond_4 rfl rfl ?_
  refine q_icmp_ne (pc := 5) C 15 dX10_beyond_5 (by decide) (fun c2 => ?_) (fun c2 => ?_)
  · have h := h.2 c2
    refine q_aload_n (pc := 15) C 0 0 dX10_beyond_15 rfl rfl ?_
    refine q_gI (pc := 16) C h (T := TX10) rfl (by decide) (wk_u rfl wm_X10_beyond uq_X10 (by decide +kernel)) (by decide +kernel) (fun _ h9 => h9) dX10_beyond_16 (fun x3 h => ?_)
    exact q_iret (pc := 19) C hr hlocks h dX10_beyond_19 (by omega) (by omega)
  · have h := h.1 c2
    refine q_aload_n (pc := 8) C 0 0 dX10_beyond_8 rfl rfl ?_
    refine q_gI (pc := 9) C h (T := TX10) rfl (by decide) (wk_u rfl wm_X10_beyond uq_X10 (by decide +kernel)) (by decide +kernel) (fun _ h9 => h9) dX10_beyond_9 (fun x4 h => ?_)
    refine q_goto (pc := 12) C 19 dX10_beyond_12 (by decide) ?_
    exact q_iret (pc := 19) C hr hlocks h dX10_beyond_19 (by omega) (by omega)
set_option maxRecDepth 100000 in
set_option maxHeartbeats 4000000 in
theorem kX10_beyond (l : Launch) (G : mG) (b0 : Nat) {b : Nat} {l1 : Int32} {M : mM} {κ : Int32 → mM → Prop} (h : wX10_beyond κ (some b) l1 M) : Met l yX10_beyond wsX10_beyond ({ frames := 0, cells := 0, slots := 0, locals := 0 } : Room) (va_Pc [.ref b, .int l1] (m_Pre G b0 M)) (va_Qi κ (m_B G b0) (fun q => b0 ≤ q)) 0 0 (fun q => b0 ≤ q) := by
  refine m_met (cc := cX10_beyond) (maxL := 2) (ret := (some .int)) (lv := [(0, va_rf (some b)), (1, .int l1)]) RX10 rfl (by decide +kernel) rfl (by first | exact Nat.le_of_ble_eq_true rfl | simp [lg_sl, q_cat, q_catI, q_catJ, q_catR, q_catN]) (by first | rfl | (simp [lv_args, q_cat, q_catI, q_catJ, q_catR, q_catN]; done) | (simp [lv_args, q_cat, q_catI, q_catJ, q_catR, q_catN]; rfl)) ?_
  intro p e s m args below meth c C hr hlocks hni
  exact tX10_beyond C hr hlocks h
/-! X10_place -/
set_option maxRecDepth 100000 in
set_option maxHeartbeats 4000000 in
theorem tX10_place_2 {p : Program} {l : Launch} {e : Env} {s : State} {m : MethodId} {args : Array Value} {below : List Frame} {meth : Method} {c : Code} {G : mG} {b0 : Nat} (C : m_C p s m args c cX10_place 3 RX10 wsX10_place G b0) (hr : meth.sig.returnType = (some .int)) (hlocks : meth.locks = false) {κ : Int32 → mM → Prop} : ∀ (f : Nat) (l0 : Option Nat) (l1 : Int32) (l2 : Int32) (M : mM), wX10_place_2 κ f l0 l1 l2 M → m_W p l e ({ frames := 3, cells := 0, slots := 0, locals := 64 } : Room) s m args below meth c G b0 (MQ below (va_Qi κ (m_B G b0) (fun q => b0 ≤ q)) args s 0 0 (fun q => b0 ≤ q)) 3 M 0 0 2 [(0, va_rf l0), (1, .int l1), (2, .int l2)] [] := by
  intro f
  induction f with
  | zero =>
    intro l0 l1 l2 M h
    exact absurd h (by simp [wX10_place_2])
  | succ f ih =>
    intro l0 l1 l2 M h
    rw [wX10_place_2] at h
    refine q_iload_n (pc := 2) C 2 2 dX10_place_2 rfl rfl ?_
    refine q_aload_n (pc := 3) C 0 0 dX10_place_3 rfl rfl ?_
    refine q_gR (pc := 4) C h (T := TX10) rfl (by decide) (wk_u rfl wm_X10_place uq_X10 (by decide +kernel)) (by decide +kernel) (fun _ h9 => h9) dX10_place_4 (fun x1 h => ?_)
    obtain ⟨b4, fs9, hb4, hm9, h⟩ := h
    refine q_ci (pc := 7) (q_rV C (st := [.int l2]) (b := b4) (kJx4a65c_size_8abf5 l G b0 h) (cwV 0 C.2.2.2.2.1 gX10_place_Jx4a65c_size_8abf5 rfl rfl rfl (by decide +kernel) ⟨Nat.le_of_ble_eq_true rfl, Nat.le_of_ble_eq_true rfl⟩) hm9 rfl rfl rfl (by first | exact Nat.le_of_ble_eq_true rfl | (simp [q_cat, q_catI, q_catJ, q_catR, q_catN]; done)) (by rw [hb4]; first | done | rfl) dX10_place_7 ⟨(by first | omega | (dsimp only; omega)), (by first | omega | (dsimp only; omega))⟩) (fun x2 M3 h => ?_)
    refine q_icmp_ge (pc := 10) C 39 dX10_place_10 (by decide) (fun c5 => ?_) (fun c5 => ?_)
    · have h := h.1 c5
      refine q_iconst (pc := 39) C (-1) dX10_place_39 (by decide) ?_
      exact q_iret (pc := 40) C hr hlocks h dX10_place_40 (by omega) (by omega)
    · have h := h.2 c5
      refine q_aload_n (pc := 13) C 0 0 dX10_place_13 rfl rfl ?_
      refine q_gR (pc := 14) C h (T := TX10) rfl (by decide) (wk_u rfl wm_X10_place uq_X10 (by decide +kernel)) (by decide +kernel) (fun _ h9 => h9) dX10_place_14 (fun x6 h => ?_)
      refine q_iload_n (pc := 17) C 2 2 dX10_place_17 rfl rfl ?_
      obtain ⟨b9, fs9, hb9, hm9, h⟩ := h
      refine q_cq (pc := 18) (q_rV C (st := []) (b := b9) (kJx4a65c_get_915e3 l G b0 h) (cwV 1 C.2.2.2.2.1 gX10_place_Jx4a65c_get_915e3 rfl rfl rfl (by decide +kernel) ⟨Nat.le_of_ble_eq_true rfl, Nat.le_of_ble_eq_true rfl⟩) hm9 rfl rfl rfl (by first | exact Nat.le_of_ble_eq_true rfl | (simp [q_cat, q_catI, q_catJ, q_catR, q_catN]; done)) (by rw [hb9]; first | done | rfl) dX10_place_18 ⟨(by first | omega | (dsimp only; omega)), (by first | omega | (dsimp only; omega))⟩) (fun x7 M8 h => ?_)
      refine q_cast (pc := 21) C h rfl rfl (by decide +kernel) dX10_place_21 (fun h => ?_)
      obtain ⟨b12, fs9, hb12, hm9, h⟩ := h
      refine q_ci (pc := 24) (q_rV C (st := []) (b := b12) (kJ6_intValue_8abf5 l G b0 h) (cwV 0 C.2.2.2.2.1 gX10_place_J6_intValue_8abf5 rfl rfl rfl (by decide +kernel) ⟨Nat.le_of_ble_eq_true rfl, Nat.le_of_ble_eq_true rfl⟩) hm9 rfl rfl rfl (by first | exact Nat.le_of_ble_eq_true rfl | (simp [q_cat, q_catI, q_catJ, q_catR, q_catN]; done)) (by rw [hb12]; first | done | rfl) dX10_place_24 ⟨(by first | omega | (dsimp only; omega)), (by first | omega | (dsimp only; omega))⟩) (fun x10 M11 h => ?_)
      refine q_iload_n (pc := 27) C 1 1 dX10_place_27 rfl rfl ?_
      refine q_icmp_ne (pc := 28) C 33 dX10_place_28 (by decide) (fun c13 => ?_) (fun c13 => ?_)
      · have h := h.2 c13
        refine q_iinc (pc := 33) C 2 2 (l2 + 1) [(2, .int (l2 + 1)), (0, va_rf l0), (1, .int l1)] dX10_place_33 rfl (by rfl) (by decide) (by first | rfl | simp [q_cat, q_catI, q_catJ, q_catR, q_catN]) ?_
        refine q_goto (pc := 36) C 2 dX10_place_36 (by decide) ?_
        refine q_widen (k2 := 0) (n2 := 0) (by omega) (by omega) ?_
        refine q_lv [1, 2, 0] rfl ?_
        exact ih _ _ _ _ h
      · have h := h.1 c13
        refine q_iload_n (pc := 31) C 2 2 dX10_place_31 rfl rfl ?_
        exact q_iret (pc := 32) C hr hlocks h dX10_place_32 (by omega) (by omega)
set_option maxRecDepth 100000 in
set_option maxHeartbeats 4000000 in
theorem tX10_place {p : Program} {l : Launch} {e : Env} {s : State} {m : MethodId} {args : Array Value} {below : List Frame} {meth : Method} {c : Code} {G : mG} {b0 : Nat} (C : m_C p s m args c cX10_place 3 RX10 wsX10_place G b0) (hr : meth.sig.returnType = (some .int)) (hlocks : meth.locks = false) {κ : Int32 → mM → Prop} {l0 : Option Nat} {l1 : Int32} {M : mM} (h : wX10_place κ l0 l1 M) : m_W p l e ({ frames := 3, cells := 0, slots := 0, locals := 64 } : Room) s m args below meth c G b0 (MQ below (va_Qi κ (m_B G b0) (fun q => b0 ≤ q)) args s 0 0 (fun q => b0 ≤ q)) 3 M 0 0 0 [(0, va_rf l0), (1, .int l1)] [] := by
  unfold wX10_place at h
  refine q_iconst (pc := 0) C 0 dX10_place_0 (by decide) ?_
  refine q_istore_n (pc := 1) C 2 [(2, .int 0), (0, va_rf l0), (1, .int l1)] dX10_place_1 rfl (by decide) (by first | rfl | simp [q_cat, q_catI, q_catJ, q_catR, q_catN]) ?_
  refine q_widen (k2 := 0) (n2 := 0) (by omega) (by omega) ?_
  refine q_lv [1, 2, 0] rfl ?_
  obtain ⟨f9, h⟩ := h
  exact tX10_place_2 C hr hlocks f9 _ _ _ _ h
set_option maxRecDepth 100000 in
set_option maxHeartbeats 4000000 in
theorem kX10_place (l : Launch) (G : mG) (b0 : Nat) {b : Nat} {l1 : Int32} {M : mM} {κ : Int32 → mM → Prop} (h : wX10_place κ (some b) l1 M) : Met l yX10_place wsX10_place ({ frames := 3, cells := 0, slots := 0, locals := 64 } : Room) (va_Pc [.ref b, .int l1] (m_Pre G b0 M)) (va_Qi κ (m_B G b0) (fun q => b0 ≤ q)) 0 0 (fun q => b0 ≤ q) := by
  refine m_met (cc := cX10_place) (maxL := 3) (ret := (some .int)) (lv := [(0, va_rf (some b)), (1, .int l1)]) RX10 rfl (by decide +kernel) rfl (by first | exact Nat.le_of_ble_eq_true rfl | simp [lg_sl, q_cat, q_catI, q_catJ, q_catR, q_catN]) (by first | rfl | (simp [lv_args, q_cat, q_catI, q_catJ, q_catR, q_catN]; done) | (simp [lv_args, q_cat, q_catI, q_catJ, q_catR, q_catN]; rfl)) ?_
  intro p e s m args below meth c C hr hlocks hni
  exact tX10_place C hr hlocks h
/-! X11_init -/
set_option maxRecDepth 100000 in
set_option maxHeartbeats 4000000 in
theorem tX11_init {p : Program} {l : Launch} {e : Env} {s : State} {m : MethodId} {args : Array Value} {below : List Frame} {meth : Method} {c : Code} {G : mG} {b0 : Nat} (C : m_C p s m args c cX11_init 1 RX11 wsX11_init G b0) (hr : meth.sig.returnType = none) (hlocks : meth.locks = false) (hni : meth.name = "<init>") {κ : mM → Prop} {l0 : Option Nat} {M : mM} (h : wX11_init κ l0 M) : m_W p l e ({ frames := 1, cells := 0, slots := 0, locals := 20 } : Room) s m args below meth c G b0 (MQ below (va_Qv κ (m_B G b0) (fun q => b0 ≤ q)) args s 0 0 (fun q => b0 ≤ q)) 1 M 0 0 0 [(0, va_rf l0)] [] := by
  unfold wX11_init at h
  refine q_aload_n (pc := 0) C 0 0 dX11_init_0 rfl rfl ?_
  obtain ⟨b9, hb9, h⟩ := h
  refine q_objInit (pc := 1) C hb9 (by decide +kernel) (by decide +kernel) (by decide +kernel) dX11_init_1 (Nat.le_of_ble_eq_true rfl) (by first | exact Nat.le_of_ble_eq_true rfl | (simp [q_cat, q_catI, q_catJ, q_catR, q_catN]; done) | (simp [q_cat, q_catI, q_catJ, q_catR, q_catN]; decide)) ?_
  refine q_aload_n (pc := 4) C 0 0 dX11_init_4 rfl rfl ?_
  refine q_bipush (pc := 5) C 10 dX11_init_5 (by decide) ?_
  refine q_p (pc := 7) C h .int (T := TX11) tyX11 tyX11_ok nmX11 rfl (by decide +kernel) rfl rfl rfl (by decide) (wk_u rfl wm_X11_init uq_X11 (by decide +kernel)) (by decide +kernel) (fun _ h9 => h9) rfl dX11_init_7 (fun M1 h => ?_)
  refine q_aload_n (pc := 10) C 0 0 dX11_init_10 rfl rfl ?_
  refine q_bipush (pc := 11) C 20 dX11_init_11 (by decide) ?_
  refine q_p (pc := 13) C h .int (T := TX11) tyX11 tyX11_ok nmX11 rfl (by decide +kernel) rfl rfl rfl (by decide) (wk_u rfl wm_X11_init uq_X11 (by decide +kernel)) (by decide +kernel) (fun _ h9 => h9) rfl dX11_init_13 (fun M2 h => ?_)
  refine q_aload_n (pc := 16) C 0 0 dX11_init_16 rfl rfl ?_
  refine q_iconst (pc := 17) C 5 dX11_init_17 (by decide) ?_
  refine q_p (pc := 18) C h .int (T := TX11) tyX11 tyX11_ok nmX11 rfl (by decide +kernel) rfl rfl rfl (by decide) (wk_u rfl wm_X11_init uq_X11 (by decide +kernel)) (by decide +kernel) (fun _ h9 => h9) rfl dX11_init_18 (fun M3 h => ?_)
  exact q_vret (pc := 21) C hr hlocks h dX11_init_21 (by omega) (by omega)
set_option maxRecDepth 100000 in
set_option maxHeartbeats 4000000 in
theorem kX11_init (l : Launch) (G : mG) (b0 : Nat) {b : Nat} {M : mM} {κ : mM → Prop} (h : wX11_init κ (some b) M) : Met l yX11_init wsX11_init ({ frames := 1, cells := 0, slots := 0, locals := 20 } : Room) (va_Pc [.ref b] (m_Pre G b0 M)) (va_Qv κ (m_B G b0) (fun q => b0 ≤ q)) 0 0 (fun q => b0 ≤ q) := by
  refine m_met (cc := cX11_init) (maxL := 1) (ret := none) (lv := [(0, va_rf (some b))]) RX11 rfl (by decide +kernel) rfl (by first | exact Nat.le_of_ble_eq_true rfl | simp [lg_sl, q_cat, q_catI, q_catJ, q_catR, q_catN]) (by first | rfl | (simp [lv_args, q_cat, q_catI, q_catJ, q_catR, q_catN]; done) | (simp [lv_args, q_cat, q_catI, q_catJ, q_catR, q_catN]; rfl)) ?_
  intro p e s m args below meth c C hr hlocks hni
  exact tX11_init C hr hlocks hni h
/-! X12_init -/
set_option maxRecDepth 100000 in
set_option maxHeartbeats 4000000 in
theorem tX12_init {p : Program} {l : Launch} {e : Env} {s : State} {m : MethodId} {args : Array Value} {below : List Frame} {meth : Method} {c : Code} {G : mG} {b0 : Nat} (C : m_C p s m args c cX12_init 1 RX12 wsX12_init G b0) (hr : meth.sig.returnType = none) (hlocks : meth.locks = false) (hni : meth.name = "<init>") {κ : mM → Prop} {l0 : Option Nat} {M : mM} (h : wX12_init κ l0 M) : m_W p l e ({ frames := 1, cells := 0, slots := 0, locals := 20 } : Room) s m args below meth c G b0 (MQ below (va_Qv κ (m_B G b0) (fun q => b0 ≤ q)) args s 0 0 (fun q => b0 ≤ q)) 1 M 0 0 0 [(0, va_rf l0)] [] := by
  unfold wX12_init at h
  refine q_aload_n (pc := 0) C 0 0 dX12_init_0 rfl rfl ?_
  obtain ⟨b9, hb9, h⟩ := h
  refine q_objInit (pc := 1) C hb9 (by decide +kernel) (by decide +kernel) (by decide +kernel) dX12_init_1 (Nat.le_of_ble_eq_true rfl) (by first | exact Nat.le_of_ble_eq_true rfl | (simp [q_cat, q_catI, q_catJ, q_catR, q_catN]; done) | (simp [q_cat, q_catI, q_catJ, q_catR, q_catN]; decide)) ?_
  refine q_aload_n (pc := 4) C 0 0 dX12_init_4 rfl rfl ?_
  refine q_iconst (pc := 5) C (-1) dX12_init_5 (by decide) ?_
  refine q_p (pc := 6) C h .int (T := TX12) tyX12 tyX12_ok nmX12 rfl (by decide +kernel) rfl rfl rfl (by decide) (wk_u rfl wm_X12_init uq_X12 (by decide +kernel)) (by decide +kernel) (fun _ h9 => h9) rfl dX12_init_6 (fun M1 h => ?_)
  exact q_vret (pc := 9) C hr hlocks h dX12_init_9 (by omega) (by omega)
set_option maxRecDepth 100000 in
set_option maxHeartbeats 4000000 in
theorem kX12_init (l : Launch) (G : mG) (b0 : Nat) {b : Nat} {M : mM} {κ : mM → Prop} (h : wX12_init κ (some b) M) : Met l yX12_init wsX12_init ({ frames := 1, cells := 0, slots := 0, locals := 20 } : Room) (va_Pc [.ref b] (m_Pre G b0 M)) (va_Qv κ (m_B G b0) (fun q => b0 ≤ q)) 0 0 (fun q => b0 ≤ q) := by
  refine m_met (cc := cX12_init) (maxL := 1) (ret := none) (lv := [(0, va_rf (some b))]) RX12 rfl (by decide +kernel) rfl (by first | exact Nat.le_of_ble_eq_true rfl | simp [lg_sl, q_cat, q_catI, q_catJ, q_catR, q_catN]) (by first | rfl | (simp [lv_args, q_cat, q_catI, q_catJ, q_catR, q_catN]; done) | (simp [lv_args, q_cat, q_catI, q_catJ, q_catR, q_catN]; rfl)) ?_
  intro p e s m args below meth c C hr hlocks hni
  exact tX12_init C hr hlocks hni h
/-! X12_isNightmare -/
set_option maxRecDepth 100000 in
set_option maxHeartbeats 4000000 in
theorem tX12_isNightmare {p : Program} {l : Launch} {e : Env} {s : State} {m : MethodId} {args : Array Value} {below : List Frame} {meth : Method} {c : Code} {G : mG} {b0 : Nat} (C : m_C p s m args c cX12_isNightmare 1 RX12 wsX12_isNightmare G b0) (hr : meth.sig.returnType = (some .boolean)) (hlocks : meth.locks = false) {κ : Int32 → mM → Prop} {l0 : Option Nat} {M : mM} (h : wX12_isNightmare κ l0 M) : m_W p l e ({ frames := 0, cells := 0, slots := 0, locals := 0 } : Room) s m args below meth c G b0 (MQ below (va_Qi κ (m_B G b0) (fun q => b0 ≤ q)) args s 0 0 (fun q => b0 ≤ q)) 1 M 0 0 0 [(0, va_rf l0)] [] := by
  unfold wX12_isNightmare at h
  refine q_aload_n (pc := 0) C 0 0 dX12_isNightmare_0 rfl rfl ?_
  refine q_gI (pc := 1) C h (T := TX12) rfl (by decide) (wk_u rfl wm_X12_isNightmare uq_X12 (by decide +kernel)) (by decide +kernel) (fun _ h9 => h9) dX12_isNightmare_1 (fun x1 h => ?_)
  refine q_iconst (pc := 4) C 5 dX12_isNightmare_4 (by decide) ?_
  refine q_icmp_lt (pc := 5) C 12 dX12_isNightmare_5 (by decide) (fun c2 => ?_) (fun c2 => ?_)
  · have h := h.1 c2
    refine q_iconst (pc := 12) C 0 dX12_isNightmare_12 (by decide) ?_
    exact q_zret (pc := 13) C hr hlocks ⟨(by decide), h⟩ dX12_isNightmare_13 (by omega) (by omega)
  · have h := h.2 c2
    refine q_iconst (pc := 8) C 1 dX12_isNightmare_8 (by decide) ?_
    refine q_goto (pc := 9) C 13 dX12_isNightmare_9 (by decide) ?_
    exact q_zret (pc := 13) C hr hlocks ⟨(by decide), h⟩ dX12_isNightmare_13 (by omega) (by omega)
set_option maxRecDepth 100000 in
set_option maxHeartbeats 4000000 in
theorem kX12_isNightmare (l : Launch) (G : mG) (b0 : Nat) {b : Nat} {M : mM} {κ : Int32 → mM → Prop} (h : wX12_isNightmare κ (some b) M) : Met l yX12_isNightmare wsX12_isNightmare ({ frames := 0, cells := 0, slots := 0, locals := 0 } : Room) (va_Pc [.ref b] (m_Pre G b0 M)) (va_Qi κ (m_B G b0) (fun q => b0 ≤ q)) 0 0 (fun q => b0 ≤ q) := by
  refine m_met (cc := cX12_isNightmare) (maxL := 1) (ret := (some .boolean)) (lv := [(0, va_rf (some b))]) RX12 rfl (by decide +kernel) rfl (by first | exact Nat.le_of_ble_eq_true rfl | simp [lg_sl, q_cat, q_catI, q_catJ, q_catR, q_catN]) (by first | rfl | (simp [lv_args, q_cat, q_catI, q_catJ, q_catR, q_catN]; done) | (simp [lv_args, q_cat, q_catI, q_catJ, q_catR, q_catN]; rfl)) ?_
  intro p e s m args below meth c C hr hlocks hni
  exact tX12_isNightmare C hr hlocks h
/-! X13_init -/
set_option maxRecDepth 100000 in
set_option maxHeartbeats 4000000 in
theorem tX13_init {p : Program} {l : Launch} {e : Env} {s : State} {m : MethodId} {args : Array Value} {below : List Frame} {meth : Method} {c : Code} {G : mG} {b0 : Nat} (C : m_C p s m args c cX13_init 1 RX13 wsX13_init G b0) (hr : meth.sig.returnType = none) (hlocks : meth.locks = false) (hni : meth.name = "<init>") {κ : mM → Prop} {l0 : Option Nat} {M : mM} (h : wX13_init κ l0 M) : m_W p l e ({ frames := 1, cells := 0, slots := 0, locals := 20 } : Room) s m args below meth c G b0 (MQ below (va_Qv κ (m_B G b0) (fun q => b0 ≤ q)) args s 0 0 (fun q => b0 ≤ q)) 1 M 0 0 0 [(0, va_rf l0)] [] := by
  unfold wX13_init at h
  refine q_aload_n (pc := 0) C 0 0 dX13_init_0 rfl rfl ?_
  obtain ⟨b9, hb9, h⟩ := h
  refine q_objInit (pc := 1) C hb9 (by decide +kernel) (by decide +kernel) (by decide +kernel) dX13_init_1 (Nat.le_of_ble_eq_true rfl) (by first | exact Nat.le_of_ble_eq_true rfl | (simp [q_cat, q_catI, q_catJ, q_catR, q_catN]; done) | (simp [q_cat, q_catI, q_catJ, q_catR, q_catN]; decide)) ?_
  refine q_aload_n (pc := 4) C 0 0 dX13_init_4 rfl rfl ?_
  refine q_iconst (pc := 5) C (-1) dX13_init_5 (by decide) ?_
  refine q_p (pc := 6) C h .int (T := TX13) tyX13 tyX13_ok nmX13 rfl (by decide +kernel) rfl rfl rfl (by decide) (wk_u rfl wm_X13_init uq_X13 (by decide +kernel)) (by decide +kernel) (fun _ h9 => h9) rfl dX13_init_6 (fun M1 h => ?_)
  refine q_aload_n (pc := 9) C 0 0 dX13_init_9 rfl rfl ?_
  refine q_iconst (pc := 10) C (-1) dX13_init_10 (by decide) ?_
  refine q_p (pc := 11) C h .int (T := TX13) tyX13 tyX13_ok nmX13 rfl (by decide +kernel) rfl rfl rfl (by decide) (wk_u rfl wm_X13_init uq_X13 (by decide +kernel)) (by decide +kernel) (fun _ h9 => h9) rfl dX13_init_11 (fun M2 h => ?_)
  refine q_aload_n (pc := 14) C 0 0 dX13_init_14 rfl rfl ?_
  refine q_iconst (pc := 15) C (-1) dX13_init_15 (by decide) ?_
  refine q_p (pc := 16) C h .int (T := TX13) tyX13 tyX13_ok nmX13 rfl (by decide +kernel) rfl rfl rfl (by decide) (wk_u rfl wm_X13_init uq_X13 (by decide +kernel)) (by decide +kernel) (fun _ h9 => h9) rfl dX13_init_16 (fun M3 h => ?_)
  exact q_vret (pc := 19) C hr hlocks h dX13_init_19 (by omega) (by omega)
set_option maxRecDepth 100000 in
set_option maxHeartbeats 4000000 in
theorem kX13_init (l : Launch) (G : mG) (b0 : Nat) {b : Nat} {M : mM} {κ : mM → Prop} (h : wX13_init κ (some b) M) : Met l yX13_init wsX13_init ({ frames := 1, cells := 0, slots := 0, locals := 20 } : Room) (va_Pc [.ref b] (m_Pre G b0 M)) (va_Qv κ (m_B G b0) (fun q => b0 ≤ q)) 0 0 (fun q => b0 ≤ q) := by
  refine m_met (cc := cX13_init) (maxL := 1) (ret := none) (lv := [(0, va_rf (some b))]) RX13 rfl (by decide +kernel) rfl (by first | exact Nat.le_of_ble_eq_true rfl | simp [lg_sl, q_cat, q_catI, q_catJ, q_catR, q_catN]) (by first | rfl | (simp [lv_args, q_cat, q_catI, q_catJ, q_catR, q_catN]; done) | (simp [lv_args, q_cat, q_catI, q_catJ, q_catR, q_catN]; rfl)) ?_
  intro p e s m args below meth c C hr hlocks hni
  exact tX13_init C hr hlocks hni h
