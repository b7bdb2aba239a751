/-! X8_init -/
set_option maxRecDepth 100000 in
set_option maxHeartbeats 4000000 in
theorem tX8_init_90 {p : Program} {l : Launch} {e : Env} {s : State} {m : MethodId} {args : Array Value} {below : List Frame} {meth : Method} {c : Code} {G : mG} {b0 : Nat} (C : m_C p s m args c cX8_init 2 RX8 wsX8_init G b0) (hr : meth.sig.returnType = none) (hlocks : meth.locks = false) {g : Nat → Nat} (hg : G.2.2 = g) (hni : meth.name = "<init>") {κ : mM → Prop} : ∀ (f : Nat) (k9 n9 : Nat) (l0 : Option Nat) (l1 : Int32) (M : mM), wX8_init_90 g κ f k9 n9 l0 l1 M → m_W p l e ({ frames := 4, cells := 26, slots := 900, locals := 80 } : Room) s m args below meth c G b0 (MQ below (va_Qv κ (m_B G b0) (fun q => b0 ≤ q)) args s 26 900 (fun q => b0 ≤ q)) 2 M k9 n9 90 [(0, va_rf l0), (1, .int l1)] [] := by
  intro f
  induction f with
  | zero =>
    intro k9 n9 l0 l1 M h
    exact absurd h (by simp [wX8_init_90])
  | succ f ih =>
    intro k9 n9 l0 l1 M h
    rw [wX8_init_90] at h
    obtain ⟨hbk, h⟩ := h
    refine q_iload_n (pc := 90) C 1 1 dX8_init_90 rfl rfl ?_
    refine q_bipush (pc := 91) C 6 dX8_init_91 (by decide) ?_
    refine q_icmp_ge (pc := 93) C 116 dX8_init_93 (by decide) (fun c1 => ?_) (fun c1 => ?_)
    · have h := h.1 c1
      obtain ⟨hbk, h⟩ := h
      exact q_vret (pc := 116) C hr hlocks h dX8_init_116 (by omega) (by omega)
    · have h := h.2 c1
      refine q_aload_n (pc := 96) C 0 0 dX8_init_96 rfl rfl ?_
      refine q_gR (pc := 97) C h (T := TX8) rfl (by decide) (wk_u rfl wm_X8_init uq_X8 (by decide +kernel)) (by decide +kernel) (fun _ h9 => h9) dX8_init_97 (fun x2 h => ?_)
      refine q_iload_n (pc := 100) C 1 1 dX8_init_100 rfl rfl ?_
      obtain ⟨hbk, h⟩ := h
      refine q_new (pc := 101) C h rfl (T := TX2) tyX2 tyX2_ok rfl (by decide +kernel) (by decide +kernel) (by decide +kernel) (by decide +kernel) (fun j hj => by rcases (show j = 0 ∨ j = 1 ∨ j = 2 ∨ j = 3 ∨ j = 4 ∨ j = 5 ∨ j = 6 by omega) with rfl | rfl | rfl | rfl | rfl | rfl | rfl <;> rfl) (by first | omega | (dsimp only; omega)) (by first | omega | (dsimp only; omega)) dX8_init_101 (fun q3 M4 h => ?_)
      refine q_dup (pc := 104) C dX8_init_104 (q_cat _) ?_
      refine q_iload_n (pc := 105) C 1 1 dX8_init_105 rfl rfl ?_
      obtain ⟨b6, fs9, hb6, hm9, h⟩ := h
      refine q_cv (pc := 106) (q_rI C (st := [va_rf (some q3), .int l1, va_rf x2]) (b := b6) (kX2_init l G b0 h) (cwI 1 C.2.2.2.2.1 gX8_init_X2_init rfl rfl rfl (C.2.2.2.2.1 (.initialized RX2) (by decide +kernel)) (C.2.2.2.2.1 (.methodLink RX8 47 yX2_init) (by decide +kernel)) (C.2.2.2.2.1 (.instanceMethod yX2_init) (by decide +kernel)) rfl (by decide +kernel) ⟨Nat.le_of_ble_eq_true rfl, Nat.le_of_ble_eq_true rfl⟩) rfl (by first | exact Nat.le_of_ble_eq_true rfl | (simp [q_cat, q_catI, q_catJ, q_catR, q_catN]; done)) (by rw [hb6]; first | done | rfl) dX8_init_106 ⟨(by first | omega | (dsimp only; omega)), (by first | omega | (dsimp only; omega))⟩) (fun M5 h => ?_)
      refine q_aast (pc := 109) C h (by decide) dX8_init_109 (fun M7 h => ?_)
      refine q_iinc (pc := 110) C 1 1 (l1 + 1) [(1, .int (l1 + 1)), (0, va_rf l0)] dX8_init_110 rfl (by rfl) (by decide) (by first | rfl | simp [q_cat, q_catI, q_catJ, q_catR, q_catN]) ?_
      refine q_goto (pc := 113) C 90 dX8_init_113 (by decide) ?_
      refine q_lv [1, 0] rfl ?_
      exact ih _ _ _ _ _ h
set_option maxRecDepth 100000 in
set_option maxHeartbeats 4000000 in
theorem tX8_init {p : Program} {l : Launch} {e : Env} {s : State} {m : MethodId} {args : Array Value} {below : List Frame} {meth : Method} {c : Code} {G : mG} {b0 : Nat} (C : m_C p s m args c cX8_init 2 RX8 wsX8_init G b0) (hr : meth.sig.returnType = none) (hlocks : meth.locks = false) {g : Nat → Nat} (hg : G.2.2 = g) (hni : meth.name = "<init>") {κ : mM → Prop} {l0 : Option Nat} {M : mM} (h : wX8_init g κ l0 M) : m_W p l e ({ frames := 4, cells := 26, slots := 900, locals := 80 } : Room) s m args below meth c G b0 (MQ below (va_Qv κ (m_B G b0) (fun q => b0 ≤ q)) args s 26 900 (fun q => b0 ≤ q)) 2 M 0 0 0 [(0, va_rf l0)] [] := by
  unfold wX8_init at h
  refine q_aload_n (pc := 0) C 0 0 dX8_init_0 rfl rfl ?_
  obtain ⟨b9, hb9, h⟩ := h
  refine q_objInit (pc := 1) C hb9 (by decide +kernel) (by decide +kernel) (by decide +kernel) dX8_init_1 (Nat.le_of_ble_eq_true rfl) (by first | exact Nat.le_of_ble_eq_true rfl | (simp [q_cat, q_catI, q_catJ, q_catR, q_catN]; done) | (simp [q_cat, q_catI, q_catJ, q_catR, q_catN]; decide)) ?_
  refine q_aload_n (pc := 4) C 0 0 dX8_init_4 rfl rfl ?_
  refine q_bipush (pc := 5) C 6 dX8_init_5 (by decide) ?_
  obtain ⟨hbk, h⟩ := h
  refine q_newR (pc := 7) C h (E := "Lullabygate$Land") (ak := 3) rfl (by decide) (by decide) (by decide +kernel) 50 (by decide +kernel) (by first | omega | (dsimp only; omega)) (by first | omega | (dsimp only; omega)) dX8_init_7 (fun q1 M2 h => ?_)
  refine q_pF (pc := 10) C hni h (.array (.object "Lullabygate$Land")) (T := TX8) tyX8 tyX8_ok nmX8 rfl (by decide +kernel) (q_nrA _ _) (q_ftA _ _) rfl (by decide) (wk_u rfl wm_X8_init uq_X8 (by decide +kernel)) (by decide +kernel) (fun _ h9 => h9) rfl rfl dX8_init_10 (fun M3 h => ?_)
  refine q_aload_n (pc := 13) C 0 0 dX8_init_13 rfl rfl ?_
  obtain ⟨hbk, h⟩ := h
  refine q_new (pc := 14) C h rfl (T := TJx4a65c) tyJx4a65c tyJx4a65c_ok rfl (by decide +kernel) (by decide +kernel) (by decide +kernel) (by decide +kernel) (fun j hj => by rcases (show j = 0 ∨ j = 1 ∨ j = 2 by omega) with rfl | rfl | rfl <;> rfl) (by first | omega | (dsimp only; omega)) (by first | omega | (dsimp only; omega)) dX8_init_14 (fun q4 M5 h => ?_)
  refine q_dup (pc := 17) C dX8_init_17 (q_cat _) ?_
  obtain ⟨b7, fs9, hb7, hm9, h⟩ := h
  refine q_cv (pc := 18) (q_rI C (st := [va_rf (some q4), va_rf l0]) (b := b7) (kJx4a65c_init_da8c8 l G b0 hg h) (cwI 0 C.2.2.2.2.1 gX8_init_Jx4a65c_init_da8c8 rfl rfl rfl (C.2.2.2.2.1 (.initialized RJx4a65c) (by decide +kernel)) (C.2.2.2.2.1 (.methodLink RX8 17 yJx4a65c_init_da8c8) (by decide +kernel)) (C.2.2.2.2.1 (.instanceMethod yJx4a65c_init_da8c8) (by decide +kernel)) rfl (by decide +kernel) ⟨Nat.le_of_ble_eq_true rfl, Nat.le_of_ble_eq_true rfl⟩) rfl (by first | exact Nat.le_of_ble_eq_true rfl | (simp [q_cat, q_catI, q_catJ, q_catR, q_catN]; done)) (by rw [hb7]; first | done | rfl) dX8_init_18 ⟨(by first | omega | (dsimp only; omega)), (by first | omega | (dsimp only; omega))⟩) (fun M6 h => ?_)
  refine q_pF (pc := 21) C hni h (.object "java/util/ArrayList") (T := TX8) tyX8 tyX8_ok nmX8 rfl (by decide +kernel) (q_nrO _ _) (q_ftO _ _) rfl (by decide) (wk_u rfl wm_X8_init uq_X8 (by decide +kernel)) (by decide +kernel) (fun _ h9 => h9) rfl rfl dX8_init_21 (fun M8 h => ?_)
  refine q_aload_n (pc := 24) C 0 0 dX8_init_24 rfl rfl ?_
  obtain ⟨hbk, h⟩ := h
  refine q_new (pc := 25) C h rfl (T := TJx4a65c) tyJx4a65c tyJx4a65c_ok rfl (by decide +kernel) (by decide +kernel) (by decide +kernel) (by decide +kernel) (fun j hj => by rcases (show j = 0 ∨ j = 1 ∨ j = 2 by omega) with rfl | rfl | rfl <;> rfl) (by first | omega | (dsimp only; omega)) (by first | omega | (dsimp only; omega)) dX8_init_25 (fun q9 M10 h => ?_)
  refine q_dup (pc := 28) C dX8_init_28 (q_cat _) ?_
  obtain ⟨b12, fs9, hb12, hm9, h⟩ := h
  refine q_cv (pc := 29) (q_rI C (st := [va_rf (some q9), va_rf l0]) (b := b12) (kJx4a65c_init_da8c8 l G b0 hg h) (cwI 0 C.2.2.2.2.1 gX8_init_Jx4a65c_init_da8c8 rfl rfl rfl (C.2.2.2.2.1 (.initialized RJx4a65c) (by decide +kernel)) (C.2.2.2.2.1 (.methodLink RX8 17 yJx4a65c_init_da8c8) (by decide +kernel)) (C.2.2.2.2.1 (.instanceMethod yJx4a65c_init_da8c8) (by decide +kernel)) rfl (by decide +kernel) ⟨Nat.le_of_ble_eq_true rfl, Nat.le_of_ble_eq_true rfl⟩) rfl (by first | exact Nat.le_of_ble_eq_true rfl | (simp [q_cat, q_catI, q_catJ, q_catR, q_catN]; done)) (by rw [hb12]; first | done | rfl) dX8_init_29 ⟨(by first | omega | (dsimp only; omega)), (by first | omega | (dsimp only; omega))⟩) (fun M11 h => ?_)
  refine q_pF (pc := 32) C hni h (.object "java/util/ArrayList") (T := TX8) tyX8 tyX8_ok nmX8 rfl (by decide +kernel) (q_nrO _ _) (q_ftO _ _) rfl (by decide) (wk_u rfl wm_X8_init uq_X8 (by decide +kernel)) (by decide +kernel) (fun _ h9 => h9) rfl rfl dX8_init_32 (fun M13 h => ?_)
  refine q_aload_n (pc := 35) C 0 0 dX8_init_35 rfl rfl ?_
  obtain ⟨hbk, h⟩ := h
  refine q_new (pc := 36) C h rfl (T := TJx4a65c) tyJx4a65c tyJx4a65c_ok rfl (by decide +kernel) (by decide +kernel) (by decide +kernel) (by decide +kernel) (fun j hj => by rcases (show j = 0 ∨ j = 1 ∨ j = 2 by omega) with rfl | rfl | rfl <;> rfl) (by first | omega | (dsimp only; omega)) (by first | omega | (dsimp only; omega)) dX8_init_36 (fun q14 M15 h => ?_)
  refine q_dup (pc := 39) C dX8_init_39 (q_cat _) ?_
  obtain ⟨b17, fs9, hb17, hm9, h⟩ := h
  refine q_cv (pc := 40) (q_rI C (st := [va_rf (some q14), va_rf l0]) (b := b17) (kJx4a65c_init_da8c8 l G b0 hg h) (cwI 0 C.2.2.2.2.1 gX8_init_Jx4a65c_init_da8c8 rfl rfl rfl (C.2.2.2.2.1 (.initialized RJx4a65c) (by decide +kernel)) (C.2.2.2.2.1 (.methodLink RX8 17 yJx4a65c_init_da8c8) (by decide +kernel)) (C.2.2.2.2.1 (.instanceMethod yJx4a65c_init_da8c8) (by decide +kernel)) rfl (by decide +kernel) ⟨Nat.le_of_ble_eq_true rfl, Nat.le_of_ble_eq_true rfl⟩) rfl (by first | exact Nat.le_of_ble_eq_true rfl | (simp [q_cat, q_catI, q_catJ, q_catR, q_catN]; done)) (by rw [hb17]; first | done | rfl) dX8_init_40 ⟨(by first | omega | (dsimp only; omega)), (by first | omega | (dsimp only; omega))⟩) (fun M16 h => ?_)
  refine q_pF (pc := 43) C hni h (.object "java/util/ArrayList") (T := TX8) tyX8 tyX8_ok nmX8 rfl (by decide +kernel) (q_nrO _ _) (q_ftO _ _) rfl (by decide) (wk_u rfl wm_X8_init uq_X8 (by decide +kernel)) (by decide +kernel) (fun _ h9 => h9) rfl rfl dX8_init_43 (fun M18 h => ?_)
  refine q_aload_n (pc := 46) C 0 0 dX8_init_46 rfl rfl ?_
  obtain ⟨hbk, h⟩ := h
  refine q_new (pc := 47) C h rfl (T := TJx4a65c) tyJx4a65c tyJx4a65c_ok rfl (by decide +kernel) (by decide +kernel) (by decide +kernel) (by decide +kernel) (fun j hj => by rcases (show j = 0 ∨ j = 1 ∨ j = 2 by omega) with rfl | rfl | rfl <;> rfl) (by first | omega | (dsimp only; omega)) (by first | omega | (dsimp only; omega)) dX8_init_47 (fun q19 M20 h => ?_)
  refine q_dup (pc := 50) C dX8_init_50 (q_cat _) ?_
  obtain ⟨b22, fs9, hb22, hm9, h⟩ := h
  refine q_cv (pc := 51) (q_rI C (st := [va_rf (some q19), va_rf l0]) (b := b22) (kJx4a65c_init_da8c8 l G b0 hg h) (cwI 0 C.2.2.2.2.1 gX8_init_Jx4a65c_init_da8c8 rfl rfl rfl (C.2.2.2.2.1 (.initialized RJx4a65c) (by decide +kernel)) (C.2.2.2.2.1 (.methodLink RX8 17 yJx4a65c_init_da8c8) (by decide +kernel)) (C.2.2.2.2.1 (.instanceMethod yJx4a65c_init_da8c8) (by decide +kernel)) rfl (by decide +kernel) ⟨Nat.le_of_ble_eq_true rfl, Nat.le_of_ble_eq_true rfl⟩) rfl (by first | exact Nat.le_of_ble_eq_true rfl | (simp [q_cat, q_catI, q_catJ, q_catR, q_catN]; done)) (by rw [hb22]; first | done | rfl) dX8_init_51 ⟨(by first | omega | (dsimp only; omega)), (by first | omega | (dsimp only; omega))⟩) (fun M21 h => ?_)
  refine q_pF (pc := 54) C hni h (.object "java/util/ArrayList") (T := TX8) tyX8 tyX8_ok nmX8 rfl (by decide +kernel) (q_nrO _ _) (q_ftO _ _) rfl (by decide) (wk_u rfl wm_X8_init uq_X8 (by decide +kernel)) (by decide +kernel) (fun _ h9 => h9) rfl rfl dX8_init_54 (fun M23 h => ?_)
  refine q_aload_n (pc := 57) C 0 0 dX8_init_57 rfl rfl ?_
  obtain ⟨hbk, h⟩ := h
  refine q_new (pc := 58) C h rfl (T := TX5) tyX5 tyX5_ok rfl (by decide +kernel) (by decide +kernel) (by decide +kernel) (by decide +kernel) (fun j hj => by rcases (show j = 0 ∨ j = 1 by omega) with rfl | rfl <;> rfl) (by first | omega | (dsimp only; omega)) (by first | omega | (dsimp only; omega)) dX8_init_58 (fun q24 M25 h => ?_)
  refine q_dup (pc := 61) C dX8_init_61 (q_cat _) ?_
  obtain ⟨b27, fs9, hb27, hm9, h⟩ := h
  refine q_cv (pc := 62) (q_rIN C (st := [va_rf (some q24), va_rf l0]) (b := b27) (kX5_init l G b0 h) ⟨va_cnB (host := "Lullabygate") 0 C.2.2.2.2.1 gX8_init_X5_init_n33 rfl rfl rfl (C.2.2.2.2.2.2.1.1 _ (List.mem_of_getElem? (i := 82) (by decide +kernel)) rfl) (C.2.2.2.2.1 (.initialized RX5) (by decide +kernel)) (by decide +kernel) ⟨Nat.le_of_ble_eq_true rfl, Nat.le_of_ble_eq_true rfl⟩, rfl, C.2.2.2.2.1 (.instanceMethod yX5_init) (by decide +kernel)⟩ rfl (by first | exact Nat.le_of_ble_eq_true rfl | (simp [q_cat, q_catI, q_catJ, q_catR, q_catN]; done)) (by rw [hb27]; first | done | rfl) dX8_init_62 ⟨(by first | omega | (dsimp only; omega)), (by first | omega | (dsimp only; omega))⟩) (fun M26 h => ?_)
  refine q_pF (pc := 65) C hni h (.object "Lullabygate$Row") (T := TX8) tyX8 tyX8_ok nmX8 rfl (by decide +kernel) (q_nrO _ _) (q_ftO _ _) rfl (by decide) (wk_u rfl wm_X8_init uq_X8 (by decide +kernel)) (by decide +kernel) (fun _ h9 => h9) rfl rfl dX8_init_65 (fun M28 h => ?_)
  refine q_aload_n (pc := 68) C 0 0 dX8_init_68 rfl rfl ?_
  refine q_bipush (pc := 69) C 9 dX8_init_69 (by decide) ?_
  refine q_bipush (pc := 71) C 81 dX8_init_71 (by decide) ?_
  obtain ⟨hbk, h⟩ := h
  refine q_mna (pc := 73) C h (by decide +kernel) (by decide +kernel) 95 (by decide +kernel) (by decide) (by decide) (by first | omega | (dsimp only; omega)) (by first | omega | (dsimp only; omega)) dX8_init_73 (fun q29 M30 h => ?_)
  refine q_pF (pc := 77) C hni h (.array (.array .int)) (T := TX8) tyX8 tyX8_ok nmX8 rfl (by decide +kernel) (q_nrA _ _) (q_ftA _ _) rfl (by decide) (wk_u rfl wm_X8_init uq_X8 (by decide +kernel)) (by decide +kernel) (fun _ h9 => h9) rfl rfl dX8_init_77 (fun M31 h => ?_)
  refine q_aload_n (pc := 80) C 0 0 dX8_init_80 rfl rfl ?_
  refine q_bipush (pc := 81) C 6 dX8_init_81 (by decide) ?_
  obtain ⟨hbk, h⟩ := h
  refine q_newI (pc := 83) C h (ty := .int) rfl (ak := 0) rfl (by decide) (by decide) rfl (by decide) (fun _ => m_raI) (by decide +kernel) (by first | omega | (dsimp only; omega)) (by first | omega | (dsimp only; omega)) dX8_init_83 (fun q32 M33 h => ?_)
  refine q_pF (pc := 85) C hni h (.array .int) (T := TX8) tyX8 tyX8_ok nmX8 rfl (by decide +kernel) (q_nrA _ _) (q_ftA _ _) rfl (by decide) (wk_u rfl wm_X8_init uq_X8 (by decide +kernel)) (by decide +kernel) (fun _ h9 => h9) rfl rfl dX8_init_85 (fun M34 h => ?_)
  refine q_iconst (pc := 88) C 0 dX8_init_88 (by decide) ?_
  refine q_istore_n (pc := 89) C 1 [(1, .int 0), (0, va_rf l0)] dX8_init_89 rfl (by decide) (by first | rfl | simp [q_cat, q_catI, q_catJ, q_catR, q_catN]) ?_
  refine q_lv [1, 0] rfl ?_
  obtain ⟨f9, h⟩ := h
  exact tX8_init_90 C hr hlocks hg hni f9 _ _ _ _ _ h
set_option maxRecDepth 100000 in
set_option maxHeartbeats 4000000 in
theorem kX8_init (l : Launch) (G : mG) (b0 : Nat) {g : Nat → Nat} (hg : G.2.2 = g) {b : Nat} {M : mM} {κ : mM → Prop} (h : wX8_init g κ (some b) M) : Met l yX8_init wsX8_init ({ frames := 4, cells := 26, slots := 900, locals := 80 } : Room) (va_Pc [.ref b] (m_Pre G b0 M)) (va_Qv κ (m_B G b0) (fun q => b0 ≤ q)) 26 900 (fun q => b0 ≤ q) := by
  refine m_met (cc := cX8_init) (maxL := 2) (ret := none) (lv := [(0, va_rf (some b))]) RX8 rfl (by decide +kernel) rfl (by first | exact Nat.le_of_ble_eq_true rfl | simp [lg_sl, q_cat, q_catI, q_catJ, q_catR, q_catN]) (by first | rfl | (simp [lv_args, q_cat, q_catI, q_catJ, q_catR, q_catN]; done) | (simp [lv_args, q_cat, q_catI, q_catJ, q_catR, q_catN]; rfl)) ?_
  intro p e s m args below meth c C hr hlocks hni
  exact tX8_init C hr hlocks hg hni h
/-! X8_queue -/
set_option maxRecDepth 100000 in
set_option maxHeartbeats 4000000 in
theorem tX8_queue_94 {p : Program} {l : Launch} {e : Env} {s : State} {m : MethodId} {args : Array Value} {below : List Frame} {meth : Method} {c : Code} {G : mG} {b0 : Nat} (C : m_C p s m args c cX8_queue 6 RX8 wsX8_queue G b0) (hr : meth.sig.returnType = (some (.object "java/lang/String"))) (hlocks : meth.locks = false) {t : Nat} (hL : l.stackTraces = false) (hx : ∀ x ∈ c.exceptionTable.toList, False) {g : Nat → Nat} (hg : G.2.2 = g) {κ : Option Nat → mM → Prop} {ξ : String → mM → Prop} (ht : ∀ E M, ξ E M → 1 ≤ t) {R31 : Nat → Nat → Option Nat → Option Nat → Int32 → mM → Prop} (hR31 : ∀ (k9 n9 : Nat) (l2 : Option Nat) (l3 : Option Nat) (l4 : Int32) (M : mM), R31 k9 n9 l2 l3 l4 M → m_W p l e ({ frames := 7, cells := (80 + 1 * t), slots := (600 + 6 * t), locals := 154 } : Room) s m args below meth c G b0 (vx_MQ below (va_Qq κ (m_B G b0) (fun q => b0 ≤ q)) (m_X G b0 ξ) args s (80 + 1 * t) (600 + 6 * t) (fun q => b0 ≤ q)) 6 M (k9 + 1 * t) (n9 + 6 * t) 31 [(2, va_rf l2), (3, va_rf l3), (4, .int l4)] []) {k9 n9 : Nat} {l2 : Option Nat} {l3 : Option Nat} {l4 : Int32} {M : mM} (h : wX8_queue_94 g κ ξ R31 k9 n9 l2 l3 l4 M) : m_W p l e ({ frames := 7, cells := (80 + 1 * t), slots := (600 + 6 * t), locals := 154 } : Room) s m args below meth c G b0 (vx_MQ below (va_Qq κ (m_B G b0) (fun q => b0 ≤ q)) (m_X G b0 ξ) args s (80 + 1 * t) (600 + 6 * t) (fun q => b0 ≤ q)) 6 M (k9 + 1 * t) (n9 + 6 * t) 94 [(2, va_rf l2), (3, va_rf l3), (4, .int l4)] [] := by
  unfold wX8_queue_94 at h
  obtain ⟨hbk, h⟩ := h
  refine q_iinc (pc := 94) C 4 2 (l4 + 1) [(4, .int (l4 + 1)), (2, va_rf l2), (3, va_rf l3)] dX8_queue_94 rfl (by rfl) (by decide) (by first | rfl | simp [q_cat, q_catI, q_catJ, q_catR, q_catN]) ?_
  refine q_goto (pc := 97) C 31 dX8_queue_97 (by decide) ?_
  refine q_widen (k2 := (k9 + 1 * t)) (n2 := (n9 + 6 * t)) (by omega) (by omega) ?_
  refine q_lv [1, 2, 0] rfl ?_
  exact hR31 _ _ _ _ _ _ h
set_option maxRecDepth 100000 in
set_option maxHeartbeats 4000000 in
theorem tX8_queue_69 {p : Program} {l : Launch} {e : Env} {s : State} {m : MethodId} {args : Array Value} {below : List Frame} {meth : Method} {c : Code} {G : mG} {b0 : Nat} (C : m_C p s m args c cX8_queue 6 RX8 wsX8_queue G b0) (hr : meth.sig.returnType = (some (.object "java/lang/String"))) (hlocks : meth.locks = false) {t : Nat} (hL : l.stackTraces = false) (hx : ∀ x ∈ c.exceptionTable.toList, False) {g : Nat → Nat} (hg : G.2.2 = g) {κ : Option Nat → mM → Prop} {ξ : String → mM → Prop} (ht : ∀ E M, ξ E M → 1 ≤ t) {R31 : Nat → Nat → Option Nat → Option Nat → Int32 → mM → Prop} (hR31 : ∀ (k9 n9 : Nat) (l2 : Option Nat) (l3 : Option Nat) (l4 : Int32) (M : mM), R31 k9 n9 l2 l3 l4 M → m_W p l e ({ frames := 7, cells := (80 + 1 * t), slots := (600 + 6 * t), locals := 154 } : Room) s m args below meth c G b0 (vx_MQ below (va_Qq κ (m_B G b0) (fun q => b0 ≤ q)) (m_X G b0 ξ) args s (80 + 1 * t) (600 + 6 * t) (fun q => b0 ≤ q)) 6 M (k9 + 1 * t) (n9 + 6 * t) 31 [(2, va_rf l2), (3, va_rf l3), (4, .int l4)] []) {k9 n9 : Nat} {l2 : Option Nat} {l3 : Option Nat} {l4 : Int32} {l5 : Option Nat} {M : mM} (h : wX8_queue_69 g κ ξ R31 k9 n9 l2 l3 l4 l5 M) : m_W p l e ({ frames := 7, cells := (80 + 1 * t), slots := (600 + 6 * t), locals := 154 } : Room) s m args below meth c G b0 (vx_MQ below (va_Qq κ (m_B G b0) (fun q => b0 ≤ q)) (m_X G b0 ξ) args s (80 + 1 * t) (600 + 6 * t) (fun q => b0 ≤ q)) 6 M (k9 + 1 * t) (n9 + 6 * t) 69 [(2, va_rf l2), (3, va_rf l3), (4, .int l4), (5, va_rf l5)] [] := by
  unfold wX8_queue_69 at h
  obtain ⟨hbk, h⟩ := h
  refine q_aload_n (pc := 69) C 3 1 dX8_queue_69 rfl rfl ?_
  refine q_aload (pc := 70) C 5 3 dX8_queue_70 rfl ?_
  refine q_gI (pc := 72) C h (T := TX6) rfl (by decide) (wk_u bm_X8_queue wm_X8_queue uq_X6 (by decide +kernel)) (by decide +kernel) (fun _ h9 => h9) dX8_queue_72 (fun x1 h => ?_)
  obtain ⟨K2, B3, h⟩ := h
  obtain ⟨hbk, h⟩ := h
  obtain ⟨b6, fs9, hb6, hm9, h⟩ := h
  refine q_cq (pc := 75) (q_rV C (st := []) (b := b6) (kJ4_append_bf812 l G b0 hg h) (cwV 1 C.2.2.2.2.1 gX8_queue_J4_append_bf812 rfl rfl rfl (by decide +kernel) ⟨Nat.le_of_ble_eq_true rfl, Nat.le_of_ble_eq_true rfl⟩) hm9 rfl rfl rfl (by first | exact Nat.le_of_ble_eq_true rfl | (simp [q_cat, q_catI, q_catJ, q_catR, q_catN]; done)) (by rw [hb6]; first | done | rfl) dX8_queue_75 ⟨(by first | omega | (dsimp only; omega)), (by first | omega | (dsimp only; omega))⟩) (fun x4 M5 h => ?_)
  refine q_pop (pc := 78) C dX8_queue_78 (q_cat _) ?_
  refine q_aload (pc := 79) C 5 3 dX8_queue_79 rfl ?_
  refine q_gI (pc := 81) C h (T := TX6) rfl (by decide) (wk_u bm_X8_queue wm_X8_queue uq_X6 (by decide +kernel)) (by decide +kernel) (fun _ h9 => h9) dX8_queue_81 (fun x7 h => ?_)
  refine q_if_eq (pc := 84) C 94 dX8_queue_84 (by decide) (fun c8 => ?_) (fun c8 => ?_)
  · have h := h.1 c8
    refine q_widen (k2 := ((k9 + K2) + 1 * t)) (n2 := ((n9 + B3) + 6 * t)) (by omega) (by omega) ?_
    refine q_lv [0, 1, 2] rfl ?_
    exact tX8_queue_94 C hr hlocks hL hx hg ht hR31 h
  · have h := h.2 c8
    refine q_aload_n (pc := 87) C 3 1 dX8_queue_87 rfl rfl ?_
    refine q_bipush (pc := 88) C 98 dX8_queue_88 (by decide) ?_
    obtain ⟨K9, B10, h⟩ := h
    obtain ⟨hbk, h⟩ := h
    obtain ⟨b13, fs9, hb13, hm9, h⟩ := h
    refine q_cq (pc := 90) (q_rV C (st := []) (b := b13) (kJ4_append_cf468 l G b0 hg h) (cwV 1 C.2.2.2.2.1 gX8_queue_J4_append_cf468 rfl rfl rfl (by decide +kernel) ⟨Nat.le_of_ble_eq_true rfl, Nat.le_of_ble_eq_true rfl⟩) hm9 rfl rfl rfl (by first | exact Nat.le_of_ble_eq_true rfl | (simp [q_cat, q_catI, q_catJ, q_catR, q_catN]; done)) (by rw [hb13]; first | done | rfl) dX8_queue_90 ⟨(by first | omega | (dsimp only; omega)), (by first | omega | (dsimp only; omega))⟩) (fun x11 M12 h => ?_)
    refine q_pop (pc := 93) C dX8_queue_93 (q_cat _) ?_
    refine q_widen (k2 := (((k9 + K2) + K9) + 1 * t)) (n2 := (((n9 + B3) + B10) + 6 * t)) (by omega) (by omega) ?_
    refine q_lv [0, 1, 2] rfl ?_
    exact tX8_queue_94 C hr hlocks hL hx hg ht hR31 h
set_option maxRecDepth 100000 in
set_option maxHeartbeats 4000000 in
theorem tX8_queue_31 {p : Program} {l : Launch} {e : Env} {s : State} {m : MethodId} {args : Array Value} {below : List Frame} {meth : Method} {c : Code} {G : mG} {b0 : Nat} (C : m_C p s m args c cX8_queue 6 RX8 wsX8_queue G b0) (hr : meth.sig.returnType = (some (.object "java/lang/String"))) (hlocks : meth.locks = false) {t : Nat} (hL : l.stackTraces = false) (hx : ∀ x ∈ c.exceptionTable.toList, False) {g : Nat → Nat} (hg : G.2.2 = g) {κ : Option Nat → mM → Prop} {ξ : String → mM → Prop} (ht : ∀ E M, ξ E M → 1 ≤ t) : ∀ (f : Nat) (k9 n9 : Nat) (l2 : Option Nat) (l3 : Option Nat) (l4 : Int32) (M : mM), wX8_queue_31 g κ ξ f k9 n9 l2 l3 l4 M → m_W p l e ({ frames := 7, cells := (80 + 1 * t), slots := (600 + 6 * t), locals := 154 } : Room) s m args below meth c G b0 (vx_MQ below (va_Qq κ (m_B G b0) (fun q => b0 ≤ q)) (m_X G b0 ξ) args s (80 + 1 * t) (600 + 6 * t) (fun q => b0 ≤ q)) 6 M (k9 + 1 * t) (n9 + 6 * t) 31 [(2, va_rf l2), (3, va_rf l3), (4, .int l4)] [] := by
  intro f
  induction f with
  | zero =>
    intro k9 n9 l2 l3 l4 M h
    exact absurd h (by simp [wX8_queue_31])
  | succ f ih =>
    intro k9 n9 l2 l3 l4 M h
    rw [wX8_queue_31] at h
    obtain ⟨hbk, h⟩ := h
    refine q_iload (pc := 31) C 4 2 dX8_queue_31 rfl ?_
    refine q_aload_n (pc := 33) C 2 0 dX8_queue_33 rfl rfl ?_
    refine q_gR (pc := 34) C h (T := TX0) rfl (by decide) (wk_u bm_X8_queue wm_X8_queue uq_X0 (by decide +kernel)) (by decide +kernel) (fun _ h9 => h9) dX8_queue_34 (fun x1 h => ?_)
    obtain ⟨b4, fs9, hb4, hm9, h⟩ := h
    refine q_ci (pc := 37) (q_rV C (st := [.int l4]) (b := b4) (kJx4a65c_size_8abf5 l G b0 h) (cwV 0 C.2.2.2.2.1 gX8_queue_Jx4a65c_size_8abf5 rfl rfl rfl (by decide +kernel) ⟨Nat.le_of_ble_eq_true rfl, Nat.le_of_ble_eq_true rfl⟩) hm9 rfl rfl rfl (by first | exact Nat.le_of_ble_eq_true rfl | (simp [q_cat, q_catI, q_catJ, q_catR, q_catN]; done)) (by rw [hb4]; first | done | rfl) dX8_queue_37 ⟨(by first | omega | (dsimp only; omega)), (by first | omega | (dsimp only; omega))⟩) (fun x2 M3 h => ?_)
    refine q_icmp_ge (pc := 40) C 100 dX8_queue_40 (by decide) (fun c5 => ?_) (fun c5 => ?_)
    · have h := h.1 c5
      refine q_aload_n (pc := 100) C 3 1 dX8_queue_100 rfl rfl ?_
      obtain ⟨K6, B7, h⟩ := h
      obtain ⟨hbk, h⟩ := h
      obtain ⟨b10, fs9, hb10, hm9, h⟩ := h
      refine q_cq (pc := 101) (q_rV C (st := []) (b := b10) (kJ4_toString_0e30d l G b0 hg h) (cwV 0 C.2.2.2.2.1 gX8_queue_J4_toString_0e30d rfl rfl rfl (by decide +kernel) ⟨Nat.le_of_ble_eq_true rfl, Nat.le_of_ble_eq_true rfl⟩) hm9 rfl rfl rfl (by first | exact Nat.le_of_ble_eq_true rfl | (simp [q_cat, q_catI, q_catJ, q_catR, q_catN]; done)) (by rw [hb10]; first | done | rfl) dX8_queue_101 ⟨(by first | omega | (dsimp only; omega)), (by first | omega | (dsimp only; omega))⟩) (fun x8 M9 h => ?_)
      obtain ⟨hbk, h⟩ := h
      exact q_aretX (pc := 104) C hr (by first | exact Or.inl ⟨_, rfl⟩ | exact Or.inr ⟨_, rfl⟩) hlocks h dX8_queue_104 (by omega) (by omega)
    · have h := h.2 c5
      refine q_aload_n (pc := 43) C 2 0 dX8_queue_43 rfl rfl ?_
      refine q_gR (pc := 44) C h (T := TX0) rfl (by decide) (wk_u bm_X8_queue wm_X8_queue uq_X0 (by decide +kernel)) (by decide +kernel) (fun _ h9 => h9) dX8_queue_44 (fun x11 h => ?_)
      refine q_iload (pc := 47) C 4 2 dX8_queue_47 rfl ?_
      obtain ⟨b14, fs9, hb14, hm9, h⟩ := h
      refine q_cq (pc := 49) (q_rV C (st := []) (b := b14) (kJx4a65c_get_915e3 l G b0 h) (cwV 1 C.2.2.2.2.1 gX8_queue_Jx4a65c_get_915e3 rfl rfl rfl (by decide +kernel) ⟨Nat.le_of_ble_eq_true rfl, Nat.le_of_ble_eq_true rfl⟩) hm9 rfl rfl rfl (by first | exact Nat.le_of_ble_eq_true rfl | (simp [q_cat, q_catI, q_catJ, q_catR, q_catN]; done)) (by rw [hb14]; first | done | rfl) dX8_queue_49 ⟨(by first | omega | (dsimp only; omega)), (by first | omega | (dsimp only; omega))⟩) (fun x12 M13 h => ?_)
      refine q_cast (pc := 52) C h rfl rfl (by decide +kernel) dX8_queue_52 (fun h => ?_)
      refine q_astore (pc := 55) C 5 [(5, va_rf x12), (2, va_rf l2), (3, va_rf l3), (4, .int l4)] dX8_queue_55 (by decide) (by first | rfl | simp [q_cat, q_catI, q_catJ, q_catR, q_catN]) ?_
      refine q_iload (pc := 57) C 4 3 dX8_queue_57 rfl ?_
      refine q_if_le (pc := 59) C 69 dX8_queue_59 (by decide) (fun c15 => ?_) (fun c15 => ?_)
      · have h := h.1 c15
        refine q_widen (k2 := (k9 + 1 * t)) (n2 := (n9 + 6 * t)) (by omega) (by omega) ?_
        refine q_lv [1, 2, 3, 0] rfl ?_
        exact tX8_queue_69 C hr hlocks hL hx hg ht ih h
      · have h := h.2 c15
        refine q_aload_n (pc := 62) C 3 2 dX8_queue_62 rfl rfl ?_
        refine q_bipush (pc := 63) C 32 dX8_queue_63 (by decide) ?_
        obtain ⟨K16, B17, h⟩ := h
        obtain ⟨hbk, h⟩ := h
        obtain ⟨b20, fs9, hb20, hm9, h⟩ := h
        refine q_cq (pc := 65) (q_rV C (st := []) (b := b20) (kJ4_append_cf468 l G b0 hg h) (cwV 1 C.2.2.2.2.1 gX8_queue_J4_append_cf468 rfl rfl rfl (by decide +kernel) ⟨Nat.le_of_ble_eq_true rfl, Nat.le_of_ble_eq_true rfl⟩) hm9 rfl rfl rfl (by first | exact Nat.le_of_ble_eq_true rfl | (simp [q_cat, q_catI, q_catJ, q_catR, q_catN]; done)) (by rw [hb20]; first | done | rfl) dX8_queue_65 ⟨(by first | omega | (dsimp only; omega)), (by first | omega | (dsimp only; omega))⟩) (fun x18 M19 h => ?_)
        refine q_pop (pc := 68) C dX8_queue_68 (q_cat _) ?_
        refine q_widen (k2 := ((k9 + K16) + 1 * t)) (n2 := ((n9 + B17) + 6 * t)) (by omega) (by omega) ?_
        refine q_lv [1, 2, 3, 0] rfl ?_
        exact tX8_queue_69 C hr hlocks hL hx hg ht ih h
set_option maxRecDepth 100000 in
set_option maxHeartbeats 4000000 in
theorem tX8_queue {p : Program} {l : Launch} {e : Env} {s : State} {m : MethodId} {args : Array Value} {below : List Frame} {meth : Method} {c : Code} {G : mG} {b0 : Nat} (C : m_C p s m args c cX8_queue 6 RX8 wsX8_queue G b0) (hr : meth.sig.returnType = (some (.object "java/lang/String"))) (hlocks : meth.locks = false) {t : Nat} (hL : l.stackTraces = false) (hx : ∀ x ∈ c.exceptionTable.toList, False) {g : Nat → Nat} (hg : G.2.2 = g) {κ : Option Nat → mM → Prop} {ξ : String → mM → Prop} (ht : ∀ E M, ξ E M → 1 ≤ t) {l0 : Option Nat} {l1 : Int32} {M : mM} (h : wX8_queue g κ ξ l0 l1 M) : m_W p l e ({ frames := 7, cells := (80 + 1 * t), slots := (600 + 6 * t), locals := 154 } : Room) s m args below meth c G b0 (vx_MQ below (va_Qq κ (m_B G b0) (fun q => b0 ≤ q)) (m_X G b0 ξ) args s (80 + 1 * t) (600 + 6 * t) (fun q => b0 ≤ q)) 6 M 0 0 0 [(0, va_rf l0), (1, .int l1)] [] := by
  unfold wX8_queue at h
  refine q_aload_n (pc := 0) C 0 0 dX8_queue_0 rfl rfl ?_
  refine q_iload_n (pc := 1) C 1 1 dX8_queue_1 rfl rfl ?_
  obtain ⟨b3, fs9, hb3, hm9, h⟩ := h
  refine q_cXq (pc := 2) (q_rVX C (st := []) (b := b3) (kX8_gateNumbered l G b0 (t := t) hL ht h) (cwV 1 C.2.2.2.2.1 gX8_queue_X8_gateNumbered rfl rfl rfl (by decide +kernel) ⟨Nat.le_of_ble_eq_true rfl, Nat.le_of_ble_eq_true rfl⟩) hm9 rfl rfl rfl (by first | exact Nat.le_of_ble_eq_true rfl | (simp [q_cat, q_catI, q_catJ, q_catR, q_catN]; done)) (by rw [hb3]; first | done | rfl) dX8_queue_2 ⟨(by first | omega | (dsimp only; omega)), (by first | omega | (dsimp only; omega))⟩) (fun E9 M9 h9 => q_out C hx hlocks h9 (by omega) (by omega)) (fun x1 M2 h => ?_)
  refine q_astore_n (pc := 5) C 2 [(2, va_rf x1), (0, va_rf l0), (1, .int l1)] dX8_queue_5 rfl (by decide) (by first | rfl | simp [q_cat, q_catI, q_catJ, q_catR, q_catN]) ?_
  refine q_aload_n (pc := 6) C 2 0 dX8_queue_6 rfl rfl ?_
  refine q_gR (pc := 7) C h (T := TX0) rfl (by decide) (wk_u bm_X8_queue wm_X8_queue uq_X0 (by decide +kernel)) (by decide +kernel) (fun _ h9 => h9) dX8_queue_7 (fun x4 h => ?_)
  obtain ⟨b7, fs9, hb7, hm9, h⟩ := h
  refine q_ci (pc := 10) (q_rV C (st := []) (b := b7) (kJx4a65c_isEmpty_aae02 l G b0 h) (cwV 0 C.2.2.2.2.1 gX8_queue_Jx4a65c_isEmpty_aae02 rfl rfl rfl (by decide +kernel) ⟨Nat.le_of_ble_eq_true rfl, Nat.le_of_ble_eq_true rfl⟩) hm9 rfl rfl rfl (by first | exact Nat.le_of_ble_eq_true rfl | (simp [q_cat, q_catI, q_catJ, q_catR, q_catN]; done)) (by rw [hb7]; first | done | rfl) dX8_queue_10 ⟨(by first | omega | (dsimp only; omega)), (by first | omega | (dsimp only; omega))⟩) (fun x5 M6 h => ?_)
  refine q_if_eq (pc := 13) C 20 dX8_queue_13 (by decide) (fun c8 => ?_) (fun c8 => ?_)
  · have h := h.1 c8
    obtain ⟨hbk, h⟩ := h
    refine q_new (pc := 20) C h rfl (T := TJ4) tyJ4 tyJ4_ok rfl (by decide +kernel) (by decide +kernel) (by decide +kernel) (by decide +kernel) (fun j hj => by rcases (show j = 0 ∨ j = 1 ∨ j = 2 ∨ j = 3 by omega) with rfl | rfl | rfl | rfl <;> rfl) (by first | omega | (dsimp only; omega)) (by first | omega | (dsimp only; omega)) dX8_queue_20 (fun q9 M10 h => ?_)
    refine q_dup (pc := 23) C dX8_queue_23 (q_cat _) ?_
    obtain ⟨K11, B12, h⟩ := h
    obtain ⟨hbk, h⟩ := h
    obtain ⟨b14, fs9, hb14, hm9, h⟩ := h
    refine q_cv (pc := 24) (q_rI C (st := [va_rf (some q9)]) (b := b14) (kJ4_init_da8c8 l G b0 hg h) (cwI 0 C.2.2.2.2.1 gX8_queue_J4_init_da8c8 rfl rfl rfl (C.2.2.2.2.1 (.initialized RJ4) (by decide +kernel)) (C.2.2.2.2.1 (.methodLink RX8 340 yJ4_init_da8c8) (by decide +kernel)) (C.2.2.2.2.1 (.instanceMethod yJ4_init_da8c8) (by decide +kernel)) rfl (by decide +kernel) ⟨Nat.le_of_ble_eq_true rfl, Nat.le_of_ble_eq_true rfl⟩) rfl (by first | exact Nat.le_of_ble_eq_true rfl | (simp [q_cat, q_catI, q_catJ, q_catR, q_catN]; done)) (by rw [hb14]; first | done | rfl) dX8_queue_24 ⟨(by first | omega | (dsimp only; omega)), (by first | omega | (dsimp only; omega))⟩) (fun M13 h => ?_)
    refine q_astore_n (pc := 27) C 3 [(3, va_rf (some q9)), (2, va_rf x1), (0, va_rf l0), (1, .int l1)] dX8_queue_27 rfl (by decide) (by first | rfl | simp [q_cat, q_catI, q_catJ, q_catR, q_catN]) ?_
    refine q_iconst (pc := 28) C 0 dX8_queue_28 (by decide) ?_
    refine q_istore (pc := 29) C 4 [(4, .int 0), (3, va_rf (some q9)), (2, va_rf x1), (0, va_rf l0), (1, .int l1)] dX8_queue_29 (by decide) (by first | rfl | simp [q_cat, q_catI, q_catJ, q_catR, q_catN]) ?_
    refine q_widen (k2 := (((0 + 1) + K11) + 1 * t)) (n2 := (((0 + 4) + B12) + 6 * t)) (by omega) (by omega) ?_
    refine q_lv [2, 1, 0] rfl ?_
    obtain ⟨f9, h⟩ := h
    exact tX8_queue_31 C hr hlocks hL hx hg ht f9 _ _ _ _ _ _ h
  · have h := h.2 c8
    refine q_ldcwS (pc := 16) C hg (List.mem_of_getElem? (i := 0) rfl) dX8_queue_16 ?_
    obtain ⟨hbk, h⟩ := h
    exact q_aretX (pc := 19) C hr (by first | exact Or.inl ⟨_, rfl⟩ | exact Or.inr ⟨_, rfl⟩) hlocks h dX8_queue_19 (by omega) (by omega)
set_option maxRecDepth 100000 in
set_option maxHeartbeats 4000000 in
theorem kX8_queue (l : Launch) (G : mG) (b0 : Nat) {t : Nat} (hL : l.stackTraces = false) {g : Nat → Nat} (hg : G.2.2 = g) {b : Nat} {l1 : Int32} {M : mM} {κ : Option Nat → mM → Prop} {ξ : String → mM → Prop} (ht : ∀ E M, ξ E M → 1 ≤ t) (h : wX8_queue g κ ξ (some b) l1 M) : vx_Met l yX8_queue wsX8_queue ({ frames := 7, cells := (80 + 1 * t), slots := (600 + 6 * t), locals := 154 } : Room) (va_Pc [.ref b, .int l1] (m_Pre G b0 M)) (va_Qq κ (m_B G b0) (fun q => b0 ≤ q)) (m_X G b0 ξ) (80 + 1 * t) (600 + 6 * t) (fun q => b0 ≤ q) := by
  refine m_metX (cc := cX8_queue) (maxL := 6) (ret := (some (.object "java/lang/String"))) (lv := [(0, va_rf (some b)), (1, .int l1)]) RX8 rfl (by decide +kernel) rfl (by first | exact Nat.le_of_ble_eq_true rfl | simp [lg_sl, q_cat, q_catI, q_catJ, q_catR, q_catN]) (by first | rfl | (simp [lv_args, q_cat, q_catI, q_catJ, q_catR, q_catN]; done) | (simp [lv_args, q_cat, q_catI, q_catJ, q_catR, q_catN]; rfl)) ?_
  intro p e s m args below meth c C hr hlocks hx
  exact tX8_queue C hr hlocks hL hx hg ht h
