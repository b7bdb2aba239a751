/-! X14_init -/
set_option maxRecDepth 100000 in
set_option maxHeartbeats 4000000 in
theorem tX14_init_73 {p : Program} {l : Launch} {e : Env} {s : State} {m : MethodId} {args : Array Value} {below : List Frame} {meth : Method} {c : Code} {G : mG} {b0 : Nat} (C : m_C p s m args c cX14_init 2 RX14 wsX14_init G b0) (hr : meth.sig.returnType = none) (hlocks : meth.locks = false) {g : Nat → Nat} (hg : G.2.2 = g) (hni : meth.name = "<init>") {κ : mM → Prop} : ∀ (f : Nat) (k9 n9 : Nat) (l0 : Option Nat) (l1 : Int32) (M : mM), wX14_init_73 g κ f k9 n9 l0 l1 M → m_W p l e ({ frames := 4, cells := 13, slots := 870, locals := 80 } : Room) s m args below meth c G b0 (MQ below (va_Qv κ (m_B G b0) (fun q => b0 ≤ q)) args s 13 870 (fun q => b0 ≤ q)) 2 M k9 n9 73 [(0, va_rf l0), (1, .int l1)] [] := by
  intro f
  induction f with
  | zero =>
    intro k9 n9 l0 l1 M h
    exact absurd h (by simp [wX14_init_73])
  | succ f ih =>
    intro k9 n9 l0 l1 M h
    rw [wX14_init_73] at h
    obtain ⟨hbk, h⟩ := h
    refine q_iload_n (pc := 73) C 1 1 dX14_init_73 rfl rfl ?_
    refine q_bipush (pc := 74) C 6 dX14_init_74 (by decide) ?_
    refine q_icmp_ge (pc := 76) C 98 dX14_init_76 (by decide) (fun c1 => ?_) (fun c1 => ?_)
    · have h := h.1 c1
      obtain ⟨hbk, h⟩ := h
      exact q_vret (pc := 98) C hr hlocks h dX14_init_98 (by omega) (by omega)
    · have h := h.2 c1
      refine q_aload_n (pc := 79) C 0 0 dX14_init_79 rfl rfl ?_
      refine q_gR (pc := 80) C h (T := TX14) rfl (by decide) (wk_u rfl wm_X14_init uq_X14 (by decide +kernel)) (by decide +kernel) (fun _ h9 => h9) dX14_init_80 (fun x2 h => ?_)
      refine q_iload_n (pc := 83) C 1 1 dX14_init_83 rfl rfl ?_
      obtain ⟨hbk, h⟩ := h
      refine q_new (pc := 84) C h rfl (T := TX11) tyX11 tyX11_ok rfl (by decide +kernel) (by decide +kernel) (by decide +kernel) (by decide +kernel) (fun j hj => by rcases (show j = 0 ∨ j = 1 ∨ j = 2 ∨ j = 3 ∨ j = 4 ∨ j = 5 by omega) with rfl | rfl | rfl | rfl | rfl | rfl <;> rfl) (by first | omega | (dsimp only; omega)) (by first | omega | (dsimp only; omega)) dX14_init_84 (fun q3 M4 h => ?_)
      refine q_dup (pc := 87) C dX14_init_87 (q_cat _) ?_
      obtain ⟨b6, fs9, hb6, hm9, h⟩ := h
      refine q_cv (pc := 88) (q_rIN C (st := [va_rf (some q3), .int l1, va_rf x2]) (b := b6) (kX11_init l G b0 h) ⟨va_cnB (host := "LullabygateModel") 0 C.2.2.2.2.1 gX14_init_X11_init_n39 rfl rfl rfl (C.2.2.2.2.2.2.1.1 _ (List.mem_of_getElem? (i := 1314) (by decide +kernel)) rfl) (C.2.2.2.2.1 (.initialized RX11) (by decide +kernel)) (by decide +kernel) ⟨Nat.le_of_ble_eq_true rfl, Nat.le_of_ble_eq_true rfl⟩, rfl, C.2.2.2.2.1 (.instanceMethod yX11_init) (by decide +kernel)⟩ rfl (by first | exact Nat.le_of_ble_eq_true rfl | (simp [q_cat, q_catI, q_catJ, q_catR, q_catN]; done)) (by rw [hb6]; first | done | rfl) dX14_init_88 ⟨(by first | omega | (dsimp only; omega)), (by first | omega | (dsimp only; omega))⟩) (fun M5 h => ?_)
      refine q_aast (pc := 91) C h (by decide) dX14_init_91 (fun M7 h => ?_)
      refine q_iinc (pc := 92) C 1 1 (l1 + 1) [(1, .int (l1 + 1)), (0, va_rf l0)] dX14_init_92 rfl (by rfl) (by decide) (by first | rfl | simp [q_cat, q_catI, q_catJ, q_catR, q_catN]) ?_
      refine q_goto (pc := 95) C 73 dX14_init_95 (by decide) ?_
      refine q_lv [1, 0] rfl ?_
      exact ih _ _ _ _ _ h
set_option maxRecDepth 100000 in
set_option maxHeartbeats 4000000 in
theorem tX14_init {p : Program} {l : Launch} {e : Env} {s : State} {m : MethodId} {args : Array Value} {below : List Frame} {meth : Method} {c : Code} {G : mG} {b0 : Nat} (C : m_C p s m args c cX14_init 2 RX14 wsX14_init G b0) (hr : meth.sig.returnType = none) (hlocks : meth.locks = false) {g : Nat → Nat} (hg : G.2.2 = g) (hni : meth.name = "<init>") {κ : mM → Prop} {l0 : Option Nat} {M : mM} (h : wX14_init g κ l0 M) : m_W p l e ({ frames := 4, cells := 13, slots := 870, locals := 80 } : Room) s m args below meth c G b0 (MQ below (va_Qv κ (m_B G b0) (fun q => b0 ≤ q)) args s 13 870 (fun q => b0 ≤ q)) 2 M 0 0 0 [(0, va_rf l0)] [] := by
  unfold wX14_init at h
  refine q_aload_n (pc := 0) C 0 0 dX14_init_0 rfl rfl ?_
  obtain ⟨b9, hb9, h⟩ := h
  refine q_objInit (pc := 1) C hb9 (by decide +kernel) (by decide +kernel) (by decide +kernel) dX14_init_1 (Nat.le_of_ble_eq_true rfl) (by first | exact Nat.le_of_ble_eq_true rfl | (simp [q_cat, q_catI, q_catJ, q_catR, q_catN]; done) | (simp [q_cat, q_catI, q_catJ, q_catR, q_catN]; decide)) ?_
  refine q_aload_n (pc := 4) C 0 0 dX14_init_4 rfl rfl ?_
  refine q_iconst (pc := 5) C 3 dX14_init_5 (by decide) ?_
  refine q_p (pc := 6) C h .int (T := TX14) tyX14 tyX14_ok nmX14 rfl (by decide +kernel) rfl rfl rfl (by decide) (wk_u rfl wm_X14_init uq_X14 (by decide +kernel)) (by decide +kernel) (fun _ h9 => h9) rfl dX14_init_6 (fun M1 h => ?_)
  refine q_aload_n (pc := 9) C 0 0 dX14_init_9 rfl rfl ?_
  refine q_bipush (pc := 10) C 6 dX14_init_10 (by decide) ?_
  obtain ⟨hbk, h⟩ := h
  refine q_newR (pc := 12) C h (E := "LullabygateModel$Land") (ak := 4) rfl (by decide) (by decide) (by decide +kernel) 1310 (by decide +kernel) (by first | omega | (dsimp only; omega)) (by first | omega | (dsimp only; omega)) dX14_init_12 (fun q2 M3 h => ?_)
  refine q_pF (pc := 15) C hni h (.array (.object "LullabygateModel$Land")) (T := TX14) tyX14 tyX14_ok nmX14 rfl (by decide +kernel) (q_nrA _ _) (q_ftA _ _) rfl (by decide) (wk_u rfl wm_X14_init uq_X14 (by decide +kernel)) (by decide +kernel) (fun _ h9 => h9) rfl rfl dX14_init_15 (fun M4 h => ?_)
  refine q_aload_n (pc := 18) C 0 0 dX14_init_18 rfl rfl ?_
  obtain ⟨hbk, h⟩ := h
  refine q_new (pc := 19) C h rfl (T := TJx4a65c) tyJx4a65c tyJx4a65c_ok rfl (by decide +kernel) (by decide +kernel) (by decide +kernel) (by decide +kernel) (fun j hj => by rcases (show j = 0 ∨ j = 1 ∨ j = 2 by omega) with rfl | rfl | rfl <;> rfl) (by first | omega | (dsimp only; omega)) (by first | omega | (dsimp only; omega)) dX14_init_19 (fun q5 M6 h => ?_)
  refine q_dup (pc := 22) C dX14_init_22 (q_cat _) ?_
  obtain ⟨b8, fs9, hb8, hm9, h⟩ := h
  refine q_cv (pc := 23) (q_rI C (st := [va_rf (some q5), va_rf l0]) (b := b8) (kJx4a65c_init_da8c8 l G b0 hg h) (cwI 0 C.2.2.2.2.1 gX14_init_Jx4a65c_init_da8c8 rfl rfl rfl (C.2.2.2.2.1 (.initialized RJx4a65c) (by decide +kernel)) (C.2.2.2.2.1 (.methodLink RX14 21 yJx4a65c_init_da8c8) (by decide +kernel)) (C.2.2.2.2.1 (.instanceMethod yJx4a65c_init_da8c8) (by decide +kernel)) rfl (by decide +kernel) ⟨Nat.le_of_ble_eq_true rfl, Nat.le_of_ble_eq_true rfl⟩) rfl (by first | exact Nat.le_of_ble_eq_true rfl | (simp [q_cat, q_catI, q_catJ, q_catR, q_catN]; done)) (by rw [hb8]; first | done | rfl) dX14_init_23 ⟨(by first | omega | (dsimp only; omega)), (by first | omega | (dsimp only; omega))⟩) (fun M7 h => ?_)
  refine q_pF (pc := 26) C hni h (.object "java/util/ArrayList") (T := TX14) tyX14 tyX14_ok nmX14 rfl (by decide +kernel) (q_nrO _ _) (q_ftO _ _) rfl (by decide) (wk_u rfl wm_X14_init uq_X14 (by decide +kernel)) (by decide +kernel) (fun _ h9 => h9) rfl rfl dX14_init_26 (fun M9 h => ?_)
  refine q_aload_n (pc := 29) C 0 0 dX14_init_29 rfl rfl ?_
  obtain ⟨hbk, h⟩ := h
  refine q_new (pc := 30) C h rfl (T := TJx4a65c) tyJx4a65c tyJx4a65c_ok rfl (by decide +kernel) (by decide +kernel) (by decide +kernel) (by decide +kernel) (fun j hj => by rcases (show j = 0 ∨ j = 1 ∨ j = 2 by omega) with rfl | rfl | rfl <;> rfl) (by first | omega | (dsimp only; omega)) (by first | omega | (dsimp only; omega)) dX14_init_30 (fun q10 M11 h => ?_)
  refine q_dup (pc := 33) C dX14_init_33 (q_cat _) ?_
  obtain ⟨b13, fs9, hb13, hm9, h⟩ := h
  refine q_cv (pc := 34) (q_rI C (st := [va_rf (some q10), va_rf l0]) (b := b13) (kJx4a65c_init_da8c8 l G b0 hg h) (cwI 0 C.2.2.2.2.1 gX14_init_Jx4a65c_init_da8c8 rfl rfl rfl (C.2.2.2.2.1 (.initialized RJx4a65c) (by decide +kernel)) (C.2.2.2.2.1 (.methodLink RX14 21 yJx4a65c_init_da8c8) (by decide +kernel)) (C.2.2.2.2.1 (.instanceMethod yJx4a65c_init_da8c8) (by decide +kernel)) rfl (by decide +kernel) ⟨Nat.le_of_ble_eq_true rfl, Nat.le_of_ble_eq_true rfl⟩) rfl (by first | exact Nat.le_of_ble_eq_true rfl | (simp [q_cat, q_catI, q_catJ, q_catR, q_catN]; done)) (by rw [hb13]; first | done | rfl) dX14_init_34 ⟨(by first | omega | (dsimp only; omega)), (by first | omega | (dsimp only; omega))⟩) (fun M12 h => ?_)
  refine q_pF (pc := 37) C hni h (.object "java/util/ArrayList") (T := TX14) tyX14 tyX14_ok nmX14 rfl (by decide +kernel) (q_nrO _ _) (q_ftO _ _) rfl (by decide) (wk_u rfl wm_X14_init uq_X14 (by decide +kernel)) (by decide +kernel) (fun _ h9 => h9) rfl rfl dX14_init_37 (fun M14 h => ?_)
  refine q_aload_n (pc := 40) C 0 0 dX14_init_40 rfl rfl ?_
  obtain ⟨hbk, h⟩ := h
  refine q_new (pc := 41) C h rfl (T := TJx4a65c) tyJx4a65c tyJx4a65c_ok rfl (by decide +kernel) (by decide +kernel) (by decide +kernel) (by decide +kernel) (fun j hj => by rcases (show j = 0 ∨ j = 1 ∨ j = 2 by omega) with rfl | rfl | rfl <;> rfl) (by first | omega | (dsimp only; omega)) (by first | omega | (dsimp only; omega)) dX14_init_41 (fun q15 M16 h => ?_)
  refine q_dup (pc := 44) C dX14_init_44 (q_cat _) ?_
  obtain ⟨b18, fs9, hb18, hm9, h⟩ := h
  refine q_cv (pc := 45) (q_rI C (st := [va_rf (some q15), va_rf l0]) (b := b18) (kJx4a65c_init_da8c8 l G b0 hg h) (cwI 0 C.2.2.2.2.1 gX14_init_Jx4a65c_init_da8c8 rfl rfl rfl (C.2.2.2.2.1 (.initialized RJx4a65c) (by decide +kernel)) (C.2.2.2.2.1 (.methodLink RX14 21 yJx4a65c_init_da8c8) (by decide +kernel)) (C.2.2.2.2.1 (.instanceMethod yJx4a65c_init_da8c8) (by decide +kernel)) rfl (by decide +kernel) ⟨Nat.le_of_ble_eq_true rfl, Nat.le_of_ble_eq_true rfl⟩) rfl (by first | exact Nat.le_of_ble_eq_true rfl | (simp [q_cat, q_catI, q_catJ, q_catR, q_catN]; done)) (by rw [hb18]; first | done | rfl) dX14_init_45 ⟨(by first | omega | (dsimp only; omega)), (by first | omega | (dsimp only; omega))⟩) (fun M17 h => ?_)
  refine q_pF (pc := 48) C hni h (.object "java/util/ArrayList") (T := TX14) tyX14 tyX14_ok nmX14 rfl (by decide +kernel) (q_nrO _ _) (q_ftO _ _) rfl (by decide) (wk_u rfl wm_X14_init uq_X14 (by decide +kernel)) (by decide +kernel) (fun _ h9 => h9) rfl rfl dX14_init_48 (fun M19 h => ?_)
  refine q_aload_n (pc := 51) C 0 0 dX14_init_51 rfl rfl ?_
  obtain ⟨hbk, h⟩ := h
  refine q_new (pc := 52) C h rfl (T := TJx4a65c) tyJx4a65c tyJx4a65c_ok rfl (by decide +kernel) (by decide +kernel) (by decide +kernel) (by decide +kernel) (fun j hj => by rcases (show j = 0 ∨ j = 1 ∨ j = 2 by omega) with rfl | rfl | rfl <;> rfl) (by first | omega | (dsimp only; omega)) (by first | omega | (dsimp only; omega)) dX14_init_52 (fun q20 M21 h => ?_)
  refine q_dup (pc := 55) C dX14_init_55 (q_cat _) ?_
  obtain ⟨b23, fs9, hb23, hm9, h⟩ := h
  refine q_cv (pc := 56) (q_rI C (st := [va_rf (some q20), va_rf l0]) (b := b23) (kJx4a65c_init_da8c8 l G b0 hg h) (cwI 0 C.2.2.2.2.1 gX14_init_Jx4a65c_init_da8c8 rfl rfl rfl (C.2.2.2.2.1 (.initialized RJx4a65c) (by decide +kernel)) (C.2.2.2.2.1 (.methodLink RX14 21 yJx4a65c_init_da8c8) (by decide +kernel)) (C.2.2.2.2.1 (.instanceMethod yJx4a65c_init_da8c8) (by decide +kernel)) rfl (by decide +kernel) ⟨Nat.le_of_ble_eq_true rfl, Nat.le_of_ble_eq_true rfl⟩) rfl (by first | exact Nat.le_of_ble_eq_true rfl | (simp [q_cat, q_catI, q_catJ, q_catR, q_catN]; done)) (by rw [hb23]; first | done | rfl) dX14_init_56 ⟨(by first | omega | (dsimp only; omega)), (by first | omega | (dsimp only; omega))⟩) (fun M22 h => ?_)
  refine q_pF (pc := 59) C hni h (.object "java/util/ArrayList") (T := TX14) tyX14 tyX14_ok nmX14 rfl (by decide +kernel) (q_nrO _ _) (q_ftO _ _) rfl (by decide) (wk_u rfl wm_X14_init uq_X14 (by decide +kernel)) (by decide +kernel) (fun _ h9 => h9) rfl rfl dX14_init_59 (fun M24 h => ?_)
  refine q_aload_n (pc := 62) C 0 0 dX14_init_62 rfl rfl ?_
  refine q_sipush (pc := 63) C 776 dX14_init_63 (by decide) ?_
  obtain ⟨hbk, h⟩ := h
  refine q_newI (pc := 66) C h (ty := .boolean) rfl (ak := 1) rfl (by decide) (by decide) rfl (by decide) (fun _ => m_raZ) (by decide +kernel) (by first | omega | (dsimp only; omega)) (by first | omega | (dsimp only; omega)) dX14_init_66 (fun q25 M26 h => ?_)
  refine q_pF (pc := 68) C hni h (.array .boolean) (T := TX14) tyX14 tyX14_ok nmX14 rfl (by decide +kernel) (q_nrA _ _) (q_ftA _ _) rfl (by decide) (wk_u rfl wm_X14_init uq_X14 (by decide +kernel)) (by decide +kernel) (fun _ h9 => h9) rfl rfl dX14_init_68 (fun M27 h => ?_)
  refine q_iconst (pc := 71) C 0 dX14_init_71 (by decide) ?_
  refine q_istore_n (pc := 72) C 1 [(1, .int 0), (0, va_rf l0)] dX14_init_72 rfl (by decide) (by first | rfl | simp [q_cat, q_catI, q_catJ, q_catR, q_catN]) ?_
  refine q_lv [1, 0] rfl ?_
  obtain ⟨f9, h⟩ := h
  exact tX14_init_73 C hr hlocks hg hni f9 _ _ _ _ _ h
set_option maxRecDepth 100000 in
set_option maxHeartbeats 4000000 in
theorem kX14_init (l : Launch) (G : mG) (b0 : Nat) {g : Nat → Nat} (hg : G.2.2 = g) {b : Nat} {M : mM} {κ : mM → Prop} (h : wX14_init g κ (some b) M) : Met l yX14_init wsX14_init ({ frames := 4, cells := 13, slots := 870, locals := 80 } : Room) (va_Pc [.ref b] (m_Pre G b0 M)) (va_Qv κ (m_B G b0) (fun q => b0 ≤ q)) 13 870 (fun q => b0 ≤ q) := by
  refine m_met (cc := cX14_init) (maxL := 2) (ret := none) (lv := [(0, va_rf (some b))]) RX14 rfl (by decide +kernel) rfl (by first | exact Nat.le_of_ble_eq_true rfl | simp [lg_sl, q_cat, q_catI, q_catJ, q_catR, q_catN]) (by first | rfl | (simp [lv_args, q_cat, q_catI, q_catJ, q_catR, q_catN]; done) | (simp [lv_args, q_cat, q_catI, q_catJ, q_catR, q_catN]; rfl)) ?_
  intro p e s m args below meth c C hr hlocks hni
  exact tX14_init C hr hlocks hg hni h
/-! X14_thrown -/
set_option maxRecDepth 100000 in
set_option maxHeartbeats 4000000 in
theorem tX14_thrown {p : Program} {l : Launch} {e : Env} {s : State} {m : MethodId} {args : Array Value} {below : List Frame} {meth : Method} {c : Code} {G : mG} {b0 : Nat} (C : m_C p s m args c cX14_thrown 1 RX14 wsX14_thrown G b0) (hr : meth.sig.returnType = (some .int)) (hlocks : meth.locks = false) {κ : Int32 → mM → Prop} {l0 : Option Nat} {M : mM} (h : wX14_thrown κ l0 M) : m_W p l e ({ frames := 0, cells := 0, slots := 0, locals := 0 } : Room) s m args below meth c G b0 (MQ below (va_Qi κ (m_B G b0) (fun q => b0 ≤ q)) args s 0 0 (fun q => b0 ≤ q)) 1 M 0 0 0 [(0, va_rf l0)] [] := by
  unfold wX14_thrown at h
  refine q_aload_n (pc := 0) C 0 0 dX14_thrown_0 rfl rfl ?_
  refine q_gI (pc := 1) C h (T := TX14) rfl (by decide) (wk_u rfl wm_X14_thrown uq_X14 (by decide +kernel)) (by decide +kernel) (fun _ h9 => h9) dX14_thrown_1 (fun x1 h => ?_)
  exact q_iret (pc := 4) C hr hlocks h dX14_thrown_4 (by omega) (by omega)
set_option maxRecDepth 100000 in
set_option maxHeartbeats 4000000 in
theorem kX14_thrown (l : Launch) (G : mG) (b0 : Nat) {b : Nat} {M : mM} {κ : Int32 → mM → Prop} (h : wX14_thrown κ (some b) M) : Met l yX14_thrown wsX14_thrown ({ frames := 0, cells := 0, slots := 0, locals := 0 } : Room) (va_Pc [.ref b] (m_Pre G b0 M)) (va_Qi κ (m_B G b0) (fun q => b0 ≤ q)) 0 0 (fun q => b0 ≤ q) := by
  refine m_met (cc := cX14_thrown) (maxL := 1) (ret := (some .int)) (lv := [(0, va_rf (some b))]) RX14 rfl (by decide +kernel) rfl (by first | exact Nat.le_of_ble_eq_true rfl | simp [lg_sl, q_cat, q_catI, q_catJ, q_catR, q_catN]) (by first | rfl | (simp [lv_args, q_cat, q_catI, q_catJ, q_catR, q_catN]; done) | (simp [lv_args, q_cat, q_catI, q_catJ, q_catR, q_catN]; rfl)) ?_
  intro p e s m args below meth c C hr hlocks hni
  exact tX14_thrown C hr hlocks h
/-! X14_refuse -/
set_option maxRecDepth 100000 in
set_option maxHeartbeats 4000000 in
theorem tX14_refuse {p : Program} {l : Launch} {e : Env} {s : State} {m : MethodId} {args : Array Value} {below : List Frame} {meth : Method} {c : Code} {G : mG} {b0 : Nat} (C : m_C p s m args c cX14_refuse 2 RX14 wsX14_refuse G b0) (hr : meth.sig.returnType = (some .int)) (hlocks : meth.locks = false) {κ : Int32 → mM → Prop} {l0 : Option Nat} {l1 : Int32} {M : mM} (h : wX14_refuse κ l0 l1 M) : m_W p l e ({ frames := 0, cells := 0, slots := 0, locals := 0 } : Room) s m args below meth c G b0 (MQ below (va_Qi κ (m_B G b0) (fun q => b0 ≤ q)) args s 0 0 (fun q => b0 ≤ q)) 2 M 0 0 0 [(0, va_rf l0), (1, .int l1)] [] := by
  unfold wX14_refuse at h
  refine q_aload_n (pc := 0) C 0 0 dX14_refuse_0 rfl rfl ?_
  refine q_iload_n (pc := 1) C 1 1 dX14_refuse_1 rfl rfl ?_
  refine q_p (pc := 2) C h .int (T := TX14) tyX14 tyX14_ok nmX14 rfl (by decide +kernel) rfl rfl rfl (by decide) (wk_u rfl wm_X14_refuse uq_X14 (by decide +kernel)) (by decide +kernel) (fun _ h9 => h9) rfl dX14_refuse_2 (fun M1 h => ?_)
  refine q_iconst (pc := 5) C 0 dX14_refuse_5 (by decide) ?_
  exact q_iret (pc := 6) C hr hlocks h dX14_refuse_6 (by omega) (by omega)
set_option maxRecDepth 100000 in
set_option maxHeartbeats 4000000 in
theorem kX14_refuse (l : Launch) (G : mG) (b0 : Nat) {b : Nat} {l1 : Int32} {M : mM} {κ : Int32 → mM → Prop} (h : wX14_refuse κ (some b) l1 M) : Met l yX14_refuse wsX14_refuse ({ frames := 0, cells := 0, slots := 0, locals := 0 } : Room) (va_Pc [.ref b, .int l1] (m_Pre G b0 M)) (va_Qi κ (m_B G b0) (fun q => b0 ≤ q)) 0 0 (fun q => b0 ≤ q) := by
  refine m_met (cc := cX14_refuse) (maxL := 2) (ret := (some .int)) (lv := [(0, va_rf (some b)), (1, .int l1)]) RX14 rfl (by decide +kernel) rfl (by first | exact Nat.le_of_ble_eq_true rfl | simp [lg_sl, q_cat, q_catI, q_catJ, q_catR, q_catN]) (by first | rfl | (simp [lv_args, q_cat, q_catI, q_catJ, q_catR, q_catN]; done) | (simp [lv_args, q_cat, q_catI, q_catJ, q_catR, q_catN]; rfl)) ?_
  intro p e s m args below meth c C hr hlocks hni
  exact tX14_refuse C hr hlocks h
/-! X14_is -/
set_option maxRecDepth 100000 in
set_option maxHeartbeats 4000000 in
theorem tX14_is {p : Program} {l : Launch} {e : Env} {s : State} {m : MethodId} {args : Array Value} {below : List Frame} {meth : Method} {c : Code} {G : mG} {b0 : Nat} (C : m_C p s m args c cX14_is 3 RX14 wsX14_is G b0) (hr : meth.sig.returnType = (some .boolean)) (hlocks : meth.locks = false) {κ : Int32 → mM → Prop} {l0 : Int32} {l1 : Int32} {l2 : Int32} {M : mM} (h : wX14_is κ l0 l1 l2 M) : m_W p l e ({ frames := 0, cells := 0, slots := 0, locals := 0 } : Room) s m args below meth c G b0 (MQ below (va_Qi κ (m_B G b0) (fun q => b0 ≤ q)) args s 0 0 (fun q => b0 ≤ q)) 3 M 0 0 0 [(0, .int l0), (1, .int l1), (2, .int l2)] [] := by
  unfold wX14_is at h
  refine q_iload_n (pc := 0) C 0 0 dX14_is_0 rfl rfl ?_
  refine q_iload_n (pc := 1) C 1 1 dX14_is_1 rfl rfl ?_
  refine q_icmp_lt (pc := 2) C 14 dX14_is_2 (by decide) (fun c1 => ?_) (fun c1 => ?_)
  · have h := h.1 c1
    refine q_iconst (pc := 14) C 0 dX14_is_14 (by decide) ?_
    exact q_zret (pc := 15) C hr hlocks ⟨(by decide), h⟩ dX14_is_15 (by omega) (by omega)
  · have h := h.2 c1
    refine q_iload_n (pc := 5) C 0 0 dX14_is_5 rfl rfl ?_
    refine q_iload_n (pc := 6) C 2 2 dX14_is_6 rfl rfl ?_
    refine q_icmp_gt (pc := 7) C 14 dX14_is_7 (by decide) (fun c2 => ?_) (fun c2 => ?_)
    · have h := h.1 c2
      refine q_iconst (pc := 14) C 0 dX14_is_14 (by decide) ?_
      exact q_zret (pc := 15) C hr hlocks ⟨(by decide), h⟩ dX14_is_15 (by omega) (by omega)
    · have h := h.2 c2
      refine q_iconst (pc := 10) C 1 dX14_is_10 (by decide) ?_
      refine q_goto (pc := 11) C 15 dX14_is_11 (by decide) ?_
      exact q_zret (pc := 15) C hr hlocks ⟨(by decide), h⟩ dX14_is_15 (by omega) (by omega)
set_option maxRecDepth 100000 in
set_option maxHeartbeats 4000000 in
theorem kX14_is (l : Launch) (G : mG) (b0 : Nat) {l0 : Int32} {l1 : Int32} {l2 : Int32} {M : mM} {κ : Int32 → mM → Prop} (h : wX14_is κ l0 l1 l2 M) : Met l yX14_is wsX14_is ({ frames := 0, cells := 0, slots := 0, locals := 0 } : Room) (va_Pc [.int l0, .int l1, .int l2] (m_Pre G b0 M)) (va_Qi κ (m_B G b0) (fun q => b0 ≤ q)) 0 0 (fun q => b0 ≤ q) := by
  refine m_met (cc := cX14_is) (maxL := 3) (ret := (some .boolean)) (lv := [(0, .int l0), (1, .int l1), (2, .int l2)]) RX14 rfl (by decide +kernel) rfl (by first | exact Nat.le_of_ble_eq_true rfl | simp [lg_sl, q_cat, q_catI, q_catJ, q_catR, q_catN]) (by first | rfl | (simp [lv_args, q_cat, q_catI, q_catJ, q_catR, q_catN]; done) | (simp [lv_args, q_cat, q_catI, q_catJ, q_catR, q_catN]; rfl)) ?_
  intro p e s m args below meth c C hr hlocks hni
  exact tX14_is C hr hlocks h
/-! X14_isLand -/
set_option maxRecDepth 100000 in
set_option maxHeartbeats 4000000 in
theorem tX14_isLand {p : Program} {l : Launch} {e : Env} {s : State} {m : MethodId} {args : Array Value} {below : List Frame} {meth : Method} {c : Code} {G : mG} {b0 : Nat} (C : m_C p s m args c cX14_isLand 2 RX14 wsX14_isLand G b0) (hr : meth.sig.returnType = (some .boolean)) (hlocks : meth.locks = false) {κ : Int32 → mM → Prop} {l0 : Option Nat} {l1 : Int32} {M : mM} (h : wX14_isLand κ l0 l1 M) : m_W p l e ({ frames := 1, cells := 0, slots := 0, locals := 22 } : Room) s m args below meth c G b0 (MQ below (va_Qi κ (m_B G b0) (fun q => b0 ≤ q)) args s 0 0 (fun q => b0 ≤ q)) 2 M 0 0 0 [(0, va_rf l0), (1, .int l1)] [] := by
  unfold wX14_isLand at h
  refine q_iload_n (pc := 0) C 1 1 dX14_isLand_0 rfl rfl ?_
  refine q_iconst (pc := 1) C 0 dX14_isLand_1 (by decide) ?_
  refine q_iconst (pc := 2) C 5 dX14_isLand_2 (by decide) ?_
  refine q_ci (pc := 3) (q_rS C (st := []) (kX14_is l G b0 h) (va_cwS 3 C.2.2.2.2.1 gX14_isLand_X14_is rfl rfl rfl (by decide +kernel) ⟨Nat.le_of_ble_eq_true rfl, Nat.le_of_ble_eq_true rfl⟩) rfl (by first | exact Nat.le_of_ble_eq_true rfl | (simp [q_cat, q_catI, q_catJ, q_catR, q_catN]; done)) rfl dX14_isLand_3 ⟨(by first | omega | (dsimp only; omega)), (by first | omega | (dsimp only; omega))⟩) (fun x1 M2 h => ?_)
  exact q_zret (pc := 6) C hr hlocks h dX14_isLand_6 (by omega) (by omega)
set_option maxRecDepth 100000 in
set_option maxHeartbeats 4000000 in
theorem kX14_isLand (l : Launch) (G : mG) (b0 : Nat) {b : Nat} {l1 : Int32} {M : mM} {κ : Int32 → mM → Prop} (h : wX14_isLand κ (some b) l1 M) : Met l yX14_isLand wsX14_isLand ({ frames := 1, cells := 0, slots := 0, locals := 22 } : Room) (va_Pc [.ref b, .int l1] (m_Pre G b0 M)) (va_Qi κ (m_B G b0) (fun q => b0 ≤ q)) 0 0 (fun q => b0 ≤ q) := by
  refine m_met (cc := cX14_isLand) (maxL := 2) (ret := (some .boolean)) (lv := [(0, va_rf (some b)), (1, .int l1)]) RX14 rfl (by decide +kernel) rfl (by first | exact Nat.le_of_ble_eq_true rfl | simp [lg_sl, q_cat, q_catI, q_catJ, q_catR, q_catN]) (by first | rfl | (simp [lv_args, q_cat, q_catI, q_catJ, q_catR, q_catN]; done) | (simp [lv_args, q_cat, q_catI, q_catJ, q_catR, q_catN]; rfl)) ?_
  intro p e s m args below meth c C hr hlocks hni
  exact tX14_isLand C hr hlocks h
/-! X14_isGate -/
set_option maxRecDepth 100000 in
set_option maxHeartbeats 4000000 in
theorem tX14_isGate {p : Program} {l : Launch} {e : Env} {s : State} {m : MethodId} {args : Array Value} {below : List Frame} {meth : Method} {c : Code} {G : mG} {b0 : Nat} (C : m_C p s m args c cX14_isGate 2 RX14 wsX14_isGate G b0) (hr : meth.sig.returnType = (some .boolean)) (hlocks : meth.locks = false) {κ : Int32 → mM → Prop} {l0 : Option Nat} {l1 : Int32} {M : mM} (h : wX14_isGate κ l0 l1 M) : m_W p l e ({ frames := 1, cells := 0, slots := 0, locals := 22 } : Room) s m args below meth c G b0 (MQ below (va_Qi κ (m_B G b0) (fun q => b0 ≤ q)) args s 0 0 (fun q => b0 ≤ q)) 2 M 0 0 0 [(0, va_rf l0), (1, .int l1)] [] := by
  unfold wX14_isGate at h
  refine q_iload_n (pc := 0) C 1 1 dX14_isGate_0 rfl rfl ?_
  refine q_iconst (pc := 1) C 0 dX14_isGate_1 (by decide) ?_
  refine q_aload_n (pc := 2) C 0 0 dX14_isGate_2 rfl rfl ?_
  refine q_gR (pc := 3) C h (T := TX14) rfl (by decide) (wk_u rfl wm_X14_isGate uq_X14 (by decide +kernel)) (by decide +kernel) (fun _ h9 => h9) dX14_isGate_3 (fun x1 h => ?_)
  obtain ⟨b4, fs9, hb4, hm9, h⟩ := h
  refine q_ci (pc := 6) (q_rV C (st := [.int 0, .int l1]) (b := b4) (kJx4a65c_size_8abf5 l G b0 h) (cwV 0 C.2.2.2.2.1 gX14_isGate_Jx4a65c_size_8abf5 rfl rfl rfl (by decide +kernel) ⟨Nat.le_of_ble_eq_true rfl, Nat.le_of_ble_eq_true rfl⟩) hm9 rfl rfl rfl (by first | exact Nat.le_of_ble_eq_true rfl | (simp [q_cat, q_catI, q_catJ, q_catR, q_catN]; done)) (by rw [hb4]; first | done | rfl) dX14_isGate_6 ⟨(by first | omega | (dsimp only; omega)), (by first | omega | (dsimp only; omega))⟩) (fun x2 M3 h => ?_)
  refine q_iconst (pc := 9) C 1 dX14_isGate_9 (by decide) ?_
  refine q_isub (pc := 10) C dX14_isGate_10 ?_
  refine q_ci (pc := 11) (q_rS C (st := []) (kX14_is l G b0 h) (va_cwS 3 C.2.2.2.2.1 gX14_isGate_X14_is rfl rfl rfl (by decide +kernel) ⟨Nat.le_of_ble_eq_true rfl, Nat.le_of_ble_eq_true rfl⟩) rfl (by first | exact Nat.le_of_ble_eq_true rfl | (simp [q_cat, q_catI, q_catJ, q_catR, q_catN]; done)) rfl dX14_isGate_11 ⟨(by first | omega | (dsimp only; omega)), (by first | omega | (dsimp only; omega))⟩) (fun x5 M6 h => ?_)
  exact q_zret (pc := 14) C hr hlocks h dX14_isGate_14 (by omega) (by omega)
set_option maxRecDepth 100000 in
set_option maxHeartbeats 4000000 in
theorem kX14_isGate (l : Launch) (G : mG) (b0 : Nat) {b : Nat} {l1 : Int32} {M : mM} {κ : Int32 → mM → Prop} (h : wX14_isGate κ (some b) l1 M) : Met l yX14_isGate wsX14_isGate ({ frames := 1, cells := 0, slots := 0, locals := 22 } : Room) (va_Pc [.ref b, .int l1] (m_Pre G b0 M)) (va_Qi κ (m_B G b0) (fun q => b0 ≤ q)) 0 0 (fun q => b0 ≤ q) := by
  refine m_met (cc := cX14_isGate) (maxL := 2) (ret := (some .boolean)) (lv := [(0, va_rf (some b)), (1, .int l1)]) RX14 rfl (by decide +kernel) rfl (by first | exact Nat.le_of_ble_eq_true rfl | simp [lg_sl, q_cat, q_catI, q_catJ, q_catR, q_catN]) (by first | rfl | (simp [lv_args, q_cat, q_catI, q_catJ, q_catR, q_catN]; done) | (simp [lv_args, q_cat, q_catI, q_catJ, q_catR, q_catN]; rfl)) ?_
  intro p e s m args below meth c C hr hlocks hni
  exact tX14_isGate C hr hlocks h
/-! X14_isSleeper -/
set_option maxRecDepth 100000 in
set_option maxHeartbeats 4000000 in
theorem tX14_isSleeper {p : Program} {l : Launch} {e : Env} {s : State} {m : MethodId} {args : Array Value} {below : List Frame} {meth : Method} {c : Code} {G : mG} {b0 : Nat} (C : m_C p s m args c cX14_isSleeper 2 RX14 wsX14_isSleeper G b0) (hr : meth.sig.returnType = (some .boolean)) (hlocks : meth.locks = false) {κ : Int32 → mM → Prop} {l0 : Option Nat} {l1 : Int32} {M : mM} (h : wX14_isSleeper κ l0 l1 M) : m_W p l e ({ frames := 1, cells := 0, slots := 0, locals := 22 } : Room) s m args below meth c G b0 (MQ below (va_Qi κ (m_B G b0) (fun q => b0 ≤ q)) args s 0 0 (fun q => b0 ≤ q)) 2 M 0 0 0 [(0, va_rf l0), (1, .int l1)] [] := by
  unfold wX14_isSleeper at h
  refine q_iload_n (pc := 0) C 1 1 dX14_isSleeper_0 rfl rfl ?_
  refine q_iconst (pc := 1) C 0 dX14_isSleeper_1 (by decide) ?_
  refine q_aload_n (pc := 2) C 0 0 dX14_isSleeper_2 rfl rfl ?_
  refine q_gR (pc := 3) C h (T := TX14) rfl (by decide) (wk_u rfl wm_X14_isSleeper uq_X14 (by decide +kernel)) (by decide +kernel) (fun _ h9 => h9) dX14_isSleeper_3 (fun x1 h => ?_)
  obtain ⟨b4, fs9, hb4, hm9, h⟩ := h
  refine q_ci (pc := 6) (q_rV C (st := [.int 0, .int l1]) (b := b4) (kJx4a65c_size_8abf5 l G b0 h) (cwV 0 C.2.2.2.2.1 gX14_isSleeper_Jx4a65c_size_8abf5 rfl rfl rfl (by decide +kernel) ⟨Nat.le_of_ble_eq_true rfl, Nat.le_of_ble_eq_true rfl⟩) hm9 rfl rfl rfl (by first | exact Nat.le_of_ble_eq_true rfl | (simp [q_cat, q_catI, q_catJ, q_catR, q_catN]; done)) (by rw [hb4]; first | done | rfl) dX14_isSleeper_6 ⟨(by first | omega | (dsimp only; omega)), (by first | omega | (dsimp only; omega))⟩) (fun x2 M3 h => ?_)
  refine q_iconst (pc := 9) C 1 dX14_isSleeper_9 (by decide) ?_
  refine q_isub (pc := 10) C dX14_isSleeper_10 ?_
  refine q_ci (pc := 11) (q_rS C (st := []) (kX14_is l G b0 h) (va_cwS 3 C.2.2.2.2.1 gX14_isSleeper_X14_is rfl rfl rfl (by decide +kernel) ⟨Nat.le_of_ble_eq_true rfl, Nat.le_of_ble_eq_true rfl⟩) rfl (by first | exact Nat.le_of_ble_eq_true rfl | (simp [q_cat, q_catI, q_catJ, q_catR, q_catN]; done)) rfl dX14_isSleeper_11 ⟨(by first | omega | (dsimp only; omega)), (by first | omega | (dsimp only; omega))⟩) (fun x5 M6 h => ?_)
  exact q_zret (pc := 14) C hr hlocks h dX14_isSleeper_14 (by omega) (by omega)
set_option maxRecDepth 100000 in
set_option maxHeartbeats 4000000 in
theorem kX14_isSleeper (l : Launch) (G : mG) (b0 : Nat) {b : Nat} {l1 : Int32} {M : mM} {κ : Int32 → mM → Prop} (h : wX14_isSleeper κ (some b) l1 M) : Met l yX14_isSleeper wsX14_isSleeper ({ frames := 1, cells := 0, slots := 0, locals := 22 } : Room) (va_Pc [.ref b, .int l1] (m_Pre G b0 M)) (va_Qi κ (m_B G b0) (fun q => b0 ≤ q)) 0 0 (fun q => b0 ≤ q) := by
  refine m_met (cc := cX14_isSleeper) (maxL := 2) (ret := (some .boolean)) (lv := [(0, va_rf (some b)), (1, .int l1)]) RX14 rfl (by decide +kernel) rfl (by first | exact Nat.le_of_ble_eq_true rfl | simp [lg_sl, q_cat, q_catI, q_catJ, q_catR, q_catN]) (by first | rfl | (simp [lv_args, q_cat, q_catI, q_catJ, q_catR, q_catN]; done) | (simp [lv_args, q_cat, q_catI, q_catJ, q_catR, q_catN]; rfl)) ?_
  intro p e s m args below meth c C hr hlocks hni
  exact tX14_isSleeper C hr hlocks h
/-! X14_isPart -/
set_option maxRecDepth 100000 in
set_option maxHeartbeats 4000000 in
theorem tX14_isPart {p : Program} {l : Launch} {e : Env} {s : State} {m : MethodId} {args : Array Value} {below : List Frame} {meth : Method} {c : Code} {G : mG} {b0 : Nat} (C : m_C p s m args c cX14_isPart 2 RX14 wsX14_isPart G b0) (hr : meth.sig.returnType = (some .boolean)) (hlocks : meth.locks = false) {κ : Int32 → mM → Prop} {l0 : Option Nat} {l1 : Int32} {M : mM} (h : wX14_isPart κ l0 l1 M) : m_W p l e ({ frames := 1, cells := 0, slots := 0, locals := 22 } : Room) s m args below meth c G b0 (MQ below (va_Qi κ (m_B G b0) (fun q => b0 ≤ q)) args s 0 0 (fun q => b0 ≤ q)) 2 M 0 0 0 [(0, va_rf l0), (1, .int l1)] [] := by
  unfold wX14_isPart at h
  refine q_iload_n (pc := 0) C 1 1 dX14_isPart_0 rfl rfl ?_
  refine q_iconst (pc := 1) C 0 dX14_isPart_1 (by decide) ?_
  refine q_aload_n (pc := 2) C 0 0 dX14_isPart_2 rfl rfl ?_
  refine q_gR (pc := 3) C h (T := TX14) rfl (by decide) (wk_u rfl wm_X14_isPart uq_X14 (by decide +kernel)) (by decide +kernel) (fun _ h9 => h9) dX14_isPart_3 (fun x1 h => ?_)
  obtain ⟨b4, fs9, hb4, hm9, h⟩ := h
  refine q_ci (pc := 6) (q_rV C (st := [.int 0, .int l1]) (b := b4) (kJx4a65c_size_8abf5 l G b0 h) (cwV 0 C.2.2.2.2.1 gX14_isPart_Jx4a65c_size_8abf5 rfl rfl rfl (by decide +kernel) ⟨Nat.le_of_ble_eq_true rfl, Nat.le_of_ble_eq_true rfl⟩) hm9 rfl rfl rfl (by first | exact Nat.le_of_ble_eq_true rfl | (simp [q_cat, q_catI, q_catJ, q_catR, q_catN]; done)) (by rw [hb4]; first | done | rfl) dX14_isPart_6 ⟨(by first | omega | (dsimp only; omega)), (by first | omega | (dsimp only; omega))⟩) (fun x2 M3 h => ?_)
  refine q_iconst (pc := 9) C 1 dX14_isPart_9 (by decide) ?_
  refine q_isub (pc := 10) C dX14_isPart_10 ?_
  refine q_ci (pc := 11) (q_rS C (st := []) (kX14_is l G b0 h) (va_cwS 3 C.2.2.2.2.1 gX14_isPart_X14_is rfl rfl rfl (by decide +kernel) ⟨Nat.le_of_ble_eq_true rfl, Nat.le_of_ble_eq_true rfl⟩) rfl (by first | exact Nat.le_of_ble_eq_true rfl | (simp [q_cat, q_catI, q_catJ, q_catR, q_catN]; done)) rfl dX14_isPart_11 ⟨(by first | omega | (dsimp only; omega)), (by first | omega | (dsimp only; omega))⟩) (fun x5 M6 h => ?_)
  exact q_zret (pc := 14) C hr hlocks h dX14_isPart_14 (by omega) (by omega)
set_option maxRecDepth 100000 in
set_option maxHeartbeats 4000000 in
theorem kX14_isPart (l : Launch) (G : mG) (b0 : Nat) {b : Nat} {l1 : Int32} {M : mM} {κ : Int32 → mM → Prop} (h : wX14_isPart κ (some b) l1 M) : Met l yX14_isPart wsX14_isPart ({ frames := 1, cells := 0, slots := 0, locals := 22 } : Room) (va_Pc [.ref b, .int l1] (m_Pre G b0 M)) (va_Qi κ (m_B G b0) (fun q => b0 ≤ q)) 0 0 (fun q => b0 ≤ q) := by
  refine m_met (cc := cX14_isPart) (maxL := 2) (ret := (some .boolean)) (lv := [(0, va_rf (some b)), (1, .int l1)]) RX14 rfl (by decide +kernel) rfl (by first | exact Nat.le_of_ble_eq_true rfl | simp [lg_sl, q_cat, q_catI, q_catJ, q_catR, q_catN]) (by first | rfl | (simp [lv_args, q_cat, q_catI, q_catJ, q_catR, q_catN]; done) | (simp [lv_args, q_cat, q_catI, q_catJ, q_catR, q_catN]; rfl)) ?_
  intro p e s m args below meth c C hr hlocks hni
  exact tX14_isPart C hr hlocks h
/-! X14_land -/
set_option maxRecDepth 100000 in
set_option maxHeartbeats 4000000 in
theorem tX14_land_39 {p : Program} {l : Launch} {e : Env} {s : State} {m : MethodId} {args : Array Value} {below : List Frame} {meth : Method} {c : Code} {G : mG} {b0 : Nat} (C : m_C p s m args c cX14_land 5 RX14 wsX14_land G b0) (hr : meth.sig.returnType = (some .int)) (hlocks : meth.locks = false) {κ : Int32 → mM → Prop} {l0 : Option Nat} {M : mM} (h : wX14_land_39 κ l0 M) : m_W p l e ({ frames := 2, cells := 0, slots := 0, locals := 43 } : Room) s m args below meth c G b0 (MQ below (va_Qi κ (m_B G b0) (fun q => b0 ≤ q)) args s 0 0 (fun q => b0 ≤ q)) 5 M 0 0 39 [(0, va_rf l0)] [] := by
  unfold wX14_land_39 at h
  refine q_aload_n (pc := 39) C 0 0 dX14_land_39 rfl rfl ?_
  refine q_iconst (pc := 40) C 2 dX14_land_40 (by decide) ?_
  obtain ⟨b3, fs9, hb3, hm9, h⟩ := h
  refine q_ci (pc := 41) (q_rV C (st := []) (b := b3) (kX14_refuse l G b0 h) (cwV 1 C.2.2.2.2.1 gX14_land_X14_refuse rfl rfl rfl (by decide +kernel) ⟨Nat.le_of_ble_eq_true rfl, Nat.le_of_ble_eq_true rfl⟩) hm9 rfl rfl rfl (by first | exact Nat.le_of_ble_eq_true rfl | (simp [q_cat, q_catI, q_catJ, q_catR, q_catN]; done)) (by rw [hb3]; first | done | rfl) dX14_land_41 ⟨(by first | omega | (dsimp only; omega)), (by first | omega | (dsimp only; omega))⟩) (fun x1 M2 h => ?_)
  exact q_iret (pc := 44) C hr hlocks h dX14_land_44 (by omega) (by omega)
set_option maxRecDepth 100000 in
set_option maxHeartbeats 4000000 in
theorem tX14_land {p : Program} {l : Launch} {e : Env} {s : State} {m : MethodId} {args : Array Value} {below : List Frame} {meth : Method} {c : Code} {G : mG} {b0 : Nat} (C : m_C p s m args c cX14_land 5 RX14 wsX14_land G b0) (hr : meth.sig.returnType = (some .int)) (hlocks : meth.locks = false) {κ : Int32 → mM → Prop} {l0 : Option Nat} {l1 : Int32} {l2 : Int32} {l3 : Int32} {M : mM} (h : wX14_land κ l0 l1 l2 l3 M) : m_W p l e ({ frames := 2, cells := 0, slots := 0, locals := 43 } : Room) s m args below meth c G b0 (MQ below (va_Qi κ (m_B G b0) (fun q => b0 ≤ q)) args s 0 0 (fun q => b0 ≤ q)) 5 M 0 0 0 [(0, va_rf l0), (1, .int l1), (2, .int l2), (3, .int l3)] [] := by
  unfold wX14_land at h
  refine q_aload_n (pc := 0) C 0 0 dX14_land_0 rfl rfl ?_
  refine q_iconst (pc := 1) C 0 dX14_land_1 (by decide) ?_
  refine q_p (pc := 2) C h .int (T := TX14) tyX14 tyX14_ok nmX14 rfl (by decide +kernel) rfl rfl rfl (by decide) (wk_u rfl wm_X14_land uq_X14 (by decide +kernel)) (by decide +kernel) (fun _ h9 => h9) rfl dX14_land_2 (fun M1 h => ?_)
  refine q_aload_n (pc := 5) C 0 0 dX14_land_5 rfl rfl ?_
  refine q_iload_n (pc := 6) C 1 1 dX14_land_6 rfl rfl ?_
  obtain ⟨b4, fs9, hb4, hm9, h⟩ := h
  refine q_ci (pc := 7) (q_rV C (st := []) (b := b4) (kX14_isLand l G b0 h) (cwV 1 C.2.2.2.2.1 gX14_land_X14_isLand rfl rfl rfl (by decide +kernel) ⟨Nat.le_of_ble_eq_true rfl, Nat.le_of_ble_eq_true rfl⟩) hm9 rfl rfl rfl (by first | exact Nat.le_of_ble_eq_true rfl | (simp [q_cat, q_catI, q_catJ, q_catR, q_catN]; done)) (by rw [hb4]; first | done | rfl) dX14_land_7 ⟨(by first | omega | (dsimp only; omega)), (by first | omega | (dsimp only; omega))⟩) (fun x2 M3 h => ?_)
  refine q_if_ne (pc := 10) C 19 dX14_land_10 (by decide) (fun c5 => ?_) (fun c5 => ?_)
  · have h := h.2 c5
    refine q_iload_n (pc := 19) C 2 2 dX14_land_19 rfl rfl ?_
    refine q_iconst (pc := 20) C 0 dX14_land_20 (by decide) ?_
    refine q_bipush (pc := 21) C 50 dX14_land_21 (by decide) ?_
    refine q_ci (pc := 23) (q_rS C (st := []) (kX14_is l G b0 h) (va_cwS 3 C.2.2.2.2.1 gX14_land_X14_is rfl rfl rfl (by decide +kernel) ⟨Nat.le_of_ble_eq_true rfl, Nat.le_of_ble_eq_true rfl⟩) rfl (by first | exact Nat.le_of_ble_eq_true rfl | (simp [q_cat, q_catI, q_catJ, q_catR, q_catN]; done)) rfl dX14_land_23 ⟨(by first | omega | (dsimp only; omega)), (by first | omega | (dsimp only; omega))⟩) (fun x6 M7 h => ?_)
    refine q_if_eq (pc := 26) C 39 dX14_land_26 (by decide) (fun c8 => ?_) (fun c8 => ?_)
    · have h := h.1 c8
      refine q_widen (k2 := 0) (n2 := 0) (by omega) (by omega) ?_
      refine q_lv [0] rfl ?_
      exact tX14_land_39 C hr hlocks h
    · have h := h.2 c8
      refine q_iload_n (pc := 29) C 3 3 dX14_land_29 rfl rfl ?_
      refine q_iconst (pc := 30) C 0 dX14_land_30 (by decide) ?_
      refine q_bipush (pc := 31) C 99 dX14_land_31 (by decide) ?_
      refine q_ci (pc := 33) (q_rS C (st := []) (kX14_is l G b0 h) (va_cwS 3 C.2.2.2.2.1 gX14_land_X14_is rfl rfl rfl (by decide +kernel) ⟨Nat.le_of_ble_eq_true rfl, Nat.le_of_ble_eq_true rfl⟩) rfl (by first | exact Nat.le_of_ble_eq_true rfl | (simp [q_cat, q_catI, q_catJ, q_catR, q_catN]; done)) rfl dX14_land_33 ⟨(by first | omega | (dsimp only; omega)), (by first | omega | (dsimp only; omega))⟩) (fun x9 M10 h => ?_)
      refine q_if_ne (pc := 36) C 45 dX14_land_36 (by decide) (fun c11 => ?_) (fun c11 => ?_)
      · have h := h.2 c11
        refine q_aload_n (pc := 45) C 0 0 dX14_land_45 rfl rfl ?_
        refine q_gR (pc := 46) C h (T := TX14) rfl (by decide) (wk_u rfl wm_X14_land uq_X14 (by decide +kernel)) (by decide +kernel) (fun _ h9 => h9) dX14_land_46 (fun x12 h => ?_)
        refine q_iload_n (pc := 49) C 1 1 dX14_land_49 rfl rfl ?_
        refine q_aald (pc := 50) C h rfl dX14_land_50 (fun x13 h => ?_)
        refine q_gIN (pc := 51) C h (host := "LullabygateModel") (T := TX11) rfl (by decide) (by decide +kernel) 1319 (by decide +kernel) (fun _ h9 => h9) dX14_land_51 (fun x14 h => ?_)
        refine q_istore (pc := 54) C 4 [(4, .int x14), (0, va_rf l0), (1, .int l1), (2, .int l2), (3, .int l3)] dX14_land_54 (by decide) (by first | rfl | simp [q_cat, q_catI, q_catJ, q_catR, q_catN]) ?_
        refine q_aload_n (pc := 56) C 0 1 dX14_land_56 rfl rfl ?_
        refine q_gR (pc := 57) C h (T := TX14) rfl (by decide) (wk_u rfl wm_X14_land uq_X14 (by decide +kernel)) (by decide +kernel) (fun _ h9 => h9) dX14_land_57 (fun x15 h => ?_)
        refine q_iload_n (pc := 60) C 1 2 dX14_land_60 rfl rfl ?_
        refine q_aald (pc := 61) C h rfl dX14_land_61 (fun x16 h => ?_)
        refine q_iload_n (pc := 62) C 2 3 dX14_land_62 rfl rfl ?_
        refine q_pN (pc := 63) C h .int (host := "LullabygateModel") (T := TX11) tyX11 tyX11_ok nmX11 rfl (by decide +kernel) rfl rfl rfl (by decide) (by decide +kernel) 1319 (by decide +kernel) (fun _ h9 => h9) rfl dX14_land_63 (fun M17 h => ?_)
        refine q_aload_n (pc := 66) C 0 1 dX14_land_66 rfl rfl ?_
        refine q_gR (pc := 67) C h (T := TX14) rfl (by decide) (wk_u rfl wm_X14_land uq_X14 (by decide +kernel)) (by decide +kernel) (fun _ h9 => h9) dX14_land_67 (fun x18 h => ?_)
        refine q_iload_n (pc := 70) C 1 2 dX14_land_70 rfl rfl ?_
        refine q_aald (pc := 71) C h rfl dX14_land_71 (fun x19 h => ?_)
        refine q_iload_n (pc := 72) C 3 4 dX14_land_72 rfl rfl ?_
        refine q_pN (pc := 73) C h .int (host := "LullabygateModel") (T := TX11) tyX11 tyX11_ok nmX11 rfl (by decide +kernel) rfl rfl rfl (by decide) (by decide +kernel) 1321 (by decide +kernel) (fun _ h9 => h9) rfl dX14_land_73 (fun M20 h => ?_)
        refine q_iload (pc := 76) C 4 0 dX14_land_76 rfl ?_
        exact q_iret (pc := 78) C hr hlocks h dX14_land_78 (by omega) (by omega)
      · have h := h.1 c11
        refine q_widen (k2 := 0) (n2 := 0) (by omega) (by omega) ?_
        refine q_lv [0] rfl ?_
        exact tX14_land_39 C hr hlocks h
  · have h := h.1 c5
    refine q_aload_n (pc := 13) C 0 0 dX14_land_13 rfl rfl ?_
    refine q_iconst (pc := 14) C 1 dX14_land_14 (by decide) ?_
    obtain ⟨b23, fs9, hb23, hm9, h⟩ := h
    refine q_ci (pc := 15) (q_rV C (st := []) (b := b23) (kX14_refuse l G b0 h) (cwV 1 C.2.2.2.2.1 gX14_land_X14_refuse rfl rfl rfl (by decide +kernel) ⟨Nat.le_of_ble_eq_true rfl, Nat.le_of_ble_eq_true rfl⟩) hm9 rfl rfl rfl (by first | exact Nat.le_of_ble_eq_true rfl | (simp [q_cat, q_catI, q_catJ, q_catR, q_catN]; done)) (by rw [hb23]; first | done | rfl) dX14_land_15 ⟨(by first | omega | (dsimp only; omega)), (by first | omega | (dsimp only; omega))⟩) (fun x21 M22 h => ?_)
    exact q_iret (pc := 18) C hr hlocks h dX14_land_18 (by omega) (by omega)
set_option maxRecDepth 100000 in
set_option maxHeartbeats 4000000 in
theorem kX14_land (l : Launch) (G : mG) (b0 : Nat) {b : Nat} {l1 : Int32} {l2 : Int32} {l3 : Int32} {M : mM} {κ : Int32 → mM → Prop} (h : wX14_land κ (some b) l1 l2 l3 M) : Met l yX14_land wsX14_land ({ frames := 2, cells := 0, slots := 0, locals := 43 } : Room) (va_Pc [.ref b, .int l1, .int l2, .int l3] (m_Pre G b0 M)) (va_Qi κ (m_B G b0) (fun q => b0 ≤ q)) 0 0 (fun q => b0 ≤ q) := by
  refine m_met (cc := cX14_land) (maxL := 5) (ret := (some .int)) (lv := [(0, va_rf (some b)), (1, .int l1), (2, .int l2), (3, .int l3)]) RX14 rfl (by decide +kernel) rfl (by first | exact Nat.le_of_ble_eq_true rfl | simp [lg_sl, q_cat, q_catI, q_catJ, q_catR, q_catN]) (by first | rfl | (simp [lv_args, q_cat, q_catI, q_catJ, q_catR, q_catN]; done) | (simp [lv_args, q_cat, q_catI, q_catJ, q_catR, q_catN]; rfl)) ?_
  intro p e s m args below meth c C hr hlocks hni
  exact tX14_land C hr hlocks h
/-! X14_trade -/
set_option maxRecDepth 100000 in
set_option maxHeartbeats 4000000 in
theorem tX14_trade_21 {p : Program} {l : Launch} {e : Env} {s : State} {m : MethodId} {args : Array Value} {below : List Frame} {meth : Method} {c : Code} {G : mG} {b0 : Nat} (C : m_C p s m args c cX14_trade 4 RX14 wsX14_trade G b0) (hr : meth.sig.returnType = (some .int)) (hlocks : meth.locks = false) {κ : Int32 → mM → Prop} {l0 : Option Nat} {M : mM} (h : wX14_trade_21 κ l0 M) : m_W p l e ({ frames := 2, cells := 0, slots := 0, locals := 43 } : Room) s m args below meth c G b0 (MQ below (va_Qi κ (m_B G b0) (fun q => b0 ≤ q)) args s 0 0 (fun q => b0 ≤ q)) 4 M 0 0 21 [(0, va_rf l0)] [] := by
  unfold wX14_trade_21 at h
  refine q_aload_n (pc := 21) C 0 0 dX14_trade_21 rfl rfl ?_
  refine q_iconst (pc := 22) C 1 dX14_trade_22 (by decide) ?_
  obtain ⟨b3, fs9, hb3, hm9, h⟩ := h
  refine q_ci (pc := 23) (q_rV C (st := []) (b := b3) (kX14_refuse l G b0 h) (cwV 1 C.2.2.2.2.1 gX14_trade_X14_refuse rfl rfl rfl (by decide +kernel) ⟨Nat.le_of_ble_eq_true rfl, Nat.le_of_ble_eq_true rfl⟩) hm9 rfl rfl rfl (by first | exact Nat.le_of_ble_eq_true rfl | (simp [q_cat, q_catI, q_catJ, q_catR, q_catN]; done)) (by rw [hb3]; first | done | rfl) dX14_trade_23 ⟨(by first | omega | (dsimp only; omega)), (by first | omega | (dsimp only; omega))⟩) (fun x1 M2 h => ?_)
  exact q_iret (pc := 26) C hr hlocks h dX14_trade_26 (by omega) (by omega)
set_option maxRecDepth 100000 in
set_option maxHeartbeats 4000000 in
theorem tX14_trade_36 {p : Program} {l : Launch} {e : Env} {s : State} {m : MethodId} {args : Array Value} {below : List Frame} {meth : Method} {c : Code} {G : mG} {b0 : Nat} (C : m_C p s m args c cX14_trade 4 RX14 wsX14_trade G b0) (hr : meth.sig.returnType = (some .int)) (hlocks : meth.locks = false) {κ : Int32 → mM → Prop} {l0 : Option Nat} {M : mM} (h : wX14_trade_36 κ l0 M) : m_W p l e ({ frames := 2, cells := 0, slots := 0, locals := 43 } : Room) s m args below meth c G b0 (MQ below (va_Qi κ (m_B G b0) (fun q => b0 ≤ q)) args s 0 0 (fun q => b0 ≤ q)) 4 M 0 0 36 [(0, va_rf l0)] [] := by
  unfold wX14_trade_36 at h
  refine q_aload_n (pc := 36) C 0 0 dX14_trade_36 rfl rfl ?_
  refine q_iconst (pc := 37) C 2 dX14_trade_37 (by decide) ?_
  obtain ⟨b3, fs9, hb3, hm9, h⟩ := h
  refine q_ci (pc := 38) (q_rV C (st := []) (b := b3) (kX14_refuse l G b0 h) (cwV 1 C.2.2.2.2.1 gX14_trade_X14_refuse rfl rfl rfl (by decide +kernel) ⟨Nat.le_of_ble_eq_true rfl, Nat.le_of_ble_eq_true rfl⟩) hm9 rfl rfl rfl (by first | exact Nat.le_of_ble_eq_true rfl | (simp [q_cat, q_catI, q_catJ, q_catR, q_catN]; done)) (by rw [hb3]; first | done | rfl) dX14_trade_38 ⟨(by first | omega | (dsimp only; omega)), (by first | omega | (dsimp only; omega))⟩) (fun x1 M2 h => ?_)
  exact q_iret (pc := 41) C hr hlocks h dX14_trade_41 (by omega) (by omega)
set_option maxRecDepth 100000 in
set_option maxHeartbeats 4000000 in
theorem tX14_trade_71 {p : Program} {l : Launch} {e : Env} {s : State} {m : MethodId} {args : Array Value} {below : List Frame} {meth : Method} {c : Code} {G : mG} {b0 : Nat} (C : m_C p s m args c cX14_trade 4 RX14 wsX14_trade G b0) (hr : meth.sig.returnType = (some .int)) (hlocks : meth.locks = false) {κ : Int32 → mM → Prop} {l0 : Option Nat} {M : mM} (h : wX14_trade_71 κ l0 M) : m_W p l e ({ frames := 2, cells := 0, slots := 0, locals := 43 } : Room) s m args below meth c G b0 (MQ below (va_Qi κ (m_B G b0) (fun q => b0 ≤ q)) args s 0 0 (fun q => b0 ≤ q)) 4 M 0 0 71 [(0, va_rf l0)] [] := by
  unfold wX14_trade_71 at h
  refine q_aload_n (pc := 71) C 0 0 dX14_trade_71 rfl rfl ?_
  refine q_iconst (pc := 72) C 3 dX14_trade_72 (by decide) ?_
  obtain ⟨b3, fs9, hb3, hm9, h⟩ := h
  refine q_ci (pc := 73) (q_rV C (st := []) (b := b3) (kX14_refuse l G b0 h) (cwV 1 C.2.2.2.2.1 gX14_trade_X14_refuse rfl rfl rfl (by decide +kernel) ⟨Nat.le_of_ble_eq_true rfl, Nat.le_of_ble_eq_true rfl⟩) hm9 rfl rfl rfl (by first | exact Nat.le_of_ble_eq_true rfl | (simp [q_cat, q_catI, q_catJ, q_catR, q_catN]; done)) (by rw [hb3]; first | done | rfl) dX14_trade_73 ⟨(by first | omega | (dsimp only; omega)), (by first | omega | (dsimp only; omega))⟩) (fun x1 M2 h => ?_)
  exact q_iret (pc := 76) C hr hlocks h dX14_trade_76 (by omega) (by omega)
set_option maxRecDepth 100000 in
set_option maxHeartbeats 4000000 in
theorem tX14_trade {p : Program} {l : Launch} {e : Env} {s : State} {m : MethodId} {args : Array Value} {below : List Frame} {meth : Method} {c : Code} {G : mG} {b0 : Nat} (C : m_C p s m args c cX14_trade 4 RX14 wsX14_trade G b0) (hr : meth.sig.returnType = (some .int)) (hlocks : meth.locks = false) {κ : Int32 → mM → Prop} {l0 : Option Nat} {l1 : Int32} {l2 : Int32} {l3 : Int32} {M : mM} (h : wX14_trade κ l0 l1 l2 l3 M) : m_W p l e ({ frames := 2, cells := 0, slots := 0, locals := 43 } : Room) s m args below meth c G b0 (MQ below (va_Qi κ (m_B G b0) (fun q => b0 ≤ q)) args s 0 0 (fun q => b0 ≤ q)) 4 M 0 0 0 [(0, va_rf l0), (1, .int l1), (2, .int l2), (3, .int l3)] [] := by
  unfold wX14_trade at h
  refine q_aload_n (pc := 0) C 0 0 dX14_trade_0 rfl rfl ?_
  refine q_iconst (pc := 1) C 0 dX14_trade_1 (by decide) ?_
  refine q_p (pc := 2) C h .int (T := TX14) tyX14 tyX14_ok nmX14 rfl (by decide +kernel) rfl rfl rfl (by decide) (wk_u rfl wm_X14_trade uq_X14 (by decide +kernel)) (by decide +kernel) (fun _ h9 => h9) rfl dX14_trade_2 (fun M1 h => ?_)
  refine q_aload_n (pc := 5) C 0 0 dX14_trade_5 rfl rfl ?_
  refine q_iload_n (pc := 6) C 1 1 dX14_trade_6 rfl rfl ?_
  obtain ⟨b4, fs9, hb4, hm9, h⟩ := h
  refine q_ci (pc := 7) (q_rV C (st := []) (b := b4) (kX14_isLand l G b0 h) (cwV 1 C.2.2.2.2.1 gX14_trade_X14_isLand rfl rfl rfl (by decide +kernel) ⟨Nat.le_of_ble_eq_true rfl, Nat.le_of_ble_eq_true rfl⟩) hm9 rfl rfl rfl (by first | exact Nat.le_of_ble_eq_true rfl | (simp [q_cat, q_catI, q_catJ, q_catR, q_catN]; done)) (by rw [hb4]; first | done | rfl) dX14_trade_7 ⟨(by first | omega | (dsimp only; omega)), (by first | omega | (dsimp only; omega))⟩) (fun x2 M3 h => ?_)
  refine q_if_eq (pc := 10) C 21 dX14_trade_10 (by decide) (fun c5 => ?_) (fun c5 => ?_)
  · have h := h.1 c5
    refine q_widen (k2 := 0) (n2 := 0) (by omega) (by omega) ?_
    refine q_lv [0] rfl ?_
    exact tX14_trade_21 C hr hlocks h
  · have h := h.2 c5
    refine q_aload_n (pc := 13) C 0 0 dX14_trade_13 rfl rfl ?_
    refine q_iload_n (pc := 14) C 2 2 dX14_trade_14 rfl rfl ?_
    obtain ⟨b8, fs9, hb8, hm9, h⟩ := h
    refine q_ci (pc := 15) (q_rV C (st := []) (b := b8) (kX14_isLand l G b0 h) (cwV 1 C.2.2.2.2.1 gX14_trade_X14_isLand rfl rfl rfl (by decide +kernel) ⟨Nat.le_of_ble_eq_true rfl, Nat.le_of_ble_eq_true rfl⟩) hm9 rfl rfl rfl (by first | exact Nat.le_of_ble_eq_true rfl | (simp [q_cat, q_catI, q_catJ, q_catR, q_catN]; done)) (by rw [hb8]; first | done | rfl) dX14_trade_15 ⟨(by first | omega | (dsimp only; omega)), (by first | omega | (dsimp only; omega))⟩) (fun x6 M7 h => ?_)
    refine q_if_ne (pc := 18) C 27 dX14_trade_18 (by decide) (fun c9 => ?_) (fun c9 => ?_)
    · have h := h.2 c9
      refine q_iload_n (pc := 27) C 1 1 dX14_trade_27 rfl rfl ?_
      refine q_iload_n (pc := 28) C 2 2 dX14_trade_28 rfl rfl ?_
      refine q_icmp_eq (pc := 29) C 36 dX14_trade_29 (by decide) (fun c10 => ?_) (fun c10 => ?_)
      · have h := h.1 c10
        refine q_widen (k2 := 0) (n2 := 0) (by omega) (by omega) ?_
        refine q_lv [0] rfl ?_
        exact tX14_trade_36 C hr hlocks h
      · have h := h.2 c10
        refine q_iload_n (pc := 32) C 3 3 dX14_trade_32 rfl rfl ?_
        refine q_if_ge (pc := 33) C 42 dX14_trade_33 (by decide) (fun c11 => ?_) (fun c11 => ?_)
        · have h := h.1 c11
          refine q_aload_n (pc := 42) C 0 0 dX14_trade_42 rfl rfl ?_
          refine q_gR (pc := 43) C h (T := TX14) rfl (by decide) (wk_u rfl wm_X14_trade uq_X14 (by decide +kernel)) (by decide +kernel) (fun _ h9 => h9) dX14_trade_43 (fun x12 h => ?_)
          refine q_iload_n (pc := 46) C 1 1 dX14_trade_46 rfl rfl ?_
          refine q_aald (pc := 47) C h rfl dX14_trade_47 (fun x13 h => ?_)
          refine q_gIN (pc := 48) C h (host := "LullabygateModel") (T := TX11) rfl (by decide) (by decide +kernel) 1323 (by decide +kernel) (fun _ h9 => h9) dX14_trade_48 (fun x14 h => ?_)
          refine q_iload_n (pc := 51) C 3 3 dX14_trade_51 rfl rfl ?_
          refine q_icmp_lt (pc := 52) C 71 dX14_trade_52 (by decide) (fun c15 => ?_) (fun c15 => ?_)
          · have h := h.1 c15
            refine q_widen (k2 := 0) (n2 := 0) (by omega) (by omega) ?_
            refine q_lv [0] rfl ?_
            exact tX14_trade_71 C hr hlocks h
          · have h := h.2 c15
            refine q_aload_n (pc := 55) C 0 0 dX14_trade_55 rfl rfl ?_
            refine q_gR (pc := 56) C h (T := TX14) rfl (by decide) (wk_u rfl wm_X14_trade uq_X14 (by decide +kernel)) (by decide +kernel) (fun _ h9 => h9) dX14_trade_56 (fun x16 h => ?_)
            refine q_iload_n (pc := 59) C 2 2 dX14_trade_59 rfl rfl ?_
            refine q_aald (pc := 60) C h rfl dX14_trade_60 (fun x17 h => ?_)
            refine q_gIN (pc := 61) C h (host := "LullabygateModel") (T := TX11) rfl (by decide) (by decide +kernel) 1323 (by decide +kernel) (fun _ h9 => h9) dX14_trade_61 (fun x18 h => ?_)
            refine q_iload_n (pc := 64) C 3 3 dX14_trade_64 rfl rfl ?_
            refine q_iadd (pc := 65) C dX14_trade_65 ?_
            refine q_bipush (pc := 66) C 30 dX14_trade_66 (by decide) ?_
            refine q_icmp_le (pc := 68) C 77 dX14_trade_68 (by decide) (fun c19 => ?_) (fun c19 => ?_)
            · have h := h.1 c19
              refine q_aload_n (pc := 77) C 0 0 dX14_trade_77 rfl rfl ?_
              refine q_gR (pc := 78) C h (T := TX14) rfl (by decide) (wk_u rfl wm_X14_trade uq_X14 (by decide +kernel)) (by decide +kernel) (fun _ h9 => h9) dX14_trade_78 (fun x20 h => ?_)
              refine q_iload_n (pc := 81) C 1 1 dX14_trade_81 rfl rfl ?_
              refine q_aald (pc := 82) C h rfl dX14_trade_82 (fun x21 h => ?_)
              refine q_dup (pc := 83) C dX14_trade_83 (q_cat _) ?_
              refine q_gIN (pc := 84) C h (host := "LullabygateModel") (T := TX11) rfl (by decide) (by decide +kernel) 1323 (by decide +kernel) (fun _ h9 => h9) dX14_trade_84 (fun x22 h => ?_)
              refine q_iload_n (pc := 87) C 3 3 dX14_trade_87 rfl rfl ?_
              refine q_isub (pc := 88) C dX14_trade_88 ?_
              refine q_pN (pc := 89) C h .int (host := "LullabygateModel") (T := TX11) tyX11 tyX11_ok nmX11 rfl (by decide +kernel) rfl rfl rfl (by decide) (by decide +kernel) 1323 (by decide +kernel) (fun _ h9 => h9) rfl dX14_trade_89 (fun M23 h => ?_)
              refine q_aload_n (pc := 92) C 0 0 dX14_trade_92 rfl rfl ?_
              refine q_gR (pc := 93) C h (T := TX14) rfl (by decide) (wk_u rfl wm_X14_trade uq_X14 (by decide +kernel)) (by decide +kernel) (fun _ h9 => h9) dX14_trade_93 (fun x24 h => ?_)
              refine q_iload_n (pc := 96) C 2 2 dX14_trade_96 rfl rfl ?_
              refine q_aald (pc := 97) C h rfl dX14_trade_97 (fun x25 h => ?_)
              refine q_dup (pc := 98) C dX14_trade_98 (q_cat _) ?_
              refine q_gIN (pc := 99) C h (host := "LullabygateModel") (T := TX11) rfl (by decide) (by decide +kernel) 1323 (by decide +kernel) (fun _ h9 => h9) dX14_trade_99 (fun x26 h => ?_)
              refine q_iload_n (pc := 102) C 3 3 dX14_trade_102 rfl rfl ?_
              refine q_iadd (pc := 103) C dX14_trade_103 ?_
              refine q_pN (pc := 104) C h .int (host := "LullabygateModel") (T := TX11) tyX11 tyX11_ok nmX11 rfl (by decide +kernel) rfl rfl rfl (by decide) (by decide +kernel) 1323 (by decide +kernel) (fun _ h9 => h9) rfl dX14_trade_104 (fun M27 h => ?_)
              refine q_aload_n (pc := 107) C 0 0 dX14_trade_107 rfl rfl ?_
              refine q_gR (pc := 108) C h (T := TX14) rfl (by decide) (wk_u rfl wm_X14_trade uq_X14 (by decide +kernel)) (by decide +kernel) (fun _ h9 => h9) dX14_trade_108 (fun x28 h => ?_)
              refine q_iload_n (pc := 111) C 2 2 dX14_trade_111 rfl rfl ?_
              refine q_aald (pc := 112) C h rfl dX14_trade_112 (fun x29 h => ?_)
              refine q_gIN (pc := 113) C h (host := "LullabygateModel") (T := TX11) rfl (by decide) (by decide +kernel) 1323 (by decide +kernel) (fun _ h9 => h9) dX14_trade_113 (fun x30 h => ?_)
              exact q_iret (pc := 116) C hr hlocks h dX14_trade_116 (by omega) (by omega)
            · have h := h.2 c19
              refine q_widen (k2 := 0) (n2 := 0) (by omega) (by omega) ?_
              refine q_lv [0] rfl ?_
              exact tX14_trade_71 C hr hlocks h
        · have h := h.2 c11
          refine q_widen (k2 := 0) (n2 := 0) (by omega) (by omega) ?_
          refine q_lv [0] rfl ?_
          exact tX14_trade_36 C hr hlocks h
    · have h := h.1 c9
      refine q_widen (k2 := 0) (n2 := 0) (by omega) (by omega) ?_
      refine q_lv [0] rfl ?_
      exact tX14_trade_21 C hr hlocks h
set_option maxRecDepth 100000 in
set_option maxHeartbeats 4000000 in
theorem kX14_trade (l : Launch) (G : mG) (b0 : Nat) {b : Nat} {l1 : Int32} {l2 : Int32} {l3 : Int32} {M : mM} {κ : Int32 → mM → Prop} (h : wX14_trade κ (some b) l1 l2 l3 M) : Met l yX14_trade wsX14_trade ({ frames := 2, cells := 0, slots := 0, locals := 43 } : Room) (va_Pc [.ref b, .int l1, .int l2, .int l3] (m_Pre G b0 M)) (va_Qi κ (m_B G b0) (fun q => b0 ≤ q)) 0 0 (fun q => b0 ≤ q) := by
  refine m_met (cc := cX14_trade) (maxL := 4) (ret := (some .int)) (lv := [(0, va_rf (some b)), (1, .int l1), (2, .int l2), (3, .int l3)]) RX14 rfl (by decide +kernel) rfl (by first | exact Nat.le_of_ble_eq_true rfl | simp [lg_sl, q_cat, q_catI, q_catJ, q_catR, q_catN]) (by first | rfl | (simp [lv_args, q_cat, q_catI, q_catJ, q_catR, q_catN]; done) | (simp [lv_args, q_cat, q_catI, q_catJ, q_catR, q_catN]; rfl)) ?_
  intro p e s m args below meth c C hr hlocks hni
  exact tX14_trade C hr hlocks h
/-! X14_gate -/
set_option maxRecDepth 100000 in
set_option maxHeartbeats 4000000 in
theorem tX14_gate_21 {p : Program} {l : Launch} {e : Env} {s : State} {m : MethodId} {args : Array Value} {below : List Frame} {meth : Method} {c : Code} {G : mG} {b0 : Nat} (C : m_C p s m args c cX14_gate 6 RX14 wsX14_gate G b0) (hr : meth.sig.returnType = (some .int)) (hlocks : meth.locks = false) {g : Nat → Nat} (hg : G.2.2 = g) {κ : Int32 → mM → Prop} {l0 : Option Nat} {M : mM} (h : wX14_gate_21 g κ l0 M) : m_W p l e ({ frames := 7, cells := 4, slots := 118, locals := 171 } : Room) s m args below meth c G b0 (MQ below (va_Qi κ (m_B G b0) (fun q => b0 ≤ q)) args s 4 118 (fun q => b0 ≤ q)) 6 M 0 0 21 [(0, va_rf l0)] [] := by
  unfold wX14_gate_21 at h
  refine q_aload_n (pc := 21) C 0 0 dX14_gate_21 rfl rfl ?_
  refine q_iconst (pc := 22) C 1 dX14_gate_22 (by decide) ?_
  obtain ⟨b3, fs9, hb3, hm9, h⟩ := h
  refine q_ci (pc := 23) (q_rV C (st := []) (b := b3) (kX14_refuse l G b0 h) (cwV 1 C.2.2.2.2.1 gX14_gate_X14_refuse rfl rfl rfl (by decide +kernel) ⟨Nat.le_of_ble_eq_true rfl, Nat.le_of_ble_eq_true rfl⟩) hm9 rfl rfl rfl (by first | exact Nat.le_of_ble_eq_true rfl | (simp [q_cat, q_catI, q_catJ, q_catR, q_catN]; done)) (by rw [hb3]; first | done | rfl) dX14_gate_23 ⟨(by first | omega | (dsimp only; omega)), (by first | omega | (dsimp only; omega))⟩) (fun x1 M2 h => ?_)
  exact q_iret (pc := 26) C hr hlocks h dX14_gate_26 (by omega) (by omega)
set_option maxRecDepth 100000 in
set_option maxHeartbeats 4000000 in
theorem tX14_gate_53 {p : Program} {l : Launch} {e : Env} {s : State} {m : MethodId} {args : Array Value} {below : List Frame} {meth : Method} {c : Code} {G : mG} {b0 : Nat} (C : m_C p s m args c cX14_gate 6 RX14 wsX14_gate G b0) (hr : meth.sig.returnType = (some .int)) (hlocks : meth.locks = false) {g : Nat → Nat} (hg : G.2.2 = g) {κ : Int32 → mM → Prop} {l0 : Option Nat} {M : mM} (h : wX14_gate_53 g κ l0 M) : m_W p l e ({ frames := 7, cells := 4, slots := 118, locals := 171 } : Room) s m args below meth c G b0 (MQ below (va_Qi κ (m_B G b0) (fun q => b0 ≤ q)) args s 4 118 (fun q => b0 ≤ q)) 6 M 0 0 53 [(0, va_rf l0)] [] := by
  unfold wX14_gate_53 at h
  refine q_aload_n (pc := 53) C 0 0 dX14_gate_53 rfl rfl ?_
  refine q_iconst (pc := 54) C 2 dX14_gate_54 (by decide) ?_
  obtain ⟨b3, fs9, hb3, hm9, h⟩ := h
  refine q_ci (pc := 55) (q_rV C (st := []) (b := b3) (kX14_refuse l G b0 h) (cwV 1 C.2.2.2.2.1 gX14_gate_X14_refuse rfl rfl rfl (by decide +kernel) ⟨Nat.le_of_ble_eq_true rfl, Nat.le_of_ble_eq_true rfl⟩) hm9 rfl rfl rfl (by first | exact Nat.le_of_ble_eq_true rfl | (simp [q_cat, q_catI, q_catJ, q_catR, q_catN]; done)) (by rw [hb3]; first | done | rfl) dX14_gate_55 ⟨(by first | omega | (dsimp only; omega)), (by first | omega | (dsimp only; omega))⟩) (fun x1 M2 h => ?_)
  exact q_iret (pc := 58) C hr hlocks h dX14_gate_58 (by omega) (by omega)
set_option maxRecDepth 100000 in
set_option maxHeartbeats 4000000 in
theorem tX14_gate {p : Program} {l : Launch} {e : Env} {s : State} {m : MethodId} {args : Array Value} {below : List Frame} {meth : Method} {c : Code} {G : mG} {b0 : Nat} (C : m_C p s m args c cX14_gate 6 RX14 wsX14_gate G b0) (hr : meth.sig.returnType = (some .int)) (hlocks : meth.locks = false) {g : Nat → Nat} (hg : G.2.2 = g) {κ : Int32 → mM → Prop} {l0 : Option Nat} {l1 : Int32} {l2 : Int32} {l3 : Int32} {l4 : Int32} {M : mM} (h : wX14_gate g κ l0 l1 l2 l3 l4 M) : m_W p l e ({ frames := 7, cells := 4, slots := 118, locals := 171 } : Room) s m args below meth c G b0 (MQ below (va_Qi κ (m_B G b0) (fun q => b0 ≤ q)) args s 4 118 (fun q => b0 ≤ q)) 6 M 0 0 0 [(0, va_rf l0), (1, .int l1), (2, .int l2), (3, .int l3), (4, .int l4)] [] := by
  unfold wX14_gate at h
  refine q_aload_n (pc := 0) C 0 0 dX14_gate_0 rfl rfl ?_
  refine q_iconst (pc := 1) C 0 dX14_gate_1 (by decide) ?_
  refine q_p (pc := 2) C h .int (T := TX14) tyX14 tyX14_ok nmX14 rfl (by decide +kernel) rfl rfl rfl (by decide) (wk_u rfl wm_X14_gate uq_X14 (by decide +kernel)) (by decide +kernel) (fun _ h9 => h9) rfl dX14_gate_2 (fun M1 h => ?_)
  refine q_aload_n (pc := 5) C 0 0 dX14_gate_5 rfl rfl ?_
  refine q_iload_n (pc := 6) C 1 1 dX14_gate_6 rfl rfl ?_
  obtain ⟨b4, fs9, hb4, hm9, h⟩ := h
  refine q_ci (pc := 7) (q_rV C (st := []) (b := b4) (kX14_isLand l G b0 h) (cwV 1 C.2.2.2.2.1 gX14_gate_X14_isLand rfl rfl rfl (by decide +kernel) ⟨Nat.le_of_ble_eq_true rfl, Nat.le_of_ble_eq_true rfl⟩) hm9 rfl rfl rfl (by first | exact Nat.le_of_ble_eq_true rfl | (simp [q_cat, q_catI, q_catJ, q_catR, q_catN]; done)) (by rw [hb4]; first | done | rfl) dX14_gate_7 ⟨(by first | omega | (dsimp only; omega)), (by first | omega | (dsimp only; omega))⟩) (fun x2 M3 h => ?_)
  refine q_if_eq (pc := 10) C 21 dX14_gate_10 (by decide) (fun c5 => ?_) (fun c5 => ?_)
  · have h := h.1 c5
    refine q_widen (k2 := 0) (n2 := 0) (by omega) (by omega) ?_
    refine q_lv [0] rfl ?_
    exact tX14_gate_21 C hr hlocks hg h
  · have h := h.2 c5
    refine q_aload_n (pc := 13) C 0 0 dX14_gate_13 rfl rfl ?_
    refine q_iload_n (pc := 14) C 2 2 dX14_gate_14 rfl rfl ?_
    obtain ⟨b8, fs9, hb8, hm9, h⟩ := h
    refine q_ci (pc := 15) (q_rV C (st := []) (b := b8) (kX14_isLand l G b0 h) (cwV 1 C.2.2.2.2.1 gX14_gate_X14_isLand rfl rfl rfl (by decide +kernel) ⟨Nat.le_of_ble_eq_true rfl, Nat.le_of_ble_eq_true rfl⟩) hm9 rfl rfl rfl (by first | exact Nat.le_of_ble_eq_true rfl | (simp [q_cat, q_catI, q_catJ, q_catR, q_catN]; done)) (by rw [hb8]; first | done | rfl) dX14_gate_15 ⟨(by first | omega | (dsimp only; omega)), (by first | omega | (dsimp only; omega))⟩) (fun x6 M7 h => ?_)
    refine q_if_ne (pc := 18) C 27 dX14_gate_18 (by decide) (fun c9 => ?_) (fun c9 => ?_)
    · have h := h.2 c9
      refine q_iload_n (pc := 27) C 1 1 dX14_gate_27 rfl rfl ?_
      refine q_iload_n (pc := 28) C 2 2 dX14_gate_28 rfl rfl ?_
      refine q_icmp_eq (pc := 29) C 53 dX14_gate_29 (by decide) (fun c10 => ?_) (fun c10 => ?_)
      · have h := h.1 c10
        refine q_widen (k2 := 0) (n2 := 0) (by omega) (by omega) ?_
        refine q_lv [0] rfl ?_
        exact tX14_gate_53 C hr hlocks hg h
      · have h := h.2 c10
        refine q_iload_n (pc := 32) C 3 3 dX14_gate_32 rfl rfl ?_
        refine q_iconst (pc := 33) C 0 dX14_gate_33 (by decide) ?_
        refine q_bipush (pc := 34) C 23 dX14_gate_34 (by decide) ?_
        refine q_ci (pc := 36) (q_rS C (st := []) (kX14_is l G b0 h) (va_cwS 3 C.2.2.2.2.1 gX14_gate_X14_is rfl rfl rfl (by decide +kernel) ⟨Nat.le_of_ble_eq_true rfl, Nat.le_of_ble_eq_true rfl⟩) rfl (by first | exact Nat.le_of_ble_eq_true rfl | (simp [q_cat, q_catI, q_catJ, q_catR, q_catN]; done)) rfl dX14_gate_36 ⟨(by first | omega | (dsimp only; omega)), (by first | omega | (dsimp only; omega))⟩) (fun x11 M12 h => ?_)
        refine q_if_eq (pc := 39) C 53 dX14_gate_39 (by decide) (fun c13 => ?_) (fun c13 => ?_)
        · have h := h.1 c13
          refine q_widen (k2 := 0) (n2 := 0) (by omega) (by omega) ?_
          refine q_lv [0] rfl ?_
          exact tX14_gate_53 C hr hlocks hg h
        · have h := h.2 c13
          refine q_iload (pc := 42) C 4 4 dX14_gate_42 rfl ?_
          refine q_iconst (pc := 44) C 1 dX14_gate_44 (by decide) ?_
          refine q_bipush (pc := 45) C 24 dX14_gate_45 (by decide) ?_
          refine q_ci (pc := 47) (q_rS C (st := []) (kX14_is l G b0 h) (va_cwS 3 C.2.2.2.2.1 gX14_gate_X14_is rfl rfl rfl (by decide +kernel) ⟨Nat.le_of_ble_eq_true rfl, Nat.le_of_ble_eq_true rfl⟩) rfl (by first | exact Nat.le_of_ble_eq_true rfl | (simp [q_cat, q_catI, q_catJ, q_catR, q_catN]; done)) rfl dX14_gate_47 ⟨(by first | omega | (dsimp only; omega)), (by first | omega | (dsimp only; omega))⟩) (fun x14 M15 h => ?_)
          refine q_if_ne (pc := 50) C 59 dX14_gate_50 (by decide) (fun c16 => ?_) (fun c16 => ?_)
          · have h := h.2 c16
            refine q_aload_n (pc := 59) C 0 0 dX14_gate_59 rfl rfl ?_
            refine q_gR (pc := 60) C h (T := TX14) rfl (by decide) (wk_u rfl wm_X14_gate uq_X14 (by decide +kernel)) (by decide +kernel) (fun _ h9 => h9) dX14_gate_60 (fun x17 h => ?_)
            obtain ⟨b20, fs9, hb20, hm9, h⟩ := h
            refine q_ci (pc := 63) (q_rV C (st := []) (b := b20) (kJx4a65c_size_8abf5 l G b0 h) (cwV 0 C.2.2.2.2.1 gX14_gate_Jx4a65c_size_8abf5 rfl rfl rfl (by decide +kernel) ⟨Nat.le_of_ble_eq_true rfl, Nat.le_of_ble_eq_true rfl⟩) hm9 rfl rfl rfl (by first | exact Nat.le_of_ble_eq_true rfl | (simp [q_cat, q_catI, q_catJ, q_catR, q_catN]; done)) (by rw [hb20]; first | done | rfl) dX14_gate_63 ⟨(by first | omega | (dsimp only; omega)), (by first | omega | (dsimp only; omega))⟩) (fun x18 M19 h => ?_)
            refine q_bipush (pc := 66) C 8 dX14_gate_66 (by decide) ?_
            refine q_icmp_ne (pc := 68) C 77 dX14_gate_68 (by decide) (fun c21 => ?_) (fun c21 => ?_)
            · have h := h.2 c21
              refine q_new (pc := 77) C h rfl (T := TX10) tyX10 tyX10_ok rfl (by decide +kernel) (by decide +kernel) (by decide +kernel) (by decide +kernel) (fun j hj => by rcases (show j = 0 ∨ j = 1 ∨ j = 2 ∨ j = 3 ∨ j = 4 ∨ j = 5 ∨ j = 6 ∨ j = 7 by omega) with rfl | rfl | rfl | rfl | rfl | rfl | rfl | rfl <;> rfl) (by first | omega | (dsimp only; omega)) (by first | omega | (dsimp only; omega)) dX14_gate_77 (fun q22 M23 h => ?_)
              refine q_dup (pc := 80) C dX14_gate_80 (q_cat _) ?_
              obtain ⟨b25, fs9, hb25, hm9, h⟩ := h
              refine q_cv (pc := 81) (q_rIN C (st := [va_rf (some q22)]) (b := b25) (kX10_init l G b0 hg h) ⟨va_cnB (host := "LullabygateModel") 0 C.2.2.2.2.1 gX14_gate_X10_init_n70 rfl rfl rfl (C.2.2.2.2.2.2.1.1 _ (List.mem_of_getElem? (i := 1411) (by decide +kernel)) rfl) (C.2.2.2.2.1 (.initialized RX10) (by decide +kernel)) (by decide +kernel) ⟨Nat.le_of_ble_eq_true rfl, Nat.le_of_ble_eq_true rfl⟩, rfl, C.2.2.2.2.1 (.instanceMethod yX10_init) (by decide +kernel)⟩ rfl (by first | exact Nat.le_of_ble_eq_true rfl | (simp [q_cat, q_catI, q_catJ, q_catR, q_catN]; done)) (by rw [hb25]; first | done | rfl) dX14_gate_81 ⟨(by first | omega | (dsimp only; omega)), (by first | omega | (dsimp only; omega))⟩) (fun M24 h => ?_)
              refine q_astore (pc := 84) C 5 [(5, va_rf (some q22)), (0, va_rf l0), (1, .int l1), (2, .int l2), (3, .int l3), (4, .int l4)] dX14_gate_84 (by decide) (by first | rfl | simp [q_cat, q_catI, q_catJ, q_catR, q_catN]) ?_
              refine q_aload (pc := 86) C 5 0 dX14_gate_86 rfl ?_
              refine q_iload_n (pc := 88) C 1 2 dX14_gate_88 rfl rfl ?_
              refine q_pN (pc := 89) C h .int (host := "LullabygateModel") (T := TX10) tyX10 tyX10_ok nmX10 rfl (by decide +kernel) rfl rfl rfl (by decide) (by decide +kernel) 1418 (by decide +kernel) (fun _ h9 => h9) rfl dX14_gate_89 (fun M26 h => ?_)
              refine q_aload (pc := 92) C 5 0 dX14_gate_92 rfl ?_
              refine q_iload_n (pc := 94) C 2 3 dX14_gate_94 rfl rfl ?_
              refine q_pN (pc := 95) C h .int (host := "LullabygateModel") (T := TX10) tyX10 tyX10_ok nmX10 rfl (by decide +kernel) rfl rfl rfl (by decide) (by decide +kernel) 1420 (by decide +kernel) (fun _ h9 => h9) rfl dX14_gate_95 (fun M27 h => ?_)
              refine q_aload (pc := 98) C 5 0 dX14_gate_98 rfl ?_
              refine q_iload_n (pc := 100) C 3 4 dX14_gate_100 rfl rfl ?_
              refine q_pN (pc := 101) C h .int (host := "LullabygateModel") (T := TX10) tyX10 tyX10_ok nmX10 rfl (by decide +kernel) rfl rfl rfl (by decide) (by decide +kernel) 1422 (by decide +kernel) (fun _ h9 => h9) rfl dX14_gate_101 (fun M28 h => ?_)
              refine q_aload (pc := 104) C 5 0 dX14_gate_104 rfl ?_
              refine q_iload (pc := 106) C 4 5 dX14_gate_106 rfl ?_
              refine q_pN (pc := 108) C h .int (host := "LullabygateModel") (T := TX10) tyX10 tyX10_ok nmX10 rfl (by decide +kernel) rfl rfl rfl (by decide) (by decide +kernel) 1424 (by decide +kernel) (fun _ h9 => h9) rfl dX14_gate_108 (fun M29 h => ?_)
              refine q_aload_n (pc := 111) C 0 1 dX14_gate_111 rfl rfl ?_
              refine q_gR (pc := 112) C h (T := TX14) rfl (by decide) (wk_u rfl wm_X14_gate uq_X14 (by decide +kernel)) (by decide +kernel) (fun _ h9 => h9) dX14_gate_112 (fun x30 h => ?_)
              refine q_aload (pc := 115) C 5 0 dX14_gate_115 rfl ?_
              obtain ⟨b33, fs9, hb33, hm9, h⟩ := h
              refine q_ci (pc := 117) (q_rV C (st := []) (b := b33) (kJx4a65c_add_9ea2d l G b0 hg (by decide) h) (cwV 1 C.2.2.2.2.1 gX14_gate_Jx4a65c_add_9ea2d rfl rfl rfl (by decide +kernel) ⟨Nat.le_of_ble_eq_true rfl, Nat.le_of_ble_eq_true rfl⟩) hm9 rfl rfl rfl (by first | exact Nat.le_of_ble_eq_true rfl | (simp [q_cat, q_catI, q_catJ, q_catR, q_catN]; done)) (by rw [hb33]; first | done | rfl) dX14_gate_117 ⟨(by first | omega | (dsimp only; omega)), (by first | omega | (dsimp only; omega))⟩) (fun x31 M32 h => ?_)
              refine q_pop (pc := 120) C dX14_gate_120 rfl ?_
              refine q_aload_n (pc := 121) C 0 1 dX14_gate_121 rfl rfl ?_
              refine q_gR (pc := 122) C h (T := TX14) rfl (by decide) (wk_u rfl wm_X14_gate uq_X14 (by decide +kernel)) (by decide +kernel) (fun _ h9 => h9) dX14_gate_122 (fun x34 h => ?_)
              obtain ⟨b37, fs9, hb37, hm9, h⟩ := h
              refine q_ci (pc := 125) (q_rV C (st := []) (b := b37) (kJx4a65c_size_8abf5 l G b0 h) (cwV 0 C.2.2.2.2.1 gX14_gate_Jx4a65c_size_8abf5 rfl rfl rfl (by decide +kernel) ⟨Nat.le_of_ble_eq_true rfl, Nat.le_of_ble_eq_true rfl⟩) hm9 rfl rfl rfl (by first | exact Nat.le_of_ble_eq_true rfl | (simp [q_cat, q_catI, q_catJ, q_catR, q_catN]; done)) (by rw [hb37]; first | done | rfl) dX14_gate_125 ⟨(by first | omega | (dsimp only; omega)), (by first | omega | (dsimp only; omega))⟩) (fun x35 M36 h => ?_)
              refine q_iconst (pc := 128) C 1 dX14_gate_128 (by decide) ?_
              refine q_isub (pc := 129) C dX14_gate_129 ?_
              exact q_iret (pc := 130) C hr hlocks h dX14_gate_130 (by omega) (by omega)
            · have h := h.1 c21
              refine q_aload_n (pc := 71) C 0 0 dX14_gate_71 rfl rfl ?_
              refine q_iconst (pc := 72) C 3 dX14_gate_72 (by decide) ?_
              obtain ⟨b40, fs9, hb40, hm9, h⟩ := h
              refine q_ci (pc := 73) (q_rV C (st := []) (b := b40) (kX14_refuse l G b0 h) (cwV 1 C.2.2.2.2.1 gX14_gate_X14_refuse rfl rfl rfl (by decide +kernel) ⟨Nat.le_of_ble_eq_true rfl, Nat.le_of_ble_eq_true rfl⟩) hm9 rfl rfl rfl (by first | exact Nat.le_of_ble_eq_true rfl | (simp [q_cat, q_catI, q_catJ, q_catR, q_catN]; done)) (by rw [hb40]; first | done | rfl) dX14_gate_73 ⟨(by first | omega | (dsimp only; omega)), (by first | omega | (dsimp only; omega))⟩) (fun x38 M39 h => ?_)
              exact q_iret (pc := 76) C hr hlocks h dX14_gate_76 (by omega) (by omega)
          · have h := h.1 c16
            refine q_widen (k2 := 0) (n2 := 0) (by omega) (by omega) ?_
            refine q_lv [0] rfl ?_
            exact tX14_gate_53 C hr hlocks hg h
    · have h := h.1 c9
      refine q_widen (k2 := 0) (n2 := 0) (by omega) (by omega) ?_
      refine q_lv [0] rfl ?_
      exact tX14_gate_21 C hr hlocks hg h
set_option maxRecDepth 100000 in
set_option maxHeartbeats 4000000 in
theorem kX14_gate (l : Launch) (G : mG) (b0 : Nat) {g : Nat → Nat} (hg : G.2.2 = g) {b : Nat} {l1 : Int32} {l2 : Int32} {l3 : Int32} {l4 : Int32} {M : mM} {κ : Int32 → mM → Prop} (h : wX14_gate g κ (some b) l1 l2 l3 l4 M) : Met l yX14_gate wsX14_gate ({ frames := 7, cells := 4, slots := 118, locals := 171 } : Room) (va_Pc [.ref b, .int l1, .int l2, .int l3, .int l4] (m_Pre G b0 M)) (va_Qi κ (m_B G b0) (fun q => b0 ≤ q)) 4 118 (fun q => b0 ≤ q) := by
  refine m_met (cc := cX14_gate) (maxL := 6) (ret := (some .int)) (lv := [(0, va_rf (some b)), (1, .int l1), (2, .int l2), (3, .int l3), (4, .int l4)]) RX14 rfl (by decide +kernel) rfl (by first | exact Nat.le_of_ble_eq_true rfl | simp [lg_sl, q_cat, q_catI, q_catJ, q_catR, q_catN]) (by first | rfl | (simp [lv_args, q_cat, q_catI, q_catJ, q_catR, q_catN]; done) | (simp [lv_args, q_cat, q_catI, q_catJ, q_catR, q_catN]; rfl)) ?_
  intro p e s m args below meth c C hr hlocks hni
  exact tX14_gate C hr hlocks hg h
/-! X14_odds -/
set_option maxRecDepth 100000 in
set_option maxHeartbeats 4000000 in
theorem tX14_odds {p : Program} {l : Launch} {e : Env} {s : State} {m : MethodId} {args : Array Value} {below : List Frame} {meth : Method} {c : Code} {G : mG} {b0 : Nat} (C : m_C p s m args c cX14_odds 4 RX14 wsX14_odds G b0) (hr : meth.sig.returnType = (some .int)) (hlocks : meth.locks = false) {κ : Int32 → mM → Prop} {l0 : Option Nat} {l1 : Int32} {l2 : Int32} {M : mM} (h : wX14_odds κ l0 l1 l2 M) : m_W p l e ({ frames := 3, cells := 0, slots := 0, locals := 64 } : Room) s m args below meth c G b0 (MQ below (va_Qi κ (m_B G b0) (fun q => b0 ≤ q)) args s 0 0 (fun q => b0 ≤ q)) 4 M 0 0 0 [(0, va_rf l0), (1, .int l1), (2, .int l2)] [] := by
  unfold wX14_odds at h
  refine q_aload_n (pc := 0) C 0 0 dX14_odds_0 rfl rfl ?_
  refine q_iconst (pc := 1) C 0 dX14_odds_1 (by decide) ?_
  refine q_p (pc := 2) C h .int (T := TX14) tyX14 tyX14_ok nmX14 rfl (by decide +kernel) rfl rfl rfl (by decide) (wk_u rfl wm_X14_odds uq_X14 (by decide +kernel)) (by decide +kernel) (fun _ h9 => h9) rfl dX14_odds_2 (fun M1 h => ?_)
  refine q_aload_n (pc := 5) C 0 0 dX14_odds_5 rfl rfl ?_
  refine q_iload_n (pc := 6) C 1 1 dX14_odds_6 rfl rfl ?_
  obtain ⟨b4, fs9, hb4, hm9, h⟩ := h
  refine q_ci (pc := 7) (q_rV C (st := []) (b := b4) (kX14_isGate l G b0 h) (cwV 1 C.2.2.2.2.1 gX14_odds_X14_isGate rfl rfl rfl (by decide +kernel) ⟨Nat.le_of_ble_eq_true rfl, Nat.le_of_ble_eq_true rfl⟩) hm9 rfl rfl rfl (by first | exact Nat.le_of_ble_eq_true rfl | (simp [q_cat, q_catI, q_catJ, q_catR, q_catN]; done)) (by rw [hb4]; first | done | rfl) dX14_odds_7 ⟨(by first | omega | (dsimp only; omega)), (by first | omega | (dsimp only; omega))⟩) (fun x2 M3 h => ?_)
  refine q_if_ne (pc := 10) C 19 dX14_odds_10 (by decide) (fun c5 => ?_) (fun c5 => ?_)
  · have h := h.2 c5
    refine q_iload_n (pc := 19) C 2 2 dX14_odds_19 rfl rfl ?_
    refine q_iconst (pc := 20) C 0 dX14_odds_20 (by decide) ?_
    refine q_bipush (pc := 21) C 10 dX14_odds_21 (by decide) ?_
    refine q_ci (pc := 23) (q_rS C (st := []) (kX14_is l G b0 h) (va_cwS 3 C.2.2.2.2.1 gX14_odds_X14_is rfl rfl rfl (by decide +kernel) ⟨Nat.le_of_ble_eq_true rfl, Nat.le_of_ble_eq_true rfl⟩) rfl (by first | exact Nat.le_of_ble_eq_true rfl | (simp [q_cat, q_catI, q_catJ, q_catR, q_catN]; done)) rfl dX14_odds_23 ⟨(by first | omega | (dsimp only; omega)), (by first | omega | (dsimp only; omega))⟩) (fun x6 M7 h => ?_)
    refine q_if_ne (pc := 26) C 35 dX14_odds_26 (by decide) (fun c8 => ?_) (fun c8 => ?_)
    · have h := h.2 c8
      refine q_aload_n (pc := 35) C 0 0 dX14_odds_35 rfl rfl ?_
      refine q_gR (pc := 36) C h (T := TX14) rfl (by decide) (wk_u rfl wm_X14_odds uq_X14 (by decide +kernel)) (by decide +kernel) (fun _ h9 => h9) dX14_odds_36 (fun x9 h => ?_)
      refine q_iload_n (pc := 39) C 1 1 dX14_odds_39 rfl rfl ?_
      obtain ⟨b12, fs9, hb12, hm9, h⟩ := h
      refine q_cq (pc := 40) (q_rV C (st := []) (b := b12) (kJx4a65c_get_915e3 l G b0 h) (cwV 1 C.2.2.2.2.1 gX14_odds_Jx4a65c_get_915e3 rfl rfl rfl (by decide +kernel) ⟨Nat.le_of_ble_eq_true rfl, Nat.le_of_ble_eq_true rfl⟩) hm9 rfl rfl rfl (by first | exact Nat.le_of_ble_eq_true rfl | (simp [q_cat, q_catI, q_catJ, q_catR, q_catN]; done)) (by rw [hb12]; first | done | rfl) dX14_odds_40 ⟨(by first | omega | (dsimp only; omega)), (by first | omega | (dsimp only; omega))⟩) (fun x10 M11 h => ?_)
      refine q_cast (pc := 43) C h rfl rfl (by decide +kernel) dX14_odds_43 (fun h => ?_)
      refine q_gIN (pc := 46) C h (host := "LullabygateModel") (T := TX10) rfl (by decide) (by decide +kernel) 1426 (by decide +kernel) (fun _ h9 => h9) dX14_odds_46 (fun x13 h => ?_)
      refine q_istore_n (pc := 49) C 3 [(3, .int x13), (0, va_rf l0), (1, .int l1), (2, .int l2)] dX14_odds_49 rfl (by decide) (by first | rfl | simp [q_cat, q_catI, q_catJ, q_catR, q_catN]) ?_
      refine q_aload_n (pc := 50) C 0 1 dX14_odds_50 rfl rfl ?_
      refine q_gR (pc := 51) C h (T := TX14) rfl (by decide) (wk_u rfl wm_X14_odds uq_X14 (by decide +kernel)) (by decide +kernel) (fun _ h9 => h9) dX14_odds_51 (fun x14 h => ?_)
      refine q_iload_n (pc := 54) C 1 2 dX14_odds_54 rfl rfl ?_
      obtain ⟨b17, fs9, hb17, hm9, h⟩ := h
      refine q_cq (pc := 55) (q_rV C (st := []) (b := b17) (kJx4a65c_get_915e3 l G b0 h) (cwV 1 C.2.2.2.2.1 gX14_odds_Jx4a65c_get_915e3 rfl rfl rfl (by decide +kernel) ⟨Nat.le_of_ble_eq_true rfl, Nat.le_of_ble_eq_true rfl⟩) hm9 rfl rfl rfl (by first | exact Nat.le_of_ble_eq_true rfl | (simp [q_cat, q_catI, q_catJ, q_catR, q_catN]; done)) (by rw [hb17]; first | done | rfl) dX14_odds_55 ⟨(by first | omega | (dsimp only; omega)), (by first | omega | (dsimp only; omega))⟩) (fun x15 M16 h => ?_)
      refine q_cast (pc := 58) C h rfl rfl (by decide +kernel) dX14_odds_58 (fun h => ?_)
      refine q_iload_n (pc := 61) C 2 3 dX14_odds_61 rfl rfl ?_
      refine q_pN (pc := 62) C h .int (host := "LullabygateModel") (T := TX10) tyX10 tyX10_ok nmX10 rfl (by decide +kernel) rfl rfl rfl (by decide) (by decide +kernel) 1426 (by decide +kernel) (fun _ h9 => h9) rfl dX14_odds_62 (fun M18 h => ?_)
      refine q_iload_n (pc := 65) C 3 0 dX14_odds_65 rfl rfl ?_
      exact q_iret (pc := 66) C hr hlocks h dX14_odds_66 (by omega) (by omega)
    · have h := h.1 c8
      refine q_aload_n (pc := 29) C 0 0 dX14_odds_29 rfl rfl ?_
      refine q_iconst (pc := 30) C 2 dX14_odds_30 (by decide) ?_
      obtain ⟨b21, fs9, hb21, hm9, h⟩ := h
      refine q_ci (pc := 31) (q_rV C (st := []) (b := b21) (kX14_refuse l G b0 h) (cwV 1 C.2.2.2.2.1 gX14_odds_X14_refuse rfl rfl rfl (by decide +kernel) ⟨Nat.le_of_ble_eq_true rfl, Nat.le_of_ble_eq_true rfl⟩) hm9 rfl rfl rfl (by first | exact Nat.le_of_ble_eq_true rfl | (simp [q_cat, q_catI, q_catJ, q_catR, q_catN]; done)) (by rw [hb21]; first | done | rfl) dX14_odds_31 ⟨(by first | omega | (dsimp only; omega)), (by first | omega | (dsimp only; omega))⟩) (fun x19 M20 h => ?_)
      exact q_iret (pc := 34) C hr hlocks h dX14_odds_34 (by omega) (by omega)
  · have h := h.1 c5
    refine q_aload_n (pc := 13) C 0 0 dX14_odds_13 rfl rfl ?_
    refine q_iconst (pc := 14) C 1 dX14_odds_14 (by decide) ?_
    obtain ⟨b24, fs9, hb24, hm9, h⟩ := h
    refine q_ci (pc := 15) (q_rV C (st := []) (b := b24) (kX14_refuse l G b0 h) (cwV 1 C.2.2.2.2.1 gX14_odds_X14_refuse rfl rfl rfl (by decide +kernel) ⟨Nat.le_of_ble_eq_true rfl, Nat.le_of_ble_eq_true rfl⟩) hm9 rfl rfl rfl (by first | exact Nat.le_of_ble_eq_true rfl | (simp [q_cat, q_catI, q_catJ, q_catR, q_catN]; done)) (by rw [hb24]; first | done | rfl) dX14_odds_15 ⟨(by first | omega | (dsimp only; omega)), (by first | omega | (dsimp only; omega))⟩) (fun x22 M23 h => ?_)
    exact q_iret (pc := 18) C hr hlocks h dX14_odds_18 (by omega) (by omega)
set_option maxRecDepth 100000 in
set_option maxHeartbeats 4000000 in
theorem kX14_odds (l : Launch) (G : mG) (b0 : Nat) {b : Nat} {l1 : Int32} {l2 : Int32} {M : mM} {κ : Int32 → mM → Prop} (h : wX14_odds κ (some b) l1 l2 M) : Met l yX14_odds wsX14_odds ({ frames := 3, cells := 0, slots := 0, locals := 64 } : Room) (va_Pc [.ref b, .int l1, .int l2] (m_Pre G b0 M)) (va_Qi κ (m_B G b0) (fun q => b0 ≤ q)) 0 0 (fun q => b0 ≤ q) := by
  refine m_met (cc := cX14_odds) (maxL := 4) (ret := (some .int)) (lv := [(0, va_rf (some b)), (1, .int l1), (2, .int l2)]) RX14 rfl (by decide +kernel) rfl (by first | exact Nat.le_of_ble_eq_true rfl | simp [lg_sl, q_cat, q_catI, q_catJ, q_catR, q_catN]) (by first | rfl | (simp [lv_args, q_cat, q_catI, q_catJ, q_catR, q_catN]; done) | (simp [lv_args, q_cat, q_catI, q_catJ, q_catR, q_catN]; rfl)) ?_
  intro p e s m args below meth c C hr hlocks hni
  exact tX14_odds C hr hlocks h
/-! X14_relieve -/
set_option maxRecDepth 100000 in
set_option maxHeartbeats 4000000 in
theorem tX14_relieve {p : Program} {l : Launch} {e : Env} {s : State} {m : MethodId} {args : Array Value} {below : List Frame} {meth : Method} {c : Code} {G : mG} {b0 : Nat} (C : m_C p s m args c cX14_relieve 3 RX14 wsX14_relieve G b0) (hr : meth.sig.returnType = (some .int)) (hlocks : meth.locks = false) {κ : Int32 → mM → Prop} {l0 : Option Nat} {l1 : Int32} {M : mM} (h : wX14_relieve κ l0 l1 M) : m_W p l e ({ frames := 3, cells := 0, slots := 0, locals := 64 } : Room) s m args below meth c G b0 (MQ below (va_Qi κ (m_B G b0) (fun q => b0 ≤ q)) args s 0 0 (fun q => b0 ≤ q)) 3 M 0 0 0 [(0, va_rf l0), (1, .int l1)] [] := by
  unfold wX14_relieve at h
  refine q_aload_n (pc := 0) C 0 0 dX14_relieve_0 rfl rfl ?_
  refine q_iconst (pc := 1) C 0 dX14_relieve_1 (by decide) ?_
  refine q_p (pc := 2) C h .int (T := TX14) tyX14 tyX14_ok nmX14 rfl (by decide +kernel) rfl rfl rfl (by decide) (wk_u rfl wm_X14_relieve uq_X14 (by decide +kernel)) (by decide +kernel) (fun _ h9 => h9) rfl dX14_relieve_2 (fun M1 h => ?_)
  refine q_aload_n (pc := 5) C 0 0 dX14_relieve_5 rfl rfl ?_
  refine q_iload_n (pc := 6) C 1 1 dX14_relieve_6 rfl rfl ?_
  obtain ⟨b4, fs9, hb4, hm9, h⟩ := h
  refine q_ci (pc := 7) (q_rV C (st := []) (b := b4) (kX14_isGate l G b0 h) (cwV 1 C.2.2.2.2.1 gX14_relieve_X14_isGate rfl rfl rfl (by decide +kernel) ⟨Nat.le_of_ble_eq_true rfl, Nat.le_of_ble_eq_true rfl⟩) hm9 rfl rfl rfl (by first | exact Nat.le_of_ble_eq_true rfl | (simp [q_cat, q_catI, q_catJ, q_catR, q_catN]; done)) (by rw [hb4]; first | done | rfl) dX14_relieve_7 ⟨(by first | omega | (dsimp only; omega)), (by first | omega | (dsimp only; omega))⟩) (fun x2 M3 h => ?_)
  refine q_if_ne (pc := 10) C 19 dX14_relieve_10 (by decide) (fun c5 => ?_) (fun c5 => ?_)
  · have h := h.2 c5
    refine q_aload_n (pc := 19) C 0 0 dX14_relieve_19 rfl rfl ?_
    refine q_gR (pc := 20) C h (T := TX14) rfl (by decide) (wk_u rfl wm_X14_relieve uq_X14 (by decide +kernel)) (by decide +kernel) (fun _ h9 => h9) dX14_relieve_20 (fun x6 h => ?_)
    refine q_iload_n (pc := 23) C 1 1 dX14_relieve_23 rfl rfl ?_
    obtain ⟨b9, fs9, hb9, hm9, h⟩ := h
    refine q_cq (pc := 24) (q_rV C (st := []) (b := b9) (kJx4a65c_get_915e3 l G b0 h) (cwV 1 C.2.2.2.2.1 gX14_relieve_Jx4a65c_get_915e3 rfl rfl rfl (by decide +kernel) ⟨Nat.le_of_ble_eq_true rfl, Nat.le_of_ble_eq_true rfl⟩) hm9 rfl rfl rfl (by first | exact Nat.le_of_ble_eq_true rfl | (simp [q_cat, q_catI, q_catJ, q_catR, q_catN]; done)) (by rw [hb9]; first | done | rfl) dX14_relieve_24 ⟨(by first | omega | (dsimp only; omega)), (by first | omega | (dsimp only; omega))⟩) (fun x7 M8 h => ?_)
    refine q_cast (pc := 27) C h rfl rfl (by decide +kernel) dX14_relieve_27 (fun h => ?_)
    refine q_gIN (pc := 30) C h (host := "LullabygateModel") (T := TX10) rfl (by decide) (by decide +kernel) 1428 (by decide +kernel) (fun _ h9 => h9) dX14_relieve_30 (fun x10 h => ?_)
    refine q_istore_n (pc := 33) C 2 [(2, .int x10), (0, va_rf l0), (1, .int l1)] dX14_relieve_33 rfl (by decide) (by first | rfl | simp [q_cat, q_catI, q_catJ, q_catR, q_catN]) ?_
    refine q_aload_n (pc := 34) C 0 1 dX14_relieve_34 rfl rfl ?_
    refine q_gR (pc := 35) C h (T := TX14) rfl (by decide) (wk_u rfl wm_X14_relieve uq_X14 (by decide +kernel)) (by decide +kernel) (fun _ h9 => h9) dX14_relieve_35 (fun x11 h => ?_)
    refine q_iload_n (pc := 38) C 1 2 dX14_relieve_38 rfl rfl ?_
    obtain ⟨b14, fs9, hb14, hm9, h⟩ := h
    refine q_cq (pc := 39) (q_rV C (st := []) (b := b14) (kJx4a65c_get_915e3 l G b0 h) (cwV 1 C.2.2.2.2.1 gX14_relieve_Jx4a65c_get_915e3 rfl rfl rfl (by decide +kernel) ⟨Nat.le_of_ble_eq_true rfl, Nat.le_of_ble_eq_true rfl⟩) hm9 rfl rfl rfl (by first | exact Nat.le_of_ble_eq_true rfl | (simp [q_cat, q_catI, q_catJ, q_catR, q_catN]; done)) (by rw [hb14]; first | done | rfl) dX14_relieve_39 ⟨(by first | omega | (dsimp only; omega)), (by first | omega | (dsimp only; omega))⟩) (fun x12 M13 h => ?_)
    refine q_cast (pc := 42) C h rfl rfl (by decide +kernel) dX14_relieve_42 (fun h => ?_)
    refine q_iconst (pc := 45) C 0 dX14_relieve_45 (by decide) ?_
    refine q_pN (pc := 46) C h .int (host := "LullabygateModel") (T := TX10) tyX10 tyX10_ok nmX10 rfl (by decide +kernel) rfl rfl rfl (by decide) (by decide +kernel) 1428 (by decide +kernel) (fun _ h9 => h9) rfl dX14_relieve_46 (fun M15 h => ?_)
    refine q_iload_n (pc := 49) C 2 0 dX14_relieve_49 rfl rfl ?_
    exact q_iret (pc := 50) C hr hlocks h dX14_relieve_50 (by omega) (by omega)
  · have h := h.1 c5
    refine q_aload_n (pc := 13) C 0 0 dX14_relieve_13 rfl rfl ?_
    refine q_iconst (pc := 14) C 1 dX14_relieve_14 (by decide) ?_
    obtain ⟨b18, fs9, hb18, hm9, h⟩ := h
    refine q_ci (pc := 15) (q_rV C (st := []) (b := b18) (kX14_refuse l G b0 h) (cwV 1 C.2.2.2.2.1 gX14_relieve_X14_refuse rfl rfl rfl (by decide +kernel) ⟨Nat.le_of_ble_eq_true rfl, Nat.le_of_ble_eq_true rfl⟩) hm9 rfl rfl rfl (by first | exact Nat.le_of_ble_eq_true rfl | (simp [q_cat, q_catI, q_catJ, q_catR, q_catN]; done)) (by rw [hb18]; first | done | rfl) dX14_relieve_15 ⟨(by first | omega | (dsimp only; omega)), (by first | omega | (dsimp only; omega))⟩) (fun x16 M17 h => ?_)
    exact q_iret (pc := 18) C hr hlocks h dX14_relieve_18 (by omega) (by omega)
set_option maxRecDepth 100000 in
set_option maxHeartbeats 4000000 in
theorem kX14_relieve (l : Launch) (G : mG) (b0 : Nat) {b : Nat} {l1 : Int32} {M : mM} {κ : Int32 → mM → Prop} (h : wX14_relieve κ (some b) l1 M) : Met l yX14_relieve wsX14_relieve ({ frames := 3, cells := 0, slots := 0, locals := 64 } : Room) (va_Pc [.ref b, .int l1] (m_Pre G b0 M)) (va_Qi κ (m_B G b0) (fun q => b0 ≤ q)) 0 0 (fun q => b0 ≤ q) := by
  refine m_met (cc := cX14_relieve) (maxL := 3) (ret := (some .int)) (lv := [(0, va_rf (some b)), (1, .int l1)]) RX14 rfl (by decide +kernel) rfl (by first | exact Nat.le_of_ble_eq_true rfl | simp [lg_sl, q_cat, q_catI, q_catJ, q_catR, q_catN]) (by first | rfl | (simp [lv_args, q_cat, q_catI, q_catJ, q_catR, q_catN]; done) | (simp [lv_args, q_cat, q_catI, q_catJ, q_catR, q_catN]; rfl)) ?_
  intro p e s m args below meth c C hr hlocks hni
  exact tX14_relieve C hr hlocks h
/-! X14_sleeper -/
set_option maxRecDepth 100000 in
set_option maxHeartbeats 4000000 in
theorem tX14_sleeper {p : Program} {l : Launch} {e : Env} {s : State} {m : MethodId} {args : Array Value} {below : List Frame} {meth : Method} {c : Code} {G : mG} {b0 : Nat} (C : m_C p s m args c cX14_sleeper 5 RX14 wsX14_sleeper G b0) (hr : meth.sig.returnType = (some .int)) (hlocks : meth.locks = false) {g : Nat → Nat} (hg : G.2.2 = g) {κ : Int32 → mM → Prop} {l0 : Option Nat} {l1 : Int32} {l2 : Int32} {l3 : Int32} {M : mM} (h : wX14_sleeper g κ l0 l1 l2 l3 M) : m_W p l e ({ frames := 7, cells := 2, slots := 24, locals := 171 } : Room) s m args below meth c G b0 (MQ below (va_Qi κ (m_B G b0) (fun q => b0 ≤ q)) args s 2 24 (fun q => b0 ≤ q)) 5 M 0 0 0 [(0, va_rf l0), (1, .int l1), (2, .int l2), (3, .int l3)] [] := by
  unfold wX14_sleeper at h
  refine q_aload_n (pc := 0) C 0 0 dX14_sleeper_0 rfl rfl ?_
  refine q_iconst (pc := 1) C 0 dX14_sleeper_1 (by decide) ?_
  refine q_p (pc := 2) C h .int (T := TX14) tyX14 tyX14_ok nmX14 rfl (by decide +kernel) rfl rfl rfl (by decide) (wk_u rfl wm_X14_sleeper uq_X14 (by decide +kernel)) (by decide +kernel) (fun _ h9 => h9) rfl dX14_sleeper_2 (fun M1 h => ?_)
  refine q_aload_n (pc := 5) C 0 0 dX14_sleeper_5 rfl rfl ?_
  refine q_iload_n (pc := 6) C 1 1 dX14_sleeper_6 rfl rfl ?_
  obtain ⟨b4, fs9, hb4, hm9, h⟩ := h
  refine q_ci (pc := 7) (q_rV C (st := []) (b := b4) (kX14_isLand l G b0 h) (cwV 1 C.2.2.2.2.1 gX14_sleeper_X14_isLand rfl rfl rfl (by decide +kernel) ⟨Nat.le_of_ble_eq_true rfl, Nat.le_of_ble_eq_true rfl⟩) hm9 rfl rfl rfl (by first | exact Nat.le_of_ble_eq_true rfl | (simp [q_cat, q_catI, q_catJ, q_catR, q_catN]; done)) (by rw [hb4]; first | done | rfl) dX14_sleeper_7 ⟨(by first | omega | (dsimp only; omega)), (by first | omega | (dsimp only; omega))⟩) (fun x2 M3 h => ?_)
  refine q_if_ne (pc := 10) C 19 dX14_sleeper_10 (by decide) (fun c5 => ?_) (fun c5 => ?_)
  · have h := h.2 c5
    refine q_iload_n (pc := 19) C 3 3 dX14_sleeper_19 rfl rfl ?_
    refine q_iconst (pc := 20) C 1 dX14_sleeper_20 (by decide) ?_
    refine q_bipush (pc := 21) C 9 dX14_sleeper_21 (by decide) ?_
    refine q_ci (pc := 23) (q_rS C (st := []) (kX14_is l G b0 h) (va_cwS 3 C.2.2.2.2.1 gX14_sleeper_X14_is rfl rfl rfl (by decide +kernel) ⟨Nat.le_of_ble_eq_true rfl, Nat.le_of_ble_eq_true rfl⟩) rfl (by first | exact Nat.le_of_ble_eq_true rfl | (simp [q_cat, q_catI, q_catJ, q_catR, q_catN]; done)) rfl dX14_sleeper_23 ⟨(by first | omega | (dsimp only; omega)), (by first | omega | (dsimp only; omega))⟩) (fun x6 M7 h => ?_)
    refine q_if_ne (pc := 26) C 35 dX14_sleeper_26 (by decide) (fun c8 => ?_) (fun c8 => ?_)
    · have h := h.2 c8
      refine q_aload_n (pc := 35) C 0 0 dX14_sleeper_35 rfl rfl ?_
      refine q_gR (pc := 36) C h (T := TX14) rfl (by decide) (wk_u rfl wm_X14_sleeper uq_X14 (by decide +kernel)) (by decide +kernel) (fun _ h9 => h9) dX14_sleeper_36 (fun x9 h => ?_)
      obtain ⟨b12, fs9, hb12, hm9, h⟩ := h
      refine q_ci (pc := 39) (q_rV C (st := []) (b := b12) (kJx4a65c_size_8abf5 l G b0 h) (cwV 0 C.2.2.2.2.1 gX14_sleeper_Jx4a65c_size_8abf5 rfl rfl rfl (by decide +kernel) ⟨Nat.le_of_ble_eq_true rfl, Nat.le_of_ble_eq_true rfl⟩) hm9 rfl rfl rfl (by first | exact Nat.le_of_ble_eq_true rfl | (simp [q_cat, q_catI, q_catJ, q_catR, q_catN]; done)) (by rw [hb12]; first | done | rfl) dX14_sleeper_39 ⟨(by first | omega | (dsimp only; omega)), (by first | omega | (dsimp only; omega))⟩) (fun x10 M11 h => ?_)
      refine q_bipush (pc := 42) C 12 dX14_sleeper_42 (by decide) ?_
      refine q_icmp_ne (pc := 44) C 53 dX14_sleeper_44 (by decide) (fun c13 => ?_) (fun c13 => ?_)
      · have h := h.2 c13
        refine q_new (pc := 53) C h rfl (T := TX13) tyX13 tyX13_ok rfl (by decide +kernel) (by decide +kernel) (by decide +kernel) (by decide +kernel) (fun j hj => by rcases (show j = 0 ∨ j = 1 ∨ j = 2 ∨ j = 3 ∨ j = 4 ∨ j = 5 ∨ j = 6 ∨ j = 7 ∨ j = 8 by omega) with rfl | rfl | rfl | rfl | rfl | rfl | rfl | rfl | rfl <;> rfl) (by first | omega | (dsimp only; omega)) (by first | omega | (dsimp only; omega)) dX14_sleeper_53 (fun q14 M15 h => ?_)
        refine q_dup (pc := 56) C dX14_sleeper_56 (q_cat _) ?_
        obtain ⟨b17, fs9, hb17, hm9, h⟩ := h
        refine q_cv (pc := 57) (q_rIN C (st := [va_rf (some q14)]) (b := b17) (kX13_init l G b0 h) ⟨va_cnB (host := "LullabygateModel") 0 C.2.2.2.2.1 gX14_sleeper_X13_init_n102 rfl rfl rfl (C.2.2.2.2.2.2.1.1 _ (List.mem_of_getElem? (i := 1470) (by decide +kernel)) rfl) (C.2.2.2.2.1 (.initialized RX13) (by decide +kernel)) (by decide +kernel) ⟨Nat.le_of_ble_eq_true rfl, Nat.le_of_ble_eq_true rfl⟩, rfl, C.2.2.2.2.1 (.instanceMethod yX13_init) (by decide +kernel)⟩ rfl (by first | exact Nat.le_of_ble_eq_true rfl | (simp [q_cat, q_catI, q_catJ, q_catR, q_catN]; done)) (by rw [hb17]; first | done | rfl) dX14_sleeper_57 ⟨(by first | omega | (dsimp only; omega)), (by first | omega | (dsimp only; omega))⟩) (fun M16 h => ?_)
        refine q_astore (pc := 60) C 4 [(4, va_rf (some q14)), (0, va_rf l0), (1, .int l1), (2, .int l2), (3, .int l3)] dX14_sleeper_60 (by decide) (by first | rfl | simp [q_cat, q_catI, q_catJ, q_catR, q_catN]) ?_
        refine q_aload (pc := 62) C 4 0 dX14_sleeper_62 rfl ?_
        refine q_iload_n (pc := 64) C 1 2 dX14_sleeper_64 rfl rfl ?_
        refine q_pN (pc := 65) C h .int (host := "LullabygateModel") (T := TX13) tyX13 tyX13_ok nmX13 rfl (by decide +kernel) rfl rfl rfl (by decide) (by decide +kernel) 1474 (by decide +kernel) (fun _ h9 => h9) rfl dX14_sleeper_65 (fun M18 h => ?_)
        refine q_aload (pc := 68) C 4 0 dX14_sleeper_68 rfl ?_
        refine q_iload_n (pc := 70) C 2 3 dX14_sleeper_70 rfl rfl ?_
        refine q_pN (pc := 71) C h.2 .boolean (host := "LullabygateModel") (T := TX13) tyX13 tyX13_ok nmX13 rfl (by decide +kernel) (q_nrZ h.1) (q_ftZ h.1) rfl (by decide) (by decide +kernel) 1475 (by decide +kernel) (fun _ h9 => h9) rfl dX14_sleeper_71 (fun M19 h => ?_)
        refine q_aload (pc := 74) C 4 0 dX14_sleeper_74 rfl ?_
        refine q_iload_n (pc := 76) C 3 4 dX14_sleeper_76 rfl rfl ?_
        refine q_pN (pc := 77) C h .int (host := "LullabygateModel") (T := TX13) tyX13 tyX13_ok nmX13 rfl (by decide +kernel) rfl rfl rfl (by decide) (by decide +kernel) 1476 (by decide +kernel) (fun _ h9 => h9) rfl dX14_sleeper_77 (fun M20 h => ?_)
        refine q_aload_n (pc := 80) C 0 1 dX14_sleeper_80 rfl rfl ?_
        refine q_gR (pc := 81) C h (T := TX14) rfl (by decide) (wk_u rfl wm_X14_sleeper uq_X14 (by decide +kernel)) (by decide +kernel) (fun _ h9 => h9) dX14_sleeper_81 (fun x21 h => ?_)
        refine q_aload (pc := 84) C 4 0 dX14_sleeper_84 rfl ?_
        obtain ⟨b24, fs9, hb24, hm9, h⟩ := h
        refine q_ci (pc := 86) (q_rV C (st := []) (b := b24) (kJx4a65c_add_9ea2d l G b0 hg (by decide) h) (cwV 1 C.2.2.2.2.1 gX14_sleeper_Jx4a65c_add_9ea2d rfl rfl rfl (by decide +kernel) ⟨Nat.le_of_ble_eq_true rfl, Nat.le_of_ble_eq_true rfl⟩) hm9 rfl rfl rfl (by first | exact Nat.le_of_ble_eq_true rfl | (simp [q_cat, q_catI, q_catJ, q_catR, q_catN]; done)) (by rw [hb24]; first | done | rfl) dX14_sleeper_86 ⟨(by first | omega | (dsimp only; omega)), (by first | omega | (dsimp only; omega))⟩) (fun x22 M23 h => ?_)
        refine q_pop (pc := 89) C dX14_sleeper_89 rfl ?_
        refine q_aload_n (pc := 90) C 0 1 dX14_sleeper_90 rfl rfl ?_
        refine q_gR (pc := 91) C h (T := TX14) rfl (by decide) (wk_u rfl wm_X14_sleeper uq_X14 (by decide +kernel)) (by decide +kernel) (fun _ h9 => h9) dX14_sleeper_91 (fun x25 h => ?_)
        obtain ⟨b28, fs9, hb28, hm9, h⟩ := h
        refine q_ci (pc := 94) (q_rV C (st := []) (b := b28) (kJx4a65c_size_8abf5 l G b0 h) (cwV 0 C.2.2.2.2.1 gX14_sleeper_Jx4a65c_size_8abf5 rfl rfl rfl (by decide +kernel) ⟨Nat.le_of_ble_eq_true rfl, Nat.le_of_ble_eq_true rfl⟩) hm9 rfl rfl rfl (by first | exact Nat.le_of_ble_eq_true rfl | (simp [q_cat, q_catI, q_catJ, q_catR, q_catN]; done)) (by rw [hb28]; first | done | rfl) dX14_sleeper_94 ⟨(by first | omega | (dsimp only; omega)), (by first | omega | (dsimp only; omega))⟩) (fun x26 M27 h => ?_)
        refine q_iconst (pc := 97) C 1 dX14_sleeper_97 (by decide) ?_
        refine q_isub (pc := 98) C dX14_sleeper_98 ?_
        exact q_iret (pc := 99) C hr hlocks h dX14_sleeper_99 (by omega) (by omega)
      · have h := h.1 c13
        refine q_aload_n (pc := 47) C 0 0 dX14_sleeper_47 rfl rfl ?_
        refine q_iconst (pc := 48) C 3 dX14_sleeper_48 (by decide) ?_
        obtain ⟨b31, fs9, hb31, hm9, h⟩ := h
        refine q_ci (pc := 49) (q_rV C (st := []) (b := b31) (kX14_refuse l G b0 h) (cwV 1 C.2.2.2.2.1 gX14_sleeper_X14_refuse rfl rfl rfl (by decide +kernel) ⟨Nat.le_of_ble_eq_true rfl, Nat.le_of_ble_eq_true rfl⟩) hm9 rfl rfl rfl (by first | exact Nat.le_of_ble_eq_true rfl | (simp [q_cat, q_catI, q_catJ, q_catR, q_catN]; done)) (by rw [hb31]; first | done | rfl) dX14_sleeper_49 ⟨(by first | omega | (dsimp only; omega)), (by first | omega | (dsimp only; omega))⟩) (fun x29 M30 h => ?_)
        exact q_iret (pc := 52) C hr hlocks h dX14_sleeper_52 (by omega) (by omega)
    · have h := h.1 c8
      refine q_aload_n (pc := 29) C 0 0 dX14_sleeper_29 rfl rfl ?_
      refine q_iconst (pc := 30) C 2 dX14_sleeper_30 (by decide) ?_
      obtain ⟨b34, fs9, hb34, hm9, h⟩ := h
      refine q_ci (pc := 31) (q_rV C (st := []) (b := b34) (kX14_refuse l G b0 h) (cwV 1 C.2.2.2.2.1 gX14_sleeper_X14_refuse rfl rfl rfl (by decide +kernel) ⟨Nat.le_of_ble_eq_true rfl, Nat.le_of_ble_eq_true rfl⟩) hm9 rfl rfl rfl (by first | exact Nat.le_of_ble_eq_true rfl | (simp [q_cat, q_catI, q_catJ, q_catR, q_catN]; done)) (by rw [hb34]; first | done | rfl) dX14_sleeper_31 ⟨(by first | omega | (dsimp only; omega)), (by first | omega | (dsimp only; omega))⟩) (fun x32 M33 h => ?_)
      exact q_iret (pc := 34) C hr hlocks h dX14_sleeper_34 (by omega) (by omega)
  · have h := h.1 c5
    refine q_aload_n (pc := 13) C 0 0 dX14_sleeper_13 rfl rfl ?_
    refine q_iconst (pc := 14) C 1 dX14_sleeper_14 (by decide) ?_
    obtain ⟨b37, fs9, hb37, hm9, h⟩ := h
    refine q_ci (pc := 15) (q_rV C (st := []) (b := b37) (kX14_refuse l G b0 h) (cwV 1 C.2.2.2.2.1 gX14_sleeper_X14_refuse rfl rfl rfl (by decide +kernel) ⟨Nat.le_of_ble_eq_true rfl, Nat.le_of_ble_eq_true rfl⟩) hm9 rfl rfl rfl (by first | exact Nat.le_of_ble_eq_true rfl | (simp [q_cat, q_catI, q_catJ, q_catR, q_catN]; done)) (by rw [hb37]; first | done | rfl) dX14_sleeper_15 ⟨(by first | omega | (dsimp only; omega)), (by first | omega | (dsimp only; omega))⟩) (fun x35 M36 h => ?_)
    exact q_iret (pc := 18) C hr hlocks h dX14_sleeper_18 (by omega) (by omega)
set_option maxRecDepth 100000 in
set_option maxHeartbeats 4000000 in
theorem kX14_sleeper (l : Launch) (G : mG) (b0 : Nat) {g : Nat → Nat} (hg : G.2.2 = g) {b : Nat} {l1 : Int32} {l2 : Int32} {l3 : Int32} {M : mM} {κ : Int32 → mM → Prop} (h : wX14_sleeper g κ (some b) l1 l2 l3 M) : Met l yX14_sleeper wsX14_sleeper ({ frames := 7, cells := 2, slots := 24, locals := 171 } : Room) (va_Pc [.ref b, .int l1, .int l2, .int l3] (m_Pre G b0 M)) (va_Qi κ (m_B G b0) (fun q => b0 ≤ q)) 2 24 (fun q => b0 ≤ q) := by
  refine m_met (cc := cX14_sleeper) (maxL := 5) (ret := (some .int)) (lv := [(0, va_rf (some b)), (1, .int l1), (2, .int l2), (3, .int l3)]) RX14 rfl (by decide +kernel) rfl (by first | exact Nat.le_of_ble_eq_true rfl | simp [lg_sl, q_cat, q_catI, q_catJ, q_catR, q_catN]) (by first | rfl | (simp [lv_args, q_cat, q_catI, q_catJ, q_catR, q_catN]; done) | (simp [lv_args, q_cat, q_catI, q_catJ, q_catR, q_catN]; rfl)) ?_
  intro p e s m args below meth c C hr hlocks hni
  exact tX14_sleeper C hr hlocks hg h
/-! X14_part -/
set_option maxRecDepth 100000 in
set_option maxHeartbeats 4000000 in
theorem tX14_part_50 {p : Program} {l : Launch} {e : Env} {s : State} {m : MethodId} {args : Array Value} {below : List Frame} {meth : Method} {c : Code} {G : mG} {b0 : Nat} (C : m_C p s m args c cX14_part 6 RX14 wsX14_part G b0) (hr : meth.sig.returnType = (some .int)) (hlocks : meth.locks = false) {g : Nat → Nat} (hg : G.2.2 = g) {κ : Int32 → mM → Prop} {l0 : Option Nat} {M : mM} (h : wX14_part_50 g κ l0 M) : m_W p l e ({ frames := 7, cells := 2, slots := 39, locals := 171 } : Room) s m args below meth c G b0 (MQ below (va_Qi κ (m_B G b0) (fun q => b0 ≤ q)) args s 2 39 (fun q => b0 ≤ q)) 6 M 0 0 50 [(0, va_rf l0)] [] := by
  unfold wX14_part_50 at h
  refine q_aload_n (pc := 50) C 0 0 dX14_part_50 rfl rfl ?_
  refine q_iconst (pc := 51) C 2 dX14_part_51 (by decide) ?_
  obtain ⟨b3, fs9, hb3, hm9, h⟩ := h
  refine q_ci (pc := 52) (q_rV C (st := []) (b := b3) (kX14_refuse l G b0 h) (cwV 1 C.2.2.2.2.1 gX14_part_X14_refuse rfl rfl rfl (by decide +kernel) ⟨Nat.le_of_ble_eq_true rfl, Nat.le_of_ble_eq_true rfl⟩) hm9 rfl rfl rfl (by first | exact Nat.le_of_ble_eq_true rfl | (simp [q_cat, q_catI, q_catJ, q_catR, q_catN]; done)) (by rw [hb3]; first | done | rfl) dX14_part_52 ⟨(by first | omega | (dsimp only; omega)), (by first | omega | (dsimp only; omega))⟩) (fun x1 M2 h => ?_)
  exact q_iret (pc := 55) C hr hlocks h dX14_part_55 (by omega) (by omega)
set_option maxRecDepth 100000 in
set_option maxHeartbeats 4000000 in
theorem tX14_part_85 {p : Program} {l : Launch} {e : Env} {s : State} {m : MethodId} {args : Array Value} {below : List Frame} {meth : Method} {c : Code} {G : mG} {b0 : Nat} (C : m_C p s m args c cX14_part 6 RX14 wsX14_part G b0) (hr : meth.sig.returnType = (some .int)) (hlocks : meth.locks = false) {g : Nat → Nat} (hg : G.2.2 = g) {κ : Int32 → mM → Prop} {l0 : Option Nat} {M : mM} (h : wX14_part_85 g κ l0 M) : m_W p l e ({ frames := 7, cells := 2, slots := 39, locals := 171 } : Room) s m args below meth c G b0 (MQ below (va_Qi κ (m_B G b0) (fun q => b0 ≤ q)) args s 2 39 (fun q => b0 ≤ q)) 6 M 0 0 85 [(0, va_rf l0)] [] := by
  unfold wX14_part_85 at h
  refine q_aload_n (pc := 85) C 0 0 dX14_part_85 rfl rfl ?_
  refine q_iconst (pc := 86) C 3 dX14_part_86 (by decide) ?_
  obtain ⟨b3, fs9, hb3, hm9, h⟩ := h
  refine q_ci (pc := 87) (q_rV C (st := []) (b := b3) (kX14_refuse l G b0 h) (cwV 1 C.2.2.2.2.1 gX14_part_X14_refuse rfl rfl rfl (by decide +kernel) ⟨Nat.le_of_ble_eq_true rfl, Nat.le_of_ble_eq_true rfl⟩) hm9 rfl rfl rfl (by first | exact Nat.le_of_ble_eq_true rfl | (simp [q_cat, q_catI, q_catJ, q_catR, q_catN]; done)) (by rw [hb3]; first | done | rfl) dX14_part_87 ⟨(by first | omega | (dsimp only; omega)), (by first | omega | (dsimp only; omega))⟩) (fun x1 M2 h => ?_)
  exact q_iret (pc := 90) C hr hlocks h dX14_part_90 (by omega) (by omega)
set_option maxRecDepth 100000 in
set_option maxHeartbeats 4000000 in
theorem tX14_part {p : Program} {l : Launch} {e : Env} {s : State} {m : MethodId} {args : Array Value} {below : List Frame} {meth : Method} {c : Code} {G : mG} {b0 : Nat} (C : m_C p s m args c cX14_part 6 RX14 wsX14_part G b0) (hr : meth.sig.returnType = (some .int)) (hlocks : meth.locks = false) {g : Nat → Nat} (hg : G.2.2 = g) {κ : Int32 → mM → Prop} {l0 : Option Nat} {l1 : Int32} {l2 : Int32} {l3 : Int32} {l4 : Int32} {M : mM} (h : wX14_part g κ l0 l1 l2 l3 l4 M) : m_W p l e ({ frames := 7, cells := 2, slots := 39, locals := 171 } : Room) s m args below meth c G b0 (MQ below (va_Qi κ (m_B G b0) (fun q => b0 ≤ q)) args s 2 39 (fun q => b0 ≤ q)) 6 M 0 0 0 [(0, va_rf l0), (1, .int l1), (2, .int l2), (3, .int l3), (4, .int l4)] [] := by
  unfold wX14_part at h
  refine q_aload_n (pc := 0) C 0 0 dX14_part_0 rfl rfl ?_
  refine q_iconst (pc := 1) C 0 dX14_part_1 (by decide) ?_
  refine q_p (pc := 2) C h .int (T := TX14) tyX14 tyX14_ok nmX14 rfl (by decide +kernel) rfl rfl rfl (by decide) (wk_u rfl wm_X14_part uq_X14 (by decide +kernel)) (by decide +kernel) (fun _ h9 => h9) rfl dX14_part_2 (fun M1 h => ?_)
  refine q_aload_n (pc := 5) C 0 0 dX14_part_5 rfl rfl ?_
  refine q_iload_n (pc := 6) C 1 1 dX14_part_6 rfl rfl ?_
  obtain ⟨b4, fs9, hb4, hm9, h⟩ := h
  refine q_ci (pc := 7) (q_rV C (st := []) (b := b4) (kX14_isSleeper l G b0 h) (cwV 1 C.2.2.2.2.1 gX14_part_X14_isSleeper rfl rfl rfl (by decide +kernel) ⟨Nat.le_of_ble_eq_true rfl, Nat.le_of_ble_eq_true rfl⟩) hm9 rfl rfl rfl (by first | exact Nat.le_of_ble_eq_true rfl | (simp [q_cat, q_catI, q_catJ, q_catR, q_catN]; done)) (by rw [hb4]; first | done | rfl) dX14_part_7 ⟨(by first | omega | (dsimp only; omega)), (by first | omega | (dsimp only; omega))⟩) (fun x2 M3 h => ?_)
  refine q_if_ne (pc := 10) C 19 dX14_part_10 (by decide) (fun c5 => ?_) (fun c5 => ?_)
  · have h := h.2 c5
    refine q_iload_n (pc := 19) C 2 2 dX14_part_19 rfl rfl ?_
    refine q_iconst (pc := 20) C 0 dX14_part_20 (by decide) ?_
    refine q_bipush (pc := 21) C 7 dX14_part_21 (by decide) ?_
    refine q_ci (pc := 23) (q_rS C (st := []) (kX14_is l G b0 h) (va_cwS 3 C.2.2.2.2.1 gX14_part_X14_is rfl rfl rfl (by decide +kernel) ⟨Nat.le_of_ble_eq_true rfl, Nat.le_of_ble_eq_true rfl⟩) rfl (by first | exact Nat.le_of_ble_eq_true rfl | (simp [q_cat, q_catI, q_catJ, q_catR, q_catN]; done)) rfl dX14_part_23 ⟨(by first | omega | (dsimp only; omega)), (by first | omega | (dsimp only; omega))⟩) (fun x6 M7 h => ?_)
    refine q_if_eq (pc := 26) C 50 dX14_part_26 (by decide) (fun c8 => ?_) (fun c8 => ?_)
    · have h := h.1 c8
      refine q_widen (k2 := 0) (n2 := 0) (by omega) (by omega) ?_
      refine q_lv [0] rfl ?_
      exact tX14_part_50 C hr hlocks hg h
    · have h := h.2 c8
      refine q_iload_n (pc := 29) C 3 3 dX14_part_29 rfl rfl ?_
      refine q_iconst (pc := 30) C 0 dX14_part_30 (by decide) ?_
      refine q_bipush (pc := 31) C 99 dX14_part_31 (by decide) ?_
      refine q_ci (pc := 33) (q_rS C (st := []) (kX14_is l G b0 h) (va_cwS 3 C.2.2.2.2.1 gX14_part_X14_is rfl rfl rfl (by decide +kernel) ⟨Nat.le_of_ble_eq_true rfl, Nat.le_of_ble_eq_true rfl⟩) rfl (by first | exact Nat.le_of_ble_eq_true rfl | (simp [q_cat, q_catI, q_catJ, q_catR, q_catN]; done)) rfl dX14_part_33 ⟨(by first | omega | (dsimp only; omega)), (by first | omega | (dsimp only; omega))⟩) (fun x9 M10 h => ?_)
      refine q_if_eq (pc := 36) C 50 dX14_part_36 (by decide) (fun c11 => ?_) (fun c11 => ?_)
      · have h := h.1 c11
        refine q_widen (k2 := 0) (n2 := 0) (by omega) (by omega) ?_
        refine q_lv [0] rfl ?_
        exact tX14_part_50 C hr hlocks hg h
      · have h := h.2 c11
        refine q_iload (pc := 39) C 4 4 dX14_part_39 rfl ?_
        refine q_iconst (pc := 41) C 0 dX14_part_41 (by decide) ?_
        refine q_bipush (pc := 42) C 9 dX14_part_42 (by decide) ?_
        refine q_ci (pc := 44) (q_rS C (st := []) (kX14_is l G b0 h) (va_cwS 3 C.2.2.2.2.1 gX14_part_X14_is rfl rfl rfl (by decide +kernel) ⟨Nat.le_of_ble_eq_true rfl, Nat.le_of_ble_eq_true rfl⟩) rfl (by first | exact Nat.le_of_ble_eq_true rfl | (simp [q_cat, q_catI, q_catJ, q_catR, q_catN]; done)) rfl dX14_part_44 ⟨(by first | omega | (dsimp only; omega)), (by first | omega | (dsimp only; omega))⟩) (fun x12 M13 h => ?_)
        refine q_if_ne (pc := 47) C 56 dX14_part_47 (by decide) (fun c14 => ?_) (fun c14 => ?_)
        · have h := h.2 c14
          refine q_aload_n (pc := 56) C 0 0 dX14_part_56 rfl rfl ?_
          refine q_gR (pc := 57) C h (T := TX14) rfl (by decide) (wk_u rfl wm_X14_part uq_X14 (by decide +kernel)) (by decide +kernel) (fun _ h9 => h9) dX14_part_57 (fun x15 h => ?_)
          obtain ⟨b18, fs9, hb18, hm9, h⟩ := h
          refine q_ci (pc := 60) (q_rV C (st := []) (b := b18) (kJx4a65c_size_8abf5 l G b0 h) (cwV 0 C.2.2.2.2.1 gX14_part_Jx4a65c_size_8abf5 rfl rfl rfl (by decide +kernel) ⟨Nat.le_of_ble_eq_true rfl, Nat.le_of_ble_eq_true rfl⟩) hm9 rfl rfl rfl (by first | exact Nat.le_of_ble_eq_true rfl | (simp [q_cat, q_catI, q_catJ, q_catR, q_catN]; done)) (by rw [hb18]; first | done | rfl) dX14_part_60 ⟨(by first | omega | (dsimp only; omega)), (by first | omega | (dsimp only; omega))⟩) (fun x16 M17 h => ?_)
          refine q_bipush (pc := 63) C 24 dX14_part_63 (by decide) ?_
          refine q_icmp_eq (pc := 65) C 85 dX14_part_65 (by decide) (fun c19 => ?_) (fun c19 => ?_)
          · have h := h.1 c19
            refine q_widen (k2 := 0) (n2 := 0) (by omega) (by omega) ?_
            refine q_lv [0] rfl ?_
            exact tX14_part_85 C hr hlocks hg h
          · have h := h.2 c19
            refine q_aload_n (pc := 68) C 0 0 dX14_part_68 rfl rfl ?_
            refine q_gR (pc := 69) C h (T := TX14) rfl (by decide) (wk_u rfl wm_X14_part uq_X14 (by decide +kernel)) (by decide +kernel) (fun _ h9 => h9) dX14_part_69 (fun x20 h => ?_)
            refine q_iload_n (pc := 72) C 1 1 dX14_part_72 rfl rfl ?_
            obtain ⟨b23, fs9, hb23, hm9, h⟩ := h
            refine q_cq (pc := 73) (q_rV C (st := []) (b := b23) (kJx4a65c_get_915e3 l G b0 h) (cwV 1 C.2.2.2.2.1 gX14_part_Jx4a65c_get_915e3 rfl rfl rfl (by decide +kernel) ⟨Nat.le_of_ble_eq_true rfl, Nat.le_of_ble_eq_true rfl⟩) hm9 rfl rfl rfl (by first | exact Nat.le_of_ble_eq_true rfl | (simp [q_cat, q_catI, q_catJ, q_catR, q_catN]; done)) (by rw [hb23]; first | done | rfl) dX14_part_73 ⟨(by first | omega | (dsimp only; omega)), (by first | omega | (dsimp only; omega))⟩) (fun x21 M22 h => ?_)
            refine q_cast (pc := 76) C h rfl rfl (by decide +kernel) dX14_part_76 (fun h => ?_)
            refine q_gIN (pc := 79) C h (host := "LullabygateModel") (T := TX13) rfl (by decide) (by decide +kernel) 1477 (by decide +kernel) (fun _ h9 => h9) dX14_part_79 (fun x24 h => ?_)
            refine q_if_eq (pc := 82) C 91 dX14_part_82 (by decide) (fun c25 => ?_) (fun c25 => ?_)
            · have h := h.1 c25
              refine q_new (pc := 91) C h rfl (T := TX12) tyX12 tyX12_ok rfl (by decide +kernel) (by decide +kernel) (by decide +kernel) (by decide +kernel) (fun j hj => by rcases (show j = 0 ∨ j = 1 ∨ j = 2 ∨ j = 3 ∨ j = 4 ∨ j = 5 by omega) with rfl | rfl | rfl | rfl | rfl | rfl <;> rfl) (by first | omega | (dsimp only; omega)) (by first | omega | (dsimp only; omega)) dX14_part_91 (fun q26 M27 h => ?_)
              refine q_dup (pc := 94) C dX14_part_94 (q_cat _) ?_
              obtain ⟨b29, fs9, hb29, hm9, h⟩ := h
              refine q_cv (pc := 95) (q_rIN C (st := [va_rf (some q26)]) (b := b29) (kX12_init l G b0 h) ⟨va_cnB (host := "LullabygateModel") 0 C.2.2.2.2.1 gX14_part_X12_init_n121 rfl rfl rfl (C.2.2.2.2.2.2.1.1 _ (List.mem_of_getElem? (i := 1515) (by decide +kernel)) rfl) (C.2.2.2.2.1 (.initialized RX12) (by decide +kernel)) (by decide +kernel) ⟨Nat.le_of_ble_eq_true rfl, Nat.le_of_ble_eq_true rfl⟩, rfl, C.2.2.2.2.1 (.instanceMethod yX12_init) (by decide +kernel)⟩ rfl (by first | exact Nat.le_of_ble_eq_true rfl | (simp [q_cat, q_catI, q_catJ, q_catR, q_catN]; done)) (by rw [hb29]; first | done | rfl) dX14_part_95 ⟨(by first | omega | (dsimp only; omega)), (by first | omega | (dsimp only; omega))⟩) (fun M28 h => ?_)
              refine q_astore (pc := 98) C 5 [(5, va_rf (some q26)), (0, va_rf l0), (1, .int l1), (2, .int l2), (3, .int l3), (4, .int l4)] dX14_part_98 (by decide) (by first | rfl | simp [q_cat, q_catI, q_catJ, q_catR, q_catN]) ?_
              refine q_aload (pc := 100) C 5 0 dX14_part_100 rfl ?_
              refine q_iload_n (pc := 102) C 2 3 dX14_part_102 rfl rfl ?_
              refine q_pN (pc := 103) C h .int (host := "LullabygateModel") (T := TX12) tyX12 tyX12_ok nmX12 rfl (by decide +kernel) rfl rfl rfl (by decide) (by decide +kernel) 1519 (by decide +kernel) (fun _ h9 => h9) rfl dX14_part_103 (fun M30 h => ?_)
              refine q_aload (pc := 106) C 5 0 dX14_part_106 rfl ?_
              refine q_iload_n (pc := 108) C 3 4 dX14_part_108 rfl rfl ?_
              refine q_pN (pc := 109) C h .int (host := "LullabygateModel") (T := TX12) tyX12 tyX12_ok nmX12 rfl (by decide +kernel) rfl rfl rfl (by decide) (by decide +kernel) 1520 (by decide +kernel) (fun _ h9 => h9) rfl dX14_part_109 (fun M31 h => ?_)
              refine q_aload (pc := 112) C 5 0 dX14_part_112 rfl ?_
              refine q_iload (pc := 114) C 4 5 dX14_part_114 rfl ?_
              refine q_pN (pc := 116) C h .int (host := "LullabygateModel") (T := TX12) tyX12 tyX12_ok nmX12 rfl (by decide +kernel) rfl rfl rfl (by decide) (by decide +kernel) 1522 (by decide +kernel) (fun _ h9 => h9) rfl dX14_part_116 (fun M32 h => ?_)
              refine q_aload (pc := 119) C 5 0 dX14_part_119 rfl ?_
              refine q_iload_n (pc := 121) C 1 2 dX14_part_121 rfl rfl ?_
              refine q_pN (pc := 122) C h .int (host := "LullabygateModel") (T := TX12) tyX12 tyX12_ok nmX12 rfl (by decide +kernel) rfl rfl rfl (by decide) (by decide +kernel) 1524 (by decide +kernel) (fun _ h9 => h9) rfl dX14_part_122 (fun M33 h => ?_)
              refine q_aload_n (pc := 125) C 0 1 dX14_part_125 rfl rfl ?_
              refine q_gR (pc := 126) C h (T := TX14) rfl (by decide) (wk_u rfl wm_X14_part uq_X14 (by decide +kernel)) (by decide +kernel) (fun _ h9 => h9) dX14_part_126 (fun x34 h => ?_)
              refine q_aload (pc := 129) C 5 0 dX14_part_129 rfl ?_
              obtain ⟨b37, fs9, hb37, hm9, h⟩ := h
              refine q_ci (pc := 131) (q_rV C (st := []) (b := b37) (kJx4a65c_add_9ea2d l G b0 hg (by decide) h) (cwV 1 C.2.2.2.2.1 gX14_part_Jx4a65c_add_9ea2d rfl rfl rfl (by decide +kernel) ⟨Nat.le_of_ble_eq_true rfl, Nat.le_of_ble_eq_true rfl⟩) hm9 rfl rfl rfl (by first | exact Nat.le_of_ble_eq_true rfl | (simp [q_cat, q_catI, q_catJ, q_catR, q_catN]; done)) (by rw [hb37]; first | done | rfl) dX14_part_131 ⟨(by first | omega | (dsimp only; omega)), (by first | omega | (dsimp only; omega))⟩) (fun x35 M36 h => ?_)
              refine q_pop (pc := 134) C dX14_part_134 rfl ?_
              refine q_aload_n (pc := 135) C 0 1 dX14_part_135 rfl rfl ?_
              refine q_gR (pc := 136) C h (T := TX14) rfl (by decide) (wk_u rfl wm_X14_part uq_X14 (by decide +kernel)) (by decide +kernel) (fun _ h9 => h9) dX14_part_136 (fun x38 h => ?_)
              obtain ⟨b41, fs9, hb41, hm9, h⟩ := h
              refine q_ci (pc := 139) (q_rV C (st := []) (b := b41) (kJx4a65c_size_8abf5 l G b0 h) (cwV 0 C.2.2.2.2.1 gX14_part_Jx4a65c_size_8abf5 rfl rfl rfl (by decide +kernel) ⟨Nat.le_of_ble_eq_true rfl, Nat.le_of_ble_eq_true rfl⟩) hm9 rfl rfl rfl (by first | exact Nat.le_of_ble_eq_true rfl | (simp [q_cat, q_catI, q_catJ, q_catR, q_catN]; done)) (by rw [hb41]; first | done | rfl) dX14_part_139 ⟨(by first | omega | (dsimp only; omega)), (by first | omega | (dsimp only; omega))⟩) (fun x39 M40 h => ?_)
              refine q_iconst (pc := 142) C 1 dX14_part_142 (by decide) ?_
              refine q_isub (pc := 143) C dX14_part_143 ?_
              exact q_iret (pc := 144) C hr hlocks h dX14_part_144 (by omega) (by omega)
            · have h := h.2 c25
              refine q_widen (k2 := 0) (n2 := 0) (by omega) (by omega) ?_
              refine q_lv [0] rfl ?_
              exact tX14_part_85 C hr hlocks hg h
        · have h := h.1 c14
          refine q_widen (k2 := 0) (n2 := 0) (by omega) (by omega) ?_
          refine q_lv [0] rfl ?_
          exact tX14_part_50 C hr hlocks hg h
  · have h := h.1 c5
    refine q_aload_n (pc := 13) C 0 0 dX14_part_13 rfl rfl ?_
    refine q_iconst (pc := 14) C 1 dX14_part_14 (by decide) ?_
    obtain ⟨b44, fs9, hb44, hm9, h⟩ := h
    refine q_ci (pc := 15) (q_rV C (st := []) (b := b44) (kX14_refuse l G b0 h) (cwV 1 C.2.2.2.2.1 gX14_part_X14_refuse rfl rfl rfl (by decide +kernel) ⟨Nat.le_of_ble_eq_true rfl, Nat.le_of_ble_eq_true rfl⟩) hm9 rfl rfl rfl (by first | exact Nat.le_of_ble_eq_true rfl | (simp [q_cat, q_catI, q_catJ, q_catR, q_catN]; done)) (by rw [hb44]; first | done | rfl) dX14_part_15 ⟨(by first | omega | (dsimp only; omega)), (by first | omega | (dsimp only; omega))⟩) (fun x42 M43 h => ?_)
    exact q_iret (pc := 18) C hr hlocks h dX14_part_18 (by omega) (by omega)
set_option maxRecDepth 100000 in
set_option maxHeartbeats 4000000 in
theorem kX14_part (l : Launch) (G : mG) (b0 : Nat) {g : Nat → Nat} (hg : G.2.2 = g) {b : Nat} {l1 : Int32} {l2 : Int32} {l3 : Int32} {l4 : Int32} {M : mM} {κ : Int32 → mM → Prop} (h : wX14_part g κ (some b) l1 l2 l3 l4 M) : Met l yX14_part wsX14_part ({ frames := 7, cells := 2, slots := 39, locals := 171 } : Room) (va_Pc [.ref b, .int l1, .int l2, .int l3, .int l4] (m_Pre G b0 M)) (va_Qi κ (m_B G b0) (fun q => b0 ≤ q)) 2 39 (fun q => b0 ≤ q) := by
  refine m_met (cc := cX14_part) (maxL := 6) (ret := (some .int)) (lv := [(0, va_rf (some b)), (1, .int l1), (2, .int l2), (3, .int l3), (4, .int l4)]) RX14 rfl (by decide +kernel) rfl (by first | exact Nat.le_of_ble_eq_true rfl | simp [lg_sl, q_cat, q_catI, q_catJ, q_catR, q_catN]) (by first | rfl | (simp [lv_args, q_cat, q_catI, q_catJ, q_catR, q_catN]; done) | (simp [lv_args, q_cat, q_catI, q_catJ, q_catR, q_catN]; rfl)) ?_
  intro p e s m args below meth c C hr hlocks hni
  exact tX14_part C hr hlocks hg h
/-! X14_give -/
set_option maxRecDepth 100000 in
set_option maxHeartbeats 4000000 in
theorem tX14_give_21 {p : Program} {l : Launch} {e : Env} {s : State} {m : MethodId} {args : Array Value} {below : List Frame} {meth : Method} {c : Code} {G : mG} {b0 : Nat} (C : m_C p s m args c cX14_give 6 RX14 wsX14_give G b0) (hr : meth.sig.returnType = (some .int)) (hlocks : meth.locks = false) {κ : Int32 → mM → Prop} {l0 : Option Nat} {M : mM} (h : wX14_give_21 κ l0 M) : m_W p l e ({ frames := 3, cells := 0, slots := 0, locals := 64 } : Room) s m args below meth c G b0 (MQ below (va_Qi κ (m_B G b0) (fun q => b0 ≤ q)) args s 0 0 (fun q => b0 ≤ q)) 6 M 0 0 21 [(0, va_rf l0)] [] := by
  unfold wX14_give_21 at h
  refine q_aload_n (pc := 21) C 0 0 dX14_give_21 rfl rfl ?_
  refine q_iconst (pc := 22) C 1 dX14_give_22 (by decide) ?_
  obtain ⟨b3, fs9, hb3, hm9, h⟩ := h
  refine q_ci (pc := 23) (q_rV C (st := []) (b := b3) (kX14_refuse l G b0 h) (cwV 1 C.2.2.2.2.1 gX14_give_X14_refuse rfl rfl rfl (by decide +kernel) ⟨Nat.le_of_ble_eq_true rfl, Nat.le_of_ble_eq_true rfl⟩) hm9 rfl rfl rfl (by first | exact Nat.le_of_ble_eq_true rfl | (simp [q_cat, q_catI, q_catJ, q_catR, q_catN]; done)) (by rw [hb3]; first | done | rfl) dX14_give_23 ⟨(by first | omega | (dsimp only; omega)), (by first | omega | (dsimp only; omega))⟩) (fun x1 M2 h => ?_)
  exact q_iret (pc := 26) C hr hlocks h dX14_give_26 (by omega) (by omega)
set_option maxRecDepth 100000 in
set_option maxHeartbeats 4000000 in
theorem tX14_give_53 {p : Program} {l : Launch} {e : Env} {s : State} {m : MethodId} {args : Array Value} {below : List Frame} {meth : Method} {c : Code} {G : mG} {b0 : Nat} (C : m_C p s m args c cX14_give 6 RX14 wsX14_give G b0) (hr : meth.sig.returnType = (some .int)) (hlocks : meth.locks = false) {κ : Int32 → mM → Prop} {l0 : Option Nat} {M : mM} (h : wX14_give_53 κ l0 M) : m_W p l e ({ frames := 3, cells := 0, slots := 0, locals := 64 } : Room) s m args below meth c G b0 (MQ below (va_Qi κ (m_B G b0) (fun q => b0 ≤ q)) args s 0 0 (fun q => b0 ≤ q)) 6 M 0 0 53 [(0, va_rf l0)] [] := by
  unfold wX14_give_53 at h
  refine q_aload_n (pc := 53) C 0 0 dX14_give_53 rfl rfl ?_
  refine q_iconst (pc := 54) C 2 dX14_give_54 (by decide) ?_
  obtain ⟨b3, fs9, hb3, hm9, h⟩ := h
  refine q_ci (pc := 55) (q_rV C (st := []) (b := b3) (kX14_refuse l G b0 h) (cwV 1 C.2.2.2.2.1 gX14_give_X14_refuse rfl rfl rfl (by decide +kernel) ⟨Nat.le_of_ble_eq_true rfl, Nat.le_of_ble_eq_true rfl⟩) hm9 rfl rfl rfl (by first | exact Nat.le_of_ble_eq_true rfl | (simp [q_cat, q_catI, q_catJ, q_catR, q_catN]; done)) (by rw [hb3]; first | done | rfl) dX14_give_55 ⟨(by first | omega | (dsimp only; omega)), (by first | omega | (dsimp only; omega))⟩) (fun x1 M2 h => ?_)
  exact q_iret (pc := 58) C hr hlocks h dX14_give_58 (by omega) (by omega)
set_option maxRecDepth 100000 in
set_option maxHeartbeats 4000000 in
theorem tX14_give_114 {p : Program} {l : Launch} {e : Env} {s : State} {m : MethodId} {args : Array Value} {below : List Frame} {meth : Method} {c : Code} {G : mG} {b0 : Nat} (C : m_C p s m args c cX14_give 6 RX14 wsX14_give G b0) (hr : meth.sig.returnType = (some .int)) (hlocks : meth.locks = false) {κ : Int32 → mM → Prop} {l0 : Option Nat} {M : mM} (h : wX14_give_114 κ l0 M) : m_W p l e ({ frames := 3, cells := 0, slots := 0, locals := 64 } : Room) s m args below meth c G b0 (MQ below (va_Qi κ (m_B G b0) (fun q => b0 ≤ q)) args s 0 0 (fun q => b0 ≤ q)) 6 M 0 0 114 [(0, va_rf l0)] [] := by
  unfold wX14_give_114 at h
  refine q_aload_n (pc := 114) C 0 0 dX14_give_114 rfl rfl ?_
  refine q_iconst (pc := 115) C 2 dX14_give_115 (by decide) ?_
  obtain ⟨b3, fs9, hb3, hm9, h⟩ := h
  refine q_ci (pc := 116) (q_rV C (st := []) (b := b3) (kX14_refuse l G b0 h) (cwV 1 C.2.2.2.2.1 gX14_give_X14_refuse rfl rfl rfl (by decide +kernel) ⟨Nat.le_of_ble_eq_true rfl, Nat.le_of_ble_eq_true rfl⟩) hm9 rfl rfl rfl (by first | exact Nat.le_of_ble_eq_true rfl | (simp [q_cat, q_catI, q_catJ, q_catR, q_catN]; done)) (by rw [hb3]; first | done | rfl) dX14_give_116 ⟨(by first | omega | (dsimp only; omega)), (by first | omega | (dsimp only; omega))⟩) (fun x1 M2 h => ?_)
  exact q_iret (pc := 119) C hr hlocks h dX14_give_119 (by omega) (by omega)
set_option maxRecDepth 100000 in
set_option maxHeartbeats 4000000 in
theorem tX14_give {p : Program} {l : Launch} {e : Env} {s : State} {m : MethodId} {args : Array Value} {below : List Frame} {meth : Method} {c : Code} {G : mG} {b0 : Nat} (C : m_C p s m args c cX14_give 6 RX14 wsX14_give G b0) (hr : meth.sig.returnType = (some .int)) (hlocks : meth.locks = false) {κ : Int32 → mM → Prop} {l0 : Option Nat} {l1 : Int32} {l2 : Int32} {M : mM} (h : wX14_give κ l0 l1 l2 M) : m_W p l e ({ frames := 3, cells := 0, slots := 0, locals := 64 } : Room) s m args below meth c G b0 (MQ below (va_Qi κ (m_B G b0) (fun q => b0 ≤ q)) args s 0 0 (fun q => b0 ≤ q)) 6 M 0 0 0 [(0, va_rf l0), (1, .int l1), (2, .int l2)] [] := by
  unfold wX14_give at h
  refine q_aload_n (pc := 0) C 0 0 dX14_give_0 rfl rfl ?_
  refine q_iconst (pc := 1) C 0 dX14_give_1 (by decide) ?_
  refine q_p (pc := 2) C h .int (T := TX14) tyX14 tyX14_ok nmX14 rfl (by decide +kernel) rfl rfl rfl (by decide) (wk_u rfl wm_X14_give uq_X14 (by decide +kernel)) (by decide +kernel) (fun _ h9 => h9) rfl dX14_give_2 (fun M1 h => ?_)
  refine q_aload_n (pc := 5) C 0 0 dX14_give_5 rfl rfl ?_
  refine q_iload_n (pc := 6) C 1 1 dX14_give_6 rfl rfl ?_
  obtain ⟨b4, fs9, hb4, hm9, h⟩ := h
  refine q_ci (pc := 7) (q_rV C (st := []) (b := b4) (kX14_isPart l G b0 h) (cwV 1 C.2.2.2.2.1 gX14_give_X14_isPart rfl rfl rfl (by decide +kernel) ⟨Nat.le_of_ble_eq_true rfl, Nat.le_of_ble_eq_true rfl⟩) hm9 rfl rfl rfl (by first | exact Nat.le_of_ble_eq_true rfl | (simp [q_cat, q_catI, q_catJ, q_catR, q_catN]; done)) (by rw [hb4]; first | done | rfl) dX14_give_7 ⟨(by first | omega | (dsimp only; omega)), (by first | omega | (dsimp only; omega))⟩) (fun x2 M3 h => ?_)
  refine q_if_eq (pc := 10) C 21 dX14_give_10 (by decide) (fun c5 => ?_) (fun c5 => ?_)
  · have h := h.1 c5
    refine q_widen (k2 := 0) (n2 := 0) (by omega) (by omega) ?_
    refine q_lv [0] rfl ?_
    exact tX14_give_21 C hr hlocks h
  · have h := h.2 c5
    refine q_aload_n (pc := 13) C 0 0 dX14_give_13 rfl rfl ?_
    refine q_iload_n (pc := 14) C 2 2 dX14_give_14 rfl rfl ?_
    obtain ⟨b8, fs9, hb8, hm9, h⟩ := h
    refine q_ci (pc := 15) (q_rV C (st := []) (b := b8) (kX14_isSleeper l G b0 h) (cwV 1 C.2.2.2.2.1 gX14_give_X14_isSleeper rfl rfl rfl (by decide +kernel) ⟨Nat.le_of_ble_eq_true rfl, Nat.le_of_ble_eq_true rfl⟩) hm9 rfl rfl rfl (by first | exact Nat.le_of_ble_eq_true rfl | (simp [q_cat, q_catI, q_catJ, q_catR, q_catN]; done)) (by rw [hb8]; first | done | rfl) dX14_give_15 ⟨(by first | omega | (dsimp only; omega)), (by first | omega | (dsimp only; omega))⟩) (fun x6 M7 h => ?_)
    refine q_if_ne (pc := 18) C 27 dX14_give_18 (by decide) (fun c9 => ?_) (fun c9 => ?_)
    · have h := h.2 c9
      refine q_aload_n (pc := 27) C 0 0 dX14_give_27 rfl rfl ?_
      refine q_gR (pc := 28) C h (T := TX14) rfl (by decide) (wk_u rfl wm_X14_give uq_X14 (by decide +kernel)) (by decide +kernel) (fun _ h9 => h9) dX14_give_28 (fun x10 h => ?_)
      refine q_iload_n (pc := 31) C 1 1 dX14_give_31 rfl rfl ?_
      obtain ⟨b13, fs9, hb13, hm9, h⟩ := h
      refine q_cq (pc := 32) (q_rV C (st := []) (b := b13) (kJx4a65c_get_915e3 l G b0 h) (cwV 1 C.2.2.2.2.1 gX14_give_Jx4a65c_get_915e3 rfl rfl rfl (by decide +kernel) ⟨Nat.le_of_ble_eq_true rfl, Nat.le_of_ble_eq_true rfl⟩) hm9 rfl rfl rfl (by first | exact Nat.le_of_ble_eq_true rfl | (simp [q_cat, q_catI, q_catJ, q_catR, q_catN]; done)) (by rw [hb13]; first | done | rfl) dX14_give_32 ⟨(by first | omega | (dsimp only; omega)), (by first | omega | (dsimp only; omega))⟩) (fun x11 M12 h => ?_)
      refine q_cast (pc := 35) C h rfl rfl (by decide +kernel) dX14_give_35 (fun h => ?_)
      refine q_gIN (pc := 38) C h (host := "LullabygateModel") (T := TX12) rfl (by decide) (by decide +kernel) 1524 (by decide +kernel) (fun _ h9 => h9) dX14_give_38 (fun x14 h => ?_)
      refine q_istore_n (pc := 41) C 3 [(3, .int x14), (0, va_rf l0), (1, .int l1), (2, .int l2)] dX14_give_41 rfl (by decide) (by first | rfl | simp [q_cat, q_catI, q_catJ, q_catR, q_catN]) ?_
      refine q_iload_n (pc := 42) C 3 0 dX14_give_42 rfl rfl ?_
      refine q_bipush (pc := 43) C 100 dX14_give_43 (by decide) ?_
      refine q_icmp_ge (pc := 45) C 53 dX14_give_45 (by decide) (fun c15 => ?_) (fun c15 => ?_)
      · have h := h.1 c15
        refine q_widen (k2 := 0) (n2 := 0) (by omega) (by omega) ?_
        refine q_lv [1] rfl ?_
        exact tX14_give_53 C hr hlocks h
      · have h := h.2 c15
        refine q_iload_n (pc := 48) C 3 0 dX14_give_48 rfl rfl ?_
        refine q_iload_n (pc := 49) C 2 3 dX14_give_49 rfl rfl ?_
        refine q_icmp_ne (pc := 50) C 59 dX14_give_50 (by decide) (fun c16 => ?_) (fun c16 => ?_)
        · have h := h.2 c16
          refine q_aload_n (pc := 59) C 0 1 dX14_give_59 rfl rfl ?_
          refine q_gR (pc := 60) C h (T := TX14) rfl (by decide) (wk_u rfl wm_X14_give uq_X14 (by decide +kernel)) (by decide +kernel) (fun _ h9 => h9) dX14_give_60 (fun x17 h => ?_)
          refine q_iload_n (pc := 63) C 3 0 dX14_give_63 rfl rfl ?_
          obtain ⟨b20, fs9, hb20, hm9, h⟩ := h
          refine q_cq (pc := 64) (q_rV C (st := []) (b := b20) (kJx4a65c_get_915e3 l G b0 h) (cwV 1 C.2.2.2.2.1 gX14_give_Jx4a65c_get_915e3 rfl rfl rfl (by decide +kernel) ⟨Nat.le_of_ble_eq_true rfl, Nat.le_of_ble_eq_true rfl⟩) hm9 rfl rfl rfl (by first | exact Nat.le_of_ble_eq_true rfl | (simp [q_cat, q_catI, q_catJ, q_catR, q_catN]; done)) (by rw [hb20]; first | done | rfl) dX14_give_64 ⟨(by first | omega | (dsimp only; omega)), (by first | omega | (dsimp only; omega))⟩) (fun x18 M19 h => ?_)
          refine q_cast (pc := 67) C h rfl rfl (by decide +kernel) dX14_give_67 (fun h => ?_)
          refine q_astore (pc := 70) C 4 [(4, va_rf x18), (3, .int x14), (0, va_rf l0), (1, .int l1), (2, .int l2)] dX14_give_70 (by decide) (by first | rfl | simp [q_cat, q_catI, q_catJ, q_catR, q_catN]) ?_
          refine q_aload_n (pc := 72) C 0 2 dX14_give_72 rfl rfl ?_
          refine q_gR (pc := 73) C h (T := TX14) rfl (by decide) (wk_u rfl wm_X14_give uq_X14 (by decide +kernel)) (by decide +kernel) (fun _ h9 => h9) dX14_give_73 (fun x21 h => ?_)
          refine q_iload_n (pc := 76) C 2 4 dX14_give_76 rfl rfl ?_
          obtain ⟨b24, fs9, hb24, hm9, h⟩ := h
          refine q_cq (pc := 77) (q_rV C (st := []) (b := b24) (kJx4a65c_get_915e3 l G b0 h) (cwV 1 C.2.2.2.2.1 gX14_give_Jx4a65c_get_915e3 rfl rfl rfl (by decide +kernel) ⟨Nat.le_of_ble_eq_true rfl, Nat.le_of_ble_eq_true rfl⟩) hm9 rfl rfl rfl (by first | exact Nat.le_of_ble_eq_true rfl | (simp [q_cat, q_catI, q_catJ, q_catR, q_catN]; done)) (by rw [hb24]; first | done | rfl) dX14_give_77 ⟨(by first | omega | (dsimp only; omega)), (by first | omega | (dsimp only; omega))⟩) (fun x22 M23 h => ?_)
          refine q_cast (pc := 80) C h rfl rfl (by decide +kernel) dX14_give_80 (fun h => ?_)
          refine q_astore (pc := 83) C 5 [(5, va_rf x22), (4, va_rf x18), (3, .int x14), (0, va_rf l0), (1, .int l1), (2, .int l2)] dX14_give_83 (by decide) (by first | rfl | simp [q_cat, q_catI, q_catJ, q_catR, q_catN]) ?_
          refine q_aload (pc := 85) C 4 1 dX14_give_85 rfl ?_
          refine q_gIN (pc := 87) C h (host := "LullabygateModel") (T := TX13) rfl (by decide) (by decide +kernel) 1474 (by decide +kernel) (fun _ h9 => h9) dX14_give_87 (fun x25 h => ?_)
          refine q_aload (pc := 90) C 5 0 dX14_give_90 rfl ?_
          refine q_gIN (pc := 92) C h (host := "LullabygateModel") (T := TX13) rfl (by decide) (by decide +kernel) 1474 (by decide +kernel) (fun _ h9 => h9) dX14_give_92 (fun x26 h => ?_)
          refine q_icmp_ne (pc := 95) C 114 dX14_give_95 (by decide) (fun c27 => ?_) (fun c27 => ?_)
          · have h := h.2 c27
            refine q_widen (k2 := 0) (n2 := 0) (by omega) (by omega) ?_
            refine q_lv [3] rfl ?_
            exact tX14_give_114 C hr hlocks h
          · have h := h.1 c27
            refine q_aload (pc := 98) C 4 1 dX14_give_98 rfl ?_
            refine q_gIN (pc := 100) C h (host := "LullabygateModel") (T := TX13) rfl (by decide) (by decide +kernel) 1477 (by decide +kernel) (fun _ h9 => h9) dX14_give_100 (fun x28 h => ?_)
            refine q_if_ne (pc := 103) C 114 dX14_give_103 (by decide) (fun c29 => ?_) (fun c29 => ?_)
            · have h := h.2 c29
              refine q_widen (k2 := 0) (n2 := 0) (by omega) (by omega) ?_
              refine q_lv [3] rfl ?_
              exact tX14_give_114 C hr hlocks h
            · have h := h.1 c29
              refine q_aload (pc := 106) C 5 0 dX14_give_106 rfl ?_
              refine q_gIN (pc := 108) C h (host := "LullabygateModel") (T := TX13) rfl (by decide) (by decide +kernel) 1477 (by decide +kernel) (fun _ h9 => h9) dX14_give_108 (fun x30 h => ?_)
              refine q_if_eq (pc := 111) C 120 dX14_give_111 (by decide) (fun c31 => ?_) (fun c31 => ?_)
              · have h := h.1 c31
                refine q_aload_n (pc := 120) C 0 3 dX14_give_120 rfl rfl ?_
                refine q_gR (pc := 121) C h (T := TX14) rfl (by decide) (wk_u rfl wm_X14_give uq_X14 (by decide +kernel)) (by decide +kernel) (fun _ h9 => h9) dX14_give_121 (fun x32 h => ?_)
                refine q_iload_n (pc := 124) C 1 4 dX14_give_124 rfl rfl ?_
                obtain ⟨b35, fs9, hb35, hm9, h⟩ := h
                refine q_cq (pc := 125) (q_rV C (st := []) (b := b35) (kJx4a65c_get_915e3 l G b0 h) (cwV 1 C.2.2.2.2.1 gX14_give_Jx4a65c_get_915e3 rfl rfl rfl (by decide +kernel) ⟨Nat.le_of_ble_eq_true rfl, Nat.le_of_ble_eq_true rfl⟩) hm9 rfl rfl rfl (by first | exact Nat.le_of_ble_eq_true rfl | (simp [q_cat, q_catI, q_catJ, q_catR, q_catN]; done)) (by rw [hb35]; first | done | rfl) dX14_give_125 ⟨(by first | omega | (dsimp only; omega)), (by first | omega | (dsimp only; omega))⟩) (fun x33 M34 h => ?_)
                refine q_cast (pc := 128) C h rfl rfl (by decide +kernel) dX14_give_128 (fun h => ?_)
                refine q_iload_n (pc := 131) C 2 5 dX14_give_131 rfl rfl ?_
                refine q_pN (pc := 132) C h .int (host := "LullabygateModel") (T := TX12) tyX12 tyX12_ok nmX12 rfl (by decide +kernel) rfl rfl rfl (by decide) (by decide +kernel) 1524 (by decide +kernel) (fun _ h9 => h9) rfl dX14_give_132 (fun M36 h => ?_)
                refine q_iload_n (pc := 135) C 3 2 dX14_give_135 rfl rfl ?_
                exact q_iret (pc := 136) C hr hlocks h dX14_give_136 (by omega) (by omega)
              · have h := h.2 c31
                refine q_widen (k2 := 0) (n2 := 0) (by omega) (by omega) ?_
                refine q_lv [3] rfl ?_
                exact tX14_give_114 C hr hlocks h
        · have h := h.1 c16
          refine q_widen (k2 := 0) (n2 := 0) (by omega) (by omega) ?_
          refine q_lv [1] rfl ?_
          exact tX14_give_53 C hr hlocks h
    · have h := h.1 c9
      refine q_widen (k2 := 0) (n2 := 0) (by omega) (by omega) ?_
      refine q_lv [0] rfl ?_
      exact tX14_give_21 C hr hlocks h
set_option maxRecDepth 100000 in
set_option maxHeartbeats 4000000 in
theorem kX14_give (l : Launch) (G : mG) (b0 : Nat) {b : Nat} {l1 : Int32} {l2 : Int32} {M : mM} {κ : Int32 → mM → Prop} (h : wX14_give κ (some b) l1 l2 M) : Met l yX14_give wsX14_give ({ frames := 3, cells := 0, slots := 0, locals := 64 } : Room) (va_Pc [.ref b, .int l1, .int l2] (m_Pre G b0 M)) (va_Qi κ (m_B G b0) (fun q => b0 ≤ q)) 0 0 (fun q => b0 ≤ q) := by
  refine m_met (cc := cX14_give) (maxL := 6) (ret := (some .int)) (lv := [(0, va_rf (some b)), (1, .int l1), (2, .int l2)]) RX14 rfl (by decide +kernel) rfl (by first | exact Nat.le_of_ble_eq_true rfl | simp [lg_sl, q_cat, q_catI, q_catJ, q_catR, q_catN]) (by first | rfl | (simp [lv_args, q_cat, q_catI, q_catJ, q_catR, q_catN]; done) | (simp [lv_args, q_cat, q_catI, q_catJ, q_catR, q_catN]; rfl)) ?_
  intro p e s m args below meth c C hr hlocks hni
  exact tX14_give C hr hlocks h
/-! X14_right -/
set_option maxRecDepth 100000 in
set_option maxHeartbeats 4000000 in
theorem tX14_right {p : Program} {l : Launch} {e : Env} {s : State} {m : MethodId} {args : Array Value} {below : List Frame} {meth : Method} {c : Code} {G : mG} {b0 : Nat} (C : m_C p s m args c cX14_right 3 RX14 wsX14_right G b0) (hr : meth.sig.returnType = (some .int)) (hlocks : meth.locks = false) {κ : Int32 → mM → Prop} {l0 : Int32} {l1 : Int32} {l2 : Int32} {M : mM} (h : wX14_right κ l0 l1 l2 M) : m_W p l e ({ frames := 0, cells := 0, slots := 0, locals := 0 } : Room) s m args below meth c G b0 (MQ below (va_Qi κ (m_B G b0) (fun q => b0 ≤ q)) args s 0 0 (fun q => b0 ≤ q)) 3 M 0 0 0 [(0, .int l0), (1, .int l1), (2, .int l2)] [] := by
  unfold wX14_right at h
  refine q_bipush (pc := 0) C 13 dX14_right_0 (by decide) ?_
  refine q_iload_n (pc := 2) C 0 0 dX14_right_2 rfl rfl ?_
  refine q_imul (pc := 3) C dX14_right_3 ?_
  refine q_bipush (pc := 4) C 29 dX14_right_4 (by decide) ?_
  refine q_iload_n (pc := 6) C 1 1 dX14_right_6 rfl rfl ?_
  refine q_imul (pc := 7) C dX14_right_7 ?_
  refine q_iadd (pc := 8) C dX14_right_8 ?_
  refine q_bipush (pc := 9) C 7 dX14_right_9 (by decide) ?_
  refine q_iload_n (pc := 11) C 2 2 dX14_right_11 rfl rfl ?_
  refine q_imul (pc := 12) C dX14_right_12 ?_
  refine q_iadd (pc := 13) C dX14_right_13 ?_
  refine q_bipush (pc := 14) C 97 dX14_right_14 (by decide) ?_
  refine q_irem (pc := 16) C dX14_right_16 (by decide) ?_
  refine m_stk (st2 := .int (m_rem (((13 * l0) + (29 * l1)) + (7 * l2)) 97) :: _) rfl ?_
  exact q_iret (pc := 17) C hr hlocks h dX14_right_17 (by omega) (by omega)
set_option maxRecDepth 100000 in
set_option maxHeartbeats 4000000 in
theorem kX14_right (l : Launch) (G : mG) (b0 : Nat) {l0 : Int32} {l1 : Int32} {l2 : Int32} {M : mM} {κ : Int32 → mM → Prop} (h : wX14_right κ l0 l1 l2 M) : Met l yX14_right wsX14_right ({ frames := 0, cells := 0, slots := 0, locals := 0 } : Room) (va_Pc [.int l0, .int l1, .int l2] (m_Pre G b0 M)) (va_Qi κ (m_B G b0) (fun q => b0 ≤ q)) 0 0 (fun q => b0 ≤ q) := by
  refine m_met (cc := cX14_right) (maxL := 3) (ret := (some .int)) (lv := [(0, .int l0), (1, .int l1), (2, .int l2)]) RX14 rfl (by decide +kernel) rfl (by first | exact Nat.le_of_ble_eq_true rfl | simp [lg_sl, q_cat, q_catI, q_catJ, q_catR, q_catN]) (by first | rfl | (simp [lv_args, q_cat, q_catI, q_catJ, q_catR, q_catN]; done) | (simp [lv_args, q_cat, q_catI, q_catJ, q_catR, q_catN]; rfl)) ?_
  intro p e s m args below meth c C hr hlocks hni
  exact tX14_right C hr hlocks h
/-! X14_sing -/
set_option maxRecDepth 100000 in
set_option maxHeartbeats 4000000 in
theorem tX14_sing_21 {p : Program} {l : Launch} {e : Env} {s : State} {m : MethodId} {args : Array Value} {below : List Frame} {meth : Method} {c : Code} {G : mG} {b0 : Nat} (C : m_C p s m args c cX14_sing 6 RX14 wsX14_sing G b0) (hr : meth.sig.returnType = (some .int)) (hlocks : meth.locks = false) {κ : Int32 → mM → Prop} {l0 : Option Nat} {M : mM} (h : wX14_sing_21 κ l0 M) : m_W p l e ({ frames := 3, cells := 0, slots := 0, locals := 64 } : Room) s m args below meth c G b0 (MQ below (va_Qi κ (m_B G b0) (fun q => b0 ≤ q)) args s 0 0 (fun q => b0 ≤ q)) 6 M 0 0 21 [(0, va_rf l0)] [] := by
  unfold wX14_sing_21 at h
  refine q_aload_n (pc := 21) C 0 0 dX14_sing_21 rfl rfl ?_
  refine q_iconst (pc := 22) C 1 dX14_sing_22 (by decide) ?_
  obtain ⟨b3, fs9, hb3, hm9, h⟩ := h
  refine q_ci (pc := 23) (q_rV C (st := []) (b := b3) (kX14_refuse l G b0 h) (cwV 1 C.2.2.2.2.1 gX14_sing_X14_refuse rfl rfl rfl (by decide +kernel) ⟨Nat.le_of_ble_eq_true rfl, Nat.le_of_ble_eq_true rfl⟩) hm9 rfl rfl rfl (by first | exact Nat.le_of_ble_eq_true rfl | (simp [q_cat, q_catI, q_catJ, q_catR, q_catN]; done)) (by rw [hb3]; first | done | rfl) dX14_sing_23 ⟨(by first | omega | (dsimp only; omega)), (by first | omega | (dsimp only; omega))⟩) (fun x1 M2 h => ?_)
  exact q_iret (pc := 26) C hr hlocks h dX14_sing_26 (by omega) (by omega)
set_option maxRecDepth 100000 in
set_option maxHeartbeats 4000000 in
theorem tX14_sing_51 {p : Program} {l : Launch} {e : Env} {s : State} {m : MethodId} {args : Array Value} {below : List Frame} {meth : Method} {c : Code} {G : mG} {b0 : Nat} (C : m_C p s m args c cX14_sing 6 RX14 wsX14_sing G b0) (hr : meth.sig.returnType = (some .int)) (hlocks : meth.locks = false) {κ : Int32 → mM → Prop} {l0 : Option Nat} {M : mM} (h : wX14_sing_51 κ l0 M) : m_W p l e ({ frames := 3, cells := 0, slots := 0, locals := 64 } : Room) s m args below meth c G b0 (MQ below (va_Qi κ (m_B G b0) (fun q => b0 ≤ q)) args s 0 0 (fun q => b0 ≤ q)) 6 M 0 0 51 [(0, va_rf l0)] [] := by
  unfold wX14_sing_51 at h
  refine q_aload_n (pc := 51) C 0 0 dX14_sing_51 rfl rfl ?_
  refine q_iconst (pc := 52) C 2 dX14_sing_52 (by decide) ?_
  obtain ⟨b3, fs9, hb3, hm9, h⟩ := h
  refine q_ci (pc := 53) (q_rV C (st := []) (b := b3) (kX14_refuse l G b0 h) (cwV 1 C.2.2.2.2.1 gX14_sing_X14_refuse rfl rfl rfl (by decide +kernel) ⟨Nat.le_of_ble_eq_true rfl, Nat.le_of_ble_eq_true rfl⟩) hm9 rfl rfl rfl (by first | exact Nat.le_of_ble_eq_true rfl | (simp [q_cat, q_catI, q_catJ, q_catR, q_catN]; done)) (by rw [hb3]; first | done | rfl) dX14_sing_53 ⟨(by first | omega | (dsimp only; omega)), (by first | omega | (dsimp only; omega))⟩) (fun x1 M2 h => ?_)
  exact q_iret (pc := 56) C hr hlocks h dX14_sing_56 (by omega) (by omega)
set_option maxRecDepth 100000 in
set_option maxHeartbeats 4000000 in
theorem tX14_sing {p : Program} {l : Launch} {e : Env} {s : State} {m : MethodId} {args : Array Value} {below : List Frame} {meth : Method} {c : Code} {G : mG} {b0 : Nat} (C : m_C p s m args c cX14_sing 6 RX14 wsX14_sing G b0) (hr : meth.sig.returnType = (some .int)) (hlocks : meth.locks = false) {κ : Int32 → mM → Prop} {l0 : Option Nat} {l1 : Int32} {l2 : Int32} {l3 : Int32} {l4 : Int32} {M : mM} (h : wX14_sing κ l0 l1 l2 l3 l4 M) : m_W p l e ({ frames := 3, cells := 0, slots := 0, locals := 64 } : Room) s m args below meth c G b0 (MQ below (va_Qi κ (m_B G b0) (fun q => b0 ≤ q)) args s 0 0 (fun q => b0 ≤ q)) 6 M 0 0 0 [(0, va_rf l0), (1, .int l1), (2, .int l2), (3, .int l3), (4, .int l4)] [] := by
  unfold wX14_sing at h
  refine q_aload_n (pc := 0) C 0 0 dX14_sing_0 rfl rfl ?_
  refine q_iconst (pc := 1) C 0 dX14_sing_1 (by decide) ?_
  refine q_p (pc := 2) C h .int (T := TX14) tyX14 tyX14_ok nmX14 rfl (by decide +kernel) rfl rfl rfl (by decide) (wk_u rfl wm_X14_sing uq_X14 (by decide +kernel)) (by decide +kernel) (fun _ h9 => h9) rfl dX14_sing_2 (fun M1 h => ?_)
  refine q_aload_n (pc := 5) C 0 0 dX14_sing_5 rfl rfl ?_
  refine q_iload_n (pc := 6) C 1 1 dX14_sing_6 rfl rfl ?_
  obtain ⟨b4, fs9, hb4, hm9, h⟩ := h
  refine q_ci (pc := 7) (q_rV C (st := []) (b := b4) (kX14_isSleeper l G b0 h) (cwV 1 C.2.2.2.2.1 gX14_sing_X14_isSleeper rfl rfl rfl (by decide +kernel) ⟨Nat.le_of_ble_eq_true rfl, Nat.le_of_ble_eq_true rfl⟩) hm9 rfl rfl rfl (by first | exact Nat.le_of_ble_eq_true rfl | (simp [q_cat, q_catI, q_catJ, q_catR, q_catN]; done)) (by rw [hb4]; first | done | rfl) dX14_sing_7 ⟨(by first | omega | (dsimp only; omega)), (by first | omega | (dsimp only; omega))⟩) (fun x2 M3 h => ?_)
  refine q_if_eq (pc := 10) C 21 dX14_sing_10 (by decide) (fun c5 => ?_) (fun c5 => ?_)
  · have h := h.1 c5
    refine q_widen (k2 := 0) (n2 := 0) (by omega) (by omega) ?_
    refine q_lv [0] rfl ?_
    exact tX14_sing_21 C hr hlocks h
  · have h := h.2 c5
    refine q_aload_n (pc := 13) C 0 0 dX14_sing_13 rfl rfl ?_
    refine q_iload_n (pc := 14) C 2 2 dX14_sing_14 rfl rfl ?_
    obtain ⟨b8, fs9, hb8, hm9, h⟩ := h
    refine q_ci (pc := 15) (q_rV C (st := []) (b := b8) (kX14_isGate l G b0 h) (cwV 1 C.2.2.2.2.1 gX14_sing_X14_isGate rfl rfl rfl (by decide +kernel) ⟨Nat.le_of_ble_eq_true rfl, Nat.le_of_ble_eq_true rfl⟩) hm9 rfl rfl rfl (by first | exact Nat.le_of_ble_eq_true rfl | (simp [q_cat, q_catI, q_catJ, q_catR, q_catN]; done)) (by rw [hb8]; first | done | rfl) dX14_sing_15 ⟨(by first | omega | (dsimp only; omega)), (by first | omega | (dsimp only; omega))⟩) (fun x6 M7 h => ?_)
    refine q_if_ne (pc := 18) C 27 dX14_sing_18 (by decide) (fun c9 => ?_) (fun c9 => ?_)
    · have h := h.2 c9
      refine q_iload_n (pc := 27) C 3 3 dX14_sing_27 rfl rfl ?_
      refine q_aload_n (pc := 28) C 0 0 dX14_sing_28 rfl rfl ?_
      refine q_gI (pc := 29) C h (T := TX14) rfl (by decide) (wk_u rfl wm_X14_sing uq_X14 (by decide +kernel)) (by decide +kernel) (fun _ h9 => h9) dX14_sing_29 (fun x10 h => ?_)
      refine q_bipush (pc := 32) C 99 dX14_sing_32 (by decide) ?_
      refine q_ci (pc := 34) (q_rS C (st := []) (kX14_is l G b0 h) (va_cwS 3 C.2.2.2.2.1 gX14_sing_X14_is rfl rfl rfl (by decide +kernel) ⟨Nat.le_of_ble_eq_true rfl, Nat.le_of_ble_eq_true rfl⟩) rfl (by first | exact Nat.le_of_ble_eq_true rfl | (simp [q_cat, q_catI, q_catJ, q_catR, q_catN]; done)) rfl dX14_sing_34 ⟨(by first | omega | (dsimp only; omega)), (by first | omega | (dsimp only; omega))⟩) (fun x11 M12 h => ?_)
      refine q_if_eq (pc := 37) C 51 dX14_sing_37 (by decide) (fun c13 => ?_) (fun c13 => ?_)
      · have h := h.1 c13
        refine q_widen (k2 := 0) (n2 := 0) (by omega) (by omega) ?_
        refine q_lv [0] rfl ?_
        exact tX14_sing_51 C hr hlocks h
      · have h := h.2 c13
        refine q_iload (pc := 40) C 4 4 dX14_sing_40 rfl ?_
        refine q_iconst (pc := 42) C 0 dX14_sing_42 (by decide) ?_
        refine q_bipush (pc := 43) C 96 dX14_sing_43 (by decide) ?_
        refine q_ci (pc := 45) (q_rS C (st := []) (kX14_is l G b0 h) (va_cwS 3 C.2.2.2.2.1 gX14_sing_X14_is rfl rfl rfl (by decide +kernel) ⟨Nat.le_of_ble_eq_true rfl, Nat.le_of_ble_eq_true rfl⟩) rfl (by first | exact Nat.le_of_ble_eq_true rfl | (simp [q_cat, q_catI, q_catJ, q_catR, q_catN]; done)) rfl dX14_sing_45 ⟨(by first | omega | (dsimp only; omega)), (by first | omega | (dsimp only; omega))⟩) (fun x14 M15 h => ?_)
        refine q_if_ne (pc := 48) C 57 dX14_sing_48 (by decide) (fun c16 => ?_) (fun c16 => ?_)
        · have h := h.2 c16
          refine q_aload_n (pc := 57) C 0 0 dX14_sing_57 rfl rfl ?_
          refine q_gR (pc := 58) C h (T := TX14) rfl (by decide) (wk_u rfl wm_X14_sing uq_X14 (by decide +kernel)) (by decide +kernel) (fun _ h9 => h9) dX14_sing_58 (fun x17 h => ?_)
          refine q_iload_n (pc := 61) C 1 1 dX14_sing_61 rfl rfl ?_
          obtain ⟨b20, fs9, hb20, hm9, h⟩ := h
          refine q_cq (pc := 62) (q_rV C (st := []) (b := b20) (kJx4a65c_get_915e3 l G b0 h) (cwV 1 C.2.2.2.2.1 gX14_sing_Jx4a65c_get_915e3 rfl rfl rfl (by decide +kernel) ⟨Nat.le_of_ble_eq_true rfl, Nat.le_of_ble_eq_true rfl⟩) hm9 rfl rfl rfl (by first | exact Nat.le_of_ble_eq_true rfl | (simp [q_cat, q_catI, q_catJ, q_catR, q_catN]; done)) (by rw [hb20]; first | done | rfl) dX14_sing_62 ⟨(by first | omega | (dsimp only; omega)), (by first | omega | (dsimp only; omega))⟩) (fun x18 M19 h => ?_)
          refine q_cast (pc := 65) C h rfl rfl (by decide +kernel) dX14_sing_65 (fun h => ?_)
          refine q_astore (pc := 68) C 5 [(5, va_rf x18), (0, va_rf l0), (1, .int l1), (2, .int l2), (3, .int l3), (4, .int l4)] dX14_sing_68 (by decide) (by first | rfl | simp [q_cat, q_catI, q_catJ, q_catR, q_catN]) ?_
          refine q_aload (pc := 70) C 5 0 dX14_sing_70 rfl ?_
          refine q_iload_n (pc := 72) C 2 3 dX14_sing_72 rfl rfl ?_
          refine q_pN (pc := 73) C h .int (host := "LullabygateModel") (T := TX13) tyX13 tyX13_ok nmX13 rfl (by decide +kernel) rfl rfl rfl (by decide) (by decide +kernel) 1482 (by decide +kernel) (fun _ h9 => h9) rfl dX14_sing_73 (fun M21 h => ?_)
          refine q_aload (pc := 76) C 5 0 dX14_sing_76 rfl ?_
          refine q_iload_n (pc := 78) C 3 4 dX14_sing_78 rfl rfl ?_
          refine q_pN (pc := 79) C h .int (host := "LullabygateModel") (T := TX13) tyX13 tyX13_ok nmX13 rfl (by decide +kernel) rfl rfl rfl (by decide) (by decide +kernel) 1483 (by decide +kernel) (fun _ h9 => h9) rfl dX14_sing_79 (fun M22 h => ?_)
          refine q_aload (pc := 82) C 5 0 dX14_sing_82 rfl ?_
          refine q_iload (pc := 84) C 4 5 dX14_sing_84 rfl ?_
          refine q_pN (pc := 86) C h .int (host := "LullabygateModel") (T := TX13) tyX13 tyX13_ok nmX13 rfl (by decide +kernel) rfl rfl rfl (by decide) (by decide +kernel) 1485 (by decide +kernel) (fun _ h9 => h9) rfl dX14_sing_86 (fun M23 h => ?_)
          refine q_iload_n (pc := 89) C 1 2 dX14_sing_89 rfl rfl ?_
          refine q_iload_n (pc := 90) C 2 3 dX14_sing_90 rfl rfl ?_
          refine q_iload_n (pc := 91) C 3 4 dX14_sing_91 rfl rfl ?_
          refine q_ci (pc := 92) (q_rS C (st := []) (kX14_right l G b0 h) (va_cwS 3 C.2.2.2.2.1 gX14_sing_X14_right rfl rfl rfl (by decide +kernel) ⟨Nat.le_of_ble_eq_true rfl, Nat.le_of_ble_eq_true rfl⟩) rfl (by first | exact Nat.le_of_ble_eq_true rfl | (simp [q_cat, q_catI, q_catJ, q_catR, q_catN]; done)) rfl dX14_sing_92 ⟨(by first | omega | (dsimp only; omega)), (by first | omega | (dsimp only; omega))⟩) (fun x24 M25 h => ?_)
          exact q_iret (pc := 95) C hr hlocks h dX14_sing_95 (by omega) (by omega)
        · have h := h.1 c16
          refine q_widen (k2 := 0) (n2 := 0) (by omega) (by omega) ?_
          refine q_lv [0] rfl ?_
          exact tX14_sing_51 C hr hlocks h
    · have h := h.1 c9
      refine q_widen (k2 := 0) (n2 := 0) (by omega) (by omega) ?_
      refine q_lv [0] rfl ?_
      exact tX14_sing_21 C hr hlocks h
set_option maxRecDepth 100000 in
set_option maxHeartbeats 4000000 in
theorem kX14_sing (l : Launch) (G : mG) (b0 : Nat) {b : Nat} {l1 : Int32} {l2 : Int32} {l3 : Int32} {l4 : Int32} {M : mM} {κ : Int32 → mM → Prop} (h : wX14_sing κ (some b) l1 l2 l3 l4 M) : Met l yX14_sing wsX14_sing ({ frames := 3, cells := 0, slots := 0, locals := 64 } : Room) (va_Pc [.ref b, .int l1, .int l2, .int l3, .int l4] (m_Pre G b0 M)) (va_Qi κ (m_B G b0) (fun q => b0 ≤ q)) 0 0 (fun q => b0 ≤ q) := by
  refine m_met (cc := cX14_sing) (maxL := 6) (ret := (some .int)) (lv := [(0, va_rf (some b)), (1, .int l1), (2, .int l2), (3, .int l3), (4, .int l4)]) RX14 rfl (by decide +kernel) rfl (by first | exact Nat.le_of_ble_eq_true rfl | simp [lg_sl, q_cat, q_catI, q_catJ, q_catR, q_catN]) (by first | rfl | (simp [lv_args, q_cat, q_catI, q_catJ, q_catR, q_catN]; done) | (simp [lv_args, q_cat, q_catI, q_catJ, q_catR, q_catN]; rfl)) ?_
  intro p e s m args below meth c C hr hlocks hni
  exact tX14_sing C hr hlocks h
/-! X14_revoke -/
set_option maxRecDepth 100000 in
set_option maxHeartbeats 4000000 in
theorem tX14_revoke_28 {p : Program} {l : Launch} {e : Env} {s : State} {m : MethodId} {args : Array Value} {below : List Frame} {meth : Method} {c : Code} {G : mG} {b0 : Nat} (C : m_C p s m args c cX14_revoke 4 RX14 wsX14_revoke G b0) (hr : meth.sig.returnType = (some .boolean)) (hlocks : meth.locks = false) {κ : Int32 → mM → Prop} {l0 : Option Nat} {l1 : Int32} {l2 : Int32} {s0 : Int32} {s1 : Option Nat} {M : mM} (h : wX14_revoke_28 κ l0 l1 l2 s0 s1 M) : m_W p l e ({ frames := 3, cells := 0, slots := 0, locals := 64 } : Room) s m args below meth c G b0 (MQ below (va_Qi κ (m_B G b0) (fun q => b0 ≤ q)) args s 0 0 (fun q => b0 ≤ q)) 4 M 0 0 28 [(0, va_rf l0), (1, .int l1), (2, .int l2)] [.int s0, va_rf s1] := by
  unfold wX14_revoke_28 at h
  refine q_p (pc := 28) C h .int (T := TX14) tyX14 tyX14_ok nmX14 rfl (by decide +kernel) rfl rfl rfl (by decide) (wk_u rfl wm_X14_revoke uq_X14 (by decide +kernel)) (by decide +kernel) (fun _ h9 => h9) rfl dX14_revoke_28 (fun M1 h => ?_)
  refine q_aload_n (pc := 31) C 0 0 dX14_revoke_31 rfl rfl ?_
  refine q_gI (pc := 32) C h (T := TX14) rfl (by decide) (wk_u rfl wm_X14_revoke uq_X14 (by decide +kernel)) (by decide +kernel) (fun _ h9 => h9) dX14_revoke_32 (fun x2 h => ?_)
  refine q_if_le (pc := 35) C 40 dX14_revoke_35 (by decide) (fun c3 => ?_) (fun c3 => ?_)
  · have h := h.1 c3
    refine q_aload_n (pc := 40) C 0 0 dX14_revoke_40 rfl rfl ?_
    refine q_gR (pc := 41) C h (T := TX14) rfl (by decide) (wk_u rfl wm_X14_revoke uq_X14 (by decide +kernel)) (by decide +kernel) (fun _ h9 => h9) dX14_revoke_41 (fun x4 h => ?_)
    refine q_iload_n (pc := 44) C 1 1 dX14_revoke_44 rfl rfl ?_
    obtain ⟨b7, fs9, hb7, hm9, h⟩ := h
    refine q_cq (pc := 45) (q_rV C (st := []) (b := b7) (kJx4a65c_get_915e3 l G b0 h) (cwV 1 C.2.2.2.2.1 gX14_revoke_Jx4a65c_get_915e3 rfl rfl rfl (by decide +kernel) ⟨Nat.le_of_ble_eq_true rfl, Nat.le_of_ble_eq_true rfl⟩) hm9 rfl rfl rfl (by first | exact Nat.le_of_ble_eq_true rfl | (simp [q_cat, q_catI, q_catJ, q_catR, q_catN]; done)) (by rw [hb7]; first | done | rfl) dX14_revoke_45 ⟨(by first | omega | (dsimp only; omega)), (by first | omega | (dsimp only; omega))⟩) (fun x5 M6 h => ?_)
    refine q_cast (pc := 48) C h rfl rfl (by decide +kernel) dX14_revoke_48 (fun h => ?_)
    refine q_gRN (pc := 51) C h (host := "LullabygateModel") (T := TX10) rfl (by decide) (by decide +kernel) 1432 (by decide +kernel) (fun _ h9 => h9) dX14_revoke_51 (fun x8 h => ?_)
    refine q_iload_n (pc := 54) C 2 2 dX14_revoke_54 rfl rfl ?_
    refine q_zald (pc := 55) C h dX14_revoke_55 (fun x9 h => ?_)
    refine q_istore_n (pc := 56) C 3 [(3, .int x9), (0, va_rf l0), (1, .int l1), (2, .int l2)] dX14_revoke_56 rfl (by decide) (by first | rfl | simp [q_cat, q_catI, q_catJ, q_catR, q_catN]) ?_
    refine q_aload_n (pc := 57) C 0 1 dX14_revoke_57 rfl rfl ?_
    refine q_gR (pc := 58) C h (T := TX14) rfl (by decide) (wk_u rfl wm_X14_revoke uq_X14 (by decide +kernel)) (by decide +kernel) (fun _ h9 => h9) dX14_revoke_58 (fun x10 h => ?_)
    refine q_iload_n (pc := 61) C 1 2 dX14_revoke_61 rfl rfl ?_
    obtain ⟨b13, fs9, hb13, hm9, h⟩ := h
    refine q_cq (pc := 62) (q_rV C (st := []) (b := b13) (kJx4a65c_get_915e3 l G b0 h) (cwV 1 C.2.2.2.2.1 gX14_revoke_Jx4a65c_get_915e3 rfl rfl rfl (by decide +kernel) ⟨Nat.le_of_ble_eq_true rfl, Nat.le_of_ble_eq_true rfl⟩) hm9 rfl rfl rfl (by first | exact Nat.le_of_ble_eq_true rfl | (simp [q_cat, q_catI, q_catJ, q_catR, q_catN]; done)) (by rw [hb13]; first | done | rfl) dX14_revoke_62 ⟨(by first | omega | (dsimp only; omega)), (by first | omega | (dsimp only; omega))⟩) (fun x11 M12 h => ?_)
    refine q_cast (pc := 65) C h rfl rfl (by decide +kernel) dX14_revoke_65 (fun h => ?_)
    refine q_gRN (pc := 68) C h (host := "LullabygateModel") (T := TX10) rfl (by decide) (by decide +kernel) 1432 (by decide +kernel) (fun _ h9 => h9) dX14_revoke_68 (fun x14 h => ?_)
    refine q_iload_n (pc := 71) C 2 3 dX14_revoke_71 rfl rfl ?_
    refine q_iconst (pc := 72) C 1 dX14_revoke_72 (by decide) ?_
    refine q_zast (pc := 73) C h dX14_revoke_73 (fun M15 h => ?_)
    refine q_iload_n (pc := 74) C 3 0 dX14_revoke_74 rfl rfl ?_
    refine q_if_ne (pc := 75) C 82 dX14_revoke_75 (by decide) (fun c16 => ?_) (fun c16 => ?_)
    · have h := h.2 c16
      refine q_iconst (pc := 82) C 0 dX14_revoke_82 (by decide) ?_
      exact q_zret (pc := 83) C hr hlocks ⟨(by decide), h⟩ dX14_revoke_83 (by omega) (by omega)
    · have h := h.1 c16
      refine q_iconst (pc := 78) C 1 dX14_revoke_78 (by decide) ?_
      refine q_goto (pc := 79) C 83 dX14_revoke_79 (by decide) ?_
      exact q_zret (pc := 83) C hr hlocks ⟨(by decide), h⟩ dX14_revoke_83 (by omega) (by omega)
  · have h := h.2 c3
    refine q_iconst (pc := 38) C 0 dX14_revoke_38 (by decide) ?_
    exact q_zret (pc := 39) C hr hlocks ⟨(by decide), h⟩ dX14_revoke_39 (by omega) (by omega)
set_option maxRecDepth 100000 in
set_option maxHeartbeats 4000000 in
theorem tX14_revoke {p : Program} {l : Launch} {e : Env} {s : State} {m : MethodId} {args : Array Value} {below : List Frame} {meth : Method} {c : Code} {G : mG} {b0 : Nat} (C : m_C p s m args c cX14_revoke 4 RX14 wsX14_revoke G b0) (hr : meth.sig.returnType = (some .boolean)) (hlocks : meth.locks = false) {κ : Int32 → mM → Prop} {l0 : Option Nat} {l1 : Int32} {l2 : Int32} {M : mM} (h : wX14_revoke κ l0 l1 l2 M) : m_W p l e ({ frames := 3, cells := 0, slots := 0, locals := 64 } : Room) s m args below meth c G b0 (MQ below (va_Qi κ (m_B G b0) (fun q => b0 ≤ q)) args s 0 0 (fun q => b0 ≤ q)) 4 M 0 0 0 [(0, va_rf l0), (1, .int l1), (2, .int l2)] [] := by
  unfold wX14_revoke at h
  refine q_aload_n (pc := 0) C 0 0 dX14_revoke_0 rfl rfl ?_
  refine q_aload_n (pc := 1) C 0 0 dX14_revoke_1 rfl rfl ?_
  refine q_iload_n (pc := 2) C 1 1 dX14_revoke_2 rfl rfl ?_
  obtain ⟨b3, fs9, hb3, hm9, h⟩ := h
  refine q_ci (pc := 3) (q_rV C (st := [va_rf l0]) (b := b3) (kX14_isGate l G b0 h) (cwV 1 C.2.2.2.2.1 gX14_revoke_X14_isGate rfl rfl rfl (by decide +kernel) ⟨Nat.le_of_ble_eq_true rfl, Nat.le_of_ble_eq_true rfl⟩) hm9 rfl rfl rfl (by first | exact Nat.le_of_ble_eq_true rfl | (simp [q_cat, q_catI, q_catJ, q_catR, q_catN]; done)) (by rw [hb3]; first | done | rfl) dX14_revoke_3 ⟨(by first | omega | (dsimp only; omega)), (by first | omega | (dsimp only; omega))⟩) (fun x1 M2 h => ?_)
  refine q_if_ne (pc := 6) C 13 dX14_revoke_6 (by decide) (fun c4 => ?_) (fun c4 => ?_)
  · have h := h.2 c4
    refine q_iload_n (pc := 13) C 2 2 dX14_revoke_13 rfl rfl ?_
    refine q_iconst (pc := 14) C 0 dX14_revoke_14 (by decide) ?_
    refine q_bipush (pc := 15) C 96 dX14_revoke_15 (by decide) ?_
    refine q_ci (pc := 17) (q_rS C (st := [va_rf l0]) (kX14_is l G b0 h) (va_cwS 3 C.2.2.2.2.1 gX14_revoke_X14_is rfl rfl rfl (by decide +kernel) ⟨Nat.le_of_ble_eq_true rfl, Nat.le_of_ble_eq_true rfl⟩) rfl (by first | exact Nat.le_of_ble_eq_true rfl | (simp [q_cat, q_catI, q_catJ, q_catR, q_catN]; done)) rfl dX14_revoke_17 ⟨(by first | omega | (dsimp only; omega)), (by first | omega | (dsimp only; omega))⟩) (fun x5 M6 h => ?_)
    refine q_if_ne (pc := 20) C 27 dX14_revoke_20 (by decide) (fun c7 => ?_) (fun c7 => ?_)
    · have h := h.2 c7
      refine q_iconst (pc := 27) C 0 dX14_revoke_27 (by decide) ?_
      refine q_widen (k2 := 0) (n2 := 0) (by omega) (by omega) ?_
      refine q_lv [0, 1, 2] rfl ?_
      exact tX14_revoke_28 C hr hlocks h
    · have h := h.1 c7
      refine q_iconst (pc := 23) C 2 dX14_revoke_23 (by decide) ?_
      refine q_goto (pc := 24) C 28 dX14_revoke_24 (by decide) ?_
      refine q_widen (k2 := 0) (n2 := 0) (by omega) (by omega) ?_
      refine q_lv [0, 1, 2] rfl ?_
      exact tX14_revoke_28 C hr hlocks h
  · have h := h.1 c4
    refine q_iconst (pc := 9) C 1 dX14_revoke_9 (by decide) ?_
    refine q_goto (pc := 10) C 28 dX14_revoke_10 (by decide) ?_
    refine q_widen (k2 := 0) (n2 := 0) (by omega) (by omega) ?_
    refine q_lv [0, 1, 2] rfl ?_
    exact tX14_revoke_28 C hr hlocks h
set_option maxRecDepth 100000 in
set_option maxHeartbeats 4000000 in
theorem kX14_revoke (l : Launch) (G : mG) (b0 : Nat) {b : Nat} {l1 : Int32} {l2 : Int32} {M : mM} {κ : Int32 → mM → Prop} (h : wX14_revoke κ (some b) l1 l2 M) : Met l yX14_revoke wsX14_revoke ({ frames := 3, cells := 0, slots := 0, locals := 64 } : Room) (va_Pc [.ref b, .int l1, .int l2] (m_Pre G b0 M)) (va_Qi κ (m_B G b0) (fun q => b0 ≤ q)) 0 0 (fun q => b0 ≤ q) := by
  refine m_met (cc := cX14_revoke) (maxL := 4) (ret := (some .boolean)) (lv := [(0, va_rf (some b)), (1, .int l1), (2, .int l2)]) RX14 rfl (by decide +kernel) rfl (by first | exact Nat.le_of_ble_eq_true rfl | simp [lg_sl, q_cat, q_catI, q_catJ, q_catR, q_catN]) (by first | rfl | (simp [lv_args, q_cat, q_catI, q_catJ, q_catR, q_catN]; done) | (simp [lv_args, q_cat, q_catI, q_catJ, q_catR, q_catN]; rfl)) ?_
  intro p e s m args below meth c C hr hlocks hni
  exact tX14_revoke C hr hlocks h
/-! X14_head -/
set_option maxRecDepth 100000 in
set_option maxHeartbeats 4000000 in
theorem tX14_head_41 {p : Program} {l : Launch} {e : Env} {s : State} {m : MethodId} {args : Array Value} {below : List Frame} {meth : Method} {c : Code} {G : mG} {b0 : Nat} (C : m_C p s m args c cX14_head 4 RX14 wsX14_head G b0) (hr : meth.sig.returnType = (some .int)) (hlocks : meth.locks = false) {κ : Int32 → mM → Prop} {R4 : Option Nat → Int32 → Int32 → Int32 → mM → Prop} (hR4 : ∀ (l0 : Option Nat) (l1 : Int32) (l2 : Int32) (l3 : Int32) (M : mM), R4 l0 l1 l2 l3 M → m_W p l e ({ frames := 3, cells := 0, slots := 0, locals := 64 } : Room) s m args below meth c G b0 (MQ below (va_Qi κ (m_B G b0) (fun q => b0 ≤ q)) args s 0 0 (fun q => b0 ≤ q)) 4 M 0 0 4 [(0, va_rf l0), (1, .int l1), (2, .int l2), (3, .int l3)] []) {l0 : Option Nat} {l1 : Int32} {l3 : Int32} {s0 : Int32} {s1 : Int32} {M : mM} (h : wX14_head_41 κ R4 l0 l1 l3 s0 s1 M) : m_W p l e ({ frames := 3, cells := 0, slots := 0, locals := 64 } : Room) s m args below meth c G b0 (MQ below (va_Qi κ (m_B G b0) (fun q => b0 ≤ q)) args s 0 0 (fun q => b0 ≤ q)) 4 M 0 0 41 [(0, va_rf l0), (1, .int l1), (3, .int l3)] [.int s0, .int s1] := by
  unfold wX14_head_41 at h
  refine q_ior (pc := 41) C dX14_head_41 ?_
  refine q_istore_n (pc := 42) C 2 [(2, .int (s1 ||| s0)), (0, va_rf l0), (1, .int l1), (3, .int l3)] dX14_head_42 rfl (by decide) (by first | rfl | simp [q_cat, q_catI, q_catJ, q_catR, q_catN]) ?_
  refine q_iinc (pc := 43) C 3 3 (l3 + 1) [(3, .int (l3 + 1)), (2, .int (s1 ||| s0)), (0, va_rf l0), (1, .int l1)] dX14_head_43 rfl (by rfl) (by decide) (by first | rfl | simp [q_cat, q_catI, q_catJ, q_catR, q_catN]) ?_
  refine q_goto (pc := 46) C 4 dX14_head_46 (by decide) ?_
  refine q_widen (k2 := 0) (n2 := 0) (by omega) (by omega) ?_
  refine q_lv [2, 3, 1, 0] rfl ?_
  exact hR4 _ _ _ _ _ h
set_option maxRecDepth 100000 in
set_option maxHeartbeats 4000000 in
theorem tX14_head_4 {p : Program} {l : Launch} {e : Env} {s : State} {m : MethodId} {args : Array Value} {below : List Frame} {meth : Method} {c : Code} {G : mG} {b0 : Nat} (C : m_C p s m args c cX14_head 4 RX14 wsX14_head G b0) (hr : meth.sig.returnType = (some .int)) (hlocks : meth.locks = false) {κ : Int32 → mM → Prop} : ∀ (f : Nat) (l0 : Option Nat) (l1 : Int32) (l2 : Int32) (l3 : Int32) (M : mM), wX14_head_4 κ f l0 l1 l2 l3 M → m_W p l e ({ frames := 3, cells := 0, slots := 0, locals := 64 } : Room) s m args below meth c G b0 (MQ below (va_Qi κ (m_B G b0) (fun q => b0 ≤ q)) args s 0 0 (fun q => b0 ≤ q)) 4 M 0 0 4 [(0, va_rf l0), (1, .int l1), (2, .int l2), (3, .int l3)] [] := by
  intro f
  induction f with
  | zero =>
    intro l0 l1 l2 l3 M h
    exact absurd h (by simp [wX14_head_4])
  | succ f ih =>
    intro l0 l1 l2 l3 M h
    rw [wX14_head_4] at h
    refine q_iload_n (pc := 4) C 3 3 dX14_head_4 rfl rfl ?_
    refine q_aload_n (pc := 5) C 0 0 dX14_head_5 rfl rfl ?_
    refine q_gR (pc := 6) C h (T := TX14) rfl (by decide) (wk_u rfl wm_X14_head uq_X14 (by decide +kernel)) (by decide +kernel) (fun _ h9 => h9) dX14_head_6 (fun x1 h => ?_)
    obtain ⟨b4, fs9, hb4, hm9, h⟩ := h
    refine q_ci (pc := 9) (q_rV C (st := [.int l3]) (b := b4) (kJx4a65c_size_8abf5 l G b0 h) (cwV 0 C.2.2.2.2.1 gX14_head_Jx4a65c_size_8abf5 rfl rfl rfl (by decide +kernel) ⟨Nat.le_of_ble_eq_true rfl, Nat.le_of_ble_eq_true rfl⟩) hm9 rfl rfl rfl (by first | exact Nat.le_of_ble_eq_true rfl | (simp [q_cat, q_catI, q_catJ, q_catR, q_catN]; done)) (by rw [hb4]; first | done | rfl) dX14_head_9 ⟨(by first | omega | (dsimp only; omega)), (by first | omega | (dsimp only; omega))⟩) (fun x2 M3 h => ?_)
    refine q_icmp_ge (pc := 12) C 49 dX14_head_12 (by decide) (fun c5 => ?_) (fun c5 => ?_)
    · have h := h.1 c5
      refine q_iload_n (pc := 49) C 2 2 dX14_head_49 rfl rfl ?_
      exact q_iret (pc := 50) C hr hlocks h dX14_head_50 (by omega) (by omega)
    · have h := h.2 c5
      refine q_iload_n (pc := 15) C 2 2 dX14_head_15 rfl rfl ?_
      refine q_aload_n (pc := 16) C 0 0 dX14_head_16 rfl rfl ?_
      refine q_gR (pc := 17) C h (T := TX14) rfl (by decide) (wk_u rfl wm_X14_head uq_X14 (by decide +kernel)) (by decide +kernel) (fun _ h9 => h9) dX14_head_17 (fun x6 h => ?_)
      refine q_iload_n (pc := 20) C 3 3 dX14_head_20 rfl rfl ?_
      obtain ⟨b9, fs9, hb9, hm9, h⟩ := h
      refine q_cq (pc := 21) (q_rV C (st := [.int l2]) (b := b9) (kJx4a65c_get_915e3 l G b0 h) (cwV 1 C.2.2.2.2.1 gX14_head_Jx4a65c_get_915e3 rfl rfl rfl (by decide +kernel) ⟨Nat.le_of_ble_eq_true rfl, Nat.le_of_ble_eq_true rfl⟩) hm9 rfl rfl rfl (by first | exact Nat.le_of_ble_eq_true rfl | (simp [q_cat, q_catI, q_catJ, q_catR, q_catN]; done)) (by rw [hb9]; first | done | rfl) dX14_head_21 ⟨(by first | omega | (dsimp only; omega)), (by first | omega | (dsimp only; omega))⟩) (fun x7 M8 h => ?_)
      refine q_cast (pc := 24) C h rfl rfl (by decide +kernel) dX14_head_24 (fun h => ?_)
      refine q_gIN (pc := 27) C h (host := "LullabygateModel") (T := TX12) rfl (by decide) (by decide +kernel) 1524 (by decide +kernel) (fun _ h9 => h9) dX14_head_27 (fun x10 h => ?_)
      refine q_iload_n (pc := 30) C 1 1 dX14_head_30 rfl rfl ?_
      refine q_icmp_ne (pc := 31) C 40 dX14_head_31 (by decide) (fun c11 => ?_) (fun c11 => ?_)
      · have h := h.2 c11
        refine q_iconst (pc := 40) C 0 dX14_head_40 (by decide) ?_
        refine q_widen (k2 := 0) (n2 := 0) (by omega) (by omega) ?_
        refine q_lv [0, 1, 3] rfl ?_
        exact tX14_head_41 C hr hlocks ih h
      · have h := h.1 c11
        refine q_iconst (pc := 34) C 1 dX14_head_34 (by decide) ?_
        refine q_iload_n (pc := 35) C 3 3 dX14_head_35 rfl rfl ?_
        refine q_ishl (pc := 36) C dX14_head_36 ?_
        refine m_stk (st2 := .int (m_shl 1 l3) :: _) rfl ?_
        refine q_goto (pc := 37) C 41 dX14_head_37 (by decide) ?_
        refine q_widen (k2 := 0) (n2 := 0) (by omega) (by omega) ?_
        refine q_lv [0, 1, 3] rfl ?_
        exact tX14_head_41 C hr hlocks ih h
set_option maxRecDepth 100000 in
set_option maxHeartbeats 4000000 in
theorem tX14_head {p : Program} {l : Launch} {e : Env} {s : State} {m : MethodId} {args : Array Value} {below : List Frame} {meth : Method} {c : Code} {G : mG} {b0 : Nat} (C : m_C p s m args c cX14_head 4 RX14 wsX14_head G b0) (hr : meth.sig.returnType = (some .int)) (hlocks : meth.locks = false) {κ : Int32 → mM → Prop} {l0 : Option Nat} {l1 : Int32} {M : mM} (h : wX14_head κ l0 l1 M) : m_W p l e ({ frames := 3, cells := 0, slots := 0, locals := 64 } : Room) s m args below meth c G b0 (MQ below (va_Qi κ (m_B G b0) (fun q => b0 ≤ q)) args s 0 0 (fun q => b0 ≤ q)) 4 M 0 0 0 [(0, va_rf l0), (1, .int l1)] [] := by
  unfold wX14_head at h
  refine q_iconst (pc := 0) C 0 dX14_head_0 (by decide) ?_
  refine q_istore_n (pc := 1) C 2 [(2, .int 0), (0, va_rf l0), (1, .int l1)] dX14_head_1 rfl (by decide) (by first | rfl | simp [q_cat, q_catI, q_catJ, q_catR, q_catN]) ?_
  refine q_iconst (pc := 2) C 0 dX14_head_2 (by decide) ?_
  refine q_istore_n (pc := 3) C 3 [(3, .int 0), (2, .int 0), (0, va_rf l0), (1, .int l1)] dX14_head_3 rfl (by decide) (by first | rfl | simp [q_cat, q_catI, q_catJ, q_catR, q_catN]) ?_
  refine q_widen (k2 := 0) (n2 := 0) (by omega) (by omega) ?_
  refine q_lv [2, 3, 1, 0] rfl ?_
  obtain ⟨f9, h⟩ := h
  exact tX14_head_4 C hr hlocks f9 _ _ _ _ _ h
set_option maxRecDepth 100000 in
set_option maxHeartbeats 4000000 in
theorem kX14_head (l : Launch) (G : mG) (b0 : Nat) {b : Nat} {l1 : Int32} {M : mM} {κ : Int32 → mM → Prop} (h : wX14_head κ (some b) l1 M) : Met l yX14_head wsX14_head ({ frames := 3, cells := 0, slots := 0, locals := 64 } : Room) (va_Pc [.ref b, .int l1] (m_Pre G b0 M)) (va_Qi κ (m_B G b0) (fun q => b0 ≤ q)) 0 0 (fun q => b0 ≤ q) := by
  refine m_met (cc := cX14_head) (maxL := 4) (ret := (some .int)) (lv := [(0, va_rf (some b)), (1, .int l1)]) RX14 rfl (by decide +kernel) rfl (by first | exact Nat.le_of_ble_eq_true rfl | simp [lg_sl, q_cat, q_catI, q_catJ, q_catR, q_catN]) (by first | rfl | (simp [lv_args, q_cat, q_catI, q_catJ, q_catR, q_catN]; done) | (simp [lv_args, q_cat, q_catI, q_catJ, q_catR, q_catN]; rfl)) ?_
  intro p e s m args below meth c C hr hlocks hni
  exact tX14_head C hr hlocks h
/-! X14_join -/
set_option maxRecDepth 100000 in
set_option maxHeartbeats 4000000 in
theorem tX14_join_21 {p : Program} {l : Launch} {e : Env} {s : State} {m : MethodId} {args : Array Value} {below : List Frame} {meth : Method} {c : Code} {G : mG} {b0 : Nat} (C : m_C p s m args c cX14_join 7 RX14 wsX14_join G b0) (hr : meth.sig.returnType = (some .int)) (hlocks : meth.locks = false) {g : Nat → Nat} (hg : G.2.2 = g) {κ : Int32 → mM → Prop} {l0 : Option Nat} {M : mM} (h : wX14_join_21 g κ l0 M) : m_W p l e ({ frames := 6, cells := 1, slots := 15, locals := 151 } : Room) s m args below meth c G b0 (MQ below (va_Qi κ (m_B G b0) (fun q => b0 ≤ q)) args s 1 15 (fun q => b0 ≤ q)) 7 M 0 0 21 [(0, va_rf l0)] [] := by
  unfold wX14_join_21 at h
  refine q_aload_n (pc := 21) C 0 0 dX14_join_21 rfl rfl ?_
  refine q_iconst (pc := 22) C 1 dX14_join_22 (by decide) ?_
  obtain ⟨b3, fs9, hb3, hm9, h⟩ := h
  refine q_ci (pc := 23) (q_rV C (st := []) (b := b3) (kX14_refuse l G b0 h) (cwV 1 C.2.2.2.2.1 gX14_join_X14_refuse rfl rfl rfl (by decide +kernel) ⟨Nat.le_of_ble_eq_true rfl, Nat.le_of_ble_eq_true rfl⟩) hm9 rfl rfl rfl (by first | exact Nat.le_of_ble_eq_true rfl | (simp [q_cat, q_catI, q_catJ, q_catR, q_catN]; done)) (by rw [hb3]; first | done | rfl) dX14_join_23 ⟨(by first | omega | (dsimp only; omega)), (by first | omega | (dsimp only; omega))⟩) (fun x1 M2 h => ?_)
  exact q_iret (pc := 26) C hr hlocks h dX14_join_26 (by omega) (by omega)
set_option maxRecDepth 100000 in
set_option maxHeartbeats 4000000 in
theorem tX14_join_43 {p : Program} {l : Launch} {e : Env} {s : State} {m : MethodId} {args : Array Value} {below : List Frame} {meth : Method} {c : Code} {G : mG} {b0 : Nat} (C : m_C p s m args c cX14_join 7 RX14 wsX14_join G b0) (hr : meth.sig.returnType = (some .int)) (hlocks : meth.locks = false) {g : Nat → Nat} (hg : G.2.2 = g) {κ : Int32 → mM → Prop} {l0 : Option Nat} {M : mM} (h : wX14_join_43 g κ l0 M) : m_W p l e ({ frames := 6, cells := 1, slots := 15, locals := 151 } : Room) s m args below meth c G b0 (MQ below (va_Qi κ (m_B G b0) (fun q => b0 ≤ q)) args s 1 15 (fun q => b0 ≤ q)) 7 M 0 0 43 [(0, va_rf l0)] [] := by
  unfold wX14_join_43 at h
  refine q_aload_n (pc := 43) C 0 0 dX14_join_43 rfl rfl ?_
  refine q_iconst (pc := 44) C 2 dX14_join_44 (by decide) ?_
  obtain ⟨b3, fs9, hb3, hm9, h⟩ := h
  refine q_ci (pc := 45) (q_rV C (st := []) (b := b3) (kX14_refuse l G b0 h) (cwV 1 C.2.2.2.2.1 gX14_join_X14_refuse rfl rfl rfl (by decide +kernel) ⟨Nat.le_of_ble_eq_true rfl, Nat.le_of_ble_eq_true rfl⟩) hm9 rfl rfl rfl (by first | exact Nat.le_of_ble_eq_true rfl | (simp [q_cat, q_catI, q_catJ, q_catR, q_catN]; done)) (by rw [hb3]; first | done | rfl) dX14_join_45 ⟨(by first | omega | (dsimp only; omega)), (by first | omega | (dsimp only; omega))⟩) (fun x1 M2 h => ?_)
  exact q_iret (pc := 48) C hr hlocks h dX14_join_48 (by omega) (by omega)
set_option maxRecDepth 100000 in
set_option maxHeartbeats 4000000 in
theorem tX14_join_96 {p : Program} {l : Launch} {e : Env} {s : State} {m : MethodId} {args : Array Value} {below : List Frame} {meth : Method} {c : Code} {G : mG} {b0 : Nat} (C : m_C p s m args c cX14_join 7 RX14 wsX14_join G b0) (hr : meth.sig.returnType = (some .int)) (hlocks : meth.locks = false) {g : Nat → Nat} (hg : G.2.2 = g) {κ : Int32 → mM → Prop} {l0 : Option Nat} {M : mM} (h : wX14_join_96 g κ l0 M) : m_W p l e ({ frames := 6, cells := 1, slots := 15, locals := 151 } : Room) s m args below meth c G b0 (MQ below (va_Qi κ (m_B G b0) (fun q => b0 ≤ q)) args s 1 15 (fun q => b0 ≤ q)) 7 M 0 0 96 [(0, va_rf l0)] [] := by
  unfold wX14_join_96 at h
  refine q_aload_n (pc := 96) C 0 0 dX14_join_96 rfl rfl ?_
  refine q_iconst (pc := 97) C 3 dX14_join_97 (by decide) ?_
  obtain ⟨b3, fs9, hb3, hm9, h⟩ := h
  refine q_ci (pc := 98) (q_rV C (st := []) (b := b3) (kX14_refuse l G b0 h) (cwV 1 C.2.2.2.2.1 gX14_join_X14_refuse rfl rfl rfl (by decide +kernel) ⟨Nat.le_of_ble_eq_true rfl, Nat.le_of_ble_eq_true rfl⟩) hm9 rfl rfl rfl (by first | exact Nat.le_of_ble_eq_true rfl | (simp [q_cat, q_catI, q_catJ, q_catR, q_catN]; done)) (by rw [hb3]; first | done | rfl) dX14_join_98 ⟨(by first | omega | (dsimp only; omega)), (by first | omega | (dsimp only; omega))⟩) (fun x1 M2 h => ?_)
  exact q_iret (pc := 101) C hr hlocks h dX14_join_101 (by omega) (by omega)
set_option maxRecDepth 100000 in
set_option maxHeartbeats 4000000 in
theorem tX14_join_165 {p : Program} {l : Launch} {e : Env} {s : State} {m : MethodId} {args : Array Value} {below : List Frame} {meth : Method} {c : Code} {G : mG} {b0 : Nat} (C : m_C p s m args c cX14_join 7 RX14 wsX14_join G b0) (hr : meth.sig.returnType = (some .int)) (hlocks : meth.locks = false) {g : Nat → Nat} (hg : G.2.2 = g) {κ : Int32 → mM → Prop} {l1 : Int32} {l2 : Int32} {l3 : Int32} {l4 : Option Nat} {l5 : Option Nat} {l6 : Int32} {M : mM} (h : wX14_join_165 g κ l1 l2 l3 l4 l5 l6 M) : m_W p l e ({ frames := 6, cells := 1, slots := 15, locals := 151 } : Room) s m args below meth c G b0 (MQ below (va_Qi κ (m_B G b0) (fun q => b0 ≤ q)) args s 1 15 (fun q => b0 ≤ q)) 7 M 0 0 165 [(1, .int l1), (2, .int l2), (3, .int l3), (4, va_rf l4), (5, va_rf l5), (6, .int l6)] [] := by
  unfold wX14_join_165 at h
  refine q_aload (pc := 165) C 5 4 dX14_join_165 rfl ?_
  refine q_gRN (pc := 167) C h (host := "LullabygateModel") (T := TX10) rfl (by decide) (by decide +kernel) 1430 (by decide +kernel) (fun _ h9 => h9) dX14_join_167 (fun x1 h => ?_)
  refine q_iload (pc := 170) C 6 5 dX14_join_170 rfl ?_
  refine q_iload_n (pc := 172) C 1 0 dX14_join_172 rfl rfl ?_
  refine q_cq (pc := 173) (q_rS C (st := [.int l6, va_rf x1]) (kJ6_valueOf_2dffe l G b0 hg h) (va_cwS 1 C.2.2.2.2.1 gX14_join_J6_valueOf_2dffe rfl rfl rfl (by decide +kernel) ⟨Nat.le_of_ble_eq_true rfl, Nat.le_of_ble_eq_true rfl⟩) rfl (by first | exact Nat.le_of_ble_eq_true rfl | (simp [q_cat, q_catI, q_catJ, q_catR, q_catN]; done)) rfl dX14_join_173 ⟨(by first | omega | (dsimp only; omega)), (by first | omega | (dsimp only; omega))⟩) (fun x2 M3 h => ?_)
  obtain ⟨b5, fs9, hb5, hm9, h⟩ := h
  refine q_cv (pc := 176) (q_rV C (st := []) (b := b5) (kJx4a65c_add_7a177 l G b0 hg (by decide) h) (cwV 2 C.2.2.2.2.1 gX14_join_Jx4a65c_add_7a177 rfl rfl rfl (by decide +kernel) ⟨Nat.le_of_ble_eq_true rfl, Nat.le_of_ble_eq_true rfl⟩) hm9 rfl rfl rfl (by first | exact Nat.le_of_ble_eq_true rfl | (simp [q_cat, q_catI, q_catJ, q_catR, q_catN]; done)) (by rw [hb5]; first | done | rfl) dX14_join_176 ⟨(by first | omega | (dsimp only; omega)), (by first | omega | (dsimp only; omega))⟩) (fun M4 h => ?_)
  refine q_aload (pc := 179) C 4 3 dX14_join_179 rfl ?_
  refine q_iconst (pc := 181) C 1 dX14_join_181 (by decide) ?_
  refine q_pN (pc := 182) C h .int (host := "LullabygateModel") (T := TX13) tyX13 tyX13_ok nmX13 rfl (by decide +kernel) rfl rfl rfl (by decide) (by decide +kernel) 1477 (by decide +kernel) (fun _ h9 => h9) rfl dX14_join_182 (fun M6 h => ?_)
  refine q_aload (pc := 185) C 4 3 dX14_join_185 rfl ?_
  refine q_iload_n (pc := 187) C 2 1 dX14_join_187 rfl rfl ?_
  refine q_pN (pc := 188) C h .int (host := "LullabygateModel") (T := TX13) tyX13 tyX13_ok nmX13 rfl (by decide +kernel) rfl rfl rfl (by decide) (by decide +kernel) 1479 (by decide +kernel) (fun _ h9 => h9) rfl dX14_join_188 (fun M7 h => ?_)
  refine q_aload (pc := 191) C 4 3 dX14_join_191 rfl ?_
  refine q_iload_n (pc := 193) C 3 2 dX14_join_193 rfl rfl ?_
  refine q_pN (pc := 194) C h .int (host := "LullabygateModel") (T := TX13) tyX13 tyX13_ok nmX13 rfl (by decide +kernel) rfl rfl rfl (by decide) (by decide +kernel) 1480 (by decide +kernel) (fun _ h9 => h9) rfl dX14_join_194 (fun M8 h => ?_)
  refine q_iload (pc := 197) C 6 5 dX14_join_197 rfl ?_
  exact q_iret (pc := 199) C hr hlocks h dX14_join_199 (by omega) (by omega)
set_option maxRecDepth 100000 in
set_option maxHeartbeats 4000000 in
theorem tX14_join_112 {p : Program} {l : Launch} {e : Env} {s : State} {m : MethodId} {args : Array Value} {below : List Frame} {meth : Method} {c : Code} {G : mG} {b0 : Nat} (C : m_C p s m args c cX14_join 7 RX14 wsX14_join G b0) (hr : meth.sig.returnType = (some .int)) (hlocks : meth.locks = false) {g : Nat → Nat} (hg : G.2.2 = g) {κ : Int32 → mM → Prop} : ∀ (f : Nat) (l0 : Option Nat) (l1 : Int32) (l2 : Int32) (l3 : Int32) (l4 : Option Nat) (l5 : Option Nat) (l6 : Int32) (M : mM), wX14_join_112 g κ f l0 l1 l2 l3 l4 l5 l6 M → m_W p l e ({ frames := 6, cells := 1, slots := 15, locals := 151 } : Room) s m args below meth c G b0 (MQ below (va_Qi κ (m_B G b0) (fun q => b0 ≤ q)) args s 1 15 (fun q => b0 ≤ q)) 7 M 0 0 112 [(0, va_rf l0), (1, .int l1), (2, .int l2), (3, .int l3), (4, va_rf l4), (5, va_rf l5), (6, .int l6)] [] := by
  intro f
  induction f with
  | zero =>
    intro l0 l1 l2 l3 l4 l5 l6 M h
    exact absurd h (by simp [wX14_join_112])
  | succ f ih =>
    intro l0 l1 l2 l3 l4 l5 l6 M h
    rw [wX14_join_112] at h
    refine q_aload (pc := 112) C 4 4 dX14_join_112 rfl ?_
    refine q_gIN (pc := 114) C h (host := "LullabygateModel") (T := TX13) rfl (by decide) (by decide +kernel) 1475 (by decide +kernel) (fun _ h9 => h9) dX14_join_114 (fun x1 h => ?_)
    refine q_if_eq (pc := 117) C 165 dX14_join_117 (by decide) (fun c2 => ?_) (fun c2 => ?_)
    · have h := h.1 c2
      refine q_widen (k2 := 0) (n2 := 0) (by omega) (by omega) ?_
      refine q_lv [1, 2, 3, 4, 5, 6] rfl ?_
      exact tX14_join_165 C hr hlocks hg h
    · have h := h.2 c2
      refine q_iload (pc := 120) C 6 6 dX14_join_120 rfl ?_
      refine q_if_le (pc := 122) C 165 dX14_join_122 (by decide) (fun c3 => ?_) (fun c3 => ?_)
      · have h := h.1 c3
        refine q_widen (k2 := 0) (n2 := 0) (by omega) (by omega) ?_
        refine q_lv [1, 2, 3, 4, 5, 6] rfl ?_
        exact tX14_join_165 C hr hlocks hg h
      · have h := h.2 c3
        refine q_aload_n (pc := 125) C 0 0 dX14_join_125 rfl rfl ?_
        refine q_gR (pc := 126) C h (T := TX14) rfl (by decide) (wk_u bm_X14_join wm_X14_join uq_X14 (by decide +kernel)) (by decide +kernel) (fun _ h9 => h9) dX14_join_126 (fun x4 h => ?_)
        refine q_aload (pc := 129) C 5 5 dX14_join_129 rfl ?_
        refine q_gRN (pc := 131) C h (host := "LullabygateModel") (T := TX10) rfl (by decide) (by decide +kernel) 1430 (by decide +kernel) (fun _ h9 => h9) dX14_join_131 (fun x5 h => ?_)
        refine q_iload (pc := 134) C 6 6 dX14_join_134 rfl ?_
        refine q_iconst (pc := 136) C 1 dX14_join_136 (by decide) ?_
        refine q_isub (pc := 137) C dX14_join_137 ?_
        obtain ⟨b8, fs9, hb8, hm9, h⟩ := h
        refine q_cq (pc := 138) (q_rV C (st := [va_rf x4]) (b := b8) (kJx4a65c_get_915e3 l G b0 h) (cwV 1 C.2.2.2.2.1 gX14_join_Jx4a65c_get_915e3 rfl rfl rfl (by decide +kernel) ⟨Nat.le_of_ble_eq_true rfl, Nat.le_of_ble_eq_true rfl⟩) hm9 rfl rfl rfl (by first | exact Nat.le_of_ble_eq_true rfl | (simp [q_cat, q_catI, q_catJ, q_catR, q_catN]; done)) (by rw [hb8]; first | done | rfl) dX14_join_138 ⟨(by first | omega | (dsimp only; omega)), (by first | omega | (dsimp only; omega))⟩) (fun x6 M7 h => ?_)
        refine q_cast (pc := 141) C h rfl rfl (by decide +kernel) dX14_join_141 (fun h => ?_)
        obtain ⟨b11, fs9, hb11, hm9, h⟩ := h
        refine q_ci (pc := 144) (q_rV C (st := [va_rf x4]) (b := b11) (kJ6_intValue_8abf5 l G b0 h) (cwV 0 C.2.2.2.2.1 gX14_join_J6_intValue_8abf5 rfl rfl rfl (by decide +kernel) ⟨Nat.le_of_ble_eq_true rfl, Nat.le_of_ble_eq_true rfl⟩) hm9 rfl rfl rfl (by first | exact Nat.le_of_ble_eq_true rfl | (simp [q_cat, q_catI, q_catJ, q_catR, q_catN]; done)) (by rw [hb11]; first | done | rfl) dX14_join_144 ⟨(by first | omega | (dsimp only; omega)), (by first | omega | (dsimp only; omega))⟩) (fun x9 M10 h => ?_)
        obtain ⟨b14, fs9, hb14, hm9, h⟩ := h
        refine q_cq (pc := 147) (q_rV C (st := []) (b := b14) (kJx4a65c_get_915e3 l G b0 h) (cwV 1 C.2.2.2.2.1 gX14_join_Jx4a65c_get_915e3 rfl rfl rfl (by decide +kernel) ⟨Nat.le_of_ble_eq_true rfl, Nat.le_of_ble_eq_true rfl⟩) hm9 rfl rfl rfl (by first | exact Nat.le_of_ble_eq_true rfl | (simp [q_cat, q_catI, q_catJ, q_catR, q_catN]; done)) (by rw [hb14]; first | done | rfl) dX14_join_147 ⟨(by first | omega | (dsimp only; omega)), (by first | omega | (dsimp only; omega))⟩) (fun x12 M13 h => ?_)
        refine q_cast (pc := 150) C h rfl rfl (by decide +kernel) dX14_join_150 (fun h => ?_)
        refine q_gIN (pc := 153) C h (host := "LullabygateModel") (T := TX13) rfl (by decide) (by decide +kernel) 1475 (by decide +kernel) (fun _ h9 => h9) dX14_join_153 (fun x15 h => ?_)
        refine q_if_ne (pc := 156) C 165 dX14_join_156 (by decide) (fun c16 => ?_) (fun c16 => ?_)
        · have h := h.2 c16
          refine q_widen (k2 := 0) (n2 := 0) (by omega) (by omega) ?_
          refine q_lv [1, 2, 3, 4, 5, 6] rfl ?_
          exact tX14_join_165 C hr hlocks hg h
        · have h := h.1 c16
          refine q_iinc (pc := 159) C 6 6 (l6 + (-1)) [(6, .int (l6 + (-1))), (0, va_rf l0), (1, .int l1), (2, .int l2), (3, .int l3), (4, va_rf l4), (5, va_rf l5)] dX14_join_159 rfl (by rfl) (by decide) (by first | rfl | simp [q_cat, q_catI, q_catJ, q_catR, q_catN]) ?_
          refine q_goto (pc := 162) C 112 dX14_join_162 (by decide) ?_
          refine q_widen (k2 := 0) (n2 := 0) (by omega) (by omega) ?_
          refine q_lv [1, 2, 3, 4, 5, 6, 0] rfl ?_
          exact ih _ _ _ _ _ _ _ _ h
set_option maxRecDepth 100000 in
set_option maxHeartbeats 4000000 in
theorem tX14_join {p : Program} {l : Launch} {e : Env} {s : State} {m : MethodId} {args : Array Value} {below : List Frame} {meth : Method} {c : Code} {G : mG} {b0 : Nat} (C : m_C p s m args c cX14_join 7 RX14 wsX14_join G b0) (hr : meth.sig.returnType = (some .int)) (hlocks : meth.locks = false) {g : Nat → Nat} (hg : G.2.2 = g) {κ : Int32 → mM → Prop} {l0 : Option Nat} {l1 : Int32} {l2 : Int32} {l3 : Int32} {M : mM} (h : wX14_join g κ l0 l1 l2 l3 M) : m_W p l e ({ frames := 6, cells := 1, slots := 15, locals := 151 } : Room) s m args below meth c G b0 (MQ below (va_Qi κ (m_B G b0) (fun q => b0 ≤ q)) args s 1 15 (fun q => b0 ≤ q)) 7 M 0 0 0 [(0, va_rf l0), (1, .int l1), (2, .int l2), (3, .int l3)] [] := by
  unfold wX14_join at h
  refine q_aload_n (pc := 0) C 0 0 dX14_join_0 rfl rfl ?_
  refine q_iconst (pc := 1) C 0 dX14_join_1 (by decide) ?_
  refine q_p (pc := 2) C h .int (T := TX14) tyX14 tyX14_ok nmX14 rfl (by decide +kernel) rfl rfl rfl (by decide) (wk_u bm_X14_join wm_X14_join uq_X14 (by decide +kernel)) (by decide +kernel) (fun _ h9 => h9) rfl dX14_join_2 (fun M1 h => ?_)
  refine q_aload_n (pc := 5) C 0 0 dX14_join_5 rfl rfl ?_
  refine q_iload_n (pc := 6) C 1 1 dX14_join_6 rfl rfl ?_
  obtain ⟨b4, fs9, hb4, hm9, h⟩ := h
  refine q_ci (pc := 7) (q_rV C (st := []) (b := b4) (kX14_isSleeper l G b0 h) (cwV 1 C.2.2.2.2.1 gX14_join_X14_isSleeper rfl rfl rfl (by decide +kernel) ⟨Nat.le_of_ble_eq_true rfl, Nat.le_of_ble_eq_true rfl⟩) hm9 rfl rfl rfl (by first | exact Nat.le_of_ble_eq_true rfl | (simp [q_cat, q_catI, q_catJ, q_catR, q_catN]; done)) (by rw [hb4]; first | done | rfl) dX14_join_7 ⟨(by first | omega | (dsimp only; omega)), (by first | omega | (dsimp only; omega))⟩) (fun x2 M3 h => ?_)
  refine q_if_eq (pc := 10) C 21 dX14_join_10 (by decide) (fun c5 => ?_) (fun c5 => ?_)
  · have h := h.1 c5
    refine q_widen (k2 := 0) (n2 := 0) (by omega) (by omega) ?_
    refine q_lv [0] rfl ?_
    exact tX14_join_21 C hr hlocks hg h
  · have h := h.2 c5
    refine q_aload_n (pc := 13) C 0 0 dX14_join_13 rfl rfl ?_
    refine q_iload_n (pc := 14) C 2 2 dX14_join_14 rfl rfl ?_
    obtain ⟨b8, fs9, hb8, hm9, h⟩ := h
    refine q_ci (pc := 15) (q_rV C (st := []) (b := b8) (kX14_isGate l G b0 h) (cwV 1 C.2.2.2.2.1 gX14_join_X14_isGate rfl rfl rfl (by decide +kernel) ⟨Nat.le_of_ble_eq_true rfl, Nat.le_of_ble_eq_true rfl⟩) hm9 rfl rfl rfl (by first | exact Nat.le_of_ble_eq_true rfl | (simp [q_cat, q_catI, q_catJ, q_catR, q_catN]; done)) (by rw [hb8]; first | done | rfl) dX14_join_15 ⟨(by first | omega | (dsimp only; omega)), (by first | omega | (dsimp only; omega))⟩) (fun x6 M7 h => ?_)
    refine q_if_ne (pc := 18) C 27 dX14_join_18 (by decide) (fun c9 => ?_) (fun c9 => ?_)
    · have h := h.2 c9
      refine q_iload_n (pc := 27) C 3 3 dX14_join_27 rfl rfl ?_
      refine q_if_lt (pc := 28) C 43 dX14_join_28 (by decide) (fun c10 => ?_) (fun c10 => ?_)
      · have h := h.1 c10
        refine q_widen (k2 := 0) (n2 := 0) (by omega) (by omega) ?_
        refine q_lv [0] rfl ?_
        exact tX14_join_43 C hr hlocks hg h
      · have h := h.2 c10
        refine q_iload_n (pc := 31) C 3 3 dX14_join_31 rfl rfl ?_
        refine q_aload_n (pc := 32) C 0 0 dX14_join_32 rfl rfl ?_
        refine q_iload_n (pc := 33) C 1 1 dX14_join_33 rfl rfl ?_
        obtain ⟨b13, fs9, hb13, hm9, h⟩ := h
        refine q_ci (pc := 34) (q_rV C (st := [.int l3]) (b := b13) (kX14_head l G b0 h) (cwV 1 C.2.2.2.2.1 gX14_join_X14_head rfl rfl rfl (by decide +kernel) ⟨Nat.le_of_ble_eq_true rfl, Nat.le_of_ble_eq_true rfl⟩) hm9 rfl rfl rfl (by first | exact Nat.le_of_ble_eq_true rfl | (simp [q_cat, q_catI, q_catJ, q_catR, q_catN]; done)) (by rw [hb13]; first | done | rfl) dX14_join_34 ⟨(by first | omega | (dsimp only; omega)), (by first | omega | (dsimp only; omega))⟩) (fun x11 M12 h => ?_)
        refine q_iconst (pc := 37) C (-1) dX14_join_37 (by decide) ?_
        refine q_ixor (pc := 38) C dX14_join_38 ?_
        refine q_iand (pc := 39) C dX14_join_39 ?_
        refine q_if_eq (pc := 40) C 49 dX14_join_40 (by decide) (fun c14 => ?_) (fun c14 => ?_)
        · have h := h.1 c14
          refine q_aload_n (pc := 49) C 0 0 dX14_join_49 rfl rfl ?_
          refine q_gR (pc := 50) C h (T := TX14) rfl (by decide) (wk_u bm_X14_join wm_X14_join uq_X14 (by decide +kernel)) (by decide +kernel) (fun _ h9 => h9) dX14_join_50 (fun x15 h => ?_)
          refine q_iload_n (pc := 53) C 1 1 dX14_join_53 rfl rfl ?_
          obtain ⟨b18, fs9, hb18, hm9, h⟩ := h
          refine q_cq (pc := 54) (q_rV C (st := []) (b := b18) (kJx4a65c_get_915e3 l G b0 h) (cwV 1 C.2.2.2.2.1 gX14_join_Jx4a65c_get_915e3 rfl rfl rfl (by decide +kernel) ⟨Nat.le_of_ble_eq_true rfl, Nat.le_of_ble_eq_true rfl⟩) hm9 rfl rfl rfl (by first | exact Nat.le_of_ble_eq_true rfl | (simp [q_cat, q_catI, q_catJ, q_catR, q_catN]; done)) (by rw [hb18]; first | done | rfl) dX14_join_54 ⟨(by first | omega | (dsimp only; omega)), (by first | omega | (dsimp only; omega))⟩) (fun x16 M17 h => ?_)
          refine q_cast (pc := 57) C h rfl rfl (by decide +kernel) dX14_join_57 (fun h => ?_)
          refine q_astore (pc := 60) C 4 [(4, va_rf x16), (0, va_rf l0), (1, .int l1), (2, .int l2), (3, .int l3)] dX14_join_60 (by decide) (by first | rfl | simp [q_cat, q_catI, q_catJ, q_catR, q_catN]) ?_
          refine q_aload_n (pc := 62) C 0 1 dX14_join_62 rfl rfl ?_
          refine q_gR (pc := 63) C h (T := TX14) rfl (by decide) (wk_u bm_X14_join wm_X14_join uq_X14 (by decide +kernel)) (by decide +kernel) (fun _ h9 => h9) dX14_join_63 (fun x19 h => ?_)
          refine q_iload_n (pc := 66) C 2 3 dX14_join_66 rfl rfl ?_
          obtain ⟨b22, fs9, hb22, hm9, h⟩ := h
          refine q_cq (pc := 67) (q_rV C (st := []) (b := b22) (kJx4a65c_get_915e3 l G b0 h) (cwV 1 C.2.2.2.2.1 gX14_join_Jx4a65c_get_915e3 rfl rfl rfl (by decide +kernel) ⟨Nat.le_of_ble_eq_true rfl, Nat.le_of_ble_eq_true rfl⟩) hm9 rfl rfl rfl (by first | exact Nat.le_of_ble_eq_true rfl | (simp [q_cat, q_catI, q_catJ, q_catR, q_catN]; done)) (by rw [hb22]; first | done | rfl) dX14_join_67 ⟨(by first | omega | (dsimp only; omega)), (by first | omega | (dsimp only; omega))⟩) (fun x20 M21 h => ?_)
          refine q_cast (pc := 70) C h rfl rfl (by decide +kernel) dX14_join_70 (fun h => ?_)
          refine q_astore (pc := 73) C 5 [(5, va_rf x20), (4, va_rf x16), (0, va_rf l0), (1, .int l1), (2, .int l2), (3, .int l3)] dX14_join_73 (by decide) (by first | rfl | simp [q_cat, q_catI, q_catJ, q_catR, q_catN]) ?_
          refine q_aload (pc := 75) C 4 1 dX14_join_75 rfl ?_
          refine q_gIN (pc := 77) C h (host := "LullabygateModel") (T := TX13) rfl (by decide) (by decide +kernel) 1477 (by decide +kernel) (fun _ h9 => h9) dX14_join_77 (fun x23 h => ?_)
          refine q_if_ne (pc := 80) C 96 dX14_join_80 (by decide) (fun c24 => ?_) (fun c24 => ?_)
          · have h := h.2 c24
            refine q_widen (k2 := 0) (n2 := 0) (by omega) (by omega) ?_
            refine q_lv [2] rfl ?_
            exact tX14_join_96 C hr hlocks hg h
          · have h := h.1 c24
            refine q_aload (pc := 83) C 5 0 dX14_join_83 rfl ?_
            refine q_aload (pc := 85) C 4 1 dX14_join_85 rfl ?_
            refine q_gIN (pc := 87) C h (host := "LullabygateModel") (T := TX13) rfl (by decide) (by decide +kernel) 1474 (by decide +kernel) (fun _ h9 => h9) dX14_join_87 (fun x25 h => ?_)
            obtain ⟨b28, fs9, hb28, hm9, h⟩ := h
            refine q_ci (pc := 90) (q_rV C (st := []) (b := b28) (kX10_has l G b0 h) (cwV 1 C.2.2.2.2.1 gX14_join_X10_has rfl rfl rfl (by decide +kernel) ⟨Nat.le_of_ble_eq_true rfl, Nat.le_of_ble_eq_true rfl⟩) hm9 rfl rfl rfl (by first | exact Nat.le_of_ble_eq_true rfl | (simp [q_cat, q_catI, q_catJ, q_catR, q_catN]; done)) (by rw [hb28]; first | done | rfl) dX14_join_90 ⟨(by first | omega | (dsimp only; omega)), (by first | omega | (dsimp only; omega))⟩) (fun x26 M27 h => ?_)
            refine q_if_ne (pc := 93) C 102 dX14_join_93 (by decide) (fun c29 => ?_) (fun c29 => ?_)
            · have h := h.2 c29
              refine q_aload (pc := 102) C 5 0 dX14_join_102 rfl ?_
              refine q_gRN (pc := 104) C h (host := "LullabygateModel") (T := TX10) rfl (by decide) (by decide +kernel) 1430 (by decide +kernel) (fun _ h9 => h9) dX14_join_104 (fun x30 h => ?_)
              obtain ⟨b33, fs9, hb33, hm9, h⟩ := h
              refine q_ci (pc := 107) (q_rV C (st := []) (b := b33) (kJx4a65c_size_8abf5 l G b0 h) (cwV 0 C.2.2.2.2.1 gX14_join_Jx4a65c_size_8abf5 rfl rfl rfl (by decide +kernel) ⟨Nat.le_of_ble_eq_true rfl, Nat.le_of_ble_eq_true rfl⟩) hm9 rfl rfl rfl (by first | exact Nat.le_of_ble_eq_true rfl | (simp [q_cat, q_catI, q_catJ, q_catR, q_catN]; done)) (by rw [hb33]; first | done | rfl) dX14_join_107 ⟨(by first | omega | (dsimp only; omega)), (by first | omega | (dsimp only; omega))⟩) (fun x31 M32 h => ?_)
              refine q_istore (pc := 110) C 6 [(6, .int x31), (5, va_rf x20), (4, va_rf x16), (0, va_rf l0), (1, .int l1), (2, .int l2), (3, .int l3)] dX14_join_110 (by decide) (by first | rfl | simp [q_cat, q_catI, q_catJ, q_catR, q_catN]) ?_
              refine q_widen (k2 := 0) (n2 := 0) (by omega) (by omega) ?_
              refine q_lv [3, 4, 5, 6, 2, 1, 0] rfl ?_
              obtain ⟨f9, h⟩ := h
              exact tX14_join_112 C hr hlocks hg f9 _ _ _ _ _ _ _ _ h
            · have h := h.1 c29
              refine q_widen (k2 := 0) (n2 := 0) (by omega) (by omega) ?_
              refine q_lv [2] rfl ?_
              exact tX14_join_96 C hr hlocks hg h
        · have h := h.2 c14
          refine q_widen (k2 := 0) (n2 := 0) (by omega) (by omega) ?_
          refine q_lv [0] rfl ?_
          exact tX14_join_43 C hr hlocks hg h
    · have h := h.1 c9
      refine q_widen (k2 := 0) (n2 := 0) (by omega) (by omega) ?_
      refine q_lv [0] rfl ?_
      exact tX14_join_21 C hr hlocks hg h
set_option maxRecDepth 100000 in
set_option maxHeartbeats 4000000 in
theorem kX14_join (l : Launch) (G : mG) (b0 : Nat) {g : Nat → Nat} (hg : G.2.2 = g) {b : Nat} {l1 : Int32} {l2 : Int32} {l3 : Int32} {M : mM} {κ : Int32 → mM → Prop} (h : wX14_join g κ (some b) l1 l2 l3 M) : Met l yX14_join wsX14_join ({ frames := 6, cells := 1, slots := 15, locals := 151 } : Room) (va_Pc [.ref b, .int l1, .int l2, .int l3] (m_Pre G b0 M)) (va_Qi κ (m_B G b0) (fun q => b0 ≤ q)) 1 15 (fun q => b0 ≤ q) := by
  refine m_met (cc := cX14_join) (maxL := 7) (ret := (some .int)) (lv := [(0, va_rf (some b)), (1, .int l1), (2, .int l2), (3, .int l3)]) RX14 rfl (by decide +kernel) rfl (by first | exact Nat.le_of_ble_eq_true rfl | simp [lg_sl, q_cat, q_catI, q_catJ, q_catR, q_catN]) (by first | rfl | (simp [lv_args, q_cat, q_catI, q_catJ, q_catR, q_catN]; done) | (simp [lv_args, q_cat, q_catI, q_catJ, q_catR, q_catN]; rfl)) ?_
  intro p e s m args below meth c C hr hlocks hni
  exact tX14_join C hr hlocks hg h
/-! X14_stepOut -/
set_option maxRecDepth 100000 in
set_option maxHeartbeats 4000000 in
theorem tX14_stepOut_110 {p : Program} {l : Launch} {e : Env} {s : State} {m : MethodId} {args : Array Value} {below : List Frame} {meth : Method} {c : Code} {G : mG} {b0 : Nat} (C : m_C p s m args c cX14_stepOut 6 RX14 wsX14_stepOut G b0) (hr : meth.sig.returnType = none) (hlocks : meth.locks = false) {κ : mM → Prop} {R56 : Option Nat → Int32 → Int32 → Int32 → mM → Prop} (hR56 : ∀ (l0 : Option Nat) (l1 : Int32) (l2 : Int32) (l5 : Int32) (M : mM), R56 l0 l1 l2 l5 M → m_W p l e ({ frames := 4, cells := 0, slots := 0, locals := 86 } : Room) s m args below meth c G b0 (MQ below (va_Qv κ (m_B G b0) (fun q => b0 ≤ q)) args s 0 0 (fun q => b0 ≤ q)) 6 M 0 0 56 [(0, va_rf l0), (1, .int l1), (2, .int l2), (5, .int l5)] []) {l0 : Option Nat} {l1 : Int32} {l2 : Int32} {l5 : Int32} {M : mM} (h : wX14_stepOut_110 κ R56 l0 l1 l2 l5 M) : m_W p l e ({ frames := 4, cells := 0, slots := 0, locals := 86 } : Room) s m args below meth c G b0 (MQ below (va_Qv κ (m_B G b0) (fun q => b0 ≤ q)) args s 0 0 (fun q => b0 ≤ q)) 6 M 0 0 110 [(0, va_rf l0), (1, .int l1), (2, .int l2), (5, .int l5)] [] := by
  unfold wX14_stepOut_110 at h
  refine q_iinc (pc := 110) C 5 3 (l5 + 1) [(5, .int (l5 + 1)), (0, va_rf l0), (1, .int l1), (2, .int l2)] dX14_stepOut_110 rfl (by rfl) (by decide) (by first | rfl | simp [q_cat, q_catI, q_catJ, q_catR, q_catN]) ?_
  refine q_goto (pc := 113) C 56 dX14_stepOut_113 (by decide) ?_
  refine q_widen (k2 := 0) (n2 := 0) (by omega) (by omega) ?_
  refine q_lv [1, 2, 3, 0] rfl ?_
  exact hR56 _ _ _ _ _ h
set_option maxRecDepth 100000 in
set_option maxHeartbeats 4000000 in
theorem tX14_stepOut_56 {p : Program} {l : Launch} {e : Env} {s : State} {m : MethodId} {args : Array Value} {below : List Frame} {meth : Method} {c : Code} {G : mG} {b0 : Nat} (C : m_C p s m args c cX14_stepOut 6 RX14 wsX14_stepOut G b0) (hr : meth.sig.returnType = none) (hlocks : meth.locks = false) {κ : mM → Prop} : ∀ (f : Nat) (l0 : Option Nat) (l1 : Int32) (l2 : Int32) (l5 : Int32) (M : mM), wX14_stepOut_56 κ f l0 l1 l2 l5 M → m_W p l e ({ frames := 4, cells := 0, slots := 0, locals := 86 } : Room) s m args below meth c G b0 (MQ below (va_Qv κ (m_B G b0) (fun q => b0 ≤ q)) args s 0 0 (fun q => b0 ≤ q)) 6 M 0 0 56 [(0, va_rf l0), (1, .int l1), (2, .int l2), (5, .int l5)] [] := by
  intro f
  induction f with
  | zero =>
    intro l0 l1 l2 l5 M h
    exact absurd h (by simp [wX14_stepOut_56])
  | succ f ih =>
    intro l0 l1 l2 l5 M h
    rw [wX14_stepOut_56] at h
    refine q_iload (pc := 56) C 5 3 dX14_stepOut_56 rfl ?_
    refine q_aload_n (pc := 58) C 0 0 dX14_stepOut_58 rfl rfl ?_
    refine q_gR (pc := 59) C h (T := TX14) rfl (by decide) (wk_u rfl wm_X14_stepOut uq_X14 (by decide +kernel)) (by decide +kernel) (fun _ h9 => h9) dX14_stepOut_59 (fun x1 h => ?_)
    obtain ⟨b4, fs9, hb4, hm9, h⟩ := h
    refine q_ci (pc := 62) (q_rV C (st := [.int l5]) (b := b4) (kJx4a65c_size_8abf5 l G b0 h) (cwV 0 C.2.2.2.2.1 gX14_stepOut_Jx4a65c_size_8abf5 rfl rfl rfl (by decide +kernel) ⟨Nat.le_of_ble_eq_true rfl, Nat.le_of_ble_eq_true rfl⟩) hm9 rfl rfl rfl (by first | exact Nat.le_of_ble_eq_true rfl | (simp [q_cat, q_catI, q_catJ, q_catR, q_catN]; done)) (by rw [hb4]; first | done | rfl) dX14_stepOut_62 ⟨(by first | omega | (dsimp only; omega)), (by first | omega | (dsimp only; omega))⟩) (fun x2 M3 h => ?_)
    refine q_icmp_ge (pc := 65) C 116 dX14_stepOut_65 (by decide) (fun c5 => ?_) (fun c5 => ?_)
    · have h := h.1 c5
      exact q_vret (pc := 116) C hr hlocks h dX14_stepOut_116 (by omega) (by omega)
    · have h := h.2 c5
      refine q_iload_n (pc := 68) C 2 2 dX14_stepOut_68 rfl rfl ?_
      refine q_iconst (pc := 69) C 2 dX14_stepOut_69 (by decide) ?_
      refine q_icmp_ne (pc := 70) C 116 dX14_stepOut_70 (by decide) (fun c6 => ?_) (fun c6 => ?_)
      · have h := h.2 c6
        exact q_vret (pc := 116) C hr hlocks h dX14_stepOut_116 (by omega) (by omega)
      · have h := h.1 c6
        refine q_aload_n (pc := 73) C 0 0 dX14_stepOut_73 rfl rfl ?_
        refine q_gR (pc := 74) C h (T := TX14) rfl (by decide) (wk_u rfl wm_X14_stepOut uq_X14 (by decide +kernel)) (by decide +kernel) (fun _ h9 => h9) dX14_stepOut_74 (fun x7 h => ?_)
        refine q_iload (pc := 77) C 5 3 dX14_stepOut_77 rfl ?_
        obtain ⟨b10, fs9, hb10, hm9, h⟩ := h
        refine q_cq (pc := 79) (q_rV C (st := []) (b := b10) (kJx4a65c_get_915e3 l G b0 h) (cwV 1 C.2.2.2.2.1 gX14_stepOut_Jx4a65c_get_915e3 rfl rfl rfl (by decide +kernel) ⟨Nat.le_of_ble_eq_true rfl, Nat.le_of_ble_eq_true rfl⟩) hm9 rfl rfl rfl (by first | exact Nat.le_of_ble_eq_true rfl | (simp [q_cat, q_catI, q_catJ, q_catR, q_catN]; done)) (by rw [hb10]; first | done | rfl) dX14_stepOut_79 ⟨(by first | omega | (dsimp only; omega)), (by first | omega | (dsimp only; omega))⟩) (fun x8 M9 h => ?_)
        refine q_cast (pc := 82) C h rfl rfl (by decide +kernel) dX14_stepOut_82 (fun h => ?_)
        refine q_gIN (pc := 85) C h (host := "LullabygateModel") (T := TX12) rfl (by decide) (by decide +kernel) 1524 (by decide +kernel) (fun _ h9 => h9) dX14_stepOut_85 (fun x11 h => ?_)
        refine q_iload_n (pc := 88) C 1 1 dX14_stepOut_88 rfl rfl ?_
        refine q_icmp_ne (pc := 89) C 110 dX14_stepOut_89 (by decide) (fun c12 => ?_) (fun c12 => ?_)
        · have h := h.2 c12
          refine q_widen (k2 := 0) (n2 := 0) (by omega) (by omega) ?_
          refine q_lv [0, 1, 2, 3] rfl ?_
          exact tX14_stepOut_110 C hr hlocks ih h
        · have h := h.1 c12
          refine q_aload_n (pc := 92) C 0 0 dX14_stepOut_92 rfl rfl ?_
          refine q_gR (pc := 93) C h (T := TX14) rfl (by decide) (wk_u rfl wm_X14_stepOut uq_X14 (by decide +kernel)) (by decide +kernel) (fun _ h9 => h9) dX14_stepOut_93 (fun x13 h => ?_)
          refine q_iload (pc := 96) C 5 3 dX14_stepOut_96 rfl ?_
          obtain ⟨b16, fs9, hb16, hm9, h⟩ := h
          refine q_cq (pc := 98) (q_rV C (st := []) (b := b16) (kJx4a65c_get_915e3 l G b0 h) (cwV 1 C.2.2.2.2.1 gX14_stepOut_Jx4a65c_get_915e3 rfl rfl rfl (by decide +kernel) ⟨Nat.le_of_ble_eq_true rfl, Nat.le_of_ble_eq_true rfl⟩) hm9 rfl rfl rfl (by first | exact Nat.le_of_ble_eq_true rfl | (simp [q_cat, q_catI, q_catJ, q_catR, q_catN]; done)) (by rw [hb16]; first | done | rfl) dX14_stepOut_98 ⟨(by first | omega | (dsimp only; omega)), (by first | omega | (dsimp only; omega))⟩) (fun x14 M15 h => ?_)
          refine q_cast (pc := 101) C h rfl rfl (by decide +kernel) dX14_stepOut_101 (fun h => ?_)
          refine q_sipush (pc := 104) C 999 dX14_stepOut_104 (by decide) ?_
          refine q_pN (pc := 107) C h .int (host := "LullabygateModel") (T := TX12) tyX12 tyX12_ok nmX12 rfl (by decide +kernel) rfl rfl rfl (by decide) (by decide +kernel) 1524 (by decide +kernel) (fun _ h9 => h9) rfl dX14_stepOut_107 (fun M17 h => ?_)
          refine q_widen (k2 := 0) (n2 := 0) (by omega) (by omega) ?_
          refine q_lv [0, 1, 2, 3] rfl ?_
          exact tX14_stepOut_110 C hr hlocks ih h
set_option maxRecDepth 100000 in
set_option maxHeartbeats 4000000 in
theorem tX14_stepOut {p : Program} {l : Launch} {e : Env} {s : State} {m : MethodId} {args : Array Value} {below : List Frame} {meth : Method} {c : Code} {G : mG} {b0 : Nat} (C : m_C p s m args c cX14_stepOut 6 RX14 wsX14_stepOut G b0) (hr : meth.sig.returnType = none) (hlocks : meth.locks = false) {κ : mM → Prop} {l0 : Option Nat} {l1 : Int32} {l2 : Int32} {M : mM} (h : wX14_stepOut κ l0 l1 l2 M) : m_W p l e ({ frames := 4, cells := 0, slots := 0, locals := 86 } : Room) s m args below meth c G b0 (MQ below (va_Qv κ (m_B G b0) (fun q => b0 ≤ q)) args s 0 0 (fun q => b0 ≤ q)) 6 M 0 0 0 [(0, va_rf l0), (1, .int l1), (2, .int l2)] [] := by
  unfold wX14_stepOut at h
  refine q_aload_n (pc := 0) C 0 0 dX14_stepOut_0 rfl rfl ?_
  refine q_gR (pc := 1) C h (T := TX14) rfl (by decide) (wk_u rfl wm_X14_stepOut uq_X14 (by decide +kernel)) (by decide +kernel) (fun _ h9 => h9) dX14_stepOut_1 (fun x1 h => ?_)
  refine q_iload_n (pc := 4) C 1 1 dX14_stepOut_4 rfl rfl ?_
  obtain ⟨b4, fs9, hb4, hm9, h⟩ := h
  refine q_cq (pc := 5) (q_rV C (st := []) (b := b4) (kJx4a65c_get_915e3 l G b0 h) (cwV 1 C.2.2.2.2.1 gX14_stepOut_Jx4a65c_get_915e3 rfl rfl rfl (by decide +kernel) ⟨Nat.le_of_ble_eq_true rfl, Nat.le_of_ble_eq_true rfl⟩) hm9 rfl rfl rfl (by first | exact Nat.le_of_ble_eq_true rfl | (simp [q_cat, q_catI, q_catJ, q_catR, q_catN]; done)) (by rw [hb4]; first | done | rfl) dX14_stepOut_5 ⟨(by first | omega | (dsimp only; omega)), (by first | omega | (dsimp only; omega))⟩) (fun x2 M3 h => ?_)
  refine q_cast (pc := 8) C h rfl rfl (by decide +kernel) dX14_stepOut_8 (fun h => ?_)
  refine q_astore_n (pc := 11) C 3 [(3, va_rf x2), (0, va_rf l0), (1, .int l1), (2, .int l2)] dX14_stepOut_11 rfl (by decide) (by first | rfl | simp [q_cat, q_catI, q_catJ, q_catR, q_catN]) ?_
  refine q_aload_n (pc := 12) C 0 1 dX14_stepOut_12 rfl rfl ?_
  refine q_gR (pc := 13) C h (T := TX14) rfl (by decide) (wk_u rfl wm_X14_stepOut uq_X14 (by decide +kernel)) (by decide +kernel) (fun _ h9 => h9) dX14_stepOut_13 (fun x5 h => ?_)
  refine q_aload_n (pc := 16) C 3 0 dX14_stepOut_16 rfl rfl ?_
  refine q_gIN (pc := 17) C h (host := "LullabygateModel") (T := TX13) rfl (by decide) (by decide +kernel) 1479 (by decide +kernel) (fun _ h9 => h9) dX14_stepOut_17 (fun x6 h => ?_)
  obtain ⟨b9, fs9, hb9, hm9, h⟩ := h
  refine q_cq (pc := 20) (q_rV C (st := []) (b := b9) (kJx4a65c_get_915e3 l G b0 h) (cwV 1 C.2.2.2.2.1 gX14_stepOut_Jx4a65c_get_915e3 rfl rfl rfl (by decide +kernel) ⟨Nat.le_of_ble_eq_true rfl, Nat.le_of_ble_eq_true rfl⟩) hm9 rfl rfl rfl (by first | exact Nat.le_of_ble_eq_true rfl | (simp [q_cat, q_catI, q_catJ, q_catR, q_catN]; done)) (by rw [hb9]; first | done | rfl) dX14_stepOut_20 ⟨(by first | omega | (dsimp only; omega)), (by first | omega | (dsimp only; omega))⟩) (fun x7 M8 h => ?_)
  refine q_cast (pc := 23) C h rfl rfl (by decide +kernel) dX14_stepOut_23 (fun h => ?_)
  refine q_astore (pc := 26) C 4 [(4, va_rf x7), (3, va_rf x2), (0, va_rf l0), (1, .int l1), (2, .int l2)] dX14_stepOut_26 (by decide) (by first | rfl | simp [q_cat, q_catI, q_catJ, q_catR, q_catN]) ?_
  refine q_aload (pc := 28) C 4 0 dX14_stepOut_28 rfl ?_
  refine q_gRN (pc := 30) C h (host := "LullabygateModel") (T := TX10) rfl (by decide) (by decide +kernel) 1430 (by decide +kernel) (fun _ h9 => h9) dX14_stepOut_30 (fun x10 h => ?_)
  refine q_aload (pc := 33) C 4 0 dX14_stepOut_33 rfl ?_
  refine q_iload_n (pc := 35) C 1 3 dX14_stepOut_35 rfl rfl ?_
  obtain ⟨b13, fs9, hb13, hm9, h⟩ := h
  refine q_ci (pc := 36) (q_rV C (st := [va_rf x10]) (b := b13) (kX10_place l G b0 h) (cwV 1 C.2.2.2.2.1 gX14_stepOut_X10_place rfl rfl rfl (by decide +kernel) ⟨Nat.le_of_ble_eq_true rfl, Nat.le_of_ble_eq_true rfl⟩) hm9 rfl rfl rfl (by first | exact Nat.le_of_ble_eq_true rfl | (simp [q_cat, q_catI, q_catJ, q_catR, q_catN]; done)) (by rw [hb13]; first | done | rfl) dX14_stepOut_36 ⟨(by first | omega | (dsimp only; omega)), (by first | omega | (dsimp only; omega))⟩) (fun x11 M12 h => ?_)
  obtain ⟨b16, fs9, hb16, hm9, h⟩ := h
  refine q_cq (pc := 39) (q_rV C (st := []) (b := b16) (kJx4a65c_remove_915e3 l G b0 h) (cwV 1 C.2.2.2.2.1 gX14_stepOut_Jx4a65c_remove_915e3 rfl rfl rfl (by decide +kernel) ⟨Nat.le_of_ble_eq_true rfl, Nat.le_of_ble_eq_true rfl⟩) hm9 rfl rfl rfl (by first | exact Nat.le_of_ble_eq_true rfl | (simp [q_cat, q_catI, q_catJ, q_catR, q_catN]; done)) (by rw [hb16]; first | done | rfl) dX14_stepOut_39 ⟨(by first | omega | (dsimp only; omega)), (by first | omega | (dsimp only; omega))⟩) (fun x14 M15 h => ?_)
  refine q_pop (pc := 42) C dX14_stepOut_42 (q_cat _) ?_
  refine q_aload_n (pc := 43) C 3 1 dX14_stepOut_43 rfl rfl ?_
  refine q_iload_n (pc := 44) C 2 4 dX14_stepOut_44 rfl rfl ?_
  refine q_pN (pc := 45) C h .int (host := "LullabygateModel") (T := TX13) tyX13 tyX13_ok nmX13 rfl (by decide +kernel) rfl rfl rfl (by decide) (by decide +kernel) 1477 (by decide +kernel) (fun _ h9 => h9) rfl dX14_stepOut_45 (fun M17 h => ?_)
  refine q_aload_n (pc := 48) C 3 1 dX14_stepOut_48 rfl rfl ?_
  refine q_iconst (pc := 49) C (-1) dX14_stepOut_49 (by decide) ?_
  refine q_pN (pc := 50) C h .int (host := "LullabygateModel") (T := TX13) tyX13 tyX13_ok nmX13 rfl (by decide +kernel) rfl rfl rfl (by decide) (by decide +kernel) 1479 (by decide +kernel) (fun _ h9 => h9) rfl dX14_stepOut_50 (fun M18 h => ?_)
  refine q_iconst (pc := 53) C 0 dX14_stepOut_53 (by decide) ?_
  refine q_istore (pc := 54) C 5 [(5, .int 0), (4, va_rf x7), (3, va_rf x2), (0, va_rf l0), (1, .int l1), (2, .int l2)] dX14_stepOut_54 (by decide) (by first | rfl | simp [q_cat, q_catI, q_catJ, q_catR, q_catN]) ?_
  refine q_widen (k2 := 0) (n2 := 0) (by omega) (by omega) ?_
  refine q_lv [3, 4, 5, 0] rfl ?_
  obtain ⟨f9, h⟩ := h
  exact tX14_stepOut_56 C hr hlocks f9 _ _ _ _ _ h
set_option maxRecDepth 100000 in
set_option maxHeartbeats 4000000 in
theorem kX14_stepOut (l : Launch) (G : mG) (b0 : Nat) {b : Nat} {l1 : Int32} {l2 : Int32} {M : mM} {κ : mM → Prop} (h : wX14_stepOut κ (some b) l1 l2 M) : Met l yX14_stepOut wsX14_stepOut ({ frames := 4, cells := 0, slots := 0, locals := 86 } : Room) (va_Pc [.ref b, .int l1, .int l2] (m_Pre G b0 M)) (va_Qv κ (m_B G b0) (fun q => b0 ≤ q)) 0 0 (fun q => b0 ≤ q) := by
  refine m_met (cc := cX14_stepOut) (maxL := 6) (ret := none) (lv := [(0, va_rf (some b)), (1, .int l1), (2, .int l2)]) RX14 rfl (by decide +kernel) rfl (by first | exact Nat.le_of_ble_eq_true rfl | simp [lg_sl, q_cat, q_catI, q_catJ, q_catR, q_catN]) (by first | rfl | (simp [lv_args, q_cat, q_catI, q_catJ, q_catR, q_catN]; done) | (simp [lv_args, q_cat, q_catI, q_catJ, q_catR, q_catN]; rfl)) ?_
  intro p e s m args below meth c C hr hlocks hni
  exact tX14_stepOut C hr hlocks h
/-! X14_leave -/
set_option maxRecDepth 100000 in
set_option maxHeartbeats 4000000 in
theorem tX14_leave {p : Program} {l : Launch} {e : Env} {s : State} {m : MethodId} {args : Array Value} {below : List Frame} {meth : Method} {c : Code} {G : mG} {b0 : Nat} (C : m_C p s m args c cX14_leave 4 RX14 wsX14_leave G b0) (hr : meth.sig.returnType = (some .int)) (hlocks : meth.locks = false) {κ : Int32 → mM → Prop} {l0 : Option Nat} {l1 : Int32} {M : mM} (h : wX14_leave κ l0 l1 M) : m_W p l e ({ frames := 5, cells := 0, slots := 0, locals := 111 } : Room) s m args below meth c G b0 (MQ below (va_Qi κ (m_B G b0) (fun q => b0 ≤ q)) args s 0 0 (fun q => b0 ≤ q)) 4 M 0 0 0 [(0, va_rf l0), (1, .int l1)] [] := by
  unfold wX14_leave at h
  refine q_aload_n (pc := 0) C 0 0 dX14_leave_0 rfl rfl ?_
  refine q_iconst (pc := 1) C 0 dX14_leave_1 (by decide) ?_
  refine q_p (pc := 2) C h .int (T := TX14) tyX14 tyX14_ok nmX14 rfl (by decide +kernel) rfl rfl rfl (by decide) (wk_u rfl wm_X14_leave uq_X14 (by decide +kernel)) (by decide +kernel) (fun _ h9 => h9) rfl dX14_leave_2 (fun M1 h => ?_)
  refine q_aload_n (pc := 5) C 0 0 dX14_leave_5 rfl rfl ?_
  refine q_iload_n (pc := 6) C 1 1 dX14_leave_6 rfl rfl ?_
  obtain ⟨b4, fs9, hb4, hm9, h⟩ := h
  refine q_ci (pc := 7) (q_rV C (st := []) (b := b4) (kX14_isSleeper l G b0 h) (cwV 1 C.2.2.2.2.1 gX14_leave_X14_isSleeper rfl rfl rfl (by decide +kernel) ⟨Nat.le_of_ble_eq_true rfl, Nat.le_of_ble_eq_true rfl⟩) hm9 rfl rfl rfl (by first | exact Nat.le_of_ble_eq_true rfl | (simp [q_cat, q_catI, q_catJ, q_catR, q_catN]; done)) (by rw [hb4]; first | done | rfl) dX14_leave_7 ⟨(by first | omega | (dsimp only; omega)), (by first | omega | (dsimp only; omega))⟩) (fun x2 M3 h => ?_)
  refine q_if_ne (pc := 10) C 19 dX14_leave_10 (by decide) (fun c5 => ?_) (fun c5 => ?_)
  · have h := h.2 c5
    refine q_aload_n (pc := 19) C 0 0 dX14_leave_19 rfl rfl ?_
    refine q_gR (pc := 20) C h (T := TX14) rfl (by decide) (wk_u rfl wm_X14_leave uq_X14 (by decide +kernel)) (by decide +kernel) (fun _ h9 => h9) dX14_leave_20 (fun x6 h => ?_)
    refine q_iload_n (pc := 23) C 1 1 dX14_leave_23 rfl rfl ?_
    obtain ⟨b9, fs9, hb9, hm9, h⟩ := h
    refine q_cq (pc := 24) (q_rV C (st := []) (b := b9) (kJx4a65c_get_915e3 l G b0 h) (cwV 1 C.2.2.2.2.1 gX14_leave_Jx4a65c_get_915e3 rfl rfl rfl (by decide +kernel) ⟨Nat.le_of_ble_eq_true rfl, Nat.le_of_ble_eq_true rfl⟩) hm9 rfl rfl rfl (by first | exact Nat.le_of_ble_eq_true rfl | (simp [q_cat, q_catI, q_catJ, q_catR, q_catN]; done)) (by rw [hb9]; first | done | rfl) dX14_leave_24 ⟨(by first | omega | (dsimp only; omega)), (by first | omega | (dsimp only; omega))⟩) (fun x7 M8 h => ?_)
    refine q_cast (pc := 27) C h rfl rfl (by decide +kernel) dX14_leave_27 (fun h => ?_)
    refine q_astore_n (pc := 30) C 2 [(2, va_rf x7), (0, va_rf l0), (1, .int l1)] dX14_leave_30 rfl (by decide) (by first | rfl | simp [q_cat, q_catI, q_catJ, q_catR, q_catN]) ?_
    refine q_aload_n (pc := 31) C 2 0 dX14_leave_31 rfl rfl ?_
    refine q_gIN (pc := 32) C h (host := "LullabygateModel") (T := TX13) rfl (by decide) (by decide +kernel) 1477 (by decide +kernel) (fun _ h9 => h9) dX14_leave_32 (fun x10 h => ?_)
    refine q_iconst (pc := 35) C 1 dX14_leave_35 (by decide) ?_
    refine q_icmp_eq (pc := 36) C 45 dX14_leave_36 (by decide) (fun c11 => ?_) (fun c11 => ?_)
    · have h := h.1 c11
      refine q_aload_n (pc := 45) C 0 1 dX14_leave_45 rfl rfl ?_
      refine q_gR (pc := 46) C h (T := TX14) rfl (by decide) (wk_u rfl wm_X14_leave uq_X14 (by decide +kernel)) (by decide +kernel) (fun _ h9 => h9) dX14_leave_46 (fun x12 h => ?_)
      refine q_aload_n (pc := 49) C 2 0 dX14_leave_49 rfl rfl ?_
      refine q_gIN (pc := 50) C h (host := "LullabygateModel") (T := TX13) rfl (by decide) (by decide +kernel) 1479 (by decide +kernel) (fun _ h9 => h9) dX14_leave_50 (fun x13 h => ?_)
      obtain ⟨b16, fs9, hb16, hm9, h⟩ := h
      refine q_cq (pc := 53) (q_rV C (st := []) (b := b16) (kJx4a65c_get_915e3 l G b0 h) (cwV 1 C.2.2.2.2.1 gX14_leave_Jx4a65c_get_915e3 rfl rfl rfl (by decide +kernel) ⟨Nat.le_of_ble_eq_true rfl, Nat.le_of_ble_eq_true rfl⟩) hm9 rfl rfl rfl (by first | exact Nat.le_of_ble_eq_true rfl | (simp [q_cat, q_catI, q_catJ, q_catR, q_catN]; done)) (by rw [hb16]; first | done | rfl) dX14_leave_53 ⟨(by first | omega | (dsimp only; omega)), (by first | omega | (dsimp only; omega))⟩) (fun x14 M15 h => ?_)
      refine q_cast (pc := 56) C h rfl rfl (by decide +kernel) dX14_leave_56 (fun h => ?_)
      refine q_iload_n (pc := 59) C 1 2 dX14_leave_59 rfl rfl ?_
      obtain ⟨b19, fs9, hb19, hm9, h⟩ := h
      refine q_ci (pc := 60) (q_rV C (st := []) (b := b19) (kX10_place l G b0 h) (cwV 1 C.2.2.2.2.1 gX14_leave_X10_place rfl rfl rfl (by decide +kernel) ⟨Nat.le_of_ble_eq_true rfl, Nat.le_of_ble_eq_true rfl⟩) hm9 rfl rfl rfl (by first | exact Nat.le_of_ble_eq_true rfl | (simp [q_cat, q_catI, q_catJ, q_catR, q_catN]; done)) (by rw [hb19]; first | done | rfl) dX14_leave_60 ⟨(by first | omega | (dsimp only; omega)), (by first | omega | (dsimp only; omega))⟩) (fun x17 M18 h => ?_)
      refine q_istore_n (pc := 63) C 3 [(3, .int x17), (2, va_rf x7), (0, va_rf l0), (1, .int l1)] dX14_leave_63 rfl (by decide) (by first | rfl | simp [q_cat, q_catI, q_catJ, q_catR, q_catN]) ?_
      refine q_aload_n (pc := 64) C 0 2 dX14_leave_64 rfl rfl ?_
      refine q_iload_n (pc := 65) C 1 3 dX14_leave_65 rfl rfl ?_
      refine q_iconst (pc := 66) C 0 dX14_leave_66 (by decide) ?_
      obtain ⟨b21, fs9, hb21, hm9, h⟩ := h
      refine q_cv (pc := 67) (q_rV C (st := []) (b := b21) (kX14_stepOut l G b0 h) (cwV 2 C.2.2.2.2.1 gX14_leave_X14_stepOut rfl rfl rfl (by decide +kernel) ⟨Nat.le_of_ble_eq_true rfl, Nat.le_of_ble_eq_true rfl⟩) hm9 rfl rfl rfl (by first | exact Nat.le_of_ble_eq_true rfl | (simp [q_cat, q_catI, q_catJ, q_catR, q_catN]; done)) (by rw [hb21]; first | done | rfl) dX14_leave_67 ⟨(by first | omega | (dsimp only; omega)), (by first | omega | (dsimp only; omega))⟩) (fun M20 h => ?_)
      refine q_iload_n (pc := 70) C 3 0 dX14_leave_70 rfl rfl ?_
      exact q_iret (pc := 71) C hr hlocks h dX14_leave_71 (by omega) (by omega)
    · have h := h.2 c11
      refine q_aload_n (pc := 39) C 0 1 dX14_leave_39 rfl rfl ?_
      refine q_iconst (pc := 40) C 2 dX14_leave_40 (by decide) ?_
      obtain ⟨b24, fs9, hb24, hm9, h⟩ := h
      refine q_ci (pc := 41) (q_rV C (st := []) (b := b24) (kX14_refuse l G b0 h) (cwV 1 C.2.2.2.2.1 gX14_leave_X14_refuse rfl rfl rfl (by decide +kernel) ⟨Nat.le_of_ble_eq_true rfl, Nat.le_of_ble_eq_true rfl⟩) hm9 rfl rfl rfl (by first | exact Nat.le_of_ble_eq_true rfl | (simp [q_cat, q_catI, q_catJ, q_catR, q_catN]; done)) (by rw [hb24]; first | done | rfl) dX14_leave_41 ⟨(by first | omega | (dsimp only; omega)), (by first | omega | (dsimp only; omega))⟩) (fun x22 M23 h => ?_)
      exact q_iret (pc := 44) C hr hlocks h dX14_leave_44 (by omega) (by omega)
  · have h := h.1 c5
    refine q_aload_n (pc := 13) C 0 0 dX14_leave_13 rfl rfl ?_
    refine q_iconst (pc := 14) C 1 dX14_leave_14 (by decide) ?_
    obtain ⟨b27, fs9, hb27, hm9, h⟩ := h
    refine q_ci (pc := 15) (q_rV C (st := []) (b := b27) (kX14_refuse l G b0 h) (cwV 1 C.2.2.2.2.1 gX14_leave_X14_refuse rfl rfl rfl (by decide +kernel) ⟨Nat.le_of_ble_eq_true rfl, Nat.le_of_ble_eq_true rfl⟩) hm9 rfl rfl rfl (by first | exact Nat.le_of_ble_eq_true rfl | (simp [q_cat, q_catI, q_catJ, q_catR, q_catN]; done)) (by rw [hb27]; first | done | rfl) dX14_leave_15 ⟨(by first | omega | (dsimp only; omega)), (by first | omega | (dsimp only; omega))⟩) (fun x25 M26 h => ?_)
    exact q_iret (pc := 18) C hr hlocks h dX14_leave_18 (by omega) (by omega)
set_option maxRecDepth 100000 in
set_option maxHeartbeats 4000000 in
theorem kX14_leave (l : Launch) (G : mG) (b0 : Nat) {b : Nat} {l1 : Int32} {M : mM} {κ : Int32 → mM → Prop} (h : wX14_leave κ (some b) l1 M) : Met l yX14_leave wsX14_leave ({ frames := 5, cells := 0, slots := 0, locals := 111 } : Room) (va_Pc [.ref b, .int l1] (m_Pre G b0 M)) (va_Qi κ (m_B G b0) (fun q => b0 ≤ q)) 0 0 (fun q => b0 ≤ q) := by
  refine m_met (cc := cX14_leave) (maxL := 4) (ret := (some .int)) (lv := [(0, va_rf (some b)), (1, .int l1)]) RX14 rfl (by decide +kernel) rfl (by first | exact Nat.le_of_ble_eq_true rfl | simp [lg_sl, q_cat, q_catI, q_catJ, q_catR, q_catN]) (by first | rfl | (simp [lv_args, q_cat, q_catI, q_catJ, q_catR, q_catN]; done) | (simp [lv_args, q_cat, q_catI, q_catJ, q_catR, q_catN]; rfl)) ?_
  intro p e s m args below meth c C hr hlocks hni
  exact tX14_leave C hr hlocks h
/-! X14_isGoodNow -/
set_option maxRecDepth 100000 in
set_option maxHeartbeats 4000000 in
theorem tX14_isGoodNow {p : Program} {l : Launch} {e : Env} {s : State} {m : MethodId} {args : Array Value} {below : List Frame} {meth : Method} {c : Code} {G : mG} {b0 : Nat} (C : m_C p s m args c cX14_isGoodNow 6 RX14 wsX14_isGoodNow G b0) (hr : meth.sig.returnType = (some .boolean)) (hlocks : meth.locks = false) {κ : Int32 → mM → Prop} {l0 : Option Nat} {l1 : Int32} {l2 : Int32} {M : mM} (h : wX14_isGoodNow κ l0 l1 l2 M) : m_W p l e ({ frames := 3, cells := 0, slots := 0, locals := 64 } : Room) s m args below meth c G b0 (MQ below (va_Qi κ (m_B G b0) (fun q => b0 ≤ q)) args s 0 0 (fun q => b0 ≤ q)) 6 M 0 0 0 [(0, va_rf l0), (1, .int l1), (2, .int l2)] [] := by
  unfold wX14_isGoodNow at h
  refine q_aload_n (pc := 0) C 0 0 dX14_isGoodNow_0 rfl rfl ?_
  refine q_gR (pc := 1) C h (T := TX14) rfl (by decide) (wk_u rfl wm_X14_isGoodNow uq_X14 (by decide +kernel)) (by decide +kernel) (fun _ h9 => h9) dX14_isGoodNow_1 (fun x1 h => ?_)
  refine q_iload_n (pc := 4) C 1 1 dX14_isGoodNow_4 rfl rfl ?_
  obtain ⟨b4, fs9, hb4, hm9, h⟩ := h
  refine q_cq (pc := 5) (q_rV C (st := []) (b := b4) (kJx4a65c_get_915e3 l G b0 h) (cwV 1 C.2.2.2.2.1 gX14_isGoodNow_Jx4a65c_get_915e3 rfl rfl rfl (by decide +kernel) ⟨Nat.le_of_ble_eq_true rfl, Nat.le_of_ble_eq_true rfl⟩) hm9 rfl rfl rfl (by first | exact Nat.le_of_ble_eq_true rfl | (simp [q_cat, q_catI, q_catJ, q_catR, q_catN]; done)) (by rw [hb4]; first | done | rfl) dX14_isGoodNow_5 ⟨(by first | omega | (dsimp only; omega)), (by first | omega | (dsimp only; omega))⟩) (fun x2 M3 h => ?_)
  refine q_cast (pc := 8) C h rfl rfl (by decide +kernel) dX14_isGoodNow_8 (fun h => ?_)
  refine q_astore_n (pc := 11) C 3 [(3, va_rf x2), (0, va_rf l0), (1, .int l1), (2, .int l2)] dX14_isGoodNow_11 rfl (by decide) (by first | rfl | simp [q_cat, q_catI, q_catJ, q_catR, q_catN]) ?_
  refine q_aload_n (pc := 12) C 3 0 dX14_isGoodNow_12 rfl rfl ?_
  refine q_gIN (pc := 13) C h (host := "LullabygateModel") (T := TX13) rfl (by decide) (by decide +kernel) 1485 (by decide +kernel) (fun _ h9 => h9) dX14_isGoodNow_13 (fun x5 h => ?_)
  refine q_iconst (pc := 16) C (-1) dX14_isGoodNow_16 (by decide) ?_
  refine q_icmp_eq (pc := 17) C 39 dX14_isGoodNow_17 (by decide) (fun c6 => ?_) (fun c6 => ?_)
  · have h := h.1 c6
    refine q_iconst (pc := 39) C 0 dX14_isGoodNow_39 (by decide) ?_
    exact q_zret (pc := 40) C hr hlocks ⟨(by decide), h⟩ dX14_isGoodNow_40 (by omega) (by omega)
  · have h := h.2 c6
    refine q_aload_n (pc := 20) C 3 0 dX14_isGoodNow_20 rfl rfl ?_
    refine q_gIN (pc := 21) C h (host := "LullabygateModel") (T := TX13) rfl (by decide) (by decide +kernel) 1482 (by decide +kernel) (fun _ h9 => h9) dX14_isGoodNow_21 (fun x7 h => ?_)
    refine q_iload_n (pc := 24) C 2 3 dX14_isGoodNow_24 rfl rfl ?_
    refine q_icmp_ne (pc := 25) C 39 dX14_isGoodNow_25 (by decide) (fun c8 => ?_) (fun c8 => ?_)
    · have h := h.2 c8
      refine q_iconst (pc := 39) C 0 dX14_isGoodNow_39 (by decide) ?_
      exact q_zret (pc := 40) C hr hlocks ⟨(by decide), h⟩ dX14_isGoodNow_40 (by omega) (by omega)
    · have h := h.1 c8
      refine q_aload_n (pc := 28) C 3 0 dX14_isGoodNow_28 rfl rfl ?_
      refine q_gIN (pc := 29) C h (host := "LullabygateModel") (T := TX13) rfl (by decide) (by decide +kernel) 1483 (by decide +kernel) (fun _ h9 => h9) dX14_isGoodNow_29 (fun x9 h => ?_)
      refine q_aload_n (pc := 32) C 0 1 dX14_isGoodNow_32 rfl rfl ?_
      refine q_gI (pc := 33) C h (T := TX14) rfl (by decide) (wk_u rfl wm_X14_isGoodNow uq_X14 (by decide +kernel)) (by decide +kernel) (fun _ h9 => h9) dX14_isGoodNow_33 (fun x10 h => ?_)
      refine q_icmp_eq (pc := 36) C 41 dX14_isGoodNow_36 (by decide) (fun c11 => ?_) (fun c11 => ?_)
      · have h := h.1 c11
        refine q_aload_n (pc := 41) C 0 1 dX14_isGoodNow_41 rfl rfl ?_
        refine q_gR (pc := 42) C h (T := TX14) rfl (by decide) (wk_u rfl wm_X14_isGoodNow uq_X14 (by decide +kernel)) (by decide +kernel) (fun _ h9 => h9) dX14_isGoodNow_42 (fun x12 h => ?_)
        refine q_iload_n (pc := 45) C 2 3 dX14_isGoodNow_45 rfl rfl ?_
        obtain ⟨b15, fs9, hb15, hm9, h⟩ := h
        refine q_cq (pc := 46) (q_rV C (st := []) (b := b15) (kJx4a65c_get_915e3 l G b0 h) (cwV 1 C.2.2.2.2.1 gX14_isGoodNow_Jx4a65c_get_915e3 rfl rfl rfl (by decide +kernel) ⟨Nat.le_of_ble_eq_true rfl, Nat.le_of_ble_eq_true rfl⟩) hm9 rfl rfl rfl (by first | exact Nat.le_of_ble_eq_true rfl | (simp [q_cat, q_catI, q_catJ, q_catR, q_catN]; done)) (by rw [hb15]; first | done | rfl) dX14_isGoodNow_46 ⟨(by first | omega | (dsimp only; omega)), (by first | omega | (dsimp only; omega))⟩) (fun x13 M14 h => ?_)
        refine q_cast (pc := 49) C h rfl rfl (by decide +kernel) dX14_isGoodNow_49 (fun h => ?_)
        refine q_astore (pc := 52) C 4 [(4, va_rf x13), (3, va_rf x2), (0, va_rf l0), (1, .int l1), (2, .int l2)] dX14_isGoodNow_52 (by decide) (by first | rfl | simp [q_cat, q_catI, q_catJ, q_catR, q_catN]) ?_
        refine q_aload_n (pc := 54) C 3 1 dX14_isGoodNow_54 rfl rfl ?_
        refine q_gIN (pc := 55) C h (host := "LullabygateModel") (T := TX13) rfl (by decide) (by decide +kernel) 1485 (by decide +kernel) (fun _ h9 => h9) dX14_isGoodNow_55 (fun x16 h => ?_)
        refine q_iload_n (pc := 58) C 1 3 dX14_isGoodNow_58 rfl rfl ?_
        refine q_iload_n (pc := 59) C 2 4 dX14_isGoodNow_59 rfl rfl ?_
        refine q_aload_n (pc := 60) C 0 2 dX14_isGoodNow_60 rfl rfl ?_
        refine q_gI (pc := 61) C h (T := TX14) rfl (by decide) (wk_u rfl wm_X14_isGoodNow uq_X14 (by decide +kernel)) (by decide +kernel) (fun _ h9 => h9) dX14_isGoodNow_61 (fun x17 h => ?_)
        refine q_ci (pc := 64) (q_rS C (st := [.int x16]) (kX14_right l G b0 h) (va_cwS 3 C.2.2.2.2.1 gX14_isGoodNow_X14_right rfl rfl rfl (by decide +kernel) ⟨Nat.le_of_ble_eq_true rfl, Nat.le_of_ble_eq_true rfl⟩) rfl (by first | exact Nat.le_of_ble_eq_true rfl | (simp [q_cat, q_catI, q_catJ, q_catR, q_catN]; done)) rfl dX14_isGoodNow_64 ⟨(by first | omega | (dsimp only; omega)), (by first | omega | (dsimp only; omega))⟩) (fun x18 M19 h => ?_)
        refine q_isub (pc := 67) C dX14_isGoodNow_67 ?_
        refine q_mabs (pc := 68) C (by decide +kernel) (by decide +kernel) (by decide +kernel) (by decide +kernel) (Nat.le_of_ble_eq_true rfl) (by first | exact Nat.le_of_ble_eq_true rfl | (simp [q_cat, q_catI, q_catJ, q_catR, q_catN]; done) | (simp [q_cat, q_catI, q_catJ, q_catR, q_catN]; decide)) (by first | omega | (dsimp only; omega)) (by first | omega | (dsimp only; omega)) dX14_isGoodNow_68 ?_
        refine m_stk (st2 := .int (m_abs (x16 - x18)) :: _) rfl ?_
        refine q_istore (pc := 71) C 5 [(5, .int (m_abs (x16 - x18))), (4, va_rf x13), (3, va_rf x2), (0, va_rf l0), (1, .int l1), (2, .int l2)] dX14_isGoodNow_71 (by decide) (by first | rfl | simp [q_cat, q_catI, q_catJ, q_catR, q_catN]) ?_
        refine q_aload (pc := 73) C 4 1 dX14_isGoodNow_73 rfl ?_
        obtain ⟨b22, fs9, hb22, hm9, h⟩ := h
        refine q_ci (pc := 75) (q_rV C (st := []) (b := b22) (kX10_dozes l G b0 h) (cwV 0 C.2.2.2.2.1 gX14_isGoodNow_X10_dozes rfl rfl rfl (by decide +kernel) ⟨Nat.le_of_ble_eq_true rfl, Nat.le_of_ble_eq_true rfl⟩) hm9 rfl rfl rfl (by first | exact Nat.le_of_ble_eq_true rfl | (simp [q_cat, q_catI, q_catJ, q_catR, q_catN]; done)) (by rw [hb22]; first | done | rfl) dX14_isGoodNow_75 ⟨(by first | omega | (dsimp only; omega)), (by first | omega | (dsimp only; omega))⟩) (fun x20 M21 h => ?_)
        refine q_if_eq (pc := 78) C 95 dX14_isGoodNow_78 (by decide) (fun c23 => ?_) (fun c23 => ?_)
        · have h := h.1 c23
          refine q_iload (pc := 95) C 5 0 dX14_isGoodNow_95 rfl ?_
          refine q_if_ne (pc := 97) C 117 dX14_isGoodNow_97 (by decide) (fun c24 => ?_) (fun c24 => ?_)
          · have h := h.2 c24
            refine q_iconst (pc := 117) C 0 dX14_isGoodNow_117 (by decide) ?_
            exact q_zret (pc := 118) C hr hlocks ⟨(by decide), h⟩ dX14_isGoodNow_118 (by omega) (by omega)
          · have h := h.1 c24
            refine q_aload (pc := 100) C 4 1 dX14_isGoodNow_100 rfl ?_
            refine q_gRN (pc := 102) C h (host := "LullabygateModel") (T := TX10) rfl (by decide) (by decide +kernel) 1432 (by decide +kernel) (fun _ h9 => h9) dX14_isGoodNow_102 (fun x25 h => ?_)
            refine q_aload_n (pc := 105) C 3 2 dX14_isGoodNow_105 rfl rfl ?_
            refine q_gIN (pc := 106) C h (host := "LullabygateModel") (T := TX13) rfl (by decide) (by decide +kernel) 1485 (by decide +kernel) (fun _ h9 => h9) dX14_isGoodNow_106 (fun x26 h => ?_)
            refine q_zald (pc := 109) C h dX14_isGoodNow_109 (fun x27 h => ?_)
            refine q_if_ne (pc := 110) C 117 dX14_isGoodNow_110 (by decide) (fun c28 => ?_) (fun c28 => ?_)
            · have h := h.2 c28
              refine q_iconst (pc := 117) C 0 dX14_isGoodNow_117 (by decide) ?_
              exact q_zret (pc := 118) C hr hlocks ⟨(by decide), h⟩ dX14_isGoodNow_118 (by omega) (by omega)
            · have h := h.1 c28
              refine q_iconst (pc := 113) C 1 dX14_isGoodNow_113 (by decide) ?_
              refine q_goto (pc := 114) C 118 dX14_isGoodNow_114 (by decide) ?_
              exact q_zret (pc := 118) C hr hlocks ⟨(by decide), h⟩ dX14_isGoodNow_118 (by omega) (by omega)
        · have h := h.2 c23
          refine q_iload (pc := 81) C 5 0 dX14_isGoodNow_81 rfl ?_
          refine q_iconst (pc := 83) C 1 dX14_isGoodNow_83 (by decide) ?_
          refine q_icmp_gt (pc := 84) C 91 dX14_isGoodNow_84 (by decide) (fun c29 => ?_) (fun c29 => ?_)
          · have h := h.1 c29
            refine q_iconst (pc := 91) C 0 dX14_isGoodNow_91 (by decide) ?_
            refine q_goto (pc := 92) C 118 dX14_isGoodNow_92 (by decide) ?_
            exact q_zret (pc := 118) C hr hlocks ⟨(by decide), h⟩ dX14_isGoodNow_118 (by omega) (by omega)
          · have h := h.2 c29
            refine q_iconst (pc := 87) C 1 dX14_isGoodNow_87 (by decide) ?_
            refine q_goto (pc := 88) C 118 dX14_isGoodNow_88 (by decide) ?_
            exact q_zret (pc := 118) C hr hlocks ⟨(by decide), h⟩ dX14_isGoodNow_118 (by omega) (by omega)
      · have h := h.2 c11
        refine q_iconst (pc := 39) C 0 dX14_isGoodNow_39 (by decide) ?_
        exact q_zret (pc := 40) C hr hlocks ⟨(by decide), h⟩ dX14_isGoodNow_40 (by omega) (by omega)
set_option maxRecDepth 100000 in
set_option maxHeartbeats 4000000 in
theorem kX14_isGoodNow (l : Launch) (G : mG) (b0 : Nat) {b : Nat} {l1 : Int32} {l2 : Int32} {M : mM} {κ : Int32 → mM → Prop} (h : wX14_isGoodNow κ (some b) l1 l2 M) : Met l yX14_isGoodNow wsX14_isGoodNow ({ frames := 3, cells := 0, slots := 0, locals := 64 } : Room) (va_Pc [.ref b, .int l1, .int l2] (m_Pre G b0 M)) (va_Qi κ (m_B G b0) (fun q => b0 ≤ q)) 0 0 (fun q => b0 ≤ q) := by
  refine m_met (cc := cX14_isGoodNow) (maxL := 6) (ret := (some .boolean)) (lv := [(0, va_rf (some b)), (1, .int l1), (2, .int l2)]) RX14 rfl (by decide +kernel) rfl (by first | exact Nat.le_of_ble_eq_true rfl | simp [lg_sl, q_cat, q_catI, q_catJ, q_catR, q_catN]) (by first | rfl | (simp [lv_args, q_cat, q_catI, q_catJ, q_catR, q_catN]; done) | (simp [lv_args, q_cat, q_catI, q_catJ, q_catR, q_catN]; rfl)) ?_
  intro p e s m args below meth c C hr hlocks hni
  exact tX14_isGoodNow C hr hlocks h
/-! X14_comeIn -/
set_option maxRecDepth 100000 in
set_option maxHeartbeats 4000000 in
theorem tX14_comeIn_193 {p : Program} {l : Launch} {e : Env} {s : State} {m : MethodId} {args : Array Value} {below : List Frame} {meth : Method} {c : Code} {G : mG} {b0 : Nat} (C : m_C p s m args c cX14_comeIn 11 RX14 wsX14_comeIn G b0) (hr : meth.sig.returnType = (some .int)) (hlocks : meth.locks = false) {κ : Int32 → mM → Prop} {R34 : Option Nat → Int32 → Int32 → Option Nat → Option Nat → Int32 → Int32 → Int32 → mM → Prop} (hR34 : ∀ (l0 : Option Nat) (l1 : Int32) (l3 : Int32) (l4 : Option Nat) (l5 : Option Nat) (l6 : Int32) (l7 : Int32) (l8 : Int32) (M : mM), R34 l0 l1 l3 l4 l5 l6 l7 l8 M → m_W p l e ({ frames := 3, cells := 0, slots := 0, locals := 64 } : Room) s m args below meth c G b0 (MQ below (va_Qi κ (m_B G b0) (fun q => b0 ≤ q)) args s 0 0 (fun q => b0 ≤ q)) 11 M 0 0 34 [(0, va_rf l0), (1, .int l1), (3, .int l3), (4, va_rf l4), (5, va_rf l5), (6, .int l6), (7, .int l7), (8, .int l8)] []) {l0 : Option Nat} {l1 : Int32} {l3 : Int32} {l4 : Option Nat} {l5 : Option Nat} {l6 : Int32} {l7 : Int32} {l8 : Int32} {M : mM} (h : wX14_comeIn_193 κ R34 l0 l1 l3 l4 l5 l6 l7 l8 M) : m_W p l e ({ frames := 3, cells := 0, slots := 0, locals := 64 } : Room) s m args below meth c G b0 (MQ below (va_Qi κ (m_B G b0) (fun q => b0 ≤ q)) args s 0 0 (fun q => b0 ≤ q)) 11 M 0 0 193 [(0, va_rf l0), (1, .int l1), (3, .int l3), (4, va_rf l4), (5, va_rf l5), (6, .int l6), (7, .int l7), (8, .int l8)] [] := by
  unfold wX14_comeIn_193 at h
  refine q_iinc (pc := 193) C 8 7 (l8 + 1) [(8, .int (l8 + 1)), (0, va_rf l0), (1, .int l1), (3, .int l3), (4, va_rf l4), (5, va_rf l5), (6, .int l6), (7, .int l7)] dX14_comeIn_193 rfl (by rfl) (by decide) (by first | rfl | simp [q_cat, q_catI, q_catJ, q_catR, q_catN]) ?_
  refine q_goto (pc := 196) C 34 dX14_comeIn_196 (by decide) ?_
  refine q_widen (k2 := 0) (n2 := 0) (by omega) (by omega) ?_
  refine q_lv [1, 2, 3, 4, 5, 6, 7, 0] rfl ?_
  exact hR34 _ _ _ _ _ _ _ _ _ h
set_option maxRecDepth 100000 in
set_option maxHeartbeats 4000000 in
theorem tX14_comeIn_190 {p : Program} {l : Launch} {e : Env} {s : State} {m : MethodId} {args : Array Value} {below : List Frame} {meth : Method} {c : Code} {G : mG} {b0 : Nat} (C : m_C p s m args c cX14_comeIn 11 RX14 wsX14_comeIn G b0) (hr : meth.sig.returnType = (some .int)) (hlocks : meth.locks = false) {κ : Int32 → mM → Prop} {R34 : Option Nat → Int32 → Int32 → Option Nat → Option Nat → Int32 → Int32 → Int32 → mM → Prop} (hR34 : ∀ (l0 : Option Nat) (l1 : Int32) (l3 : Int32) (l4 : Option Nat) (l5 : Option Nat) (l6 : Int32) (l7 : Int32) (l8 : Int32) (M : mM), R34 l0 l1 l3 l4 l5 l6 l7 l8 M → m_W p l e ({ frames := 3, cells := 0, slots := 0, locals := 64 } : Room) s m args below meth c G b0 (MQ below (va_Qi κ (m_B G b0) (fun q => b0 ≤ q)) args s 0 0 (fun q => b0 ≤ q)) 11 M 0 0 34 [(0, va_rf l0), (1, .int l1), (3, .int l3), (4, va_rf l4), (5, va_rf l5), (6, .int l6), (7, .int l7), (8, .int l8)] []) {l0 : Option Nat} {l1 : Int32} {l3 : Int32} {l4 : Option Nat} {l5 : Option Nat} {l6 : Int32} {l7 : Int32} {l8 : Int32} {s0 : Int32} {s1 : Option Nat} {M : mM} (h : wX14_comeIn_190 κ R34 l0 l1 l3 l4 l5 l6 l7 l8 s0 s1 M) : m_W p l e ({ frames := 3, cells := 0, slots := 0, locals := 64 } : Room) s m args below meth c G b0 (MQ below (va_Qi κ (m_B G b0) (fun q => b0 ≤ q)) args s 0 0 (fun q => b0 ≤ q)) 11 M 0 0 190 [(0, va_rf l0), (1, .int l1), (3, .int l3), (4, va_rf l4), (5, va_rf l5), (6, .int l6), (7, .int l7), (8, .int l8)] [.int s0, va_rf s1] := by
  unfold wX14_comeIn_190 at h
  refine q_pN (pc := 190) C h .int (host := "LullabygateModel") (T := TX12) tyX12 tyX12_ok nmX12 rfl (by decide +kernel) rfl rfl rfl (by decide) (by decide +kernel) 1523 (by decide +kernel) (fun _ h9 => h9) rfl dX14_comeIn_190 (fun M1 h => ?_)
  refine q_widen (k2 := 0) (n2 := 0) (by omega) (by omega) ?_
  refine q_lv [0, 1, 2, 3, 4, 5, 6, 7] rfl ?_
  exact tX14_comeIn_193 C hr hlocks hR34 h
set_option maxRecDepth 100000 in
set_option maxHeartbeats 4000000 in
theorem tX14_comeIn_174 {p : Program} {l : Launch} {e : Env} {s : State} {m : MethodId} {args : Array Value} {below : List Frame} {meth : Method} {c : Code} {G : mG} {b0 : Nat} (C : m_C p s m args c cX14_comeIn 11 RX14 wsX14_comeIn G b0) (hr : meth.sig.returnType = (some .int)) (hlocks : meth.locks = false) {κ : Int32 → mM → Prop} {R34 : Option Nat → Int32 → Int32 → Option Nat → Option Nat → Int32 → Int32 → Int32 → mM → Prop} (hR34 : ∀ (l0 : Option Nat) (l1 : Int32) (l3 : Int32) (l4 : Option Nat) (l5 : Option Nat) (l6 : Int32) (l7 : Int32) (l8 : Int32) (M : mM), R34 l0 l1 l3 l4 l5 l6 l7 l8 M → m_W p l e ({ frames := 3, cells := 0, slots := 0, locals := 64 } : Room) s m args below meth c G b0 (MQ below (va_Qi κ (m_B G b0) (fun q => b0 ≤ q)) args s 0 0 (fun q => b0 ≤ q)) 11 M 0 0 34 [(0, va_rf l0), (1, .int l1), (3, .int l3), (4, va_rf l4), (5, va_rf l5), (6, .int l6), (7, .int l7), (8, .int l8)] []) {l0 : Option Nat} {l1 : Int32} {l3 : Int32} {l4 : Option Nat} {l5 : Option Nat} {l6 : Int32} {l7 : Int32} {l8 : Int32} {l9 : Option Nat} {l10 : Int32} {M : mM} (h : wX14_comeIn_174 κ R34 l0 l1 l3 l4 l5 l6 l7 l8 l9 l10 M) : m_W p l e ({ frames := 3, cells := 0, slots := 0, locals := 64 } : Room) s m args below meth c G b0 (MQ below (va_Qi κ (m_B G b0) (fun q => b0 ≤ q)) args s 0 0 (fun q => b0 ≤ q)) 11 M 0 0 174 [(0, va_rf l0), (1, .int l1), (3, .int l3), (4, va_rf l4), (5, va_rf l5), (6, .int l6), (7, .int l7), (8, .int l8), (9, va_rf l9), (10, .int l10)] [] := by
  unfold wX14_comeIn_174 at h
  refine q_iload_n (pc := 174) C 3 2 dX14_comeIn_174 rfl rfl ?_
  refine q_if_eq (pc := 175) C 193 dX14_comeIn_175 (by decide) (fun c1 => ?_) (fun c1 => ?_)
  · have h := h.1 c1
    refine q_widen (k2 := 0) (n2 := 0) (by omega) (by omega) ?_
    refine q_lv [0, 1, 2, 3, 4, 5, 6, 7] rfl ?_
    exact tX14_comeIn_193 C hr hlocks hR34 h
  · have h := h.2 c1
    refine q_aload (pc := 178) C 9 8 dX14_comeIn_178 rfl ?_
    refine q_iload (pc := 180) C 10 9 dX14_comeIn_180 rfl ?_
    refine q_if_eq (pc := 182) C 189 dX14_comeIn_182 (by decide) (fun c2 => ?_) (fun c2 => ?_)
    · have h := h.1 c2
      refine q_iconst (pc := 189) C 1 dX14_comeIn_189 (by decide) ?_
      refine q_widen (k2 := 0) (n2 := 0) (by omega) (by omega) ?_
      refine q_lv [0, 1, 2, 3, 4, 5, 6, 7] rfl ?_
      exact tX14_comeIn_190 C hr hlocks hR34 h
    · have h := h.2 c2
      refine q_iconst (pc := 185) C 5 dX14_comeIn_185 (by decide) ?_
      refine q_goto (pc := 186) C 190 dX14_comeIn_186 (by decide) ?_
      refine q_widen (k2 := 0) (n2 := 0) (by omega) (by omega) ?_
      refine q_lv [0, 1, 2, 3, 4, 5, 6, 7] rfl ?_
      exact tX14_comeIn_190 C hr hlocks hR34 h
set_option maxRecDepth 100000 in
set_option maxHeartbeats 4000000 in
theorem tX14_comeIn_149 {p : Program} {l : Launch} {e : Env} {s : State} {m : MethodId} {args : Array Value} {below : List Frame} {meth : Method} {c : Code} {G : mG} {b0 : Nat} (C : m_C p s m args c cX14_comeIn 11 RX14 wsX14_comeIn G b0) (hr : meth.sig.returnType = (some .int)) (hlocks : meth.locks = false) {κ : Int32 → mM → Prop} {R34 : Option Nat → Int32 → Int32 → Option Nat → Option Nat → Int32 → Int32 → Int32 → mM → Prop} (hR34 : ∀ (l0 : Option Nat) (l1 : Int32) (l3 : Int32) (l4 : Option Nat) (l5 : Option Nat) (l6 : Int32) (l7 : Int32) (l8 : Int32) (M : mM), R34 l0 l1 l3 l4 l5 l6 l7 l8 M → m_W p l e ({ frames := 3, cells := 0, slots := 0, locals := 64 } : Room) s m args below meth c G b0 (MQ below (va_Qi κ (m_B G b0) (fun q => b0 ≤ q)) args s 0 0 (fun q => b0 ≤ q)) 11 M 0 0 34 [(0, va_rf l0), (1, .int l1), (3, .int l3), (4, va_rf l4), (5, va_rf l5), (6, .int l6), (7, .int l7), (8, .int l8)] []) {l0 : Option Nat} {l1 : Int32} {l3 : Int32} {l4 : Option Nat} {l5 : Option Nat} {l6 : Int32} {l8 : Int32} {l9 : Option Nat} {l10 : Int32} {s0 : Int32} {s1 : Int32} {M : mM} (h : wX14_comeIn_149 κ R34 l0 l1 l3 l4 l5 l6 l8 l9 l10 s0 s1 M) : m_W p l e ({ frames := 3, cells := 0, slots := 0, locals := 64 } : Room) s m args below meth c G b0 (MQ below (va_Qi κ (m_B G b0) (fun q => b0 ≤ q)) args s 0 0 (fun q => b0 ≤ q)) 11 M 0 0 149 [(0, va_rf l0), (1, .int l1), (3, .int l3), (4, va_rf l4), (5, va_rf l5), (6, .int l6), (8, .int l8), (9, va_rf l9), (10, .int l10)] [.int s0, .int s1] := by
  unfold wX14_comeIn_149 at h
  refine q_iadd (pc := 149) C dX14_comeIn_149 ?_
  refine q_istore (pc := 150) C 7 [(7, .int (s1 + s0)), (0, va_rf l0), (1, .int l1), (3, .int l3), (4, va_rf l4), (5, va_rf l5), (6, .int l6), (8, .int l8), (9, va_rf l9), (10, .int l10)] dX14_comeIn_150 (by decide) (by first | rfl | simp [q_cat, q_catI, q_catJ, q_catR, q_catN]) ?_
  refine q_iload_n (pc := 152) C 3 3 dX14_comeIn_152 rfl rfl ?_
  refine q_if_eq (pc := 153) C 174 dX14_comeIn_153 (by decide) (fun c1 => ?_) (fun c1 => ?_)
  · have h := h.1 c1
    refine q_widen (k2 := 0) (n2 := 0) (by omega) (by omega) ?_
    refine q_lv [1, 2, 3, 4, 5, 6, 0, 7, 8, 9] rfl ?_
    exact tX14_comeIn_174 C hr hlocks hR34 h
  · have h := h.2 c1
    refine q_iload (pc := 156) C 10 9 dX14_comeIn_156 rfl ?_
    refine q_if_eq (pc := 158) C 174 dX14_comeIn_158 (by decide) (fun c2 => ?_) (fun c2 => ?_)
    · have h := h.1 c2
      refine q_widen (k2 := 0) (n2 := 0) (by omega) (by omega) ?_
      refine q_lv [1, 2, 3, 4, 5, 6, 0, 7, 8, 9] rfl ?_
      exact tX14_comeIn_174 C hr hlocks hR34 h
    · have h := h.2 c2
      refine q_aload (pc := 161) C 9 8 dX14_comeIn_161 rfl ?_
      refine q_bipush (pc := 163) C 100 dX14_comeIn_163 (by decide) ?_
      refine q_aload (pc := 165) C 4 4 dX14_comeIn_165 rfl ?_
      refine q_gIN (pc := 167) C h (host := "LullabygateModel") (T := TX13) rfl (by decide) (by decide +kernel) 1474 (by decide +kernel) (fun _ h9 => h9) dX14_comeIn_167 (fun x3 h => ?_)
      refine q_iadd (pc := 170) C dX14_comeIn_170 ?_
      refine q_pN (pc := 171) C h .int (host := "LullabygateModel") (T := TX12) tyX12 tyX12_ok nmX12 rfl (by decide +kernel) rfl rfl rfl (by decide) (by decide +kernel) 1524 (by decide +kernel) (fun _ h9 => h9) rfl dX14_comeIn_171 (fun M4 h => ?_)
      refine q_widen (k2 := 0) (n2 := 0) (by omega) (by omega) ?_
      refine q_lv [1, 2, 3, 4, 5, 6, 0, 7, 8, 9] rfl ?_
      exact tX14_comeIn_174 C hr hlocks hR34 h
set_option maxRecDepth 100000 in
set_option maxHeartbeats 4000000 in
theorem tX14_comeIn_130 {p : Program} {l : Launch} {e : Env} {s : State} {m : MethodId} {args : Array Value} {below : List Frame} {meth : Method} {c : Code} {G : mG} {b0 : Nat} (C : m_C p s m args c cX14_comeIn 11 RX14 wsX14_comeIn G b0) (hr : meth.sig.returnType = (some .int)) (hlocks : meth.locks = false) {κ : Int32 → mM → Prop} {R34 : Option Nat → Int32 → Int32 → Option Nat → Option Nat → Int32 → Int32 → Int32 → mM → Prop} (hR34 : ∀ (l0 : Option Nat) (l1 : Int32) (l3 : Int32) (l4 : Option Nat) (l5 : Option Nat) (l6 : Int32) (l7 : Int32) (l8 : Int32) (M : mM), R34 l0 l1 l3 l4 l5 l6 l7 l8 M → m_W p l e ({ frames := 3, cells := 0, slots := 0, locals := 64 } : Room) s m args below meth c G b0 (MQ below (va_Qi κ (m_B G b0) (fun q => b0 ≤ q)) args s 0 0 (fun q => b0 ≤ q)) 11 M 0 0 34 [(0, va_rf l0), (1, .int l1), (3, .int l3), (4, va_rf l4), (5, va_rf l5), (6, .int l6), (7, .int l7), (8, .int l8)] []) {l0 : Option Nat} {l1 : Int32} {l3 : Int32} {l4 : Option Nat} {l5 : Option Nat} {l7 : Int32} {l8 : Int32} {l9 : Option Nat} {l10 : Int32} {s0 : Int32} {s1 : Int32} {M : mM} (h : wX14_comeIn_130 κ R34 l0 l1 l3 l4 l5 l7 l8 l9 l10 s0 s1 M) : m_W p l e ({ frames := 3, cells := 0, slots := 0, locals := 64 } : Room) s m args below meth c G b0 (MQ below (va_Qi κ (m_B G b0) (fun q => b0 ≤ q)) args s 0 0 (fun q => b0 ≤ q)) 11 M 0 0 130 [(0, va_rf l0), (1, .int l1), (3, .int l3), (4, va_rf l4), (5, va_rf l5), (7, .int l7), (8, .int l8), (9, va_rf l9), (10, .int l10)] [.int s0, .int s1] := by
  unfold wX14_comeIn_130 at h
  refine q_iadd (pc := 130) C dX14_comeIn_130 ?_
  refine q_istore (pc := 131) C 6 [(6, .int (s1 + s0)), (0, va_rf l0), (1, .int l1), (3, .int l3), (4, va_rf l4), (5, va_rf l5), (7, .int l7), (8, .int l8), (9, va_rf l9), (10, .int l10)] dX14_comeIn_131 (by decide) (by first | rfl | simp [q_cat, q_catI, q_catJ, q_catR, q_catN]) ?_
  refine q_iload (pc := 133) C 7 6 dX14_comeIn_133 rfl ?_
  refine q_iload (pc := 135) C 10 9 dX14_comeIn_135 rfl ?_
  refine q_if_eq (pc := 137) C 144 dX14_comeIn_137 (by decide) (fun c1 => ?_) (fun c1 => ?_)
  · have h := h.1 c1
    refine q_aload (pc := 144) C 9 8 dX14_comeIn_144 rfl ?_
    refine q_gIN (pc := 146) C h (host := "LullabygateModel") (T := TX12) rfl (by decide) (by decide +kernel) 1520 (by decide +kernel) (fun _ h9 => h9) dX14_comeIn_146 (fun x2 h => ?_)
    refine q_widen (k2 := 0) (n2 := 0) (by omega) (by omega) ?_
    refine q_lv [1, 2, 3, 4, 5, 0, 7, 8, 9] rfl ?_
    exact tX14_comeIn_149 C hr hlocks hR34 h
  · have h := h.2 c1
    refine q_iconst (pc := 140) C 0 dX14_comeIn_140 (by decide) ?_
    refine q_goto (pc := 141) C 149 dX14_comeIn_141 (by decide) ?_
    refine q_widen (k2 := 0) (n2 := 0) (by omega) (by omega) ?_
    refine q_lv [1, 2, 3, 4, 5, 0, 7, 8, 9] rfl ?_
    exact tX14_comeIn_149 C hr hlocks hR34 h
set_option maxRecDepth 100000 in
set_option maxHeartbeats 4000000 in
theorem tX14_comeIn_129 {p : Program} {l : Launch} {e : Env} {s : State} {m : MethodId} {args : Array Value} {below : List Frame} {meth : Method} {c : Code} {G : mG} {b0 : Nat} (C : m_C p s m args c cX14_comeIn 11 RX14 wsX14_comeIn G b0) (hr : meth.sig.returnType = (some .int)) (hlocks : meth.locks = false) {κ : Int32 → mM → Prop} {R34 : Option Nat → Int32 → Int32 → Option Nat → Option Nat → Int32 → Int32 → Int32 → mM → Prop} (hR34 : ∀ (l0 : Option Nat) (l1 : Int32) (l3 : Int32) (l4 : Option Nat) (l5 : Option Nat) (l6 : Int32) (l7 : Int32) (l8 : Int32) (M : mM), R34 l0 l1 l3 l4 l5 l6 l7 l8 M → m_W p l e ({ frames := 3, cells := 0, slots := 0, locals := 64 } : Room) s m args below meth c G b0 (MQ below (va_Qi κ (m_B G b0) (fun q => b0 ≤ q)) args s 0 0 (fun q => b0 ≤ q)) 11 M 0 0 34 [(0, va_rf l0), (1, .int l1), (3, .int l3), (4, va_rf l4), (5, va_rf l5), (6, .int l6), (7, .int l7), (8, .int l8)] []) {l0 : Option Nat} {l1 : Int32} {l3 : Int32} {l4 : Option Nat} {l5 : Option Nat} {l7 : Int32} {l8 : Int32} {l9 : Option Nat} {l10 : Int32} {s0 : Int32} {M : mM} (h : wX14_comeIn_129 κ R34 l0 l1 l3 l4 l5 l7 l8 l9 l10 s0 M) : m_W p l e ({ frames := 3, cells := 0, slots := 0, locals := 64 } : Room) s m args below meth c G b0 (MQ below (va_Qi κ (m_B G b0) (fun q => b0 ≤ q)) args s 0 0 (fun q => b0 ≤ q)) 11 M 0 0 129 [(0, va_rf l0), (1, .int l1), (3, .int l3), (4, va_rf l4), (5, va_rf l5), (7, .int l7), (8, .int l8), (9, va_rf l9), (10, .int l10)] [.int s0] := by
  unfold wX14_comeIn_129 at h
  refine q_iconst (pc := 129) C 0 dX14_comeIn_129 (by decide) ?_
  refine q_widen (k2 := 0) (n2 := 0) (by omega) (by omega) ?_
  refine q_lv [0, 1, 2, 3, 4, 5, 6, 7, 8] rfl ?_
  exact tX14_comeIn_130 C hr hlocks hR34 h
set_option maxRecDepth 100000 in
set_option maxHeartbeats 4000000 in
theorem tX14_comeIn_108 {p : Program} {l : Launch} {e : Env} {s : State} {m : MethodId} {args : Array Value} {below : List Frame} {meth : Method} {c : Code} {G : mG} {b0 : Nat} (C : m_C p s m args c cX14_comeIn 11 RX14 wsX14_comeIn G b0) (hr : meth.sig.returnType = (some .int)) (hlocks : meth.locks = false) {κ : Int32 → mM → Prop} {R34 : Option Nat → Int32 → Int32 → Option Nat → Option Nat → Int32 → Int32 → Int32 → mM → Prop} (hR34 : ∀ (l0 : Option Nat) (l1 : Int32) (l3 : Int32) (l4 : Option Nat) (l5 : Option Nat) (l6 : Int32) (l7 : Int32) (l8 : Int32) (M : mM), R34 l0 l1 l3 l4 l5 l6 l7 l8 M → m_W p l e ({ frames := 3, cells := 0, slots := 0, locals := 64 } : Room) s m args below meth c G b0 (MQ below (va_Qi κ (m_B G b0) (fun q => b0 ≤ q)) args s 0 0 (fun q => b0 ≤ q)) 11 M 0 0 34 [(0, va_rf l0), (1, .int l1), (3, .int l3), (4, va_rf l4), (5, va_rf l5), (6, .int l6), (7, .int l7), (8, .int l8)] []) {l0 : Option Nat} {l1 : Int32} {l3 : Int32} {l4 : Option Nat} {l5 : Option Nat} {l6 : Int32} {l7 : Int32} {l8 : Int32} {l9 : Option Nat} {s0 : Int32} {M : mM} (h : wX14_comeIn_108 κ R34 l0 l1 l3 l4 l5 l6 l7 l8 l9 s0 M) : m_W p l e ({ frames := 3, cells := 0, slots := 0, locals := 64 } : Room) s m args below meth c G b0 (MQ below (va_Qi κ (m_B G b0) (fun q => b0 ≤ q)) args s 0 0 (fun q => b0 ≤ q)) 11 M 0 0 108 [(0, va_rf l0), (1, .int l1), (3, .int l3), (4, va_rf l4), (5, va_rf l5), (6, .int l6), (7, .int l7), (8, .int l8), (9, va_rf l9)] [.int s0] := by
  unfold wX14_comeIn_108 at h
  refine q_istore (pc := 108) C 10 [(10, .int s0), (0, va_rf l0), (1, .int l1), (3, .int l3), (4, va_rf l4), (5, va_rf l5), (6, .int l6), (7, .int l7), (8, .int l8), (9, va_rf l9)] dX14_comeIn_108 (by decide) (by first | rfl | simp [q_cat, q_catI, q_catJ, q_catR, q_catN]) ?_
  refine q_iload (pc := 110) C 6 6 dX14_comeIn_110 rfl ?_
  refine q_aload (pc := 112) C 9 9 dX14_comeIn_112 rfl ?_
  obtain ⟨b3, fs9, hb3, hm9, h⟩ := h
  refine q_ci (pc := 114) (q_rV C (st := [.int l6]) (b := b3) (kX12_isNightmare l G b0 h) (cwV 0 C.2.2.2.2.1 gX14_comeIn_X12_isNightmare rfl rfl rfl (by decide +kernel) ⟨Nat.le_of_ble_eq_true rfl, Nat.le_of_ble_eq_true rfl⟩) hm9 rfl rfl rfl (by first | exact Nat.le_of_ble_eq_true rfl | (simp [q_cat, q_catI, q_catJ, q_catR, q_catN]; done)) (by rw [hb3]; first | done | rfl) dX14_comeIn_114 ⟨(by first | omega | (dsimp only; omega)), (by first | omega | (dsimp only; omega))⟩) (fun x1 M2 h => ?_)
  refine q_if_eq (pc := 117) C 129 dX14_comeIn_117 (by decide) (fun c4 => ?_) (fun c4 => ?_)
  · have h := h.1 c4
    refine q_widen (k2 := 0) (n2 := 0) (by omega) (by omega) ?_
    refine q_lv [1, 2, 3, 4, 5, 7, 8, 9, 0] rfl ?_
    exact tX14_comeIn_129 C hr hlocks hR34 h
  · have h := h.2 c4
    refine q_iload (pc := 120) C 10 0 dX14_comeIn_120 rfl ?_
    refine q_if_ne (pc := 122) C 129 dX14_comeIn_122 (by decide) (fun c5 => ?_) (fun c5 => ?_)
    · have h := h.2 c5
      refine q_widen (k2 := 0) (n2 := 0) (by omega) (by omega) ?_
      refine q_lv [1, 2, 3, 4, 5, 7, 8, 9, 0] rfl ?_
      exact tX14_comeIn_129 C hr hlocks hR34 h
    · have h := h.1 c5
      refine q_iconst (pc := 125) C 1 dX14_comeIn_125 (by decide) ?_
      refine q_goto (pc := 126) C 130 dX14_comeIn_126 (by decide) ?_
      refine q_widen (k2 := 0) (n2 := 0) (by omega) (by omega) ?_
      refine q_lv [1, 2, 3, 4, 5, 7, 8, 9, 0] rfl ?_
      exact tX14_comeIn_130 C hr hlocks hR34 h
set_option maxRecDepth 100000 in
set_option maxHeartbeats 4000000 in
theorem tX14_comeIn_107 {p : Program} {l : Launch} {e : Env} {s : State} {m : MethodId} {args : Array Value} {below : List Frame} {meth : Method} {c : Code} {G : mG} {b0 : Nat} (C : m_C p s m args c cX14_comeIn 11 RX14 wsX14_comeIn G b0) (hr : meth.sig.returnType = (some .int)) (hlocks : meth.locks = false) {κ : Int32 → mM → Prop} {R34 : Option Nat → Int32 → Int32 → Option Nat → Option Nat → Int32 → Int32 → Int32 → mM → Prop} (hR34 : ∀ (l0 : Option Nat) (l1 : Int32) (l3 : Int32) (l4 : Option Nat) (l5 : Option Nat) (l6 : Int32) (l7 : Int32) (l8 : Int32) (M : mM), R34 l0 l1 l3 l4 l5 l6 l7 l8 M → m_W p l e ({ frames := 3, cells := 0, slots := 0, locals := 64 } : Room) s m args below meth c G b0 (MQ below (va_Qi κ (m_B G b0) (fun q => b0 ≤ q)) args s 0 0 (fun q => b0 ≤ q)) 11 M 0 0 34 [(0, va_rf l0), (1, .int l1), (3, .int l3), (4, va_rf l4), (5, va_rf l5), (6, .int l6), (7, .int l7), (8, .int l8)] []) {l0 : Option Nat} {l1 : Int32} {l3 : Int32} {l4 : Option Nat} {l5 : Option Nat} {l6 : Int32} {l7 : Int32} {l8 : Int32} {l9 : Option Nat} {M : mM} (h : wX14_comeIn_107 κ R34 l0 l1 l3 l4 l5 l6 l7 l8 l9 M) : m_W p l e ({ frames := 3, cells := 0, slots := 0, locals := 64 } : Room) s m args below meth c G b0 (MQ below (va_Qi κ (m_B G b0) (fun q => b0 ≤ q)) args s 0 0 (fun q => b0 ≤ q)) 11 M 0 0 107 [(0, va_rf l0), (1, .int l1), (3, .int l3), (4, va_rf l4), (5, va_rf l5), (6, .int l6), (7, .int l7), (8, .int l8), (9, va_rf l9)] [] := by
  unfold wX14_comeIn_107 at h
  refine q_iconst (pc := 107) C 0 dX14_comeIn_107 (by decide) ?_
  refine q_widen (k2 := 0) (n2 := 0) (by omega) (by omega) ?_
  refine q_lv [0, 1, 2, 3, 4, 5, 6, 7, 8] rfl ?_
  exact tX14_comeIn_108 C hr hlocks hR34 h
set_option maxRecDepth 100000 in
set_option maxHeartbeats 4000000 in
theorem tX14_comeIn_34 {p : Program} {l : Launch} {e : Env} {s : State} {m : MethodId} {args : Array Value} {below : List Frame} {meth : Method} {c : Code} {G : mG} {b0 : Nat} (C : m_C p s m args c cX14_comeIn 11 RX14 wsX14_comeIn G b0) (hr : meth.sig.returnType = (some .int)) (hlocks : meth.locks = false) {κ : Int32 → mM → Prop} : ∀ (f : Nat) (l0 : Option Nat) (l1 : Int32) (l3 : Int32) (l4 : Option Nat) (l5 : Option Nat) (l6 : Int32) (l7 : Int32) (l8 : Int32) (M : mM), wX14_comeIn_34 κ f l0 l1 l3 l4 l5 l6 l7 l8 M → m_W p l e ({ frames := 3, cells := 0, slots := 0, locals := 64 } : Room) s m args below meth c G b0 (MQ below (va_Qi κ (m_B G b0) (fun q => b0 ≤ q)) args s 0 0 (fun q => b0 ≤ q)) 11 M 0 0 34 [(0, va_rf l0), (1, .int l1), (3, .int l3), (4, va_rf l4), (5, va_rf l5), (6, .int l6), (7, .int l7), (8, .int l8)] [] := by
  intro f
  induction f with
  | zero =>
    intro l0 l1 l3 l4 l5 l6 l7 l8 M h
    exact absurd h (by simp [wX14_comeIn_34])
  | succ f ih =>
    intro l0 l1 l3 l4 l5 l6 l7 l8 M h
    rw [wX14_comeIn_34] at h
    refine q_iload (pc := 34) C 8 7 dX14_comeIn_34 rfl ?_
    refine q_aload_n (pc := 36) C 0 0 dX14_comeIn_36 rfl rfl ?_
    refine q_gR (pc := 37) C h (T := TX14) rfl (by decide) (wk_u rfl wm_X14_comeIn uq_X14 (by decide +kernel)) (by decide +kernel) (fun _ h9 => h9) dX14_comeIn_37 (fun x1 h => ?_)
    obtain ⟨b4, fs9, hb4, hm9, h⟩ := h
    refine q_ci (pc := 40) (q_rV C (st := [.int l8]) (b := b4) (kJx4a65c_size_8abf5 l G b0 h) (cwV 0 C.2.2.2.2.1 gX14_comeIn_Jx4a65c_size_8abf5 rfl rfl rfl (by decide +kernel) ⟨Nat.le_of_ble_eq_true rfl, Nat.le_of_ble_eq_true rfl⟩) hm9 rfl rfl rfl (by first | exact Nat.le_of_ble_eq_true rfl | (simp [q_cat, q_catI, q_catJ, q_catR, q_catN]; done)) (by rw [hb4]; first | done | rfl) dX14_comeIn_40 ⟨(by first | omega | (dsimp only; omega)), (by first | omega | (dsimp only; omega))⟩) (fun x2 M3 h => ?_)
    refine q_icmp_ge (pc := 43) C 199 dX14_comeIn_43 (by decide) (fun c5 => ?_) (fun c5 => ?_)
    · have h := h.1 c5
      refine q_iload_n (pc := 199) C 3 2 dX14_comeIn_199 rfl rfl ?_
      refine q_if_eq (pc := 200) C 210 dX14_comeIn_200 (by decide) (fun c6 => ?_) (fun c6 => ?_)
      · have h := h.1 c6
        refine q_iload (pc := 210) C 7 6 dX14_comeIn_210 rfl ?_
        exact q_iret (pc := 212) C hr hlocks h dX14_comeIn_212 (by omega) (by omega)
      · have h := h.2 c6
        refine q_aload (pc := 203) C 5 4 dX14_comeIn_203 rfl ?_
        refine q_iload (pc := 205) C 6 5 dX14_comeIn_205 rfl ?_
        refine q_pN (pc := 207) C h .int (host := "LullabygateModel") (T := TX11) tyX11 tyX11_ok nmX11 rfl (by decide +kernel) rfl rfl rfl (by decide) (by decide +kernel) 1324 (by decide +kernel) (fun _ h9 => h9) rfl dX14_comeIn_207 (fun M7 h => ?_)
        refine q_iload (pc := 210) C 7 6 dX14_comeIn_210 rfl ?_
        exact q_iret (pc := 212) C hr hlocks h dX14_comeIn_212 (by omega) (by omega)
    · have h := h.2 c5
      refine q_aload_n (pc := 46) C 0 0 dX14_comeIn_46 rfl rfl ?_
      refine q_gR (pc := 47) C h (T := TX14) rfl (by decide) (wk_u rfl wm_X14_comeIn uq_X14 (by decide +kernel)) (by decide +kernel) (fun _ h9 => h9) dX14_comeIn_47 (fun x8 h => ?_)
      refine q_iload (pc := 50) C 8 7 dX14_comeIn_50 rfl ?_
      obtain ⟨b11, fs9, hb11, hm9, h⟩ := h
      refine q_cq (pc := 52) (q_rV C (st := []) (b := b11) (kJx4a65c_get_915e3 l G b0 h) (cwV 1 C.2.2.2.2.1 gX14_comeIn_Jx4a65c_get_915e3 rfl rfl rfl (by decide +kernel) ⟨Nat.le_of_ble_eq_true rfl, Nat.le_of_ble_eq_true rfl⟩) hm9 rfl rfl rfl (by first | exact Nat.le_of_ble_eq_true rfl | (simp [q_cat, q_catI, q_catJ, q_catR, q_catN]; done)) (by rw [hb11]; first | done | rfl) dX14_comeIn_52 ⟨(by first | omega | (dsimp only; omega)), (by first | omega | (dsimp only; omega))⟩) (fun x9 M10 h => ?_)
      refine q_cast (pc := 55) C h rfl rfl (by decide +kernel) dX14_comeIn_55 (fun h => ?_)
      refine q_astore (pc := 58) C 9 [(9, va_rf x9), (0, va_rf l0), (1, .int l1), (3, .int l3), (4, va_rf l4), (5, va_rf l5), (6, .int l6), (7, .int l7), (8, .int l8)] dX14_comeIn_58 (by decide) (by first | rfl | simp [q_cat, q_catI, q_catJ, q_catR, q_catN]) ?_
      refine q_aload (pc := 60) C 9 0 dX14_comeIn_60 rfl ?_
      refine q_gIN (pc := 62) C h (host := "LullabygateModel") (T := TX12) rfl (by decide) (by decide +kernel) 1524 (by decide +kernel) (fun _ h9 => h9) dX14_comeIn_62 (fun x12 h => ?_)
      refine q_iload_n (pc := 65) C 1 2 dX14_comeIn_65 rfl rfl ?_
      refine q_icmp_ne (pc := 66) C 193 dX14_comeIn_66 (by decide) (fun c13 => ?_) (fun c13 => ?_)
      · have h := h.2 c13
        refine q_widen (k2 := 0) (n2 := 0) (by omega) (by omega) ?_
        refine q_lv [1, 2, 3, 4, 5, 6, 7, 8] rfl ?_
        exact tX14_comeIn_193 C hr hlocks ih h
      · have h := h.1 c13
        refine q_aload (pc := 69) C 4 4 dX14_comeIn_69 rfl ?_
        refine q_gIN (pc := 71) C h (host := "LullabygateModel") (T := TX13) rfl (by decide) (by decide +kernel) 1480 (by decide +kernel) (fun _ h9 => h9) dX14_comeIn_71 (fun x14 h => ?_)
        refine q_iload (pc := 74) C 8 8 dX14_comeIn_74 rfl ?_
        refine q_ishr (pc := 76) C dX14_comeIn_76 ?_
        refine m_stk (st2 := .int (m_shr x14 l8) :: _) rfl ?_
        refine q_iconst (pc := 77) C 1 dX14_comeIn_77 (by decide) ?_
        refine q_iand (pc := 78) C dX14_comeIn_78 ?_
        refine q_if_ne (pc := 79) C 85 dX14_comeIn_79 (by decide) (fun c15 => ?_) (fun c15 => ?_)
        · have h := h.2 c15
          refine q_aload (pc := 85) C 9 0 dX14_comeIn_85 rfl ?_
          obtain ⟨b18, fs9, hb18, hm9, h⟩ := h
          refine q_ci (pc := 87) (q_rV C (st := []) (b := b18) (kX12_isNightmare l G b0 h) (cwV 0 C.2.2.2.2.1 gX14_comeIn_X12_isNightmare rfl rfl rfl (by decide +kernel) ⟨Nat.le_of_ble_eq_true rfl, Nat.le_of_ble_eq_true rfl⟩) hm9 rfl rfl rfl (by first | exact Nat.le_of_ble_eq_true rfl | (simp [q_cat, q_catI, q_catJ, q_catR, q_catN]; done)) (by rw [hb18]; first | done | rfl) dX14_comeIn_87 ⟨(by first | omega | (dsimp only; omega)), (by first | omega | (dsimp only; omega))⟩) (fun x16 M17 h => ?_)
          refine q_if_eq (pc := 90) C 107 dX14_comeIn_90 (by decide) (fun c19 => ?_) (fun c19 => ?_)
          · have h := h.1 c19
            refine q_widen (k2 := 0) (n2 := 0) (by omega) (by omega) ?_
            refine q_lv [1, 2, 3, 4, 5, 6, 7, 8, 0] rfl ?_
            exact tX14_comeIn_107 C hr hlocks ih h
          · have h := h.2 c19
            refine q_iload (pc := 93) C 6 6 dX14_comeIn_93 rfl ?_
            refine q_aload (pc := 95) C 5 5 dX14_comeIn_95 rfl ?_
            refine q_gIN (pc := 97) C h (host := "LullabygateModel") (T := TX11) rfl (by decide) (by decide +kernel) 1323 (by decide +kernel) (fun _ h9 => h9) dX14_comeIn_97 (fun x20 h => ?_)
            refine q_icmp_lt (pc := 100) C 107 dX14_comeIn_100 (by decide) (fun c21 => ?_) (fun c21 => ?_)
            · have h := h.1 c21
              refine q_widen (k2 := 0) (n2 := 0) (by omega) (by omega) ?_
              refine q_lv [1, 2, 3, 4, 5, 6, 7, 8, 0] rfl ?_
              exact tX14_comeIn_107 C hr hlocks ih h
            · have h := h.2 c21
              refine q_iconst (pc := 103) C 1 dX14_comeIn_103 (by decide) ?_
              refine q_goto (pc := 104) C 108 dX14_comeIn_104 (by decide) ?_
              refine q_widen (k2 := 0) (n2 := 0) (by omega) (by omega) ?_
              refine q_lv [1, 2, 3, 4, 5, 6, 7, 8, 0] rfl ?_
              exact tX14_comeIn_108 C hr hlocks ih h
        · have h := h.1 c15
          refine q_goto (pc := 82) C 193 dX14_comeIn_82 (by decide) ?_
          refine q_widen (k2 := 0) (n2 := 0) (by omega) (by omega) ?_
          refine q_lv [1, 2, 3, 4, 5, 6, 7, 8] rfl ?_
          exact tX14_comeIn_193 C hr hlocks ih h
set_option maxRecDepth 100000 in
set_option maxHeartbeats 4000000 in
theorem tX14_comeIn {p : Program} {l : Launch} {e : Env} {s : State} {m : MethodId} {args : Array Value} {below : List Frame} {meth : Method} {c : Code} {G : mG} {b0 : Nat} (C : m_C p s m args c cX14_comeIn 11 RX14 wsX14_comeIn G b0) (hr : meth.sig.returnType = (some .int)) (hlocks : meth.locks = false) {κ : Int32 → mM → Prop} {l0 : Option Nat} {l1 : Int32} {l2 : Int32} {l3 : Int32} {M : mM} (h : wX14_comeIn κ l0 l1 l2 l3 M) : m_W p l e ({ frames := 3, cells := 0, slots := 0, locals := 64 } : Room) s m args below meth c G b0 (MQ below (va_Qi κ (m_B G b0) (fun q => b0 ≤ q)) args s 0 0 (fun q => b0 ≤ q)) 11 M 0 0 0 [(0, va_rf l0), (1, .int l1), (2, .int l2), (3, .int l3)] [] := by
  unfold wX14_comeIn at h
  refine q_aload_n (pc := 0) C 0 0 dX14_comeIn_0 rfl rfl ?_
  refine q_gR (pc := 1) C h (T := TX14) rfl (by decide) (wk_u rfl wm_X14_comeIn uq_X14 (by decide +kernel)) (by decide +kernel) (fun _ h9 => h9) dX14_comeIn_1 (fun x1 h => ?_)
  refine q_iload_n (pc := 4) C 1 1 dX14_comeIn_4 rfl rfl ?_
  obtain ⟨b4, fs9, hb4, hm9, h⟩ := h
  refine q_cq (pc := 5) (q_rV C (st := []) (b := b4) (kJx4a65c_get_915e3 l G b0 h) (cwV 1 C.2.2.2.2.1 gX14_comeIn_Jx4a65c_get_915e3 rfl rfl rfl (by decide +kernel) ⟨Nat.le_of_ble_eq_true rfl, Nat.le_of_ble_eq_true rfl⟩) hm9 rfl rfl rfl (by first | exact Nat.le_of_ble_eq_true rfl | (simp [q_cat, q_catI, q_catJ, q_catR, q_catN]; done)) (by rw [hb4]; first | done | rfl) dX14_comeIn_5 ⟨(by first | omega | (dsimp only; omega)), (by first | omega | (dsimp only; omega))⟩) (fun x2 M3 h => ?_)
  refine q_cast (pc := 8) C h rfl rfl (by decide +kernel) dX14_comeIn_8 (fun h => ?_)
  refine q_astore (pc := 11) C 4 [(4, va_rf x2), (0, va_rf l0), (1, .int l1), (2, .int l2), (3, .int l3)] dX14_comeIn_11 (by decide) (by first | rfl | simp [q_cat, q_catI, q_catJ, q_catR, q_catN]) ?_
  refine q_aload_n (pc := 13) C 0 1 dX14_comeIn_13 rfl rfl ?_
  refine q_gR (pc := 14) C h (T := TX14) rfl (by decide) (wk_u rfl wm_X14_comeIn uq_X14 (by decide +kernel)) (by decide +kernel) (fun _ h9 => h9) dX14_comeIn_14 (fun x5 h => ?_)
  refine q_iload_n (pc := 17) C 2 3 dX14_comeIn_17 rfl rfl ?_
  refine q_aald (pc := 18) C h rfl dX14_comeIn_18 (fun x6 h => ?_)
  refine q_astore (pc := 19) C 5 [(5, va_rf x6), (4, va_rf x2), (0, va_rf l0), (1, .int l1), (2, .int l2), (3, .int l3)] dX14_comeIn_19 (by decide) (by first | rfl | simp [q_cat, q_catI, q_catJ, q_catR, q_catN]) ?_
  refine q_aload (pc := 21) C 5 0 dX14_comeIn_21 rfl ?_
  refine q_gIN (pc := 23) C h (host := "LullabygateModel") (T := TX11) rfl (by decide) (by decide +kernel) 1324 (by decide +kernel) (fun _ h9 => h9) dX14_comeIn_23 (fun x7 h => ?_)
  refine q_istore (pc := 26) C 6 [(6, .int x7), (5, va_rf x6), (4, va_rf x2), (0, va_rf l0), (1, .int l1), (2, .int l2), (3, .int l3)] dX14_comeIn_26 (by decide) (by first | rfl | simp [q_cat, q_catI, q_catJ, q_catR, q_catN]) ?_
  refine q_iconst (pc := 28) C 0 dX14_comeIn_28 (by decide) ?_
  refine q_istore (pc := 29) C 7 [(7, .int 0), (6, .int x7), (5, va_rf x6), (4, va_rf x2), (0, va_rf l0), (1, .int l1), (2, .int l2), (3, .int l3)] dX14_comeIn_29 (by decide) (by first | rfl | simp [q_cat, q_catI, q_catJ, q_catR, q_catN]) ?_
  refine q_iconst (pc := 31) C 0 dX14_comeIn_31 (by decide) ?_
  refine q_istore (pc := 32) C 8 [(8, .int 0), (7, .int 0), (6, .int x7), (5, va_rf x6), (4, va_rf x2), (0, va_rf l0), (1, .int l1), (2, .int l2), (3, .int l3)] dX14_comeIn_32 (by decide) (by first | rfl | simp [q_cat, q_catI, q_catJ, q_catR, q_catN]) ?_
  refine q_widen (k2 := 0) (n2 := 0) (by omega) (by omega) ?_
  refine q_lv [5, 6, 8, 4, 3, 2, 1, 0] rfl ?_
  obtain ⟨f9, h⟩ := h
  exact tX14_comeIn_34 C hr hlocks f9 _ _ _ _ _ _ _ _ _ h
set_option maxRecDepth 100000 in
set_option maxHeartbeats 4000000 in
theorem kX14_comeIn (l : Launch) (G : mG) (b0 : Nat) {b : Nat} {l1 : Int32} {l2 : Int32} {l3 : Int32} {M : mM} {κ : Int32 → mM → Prop} (h : wX14_comeIn κ (some b) l1 l2 l3 M) : Met l yX14_comeIn wsX14_comeIn ({ frames := 3, cells := 0, slots := 0, locals := 64 } : Room) (va_Pc [.ref b, .int l1, .int l2, .int l3] (m_Pre G b0 M)) (va_Qi κ (m_B G b0) (fun q => b0 ≤ q)) 0 0 (fun q => b0 ≤ q) := by
  refine m_met (cc := cX14_comeIn) (maxL := 11) (ret := (some .int)) (lv := [(0, va_rf (some b)), (1, .int l1), (2, .int l2), (3, .int l3)]) RX14 rfl (by decide +kernel) rfl (by first | exact Nat.le_of_ble_eq_true rfl | simp [lg_sl, q_cat, q_catI, q_catJ, q_catR, q_catN]) (by first | rfl | (simp [lv_args, q_cat, q_catI, q_catJ, q_catR, q_catN]; done) | (simp [lv_args, q_cat, q_catI, q_catJ, q_catR, q_catN]; rfl)) ?_
  intro p e s m args below meth c C hr hlocks hni
  exact tX14_comeIn C hr hlocks h
/-! X14_duty -/
set_option maxRecDepth 100000 in
set_option maxHeartbeats 4000000 in
theorem tX14_duty {p : Program} {l : Launch} {e : Env} {s : State} {m : MethodId} {args : Array Value} {below : List Frame} {meth : Method} {c : Code} {G : mG} {b0 : Nat} (C : m_C p s m args c cX14_duty 3 RX14 wsX14_duty G b0) (hr : meth.sig.returnType = (some .int)) (hlocks : meth.locks = false) {κ : Int32 → mM → Prop} {l0 : Option Nat} {l1 : Int32} {l2 : Option Nat} {M : mM} (h : wX14_duty κ l0 l1 l2 M) : m_W p l e ({ frames := 1, cells := 0, slots := 0, locals := 40 } : Room) s m args below meth c G b0 (MQ below (va_Qi κ (m_B G b0) (fun q => b0 ≤ q)) args s 0 0 (fun q => b0 ≤ q)) 3 M 0 0 0 [(0, va_rf l0), (1, .int l1), (2, va_rf l2)] [] := by
  unfold wX14_duty at h
  refine q_iconst (pc := 0) C 0 dX14_duty_0 (by decide) ?_
  refine q_iload_n (pc := 1) C 1 1 dX14_duty_1 rfl rfl ?_
  refine q_aload_n (pc := 2) C 2 2 dX14_duty_2 rfl rfl ?_
  refine q_gIN (pc := 3) C h (host := "LullabygateModel") (T := TX11) rfl (by decide) (by decide +kernel) 1321 (by decide +kernel) (fun _ h9 => h9) dX14_duty_3 (fun x1 h => ?_)
  refine q_isub (pc := 6) C dX14_duty_6 ?_
  refine q_mmax (pc := 7) C (by decide +kernel) (by decide +kernel) (by decide +kernel) (by decide +kernel) (Nat.le_of_ble_eq_true rfl) (by first | exact Nat.le_of_ble_eq_true rfl | (simp [q_cat, q_catI, q_catJ, q_catR, q_catN]; done) | (simp [q_cat, q_catI, q_catJ, q_catR, q_catN]; decide)) (by first | omega | (dsimp only; omega)) (by first | omega | (dsimp only; omega)) dX14_duty_7 ?_
  refine m_stk (st2 := .int (m_max 0 (l1 - x1)) :: _) rfl ?_
  refine q_aload_n (pc := 10) C 2 2 dX14_duty_10 rfl rfl ?_
  refine q_gIN (pc := 11) C h (host := "LullabygateModel") (T := TX11) rfl (by decide) (by decide +kernel) 1319 (by decide +kernel) (fun _ h9 => h9) dX14_duty_11 (fun x2 h => ?_)
  refine q_imul (pc := 14) C dX14_duty_14 ?_
  refine q_bipush (pc := 15) C 100 dX14_duty_15 (by decide) ?_
  refine q_idiv (pc := 17) C dX14_duty_17 (by decide) ?_
  exact q_iret (pc := 18) C hr hlocks h dX14_duty_18 (by omega) (by omega)
set_option maxRecDepth 100000 in
set_option maxHeartbeats 4000000 in
theorem kX14_duty (l : Launch) (G : mG) (b0 : Nat) {b : Nat} {l1 : Int32} {l2 : Option Nat} {M : mM} {κ : Int32 → mM → Prop} (h : wX14_duty κ (some b) l1 l2 M) : Met l yX14_duty wsX14_duty ({ frames := 1, cells := 0, slots := 0, locals := 40 } : Room) (va_Pc [.ref b, .int l1, va_rf l2] (m_Pre G b0 M)) (va_Qi κ (m_B G b0) (fun q => b0 ≤ q)) 0 0 (fun q => b0 ≤ q) := by
  refine m_met (cc := cX14_duty) (maxL := 3) (ret := (some .int)) (lv := [(0, va_rf (some b)), (1, .int l1), (2, va_rf l2)]) RX14 rfl (by decide +kernel) rfl (by first | exact Nat.le_of_ble_eq_true rfl | simp [lg_sl, q_cat, q_catI, q_catJ, q_catR, q_catN]) (by first | rfl | (simp [lv_args, q_cat, q_catI, q_catJ, q_catR, q_catN]; done) | (simp [lv_args, q_cat, q_catI, q_catJ, q_catR, q_catN]; rfl)) ?_
  intro p e s m args below meth c C hr hlocks hni
  exact tX14_duty C hr hlocks h
/-! X14_hide -/
set_option maxRecDepth 100000 in
set_option maxHeartbeats 4000000 in
theorem tX14_hide {p : Program} {l : Launch} {e : Env} {s : State} {m : MethodId} {args : Array Value} {below : List Frame} {meth : Method} {c : Code} {G : mG} {b0 : Nat} (C : m_C p s m args c cX14_hide 3 RX14 wsX14_hide G b0) (hr : meth.sig.returnType = none) (hlocks : meth.locks = false) {g : Nat → Nat} (hg : G.2.2 = g) {κ : mM → Prop} {l0 : Option Nat} {l1 : Int32} {l2 : Int32} {M : mM} (h : wX14_hide g κ l0 l1 l2 M) : m_W p l e ({ frames := 7, cells := 3, slots := 489, locals := 171 } : Room) s m args below meth c G b0 (MQ below (va_Qv κ (m_B G b0) (fun q => b0 ≤ q)) args s 3 489 (fun q => b0 ≤ q)) 3 M 0 0 0 [(0, va_rf l0), (1, .int l1), (2, .int l2)] [] := by
  unfold wX14_hide at h
  refine q_aload_n (pc := 0) C 0 0 dX14_hide_0 rfl rfl ?_
  refine q_gR (pc := 1) C h (T := TX14) rfl (by decide) (wk_u rfl wm_X14_hide uq_X14 (by decide +kernel)) (by decide +kernel) (fun _ h9 => h9) dX14_hide_1 (fun x1 h => ?_)
  obtain ⟨b4, fs9, hb4, hm9, h⟩ := h
  refine q_ci (pc := 4) (q_rV C (st := []) (b := b4) (kJx4a65c_size_8abf5 l G b0 h) (cwV 0 C.2.2.2.2.1 gX14_hide_Jx4a65c_size_8abf5 rfl rfl rfl (by decide +kernel) ⟨Nat.le_of_ble_eq_true rfl, Nat.le_of_ble_eq_true rfl⟩) hm9 rfl rfl rfl (by first | exact Nat.le_of_ble_eq_true rfl | (simp [q_cat, q_catI, q_catJ, q_catR, q_catN]; done)) (by rw [hb4]; first | done | rfl) dX14_hide_4 ⟨(by first | omega | (dsimp only; omega)), (by first | omega | (dsimp only; omega))⟩) (fun x2 M3 h => ?_)
  refine q_bipush (pc := 7) C 120 dX14_hide_7 (by decide) ?_
  refine q_icmp_ne (pc := 9) C 13 dX14_hide_9 (by decide) (fun c5 => ?_) (fun c5 => ?_)
  · have h := h.2 c5
    refine q_aload_n (pc := 13) C 0 0 dX14_hide_13 rfl rfl ?_
    refine q_gR (pc := 14) C h (T := TX14) rfl (by decide) (wk_u rfl wm_X14_hide uq_X14 (by decide +kernel)) (by decide +kernel) (fun _ h9 => h9) dX14_hide_14 (fun x6 h => ?_)
    refine q_iload_n (pc := 17) C 1 1 dX14_hide_17 rfl rfl ?_
    refine q_cq (pc := 18) (q_rS C (st := [va_rf x6]) (kJ6_valueOf_2dffe l G b0 hg h) (va_cwS 1 C.2.2.2.2.1 gX14_hide_J6_valueOf_2dffe rfl rfl rfl (by decide +kernel) ⟨Nat.le_of_ble_eq_true rfl, Nat.le_of_ble_eq_true rfl⟩) rfl (by first | exact Nat.le_of_ble_eq_true rfl | (simp [q_cat, q_catI, q_catJ, q_catR, q_catN]; done)) rfl dX14_hide_18 ⟨(by first | omega | (dsimp only; omega)), (by first | omega | (dsimp only; omega))⟩) (fun x7 M8 h => ?_)
    obtain ⟨b11, fs9, hb11, hm9, h⟩ := h
    refine q_ci (pc := 21) (q_rV C (st := []) (b := b11) (kJx4a65c_add_9ea2d l G b0 hg (by decide) h) (cwV 1 C.2.2.2.2.1 gX14_hide_Jx4a65c_add_9ea2d rfl rfl rfl (by decide +kernel) ⟨Nat.le_of_ble_eq_true rfl, Nat.le_of_ble_eq_true rfl⟩) hm9 rfl rfl rfl (by first | exact Nat.le_of_ble_eq_true rfl | (simp [q_cat, q_catI, q_catJ, q_catR, q_catN]; done)) (by rw [hb11]; first | done | rfl) dX14_hide_21 ⟨(by first | omega | (dsimp only; omega)), (by first | omega | (dsimp only; omega))⟩) (fun x9 M10 h => ?_)
    refine q_pop (pc := 24) C dX14_hide_24 rfl ?_
    refine q_aload_n (pc := 25) C 0 0 dX14_hide_25 rfl rfl ?_
    refine q_gR (pc := 26) C h (T := TX14) rfl (by decide) (wk_u rfl wm_X14_hide uq_X14 (by decide +kernel)) (by decide +kernel) (fun _ h9 => h9) dX14_hide_26 (fun x12 h => ?_)
    refine q_iload_n (pc := 29) C 2 2 dX14_hide_29 rfl rfl ?_
    refine q_cq (pc := 30) (q_rS C (st := [va_rf x12]) (kJ6_valueOf_2dffe l G b0 hg h) (va_cwS 1 C.2.2.2.2.1 gX14_hide_J6_valueOf_2dffe rfl rfl rfl (by decide +kernel) ⟨Nat.le_of_ble_eq_true rfl, Nat.le_of_ble_eq_true rfl⟩) rfl (by first | exact Nat.le_of_ble_eq_true rfl | (simp [q_cat, q_catI, q_catJ, q_catR, q_catN]; done)) rfl dX14_hide_30 ⟨(by first | omega | (dsimp only; omega)), (by first | omega | (dsimp only; omega))⟩) (fun x13 M14 h => ?_)
    obtain ⟨b17, fs9, hb17, hm9, h⟩ := h
    refine q_ci (pc := 33) (q_rV C (st := []) (b := b17) (kJx4a65c_add_9ea2d l G b0 hg (by decide) h) (cwV 1 C.2.2.2.2.1 gX14_hide_Jx4a65c_add_9ea2d rfl rfl rfl (by decide +kernel) ⟨Nat.le_of_ble_eq_true rfl, Nat.le_of_ble_eq_true rfl⟩) hm9 rfl rfl rfl (by first | exact Nat.le_of_ble_eq_true rfl | (simp [q_cat, q_catI, q_catJ, q_catR, q_catN]; done)) (by rw [hb17]; first | done | rfl) dX14_hide_33 ⟨(by first | omega | (dsimp only; omega)), (by first | omega | (dsimp only; omega))⟩) (fun x15 M16 h => ?_)
    refine q_pop (pc := 36) C dX14_hide_36 rfl ?_
    refine q_aload_n (pc := 37) C 0 0 dX14_hide_37 rfl rfl ?_
    refine q_gR (pc := 38) C h (T := TX14) rfl (by decide) (wk_u rfl wm_X14_hide uq_X14 (by decide +kernel)) (by decide +kernel) (fun _ h9 => h9) dX14_hide_38 (fun x18 h => ?_)
    refine q_aload_n (pc := 41) C 0 0 dX14_hide_41 rfl rfl ?_
    refine q_gI (pc := 42) C h (T := TX14) rfl (by decide) (wk_u rfl wm_X14_hide uq_X14 (by decide +kernel)) (by decide +kernel) (fun _ h9 => h9) dX14_hide_42 (fun x19 h => ?_)
    refine q_cq (pc := 45) (q_rS C (st := [va_rf x18]) (kJ6_valueOf_2dffe l G b0 hg h) (va_cwS 1 C.2.2.2.2.1 gX14_hide_J6_valueOf_2dffe rfl rfl rfl (by decide +kernel) ⟨Nat.le_of_ble_eq_true rfl, Nat.le_of_ble_eq_true rfl⟩) rfl (by first | exact Nat.le_of_ble_eq_true rfl | (simp [q_cat, q_catI, q_catJ, q_catR, q_catN]; done)) rfl dX14_hide_45 ⟨(by first | omega | (dsimp only; omega)), (by first | omega | (dsimp only; omega))⟩) (fun x20 M21 h => ?_)
    obtain ⟨b24, fs9, hb24, hm9, h⟩ := h
    refine q_ci (pc := 48) (q_rV C (st := []) (b := b24) (kJx4a65c_add_9ea2d l G b0 hg (by decide) h) (cwV 1 C.2.2.2.2.1 gX14_hide_Jx4a65c_add_9ea2d rfl rfl rfl (by decide +kernel) ⟨Nat.le_of_ble_eq_true rfl, Nat.le_of_ble_eq_true rfl⟩) hm9 rfl rfl rfl (by first | exact Nat.le_of_ble_eq_true rfl | (simp [q_cat, q_catI, q_catJ, q_catR, q_catN]; done)) (by rw [hb24]; first | done | rfl) dX14_hide_48 ⟨(by first | omega | (dsimp only; omega)), (by first | omega | (dsimp only; omega))⟩) (fun x22 M23 h => ?_)
    refine q_pop (pc := 51) C dX14_hide_51 rfl ?_
    exact q_vret (pc := 52) C hr hlocks h dX14_hide_52 (by omega) (by omega)
  · have h := h.1 c5
    exact q_vret (pc := 12) C hr hlocks h dX14_hide_12 (by omega) (by omega)
set_option maxRecDepth 100000 in
set_option maxHeartbeats 4000000 in
theorem kX14_hide (l : Launch) (G : mG) (b0 : Nat) {g : Nat → Nat} (hg : G.2.2 = g) {b : Nat} {l1 : Int32} {l2 : Int32} {M : mM} {κ : mM → Prop} (h : wX14_hide g κ (some b) l1 l2 M) : Met l yX14_hide wsX14_hide ({ frames := 7, cells := 3, slots := 489, locals := 171 } : Room) (va_Pc [.ref b, .int l1, .int l2] (m_Pre G b0 M)) (va_Qv κ (m_B G b0) (fun q => b0 ≤ q)) 3 489 (fun q => b0 ≤ q) := by
  refine m_met (cc := cX14_hide) (maxL := 3) (ret := none) (lv := [(0, va_rf (some b)), (1, .int l1), (2, .int l2)]) RX14 rfl (by decide +kernel) rfl (by first | exact Nat.le_of_ble_eq_true rfl | simp [lg_sl, q_cat, q_catI, q_catJ, q_catR, q_catN]) (by first | rfl | (simp [lv_args, q_cat, q_catI, q_catJ, q_catR, q_catN]; done) | (simp [lv_args, q_cat, q_catI, q_catJ, q_catR, q_catN]; rfl)) ?_
  intro p e s m args below meth c C hr hlocks hni
  exact tX14_hide C hr hlocks hg h
/-! X14_comeThrough -/
set_option maxRecDepth 100000 in
set_option maxHeartbeats 4000000 in
theorem tX14_comeThrough_326 {p : Program} {l : Launch} {e : Env} {s : State} {m : MethodId} {args : Array Value} {below : List Frame} {meth : Method} {c : Code} {G : mG} {b0 : Nat} (C : m_C p s m args c cX14_comeThrough 10 RX14 wsX14_comeThrough G b0) (hr : meth.sig.returnType = (some .int)) (hlocks : meth.locks = false) {g : Nat → Nat} (hg : G.2.2 = g) {κ : Int32 → mM → Prop} {R257 : Nat → Nat → Option Nat → Int32 → Option Nat → Int32 → Int32 → Int32 → Int32 → mM → Prop} (hR257 : ∀ (k9 n9 : Nat) (l0 : Option Nat) (l1 : Int32) (l3 : Option Nat) (l4 : Int32) (l6 : Int32) (l7 : Int32) (l8 : Int32) (M : mM), R257 k9 n9 l0 l1 l3 l4 l6 l7 l8 M → m_W p l e ({ frames := 8, cells := 72, slots := 11736, locals := 193 } : Room) s m args below meth c G b0 (MQ below (va_Qi κ (m_B G b0) (fun q => b0 ≤ q)) args s 72 11736 (fun q => b0 ≤ q)) 10 M k9 n9 257 [(0, va_rf l0), (1, .int l1), (3, va_rf l3), (4, .int l4), (6, .int l6), (7, .int l7), (8, .int l8)] []) {k9 n9 : Nat} {l0 : Option Nat} {l1 : Int32} {l3 : Option Nat} {l4 : Int32} {l6 : Int32} {l7 : Int32} {l8 : Int32} {M : mM} (h : wX14_comeThrough_326 g κ R257 k9 n9 l0 l1 l3 l4 l6 l7 l8 M) : m_W p l e ({ frames := 8, cells := 72, slots := 11736, locals := 193 } : Room) s m args below meth c G b0 (MQ below (va_Qi κ (m_B G b0) (fun q => b0 ≤ q)) args s 72 11736 (fun q => b0 ≤ q)) 10 M k9 n9 326 [(0, va_rf l0), (1, .int l1), (3, va_rf l3), (4, .int l4), (6, .int l6), (7, .int l7), (8, .int l8)] [] := by
  unfold wX14_comeThrough_326 at h
  obtain ⟨hbk, h⟩ := h
  refine q_iinc (pc := 326) C 8 6 (l8 + 1) [(8, .int (l8 + 1)), (0, va_rf l0), (1, .int l1), (3, va_rf l3), (4, .int l4), (6, .int l6), (7, .int l7)] dX14_comeThrough_326 rfl (by rfl) (by decide) (by first | rfl | simp [q_cat, q_catI, q_catJ, q_catR, q_catN]) ?_
  refine q_goto (pc := 329) C 257 dX14_comeThrough_329 (by decide) ?_
  refine q_lv [1, 2, 3, 4, 5, 6, 0] rfl ?_
  exact hR257 _ _ _ _ _ _ _ _ _ _ h
set_option maxRecDepth 100000 in
set_option maxHeartbeats 4000000 in
theorem tX14_comeThrough_257 {p : Program} {l : Launch} {e : Env} {s : State} {m : MethodId} {args : Array Value} {below : List Frame} {meth : Method} {c : Code} {G : mG} {b0 : Nat} (C : m_C p s m args c cX14_comeThrough 10 RX14 wsX14_comeThrough G b0) (hr : meth.sig.returnType = (some .int)) (hlocks : meth.locks = false) {g : Nat → Nat} (hg : G.2.2 = g) {κ : Int32 → mM → Prop} : ∀ (f : Nat) (k9 n9 : Nat) (l0 : Option Nat) (l1 : Int32) (l3 : Option Nat) (l4 : Int32) (l6 : Int32) (l7 : Int32) (l8 : Int32) (M : mM), wX14_comeThrough_257 g κ f k9 n9 l0 l1 l3 l4 l6 l7 l8 M → m_W p l e ({ frames := 8, cells := 72, slots := 11736, locals := 193 } : Room) s m args below meth c G b0 (MQ below (va_Qi κ (m_B G b0) (fun q => b0 ≤ q)) args s 72 11736 (fun q => b0 ≤ q)) 10 M k9 n9 257 [(0, va_rf l0), (1, .int l1), (3, va_rf l3), (4, .int l4), (6, .int l6), (7, .int l7), (8, .int l8)] [] := by
  intro f
  induction f with
  | zero =>
    intro k9 n9 l0 l1 l3 l4 l6 l7 l8 M h
    exact absurd h (by simp [wX14_comeThrough_257])
  | succ f ih =>
    intro k9 n9 l0 l1 l3 l4 l6 l7 l8 M h
    rw [wX14_comeThrough_257] at h
    obtain ⟨hbk, h⟩ := h
    refine q_iload (pc := 257) C 8 6 dX14_comeThrough_257 rfl ?_
    refine q_aload_n (pc := 259) C 0 0 dX14_comeThrough_259 rfl rfl ?_
    refine q_gR (pc := 260) C h (T := TX14) rfl (by decide) (wk_u bm_X14_comeThrough wm_X14_comeThrough uq_X14 (by decide +kernel)) (by decide +kernel) (fun _ h9 => h9) dX14_comeThrough_260 (fun x1 h => ?_)
    obtain ⟨b4, fs9, hb4, hm9, h⟩ := h
    refine q_ci (pc := 263) (q_rV C (st := [.int l8]) (b := b4) (kJx4a65c_size_8abf5 l G b0 h) (cwV 0 C.2.2.2.2.1 gX14_comeThrough_Jx4a65c_size_8abf5 rfl rfl rfl (by decide +kernel) ⟨Nat.le_of_ble_eq_true rfl, Nat.le_of_ble_eq_true rfl⟩) hm9 rfl rfl rfl (by first | exact Nat.le_of_ble_eq_true rfl | (simp [q_cat, q_catI, q_catJ, q_catR, q_catN]; done)) (by rw [hb4]; first | done | rfl) dX14_comeThrough_263 ⟨(by first | omega | (dsimp only; omega)), (by first | omega | (dsimp only; omega))⟩) (fun x2 M3 h => ?_)
    refine q_icmp_ge (pc := 266) C 332 dX14_comeThrough_266 (by decide) (fun c5 => ?_) (fun c5 => ?_)
    · have h := h.1 c5
      refine q_aload_n (pc := 332) C 3 2 dX14_comeThrough_332 rfl rfl ?_
      refine q_iload (pc := 333) C 4 3 dX14_comeThrough_333 rfl ?_
      refine q_pN (pc := 335) C h .int (host := "LullabygateModel") (T := TX13) tyX13 tyX13_ok nmX13 rfl (by decide +kernel) rfl rfl rfl (by decide) (by decide +kernel) 1474 (by decide +kernel) (fun _ h9 => h9) rfl dX14_comeThrough_335 (fun M6 h => ?_)
      refine q_aload_n (pc := 338) C 3 2 dX14_comeThrough_338 rfl rfl ?_
      refine q_iconst (pc := 339) C (-1) dX14_comeThrough_339 (by decide) ?_
      refine q_pN (pc := 340) C h .int (host := "LullabygateModel") (T := TX13) tyX13 tyX13_ok nmX13 rfl (by decide +kernel) rfl rfl rfl (by decide) (by decide +kernel) 1485 (by decide +kernel) (fun _ h9 => h9) rfl dX14_comeThrough_340 (fun M7 h => ?_)
      refine q_iload (pc := 343) C 6 4 dX14_comeThrough_343 rfl ?_
      obtain ⟨hbk, h⟩ := h
      exact q_iret (pc := 345) C hr hlocks h dX14_comeThrough_345 (by omega) (by omega)
    · have h := h.2 c5
      refine q_aload_n (pc := 269) C 0 0 dX14_comeThrough_269 rfl rfl ?_
      refine q_gR (pc := 270) C h (T := TX14) rfl (by decide) (wk_u bm_X14_comeThrough wm_X14_comeThrough uq_X14 (by decide +kernel)) (by decide +kernel) (fun _ h9 => h9) dX14_comeThrough_270 (fun x8 h => ?_)
      refine q_iload (pc := 273) C 8 6 dX14_comeThrough_273 rfl ?_
      obtain ⟨b11, fs9, hb11, hm9, h⟩ := h
      refine q_cq (pc := 275) (q_rV C (st := []) (b := b11) (kJx4a65c_get_915e3 l G b0 h) (cwV 1 C.2.2.2.2.1 gX14_comeThrough_Jx4a65c_get_915e3 rfl rfl rfl (by decide +kernel) ⟨Nat.le_of_ble_eq_true rfl, Nat.le_of_ble_eq_true rfl⟩) hm9 rfl rfl rfl (by first | exact Nat.le_of_ble_eq_true rfl | (simp [q_cat, q_catI, q_catJ, q_catR, q_catN]; done)) (by rw [hb11]; first | done | rfl) dX14_comeThrough_275 ⟨(by first | omega | (dsimp only; omega)), (by first | omega | (dsimp only; omega))⟩) (fun x9 M10 h => ?_)
      refine q_cast (pc := 278) C h rfl rfl (by decide +kernel) dX14_comeThrough_278 (fun h => ?_)
      refine q_astore (pc := 281) C 9 [(9, va_rf x9), (0, va_rf l0), (1, .int l1), (3, va_rf l3), (4, .int l4), (6, .int l6), (7, .int l7), (8, .int l8)] dX14_comeThrough_281 (by decide) (by first | rfl | simp [q_cat, q_catI, q_catJ, q_catR, q_catN]) ?_
      refine q_aload (pc := 283) C 9 0 dX14_comeThrough_283 rfl ?_
      refine q_gIN (pc := 285) C h (host := "LullabygateModel") (T := TX12) rfl (by decide) (by decide +kernel) 1524 (by decide +kernel) (fun _ h9 => h9) dX14_comeThrough_285 (fun x12 h => ?_)
      refine q_iload_n (pc := 288) C 1 2 dX14_comeThrough_288 rfl rfl ?_
      refine q_icmp_ne (pc := 289) C 326 dX14_comeThrough_289 (by decide) (fun c13 => ?_) (fun c13 => ?_)
      · have h := h.2 c13
        refine q_lv [1, 2, 3, 4, 5, 6, 7] rfl ?_
        exact tX14_comeThrough_326 C hr hlocks hg ih h
      · have h := h.1 c13
        refine q_aload_n (pc := 292) C 3 3 dX14_comeThrough_292 rfl rfl ?_
        refine q_gIN (pc := 293) C h (host := "LullabygateModel") (T := TX13) rfl (by decide) (by decide +kernel) 1480 (by decide +kernel) (fun _ h9 => h9) dX14_comeThrough_293 (fun x14 h => ?_)
        refine q_iload (pc := 296) C 8 7 dX14_comeThrough_296 rfl ?_
        refine q_ishr (pc := 298) C dX14_comeThrough_298 ?_
        refine m_stk (st2 := .int (m_shr x14 l8) :: _) rfl ?_
        refine q_iconst (pc := 299) C 1 dX14_comeThrough_299 (by decide) ?_
        refine q_iand (pc := 300) C dX14_comeThrough_300 ?_
        refine q_iconst (pc := 301) C 1 dX14_comeThrough_301 (by decide) ?_
        refine q_icmp_ne (pc := 302) C 326 dX14_comeThrough_302 (by decide) (fun c15 => ?_) (fun c15 => ?_)
        · have h := h.2 c15
          refine q_lv [1, 2, 3, 4, 5, 6, 7] rfl ?_
          exact tX14_comeThrough_326 C hr hlocks hg ih h
        · have h := h.1 c15
          refine q_iload (pc := 305) C 7 6 dX14_comeThrough_305 rfl ?_
          refine q_aload_n (pc := 307) C 0 1 dX14_comeThrough_307 rfl rfl ?_
          refine q_gR (pc := 308) C h (T := TX14) rfl (by decide) (wk_u bm_X14_comeThrough wm_X14_comeThrough uq_X14 (by decide +kernel)) (by decide +kernel) (fun _ h9 => h9) dX14_comeThrough_308 (fun x16 h => ?_)
          refine q_iload (pc := 311) C 4 4 dX14_comeThrough_311 rfl ?_
          refine q_aald (pc := 313) C h rfl dX14_comeThrough_313 (fun x17 h => ?_)
          refine q_gIN (pc := 314) C h (host := "LullabygateModel") (T := TX11) rfl (by decide) (by decide +kernel) 1321 (by decide +kernel) (fun _ h9 => h9) dX14_comeThrough_314 (fun x18 h => ?_)
          refine q_icmp_gt (pc := 317) C 326 dX14_comeThrough_317 (by decide) (fun c19 => ?_) (fun c19 => ?_)
          · have h := h.1 c19
            refine q_lv [1, 2, 3, 4, 5, 6, 7] rfl ?_
            exact tX14_comeThrough_326 C hr hlocks hg ih h
          · have h := h.2 c19
            refine q_aload (pc := 320) C 9 0 dX14_comeThrough_320 rfl ?_
            refine q_iconst (pc := 322) C 2 dX14_comeThrough_322 (by decide) ?_
            refine q_pN (pc := 323) C h .int (host := "LullabygateModel") (T := TX12) tyX12 tyX12_ok nmX12 rfl (by decide +kernel) rfl rfl rfl (by decide) (by decide +kernel) 1523 (by decide +kernel) (fun _ h9 => h9) rfl dX14_comeThrough_323 (fun M20 h => ?_)
            refine q_lv [1, 2, 3, 4, 5, 6, 7] rfl ?_
            exact tX14_comeThrough_326 C hr hlocks hg ih h
set_option maxRecDepth 100000 in
set_option maxHeartbeats 4000000 in
theorem tX14_comeThrough_210 {p : Program} {l : Launch} {e : Env} {s : State} {m : MethodId} {args : Array Value} {below : List Frame} {meth : Method} {c : Code} {G : mG} {b0 : Nat} (C : m_C p s m args c cX14_comeThrough 10 RX14 wsX14_comeThrough G b0) (hr : meth.sig.returnType = (some .int)) (hlocks : meth.locks = false) {g : Nat → Nat} (hg : G.2.2 = g) {κ : Int32 → mM → Prop} {R87 : Nat → Nat → Option Nat → Int32 → Option Nat → Int32 → Int32 → Int32 → Int32 → mM → Prop} (hR87 : ∀ (k9 n9 : Nat) (l0 : Option Nat) (l1 : Int32) (l3 : Option Nat) (l4 : Int32) (l5 : Int32) (l6 : Int32) (l7 : Int32) (M : mM), R87 k9 n9 l0 l1 l3 l4 l5 l6 l7 M → m_W p l e ({ frames := 8, cells := 72, slots := 11736, locals := 193 } : Room) s m args below meth c G b0 (MQ below (va_Qi κ (m_B G b0) (fun q => b0 ≤ q)) args s 72 11736 (fun q => b0 ≤ q)) 10 M k9 n9 87 [(0, va_rf l0), (1, .int l1), (3, va_rf l3), (4, .int l4), (5, .int l5), (6, .int l6), (7, .int l7)] []) {k9 n9 : Nat} {l0 : Option Nat} {l1 : Int32} {l3 : Option Nat} {l4 : Int32} {l5 : Int32} {l6 : Int32} {l7 : Int32} {M : mM} (h : wX14_comeThrough_210 g κ R87 k9 n9 l0 l1 l3 l4 l5 l6 l7 M) : m_W p l e ({ frames := 8, cells := 72, slots := 11736, locals := 193 } : Room) s m args below meth c G b0 (MQ below (va_Qi κ (m_B G b0) (fun q => b0 ≤ q)) args s 72 11736 (fun q => b0 ≤ q)) 10 M k9 n9 210 [(0, va_rf l0), (1, .int l1), (3, va_rf l3), (4, .int l4), (5, .int l5), (6, .int l6), (7, .int l7)] [] := by
  unfold wX14_comeThrough_210 at h
  obtain ⟨hbk, h⟩ := h
  refine q_iinc (pc := 210) C 7 6 (l7 + 1) [(7, .int (l7 + 1)), (0, va_rf l0), (1, .int l1), (3, va_rf l3), (4, .int l4), (5, .int l5), (6, .int l6)] dX14_comeThrough_210 rfl (by rfl) (by decide) (by first | rfl | simp [q_cat, q_catI, q_catJ, q_catR, q_catN]) ?_
  refine q_goto (pc := 213) C 87 dX14_comeThrough_213 (by decide) ?_
  refine q_lv [1, 2, 3, 4, 5, 6, 0] rfl ?_
  exact hR87 _ _ _ _ _ _ _ _ _ _ h
set_option maxRecDepth 100000 in
set_option maxHeartbeats 4000000 in
theorem tX14_comeThrough_160 {p : Program} {l : Launch} {e : Env} {s : State} {m : MethodId} {args : Array Value} {below : List Frame} {meth : Method} {c : Code} {G : mG} {b0 : Nat} (C : m_C p s m args c cX14_comeThrough 10 RX14 wsX14_comeThrough G b0) (hr : meth.sig.returnType = (some .int)) (hlocks : meth.locks = false) {g : Nat → Nat} (hg : G.2.2 = g) {κ : Int32 → mM → Prop} {R87 : Nat → Nat → Option Nat → Int32 → Option Nat → Int32 → Int32 → Int32 → Int32 → mM → Prop} (hR87 : ∀ (k9 n9 : Nat) (l0 : Option Nat) (l1 : Int32) (l3 : Option Nat) (l4 : Int32) (l5 : Int32) (l6 : Int32) (l7 : Int32) (M : mM), R87 k9 n9 l0 l1 l3 l4 l5 l6 l7 M → m_W p l e ({ frames := 8, cells := 72, slots := 11736, locals := 193 } : Room) s m args below meth c G b0 (MQ below (va_Qi κ (m_B G b0) (fun q => b0 ≤ q)) args s 72 11736 (fun q => b0 ≤ q)) 10 M k9 n9 87 [(0, va_rf l0), (1, .int l1), (3, va_rf l3), (4, .int l4), (5, .int l5), (6, .int l6), (7, .int l7)] []) {k9 n9 : Nat} {l0 : Option Nat} {l1 : Int32} {l3 : Option Nat} {l4 : Int32} {l5 : Int32} {l6 : Int32} {l7 : Int32} {l8 : Option Nat} {s0 : Int32} {s1 : Option Nat} {M : mM} (h : wX14_comeThrough_160 g κ R87 k9 n9 l0 l1 l3 l4 l5 l6 l7 l8 s0 s1 M) : m_W p l e ({ frames := 8, cells := 72, slots := 11736, locals := 193 } : Room) s m args below meth c G b0 (MQ below (va_Qi κ (m_B G b0) (fun q => b0 ≤ q)) args s 72 11736 (fun q => b0 ≤ q)) 10 M k9 n9 160 [(0, va_rf l0), (1, .int l1), (3, va_rf l3), (4, .int l4), (5, .int l5), (6, .int l6), (7, .int l7), (8, va_rf l8)] [.int s0, va_rf s1] := by
  unfold wX14_comeThrough_160 at h
  obtain ⟨hbk, h⟩ := h
  refine q_pN (pc := 160) C h .int (host := "LullabygateModel") (T := TX12) tyX12 tyX12_ok nmX12 rfl (by decide +kernel) rfl rfl rfl (by decide) (by decide +kernel) 1523 (by decide +kernel) (fun _ h9 => h9) rfl dX14_comeThrough_160 (fun M1 h => ?_)
  refine q_aload (pc := 163) C 8 7 dX14_comeThrough_163 rfl ?_
  refine q_iload_n (pc := 165) C 1 1 dX14_comeThrough_165 rfl rfl ?_
  refine q_pN (pc := 166) C h .int (host := "LullabygateModel") (T := TX12) tyX12 tyX12_ok nmX12 rfl (by decide +kernel) rfl rfl rfl (by decide) (by decide +kernel) 1526 (by decide +kernel) (fun _ h9 => h9) rfl dX14_comeThrough_166 (fun M2 h => ?_)
  refine q_iload (pc := 169) C 5 4 dX14_comeThrough_169 rfl ?_
  refine q_if_ne (pc := 171) C 177 dX14_comeThrough_171 (by decide) (fun c3 => ?_) (fun c3 => ?_)
  · have h := h.2 c3
    refine q_aload (pc := 177) C 8 7 dX14_comeThrough_177 rfl ?_
    refine q_bipush (pc := 179) C 100 dX14_comeThrough_179 (by decide) ?_
    refine q_iload (pc := 181) C 4 3 dX14_comeThrough_181 rfl ?_
    refine q_iadd (pc := 183) C dX14_comeThrough_183 ?_
    refine q_pN (pc := 184) C h .int (host := "LullabygateModel") (T := TX12) tyX12 tyX12_ok nmX12 rfl (by decide +kernel) rfl rfl rfl (by decide) (by decide +kernel) 1524 (by decide +kernel) (fun _ h9 => h9) rfl dX14_comeThrough_184 (fun M4 h => ?_)
    refine q_aload_n (pc := 187) C 0 0 dX14_comeThrough_187 rfl rfl ?_
    refine q_gR (pc := 188) C h (T := TX14) rfl (by decide) (wk_u bm_X14_comeThrough wm_X14_comeThrough uq_X14 (by decide +kernel)) (by decide +kernel) (fun _ h9 => h9) dX14_comeThrough_188 (fun x5 h => ?_)
    refine q_iload (pc := 191) C 4 3 dX14_comeThrough_191 rfl ?_
    refine q_aald (pc := 193) C h rfl dX14_comeThrough_193 (fun x6 h => ?_)
    refine q_dup (pc := 194) C dX14_comeThrough_194 (q_cat _) ?_
    refine q_gIN (pc := 195) C h (host := "LullabygateModel") (T := TX11) rfl (by decide) (by decide +kernel) 1326 (by decide +kernel) (fun _ h9 => h9) dX14_comeThrough_195 (fun x7 h => ?_)
    refine q_aload (pc := 198) C 8 7 dX14_comeThrough_198 rfl ?_
    refine q_gIN (pc := 200) C h (host := "LullabygateModel") (T := TX12) rfl (by decide) (by decide +kernel) 1520 (by decide +kernel) (fun _ h9 => h9) dX14_comeThrough_200 (fun x8 h => ?_)
    refine q_iadd (pc := 203) C dX14_comeThrough_203 ?_
    refine q_pN (pc := 204) C h .int (host := "LullabygateModel") (T := TX11) tyX11 tyX11_ok nmX11 rfl (by decide +kernel) rfl rfl rfl (by decide) (by decide +kernel) 1326 (by decide +kernel) (fun _ h9 => h9) rfl dX14_comeThrough_204 (fun M9 h => ?_)
    refine q_iinc (pc := 207) C 6 5 (l6 + 1) [(6, .int (l6 + 1)), (0, va_rf l0), (1, .int l1), (3, va_rf l3), (4, .int l4), (5, .int l5), (7, .int l7), (8, va_rf l8)] dX14_comeThrough_207 rfl (by rfl) (by decide) (by first | rfl | simp [q_cat, q_catI, q_catJ, q_catR, q_catN]) ?_
    refine q_lv [1, 2, 3, 4, 5, 0, 6] rfl ?_
    exact tX14_comeThrough_210 C hr hlocks hg hR87 h
  · have h := h.1 c3
    refine q_goto (pc := 174) C 210 dX14_comeThrough_174 (by decide) ?_
    refine q_lv [0, 1, 2, 3, 4, 5, 6] rfl ?_
    exact tX14_comeThrough_210 C hr hlocks hg hR87 h
set_option maxRecDepth 100000 in
set_option maxHeartbeats 4000000 in
theorem tX14_comeThrough_87 {p : Program} {l : Launch} {e : Env} {s : State} {m : MethodId} {args : Array Value} {below : List Frame} {meth : Method} {c : Code} {G : mG} {b0 : Nat} (C : m_C p s m args c cX14_comeThrough 10 RX14 wsX14_comeThrough G b0) (hr : meth.sig.returnType = (some .int)) (hlocks : meth.locks = false) {g : Nat → Nat} (hg : G.2.2 = g) {κ : Int32 → mM → Prop} : ∀ (f : Nat) (k9 n9 : Nat) (l0 : Option Nat) (l1 : Int32) (l3 : Option Nat) (l4 : Int32) (l5 : Int32) (l6 : Int32) (l7 : Int32) (M : mM), wX14_comeThrough_87 g κ f k9 n9 l0 l1 l3 l4 l5 l6 l7 M → m_W p l e ({ frames := 8, cells := 72, slots := 11736, locals := 193 } : Room) s m args below meth c G b0 (MQ below (va_Qi κ (m_B G b0) (fun q => b0 ≤ q)) args s 72 11736 (fun q => b0 ≤ q)) 10 M k9 n9 87 [(0, va_rf l0), (1, .int l1), (3, va_rf l3), (4, .int l4), (5, .int l5), (6, .int l6), (7, .int l7)] [] := by
  intro f
  induction f with
  | zero =>
    intro k9 n9 l0 l1 l3 l4 l5 l6 l7 M h
    exact absurd h (by simp [wX14_comeThrough_87])
  | succ f ih =>
    intro k9 n9 l0 l1 l3 l4 l5 l6 l7 M h
    rw [wX14_comeThrough_87] at h
    obtain ⟨hbk, h⟩ := h
    refine q_iload (pc := 87) C 7 6 dX14_comeThrough_87 rfl ?_
    refine q_aload_n (pc := 89) C 0 0 dX14_comeThrough_89 rfl rfl ?_
    refine q_gR (pc := 90) C h (T := TX14) rfl (by decide) (wk_u bm_X14_comeThrough wm_X14_comeThrough uq_X14 (by decide +kernel)) (by decide +kernel) (fun _ h9 => h9) dX14_comeThrough_90 (fun x1 h => ?_)
    obtain ⟨b4, fs9, hb4, hm9, h⟩ := h
    refine q_ci (pc := 93) (q_rV C (st := [.int l7]) (b := b4) (kJx4a65c_size_8abf5 l G b0 h) (cwV 0 C.2.2.2.2.1 gX14_comeThrough_Jx4a65c_size_8abf5 rfl rfl rfl (by decide +kernel) ⟨Nat.le_of_ble_eq_true rfl, Nat.le_of_ble_eq_true rfl⟩) hm9 rfl rfl rfl (by first | exact Nat.le_of_ble_eq_true rfl | (simp [q_cat, q_catI, q_catJ, q_catR, q_catN]; done)) (by rw [hb4]; first | done | rfl) dX14_comeThrough_93 ⟨(by first | omega | (dsimp only; omega)), (by first | omega | (dsimp only; omega))⟩) (fun x2 M3 h => ?_)
    refine q_icmp_ge (pc := 96) C 216 dX14_comeThrough_96 (by decide) (fun c5 => ?_) (fun c5 => ?_)
    · have h := h.1 c5
      refine q_aload_n (pc := 216) C 0 0 dX14_comeThrough_216 rfl rfl ?_
      refine q_iload_n (pc := 217) C 1 1 dX14_comeThrough_217 rfl rfl ?_
      refine q_iload (pc := 218) C 4 3 dX14_comeThrough_218 rfl ?_
      refine q_iconst (pc := 220) C 1 dX14_comeThrough_220 (by decide) ?_
      obtain ⟨b8, fs9, hb8, hm9, h⟩ := h
      refine q_ci (pc := 221) (q_rV C (st := []) (b := b8) (kX14_comeIn l G b0 h) (cwV 3 C.2.2.2.2.1 gX14_comeThrough_X14_comeIn rfl rfl rfl (by decide +kernel) ⟨Nat.le_of_ble_eq_true rfl, Nat.le_of_ble_eq_true rfl⟩) hm9 rfl rfl rfl (by first | exact Nat.le_of_ble_eq_true rfl | (simp [q_cat, q_catI, q_catJ, q_catR, q_catN]; done)) (by rw [hb8]; first | done | rfl) dX14_comeThrough_221 ⟨(by first | omega | (dsimp only; omega)), (by first | omega | (dsimp only; omega))⟩) (fun x6 M7 h => ?_)
      refine q_istore (pc := 224) C 7 [(7, .int x6), (0, va_rf l0), (1, .int l1), (3, va_rf l3), (4, .int l4), (5, .int l5), (6, .int l6)] dX14_comeThrough_224 (by decide) (by first | rfl | simp [q_cat, q_catI, q_catJ, q_catR, q_catN]) ?_
      refine q_aload_n (pc := 226) C 0 1 dX14_comeThrough_226 rfl rfl ?_
      refine q_gR (pc := 227) C h (T := TX14) rfl (by decide) (wk_u bm_X14_comeThrough wm_X14_comeThrough uq_X14 (by decide +kernel)) (by decide +kernel) (fun _ h9 => h9) dX14_comeThrough_227 (fun x9 h => ?_)
      refine q_iload (pc := 230) C 4 4 dX14_comeThrough_230 rfl ?_
      refine q_aald (pc := 232) C h rfl dX14_comeThrough_232 (fun x10 h => ?_)
      refine q_dup (pc := 233) C dX14_comeThrough_233 (q_cat _) ?_
      refine q_gIN (pc := 234) C h (host := "LullabygateModel") (T := TX11) rfl (by decide) (by decide +kernel) 1325 (by decide +kernel) (fun _ h9 => h9) dX14_comeThrough_234 (fun x11 h => ?_)
      refine q_aload_n (pc := 237) C 0 1 dX14_comeThrough_237 rfl rfl ?_
      refine q_iload (pc := 238) C 7 0 dX14_comeThrough_238 rfl ?_
      refine q_aload_n (pc := 240) C 0 1 dX14_comeThrough_240 rfl rfl ?_
      refine q_gR (pc := 241) C h (T := TX14) rfl (by decide) (wk_u bm_X14_comeThrough wm_X14_comeThrough uq_X14 (by decide +kernel)) (by decide +kernel) (fun _ h9 => h9) dX14_comeThrough_241 (fun x12 h => ?_)
      refine q_iload (pc := 244) C 4 4 dX14_comeThrough_244 rfl ?_
      refine q_aald (pc := 246) C h rfl dX14_comeThrough_246 (fun x13 h => ?_)
      obtain ⟨b16, fs9, hb16, hm9, h⟩ := h
      refine q_ci (pc := 247) (q_rV C (st := [.int x11, va_rf x10]) (b := b16) (kX14_duty l G b0 h) (cwV 2 C.2.2.2.2.1 gX14_comeThrough_X14_duty rfl rfl rfl (by decide +kernel) ⟨Nat.le_of_ble_eq_true rfl, Nat.le_of_ble_eq_true rfl⟩) hm9 rfl rfl rfl (by first | exact Nat.le_of_ble_eq_true rfl | (simp [q_cat, q_catI, q_catJ, q_catR, q_catN]; done)) (by rw [hb16]; first | done | rfl) dX14_comeThrough_247 ⟨(by first | omega | (dsimp only; omega)), (by first | omega | (dsimp only; omega))⟩) (fun x14 M15 h => ?_)
      refine q_iadd (pc := 250) C dX14_comeThrough_250 ?_
      refine q_pN (pc := 251) C h .int (host := "LullabygateModel") (T := TX11) tyX11 tyX11_ok nmX11 rfl (by decide +kernel) rfl rfl rfl (by decide) (by decide +kernel) 1325 (by decide +kernel) (fun _ h9 => h9) rfl dX14_comeThrough_251 (fun M17 h => ?_)
      refine q_iconst (pc := 254) C 0 dX14_comeThrough_254 (by decide) ?_
      refine q_istore (pc := 255) C 8 [(8, .int 0), (7, .int x6), (0, va_rf l0), (1, .int l1), (3, va_rf l3), (4, .int l4), (5, .int l5), (6, .int l6)] dX14_comeThrough_255 (by decide) (by first | rfl | simp [q_cat, q_catI, q_catJ, q_catR, q_catN]) ?_
      refine q_lv [2, 3, 4, 5, 7, 1, 0] rfl ?_
      obtain ⟨f9, h⟩ := h
      exact tX14_comeThrough_257 C hr hlocks hg f9 _ _ _ _ _ _ _ _ _ _ h
    · have h := h.2 c5
      refine q_aload_n (pc := 99) C 0 0 dX14_comeThrough_99 rfl rfl ?_
      refine q_gR (pc := 100) C h (T := TX14) rfl (by decide) (wk_u bm_X14_comeThrough wm_X14_comeThrough uq_X14 (by decide +kernel)) (by decide +kernel) (fun _ h9 => h9) dX14_comeThrough_100 (fun x18 h => ?_)
      refine q_iload (pc := 103) C 7 6 dX14_comeThrough_103 rfl ?_
      obtain ⟨b21, fs9, hb21, hm9, h⟩ := h
      refine q_cq (pc := 105) (q_rV C (st := []) (b := b21) (kJx4a65c_get_915e3 l G b0 h) (cwV 1 C.2.2.2.2.1 gX14_comeThrough_Jx4a65c_get_915e3 rfl rfl rfl (by decide +kernel) ⟨Nat.le_of_ble_eq_true rfl, Nat.le_of_ble_eq_true rfl⟩) hm9 rfl rfl rfl (by first | exact Nat.le_of_ble_eq_true rfl | (simp [q_cat, q_catI, q_catJ, q_catR, q_catN]; done)) (by rw [hb21]; first | done | rfl) dX14_comeThrough_105 ⟨(by first | omega | (dsimp only; omega)), (by first | omega | (dsimp only; omega))⟩) (fun x19 M20 h => ?_)
      refine q_cast (pc := 108) C h rfl rfl (by decide +kernel) dX14_comeThrough_108 (fun h => ?_)
      refine q_astore (pc := 111) C 8 [(8, va_rf x19), (0, va_rf l0), (1, .int l1), (3, va_rf l3), (4, .int l4), (5, .int l5), (6, .int l6), (7, .int l7)] dX14_comeThrough_111 (by decide) (by first | rfl | simp [q_cat, q_catI, q_catJ, q_catR, q_catN]) ?_
      refine q_aload (pc := 113) C 8 0 dX14_comeThrough_113 rfl ?_
      refine q_gIN (pc := 115) C h (host := "LullabygateModel") (T := TX12) rfl (by decide) (by decide +kernel) 1524 (by decide +kernel) (fun _ h9 => h9) dX14_comeThrough_115 (fun x22 h => ?_)
      refine q_iload_n (pc := 118) C 1 2 dX14_comeThrough_118 rfl rfl ?_
      refine q_icmp_ne (pc := 119) C 210 dX14_comeThrough_119 (by decide) (fun c23 => ?_) (fun c23 => ?_)
      · have h := h.2 c23
        refine q_lv [1, 2, 3, 4, 5, 6, 7] rfl ?_
        exact tX14_comeThrough_210 C hr hlocks hg ih h
      · have h := h.1 c23
        refine q_aload_n (pc := 122) C 3 3 dX14_comeThrough_122 rfl rfl ?_
        refine q_gIN (pc := 123) C h (host := "LullabygateModel") (T := TX13) rfl (by decide) (by decide +kernel) 1480 (by decide +kernel) (fun _ h9 => h9) dX14_comeThrough_123 (fun x24 h => ?_)
        refine q_iload (pc := 126) C 7 7 dX14_comeThrough_126 rfl ?_
        refine q_ishr (pc := 128) C dX14_comeThrough_128 ?_
        refine m_stk (st2 := .int (m_shr x24 l7) :: _) rfl ?_
        refine q_iconst (pc := 129) C 1 dX14_comeThrough_129 (by decide) ?_
        refine q_iand (pc := 130) C dX14_comeThrough_130 ?_
        refine q_iconst (pc := 131) C 1 dX14_comeThrough_131 (by decide) ?_
        refine q_icmp_ne (pc := 132) C 138 dX14_comeThrough_132 (by decide) (fun c25 => ?_) (fun c25 => ?_)
        · have h := h.2 c25
          refine q_aload_n (pc := 138) C 0 1 dX14_comeThrough_138 rfl rfl ?_
          refine q_iload_n (pc := 139) C 1 2 dX14_comeThrough_139 rfl rfl ?_
          refine q_aload (pc := 140) C 8 0 dX14_comeThrough_140 rfl ?_
          refine q_gIN (pc := 142) C h (host := "LullabygateModel") (T := TX12) rfl (by decide) (by decide +kernel) 1519 (by decide +kernel) (fun _ h9 => h9) dX14_comeThrough_142 (fun x26 h => ?_)
          obtain ⟨hbk, h⟩ := h
          obtain ⟨b28, fs9, hb28, hm9, h⟩ := h
          refine q_cv (pc := 145) (q_rV C (st := []) (b := b28) (kX14_hide l G b0 hg h) (cwV 2 C.2.2.2.2.1 gX14_comeThrough_X14_hide rfl rfl rfl (by decide +kernel) ⟨Nat.le_of_ble_eq_true rfl, Nat.le_of_ble_eq_true rfl⟩) hm9 rfl rfl rfl (by first | exact Nat.le_of_ble_eq_true rfl | (simp [q_cat, q_catI, q_catJ, q_catR, q_catN]; done)) (by rw [hb28]; first | done | rfl) dX14_comeThrough_145 ⟨(by first | omega | (dsimp only; omega)), (by first | omega | (dsimp only; omega))⟩) (fun M27 h => ?_)
          refine q_aload (pc := 148) C 8 0 dX14_comeThrough_148 rfl ?_
          refine q_iload (pc := 150) C 5 5 dX14_comeThrough_150 rfl ?_
          refine q_if_eq (pc := 152) C 159 dX14_comeThrough_152 (by decide) (fun c29 => ?_) (fun c29 => ?_)
          · have h := h.1 c29
            refine q_iconst (pc := 159) C 4 dX14_comeThrough_159 (by decide) ?_
            refine q_lv [1, 2, 3, 4, 5, 6, 7, 0] rfl ?_
            exact tX14_comeThrough_160 C hr hlocks hg ih h
          · have h := h.2 c29
            refine q_iconst (pc := 155) C 3 dX14_comeThrough_155 (by decide) ?_
            refine q_goto (pc := 156) C 160 dX14_comeThrough_156 (by decide) ?_
            refine q_lv [1, 2, 3, 4, 5, 6, 7, 0] rfl ?_
            exact tX14_comeThrough_160 C hr hlocks hg ih h
        · have h := h.1 c25
          refine q_goto (pc := 135) C 210 dX14_comeThrough_135 (by decide) ?_
          refine q_lv [1, 2, 3, 4, 5, 6, 7] rfl ?_
          exact tX14_comeThrough_210 C hr hlocks hg ih h
set_option maxRecDepth 100000 in
set_option maxHeartbeats 4000000 in
theorem tX14_comeThrough_81 {p : Program} {l : Launch} {e : Env} {s : State} {m : MethodId} {args : Array Value} {below : List Frame} {meth : Method} {c : Code} {G : mG} {b0 : Nat} (C : m_C p s m args c cX14_comeThrough 10 RX14 wsX14_comeThrough G b0) (hr : meth.sig.returnType = (some .int)) (hlocks : meth.locks = false) {g : Nat → Nat} (hg : G.2.2 = g) {κ : Int32 → mM → Prop} {k9 n9 : Nat} {l0 : Option Nat} {l1 : Int32} {l3 : Option Nat} {l4 : Int32} {l5 : Int32} {M : mM} (h : wX14_comeThrough_81 g κ k9 n9 l0 l1 l3 l4 l5 M) : m_W p l e ({ frames := 8, cells := 72, slots := 11736, locals := 193 } : Room) s m args below meth c G b0 (MQ below (va_Qi κ (m_B G b0) (fun q => b0 ≤ q)) args s 72 11736 (fun q => b0 ≤ q)) 10 M k9 n9 81 [(0, va_rf l0), (1, .int l1), (3, va_rf l3), (4, .int l4), (5, .int l5)] [] := by
  unfold wX14_comeThrough_81 at h
  obtain ⟨hbk, h⟩ := h
  refine q_iconst (pc := 81) C 0 dX14_comeThrough_81 (by decide) ?_
  refine q_istore (pc := 82) C 6 [(6, .int 0), (0, va_rf l0), (1, .int l1), (3, va_rf l3), (4, .int l4), (5, .int l5)] dX14_comeThrough_82 (by decide) (by first | rfl | simp [q_cat, q_catI, q_catJ, q_catR, q_catN]) ?_
  refine q_iconst (pc := 84) C 0 dX14_comeThrough_84 (by decide) ?_
  refine q_istore (pc := 85) C 7 [(7, .int 0), (6, .int 0), (0, va_rf l0), (1, .int l1), (3, va_rf l3), (4, .int l4), (5, .int l5)] dX14_comeThrough_85 (by decide) (by first | rfl | simp [q_cat, q_catI, q_catJ, q_catR, q_catN]) ?_
  refine q_lv [2, 3, 4, 5, 6, 1, 0] rfl ?_
  obtain ⟨f9, h⟩ := h
  exact tX14_comeThrough_87 C hr hlocks hg f9 _ _ _ _ _ _ _ _ _ _ h
set_option maxRecDepth 100000 in
set_option maxHeartbeats 4000000 in
theorem tX14_comeThrough_51 {p : Program} {l : Launch} {e : Env} {s : State} {m : MethodId} {args : Array Value} {below : List Frame} {meth : Method} {c : Code} {G : mG} {b0 : Nat} (C : m_C p s m args c cX14_comeThrough 10 RX14 wsX14_comeThrough G b0) (hr : meth.sig.returnType = (some .int)) (hlocks : meth.locks = false) {g : Nat → Nat} (hg : G.2.2 = g) {κ : Int32 → mM → Prop} {k9 n9 : Nat} {l0 : Option Nat} {l1 : Int32} {l3 : Option Nat} {l4 : Int32} {s0 : Int32} {M : mM} (h : wX14_comeThrough_51 g κ k9 n9 l0 l1 l3 l4 s0 M) : m_W p l e ({ frames := 8, cells := 72, slots := 11736, locals := 193 } : Room) s m args below meth c G b0 (MQ below (va_Qi κ (m_B G b0) (fun q => b0 ≤ q)) args s 72 11736 (fun q => b0 ≤ q)) 10 M k9 n9 51 [(0, va_rf l0), (1, .int l1), (3, va_rf l3), (4, .int l4)] [.int s0] := by
  unfold wX14_comeThrough_51 at h
  obtain ⟨hbk, h⟩ := h
  refine q_istore (pc := 51) C 5 [(5, .int s0), (0, va_rf l0), (1, .int l1), (3, va_rf l3), (4, .int l4)] dX14_comeThrough_51 (by decide) (by first | rfl | simp [q_cat, q_catI, q_catJ, q_catR, q_catN]) ?_
  refine q_aload_n (pc := 53) C 0 1 dX14_comeThrough_53 rfl rfl ?_
  refine q_bipush (pc := 54) C 21 dX14_comeThrough_54 (by decide) ?_
  refine q_aload_n (pc := 56) C 0 1 dX14_comeThrough_56 rfl rfl ?_
  refine q_gI (pc := 57) C h (T := TX14) rfl (by decide) (wk_u bm_X14_comeThrough wm_X14_comeThrough uq_X14 (by decide +kernel)) (by decide +kernel) (fun _ h9 => h9) dX14_comeThrough_57 (fun x1 h => ?_)
  refine q_imul (pc := 60) C dX14_comeThrough_60 ?_
  refine q_bipush (pc := 61) C 11 dX14_comeThrough_61 (by decide) ?_
  refine q_iadd (pc := 63) C dX14_comeThrough_63 ?_
  refine q_sipush (pc := 64) C 4096 dX14_comeThrough_64 (by decide) ?_
  refine q_irem (pc := 67) C dX14_comeThrough_67 (by decide) ?_
  refine m_stk (st2 := .int (m_rem ((21 * x1) + 11) 4096) :: _) rfl ?_
  refine q_p (pc := 68) C h .int (T := TX14) tyX14 tyX14_ok nmX14 rfl (by decide +kernel) rfl rfl rfl (by decide) (wk_u bm_X14_comeThrough wm_X14_comeThrough uq_X14 (by decide +kernel)) (by decide +kernel) (fun _ h9 => h9) rfl dX14_comeThrough_68 (fun M2 h => ?_)
  refine q_aload_n (pc := 71) C 0 1 dX14_comeThrough_71 rfl rfl ?_
  refine q_dup (pc := 72) C dX14_comeThrough_72 (q_cat _) ?_
  refine q_gI (pc := 73) C h (T := TX14) rfl (by decide) (wk_u bm_X14_comeThrough wm_X14_comeThrough uq_X14 (by decide +kernel)) (by decide +kernel) (fun _ h9 => h9) dX14_comeThrough_73 (fun x3 h => ?_)
  refine q_iconst (pc := 76) C 1 dX14_comeThrough_76 (by decide) ?_
  refine q_iadd (pc := 77) C dX14_comeThrough_77 ?_
  refine q_p (pc := 78) C h .int (T := TX14) tyX14 tyX14_ok nmX14 rfl (by decide +kernel) rfl rfl rfl (by decide) (wk_u bm_X14_comeThrough wm_X14_comeThrough uq_X14 (by decide +kernel)) (by decide +kernel) (fun _ h9 => h9) rfl dX14_comeThrough_78 (fun M4 h => ?_)
  refine q_lv [1, 2, 3, 4, 0] rfl ?_
  exact tX14_comeThrough_81 C hr hlocks hg h
set_option maxRecDepth 100000 in
set_option maxHeartbeats 4000000 in
theorem tX14_comeThrough {p : Program} {l : Launch} {e : Env} {s : State} {m : MethodId} {args : Array Value} {below : List Frame} {meth : Method} {c : Code} {G : mG} {b0 : Nat} (C : m_C p s m args c cX14_comeThrough 10 RX14 wsX14_comeThrough G b0) (hr : meth.sig.returnType = (some .int)) (hlocks : meth.locks = false) {g : Nat → Nat} (hg : G.2.2 = g) {κ : Int32 → mM → Prop} {l0 : Option Nat} {l1 : Int32} {l2 : Option Nat} {M : mM} (h : wX14_comeThrough g κ l0 l1 l2 M) : m_W p l e ({ frames := 8, cells := 72, slots := 11736, locals := 193 } : Room) s m args below meth c G b0 (MQ below (va_Qi κ (m_B G b0) (fun q => b0 ≤ q)) args s 72 11736 (fun q => b0 ≤ q)) 10 M 0 0 0 [(0, va_rf l0), (1, .int l1), (2, va_rf l2)] [] := by
  unfold wX14_comeThrough at h
  refine q_aload_n (pc := 0) C 0 0 dX14_comeThrough_0 rfl rfl ?_
  refine q_gR (pc := 1) C h (T := TX14) rfl (by decide) (wk_u bm_X14_comeThrough wm_X14_comeThrough uq_X14 (by decide +kernel)) (by decide +kernel) (fun _ h9 => h9) dX14_comeThrough_1 (fun x1 h => ?_)
  refine q_iload_n (pc := 4) C 1 1 dX14_comeThrough_4 rfl rfl ?_
  obtain ⟨b4, fs9, hb4, hm9, h⟩ := h
  refine q_cq (pc := 5) (q_rV C (st := []) (b := b4) (kJx4a65c_get_915e3 l G b0 h) (cwV 1 C.2.2.2.2.1 gX14_comeThrough_Jx4a65c_get_915e3 rfl rfl rfl (by decide +kernel) ⟨Nat.le_of_ble_eq_true rfl, Nat.le_of_ble_eq_true rfl⟩) hm9 rfl rfl rfl (by first | exact Nat.le_of_ble_eq_true rfl | (simp [q_cat, q_catI, q_catJ, q_catR, q_catN]; done)) (by rw [hb4]; first | done | rfl) dX14_comeThrough_5 ⟨(by first | omega | (dsimp only; omega)), (by first | omega | (dsimp only; omega))⟩) (fun x2 M3 h => ?_)
  refine q_cast (pc := 8) C h rfl rfl (by decide +kernel) dX14_comeThrough_8 (fun h => ?_)
  refine q_astore_n (pc := 11) C 3 [(3, va_rf x2), (0, va_rf l0), (1, .int l1), (2, va_rf l2)] dX14_comeThrough_11 rfl (by decide) (by first | rfl | simp [q_cat, q_catI, q_catJ, q_catR, q_catN]) ?_
  refine q_aload_n (pc := 12) C 2 3 dX14_comeThrough_12 rfl rfl ?_
  refine q_aload_n (pc := 13) C 3 0 dX14_comeThrough_13 rfl rfl ?_
  refine q_gIN (pc := 14) C h (host := "LullabygateModel") (T := TX13) rfl (by decide) (by decide +kernel) 1474 (by decide +kernel) (fun _ h9 => h9) dX14_comeThrough_14 (fun x5 h => ?_)
  obtain ⟨b8, fs9, hb8, hm9, h⟩ := h
  refine q_ci (pc := 17) (q_rV C (st := []) (b := b8) (kX10_beyond l G b0 h) (cwV 1 C.2.2.2.2.1 gX14_comeThrough_X10_beyond rfl rfl rfl (by decide +kernel) ⟨Nat.le_of_ble_eq_true rfl, Nat.le_of_ble_eq_true rfl⟩) hm9 rfl rfl rfl (by first | exact Nat.le_of_ble_eq_true rfl | (simp [q_cat, q_catI, q_catJ, q_catR, q_catN]; done)) (by rw [hb8]; first | done | rfl) dX14_comeThrough_17 ⟨(by first | omega | (dsimp only; omega)), (by first | omega | (dsimp only; omega))⟩) (fun x6 M7 h => ?_)
  refine q_istore (pc := 20) C 4 [(4, .int x6), (3, va_rf x2), (0, va_rf l0), (1, .int l1), (2, va_rf l2)] dX14_comeThrough_20 (by decide) (by first | rfl | simp [q_cat, q_catI, q_catJ, q_catR, q_catN]) ?_
  refine q_iconst (pc := 22) C 0 dX14_comeThrough_22 (by decide) ?_
  refine q_istore (pc := 23) C 5 [(5, .int 0), (4, .int x6), (3, va_rf x2), (0, va_rf l0), (1, .int l1), (2, va_rf l2)] dX14_comeThrough_23 (by decide) (by first | rfl | simp [q_cat, q_catI, q_catJ, q_catR, q_catN]) ?_
  refine q_aload_n (pc := 25) C 2 5 dX14_comeThrough_25 rfl rfl ?_
  obtain ⟨b11, fs9, hb11, hm9, h⟩ := h
  refine q_ci (pc := 26) (q_rV C (st := []) (b := b11) (kX10_dozes l G b0 h) (cwV 0 C.2.2.2.2.1 gX14_comeThrough_X10_dozes rfl rfl rfl (by decide +kernel) ⟨Nat.le_of_ble_eq_true rfl, Nat.le_of_ble_eq_true rfl⟩) hm9 rfl rfl rfl (by first | exact Nat.le_of_ble_eq_true rfl | (simp [q_cat, q_catI, q_catJ, q_catR, q_catN]; done)) (by rw [hb11]; first | done | rfl) dX14_comeThrough_26 ⟨(by first | omega | (dsimp only; omega)), (by first | omega | (dsimp only; omega))⟩) (fun x9 M10 h => ?_)
  refine q_if_ne (pc := 29) C 81 dX14_comeThrough_29 (by decide) (fun c12 => ?_) (fun c12 => ?_)
  · have h := h.2 c12
    refine q_lv [3, 4, 2, 1, 0] rfl ?_
    exact tX14_comeThrough_81 C hr hlocks hg h
  · have h := h.1 c12
    refine q_aload_n (pc := 32) C 0 3 dX14_comeThrough_32 rfl rfl ?_
    refine q_gI (pc := 33) C h (T := TX14) rfl (by decide) (wk_u bm_X14_comeThrough wm_X14_comeThrough uq_X14 (by decide +kernel)) (by decide +kernel) (fun _ h9 => h9) dX14_comeThrough_33 (fun x13 h => ?_)
    refine q_bipush (pc := 36) C 10 dX14_comeThrough_36 (by decide) ?_
    refine q_irem (pc := 38) C dX14_comeThrough_38 (by decide) ?_
    refine m_stk (st2 := .int (m_rem x13 10) :: _) rfl ?_
    refine q_aload_n (pc := 39) C 2 5 dX14_comeThrough_39 rfl rfl ?_
    refine q_gIN (pc := 40) C h (host := "LullabygateModel") (T := TX10) rfl (by decide) (by decide +kernel) 1426 (by decide +kernel) (fun _ h9 => h9) dX14_comeThrough_40 (fun x14 h => ?_)
    refine q_icmp_ge (pc := 43) C 50 dX14_comeThrough_43 (by decide) (fun c15 => ?_) (fun c15 => ?_)
    · have h := h.1 c15
      refine q_iconst (pc := 50) C 0 dX14_comeThrough_50 (by decide) ?_
      refine q_lv [3, 4, 2, 1] rfl ?_
      exact tX14_comeThrough_51 C hr hlocks hg h
    · have h := h.2 c15
      refine q_iconst (pc := 46) C 1 dX14_comeThrough_46 (by decide) ?_
      refine q_goto (pc := 47) C 51 dX14_comeThrough_47 (by decide) ?_
      refine q_lv [3, 4, 2, 1] rfl ?_
      exact tX14_comeThrough_51 C hr hlocks hg h
set_option maxRecDepth 100000 in
set_option maxHeartbeats 4000000 in
theorem kX14_comeThrough (l : Launch) (G : mG) (b0 : Nat) {g : Nat → Nat} (hg : G.2.2 = g) {b : Nat} {l1 : Int32} {l2 : Option Nat} {M : mM} {κ : Int32 → mM → Prop} (h : wX14_comeThrough g κ (some b) l1 l2 M) : Met l yX14_comeThrough wsX14_comeThrough ({ frames := 8, cells := 72, slots := 11736, locals := 193 } : Room) (va_Pc [.ref b, .int l1, va_rf l2] (m_Pre G b0 M)) (va_Qi κ (m_B G b0) (fun q => b0 ≤ q)) 72 11736 (fun q => b0 ≤ q) := by
  refine m_met (cc := cX14_comeThrough) (maxL := 10) (ret := (some .int)) (lv := [(0, va_rf (some b)), (1, .int l1), (2, va_rf l2)]) RX14 rfl (by decide +kernel) rfl (by first | exact Nat.le_of_ble_eq_true rfl | simp [lg_sl, q_cat, q_catI, q_catJ, q_catR, q_catN]) (by first | rfl | (simp [lv_args, q_cat, q_catI, q_catJ, q_catR, q_catN]; done) | (simp [lv_args, q_cat, q_catI, q_catJ, q_catR, q_catN]; rfl)) ?_
  intro p e s m args below meth c C hr hlocks hni
  exact tX14_comeThrough C hr hlocks hg h
/-! X14_yawn -/
set_option maxRecDepth 100000 in
set_option maxHeartbeats 4000000 in
theorem tX14_yawn_52 {p : Program} {l : Launch} {e : Env} {s : State} {m : MethodId} {args : Array Value} {below : List Frame} {meth : Method} {c : Code} {G : mG} {b0 : Nat} (C : m_C p s m args c cX14_yawn 7 RX14 wsX14_yawn G b0) (hr : meth.sig.returnType = (some .int)) (hlocks : meth.locks = false) {g : Nat → Nat} (hg : G.2.2 = g) {κ : Int32 → mM → Prop} {l0 : Option Nat} {M : mM} (h : wX14_yawn_52 g κ l0 M) : m_W p l e ({ frames := 9, cells := 72, slots := 11736, locals := 222 } : Room) s m args below meth c G b0 (MQ below (va_Qi κ (m_B G b0) (fun q => b0 ≤ q)) args s 72 11736 (fun q => b0 ≤ q)) 7 M 0 0 52 [(0, va_rf l0)] [] := by
  unfold wX14_yawn_52 at h
  refine q_aload_n (pc := 52) C 0 0 dX14_yawn_52 rfl rfl ?_
  refine q_iconst (pc := 53) C 2 dX14_yawn_53 (by decide) ?_
  obtain ⟨b3, fs9, hb3, hm9, h⟩ := h
  refine q_ci (pc := 54) (q_rV C (st := []) (b := b3) (kX14_refuse l G b0 h) (cwV 1 C.2.2.2.2.1 gX14_yawn_X14_refuse rfl rfl rfl (by decide +kernel) ⟨Nat.le_of_ble_eq_true rfl, Nat.le_of_ble_eq_true rfl⟩) hm9 rfl rfl rfl (by first | exact Nat.le_of_ble_eq_true rfl | (simp [q_cat, q_catI, q_catJ, q_catR, q_catN]; done)) (by rw [hb3]; first | done | rfl) dX14_yawn_54 ⟨(by first | omega | (dsimp only; omega)), (by first | omega | (dsimp only; omega))⟩) (fun x1 M2 h => ?_)
  exact q_iret (pc := 57) C hr hlocks h dX14_yawn_57 (by omega) (by omega)
set_option maxRecDepth 100000 in
set_option maxHeartbeats 4000000 in
theorem tX14_yawn_189 {p : Program} {l : Launch} {e : Env} {s : State} {m : MethodId} {args : Array Value} {below : List Frame} {meth : Method} {c : Code} {G : mG} {b0 : Nat} (C : m_C p s m args c cX14_yawn 7 RX14 wsX14_yawn G b0) (hr : meth.sig.returnType = (some .int)) (hlocks : meth.locks = false) {g : Nat → Nat} (hg : G.2.2 = g) {κ : Int32 → mM → Prop} {R121 : Option Nat → Option Nat → Int32 → Int32 → mM → Prop} (hR121 : ∀ (l0 : Option Nat) (l2 : Option Nat) (l4 : Int32) (l5 : Int32) (M : mM), R121 l0 l2 l4 l5 M → m_W p l e ({ frames := 9, cells := 72, slots := 11736, locals := 222 } : Room) s m args below meth c G b0 (MQ below (va_Qi κ (m_B G b0) (fun q => b0 ≤ q)) args s 72 11736 (fun q => b0 ≤ q)) 7 M 72 11736 121 [(0, va_rf l0), (2, va_rf l2), (4, .int l4), (5, .int l5)] []) {l0 : Option Nat} {l2 : Option Nat} {l4 : Int32} {l5 : Int32} {M : mM} (h : wX14_yawn_189 g κ R121 l0 l2 l4 l5 M) : m_W p l e ({ frames := 9, cells := 72, slots := 11736, locals := 222 } : Room) s m args below meth c G b0 (MQ below (va_Qi κ (m_B G b0) (fun q => b0 ≤ q)) args s 72 11736 (fun q => b0 ≤ q)) 7 M 72 11736 189 [(0, va_rf l0), (2, va_rf l2), (4, .int l4), (5, .int l5)] [] := by
  unfold wX14_yawn_189 at h
  refine q_iinc (pc := 189) C 5 3 (l5 + (-1)) [(5, .int (l5 + (-1))), (0, va_rf l0), (2, va_rf l2), (4, .int l4)] dX14_yawn_189 rfl (by rfl) (by decide) (by first | rfl | simp [q_cat, q_catI, q_catJ, q_catR, q_catN]) ?_
  refine q_goto (pc := 192) C 121 dX14_yawn_192 (by decide) ?_
  refine q_widen (k2 := 72) (n2 := 11736) (by omega) (by omega) ?_
  refine q_lv [1, 2, 3, 0] rfl ?_
  exact hR121 _ _ _ _ _ h
set_option maxRecDepth 100000 in
set_option maxHeartbeats 4000000 in
theorem tX14_yawn_121 {p : Program} {l : Launch} {e : Env} {s : State} {m : MethodId} {args : Array Value} {below : List Frame} {meth : Method} {c : Code} {G : mG} {b0 : Nat} (C : m_C p s m args c cX14_yawn 7 RX14 wsX14_yawn G b0) (hr : meth.sig.returnType = (some .int)) (hlocks : meth.locks = false) {g : Nat → Nat} (hg : G.2.2 = g) {κ : Int32 → mM → Prop} : ∀ (f : Nat) (l0 : Option Nat) (l2 : Option Nat) (l4 : Int32) (l5 : Int32) (M : mM), wX14_yawn_121 g κ f l0 l2 l4 l5 M → m_W p l e ({ frames := 9, cells := 72, slots := 11736, locals := 222 } : Room) s m args below meth c G b0 (MQ below (va_Qi κ (m_B G b0) (fun q => b0 ≤ q)) args s 72 11736 (fun q => b0 ≤ q)) 7 M 72 11736 121 [(0, va_rf l0), (2, va_rf l2), (4, .int l4), (5, .int l5)] [] := by
  intro f
  induction f with
  | zero =>
    intro l0 l2 l4 l5 M h
    exact absurd h (by simp [wX14_yawn_121])
  | succ f ih =>
    intro l0 l2 l4 l5 M h
    rw [wX14_yawn_121] at h
    refine q_iload (pc := 121) C 5 3 dX14_yawn_121 rfl ?_
    refine q_if_lt (pc := 123) C 195 dX14_yawn_123 (by decide) (fun c1 => ?_) (fun c1 => ?_)
    · have h := h.1 c1
      refine q_iload (pc := 195) C 4 2 dX14_yawn_195 rfl ?_
      exact q_iret (pc := 197) C hr hlocks h dX14_yawn_197 (by omega) (by omega)
    · have h := h.2 c1
      refine q_aload_n (pc := 126) C 2 1 dX14_yawn_126 rfl rfl ?_
      refine q_gRN (pc := 127) C h (host := "LullabygateModel") (T := TX10) rfl (by decide) (by decide +kernel) 1430 (by decide +kernel) (fun _ h9 => h9) dX14_yawn_127 (fun x2 h => ?_)
      refine q_iload (pc := 130) C 5 3 dX14_yawn_130 rfl ?_
      obtain ⟨b5, fs9, hb5, hm9, h⟩ := h
      refine q_cq (pc := 132) (q_rV C (st := []) (b := b5) (kJx4a65c_get_915e3 l G b0 h) (cwV 1 C.2.2.2.2.1 gX14_yawn_Jx4a65c_get_915e3 rfl rfl rfl (by decide +kernel) ⟨Nat.le_of_ble_eq_true rfl, Nat.le_of_ble_eq_true rfl⟩) hm9 rfl rfl rfl (by first | exact Nat.le_of_ble_eq_true rfl | (simp [q_cat, q_catI, q_catJ, q_catR, q_catN]; done)) (by rw [hb5]; first | done | rfl) dX14_yawn_132 ⟨(by first | omega | (dsimp only; omega)), (by first | omega | (dsimp only; omega))⟩) (fun x3 M4 h => ?_)
      refine q_cast (pc := 135) C h rfl rfl (by decide +kernel) dX14_yawn_135 (fun h => ?_)
      obtain ⟨b8, fs9, hb8, hm9, h⟩ := h
      refine q_ci (pc := 138) (q_rV C (st := []) (b := b8) (kJ6_intValue_8abf5 l G b0 h) (cwV 0 C.2.2.2.2.1 gX14_yawn_J6_intValue_8abf5 rfl rfl rfl (by decide +kernel) ⟨Nat.le_of_ble_eq_true rfl, Nat.le_of_ble_eq_true rfl⟩) hm9 rfl rfl rfl (by first | exact Nat.le_of_ble_eq_true rfl | (simp [q_cat, q_catI, q_catJ, q_catR, q_catN]; done)) (by rw [hb8]; first | done | rfl) dX14_yawn_138 ⟨(by first | omega | (dsimp only; omega)), (by first | omega | (dsimp only; omega))⟩) (fun x6 M7 h => ?_)
      refine q_istore (pc := 141) C 6 [(6, .int x6), (0, va_rf l0), (2, va_rf l2), (4, .int l4), (5, .int l5)] dX14_yawn_141 (by decide) (by first | rfl | simp [q_cat, q_catI, q_catJ, q_catR, q_catN]) ?_
      refine q_aload_n (pc := 143) C 0 1 dX14_yawn_143 rfl rfl ?_
      refine q_gR (pc := 144) C h (T := TX14) rfl (by decide) (wk_u bm_X14_yawn wm_X14_yawn uq_X14 (by decide +kernel)) (by decide +kernel) (fun _ h9 => h9) dX14_yawn_144 (fun x9 h => ?_)
      refine q_iload (pc := 147) C 6 0 dX14_yawn_147 rfl ?_
      obtain ⟨b12, fs9, hb12, hm9, h⟩ := h
      refine q_cq (pc := 149) (q_rV C (st := []) (b := b12) (kJx4a65c_get_915e3 l G b0 h) (cwV 1 C.2.2.2.2.1 gX14_yawn_Jx4a65c_get_915e3 rfl rfl rfl (by decide +kernel) ⟨Nat.le_of_ble_eq_true rfl, Nat.le_of_ble_eq_true rfl⟩) hm9 rfl rfl rfl (by first | exact Nat.le_of_ble_eq_true rfl | (simp [q_cat, q_catI, q_catJ, q_catR, q_catN]; done)) (by rw [hb12]; first | done | rfl) dX14_yawn_149 ⟨(by first | omega | (dsimp only; omega)), (by first | omega | (dsimp only; omega))⟩) (fun x10 M11 h => ?_)
      refine q_cast (pc := 152) C h rfl rfl (by decide +kernel) dX14_yawn_152 (fun h => ?_)
      refine q_dup (pc := 155) C dX14_yawn_155 (q_cat _) ?_
      refine q_gIN (pc := 156) C h (host := "LullabygateModel") (T := TX13) rfl (by decide) (by decide +kernel) 1476 (by decide +kernel) (fun _ h9 => h9) dX14_yawn_156 (fun x13 h => ?_)
      refine q_iconst (pc := 159) C 1 dX14_yawn_159 (by decide) ?_
      refine q_isub (pc := 160) C dX14_yawn_160 ?_
      refine q_pN (pc := 161) C h .int (host := "LullabygateModel") (T := TX13) tyX13 tyX13_ok nmX13 rfl (by decide +kernel) rfl rfl rfl (by decide) (by decide +kernel) 1476 (by decide +kernel) (fun _ h9 => h9) rfl dX14_yawn_161 (fun M14 h => ?_)
      refine q_aload_n (pc := 164) C 0 1 dX14_yawn_164 rfl rfl ?_
      refine q_gR (pc := 165) C h (T := TX14) rfl (by decide) (wk_u bm_X14_yawn wm_X14_yawn uq_X14 (by decide +kernel)) (by decide +kernel) (fun _ h9 => h9) dX14_yawn_165 (fun x15 h => ?_)
      refine q_iload (pc := 168) C 6 0 dX14_yawn_168 rfl ?_
      obtain ⟨b18, fs9, hb18, hm9, h⟩ := h
      refine q_cq (pc := 170) (q_rV C (st := []) (b := b18) (kJx4a65c_get_915e3 l G b0 h) (cwV 1 C.2.2.2.2.1 gX14_yawn_Jx4a65c_get_915e3 rfl rfl rfl (by decide +kernel) ⟨Nat.le_of_ble_eq_true rfl, Nat.le_of_ble_eq_true rfl⟩) hm9 rfl rfl rfl (by first | exact Nat.le_of_ble_eq_true rfl | (simp [q_cat, q_catI, q_catJ, q_catR, q_catN]; done)) (by rw [hb18]; first | done | rfl) dX14_yawn_170 ⟨(by first | omega | (dsimp only; omega)), (by first | omega | (dsimp only; omega))⟩) (fun x16 M17 h => ?_)
      refine q_cast (pc := 173) C h rfl rfl (by decide +kernel) dX14_yawn_173 (fun h => ?_)
      refine q_gIN (pc := 176) C h (host := "LullabygateModel") (T := TX13) rfl (by decide) (by decide +kernel) 1476 (by decide +kernel) (fun _ h9 => h9) dX14_yawn_176 (fun x19 h => ?_)
      refine q_if_ne (pc := 179) C 189 dX14_yawn_179 (by decide) (fun c20 => ?_) (fun c20 => ?_)
      · have h := h.2 c20
        refine q_widen (k2 := 72) (n2 := 11736) (by omega) (by omega) ?_
        refine q_lv [1, 2, 3, 4] rfl ?_
        exact tX14_yawn_189 C hr hlocks hg ih h
      · have h := h.1 c20
        refine q_aload_n (pc := 182) C 0 1 dX14_yawn_182 rfl rfl ?_
        refine q_iload (pc := 183) C 6 0 dX14_yawn_183 rfl ?_
        refine q_iconst (pc := 185) C 2 dX14_yawn_185 (by decide) ?_
        obtain ⟨b22, fs9, hb22, hm9, h⟩ := h
        refine q_cv (pc := 186) (q_rV C (st := []) (b := b22) (kX14_stepOut l G b0 h) (cwV 2 C.2.2.2.2.1 gX14_yawn_X14_stepOut rfl rfl rfl (by decide +kernel) ⟨Nat.le_of_ble_eq_true rfl, Nat.le_of_ble_eq_true rfl⟩) hm9 rfl rfl rfl (by first | exact Nat.le_of_ble_eq_true rfl | (simp [q_cat, q_catI, q_catJ, q_catR, q_catN]; done)) (by rw [hb22]; first | done | rfl) dX14_yawn_186 ⟨(by first | omega | (dsimp only; omega)), (by first | omega | (dsimp only; omega))⟩) (fun M21 h => ?_)
        refine q_widen (k2 := 72) (n2 := 11736) (by omega) (by omega) ?_
        refine q_lv [1, 2, 3, 4] rfl ?_
        exact tX14_yawn_189 C hr hlocks hg ih h
set_option maxRecDepth 100000 in
set_option maxHeartbeats 4000000 in
theorem tX14_yawn_108 {p : Program} {l : Launch} {e : Env} {s : State} {m : MethodId} {args : Array Value} {below : List Frame} {meth : Method} {c : Code} {G : mG} {b0 : Nat} (C : m_C p s m args c cX14_yawn 7 RX14 wsX14_yawn G b0) (hr : meth.sig.returnType = (some .int)) (hlocks : meth.locks = false) {g : Nat → Nat} (hg : G.2.2 = g) {κ : Int32 → mM → Prop} {l0 : Option Nat} {l2 : Option Nat} {s0 : Int32} {M : mM} (h : wX14_yawn_108 g κ l0 l2 s0 M) : m_W p l e ({ frames := 9, cells := 72, slots := 11736, locals := 222 } : Room) s m args below meth c G b0 (MQ below (va_Qi κ (m_B G b0) (fun q => b0 ≤ q)) args s 72 11736 (fun q => b0 ≤ q)) 7 M 72 11736 108 [(0, va_rf l0), (2, va_rf l2)] [.int s0] := by
  unfold wX14_yawn_108 at h
  refine q_istore (pc := 108) C 4 [(4, .int s0), (0, va_rf l0), (2, va_rf l2)] dX14_yawn_108 (by decide) (by first | rfl | simp [q_cat, q_catI, q_catJ, q_catR, q_catN]) ?_
  refine q_aload_n (pc := 110) C 2 2 dX14_yawn_110 rfl rfl ?_
  refine q_gRN (pc := 111) C h (host := "LullabygateModel") (T := TX10) rfl (by decide) (by decide +kernel) 1430 (by decide +kernel) (fun _ h9 => h9) dX14_yawn_111 (fun x1 h => ?_)
  obtain ⟨b4, fs9, hb4, hm9, h⟩ := h
  refine q_ci (pc := 114) (q_rV C (st := []) (b := b4) (kJx4a65c_size_8abf5 l G b0 h) (cwV 0 C.2.2.2.2.1 gX14_yawn_Jx4a65c_size_8abf5 rfl rfl rfl (by decide +kernel) ⟨Nat.le_of_ble_eq_true rfl, Nat.le_of_ble_eq_true rfl⟩) hm9 rfl rfl rfl (by first | exact Nat.le_of_ble_eq_true rfl | (simp [q_cat, q_catI, q_catJ, q_catR, q_catN]; done)) (by rw [hb4]; first | done | rfl) dX14_yawn_114 ⟨(by first | omega | (dsimp only; omega)), (by first | omega | (dsimp only; omega))⟩) (fun x2 M3 h => ?_)
  refine q_iconst (pc := 117) C 1 dX14_yawn_117 (by decide) ?_
  refine q_isub (pc := 118) C dX14_yawn_118 ?_
  refine q_istore (pc := 119) C 5 [(5, .int (x2 - 1)), (4, .int s0), (0, va_rf l0), (2, va_rf l2)] dX14_yawn_119 (by decide) (by first | rfl | simp [q_cat, q_catI, q_catJ, q_catR, q_catN]) ?_
  refine q_widen (k2 := 72) (n2 := 11736) (by omega) (by omega) ?_
  refine q_lv [2, 3, 1, 0] rfl ?_
  obtain ⟨f9, h⟩ := h
  exact tX14_yawn_121 C hr hlocks hg f9 _ _ _ _ _ h
set_option maxRecDepth 100000 in
set_option maxHeartbeats 4000000 in
theorem tX14_yawn {p : Program} {l : Launch} {e : Env} {s : State} {m : MethodId} {args : Array Value} {below : List Frame} {meth : Method} {c : Code} {G : mG} {b0 : Nat} (C : m_C p s m args c cX14_yawn 7 RX14 wsX14_yawn G b0) (hr : meth.sig.returnType = (some .int)) (hlocks : meth.locks = false) {g : Nat → Nat} (hg : G.2.2 = g) {κ : Int32 → mM → Prop} {l0 : Option Nat} {l1 : Int32} {M : mM} (h : wX14_yawn g κ l0 l1 M) : m_W p l e ({ frames := 9, cells := 72, slots := 11736, locals := 222 } : Room) s m args below meth c G b0 (MQ below (va_Qi κ (m_B G b0) (fun q => b0 ≤ q)) args s 72 11736 (fun q => b0 ≤ q)) 7 M 0 0 0 [(0, va_rf l0), (1, .int l1)] [] := by
  unfold wX14_yawn at h
  refine q_aload_n (pc := 0) C 0 0 dX14_yawn_0 rfl rfl ?_
  refine q_iconst (pc := 1) C 0 dX14_yawn_1 (by decide) ?_
  refine q_p (pc := 2) C h .int (T := TX14) tyX14 tyX14_ok nmX14 rfl (by decide +kernel) rfl rfl rfl (by decide) (wk_u bm_X14_yawn wm_X14_yawn uq_X14 (by decide +kernel)) (by decide +kernel) (fun _ h9 => h9) rfl dX14_yawn_2 (fun M1 h => ?_)
  refine q_aload_n (pc := 5) C 0 0 dX14_yawn_5 rfl rfl ?_
  refine q_iload_n (pc := 6) C 1 1 dX14_yawn_6 rfl rfl ?_
  obtain ⟨b4, fs9, hb4, hm9, h⟩ := h
  refine q_ci (pc := 7) (q_rV C (st := []) (b := b4) (kX14_isGate l G b0 h) (cwV 1 C.2.2.2.2.1 gX14_yawn_X14_isGate rfl rfl rfl (by decide +kernel) ⟨Nat.le_of_ble_eq_true rfl, Nat.le_of_ble_eq_true rfl⟩) hm9 rfl rfl rfl (by first | exact Nat.le_of_ble_eq_true rfl | (simp [q_cat, q_catI, q_catJ, q_catR, q_catN]; done)) (by rw [hb4]; first | done | rfl) dX14_yawn_7 ⟨(by first | omega | (dsimp only; omega)), (by first | omega | (dsimp only; omega))⟩) (fun x2 M3 h => ?_)
  refine q_if_ne (pc := 10) C 19 dX14_yawn_10 (by decide) (fun c5 => ?_) (fun c5 => ?_)
  · have h := h.2 c5
    refine q_aload_n (pc := 19) C 0 0 dX14_yawn_19 rfl rfl ?_
    refine q_gR (pc := 20) C h (T := TX14) rfl (by decide) (wk_u bm_X14_yawn wm_X14_yawn uq_X14 (by decide +kernel)) (by decide +kernel) (fun _ h9 => h9) dX14_yawn_20 (fun x6 h => ?_)
    refine q_iload_n (pc := 23) C 1 1 dX14_yawn_23 rfl rfl ?_
    obtain ⟨b9, fs9, hb9, hm9, h⟩ := h
    refine q_cq (pc := 24) (q_rV C (st := []) (b := b9) (kJx4a65c_get_915e3 l G b0 h) (cwV 1 C.2.2.2.2.1 gX14_yawn_Jx4a65c_get_915e3 rfl rfl rfl (by decide +kernel) ⟨Nat.le_of_ble_eq_true rfl, Nat.le_of_ble_eq_true rfl⟩) hm9 rfl rfl rfl (by first | exact Nat.le_of_ble_eq_true rfl | (simp [q_cat, q_catI, q_catJ, q_catR, q_catN]; done)) (by rw [hb9]; first | done | rfl) dX14_yawn_24 ⟨(by first | omega | (dsimp only; omega)), (by first | omega | (dsimp only; omega))⟩) (fun x7 M8 h => ?_)
    refine q_cast (pc := 27) C h rfl rfl (by decide +kernel) dX14_yawn_27 (fun h => ?_)
    refine q_astore_n (pc := 30) C 2 [(2, va_rf x7), (0, va_rf l0), (1, .int l1)] dX14_yawn_30 rfl (by decide) (by first | rfl | simp [q_cat, q_catI, q_catJ, q_catR, q_catN]) ?_
    refine q_aload_n (pc := 31) C 2 0 dX14_yawn_31 rfl rfl ?_
    refine q_aload_n (pc := 32) C 0 1 dX14_yawn_32 rfl rfl ?_
    refine q_gI (pc := 33) C h (T := TX14) rfl (by decide) (wk_u bm_X14_yawn wm_X14_yawn uq_X14 (by decide +kernel)) (by decide +kernel) (fun _ h9 => h9) dX14_yawn_33 (fun x10 h => ?_)
    obtain ⟨b13, fs9, hb13, hm9, h⟩ := h
    refine q_ci (pc := 36) (q_rV C (st := []) (b := b13) (kX10_isOpen l G b0 h) (cwV 1 C.2.2.2.2.1 gX14_yawn_X10_isOpen rfl rfl rfl (by decide +kernel) ⟨Nat.le_of_ble_eq_true rfl, Nat.le_of_ble_eq_true rfl⟩) hm9 rfl rfl rfl (by first | exact Nat.le_of_ble_eq_true rfl | (simp [q_cat, q_catI, q_catJ, q_catR, q_catN]; done)) (by rw [hb13]; first | done | rfl) dX14_yawn_36 ⟨(by first | omega | (dsimp only; omega)), (by first | omega | (dsimp only; omega))⟩) (fun x11 M12 h => ?_)
    refine q_if_eq (pc := 39) C 52 dX14_yawn_39 (by decide) (fun c14 => ?_) (fun c14 => ?_)
    · have h := h.1 c14
      refine q_widen (k2 := 0) (n2 := 0) (by omega) (by omega) ?_
      refine q_lv [1] rfl ?_
      exact tX14_yawn_52 C hr hlocks hg h
    · have h := h.2 c14
      refine q_aload_n (pc := 42) C 2 0 dX14_yawn_42 rfl rfl ?_
      refine q_gRN (pc := 43) C h (host := "LullabygateModel") (T := TX10) rfl (by decide) (by decide +kernel) 1430 (by decide +kernel) (fun _ h9 => h9) dX14_yawn_43 (fun x15 h => ?_)
      obtain ⟨b18, fs9, hb18, hm9, h⟩ := h
      refine q_ci (pc := 46) (q_rV C (st := []) (b := b18) (kJx4a65c_isEmpty_aae02 l G b0 h) (cwV 0 C.2.2.2.2.1 gX14_yawn_Jx4a65c_isEmpty_aae02 rfl rfl rfl (by decide +kernel) ⟨Nat.le_of_ble_eq_true rfl, Nat.le_of_ble_eq_true rfl⟩) hm9 rfl rfl rfl (by first | exact Nat.le_of_ble_eq_true rfl | (simp [q_cat, q_catI, q_catJ, q_catR, q_catN]; done)) (by rw [hb18]; first | done | rfl) dX14_yawn_46 ⟨(by first | omega | (dsimp only; omega)), (by first | omega | (dsimp only; omega))⟩) (fun x16 M17 h => ?_)
      refine q_if_eq (pc := 49) C 58 dX14_yawn_49 (by decide) (fun c19 => ?_) (fun c19 => ?_)
      · have h := h.1 c19
        refine q_aload_n (pc := 58) C 0 1 dX14_yawn_58 rfl rfl ?_
        refine q_dup (pc := 59) C dX14_yawn_59 (q_cat _) ?_
        refine q_gI (pc := 60) C h (T := TX14) rfl (by decide) (wk_u bm_X14_yawn wm_X14_yawn uq_X14 (by decide +kernel)) (by decide +kernel) (fun _ h9 => h9) dX14_yawn_60 (fun x20 h => ?_)
        refine q_iconst (pc := 63) C 1 dX14_yawn_63 (by decide) ?_
        refine q_iadd (pc := 64) C dX14_yawn_64 ?_
        refine q_p (pc := 65) C h .int (T := TX14) tyX14 tyX14_ok nmX14 rfl (by decide +kernel) rfl rfl rfl (by decide) (wk_u bm_X14_yawn wm_X14_yawn uq_X14 (by decide +kernel)) (by decide +kernel) (fun _ h9 => h9) rfl dX14_yawn_65 (fun M21 h => ?_)
        refine q_aload_n (pc := 68) C 2 0 dX14_yawn_68 rfl rfl ?_
        refine q_gRN (pc := 69) C h (host := "LullabygateModel") (T := TX10) rfl (by decide) (by decide +kernel) 1430 (by decide +kernel) (fun _ h9 => h9) dX14_yawn_69 (fun x22 h => ?_)
        refine q_iconst (pc := 72) C 0 dX14_yawn_72 (by decide) ?_
        obtain ⟨b25, fs9, hb25, hm9, h⟩ := h
        refine q_cq (pc := 73) (q_rV C (st := []) (b := b25) (kJx4a65c_get_915e3 l G b0 h) (cwV 1 C.2.2.2.2.1 gX14_yawn_Jx4a65c_get_915e3 rfl rfl rfl (by decide +kernel) ⟨Nat.le_of_ble_eq_true rfl, Nat.le_of_ble_eq_true rfl⟩) hm9 rfl rfl rfl (by first | exact Nat.le_of_ble_eq_true rfl | (simp [q_cat, q_catI, q_catJ, q_catR, q_catN]; done)) (by rw [hb25]; first | done | rfl) dX14_yawn_73 ⟨(by first | omega | (dsimp only; omega)), (by first | omega | (dsimp only; omega))⟩) (fun x23 M24 h => ?_)
        refine q_cast (pc := 76) C h rfl rfl (by decide +kernel) dX14_yawn_76 (fun h => ?_)
        obtain ⟨b28, fs9, hb28, hm9, h⟩ := h
        refine q_ci (pc := 79) (q_rV C (st := []) (b := b28) (kJ6_intValue_8abf5 l G b0 h) (cwV 0 C.2.2.2.2.1 gX14_yawn_J6_intValue_8abf5 rfl rfl rfl (by decide +kernel) ⟨Nat.le_of_ble_eq_true rfl, Nat.le_of_ble_eq_true rfl⟩) hm9 rfl rfl rfl (by first | exact Nat.le_of_ble_eq_true rfl | (simp [q_cat, q_catI, q_catJ, q_catR, q_catN]; done)) (by rw [hb28]; first | done | rfl) dX14_yawn_79 ⟨(by first | omega | (dsimp only; omega)), (by first | omega | (dsimp only; omega))⟩) (fun x26 M27 h => ?_)
        refine q_istore_n (pc := 82) C 3 [(3, .int x26), (2, va_rf x7), (0, va_rf l0), (1, .int l1)] dX14_yawn_82 rfl (by decide) (by first | rfl | simp [q_cat, q_catI, q_catJ, q_catR, q_catN]) ?_
        refine q_aload_n (pc := 83) C 0 2 dX14_yawn_83 rfl rfl ?_
        refine q_iload_n (pc := 84) C 3 0 dX14_yawn_84 rfl rfl ?_
        refine q_iconst (pc := 85) C 0 dX14_yawn_85 (by decide) ?_
        obtain ⟨b30, fs9, hb30, hm9, h⟩ := h
        refine q_cv (pc := 86) (q_rV C (st := []) (b := b30) (kX14_stepOut l G b0 h) (cwV 2 C.2.2.2.2.1 gX14_yawn_X14_stepOut rfl rfl rfl (by decide +kernel) ⟨Nat.le_of_ble_eq_true rfl, Nat.le_of_ble_eq_true rfl⟩) hm9 rfl rfl rfl (by first | exact Nat.le_of_ble_eq_true rfl | (simp [q_cat, q_catI, q_catJ, q_catR, q_catN]; done)) (by rw [hb30]; first | done | rfl) dX14_yawn_86 ⟨(by first | omega | (dsimp only; omega)), (by first | omega | (dsimp only; omega))⟩) (fun M29 h => ?_)
        refine q_aload_n (pc := 89) C 0 2 dX14_yawn_89 rfl rfl ?_
        refine q_iload_n (pc := 90) C 3 0 dX14_yawn_90 rfl rfl ?_
        refine q_iload_n (pc := 91) C 1 3 dX14_yawn_91 rfl rfl ?_
        obtain ⟨b33, fs9, hb33, hm9, h⟩ := h
        refine q_ci (pc := 92) (q_rV C (st := []) (b := b33) (kX14_isGoodNow l G b0 h) (cwV 2 C.2.2.2.2.1 gX14_yawn_X14_isGoodNow rfl rfl rfl (by decide +kernel) ⟨Nat.le_of_ble_eq_true rfl, Nat.le_of_ble_eq_true rfl⟩) hm9 rfl rfl rfl (by first | exact Nat.le_of_ble_eq_true rfl | (simp [q_cat, q_catI, q_catJ, q_catR, q_catN]; done)) (by rw [hb33]; first | done | rfl) dX14_yawn_92 ⟨(by first | omega | (dsimp only; omega)), (by first | omega | (dsimp only; omega))⟩) (fun x31 M32 h => ?_)
        refine q_if_eq (pc := 95) C 107 dX14_yawn_95 (by decide) (fun c34 => ?_) (fun c34 => ?_)
        · have h := h.1 c34
          refine q_iconst (pc := 107) C (-1) dX14_yawn_107 (by decide) ?_
          refine q_widen (k2 := 72) (n2 := 11736) (by omega) (by omega) ?_
          refine q_lv [2, 1] rfl ?_
          exact tX14_yawn_108 C hr hlocks hg h
        · have h := h.2 c34
          refine q_aload_n (pc := 98) C 0 2 dX14_yawn_98 rfl rfl ?_
          refine q_iload_n (pc := 99) C 3 0 dX14_yawn_99 rfl rfl ?_
          refine q_aload_n (pc := 100) C 2 1 dX14_yawn_100 rfl rfl ?_
          obtain ⟨b37, fs9, hb37, hm9, h⟩ := h
          refine q_ci (pc := 101) (q_rV C (st := []) (b := b37) (kX14_comeThrough l G b0 hg h) (cwV 2 C.2.2.2.2.1 gX14_yawn_X14_comeThrough rfl rfl rfl (by decide +kernel) ⟨Nat.le_of_ble_eq_true rfl, Nat.le_of_ble_eq_true rfl⟩) hm9 rfl rfl rfl (by first | exact Nat.le_of_ble_eq_true rfl | (simp [q_cat, q_catI, q_catJ, q_catR, q_catN]; done)) (by rw [hb37]; first | done | rfl) dX14_yawn_101 ⟨(by first | omega | (dsimp only; omega)), (by first | omega | (dsimp only; omega))⟩) (fun x35 M36 h => ?_)
          refine q_goto (pc := 104) C 108 dX14_yawn_104 (by decide) ?_
          refine q_widen (k2 := 72) (n2 := 11736) (by omega) (by omega) ?_
          refine q_lv [2, 1] rfl ?_
          exact tX14_yawn_108 C hr hlocks hg h
      · have h := h.2 c19
        refine q_widen (k2 := 0) (n2 := 0) (by omega) (by omega) ?_
        refine q_lv [1] rfl ?_
        exact tX14_yawn_52 C hr hlocks hg h
  · have h := h.1 c5
    refine q_aload_n (pc := 13) C 0 0 dX14_yawn_13 rfl rfl ?_
    refine q_iconst (pc := 14) C 1 dX14_yawn_14 (by decide) ?_
    obtain ⟨b40, fs9, hb40, hm9, h⟩ := h
    refine q_ci (pc := 15) (q_rV C (st := []) (b := b40) (kX14_refuse l G b0 h) (cwV 1 C.2.2.2.2.1 gX14_yawn_X14_refuse rfl rfl rfl (by decide +kernel) ⟨Nat.le_of_ble_eq_true rfl, Nat.le_of_ble_eq_true rfl⟩) hm9 rfl rfl rfl (by first | exact Nat.le_of_ble_eq_true rfl | (simp [q_cat, q_catI, q_catJ, q_catR, q_catN]; done)) (by rw [hb40]; first | done | rfl) dX14_yawn_15 ⟨(by first | omega | (dsimp only; omega)), (by first | omega | (dsimp only; omega))⟩) (fun x38 M39 h => ?_)
    exact q_iret (pc := 18) C hr hlocks h dX14_yawn_18 (by omega) (by omega)
set_option maxRecDepth 100000 in
set_option maxHeartbeats 4000000 in
theorem kX14_yawn (l : Launch) (G : mG) (b0 : Nat) {g : Nat → Nat} (hg : G.2.2 = g) {b : Nat} {l1 : Int32} {M : mM} {κ : Int32 → mM → Prop} (h : wX14_yawn g κ (some b) l1 M) : Met l yX14_yawn wsX14_yawn ({ frames := 9, cells := 72, slots := 11736, locals := 222 } : Room) (va_Pc [.ref b, .int l1] (m_Pre G b0 M)) (va_Qi κ (m_B G b0) (fun q => b0 ≤ q)) 72 11736 (fun q => b0 ≤ q) := by
  refine m_met (cc := cX14_yawn) (maxL := 7) (ret := (some .int)) (lv := [(0, va_rf (some b)), (1, .int l1)]) RX14 rfl (by decide +kernel) rfl (by first | exact Nat.le_of_ble_eq_true rfl | simp [lg_sl, q_cat, q_catI, q_catJ, q_catR, q_catN]) (by first | rfl | (simp [lv_args, q_cat, q_catI, q_catJ, q_catR, q_catN]; done) | (simp [lv_args, q_cat, q_catI, q_catJ, q_catR, q_catN]; rfl)) ?_
  intro p e s m args below meth c C hr hlocks hni
  exact tX14_yawn C hr hlocks hg h
