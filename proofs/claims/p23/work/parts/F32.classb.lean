/-! X8_beginHour -/
set_option maxRecDepth 100000 in
set_option maxHeartbeats 4000000 in
theorem tX8_beginHour_79 {p : Program} {l : Launch} {e : Env} {s : State} {m : MethodId} {args : Array Value} {below : List Frame} {meth : Method} {c : Code} {G : mG} {b0 : Nat} (C : m_C p s m args c cX8_beginHour 3 RX8 wsX8_beginHour G b0) (hr : meth.sig.returnType = none) (hlocks : meth.locks = false) {κ : mM → Prop} {R34 : Option Nat → Int32 → mM → Prop} (hR34 : ∀ (l0 : Option Nat) (l1 : Int32) (M : mM), R34 l0 l1 M → m_W p l e ({ frames := 4, cells := 0, slots := 0, locals := 88 } : Room) s m args below meth c G b0 (MQ below (va_Qv κ (m_B G b0) (fun q => b0 ≤ q)) args s 0 0 (fun q => b0 ≤ q)) 3 M 0 0 34 [(0, va_rf l0), (1, .int l1)] []) {l0 : Option Nat} {l1 : Int32} {s0 : Int32} {s1 : Option Nat} {M : mM} (h : wX8_beginHour_79 κ R34 l0 l1 s0 s1 M) : m_W p l e ({ frames := 4, cells := 0, slots := 0, locals := 88 } : Room) s m args below meth c G b0 (MQ below (va_Qv κ (m_B G b0) (fun q => b0 ≤ q)) args s 0 0 (fun q => b0 ≤ q)) 3 M 0 0 79 [(0, va_rf l0), (1, .int l1)] [.int s0, va_rf s1] := by
  unfold wX8_beginHour_79 at h
  refine q_p (pc := 79) C h .int (T := TX0) tyX0 tyX0_ok nmX0 rfl (by decide +kernel) rfl rfl rfl (by decide) (wk_u rfl wm_X8_beginHour uq_X0 (by decide +kernel)) (by decide +kernel) (fun _ h9 => h9) rfl dX8_beginHour_79 (fun M1 h => ?_)
  refine q_iinc (pc := 82) C 1 1 (l1 + 1) [(1, .int (l1 + 1)), (0, va_rf l0)] dX8_beginHour_82 rfl (by rfl) (by decide) (by first | rfl | simp [q_cat, q_catI, q_catJ, q_catR, q_catN]) ?_
  refine q_goto (pc := 85) C 34 dX8_beginHour_85 (by decide) ?_
  refine q_widen (k2 := 0) (n2 := 0) (by omega) (by omega) ?_
  refine q_lv [1, 0] rfl ?_
  exact hR34 _ _ _ h
set_option maxRecDepth 100000 in
set_option maxHeartbeats 4000000 in
theorem tX8_beginHour_34 {p : Program} {l : Launch} {e : Env} {s : State} {m : MethodId} {args : Array Value} {below : List Frame} {meth : Method} {c : Code} {G : mG} {b0 : Nat} (C : m_C p s m args c cX8_beginHour 3 RX8 wsX8_beginHour G b0) (hr : meth.sig.returnType = none) (hlocks : meth.locks = false) {κ : mM → Prop} : ∀ (f : Nat) (l0 : Option Nat) (l1 : Int32) (M : mM), wX8_beginHour_34 κ f l0 l1 M → m_W p l e ({ frames := 4, cells := 0, slots := 0, locals := 88 } : Room) s m args below meth c G b0 (MQ below (va_Qv κ (m_B G b0) (fun q => b0 ≤ q)) args s 0 0 (fun q => b0 ≤ q)) 3 M 0 0 34 [(0, va_rf l0), (1, .int l1)] [] := by
  intro f
  induction f with
  | zero =>
    intro l0 l1 M h
    exact absurd h (by simp [wX8_beginHour_34])
  | succ f ih =>
    intro l0 l1 M h
    rw [wX8_beginHour_34] at h
    refine q_iload_n (pc := 34) C 1 1 dX8_beginHour_34 rfl rfl ?_
    refine q_aload_n (pc := 35) C 0 0 dX8_beginHour_35 rfl rfl ?_
    refine q_gR (pc := 36) C h (T := TX8) rfl (by decide) (wk_u rfl wm_X8_beginHour uq_X8 (by decide +kernel)) (by decide +kernel) (fun _ h9 => h9) dX8_beginHour_36 (fun x1 h => ?_)
    obtain ⟨b4, fs9, hb4, hm9, h⟩ := h
    refine q_ci (pc := 39) (q_rV C (st := [.int l1]) (b := b4) (kJx4a65c_size_8abf5 l G b0 h) (cwV 0 C.2.2.2.2.1 gX8_beginHour_Jx4a65c_size_8abf5 rfl rfl rfl (by decide +kernel) ⟨Nat.le_of_ble_eq_true rfl, Nat.le_of_ble_eq_true rfl⟩) hm9 rfl rfl rfl (by first | exact Nat.le_of_ble_eq_true rfl | (simp [q_cat, q_catI, q_catJ, q_catR, q_catN]; done)) (by rw [hb4]; first | done | rfl) dX8_beginHour_39 ⟨(by first | omega | (dsimp only; omega)), (by first | omega | (dsimp only; omega))⟩) (fun x2 M3 h => ?_)
    refine q_icmp_ge (pc := 42) C 88 dX8_beginHour_42 (by decide) (fun c5 => ?_) (fun c5 => ?_)
    · have h := h.1 c5
      exact q_vret (pc := 88) C hr hlocks h dX8_beginHour_88 (by omega) (by omega)
    · have h := h.2 c5
      refine q_aload_n (pc := 45) C 0 0 dX8_beginHour_45 rfl rfl ?_
      refine q_gR (pc := 46) C h (T := TX8) rfl (by decide) (wk_u rfl wm_X8_beginHour uq_X8 (by decide +kernel)) (by decide +kernel) (fun _ h9 => h9) dX8_beginHour_46 (fun x6 h => ?_)
      refine q_iload_n (pc := 49) C 1 1 dX8_beginHour_49 rfl rfl ?_
      obtain ⟨b9, fs9, hb9, hm9, h⟩ := h
      refine q_cq (pc := 50) (q_rV C (st := []) (b := b9) (kJx4a65c_get_915e3 l G b0 h) (cwV 1 C.2.2.2.2.1 gX8_beginHour_Jx4a65c_get_915e3 rfl rfl rfl (by decide +kernel) ⟨Nat.le_of_ble_eq_true rfl, Nat.le_of_ble_eq_true rfl⟩) hm9 rfl rfl rfl (by first | exact Nat.le_of_ble_eq_true rfl | (simp [q_cat, q_catI, q_catJ, q_catR, q_catN]; done)) (by rw [hb9]; first | done | rfl) dX8_beginHour_50 ⟨(by first | omega | (dsimp only; omega)), (by first | omega | (dsimp only; omega))⟩) (fun x7 M8 h => ?_)
      refine q_cast (pc := 53) C h rfl rfl (by decide +kernel) dX8_beginHour_53 (fun h => ?_)
      refine q_astore_n (pc := 56) C 2 [(2, va_rf x7), (0, va_rf l0), (1, .int l1)] dX8_beginHour_56 rfl (by decide) (by first | rfl | simp [q_cat, q_catI, q_catJ, q_catR, q_catN]) ?_
      refine q_aload_n (pc := 57) C 2 0 dX8_beginHour_57 rfl rfl ?_
      refine q_aload_n (pc := 58) C 2 0 dX8_beginHour_58 rfl rfl ?_
      refine q_aload_n (pc := 59) C 0 1 dX8_beginHour_59 rfl rfl ?_
      refine q_gI (pc := 60) C h (T := TX8) rfl (by decide) (wk_u rfl wm_X8_beginHour uq_X8 (by decide +kernel)) (by decide +kernel) (fun _ h9 => h9) dX8_beginHour_60 (fun x10 h => ?_)
      obtain ⟨b13, fs9, hb13, hm9, h⟩ := h
      refine q_ci (pc := 63) (q_rV C (st := [va_rf x7]) (b := b13) (kX0_isOpenAt l G b0 h) (cwV 1 C.2.2.2.2.1 gX8_beginHour_X0_isOpenAt rfl rfl rfl (by decide +kernel) ⟨Nat.le_of_ble_eq_true rfl, Nat.le_of_ble_eq_true rfl⟩) hm9 rfl rfl rfl (by first | exact Nat.le_of_ble_eq_true rfl | (simp [q_cat, q_catI, q_catJ, q_catR, q_catN]; done)) (by rw [hb13]; first | done | rfl) dX8_beginHour_63 ⟨(by first | omega | (dsimp only; omega)), (by first | omega | (dsimp only; omega))⟩) (fun x11 M12 h => ?_)
      refine q_if_eq (pc := 66) C 78 dX8_beginHour_66 (by decide) (fun c14 => ?_) (fun c14 => ?_)
      · have h := h.1 c14
        refine q_iconst (pc := 78) C 0 dX8_beginHour_78 (by decide) ?_
        refine q_widen (k2 := 0) (n2 := 0) (by omega) (by omega) ?_
        refine q_lv [1, 2] rfl ?_
        exact tX8_beginHour_79 C hr hlocks ih h
      · have h := h.2 c14
        refine q_aload_n (pc := 69) C 2 0 dX8_beginHour_69 rfl rfl ?_
        refine q_gI (pc := 70) C h (T := TX0) rfl (by decide) (wk_u rfl wm_X8_beginHour uq_X0 (by decide +kernel)) (by decide +kernel) (fun _ h9 => h9) dX8_beginHour_70 (fun x15 h => ?_)
        refine q_iconst (pc := 73) C 1 dX8_beginHour_73 (by decide) ?_
        refine q_iadd (pc := 74) C dX8_beginHour_74 ?_
        refine q_goto (pc := 75) C 79 dX8_beginHour_75 (by decide) ?_
        refine q_widen (k2 := 0) (n2 := 0) (by omega) (by omega) ?_
        refine q_lv [1, 2] rfl ?_
        exact tX8_beginHour_79 C hr hlocks ih h
set_option maxRecDepth 100000 in
set_option maxHeartbeats 4000000 in
theorem tX8_beginHour_28 {p : Program} {l : Launch} {e : Env} {s : State} {m : MethodId} {args : Array Value} {below : List Frame} {meth : Method} {c : Code} {G : mG} {b0 : Nat} (C : m_C p s m args c cX8_beginHour 3 RX8 wsX8_beginHour G b0) (hr : meth.sig.returnType = none) (hlocks : meth.locks = false) {κ : mM → Prop} {l0 : Option Nat} {M : mM} (h : wX8_beginHour_28 κ l0 M) : m_W p l e ({ frames := 4, cells := 0, slots := 0, locals := 88 } : Room) s m args below meth c G b0 (MQ below (va_Qv κ (m_B G b0) (fun q => b0 ≤ q)) args s 0 0 (fun q => b0 ≤ q)) 3 M 0 0 28 [(0, va_rf l0)] [] := by
  unfold wX8_beginHour_28 at h
  refine q_aload_n (pc := 28) C 0 0 dX8_beginHour_28 rfl rfl ?_
  obtain ⟨b2, fs9, hb2, hm9, h⟩ := h
  refine q_cv (pc := 29) (q_rV C (st := []) (b := b2) (kX8_spreadRevoked l G b0 h) (cwV 0 C.2.2.2.2.1 gX8_beginHour_X8_spreadRevoked rfl rfl rfl (by decide +kernel) ⟨Nat.le_of_ble_eq_true rfl, Nat.le_of_ble_eq_true rfl⟩) hm9 rfl rfl rfl (by first | exact Nat.le_of_ble_eq_true rfl | (simp [q_cat, q_catI, q_catJ, q_catR, q_catN]; done)) (by rw [hb2]; first | done | rfl) dX8_beginHour_29 ⟨(by first | omega | (dsimp only; omega)), (by first | omega | (dsimp only; omega))⟩) (fun M1 h => ?_)
  refine q_iconst (pc := 32) C 0 dX8_beginHour_32 (by decide) ?_
  refine q_istore_n (pc := 33) C 1 [(1, .int 0), (0, va_rf l0)] dX8_beginHour_33 rfl (by decide) (by first | rfl | simp [q_cat, q_catI, q_catJ, q_catR, q_catN]) ?_
  refine q_widen (k2 := 0) (n2 := 0) (by omega) (by omega) ?_
  refine q_lv [1, 0] rfl ?_
  obtain ⟨f9, h⟩ := h
  exact tX8_beginHour_34 C hr hlocks f9 _ _ _ h
set_option maxRecDepth 100000 in
set_option maxHeartbeats 4000000 in
theorem tX8_beginHour {p : Program} {l : Launch} {e : Env} {s : State} {m : MethodId} {args : Array Value} {below : List Frame} {meth : Method} {c : Code} {G : mG} {b0 : Nat} (C : m_C p s m args c cX8_beginHour 3 RX8 wsX8_beginHour G b0) (hr : meth.sig.returnType = none) (hlocks : meth.locks = false) {κ : mM → Prop} {l0 : Option Nat} {M : mM} (h : wX8_beginHour κ l0 M) : m_W p l e ({ frames := 4, cells := 0, slots := 0, locals := 88 } : Room) s m args below meth c G b0 (MQ below (va_Qv κ (m_B G b0) (fun q => b0 ≤ q)) args s 0 0 (fun q => b0 ≤ q)) 3 M 0 0 0 [(0, va_rf l0)] [] := by
  unfold wX8_beginHour at h
  refine q_aload_n (pc := 0) C 0 0 dX8_beginHour_0 rfl rfl ?_
  refine q_dup (pc := 1) C dX8_beginHour_1 (q_cat _) ?_
  refine q_gI (pc := 2) C h (T := TX8) rfl (by decide) (wk_u rfl wm_X8_beginHour uq_X8 (by decide +kernel)) (by decide +kernel) (fun _ h9 => h9) dX8_beginHour_2 (fun x1 h => ?_)
  refine q_iconst (pc := 5) C 1 dX8_beginHour_5 (by decide) ?_
  refine q_iadd (pc := 6) C dX8_beginHour_6 ?_
  refine q_p (pc := 7) C h .int (T := TX8) tyX8 tyX8_ok nmX8 rfl (by decide +kernel) rfl rfl rfl (by decide) (wk_u rfl wm_X8_beginHour uq_X8 (by decide +kernel)) (by decide +kernel) (fun _ h9 => h9) rfl dX8_beginHour_7 (fun M2 h => ?_)
  refine q_aload_n (pc := 10) C 0 0 dX8_beginHour_10 rfl rfl ?_
  refine q_gI (pc := 11) C h (T := TX8) rfl (by decide) (wk_u rfl wm_X8_beginHour uq_X8 (by decide +kernel)) (by decide +kernel) (fun _ h9 => h9) dX8_beginHour_11 (fun x3 h => ?_)
  refine q_bipush (pc := 14) C 24 dX8_beginHour_14 (by decide) ?_
  refine q_icmp_ne (pc := 16) C 28 dX8_beginHour_16 (by decide) (fun c4 => ?_) (fun c4 => ?_)
  · have h := h.2 c4
    refine q_widen (k2 := 0) (n2 := 0) (by omega) (by omega) ?_
    refine q_lv [0] rfl ?_
    exact tX8_beginHour_28 C hr hlocks h
  · have h := h.1 c4
    refine q_aload_n (pc := 19) C 0 0 dX8_beginHour_19 rfl rfl ?_
    refine q_iconst (pc := 20) C 0 dX8_beginHour_20 (by decide) ?_
    refine q_p (pc := 21) C h .int (T := TX8) tyX8 tyX8_ok nmX8 rfl (by decide +kernel) rfl rfl rfl (by decide) (wk_u rfl wm_X8_beginHour uq_X8 (by decide +kernel)) (by decide +kernel) (fun _ h9 => h9) rfl dX8_beginHour_21 (fun M5 h => ?_)
    refine q_aload_n (pc := 24) C 0 0 dX8_beginHour_24 rfl rfl ?_
    obtain ⟨b7, fs9, hb7, hm9, h⟩ := h
    refine q_cv (pc := 25) (q_rV C (st := []) (b := b7) (kX8_beginNight l G b0 h) (cwV 0 C.2.2.2.2.1 gX8_beginHour_X8_beginNight rfl rfl rfl (by decide +kernel) ⟨Nat.le_of_ble_eq_true rfl, Nat.le_of_ble_eq_true rfl⟩) hm9 rfl rfl rfl (by first | exact Nat.le_of_ble_eq_true rfl | (simp [q_cat, q_catI, q_catJ, q_catR, q_catN]; done)) (by rw [hb7]; first | done | rfl) dX8_beginHour_25 ⟨(by first | omega | (dsimp only; omega)), (by first | omega | (dsimp only; omega))⟩) (fun M6 h => ?_)
    refine q_widen (k2 := 0) (n2 := 0) (by omega) (by omega) ?_
    refine q_lv [0] rfl ?_
    exact tX8_beginHour_28 C hr hlocks h
set_option maxRecDepth 100000 in
set_option maxHeartbeats 4000000 in
theorem kX8_beginHour (l : Launch) (G : mG) (b0 : Nat) {b : Nat} {M : mM} {κ : mM → Prop} (h : wX8_beginHour κ (some b) M) : Met l yX8_beginHour wsX8_beginHour ({ frames := 4, cells := 0, slots := 0, locals := 88 } : Room) (va_Pc [.ref b] (m_Pre G b0 M)) (va_Qv κ (m_B G b0) (fun q => b0 ≤ q)) 0 0 (fun q => b0 ≤ q) := by
  refine m_met (cc := cX8_beginHour) (maxL := 3) (ret := none) (lv := [(0, va_rf (some b))]) RX8 rfl (by decide +kernel) rfl (by first | exact Nat.le_of_ble_eq_true rfl | simp [lg_sl, q_cat, q_catI, q_catJ, q_catR, q_catN]) (by first | rfl | (simp [lv_args, q_cat, q_catI, q_catJ, q_catR, q_catN]; done) | (simp [lv_args, q_cat, q_catI, q_catJ, q_catR, q_catN]; rfl)) ?_
  intro p e s m args below meth c C hr hlocks hni
  exact tX8_beginHour C hr hlocks h
/-! X8_pass -/
set_option maxRecDepth 100000 in
set_option maxHeartbeats 4000000 in
theorem tX8_pass_39 {p : Program} {l : Launch} {e : Env} {s : State} {m : MethodId} {args : Array Value} {below : List Frame} {meth : Method} {c : Code} {G : mG} {b0 : Nat} (C : m_C p s m args c cX8_pass 3 RX8 wsX8_pass G b0) (hr : meth.sig.returnType = (some .int)) (hlocks : meth.locks = false) {t : Nat} (hL : l.stackTraces = false) (hx : ∀ x ∈ c.exceptionTable.toList, False) {κ : Int32 → mM → Prop} {ξ : String → mM → Prop} (ht : ∀ E M, ξ E M → 1 ≤ t) : ∀ (f : Nat) (l0 : Option Nat) (l1 : Int32) (l2 : Int32) (M : mM), wX8_pass_39 κ ξ f l0 l1 l2 M → m_W p l e ({ frames := 7, cells := (0 + 2 * t), slots := (0 + 12 * t), locals := 112 } : Room) s m args below meth c G b0 (vx_MQ below (va_Qi κ (m_B G b0) (fun q => b0 ≤ q)) (m_X G b0 ξ) args s (0 + 2 * t) (0 + 12 * t) (fun q => b0 ≤ q)) 3 M (0 + 1 * t) (0 + 6 * t) 39 [(0, va_rf l0), (1, .int l1), (2, .int l2)] [] := by
  intro f
  induction f with
  | zero =>
    intro l0 l1 l2 M h
    exact absurd h (by simp [wX8_pass_39])
  | succ f ih =>
    intro l0 l1 l2 M h
    rw [wX8_pass_39] at h
    refine q_iload_n (pc := 39) C 2 2 dX8_pass_39 rfl rfl ?_
    refine q_iload_n (pc := 40) C 1 1 dX8_pass_40 rfl rfl ?_
    refine q_icmp_ge (pc := 41) C 54 dX8_pass_41 (by decide) (fun c1 => ?_) (fun c1 => ?_)
    · have h := h.1 c1
      refine q_aload_n (pc := 54) C 0 0 dX8_pass_54 rfl rfl ?_
      refine q_gI (pc := 55) C h (T := TX8) rfl (by decide) (wk_u rfl wm_X8_pass uq_X8 (by decide +kernel)) (by decide +kernel) (fun _ h9 => h9) dX8_pass_55 (fun x2 h => ?_)
      exact q_iretX (pc := 58) C hr hlocks h dX8_pass_58 (by omega) (by omega)
    · have h := h.2 c1
      refine q_aload_n (pc := 44) C 0 0 dX8_pass_44 rfl rfl ?_
      obtain ⟨b4, fs9, hb4, hm9, h⟩ := h
      refine q_cv (pc := 45) (q_rV C (st := []) (b := b4) (kX8_beginHour l G b0 h) (cwV 0 C.2.2.2.2.1 gX8_pass_X8_beginHour rfl rfl rfl (by decide +kernel) ⟨Nat.le_of_ble_eq_true rfl, Nat.le_of_ble_eq_true rfl⟩) hm9 rfl rfl rfl (by first | exact Nat.le_of_ble_eq_true rfl | (simp [q_cat, q_catI, q_catJ, q_catR, q_catN]; done)) (by rw [hb4]; first | done | rfl) dX8_pass_45 ⟨(by first | omega | (dsimp only; omega)), (by first | omega | (dsimp only; omega))⟩) (fun M3 h => ?_)
      refine q_iinc (pc := 48) C 2 2 (l2 + 1) [(2, .int (l2 + 1)), (0, va_rf l0), (1, .int l1)] dX8_pass_48 rfl (by rfl) (by decide) (by first | rfl | simp [q_cat, q_catI, q_catJ, q_catR, q_catN]) ?_
      refine q_goto (pc := 51) C 39 dX8_pass_51 (by decide) ?_
      refine q_widen (k2 := (0 + 1 * t)) (n2 := (0 + 6 * t)) (by omega) (by omega) ?_
      refine q_lv [1, 2, 0] rfl ?_
      exact ih _ _ _ _ h
set_option maxRecDepth 100000 in
set_option maxHeartbeats 4000000 in
theorem tX8_pass {p : Program} {l : Launch} {e : Env} {s : State} {m : MethodId} {args : Array Value} {below : List Frame} {meth : Method} {c : Code} {G : mG} {b0 : Nat} (C : m_C p s m args c cX8_pass 3 RX8 wsX8_pass G b0) (hr : meth.sig.returnType = (some .int)) (hlocks : meth.locks = false) {t : Nat} (hL : l.stackTraces = false) (hx : ∀ x ∈ c.exceptionTable.toList, False) {κ : Int32 → mM → Prop} {ξ : String → mM → Prop} (ht : ∀ E M, ξ E M → 1 ≤ t) {l0 : Option Nat} {l1 : Int32} {M : mM} (h : wX8_pass κ ξ l0 l1 M) : m_W p l e ({ frames := 7, cells := (0 + 2 * t), slots := (0 + 12 * t), locals := 112 } : Room) s m args below meth c G b0 (vx_MQ below (va_Qi κ (m_B G b0) (fun q => b0 ≤ q)) (m_X G b0 ξ) args s (0 + 2 * t) (0 + 12 * t) (fun q => b0 ≤ q)) 3 M 0 0 0 [(0, va_rf l0), (1, .int l1)] [] := by
  unfold wX8_pass at h
  refine q_iload_n (pc := 0) C 1 1 dX8_pass_0 rfl rfl ?_
  refine q_iconst (pc := 1) C 1 dX8_pass_1 (by decide) ?_
  refine q_bipush (pc := 2) C 48 dX8_pass_2 (by decide) ?_
  refine q_cXv (pc := 4) (q_rSX C (st := []) (kX8_demandRange l G b0 (t := t) hL ht h) (va_cwS 3 C.2.2.2.2.1 gX8_pass_X8_demandRange rfl rfl rfl (by decide +kernel) ⟨Nat.le_of_ble_eq_true rfl, Nat.le_of_ble_eq_true rfl⟩) rfl (by first | exact Nat.le_of_ble_eq_true rfl | (simp [q_cat, q_catI, q_catJ, q_catR, q_catN]; done)) rfl dX8_pass_4 ⟨(by first | omega | (dsimp only; omega)), (by first | omega | (dsimp only; omega))⟩) (fun E9 M9 h9 => q_out C hx hlocks h9 (by omega) (by omega)) (fun M1 h => ?_)
  refine q_aload_n (pc := 7) C 0 0 dX8_pass_7 rfl rfl ?_
  refine q_gI (pc := 8) C h (T := TX8) rfl (by decide) (wk_u rfl wm_X8_pass uq_X8 (by decide +kernel)) (by decide +kernel) (fun _ h9 => h9) dX8_pass_8 (fun x2 h => ?_)
  refine q_aload_n (pc := 11) C 0 0 dX8_pass_11 rfl rfl ?_
  refine q_gI (pc := 12) C h (T := TX8) rfl (by decide) (wk_u rfl wm_X8_pass uq_X8 (by decide +kernel)) (by decide +kernel) (fun _ h9 => h9) dX8_pass_12 (fun x3 h => ?_)
  refine q_iload_n (pc := 15) C 1 1 dX8_pass_15 rfl rfl ?_
  refine q_iadd (pc := 16) C dX8_pass_16 ?_
  refine q_bipush (pc := 17) C 24 dX8_pass_17 (by decide) ?_
  refine q_idiv (pc := 19) C dX8_pass_19 (by decide) ?_
  refine q_iadd (pc := 20) C dX8_pass_20 ?_
  refine q_bipush (pc := 21) C 99 dX8_pass_21 (by decide) ?_
  refine q_icmp_le (pc := 23) C 37 dX8_pass_23 (by decide) (fun c4 => ?_) (fun c4 => ?_)
  · have h := h.1 c4
    refine q_iconst (pc := 37) C 0 dX8_pass_37 (by decide) ?_
    refine q_istore_n (pc := 38) C 2 [(2, .int 0), (0, va_rf l0), (1, .int l1)] dX8_pass_38 rfl (by decide) (by first | rfl | simp [q_cat, q_catI, q_catJ, q_catR, q_catN]) ?_
    refine q_widen (k2 := (0 + 1 * t)) (n2 := (0 + 6 * t)) (by omega) (by omega) ?_
    refine q_lv [1, 2, 0] rfl ?_
    obtain ⟨f9, h⟩ := h
    exact tX8_pass_39 C hr hlocks hL hx ht f9 _ _ _ _ h
  · have h := h.2 c4
    have ht9 := ht _ _ h
    exact q_throwSW (pc := 26) (names := ["java/lang/RuntimeException", "java/lang/Exception"]) (text := "NIGHT would be above the last one") C hL hx hlocks h (by decide +kernel) (by decide +kernel) (by decide +kernel) (by decide +kernel) (List.mem_of_getElem? (i := 1215) (by decide +kernel)) (by decide +kernel) (by decide +kernel) (by decide +kernel) dX8_pass_26 dX8_pass_29 dX8_pass_30 dX8_pass_33 dX8_pass_36 (Nat.le_of_ble_eq_true rfl) (by first | exact Nat.le_of_ble_eq_true rfl | (simp [q_cat, q_catI, q_catJ, q_catR, q_catN]; done) | (simp [q_cat, q_catI, q_catJ, q_catR, q_catN]; decide)) (by first | omega | (dsimp only; omega)) (by first | omega | (dsimp only; omega)) (by omega) (by omega)
set_option maxRecDepth 100000 in
set_option maxHeartbeats 4000000 in
theorem kX8_pass (l : Launch) (G : mG) (b0 : Nat) {t : Nat} (hL : l.stackTraces = false) {b : Nat} {l1 : Int32} {M : mM} {κ : Int32 → mM → Prop} {ξ : String → mM → Prop} (ht : ∀ E M, ξ E M → 1 ≤ t) (h : wX8_pass κ ξ (some b) l1 M) : vx_Met l yX8_pass wsX8_pass ({ frames := 7, cells := (0 + 2 * t), slots := (0 + 12 * t), locals := 112 } : Room) (va_Pc [.ref b, .int l1] (m_Pre G b0 M)) (va_Qi κ (m_B G b0) (fun q => b0 ≤ q)) (m_X G b0 ξ) (0 + 2 * t) (0 + 12 * t) (fun q => b0 ≤ q) := by
  refine m_metX (cc := cX8_pass) (maxL := 3) (ret := (some .int)) (lv := [(0, va_rf (some b)), (1, .int l1)]) RX8 rfl (by decide +kernel) rfl (by first | exact Nat.le_of_ble_eq_true rfl | simp [lg_sl, q_cat, q_catI, q_catJ, q_catR, q_catN]) (by first | rfl | (simp [lv_args, q_cat, q_catI, q_catJ, q_catR, q_catN]; done) | (simp [lv_args, q_cat, q_catI, q_catJ, q_catR, q_catN]; rfl)) ?_
  intro p e s m args below meth c C hr hlocks hx
  exact tX8_pass C hr hlocks hL hx ht h
/-! X8_partsInStore -/
set_option maxRecDepth 100000 in
set_option maxHeartbeats 4000000 in
theorem tX8_partsInStore_36 {p : Program} {l : Launch} {e : Env} {s : State} {m : MethodId} {args : Array Value} {below : List Frame} {meth : Method} {c : Code} {G : mG} {b0 : Nat} (C : m_C p s m args c cX8_partsInStore 4 RX8 wsX8_partsInStore G b0) (hr : meth.sig.returnType = (some .int)) (hlocks : meth.locks = false) {κ : Int32 → mM → Prop} {R4 : Option Nat → Option Nat → Int32 → Int32 → mM → Prop} (hR4 : ∀ (l0 : Option Nat) (l1 : Option Nat) (l2 : Int32) (l3 : Int32) (M : mM), R4 l0 l1 l2 l3 M → m_W p l e ({ frames := 3, cells := 0, slots := 0, locals := 64 } : Room) s m args below meth c G b0 (MQ below (va_Qi κ (m_B G b0) (fun q => b0 ≤ q)) args s 0 0 (fun q => b0 ≤ q)) 4 M 0 0 4 [(0, va_rf l0), (1, va_rf l1), (2, .int l2), (3, .int l3)] []) {l0 : Option Nat} {l1 : Option Nat} {l2 : Int32} {l3 : Int32} {M : mM} (h : wX8_partsInStore_36 κ R4 l0 l1 l2 l3 M) : m_W p l e ({ frames := 3, cells := 0, slots := 0, locals := 64 } : Room) s m args below meth c G b0 (MQ below (va_Qi κ (m_B G b0) (fun q => b0 ≤ q)) args s 0 0 (fun q => b0 ≤ q)) 4 M 0 0 36 [(0, va_rf l0), (1, va_rf l1), (2, .int l2), (3, .int l3)] [] := by
  unfold wX8_partsInStore_36 at h
  refine q_iinc (pc := 36) C 3 3 (l3 + 1) [(3, .int (l3 + 1)), (0, va_rf l0), (1, va_rf l1), (2, .int l2)] dX8_partsInStore_36 rfl (by rfl) (by decide) (by first | rfl | simp [q_cat, q_catI, q_catJ, q_catR, q_catN]) ?_
  refine q_goto (pc := 39) C 4 dX8_partsInStore_39 (by decide) ?_
  refine q_widen (k2 := 0) (n2 := 0) (by omega) (by omega) ?_
  refine q_lv [1, 2, 3, 0] rfl ?_
  exact hR4 _ _ _ _ _ h
set_option maxRecDepth 100000 in
set_option maxHeartbeats 4000000 in
theorem tX8_partsInStore_4 {p : Program} {l : Launch} {e : Env} {s : State} {m : MethodId} {args : Array Value} {below : List Frame} {meth : Method} {c : Code} {G : mG} {b0 : Nat} (C : m_C p s m args c cX8_partsInStore 4 RX8 wsX8_partsInStore G b0) (hr : meth.sig.returnType = (some .int)) (hlocks : meth.locks = false) {κ : Int32 → mM → Prop} : ∀ (f : Nat) (l0 : Option Nat) (l1 : Option Nat) (l2 : Int32) (l3 : Int32) (M : mM), wX8_partsInStore_4 κ f l0 l1 l2 l3 M → m_W p l e ({ frames := 3, cells := 0, slots := 0, locals := 64 } : Room) s m args below meth c G b0 (MQ below (va_Qi κ (m_B G b0) (fun q => b0 ≤ q)) args s 0 0 (fun q => b0 ≤ q)) 4 M 0 0 4 [(0, va_rf l0), (1, va_rf l1), (2, .int l2), (3, .int l3)] [] := by
  intro f
  induction f with
  | zero =>
    intro l0 l1 l2 l3 M h
    exact absurd h (by simp [wX8_partsInStore_4])
  | succ f ih =>
    intro l0 l1 l2 l3 M h
    rw [wX8_partsInStore_4] at h
    refine q_iload_n (pc := 4) C 3 3 dX8_partsInStore_4 rfl rfl ?_
    refine q_aload_n (pc := 5) C 0 0 dX8_partsInStore_5 rfl rfl ?_
    refine q_gR (pc := 6) C h (T := TX8) rfl (by decide) (wk_u rfl wm_X8_partsInStore uq_X8 (by decide +kernel)) (by decide +kernel) (fun _ h9 => h9) dX8_partsInStore_6 (fun x1 h => ?_)
    obtain ⟨b4, fs9, hb4, hm9, h⟩ := h
    refine q_ci (pc := 9) (q_rV C (st := [.int l3]) (b := b4) (kJx4a65c_size_8abf5 l G b0 h) (cwV 0 C.2.2.2.2.1 gX8_partsInStore_Jx4a65c_size_8abf5 rfl rfl rfl (by decide +kernel) ⟨Nat.le_of_ble_eq_true rfl, Nat.le_of_ble_eq_true rfl⟩) hm9 rfl rfl rfl (by first | exact Nat.le_of_ble_eq_true rfl | (simp [q_cat, q_catI, q_catJ, q_catR, q_catN]; done)) (by rw [hb4]; first | done | rfl) dX8_partsInStore_9 ⟨(by first | omega | (dsimp only; omega)), (by first | omega | (dsimp only; omega))⟩) (fun x2 M3 h => ?_)
    refine q_icmp_ge (pc := 12) C 42 dX8_partsInStore_12 (by decide) (fun c5 => ?_) (fun c5 => ?_)
    · have h := h.1 c5
      refine q_iload_n (pc := 42) C 2 2 dX8_partsInStore_42 rfl rfl ?_
      exact q_iret (pc := 43) C hr hlocks h dX8_partsInStore_43 (by omega) (by omega)
    · have h := h.2 c5
      refine q_aload_n (pc := 15) C 0 0 dX8_partsInStore_15 rfl rfl ?_
      refine q_gR (pc := 16) C h (T := TX8) rfl (by decide) (wk_u rfl wm_X8_partsInStore uq_X8 (by decide +kernel)) (by decide +kernel) (fun _ h9 => h9) dX8_partsInStore_16 (fun x6 h => ?_)
      refine q_iload_n (pc := 19) C 3 3 dX8_partsInStore_19 rfl rfl ?_
      obtain ⟨b9, fs9, hb9, hm9, h⟩ := h
      refine q_cq (pc := 20) (q_rV C (st := []) (b := b9) (kJx4a65c_get_915e3 l G b0 h) (cwV 1 C.2.2.2.2.1 gX8_partsInStore_Jx4a65c_get_915e3 rfl rfl rfl (by decide +kernel) ⟨Nat.le_of_ble_eq_true rfl, Nat.le_of_ble_eq_true rfl⟩) hm9 rfl rfl rfl (by first | exact Nat.le_of_ble_eq_true rfl | (simp [q_cat, q_catI, q_catJ, q_catR, q_catN]; done)) (by rw [hb9]; first | done | rfl) dX8_partsInStore_20 ⟨(by first | omega | (dsimp only; omega)), (by first | omega | (dsimp only; omega))⟩) (fun x7 M8 h => ?_)
      refine q_cast (pc := 23) C h rfl rfl (by decide +kernel) dX8_partsInStore_23 (fun h => ?_)
      refine q_gR (pc := 26) C h (T := TX3) rfl (by decide) (wk_u rfl wm_X8_partsInStore uq_X3 (by decide +kernel)) (by decide +kernel) (fun _ h9 => h9) dX8_partsInStore_26 (fun x10 h => ?_)
      refine q_aload_n (pc := 29) C 1 1 dX8_partsInStore_29 rfl rfl ?_
      refine q_acmp_ne (pc := 30) C 36 dX8_partsInStore_30 (by decide) (fun c11 => ?_) (fun c11 => ?_)
      · have h := h.2 c11
        refine q_widen (k2 := 0) (n2 := 0) (by omega) (by omega) ?_
        refine q_lv [0, 1, 2, 3] rfl ?_
        exact tX8_partsInStore_36 C hr hlocks ih h
      · have h := h.1 c11
        refine q_iinc (pc := 33) C 2 2 (l2 + 1) [(2, .int (l2 + 1)), (0, va_rf l0), (1, va_rf l1), (3, .int l3)] dX8_partsInStore_33 rfl (by rfl) (by decide) (by first | rfl | simp [q_cat, q_catI, q_catJ, q_catR, q_catN]) ?_
        refine q_widen (k2 := 0) (n2 := 0) (by omega) (by omega) ?_
        refine q_lv [1, 2, 0, 3] rfl ?_
        exact tX8_partsInStore_36 C hr hlocks ih h
set_option maxRecDepth 100000 in
set_option maxHeartbeats 4000000 in
theorem tX8_partsInStore {p : Program} {l : Launch} {e : Env} {s : State} {m : MethodId} {args : Array Value} {below : List Frame} {meth : Method} {c : Code} {G : mG} {b0 : Nat} (C : m_C p s m args c cX8_partsInStore 4 RX8 wsX8_partsInStore G b0) (hr : meth.sig.returnType = (some .int)) (hlocks : meth.locks = false) {κ : Int32 → mM → Prop} {l0 : Option Nat} {l1 : Option Nat} {M : mM} (h : wX8_partsInStore κ l0 l1 M) : m_W p l e ({ frames := 3, cells := 0, slots := 0, locals := 64 } : Room) s m args below meth c G b0 (MQ below (va_Qi κ (m_B G b0) (fun q => b0 ≤ q)) args s 0 0 (fun q => b0 ≤ q)) 4 M 0 0 0 [(0, va_rf l0), (1, va_rf l1)] [] := by
  unfold wX8_partsInStore at h
  refine q_iconst (pc := 0) C 0 dX8_partsInStore_0 (by decide) ?_
  refine q_istore_n (pc := 1) C 2 [(2, .int 0), (0, va_rf l0), (1, va_rf l1)] dX8_partsInStore_1 rfl (by decide) (by first | rfl | simp [q_cat, q_catI, q_catJ, q_catR, q_catN]) ?_
  refine q_iconst (pc := 2) C 0 dX8_partsInStore_2 (by decide) ?_
  refine q_istore_n (pc := 3) C 3 [(3, .int 0), (2, .int 0), (0, va_rf l0), (1, va_rf l1)] dX8_partsInStore_3 rfl (by decide) (by first | rfl | simp [q_cat, q_catI, q_catJ, q_catR, q_catN]) ?_
  refine q_widen (k2 := 0) (n2 := 0) (by omega) (by omega) ?_
  refine q_lv [2, 3, 1, 0] rfl ?_
  obtain ⟨f9, h⟩ := h
  exact tX8_partsInStore_4 C hr hlocks f9 _ _ _ _ _ h
set_option maxRecDepth 100000 in
set_option maxHeartbeats 4000000 in
theorem kX8_partsInStore (l : Launch) (G : mG) (b0 : Nat) {b : Nat} {l1 : Option Nat} {M : mM} {κ : Int32 → mM → Prop} (h : wX8_partsInStore κ (some b) l1 M) : Met l yX8_partsInStore wsX8_partsInStore ({ frames := 3, cells := 0, slots := 0, locals := 64 } : Room) (va_Pc [.ref b, va_rf l1] (m_Pre G b0 M)) (va_Qi κ (m_B G b0) (fun q => b0 ≤ q)) 0 0 (fun q => b0 ≤ q) := by
  refine m_met (cc := cX8_partsInStore) (maxL := 4) (ret := (some .int)) (lv := [(0, va_rf (some b)), (1, va_rf l1)]) RX8 rfl (by decide +kernel) rfl (by first | exact Nat.le_of_ble_eq_true rfl | simp [lg_sl, q_cat, q_catI, q_catJ, q_catR, q_catN]) (by first | rfl | (simp [lv_args, q_cat, q_catI, q_catJ, q_catR, q_catN]; done) | (simp [lv_args, q_cat, q_catI, q_catJ, q_catR, q_catN]; rfl)) ?_
  intro p e s m args below meth c C hr hlocks hni
  exact tX8_partsInStore C hr hlocks h
/-! X8_sleepersIn -/
set_option maxRecDepth 100000 in
set_option maxHeartbeats 4000000 in
theorem tX8_sleepersIn_49 {p : Program} {l : Launch} {e : Env} {s : State} {m : MethodId} {args : Array Value} {below : List Frame} {meth : Method} {c : Code} {G : mG} {b0 : Nat} (C : m_C p s m args c cX8_sleepersIn 5 RX8 wsX8_sleepersIn G b0) (hr : meth.sig.returnType = (some .int)) (hlocks : meth.locks = false) {κ : Int32 → mM → Prop} {R4 : Option Nat → Option Nat → Int32 → Int32 → mM → Prop} (hR4 : ∀ (l0 : Option Nat) (l1 : Option Nat) (l2 : Int32) (l3 : Int32) (M : mM), R4 l0 l1 l2 l3 M → m_W p l e ({ frames := 3, cells := 0, slots := 0, locals := 64 } : Room) s m args below meth c G b0 (MQ below (va_Qi κ (m_B G b0) (fun q => b0 ≤ q)) args s 0 0 (fun q => b0 ≤ q)) 5 M 0 0 4 [(0, va_rf l0), (1, va_rf l1), (2, .int l2), (3, .int l3)] []) {l0 : Option Nat} {l1 : Option Nat} {l2 : Int32} {l3 : Int32} {M : mM} (h : wX8_sleepersIn_49 κ R4 l0 l1 l2 l3 M) : m_W p l e ({ frames := 3, cells := 0, slots := 0, locals := 64 } : Room) s m args below meth c G b0 (MQ below (va_Qi κ (m_B G b0) (fun q => b0 ≤ q)) args s 0 0 (fun q => b0 ≤ q)) 5 M 0 0 49 [(0, va_rf l0), (1, va_rf l1), (2, .int l2), (3, .int l3)] [] := by
  unfold wX8_sleepersIn_49 at h
  refine q_iinc (pc := 49) C 3 3 (l3 + 1) [(3, .int (l3 + 1)), (0, va_rf l0), (1, va_rf l1), (2, .int l2)] dX8_sleepersIn_49 rfl (by rfl) (by decide) (by first | rfl | simp [q_cat, q_catI, q_catJ, q_catR, q_catN]) ?_
  refine q_goto (pc := 52) C 4 dX8_sleepersIn_52 (by decide) ?_
  refine q_widen (k2 := 0) (n2 := 0) (by omega) (by omega) ?_
  refine q_lv [1, 2, 3, 0] rfl ?_
  exact hR4 _ _ _ _ _ h
set_option maxRecDepth 100000 in
set_option maxHeartbeats 4000000 in
theorem tX8_sleepersIn_4 {p : Program} {l : Launch} {e : Env} {s : State} {m : MethodId} {args : Array Value} {below : List Frame} {meth : Method} {c : Code} {G : mG} {b0 : Nat} (C : m_C p s m args c cX8_sleepersIn 5 RX8 wsX8_sleepersIn G b0) (hr : meth.sig.returnType = (some .int)) (hlocks : meth.locks = false) {κ : Int32 → mM → Prop} : ∀ (f : Nat) (l0 : Option Nat) (l1 : Option Nat) (l2 : Int32) (l3 : Int32) (M : mM), wX8_sleepersIn_4 κ f l0 l1 l2 l3 M → m_W p l e ({ frames := 3, cells := 0, slots := 0, locals := 64 } : Room) s m args below meth c G b0 (MQ below (va_Qi κ (m_B G b0) (fun q => b0 ≤ q)) args s 0 0 (fun q => b0 ≤ q)) 5 M 0 0 4 [(0, va_rf l0), (1, va_rf l1), (2, .int l2), (3, .int l3)] [] := by
  intro f
  induction f with
  | zero =>
    intro l0 l1 l2 l3 M h
    exact absurd h (by simp [wX8_sleepersIn_4])
  | succ f ih =>
    intro l0 l1 l2 l3 M h
    rw [wX8_sleepersIn_4] at h
    refine q_iload_n (pc := 4) C 3 3 dX8_sleepersIn_4 rfl rfl ?_
    refine q_aload_n (pc := 5) C 0 0 dX8_sleepersIn_5 rfl rfl ?_
    refine q_gR (pc := 6) C h (T := TX8) rfl (by decide) (wk_u rfl wm_X8_sleepersIn uq_X8 (by decide +kernel)) (by decide +kernel) (fun _ h9 => h9) dX8_sleepersIn_6 (fun x1 h => ?_)
    obtain ⟨b4, fs9, hb4, hm9, h⟩ := h
    refine q_ci (pc := 9) (q_rV C (st := [.int l3]) (b := b4) (kJx4a65c_size_8abf5 l G b0 h) (cwV 0 C.2.2.2.2.1 gX8_sleepersIn_Jx4a65c_size_8abf5 rfl rfl rfl (by decide +kernel) ⟨Nat.le_of_ble_eq_true rfl, Nat.le_of_ble_eq_true rfl⟩) hm9 rfl rfl rfl (by first | exact Nat.le_of_ble_eq_true rfl | (simp [q_cat, q_catI, q_catJ, q_catR, q_catN]; done)) (by rw [hb4]; first | done | rfl) dX8_sleepersIn_9 ⟨(by first | omega | (dsimp only; omega)), (by first | omega | (dsimp only; omega))⟩) (fun x2 M3 h => ?_)
    refine q_icmp_ge (pc := 12) C 55 dX8_sleepersIn_12 (by decide) (fun c5 => ?_) (fun c5 => ?_)
    · have h := h.1 c5
      refine q_iload_n (pc := 55) C 2 2 dX8_sleepersIn_55 rfl rfl ?_
      exact q_iret (pc := 56) C hr hlocks h dX8_sleepersIn_56 (by omega) (by omega)
    · have h := h.2 c5
      refine q_aload_n (pc := 15) C 0 0 dX8_sleepersIn_15 rfl rfl ?_
      refine q_gR (pc := 16) C h (T := TX8) rfl (by decide) (wk_u rfl wm_X8_sleepersIn uq_X8 (by decide +kernel)) (by decide +kernel) (fun _ h9 => h9) dX8_sleepersIn_16 (fun x6 h => ?_)
      refine q_iload_n (pc := 19) C 3 3 dX8_sleepersIn_19 rfl rfl ?_
      obtain ⟨b9, fs9, hb9, hm9, h⟩ := h
      refine q_cq (pc := 20) (q_rV C (st := []) (b := b9) (kJx4a65c_get_915e3 l G b0 h) (cwV 1 C.2.2.2.2.1 gX8_sleepersIn_Jx4a65c_get_915e3 rfl rfl rfl (by decide +kernel) ⟨Nat.le_of_ble_eq_true rfl, Nat.le_of_ble_eq_true rfl⟩) hm9 rfl rfl rfl (by first | exact Nat.le_of_ble_eq_true rfl | (simp [q_cat, q_catI, q_catJ, q_catR, q_catN]; done)) (by rw [hb9]; first | done | rfl) dX8_sleepersIn_20 ⟨(by first | omega | (dsimp only; omega)), (by first | omega | (dsimp only; omega))⟩) (fun x7 M8 h => ?_)
      refine q_cast (pc := 23) C h rfl rfl (by decide +kernel) dX8_sleepersIn_23 (fun h => ?_)
      refine q_astore (pc := 26) C 4 [(4, va_rf x7), (0, va_rf l0), (1, va_rf l1), (2, .int l2), (3, .int l3)] dX8_sleepersIn_26 (by decide) (by first | rfl | simp [q_cat, q_catI, q_catJ, q_catR, q_catN]) ?_
      refine q_aload (pc := 28) C 4 0 dX8_sleepersIn_28 rfl ?_
      refine q_gR (pc := 30) C h (T := TX6) rfl (by decide) (wk_u rfl wm_X8_sleepersIn uq_X6 (by decide +kernel)) (by decide +kernel) (fun _ h9 => h9) dX8_sleepersIn_30 (fun x10 h => ?_)
      refine q_aload_n (pc := 33) C 1 2 dX8_sleepersIn_33 rfl rfl ?_
      refine q_acmp_ne (pc := 34) C 49 dX8_sleepersIn_34 (by decide) (fun c11 => ?_) (fun c11 => ?_)
      · have h := h.2 c11
        refine q_widen (k2 := 0) (n2 := 0) (by omega) (by omega) ?_
        refine q_lv [1, 2, 3, 4] rfl ?_
        exact tX8_sleepersIn_49 C hr hlocks ih h
      · have h := h.1 c11
        refine q_aload (pc := 37) C 4 0 dX8_sleepersIn_37 rfl ?_
        refine q_gI (pc := 39) C h (T := TX6) rfl (by decide) (wk_u rfl wm_X8_sleepersIn uq_X6 (by decide +kernel)) (by decide +kernel) (fun _ h9 => h9) dX8_sleepersIn_39 (fun x12 h => ?_)
        refine q_iconst (pc := 42) C 2 dX8_sleepersIn_42 (by decide) ?_
        refine q_icmp_eq (pc := 43) C 49 dX8_sleepersIn_43 (by decide) (fun c13 => ?_) (fun c13 => ?_)
        · have h := h.1 c13
          refine q_widen (k2 := 0) (n2 := 0) (by omega) (by omega) ?_
          refine q_lv [1, 2, 3, 4] rfl ?_
          exact tX8_sleepersIn_49 C hr hlocks ih h
        · have h := h.2 c13
          refine q_iinc (pc := 46) C 2 3 (l2 + 1) [(2, .int (l2 + 1)), (4, va_rf x7), (0, va_rf l0), (1, va_rf l1), (3, .int l3)] dX8_sleepersIn_46 rfl (by rfl) (by decide) (by first | rfl | simp [q_cat, q_catI, q_catJ, q_catR, q_catN]) ?_
          refine q_widen (k2 := 0) (n2 := 0) (by omega) (by omega) ?_
          refine q_lv [2, 3, 0, 4] rfl ?_
          exact tX8_sleepersIn_49 C hr hlocks ih h
set_option maxRecDepth 100000 in
set_option maxHeartbeats 4000000 in
theorem tX8_sleepersIn {p : Program} {l : Launch} {e : Env} {s : State} {m : MethodId} {args : Array Value} {below : List Frame} {meth : Method} {c : Code} {G : mG} {b0 : Nat} (C : m_C p s m args c cX8_sleepersIn 5 RX8 wsX8_sleepersIn G b0) (hr : meth.sig.returnType = (some .int)) (hlocks : meth.locks = false) {κ : Int32 → mM → Prop} {l0 : Option Nat} {l1 : Option Nat} {M : mM} (h : wX8_sleepersIn κ l0 l1 M) : m_W p l e ({ frames := 3, cells := 0, slots := 0, locals := 64 } : Room) s m args below meth c G b0 (MQ below (va_Qi κ (m_B G b0) (fun q => b0 ≤ q)) args s 0 0 (fun q => b0 ≤ q)) 5 M 0 0 0 [(0, va_rf l0), (1, va_rf l1)] [] := by
  unfold wX8_sleepersIn at h
  refine q_iconst (pc := 0) C 0 dX8_sleepersIn_0 (by decide) ?_
  refine q_istore_n (pc := 1) C 2 [(2, .int 0), (0, va_rf l0), (1, va_rf l1)] dX8_sleepersIn_1 rfl (by decide) (by first | rfl | simp [q_cat, q_catI, q_catJ, q_catR, q_catN]) ?_
  refine q_iconst (pc := 2) C 0 dX8_sleepersIn_2 (by decide) ?_
  refine q_istore_n (pc := 3) C 3 [(3, .int 0), (2, .int 0), (0, va_rf l0), (1, va_rf l1)] dX8_sleepersIn_3 rfl (by decide) (by first | rfl | simp [q_cat, q_catI, q_catJ, q_catR, q_catN]) ?_
  refine q_widen (k2 := 0) (n2 := 0) (by omega) (by omega) ?_
  refine q_lv [2, 3, 1, 0] rfl ?_
  obtain ⟨f9, h⟩ := h
  exact tX8_sleepersIn_4 C hr hlocks f9 _ _ _ _ _ h
set_option maxRecDepth 100000 in
set_option maxHeartbeats 4000000 in
theorem kX8_sleepersIn (l : Launch) (G : mG) (b0 : Nat) {b : Nat} {l1 : Option Nat} {M : mM} {κ : Int32 → mM → Prop} (h : wX8_sleepersIn κ (some b) l1 M) : Met l yX8_sleepersIn wsX8_sleepersIn ({ frames := 3, cells := 0, slots := 0, locals := 64 } : Room) (va_Pc [.ref b, va_rf l1] (m_Pre G b0 M)) (va_Qi κ (m_B G b0) (fun q => b0 ≤ q)) 0 0 (fun q => b0 ≤ q) := by
  refine m_met (cc := cX8_sleepersIn) (maxL := 5) (ret := (some .int)) (lv := [(0, va_rf (some b)), (1, va_rf l1)]) RX8 rfl (by decide +kernel) rfl (by first | exact Nat.le_of_ble_eq_true rfl | simp [lg_sl, q_cat, q_catI, q_catJ, q_catR, q_catN]) (by first | rfl | (simp [lv_args, q_cat, q_catI, q_catJ, q_catR, q_catN]; done) | (simp [lv_args, q_cat, q_catI, q_catJ, q_catR, q_catN]; rfl)) ?_
  intro p e s m args below meth c C hr hlocks hni
  exact tX8_sleepersIn C hr hlocks h
/-! X8_wholeDreams -/
set_option maxRecDepth 100000 in
set_option maxHeartbeats 4000000 in
theorem tX8_wholeDreams_65 {p : Program} {l : Launch} {e : Env} {s : State} {m : MethodId} {args : Array Value} {below : List Frame} {meth : Method} {c : Code} {G : mG} {b0 : Nat} (C : m_C p s m args c cX8_wholeDreams 6 RX8 wsX8_wholeDreams G b0) (hr : meth.sig.returnType = (some .int)) (hlocks : meth.locks = false) {κ : Int32 → mM → Prop} {R7 : Option Nat → Option Nat → Int32 → Int32 → Int32 → mM → Prop} (hR7 : ∀ (l0 : Option Nat) (l1 : Option Nat) (l2 : Int32) (l3 : Int32) (l4 : Int32) (M : mM), R7 l0 l1 l2 l3 l4 M → m_W p l e ({ frames := 3, cells := 0, slots := 0, locals := 64 } : Room) s m args below meth c G b0 (MQ below (va_Qi κ (m_B G b0) (fun q => b0 ≤ q)) args s 0 0 (fun q => b0 ≤ q)) 6 M 0 0 7 [(0, va_rf l0), (1, va_rf l1), (2, .int l2), (3, .int l3), (4, .int l4)] []) {l0 : Option Nat} {l1 : Option Nat} {l2 : Int32} {l3 : Int32} {l4 : Int32} {M : mM} (h : wX8_wholeDreams_65 κ R7 l0 l1 l2 l3 l4 M) : m_W p l e ({ frames := 3, cells := 0, slots := 0, locals := 64 } : Room) s m args below meth c G b0 (MQ below (va_Qi κ (m_B G b0) (fun q => b0 ≤ q)) args s 0 0 (fun q => b0 ≤ q)) 6 M 0 0 65 [(0, va_rf l0), (1, va_rf l1), (2, .int l2), (3, .int l3), (4, .int l4)] [] := by
  unfold wX8_wholeDreams_65 at h
  refine q_iinc (pc := 65) C 4 4 (l4 + 1) [(4, .int (l4 + 1)), (0, va_rf l0), (1, va_rf l1), (2, .int l2), (3, .int l3)] dX8_wholeDreams_65 rfl (by rfl) (by decide) (by first | rfl | simp [q_cat, q_catI, q_catJ, q_catR, q_catN]) ?_
  refine q_goto (pc := 68) C 7 dX8_wholeDreams_68 (by decide) ?_
  refine q_widen (k2 := 0) (n2 := 0) (by omega) (by omega) ?_
  refine q_lv [1, 2, 3, 4, 0] rfl ?_
  exact hR7 _ _ _ _ _ _ h
set_option maxRecDepth 100000 in
set_option maxHeartbeats 4000000 in
theorem tX8_wholeDreams_7 {p : Program} {l : Launch} {e : Env} {s : State} {m : MethodId} {args : Array Value} {below : List Frame} {meth : Method} {c : Code} {G : mG} {b0 : Nat} (C : m_C p s m args c cX8_wholeDreams 6 RX8 wsX8_wholeDreams G b0) (hr : meth.sig.returnType = (some .int)) (hlocks : meth.locks = false) {κ : Int32 → mM → Prop} : ∀ (f : Nat) (l0 : Option Nat) (l1 : Option Nat) (l2 : Int32) (l3 : Int32) (l4 : Int32) (M : mM), wX8_wholeDreams_7 κ f l0 l1 l2 l3 l4 M → m_W p l e ({ frames := 3, cells := 0, slots := 0, locals := 64 } : Room) s m args below meth c G b0 (MQ below (va_Qi κ (m_B G b0) (fun q => b0 ≤ q)) args s 0 0 (fun q => b0 ≤ q)) 6 M 0 0 7 [(0, va_rf l0), (1, va_rf l1), (2, .int l2), (3, .int l3), (4, .int l4)] [] := by
  intro f
  induction f with
  | zero =>
    intro l0 l1 l2 l3 l4 M h
    exact absurd h (by simp [wX8_wholeDreams_7])
  | succ f ih =>
    intro l0 l1 l2 l3 l4 M h
    rw [wX8_wholeDreams_7] at h
    refine q_iload (pc := 7) C 4 4 dX8_wholeDreams_7 rfl ?_
    refine q_aload_n (pc := 9) C 0 0 dX8_wholeDreams_9 rfl rfl ?_
    refine q_gR (pc := 10) C h (T := TX8) rfl (by decide) (wk_u rfl wm_X8_wholeDreams uq_X8 (by decide +kernel)) (by decide +kernel) (fun _ h9 => h9) dX8_wholeDreams_10 (fun x1 h => ?_)
    obtain ⟨b4, fs9, hb4, hm9, h⟩ := h
    refine q_ci (pc := 13) (q_rV C (st := [.int l4]) (b := b4) (kJx4a65c_size_8abf5 l G b0 h) (cwV 0 C.2.2.2.2.1 gX8_wholeDreams_Jx4a65c_size_8abf5 rfl rfl rfl (by decide +kernel) ⟨Nat.le_of_ble_eq_true rfl, Nat.le_of_ble_eq_true rfl⟩) hm9 rfl rfl rfl (by first | exact Nat.le_of_ble_eq_true rfl | (simp [q_cat, q_catI, q_catJ, q_catR, q_catN]; done)) (by rw [hb4]; first | done | rfl) dX8_wholeDreams_13 ⟨(by first | omega | (dsimp only; omega)), (by first | omega | (dsimp only; omega))⟩) (fun x2 M3 h => ?_)
    refine q_icmp_ge (pc := 16) C 71 dX8_wholeDreams_16 (by decide) (fun c5 => ?_) (fun c5 => ?_)
    · have h := h.1 c5
      refine q_iload_n (pc := 71) C 2 2 dX8_wholeDreams_71 rfl rfl ?_
      refine q_iload_n (pc := 72) C 3 3 dX8_wholeDreams_72 rfl rfl ?_
      refine q_iconst (pc := 73) C (-1) dX8_wholeDreams_73 (by decide) ?_
      refine q_ixor (pc := 74) C dX8_wholeDreams_74 ?_
      refine q_iand (pc := 75) C dX8_wholeDreams_75 ?_
      exact q_iret (pc := 76) C hr hlocks h dX8_wholeDreams_76 (by omega) (by omega)
    · have h := h.2 c5
      refine q_aload_n (pc := 19) C 0 0 dX8_wholeDreams_19 rfl rfl ?_
      refine q_gR (pc := 20) C h (T := TX8) rfl (by decide) (wk_u rfl wm_X8_wholeDreams uq_X8 (by decide +kernel)) (by decide +kernel) (fun _ h9 => h9) dX8_wholeDreams_20 (fun x6 h => ?_)
      refine q_iload (pc := 23) C 4 4 dX8_wholeDreams_23 rfl ?_
      obtain ⟨b9, fs9, hb9, hm9, h⟩ := h
      refine q_cq (pc := 25) (q_rV C (st := []) (b := b9) (kJx4a65c_get_915e3 l G b0 h) (cwV 1 C.2.2.2.2.1 gX8_wholeDreams_Jx4a65c_get_915e3 rfl rfl rfl (by decide +kernel) ⟨Nat.le_of_ble_eq_true rfl, Nat.le_of_ble_eq_true rfl⟩) hm9 rfl rfl rfl (by first | exact Nat.le_of_ble_eq_true rfl | (simp [q_cat, q_catI, q_catJ, q_catR, q_catN]; done)) (by rw [hb9]; first | done | rfl) dX8_wholeDreams_25 ⟨(by first | omega | (dsimp only; omega)), (by first | omega | (dsimp only; omega))⟩) (fun x7 M8 h => ?_)
      refine q_cast (pc := 28) C h rfl rfl (by decide +kernel) dX8_wholeDreams_28 (fun h => ?_)
      refine q_astore (pc := 31) C 5 [(5, va_rf x7), (0, va_rf l0), (1, va_rf l1), (2, .int l2), (3, .int l3), (4, .int l4)] dX8_wholeDreams_31 (by decide) (by first | rfl | simp [q_cat, q_catI, q_catJ, q_catR, q_catN]) ?_
      refine q_aload (pc := 33) C 5 0 dX8_wholeDreams_33 rfl ?_
      obtain ⟨b12, fs9, hb12, hm9, h⟩ := h
      refine q_cq (pc := 35) (q_rV C (st := []) (b := b12) (kX3_whereabouts l G b0 h) (cwV 0 C.2.2.2.2.1 gX8_wholeDreams_X3_whereabouts rfl rfl rfl (by decide +kernel) ⟨Nat.le_of_ble_eq_true rfl, Nat.le_of_ble_eq_true rfl⟩) hm9 rfl rfl rfl (by first | exact Nat.le_of_ble_eq_true rfl | (simp [q_cat, q_catI, q_catJ, q_catR, q_catN]; done)) (by rw [hb12]; first | done | rfl) dX8_wholeDreams_35 ⟨(by first | omega | (dsimp only; omega)), (by first | omega | (dsimp only; omega))⟩) (fun x10 M11 h => ?_)
      refine q_aload_n (pc := 38) C 1 2 dX8_wholeDreams_38 rfl rfl ?_
      refine q_acmp_ne (pc := 39) C 55 dX8_wholeDreams_39 (by decide) (fun c13 => ?_) (fun c13 => ?_)
      · have h := h.2 c13
        refine q_iload_n (pc := 55) C 3 4 dX8_wholeDreams_55 rfl rfl ?_
        refine q_iconst (pc := 56) C 1 dX8_wholeDreams_56 (by decide) ?_
        refine q_aload (pc := 57) C 5 0 dX8_wholeDreams_57 rfl ?_
        refine q_gI (pc := 59) C h (T := TX3) rfl (by decide) (wk_u rfl wm_X8_wholeDreams uq_X3 (by decide +kernel)) (by decide +kernel) (fun _ h9 => h9) dX8_wholeDreams_59 (fun x14 h => ?_)
        refine q_ishl (pc := 62) C dX8_wholeDreams_62 ?_
        refine m_stk (st2 := .int (m_shl 1 x14) :: _) rfl ?_
        refine q_ior (pc := 63) C dX8_wholeDreams_63 ?_
        refine q_istore_n (pc := 64) C 3 [(3, .int (l3 ||| (m_shl 1 x14))), (5, va_rf x7), (0, va_rf l0), (1, va_rf l1), (2, .int l2), (4, .int l4)] dX8_wholeDreams_64 rfl (by decide) (by first | rfl | simp [q_cat, q_catI, q_catJ, q_catR, q_catN]) ?_
        refine q_widen (k2 := 0) (n2 := 0) (by omega) (by omega) ?_
        refine q_lv [2, 3, 4, 0, 5] rfl ?_
        exact tX8_wholeDreams_65 C hr hlocks ih h
      · have h := h.1 c13
        refine q_iload_n (pc := 42) C 2 3 dX8_wholeDreams_42 rfl rfl ?_
        refine q_iconst (pc := 43) C 1 dX8_wholeDreams_43 (by decide) ?_
        refine q_aload (pc := 44) C 5 0 dX8_wholeDreams_44 rfl ?_
        refine q_gI (pc := 46) C h (T := TX3) rfl (by decide) (wk_u rfl wm_X8_wholeDreams uq_X3 (by decide +kernel)) (by decide +kernel) (fun _ h9 => h9) dX8_wholeDreams_46 (fun x15 h => ?_)
        refine q_ishl (pc := 49) C dX8_wholeDreams_49 ?_
        refine m_stk (st2 := .int (m_shl 1 x15) :: _) rfl ?_
        refine q_ior (pc := 50) C dX8_wholeDreams_50 ?_
        refine q_istore_n (pc := 51) C 2 [(2, .int (l2 ||| (m_shl 1 x15))), (5, va_rf x7), (0, va_rf l0), (1, va_rf l1), (3, .int l3), (4, .int l4)] dX8_wholeDreams_51 rfl (by decide) (by first | rfl | simp [q_cat, q_catI, q_catJ, q_catR, q_catN]) ?_
        refine q_goto (pc := 52) C 65 dX8_wholeDreams_52 (by decide) ?_
        refine q_widen (k2 := 0) (n2 := 0) (by omega) (by omega) ?_
        refine q_lv [2, 3, 0, 4, 5] rfl ?_
        exact tX8_wholeDreams_65 C hr hlocks ih h
set_option maxRecDepth 100000 in
set_option maxHeartbeats 4000000 in
theorem tX8_wholeDreams {p : Program} {l : Launch} {e : Env} {s : State} {m : MethodId} {args : Array Value} {below : List Frame} {meth : Method} {c : Code} {G : mG} {b0 : Nat} (C : m_C p s m args c cX8_wholeDreams 6 RX8 wsX8_wholeDreams G b0) (hr : meth.sig.returnType = (some .int)) (hlocks : meth.locks = false) {κ : Int32 → mM → Prop} {l0 : Option Nat} {l1 : Option Nat} {M : mM} (h : wX8_wholeDreams κ l0 l1 M) : m_W p l e ({ frames := 3, cells := 0, slots := 0, locals := 64 } : Room) s m args below meth c G b0 (MQ below (va_Qi κ (m_B G b0) (fun q => b0 ≤ q)) args s 0 0 (fun q => b0 ≤ q)) 6 M 0 0 0 [(0, va_rf l0), (1, va_rf l1)] [] := by
  unfold wX8_wholeDreams at h
  refine q_iconst (pc := 0) C 0 dX8_wholeDreams_0 (by decide) ?_
  refine q_istore_n (pc := 1) C 2 [(2, .int 0), (0, va_rf l0), (1, va_rf l1)] dX8_wholeDreams_1 rfl (by decide) (by first | rfl | simp [q_cat, q_catI, q_catJ, q_catR, q_catN]) ?_
  refine q_iconst (pc := 2) C 0 dX8_wholeDreams_2 (by decide) ?_
  refine q_istore_n (pc := 3) C 3 [(3, .int 0), (2, .int 0), (0, va_rf l0), (1, va_rf l1)] dX8_wholeDreams_3 rfl (by decide) (by first | rfl | simp [q_cat, q_catI, q_catJ, q_catR, q_catN]) ?_
  refine q_iconst (pc := 4) C 0 dX8_wholeDreams_4 (by decide) ?_
  refine q_istore (pc := 5) C 4 [(4, .int 0), (3, .int 0), (2, .int 0), (0, va_rf l0), (1, va_rf l1)] dX8_wholeDreams_5 (by decide) (by first | rfl | simp [q_cat, q_catI, q_catJ, q_catR, q_catN]) ?_
  refine q_widen (k2 := 0) (n2 := 0) (by omega) (by omega) ?_
  refine q_lv [3, 4, 2, 1, 0] rfl ?_
  obtain ⟨f9, h⟩ := h
  exact tX8_wholeDreams_7 C hr hlocks f9 _ _ _ _ _ _ h
set_option maxRecDepth 100000 in
set_option maxHeartbeats 4000000 in
theorem kX8_wholeDreams (l : Launch) (G : mG) (b0 : Nat) {b : Nat} {l1 : Option Nat} {M : mM} {κ : Int32 → mM → Prop} (h : wX8_wholeDreams κ (some b) l1 M) : Met l yX8_wholeDreams wsX8_wholeDreams ({ frames := 3, cells := 0, slots := 0, locals := 64 } : Room) (va_Pc [.ref b, va_rf l1] (m_Pre G b0 M)) (va_Qi κ (m_B G b0) (fun q => b0 ≤ q)) 0 0 (fun q => b0 ≤ q) := by
  refine m_met (cc := cX8_wholeDreams) (maxL := 6) (ret := (some .int)) (lv := [(0, va_rf (some b)), (1, va_rf l1)]) RX8 rfl (by decide +kernel) rfl (by first | exact Nat.le_of_ble_eq_true rfl | simp [lg_sl, q_cat, q_catI, q_catJ, q_catR, q_catN]) (by first | rfl | (simp [lv_args, q_cat, q_catI, q_catJ, q_catR, q_catN]; done) | (simp [lv_args, q_cat, q_catI, q_catJ, q_catR, q_catN]; rfl)) ?_
  intro p e s m args below meth c C hr hlocks hni
  exact tX8_wholeDreams C hr hlocks h
/-! X8_ofLand -/
set_option maxRecDepth 100000 in
set_option maxHeartbeats 4000000 in
theorem tX8_ofLand {p : Program} {l : Launch} {e : Env} {s : State} {m : MethodId} {args : Array Value} {below : List Frame} {meth : Method} {c : Code} {G : mG} {b0 : Nat} (C : m_C p s m args c cX8_ofLand 4 RX8 wsX8_ofLand G b0) (hr : meth.sig.returnType = (some .int)) (hlocks : meth.locks = false) {t : Nat} (hL : l.stackTraces = false) (hx : ∀ x ∈ c.exceptionTable.toList, False) {κ : Int32 → mM → Prop} {ξ : String → mM → Prop} (ht : ∀ E M, ξ E M → 1 ≤ t) {l0 : Option Nat} {l1 : Int32} {l2 : Int32} {M : mM} (h : wX8_ofLand κ ξ l0 l1 l2 M) : m_W p l e ({ frames := 7, cells := (0 + 2 * t), slots := (0 + 12 * t), locals := 111 } : Room) s m args below meth c G b0 (vx_MQ below (va_Qi κ (m_B G b0) (fun q => b0 ≤ q)) (m_X G b0 ξ) args s (0 + 2 * t) (0 + 12 * t) (fun q => b0 ≤ q)) 4 M 0 0 0 [(0, va_rf l0), (1, .int l1), (2, .int l2)] [] := by
  unfold wX8_ofLand at h
  refine q_aload_n (pc := 0) C 0 0 dX8_ofLand_0 rfl rfl ?_
  refine q_iload_n (pc := 1) C 1 1 dX8_ofLand_1 rfl rfl ?_
  obtain ⟨b3, fs9, hb3, hm9, h⟩ := h
  refine q_cXq (pc := 2) (q_rVX C (st := []) (b := b3) (kX8_landNumbered l G b0 (t := t) hL ht h) (cwV 1 C.2.2.2.2.1 gX8_ofLand_X8_landNumbered rfl rfl rfl (by decide +kernel) ⟨Nat.le_of_ble_eq_true rfl, Nat.le_of_ble_eq_true rfl⟩) hm9 rfl rfl rfl (by first | exact Nat.le_of_ble_eq_true rfl | (simp [q_cat, q_catI, q_catJ, q_catR, q_catN]; done)) (by rw [hb3]; first | done | rfl) dX8_ofLand_2 ⟨(by first | omega | (dsimp only; omega)), (by first | omega | (dsimp only; omega))⟩) (fun E9 M9 h9 => q_out C hx hlocks h9 (by omega) (by omega)) (fun x1 M2 h => ?_)
  refine q_astore_n (pc := 5) C 3 [(3, va_rf x1), (0, va_rf l0), (1, .int l1), (2, .int l2)] dX8_ofLand_5 rfl (by decide) (by first | rfl | simp [q_cat, q_catI, q_catJ, q_catR, q_catN]) ?_
  refine q_iload_n (pc := 6) C 2 3 dX8_ofLand_6 rfl rfl ?_
  by_cases c4 : l2 = 0
  · have h := h.1 c4
    refine q_tableIn (pc := 7) C 56 dX8_ofLand_7 (by rw [c4]; decide) (by rw [c4]; decide) (by rw [c4]; rfl) (by decide) ?_
    refine q_aload_n (pc := 56) C 3 0 dX8_ofLand_56 rfl rfl ?_
    refine q_gI (pc := 57) C h (T := TX2) rfl (by decide) (wk_u rfl wm_X8_ofLand uq_X2 (by decide +kernel)) (by decide +kernel) (fun _ h9 => h9) dX8_ofLand_57 (fun x5 h => ?_)
    exact q_iretX (pc := 60) C hr hlocks h dX8_ofLand_60 (by omega) (by omega)
  have h := h.2 c4
  by_cases c6 : l2 = 1
  · have h := h.1 c6
    refine q_tableIn (pc := 7) C 61 dX8_ofLand_7 (by rw [c6]; decide) (by rw [c6]; decide) (by rw [c6]; rfl) (by decide) ?_
    refine q_aload_n (pc := 61) C 3 0 dX8_ofLand_61 rfl rfl ?_
    refine q_gI (pc := 62) C h (T := TX2) rfl (by decide) (wk_u rfl wm_X8_ofLand uq_X2 (by decide +kernel)) (by decide +kernel) (fun _ h9 => h9) dX8_ofLand_62 (fun x7 h => ?_)
    exact q_iretX (pc := 65) C hr hlocks h dX8_ofLand_65 (by omega) (by omega)
  have h := h.2 c6
  by_cases c8 : l2 = 2
  · have h := h.1 c8
    refine q_tableIn (pc := 7) C 66 dX8_ofLand_7 (by rw [c8]; decide) (by rw [c8]; decide) (by rw [c8]; rfl) (by decide) ?_
    refine q_aload_n (pc := 66) C 3 0 dX8_ofLand_66 rfl rfl ?_
    refine q_gI (pc := 67) C h (T := TX2) rfl (by decide) (wk_u rfl wm_X8_ofLand uq_X2 (by decide +kernel)) (by decide +kernel) (fun _ h9 => h9) dX8_ofLand_67 (fun x9 h => ?_)
    exact q_iretX (pc := 70) C hr hlocks h dX8_ofLand_70 (by omega) (by omega)
  have h := h.2 c8
  by_cases c10 : l2 = 3
  · have h := h.1 c10
    refine q_tableIn (pc := 7) C 71 dX8_ofLand_7 (by rw [c10]; decide) (by rw [c10]; decide) (by rw [c10]; rfl) (by decide) ?_
    refine q_aload_n (pc := 71) C 3 0 dX8_ofLand_71 rfl rfl ?_
    refine q_gI (pc := 72) C h (T := TX2) rfl (by decide) (wk_u rfl wm_X8_ofLand uq_X2 (by decide +kernel)) (by decide +kernel) (fun _ h9 => h9) dX8_ofLand_72 (fun x11 h => ?_)
    exact q_iretX (pc := 75) C hr hlocks h dX8_ofLand_75 (by omega) (by omega)
  have h := h.2 c10
  by_cases c12 : l2 = 4
  · have h := h.1 c12
    refine q_tableIn (pc := 7) C 76 dX8_ofLand_7 (by rw [c12]; decide) (by rw [c12]; decide) (by rw [c12]; rfl) (by decide) ?_
    refine q_aload_n (pc := 76) C 3 0 dX8_ofLand_76 rfl rfl ?_
    refine q_gI (pc := 77) C h (T := TX2) rfl (by decide) (wk_u rfl wm_X8_ofLand uq_X2 (by decide +kernel)) (by decide +kernel) (fun _ h9 => h9) dX8_ofLand_77 (fun x13 h => ?_)
    exact q_iretX (pc := 80) C hr hlocks h dX8_ofLand_80 (by omega) (by omega)
  have h := h.2 c12
  by_cases c14 : l2 = 5
  · have h := h.1 c14
    refine q_tableIn (pc := 7) C 81 dX8_ofLand_7 (by rw [c14]; decide) (by rw [c14]; decide) (by rw [c14]; rfl) (by decide) ?_
    refine q_aload_n (pc := 81) C 3 0 dX8_ofLand_81 rfl rfl ?_
    refine q_gI (pc := 82) C h (T := TX2) rfl (by decide) (wk_u rfl wm_X8_ofLand uq_X2 (by decide +kernel)) (by decide +kernel) (fun _ h9 => h9) dX8_ofLand_82 (fun x15 h => ?_)
    exact q_iretX (pc := 85) C hr hlocks h dX8_ofLand_85 (by omega) (by omega)
  have h := h.2 c14
  by_cases c16 : l2 = 6
  · have h := h.1 c16
    refine q_tableIn (pc := 7) C 86 dX8_ofLand_7 (by rw [c16]; decide) (by rw [c16]; decide) (by rw [c16]; rfl) (by decide) ?_
    refine q_aload_n (pc := 86) C 0 1 dX8_ofLand_86 rfl rfl ?_
    refine q_aload_n (pc := 87) C 3 0 dX8_ofLand_87 rfl rfl ?_
    obtain ⟨b19, fs9, hb19, hm9, h⟩ := h
    refine q_ci (pc := 88) (q_rV C (st := []) (b := b19) (kX8_partsInStore l G b0 h) (cwV 1 C.2.2.2.2.1 gX8_ofLand_X8_partsInStore rfl rfl rfl (by decide +kernel) ⟨Nat.le_of_ble_eq_true rfl, Nat.le_of_ble_eq_true rfl⟩) hm9 rfl rfl rfl (by first | exact Nat.le_of_ble_eq_true rfl | (simp [q_cat, q_catI, q_catJ, q_catR, q_catN]; done)) (by rw [hb19]; first | done | rfl) dX8_ofLand_88 ⟨(by first | omega | (dsimp only; omega)), (by first | omega | (dsimp only; omega))⟩) (fun x17 M18 h => ?_)
    exact q_iretX (pc := 91) C hr hlocks h dX8_ofLand_91 (by omega) (by omega)
  have h := h.2 c16
  by_cases c20 : l2 = 7
  · have h := h.1 c20
    refine q_tableIn (pc := 7) C 92 dX8_ofLand_7 (by rw [c20]; decide) (by rw [c20]; decide) (by rw [c20]; rfl) (by decide) ?_
    refine q_aload_n (pc := 92) C 0 1 dX8_ofLand_92 rfl rfl ?_
    refine q_aload_n (pc := 93) C 3 0 dX8_ofLand_93 rfl rfl ?_
    obtain ⟨b23, fs9, hb23, hm9, h⟩ := h
    refine q_ci (pc := 94) (q_rV C (st := []) (b := b23) (kX8_sleepersIn l G b0 h) (cwV 1 C.2.2.2.2.1 gX8_ofLand_X8_sleepersIn rfl rfl rfl (by decide +kernel) ⟨Nat.le_of_ble_eq_true rfl, Nat.le_of_ble_eq_true rfl⟩) hm9 rfl rfl rfl (by first | exact Nat.le_of_ble_eq_true rfl | (simp [q_cat, q_catI, q_catJ, q_catR, q_catN]; done)) (by rw [hb23]; first | done | rfl) dX8_ofLand_94 ⟨(by first | omega | (dsimp only; omega)), (by first | omega | (dsimp only; omega))⟩) (fun x21 M22 h => ?_)
    exact q_iretX (pc := 97) C hr hlocks h dX8_ofLand_97 (by omega) (by omega)
  have h := h.2 c20
  by_cases c24 : l2 = 8
  · have h := h.1 c24
    refine q_tableIn (pc := 7) C 98 dX8_ofLand_7 (by rw [c24]; decide) (by rw [c24]; decide) (by rw [c24]; rfl) (by decide) ?_
    refine q_aload_n (pc := 98) C 0 1 dX8_ofLand_98 rfl rfl ?_
    refine q_aload_n (pc := 99) C 3 0 dX8_ofLand_99 rfl rfl ?_
    obtain ⟨b27, fs9, hb27, hm9, h⟩ := h
    refine q_ci (pc := 100) (q_rV C (st := []) (b := b27) (kX8_wholeDreams l G b0 h) (cwV 1 C.2.2.2.2.1 gX8_ofLand_X8_wholeDreams rfl rfl rfl (by decide +kernel) ⟨Nat.le_of_ble_eq_true rfl, Nat.le_of_ble_eq_true rfl⟩) hm9 rfl rfl rfl (by first | exact Nat.le_of_ble_eq_true rfl | (simp [q_cat, q_catI, q_catJ, q_catR, q_catN]; done)) (by rw [hb27]; first | done | rfl) dX8_ofLand_100 ⟨(by first | omega | (dsimp only; omega)), (by first | omega | (dsimp only; omega))⟩) (fun x25 M26 h => ?_)
    exact q_iretX (pc := 103) C hr hlocks h dX8_ofLand_103 (by omega) (by omega)
  have h := h.2 c24
  refine q_tableOut (pc := 7) C 104 dX8_ofLand_7 ?_ (by decide) ?_
  · have hsw := m_sw (x := l2) 0 9 (fun j hj => by
      rcases (show j = 0 ∨ j = 1 ∨ j = 2 ∨ j = 3 ∨ j = 4 ∨ j = 5 ∨ j = 6 ∨ j = 7 ∨ j = 8 by omega) with rfl | rfl | rfl | rfl | rfl | rfl | rfl | rfl | rfl
      · exact c4
      · exact c6
      · exact c8
      · exact c10
      · exact c12
      · exact c14
      · exact c16
      · exact c20
      · exact c24
      ) (by decide)
    rcases hsw with q9 | q9
    · exact Or.inl (by simpa using q9)
    · exact Or.inr (by simp at q9 ⊢; omega)
  have ht9 := ht _ _ h
  exact q_throwSW (pc := 104) (names := ["java/lang/RuntimeException", "java/lang/Exception"]) (text := "nothing of a LAND has that number") C hL hx hlocks h (by decide +kernel) (by decide +kernel) (by decide +kernel) (by decide +kernel) (List.mem_of_getElem? (i := 352) (by decide +kernel)) (by decide +kernel) (by decide +kernel) (by decide +kernel) dX8_ofLand_104 dX8_ofLand_107 dX8_ofLand_108 dX8_ofLand_111 dX8_ofLand_114 (Nat.le_of_ble_eq_true rfl) (by first | exact Nat.le_of_ble_eq_true rfl | (simp [q_cat, q_catI, q_catJ, q_catR, q_catN]; done) | (simp [q_cat, q_catI, q_catJ, q_catR, q_catN]; decide)) (by first | omega | (dsimp only; omega)) (by first | omega | (dsimp only; omega)) (by omega) (by omega)
set_option maxRecDepth 100000 in
set_option maxHeartbeats 4000000 in
theorem kX8_ofLand (l : Launch) (G : mG) (b0 : Nat) {t : Nat} (hL : l.stackTraces = false) {b : Nat} {l1 : Int32} {l2 : Int32} {M : mM} {κ : Int32 → mM → Prop} {ξ : String → mM → Prop} (ht : ∀ E M, ξ E M → 1 ≤ t) (h : wX8_ofLand κ ξ (some b) l1 l2 M) : vx_Met l yX8_ofLand wsX8_ofLand ({ frames := 7, cells := (0 + 2 * t), slots := (0 + 12 * t), locals := 111 } : Room) (va_Pc [.ref b, .int l1, .int l2] (m_Pre G b0 M)) (va_Qi κ (m_B G b0) (fun q => b0 ≤ q)) (m_X G b0 ξ) (0 + 2 * t) (0 + 12 * t) (fun q => b0 ≤ q) := by
  refine m_metX (cc := cX8_ofLand) (maxL := 4) (ret := (some .int)) (lv := [(0, va_rf (some b)), (1, .int l1), (2, .int l2)]) RX8 rfl (by decide +kernel) rfl (by first | exact Nat.le_of_ble_eq_true rfl | simp [lg_sl, q_cat, q_catI, q_catJ, q_catR, q_catN]) (by first | rfl | (simp [lv_args, q_cat, q_catI, q_catJ, q_catR, q_catN]; done) | (simp [lv_args, q_cat, q_catI, q_catJ, q_catR, q_catN]; rfl)) ?_
  intro p e s m args below meth c C hr hlocks hx
  exact tX8_ofLand C hr hlocks hL hx ht h
/-! X8_hiddenWorth -/
set_option maxRecDepth 100000 in
set_option maxHeartbeats 4000000 in
theorem tX8_hiddenWorth_64 {p : Program} {l : Launch} {e : Env} {s : State} {m : MethodId} {args : Array Value} {below : List Frame} {meth : Method} {c : Code} {G : mG} {b0 : Nat} (C : m_C p s m args c cX8_hiddenWorth 5 RX8 wsX8_hiddenWorth G b0) (hr : meth.sig.returnType = (some .int)) (hlocks : meth.locks = false) {κ : Int32 → mM → Prop} {R4 : Option Nat → Option Nat → Int32 → Int32 → mM → Prop} (hR4 : ∀ (l0 : Option Nat) (l1 : Option Nat) (l2 : Int32) (l3 : Int32) (M : mM), R4 l0 l1 l2 l3 M → m_W p l e ({ frames := 3, cells := 0, slots := 0, locals := 64 } : Room) s m args below meth c G b0 (MQ below (va_Qi κ (m_B G b0) (fun q => b0 ≤ q)) args s 0 0 (fun q => b0 ≤ q)) 5 M 0 0 4 [(0, va_rf l0), (1, va_rf l1), (2, .int l2), (3, .int l3)] []) {l0 : Option Nat} {l1 : Option Nat} {l2 : Int32} {l3 : Int32} {M : mM} (h : wX8_hiddenWorth_64 κ R4 l0 l1 l2 l3 M) : m_W p l e ({ frames := 3, cells := 0, slots := 0, locals := 64 } : Room) s m args below meth c G b0 (MQ below (va_Qi κ (m_B G b0) (fun q => b0 ≤ q)) args s 0 0 (fun q => b0 ≤ q)) 5 M 0 0 64 [(0, va_rf l0), (1, va_rf l1), (2, .int l2), (3, .int l3)] [] := by
  unfold wX8_hiddenWorth_64 at h
  refine q_iinc (pc := 64) C 3 3 (l3 + 1) [(3, .int (l3 + 1)), (0, va_rf l0), (1, va_rf l1), (2, .int l2)] dX8_hiddenWorth_64 rfl (by rfl) (by decide) (by first | rfl | simp [q_cat, q_catI, q_catJ, q_catR, q_catN]) ?_
  refine q_goto (pc := 67) C 4 dX8_hiddenWorth_67 (by decide) ?_
  refine q_widen (k2 := 0) (n2 := 0) (by omega) (by omega) ?_
  refine q_lv [1, 2, 3, 0] rfl ?_
  exact hR4 _ _ _ _ _ h
set_option maxRecDepth 100000 in
set_option maxHeartbeats 4000000 in
theorem tX8_hiddenWorth_4 {p : Program} {l : Launch} {e : Env} {s : State} {m : MethodId} {args : Array Value} {below : List Frame} {meth : Method} {c : Code} {G : mG} {b0 : Nat} (C : m_C p s m args c cX8_hiddenWorth 5 RX8 wsX8_hiddenWorth G b0) (hr : meth.sig.returnType = (some .int)) (hlocks : meth.locks = false) {κ : Int32 → mM → Prop} : ∀ (f : Nat) (l0 : Option Nat) (l1 : Option Nat) (l2 : Int32) (l3 : Int32) (M : mM), wX8_hiddenWorth_4 κ f l0 l1 l2 l3 M → m_W p l e ({ frames := 3, cells := 0, slots := 0, locals := 64 } : Room) s m args below meth c G b0 (MQ below (va_Qi κ (m_B G b0) (fun q => b0 ≤ q)) args s 0 0 (fun q => b0 ≤ q)) 5 M 0 0 4 [(0, va_rf l0), (1, va_rf l1), (2, .int l2), (3, .int l3)] [] := by
  intro f
  induction f with
  | zero =>
    intro l0 l1 l2 l3 M h
    exact absurd h (by simp [wX8_hiddenWorth_4])
  | succ f ih =>
    intro l0 l1 l2 l3 M h
    rw [wX8_hiddenWorth_4] at h
    refine q_iload_n (pc := 4) C 3 3 dX8_hiddenWorth_4 rfl rfl ?_
    refine q_aload_n (pc := 5) C 0 0 dX8_hiddenWorth_5 rfl rfl ?_
    refine q_gR (pc := 6) C h (T := TX8) rfl (by decide) (wk_u rfl wm_X8_hiddenWorth uq_X8 (by decide +kernel)) (by decide +kernel) (fun _ h9 => h9) dX8_hiddenWorth_6 (fun x1 h => ?_)
    obtain ⟨b4, fs9, hb4, hm9, h⟩ := h
    refine q_ci (pc := 9) (q_rV C (st := [.int l3]) (b := b4) (kJx4a65c_size_8abf5 l G b0 h) (cwV 0 C.2.2.2.2.1 gX8_hiddenWorth_Jx4a65c_size_8abf5 rfl rfl rfl (by decide +kernel) ⟨Nat.le_of_ble_eq_true rfl, Nat.le_of_ble_eq_true rfl⟩) hm9 rfl rfl rfl (by first | exact Nat.le_of_ble_eq_true rfl | (simp [q_cat, q_catI, q_catJ, q_catR, q_catN]; done)) (by rw [hb4]; first | done | rfl) dX8_hiddenWorth_9 ⟨(by first | omega | (dsimp only; omega)), (by first | omega | (dsimp only; omega))⟩) (fun x2 M3 h => ?_)
    refine q_icmp_ge (pc := 12) C 70 dX8_hiddenWorth_12 (by decide) (fun c5 => ?_) (fun c5 => ?_)
    · have h := h.1 c5
      refine q_iload_n (pc := 70) C 2 2 dX8_hiddenWorth_70 rfl rfl ?_
      exact q_iret (pc := 71) C hr hlocks h dX8_hiddenWorth_71 (by omega) (by omega)
    · have h := h.2 c5
      refine q_aload_n (pc := 15) C 0 0 dX8_hiddenWorth_15 rfl rfl ?_
      refine q_gR (pc := 16) C h (T := TX8) rfl (by decide) (wk_u rfl wm_X8_hiddenWorth uq_X8 (by decide +kernel)) (by decide +kernel) (fun _ h9 => h9) dX8_hiddenWorth_16 (fun x6 h => ?_)
      refine q_iload_n (pc := 19) C 3 3 dX8_hiddenWorth_19 rfl rfl ?_
      obtain ⟨b9, fs9, hb9, hm9, h⟩ := h
      refine q_cq (pc := 20) (q_rV C (st := []) (b := b9) (kJx4a65c_get_915e3 l G b0 h) (cwV 1 C.2.2.2.2.1 gX8_hiddenWorth_Jx4a65c_get_915e3 rfl rfl rfl (by decide +kernel) ⟨Nat.le_of_ble_eq_true rfl, Nat.le_of_ble_eq_true rfl⟩) hm9 rfl rfl rfl (by first | exact Nat.le_of_ble_eq_true rfl | (simp [q_cat, q_catI, q_catJ, q_catR, q_catN]; done)) (by rw [hb9]; first | done | rfl) dX8_hiddenWorth_20 ⟨(by first | omega | (dsimp only; omega)), (by first | omega | (dsimp only; omega))⟩) (fun x7 M8 h => ?_)
      refine q_cast (pc := 23) C h rfl rfl (by decide +kernel) dX8_hiddenWorth_23 (fun h => ?_)
      refine q_astore (pc := 26) C 4 [(4, va_rf x7), (0, va_rf l0), (1, va_rf l1), (2, .int l2), (3, .int l3)] dX8_hiddenWorth_26 (by decide) (by first | rfl | simp [q_cat, q_catI, q_catJ, q_catR, q_catN]) ?_
      refine q_aload (pc := 28) C 4 0 dX8_hiddenWorth_28 rfl ?_
      refine q_gR (pc := 30) C h (T := TX3) rfl (by decide) (wk_u rfl wm_X8_hiddenWorth uq_X3 (by decide +kernel)) (by decide +kernel) (fun _ h9 => h9) dX8_hiddenWorth_30 (fun x10 h => ?_)
      refine q_ifnull (pc := 33) C 64 dX8_hiddenWorth_33 (by decide) (fun c11 => ?_) (fun c11 => ?_)
      · have h := h.1 c11
        refine q_widen (k2 := 0) (n2 := 0) (by omega) (by omega) ?_
        refine q_lv [1, 2, 3, 4] rfl ?_
        exact tX8_hiddenWorth_64 C hr hlocks ih h
      · have h := h.2 c11
        refine q_aload (pc := 36) C 4 0 dX8_hiddenWorth_36 rfl ?_
        refine q_gR (pc := 38) C h (T := TX3) rfl (by decide) (wk_u rfl wm_X8_hiddenWorth uq_X3 (by decide +kernel)) (by decide +kernel) (fun _ h9 => h9) dX8_hiddenWorth_38 (fun x12 h => ?_)
        refine q_gR (pc := 41) C h (T := TX6) rfl (by decide) (wk_u rfl wm_X8_hiddenWorth uq_X6 (by decide +kernel)) (by decide +kernel) (fun _ h9 => h9) dX8_hiddenWorth_41 (fun x13 h => ?_)
        refine q_aload_n (pc := 44) C 1 2 dX8_hiddenWorth_44 rfl rfl ?_
        refine q_acmp_ne (pc := 45) C 64 dX8_hiddenWorth_45 (by decide) (fun c14 => ?_) (fun c14 => ?_)
        · have h := h.2 c14
          refine q_widen (k2 := 0) (n2 := 0) (by omega) (by omega) ?_
          refine q_lv [1, 2, 3, 4] rfl ?_
          exact tX8_hiddenWorth_64 C hr hlocks ih h
        · have h := h.1 c14
          refine q_aload (pc := 48) C 4 0 dX8_hiddenWorth_48 rfl ?_
          obtain ⟨b17, fs9, hb17, hm9, h⟩ := h
          refine q_ci (pc := 50) (q_rV C (st := []) (b := b17) (kX3_isHidden l G b0 h) (cwV 0 C.2.2.2.2.1 gX8_hiddenWorth_X3_isHidden rfl rfl rfl (by decide +kernel) ⟨Nat.le_of_ble_eq_true rfl, Nat.le_of_ble_eq_true rfl⟩) hm9 rfl rfl rfl (by first | exact Nat.le_of_ble_eq_true rfl | (simp [q_cat, q_catI, q_catJ, q_catR, q_catN]; done)) (by rw [hb17]; first | done | rfl) dX8_hiddenWorth_50 ⟨(by first | omega | (dsimp only; omega)), (by first | omega | (dsimp only; omega))⟩) (fun x15 M16 h => ?_)
          refine q_if_eq (pc := 53) C 64 dX8_hiddenWorth_53 (by decide) (fun c18 => ?_) (fun c18 => ?_)
          · have h := h.1 c18
            refine q_widen (k2 := 0) (n2 := 0) (by omega) (by omega) ?_
            refine q_lv [1, 2, 3, 4] rfl ?_
            exact tX8_hiddenWorth_64 C hr hlocks ih h
          · have h := h.2 c18
            refine q_iload_n (pc := 56) C 2 3 dX8_hiddenWorth_56 rfl rfl ?_
            refine q_aload (pc := 57) C 4 0 dX8_hiddenWorth_57 rfl ?_
            refine q_gI (pc := 59) C h (T := TX3) rfl (by decide) (wk_u rfl wm_X8_hiddenWorth uq_X3 (by decide +kernel)) (by decide +kernel) (fun _ h9 => h9) dX8_hiddenWorth_59 (fun x19 h => ?_)
            refine q_iadd (pc := 62) C dX8_hiddenWorth_62 ?_
            refine q_istore_n (pc := 63) C 2 [(2, .int (l2 + x19)), (4, va_rf x7), (0, va_rf l0), (1, va_rf l1), (3, .int l3)] dX8_hiddenWorth_63 rfl (by decide) (by first | rfl | simp [q_cat, q_catI, q_catJ, q_catR, q_catN]) ?_
            refine q_widen (k2 := 0) (n2 := 0) (by omega) (by omega) ?_
            refine q_lv [2, 3, 0, 4] rfl ?_
            exact tX8_hiddenWorth_64 C hr hlocks ih h
set_option maxRecDepth 100000 in
set_option maxHeartbeats 4000000 in
theorem tX8_hiddenWorth {p : Program} {l : Launch} {e : Env} {s : State} {m : MethodId} {args : Array Value} {below : List Frame} {meth : Method} {c : Code} {G : mG} {b0 : Nat} (C : m_C p s m args c cX8_hiddenWorth 5 RX8 wsX8_hiddenWorth G b0) (hr : meth.sig.returnType = (some .int)) (hlocks : meth.locks = false) {κ : Int32 → mM → Prop} {l0 : Option Nat} {l1 : Option Nat} {M : mM} (h : wX8_hiddenWorth κ l0 l1 M) : m_W p l e ({ frames := 3, cells := 0, slots := 0, locals := 64 } : Room) s m args below meth c G b0 (MQ below (va_Qi κ (m_B G b0) (fun q => b0 ≤ q)) args s 0 0 (fun q => b0 ≤ q)) 5 M 0 0 0 [(0, va_rf l0), (1, va_rf l1)] [] := by
  unfold wX8_hiddenWorth at h
  refine q_iconst (pc := 0) C 0 dX8_hiddenWorth_0 (by decide) ?_
  refine q_istore_n (pc := 1) C 2 [(2, .int 0), (0, va_rf l0), (1, va_rf l1)] dX8_hiddenWorth_1 rfl (by decide) (by first | rfl | simp [q_cat, q_catI, q_catJ, q_catR, q_catN]) ?_
  refine q_iconst (pc := 2) C 0 dX8_hiddenWorth_2 (by decide) ?_
  refine q_istore_n (pc := 3) C 3 [(3, .int 0), (2, .int 0), (0, va_rf l0), (1, va_rf l1)] dX8_hiddenWorth_3 rfl (by decide) (by first | rfl | simp [q_cat, q_catI, q_catJ, q_catR, q_catN]) ?_
  refine q_widen (k2 := 0) (n2 := 0) (by omega) (by omega) ?_
  refine q_lv [2, 3, 1, 0] rfl ?_
  obtain ⟨f9, h⟩ := h
  exact tX8_hiddenWorth_4 C hr hlocks f9 _ _ _ _ _ h
set_option maxRecDepth 100000 in
set_option maxHeartbeats 4000000 in
theorem kX8_hiddenWorth (l : Launch) (G : mG) (b0 : Nat) {b : Nat} {l1 : Option Nat} {M : mM} {κ : Int32 → mM → Prop} (h : wX8_hiddenWorth κ (some b) l1 M) : Met l yX8_hiddenWorth wsX8_hiddenWorth ({ frames := 3, cells := 0, slots := 0, locals := 64 } : Room) (va_Pc [.ref b, va_rf l1] (m_Pre G b0 M)) (va_Qi κ (m_B G b0) (fun q => b0 ≤ q)) 0 0 (fun q => b0 ≤ q) := by
  refine m_met (cc := cX8_hiddenWorth) (maxL := 5) (ret := (some .int)) (lv := [(0, va_rf (some b)), (1, va_rf l1)]) RX8 rfl (by decide +kernel) rfl (by first | exact Nat.le_of_ble_eq_true rfl | simp [lg_sl, q_cat, q_catI, q_catJ, q_catR, q_catN]) (by first | rfl | (simp [lv_args, q_cat, q_catI, q_catJ, q_catR, q_catN]; done) | (simp [lv_args, q_cat, q_catI, q_catJ, q_catR, q_catN]; rfl)) ?_
  intro p e s m args below meth c C hr hlocks hni
  exact tX8_hiddenWorth C hr hlocks h
/-! X8_ofGate -/
set_option maxRecDepth 100000 in
set_option maxHeartbeats 4000000 in
theorem tX8_ofGate {p : Program} {l : Launch} {e : Env} {s : State} {m : MethodId} {args : Array Value} {below : List Frame} {meth : Method} {c : Code} {G : mG} {b0 : Nat} (C : m_C p s m args c cX8_ofGate 4 RX8 wsX8_ofGate G b0) (hr : meth.sig.returnType = (some .int)) (hlocks : meth.locks = false) {t : Nat} (hL : l.stackTraces = false) (hx : ∀ x ∈ c.exceptionTable.toList, False) {κ : Int32 → mM → Prop} {ξ : String → mM → Prop} (ht : ∀ E M, ξ E M → 1 ≤ t) {l0 : Option Nat} {l1 : Int32} {l2 : Int32} {M : mM} (h : wX8_ofGate κ ξ l0 l1 l2 M) : m_W p l e ({ frames := 7, cells := (0 + 2 * t), slots := (0 + 12 * t), locals := 111 } : Room) s m args below meth c G b0 (vx_MQ below (va_Qi κ (m_B G b0) (fun q => b0 ≤ q)) (m_X G b0 ξ) args s (0 + 2 * t) (0 + 12 * t) (fun q => b0 ≤ q)) 4 M 0 0 0 [(0, va_rf l0), (1, .int l1), (2, .int l2)] [] := by
  unfold wX8_ofGate at h
  refine q_aload_n (pc := 0) C 0 0 dX8_ofGate_0 rfl rfl ?_
  refine q_iload_n (pc := 1) C 1 1 dX8_ofGate_1 rfl rfl ?_
  obtain ⟨b3, fs9, hb3, hm9, h⟩ := h
  refine q_cXq (pc := 2) (q_rVX C (st := []) (b := b3) (kX8_gateNumbered l G b0 (t := t) hL ht h) (cwV 1 C.2.2.2.2.1 gX8_ofGate_X8_gateNumbered rfl rfl rfl (by decide +kernel) ⟨Nat.le_of_ble_eq_true rfl, Nat.le_of_ble_eq_true rfl⟩) hm9 rfl rfl rfl (by first | exact Nat.le_of_ble_eq_true rfl | (simp [q_cat, q_catI, q_catJ, q_catR, q_catN]; done)) (by rw [hb3]; first | done | rfl) dX8_ofGate_2 ⟨(by first | omega | (dsimp only; omega)), (by first | omega | (dsimp only; omega))⟩) (fun E9 M9 h9 => q_out C hx hlocks h9 (by omega) (by omega)) (fun x1 M2 h => ?_)
  refine q_astore_n (pc := 5) C 3 [(3, va_rf x1), (0, va_rf l0), (1, .int l1), (2, .int l2)] dX8_ofGate_5 rfl (by decide) (by first | rfl | simp [q_cat, q_catI, q_catJ, q_catR, q_catN]) ?_
  refine q_iload_n (pc := 6) C 2 3 dX8_ofGate_6 rfl rfl ?_
  by_cases c4 : l2 = 0
  · have h := h.1 c4
    refine q_tableIn (pc := 7) C 60 dX8_ofGate_7 (by rw [c4]; decide) (by rw [c4]; decide) (by rw [c4]; rfl) (by decide) ?_
    refine q_aload_n (pc := 60) C 3 0 dX8_ofGate_60 rfl rfl ?_
    refine q_gR (pc := 61) C h (T := TX0) rfl (by decide) (wk_u rfl wm_X8_ofGate uq_X0 (by decide +kernel)) (by decide +kernel) (fun _ h9 => h9) dX8_ofGate_61 (fun x5 h => ?_)
    refine q_gI (pc := 64) C h (T := TX2) rfl (by decide) (wk_u rfl wm_X8_ofGate uq_X2 (by decide +kernel)) (by decide +kernel) (fun _ h9 => h9) dX8_ofGate_64 (fun x6 h => ?_)
    exact q_iretX (pc := 67) C hr hlocks h dX8_ofGate_67 (by omega) (by omega)
  have h := h.2 c4
  by_cases c7 : l2 = 1
  · have h := h.1 c7
    refine q_tableIn (pc := 7) C 68 dX8_ofGate_7 (by rw [c7]; decide) (by rw [c7]; decide) (by rw [c7]; rfl) (by decide) ?_
    refine q_aload_n (pc := 68) C 3 0 dX8_ofGate_68 rfl rfl ?_
    refine q_gR (pc := 69) C h (T := TX0) rfl (by decide) (wk_u rfl wm_X8_ofGate uq_X0 (by decide +kernel)) (by decide +kernel) (fun _ h9 => h9) dX8_ofGate_69 (fun x8 h => ?_)
    refine q_gI (pc := 72) C h (T := TX2) rfl (by decide) (wk_u rfl wm_X8_ofGate uq_X2 (by decide +kernel)) (by decide +kernel) (fun _ h9 => h9) dX8_ofGate_72 (fun x9 h => ?_)
    exact q_iretX (pc := 75) C hr hlocks h dX8_ofGate_75 (by omega) (by omega)
  have h := h.2 c7
  by_cases c10 : l2 = 2
  · have h := h.1 c10
    refine q_tableIn (pc := 7) C 76 dX8_ofGate_7 (by rw [c10]; decide) (by rw [c10]; decide) (by rw [c10]; rfl) (by decide) ?_
    refine q_aload_n (pc := 76) C 3 0 dX8_ofGate_76 rfl rfl ?_
    refine q_aload_n (pc := 77) C 0 1 dX8_ofGate_77 rfl rfl ?_
    refine q_gI (pc := 78) C h (T := TX8) rfl (by decide) (wk_u rfl wm_X8_ofGate uq_X8 (by decide +kernel)) (by decide +kernel) (fun _ h9 => h9) dX8_ofGate_78 (fun x11 h => ?_)
    obtain ⟨b14, fs9, hb14, hm9, h⟩ := h
    refine q_ci (pc := 81) (q_rV C (st := []) (b := b14) (kX0_isOpenAt l G b0 h) (cwV 1 C.2.2.2.2.1 gX8_ofGate_X0_isOpenAt rfl rfl rfl (by decide +kernel) ⟨Nat.le_of_ble_eq_true rfl, Nat.le_of_ble_eq_true rfl⟩) hm9 rfl rfl rfl (by first | exact Nat.le_of_ble_eq_true rfl | (simp [q_cat, q_catI, q_catJ, q_catR, q_catN]; done)) (by rw [hb14]; first | done | rfl) dX8_ofGate_81 ⟨(by first | omega | (dsimp only; omega)), (by first | omega | (dsimp only; omega))⟩) (fun x12 M13 h => ?_)
    refine q_if_eq (pc := 84) C 91 dX8_ofGate_84 (by decide) (fun c15 => ?_) (fun c15 => ?_)
    · have h := h.1 c15
      refine q_iconst (pc := 91) C 0 dX8_ofGate_91 (by decide) ?_
      exact q_iretX (pc := 92) C hr hlocks h dX8_ofGate_92 (by omega) (by omega)
    · have h := h.2 c15
      refine q_iconst (pc := 87) C 1 dX8_ofGate_87 (by decide) ?_
      refine q_goto (pc := 88) C 92 dX8_ofGate_88 (by decide) ?_
      exact q_iretX (pc := 92) C hr hlocks h dX8_ofGate_92 (by omega) (by omega)
  have h := h.2 c10
  by_cases c16 : l2 = 3
  · have h := h.1 c16
    refine q_tableIn (pc := 7) C 93 dX8_ofGate_7 (by rw [c16]; decide) (by rw [c16]; decide) (by rw [c16]; rfl) (by decide) ?_
    refine q_aload_n (pc := 93) C 3 0 dX8_ofGate_93 rfl rfl ?_
    refine q_gI (pc := 94) C h (T := TX0) rfl (by decide) (wk_u rfl wm_X8_ofGate uq_X0 (by decide +kernel)) (by decide +kernel) (fun _ h9 => h9) dX8_ofGate_94 (fun x17 h => ?_)
    exact q_iretX (pc := 97) C hr hlocks h dX8_ofGate_97 (by omega) (by omega)
  have h := h.2 c16
  by_cases c18 : l2 = 4
  · have h := h.1 c18
    refine q_tableIn (pc := 7) C 98 dX8_ofGate_7 (by rw [c18]; decide) (by rw [c18]; decide) (by rw [c18]; rfl) (by decide) ?_
    refine q_aload_n (pc := 98) C 3 0 dX8_ofGate_98 rfl rfl ?_
    refine q_gI (pc := 99) C h (T := TX0) rfl (by decide) (wk_u rfl wm_X8_ofGate uq_X0 (by decide +kernel)) (by decide +kernel) (fun _ h9 => h9) dX8_ofGate_99 (fun x19 h => ?_)
    exact q_iretX (pc := 102) C hr hlocks h dX8_ofGate_102 (by omega) (by omega)
  have h := h.2 c18
  by_cases c20 : l2 = 5
  · have h := h.1 c20
    refine q_tableIn (pc := 7) C 103 dX8_ofGate_7 (by rw [c20]; decide) (by rw [c20]; decide) (by rw [c20]; rfl) (by decide) ?_
    refine q_aload_n (pc := 103) C 3 0 dX8_ofGate_103 rfl rfl ?_
    obtain ⟨b23, fs9, hb23, hm9, h⟩ := h
    refine q_ci (pc := 104) (q_rV C (st := []) (b := b23) (kX0_dozes l G b0 h) (cwV 0 C.2.2.2.2.1 gX8_ofGate_X0_dozes rfl rfl rfl (by decide +kernel) ⟨Nat.le_of_ble_eq_true rfl, Nat.le_of_ble_eq_true rfl⟩) hm9 rfl rfl rfl (by first | exact Nat.le_of_ble_eq_true rfl | (simp [q_cat, q_catI, q_catJ, q_catR, q_catN]; done)) (by rw [hb23]; first | done | rfl) dX8_ofGate_104 ⟨(by first | omega | (dsimp only; omega)), (by first | omega | (dsimp only; omega))⟩) (fun x21 M22 h => ?_)
    refine q_if_eq (pc := 107) C 114 dX8_ofGate_107 (by decide) (fun c24 => ?_) (fun c24 => ?_)
    · have h := h.1 c24
      refine q_iconst (pc := 114) C 0 dX8_ofGate_114 (by decide) ?_
      exact q_iretX (pc := 115) C hr hlocks h dX8_ofGate_115 (by omega) (by omega)
    · have h := h.2 c24
      refine q_iconst (pc := 110) C 1 dX8_ofGate_110 (by decide) ?_
      refine q_goto (pc := 111) C 115 dX8_ofGate_111 (by decide) ?_
      exact q_iretX (pc := 115) C hr hlocks h dX8_ofGate_115 (by omega) (by omega)
  have h := h.2 c20
  by_cases c25 : l2 = 6
  · have h := h.1 c25
    refine q_tableIn (pc := 7) C 116 dX8_ofGate_7 (by rw [c25]; decide) (by rw [c25]; decide) (by rw [c25]; rfl) (by decide) ?_
    refine q_aload_n (pc := 116) C 3 0 dX8_ofGate_116 rfl rfl ?_
    refine q_gR (pc := 117) C h (T := TX0) rfl (by decide) (wk_u rfl wm_X8_ofGate uq_X0 (by decide +kernel)) (by decide +kernel) (fun _ h9 => h9) dX8_ofGate_117 (fun x26 h => ?_)
    obtain ⟨b29, fs9, hb29, hm9, h⟩ := h
    refine q_ci (pc := 120) (q_rV C (st := []) (b := b29) (kJx4a65c_size_8abf5 l G b0 h) (cwV 0 C.2.2.2.2.1 gX8_ofGate_Jx4a65c_size_8abf5 rfl rfl rfl (by decide +kernel) ⟨Nat.le_of_ble_eq_true rfl, Nat.le_of_ble_eq_true rfl⟩) hm9 rfl rfl rfl (by first | exact Nat.le_of_ble_eq_true rfl | (simp [q_cat, q_catI, q_catJ, q_catR, q_catN]; done)) (by rw [hb29]; first | done | rfl) dX8_ofGate_120 ⟨(by first | omega | (dsimp only; omega)), (by first | omega | (dsimp only; omega))⟩) (fun x27 M28 h => ?_)
    exact q_iretX (pc := 123) C hr hlocks h dX8_ofGate_123 (by omega) (by omega)
  have h := h.2 c25
  by_cases c30 : l2 = 7
  · have h := h.1 c30
    refine q_tableIn (pc := 7) C 124 dX8_ofGate_7 (by rw [c30]; decide) (by rw [c30]; decide) (by rw [c30]; rfl) (by decide) ?_
    refine q_aload_n (pc := 124) C 3 0 dX8_ofGate_124 rfl rfl ?_
    refine q_gR (pc := 125) C h (T := TX0) rfl (by decide) (wk_u rfl wm_X8_ofGate uq_X0 (by decide +kernel)) (by decide +kernel) (fun _ h9 => h9) dX8_ofGate_125 (fun x31 h => ?_)
    obtain ⟨b34, fs9, hb34, hm9, h⟩ := h
    refine q_ci (pc := 128) (q_rV C (st := []) (b := b34) (kJx4a65c_isEmpty_aae02 l G b0 h) (cwV 0 C.2.2.2.2.1 gX8_ofGate_Jx4a65c_isEmpty_aae02 rfl rfl rfl (by decide +kernel) ⟨Nat.le_of_ble_eq_true rfl, Nat.le_of_ble_eq_true rfl⟩) hm9 rfl rfl rfl (by first | exact Nat.le_of_ble_eq_true rfl | (simp [q_cat, q_catI, q_catJ, q_catR, q_catN]; done)) (by rw [hb34]; first | done | rfl) dX8_ofGate_128 ⟨(by first | omega | (dsimp only; omega)), (by first | omega | (dsimp only; omega))⟩) (fun x32 M33 h => ?_)
    refine q_if_eq (pc := 131) C 138 dX8_ofGate_131 (by decide) (fun c35 => ?_) (fun c35 => ?_)
    · have h := h.1 c35
      refine q_aload_n (pc := 138) C 3 0 dX8_ofGate_138 rfl rfl ?_
      refine q_gR (pc := 139) C h (T := TX0) rfl (by decide) (wk_u rfl wm_X8_ofGate uq_X0 (by decide +kernel)) (by decide +kernel) (fun _ h9 => h9) dX8_ofGate_139 (fun x36 h => ?_)
      refine q_iconst (pc := 142) C 0 dX8_ofGate_142 (by decide) ?_
      obtain ⟨b39, fs9, hb39, hm9, h⟩ := h
      refine q_cq (pc := 143) (q_rV C (st := []) (b := b39) (kJx4a65c_get_915e3 l G b0 h) (cwV 1 C.2.2.2.2.1 gX8_ofGate_Jx4a65c_get_915e3 rfl rfl rfl (by decide +kernel) ⟨Nat.le_of_ble_eq_true rfl, Nat.le_of_ble_eq_true rfl⟩) hm9 rfl rfl rfl (by first | exact Nat.le_of_ble_eq_true rfl | (simp [q_cat, q_catI, q_catJ, q_catR, q_catN]; done)) (by rw [hb39]; first | done | rfl) dX8_ofGate_143 ⟨(by first | omega | (dsimp only; omega)), (by first | omega | (dsimp only; omega))⟩) (fun x37 M38 h => ?_)
      refine q_cast (pc := 146) C h rfl rfl (by decide +kernel) dX8_ofGate_146 (fun h => ?_)
      refine q_gI (pc := 149) C h (T := TX6) rfl (by decide) (wk_u rfl wm_X8_ofGate uq_X6 (by decide +kernel)) (by decide +kernel) (fun _ h9 => h9) dX8_ofGate_149 (fun x40 h => ?_)
      exact q_iretX (pc := 152) C hr hlocks h dX8_ofGate_152 (by omega) (by omega)
    · have h := h.2 c35
      refine q_iconst (pc := 134) C (-1) dX8_ofGate_134 (by decide) ?_
      refine q_goto (pc := 135) C 152 dX8_ofGate_135 (by decide) ?_
      exact q_iretX (pc := 152) C hr hlocks h dX8_ofGate_152 (by omega) (by omega)
  have h := h.2 c30
  by_cases c41 : l2 = 8
  · have h := h.1 c41
    refine q_tableIn (pc := 7) C 153 dX8_ofGate_7 (by rw [c41]; decide) (by rw [c41]; decide) (by rw [c41]; rfl) (by decide) ?_
    refine q_aload_n (pc := 153) C 0 1 dX8_ofGate_153 rfl rfl ?_
    refine q_aload_n (pc := 154) C 3 0 dX8_ofGate_154 rfl rfl ?_
    obtain ⟨b44, fs9, hb44, hm9, h⟩ := h
    refine q_ci (pc := 155) (q_rV C (st := []) (b := b44) (kX8_hiddenWorth l G b0 h) (cwV 1 C.2.2.2.2.1 gX8_ofGate_X8_hiddenWorth rfl rfl rfl (by decide +kernel) ⟨Nat.le_of_ble_eq_true rfl, Nat.le_of_ble_eq_true rfl⟩) hm9 rfl rfl rfl (by first | exact Nat.le_of_ble_eq_true rfl | (simp [q_cat, q_catI, q_catJ, q_catR, q_catN]; done)) (by rw [hb44]; first | done | rfl) dX8_ofGate_155 ⟨(by first | omega | (dsimp only; omega)), (by first | omega | (dsimp only; omega))⟩) (fun x42 M43 h => ?_)
    exact q_iretX (pc := 158) C hr hlocks h dX8_ofGate_158 (by omega) (by omega)
  have h := h.2 c41
  by_cases c45 : l2 = 9
  · have h := h.1 c45
    refine q_tableIn (pc := 7) C 159 dX8_ofGate_7 (by rw [c45]; decide) (by rw [c45]; decide) (by rw [c45]; rfl) (by decide) ?_
    refine q_aload_n (pc := 159) C 3 0 dX8_ofGate_159 rfl rfl ?_
    refine q_gR (pc := 160) C h (T := TX0) rfl (by decide) (wk_u rfl wm_X8_ofGate uq_X0 (by decide +kernel)) (by decide +kernel) (fun _ h9 => h9) dX8_ofGate_160 (fun x46 h => ?_)
    obtain ⟨b49, fs9, hb49, hm9, h⟩ := h
    refine q_ci (pc := 163) (q_rV C (st := []) (b := b49) (kX7_size l G b0 h) (cwV 0 C.2.2.2.2.1 gX8_ofGate_X7_size rfl rfl rfl (by decide +kernel) ⟨Nat.le_of_ble_eq_true rfl, Nat.le_of_ble_eq_true rfl⟩) hm9 rfl rfl rfl (by first | exact Nat.le_of_ble_eq_true rfl | (simp [q_cat, q_catI, q_catJ, q_catR, q_catN]; done)) (by rw [hb49]; first | done | rfl) dX8_ofGate_163 ⟨(by first | omega | (dsimp only; omega)), (by first | omega | (dsimp only; omega))⟩) (fun x47 M48 h => ?_)
    exact q_iretX (pc := 166) C hr hlocks h dX8_ofGate_166 (by omega) (by omega)
  have h := h.2 c45
  refine q_tableOut (pc := 7) C 167 dX8_ofGate_7 ?_ (by decide) ?_
  · have hsw := m_sw (x := l2) 0 10 (fun j hj => by
      rcases (show j = 0 ∨ j = 1 ∨ j = 2 ∨ j = 3 ∨ j = 4 ∨ j = 5 ∨ j = 6 ∨ j = 7 ∨ j = 8 ∨ j = 9 by omega) with rfl | rfl | rfl | rfl | rfl | rfl | rfl | rfl | rfl | rfl
      · exact c4
      · exact c7
      · exact c10
      · exact c16
      · exact c18
      · exact c20
      · exact c25
      · exact c30
      · exact c41
      · exact c45
      ) (by decide)
    rcases hsw with q9 | q9
    · exact Or.inl (by simpa using q9)
    · exact Or.inr (by simp at q9 ⊢; omega)
  have ht9 := ht _ _ h
  exact q_throwSW (pc := 167) (names := ["java/lang/RuntimeException", "java/lang/Exception"]) (text := "nothing of a GATE has that number") C hL hx hlocks h (by decide +kernel) (by decide +kernel) (by decide +kernel) (by decide +kernel) (List.mem_of_getElem? (i := 396) (by decide +kernel)) (by decide +kernel) (by decide +kernel) (by decide +kernel) dX8_ofGate_167 dX8_ofGate_170 dX8_ofGate_171 dX8_ofGate_174 dX8_ofGate_177 (Nat.le_of_ble_eq_true rfl) (by first | exact Nat.le_of_ble_eq_true rfl | (simp [q_cat, q_catI, q_catJ, q_catR, q_catN]; done) | (simp [q_cat, q_catI, q_catJ, q_catR, q_catN]; decide)) (by first | omega | (dsimp only; omega)) (by first | omega | (dsimp only; omega)) (by omega) (by omega)
set_option maxRecDepth 100000 in
set_option maxHeartbeats 4000000 in
theorem kX8_ofGate (l : Launch) (G : mG) (b0 : Nat) {t : Nat} (hL : l.stackTraces = false) {b : Nat} {l1 : Int32} {l2 : Int32} {M : mM} {κ : Int32 → mM → Prop} {ξ : String → mM → Prop} (ht : ∀ E M, ξ E M → 1 ≤ t) (h : wX8_ofGate κ ξ (some b) l1 l2 M) : vx_Met l yX8_ofGate wsX8_ofGate ({ frames := 7, cells := (0 + 2 * t), slots := (0 + 12 * t), locals := 111 } : Room) (va_Pc [.ref b, .int l1, .int l2] (m_Pre G b0 M)) (va_Qi κ (m_B G b0) (fun q => b0 ≤ q)) (m_X G b0 ξ) (0 + 2 * t) (0 + 12 * t) (fun q => b0 ≤ q) := by
  refine m_metX (cc := cX8_ofGate) (maxL := 4) (ret := (some .int)) (lv := [(0, va_rf (some b)), (1, .int l1), (2, .int l2)]) RX8 rfl (by decide +kernel) rfl (by first | exact Nat.le_of_ble_eq_true rfl | simp [lg_sl, q_cat, q_catI, q_catJ, q_catR, q_catN]) (by first | rfl | (simp [lv_args, q_cat, q_catI, q_catJ, q_catR, q_catN]; done) | (simp [lv_args, q_cat, q_catI, q_catJ, q_catR, q_catN]; rfl)) ?_
  intro p e s m args below meth c C hr hlocks hx
  exact tX8_ofGate C hr hlocks hL hx ht h
/-! X8_linksOf -/
set_option maxRecDepth 100000 in
set_option maxHeartbeats 4000000 in
theorem tX8_linksOf_40 {p : Program} {l : Launch} {e : Env} {s : State} {m : MethodId} {args : Array Value} {below : List Frame} {meth : Method} {c : Code} {G : mG} {b0 : Nat} (C : m_C p s m args c cX8_linksOf 4 RX8 wsX8_linksOf G b0) (hr : meth.sig.returnType = (some .int)) (hlocks : meth.locks = false) {κ : Int32 → mM → Prop} {R4 : Option Nat → Int32 → Int32 → Int32 → mM → Prop} (hR4 : ∀ (l0 : Option Nat) (l1 : Int32) (l2 : Int32) (l3 : Int32) (M : mM), R4 l0 l1 l2 l3 M → m_W p l e ({ frames := 3, cells := 0, slots := 0, locals := 64 } : Room) s m args below meth c G b0 (MQ below (va_Qi κ (m_B G b0) (fun q => b0 ≤ q)) args s 0 0 (fun q => b0 ≤ q)) 4 M 0 0 4 [(0, va_rf l0), (1, .int l1), (2, .int l2), (3, .int l3)] []) {l0 : Option Nat} {l1 : Int32} {l2 : Int32} {l3 : Int32} {M : mM} (h : wX8_linksOf_40 κ R4 l0 l1 l2 l3 M) : m_W p l e ({ frames := 3, cells := 0, slots := 0, locals := 64 } : Room) s m args below meth c G b0 (MQ below (va_Qi κ (m_B G b0) (fun q => b0 ≤ q)) args s 0 0 (fun q => b0 ≤ q)) 4 M 0 0 40 [(0, va_rf l0), (1, .int l1), (2, .int l2), (3, .int l3)] [] := by
  unfold wX8_linksOf_40 at h
  refine q_iinc (pc := 40) C 3 3 (l3 + 1) [(3, .int (l3 + 1)), (0, va_rf l0), (1, .int l1), (2, .int l2)] dX8_linksOf_40 rfl (by rfl) (by decide) (by first | rfl | simp [q_cat, q_catI, q_catJ, q_catR, q_catN]) ?_
  refine q_goto (pc := 43) C 4 dX8_linksOf_43 (by decide) ?_
  refine q_widen (k2 := 0) (n2 := 0) (by omega) (by omega) ?_
  refine q_lv [1, 2, 3, 0] rfl ?_
  exact hR4 _ _ _ _ _ h
set_option maxRecDepth 100000 in
set_option maxHeartbeats 4000000 in
theorem tX8_linksOf_4 {p : Program} {l : Launch} {e : Env} {s : State} {m : MethodId} {args : Array Value} {below : List Frame} {meth : Method} {c : Code} {G : mG} {b0 : Nat} (C : m_C p s m args c cX8_linksOf 4 RX8 wsX8_linksOf G b0) (hr : meth.sig.returnType = (some .int)) (hlocks : meth.locks = false) {κ : Int32 → mM → Prop} : ∀ (f : Nat) (l0 : Option Nat) (l1 : Int32) (l2 : Int32) (l3 : Int32) (M : mM), wX8_linksOf_4 κ f l0 l1 l2 l3 M → m_W p l e ({ frames := 3, cells := 0, slots := 0, locals := 64 } : Room) s m args below meth c G b0 (MQ below (va_Qi κ (m_B G b0) (fun q => b0 ≤ q)) args s 0 0 (fun q => b0 ≤ q)) 4 M 0 0 4 [(0, va_rf l0), (1, .int l1), (2, .int l2), (3, .int l3)] [] := by
  intro f
  induction f with
  | zero =>
    intro l0 l1 l2 l3 M h
    exact absurd h (by simp [wX8_linksOf_4])
  | succ f ih =>
    intro l0 l1 l2 l3 M h
    rw [wX8_linksOf_4] at h
    refine q_iload_n (pc := 4) C 3 3 dX8_linksOf_4 rfl rfl ?_
    refine q_aload_n (pc := 5) C 0 0 dX8_linksOf_5 rfl rfl ?_
    refine q_gR (pc := 6) C h (T := TX8) rfl (by decide) (wk_u rfl wm_X8_linksOf uq_X8 (by decide +kernel)) (by decide +kernel) (fun _ h9 => h9) dX8_linksOf_6 (fun x1 h => ?_)
    obtain ⟨b4, fs9, hb4, hm9, h⟩ := h
    refine q_ci (pc := 9) (q_rV C (st := [.int l3]) (b := b4) (kJx4a65c_size_8abf5 l G b0 h) (cwV 0 C.2.2.2.2.1 gX8_linksOf_Jx4a65c_size_8abf5 rfl rfl rfl (by decide +kernel) ⟨Nat.le_of_ble_eq_true rfl, Nat.le_of_ble_eq_true rfl⟩) hm9 rfl rfl rfl (by first | exact Nat.le_of_ble_eq_true rfl | (simp [q_cat, q_catI, q_catJ, q_catR, q_catN]; done)) (by rw [hb4]; first | done | rfl) dX8_linksOf_9 ⟨(by first | omega | (dsimp only; omega)), (by first | omega | (dsimp only; omega))⟩) (fun x2 M3 h => ?_)
    refine q_icmp_ge (pc := 12) C 46 dX8_linksOf_12 (by decide) (fun c5 => ?_) (fun c5 => ?_)
    · have h := h.1 c5
      refine q_iload_n (pc := 46) C 2 2 dX8_linksOf_46 rfl rfl ?_
      exact q_iret (pc := 47) C hr hlocks h dX8_linksOf_47 (by omega) (by omega)
    · have h := h.2 c5
      refine q_iload_n (pc := 15) C 1 1 dX8_linksOf_15 rfl rfl ?_
      refine q_iload_n (pc := 16) C 3 3 dX8_linksOf_16 rfl rfl ?_
      refine q_ishr (pc := 17) C dX8_linksOf_17 ?_
      refine m_stk (st2 := .int (m_shr l1 l3) :: _) rfl ?_
      refine q_iconst (pc := 18) C 1 dX8_linksOf_18 (by decide) ?_
      refine q_iand (pc := 19) C dX8_linksOf_19 ?_
      refine q_if_eq (pc := 20) C 40 dX8_linksOf_20 (by decide) (fun c6 => ?_) (fun c6 => ?_)
      · have h := h.1 c6
        refine q_widen (k2 := 0) (n2 := 0) (by omega) (by omega) ?_
        refine q_lv [0, 1, 2, 3] rfl ?_
        exact tX8_linksOf_40 C hr hlocks ih h
      · have h := h.2 c6
        refine q_iload_n (pc := 23) C 2 2 dX8_linksOf_23 rfl rfl ?_
        refine q_aload_n (pc := 24) C 0 0 dX8_linksOf_24 rfl rfl ?_
        refine q_gR (pc := 25) C h (T := TX8) rfl (by decide) (wk_u rfl wm_X8_linksOf uq_X8 (by decide +kernel)) (by decide +kernel) (fun _ h9 => h9) dX8_linksOf_25 (fun x7 h => ?_)
        refine q_iload_n (pc := 28) C 3 3 dX8_linksOf_28 rfl rfl ?_
        obtain ⟨b10, fs9, hb10, hm9, h⟩ := h
        refine q_cq (pc := 29) (q_rV C (st := [.int l2]) (b := b10) (kJx4a65c_get_915e3 l G b0 h) (cwV 1 C.2.2.2.2.1 gX8_linksOf_Jx4a65c_get_915e3 rfl rfl rfl (by decide +kernel) ⟨Nat.le_of_ble_eq_true rfl, Nat.le_of_ble_eq_true rfl⟩) hm9 rfl rfl rfl (by first | exact Nat.le_of_ble_eq_true rfl | (simp [q_cat, q_catI, q_catJ, q_catR, q_catN]; done)) (by rw [hb10]; first | done | rfl) dX8_linksOf_29 ⟨(by first | omega | (dsimp only; omega)), (by first | omega | (dsimp only; omega))⟩) (fun x8 M9 h => ?_)
        refine q_cast (pc := 32) C h rfl rfl (by decide +kernel) dX8_linksOf_32 (fun h => ?_)
        refine q_gI (pc := 35) C h (T := TX6) rfl (by decide) (wk_u rfl wm_X8_linksOf uq_X6 (by decide +kernel)) (by decide +kernel) (fun _ h9 => h9) dX8_linksOf_35 (fun x11 h => ?_)
        refine q_ior (pc := 38) C dX8_linksOf_38 ?_
        refine q_istore_n (pc := 39) C 2 [(2, .int (l2 ||| x11)), (0, va_rf l0), (1, .int l1), (3, .int l3)] dX8_linksOf_39 rfl (by decide) (by first | rfl | simp [q_cat, q_catI, q_catJ, q_catR, q_catN]) ?_
        refine q_widen (k2 := 0) (n2 := 0) (by omega) (by omega) ?_
        refine q_lv [1, 2, 0, 3] rfl ?_
        exact tX8_linksOf_40 C hr hlocks ih h
set_option maxRecDepth 100000 in
set_option maxHeartbeats 4000000 in
theorem tX8_linksOf {p : Program} {l : Launch} {e : Env} {s : State} {m : MethodId} {args : Array Value} {below : List Frame} {meth : Method} {c : Code} {G : mG} {b0 : Nat} (C : m_C p s m args c cX8_linksOf 4 RX8 wsX8_linksOf G b0) (hr : meth.sig.returnType = (some .int)) (hlocks : meth.locks = false) {κ : Int32 → mM → Prop} {l0 : Option Nat} {l1 : Int32} {M : mM} (h : wX8_linksOf κ l0 l1 M) : m_W p l e ({ frames := 3, cells := 0, slots := 0, locals := 64 } : Room) s m args below meth c G b0 (MQ below (va_Qi κ (m_B G b0) (fun q => b0 ≤ q)) args s 0 0 (fun q => b0 ≤ q)) 4 M 0 0 0 [(0, va_rf l0), (1, .int l1)] [] := by
  unfold wX8_linksOf at h
  refine q_iconst (pc := 0) C 0 dX8_linksOf_0 (by decide) ?_
  refine q_istore_n (pc := 1) C 2 [(2, .int 0), (0, va_rf l0), (1, .int l1)] dX8_linksOf_1 rfl (by decide) (by first | rfl | simp [q_cat, q_catI, q_catJ, q_catR, q_catN]) ?_
  refine q_iconst (pc := 2) C 0 dX8_linksOf_2 (by decide) ?_
  refine q_istore_n (pc := 3) C 3 [(3, .int 0), (2, .int 0), (0, va_rf l0), (1, .int l1)] dX8_linksOf_3 rfl (by decide) (by first | rfl | simp [q_cat, q_catI, q_catJ, q_catR, q_catN]) ?_
  refine q_widen (k2 := 0) (n2 := 0) (by omega) (by omega) ?_
  refine q_lv [2, 3, 1, 0] rfl ?_
  obtain ⟨f9, h⟩ := h
  exact tX8_linksOf_4 C hr hlocks f9 _ _ _ _ _ h
set_option maxRecDepth 100000 in
set_option maxHeartbeats 4000000 in
theorem kX8_linksOf (l : Launch) (G : mG) (b0 : Nat) {b : Nat} {l1 : Int32} {M : mM} {κ : Int32 → mM → Prop} (h : wX8_linksOf κ (some b) l1 M) : Met l yX8_linksOf wsX8_linksOf ({ frames := 3, cells := 0, slots := 0, locals := 64 } : Room) (va_Pc [.ref b, .int l1] (m_Pre G b0 M)) (va_Qi κ (m_B G b0) (fun q => b0 ≤ q)) 0 0 (fun q => b0 ≤ q) := by
  refine m_met (cc := cX8_linksOf) (maxL := 4) (ret := (some .int)) (lv := [(0, va_rf (some b)), (1, .int l1)]) RX8 rfl (by decide +kernel) rfl (by first | exact Nat.le_of_ble_eq_true rfl | simp [lg_sl, q_cat, q_catI, q_catJ, q_catR, q_catN]) (by first | rfl | (simp [lv_args, q_cat, q_catI, q_catJ, q_catR, q_catN]; done) | (simp [lv_args, q_cat, q_catI, q_catJ, q_catR, q_catN]; rfl)) ?_
  intro p e s m args below meth c C hr hlocks hni
  exact tX8_linksOf C hr hlocks h
/-! X8_ringOf -/
set_option maxRecDepth 100000 in
set_option maxHeartbeats 4000000 in
theorem tX8_ringOf_9 {p : Program} {l : Launch} {e : Env} {s : State} {m : MethodId} {args : Array Value} {below : List Frame} {meth : Method} {c : Code} {G : mG} {b0 : Nat} (C : m_C p s m args c cX8_ringOf 5 RX8 wsX8_ringOf G b0) (hr : meth.sig.returnType = (some .int)) (hlocks : meth.locks = false) {κ : Int32 → mM → Prop} : ∀ (f : Nat) (l0 : Option Nat) (l2 : Int32) (l3 : Int32) (M : mM), wX8_ringOf_9 κ f l0 l2 l3 M → m_W p l e ({ frames := 4, cells := 0, slots := 0, locals := 87 } : Room) s m args below meth c G b0 (MQ below (va_Qi κ (m_B G b0) (fun q => b0 ≤ q)) args s 0 0 (fun q => b0 ≤ q)) 5 M 0 0 9 [(0, va_rf l0), (2, .int l2), (3, .int l3)] [] := by
  intro f
  induction f with
  | zero =>
    intro l0 l2 l3 M h
    exact absurd h (by simp [wX8_ringOf_9])
  | succ f ih =>
    intro l0 l2 l3 M h
    rw [wX8_ringOf_9] at h
    refine q_iload_n (pc := 9) C 3 2 dX8_ringOf_9 rfl rfl ?_
    refine q_bipush (pc := 10) C 12 dX8_ringOf_10 (by decide) ?_
    refine q_icmp_ge (pc := 12) C 42 dX8_ringOf_12 (by decide) (fun c1 => ?_) (fun c1 => ?_)
    · have h := h.1 c1
      refine q_iload_n (pc := 42) C 2 1 dX8_ringOf_42 rfl rfl ?_
      exact q_iret (pc := 43) C hr hlocks h dX8_ringOf_43 (by omega) (by omega)
    · have h := h.2 c1
      refine q_iload_n (pc := 15) C 2 1 dX8_ringOf_15 rfl rfl ?_
      refine q_aload_n (pc := 16) C 0 0 dX8_ringOf_16 rfl rfl ?_
      refine q_iload_n (pc := 17) C 2 1 dX8_ringOf_17 rfl rfl ?_
      obtain ⟨b4, fs9, hb4, hm9, h⟩ := h
      refine q_ci (pc := 18) (q_rV C (st := [.int l2]) (b := b4) (kX8_linksOf l G b0 h) (cwV 1 C.2.2.2.2.1 gX8_ringOf_X8_linksOf rfl rfl rfl (by decide +kernel) ⟨Nat.le_of_ble_eq_true rfl, Nat.le_of_ble_eq_true rfl⟩) hm9 rfl rfl rfl (by first | exact Nat.le_of_ble_eq_true rfl | (simp [q_cat, q_catI, q_catJ, q_catR, q_catN]; done)) (by rw [hb4]; first | done | rfl) dX8_ringOf_18 ⟨(by first | omega | (dsimp only; omega)), (by first | omega | (dsimp only; omega))⟩) (fun x2 M3 h => ?_)
      refine q_ior (pc := 21) C dX8_ringOf_21 ?_
      refine q_istore (pc := 22) C 4 [(4, .int (l2 ||| x2)), (0, va_rf l0), (2, .int l2), (3, .int l3)] dX8_ringOf_22 (by decide) (by first | rfl | simp [q_cat, q_catI, q_catJ, q_catR, q_catN]) ?_
      refine q_iload (pc := 24) C 4 0 dX8_ringOf_24 rfl ?_
      refine q_iload_n (pc := 26) C 2 2 dX8_ringOf_26 rfl rfl ?_
      refine q_icmp_ne (pc := 27) C 33 dX8_ringOf_27 (by decide) (fun c5 => ?_) (fun c5 => ?_)
      · have h := h.2 c5
        refine q_iload (pc := 33) C 4 0 dX8_ringOf_33 rfl ?_
        refine q_istore_n (pc := 35) C 2 [(2, .int (l2 ||| x2)), (4, .int (l2 ||| x2)), (0, va_rf l0), (3, .int l3)] dX8_ringOf_35 rfl (by decide) (by first | rfl | simp [q_cat, q_catI, q_catJ, q_catR, q_catN]) ?_
        refine q_iinc (pc := 36) C 3 3 (l3 + 1) [(3, .int (l3 + 1)), (2, .int (l2 ||| x2)), (4, .int (l2 ||| x2)), (0, va_rf l0)] dX8_ringOf_36 rfl (by rfl) (by decide) (by first | rfl | simp [q_cat, q_catI, q_catJ, q_catR, q_catN]) ?_
        refine q_goto (pc := 39) C 9 dX8_ringOf_39 (by decide) ?_
        refine q_widen (k2 := 0) (n2 := 0) (by omega) (by omega) ?_
        refine q_lv [3, 1, 0] rfl ?_
        exact ih _ _ _ _ h
      · have h := h.1 c5
        refine q_goto (pc := 30) C 42 dX8_ringOf_30 (by decide) ?_
        refine q_iload_n (pc := 42) C 2 2 dX8_ringOf_42 rfl rfl ?_
        exact q_iret (pc := 43) C hr hlocks h dX8_ringOf_43 (by omega) (by omega)
set_option maxRecDepth 100000 in
set_option maxHeartbeats 4000000 in
theorem tX8_ringOf {p : Program} {l : Launch} {e : Env} {s : State} {m : MethodId} {args : Array Value} {below : List Frame} {meth : Method} {c : Code} {G : mG} {b0 : Nat} (C : m_C p s m args c cX8_ringOf 5 RX8 wsX8_ringOf G b0) (hr : meth.sig.returnType = (some .int)) (hlocks : meth.locks = false) {κ : Int32 → mM → Prop} {l0 : Option Nat} {l1 : Option Nat} {M : mM} (h : wX8_ringOf κ l0 l1 M) : m_W p l e ({ frames := 4, cells := 0, slots := 0, locals := 87 } : Room) s m args below meth c G b0 (MQ below (va_Qi κ (m_B G b0) (fun q => b0 ≤ q)) args s 0 0 (fun q => b0 ≤ q)) 5 M 0 0 0 [(0, va_rf l0), (1, va_rf l1)] [] := by
  unfold wX8_ringOf at h
  refine q_iconst (pc := 0) C 1 dX8_ringOf_0 (by decide) ?_
  refine q_aload_n (pc := 1) C 1 1 dX8_ringOf_1 rfl rfl ?_
  refine q_gI (pc := 2) C h (T := TX6) rfl (by decide) (wk_u rfl wm_X8_ringOf uq_X6 (by decide +kernel)) (by decide +kernel) (fun _ h9 => h9) dX8_ringOf_2 (fun x1 h => ?_)
  refine q_ishl (pc := 5) C dX8_ringOf_5 ?_
  refine m_stk (st2 := .int (m_shl 1 x1) :: _) rfl ?_
  refine q_istore_n (pc := 6) C 2 [(2, .int (m_shl 1 x1)), (0, va_rf l0), (1, va_rf l1)] dX8_ringOf_6 rfl (by decide) (by first | rfl | simp [q_cat, q_catI, q_catJ, q_catR, q_catN]) ?_
  refine q_iconst (pc := 7) C 0 dX8_ringOf_7 (by decide) ?_
  refine q_istore_n (pc := 8) C 3 [(3, .int 0), (2, .int (m_shl 1 x1)), (0, va_rf l0), (1, va_rf l1)] dX8_ringOf_8 rfl (by decide) (by first | rfl | simp [q_cat, q_catI, q_catJ, q_catR, q_catN]) ?_
  refine q_widen (k2 := 0) (n2 := 0) (by omega) (by omega) ?_
  refine q_lv [2, 1, 0] rfl ?_
  obtain ⟨f9, h⟩ := h
  exact tX8_ringOf_9 C hr hlocks f9 _ _ _ _ h
set_option maxRecDepth 100000 in
set_option maxHeartbeats 4000000 in
theorem kX8_ringOf (l : Launch) (G : mG) (b0 : Nat) {b : Nat} {l1 : Option Nat} {M : mM} {κ : Int32 → mM → Prop} (h : wX8_ringOf κ (some b) l1 M) : Met l yX8_ringOf wsX8_ringOf ({ frames := 4, cells := 0, slots := 0, locals := 87 } : Room) (va_Pc [.ref b, va_rf l1] (m_Pre G b0 M)) (va_Qi κ (m_B G b0) (fun q => b0 ≤ q)) 0 0 (fun q => b0 ≤ q) := by
  refine m_met (cc := cX8_ringOf) (maxL := 5) (ret := (some .int)) (lv := [(0, va_rf (some b)), (1, va_rf l1)]) RX8 rfl (by decide +kernel) rfl (by first | exact Nat.le_of_ble_eq_true rfl | simp [lg_sl, q_cat, q_catI, q_catJ, q_catR, q_catN]) (by first | rfl | (simp [lv_args, q_cat, q_catI, q_catJ, q_catR, q_catN]; done) | (simp [lv_args, q_cat, q_catI, q_catJ, q_catR, q_catN]; rfl)) ?_
  intro p e s m args below meth c C hr hlocks hni
  exact tX8_ringOf C hr hlocks h
/-! X8_hidingsOf -/
set_option maxRecDepth 100000 in
set_option maxHeartbeats 4000000 in
theorem tX8_hidingsOf_36 {p : Program} {l : Launch} {e : Env} {s : State} {m : MethodId} {args : Array Value} {below : List Frame} {meth : Method} {c : Code} {G : mG} {b0 : Nat} (C : m_C p s m args c cX8_hidingsOf 4 RX8 wsX8_hidingsOf G b0) (hr : meth.sig.returnType = (some .int)) (hlocks : meth.locks = false) {κ : Int32 → mM → Prop} {R4 : Option Nat → Option Nat → Int32 → Int32 → mM → Prop} (hR4 : ∀ (l0 : Option Nat) (l1 : Option Nat) (l2 : Int32) (l3 : Int32) (M : mM), R4 l0 l1 l2 l3 M → m_W p l e ({ frames := 3, cells := 0, slots := 0, locals := 64 } : Room) s m args below meth c G b0 (MQ below (va_Qi κ (m_B G b0) (fun q => b0 ≤ q)) args s 0 0 (fun q => b0 ≤ q)) 4 M 0 0 4 [(0, va_rf l0), (1, va_rf l1), (2, .int l2), (3, .int l3)] []) {l0 : Option Nat} {l1 : Option Nat} {l2 : Int32} {l3 : Int32} {M : mM} (h : wX8_hidingsOf_36 κ R4 l0 l1 l2 l3 M) : m_W p l e ({ frames := 3, cells := 0, slots := 0, locals := 64 } : Room) s m args below meth c G b0 (MQ below (va_Qi κ (m_B G b0) (fun q => b0 ≤ q)) args s 0 0 (fun q => b0 ≤ q)) 4 M 0 0 36 [(0, va_rf l0), (1, va_rf l1), (2, .int l2), (3, .int l3)] [] := by
  unfold wX8_hidingsOf_36 at h
  refine q_iinc (pc := 36) C 3 3 (l3 + 1) [(3, .int (l3 + 1)), (0, va_rf l0), (1, va_rf l1), (2, .int l2)] dX8_hidingsOf_36 rfl (by rfl) (by decide) (by first | rfl | simp [q_cat, q_catI, q_catJ, q_catR, q_catN]) ?_
  refine q_goto (pc := 39) C 4 dX8_hidingsOf_39 (by decide) ?_
  refine q_widen (k2 := 0) (n2 := 0) (by omega) (by omega) ?_
  refine q_lv [1, 2, 3, 0] rfl ?_
  exact hR4 _ _ _ _ _ h
set_option maxRecDepth 100000 in
set_option maxHeartbeats 4000000 in
theorem tX8_hidingsOf_4 {p : Program} {l : Launch} {e : Env} {s : State} {m : MethodId} {args : Array Value} {below : List Frame} {meth : Method} {c : Code} {G : mG} {b0 : Nat} (C : m_C p s m args c cX8_hidingsOf 4 RX8 wsX8_hidingsOf G b0) (hr : meth.sig.returnType = (some .int)) (hlocks : meth.locks = false) {κ : Int32 → mM → Prop} : ∀ (f : Nat) (l0 : Option Nat) (l1 : Option Nat) (l2 : Int32) (l3 : Int32) (M : mM), wX8_hidingsOf_4 κ f l0 l1 l2 l3 M → m_W p l e ({ frames := 3, cells := 0, slots := 0, locals := 64 } : Room) s m args below meth c G b0 (MQ below (va_Qi κ (m_B G b0) (fun q => b0 ≤ q)) args s 0 0 (fun q => b0 ≤ q)) 4 M 0 0 4 [(0, va_rf l0), (1, va_rf l1), (2, .int l2), (3, .int l3)] [] := by
  intro f
  induction f with
  | zero =>
    intro l0 l1 l2 l3 M h
    exact absurd h (by simp [wX8_hidingsOf_4])
  | succ f ih =>
    intro l0 l1 l2 l3 M h
    rw [wX8_hidingsOf_4] at h
    refine q_iload_n (pc := 4) C 3 3 dX8_hidingsOf_4 rfl rfl ?_
    refine q_aload_n (pc := 5) C 0 0 dX8_hidingsOf_5 rfl rfl ?_
    refine q_gR (pc := 6) C h (T := TX8) rfl (by decide) (wk_u rfl wm_X8_hidingsOf uq_X8 (by decide +kernel)) (by decide +kernel) (fun _ h9 => h9) dX8_hidingsOf_6 (fun x1 h => ?_)
    obtain ⟨b4, fs9, hb4, hm9, h⟩ := h
    refine q_ci (pc := 9) (q_rV C (st := [.int l3]) (b := b4) (kJx4a65c_size_8abf5 l G b0 h) (cwV 0 C.2.2.2.2.1 gX8_hidingsOf_Jx4a65c_size_8abf5 rfl rfl rfl (by decide +kernel) ⟨Nat.le_of_ble_eq_true rfl, Nat.le_of_ble_eq_true rfl⟩) hm9 rfl rfl rfl (by first | exact Nat.le_of_ble_eq_true rfl | (simp [q_cat, q_catI, q_catJ, q_catR, q_catN]; done)) (by rw [hb4]; first | done | rfl) dX8_hidingsOf_9 ⟨(by first | omega | (dsimp only; omega)), (by first | omega | (dsimp only; omega))⟩) (fun x2 M3 h => ?_)
    refine q_icmp_ge (pc := 12) C 42 dX8_hidingsOf_12 (by decide) (fun c5 => ?_) (fun c5 => ?_)
    · have h := h.1 c5
      refine q_iload_n (pc := 42) C 2 2 dX8_hidingsOf_42 rfl rfl ?_
      exact q_iret (pc := 43) C hr hlocks h dX8_hidingsOf_43 (by omega) (by omega)
    · have h := h.2 c5
      refine q_aload_n (pc := 15) C 0 0 dX8_hidingsOf_15 rfl rfl ?_
      refine q_gR (pc := 16) C h (T := TX8) rfl (by decide) (wk_u rfl wm_X8_hidingsOf uq_X8 (by decide +kernel)) (by decide +kernel) (fun _ h9 => h9) dX8_hidingsOf_16 (fun x6 h => ?_)
      refine q_iload_n (pc := 19) C 3 3 dX8_hidingsOf_19 rfl rfl ?_
      obtain ⟨b9, fs9, hb9, hm9, h⟩ := h
      refine q_cq (pc := 20) (q_rV C (st := []) (b := b9) (kJx4a65c_get_915e3 l G b0 h) (cwV 1 C.2.2.2.2.1 gX8_hidingsOf_Jx4a65c_get_915e3 rfl rfl rfl (by decide +kernel) ⟨Nat.le_of_ble_eq_true rfl, Nat.le_of_ble_eq_true rfl⟩) hm9 rfl rfl rfl (by first | exact Nat.le_of_ble_eq_true rfl | (simp [q_cat, q_catI, q_catJ, q_catR, q_catN]; done)) (by rw [hb9]; first | done | rfl) dX8_hidingsOf_20 ⟨(by first | omega | (dsimp only; omega)), (by first | omega | (dsimp only; omega))⟩) (fun x7 M8 h => ?_)
      refine q_cast (pc := 23) C h rfl rfl (by decide +kernel) dX8_hidingsOf_23 (fun h => ?_)
      refine q_gR (pc := 26) C h (T := TX1) rfl (by decide) (wk_u rfl wm_X8_hidingsOf uq_X1 (by decide +kernel)) (by decide +kernel) (fun _ h9 => h9) dX8_hidingsOf_26 (fun x10 h => ?_)
      refine q_aload_n (pc := 29) C 1 1 dX8_hidingsOf_29 rfl rfl ?_
      refine q_acmp_ne (pc := 30) C 36 dX8_hidingsOf_30 (by decide) (fun c11 => ?_) (fun c11 => ?_)
      · have h := h.2 c11
        refine q_widen (k2 := 0) (n2 := 0) (by omega) (by omega) ?_
        refine q_lv [0, 1, 2, 3] rfl ?_
        exact tX8_hidingsOf_36 C hr hlocks ih h
      · have h := h.1 c11
        refine q_iinc (pc := 33) C 2 2 (l2 + 1) [(2, .int (l2 + 1)), (0, va_rf l0), (1, va_rf l1), (3, .int l3)] dX8_hidingsOf_33 rfl (by rfl) (by decide) (by first | rfl | simp [q_cat, q_catI, q_catJ, q_catR, q_catN]) ?_
        refine q_widen (k2 := 0) (n2 := 0) (by omega) (by omega) ?_
        refine q_lv [1, 2, 0, 3] rfl ?_
        exact tX8_hidingsOf_36 C hr hlocks ih h
set_option maxRecDepth 100000 in
set_option maxHeartbeats 4000000 in
theorem tX8_hidingsOf {p : Program} {l : Launch} {e : Env} {s : State} {m : MethodId} {args : Array Value} {below : List Frame} {meth : Method} {c : Code} {G : mG} {b0 : Nat} (C : m_C p s m args c cX8_hidingsOf 4 RX8 wsX8_hidingsOf G b0) (hr : meth.sig.returnType = (some .int)) (hlocks : meth.locks = false) {κ : Int32 → mM → Prop} {l0 : Option Nat} {l1 : Option Nat} {M : mM} (h : wX8_hidingsOf κ l0 l1 M) : m_W p l e ({ frames := 3, cells := 0, slots := 0, locals := 64 } : Room) s m args below meth c G b0 (MQ below (va_Qi κ (m_B G b0) (fun q => b0 ≤ q)) args s 0 0 (fun q => b0 ≤ q)) 4 M 0 0 0 [(0, va_rf l0), (1, va_rf l1)] [] := by
  unfold wX8_hidingsOf at h
  refine q_iconst (pc := 0) C 0 dX8_hidingsOf_0 (by decide) ?_
  refine q_istore_n (pc := 1) C 2 [(2, .int 0), (0, va_rf l0), (1, va_rf l1)] dX8_hidingsOf_1 rfl (by decide) (by first | rfl | simp [q_cat, q_catI, q_catJ, q_catR, q_catN]) ?_
  refine q_iconst (pc := 2) C 0 dX8_hidingsOf_2 (by decide) ?_
  refine q_istore_n (pc := 3) C 3 [(3, .int 0), (2, .int 0), (0, va_rf l0), (1, va_rf l1)] dX8_hidingsOf_3 rfl (by decide) (by first | rfl | simp [q_cat, q_catI, q_catJ, q_catR, q_catN]) ?_
  refine q_widen (k2 := 0) (n2 := 0) (by omega) (by omega) ?_
  refine q_lv [2, 3, 1, 0] rfl ?_
  obtain ⟨f9, h⟩ := h
  exact tX8_hidingsOf_4 C hr hlocks f9 _ _ _ _ _ h
set_option maxRecDepth 100000 in
set_option maxHeartbeats 4000000 in
theorem kX8_hidingsOf (l : Launch) (G : mG) (b0 : Nat) {b : Nat} {l1 : Option Nat} {M : mM} {κ : Int32 → mM → Prop} (h : wX8_hidingsOf κ (some b) l1 M) : Met l yX8_hidingsOf wsX8_hidingsOf ({ frames := 3, cells := 0, slots := 0, locals := 64 } : Room) (va_Pc [.ref b, va_rf l1] (m_Pre G b0 M)) (va_Qi κ (m_B G b0) (fun q => b0 ≤ q)) 0 0 (fun q => b0 ≤ q) := by
  refine m_met (cc := cX8_hidingsOf) (maxL := 4) (ret := (some .int)) (lv := [(0, va_rf (some b)), (1, va_rf l1)]) RX8 rfl (by decide +kernel) rfl (by first | exact Nat.le_of_ble_eq_true rfl | simp [lg_sl, q_cat, q_catI, q_catJ, q_catR, q_catN]) (by first | rfl | (simp [lv_args, q_cat, q_catI, q_catJ, q_catR, q_catN]; done) | (simp [lv_args, q_cat, q_catI, q_catJ, q_catR, q_catN]; rfl)) ?_
  intro p e s m args below meth c C hr hlocks hni
  exact tX8_hidingsOf C hr hlocks h
/-! X8_ofSleeper -/
set_option maxRecDepth 100000 in
set_option maxHeartbeats 4000000 in
theorem tX8_ofSleeper {p : Program} {l : Launch} {e : Env} {s : State} {m : MethodId} {args : Array Value} {below : List Frame} {meth : Method} {c : Code} {G : mG} {b0 : Nat} (C : m_C p s m args c cX8_ofSleeper 4 RX8 wsX8_ofSleeper G b0) (hr : meth.sig.returnType = (some .int)) (hlocks : meth.locks = false) {t : Nat} (hL : l.stackTraces = false) (hx : ∀ x ∈ c.exceptionTable.toList, False) {κ : Int32 → mM → Prop} {ξ : String → mM → Prop} (ht : ∀ E M, ξ E M → 1 ≤ t) {l0 : Option Nat} {l1 : Int32} {l2 : Int32} {M : mM} (h : wX8_ofSleeper κ ξ l0 l1 l2 M) : m_W p l e ({ frames := 7, cells := (0 + 2 * t), slots := (0 + 12 * t), locals := 111 } : Room) s m args below meth c G b0 (vx_MQ below (va_Qi κ (m_B G b0) (fun q => b0 ≤ q)) (m_X G b0 ξ) args s (0 + 2 * t) (0 + 12 * t) (fun q => b0 ≤ q)) 4 M 0 0 0 [(0, va_rf l0), (1, .int l1), (2, .int l2)] [] := by
  unfold wX8_ofSleeper at h
  refine q_aload_n (pc := 0) C 0 0 dX8_ofSleeper_0 rfl rfl ?_
  refine q_iload_n (pc := 1) C 1 1 dX8_ofSleeper_1 rfl rfl ?_
  obtain ⟨b3, fs9, hb3, hm9, h⟩ := h
  refine q_cXq (pc := 2) (q_rVX C (st := []) (b := b3) (kX8_sleeperNumbered l G b0 (t := t) hL ht h) (cwV 1 C.2.2.2.2.1 gX8_ofSleeper_X8_sleeperNumbered rfl rfl rfl (by decide +kernel) ⟨Nat.le_of_ble_eq_true rfl, Nat.le_of_ble_eq_true rfl⟩) hm9 rfl rfl rfl (by first | exact Nat.le_of_ble_eq_true rfl | (simp [q_cat, q_catI, q_catJ, q_catR, q_catN]; done)) (by rw [hb3]; first | done | rfl) dX8_ofSleeper_2 ⟨(by first | omega | (dsimp only; omega)), (by first | omega | (dsimp only; omega))⟩) (fun E9 M9 h9 => q_out C hx hlocks h9 (by omega) (by omega)) (fun x1 M2 h => ?_)
  refine q_astore_n (pc := 5) C 3 [(3, va_rf x1), (0, va_rf l0), (1, .int l1), (2, .int l2)] dX8_ofSleeper_5 rfl (by decide) (by first | rfl | simp [q_cat, q_catI, q_catJ, q_catR, q_catN]) ?_
  refine q_iload_n (pc := 6) C 2 3 dX8_ofSleeper_6 rfl rfl ?_
  by_cases c4 : l2 = 0
  · have h := h.1 c4
    refine q_tableIn (pc := 7) C 56 dX8_ofSleeper_7 (by rw [c4]; decide) (by rw [c4]; decide) (by rw [c4]; rfl) (by decide) ?_
    refine q_aload_n (pc := 56) C 3 0 dX8_ofSleeper_56 rfl rfl ?_
    refine q_gR (pc := 57) C h (T := TX6) rfl (by decide) (wk_u rfl wm_X8_ofSleeper uq_X6 (by decide +kernel)) (by decide +kernel) (fun _ h9 => h9) dX8_ofSleeper_57 (fun x5 h => ?_)
    refine q_gI (pc := 60) C h (T := TX2) rfl (by decide) (wk_u rfl wm_X8_ofSleeper uq_X2 (by decide +kernel)) (by decide +kernel) (fun _ h9 => h9) dX8_ofSleeper_60 (fun x6 h => ?_)
    exact q_iretX (pc := 63) C hr hlocks h dX8_ofSleeper_63 (by omega) (by omega)
  have h := h.2 c4
  by_cases c7 : l2 = 1
  · have h := h.1 c7
    refine q_tableIn (pc := 7) C 64 dX8_ofSleeper_7 (by rw [c7]; decide) (by rw [c7]; decide) (by rw [c7]; rfl) (by decide) ?_
    refine q_aload_n (pc := 64) C 3 0 dX8_ofSleeper_64 rfl rfl ?_
    refine q_gI (pc := 65) C h (T := TX6) rfl (by decide) (wk_u rfl wm_X8_ofSleeper uq_X6 (by decide +kernel)) (by decide +kernel) (fun _ h9 => h9) dX8_ofSleeper_65 (fun x8 h => ?_)
    exact q_iretX (pc := 68) C hr hlocks h dX8_ofSleeper_68 (by omega) (by omega)
  have h := h.2 c7
  by_cases c9 : l2 = 2
  · have h := h.1 c9
    refine q_tableIn (pc := 7) C 69 dX8_ofSleeper_7 (by rw [c9]; decide) (by rw [c9]; decide) (by rw [c9]; rfl) (by decide) ?_
    refine q_aload_n (pc := 69) C 3 0 dX8_ofSleeper_69 rfl rfl ?_
    refine q_gI (pc := 70) C h (T := TX6) rfl (by decide) (wk_u rfl wm_X8_ofSleeper uq_X6 (by decide +kernel)) (by decide +kernel) (fun _ h9 => h9) dX8_ofSleeper_70 (fun x10 h => ?_)
    exact q_iretX (pc := 73) C hr hlocks h dX8_ofSleeper_73 (by omega) (by omega)
  have h := h.2 c9
  by_cases c11 : l2 = 3
  · have h := h.1 c11
    refine q_tableIn (pc := 7) C 74 dX8_ofSleeper_7 (by rw [c11]; decide) (by rw [c11]; decide) (by rw [c11]; rfl) (by decide) ?_
    refine q_aload_n (pc := 74) C 3 0 dX8_ofSleeper_74 rfl rfl ?_
    refine q_gR (pc := 75) C h (T := TX6) rfl (by decide) (wk_u rfl wm_X8_ofSleeper uq_X6 (by decide +kernel)) (by decide +kernel) (fun _ h9 => h9) dX8_ofSleeper_75 (fun x12 h => ?_)
    refine q_ifnonnull (pc := 78) C 85 dX8_ofSleeper_78 (by decide) (fun c13 => ?_) (fun c13 => ?_)
    · have h := h.2 c13
      refine q_aload_n (pc := 85) C 3 0 dX8_ofSleeper_85 rfl rfl ?_
      refine q_gR (pc := 86) C h (T := TX6) rfl (by decide) (wk_u rfl wm_X8_ofSleeper uq_X6 (by decide +kernel)) (by decide +kernel) (fun _ h9 => h9) dX8_ofSleeper_86 (fun x14 h => ?_)
      refine q_gI (pc := 89) C h (T := TX0) rfl (by decide) (wk_u rfl wm_X8_ofSleeper uq_X0 (by decide +kernel)) (by decide +kernel) (fun _ h9 => h9) dX8_ofSleeper_89 (fun x15 h => ?_)
      exact q_iretX (pc := 92) C hr hlocks h dX8_ofSleeper_92 (by omega) (by omega)
    · have h := h.1 c13
      refine q_iconst (pc := 81) C (-1) dX8_ofSleeper_81 (by decide) ?_
      refine q_goto (pc := 82) C 92 dX8_ofSleeper_82 (by decide) ?_
      exact q_iretX (pc := 92) C hr hlocks h dX8_ofSleeper_92 (by omega) (by omega)
  have h := h.2 c11
  by_cases c16 : l2 = 4
  · have h := h.1 c16
    refine q_tableIn (pc := 7) C 93 dX8_ofSleeper_7 (by rw [c16]; decide) (by rw [c16]; decide) (by rw [c16]; rfl) (by decide) ?_
    refine q_aload_n (pc := 93) C 3 0 dX8_ofSleeper_93 rfl rfl ?_
    refine q_ci (pc := 94) (q_rS C (st := []) (kX8_placeOf l G b0 h) (va_cwS 1 C.2.2.2.2.1 gX8_ofSleeper_X8_placeOf rfl rfl rfl (by decide +kernel) ⟨Nat.le_of_ble_eq_true rfl, Nat.le_of_ble_eq_true rfl⟩) rfl (by first | exact Nat.le_of_ble_eq_true rfl | (simp [q_cat, q_catI, q_catJ, q_catR, q_catN]; done)) rfl dX8_ofSleeper_94 ⟨(by first | omega | (dsimp only; omega)), (by first | omega | (dsimp only; omega))⟩) (fun x17 M18 h => ?_)
    exact q_iretX (pc := 97) C hr hlocks h dX8_ofSleeper_97 (by omega) (by omega)
  have h := h.2 c16
  by_cases c19 : l2 = 5
  · have h := h.1 c19
    refine q_tableIn (pc := 7) C 98 dX8_ofSleeper_7 (by rw [c19]; decide) (by rw [c19]; decide) (by rw [c19]; rfl) (by decide) ?_
    refine q_aload_n (pc := 98) C 0 1 dX8_ofSleeper_98 rfl rfl ?_
    refine q_aload_n (pc := 99) C 3 0 dX8_ofSleeper_99 rfl rfl ?_
    obtain ⟨b22, fs9, hb22, hm9, h⟩ := h
    refine q_ci (pc := 100) (q_rV C (st := []) (b := b22) (kX8_headOf l G b0 h) (cwV 1 C.2.2.2.2.1 gX8_ofSleeper_X8_headOf rfl rfl rfl (by decide +kernel) ⟨Nat.le_of_ble_eq_true rfl, Nat.le_of_ble_eq_true rfl⟩) hm9 rfl rfl rfl (by first | exact Nat.le_of_ble_eq_true rfl | (simp [q_cat, q_catI, q_catJ, q_catR, q_catN]; done)) (by rw [hb22]; first | done | rfl) dX8_ofSleeper_100 ⟨(by first | omega | (dsimp only; omega)), (by first | omega | (dsimp only; omega))⟩) (fun x20 M21 h => ?_)
    exact q_iretX (pc := 103) C hr hlocks h dX8_ofSleeper_103 (by omega) (by omega)
  have h := h.2 c19
  by_cases c23 : l2 = 6
  · have h := h.1 c23
    refine q_tableIn (pc := 7) C 104 dX8_ofSleeper_7 (by rw [c23]; decide) (by rw [c23]; decide) (by rw [c23]; rfl) (by decide) ?_
    refine q_aload_n (pc := 104) C 3 0 dX8_ofSleeper_104 rfl rfl ?_
    refine q_gR (pc := 105) C h (T := TX6) rfl (by decide) (wk_u rfl wm_X8_ofSleeper uq_X6 (by decide +kernel)) (by decide +kernel) (fun _ h9 => h9) dX8_ofSleeper_105 (fun x24 h => ?_)
    refine q_ifnonnull (pc := 108) C 115 dX8_ofSleeper_108 (by decide) (fun c25 => ?_) (fun c25 => ?_)
    · have h := h.2 c25
      refine q_aload_n (pc := 115) C 3 0 dX8_ofSleeper_115 rfl rfl ?_
      refine q_gR (pc := 116) C h (T := TX6) rfl (by decide) (wk_u rfl wm_X8_ofSleeper uq_X6 (by decide +kernel)) (by decide +kernel) (fun _ h9 => h9) dX8_ofSleeper_116 (fun x26 h => ?_)
      refine q_gI (pc := 119) C h (T := TX4) rfl (by decide) (wk_u rfl wm_X8_ofSleeper uq_X4 (by decide +kernel)) (by decide +kernel) (fun _ h9 => h9) dX8_ofSleeper_119 (fun x27 h => ?_)
      exact q_iretX (pc := 122) C hr hlocks h dX8_ofSleeper_122 (by omega) (by omega)
    · have h := h.1 c25
      refine q_iconst (pc := 111) C (-1) dX8_ofSleeper_111 (by decide) ?_
      refine q_goto (pc := 112) C 122 dX8_ofSleeper_112 (by decide) ?_
      exact q_iretX (pc := 122) C hr hlocks h dX8_ofSleeper_122 (by omega) (by omega)
  have h := h.2 c23
  by_cases c28 : l2 = 7
  · have h := h.1 c28
    refine q_tableIn (pc := 7) C 123 dX8_ofSleeper_7 (by rw [c28]; decide) (by rw [c28]; decide) (by rw [c28]; rfl) (by decide) ?_
    refine q_aload_n (pc := 123) C 0 1 dX8_ofSleeper_123 rfl rfl ?_
    refine q_aload_n (pc := 124) C 3 0 dX8_ofSleeper_124 rfl rfl ?_
    obtain ⟨b31, fs9, hb31, hm9, h⟩ := h
    refine q_ci (pc := 125) (q_rV C (st := []) (b := b31) (kX8_ringOf l G b0 h) (cwV 1 C.2.2.2.2.1 gX8_ofSleeper_X8_ringOf rfl rfl rfl (by decide +kernel) ⟨Nat.le_of_ble_eq_true rfl, Nat.le_of_ble_eq_true rfl⟩) hm9 rfl rfl rfl (by first | exact Nat.le_of_ble_eq_true rfl | (simp [q_cat, q_catI, q_catJ, q_catR, q_catN]; done)) (by rw [hb31]; first | done | rfl) dX8_ofSleeper_125 ⟨(by first | omega | (dsimp only; omega)), (by first | omega | (dsimp only; omega))⟩) (fun x29 M30 h => ?_)
    exact q_iretX (pc := 128) C hr hlocks h dX8_ofSleeper_128 (by omega) (by omega)
  have h := h.2 c28
  by_cases c32 : l2 = 8
  · have h := h.1 c32
    refine q_tableIn (pc := 7) C 129 dX8_ofSleeper_7 (by rw [c32]; decide) (by rw [c32]; decide) (by rw [c32]; rfl) (by decide) ?_
    refine q_aload_n (pc := 129) C 0 1 dX8_ofSleeper_129 rfl rfl ?_
    refine q_aload_n (pc := 130) C 3 0 dX8_ofSleeper_130 rfl rfl ?_
    obtain ⟨b35, fs9, hb35, hm9, h⟩ := h
    refine q_ci (pc := 131) (q_rV C (st := []) (b := b35) (kX8_hidingsOf l G b0 h) (cwV 1 C.2.2.2.2.1 gX8_ofSleeper_X8_hidingsOf rfl rfl rfl (by decide +kernel) ⟨Nat.le_of_ble_eq_true rfl, Nat.le_of_ble_eq_true rfl⟩) hm9 rfl rfl rfl (by first | exact Nat.le_of_ble_eq_true rfl | (simp [q_cat, q_catI, q_catJ, q_catR, q_catN]; done)) (by rw [hb35]; first | done | rfl) dX8_ofSleeper_131 ⟨(by first | omega | (dsimp only; omega)), (by first | omega | (dsimp only; omega))⟩) (fun x33 M34 h => ?_)
    exact q_iretX (pc := 134) C hr hlocks h dX8_ofSleeper_134 (by omega) (by omega)
  have h := h.2 c32
  refine q_tableOut (pc := 7) C 135 dX8_ofSleeper_7 ?_ (by decide) ?_
  · have hsw := m_sw (x := l2) 0 9 (fun j hj => by
      rcases (show j = 0 ∨ j = 1 ∨ j = 2 ∨ j = 3 ∨ j = 4 ∨ j = 5 ∨ j = 6 ∨ j = 7 ∨ j = 8 by omega) with rfl | rfl | rfl | rfl | rfl | rfl | rfl | rfl | rfl
      · exact c4
      · exact c7
      · exact c9
      · exact c11
      · exact c16
      · exact c19
      · exact c23
      · exact c28
      · exact c32
      ) (by decide)
    rcases hsw with q9 | q9
    · exact Or.inl (by simpa using q9)
    · exact Or.inr (by simp at q9 ⊢; omega)
  have ht9 := ht _ _ h
  exact q_throwSW (pc := 135) (names := ["java/lang/RuntimeException", "java/lang/Exception"]) (text := "nothing of a SLEEPER has that number") C hL hx hlocks h (by decide +kernel) (by decide +kernel) (by decide +kernel) (by decide +kernel) (List.mem_of_getElem? (i := 461) (by decide +kernel)) (by decide +kernel) (by decide +kernel) (by decide +kernel) dX8_ofSleeper_135 dX8_ofSleeper_138 dX8_ofSleeper_139 dX8_ofSleeper_142 dX8_ofSleeper_145 (Nat.le_of_ble_eq_true rfl) (by first | exact Nat.le_of_ble_eq_true rfl | (simp [q_cat, q_catI, q_catJ, q_catR, q_catN]; done) | (simp [q_cat, q_catI, q_catJ, q_catR, q_catN]; decide)) (by first | omega | (dsimp only; omega)) (by first | omega | (dsimp only; omega)) (by omega) (by omega)
set_option maxRecDepth 100000 in
set_option maxHeartbeats 4000000 in
theorem kX8_ofSleeper (l : Launch) (G : mG) (b0 : Nat) {t : Nat} (hL : l.stackTraces = false) {b : Nat} {l1 : Int32} {l2 : Int32} {M : mM} {κ : Int32 → mM → Prop} {ξ : String → mM → Prop} (ht : ∀ E M, ξ E M → 1 ≤ t) (h : wX8_ofSleeper κ ξ (some b) l1 l2 M) : vx_Met l yX8_ofSleeper wsX8_ofSleeper ({ frames := 7, cells := (0 + 2 * t), slots := (0 + 12 * t), locals := 111 } : Room) (va_Pc [.ref b, .int l1, .int l2] (m_Pre G b0 M)) (va_Qi κ (m_B G b0) (fun q => b0 ≤ q)) (m_X G b0 ξ) (0 + 2 * t) (0 + 12 * t) (fun q => b0 ≤ q) := by
  refine m_metX (cc := cX8_ofSleeper) (maxL := 4) (ret := (some .int)) (lv := [(0, va_rf (some b)), (1, .int l1), (2, .int l2)]) RX8 rfl (by decide +kernel) rfl (by first | exact Nat.le_of_ble_eq_true rfl | simp [lg_sl, q_cat, q_catI, q_catJ, q_catR, q_catN]) (by first | rfl | (simp [lv_args, q_cat, q_catI, q_catJ, q_catR, q_catN]; done) | (simp [lv_args, q_cat, q_catI, q_catJ, q_catR, q_catN]; rfl)) ?_
  intro p e s m args below meth c C hr hlocks hx
  exact tX8_ofSleeper C hr hlocks hL hx ht h
/-! X8_ofPart -/
set_option maxRecDepth 100000 in
set_option maxHeartbeats 4000000 in
theorem tX8_ofPart {p : Program} {l : Launch} {e : Env} {s : State} {m : MethodId} {args : Array Value} {below : List Frame} {meth : Method} {c : Code} {G : mG} {b0 : Nat} (C : m_C p s m args c cX8_ofPart 4 RX8 wsX8_ofPart G b0) (hr : meth.sig.returnType = (some .int)) (hlocks : meth.locks = false) {t : Nat} (hL : l.stackTraces = false) (hx : ∀ x ∈ c.exceptionTable.toList, False) {κ : Int32 → mM → Prop} {ξ : String → mM → Prop} (ht : ∀ E M, ξ E M → 1 ≤ t) {l0 : Option Nat} {l1 : Int32} {l2 : Int32} {M : mM} (h : wX8_ofPart κ ξ l0 l1 l2 M) : m_W p l e ({ frames := 7, cells := (0 + 2 * t), slots := (0 + 12 * t), locals := 111 } : Room) s m args below meth c G b0 (vx_MQ below (va_Qi κ (m_B G b0) (fun q => b0 ≤ q)) (m_X G b0 ξ) args s (0 + 2 * t) (0 + 12 * t) (fun q => b0 ≤ q)) 4 M 0 0 0 [(0, va_rf l0), (1, .int l1), (2, .int l2)] [] := by
  unfold wX8_ofPart at h
  refine q_aload_n (pc := 0) C 0 0 dX8_ofPart_0 rfl rfl ?_
  refine q_iload_n (pc := 1) C 1 1 dX8_ofPart_1 rfl rfl ?_
  obtain ⟨b3, fs9, hb3, hm9, h⟩ := h
  refine q_cXq (pc := 2) (q_rVX C (st := []) (b := b3) (kX8_partNumbered l G b0 (t := t) hL ht h) (cwV 1 C.2.2.2.2.1 gX8_ofPart_X8_partNumbered rfl rfl rfl (by decide +kernel) ⟨Nat.le_of_ble_eq_true rfl, Nat.le_of_ble_eq_true rfl⟩) hm9 rfl rfl rfl (by first | exact Nat.le_of_ble_eq_true rfl | (simp [q_cat, q_catI, q_catJ, q_catR, q_catN]; done)) (by rw [hb3]; first | done | rfl) dX8_ofPart_2 ⟨(by first | omega | (dsimp only; omega)), (by first | omega | (dsimp only; omega))⟩) (fun E9 M9 h9 => q_out C hx hlocks h9 (by omega) (by omega)) (fun x1 M2 h => ?_)
  refine q_astore_n (pc := 5) C 3 [(3, va_rf x1), (0, va_rf l0), (1, .int l1), (2, .int l2)] dX8_ofPart_5 rfl (by decide) (by first | rfl | simp [q_cat, q_catI, q_catJ, q_catR, q_catN]) ?_
  refine q_iload_n (pc := 6) C 2 3 dX8_ofPart_6 rfl rfl ?_
  by_cases c4 : l2 = 0
  · have h := h.1 c4
    refine q_tableIn (pc := 7) C 44 dX8_ofPart_7 (by rw [c4]; decide) (by rw [c4]; decide) (by rw [c4]; rfl) (by decide) ?_
    refine q_aload_n (pc := 44) C 3 0 dX8_ofPart_44 rfl rfl ?_
    refine q_gI (pc := 45) C h (T := TX3) rfl (by decide) (wk_u rfl wm_X8_ofPart uq_X3 (by decide +kernel)) (by decide +kernel) (fun _ h9 => h9) dX8_ofPart_45 (fun x5 h => ?_)
    exact q_iretX (pc := 48) C hr hlocks h dX8_ofPart_48 (by omega) (by omega)
  have h := h.2 c4
  by_cases c6 : l2 = 1
  · have h := h.1 c6
    refine q_tableIn (pc := 7) C 49 dX8_ofPart_7 (by rw [c6]; decide) (by rw [c6]; decide) (by rw [c6]; rfl) (by decide) ?_
    refine q_aload_n (pc := 49) C 3 0 dX8_ofPart_49 rfl rfl ?_
    refine q_gI (pc := 50) C h (T := TX3) rfl (by decide) (wk_u rfl wm_X8_ofPart uq_X3 (by decide +kernel)) (by decide +kernel) (fun _ h9 => h9) dX8_ofPart_50 (fun x7 h => ?_)
    exact q_iretX (pc := 53) C hr hlocks h dX8_ofPart_53 (by omega) (by omega)
  have h := h.2 c6
  by_cases c8 : l2 = 2
  · have h := h.1 c8
    refine q_tableIn (pc := 7) C 54 dX8_ofPart_7 (by rw [c8]; decide) (by rw [c8]; decide) (by rw [c8]; rfl) (by decide) ?_
    refine q_aload_n (pc := 54) C 3 0 dX8_ofPart_54 rfl rfl ?_
    refine q_gI (pc := 55) C h (T := TX3) rfl (by decide) (wk_u rfl wm_X8_ofPart uq_X3 (by decide +kernel)) (by decide +kernel) (fun _ h9 => h9) dX8_ofPart_55 (fun x9 h => ?_)
    exact q_iretX (pc := 58) C hr hlocks h dX8_ofPart_58 (by omega) (by omega)
  have h := h.2 c8
  by_cases c10 : l2 = 3
  · have h := h.1 c10
    refine q_tableIn (pc := 7) C 59 dX8_ofPart_7 (by rw [c10]; decide) (by rw [c10]; decide) (by rw [c10]; rfl) (by decide) ?_
    refine q_aload_n (pc := 59) C 3 0 dX8_ofPart_59 rfl rfl ?_
    refine q_gI (pc := 60) C h (T := TX3) rfl (by decide) (wk_u rfl wm_X8_ofPart uq_X3 (by decide +kernel)) (by decide +kernel) (fun _ h9 => h9) dX8_ofPart_60 (fun x11 h => ?_)
    exact q_iretX (pc := 63) C hr hlocks h dX8_ofPart_63 (by omega) (by omega)
  have h := h.2 c10
  by_cases c12 : l2 = 4
  · have h := h.1 c12
    refine q_tableIn (pc := 7) C 64 dX8_ofPart_7 (by rw [c12]; decide) (by rw [c12]; decide) (by rw [c12]; rfl) (by decide) ?_
    refine q_aload_n (pc := 64) C 3 0 dX8_ofPart_64 rfl rfl ?_
    obtain ⟨b15, fs9, hb15, hm9, h⟩ := h
    refine q_cq (pc := 65) (q_rV C (st := []) (b := b15) (kX3_whereabouts l G b0 h) (cwV 0 C.2.2.2.2.1 gX8_ofPart_X3_whereabouts rfl rfl rfl (by decide +kernel) ⟨Nat.le_of_ble_eq_true rfl, Nat.le_of_ble_eq_true rfl⟩) hm9 rfl rfl rfl (by first | exact Nat.le_of_ble_eq_true rfl | (simp [q_cat, q_catI, q_catJ, q_catR, q_catN]; done)) (by rw [hb15]; first | done | rfl) dX8_ofPart_65 ⟨(by first | omega | (dsimp only; omega)), (by first | omega | (dsimp only; omega))⟩) (fun x13 M14 h => ?_)
    refine q_ifnonnull (pc := 68) C 75 dX8_ofPart_68 (by decide) (fun c16 => ?_) (fun c16 => ?_)
    · have h := h.2 c16
      refine q_aload_n (pc := 75) C 3 0 dX8_ofPart_75 rfl rfl ?_
      obtain ⟨b19, fs9, hb19, hm9, h⟩ := h
      refine q_cq (pc := 76) (q_rV C (st := []) (b := b19) (kX3_whereabouts l G b0 h) (cwV 0 C.2.2.2.2.1 gX8_ofPart_X3_whereabouts rfl rfl rfl (by decide +kernel) ⟨Nat.le_of_ble_eq_true rfl, Nat.le_of_ble_eq_true rfl⟩) hm9 rfl rfl rfl (by first | exact Nat.le_of_ble_eq_true rfl | (simp [q_cat, q_catI, q_catJ, q_catR, q_catN]; done)) (by rw [hb19]; first | done | rfl) dX8_ofPart_76 ⟨(by first | omega | (dsimp only; omega)), (by first | omega | (dsimp only; omega))⟩) (fun x17 M18 h => ?_)
      refine q_gI (pc := 79) C h (T := TX2) rfl (by decide) (wk_u rfl wm_X8_ofPart uq_X2 (by decide +kernel)) (by decide +kernel) (fun _ h9 => h9) dX8_ofPart_79 (fun x20 h => ?_)
      exact q_iretX (pc := 82) C hr hlocks h dX8_ofPart_82 (by omega) (by omega)
    · have h := h.1 c16
      refine q_iconst (pc := 71) C (-1) dX8_ofPart_71 (by decide) ?_
      refine q_goto (pc := 72) C 82 dX8_ofPart_72 (by decide) ?_
      exact q_iretX (pc := 82) C hr hlocks h dX8_ofPart_82 (by omega) (by omega)
  have h := h.2 c12
  by_cases c21 : l2 = 5
  · have h := h.1 c21
    refine q_tableIn (pc := 7) C 83 dX8_ofPart_7 (by rw [c21]; decide) (by rw [c21]; decide) (by rw [c21]; rfl) (by decide) ?_
    refine q_aload_n (pc := 83) C 3 0 dX8_ofPart_83 rfl rfl ?_
    refine q_gR (pc := 84) C h (T := TX3) rfl (by decide) (wk_u rfl wm_X8_ofPart uq_X3 (by decide +kernel)) (by decide +kernel) (fun _ h9 => h9) dX8_ofPart_84 (fun x22 h => ?_)
    refine q_ifnonnull (pc := 87) C 94 dX8_ofPart_87 (by decide) (fun c23 => ?_) (fun c23 => ?_)
    · have h := h.2 c23
      refine q_aload_n (pc := 94) C 3 0 dX8_ofPart_94 rfl rfl ?_
      refine q_gR (pc := 95) C h (T := TX3) rfl (by decide) (wk_u rfl wm_X8_ofPart uq_X3 (by decide +kernel)) (by decide +kernel) (fun _ h9 => h9) dX8_ofPart_95 (fun x24 h => ?_)
      refine q_gI (pc := 98) C h (T := TX6) rfl (by decide) (wk_u rfl wm_X8_ofPart uq_X6 (by decide +kernel)) (by decide +kernel) (fun _ h9 => h9) dX8_ofPart_98 (fun x25 h => ?_)
      exact q_iretX (pc := 101) C hr hlocks h dX8_ofPart_101 (by omega) (by omega)
    · have h := h.1 c23
      refine q_iconst (pc := 90) C (-1) dX8_ofPart_90 (by decide) ?_
      refine q_goto (pc := 91) C 101 dX8_ofPart_91 (by decide) ?_
      exact q_iretX (pc := 101) C hr hlocks h dX8_ofPart_101 (by omega) (by omega)
  have h := h.2 c21
  refine q_tableOut (pc := 7) C 102 dX8_ofPart_7 ?_ (by decide) ?_
  · have hsw := m_sw (x := l2) 0 6 (fun j hj => by
      rcases (show j = 0 ∨ j = 1 ∨ j = 2 ∨ j = 3 ∨ j = 4 ∨ j = 5 by omega) with rfl | rfl | rfl | rfl | rfl | rfl
      · exact c4
      · exact c6
      · exact c8
      · exact c10
      · exact c12
      · exact c21
      ) (by decide)
    rcases hsw with q9 | q9
    · exact Or.inl (by simpa using q9)
    · exact Or.inr (by simp at q9 ⊢; omega)
  have ht9 := ht _ _ h
  exact q_throwSW (pc := 102) (names := ["java/lang/RuntimeException", "java/lang/Exception"]) (text := "nothing of a PART has that number") C hL hx hlocks h (by decide +kernel) (by decide +kernel) (by decide +kernel) (by decide +kernel) (List.mem_of_getElem? (i := 471) (by decide +kernel)) (by decide +kernel) (by decide +kernel) (by decide +kernel) dX8_ofPart_102 dX8_ofPart_105 dX8_ofPart_106 dX8_ofPart_109 dX8_ofPart_112 (Nat.le_of_ble_eq_true rfl) (by first | exact Nat.le_of_ble_eq_true rfl | (simp [q_cat, q_catI, q_catJ, q_catR, q_catN]; done) | (simp [q_cat, q_catI, q_catJ, q_catR, q_catN]; decide)) (by first | omega | (dsimp only; omega)) (by first | omega | (dsimp only; omega)) (by omega) (by omega)
set_option maxRecDepth 100000 in
set_option maxHeartbeats 4000000 in
theorem kX8_ofPart (l : Launch) (G : mG) (b0 : Nat) {t : Nat} (hL : l.stackTraces = false) {b : Nat} {l1 : Int32} {l2 : Int32} {M : mM} {κ : Int32 → mM → Prop} {ξ : String → mM → Prop} (ht : ∀ E M, ξ E M → 1 ≤ t) (h : wX8_ofPart κ ξ (some b) l1 l2 M) : vx_Met l yX8_ofPart wsX8_ofPart ({ frames := 7, cells := (0 + 2 * t), slots := (0 + 12 * t), locals := 111 } : Room) (va_Pc [.ref b, .int l1, .int l2] (m_Pre G b0 M)) (va_Qi κ (m_B G b0) (fun q => b0 ≤ q)) (m_X G b0 ξ) (0 + 2 * t) (0 + 12 * t) (fun q => b0 ≤ q) := by
  refine m_metX (cc := cX8_ofPart) (maxL := 4) (ret := (some .int)) (lv := [(0, va_rf (some b)), (1, .int l1), (2, .int l2)]) RX8 rfl (by decide +kernel) rfl (by first | exact Nat.le_of_ble_eq_true rfl | simp [lg_sl, q_cat, q_catI, q_catJ, q_catR, q_catN]) (by first | rfl | (simp [lv_args, q_cat, q_catI, q_catJ, q_catR, q_catN]; done) | (simp [lv_args, q_cat, q_catI, q_catJ, q_catR, q_catN]; rfl)) ?_
  intro p e s m args below meth c C hr hlocks hx
  exact tX8_ofPart C hr hlocks hL hx ht h
/-! X8_isGood -/
set_option maxRecDepth 100000 in
set_option maxHeartbeats 4000000 in
theorem tX8_isGood {p : Program} {l : Launch} {e : Env} {s : State} {m : MethodId} {args : Array Value} {below : List Frame} {meth : Method} {c : Code} {G : mG} {b0 : Nat} (C : m_C p s m args c cX8_isGood 4 RX8 wsX8_isGood G b0) (hr : meth.sig.returnType = (some .boolean)) (hlocks : meth.locks = false) {t : Nat} (hL : l.stackTraces = false) (hx : ∀ x ∈ c.exceptionTable.toList, False) {κ : Int32 → mM → Prop} {ξ : String → mM → Prop} (ht : ∀ E M, ξ E M → 1 ≤ t) {l0 : Option Nat} {l1 : Int32} {l2 : Int32} {M : mM} (h : wX8_isGood κ ξ l0 l1 l2 M) : m_W p l e ({ frames := 7, cells := (0 + 2 * t), slots := (0 + 12 * t), locals := 111 } : Room) s m args below meth c G b0 (vx_MQ below (va_Qi κ (m_B G b0) (fun q => b0 ≤ q)) (m_X G b0 ξ) args s (0 + 2 * t) (0 + 12 * t) (fun q => b0 ≤ q)) 4 M 0 0 0 [(0, va_rf l0), (1, .int l1), (2, .int l2)] [] := by
  unfold wX8_isGood at h
  refine q_aload_n (pc := 0) C 0 0 dX8_isGood_0 rfl rfl ?_
  refine q_iload_n (pc := 1) C 1 1 dX8_isGood_1 rfl rfl ?_
  obtain ⟨b3, fs9, hb3, hm9, h⟩ := h
  refine q_cXq (pc := 2) (q_rVX C (st := []) (b := b3) (kX8_sleeperNumbered l G b0 (t := t) hL ht h) (cwV 1 C.2.2.2.2.1 gX8_isGood_X8_sleeperNumbered rfl rfl rfl (by decide +kernel) ⟨Nat.le_of_ble_eq_true rfl, Nat.le_of_ble_eq_true rfl⟩) hm9 rfl rfl rfl (by first | exact Nat.le_of_ble_eq_true rfl | (simp [q_cat, q_catI, q_catJ, q_catR, q_catN]; done)) (by rw [hb3]; first | done | rfl) dX8_isGood_2 ⟨(by first | omega | (dsimp only; omega)), (by first | omega | (dsimp only; omega))⟩) (fun E9 M9 h9 => q_out C hx hlocks h9 (by omega) (by omega)) (fun x1 M2 h => ?_)
  refine q_astore_n (pc := 5) C 3 [(3, va_rf x1), (0, va_rf l0), (1, .int l1), (2, .int l2)] dX8_isGood_5 rfl (by decide) (by first | rfl | simp [q_cat, q_catI, q_catJ, q_catR, q_catN]) ?_
  refine q_aload_n (pc := 6) C 0 1 dX8_isGood_6 rfl rfl ?_
  refine q_aload_n (pc := 7) C 3 0 dX8_isGood_7 rfl rfl ?_
  refine q_aload_n (pc := 8) C 0 1 dX8_isGood_8 rfl rfl ?_
  refine q_iload_n (pc := 9) C 2 3 dX8_isGood_9 rfl rfl ?_
  obtain ⟨b6, fs9, hb6, hm9, h⟩ := h
  refine q_cXq (pc := 10) (q_rVX C (st := [va_rf x1, va_rf l0]) (b := b6) (kX8_gateNumbered l G b0 (t := t) hL ht h) (cwV 1 C.2.2.2.2.1 gX8_isGood_X8_gateNumbered rfl rfl rfl (by decide +kernel) ⟨Nat.le_of_ble_eq_true rfl, Nat.le_of_ble_eq_true rfl⟩) hm9 rfl rfl rfl (by first | exact Nat.le_of_ble_eq_true rfl | (simp [q_cat, q_catI, q_catJ, q_catR, q_catN]; done)) (by rw [hb6]; first | done | rfl) dX8_isGood_10 ⟨(by first | omega | (dsimp only; omega)), (by first | omega | (dsimp only; omega))⟩) (fun E9 M9 h9 => q_out C hx hlocks h9 (by omega) (by omega)) (fun x4 M5 h => ?_)
  obtain ⟨b9, fs9, hb9, hm9, h⟩ := h
  refine q_ci (pc := 13) (q_rV C (st := []) (b := b9) (kX8_passIsGood l G b0 h) (cwV 2 C.2.2.2.2.1 gX8_isGood_X8_passIsGood rfl rfl rfl (by decide +kernel) ⟨Nat.le_of_ble_eq_true rfl, Nat.le_of_ble_eq_true rfl⟩) hm9 rfl rfl rfl (by first | exact Nat.le_of_ble_eq_true rfl | (simp [q_cat, q_catI, q_catJ, q_catR, q_catN]; done)) (by rw [hb9]; first | done | rfl) dX8_isGood_13 ⟨(by first | omega | (dsimp only; omega)), (by first | omega | (dsimp only; omega))⟩) (fun x7 M8 h => ?_)
  exact q_zretX (pc := 16) C hr hlocks h dX8_isGood_16 (by omega) (by omega)
set_option maxRecDepth 100000 in
set_option maxHeartbeats 4000000 in
theorem kX8_isGood (l : Launch) (G : mG) (b0 : Nat) {t : Nat} (hL : l.stackTraces = false) {b : Nat} {l1 : Int32} {l2 : Int32} {M : mM} {κ : Int32 → mM → Prop} {ξ : String → mM → Prop} (ht : ∀ E M, ξ E M → 1 ≤ t) (h : wX8_isGood κ ξ (some b) l1 l2 M) : vx_Met l yX8_isGood wsX8_isGood ({ frames := 7, cells := (0 + 2 * t), slots := (0 + 12 * t), locals := 111 } : Room) (va_Pc [.ref b, .int l1, .int l2] (m_Pre G b0 M)) (va_Qi κ (m_B G b0) (fun q => b0 ≤ q)) (m_X G b0 ξ) (0 + 2 * t) (0 + 12 * t) (fun q => b0 ≤ q) := by
  refine m_metX (cc := cX8_isGood) (maxL := 4) (ret := (some .boolean)) (lv := [(0, va_rf (some b)), (1, .int l1), (2, .int l2)]) RX8 rfl (by decide +kernel) rfl (by first | exact Nat.le_of_ble_eq_true rfl | simp [lg_sl, q_cat, q_catI, q_catJ, q_catR, q_catN]) (by first | rfl | (simp [lv_args, q_cat, q_catI, q_catJ, q_catR, q_catN]; done) | (simp [lv_args, q_cat, q_catI, q_catJ, q_catR, q_catN]; rfl)) ?_
  intro p e s m args below meth c C hr hlocks hx
  exact tX8_isGood C hr hlocks hL hx ht h
/-! X8_awakeOnes -/
set_option maxRecDepth 100000 in
set_option maxHeartbeats 4000000 in
theorem tX8_awakeOnes_36 {p : Program} {l : Launch} {e : Env} {s : State} {m : MethodId} {args : Array Value} {below : List Frame} {meth : Method} {c : Code} {G : mG} {b0 : Nat} (C : m_C p s m args c cX8_awakeOnes 3 RX8 wsX8_awakeOnes G b0) (hr : meth.sig.returnType = (some .int)) (hlocks : meth.locks = false) {κ : Int32 → mM → Prop} {R4 : Option Nat → Int32 → Int32 → mM → Prop} (hR4 : ∀ (l0 : Option Nat) (l1 : Int32) (l2 : Int32) (M : mM), R4 l0 l1 l2 M → m_W p l e ({ frames := 3, cells := 0, slots := 0, locals := 64 } : Room) s m args below meth c G b0 (MQ below (va_Qi κ (m_B G b0) (fun q => b0 ≤ q)) args s 0 0 (fun q => b0 ≤ q)) 3 M 0 0 4 [(0, va_rf l0), (1, .int l1), (2, .int l2)] []) {l0 : Option Nat} {l1 : Int32} {l2 : Int32} {M : mM} (h : wX8_awakeOnes_36 κ R4 l0 l1 l2 M) : m_W p l e ({ frames := 3, cells := 0, slots := 0, locals := 64 } : Room) s m args below meth c G b0 (MQ below (va_Qi κ (m_B G b0) (fun q => b0 ≤ q)) args s 0 0 (fun q => b0 ≤ q)) 3 M 0 0 36 [(0, va_rf l0), (1, .int l1), (2, .int l2)] [] := by
  unfold wX8_awakeOnes_36 at h
  refine q_iinc (pc := 36) C 2 2 (l2 + 1) [(2, .int (l2 + 1)), (0, va_rf l0), (1, .int l1)] dX8_awakeOnes_36 rfl (by rfl) (by decide) (by first | rfl | simp [q_cat, q_catI, q_catJ, q_catR, q_catN]) ?_
  refine q_goto (pc := 39) C 4 dX8_awakeOnes_39 (by decide) ?_
  refine q_widen (k2 := 0) (n2 := 0) (by omega) (by omega) ?_
  refine q_lv [1, 2, 0] rfl ?_
  exact hR4 _ _ _ _ h
set_option maxRecDepth 100000 in
set_option maxHeartbeats 4000000 in
theorem tX8_awakeOnes_4 {p : Program} {l : Launch} {e : Env} {s : State} {m : MethodId} {args : Array Value} {below : List Frame} {meth : Method} {c : Code} {G : mG} {b0 : Nat} (C : m_C p s m args c cX8_awakeOnes 3 RX8 wsX8_awakeOnes G b0) (hr : meth.sig.returnType = (some .int)) (hlocks : meth.locks = false) {κ : Int32 → mM → Prop} : ∀ (f : Nat) (l0 : Option Nat) (l1 : Int32) (l2 : Int32) (M : mM), wX8_awakeOnes_4 κ f l0 l1 l2 M → m_W p l e ({ frames := 3, cells := 0, slots := 0, locals := 64 } : Room) s m args below meth c G b0 (MQ below (va_Qi κ (m_B G b0) (fun q => b0 ≤ q)) args s 0 0 (fun q => b0 ≤ q)) 3 M 0 0 4 [(0, va_rf l0), (1, .int l1), (2, .int l2)] [] := by
  intro f
  induction f with
  | zero =>
    intro l0 l1 l2 M h
    exact absurd h (by simp [wX8_awakeOnes_4])
  | succ f ih =>
    intro l0 l1 l2 M h
    rw [wX8_awakeOnes_4] at h
    refine q_iload_n (pc := 4) C 2 2 dX8_awakeOnes_4 rfl rfl ?_
    refine q_aload_n (pc := 5) C 0 0 dX8_awakeOnes_5 rfl rfl ?_
    refine q_gR (pc := 6) C h (T := TX8) rfl (by decide) (wk_u rfl wm_X8_awakeOnes uq_X8 (by decide +kernel)) (by decide +kernel) (fun _ h9 => h9) dX8_awakeOnes_6 (fun x1 h => ?_)
    obtain ⟨b4, fs9, hb4, hm9, h⟩ := h
    refine q_ci (pc := 9) (q_rV C (st := [.int l2]) (b := b4) (kJx4a65c_size_8abf5 l G b0 h) (cwV 0 C.2.2.2.2.1 gX8_awakeOnes_Jx4a65c_size_8abf5 rfl rfl rfl (by decide +kernel) ⟨Nat.le_of_ble_eq_true rfl, Nat.le_of_ble_eq_true rfl⟩) hm9 rfl rfl rfl (by first | exact Nat.le_of_ble_eq_true rfl | (simp [q_cat, q_catI, q_catJ, q_catR, q_catN]; done)) (by rw [hb4]; first | done | rfl) dX8_awakeOnes_9 ⟨(by first | omega | (dsimp only; omega)), (by first | omega | (dsimp only; omega))⟩) (fun x2 M3 h => ?_)
    refine q_icmp_ge (pc := 12) C 42 dX8_awakeOnes_12 (by decide) (fun c5 => ?_) (fun c5 => ?_)
    · have h := h.1 c5
      refine q_iload_n (pc := 42) C 1 1 dX8_awakeOnes_42 rfl rfl ?_
      exact q_iret (pc := 43) C hr hlocks h dX8_awakeOnes_43 (by omega) (by omega)
    · have h := h.2 c5
      refine q_aload_n (pc := 15) C 0 0 dX8_awakeOnes_15 rfl rfl ?_
      refine q_gR (pc := 16) C h (T := TX8) rfl (by decide) (wk_u rfl wm_X8_awakeOnes uq_X8 (by decide +kernel)) (by decide +kernel) (fun _ h9 => h9) dX8_awakeOnes_16 (fun x6 h => ?_)
      refine q_iload_n (pc := 19) C 2 2 dX8_awakeOnes_19 rfl rfl ?_
      obtain ⟨b9, fs9, hb9, hm9, h⟩ := h
      refine q_cq (pc := 20) (q_rV C (st := []) (b := b9) (kJx4a65c_get_915e3 l G b0 h) (cwV 1 C.2.2.2.2.1 gX8_awakeOnes_Jx4a65c_get_915e3 rfl rfl rfl (by decide +kernel) ⟨Nat.le_of_ble_eq_true rfl, Nat.le_of_ble_eq_true rfl⟩) hm9 rfl rfl rfl (by first | exact Nat.le_of_ble_eq_true rfl | (simp [q_cat, q_catI, q_catJ, q_catR, q_catN]; done)) (by rw [hb9]; first | done | rfl) dX8_awakeOnes_20 ⟨(by first | omega | (dsimp only; omega)), (by first | omega | (dsimp only; omega))⟩) (fun x7 M8 h => ?_)
      refine q_cast (pc := 23) C h rfl rfl (by decide +kernel) dX8_awakeOnes_23 (fun h => ?_)
      refine q_gI (pc := 26) C h (T := TX6) rfl (by decide) (wk_u rfl wm_X8_awakeOnes uq_X6 (by decide +kernel)) (by decide +kernel) (fun _ h9 => h9) dX8_awakeOnes_26 (fun x10 h => ?_)
      refine q_iconst (pc := 29) C 2 dX8_awakeOnes_29 (by decide) ?_
      refine q_icmp_ne (pc := 30) C 36 dX8_awakeOnes_30 (by decide) (fun c11 => ?_) (fun c11 => ?_)
      · have h := h.2 c11
        refine q_widen (k2 := 0) (n2 := 0) (by omega) (by omega) ?_
        refine q_lv [0, 1, 2] rfl ?_
        exact tX8_awakeOnes_36 C hr hlocks ih h
      · have h := h.1 c11
        refine q_iinc (pc := 33) C 1 1 (l1 + 1) [(1, .int (l1 + 1)), (0, va_rf l0), (2, .int l2)] dX8_awakeOnes_33 rfl (by rfl) (by decide) (by first | rfl | simp [q_cat, q_catI, q_catJ, q_catR, q_catN]) ?_
        refine q_widen (k2 := 0) (n2 := 0) (by omega) (by omega) ?_
        refine q_lv [1, 0, 2] rfl ?_
        exact tX8_awakeOnes_36 C hr hlocks ih h
set_option maxRecDepth 100000 in
set_option maxHeartbeats 4000000 in
theorem tX8_awakeOnes {p : Program} {l : Launch} {e : Env} {s : State} {m : MethodId} {args : Array Value} {below : List Frame} {meth : Method} {c : Code} {G : mG} {b0 : Nat} (C : m_C p s m args c cX8_awakeOnes 3 RX8 wsX8_awakeOnes G b0) (hr : meth.sig.returnType = (some .int)) (hlocks : meth.locks = false) {κ : Int32 → mM → Prop} {l0 : Option Nat} {M : mM} (h : wX8_awakeOnes κ l0 M) : m_W p l e ({ frames := 3, cells := 0, slots := 0, locals := 64 } : Room) s m args below meth c G b0 (MQ below (va_Qi κ (m_B G b0) (fun q => b0 ≤ q)) args s 0 0 (fun q => b0 ≤ q)) 3 M 0 0 0 [(0, va_rf l0)] [] := by
  unfold wX8_awakeOnes at h
  refine q_iconst (pc := 0) C 0 dX8_awakeOnes_0 (by decide) ?_
  refine q_istore_n (pc := 1) C 1 [(1, .int 0), (0, va_rf l0)] dX8_awakeOnes_1 rfl (by decide) (by first | rfl | simp [q_cat, q_catI, q_catJ, q_catR, q_catN]) ?_
  refine q_iconst (pc := 2) C 0 dX8_awakeOnes_2 (by decide) ?_
  refine q_istore_n (pc := 3) C 2 [(2, .int 0), (1, .int 0), (0, va_rf l0)] dX8_awakeOnes_3 rfl (by decide) (by first | rfl | simp [q_cat, q_catI, q_catJ, q_catR, q_catN]) ?_
  refine q_widen (k2 := 0) (n2 := 0) (by omega) (by omega) ?_
  refine q_lv [2, 1, 0] rfl ?_
  obtain ⟨f9, h⟩ := h
  exact tX8_awakeOnes_4 C hr hlocks f9 _ _ _ _ h
set_option maxRecDepth 100000 in
set_option maxHeartbeats 4000000 in
theorem kX8_awakeOnes (l : Launch) (G : mG) (b0 : Nat) {b : Nat} {M : mM} {κ : Int32 → mM → Prop} (h : wX8_awakeOnes κ (some b) M) : Met l yX8_awakeOnes wsX8_awakeOnes ({ frames := 3, cells := 0, slots := 0, locals := 64 } : Room) (va_Pc [.ref b] (m_Pre G b0 M)) (va_Qi κ (m_B G b0) (fun q => b0 ≤ q)) 0 0 (fun q => b0 ≤ q) := by
  refine m_met (cc := cX8_awakeOnes) (maxL := 3) (ret := (some .int)) (lv := [(0, va_rf (some b))]) RX8 rfl (by decide +kernel) rfl (by first | exact Nat.le_of_ble_eq_true rfl | simp [lg_sl, q_cat, q_catI, q_catJ, q_catR, q_catN]) (by first | rfl | (simp [lv_args, q_cat, q_catI, q_catJ, q_catR, q_catN]; done) | (simp [lv_args, q_cat, q_catI, q_catJ, q_catR, q_catN]; rfl)) ?_
  intro p e s m args below meth c C hr hlocks hni
  exact tX8_awakeOnes C hr hlocks h
/-! X8_partsOfFate -/
set_option maxRecDepth 100000 in
set_option maxHeartbeats 4000000 in
theorem tX8_partsOfFate_36 {p : Program} {l : Launch} {e : Env} {s : State} {m : MethodId} {args : Array Value} {below : List Frame} {meth : Method} {c : Code} {G : mG} {b0 : Nat} (C : m_C p s m args c cX8_partsOfFate 4 RX8 wsX8_partsOfFate G b0) (hr : meth.sig.returnType = (some .int)) (hlocks : meth.locks = false) {κ : Int32 → mM → Prop} {R4 : Option Nat → Int32 → Int32 → Int32 → mM → Prop} (hR4 : ∀ (l0 : Option Nat) (l1 : Int32) (l2 : Int32) (l3 : Int32) (M : mM), R4 l0 l1 l2 l3 M → m_W p l e ({ frames := 3, cells := 0, slots := 0, locals := 64 } : Room) s m args below meth c G b0 (MQ below (va_Qi κ (m_B G b0) (fun q => b0 ≤ q)) args s 0 0 (fun q => b0 ≤ q)) 4 M 0 0 4 [(0, va_rf l0), (1, .int l1), (2, .int l2), (3, .int l3)] []) {l0 : Option Nat} {l1 : Int32} {l2 : Int32} {l3 : Int32} {M : mM} (h : wX8_partsOfFate_36 κ R4 l0 l1 l2 l3 M) : m_W p l e ({ frames := 3, cells := 0, slots := 0, locals := 64 } : Room) s m args below meth c G b0 (MQ below (va_Qi κ (m_B G b0) (fun q => b0 ≤ q)) args s 0 0 (fun q => b0 ≤ q)) 4 M 0 0 36 [(0, va_rf l0), (1, .int l1), (2, .int l2), (3, .int l3)] [] := by
  unfold wX8_partsOfFate_36 at h
  refine q_iinc (pc := 36) C 3 3 (l3 + 1) [(3, .int (l3 + 1)), (0, va_rf l0), (1, .int l1), (2, .int l2)] dX8_partsOfFate_36 rfl (by rfl) (by decide) (by first | rfl | simp [q_cat, q_catI, q_catJ, q_catR, q_catN]) ?_
  refine q_goto (pc := 39) C 4 dX8_partsOfFate_39 (by decide) ?_
  refine q_widen (k2 := 0) (n2 := 0) (by omega) (by omega) ?_
  refine q_lv [1, 2, 3, 0] rfl ?_
  exact hR4 _ _ _ _ _ h
set_option maxRecDepth 100000 in
set_option maxHeartbeats 4000000 in
theorem tX8_partsOfFate_4 {p : Program} {l : Launch} {e : Env} {s : State} {m : MethodId} {args : Array Value} {below : List Frame} {meth : Method} {c : Code} {G : mG} {b0 : Nat} (C : m_C p s m args c cX8_partsOfFate 4 RX8 wsX8_partsOfFate G b0) (hr : meth.sig.returnType = (some .int)) (hlocks : meth.locks = false) {κ : Int32 → mM → Prop} : ∀ (f : Nat) (l0 : Option Nat) (l1 : Int32) (l2 : Int32) (l3 : Int32) (M : mM), wX8_partsOfFate_4 κ f l0 l1 l2 l3 M → m_W p l e ({ frames := 3, cells := 0, slots := 0, locals := 64 } : Room) s m args below meth c G b0 (MQ below (va_Qi κ (m_B G b0) (fun q => b0 ≤ q)) args s 0 0 (fun q => b0 ≤ q)) 4 M 0 0 4 [(0, va_rf l0), (1, .int l1), (2, .int l2), (3, .int l3)] [] := by
  intro f
  induction f with
  | zero =>
    intro l0 l1 l2 l3 M h
    exact absurd h (by simp [wX8_partsOfFate_4])
  | succ f ih =>
    intro l0 l1 l2 l3 M h
    rw [wX8_partsOfFate_4] at h
    refine q_iload_n (pc := 4) C 3 3 dX8_partsOfFate_4 rfl rfl ?_
    refine q_aload_n (pc := 5) C 0 0 dX8_partsOfFate_5 rfl rfl ?_
    refine q_gR (pc := 6) C h (T := TX8) rfl (by decide) (wk_u rfl wm_X8_partsOfFate uq_X8 (by decide +kernel)) (by decide +kernel) (fun _ h9 => h9) dX8_partsOfFate_6 (fun x1 h => ?_)
    obtain ⟨b4, fs9, hb4, hm9, h⟩ := h
    refine q_ci (pc := 9) (q_rV C (st := [.int l3]) (b := b4) (kJx4a65c_size_8abf5 l G b0 h) (cwV 0 C.2.2.2.2.1 gX8_partsOfFate_Jx4a65c_size_8abf5 rfl rfl rfl (by decide +kernel) ⟨Nat.le_of_ble_eq_true rfl, Nat.le_of_ble_eq_true rfl⟩) hm9 rfl rfl rfl (by first | exact Nat.le_of_ble_eq_true rfl | (simp [q_cat, q_catI, q_catJ, q_catR, q_catN]; done)) (by rw [hb4]; first | done | rfl) dX8_partsOfFate_9 ⟨(by first | omega | (dsimp only; omega)), (by first | omega | (dsimp only; omega))⟩) (fun x2 M3 h => ?_)
    refine q_icmp_ge (pc := 12) C 42 dX8_partsOfFate_12 (by decide) (fun c5 => ?_) (fun c5 => ?_)
    · have h := h.1 c5
      refine q_iload_n (pc := 42) C 2 2 dX8_partsOfFate_42 rfl rfl ?_
      exact q_iret (pc := 43) C hr hlocks h dX8_partsOfFate_43 (by omega) (by omega)
    · have h := h.2 c5
      refine q_aload_n (pc := 15) C 0 0 dX8_partsOfFate_15 rfl rfl ?_
      refine q_gR (pc := 16) C h (T := TX8) rfl (by decide) (wk_u rfl wm_X8_partsOfFate uq_X8 (by decide +kernel)) (by decide +kernel) (fun _ h9 => h9) dX8_partsOfFate_16 (fun x6 h => ?_)
      refine q_iload_n (pc := 19) C 3 3 dX8_partsOfFate_19 rfl rfl ?_
      obtain ⟨b9, fs9, hb9, hm9, h⟩ := h
      refine q_cq (pc := 20) (q_rV C (st := []) (b := b9) (kJx4a65c_get_915e3 l G b0 h) (cwV 1 C.2.2.2.2.1 gX8_partsOfFate_Jx4a65c_get_915e3 rfl rfl rfl (by decide +kernel) ⟨Nat.le_of_ble_eq_true rfl, Nat.le_of_ble_eq_true rfl⟩) hm9 rfl rfl rfl (by first | exact Nat.le_of_ble_eq_true rfl | (simp [q_cat, q_catI, q_catJ, q_catR, q_catN]; done)) (by rw [hb9]; first | done | rfl) dX8_partsOfFate_20 ⟨(by first | omega | (dsimp only; omega)), (by first | omega | (dsimp only; omega))⟩) (fun x7 M8 h => ?_)
      refine q_cast (pc := 23) C h rfl rfl (by decide +kernel) dX8_partsOfFate_23 (fun h => ?_)
      refine q_gI (pc := 26) C h (T := TX3) rfl (by decide) (wk_u rfl wm_X8_partsOfFate uq_X3 (by decide +kernel)) (by decide +kernel) (fun _ h9 => h9) dX8_partsOfFate_26 (fun x10 h => ?_)
      refine q_iload_n (pc := 29) C 1 1 dX8_partsOfFate_29 rfl rfl ?_
      refine q_icmp_ne (pc := 30) C 36 dX8_partsOfFate_30 (by decide) (fun c11 => ?_) (fun c11 => ?_)
      · have h := h.2 c11
        refine q_widen (k2 := 0) (n2 := 0) (by omega) (by omega) ?_
        refine q_lv [0, 1, 2, 3] rfl ?_
        exact tX8_partsOfFate_36 C hr hlocks ih h
      · have h := h.1 c11
        refine q_iinc (pc := 33) C 2 2 (l2 + 1) [(2, .int (l2 + 1)), (0, va_rf l0), (1, .int l1), (3, .int l3)] dX8_partsOfFate_33 rfl (by rfl) (by decide) (by first | rfl | simp [q_cat, q_catI, q_catJ, q_catR, q_catN]) ?_
        refine q_widen (k2 := 0) (n2 := 0) (by omega) (by omega) ?_
        refine q_lv [1, 2, 0, 3] rfl ?_
        exact tX8_partsOfFate_36 C hr hlocks ih h
set_option maxRecDepth 100000 in
set_option maxHeartbeats 4000000 in
theorem tX8_partsOfFate {p : Program} {l : Launch} {e : Env} {s : State} {m : MethodId} {args : Array Value} {below : List Frame} {meth : Method} {c : Code} {G : mG} {b0 : Nat} (C : m_C p s m args c cX8_partsOfFate 4 RX8 wsX8_partsOfFate G b0) (hr : meth.sig.returnType = (some .int)) (hlocks : meth.locks = false) {κ : Int32 → mM → Prop} {l0 : Option Nat} {l1 : Int32} {M : mM} (h : wX8_partsOfFate κ l0 l1 M) : m_W p l e ({ frames := 3, cells := 0, slots := 0, locals := 64 } : Room) s m args below meth c G b0 (MQ below (va_Qi κ (m_B G b0) (fun q => b0 ≤ q)) args s 0 0 (fun q => b0 ≤ q)) 4 M 0 0 0 [(0, va_rf l0), (1, .int l1)] [] := by
  unfold wX8_partsOfFate at h
  refine q_iconst (pc := 0) C 0 dX8_partsOfFate_0 (by decide) ?_
  refine q_istore_n (pc := 1) C 2 [(2, .int 0), (0, va_rf l0), (1, .int l1)] dX8_partsOfFate_1 rfl (by decide) (by first | rfl | simp [q_cat, q_catI, q_catJ, q_catR, q_catN]) ?_
  refine q_iconst (pc := 2) C 0 dX8_partsOfFate_2 (by decide) ?_
  refine q_istore_n (pc := 3) C 3 [(3, .int 0), (2, .int 0), (0, va_rf l0), (1, .int l1)] dX8_partsOfFate_3 rfl (by decide) (by first | rfl | simp [q_cat, q_catI, q_catJ, q_catR, q_catN]) ?_
  refine q_widen (k2 := 0) (n2 := 0) (by omega) (by omega) ?_
  refine q_lv [2, 3, 1, 0] rfl ?_
  obtain ⟨f9, h⟩ := h
  exact tX8_partsOfFate_4 C hr hlocks f9 _ _ _ _ _ h
set_option maxRecDepth 100000 in
set_option maxHeartbeats 4000000 in
theorem kX8_partsOfFate (l : Launch) (G : mG) (b0 : Nat) {b : Nat} {l1 : Int32} {M : mM} {κ : Int32 → mM → Prop} (h : wX8_partsOfFate κ (some b) l1 M) : Met l yX8_partsOfFate wsX8_partsOfFate ({ frames := 3, cells := 0, slots := 0, locals := 64 } : Room) (va_Pc [.ref b, .int l1] (m_Pre G b0 M)) (va_Qi κ (m_B G b0) (fun q => b0 ≤ q)) 0 0 (fun q => b0 ≤ q) := by
  refine m_met (cc := cX8_partsOfFate) (maxL := 4) (ret := (some .int)) (lv := [(0, va_rf (some b)), (1, .int l1)]) RX8 rfl (by decide +kernel) rfl (by first | exact Nat.le_of_ble_eq_true rfl | simp [lg_sl, q_cat, q_catI, q_catJ, q_catR, q_catN]) (by first | rfl | (simp [lv_args, q_cat, q_catI, q_catJ, q_catR, q_catN]; done) | (simp [lv_args, q_cat, q_catI, q_catJ, q_catR, q_catN]; rfl)) ?_
  intro p e s m args below meth c C hr hlocks hni
  exact tX8_partsOfFate C hr hlocks h
/-! X8_goneParts -/
set_option maxRecDepth 100000 in
set_option maxHeartbeats 4000000 in
theorem tX8_goneParts_35 {p : Program} {l : Launch} {e : Env} {s : State} {m : MethodId} {args : Array Value} {below : List Frame} {meth : Method} {c : Code} {G : mG} {b0 : Nat} (C : m_C p s m args c cX8_goneParts 3 RX8 wsX8_goneParts G b0) (hr : meth.sig.returnType = (some .int)) (hlocks : meth.locks = false) {κ : Int32 → mM → Prop} {R4 : Option Nat → Int32 → Int32 → mM → Prop} (hR4 : ∀ (l0 : Option Nat) (l1 : Int32) (l2 : Int32) (M : mM), R4 l0 l1 l2 M → m_W p l e ({ frames := 3, cells := 0, slots := 0, locals := 64 } : Room) s m args below meth c G b0 (MQ below (va_Qi κ (m_B G b0) (fun q => b0 ≤ q)) args s 0 0 (fun q => b0 ≤ q)) 3 M 0 0 4 [(0, va_rf l0), (1, .int l1), (2, .int l2)] []) {l0 : Option Nat} {l1 : Int32} {l2 : Int32} {M : mM} (h : wX8_goneParts_35 κ R4 l0 l1 l2 M) : m_W p l e ({ frames := 3, cells := 0, slots := 0, locals := 64 } : Room) s m args below meth c G b0 (MQ below (va_Qi κ (m_B G b0) (fun q => b0 ≤ q)) args s 0 0 (fun q => b0 ≤ q)) 3 M 0 0 35 [(0, va_rf l0), (1, .int l1), (2, .int l2)] [] := by
  unfold wX8_goneParts_35 at h
  refine q_iinc (pc := 35) C 2 2 (l2 + 1) [(2, .int (l2 + 1)), (0, va_rf l0), (1, .int l1)] dX8_goneParts_35 rfl (by rfl) (by decide) (by first | rfl | simp [q_cat, q_catI, q_catJ, q_catR, q_catN]) ?_
  refine q_goto (pc := 38) C 4 dX8_goneParts_38 (by decide) ?_
  refine q_widen (k2 := 0) (n2 := 0) (by omega) (by omega) ?_
  refine q_lv [1, 2, 0] rfl ?_
  exact hR4 _ _ _ _ h
set_option maxRecDepth 100000 in
set_option maxHeartbeats 4000000 in
theorem tX8_goneParts_4 {p : Program} {l : Launch} {e : Env} {s : State} {m : MethodId} {args : Array Value} {below : List Frame} {meth : Method} {c : Code} {G : mG} {b0 : Nat} (C : m_C p s m args c cX8_goneParts 3 RX8 wsX8_goneParts G b0) (hr : meth.sig.returnType = (some .int)) (hlocks : meth.locks = false) {κ : Int32 → mM → Prop} : ∀ (f : Nat) (l0 : Option Nat) (l1 : Int32) (l2 : Int32) (M : mM), wX8_goneParts_4 κ f l0 l1 l2 M → m_W p l e ({ frames := 3, cells := 0, slots := 0, locals := 64 } : Room) s m args below meth c G b0 (MQ below (va_Qi κ (m_B G b0) (fun q => b0 ≤ q)) args s 0 0 (fun q => b0 ≤ q)) 3 M 0 0 4 [(0, va_rf l0), (1, .int l1), (2, .int l2)] [] := by
  intro f
  induction f with
  | zero =>
    intro l0 l1 l2 M h
    exact absurd h (by simp [wX8_goneParts_4])
  | succ f ih =>
    intro l0 l1 l2 M h
    rw [wX8_goneParts_4] at h
    refine q_iload_n (pc := 4) C 2 2 dX8_goneParts_4 rfl rfl ?_
    refine q_aload_n (pc := 5) C 0 0 dX8_goneParts_5 rfl rfl ?_
    refine q_gR (pc := 6) C h (T := TX8) rfl (by decide) (wk_u rfl wm_X8_goneParts uq_X8 (by decide +kernel)) (by decide +kernel) (fun _ h9 => h9) dX8_goneParts_6 (fun x1 h => ?_)
    obtain ⟨b4, fs9, hb4, hm9, h⟩ := h
    refine q_ci (pc := 9) (q_rV C (st := [.int l2]) (b := b4) (kJx4a65c_size_8abf5 l G b0 h) (cwV 0 C.2.2.2.2.1 gX8_goneParts_Jx4a65c_size_8abf5 rfl rfl rfl (by decide +kernel) ⟨Nat.le_of_ble_eq_true rfl, Nat.le_of_ble_eq_true rfl⟩) hm9 rfl rfl rfl (by first | exact Nat.le_of_ble_eq_true rfl | (simp [q_cat, q_catI, q_catJ, q_catR, q_catN]; done)) (by rw [hb4]; first | done | rfl) dX8_goneParts_9 ⟨(by first | omega | (dsimp only; omega)), (by first | omega | (dsimp only; omega))⟩) (fun x2 M3 h => ?_)
    refine q_icmp_ge (pc := 12) C 41 dX8_goneParts_12 (by decide) (fun c5 => ?_) (fun c5 => ?_)
    · have h := h.1 c5
      refine q_iload_n (pc := 41) C 1 1 dX8_goneParts_41 rfl rfl ?_
      exact q_iret (pc := 42) C hr hlocks h dX8_goneParts_42 (by omega) (by omega)
    · have h := h.2 c5
      refine q_aload_n (pc := 15) C 0 0 dX8_goneParts_15 rfl rfl ?_
      refine q_gR (pc := 16) C h (T := TX8) rfl (by decide) (wk_u rfl wm_X8_goneParts uq_X8 (by decide +kernel)) (by decide +kernel) (fun _ h9 => h9) dX8_goneParts_16 (fun x6 h => ?_)
      refine q_iload_n (pc := 19) C 2 2 dX8_goneParts_19 rfl rfl ?_
      obtain ⟨b9, fs9, hb9, hm9, h⟩ := h
      refine q_cq (pc := 20) (q_rV C (st := []) (b := b9) (kJx4a65c_get_915e3 l G b0 h) (cwV 1 C.2.2.2.2.1 gX8_goneParts_Jx4a65c_get_915e3 rfl rfl rfl (by decide +kernel) ⟨Nat.le_of_ble_eq_true rfl, Nat.le_of_ble_eq_true rfl⟩) hm9 rfl rfl rfl (by first | exact Nat.le_of_ble_eq_true rfl | (simp [q_cat, q_catI, q_catJ, q_catR, q_catN]; done)) (by rw [hb9]; first | done | rfl) dX8_goneParts_20 ⟨(by first | omega | (dsimp only; omega)), (by first | omega | (dsimp only; omega))⟩) (fun x7 M8 h => ?_)
      refine q_cast (pc := 23) C h rfl rfl (by decide +kernel) dX8_goneParts_23 (fun h => ?_)
      obtain ⟨b12, fs9, hb12, hm9, h⟩ := h
      refine q_cq (pc := 26) (q_rV C (st := []) (b := b12) (kX3_whereabouts l G b0 h) (cwV 0 C.2.2.2.2.1 gX8_goneParts_X3_whereabouts rfl rfl rfl (by decide +kernel) ⟨Nat.le_of_ble_eq_true rfl, Nat.le_of_ble_eq_true rfl⟩) hm9 rfl rfl rfl (by first | exact Nat.le_of_ble_eq_true rfl | (simp [q_cat, q_catI, q_catJ, q_catR, q_catN]; done)) (by rw [hb12]; first | done | rfl) dX8_goneParts_26 ⟨(by first | omega | (dsimp only; omega)), (by first | omega | (dsimp only; omega))⟩) (fun x10 M11 h => ?_)
      refine q_ifnonnull (pc := 29) C 35 dX8_goneParts_29 (by decide) (fun c13 => ?_) (fun c13 => ?_)
      · have h := h.2 c13
        refine q_widen (k2 := 0) (n2 := 0) (by omega) (by omega) ?_
        refine q_lv [0, 1, 2] rfl ?_
        exact tX8_goneParts_35 C hr hlocks ih h
      · have h := h.1 c13
        refine q_iinc (pc := 32) C 1 1 (l1 + 1) [(1, .int (l1 + 1)), (0, va_rf l0), (2, .int l2)] dX8_goneParts_32 rfl (by rfl) (by decide) (by first | rfl | simp [q_cat, q_catI, q_catJ, q_catR, q_catN]) ?_
        refine q_widen (k2 := 0) (n2 := 0) (by omega) (by omega) ?_
        refine q_lv [1, 0, 2] rfl ?_
        exact tX8_goneParts_35 C hr hlocks ih h
set_option maxRecDepth 100000 in
set_option maxHeartbeats 4000000 in
theorem tX8_goneParts {p : Program} {l : Launch} {e : Env} {s : State} {m : MethodId} {args : Array Value} {below : List Frame} {meth : Method} {c : Code} {G : mG} {b0 : Nat} (C : m_C p s m args c cX8_goneParts 3 RX8 wsX8_goneParts G b0) (hr : meth.sig.returnType = (some .int)) (hlocks : meth.locks = false) {κ : Int32 → mM → Prop} {l0 : Option Nat} {M : mM} (h : wX8_goneParts κ l0 M) : m_W p l e ({ frames := 3, cells := 0, slots := 0, locals := 64 } : Room) s m args below meth c G b0 (MQ below (va_Qi κ (m_B G b0) (fun q => b0 ≤ q)) args s 0 0 (fun q => b0 ≤ q)) 3 M 0 0 0 [(0, va_rf l0)] [] := by
  unfold wX8_goneParts at h
  refine q_iconst (pc := 0) C 0 dX8_goneParts_0 (by decide) ?_
  refine q_istore_n (pc := 1) C 1 [(1, .int 0), (0, va_rf l0)] dX8_goneParts_1 rfl (by decide) (by first | rfl | simp [q_cat, q_catI, q_catJ, q_catR, q_catN]) ?_
  refine q_iconst (pc := 2) C 0 dX8_goneParts_2 (by decide) ?_
  refine q_istore_n (pc := 3) C 2 [(2, .int 0), (1, .int 0), (0, va_rf l0)] dX8_goneParts_3 rfl (by decide) (by first | rfl | simp [q_cat, q_catI, q_catJ, q_catR, q_catN]) ?_
  refine q_widen (k2 := 0) (n2 := 0) (by omega) (by omega) ?_
  refine q_lv [2, 1, 0] rfl ?_
  obtain ⟨f9, h⟩ := h
  exact tX8_goneParts_4 C hr hlocks f9 _ _ _ _ h
set_option maxRecDepth 100000 in
set_option maxHeartbeats 4000000 in
theorem kX8_goneParts (l : Launch) (G : mG) (b0 : Nat) {b : Nat} {M : mM} {κ : Int32 → mM → Prop} (h : wX8_goneParts κ (some b) M) : Met l yX8_goneParts wsX8_goneParts ({ frames := 3, cells := 0, slots := 0, locals := 64 } : Room) (va_Pc [.ref b] (m_Pre G b0 M)) (va_Qi κ (m_B G b0) (fun q => b0 ≤ q)) 0 0 (fun q => b0 ≤ q) := by
  refine m_met (cc := cX8_goneParts) (maxL := 3) (ret := (some .int)) (lv := [(0, va_rf (some b))]) RX8 rfl (by decide +kernel) rfl (by first | exact Nat.le_of_ble_eq_true rfl | simp [lg_sl, q_cat, q_catI, q_catJ, q_catR, q_catN]) (by first | rfl | (simp [lv_args, q_cat, q_catI, q_catJ, q_catR, q_catN]; done) | (simp [lv_args, q_cat, q_catI, q_catJ, q_catR, q_catN]; rfl)) ?_
  intro p e s m args below meth c C hr hlocks hni
  exact tX8_goneParts C hr hlocks h
/-! X8_dutiesOfAll -/
set_option maxRecDepth 100000 in
set_option maxHeartbeats 4000000 in
theorem tX8_dutiesOfAll_13 {p : Program} {l : Launch} {e : Env} {s : State} {m : MethodId} {args : Array Value} {below : List Frame} {meth : Method} {c : Code} {G : mG} {b0 : Nat} (C : m_C p s m args c cX8_dutiesOfAll 6 RX8 wsX8_dutiesOfAll G b0) (hr : meth.sig.returnType = (some .int)) (hlocks : meth.locks = false) {κ : Int32 → mM → Prop} : ∀ (f : Nat) (l1 : Int32) (l2 : Option Nat) (l3 : Int32) (l4 : Int32) (M : mM), wX8_dutiesOfAll_13 κ f l1 l2 l3 l4 M → m_W p l e ({ frames := 0, cells := 0, slots := 0, locals := 0 } : Room) s m args below meth c G b0 (MQ below (va_Qi κ (m_B G b0) (fun q => b0 ≤ q)) args s 0 0 (fun q => b0 ≤ q)) 6 M 0 0 13 [(1, .int l1), (2, va_rf l2), (3, .int l3), (4, .int l4)] [] := by
  intro f
  induction f with
  | zero =>
    intro l1 l2 l3 l4 M h
    exact absurd h (by simp [wX8_dutiesOfAll_13])
  | succ f ih =>
    intro l1 l2 l3 l4 M h
    rw [wX8_dutiesOfAll_13] at h
    refine q_iload (pc := 13) C 4 3 dX8_dutiesOfAll_13 rfl ?_
    refine q_iload_n (pc := 15) C 3 2 dX8_dutiesOfAll_15 rfl rfl ?_
    refine q_icmp_ge (pc := 16) C 39 dX8_dutiesOfAll_16 (by decide) (fun c1 => ?_) (fun c1 => ?_)
    · have h := h.1 c1
      refine q_iload_n (pc := 39) C 1 0 dX8_dutiesOfAll_39 rfl rfl ?_
      exact q_iret (pc := 40) C hr hlocks h dX8_dutiesOfAll_40 (by omega) (by omega)
    · have h := h.2 c1
      refine q_aload_n (pc := 19) C 2 1 dX8_dutiesOfAll_19 rfl rfl ?_
      refine q_iload (pc := 20) C 4 3 dX8_dutiesOfAll_20 rfl ?_
      refine q_aald (pc := 22) C h rfl dX8_dutiesOfAll_22 (fun x2 h => ?_)
      refine q_astore (pc := 23) C 5 [(5, va_rf x2), (1, .int l1), (2, va_rf l2), (3, .int l3), (4, .int l4)] dX8_dutiesOfAll_23 (by decide) (by first | rfl | simp [q_cat, q_catI, q_catJ, q_catR, q_catN]) ?_
      refine q_iload_n (pc := 25) C 1 1 dX8_dutiesOfAll_25 rfl rfl ?_
      refine q_aload (pc := 26) C 5 0 dX8_dutiesOfAll_26 rfl ?_
      refine q_gI (pc := 28) C h (T := TX2) rfl (by decide) (wk_u rfl wm_X8_dutiesOfAll uq_X2 (by decide +kernel)) (by decide +kernel) (fun _ h9 => h9) dX8_dutiesOfAll_28 (fun x3 h => ?_)
      refine q_iadd (pc := 31) C dX8_dutiesOfAll_31 ?_
      refine q_istore_n (pc := 32) C 1 [(1, .int (l1 + x3)), (5, va_rf x2), (2, va_rf l2), (3, .int l3), (4, .int l4)] dX8_dutiesOfAll_32 rfl (by decide) (by first | rfl | simp [q_cat, q_catI, q_catJ, q_catR, q_catN]) ?_
      refine q_iinc (pc := 33) C 4 4 (l4 + 1) [(4, .int (l4 + 1)), (1, .int (l1 + x3)), (5, va_rf x2), (2, va_rf l2), (3, .int l3)] dX8_dutiesOfAll_33 rfl (by rfl) (by decide) (by first | rfl | simp [q_cat, q_catI, q_catJ, q_catR, q_catN]) ?_
      refine q_goto (pc := 36) C 13 dX8_dutiesOfAll_36 (by decide) ?_
      refine q_widen (k2 := 0) (n2 := 0) (by omega) (by omega) ?_
      refine q_lv [1, 3, 4, 0] rfl ?_
      exact ih _ _ _ _ _ h
set_option maxRecDepth 100000 in
set_option maxHeartbeats 4000000 in
theorem tX8_dutiesOfAll {p : Program} {l : Launch} {e : Env} {s : State} {m : MethodId} {args : Array Value} {below : List Frame} {meth : Method} {c : Code} {G : mG} {b0 : Nat} (C : m_C p s m args c cX8_dutiesOfAll 6 RX8 wsX8_dutiesOfAll G b0) (hr : meth.sig.returnType = (some .int)) (hlocks : meth.locks = false) {κ : Int32 → mM → Prop} {l0 : Option Nat} {M : mM} (h : wX8_dutiesOfAll κ l0 M) : m_W p l e ({ frames := 0, cells := 0, slots := 0, locals := 0 } : Room) s m args below meth c G b0 (MQ below (va_Qi κ (m_B G b0) (fun q => b0 ≤ q)) args s 0 0 (fun q => b0 ≤ q)) 6 M 0 0 0 [(0, va_rf l0)] [] := by
  unfold wX8_dutiesOfAll at h
  refine q_iconst (pc := 0) C 0 dX8_dutiesOfAll_0 (by decide) ?_
  refine q_istore_n (pc := 1) C 1 [(1, .int 0), (0, va_rf l0)] dX8_dutiesOfAll_1 rfl (by decide) (by first | rfl | simp [q_cat, q_catI, q_catJ, q_catR, q_catN]) ?_
  refine q_aload_n (pc := 2) C 0 1 dX8_dutiesOfAll_2 rfl rfl ?_
  refine q_gR (pc := 3) C h (T := TX8) rfl (by decide) (wk_u rfl wm_X8_dutiesOfAll uq_X8 (by decide +kernel)) (by decide +kernel) (fun _ h9 => h9) dX8_dutiesOfAll_3 (fun x1 h => ?_)
  refine q_astore_n (pc := 6) C 2 [(2, va_rf x1), (1, .int 0), (0, va_rf l0)] dX8_dutiesOfAll_6 rfl (by decide) (by first | rfl | simp [q_cat, q_catI, q_catJ, q_catR, q_catN]) ?_
  refine q_aload_n (pc := 7) C 2 0 dX8_dutiesOfAll_7 rfl rfl ?_
  refine q_len (pc := 8) C h dX8_dutiesOfAll_8 (fun x2 h => ?_)
  refine q_istore_n (pc := 9) C 3 [(3, .int x2), (2, va_rf x1), (1, .int 0), (0, va_rf l0)] dX8_dutiesOfAll_9 rfl (by decide) (by first | rfl | simp [q_cat, q_catI, q_catJ, q_catR, q_catN]) ?_
  refine q_iconst (pc := 10) C 0 dX8_dutiesOfAll_10 (by decide) ?_
  refine q_istore (pc := 11) C 4 [(4, .int 0), (3, .int x2), (2, va_rf x1), (1, .int 0), (0, va_rf l0)] dX8_dutiesOfAll_11 (by decide) (by first | rfl | simp [q_cat, q_catI, q_catJ, q_catR, q_catN]) ?_
  refine q_widen (k2 := 0) (n2 := 0) (by omega) (by omega) ?_
  refine q_lv [3, 2, 1, 0] rfl ?_
  obtain ⟨f9, h⟩ := h
  exact tX8_dutiesOfAll_13 C hr hlocks f9 _ _ _ _ _ h
set_option maxRecDepth 100000 in
set_option maxHeartbeats 4000000 in
theorem kX8_dutiesOfAll (l : Launch) (G : mG) (b0 : Nat) {b : Nat} {M : mM} {κ : Int32 → mM → Prop} (h : wX8_dutiesOfAll κ (some b) M) : Met l yX8_dutiesOfAll wsX8_dutiesOfAll ({ frames := 0, cells := 0, slots := 0, locals := 0 } : Room) (va_Pc [.ref b] (m_Pre G b0 M)) (va_Qi κ (m_B G b0) (fun q => b0 ≤ q)) 0 0 (fun q => b0 ≤ q) := by
  refine m_met (cc := cX8_dutiesOfAll) (maxL := 6) (ret := (some .int)) (lv := [(0, va_rf (some b))]) RX8 rfl (by decide +kernel) rfl (by first | exact Nat.le_of_ble_eq_true rfl | simp [lg_sl, q_cat, q_catI, q_catJ, q_catR, q_catN]) (by first | rfl | (simp [lv_args, q_cat, q_catI, q_catJ, q_catR, q_catN]; done) | (simp [lv_args, q_cat, q_catI, q_catJ, q_catR, q_catN]; rfl)) ?_
  intro p e s m args below meth c C hr hlocks hni
  exact tX8_dutiesOfAll C hr hlocks h
/-! X8_finesOfAll -/
set_option maxRecDepth 100000 in
set_option maxHeartbeats 4000000 in
theorem tX8_finesOfAll_13 {p : Program} {l : Launch} {e : Env} {s : State} {m : MethodId} {args : Array Value} {below : List Frame} {meth : Method} {c : Code} {G : mG} {b0 : Nat} (C : m_C p s m args c cX8_finesOfAll 6 RX8 wsX8_finesOfAll G b0) (hr : meth.sig.returnType = (some .int)) (hlocks : meth.locks = false) {κ : Int32 → mM → Prop} : ∀ (f : Nat) (l1 : Int32) (l2 : Option Nat) (l3 : Int32) (l4 : Int32) (M : mM), wX8_finesOfAll_13 κ f l1 l2 l3 l4 M → m_W p l e ({ frames := 0, cells := 0, slots := 0, locals := 0 } : Room) s m args below meth c G b0 (MQ below (va_Qi κ (m_B G b0) (fun q => b0 ≤ q)) args s 0 0 (fun q => b0 ≤ q)) 6 M 0 0 13 [(1, .int l1), (2, va_rf l2), (3, .int l3), (4, .int l4)] [] := by
  intro f
  induction f with
  | zero =>
    intro l1 l2 l3 l4 M h
    exact absurd h (by simp [wX8_finesOfAll_13])
  | succ f ih =>
    intro l1 l2 l3 l4 M h
    rw [wX8_finesOfAll_13] at h
    refine q_iload (pc := 13) C 4 3 dX8_finesOfAll_13 rfl ?_
    refine q_iload_n (pc := 15) C 3 2 dX8_finesOfAll_15 rfl rfl ?_
    refine q_icmp_ge (pc := 16) C 39 dX8_finesOfAll_16 (by decide) (fun c1 => ?_) (fun c1 => ?_)
    · have h := h.1 c1
      refine q_iload_n (pc := 39) C 1 0 dX8_finesOfAll_39 rfl rfl ?_
      exact q_iret (pc := 40) C hr hlocks h dX8_finesOfAll_40 (by omega) (by omega)
    · have h := h.2 c1
      refine q_aload_n (pc := 19) C 2 1 dX8_finesOfAll_19 rfl rfl ?_
      refine q_iload (pc := 20) C 4 3 dX8_finesOfAll_20 rfl ?_
      refine q_aald (pc := 22) C h rfl dX8_finesOfAll_22 (fun x2 h => ?_)
      refine q_astore (pc := 23) C 5 [(5, va_rf x2), (1, .int l1), (2, va_rf l2), (3, .int l3), (4, .int l4)] dX8_finesOfAll_23 (by decide) (by first | rfl | simp [q_cat, q_catI, q_catJ, q_catR, q_catN]) ?_
      refine q_iload_n (pc := 25) C 1 1 dX8_finesOfAll_25 rfl rfl ?_
      refine q_aload (pc := 26) C 5 0 dX8_finesOfAll_26 rfl ?_
      refine q_gI (pc := 28) C h (T := TX2) rfl (by decide) (wk_u rfl wm_X8_finesOfAll uq_X2 (by decide +kernel)) (by decide +kernel) (fun _ h9 => h9) dX8_finesOfAll_28 (fun x3 h => ?_)
      refine q_iadd (pc := 31) C dX8_finesOfAll_31 ?_
      refine q_istore_n (pc := 32) C 1 [(1, .int (l1 + x3)), (5, va_rf x2), (2, va_rf l2), (3, .int l3), (4, .int l4)] dX8_finesOfAll_32 rfl (by decide) (by first | rfl | simp [q_cat, q_catI, q_catJ, q_catR, q_catN]) ?_
      refine q_iinc (pc := 33) C 4 4 (l4 + 1) [(4, .int (l4 + 1)), (1, .int (l1 + x3)), (5, va_rf x2), (2, va_rf l2), (3, .int l3)] dX8_finesOfAll_33 rfl (by rfl) (by decide) (by first | rfl | simp [q_cat, q_catI, q_catJ, q_catR, q_catN]) ?_
      refine q_goto (pc := 36) C 13 dX8_finesOfAll_36 (by decide) ?_
      refine q_widen (k2 := 0) (n2 := 0) (by omega) (by omega) ?_
      refine q_lv [1, 3, 4, 0] rfl ?_
      exact ih _ _ _ _ _ h
set_option maxRecDepth 100000 in
set_option maxHeartbeats 4000000 in
theorem tX8_finesOfAll {p : Program} {l : Launch} {e : Env} {s : State} {m : MethodId} {args : Array Value} {below : List Frame} {meth : Method} {c : Code} {G : mG} {b0 : Nat} (C : m_C p s m args c cX8_finesOfAll 6 RX8 wsX8_finesOfAll G b0) (hr : meth.sig.returnType = (some .int)) (hlocks : meth.locks = false) {κ : Int32 → mM → Prop} {l0 : Option Nat} {M : mM} (h : wX8_finesOfAll κ l0 M) : m_W p l e ({ frames := 0, cells := 0, slots := 0, locals := 0 } : Room) s m args below meth c G b0 (MQ below (va_Qi κ (m_B G b0) (fun q => b0 ≤ q)) args s 0 0 (fun q => b0 ≤ q)) 6 M 0 0 0 [(0, va_rf l0)] [] := by
  unfold wX8_finesOfAll at h
  refine q_iconst (pc := 0) C 0 dX8_finesOfAll_0 (by decide) ?_
  refine q_istore_n (pc := 1) C 1 [(1, .int 0), (0, va_rf l0)] dX8_finesOfAll_1 rfl (by decide) (by first | rfl | simp [q_cat, q_catI, q_catJ, q_catR, q_catN]) ?_
  refine q_aload_n (pc := 2) C 0 1 dX8_finesOfAll_2 rfl rfl ?_
  refine q_gR (pc := 3) C h (T := TX8) rfl (by decide) (wk_u rfl wm_X8_finesOfAll uq_X8 (by decide +kernel)) (by decide +kernel) (fun _ h9 => h9) dX8_finesOfAll_3 (fun x1 h => ?_)
  refine q_astore_n (pc := 6) C 2 [(2, va_rf x1), (1, .int 0), (0, va_rf l0)] dX8_finesOfAll_6 rfl (by decide) (by first | rfl | simp [q_cat, q_catI, q_catJ, q_catR, q_catN]) ?_
  refine q_aload_n (pc := 7) C 2 0 dX8_finesOfAll_7 rfl rfl ?_
  refine q_len (pc := 8) C h dX8_finesOfAll_8 (fun x2 h => ?_)
  refine q_istore_n (pc := 9) C 3 [(3, .int x2), (2, va_rf x1), (1, .int 0), (0, va_rf l0)] dX8_finesOfAll_9 rfl (by decide) (by first | rfl | simp [q_cat, q_catI, q_catJ, q_catR, q_catN]) ?_
  refine q_iconst (pc := 10) C 0 dX8_finesOfAll_10 (by decide) ?_
  refine q_istore (pc := 11) C 4 [(4, .int 0), (3, .int x2), (2, va_rf x1), (1, .int 0), (0, va_rf l0)] dX8_finesOfAll_11 (by decide) (by first | rfl | simp [q_cat, q_catI, q_catJ, q_catR, q_catN]) ?_
  refine q_widen (k2 := 0) (n2 := 0) (by omega) (by omega) ?_
  refine q_lv [3, 2, 1, 0] rfl ?_
  obtain ⟨f9, h⟩ := h
  exact tX8_finesOfAll_13 C hr hlocks f9 _ _ _ _ _ h
set_option maxRecDepth 100000 in
set_option maxHeartbeats 4000000 in
theorem kX8_finesOfAll (l : Launch) (G : mG) (b0 : Nat) {b : Nat} {M : mM} {κ : Int32 → mM → Prop} (h : wX8_finesOfAll κ (some b) M) : Met l yX8_finesOfAll wsX8_finesOfAll ({ frames := 0, cells := 0, slots := 0, locals := 0 } : Room) (va_Pc [.ref b] (m_Pre G b0 M)) (va_Qi κ (m_B G b0) (fun q => b0 ≤ q)) 0 0 (fun q => b0 ≤ q) := by
  refine m_met (cc := cX8_finesOfAll) (maxL := 6) (ret := (some .int)) (lv := [(0, va_rf (some b))]) RX8 rfl (by decide +kernel) rfl (by first | exact Nat.le_of_ble_eq_true rfl | simp [lg_sl, q_cat, q_catI, q_catJ, q_catR, q_catN]) (by first | rfl | (simp [lv_args, q_cat, q_catI, q_catJ, q_catR, q_catN]; done) | (simp [lv_args, q_cat, q_catI, q_catJ, q_catR, q_catN]; rfl)) ?_
  intro p e s m args below meth c C hr hlocks hni
  exact tX8_finesOfAll C hr hlocks h
/-! X8_night -/
set_option maxRecDepth 100000 in
set_option maxHeartbeats 4000000 in
theorem tX8_night {p : Program} {l : Launch} {e : Env} {s : State} {m : MethodId} {args : Array Value} {below : List Frame} {meth : Method} {c : Code} {G : mG} {b0 : Nat} (C : m_C p s m args c cX8_night 2 RX8 wsX8_night G b0) (hr : meth.sig.returnType = (some .int)) (hlocks : meth.locks = false) {t : Nat} (hL : l.stackTraces = false) (hx : ∀ x ∈ c.exceptionTable.toList, False) {κ : Int32 → mM → Prop} {ξ : String → mM → Prop} (ht : ∀ E M, ξ E M → 1 ≤ t) {l0 : Option Nat} {l1 : Int32} {M : mM} (h : wX8_night κ ξ l0 l1 M) : m_W p l e ({ frames := 6, cells := (0 + 1 * t), slots := (0 + 6 * t), locals := 90 } : Room) s m args below meth c G b0 (vx_MQ below (va_Qi κ (m_B G b0) (fun q => b0 ≤ q)) (m_X G b0 ξ) args s (0 + 1 * t) (0 + 6 * t) (fun q => b0 ≤ q)) 2 M 0 0 0 [(0, va_rf l0), (1, .int l1)] [] := by
  unfold wX8_night at h
  refine q_iload_n (pc := 0) C 1 1 dX8_night_0 rfl rfl ?_
  by_cases c1 : l1 = 0
  · have h := h.1 c1
    refine q_tableIn (pc := 1) C 84 dX8_night_1 (by rw [c1]; decide) (by rw [c1]; decide) (by rw [c1]; rfl) (by decide) ?_
    refine q_aload_n (pc := 84) C 0 0 dX8_night_84 rfl rfl ?_
    refine q_gI (pc := 85) C h (T := TX8) rfl (by decide) (wk_u rfl wm_X8_night uq_X8 (by decide +kernel)) (by decide +kernel) (fun _ h9 => h9) dX8_night_85 (fun x2 h => ?_)
    exact q_iretX (pc := 88) C hr hlocks h dX8_night_88 (by omega) (by omega)
  have h := h.2 c1
  by_cases c3 : l1 = 1
  · have h := h.1 c3
    refine q_tableIn (pc := 1) C 89 dX8_night_1 (by rw [c3]; decide) (by rw [c3]; decide) (by rw [c3]; rfl) (by decide) ?_
    refine q_aload_n (pc := 89) C 0 0 dX8_night_89 rfl rfl ?_
    refine q_gI (pc := 90) C h (T := TX8) rfl (by decide) (wk_u rfl wm_X8_night uq_X8 (by decide +kernel)) (by decide +kernel) (fun _ h9 => h9) dX8_night_90 (fun x4 h => ?_)
    exact q_iretX (pc := 93) C hr hlocks h dX8_night_93 (by omega) (by omega)
  have h := h.2 c3
  by_cases c5 : l1 = 2
  · have h := h.1 c5
    refine q_tableIn (pc := 1) C 94 dX8_night_1 (by rw [c5]; decide) (by rw [c5]; decide) (by rw [c5]; rfl) (by decide) ?_
    refine q_aload_n (pc := 94) C 0 0 dX8_night_94 rfl rfl ?_
    refine q_gR (pc := 95) C h (T := TX8) rfl (by decide) (wk_u rfl wm_X8_night uq_X8 (by decide +kernel)) (by decide +kernel) (fun _ h9 => h9) dX8_night_95 (fun x6 h => ?_)
    obtain ⟨b9, fs9, hb9, hm9, h⟩ := h
    refine q_ci (pc := 98) (q_rV C (st := []) (b := b9) (kJx4a65c_size_8abf5 l G b0 h) (cwV 0 C.2.2.2.2.1 gX8_night_Jx4a65c_size_8abf5 rfl rfl rfl (by decide +kernel) ⟨Nat.le_of_ble_eq_true rfl, Nat.le_of_ble_eq_true rfl⟩) hm9 rfl rfl rfl (by first | exact Nat.le_of_ble_eq_true rfl | (simp [q_cat, q_catI, q_catJ, q_catR, q_catN]; done)) (by rw [hb9]; first | done | rfl) dX8_night_98 ⟨(by first | omega | (dsimp only; omega)), (by first | omega | (dsimp only; omega))⟩) (fun x7 M8 h => ?_)
    exact q_iretX (pc := 101) C hr hlocks h dX8_night_101 (by omega) (by omega)
  have h := h.2 c5
  by_cases c10 : l1 = 3
  · have h := h.1 c10
    refine q_tableIn (pc := 1) C 102 dX8_night_1 (by rw [c10]; decide) (by rw [c10]; decide) (by rw [c10]; rfl) (by decide) ?_
    refine q_aload_n (pc := 102) C 0 0 dX8_night_102 rfl rfl ?_
    refine q_gR (pc := 103) C h (T := TX8) rfl (by decide) (wk_u rfl wm_X8_night uq_X8 (by decide +kernel)) (by decide +kernel) (fun _ h9 => h9) dX8_night_103 (fun x11 h => ?_)
    obtain ⟨b14, fs9, hb14, hm9, h⟩ := h
    refine q_ci (pc := 106) (q_rV C (st := []) (b := b14) (kJx4a65c_size_8abf5 l G b0 h) (cwV 0 C.2.2.2.2.1 gX8_night_Jx4a65c_size_8abf5 rfl rfl rfl (by decide +kernel) ⟨Nat.le_of_ble_eq_true rfl, Nat.le_of_ble_eq_true rfl⟩) hm9 rfl rfl rfl (by first | exact Nat.le_of_ble_eq_true rfl | (simp [q_cat, q_catI, q_catJ, q_catR, q_catN]; done)) (by rw [hb14]; first | done | rfl) dX8_night_106 ⟨(by first | omega | (dsimp only; omega)), (by first | omega | (dsimp only; omega))⟩) (fun x12 M13 h => ?_)
    exact q_iretX (pc := 109) C hr hlocks h dX8_night_109 (by omega) (by omega)
  have h := h.2 c10
  by_cases c15 : l1 = 4
  · have h := h.1 c15
    refine q_tableIn (pc := 1) C 110 dX8_night_1 (by rw [c15]; decide) (by rw [c15]; decide) (by rw [c15]; rfl) (by decide) ?_
    refine q_aload_n (pc := 110) C 0 0 dX8_night_110 rfl rfl ?_
    obtain ⟨b18, fs9, hb18, hm9, h⟩ := h
    refine q_ci (pc := 111) (q_rV C (st := []) (b := b18) (kX8_awakeOnes l G b0 h) (cwV 0 C.2.2.2.2.1 gX8_night_X8_awakeOnes rfl rfl rfl (by decide +kernel) ⟨Nat.le_of_ble_eq_true rfl, Nat.le_of_ble_eq_true rfl⟩) hm9 rfl rfl rfl (by first | exact Nat.le_of_ble_eq_true rfl | (simp [q_cat, q_catI, q_catJ, q_catR, q_catN]; done)) (by rw [hb18]; first | done | rfl) dX8_night_111 ⟨(by first | omega | (dsimp only; omega)), (by first | omega | (dsimp only; omega))⟩) (fun x16 M17 h => ?_)
    exact q_iretX (pc := 114) C hr hlocks h dX8_night_114 (by omega) (by omega)
  have h := h.2 c15
  by_cases c19 : l1 = 5
  · have h := h.1 c19
    refine q_tableIn (pc := 1) C 115 dX8_night_1 (by rw [c19]; decide) (by rw [c19]; decide) (by rw [c19]; rfl) (by decide) ?_
    refine q_aload_n (pc := 115) C 0 0 dX8_night_115 rfl rfl ?_
    refine q_gR (pc := 116) C h (T := TX8) rfl (by decide) (wk_u rfl wm_X8_night uq_X8 (by decide +kernel)) (by decide +kernel) (fun _ h9 => h9) dX8_night_116 (fun x20 h => ?_)
    obtain ⟨b23, fs9, hb23, hm9, h⟩ := h
    refine q_ci (pc := 119) (q_rV C (st := []) (b := b23) (kJx4a65c_size_8abf5 l G b0 h) (cwV 0 C.2.2.2.2.1 gX8_night_Jx4a65c_size_8abf5 rfl rfl rfl (by decide +kernel) ⟨Nat.le_of_ble_eq_true rfl, Nat.le_of_ble_eq_true rfl⟩) hm9 rfl rfl rfl (by first | exact Nat.le_of_ble_eq_true rfl | (simp [q_cat, q_catI, q_catJ, q_catR, q_catN]; done)) (by rw [hb23]; first | done | rfl) dX8_night_119 ⟨(by first | omega | (dsimp only; omega)), (by first | omega | (dsimp only; omega))⟩) (fun x21 M22 h => ?_)
    exact q_iretX (pc := 122) C hr hlocks h dX8_night_122 (by omega) (by omega)
  have h := h.2 c19
  by_cases c24 : l1 = 6
  · have h := h.1 c24
    refine q_tableIn (pc := 1) C 123 dX8_night_1 (by rw [c24]; decide) (by rw [c24]; decide) (by rw [c24]; rfl) (by decide) ?_
    refine q_aload_n (pc := 123) C 0 0 dX8_night_123 rfl rfl ?_
    refine q_iconst (pc := 124) C 1 dX8_night_124 (by decide) ?_
    obtain ⟨b27, fs9, hb27, hm9, h⟩ := h
    refine q_ci (pc := 125) (q_rV C (st := []) (b := b27) (kX8_partsOfFate l G b0 h) (cwV 1 C.2.2.2.2.1 gX8_night_X8_partsOfFate rfl rfl rfl (by decide +kernel) ⟨Nat.le_of_ble_eq_true rfl, Nat.le_of_ble_eq_true rfl⟩) hm9 rfl rfl rfl (by first | exact Nat.le_of_ble_eq_true rfl | (simp [q_cat, q_catI, q_catJ, q_catR, q_catN]; done)) (by rw [hb27]; first | done | rfl) dX8_night_125 ⟨(by first | omega | (dsimp only; omega)), (by first | omega | (dsimp only; omega))⟩) (fun x25 M26 h => ?_)
    exact q_iretX (pc := 128) C hr hlocks h dX8_night_128 (by omega) (by omega)
  have h := h.2 c24
  by_cases c28 : l1 = 7
  · have h := h.1 c28
    refine q_tableIn (pc := 1) C 129 dX8_night_1 (by rw [c28]; decide) (by rw [c28]; decide) (by rw [c28]; rfl) (by decide) ?_
    refine q_aload_n (pc := 129) C 0 0 dX8_night_129 rfl rfl ?_
    refine q_iconst (pc := 130) C 2 dX8_night_130 (by decide) ?_
    obtain ⟨b31, fs9, hb31, hm9, h⟩ := h
    refine q_ci (pc := 131) (q_rV C (st := []) (b := b31) (kX8_partsOfFate l G b0 h) (cwV 1 C.2.2.2.2.1 gX8_night_X8_partsOfFate rfl rfl rfl (by decide +kernel) ⟨Nat.le_of_ble_eq_true rfl, Nat.le_of_ble_eq_true rfl⟩) hm9 rfl rfl rfl (by first | exact Nat.le_of_ble_eq_true rfl | (simp [q_cat, q_catI, q_catJ, q_catR, q_catN]; done)) (by rw [hb31]; first | done | rfl) dX8_night_131 ⟨(by first | omega | (dsimp only; omega)), (by first | omega | (dsimp only; omega))⟩) (fun x29 M30 h => ?_)
    exact q_iretX (pc := 134) C hr hlocks h dX8_night_134 (by omega) (by omega)
  have h := h.2 c28
  by_cases c32 : l1 = 8
  · have h := h.1 c32
    refine q_tableIn (pc := 1) C 135 dX8_night_1 (by rw [c32]; decide) (by rw [c32]; decide) (by rw [c32]; rfl) (by decide) ?_
    refine q_aload_n (pc := 135) C 0 0 dX8_night_135 rfl rfl ?_
    refine q_iconst (pc := 136) C 3 dX8_night_136 (by decide) ?_
    obtain ⟨b35, fs9, hb35, hm9, h⟩ := h
    refine q_ci (pc := 137) (q_rV C (st := []) (b := b35) (kX8_partsOfFate l G b0 h) (cwV 1 C.2.2.2.2.1 gX8_night_X8_partsOfFate rfl rfl rfl (by decide +kernel) ⟨Nat.le_of_ble_eq_true rfl, Nat.le_of_ble_eq_true rfl⟩) hm9 rfl rfl rfl (by first | exact Nat.le_of_ble_eq_true rfl | (simp [q_cat, q_catI, q_catJ, q_catR, q_catN]; done)) (by rw [hb35]; first | done | rfl) dX8_night_137 ⟨(by first | omega | (dsimp only; omega)), (by first | omega | (dsimp only; omega))⟩) (fun x33 M34 h => ?_)
    exact q_iretX (pc := 140) C hr hlocks h dX8_night_140 (by omega) (by omega)
  have h := h.2 c32
  by_cases c36 : l1 = 9
  · have h := h.1 c36
    refine q_tableIn (pc := 1) C 141 dX8_night_1 (by rw [c36]; decide) (by rw [c36]; decide) (by rw [c36]; rfl) (by decide) ?_
    refine q_aload_n (pc := 141) C 0 0 dX8_night_141 rfl rfl ?_
    refine q_iconst (pc := 142) C 4 dX8_night_142 (by decide) ?_
    obtain ⟨b39, fs9, hb39, hm9, h⟩ := h
    refine q_ci (pc := 143) (q_rV C (st := []) (b := b39) (kX8_partsOfFate l G b0 h) (cwV 1 C.2.2.2.2.1 gX8_night_X8_partsOfFate rfl rfl rfl (by decide +kernel) ⟨Nat.le_of_ble_eq_true rfl, Nat.le_of_ble_eq_true rfl⟩) hm9 rfl rfl rfl (by first | exact Nat.le_of_ble_eq_true rfl | (simp [q_cat, q_catI, q_catJ, q_catR, q_catN]; done)) (by rw [hb39]; first | done | rfl) dX8_night_143 ⟨(by first | omega | (dsimp only; omega)), (by first | omega | (dsimp only; omega))⟩) (fun x37 M38 h => ?_)
    exact q_iretX (pc := 146) C hr hlocks h dX8_night_146 (by omega) (by omega)
  have h := h.2 c36
  by_cases c40 : l1 = 10
  · have h := h.1 c40
    refine q_tableIn (pc := 1) C 147 dX8_night_1 (by rw [c40]; decide) (by rw [c40]; decide) (by rw [c40]; rfl) (by decide) ?_
    refine q_aload_n (pc := 147) C 0 0 dX8_night_147 rfl rfl ?_
    refine q_iconst (pc := 148) C 5 dX8_night_148 (by decide) ?_
    obtain ⟨b43, fs9, hb43, hm9, h⟩ := h
    refine q_ci (pc := 149) (q_rV C (st := []) (b := b43) (kX8_partsOfFate l G b0 h) (cwV 1 C.2.2.2.2.1 gX8_night_X8_partsOfFate rfl rfl rfl (by decide +kernel) ⟨Nat.le_of_ble_eq_true rfl, Nat.le_of_ble_eq_true rfl⟩) hm9 rfl rfl rfl (by first | exact Nat.le_of_ble_eq_true rfl | (simp [q_cat, q_catI, q_catJ, q_catR, q_catN]; done)) (by rw [hb43]; first | done | rfl) dX8_night_149 ⟨(by first | omega | (dsimp only; omega)), (by first | omega | (dsimp only; omega))⟩) (fun x41 M42 h => ?_)
    exact q_iretX (pc := 152) C hr hlocks h dX8_night_152 (by omega) (by omega)
  have h := h.2 c40
  by_cases c44 : l1 = 11
  · have h := h.1 c44
    refine q_tableIn (pc := 1) C 153 dX8_night_1 (by rw [c44]; decide) (by rw [c44]; decide) (by rw [c44]; rfl) (by decide) ?_
    refine q_aload_n (pc := 153) C 0 0 dX8_night_153 rfl rfl ?_
    obtain ⟨b47, fs9, hb47, hm9, h⟩ := h
    refine q_ci (pc := 154) (q_rV C (st := []) (b := b47) (kX8_goneParts l G b0 h) (cwV 0 C.2.2.2.2.1 gX8_night_X8_goneParts rfl rfl rfl (by decide +kernel) ⟨Nat.le_of_ble_eq_true rfl, Nat.le_of_ble_eq_true rfl⟩) hm9 rfl rfl rfl (by first | exact Nat.le_of_ble_eq_true rfl | (simp [q_cat, q_catI, q_catJ, q_catR, q_catN]; done)) (by rw [hb47]; first | done | rfl) dX8_night_154 ⟨(by first | omega | (dsimp only; omega)), (by first | omega | (dsimp only; omega))⟩) (fun x45 M46 h => ?_)
    exact q_iretX (pc := 157) C hr hlocks h dX8_night_157 (by omega) (by omega)
  have h := h.2 c44
  by_cases c48 : l1 = 12
  · have h := h.1 c48
    refine q_tableIn (pc := 1) C 158 dX8_night_1 (by rw [c48]; decide) (by rw [c48]; decide) (by rw [c48]; rfl) (by decide) ?_
    refine q_aload_n (pc := 158) C 0 0 dX8_night_158 rfl rfl ?_
    refine q_gR (pc := 159) C h (T := TX8) rfl (by decide) (wk_u rfl wm_X8_night uq_X8 (by decide +kernel)) (by decide +kernel) (fun _ h9 => h9) dX8_night_159 (fun x49 h => ?_)
    obtain ⟨b52, fs9, hb52, hm9, h⟩ := h
    refine q_ci (pc := 162) (q_rV C (st := []) (b := b52) (kJx4a65c_size_8abf5 l G b0 h) (cwV 0 C.2.2.2.2.1 gX8_night_Jx4a65c_size_8abf5 rfl rfl rfl (by decide +kernel) ⟨Nat.le_of_ble_eq_true rfl, Nat.le_of_ble_eq_true rfl⟩) hm9 rfl rfl rfl (by first | exact Nat.le_of_ble_eq_true rfl | (simp [q_cat, q_catI, q_catJ, q_catR, q_catN]; done)) (by rw [hb52]; first | done | rfl) dX8_night_162 ⟨(by first | omega | (dsimp only; omega)), (by first | omega | (dsimp only; omega))⟩) (fun x50 M51 h => ?_)
    exact q_iretX (pc := 165) C hr hlocks h dX8_night_165 (by omega) (by omega)
  have h := h.2 c48
  by_cases c53 : l1 = 13
  · have h := h.1 c53
    refine q_tableIn (pc := 1) C 166 dX8_night_1 (by rw [c53]; decide) (by rw [c53]; decide) (by rw [c53]; rfl) (by decide) ?_
    refine q_aload_n (pc := 166) C 0 0 dX8_night_166 rfl rfl ?_
    refine q_gR (pc := 167) C h (T := TX8) rfl (by decide) (wk_u rfl wm_X8_night uq_X8 (by decide +kernel)) (by decide +kernel) (fun _ h9 => h9) dX8_night_167 (fun x54 h => ?_)
    refine q_gI (pc := 170) C h (T := TX5) rfl (by decide) (wk_u rfl wm_X8_night uq_X5 (by decide +kernel)) (by decide +kernel) (fun _ h9 => h9) dX8_night_170 (fun x55 h => ?_)
    exact q_iretX (pc := 173) C hr hlocks h dX8_night_173 (by omega) (by omega)
  have h := h.2 c53
  by_cases c56 : l1 = 14
  · have h := h.1 c56
    refine q_tableIn (pc := 1) C 174 dX8_night_1 (by rw [c56]; decide) (by rw [c56]; decide) (by rw [c56]; rfl) (by decide) ?_
    refine q_aload_n (pc := 174) C 0 0 dX8_night_174 rfl rfl ?_
    refine q_gI (pc := 175) C h (T := TX8) rfl (by decide) (wk_u rfl wm_X8_night uq_X8 (by decide +kernel)) (by decide +kernel) (fun _ h9 => h9) dX8_night_175 (fun x57 h => ?_)
    exact q_iretX (pc := 178) C hr hlocks h dX8_night_178 (by omega) (by omega)
  have h := h.2 c56
  by_cases c58 : l1 = 15
  · have h := h.1 c58
    refine q_tableIn (pc := 1) C 179 dX8_night_1 (by rw [c58]; decide) (by rw [c58]; decide) (by rw [c58]; rfl) (by decide) ?_
    refine q_aload_n (pc := 179) C 0 0 dX8_night_179 rfl rfl ?_
    obtain ⟨b61, fs9, hb61, hm9, h⟩ := h
    refine q_ci (pc := 180) (q_rV C (st := []) (b := b61) (kX8_dutiesOfAll l G b0 h) (cwV 0 C.2.2.2.2.1 gX8_night_X8_dutiesOfAll rfl rfl rfl (by decide +kernel) ⟨Nat.le_of_ble_eq_true rfl, Nat.le_of_ble_eq_true rfl⟩) hm9 rfl rfl rfl (by first | exact Nat.le_of_ble_eq_true rfl | (simp [q_cat, q_catI, q_catJ, q_catR, q_catN]; done)) (by rw [hb61]; first | done | rfl) dX8_night_180 ⟨(by first | omega | (dsimp only; omega)), (by first | omega | (dsimp only; omega))⟩) (fun x59 M60 h => ?_)
    exact q_iretX (pc := 183) C hr hlocks h dX8_night_183 (by omega) (by omega)
  have h := h.2 c58
  by_cases c62 : l1 = 16
  · have h := h.1 c62
    refine q_tableIn (pc := 1) C 184 dX8_night_1 (by rw [c62]; decide) (by rw [c62]; decide) (by rw [c62]; rfl) (by decide) ?_
    refine q_aload_n (pc := 184) C 0 0 dX8_night_184 rfl rfl ?_
    obtain ⟨b65, fs9, hb65, hm9, h⟩ := h
    refine q_ci (pc := 185) (q_rV C (st := []) (b := b65) (kX8_finesOfAll l G b0 h) (cwV 0 C.2.2.2.2.1 gX8_night_X8_finesOfAll rfl rfl rfl (by decide +kernel) ⟨Nat.le_of_ble_eq_true rfl, Nat.le_of_ble_eq_true rfl⟩) hm9 rfl rfl rfl (by first | exact Nat.le_of_ble_eq_true rfl | (simp [q_cat, q_catI, q_catJ, q_catR, q_catN]; done)) (by rw [hb65]; first | done | rfl) dX8_night_185 ⟨(by first | omega | (dsimp only; omega)), (by first | omega | (dsimp only; omega))⟩) (fun x63 M64 h => ?_)
    exact q_iretX (pc := 188) C hr hlocks h dX8_night_188 (by omega) (by omega)
  have h := h.2 c62
  refine q_tableOut (pc := 1) C 189 dX8_night_1 ?_ (by decide) ?_
  · have hsw := m_sw (x := l1) 0 17 (fun j hj => by
      rcases (show j = 0 ∨ j = 1 ∨ j = 2 ∨ j = 3 ∨ j = 4 ∨ j = 5 ∨ j = 6 ∨ j = 7 ∨ j = 8 ∨ j = 9 ∨ j = 10 ∨ j = 11 ∨ j = 12 ∨ j = 13 ∨ j = 14 ∨ j = 15 ∨ j = 16 by omega) with rfl | rfl | rfl | rfl | rfl | rfl | rfl | rfl | rfl | rfl | rfl | rfl | rfl | rfl | rfl | rfl | rfl
      · exact c1
      · exact c3
      · exact c5
      · exact c10
      · exact c15
      · exact c19
      · exact c24
      · exact c28
      · exact c32
      · exact c36
      · exact c40
      · exact c44
      · exact c48
      · exact c53
      · exact c56
      · exact c58
      · exact c62
      ) (by decide)
    rcases hsw with q9 | q9
    · exact Or.inl (by simpa using q9)
    · exact Or.inr (by simp at q9 ⊢; omega)
  have ht9 := ht _ _ h
  exact q_throwSW (pc := 189) (names := ["java/lang/RuntimeException", "java/lang/Exception"]) (text := "nothing of the night has that number") C hL hx hlocks h (by decide +kernel) (by decide +kernel) (by decide +kernel) (by decide +kernel) (List.mem_of_getElem? (i := 289) (by decide +kernel)) (by decide +kernel) (by decide +kernel) (by decide +kernel) dX8_night_189 dX8_night_192 dX8_night_193 dX8_night_196 dX8_night_199 (Nat.le_of_ble_eq_true rfl) (by first | exact Nat.le_of_ble_eq_true rfl | (simp [q_cat, q_catI, q_catJ, q_catR, q_catN]; done) | (simp [q_cat, q_catI, q_catJ, q_catR, q_catN]; decide)) (by first | omega | (dsimp only; omega)) (by first | omega | (dsimp only; omega)) (by omega) (by omega)
set_option maxRecDepth 100000 in
set_option maxHeartbeats 4000000 in
theorem kX8_night (l : Launch) (G : mG) (b0 : Nat) {t : Nat} (hL : l.stackTraces = false) {b : Nat} {l1 : Int32} {M : mM} {κ : Int32 → mM → Prop} {ξ : String → mM → Prop} (ht : ∀ E M, ξ E M → 1 ≤ t) (h : wX8_night κ ξ (some b) l1 M) : vx_Met l yX8_night wsX8_night ({ frames := 6, cells := (0 + 1 * t), slots := (0 + 6 * t), locals := 90 } : Room) (va_Pc [.ref b, .int l1] (m_Pre G b0 M)) (va_Qi κ (m_B G b0) (fun q => b0 ≤ q)) (m_X G b0 ξ) (0 + 1 * t) (0 + 6 * t) (fun q => b0 ≤ q) := by
  refine m_metX (cc := cX8_night) (maxL := 2) (ret := (some .int)) (lv := [(0, va_rf (some b)), (1, .int l1)]) RX8 rfl (by decide +kernel) rfl (by first | exact Nat.le_of_ble_eq_true rfl | simp [lg_sl, q_cat, q_catI, q_catJ, q_catR, q_catN]) (by first | rfl | (simp [lv_args, q_cat, q_catI, q_catJ, q_catR, q_catN]; done) | (simp [lv_args, q_cat, q_catI, q_catJ, q_catR, q_catN]; rfl)) ?_
  intro p e s m args below meth c C hr hlocks hx
  exact tX8_night C hr hlocks hL hx ht h
/-! X8_cross -/
set_option maxRecDepth 100000 in
set_option maxHeartbeats 4000000 in
theorem tX8_cross_25 {p : Program} {l : Launch} {e : Env} {s : State} {m : MethodId} {args : Array Value} {below : List Frame} {meth : Method} {c : Code} {G : mG} {b0 : Nat} (C : m_C p s m args c cX8_cross 5 RX8 wsX8_cross G b0) (hr : meth.sig.returnType = none) (hlocks : meth.locks = false) {κ : mM → Prop} {l0 : Option Nat} {l2 : Int32} {l3 : Int32} {s0 : Int32} {M : mM} (h : wX8_cross_25 κ l0 l2 l3 s0 M) : m_W p l e ({ frames := 0, cells := 0, slots := 0, locals := 0 } : Room) s m args below meth c G b0 (MQ below (va_Qv κ (m_B G b0) (fun q => b0 ≤ q)) args s 0 0 (fun q => b0 ≤ q)) 5 M 0 0 25 [(0, va_rf l0), (2, .int l2), (3, .int l3)] [.int s0] := by
  unfold wX8_cross_25 at h
  refine q_istore (pc := 25) C 4 [(4, .int s0), (0, va_rf l0), (2, .int l2), (3, .int l3)] dX8_cross_25 (by decide) (by first | rfl | simp [q_cat, q_catI, q_catJ, q_catR, q_catN]) ?_
  refine q_iload (pc := 27) C 4 0 dX8_cross_27 rfl ?_
  refine q_if_eq (pc := 29) C 51 dX8_cross_29 (by decide) (fun c1 => ?_) (fun c1 => ?_)
  · have h := h.1 c1
    exact q_vret (pc := 51) C hr hlocks h dX8_cross_51 (by omega) (by omega)
  · have h := h.2 c1
    refine q_aload_n (pc := 32) C 0 1 dX8_cross_32 rfl rfl ?_
    refine q_gR (pc := 33) C h (T := TX8) rfl (by decide) (wk_u rfl wm_X8_cross uq_X8 (by decide +kernel)) (by decide +kernel) (fun _ h9 => h9) dX8_cross_33 (fun x2 h => ?_)
    refine q_iload_n (pc := 36) C 2 2 dX8_cross_36 rfl rfl ?_
    refine q_iald (pc := 37) C h dX8_cross_37 (fun x3 h => ?_)
    refine q_iconst (pc := 38) C (-1) dX8_cross_38 (by decide) ?_
    refine q_icmp_ne (pc := 39) C 51 dX8_cross_39 (by decide) (fun c4 => ?_) (fun c4 => ?_)
    · have h := h.2 c4
      exact q_vret (pc := 51) C hr hlocks h dX8_cross_51 (by omega) (by omega)
    · have h := h.1 c4
      refine q_aload_n (pc := 42) C 0 1 dX8_cross_42 rfl rfl ?_
      refine q_gR (pc := 43) C h (T := TX8) rfl (by decide) (wk_u rfl wm_X8_cross uq_X8 (by decide +kernel)) (by decide +kernel) (fun _ h9 => h9) dX8_cross_43 (fun x5 h => ?_)
      refine q_iload_n (pc := 46) C 2 2 dX8_cross_46 rfl rfl ?_
      refine q_iload_n (pc := 47) C 3 3 dX8_cross_47 rfl rfl ?_
      refine q_iconst (pc := 48) C 1 dX8_cross_48 (by decide) ?_
      refine q_iadd (pc := 49) C dX8_cross_49 ?_
      refine q_iast (pc := 50) C h dX8_cross_50 (fun M6 h => ?_)
      exact q_vret (pc := 51) C hr hlocks h dX8_cross_51 (by omega) (by omega)
set_option maxRecDepth 100000 in
set_option maxHeartbeats 4000000 in
theorem tX8_cross_24 {p : Program} {l : Launch} {e : Env} {s : State} {m : MethodId} {args : Array Value} {below : List Frame} {meth : Method} {c : Code} {G : mG} {b0 : Nat} (C : m_C p s m args c cX8_cross 5 RX8 wsX8_cross G b0) (hr : meth.sig.returnType = none) (hlocks : meth.locks = false) {κ : mM → Prop} {l0 : Option Nat} {l2 : Int32} {l3 : Int32} {M : mM} (h : wX8_cross_24 κ l0 l2 l3 M) : m_W p l e ({ frames := 0, cells := 0, slots := 0, locals := 0 } : Room) s m args below meth c G b0 (MQ below (va_Qv κ (m_B G b0) (fun q => b0 ≤ q)) args s 0 0 (fun q => b0 ≤ q)) 5 M 0 0 24 [(0, va_rf l0), (2, .int l2), (3, .int l3)] [] := by
  unfold wX8_cross_24 at h
  refine q_iconst (pc := 24) C 0 dX8_cross_24 (by decide) ?_
  refine q_widen (k2 := 0) (n2 := 0) (by omega) (by omega) ?_
  refine q_lv [0, 1, 2] rfl ?_
  exact tX8_cross_25 C hr hlocks h
set_option maxRecDepth 100000 in
set_option maxHeartbeats 4000000 in
theorem tX8_cross {p : Program} {l : Launch} {e : Env} {s : State} {m : MethodId} {args : Array Value} {below : List Frame} {meth : Method} {c : Code} {G : mG} {b0 : Nat} (C : m_C p s m args c cX8_cross 5 RX8 wsX8_cross G b0) (hr : meth.sig.returnType = none) (hlocks : meth.locks = false) {κ : mM → Prop} {l0 : Option Nat} {l1 : Int32} {l2 : Int32} {l3 : Int32} {M : mM} (h : wX8_cross κ l0 l1 l2 l3 M) : m_W p l e ({ frames := 0, cells := 0, slots := 0, locals := 0 } : Room) s m args below meth c G b0 (MQ below (va_Qv κ (m_B G b0) (fun q => b0 ≤ q)) args s 0 0 (fun q => b0 ≤ q)) 5 M 0 0 0 [(0, va_rf l0), (1, .int l1), (2, .int l2), (3, .int l3)] [] := by
  unfold wX8_cross at h
  refine q_aload_n (pc := 0) C 0 0 dX8_cross_0 rfl rfl ?_
  refine q_gR (pc := 1) C h (T := TX8) rfl (by decide) (wk_u rfl wm_X8_cross uq_X8 (by decide +kernel)) (by decide +kernel) (fun _ h9 => h9) dX8_cross_1 (fun x1 h => ?_)
  refine q_iload_n (pc := 4) C 1 1 dX8_cross_4 rfl rfl ?_
  refine q_iald (pc := 5) C h dX8_cross_5 (fun x2 h => ?_)
  refine q_iconst (pc := 6) C (-1) dX8_cross_6 (by decide) ?_
  refine q_icmp_eq (pc := 7) C 24 dX8_cross_7 (by decide) (fun c3 => ?_) (fun c3 => ?_)
  · have h := h.1 c3
    refine q_widen (k2 := 0) (n2 := 0) (by omega) (by omega) ?_
    refine q_lv [0, 2, 3] rfl ?_
    exact tX8_cross_24 C hr hlocks h
  · have h := h.2 c3
    refine q_aload_n (pc := 10) C 0 0 dX8_cross_10 rfl rfl ?_
    refine q_gR (pc := 11) C h (T := TX8) rfl (by decide) (wk_u rfl wm_X8_cross uq_X8 (by decide +kernel)) (by decide +kernel) (fun _ h9 => h9) dX8_cross_11 (fun x4 h => ?_)
    refine q_iload_n (pc := 14) C 1 1 dX8_cross_14 rfl rfl ?_
    refine q_iald (pc := 15) C h dX8_cross_15 (fun x5 h => ?_)
    refine q_iload_n (pc := 16) C 3 3 dX8_cross_16 rfl rfl ?_
    refine q_icmp_gt (pc := 17) C 24 dX8_cross_17 (by decide) (fun c6 => ?_) (fun c6 => ?_)
    · have h := h.1 c6
      refine q_widen (k2 := 0) (n2 := 0) (by omega) (by omega) ?_
      refine q_lv [0, 2, 3] rfl ?_
      exact tX8_cross_24 C hr hlocks h
    · have h := h.2 c6
      refine q_iconst (pc := 20) C 1 dX8_cross_20 (by decide) ?_
      refine q_goto (pc := 21) C 25 dX8_cross_21 (by decide) ?_
      refine q_widen (k2 := 0) (n2 := 0) (by omega) (by omega) ?_
      refine q_lv [0, 2, 3] rfl ?_
      exact tX8_cross_25 C hr hlocks h
set_option maxRecDepth 100000 in
set_option maxHeartbeats 4000000 in
theorem kX8_cross (l : Launch) (G : mG) (b0 : Nat) {b : Nat} {l1 : Int32} {l2 : Int32} {l3 : Int32} {M : mM} {κ : mM → Prop} (h : wX8_cross κ (some b) l1 l2 l3 M) : Met l yX8_cross wsX8_cross ({ frames := 0, cells := 0, slots := 0, locals := 0 } : Room) (va_Pc [.ref b, .int l1, .int l2, .int l3] (m_Pre G b0 M)) (va_Qv κ (m_B G b0) (fun q => b0 ≤ q)) 0 0 (fun q => b0 ≤ q) := by
  refine m_met (cc := cX8_cross) (maxL := 5) (ret := none) (lv := [(0, va_rf (some b)), (1, .int l1), (2, .int l2), (3, .int l3)]) RX8 rfl (by decide +kernel) rfl (by first | exact Nat.le_of_ble_eq_true rfl | simp [lg_sl, q_cat, q_catI, q_catJ, q_catR, q_catN]) (by first | rfl | (simp [lv_args, q_cat, q_catI, q_catJ, q_catR, q_catN]; done) | (simp [lv_args, q_cat, q_catI, q_catJ, q_catR, q_catN]; rfl)) ?_
  intro p e s m args below meth c C hr hlocks hni
  exact tX8_cross C hr hlocks h
/-! X8_findArrivals -/
set_option maxRecDepth 100000 in
set_option maxHeartbeats 4000000 in
theorem tX8_findArrivals_126 {p : Program} {l : Launch} {e : Env} {s : State} {m : MethodId} {args : Array Value} {below : List Frame} {meth : Method} {c : Code} {G : mG} {b0 : Nat} (C : m_C p s m args c cX8_findArrivals 5 RX8 wsX8_findArrivals G b0) (hr : meth.sig.returnType = none) (hlocks : meth.locks = false) {κ : mM → Prop} {R35 : Option Nat → Int32 → mM → Prop} (hR35 : ∀ (l0 : Option Nat) (l2 : Int32) (M : mM), R35 l0 l2 M → m_W p l e ({ frames := 3, cells := 0, slots := 0, locals := 64 } : Room) s m args below meth c G b0 (MQ below (va_Qv κ (m_B G b0) (fun q => b0 ≤ q)) args s 0 0 (fun q => b0 ≤ q)) 5 M 0 0 35 [(0, va_rf l0), (2, .int l2)] []) {R43 : Option Nat → Int32 → Int32 → mM → Prop} (hR43 : ∀ (l0 : Option Nat) (l2 : Int32) (l3 : Int32) (M : mM), R43 l0 l2 l3 M → m_W p l e ({ frames := 3, cells := 0, slots := 0, locals := 64 } : Room) s m args below meth c G b0 (MQ below (va_Qv κ (m_B G b0) (fun q => b0 ≤ q)) args s 0 0 (fun q => b0 ≤ q)) 5 M 0 0 43 [(0, va_rf l0), (2, .int l2), (3, .int l3)] []) {l0 : Option Nat} {l2 : Int32} {l3 : Int32} {M : mM} (h : wX8_findArrivals_126 κ R35 R43 l0 l2 l3 M) : m_W p l e ({ frames := 3, cells := 0, slots := 0, locals := 64 } : Room) s m args below meth c G b0 (MQ below (va_Qv κ (m_B G b0) (fun q => b0 ≤ q)) args s 0 0 (fun q => b0 ≤ q)) 5 M 0 0 126 [(0, va_rf l0), (2, .int l2), (3, .int l3)] [] := by
  unfold wX8_findArrivals_126 at h
  refine q_iinc (pc := 126) C 3 2 (l3 + 1) [(3, .int (l3 + 1)), (0, va_rf l0), (2, .int l2)] dX8_findArrivals_126 rfl (by rfl) (by decide) (by first | rfl | simp [q_cat, q_catI, q_catJ, q_catR, q_catN]) ?_
  refine q_goto (pc := 129) C 43 dX8_findArrivals_129 (by decide) ?_
  refine q_widen (k2 := 0) (n2 := 0) (by omega) (by omega) ?_
  refine q_lv [1, 2, 0] rfl ?_
  exact hR43 _ _ _ _ h
set_option maxRecDepth 100000 in
set_option maxHeartbeats 4000000 in
theorem tX8_findArrivals_43 {p : Program} {l : Launch} {e : Env} {s : State} {m : MethodId} {args : Array Value} {below : List Frame} {meth : Method} {c : Code} {G : mG} {b0 : Nat} (C : m_C p s m args c cX8_findArrivals 5 RX8 wsX8_findArrivals G b0) (hr : meth.sig.returnType = none) (hlocks : meth.locks = false) {κ : mM → Prop} {R35 : Option Nat → Int32 → mM → Prop} (hR35 : ∀ (l0 : Option Nat) (l2 : Int32) (M : mM), R35 l0 l2 M → m_W p l e ({ frames := 3, cells := 0, slots := 0, locals := 64 } : Room) s m args below meth c G b0 (MQ below (va_Qv κ (m_B G b0) (fun q => b0 ≤ q)) args s 0 0 (fun q => b0 ≤ q)) 5 M 0 0 35 [(0, va_rf l0), (2, .int l2)] []) : ∀ (f : Nat) (l0 : Option Nat) (l2 : Int32) (l3 : Int32) (M : mM), wX8_findArrivals_43 κ R35 f l0 l2 l3 M → m_W p l e ({ frames := 3, cells := 0, slots := 0, locals := 64 } : Room) s m args below meth c G b0 (MQ below (va_Qv κ (m_B G b0) (fun q => b0 ≤ q)) args s 0 0 (fun q => b0 ≤ q)) 5 M 0 0 43 [(0, va_rf l0), (2, .int l2), (3, .int l3)] [] := by
  intro f
  induction f with
  | zero =>
    intro l0 l2 l3 M h
    exact absurd h (by simp [wX8_findArrivals_43])
  | succ f ih =>
    intro l0 l2 l3 M h
    rw [wX8_findArrivals_43] at h
    refine q_iload_n (pc := 43) C 3 2 dX8_findArrivals_43 rfl rfl ?_
    refine q_aload_n (pc := 44) C 0 0 dX8_findArrivals_44 rfl rfl ?_
    refine q_gR (pc := 45) C h (T := TX8) rfl (by decide) (wk_u rfl wm_X8_findArrivals uq_X8 (by decide +kernel)) (by decide +kernel) (fun _ h9 => h9) dX8_findArrivals_45 (fun x1 h => ?_)
    obtain ⟨b4, fs9, hb4, hm9, h⟩ := h
    refine q_ci (pc := 48) (q_rV C (st := [.int l3]) (b := b4) (kJx4a65c_size_8abf5 l G b0 h) (cwV 0 C.2.2.2.2.1 gX8_findArrivals_Jx4a65c_size_8abf5 rfl rfl rfl (by decide +kernel) ⟨Nat.le_of_ble_eq_true rfl, Nat.le_of_ble_eq_true rfl⟩) hm9 rfl rfl rfl (by first | exact Nat.le_of_ble_eq_true rfl | (simp [q_cat, q_catI, q_catJ, q_catR, q_catN]; done)) (by rw [hb4]; first | done | rfl) dX8_findArrivals_48 ⟨(by first | omega | (dsimp only; omega)), (by first | omega | (dsimp only; omega))⟩) (fun x2 M3 h => ?_)
    refine q_icmp_ge (pc := 51) C 132 dX8_findArrivals_51 (by decide) (fun c5 => ?_) (fun c5 => ?_)
    · have h := h.1 c5
      refine q_iinc (pc := 132) C 2 1 (l2 + 1) [(2, .int (l2 + 1)), (0, va_rf l0), (3, .int l3)] dX8_findArrivals_132 rfl (by rfl) (by decide) (by first | rfl | simp [q_cat, q_catI, q_catJ, q_catR, q_catN]) ?_
      refine q_goto (pc := 135) C 35 dX8_findArrivals_135 (by decide) ?_
      refine q_widen (k2 := 0) (n2 := 0) (by omega) (by omega) ?_
      refine q_lv [1, 0] rfl ?_
      exact hR35 _ _ _ h
    · have h := h.2 c5
      refine q_aload_n (pc := 54) C 0 0 dX8_findArrivals_54 rfl rfl ?_
      refine q_gR (pc := 55) C h (T := TX8) rfl (by decide) (wk_u rfl wm_X8_findArrivals uq_X8 (by decide +kernel)) (by decide +kernel) (fun _ h9 => h9) dX8_findArrivals_55 (fun x6 h => ?_)
      refine q_iload_n (pc := 58) C 3 2 dX8_findArrivals_58 rfl rfl ?_
      obtain ⟨b9, fs9, hb9, hm9, h⟩ := h
      refine q_cq (pc := 59) (q_rV C (st := []) (b := b9) (kJx4a65c_get_915e3 l G b0 h) (cwV 1 C.2.2.2.2.1 gX8_findArrivals_Jx4a65c_get_915e3 rfl rfl rfl (by decide +kernel) ⟨Nat.le_of_ble_eq_true rfl, Nat.le_of_ble_eq_true rfl⟩) hm9 rfl rfl rfl (by first | exact Nat.le_of_ble_eq_true rfl | (simp [q_cat, q_catI, q_catJ, q_catR, q_catN]; done)) (by rw [hb9]; first | done | rfl) dX8_findArrivals_59 ⟨(by first | omega | (dsimp only; omega)), (by first | omega | (dsimp only; omega))⟩) (fun x7 M8 h => ?_)
      refine q_cast (pc := 62) C h rfl rfl (by decide +kernel) dX8_findArrivals_62 (fun h => ?_)
      refine q_astore (pc := 65) C 4 [(4, va_rf x7), (0, va_rf l0), (2, .int l2), (3, .int l3)] dX8_findArrivals_65 (by decide) (by first | rfl | simp [q_cat, q_catI, q_catJ, q_catR, q_catN]) ?_
      refine q_aload (pc := 67) C 4 0 dX8_findArrivals_67 rfl ?_
      refine q_aload_n (pc := 69) C 0 1 dX8_findArrivals_69 rfl rfl ?_
      refine q_gI (pc := 70) C h (T := TX8) rfl (by decide) (wk_u rfl wm_X8_findArrivals uq_X8 (by decide +kernel)) (by decide +kernel) (fun _ h9 => h9) dX8_findArrivals_70 (fun x10 h => ?_)
      refine q_iload_n (pc := 73) C 2 2 dX8_findArrivals_73 rfl rfl ?_
      refine q_iadd (pc := 74) C dX8_findArrivals_74 ?_
      refine q_bipush (pc := 75) C 24 dX8_findArrivals_75 (by decide) ?_
      refine q_irem (pc := 77) C dX8_findArrivals_77 (by decide) ?_
      refine m_stk (st2 := .int (m_rem (x10 + l2) 24) :: _) rfl ?_
      obtain ⟨b13, fs9, hb13, hm9, h⟩ := h
      refine q_ci (pc := 78) (q_rV C (st := []) (b := b13) (kX0_isOpenAt l G b0 h) (cwV 1 C.2.2.2.2.1 gX8_findArrivals_X0_isOpenAt rfl rfl rfl (by decide +kernel) ⟨Nat.le_of_ble_eq_true rfl, Nat.le_of_ble_eq_true rfl⟩) hm9 rfl rfl rfl (by first | exact Nat.le_of_ble_eq_true rfl | (simp [q_cat, q_catI, q_catJ, q_catR, q_catN]; done)) (by rw [hb13]; first | done | rfl) dX8_findArrivals_78 ⟨(by first | omega | (dsimp only; omega)), (by first | omega | (dsimp only; omega))⟩) (fun x11 M12 h => ?_)
      refine q_if_eq (pc := 81) C 126 dX8_findArrivals_81 (by decide) (fun c14 => ?_) (fun c14 => ?_)
      · have h := h.1 c14
        refine q_widen (k2 := 0) (n2 := 0) (by omega) (by omega) ?_
        refine q_lv [1, 2, 3] rfl ?_
        exact tX8_findArrivals_126 C hr hlocks hR35 ih h
      · have h := h.2 c14
        refine q_aload_n (pc := 84) C 0 1 dX8_findArrivals_84 rfl rfl ?_
        refine q_aload (pc := 85) C 4 0 dX8_findArrivals_85 rfl ?_
        refine q_gR (pc := 87) C h (T := TX0) rfl (by decide) (wk_u rfl wm_X8_findArrivals uq_X0 (by decide +kernel)) (by decide +kernel) (fun _ h9 => h9) dX8_findArrivals_87 (fun x15 h => ?_)
        refine q_gI (pc := 90) C h (T := TX2) rfl (by decide) (wk_u rfl wm_X8_findArrivals uq_X2 (by decide +kernel)) (by decide +kernel) (fun _ h9 => h9) dX8_findArrivals_90 (fun x16 h => ?_)
        refine q_aload (pc := 93) C 4 0 dX8_findArrivals_93 rfl ?_
        refine q_gR (pc := 95) C h (T := TX0) rfl (by decide) (wk_u rfl wm_X8_findArrivals uq_X0 (by decide +kernel)) (by decide +kernel) (fun _ h9 => h9) dX8_findArrivals_95 (fun x17 h => ?_)
        refine q_gI (pc := 98) C h (T := TX2) rfl (by decide) (wk_u rfl wm_X8_findArrivals uq_X2 (by decide +kernel)) (by decide +kernel) (fun _ h9 => h9) dX8_findArrivals_98 (fun x18 h => ?_)
        refine q_iload_n (pc := 101) C 2 2 dX8_findArrivals_101 rfl rfl ?_
        obtain ⟨b20, fs9, hb20, hm9, h⟩ := h
        refine q_cv (pc := 102) (q_rV C (st := []) (b := b20) (kX8_cross l G b0 h) (cwV 3 C.2.2.2.2.1 gX8_findArrivals_X8_cross rfl rfl rfl (by decide +kernel) ⟨Nat.le_of_ble_eq_true rfl, Nat.le_of_ble_eq_true rfl⟩) hm9 rfl rfl rfl (by first | exact Nat.le_of_ble_eq_true rfl | (simp [q_cat, q_catI, q_catJ, q_catR, q_catN]; done)) (by rw [hb20]; first | done | rfl) dX8_findArrivals_102 ⟨(by first | omega | (dsimp only; omega)), (by first | omega | (dsimp only; omega))⟩) (fun M19 h => ?_)
        refine q_aload_n (pc := 105) C 0 1 dX8_findArrivals_105 rfl rfl ?_
        refine q_aload (pc := 106) C 4 0 dX8_findArrivals_106 rfl ?_
        refine q_gR (pc := 108) C h (T := TX0) rfl (by decide) (wk_u rfl wm_X8_findArrivals uq_X0 (by decide +kernel)) (by decide +kernel) (fun _ h9 => h9) dX8_findArrivals_108 (fun x21 h => ?_)
        refine q_gI (pc := 111) C h (T := TX2) rfl (by decide) (wk_u rfl wm_X8_findArrivals uq_X2 (by decide +kernel)) (by decide +kernel) (fun _ h9 => h9) dX8_findArrivals_111 (fun x22 h => ?_)
        refine q_aload (pc := 114) C 4 0 dX8_findArrivals_114 rfl ?_
        refine q_gR (pc := 116) C h (T := TX0) rfl (by decide) (wk_u rfl wm_X8_findArrivals uq_X0 (by decide +kernel)) (by decide +kernel) (fun _ h9 => h9) dX8_findArrivals_116 (fun x23 h => ?_)
        refine q_gI (pc := 119) C h (T := TX2) rfl (by decide) (wk_u rfl wm_X8_findArrivals uq_X2 (by decide +kernel)) (by decide +kernel) (fun _ h9 => h9) dX8_findArrivals_119 (fun x24 h => ?_)
        refine q_iload_n (pc := 122) C 2 2 dX8_findArrivals_122 rfl rfl ?_
        obtain ⟨b26, fs9, hb26, hm9, h⟩ := h
        refine q_cv (pc := 123) (q_rV C (st := []) (b := b26) (kX8_cross l G b0 h) (cwV 3 C.2.2.2.2.1 gX8_findArrivals_X8_cross rfl rfl rfl (by decide +kernel) ⟨Nat.le_of_ble_eq_true rfl, Nat.le_of_ble_eq_true rfl⟩) hm9 rfl rfl rfl (by first | exact Nat.le_of_ble_eq_true rfl | (simp [q_cat, q_catI, q_catJ, q_catR, q_catN]; done)) (by rw [hb26]; first | done | rfl) dX8_findArrivals_123 ⟨(by first | omega | (dsimp only; omega)), (by first | omega | (dsimp only; omega))⟩) (fun M25 h => ?_)
        refine q_widen (k2 := 0) (n2 := 0) (by omega) (by omega) ?_
        refine q_lv [1, 2, 3] rfl ?_
        exact tX8_findArrivals_126 C hr hlocks hR35 ih h
set_option maxRecDepth 100000 in
set_option maxHeartbeats 4000000 in
theorem tX8_findArrivals_35 {p : Program} {l : Launch} {e : Env} {s : State} {m : MethodId} {args : Array Value} {below : List Frame} {meth : Method} {c : Code} {G : mG} {b0 : Nat} (C : m_C p s m args c cX8_findArrivals 5 RX8 wsX8_findArrivals G b0) (hr : meth.sig.returnType = none) (hlocks : meth.locks = false) {κ : mM → Prop} : ∀ (f : Nat) (l0 : Option Nat) (l2 : Int32) (M : mM), wX8_findArrivals_35 κ f l0 l2 M → m_W p l e ({ frames := 3, cells := 0, slots := 0, locals := 64 } : Room) s m args below meth c G b0 (MQ below (va_Qv κ (m_B G b0) (fun q => b0 ≤ q)) args s 0 0 (fun q => b0 ≤ q)) 5 M 0 0 35 [(0, va_rf l0), (2, .int l2)] [] := by
  intro f
  induction f with
  | zero =>
    intro l0 l2 M h
    exact absurd h (by simp [wX8_findArrivals_35])
  | succ f ih =>
    intro l0 l2 M h
    rw [wX8_findArrivals_35] at h
    refine q_iload_n (pc := 35) C 2 1 dX8_findArrivals_35 rfl rfl ?_
    refine q_bipush (pc := 36) C 72 dX8_findArrivals_36 (by decide) ?_
    refine q_icmp_ge (pc := 38) C 138 dX8_findArrivals_38 (by decide) (fun c1 => ?_) (fun c1 => ?_)
    · have h := h.1 c1
      exact q_vret (pc := 138) C hr hlocks h dX8_findArrivals_138 (by omega) (by omega)
    · have h := h.2 c1
      refine q_iconst (pc := 41) C 0 dX8_findArrivals_41 (by decide) ?_
      refine q_istore_n (pc := 42) C 3 [(3, .int 0), (0, va_rf l0), (2, .int l2)] dX8_findArrivals_42 rfl (by decide) (by first | rfl | simp [q_cat, q_catI, q_catJ, q_catR, q_catN]) ?_
      refine q_widen (k2 := 0) (n2 := 0) (by omega) (by omega) ?_
      refine q_lv [1, 2, 0] rfl ?_
      obtain ⟨f9, h⟩ := h
      exact tX8_findArrivals_43 C hr hlocks ih f9 _ _ _ _ h
set_option maxRecDepth 100000 in
set_option maxHeartbeats 4000000 in
theorem tX8_findArrivals_26 {p : Program} {l : Launch} {e : Env} {s : State} {m : MethodId} {args : Array Value} {below : List Frame} {meth : Method} {c : Code} {G : mG} {b0 : Nat} (C : m_C p s m args c cX8_findArrivals 5 RX8 wsX8_findArrivals G b0) (hr : meth.sig.returnType = none) (hlocks : meth.locks = false) {κ : mM → Prop} {R2 : Option Nat → Option Nat → Int32 → mM → Prop} (hR2 : ∀ (l0 : Option Nat) (l1 : Option Nat) (l2 : Int32) (M : mM), R2 l0 l1 l2 M → m_W p l e ({ frames := 3, cells := 0, slots := 0, locals := 64 } : Room) s m args below meth c G b0 (MQ below (va_Qv κ (m_B G b0) (fun q => b0 ≤ q)) args s 0 0 (fun q => b0 ≤ q)) 5 M 0 0 2 [(0, va_rf l0), (1, va_rf l1), (2, .int l2)] []) {l0 : Option Nat} {l1 : Option Nat} {l2 : Int32} {s0 : Int32} {s1 : Int32} {s2 : Option Nat} {M : mM} (h : wX8_findArrivals_26 κ R2 l0 l1 l2 s0 s1 s2 M) : m_W p l e ({ frames := 3, cells := 0, slots := 0, locals := 64 } : Room) s m args below meth c G b0 (MQ below (va_Qv κ (m_B G b0) (fun q => b0 ≤ q)) args s 0 0 (fun q => b0 ≤ q)) 5 M 0 0 26 [(0, va_rf l0), (1, va_rf l1), (2, .int l2)] [.int s0, .int s1, va_rf s2] := by
  unfold wX8_findArrivals_26 at h
  refine q_iast (pc := 26) C h dX8_findArrivals_26 (fun M1 h => ?_)
  refine q_iinc (pc := 27) C 2 2 (l2 + 1) [(2, .int (l2 + 1)), (0, va_rf l0), (1, va_rf l1)] dX8_findArrivals_27 rfl (by rfl) (by decide) (by first | rfl | simp [q_cat, q_catI, q_catJ, q_catR, q_catN]) ?_
  refine q_goto (pc := 30) C 2 dX8_findArrivals_30 (by decide) ?_
  refine q_widen (k2 := 0) (n2 := 0) (by omega) (by omega) ?_
  refine q_lv [1, 2, 0] rfl ?_
  exact hR2 _ _ _ _ h
set_option maxRecDepth 100000 in
set_option maxHeartbeats 4000000 in
theorem tX8_findArrivals_2 {p : Program} {l : Launch} {e : Env} {s : State} {m : MethodId} {args : Array Value} {below : List Frame} {meth : Method} {c : Code} {G : mG} {b0 : Nat} (C : m_C p s m args c cX8_findArrivals 5 RX8 wsX8_findArrivals G b0) (hr : meth.sig.returnType = none) (hlocks : meth.locks = false) {κ : mM → Prop} : ∀ (f : Nat) (l0 : Option Nat) (l1 : Option Nat) (l2 : Int32) (M : mM), wX8_findArrivals_2 κ f l0 l1 l2 M → m_W p l e ({ frames := 3, cells := 0, slots := 0, locals := 64 } : Room) s m args below meth c G b0 (MQ below (va_Qv κ (m_B G b0) (fun q => b0 ≤ q)) args s 0 0 (fun q => b0 ≤ q)) 5 M 0 0 2 [(0, va_rf l0), (1, va_rf l1), (2, .int l2)] [] := by
  intro f
  induction f with
  | zero =>
    intro l0 l1 l2 M h
    exact absurd h (by simp [wX8_findArrivals_2])
  | succ f ih =>
    intro l0 l1 l2 M h
    rw [wX8_findArrivals_2] at h
    refine q_iload_n (pc := 2) C 2 2 dX8_findArrivals_2 rfl rfl ?_
    refine q_bipush (pc := 3) C 6 dX8_findArrivals_3 (by decide) ?_
    refine q_icmp_ge (pc := 5) C 33 dX8_findArrivals_5 (by decide) (fun c1 => ?_) (fun c1 => ?_)
    · have h := h.1 c1
      refine q_iconst (pc := 33) C 0 dX8_findArrivals_33 (by decide) ?_
      refine q_istore_n (pc := 34) C 2 [(2, .int 0), (0, va_rf l0), (1, va_rf l1)] dX8_findArrivals_34 rfl (by decide) (by first | rfl | simp [q_cat, q_catI, q_catJ, q_catR, q_catN]) ?_
      refine q_widen (k2 := 0) (n2 := 0) (by omega) (by omega) ?_
      refine q_lv [1, 0] rfl ?_
      obtain ⟨f9, h⟩ := h
      exact tX8_findArrivals_35 C hr hlocks f9 _ _ _ h
    · have h := h.2 c1
      refine q_aload_n (pc := 8) C 0 0 dX8_findArrivals_8 rfl rfl ?_
      refine q_gR (pc := 9) C h (T := TX8) rfl (by decide) (wk_u rfl wm_X8_findArrivals uq_X8 (by decide +kernel)) (by decide +kernel) (fun _ h9 => h9) dX8_findArrivals_9 (fun x2 h => ?_)
      refine q_iload_n (pc := 12) C 2 2 dX8_findArrivals_12 rfl rfl ?_
      refine q_iload_n (pc := 13) C 2 2 dX8_findArrivals_13 rfl rfl ?_
      refine q_aload_n (pc := 14) C 1 1 dX8_findArrivals_14 rfl rfl ?_
      refine q_gI (pc := 15) C h (T := TX2) rfl (by decide) (wk_u rfl wm_X8_findArrivals uq_X2 (by decide +kernel)) (by decide +kernel) (fun _ h9 => h9) dX8_findArrivals_15 (fun x3 h => ?_)
      refine q_icmp_ne (pc := 18) C 25 dX8_findArrivals_18 (by decide) (fun c4 => ?_) (fun c4 => ?_)
      · have h := h.2 c4
        refine q_iconst (pc := 25) C (-1) dX8_findArrivals_25 (by decide) ?_
        refine q_widen (k2 := 0) (n2 := 0) (by omega) (by omega) ?_
        refine q_lv [0, 1, 2] rfl ?_
        exact tX8_findArrivals_26 C hr hlocks ih h
      · have h := h.1 c4
        refine q_iconst (pc := 21) C 0 dX8_findArrivals_21 (by decide) ?_
        refine q_goto (pc := 22) C 26 dX8_findArrivals_22 (by decide) ?_
        refine q_widen (k2 := 0) (n2 := 0) (by omega) (by omega) ?_
        refine q_lv [0, 1, 2] rfl ?_
        exact tX8_findArrivals_26 C hr hlocks ih h
set_option maxRecDepth 100000 in
set_option maxHeartbeats 4000000 in
theorem tX8_findArrivals {p : Program} {l : Launch} {e : Env} {s : State} {m : MethodId} {args : Array Value} {below : List Frame} {meth : Method} {c : Code} {G : mG} {b0 : Nat} (C : m_C p s m args c cX8_findArrivals 5 RX8 wsX8_findArrivals G b0) (hr : meth.sig.returnType = none) (hlocks : meth.locks = false) {κ : mM → Prop} {l0 : Option Nat} {l1 : Option Nat} {M : mM} (h : wX8_findArrivals κ l0 l1 M) : m_W p l e ({ frames := 3, cells := 0, slots := 0, locals := 64 } : Room) s m args below meth c G b0 (MQ below (va_Qv κ (m_B G b0) (fun q => b0 ≤ q)) args s 0 0 (fun q => b0 ≤ q)) 5 M 0 0 0 [(0, va_rf l0), (1, va_rf l1)] [] := by
  unfold wX8_findArrivals at h
  refine q_iconst (pc := 0) C 0 dX8_findArrivals_0 (by decide) ?_
  refine q_istore_n (pc := 1) C 2 [(2, .int 0), (0, va_rf l0), (1, va_rf l1)] dX8_findArrivals_1 rfl (by decide) (by first | rfl | simp [q_cat, q_catI, q_catJ, q_catR, q_catN]) ?_
  refine q_widen (k2 := 0) (n2 := 0) (by omega) (by omega) ?_
  refine q_lv [1, 2, 0] rfl ?_
  obtain ⟨f9, h⟩ := h
  exact tX8_findArrivals_2 C hr hlocks f9 _ _ _ _ h
set_option maxRecDepth 100000 in
set_option maxHeartbeats 4000000 in
theorem kX8_findArrivals (l : Launch) (G : mG) (b0 : Nat) {b : Nat} {l1 : Option Nat} {M : mM} {κ : mM → Prop} (h : wX8_findArrivals κ (some b) l1 M) : Met l yX8_findArrivals wsX8_findArrivals ({ frames := 3, cells := 0, slots := 0, locals := 64 } : Room) (va_Pc [.ref b, va_rf l1] (m_Pre G b0 M)) (va_Qv κ (m_B G b0) (fun q => b0 ≤ q)) 0 0 (fun q => b0 ≤ q) := by
  refine m_met (cc := cX8_findArrivals) (maxL := 5) (ret := none) (lv := [(0, va_rf (some b)), (1, va_rf l1)]) RX8 rfl (by decide +kernel) rfl (by first | exact Nat.le_of_ble_eq_true rfl | simp [lg_sl, q_cat, q_catI, q_catJ, q_catR, q_catN]) (by first | rfl | (simp [lv_args, q_cat, q_catI, q_catJ, q_catR, q_catN]; done) | (simp [lv_args, q_cat, q_catI, q_catJ, q_catR, q_catN]; rfl)) ?_
  intro p e s m args below meth c C hr hlocks hni
  exact tX8_findArrivals C hr hlocks h
/-! X8_way -/
set_option maxRecDepth 100000 in
set_option maxHeartbeats 4000000 in
theorem tX8_way {p : Program} {l : Launch} {e : Env} {s : State} {m : MethodId} {args : Array Value} {below : List Frame} {meth : Method} {c : Code} {G : mG} {b0 : Nat} (C : m_C p s m args c cX8_way 5 RX8 wsX8_way G b0) (hr : meth.sig.returnType = (some .int)) (hlocks : meth.locks = false) {t : Nat} (hL : l.stackTraces = false) (hx : ∀ x ∈ c.exceptionTable.toList, False) {κ : Int32 → mM → Prop} {ξ : String → mM → Prop} (ht : ∀ E M, ξ E M → 1 ≤ t) {l0 : Option Nat} {l1 : Int32} {l2 : Int32} {M : mM} (h : wX8_way κ ξ l0 l1 l2 M) : m_W p l e ({ frames := 7, cells := (0 + 2 * t), slots := (0 + 12 * t), locals := 111 } : Room) s m args below meth c G b0 (vx_MQ below (va_Qi κ (m_B G b0) (fun q => b0 ≤ q)) (m_X G b0 ξ) args s (0 + 2 * t) (0 + 12 * t) (fun q => b0 ≤ q)) 5 M 0 0 0 [(0, va_rf l0), (1, .int l1), (2, .int l2)] [] := by
  unfold wX8_way at h
  refine q_aload_n (pc := 0) C 0 0 dX8_way_0 rfl rfl ?_
  refine q_iload_n (pc := 1) C 1 1 dX8_way_1 rfl rfl ?_
  obtain ⟨b3, fs9, hb3, hm9, h⟩ := h
  refine q_cXq (pc := 2) (q_rVX C (st := []) (b := b3) (kX8_landNumbered l G b0 (t := t) hL ht h) (cwV 1 C.2.2.2.2.1 gX8_way_X8_landNumbered rfl rfl rfl (by decide +kernel) ⟨Nat.le_of_ble_eq_true rfl, Nat.le_of_ble_eq_true rfl⟩) hm9 rfl rfl rfl (by first | exact Nat.le_of_ble_eq_true rfl | (simp [q_cat, q_catI, q_catJ, q_catR, q_catN]; done)) (by rw [hb3]; first | done | rfl) dX8_way_2 ⟨(by first | omega | (dsimp only; omega)), (by first | omega | (dsimp only; omega))⟩) (fun E9 M9 h9 => q_out C hx hlocks h9 (by omega) (by omega)) (fun x1 M2 h => ?_)
  refine q_astore_n (pc := 5) C 3 [(3, va_rf x1), (0, va_rf l0), (1, .int l1), (2, .int l2)] dX8_way_5 rfl (by decide) (by first | rfl | simp [q_cat, q_catI, q_catJ, q_catR, q_catN]) ?_
  refine q_aload_n (pc := 6) C 0 1 dX8_way_6 rfl rfl ?_
  refine q_iload_n (pc := 7) C 2 3 dX8_way_7 rfl rfl ?_
  obtain ⟨b6, fs9, hb6, hm9, h⟩ := h
  refine q_cXq (pc := 8) (q_rVX C (st := []) (b := b6) (kX8_landNumbered l G b0 (t := t) hL ht h) (cwV 1 C.2.2.2.2.1 gX8_way_X8_landNumbered rfl rfl rfl (by decide +kernel) ⟨Nat.le_of_ble_eq_true rfl, Nat.le_of_ble_eq_true rfl⟩) hm9 rfl rfl rfl (by first | exact Nat.le_of_ble_eq_true rfl | (simp [q_cat, q_catI, q_catJ, q_catR, q_catN]; done)) (by rw [hb6]; first | done | rfl) dX8_way_8 ⟨(by first | omega | (dsimp only; omega)), (by first | omega | (dsimp only; omega))⟩) (fun E9 M9 h9 => q_out C hx hlocks h9 (by omega) (by omega)) (fun x4 M5 h => ?_)
  refine q_astore (pc := 11) C 4 [(4, va_rf x4), (3, va_rf x1), (0, va_rf l0), (1, .int l1), (2, .int l2)] dX8_way_11 (by decide) (by first | rfl | simp [q_cat, q_catI, q_catJ, q_catR, q_catN]) ?_
  refine q_aload_n (pc := 13) C 0 2 dX8_way_13 rfl rfl ?_
  refine q_aload_n (pc := 14) C 3 1 dX8_way_14 rfl rfl ?_
  obtain ⟨b8, fs9, hb8, hm9, h⟩ := h
  refine q_cv (pc := 15) (q_rV C (st := []) (b := b8) (kX8_findArrivals l G b0 h) (cwV 1 C.2.2.2.2.1 gX8_way_X8_findArrivals rfl rfl rfl (by decide +kernel) ⟨Nat.le_of_ble_eq_true rfl, Nat.le_of_ble_eq_true rfl⟩) hm9 rfl rfl rfl (by first | exact Nat.le_of_ble_eq_true rfl | (simp [q_cat, q_catI, q_catJ, q_catR, q_catN]; done)) (by rw [hb8]; first | done | rfl) dX8_way_15 ⟨(by first | omega | (dsimp only; omega)), (by first | omega | (dsimp only; omega))⟩) (fun M7 h => ?_)
  refine q_aload_n (pc := 18) C 0 2 dX8_way_18 rfl rfl ?_
  refine q_gR (pc := 19) C h (T := TX8) rfl (by decide) (wk_u rfl wm_X8_way uq_X8 (by decide +kernel)) (by decide +kernel) (fun _ h9 => h9) dX8_way_19 (fun x9 h => ?_)
  refine q_aload (pc := 22) C 4 0 dX8_way_22 rfl ?_
  refine q_gI (pc := 24) C h (T := TX2) rfl (by decide) (wk_u rfl wm_X8_way uq_X2 (by decide +kernel)) (by decide +kernel) (fun _ h9 => h9) dX8_way_24 (fun x10 h => ?_)
  refine q_iald (pc := 27) C h dX8_way_27 (fun x11 h => ?_)
  exact q_iretX (pc := 28) C hr hlocks h dX8_way_28 (by omega) (by omega)
set_option maxRecDepth 100000 in
set_option maxHeartbeats 4000000 in
theorem kX8_way (l : Launch) (G : mG) (b0 : Nat) {t : Nat} (hL : l.stackTraces = false) {b : Nat} {l1 : Int32} {l2 : Int32} {M : mM} {κ : Int32 → mM → Prop} {ξ : String → mM → Prop} (ht : ∀ E M, ξ E M → 1 ≤ t) (h : wX8_way κ ξ (some b) l1 l2 M) : vx_Met l yX8_way wsX8_way ({ frames := 7, cells := (0 + 2 * t), slots := (0 + 12 * t), locals := 111 } : Room) (va_Pc [.ref b, .int l1, .int l2] (m_Pre G b0 M)) (va_Qi κ (m_B G b0) (fun q => b0 ≤ q)) (m_X G b0 ξ) (0 + 2 * t) (0 + 12 * t) (fun q => b0 ≤ q) := by
  refine m_metX (cc := cX8_way) (maxL := 5) (ret := (some .int)) (lv := [(0, va_rf (some b)), (1, .int l1), (2, .int l2)]) RX8 rfl (by decide +kernel) rfl (by first | exact Nat.le_of_ble_eq_true rfl | simp [lg_sl, q_cat, q_catI, q_catJ, q_catR, q_catN]) (by first | rfl | (simp [lv_args, q_cat, q_catI, q_catJ, q_catR, q_catN]; done) | (simp [lv_args, q_cat, q_catI, q_catJ, q_catR, q_catN]; rfl)) ?_
  intro p e s m args below meth c C hr hlocks hx
  exact tX8_way C hr hlocks hL hx ht h
/-! X8_catchOf -/
set_option maxRecDepth 100000 in
set_option maxHeartbeats 4000000 in
theorem tX8_catchOf {p : Program} {l : Launch} {e : Env} {s : State} {m : MethodId} {args : Array Value} {below : List Frame} {meth : Method} {c : Code} {G : mG} {b0 : Nat} (C : m_C p s m args c cX8_catchOf 2 RX8 wsX8_catchOf G b0) (hr : meth.sig.returnType = (some .int)) (hlocks : meth.locks = false) {κ : Int32 → mM → Prop} {l0 : Int32} {l1 : Int32} {M : mM} (h : wX8_catchOf κ l0 l1 M) : m_W p l e ({ frames := 0, cells := 0, slots := 0, locals := 0 } : Room) s m args below meth c G b0 (MQ below (va_Qi κ (m_B G b0) (fun q => b0 ≤ q)) args s 0 0 (fun q => b0 ≤ q)) 2 M 0 0 0 [(0, .int l0), (1, .int l1)] [] := by
  unfold wX8_catchOf at h
  refine q_iload_n (pc := 0) C 0 0 dX8_catchOf_0 rfl rfl ?_
  refine q_iload_n (pc := 1) C 1 1 dX8_catchOf_1 rfl rfl ?_
  refine q_imul (pc := 2) C dX8_catchOf_2 ?_
  refine q_bipush (pc := 3) C 10 dX8_catchOf_3 (by decide) ?_
  refine q_idiv (pc := 5) C dX8_catchOf_5 (by decide) ?_
  exact q_iret (pc := 6) C hr hlocks h dX8_catchOf_6 (by omega) (by omega)
set_option maxRecDepth 100000 in
set_option maxHeartbeats 4000000 in
theorem kX8_catchOf (l : Launch) (G : mG) (b0 : Nat) {l0 : Int32} {l1 : Int32} {M : mM} {κ : Int32 → mM → Prop} (h : wX8_catchOf κ l0 l1 M) : Met l yX8_catchOf wsX8_catchOf ({ frames := 0, cells := 0, slots := 0, locals := 0 } : Room) (va_Pc [.int l0, .int l1] (m_Pre G b0 M)) (va_Qi κ (m_B G b0) (fun q => b0 ≤ q)) 0 0 (fun q => b0 ≤ q) := by
  refine m_met (cc := cX8_catchOf) (maxL := 2) (ret := (some .int)) (lv := [(0, .int l0), (1, .int l1)]) RX8 rfl (by decide +kernel) rfl (by first | exact Nat.le_of_ble_eq_true rfl | simp [lg_sl, q_cat, q_catI, q_catJ, q_catR, q_catN]) (by first | rfl | (simp [lv_args, q_cat, q_catI, q_catJ, q_catR, q_catN]; done) | (simp [lv_args, q_cat, q_catI, q_catJ, q_catR, q_catN]; rfl)) ?_
  intro p e s m args below meth c C hr hlocks hni
  exact tX8_catchOf C hr hlocks h
/-! X8_mostCaughtFrom -/
set_option maxRecDepth 100000 in
set_option maxHeartbeats 4000000 in
theorem tX8_mostCaughtFrom_35 {p : Program} {l : Launch} {e : Env} {s : State} {m : MethodId} {args : Array Value} {below : List Frame} {meth : Method} {c : Code} {G : mG} {b0 : Nat} (C : m_C p s m args c cX8_mostCaughtFrom 8 RX8 wsX8_mostCaughtFrom G b0) (hr : meth.sig.returnType = (some .int)) (hlocks : meth.locks = false) {κ : Int32 → mM → Prop} : ∀ (f : Nat) (l2 : Int32) (l3 : Int32) (l4 : Option Nat) (l5 : Int32) (l6 : Int32) (l7 : Int32) (M : mM), wX8_mostCaughtFrom_35 κ f l2 l3 l4 l5 l6 l7 M → m_W p l e ({ frames := 1, cells := 0, slots := 0, locals := 40 } : Room) s m args below meth c G b0 (MQ below (va_Qi κ (m_B G b0) (fun q => b0 ≤ q)) args s 0 0 (fun q => b0 ≤ q)) 8 M 0 0 35 [(2, .int l2), (3, .int l3), (4, va_rf l4), (5, .int l5), (6, .int l6), (7, .int l7)] [] := by
  intro f
  induction f with
  | zero =>
    intro l2 l3 l4 l5 l6 l7 M h
    exact absurd h (by simp [wX8_mostCaughtFrom_35])
  | succ f ih =>
    intro l2 l3 l4 l5 l6 l7 M h
    rw [wX8_mostCaughtFrom_35] at h
    refine q_iload (pc := 35) C 7 5 dX8_mostCaughtFrom_35 rfl ?_
    refine q_iload (pc := 37) C 6 4 dX8_mostCaughtFrom_37 rfl ?_
    refine q_icmp_gt (pc := 39) C 69 dX8_mostCaughtFrom_39 (by decide) (fun c1 => ?_) (fun c1 => ?_)
    · have h := h.1 c1
      refine q_iload (pc := 69) C 5 3 dX8_mostCaughtFrom_69 rfl ?_
      exact q_iret (pc := 71) C hr hlocks h dX8_mostCaughtFrom_71 (by omega) (by omega)
    · have h := h.2 c1
      refine q_iload (pc := 42) C 5 3 dX8_mostCaughtFrom_42 rfl ?_
      refine q_aload (pc := 44) C 4 2 dX8_mostCaughtFrom_44 rfl ?_
      refine q_iload_n (pc := 46) C 3 1 dX8_mostCaughtFrom_46 rfl rfl ?_
      refine q_iload (pc := 47) C 7 5 dX8_mostCaughtFrom_47 rfl ?_
      refine q_isub (pc := 49) C dX8_mostCaughtFrom_49 ?_
      refine q_iald (pc := 50) C h dX8_mostCaughtFrom_50 (fun x2 h => ?_)
      refine q_iload_n (pc := 51) C 2 0 dX8_mostCaughtFrom_51 rfl rfl ?_
      refine q_iload (pc := 52) C 7 5 dX8_mostCaughtFrom_52 rfl ?_
      refine q_ci (pc := 54) (q_rS C (st := [.int x2, .int l5]) (kX8_catchOf l G b0 h) (va_cwS 2 C.2.2.2.2.1 gX8_mostCaughtFrom_X8_catchOf rfl rfl rfl (by decide +kernel) ⟨Nat.le_of_ble_eq_true rfl, Nat.le_of_ble_eq_true rfl⟩) rfl (by first | exact Nat.le_of_ble_eq_true rfl | (simp [q_cat, q_catI, q_catJ, q_catR, q_catN]; done)) rfl dX8_mostCaughtFrom_54 ⟨(by first | omega | (dsimp only; omega)), (by first | omega | (dsimp only; omega))⟩) (fun x3 M4 h => ?_)
      refine q_iadd (pc := 57) C dX8_mostCaughtFrom_57 ?_
      refine q_mmax (pc := 58) C (by decide +kernel) (by decide +kernel) (by decide +kernel) (by decide +kernel) (Nat.le_of_ble_eq_true rfl) (by first | exact Nat.le_of_ble_eq_true rfl | (simp [q_cat, q_catI, q_catJ, q_catR, q_catN]; done) | (simp [q_cat, q_catI, q_catJ, q_catR, q_catN]; decide)) (by first | omega | (dsimp only; omega)) (by first | omega | (dsimp only; omega)) dX8_mostCaughtFrom_58 ?_
      refine m_stk (st2 := .int (m_max l5 (x2 + x3)) :: _) rfl ?_
      refine q_istore (pc := 61) C 5 [(5, .int (m_max l5 (x2 + x3))), (2, .int l2), (3, .int l3), (4, va_rf l4), (6, .int l6), (7, .int l7)] dX8_mostCaughtFrom_61 (by decide) (by first | rfl | simp [q_cat, q_catI, q_catJ, q_catR, q_catN]) ?_
      refine q_iinc (pc := 63) C 7 5 (l7 + 1) [(7, .int (l7 + 1)), (5, .int (m_max l5 (x2 + x3))), (2, .int l2), (3, .int l3), (4, va_rf l4), (6, .int l6)] dX8_mostCaughtFrom_63 rfl (by rfl) (by decide) (by first | rfl | simp [q_cat, q_catI, q_catJ, q_catR, q_catN]) ?_
      refine q_goto (pc := 66) C 35 dX8_mostCaughtFrom_66 (by decide) ?_
      refine q_widen (k2 := 0) (n2 := 0) (by omega) (by omega) ?_
      refine q_lv [2, 3, 4, 1, 5, 0] rfl ?_
      exact ih _ _ _ _ _ _ _ h
set_option maxRecDepth 100000 in
set_option maxHeartbeats 4000000 in
theorem tX8_mostCaughtFrom_30 {p : Program} {l : Launch} {e : Env} {s : State} {m : MethodId} {args : Array Value} {below : List Frame} {meth : Method} {c : Code} {G : mG} {b0 : Nat} (C : m_C p s m args c cX8_mostCaughtFrom 8 RX8 wsX8_mostCaughtFrom G b0) (hr : meth.sig.returnType = (some .int)) (hlocks : meth.locks = false) {κ : Int32 → mM → Prop} {l2 : Int32} {l3 : Int32} {l4 : Option Nat} {l5 : Int32} {s0 : Int32} {M : mM} (h : wX8_mostCaughtFrom_30 κ l2 l3 l4 l5 s0 M) : m_W p l e ({ frames := 1, cells := 0, slots := 0, locals := 40 } : Room) s m args below meth c G b0 (MQ below (va_Qi κ (m_B G b0) (fun q => b0 ≤ q)) args s 0 0 (fun q => b0 ≤ q)) 8 M 0 0 30 [(2, .int l2), (3, .int l3), (4, va_rf l4), (5, .int l5)] [.int s0] := by
  unfold wX8_mostCaughtFrom_30 at h
  refine q_istore (pc := 30) C 6 [(6, .int s0), (2, .int l2), (3, .int l3), (4, va_rf l4), (5, .int l5)] dX8_mostCaughtFrom_30 (by decide) (by first | rfl | simp [q_cat, q_catI, q_catJ, q_catR, q_catN]) ?_
  refine q_iconst (pc := 32) C 1 dX8_mostCaughtFrom_32 (by decide) ?_
  refine q_istore (pc := 33) C 7 [(7, .int 1), (6, .int s0), (2, .int l2), (3, .int l3), (4, va_rf l4), (5, .int l5)] dX8_mostCaughtFrom_33 (by decide) (by first | rfl | simp [q_cat, q_catI, q_catJ, q_catR, q_catN]) ?_
  refine q_widen (k2 := 0) (n2 := 0) (by omega) (by omega) ?_
  refine q_lv [2, 3, 4, 5, 1, 0] rfl ?_
  obtain ⟨f9, h⟩ := h
  exact tX8_mostCaughtFrom_35 C hr hlocks f9 _ _ _ _ _ _ _ h
set_option maxRecDepth 100000 in
set_option maxHeartbeats 4000000 in
theorem tX8_mostCaughtFrom {p : Program} {l : Launch} {e : Env} {s : State} {m : MethodId} {args : Array Value} {below : List Frame} {meth : Method} {c : Code} {G : mG} {b0 : Nat} (C : m_C p s m args c cX8_mostCaughtFrom 8 RX8 wsX8_mostCaughtFrom G b0) (hr : meth.sig.returnType = (some .int)) (hlocks : meth.locks = false) {κ : Int32 → mM → Prop} {l0 : Option Nat} {l1 : Int32} {l2 : Int32} {l3 : Int32} {M : mM} (h : wX8_mostCaughtFrom κ l0 l1 l2 l3 M) : m_W p l e ({ frames := 1, cells := 0, slots := 0, locals := 40 } : Room) s m args below meth c G b0 (MQ below (va_Qi κ (m_B G b0) (fun q => b0 ≤ q)) args s 0 0 (fun q => b0 ≤ q)) 8 M 0 0 0 [(0, va_rf l0), (1, .int l1), (2, .int l2), (3, .int l3)] [] := by
  unfold wX8_mostCaughtFrom at h
  refine q_aload_n (pc := 0) C 0 0 dX8_mostCaughtFrom_0 rfl rfl ?_
  refine q_gR (pc := 1) C h (T := TX8) rfl (by decide) (wk_u rfl wm_X8_mostCaughtFrom uq_X8 (by decide +kernel)) (by decide +kernel) (fun _ h9 => h9) dX8_mostCaughtFrom_1 (fun x1 h => ?_)
  refine q_iload_n (pc := 4) C 1 1 dX8_mostCaughtFrom_4 rfl rfl ?_
  refine q_iconst (pc := 5) C 1 dX8_mostCaughtFrom_5 (by decide) ?_
  refine q_iadd (pc := 6) C dX8_mostCaughtFrom_6 ?_
  refine q_aaldA (pc := 7) C h dX8_mostCaughtFrom_7 (fun x2 h => ?_)
  refine q_astore (pc := 8) C 4 [(4, va_rf x2), (0, va_rf l0), (1, .int l1), (2, .int l2), (3, .int l3)] dX8_mostCaughtFrom_8 (by decide) (by first | rfl | simp [q_cat, q_catI, q_catJ, q_catR, q_catN]) ?_
  refine q_aload (pc := 10) C 4 0 dX8_mostCaughtFrom_10 rfl ?_
  refine q_iload_n (pc := 12) C 3 4 dX8_mostCaughtFrom_12 rfl rfl ?_
  refine q_iald (pc := 13) C h dX8_mostCaughtFrom_13 (fun x3 h => ?_)
  refine q_istore (pc := 14) C 5 [(5, .int x3), (4, va_rf x2), (0, va_rf l0), (1, .int l1), (2, .int l2), (3, .int l3)] dX8_mostCaughtFrom_14 (by decide) (by first | rfl | simp [q_cat, q_catI, q_catJ, q_catR, q_catN]) ?_
  refine q_iload_n (pc := 16) C 2 4 dX8_mostCaughtFrom_16 rfl rfl ?_
  refine q_if_ne (pc := 17) C 24 dX8_mostCaughtFrom_17 (by decide) (fun c4 => ?_) (fun c4 => ?_)
  · have h := h.2 c4
    refine q_iload_n (pc := 24) C 3 5 dX8_mostCaughtFrom_24 rfl rfl ?_
    refine q_bipush (pc := 25) C 10 dX8_mostCaughtFrom_25 (by decide) ?_
    refine q_mmin (pc := 27) C (by decide +kernel) (by decide +kernel) (by decide +kernel) (by decide +kernel) (Nat.le_of_ble_eq_true rfl) (by first | exact Nat.le_of_ble_eq_true rfl | (simp [q_cat, q_catI, q_catJ, q_catR, q_catN]; done) | (simp [q_cat, q_catI, q_catJ, q_catR, q_catN]; decide)) (by first | omega | (dsimp only; omega)) (by first | omega | (dsimp only; omega)) dX8_mostCaughtFrom_27 ?_
    refine m_stk (st2 := .int (m_min l3 10) :: _) rfl ?_
    refine q_widen (k2 := 0) (n2 := 0) (by omega) (by omega) ?_
    refine q_lv [4, 5, 1, 0] rfl ?_
    exact tX8_mostCaughtFrom_30 C hr hlocks h
  · have h := h.1 c4
    refine q_iconst (pc := 20) C 0 dX8_mostCaughtFrom_20 (by decide) ?_
    refine q_goto (pc := 21) C 30 dX8_mostCaughtFrom_21 (by decide) ?_
    refine q_widen (k2 := 0) (n2 := 0) (by omega) (by omega) ?_
    refine q_lv [4, 5, 1, 0] rfl ?_
    exact tX8_mostCaughtFrom_30 C hr hlocks h
set_option maxRecDepth 100000 in
set_option maxHeartbeats 4000000 in
theorem kX8_mostCaughtFrom (l : Launch) (G : mG) (b0 : Nat) {b : Nat} {l1 : Int32} {l2 : Int32} {l3 : Int32} {M : mM} {κ : Int32 → mM → Prop} (h : wX8_mostCaughtFrom κ (some b) l1 l2 l3 M) : Met l yX8_mostCaughtFrom wsX8_mostCaughtFrom ({ frames := 1, cells := 0, slots := 0, locals := 40 } : Room) (va_Pc [.ref b, .int l1, .int l2, .int l3] (m_Pre G b0 M)) (va_Qi κ (m_B G b0) (fun q => b0 ≤ q)) 0 0 (fun q => b0 ≤ q) := by
  refine m_met (cc := cX8_mostCaughtFrom) (maxL := 8) (ret := (some .int)) (lv := [(0, va_rf (some b)), (1, .int l1), (2, .int l2), (3, .int l3)]) RX8 rfl (by decide +kernel) rfl (by first | exact Nat.le_of_ble_eq_true rfl | simp [lg_sl, q_cat, q_catI, q_catJ, q_catR, q_catN]) (by first | rfl | (simp [lv_args, q_cat, q_catI, q_catJ, q_catR, q_catN]; done) | (simp [lv_args, q_cat, q_catI, q_catJ, q_catR, q_catN]; rfl)) ?_
  intro p e s m args below meth c C hr hlocks hni
  exact tX8_mostCaughtFrom C hr hlocks h
/-! X8_findMostCaught -/
set_option maxRecDepth 100000 in
set_option maxHeartbeats 4000000 in
theorem tX8_findMostCaught_63 {p : Program} {l : Launch} {e : Env} {s : State} {m : MethodId} {args : Array Value} {below : List Frame} {meth : Method} {c : Code} {G : mG} {b0 : Nat} (C : m_C p s m args c cX8_findMostCaught 5 RX8 wsX8_findMostCaught G b0) (hr : meth.sig.returnType = none) (hlocks : meth.locks = false) {κ : mM → Prop} {R40 : Option Nat → Int32 → mM → Prop} (hR40 : ∀ (l0 : Option Nat) (l2 : Int32) (M : mM), R40 l0 l2 M → m_W p l e ({ frames := 4, cells := 0, slots := 0, locals := 88 } : Room) s m args below meth c G b0 (MQ below (va_Qv κ (m_B G b0) (fun q => b0 ≤ q)) args s 0 0 (fun q => b0 ≤ q)) 5 M 0 0 40 [(0, va_rf l0), (2, .int l2)] []) : ∀ (f : Nat) (l0 : Option Nat) (l2 : Int32) (l3 : Int32) (l4 : Int32) (M : mM), wX8_findMostCaught_63 κ R40 f l0 l2 l3 l4 M → m_W p l e ({ frames := 4, cells := 0, slots := 0, locals := 88 } : Room) s m args below meth c G b0 (MQ below (va_Qv κ (m_B G b0) (fun q => b0 ≤ q)) args s 0 0 (fun q => b0 ≤ q)) 5 M 0 0 63 [(0, va_rf l0), (2, .int l2), (3, .int l3), (4, .int l4)] [] := by
  intro f
  induction f with
  | zero =>
    intro l0 l2 l3 l4 M h
    exact absurd h (by simp [wX8_findMostCaught_63])
  | succ f ih =>
    intro l0 l2 l3 l4 M h
    rw [wX8_findMostCaught_63] at h
    refine q_iload (pc := 63) C 4 3 dX8_findMostCaught_63 rfl ?_
    refine q_aload_n (pc := 65) C 0 0 dX8_findMostCaught_65 rfl rfl ?_
    refine q_gR (pc := 66) C h (T := TX8) rfl (by decide) (wk_u rfl wm_X8_findMostCaught uq_X8 (by decide +kernel)) (by decide +kernel) (fun _ h9 => h9) dX8_findMostCaught_66 (fun x1 h => ?_)
    refine q_iload_n (pc := 69) C 2 1 dX8_findMostCaught_69 rfl rfl ?_
    refine q_aaldA (pc := 70) C h dX8_findMostCaught_70 (fun x2 h => ?_)
    refine q_len (pc := 71) C h dX8_findMostCaught_71 (fun x3 h => ?_)
    refine q_icmp_ge (pc := 72) C 98 dX8_findMostCaught_72 (by decide) (fun c4 => ?_) (fun c4 => ?_)
    · have h := h.1 c4
      refine q_iinc (pc := 98) C 2 1 (l2 + (-1)) [(2, .int (l2 + (-1))), (0, va_rf l0), (3, .int l3), (4, .int l4)] dX8_findMostCaught_98 rfl (by rfl) (by decide) (by first | rfl | simp [q_cat, q_catI, q_catJ, q_catR, q_catN]) ?_
      refine q_goto (pc := 101) C 40 dX8_findMostCaught_101 (by decide) ?_
      refine q_widen (k2 := 0) (n2 := 0) (by omega) (by omega) ?_
      refine q_lv [1, 0] rfl ?_
      exact hR40 _ _ _ h
    · have h := h.2 c4
      refine q_aload_n (pc := 75) C 0 0 dX8_findMostCaught_75 rfl rfl ?_
      refine q_gR (pc := 76) C h (T := TX8) rfl (by decide) (wk_u rfl wm_X8_findMostCaught uq_X8 (by decide +kernel)) (by decide +kernel) (fun _ h9 => h9) dX8_findMostCaught_76 (fun x5 h => ?_)
      refine q_iload_n (pc := 79) C 2 1 dX8_findMostCaught_79 rfl rfl ?_
      refine q_aaldA (pc := 80) C h dX8_findMostCaught_80 (fun x6 h => ?_)
      refine q_iload (pc := 81) C 4 3 dX8_findMostCaught_81 rfl ?_
      refine q_aload_n (pc := 83) C 0 0 dX8_findMostCaught_83 rfl rfl ?_
      refine q_iload_n (pc := 84) C 2 1 dX8_findMostCaught_84 rfl rfl ?_
      refine q_iload_n (pc := 85) C 3 2 dX8_findMostCaught_85 rfl rfl ?_
      refine q_iload (pc := 86) C 4 3 dX8_findMostCaught_86 rfl ?_
      obtain ⟨b9, fs9, hb9, hm9, h⟩ := h
      refine q_ci (pc := 88) (q_rV C (st := [.int l4, va_rf x6]) (b := b9) (kX8_mostCaughtFrom l G b0 h) (cwV 3 C.2.2.2.2.1 gX8_findMostCaught_X8_mostCaughtFrom rfl rfl rfl (by decide +kernel) ⟨Nat.le_of_ble_eq_true rfl, Nat.le_of_ble_eq_true rfl⟩) hm9 rfl rfl rfl (by first | exact Nat.le_of_ble_eq_true rfl | (simp [q_cat, q_catI, q_catJ, q_catR, q_catN]; done)) (by rw [hb9]; first | done | rfl) dX8_findMostCaught_88 ⟨(by first | omega | (dsimp only; omega)), (by first | omega | (dsimp only; omega))⟩) (fun x7 M8 h => ?_)
      refine q_iast (pc := 91) C h dX8_findMostCaught_91 (fun M10 h => ?_)
      refine q_iinc (pc := 92) C 4 3 (l4 + 1) [(4, .int (l4 + 1)), (0, va_rf l0), (2, .int l2), (3, .int l3)] dX8_findMostCaught_92 rfl (by rfl) (by decide) (by first | rfl | simp [q_cat, q_catI, q_catJ, q_catR, q_catN]) ?_
      refine q_goto (pc := 95) C 63 dX8_findMostCaught_95 (by decide) ?_
      refine q_widen (k2 := 0) (n2 := 0) (by omega) (by omega) ?_
      refine q_lv [1, 2, 3, 0] rfl ?_
      exact ih _ _ _ _ _ h
set_option maxRecDepth 100000 in
set_option maxHeartbeats 4000000 in
theorem tX8_findMostCaught_40 {p : Program} {l : Launch} {e : Env} {s : State} {m : MethodId} {args : Array Value} {below : List Frame} {meth : Method} {c : Code} {G : mG} {b0 : Nat} (C : m_C p s m args c cX8_findMostCaught 5 RX8 wsX8_findMostCaught G b0) (hr : meth.sig.returnType = none) (hlocks : meth.locks = false) {κ : mM → Prop} : ∀ (f : Nat) (l0 : Option Nat) (l2 : Int32) (M : mM), wX8_findMostCaught_40 κ f l0 l2 M → m_W p l e ({ frames := 4, cells := 0, slots := 0, locals := 88 } : Room) s m args below meth c G b0 (MQ below (va_Qv κ (m_B G b0) (fun q => b0 ≤ q)) args s 0 0 (fun q => b0 ≤ q)) 5 M 0 0 40 [(0, va_rf l0), (2, .int l2)] [] := by
  intro f
  induction f with
  | zero =>
    intro l0 l2 M h
    exact absurd h (by simp [wX8_findMostCaught_40])
  | succ f ih =>
    intro l0 l2 M h
    rw [wX8_findMostCaught_40] at h
    refine q_iload_n (pc := 40) C 2 1 dX8_findMostCaught_40 rfl rfl ?_
    refine q_if_lt (pc := 41) C 104 dX8_findMostCaught_41 (by decide) (fun c1 => ?_) (fun c1 => ?_)
    · have h := h.1 c1
      exact q_vret (pc := 104) C hr hlocks h dX8_findMostCaught_104 (by omega) (by omega)
    · have h := h.2 c1
      refine q_aload_n (pc := 44) C 0 0 dX8_findMostCaught_44 rfl rfl ?_
      refine q_aload_n (pc := 45) C 0 0 dX8_findMostCaught_45 rfl rfl ?_
      refine q_gR (pc := 46) C h (T := TX8) rfl (by decide) (wk_u rfl wm_X8_findMostCaught uq_X8 (by decide +kernel)) (by decide +kernel) (fun _ h9 => h9) dX8_findMostCaught_46 (fun x2 h => ?_)
      refine q_iload_n (pc := 49) C 2 1 dX8_findMostCaught_49 rfl rfl ?_
      obtain ⟨b5, fs9, hb5, hm9, h⟩ := h
      refine q_cq (pc := 50) (q_rV C (st := [va_rf l0]) (b := b5) (kJx4a65c_get_915e3 l G b0 h) (cwV 1 C.2.2.2.2.1 gX8_findMostCaught_Jx4a65c_get_915e3 rfl rfl rfl (by decide +kernel) ⟨Nat.le_of_ble_eq_true rfl, Nat.le_of_ble_eq_true rfl⟩) hm9 rfl rfl rfl (by first | exact Nat.le_of_ble_eq_true rfl | (simp [q_cat, q_catI, q_catJ, q_catR, q_catN]; done)) (by rw [hb5]; first | done | rfl) dX8_findMostCaught_50 ⟨(by first | omega | (dsimp only; omega)), (by first | omega | (dsimp only; omega))⟩) (fun x3 M4 h => ?_)
      refine q_cast (pc := 53) C h rfl rfl (by decide +kernel) dX8_findMostCaught_53 (fun h => ?_)
      obtain ⟨b8, fs9, hb8, hm9, h⟩ := h
      refine q_ci (pc := 56) (q_rV C (st := []) (b := b8) (kX8_hiddenWorth l G b0 h) (cwV 1 C.2.2.2.2.1 gX8_findMostCaught_X8_hiddenWorth rfl rfl rfl (by decide +kernel) ⟨Nat.le_of_ble_eq_true rfl, Nat.le_of_ble_eq_true rfl⟩) hm9 rfl rfl rfl (by first | exact Nat.le_of_ble_eq_true rfl | (simp [q_cat, q_catI, q_catJ, q_catR, q_catN]; done)) (by rw [hb8]; first | done | rfl) dX8_findMostCaught_56 ⟨(by first | omega | (dsimp only; omega)), (by first | omega | (dsimp only; omega))⟩) (fun x6 M7 h => ?_)
      refine q_istore_n (pc := 59) C 3 [(3, .int x6), (0, va_rf l0), (2, .int l2)] dX8_findMostCaught_59 rfl (by decide) (by first | rfl | simp [q_cat, q_catI, q_catJ, q_catR, q_catN]) ?_
      refine q_iconst (pc := 60) C 0 dX8_findMostCaught_60 (by decide) ?_
      refine q_istore (pc := 61) C 4 [(4, .int 0), (3, .int x6), (0, va_rf l0), (2, .int l2)] dX8_findMostCaught_61 (by decide) (by first | rfl | simp [q_cat, q_catI, q_catJ, q_catR, q_catN]) ?_
      refine q_widen (k2 := 0) (n2 := 0) (by omega) (by omega) ?_
      refine q_lv [2, 3, 1, 0] rfl ?_
      obtain ⟨f9, h⟩ := h
      exact tX8_findMostCaught_63 C hr hlocks ih f9 _ _ _ _ _ h
set_option maxRecDepth 100000 in
set_option maxHeartbeats 4000000 in
theorem tX8_findMostCaught_10 {p : Program} {l : Launch} {e : Env} {s : State} {m : MethodId} {args : Array Value} {below : List Frame} {meth : Method} {c : Code} {G : mG} {b0 : Nat} (C : m_C p s m args c cX8_findMostCaught 5 RX8 wsX8_findMostCaught G b0) (hr : meth.sig.returnType = none) (hlocks : meth.locks = false) {κ : mM → Prop} : ∀ (f : Nat) (l0 : Option Nat) (l1 : Int32) (l2 : Int32) (M : mM), wX8_findMostCaught_10 κ f l0 l1 l2 M → m_W p l e ({ frames := 4, cells := 0, slots := 0, locals := 88 } : Room) s m args below meth c G b0 (MQ below (va_Qv κ (m_B G b0) (fun q => b0 ≤ q)) args s 0 0 (fun q => b0 ≤ q)) 5 M 0 0 10 [(0, va_rf l0), (1, .int l1), (2, .int l2)] [] := by
  intro f
  induction f with
  | zero =>
    intro l0 l1 l2 M h
    exact absurd h (by simp [wX8_findMostCaught_10])
  | succ f ih =>
    intro l0 l1 l2 M h
    rw [wX8_findMostCaught_10] at h
    refine q_iload_n (pc := 10) C 2 2 dX8_findMostCaught_10 rfl rfl ?_
    refine q_aload_n (pc := 11) C 0 0 dX8_findMostCaught_11 rfl rfl ?_
    refine q_gR (pc := 12) C h (T := TX8) rfl (by decide) (wk_u rfl wm_X8_findMostCaught uq_X8 (by decide +kernel)) (by decide +kernel) (fun _ h9 => h9) dX8_findMostCaught_12 (fun x1 h => ?_)
    refine q_iload_n (pc := 15) C 1 1 dX8_findMostCaught_15 rfl rfl ?_
    refine q_aaldA (pc := 16) C h dX8_findMostCaught_16 (fun x2 h => ?_)
    refine q_len (pc := 17) C h dX8_findMostCaught_17 (fun x3 h => ?_)
    refine q_icmp_ge (pc := 18) C 36 dX8_findMostCaught_18 (by decide) (fun c4 => ?_) (fun c4 => ?_)
    · have h := h.1 c4
      refine q_iload_n (pc := 36) C 1 1 dX8_findMostCaught_36 rfl rfl ?_
      refine q_iconst (pc := 37) C 1 dX8_findMostCaught_37 (by decide) ?_
      refine q_isub (pc := 38) C dX8_findMostCaught_38 ?_
      refine q_istore_n (pc := 39) C 2 [(2, .int (l1 - 1)), (0, va_rf l0), (1, .int l1)] dX8_findMostCaught_39 rfl (by decide) (by first | rfl | simp [q_cat, q_catI, q_catJ, q_catR, q_catN]) ?_
      refine q_widen (k2 := 0) (n2 := 0) (by omega) (by omega) ?_
      refine q_lv [1, 0] rfl ?_
      obtain ⟨f9, h⟩ := h
      exact tX8_findMostCaught_40 C hr hlocks f9 _ _ _ h
    · have h := h.2 c4
      refine q_aload_n (pc := 21) C 0 0 dX8_findMostCaught_21 rfl rfl ?_
      refine q_gR (pc := 22) C h (T := TX8) rfl (by decide) (wk_u rfl wm_X8_findMostCaught uq_X8 (by decide +kernel)) (by decide +kernel) (fun _ h9 => h9) dX8_findMostCaught_22 (fun x5 h => ?_)
      refine q_iload_n (pc := 25) C 1 1 dX8_findMostCaught_25 rfl rfl ?_
      refine q_aaldA (pc := 26) C h dX8_findMostCaught_26 (fun x6 h => ?_)
      refine q_iload_n (pc := 27) C 2 2 dX8_findMostCaught_27 rfl rfl ?_
      refine q_iconst (pc := 28) C 0 dX8_findMostCaught_28 (by decide) ?_
      refine q_iast (pc := 29) C h dX8_findMostCaught_29 (fun M7 h => ?_)
      refine q_iinc (pc := 30) C 2 2 (l2 + 1) [(2, .int (l2 + 1)), (0, va_rf l0), (1, .int l1)] dX8_findMostCaught_30 rfl (by rfl) (by decide) (by first | rfl | simp [q_cat, q_catI, q_catJ, q_catR, q_catN]) ?_
      refine q_goto (pc := 33) C 10 dX8_findMostCaught_33 (by decide) ?_
      refine q_widen (k2 := 0) (n2 := 0) (by omega) (by omega) ?_
      refine q_lv [1, 2, 0] rfl ?_
      exact ih _ _ _ _ h
set_option maxRecDepth 100000 in
set_option maxHeartbeats 4000000 in
theorem tX8_findMostCaught {p : Program} {l : Launch} {e : Env} {s : State} {m : MethodId} {args : Array Value} {below : List Frame} {meth : Method} {c : Code} {G : mG} {b0 : Nat} (C : m_C p s m args c cX8_findMostCaught 5 RX8 wsX8_findMostCaught G b0) (hr : meth.sig.returnType = none) (hlocks : meth.locks = false) {κ : mM → Prop} {l0 : Option Nat} {M : mM} (h : wX8_findMostCaught κ l0 M) : m_W p l e ({ frames := 4, cells := 0, slots := 0, locals := 88 } : Room) s m args below meth c G b0 (MQ below (va_Qv κ (m_B G b0) (fun q => b0 ≤ q)) args s 0 0 (fun q => b0 ≤ q)) 5 M 0 0 0 [(0, va_rf l0)] [] := by
  unfold wX8_findMostCaught at h
  refine q_aload_n (pc := 0) C 0 0 dX8_findMostCaught_0 rfl rfl ?_
  refine q_gR (pc := 1) C h (T := TX8) rfl (by decide) (wk_u rfl wm_X8_findMostCaught uq_X8 (by decide +kernel)) (by decide +kernel) (fun _ h9 => h9) dX8_findMostCaught_1 (fun x1 h => ?_)
  obtain ⟨b4, fs9, hb4, hm9, h⟩ := h
  refine q_ci (pc := 4) (q_rV C (st := []) (b := b4) (kJx4a65c_size_8abf5 l G b0 h) (cwV 0 C.2.2.2.2.1 gX8_findMostCaught_Jx4a65c_size_8abf5 rfl rfl rfl (by decide +kernel) ⟨Nat.le_of_ble_eq_true rfl, Nat.le_of_ble_eq_true rfl⟩) hm9 rfl rfl rfl (by first | exact Nat.le_of_ble_eq_true rfl | (simp [q_cat, q_catI, q_catJ, q_catR, q_catN]; done)) (by rw [hb4]; first | done | rfl) dX8_findMostCaught_4 ⟨(by first | omega | (dsimp only; omega)), (by first | omega | (dsimp only; omega))⟩) (fun x2 M3 h => ?_)
  refine q_istore_n (pc := 7) C 1 [(1, .int x2), (0, va_rf l0)] dX8_findMostCaught_7 rfl (by decide) (by first | rfl | simp [q_cat, q_catI, q_catJ, q_catR, q_catN]) ?_
  refine q_iconst (pc := 8) C 0 dX8_findMostCaught_8 (by decide) ?_
  refine q_istore_n (pc := 9) C 2 [(2, .int 0), (1, .int x2), (0, va_rf l0)] dX8_findMostCaught_9 rfl (by decide) (by first | rfl | simp [q_cat, q_catI, q_catJ, q_catR, q_catN]) ?_
  refine q_widen (k2 := 0) (n2 := 0) (by omega) (by omega) ?_
  refine q_lv [2, 1, 0] rfl ?_
  obtain ⟨f9, h⟩ := h
  exact tX8_findMostCaught_10 C hr hlocks f9 _ _ _ _ h
set_option maxRecDepth 100000 in
set_option maxHeartbeats 4000000 in
theorem kX8_findMostCaught (l : Launch) (G : mG) (b0 : Nat) {b : Nat} {M : mM} {κ : mM → Prop} (h : wX8_findMostCaught κ (some b) M) : Met l yX8_findMostCaught wsX8_findMostCaught ({ frames := 4, cells := 0, slots := 0, locals := 88 } : Room) (va_Pc [.ref b] (m_Pre G b0 M)) (va_Qv κ (m_B G b0) (fun q => b0 ≤ q)) 0 0 (fun q => b0 ≤ q) := by
  refine m_met (cc := cX8_findMostCaught) (maxL := 5) (ret := none) (lv := [(0, va_rf (some b))]) RX8 rfl (by decide +kernel) rfl (by first | exact Nat.le_of_ble_eq_true rfl | simp [lg_sl, q_cat, q_catI, q_catJ, q_catR, q_catN]) (by first | rfl | (simp [lv_args, q_cat, q_catI, q_catJ, q_catR, q_catN]; done) | (simp [lv_args, q_cat, q_catI, q_catJ, q_catR, q_catN]; rfl)) ?_
  intro p e s m args below meth c C hr hlocks hni
  exact tX8_findMostCaught C hr hlocks h
/-! X8_leastSum -/
set_option maxRecDepth 100000 in
set_option maxHeartbeats 4000000 in
theorem tX8_leastSum_9 {p : Program} {l : Launch} {e : Env} {s : State} {m : MethodId} {args : Array Value} {below : List Frame} {meth : Method} {c : Code} {G : mG} {b0 : Nat} (C : m_C p s m args c cX8_leastSum 4 RX8 wsX8_leastSum G b0) (hr : meth.sig.returnType = (some .int)) (hlocks : meth.locks = false) {κ : Int32 → mM → Prop} : ∀ (f : Nat) (l1 : Int32) (l2 : Option Nat) (l3 : Int32) (M : mM), wX8_leastSum_9 κ f l1 l2 l3 M → m_W p l e ({ frames := 0, cells := 0, slots := 0, locals := 0 } : Room) s m args below meth c G b0 (MQ below (va_Qi κ (m_B G b0) (fun q => b0 ≤ q)) args s 0 0 (fun q => b0 ≤ q)) 4 M 0 0 9 [(1, .int l1), (2, va_rf l2), (3, .int l3)] [] := by
  intro f
  induction f with
  | zero =>
    intro l1 l2 l3 M h
    exact absurd h (by simp [wX8_leastSum_9])
  | succ f ih =>
    intro l1 l2 l3 M h
    rw [wX8_leastSum_9] at h
    refine q_iload_n (pc := 9) C 3 2 dX8_leastSum_9 rfl rfl ?_
    refine q_aload_n (pc := 10) C 2 1 dX8_leastSum_10 rfl rfl ?_
    refine q_len (pc := 11) C h dX8_leastSum_11 (fun x1 h => ?_)
    refine q_icmp_ge (pc := 12) C 30 dX8_leastSum_12 (by decide) (fun c2 => ?_) (fun c2 => ?_)
    · have h := h.1 c2
      refine q_iconst (pc := 30) C (-1) dX8_leastSum_30 (by decide) ?_
      exact q_iret (pc := 31) C hr hlocks h dX8_leastSum_31 (by omega) (by omega)
    · have h := h.2 c2
      refine q_aload_n (pc := 15) C 2 1 dX8_leastSum_15 rfl rfl ?_
      refine q_iload_n (pc := 16) C 3 2 dX8_leastSum_16 rfl rfl ?_
      refine q_iald (pc := 17) C h dX8_leastSum_17 (fun x3 h => ?_)
      refine q_iload_n (pc := 18) C 1 0 dX8_leastSum_18 rfl rfl ?_
      refine q_icmp_lt (pc := 19) C 24 dX8_leastSum_19 (by decide) (fun c4 => ?_) (fun c4 => ?_)
      · have h := h.1 c4
        refine q_iinc (pc := 24) C 3 2 (l3 + 1) [(3, .int (l3 + 1)), (1, .int l1), (2, va_rf l2)] dX8_leastSum_24 rfl (by rfl) (by decide) (by first | rfl | simp [q_cat, q_catI, q_catJ, q_catR, q_catN]) ?_
        refine q_goto (pc := 27) C 9 dX8_leastSum_27 (by decide) ?_
        refine q_widen (k2 := 0) (n2 := 0) (by omega) (by omega) ?_
        refine q_lv [1, 2, 0] rfl ?_
        exact ih _ _ _ _ h
      · have h := h.2 c4
        refine q_iload_n (pc := 22) C 3 2 dX8_leastSum_22 rfl rfl ?_
        exact q_iret (pc := 23) C hr hlocks h dX8_leastSum_23 (by omega) (by omega)
set_option maxRecDepth 100000 in
set_option maxHeartbeats 4000000 in
theorem tX8_leastSum {p : Program} {l : Launch} {e : Env} {s : State} {m : MethodId} {args : Array Value} {below : List Frame} {meth : Method} {c : Code} {G : mG} {b0 : Nat} (C : m_C p s m args c cX8_leastSum 4 RX8 wsX8_leastSum G b0) (hr : meth.sig.returnType = (some .int)) (hlocks : meth.locks = false) {κ : Int32 → mM → Prop} {l0 : Option Nat} {l1 : Int32} {M : mM} (h : wX8_leastSum κ l0 l1 M) : m_W p l e ({ frames := 0, cells := 0, slots := 0, locals := 0 } : Room) s m args below meth c G b0 (MQ below (va_Qi κ (m_B G b0) (fun q => b0 ≤ q)) args s 0 0 (fun q => b0 ≤ q)) 4 M 0 0 0 [(0, va_rf l0), (1, .int l1)] [] := by
  unfold wX8_leastSum at h
  refine q_aload_n (pc := 0) C 0 0 dX8_leastSum_0 rfl rfl ?_
  refine q_gR (pc := 1) C h (T := TX8) rfl (by decide) (wk_u rfl wm_X8_leastSum uq_X8 (by decide +kernel)) (by decide +kernel) (fun _ h9 => h9) dX8_leastSum_1 (fun x1 h => ?_)
  refine q_iconst (pc := 4) C 0 dX8_leastSum_4 (by decide) ?_
  refine q_aaldA (pc := 5) C h dX8_leastSum_5 (fun x2 h => ?_)
  refine q_astore_n (pc := 6) C 2 [(2, va_rf x2), (0, va_rf l0), (1, .int l1)] dX8_leastSum_6 rfl (by decide) (by first | rfl | simp [q_cat, q_catI, q_catJ, q_catR, q_catN]) ?_
  refine q_iconst (pc := 7) C 0 dX8_leastSum_7 (by decide) ?_
  refine q_istore_n (pc := 8) C 3 [(3, .int 0), (2, va_rf x2), (0, va_rf l0), (1, .int l1)] dX8_leastSum_8 rfl (by decide) (by first | rfl | simp [q_cat, q_catI, q_catJ, q_catR, q_catN]) ?_
  refine q_widen (k2 := 0) (n2 := 0) (by omega) (by omega) ?_
  refine q_lv [3, 1, 0] rfl ?_
  obtain ⟨f9, h⟩ := h
  exact tX8_leastSum_9 C hr hlocks f9 _ _ _ _ h
set_option maxRecDepth 100000 in
set_option maxHeartbeats 4000000 in
theorem kX8_leastSum (l : Launch) (G : mG) (b0 : Nat) {b : Nat} {l1 : Int32} {M : mM} {κ : Int32 → mM → Prop} (h : wX8_leastSum κ (some b) l1 M) : Met l yX8_leastSum wsX8_leastSum ({ frames := 0, cells := 0, slots := 0, locals := 0 } : Room) (va_Pc [.ref b, .int l1] (m_Pre G b0 M)) (va_Qi κ (m_B G b0) (fun q => b0 ≤ q)) 0 0 (fun q => b0 ≤ q) := by
  refine m_met (cc := cX8_leastSum) (maxL := 4) (ret := (some .int)) (lv := [(0, va_rf (some b)), (1, .int l1)]) RX8 rfl (by decide +kernel) rfl (by first | exact Nat.le_of_ble_eq_true rfl | simp [lg_sl, q_cat, q_catI, q_catJ, q_catR, q_catN]) (by first | rfl | (simp [lv_args, q_cat, q_catI, q_catJ, q_catR, q_catN]; done) | (simp [lv_args, q_cat, q_catI, q_catJ, q_catR, q_catN]; rfl)) ?_
  intro p e s m args below meth c C hr hlocks hni
  exact tX8_leastSum C hr hlocks h
/-! X8_leastOdds -/
set_option maxRecDepth 100000 in
set_option maxHeartbeats 4000000 in
theorem tX8_leastOdds_12 {p : Program} {l : Launch} {e : Env} {s : State} {m : MethodId} {args : Array Value} {below : List Frame} {meth : Method} {c : Code} {G : mG} {b0 : Nat} (C : m_C p s m args c cX8_leastOdds 7 RX8 wsX8_leastOdds G b0) (hr : meth.sig.returnType = (some .int)) (hlocks : meth.locks = false) {κ : Int32 → mM → Prop} : ∀ (f : Nat) (l0 : Option Nat) (l1 : Int32) (l2 : Int32) (l3 : Int32) (l4 : Int32) (l5 : Int32) (l6 : Int32) (M : mM), wX8_leastOdds_12 κ f l0 l1 l2 l3 l4 l5 l6 M → m_W p l e ({ frames := 1, cells := 0, slots := 0, locals := 40 } : Room) s m args below meth c G b0 (MQ below (va_Qi κ (m_B G b0) (fun q => b0 ≤ q)) args s 0 0 (fun q => b0 ≤ q)) 7 M 0 0 12 [(0, va_rf l0), (1, .int l1), (2, .int l2), (3, .int l3), (4, .int l4), (5, .int l5), (6, .int l6)] [] := by
  intro f
  induction f with
  | zero =>
    intro l0 l1 l2 l3 l4 l5 l6 M h
    exact absurd h (by simp [wX8_leastOdds_12])
  | succ f ih =>
    intro l0 l1 l2 l3 l4 l5 l6 M h
    rw [wX8_leastOdds_12] at h
    refine q_iload (pc := 12) C 6 6 dX8_leastOdds_12 rfl ?_
    refine q_iload (pc := 14) C 5 5 dX8_leastOdds_14 rfl ?_
    refine q_icmp_ge (pc := 16) C 53 dX8_leastOdds_16 (by decide) (fun c1 => ?_) (fun c1 => ?_)
    · have h := h.1 c1
      refine q_iload (pc := 53) C 5 5 dX8_leastOdds_53 rfl ?_
      exact q_iret (pc := 55) C hr hlocks h dX8_leastOdds_55 (by omega) (by omega)
    · have h := h.2 c1
      refine q_iload_n (pc := 19) C 2 2 dX8_leastOdds_19 rfl rfl ?_
      refine q_iload (pc := 20) C 6 6 dX8_leastOdds_20 rfl ?_
      refine q_ci (pc := 22) (q_rS C (st := []) (kX8_catchOf l G b0 h) (va_cwS 2 C.2.2.2.2.1 gX8_leastOdds_X8_catchOf rfl rfl rfl (by decide +kernel) ⟨Nat.le_of_ble_eq_true rfl, Nat.le_of_ble_eq_true rfl⟩) rfl (by first | exact Nat.le_of_ble_eq_true rfl | (simp [q_cat, q_catI, q_catJ, q_catR, q_catN]; done)) rfl dX8_leastOdds_22 ⟨(by first | omega | (dsimp only; omega)), (by first | omega | (dsimp only; omega))⟩) (fun x2 M3 h => ?_)
      refine q_aload_n (pc := 25) C 0 0 dX8_leastOdds_25 rfl rfl ?_
      refine q_gR (pc := 26) C h (T := TX8) rfl (by decide) (wk_u rfl wm_X8_leastOdds uq_X8 (by decide +kernel)) (by decide +kernel) (fun _ h9 => h9) dX8_leastOdds_26 (fun x4 h => ?_)
      refine q_iload_n (pc := 29) C 1 1 dX8_leastOdds_29 rfl rfl ?_
      refine q_iconst (pc := 30) C 1 dX8_leastOdds_30 (by decide) ?_
      refine q_iadd (pc := 31) C dX8_leastOdds_31 ?_
      refine q_aaldA (pc := 32) C h dX8_leastOdds_32 (fun x5 h => ?_)
      refine q_iload (pc := 33) C 4 4 dX8_leastOdds_33 rfl ?_
      refine q_iload (pc := 35) C 6 6 dX8_leastOdds_35 rfl ?_
      refine q_isub (pc := 37) C dX8_leastOdds_37 ?_
      refine q_iald (pc := 38) C h dX8_leastOdds_38 (fun x6 h => ?_)
      refine q_iadd (pc := 39) C dX8_leastOdds_39 ?_
      refine q_iload_n (pc := 40) C 3 3 dX8_leastOdds_40 rfl rfl ?_
      refine q_icmp_lt (pc := 41) C 47 dX8_leastOdds_41 (by decide) (fun c7 => ?_) (fun c7 => ?_)
      · have h := h.1 c7
        refine q_iinc (pc := 47) C 6 6 (l6 + 1) [(6, .int (l6 + 1)), (0, va_rf l0), (1, .int l1), (2, .int l2), (3, .int l3), (4, .int l4), (5, .int l5)] dX8_leastOdds_47 rfl (by rfl) (by decide) (by first | rfl | simp [q_cat, q_catI, q_catJ, q_catR, q_catN]) ?_
        refine q_goto (pc := 50) C 12 dX8_leastOdds_50 (by decide) ?_
        refine q_widen (k2 := 0) (n2 := 0) (by omega) (by omega) ?_
        refine q_lv [1, 2, 3, 4, 5, 6, 0] rfl ?_
        exact ih _ _ _ _ _ _ _ _ h
      · have h := h.2 c7
        refine q_iload (pc := 44) C 6 6 dX8_leastOdds_44 rfl ?_
        exact q_iret (pc := 46) C hr hlocks h dX8_leastOdds_46 (by omega) (by omega)
set_option maxRecDepth 100000 in
set_option maxHeartbeats 4000000 in
theorem tX8_leastOdds {p : Program} {l : Launch} {e : Env} {s : State} {m : MethodId} {args : Array Value} {below : List Frame} {meth : Method} {c : Code} {G : mG} {b0 : Nat} (C : m_C p s m args c cX8_leastOdds 7 RX8 wsX8_leastOdds G b0) (hr : meth.sig.returnType = (some .int)) (hlocks : meth.locks = false) {κ : Int32 → mM → Prop} {l0 : Option Nat} {l1 : Int32} {l2 : Int32} {l3 : Int32} {l4 : Int32} {M : mM} (h : wX8_leastOdds κ l0 l1 l2 l3 l4 M) : m_W p l e ({ frames := 1, cells := 0, slots := 0, locals := 40 } : Room) s m args below meth c G b0 (MQ below (va_Qi κ (m_B G b0) (fun q => b0 ≤ q)) args s 0 0 (fun q => b0 ≤ q)) 7 M 0 0 0 [(0, va_rf l0), (1, .int l1), (2, .int l2), (3, .int l3), (4, .int l4)] [] := by
  unfold wX8_leastOdds at h
  refine q_iload (pc := 0) C 4 4 dX8_leastOdds_0 rfl ?_
  refine q_bipush (pc := 2) C 10 dX8_leastOdds_2 (by decide) ?_
  refine q_mmin (pc := 4) C (by decide +kernel) (by decide +kernel) (by decide +kernel) (by decide +kernel) (Nat.le_of_ble_eq_true rfl) (by first | exact Nat.le_of_ble_eq_true rfl | (simp [q_cat, q_catI, q_catJ, q_catR, q_catN]; done) | (simp [q_cat, q_catI, q_catJ, q_catR, q_catN]; decide)) (by first | omega | (dsimp only; omega)) (by first | omega | (dsimp only; omega)) dX8_leastOdds_4 ?_
  refine m_stk (st2 := .int (m_min l4 10) :: _) rfl ?_
  refine q_istore (pc := 7) C 5 [(5, .int (m_min l4 10)), (0, va_rf l0), (1, .int l1), (2, .int l2), (3, .int l3), (4, .int l4)] dX8_leastOdds_7 (by decide) (by first | rfl | simp [q_cat, q_catI, q_catJ, q_catR, q_catN]) ?_
  refine q_iconst (pc := 9) C 0 dX8_leastOdds_9 (by decide) ?_
  refine q_istore (pc := 10) C 6 [(6, .int 0), (5, .int (m_min l4 10)), (0, va_rf l0), (1, .int l1), (2, .int l2), (3, .int l3), (4, .int l4)] dX8_leastOdds_10 (by decide) (by first | rfl | simp [q_cat, q_catI, q_catJ, q_catR, q_catN]) ?_
  refine q_widen (k2 := 0) (n2 := 0) (by omega) (by omega) ?_
  refine q_lv [2, 3, 4, 5, 6, 1, 0] rfl ?_
  obtain ⟨f9, h⟩ := h
  exact tX8_leastOdds_12 C hr hlocks f9 _ _ _ _ _ _ _ _ h
set_option maxRecDepth 100000 in
set_option maxHeartbeats 4000000 in
theorem kX8_leastOdds (l : Launch) (G : mG) (b0 : Nat) {b : Nat} {l1 : Int32} {l2 : Int32} {l3 : Int32} {l4 : Int32} {M : mM} {κ : Int32 → mM → Prop} (h : wX8_leastOdds κ (some b) l1 l2 l3 l4 M) : Met l yX8_leastOdds wsX8_leastOdds ({ frames := 1, cells := 0, slots := 0, locals := 40 } : Room) (va_Pc [.ref b, .int l1, .int l2, .int l3, .int l4] (m_Pre G b0 M)) (va_Qi κ (m_B G b0) (fun q => b0 ≤ q)) 0 0 (fun q => b0 ≤ q) := by
  refine m_met (cc := cX8_leastOdds) (maxL := 7) (ret := (some .int)) (lv := [(0, va_rf (some b)), (1, .int l1), (2, .int l2), (3, .int l3), (4, .int l4)]) RX8 rfl (by decide +kernel) rfl (by first | exact Nat.le_of_ble_eq_true rfl | simp [lg_sl, q_cat, q_catI, q_catJ, q_catR, q_catN]) (by first | rfl | (simp [lv_args, q_cat, q_catI, q_catJ, q_catR, q_catN]; done) | (simp [lv_args, q_cat, q_catI, q_catJ, q_catR, q_catN]; rfl)) ?_
  intro p e s m args below meth c C hr hlocks hni
  exact tX8_leastOdds C hr hlocks h
/-! X8_plannedOdds -/
set_option maxRecDepth 100000 in
set_option maxHeartbeats 4000000 in
theorem tX8_plannedOdds_12 {p : Program} {l : Launch} {e : Env} {s : State} {m : MethodId} {args : Array Value} {below : List Frame} {meth : Method} {c : Code} {G : mG} {b0 : Nat} (C : m_C p s m args c cX8_plannedOdds 9 RX8 wsX8_plannedOdds G b0) (hr : meth.sig.returnType = (some .int)) (hlocks : meth.locks = false) {κ : Int32 → mM → Prop} : ∀ (f : Nat) (l0 : Option Nat) (l3 : Int32) (l4 : Int32) (l5 : Int32) (l6 : Int32) (l7 : Int32) (M : mM), wX8_plannedOdds_12 κ f l0 l3 l4 l5 l6 l7 M → m_W p l e ({ frames := 4, cells := 0, slots := 0, locals := 88 } : Room) s m args below meth c G b0 (MQ below (va_Qi κ (m_B G b0) (fun q => b0 ≤ q)) args s 0 0 (fun q => b0 ≤ q)) 9 M 0 0 12 [(0, va_rf l0), (3, .int l3), (4, .int l4), (5, .int l5), (6, .int l6), (7, .int l7)] [] := by
  intro f
  induction f with
  | zero =>
    intro l0 l3 l4 l5 l6 l7 M h
    exact absurd h (by simp [wX8_plannedOdds_12])
  | succ f ih =>
    intro l0 l3 l4 l5 l6 l7 M h
    rw [wX8_plannedOdds_12] at h
    refine q_iload (pc := 12) C 7 5 dX8_plannedOdds_12 rfl ?_
    refine q_iload_n (pc := 14) C 3 1 dX8_plannedOdds_14 rfl rfl ?_
    refine q_icmp_gt (pc := 15) C 75 dX8_plannedOdds_15 (by decide) (fun c1 => ?_) (fun c1 => ?_)
    · have h := h.1 c1
      refine q_iload (pc := 75) C 6 4 dX8_plannedOdds_75 rfl ?_
      exact q_iret (pc := 77) C hr hlocks h dX8_plannedOdds_77 (by omega) (by omega)
    · have h := h.2 c1
      refine q_aload_n (pc := 18) C 0 0 dX8_plannedOdds_18 rfl rfl ?_
      refine q_aload_n (pc := 19) C 0 0 dX8_plannedOdds_19 rfl rfl ?_
      refine q_gR (pc := 20) C h (T := TX8) rfl (by decide) (wk_u rfl wm_X8_plannedOdds uq_X8 (by decide +kernel)) (by decide +kernel) (fun _ h9 => h9) dX8_plannedOdds_20 (fun x2 h => ?_)
      refine q_iload (pc := 23) C 7 5 dX8_plannedOdds_23 rfl ?_
      obtain ⟨b5, fs9, hb5, hm9, h⟩ := h
      refine q_cq (pc := 25) (q_rV C (st := [va_rf l0]) (b := b5) (kJx4a65c_get_915e3 l G b0 h) (cwV 1 C.2.2.2.2.1 gX8_plannedOdds_Jx4a65c_get_915e3 rfl rfl rfl (by decide +kernel) ⟨Nat.le_of_ble_eq_true rfl, Nat.le_of_ble_eq_true rfl⟩) hm9 rfl rfl rfl (by first | exact Nat.le_of_ble_eq_true rfl | (simp [q_cat, q_catI, q_catJ, q_catR, q_catN]; done)) (by rw [hb5]; first | done | rfl) dX8_plannedOdds_25 ⟨(by first | omega | (dsimp only; omega)), (by first | omega | (dsimp only; omega))⟩) (fun x3 M4 h => ?_)
      refine q_cast (pc := 28) C h rfl rfl (by decide +kernel) dX8_plannedOdds_28 (fun h => ?_)
      obtain ⟨b8, fs9, hb8, hm9, h⟩ := h
      refine q_ci (pc := 31) (q_rV C (st := []) (b := b8) (kX8_hiddenWorth l G b0 h) (cwV 1 C.2.2.2.2.1 gX8_plannedOdds_X8_hiddenWorth rfl rfl rfl (by decide +kernel) ⟨Nat.le_of_ble_eq_true rfl, Nat.le_of_ble_eq_true rfl⟩) hm9 rfl rfl rfl (by first | exact Nat.le_of_ble_eq_true rfl | (simp [q_cat, q_catI, q_catJ, q_catR, q_catN]; done)) (by rw [hb8]; first | done | rfl) dX8_plannedOdds_31 ⟨(by first | omega | (dsimp only; omega)), (by first | omega | (dsimp only; omega))⟩) (fun x6 M7 h => ?_)
      refine q_istore (pc := 34) C 8 [(8, .int x6), (0, va_rf l0), (3, .int l3), (4, .int l4), (5, .int l5), (6, .int l6), (7, .int l7)] dX8_plannedOdds_34 (by decide) (by first | rfl | simp [q_cat, q_catI, q_catJ, q_catR, q_catN]) ?_
      refine q_aload_n (pc := 36) C 0 1 dX8_plannedOdds_36 rfl rfl ?_
      refine q_iload (pc := 37) C 7 6 dX8_plannedOdds_37 rfl ?_
      refine q_iload (pc := 39) C 8 0 dX8_plannedOdds_39 rfl ?_
      refine q_iload (pc := 41) C 4 3 dX8_plannedOdds_41 rfl ?_
      refine q_iload (pc := 43) C 5 4 dX8_plannedOdds_43 rfl ?_
      obtain ⟨b11, fs9, hb11, hm9, h⟩ := h
      refine q_ci (pc := 45) (q_rV C (st := []) (b := b11) (kX8_leastOdds l G b0 h) (cwV 4 C.2.2.2.2.1 gX8_plannedOdds_X8_leastOdds rfl rfl rfl (by decide +kernel) ⟨Nat.le_of_ble_eq_true rfl, Nat.le_of_ble_eq_true rfl⟩) hm9 rfl rfl rfl (by first | exact Nat.le_of_ble_eq_true rfl | (simp [q_cat, q_catI, q_catJ, q_catR, q_catN]; done)) (by rw [hb11]; first | done | rfl) dX8_plannedOdds_45 ⟨(by first | omega | (dsimp only; omega)), (by first | omega | (dsimp only; omega))⟩) (fun x9 M10 h => ?_)
      refine q_istore (pc := 48) C 6 [(6, .int x9), (8, .int x6), (0, va_rf l0), (3, .int l3), (4, .int l4), (5, .int l5), (7, .int l7)] dX8_plannedOdds_48 (by decide) (by first | rfl | simp [q_cat, q_catI, q_catJ, q_catR, q_catN]) ?_
      refine q_iload (pc := 50) C 4 4 dX8_plannedOdds_50 rfl ?_
      refine q_iload (pc := 52) C 8 1 dX8_plannedOdds_52 rfl ?_
      refine q_iload (pc := 54) C 6 0 dX8_plannedOdds_54 rfl ?_
      refine q_ci (pc := 56) (q_rS C (st := [.int l4]) (kX8_catchOf l G b0 h) (va_cwS 2 C.2.2.2.2.1 gX8_plannedOdds_X8_catchOf rfl rfl rfl (by decide +kernel) ⟨Nat.le_of_ble_eq_true rfl, Nat.le_of_ble_eq_true rfl⟩) rfl (by first | exact Nat.le_of_ble_eq_true rfl | (simp [q_cat, q_catI, q_catJ, q_catR, q_catN]; done)) rfl dX8_plannedOdds_56 ⟨(by first | omega | (dsimp only; omega)), (by first | omega | (dsimp only; omega))⟩) (fun x12 M13 h => ?_)
      refine q_isub (pc := 59) C dX8_plannedOdds_59 ?_
      refine q_istore (pc := 60) C 4 [(4, .int (l4 - x12)), (6, .int x9), (8, .int x6), (0, va_rf l0), (3, .int l3), (5, .int l5), (7, .int l7)] dX8_plannedOdds_60 (by decide) (by first | rfl | simp [q_cat, q_catI, q_catJ, q_catR, q_catN]) ?_
      refine q_iload (pc := 62) C 5 5 dX8_plannedOdds_62 rfl ?_
      refine q_iload (pc := 64) C 6 1 dX8_plannedOdds_64 rfl ?_
      refine q_isub (pc := 66) C dX8_plannedOdds_66 ?_
      refine q_istore (pc := 67) C 5 [(5, .int (l5 - x9)), (4, .int (l4 - x12)), (6, .int x9), (8, .int x6), (0, va_rf l0), (3, .int l3), (7, .int l7)] dX8_plannedOdds_67 (by decide) (by first | rfl | simp [q_cat, q_catI, q_catJ, q_catR, q_catN]) ?_
      refine q_iinc (pc := 69) C 7 6 (l7 + 1) [(7, .int (l7 + 1)), (5, .int (l5 - x9)), (4, .int (l4 - x12)), (6, .int x9), (8, .int x6), (0, va_rf l0), (3, .int l3)] dX8_plannedOdds_69 rfl (by rfl) (by decide) (by first | rfl | simp [q_cat, q_catI, q_catJ, q_catR, q_catN]) ?_
      refine q_goto (pc := 72) C 12 dX8_plannedOdds_72 (by decide) ?_
      refine q_widen (k2 := 0) (n2 := 0) (by omega) (by omega) ?_
      refine q_lv [5, 6, 2, 1, 3, 0] rfl ?_
      exact ih _ _ _ _ _ _ _ h
set_option maxRecDepth 100000 in
set_option maxHeartbeats 4000000 in
theorem tX8_plannedOdds {p : Program} {l : Launch} {e : Env} {s : State} {m : MethodId} {args : Array Value} {below : List Frame} {meth : Method} {c : Code} {G : mG} {b0 : Nat} (C : m_C p s m args c cX8_plannedOdds 9 RX8 wsX8_plannedOdds G b0) (hr : meth.sig.returnType = (some .int)) (hlocks : meth.locks = false) {κ : Int32 → mM → Prop} {l0 : Option Nat} {l1 : Int32} {l2 : Int32} {l3 : Int32} {M : mM} (h : wX8_plannedOdds κ l0 l1 l2 l3 M) : m_W p l e ({ frames := 4, cells := 0, slots := 0, locals := 88 } : Room) s m args below meth c G b0 (MQ below (va_Qi κ (m_B G b0) (fun q => b0 ≤ q)) args s 0 0 (fun q => b0 ≤ q)) 9 M 0 0 0 [(0, va_rf l0), (1, .int l1), (2, .int l2), (3, .int l3)] [] := by
  unfold wX8_plannedOdds at h
  refine q_iload_n (pc := 0) C 1 1 dX8_plannedOdds_0 rfl rfl ?_
  refine q_istore (pc := 1) C 4 [(4, .int l1), (0, va_rf l0), (1, .int l1), (2, .int l2), (3, .int l3)] dX8_plannedOdds_1 (by decide) (by first | rfl | simp [q_cat, q_catI, q_catJ, q_catR, q_catN]) ?_
  refine q_iload_n (pc := 3) C 2 3 dX8_plannedOdds_3 rfl rfl ?_
  refine q_istore (pc := 4) C 5 [(5, .int l2), (4, .int l1), (0, va_rf l0), (1, .int l1), (2, .int l2), (3, .int l3)] dX8_plannedOdds_4 (by decide) (by first | rfl | simp [q_cat, q_catI, q_catJ, q_catR, q_catN]) ?_
  refine q_iconst (pc := 6) C 0 dX8_plannedOdds_6 (by decide) ?_
  refine q_istore (pc := 7) C 6 [(6, .int 0), (5, .int l2), (4, .int l1), (0, va_rf l0), (1, .int l1), (2, .int l2), (3, .int l3)] dX8_plannedOdds_7 (by decide) (by first | rfl | simp [q_cat, q_catI, q_catJ, q_catR, q_catN]) ?_
  refine q_iconst (pc := 9) C 0 dX8_plannedOdds_9 (by decide) ?_
  refine q_istore (pc := 10) C 7 [(7, .int 0), (6, .int 0), (5, .int l2), (4, .int l1), (0, va_rf l0), (1, .int l1), (2, .int l2), (3, .int l3)] dX8_plannedOdds_10 (by decide) (by first | rfl | simp [q_cat, q_catI, q_catJ, q_catR, q_catN]) ?_
  refine q_widen (k2 := 0) (n2 := 0) (by omega) (by omega) ?_
  refine q_lv [4, 7, 3, 2, 1, 0] rfl ?_
  obtain ⟨f9, h⟩ := h
  exact tX8_plannedOdds_12 C hr hlocks f9 _ _ _ _ _ _ _ h
set_option maxRecDepth 100000 in
set_option maxHeartbeats 4000000 in
theorem kX8_plannedOdds (l : Launch) (G : mG) (b0 : Nat) {b : Nat} {l1 : Int32} {l2 : Int32} {l3 : Int32} {M : mM} {κ : Int32 → mM → Prop} (h : wX8_plannedOdds κ (some b) l1 l2 l3 M) : Met l yX8_plannedOdds wsX8_plannedOdds ({ frames := 4, cells := 0, slots := 0, locals := 88 } : Room) (va_Pc [.ref b, .int l1, .int l2, .int l3] (m_Pre G b0 M)) (va_Qi κ (m_B G b0) (fun q => b0 ≤ q)) 0 0 (fun q => b0 ≤ q) := by
  refine m_met (cc := cX8_plannedOdds) (maxL := 9) (ret := (some .int)) (lv := [(0, va_rf (some b)), (1, .int l1), (2, .int l2), (3, .int l3)]) RX8 rfl (by decide +kernel) rfl (by first | exact Nat.le_of_ble_eq_true rfl | simp [lg_sl, q_cat, q_catI, q_catJ, q_catR, q_catN]) (by first | rfl | (simp [lv_args, q_cat, q_catI, q_catJ, q_catR, q_catN]; done) | (simp [lv_args, q_cat, q_catI, q_catJ, q_catR, q_catN]; rfl)) ?_
  intro p e s m args below meth c C hr hlocks hni
  exact tX8_plannedOdds C hr hlocks h
/-! X8_plan -/
set_option maxRecDepth 100000 in
set_option maxHeartbeats 4000000 in
theorem tX8_plan_11 {p : Program} {l : Launch} {e : Env} {s : State} {m : MethodId} {args : Array Value} {below : List Frame} {meth : Method} {c : Code} {G : mG} {b0 : Nat} (C : m_C p s m args c cX8_plan 4 RX8 wsX8_plan G b0) (hr : meth.sig.returnType = (some .int)) (hlocks : meth.locks = false) {t : Nat} (hL : l.stackTraces = false) (hx : ∀ x ∈ c.exceptionTable.toList, False) {κ : Int32 → mM → Prop} {ξ : String → mM → Prop} (ht : ∀ E M, ξ E M → 1 ≤ t) {l0 : Option Nat} {l1 : Int32} {l2 : Int32} {M : mM} (h : wX8_plan_11 κ ξ l0 l1 l2 M) : m_W p l e ({ frames := 7, cells := (0 + 2 * t), slots := (0 + 12 * t), locals := 116 } : Room) s m args below meth c G b0 (vx_MQ below (va_Qi κ (m_B G b0) (fun q => b0 ≤ q)) (m_X G b0 ξ) args s (0 + 2 * t) (0 + 12 * t) (fun q => b0 ≤ q)) 4 M (0 + 1 * t) (0 + 6 * t) 11 [(0, va_rf l0), (1, .int l1), (2, .int l2)] [] := by
  unfold wX8_plan_11 at h
  refine q_iload_n (pc := 11) C 1 1 dX8_plan_11 rfl rfl ?_
  refine q_iconst (pc := 12) C 0 dX8_plan_12 (by decide) ?_
  refine q_sipush (pc := 13) C 2000 dX8_plan_13 (by decide) ?_
  refine q_cXv (pc := 16) (q_rSX C (st := []) (kX8_demandRange l G b0 (t := t) hL ht h) (va_cwS 3 C.2.2.2.2.1 gX8_plan_X8_demandRange rfl rfl rfl (by decide +kernel) ⟨Nat.le_of_ble_eq_true rfl, Nat.le_of_ble_eq_true rfl⟩) rfl (by first | exact Nat.le_of_ble_eq_true rfl | (simp [q_cat, q_catI, q_catJ, q_catR, q_catN]; done)) rfl dX8_plan_16 ⟨(by first | omega | (dsimp only; omega)), (by first | omega | (dsimp only; omega))⟩) (fun E9 M9 h9 => q_out C hx hlocks h9 (by omega) (by omega)) (fun M1 h => ?_)
  refine q_aload_n (pc := 19) C 0 0 dX8_plan_19 rfl rfl ?_
  obtain ⟨b3, fs9, hb3, hm9, h⟩ := h
  refine q_cv (pc := 20) (q_rV C (st := []) (b := b3) (kX8_findMostCaught l G b0 h) (cwV 0 C.2.2.2.2.1 gX8_plan_X8_findMostCaught rfl rfl rfl (by decide +kernel) ⟨Nat.le_of_ble_eq_true rfl, Nat.le_of_ble_eq_true rfl⟩) hm9 rfl rfl rfl (by first | exact Nat.le_of_ble_eq_true rfl | (simp [q_cat, q_catI, q_catJ, q_catR, q_catN]; done)) (by rw [hb3]; first | done | rfl) dX8_plan_20 ⟨(by first | omega | (dsimp only; omega)), (by first | omega | (dsimp only; omega))⟩) (fun M2 h => ?_)
  refine q_aload_n (pc := 23) C 0 0 dX8_plan_23 rfl rfl ?_
  refine q_iload_n (pc := 24) C 1 1 dX8_plan_24 rfl rfl ?_
  obtain ⟨b6, fs9, hb6, hm9, h⟩ := h
  refine q_ci (pc := 25) (q_rV C (st := []) (b := b6) (kX8_leastSum l G b0 h) (cwV 1 C.2.2.2.2.1 gX8_plan_X8_leastSum rfl rfl rfl (by decide +kernel) ⟨Nat.le_of_ble_eq_true rfl, Nat.le_of_ble_eq_true rfl⟩) hm9 rfl rfl rfl (by first | exact Nat.le_of_ble_eq_true rfl | (simp [q_cat, q_catI, q_catJ, q_catR, q_catN]; done)) (by rw [hb6]; first | done | rfl) dX8_plan_25 ⟨(by first | omega | (dsimp only; omega)), (by first | omega | (dsimp only; omega))⟩) (fun x4 M5 h => ?_)
  refine q_istore_n (pc := 28) C 3 [(3, .int x4), (0, va_rf l0), (1, .int l1), (2, .int l2)] dX8_plan_28 rfl (by decide) (by first | rfl | simp [q_cat, q_catI, q_catJ, q_catR, q_catN]) ?_
  refine q_iload_n (pc := 29) C 3 0 dX8_plan_29 rfl rfl ?_
  refine q_iconst (pc := 30) C (-1) dX8_plan_30 (by decide) ?_
  refine q_icmp_eq (pc := 31) C 39 dX8_plan_31 (by decide) (fun c7 => ?_) (fun c7 => ?_)
  · have h := h.1 c7
    refine q_iload_n (pc := 39) C 3 0 dX8_plan_39 rfl rfl ?_
    refine q_goto (pc := 40) C 50 dX8_plan_40 (by decide) ?_
    exact q_iretX (pc := 50) C hr hlocks h dX8_plan_50 (by omega) (by omega)
  · have h := h.2 c7
    refine q_iload_n (pc := 34) C 2 3 dX8_plan_34 rfl rfl ?_
    refine q_iconst (pc := 35) C (-1) dX8_plan_35 (by decide) ?_
    refine q_icmp_ne (pc := 36) C 43 dX8_plan_36 (by decide) (fun c8 => ?_) (fun c8 => ?_)
    · have h := h.2 c8
      refine q_aload_n (pc := 43) C 0 1 dX8_plan_43 rfl rfl ?_
      refine q_iload_n (pc := 44) C 1 2 dX8_plan_44 rfl rfl ?_
      refine q_iload_n (pc := 45) C 3 0 dX8_plan_45 rfl rfl ?_
      refine q_iload_n (pc := 46) C 2 3 dX8_plan_46 rfl rfl ?_
      obtain ⟨b11, fs9, hb11, hm9, h⟩ := h
      refine q_ci (pc := 47) (q_rV C (st := []) (b := b11) (kX8_plannedOdds l G b0 h) (cwV 3 C.2.2.2.2.1 gX8_plan_X8_plannedOdds rfl rfl rfl (by decide +kernel) ⟨Nat.le_of_ble_eq_true rfl, Nat.le_of_ble_eq_true rfl⟩) hm9 rfl rfl rfl (by first | exact Nat.le_of_ble_eq_true rfl | (simp [q_cat, q_catI, q_catJ, q_catR, q_catN]; done)) (by rw [hb11]; first | done | rfl) dX8_plan_47 ⟨(by first | omega | (dsimp only; omega)), (by first | omega | (dsimp only; omega))⟩) (fun x9 M10 h => ?_)
      exact q_iretX (pc := 50) C hr hlocks h dX8_plan_50 (by omega) (by omega)
    · have h := h.1 c8
      refine q_iload_n (pc := 39) C 3 0 dX8_plan_39 rfl rfl ?_
      refine q_goto (pc := 40) C 50 dX8_plan_40 (by decide) ?_
      exact q_iretX (pc := 50) C hr hlocks h dX8_plan_50 (by omega) (by omega)
set_option maxRecDepth 100000 in
set_option maxHeartbeats 4000000 in
theorem tX8_plan {p : Program} {l : Launch} {e : Env} {s : State} {m : MethodId} {args : Array Value} {below : List Frame} {meth : Method} {c : Code} {G : mG} {b0 : Nat} (C : m_C p s m args c cX8_plan 4 RX8 wsX8_plan G b0) (hr : meth.sig.returnType = (some .int)) (hlocks : meth.locks = false) {t : Nat} (hL : l.stackTraces = false) (hx : ∀ x ∈ c.exceptionTable.toList, False) {κ : Int32 → mM → Prop} {ξ : String → mM → Prop} (ht : ∀ E M, ξ E M → 1 ≤ t) {l0 : Option Nat} {l1 : Int32} {l2 : Int32} {M : mM} (h : wX8_plan κ ξ l0 l1 l2 M) : m_W p l e ({ frames := 7, cells := (0 + 2 * t), slots := (0 + 12 * t), locals := 116 } : Room) s m args below meth c G b0 (vx_MQ below (va_Qi κ (m_B G b0) (fun q => b0 ≤ q)) (m_X G b0 ξ) args s (0 + 2 * t) (0 + 12 * t) (fun q => b0 ≤ q)) 4 M 0 0 0 [(0, va_rf l0), (1, .int l1), (2, .int l2)] [] := by
  unfold wX8_plan at h
  refine q_iload_n (pc := 0) C 2 2 dX8_plan_0 rfl rfl ?_
  refine q_iconst (pc := 1) C (-1) dX8_plan_1 (by decide) ?_
  refine q_icmp_eq (pc := 2) C 11 dX8_plan_2 (by decide) (fun c1 => ?_) (fun c1 => ?_)
  · have h := h.1 c1
    refine q_widen (k2 := (0 + 1 * t)) (n2 := (0 + 6 * t)) (by omega) (by omega) ?_
    refine q_lv [0, 1, 2] rfl ?_
    exact tX8_plan_11 C hr hlocks hL hx ht h
  · have h := h.2 c1
    refine q_aload_n (pc := 5) C 0 0 dX8_plan_5 rfl rfl ?_
    refine q_iload_n (pc := 6) C 2 2 dX8_plan_6 rfl rfl ?_
    obtain ⟨b4, fs9, hb4, hm9, h⟩ := h
    refine q_cXq (pc := 7) (q_rVX C (st := []) (b := b4) (kX8_gateNumbered l G b0 (t := t) hL ht h) (cwV 1 C.2.2.2.2.1 gX8_plan_X8_gateNumbered rfl rfl rfl (by decide +kernel) ⟨Nat.le_of_ble_eq_true rfl, Nat.le_of_ble_eq_true rfl⟩) hm9 rfl rfl rfl (by first | exact Nat.le_of_ble_eq_true rfl | (simp [q_cat, q_catI, q_catJ, q_catR, q_catN]; done)) (by rw [hb4]; first | done | rfl) dX8_plan_7 ⟨(by first | omega | (dsimp only; omega)), (by first | omega | (dsimp only; omega))⟩) (fun E9 M9 h9 => q_out C hx hlocks h9 (by omega) (by omega)) (fun x2 M3 h => ?_)
    refine q_pop (pc := 10) C dX8_plan_10 (q_cat _) ?_
    refine q_widen (k2 := (0 + 1 * t)) (n2 := (0 + 6 * t)) (by omega) (by omega) ?_
    refine q_lv [0, 1, 2] rfl ?_
    exact tX8_plan_11 C hr hlocks hL hx ht h
set_option maxRecDepth 100000 in
set_option maxHeartbeats 4000000 in
theorem kX8_plan (l : Launch) (G : mG) (b0 : Nat) {t : Nat} (hL : l.stackTraces = false) {b : Nat} {l1 : Int32} {l2 : Int32} {M : mM} {κ : Int32 → mM → Prop} {ξ : String → mM → Prop} (ht : ∀ E M, ξ E M → 1 ≤ t) (h : wX8_plan κ ξ (some b) l1 l2 M) : vx_Met l yX8_plan wsX8_plan ({ frames := 7, cells := (0 + 2 * t), slots := (0 + 12 * t), locals := 116 } : Room) (va_Pc [.ref b, .int l1, .int l2] (m_Pre G b0 M)) (va_Qi κ (m_B G b0) (fun q => b0 ≤ q)) (m_X G b0 ξ) (0 + 2 * t) (0 + 12 * t) (fun q => b0 ≤ q) := by
  refine m_metX (cc := cX8_plan) (maxL := 4) (ret := (some .int)) (lv := [(0, va_rf (some b)), (1, .int l1), (2, .int l2)]) RX8 rfl (by decide +kernel) rfl (by first | exact Nat.le_of_ble_eq_true rfl | simp [lg_sl, q_cat, q_catI, q_catJ, q_catR, q_catN]) (by first | rfl | (simp [lv_args, q_cat, q_catI, q_catJ, q_catR, q_catN]; done) | (simp [lv_args, q_cat, q_catI, q_catJ, q_catR, q_catN]; rfl)) ?_
  intro p e s m args below meth c C hr hlocks hx
  exact tX8_plan C hr hlocks hL hx ht h
/-! X8_wouldPay -/
set_option maxRecDepth 100000 in
set_option maxHeartbeats 4000000 in
theorem tX8_wouldPay {p : Program} {l : Launch} {e : Env} {s : State} {m : MethodId} {args : Array Value} {below : List Frame} {meth : Method} {c : Code} {G : mG} {b0 : Nat} (C : m_C p s m args c cX8_wouldPay 5 RX8 wsX8_wouldPay G b0) (hr : meth.sig.returnType = (some .int)) (hlocks : meth.locks = false) {t : Nat} (hL : l.stackTraces = false) (hx : ∀ x ∈ c.exceptionTable.toList, False) {κ : Int32 → mM → Prop} {ξ : String → mM → Prop} (ht : ∀ E M, ξ E M → 1 ≤ t) {l0 : Option Nat} {l1 : Int32} {M : mM} (h : wX8_wouldPay κ ξ l0 l1 M) : m_W p l e ({ frames := 7, cells := (0 + 1 * t), slots := (0 + 6 * t), locals := 111 } : Room) s m args below meth c G b0 (vx_MQ below (va_Qi κ (m_B G b0) (fun q => b0 ≤ q)) (m_X G b0 ξ) args s (0 + 1 * t) (0 + 6 * t) (fun q => b0 ≤ q)) 5 M 0 0 0 [(0, va_rf l0), (1, .int l1)] [] := by
  unfold wX8_wouldPay at h
  refine q_aload_n (pc := 0) C 0 0 dX8_wouldPay_0 rfl rfl ?_
  refine q_iload_n (pc := 1) C 1 1 dX8_wouldPay_1 rfl rfl ?_
  obtain ⟨b3, fs9, hb3, hm9, h⟩ := h
  refine q_cXq (pc := 2) (q_rVX C (st := []) (b := b3) (kX8_gateNumbered l G b0 (t := t) hL ht h) (cwV 1 C.2.2.2.2.1 gX8_wouldPay_X8_gateNumbered rfl rfl rfl (by decide +kernel) ⟨Nat.le_of_ble_eq_true rfl, Nat.le_of_ble_eq_true rfl⟩) hm9 rfl rfl rfl (by first | exact Nat.le_of_ble_eq_true rfl | (simp [q_cat, q_catI, q_catJ, q_catR, q_catN]; done)) (by rw [hb3]; first | done | rfl) dX8_wouldPay_2 ⟨(by first | omega | (dsimp only; omega)), (by first | omega | (dsimp only; omega))⟩) (fun E9 M9 h9 => q_out C hx hlocks h9 (by omega) (by omega)) (fun x1 M2 h => ?_)
  refine q_astore_n (pc := 5) C 2 [(2, va_rf x1), (0, va_rf l0), (1, .int l1)] dX8_wouldPay_5 rfl (by decide) (by first | rfl | simp [q_cat, q_catI, q_catJ, q_catR, q_catN]) ?_
  refine q_aload_n (pc := 6) C 2 0 dX8_wouldPay_6 rfl rfl ?_
  refine q_gR (pc := 7) C h (T := TX0) rfl (by decide) (wk_u bm_X8_wouldPay wm_X8_wouldPay uq_X0 (by decide +kernel)) (by decide +kernel) (fun _ h9 => h9) dX8_wouldPay_7 (fun x4 h => ?_)
  obtain ⟨b7, fs9, hb7, hm9, h⟩ := h
  refine q_ci (pc := 10) (q_rV C (st := []) (b := b7) (kJx4a65c_isEmpty_aae02 l G b0 h) (cwV 0 C.2.2.2.2.1 gX8_wouldPay_Jx4a65c_isEmpty_aae02 rfl rfl rfl (by decide +kernel) ⟨Nat.le_of_ble_eq_true rfl, Nat.le_of_ble_eq_true rfl⟩) hm9 rfl rfl rfl (by first | exact Nat.le_of_ble_eq_true rfl | (simp [q_cat, q_catI, q_catJ, q_catR, q_catN]; done)) (by rw [hb7]; first | done | rfl) dX8_wouldPay_10 ⟨(by first | omega | (dsimp only; omega)), (by first | omega | (dsimp only; omega))⟩) (fun x5 M6 h => ?_)
  refine q_if_eq (pc := 13) C 18 dX8_wouldPay_13 (by decide) (fun c8 => ?_) (fun c8 => ?_)
  · have h := h.1 c8
    refine q_aload_n (pc := 18) C 2 0 dX8_wouldPay_18 rfl rfl ?_
    refine q_gR (pc := 19) C h (T := TX0) rfl (by decide) (wk_u bm_X8_wouldPay wm_X8_wouldPay uq_X0 (by decide +kernel)) (by decide +kernel) (fun _ h9 => h9) dX8_wouldPay_19 (fun x9 h => ?_)
    refine q_iconst (pc := 22) C 0 dX8_wouldPay_22 (by decide) ?_
    obtain ⟨b12, fs9, hb12, hm9, h⟩ := h
    refine q_cq (pc := 23) (q_rV C (st := []) (b := b12) (kJx4a65c_get_915e3 l G b0 h) (cwV 1 C.2.2.2.2.1 gX8_wouldPay_Jx4a65c_get_915e3 rfl rfl rfl (by decide +kernel) ⟨Nat.le_of_ble_eq_true rfl, Nat.le_of_ble_eq_true rfl⟩) hm9 rfl rfl rfl (by first | exact Nat.le_of_ble_eq_true rfl | (simp [q_cat, q_catI, q_catJ, q_catR, q_catN]; done)) (by rw [hb12]; first | done | rfl) dX8_wouldPay_23 ⟨(by first | omega | (dsimp only; omega)), (by first | omega | (dsimp only; omega))⟩) (fun x10 M11 h => ?_)
    refine q_cast (pc := 26) C h rfl rfl (by decide +kernel) dX8_wouldPay_26 (fun h => ?_)
    refine q_astore_n (pc := 29) C 3 [(3, va_rf x10), (2, va_rf x1), (0, va_rf l0), (1, .int l1)] dX8_wouldPay_29 rfl (by decide) (by first | rfl | simp [q_cat, q_catI, q_catJ, q_catR, q_catN]) ?_
    refine q_aload_n (pc := 30) C 0 2 dX8_wouldPay_30 rfl rfl ?_
    refine q_aload_n (pc := 31) C 3 0 dX8_wouldPay_31 rfl rfl ?_
    refine q_aload_n (pc := 32) C 2 1 dX8_wouldPay_32 rfl rfl ?_
    obtain ⟨b15, fs9, hb15, hm9, h⟩ := h
    refine q_ci (pc := 33) (q_rV C (st := []) (b := b15) (kX8_passIsGood l G b0 h) (cwV 2 C.2.2.2.2.1 gX8_wouldPay_X8_passIsGood rfl rfl rfl (by decide +kernel) ⟨Nat.le_of_ble_eq_true rfl, Nat.le_of_ble_eq_true rfl⟩) hm9 rfl rfl rfl (by first | exact Nat.le_of_ble_eq_true rfl | (simp [q_cat, q_catI, q_catJ, q_catR, q_catN]; done)) (by rw [hb15]; first | done | rfl) dX8_wouldPay_33 ⟨(by first | omega | (dsimp only; omega)), (by first | omega | (dsimp only; omega))⟩) (fun x13 M14 h => ?_)
    refine q_if_ne (pc := 36) C 41 dX8_wouldPay_36 (by decide) (fun c16 => ?_) (fun c16 => ?_)
    · have h := h.2 c16
      refine q_aload_n (pc := 41) C 2 1 dX8_wouldPay_41 rfl rfl ?_
      refine q_aload_n (pc := 42) C 3 0 dX8_wouldPay_42 rfl rfl ?_
      refine q_gR (pc := 43) C h (T := TX6) rfl (by decide) (wk_u bm_X8_wouldPay wm_X8_wouldPay uq_X6 (by decide +kernel)) (by decide +kernel) (fun _ h9 => h9) dX8_wouldPay_43 (fun x17 h => ?_)
      obtain ⟨b20, fs9, hb20, hm9, h⟩ := h
      refine q_cq (pc := 46) (q_rV C (st := []) (b := b20) (kX0_across l G b0 h) (cwV 1 C.2.2.2.2.1 gX8_wouldPay_X0_across rfl rfl rfl (by decide +kernel) ⟨Nat.le_of_ble_eq_true rfl, Nat.le_of_ble_eq_true rfl⟩) hm9 rfl rfl rfl (by first | exact Nat.le_of_ble_eq_true rfl | (simp [q_cat, q_catI, q_catJ, q_catR, q_catN]; done)) (by rw [hb20]; first | done | rfl) dX8_wouldPay_46 ⟨(by first | omega | (dsimp only; omega)), (by first | omega | (dsimp only; omega))⟩) (fun x18 M19 h => ?_)
      refine q_astore (pc := 49) C 4 [(4, va_rf x18), (3, va_rf x10), (2, va_rf x1), (0, va_rf l0), (1, .int l1)] dX8_wouldPay_49 (by decide) (by first | rfl | simp [q_cat, q_catI, q_catJ, q_catR, q_catN]) ?_
      refine q_aload (pc := 51) C 4 0 dX8_wouldPay_51 rfl ?_
      refine q_aload_n (pc := 53) C 0 3 dX8_wouldPay_53 rfl rfl ?_
      refine q_aload_n (pc := 54) C 0 3 dX8_wouldPay_54 rfl rfl ?_
      refine q_aload_n (pc := 55) C 3 1 dX8_wouldPay_55 rfl rfl ?_
      refine q_aload (pc := 56) C 4 0 dX8_wouldPay_56 rfl ?_
      obtain ⟨b23, fs9, hb23, hm9, h⟩ := h
      refine q_ci (pc := 58) (q_rV C (st := [va_rf l0, va_rf x18]) (b := b23) (kX8_partsThatComeIn l G b0 h) (cwV 2 C.2.2.2.2.1 gX8_wouldPay_X8_partsThatComeIn rfl rfl rfl (by decide +kernel) ⟨Nat.le_of_ble_eq_true rfl, Nat.le_of_ble_eq_true rfl⟩) hm9 rfl rfl rfl (by first | exact Nat.le_of_ble_eq_true rfl | (simp [q_cat, q_catI, q_catJ, q_catR, q_catN]; done)) (by rw [hb23]; first | done | rfl) dX8_wouldPay_58 ⟨(by first | omega | (dsimp only; omega)), (by first | omega | (dsimp only; omega))⟩) (fun x21 M22 h => ?_)
      obtain ⟨b26, fs9, hb26, hm9, h⟩ := h
      refine q_ci (pc := 61) (q_rV C (st := [va_rf x18]) (b := b26) (kX8_worthOf l G b0 h) (cwV 1 C.2.2.2.2.1 gX8_wouldPay_X8_worthOf rfl rfl rfl (by decide +kernel) ⟨Nat.le_of_ble_eq_true rfl, Nat.le_of_ble_eq_true rfl⟩) hm9 rfl rfl rfl (by first | exact Nat.le_of_ble_eq_true rfl | (simp [q_cat, q_catI, q_catJ, q_catR, q_catN]; done)) (by rw [hb26]; first | done | rfl) dX8_wouldPay_61 ⟨(by first | omega | (dsimp only; omega)), (by first | omega | (dsimp only; omega))⟩) (fun x24 M25 h => ?_)
      obtain ⟨b29, fs9, hb29, hm9, h⟩ := h
      refine q_ci (pc := 64) (q_rV C (st := []) (b := b29) (kX2_dutyOn l G b0 h) (cwV 1 C.2.2.2.2.1 gX8_wouldPay_X2_dutyOn rfl rfl rfl (by decide +kernel) ⟨Nat.le_of_ble_eq_true rfl, Nat.le_of_ble_eq_true rfl⟩) hm9 rfl rfl rfl (by first | exact Nat.le_of_ble_eq_true rfl | (simp [q_cat, q_catI, q_catJ, q_catR, q_catN]; done)) (by rw [hb29]; first | done | rfl) dX8_wouldPay_64 ⟨(by first | omega | (dsimp only; omega)), (by first | omega | (dsimp only; omega))⟩) (fun x27 M28 h => ?_)
      exact q_iretX (pc := 67) C hr hlocks h dX8_wouldPay_67 (by omega) (by omega)
    · have h := h.1 c16
      refine q_iconst (pc := 39) C 0 dX8_wouldPay_39 (by decide) ?_
      exact q_iretX (pc := 40) C hr hlocks h dX8_wouldPay_40 (by omega) (by omega)
  · have h := h.2 c8
    refine q_iconst (pc := 16) C 0 dX8_wouldPay_16 (by decide) ?_
    exact q_iretX (pc := 17) C hr hlocks h dX8_wouldPay_17 (by omega) (by omega)
set_option maxRecDepth 100000 in
set_option maxHeartbeats 4000000 in
theorem kX8_wouldPay (l : Launch) (G : mG) (b0 : Nat) {t : Nat} (hL : l.stackTraces = false) {b : Nat} {l1 : Int32} {M : mM} {κ : Int32 → mM → Prop} {ξ : String → mM → Prop} (ht : ∀ E M, ξ E M → 1 ≤ t) (h : wX8_wouldPay κ ξ (some b) l1 M) : vx_Met l yX8_wouldPay wsX8_wouldPay ({ frames := 7, cells := (0 + 1 * t), slots := (0 + 6 * t), locals := 111 } : Room) (va_Pc [.ref b, .int l1] (m_Pre G b0 M)) (va_Qi κ (m_B G b0) (fun q => b0 ≤ q)) (m_X G b0 ξ) (0 + 1 * t) (0 + 6 * t) (fun q => b0 ≤ q) := by
  refine m_metX (cc := cX8_wouldPay) (maxL := 5) (ret := (some .int)) (lv := [(0, va_rf (some b)), (1, .int l1)]) RX8 rfl (by decide +kernel) rfl (by first | exact Nat.le_of_ble_eq_true rfl | simp [lg_sl, q_cat, q_catI, q_catJ, q_catR, q_catN]) (by first | rfl | (simp [lv_args, q_cat, q_catI, q_catJ, q_catR, q_catN]; done) | (simp [lv_args, q_cat, q_catI, q_catJ, q_catR, q_catN]; rfl)) ?_
  intro p e s m args below meth c C hr hlocks hx
  exact tX8_wouldPay C hr hlocks hL hx ht h
/-! X8_quotasOfAll -/
set_option maxRecDepth 100000 in
set_option maxHeartbeats 4000000 in
theorem tX8_quotasOfAll_13 {p : Program} {l : Launch} {e : Env} {s : State} {m : MethodId} {args : Array Value} {below : List Frame} {meth : Method} {c : Code} {G : mG} {b0 : Nat} (C : m_C p s m args c cX8_quotasOfAll 6 RX8 wsX8_quotasOfAll G b0) (hr : meth.sig.returnType = (some .int)) (hlocks : meth.locks = false) {κ : Int32 → mM → Prop} : ∀ (f : Nat) (l1 : Int32) (l2 : Option Nat) (l3 : Int32) (l4 : Int32) (M : mM), wX8_quotasOfAll_13 κ f l1 l2 l3 l4 M → m_W p l e ({ frames := 0, cells := 0, slots := 0, locals := 0 } : Room) s m args below meth c G b0 (MQ below (va_Qi κ (m_B G b0) (fun q => b0 ≤ q)) args s 0 0 (fun q => b0 ≤ q)) 6 M 0 0 13 [(1, .int l1), (2, va_rf l2), (3, .int l3), (4, .int l4)] [] := by
  intro f
  induction f with
  | zero =>
    intro l1 l2 l3 l4 M h
    exact absurd h (by simp [wX8_quotasOfAll_13])
  | succ f ih =>
    intro l1 l2 l3 l4 M h
    rw [wX8_quotasOfAll_13] at h
    refine q_iload (pc := 13) C 4 3 dX8_quotasOfAll_13 rfl ?_
    refine q_iload_n (pc := 15) C 3 2 dX8_quotasOfAll_15 rfl rfl ?_
    refine q_icmp_ge (pc := 16) C 39 dX8_quotasOfAll_16 (by decide) (fun c1 => ?_) (fun c1 => ?_)
    · have h := h.1 c1
      refine q_iload_n (pc := 39) C 1 0 dX8_quotasOfAll_39 rfl rfl ?_
      exact q_iret (pc := 40) C hr hlocks h dX8_quotasOfAll_40 (by omega) (by omega)
    · have h := h.2 c1
      refine q_aload_n (pc := 19) C 2 1 dX8_quotasOfAll_19 rfl rfl ?_
      refine q_iload (pc := 20) C 4 3 dX8_quotasOfAll_20 rfl ?_
      refine q_aald (pc := 22) C h rfl dX8_quotasOfAll_22 (fun x2 h => ?_)
      refine q_astore (pc := 23) C 5 [(5, va_rf x2), (1, .int l1), (2, va_rf l2), (3, .int l3), (4, .int l4)] dX8_quotasOfAll_23 (by decide) (by first | rfl | simp [q_cat, q_catI, q_catJ, q_catR, q_catN]) ?_
      refine q_iload_n (pc := 25) C 1 1 dX8_quotasOfAll_25 rfl rfl ?_
      refine q_aload (pc := 26) C 5 0 dX8_quotasOfAll_26 rfl ?_
      refine q_gI (pc := 28) C h (T := TX2) rfl (by decide) (wk_u rfl wm_X8_quotasOfAll uq_X2 (by decide +kernel)) (by decide +kernel) (fun _ h9 => h9) dX8_quotasOfAll_28 (fun x3 h => ?_)
      refine q_iadd (pc := 31) C dX8_quotasOfAll_31 ?_
      refine q_istore_n (pc := 32) C 1 [(1, .int (l1 + x3)), (5, va_rf x2), (2, va_rf l2), (3, .int l3), (4, .int l4)] dX8_quotasOfAll_32 rfl (by decide) (by first | rfl | simp [q_cat, q_catI, q_catJ, q_catR, q_catN]) ?_
      refine q_iinc (pc := 33) C 4 4 (l4 + 1) [(4, .int (l4 + 1)), (1, .int (l1 + x3)), (5, va_rf x2), (2, va_rf l2), (3, .int l3)] dX8_quotasOfAll_33 rfl (by rfl) (by decide) (by first | rfl | simp [q_cat, q_catI, q_catJ, q_catR, q_catN]) ?_
      refine q_goto (pc := 36) C 13 dX8_quotasOfAll_36 (by decide) ?_
      refine q_widen (k2 := 0) (n2 := 0) (by omega) (by omega) ?_
      refine q_lv [1, 3, 4, 0] rfl ?_
      exact ih _ _ _ _ _ h
set_option maxRecDepth 100000 in
set_option maxHeartbeats 4000000 in
theorem tX8_quotasOfAll {p : Program} {l : Launch} {e : Env} {s : State} {m : MethodId} {args : Array Value} {below : List Frame} {meth : Method} {c : Code} {G : mG} {b0 : Nat} (C : m_C p s m args c cX8_quotasOfAll 6 RX8 wsX8_quotasOfAll G b0) (hr : meth.sig.returnType = (some .int)) (hlocks : meth.locks = false) {κ : Int32 → mM → Prop} {l0 : Option Nat} {M : mM} (h : wX8_quotasOfAll κ l0 M) : m_W p l e ({ frames := 0, cells := 0, slots := 0, locals := 0 } : Room) s m args below meth c G b0 (MQ below (va_Qi κ (m_B G b0) (fun q => b0 ≤ q)) args s 0 0 (fun q => b0 ≤ q)) 6 M 0 0 0 [(0, va_rf l0)] [] := by
  unfold wX8_quotasOfAll at h
  refine q_iconst (pc := 0) C 0 dX8_quotasOfAll_0 (by decide) ?_
  refine q_istore_n (pc := 1) C 1 [(1, .int 0), (0, va_rf l0)] dX8_quotasOfAll_1 rfl (by decide) (by first | rfl | simp [q_cat, q_catI, q_catJ, q_catR, q_catN]) ?_
  refine q_aload_n (pc := 2) C 0 1 dX8_quotasOfAll_2 rfl rfl ?_
  refine q_gR (pc := 3) C h (T := TX8) rfl (by decide) (wk_u rfl wm_X8_quotasOfAll uq_X8 (by decide +kernel)) (by decide +kernel) (fun _ h9 => h9) dX8_quotasOfAll_3 (fun x1 h => ?_)
  refine q_astore_n (pc := 6) C 2 [(2, va_rf x1), (1, .int 0), (0, va_rf l0)] dX8_quotasOfAll_6 rfl (by decide) (by first | rfl | simp [q_cat, q_catI, q_catJ, q_catR, q_catN]) ?_
  refine q_aload_n (pc := 7) C 2 0 dX8_quotasOfAll_7 rfl rfl ?_
  refine q_len (pc := 8) C h dX8_quotasOfAll_8 (fun x2 h => ?_)
  refine q_istore_n (pc := 9) C 3 [(3, .int x2), (2, va_rf x1), (1, .int 0), (0, va_rf l0)] dX8_quotasOfAll_9 rfl (by decide) (by first | rfl | simp [q_cat, q_catI, q_catJ, q_catR, q_catN]) ?_
  refine q_iconst (pc := 10) C 0 dX8_quotasOfAll_10 (by decide) ?_
  refine q_istore (pc := 11) C 4 [(4, .int 0), (3, .int x2), (2, va_rf x1), (1, .int 0), (0, va_rf l0)] dX8_quotasOfAll_11 (by decide) (by first | rfl | simp [q_cat, q_catI, q_catJ, q_catR, q_catN]) ?_
  refine q_widen (k2 := 0) (n2 := 0) (by omega) (by omega) ?_
  refine q_lv [3, 2, 1, 0] rfl ?_
  obtain ⟨f9, h⟩ := h
  exact tX8_quotasOfAll_13 C hr hlocks f9 _ _ _ _ _ h
set_option maxRecDepth 100000 in
set_option maxHeartbeats 4000000 in
theorem kX8_quotasOfAll (l : Launch) (G : mG) (b0 : Nat) {b : Nat} {M : mM} {κ : Int32 → mM → Prop} (h : wX8_quotasOfAll κ (some b) M) : Met l yX8_quotasOfAll wsX8_quotasOfAll ({ frames := 0, cells := 0, slots := 0, locals := 0 } : Room) (va_Pc [.ref b] (m_Pre G b0 M)) (va_Qi κ (m_B G b0) (fun q => b0 ≤ q)) 0 0 (fun q => b0 ≤ q) := by
  refine m_met (cc := cX8_quotasOfAll) (maxL := 6) (ret := (some .int)) (lv := [(0, va_rf (some b))]) RX8 rfl (by decide +kernel) rfl (by first | exact Nat.le_of_ble_eq_true rfl | simp [lg_sl, q_cat, q_catI, q_catJ, q_catR, q_catN]) (by first | rfl | (simp [lv_args, q_cat, q_catI, q_catJ, q_catR, q_catN]; done) | (simp [lv_args, q_cat, q_catI, q_catJ, q_catR, q_catN]; rfl)) ?_
  intro p e s m args below meth c C hr hlocks hni
  exact tX8_quotasOfAll C hr hlocks h
/-! X8_sleeperIsSound -/
set_option maxRecDepth 100000 in
set_option maxHeartbeats 4000000 in
theorem tX8_sleeperIsSound_85 {p : Program} {l : Launch} {e : Env} {s : State} {m : MethodId} {args : Array Value} {below : List Frame} {meth : Method} {c : Code} {G : mG} {b0 : Nat} (C : m_C p s m args c cX8_sleeperIsSound 5 RX8 wsX8_sleeperIsSound G b0) (hr : meth.sig.returnType = (some .boolean)) (hlocks : meth.locks = false) {κ : Int32 → mM → Prop} {l0 : Option Nat} {l1 : Option Nat} {s0 : Int32} {s1 : Int32} {M : mM} (h : wX8_sleeperIsSound_85 κ l0 l1 s0 s1 M) : m_W p l e ({ frames := 4, cells := 0, slots := 0, locals := 88 } : Room) s m args below meth c G b0 (MQ below (va_Qi κ (m_B G b0) (fun q => b0 ≤ q)) args s 0 0 (fun q => b0 ≤ q)) 5 M 0 0 85 [(0, va_rf l0), (1, va_rf l1)] [.int s0, .int s1] := by
  unfold wX8_sleeperIsSound_85 at h
  refine q_icmp_eq (pc := 85) C 90 dX8_sleeperIsSound_85 (by decide) (fun c1 => ?_) (fun c1 => ?_)
  · have h := h.1 c1
    refine q_aload_n (pc := 90) C 1 1 dX8_sleeperIsSound_90 rfl rfl ?_
    refine q_gI (pc := 91) C h (T := TX6) rfl (by decide) (wk_u rfl wm_X8_sleeperIsSound uq_X6 (by decide +kernel)) (by decide +kernel) (fun _ h9 => h9) dX8_sleeperIsSound_91 (fun x2 h => ?_)
    refine q_if_lt (pc := 94) C 106 dX8_sleeperIsSound_94 (by decide) (fun c3 => ?_) (fun c3 => ?_)
    · have h := h.1 c3
      refine q_iconst (pc := 106) C 0 dX8_sleeperIsSound_106 (by decide) ?_
      exact q_zret (pc := 107) C hr hlocks ⟨(by decide), h⟩ dX8_sleeperIsSound_107 (by omega) (by omega)
    · have h := h.2 c3
      refine q_aload_n (pc := 97) C 1 1 dX8_sleeperIsSound_97 rfl rfl ?_
      refine q_gI (pc := 98) C h (T := TX6) rfl (by decide) (wk_u rfl wm_X8_sleeperIsSound uq_X6 (by decide +kernel)) (by decide +kernel) (fun _ h9 => h9) dX8_sleeperIsSound_98 (fun x4 h => ?_)
      refine q_bipush (pc := 101) C 9 dX8_sleeperIsSound_101 (by decide) ?_
      refine q_icmp_le (pc := 103) C 108 dX8_sleeperIsSound_103 (by decide) (fun c5 => ?_) (fun c5 => ?_)
      · have h := h.1 c5
        refine q_aload_n (pc := 108) C 1 1 dX8_sleeperIsSound_108 rfl rfl ?_
        refine q_gI (pc := 109) C h (T := TX6) rfl (by decide) (wk_u rfl wm_X8_sleeperIsSound uq_X6 (by decide +kernel)) (by decide +kernel) (fun _ h9 => h9) dX8_sleeperIsSound_109 (fun x6 h => ?_)
        refine q_iconst (pc := 112) C 2 dX8_sleeperIsSound_112 (by decide) ?_
        refine q_icmp_ne (pc := 113) C 124 dX8_sleeperIsSound_113 (by decide) (fun c7 => ?_) (fun c7 => ?_)
        · have h := h.2 c7
          refine q_iconst (pc := 124) C 1 dX8_sleeperIsSound_124 (by decide) ?_
          refine q_goto (pc := 125) C 129 dX8_sleeperIsSound_125 (by decide) ?_
          exact q_zret (pc := 129) C hr hlocks ⟨(by decide), h⟩ dX8_sleeperIsSound_129 (by omega) (by omega)
        · have h := h.1 c7
          refine q_aload_n (pc := 116) C 0 0 dX8_sleeperIsSound_116 rfl rfl ?_
          refine q_aload_n (pc := 117) C 1 1 dX8_sleeperIsSound_117 rfl rfl ?_
          obtain ⟨b10, fs9, hb10, hm9, h⟩ := h
          refine q_ci (pc := 118) (q_rV C (st := []) (b := b10) (kX8_headOf l G b0 h) (cwV 1 C.2.2.2.2.1 gX8_sleeperIsSound_X8_headOf rfl rfl rfl (by decide +kernel) ⟨Nat.le_of_ble_eq_true rfl, Nat.le_of_ble_eq_true rfl⟩) hm9 rfl rfl rfl (by first | exact Nat.le_of_ble_eq_true rfl | (simp [q_cat, q_catI, q_catJ, q_catR, q_catN]; done)) (by rw [hb10]; first | done | rfl) dX8_sleeperIsSound_118 ⟨(by first | omega | (dsimp only; omega)), (by first | omega | (dsimp only; omega))⟩) (fun x8 M9 h => ?_)
          refine q_if_ne (pc := 121) C 128 dX8_sleeperIsSound_121 (by decide) (fun c11 => ?_) (fun c11 => ?_)
          · have h := h.2 c11
            refine q_iconst (pc := 128) C 0 dX8_sleeperIsSound_128 (by decide) ?_
            exact q_zret (pc := 129) C hr hlocks ⟨(by decide), h⟩ dX8_sleeperIsSound_129 (by omega) (by omega)
          · have h := h.1 c11
            refine q_iconst (pc := 124) C 1 dX8_sleeperIsSound_124 (by decide) ?_
            refine q_goto (pc := 125) C 129 dX8_sleeperIsSound_125 (by decide) ?_
            exact q_zret (pc := 129) C hr hlocks ⟨(by decide), h⟩ dX8_sleeperIsSound_129 (by omega) (by omega)
      · have h := h.2 c5
        refine q_iconst (pc := 106) C 0 dX8_sleeperIsSound_106 (by decide) ?_
        exact q_zret (pc := 107) C hr hlocks ⟨(by decide), h⟩ dX8_sleeperIsSound_107 (by omega) (by omega)
  · have h := h.2 c1
    refine q_iconst (pc := 88) C 0 dX8_sleeperIsSound_88 (by decide) ?_
    exact q_zret (pc := 89) C hr hlocks ⟨(by decide), h⟩ dX8_sleeperIsSound_89 (by omega) (by omega)
set_option maxRecDepth 100000 in
set_option maxHeartbeats 4000000 in
theorem tX8_sleeperIsSound_60 {p : Program} {l : Launch} {e : Env} {s : State} {m : MethodId} {args : Array Value} {below : List Frame} {meth : Method} {c : Code} {G : mG} {b0 : Nat} (C : m_C p s m args c cX8_sleeperIsSound 5 RX8 wsX8_sleeperIsSound G b0) (hr : meth.sig.returnType = (some .boolean)) (hlocks : meth.locks = false) {κ : Int32 → mM → Prop} {R4 : Option Nat → Option Nat → Int32 → Int32 → mM → Prop} (hR4 : ∀ (l0 : Option Nat) (l1 : Option Nat) (l2 : Int32) (l3 : Int32) (M : mM), R4 l0 l1 l2 l3 M → m_W p l e ({ frames := 4, cells := 0, slots := 0, locals := 88 } : Room) s m args below meth c G b0 (MQ below (va_Qi κ (m_B G b0) (fun q => b0 ≤ q)) args s 0 0 (fun q => b0 ≤ q)) 5 M 0 0 4 [(0, va_rf l0), (1, va_rf l1), (2, .int l2), (3, .int l3)] []) {l0 : Option Nat} {l1 : Option Nat} {l2 : Int32} {l3 : Int32} {l4 : Int32} {M : mM} (h : wX8_sleeperIsSound_60 κ R4 l0 l1 l2 l3 l4 M) : m_W p l e ({ frames := 4, cells := 0, slots := 0, locals := 88 } : Room) s m args below meth c G b0 (MQ below (va_Qi κ (m_B G b0) (fun q => b0 ≤ q)) args s 0 0 (fun q => b0 ≤ q)) 5 M 0 0 60 [(0, va_rf l0), (1, va_rf l1), (2, .int l2), (3, .int l3), (4, .int l4)] [] := by
  unfold wX8_sleeperIsSound_60 at h
  refine q_iload_n (pc := 60) C 2 2 dX8_sleeperIsSound_60 rfl rfl ?_
  refine q_iload (pc := 61) C 4 4 dX8_sleeperIsSound_61 rfl ?_
  refine q_iadd (pc := 63) C dX8_sleeperIsSound_63 ?_
  refine q_istore_n (pc := 64) C 2 [(2, .int (l2 + l4)), (0, va_rf l0), (1, va_rf l1), (3, .int l3), (4, .int l4)] dX8_sleeperIsSound_64 rfl (by decide) (by first | rfl | simp [q_cat, q_catI, q_catJ, q_catR, q_catN]) ?_
  refine q_iinc (pc := 65) C 3 3 (l3 + 1) [(3, .int (l3 + 1)), (2, .int (l2 + l4)), (0, va_rf l0), (1, va_rf l1), (4, .int l4)] dX8_sleeperIsSound_65 rfl (by rfl) (by decide) (by first | rfl | simp [q_cat, q_catI, q_catJ, q_catR, q_catN]) ?_
  refine q_goto (pc := 68) C 4 dX8_sleeperIsSound_68 (by decide) ?_
  refine q_widen (k2 := 0) (n2 := 0) (by omega) (by omega) ?_
  refine q_lv [2, 3, 1, 0] rfl ?_
  exact hR4 _ _ _ _ _ h
set_option maxRecDepth 100000 in
set_option maxHeartbeats 4000000 in
theorem tX8_sleeperIsSound_4 {p : Program} {l : Launch} {e : Env} {s : State} {m : MethodId} {args : Array Value} {below : List Frame} {meth : Method} {c : Code} {G : mG} {b0 : Nat} (C : m_C p s m args c cX8_sleeperIsSound 5 RX8 wsX8_sleeperIsSound G b0) (hr : meth.sig.returnType = (some .boolean)) (hlocks : meth.locks = false) {κ : Int32 → mM → Prop} : ∀ (f : Nat) (l0 : Option Nat) (l1 : Option Nat) (l2 : Int32) (l3 : Int32) (M : mM), wX8_sleeperIsSound_4 κ f l0 l1 l2 l3 M → m_W p l e ({ frames := 4, cells := 0, slots := 0, locals := 88 } : Room) s m args below meth c G b0 (MQ below (va_Qi κ (m_B G b0) (fun q => b0 ≤ q)) args s 0 0 (fun q => b0 ≤ q)) 5 M 0 0 4 [(0, va_rf l0), (1, va_rf l1), (2, .int l2), (3, .int l3)] [] := by
  intro f
  induction f with
  | zero =>
    intro l0 l1 l2 l3 M h
    exact absurd h (by simp [wX8_sleeperIsSound_4])
  | succ f ih =>
    intro l0 l1 l2 l3 M h
    rw [wX8_sleeperIsSound_4] at h
    refine q_iload_n (pc := 4) C 3 3 dX8_sleeperIsSound_4 rfl rfl ?_
    refine q_aload_n (pc := 5) C 0 0 dX8_sleeperIsSound_5 rfl rfl ?_
    refine q_gR (pc := 6) C h (T := TX8) rfl (by decide) (wk_u rfl wm_X8_sleeperIsSound uq_X8 (by decide +kernel)) (by decide +kernel) (fun _ h9 => h9) dX8_sleeperIsSound_6 (fun x1 h => ?_)
    obtain ⟨b4, fs9, hb4, hm9, h⟩ := h
    refine q_ci (pc := 9) (q_rV C (st := [.int l3]) (b := b4) (kJx4a65c_size_8abf5 l G b0 h) (cwV 0 C.2.2.2.2.1 gX8_sleeperIsSound_Jx4a65c_size_8abf5 rfl rfl rfl (by decide +kernel) ⟨Nat.le_of_ble_eq_true rfl, Nat.le_of_ble_eq_true rfl⟩) hm9 rfl rfl rfl (by first | exact Nat.le_of_ble_eq_true rfl | (simp [q_cat, q_catI, q_catJ, q_catR, q_catN]; done)) (by rw [hb4]; first | done | rfl) dX8_sleeperIsSound_9 ⟨(by first | omega | (dsimp only; omega)), (by first | omega | (dsimp only; omega))⟩) (fun x2 M3 h => ?_)
    refine q_icmp_ge (pc := 12) C 71 dX8_sleeperIsSound_12 (by decide) (fun c5 => ?_) (fun c5 => ?_)
    · have h := h.1 c5
      refine q_iload_n (pc := 71) C 2 2 dX8_sleeperIsSound_71 rfl rfl ?_
      refine q_aload_n (pc := 72) C 1 1 dX8_sleeperIsSound_72 rfl rfl ?_
      refine q_gI (pc := 73) C h (T := TX6) rfl (by decide) (wk_u rfl wm_X8_sleeperIsSound uq_X6 (by decide +kernel)) (by decide +kernel) (fun _ h9 => h9) dX8_sleeperIsSound_73 (fun x6 h => ?_)
      refine q_iconst (pc := 76) C 1 dX8_sleeperIsSound_76 (by decide) ?_
      refine q_icmp_ne (pc := 77) C 84 dX8_sleeperIsSound_77 (by decide) (fun c7 => ?_) (fun c7 => ?_)
      · have h := h.2 c7
        refine q_iconst (pc := 84) C 0 dX8_sleeperIsSound_84 (by decide) ?_
        refine q_widen (k2 := 0) (n2 := 0) (by omega) (by omega) ?_
        refine q_lv [0, 1] rfl ?_
        exact tX8_sleeperIsSound_85 C hr hlocks h
      · have h := h.1 c7
        refine q_iconst (pc := 80) C 1 dX8_sleeperIsSound_80 (by decide) ?_
        refine q_goto (pc := 81) C 85 dX8_sleeperIsSound_81 (by decide) ?_
        refine q_widen (k2 := 0) (n2 := 0) (by omega) (by omega) ?_
        refine q_lv [0, 1] rfl ?_
        exact tX8_sleeperIsSound_85 C hr hlocks h
    · have h := h.2 c5
      refine q_aload_n (pc := 15) C 0 0 dX8_sleeperIsSound_15 rfl rfl ?_
      refine q_gR (pc := 16) C h (T := TX8) rfl (by decide) (wk_u rfl wm_X8_sleeperIsSound uq_X8 (by decide +kernel)) (by decide +kernel) (fun _ h9 => h9) dX8_sleeperIsSound_16 (fun x8 h => ?_)
      refine q_iload_n (pc := 19) C 3 3 dX8_sleeperIsSound_19 rfl rfl ?_
      obtain ⟨b11, fs9, hb11, hm9, h⟩ := h
      refine q_cq (pc := 20) (q_rV C (st := []) (b := b11) (kJx4a65c_get_915e3 l G b0 h) (cwV 1 C.2.2.2.2.1 gX8_sleeperIsSound_Jx4a65c_get_915e3 rfl rfl rfl (by decide +kernel) ⟨Nat.le_of_ble_eq_true rfl, Nat.le_of_ble_eq_true rfl⟩) hm9 rfl rfl rfl (by first | exact Nat.le_of_ble_eq_true rfl | (simp [q_cat, q_catI, q_catJ, q_catR, q_catN]; done)) (by rw [hb11]; first | done | rfl) dX8_sleeperIsSound_20 ⟨(by first | omega | (dsimp only; omega)), (by first | omega | (dsimp only; omega))⟩) (fun x9 M10 h => ?_)
      refine q_cast (pc := 23) C h rfl rfl (by decide +kernel) dX8_sleeperIsSound_23 (fun h => ?_)
      refine q_aload_n (pc := 26) C 1 1 dX8_sleeperIsSound_26 rfl rfl ?_
      obtain ⟨b14, fs9, hb14, hm9, h⟩ := h
      refine q_ci (pc := 27) (q_rV C (st := []) (b := b14) (kX0_timesInLine l G b0 h) (cwV 1 C.2.2.2.2.1 gX8_sleeperIsSound_X0_timesInLine rfl rfl rfl (by decide +kernel) ⟨Nat.le_of_ble_eq_true rfl, Nat.le_of_ble_eq_true rfl⟩) hm9 rfl rfl rfl (by first | exact Nat.le_of_ble_eq_true rfl | (simp [q_cat, q_catI, q_catJ, q_catR, q_catN]; done)) (by rw [hb14]; first | done | rfl) dX8_sleeperIsSound_27 ⟨(by first | omega | (dsimp only; omega)), (by first | omega | (dsimp only; omega))⟩) (fun x12 M13 h => ?_)
      refine q_istore (pc := 30) C 4 [(4, .int x12), (0, va_rf l0), (1, va_rf l1), (2, .int l2), (3, .int l3)] dX8_sleeperIsSound_30 (by decide) (by first | rfl | simp [q_cat, q_catI, q_catJ, q_catR, q_catN]) ?_
      refine q_iload (pc := 32) C 4 0 dX8_sleeperIsSound_32 rfl ?_
      refine q_if_le (pc := 34) C 60 dX8_sleeperIsSound_34 (by decide) (fun c15 => ?_) (fun c15 => ?_)
      · have h := h.1 c15
        refine q_widen (k2 := 0) (n2 := 0) (by omega) (by omega) ?_
        refine q_lv [1, 2, 3, 4, 0] rfl ?_
        exact tX8_sleeperIsSound_60 C hr hlocks ih h
      · have h := h.2 c15
        refine q_aload_n (pc := 37) C 0 1 dX8_sleeperIsSound_37 rfl rfl ?_
        refine q_gR (pc := 38) C h (T := TX8) rfl (by decide) (wk_u rfl wm_X8_sleeperIsSound uq_X8 (by decide +kernel)) (by decide +kernel) (fun _ h9 => h9) dX8_sleeperIsSound_38 (fun x16 h => ?_)
        refine q_iload_n (pc := 41) C 3 4 dX8_sleeperIsSound_41 rfl rfl ?_
        obtain ⟨b19, fs9, hb19, hm9, h⟩ := h
        refine q_cq (pc := 42) (q_rV C (st := []) (b := b19) (kJx4a65c_get_915e3 l G b0 h) (cwV 1 C.2.2.2.2.1 gX8_sleeperIsSound_Jx4a65c_get_915e3 rfl rfl rfl (by decide +kernel) ⟨Nat.le_of_ble_eq_true rfl, Nat.le_of_ble_eq_true rfl⟩) hm9 rfl rfl rfl (by first | exact Nat.le_of_ble_eq_true rfl | (simp [q_cat, q_catI, q_catJ, q_catR, q_catN]; done)) (by rw [hb19]; first | done | rfl) dX8_sleeperIsSound_42 ⟨(by first | omega | (dsimp only; omega)), (by first | omega | (dsimp only; omega))⟩) (fun x17 M18 h => ?_)
        refine q_cast (pc := 45) C h rfl rfl (by decide +kernel) dX8_sleeperIsSound_45 (fun h => ?_)
        refine q_aload_n (pc := 48) C 1 2 dX8_sleeperIsSound_48 rfl rfl ?_
        refine q_gR (pc := 49) C h (T := TX6) rfl (by decide) (wk_u rfl wm_X8_sleeperIsSound uq_X6 (by decide +kernel)) (by decide +kernel) (fun _ h9 => h9) dX8_sleeperIsSound_49 (fun x20 h => ?_)
        obtain ⟨b23, fs9, hb23, hm9, h⟩ := h
        refine q_ci (pc := 52) (q_rV C (st := []) (b := b23) (kX0_isAt l G b0 h) (cwV 1 C.2.2.2.2.1 gX8_sleeperIsSound_X0_isAt rfl rfl rfl (by decide +kernel) ⟨Nat.le_of_ble_eq_true rfl, Nat.le_of_ble_eq_true rfl⟩) hm9 rfl rfl rfl (by first | exact Nat.le_of_ble_eq_true rfl | (simp [q_cat, q_catI, q_catJ, q_catR, q_catN]; done)) (by rw [hb23]; first | done | rfl) dX8_sleeperIsSound_52 ⟨(by first | omega | (dsimp only; omega)), (by first | omega | (dsimp only; omega))⟩) (fun x21 M22 h => ?_)
        refine q_if_ne (pc := 55) C 60 dX8_sleeperIsSound_55 (by decide) (fun c24 => ?_) (fun c24 => ?_)
        · have h := h.2 c24
          refine q_widen (k2 := 0) (n2 := 0) (by omega) (by omega) ?_
          refine q_lv [1, 2, 3, 4, 0] rfl ?_
          exact tX8_sleeperIsSound_60 C hr hlocks ih h
        · have h := h.1 c24
          refine q_iconst (pc := 58) C 0 dX8_sleeperIsSound_58 (by decide) ?_
          exact q_zret (pc := 59) C hr hlocks ⟨(by decide), h⟩ dX8_sleeperIsSound_59 (by omega) (by omega)
set_option maxRecDepth 100000 in
set_option maxHeartbeats 4000000 in
theorem tX8_sleeperIsSound {p : Program} {l : Launch} {e : Env} {s : State} {m : MethodId} {args : Array Value} {below : List Frame} {meth : Method} {c : Code} {G : mG} {b0 : Nat} (C : m_C p s m args c cX8_sleeperIsSound 5 RX8 wsX8_sleeperIsSound G b0) (hr : meth.sig.returnType = (some .boolean)) (hlocks : meth.locks = false) {κ : Int32 → mM → Prop} {l0 : Option Nat} {l1 : Option Nat} {M : mM} (h : wX8_sleeperIsSound κ l0 l1 M) : m_W p l e ({ frames := 4, cells := 0, slots := 0, locals := 88 } : Room) s m args below meth c G b0 (MQ below (va_Qi κ (m_B G b0) (fun q => b0 ≤ q)) args s 0 0 (fun q => b0 ≤ q)) 5 M 0 0 0 [(0, va_rf l0), (1, va_rf l1)] [] := by
  unfold wX8_sleeperIsSound at h
  refine q_iconst (pc := 0) C 0 dX8_sleeperIsSound_0 (by decide) ?_
  refine q_istore_n (pc := 1) C 2 [(2, .int 0), (0, va_rf l0), (1, va_rf l1)] dX8_sleeperIsSound_1 rfl (by decide) (by first | rfl | simp [q_cat, q_catI, q_catJ, q_catR, q_catN]) ?_
  refine q_iconst (pc := 2) C 0 dX8_sleeperIsSound_2 (by decide) ?_
  refine q_istore_n (pc := 3) C 3 [(3, .int 0), (2, .int 0), (0, va_rf l0), (1, va_rf l1)] dX8_sleeperIsSound_3 rfl (by decide) (by first | rfl | simp [q_cat, q_catI, q_catJ, q_catR, q_catN]) ?_
  refine q_widen (k2 := 0) (n2 := 0) (by omega) (by omega) ?_
  refine q_lv [2, 3, 1, 0] rfl ?_
  obtain ⟨f9, h⟩ := h
  exact tX8_sleeperIsSound_4 C hr hlocks f9 _ _ _ _ _ h
set_option maxRecDepth 100000 in
set_option maxHeartbeats 4000000 in
theorem kX8_sleeperIsSound (l : Launch) (G : mG) (b0 : Nat) {b : Nat} {l1 : Option Nat} {M : mM} {κ : Int32 → mM → Prop} (h : wX8_sleeperIsSound κ (some b) l1 M) : Met l yX8_sleeperIsSound wsX8_sleeperIsSound ({ frames := 4, cells := 0, slots := 0, locals := 88 } : Room) (va_Pc [.ref b, va_rf l1] (m_Pre G b0 M)) (va_Qi κ (m_B G b0) (fun q => b0 ≤ q)) 0 0 (fun q => b0 ≤ q) := by
  refine m_met (cc := cX8_sleeperIsSound) (maxL := 5) (ret := (some .boolean)) (lv := [(0, va_rf (some b)), (1, va_rf l1)]) RX8 rfl (by decide +kernel) rfl (by first | exact Nat.le_of_ble_eq_true rfl | simp [lg_sl, q_cat, q_catI, q_catJ, q_catR, q_catN]) (by first | rfl | (simp [lv_args, q_cat, q_catI, q_catJ, q_catR, q_catN]; done) | (simp [lv_args, q_cat, q_catI, q_catJ, q_catR, q_catN]; rfl)) ?_
  intro p e s m args below meth c C hr hlocks hni
  exact tX8_sleeperIsSound C hr hlocks h
/-! X8_isSound -/
set_option maxRecDepth 100000 in
set_option maxHeartbeats 4000000 in
theorem tX8_isSound_64 {p : Program} {l : Launch} {e : Env} {s : State} {m : MethodId} {args : Array Value} {below : List Frame} {meth : Method} {c : Code} {G : mG} {b0 : Nat} (C : m_C p s m args c cX8_isSound 2 RX8 wsX8_isSound G b0) (hr : meth.sig.returnType = (some .boolean)) (hlocks : meth.locks = false) {κ : Int32 → mM → Prop} : ∀ (f : Nat) (l0 : Option Nat) (l1 : Int32) (M : mM), wX8_isSound_64 κ f l0 l1 M → m_W p l e ({ frames := 5, cells := 0, slots := 0, locals := 112 } : Room) s m args below meth c G b0 (MQ below (va_Qi κ (m_B G b0) (fun q => b0 ≤ q)) args s 0 0 (fun q => b0 ≤ q)) 2 M 0 0 64 [(0, va_rf l0), (1, .int l1)] [] := by
  intro f
  induction f with
  | zero =>
    intro l0 l1 M h
    exact absurd h (by simp [wX8_isSound_64])
  | succ f ih =>
    intro l0 l1 M h
    rw [wX8_isSound_64] at h
    refine q_iload_n (pc := 64) C 1 1 dX8_isSound_64 rfl rfl ?_
    refine q_aload_n (pc := 65) C 0 0 dX8_isSound_65 rfl rfl ?_
    refine q_gR (pc := 66) C h (T := TX8) rfl (by decide) (wk_u rfl wm_X8_isSound uq_X8 (by decide +kernel)) (by decide +kernel) (fun _ h9 => h9) dX8_isSound_66 (fun x1 h => ?_)
    obtain ⟨b4, fs9, hb4, hm9, h⟩ := h
    refine q_ci (pc := 69) (q_rV C (st := [.int l1]) (b := b4) (kJx4a65c_size_8abf5 l G b0 h) (cwV 0 C.2.2.2.2.1 gX8_isSound_Jx4a65c_size_8abf5 rfl rfl rfl (by decide +kernel) ⟨Nat.le_of_ble_eq_true rfl, Nat.le_of_ble_eq_true rfl⟩) hm9 rfl rfl rfl (by first | exact Nat.le_of_ble_eq_true rfl | (simp [q_cat, q_catI, q_catJ, q_catR, q_catN]; done)) (by rw [hb4]; first | done | rfl) dX8_isSound_69 ⟨(by first | omega | (dsimp only; omega)), (by first | omega | (dsimp only; omega))⟩) (fun x2 M3 h => ?_)
    refine q_icmp_ge (pc := 72) C 100 dX8_isSound_72 (by decide) (fun c5 => ?_) (fun c5 => ?_)
    · have h := h.1 c5
      refine q_iconst (pc := 100) C 1 dX8_isSound_100 (by decide) ?_
      exact q_zret (pc := 101) C hr hlocks ⟨(by decide), h⟩ dX8_isSound_101 (by omega) (by omega)
    · have h := h.2 c5
      refine q_aload_n (pc := 75) C 0 0 dX8_isSound_75 rfl rfl ?_
      refine q_gR (pc := 76) C h (T := TX8) rfl (by decide) (wk_u rfl wm_X8_isSound uq_X8 (by decide +kernel)) (by decide +kernel) (fun _ h9 => h9) dX8_isSound_76 (fun x6 h => ?_)
      refine q_iload_n (pc := 79) C 1 1 dX8_isSound_79 rfl rfl ?_
      obtain ⟨b9, fs9, hb9, hm9, h⟩ := h
      refine q_cq (pc := 80) (q_rV C (st := []) (b := b9) (kJx4a65c_get_915e3 l G b0 h) (cwV 1 C.2.2.2.2.1 gX8_isSound_Jx4a65c_get_915e3 rfl rfl rfl (by decide +kernel) ⟨Nat.le_of_ble_eq_true rfl, Nat.le_of_ble_eq_true rfl⟩) hm9 rfl rfl rfl (by first | exact Nat.le_of_ble_eq_true rfl | (simp [q_cat, q_catI, q_catJ, q_catR, q_catN]; done)) (by rw [hb9]; first | done | rfl) dX8_isSound_80 ⟨(by first | omega | (dsimp only; omega)), (by first | omega | (dsimp only; omega))⟩) (fun x7 M8 h => ?_)
      refine q_cast (pc := 83) C h rfl rfl (by decide +kernel) dX8_isSound_83 (fun h => ?_)
      obtain ⟨b12, fs9, hb12, hm9, h⟩ := h
      refine q_ci (pc := 86) (q_rV C (st := []) (b := b12) (kX0_babiesAreAhead l G b0 h) (cwV 0 C.2.2.2.2.1 gX8_isSound_X0_babiesAreAhead rfl rfl rfl (by decide +kernel) ⟨Nat.le_of_ble_eq_true rfl, Nat.le_of_ble_eq_true rfl⟩) hm9 rfl rfl rfl (by first | exact Nat.le_of_ble_eq_true rfl | (simp [q_cat, q_catI, q_catJ, q_catR, q_catN]; done)) (by rw [hb12]; first | done | rfl) dX8_isSound_86 ⟨(by first | omega | (dsimp only; omega)), (by first | omega | (dsimp only; omega))⟩) (fun x10 M11 h => ?_)
      refine q_if_ne (pc := 89) C 94 dX8_isSound_89 (by decide) (fun c13 => ?_) (fun c13 => ?_)
      · have h := h.2 c13
        refine q_iinc (pc := 94) C 1 1 (l1 + 1) [(1, .int (l1 + 1)), (0, va_rf l0)] dX8_isSound_94 rfl (by rfl) (by decide) (by first | rfl | simp [q_cat, q_catI, q_catJ, q_catR, q_catN]) ?_
        refine q_goto (pc := 97) C 64 dX8_isSound_97 (by decide) ?_
        refine q_widen (k2 := 0) (n2 := 0) (by omega) (by omega) ?_
        refine q_lv [1, 0] rfl ?_
        exact ih _ _ _ h
      · have h := h.1 c13
        refine q_iconst (pc := 92) C 0 dX8_isSound_92 (by decide) ?_
        exact q_zret (pc := 93) C hr hlocks ⟨(by decide), h⟩ dX8_isSound_93 (by omega) (by omega)
set_option maxRecDepth 100000 in
set_option maxHeartbeats 4000000 in
theorem tX8_isSound_25 {p : Program} {l : Launch} {e : Env} {s : State} {m : MethodId} {args : Array Value} {below : List Frame} {meth : Method} {c : Code} {G : mG} {b0 : Nat} (C : m_C p s m args c cX8_isSound 2 RX8 wsX8_isSound G b0) (hr : meth.sig.returnType = (some .boolean)) (hlocks : meth.locks = false) {κ : Int32 → mM → Prop} : ∀ (f : Nat) (l0 : Option Nat) (l1 : Int32) (M : mM), wX8_isSound_25 κ f l0 l1 M → m_W p l e ({ frames := 5, cells := 0, slots := 0, locals := 112 } : Room) s m args below meth c G b0 (MQ below (va_Qi κ (m_B G b0) (fun q => b0 ≤ q)) args s 0 0 (fun q => b0 ≤ q)) 2 M 0 0 25 [(0, va_rf l0), (1, .int l1)] [] := by
  intro f
  induction f with
  | zero =>
    intro l0 l1 M h
    exact absurd h (by simp [wX8_isSound_25])
  | succ f ih =>
    intro l0 l1 M h
    rw [wX8_isSound_25] at h
    refine q_iload_n (pc := 25) C 1 1 dX8_isSound_25 rfl rfl ?_
    refine q_aload_n (pc := 26) C 0 0 dX8_isSound_26 rfl rfl ?_
    refine q_gR (pc := 27) C h (T := TX8) rfl (by decide) (wk_u rfl wm_X8_isSound uq_X8 (by decide +kernel)) (by decide +kernel) (fun _ h9 => h9) dX8_isSound_27 (fun x1 h => ?_)
    obtain ⟨b4, fs9, hb4, hm9, h⟩ := h
    refine q_ci (pc := 30) (q_rV C (st := [.int l1]) (b := b4) (kJx4a65c_size_8abf5 l G b0 h) (cwV 0 C.2.2.2.2.1 gX8_isSound_Jx4a65c_size_8abf5 rfl rfl rfl (by decide +kernel) ⟨Nat.le_of_ble_eq_true rfl, Nat.le_of_ble_eq_true rfl⟩) hm9 rfl rfl rfl (by first | exact Nat.le_of_ble_eq_true rfl | (simp [q_cat, q_catI, q_catJ, q_catR, q_catN]; done)) (by rw [hb4]; first | done | rfl) dX8_isSound_30 ⟨(by first | omega | (dsimp only; omega)), (by first | omega | (dsimp only; omega))⟩) (fun x2 M3 h => ?_)
    refine q_icmp_ge (pc := 33) C 62 dX8_isSound_33 (by decide) (fun c5 => ?_) (fun c5 => ?_)
    · have h := h.1 c5
      refine q_iconst (pc := 62) C 0 dX8_isSound_62 (by decide) ?_
      refine q_istore_n (pc := 63) C 1 [(1, .int 0), (0, va_rf l0)] dX8_isSound_63 rfl (by decide) (by first | rfl | simp [q_cat, q_catI, q_catJ, q_catR, q_catN]) ?_
      refine q_widen (k2 := 0) (n2 := 0) (by omega) (by omega) ?_
      refine q_lv [1, 0] rfl ?_
      obtain ⟨f9, h⟩ := h
      exact tX8_isSound_64 C hr hlocks f9 _ _ _ h
    · have h := h.2 c5
      refine q_aload_n (pc := 36) C 0 0 dX8_isSound_36 rfl rfl ?_
      refine q_aload_n (pc := 37) C 0 0 dX8_isSound_37 rfl rfl ?_
      refine q_gR (pc := 38) C h (T := TX8) rfl (by decide) (wk_u rfl wm_X8_isSound uq_X8 (by decide +kernel)) (by decide +kernel) (fun _ h9 => h9) dX8_isSound_38 (fun x6 h => ?_)
      refine q_iload_n (pc := 41) C 1 1 dX8_isSound_41 rfl rfl ?_
      obtain ⟨b9, fs9, hb9, hm9, h⟩ := h
      refine q_cq (pc := 42) (q_rV C (st := [va_rf l0]) (b := b9) (kJx4a65c_get_915e3 l G b0 h) (cwV 1 C.2.2.2.2.1 gX8_isSound_Jx4a65c_get_915e3 rfl rfl rfl (by decide +kernel) ⟨Nat.le_of_ble_eq_true rfl, Nat.le_of_ble_eq_true rfl⟩) hm9 rfl rfl rfl (by first | exact Nat.le_of_ble_eq_true rfl | (simp [q_cat, q_catI, q_catJ, q_catR, q_catN]; done)) (by rw [hb9]; first | done | rfl) dX8_isSound_42 ⟨(by first | omega | (dsimp only; omega)), (by first | omega | (dsimp only; omega))⟩) (fun x7 M8 h => ?_)
      refine q_cast (pc := 45) C h rfl rfl (by decide +kernel) dX8_isSound_45 (fun h => ?_)
      obtain ⟨b12, fs9, hb12, hm9, h⟩ := h
      refine q_ci (pc := 48) (q_rV C (st := []) (b := b12) (kX8_sleeperIsSound l G b0 h) (cwV 1 C.2.2.2.2.1 gX8_isSound_X8_sleeperIsSound rfl rfl rfl (by decide +kernel) ⟨Nat.le_of_ble_eq_true rfl, Nat.le_of_ble_eq_true rfl⟩) hm9 rfl rfl rfl (by first | exact Nat.le_of_ble_eq_true rfl | (simp [q_cat, q_catI, q_catJ, q_catR, q_catN]; done)) (by rw [hb12]; first | done | rfl) dX8_isSound_48 ⟨(by first | omega | (dsimp only; omega)), (by first | omega | (dsimp only; omega))⟩) (fun x10 M11 h => ?_)
      refine q_if_ne (pc := 51) C 56 dX8_isSound_51 (by decide) (fun c13 => ?_) (fun c13 => ?_)
      · have h := h.2 c13
        refine q_iinc (pc := 56) C 1 1 (l1 + 1) [(1, .int (l1 + 1)), (0, va_rf l0)] dX8_isSound_56 rfl (by rfl) (by decide) (by first | rfl | simp [q_cat, q_catI, q_catJ, q_catR, q_catN]) ?_
        refine q_goto (pc := 59) C 25 dX8_isSound_59 (by decide) ?_
        refine q_widen (k2 := 0) (n2 := 0) (by omega) (by omega) ?_
        refine q_lv [1, 0] rfl ?_
        exact ih _ _ _ h
      · have h := h.1 c13
        refine q_iconst (pc := 54) C 0 dX8_isSound_54 (by decide) ?_
        exact q_zret (pc := 55) C hr hlocks ⟨(by decide), h⟩ dX8_isSound_55 (by omega) (by omega)
set_option maxRecDepth 100000 in
set_option maxHeartbeats 4000000 in
theorem tX8_isSound {p : Program} {l : Launch} {e : Env} {s : State} {m : MethodId} {args : Array Value} {below : List Frame} {meth : Method} {c : Code} {G : mG} {b0 : Nat} (C : m_C p s m args c cX8_isSound 2 RX8 wsX8_isSound G b0) (hr : meth.sig.returnType = (some .boolean)) (hlocks : meth.locks = false) {κ : Int32 → mM → Prop} {l0 : Option Nat} {M : mM} (h : wX8_isSound κ l0 M) : m_W p l e ({ frames := 5, cells := 0, slots := 0, locals := 112 } : Room) s m args below meth c G b0 (MQ below (va_Qi κ (m_B G b0) (fun q => b0 ≤ q)) args s 0 0 (fun q => b0 ≤ q)) 2 M 0 0 0 [(0, va_rf l0)] [] := by
  unfold wX8_isSound at h
  refine q_aload_n (pc := 0) C 0 0 dX8_isSound_0 rfl rfl ?_
  obtain ⟨b3, fs9, hb3, hm9, h⟩ := h
  refine q_ci (pc := 1) (q_rV C (st := []) (b := b3) (kX8_quotasOfAll l G b0 h) (cwV 0 C.2.2.2.2.1 gX8_isSound_X8_quotasOfAll rfl rfl rfl (by decide +kernel) ⟨Nat.le_of_ble_eq_true rfl, Nat.le_of_ble_eq_true rfl⟩) hm9 rfl rfl rfl (by first | exact Nat.le_of_ble_eq_true rfl | (simp [q_cat, q_catI, q_catJ, q_catR, q_catN]; done)) (by rw [hb3]; first | done | rfl) dX8_isSound_1 ⟨(by first | omega | (dsimp only; omega)), (by first | omega | (dsimp only; omega))⟩) (fun x1 M2 h => ?_)
  refine q_bipush (pc := 4) C 30 dX8_isSound_4 (by decide) ?_
  refine q_icmp_ne (pc := 6) C 21 dX8_isSound_6 (by decide) (fun c4 => ?_) (fun c4 => ?_)
  · have h := h.2 c4
    refine q_iconst (pc := 21) C 0 dX8_isSound_21 (by decide) ?_
    exact q_zret (pc := 22) C hr hlocks ⟨(by decide), h⟩ dX8_isSound_22 (by omega) (by omega)
  · have h := h.1 c4
    refine q_aload_n (pc := 9) C 0 0 dX8_isSound_9 rfl rfl ?_
    refine q_gR (pc := 10) C h (T := TX8) rfl (by decide) (wk_u rfl wm_X8_isSound uq_X8 (by decide +kernel)) (by decide +kernel) (fun _ h9 => h9) dX8_isSound_10 (fun x5 h => ?_)
    obtain ⟨b8, fs9, hb8, hm9, h⟩ := h
    refine q_ci (pc := 13) (q_rV C (st := []) (b := b8) (kJx4a65c_size_8abf5 l G b0 h) (cwV 0 C.2.2.2.2.1 gX8_isSound_Jx4a65c_size_8abf5 rfl rfl rfl (by decide +kernel) ⟨Nat.le_of_ble_eq_true rfl, Nat.le_of_ble_eq_true rfl⟩) hm9 rfl rfl rfl (by first | exact Nat.le_of_ble_eq_true rfl | (simp [q_cat, q_catI, q_catJ, q_catR, q_catN]; done)) (by rw [hb8]; first | done | rfl) dX8_isSound_13 ⟨(by first | omega | (dsimp only; omega)), (by first | omega | (dsimp only; omega))⟩) (fun x6 M7 h => ?_)
    refine q_bipush (pc := 16) C 40 dX8_isSound_16 (by decide) ?_
    refine q_icmp_le (pc := 18) C 23 dX8_isSound_18 (by decide) (fun c9 => ?_) (fun c9 => ?_)
    · have h := h.1 c9
      refine q_iconst (pc := 23) C 0 dX8_isSound_23 (by decide) ?_
      refine q_istore_n (pc := 24) C 1 [(1, .int 0), (0, va_rf l0)] dX8_isSound_24 rfl (by decide) (by first | rfl | simp [q_cat, q_catI, q_catJ, q_catR, q_catN]) ?_
      refine q_widen (k2 := 0) (n2 := 0) (by omega) (by omega) ?_
      refine q_lv [1, 0] rfl ?_
      obtain ⟨f9, h⟩ := h
      exact tX8_isSound_25 C hr hlocks f9 _ _ _ h
    · have h := h.2 c9
      refine q_iconst (pc := 21) C 0 dX8_isSound_21 (by decide) ?_
      exact q_zret (pc := 22) C hr hlocks ⟨(by decide), h⟩ dX8_isSound_22 (by omega) (by omega)
set_option maxRecDepth 100000 in
set_option maxHeartbeats 4000000 in
theorem kX8_isSound (l : Launch) (G : mG) (b0 : Nat) {b : Nat} {M : mM} {κ : Int32 → mM → Prop} (h : wX8_isSound κ (some b) M) : Met l yX8_isSound wsX8_isSound ({ frames := 5, cells := 0, slots := 0, locals := 112 } : Room) (va_Pc [.ref b] (m_Pre G b0 M)) (va_Qi κ (m_B G b0) (fun q => b0 ≤ q)) 0 0 (fun q => b0 ≤ q) := by
  refine m_met (cc := cX8_isSound) (maxL := 2) (ret := (some .boolean)) (lv := [(0, va_rf (some b))]) RX8 rfl (by decide +kernel) rfl (by first | exact Nat.le_of_ble_eq_true rfl | simp [lg_sl, q_cat, q_catI, q_catJ, q_catR, q_catN]) (by first | rfl | (simp [lv_args, q_cat, q_catI, q_catJ, q_catR, q_catN]; done) | (simp [lv_args, q_cat, q_catI, q_catJ, q_catR, q_catN]; rfl)) ?_
  intro p e s m args below meth c C hr hlocks hni
  exact tX8_isSound C hr hlocks h
/-! X8_digest -/
set_option maxRecDepth 100000 in
set_option maxHeartbeats 4000000 in
theorem tX8_digest_240 {p : Program} {l : Launch} {e : Env} {s : State} {m : MethodId} {args : Array Value} {below : List Frame} {meth : Method} {c : Code} {G : mG} {b0 : Nat} (C : m_C p s m args c cX8_digest 5 RX8 wsX8_digest G b0) (hr : meth.sig.returnType = (some .long)) (hlocks : meth.locks = false) (hL : l.stackTraces = false) {κ : Int64 → mM → Prop} : ∀ (f : Nat) (l0 : Option Nat) (l1 : Int64) (l3 : Int32) (M : mM), wX8_digest_240 κ f l0 l1 l3 M → m_W p l e ({ frames := 8, cells := 0, slots := 0, locals := 139 } : Room) s m args below meth c G b0 (MQ below (va_Ql κ (m_B G b0) (fun q => b0 ≤ q)) args s 0 0 (fun q => b0 ≤ q)) 5 M 0 0 240 [(0, va_rf l0), (1, .long l1), (3, .int l3)] [] := by
  intro f
  induction f with
  | zero =>
    intro l0 l1 l3 M h
    exact absurd h (by simp [wX8_digest_240])
  | succ f ih =>
    intro l0 l1 l3 M h
    rw [wX8_digest_240] at h
    refine q_iload_n (pc := 240) C 3 2 dX8_digest_240 rfl rfl ?_
    refine q_bipush (pc := 241) C 6 dX8_digest_241 (by decide) ?_
    refine q_icmp_ge (pc := 243) C 266 dX8_digest_243 (by decide) (fun c1 => ?_) (fun c1 => ?_)
    · have h := h.1 c1
      refine q_lload_n (pc := 266) C 1 1 dX8_digest_266 rfl rfl ?_
      refine q_ldc2 (pc := 267) C 31 (by decide +kernel) dX8_digest_267 ?_
      refine q_lmul (pc := 270) C dX8_digest_270 ?_
      refine q_aload_n (pc := 271) C 0 0 dX8_digest_271 rfl rfl ?_
      refine q_bipush (pc := 272) C 20 dX8_digest_272 (by decide) ?_
      refine q_iconst (pc := 274) C (-1) dX8_digest_274 (by decide) ?_
      obtain ⟨b4, fs9, hb4, hm9, h⟩ := h
      refine q_cXi (pc := 275) (q_rVX C (st := [.long (l1 * 31)]) (b := b4) (kX8_plan l G b0 (t := 0) hL (fun _ _ h9 => h9.elim) h) (cwV 2 C.2.2.2.2.1 gX8_digest_X8_plan rfl rfl rfl (by decide +kernel) ⟨Nat.le_of_ble_eq_true rfl, Nat.le_of_ble_eq_true rfl⟩) hm9 rfl rfl rfl (by first | exact Nat.le_of_ble_eq_true rfl | (simp [q_cat, q_catI, q_catJ, q_catR, q_catN]; done)) (by rw [hb4]; first | done | rfl) dX8_digest_275 ⟨(by first | omega | (dsimp only; omega)), (by first | omega | (dsimp only; omega))⟩) (fun E9 M9 h9 => h9.elim) (fun x2 M3 h => ?_)
      refine q_i2l (pc := 278) C dX8_digest_278 ?_
      refine q_ladd (pc := 279) C dX8_digest_279 ?_
      refine q_lstore_n (pc := 280) C 1 [(1, .long ((l1 * 31) + (Int32.toInt64 x2))), (0, va_rf l0), (3, .int l3)] dX8_digest_280 rfl (by decide) (by first | rfl | simp [q_cat, q_catI, q_catJ, q_catR, q_catN]) ?_
      refine q_lload_n (pc := 281) C 1 0 dX8_digest_281 rfl rfl ?_
      refine q_ldc2 (pc := 282) C 31 (by decide +kernel) dX8_digest_282 ?_
      refine q_lmul (pc := 285) C dX8_digest_285 ?_
      refine q_aload_n (pc := 286) C 0 1 dX8_digest_286 rfl rfl ?_
      obtain ⟨b7, fs9, hb7, hm9, h⟩ := h
      refine q_ci (pc := 287) (q_rV C (st := [.long (((l1 * 31) + (Int32.toInt64 x2)) * 31)]) (b := b7) (kX8_isSound l G b0 h) (cwV 0 C.2.2.2.2.1 gX8_digest_X8_isSound rfl rfl rfl (by decide +kernel) ⟨Nat.le_of_ble_eq_true rfl, Nat.le_of_ble_eq_true rfl⟩) hm9 rfl rfl rfl (by first | exact Nat.le_of_ble_eq_true rfl | (simp [q_cat, q_catI, q_catJ, q_catR, q_catN]; done)) (by rw [hb7]; first | done | rfl) dX8_digest_287 ⟨(by first | omega | (dsimp only; omega)), (by first | omega | (dsimp only; omega))⟩) (fun x5 M6 h => ?_)
      refine q_if_eq (pc := 290) C 297 dX8_digest_290 (by decide) (fun c8 => ?_) (fun c8 => ?_)
      · have h := h.1 c8
        refine q_iconst (pc := 297) C 0 dX8_digest_297 (by decide) ?_
        refine q_i2l (pc := 298) C dX8_digest_298 ?_
        refine q_ladd (pc := 299) C dX8_digest_299 ?_
        exact q_lret (pc := 300) C hr hlocks h dX8_digest_300 (by omega) (by omega)
      · have h := h.2 c8
        refine q_iconst (pc := 293) C 1 dX8_digest_293 (by decide) ?_
        refine q_goto (pc := 294) C 298 dX8_digest_294 (by decide) ?_
        refine q_i2l (pc := 298) C dX8_digest_298 ?_
        refine q_ladd (pc := 299) C dX8_digest_299 ?_
        exact q_lret (pc := 300) C hr hlocks h dX8_digest_300 (by omega) (by omega)
    · have h := h.2 c1
      refine q_lload_n (pc := 246) C 1 1 dX8_digest_246 rfl rfl ?_
      refine q_ldc2 (pc := 247) C 31 (by decide +kernel) dX8_digest_247 ?_
      refine q_lmul (pc := 250) C dX8_digest_250 ?_
      refine q_aload_n (pc := 251) C 0 0 dX8_digest_251 rfl rfl ?_
      refine q_iconst (pc := 252) C 0 dX8_digest_252 (by decide) ?_
      refine q_iload_n (pc := 253) C 3 2 dX8_digest_253 rfl rfl ?_
      obtain ⟨b11, fs9, hb11, hm9, h⟩ := h
      refine q_cXi (pc := 254) (q_rVX C (st := [.long (l1 * 31)]) (b := b11) (kX8_way l G b0 (t := 0) hL (fun _ _ h9 => h9.elim) h) (cwV 2 C.2.2.2.2.1 gX8_digest_X8_way rfl rfl rfl (by decide +kernel) ⟨Nat.le_of_ble_eq_true rfl, Nat.le_of_ble_eq_true rfl⟩) hm9 rfl rfl rfl (by first | exact Nat.le_of_ble_eq_true rfl | (simp [q_cat, q_catI, q_catJ, q_catR, q_catN]; done)) (by rw [hb11]; first | done | rfl) dX8_digest_254 ⟨(by first | omega | (dsimp only; omega)), (by first | omega | (dsimp only; omega))⟩) (fun E9 M9 h9 => h9.elim) (fun x9 M10 h => ?_)
      refine q_i2l (pc := 257) C dX8_digest_257 ?_
      refine q_ladd (pc := 258) C dX8_digest_258 ?_
      refine q_lstore_n (pc := 259) C 1 [(1, .long ((l1 * 31) + (Int32.toInt64 x9))), (0, va_rf l0), (3, .int l3)] dX8_digest_259 rfl (by decide) (by first | rfl | simp [q_cat, q_catI, q_catJ, q_catR, q_catN]) ?_
      refine q_iinc (pc := 260) C 3 2 (l3 + 1) [(3, .int (l3 + 1)), (1, .long ((l1 * 31) + (Int32.toInt64 x9))), (0, va_rf l0)] dX8_digest_260 rfl (by rfl) (by decide) (by first | rfl | simp [q_cat, q_catI, q_catJ, q_catR, q_catN]) ?_
      refine q_goto (pc := 263) C 240 dX8_digest_263 (by decide) ?_
      refine q_widen (k2 := 0) (n2 := 0) (by omega) (by omega) ?_
      refine q_lv [2, 1, 0] rfl ?_
      exact ih _ _ _ _ h
set_option maxRecDepth 100000 in
set_option maxHeartbeats 4000000 in
theorem tX8_digest_205 {p : Program} {l : Launch} {e : Env} {s : State} {m : MethodId} {args : Array Value} {below : List Frame} {meth : Method} {c : Code} {G : mG} {b0 : Nat} (C : m_C p s m args c cX8_digest 5 RX8 wsX8_digest G b0) (hr : meth.sig.returnType = (some .long)) (hlocks : meth.locks = false) (hL : l.stackTraces = false) {κ : Int64 → mM → Prop} {R191 : Option Nat → Int64 → Int32 → mM → Prop} (hR191 : ∀ (l0 : Option Nat) (l1 : Int64) (l3 : Int32) (M : mM), R191 l0 l1 l3 M → m_W p l e ({ frames := 8, cells := 0, slots := 0, locals := 139 } : Room) s m args below meth c G b0 (MQ below (va_Ql κ (m_B G b0) (fun q => b0 ≤ q)) args s 0 0 (fun q => b0 ≤ q)) 5 M 0 0 191 [(0, va_rf l0), (1, .long l1), (3, .int l3)] []) : ∀ (f : Nat) (l0 : Option Nat) (l1 : Int64) (l3 : Int32) (l4 : Int32) (M : mM), wX8_digest_205 κ R191 f l0 l1 l3 l4 M → m_W p l e ({ frames := 8, cells := 0, slots := 0, locals := 139 } : Room) s m args below meth c G b0 (MQ below (va_Ql κ (m_B G b0) (fun q => b0 ≤ q)) args s 0 0 (fun q => b0 ≤ q)) 5 M 0 0 205 [(0, va_rf l0), (1, .long l1), (3, .int l3), (4, .int l4)] [] := by
  intro f
  induction f with
  | zero =>
    intro l0 l1 l3 l4 M h
    exact absurd h (by simp [wX8_digest_205])
  | succ f ih =>
    intro l0 l1 l3 l4 M h
    rw [wX8_digest_205] at h
    refine q_iload (pc := 205) C 4 3 dX8_digest_205 rfl ?_
    refine q_iconst (pc := 207) C 5 dX8_digest_207 (by decide) ?_
    refine q_icmp_gt (pc := 208) C 232 dX8_digest_208 (by decide) (fun c1 => ?_) (fun c1 => ?_)
    · have h := h.1 c1
      refine q_iinc (pc := 232) C 3 2 (l3 + 1) [(3, .int (l3 + 1)), (0, va_rf l0), (1, .long l1), (4, .int l4)] dX8_digest_232 rfl (by rfl) (by decide) (by first | rfl | simp [q_cat, q_catI, q_catJ, q_catR, q_catN]) ?_
      refine q_goto (pc := 235) C 191 dX8_digest_235 (by decide) ?_
      refine q_widen (k2 := 0) (n2 := 0) (by omega) (by omega) ?_
      refine q_lv [1, 2, 0] rfl ?_
      exact hR191 _ _ _ _ h
    · have h := h.2 c1
      refine q_lload_n (pc := 211) C 1 1 dX8_digest_211 rfl rfl ?_
      refine q_ldc2 (pc := 212) C 31 (by decide +kernel) dX8_digest_212 ?_
      refine q_lmul (pc := 215) C dX8_digest_215 ?_
      refine q_aload_n (pc := 216) C 0 0 dX8_digest_216 rfl rfl ?_
      refine q_iload_n (pc := 217) C 3 2 dX8_digest_217 rfl rfl ?_
      refine q_iload (pc := 218) C 4 3 dX8_digest_218 rfl ?_
      obtain ⟨b4, fs9, hb4, hm9, h⟩ := h
      refine q_cXi (pc := 220) (q_rVX C (st := [.long (l1 * 31)]) (b := b4) (kX8_ofPart l G b0 (t := 0) hL (fun _ _ h9 => h9.elim) h) (cwV 2 C.2.2.2.2.1 gX8_digest_X8_ofPart rfl rfl rfl (by decide +kernel) ⟨Nat.le_of_ble_eq_true rfl, Nat.le_of_ble_eq_true rfl⟩) hm9 rfl rfl rfl (by first | exact Nat.le_of_ble_eq_true rfl | (simp [q_cat, q_catI, q_catJ, q_catR, q_catN]; done)) (by rw [hb4]; first | done | rfl) dX8_digest_220 ⟨(by first | omega | (dsimp only; omega)), (by first | omega | (dsimp only; omega))⟩) (fun E9 M9 h9 => h9.elim) (fun x2 M3 h => ?_)
      refine q_i2l (pc := 223) C dX8_digest_223 ?_
      refine q_ladd (pc := 224) C dX8_digest_224 ?_
      refine q_lstore_n (pc := 225) C 1 [(1, .long ((l1 * 31) + (Int32.toInt64 x2))), (0, va_rf l0), (3, .int l3), (4, .int l4)] dX8_digest_225 rfl (by decide) (by first | rfl | simp [q_cat, q_catI, q_catJ, q_catR, q_catN]) ?_
      refine q_iinc (pc := 226) C 4 3 (l4 + 1) [(4, .int (l4 + 1)), (1, .long ((l1 * 31) + (Int32.toInt64 x2))), (0, va_rf l0), (3, .int l3)] dX8_digest_226 rfl (by rfl) (by decide) (by first | rfl | simp [q_cat, q_catI, q_catJ, q_catR, q_catN]) ?_
      refine q_goto (pc := 229) C 205 dX8_digest_229 (by decide) ?_
      refine q_widen (k2 := 0) (n2 := 0) (by omega) (by omega) ?_
      refine q_lv [2, 1, 3, 0] rfl ?_
      exact ih _ _ _ _ _ h
set_option maxRecDepth 100000 in
set_option maxHeartbeats 4000000 in
theorem tX8_digest_191 {p : Program} {l : Launch} {e : Env} {s : State} {m : MethodId} {args : Array Value} {below : List Frame} {meth : Method} {c : Code} {G : mG} {b0 : Nat} (C : m_C p s m args c cX8_digest 5 RX8 wsX8_digest G b0) (hr : meth.sig.returnType = (some .long)) (hlocks : meth.locks = false) (hL : l.stackTraces = false) {κ : Int64 → mM → Prop} : ∀ (f : Nat) (l0 : Option Nat) (l1 : Int64) (l3 : Int32) (M : mM), wX8_digest_191 κ f l0 l1 l3 M → m_W p l e ({ frames := 8, cells := 0, slots := 0, locals := 139 } : Room) s m args below meth c G b0 (MQ below (va_Ql κ (m_B G b0) (fun q => b0 ≤ q)) args s 0 0 (fun q => b0 ≤ q)) 5 M 0 0 191 [(0, va_rf l0), (1, .long l1), (3, .int l3)] [] := by
  intro f
  induction f with
  | zero =>
    intro l0 l1 l3 M h
    exact absurd h (by simp [wX8_digest_191])
  | succ f ih =>
    intro l0 l1 l3 M h
    rw [wX8_digest_191] at h
    refine q_iload_n (pc := 191) C 3 2 dX8_digest_191 rfl rfl ?_
    refine q_aload_n (pc := 192) C 0 0 dX8_digest_192 rfl rfl ?_
    refine q_gR (pc := 193) C h (T := TX8) rfl (by decide) (wk_u bm_X8_digest wm_X8_digest uq_X8 (by decide +kernel)) (by decide +kernel) (fun _ h9 => h9) dX8_digest_193 (fun x1 h => ?_)
    obtain ⟨b4, fs9, hb4, hm9, h⟩ := h
    refine q_ci (pc := 196) (q_rV C (st := [.int l3]) (b := b4) (kJx4a65c_size_8abf5 l G b0 h) (cwV 0 C.2.2.2.2.1 gX8_digest_Jx4a65c_size_8abf5 rfl rfl rfl (by decide +kernel) ⟨Nat.le_of_ble_eq_true rfl, Nat.le_of_ble_eq_true rfl⟩) hm9 rfl rfl rfl (by first | exact Nat.le_of_ble_eq_true rfl | (simp [q_cat, q_catI, q_catJ, q_catR, q_catN]; done)) (by rw [hb4]; first | done | rfl) dX8_digest_196 ⟨(by first | omega | (dsimp only; omega)), (by first | omega | (dsimp only; omega))⟩) (fun x2 M3 h => ?_)
    refine q_icmp_ge (pc := 199) C 238 dX8_digest_199 (by decide) (fun c5 => ?_) (fun c5 => ?_)
    · have h := h.1 c5
      refine q_iconst (pc := 238) C 0 dX8_digest_238 (by decide) ?_
      refine q_istore_n (pc := 239) C 3 [(3, .int 0), (0, va_rf l0), (1, .long l1)] dX8_digest_239 rfl (by decide) (by first | rfl | simp [q_cat, q_catI, q_catJ, q_catR, q_catN]) ?_
      refine q_widen (k2 := 0) (n2 := 0) (by omega) (by omega) ?_
      refine q_lv [1, 2, 0] rfl ?_
      obtain ⟨f9, h⟩ := h
      exact tX8_digest_240 C hr hlocks hL f9 _ _ _ _ h
    · have h := h.2 c5
      refine q_iconst (pc := 202) C 3 dX8_digest_202 (by decide) ?_
      refine q_istore (pc := 203) C 4 [(4, .int 3), (0, va_rf l0), (1, .long l1), (3, .int l3)] dX8_digest_203 (by decide) (by first | rfl | simp [q_cat, q_catI, q_catJ, q_catR, q_catN]) ?_
      refine q_widen (k2 := 0) (n2 := 0) (by omega) (by omega) ?_
      refine q_lv [1, 2, 3, 0] rfl ?_
      obtain ⟨f9, h⟩ := h
      exact tX8_digest_205 C hr hlocks hL ih f9 _ _ _ _ _ h
set_option maxRecDepth 100000 in
set_option maxHeartbeats 4000000 in
theorem tX8_digest_155 {p : Program} {l : Launch} {e : Env} {s : State} {m : MethodId} {args : Array Value} {below : List Frame} {meth : Method} {c : Code} {G : mG} {b0 : Nat} (C : m_C p s m args c cX8_digest 5 RX8 wsX8_digest G b0) (hr : meth.sig.returnType = (some .long)) (hlocks : meth.locks = false) (hL : l.stackTraces = false) {κ : Int64 → mM → Prop} {R141 : Option Nat → Int64 → Int32 → mM → Prop} (hR141 : ∀ (l0 : Option Nat) (l1 : Int64) (l3 : Int32) (M : mM), R141 l0 l1 l3 M → m_W p l e ({ frames := 8, cells := 0, slots := 0, locals := 139 } : Room) s m args below meth c G b0 (MQ below (va_Ql κ (m_B G b0) (fun q => b0 ≤ q)) args s 0 0 (fun q => b0 ≤ q)) 5 M 0 0 141 [(0, va_rf l0), (1, .long l1), (3, .int l3)] []) : ∀ (f : Nat) (l0 : Option Nat) (l1 : Int64) (l3 : Int32) (l4 : Int32) (M : mM), wX8_digest_155 κ R141 f l0 l1 l3 l4 M → m_W p l e ({ frames := 8, cells := 0, slots := 0, locals := 139 } : Room) s m args below meth c G b0 (MQ below (va_Ql κ (m_B G b0) (fun q => b0 ≤ q)) args s 0 0 (fun q => b0 ≤ q)) 5 M 0 0 155 [(0, va_rf l0), (1, .long l1), (3, .int l3), (4, .int l4)] [] := by
  intro f
  induction f with
  | zero =>
    intro l0 l1 l3 l4 M h
    exact absurd h (by simp [wX8_digest_155])
  | succ f ih =>
    intro l0 l1 l3 l4 M h
    rw [wX8_digest_155] at h
    refine q_iload (pc := 155) C 4 3 dX8_digest_155 rfl ?_
    refine q_bipush (pc := 157) C 8 dX8_digest_157 (by decide) ?_
    refine q_icmp_gt (pc := 159) C 183 dX8_digest_159 (by decide) (fun c1 => ?_) (fun c1 => ?_)
    · have h := h.1 c1
      refine q_iinc (pc := 183) C 3 2 (l3 + 1) [(3, .int (l3 + 1)), (0, va_rf l0), (1, .long l1), (4, .int l4)] dX8_digest_183 rfl (by rfl) (by decide) (by first | rfl | simp [q_cat, q_catI, q_catJ, q_catR, q_catN]) ?_
      refine q_goto (pc := 186) C 141 dX8_digest_186 (by decide) ?_
      refine q_widen (k2 := 0) (n2 := 0) (by omega) (by omega) ?_
      refine q_lv [1, 2, 0] rfl ?_
      exact hR141 _ _ _ _ h
    · have h := h.2 c1
      refine q_lload_n (pc := 162) C 1 1 dX8_digest_162 rfl rfl ?_
      refine q_ldc2 (pc := 163) C 31 (by decide +kernel) dX8_digest_163 ?_
      refine q_lmul (pc := 166) C dX8_digest_166 ?_
      refine q_aload_n (pc := 167) C 0 0 dX8_digest_167 rfl rfl ?_
      refine q_iload_n (pc := 168) C 3 2 dX8_digest_168 rfl rfl ?_
      refine q_iload (pc := 169) C 4 3 dX8_digest_169 rfl ?_
      obtain ⟨b4, fs9, hb4, hm9, h⟩ := h
      refine q_cXi (pc := 171) (q_rVX C (st := [.long (l1 * 31)]) (b := b4) (kX8_ofSleeper l G b0 (t := 0) hL (fun _ _ h9 => h9.elim) h) (cwV 2 C.2.2.2.2.1 gX8_digest_X8_ofSleeper rfl rfl rfl (by decide +kernel) ⟨Nat.le_of_ble_eq_true rfl, Nat.le_of_ble_eq_true rfl⟩) hm9 rfl rfl rfl (by first | exact Nat.le_of_ble_eq_true rfl | (simp [q_cat, q_catI, q_catJ, q_catR, q_catN]; done)) (by rw [hb4]; first | done | rfl) dX8_digest_171 ⟨(by first | omega | (dsimp only; omega)), (by first | omega | (dsimp only; omega))⟩) (fun E9 M9 h9 => h9.elim) (fun x2 M3 h => ?_)
      refine q_i2l (pc := 174) C dX8_digest_174 ?_
      refine q_ladd (pc := 175) C dX8_digest_175 ?_
      refine q_lstore_n (pc := 176) C 1 [(1, .long ((l1 * 31) + (Int32.toInt64 x2))), (0, va_rf l0), (3, .int l3), (4, .int l4)] dX8_digest_176 rfl (by decide) (by first | rfl | simp [q_cat, q_catI, q_catJ, q_catR, q_catN]) ?_
      refine q_iinc (pc := 177) C 4 3 (l4 + 1) [(4, .int (l4 + 1)), (1, .long ((l1 * 31) + (Int32.toInt64 x2))), (0, va_rf l0), (3, .int l3)] dX8_digest_177 rfl (by rfl) (by decide) (by first | rfl | simp [q_cat, q_catI, q_catJ, q_catR, q_catN]) ?_
      refine q_goto (pc := 180) C 155 dX8_digest_180 (by decide) ?_
      refine q_widen (k2 := 0) (n2 := 0) (by omega) (by omega) ?_
      refine q_lv [2, 1, 3, 0] rfl ?_
      exact ih _ _ _ _ _ h
set_option maxRecDepth 100000 in
set_option maxHeartbeats 4000000 in
theorem tX8_digest_141 {p : Program} {l : Launch} {e : Env} {s : State} {m : MethodId} {args : Array Value} {below : List Frame} {meth : Method} {c : Code} {G : mG} {b0 : Nat} (C : m_C p s m args c cX8_digest 5 RX8 wsX8_digest G b0) (hr : meth.sig.returnType = (some .long)) (hlocks : meth.locks = false) (hL : l.stackTraces = false) {κ : Int64 → mM → Prop} : ∀ (f : Nat) (l0 : Option Nat) (l1 : Int64) (l3 : Int32) (M : mM), wX8_digest_141 κ f l0 l1 l3 M → m_W p l e ({ frames := 8, cells := 0, slots := 0, locals := 139 } : Room) s m args below meth c G b0 (MQ below (va_Ql κ (m_B G b0) (fun q => b0 ≤ q)) args s 0 0 (fun q => b0 ≤ q)) 5 M 0 0 141 [(0, va_rf l0), (1, .long l1), (3, .int l3)] [] := by
  intro f
  induction f with
  | zero =>
    intro l0 l1 l3 M h
    exact absurd h (by simp [wX8_digest_141])
  | succ f ih =>
    intro l0 l1 l3 M h
    rw [wX8_digest_141] at h
    refine q_iload_n (pc := 141) C 3 2 dX8_digest_141 rfl rfl ?_
    refine q_aload_n (pc := 142) C 0 0 dX8_digest_142 rfl rfl ?_
    refine q_gR (pc := 143) C h (T := TX8) rfl (by decide) (wk_u bm_X8_digest wm_X8_digest uq_X8 (by decide +kernel)) (by decide +kernel) (fun _ h9 => h9) dX8_digest_143 (fun x1 h => ?_)
    obtain ⟨b4, fs9, hb4, hm9, h⟩ := h
    refine q_ci (pc := 146) (q_rV C (st := [.int l3]) (b := b4) (kJx4a65c_size_8abf5 l G b0 h) (cwV 0 C.2.2.2.2.1 gX8_digest_Jx4a65c_size_8abf5 rfl rfl rfl (by decide +kernel) ⟨Nat.le_of_ble_eq_true rfl, Nat.le_of_ble_eq_true rfl⟩) hm9 rfl rfl rfl (by first | exact Nat.le_of_ble_eq_true rfl | (simp [q_cat, q_catI, q_catJ, q_catR, q_catN]; done)) (by rw [hb4]; first | done | rfl) dX8_digest_146 ⟨(by first | omega | (dsimp only; omega)), (by first | omega | (dsimp only; omega))⟩) (fun x2 M3 h => ?_)
    refine q_icmp_ge (pc := 149) C 189 dX8_digest_149 (by decide) (fun c5 => ?_) (fun c5 => ?_)
    · have h := h.1 c5
      refine q_iconst (pc := 189) C 0 dX8_digest_189 (by decide) ?_
      refine q_istore_n (pc := 190) C 3 [(3, .int 0), (0, va_rf l0), (1, .long l1)] dX8_digest_190 rfl (by decide) (by first | rfl | simp [q_cat, q_catI, q_catJ, q_catR, q_catN]) ?_
      refine q_widen (k2 := 0) (n2 := 0) (by omega) (by omega) ?_
      refine q_lv [1, 2, 0] rfl ?_
      obtain ⟨f9, h⟩ := h
      exact tX8_digest_191 C hr hlocks hL f9 _ _ _ _ h
    · have h := h.2 c5
      refine q_iconst (pc := 152) C 0 dX8_digest_152 (by decide) ?_
      refine q_istore (pc := 153) C 4 [(4, .int 0), (0, va_rf l0), (1, .long l1), (3, .int l3)] dX8_digest_153 (by decide) (by first | rfl | simp [q_cat, q_catI, q_catJ, q_catR, q_catN]) ?_
      refine q_widen (k2 := 0) (n2 := 0) (by omega) (by omega) ?_
      refine q_lv [1, 2, 3, 0] rfl ?_
      obtain ⟨f9, h⟩ := h
      exact tX8_digest_155 C hr hlocks hL ih f9 _ _ _ _ _ h
set_option maxRecDepth 100000 in
set_option maxHeartbeats 4000000 in
theorem tX8_digest_92 {p : Program} {l : Launch} {e : Env} {s : State} {m : MethodId} {args : Array Value} {below : List Frame} {meth : Method} {c : Code} {G : mG} {b0 : Nat} (C : m_C p s m args c cX8_digest 5 RX8 wsX8_digest G b0) (hr : meth.sig.returnType = (some .long)) (hlocks : meth.locks = false) (hL : l.stackTraces = false) {κ : Int64 → mM → Prop} {R78 : Option Nat → Int64 → Int32 → mM → Prop} (hR78 : ∀ (l0 : Option Nat) (l1 : Int64) (l3 : Int32) (M : mM), R78 l0 l1 l3 M → m_W p l e ({ frames := 8, cells := 0, slots := 0, locals := 139 } : Room) s m args below meth c G b0 (MQ below (va_Ql κ (m_B G b0) (fun q => b0 ≤ q)) args s 0 0 (fun q => b0 ≤ q)) 5 M 0 0 78 [(0, va_rf l0), (1, .long l1), (3, .int l3)] []) : ∀ (f : Nat) (l0 : Option Nat) (l1 : Int64) (l3 : Int32) (l4 : Int32) (M : mM), wX8_digest_92 κ R78 f l0 l1 l3 l4 M → m_W p l e ({ frames := 8, cells := 0, slots := 0, locals := 139 } : Room) s m args below meth c G b0 (MQ below (va_Ql κ (m_B G b0) (fun q => b0 ≤ q)) args s 0 0 (fun q => b0 ≤ q)) 5 M 0 0 92 [(0, va_rf l0), (1, .long l1), (3, .int l3), (4, .int l4)] [] := by
  intro f
  induction f with
  | zero =>
    intro l0 l1 l3 l4 M h
    exact absurd h (by simp [wX8_digest_92])
  | succ f ih =>
    intro l0 l1 l3 l4 M h
    rw [wX8_digest_92] at h
    refine q_iload (pc := 92) C 4 3 dX8_digest_92 rfl ?_
    refine q_bipush (pc := 94) C 9 dX8_digest_94 (by decide) ?_
    refine q_icmp_gt (pc := 96) C 120 dX8_digest_96 (by decide) (fun c1 => ?_) (fun c1 => ?_)
    · have h := h.1 c1
      refine q_lload_n (pc := 120) C 1 1 dX8_digest_120 rfl rfl ?_
      refine q_ldc2 (pc := 121) C 31 (by decide +kernel) dX8_digest_121 ?_
      refine q_lmul (pc := 124) C dX8_digest_124 ?_
      refine q_aload_n (pc := 125) C 0 0 dX8_digest_125 rfl rfl ?_
      refine q_iload_n (pc := 126) C 3 2 dX8_digest_126 rfl rfl ?_
      obtain ⟨b4, fs9, hb4, hm9, h⟩ := h
      refine q_cXi (pc := 127) (q_rVX C (st := [.long (l1 * 31)]) (b := b4) (kX8_wouldPay l G b0 (t := 0) hL (fun _ _ h9 => h9.elim) h) (cwV 1 C.2.2.2.2.1 gX8_digest_X8_wouldPay rfl rfl rfl (by decide +kernel) ⟨Nat.le_of_ble_eq_true rfl, Nat.le_of_ble_eq_true rfl⟩) hm9 rfl rfl rfl (by first | exact Nat.le_of_ble_eq_true rfl | (simp [q_cat, q_catI, q_catJ, q_catR, q_catN]; done)) (by rw [hb4]; first | done | rfl) dX8_digest_127 ⟨(by first | omega | (dsimp only; omega)), (by first | omega | (dsimp only; omega))⟩) (fun E9 M9 h9 => h9.elim) (fun x2 M3 h => ?_)
      refine q_i2l (pc := 130) C dX8_digest_130 ?_
      refine q_ladd (pc := 131) C dX8_digest_131 ?_
      refine q_lstore_n (pc := 132) C 1 [(1, .long ((l1 * 31) + (Int32.toInt64 x2))), (0, va_rf l0), (3, .int l3), (4, .int l4)] dX8_digest_132 rfl (by decide) (by first | rfl | simp [q_cat, q_catI, q_catJ, q_catR, q_catN]) ?_
      refine q_iinc (pc := 133) C 3 2 (l3 + 1) [(3, .int (l3 + 1)), (1, .long ((l1 * 31) + (Int32.toInt64 x2))), (0, va_rf l0), (4, .int l4)] dX8_digest_133 rfl (by rfl) (by decide) (by first | rfl | simp [q_cat, q_catI, q_catJ, q_catR, q_catN]) ?_
      refine q_goto (pc := 136) C 78 dX8_digest_136 (by decide) ?_
      refine q_widen (k2 := 0) (n2 := 0) (by omega) (by omega) ?_
      refine q_lv [2, 1, 0] rfl ?_
      exact hR78 _ _ _ _ h
    · have h := h.2 c1
      refine q_lload_n (pc := 99) C 1 1 dX8_digest_99 rfl rfl ?_
      refine q_ldc2 (pc := 100) C 31 (by decide +kernel) dX8_digest_100 ?_
      refine q_lmul (pc := 103) C dX8_digest_103 ?_
      refine q_aload_n (pc := 104) C 0 0 dX8_digest_104 rfl rfl ?_
      refine q_iload_n (pc := 105) C 3 2 dX8_digest_105 rfl rfl ?_
      refine q_iload (pc := 106) C 4 3 dX8_digest_106 rfl ?_
      obtain ⟨b7, fs9, hb7, hm9, h⟩ := h
      refine q_cXi (pc := 108) (q_rVX C (st := [.long (l1 * 31)]) (b := b7) (kX8_ofGate l G b0 (t := 0) hL (fun _ _ h9 => h9.elim) h) (cwV 2 C.2.2.2.2.1 gX8_digest_X8_ofGate rfl rfl rfl (by decide +kernel) ⟨Nat.le_of_ble_eq_true rfl, Nat.le_of_ble_eq_true rfl⟩) hm9 rfl rfl rfl (by first | exact Nat.le_of_ble_eq_true rfl | (simp [q_cat, q_catI, q_catJ, q_catR, q_catN]; done)) (by rw [hb7]; first | done | rfl) dX8_digest_108 ⟨(by first | omega | (dsimp only; omega)), (by first | omega | (dsimp only; omega))⟩) (fun E9 M9 h9 => h9.elim) (fun x5 M6 h => ?_)
      refine q_i2l (pc := 111) C dX8_digest_111 ?_
      refine q_ladd (pc := 112) C dX8_digest_112 ?_
      refine q_lstore_n (pc := 113) C 1 [(1, .long ((l1 * 31) + (Int32.toInt64 x5))), (0, va_rf l0), (3, .int l3), (4, .int l4)] dX8_digest_113 rfl (by decide) (by first | rfl | simp [q_cat, q_catI, q_catJ, q_catR, q_catN]) ?_
      refine q_iinc (pc := 114) C 4 3 (l4 + 1) [(4, .int (l4 + 1)), (1, .long ((l1 * 31) + (Int32.toInt64 x5))), (0, va_rf l0), (3, .int l3)] dX8_digest_114 rfl (by rfl) (by decide) (by first | rfl | simp [q_cat, q_catI, q_catJ, q_catR, q_catN]) ?_
      refine q_goto (pc := 117) C 92 dX8_digest_117 (by decide) ?_
      refine q_widen (k2 := 0) (n2 := 0) (by omega) (by omega) ?_
      refine q_lv [2, 1, 3, 0] rfl ?_
      exact ih _ _ _ _ _ h
set_option maxRecDepth 100000 in
set_option maxHeartbeats 4000000 in
theorem tX8_digest_78 {p : Program} {l : Launch} {e : Env} {s : State} {m : MethodId} {args : Array Value} {below : List Frame} {meth : Method} {c : Code} {G : mG} {b0 : Nat} (C : m_C p s m args c cX8_digest 5 RX8 wsX8_digest G b0) (hr : meth.sig.returnType = (some .long)) (hlocks : meth.locks = false) (hL : l.stackTraces = false) {κ : Int64 → mM → Prop} : ∀ (f : Nat) (l0 : Option Nat) (l1 : Int64) (l3 : Int32) (M : mM), wX8_digest_78 κ f l0 l1 l3 M → m_W p l e ({ frames := 8, cells := 0, slots := 0, locals := 139 } : Room) s m args below meth c G b0 (MQ below (va_Ql κ (m_B G b0) (fun q => b0 ≤ q)) args s 0 0 (fun q => b0 ≤ q)) 5 M 0 0 78 [(0, va_rf l0), (1, .long l1), (3, .int l3)] [] := by
  intro f
  induction f with
  | zero =>
    intro l0 l1 l3 M h
    exact absurd h (by simp [wX8_digest_78])
  | succ f ih =>
    intro l0 l1 l3 M h
    rw [wX8_digest_78] at h
    refine q_iload_n (pc := 78) C 3 2 dX8_digest_78 rfl rfl ?_
    refine q_aload_n (pc := 79) C 0 0 dX8_digest_79 rfl rfl ?_
    refine q_gR (pc := 80) C h (T := TX8) rfl (by decide) (wk_u bm_X8_digest wm_X8_digest uq_X8 (by decide +kernel)) (by decide +kernel) (fun _ h9 => h9) dX8_digest_80 (fun x1 h => ?_)
    obtain ⟨b4, fs9, hb4, hm9, h⟩ := h
    refine q_ci (pc := 83) (q_rV C (st := [.int l3]) (b := b4) (kJx4a65c_size_8abf5 l G b0 h) (cwV 0 C.2.2.2.2.1 gX8_digest_Jx4a65c_size_8abf5 rfl rfl rfl (by decide +kernel) ⟨Nat.le_of_ble_eq_true rfl, Nat.le_of_ble_eq_true rfl⟩) hm9 rfl rfl rfl (by first | exact Nat.le_of_ble_eq_true rfl | (simp [q_cat, q_catI, q_catJ, q_catR, q_catN]; done)) (by rw [hb4]; first | done | rfl) dX8_digest_83 ⟨(by first | omega | (dsimp only; omega)), (by first | omega | (dsimp only; omega))⟩) (fun x2 M3 h => ?_)
    refine q_icmp_ge (pc := 86) C 139 dX8_digest_86 (by decide) (fun c5 => ?_) (fun c5 => ?_)
    · have h := h.1 c5
      refine q_iconst (pc := 139) C 0 dX8_digest_139 (by decide) ?_
      refine q_istore_n (pc := 140) C 3 [(3, .int 0), (0, va_rf l0), (1, .long l1)] dX8_digest_140 rfl (by decide) (by first | rfl | simp [q_cat, q_catI, q_catJ, q_catR, q_catN]) ?_
      refine q_widen (k2 := 0) (n2 := 0) (by omega) (by omega) ?_
      refine q_lv [1, 2, 0] rfl ?_
      obtain ⟨f9, h⟩ := h
      exact tX8_digest_141 C hr hlocks hL f9 _ _ _ _ h
    · have h := h.2 c5
      refine q_iconst (pc := 89) C 2 dX8_digest_89 (by decide) ?_
      refine q_istore (pc := 90) C 4 [(4, .int 2), (0, va_rf l0), (1, .long l1), (3, .int l3)] dX8_digest_90 (by decide) (by first | rfl | simp [q_cat, q_catI, q_catJ, q_catR, q_catN]) ?_
      refine q_widen (k2 := 0) (n2 := 0) (by omega) (by omega) ?_
      refine q_lv [1, 2, 3, 0] rfl ?_
      obtain ⟨f9, h⟩ := h
      exact tX8_digest_92 C hr hlocks hL ih f9 _ _ _ _ _ h
set_option maxRecDepth 100000 in
set_option maxHeartbeats 4000000 in
theorem tX8_digest_42 {p : Program} {l : Launch} {e : Env} {s : State} {m : MethodId} {args : Array Value} {below : List Frame} {meth : Method} {c : Code} {G : mG} {b0 : Nat} (C : m_C p s m args c cX8_digest 5 RX8 wsX8_digest G b0) (hr : meth.sig.returnType = (some .long)) (hlocks : meth.locks = false) (hL : l.stackTraces = false) {κ : Int64 → mM → Prop} {R33 : Option Nat → Int64 → Int32 → mM → Prop} (hR33 : ∀ (l0 : Option Nat) (l1 : Int64) (l3 : Int32) (M : mM), R33 l0 l1 l3 M → m_W p l e ({ frames := 8, cells := 0, slots := 0, locals := 139 } : Room) s m args below meth c G b0 (MQ below (va_Ql κ (m_B G b0) (fun q => b0 ≤ q)) args s 0 0 (fun q => b0 ≤ q)) 5 M 0 0 33 [(0, va_rf l0), (1, .long l1), (3, .int l3)] []) : ∀ (f : Nat) (l0 : Option Nat) (l1 : Int64) (l3 : Int32) (l4 : Int32) (M : mM), wX8_digest_42 κ R33 f l0 l1 l3 l4 M → m_W p l e ({ frames := 8, cells := 0, slots := 0, locals := 139 } : Room) s m args below meth c G b0 (MQ below (va_Ql κ (m_B G b0) (fun q => b0 ≤ q)) args s 0 0 (fun q => b0 ≤ q)) 5 M 0 0 42 [(0, va_rf l0), (1, .long l1), (3, .int l3), (4, .int l4)] [] := by
  intro f
  induction f with
  | zero =>
    intro l0 l1 l3 l4 M h
    exact absurd h (by simp [wX8_digest_42])
  | succ f ih =>
    intro l0 l1 l3 l4 M h
    rw [wX8_digest_42] at h
    refine q_iload (pc := 42) C 4 3 dX8_digest_42 rfl ?_
    refine q_bipush (pc := 44) C 8 dX8_digest_44 (by decide) ?_
    refine q_icmp_gt (pc := 46) C 70 dX8_digest_46 (by decide) (fun c1 => ?_) (fun c1 => ?_)
    · have h := h.1 c1
      refine q_iinc (pc := 70) C 3 2 (l3 + 1) [(3, .int (l3 + 1)), (0, va_rf l0), (1, .long l1), (4, .int l4)] dX8_digest_70 rfl (by rfl) (by decide) (by first | rfl | simp [q_cat, q_catI, q_catJ, q_catR, q_catN]) ?_
      refine q_goto (pc := 73) C 33 dX8_digest_73 (by decide) ?_
      refine q_widen (k2 := 0) (n2 := 0) (by omega) (by omega) ?_
      refine q_lv [1, 2, 0] rfl ?_
      exact hR33 _ _ _ _ h
    · have h := h.2 c1
      refine q_lload_n (pc := 49) C 1 1 dX8_digest_49 rfl rfl ?_
      refine q_ldc2 (pc := 50) C 31 (by decide +kernel) dX8_digest_50 ?_
      refine q_lmul (pc := 53) C dX8_digest_53 ?_
      refine q_aload_n (pc := 54) C 0 0 dX8_digest_54 rfl rfl ?_
      refine q_iload_n (pc := 55) C 3 2 dX8_digest_55 rfl rfl ?_
      refine q_iload (pc := 56) C 4 3 dX8_digest_56 rfl ?_
      obtain ⟨b4, fs9, hb4, hm9, h⟩ := h
      refine q_cXi (pc := 58) (q_rVX C (st := [.long (l1 * 31)]) (b := b4) (kX8_ofLand l G b0 (t := 0) hL (fun _ _ h9 => h9.elim) h) (cwV 2 C.2.2.2.2.1 gX8_digest_X8_ofLand rfl rfl rfl (by decide +kernel) ⟨Nat.le_of_ble_eq_true rfl, Nat.le_of_ble_eq_true rfl⟩) hm9 rfl rfl rfl (by first | exact Nat.le_of_ble_eq_true rfl | (simp [q_cat, q_catI, q_catJ, q_catR, q_catN]; done)) (by rw [hb4]; first | done | rfl) dX8_digest_58 ⟨(by first | omega | (dsimp only; omega)), (by first | omega | (dsimp only; omega))⟩) (fun E9 M9 h9 => h9.elim) (fun x2 M3 h => ?_)
      refine q_i2l (pc := 61) C dX8_digest_61 ?_
      refine q_ladd (pc := 62) C dX8_digest_62 ?_
      refine q_lstore_n (pc := 63) C 1 [(1, .long ((l1 * 31) + (Int32.toInt64 x2))), (0, va_rf l0), (3, .int l3), (4, .int l4)] dX8_digest_63 rfl (by decide) (by first | rfl | simp [q_cat, q_catI, q_catJ, q_catR, q_catN]) ?_
      refine q_iinc (pc := 64) C 4 3 (l4 + 1) [(4, .int (l4 + 1)), (1, .long ((l1 * 31) + (Int32.toInt64 x2))), (0, va_rf l0), (3, .int l3)] dX8_digest_64 rfl (by rfl) (by decide) (by first | rfl | simp [q_cat, q_catI, q_catJ, q_catR, q_catN]) ?_
      refine q_goto (pc := 67) C 42 dX8_digest_67 (by decide) ?_
      refine q_widen (k2 := 0) (n2 := 0) (by omega) (by omega) ?_
      refine q_lv [2, 1, 3, 0] rfl ?_
      exact ih _ _ _ _ _ h
set_option maxRecDepth 100000 in
set_option maxHeartbeats 4000000 in
theorem tX8_digest_33 {p : Program} {l : Launch} {e : Env} {s : State} {m : MethodId} {args : Array Value} {below : List Frame} {meth : Method} {c : Code} {G : mG} {b0 : Nat} (C : m_C p s m args c cX8_digest 5 RX8 wsX8_digest G b0) (hr : meth.sig.returnType = (some .long)) (hlocks : meth.locks = false) (hL : l.stackTraces = false) {κ : Int64 → mM → Prop} : ∀ (f : Nat) (l0 : Option Nat) (l1 : Int64) (l3 : Int32) (M : mM), wX8_digest_33 κ f l0 l1 l3 M → m_W p l e ({ frames := 8, cells := 0, slots := 0, locals := 139 } : Room) s m args below meth c G b0 (MQ below (va_Ql κ (m_B G b0) (fun q => b0 ≤ q)) args s 0 0 (fun q => b0 ≤ q)) 5 M 0 0 33 [(0, va_rf l0), (1, .long l1), (3, .int l3)] [] := by
  intro f
  induction f with
  | zero =>
    intro l0 l1 l3 M h
    exact absurd h (by simp [wX8_digest_33])
  | succ f ih =>
    intro l0 l1 l3 M h
    rw [wX8_digest_33] at h
    refine q_iload_n (pc := 33) C 3 2 dX8_digest_33 rfl rfl ?_
    refine q_bipush (pc := 34) C 6 dX8_digest_34 (by decide) ?_
    refine q_icmp_ge (pc := 36) C 76 dX8_digest_36 (by decide) (fun c1 => ?_) (fun c1 => ?_)
    · have h := h.1 c1
      refine q_iconst (pc := 76) C 0 dX8_digest_76 (by decide) ?_
      refine q_istore_n (pc := 77) C 3 [(3, .int 0), (0, va_rf l0), (1, .long l1)] dX8_digest_77 rfl (by decide) (by first | rfl | simp [q_cat, q_catI, q_catJ, q_catR, q_catN]) ?_
      refine q_widen (k2 := 0) (n2 := 0) (by omega) (by omega) ?_
      refine q_lv [1, 2, 0] rfl ?_
      obtain ⟨f9, h⟩ := h
      exact tX8_digest_78 C hr hlocks hL f9 _ _ _ _ h
    · have h := h.2 c1
      refine q_iconst (pc := 39) C 0 dX8_digest_39 (by decide) ?_
      refine q_istore (pc := 40) C 4 [(4, .int 0), (0, va_rf l0), (1, .long l1), (3, .int l3)] dX8_digest_40 (by decide) (by first | rfl | simp [q_cat, q_catI, q_catJ, q_catR, q_catN]) ?_
      refine q_widen (k2 := 0) (n2 := 0) (by omega) (by omega) ?_
      refine q_lv [1, 2, 3, 0] rfl ?_
      obtain ⟨f9, h⟩ := h
      exact tX8_digest_42 C hr hlocks hL ih f9 _ _ _ _ _ h
set_option maxRecDepth 100000 in
set_option maxHeartbeats 4000000 in
theorem tX8_digest_6 {p : Program} {l : Launch} {e : Env} {s : State} {m : MethodId} {args : Array Value} {below : List Frame} {meth : Method} {c : Code} {G : mG} {b0 : Nat} (C : m_C p s m args c cX8_digest 5 RX8 wsX8_digest G b0) (hr : meth.sig.returnType = (some .long)) (hlocks : meth.locks = false) (hL : l.stackTraces = false) {κ : Int64 → mM → Prop} : ∀ (f : Nat) (l0 : Option Nat) (l1 : Int64) (l3 : Int32) (M : mM), wX8_digest_6 κ f l0 l1 l3 M → m_W p l e ({ frames := 8, cells := 0, slots := 0, locals := 139 } : Room) s m args below meth c G b0 (MQ below (va_Ql κ (m_B G b0) (fun q => b0 ≤ q)) args s 0 0 (fun q => b0 ≤ q)) 5 M 0 0 6 [(0, va_rf l0), (1, .long l1), (3, .int l3)] [] := by
  intro f
  induction f with
  | zero =>
    intro l0 l1 l3 M h
    exact absurd h (by simp [wX8_digest_6])
  | succ f ih =>
    intro l0 l1 l3 M h
    rw [wX8_digest_6] at h
    refine q_iload_n (pc := 6) C 3 2 dX8_digest_6 rfl rfl ?_
    refine q_bipush (pc := 7) C 16 dX8_digest_7 (by decide) ?_
    refine q_icmp_gt (pc := 9) C 31 dX8_digest_9 (by decide) (fun c1 => ?_) (fun c1 => ?_)
    · have h := h.1 c1
      refine q_iconst (pc := 31) C 0 dX8_digest_31 (by decide) ?_
      refine q_istore_n (pc := 32) C 3 [(3, .int 0), (0, va_rf l0), (1, .long l1)] dX8_digest_32 rfl (by decide) (by first | rfl | simp [q_cat, q_catI, q_catJ, q_catR, q_catN]) ?_
      refine q_widen (k2 := 0) (n2 := 0) (by omega) (by omega) ?_
      refine q_lv [1, 2, 0] rfl ?_
      obtain ⟨f9, h⟩ := h
      exact tX8_digest_33 C hr hlocks hL f9 _ _ _ _ h
    · have h := h.2 c1
      refine q_lload_n (pc := 12) C 1 1 dX8_digest_12 rfl rfl ?_
      refine q_ldc2 (pc := 13) C 31 (by decide +kernel) dX8_digest_13 ?_
      refine q_lmul (pc := 16) C dX8_digest_16 ?_
      refine q_aload_n (pc := 17) C 0 0 dX8_digest_17 rfl rfl ?_
      refine q_iload_n (pc := 18) C 3 2 dX8_digest_18 rfl rfl ?_
      obtain ⟨b4, fs9, hb4, hm9, h⟩ := h
      refine q_cXi (pc := 19) (q_rVX C (st := [.long (l1 * 31)]) (b := b4) (kX8_night l G b0 (t := 0) hL (fun _ _ h9 => h9.elim) h) (cwV 1 C.2.2.2.2.1 gX8_digest_X8_night rfl rfl rfl (by decide +kernel) ⟨Nat.le_of_ble_eq_true rfl, Nat.le_of_ble_eq_true rfl⟩) hm9 rfl rfl rfl (by first | exact Nat.le_of_ble_eq_true rfl | (simp [q_cat, q_catI, q_catJ, q_catR, q_catN]; done)) (by rw [hb4]; first | done | rfl) dX8_digest_19 ⟨(by first | omega | (dsimp only; omega)), (by first | omega | (dsimp only; omega))⟩) (fun E9 M9 h9 => h9.elim) (fun x2 M3 h => ?_)
      refine q_i2l (pc := 22) C dX8_digest_22 ?_
      refine q_ladd (pc := 23) C dX8_digest_23 ?_
      refine q_lstore_n (pc := 24) C 1 [(1, .long ((l1 * 31) + (Int32.toInt64 x2))), (0, va_rf l0), (3, .int l3)] dX8_digest_24 rfl (by decide) (by first | rfl | simp [q_cat, q_catI, q_catJ, q_catR, q_catN]) ?_
      refine q_iinc (pc := 25) C 3 2 (l3 + 1) [(3, .int (l3 + 1)), (1, .long ((l1 * 31) + (Int32.toInt64 x2))), (0, va_rf l0)] dX8_digest_25 rfl (by rfl) (by decide) (by first | rfl | simp [q_cat, q_catI, q_catJ, q_catR, q_catN]) ?_
      refine q_goto (pc := 28) C 6 dX8_digest_28 (by decide) ?_
      refine q_widen (k2 := 0) (n2 := 0) (by omega) (by omega) ?_
      refine q_lv [2, 1, 0] rfl ?_
      exact ih _ _ _ _ h
set_option maxRecDepth 100000 in
set_option maxHeartbeats 4000000 in
theorem tX8_digest {p : Program} {l : Launch} {e : Env} {s : State} {m : MethodId} {args : Array Value} {below : List Frame} {meth : Method} {c : Code} {G : mG} {b0 : Nat} (C : m_C p s m args c cX8_digest 5 RX8 wsX8_digest G b0) (hr : meth.sig.returnType = (some .long)) (hlocks : meth.locks = false) (hL : l.stackTraces = false) {κ : Int64 → mM → Prop} {l0 : Option Nat} {M : mM} (h : wX8_digest κ l0 M) : m_W p l e ({ frames := 8, cells := 0, slots := 0, locals := 139 } : Room) s m args below meth c G b0 (MQ below (va_Ql κ (m_B G b0) (fun q => b0 ≤ q)) args s 0 0 (fun q => b0 ≤ q)) 5 M 0 0 0 [(0, va_rf l0)] [] := by
  unfold wX8_digest at h
  refine q_ldc2 (pc := 0) C 6007 (by decide +kernel) dX8_digest_0 ?_
  refine q_lstore_n (pc := 3) C 1 [(1, .long 6007), (0, va_rf l0)] dX8_digest_3 rfl (by decide) (by first | rfl | simp [q_cat, q_catI, q_catJ, q_catR, q_catN]) ?_
  refine q_iconst (pc := 4) C 0 dX8_digest_4 (by decide) ?_
  refine q_istore_n (pc := 5) C 3 [(3, .int 0), (1, .long 6007), (0, va_rf l0)] dX8_digest_5 rfl (by decide) (by first | rfl | simp [q_cat, q_catI, q_catJ, q_catR, q_catN]) ?_
  refine q_widen (k2 := 0) (n2 := 0) (by omega) (by omega) ?_
  refine q_lv [2, 1, 0] rfl ?_
  obtain ⟨f9, h⟩ := h
  exact tX8_digest_6 C hr hlocks hL f9 _ _ _ _ h
set_option maxRecDepth 100000 in
set_option maxHeartbeats 4000000 in
theorem kX8_digest (l : Launch) (G : mG) (b0 : Nat) (hL : l.stackTraces = false) {b : Nat} {M : mM} {κ : Int64 → mM → Prop} (h : wX8_digest κ (some b) M) : Met l yX8_digest wsX8_digest ({ frames := 8, cells := 0, slots := 0, locals := 139 } : Room) (va_Pc [.ref b] (m_Pre G b0 M)) (va_Ql κ (m_B G b0) (fun q => b0 ≤ q)) 0 0 (fun q => b0 ≤ q) := by
  refine m_met (cc := cX8_digest) (maxL := 5) (ret := (some .long)) (lv := [(0, va_rf (some b))]) RX8 rfl (by decide +kernel) rfl (by first | exact Nat.le_of_ble_eq_true rfl | simp [lg_sl, q_cat, q_catI, q_catJ, q_catR, q_catN]) (by first | rfl | (simp [lv_args, q_cat, q_catI, q_catJ, q_catR, q_catN]; done) | (simp [lv_args, q_cat, q_catI, q_catJ, q_catR, q_catN]; rfl)) ?_
  intro p e s m args below meth c C hr hlocks hni
  exact tX8_digest C hr hlocks hL h
