/-! J3_checkIndex_8e157 -/
set_option maxRecDepth 100000 in
set_option maxHeartbeats 4000000 in
theorem tJ3_checkIndex_8e157 {p : Program} {l : Launch} {e : Env} {s : State} {m : MethodId} {args : Array Value} {below : List Frame} {meth : Method} {c : Code} {G : mG} {b0 : Nat} (C : m_C p s m args c cJ3_checkIndex_8e157 3 RJ3 wsJ3_checkIndex_8e157 G b0) (hr : meth.sig.returnType = (some .int)) (hlocks : meth.locks = false) {κ : Int32 → mM → Prop} {l0 : Int32} {l1 : Int32} {l2 : Option Nat} {M : mM} (h : wJ3_checkIndex_8e157 κ l0 l1 l2 M) : m_W p l e ({ frames := 0, cells := 0, slots := 0, locals := 0 } : Room) s m args below meth c G b0 (MQ below (va_Qi κ (m_B G b0) (fun q => b0 ≤ q)) args s 0 0 (fun q => b0 ≤ q)) 3 M 0 0 0 [(0, .int l0), (1, .int l1), (2, va_rf l2)] [] := by
  unfold wJ3_checkIndex_8e157 at h
  refine q_iload_n (pc := 0) C 0 0 dJ3_checkIndex_8e157_0 rfl rfl ?_
  refine q_if_lt (pc := 1) C 9 dJ3_checkIndex_8e157_1 (by decide) (fun c1 => ?_) (fun c1 => ?_)
  · have h := h.1 c1
    exact h.elim
  · have h := h.2 c1
    refine q_iload_n (pc := 4) C 0 0 dJ3_checkIndex_8e157_4 rfl rfl ?_
    refine q_iload_n (pc := 5) C 1 1 dJ3_checkIndex_8e157_5 rfl rfl ?_
    refine q_icmp_lt (pc := 6) C 16 dJ3_checkIndex_8e157_6 (by decide) (fun c2 => ?_) (fun c2 => ?_)
    · have h := h.1 c2
      refine q_iload_n (pc := 16) C 0 0 dJ3_checkIndex_8e157_16 rfl rfl ?_
      exact q_iret (pc := 17) C hr hlocks h dJ3_checkIndex_8e157_17 (by omega) (by omega)
    · have h := h.2 c2
      exact h.elim
set_option maxRecDepth 100000 in
set_option maxHeartbeats 4000000 in
theorem kJ3_checkIndex_8e157 (l : Launch) (G : mG) (b0 : Nat) {l0 : Int32} {l1 : Int32} {l2 : Option Nat} {M : mM} {κ : Int32 → mM → Prop} (h : wJ3_checkIndex_8e157 κ l0 l1 l2 M) : Met l yJ3_checkIndex_8e157 wsJ3_checkIndex_8e157 ({ frames := 0, cells := 0, slots := 0, locals := 0 } : Room) (va_Pc [.int l0, .int l1, va_rf l2] (m_Pre G b0 M)) (va_Qi κ (m_B G b0) (fun q => b0 ≤ q)) 0 0 (fun q => b0 ≤ q) := by
  refine m_met (cc := cJ3_checkIndex_8e157) (maxL := 3) (ret := (some .int)) (lv := [(0, .int l0), (1, .int l1), (2, va_rf l2)]) RJ3 rfl (by decide +kernel) rfl (by first | exact Nat.le_of_ble_eq_true rfl | simp [lg_sl, q_cat, q_catI, q_catJ, q_catR, q_catN]) (by first | rfl | (simp [lv_args, q_cat, q_catI, q_catJ, q_catR, q_catN]; done) | (simp [lv_args, q_cat, q_catI, q_catJ, q_catR, q_catN]; rfl)) ?_
  intro p e s m args below meth c C hr hlocks hni
  exact tJ3_checkIndex_8e157 C hr hlocks h
/-! J15_checkIndex_7cf53 -/
set_option maxRecDepth 100000 in
set_option maxHeartbeats 4000000 in
theorem tJ15_checkIndex_7cf53 {p : Program} {l : Launch} {e : Env} {s : State} {m : MethodId} {args : Array Value} {below : List Frame} {meth : Method} {c : Code} {G : mG} {b0 : Nat} (C : m_C p s m args c cJ15_checkIndex_7cf53 2 RJ15 wsJ15_checkIndex_7cf53 G b0) (hr : meth.sig.returnType = (some .int)) (hlocks : meth.locks = false) {κ : Int32 → mM → Prop} {l0 : Int32} {l1 : Int32} {M : mM} (h : wJ15_checkIndex_7cf53 κ l0 l1 M) : m_W p l e ({ frames := 1, cells := 0, slots := 0, locals := 22 } : Room) s m args below meth c G b0 (MQ below (va_Qi κ (m_B G b0) (fun q => b0 ≤ q)) args s 0 0 (fun q => b0 ≤ q)) 2 M 0 0 0 [(0, .int l0), (1, .int l1)] [] := by
  unfold wJ15_checkIndex_7cf53 at h
  refine q_iload_n (pc := 0) C 0 0 dJ15_checkIndex_7cf53_0 rfl rfl ?_
  refine q_iload_n (pc := 1) C 1 1 dJ15_checkIndex_7cf53_1 rfl rfl ?_
  refine q_null (pc := 2) C dJ15_checkIndex_7cf53_2 ?_
  refine q_ci (pc := 3) (q_rS C (st := []) (kJ3_checkIndex_8e157 l G b0 h) (va_cwS 3 C.2.2.2.2.1 gJ15_checkIndex_7cf53_J3_checkIndex_8e157 rfl rfl rfl (by decide +kernel) ⟨Nat.le_of_ble_eq_true rfl, Nat.le_of_ble_eq_true rfl⟩) rfl (by first | exact Nat.le_of_ble_eq_true rfl | (simp [q_cat, q_catI, q_catJ, q_catR, q_catN]; done)) rfl dJ15_checkIndex_7cf53_3 ⟨(by first | omega | (dsimp only; omega)), (by first | omega | (dsimp only; omega))⟩) (fun x1 M2 h => ?_)
  exact q_iret (pc := 6) C hr hlocks h dJ15_checkIndex_7cf53_6 (by omega) (by omega)
set_option maxRecDepth 100000 in
set_option maxHeartbeats 4000000 in
theorem kJ15_checkIndex_7cf53 (l : Launch) (G : mG) (b0 : Nat) {l0 : Int32} {l1 : Int32} {M : mM} {κ : Int32 → mM → Prop} (h : wJ15_checkIndex_7cf53 κ l0 l1 M) : Met l yJ15_checkIndex_7cf53 wsJ15_checkIndex_7cf53 ({ frames := 1, cells := 0, slots := 0, locals := 22 } : Room) (va_Pc [.int l0, .int l1] (m_Pre G b0 M)) (va_Qi κ (m_B G b0) (fun q => b0 ≤ q)) 0 0 (fun q => b0 ≤ q) := by
  refine m_met (cc := cJ15_checkIndex_7cf53) (maxL := 2) (ret := (some .int)) (lv := [(0, .int l0), (1, .int l1)]) RJ15 rfl (by decide +kernel) rfl (by first | exact Nat.le_of_ble_eq_true rfl | simp [lg_sl, q_cat, q_catI, q_catJ, q_catR, q_catN]) (by first | rfl | (simp [lv_args, q_cat, q_catI, q_catJ, q_catR, q_catN]; done) | (simp [lv_args, q_cat, q_catI, q_catJ, q_catR, q_catN]; rfl)) ?_
  intro p e s m args below meth c C hr hlocks hni
  exact tJ15_checkIndex_7cf53 C hr hlocks h
/-! Jx4a65c_elementData_915e3 -/
set_option maxRecDepth 100000 in
set_option maxHeartbeats 4000000 in
theorem tJx4a65c_elementData_915e3 {p : Program} {l : Launch} {e : Env} {s : State} {m : MethodId} {args : Array Value} {below : List Frame} {meth : Method} {c : Code} {G : mG} {b0 : Nat} (C : m_C p s m args c cJx4a65c_elementData_915e3 2 RJx4a65c wsJx4a65c_elementData_915e3 G b0) (hr : meth.sig.returnType = (some (.object "java/lang/Object"))) (hlocks : meth.locks = false) {κ : Option Nat → mM → Prop} {l0 : Option Nat} {l1 : Int32} {M : mM} (h : wJx4a65c_elementData_915e3 κ l0 l1 M) : m_W p l e ({ frames := 0, cells := 0, slots := 0, locals := 0 } : Room) s m args below meth c G b0 (MQ below (va_Qq κ (m_B G b0) (fun q => b0 ≤ q)) args s 0 0 (fun q => b0 ≤ q)) 2 M 0 0 0 [(0, va_rf l0), (1, .int l1)] [] := by
  unfold wJx4a65c_elementData_915e3 at h
  refine q_aload_n (pc := 0) C 0 0 dJx4a65c_elementData_915e3_0 rfl rfl ?_
  refine q_gR (pc := 1) C h (T := TJx4a65c) rfl (by decide) (wk_u rfl wm_Jx4a65c_elementData_915e3 uq_Jx4a65c (by decide +kernel)) (by decide +kernel) (fun _ h9 => h9) dJx4a65c_elementData_915e3_1 (fun x1 h => ?_)
  refine q_iload_n (pc := 4) C 1 1 dJx4a65c_elementData_915e3_4 rfl rfl ?_
  refine q_aald (pc := 5) C h rfl dJx4a65c_elementData_915e3_5 (fun x2 h => ?_)
  exact q_aret (pc := 6) C hr (by first | exact Or.inl ⟨_, rfl⟩ | exact Or.inr ⟨_, rfl⟩) hlocks h dJx4a65c_elementData_915e3_6 (by omega) (by omega)
set_option maxRecDepth 100000 in
set_option maxHeartbeats 4000000 in
theorem kJx4a65c_elementData_915e3 (l : Launch) (G : mG) (b0 : Nat) {b : Nat} {l1 : Int32} {M : mM} {κ : Option Nat → mM → Prop} (h : wJx4a65c_elementData_915e3 κ (some b) l1 M) : Met l yJx4a65c_elementData_915e3 wsJx4a65c_elementData_915e3 ({ frames := 0, cells := 0, slots := 0, locals := 0 } : Room) (va_Pc [.ref b, .int l1] (m_Pre G b0 M)) (va_Qq κ (m_B G b0) (fun q => b0 ≤ q)) 0 0 (fun q => b0 ≤ q) := by
  refine m_met (cc := cJx4a65c_elementData_915e3) (maxL := 2) (ret := (some (.object "java/lang/Object"))) (lv := [(0, va_rf (some b)), (1, .int l1)]) RJx4a65c rfl (by decide +kernel) rfl (by first | exact Nat.le_of_ble_eq_true rfl | simp [lg_sl, q_cat, q_catI, q_catJ, q_catR, q_catN]) (by first | rfl | (simp [lv_args, q_cat, q_catI, q_catJ, q_catR, q_catN]; done) | (simp [lv_args, q_cat, q_catI, q_catJ, q_catR, q_catN]; rfl)) ?_
  intro p e s m args below meth c C hr hlocks hni
  exact tJx4a65c_elementData_915e3 C hr hlocks h
/-! Jx4a65c_size_8abf5 -/
set_option maxRecDepth 100000 in
set_option maxHeartbeats 4000000 in
theorem tJx4a65c_size_8abf5 {p : Program} {l : Launch} {e : Env} {s : State} {m : MethodId} {args : Array Value} {below : List Frame} {meth : Method} {c : Code} {G : mG} {b0 : Nat} (C : m_C p s m args c cJx4a65c_size_8abf5 1 RJx4a65c wsJx4a65c_size_8abf5 G b0) (hr : meth.sig.returnType = (some .int)) (hlocks : meth.locks = false) {κ : Int32 → mM → Prop} {l0 : Option Nat} {M : mM} (h : wJx4a65c_size_8abf5 κ l0 M) : m_W p l e ({ frames := 0, cells := 0, slots := 0, locals := 0 } : Room) s m args below meth c G b0 (MQ below (va_Qi κ (m_B G b0) (fun q => b0 ≤ q)) args s 0 0 (fun q => b0 ≤ q)) 1 M 0 0 0 [(0, va_rf l0)] [] := by
  unfold wJx4a65c_size_8abf5 at h
  refine q_aload_n (pc := 0) C 0 0 dJx4a65c_size_8abf5_0 rfl rfl ?_
  refine q_gI (pc := 1) C h (T := TJx4a65c) rfl (by decide) (wk_u rfl wm_Jx4a65c_size_8abf5 uq_Jx4a65c (by decide +kernel)) (by decide +kernel) (fun _ h9 => h9) dJx4a65c_size_8abf5_1 (fun x1 h => ?_)
  exact q_iret (pc := 4) C hr hlocks h dJx4a65c_size_8abf5_4 (by omega) (by omega)
set_option maxRecDepth 100000 in
set_option maxHeartbeats 4000000 in
theorem kJx4a65c_size_8abf5 (l : Launch) (G : mG) (b0 : Nat) {b : Nat} {M : mM} {κ : Int32 → mM → Prop} (h : wJx4a65c_size_8abf5 κ (some b) M) : Met l yJx4a65c_size_8abf5 wsJx4a65c_size_8abf5 ({ frames := 0, cells := 0, slots := 0, locals := 0 } : Room) (va_Pc [.ref b] (m_Pre G b0 M)) (va_Qi κ (m_B G b0) (fun q => b0 ≤ q)) 0 0 (fun q => b0 ≤ q) := by
  refine m_met (cc := cJx4a65c_size_8abf5) (maxL := 1) (ret := (some .int)) (lv := [(0, va_rf (some b))]) RJx4a65c rfl (by decide +kernel) rfl (by first | exact Nat.le_of_ble_eq_true rfl | simp [lg_sl, q_cat, q_catI, q_catJ, q_catR, q_catN]) (by first | rfl | (simp [lv_args, q_cat, q_catI, q_catJ, q_catR, q_catN]; done) | (simp [lv_args, q_cat, q_catI, q_catJ, q_catR, q_catN]; rfl)) ?_
  intro p e s m args below meth c C hr hlocks hni
  exact tJx4a65c_size_8abf5 C hr hlocks h
/-! Jx4a65c_isEmpty_aae02 -/
set_option maxRecDepth 100000 in
set_option maxHeartbeats 4000000 in
theorem tJx4a65c_isEmpty_aae02 {p : Program} {l : Launch} {e : Env} {s : State} {m : MethodId} {args : Array Value} {below : List Frame} {meth : Method} {c : Code} {G : mG} {b0 : Nat} (C : m_C p s m args c cJx4a65c_isEmpty_aae02 1 RJx4a65c wsJx4a65c_isEmpty_aae02 G b0) (hr : meth.sig.returnType = (some .boolean)) (hlocks : meth.locks = false) {κ : Int32 → mM → Prop} {l0 : Option Nat} {M : mM} (h : wJx4a65c_isEmpty_aae02 κ l0 M) : m_W p l e ({ frames := 0, cells := 0, slots := 0, locals := 0 } : Room) s m args below meth c G b0 (MQ below (va_Qi κ (m_B G b0) (fun q => b0 ≤ q)) args s 0 0 (fun q => b0 ≤ q)) 1 M 0 0 0 [(0, va_rf l0)] [] := by
  unfold wJx4a65c_isEmpty_aae02 at h
  refine q_aload_n (pc := 0) C 0 0 dJx4a65c_isEmpty_aae02_0 rfl rfl ?_
  refine q_gI (pc := 1) C h (T := TJx4a65c) rfl (by decide) (wk_u rfl wm_Jx4a65c_isEmpty_aae02 uq_Jx4a65c (by decide +kernel)) (by decide +kernel) (fun _ h9 => h9) dJx4a65c_isEmpty_aae02_1 (fun x1 h => ?_)
  refine q_if_ne (pc := 4) C 11 dJx4a65c_isEmpty_aae02_4 (by decide) (fun c2 => ?_) (fun c2 => ?_)
  · have h := h.2 c2
    refine q_iconst (pc := 11) C 0 dJx4a65c_isEmpty_aae02_11 (by decide) ?_
    exact q_zret (pc := 12) C hr hlocks ⟨(by decide), h⟩ dJx4a65c_isEmpty_aae02_12 (by omega) (by omega)
  · have h := h.1 c2
    refine q_iconst (pc := 7) C 1 dJx4a65c_isEmpty_aae02_7 (by decide) ?_
    refine q_goto (pc := 8) C 12 dJx4a65c_isEmpty_aae02_8 (by decide) ?_
    exact q_zret (pc := 12) C hr hlocks ⟨(by decide), h⟩ dJx4a65c_isEmpty_aae02_12 (by omega) (by omega)
set_option maxRecDepth 100000 in
set_option maxHeartbeats 4000000 in
theorem kJx4a65c_isEmpty_aae02 (l : Launch) (G : mG) (b0 : Nat) {b : Nat} {M : mM} {κ : Int32 → mM → Prop} (h : wJx4a65c_isEmpty_aae02 κ (some b) M) : Met l yJx4a65c_isEmpty_aae02 wsJx4a65c_isEmpty_aae02 ({ frames := 0, cells := 0, slots := 0, locals := 0 } : Room) (va_Pc [.ref b] (m_Pre G b0 M)) (va_Qi κ (m_B G b0) (fun q => b0 ≤ q)) 0 0 (fun q => b0 ≤ q) := by
  refine m_met (cc := cJx4a65c_isEmpty_aae02) (maxL := 1) (ret := (some .boolean)) (lv := [(0, va_rf (some b))]) RJx4a65c rfl (by decide +kernel) rfl (by first | exact Nat.le_of_ble_eq_true rfl | simp [lg_sl, q_cat, q_catI, q_catJ, q_catR, q_catN]) (by first | rfl | (simp [lv_args, q_cat, q_catI, q_catJ, q_catR, q_catN]; done) | (simp [lv_args, q_cat, q_catI, q_catJ, q_catR, q_catN]; rfl)) ?_
  intro p e s m args below meth c C hr hlocks hni
  exact tJx4a65c_isEmpty_aae02 C hr hlocks h
/-! Jx4a65c_get_915e3 -/
set_option maxRecDepth 100000 in
set_option maxHeartbeats 4000000 in
theorem tJx4a65c_get_915e3 {p : Program} {l : Launch} {e : Env} {s : State} {m : MethodId} {args : Array Value} {below : List Frame} {meth : Method} {c : Code} {G : mG} {b0 : Nat} (C : m_C p s m args c cJx4a65c_get_915e3 2 RJx4a65c wsJx4a65c_get_915e3 G b0) (hr : meth.sig.returnType = (some (.object "java/lang/Object"))) (hlocks : meth.locks = false) {κ : Option Nat → mM → Prop} {l0 : Option Nat} {l1 : Int32} {M : mM} (h : wJx4a65c_get_915e3 κ l0 l1 M) : m_W p l e ({ frames := 2, cells := 0, slots := 0, locals := 43 } : Room) s m args below meth c G b0 (MQ below (va_Qq κ (m_B G b0) (fun q => b0 ≤ q)) args s 0 0 (fun q => b0 ≤ q)) 2 M 0 0 0 [(0, va_rf l0), (1, .int l1)] [] := by
  unfold wJx4a65c_get_915e3 at h
  refine q_iload_n (pc := 0) C 1 1 dJx4a65c_get_915e3_0 rfl rfl ?_
  refine q_aload_n (pc := 1) C 0 0 dJx4a65c_get_915e3_1 rfl rfl ?_
  refine q_gI (pc := 2) C h (T := TJx4a65c) rfl (by decide) (wk_u rfl wm_Jx4a65c_get_915e3 uq_Jx4a65c (by decide +kernel)) (by decide +kernel) (fun _ h9 => h9) dJx4a65c_get_915e3_2 (fun x1 h => ?_)
  refine q_ci (pc := 5) (q_rS C (st := []) (kJ15_checkIndex_7cf53 l G b0 h) (va_cwS 2 C.2.2.2.2.1 gJx4a65c_get_915e3_J15_checkIndex_7cf53 rfl rfl rfl (by decide +kernel) ⟨Nat.le_of_ble_eq_true rfl, Nat.le_of_ble_eq_true rfl⟩) rfl (by first | exact Nat.le_of_ble_eq_true rfl | (simp [q_cat, q_catI, q_catJ, q_catR, q_catN]; done)) rfl dJx4a65c_get_915e3_5 ⟨(by first | omega | (dsimp only; omega)), (by first | omega | (dsimp only; omega))⟩) (fun x2 M3 h => ?_)
  refine q_pop (pc := 8) C dJx4a65c_get_915e3_8 rfl ?_
  refine q_aload_n (pc := 9) C 0 0 dJx4a65c_get_915e3_9 rfl rfl ?_
  refine q_iload_n (pc := 10) C 1 1 dJx4a65c_get_915e3_10 rfl rfl ?_
  obtain ⟨b6, fs9, hb6, hm9, h⟩ := h
  refine q_cq (pc := 11) (q_rV C (st := []) (b := b6) (kJx4a65c_elementData_915e3 l G b0 h) (cwV 1 C.2.2.2.2.1 gJx4a65c_get_915e3_Jx4a65c_elementData_915e3 rfl rfl rfl (by decide +kernel) ⟨Nat.le_of_ble_eq_true rfl, Nat.le_of_ble_eq_true rfl⟩) hm9 rfl rfl rfl (by first | exact Nat.le_of_ble_eq_true rfl | (simp [q_cat, q_catI, q_catJ, q_catR, q_catN]; done)) (by rw [hb6]; first | done | rfl) dJx4a65c_get_915e3_11 ⟨(by first | omega | (dsimp only; omega)), (by first | omega | (dsimp only; omega))⟩) (fun x4 M5 h => ?_)
  exact q_aret (pc := 14) C hr (by first | exact Or.inl ⟨_, rfl⟩ | exact Or.inr ⟨_, rfl⟩) hlocks h dJx4a65c_get_915e3_14 (by omega) (by omega)
set_option maxRecDepth 100000 in
set_option maxHeartbeats 4000000 in
theorem kJx4a65c_get_915e3 (l : Launch) (G : mG) (b0 : Nat) {b : Nat} {l1 : Int32} {M : mM} {κ : Option Nat → mM → Prop} (h : wJx4a65c_get_915e3 κ (some b) l1 M) : Met l yJx4a65c_get_915e3 wsJx4a65c_get_915e3 ({ frames := 2, cells := 0, slots := 0, locals := 43 } : Room) (va_Pc [.ref b, .int l1] (m_Pre G b0 M)) (va_Qq κ (m_B G b0) (fun q => b0 ≤ q)) 0 0 (fun q => b0 ≤ q) := by
  refine m_met (cc := cJx4a65c_get_915e3) (maxL := 2) (ret := (some (.object "java/lang/Object"))) (lv := [(0, va_rf (some b)), (1, .int l1)]) RJx4a65c rfl (by decide +kernel) rfl (by first | exact Nat.le_of_ble_eq_true rfl | simp [lg_sl, q_cat, q_catI, q_catJ, q_catR, q_catN]) (by first | rfl | (simp [lv_args, q_cat, q_catI, q_catJ, q_catR, q_catN]; done) | (simp [lv_args, q_cat, q_catI, q_catJ, q_catR, q_catN]; rfl)) ?_
  intro p e s m args below meth c C hr hlocks hni
  exact tJx4a65c_get_915e3 C hr hlocks h
/-! J8_newLength_cabcc -/
set_option maxRecDepth 100000 in
set_option maxHeartbeats 4000000 in
theorem tJ8_newLength_cabcc_21 {p : Program} {l : Launch} {e : Env} {s : State} {m : MethodId} {args : Array Value} {below : List Frame} {meth : Method} {c : Code} {G : mG} {b0 : Nat} (C : m_C p s m args c cJ8_newLength_cabcc 4 RJ8 wsJ8_newLength_cabcc G b0) (hr : meth.sig.returnType = (some .int)) (hlocks : meth.locks = false) {κ : Int32 → mM → Prop} {l0 : Int32} {l1 : Int32} {M : mM} (h : wJ8_newLength_cabcc_21 κ l0 l1 M) : m_W p l e ({ frames := 1, cells := 0, slots := 0, locals := 40 } : Room) s m args below meth c G b0 (MQ below (va_Qi κ (m_B G b0) (fun q => b0 ≤ q)) args s 0 0 (fun q => b0 ≤ q)) 4 M 0 0 21 [(0, .int l0), (1, .int l1)] [] := by
  unfold wJ8_newLength_cabcc_21 at h
  refine q_iload_n (pc := 21) C 0 0 dJ8_newLength_cabcc_21 rfl rfl ?_
  refine q_iload_n (pc := 22) C 1 1 dJ8_newLength_cabcc_22 rfl rfl ?_
  exact h.elim
set_option maxRecDepth 100000 in
set_option maxHeartbeats 4000000 in
theorem tJ8_newLength_cabcc {p : Program} {l : Launch} {e : Env} {s : State} {m : MethodId} {args : Array Value} {below : List Frame} {meth : Method} {c : Code} {G : mG} {b0 : Nat} (C : m_C p s m args c cJ8_newLength_cabcc 4 RJ8 wsJ8_newLength_cabcc G b0) (hr : meth.sig.returnType = (some .int)) (hlocks : meth.locks = false) {κ : Int32 → mM → Prop} {l0 : Int32} {l1 : Int32} {l2 : Int32} {M : mM} (h : wJ8_newLength_cabcc κ l0 l1 l2 M) : m_W p l e ({ frames := 1, cells := 0, slots := 0, locals := 40 } : Room) s m args below meth c G b0 (MQ below (va_Qi κ (m_B G b0) (fun q => b0 ≤ q)) args s 0 0 (fun q => b0 ≤ q)) 4 M 0 0 0 [(0, .int l0), (1, .int l1), (2, .int l2)] [] := by
  unfold wJ8_newLength_cabcc at h
  refine q_iload_n (pc := 0) C 0 0 dJ8_newLength_cabcc_0 rfl rfl ?_
  refine q_iload_n (pc := 1) C 1 1 dJ8_newLength_cabcc_1 rfl rfl ?_
  refine q_iload_n (pc := 2) C 2 2 dJ8_newLength_cabcc_2 rfl rfl ?_
  refine q_mmax (pc := 3) C (by decide +kernel) (by decide +kernel) (by decide +kernel) (by decide +kernel) (Nat.le_of_ble_eq_true rfl) (by first | exact Nat.le_of_ble_eq_true rfl | (simp [q_cat, q_catI, q_catJ, q_catR, q_catN]; done) | (simp [q_cat, q_catI, q_catJ, q_catR, q_catN]; decide)) (by first | omega | (dsimp only; omega)) (by first | omega | (dsimp only; omega)) dJ8_newLength_cabcc_3 ?_
  refine m_stk (st2 := .int (m_max l1 l2) :: _) rfl ?_
  refine q_iadd (pc := 6) C dJ8_newLength_cabcc_6 ?_
  refine q_istore_n (pc := 7) C 3 [(3, .int (l0 + (m_max l1 l2))), (0, .int l0), (1, .int l1), (2, .int l2)] dJ8_newLength_cabcc_7 rfl (by decide) (by first | rfl | simp [q_cat, q_catI, q_catJ, q_catR, q_catN]) ?_
  refine q_iconst (pc := 8) C 0 dJ8_newLength_cabcc_8 (by decide) ?_
  refine q_iload_n (pc := 9) C 3 0 dJ8_newLength_cabcc_9 rfl rfl ?_
  refine q_icmp_ge (pc := 10) C 21 dJ8_newLength_cabcc_10 (by decide) (fun c1 => ?_) (fun c1 => ?_)
  · have h := h.1 c1
    refine q_widen (k2 := 0) (n2 := 0) (by omega) (by omega) ?_
    refine q_lv [1, 2] rfl ?_
    exact tJ8_newLength_cabcc_21 C hr hlocks h
  · have h := h.2 c1
    refine q_iload_n (pc := 13) C 3 0 dJ8_newLength_cabcc_13 rfl rfl ?_
    refine q_ldc (pc := 14) C 2147483639 (by decide +kernel) dJ8_newLength_cabcc_14 ?_
    refine q_icmp_gt (pc := 16) C 21 dJ8_newLength_cabcc_16 (by decide) (fun c2 => ?_) (fun c2 => ?_)
    · have h := h.1 c2
      refine q_widen (k2 := 0) (n2 := 0) (by omega) (by omega) ?_
      refine q_lv [1, 2] rfl ?_
      exact tJ8_newLength_cabcc_21 C hr hlocks h
    · have h := h.2 c2
      refine q_iload_n (pc := 19) C 3 0 dJ8_newLength_cabcc_19 rfl rfl ?_
      exact q_iret (pc := 20) C hr hlocks h dJ8_newLength_cabcc_20 (by omega) (by omega)
set_option maxRecDepth 100000 in
set_option maxHeartbeats 4000000 in
theorem kJ8_newLength_cabcc (l : Launch) (G : mG) (b0 : Nat) {l0 : Int32} {l1 : Int32} {l2 : Int32} {M : mM} {κ : Int32 → mM → Prop} (h : wJ8_newLength_cabcc κ l0 l1 l2 M) : Met l yJ8_newLength_cabcc wsJ8_newLength_cabcc ({ frames := 1, cells := 0, slots := 0, locals := 40 } : Room) (va_Pc [.int l0, .int l1, .int l2] (m_Pre G b0 M)) (va_Qi κ (m_B G b0) (fun q => b0 ≤ q)) 0 0 (fun q => b0 ≤ q) := by
  refine m_met (cc := cJ8_newLength_cabcc) (maxL := 4) (ret := (some .int)) (lv := [(0, .int l0), (1, .int l1), (2, .int l2)]) RJ8 rfl (by decide +kernel) rfl (by first | exact Nat.le_of_ble_eq_true rfl | simp [lg_sl, q_cat, q_catI, q_catJ, q_catR, q_catN]) (by first | rfl | (simp [lv_args, q_cat, q_catI, q_catJ, q_catR, q_catN]; done) | (simp [lv_args, q_cat, q_catI, q_catJ, q_catR, q_catN]; rfl)) ?_
  intro p e s m args below meth c C hr hlocks hni
  exact tJ8_newLength_cabcc C hr hlocks h
/-! J7_copyOf_6403c -/
set_option maxRecDepth 100000 in
set_option maxHeartbeats 4000000 in
theorem tJ7_copyOf_6403c_24 {p : Program} {l : Launch} {e : Env} {s : State} {m : MethodId} {args : Array Value} {below : List Frame} {meth : Method} {c : Code} {G : mG} {b0 : Nat} (C : m_C p s m args c cJ7_copyOf_6403c 4 RJ7 wsJ7_copyOf_6403c G b0) (hr : meth.sig.returnType = (some (.array (.object "java/lang/Object")))) (hlocks : meth.locks = false) {g : Nat → Nat} (hg : G.2.2 = g) {B : Nat} (hB : B ≤ 65536) {κ : Option Nat → mM → Prop} {l0 : Option Nat} {l1 : Int32} {s0 : Option Nat} {M : mM} (h : wJ7_copyOf_6403c_24 g B κ l0 l1 s0 M) : m_W p l e ({ frames := 1, cells := 1, slots := (0 + 1 * B), locals := 40 } : Room) s m args below meth c G b0 (MQ below (va_Qq κ (m_B G b0) (fun q => b0 ≤ q)) args s 1 (0 + 1 * B) (fun q => b0 ≤ q)) 4 M 1 (0 + 1 * B) 24 [(0, va_rf l0), (1, .int l1)] [va_rf s0] := by
  unfold wJ7_copyOf_6403c_24 at h
  refine q_astore_n (pc := 24) C 3 [(3, va_rf s0), (0, va_rf l0), (1, .int l1)] dJ7_copyOf_6403c_24 rfl (by decide) (by first | rfl | simp [q_cat, q_catI, q_catJ, q_catR, q_catN]) ?_
  refine q_aload_n (pc := 25) C 0 1 dJ7_copyOf_6403c_25 rfl rfl ?_
  refine q_iconst (pc := 26) C 0 dJ7_copyOf_6403c_26 (by decide) ?_
  refine q_aload_n (pc := 27) C 3 0 dJ7_copyOf_6403c_27 rfl rfl ?_
  refine q_iconst (pc := 28) C 0 dJ7_copyOf_6403c_28 (by decide) ?_
  refine q_aload_n (pc := 29) C 0 1 dJ7_copyOf_6403c_29 rfl rfl ?_
  refine q_len (pc := 30) C h dJ7_copyOf_6403c_30 (fun x1 h => ?_)
  refine q_iload_n (pc := 31) C 1 2 dJ7_copyOf_6403c_31 rfl rfl ?_
  refine q_mmin (pc := 32) C (by decide +kernel) (by decide +kernel) (by decide +kernel) (by decide +kernel) (Nat.le_of_ble_eq_true rfl) (by first | exact Nat.le_of_ble_eq_true rfl | (simp [q_cat, q_catI, q_catJ, q_catR, q_catN]; done) | (simp [q_cat, q_catI, q_catJ, q_catR, q_catN]; decide)) (by first | omega | (dsimp only; omega)) (by first | omega | (dsimp only; omega)) dJ7_copyOf_6403c_32 ?_
  refine m_stk (st2 := .int (m_min x1 l1) :: _) rfl ?_
  refine q_copyR (pc := 35) C h (by decide +kernel) (by decide +kernel) (by decide +kernel) (by decide +kernel) (Nat.le_of_ble_eq_true rfl) (by first | exact Nat.le_of_ble_eq_true rfl | (simp [q_cat, q_catI, q_catJ, q_catR, q_catN]; done) | (simp [q_cat, q_catI, q_catJ, q_catR, q_catN]; decide)) dJ7_copyOf_6403c_35 (fun M2 h => ?_)
  refine q_aload_n (pc := 38) C 3 0 dJ7_copyOf_6403c_38 rfl rfl ?_
  exact q_aret (pc := 39) C hr (by first | exact Or.inl ⟨_, rfl⟩ | exact Or.inr ⟨_, rfl⟩) hlocks h dJ7_copyOf_6403c_39 (by omega) (by omega)
set_option maxRecDepth 100000 in
set_option maxHeartbeats 4000000 in
theorem tJ7_copyOf_6403c {p : Program} {l : Launch} {e : Env} {s : State} {m : MethodId} {args : Array Value} {below : List Frame} {meth : Method} {c : Code} {G : mG} {b0 : Nat} (C : m_C p s m args c cJ7_copyOf_6403c 4 RJ7 wsJ7_copyOf_6403c G b0) (hr : meth.sig.returnType = (some (.array (.object "java/lang/Object")))) (hlocks : meth.locks = false) {g : Nat → Nat} (hg : G.2.2 = g) {B : Nat} (hB : B ≤ 65536) {κ : Option Nat → mM → Prop} {l0 : Option Nat} {l1 : Int32} {l2 : Option Nat} {M : mM} (h : wJ7_copyOf_6403c g B κ l0 l1 l2 M) : m_W p l e ({ frames := 1, cells := 1, slots := (0 + 1 * B), locals := 40 } : Room) s m args below meth c G b0 (MQ below (va_Qq κ (m_B G b0) (fun q => b0 ≤ q)) args s 1 (0 + 1 * B) (fun q => b0 ≤ q)) 4 M 0 0 0 [(0, va_rf l0), (1, .int l1), (2, va_rf l2)] [] := by
  unfold wJ7_copyOf_6403c at h
  refine q_aload_n (pc := 0) C 2 2 dJ7_copyOf_6403c_0 rfl rfl ?_
  refine q_ldcM (pc := 1) C hg (by decide +kernel) dJ7_copyOf_6403c_1 ?_
  refine q_acmp_ne (pc := 3) C 13 dJ7_copyOf_6403c_3 (by decide) (fun c1 => ?_) (fun c1 => ?_)
  · have h := h.2 c1
    refine q_aload_n (pc := 13) C 2 2 dJ7_copyOf_6403c_13 rfl rfl ?_
    exact h.elim
  · have h := h.1 c1
    refine q_iload_n (pc := 6) C 1 1 dJ7_copyOf_6403c_6 rfl rfl ?_
    refine q_newR (pc := 7) C h (E := "java/lang/Object") (ak := 2) rfl (by decide) hB (by decide +kernel) 695 (by decide +kernel) (by first | omega | (dsimp only; omega)) (by first | omega | (dsimp only; omega)) dJ7_copyOf_6403c_7 (fun q2 M3 h => ?_)
    refine q_goto (pc := 10) C 24 dJ7_copyOf_6403c_10 (by decide) ?_
    refine q_widen (k2 := 1) (n2 := (0 + 1 * B)) (by omega) (by omega) ?_
    refine q_lv [0, 1] rfl ?_
    exact tJ7_copyOf_6403c_24 C hr hlocks hg hB h
set_option maxRecDepth 100000 in
set_option maxHeartbeats 4000000 in
theorem kJ7_copyOf_6403c (l : Launch) (G : mG) (b0 : Nat) {g : Nat → Nat} (hg : G.2.2 = g) {B : Nat} (hB : B ≤ 65536) {l0 : Option Nat} {l1 : Int32} {l2 : Option Nat} {M : mM} {κ : Option Nat → mM → Prop} (h : wJ7_copyOf_6403c g B κ l0 l1 l2 M) : Met l yJ7_copyOf_6403c wsJ7_copyOf_6403c ({ frames := 1, cells := 1, slots := (0 + 1 * B), locals := 40 } : Room) (va_Pc [va_rf l0, .int l1, va_rf l2] (m_Pre G b0 M)) (va_Qq κ (m_B G b0) (fun q => b0 ≤ q)) 1 (0 + 1 * B) (fun q => b0 ≤ q) := by
  refine m_met (cc := cJ7_copyOf_6403c) (maxL := 4) (ret := (some (.array (.object "java/lang/Object")))) (lv := [(0, va_rf l0), (1, .int l1), (2, va_rf l2)]) RJ7 rfl (by decide +kernel) rfl (by first | exact Nat.le_of_ble_eq_true rfl | simp [lg_sl, q_cat, q_catI, q_catJ, q_catR, q_catN]) (by first | rfl | (simp [lv_args, q_cat, q_catI, q_catJ, q_catR, q_catN]; done) | (simp [lv_args, q_cat, q_catI, q_catJ, q_catR, q_catN]; rfl)) ?_
  intro p e s m args below meth c C hr hlocks hni
  exact tJ7_copyOf_6403c C hr hlocks hg hB h
/-! J7_copyOf_1904c -/
set_option maxRecDepth 100000 in
set_option maxHeartbeats 4000000 in
theorem tJ7_copyOf_1904c {p : Program} {l : Launch} {e : Env} {s : State} {m : MethodId} {args : Array Value} {below : List Frame} {meth : Method} {c : Code} {G : mG} {b0 : Nat} (C : m_C p s m args c cJ7_copyOf_1904c 2 RJ7 wsJ7_copyOf_1904c G b0) (hr : meth.sig.returnType = (some (.array (.object "java/lang/Object")))) (hlocks : meth.locks = false) {g : Nat → Nat} (hg : G.2.2 = g) {B : Nat} (hB : B ≤ 65536) {κ : Option Nat → mM → Prop} {l0 : Option Nat} {l1 : Int32} {M : mM} (h : wJ7_copyOf_1904c g B κ l0 l1 M) : m_W p l e ({ frames := 2, cells := 1, slots := (0 + 1 * B), locals := 63 } : Room) s m args below meth c G b0 (MQ below (va_Qq κ (m_B G b0) (fun q => b0 ≤ q)) args s 1 (0 + 1 * B) (fun q => b0 ≤ q)) 2 M 0 0 0 [(0, va_rf l0), (1, .int l1)] [] := by
  unfold wJ7_copyOf_1904c at h
  refine q_aload_n (pc := 0) C 0 0 dJ7_copyOf_1904c_0 rfl rfl ?_
  refine q_iload_n (pc := 1) C 1 1 dJ7_copyOf_1904c_1 rfl rfl ?_
  refine q_aload_n (pc := 2) C 0 0 dJ7_copyOf_1904c_2 rfl rfl ?_
  refine q_getC (pc := 3) C hg h (by decide +kernel) (by decide +kernel) (by decide +kernel) (by decide +kernel) (Nat.le_of_ble_eq_true rfl) (by first | exact Nat.le_of_ble_eq_true rfl | (simp [q_cat, q_catI, q_catJ, q_catR, q_catN]; done) | (simp [q_cat, q_catI, q_catJ, q_catR, q_catN]; decide)) dJ7_copyOf_1904c_3 (fun h => ?_)
  refine q_cq (pc := 6) (q_rS C (st := []) (kJ7_copyOf_6403c l G b0 hg hB h) (va_cwS 3 C.2.2.2.2.1 gJ7_copyOf_1904c_J7_copyOf_6403c rfl rfl rfl (by decide +kernel) ⟨Nat.le_of_ble_eq_true rfl, Nat.le_of_ble_eq_true rfl⟩) rfl (by first | exact Nat.le_of_ble_eq_true rfl | (simp [q_cat, q_catI, q_catJ, q_catR, q_catN]; done)) rfl dJ7_copyOf_1904c_6 ⟨(by first | omega | (dsimp only; omega)), (by first | omega | (dsimp only; omega))⟩) (fun x1 M2 h => ?_)
  exact q_aret (pc := 9) C hr (by first | exact Or.inl ⟨_, rfl⟩ | exact Or.inr ⟨_, rfl⟩) hlocks h dJ7_copyOf_1904c_9 (by omega) (by omega)
set_option maxRecDepth 100000 in
set_option maxHeartbeats 4000000 in
theorem kJ7_copyOf_1904c (l : Launch) (G : mG) (b0 : Nat) {g : Nat → Nat} (hg : G.2.2 = g) {B : Nat} (hB : B ≤ 65536) {l0 : Option Nat} {l1 : Int32} {M : mM} {κ : Option Nat → mM → Prop} (h : wJ7_copyOf_1904c g B κ l0 l1 M) : Met l yJ7_copyOf_1904c wsJ7_copyOf_1904c ({ frames := 2, cells := 1, slots := (0 + 1 * B), locals := 63 } : Room) (va_Pc [va_rf l0, .int l1] (m_Pre G b0 M)) (va_Qq κ (m_B G b0) (fun q => b0 ≤ q)) 1 (0 + 1 * B) (fun q => b0 ≤ q) := by
  refine m_met (cc := cJ7_copyOf_1904c) (maxL := 2) (ret := (some (.array (.object "java/lang/Object")))) (lv := [(0, va_rf l0), (1, .int l1)]) RJ7 rfl (by decide +kernel) rfl (by first | exact Nat.le_of_ble_eq_true rfl | simp [lg_sl, q_cat, q_catI, q_catJ, q_catR, q_catN]) (by first | rfl | (simp [lv_args, q_cat, q_catI, q_catJ, q_catR, q_catN]; done) | (simp [lv_args, q_cat, q_catI, q_catJ, q_catR, q_catN]; rfl)) ?_
  intro p e s m args below meth c C hr hlocks hni
  exact tJ7_copyOf_1904c C hr hlocks hg hB h
/-! Jx4a65c_grow_92f84 -/
set_option maxRecDepth 100000 in
set_option maxHeartbeats 4000000 in
theorem tJx4a65c_grow_92f84_20 {p : Program} {l : Launch} {e : Env} {s : State} {m : MethodId} {args : Array Value} {below : List Frame} {meth : Method} {c : Code} {G : mG} {b0 : Nat} (C : m_C p s m args c cJx4a65c_grow_92f84 4 RJx4a65c wsJx4a65c_grow_92f84 G b0) (hr : meth.sig.returnType = (some (.array (.object "java/lang/Object")))) (hlocks : meth.locks = false) {g : Nat → Nat} (hg : G.2.2 = g) {B : Nat} (hB : B ≤ 65536) {κ : Option Nat → mM → Prop} {l0 : Option Nat} {l1 : Int32} {l2 : Int32} {M : mM} (h : wJx4a65c_grow_92f84_20 g B κ l0 l1 l2 M) : m_W p l e ({ frames := 3, cells := 1, slots := (0 + 1 * B), locals := 84 } : Room) s m args below meth c G b0 (MQ below (va_Qq κ (m_B G b0) (fun q => b0 ≤ q)) args s 1 (0 + 1 * B) (fun q => b0 ≤ q)) 4 M 0 0 20 [(0, va_rf l0), (1, .int l1), (2, .int l2)] [] := by
  unfold wJx4a65c_grow_92f84_20 at h
  refine q_iload_n (pc := 20) C 2 2 dJx4a65c_grow_92f84_20 rfl rfl ?_
  refine q_iload_n (pc := 21) C 1 1 dJx4a65c_grow_92f84_21 rfl rfl ?_
  refine q_iload_n (pc := 22) C 2 2 dJx4a65c_grow_92f84_22 rfl rfl ?_
  refine q_isub (pc := 23) C dJx4a65c_grow_92f84_23 ?_
  refine q_iload_n (pc := 24) C 2 2 dJx4a65c_grow_92f84_24 rfl rfl ?_
  refine q_iconst (pc := 25) C 1 dJx4a65c_grow_92f84_25 (by decide) ?_
  refine q_ishr (pc := 26) C dJx4a65c_grow_92f84_26 ?_
  refine m_stk (st2 := .int (m_shr l2 1) :: _) rfl ?_
  refine q_ci (pc := 27) (q_rS C (st := []) (kJ8_newLength_cabcc l G b0 h) (va_cwS 3 C.2.2.2.2.1 gJx4a65c_grow_92f84_J8_newLength_cabcc rfl rfl rfl (by decide +kernel) ⟨Nat.le_of_ble_eq_true rfl, Nat.le_of_ble_eq_true rfl⟩) rfl (by first | exact Nat.le_of_ble_eq_true rfl | (simp [q_cat, q_catI, q_catJ, q_catR, q_catN]; done)) rfl dJx4a65c_grow_92f84_27 ⟨(by first | omega | (dsimp only; omega)), (by first | omega | (dsimp only; omega))⟩) (fun x1 M2 h => ?_)
  refine q_istore_n (pc := 30) C 3 [(3, .int x1), (0, va_rf l0), (1, .int l1), (2, .int l2)] dJx4a65c_grow_92f84_30 rfl (by decide) (by first | rfl | simp [q_cat, q_catI, q_catJ, q_catR, q_catN]) ?_
  refine q_aload_n (pc := 31) C 0 1 dJx4a65c_grow_92f84_31 rfl rfl ?_
  refine q_aload_n (pc := 32) C 0 1 dJx4a65c_grow_92f84_32 rfl rfl ?_
  refine q_gR (pc := 33) C h (T := TJx4a65c) rfl (by decide) (wk_u rfl wm_Jx4a65c_grow_92f84 uq_Jx4a65c (by decide +kernel)) (by decide +kernel) (fun _ h9 => h9) dJx4a65c_grow_92f84_33 (fun x3 h => ?_)
  refine q_iload_n (pc := 36) C 3 0 dJx4a65c_grow_92f84_36 rfl rfl ?_
  refine q_cq (pc := 37) (q_rS C (st := [va_rf l0]) (kJ7_copyOf_1904c l G b0 hg hB h) (va_cwS 2 C.2.2.2.2.1 gJx4a65c_grow_92f84_J7_copyOf_1904c rfl rfl rfl (by decide +kernel) ⟨Nat.le_of_ble_eq_true rfl, Nat.le_of_ble_eq_true rfl⟩) rfl (by first | exact Nat.le_of_ble_eq_true rfl | (simp [q_cat, q_catI, q_catJ, q_catR, q_catN]; done)) rfl dJx4a65c_grow_92f84_37 ⟨(by first | omega | (dsimp only; omega)), (by first | omega | (dsimp only; omega))⟩) (fun x4 M5 h => ?_)
  refine q_dup_x1 (pc := 40) C dJx4a65c_grow_92f84_40 (q_cat _) (q_cat _) ?_
  refine q_p (pc := 41) C h (.array (.object "java/lang/Object")) (T := TJx4a65c) tyJx4a65c tyJx4a65c_ok nmJx4a65c rfl (by decide +kernel) (q_nrA _ _) (q_ftA _ _) rfl (by decide) (wk_u rfl wm_Jx4a65c_grow_92f84 uq_Jx4a65c (by decide +kernel)) (by decide +kernel) (fun _ h9 => h9) rfl dJx4a65c_grow_92f84_41 (fun M6 h => ?_)
  exact q_aret (pc := 44) C hr (by first | exact Or.inl ⟨_, rfl⟩ | exact Or.inr ⟨_, rfl⟩) hlocks h dJx4a65c_grow_92f84_44 (by omega) (by omega)
set_option maxRecDepth 100000 in
set_option maxHeartbeats 4000000 in
theorem tJx4a65c_grow_92f84 {p : Program} {l : Launch} {e : Env} {s : State} {m : MethodId} {args : Array Value} {below : List Frame} {meth : Method} {c : Code} {G : mG} {b0 : Nat} (C : m_C p s m args c cJx4a65c_grow_92f84 4 RJx4a65c wsJx4a65c_grow_92f84 G b0) (hr : meth.sig.returnType = (some (.array (.object "java/lang/Object")))) (hlocks : meth.locks = false) {g : Nat → Nat} (hg : G.2.2 = g) {B : Nat} (hB : B ≤ 65536) {κ : Option Nat → mM → Prop} {l0 : Option Nat} {l1 : Int32} {M : mM} (h : wJx4a65c_grow_92f84 g B κ l0 l1 M) : m_W p l e ({ frames := 3, cells := 1, slots := (0 + 1 * B), locals := 84 } : Room) s m args below meth c G b0 (MQ below (va_Qq κ (m_B G b0) (fun q => b0 ≤ q)) args s 1 (0 + 1 * B) (fun q => b0 ≤ q)) 4 M 0 0 0 [(0, va_rf l0), (1, .int l1)] [] := by
  unfold wJx4a65c_grow_92f84 at h
  refine q_aload_n (pc := 0) C 0 0 dJx4a65c_grow_92f84_0 rfl rfl ?_
  refine q_gR (pc := 1) C h (T := TJx4a65c) rfl (by decide) (wk_u rfl wm_Jx4a65c_grow_92f84 uq_Jx4a65c (by decide +kernel)) (by decide +kernel) (fun _ h9 => h9) dJx4a65c_grow_92f84_1 (fun x1 h => ?_)
  refine q_len (pc := 4) C h dJx4a65c_grow_92f84_4 (fun x2 h => ?_)
  refine q_istore_n (pc := 5) C 2 [(2, .int x2), (0, va_rf l0), (1, .int l1)] dJx4a65c_grow_92f84_5 rfl (by decide) (by first | rfl | simp [q_cat, q_catI, q_catJ, q_catR, q_catN]) ?_
  refine q_iload_n (pc := 6) C 2 0 dJx4a65c_grow_92f84_6 rfl rfl ?_
  refine q_if_gt (pc := 7) C 20 dJx4a65c_grow_92f84_7 (by decide) (fun c3 => ?_) (fun c3 => ?_)
  · have h := h.1 c3
    refine q_widen (k2 := 0) (n2 := 0) (by omega) (by omega) ?_
    refine q_lv [1, 2, 0] rfl ?_
    exact tJx4a65c_grow_92f84_20 C hr hlocks hg hB h
  · have h := h.2 c3
    refine q_aload_n (pc := 10) C 0 1 dJx4a65c_grow_92f84_10 rfl rfl ?_
    refine q_gR (pc := 11) C h (T := TJx4a65c) rfl (by decide) (wk_u rfl wm_Jx4a65c_grow_92f84 uq_Jx4a65c (by decide +kernel)) (by decide +kernel) (fun _ h9 => h9) dJx4a65c_grow_92f84_11 (fun x4 h => ?_)
    refine q_gets (pc := 14) C hg (va_rf (some (g 0))) (List.mem_of_getElem? (i := 0) rfl) (by decide +kernel) dJx4a65c_grow_92f84_14 ?_
    refine q_acmp_eq (pc := 17) C 45 dJx4a65c_grow_92f84_17 (by decide) (fun c5 => ?_) (fun c5 => ?_)
    · have h := h.1 c5
      refine q_aload_n (pc := 45) C 0 1 dJx4a65c_grow_92f84_45 rfl rfl ?_
      refine q_bipush (pc := 46) C 10 dJx4a65c_grow_92f84_46 (by decide) ?_
      refine q_iload_n (pc := 48) C 1 2 dJx4a65c_grow_92f84_48 rfl rfl ?_
      refine q_mmax (pc := 49) C (by decide +kernel) (by decide +kernel) (by decide +kernel) (by decide +kernel) (Nat.le_of_ble_eq_true rfl) (by first | exact Nat.le_of_ble_eq_true rfl | (simp [q_cat, q_catI, q_catJ, q_catR, q_catN]; done) | (simp [q_cat, q_catI, q_catJ, q_catR, q_catN]; decide)) (by first | omega | (dsimp only; omega)) (by first | omega | (dsimp only; omega)) dJx4a65c_grow_92f84_49 ?_
      refine m_stk (st2 := .int (m_max 10 l1) :: _) rfl ?_
      refine q_newR (pc := 52) C h (E := "java/lang/Object") (ak := 2) rfl (by decide) hB (by decide +kernel) 695 (by decide +kernel) (by first | omega | (dsimp only; omega)) (by first | omega | (dsimp only; omega)) dJx4a65c_grow_92f84_52 (fun q6 M7 h => ?_)
      refine q_dup_x1 (pc := 55) C dJx4a65c_grow_92f84_55 (q_cat _) (q_cat _) ?_
      refine q_p (pc := 56) C h (.array (.object "java/lang/Object")) (T := TJx4a65c) tyJx4a65c tyJx4a65c_ok nmJx4a65c rfl (by decide +kernel) (q_nrA _ _) (q_ftA _ _) rfl (by decide) (wk_u rfl wm_Jx4a65c_grow_92f84 uq_Jx4a65c (by decide +kernel)) (by decide +kernel) (fun _ h9 => h9) rfl dJx4a65c_grow_92f84_56 (fun M8 h => ?_)
      exact q_aret (pc := 59) C hr (by first | exact Or.inl ⟨_, rfl⟩ | exact Or.inr ⟨_, rfl⟩) hlocks h dJx4a65c_grow_92f84_59 (by omega) (by omega)
    · have h := h.2 c5
      refine q_widen (k2 := 0) (n2 := 0) (by omega) (by omega) ?_
      refine q_lv [1, 2, 0] rfl ?_
      exact tJx4a65c_grow_92f84_20 C hr hlocks hg hB h
set_option maxRecDepth 100000 in
set_option maxHeartbeats 4000000 in
theorem kJx4a65c_grow_92f84 (l : Launch) (G : mG) (b0 : Nat) {g : Nat → Nat} (hg : G.2.2 = g) {B : Nat} (hB : B ≤ 65536) {b : Nat} {l1 : Int32} {M : mM} {κ : Option Nat → mM → Prop} (h : wJx4a65c_grow_92f84 g B κ (some b) l1 M) : Met l yJx4a65c_grow_92f84 wsJx4a65c_grow_92f84 ({ frames := 3, cells := 1, slots := (0 + 1 * B), locals := 84 } : Room) (va_Pc [.ref b, .int l1] (m_Pre G b0 M)) (va_Qq κ (m_B G b0) (fun q => b0 ≤ q)) 1 (0 + 1 * B) (fun q => b0 ≤ q) := by
  refine m_met (cc := cJx4a65c_grow_92f84) (maxL := 4) (ret := (some (.array (.object "java/lang/Object")))) (lv := [(0, va_rf (some b)), (1, .int l1)]) RJx4a65c rfl (by decide +kernel) rfl (by first | exact Nat.le_of_ble_eq_true rfl | simp [lg_sl, q_cat, q_catI, q_catJ, q_catR, q_catN]) (by first | rfl | (simp [lv_args, q_cat, q_catI, q_catJ, q_catR, q_catN]; done) | (simp [lv_args, q_cat, q_catI, q_catJ, q_catR, q_catN]; rfl)) ?_
  intro p e s m args below meth c C hr hlocks hni
  exact tJx4a65c_grow_92f84 C hr hlocks hg hB h
/-! Jx4a65c_grow_d5877 -/
set_option maxRecDepth 100000 in
set_option maxHeartbeats 4000000 in
theorem tJx4a65c_grow_d5877 {p : Program} {l : Launch} {e : Env} {s : State} {m : MethodId} {args : Array Value} {below : List Frame} {meth : Method} {c : Code} {G : mG} {b0 : Nat} (C : m_C p s m args c cJx4a65c_grow_d5877 1 RJx4a65c wsJx4a65c_grow_d5877 G b0) (hr : meth.sig.returnType = (some (.array (.object "java/lang/Object")))) (hlocks : meth.locks = false) {g : Nat → Nat} (hg : G.2.2 = g) {B : Nat} (hB : B ≤ 65536) {κ : Option Nat → mM → Prop} {l0 : Option Nat} {M : mM} (h : wJx4a65c_grow_d5877 g B κ l0 M) : m_W p l e ({ frames := 4, cells := 1, slots := (0 + 1 * B), locals := 107 } : Room) s m args below meth c G b0 (MQ below (va_Qq κ (m_B G b0) (fun q => b0 ≤ q)) args s 1 (0 + 1 * B) (fun q => b0 ≤ q)) 1 M 0 0 0 [(0, va_rf l0)] [] := by
  unfold wJx4a65c_grow_d5877 at h
  refine q_aload_n (pc := 0) C 0 0 dJx4a65c_grow_d5877_0 rfl rfl ?_
  refine q_aload_n (pc := 1) C 0 0 dJx4a65c_grow_d5877_1 rfl rfl ?_
  refine q_gI (pc := 2) C h (T := TJx4a65c) rfl (by decide) (wk_u rfl wm_Jx4a65c_grow_d5877 uq_Jx4a65c (by decide +kernel)) (by decide +kernel) (fun _ h9 => h9) dJx4a65c_grow_d5877_2 (fun x1 h => ?_)
  refine q_iconst (pc := 5) C 1 dJx4a65c_grow_d5877_5 (by decide) ?_
  refine q_iadd (pc := 6) C dJx4a65c_grow_d5877_6 ?_
  obtain ⟨b4, fs9, hb4, hm9, h⟩ := h
  refine q_cq (pc := 7) (q_rV C (st := []) (b := b4) (kJx4a65c_grow_92f84 l G b0 hg hB h) (cwV 1 C.2.2.2.2.1 gJx4a65c_grow_d5877_Jx4a65c_grow_92f84 rfl rfl rfl (by decide +kernel) ⟨Nat.le_of_ble_eq_true rfl, Nat.le_of_ble_eq_true rfl⟩) hm9 rfl rfl rfl (by first | exact Nat.le_of_ble_eq_true rfl | (simp [q_cat, q_catI, q_catJ, q_catR, q_catN]; done)) (by rw [hb4]; first | done | rfl) dJx4a65c_grow_d5877_7 ⟨(by first | omega | (dsimp only; omega)), (by first | omega | (dsimp only; omega))⟩) (fun x2 M3 h => ?_)
  exact q_aret (pc := 10) C hr (by first | exact Or.inl ⟨_, rfl⟩ | exact Or.inr ⟨_, rfl⟩) hlocks h dJx4a65c_grow_d5877_10 (by omega) (by omega)
set_option maxRecDepth 100000 in
set_option maxHeartbeats 4000000 in
theorem kJx4a65c_grow_d5877 (l : Launch) (G : mG) (b0 : Nat) {g : Nat → Nat} (hg : G.2.2 = g) {B : Nat} (hB : B ≤ 65536) {b : Nat} {M : mM} {κ : Option Nat → mM → Prop} (h : wJx4a65c_grow_d5877 g B κ (some b) M) : Met l yJx4a65c_grow_d5877 wsJx4a65c_grow_d5877 ({ frames := 4, cells := 1, slots := (0 + 1 * B), locals := 107 } : Room) (va_Pc [.ref b] (m_Pre G b0 M)) (va_Qq κ (m_B G b0) (fun q => b0 ≤ q)) 1 (0 + 1 * B) (fun q => b0 ≤ q) := by
  refine m_met (cc := cJx4a65c_grow_d5877) (maxL := 1) (ret := (some (.array (.object "java/lang/Object")))) (lv := [(0, va_rf (some b))]) RJx4a65c rfl (by decide +kernel) rfl (by first | exact Nat.le_of_ble_eq_true rfl | simp [lg_sl, q_cat, q_catI, q_catJ, q_catR, q_catN]) (by first | rfl | (simp [lv_args, q_cat, q_catI, q_catJ, q_catR, q_catN]; done) | (simp [lv_args, q_cat, q_catI, q_catJ, q_catR, q_catN]; rfl)) ?_
  intro p e s m args below meth c C hr hlocks hni
  exact tJx4a65c_grow_d5877 C hr hlocks hg hB h
/-! Jx4a65c_add_72be8 -/
set_option maxRecDepth 100000 in
set_option maxHeartbeats 4000000 in
theorem tJx4a65c_add_72be8_11 {p : Program} {l : Launch} {e : Env} {s : State} {m : MethodId} {args : Array Value} {below : List Frame} {meth : Method} {c : Code} {G : mG} {b0 : Nat} (C : m_C p s m args c cJx4a65c_add_72be8 4 RJx4a65c wsJx4a65c_add_72be8 G b0) (hr : meth.sig.returnType = none) (hlocks : meth.locks = false) {g : Nat → Nat} (hg : G.2.2 = g) {B : Nat} (hB : B ≤ 65536) {κ : mM → Prop} {l0 : Option Nat} {l1 : Option Nat} {l2 : Option Nat} {l3 : Int32} {M : mM} (h : wJx4a65c_add_72be8_11 g B κ l0 l1 l2 l3 M) : m_W p l e ({ frames := 5, cells := 1, slots := (0 + 1 * B), locals := 127 } : Room) s m args below meth c G b0 (MQ below (va_Qv κ (m_B G b0) (fun q => b0 ≤ q)) args s 1 (0 + 1 * B) (fun q => b0 ≤ q)) 4 M 1 (0 + 1 * B) 11 [(0, va_rf l0), (1, va_rf l1), (2, va_rf l2), (3, .int l3)] [] := by
  unfold wJx4a65c_add_72be8_11 at h
  refine q_aload_n (pc := 11) C 2 2 dJx4a65c_add_72be8_11 rfl rfl ?_
  refine q_iload_n (pc := 12) C 3 3 dJx4a65c_add_72be8_12 rfl rfl ?_
  refine q_aload_n (pc := 13) C 1 1 dJx4a65c_add_72be8_13 rfl rfl ?_
  refine q_aast (pc := 14) C h (by decide) dJx4a65c_add_72be8_14 (fun M1 h => ?_)
  refine q_aload_n (pc := 15) C 0 0 dJx4a65c_add_72be8_15 rfl rfl ?_
  refine q_iload_n (pc := 16) C 3 3 dJx4a65c_add_72be8_16 rfl rfl ?_
  refine q_iconst (pc := 17) C 1 dJx4a65c_add_72be8_17 (by decide) ?_
  refine q_iadd (pc := 18) C dJx4a65c_add_72be8_18 ?_
  refine q_p (pc := 19) C h .int (T := TJx4a65c) tyJx4a65c tyJx4a65c_ok nmJx4a65c rfl (by decide +kernel) rfl rfl rfl (by decide) (wk_u rfl wm_Jx4a65c_add_72be8 uq_Jx4a65c (by decide +kernel)) (by decide +kernel) (fun _ h9 => h9) rfl dJx4a65c_add_72be8_19 (fun M2 h => ?_)
  exact q_vret (pc := 22) C hr hlocks h dJx4a65c_add_72be8_22 (by omega) (by omega)
set_option maxRecDepth 100000 in
set_option maxHeartbeats 4000000 in
theorem tJx4a65c_add_72be8 {p : Program} {l : Launch} {e : Env} {s : State} {m : MethodId} {args : Array Value} {below : List Frame} {meth : Method} {c : Code} {G : mG} {b0 : Nat} (C : m_C p s m args c cJx4a65c_add_72be8 4 RJx4a65c wsJx4a65c_add_72be8 G b0) (hr : meth.sig.returnType = none) (hlocks : meth.locks = false) {g : Nat → Nat} (hg : G.2.2 = g) {B : Nat} (hB : B ≤ 65536) {κ : mM → Prop} {l0 : Option Nat} {l1 : Option Nat} {l2 : Option Nat} {l3 : Int32} {M : mM} (h : wJx4a65c_add_72be8 g B κ l0 l1 l2 l3 M) : m_W p l e ({ frames := 5, cells := 1, slots := (0 + 1 * B), locals := 127 } : Room) s m args below meth c G b0 (MQ below (va_Qv κ (m_B G b0) (fun q => b0 ≤ q)) args s 1 (0 + 1 * B) (fun q => b0 ≤ q)) 4 M 0 0 0 [(0, va_rf l0), (1, va_rf l1), (2, va_rf l2), (3, .int l3)] [] := by
  unfold wJx4a65c_add_72be8 at h
  refine q_iload_n (pc := 0) C 3 3 dJx4a65c_add_72be8_0 rfl rfl ?_
  refine q_aload_n (pc := 1) C 2 2 dJx4a65c_add_72be8_1 rfl rfl ?_
  refine q_len (pc := 2) C h dJx4a65c_add_72be8_2 (fun x1 h => ?_)
  refine q_icmp_ne (pc := 3) C 11 dJx4a65c_add_72be8_3 (by decide) (fun c2 => ?_) (fun c2 => ?_)
  · have h := h.2 c2
    refine q_widen (k2 := 1) (n2 := (0 + 1 * B)) (by omega) (by omega) ?_
    refine q_lv [0, 1, 2, 3] rfl ?_
    exact tJx4a65c_add_72be8_11 C hr hlocks hg hB h
  · have h := h.1 c2
    refine q_aload_n (pc := 6) C 0 0 dJx4a65c_add_72be8_6 rfl rfl ?_
    obtain ⟨b5, fs9, hb5, hm9, h⟩ := h
    refine q_cq (pc := 7) (q_rV C (st := []) (b := b5) (kJx4a65c_grow_d5877 l G b0 hg hB h) (cwV 0 C.2.2.2.2.1 gJx4a65c_add_72be8_Jx4a65c_grow_d5877 rfl rfl rfl (by decide +kernel) ⟨Nat.le_of_ble_eq_true rfl, Nat.le_of_ble_eq_true rfl⟩) hm9 rfl rfl rfl (by first | exact Nat.le_of_ble_eq_true rfl | (simp [q_cat, q_catI, q_catJ, q_catR, q_catN]; done)) (by rw [hb5]; first | done | rfl) dJx4a65c_add_72be8_7 ⟨(by first | omega | (dsimp only; omega)), (by first | omega | (dsimp only; omega))⟩) (fun x3 M4 h => ?_)
    refine q_astore_n (pc := 10) C 2 [(2, va_rf x3), (0, va_rf l0), (1, va_rf l1), (3, .int l3)] dJx4a65c_add_72be8_10 rfl (by decide) (by first | rfl | simp [q_cat, q_catI, q_catJ, q_catR, q_catN]) ?_
    refine q_widen (k2 := 1) (n2 := (0 + 1 * B)) (by omega) (by omega) ?_
    refine q_lv [1, 2, 0, 3] rfl ?_
    exact tJx4a65c_add_72be8_11 C hr hlocks hg hB h
set_option maxRecDepth 100000 in
set_option maxHeartbeats 4000000 in
theorem kJx4a65c_add_72be8 (l : Launch) (G : mG) (b0 : Nat) {g : Nat → Nat} (hg : G.2.2 = g) {B : Nat} (hB : B ≤ 65536) {b : Nat} {l1 : Option Nat} {l2 : Option Nat} {l3 : Int32} {M : mM} {κ : mM → Prop} (h : wJx4a65c_add_72be8 g B κ (some b) l1 l2 l3 M) : Met l yJx4a65c_add_72be8 wsJx4a65c_add_72be8 ({ frames := 5, cells := 1, slots := (0 + 1 * B), locals := 127 } : Room) (va_Pc [.ref b, va_rf l1, va_rf l2, .int l3] (m_Pre G b0 M)) (va_Qv κ (m_B G b0) (fun q => b0 ≤ q)) 1 (0 + 1 * B) (fun q => b0 ≤ q) := by
  refine m_met (cc := cJx4a65c_add_72be8) (maxL := 4) (ret := none) (lv := [(0, va_rf (some b)), (1, va_rf l1), (2, va_rf l2), (3, .int l3)]) RJx4a65c rfl (by decide +kernel) rfl (by first | exact Nat.le_of_ble_eq_true rfl | simp [lg_sl, q_cat, q_catI, q_catJ, q_catR, q_catN]) (by first | rfl | (simp [lv_args, q_cat, q_catI, q_catJ, q_catR, q_catN]; done) | (simp [lv_args, q_cat, q_catI, q_catJ, q_catR, q_catN]; rfl)) ?_
  intro p e s m args below meth c C hr hlocks hni
  exact tJx4a65c_add_72be8 C hr hlocks hg hB h
/-! Jx4a65c_add_9ea2d -/
set_option maxRecDepth 100000 in
set_option maxHeartbeats 4000000 in
theorem tJx4a65c_add_9ea2d {p : Program} {l : Launch} {e : Env} {s : State} {m : MethodId} {args : Array Value} {below : List Frame} {meth : Method} {c : Code} {G : mG} {b0 : Nat} (C : m_C p s m args c cJx4a65c_add_9ea2d 2 RJx4a65c wsJx4a65c_add_9ea2d G b0) (hr : meth.sig.returnType = (some .boolean)) (hlocks : meth.locks = false) {g : Nat → Nat} (hg : G.2.2 = g) {B : Nat} (hB : B ≤ 65536) {κ : Int32 → mM → Prop} {l0 : Option Nat} {l1 : Option Nat} {M : mM} (h : wJx4a65c_add_9ea2d g B κ l0 l1 M) : m_W p l e ({ frames := 6, cells := 1, slots := (0 + 1 * B), locals := 150 } : Room) s m args below meth c G b0 (MQ below (va_Qi κ (m_B G b0) (fun q => b0 ≤ q)) args s 1 (0 + 1 * B) (fun q => b0 ≤ q)) 2 M 0 0 0 [(0, va_rf l0), (1, va_rf l1)] [] := by
  unfold wJx4a65c_add_9ea2d at h
  refine q_aload_n (pc := 0) C 0 0 dJx4a65c_add_9ea2d_0 rfl rfl ?_
  refine q_dup (pc := 1) C dJx4a65c_add_9ea2d_1 (q_cat _) ?_
  refine q_gI (pc := 2) C h (T := TJx4a65c) rfl (by decide) (by decide +kernel) (by decide +kernel) (fun x9 h9 => u_same (C.2.2.2.2.1 (.sameField "java/util/ArrayList" "java/util/AbstractList" "modCount" "I") (by decide +kernel)) x9 h9) dJx4a65c_add_9ea2d_2 (fun x1 h => ?_)
  refine q_iconst (pc := 5) C 1 dJx4a65c_add_9ea2d_5 (by decide) ?_
  refine q_iadd (pc := 6) C dJx4a65c_add_9ea2d_6 ?_
  refine q_p (pc := 7) C h .int (T := TJx4a65c) tyJx4a65c tyJx4a65c_ok nmJx4a65c rfl (by decide +kernel) rfl rfl rfl (by decide) (by decide +kernel) (by decide +kernel) (fun x9 h9 => u_same (C.2.2.2.2.1 (.sameField "java/util/ArrayList" "java/util/AbstractList" "modCount" "I") (by decide +kernel)) x9 h9) rfl dJx4a65c_add_9ea2d_7 (fun M2 h => ?_)
  refine q_aload_n (pc := 10) C 0 0 dJx4a65c_add_9ea2d_10 rfl rfl ?_
  refine q_aload_n (pc := 11) C 1 1 dJx4a65c_add_9ea2d_11 rfl rfl ?_
  refine q_aload_n (pc := 12) C 0 0 dJx4a65c_add_9ea2d_12 rfl rfl ?_
  refine q_gR (pc := 13) C h (T := TJx4a65c) rfl (by decide) (wk_u rfl wm_Jx4a65c_add_9ea2d uq_Jx4a65c (by decide +kernel)) (by decide +kernel) (fun _ h9 => h9) dJx4a65c_add_9ea2d_13 (fun x3 h => ?_)
  refine q_aload_n (pc := 16) C 0 0 dJx4a65c_add_9ea2d_16 rfl rfl ?_
  refine q_gI (pc := 17) C h (T := TJx4a65c) rfl (by decide) (wk_u rfl wm_Jx4a65c_add_9ea2d uq_Jx4a65c (by decide +kernel)) (by decide +kernel) (fun _ h9 => h9) dJx4a65c_add_9ea2d_17 (fun x4 h => ?_)
  obtain ⟨b6, fs9, hb6, hm9, h⟩ := h
  refine q_cv (pc := 20) (q_rV C (st := []) (b := b6) (kJx4a65c_add_72be8 l G b0 hg hB h) (cwV 3 C.2.2.2.2.1 gJx4a65c_add_9ea2d_Jx4a65c_add_72be8 rfl rfl rfl (by decide +kernel) ⟨Nat.le_of_ble_eq_true rfl, Nat.le_of_ble_eq_true rfl⟩) hm9 rfl rfl rfl (by first | exact Nat.le_of_ble_eq_true rfl | (simp [q_cat, q_catI, q_catJ, q_catR, q_catN]; done)) (by rw [hb6]; first | done | rfl) dJx4a65c_add_9ea2d_20 ⟨(by first | omega | (dsimp only; omega)), (by first | omega | (dsimp only; omega))⟩) (fun M5 h => ?_)
  refine q_iconst (pc := 23) C 1 dJx4a65c_add_9ea2d_23 (by decide) ?_
  exact q_zret (pc := 24) C hr hlocks ⟨(by decide), h⟩ dJx4a65c_add_9ea2d_24 (by omega) (by omega)
set_option maxRecDepth 100000 in
set_option maxHeartbeats 4000000 in
theorem kJx4a65c_add_9ea2d (l : Launch) (G : mG) (b0 : Nat) {g : Nat → Nat} (hg : G.2.2 = g) {B : Nat} (hB : B ≤ 65536) {b : Nat} {l1 : Option Nat} {M : mM} {κ : Int32 → mM → Prop} (h : wJx4a65c_add_9ea2d g B κ (some b) l1 M) : Met l yJx4a65c_add_9ea2d wsJx4a65c_add_9ea2d ({ frames := 6, cells := 1, slots := (0 + 1 * B), locals := 150 } : Room) (va_Pc [.ref b, va_rf l1] (m_Pre G b0 M)) (va_Qi κ (m_B G b0) (fun q => b0 ≤ q)) 1 (0 + 1 * B) (fun q => b0 ≤ q) := by
  refine m_met (cc := cJx4a65c_add_9ea2d) (maxL := 2) (ret := (some .boolean)) (lv := [(0, va_rf (some b)), (1, va_rf l1)]) RJx4a65c rfl (by decide +kernel) rfl (by first | exact Nat.le_of_ble_eq_true rfl | simp [lg_sl, q_cat, q_catI, q_catJ, q_catR, q_catN]) (by first | rfl | (simp [lv_args, q_cat, q_catI, q_catJ, q_catR, q_catN]; done) | (simp [lv_args, q_cat, q_catI, q_catJ, q_catR, q_catN]; rfl)) ?_
  intro p e s m args below meth c C hr hlocks hni
  exact tJx4a65c_add_9ea2d C hr hlocks hg hB h
/-! Jx4a65c_rangeCheckForAdd_d00df -/
set_option maxRecDepth 100000 in
set_option maxHeartbeats 4000000 in
theorem tJx4a65c_rangeCheckForAdd_d00df {p : Program} {l : Launch} {e : Env} {s : State} {m : MethodId} {args : Array Value} {below : List Frame} {meth : Method} {c : Code} {G : mG} {b0 : Nat} (C : m_C p s m args c cJx4a65c_rangeCheckForAdd_d00df 2 RJx4a65c wsJx4a65c_rangeCheckForAdd_d00df G b0) (hr : meth.sig.returnType = none) (hlocks : meth.locks = false) {κ : mM → Prop} {l0 : Option Nat} {l1 : Int32} {M : mM} (h : wJx4a65c_rangeCheckForAdd_d00df κ l0 l1 M) : m_W p l e ({ frames := 0, cells := 0, slots := 0, locals := 0 } : Room) s m args below meth c G b0 (MQ below (va_Qv κ (m_B G b0) (fun q => b0 ≤ q)) args s 0 0 (fun q => b0 ≤ q)) 2 M 0 0 0 [(0, va_rf l0), (1, .int l1)] [] := by
  unfold wJx4a65c_rangeCheckForAdd_d00df at h
  refine q_iload_n (pc := 0) C 1 1 dJx4a65c_rangeCheckForAdd_d00df_0 rfl rfl ?_
  refine q_aload_n (pc := 1) C 0 0 dJx4a65c_rangeCheckForAdd_d00df_1 rfl rfl ?_
  refine q_gI (pc := 2) C h (T := TJx4a65c) rfl (by decide) (wk_u rfl wm_Jx4a65c_rangeCheckForAdd_d00df uq_Jx4a65c (by decide +kernel)) (by decide +kernel) (fun _ h9 => h9) dJx4a65c_rangeCheckForAdd_d00df_2 (fun x1 h => ?_)
  refine q_icmp_gt (pc := 5) C 12 dJx4a65c_rangeCheckForAdd_d00df_5 (by decide) (fun c2 => ?_) (fun c2 => ?_)
  · have h := h.1 c2
    exact h.elim
  · have h := h.2 c2
    refine q_iload_n (pc := 8) C 1 1 dJx4a65c_rangeCheckForAdd_d00df_8 rfl rfl ?_
    refine q_if_ge (pc := 9) C 25 dJx4a65c_rangeCheckForAdd_d00df_9 (by decide) (fun c3 => ?_) (fun c3 => ?_)
    · have h := h.1 c3
      exact q_vret (pc := 25) C hr hlocks h dJx4a65c_rangeCheckForAdd_d00df_25 (by omega) (by omega)
    · have h := h.2 c3
      exact h.elim
set_option maxRecDepth 100000 in
set_option maxHeartbeats 4000000 in
theorem kJx4a65c_rangeCheckForAdd_d00df (l : Launch) (G : mG) (b0 : Nat) {b : Nat} {l1 : Int32} {M : mM} {κ : mM → Prop} (h : wJx4a65c_rangeCheckForAdd_d00df κ (some b) l1 M) : Met l yJx4a65c_rangeCheckForAdd_d00df wsJx4a65c_rangeCheckForAdd_d00df ({ frames := 0, cells := 0, slots := 0, locals := 0 } : Room) (va_Pc [.ref b, .int l1] (m_Pre G b0 M)) (va_Qv κ (m_B G b0) (fun q => b0 ≤ q)) 0 0 (fun q => b0 ≤ q) := by
  refine m_met (cc := cJx4a65c_rangeCheckForAdd_d00df) (maxL := 2) (ret := none) (lv := [(0, va_rf (some b)), (1, .int l1)]) RJx4a65c rfl (by decide +kernel) rfl (by first | exact Nat.le_of_ble_eq_true rfl | simp [lg_sl, q_cat, q_catI, q_catJ, q_catR, q_catN]) (by first | rfl | (simp [lv_args, q_cat, q_catI, q_catJ, q_catR, q_catN]; done) | (simp [lv_args, q_cat, q_catI, q_catJ, q_catR, q_catN]; rfl)) ?_
  intro p e s m args below meth c C hr hlocks hni
  exact tJx4a65c_rangeCheckForAdd_d00df C hr hlocks h
/-! Jx4a65c_add_7a177 -/
set_option maxRecDepth 100000 in
set_option maxHeartbeats 4000000 in
theorem tJx4a65c_add_7a177_38 {p : Program} {l : Launch} {e : Env} {s : State} {m : MethodId} {args : Array Value} {below : List Frame} {meth : Method} {c : Code} {G : mG} {b0 : Nat} (C : m_C p s m args c cJx4a65c_add_7a177 5 RJx4a65c wsJx4a65c_add_7a177 G b0) (hr : meth.sig.returnType = none) (hlocks : meth.locks = false) {g : Nat → Nat} (hg : G.2.2 = g) {B : Nat} (hB : B ≤ 65536) {κ : mM → Prop} {l0 : Option Nat} {l1 : Int32} {l2 : Option Nat} {l3 : Int32} {l4 : Option Nat} {M : mM} (h : wJx4a65c_add_7a177_38 g B κ l0 l1 l2 l3 l4 M) : m_W p l e ({ frames := 5, cells := 1, slots := (0 + 1 * B), locals := 127 } : Room) s m args below meth c G b0 (MQ below (va_Qv κ (m_B G b0) (fun q => b0 ≤ q)) args s 1 (0 + 1 * B) (fun q => b0 ≤ q)) 5 M 1 (0 + 1 * B) 38 [(0, va_rf l0), (1, .int l1), (2, va_rf l2), (3, .int l3), (4, va_rf l4)] [] := by
  unfold wJx4a65c_add_7a177_38 at h
  refine q_aload (pc := 38) C 4 4 dJx4a65c_add_7a177_38 rfl ?_
  refine q_iload_n (pc := 40) C 1 1 dJx4a65c_add_7a177_40 rfl rfl ?_
  refine q_aload (pc := 41) C 4 4 dJx4a65c_add_7a177_41 rfl ?_
  refine q_iload_n (pc := 43) C 1 1 dJx4a65c_add_7a177_43 rfl rfl ?_
  refine q_iconst (pc := 44) C 1 dJx4a65c_add_7a177_44 (by decide) ?_
  refine q_iadd (pc := 45) C dJx4a65c_add_7a177_45 ?_
  refine q_iload_n (pc := 46) C 3 3 dJx4a65c_add_7a177_46 rfl rfl ?_
  refine q_iload_n (pc := 47) C 1 1 dJx4a65c_add_7a177_47 rfl rfl ?_
  refine q_isub (pc := 48) C dJx4a65c_add_7a177_48 ?_
  refine q_copyR (pc := 49) C h (by decide +kernel) (by decide +kernel) (by decide +kernel) (by decide +kernel) (Nat.le_of_ble_eq_true rfl) (by first | exact Nat.le_of_ble_eq_true rfl | (simp [q_cat, q_catI, q_catJ, q_catR, q_catN]; done) | (simp [q_cat, q_catI, q_catJ, q_catR, q_catN]; decide)) dJx4a65c_add_7a177_49 (fun M1 h => ?_)
  refine q_aload (pc := 52) C 4 4 dJx4a65c_add_7a177_52 rfl ?_
  refine q_iload_n (pc := 54) C 1 1 dJx4a65c_add_7a177_54 rfl rfl ?_
  refine q_aload_n (pc := 55) C 2 2 dJx4a65c_add_7a177_55 rfl rfl ?_
  refine q_aast (pc := 56) C h (by decide) dJx4a65c_add_7a177_56 (fun M2 h => ?_)
  refine q_aload_n (pc := 57) C 0 0 dJx4a65c_add_7a177_57 rfl rfl ?_
  refine q_iload_n (pc := 58) C 3 3 dJx4a65c_add_7a177_58 rfl rfl ?_
  refine q_iconst (pc := 59) C 1 dJx4a65c_add_7a177_59 (by decide) ?_
  refine q_iadd (pc := 60) C dJx4a65c_add_7a177_60 ?_
  refine q_p (pc := 61) C h .int (T := TJx4a65c) tyJx4a65c tyJx4a65c_ok nmJx4a65c rfl (by decide +kernel) rfl rfl rfl (by decide) (wk_u rfl wm_Jx4a65c_add_7a177 uq_Jx4a65c (by decide +kernel)) (by decide +kernel) (fun _ h9 => h9) rfl dJx4a65c_add_7a177_61 (fun M3 h => ?_)
  exact q_vret (pc := 64) C hr hlocks h dJx4a65c_add_7a177_64 (by omega) (by omega)
set_option maxRecDepth 100000 in
set_option maxHeartbeats 4000000 in
theorem tJx4a65c_add_7a177 {p : Program} {l : Launch} {e : Env} {s : State} {m : MethodId} {args : Array Value} {below : List Frame} {meth : Method} {c : Code} {G : mG} {b0 : Nat} (C : m_C p s m args c cJx4a65c_add_7a177 5 RJx4a65c wsJx4a65c_add_7a177 G b0) (hr : meth.sig.returnType = none) (hlocks : meth.locks = false) {g : Nat → Nat} (hg : G.2.2 = g) {B : Nat} (hB : B ≤ 65536) {κ : mM → Prop} {l0 : Option Nat} {l1 : Int32} {l2 : Option Nat} {M : mM} (h : wJx4a65c_add_7a177 g B κ l0 l1 l2 M) : m_W p l e ({ frames := 5, cells := 1, slots := (0 + 1 * B), locals := 127 } : Room) s m args below meth c G b0 (MQ below (va_Qv κ (m_B G b0) (fun q => b0 ≤ q)) args s 1 (0 + 1 * B) (fun q => b0 ≤ q)) 5 M 0 0 0 [(0, va_rf l0), (1, .int l1), (2, va_rf l2)] [] := by
  unfold wJx4a65c_add_7a177 at h
  refine q_aload_n (pc := 0) C 0 0 dJx4a65c_add_7a177_0 rfl rfl ?_
  refine q_iload_n (pc := 1) C 1 1 dJx4a65c_add_7a177_1 rfl rfl ?_
  obtain ⟨b2, fs9, hb2, hm9, h⟩ := h
  refine q_cv (pc := 2) (q_rV C (st := []) (b := b2) (kJx4a65c_rangeCheckForAdd_d00df l G b0 h) (cwV 1 C.2.2.2.2.1 gJx4a65c_add_7a177_Jx4a65c_rangeCheckForAdd_d00df rfl rfl rfl (by decide +kernel) ⟨Nat.le_of_ble_eq_true rfl, Nat.le_of_ble_eq_true rfl⟩) hm9 rfl rfl rfl (by first | exact Nat.le_of_ble_eq_true rfl | (simp [q_cat, q_catI, q_catJ, q_catR, q_catN]; done)) (by rw [hb2]; first | done | rfl) dJx4a65c_add_7a177_2 ⟨(by first | omega | (dsimp only; omega)), (by first | omega | (dsimp only; omega))⟩) (fun M1 h => ?_)
  refine q_aload_n (pc := 5) C 0 0 dJx4a65c_add_7a177_5 rfl rfl ?_
  refine q_dup (pc := 6) C dJx4a65c_add_7a177_6 (q_cat _) ?_
  refine q_gI (pc := 7) C h (T := TJx4a65c) rfl (by decide) (by decide +kernel) (by decide +kernel) (fun x9 h9 => u_same (C.2.2.2.2.1 (.sameField "java/util/ArrayList" "java/util/AbstractList" "modCount" "I") (by decide +kernel)) x9 h9) dJx4a65c_add_7a177_7 (fun x3 h => ?_)
  refine q_iconst (pc := 10) C 1 dJx4a65c_add_7a177_10 (by decide) ?_
  refine q_iadd (pc := 11) C dJx4a65c_add_7a177_11 ?_
  refine q_p (pc := 12) C h .int (T := TJx4a65c) tyJx4a65c tyJx4a65c_ok nmJx4a65c rfl (by decide +kernel) rfl rfl rfl (by decide) (by decide +kernel) (by decide +kernel) (fun x9 h9 => u_same (C.2.2.2.2.1 (.sameField "java/util/ArrayList" "java/util/AbstractList" "modCount" "I") (by decide +kernel)) x9 h9) rfl dJx4a65c_add_7a177_12 (fun M4 h => ?_)
  refine q_aload_n (pc := 15) C 0 0 dJx4a65c_add_7a177_15 rfl rfl ?_
  refine q_gI (pc := 16) C h (T := TJx4a65c) rfl (by decide) (wk_u rfl wm_Jx4a65c_add_7a177 uq_Jx4a65c (by decide +kernel)) (by decide +kernel) (fun _ h9 => h9) dJx4a65c_add_7a177_16 (fun x5 h => ?_)
  refine q_dup (pc := 19) C dJx4a65c_add_7a177_19 rfl ?_
  refine q_istore_n (pc := 20) C 3 [(3, .int x5), (0, va_rf l0), (1, .int l1), (2, va_rf l2)] dJx4a65c_add_7a177_20 rfl (by decide) (by first | rfl | simp [q_cat, q_catI, q_catJ, q_catR, q_catN]) ?_
  refine q_aload_n (pc := 21) C 0 1 dJx4a65c_add_7a177_21 rfl rfl ?_
  refine q_gR (pc := 22) C h (T := TJx4a65c) rfl (by decide) (wk_u rfl wm_Jx4a65c_add_7a177 uq_Jx4a65c (by decide +kernel)) (by decide +kernel) (fun _ h9 => h9) dJx4a65c_add_7a177_22 (fun x6 h => ?_)
  refine q_dup (pc := 25) C dJx4a65c_add_7a177_25 (q_cat _) ?_
  refine q_astore (pc := 26) C 4 [(4, va_rf x6), (3, .int x5), (0, va_rf l0), (1, .int l1), (2, va_rf l2)] dJx4a65c_add_7a177_26 (by decide) (by first | rfl | simp [q_cat, q_catI, q_catJ, q_catR, q_catN]) ?_
  refine q_len (pc := 28) C h dJx4a65c_add_7a177_28 (fun x7 h => ?_)
  refine q_icmp_ne (pc := 29) C 38 dJx4a65c_add_7a177_29 (by decide) (fun c8 => ?_) (fun c8 => ?_)
  · have h := h.2 c8
    refine q_widen (k2 := 1) (n2 := (0 + 1 * B)) (by omega) (by omega) ?_
    refine q_lv [2, 3, 4, 1, 0] rfl ?_
    exact tJx4a65c_add_7a177_38 C hr hlocks hg hB h
  · have h := h.1 c8
    refine q_aload_n (pc := 32) C 0 2 dJx4a65c_add_7a177_32 rfl rfl ?_
    obtain ⟨b11, fs9, hb11, hm9, h⟩ := h
    refine q_cq (pc := 33) (q_rV C (st := []) (b := b11) (kJx4a65c_grow_d5877 l G b0 hg hB h) (cwV 0 C.2.2.2.2.1 gJx4a65c_add_7a177_Jx4a65c_grow_d5877 rfl rfl rfl (by decide +kernel) ⟨Nat.le_of_ble_eq_true rfl, Nat.le_of_ble_eq_true rfl⟩) hm9 rfl rfl rfl (by first | exact Nat.le_of_ble_eq_true rfl | (simp [q_cat, q_catI, q_catJ, q_catR, q_catN]; done)) (by rw [hb11]; first | done | rfl) dJx4a65c_add_7a177_33 ⟨(by first | omega | (dsimp only; omega)), (by first | omega | (dsimp only; omega))⟩) (fun x9 M10 h => ?_)
    refine q_astore (pc := 36) C 4 [(4, va_rf x9), (3, .int x5), (0, va_rf l0), (1, .int l1), (2, va_rf l2)] dJx4a65c_add_7a177_36 (by decide) (by first | rfl | simp [q_cat, q_catI, q_catJ, q_catR, q_catN]) ?_
    refine q_widen (k2 := 1) (n2 := (0 + 1 * B)) (by omega) (by omega) ?_
    refine q_lv [2, 3, 4, 1, 0] rfl ?_
    exact tJx4a65c_add_7a177_38 C hr hlocks hg hB h
set_option maxRecDepth 100000 in
set_option maxHeartbeats 4000000 in
theorem kJx4a65c_add_7a177 (l : Launch) (G : mG) (b0 : Nat) {g : Nat → Nat} (hg : G.2.2 = g) {B : Nat} (hB : B ≤ 65536) {b : Nat} {l1 : Int32} {l2 : Option Nat} {M : mM} {κ : mM → Prop} (h : wJx4a65c_add_7a177 g B κ (some b) l1 l2 M) : Met l yJx4a65c_add_7a177 wsJx4a65c_add_7a177 ({ frames := 5, cells := 1, slots := (0 + 1 * B), locals := 127 } : Room) (va_Pc [.ref b, .int l1, va_rf l2] (m_Pre G b0 M)) (va_Qv κ (m_B G b0) (fun q => b0 ≤ q)) 1 (0 + 1 * B) (fun q => b0 ≤ q) := by
  refine m_met (cc := cJx4a65c_add_7a177) (maxL := 5) (ret := none) (lv := [(0, va_rf (some b)), (1, .int l1), (2, va_rf l2)]) RJx4a65c rfl (by decide +kernel) rfl (by first | exact Nat.le_of_ble_eq_true rfl | simp [lg_sl, q_cat, q_catI, q_catJ, q_catR, q_catN]) (by first | rfl | (simp [lv_args, q_cat, q_catI, q_catJ, q_catR, q_catN]; done) | (simp [lv_args, q_cat, q_catI, q_catJ, q_catR, q_catN]; rfl)) ?_
  intro p e s m args below meth c C hr hlocks hni
  exact tJx4a65c_add_7a177 C hr hlocks hg hB h
/-! Jx4a65c_fastRemove_b59b0 -/
set_option maxRecDepth 100000 in
set_option maxHeartbeats 4000000 in
theorem tJx4a65c_fastRemove_b59b0_34 {p : Program} {l : Launch} {e : Env} {s : State} {m : MethodId} {args : Array Value} {below : List Frame} {meth : Method} {c : Code} {G : mG} {b0 : Nat} (C : m_C p s m args c cJx4a65c_fastRemove_b59b0 4 RJx4a65c wsJx4a65c_fastRemove_b59b0 G b0) (hr : meth.sig.returnType = none) (hlocks : meth.locks = false) {κ : mM → Prop} {l0 : Option Nat} {l1 : Option Nat} {l3 : Int32} {M : mM} (h : wJx4a65c_fastRemove_b59b0_34 κ l0 l1 l3 M) : m_W p l e ({ frames := 1, cells := 0, slots := 0, locals := 40 } : Room) s m args below meth c G b0 (MQ below (va_Qv κ (m_B G b0) (fun q => b0 ≤ q)) args s 0 0 (fun q => b0 ≤ q)) 4 M 0 0 34 [(0, va_rf l0), (1, va_rf l1), (3, .int l3)] [] := by
  unfold wJx4a65c_fastRemove_b59b0_34 at h
  refine q_aload_n (pc := 34) C 1 1 dJx4a65c_fastRemove_b59b0_34 rfl rfl ?_
  refine q_aload_n (pc := 35) C 0 0 dJx4a65c_fastRemove_b59b0_35 rfl rfl ?_
  refine q_iload_n (pc := 36) C 3 2 dJx4a65c_fastRemove_b59b0_36 rfl rfl ?_
  refine q_dup_x1 (pc := 37) C dJx4a65c_fastRemove_b59b0_37 rfl (q_cat _) ?_
  refine q_p (pc := 38) C h .int (T := TJx4a65c) tyJx4a65c tyJx4a65c_ok nmJx4a65c rfl (by decide +kernel) rfl rfl rfl (by decide) (wk_u rfl wm_Jx4a65c_fastRemove_b59b0 uq_Jx4a65c (by decide +kernel)) (by decide +kernel) (fun _ h9 => h9) rfl dJx4a65c_fastRemove_b59b0_38 (fun M1 h => ?_)
  refine q_null (pc := 41) C dJx4a65c_fastRemove_b59b0_41 ?_
  refine q_aast (pc := 42) C h (by decide) dJx4a65c_fastRemove_b59b0_42 (fun M2 h => ?_)
  exact q_vret (pc := 43) C hr hlocks h dJx4a65c_fastRemove_b59b0_43 (by omega) (by omega)
set_option maxRecDepth 100000 in
set_option maxHeartbeats 4000000 in
theorem tJx4a65c_fastRemove_b59b0 {p : Program} {l : Launch} {e : Env} {s : State} {m : MethodId} {args : Array Value} {below : List Frame} {meth : Method} {c : Code} {G : mG} {b0 : Nat} (C : m_C p s m args c cJx4a65c_fastRemove_b59b0 4 RJx4a65c wsJx4a65c_fastRemove_b59b0 G b0) (hr : meth.sig.returnType = none) (hlocks : meth.locks = false) {κ : mM → Prop} {l0 : Option Nat} {l1 : Option Nat} {l2 : Int32} {M : mM} (h : wJx4a65c_fastRemove_b59b0 κ l0 l1 l2 M) : m_W p l e ({ frames := 1, cells := 0, slots := 0, locals := 40 } : Room) s m args below meth c G b0 (MQ below (va_Qv κ (m_B G b0) (fun q => b0 ≤ q)) args s 0 0 (fun q => b0 ≤ q)) 4 M 0 0 0 [(0, va_rf l0), (1, va_rf l1), (2, .int l2)] [] := by
  unfold wJx4a65c_fastRemove_b59b0 at h
  refine q_aload_n (pc := 0) C 0 0 dJx4a65c_fastRemove_b59b0_0 rfl rfl ?_
  refine q_dup (pc := 1) C dJx4a65c_fastRemove_b59b0_1 (q_cat _) ?_
  refine q_gI (pc := 2) C h (T := TJx4a65c) rfl (by decide) (by decide +kernel) (by decide +kernel) (fun x9 h9 => u_same (C.2.2.2.2.1 (.sameField "java/util/ArrayList" "java/util/AbstractList" "modCount" "I") (by decide +kernel)) x9 h9) dJx4a65c_fastRemove_b59b0_2 (fun x1 h => ?_)
  refine q_iconst (pc := 5) C 1 dJx4a65c_fastRemove_b59b0_5 (by decide) ?_
  refine q_iadd (pc := 6) C dJx4a65c_fastRemove_b59b0_6 ?_
  refine q_p (pc := 7) C h .int (T := TJx4a65c) tyJx4a65c tyJx4a65c_ok nmJx4a65c rfl (by decide +kernel) rfl rfl rfl (by decide) (by decide +kernel) (by decide +kernel) (fun x9 h9 => u_same (C.2.2.2.2.1 (.sameField "java/util/ArrayList" "java/util/AbstractList" "modCount" "I") (by decide +kernel)) x9 h9) rfl dJx4a65c_fastRemove_b59b0_7 (fun M2 h => ?_)
  refine q_aload_n (pc := 10) C 0 0 dJx4a65c_fastRemove_b59b0_10 rfl rfl ?_
  refine q_gI (pc := 11) C h (T := TJx4a65c) rfl (by decide) (wk_u rfl wm_Jx4a65c_fastRemove_b59b0 uq_Jx4a65c (by decide +kernel)) (by decide +kernel) (fun _ h9 => h9) dJx4a65c_fastRemove_b59b0_11 (fun x3 h => ?_)
  refine q_iconst (pc := 14) C 1 dJx4a65c_fastRemove_b59b0_14 (by decide) ?_
  refine q_isub (pc := 15) C dJx4a65c_fastRemove_b59b0_15 ?_
  refine q_dup (pc := 16) C dJx4a65c_fastRemove_b59b0_16 rfl ?_
  refine q_istore_n (pc := 17) C 3 [(3, .int (x3 - 1)), (0, va_rf l0), (1, va_rf l1), (2, .int l2)] dJx4a65c_fastRemove_b59b0_17 rfl (by decide) (by first | rfl | simp [q_cat, q_catI, q_catJ, q_catR, q_catN]) ?_
  refine q_iload_n (pc := 18) C 2 3 dJx4a65c_fastRemove_b59b0_18 rfl rfl ?_
  refine q_icmp_le (pc := 19) C 34 dJx4a65c_fastRemove_b59b0_19 (by decide) (fun c4 => ?_) (fun c4 => ?_)
  · have h := h.1 c4
    refine q_widen (k2 := 0) (n2 := 0) (by omega) (by omega) ?_
    refine q_lv [1, 2, 0] rfl ?_
    exact tJx4a65c_fastRemove_b59b0_34 C hr hlocks h
  · have h := h.2 c4
    refine q_aload_n (pc := 22) C 1 2 dJx4a65c_fastRemove_b59b0_22 rfl rfl ?_
    refine q_iload_n (pc := 23) C 2 3 dJx4a65c_fastRemove_b59b0_23 rfl rfl ?_
    refine q_iconst (pc := 24) C 1 dJx4a65c_fastRemove_b59b0_24 (by decide) ?_
    refine q_iadd (pc := 25) C dJx4a65c_fastRemove_b59b0_25 ?_
    refine q_aload_n (pc := 26) C 1 2 dJx4a65c_fastRemove_b59b0_26 rfl rfl ?_
    refine q_iload_n (pc := 27) C 2 3 dJx4a65c_fastRemove_b59b0_27 rfl rfl ?_
    refine q_iload_n (pc := 28) C 3 0 dJx4a65c_fastRemove_b59b0_28 rfl rfl ?_
    refine q_iload_n (pc := 29) C 2 3 dJx4a65c_fastRemove_b59b0_29 rfl rfl ?_
    refine q_isub (pc := 30) C dJx4a65c_fastRemove_b59b0_30 ?_
    refine q_copyR (pc := 31) C h (by decide +kernel) (by decide +kernel) (by decide +kernel) (by decide +kernel) (Nat.le_of_ble_eq_true rfl) (by first | exact Nat.le_of_ble_eq_true rfl | (simp [q_cat, q_catI, q_catJ, q_catR, q_catN]; done) | (simp [q_cat, q_catI, q_catJ, q_catR, q_catN]; decide)) dJx4a65c_fastRemove_b59b0_31 (fun M5 h => ?_)
    refine q_widen (k2 := 0) (n2 := 0) (by omega) (by omega) ?_
    refine q_lv [1, 2, 0] rfl ?_
    exact tJx4a65c_fastRemove_b59b0_34 C hr hlocks h
set_option maxRecDepth 100000 in
set_option maxHeartbeats 4000000 in
theorem kJx4a65c_fastRemove_b59b0 (l : Launch) (G : mG) (b0 : Nat) {b : Nat} {l1 : Option Nat} {l2 : Int32} {M : mM} {κ : mM → Prop} (h : wJx4a65c_fastRemove_b59b0 κ (some b) l1 l2 M) : Met l yJx4a65c_fastRemove_b59b0 wsJx4a65c_fastRemove_b59b0 ({ frames := 1, cells := 0, slots := 0, locals := 40 } : Room) (va_Pc [.ref b, va_rf l1, .int l2] (m_Pre G b0 M)) (va_Qv κ (m_B G b0) (fun q => b0 ≤ q)) 0 0 (fun q => b0 ≤ q) := by
  refine m_met (cc := cJx4a65c_fastRemove_b59b0) (maxL := 4) (ret := none) (lv := [(0, va_rf (some b)), (1, va_rf l1), (2, .int l2)]) RJx4a65c rfl (by decide +kernel) rfl (by first | exact Nat.le_of_ble_eq_true rfl | simp [lg_sl, q_cat, q_catI, q_catJ, q_catR, q_catN]) (by first | rfl | (simp [lv_args, q_cat, q_catI, q_catJ, q_catR, q_catN]; done) | (simp [lv_args, q_cat, q_catI, q_catJ, q_catR, q_catN]; rfl)) ?_
  intro p e s m args below meth c C hr hlocks hni
  exact tJx4a65c_fastRemove_b59b0 C hr hlocks h
/-! Jx4a65c_remove_915e3 -/
set_option maxRecDepth 100000 in
set_option maxHeartbeats 4000000 in
theorem tJx4a65c_remove_915e3 {p : Program} {l : Launch} {e : Env} {s : State} {m : MethodId} {args : Array Value} {below : List Frame} {meth : Method} {c : Code} {G : mG} {b0 : Nat} (C : m_C p s m args c cJx4a65c_remove_915e3 4 RJx4a65c wsJx4a65c_remove_915e3 G b0) (hr : meth.sig.returnType = (some (.object "java/lang/Object"))) (hlocks : meth.locks = false) {κ : Option Nat → mM → Prop} {l0 : Option Nat} {l1 : Int32} {M : mM} (h : wJx4a65c_remove_915e3 κ l0 l1 M) : m_W p l e ({ frames := 2, cells := 0, slots := 0, locals := 63 } : Room) s m args below meth c G b0 (MQ below (va_Qq κ (m_B G b0) (fun q => b0 ≤ q)) args s 0 0 (fun q => b0 ≤ q)) 4 M 0 0 0 [(0, va_rf l0), (1, .int l1)] [] := by
  unfold wJx4a65c_remove_915e3 at h
  refine q_iload_n (pc := 0) C 1 1 dJx4a65c_remove_915e3_0 rfl rfl ?_
  refine q_aload_n (pc := 1) C 0 0 dJx4a65c_remove_915e3_1 rfl rfl ?_
  refine q_gI (pc := 2) C h (T := TJx4a65c) rfl (by decide) (wk_u rfl wm_Jx4a65c_remove_915e3 uq_Jx4a65c (by decide +kernel)) (by decide +kernel) (fun _ h9 => h9) dJx4a65c_remove_915e3_2 (fun x1 h => ?_)
  refine q_ci (pc := 5) (q_rS C (st := []) (kJ15_checkIndex_7cf53 l G b0 h) (va_cwS 2 C.2.2.2.2.1 gJx4a65c_remove_915e3_J15_checkIndex_7cf53 rfl rfl rfl (by decide +kernel) ⟨Nat.le_of_ble_eq_true rfl, Nat.le_of_ble_eq_true rfl⟩) rfl (by first | exact Nat.le_of_ble_eq_true rfl | (simp [q_cat, q_catI, q_catJ, q_catR, q_catN]; done)) rfl dJx4a65c_remove_915e3_5 ⟨(by first | omega | (dsimp only; omega)), (by first | omega | (dsimp only; omega))⟩) (fun x2 M3 h => ?_)
  refine q_pop (pc := 8) C dJx4a65c_remove_915e3_8 rfl ?_
  refine q_aload_n (pc := 9) C 0 0 dJx4a65c_remove_915e3_9 rfl rfl ?_
  refine q_gR (pc := 10) C h (T := TJx4a65c) rfl (by decide) (wk_u rfl wm_Jx4a65c_remove_915e3 uq_Jx4a65c (by decide +kernel)) (by decide +kernel) (fun _ h9 => h9) dJx4a65c_remove_915e3_10 (fun x4 h => ?_)
  refine q_astore_n (pc := 13) C 2 [(2, va_rf x4), (0, va_rf l0), (1, .int l1)] dJx4a65c_remove_915e3_13 rfl (by decide) (by first | rfl | simp [q_cat, q_catI, q_catJ, q_catR, q_catN]) ?_
  refine q_aload_n (pc := 14) C 2 0 dJx4a65c_remove_915e3_14 rfl rfl ?_
  refine q_iload_n (pc := 15) C 1 2 dJx4a65c_remove_915e3_15 rfl rfl ?_
  refine q_aald (pc := 16) C h rfl dJx4a65c_remove_915e3_16 (fun x5 h => ?_)
  refine q_astore_n (pc := 17) C 3 [(3, va_rf x5), (2, va_rf x4), (0, va_rf l0), (1, .int l1)] dJx4a65c_remove_915e3_17 rfl (by decide) (by first | rfl | simp [q_cat, q_catI, q_catJ, q_catR, q_catN]) ?_
  refine q_aload_n (pc := 18) C 0 2 dJx4a65c_remove_915e3_18 rfl rfl ?_
  refine q_aload_n (pc := 19) C 2 1 dJx4a65c_remove_915e3_19 rfl rfl ?_
  refine q_iload_n (pc := 20) C 1 3 dJx4a65c_remove_915e3_20 rfl rfl ?_
  obtain ⟨b7, fs9, hb7, hm9, h⟩ := h
  refine q_cv (pc := 21) (q_rV C (st := []) (b := b7) (kJx4a65c_fastRemove_b59b0 l G b0 h) (cwV 2 C.2.2.2.2.1 gJx4a65c_remove_915e3_Jx4a65c_fastRemove_b59b0 rfl rfl rfl (by decide +kernel) ⟨Nat.le_of_ble_eq_true rfl, Nat.le_of_ble_eq_true rfl⟩) hm9 rfl rfl rfl (by first | exact Nat.le_of_ble_eq_true rfl | (simp [q_cat, q_catI, q_catJ, q_catR, q_catN]; done)) (by rw [hb7]; first | done | rfl) dJx4a65c_remove_915e3_21 ⟨(by first | omega | (dsimp only; omega)), (by first | omega | (dsimp only; omega))⟩) (fun M6 h => ?_)
  refine q_aload_n (pc := 24) C 3 0 dJx4a65c_remove_915e3_24 rfl rfl ?_
  exact q_aret (pc := 25) C hr (by first | exact Or.inl ⟨_, rfl⟩ | exact Or.inr ⟨_, rfl⟩) hlocks h dJx4a65c_remove_915e3_25 (by omega) (by omega)
set_option maxRecDepth 100000 in
set_option maxHeartbeats 4000000 in
theorem kJx4a65c_remove_915e3 (l : Launch) (G : mG) (b0 : Nat) {b : Nat} {l1 : Int32} {M : mM} {κ : Option Nat → mM → Prop} (h : wJx4a65c_remove_915e3 κ (some b) l1 M) : Met l yJx4a65c_remove_915e3 wsJx4a65c_remove_915e3 ({ frames := 2, cells := 0, slots := 0, locals := 63 } : Room) (va_Pc [.ref b, .int l1] (m_Pre G b0 M)) (va_Qq κ (m_B G b0) (fun q => b0 ≤ q)) 0 0 (fun q => b0 ≤ q) := by
  refine m_met (cc := cJx4a65c_remove_915e3) (maxL := 4) (ret := (some (.object "java/lang/Object"))) (lv := [(0, va_rf (some b)), (1, .int l1)]) RJx4a65c rfl (by decide +kernel) rfl (by first | exact Nat.le_of_ble_eq_true rfl | simp [lg_sl, q_cat, q_catI, q_catJ, q_catR, q_catN]) (by first | rfl | (simp [lv_args, q_cat, q_catI, q_catJ, q_catR, q_catN]; done) | (simp [lv_args, q_cat, q_catI, q_catJ, q_catR, q_catN]; rfl)) ?_
  intro p e s m args below meth c C hr hlocks hni
  exact tJx4a65c_remove_915e3 C hr hlocks h
/-! Jxa1e45_init_da8c8 -/
set_option maxRecDepth 100000 in
set_option maxHeartbeats 4000000 in
theorem tJxa1e45_init_da8c8 {p : Program} {l : Launch} {e : Env} {s : State} {m : MethodId} {args : Array Value} {below : List Frame} {meth : Method} {c : Code} {G : mG} {b0 : Nat} (C : m_C p s m args c cJxa1e45_init_da8c8 1 RJxa1e45 wsJxa1e45_init_da8c8 G b0) (hr : meth.sig.returnType = none) (hlocks : meth.locks = false) (hni : meth.name = "<init>") {κ : mM → Prop} {l0 : Option Nat} {M : mM} (h : wJxa1e45_init_da8c8 κ l0 M) : m_W p l e ({ frames := 1, cells := 0, slots := 0, locals := 20 } : Room) s m args below meth c G b0 (MQ below (va_Qv κ (m_B G b0) (fun q => b0 ≤ q)) args s 0 0 (fun q => b0 ≤ q)) 1 M 0 0 0 [(0, va_rf l0)] [] := by
  unfold wJxa1e45_init_da8c8 at h
  refine q_aload_n (pc := 0) C 0 0 dJxa1e45_init_da8c8_0 rfl rfl ?_
  obtain ⟨b9, hb9, h⟩ := h
  refine q_objInit (pc := 1) C hb9 (by decide +kernel) (by decide +kernel) (by decide +kernel) dJxa1e45_init_da8c8_1 (Nat.le_of_ble_eq_true rfl) (by first | exact Nat.le_of_ble_eq_true rfl | (simp [q_cat, q_catI, q_catJ, q_catR, q_catN]; done) | (simp [q_cat, q_catI, q_catJ, q_catR, q_catN]; decide)) ?_
  exact q_vret (pc := 4) C hr hlocks h dJxa1e45_init_da8c8_4 (by omega) (by omega)
set_option maxRecDepth 100000 in
set_option maxHeartbeats 4000000 in
theorem kJxa1e45_init_da8c8 (l : Launch) (G : mG) (b0 : Nat) {b : Nat} {M : mM} {κ : mM → Prop} (h : wJxa1e45_init_da8c8 κ (some b) M) : Met l yJxa1e45_init_da8c8 wsJxa1e45_init_da8c8 ({ frames := 1, cells := 0, slots := 0, locals := 20 } : Room) (va_Pc [.ref b] (m_Pre G b0 M)) (va_Qv κ (m_B G b0) (fun q => b0 ≤ q)) 0 0 (fun q => b0 ≤ q) := by
  refine m_met (cc := cJxa1e45_init_da8c8) (maxL := 1) (ret := none) (lv := [(0, va_rf (some b))]) RJxa1e45 rfl (by decide +kernel) rfl (by first | exact Nat.le_of_ble_eq_true rfl | simp [lg_sl, q_cat, q_catI, q_catJ, q_catR, q_catN]) (by first | rfl | (simp [lv_args, q_cat, q_catI, q_catJ, q_catR, q_catN]; done) | (simp [lv_args, q_cat, q_catI, q_catJ, q_catR, q_catN]; rfl)) ?_
  intro p e s m args below meth c C hr hlocks hni
  exact tJxa1e45_init_da8c8 C hr hlocks hni h
/-! Jxc12de_init_da8c8 -/
def wsJxc12de_init_da8c8A : List Cond := wsJxc12de_init_da8c8 ++ wsJx4a65c0
set_option maxRecDepth 100000 in
set_option maxHeartbeats 4000000 in
theorem tJxc12de_init_da8c8 {p : Program} {l : Launch} {e : Env} {s : State} {m : MethodId} {args : Array Value} {below : List Frame} {meth : Method} {c : Code} {G : mG} {b0 : Nat} (C : m_C p s m args c cJxc12de_init_da8c8 1 RJxc12de wsJxc12de_init_da8c8A G b0) (hr : meth.sig.returnType = none) (hlocks : meth.locks = false) (hni : meth.name = "<init>") {κ : mM → Prop} {l0 : Option Nat} {M : mM} (h : wJxc12de_init_da8c8 κ l0 M) : m_W p l e ({ frames := 2, cells := 0, slots := 0, locals := 40 } : Room) s m args below meth c G b0 (MQ below (va_Qv κ (m_B G b0) (fun q => b0 ≤ q)) args s 0 0 (fun q => b0 ≤ q)) 1 M 0 0 0 [(0, va_rf l0)] [] := by
  unfold wJxc12de_init_da8c8 at h
  refine q_aload_n (pc := 0) C 0 0 dJxc12de_init_da8c8_0 rfl rfl ?_
  obtain ⟨b2, fs9, hb2, hm9, h⟩ := h
  refine q_cv (pc := 1) (q_rI C (st := []) (b := b2) (kJxa1e45_init_da8c8 l G b0 h) (cwI 0 C.2.2.2.2.1 (goodIn_sub (by decide +kernel) (by decide +kernel) : GoodIn wsJxc12de_init_da8c8A wsJxa1e45_init_da8c8) rfl rfl rfl (C.2.2.2.2.1 (.initialized RJxa1e45) (by decide +kernel)) (C.2.2.2.2.1 (.methodLink RJxc12de 1 yJxa1e45_init_da8c8) (by decide +kernel)) (C.2.2.2.2.1 (.instanceMethod yJxa1e45_init_da8c8) (by decide +kernel)) rfl (by decide +kernel) ⟨Nat.le_of_ble_eq_true rfl, Nat.le_of_ble_eq_true rfl⟩) rfl (by first | exact Nat.le_of_ble_eq_true rfl | (simp [q_cat, q_catI, q_catJ, q_catR, q_catN]; done)) (by rw [hb2]; first | done | rfl) dJxc12de_init_da8c8_1 ⟨(by first | omega | (dsimp only; omega)), (by first | omega | (dsimp only; omega))⟩) (fun M1 h => ?_)
  refine q_aload_n (pc := 4) C 0 0 dJxc12de_init_da8c8_4 rfl rfl ?_
  refine q_iconst (pc := 5) C 0 dJxc12de_init_da8c8_5 (by decide) ?_
  refine q_p (pc := 6) C h .int (T := TJx4a65c) tyJx4a65c tyJx4a65c_ok nmJx4a65c rfl (by decide +kernel) rfl rfl rfl (by decide) (by decide +kernel) (by decide +kernel) (fun _ h9 => h9) rfl dJxc12de_init_da8c8_6 (fun M3 h => ?_)
  exact q_vret (pc := 9) C hr hlocks h dJxc12de_init_da8c8_9 (by omega) (by omega)
set_option maxRecDepth 100000 in
set_option maxHeartbeats 4000000 in
theorem kJxc12de_init_da8c8 (l : Launch) (G : mG) (b0 : Nat) {b : Nat} {M : mM} {κ : mM → Prop} (h : wJxc12de_init_da8c8 κ (some b) M) : Met l yJxc12de_init_da8c8 wsJxc12de_init_da8c8A ({ frames := 2, cells := 0, slots := 0, locals := 40 } : Room) (va_Pc [.ref b] (m_Pre G b0 M)) (va_Qv κ (m_B G b0) (fun q => b0 ≤ q)) 0 0 (fun q => b0 ≤ q) := by
  refine m_met (cc := cJxc12de_init_da8c8) (maxL := 1) (ret := none) (lv := [(0, va_rf (some b))]) RJxc12de rfl (by decide +kernel) rfl (by first | exact Nat.le_of_ble_eq_true rfl | simp [lg_sl, q_cat, q_catI, q_catJ, q_catR, q_catN]) (by first | rfl | (simp [lv_args, q_cat, q_catI, q_catJ, q_catR, q_catN]; done) | (simp [lv_args, q_cat, q_catI, q_catJ, q_catR, q_catN]; rfl)) ?_
  intro p e s m args below meth c C hr hlocks hni
  exact tJxc12de_init_da8c8 C hr hlocks hni h
/-! Jx4a65c_init_da8c8 -/
set_option maxRecDepth 100000 in
set_option maxHeartbeats 4000000 in
theorem tJx4a65c_init_da8c8 {p : Program} {l : Launch} {e : Env} {s : State} {m : MethodId} {args : Array Value} {below : List Frame} {meth : Method} {c : Code} {G : mG} {b0 : Nat} (C : m_C p s m args c cJx4a65c_init_da8c8 1 RJx4a65c wsJx4a65c_init_da8c8 G b0) (hr : meth.sig.returnType = none) (hlocks : meth.locks = false) {g : Nat → Nat} (hg : G.2.2 = g) (hni : meth.name = "<init>") {κ : mM → Prop} {l0 : Option Nat} {M : mM} (h : wJx4a65c_init_da8c8 g κ l0 M) : m_W p l e ({ frames := 3, cells := 0, slots := 0, locals := 60 } : Room) s m args below meth c G b0 (MQ below (va_Qv κ (m_B G b0) (fun q => b0 ≤ q)) args s 0 0 (fun q => b0 ≤ q)) 1 M 0 0 0 [(0, va_rf l0)] [] := by
  unfold wJx4a65c_init_da8c8 at h
  refine q_aload_n (pc := 0) C 0 0 dJx4a65c_init_da8c8_0 rfl rfl ?_
  obtain ⟨b2, fs9, hb2, hm9, h⟩ := h
  refine q_cv (pc := 1) (q_rI C (st := []) (b := b2) (kJxc12de_init_da8c8 l G b0 h) (cwI 0 C.2.2.2.2.1 (goodIn_sub (by decide +kernel) (by decide +kernel) : GoodIn wsJx4a65c_init_da8c8 wsJxc12de_init_da8c8A) rfl rfl rfl (C.2.2.2.2.1 (.initialized RJxc12de) (by decide +kernel)) (C.2.2.2.2.1 (.methodLink RJx4a65c 1 yJxc12de_init_da8c8) (by decide +kernel)) (C.2.2.2.2.1 (.instanceMethod yJxc12de_init_da8c8) (by decide +kernel)) rfl (by decide +kernel) ⟨Nat.le_of_ble_eq_true rfl, Nat.le_of_ble_eq_true rfl⟩) rfl (by first | exact Nat.le_of_ble_eq_true rfl | (simp [q_cat, q_catI, q_catJ, q_catR, q_catN]; done)) (by rw [hb2]; first | done | rfl) dJx4a65c_init_da8c8_1 ⟨(by first | omega | (dsimp only; omega)), (by first | omega | (dsimp only; omega))⟩) (fun M1 h => ?_)
  refine q_aload_n (pc := 4) C 0 0 dJx4a65c_init_da8c8_4 rfl rfl ?_
  refine q_gets (pc := 5) C hg (va_rf (some (g 0))) (List.mem_of_getElem? (i := 0) rfl) (by decide +kernel) dJx4a65c_init_da8c8_5 ?_
  refine q_p (pc := 8) C h (.array (.object "java/lang/Object")) (T := TJx4a65c) tyJx4a65c tyJx4a65c_ok nmJx4a65c rfl (by decide +kernel) (q_nrA _ _) (q_ftA _ _) rfl (by decide) (wk_u rfl wm_Jx4a65c_init_da8c8 uq_Jx4a65c (by decide +kernel)) (by decide +kernel) (fun _ h9 => h9) rfl dJx4a65c_init_da8c8_8 (fun M3 h => ?_)
  exact q_vret (pc := 11) C hr hlocks h dJx4a65c_init_da8c8_11 (by omega) (by omega)
set_option maxRecDepth 100000 in
set_option maxHeartbeats 4000000 in
theorem kJx4a65c_init_da8c8 (l : Launch) (G : mG) (b0 : Nat) {g : Nat → Nat} (hg : G.2.2 = g) {b : Nat} {M : mM} {κ : mM → Prop} (h : wJx4a65c_init_da8c8 g κ (some b) M) : Met l yJx4a65c_init_da8c8 wsJx4a65c_init_da8c8 ({ frames := 3, cells := 0, slots := 0, locals := 60 } : Room) (va_Pc [.ref b] (m_Pre G b0 M)) (va_Qv κ (m_B G b0) (fun q => b0 ≤ q)) 0 0 (fun q => b0 ≤ q) := by
  refine m_met (cc := cJx4a65c_init_da8c8) (maxL := 1) (ret := none) (lv := [(0, va_rf (some b))]) RJx4a65c rfl (by decide +kernel) rfl (by first | exact Nat.le_of_ble_eq_true rfl | simp [lg_sl, q_cat, q_catI, q_catJ, q_catR, q_catN]) (by first | rfl | (simp [lv_args, q_cat, q_catI, q_catJ, q_catR, q_catN]; done) | (simp [lv_args, q_cat, q_catI, q_catJ, q_catR, q_catN]; rfl)) ?_
  intro p e s m args below meth c C hr hlocks hni
  exact tJx4a65c_init_da8c8 C hr hlocks hg hni h
/-! J6_valueOf_2dffe -/
set_option maxRecDepth 100000 in
set_option maxHeartbeats 4000000 in
theorem tJ6_valueOf_2dffe_23 {p : Program} {l : Launch} {e : Env} {s : State} {m : MethodId} {args : Array Value} {below : List Frame} {meth : Method} {c : Code} {G : mG} {b0 : Nat} (C : m_C p s m args c cJ6_valueOf_2dffe 1 RJ6 wsJ6_valueOf_2dffe G b0) (hr : meth.sig.returnType = (some (.object "java/lang/Integer"))) (hlocks : meth.locks = false) {g : Nat → Nat} (hg : G.2.2 = g) {κ : Option Nat → mM → Prop} {l0 : Int32} {M : mM} (h : wJ6_valueOf_2dffe_23 g κ l0 M) : m_W p l e ({ frames := 0, cells := 0, slots := 0, locals := 0 } : Room) s m args below meth c G b0 (MQ below (va_Qq κ (m_B G b0) (fun q => b0 ≤ q)) args s 0 0 (fun q => b0 ≤ q)) 1 M 0 0 23 [(0, .int l0)] [] := by
  unfold wJ6_valueOf_2dffe_23 at h
  exact h.elim
set_option maxRecDepth 100000 in
set_option maxHeartbeats 4000000 in
theorem tJ6_valueOf_2dffe {p : Program} {l : Launch} {e : Env} {s : State} {m : MethodId} {args : Array Value} {below : List Frame} {meth : Method} {c : Code} {G : mG} {b0 : Nat} (C : m_C p s m args c cJ6_valueOf_2dffe 1 RJ6 wsJ6_valueOf_2dffe G b0) (hr : meth.sig.returnType = (some (.object "java/lang/Integer"))) (hlocks : meth.locks = false) {g : Nat → Nat} (hg : G.2.2 = g) {κ : Option Nat → mM → Prop} {l0 : Int32} {M : mM} (h : wJ6_valueOf_2dffe g κ l0 M) : m_W p l e ({ frames := 0, cells := 0, slots := 0, locals := 0 } : Room) s m args below meth c G b0 (MQ below (va_Qq κ (m_B G b0) (fun q => b0 ≤ q)) args s 0 0 (fun q => b0 ≤ q)) 1 M 0 0 0 [(0, .int l0)] [] := by
  unfold wJ6_valueOf_2dffe at h
  refine q_iload_n (pc := 0) C 0 0 dJ6_valueOf_2dffe_0 rfl rfl ?_
  refine q_bipush (pc := 1) C (-128) dJ6_valueOf_2dffe_1 (by decide) ?_
  refine q_icmp_lt (pc := 3) C 23 dJ6_valueOf_2dffe_3 (by decide) (fun c1 => ?_) (fun c1 => ?_)
  · have h := h.1 c1
    refine q_widen (k2 := 0) (n2 := 0) (by omega) (by omega) ?_
    refine q_lv [0] rfl ?_
    exact tJ6_valueOf_2dffe_23 C hr hlocks hg h
  · have h := h.2 c1
    refine q_iload_n (pc := 6) C 0 0 dJ6_valueOf_2dffe_6 rfl rfl ?_
    refine q_gets (pc := 7) C hg (.int 127) (List.mem_of_getElem? (i := 2) rfl) (by decide +kernel) dJ6_valueOf_2dffe_7 ?_
    refine q_icmp_gt (pc := 10) C 23 dJ6_valueOf_2dffe_10 (by decide) (fun c2 => ?_) (fun c2 => ?_)
    · have h := h.1 c2
      refine q_widen (k2 := 0) (n2 := 0) (by omega) (by omega) ?_
      refine q_lv [0] rfl ?_
      exact tJ6_valueOf_2dffe_23 C hr hlocks hg h
    · have h := h.2 c2
      refine q_gets (pc := 13) C hg (va_rf (some (g 1))) (List.mem_of_getElem? (i := 1) rfl) (by decide +kernel) dJ6_valueOf_2dffe_13 ?_
      refine q_iload_n (pc := 16) C 0 0 dJ6_valueOf_2dffe_16 rfl rfl ?_
      refine q_sipush (pc := 17) C 128 dJ6_valueOf_2dffe_17 (by decide) ?_
      refine q_iadd (pc := 20) C dJ6_valueOf_2dffe_20 ?_
      refine q_aald (pc := 21) C h rfl dJ6_valueOf_2dffe_21 (fun x3 h => ?_)
      exact q_aret (pc := 22) C hr (by first | exact Or.inl ⟨_, rfl⟩ | exact Or.inr ⟨_, rfl⟩) hlocks h dJ6_valueOf_2dffe_22 (by omega) (by omega)
set_option maxRecDepth 100000 in
set_option maxHeartbeats 4000000 in
theorem kJ6_valueOf_2dffe (l : Launch) (G : mG) (b0 : Nat) {g : Nat → Nat} (hg : G.2.2 = g) {l0 : Int32} {M : mM} {κ : Option Nat → mM → Prop} (h : wJ6_valueOf_2dffe g κ l0 M) : Met l yJ6_valueOf_2dffe wsJ6_valueOf_2dffe ({ frames := 0, cells := 0, slots := 0, locals := 0 } : Room) (va_Pc [.int l0] (m_Pre G b0 M)) (va_Qq κ (m_B G b0) (fun q => b0 ≤ q)) 0 0 (fun q => b0 ≤ q) := by
  refine m_met (cc := cJ6_valueOf_2dffe) (maxL := 1) (ret := (some (.object "java/lang/Integer"))) (lv := [(0, .int l0)]) RJ6 rfl (by decide +kernel) rfl (by first | exact Nat.le_of_ble_eq_true rfl | simp [lg_sl, q_cat, q_catI, q_catJ, q_catR, q_catN]) (by first | rfl | (simp [lv_args, q_cat, q_catI, q_catJ, q_catR, q_catN]; done) | (simp [lv_args, q_cat, q_catI, q_catJ, q_catR, q_catN]; rfl)) ?_
  intro p e s m args below meth c C hr hlocks hni
  exact tJ6_valueOf_2dffe C hr hlocks hg h
/-! J6_intValue_8abf5 -/
set_option maxRecDepth 100000 in
set_option maxHeartbeats 4000000 in
theorem tJ6_intValue_8abf5 {p : Program} {l : Launch} {e : Env} {s : State} {m : MethodId} {args : Array Value} {below : List Frame} {meth : Method} {c : Code} {G : mG} {b0 : Nat} (C : m_C p s m args c cJ6_intValue_8abf5 1 RJ6 wsJ6_intValue_8abf5 G b0) (hr : meth.sig.returnType = (some .int)) (hlocks : meth.locks = false) {κ : Int32 → mM → Prop} {l0 : Option Nat} {M : mM} (h : wJ6_intValue_8abf5 κ l0 M) : m_W p l e ({ frames := 0, cells := 0, slots := 0, locals := 0 } : Room) s m args below meth c G b0 (MQ below (va_Qi κ (m_B G b0) (fun q => b0 ≤ q)) args s 0 0 (fun q => b0 ≤ q)) 1 M 0 0 0 [(0, va_rf l0)] [] := by
  unfold wJ6_intValue_8abf5 at h
  refine q_aload_n (pc := 0) C 0 0 dJ6_intValue_8abf5_0 rfl rfl ?_
  refine q_gI (pc := 1) C h (T := TJ6) rfl (by decide) (wk_u rfl wm_J6_intValue_8abf5 uq_J6 (by decide +kernel)) (by decide +kernel) (fun _ h9 => h9) dJ6_intValue_8abf5_1 (fun x1 h => ?_)
  exact q_iret (pc := 4) C hr hlocks h dJ6_intValue_8abf5_4 (by omega) (by omega)
set_option maxRecDepth 100000 in
set_option maxHeartbeats 4000000 in
theorem kJ6_intValue_8abf5 (l : Launch) (G : mG) (b0 : Nat) {b : Nat} {M : mM} {κ : Int32 → mM → Prop} (h : wJ6_intValue_8abf5 κ (some b) M) : Met l yJ6_intValue_8abf5 wsJ6_intValue_8abf5 ({ frames := 0, cells := 0, slots := 0, locals := 0 } : Room) (va_Pc [.ref b] (m_Pre G b0 M)) (va_Qi κ (m_B G b0) (fun q => b0 ≤ q)) 0 0 (fun q => b0 ≤ q) := by
  refine m_met (cc := cJ6_intValue_8abf5) (maxL := 1) (ret := (some .int)) (lv := [(0, va_rf (some b))]) RJ6 rfl (by decide +kernel) rfl (by first | exact Nat.le_of_ble_eq_true rfl | simp [lg_sl, q_cat, q_catI, q_catJ, q_catR, q_catN]) (by first | rfl | (simp [lv_args, q_cat, q_catI, q_catJ, q_catR, q_catN]; done) | (simp [lv_args, q_cat, q_catI, q_catJ, q_catR, q_catN]; rfl)) ?_
  intro p e s m args below meth c C hr hlocks hni
  exact tJ6_intValue_8abf5 C hr hlocks h
/-! J13_bitCount_95d88 -/
set_option maxRecDepth 100000 in
set_option maxHeartbeats 4000000 in
theorem tJ13_bitCount_95d88 {p : Program} {l : Launch} {e : Env} {s : State} {m : MethodId} {args : Array Value} {below : List Frame} {meth : Method} {c : Code} {G : mG} {b0 : Nat} (C : m_C p s m args c cJ13_bitCount_95d88 2 RJ13 wsJ13_bitCount_95d88 G b0) (hr : meth.sig.returnType = (some .int)) (hlocks : meth.locks = false) {κ : Int32 → mM → Prop} {l0 : Int64} {M : mM} (h : wJ13_bitCount_95d88 κ l0 M) : m_W p l e ({ frames := 0, cells := 0, slots := 0, locals := 0 } : Room) s m args below meth c G b0 (MQ below (va_Qi κ (m_B G b0) (fun q => b0 ≤ q)) args s 0 0 (fun q => b0 ≤ q)) 2 M 0 0 0 [(0, .long l0)] [] := by
  unfold wJ13_bitCount_95d88 at h
  refine q_lload_n (pc := 0) C 0 0 dJ13_bitCount_95d88_0 rfl rfl ?_
  refine q_lload_n (pc := 1) C 0 0 dJ13_bitCount_95d88_1 rfl rfl ?_
  refine q_iconst (pc := 2) C 1 dJ13_bitCount_95d88_2 (by decide) ?_
  refine q_lushr (pc := 3) C dJ13_bitCount_95d88_3 ?_
  refine m_stk (st2 := .long (m_lushr l0 1) :: _) rfl ?_
  refine q_ldc2 (pc := 4) C 6148914691236517205 (by decide +kernel) dJ13_bitCount_95d88_4 ?_
  refine q_land (pc := 7) C dJ13_bitCount_95d88_7 ?_
  refine q_lsub (pc := 8) C dJ13_bitCount_95d88_8 ?_
  refine q_lstore_n (pc := 9) C 0 [(0, .long (l0 - ((m_lushr l0 1) &&& 6148914691236517205)))] dJ13_bitCount_95d88_9 rfl (by decide) (by first | rfl | simp [q_cat, q_catI, q_catJ, q_catR, q_catN]) ?_
  refine q_lload_n (pc := 10) C 0 0 dJ13_bitCount_95d88_10 rfl rfl ?_
  refine q_ldc2 (pc := 11) C 3689348814741910323 (by decide +kernel) dJ13_bitCount_95d88_11 ?_
  refine q_land (pc := 14) C dJ13_bitCount_95d88_14 ?_
  refine q_lload_n (pc := 15) C 0 0 dJ13_bitCount_95d88_15 rfl rfl ?_
  refine q_iconst (pc := 16) C 2 dJ13_bitCount_95d88_16 (by decide) ?_
  refine q_lushr (pc := 17) C dJ13_bitCount_95d88_17 ?_
  refine m_stk (st2 := .long (m_lushr (l0 - ((m_lushr l0 1) &&& 6148914691236517205)) 2) :: _) rfl ?_
  refine q_ldc2 (pc := 18) C 3689348814741910323 (by decide +kernel) dJ13_bitCount_95d88_18 ?_
  refine q_land (pc := 21) C dJ13_bitCount_95d88_21 ?_
  refine q_ladd (pc := 22) C dJ13_bitCount_95d88_22 ?_
  refine q_lstore_n (pc := 23) C 0 [(0, .long (((l0 - ((m_lushr l0 1) &&& 6148914691236517205)) &&& 3689348814741910323) + ((m_lushr (l0 - ((m_lushr l0 1) &&& 6148914691236517205)) 2) &&& 3689348814741910323)))] dJ13_bitCount_95d88_23 rfl (by decide) (by first | rfl | simp [q_cat, q_catI, q_catJ, q_catR, q_catN]) ?_
  refine q_lload_n (pc := 24) C 0 0 dJ13_bitCount_95d88_24 rfl rfl ?_
  refine q_lload_n (pc := 25) C 0 0 dJ13_bitCount_95d88_25 rfl rfl ?_
  refine q_iconst (pc := 26) C 4 dJ13_bitCount_95d88_26 (by decide) ?_
  refine q_lushr (pc := 27) C dJ13_bitCount_95d88_27 ?_
  refine m_stk (st2 := .long (m_lushr (((l0 - ((m_lushr l0 1) &&& 6148914691236517205)) &&& 3689348814741910323) + ((m_lushr (l0 - ((m_lushr l0 1) &&& 6148914691236517205)) 2) &&& 3689348814741910323)) 4) :: _) rfl ?_
  refine q_ladd (pc := 28) C dJ13_bitCount_95d88_28 ?_
  refine q_ldc2 (pc := 29) C 1085102592571150095 (by decide +kernel) dJ13_bitCount_95d88_29 ?_
  refine q_land (pc := 32) C dJ13_bitCount_95d88_32 ?_
  refine q_lstore_n (pc := 33) C 0 [(0, .long (((((l0 - ((m_lushr l0 1) &&& 6148914691236517205)) &&& 3689348814741910323) + ((m_lushr (l0 - ((m_lushr l0 1) &&& 6148914691236517205)) 2) &&& 3689348814741910323)) + (m_lushr (((l0 - ((m_lushr l0 1) &&& 6148914691236517205)) &&& 3689348814741910323) + ((m_lushr (l0 - ((m_lushr l0 1) &&& 6148914691236517205)) 2) &&& 3689348814741910323)) 4)) &&& 1085102592571150095))] dJ13_bitCount_95d88_33 rfl (by decide) (by first | rfl | simp [q_cat, q_catI, q_catJ, q_catR, q_catN]) ?_
  refine q_lload_n (pc := 34) C 0 0 dJ13_bitCount_95d88_34 rfl rfl ?_
  refine q_lload_n (pc := 35) C 0 0 dJ13_bitCount_95d88_35 rfl rfl ?_
  refine q_bipush (pc := 36) C 8 dJ13_bitCount_95d88_36 (by decide) ?_
  refine q_lushr (pc := 38) C dJ13_bitCount_95d88_38 ?_
  refine m_stk (st2 := .long (m_lushr (((((l0 - ((m_lushr l0 1) &&& 6148914691236517205)) &&& 3689348814741910323) + ((m_lushr (l0 - ((m_lushr l0 1) &&& 6148914691236517205)) 2) &&& 3689348814741910323)) + (m_lushr (((l0 - ((m_lushr l0 1) &&& 6148914691236517205)) &&& 3689348814741910323) + ((m_lushr (l0 - ((m_lushr l0 1) &&& 6148914691236517205)) 2) &&& 3689348814741910323)) 4)) &&& 1085102592571150095) 8) :: _) rfl ?_
  refine q_ladd (pc := 39) C dJ13_bitCount_95d88_39 ?_
  refine q_lstore_n (pc := 40) C 0 [(0, .long ((((((l0 - ((m_lushr l0 1) &&& 6148914691236517205)) &&& 3689348814741910323) + ((m_lushr (l0 - ((m_lushr l0 1) &&& 6148914691236517205)) 2) &&& 3689348814741910323)) + (m_lushr (((l0 - ((m_lushr l0 1) &&& 6148914691236517205)) &&& 3689348814741910323) + ((m_lushr (l0 - ((m_lushr l0 1) &&& 6148914691236517205)) 2) &&& 3689348814741910323)) 4)) &&& 1085102592571150095) + (m_lushr (((((l0 - ((m_lushr l0 1) &&& 6148914691236517205)) &&& 3689348814741910323) + ((m_lushr (l0 - ((m_lushr l0 1) &&& 6148914691236517205)) 2) &&& 3689348814741910323)) + (m_lushr (((l0 - ((m_lushr l0 1) &&& 6148914691236517205)) &&& 3689348814741910323) + ((m_lushr (l0 - ((m_lushr l0 1) &&& 6148914691236517205)) 2) &&& 3689348814741910323)) 4)) &&& 1085102592571150095) 8)))] dJ13_bitCount_95d88_40 rfl (by decide) (by first | rfl | simp [q_cat, q_catI, q_catJ, q_catR, q_catN]) ?_
  refine q_lload_n (pc := 41) C 0 0 dJ13_bitCount_95d88_41 rfl rfl ?_
  refine q_lload_n (pc := 42) C 0 0 dJ13_bitCount_95d88_42 rfl rfl ?_
  refine q_bipush (pc := 43) C 16 dJ13_bitCount_95d88_43 (by decide) ?_
  refine q_lushr (pc := 45) C dJ13_bitCount_95d88_45 ?_
  refine m_stk (st2 := .long (m_lushr ((((((l0 - ((m_lushr l0 1) &&& 6148914691236517205)) &&& 3689348814741910323) + ((m_lushr (l0 - ((m_lushr l0 1) &&& 6148914691236517205)) 2) &&& 3689348814741910323)) + (m_lushr (((l0 - ((m_lushr l0 1) &&& 6148914691236517205)) &&& 3689348814741910323) + ((m_lushr (l0 - ((m_lushr l0 1) &&& 6148914691236517205)) 2) &&& 3689348814741910323)) 4)) &&& 1085102592571150095) + (m_lushr (((((l0 - ((m_lushr l0 1) &&& 6148914691236517205)) &&& 3689348814741910323) + ((m_lushr (l0 - ((m_lushr l0 1) &&& 6148914691236517205)) 2) &&& 3689348814741910323)) + (m_lushr (((l0 - ((m_lushr l0 1) &&& 6148914691236517205)) &&& 3689348814741910323) + ((m_lushr (l0 - ((m_lushr l0 1) &&& 6148914691236517205)) 2) &&& 3689348814741910323)) 4)) &&& 1085102592571150095) 8)) 16) :: _) rfl ?_
  refine q_ladd (pc := 46) C dJ13_bitCount_95d88_46 ?_
  refine q_lstore_n (pc := 47) C 0 [(0, .long (((((((l0 - ((m_lushr l0 1) &&& 6148914691236517205)) &&& 3689348814741910323) + ((m_lushr (l0 - ((m_lushr l0 1) &&& 6148914691236517205)) 2) &&& 3689348814741910323)) + (m_lushr (((l0 - ((m_lushr l0 1) &&& 6148914691236517205)) &&& 3689348814741910323) + ((m_lushr (l0 - ((m_lushr l0 1) &&& 6148914691236517205)) 2) &&& 3689348814741910323)) 4)) &&& 1085102592571150095) + (m_lushr (((((l0 - ((m_lushr l0 1) &&& 6148914691236517205)) &&& 3689348814741910323) + ((m_lushr (l0 - ((m_lushr l0 1) &&& 6148914691236517205)) 2) &&& 3689348814741910323)) + (m_lushr (((l0 - ((m_lushr l0 1) &&& 6148914691236517205)) &&& 3689348814741910323) + ((m_lushr (l0 - ((m_lushr l0 1) &&& 6148914691236517205)) 2) &&& 3689348814741910323)) 4)) &&& 1085102592571150095) 8)) + (m_lushr ((((((l0 - ((m_lushr l0 1) &&& 6148914691236517205)) &&& 3689348814741910323) + ((m_lushr (l0 - ((m_lushr l0 1) &&& 6148914691236517205)) 2) &&& 3689348814741910323)) + (m_lushr (((l0 - ((m_lushr l0 1) &&& 6148914691236517205)) &&& 3689348814741910323) + ((m_lushr (l0 - ((m_lushr l0 1) &&& 6148914691236517205)) 2) &&& 3689348814741910323)) 4)) &&& 1085102592571150095) + (m_lushr (((((l0 - ((m_lushr l0 1) &&& 6148914691236517205)) &&& 3689348814741910323) + ((m_lushr (l0 - ((m_lushr l0 1) &&& 6148914691236517205)) 2) &&& 3689348814741910323)) + (m_lushr (((l0 - ((m_lushr l0 1) &&& 6148914691236517205)) &&& 3689348814741910323) + ((m_lushr (l0 - ((m_lushr l0 1) &&& 6148914691236517205)) 2) &&& 3689348814741910323)) 4)) &&& 1085102592571150095) 8)) 16)))] dJ13_bitCount_95d88_47 rfl (by decide) (by first | rfl | simp [q_cat, q_catI, q_catJ, q_catR, q_catN]) ?_
  refine q_lload_n (pc := 48) C 0 0 dJ13_bitCount_95d88_48 rfl rfl ?_
  refine q_lload_n (pc := 49) C 0 0 dJ13_bitCount_95d88_49 rfl rfl ?_
  refine q_bipush (pc := 50) C 32 dJ13_bitCount_95d88_50 (by decide) ?_
  refine q_lushr (pc := 52) C dJ13_bitCount_95d88_52 ?_
  refine m_stk (st2 := .long (m_lushr (((((((l0 - ((m_lushr l0 1) &&& 6148914691236517205)) &&& 3689348814741910323) + ((m_lushr (l0 - ((m_lushr l0 1) &&& 6148914691236517205)) 2) &&& 3689348814741910323)) + (m_lushr (((l0 - ((m_lushr l0 1) &&& 6148914691236517205)) &&& 3689348814741910323) + ((m_lushr (l0 - ((m_lushr l0 1) &&& 6148914691236517205)) 2) &&& 3689348814741910323)) 4)) &&& 1085102592571150095) + (m_lushr (((((l0 - ((m_lushr l0 1) &&& 6148914691236517205)) &&& 3689348814741910323) + ((m_lushr (l0 - ((m_lushr l0 1) &&& 6148914691236517205)) 2) &&& 3689348814741910323)) + (m_lushr (((l0 - ((m_lushr l0 1) &&& 6148914691236517205)) &&& 3689348814741910323) + ((m_lushr (l0 - ((m_lushr l0 1) &&& 6148914691236517205)) 2) &&& 3689348814741910323)) 4)) &&& 1085102592571150095) 8)) + (m_lushr ((((((l0 - ((m_lushr l0 1) &&& 6148914691236517205)) &&& 3689348814741910323) + ((m_lushr (l0 - ((m_lushr l0 1) &&& 6148914691236517205)) 2) &&& 3689348814741910323)) + (m_lushr (((l0 - ((m_lushr l0 1) &&& 6148914691236517205)) &&& 3689348814741910323) + ((m_lushr (l0 - ((m_lushr l0 1) &&& 6148914691236517205)) 2) &&& 3689348814741910323)) 4)) &&& 1085102592571150095) + (m_lushr (((((l0 - ((m_lushr l0 1) &&& 6148914691236517205)) &&& 3689348814741910323) + ((m_lushr (l0 - ((m_lushr l0 1) &&& 6148914691236517205)) 2) &&& 3689348814741910323)) + (m_lushr (((l0 - ((m_lushr l0 1) &&& 6148914691236517205)) &&& 3689348814741910323) + ((m_lushr (l0 - ((m_lushr l0 1) &&& 6148914691236517205)) 2) &&& 3689348814741910323)) 4)) &&& 1085102592571150095) 8)) 16)) 32) :: _) rfl ?_
  refine q_ladd (pc := 53) C dJ13_bitCount_95d88_53 ?_
  refine q_lstore_n (pc := 54) C 0 [(0, .long ((((((((l0 - ((m_lushr l0 1) &&& 6148914691236517205)) &&& 3689348814741910323) + ((m_lushr (l0 - ((m_lushr l0 1) &&& 6148914691236517205)) 2) &&& 3689348814741910323)) + (m_lushr (((l0 - ((m_lushr l0 1) &&& 6148914691236517205)) &&& 3689348814741910323) + ((m_lushr (l0 - ((m_lushr l0 1) &&& 6148914691236517205)) 2) &&& 3689348814741910323)) 4)) &&& 1085102592571150095) + (m_lushr (((((l0 - ((m_lushr l0 1) &&& 6148914691236517205)) &&& 3689348814741910323) + ((m_lushr (l0 - ((m_lushr l0 1) &&& 6148914691236517205)) 2) &&& 3689348814741910323)) + (m_lushr (((l0 - ((m_lushr l0 1) &&& 6148914691236517205)) &&& 3689348814741910323) + ((m_lushr (l0 - ((m_lushr l0 1) &&& 6148914691236517205)) 2) &&& 3689348814741910323)) 4)) &&& 1085102592571150095) 8)) + (m_lushr ((((((l0 - ((m_lushr l0 1) &&& 6148914691236517205)) &&& 3689348814741910323) + ((m_lushr (l0 - ((m_lushr l0 1) &&& 6148914691236517205)) 2) &&& 3689348814741910323)) + (m_lushr (((l0 - ((m_lushr l0 1) &&& 6148914691236517205)) &&& 3689348814741910323) + ((m_lushr (l0 - ((m_lushr l0 1) &&& 6148914691236517205)) 2) &&& 3689348814741910323)) 4)) &&& 1085102592571150095) + (m_lushr (((((l0 - ((m_lushr l0 1) &&& 6148914691236517205)) &&& 3689348814741910323) + ((m_lushr (l0 - ((m_lushr l0 1) &&& 6148914691236517205)) 2) &&& 3689348814741910323)) + (m_lushr (((l0 - ((m_lushr l0 1) &&& 6148914691236517205)) &&& 3689348814741910323) + ((m_lushr (l0 - ((m_lushr l0 1) &&& 6148914691236517205)) 2) &&& 3689348814741910323)) 4)) &&& 1085102592571150095) 8)) 16)) + (m_lushr (((((((l0 - ((m_lushr l0 1) &&& 6148914691236517205)) &&& 3689348814741910323) + ((m_lushr (l0 - ((m_lushr l0 1) &&& 6148914691236517205)) 2) &&& 3689348814741910323)) + (m_lushr (((l0 - ((m_lushr l0 1) &&& 6148914691236517205)) &&& 3689348814741910323) + ((m_lushr (l0 - ((m_lushr l0 1) &&& 6148914691236517205)) 2) &&& 3689348814741910323)) 4)) &&& 1085102592571150095) + (m_lushr (((((l0 - ((m_lushr l0 1) &&& 6148914691236517205)) &&& 3689348814741910323) + ((m_lushr (l0 - ((m_lushr l0 1) &&& 6148914691236517205)) 2) &&& 3689348814741910323)) + (m_lushr (((l0 - ((m_lushr l0 1) &&& 6148914691236517205)) &&& 3689348814741910323) + ((m_lushr (l0 - ((m_lushr l0 1) &&& 6148914691236517205)) 2) &&& 3689348814741910323)) 4)) &&& 1085102592571150095) 8)) + (m_lushr ((((((l0 - ((m_lushr l0 1) &&& 6148914691236517205)) &&& 3689348814741910323) + ((m_lushr (l0 - ((m_lushr l0 1) &&& 6148914691236517205)) 2) &&& 3689348814741910323)) + (m_lushr (((l0 - ((m_lushr l0 1) &&& 6148914691236517205)) &&& 3689348814741910323) + ((m_lushr (l0 - ((m_lushr l0 1) &&& 6148914691236517205)) 2) &&& 3689348814741910323)) 4)) &&& 1085102592571150095) + (m_lushr (((((l0 - ((m_lushr l0 1) &&& 6148914691236517205)) &&& 3689348814741910323) + ((m_lushr (l0 - ((m_lushr l0 1) &&& 6148914691236517205)) 2) &&& 3689348814741910323)) + (m_lushr (((l0 - ((m_lushr l0 1) &&& 6148914691236517205)) &&& 3689348814741910323) + ((m_lushr (l0 - ((m_lushr l0 1) &&& 6148914691236517205)) 2) &&& 3689348814741910323)) 4)) &&& 1085102592571150095) 8)) 16)) 32)))] dJ13_bitCount_95d88_54 rfl (by decide) (by first | rfl | simp [q_cat, q_catI, q_catJ, q_catR, q_catN]) ?_
  refine q_lload_n (pc := 55) C 0 0 dJ13_bitCount_95d88_55 rfl rfl ?_
  refine q_l2i (pc := 56) C dJ13_bitCount_95d88_56 ?_
  refine q_bipush (pc := 57) C 127 dJ13_bitCount_95d88_57 (by decide) ?_
  refine q_iand (pc := 59) C dJ13_bitCount_95d88_59 ?_
  exact q_iret (pc := 60) C hr hlocks h dJ13_bitCount_95d88_60 (by omega) (by omega)
set_option maxRecDepth 100000 in
set_option maxHeartbeats 4000000 in
theorem kJ13_bitCount_95d88 (l : Launch) (G : mG) (b0 : Nat) {l0 : Int64} {M : mM} {κ : Int32 → mM → Prop} (h : wJ13_bitCount_95d88 κ l0 M) : Met l yJ13_bitCount_95d88 wsJ13_bitCount_95d88 ({ frames := 0, cells := 0, slots := 0, locals := 0 } : Room) (va_Pc [.long l0] (m_Pre G b0 M)) (va_Qi κ (m_B G b0) (fun q => b0 ≤ q)) 0 0 (fun q => b0 ≤ q) := by
  refine m_met (cc := cJ13_bitCount_95d88) (maxL := 2) (ret := (some .int)) (lv := [(0, .long l0)]) RJ13 rfl (by decide +kernel) rfl (by first | exact Nat.le_of_ble_eq_true rfl | simp [lg_sl, q_cat, q_catI, q_catJ, q_catR, q_catN]) (by first | rfl | (simp [lv_args, q_cat, q_catI, q_catJ, q_catR, q_catN]; done) | (simp [lv_args, q_cat, q_catI, q_catJ, q_catR, q_catN]; rfl)) ?_
  intro p e s m args below meth c C hr hlocks hni
  exact tJ13_bitCount_95d88 C hr hlocks h
/-! Jx35411_init_45d68 -/
set_option maxRecDepth 100000 in
set_option maxHeartbeats 4000000 in
theorem tJx35411_init_45d68 {p : Program} {l : Launch} {e : Env} {s : State} {m : MethodId} {args : Array Value} {below : List Frame} {meth : Method} {c : Code} {G : mG} {b0 : Nat} (C : m_C p s m args c cJx35411_init_45d68 2 RJx35411 wsJx35411_init_45d68 G b0) (hr : meth.sig.returnType = none) (hlocks : meth.locks = false) (hni : meth.name = "<init>") {κ : mM → Prop} {l0 : Option Nat} {l1 : Option Nat} {M : mM} (h : wJx35411_init_45d68 κ l0 l1 M) : m_W p l e ({ frames := 1, cells := 0, slots := 0, locals := 20 } : Room) s m args below meth c G b0 (MQ below (va_Qv κ (m_B G b0) (fun q => b0 ≤ q)) args s 0 0 (fun q => b0 ≤ q)) 2 M 0 0 0 [(0, va_rf l0), (1, va_rf l1)] [] := by
  unfold wJx35411_init_45d68 at h
  refine q_aload_n (pc := 0) C 0 0 dJx35411_init_45d68_0 rfl rfl ?_
  refine q_aload_n (pc := 1) C 1 1 dJx35411_init_45d68_1 rfl rfl ?_
  refine q_pF (pc := 2) C hni h (.object "java/util/ArrayList") (T := TJx35411) tyJx35411 tyJx35411_ok nmJx35411 rfl (by decide +kernel) (q_nrO _ _) (q_ftO _ _) rfl (by decide) (wk_u rfl wm_Jx35411_init_45d68 uq_Jx35411 (by decide +kernel)) (by decide +kernel) (fun _ h9 => h9) rfl rfl dJx35411_init_45d68_2 (fun M1 h => ?_)
  refine q_aload_n (pc := 5) C 0 0 dJx35411_init_45d68_5 rfl rfl ?_
  obtain ⟨b9, hb9, h⟩ := h
  refine q_objInit (pc := 6) C hb9 (by decide +kernel) (by decide +kernel) (by decide +kernel) dJx35411_init_45d68_6 (Nat.le_of_ble_eq_true rfl) (by first | exact Nat.le_of_ble_eq_true rfl | (simp [q_cat, q_catI, q_catJ, q_catR, q_catN]; done) | (simp [q_cat, q_catI, q_catJ, q_catR, q_catN]; decide)) ?_
  refine q_aload_n (pc := 9) C 0 0 dJx35411_init_45d68_9 rfl rfl ?_
  refine q_iconst (pc := 10) C (-1) dJx35411_init_45d68_10 (by decide) ?_
  refine q_p (pc := 11) C h .int (T := TJx35411) tyJx35411 tyJx35411_ok nmJx35411 rfl (by decide +kernel) rfl rfl rfl (by decide) (wk_u rfl wm_Jx35411_init_45d68 uq_Jx35411 (by decide +kernel)) (by decide +kernel) (fun _ h9 => h9) rfl dJx35411_init_45d68_11 (fun M2 h => ?_)
  refine q_aload_n (pc := 14) C 0 0 dJx35411_init_45d68_14 rfl rfl ?_
  refine q_aload_n (pc := 15) C 0 0 dJx35411_init_45d68_15 rfl rfl ?_
  refine q_gR (pc := 16) C h (T := TJx35411) rfl (by decide) (wk_u rfl wm_Jx35411_init_45d68 uq_Jx35411 (by decide +kernel)) (by decide +kernel) (fun _ h9 => h9) dJx35411_init_45d68_16 (fun x3 h => ?_)
  refine q_gI (pc := 19) C h (T := TJx4a65c) rfl (by decide) (by decide +kernel) (by decide +kernel) (fun x9 h9 => u_same (C.2.2.2.2.1 (.sameField "java/util/ArrayList" "java/util/AbstractList" "modCount" "I") (by decide +kernel)) x9 h9) dJx35411_init_45d68_19 (fun x4 h => ?_)
  refine q_p (pc := 22) C h .int (T := TJx35411) tyJx35411 tyJx35411_ok nmJx35411 rfl (by decide +kernel) rfl rfl rfl (by decide) (wk_u rfl wm_Jx35411_init_45d68 uq_Jx35411 (by decide +kernel)) (by decide +kernel) (fun _ h9 => h9) rfl dJx35411_init_45d68_22 (fun M5 h => ?_)
  exact q_vret (pc := 25) C hr hlocks h dJx35411_init_45d68_25 (by omega) (by omega)
set_option maxRecDepth 100000 in
set_option maxHeartbeats 4000000 in
theorem kJx35411_init_45d68 (l : Launch) (G : mG) (b0 : Nat) {b : Nat} {l1 : Option Nat} {M : mM} {κ : mM → Prop} (h : wJx35411_init_45d68 κ (some b) l1 M) : Met l yJx35411_init_45d68 wsJx35411_init_45d68 ({ frames := 1, cells := 0, slots := 0, locals := 20 } : Room) (va_Pc [.ref b, va_rf l1] (m_Pre G b0 M)) (va_Qv κ (m_B G b0) (fun q => b0 ≤ q)) 0 0 (fun q => b0 ≤ q) := by
  refine m_met (cc := cJx35411_init_45d68) (maxL := 2) (ret := none) (lv := [(0, va_rf (some b)), (1, va_rf l1)]) RJx35411 rfl (by decide +kernel) rfl (by first | exact Nat.le_of_ble_eq_true rfl | simp [lg_sl, q_cat, q_catI, q_catJ, q_catR, q_catN]) (by first | rfl | (simp [lv_args, q_cat, q_catI, q_catJ, q_catR, q_catN]; done) | (simp [lv_args, q_cat, q_catI, q_catJ, q_catR, q_catN]; rfl)) ?_
  intro p e s m args below meth c C hr hlocks hni
  exact tJx35411_init_45d68 C hr hlocks hni h
/-! Jx4a65c_iterator_32c93 -/
set_option maxRecDepth 100000 in
set_option maxHeartbeats 4000000 in
theorem tJx4a65c_iterator_32c93 {p : Program} {l : Launch} {e : Env} {s : State} {m : MethodId} {args : Array Value} {below : List Frame} {meth : Method} {c : Code} {G : mG} {b0 : Nat} (C : m_C p s m args c cJx4a65c_iterator_32c93 1 RJx4a65c wsJx4a65c_iterator_32c93 G b0) (hr : meth.sig.returnType = (some (.object "java/util/Iterator"))) (hlocks : meth.locks = false) {κ : Option Nat → mM → Prop} {l0 : Option Nat} {M : mM} (h : wJx4a65c_iterator_32c93 κ l0 M) : m_W p l e ({ frames := 2, cells := 1, slots := 4, locals := 41 } : Room) s m args below meth c G b0 (MQ below (va_Qq κ (m_B G b0) (fun q => b0 ≤ q)) args s 1 4 (fun q => b0 ≤ q)) 1 M 0 0 0 [(0, va_rf l0)] [] := by
  unfold wJx4a65c_iterator_32c93 at h
  refine q_new (pc := 0) C h rfl (T := TJx35411) tyJx35411 tyJx35411_ok rfl (by decide +kernel) (by decide +kernel) (by decide +kernel) (by decide +kernel) (fun j hj => by rcases (show j = 0 ∨ j = 1 ∨ j = 2 ∨ j = 3 by omega) with rfl | rfl | rfl | rfl <;> rfl) (by first | omega | (dsimp only; omega)) (by first | omega | (dsimp only; omega)) dJx4a65c_iterator_32c93_0 (fun q1 M2 h => ?_)
  refine q_dup (pc := 3) C dJx4a65c_iterator_32c93_3 (q_cat _) ?_
  refine q_aload_n (pc := 4) C 0 0 dJx4a65c_iterator_32c93_4 rfl rfl ?_
  obtain ⟨b4, fs9, hb4, hm9, h⟩ := h
  refine q_cv (pc := 5) (q_rI C (st := [va_rf (some q1)]) (b := b4) (kJx35411_init_45d68 l G b0 h) (cwI 1 C.2.2.2.2.1 gJx4a65c_iterator_32c93_Jx35411_init_45d68 rfl rfl rfl (C.2.2.2.2.1 (.initialized RJx35411) (by decide +kernel)) (C.2.2.2.2.1 (.methodLink RJx4a65c 269 yJx35411_init_45d68) (by decide +kernel)) (C.2.2.2.2.1 (.instanceMethod yJx35411_init_45d68) (by decide +kernel)) rfl (by decide +kernel) ⟨Nat.le_of_ble_eq_true rfl, Nat.le_of_ble_eq_true rfl⟩) rfl (by first | exact Nat.le_of_ble_eq_true rfl | (simp [q_cat, q_catI, q_catJ, q_catR, q_catN]; done)) (by rw [hb4]; first | done | rfl) dJx4a65c_iterator_32c93_5 ⟨(by first | omega | (dsimp only; omega)), (by first | omega | (dsimp only; omega))⟩) (fun M3 h => ?_)
  exact q_aret (pc := 8) C hr (by first | exact Or.inl ⟨_, rfl⟩ | exact Or.inr ⟨_, rfl⟩) hlocks h dJx4a65c_iterator_32c93_8 (by omega) (by omega)
set_option maxRecDepth 100000 in
set_option maxHeartbeats 4000000 in
theorem kJx4a65c_iterator_32c93 (l : Launch) (G : mG) (b0 : Nat) {b : Nat} {M : mM} {κ : Option Nat → mM → Prop} (h : wJx4a65c_iterator_32c93 κ (some b) M) : Met l yJx4a65c_iterator_32c93 wsJx4a65c_iterator_32c93 ({ frames := 2, cells := 1, slots := 4, locals := 41 } : Room) (va_Pc [.ref b] (m_Pre G b0 M)) (va_Qq κ (m_B G b0) (fun q => b0 ≤ q)) 1 4 (fun q => b0 ≤ q) := by
  refine m_met (cc := cJx4a65c_iterator_32c93) (maxL := 1) (ret := (some (.object "java/util/Iterator"))) (lv := [(0, va_rf (some b))]) RJx4a65c rfl (by decide +kernel) rfl (by first | exact Nat.le_of_ble_eq_true rfl | simp [lg_sl, q_cat, q_catI, q_catJ, q_catR, q_catN]) (by first | rfl | (simp [lv_args, q_cat, q_catI, q_catJ, q_catR, q_catN]; done) | (simp [lv_args, q_cat, q_catI, q_catJ, q_catR, q_catN]; rfl)) ?_
  intro p e s m args below meth c C hr hlocks hni
  exact tJx4a65c_iterator_32c93 C hr hlocks h
/-! Jx35411_hasNext_aae02 -/
set_option maxRecDepth 100000 in
set_option maxHeartbeats 4000000 in
theorem tJx35411_hasNext_aae02 {p : Program} {l : Launch} {e : Env} {s : State} {m : MethodId} {args : Array Value} {below : List Frame} {meth : Method} {c : Code} {G : mG} {b0 : Nat} (C : m_C p s m args c cJx35411_hasNext_aae02 1 RJx35411 wsJx35411_hasNext_aae02 G b0) (hr : meth.sig.returnType = (some .boolean)) (hlocks : meth.locks = false) {κ : Int32 → mM → Prop} {l0 : Option Nat} {M : mM} (h : wJx35411_hasNext_aae02 κ l0 M) : m_W p l e ({ frames := 0, cells := 0, slots := 0, locals := 0 } : Room) s m args below meth c G b0 (MQ below (va_Qi κ (m_B G b0) (fun q => b0 ≤ q)) args s 0 0 (fun q => b0 ≤ q)) 1 M 0 0 0 [(0, va_rf l0)] [] := by
  unfold wJx35411_hasNext_aae02 at h
  refine q_aload_n (pc := 0) C 0 0 dJx35411_hasNext_aae02_0 rfl rfl ?_
  refine q_gI (pc := 1) C h (T := TJx35411) rfl (by decide) (wk_u rfl wm_Jx35411_hasNext_aae02 uq_Jx35411 (by decide +kernel)) (by decide +kernel) (fun _ h9 => h9) dJx35411_hasNext_aae02_1 (fun x1 h => ?_)
  refine q_aload_n (pc := 4) C 0 0 dJx35411_hasNext_aae02_4 rfl rfl ?_
  refine q_gR (pc := 5) C h (T := TJx35411) rfl (by decide) (wk_u rfl wm_Jx35411_hasNext_aae02 uq_Jx35411 (by decide +kernel)) (by decide +kernel) (fun _ h9 => h9) dJx35411_hasNext_aae02_5 (fun x2 h => ?_)
  refine q_gIN (pc := 8) C h (host := "java/util/ArrayList") (T := TJx4a65c) rfl (by decide) (by decide +kernel) 67 (by decide +kernel) (fun _ h9 => h9) dJx35411_hasNext_aae02_8 (fun x3 h => ?_)
  refine q_icmp_eq (pc := 11) C 18 dJx35411_hasNext_aae02_11 (by decide) (fun c4 => ?_) (fun c4 => ?_)
  · have h := h.1 c4
    refine q_iconst (pc := 18) C 0 dJx35411_hasNext_aae02_18 (by decide) ?_
    exact q_zret (pc := 19) C hr hlocks ⟨(by decide), h⟩ dJx35411_hasNext_aae02_19 (by omega) (by omega)
  · have h := h.2 c4
    refine q_iconst (pc := 14) C 1 dJx35411_hasNext_aae02_14 (by decide) ?_
    refine q_goto (pc := 15) C 19 dJx35411_hasNext_aae02_15 (by decide) ?_
    exact q_zret (pc := 19) C hr hlocks ⟨(by decide), h⟩ dJx35411_hasNext_aae02_19 (by omega) (by omega)
set_option maxRecDepth 100000 in
set_option maxHeartbeats 4000000 in
theorem kJx35411_hasNext_aae02 (l : Launch) (G : mG) (b0 : Nat) {b : Nat} {M : mM} {κ : Int32 → mM → Prop} (h : wJx35411_hasNext_aae02 κ (some b) M) : Met l yJx35411_hasNext_aae02 wsJx35411_hasNext_aae02 ({ frames := 0, cells := 0, slots := 0, locals := 0 } : Room) (va_Pc [.ref b] (m_Pre G b0 M)) (va_Qi κ (m_B G b0) (fun q => b0 ≤ q)) 0 0 (fun q => b0 ≤ q) := by
  refine m_met (cc := cJx35411_hasNext_aae02) (maxL := 1) (ret := (some .boolean)) (lv := [(0, va_rf (some b))]) RJx35411 rfl (by decide +kernel) rfl (by first | exact Nat.le_of_ble_eq_true rfl | simp [lg_sl, q_cat, q_catI, q_catJ, q_catR, q_catN]) (by first | rfl | (simp [lv_args, q_cat, q_catI, q_catJ, q_catR, q_catN]; done) | (simp [lv_args, q_cat, q_catI, q_catJ, q_catR, q_catN]; rfl)) ?_
  intro p e s m args below meth c C hr hlocks hni
  exact tJx35411_hasNext_aae02 C hr hlocks h
/-! Jx35411_checkForComodification_da8c8 -/
set_option maxRecDepth 100000 in
set_option maxHeartbeats 4000000 in
theorem tJx35411_checkForComodification_da8c8 {p : Program} {l : Launch} {e : Env} {s : State} {m : MethodId} {args : Array Value} {below : List Frame} {meth : Method} {c : Code} {G : mG} {b0 : Nat} (C : m_C p s m args c cJx35411_checkForComodification_da8c8 1 RJx35411 wsJx35411_checkForComodification_da8c8 G b0) (hr : meth.sig.returnType = none) (hlocks : meth.locks = false) {κ : mM → Prop} {l0 : Option Nat} {M : mM} (h : wJx35411_checkForComodification_da8c8 κ l0 M) : m_W p l e ({ frames := 0, cells := 0, slots := 0, locals := 0 } : Room) s m args below meth c G b0 (MQ below (va_Qv κ (m_B G b0) (fun q => b0 ≤ q)) args s 0 0 (fun q => b0 ≤ q)) 1 M 0 0 0 [(0, va_rf l0)] [] := by
  unfold wJx35411_checkForComodification_da8c8 at h
  refine q_aload_n (pc := 0) C 0 0 dJx35411_checkForComodification_da8c8_0 rfl rfl ?_
  refine q_gR (pc := 1) C h (T := TJx35411) rfl (by decide) (wk_u rfl wm_Jx35411_checkForComodification_da8c8 uq_Jx35411 (by decide +kernel)) (by decide +kernel) (fun _ h9 => h9) dJx35411_checkForComodification_da8c8_1 (fun x1 h => ?_)
  refine q_gI (pc := 4) C h (T := TJx4a65c) rfl (by decide) (by decide +kernel) (by decide +kernel) (fun x9 h9 => u_same (C.2.2.2.2.1 (.sameField "java/util/ArrayList" "java/util/AbstractList" "modCount" "I") (by decide +kernel)) x9 h9) dJx35411_checkForComodification_da8c8_4 (fun x2 h => ?_)
  refine q_aload_n (pc := 7) C 0 0 dJx35411_checkForComodification_da8c8_7 rfl rfl ?_
  refine q_gI (pc := 8) C h (T := TJx35411) rfl (by decide) (wk_u rfl wm_Jx35411_checkForComodification_da8c8 uq_Jx35411 (by decide +kernel)) (by decide +kernel) (fun _ h9 => h9) dJx35411_checkForComodification_da8c8_8 (fun x3 h => ?_)
  refine q_icmp_eq (pc := 11) C 22 dJx35411_checkForComodification_da8c8_11 (by decide) (fun c4 => ?_) (fun c4 => ?_)
  · have h := h.1 c4
    exact q_vret (pc := 22) C hr hlocks h dJx35411_checkForComodification_da8c8_22 (by omega) (by omega)
  · have h := h.2 c4
    exact h.elim
set_option maxRecDepth 100000 in
set_option maxHeartbeats 4000000 in
theorem kJx35411_checkForComodification_da8c8 (l : Launch) (G : mG) (b0 : Nat) {b : Nat} {M : mM} {κ : mM → Prop} (h : wJx35411_checkForComodification_da8c8 κ (some b) M) : Met l yJx35411_checkForComodification_da8c8 wsJx35411_checkForComodification_da8c8 ({ frames := 0, cells := 0, slots := 0, locals := 0 } : Room) (va_Pc [.ref b] (m_Pre G b0 M)) (va_Qv κ (m_B G b0) (fun q => b0 ≤ q)) 0 0 (fun q => b0 ≤ q) := by
  refine m_met (cc := cJx35411_checkForComodification_da8c8) (maxL := 1) (ret := none) (lv := [(0, va_rf (some b))]) RJx35411 rfl (by decide +kernel) rfl (by first | exact Nat.le_of_ble_eq_true rfl | simp [lg_sl, q_cat, q_catI, q_catJ, q_catR, q_catN]) (by first | rfl | (simp [lv_args, q_cat, q_catI, q_catJ, q_catR, q_catN]; done) | (simp [lv_args, q_cat, q_catI, q_catJ, q_catR, q_catN]; rfl)) ?_
  intro p e s m args below meth c C hr hlocks hni
  exact tJx35411_checkForComodification_da8c8 C hr hlocks h
/-! Jx35411_next_0502b -/
set_option maxRecDepth 100000 in
set_option maxHeartbeats 4000000 in
theorem tJx35411_next_0502b {p : Program} {l : Launch} {e : Env} {s : State} {m : MethodId} {args : Array Value} {below : List Frame} {meth : Method} {c : Code} {G : mG} {b0 : Nat} (C : m_C p s m args c cJx35411_next_0502b 3 RJx35411 wsJx35411_next_0502b G b0) (hr : meth.sig.returnType = (some (.object "java/lang/Object"))) (hlocks : meth.locks = false) {κ : Option Nat → mM → Prop} {l0 : Option Nat} {M : mM} (h : wJx35411_next_0502b κ l0 M) : m_W p l e ({ frames := 1, cells := 0, slots := 0, locals := 20 } : Room) s m args below meth c G b0 (MQ below (va_Qq κ (m_B G b0) (fun q => b0 ≤ q)) args s 0 0 (fun q => b0 ≤ q)) 3 M 0 0 0 [(0, va_rf l0)] [] := by
  unfold wJx35411_next_0502b at h
  refine q_aload_n (pc := 0) C 0 0 dJx35411_next_0502b_0 rfl rfl ?_
  obtain ⟨b2, fs9, hb2, hm9, h⟩ := h
  refine q_cv (pc := 1) (q_rV C (st := []) (b := b2) (kJx35411_checkForComodification_da8c8 l G b0 h) (cwV 0 C.2.2.2.2.1 gJx35411_next_0502b_Jx35411_checkForComodification_da8c8 rfl rfl rfl (by decide +kernel) ⟨Nat.le_of_ble_eq_true rfl, Nat.le_of_ble_eq_true rfl⟩) hm9 rfl rfl rfl (by first | exact Nat.le_of_ble_eq_true rfl | (simp [q_cat, q_catI, q_catJ, q_catR, q_catN]; done)) (by rw [hb2]; first | done | rfl) dJx35411_next_0502b_1 ⟨(by first | omega | (dsimp only; omega)), (by first | omega | (dsimp only; omega))⟩) (fun M1 h => ?_)
  refine q_aload_n (pc := 4) C 0 0 dJx35411_next_0502b_4 rfl rfl ?_
  refine q_gI (pc := 5) C h (T := TJx35411) rfl (by decide) (wk_u rfl wm_Jx35411_next_0502b uq_Jx35411 (by decide +kernel)) (by decide +kernel) (fun _ h9 => h9) dJx35411_next_0502b_5 (fun x3 h => ?_)
  refine q_istore_n (pc := 8) C 1 [(1, .int x3), (0, va_rf l0)] dJx35411_next_0502b_8 rfl (by decide) (by first | rfl | simp [q_cat, q_catI, q_catJ, q_catR, q_catN]) ?_
  refine q_iload_n (pc := 9) C 1 0 dJx35411_next_0502b_9 rfl rfl ?_
  refine q_aload_n (pc := 10) C 0 1 dJx35411_next_0502b_10 rfl rfl ?_
  refine q_gR (pc := 11) C h (T := TJx35411) rfl (by decide) (wk_u rfl wm_Jx35411_next_0502b uq_Jx35411 (by decide +kernel)) (by decide +kernel) (fun _ h9 => h9) dJx35411_next_0502b_11 (fun x4 h => ?_)
  refine q_gIN (pc := 14) C h (host := "java/util/ArrayList") (T := TJx4a65c) rfl (by decide) (by decide +kernel) 67 (by decide +kernel) (fun _ h9 => h9) dJx35411_next_0502b_14 (fun x5 h => ?_)
  refine q_icmp_lt (pc := 17) C 28 dJx35411_next_0502b_17 (by decide) (fun c6 => ?_) (fun c6 => ?_)
  · have h := h.1 c6
    refine q_aload_n (pc := 28) C 0 1 dJx35411_next_0502b_28 rfl rfl ?_
    refine q_gR (pc := 29) C h (T := TJx35411) rfl (by decide) (wk_u rfl wm_Jx35411_next_0502b uq_Jx35411 (by decide +kernel)) (by decide +kernel) (fun _ h9 => h9) dJx35411_next_0502b_29 (fun x7 h => ?_)
    refine q_gR (pc := 32) C h (T := TJx4a65c) rfl (by decide) (wk_u rfl wm_Jx35411_next_0502b uq_Jx4a65c (by decide +kernel)) (by decide +kernel) (fun _ h9 => h9) dJx35411_next_0502b_32 (fun x8 h => ?_)
    refine q_astore_n (pc := 35) C 2 [(2, va_rf x8), (1, .int x3), (0, va_rf l0)] dJx35411_next_0502b_35 rfl (by decide) (by first | rfl | simp [q_cat, q_catI, q_catJ, q_catR, q_catN]) ?_
    refine q_iload_n (pc := 36) C 1 1 dJx35411_next_0502b_36 rfl rfl ?_
    refine q_aload_n (pc := 37) C 2 0 dJx35411_next_0502b_37 rfl rfl ?_
    refine q_len (pc := 38) C h dJx35411_next_0502b_38 (fun x9 h => ?_)
    refine q_icmp_lt (pc := 39) C 50 dJx35411_next_0502b_39 (by decide) (fun c10 => ?_) (fun c10 => ?_)
    · have h := h.1 c10
      refine q_aload_n (pc := 50) C 0 2 dJx35411_next_0502b_50 rfl rfl ?_
      refine q_iload_n (pc := 51) C 1 1 dJx35411_next_0502b_51 rfl rfl ?_
      refine q_iconst (pc := 52) C 1 dJx35411_next_0502b_52 (by decide) ?_
      refine q_iadd (pc := 53) C dJx35411_next_0502b_53 ?_
      refine q_p (pc := 54) C h .int (T := TJx35411) tyJx35411 tyJx35411_ok nmJx35411 rfl (by decide +kernel) rfl rfl rfl (by decide) (wk_u rfl wm_Jx35411_next_0502b uq_Jx35411 (by decide +kernel)) (by decide +kernel) (fun _ h9 => h9) rfl dJx35411_next_0502b_54 (fun M11 h => ?_)
      refine q_aload_n (pc := 57) C 2 0 dJx35411_next_0502b_57 rfl rfl ?_
      refine q_aload_n (pc := 58) C 0 2 dJx35411_next_0502b_58 rfl rfl ?_
      refine q_iload_n (pc := 59) C 1 1 dJx35411_next_0502b_59 rfl rfl ?_
      refine q_dup_x1 (pc := 60) C dJx35411_next_0502b_60 rfl (q_cat _) ?_
      refine q_p (pc := 61) C h .int (T := TJx35411) tyJx35411 tyJx35411_ok nmJx35411 rfl (by decide +kernel) rfl rfl rfl (by decide) (wk_u rfl wm_Jx35411_next_0502b uq_Jx35411 (by decide +kernel)) (by decide +kernel) (fun _ h9 => h9) rfl dJx35411_next_0502b_61 (fun M12 h => ?_)
      refine q_aald (pc := 64) C h rfl dJx35411_next_0502b_64 (fun x13 h => ?_)
      exact q_aret (pc := 65) C hr (by first | exact Or.inl ⟨_, rfl⟩ | exact Or.inr ⟨_, rfl⟩) hlocks h dJx35411_next_0502b_65 (by omega) (by omega)
    · have h := h.2 c10
      exact h.elim
  · have h := h.2 c6
    exact h.elim
set_option maxRecDepth 100000 in
set_option maxHeartbeats 4000000 in
theorem kJx35411_next_0502b (l : Launch) (G : mG) (b0 : Nat) {b : Nat} {M : mM} {κ : Option Nat → mM → Prop} (h : wJx35411_next_0502b κ (some b) M) : Met l yJx35411_next_0502b wsJx35411_next_0502b ({ frames := 1, cells := 0, slots := 0, locals := 20 } : Room) (va_Pc [.ref b] (m_Pre G b0 M)) (va_Qq κ (m_B G b0) (fun q => b0 ≤ q)) 0 0 (fun q => b0 ≤ q) := by
  refine m_met (cc := cJx35411_next_0502b) (maxL := 3) (ret := (some (.object "java/lang/Object"))) (lv := [(0, va_rf (some b))]) RJx35411 rfl (by decide +kernel) rfl (by first | exact Nat.le_of_ble_eq_true rfl | simp [lg_sl, q_cat, q_catI, q_catJ, q_catR, q_catN]) (by first | rfl | (simp [lv_args, q_cat, q_catI, q_catJ, q_catR, q_catN]; done) | (simp [lv_args, q_cat, q_catI, q_catJ, q_catR, q_catN]; rfl)) ?_
  intro p e s m args below meth c C hr hlocks hni
  exact tJx35411_next_0502b C hr hlocks h
