/-! J0_coder_7d493 -/
set_option maxRecDepth 100000 in
set_option maxHeartbeats 4000000 in
theorem tJ0_coder_7d493 {p : Program} {l : Launch} {e : Env} {s : State} {m : MethodId} {args : Array Value} {below : List Frame} {meth : Method} {c : Code} {G : mG} {b0 : Nat} (C : m_C p s m args c cJ0_coder_7d493 1 RJ0 wsJ0_coder_7d493 G b0) (hr : meth.sig.returnType = (some .byte)) (hlocks : meth.locks = false) {g : Nat → Nat} (hg : G.2.2 = g) {κ : Int32 → mM → Prop} {l0 : Option Nat} {M : mM} (h : wJ0_coder_7d493 g κ l0 M) : m_W p l e ({ frames := 0, cells := 0, slots := 0, locals := 0 } : Room) s m args below meth c G b0 (MQ below (va_Qi κ (m_B G b0) (fun q => b0 ≤ q)) args s 0 0 (fun q => b0 ≤ q)) 1 M 0 0 0 [(0, va_rf l0)] [] := by
  unfold wJ0_coder_7d493 at h
  refine q_gets (pc := 0) C hg (.int 1) (List.mem_of_getElem? (i := 5) rfl) (by decide +kernel) dJ0_coder_7d493_0 ?_
  refine q_if_eq (pc := 3) C 13 dJ0_coder_7d493_3 (by decide) (fun c1 => ?_) (fun c1 => ?_)
  · have h := h.1 c1
    refine q_iconst (pc := 13) C 1 dJ0_coder_7d493_13 (by decide) ?_
    exact q_bret (pc := 14) C hr hlocks h dJ0_coder_7d493_14 (by omega) (by omega)
  · have h := h.2 c1
    refine q_aload_n (pc := 6) C 0 0 dJ0_coder_7d493_6 rfl rfl ?_
    refine q_gI (pc := 7) C h (T := TJ0) rfl (by decide) (by decide +kernel) (by decide +kernel) (fun _ h9 => h9) dJ0_coder_7d493_7 (fun x2 h => ?_)
    refine q_goto (pc := 10) C 14 dJ0_coder_7d493_10 (by decide) ?_
    exact q_bret (pc := 14) C hr hlocks h dJ0_coder_7d493_14 (by omega) (by omega)
set_option maxRecDepth 100000 in
set_option maxHeartbeats 4000000 in
theorem kJ0_coder_7d493 (l : Launch) (G : mG) (b0 : Nat) {g : Nat → Nat} (hg : G.2.2 = g) {b : Nat} {M : mM} {κ : Int32 → mM → Prop} (h : wJ0_coder_7d493 g κ (some b) M) : Met l yJ0_coder_7d493 wsJ0_coder_7d493 ({ frames := 0, cells := 0, slots := 0, locals := 0 } : Room) (va_Pc [.ref b] (m_Pre G b0 M)) (va_Qi κ (m_B G b0) (fun q => b0 ≤ q)) 0 0 (fun q => b0 ≤ q) := by
  refine m_met (cc := cJ0_coder_7d493) (maxL := 1) (ret := (some .byte)) (lv := [(0, va_rf (some b))]) RJ0 rfl (by decide +kernel) rfl (by first | exact Nat.le_of_ble_eq_true rfl | simp [lg_sl, q_cat, q_catI, q_catJ, q_catR, q_catN]) (by first | rfl | (simp [lv_args, q_cat, q_catI, q_catJ, q_catR, q_catN]; done) | (simp [lv_args, q_cat, q_catI, q_catJ, q_catR, q_catN]; rfl)) ?_
  intro p e s m args below meth c C hr hlocks hni
  exact tJ0_coder_7d493 C hr hlocks hg h
/-! J0_length_8abf5 -/
set_option maxRecDepth 100000 in
set_option maxHeartbeats 4000000 in
theorem tJ0_length_8abf5 {p : Program} {l : Launch} {e : Env} {s : State} {m : MethodId} {args : Array Value} {below : List Frame} {meth : Method} {c : Code} {G : mG} {b0 : Nat} (C : m_C p s m args c cJ0_length_8abf5 1 RJ0 wsJ0_length_8abf5 G b0) (hr : meth.sig.returnType = (some .int)) (hlocks : meth.locks = false) {g : Nat → Nat} (hg : G.2.2 = g) {κ : Int32 → mM → Prop} {l0 : Option Nat} {M : mM} (h : wJ0_length_8abf5 g κ l0 M) : m_W p l e ({ frames := 1, cells := 0, slots := 0, locals := 20 } : Room) s m args below meth c G b0 (MQ below (va_Qi κ (m_B G b0) (fun q => b0 ≤ q)) args s 0 0 (fun q => b0 ≤ q)) 1 M 0 0 0 [(0, va_rf l0)] [] := by
  unfold wJ0_length_8abf5 at h
  refine q_aload_n (pc := 0) C 0 0 dJ0_length_8abf5_0 rfl rfl ?_
  refine q_gR (pc := 1) C h (T := TJ0) rfl (by decide) (by decide +kernel) (by decide +kernel) (fun _ h9 => h9) dJ0_length_8abf5_1 (fun x1 h => ?_)
  refine q_len (pc := 4) C h dJ0_length_8abf5_4 (fun x2 h => ?_)
  refine q_aload_n (pc := 5) C 0 0 dJ0_length_8abf5_5 rfl rfl ?_
  obtain ⟨b5, fs9, hb5, hm9, h⟩ := h
  refine q_ci (pc := 6) (q_rV C (st := [.int x2]) (b := b5) (kJ0_coder_7d493 l G b0 hg h) (cwV 0 C.2.2.2.2.1 gJ0_length_8abf5_J0_coder_7d493 rfl rfl rfl (by decide +kernel) ⟨Nat.le_of_ble_eq_true rfl, Nat.le_of_ble_eq_true rfl⟩) hm9 rfl rfl rfl (by first | exact Nat.le_of_ble_eq_true rfl | (simp [q_cat, q_catI, q_catJ, q_catR, q_catN]; done)) (by rw [hb5]; first | done | rfl) dJ0_length_8abf5_6 ⟨(by first | omega | (dsimp only; omega)), (by first | omega | (dsimp only; omega))⟩) (fun x3 M4 h => ?_)
  refine q_ishr (pc := 9) C dJ0_length_8abf5_9 ?_
  refine m_stk (st2 := .int (m_shr x2 x3) :: _) rfl ?_
  exact q_iret (pc := 10) C hr hlocks h dJ0_length_8abf5_10 (by omega) (by omega)
set_option maxRecDepth 100000 in
set_option maxHeartbeats 4000000 in
theorem kJ0_length_8abf5 (l : Launch) (G : mG) (b0 : Nat) {g : Nat → Nat} (hg : G.2.2 = g) {b : Nat} {M : mM} {κ : Int32 → mM → Prop} (h : wJ0_length_8abf5 g κ (some b) M) : Met l yJ0_length_8abf5 wsJ0_length_8abf5 ({ frames := 1, cells := 0, slots := 0, locals := 20 } : Room) (va_Pc [.ref b] (m_Pre G b0 M)) (va_Qi κ (m_B G b0) (fun q => b0 ≤ q)) 0 0 (fun q => b0 ≤ q) := by
  refine m_met (cc := cJ0_length_8abf5) (maxL := 1) (ret := (some .int)) (lv := [(0, va_rf (some b))]) RJ0 rfl (by decide +kernel) rfl (by first | exact Nat.le_of_ble_eq_true rfl | simp [lg_sl, q_cat, q_catI, q_catJ, q_catR, q_catN]) (by first | rfl | (simp [lv_args, q_cat, q_catI, q_catJ, q_catR, q_catN]; done) | (simp [lv_args, q_cat, q_catI, q_catJ, q_catR, q_catN]; rfl)) ?_
  intro p e s m args below meth c C hr hlocks hni
  exact tJ0_length_8abf5 C hr hlocks hg h
/-! J0_getBytes_840e7 -/
set_option maxRecDepth 100000 in
set_option maxHeartbeats 4000000 in
theorem tJ0_getBytes_840e7 {p : Program} {l : Launch} {e : Env} {s : State} {m : MethodId} {args : Array Value} {below : List Frame} {meth : Method} {c : Code} {G : mG} {b0 : Nat} (C : m_C p s m args c cJ0_getBytes_840e7 4 RJ0 wsJ0_getBytes_840e7 G b0) (hr : meth.sig.returnType = none) (hlocks : meth.locks = false) {g : Nat → Nat} (hg : G.2.2 = g) {κ : mM → Prop} {l0 : Option Nat} {l1 : Option Nat} {l2 : Int32} {l3 : Int32} {M : mM} (h : wJ0_getBytes_840e7 g κ l0 l1 l2 l3 M) : m_W p l e ({ frames := 1, cells := 0, slots := 0, locals := 40 } : Room) s m args below meth c G b0 (MQ below (va_Qv κ (m_B G b0) (fun q => b0 ≤ q)) args s 0 0 (fun q => b0 ≤ q)) 4 M 0 0 0 [(0, va_rf l0), (1, va_rf l1), (2, .int l2), (3, .int l3)] [] := by
  unfold wJ0_getBytes_840e7 at h
  refine q_aload_n (pc := 0) C 0 0 dJ0_getBytes_840e7_0 rfl rfl ?_
  obtain ⟨b3, fs9, hb3, hm9, h⟩ := h
  refine q_ci (pc := 1) (q_rV C (st := []) (b := b3) (kJ0_coder_7d493 l G b0 hg h) (cwV 0 C.2.2.2.2.1 gJ0_getBytes_840e7_J0_coder_7d493 rfl rfl rfl (by decide +kernel) ⟨Nat.le_of_ble_eq_true rfl, Nat.le_of_ble_eq_true rfl⟩) hm9 rfl rfl rfl (by first | exact Nat.le_of_ble_eq_true rfl | (simp [q_cat, q_catI, q_catJ, q_catR, q_catN]; done)) (by rw [hb3]; first | done | rfl) dJ0_getBytes_840e7_1 ⟨(by first | omega | (dsimp only; omega)), (by first | omega | (dsimp only; omega))⟩) (fun x1 M2 h => ?_)
  refine q_iload_n (pc := 4) C 3 3 dJ0_getBytes_840e7_4 rfl rfl ?_
  refine q_icmp_ne (pc := 5) C 28 dJ0_getBytes_840e7_5 (by decide) (fun c4 => ?_) (fun c4 => ?_)
  · have h := h.2 c4
    refine q_aload_n (pc := 28) C 0 0 dJ0_getBytes_840e7_28 rfl rfl ?_
    refine q_gR (pc := 29) C h (T := TJ0) rfl (by decide) (by decide +kernel) (by decide +kernel) (fun _ h9 => h9) dJ0_getBytes_840e7_29 (fun x5 h => ?_)
    refine q_iconst (pc := 32) C 0 dJ0_getBytes_840e7_32 (by decide) ?_
    refine q_aload_n (pc := 33) C 1 1 dJ0_getBytes_840e7_33 rfl rfl ?_
    refine q_iload_n (pc := 34) C 2 2 dJ0_getBytes_840e7_34 rfl rfl ?_
    refine q_aload_n (pc := 35) C 0 0 dJ0_getBytes_840e7_35 rfl rfl ?_
    refine q_gR (pc := 36) C h (T := TJ0) rfl (by decide) (by decide +kernel) (by decide +kernel) (fun _ h9 => h9) dJ0_getBytes_840e7_36 (fun x6 h => ?_)
    refine q_len (pc := 39) C h dJ0_getBytes_840e7_39 (fun x7 h => ?_)
    exact h.elim
  · have h := h.1 c4
    refine q_aload_n (pc := 8) C 0 0 dJ0_getBytes_840e7_8 rfl rfl ?_
    refine q_gR (pc := 9) C h (T := TJ0) rfl (by decide) (by decide +kernel) (by decide +kernel) (fun _ h9 => h9) dJ0_getBytes_840e7_9 (fun x8 h => ?_)
    refine q_iconst (pc := 12) C 0 dJ0_getBytes_840e7_12 (by decide) ?_
    refine q_aload_n (pc := 13) C 1 1 dJ0_getBytes_840e7_13 rfl rfl ?_
    refine q_iload_n (pc := 14) C 2 2 dJ0_getBytes_840e7_14 rfl rfl ?_
    refine q_iload_n (pc := 15) C 3 3 dJ0_getBytes_840e7_15 rfl rfl ?_
    refine q_ishl (pc := 16) C dJ0_getBytes_840e7_16 ?_
    refine m_stk (st2 := .int (m_shl l2 l3) :: _) rfl ?_
    refine q_aload_n (pc := 17) C 0 0 dJ0_getBytes_840e7_17 rfl rfl ?_
    refine q_gR (pc := 18) C h (T := TJ0) rfl (by decide) (by decide +kernel) (by decide +kernel) (fun _ h9 => h9) dJ0_getBytes_840e7_18 (fun x9 h => ?_)
    refine q_len (pc := 21) C h dJ0_getBytes_840e7_21 (fun x10 h => ?_)
    refine q_copyB (pc := 22) C h (by decide +kernel) (by decide +kernel) (by decide +kernel) (by decide +kernel) (Nat.le_of_ble_eq_true rfl) (by first | exact Nat.le_of_ble_eq_true rfl | (simp [q_cat, q_catI, q_catJ, q_catR, q_catN]; done) | (simp [q_cat, q_catI, q_catJ, q_catR, q_catN]; decide)) dJ0_getBytes_840e7_22 (fun M11 h => ?_)
    refine q_goto (pc := 25) C 43 dJ0_getBytes_840e7_25 (by decide) ?_
    exact q_vret (pc := 43) C hr hlocks h dJ0_getBytes_840e7_43 (by omega) (by omega)
set_option maxRecDepth 100000 in
set_option maxHeartbeats 4000000 in
theorem kJ0_getBytes_840e7 (l : Launch) (G : mG) (b0 : Nat) {g : Nat → Nat} (hg : G.2.2 = g) {b : Nat} {l1 : Option Nat} {l2 : Int32} {l3 : Int32} {M : mM} {κ : mM → Prop} (h : wJ0_getBytes_840e7 g κ (some b) l1 l2 l3 M) : Met l yJ0_getBytes_840e7 wsJ0_getBytes_840e7 ({ frames := 1, cells := 0, slots := 0, locals := 40 } : Room) (va_Pc [.ref b, va_rf l1, .int l2, .int l3] (m_Pre G b0 M)) (va_Qv κ (m_B G b0) (fun q => b0 ≤ q)) 0 0 (fun q => b0 ≤ q) := by
  refine m_met (cc := cJ0_getBytes_840e7) (maxL := 4) (ret := none) (lv := [(0, va_rf (some b)), (1, va_rf l1), (2, .int l2), (3, .int l3)]) RJ0 rfl (by decide +kernel) rfl (by first | exact Nat.le_of_ble_eq_true rfl | simp [lg_sl, q_cat, q_catI, q_catJ, q_catR, q_catN]) (by first | rfl | (simp [lv_args, q_cat, q_catI, q_catJ, q_catR, q_catN]; done) | (simp [lv_args, q_cat, q_catI, q_catJ, q_catR, q_catN]; rfl)) ?_
  intro p e s m args below meth c C hr hlocks hni
  exact tJ0_getBytes_840e7 C hr hlocks hg h
/-! J7_checkLength_df160 -/
set_option maxRecDepth 100000 in
set_option maxHeartbeats 4000000 in
theorem tJ7_checkLength_df160 {p : Program} {l : Launch} {e : Env} {s : State} {m : MethodId} {args : Array Value} {below : List Frame} {meth : Method} {c : Code} {G : mG} {b0 : Nat} (C : m_C p s m args c cJ7_checkLength_df160 2 RJ7 wsJ7_checkLength_df160 G b0) (hr : meth.sig.returnType = none) (hlocks : meth.locks = false) {κ : mM → Prop} {l0 : Int32} {l1 : Int32} {M : mM} (h : wJ7_checkLength_df160 κ l0 l1 M) : m_W p l e ({ frames := 0, cells := 0, slots := 0, locals := 0 } : Room) s m args below meth c G b0 (MQ below (va_Qv κ (m_B G b0) (fun q => b0 ≤ q)) args s 0 0 (fun q => b0 ≤ q)) 2 M 0 0 0 [(0, .int l0), (1, .int l1)] [] := by
  unfold wJ7_checkLength_df160 at h
  refine q_iload_n (pc := 0) C 1 1 dJ7_checkLength_df160_0 rfl rfl ?_
  refine q_iload_n (pc := 1) C 0 0 dJ7_checkLength_df160_1 rfl rfl ?_
  refine q_icmp_ge (pc := 2) C 37 dJ7_checkLength_df160_2 (by decide) (fun c1 => ?_) (fun c1 => ?_)
  · have h := h.1 c1
    exact q_vret (pc := 37) C hr hlocks h dJ7_checkLength_df160_37 (by omega) (by omega)
  · have h := h.2 c1
    exact h.elim
set_option maxRecDepth 100000 in
set_option maxHeartbeats 4000000 in
theorem kJ7_checkLength_df160 (l : Launch) (G : mG) (b0 : Nat) {l0 : Int32} {l1 : Int32} {M : mM} {κ : mM → Prop} (h : wJ7_checkLength_df160 κ l0 l1 M) : Met l yJ7_checkLength_df160 wsJ7_checkLength_df160 ({ frames := 0, cells := 0, slots := 0, locals := 0 } : Room) (va_Pc [.int l0, .int l1] (m_Pre G b0 M)) (va_Qv κ (m_B G b0) (fun q => b0 ≤ q)) 0 0 (fun q => b0 ≤ q) := by
  refine m_met (cc := cJ7_checkLength_df160) (maxL := 2) (ret := none) (lv := [(0, .int l0), (1, .int l1)]) RJ7 rfl (by decide +kernel) rfl (by first | exact Nat.le_of_ble_eq_true rfl | simp [lg_sl, q_cat, q_catI, q_catJ, q_catR, q_catN]) (by first | rfl | (simp [lv_args, q_cat, q_catI, q_catJ, q_catR, q_catN]; done) | (simp [lv_args, q_cat, q_catI, q_catJ, q_catR, q_catN]; rfl)) ?_
  intro p e s m args below meth c C hr hlocks hni
  exact tJ7_checkLength_df160 C hr hlocks h
/-! J7_copyOf_9075b -/
set_option maxRecDepth 100000 in
set_option maxHeartbeats 4000000 in
theorem tJ7_copyOf_9075b {p : Program} {l : Launch} {e : Env} {s : State} {m : MethodId} {args : Array Value} {below : List Frame} {meth : Method} {c : Code} {G : mG} {b0 : Nat} (C : m_C p s m args c cJ7_copyOf_9075b 3 RJ7 wsJ7_copyOf_9075b G b0) (hr : meth.sig.returnType = (some (.array .byte))) (hlocks : meth.locks = false) {K B : Nat} {κ : Option Nat → mM → Prop} {l0 : Option Nat} {l1 : Int32} {M : mM} (h : wJ7_copyOf_9075b K B κ l0 l1 M) : m_W p l e ({ frames := 1, cells := K, slots := B, locals := 40 } : Room) s m args below meth c G b0 (MQ below (va_Qq κ (m_B G b0) (fun q => b0 ≤ q)) args s K B (fun q => b0 ≤ q)) 3 M 0 0 0 [(0, va_rf l0), (1, .int l1)] [] := by
  unfold wJ7_copyOf_9075b at h
  refine q_iload_n (pc := 0) C 1 1 dJ7_copyOf_9075b_0 rfl rfl ?_
  refine q_aload_n (pc := 1) C 0 0 dJ7_copyOf_9075b_1 rfl rfl ?_
  refine q_len (pc := 2) C h dJ7_copyOf_9075b_2 (fun x1 h => ?_)
  refine q_icmp_ne (pc := 3) C 14 dJ7_copyOf_9075b_3 (by decide) (fun c2 => ?_) (fun c2 => ?_)
  · have h := h.2 c2
    refine q_iload_n (pc := 14) C 1 1 dJ7_copyOf_9075b_14 rfl rfl ?_
    obtain ⟨B5, hB1, h⟩ := h
    obtain ⟨hbk, h⟩ := h
    refine q_newI (pc := 15) C h (ty := .byte) rfl (ak := 6) rfl (by decide) hB1 rfl (by decide) (fun _ => m_raB) (by decide +kernel) (by first | omega | (dsimp only; omega)) (by first | omega | (dsimp only; omega)) dJ7_copyOf_9075b_15 (fun q3 M4 h => ?_)
    refine q_astore_n (pc := 17) C 2 [(2, va_rf (some q3)), (0, va_rf l0), (1, .int l1)] dJ7_copyOf_9075b_17 rfl (by decide) (by first | rfl | simp [q_cat, q_catI, q_catJ, q_catR, q_catN]) ?_
    refine q_aload_n (pc := 18) C 0 1 dJ7_copyOf_9075b_18 rfl rfl ?_
    refine q_iconst (pc := 19) C 0 dJ7_copyOf_9075b_19 (by decide) ?_
    refine q_aload_n (pc := 20) C 2 0 dJ7_copyOf_9075b_20 rfl rfl ?_
    refine q_iconst (pc := 21) C 0 dJ7_copyOf_9075b_21 (by decide) ?_
    refine q_aload_n (pc := 22) C 0 1 dJ7_copyOf_9075b_22 rfl rfl ?_
    refine q_len (pc := 23) C h dJ7_copyOf_9075b_23 (fun x6 h => ?_)
    refine q_iload_n (pc := 24) C 1 2 dJ7_copyOf_9075b_24 rfl rfl ?_
    refine q_mmin (pc := 25) C (by decide +kernel) (by decide +kernel) (by decide +kernel) (by decide +kernel) (Nat.le_of_ble_eq_true rfl) (by first | exact Nat.le_of_ble_eq_true rfl | (simp [q_cat, q_catI, q_catJ, q_catR, q_catN]; done) | (simp [q_cat, q_catI, q_catJ, q_catR, q_catN]; decide)) (by first | omega | (dsimp only; omega)) (by first | omega | (dsimp only; omega)) dJ7_copyOf_9075b_25 ?_
    refine m_stk (st2 := .int (m_min x6 l1) :: _) rfl ?_
    refine q_copyB (pc := 28) C h (by decide +kernel) (by decide +kernel) (by decide +kernel) (by decide +kernel) (Nat.le_of_ble_eq_true rfl) (by first | exact Nat.le_of_ble_eq_true rfl | (simp [q_cat, q_catI, q_catJ, q_catR, q_catN]; done) | (simp [q_cat, q_catI, q_catJ, q_catR, q_catN]; decide)) dJ7_copyOf_9075b_28 (fun M7 h => ?_)
    refine q_aload_n (pc := 31) C 2 0 dJ7_copyOf_9075b_31 rfl rfl ?_
    obtain ⟨hbk, h⟩ := h
    exact q_aret (pc := 32) C hr (by first | exact Or.inl ⟨_, rfl⟩ | exact Or.inr ⟨_, rfl⟩) hlocks h dJ7_copyOf_9075b_32 (by omega) (by omega)
  · have h := h.1 c2
    refine q_aload_n (pc := 6) C 0 0 dJ7_copyOf_9075b_6 rfl rfl ?_
    obtain ⟨B10, h⟩ := h
    obtain ⟨hbk, h⟩ := h
    refine q_cloneB (pc := 7) C h (by decide +kernel) (by decide +kernel) (by decide +kernel) (by decide +kernel) (by decide +kernel) 946 (by decide +kernel) (Nat.le_of_ble_eq_true rfl) (by first | exact Nat.le_of_ble_eq_true rfl | (simp [q_cat, q_catI, q_catJ, q_catR, q_catN]; done) | (simp [q_cat, q_catI, q_catJ, q_catR, q_catN]; decide)) (by first | omega | (dsimp only; omega)) (by first | omega | (dsimp only; omega)) dJ7_copyOf_9075b_7 (fun q8 M9 h => ?_)
    refine q_castB (pc := 10) C h (by decide +kernel) dJ7_copyOf_9075b_10 (fun h => ?_)
    obtain ⟨hbk, h⟩ := h
    exact q_aret (pc := 13) C hr (by first | exact Or.inl ⟨_, rfl⟩ | exact Or.inr ⟨_, rfl⟩) hlocks h dJ7_copyOf_9075b_13 (by omega) (by omega)
set_option maxRecDepth 100000 in
set_option maxHeartbeats 4000000 in
theorem kJ7_copyOf_9075b (l : Launch) (G : mG) (b0 : Nat) {K B : Nat} {l0 : Option Nat} {l1 : Int32} {M : mM} {κ : Option Nat → mM → Prop} (h : wJ7_copyOf_9075b K B κ l0 l1 M) : Met l yJ7_copyOf_9075b wsJ7_copyOf_9075b ({ frames := 1, cells := K, slots := B, locals := 40 } : Room) (va_Pc [va_rf l0, .int l1] (m_Pre G b0 M)) (va_Qq κ (m_B G b0) (fun q => b0 ≤ q)) K B (fun q => b0 ≤ q) := by
  refine m_met (cc := cJ7_copyOf_9075b) (maxL := 3) (ret := (some (.array .byte))) (lv := [(0, va_rf l0), (1, .int l1)]) RJ7 rfl (by decide +kernel) rfl (by first | exact Nat.le_of_ble_eq_true rfl | simp [lg_sl, q_cat, q_catI, q_catJ, q_catR, q_catN]) (by first | rfl | (simp [lv_args, q_cat, q_catI, q_catJ, q_catR, q_catN]; done) | (simp [lv_args, q_cat, q_catI, q_catJ, q_catR, q_catN]; rfl)) ?_
  intro p e s m args below meth c C hr hlocks hni
  exact tJ7_copyOf_9075b C hr hlocks h
/-! J7_copyOfRangeByte_39247 -/
set_option maxRecDepth 100000 in
set_option maxHeartbeats 4000000 in
theorem tJ7_copyOfRangeByte_39247 {p : Program} {l : Launch} {e : Env} {s : State} {m : MethodId} {args : Array Value} {below : List Frame} {meth : Method} {c : Code} {G : mG} {b0 : Nat} (C : m_C p s m args c cJ7_copyOfRangeByte_39247 5 RJ7 wsJ7_copyOfRangeByte_39247 G b0) (hr : meth.sig.returnType = (some (.array .byte))) (hlocks : meth.locks = false) {K B : Nat} {κ : Option Nat → mM → Prop} {l0 : Option Nat} {l1 : Int32} {l2 : Int32} {M : mM} (h : wJ7_copyOfRangeByte_39247 K B κ l0 l1 l2 M) : m_W p l e ({ frames := 1, cells := K, slots := B, locals := 40 } : Room) s m args below meth c G b0 (MQ below (va_Qq κ (m_B G b0) (fun q => b0 ≤ q)) args s K B (fun q => b0 ≤ q)) 5 M 0 0 0 [(0, va_rf l0), (1, .int l1), (2, .int l2)] [] := by
  unfold wJ7_copyOfRangeByte_39247 at h
  refine q_iload_n (pc := 0) C 1 1 dJ7_copyOfRangeByte_39247_0 rfl rfl ?_
  refine q_iload_n (pc := 1) C 2 2 dJ7_copyOfRangeByte_39247_1 rfl rfl ?_
  refine q_cv (pc := 2) (q_rS C (st := []) (kJ7_checkLength_df160 l G b0 h) (va_cwS 2 C.2.2.2.2.1 gJ7_copyOfRangeByte_39247_J7_checkLength_df160 rfl rfl rfl (by decide +kernel) ⟨Nat.le_of_ble_eq_true rfl, Nat.le_of_ble_eq_true rfl⟩) rfl (by first | exact Nat.le_of_ble_eq_true rfl | (simp [q_cat, q_catI, q_catJ, q_catR, q_catN]; done)) rfl dJ7_copyOfRangeByte_39247_2 ⟨(by first | omega | (dsimp only; omega)), (by first | omega | (dsimp only; omega))⟩) (fun M1 h => ?_)
  refine q_iload_n (pc := 5) C 2 2 dJ7_copyOfRangeByte_39247_5 rfl rfl ?_
  refine q_iload_n (pc := 6) C 1 1 dJ7_copyOfRangeByte_39247_6 rfl rfl ?_
  refine q_isub (pc := 7) C dJ7_copyOfRangeByte_39247_7 ?_
  refine q_istore_n (pc := 8) C 3 [(3, .int (l2 - l1)), (0, va_rf l0), (1, .int l1), (2, .int l2)] dJ7_copyOfRangeByte_39247_8 rfl (by decide) (by first | rfl | simp [q_cat, q_catI, q_catJ, q_catR, q_catN]) ?_
  refine q_iload_n (pc := 9) C 3 0 dJ7_copyOfRangeByte_39247_9 rfl rfl ?_
  obtain ⟨B4, hB1, h⟩ := h
  obtain ⟨hbk, h⟩ := h
  refine q_newI (pc := 10) C h (ty := .byte) rfl (ak := 6) rfl (by decide) hB1 rfl (by decide) (fun _ => m_raB) (by decide +kernel) (by first | omega | (dsimp only; omega)) (by first | omega | (dsimp only; omega)) dJ7_copyOfRangeByte_39247_10 (fun q2 M3 h => ?_)
  refine q_astore (pc := 12) C 4 [(4, va_rf (some q2)), (3, .int (l2 - l1)), (0, va_rf l0), (1, .int l1), (2, .int l2)] dJ7_copyOfRangeByte_39247_12 (by decide) (by first | rfl | simp [q_cat, q_catI, q_catJ, q_catR, q_catN]) ?_
  refine q_aload_n (pc := 14) C 0 2 dJ7_copyOfRangeByte_39247_14 rfl rfl ?_
  refine q_iload_n (pc := 15) C 1 3 dJ7_copyOfRangeByte_39247_15 rfl rfl ?_
  refine q_aload (pc := 16) C 4 0 dJ7_copyOfRangeByte_39247_16 rfl ?_
  refine q_iconst (pc := 18) C 0 dJ7_copyOfRangeByte_39247_18 (by decide) ?_
  refine q_aload_n (pc := 19) C 0 2 dJ7_copyOfRangeByte_39247_19 rfl rfl ?_
  refine q_len (pc := 20) C h dJ7_copyOfRangeByte_39247_20 (fun x5 h => ?_)
  refine q_iload_n (pc := 21) C 1 3 dJ7_copyOfRangeByte_39247_21 rfl rfl ?_
  refine q_isub (pc := 22) C dJ7_copyOfRangeByte_39247_22 ?_
  refine q_iload_n (pc := 23) C 3 1 dJ7_copyOfRangeByte_39247_23 rfl rfl ?_
  refine q_mmin (pc := 24) C (by decide +kernel) (by decide +kernel) (by decide +kernel) (by decide +kernel) (Nat.le_of_ble_eq_true rfl) (by first | exact Nat.le_of_ble_eq_true rfl | (simp [q_cat, q_catI, q_catJ, q_catR, q_catN]; done) | (simp [q_cat, q_catI, q_catJ, q_catR, q_catN]; decide)) (by first | omega | (dsimp only; omega)) (by first | omega | (dsimp only; omega)) dJ7_copyOfRangeByte_39247_24 ?_
  refine m_stk (st2 := .int (m_min (x5 - l1) (l2 - l1)) :: _) rfl ?_
  refine q_copyB (pc := 27) C h (by decide +kernel) (by decide +kernel) (by decide +kernel) (by decide +kernel) (Nat.le_of_ble_eq_true rfl) (by first | exact Nat.le_of_ble_eq_true rfl | (simp [q_cat, q_catI, q_catJ, q_catR, q_catN]; done) | (simp [q_cat, q_catI, q_catJ, q_catR, q_catN]; decide)) dJ7_copyOfRangeByte_39247_27 (fun M6 h => ?_)
  refine q_aload (pc := 30) C 4 0 dJ7_copyOfRangeByte_39247_30 rfl ?_
  obtain ⟨hbk, h⟩ := h
  exact q_aret (pc := 32) C hr (by first | exact Or.inl ⟨_, rfl⟩ | exact Or.inr ⟨_, rfl⟩) hlocks h dJ7_copyOfRangeByte_39247_32 (by omega) (by omega)
set_option maxRecDepth 100000 in
set_option maxHeartbeats 4000000 in
theorem kJ7_copyOfRangeByte_39247 (l : Launch) (G : mG) (b0 : Nat) {K B : Nat} {l0 : Option Nat} {l1 : Int32} {l2 : Int32} {M : mM} {κ : Option Nat → mM → Prop} (h : wJ7_copyOfRangeByte_39247 K B κ l0 l1 l2 M) : Met l yJ7_copyOfRangeByte_39247 wsJ7_copyOfRangeByte_39247 ({ frames := 1, cells := K, slots := B, locals := 40 } : Room) (va_Pc [va_rf l0, .int l1, .int l2] (m_Pre G b0 M)) (va_Qq κ (m_B G b0) (fun q => b0 ≤ q)) K B (fun q => b0 ≤ q) := by
  refine m_met (cc := cJ7_copyOfRangeByte_39247) (maxL := 5) (ret := (some (.array .byte))) (lv := [(0, va_rf l0), (1, .int l1), (2, .int l2)]) RJ7 rfl (by decide +kernel) rfl (by first | exact Nat.le_of_ble_eq_true rfl | simp [lg_sl, q_cat, q_catI, q_catJ, q_catR, q_catN]) (by first | rfl | (simp [lv_args, q_cat, q_catI, q_catJ, q_catR, q_catN]; done) | (simp [lv_args, q_cat, q_catI, q_catJ, q_catR, q_catN]; rfl)) ?_
  intro p e s m args below meth c C hr hlocks hni
  exact tJ7_copyOfRangeByte_39247 C hr hlocks h
/-! J7_copyOfRange_39247 -/
set_option maxRecDepth 100000 in
set_option maxHeartbeats 4000000 in
theorem tJ7_copyOfRange_39247_10 {p : Program} {l : Launch} {e : Env} {s : State} {m : MethodId} {args : Array Value} {below : List Frame} {meth : Method} {c : Code} {G : mG} {b0 : Nat} (C : m_C p s m args c cJ7_copyOfRange_39247 3 RJ7 wsJ7_copyOfRange_39247 G b0) (hr : meth.sig.returnType = (some (.array .byte))) (hlocks : meth.locks = false) {K B : Nat} {κ : Option Nat → mM → Prop} {k9 n9 : Nat} {l0 : Option Nat} {l1 : Int32} {l2 : Int32} {M : mM} (h : wJ7_copyOfRange_39247_10 K B κ k9 n9 l0 l1 l2 M) : m_W p l e ({ frames := 2, cells := K, slots := B, locals := 64 } : Room) s m args below meth c G b0 (MQ below (va_Qq κ (m_B G b0) (fun q => b0 ≤ q)) args s K B (fun q => b0 ≤ q)) 3 M k9 n9 10 [(0, va_rf l0), (1, .int l1), (2, .int l2)] [] := by
  unfold wJ7_copyOfRange_39247_10 at h
  obtain ⟨hbk, h⟩ := h
  refine q_aload_n (pc := 10) C 0 0 dJ7_copyOfRange_39247_10 rfl rfl ?_
  refine q_iload_n (pc := 11) C 1 1 dJ7_copyOfRange_39247_11 rfl rfl ?_
  refine q_iload_n (pc := 12) C 2 2 dJ7_copyOfRange_39247_12 rfl rfl ?_
  obtain ⟨K1, B2, h⟩ := h
  obtain ⟨hbk, h⟩ := h
  refine q_cq (pc := 13) (q_rS C (st := []) (kJ7_copyOfRangeByte_39247 l G b0 h) (va_cwS 3 C.2.2.2.2.1 gJ7_copyOfRange_39247_J7_copyOfRangeByte_39247 rfl rfl rfl (by decide +kernel) ⟨Nat.le_of_ble_eq_true rfl, Nat.le_of_ble_eq_true rfl⟩) rfl (by first | exact Nat.le_of_ble_eq_true rfl | (simp [q_cat, q_catI, q_catJ, q_catR, q_catN]; done)) rfl dJ7_copyOfRange_39247_13 ⟨(by first | omega | (dsimp only; omega)), (by first | omega | (dsimp only; omega))⟩) (fun x3 M4 h => ?_)
  obtain ⟨hbk, h⟩ := h
  exact q_aret (pc := 16) C hr (by first | exact Or.inl ⟨_, rfl⟩ | exact Or.inr ⟨_, rfl⟩) hlocks h dJ7_copyOfRange_39247_16 (by omega) (by omega)
set_option maxRecDepth 100000 in
set_option maxHeartbeats 4000000 in
theorem tJ7_copyOfRange_39247 {p : Program} {l : Launch} {e : Env} {s : State} {m : MethodId} {args : Array Value} {below : List Frame} {meth : Method} {c : Code} {G : mG} {b0 : Nat} (C : m_C p s m args c cJ7_copyOfRange_39247 3 RJ7 wsJ7_copyOfRange_39247 G b0) (hr : meth.sig.returnType = (some (.array .byte))) (hlocks : meth.locks = false) {K B : Nat} {κ : Option Nat → mM → Prop} {l0 : Option Nat} {l1 : Int32} {l2 : Int32} {M : mM} (h : wJ7_copyOfRange_39247 K B κ l0 l1 l2 M) : m_W p l e ({ frames := 2, cells := K, slots := B, locals := 64 } : Room) s m args below meth c G b0 (MQ below (va_Qq κ (m_B G b0) (fun q => b0 ≤ q)) args s K B (fun q => b0 ≤ q)) 3 M 0 0 0 [(0, va_rf l0), (1, .int l1), (2, .int l2)] [] := by
  unfold wJ7_copyOfRange_39247 at h
  refine q_iload_n (pc := 0) C 1 1 dJ7_copyOfRange_39247_0 rfl rfl ?_
  refine q_if_ne (pc := 1) C 10 dJ7_copyOfRange_39247_1 (by decide) (fun c1 => ?_) (fun c1 => ?_)
  · have h := h.2 c1
    refine q_lv [0, 1, 2] rfl ?_
    exact tJ7_copyOfRange_39247_10 C hr hlocks h
  · have h := h.1 c1
    refine q_iload_n (pc := 4) C 2 2 dJ7_copyOfRange_39247_4 rfl rfl ?_
    refine q_aload_n (pc := 5) C 0 0 dJ7_copyOfRange_39247_5 rfl rfl ?_
    refine q_len (pc := 6) C h dJ7_copyOfRange_39247_6 (fun x2 h => ?_)
    refine q_icmp_eq (pc := 7) C 17 dJ7_copyOfRange_39247_7 (by decide) (fun c3 => ?_) (fun c3 => ?_)
    · have h := h.1 c3
      refine q_aload_n (pc := 17) C 0 0 dJ7_copyOfRange_39247_17 rfl rfl ?_
      obtain ⟨B6, h⟩ := h
      obtain ⟨hbk, h⟩ := h
      refine q_cloneB (pc := 18) C h (by decide +kernel) (by decide +kernel) (by decide +kernel) (by decide +kernel) (by decide +kernel) 946 (by decide +kernel) (Nat.le_of_ble_eq_true rfl) (by first | exact Nat.le_of_ble_eq_true rfl | (simp [q_cat, q_catI, q_catJ, q_catR, q_catN]; done) | (simp [q_cat, q_catI, q_catJ, q_catR, q_catN]; decide)) (by first | omega | (dsimp only; omega)) (by first | omega | (dsimp only; omega)) dJ7_copyOfRange_39247_18 (fun q4 M5 h => ?_)
      refine q_castB (pc := 21) C h (by decide +kernel) dJ7_copyOfRange_39247_21 (fun h => ?_)
      obtain ⟨hbk, h⟩ := h
      exact q_aret (pc := 24) C hr (by first | exact Or.inl ⟨_, rfl⟩ | exact Or.inr ⟨_, rfl⟩) hlocks h dJ7_copyOfRange_39247_24 (by omega) (by omega)
    · have h := h.2 c3
      refine q_lv [0, 1, 2] rfl ?_
      exact tJ7_copyOfRange_39247_10 C hr hlocks h
set_option maxRecDepth 100000 in
set_option maxHeartbeats 4000000 in
theorem kJ7_copyOfRange_39247 (l : Launch) (G : mG) (b0 : Nat) {K B : Nat} {l0 : Option Nat} {l1 : Int32} {l2 : Int32} {M : mM} {κ : Option Nat → mM → Prop} (h : wJ7_copyOfRange_39247 K B κ l0 l1 l2 M) : Met l yJ7_copyOfRange_39247 wsJ7_copyOfRange_39247 ({ frames := 2, cells := K, slots := B, locals := 64 } : Room) (va_Pc [va_rf l0, .int l1, .int l2] (m_Pre G b0 M)) (va_Qq κ (m_B G b0) (fun q => b0 ≤ q)) K B (fun q => b0 ≤ q) := by
  refine m_met (cc := cJ7_copyOfRange_39247) (maxL := 3) (ret := (some (.array .byte))) (lv := [(0, va_rf l0), (1, .int l1), (2, .int l2)]) RJ7 rfl (by decide +kernel) rfl (by first | exact Nat.le_of_ble_eq_true rfl | simp [lg_sl, q_cat, q_catI, q_catJ, q_catR, q_catN]) (by first | rfl | (simp [lv_args, q_cat, q_catI, q_catJ, q_catR, q_catN]; done) | (simp [lv_args, q_cat, q_catI, q_catJ, q_catR, q_catN]; rfl)) ?_
  intro p e s m args below meth c C hr hlocks hni
  exact tJ7_copyOfRange_39247 C hr hlocks h
/-! J6_stringSize_0f7a4 -/
set_option maxRecDepth 100000 in
set_option maxHeartbeats 4000000 in
theorem tJ6_stringSize_0f7a4_16 {p : Program} {l : Launch} {e : Env} {s : State} {m : MethodId} {args : Array Value} {below : List Frame} {meth : Method} {c : Code} {G : mG} {b0 : Nat} (C : m_C p s m args c cJ6_stringSize_0f7a4 4 RJ6 wsJ6_stringSize_0f7a4 G b0) (hr : meth.sig.returnType = (some .int)) (hlocks : meth.locks = false) {κ : Int32 → mM → Prop} : ∀ (f : Nat) (l0 : Int32) (l1 : Int32) (l2 : Int32) (l3 : Int32) (M : mM), wJ6_stringSize_0f7a4_16 κ f l0 l1 l2 l3 M → m_W p l e ({ frames := 0, cells := 0, slots := 0, locals := 0 } : Room) s m args below meth c G b0 (MQ below (va_Qi κ (m_B G b0) (fun q => b0 ≤ q)) args s 0 0 (fun q => b0 ≤ q)) 4 M 0 0 16 [(0, .int l0), (1, .int l1), (2, .int l2), (3, .int l3)] [] := by
  intro f
  induction f with
  | zero =>
    intro l0 l1 l2 l3 M h
    exact absurd h (by simp [wJ6_stringSize_0f7a4_16])
  | succ f ih =>
    intro l0 l1 l2 l3 M h
    rw [wJ6_stringSize_0f7a4_16] at h
    refine q_iload_n (pc := 16) C 3 3 dJ6_stringSize_0f7a4_16 rfl rfl ?_
    refine q_bipush (pc := 17) C 10 dJ6_stringSize_0f7a4_17 (by decide) ?_
    refine q_icmp_ge (pc := 19) C 42 dJ6_stringSize_0f7a4_19 (by decide) (fun c1 => ?_) (fun c1 => ?_)
    · have h := h.1 c1
      refine q_bipush (pc := 42) C 10 dJ6_stringSize_0f7a4_42 (by decide) ?_
      refine q_iload_n (pc := 44) C 1 1 dJ6_stringSize_0f7a4_44 rfl rfl ?_
      refine q_iadd (pc := 45) C dJ6_stringSize_0f7a4_45 ?_
      exact q_iret (pc := 46) C hr hlocks h dJ6_stringSize_0f7a4_46 (by omega) (by omega)
    · have h := h.2 c1
      refine q_iload_n (pc := 22) C 0 0 dJ6_stringSize_0f7a4_22 rfl rfl ?_
      refine q_iload_n (pc := 23) C 2 2 dJ6_stringSize_0f7a4_23 rfl rfl ?_
      refine q_icmp_le (pc := 24) C 31 dJ6_stringSize_0f7a4_24 (by decide) (fun c2 => ?_) (fun c2 => ?_)
      · have h := h.1 c2
        refine q_bipush (pc := 31) C 10 dJ6_stringSize_0f7a4_31 (by decide) ?_
        refine q_iload_n (pc := 33) C 2 2 dJ6_stringSize_0f7a4_33 rfl rfl ?_
        refine q_imul (pc := 34) C dJ6_stringSize_0f7a4_34 ?_
        refine q_istore_n (pc := 35) C 2 [(2, .int (10 * l2)), (0, .int l0), (1, .int l1), (3, .int l3)] dJ6_stringSize_0f7a4_35 rfl (by decide) (by first | rfl | simp [q_cat, q_catI, q_catJ, q_catR, q_catN]) ?_
        refine q_iinc (pc := 36) C 3 3 (l3 + 1) [(3, .int (l3 + 1)), (2, .int (10 * l2)), (0, .int l0), (1, .int l1)] dJ6_stringSize_0f7a4_36 rfl (by rfl) (by decide) (by first | rfl | simp [q_cat, q_catI, q_catJ, q_catR, q_catN]) ?_
        refine q_goto (pc := 39) C 16 dJ6_stringSize_0f7a4_39 (by decide) ?_
        refine q_widen (k2 := 0) (n2 := 0) (by omega) (by omega) ?_
        refine q_lv [2, 3, 1, 0] rfl ?_
        exact ih _ _ _ _ _ h
      · have h := h.2 c2
        refine q_iload_n (pc := 27) C 3 3 dJ6_stringSize_0f7a4_27 rfl rfl ?_
        refine q_iload_n (pc := 28) C 1 1 dJ6_stringSize_0f7a4_28 rfl rfl ?_
        refine q_iadd (pc := 29) C dJ6_stringSize_0f7a4_29 ?_
        exact q_iret (pc := 30) C hr hlocks h dJ6_stringSize_0f7a4_30 (by omega) (by omega)
set_option maxRecDepth 100000 in
set_option maxHeartbeats 4000000 in
theorem tJ6_stringSize_0f7a4_11 {p : Program} {l : Launch} {e : Env} {s : State} {m : MethodId} {args : Array Value} {below : List Frame} {meth : Method} {c : Code} {G : mG} {b0 : Nat} (C : m_C p s m args c cJ6_stringSize_0f7a4 4 RJ6 wsJ6_stringSize_0f7a4 G b0) (hr : meth.sig.returnType = (some .int)) (hlocks : meth.locks = false) {κ : Int32 → mM → Prop} {l0 : Int32} {l1 : Int32} {M : mM} (h : wJ6_stringSize_0f7a4_11 κ l0 l1 M) : m_W p l e ({ frames := 0, cells := 0, slots := 0, locals := 0 } : Room) s m args below meth c G b0 (MQ below (va_Qi κ (m_B G b0) (fun q => b0 ≤ q)) args s 0 0 (fun q => b0 ≤ q)) 4 M 0 0 11 [(0, .int l0), (1, .int l1)] [] := by
  unfold wJ6_stringSize_0f7a4_11 at h
  refine q_bipush (pc := 11) C (-10) dJ6_stringSize_0f7a4_11 (by decide) ?_
  refine q_istore_n (pc := 13) C 2 [(2, .int (-10)), (0, .int l0), (1, .int l1)] dJ6_stringSize_0f7a4_13 rfl (by decide) (by first | rfl | simp [q_cat, q_catI, q_catJ, q_catR, q_catN]) ?_
  refine q_iconst (pc := 14) C 1 dJ6_stringSize_0f7a4_14 (by decide) ?_
  refine q_istore_n (pc := 15) C 3 [(3, .int 1), (2, .int (-10)), (0, .int l0), (1, .int l1)] dJ6_stringSize_0f7a4_15 rfl (by decide) (by first | rfl | simp [q_cat, q_catI, q_catJ, q_catR, q_catN]) ?_
  refine q_widen (k2 := 0) (n2 := 0) (by omega) (by omega) ?_
  refine q_lv [2, 3, 1, 0] rfl ?_
  obtain ⟨f9, h⟩ := h
  exact tJ6_stringSize_0f7a4_16 C hr hlocks f9 _ _ _ _ _ h
set_option maxRecDepth 100000 in
set_option maxHeartbeats 4000000 in
theorem tJ6_stringSize_0f7a4 {p : Program} {l : Launch} {e : Env} {s : State} {m : MethodId} {args : Array Value} {below : List Frame} {meth : Method} {c : Code} {G : mG} {b0 : Nat} (C : m_C p s m args c cJ6_stringSize_0f7a4 4 RJ6 wsJ6_stringSize_0f7a4 G b0) (hr : meth.sig.returnType = (some .int)) (hlocks : meth.locks = false) {κ : Int32 → mM → Prop} {l0 : Int32} {M : mM} (h : wJ6_stringSize_0f7a4 κ l0 M) : m_W p l e ({ frames := 0, cells := 0, slots := 0, locals := 0 } : Room) s m args below meth c G b0 (MQ below (va_Qi κ (m_B G b0) (fun q => b0 ≤ q)) args s 0 0 (fun q => b0 ≤ q)) 4 M 0 0 0 [(0, .int l0)] [] := by
  unfold wJ6_stringSize_0f7a4 at h
  refine q_iconst (pc := 0) C 1 dJ6_stringSize_0f7a4_0 (by decide) ?_
  refine q_istore_n (pc := 1) C 1 [(1, .int 1), (0, .int l0)] dJ6_stringSize_0f7a4_1 rfl (by decide) (by first | rfl | simp [q_cat, q_catI, q_catJ, q_catR, q_catN]) ?_
  refine q_iload_n (pc := 2) C 0 1 dJ6_stringSize_0f7a4_2 rfl rfl ?_
  refine q_if_lt (pc := 3) C 11 dJ6_stringSize_0f7a4_3 (by decide) (fun c1 => ?_) (fun c1 => ?_)
  · have h := h.1 c1
    refine q_widen (k2 := 0) (n2 := 0) (by omega) (by omega) ?_
    refine q_lv [1, 0] rfl ?_
    exact tJ6_stringSize_0f7a4_11 C hr hlocks h
  · have h := h.2 c1
    refine q_iconst (pc := 6) C 0 dJ6_stringSize_0f7a4_6 (by decide) ?_
    refine q_istore_n (pc := 7) C 1 [(1, .int 0), (0, .int l0)] dJ6_stringSize_0f7a4_7 rfl (by decide) (by first | rfl | simp [q_cat, q_catI, q_catJ, q_catR, q_catN]) ?_
    refine q_iload_n (pc := 8) C 0 1 dJ6_stringSize_0f7a4_8 rfl rfl ?_
    refine q_ineg (pc := 9) C dJ6_stringSize_0f7a4_9 ?_
    refine q_istore_n (pc := 10) C 0 [(0, .int (-l0)), (1, .int 0)] dJ6_stringSize_0f7a4_10 rfl (by decide) (by first | rfl | simp [q_cat, q_catI, q_catJ, q_catR, q_catN]) ?_
    refine q_widen (k2 := 0) (n2 := 0) (by omega) (by omega) ?_
    refine q_lv [0, 1] rfl ?_
    exact tJ6_stringSize_0f7a4_11 C hr hlocks h
set_option maxRecDepth 100000 in
set_option maxHeartbeats 4000000 in
theorem kJ6_stringSize_0f7a4 (l : Launch) (G : mG) (b0 : Nat) {l0 : Int32} {M : mM} {κ : Int32 → mM → Prop} (h : wJ6_stringSize_0f7a4 κ l0 M) : Met l yJ6_stringSize_0f7a4 wsJ6_stringSize_0f7a4 ({ frames := 0, cells := 0, slots := 0, locals := 0 } : Room) (va_Pc [.int l0] (m_Pre G b0 M)) (va_Qi κ (m_B G b0) (fun q => b0 ≤ q)) 0 0 (fun q => b0 ≤ q) := by
  refine m_met (cc := cJ6_stringSize_0f7a4) (maxL := 4) (ret := (some .int)) (lv := [(0, .int l0)]) RJ6 rfl (by decide +kernel) rfl (by first | exact Nat.le_of_ble_eq_true rfl | simp [lg_sl, q_cat, q_catI, q_catJ, q_catR, q_catN]) (by first | rfl | (simp [lv_args, q_cat, q_catI, q_catJ, q_catR, q_catN]; done) | (simp [lv_args, q_cat, q_catI, q_catJ, q_catR, q_catN]; rfl)) ?_
  intro p e s m args below meth c C hr hlocks hni
  exact tJ6_stringSize_0f7a4 C hr hlocks h
/-! J6_getChars_ba4f3 -/
set_option maxRecDepth 100000 in
set_option maxHeartbeats 4000000 in
theorem tJ6_getChars_ba4f3_104 {p : Program} {l : Launch} {e : Env} {s : State} {m : MethodId} {args : Array Value} {below : List Frame} {meth : Method} {c : Code} {G : mG} {b0 : Nat} (C : m_C p s m args c cJ6_getChars_ba4f3 7 RJ6 wsJ6_getChars_ba4f3 G b0) (hr : meth.sig.returnType = (some .int)) (hlocks : meth.locks = false) {g : Nat → Nat} (hg : G.2.2 = g) {κ : Int32 → mM → Prop} {l2 : Option Nat} {l5 : Int32} {l6 : Int32} {M : mM} (h : wJ6_getChars_ba4f3_104 g κ l2 l5 l6 M) : m_W p l e ({ frames := 0, cells := 0, slots := 0, locals := 0 } : Room) s m args below meth c G b0 (MQ below (va_Qi κ (m_B G b0) (fun q => b0 ≤ q)) args s 0 0 (fun q => b0 ≤ q)) 7 M 0 0 104 [(2, va_rf l2), (5, .int l5), (6, .int l6)] [] := by
  unfold wJ6_getChars_ba4f3_104 at h
  refine q_iload (pc := 104) C 6 2 dJ6_getChars_ba4f3_104 rfl ?_
  refine q_if_eq (pc := 106) C 118 dJ6_getChars_ba4f3_106 (by decide) (fun c1 => ?_) (fun c1 => ?_)
  · have h := h.1 c1
    refine q_iload (pc := 118) C 5 1 dJ6_getChars_ba4f3_118 rfl ?_
    exact q_iret (pc := 120) C hr hlocks h dJ6_getChars_ba4f3_120 (by omega) (by omega)
  · have h := h.2 c1
    refine q_aload_n (pc := 109) C 2 0 dJ6_getChars_ba4f3_109 rfl rfl ?_
    refine q_iinc (pc := 110) C 5 1 (l5 + (-1)) [(5, .int (l5 + (-1))), (2, va_rf l2), (6, .int l6)] dJ6_getChars_ba4f3_110 rfl (by rfl) (by decide) (by first | rfl | simp [q_cat, q_catI, q_catJ, q_catR, q_catN]) ?_
    refine q_iload (pc := 113) C 5 0 dJ6_getChars_ba4f3_113 rfl ?_
    refine q_bipush (pc := 115) C 45 dJ6_getChars_ba4f3_115 (by decide) ?_
    refine q_bast (pc := 117) C h dJ6_getChars_ba4f3_117 (fun M2 h => ?_)
    refine q_iload (pc := 118) C 5 0 dJ6_getChars_ba4f3_118 rfl ?_
    exact q_iret (pc := 120) C hr hlocks h dJ6_getChars_ba4f3_120 (by omega) (by omega)
set_option maxRecDepth 100000 in
set_option maxHeartbeats 4000000 in
theorem tJ6_getChars_ba4f3_22 {p : Program} {l : Launch} {e : Env} {s : State} {m : MethodId} {args : Array Value} {below : List Frame} {meth : Method} {c : Code} {G : mG} {b0 : Nat} (C : m_C p s m args c cJ6_getChars_ba4f3 7 RJ6 wsJ6_getChars_ba4f3 G b0) (hr : meth.sig.returnType = (some .int)) (hlocks : meth.locks = false) {g : Nat → Nat} (hg : G.2.2 = g) {κ : Int32 → mM → Prop} : ∀ (f : Nat) (l0 : Int32) (l2 : Option Nat) (l5 : Int32) (l6 : Int32) (M : mM), wJ6_getChars_ba4f3_22 g κ f l0 l2 l5 l6 M → m_W p l e ({ frames := 0, cells := 0, slots := 0, locals := 0 } : Room) s m args below meth c G b0 (MQ below (va_Qi κ (m_B G b0) (fun q => b0 ≤ q)) args s 0 0 (fun q => b0 ≤ q)) 7 M 0 0 22 [(0, .int l0), (2, va_rf l2), (5, .int l5), (6, .int l6)] [] := by
  intro f
  induction f with
  | zero =>
    intro l0 l2 l5 l6 M h
    exact absurd h (by simp [wJ6_getChars_ba4f3_22])
  | succ f ih =>
    intro l0 l2 l5 l6 M h
    rw [wJ6_getChars_ba4f3_22] at h
    refine q_iload_n (pc := 22) C 0 0 dJ6_getChars_ba4f3_22 rfl rfl ?_
    refine q_bipush (pc := 23) C (-100) dJ6_getChars_ba4f3_23 (by decide) ?_
    refine q_icmp_gt (pc := 25) C 72 dJ6_getChars_ba4f3_25 (by decide) (fun c1 => ?_) (fun c1 => ?_)
    · have h := h.1 c1
      refine q_aload_n (pc := 72) C 2 1 dJ6_getChars_ba4f3_72 rfl rfl ?_
      refine q_iinc (pc := 73) C 5 2 (l5 + (-1)) [(5, .int (l5 + (-1))), (0, .int l0), (2, va_rf l2), (6, .int l6)] dJ6_getChars_ba4f3_73 rfl (by rfl) (by decide) (by first | rfl | simp [q_cat, q_catI, q_catJ, q_catR, q_catN]) ?_
      refine q_iload (pc := 76) C 5 0 dJ6_getChars_ba4f3_76 rfl ?_
      refine q_gets (pc := 78) C hg (va_rf (some (g 3))) (List.mem_of_getElem? (i := 4) rfl) (by decide +kernel) dJ6_getChars_ba4f3_78 ?_
      refine q_iload_n (pc := 81) C 0 1 dJ6_getChars_ba4f3_81 rfl rfl ?_
      refine q_ineg (pc := 82) C dJ6_getChars_ba4f3_82 ?_
      refine q_bald (pc := 83) C h dJ6_getChars_ba4f3_83 (fun x2 h => ?_)
      refine q_bast (pc := 84) C h dJ6_getChars_ba4f3_84 (fun M3 h => ?_)
      refine q_iload_n (pc := 85) C 0 1 dJ6_getChars_ba4f3_85 rfl rfl ?_
      refine q_bipush (pc := 86) C (-9) dJ6_getChars_ba4f3_86 (by decide) ?_
      refine q_icmp_ge (pc := 88) C 104 dJ6_getChars_ba4f3_88 (by decide) (fun c4 => ?_) (fun c4 => ?_)
      · have h := h.1 c4
        refine q_widen (k2 := 0) (n2 := 0) (by omega) (by omega) ?_
        refine q_lv [2, 0, 3] rfl ?_
        exact tJ6_getChars_ba4f3_104 C hr hlocks hg h
      · have h := h.2 c4
        refine q_aload_n (pc := 91) C 2 2 dJ6_getChars_ba4f3_91 rfl rfl ?_
        refine q_iinc (pc := 92) C 5 0 ((l5 + (-1)) + (-1)) [(5, .int ((l5 + (-1)) + (-1))), (0, .int l0), (2, va_rf l2), (6, .int l6)] dJ6_getChars_ba4f3_92 rfl (by rfl) (by decide) (by first | rfl | simp [q_cat, q_catI, q_catJ, q_catR, q_catN]) ?_
        refine q_iload (pc := 95) C 5 0 dJ6_getChars_ba4f3_95 rfl ?_
        refine q_gets (pc := 97) C hg (va_rf (some (g 2))) (List.mem_of_getElem? (i := 3) rfl) (by decide +kernel) dJ6_getChars_ba4f3_97 ?_
        refine q_iload_n (pc := 100) C 0 1 dJ6_getChars_ba4f3_100 rfl rfl ?_
        refine q_ineg (pc := 101) C dJ6_getChars_ba4f3_101 ?_
        refine q_bald (pc := 102) C h dJ6_getChars_ba4f3_102 (fun x5 h => ?_)
        refine q_bast (pc := 103) C h dJ6_getChars_ba4f3_103 (fun M6 h => ?_)
        refine q_widen (k2 := 0) (n2 := 0) (by omega) (by omega) ?_
        refine q_lv [2, 0, 3] rfl ?_
        exact tJ6_getChars_ba4f3_104 C hr hlocks hg h
    · have h := h.2 c1
      refine q_iload_n (pc := 28) C 0 0 dJ6_getChars_ba4f3_28 rfl rfl ?_
      refine q_bipush (pc := 29) C 100 dJ6_getChars_ba4f3_29 (by decide) ?_
      refine q_idiv (pc := 31) C dJ6_getChars_ba4f3_31 (by decide) ?_
      refine q_istore_n (pc := 32) C 3 [(3, .int (l0 / 100)), (0, .int l0), (2, va_rf l2), (5, .int l5), (6, .int l6)] dJ6_getChars_ba4f3_32 rfl (by decide) (by first | rfl | simp [q_cat, q_catI, q_catJ, q_catR, q_catN]) ?_
      refine q_iload_n (pc := 33) C 3 0 dJ6_getChars_ba4f3_33 rfl rfl ?_
      refine q_bipush (pc := 34) C 100 dJ6_getChars_ba4f3_34 (by decide) ?_
      refine q_imul (pc := 36) C dJ6_getChars_ba4f3_36 ?_
      refine q_iload_n (pc := 37) C 0 1 dJ6_getChars_ba4f3_37 rfl rfl ?_
      refine q_isub (pc := 38) C dJ6_getChars_ba4f3_38 ?_
      refine q_istore (pc := 39) C 4 [(4, .int (((l0 / 100) * 100) - l0)), (3, .int (l0 / 100)), (0, .int l0), (2, va_rf l2), (5, .int l5), (6, .int l6)] dJ6_getChars_ba4f3_39 (by decide) (by first | rfl | simp [q_cat, q_catI, q_catJ, q_catR, q_catN]) ?_
      refine q_iload_n (pc := 41) C 3 1 dJ6_getChars_ba4f3_41 rfl rfl ?_
      refine q_istore_n (pc := 42) C 0 [(0, .int (l0 / 100)), (4, .int (((l0 / 100) * 100) - l0)), (3, .int (l0 / 100)), (2, va_rf l2), (5, .int l5), (6, .int l6)] dJ6_getChars_ba4f3_42 rfl (by decide) (by first | rfl | simp [q_cat, q_catI, q_catJ, q_catR, q_catN]) ?_
      refine q_aload_n (pc := 43) C 2 3 dJ6_getChars_ba4f3_43 rfl rfl ?_
      refine q_iinc (pc := 44) C 5 4 (l5 + (-1)) [(5, .int (l5 + (-1))), (0, .int (l0 / 100)), (4, .int (((l0 / 100) * 100) - l0)), (3, .int (l0 / 100)), (2, va_rf l2), (6, .int l6)] dJ6_getChars_ba4f3_44 rfl (by rfl) (by decide) (by first | rfl | simp [q_cat, q_catI, q_catJ, q_catR, q_catN]) ?_
      refine q_iload (pc := 47) C 5 0 dJ6_getChars_ba4f3_47 rfl ?_
      refine q_gets (pc := 49) C hg (va_rf (some (g 3))) (List.mem_of_getElem? (i := 4) rfl) (by decide +kernel) dJ6_getChars_ba4f3_49 ?_
      refine q_iload (pc := 52) C 4 2 dJ6_getChars_ba4f3_52 rfl ?_
      refine q_bald (pc := 54) C h dJ6_getChars_ba4f3_54 (fun x7 h => ?_)
      refine q_bast (pc := 55) C h dJ6_getChars_ba4f3_55 (fun M8 h => ?_)
      refine q_aload_n (pc := 56) C 2 4 dJ6_getChars_ba4f3_56 rfl rfl ?_
      refine q_iinc (pc := 57) C 5 0 ((l5 + (-1)) + (-1)) [(5, .int ((l5 + (-1)) + (-1))), (0, .int (l0 / 100)), (4, .int (((l0 / 100) * 100) - l0)), (3, .int (l0 / 100)), (2, va_rf l2), (6, .int l6)] dJ6_getChars_ba4f3_57 rfl (by rfl) (by decide) (by first | rfl | simp [q_cat, q_catI, q_catJ, q_catR, q_catN]) ?_
      refine q_iload (pc := 60) C 5 0 dJ6_getChars_ba4f3_60 rfl ?_
      refine q_gets (pc := 62) C hg (va_rf (some (g 2))) (List.mem_of_getElem? (i := 3) rfl) (by decide +kernel) dJ6_getChars_ba4f3_62 ?_
      refine q_iload (pc := 65) C 4 2 dJ6_getChars_ba4f3_65 rfl ?_
      refine q_bald (pc := 67) C h dJ6_getChars_ba4f3_67 (fun x9 h => ?_)
      refine q_bast (pc := 68) C h dJ6_getChars_ba4f3_68 (fun M10 h => ?_)
      refine q_goto (pc := 69) C 22 dJ6_getChars_ba4f3_69 (by decide) ?_
      refine q_widen (k2 := 0) (n2 := 0) (by omega) (by omega) ?_
      refine q_lv [1, 4, 0, 5] rfl ?_
      exact ih _ _ _ _ _ h
set_option maxRecDepth 100000 in
set_option maxHeartbeats 4000000 in
theorem tJ6_getChars_ba4f3_12 {p : Program} {l : Launch} {e : Env} {s : State} {m : MethodId} {args : Array Value} {below : List Frame} {meth : Method} {c : Code} {G : mG} {b0 : Nat} (C : m_C p s m args c cJ6_getChars_ba4f3 7 RJ6 wsJ6_getChars_ba4f3 G b0) (hr : meth.sig.returnType = (some .int)) (hlocks : meth.locks = false) {g : Nat → Nat} (hg : G.2.2 = g) {κ : Int32 → mM → Prop} {l0 : Int32} {l2 : Option Nat} {l5 : Int32} {s0 : Int32} {M : mM} (h : wJ6_getChars_ba4f3_12 g κ l0 l2 l5 s0 M) : m_W p l e ({ frames := 0, cells := 0, slots := 0, locals := 0 } : Room) s m args below meth c G b0 (MQ below (va_Qi κ (m_B G b0) (fun q => b0 ≤ q)) args s 0 0 (fun q => b0 ≤ q)) 7 M 0 0 12 [(0, .int l0), (2, va_rf l2), (5, .int l5)] [.int s0] := by
  unfold wJ6_getChars_ba4f3_12 at h
  refine q_istore (pc := 12) C 6 [(6, .int s0), (0, .int l0), (2, va_rf l2), (5, .int l5)] dJ6_getChars_ba4f3_12 (by decide) (by first | rfl | simp [q_cat, q_catI, q_catJ, q_catR, q_catN]) ?_
  refine q_iload (pc := 14) C 6 0 dJ6_getChars_ba4f3_14 rfl ?_
  refine q_if_ne (pc := 16) C 22 dJ6_getChars_ba4f3_16 (by decide) (fun c1 => ?_) (fun c1 => ?_)
  · have h := h.2 c1
    refine q_widen (k2 := 0) (n2 := 0) (by omega) (by omega) ?_
    refine q_lv [1, 2, 3, 0] rfl ?_
    obtain ⟨f9, h⟩ := h
    exact tJ6_getChars_ba4f3_22 C hr hlocks hg f9 _ _ _ _ _ h
  · have h := h.1 c1
    refine q_iload_n (pc := 19) C 0 1 dJ6_getChars_ba4f3_19 rfl rfl ?_
    refine q_ineg (pc := 20) C dJ6_getChars_ba4f3_20 ?_
    refine q_istore_n (pc := 21) C 0 [(0, .int (-l0)), (6, .int s0), (2, va_rf l2), (5, .int l5)] dJ6_getChars_ba4f3_21 rfl (by decide) (by first | rfl | simp [q_cat, q_catI, q_catJ, q_catR, q_catN]) ?_
    refine q_widen (k2 := 0) (n2 := 0) (by omega) (by omega) ?_
    refine q_lv [0, 2, 3, 1] rfl ?_
    obtain ⟨f9, h⟩ := h
    exact tJ6_getChars_ba4f3_22 C hr hlocks hg f9 _ _ _ _ _ h
set_option maxRecDepth 100000 in
set_option maxHeartbeats 4000000 in
theorem tJ6_getChars_ba4f3 {p : Program} {l : Launch} {e : Env} {s : State} {m : MethodId} {args : Array Value} {below : List Frame} {meth : Method} {c : Code} {G : mG} {b0 : Nat} (C : m_C p s m args c cJ6_getChars_ba4f3 7 RJ6 wsJ6_getChars_ba4f3 G b0) (hr : meth.sig.returnType = (some .int)) (hlocks : meth.locks = false) {g : Nat → Nat} (hg : G.2.2 = g) {κ : Int32 → mM → Prop} {l0 : Int32} {l1 : Int32} {l2 : Option Nat} {M : mM} (h : wJ6_getChars_ba4f3 g κ l0 l1 l2 M) : m_W p l e ({ frames := 0, cells := 0, slots := 0, locals := 0 } : Room) s m args below meth c G b0 (MQ below (va_Qi κ (m_B G b0) (fun q => b0 ≤ q)) args s 0 0 (fun q => b0 ≤ q)) 7 M 0 0 0 [(0, .int l0), (1, .int l1), (2, va_rf l2)] [] := by
  unfold wJ6_getChars_ba4f3 at h
  refine q_iload_n (pc := 0) C 1 1 dJ6_getChars_ba4f3_0 rfl rfl ?_
  refine q_istore (pc := 1) C 5 [(5, .int l1), (0, .int l0), (1, .int l1), (2, va_rf l2)] dJ6_getChars_ba4f3_1 (by decide) (by first | rfl | simp [q_cat, q_catI, q_catJ, q_catR, q_catN]) ?_
  refine q_iload_n (pc := 3) C 0 1 dJ6_getChars_ba4f3_3 rfl rfl ?_
  refine q_if_ge (pc := 4) C 11 dJ6_getChars_ba4f3_4 (by decide) (fun c1 => ?_) (fun c1 => ?_)
  · have h := h.1 c1
    refine q_iconst (pc := 11) C 0 dJ6_getChars_ba4f3_11 (by decide) ?_
    refine q_widen (k2 := 0) (n2 := 0) (by omega) (by omega) ?_
    refine q_lv [1, 3, 0] rfl ?_
    exact tJ6_getChars_ba4f3_12 C hr hlocks hg h
  · have h := h.2 c1
    refine q_iconst (pc := 7) C 1 dJ6_getChars_ba4f3_7 (by decide) ?_
    refine q_goto (pc := 8) C 12 dJ6_getChars_ba4f3_8 (by decide) ?_
    refine q_widen (k2 := 0) (n2 := 0) (by omega) (by omega) ?_
    refine q_lv [1, 3, 0] rfl ?_
    exact tJ6_getChars_ba4f3_12 C hr hlocks hg h
set_option maxRecDepth 100000 in
set_option maxHeartbeats 4000000 in
theorem kJ6_getChars_ba4f3 (l : Launch) (G : mG) (b0 : Nat) {g : Nat → Nat} (hg : G.2.2 = g) {l0 : Int32} {l1 : Int32} {l2 : Option Nat} {M : mM} {κ : Int32 → mM → Prop} (h : wJ6_getChars_ba4f3 g κ l0 l1 l2 M) : Met l yJ6_getChars_ba4f3 wsJ6_getChars_ba4f3 ({ frames := 0, cells := 0, slots := 0, locals := 0 } : Room) (va_Pc [.int l0, .int l1, va_rf l2] (m_Pre G b0 M)) (va_Qi κ (m_B G b0) (fun q => b0 ≤ q)) 0 0 (fun q => b0 ≤ q) := by
  refine m_met (cc := cJ6_getChars_ba4f3) (maxL := 7) (ret := (some .int)) (lv := [(0, .int l0), (1, .int l1), (2, va_rf l2)]) RJ6 rfl (by decide +kernel) rfl (by first | exact Nat.le_of_ble_eq_true rfl | simp [lg_sl, q_cat, q_catI, q_catJ, q_catR, q_catN]) (by first | rfl | (simp [lv_args, q_cat, q_catI, q_catJ, q_catR, q_catN]; done) | (simp [lv_args, q_cat, q_catI, q_catJ, q_catR, q_catN]; rfl)) ?_
  intro p e s m args below meth c C hr hlocks hni
  exact tJ6_getChars_ba4f3 C hr hlocks hg h
/-! J1_canEncode_fc78d -/
set_option maxRecDepth 100000 in
set_option maxHeartbeats 4000000 in
theorem tJ1_canEncode_fc78d {p : Program} {l : Launch} {e : Env} {s : State} {m : MethodId} {args : Array Value} {below : List Frame} {meth : Method} {c : Code} {G : mG} {b0 : Nat} (C : m_C p s m args c cJ1_canEncode_fc78d 1 RJ1 wsJ1_canEncode_fc78d G b0) (hr : meth.sig.returnType = (some .boolean)) (hlocks : meth.locks = false) {κ : Int32 → mM → Prop} {l0 : Int32} {M : mM} (h : wJ1_canEncode_fc78d κ l0 M) : m_W p l e ({ frames := 0, cells := 0, slots := 0, locals := 0 } : Room) s m args below meth c G b0 (MQ below (va_Qi κ (m_B G b0) (fun q => b0 ≤ q)) args s 0 0 (fun q => b0 ≤ q)) 1 M 0 0 0 [(0, .int l0)] [] := by
  unfold wJ1_canEncode_fc78d at h
  refine q_iload_n (pc := 0) C 0 0 dJ1_canEncode_fc78d_0 rfl rfl ?_
  refine q_sipush (pc := 1) C 255 dJ1_canEncode_fc78d_1 (by decide) ?_
  refine q_icmp_gt (pc := 4) C 11 dJ1_canEncode_fc78d_4 (by decide) (fun c1 => ?_) (fun c1 => ?_)
  · have h := h.1 c1
    refine q_iconst (pc := 11) C 0 dJ1_canEncode_fc78d_11 (by decide) ?_
    exact q_zret (pc := 12) C hr hlocks ⟨(by decide), h⟩ dJ1_canEncode_fc78d_12 (by omega) (by omega)
  · have h := h.2 c1
    refine q_iconst (pc := 7) C 1 dJ1_canEncode_fc78d_7 (by decide) ?_
    refine q_goto (pc := 8) C 12 dJ1_canEncode_fc78d_8 (by decide) ?_
    exact q_zret (pc := 12) C hr hlocks ⟨(by decide), h⟩ dJ1_canEncode_fc78d_12 (by omega) (by omega)
set_option maxRecDepth 100000 in
set_option maxHeartbeats 4000000 in
theorem kJ1_canEncode_fc78d (l : Launch) (G : mG) (b0 : Nat) {l0 : Int32} {M : mM} {κ : Int32 → mM → Prop} (h : wJ1_canEncode_fc78d κ l0 M) : Met l yJ1_canEncode_fc78d wsJ1_canEncode_fc78d ({ frames := 0, cells := 0, slots := 0, locals := 0 } : Room) (va_Pc [.int l0] (m_Pre G b0 M)) (va_Qi κ (m_B G b0) (fun q => b0 ≤ q)) 0 0 (fun q => b0 ≤ q) := by
  refine m_met (cc := cJ1_canEncode_fc78d) (maxL := 1) (ret := (some .boolean)) (lv := [(0, .int l0)]) RJ1 rfl (by decide +kernel) rfl (by first | exact Nat.le_of_ble_eq_true rfl | simp [lg_sl, q_cat, q_catI, q_catJ, q_catR, q_catN]) (by first | rfl | (simp [lv_args, q_cat, q_catI, q_catJ, q_catR, q_catN]; done) | (simp [lv_args, q_cat, q_catI, q_catJ, q_catR, q_catN]; rfl)) ?_
  intro p e s m args below meth c C hr hlocks hni
  exact tJ1_canEncode_fc78d C hr hlocks h
/-! J5_length_8abf5 -/
set_option maxRecDepth 100000 in
set_option maxHeartbeats 4000000 in
theorem tJ5_length_8abf5 {p : Program} {l : Launch} {e : Env} {s : State} {m : MethodId} {args : Array Value} {below : List Frame} {meth : Method} {c : Code} {G : mG} {b0 : Nat} (C : m_C p s m args c cJ5_length_8abf5 1 RJ5 wsJ5_length_8abf5 G b0) (hr : meth.sig.returnType = (some .int)) (hlocks : meth.locks = false) {κ : Int32 → mM → Prop} {l0 : Option Nat} {M : mM} (h : wJ5_length_8abf5 κ l0 M) : m_W p l e ({ frames := 0, cells := 0, slots := 0, locals := 0 } : Room) s m args below meth c G b0 (MQ below (va_Qi κ (m_B G b0) (fun q => b0 ≤ q)) args s 0 0 (fun q => b0 ≤ q)) 1 M 0 0 0 [(0, va_rf l0)] [] := by
  unfold wJ5_length_8abf5 at h
  refine q_aload_n (pc := 0) C 0 0 dJ5_length_8abf5_0 rfl rfl ?_
  refine q_gI (pc := 1) C h (T := TJ4) rfl (by decide) (wk_u rfl wm_J5_length_8abf5 uq_J4 (by decide +kernel)) (by decide +kernel) (fun _ h9 => h9) dJ5_length_8abf5_1 (fun x1 h => ?_)
  exact q_iret (pc := 4) C hr hlocks h dJ5_length_8abf5_4 (by omega) (by omega)
set_option maxRecDepth 100000 in
set_option maxHeartbeats 4000000 in
theorem kJ5_length_8abf5 (l : Launch) (G : mG) (b0 : Nat) {b : Nat} {M : mM} {κ : Int32 → mM → Prop} (h : wJ5_length_8abf5 κ (some b) M) : Met l yJ5_length_8abf5 wsJ5_length_8abf5 ({ frames := 0, cells := 0, slots := 0, locals := 0 } : Room) (va_Pc [.ref b] (m_Pre G b0 M)) (va_Qi κ (m_B G b0) (fun q => b0 ≤ q)) 0 0 (fun q => b0 ≤ q) := by
  refine m_met (cc := cJ5_length_8abf5) (maxL := 1) (ret := (some .int)) (lv := [(0, va_rf (some b))]) RJ5 rfl (by decide +kernel) rfl (by first | exact Nat.le_of_ble_eq_true rfl | simp [lg_sl, q_cat, q_catI, q_catJ, q_catR, q_catN]) (by first | rfl | (simp [lv_args, q_cat, q_catI, q_catJ, q_catR, q_catN]; done) | (simp [lv_args, q_cat, q_catI, q_catJ, q_catR, q_catN]; rfl)) ?_
  intro p e s m args below meth c C hr hlocks hni
  exact tJ5_length_8abf5 C hr hlocks h
/-! J4_length_8abf5 -/
set_option maxRecDepth 100000 in
set_option maxHeartbeats 4000000 in
theorem tJ4_length_8abf5 {p : Program} {l : Launch} {e : Env} {s : State} {m : MethodId} {args : Array Value} {below : List Frame} {meth : Method} {c : Code} {G : mG} {b0 : Nat} (C : m_C p s m args c cJ4_length_8abf5 1 RJ4 wsJ4_length_8abf5 G b0) (hr : meth.sig.returnType = (some .int)) (hlocks : meth.locks = false) {κ : Int32 → mM → Prop} {l0 : Option Nat} {M : mM} (h : wJ4_length_8abf5 κ l0 M) : m_W p l e ({ frames := 1, cells := 0, slots := 0, locals := 20 } : Room) s m args below meth c G b0 (MQ below (va_Qi κ (m_B G b0) (fun q => b0 ≤ q)) args s 0 0 (fun q => b0 ≤ q)) 1 M 0 0 0 [(0, va_rf l0)] [] := by
  unfold wJ4_length_8abf5 at h
  refine q_aload_n (pc := 0) C 0 0 dJ4_length_8abf5_0 rfl rfl ?_
  obtain ⟨b3, fs9, hb3, hm9, h⟩ := h
  refine q_ci (pc := 1) (q_rSU C (st := []) (b := b3) (kJ5_length_8abf5 l G b0 h) (va_cwSU 0 C.2.2.2.2.1 gJ4_length_8abf5_J5_length_8abf5_s343 rfl rfl rfl (by decide +kernel) ⟨Nat.le_of_ble_eq_true rfl, Nat.le_of_ble_eq_true rfl⟩) hm9 rfl rfl rfl (by first | exact Nat.le_of_ble_eq_true rfl | (simp [q_cat, q_catI, q_catJ, q_catR, q_catN]; done)) (by rw [hb3]; first | done | rfl) dJ4_length_8abf5_1 ⟨(by first | omega | (dsimp only; omega)), (by first | omega | (dsimp only; omega))⟩) (fun x1 M2 h => ?_)
  exact q_iret (pc := 4) C hr hlocks h dJ4_length_8abf5_4 (by omega) (by omega)
set_option maxRecDepth 100000 in
set_option maxHeartbeats 4000000 in
theorem kJ4_length_8abf5 (l : Launch) (G : mG) (b0 : Nat) {b : Nat} {M : mM} {κ : Int32 → mM → Prop} (h : wJ4_length_8abf5 κ (some b) M) : Met l yJ4_length_8abf5 wsJ4_length_8abf5 ({ frames := 1, cells := 0, slots := 0, locals := 20 } : Room) (va_Pc [.ref b] (m_Pre G b0 M)) (va_Qi κ (m_B G b0) (fun q => b0 ≤ q)) 0 0 (fun q => b0 ≤ q) := by
  refine m_met (cc := cJ4_length_8abf5) (maxL := 1) (ret := (some .int)) (lv := [(0, va_rf (some b))]) RJ4 rfl (by decide +kernel) rfl (by first | exact Nat.le_of_ble_eq_true rfl | simp [lg_sl, q_cat, q_catI, q_catJ, q_catR, q_catN]) (by first | rfl | (simp [lv_args, q_cat, q_catI, q_catJ, q_catR, q_catN]; done) | (simp [lv_args, q_cat, q_catI, q_catJ, q_catR, q_catN]; rfl)) ?_
  intro p e s m args below meth c C hr hlocks hni
  exact tJ4_length_8abf5 C hr hlocks h
/-! J5_getValue_6d5f1 -/
set_option maxRecDepth 100000 in
set_option maxHeartbeats 4000000 in
theorem tJ5_getValue_6d5f1 {p : Program} {l : Launch} {e : Env} {s : State} {m : MethodId} {args : Array Value} {below : List Frame} {meth : Method} {c : Code} {G : mG} {b0 : Nat} (C : m_C p s m args c cJ5_getValue_6d5f1 1 RJ5 wsJ5_getValue_6d5f1 G b0) (hr : meth.sig.returnType = (some (.array .byte))) (hlocks : meth.locks = false) {κ : Option Nat → mM → Prop} {l0 : Option Nat} {M : mM} (h : wJ5_getValue_6d5f1 κ l0 M) : m_W p l e ({ frames := 0, cells := 0, slots := 0, locals := 0 } : Room) s m args below meth c G b0 (MQ below (va_Qq κ (m_B G b0) (fun q => b0 ≤ q)) args s 0 0 (fun q => b0 ≤ q)) 1 M 0 0 0 [(0, va_rf l0)] [] := by
  unfold wJ5_getValue_6d5f1 at h
  refine q_aload_n (pc := 0) C 0 0 dJ5_getValue_6d5f1_0 rfl rfl ?_
  refine q_gR (pc := 1) C h (T := TJ4) rfl (by decide) (wk_u rfl wm_J5_getValue_6d5f1 uq_J4 (by decide +kernel)) (by decide +kernel) (fun _ h9 => h9) dJ5_getValue_6d5f1_1 (fun x1 h => ?_)
  exact q_aret (pc := 4) C hr (by first | exact Or.inl ⟨_, rfl⟩ | exact Or.inr ⟨_, rfl⟩) hlocks h dJ5_getValue_6d5f1_4 (by omega) (by omega)
set_option maxRecDepth 100000 in
set_option maxHeartbeats 4000000 in
theorem kJ5_getValue_6d5f1 (l : Launch) (G : mG) (b0 : Nat) {b : Nat} {M : mM} {κ : Option Nat → mM → Prop} (h : wJ5_getValue_6d5f1 κ (some b) M) : Met l yJ5_getValue_6d5f1 wsJ5_getValue_6d5f1 ({ frames := 0, cells := 0, slots := 0, locals := 0 } : Room) (va_Pc [.ref b] (m_Pre G b0 M)) (va_Qq κ (m_B G b0) (fun q => b0 ≤ q)) 0 0 (fun q => b0 ≤ q) := by
  refine m_met (cc := cJ5_getValue_6d5f1) (maxL := 1) (ret := (some (.array .byte))) (lv := [(0, va_rf (some b))]) RJ5 rfl (by decide +kernel) rfl (by first | exact Nat.le_of_ble_eq_true rfl | simp [lg_sl, q_cat, q_catI, q_catJ, q_catR, q_catN]) (by first | rfl | (simp [lv_args, q_cat, q_catI, q_catJ, q_catR, q_catN]; done) | (simp [lv_args, q_cat, q_catI, q_catJ, q_catR, q_catN]; rfl)) ?_
  intro p e s m args below meth c C hr hlocks hni
  exact tJ5_getValue_6d5f1 C hr hlocks h
/-! J5_isLatin1_aae02 -/
set_option maxRecDepth 100000 in
set_option maxHeartbeats 4000000 in
theorem tJ5_isLatin1_aae02 {p : Program} {l : Launch} {e : Env} {s : State} {m : MethodId} {args : Array Value} {below : List Frame} {meth : Method} {c : Code} {G : mG} {b0 : Nat} (C : m_C p s m args c cJ5_isLatin1_aae02 1 RJ5 wsJ5_isLatin1_aae02 G b0) (hr : meth.sig.returnType = (some .boolean)) (hlocks : meth.locks = false) {g : Nat → Nat} (hg : G.2.2 = g) {κ : Int32 → mM → Prop} {l0 : Option Nat} {M : mM} (h : wJ5_isLatin1_aae02 g κ l0 M) : m_W p l e ({ frames := 0, cells := 0, slots := 0, locals := 0 } : Room) s m args below meth c G b0 (MQ below (va_Qi κ (m_B G b0) (fun q => b0 ≤ q)) args s 0 0 (fun q => b0 ≤ q)) 1 M 0 0 0 [(0, va_rf l0)] [] := by
  unfold wJ5_isLatin1_aae02 at h
  refine q_gets (pc := 0) C hg (.int 1) (List.mem_of_getElem? (i := 5) rfl) (by decide +kernel) dJ5_isLatin1_aae02_0 ?_
  refine q_if_eq (pc := 3) C 17 dJ5_isLatin1_aae02_3 (by decide) (fun c1 => ?_) (fun c1 => ?_)
  · have h := h.1 c1
    refine q_iconst (pc := 17) C 0 dJ5_isLatin1_aae02_17 (by decide) ?_
    exact q_zret (pc := 18) C hr hlocks ⟨(by decide), h⟩ dJ5_isLatin1_aae02_18 (by omega) (by omega)
  · have h := h.2 c1
    refine q_aload_n (pc := 6) C 0 0 dJ5_isLatin1_aae02_6 rfl rfl ?_
    refine q_gI (pc := 7) C h (T := TJ4) rfl (by decide) (wk_u rfl wm_J5_isLatin1_aae02 uq_J4 (by decide +kernel)) (by decide +kernel) (fun _ h9 => h9) dJ5_isLatin1_aae02_7 (fun x2 h => ?_)
    refine q_if_ne (pc := 10) C 17 dJ5_isLatin1_aae02_10 (by decide) (fun c3 => ?_) (fun c3 => ?_)
    · have h := h.2 c3
      refine q_iconst (pc := 17) C 0 dJ5_isLatin1_aae02_17 (by decide) ?_
      exact q_zret (pc := 18) C hr hlocks ⟨(by decide), h⟩ dJ5_isLatin1_aae02_18 (by omega) (by omega)
    · have h := h.1 c3
      refine q_iconst (pc := 13) C 1 dJ5_isLatin1_aae02_13 (by decide) ?_
      refine q_goto (pc := 14) C 18 dJ5_isLatin1_aae02_14 (by decide) ?_
      exact q_zret (pc := 18) C hr hlocks ⟨(by decide), h⟩ dJ5_isLatin1_aae02_18 (by omega) (by omega)
set_option maxRecDepth 100000 in
set_option maxHeartbeats 4000000 in
theorem kJ5_isLatin1_aae02 (l : Launch) (G : mG) (b0 : Nat) {g : Nat → Nat} (hg : G.2.2 = g) {b : Nat} {M : mM} {κ : Int32 → mM → Prop} (h : wJ5_isLatin1_aae02 g κ (some b) M) : Met l yJ5_isLatin1_aae02 wsJ5_isLatin1_aae02 ({ frames := 0, cells := 0, slots := 0, locals := 0 } : Room) (va_Pc [.ref b] (m_Pre G b0 M)) (va_Qi κ (m_B G b0) (fun q => b0 ≤ q)) 0 0 (fun q => b0 ≤ q) := by
  refine m_met (cc := cJ5_isLatin1_aae02) (maxL := 1) (ret := (some .boolean)) (lv := [(0, va_rf (some b))]) RJ5 rfl (by decide +kernel) rfl (by first | exact Nat.le_of_ble_eq_true rfl | simp [lg_sl, q_cat, q_catI, q_catJ, q_catR, q_catN]) (by first | rfl | (simp [lv_args, q_cat, q_catI, q_catJ, q_catR, q_catN]; done) | (simp [lv_args, q_cat, q_catI, q_catJ, q_catR, q_catN]; rfl)) ?_
  intro p e s m args below meth c C hr hlocks hni
  exact tJ5_isLatin1_aae02 C hr hlocks hg h
/-! J5_init_d00df -/
set_option maxRecDepth 100000 in
set_option maxHeartbeats 4000000 in
theorem tJ5_init_d00df {p : Program} {l : Launch} {e : Env} {s : State} {m : MethodId} {args : Array Value} {below : List Frame} {meth : Method} {c : Code} {G : mG} {b0 : Nat} (C : m_C p s m args c cJ5_init_d00df 2 RJ5 wsJ5_init_d00df G b0) (hr : meth.sig.returnType = none) (hlocks : meth.locks = false) {g : Nat → Nat} (hg : G.2.2 = g) {K B : Nat} (hni : meth.name = "<init>") {κ : mM → Prop} {l0 : Option Nat} {l1 : Int32} {M : mM} (h : wJ5_init_d00df g K B κ l0 l1 M) : m_W p l e ({ frames := 1, cells := K, slots := B, locals := 20 } : Room) s m args below meth c G b0 (MQ below (va_Qv κ (m_B G b0) (fun q => b0 ≤ q)) args s K B (fun q => b0 ≤ q)) 2 M 0 0 0 [(0, va_rf l0), (1, .int l1)] [] := by
  unfold wJ5_init_d00df at h
  refine q_aload_n (pc := 0) C 0 0 dJ5_init_d00df_0 rfl rfl ?_
  obtain ⟨b9, hb9, h⟩ := h
  refine q_objInit (pc := 1) C hb9 (by decide +kernel) (by decide +kernel) (by decide +kernel) dJ5_init_d00df_1 (Nat.le_of_ble_eq_true rfl) (by first | exact Nat.le_of_ble_eq_true rfl | (simp [q_cat, q_catI, q_catJ, q_catR, q_catN]; done) | (simp [q_cat, q_catI, q_catJ, q_catR, q_catN]; decide)) ?_
  refine q_gets (pc := 4) C hg (.int 1) (List.mem_of_getElem? (i := 5) rfl) (by decide +kernel) dJ5_init_d00df_4 ?_
  refine q_if_eq (pc := 7) C 25 dJ5_init_d00df_7 (by decide) (fun c1 => ?_) (fun c1 => ?_)
  · have h := h.1 c1
    refine q_aload_n (pc := 25) C 0 0 dJ5_init_d00df_25 rfl rfl ?_
    refine q_iload_n (pc := 26) C 1 1 dJ5_init_d00df_26 rfl rfl ?_
    exact h.elim
  · have h := h.2 c1
    refine q_aload_n (pc := 10) C 0 0 dJ5_init_d00df_10 rfl rfl ?_
    refine q_iload_n (pc := 11) C 1 1 dJ5_init_d00df_11 rfl rfl ?_
    obtain ⟨B4, hB1, h⟩ := h
    obtain ⟨hbk, h⟩ := h
    refine q_newI (pc := 12) C h (ty := .byte) rfl (ak := 6) rfl (by decide) hB1 rfl (by decide) (fun _ => m_raB) (by decide +kernel) (by first | omega | (dsimp only; omega)) (by first | omega | (dsimp only; omega)) dJ5_init_d00df_12 (fun q2 M3 h => ?_)
    refine q_p (pc := 14) C h (.array .byte) (T := TJ4) tyJ4 tyJ4_ok nmJ4 rfl (by decide +kernel) (q_nrA _ _) (q_ftA _ _) rfl (by decide) (wk_u rfl wm_J5_init_d00df uq_J4 (by decide +kernel)) (by decide +kernel) (fun _ h9 => h9) rfl dJ5_init_d00df_14 (fun M5 h => ?_)
    refine q_aload_n (pc := 17) C 0 0 dJ5_init_d00df_17 rfl rfl ?_
    refine q_iconst (pc := 18) C 0 dJ5_init_d00df_18 (by decide) ?_
    refine q_p (pc := 19) C h .byte (T := TJ4) tyJ4 tyJ4_ok nmJ4 rfl (by decide +kernel) (by decide) (by decide) rfl (by decide) (wk_u rfl wm_J5_init_d00df uq_J4 (by decide +kernel)) (by decide +kernel) (fun _ h9 => h9) rfl dJ5_init_d00df_19 (fun M6 h => ?_)
    refine q_goto (pc := 22) C 38 dJ5_init_d00df_22 (by decide) ?_
    obtain ⟨hbk, h⟩ := h
    exact q_vret (pc := 38) C hr hlocks h dJ5_init_d00df_38 (by omega) (by omega)
set_option maxRecDepth 100000 in
set_option maxHeartbeats 4000000 in
theorem kJ5_init_d00df (l : Launch) (G : mG) (b0 : Nat) {g : Nat → Nat} (hg : G.2.2 = g) {K B : Nat} {b : Nat} {l1 : Int32} {M : mM} {κ : mM → Prop} (h : wJ5_init_d00df g K B κ (some b) l1 M) : Met l yJ5_init_d00df wsJ5_init_d00df ({ frames := 1, cells := K, slots := B, locals := 20 } : Room) (va_Pc [.ref b, .int l1] (m_Pre G b0 M)) (va_Qv κ (m_B G b0) (fun q => b0 ≤ q)) K B (fun q => b0 ≤ q) := by
  refine m_met (cc := cJ5_init_d00df) (maxL := 2) (ret := none) (lv := [(0, va_rf (some b)), (1, .int l1)]) RJ5 rfl (by decide +kernel) rfl (by first | exact Nat.le_of_ble_eq_true rfl | simp [lg_sl, q_cat, q_catI, q_catJ, q_catR, q_catN]) (by first | rfl | (simp [lv_args, q_cat, q_catI, q_catJ, q_catR, q_catN]; done) | (simp [lv_args, q_cat, q_catI, q_catJ, q_catR, q_catN]; rfl)) ?_
  intro p e s m args below meth c C hr hlocks hni
  exact tJ5_init_d00df C hr hlocks hg hni h
/-! J4_init_da8c8 -/
set_option maxRecDepth 100000 in
set_option maxHeartbeats 4000000 in
theorem tJ4_init_da8c8 {p : Program} {l : Launch} {e : Env} {s : State} {m : MethodId} {args : Array Value} {below : List Frame} {meth : Method} {c : Code} {G : mG} {b0 : Nat} (C : m_C p s m args c cJ4_init_da8c8 1 RJ4 wsJ4_init_da8c8 G b0) (hr : meth.sig.returnType = none) (hlocks : meth.locks = false) {g : Nat → Nat} (hg : G.2.2 = g) {K B : Nat} (hni : meth.name = "<init>") {κ : mM → Prop} {l0 : Option Nat} {M : mM} (h : wJ4_init_da8c8 g K B κ l0 M) : m_W p l e ({ frames := 2, cells := K, slots := B, locals := 41 } : Room) s m args below meth c G b0 (MQ below (va_Qv κ (m_B G b0) (fun q => b0 ≤ q)) args s K B (fun q => b0 ≤ q)) 1 M 0 0 0 [(0, va_rf l0)] [] := by
  unfold wJ4_init_da8c8 at h
  refine q_aload_n (pc := 0) C 0 0 dJ4_init_da8c8_0 rfl rfl ?_
  refine q_bipush (pc := 1) C 16 dJ4_init_da8c8_1 (by decide) ?_
  obtain ⟨K1, B2, h⟩ := h
  obtain ⟨hbk, h⟩ := h
  obtain ⟨b4, fs9, hb4, hm9, h⟩ := h
  refine q_cv (pc := 3) (q_rI C (st := []) (b := b4) (kJ5_init_d00df l G b0 hg h) (cwI 1 C.2.2.2.2.1 gJ4_init_da8c8_J5_init_d00df rfl rfl rfl (C.2.2.2.2.1 (.initialized RJ5) (by decide +kernel)) (C.2.2.2.2.1 (.methodLink RJ4 1 yJ5_init_d00df) (by decide +kernel)) (C.2.2.2.2.1 (.instanceMethod yJ5_init_d00df) (by decide +kernel)) rfl (by decide +kernel) ⟨Nat.le_of_ble_eq_true rfl, Nat.le_of_ble_eq_true rfl⟩) rfl (by first | exact Nat.le_of_ble_eq_true rfl | (simp [q_cat, q_catI, q_catJ, q_catR, q_catN]; done)) (by rw [hb4]; first | done | rfl) dJ4_init_da8c8_3 ⟨(by first | omega | (dsimp only; omega)), (by first | omega | (dsimp only; omega))⟩) (fun M3 h => ?_)
  obtain ⟨hbk, h⟩ := h
  exact q_vret (pc := 6) C hr hlocks h dJ4_init_da8c8_6 (by omega) (by omega)
set_option maxRecDepth 100000 in
set_option maxHeartbeats 4000000 in
theorem kJ4_init_da8c8 (l : Launch) (G : mG) (b0 : Nat) {g : Nat → Nat} (hg : G.2.2 = g) {K B : Nat} {b : Nat} {M : mM} {κ : mM → Prop} (h : wJ4_init_da8c8 g K B κ (some b) M) : Met l yJ4_init_da8c8 wsJ4_init_da8c8 ({ frames := 2, cells := K, slots := B, locals := 41 } : Room) (va_Pc [.ref b] (m_Pre G b0 M)) (va_Qv κ (m_B G b0) (fun q => b0 ≤ q)) K B (fun q => b0 ≤ q) := by
  refine m_met (cc := cJ4_init_da8c8) (maxL := 1) (ret := none) (lv := [(0, va_rf (some b))]) RJ4 rfl (by decide +kernel) rfl (by first | exact Nat.le_of_ble_eq_true rfl | simp [lg_sl, q_cat, q_catI, q_catJ, q_catR, q_catN]) (by first | rfl | (simp [lv_args, q_cat, q_catI, q_catJ, q_catR, q_catN]; done) | (simp [lv_args, q_cat, q_catI, q_catJ, q_catR, q_catN]; rfl)) ?_
  intro p e s m args below meth c C hr hlocks hni
  exact tJ4_init_da8c8 C hr hlocks hg hni h
/-! J5_newCapacity_0f7a4 -/
set_option maxRecDepth 100000 in
set_option maxHeartbeats 4000000 in
theorem tJ5_newCapacity_0f7a4 {p : Program} {l : Launch} {e : Env} {s : State} {m : MethodId} {args : Array Value} {below : List Frame} {meth : Method} {c : Code} {G : mG} {b0 : Nat} (C : m_C p s m args c cJ5_newCapacity_0f7a4 6 RJ5 wsJ5_newCapacity_0f7a4 G b0) (hr : meth.sig.returnType = (some .int)) (hlocks : meth.locks = false) {κ : Int32 → mM → Prop} {l0 : Option Nat} {l1 : Int32} {M : mM} (h : wJ5_newCapacity_0f7a4 κ l0 l1 M) : m_W p l e ({ frames := 2, cells := 0, slots := 0, locals := 63 } : Room) s m args below meth c G b0 (MQ below (va_Qi κ (m_B G b0) (fun q => b0 ≤ q)) args s 0 0 (fun q => b0 ≤ q)) 6 M 0 0 0 [(0, va_rf l0), (1, .int l1)] [] := by
  unfold wJ5_newCapacity_0f7a4 at h
  refine q_aload_n (pc := 0) C 0 0 dJ5_newCapacity_0f7a4_0 rfl rfl ?_
  refine q_gR (pc := 1) C h (T := TJ4) rfl (by decide) (wk_u rfl wm_J5_newCapacity_0f7a4 uq_J4 (by decide +kernel)) (by decide +kernel) (fun _ h9 => h9) dJ5_newCapacity_0f7a4_1 (fun x1 h => ?_)
  refine q_len (pc := 4) C h dJ5_newCapacity_0f7a4_4 (fun x2 h => ?_)
  refine q_istore_n (pc := 5) C 2 [(2, .int x2), (0, va_rf l0), (1, .int l1)] dJ5_newCapacity_0f7a4_5 rfl (by decide) (by first | rfl | simp [q_cat, q_catI, q_catJ, q_catR, q_catN]) ?_
  refine q_iload_n (pc := 6) C 1 2 dJ5_newCapacity_0f7a4_6 rfl rfl ?_
  refine q_aload_n (pc := 7) C 0 1 dJ5_newCapacity_0f7a4_7 rfl rfl ?_
  refine q_gI (pc := 8) C h (T := TJ4) rfl (by decide) (wk_u rfl wm_J5_newCapacity_0f7a4 uq_J4 (by decide +kernel)) (by decide +kernel) (fun _ h9 => h9) dJ5_newCapacity_0f7a4_8 (fun x3 h => ?_)
  refine q_ishl (pc := 11) C dJ5_newCapacity_0f7a4_11 ?_
  refine m_stk (st2 := .int (m_shl l1 x3) :: _) rfl ?_
  refine q_istore_n (pc := 12) C 3 [(3, .int (m_shl l1 x3)), (2, .int x2), (0, va_rf l0), (1, .int l1)] dJ5_newCapacity_0f7a4_12 rfl (by decide) (by first | rfl | simp [q_cat, q_catI, q_catJ, q_catR, q_catN]) ?_
  refine q_iload_n (pc := 13) C 3 0 dJ5_newCapacity_0f7a4_13 rfl rfl ?_
  refine q_iload_n (pc := 14) C 2 1 dJ5_newCapacity_0f7a4_14 rfl rfl ?_
  refine q_isub (pc := 15) C dJ5_newCapacity_0f7a4_15 ?_
  refine q_istore (pc := 16) C 4 [(4, .int ((m_shl l1 x3) - x2)), (3, .int (m_shl l1 x3)), (2, .int x2), (0, va_rf l0), (1, .int l1)] dJ5_newCapacity_0f7a4_16 (by decide) (by first | rfl | simp [q_cat, q_catI, q_catJ, q_catR, q_catN]) ?_
  refine q_iload_n (pc := 18) C 2 2 dJ5_newCapacity_0f7a4_18 rfl rfl ?_
  refine q_iload (pc := 19) C 4 0 dJ5_newCapacity_0f7a4_19 rfl ?_
  refine q_iload_n (pc := 21) C 2 2 dJ5_newCapacity_0f7a4_21 rfl rfl ?_
  refine q_iconst (pc := 22) C 2 dJ5_newCapacity_0f7a4_22 (by decide) ?_
  refine q_aload_n (pc := 23) C 0 3 dJ5_newCapacity_0f7a4_23 rfl rfl ?_
  refine q_gI (pc := 24) C h (T := TJ4) rfl (by decide) (wk_u rfl wm_J5_newCapacity_0f7a4 uq_J4 (by decide +kernel)) (by decide +kernel) (fun _ h9 => h9) dJ5_newCapacity_0f7a4_24 (fun x4 h => ?_)
  refine q_ishl (pc := 27) C dJ5_newCapacity_0f7a4_27 ?_
  refine m_stk (st2 := .int (m_shl 2 x4) :: _) rfl ?_
  refine q_iadd (pc := 28) C dJ5_newCapacity_0f7a4_28 ?_
  refine q_ci (pc := 29) (q_rS C (st := []) (kJ8_newLength_cabcc l G b0 h) (va_cwS 3 C.2.2.2.2.1 gJ5_newCapacity_0f7a4_J8_newLength_cabcc rfl rfl rfl (by decide +kernel) ⟨Nat.le_of_ble_eq_true rfl, Nat.le_of_ble_eq_true rfl⟩) rfl (by first | exact Nat.le_of_ble_eq_true rfl | (simp [q_cat, q_catI, q_catJ, q_catR, q_catN]; done)) rfl dJ5_newCapacity_0f7a4_29 ⟨(by first | omega | (dsimp only; omega)), (by first | omega | (dsimp only; omega))⟩) (fun x5 M6 h => ?_)
  refine q_istore (pc := 32) C 5 [(5, .int x5), (4, .int ((m_shl l1 x3) - x2)), (3, .int (m_shl l1 x3)), (2, .int x2), (0, va_rf l0), (1, .int l1)] dJ5_newCapacity_0f7a4_32 (by decide) (by first | rfl | simp [q_cat, q_catI, q_catJ, q_catR, q_catN]) ?_
  refine q_iload (pc := 34) C 5 0 dJ5_newCapacity_0f7a4_34 rfl ?_
  refine q_ldc (pc := 36) C 2147483647 (by decide +kernel) dJ5_newCapacity_0f7a4_36 ?_
  refine q_icmp_ne (pc := 38) C 51 dJ5_newCapacity_0f7a4_38 (by decide) (fun c7 => ?_) (fun c7 => ?_)
  · have h := h.2 c7
    refine q_iload (pc := 51) C 5 0 dJ5_newCapacity_0f7a4_51 rfl ?_
    refine q_aload_n (pc := 53) C 0 4 dJ5_newCapacity_0f7a4_53 rfl rfl ?_
    refine q_gI (pc := 54) C h (T := TJ4) rfl (by decide) (wk_u rfl wm_J5_newCapacity_0f7a4 uq_J4 (by decide +kernel)) (by decide +kernel) (fun _ h9 => h9) dJ5_newCapacity_0f7a4_54 (fun x8 h => ?_)
    refine q_ishr (pc := 57) C dJ5_newCapacity_0f7a4_57 ?_
    refine m_stk (st2 := .int (m_shr x5 x8) :: _) rfl ?_
    exact q_iret (pc := 58) C hr hlocks h dJ5_newCapacity_0f7a4_58 (by omega) (by omega)
  · have h := h.1 c7
    exact h.elim
set_option maxRecDepth 100000 in
set_option maxHeartbeats 4000000 in
theorem kJ5_newCapacity_0f7a4 (l : Launch) (G : mG) (b0 : Nat) {b : Nat} {l1 : Int32} {M : mM} {κ : Int32 → mM → Prop} (h : wJ5_newCapacity_0f7a4 κ (some b) l1 M) : Met l yJ5_newCapacity_0f7a4 wsJ5_newCapacity_0f7a4 ({ frames := 2, cells := 0, slots := 0, locals := 63 } : Room) (va_Pc [.ref b, .int l1] (m_Pre G b0 M)) (va_Qi κ (m_B G b0) (fun q => b0 ≤ q)) 0 0 (fun q => b0 ≤ q) := by
  refine m_met (cc := cJ5_newCapacity_0f7a4) (maxL := 6) (ret := (some .int)) (lv := [(0, va_rf (some b)), (1, .int l1)]) RJ5 rfl (by decide +kernel) rfl (by first | exact Nat.le_of_ble_eq_true rfl | simp [lg_sl, q_cat, q_catI, q_catJ, q_catR, q_catN]) (by first | rfl | (simp [lv_args, q_cat, q_catI, q_catJ, q_catR, q_catN]; done) | (simp [lv_args, q_cat, q_catI, q_catJ, q_catR, q_catN]; rfl)) ?_
  intro p e s m args below meth c C hr hlocks hni
  exact tJ5_newCapacity_0f7a4 C hr hlocks h
/-! J5_ensureCapacityInternal_d00df -/
set_option maxRecDepth 100000 in
set_option maxHeartbeats 4000000 in
theorem tJ5_ensureCapacityInternal_d00df {p : Program} {l : Launch} {e : Env} {s : State} {m : MethodId} {args : Array Value} {below : List Frame} {meth : Method} {c : Code} {G : mG} {b0 : Nat} (C : m_C p s m args c cJ5_ensureCapacityInternal_d00df 3 RJ5 wsJ5_ensureCapacityInternal_d00df G b0) (hr : meth.sig.returnType = none) (hlocks : meth.locks = false) {K B : Nat} {κ : mM → Prop} {l0 : Option Nat} {l1 : Int32} {M : mM} (h : wJ5_ensureCapacityInternal_d00df K B κ l0 l1 M) : m_W p l e ({ frames := 3, cells := K, slots := B, locals := 88 } : Room) s m args below meth c G b0 (MQ below (va_Qv κ (m_B G b0) (fun q => b0 ≤ q)) args s K B (fun q => b0 ≤ q)) 3 M 0 0 0 [(0, va_rf l0), (1, .int l1)] [] := by
  unfold wJ5_ensureCapacityInternal_d00df at h
  refine q_aload_n (pc := 0) C 0 0 dJ5_ensureCapacityInternal_d00df_0 rfl rfl ?_
  refine q_gR (pc := 1) C h (T := TJ4) rfl (by decide) (wk_u rfl wm_J5_ensureCapacityInternal_d00df uq_J4 (by decide +kernel)) (by decide +kernel) (fun _ h9 => h9) dJ5_ensureCapacityInternal_d00df_1 (fun x1 h => ?_)
  refine q_len (pc := 4) C h dJ5_ensureCapacityInternal_d00df_4 (fun x2 h => ?_)
  refine q_aload_n (pc := 5) C 0 0 dJ5_ensureCapacityInternal_d00df_5 rfl rfl ?_
  refine q_gI (pc := 6) C h (T := TJ4) rfl (by decide) (wk_u rfl wm_J5_ensureCapacityInternal_d00df uq_J4 (by decide +kernel)) (by decide +kernel) (fun _ h9 => h9) dJ5_ensureCapacityInternal_d00df_6 (fun x3 h => ?_)
  refine q_ishr (pc := 9) C dJ5_ensureCapacityInternal_d00df_9 ?_
  refine m_stk (st2 := .int (m_shr x2 x3) :: _) rfl ?_
  refine q_istore_n (pc := 10) C 2 [(2, .int (m_shr x2 x3)), (0, va_rf l0), (1, .int l1)] dJ5_ensureCapacityInternal_d00df_10 rfl (by decide) (by first | rfl | simp [q_cat, q_catI, q_catJ, q_catR, q_catN]) ?_
  refine q_iload_n (pc := 11) C 1 2 dJ5_ensureCapacityInternal_d00df_11 rfl rfl ?_
  refine q_iload_n (pc := 12) C 2 0 dJ5_ensureCapacityInternal_d00df_12 rfl rfl ?_
  refine q_isub (pc := 13) C dJ5_ensureCapacityInternal_d00df_13 ?_
  refine q_if_le (pc := 14) C 38 dJ5_ensureCapacityInternal_d00df_14 (by decide) (fun c4 => ?_) (fun c4 => ?_)
  · have h := h.1 c4
    obtain ⟨hbk, h⟩ := h
    exact q_vret (pc := 38) C hr hlocks h dJ5_ensureCapacityInternal_d00df_38 (by omega) (by omega)
  · have h := h.2 c4
    refine q_aload_n (pc := 17) C 0 1 dJ5_ensureCapacityInternal_d00df_17 rfl rfl ?_
    refine q_aload_n (pc := 18) C 0 1 dJ5_ensureCapacityInternal_d00df_18 rfl rfl ?_
    refine q_gR (pc := 19) C h (T := TJ4) rfl (by decide) (wk_u rfl wm_J5_ensureCapacityInternal_d00df uq_J4 (by decide +kernel)) (by decide +kernel) (fun _ h9 => h9) dJ5_ensureCapacityInternal_d00df_19 (fun x5 h => ?_)
    refine q_aload_n (pc := 22) C 0 1 dJ5_ensureCapacityInternal_d00df_22 rfl rfl ?_
    refine q_iload_n (pc := 23) C 1 2 dJ5_ensureCapacityInternal_d00df_23 rfl rfl ?_
    obtain ⟨b8, fs9, hb8, hm9, h⟩ := h
    refine q_ci (pc := 24) (q_rU C (st := [va_rf x5, va_rf l0]) (b := b8) (kJ5_newCapacity_0f7a4 l G b0 h) (va_cwU (x := ⟨"java/lang/AbstractStringBuilder", "newCapacity", "(I)I"⟩) 1 C.2.2.2.2.1 gJ5_ensureCapacityInternal_d00df_J5_newCapacity_0f7a4_u104J4 rfl rfl rfl rfl (by decide +kernel) ⟨Nat.le_of_ble_eq_true rfl, Nat.le_of_ble_eq_true rfl⟩) hm9 rfl rfl rfl (by first | exact Nat.le_of_ble_eq_true rfl | (simp [q_cat, q_catI, q_catJ, q_catR, q_catN]; done)) (by rw [hb8]; first | done | rfl) dJ5_ensureCapacityInternal_d00df_24 ⟨(by first | omega | (dsimp only; omega)), (by first | omega | (dsimp only; omega))⟩) (fun x6 M7 h => ?_)
    refine q_aload_n (pc := 27) C 0 1 dJ5_ensureCapacityInternal_d00df_27 rfl rfl ?_
    refine q_gI (pc := 28) C h (T := TJ4) rfl (by decide) (wk_u rfl wm_J5_ensureCapacityInternal_d00df uq_J4 (by decide +kernel)) (by decide +kernel) (fun _ h9 => h9) dJ5_ensureCapacityInternal_d00df_28 (fun x9 h => ?_)
    refine q_ishl (pc := 31) C dJ5_ensureCapacityInternal_d00df_31 ?_
    refine m_stk (st2 := .int (m_shl x6 x9) :: _) rfl ?_
    obtain ⟨K10, B11, h⟩ := h
    obtain ⟨hbk, h⟩ := h
    refine q_cq (pc := 32) (q_rS C (st := [va_rf l0]) (kJ7_copyOf_9075b l G b0 h) (va_cwS 2 C.2.2.2.2.1 gJ5_ensureCapacityInternal_d00df_J7_copyOf_9075b rfl rfl rfl (by decide +kernel) ⟨Nat.le_of_ble_eq_true rfl, Nat.le_of_ble_eq_true rfl⟩) rfl (by first | exact Nat.le_of_ble_eq_true rfl | (simp [q_cat, q_catI, q_catJ, q_catR, q_catN]; done)) rfl dJ5_ensureCapacityInternal_d00df_32 ⟨(by first | omega | (dsimp only; omega)), (by first | omega | (dsimp only; omega))⟩) (fun x12 M13 h => ?_)
    refine q_p (pc := 35) C h (.array .byte) (T := TJ4) tyJ4 tyJ4_ok nmJ4 rfl (by decide +kernel) (q_nrA _ _) (q_ftA _ _) rfl (by decide) (wk_u rfl wm_J5_ensureCapacityInternal_d00df uq_J4 (by decide +kernel)) (by decide +kernel) (fun _ h9 => h9) rfl dJ5_ensureCapacityInternal_d00df_35 (fun M14 h => ?_)
    obtain ⟨hbk, h⟩ := h
    exact q_vret (pc := 38) C hr hlocks h dJ5_ensureCapacityInternal_d00df_38 (by omega) (by omega)
set_option maxRecDepth 100000 in
set_option maxHeartbeats 4000000 in
theorem kJ5_ensureCapacityInternal_d00df (l : Launch) (G : mG) (b0 : Nat) {K B : Nat} {b : Nat} {l1 : Int32} {M : mM} {κ : mM → Prop} (h : wJ5_ensureCapacityInternal_d00df K B κ (some b) l1 M) : Met l yJ5_ensureCapacityInternal_d00df wsJ5_ensureCapacityInternal_d00df ({ frames := 3, cells := K, slots := B, locals := 88 } : Room) (va_Pc [.ref b, .int l1] (m_Pre G b0 M)) (va_Qv κ (m_B G b0) (fun q => b0 ≤ q)) K B (fun q => b0 ≤ q) := by
  refine m_met (cc := cJ5_ensureCapacityInternal_d00df) (maxL := 3) (ret := none) (lv := [(0, va_rf (some b)), (1, .int l1)]) RJ5 rfl (by decide +kernel) rfl (by first | exact Nat.le_of_ble_eq_true rfl | simp [lg_sl, q_cat, q_catI, q_catJ, q_catR, q_catN]) (by first | rfl | (simp [lv_args, q_cat, q_catI, q_catJ, q_catR, q_catN]; done) | (simp [lv_args, q_cat, q_catI, q_catJ, q_catR, q_catN]; rfl)) ?_
  intro p e s m args below meth c C hr hlocks hni
  exact tJ5_ensureCapacityInternal_d00df C hr hlocks h
/-! J5_inflateIfNeededFor_a7421 -/
set_option maxRecDepth 100000 in
set_option maxHeartbeats 4000000 in
theorem tJ5_inflateIfNeededFor_a7421 {p : Program} {l : Launch} {e : Env} {s : State} {m : MethodId} {args : Array Value} {below : List Frame} {meth : Method} {c : Code} {G : mG} {b0 : Nat} (C : m_C p s m args c cJ5_inflateIfNeededFor_a7421 2 RJ5 wsJ5_inflateIfNeededFor_a7421 G b0) (hr : meth.sig.returnType = none) (hlocks : meth.locks = false) {g : Nat → Nat} (hg : G.2.2 = g) {κ : mM → Prop} {l0 : Option Nat} {l1 : Option Nat} {M : mM} (h : wJ5_inflateIfNeededFor_a7421 g κ l0 l1 M) : m_W p l e ({ frames := 1, cells := 0, slots := 0, locals := 20 } : Room) s m args below meth c G b0 (MQ below (va_Qv κ (m_B G b0) (fun q => b0 ≤ q)) args s 0 0 (fun q => b0 ≤ q)) 2 M 0 0 0 [(0, va_rf l0), (1, va_rf l1)] [] := by
  unfold wJ5_inflateIfNeededFor_a7421 at h
  refine q_gets (pc := 0) C hg (.int 1) (List.mem_of_getElem? (i := 5) rfl) (by decide +kernel) dJ5_inflateIfNeededFor_a7421_0 ?_
  refine q_if_eq (pc := 3) C 21 dJ5_inflateIfNeededFor_a7421_3 (by decide) (fun c1 => ?_) (fun c1 => ?_)
  · have h := h.1 c1
    exact q_vret (pc := 21) C hr hlocks h dJ5_inflateIfNeededFor_a7421_21 (by omega) (by omega)
  · have h := h.2 c1
    refine q_aload_n (pc := 6) C 0 0 dJ5_inflateIfNeededFor_a7421_6 rfl rfl ?_
    refine q_gI (pc := 7) C h (T := TJ4) rfl (by decide) (wk_u rfl wm_J5_inflateIfNeededFor_a7421 uq_J4 (by decide +kernel)) (by decide +kernel) (fun _ h9 => h9) dJ5_inflateIfNeededFor_a7421_7 (fun x2 h => ?_)
    refine q_aload_n (pc := 10) C 1 1 dJ5_inflateIfNeededFor_a7421_10 rfl rfl ?_
    obtain ⟨b5, fs9, hb5, hm9, h⟩ := h
    refine q_ci (pc := 11) (q_rV C (st := [.int x2]) (b := b5) (kJ0_coder_7d493 l G b0 hg h) (cwV 0 C.2.2.2.2.1 gJ5_inflateIfNeededFor_a7421_J0_coder_7d493 rfl rfl rfl (by decide +kernel) ⟨Nat.le_of_ble_eq_true rfl, Nat.le_of_ble_eq_true rfl⟩) hm9 rfl rfl rfl (by first | exact Nat.le_of_ble_eq_true rfl | (simp [q_cat, q_catI, q_catJ, q_catR, q_catN]; done)) (by rw [hb5]; first | done | rfl) dJ5_inflateIfNeededFor_a7421_11 ⟨(by first | omega | (dsimp only; omega)), (by first | omega | (dsimp only; omega))⟩) (fun x3 M4 h => ?_)
    refine q_icmp_eq (pc := 14) C 21 dJ5_inflateIfNeededFor_a7421_14 (by decide) (fun c6 => ?_) (fun c6 => ?_)
    · have h := h.1 c6
      exact q_vret (pc := 21) C hr hlocks h dJ5_inflateIfNeededFor_a7421_21 (by omega) (by omega)
    · have h := h.2 c6
      refine q_aload_n (pc := 17) C 0 0 dJ5_inflateIfNeededFor_a7421_17 rfl rfl ?_
      exact h.elim
set_option maxRecDepth 100000 in
set_option maxHeartbeats 4000000 in
theorem kJ5_inflateIfNeededFor_a7421 (l : Launch) (G : mG) (b0 : Nat) {g : Nat → Nat} (hg : G.2.2 = g) {b : Nat} {l1 : Option Nat} {M : mM} {κ : mM → Prop} (h : wJ5_inflateIfNeededFor_a7421 g κ (some b) l1 M) : Met l yJ5_inflateIfNeededFor_a7421 wsJ5_inflateIfNeededFor_a7421 ({ frames := 1, cells := 0, slots := 0, locals := 20 } : Room) (va_Pc [.ref b, va_rf l1] (m_Pre G b0 M)) (va_Qv κ (m_B G b0) (fun q => b0 ≤ q)) 0 0 (fun q => b0 ≤ q) := by
  refine m_met (cc := cJ5_inflateIfNeededFor_a7421) (maxL := 2) (ret := none) (lv := [(0, va_rf (some b)), (1, va_rf l1)]) RJ5 rfl (by decide +kernel) rfl (by first | exact Nat.le_of_ble_eq_true rfl | simp [lg_sl, q_cat, q_catI, q_catJ, q_catR, q_catN]) (by first | rfl | (simp [lv_args, q_cat, q_catI, q_catJ, q_catR, q_catN]; done) | (simp [lv_args, q_cat, q_catI, q_catJ, q_catR, q_catN]; rfl)) ?_
  intro p e s m args below meth c C hr hlocks hni
  exact tJ5_inflateIfNeededFor_a7421 C hr hlocks hg h
/-! J5_putStringAt_47b60 -/
set_option maxRecDepth 100000 in
set_option maxHeartbeats 4000000 in
theorem tJ5_putStringAt_47b60 {p : Program} {l : Launch} {e : Env} {s : State} {m : MethodId} {args : Array Value} {below : List Frame} {meth : Method} {c : Code} {G : mG} {b0 : Nat} (C : m_C p s m args c cJ5_putStringAt_47b60 3 RJ5 wsJ5_putStringAt_47b60 G b0) (hr : meth.sig.returnType = none) (hlocks : meth.locks = false) {g : Nat → Nat} (hg : G.2.2 = g) {κ : mM → Prop} {l0 : Option Nat} {l1 : Int32} {l2 : Option Nat} {M : mM} (h : wJ5_putStringAt_47b60 g κ l0 l1 l2 M) : m_W p l e ({ frames := 2, cells := 0, slots := 0, locals := 63 } : Room) s m args below meth c G b0 (MQ below (va_Qv κ (m_B G b0) (fun q => b0 ≤ q)) args s 0 0 (fun q => b0 ≤ q)) 3 M 0 0 0 [(0, va_rf l0), (1, .int l1), (2, va_rf l2)] [] := by
  unfold wJ5_putStringAt_47b60 at h
  refine q_aload_n (pc := 0) C 0 0 dJ5_putStringAt_47b60_0 rfl rfl ?_
  refine q_aload_n (pc := 1) C 2 2 dJ5_putStringAt_47b60_1 rfl rfl ?_
  obtain ⟨b2, fs9, hb2, hm9, h⟩ := h
  refine q_cv (pc := 2) (q_rU C (st := []) (b := b2) (kJ5_inflateIfNeededFor_a7421 l G b0 hg h) (va_cwU (x := ⟨"java/lang/AbstractStringBuilder", "inflateIfNeededFor", "(Ljava/lang/String;)V"⟩) 1 C.2.2.2.2.1 gJ5_putStringAt_47b60_J5_inflateIfNeededFor_a7421_u397J4 rfl rfl rfl rfl (by decide +kernel) ⟨Nat.le_of_ble_eq_true rfl, Nat.le_of_ble_eq_true rfl⟩) hm9 rfl rfl rfl (by first | exact Nat.le_of_ble_eq_true rfl | (simp [q_cat, q_catI, q_catJ, q_catR, q_catN]; done)) (by rw [hb2]; first | done | rfl) dJ5_putStringAt_47b60_2 ⟨(by first | omega | (dsimp only; omega)), (by first | omega | (dsimp only; omega))⟩) (fun M1 h => ?_)
  refine q_aload_n (pc := 5) C 2 2 dJ5_putStringAt_47b60_5 rfl rfl ?_
  refine q_aload_n (pc := 6) C 0 0 dJ5_putStringAt_47b60_6 rfl rfl ?_
  refine q_gR (pc := 7) C h (T := TJ4) rfl (by decide) (wk_u rfl wm_J5_putStringAt_47b60 uq_J4 (by decide +kernel)) (by decide +kernel) (fun _ h9 => h9) dJ5_putStringAt_47b60_7 (fun x3 h => ?_)
  refine q_iload_n (pc := 10) C 1 1 dJ5_putStringAt_47b60_10 rfl rfl ?_
  refine q_aload_n (pc := 11) C 0 0 dJ5_putStringAt_47b60_11 rfl rfl ?_
  refine q_gI (pc := 12) C h (T := TJ4) rfl (by decide) (wk_u rfl wm_J5_putStringAt_47b60 uq_J4 (by decide +kernel)) (by decide +kernel) (fun _ h9 => h9) dJ5_putStringAt_47b60_12 (fun x4 h => ?_)
  obtain ⟨b6, fs9, hb6, hm9, h⟩ := h
  refine q_cv (pc := 15) (q_rV C (st := []) (b := b6) (kJ0_getBytes_840e7 l G b0 hg h) (cwV 3 C.2.2.2.2.1 gJ5_putStringAt_47b60_J0_getBytes_840e7 rfl rfl rfl (by decide +kernel) ⟨Nat.le_of_ble_eq_true rfl, Nat.le_of_ble_eq_true rfl⟩) hm9 rfl rfl rfl (by first | exact Nat.le_of_ble_eq_true rfl | (simp [q_cat, q_catI, q_catJ, q_catR, q_catN]; done)) (by rw [hb6]; first | done | rfl) dJ5_putStringAt_47b60_15 ⟨(by first | omega | (dsimp only; omega)), (by first | omega | (dsimp only; omega))⟩) (fun M5 h => ?_)
  exact q_vret (pc := 18) C hr hlocks h dJ5_putStringAt_47b60_18 (by omega) (by omega)
set_option maxRecDepth 100000 in
set_option maxHeartbeats 4000000 in
theorem kJ5_putStringAt_47b60 (l : Launch) (G : mG) (b0 : Nat) {g : Nat → Nat} (hg : G.2.2 = g) {b : Nat} {l1 : Int32} {l2 : Option Nat} {M : mM} {κ : mM → Prop} (h : wJ5_putStringAt_47b60 g κ (some b) l1 l2 M) : Met l yJ5_putStringAt_47b60 wsJ5_putStringAt_47b60 ({ frames := 2, cells := 0, slots := 0, locals := 63 } : Room) (va_Pc [.ref b, .int l1, va_rf l2] (m_Pre G b0 M)) (va_Qv κ (m_B G b0) (fun q => b0 ≤ q)) 0 0 (fun q => b0 ≤ q) := by
  refine m_met (cc := cJ5_putStringAt_47b60) (maxL := 3) (ret := none) (lv := [(0, va_rf (some b)), (1, .int l1), (2, va_rf l2)]) RJ5 rfl (by decide +kernel) rfl (by first | exact Nat.le_of_ble_eq_true rfl | simp [lg_sl, q_cat, q_catI, q_catJ, q_catR, q_catN]) (by first | rfl | (simp [lv_args, q_cat, q_catI, q_catJ, q_catR, q_catN]; done) | (simp [lv_args, q_cat, q_catI, q_catJ, q_catR, q_catN]; rfl)) ?_
  intro p e s m args below meth c C hr hlocks hni
  exact tJ5_putStringAt_47b60 C hr hlocks hg h
/-! J5_append_cf1ce -/
set_option maxRecDepth 100000 in
set_option maxHeartbeats 4000000 in
theorem tJ5_append_cf1ce {p : Program} {l : Launch} {e : Env} {s : State} {m : MethodId} {args : Array Value} {below : List Frame} {meth : Method} {c : Code} {G : mG} {b0 : Nat} (C : m_C p s m args c cJ5_append_cf1ce 3 RJ5 wsJ5_append_cf1ce G b0) (hr : meth.sig.returnType = (some (.object "java/lang/AbstractStringBuilder"))) (hlocks : meth.locks = false) {g : Nat → Nat} (hg : G.2.2 = g) {K B : Nat} {κ : Option Nat → mM → Prop} {l0 : Option Nat} {l1 : Option Nat} {M : mM} (h : wJ5_append_cf1ce g K B κ l0 l1 M) : m_W p l e ({ frames := 4, cells := K, slots := B, locals := 110 } : Room) s m args below meth c G b0 (MQ below (va_Qq κ (m_B G b0) (fun q => b0 ≤ q)) args s K B (fun q => b0 ≤ q)) 3 M 0 0 0 [(0, va_rf l0), (1, va_rf l1)] [] := by
  unfold wJ5_append_cf1ce at h
  refine q_aload_n (pc := 0) C 1 1 dJ5_append_cf1ce_0 rfl rfl ?_
  refine q_ifnonnull (pc := 1) C 9 dJ5_append_cf1ce_1 (by decide) (fun c1 => ?_) (fun c1 => ?_)
  · have h := h.2 c1
    refine q_aload_n (pc := 9) C 1 1 dJ5_append_cf1ce_9 rfl rfl ?_
    obtain ⟨b4, fs9, hb4, hm9, h⟩ := h
    refine q_ci (pc := 10) (q_rV C (st := []) (b := b4) (kJ0_length_8abf5 l G b0 hg h) (cwV 0 C.2.2.2.2.1 gJ5_append_cf1ce_J0_length_8abf5 rfl rfl rfl (by decide +kernel) ⟨Nat.le_of_ble_eq_true rfl, Nat.le_of_ble_eq_true rfl⟩) hm9 rfl rfl rfl (by first | exact Nat.le_of_ble_eq_true rfl | (simp [q_cat, q_catI, q_catJ, q_catR, q_catN]; done)) (by rw [hb4]; first | done | rfl) dJ5_append_cf1ce_10 ⟨(by first | omega | (dsimp only; omega)), (by first | omega | (dsimp only; omega))⟩) (fun x2 M3 h => ?_)
    refine q_istore_n (pc := 13) C 2 [(2, .int x2), (0, va_rf l0), (1, va_rf l1)] dJ5_append_cf1ce_13 rfl (by decide) (by first | rfl | simp [q_cat, q_catI, q_catJ, q_catR, q_catN]) ?_
    refine q_aload_n (pc := 14) C 0 1 dJ5_append_cf1ce_14 rfl rfl ?_
    refine q_aload_n (pc := 15) C 0 1 dJ5_append_cf1ce_15 rfl rfl ?_
    refine q_gI (pc := 16) C h (T := TJ4) rfl (by decide) (wk_u rfl wm_J5_append_cf1ce uq_J4 (by decide +kernel)) (by decide +kernel) (fun _ h9 => h9) dJ5_append_cf1ce_16 (fun x5 h => ?_)
    refine q_iload_n (pc := 19) C 2 0 dJ5_append_cf1ce_19 rfl rfl ?_
    refine q_iadd (pc := 20) C dJ5_append_cf1ce_20 ?_
    obtain ⟨K6, B7, h⟩ := h
    obtain ⟨hbk, h⟩ := h
    obtain ⟨b9, fs9, hb9, hm9, h⟩ := h
    refine q_cv (pc := 21) (q_rU C (st := []) (b := b9) (kJ5_ensureCapacityInternal_d00df l G b0 h) (va_cwU (x := ⟨"java/lang/AbstractStringBuilder", "ensureCapacityInternal", "(I)V"⟩) 1 C.2.2.2.2.1 gJ5_append_cf1ce_J5_ensureCapacityInternal_d00df_u100J4 rfl rfl rfl rfl (by decide +kernel) ⟨Nat.le_of_ble_eq_true rfl, Nat.le_of_ble_eq_true rfl⟩) hm9 rfl rfl rfl (by first | exact Nat.le_of_ble_eq_true rfl | (simp [q_cat, q_catI, q_catJ, q_catR, q_catN]; done)) (by rw [hb9]; first | done | rfl) dJ5_append_cf1ce_21 ⟨(by first | omega | (dsimp only; omega)), (by first | omega | (dsimp only; omega))⟩) (fun M8 h => ?_)
    refine q_aload_n (pc := 24) C 0 1 dJ5_append_cf1ce_24 rfl rfl ?_
    refine q_aload_n (pc := 25) C 0 1 dJ5_append_cf1ce_25 rfl rfl ?_
    refine q_gI (pc := 26) C h (T := TJ4) rfl (by decide) (wk_u rfl wm_J5_append_cf1ce uq_J4 (by decide +kernel)) (by decide +kernel) (fun _ h9 => h9) dJ5_append_cf1ce_26 (fun x10 h => ?_)
    refine q_aload_n (pc := 29) C 1 2 dJ5_append_cf1ce_29 rfl rfl ?_
    obtain ⟨b12, fs9, hb12, hm9, h⟩ := h
    refine q_cv (pc := 30) (q_rU C (st := []) (b := b12) (kJ5_putStringAt_47b60 l G b0 hg h) (va_cwU (x := ⟨"java/lang/AbstractStringBuilder", "putStringAt", "(ILjava/lang/String;)V"⟩) 2 C.2.2.2.2.1 gJ5_append_cf1ce_J5_putStringAt_47b60_u208J4 rfl rfl rfl rfl (by decide +kernel) ⟨Nat.le_of_ble_eq_true rfl, Nat.le_of_ble_eq_true rfl⟩) hm9 rfl rfl rfl (by first | exact Nat.le_of_ble_eq_true rfl | (simp [q_cat, q_catI, q_catJ, q_catR, q_catN]; done)) (by rw [hb12]; first | done | rfl) dJ5_append_cf1ce_30 ⟨(by first | omega | (dsimp only; omega)), (by first | omega | (dsimp only; omega))⟩) (fun M11 h => ?_)
    refine q_aload_n (pc := 33) C 0 1 dJ5_append_cf1ce_33 rfl rfl ?_
    refine q_dup (pc := 34) C dJ5_append_cf1ce_34 (q_cat _) ?_
    refine q_gI (pc := 35) C h (T := TJ4) rfl (by decide) (wk_u rfl wm_J5_append_cf1ce uq_J4 (by decide +kernel)) (by decide +kernel) (fun _ h9 => h9) dJ5_append_cf1ce_35 (fun x13 h => ?_)
    refine q_iload_n (pc := 38) C 2 0 dJ5_append_cf1ce_38 rfl rfl ?_
    refine q_iadd (pc := 39) C dJ5_append_cf1ce_39 ?_
    refine q_p (pc := 40) C h .int (T := TJ4) tyJ4 tyJ4_ok nmJ4 rfl (by decide +kernel) rfl rfl rfl (by decide) (wk_u rfl wm_J5_append_cf1ce uq_J4 (by decide +kernel)) (by decide +kernel) (fun _ h9 => h9) rfl dJ5_append_cf1ce_40 (fun M14 h => ?_)
    refine q_aload_n (pc := 43) C 0 1 dJ5_append_cf1ce_43 rfl rfl ?_
    obtain ⟨hbk, h⟩ := h
    exact q_aret (pc := 44) C hr (by first | exact Or.inl ⟨_, rfl⟩ | exact Or.inr ⟨_, rfl⟩) hlocks h dJ5_append_cf1ce_44 (by omega) (by omega)
  · have h := h.1 c1
    refine q_aload_n (pc := 4) C 0 0 dJ5_append_cf1ce_4 rfl rfl ?_
    exact h.elim
set_option maxRecDepth 100000 in
set_option maxHeartbeats 4000000 in
theorem kJ5_append_cf1ce (l : Launch) (G : mG) (b0 : Nat) {g : Nat → Nat} (hg : G.2.2 = g) {K B : Nat} {b : Nat} {l1 : Option Nat} {M : mM} {κ : Option Nat → mM → Prop} (h : wJ5_append_cf1ce g K B κ (some b) l1 M) : Met l yJ5_append_cf1ce wsJ5_append_cf1ce ({ frames := 4, cells := K, slots := B, locals := 110 } : Room) (va_Pc [.ref b, va_rf l1] (m_Pre G b0 M)) (va_Qq κ (m_B G b0) (fun q => b0 ≤ q)) K B (fun q => b0 ≤ q) := by
  refine m_met (cc := cJ5_append_cf1ce) (maxL := 3) (ret := (some (.object "java/lang/AbstractStringBuilder"))) (lv := [(0, va_rf (some b)), (1, va_rf l1)]) RJ5 rfl (by decide +kernel) rfl (by first | exact Nat.le_of_ble_eq_true rfl | simp [lg_sl, q_cat, q_catI, q_catJ, q_catR, q_catN]) (by first | rfl | (simp [lv_args, q_cat, q_catI, q_catJ, q_catR, q_catN]; done) | (simp [lv_args, q_cat, q_catI, q_catJ, q_catR, q_catN]; rfl)) ?_
  intro p e s m args below meth c C hr hlocks hni
  exact tJ5_append_cf1ce C hr hlocks hg h
/-! J5_append_3fe6f -/
set_option maxRecDepth 100000 in
set_option maxHeartbeats 4000000 in
theorem tJ5_append_3fe6f_56 {p : Program} {l : Launch} {e : Env} {s : State} {m : MethodId} {args : Array Value} {below : List Frame} {meth : Method} {c : Code} {G : mG} {b0 : Nat} (C : m_C p s m args c cJ5_append_3fe6f 2 RJ5 wsJ5_append_3fe6f G b0) (hr : meth.sig.returnType = (some (.object "java/lang/AbstractStringBuilder"))) (hlocks : meth.locks = false) {g : Nat → Nat} (hg : G.2.2 = g) {K B : Nat} {κ : Option Nat → mM → Prop} {k9 n9 : Nat} {l0 : Option Nat} {l1 : Int32} {M : mM} (h : wJ5_append_3fe6f_56 g K B κ k9 n9 l0 l1 M) : m_W p l e ({ frames := 4, cells := K, slots := B, locals := 110 } : Room) s m args below meth c G b0 (MQ below (va_Qq κ (m_B G b0) (fun q => b0 ≤ q)) args s K B (fun q => b0 ≤ q)) 2 M k9 n9 56 [(0, va_rf l0), (1, .int l1)] [] := by
  unfold wJ5_append_3fe6f_56 at h
  obtain ⟨hbk, h⟩ := h
  refine q_aload_n (pc := 56) C 0 0 dJ5_append_3fe6f_56 rfl rfl ?_
  refine q_gR (pc := 57) C h (T := TJ4) rfl (by decide) (wk_u rfl wm_J5_append_3fe6f uq_J4 (by decide +kernel)) (by decide +kernel) (fun _ h9 => h9) dJ5_append_3fe6f_57 (fun x1 h => ?_)
  refine q_aload_n (pc := 60) C 0 0 dJ5_append_3fe6f_60 rfl rfl ?_
  refine q_dup (pc := 61) C dJ5_append_3fe6f_61 (q_cat _) ?_
  refine q_gI (pc := 62) C h (T := TJ4) rfl (by decide) (wk_u rfl wm_J5_append_3fe6f uq_J4 (by decide +kernel)) (by decide +kernel) (fun _ h9 => h9) dJ5_append_3fe6f_62 (fun x2 h => ?_)
  refine q_dup_x1 (pc := 65) C dJ5_append_3fe6f_65 rfl (q_cat _) ?_
  refine q_iconst (pc := 66) C 1 dJ5_append_3fe6f_66 (by decide) ?_
  refine q_iadd (pc := 67) C dJ5_append_3fe6f_67 ?_
  refine q_p (pc := 68) C h .int (T := TJ4) tyJ4 tyJ4_ok nmJ4 rfl (by decide +kernel) rfl rfl rfl (by decide) (wk_u rfl wm_J5_append_3fe6f uq_J4 (by decide +kernel)) (by decide +kernel) (fun _ h9 => h9) rfl dJ5_append_3fe6f_68 (fun M3 h => ?_)
  refine q_iload_n (pc := 71) C 1 1 dJ5_append_3fe6f_71 rfl rfl ?_
  exact h.elim
set_option maxRecDepth 100000 in
set_option maxHeartbeats 4000000 in
theorem tJ5_append_3fe6f_45 {p : Program} {l : Launch} {e : Env} {s : State} {m : MethodId} {args : Array Value} {below : List Frame} {meth : Method} {c : Code} {G : mG} {b0 : Nat} (C : m_C p s m args c cJ5_append_3fe6f 2 RJ5 wsJ5_append_3fe6f G b0) (hr : meth.sig.returnType = (some (.object "java/lang/AbstractStringBuilder"))) (hlocks : meth.locks = false) {g : Nat → Nat} (hg : G.2.2 = g) {K B : Nat} {κ : Option Nat → mM → Prop} {k9 n9 : Nat} {l0 : Option Nat} {l1 : Int32} {M : mM} (h : wJ5_append_3fe6f_45 g K B κ k9 n9 l0 l1 M) : m_W p l e ({ frames := 4, cells := K, slots := B, locals := 110 } : Room) s m args below meth c G b0 (MQ below (va_Qq κ (m_B G b0) (fun q => b0 ≤ q)) args s K B (fun q => b0 ≤ q)) 2 M k9 n9 45 [(0, va_rf l0), (1, .int l1)] [] := by
  unfold wJ5_append_3fe6f_45 at h
  obtain ⟨hbk, h⟩ := h
  refine q_aload_n (pc := 45) C 0 0 dJ5_append_3fe6f_45 rfl rfl ?_
  obtain ⟨b3, fs9, hb3, hm9, h⟩ := h
  refine q_ci (pc := 46) (q_rU C (st := []) (b := b3) (kJ5_isLatin1_aae02 l G b0 hg h) (va_cwU (x := ⟨"java/lang/AbstractStringBuilder", "isLatin1", "()Z"⟩) 0 C.2.2.2.2.1 gJ5_append_3fe6f_J5_isLatin1_aae02_u83J4 rfl rfl rfl rfl (by decide +kernel) ⟨Nat.le_of_ble_eq_true rfl, Nat.le_of_ble_eq_true rfl⟩) hm9 rfl rfl rfl (by first | exact Nat.le_of_ble_eq_true rfl | (simp [q_cat, q_catI, q_catJ, q_catR, q_catN]; done)) (by rw [hb3]; first | done | rfl) dJ5_append_3fe6f_46 ⟨(by first | omega | (dsimp only; omega)), (by first | omega | (dsimp only; omega))⟩) (fun x1 M2 h => ?_)
  refine q_if_eq (pc := 49) C 56 dJ5_append_3fe6f_49 (by decide) (fun c4 => ?_) (fun c4 => ?_)
  · have h := h.1 c4
    refine q_lv [0, 1] rfl ?_
    exact tJ5_append_3fe6f_56 C hr hlocks hg h
  · have h := h.2 c4
    refine q_aload_n (pc := 52) C 0 0 dJ5_append_3fe6f_52 rfl rfl ?_
    exact h.elim
set_option maxRecDepth 100000 in
set_option maxHeartbeats 4000000 in
theorem tJ5_append_3fe6f {p : Program} {l : Launch} {e : Env} {s : State} {m : MethodId} {args : Array Value} {below : List Frame} {meth : Method} {c : Code} {G : mG} {b0 : Nat} (C : m_C p s m args c cJ5_append_3fe6f 2 RJ5 wsJ5_append_3fe6f G b0) (hr : meth.sig.returnType = (some (.object "java/lang/AbstractStringBuilder"))) (hlocks : meth.locks = false) {g : Nat → Nat} (hg : G.2.2 = g) {K B : Nat} {κ : Option Nat → mM → Prop} {l0 : Option Nat} {l1 : Int32} {M : mM} (h : wJ5_append_3fe6f g K B κ l0 l1 M) : m_W p l e ({ frames := 4, cells := K, slots := B, locals := 110 } : Room) s m args below meth c G b0 (MQ below (va_Qq κ (m_B G b0) (fun q => b0 ≤ q)) args s K B (fun q => b0 ≤ q)) 2 M 0 0 0 [(0, va_rf l0), (1, .int l1)] [] := by
  unfold wJ5_append_3fe6f at h
  refine q_aload_n (pc := 0) C 0 0 dJ5_append_3fe6f_0 rfl rfl ?_
  refine q_aload_n (pc := 1) C 0 0 dJ5_append_3fe6f_1 rfl rfl ?_
  refine q_gI (pc := 2) C h (T := TJ4) rfl (by decide) (wk_u rfl wm_J5_append_3fe6f uq_J4 (by decide +kernel)) (by decide +kernel) (fun _ h9 => h9) dJ5_append_3fe6f_2 (fun x1 h => ?_)
  refine q_iconst (pc := 5) C 1 dJ5_append_3fe6f_5 (by decide) ?_
  refine q_iadd (pc := 6) C dJ5_append_3fe6f_6 ?_
  obtain ⟨K2, B3, h⟩ := h
  obtain ⟨hbk, h⟩ := h
  obtain ⟨b5, fs9, hb5, hm9, h⟩ := h
  refine q_cv (pc := 7) (q_rU C (st := []) (b := b5) (kJ5_ensureCapacityInternal_d00df l G b0 h) (va_cwU (x := ⟨"java/lang/AbstractStringBuilder", "ensureCapacityInternal", "(I)V"⟩) 1 C.2.2.2.2.1 gJ5_append_3fe6f_J5_ensureCapacityInternal_d00df_u100J4 rfl rfl rfl rfl (by decide +kernel) ⟨Nat.le_of_ble_eq_true rfl, Nat.le_of_ble_eq_true rfl⟩) hm9 rfl rfl rfl (by first | exact Nat.le_of_ble_eq_true rfl | (simp [q_cat, q_catI, q_catJ, q_catR, q_catN]; done)) (by rw [hb5]; first | done | rfl) dJ5_append_3fe6f_7 ⟨(by first | omega | (dsimp only; omega)), (by first | omega | (dsimp only; omega))⟩) (fun M4 h => ?_)
  refine q_aload_n (pc := 10) C 0 0 dJ5_append_3fe6f_10 rfl rfl ?_
  obtain ⟨b8, fs9, hb8, hm9, h⟩ := h
  refine q_ci (pc := 11) (q_rU C (st := []) (b := b8) (kJ5_isLatin1_aae02 l G b0 hg h) (va_cwU (x := ⟨"java/lang/AbstractStringBuilder", "isLatin1", "()Z"⟩) 0 C.2.2.2.2.1 gJ5_append_3fe6f_J5_isLatin1_aae02_u83J4 rfl rfl rfl rfl (by decide +kernel) ⟨Nat.le_of_ble_eq_true rfl, Nat.le_of_ble_eq_true rfl⟩) hm9 rfl rfl rfl (by first | exact Nat.le_of_ble_eq_true rfl | (simp [q_cat, q_catI, q_catJ, q_catR, q_catN]; done)) (by rw [hb8]; first | done | rfl) dJ5_append_3fe6f_11 ⟨(by first | omega | (dsimp only; omega)), (by first | omega | (dsimp only; omega))⟩) (fun x6 M7 h => ?_)
  refine q_if_eq (pc := 14) C 45 dJ5_append_3fe6f_14 (by decide) (fun c9 => ?_) (fun c9 => ?_)
  · have h := h.1 c9
    refine q_lv [0, 1] rfl ?_
    exact tJ5_append_3fe6f_45 C hr hlocks hg h
  · have h := h.2 c9
    refine q_iload_n (pc := 17) C 1 1 dJ5_append_3fe6f_17 rfl rfl ?_
    refine q_ci (pc := 18) (q_rS C (st := []) (kJ1_canEncode_fc78d l G b0 h) (va_cwS 1 C.2.2.2.2.1 gJ5_append_3fe6f_J1_canEncode_fc78d rfl rfl rfl (by decide +kernel) ⟨Nat.le_of_ble_eq_true rfl, Nat.le_of_ble_eq_true rfl⟩) rfl (by first | exact Nat.le_of_ble_eq_true rfl | (simp [q_cat, q_catI, q_catJ, q_catR, q_catN]; done)) rfl dJ5_append_3fe6f_18 ⟨(by first | omega | (dsimp only; omega)), (by first | omega | (dsimp only; omega))⟩) (fun x10 M11 h => ?_)
    refine q_if_eq (pc := 21) C 45 dJ5_append_3fe6f_21 (by decide) (fun c12 => ?_) (fun c12 => ?_)
    · have h := h.1 c12
      refine q_lv [0, 1] rfl ?_
      exact tJ5_append_3fe6f_45 C hr hlocks hg h
    · have h := h.2 c12
      refine q_aload_n (pc := 24) C 0 0 dJ5_append_3fe6f_24 rfl rfl ?_
      refine q_gR (pc := 25) C h (T := TJ4) rfl (by decide) (wk_u rfl wm_J5_append_3fe6f uq_J4 (by decide +kernel)) (by decide +kernel) (fun _ h9 => h9) dJ5_append_3fe6f_25 (fun x13 h => ?_)
      refine q_aload_n (pc := 28) C 0 0 dJ5_append_3fe6f_28 rfl rfl ?_
      refine q_dup (pc := 29) C dJ5_append_3fe6f_29 (q_cat _) ?_
      refine q_gI (pc := 30) C h (T := TJ4) rfl (by decide) (wk_u rfl wm_J5_append_3fe6f uq_J4 (by decide +kernel)) (by decide +kernel) (fun _ h9 => h9) dJ5_append_3fe6f_30 (fun x14 h => ?_)
      refine q_dup_x1 (pc := 33) C dJ5_append_3fe6f_33 rfl (q_cat _) ?_
      refine q_iconst (pc := 34) C 1 dJ5_append_3fe6f_34 (by decide) ?_
      refine q_iadd (pc := 35) C dJ5_append_3fe6f_35 ?_
      refine q_p (pc := 36) C h .int (T := TJ4) tyJ4 tyJ4_ok nmJ4 rfl (by decide +kernel) rfl rfl rfl (by decide) (wk_u rfl wm_J5_append_3fe6f uq_J4 (by decide +kernel)) (by decide +kernel) (fun _ h9 => h9) rfl dJ5_append_3fe6f_36 (fun M15 h => ?_)
      refine q_iload_n (pc := 39) C 1 1 dJ5_append_3fe6f_39 rfl rfl ?_
      refine q_i2b (pc := 40) C dJ5_append_3fe6f_40 ?_
      refine q_bast (pc := 41) C h dJ5_append_3fe6f_41 (fun M16 h => ?_)
      refine q_goto (pc := 42) C 75 dJ5_append_3fe6f_42 (by decide) ?_
      refine q_aload_n (pc := 75) C 0 0 dJ5_append_3fe6f_75 rfl rfl ?_
      obtain ⟨hbk, h⟩ := h
      exact q_aret (pc := 76) C hr (by first | exact Or.inl ⟨_, rfl⟩ | exact Or.inr ⟨_, rfl⟩) hlocks h dJ5_append_3fe6f_76 (by omega) (by omega)
set_option maxRecDepth 100000 in
set_option maxHeartbeats 4000000 in
theorem kJ5_append_3fe6f (l : Launch) (G : mG) (b0 : Nat) {g : Nat → Nat} (hg : G.2.2 = g) {K B : Nat} {b : Nat} {l1 : Int32} {M : mM} {κ : Option Nat → mM → Prop} (h : wJ5_append_3fe6f g K B κ (some b) l1 M) : Met l yJ5_append_3fe6f wsJ5_append_3fe6f ({ frames := 4, cells := K, slots := B, locals := 110 } : Room) (va_Pc [.ref b, .int l1] (m_Pre G b0 M)) (va_Qq κ (m_B G b0) (fun q => b0 ≤ q)) K B (fun q => b0 ≤ q) := by
  refine m_met (cc := cJ5_append_3fe6f) (maxL := 2) (ret := (some (.object "java/lang/AbstractStringBuilder"))) (lv := [(0, va_rf (some b)), (1, .int l1)]) RJ5 rfl (by decide +kernel) rfl (by first | exact Nat.le_of_ble_eq_true rfl | simp [lg_sl, q_cat, q_catI, q_catJ, q_catR, q_catN]) (by first | rfl | (simp [lv_args, q_cat, q_catI, q_catJ, q_catR, q_catN]; done) | (simp [lv_args, q_cat, q_catI, q_catJ, q_catR, q_catN]; rfl)) ?_
  intro p e s m args below meth c C hr hlocks hni
  exact tJ5_append_3fe6f C hr hlocks hg h
/-! J5_append_c97b9 -/
set_option maxRecDepth 100000 in
set_option maxHeartbeats 4000000 in
theorem tJ5_append_c97b9_48 {p : Program} {l : Launch} {e : Env} {s : State} {m : MethodId} {args : Array Value} {below : List Frame} {meth : Method} {c : Code} {G : mG} {b0 : Nat} (C : m_C p s m args c cJ5_append_c97b9 4 RJ5 wsJ5_append_c97b9 G b0) (hr : meth.sig.returnType = (some (.object "java/lang/AbstractStringBuilder"))) (hlocks : meth.locks = false) {g : Nat → Nat} (hg : G.2.2 = g) {K B : Nat} {κ : Option Nat → mM → Prop} {k9 n9 : Nat} {l0 : Option Nat} {l3 : Int32} {M : mM} (h : wJ5_append_c97b9_48 g K B κ k9 n9 l0 l3 M) : m_W p l e ({ frames := 4, cells := K, slots := B, locals := 110 } : Room) s m args below meth c G b0 (MQ below (va_Qq κ (m_B G b0) (fun q => b0 ≤ q)) args s K B (fun q => b0 ≤ q)) 4 M k9 n9 48 [(0, va_rf l0), (3, .int l3)] [] := by
  unfold wJ5_append_c97b9_48 at h
  obtain ⟨hbk, h⟩ := h
  refine q_aload_n (pc := 48) C 0 0 dJ5_append_c97b9_48 rfl rfl ?_
  refine q_iload_n (pc := 49) C 3 1 dJ5_append_c97b9_49 rfl rfl ?_
  refine q_p (pc := 50) C h .int (T := TJ4) tyJ4 tyJ4_ok nmJ4 rfl (by decide +kernel) rfl rfl rfl (by decide) (wk_u rfl wm_J5_append_c97b9 uq_J4 (by decide +kernel)) (by decide +kernel) (fun _ h9 => h9) rfl dJ5_append_c97b9_50 (fun M1 h => ?_)
  refine q_aload_n (pc := 53) C 0 0 dJ5_append_c97b9_53 rfl rfl ?_
  obtain ⟨hbk, h⟩ := h
  exact q_aret (pc := 54) C hr (by first | exact Or.inl ⟨_, rfl⟩ | exact Or.inr ⟨_, rfl⟩) hlocks h dJ5_append_c97b9_54 (by omega) (by omega)
set_option maxRecDepth 100000 in
set_option maxHeartbeats 4000000 in
theorem tJ5_append_c97b9 {p : Program} {l : Launch} {e : Env} {s : State} {m : MethodId} {args : Array Value} {below : List Frame} {meth : Method} {c : Code} {G : mG} {b0 : Nat} (C : m_C p s m args c cJ5_append_c97b9 4 RJ5 wsJ5_append_c97b9 G b0) (hr : meth.sig.returnType = (some (.object "java/lang/AbstractStringBuilder"))) (hlocks : meth.locks = false) {g : Nat → Nat} (hg : G.2.2 = g) {K B : Nat} {κ : Option Nat → mM → Prop} {l0 : Option Nat} {l1 : Int32} {M : mM} (h : wJ5_append_c97b9 g K B κ l0 l1 M) : m_W p l e ({ frames := 4, cells := K, slots := B, locals := 110 } : Room) s m args below meth c G b0 (MQ below (va_Qq κ (m_B G b0) (fun q => b0 ≤ q)) args s K B (fun q => b0 ≤ q)) 4 M 0 0 0 [(0, va_rf l0), (1, .int l1)] [] := by
  unfold wJ5_append_c97b9 at h
  refine q_aload_n (pc := 0) C 0 0 dJ5_append_c97b9_0 rfl rfl ?_
  refine q_gI (pc := 1) C h (T := TJ4) rfl (by decide) (wk_u rfl wm_J5_append_c97b9 uq_J4 (by decide +kernel)) (by decide +kernel) (fun _ h9 => h9) dJ5_append_c97b9_1 (fun x1 h => ?_)
  refine q_istore_n (pc := 4) C 2 [(2, .int x1), (0, va_rf l0), (1, .int l1)] dJ5_append_c97b9_4 rfl (by decide) (by first | rfl | simp [q_cat, q_catI, q_catJ, q_catR, q_catN]) ?_
  refine q_iload_n (pc := 5) C 2 0 dJ5_append_c97b9_5 rfl rfl ?_
  refine q_iload_n (pc := 6) C 1 2 dJ5_append_c97b9_6 rfl rfl ?_
  refine q_ci (pc := 7) (q_rS C (st := [.int x1]) (kJ6_stringSize_0f7a4 l G b0 h) (va_cwS 1 C.2.2.2.2.1 gJ5_append_c97b9_J6_stringSize_0f7a4 rfl rfl rfl (by decide +kernel) ⟨Nat.le_of_ble_eq_true rfl, Nat.le_of_ble_eq_true rfl⟩) rfl (by first | exact Nat.le_of_ble_eq_true rfl | (simp [q_cat, q_catI, q_catJ, q_catR, q_catN]; done)) rfl dJ5_append_c97b9_7 ⟨(by first | omega | (dsimp only; omega)), (by first | omega | (dsimp only; omega))⟩) (fun x2 M3 h => ?_)
  refine q_iadd (pc := 10) C dJ5_append_c97b9_10 ?_
  refine q_istore_n (pc := 11) C 3 [(3, .int (x1 + x2)), (2, .int x1), (0, va_rf l0), (1, .int l1)] dJ5_append_c97b9_11 rfl (by decide) (by first | rfl | simp [q_cat, q_catI, q_catJ, q_catR, q_catN]) ?_
  refine q_aload_n (pc := 12) C 0 2 dJ5_append_c97b9_12 rfl rfl ?_
  refine q_iload_n (pc := 13) C 3 0 dJ5_append_c97b9_13 rfl rfl ?_
  obtain ⟨K4, B5, h⟩ := h
  obtain ⟨hbk, h⟩ := h
  obtain ⟨b7, fs9, hb7, hm9, h⟩ := h
  refine q_cv (pc := 14) (q_rU C (st := []) (b := b7) (kJ5_ensureCapacityInternal_d00df l G b0 h) (va_cwU (x := ⟨"java/lang/AbstractStringBuilder", "ensureCapacityInternal", "(I)V"⟩) 1 C.2.2.2.2.1 gJ5_append_c97b9_J5_ensureCapacityInternal_d00df_u100J4 rfl rfl rfl rfl (by decide +kernel) ⟨Nat.le_of_ble_eq_true rfl, Nat.le_of_ble_eq_true rfl⟩) hm9 rfl rfl rfl (by first | exact Nat.le_of_ble_eq_true rfl | (simp [q_cat, q_catI, q_catJ, q_catR, q_catN]; done)) (by rw [hb7]; first | done | rfl) dJ5_append_c97b9_14 ⟨(by first | omega | (dsimp only; omega)), (by first | omega | (dsimp only; omega))⟩) (fun M6 h => ?_)
  refine q_aload_n (pc := 17) C 0 2 dJ5_append_c97b9_17 rfl rfl ?_
  obtain ⟨b10, fs9, hb10, hm9, h⟩ := h
  refine q_ci (pc := 18) (q_rU C (st := []) (b := b10) (kJ5_isLatin1_aae02 l G b0 hg h) (va_cwU (x := ⟨"java/lang/AbstractStringBuilder", "isLatin1", "()Z"⟩) 0 C.2.2.2.2.1 gJ5_append_c97b9_J5_isLatin1_aae02_u83J4 rfl rfl rfl rfl (by decide +kernel) ⟨Nat.le_of_ble_eq_true rfl, Nat.le_of_ble_eq_true rfl⟩) hm9 rfl rfl rfl (by first | exact Nat.le_of_ble_eq_true rfl | (simp [q_cat, q_catI, q_catJ, q_catR, q_catN]; done)) (by rw [hb10]; first | done | rfl) dJ5_append_c97b9_18 ⟨(by first | omega | (dsimp only; omega)), (by first | omega | (dsimp only; omega))⟩) (fun x8 M9 h => ?_)
  refine q_if_eq (pc := 21) C 37 dJ5_append_c97b9_21 (by decide) (fun c11 => ?_) (fun c11 => ?_)
  · have h := h.1 c11
    refine q_iload_n (pc := 37) C 1 3 dJ5_append_c97b9_37 rfl rfl ?_
    refine q_iload_n (pc := 38) C 2 1 dJ5_append_c97b9_38 rfl rfl ?_
    refine q_iload_n (pc := 39) C 3 0 dJ5_append_c97b9_39 rfl rfl ?_
    refine q_aload_n (pc := 40) C 0 2 dJ5_append_c97b9_40 rfl rfl ?_
    refine q_gR (pc := 41) C h (T := TJ4) rfl (by decide) (wk_u rfl wm_J5_append_c97b9 uq_J4 (by decide +kernel)) (by decide +kernel) (fun _ h9 => h9) dJ5_append_c97b9_41 (fun x12 h => ?_)
    exact h.elim
  · have h := h.2 c11
    refine q_iload_n (pc := 24) C 1 3 dJ5_append_c97b9_24 rfl rfl ?_
    refine q_iload_n (pc := 25) C 3 0 dJ5_append_c97b9_25 rfl rfl ?_
    refine q_aload_n (pc := 26) C 0 2 dJ5_append_c97b9_26 rfl rfl ?_
    refine q_gR (pc := 27) C h (T := TJ4) rfl (by decide) (wk_u rfl wm_J5_append_c97b9 uq_J4 (by decide +kernel)) (by decide +kernel) (fun _ h9 => h9) dJ5_append_c97b9_27 (fun x13 h => ?_)
    refine q_ci (pc := 30) (q_rS C (st := []) (kJ6_getChars_ba4f3 l G b0 hg h) (va_cwS 3 C.2.2.2.2.1 gJ5_append_c97b9_J6_getChars_ba4f3 rfl rfl rfl (by decide +kernel) ⟨Nat.le_of_ble_eq_true rfl, Nat.le_of_ble_eq_true rfl⟩) rfl (by first | exact Nat.le_of_ble_eq_true rfl | (simp [q_cat, q_catI, q_catJ, q_catR, q_catN]; done)) rfl dJ5_append_c97b9_30 ⟨(by first | omega | (dsimp only; omega)), (by first | omega | (dsimp only; omega))⟩) (fun x14 M15 h => ?_)
    refine q_pop (pc := 33) C dJ5_append_c97b9_33 rfl ?_
    refine q_goto (pc := 34) C 48 dJ5_append_c97b9_34 (by decide) ?_
    refine q_lv [2, 0] rfl ?_
    exact tJ5_append_c97b9_48 C hr hlocks hg h
set_option maxRecDepth 100000 in
set_option maxHeartbeats 4000000 in
theorem kJ5_append_c97b9 (l : Launch) (G : mG) (b0 : Nat) {g : Nat → Nat} (hg : G.2.2 = g) {K B : Nat} {b : Nat} {l1 : Int32} {M : mM} {κ : Option Nat → mM → Prop} (h : wJ5_append_c97b9 g K B κ (some b) l1 M) : Met l yJ5_append_c97b9 wsJ5_append_c97b9 ({ frames := 4, cells := K, slots := B, locals := 110 } : Room) (va_Pc [.ref b, .int l1] (m_Pre G b0 M)) (va_Qq κ (m_B G b0) (fun q => b0 ≤ q)) K B (fun q => b0 ≤ q) := by
  refine m_met (cc := cJ5_append_c97b9) (maxL := 4) (ret := (some (.object "java/lang/AbstractStringBuilder"))) (lv := [(0, va_rf (some b)), (1, .int l1)]) RJ5 rfl (by decide +kernel) rfl (by first | exact Nat.le_of_ble_eq_true rfl | simp [lg_sl, q_cat, q_catI, q_catJ, q_catR, q_catN]) (by first | rfl | (simp [lv_args, q_cat, q_catI, q_catJ, q_catR, q_catN]; done) | (simp [lv_args, q_cat, q_catI, q_catJ, q_catR, q_catN]; rfl)) ?_
  intro p e s m args below meth c C hr hlocks hni
  exact tJ5_append_c97b9 C hr hlocks hg h
/-! J4_append_15ec4 -/
set_option maxRecDepth 100000 in
set_option maxHeartbeats 4000000 in
theorem tJ4_append_15ec4 {p : Program} {l : Launch} {e : Env} {s : State} {m : MethodId} {args : Array Value} {below : List Frame} {meth : Method} {c : Code} {G : mG} {b0 : Nat} (C : m_C p s m args c cJ4_append_15ec4 2 RJ4 wsJ4_append_15ec4 G b0) (hr : meth.sig.returnType = (some (.object "java/lang/StringBuilder"))) (hlocks : meth.locks = false) {g : Nat → Nat} (hg : G.2.2 = g) {K B : Nat} {κ : Option Nat → mM → Prop} {l0 : Option Nat} {l1 : Option Nat} {M : mM} (h : wJ4_append_15ec4 g K B κ l0 l1 M) : m_W p l e ({ frames := 5, cells := K, slots := B, locals := 132 } : Room) s m args below meth c G b0 (MQ below (va_Qq κ (m_B G b0) (fun q => b0 ≤ q)) args s K B (fun q => b0 ≤ q)) 2 M 0 0 0 [(0, va_rf l0), (1, va_rf l1)] [] := by
  unfold wJ4_append_15ec4 at h
  refine q_aload_n (pc := 0) C 0 0 dJ4_append_15ec4_0 rfl rfl ?_
  refine q_aload_n (pc := 1) C 1 1 dJ4_append_15ec4_1 rfl rfl ?_
  obtain ⟨K1, B2, h⟩ := h
  obtain ⟨hbk, h⟩ := h
  obtain ⟨b5, fs9, hb5, hm9, h⟩ := h
  refine q_cq (pc := 2) (q_rSU C (st := []) (b := b5) (kJ5_append_cf1ce l G b0 hg h) (va_cwSU 1 C.2.2.2.2.1 gJ4_append_15ec4_J5_append_cf1ce_s29 rfl rfl rfl (by decide +kernel) ⟨Nat.le_of_ble_eq_true rfl, Nat.le_of_ble_eq_true rfl⟩) hm9 rfl rfl rfl (by first | exact Nat.le_of_ble_eq_true rfl | (simp [q_cat, q_catI, q_catJ, q_catR, q_catN]; done)) (by rw [hb5]; first | done | rfl) dJ4_append_15ec4_2 ⟨(by first | omega | (dsimp only; omega)), (by first | omega | (dsimp only; omega))⟩) (fun x3 M4 h => ?_)
  refine q_pop (pc := 5) C dJ4_append_15ec4_5 (q_cat _) ?_
  refine q_aload_n (pc := 6) C 0 0 dJ4_append_15ec4_6 rfl rfl ?_
  obtain ⟨hbk, h⟩ := h
  exact q_aret (pc := 7) C hr (by first | exact Or.inl ⟨_, rfl⟩ | exact Or.inr ⟨_, rfl⟩) hlocks h dJ4_append_15ec4_7 (by omega) (by omega)
set_option maxRecDepth 100000 in
set_option maxHeartbeats 4000000 in
theorem kJ4_append_15ec4 (l : Launch) (G : mG) (b0 : Nat) {g : Nat → Nat} (hg : G.2.2 = g) {K B : Nat} {b : Nat} {l1 : Option Nat} {M : mM} {κ : Option Nat → mM → Prop} (h : wJ4_append_15ec4 g K B κ (some b) l1 M) : Met l yJ4_append_15ec4 wsJ4_append_15ec4 ({ frames := 5, cells := K, slots := B, locals := 132 } : Room) (va_Pc [.ref b, va_rf l1] (m_Pre G b0 M)) (va_Qq κ (m_B G b0) (fun q => b0 ≤ q)) K B (fun q => b0 ≤ q) := by
  refine m_met (cc := cJ4_append_15ec4) (maxL := 2) (ret := (some (.object "java/lang/StringBuilder"))) (lv := [(0, va_rf (some b)), (1, va_rf l1)]) RJ4 rfl (by decide +kernel) rfl (by first | exact Nat.le_of_ble_eq_true rfl | simp [lg_sl, q_cat, q_catI, q_catJ, q_catR, q_catN]) (by first | rfl | (simp [lv_args, q_cat, q_catI, q_catJ, q_catR, q_catN]; done) | (simp [lv_args, q_cat, q_catI, q_catJ, q_catR, q_catN]; rfl)) ?_
  intro p e s m args below meth c C hr hlocks hni
  exact tJ4_append_15ec4 C hr hlocks hg h
/-! J4_append_cf468 -/
set_option maxRecDepth 100000 in
set_option maxHeartbeats 4000000 in
theorem tJ4_append_cf468 {p : Program} {l : Launch} {e : Env} {s : State} {m : MethodId} {args : Array Value} {below : List Frame} {meth : Method} {c : Code} {G : mG} {b0 : Nat} (C : m_C p s m args c cJ4_append_cf468 2 RJ4 wsJ4_append_cf468 G b0) (hr : meth.sig.returnType = (some (.object "java/lang/StringBuilder"))) (hlocks : meth.locks = false) {g : Nat → Nat} (hg : G.2.2 = g) {K B : Nat} {κ : Option Nat → mM → Prop} {l0 : Option Nat} {l1 : Int32} {M : mM} (h : wJ4_append_cf468 g K B κ l0 l1 M) : m_W p l e ({ frames := 5, cells := K, slots := B, locals := 131 } : Room) s m args below meth c G b0 (MQ below (va_Qq κ (m_B G b0) (fun q => b0 ≤ q)) args s K B (fun q => b0 ≤ q)) 2 M 0 0 0 [(0, va_rf l0), (1, .int l1)] [] := by
  unfold wJ4_append_cf468 at h
  refine q_aload_n (pc := 0) C 0 0 dJ4_append_cf468_0 rfl rfl ?_
  refine q_iload_n (pc := 1) C 1 1 dJ4_append_cf468_1 rfl rfl ?_
  obtain ⟨K1, B2, h⟩ := h
  obtain ⟨hbk, h⟩ := h
  obtain ⟨b5, fs9, hb5, hm9, h⟩ := h
  refine q_cq (pc := 2) (q_rSU C (st := []) (b := b5) (kJ5_append_3fe6f l G b0 hg h) (va_cwSU 1 C.2.2.2.2.1 gJ4_append_cf468_J5_append_3fe6f_s50 rfl rfl rfl (by decide +kernel) ⟨Nat.le_of_ble_eq_true rfl, Nat.le_of_ble_eq_true rfl⟩) hm9 rfl rfl rfl (by first | exact Nat.le_of_ble_eq_true rfl | (simp [q_cat, q_catI, q_catJ, q_catR, q_catN]; done)) (by rw [hb5]; first | done | rfl) dJ4_append_cf468_2 ⟨(by first | omega | (dsimp only; omega)), (by first | omega | (dsimp only; omega))⟩) (fun x3 M4 h => ?_)
  refine q_pop (pc := 5) C dJ4_append_cf468_5 (q_cat _) ?_
  refine q_aload_n (pc := 6) C 0 0 dJ4_append_cf468_6 rfl rfl ?_
  obtain ⟨hbk, h⟩ := h
  exact q_aret (pc := 7) C hr (by first | exact Or.inl ⟨_, rfl⟩ | exact Or.inr ⟨_, rfl⟩) hlocks h dJ4_append_cf468_7 (by omega) (by omega)
set_option maxRecDepth 100000 in
set_option maxHeartbeats 4000000 in
theorem kJ4_append_cf468 (l : Launch) (G : mG) (b0 : Nat) {g : Nat → Nat} (hg : G.2.2 = g) {K B : Nat} {b : Nat} {l1 : Int32} {M : mM} {κ : Option Nat → mM → Prop} (h : wJ4_append_cf468 g K B κ (some b) l1 M) : Met l yJ4_append_cf468 wsJ4_append_cf468 ({ frames := 5, cells := K, slots := B, locals := 131 } : Room) (va_Pc [.ref b, .int l1] (m_Pre G b0 M)) (va_Qq κ (m_B G b0) (fun q => b0 ≤ q)) K B (fun q => b0 ≤ q) := by
  refine m_met (cc := cJ4_append_cf468) (maxL := 2) (ret := (some (.object "java/lang/StringBuilder"))) (lv := [(0, va_rf (some b)), (1, .int l1)]) RJ4 rfl (by decide +kernel) rfl (by first | exact Nat.le_of_ble_eq_true rfl | simp [lg_sl, q_cat, q_catI, q_catJ, q_catR, q_catN]) (by first | rfl | (simp [lv_args, q_cat, q_catI, q_catJ, q_catR, q_catN]; done) | (simp [lv_args, q_cat, q_catI, q_catJ, q_catR, q_catN]; rfl)) ?_
  intro p e s m args below meth c C hr hlocks hni
  exact tJ4_append_cf468 C hr hlocks hg h
/-! J4_append_bf812 -/
set_option maxRecDepth 100000 in
set_option maxHeartbeats 4000000 in
theorem tJ4_append_bf812 {p : Program} {l : Launch} {e : Env} {s : State} {m : MethodId} {args : Array Value} {below : List Frame} {meth : Method} {c : Code} {G : mG} {b0 : Nat} (C : m_C p s m args c cJ4_append_bf812 2 RJ4 wsJ4_append_bf812 G b0) (hr : meth.sig.returnType = (some (.object "java/lang/StringBuilder"))) (hlocks : meth.locks = false) {g : Nat → Nat} (hg : G.2.2 = g) {K B : Nat} {κ : Option Nat → mM → Prop} {l0 : Option Nat} {l1 : Int32} {M : mM} (h : wJ4_append_bf812 g K B κ l0 l1 M) : m_W p l e ({ frames := 5, cells := K, slots := B, locals := 133 } : Room) s m args below meth c G b0 (MQ below (va_Qq κ (m_B G b0) (fun q => b0 ≤ q)) args s K B (fun q => b0 ≤ q)) 2 M 0 0 0 [(0, va_rf l0), (1, .int l1)] [] := by
  unfold wJ4_append_bf812 at h
  refine q_aload_n (pc := 0) C 0 0 dJ4_append_bf812_0 rfl rfl ?_
  refine q_iload_n (pc := 1) C 1 1 dJ4_append_bf812_1 rfl rfl ?_
  obtain ⟨K1, B2, h⟩ := h
  obtain ⟨hbk, h⟩ := h
  obtain ⟨b5, fs9, hb5, hm9, h⟩ := h
  refine q_cq (pc := 2) (q_rSU C (st := []) (b := b5) (kJ5_append_c97b9 l G b0 hg h) (va_cwSU 1 C.2.2.2.2.1 gJ4_append_bf812_J5_append_c97b9_s53 rfl rfl rfl (by decide +kernel) ⟨Nat.le_of_ble_eq_true rfl, Nat.le_of_ble_eq_true rfl⟩) hm9 rfl rfl rfl (by first | exact Nat.le_of_ble_eq_true rfl | (simp [q_cat, q_catI, q_catJ, q_catR, q_catN]; done)) (by rw [hb5]; first | done | rfl) dJ4_append_bf812_2 ⟨(by first | omega | (dsimp only; omega)), (by first | omega | (dsimp only; omega))⟩) (fun x3 M4 h => ?_)
  refine q_pop (pc := 5) C dJ4_append_bf812_5 (q_cat _) ?_
  refine q_aload_n (pc := 6) C 0 0 dJ4_append_bf812_6 rfl rfl ?_
  obtain ⟨hbk, h⟩ := h
  exact q_aret (pc := 7) C hr (by first | exact Or.inl ⟨_, rfl⟩ | exact Or.inr ⟨_, rfl⟩) hlocks h dJ4_append_bf812_7 (by omega) (by omega)
set_option maxRecDepth 100000 in
set_option maxHeartbeats 4000000 in
theorem kJ4_append_bf812 (l : Launch) (G : mG) (b0 : Nat) {g : Nat → Nat} (hg : G.2.2 = g) {K B : Nat} {b : Nat} {l1 : Int32} {M : mM} {κ : Option Nat → mM → Prop} (h : wJ4_append_bf812 g K B κ (some b) l1 M) : Met l yJ4_append_bf812 wsJ4_append_bf812 ({ frames := 5, cells := K, slots := B, locals := 133 } : Room) (va_Pc [.ref b, .int l1] (m_Pre G b0 M)) (va_Qq κ (m_B G b0) (fun q => b0 ≤ q)) K B (fun q => b0 ≤ q) := by
  refine m_met (cc := cJ4_append_bf812) (maxL := 2) (ret := (some (.object "java/lang/StringBuilder"))) (lv := [(0, va_rf (some b)), (1, .int l1)]) RJ4 rfl (by decide +kernel) rfl (by first | exact Nat.le_of_ble_eq_true rfl | simp [lg_sl, q_cat, q_catI, q_catJ, q_catR, q_catN]) (by first | rfl | (simp [lv_args, q_cat, q_catI, q_catJ, q_catR, q_catN]; done) | (simp [lv_args, q_cat, q_catI, q_catJ, q_catR, q_catN]; rfl)) ?_
  intro p e s m args below meth c C hr hlocks hni
  exact tJ4_append_bf812 C hr hlocks hg h
/-! J0_init_db425 -/
set_option maxRecDepth 100000 in
set_option maxHeartbeats 4000000 in
theorem tJ0_init_db425_79 {p : Program} {l : Launch} {e : Env} {s : State} {m : MethodId} {args : Array Value} {below : List Frame} {meth : Method} {c : Code} {G : mG} {b0 : Nat} (C : m_C p s m args c cJ0_init_db425 5 RJ0 wsJ0_init_db425 G b0) (hr : meth.sig.returnType = none) (hlocks : meth.locks = false) {g : Nat → Nat} (hg : G.2.2 = g) {K B : Nat} (hni : meth.name = "<init>") {κ : mM → Prop} {k9 n9 : Nat} {l0 : Option Nat} {l3 : Option Nat} {l4 : Int32} {M : mM} (h : wJ0_init_db425_79 g K B κ k9 n9 l0 l3 l4 M) : m_W p l e ({ frames := 3, cells := K, slots := B, locals := 86 } : Room) s m args below meth c G b0 (MQ below (va_Qv κ (m_B G b0) (fun q => b0 ≤ q)) args s K B (fun q => b0 ≤ q)) 5 M k9 n9 79 [(0, va_rf l0), (3, va_rf l3), (4, .int l4)] [] := by
  unfold wJ0_init_db425_79 at h
  obtain ⟨hbk, h⟩ := h
  refine q_aload_n (pc := 79) C 0 0 dJ0_init_db425_79 rfl rfl ?_
  refine q_iconst (pc := 80) C 1 dJ0_init_db425_80 (by decide) ?_
  refine q_pF (pc := 81) C hni h .byte (T := TJ0) tyJ0 tyJ0_ok nmJ0 rfl (by decide +kernel) (by decide) (by decide) rfl (by decide) (by decide +kernel) (by decide +kernel) (fun _ h9 => h9) rfl rfl dJ0_init_db425_81 (fun M1 h => ?_)
  refine q_aload_n (pc := 84) C 0 0 dJ0_init_db425_84 rfl rfl ?_
  refine q_aload_n (pc := 85) C 3 1 dJ0_init_db425_85 rfl rfl ?_
  refine q_iconst (pc := 86) C 0 dJ0_init_db425_86 (by decide) ?_
  refine q_iload (pc := 87) C 4 2 dJ0_init_db425_87 rfl ?_
  refine q_iconst (pc := 89) C 1 dJ0_init_db425_89 (by decide) ?_
  refine q_ishl (pc := 90) C dJ0_init_db425_90 ?_
  refine m_stk (st2 := .int (m_shl l4 1) :: _) rfl ?_
  obtain ⟨K2, B3, h⟩ := h
  obtain ⟨hbk, h⟩ := h
  refine q_cq (pc := 91) (q_rS C (st := [va_rf l0]) (kJ7_copyOfRange_39247 l G b0 h) (va_cwS 3 C.2.2.2.2.1 gJ0_init_db425_J7_copyOfRange_39247 rfl rfl rfl (by decide +kernel) ⟨Nat.le_of_ble_eq_true rfl, Nat.le_of_ble_eq_true rfl⟩) rfl (by first | exact Nat.le_of_ble_eq_true rfl | (simp [q_cat, q_catI, q_catJ, q_catR, q_catN]; done)) rfl dJ0_init_db425_91 ⟨(by first | omega | (dsimp only; omega)), (by first | omega | (dsimp only; omega))⟩) (fun x4 M5 h => ?_)
  refine q_pF (pc := 94) C hni h (.array .byte) (T := TJ0) tyJ0 tyJ0_ok nmJ0 rfl (by decide +kernel) (q_nrA _ _) (q_ftA _ _) rfl (by decide) (by decide +kernel) (by decide +kernel) (fun _ h9 => h9) rfl rfl dJ0_init_db425_94 (fun M6 h => ?_)
  obtain ⟨hbk, h⟩ := h
  exact q_vret (pc := 97) C hr hlocks h dJ0_init_db425_97 (by omega) (by omega)
set_option maxRecDepth 100000 in
set_option maxHeartbeats 4000000 in
theorem tJ0_init_db425 {p : Program} {l : Launch} {e : Env} {s : State} {m : MethodId} {args : Array Value} {below : List Frame} {meth : Method} {c : Code} {G : mG} {b0 : Nat} (C : m_C p s m args c cJ0_init_db425 5 RJ0 wsJ0_init_db425 G b0) (hr : meth.sig.returnType = none) (hlocks : meth.locks = false) {g : Nat → Nat} (hg : G.2.2 = g) {K B : Nat} (hni : meth.name = "<init>") {κ : mM → Prop} {l0 : Option Nat} {l1 : Option Nat} {l2 : Option Nat} {M : mM} (h : wJ0_init_db425 g K B κ l0 l1 l2 M) : m_W p l e ({ frames := 3, cells := K, slots := B, locals := 86 } : Room) s m args below meth c G b0 (MQ below (va_Qv κ (m_B G b0) (fun q => b0 ≤ q)) args s K B (fun q => b0 ≤ q)) 5 M 0 0 0 [(0, va_rf l0), (1, va_rf l1), (2, va_rf l2)] [] := by
  unfold wJ0_init_db425 at h
  refine q_aload_n (pc := 0) C 0 0 dJ0_init_db425_0 rfl rfl ?_
  obtain ⟨b9, hb9, h⟩ := h
  refine q_objInit (pc := 1) C hb9 (by decide +kernel) (by decide +kernel) (by decide +kernel) dJ0_init_db425_1 (Nat.le_of_ble_eq_true rfl) (by first | exact Nat.le_of_ble_eq_true rfl | (simp [q_cat, q_catI, q_catJ, q_catR, q_catN]; done) | (simp [q_cat, q_catI, q_catJ, q_catR, q_catN]; decide)) ?_
  refine q_aload_n (pc := 4) C 1 1 dJ0_init_db425_4 rfl rfl ?_
  obtain ⟨b3, fs9, hb3, hm9, h⟩ := h
  refine q_cq (pc := 5) (q_rU C (st := []) (b := b3) (kJ5_getValue_6d5f1 l G b0 h) (va_cwU (x := ⟨"java/lang/AbstractStringBuilder", "getValue", "()[B"⟩) 0 C.2.2.2.2.1 gJ0_init_db425_J5_getValue_6d5f1_u552J4 rfl rfl rfl rfl (by decide +kernel) ⟨Nat.le_of_ble_eq_true rfl, Nat.le_of_ble_eq_true rfl⟩) hm9 rfl rfl rfl (by first | exact Nat.le_of_ble_eq_true rfl | (simp [q_cat, q_catI, q_catJ, q_catR, q_catN]; done)) (by rw [hb3]; first | done | rfl) dJ0_init_db425_5 ⟨(by first | omega | (dsimp only; omega)), (by first | omega | (dsimp only; omega))⟩) (fun x1 M2 h => ?_)
  refine q_astore_n (pc := 8) C 3 [(3, va_rf x1), (0, va_rf l0), (1, va_rf l1), (2, va_rf l2)] dJ0_init_db425_8 rfl (by decide) (by first | rfl | simp [q_cat, q_catI, q_catJ, q_catR, q_catN]) ?_
  refine q_aload_n (pc := 9) C 1 2 dJ0_init_db425_9 rfl rfl ?_
  obtain ⟨b6, fs9, hb6, hm9, h⟩ := h
  refine q_ci (pc := 10) (q_rU C (st := []) (b := b6) (kJ4_length_8abf5 l G b0 h) (va_cwO (x := ⟨"java/lang/AbstractStringBuilder", "length", "()I"⟩) 0 C.2.2.2.2.1 gJ0_init_db425_J4_length_8abf5_u549J4 rfl rfl rfl (b0 := cJ5_length_8abf5) (m0 := 1) (r0 := some .int) (by decide +kernel) (by decide +kernel) ⟨Nat.le_of_ble_eq_true rfl, Nat.le_of_ble_eq_true rfl⟩) hm9 rfl rfl rfl (by first | exact Nat.le_of_ble_eq_true rfl | (simp [q_cat, q_catI, q_catJ, q_catR, q_catN]; done)) (by rw [hb6]; first | done | rfl) dJ0_init_db425_10 ⟨(by first | omega | (dsimp only; omega)), (by first | omega | (dsimp only; omega))⟩) (fun x4 M5 h => ?_)
  refine q_istore (pc := 13) C 4 [(4, .int x4), (3, va_rf x1), (0, va_rf l0), (1, va_rf l1), (2, va_rf l2)] dJ0_init_db425_13 (by decide) (by first | rfl | simp [q_cat, q_catI, q_catJ, q_catR, q_catN]) ?_
  refine q_aload_n (pc := 15) C 1 3 dJ0_init_db425_15 rfl rfl ?_
  obtain ⟨b9, fs9, hb9, hm9, h⟩ := h
  refine q_ci (pc := 16) (q_rU C (st := []) (b := b9) (kJ5_isLatin1_aae02 l G b0 hg h) (va_cwU (x := ⟨"java/lang/AbstractStringBuilder", "isLatin1", "()Z"⟩) 0 C.2.2.2.2.1 gJ0_init_db425_J5_isLatin1_aae02_u1047J4 rfl rfl rfl rfl (by decide +kernel) ⟨Nat.le_of_ble_eq_true rfl, Nat.le_of_ble_eq_true rfl⟩) hm9 rfl rfl rfl (by first | exact Nat.le_of_ble_eq_true rfl | (simp [q_cat, q_catI, q_catJ, q_catR, q_catN]; done)) (by rw [hb9]; first | done | rfl) dJ0_init_db425_16 ⟨(by first | omega | (dsimp only; omega)), (by first | omega | (dsimp only; omega))⟩) (fun x7 M8 h => ?_)
  refine q_if_eq (pc := 19) C 41 dJ0_init_db425_19 (by decide) (fun c10 => ?_) (fun c10 => ?_)
  · have h := h.1 c10
    refine q_gets (pc := 41) C hg (.int 1) (List.mem_of_getElem? (i := 5) rfl) (by decide +kernel) dJ0_init_db425_41 ?_
    refine q_if_eq (pc := 44) C 79 dJ0_init_db425_44 (by decide) (fun c11 => ?_) (fun c11 => ?_)
    · have h := h.1 c11
      refine q_lv [2, 1, 0] rfl ?_
      exact tJ0_init_db425_79 C hr hlocks hg hni h
    · have h := h.2 c11
      refine q_aload_n (pc := 47) C 1 3 dJ0_init_db425_47 rfl rfl ?_
      refine q_gI (pc := 48) C h (T := TJ4) rfl (by decide) (wk_u rfl wm_J0_init_db425 uq_J4 (by decide +kernel)) (by decide +kernel) (fun _ h9 => h9) dJ0_init_db425_48 (fun x12 h => ?_)
      refine q_if_eq (pc := 51) C 79 dJ0_init_db425_51 (by decide) (fun c13 => ?_) (fun c13 => ?_)
      · have h := h.1 c13
        refine q_lv [2, 1, 0] rfl ?_
        exact tJ0_init_db425_79 C hr hlocks hg hni h
      · have h := h.2 c13
        refine q_aload_n (pc := 54) C 0 2 dJ0_init_db425_54 rfl rfl ?_
        refine q_aload_n (pc := 55) C 3 1 dJ0_init_db425_55 rfl rfl ?_
        refine q_iconst (pc := 56) C 0 dJ0_init_db425_56 (by decide) ?_
        refine q_iload (pc := 57) C 4 0 dJ0_init_db425_57 rfl ?_
        exact h.elim
  · have h := h.2 c10
    refine q_aload_n (pc := 22) C 0 2 dJ0_init_db425_22 rfl rfl ?_
    refine q_iconst (pc := 23) C 0 dJ0_init_db425_23 (by decide) ?_
    refine q_pF (pc := 24) C hni h .byte (T := TJ0) tyJ0 tyJ0_ok nmJ0 rfl (by decide +kernel) (by decide) (by decide) rfl (by decide) (by decide +kernel) (by decide +kernel) (fun _ h9 => h9) rfl rfl dJ0_init_db425_24 (fun M14 h => ?_)
    refine q_aload_n (pc := 27) C 0 2 dJ0_init_db425_27 rfl rfl ?_
    refine q_aload_n (pc := 28) C 3 1 dJ0_init_db425_28 rfl rfl ?_
    refine q_iconst (pc := 29) C 0 dJ0_init_db425_29 (by decide) ?_
    refine q_iload (pc := 30) C 4 0 dJ0_init_db425_30 rfl ?_
    obtain ⟨K15, B16, h⟩ := h
    obtain ⟨hbk, h⟩ := h
    refine q_cq (pc := 32) (q_rS C (st := [va_rf l0]) (kJ7_copyOfRange_39247 l G b0 h) (va_cwS 3 C.2.2.2.2.1 gJ0_init_db425_J7_copyOfRange_39247 rfl rfl rfl (by decide +kernel) ⟨Nat.le_of_ble_eq_true rfl, Nat.le_of_ble_eq_true rfl⟩) rfl (by first | exact Nat.le_of_ble_eq_true rfl | (simp [q_cat, q_catI, q_catJ, q_catR, q_catN]; done)) rfl dJ0_init_db425_32 ⟨(by first | omega | (dsimp only; omega)), (by first | omega | (dsimp only; omega))⟩) (fun x17 M18 h => ?_)
    refine q_pF (pc := 35) C hni h (.array .byte) (T := TJ0) tyJ0 tyJ0_ok nmJ0 rfl (by decide +kernel) (q_nrA _ _) (q_ftA _ _) rfl (by decide) (by decide +kernel) (by decide +kernel) (fun _ h9 => h9) rfl rfl dJ0_init_db425_35 (fun M19 h => ?_)
    refine q_goto (pc := 38) C 97 dJ0_init_db425_38 (by decide) ?_
    obtain ⟨hbk, h⟩ := h
    exact q_vret (pc := 97) C hr hlocks h dJ0_init_db425_97 (by omega) (by omega)
set_option maxRecDepth 100000 in
set_option maxHeartbeats 4000000 in
theorem kJ0_init_db425 (l : Launch) (G : mG) (b0 : Nat) {g : Nat → Nat} (hg : G.2.2 = g) {K B : Nat} {b : Nat} {l1 : Option Nat} {l2 : Option Nat} {M : mM} {κ : mM → Prop} (h : wJ0_init_db425 g K B κ (some b) l1 l2 M) : Met l yJ0_init_db425 wsJ0_init_db425 ({ frames := 3, cells := K, slots := B, locals := 86 } : Room) (va_Pc [.ref b, va_rf l1, va_rf l2] (m_Pre G b0 M)) (va_Qv κ (m_B G b0) (fun q => b0 ≤ q)) K B (fun q => b0 ≤ q) := by
  refine m_met (cc := cJ0_init_db425) (maxL := 5) (ret := none) (lv := [(0, va_rf (some b)), (1, va_rf l1), (2, va_rf l2)]) RJ0 rfl (by decide +kernel) rfl (by first | exact Nat.le_of_ble_eq_true rfl | simp [lg_sl, q_cat, q_catI, q_catJ, q_catR, q_catN]) (by first | rfl | (simp [lv_args, q_cat, q_catI, q_catJ, q_catR, q_catN]; done) | (simp [lv_args, q_cat, q_catI, q_catJ, q_catR, q_catN]; rfl)) ?_
  intro p e s m args below meth c C hr hlocks hni
  exact tJ0_init_db425 C hr hlocks hg hni h
/-! J0_init_81219 -/
set_option maxRecDepth 100000 in
set_option maxHeartbeats 4000000 in
theorem tJ0_init_81219 {p : Program} {l : Launch} {e : Env} {s : State} {m : MethodId} {args : Array Value} {below : List Frame} {meth : Method} {c : Code} {G : mG} {b0 : Nat} (C : m_C p s m args c cJ0_init_81219 2 RJ0 wsJ0_init_81219 G b0) (hr : meth.sig.returnType = none) (hlocks : meth.locks = false) {g : Nat → Nat} (hg : G.2.2 = g) {K B : Nat} (hni : meth.name = "<init>") {κ : mM → Prop} {l0 : Option Nat} {l1 : Option Nat} {M : mM} (h : wJ0_init_81219 g K B κ l0 l1 M) : m_W p l e ({ frames := 4, cells := K, slots := B, locals := 110 } : Room) s m args below meth c G b0 (MQ below (va_Qv κ (m_B G b0) (fun q => b0 ≤ q)) args s K B (fun q => b0 ≤ q)) 2 M 0 0 0 [(0, va_rf l0), (1, va_rf l1)] [] := by
  unfold wJ0_init_81219 at h
  refine q_aload_n (pc := 0) C 0 0 dJ0_init_81219_0 rfl rfl ?_
  refine q_aload_n (pc := 1) C 1 1 dJ0_init_81219_1 rfl rfl ?_
  refine q_null (pc := 2) C dJ0_init_81219_2 ?_
  obtain ⟨K1, B2, h⟩ := h
  obtain ⟨hbk, h⟩ := h
  obtain ⟨b4, fs9, hb4, hm9, h⟩ := h
  refine q_cv (pc := 3) (q_rI C (st := []) (b := b4) (kJ0_init_db425 l G b0 hg h) (cwI 2 C.2.2.2.2.1 gJ0_init_81219_J0_init_db425 rfl rfl rfl (C.2.2.2.2.1 (.initialized RJ0) (by decide +kernel)) (C.2.2.2.2.1 (.methodLink RJ0 489 yJ0_init_db425) (by decide +kernel)) (C.2.2.2.2.1 (.instanceMethod yJ0_init_db425) (by decide +kernel)) rfl (by decide +kernel) ⟨Nat.le_of_ble_eq_true rfl, Nat.le_of_ble_eq_true rfl⟩) rfl (by first | exact Nat.le_of_ble_eq_true rfl | (simp [q_cat, q_catI, q_catJ, q_catR, q_catN]; done)) (by rw [hb4]; first | done | rfl) dJ0_init_81219_3 ⟨(by first | omega | (dsimp only; omega)), (by first | omega | (dsimp only; omega))⟩) (fun M3 h => ?_)
  obtain ⟨hbk, h⟩ := h
  exact q_vret (pc := 6) C hr hlocks h dJ0_init_81219_6 (by omega) (by omega)
set_option maxRecDepth 100000 in
set_option maxHeartbeats 4000000 in
theorem kJ0_init_81219 (l : Launch) (G : mG) (b0 : Nat) {g : Nat → Nat} (hg : G.2.2 = g) {K B : Nat} {b : Nat} {l1 : Option Nat} {M : mM} {κ : mM → Prop} (h : wJ0_init_81219 g K B κ (some b) l1 M) : Met l yJ0_init_81219 wsJ0_init_81219 ({ frames := 4, cells := K, slots := B, locals := 110 } : Room) (va_Pc [.ref b, va_rf l1] (m_Pre G b0 M)) (va_Qv κ (m_B G b0) (fun q => b0 ≤ q)) K B (fun q => b0 ≤ q) := by
  refine m_met (cc := cJ0_init_81219) (maxL := 2) (ret := none) (lv := [(0, va_rf (some b)), (1, va_rf l1)]) RJ0 rfl (by decide +kernel) rfl (by first | exact Nat.le_of_ble_eq_true rfl | simp [lg_sl, q_cat, q_catI, q_catJ, q_catR, q_catN]) (by first | rfl | (simp [lv_args, q_cat, q_catI, q_catJ, q_catR, q_catN]; done) | (simp [lv_args, q_cat, q_catI, q_catJ, q_catR, q_catN]; rfl)) ?_
  intro p e s m args below meth c C hr hlocks hni
  exact tJ0_init_81219 C hr hlocks hg hni h
/-! J4_toString_0e30d -/
set_option maxRecDepth 100000 in
set_option maxHeartbeats 4000000 in
theorem tJ4_toString_0e30d {p : Program} {l : Launch} {e : Env} {s : State} {m : MethodId} {args : Array Value} {below : List Frame} {meth : Method} {c : Code} {G : mG} {b0 : Nat} (C : m_C p s m args c cJ4_toString_0e30d 1 RJ4 wsJ4_toString_0e30d G b0) (hr : meth.sig.returnType = (some (.object "java/lang/String"))) (hlocks : meth.locks = false) {g : Nat → Nat} (hg : G.2.2 = g) {K B : Nat} {κ : Option Nat → mM → Prop} {l0 : Option Nat} {M : mM} (h : wJ4_toString_0e30d g K B κ l0 M) : m_W p l e ({ frames := 5, cells := K, slots := B, locals := 131 } : Room) s m args below meth c G b0 (MQ below (va_Qq κ (m_B G b0) (fun q => b0 ≤ q)) args s K B (fun q => b0 ≤ q)) 1 M 0 0 0 [(0, va_rf l0)] [] := by
  unfold wJ4_toString_0e30d at h
  obtain ⟨hbk, h⟩ := h
  refine q_new (pc := 0) C h rfl (T := TJ0) tyJ0 tyJ0_ok rfl (by decide +kernel) (by decide +kernel) (by decide +kernel) (by decide +kernel) (fun j hj => by rcases (show j = 0 ∨ j = 1 ∨ j = 2 ∨ j = 3 by omega) with rfl | rfl | rfl | rfl <;> rfl) (by first | omega | (dsimp only; omega)) (by first | omega | (dsimp only; omega)) dJ4_toString_0e30d_0 (fun q1 M2 h => ?_)
  refine q_dup (pc := 3) C dJ4_toString_0e30d_3 (q_cat _) ?_
  refine q_aload_n (pc := 4) C 0 0 dJ4_toString_0e30d_4 rfl rfl ?_
  obtain ⟨K3, B4, h⟩ := h
  obtain ⟨hbk, h⟩ := h
  obtain ⟨b6, fs9, hb6, hm9, h⟩ := h
  refine q_cv (pc := 5) (q_rI C (st := [va_rf (some q1)]) (b := b6) (kJ0_init_81219 l G b0 hg h) (cwI 1 C.2.2.2.2.1 gJ4_toString_0e30d_J0_init_81219 rfl rfl rfl (C.2.2.2.2.1 (.initialized RJ0) (by decide +kernel)) (C.2.2.2.2.1 (.methodLink RJ4 137 yJ0_init_81219) (by decide +kernel)) (C.2.2.2.2.1 (.instanceMethod yJ0_init_81219) (by decide +kernel)) rfl (by decide +kernel) ⟨Nat.le_of_ble_eq_true rfl, Nat.le_of_ble_eq_true rfl⟩) rfl (by first | exact Nat.le_of_ble_eq_true rfl | (simp [q_cat, q_catI, q_catJ, q_catR, q_catN]; done)) (by rw [hb6]; first | done | rfl) dJ4_toString_0e30d_5 ⟨(by first | omega | (dsimp only; omega)), (by first | omega | (dsimp only; omega))⟩) (fun M5 h => ?_)
  obtain ⟨hbk, h⟩ := h
  exact q_aret (pc := 8) C hr (by first | exact Or.inl ⟨_, rfl⟩ | exact Or.inr ⟨_, rfl⟩) hlocks h dJ4_toString_0e30d_8 (by omega) (by omega)
set_option maxRecDepth 100000 in
set_option maxHeartbeats 4000000 in
theorem kJ4_toString_0e30d (l : Launch) (G : mG) (b0 : Nat) {g : Nat → Nat} (hg : G.2.2 = g) {K B : Nat} {b : Nat} {M : mM} {κ : Option Nat → mM → Prop} (h : wJ4_toString_0e30d g K B κ (some b) M) : Met l yJ4_toString_0e30d wsJ4_toString_0e30d ({ frames := 5, cells := K, slots := B, locals := 131 } : Room) (va_Pc [.ref b] (m_Pre G b0 M)) (va_Qq κ (m_B G b0) (fun q => b0 ≤ q)) K B (fun q => b0 ≤ q) := by
  refine m_met (cc := cJ4_toString_0e30d) (maxL := 1) (ret := (some (.object "java/lang/String"))) (lv := [(0, va_rf (some b))]) RJ4 rfl (by decide +kernel) rfl (by first | exact Nat.le_of_ble_eq_true rfl | simp [lg_sl, q_cat, q_catI, q_catJ, q_catR, q_catN]) (by first | rfl | (simp [lv_args, q_cat, q_catI, q_catJ, q_catR, q_catN]; done) | (simp [lv_args, q_cat, q_catI, q_catJ, q_catR, q_catN]; rfl)) ?_
  intro p e s m args below meth c C hr hlocks hni
  exact tJ4_toString_0e30d C hr hlocks hg h
