/-! X14_queue -/
set_option maxRecDepth 100000 in
set_option maxHeartbeats 4000000 in
theorem tX14_queue_127 {p : Program} {l : Launch} {e : Env} {s : State} {m : MethodId} {args : Array Value} {below : List Frame} {meth : Method} {c : Code} {G : mG} {b0 : Nat} (C : m_C p s m args c cX14_queue 6 RX14 wsX14_queue G b0) (hr : meth.sig.returnType = (some (.object "java/lang/String"))) (hlocks : meth.locks = false) {g : Nat → Nat} (hg : G.2.2 = g) {κ : Option Nat → mM → Prop} {R54 : Nat → Nat → Option Nat → Option Nat → Option Nat → Int32 → mM → Prop} (hR54 : ∀ (k9 n9 : Nat) (l0 : Option Nat) (l2 : Option Nat) (l3 : Option Nat) (l4 : Int32) (M : mM), R54 k9 n9 l0 l2 l3 l4 M → m_W p l e ({ frames := 6, cells := 80, slots := 600, locals := 154 } : Room) s m args below meth c G b0 (MQ below (va_Qq κ (m_B G b0) (fun q => b0 ≤ q)) args s 80 600 (fun q => b0 ≤ q)) 6 M k9 n9 54 [(0, va_rf l0), (2, va_rf l2), (3, va_rf l3), (4, .int l4)] []) {k9 n9 : Nat} {l0 : Option Nat} {l2 : Option Nat} {l3 : Option Nat} {l4 : Int32} {s0 : Option Nat} {s1 : Option Nat} {M : mM} (h : wX14_queue_127 g κ R54 k9 n9 l0 l2 l3 l4 s0 s1 M) : m_W p l e ({ frames := 6, cells := 80, slots := 600, locals := 154 } : Room) s m args below meth c G b0 (MQ below (va_Qq κ (m_B G b0) (fun q => b0 ≤ q)) args s 80 600 (fun q => b0 ≤ q)) 6 M k9 n9 127 [(0, va_rf l0), (2, va_rf l2), (3, va_rf l3), (4, .int l4)] [va_rf s0, va_rf s1] := by
  unfold wX14_queue_127 at h
  obtain ⟨hbk, h⟩ := h
  obtain ⟨K1, B2, h⟩ := h
  obtain ⟨hbk, h⟩ := h
  obtain ⟨b5, fs9, hb5, hm9, h⟩ := h
  refine q_cq (pc := 127) (q_rV C (st := []) (b := b5) (kJ4_append_15ec4 l G b0 hg h) (cwV 1 C.2.2.2.2.1 gX14_queue_J4_append_15ec4 rfl rfl rfl (by decide +kernel) ⟨Nat.le_of_ble_eq_true rfl, Nat.le_of_ble_eq_true rfl⟩) hm9 rfl rfl rfl (by first | exact Nat.le_of_ble_eq_true rfl | (simp [q_cat, q_catI, q_catJ, q_catR, q_catN]; done)) (by rw [hb5]; first | done | rfl) dX14_queue_127 ⟨(by first | omega | (dsimp only; omega)), (by first | omega | (dsimp only; omega))⟩) (fun x3 M4 h => ?_)
  refine q_pop (pc := 130) C dX14_queue_130 (q_cat _) ?_
  refine q_iinc (pc := 131) C 4 3 (l4 + 1) [(4, .int (l4 + 1)), (0, va_rf l0), (2, va_rf l2), (3, va_rf l3)] dX14_queue_131 rfl (by rfl) (by decide) (by first | rfl | simp [q_cat, q_catI, q_catJ, q_catR, q_catN]) ?_
  refine q_goto (pc := 134) C 54 dX14_queue_134 (by decide) ?_
  refine q_lv [1, 2, 3, 0] rfl ?_
  exact hR54 _ _ _ _ _ _ _ h
set_option maxRecDepth 100000 in
set_option maxHeartbeats 4000000 in
theorem tX14_queue_92 {p : Program} {l : Launch} {e : Env} {s : State} {m : MethodId} {args : Array Value} {below : List Frame} {meth : Method} {c : Code} {G : mG} {b0 : Nat} (C : m_C p s m args c cX14_queue 6 RX14 wsX14_queue G b0) (hr : meth.sig.returnType = (some (.object "java/lang/String"))) (hlocks : meth.locks = false) {g : Nat → Nat} (hg : G.2.2 = g) {κ : Option Nat → mM → Prop} {R54 : Nat → Nat → Option Nat → Option Nat → Option Nat → Int32 → mM → Prop} (hR54 : ∀ (k9 n9 : Nat) (l0 : Option Nat) (l2 : Option Nat) (l3 : Option Nat) (l4 : Int32) (M : mM), R54 k9 n9 l0 l2 l3 l4 M → m_W p l e ({ frames := 6, cells := 80, slots := 600, locals := 154 } : Room) s m args below meth c G b0 (MQ below (va_Qq κ (m_B G b0) (fun q => b0 ≤ q)) args s 80 600 (fun q => b0 ≤ q)) 6 M k9 n9 54 [(0, va_rf l0), (2, va_rf l2), (3, va_rf l3), (4, .int l4)] []) {k9 n9 : Nat} {l0 : Option Nat} {l2 : Option Nat} {l3 : Option Nat} {l4 : Int32} {l5 : Int32} {s0 : Option Nat} {s1 : Option Nat} {M : mM} (h : wX14_queue_92 g κ R54 k9 n9 l0 l2 l3 l4 l5 s0 s1 M) : m_W p l e ({ frames := 6, cells := 80, slots := 600, locals := 154 } : Room) s m args below meth c G b0 (MQ below (va_Qq κ (m_B G b0) (fun q => b0 ≤ q)) args s 80 600 (fun q => b0 ≤ q)) 6 M k9 n9 92 [(0, va_rf l0), (2, va_rf l2), (3, va_rf l3), (4, .int l4), (5, .int l5)] [va_rf s0, va_rf s1] := by
  unfold wX14_queue_92 at h
  obtain ⟨hbk, h⟩ := h
  obtain ⟨K1, B2, h⟩ := h
  obtain ⟨hbk, h⟩ := h
  obtain ⟨b5, fs9, hb5, hm9, h⟩ := h
  refine q_cq (pc := 92) (q_rV C (st := []) (b := b5) (kJ4_append_15ec4 l G b0 hg h) (cwV 1 C.2.2.2.2.1 gX14_queue_J4_append_15ec4 rfl rfl rfl (by decide +kernel) ⟨Nat.le_of_ble_eq_true rfl, Nat.le_of_ble_eq_true rfl⟩) hm9 rfl rfl rfl (by first | exact Nat.le_of_ble_eq_true rfl | (simp [q_cat, q_catI, q_catJ, q_catR, q_catN]; done)) (by rw [hb5]; first | done | rfl) dX14_queue_92 ⟨(by first | omega | (dsimp only; omega)), (by first | omega | (dsimp only; omega))⟩) (fun x3 M4 h => ?_)
  refine q_iload (pc := 95) C 5 4 dX14_queue_95 rfl ?_
  obtain ⟨K6, B7, h⟩ := h
  obtain ⟨hbk, h⟩ := h
  obtain ⟨b10, fs9, hb10, hm9, h⟩ := h
  refine q_cq (pc := 97) (q_rV C (st := []) (b := b10) (kJ4_append_bf812 l G b0 hg h) (cwV 1 C.2.2.2.2.1 gX14_queue_J4_append_bf812 rfl rfl rfl (by decide +kernel) ⟨Nat.le_of_ble_eq_true rfl, Nat.le_of_ble_eq_true rfl⟩) hm9 rfl rfl rfl (by first | exact Nat.le_of_ble_eq_true rfl | (simp [q_cat, q_catI, q_catJ, q_catR, q_catN]; done)) (by rw [hb10]; first | done | rfl) dX14_queue_97 ⟨(by first | omega | (dsimp only; omega)), (by first | omega | (dsimp only; omega))⟩) (fun x8 M9 h => ?_)
  refine q_aload_n (pc := 100) C 0 0 dX14_queue_100 rfl rfl ?_
  refine q_gR (pc := 101) C h (T := TX14) rfl (by decide) (wk_u bm_X14_queue wm_X14_queue uq_X14 (by decide +kernel)) (by decide +kernel) (fun _ h9 => h9) dX14_queue_101 (fun x11 h => ?_)
  refine q_iload (pc := 104) C 5 4 dX14_queue_104 rfl ?_
  obtain ⟨b14, fs9, hb14, hm9, h⟩ := h
  refine q_cq (pc := 106) (q_rV C (st := [va_rf x8]) (b := b14) (kJx4a65c_get_915e3 l G b0 h) (cwV 1 C.2.2.2.2.1 gX14_queue_Jx4a65c_get_915e3 rfl rfl rfl (by decide +kernel) ⟨Nat.le_of_ble_eq_true rfl, Nat.le_of_ble_eq_true rfl⟩) hm9 rfl rfl rfl (by first | exact Nat.le_of_ble_eq_true rfl | (simp [q_cat, q_catI, q_catJ, q_catR, q_catN]; done)) (by rw [hb14]; first | done | rfl) dX14_queue_106 ⟨(by first | omega | (dsimp only; omega)), (by first | omega | (dsimp only; omega))⟩) (fun x12 M13 h => ?_)
  refine q_cast (pc := 109) C h rfl rfl (by decide +kernel) dX14_queue_109 (fun h => ?_)
  refine q_gIN (pc := 112) C h (host := "LullabygateModel") (T := TX13) rfl (by decide) (by decide +kernel) 1475 (by decide +kernel) (fun _ h9 => h9) dX14_queue_112 (fun x15 h => ?_)
  refine q_if_eq (pc := 115) C 124 dX14_queue_115 (by decide) (fun c16 => ?_) (fun c16 => ?_)
  · have h := h.1 c16
    refine q_ldcwS (pc := 124) C hg (List.mem_of_getElem? (i := 1) rfl) dX14_queue_124 ?_
    refine q_lv [0, 1, 2, 3] rfl ?_
    exact tX14_queue_127 C hr hlocks hg hR54 h
  · have h := h.2 c16
    refine q_ldcwS (pc := 118) C hg (List.mem_of_getElem? (i := 3) rfl) dX14_queue_118 ?_
    refine q_goto (pc := 121) C 127 dX14_queue_121 (by decide) ?_
    refine q_lv [0, 1, 2, 3] rfl ?_
    exact tX14_queue_127 C hr hlocks hg hR54 h
set_option maxRecDepth 100000 in
set_option maxHeartbeats 4000000 in
theorem tX14_queue_54 {p : Program} {l : Launch} {e : Env} {s : State} {m : MethodId} {args : Array Value} {below : List Frame} {meth : Method} {c : Code} {G : mG} {b0 : Nat} (C : m_C p s m args c cX14_queue 6 RX14 wsX14_queue G b0) (hr : meth.sig.returnType = (some (.object "java/lang/String"))) (hlocks : meth.locks = false) {g : Nat → Nat} (hg : G.2.2 = g) {κ : Option Nat → mM → Prop} : ∀ (f : Nat) (k9 n9 : Nat) (l0 : Option Nat) (l2 : Option Nat) (l3 : Option Nat) (l4 : Int32) (M : mM), wX14_queue_54 g κ f k9 n9 l0 l2 l3 l4 M → m_W p l e ({ frames := 6, cells := 80, slots := 600, locals := 154 } : Room) s m args below meth c G b0 (MQ below (va_Qq κ (m_B G b0) (fun q => b0 ≤ q)) args s 80 600 (fun q => b0 ≤ q)) 6 M k9 n9 54 [(0, va_rf l0), (2, va_rf l2), (3, va_rf l3), (4, .int l4)] [] := by
  intro f
  induction f with
  | zero =>
    intro k9 n9 l0 l2 l3 l4 M h
    exact absurd h (by simp [wX14_queue_54])
  | succ f ih =>
    intro k9 n9 l0 l2 l3 l4 M h
    rw [wX14_queue_54] at h
    obtain ⟨hbk, h⟩ := h
    refine q_iload (pc := 54) C 4 3 dX14_queue_54 rfl ?_
    refine q_aload_n (pc := 56) C 3 2 dX14_queue_56 rfl rfl ?_
    obtain ⟨b3, fs9, hb3, hm9, h⟩ := h
    refine q_ci (pc := 57) (q_rV C (st := [.int l4]) (b := b3) (kJx4a65c_size_8abf5 l G b0 h) (cwV 0 C.2.2.2.2.1 gX14_queue_Jx4a65c_size_8abf5 rfl rfl rfl (by decide +kernel) ⟨Nat.le_of_ble_eq_true rfl, Nat.le_of_ble_eq_true rfl⟩) hm9 rfl rfl rfl (by first | exact Nat.le_of_ble_eq_true rfl | (simp [q_cat, q_catI, q_catJ, q_catR, q_catN]; done)) (by rw [hb3]; first | done | rfl) dX14_queue_57 ⟨(by first | omega | (dsimp only; omega)), (by first | omega | (dsimp only; omega))⟩) (fun x1 M2 h => ?_)
    refine q_icmp_ge (pc := 60) C 137 dX14_queue_60 (by decide) (fun c4 => ?_) (fun c4 => ?_)
    · have h := h.1 c4
      refine q_aload_n (pc := 137) C 3 2 dX14_queue_137 rfl rfl ?_
      obtain ⟨b7, fs9, hb7, hm9, h⟩ := h
      refine q_ci (pc := 138) (q_rV C (st := []) (b := b7) (kJx4a65c_isEmpty_aae02 l G b0 h) (cwV 0 C.2.2.2.2.1 gX14_queue_Jx4a65c_isEmpty_aae02 rfl rfl rfl (by decide +kernel) ⟨Nat.le_of_ble_eq_true rfl, Nat.le_of_ble_eq_true rfl⟩) hm9 rfl rfl rfl (by first | exact Nat.le_of_ble_eq_true rfl | (simp [q_cat, q_catI, q_catJ, q_catR, q_catN]; done)) (by rw [hb7]; first | done | rfl) dX14_queue_138 ⟨(by first | omega | (dsimp only; omega)), (by first | omega | (dsimp only; omega))⟩) (fun x5 M6 h => ?_)
      refine q_if_eq (pc := 141) C 150 dX14_queue_141 (by decide) (fun c8 => ?_) (fun c8 => ?_)
      · have h := h.1 c8
        refine q_aload_n (pc := 150) C 2 1 dX14_queue_150 rfl rfl ?_
        obtain ⟨K9, B10, h⟩ := h
        obtain ⟨hbk, h⟩ := h
        obtain ⟨b13, fs9, hb13, hm9, h⟩ := h
        refine q_cq (pc := 151) (q_rV C (st := []) (b := b13) (kJ4_toString_0e30d l G b0 hg h) (cwV 0 C.2.2.2.2.1 gX14_queue_J4_toString_0e30d rfl rfl rfl (by decide +kernel) ⟨Nat.le_of_ble_eq_true rfl, Nat.le_of_ble_eq_true rfl⟩) hm9 rfl rfl rfl (by first | exact Nat.le_of_ble_eq_true rfl | (simp [q_cat, q_catI, q_catJ, q_catR, q_catN]; done)) (by rw [hb13]; first | done | rfl) dX14_queue_151 ⟨(by first | omega | (dsimp only; omega)), (by first | omega | (dsimp only; omega))⟩) (fun x11 M12 h => ?_)
        obtain ⟨hbk, h⟩ := h
        exact q_aret (pc := 154) C hr (by first | exact Or.inl ⟨_, rfl⟩ | exact Or.inr ⟨_, rfl⟩) hlocks h dX14_queue_154 (by omega) (by omega)
      · have h := h.2 c8
        refine q_ldcwS (pc := 144) C hg (List.mem_of_getElem? (i := 4) rfl) dX14_queue_144 ?_
        refine q_goto (pc := 147) C 154 dX14_queue_147 (by decide) ?_
        obtain ⟨hbk, h⟩ := h
        exact q_aret (pc := 154) C hr (by first | exact Or.inl ⟨_, rfl⟩ | exact Or.inr ⟨_, rfl⟩) hlocks h dX14_queue_154 (by omega) (by omega)
    · have h := h.2 c4
      refine q_aload_n (pc := 63) C 3 2 dX14_queue_63 rfl rfl ?_
      refine q_iload (pc := 64) C 4 3 dX14_queue_64 rfl ?_
      obtain ⟨b16, fs9, hb16, hm9, h⟩ := h
      refine q_cq (pc := 66) (q_rV C (st := []) (b := b16) (kJx4a65c_get_915e3 l G b0 h) (cwV 1 C.2.2.2.2.1 gX14_queue_Jx4a65c_get_915e3 rfl rfl rfl (by decide +kernel) ⟨Nat.le_of_ble_eq_true rfl, Nat.le_of_ble_eq_true rfl⟩) hm9 rfl rfl rfl (by first | exact Nat.le_of_ble_eq_true rfl | (simp [q_cat, q_catI, q_catJ, q_catR, q_catN]; done)) (by rw [hb16]; first | done | rfl) dX14_queue_66 ⟨(by first | omega | (dsimp only; omega)), (by first | omega | (dsimp only; omega))⟩) (fun x14 M15 h => ?_)
      refine q_cast (pc := 69) C h rfl rfl (by decide +kernel) dX14_queue_69 (fun h => ?_)
      obtain ⟨b19, fs9, hb19, hm9, h⟩ := h
      refine q_ci (pc := 72) (q_rV C (st := []) (b := b19) (kJ6_intValue_8abf5 l G b0 h) (cwV 0 C.2.2.2.2.1 gX14_queue_J6_intValue_8abf5 rfl rfl rfl (by decide +kernel) ⟨Nat.le_of_ble_eq_true rfl, Nat.le_of_ble_eq_true rfl⟩) hm9 rfl rfl rfl (by first | exact Nat.le_of_ble_eq_true rfl | (simp [q_cat, q_catI, q_catJ, q_catR, q_catN]; done)) (by rw [hb19]; first | done | rfl) dX14_queue_72 ⟨(by first | omega | (dsimp only; omega)), (by first | omega | (dsimp only; omega))⟩) (fun x17 M18 h => ?_)
      refine q_istore (pc := 75) C 5 [(5, .int x17), (0, va_rf l0), (2, va_rf l2), (3, va_rf l3), (4, .int l4)] dX14_queue_75 (by decide) (by first | rfl | simp [q_cat, q_catI, q_catJ, q_catR, q_catN]) ?_
      refine q_aload_n (pc := 77) C 2 2 dX14_queue_77 rfl rfl ?_
      refine q_iload (pc := 78) C 4 4 dX14_queue_78 rfl ?_
      refine q_if_le (pc := 80) C 89 dX14_queue_80 (by decide) (fun c20 => ?_) (fun c20 => ?_)
      · have h := h.1 c20
        refine q_ldcwS (pc := 89) C hg (List.mem_of_getElem? (i := 1) rfl) dX14_queue_89 ?_
        refine q_lv [1, 2, 3, 4, 0] rfl ?_
        exact tX14_queue_92 C hr hlocks hg ih h
      · have h := h.2 c20
        refine q_ldcwS (pc := 83) C hg (List.mem_of_getElem? (i := 2) rfl) dX14_queue_83 ?_
        refine q_goto (pc := 86) C 92 dX14_queue_86 (by decide) ?_
        refine q_lv [1, 2, 3, 4, 0] rfl ?_
        exact tX14_queue_92 C hr hlocks hg ih h
set_option maxRecDepth 100000 in
set_option maxHeartbeats 4000000 in
theorem tX14_queue_14 {p : Program} {l : Launch} {e : Env} {s : State} {m : MethodId} {args : Array Value} {below : List Frame} {meth : Method} {c : Code} {G : mG} {b0 : Nat} (C : m_C p s m args c cX14_queue 6 RX14 wsX14_queue G b0) (hr : meth.sig.returnType = (some (.object "java/lang/String"))) (hlocks : meth.locks = false) {g : Nat → Nat} (hg : G.2.2 = g) {κ : Option Nat → mM → Prop} {k9 n9 : Nat} {l0 : Option Nat} {l1 : Int32} {s0 : Int32} {s1 : Option Nat} {M : mM} (h : wX14_queue_14 g κ k9 n9 l0 l1 s0 s1 M) : m_W p l e ({ frames := 6, cells := 80, slots := 600, locals := 154 } : Room) s m args below meth c G b0 (MQ below (va_Qq κ (m_B G b0) (fun q => b0 ≤ q)) args s 80 600 (fun q => b0 ≤ q)) 6 M k9 n9 14 [(0, va_rf l0), (1, .int l1)] [.int s0, va_rf s1] := by
  unfold wX14_queue_14 at h
  obtain ⟨hbk, h⟩ := h
  refine q_p (pc := 14) C h .int (T := TX14) tyX14 tyX14_ok nmX14 rfl (by decide +kernel) rfl rfl rfl (by decide) (wk_u bm_X14_queue wm_X14_queue uq_X14 (by decide +kernel)) (by decide +kernel) (fun _ h9 => h9) rfl dX14_queue_14 (fun M1 h => ?_)
  refine q_aload_n (pc := 17) C 0 0 dX14_queue_17 rfl rfl ?_
  refine q_gI (pc := 18) C h (T := TX14) rfl (by decide) (wk_u bm_X14_queue wm_X14_queue uq_X14 (by decide +kernel)) (by decide +kernel) (fun _ h9 => h9) dX14_queue_18 (fun x2 h => ?_)
  refine q_if_le (pc := 21) C 28 dX14_queue_21 (by decide) (fun c3 => ?_) (fun c3 => ?_)
  · have h := h.1 c3
    obtain ⟨hbk, h⟩ := h
    refine q_new (pc := 28) C h rfl (T := TJ4) tyJ4 tyJ4_ok rfl (by decide +kernel) (by decide +kernel) (by decide +kernel) (by decide +kernel) (fun j hj => by rcases (show j = 0 ∨ j = 1 ∨ j = 2 ∨ j = 3 by omega) with rfl | rfl | rfl | rfl <;> rfl) (by first | omega | (dsimp only; omega)) (by first | omega | (dsimp only; omega)) dX14_queue_28 (fun q4 M5 h => ?_)
    refine q_dup (pc := 31) C dX14_queue_31 (q_cat _) ?_
    obtain ⟨K6, B7, h⟩ := h
    obtain ⟨hbk, h⟩ := h
    obtain ⟨b9, fs9, hb9, hm9, h⟩ := h
    refine q_cv (pc := 32) (q_rI C (st := [va_rf (some q4)]) (b := b9) (kJ4_init_da8c8 l G b0 hg h) (cwI 0 C.2.2.2.2.1 gX14_queue_J4_init_da8c8 rfl rfl rfl (C.2.2.2.2.1 (.initialized RJ4) (by decide +kernel)) (C.2.2.2.2.1 (.methodLink RX14 306 yJ4_init_da8c8) (by decide +kernel)) (C.2.2.2.2.1 (.instanceMethod yJ4_init_da8c8) (by decide +kernel)) rfl (by decide +kernel) ⟨Nat.le_of_ble_eq_true rfl, Nat.le_of_ble_eq_true rfl⟩) rfl (by first | exact Nat.le_of_ble_eq_true rfl | (simp [q_cat, q_catI, q_catJ, q_catR, q_catN]; done)) (by rw [hb9]; first | done | rfl) dX14_queue_32 ⟨(by first | omega | (dsimp only; omega)), (by first | omega | (dsimp only; omega))⟩) (fun M8 h => ?_)
    refine q_astore_n (pc := 35) C 2 [(2, va_rf (some q4)), (0, va_rf l0), (1, .int l1)] dX14_queue_35 rfl (by decide) (by first | rfl | simp [q_cat, q_catI, q_catJ, q_catR, q_catN]) ?_
    refine q_aload_n (pc := 36) C 0 1 dX14_queue_36 rfl rfl ?_
    refine q_gR (pc := 37) C h (T := TX14) rfl (by decide) (wk_u bm_X14_queue wm_X14_queue uq_X14 (by decide +kernel)) (by decide +kernel) (fun _ h9 => h9) dX14_queue_37 (fun x10 h => ?_)
    refine q_iload_n (pc := 40) C 1 2 dX14_queue_40 rfl rfl ?_
    obtain ⟨b13, fs9, hb13, hm9, h⟩ := h
    refine q_cq (pc := 41) (q_rV C (st := []) (b := b13) (kJx4a65c_get_915e3 l G b0 h) (cwV 1 C.2.2.2.2.1 gX14_queue_Jx4a65c_get_915e3 rfl rfl rfl (by decide +kernel) ⟨Nat.le_of_ble_eq_true rfl, Nat.le_of_ble_eq_true rfl⟩) hm9 rfl rfl rfl (by first | exact Nat.le_of_ble_eq_true rfl | (simp [q_cat, q_catI, q_catJ, q_catR, q_catN]; done)) (by rw [hb13]; first | done | rfl) dX14_queue_41 ⟨(by first | omega | (dsimp only; omega)), (by first | omega | (dsimp only; omega))⟩) (fun x11 M12 h => ?_)
    refine q_cast (pc := 44) C h rfl rfl (by decide +kernel) dX14_queue_44 (fun h => ?_)
    refine q_gRN (pc := 47) C h (host := "LullabygateModel") (T := TX10) rfl (by decide) (by decide +kernel) 1430 (by decide +kernel) (fun _ h9 => h9) dX14_queue_47 (fun x14 h => ?_)
    refine q_astore_n (pc := 50) C 3 [(3, va_rf x14), (2, va_rf (some q4)), (0, va_rf l0), (1, .int l1)] dX14_queue_50 rfl (by decide) (by first | rfl | simp [q_cat, q_catI, q_catJ, q_catR, q_catN]) ?_
    refine q_iconst (pc := 51) C 0 dX14_queue_51 (by decide) ?_
    refine q_istore (pc := 52) C 4 [(4, .int 0), (3, va_rf x14), (2, va_rf (some q4)), (0, va_rf l0), (1, .int l1)] dX14_queue_52 (by decide) (by first | rfl | simp [q_cat, q_catI, q_catJ, q_catR, q_catN]) ?_
    refine q_lv [3, 2, 1, 0] rfl ?_
    obtain ⟨f9, h⟩ := h
    exact tX14_queue_54 C hr hlocks hg f9 _ _ _ _ _ _ _ h
  · have h := h.2 c3
    refine q_ldcwS (pc := 24) C hg (List.mem_of_getElem? (i := 1) rfl) dX14_queue_24 ?_
    obtain ⟨hbk, h⟩ := h
    exact q_aret (pc := 27) C hr (by first | exact Or.inl ⟨_, rfl⟩ | exact Or.inr ⟨_, rfl⟩) hlocks h dX14_queue_27 (by omega) (by omega)
set_option maxRecDepth 100000 in
set_option maxHeartbeats 4000000 in
theorem tX14_queue {p : Program} {l : Launch} {e : Env} {s : State} {m : MethodId} {args : Array Value} {below : List Frame} {meth : Method} {c : Code} {G : mG} {b0 : Nat} (C : m_C p s m args c cX14_queue 6 RX14 wsX14_queue G b0) (hr : meth.sig.returnType = (some (.object "java/lang/String"))) (hlocks : meth.locks = false) {g : Nat → Nat} (hg : G.2.2 = g) {κ : Option Nat → mM → Prop} {l0 : Option Nat} {l1 : Int32} {M : mM} (h : wX14_queue g κ l0 l1 M) : m_W p l e ({ frames := 6, cells := 80, slots := 600, locals := 154 } : Room) s m args below meth c G b0 (MQ below (va_Qq κ (m_B G b0) (fun q => b0 ≤ q)) args s 80 600 (fun q => b0 ≤ q)) 6 M 0 0 0 [(0, va_rf l0), (1, .int l1)] [] := by
  unfold wX14_queue at h
  refine q_aload_n (pc := 0) C 0 0 dX14_queue_0 rfl rfl ?_
  refine q_aload_n (pc := 1) C 0 0 dX14_queue_1 rfl rfl ?_
  refine q_iload_n (pc := 2) C 1 1 dX14_queue_2 rfl rfl ?_
  obtain ⟨b3, fs9, hb3, hm9, h⟩ := h
  refine q_ci (pc := 3) (q_rV C (st := [va_rf l0]) (b := b3) (kX14_isGate l G b0 h) (cwV 1 C.2.2.2.2.1 gX14_queue_X14_isGate rfl rfl rfl (by decide +kernel) ⟨Nat.le_of_ble_eq_true rfl, Nat.le_of_ble_eq_true rfl⟩) hm9 rfl rfl rfl (by first | exact Nat.le_of_ble_eq_true rfl | (simp [q_cat, q_catI, q_catJ, q_catR, q_catN]; done)) (by rw [hb3]; first | done | rfl) dX14_queue_3 ⟨(by first | omega | (dsimp only; omega)), (by first | omega | (dsimp only; omega))⟩) (fun x1 M2 h => ?_)
  refine q_if_eq (pc := 6) C 13 dX14_queue_6 (by decide) (fun c4 => ?_) (fun c4 => ?_)
  · have h := h.1 c4
    refine q_iconst (pc := 13) C 1 dX14_queue_13 (by decide) ?_
    refine q_lv [0, 1] rfl ?_
    exact tX14_queue_14 C hr hlocks hg h
  · have h := h.2 c4
    refine q_iconst (pc := 9) C 0 dX14_queue_9 (by decide) ?_
    refine q_goto (pc := 10) C 14 dX14_queue_10 (by decide) ?_
    refine q_lv [0, 1] rfl ?_
    exact tX14_queue_14 C hr hlocks hg h
set_option maxRecDepth 100000 in
set_option maxHeartbeats 4000000 in
theorem kX14_queue (l : Launch) (G : mG) (b0 : Nat) {g : Nat → Nat} (hg : G.2.2 = g) {b : Nat} {l1 : Int32} {M : mM} {κ : Option Nat → mM → Prop} (h : wX14_queue g κ (some b) l1 M) : Met l yX14_queue wsX14_queue ({ frames := 6, cells := 80, slots := 600, locals := 154 } : Room) (va_Pc [.ref b, .int l1] (m_Pre G b0 M)) (va_Qq κ (m_B G b0) (fun q => b0 ≤ q)) 80 600 (fun q => b0 ≤ q) := by
  refine m_met (cc := cX14_queue) (maxL := 6) (ret := (some (.object "java/lang/String"))) (lv := [(0, va_rf (some b)), (1, .int l1)]) RX14 rfl (by decide +kernel) rfl (by first | exact Nat.le_of_ble_eq_true rfl | simp [lg_sl, q_cat, q_catI, q_catJ, q_catR, q_catN]) (by first | rfl | (simp [lv_args, q_cat, q_catI, q_catJ, q_catR, q_catN]; done) | (simp [lv_args, q_cat, q_catI, q_catJ, q_catR, q_catN]; rfl)) ?_
  intro p e s m args below meth c C hr hlocks hni
  exact tX14_queue C hr hlocks hg h
/-! X14_isSoundNow -/
set_option maxRecDepth 100000 in
set_option maxHeartbeats 4000000 in
theorem tX14_isSoundNow_279 {p : Program} {l : Launch} {e : Env} {s : State} {m : MethodId} {args : Array Value} {below : List Frame} {meth : Method} {c : Code} {G : mG} {b0 : Nat} (C : m_C p s m args c cX14_isSoundNow 7 RX14 wsX14_isSoundNow G b0) (hr : meth.sig.returnType = (some .boolean)) (hlocks : meth.locks = false) {κ : Int32 → mM → Prop} {R202 : Option Nat → Option Nat → Int32 → Int32 → mM → Prop} (hR202 : ∀ (l0 : Option Nat) (l1 : Option Nat) (l2 : Int32) (l3 : Int32) (M : mM), R202 l0 l1 l2 l3 M → m_W p l e ({ frames := 4, cells := 2, slots := 16, locals := 87 } : Room) s m args below meth c G b0 (MQ below (va_Qi κ (m_B G b0) (fun q => b0 ≤ q)) args s 2 16 (fun q => b0 ≤ q)) 7 M 2 16 202 [(0, va_rf l0), (1, va_rf l1), (2, .int l2), (3, .int l3)] []) {l0 : Option Nat} {l1 : Option Nat} {l2 : Int32} {l3 : Int32} {M : mM} (h : wX14_isSoundNow_279 κ R202 l0 l1 l2 l3 M) : m_W p l e ({ frames := 4, cells := 2, slots := 16, locals := 87 } : Room) s m args below meth c G b0 (MQ below (va_Qi κ (m_B G b0) (fun q => b0 ≤ q)) args s 2 16 (fun q => b0 ≤ q)) 7 M 2 16 279 [(0, va_rf l0), (1, va_rf l1), (2, .int l2), (3, .int l3)] [] := by
  unfold wX14_isSoundNow_279 at h
  refine q_iinc (pc := 279) C 3 3 (l3 + 1) [(3, .int (l3 + 1)), (0, va_rf l0), (1, va_rf l1), (2, .int l2)] dX14_isSoundNow_279 rfl (by rfl) (by decide) (by first | rfl | simp [q_cat, q_catI, q_catJ, q_catR, q_catN]) ?_
  refine q_goto (pc := 282) C 202 dX14_isSoundNow_282 (by decide) ?_
  refine q_widen (k2 := 2) (n2 := 16) (by omega) (by omega) ?_
  refine q_lv [1, 2, 3, 0] rfl ?_
  exact hR202 _ _ _ _ _ h
set_option maxRecDepth 100000 in
set_option maxHeartbeats 4000000 in
theorem tX14_isSoundNow_243 {p : Program} {l : Launch} {e : Env} {s : State} {m : MethodId} {args : Array Value} {below : List Frame} {meth : Method} {c : Code} {G : mG} {b0 : Nat} (C : m_C p s m args c cX14_isSoundNow 7 RX14 wsX14_isSoundNow G b0) (hr : meth.sig.returnType = (some .boolean)) (hlocks : meth.locks = false) {κ : Int32 → mM → Prop} {R202 : Option Nat → Option Nat → Int32 → Int32 → mM → Prop} (hR202 : ∀ (l0 : Option Nat) (l1 : Option Nat) (l2 : Int32) (l3 : Int32) (M : mM), R202 l0 l1 l2 l3 M → m_W p l e ({ frames := 4, cells := 2, slots := 16, locals := 87 } : Room) s m args below meth c G b0 (MQ below (va_Qi κ (m_B G b0) (fun q => b0 ≤ q)) args s 2 16 (fun q => b0 ≤ q)) 7 M 2 16 202 [(0, va_rf l0), (1, va_rf l1), (2, .int l2), (3, .int l3)] []) {l0 : Option Nat} {l1 : Option Nat} {l2 : Int32} {l3 : Int32} {l4 : Option Nat} {s0 : Int32} {s1 : Int32} {M : mM} (h : wX14_isSoundNow_243 κ R202 l0 l1 l2 l3 l4 s0 s1 M) : m_W p l e ({ frames := 4, cells := 2, slots := 16, locals := 87 } : Room) s m args below meth c G b0 (MQ below (va_Qi κ (m_B G b0) (fun q => b0 ≤ q)) args s 2 16 (fun q => b0 ≤ q)) 7 M 2 16 243 [(0, va_rf l0), (1, va_rf l1), (2, .int l2), (3, .int l3), (4, va_rf l4)] [.int s0, .int s1] := by
  unfold wX14_isSoundNow_243 at h
  refine q_icmp_ne (pc := 243) C 277 dX14_isSoundNow_243 (by decide) (fun c1 => ?_) (fun c1 => ?_)
  · have h := h.2 c1
    refine q_iconst (pc := 277) C 0 dX14_isSoundNow_277 (by decide) ?_
    exact q_zret (pc := 278) C hr hlocks ⟨(by decide), h⟩ dX14_isSoundNow_278 (by omega) (by omega)
  · have h := h.1 c1
    refine q_aload (pc := 246) C 4 4 dX14_isSoundNow_246 rfl ?_
    refine q_gIN (pc := 248) C h (host := "LullabygateModel") (T := TX13) rfl (by decide) (by decide +kernel) 1476 (by decide +kernel) (fun _ h9 => h9) dX14_isSoundNow_248 (fun x2 h => ?_)
    refine q_iconst (pc := 251) C 0 dX14_isSoundNow_251 (by decide) ?_
    refine q_bipush (pc := 252) C 9 dX14_isSoundNow_252 (by decide) ?_
    refine q_ci (pc := 254) (q_rS C (st := []) (kX14_is l G b0 h) (va_cwS 3 C.2.2.2.2.1 gX14_isSoundNow_X14_is rfl rfl rfl (by decide +kernel) ⟨Nat.le_of_ble_eq_true rfl, Nat.le_of_ble_eq_true rfl⟩) rfl (by first | exact Nat.le_of_ble_eq_true rfl | (simp [q_cat, q_catI, q_catJ, q_catR, q_catN]; done)) rfl dX14_isSoundNow_254 ⟨(by first | omega | (dsimp only; omega)), (by first | omega | (dsimp only; omega))⟩) (fun x3 M4 h => ?_)
    refine q_if_eq (pc := 257) C 277 dX14_isSoundNow_257 (by decide) (fun c5 => ?_) (fun c5 => ?_)
    · have h := h.1 c5
      refine q_iconst (pc := 277) C 0 dX14_isSoundNow_277 (by decide) ?_
      exact q_zret (pc := 278) C hr hlocks ⟨(by decide), h⟩ dX14_isSoundNow_278 (by omega) (by omega)
    · have h := h.2 c5
      refine q_aload (pc := 260) C 4 4 dX14_isSoundNow_260 rfl ?_
      refine q_gIN (pc := 262) C h (host := "LullabygateModel") (T := TX13) rfl (by decide) (by decide +kernel) 1477 (by decide +kernel) (fun _ h9 => h9) dX14_isSoundNow_262 (fun x6 h => ?_)
      refine q_iconst (pc := 265) C 2 dX14_isSoundNow_265 (by decide) ?_
      refine q_icmp_ne (pc := 266) C 279 dX14_isSoundNow_266 (by decide) (fun c7 => ?_) (fun c7 => ?_)
      · have h := h.2 c7
        refine q_widen (k2 := 2) (n2 := 16) (by omega) (by omega) ?_
        refine q_lv [0, 1, 2, 3] rfl ?_
        exact tX14_isSoundNow_279 C hr hlocks hR202 h
      · have h := h.1 c7
        refine q_aload_n (pc := 269) C 0 0 dX14_isSoundNow_269 rfl rfl ?_
        refine q_iload_n (pc := 270) C 3 3 dX14_isSoundNow_270 rfl rfl ?_
        obtain ⟨b10, fs9, hb10, hm9, h⟩ := h
        refine q_ci (pc := 271) (q_rV C (st := []) (b := b10) (kX14_head l G b0 h) (cwV 1 C.2.2.2.2.1 gX14_isSoundNow_X14_head rfl rfl rfl (by decide +kernel) ⟨Nat.le_of_ble_eq_true rfl, Nat.le_of_ble_eq_true rfl⟩) hm9 rfl rfl rfl (by first | exact Nat.le_of_ble_eq_true rfl | (simp [q_cat, q_catI, q_catJ, q_catR, q_catN]; done)) (by rw [hb10]; first | done | rfl) dX14_isSoundNow_271 ⟨(by first | omega | (dsimp only; omega)), (by first | omega | (dsimp only; omega))⟩) (fun x8 M9 h => ?_)
        refine q_if_eq (pc := 274) C 279 dX14_isSoundNow_274 (by decide) (fun c11 => ?_) (fun c11 => ?_)
        · have h := h.1 c11
          refine q_widen (k2 := 2) (n2 := 16) (by omega) (by omega) ?_
          refine q_lv [0, 1, 2, 3] rfl ?_
          exact tX14_isSoundNow_279 C hr hlocks hR202 h
        · have h := h.2 c11
          refine q_iconst (pc := 277) C 0 dX14_isSoundNow_277 (by decide) ?_
          exact q_zret (pc := 278) C hr hlocks ⟨(by decide), h⟩ dX14_isSoundNow_278 (by omega) (by omega)
set_option maxRecDepth 100000 in
set_option maxHeartbeats 4000000 in
theorem tX14_isSoundNow_202 {p : Program} {l : Launch} {e : Env} {s : State} {m : MethodId} {args : Array Value} {below : List Frame} {meth : Method} {c : Code} {G : mG} {b0 : Nat} (C : m_C p s m args c cX14_isSoundNow 7 RX14 wsX14_isSoundNow G b0) (hr : meth.sig.returnType = (some .boolean)) (hlocks : meth.locks = false) {κ : Int32 → mM → Prop} : ∀ (f : Nat) (l0 : Option Nat) (l1 : Option Nat) (l2 : Int32) (l3 : Int32) (M : mM), wX14_isSoundNow_202 κ f l0 l1 l2 l3 M → m_W p l e ({ frames := 4, cells := 2, slots := 16, locals := 87 } : Room) s m args below meth c G b0 (MQ below (va_Qi κ (m_B G b0) (fun q => b0 ≤ q)) args s 2 16 (fun q => b0 ≤ q)) 7 M 2 16 202 [(0, va_rf l0), (1, va_rf l1), (2, .int l2), (3, .int l3)] [] := by
  intro f
  induction f with
  | zero =>
    intro l0 l1 l2 l3 M h
    exact absurd h (by simp [wX14_isSoundNow_202])
  | succ f ih =>
    intro l0 l1 l2 l3 M h
    rw [wX14_isSoundNow_202] at h
    refine q_iload_n (pc := 202) C 3 3 dX14_isSoundNow_202 rfl rfl ?_
    refine q_aload_n (pc := 203) C 0 0 dX14_isSoundNow_203 rfl rfl ?_
    refine q_gR (pc := 204) C h (T := TX14) rfl (by decide) (wk_u rfl wm_X14_isSoundNow uq_X14 (by decide +kernel)) (by decide +kernel) (fun _ h9 => h9) dX14_isSoundNow_204 (fun x1 h => ?_)
    obtain ⟨b4, fs9, hb4, hm9, h⟩ := h
    refine q_ci (pc := 207) (q_rV C (st := [.int l3]) (b := b4) (kJx4a65c_size_8abf5 l G b0 h) (cwV 0 C.2.2.2.2.1 gX14_isSoundNow_Jx4a65c_size_8abf5 rfl rfl rfl (by decide +kernel) ⟨Nat.le_of_ble_eq_true rfl, Nat.le_of_ble_eq_true rfl⟩) hm9 rfl rfl rfl (by first | exact Nat.le_of_ble_eq_true rfl | (simp [q_cat, q_catI, q_catJ, q_catR, q_catN]; done)) (by rw [hb4]; first | done | rfl) dX14_isSoundNow_207 ⟨(by first | omega | (dsimp only; omega)), (by first | omega | (dsimp only; omega))⟩) (fun x2 M3 h => ?_)
    refine q_icmp_ge (pc := 210) C 285 dX14_isSoundNow_210 (by decide) (fun c5 => ?_) (fun c5 => ?_)
    · have h := h.1 c5
      refine q_iload_n (pc := 285) C 2 2 dX14_isSoundNow_285 rfl rfl ?_
      refine q_bipush (pc := 286) C 30 dX14_isSoundNow_286 (by decide) ?_
      refine q_icmp_ne (pc := 288) C 307 dX14_isSoundNow_288 (by decide) (fun c6 => ?_) (fun c6 => ?_)
      · have h := h.2 c6
        refine q_iconst (pc := 307) C 0 dX14_isSoundNow_307 (by decide) ?_
        exact q_zret (pc := 308) C hr hlocks ⟨(by decide), h⟩ dX14_isSoundNow_308 (by omega) (by omega)
      · have h := h.1 c6
        refine q_aload_n (pc := 291) C 0 0 dX14_isSoundNow_291 rfl rfl ?_
        refine q_gR (pc := 292) C h (T := TX14) rfl (by decide) (wk_u rfl wm_X14_isSoundNow uq_X14 (by decide +kernel)) (by decide +kernel) (fun _ h9 => h9) dX14_isSoundNow_292 (fun x7 h => ?_)
        obtain ⟨b10, fs9, hb10, hm9, h⟩ := h
        refine q_ci (pc := 295) (q_rV C (st := []) (b := b10) (kJx4a65c_size_8abf5 l G b0 h) (cwV 0 C.2.2.2.2.1 gX14_isSoundNow_Jx4a65c_size_8abf5 rfl rfl rfl (by decide +kernel) ⟨Nat.le_of_ble_eq_true rfl, Nat.le_of_ble_eq_true rfl⟩) hm9 rfl rfl rfl (by first | exact Nat.le_of_ble_eq_true rfl | (simp [q_cat, q_catI, q_catJ, q_catR, q_catN]; done)) (by rw [hb10]; first | done | rfl) dX14_isSoundNow_295 ⟨(by first | omega | (dsimp only; omega)), (by first | omega | (dsimp only; omega))⟩) (fun x8 M9 h => ?_)
        refine q_bipush (pc := 298) C 120 dX14_isSoundNow_298 (by decide) ?_
        refine q_icmp_gt (pc := 300) C 307 dX14_isSoundNow_300 (by decide) (fun c11 => ?_) (fun c11 => ?_)
        · have h := h.1 c11
          refine q_iconst (pc := 307) C 0 dX14_isSoundNow_307 (by decide) ?_
          exact q_zret (pc := 308) C hr hlocks ⟨(by decide), h⟩ dX14_isSoundNow_308 (by omega) (by omega)
        · have h := h.2 c11
          refine q_iconst (pc := 303) C 1 dX14_isSoundNow_303 (by decide) ?_
          refine q_goto (pc := 304) C 308 dX14_isSoundNow_304 (by decide) ?_
          exact q_zret (pc := 308) C hr hlocks ⟨(by decide), h⟩ dX14_isSoundNow_308 (by omega) (by omega)
    · have h := h.2 c5
      refine q_aload_n (pc := 213) C 0 0 dX14_isSoundNow_213 rfl rfl ?_
      refine q_gR (pc := 214) C h (T := TX14) rfl (by decide) (wk_u rfl wm_X14_isSoundNow uq_X14 (by decide +kernel)) (by decide +kernel) (fun _ h9 => h9) dX14_isSoundNow_214 (fun x12 h => ?_)
      refine q_iload_n (pc := 217) C 3 3 dX14_isSoundNow_217 rfl rfl ?_
      obtain ⟨b15, fs9, hb15, hm9, h⟩ := h
      refine q_cq (pc := 218) (q_rV C (st := []) (b := b15) (kJx4a65c_get_915e3 l G b0 h) (cwV 1 C.2.2.2.2.1 gX14_isSoundNow_Jx4a65c_get_915e3 rfl rfl rfl (by decide +kernel) ⟨Nat.le_of_ble_eq_true rfl, Nat.le_of_ble_eq_true rfl⟩) hm9 rfl rfl rfl (by first | exact Nat.le_of_ble_eq_true rfl | (simp [q_cat, q_catI, q_catJ, q_catR, q_catN]; done)) (by rw [hb15]; first | done | rfl) dX14_isSoundNow_218 ⟨(by first | omega | (dsimp only; omega)), (by first | omega | (dsimp only; omega))⟩) (fun x13 M14 h => ?_)
      refine q_cast (pc := 221) C h rfl rfl (by decide +kernel) dX14_isSoundNow_221 (fun h => ?_)
      refine q_astore (pc := 224) C 4 [(4, va_rf x13), (0, va_rf l0), (1, va_rf l1), (2, .int l2), (3, .int l3)] dX14_isSoundNow_224 (by decide) (by first | rfl | simp [q_cat, q_catI, q_catJ, q_catR, q_catN]) ?_
      refine q_aload_n (pc := 226) C 1 2 dX14_isSoundNow_226 rfl rfl ?_
      refine q_iload_n (pc := 227) C 3 4 dX14_isSoundNow_227 rfl rfl ?_
      refine q_iald (pc := 228) C h dX14_isSoundNow_228 (fun x16 h => ?_)
      refine q_aload (pc := 229) C 4 0 dX14_isSoundNow_229 rfl ?_
      refine q_gIN (pc := 231) C h (host := "LullabygateModel") (T := TX13) rfl (by decide) (by decide +kernel) 1477 (by decide +kernel) (fun _ h9 => h9) dX14_isSoundNow_231 (fun x17 h => ?_)
      refine q_iconst (pc := 234) C 1 dX14_isSoundNow_234 (by decide) ?_
      refine q_icmp_ne (pc := 235) C 242 dX14_isSoundNow_235 (by decide) (fun c18 => ?_) (fun c18 => ?_)
      · have h := h.2 c18
        refine q_iconst (pc := 242) C 0 dX14_isSoundNow_242 (by decide) ?_
        refine q_widen (k2 := 2) (n2 := 16) (by omega) (by omega) ?_
        refine q_lv [1, 2, 3, 4, 0] rfl ?_
        exact tX14_isSoundNow_243 C hr hlocks ih h
      · have h := h.1 c18
        refine q_iconst (pc := 238) C 1 dX14_isSoundNow_238 (by decide) ?_
        refine q_goto (pc := 239) C 243 dX14_isSoundNow_239 (by decide) ?_
        refine q_widen (k2 := 2) (n2 := 16) (by omega) (by omega) ?_
        refine q_lv [1, 2, 3, 4, 0] rfl ?_
        exact tX14_isSoundNow_243 C hr hlocks ih h
set_option maxRecDepth 100000 in
set_option maxHeartbeats 4000000 in
theorem tX14_isSoundNow_173 {p : Program} {l : Launch} {e : Env} {s : State} {m : MethodId} {args : Array Value} {below : List Frame} {meth : Method} {c : Code} {G : mG} {b0 : Nat} (C : m_C p s m args c cX14_isSoundNow 7 RX14 wsX14_isSoundNow G b0) (hr : meth.sig.returnType = (some .boolean)) (hlocks : meth.locks = false) {κ : Int32 → mM → Prop} : ∀ (f : Nat) (l0 : Option Nat) (l1 : Option Nat) (l2 : Int32) (l3 : Option Nat) (l4 : Int32) (l5 : Int32) (M : mM), wX14_isSoundNow_173 κ f l0 l1 l2 l3 l4 l5 M → m_W p l e ({ frames := 4, cells := 2, slots := 16, locals := 87 } : Room) s m args below meth c G b0 (MQ below (va_Qi κ (m_B G b0) (fun q => b0 ≤ q)) args s 2 16 (fun q => b0 ≤ q)) 7 M 2 16 173 [(0, va_rf l0), (1, va_rf l1), (2, .int l2), (3, va_rf l3), (4, .int l4), (5, .int l5)] [] := by
  intro f
  induction f with
  | zero =>
    intro l0 l1 l2 l3 l4 l5 M h
    exact absurd h (by simp [wX14_isSoundNow_173])
  | succ f ih =>
    intro l0 l1 l2 l3 l4 l5 M h
    rw [wX14_isSoundNow_173] at h
    refine q_iload (pc := 173) C 5 5 dX14_isSoundNow_173 rfl ?_
    refine q_iload (pc := 175) C 4 4 dX14_isSoundNow_175 rfl ?_
    refine q_icmp_ge (pc := 177) C 200 dX14_isSoundNow_177 (by decide) (fun c1 => ?_) (fun c1 => ?_)
    · have h := h.1 c1
      refine q_iconst (pc := 200) C 0 dX14_isSoundNow_200 (by decide) ?_
      refine q_istore_n (pc := 201) C 3 [(3, .int 0), (0, va_rf l0), (1, va_rf l1), (2, .int l2), (4, .int l4), (5, .int l5)] dX14_isSoundNow_201 rfl (by decide) (by first | rfl | simp [q_cat, q_catI, q_catJ, q_catR, q_catN]) ?_
      refine q_widen (k2 := 2) (n2 := 16) (by omega) (by omega) ?_
      refine q_lv [1, 2, 3, 0] rfl ?_
      obtain ⟨f9, h⟩ := h
      exact tX14_isSoundNow_202 C hr hlocks f9 _ _ _ _ _ h
    · have h := h.2 c1
      refine q_aload_n (pc := 180) C 3 3 dX14_isSoundNow_180 rfl rfl ?_
      refine q_iload (pc := 181) C 5 5 dX14_isSoundNow_181 rfl ?_
      refine q_aald (pc := 183) C h rfl dX14_isSoundNow_183 (fun x2 h => ?_)
      refine q_astore (pc := 184) C 6 [(6, va_rf x2), (0, va_rf l0), (1, va_rf l1), (2, .int l2), (3, va_rf l3), (4, .int l4), (5, .int l5)] dX14_isSoundNow_184 (by decide) (by first | rfl | simp [q_cat, q_catI, q_catJ, q_catR, q_catN]) ?_
      refine q_iload_n (pc := 186) C 2 3 dX14_isSoundNow_186 rfl rfl ?_
      refine q_aload (pc := 187) C 6 0 dX14_isSoundNow_187 rfl ?_
      refine q_gIN (pc := 189) C h (host := "LullabygateModel") (T := TX11) rfl (by decide) (by decide +kernel) 1323 (by decide +kernel) (fun _ h9 => h9) dX14_isSoundNow_189 (fun x3 h => ?_)
      refine q_iadd (pc := 192) C dX14_isSoundNow_192 ?_
      refine q_istore_n (pc := 193) C 2 [(2, .int (l2 + x3)), (6, va_rf x2), (0, va_rf l0), (1, va_rf l1), (3, va_rf l3), (4, .int l4), (5, .int l5)] dX14_isSoundNow_193 rfl (by decide) (by first | rfl | simp [q_cat, q_catI, q_catJ, q_catR, q_catN]) ?_
      refine q_iinc (pc := 194) C 5 6 (l5 + 1) [(5, .int (l5 + 1)), (2, .int (l2 + x3)), (6, va_rf x2), (0, va_rf l0), (1, va_rf l1), (3, va_rf l3), (4, .int l4)] dX14_isSoundNow_194 rfl (by rfl) (by decide) (by first | rfl | simp [q_cat, q_catI, q_catJ, q_catR, q_catN]) ?_
      refine q_goto (pc := 197) C 173 dX14_isSoundNow_197 (by decide) ?_
      refine q_widen (k2 := 2) (n2 := 16) (by omega) (by omega) ?_
      refine q_lv [3, 4, 1, 5, 6, 0] rfl ?_
      exact ih _ _ _ _ _ _ _ h
set_option maxRecDepth 100000 in
set_option maxHeartbeats 4000000 in
theorem tX14_isSoundNow_147 {p : Program} {l : Launch} {e : Env} {s : State} {m : MethodId} {args : Array Value} {below : List Frame} {meth : Method} {c : Code} {G : mG} {b0 : Nat} (C : m_C p s m args c cX14_isSoundNow 7 RX14 wsX14_isSoundNow G b0) (hr : meth.sig.returnType = (some .boolean)) (hlocks : meth.locks = false) {κ : Int32 → mM → Prop} {R13 : Option Nat → Option Nat → Option Nat → mM → Prop} (hR13 : ∀ (l0 : Option Nat) (l1 : Option Nat) (l2 : Option Nat) (M : mM), R13 l0 l1 l2 M → m_W p l e ({ frames := 4, cells := 2, slots := 16, locals := 87 } : Room) s m args below meth c G b0 (MQ below (va_Qi κ (m_B G b0) (fun q => b0 ≤ q)) args s 2 16 (fun q => b0 ≤ q)) 7 M 2 16 13 [(0, va_rf l0), (1, va_rf l1), (2, va_rf l2)] []) {R38 : Option Nat → Option Nat → Option Nat → Option Nat → Int32 → Int32 → mM → Prop} (hR38 : ∀ (l0 : Option Nat) (l1 : Option Nat) (l2 : Option Nat) (l3 : Option Nat) (l4 : Int32) (l5 : Int32) (M : mM), R38 l0 l1 l2 l3 l4 l5 M → m_W p l e ({ frames := 4, cells := 2, slots := 16, locals := 87 } : Room) s m args below meth c G b0 (MQ below (va_Qi κ (m_B G b0) (fun q => b0 ≤ q)) args s 2 16 (fun q => b0 ≤ q)) 7 M 2 16 38 [(0, va_rf l0), (1, va_rf l1), (2, va_rf l2), (3, va_rf l3), (4, .int l4), (5, .int l5)] []) {l0 : Option Nat} {l1 : Option Nat} {l2 : Option Nat} {l3 : Option Nat} {l5 : Int32} {s0 : Int32} {s1 : Int32} {M : mM} (h : wX14_isSoundNow_147 κ R13 R38 l0 l1 l2 l3 l5 s0 s1 M) : m_W p l e ({ frames := 4, cells := 2, slots := 16, locals := 87 } : Room) s m args below meth c G b0 (MQ below (va_Qi κ (m_B G b0) (fun q => b0 ≤ q)) args s 2 16 (fun q => b0 ≤ q)) 7 M 2 16 147 [(0, va_rf l0), (1, va_rf l1), (2, va_rf l2), (3, va_rf l3), (5, .int l5)] [.int s0, .int s1] := by
  unfold wX14_isSoundNow_147 at h
  refine q_ior (pc := 147) C dX14_isSoundNow_147 ?_
  refine q_istore (pc := 148) C 4 [(4, .int (s1 ||| s0)), (0, va_rf l0), (1, va_rf l1), (2, va_rf l2), (3, va_rf l3), (5, .int l5)] dX14_isSoundNow_148 (by decide) (by first | rfl | simp [q_cat, q_catI, q_catJ, q_catR, q_catN]) ?_
  refine q_iinc (pc := 150) C 5 5 (l5 + 1) [(5, .int (l5 + 1)), (4, .int (s1 ||| s0)), (0, va_rf l0), (1, va_rf l1), (2, va_rf l2), (3, va_rf l3)] dX14_isSoundNow_150 rfl (by rfl) (by decide) (by first | rfl | simp [q_cat, q_catI, q_catJ, q_catR, q_catN]) ?_
  refine q_goto (pc := 153) C 38 dX14_isSoundNow_153 (by decide) ?_
  refine q_widen (k2 := 2) (n2 := 16) (by omega) (by omega) ?_
  refine q_lv [2, 3, 4, 5, 1, 0] rfl ?_
  exact hR38 _ _ _ _ _ _ _ h
set_option maxRecDepth 100000 in
set_option maxHeartbeats 4000000 in
theorem tX14_isSoundNow_122 {p : Program} {l : Launch} {e : Env} {s : State} {m : MethodId} {args : Array Value} {below : List Frame} {meth : Method} {c : Code} {G : mG} {b0 : Nat} (C : m_C p s m args c cX14_isSoundNow 7 RX14 wsX14_isSoundNow G b0) (hr : meth.sig.returnType = (some .boolean)) (hlocks : meth.locks = false) {κ : Int32 → mM → Prop} {R13 : Option Nat → Option Nat → Option Nat → mM → Prop} (hR13 : ∀ (l0 : Option Nat) (l1 : Option Nat) (l2 : Option Nat) (M : mM), R13 l0 l1 l2 M → m_W p l e ({ frames := 4, cells := 2, slots := 16, locals := 87 } : Room) s m args below meth c G b0 (MQ below (va_Qi κ (m_B G b0) (fun q => b0 ≤ q)) args s 2 16 (fun q => b0 ≤ q)) 7 M 2 16 13 [(0, va_rf l0), (1, va_rf l1), (2, va_rf l2)] []) {R38 : Option Nat → Option Nat → Option Nat → Option Nat → Int32 → Int32 → mM → Prop} (hR38 : ∀ (l0 : Option Nat) (l1 : Option Nat) (l2 : Option Nat) (l3 : Option Nat) (l4 : Int32) (l5 : Int32) (M : mM), R38 l0 l1 l2 l3 l4 l5 M → m_W p l e ({ frames := 4, cells := 2, slots := 16, locals := 87 } : Room) s m args below meth c G b0 (MQ below (va_Qi κ (m_B G b0) (fun q => b0 ≤ q)) args s 2 16 (fun q => b0 ≤ q)) 7 M 2 16 38 [(0, va_rf l0), (1, va_rf l1), (2, va_rf l2), (3, va_rf l3), (4, .int l4), (5, .int l5)] []) {l0 : Option Nat} {l1 : Option Nat} {l2 : Option Nat} {l3 : Option Nat} {l4 : Int32} {l5 : Int32} {l6 : Int32} {M : mM} (h : wX14_isSoundNow_122 κ R13 R38 l0 l1 l2 l3 l4 l5 l6 M) : m_W p l e ({ frames := 4, cells := 2, slots := 16, locals := 87 } : Room) s m args below meth c G b0 (MQ below (va_Qi κ (m_B G b0) (fun q => b0 ≤ q)) args s 2 16 (fun q => b0 ≤ q)) 7 M 2 16 122 [(0, va_rf l0), (1, va_rf l1), (2, va_rf l2), (3, va_rf l3), (4, .int l4), (5, .int l5), (6, .int l6)] [] := by
  unfold wX14_isSoundNow_122 at h
  refine q_iload (pc := 122) C 4 4 dX14_isSoundNow_122 rfl ?_
  refine q_aload_n (pc := 124) C 0 0 dX14_isSoundNow_124 rfl rfl ?_
  refine q_gR (pc := 125) C h (T := TX14) rfl (by decide) (wk_u rfl wm_X14_isSoundNow uq_X14 (by decide +kernel)) (by decide +kernel) (fun _ h9 => h9) dX14_isSoundNow_125 (fun x1 h => ?_)
  refine q_iload (pc := 128) C 6 6 dX14_isSoundNow_128 rfl ?_
  obtain ⟨b4, fs9, hb4, hm9, h⟩ := h
  refine q_cq (pc := 130) (q_rV C (st := [.int l4]) (b := b4) (kJx4a65c_get_915e3 l G b0 h) (cwV 1 C.2.2.2.2.1 gX14_isSoundNow_Jx4a65c_get_915e3 rfl rfl rfl (by decide +kernel) ⟨Nat.le_of_ble_eq_true rfl, Nat.le_of_ble_eq_true rfl⟩) hm9 rfl rfl rfl (by first | exact Nat.le_of_ble_eq_true rfl | (simp [q_cat, q_catI, q_catJ, q_catR, q_catN]; done)) (by rw [hb4]; first | done | rfl) dX14_isSoundNow_130 ⟨(by first | omega | (dsimp only; omega)), (by first | omega | (dsimp only; omega))⟩) (fun x2 M3 h => ?_)
  refine q_cast (pc := 133) C h rfl rfl (by decide +kernel) dX14_isSoundNow_133 (fun h => ?_)
  refine q_gIN (pc := 136) C h (host := "LullabygateModel") (T := TX13) rfl (by decide) (by decide +kernel) 1475 (by decide +kernel) (fun _ h9 => h9) dX14_isSoundNow_136 (fun x5 h => ?_)
  refine q_if_ne (pc := 139) C 146 dX14_isSoundNow_139 (by decide) (fun c6 => ?_) (fun c6 => ?_)
  · have h := h.2 c6
    refine q_iconst (pc := 146) C 0 dX14_isSoundNow_146 (by decide) ?_
    refine q_widen (k2 := 2) (n2 := 16) (by omega) (by omega) ?_
    refine q_lv [0, 1, 2, 3, 5] rfl ?_
    exact tX14_isSoundNow_147 C hr hlocks hR13 hR38 h
  · have h := h.1 c6
    refine q_iconst (pc := 142) C 1 dX14_isSoundNow_142 (by decide) ?_
    refine q_goto (pc := 143) C 147 dX14_isSoundNow_143 (by decide) ?_
    refine q_widen (k2 := 2) (n2 := 16) (by omega) (by omega) ?_
    refine q_lv [0, 1, 2, 3, 5] rfl ?_
    exact tX14_isSoundNow_147 C hr hlocks hR13 hR38 h
set_option maxRecDepth 100000 in
set_option maxHeartbeats 4000000 in
theorem tX14_isSoundNow_38 {p : Program} {l : Launch} {e : Env} {s : State} {m : MethodId} {args : Array Value} {below : List Frame} {meth : Method} {c : Code} {G : mG} {b0 : Nat} (C : m_C p s m args c cX14_isSoundNow 7 RX14 wsX14_isSoundNow G b0) (hr : meth.sig.returnType = (some .boolean)) (hlocks : meth.locks = false) {κ : Int32 → mM → Prop} {R13 : Option Nat → Option Nat → Option Nat → mM → Prop} (hR13 : ∀ (l0 : Option Nat) (l1 : Option Nat) (l2 : Option Nat) (M : mM), R13 l0 l1 l2 M → m_W p l e ({ frames := 4, cells := 2, slots := 16, locals := 87 } : Room) s m args below meth c G b0 (MQ below (va_Qi κ (m_B G b0) (fun q => b0 ≤ q)) args s 2 16 (fun q => b0 ≤ q)) 7 M 2 16 13 [(0, va_rf l0), (1, va_rf l1), (2, va_rf l2)] []) : ∀ (f : Nat) (l0 : Option Nat) (l1 : Option Nat) (l2 : Option Nat) (l3 : Option Nat) (l4 : Int32) (l5 : Int32) (M : mM), wX14_isSoundNow_38 κ R13 f l0 l1 l2 l3 l4 l5 M → m_W p l e ({ frames := 4, cells := 2, slots := 16, locals := 87 } : Room) s m args below meth c G b0 (MQ below (va_Qi κ (m_B G b0) (fun q => b0 ≤ q)) args s 2 16 (fun q => b0 ≤ q)) 7 M 2 16 38 [(0, va_rf l0), (1, va_rf l1), (2, va_rf l2), (3, va_rf l3), (4, .int l4), (5, .int l5)] [] := by
  intro f
  induction f with
  | zero =>
    intro l0 l1 l2 l3 l4 l5 M h
    exact absurd h (by simp [wX14_isSoundNow_38])
  | succ f ih =>
    intro l0 l1 l2 l3 l4 l5 M h
    rw [wX14_isSoundNow_38] at h
    refine q_iload (pc := 38) C 5 5 dX14_isSoundNow_38 rfl ?_
    refine q_aload_n (pc := 40) C 3 3 dX14_isSoundNow_40 rfl rfl ?_
    refine q_gRN (pc := 41) C h (host := "LullabygateModel") (T := TX10) rfl (by decide) (by decide +kernel) 1430 (by decide +kernel) (fun _ h9 => h9) dX14_isSoundNow_41 (fun x1 h => ?_)
    obtain ⟨b4, fs9, hb4, hm9, h⟩ := h
    refine q_ci (pc := 44) (q_rV C (st := [.int l5]) (b := b4) (kJx4a65c_size_8abf5 l G b0 h) (cwV 0 C.2.2.2.2.1 gX14_isSoundNow_Jx4a65c_size_8abf5 rfl rfl rfl (by decide +kernel) ⟨Nat.le_of_ble_eq_true rfl, Nat.le_of_ble_eq_true rfl⟩) hm9 rfl rfl rfl (by first | exact Nat.le_of_ble_eq_true rfl | (simp [q_cat, q_catI, q_catJ, q_catR, q_catN]; done)) (by rw [hb4]; first | done | rfl) dX14_isSoundNow_44 ⟨(by first | omega | (dsimp only; omega)), (by first | omega | (dsimp only; omega))⟩) (fun x2 M3 h => ?_)
    refine q_icmp_ge (pc := 47) C 156 dX14_isSoundNow_47 (by decide) (fun c5 => ?_) (fun c5 => ?_)
    · have h := h.1 c5
      refine q_goto (pc := 156) C 13 dX14_isSoundNow_156 (by decide) ?_
      refine q_widen (k2 := 2) (n2 := 16) (by omega) (by omega) ?_
      refine q_lv [0, 1, 2] rfl ?_
      exact hR13 _ _ _ _ h
    · have h := h.2 c5
      refine q_aload_n (pc := 50) C 3 3 dX14_isSoundNow_50 rfl rfl ?_
      refine q_gRN (pc := 51) C h (host := "LullabygateModel") (T := TX10) rfl (by decide) (by decide +kernel) 1430 (by decide +kernel) (fun _ h9 => h9) dX14_isSoundNow_51 (fun x6 h => ?_)
      refine q_iload (pc := 54) C 5 5 dX14_isSoundNow_54 rfl ?_
      obtain ⟨b9, fs9, hb9, hm9, h⟩ := h
      refine q_cq (pc := 56) (q_rV C (st := []) (b := b9) (kJx4a65c_get_915e3 l G b0 h) (cwV 1 C.2.2.2.2.1 gX14_isSoundNow_Jx4a65c_get_915e3 rfl rfl rfl (by decide +kernel) ⟨Nat.le_of_ble_eq_true rfl, Nat.le_of_ble_eq_true rfl⟩) hm9 rfl rfl rfl (by first | exact Nat.le_of_ble_eq_true rfl | (simp [q_cat, q_catI, q_catJ, q_catR, q_catN]; done)) (by rw [hb9]; first | done | rfl) dX14_isSoundNow_56 ⟨(by first | omega | (dsimp only; omega)), (by first | omega | (dsimp only; omega))⟩) (fun x7 M8 h => ?_)
      refine q_cast (pc := 59) C h rfl rfl (by decide +kernel) dX14_isSoundNow_59 (fun h => ?_)
      obtain ⟨b12, fs9, hb12, hm9, h⟩ := h
      refine q_ci (pc := 62) (q_rV C (st := []) (b := b12) (kJ6_intValue_8abf5 l G b0 h) (cwV 0 C.2.2.2.2.1 gX14_isSoundNow_J6_intValue_8abf5 rfl rfl rfl (by decide +kernel) ⟨Nat.le_of_ble_eq_true rfl, Nat.le_of_ble_eq_true rfl⟩) hm9 rfl rfl rfl (by first | exact Nat.le_of_ble_eq_true rfl | (simp [q_cat, q_catI, q_catJ, q_catR, q_catN]; done)) (by rw [hb12]; first | done | rfl) dX14_isSoundNow_62 ⟨(by first | omega | (dsimp only; omega)), (by first | omega | (dsimp only; omega))⟩) (fun x10 M11 h => ?_)
      refine q_istore (pc := 65) C 6 [(6, .int x10), (0, va_rf l0), (1, va_rf l1), (2, va_rf l2), (3, va_rf l3), (4, .int l4), (5, .int l5)] dX14_isSoundNow_65 (by decide) (by first | rfl | simp [q_cat, q_catI, q_catJ, q_catR, q_catN]) ?_
      refine q_aload_n (pc := 67) C 1 2 dX14_isSoundNow_67 rfl rfl ?_
      refine q_iload (pc := 68) C 6 0 dX14_isSoundNow_68 rfl ?_
      refine q_dup2_11 (pc := 70) C rfl (q_cat _) dX14_isSoundNow_70 ?_
      refine q_iald (pc := 71) C h dX14_isSoundNow_71 (fun x13 h => ?_)
      refine q_iconst (pc := 72) C 1 dX14_isSoundNow_72 (by decide) ?_
      refine q_iadd (pc := 73) C dX14_isSoundNow_73 ?_
      refine q_iast (pc := 74) C h dX14_isSoundNow_74 (fun M14 h => ?_)
      refine q_aload_n (pc := 75) C 3 4 dX14_isSoundNow_75 rfl rfl ?_
      refine q_aload_n (pc := 76) C 0 1 dX14_isSoundNow_76 rfl rfl ?_
      refine q_gR (pc := 77) C h (T := TX14) rfl (by decide) (wk_u rfl wm_X14_isSoundNow uq_X14 (by decide +kernel)) (by decide +kernel) (fun _ h9 => h9) dX14_isSoundNow_77 (fun x15 h => ?_)
      refine q_iload (pc := 80) C 6 0 dX14_isSoundNow_80 rfl ?_
      obtain ⟨b18, fs9, hb18, hm9, h⟩ := h
      refine q_cq (pc := 82) (q_rV C (st := [va_rf l3]) (b := b18) (kJx4a65c_get_915e3 l G b0 h) (cwV 1 C.2.2.2.2.1 gX14_isSoundNow_Jx4a65c_get_915e3 rfl rfl rfl (by decide +kernel) ⟨Nat.le_of_ble_eq_true rfl, Nat.le_of_ble_eq_true rfl⟩) hm9 rfl rfl rfl (by first | exact Nat.le_of_ble_eq_true rfl | (simp [q_cat, q_catI, q_catJ, q_catR, q_catN]; done)) (by rw [hb18]; first | done | rfl) dX14_isSoundNow_82 ⟨(by first | omega | (dsimp only; omega)), (by first | omega | (dsimp only; omega))⟩) (fun x16 M17 h => ?_)
      refine q_cast (pc := 85) C h rfl rfl (by decide +kernel) dX14_isSoundNow_85 (fun h => ?_)
      refine q_gIN (pc := 88) C h (host := "LullabygateModel") (T := TX13) rfl (by decide) (by decide +kernel) 1474 (by decide +kernel) (fun _ h9 => h9) dX14_isSoundNow_88 (fun x19 h => ?_)
      obtain ⟨b22, fs9, hb22, hm9, h⟩ := h
      refine q_ci (pc := 91) (q_rV C (st := []) (b := b22) (kX10_has l G b0 h) (cwV 1 C.2.2.2.2.1 gX14_isSoundNow_X10_has rfl rfl rfl (by decide +kernel) ⟨Nat.le_of_ble_eq_true rfl, Nat.le_of_ble_eq_true rfl⟩) hm9 rfl rfl rfl (by first | exact Nat.le_of_ble_eq_true rfl | (simp [q_cat, q_catI, q_catJ, q_catR, q_catN]; done)) (by rw [hb22]; first | done | rfl) dX14_isSoundNow_91 ⟨(by first | omega | (dsimp only; omega)), (by first | omega | (dsimp only; omega))⟩) (fun x20 M21 h => ?_)
      refine q_if_eq (pc := 94) C 120 dX14_isSoundNow_94 (by decide) (fun c23 => ?_) (fun c23 => ?_)
      · have h := h.1 c23
        refine q_iconst (pc := 120) C 0 dX14_isSoundNow_120 (by decide) ?_
        exact q_zret (pc := 121) C hr hlocks ⟨(by decide), h⟩ dX14_isSoundNow_121 (by omega) (by omega)
      · have h := h.2 c23
        refine q_iload (pc := 97) C 4 5 dX14_isSoundNow_97 rfl ?_
        refine q_if_eq (pc := 99) C 122 dX14_isSoundNow_99 (by decide) (fun c24 => ?_) (fun c24 => ?_)
        · have h := h.1 c24
          refine q_widen (k2 := 2) (n2 := 16) (by omega) (by omega) ?_
          refine q_lv [1, 2, 3, 4, 5, 6, 0] rfl ?_
          exact tX14_isSoundNow_122 C hr hlocks hR13 ih h
        · have h := h.2 c24
          refine q_aload_n (pc := 102) C 0 1 dX14_isSoundNow_102 rfl rfl ?_
          refine q_gR (pc := 103) C h (T := TX14) rfl (by decide) (wk_u rfl wm_X14_isSoundNow uq_X14 (by decide +kernel)) (by decide +kernel) (fun _ h9 => h9) dX14_isSoundNow_103 (fun x25 h => ?_)
          refine q_iload (pc := 106) C 6 0 dX14_isSoundNow_106 rfl ?_
          obtain ⟨b28, fs9, hb28, hm9, h⟩ := h
          refine q_cq (pc := 108) (q_rV C (st := []) (b := b28) (kJx4a65c_get_915e3 l G b0 h) (cwV 1 C.2.2.2.2.1 gX14_isSoundNow_Jx4a65c_get_915e3 rfl rfl rfl (by decide +kernel) ⟨Nat.le_of_ble_eq_true rfl, Nat.le_of_ble_eq_true rfl⟩) hm9 rfl rfl rfl (by first | exact Nat.le_of_ble_eq_true rfl | (simp [q_cat, q_catI, q_catJ, q_catR, q_catN]; done)) (by rw [hb28]; first | done | rfl) dX14_isSoundNow_108 ⟨(by first | omega | (dsimp only; omega)), (by first | omega | (dsimp only; omega))⟩) (fun x26 M27 h => ?_)
          refine q_cast (pc := 111) C h rfl rfl (by decide +kernel) dX14_isSoundNow_111 (fun h => ?_)
          refine q_gIN (pc := 114) C h (host := "LullabygateModel") (T := TX13) rfl (by decide) (by decide +kernel) 1475 (by decide +kernel) (fun _ h9 => h9) dX14_isSoundNow_114 (fun x29 h => ?_)
          refine q_if_eq (pc := 117) C 122 dX14_isSoundNow_117 (by decide) (fun c30 => ?_) (fun c30 => ?_)
          · have h := h.1 c30
            refine q_widen (k2 := 2) (n2 := 16) (by omega) (by omega) ?_
            refine q_lv [1, 2, 3, 4, 5, 6, 0] rfl ?_
            exact tX14_isSoundNow_122 C hr hlocks hR13 ih h
          · have h := h.2 c30
            refine q_iconst (pc := 120) C 0 dX14_isSoundNow_120 (by decide) ?_
            exact q_zret (pc := 121) C hr hlocks ⟨(by decide), h⟩ dX14_isSoundNow_121 (by omega) (by omega)
set_option maxRecDepth 100000 in
set_option maxHeartbeats 4000000 in
theorem tX14_isSoundNow_13 {p : Program} {l : Launch} {e : Env} {s : State} {m : MethodId} {args : Array Value} {below : List Frame} {meth : Method} {c : Code} {G : mG} {b0 : Nat} (C : m_C p s m args c cX14_isSoundNow 7 RX14 wsX14_isSoundNow G b0) (hr : meth.sig.returnType = (some .boolean)) (hlocks : meth.locks = false) {κ : Int32 → mM → Prop} : ∀ (f : Nat) (l0 : Option Nat) (l1 : Option Nat) (l2 : Option Nat) (M : mM), wX14_isSoundNow_13 κ f l0 l1 l2 M → m_W p l e ({ frames := 4, cells := 2, slots := 16, locals := 87 } : Room) s m args below meth c G b0 (MQ below (va_Qi κ (m_B G b0) (fun q => b0 ≤ q)) args s 2 16 (fun q => b0 ≤ q)) 7 M 2 16 13 [(0, va_rf l0), (1, va_rf l1), (2, va_rf l2)] [] := by
  intro f
  induction f with
  | zero =>
    intro l0 l1 l2 M h
    exact absurd h (by simp [wX14_isSoundNow_13])
  | succ f ih =>
    intro l0 l1 l2 M h
    rw [wX14_isSoundNow_13] at h
    refine q_aload_n (pc := 13) C 2 2 dX14_isSoundNow_13 rfl rfl ?_
    obtain ⟨b1, fs9, hb1, hm9, h⟩ := h
    refine q_cFi (pc := 14) C (st := []) (b := b1) (kJx35411_hasNext_aae02 l G b0 h) (va_cwF 0 C.2.2.2.2.1 gX14_isSoundNow_Jx35411_hasNext_aae02_f268Jx35411 rfl rfl rfl C.2.2.2.2.2.2.1.2.2.2.2.2.2.2.1 (by decide +kernel) ⟨Nat.le_of_ble_eq_true rfl, Nat.le_of_ble_eq_true rfl⟩) hm9 rfl rfl rfl (by first | exact Nat.le_of_ble_eq_true rfl | (simp [q_cat, q_catI, q_catJ, q_catR, q_catN]; done)) (by rw [hb1]; first | done | rfl) dX14_isSoundNow_14 ⟨(by first | omega | (dsimp only; omega)), (by first | omega | (dsimp only; omega))⟩ (fun x2 M3 h => ?_)
    refine q_if_eq (pc := 19) C 159 dX14_isSoundNow_19 (by decide) (fun c4 => ?_) (fun c4 => ?_)
    · have h := h.1 c4
      refine q_iconst (pc := 159) C 0 dX14_isSoundNow_159 (by decide) ?_
      refine q_istore_n (pc := 160) C 2 [(2, .int 0), (0, va_rf l0), (1, va_rf l1)] dX14_isSoundNow_160 rfl (by decide) (by first | rfl | simp [q_cat, q_catI, q_catJ, q_catR, q_catN]) ?_
      refine q_aload_n (pc := 161) C 0 1 dX14_isSoundNow_161 rfl rfl ?_
      refine q_gR (pc := 162) C h (T := TX14) rfl (by decide) (wk_u rfl wm_X14_isSoundNow uq_X14 (by decide +kernel)) (by decide +kernel) (fun _ h9 => h9) dX14_isSoundNow_162 (fun x5 h => ?_)
      refine q_astore_n (pc := 165) C 3 [(3, va_rf x5), (2, .int 0), (0, va_rf l0), (1, va_rf l1)] dX14_isSoundNow_165 rfl (by decide) (by first | rfl | simp [q_cat, q_catI, q_catJ, q_catR, q_catN]) ?_
      refine q_aload_n (pc := 166) C 3 0 dX14_isSoundNow_166 rfl rfl ?_
      refine q_len (pc := 167) C h dX14_isSoundNow_167 (fun x6 h => ?_)
      refine q_istore (pc := 168) C 4 [(4, .int x6), (3, va_rf x5), (2, .int 0), (0, va_rf l0), (1, va_rf l1)] dX14_isSoundNow_168 (by decide) (by first | rfl | simp [q_cat, q_catI, q_catJ, q_catR, q_catN]) ?_
      refine q_iconst (pc := 170) C 0 dX14_isSoundNow_170 (by decide) ?_
      refine q_istore (pc := 171) C 5 [(5, .int 0), (4, .int x6), (3, va_rf x5), (2, .int 0), (0, va_rf l0), (1, va_rf l1)] dX14_isSoundNow_171 (by decide) (by first | rfl | simp [q_cat, q_catI, q_catJ, q_catR, q_catN]) ?_
      refine q_widen (k2 := 2) (n2 := 16) (by omega) (by omega) ?_
      refine q_lv [4, 5, 3, 2, 1, 0] rfl ?_
      obtain ⟨f9, h⟩ := h
      exact tX14_isSoundNow_173 C hr hlocks f9 _ _ _ _ _ _ _ h
    · have h := h.2 c4
      refine q_aload_n (pc := 22) C 2 2 dX14_isSoundNow_22 rfl rfl ?_
      obtain ⟨b7, fs9, hb7, hm9, h⟩ := h
      refine q_cFq (pc := 23) C (st := []) (b := b7) (kJx35411_next_0502b l G b0 h) (va_cwF 0 C.2.2.2.2.1 gX14_isSoundNow_Jx35411_next_0502b_f273Jx35411 rfl rfl rfl C.2.2.2.2.2.2.1.2.2.2.2.2.2.2.2.1 (by decide +kernel) ⟨Nat.le_of_ble_eq_true rfl, Nat.le_of_ble_eq_true rfl⟩) hm9 rfl rfl rfl (by first | exact Nat.le_of_ble_eq_true rfl | (simp [q_cat, q_catI, q_catJ, q_catR, q_catN]; done)) (by rw [hb7]; first | done | rfl) dX14_isSoundNow_23 ⟨(by first | omega | (dsimp only; omega)), (by first | omega | (dsimp only; omega))⟩ (fun x8 M9 h => ?_)
      refine q_cast (pc := 28) C h rfl rfl (by decide +kernel) dX14_isSoundNow_28 (fun h => ?_)
      refine q_astore_n (pc := 31) C 3 [(3, va_rf x8), (0, va_rf l0), (1, va_rf l1), (2, va_rf l2)] dX14_isSoundNow_31 rfl (by decide) (by first | rfl | simp [q_cat, q_catI, q_catJ, q_catR, q_catN]) ?_
      refine q_iconst (pc := 32) C 0 dX14_isSoundNow_32 (by decide) ?_
      refine q_istore (pc := 33) C 4 [(4, .int 0), (3, va_rf x8), (0, va_rf l0), (1, va_rf l1), (2, va_rf l2)] dX14_isSoundNow_33 (by decide) (by first | rfl | simp [q_cat, q_catI, q_catJ, q_catR, q_catN]) ?_
      refine q_iconst (pc := 35) C 0 dX14_isSoundNow_35 (by decide) ?_
      refine q_istore (pc := 36) C 5 [(5, .int 0), (4, .int 0), (3, va_rf x8), (0, va_rf l0), (1, va_rf l1), (2, va_rf l2)] dX14_isSoundNow_36 (by decide) (by first | rfl | simp [q_cat, q_catI, q_catJ, q_catR, q_catN]) ?_
      refine q_widen (k2 := 2) (n2 := 16) (by omega) (by omega) ?_
      refine q_lv [3, 4, 5, 2, 1, 0] rfl ?_
      obtain ⟨f9, h⟩ := h
      exact tX14_isSoundNow_38 C hr hlocks ih f9 _ _ _ _ _ _ _ h
set_option maxRecDepth 100000 in
set_option maxHeartbeats 4000000 in
theorem tX14_isSoundNow {p : Program} {l : Launch} {e : Env} {s : State} {m : MethodId} {args : Array Value} {below : List Frame} {meth : Method} {c : Code} {G : mG} {b0 : Nat} (C : m_C p s m args c cX14_isSoundNow 7 RX14 wsX14_isSoundNow G b0) (hr : meth.sig.returnType = (some .boolean)) (hlocks : meth.locks = false) {κ : Int32 → mM → Prop} {l0 : Option Nat} {M : mM} (h : wX14_isSoundNow κ l0 M) : m_W p l e ({ frames := 4, cells := 2, slots := 16, locals := 87 } : Room) s m args below meth c G b0 (MQ below (va_Qi κ (m_B G b0) (fun q => b0 ≤ q)) args s 2 16 (fun q => b0 ≤ q)) 7 M 0 0 0 [(0, va_rf l0)] [] := by
  unfold wX14_isSoundNow at h
  refine q_bipush (pc := 0) C 12 dX14_isSoundNow_0 (by decide) ?_
  refine q_newI (pc := 2) C h (ty := .int) rfl (ak := 0) rfl (by decide) (by decide) rfl (by decide) (fun _ => m_raI) (by decide +kernel) (by first | omega | (dsimp only; omega)) (by first | omega | (dsimp only; omega)) dX14_isSoundNow_2 (fun q1 M2 h => ?_)
  refine q_astore_n (pc := 4) C 1 [(1, va_rf (some q1)), (0, va_rf l0)] dX14_isSoundNow_4 rfl (by decide) (by first | rfl | simp [q_cat, q_catI, q_catJ, q_catR, q_catN]) ?_
  refine q_aload_n (pc := 5) C 0 1 dX14_isSoundNow_5 rfl rfl ?_
  refine q_gR (pc := 6) C h (T := TX14) rfl (by decide) (wk_u rfl wm_X14_isSoundNow uq_X14 (by decide +kernel)) (by decide +kernel) (fun _ h9 => h9) dX14_isSoundNow_6 (fun x3 h => ?_)
  obtain ⟨b6, fs9, hb6, hm9, h⟩ := h
  refine q_cq (pc := 9) (q_rV C (st := []) (b := b6) (kJx4a65c_iterator_32c93 l G b0 h) (cwV 0 C.2.2.2.2.1 gX14_isSoundNow_Jx4a65c_iterator_32c93 rfl rfl rfl (by decide +kernel) ⟨Nat.le_of_ble_eq_true rfl, Nat.le_of_ble_eq_true rfl⟩) hm9 rfl rfl rfl (by first | exact Nat.le_of_ble_eq_true rfl | (simp [q_cat, q_catI, q_catJ, q_catR, q_catN]; done)) (by rw [hb6]; first | done | rfl) dX14_isSoundNow_9 ⟨(by first | omega | (dsimp only; omega)), (by first | omega | (dsimp only; omega))⟩) (fun x4 M5 h => ?_)
  refine q_astore_n (pc := 12) C 2 [(2, va_rf x4), (1, va_rf (some q1)), (0, va_rf l0)] dX14_isSoundNow_12 rfl (by decide) (by first | rfl | simp [q_cat, q_catI, q_catJ, q_catR, q_catN]) ?_
  refine q_widen (k2 := 2) (n2 := 16) (by omega) (by omega) ?_
  refine q_lv [2, 1, 0] rfl ?_
  obtain ⟨f9, h⟩ := h
  exact tX14_isSoundNow_13 C hr hlocks f9 _ _ _ _ h
set_option maxRecDepth 100000 in
set_option maxHeartbeats 4000000 in
theorem kX14_isSoundNow (l : Launch) (G : mG) (b0 : Nat) {b : Nat} {M : mM} {κ : Int32 → mM → Prop} (h : wX14_isSoundNow κ (some b) M) : Met l yX14_isSoundNow wsX14_isSoundNow ({ frames := 4, cells := 2, slots := 16, locals := 87 } : Room) (va_Pc [.ref b] (m_Pre G b0 M)) (va_Qi κ (m_B G b0) (fun q => b0 ≤ q)) 2 16 (fun q => b0 ≤ q) := by
  refine m_met (cc := cX14_isSoundNow) (maxL := 7) (ret := (some .boolean)) (lv := [(0, va_rf (some b))]) RX14 rfl (by decide +kernel) rfl (by first | exact Nat.le_of_ble_eq_true rfl | simp [lg_sl, q_cat, q_catI, q_catJ, q_catR, q_catN]) (by first | rfl | (simp [lv_args, q_cat, q_catI, q_catJ, q_catR, q_catN]; done) | (simp [lv_args, q_cat, q_catI, q_catJ, q_catR, q_catN]; rfl)) ?_
  intro p e s m args below meth c C hr hlocks hni
  exact tX14_isSoundNow C hr hlocks h
/-! X14_isSound -/
set_option maxRecDepth 100000 in
set_option maxHeartbeats 4000000 in
theorem tX14_isSound {p : Program} {l : Launch} {e : Env} {s : State} {m : MethodId} {args : Array Value} {below : List Frame} {meth : Method} {c : Code} {G : mG} {b0 : Nat} (C : m_C p s m args c cX14_isSound 1 RX14 wsX14_isSound G b0) (hr : meth.sig.returnType = (some .boolean)) (hlocks : meth.locks = false) {κ : Int32 → mM → Prop} {l0 : Option Nat} {M : mM} (h : wX14_isSound κ l0 M) : m_W p l e ({ frames := 5, cells := 2, slots := 16, locals := 113 } : Room) s m args below meth c G b0 (MQ below (va_Qi κ (m_B G b0) (fun q => b0 ≤ q)) args s 2 16 (fun q => b0 ≤ q)) 1 M 0 0 0 [(0, va_rf l0)] [] := by
  unfold wX14_isSound at h
  refine q_aload_n (pc := 0) C 0 0 dX14_isSound_0 rfl rfl ?_
  refine q_iconst (pc := 1) C 0 dX14_isSound_1 (by decide) ?_
  refine q_p (pc := 2) C h .int (T := TX14) tyX14 tyX14_ok nmX14 rfl (by decide +kernel) rfl rfl rfl (by decide) (wk_u rfl wm_X14_isSound uq_X14 (by decide +kernel)) (by decide +kernel) (fun _ h9 => h9) rfl dX14_isSound_2 (fun M1 h => ?_)
  refine q_aload_n (pc := 5) C 0 0 dX14_isSound_5 rfl rfl ?_
  obtain ⟨b4, fs9, hb4, hm9, h⟩ := h
  refine q_ci (pc := 6) (q_rV C (st := []) (b := b4) (kX14_isSoundNow l G b0 h) (cwV 0 C.2.2.2.2.1 gX14_isSound_X14_isSoundNow rfl rfl rfl (by decide +kernel) ⟨Nat.le_of_ble_eq_true rfl, Nat.le_of_ble_eq_true rfl⟩) hm9 rfl rfl rfl (by first | exact Nat.le_of_ble_eq_true rfl | (simp [q_cat, q_catI, q_catJ, q_catR, q_catN]; done)) (by rw [hb4]; first | done | rfl) dX14_isSound_6 ⟨(by first | omega | (dsimp only; omega)), (by first | omega | (dsimp only; omega))⟩) (fun x2 M3 h => ?_)
  exact q_zret (pc := 9) C hr hlocks h dX14_isSound_9 (by omega) (by omega)
set_option maxRecDepth 100000 in
set_option maxHeartbeats 4000000 in
theorem kX14_isSound (l : Launch) (G : mG) (b0 : Nat) {b : Nat} {M : mM} {κ : Int32 → mM → Prop} (h : wX14_isSound κ (some b) M) : Met l yX14_isSound wsX14_isSound ({ frames := 5, cells := 2, slots := 16, locals := 113 } : Room) (va_Pc [.ref b] (m_Pre G b0 M)) (va_Qi κ (m_B G b0) (fun q => b0 ≤ q)) 2 16 (fun q => b0 ≤ q) := by
  refine m_met (cc := cX14_isSound) (maxL := 1) (ret := (some .boolean)) (lv := [(0, va_rf (some b))]) RX14 rfl (by decide +kernel) rfl (by first | exact Nat.le_of_ble_eq_true rfl | simp [lg_sl, q_cat, q_catI, q_catJ, q_catR, q_catN]) (by first | rfl | (simp [lv_args, q_cat, q_catI, q_catJ, q_catR, q_catN]; done) | (simp [lv_args, q_cat, q_catI, q_catJ, q_catR, q_catN]; rfl)) ?_
  intro p e s m args below meth c C hr hlocks hni
  exact tX14_isSound C hr hlocks h
/-! X14_digest -/
set_option maxRecDepth 100000 in
set_option maxHeartbeats 4000000 in
theorem tX14_digest_267 {p : Program} {l : Launch} {e : Env} {s : State} {m : MethodId} {args : Array Value} {below : List Frame} {meth : Method} {c : Code} {G : mG} {b0 : Nat} (C : m_C p s m args c cX14_digest 3 RX14 wsX14_digest G b0) (hr : meth.sig.returnType = (some .long)) (hlocks : meth.locks = false) {κ : Int64 → mM → Prop} {k9 n9 : Nat} {l0 : Option Nat} {s0 : Int64} {s1 : Option Nat} {M : mM} (h : wX14_digest_267 κ k9 n9 l0 s0 s1 M) : m_W p l e ({ frames := 7, cells := 20, slots := 821, locals := 165 } : Room) s m args below meth c G b0 (MQ below (va_Ql κ (m_B G b0) (fun q => b0 ≤ q)) args s 20 821 (fun q => b0 ≤ q)) 3 M k9 n9 267 [(0, va_rf l0)] [.long s0, va_rf s1] := by
  unfold wX14_digest_267 at h
  obtain ⟨hbk, h⟩ := h
  obtain ⟨b2, fs9, hb2, hm9, h⟩ := h
  refine q_cv (pc := 267) (q_rV C (st := []) (b := b2) (kX14_add l G b0 h) (cwV 1 C.2.2.2.2.1 gX14_digest_X14_add rfl rfl rfl (by decide +kernel) ⟨Nat.le_of_ble_eq_true rfl, Nat.le_of_ble_eq_true rfl⟩) hm9 rfl rfl rfl (by first | exact Nat.le_of_ble_eq_true rfl | (simp [q_cat, q_catI, q_catJ, q_catR, q_catN]; done)) (by rw [hb2]; first | done | rfl) dX14_digest_267 ⟨(by first | omega | (dsimp only; omega)), (by first | omega | (dsimp only; omega))⟩) (fun M1 h => ?_)
  refine q_aload_n (pc := 270) C 0 0 dX14_digest_270 rfl rfl ?_
  refine q_gJ (pc := 271) C h (T := TX14) rfl (by decide) (wk_u bm_X14_digest wm_X14_digest uq_X14 (by decide +kernel)) (by decide +kernel) (fun _ h9 => h9) dX14_digest_271 (fun x3 h => ?_)
  obtain ⟨hbk, h⟩ := h
  exact q_lret (pc := 274) C hr hlocks h dX14_digest_274 (by omega) (by omega)
set_option maxRecDepth 100000 in
set_option maxHeartbeats 4000000 in
theorem tX14_digest_219 {p : Program} {l : Launch} {e : Env} {s : State} {m : MethodId} {args : Array Value} {below : List Frame} {meth : Method} {c : Code} {G : mG} {b0 : Nat} (C : m_C p s m args c cX14_digest 3 RX14 wsX14_digest G b0) (hr : meth.sig.returnType = (some .long)) (hlocks : meth.locks = false) {κ : Int64 → mM → Prop} : ∀ (f : Nat) (k9 n9 : Nat) (l0 : Option Nat) (l1 : Int32) (M : mM), wX14_digest_219 κ f k9 n9 l0 l1 M → m_W p l e ({ frames := 7, cells := 20, slots := 821, locals := 165 } : Room) s m args below meth c G b0 (MQ below (va_Ql κ (m_B G b0) (fun q => b0 ≤ q)) args s 20 821 (fun q => b0 ≤ q)) 3 M k9 n9 219 [(0, va_rf l0), (1, .int l1)] [] := by
  intro f
  induction f with
  | zero =>
    intro k9 n9 l0 l1 M h
    exact absurd h (by simp [wX14_digest_219])
  | succ f ih =>
    intro k9 n9 l0 l1 M h
    rw [wX14_digest_219] at h
    obtain ⟨hbk, h⟩ := h
    refine q_iload_n (pc := 219) C 1 1 dX14_digest_219 rfl rfl ?_
    refine q_bipush (pc := 220) C 6 dX14_digest_220 (by decide) ?_
    refine q_icmp_ge (pc := 222) C 242 dX14_digest_222 (by decide) (fun c1 => ?_) (fun c1 => ?_)
    · have h := h.1 c1
      refine q_aload_n (pc := 242) C 0 0 dX14_digest_242 rfl rfl ?_
      refine q_aload_n (pc := 243) C 0 0 dX14_digest_243 rfl rfl ?_
      refine q_bipush (pc := 244) C 20 dX14_digest_244 (by decide) ?_
      refine q_iconst (pc := 246) C (-1) dX14_digest_246 (by decide) ?_
      obtain ⟨hbk, h⟩ := h
      obtain ⟨b4, fs9, hb4, hm9, h⟩ := h
      refine q_ci (pc := 247) (q_rV C (st := [va_rf l0]) (b := b4) (kX14_planNow l G b0 h) (cwV 2 C.2.2.2.2.1 gX14_digest_X14_planNow rfl rfl rfl (by decide +kernel) ⟨Nat.le_of_ble_eq_true rfl, Nat.le_of_ble_eq_true rfl⟩) hm9 rfl rfl rfl (by first | exact Nat.le_of_ble_eq_true rfl | (simp [q_cat, q_catI, q_catJ, q_catR, q_catN]; done)) (by rw [hb4]; first | done | rfl) dX14_digest_247 ⟨(by first | omega | (dsimp only; omega)), (by first | omega | (dsimp only; omega))⟩) (fun x2 M3 h => ?_)
      refine q_i2l (pc := 250) C dX14_digest_250 ?_
      obtain ⟨b6, fs9, hb6, hm9, h⟩ := h
      refine q_cv (pc := 251) (q_rV C (st := []) (b := b6) (kX14_add l G b0 h) (cwV 1 C.2.2.2.2.1 gX14_digest_X14_add rfl rfl rfl (by decide +kernel) ⟨Nat.le_of_ble_eq_true rfl, Nat.le_of_ble_eq_true rfl⟩) hm9 rfl rfl rfl (by first | exact Nat.le_of_ble_eq_true rfl | (simp [q_cat, q_catI, q_catJ, q_catR, q_catN]; done)) (by rw [hb6]; first | done | rfl) dX14_digest_251 ⟨(by first | omega | (dsimp only; omega)), (by first | omega | (dsimp only; omega))⟩) (fun M5 h => ?_)
      refine q_aload_n (pc := 254) C 0 0 dX14_digest_254 rfl rfl ?_
      refine q_aload_n (pc := 255) C 0 0 dX14_digest_255 rfl rfl ?_
      obtain ⟨hbk, h⟩ := h
      obtain ⟨b9, fs9, hb9, hm9, h⟩ := h
      refine q_ci (pc := 256) (q_rV C (st := [va_rf l0]) (b := b9) (kX14_isSoundNow l G b0 h) (cwV 0 C.2.2.2.2.1 gX14_digest_X14_isSoundNow rfl rfl rfl (by decide +kernel) ⟨Nat.le_of_ble_eq_true rfl, Nat.le_of_ble_eq_true rfl⟩) hm9 rfl rfl rfl (by first | exact Nat.le_of_ble_eq_true rfl | (simp [q_cat, q_catI, q_catJ, q_catR, q_catN]; done)) (by rw [hb9]; first | done | rfl) dX14_digest_256 ⟨(by first | omega | (dsimp only; omega)), (by first | omega | (dsimp only; omega))⟩) (fun x7 M8 h => ?_)
      refine q_if_eq (pc := 259) C 266 dX14_digest_259 (by decide) (fun c10 => ?_) (fun c10 => ?_)
      · have h := h.1 c10
        refine q_lconst (pc := 266) C 0 dX14_digest_266 (by decide) ?_
        refine q_lv [0] rfl ?_
        exact tX14_digest_267 C hr hlocks h
      · have h := h.2 c10
        refine q_lconst (pc := 262) C 1 dX14_digest_262 (by decide) ?_
        refine q_goto (pc := 263) C 267 dX14_digest_263 (by decide) ?_
        refine q_lv [0] rfl ?_
        exact tX14_digest_267 C hr hlocks h
    · have h := h.2 c1
      refine q_aload_n (pc := 225) C 0 0 dX14_digest_225 rfl rfl ?_
      refine q_aload_n (pc := 226) C 0 0 dX14_digest_226 rfl rfl ?_
      refine q_iconst (pc := 227) C 0 dX14_digest_227 (by decide) ?_
      refine q_iload_n (pc := 228) C 1 1 dX14_digest_228 rfl rfl ?_
      obtain ⟨b13, fs9, hb13, hm9, h⟩ := h
      refine q_ci (pc := 229) (q_rV C (st := [va_rf l0]) (b := b13) (kX14_wayNow l G b0 h) (cwV 2 C.2.2.2.2.1 gX14_digest_X14_wayNow rfl rfl rfl (by decide +kernel) ⟨Nat.le_of_ble_eq_true rfl, Nat.le_of_ble_eq_true rfl⟩) hm9 rfl rfl rfl (by first | exact Nat.le_of_ble_eq_true rfl | (simp [q_cat, q_catI, q_catJ, q_catR, q_catN]; done)) (by rw [hb13]; first | done | rfl) dX14_digest_229 ⟨(by first | omega | (dsimp only; omega)), (by first | omega | (dsimp only; omega))⟩) (fun x11 M12 h => ?_)
      refine q_i2l (pc := 232) C dX14_digest_232 ?_
      obtain ⟨b15, fs9, hb15, hm9, h⟩ := h
      refine q_cv (pc := 233) (q_rV C (st := []) (b := b15) (kX14_add l G b0 h) (cwV 1 C.2.2.2.2.1 gX14_digest_X14_add rfl rfl rfl (by decide +kernel) ⟨Nat.le_of_ble_eq_true rfl, Nat.le_of_ble_eq_true rfl⟩) hm9 rfl rfl rfl (by first | exact Nat.le_of_ble_eq_true rfl | (simp [q_cat, q_catI, q_catJ, q_catR, q_catN]; done)) (by rw [hb15]; first | done | rfl) dX14_digest_233 ⟨(by first | omega | (dsimp only; omega)), (by first | omega | (dsimp only; omega))⟩) (fun M14 h => ?_)
      refine q_iinc (pc := 236) C 1 1 (l1 + 1) [(1, .int (l1 + 1)), (0, va_rf l0)] dX14_digest_236 rfl (by rfl) (by decide) (by first | rfl | simp [q_cat, q_catI, q_catJ, q_catR, q_catN]) ?_
      refine q_goto (pc := 239) C 219 dX14_digest_239 (by decide) ?_
      refine q_lv [1, 0] rfl ?_
      exact ih _ _ _ _ _ h
set_option maxRecDepth 100000 in
set_option maxHeartbeats 4000000 in
theorem tX14_digest_188 {p : Program} {l : Launch} {e : Env} {s : State} {m : MethodId} {args : Array Value} {below : List Frame} {meth : Method} {c : Code} {G : mG} {b0 : Nat} (C : m_C p s m args c cX14_digest 3 RX14 wsX14_digest G b0) (hr : meth.sig.returnType = (some .long)) (hlocks : meth.locks = false) {κ : Int64 → mM → Prop} {R175 : Nat → Nat → Option Nat → Int32 → mM → Prop} (hR175 : ∀ (k9 n9 : Nat) (l0 : Option Nat) (l1 : Int32) (M : mM), R175 k9 n9 l0 l1 M → m_W p l e ({ frames := 7, cells := 20, slots := 821, locals := 165 } : Room) s m args below meth c G b0 (MQ below (va_Ql κ (m_B G b0) (fun q => b0 ≤ q)) args s 20 821 (fun q => b0 ≤ q)) 3 M k9 n9 175 [(0, va_rf l0), (1, .int l1)] []) : ∀ (f : Nat) (k9 n9 : Nat) (l0 : Option Nat) (l1 : Int32) (l2 : Int32) (M : mM), wX14_digest_188 κ R175 f k9 n9 l0 l1 l2 M → m_W p l e ({ frames := 7, cells := 20, slots := 821, locals := 165 } : Room) s m args below meth c G b0 (MQ below (va_Ql κ (m_B G b0) (fun q => b0 ≤ q)) args s 20 821 (fun q => b0 ≤ q)) 3 M k9 n9 188 [(0, va_rf l0), (1, .int l1), (2, .int l2)] [] := by
  intro f
  induction f with
  | zero =>
    intro k9 n9 l0 l1 l2 M h
    exact absurd h (by simp [wX14_digest_188])
  | succ f ih =>
    intro k9 n9 l0 l1 l2 M h
    rw [wX14_digest_188] at h
    obtain ⟨hbk, h⟩ := h
    refine q_iload_n (pc := 188) C 2 2 dX14_digest_188 rfl rfl ?_
    refine q_bipush (pc := 189) C 6 dX14_digest_189 (by decide) ?_
    refine q_icmp_ge (pc := 191) C 211 dX14_digest_191 (by decide) (fun c1 => ?_) (fun c1 => ?_)
    · have h := h.1 c1
      refine q_iinc (pc := 211) C 1 1 (l1 + 1) [(1, .int (l1 + 1)), (0, va_rf l0), (2, .int l2)] dX14_digest_211 rfl (by rfl) (by decide) (by first | rfl | simp [q_cat, q_catI, q_catJ, q_catR, q_catN]) ?_
      refine q_goto (pc := 214) C 175 dX14_digest_214 (by decide) ?_
      refine q_lv [1, 0] rfl ?_
      exact hR175 _ _ _ _ _ h
    · have h := h.2 c1
      refine q_aload_n (pc := 194) C 0 0 dX14_digest_194 rfl rfl ?_
      refine q_aload_n (pc := 195) C 0 0 dX14_digest_195 rfl rfl ?_
      refine q_iload_n (pc := 196) C 1 1 dX14_digest_196 rfl rfl ?_
      refine q_iload_n (pc := 197) C 2 2 dX14_digest_197 rfl rfl ?_
      obtain ⟨b4, fs9, hb4, hm9, h⟩ := h
      refine q_ci (pc := 198) (q_rV C (st := [va_rf l0]) (b := b4) (kX14_ofPartNow l G b0 h) (cwV 2 C.2.2.2.2.1 gX14_digest_X14_ofPartNow rfl rfl rfl (by decide +kernel) ⟨Nat.le_of_ble_eq_true rfl, Nat.le_of_ble_eq_true rfl⟩) hm9 rfl rfl rfl (by first | exact Nat.le_of_ble_eq_true rfl | (simp [q_cat, q_catI, q_catJ, q_catR, q_catN]; done)) (by rw [hb4]; first | done | rfl) dX14_digest_198 ⟨(by first | omega | (dsimp only; omega)), (by first | omega | (dsimp only; omega))⟩) (fun x2 M3 h => ?_)
      refine q_i2l (pc := 201) C dX14_digest_201 ?_
      obtain ⟨b6, fs9, hb6, hm9, h⟩ := h
      refine q_cv (pc := 202) (q_rV C (st := []) (b := b6) (kX14_add l G b0 h) (cwV 1 C.2.2.2.2.1 gX14_digest_X14_add rfl rfl rfl (by decide +kernel) ⟨Nat.le_of_ble_eq_true rfl, Nat.le_of_ble_eq_true rfl⟩) hm9 rfl rfl rfl (by first | exact Nat.le_of_ble_eq_true rfl | (simp [q_cat, q_catI, q_catJ, q_catR, q_catN]; done)) (by rw [hb6]; first | done | rfl) dX14_digest_202 ⟨(by first | omega | (dsimp only; omega)), (by first | omega | (dsimp only; omega))⟩) (fun M5 h => ?_)
      refine q_iinc (pc := 205) C 2 2 (l2 + 1) [(2, .int (l2 + 1)), (0, va_rf l0), (1, .int l1)] dX14_digest_205 rfl (by rfl) (by decide) (by first | rfl | simp [q_cat, q_catI, q_catJ, q_catR, q_catN]) ?_
      refine q_goto (pc := 208) C 188 dX14_digest_208 (by decide) ?_
      refine q_lv [1, 2, 0] rfl ?_
      exact ih _ _ _ _ _ _ h
set_option maxRecDepth 100000 in
set_option maxHeartbeats 4000000 in
theorem tX14_digest_175 {p : Program} {l : Launch} {e : Env} {s : State} {m : MethodId} {args : Array Value} {below : List Frame} {meth : Method} {c : Code} {G : mG} {b0 : Nat} (C : m_C p s m args c cX14_digest 3 RX14 wsX14_digest G b0) (hr : meth.sig.returnType = (some .long)) (hlocks : meth.locks = false) {κ : Int64 → mM → Prop} : ∀ (f : Nat) (k9 n9 : Nat) (l0 : Option Nat) (l1 : Int32) (M : mM), wX14_digest_175 κ f k9 n9 l0 l1 M → m_W p l e ({ frames := 7, cells := 20, slots := 821, locals := 165 } : Room) s m args below meth c G b0 (MQ below (va_Ql κ (m_B G b0) (fun q => b0 ≤ q)) args s 20 821 (fun q => b0 ≤ q)) 3 M k9 n9 175 [(0, va_rf l0), (1, .int l1)] [] := by
  intro f
  induction f with
  | zero =>
    intro k9 n9 l0 l1 M h
    exact absurd h (by simp [wX14_digest_175])
  | succ f ih =>
    intro k9 n9 l0 l1 M h
    rw [wX14_digest_175] at h
    obtain ⟨hbk, h⟩ := h
    refine q_iload_n (pc := 175) C 1 1 dX14_digest_175 rfl rfl ?_
    refine q_aload_n (pc := 176) C 0 0 dX14_digest_176 rfl rfl ?_
    refine q_gR (pc := 177) C h (T := TX14) rfl (by decide) (wk_u bm_X14_digest wm_X14_digest uq_X14 (by decide +kernel)) (by decide +kernel) (fun _ h9 => h9) dX14_digest_177 (fun x1 h => ?_)
    obtain ⟨b4, fs9, hb4, hm9, h⟩ := h
    refine q_ci (pc := 180) (q_rV C (st := [.int l1]) (b := b4) (kJx4a65c_size_8abf5 l G b0 h) (cwV 0 C.2.2.2.2.1 gX14_digest_Jx4a65c_size_8abf5 rfl rfl rfl (by decide +kernel) ⟨Nat.le_of_ble_eq_true rfl, Nat.le_of_ble_eq_true rfl⟩) hm9 rfl rfl rfl (by first | exact Nat.le_of_ble_eq_true rfl | (simp [q_cat, q_catI, q_catJ, q_catR, q_catN]; done)) (by rw [hb4]; first | done | rfl) dX14_digest_180 ⟨(by first | omega | (dsimp only; omega)), (by first | omega | (dsimp only; omega))⟩) (fun x2 M3 h => ?_)
    refine q_icmp_ge (pc := 183) C 217 dX14_digest_183 (by decide) (fun c5 => ?_) (fun c5 => ?_)
    · have h := h.1 c5
      refine q_iconst (pc := 217) C 0 dX14_digest_217 (by decide) ?_
      refine q_istore_n (pc := 218) C 1 [(1, .int 0), (0, va_rf l0)] dX14_digest_218 rfl (by decide) (by first | rfl | simp [q_cat, q_catI, q_catJ, q_catR, q_catN]) ?_
      refine q_lv [1, 0] rfl ?_
      obtain ⟨f9, h⟩ := h
      exact tX14_digest_219 C hr hlocks f9 _ _ _ _ _ h
    · have h := h.2 c5
      refine q_iconst (pc := 186) C 3 dX14_digest_186 (by decide) ?_
      refine q_istore_n (pc := 187) C 2 [(2, .int 3), (0, va_rf l0), (1, .int l1)] dX14_digest_187 rfl (by decide) (by first | rfl | simp [q_cat, q_catI, q_catJ, q_catR, q_catN]) ?_
      refine q_lv [1, 2, 0] rfl ?_
      obtain ⟨f9, h⟩ := h
      exact tX14_digest_188 C hr hlocks ih f9 _ _ _ _ _ _ h
set_option maxRecDepth 100000 in
set_option maxHeartbeats 4000000 in
theorem tX14_digest_144 {p : Program} {l : Launch} {e : Env} {s : State} {m : MethodId} {args : Array Value} {below : List Frame} {meth : Method} {c : Code} {G : mG} {b0 : Nat} (C : m_C p s m args c cX14_digest 3 RX14 wsX14_digest G b0) (hr : meth.sig.returnType = (some .long)) (hlocks : meth.locks = false) {κ : Int64 → mM → Prop} {R131 : Nat → Nat → Option Nat → Int32 → mM → Prop} (hR131 : ∀ (k9 n9 : Nat) (l0 : Option Nat) (l1 : Int32) (M : mM), R131 k9 n9 l0 l1 M → m_W p l e ({ frames := 7, cells := 20, slots := 821, locals := 165 } : Room) s m args below meth c G b0 (MQ below (va_Ql κ (m_B G b0) (fun q => b0 ≤ q)) args s 20 821 (fun q => b0 ≤ q)) 3 M k9 n9 131 [(0, va_rf l0), (1, .int l1)] []) : ∀ (f : Nat) (k9 n9 : Nat) (l0 : Option Nat) (l1 : Int32) (l2 : Int32) (M : mM), wX14_digest_144 κ R131 f k9 n9 l0 l1 l2 M → m_W p l e ({ frames := 7, cells := 20, slots := 821, locals := 165 } : Room) s m args below meth c G b0 (MQ below (va_Ql κ (m_B G b0) (fun q => b0 ≤ q)) args s 20 821 (fun q => b0 ≤ q)) 3 M k9 n9 144 [(0, va_rf l0), (1, .int l1), (2, .int l2)] [] := by
  intro f
  induction f with
  | zero =>
    intro k9 n9 l0 l1 l2 M h
    exact absurd h (by simp [wX14_digest_144])
  | succ f ih =>
    intro k9 n9 l0 l1 l2 M h
    rw [wX14_digest_144] at h
    obtain ⟨hbk, h⟩ := h
    refine q_iload_n (pc := 144) C 2 2 dX14_digest_144 rfl rfl ?_
    refine q_bipush (pc := 145) C 9 dX14_digest_145 (by decide) ?_
    refine q_icmp_ge (pc := 147) C 167 dX14_digest_147 (by decide) (fun c1 => ?_) (fun c1 => ?_)
    · have h := h.1 c1
      refine q_iinc (pc := 167) C 1 1 (l1 + 1) [(1, .int (l1 + 1)), (0, va_rf l0), (2, .int l2)] dX14_digest_167 rfl (by rfl) (by decide) (by first | rfl | simp [q_cat, q_catI, q_catJ, q_catR, q_catN]) ?_
      refine q_goto (pc := 170) C 131 dX14_digest_170 (by decide) ?_
      refine q_lv [1, 0] rfl ?_
      exact hR131 _ _ _ _ _ h
    · have h := h.2 c1
      refine q_aload_n (pc := 150) C 0 0 dX14_digest_150 rfl rfl ?_
      refine q_aload_n (pc := 151) C 0 0 dX14_digest_151 rfl rfl ?_
      refine q_iload_n (pc := 152) C 1 1 dX14_digest_152 rfl rfl ?_
      refine q_iload_n (pc := 153) C 2 2 dX14_digest_153 rfl rfl ?_
      obtain ⟨b4, fs9, hb4, hm9, h⟩ := h
      refine q_ci (pc := 154) (q_rV C (st := [va_rf l0]) (b := b4) (kX14_ofSleeperNow l G b0 h) (cwV 2 C.2.2.2.2.1 gX14_digest_X14_ofSleeperNow rfl rfl rfl (by decide +kernel) ⟨Nat.le_of_ble_eq_true rfl, Nat.le_of_ble_eq_true rfl⟩) hm9 rfl rfl rfl (by first | exact Nat.le_of_ble_eq_true rfl | (simp [q_cat, q_catI, q_catJ, q_catR, q_catN]; done)) (by rw [hb4]; first | done | rfl) dX14_digest_154 ⟨(by first | omega | (dsimp only; omega)), (by first | omega | (dsimp only; omega))⟩) (fun x2 M3 h => ?_)
      refine q_i2l (pc := 157) C dX14_digest_157 ?_
      obtain ⟨b6, fs9, hb6, hm9, h⟩ := h
      refine q_cv (pc := 158) (q_rV C (st := []) (b := b6) (kX14_add l G b0 h) (cwV 1 C.2.2.2.2.1 gX14_digest_X14_add rfl rfl rfl (by decide +kernel) ⟨Nat.le_of_ble_eq_true rfl, Nat.le_of_ble_eq_true rfl⟩) hm9 rfl rfl rfl (by first | exact Nat.le_of_ble_eq_true rfl | (simp [q_cat, q_catI, q_catJ, q_catR, q_catN]; done)) (by rw [hb6]; first | done | rfl) dX14_digest_158 ⟨(by first | omega | (dsimp only; omega)), (by first | omega | (dsimp only; omega))⟩) (fun M5 h => ?_)
      refine q_iinc (pc := 161) C 2 2 (l2 + 1) [(2, .int (l2 + 1)), (0, va_rf l0), (1, .int l1)] dX14_digest_161 rfl (by rfl) (by decide) (by first | rfl | simp [q_cat, q_catI, q_catJ, q_catR, q_catN]) ?_
      refine q_goto (pc := 164) C 144 dX14_digest_164 (by decide) ?_
      refine q_lv [1, 2, 0] rfl ?_
      exact ih _ _ _ _ _ _ h
set_option maxRecDepth 100000 in
set_option maxHeartbeats 4000000 in
theorem tX14_digest_131 {p : Program} {l : Launch} {e : Env} {s : State} {m : MethodId} {args : Array Value} {below : List Frame} {meth : Method} {c : Code} {G : mG} {b0 : Nat} (C : m_C p s m args c cX14_digest 3 RX14 wsX14_digest G b0) (hr : meth.sig.returnType = (some .long)) (hlocks : meth.locks = false) {κ : Int64 → mM → Prop} : ∀ (f : Nat) (k9 n9 : Nat) (l0 : Option Nat) (l1 : Int32) (M : mM), wX14_digest_131 κ f k9 n9 l0 l1 M → m_W p l e ({ frames := 7, cells := 20, slots := 821, locals := 165 } : Room) s m args below meth c G b0 (MQ below (va_Ql κ (m_B G b0) (fun q => b0 ≤ q)) args s 20 821 (fun q => b0 ≤ q)) 3 M k9 n9 131 [(0, va_rf l0), (1, .int l1)] [] := by
  intro f
  induction f with
  | zero =>
    intro k9 n9 l0 l1 M h
    exact absurd h (by simp [wX14_digest_131])
  | succ f ih =>
    intro k9 n9 l0 l1 M h
    rw [wX14_digest_131] at h
    obtain ⟨hbk, h⟩ := h
    refine q_iload_n (pc := 131) C 1 1 dX14_digest_131 rfl rfl ?_
    refine q_aload_n (pc := 132) C 0 0 dX14_digest_132 rfl rfl ?_
    refine q_gR (pc := 133) C h (T := TX14) rfl (by decide) (wk_u bm_X14_digest wm_X14_digest uq_X14 (by decide +kernel)) (by decide +kernel) (fun _ h9 => h9) dX14_digest_133 (fun x1 h => ?_)
    obtain ⟨b4, fs9, hb4, hm9, h⟩ := h
    refine q_ci (pc := 136) (q_rV C (st := [.int l1]) (b := b4) (kJx4a65c_size_8abf5 l G b0 h) (cwV 0 C.2.2.2.2.1 gX14_digest_Jx4a65c_size_8abf5 rfl rfl rfl (by decide +kernel) ⟨Nat.le_of_ble_eq_true rfl, Nat.le_of_ble_eq_true rfl⟩) hm9 rfl rfl rfl (by first | exact Nat.le_of_ble_eq_true rfl | (simp [q_cat, q_catI, q_catJ, q_catR, q_catN]; done)) (by rw [hb4]; first | done | rfl) dX14_digest_136 ⟨(by first | omega | (dsimp only; omega)), (by first | omega | (dsimp only; omega))⟩) (fun x2 M3 h => ?_)
    refine q_icmp_ge (pc := 139) C 173 dX14_digest_139 (by decide) (fun c5 => ?_) (fun c5 => ?_)
    · have h := h.1 c5
      refine q_iconst (pc := 173) C 0 dX14_digest_173 (by decide) ?_
      refine q_istore_n (pc := 174) C 1 [(1, .int 0), (0, va_rf l0)] dX14_digest_174 rfl (by decide) (by first | rfl | simp [q_cat, q_catI, q_catJ, q_catR, q_catN]) ?_
      refine q_lv [1, 0] rfl ?_
      obtain ⟨f9, h⟩ := h
      exact tX14_digest_175 C hr hlocks f9 _ _ _ _ _ h
    · have h := h.2 c5
      refine q_iconst (pc := 142) C 0 dX14_digest_142 (by decide) ?_
      refine q_istore_n (pc := 143) C 2 [(2, .int 0), (0, va_rf l0), (1, .int l1)] dX14_digest_143 rfl (by decide) (by first | rfl | simp [q_cat, q_catI, q_catJ, q_catR, q_catN]) ?_
      refine q_lv [1, 2, 0] rfl ?_
      obtain ⟨f9, h⟩ := h
      exact tX14_digest_144 C hr hlocks ih f9 _ _ _ _ _ _ h
set_option maxRecDepth 100000 in
set_option maxHeartbeats 4000000 in
theorem tX14_digest_90 {p : Program} {l : Launch} {e : Env} {s : State} {m : MethodId} {args : Array Value} {below : List Frame} {meth : Method} {c : Code} {G : mG} {b0 : Nat} (C : m_C p s m args c cX14_digest 3 RX14 wsX14_digest G b0) (hr : meth.sig.returnType = (some .long)) (hlocks : meth.locks = false) {κ : Int64 → mM → Prop} {R77 : Nat → Nat → Option Nat → Int32 → mM → Prop} (hR77 : ∀ (k9 n9 : Nat) (l0 : Option Nat) (l1 : Int32) (M : mM), R77 k9 n9 l0 l1 M → m_W p l e ({ frames := 7, cells := 20, slots := 821, locals := 165 } : Room) s m args below meth c G b0 (MQ below (va_Ql κ (m_B G b0) (fun q => b0 ≤ q)) args s 20 821 (fun q => b0 ≤ q)) 3 M k9 n9 77 [(0, va_rf l0), (1, .int l1)] []) : ∀ (f : Nat) (k9 n9 : Nat) (l0 : Option Nat) (l1 : Int32) (l2 : Int32) (M : mM), wX14_digest_90 κ R77 f k9 n9 l0 l1 l2 M → m_W p l e ({ frames := 7, cells := 20, slots := 821, locals := 165 } : Room) s m args below meth c G b0 (MQ below (va_Ql κ (m_B G b0) (fun q => b0 ≤ q)) args s 20 821 (fun q => b0 ≤ q)) 3 M k9 n9 90 [(0, va_rf l0), (1, .int l1), (2, .int l2)] [] := by
  intro f
  induction f with
  | zero =>
    intro k9 n9 l0 l1 l2 M h
    exact absurd h (by simp [wX14_digest_90])
  | succ f ih =>
    intro k9 n9 l0 l1 l2 M h
    rw [wX14_digest_90] at h
    obtain ⟨hbk, h⟩ := h
    refine q_iload_n (pc := 90) C 2 2 dX14_digest_90 rfl rfl ?_
    refine q_bipush (pc := 91) C 10 dX14_digest_91 (by decide) ?_
    refine q_icmp_ge (pc := 93) C 113 dX14_digest_93 (by decide) (fun c1 => ?_) (fun c1 => ?_)
    · have h := h.1 c1
      refine q_aload_n (pc := 113) C 0 0 dX14_digest_113 rfl rfl ?_
      refine q_aload_n (pc := 114) C 0 0 dX14_digest_114 rfl rfl ?_
      refine q_iload_n (pc := 115) C 1 1 dX14_digest_115 rfl rfl ?_
      obtain ⟨b4, fs9, hb4, hm9, h⟩ := h
      refine q_ci (pc := 116) (q_rV C (st := [va_rf l0]) (b := b4) (kX14_wouldPayNow l G b0 h) (cwV 1 C.2.2.2.2.1 gX14_digest_X14_wouldPayNow rfl rfl rfl (by decide +kernel) ⟨Nat.le_of_ble_eq_true rfl, Nat.le_of_ble_eq_true rfl⟩) hm9 rfl rfl rfl (by first | exact Nat.le_of_ble_eq_true rfl | (simp [q_cat, q_catI, q_catJ, q_catR, q_catN]; done)) (by rw [hb4]; first | done | rfl) dX14_digest_116 ⟨(by first | omega | (dsimp only; omega)), (by first | omega | (dsimp only; omega))⟩) (fun x2 M3 h => ?_)
      refine q_i2l (pc := 119) C dX14_digest_119 ?_
      obtain ⟨b6, fs9, hb6, hm9, h⟩ := h
      refine q_cv (pc := 120) (q_rV C (st := []) (b := b6) (kX14_add l G b0 h) (cwV 1 C.2.2.2.2.1 gX14_digest_X14_add rfl rfl rfl (by decide +kernel) ⟨Nat.le_of_ble_eq_true rfl, Nat.le_of_ble_eq_true rfl⟩) hm9 rfl rfl rfl (by first | exact Nat.le_of_ble_eq_true rfl | (simp [q_cat, q_catI, q_catJ, q_catR, q_catN]; done)) (by rw [hb6]; first | done | rfl) dX14_digest_120 ⟨(by first | omega | (dsimp only; omega)), (by first | omega | (dsimp only; omega))⟩) (fun M5 h => ?_)
      refine q_iinc (pc := 123) C 1 1 (l1 + 1) [(1, .int (l1 + 1)), (0, va_rf l0), (2, .int l2)] dX14_digest_123 rfl (by rfl) (by decide) (by first | rfl | simp [q_cat, q_catI, q_catJ, q_catR, q_catN]) ?_
      refine q_goto (pc := 126) C 77 dX14_digest_126 (by decide) ?_
      refine q_lv [1, 0] rfl ?_
      exact hR77 _ _ _ _ _ h
    · have h := h.2 c1
      refine q_aload_n (pc := 96) C 0 0 dX14_digest_96 rfl rfl ?_
      refine q_aload_n (pc := 97) C 0 0 dX14_digest_97 rfl rfl ?_
      refine q_iload_n (pc := 98) C 1 1 dX14_digest_98 rfl rfl ?_
      refine q_iload_n (pc := 99) C 2 2 dX14_digest_99 rfl rfl ?_
      obtain ⟨b9, fs9, hb9, hm9, h⟩ := h
      refine q_ci (pc := 100) (q_rV C (st := [va_rf l0]) (b := b9) (kX14_ofGateNow l G b0 h) (cwV 2 C.2.2.2.2.1 gX14_digest_X14_ofGateNow rfl rfl rfl (by decide +kernel) ⟨Nat.le_of_ble_eq_true rfl, Nat.le_of_ble_eq_true rfl⟩) hm9 rfl rfl rfl (by first | exact Nat.le_of_ble_eq_true rfl | (simp [q_cat, q_catI, q_catJ, q_catR, q_catN]; done)) (by rw [hb9]; first | done | rfl) dX14_digest_100 ⟨(by first | omega | (dsimp only; omega)), (by first | omega | (dsimp only; omega))⟩) (fun x7 M8 h => ?_)
      refine q_i2l (pc := 103) C dX14_digest_103 ?_
      obtain ⟨b11, fs9, hb11, hm9, h⟩ := h
      refine q_cv (pc := 104) (q_rV C (st := []) (b := b11) (kX14_add l G b0 h) (cwV 1 C.2.2.2.2.1 gX14_digest_X14_add rfl rfl rfl (by decide +kernel) ⟨Nat.le_of_ble_eq_true rfl, Nat.le_of_ble_eq_true rfl⟩) hm9 rfl rfl rfl (by first | exact Nat.le_of_ble_eq_true rfl | (simp [q_cat, q_catI, q_catJ, q_catR, q_catN]; done)) (by rw [hb11]; first | done | rfl) dX14_digest_104 ⟨(by first | omega | (dsimp only; omega)), (by first | omega | (dsimp only; omega))⟩) (fun M10 h => ?_)
      refine q_iinc (pc := 107) C 2 2 (l2 + 1) [(2, .int (l2 + 1)), (0, va_rf l0), (1, .int l1)] dX14_digest_107 rfl (by rfl) (by decide) (by first | rfl | simp [q_cat, q_catI, q_catJ, q_catR, q_catN]) ?_
      refine q_goto (pc := 110) C 90 dX14_digest_110 (by decide) ?_
      refine q_lv [1, 2, 0] rfl ?_
      exact ih _ _ _ _ _ _ h
set_option maxRecDepth 100000 in
set_option maxHeartbeats 4000000 in
theorem tX14_digest_77 {p : Program} {l : Launch} {e : Env} {s : State} {m : MethodId} {args : Array Value} {below : List Frame} {meth : Method} {c : Code} {G : mG} {b0 : Nat} (C : m_C p s m args c cX14_digest 3 RX14 wsX14_digest G b0) (hr : meth.sig.returnType = (some .long)) (hlocks : meth.locks = false) {κ : Int64 → mM → Prop} : ∀ (f : Nat) (k9 n9 : Nat) (l0 : Option Nat) (l1 : Int32) (M : mM), wX14_digest_77 κ f k9 n9 l0 l1 M → m_W p l e ({ frames := 7, cells := 20, slots := 821, locals := 165 } : Room) s m args below meth c G b0 (MQ below (va_Ql κ (m_B G b0) (fun q => b0 ≤ q)) args s 20 821 (fun q => b0 ≤ q)) 3 M k9 n9 77 [(0, va_rf l0), (1, .int l1)] [] := by
  intro f
  induction f with
  | zero =>
    intro k9 n9 l0 l1 M h
    exact absurd h (by simp [wX14_digest_77])
  | succ f ih =>
    intro k9 n9 l0 l1 M h
    rw [wX14_digest_77] at h
    obtain ⟨hbk, h⟩ := h
    refine q_iload_n (pc := 77) C 1 1 dX14_digest_77 rfl rfl ?_
    refine q_aload_n (pc := 78) C 0 0 dX14_digest_78 rfl rfl ?_
    refine q_gR (pc := 79) C h (T := TX14) rfl (by decide) (wk_u bm_X14_digest wm_X14_digest uq_X14 (by decide +kernel)) (by decide +kernel) (fun _ h9 => h9) dX14_digest_79 (fun x1 h => ?_)
    obtain ⟨b4, fs9, hb4, hm9, h⟩ := h
    refine q_ci (pc := 82) (q_rV C (st := [.int l1]) (b := b4) (kJx4a65c_size_8abf5 l G b0 h) (cwV 0 C.2.2.2.2.1 gX14_digest_Jx4a65c_size_8abf5 rfl rfl rfl (by decide +kernel) ⟨Nat.le_of_ble_eq_true rfl, Nat.le_of_ble_eq_true rfl⟩) hm9 rfl rfl rfl (by first | exact Nat.le_of_ble_eq_true rfl | (simp [q_cat, q_catI, q_catJ, q_catR, q_catN]; done)) (by rw [hb4]; first | done | rfl) dX14_digest_82 ⟨(by first | omega | (dsimp only; omega)), (by first | omega | (dsimp only; omega))⟩) (fun x2 M3 h => ?_)
    refine q_icmp_ge (pc := 85) C 129 dX14_digest_85 (by decide) (fun c5 => ?_) (fun c5 => ?_)
    · have h := h.1 c5
      refine q_iconst (pc := 129) C 0 dX14_digest_129 (by decide) ?_
      refine q_istore_n (pc := 130) C 1 [(1, .int 0), (0, va_rf l0)] dX14_digest_130 rfl (by decide) (by first | rfl | simp [q_cat, q_catI, q_catJ, q_catR, q_catN]) ?_
      refine q_lv [1, 0] rfl ?_
      obtain ⟨f9, h⟩ := h
      exact tX14_digest_131 C hr hlocks f9 _ _ _ _ _ h
    · have h := h.2 c5
      refine q_iconst (pc := 88) C 2 dX14_digest_88 (by decide) ?_
      refine q_istore_n (pc := 89) C 2 [(2, .int 2), (0, va_rf l0), (1, .int l1)] dX14_digest_89 rfl (by decide) (by first | rfl | simp [q_cat, q_catI, q_catJ, q_catR, q_catN]) ?_
      refine q_lv [1, 2, 0] rfl ?_
      obtain ⟨f9, h⟩ := h
      exact tX14_digest_90 C hr hlocks ih f9 _ _ _ _ _ _ h
set_option maxRecDepth 100000 in
set_option maxHeartbeats 4000000 in
theorem tX14_digest_46 {p : Program} {l : Launch} {e : Env} {s : State} {m : MethodId} {args : Array Value} {below : List Frame} {meth : Method} {c : Code} {G : mG} {b0 : Nat} (C : m_C p s m args c cX14_digest 3 RX14 wsX14_digest G b0) (hr : meth.sig.returnType = (some .long)) (hlocks : meth.locks = false) {κ : Int64 → mM → Prop} {R38 : Nat → Nat → Option Nat → Int32 → mM → Prop} (hR38 : ∀ (k9 n9 : Nat) (l0 : Option Nat) (l1 : Int32) (M : mM), R38 k9 n9 l0 l1 M → m_W p l e ({ frames := 7, cells := 20, slots := 821, locals := 165 } : Room) s m args below meth c G b0 (MQ below (va_Ql κ (m_B G b0) (fun q => b0 ≤ q)) args s 20 821 (fun q => b0 ≤ q)) 3 M k9 n9 38 [(0, va_rf l0), (1, .int l1)] []) : ∀ (f : Nat) (k9 n9 : Nat) (l0 : Option Nat) (l1 : Int32) (l2 : Int32) (M : mM), wX14_digest_46 κ R38 f k9 n9 l0 l1 l2 M → m_W p l e ({ frames := 7, cells := 20, slots := 821, locals := 165 } : Room) s m args below meth c G b0 (MQ below (va_Ql κ (m_B G b0) (fun q => b0 ≤ q)) args s 20 821 (fun q => b0 ≤ q)) 3 M k9 n9 46 [(0, va_rf l0), (1, .int l1), (2, .int l2)] [] := by
  intro f
  induction f with
  | zero =>
    intro k9 n9 l0 l1 l2 M h
    exact absurd h (by simp [wX14_digest_46])
  | succ f ih =>
    intro k9 n9 l0 l1 l2 M h
    rw [wX14_digest_46] at h
    obtain ⟨hbk, h⟩ := h
    refine q_iload_n (pc := 46) C 2 2 dX14_digest_46 rfl rfl ?_
    refine q_bipush (pc := 47) C 9 dX14_digest_47 (by decide) ?_
    refine q_icmp_ge (pc := 49) C 69 dX14_digest_49 (by decide) (fun c1 => ?_) (fun c1 => ?_)
    · have h := h.1 c1
      refine q_iinc (pc := 69) C 1 1 (l1 + 1) [(1, .int (l1 + 1)), (0, va_rf l0), (2, .int l2)] dX14_digest_69 rfl (by rfl) (by decide) (by first | rfl | simp [q_cat, q_catI, q_catJ, q_catR, q_catN]) ?_
      refine q_goto (pc := 72) C 38 dX14_digest_72 (by decide) ?_
      refine q_lv [1, 0] rfl ?_
      exact hR38 _ _ _ _ _ h
    · have h := h.2 c1
      refine q_aload_n (pc := 52) C 0 0 dX14_digest_52 rfl rfl ?_
      refine q_aload_n (pc := 53) C 0 0 dX14_digest_53 rfl rfl ?_
      refine q_iload_n (pc := 54) C 1 1 dX14_digest_54 rfl rfl ?_
      refine q_iload_n (pc := 55) C 2 2 dX14_digest_55 rfl rfl ?_
      obtain ⟨b4, fs9, hb4, hm9, h⟩ := h
      refine q_ci (pc := 56) (q_rV C (st := [va_rf l0]) (b := b4) (kX14_ofLandNow l G b0 h) (cwV 2 C.2.2.2.2.1 gX14_digest_X14_ofLandNow rfl rfl rfl (by decide +kernel) ⟨Nat.le_of_ble_eq_true rfl, Nat.le_of_ble_eq_true rfl⟩) hm9 rfl rfl rfl (by first | exact Nat.le_of_ble_eq_true rfl | (simp [q_cat, q_catI, q_catJ, q_catR, q_catN]; done)) (by rw [hb4]; first | done | rfl) dX14_digest_56 ⟨(by first | omega | (dsimp only; omega)), (by first | omega | (dsimp only; omega))⟩) (fun x2 M3 h => ?_)
      refine q_i2l (pc := 59) C dX14_digest_59 ?_
      obtain ⟨b6, fs9, hb6, hm9, h⟩ := h
      refine q_cv (pc := 60) (q_rV C (st := []) (b := b6) (kX14_add l G b0 h) (cwV 1 C.2.2.2.2.1 gX14_digest_X14_add rfl rfl rfl (by decide +kernel) ⟨Nat.le_of_ble_eq_true rfl, Nat.le_of_ble_eq_true rfl⟩) hm9 rfl rfl rfl (by first | exact Nat.le_of_ble_eq_true rfl | (simp [q_cat, q_catI, q_catJ, q_catR, q_catN]; done)) (by rw [hb6]; first | done | rfl) dX14_digest_60 ⟨(by first | omega | (dsimp only; omega)), (by first | omega | (dsimp only; omega))⟩) (fun M5 h => ?_)
      refine q_iinc (pc := 63) C 2 2 (l2 + 1) [(2, .int (l2 + 1)), (0, va_rf l0), (1, .int l1)] dX14_digest_63 rfl (by rfl) (by decide) (by first | rfl | simp [q_cat, q_catI, q_catJ, q_catR, q_catN]) ?_
      refine q_goto (pc := 66) C 46 dX14_digest_66 (by decide) ?_
      refine q_lv [1, 2, 0] rfl ?_
      exact ih _ _ _ _ _ _ h
set_option maxRecDepth 100000 in
set_option maxHeartbeats 4000000 in
theorem tX14_digest_38 {p : Program} {l : Launch} {e : Env} {s : State} {m : MethodId} {args : Array Value} {below : List Frame} {meth : Method} {c : Code} {G : mG} {b0 : Nat} (C : m_C p s m args c cX14_digest 3 RX14 wsX14_digest G b0) (hr : meth.sig.returnType = (some .long)) (hlocks : meth.locks = false) {κ : Int64 → mM → Prop} : ∀ (f : Nat) (k9 n9 : Nat) (l0 : Option Nat) (l1 : Int32) (M : mM), wX14_digest_38 κ f k9 n9 l0 l1 M → m_W p l e ({ frames := 7, cells := 20, slots := 821, locals := 165 } : Room) s m args below meth c G b0 (MQ below (va_Ql κ (m_B G b0) (fun q => b0 ≤ q)) args s 20 821 (fun q => b0 ≤ q)) 3 M k9 n9 38 [(0, va_rf l0), (1, .int l1)] [] := by
  intro f
  induction f with
  | zero =>
    intro k9 n9 l0 l1 M h
    exact absurd h (by simp [wX14_digest_38])
  | succ f ih =>
    intro k9 n9 l0 l1 M h
    rw [wX14_digest_38] at h
    obtain ⟨hbk, h⟩ := h
    refine q_iload_n (pc := 38) C 1 1 dX14_digest_38 rfl rfl ?_
    refine q_bipush (pc := 39) C 6 dX14_digest_39 (by decide) ?_
    refine q_icmp_ge (pc := 41) C 75 dX14_digest_41 (by decide) (fun c1 => ?_) (fun c1 => ?_)
    · have h := h.1 c1
      refine q_iconst (pc := 75) C 0 dX14_digest_75 (by decide) ?_
      refine q_istore_n (pc := 76) C 1 [(1, .int 0), (0, va_rf l0)] dX14_digest_76 rfl (by decide) (by first | rfl | simp [q_cat, q_catI, q_catJ, q_catR, q_catN]) ?_
      refine q_lv [1, 0] rfl ?_
      obtain ⟨f9, h⟩ := h
      exact tX14_digest_77 C hr hlocks f9 _ _ _ _ _ h
    · have h := h.2 c1
      refine q_iconst (pc := 44) C 0 dX14_digest_44 (by decide) ?_
      refine q_istore_n (pc := 45) C 2 [(2, .int 0), (0, va_rf l0), (1, .int l1)] dX14_digest_45 rfl (by decide) (by first | rfl | simp [q_cat, q_catI, q_catJ, q_catR, q_catN]) ?_
      refine q_lv [1, 2, 0] rfl ?_
      obtain ⟨f9, h⟩ := h
      exact tX14_digest_46 C hr hlocks ih f9 _ _ _ _ _ _ h
set_option maxRecDepth 100000 in
set_option maxHeartbeats 4000000 in
theorem tX14_digest_14 {p : Program} {l : Launch} {e : Env} {s : State} {m : MethodId} {args : Array Value} {below : List Frame} {meth : Method} {c : Code} {G : mG} {b0 : Nat} (C : m_C p s m args c cX14_digest 3 RX14 wsX14_digest G b0) (hr : meth.sig.returnType = (some .long)) (hlocks : meth.locks = false) {κ : Int64 → mM → Prop} : ∀ (f : Nat) (k9 n9 : Nat) (l0 : Option Nat) (l1 : Int32) (M : mM), wX14_digest_14 κ f k9 n9 l0 l1 M → m_W p l e ({ frames := 7, cells := 20, slots := 821, locals := 165 } : Room) s m args below meth c G b0 (MQ below (va_Ql κ (m_B G b0) (fun q => b0 ≤ q)) args s 20 821 (fun q => b0 ≤ q)) 3 M k9 n9 14 [(0, va_rf l0), (1, .int l1)] [] := by
  intro f
  induction f with
  | zero =>
    intro k9 n9 l0 l1 M h
    exact absurd h (by simp [wX14_digest_14])
  | succ f ih =>
    intro k9 n9 l0 l1 M h
    rw [wX14_digest_14] at h
    obtain ⟨hbk, h⟩ := h
    refine q_iload_n (pc := 14) C 1 1 dX14_digest_14 rfl rfl ?_
    refine q_bipush (pc := 15) C 17 dX14_digest_15 (by decide) ?_
    refine q_icmp_ge (pc := 17) C 36 dX14_digest_17 (by decide) (fun c1 => ?_) (fun c1 => ?_)
    · have h := h.1 c1
      refine q_iconst (pc := 36) C 0 dX14_digest_36 (by decide) ?_
      refine q_istore_n (pc := 37) C 1 [(1, .int 0), (0, va_rf l0)] dX14_digest_37 rfl (by decide) (by first | rfl | simp [q_cat, q_catI, q_catJ, q_catR, q_catN]) ?_
      refine q_lv [1, 0] rfl ?_
      obtain ⟨f9, h⟩ := h
      exact tX14_digest_38 C hr hlocks f9 _ _ _ _ _ h
    · have h := h.2 c1
      refine q_aload_n (pc := 20) C 0 0 dX14_digest_20 rfl rfl ?_
      refine q_aload_n (pc := 21) C 0 0 dX14_digest_21 rfl rfl ?_
      refine q_iload_n (pc := 22) C 1 1 dX14_digest_22 rfl rfl ?_
      obtain ⟨hbk, h⟩ := h
      obtain ⟨b4, fs9, hb4, hm9, h⟩ := h
      refine q_ci (pc := 23) (q_rV C (st := [va_rf l0]) (b := b4) (kX14_nightNow l G b0 h) (cwV 1 C.2.2.2.2.1 gX14_digest_X14_nightNow rfl rfl rfl (by decide +kernel) ⟨Nat.le_of_ble_eq_true rfl, Nat.le_of_ble_eq_true rfl⟩) hm9 rfl rfl rfl (by first | exact Nat.le_of_ble_eq_true rfl | (simp [q_cat, q_catI, q_catJ, q_catR, q_catN]; done)) (by rw [hb4]; first | done | rfl) dX14_digest_23 ⟨(by first | omega | (dsimp only; omega)), (by first | omega | (dsimp only; omega))⟩) (fun x2 M3 h => ?_)
      refine q_i2l (pc := 26) C dX14_digest_26 ?_
      obtain ⟨b6, fs9, hb6, hm9, h⟩ := h
      refine q_cv (pc := 27) (q_rV C (st := []) (b := b6) (kX14_add l G b0 h) (cwV 1 C.2.2.2.2.1 gX14_digest_X14_add rfl rfl rfl (by decide +kernel) ⟨Nat.le_of_ble_eq_true rfl, Nat.le_of_ble_eq_true rfl⟩) hm9 rfl rfl rfl (by first | exact Nat.le_of_ble_eq_true rfl | (simp [q_cat, q_catI, q_catJ, q_catR, q_catN]; done)) (by rw [hb6]; first | done | rfl) dX14_digest_27 ⟨(by first | omega | (dsimp only; omega)), (by first | omega | (dsimp only; omega))⟩) (fun M5 h => ?_)
      refine q_iinc (pc := 30) C 1 1 (l1 + 1) [(1, .int (l1 + 1)), (0, va_rf l0)] dX14_digest_30 rfl (by rfl) (by decide) (by first | rfl | simp [q_cat, q_catI, q_catJ, q_catR, q_catN]) ?_
      refine q_goto (pc := 33) C 14 dX14_digest_33 (by decide) ?_
      refine q_lv [1, 0] rfl ?_
      exact ih _ _ _ _ _ h
set_option maxRecDepth 100000 in
set_option maxHeartbeats 4000000 in
theorem tX14_digest {p : Program} {l : Launch} {e : Env} {s : State} {m : MethodId} {args : Array Value} {below : List Frame} {meth : Method} {c : Code} {G : mG} {b0 : Nat} (C : m_C p s m args c cX14_digest 3 RX14 wsX14_digest G b0) (hr : meth.sig.returnType = (some .long)) (hlocks : meth.locks = false) {κ : Int64 → mM → Prop} {l0 : Option Nat} {M : mM} (h : wX14_digest κ l0 M) : m_W p l e ({ frames := 7, cells := 20, slots := 821, locals := 165 } : Room) s m args below meth c G b0 (MQ below (va_Ql κ (m_B G b0) (fun q => b0 ≤ q)) args s 20 821 (fun q => b0 ≤ q)) 3 M 0 0 0 [(0, va_rf l0)] [] := by
  unfold wX14_digest at h
  refine q_aload_n (pc := 0) C 0 0 dX14_digest_0 rfl rfl ?_
  refine q_iconst (pc := 1) C 0 dX14_digest_1 (by decide) ?_
  refine q_p (pc := 2) C h .int (T := TX14) tyX14 tyX14_ok nmX14 rfl (by decide +kernel) rfl rfl rfl (by decide) (wk_u bm_X14_digest wm_X14_digest uq_X14 (by decide +kernel)) (by decide +kernel) (fun _ h9 => h9) rfl dX14_digest_2 (fun M1 h => ?_)
  refine q_aload_n (pc := 5) C 0 0 dX14_digest_5 rfl rfl ?_
  refine q_ldc2 (pc := 6) C 6007 (by decide +kernel) dX14_digest_6 ?_
  refine q_p (pc := 9) C h .long (T := TX14) tyX14 tyX14_ok nmX14 rfl (by decide +kernel) rfl rfl rfl (by decide) (wk_u bm_X14_digest wm_X14_digest uq_X14 (by decide +kernel)) (by decide +kernel) (fun _ h9 => h9) rfl dX14_digest_9 (fun M2 h => ?_)
  refine q_iconst (pc := 12) C 0 dX14_digest_12 (by decide) ?_
  refine q_istore_n (pc := 13) C 1 [(1, .int 0), (0, va_rf l0)] dX14_digest_13 rfl (by decide) (by first | rfl | simp [q_cat, q_catI, q_catJ, q_catR, q_catN]) ?_
  refine q_lv [1, 0] rfl ?_
  obtain ⟨f9, h⟩ := h
  exact tX14_digest_14 C hr hlocks f9 _ _ _ _ _ h
set_option maxRecDepth 100000 in
set_option maxHeartbeats 4000000 in
theorem kX14_digest (l : Launch) (G : mG) (b0 : Nat) {b : Nat} {M : mM} {κ : Int64 → mM → Prop} (h : wX14_digest κ (some b) M) : Met l yX14_digest wsX14_digest ({ frames := 7, cells := 20, slots := 821, locals := 165 } : Room) (va_Pc [.ref b] (m_Pre G b0 M)) (va_Ql κ (m_B G b0) (fun q => b0 ≤ q)) 20 821 (fun q => b0 ≤ q) := by
  refine m_met (cc := cX14_digest) (maxL := 3) (ret := (some .long)) (lv := [(0, va_rf (some b))]) RX14 rfl (by decide +kernel) rfl (by first | exact Nat.le_of_ble_eq_true rfl | simp [lg_sl, q_cat, q_catI, q_catJ, q_catR, q_catN]) (by first | rfl | (simp [lv_args, q_cat, q_catI, q_catJ, q_catR, q_catN]; done) | (simp [lv_args, q_cat, q_catI, q_catJ, q_catR, q_catN]; rfl)) ?_
  intro p e s m args below meth c C hr hlocks hni
  exact tX14_digest C hr hlocks h
