/-! X14_catches -/
set_option maxRecDepth 100000 in
set_option maxHeartbeats 4000000 in
theorem tX14_catches_60 {p : Program} {l : Launch} {e : Env} {s : State} {m : MethodId} {args : Array Value} {below : List Frame} {meth : Method} {c : Code} {G : mG} {b0 : Nat} (C : m_C p s m args c cX14_catches 7 RX14 wsX14_catches G b0) (hr : meth.sig.returnType = (some (.array .int))) (hlocks : meth.locks = false) {κ : Option Nat → mM → Prop} {R27 : Option Nat → Int32 → Option Nat → Int32 → mM → Prop} (hR27 : ∀ (l0 : Option Nat) (l1 : Int32) (l2 : Option Nat) (l3 : Int32) (M : mM), R27 l0 l1 l2 l3 M → m_W p l e ({ frames := 5, cells := 1, slots := 729, locals := 110 } : Room) s m args below meth c G b0 (MQ below (va_Qq κ (m_B G b0) (fun q => b0 ≤ q)) args s 1 729 (fun q => b0 ≤ q)) 7 M 1 729 27 [(0, va_rf l0), (1, .int l1), (2, va_rf l2), (3, .int l3)] []) {R51 : Option Nat → Int32 → Option Nat → Int32 → Int32 → Int32 → mM → Prop} (hR51 : ∀ (l0 : Option Nat) (l1 : Int32) (l2 : Option Nat) (l3 : Int32) (l4 : Int32) (l5 : Int32) (M : mM), R51 l0 l1 l2 l3 l4 l5 M → m_W p l e ({ frames := 5, cells := 1, slots := 729, locals := 110 } : Room) s m args below meth c G b0 (MQ below (va_Qq κ (m_B G b0) (fun q => b0 ≤ q)) args s 1 729 (fun q => b0 ≤ q)) 7 M 1 729 51 [(0, va_rf l0), (1, .int l1), (2, va_rf l2), (3, .int l3), (4, .int l4), (5, .int l5)] []) : ∀ (f : Nat) (l0 : Option Nat) (l1 : Int32) (l2 : Option Nat) (l3 : Int32) (l4 : Int32) (l5 : Int32) (l6 : Int32) (M : mM), wX14_catches_60 κ R27 R51 f l0 l1 l2 l3 l4 l5 l6 M → m_W p l e ({ frames := 5, cells := 1, slots := 729, locals := 110 } : Room) s m args below meth c G b0 (MQ below (va_Qq κ (m_B G b0) (fun q => b0 ≤ q)) args s 1 729 (fun q => b0 ≤ q)) 7 M 1 729 60 [(0, va_rf l0), (1, .int l1), (2, va_rf l2), (3, .int l3), (4, .int l4), (5, .int l5), (6, .int l6)] [] := by
  intro f
  induction f with
  | zero =>
    intro l0 l1 l2 l3 l4 l5 l6 M h
    exact absurd h (by simp [wX14_catches_60])
  | succ f ih =>
    intro l0 l1 l2 l3 l4 l5 l6 M h
    rw [wX14_catches_60] at h
    refine q_iload (pc := 60) C 6 6 dX14_catches_60 rfl ?_
    refine q_bipush (pc := 62) C 10 dX14_catches_62 (by decide) ?_
    refine q_iload (pc := 64) C 5 5 dX14_catches_64 rfl ?_
    refine q_mmin (pc := 66) C (by decide +kernel) (by decide +kernel) (by decide +kernel) (by decide +kernel) (Nat.le_of_ble_eq_true rfl) (by first | exact Nat.le_of_ble_eq_true rfl | (simp [q_cat, q_catI, q_catJ, q_catR, q_catN]; done) | (simp [q_cat, q_catI, q_catJ, q_catR, q_catN]; decide)) (by first | omega | (dsimp only; omega)) (by first | omega | (dsimp only; omega)) dX14_catches_66 ?_
    refine m_stk (st2 := .int (m_min 10 l5) :: _) rfl ?_
    refine q_icmp_gt (pc := 69) C 119 dX14_catches_69 (by decide) (fun c1 => ?_) (fun c1 => ?_)
    · have h := h.1 c1
      refine q_iinc (pc := 119) C 5 5 (l5 + 1) [(5, .int (l5 + 1)), (0, va_rf l0), (1, .int l1), (2, va_rf l2), (3, .int l3), (4, .int l4), (6, .int l6)] dX14_catches_119 rfl (by rfl) (by decide) (by first | rfl | simp [q_cat, q_catI, q_catJ, q_catR, q_catN]) ?_
      refine q_goto (pc := 122) C 51 dX14_catches_122 (by decide) ?_
      refine q_widen (k2 := 1) (n2 := 729) (by omega) (by omega) ?_
      refine q_lv [1, 2, 3, 4, 5, 0] rfl ?_
      exact hR51 _ _ _ _ _ _ _ h
    · have h := h.2 c1
      refine q_aload_n (pc := 72) C 2 2 dX14_catches_72 rfl rfl ?_
      refine q_iload_n (pc := 73) C 3 3 dX14_catches_73 rfl rfl ?_
      refine q_iload_n (pc := 74) C 1 1 dX14_catches_74 rfl rfl ?_
      refine q_imul (pc := 75) C dX14_catches_75 ?_
      refine q_iload (pc := 76) C 5 5 dX14_catches_76 rfl ?_
      refine q_iadd (pc := 78) C dX14_catches_78 ?_
      refine q_aload_n (pc := 79) C 2 2 dX14_catches_79 rfl rfl ?_
      refine q_iload_n (pc := 80) C 3 3 dX14_catches_80 rfl rfl ?_
      refine q_iload_n (pc := 81) C 1 1 dX14_catches_81 rfl rfl ?_
      refine q_imul (pc := 82) C dX14_catches_82 ?_
      refine q_iload (pc := 83) C 5 5 dX14_catches_83 rfl ?_
      refine q_iadd (pc := 85) C dX14_catches_85 ?_
      refine q_iald (pc := 86) C h dX14_catches_86 (fun x2 h => ?_)
      refine q_iload (pc := 87) C 4 4 dX14_catches_87 rfl ?_
      refine q_iload (pc := 89) C 6 6 dX14_catches_89 rfl ?_
      refine q_imul (pc := 91) C dX14_catches_91 ?_
      refine q_bipush (pc := 92) C 10 dX14_catches_92 (by decide) ?_
      refine q_idiv (pc := 94) C dX14_catches_94 (by decide) ?_
      refine q_aload_n (pc := 95) C 2 2 dX14_catches_95 rfl rfl ?_
      refine q_iload_n (pc := 96) C 3 3 dX14_catches_96 rfl rfl ?_
      refine q_iconst (pc := 97) C 1 dX14_catches_97 (by decide) ?_
      refine q_iadd (pc := 98) C dX14_catches_98 ?_
      refine q_iload_n (pc := 99) C 1 1 dX14_catches_99 rfl rfl ?_
      refine q_imul (pc := 100) C dX14_catches_100 ?_
      refine q_iload (pc := 101) C 5 5 dX14_catches_101 rfl ?_
      refine q_iadd (pc := 103) C dX14_catches_103 ?_
      refine q_iload (pc := 104) C 6 6 dX14_catches_104 rfl ?_
      refine q_isub (pc := 106) C dX14_catches_106 ?_
      refine q_iald (pc := 107) C h dX14_catches_107 (fun x3 h => ?_)
      refine q_iadd (pc := 108) C dX14_catches_108 ?_
      refine q_mmax (pc := 109) C (by decide +kernel) (by decide +kernel) (by decide +kernel) (by decide +kernel) (Nat.le_of_ble_eq_true rfl) (by first | exact Nat.le_of_ble_eq_true rfl | (simp [q_cat, q_catI, q_catJ, q_catR, q_catN]; done) | (simp [q_cat, q_catI, q_catJ, q_catR, q_catN]; decide)) (by first | omega | (dsimp only; omega)) (by first | omega | (dsimp only; omega)) dX14_catches_109 ?_
      refine m_stk (st2 := .int (m_max x2 (((l4 * l6) / 10) + x3)) :: _) rfl ?_
      refine q_iast (pc := 112) C h dX14_catches_112 (fun M4 h => ?_)
      refine q_iinc (pc := 113) C 6 6 (l6 + 1) [(6, .int (l6 + 1)), (0, va_rf l0), (1, .int l1), (2, va_rf l2), (3, .int l3), (4, .int l4), (5, .int l5)] dX14_catches_113 rfl (by rfl) (by decide) (by first | rfl | simp [q_cat, q_catI, q_catJ, q_catR, q_catN]) ?_
      refine q_goto (pc := 116) C 60 dX14_catches_116 (by decide) ?_
      refine q_widen (k2 := 1) (n2 := 729) (by omega) (by omega) ?_
      refine q_lv [1, 2, 3, 4, 5, 6, 0] rfl ?_
      exact ih _ _ _ _ _ _ _ _ h
set_option maxRecDepth 100000 in
set_option maxHeartbeats 4000000 in
theorem tX14_catches_51 {p : Program} {l : Launch} {e : Env} {s : State} {m : MethodId} {args : Array Value} {below : List Frame} {meth : Method} {c : Code} {G : mG} {b0 : Nat} (C : m_C p s m args c cX14_catches 7 RX14 wsX14_catches G b0) (hr : meth.sig.returnType = (some (.array .int))) (hlocks : meth.locks = false) {κ : Option Nat → mM → Prop} {R27 : Option Nat → Int32 → Option Nat → Int32 → mM → Prop} (hR27 : ∀ (l0 : Option Nat) (l1 : Int32) (l2 : Option Nat) (l3 : Int32) (M : mM), R27 l0 l1 l2 l3 M → m_W p l e ({ frames := 5, cells := 1, slots := 729, locals := 110 } : Room) s m args below meth c G b0 (MQ below (va_Qq κ (m_B G b0) (fun q => b0 ≤ q)) args s 1 729 (fun q => b0 ≤ q)) 7 M 1 729 27 [(0, va_rf l0), (1, .int l1), (2, va_rf l2), (3, .int l3)] []) : ∀ (f : Nat) (l0 : Option Nat) (l1 : Int32) (l2 : Option Nat) (l3 : Int32) (l4 : Int32) (l5 : Int32) (M : mM), wX14_catches_51 κ R27 f l0 l1 l2 l3 l4 l5 M → m_W p l e ({ frames := 5, cells := 1, slots := 729, locals := 110 } : Room) s m args below meth c G b0 (MQ below (va_Qq κ (m_B G b0) (fun q => b0 ≤ q)) args s 1 729 (fun q => b0 ≤ q)) 7 M 1 729 51 [(0, va_rf l0), (1, .int l1), (2, va_rf l2), (3, .int l3), (4, .int l4), (5, .int l5)] [] := by
  intro f
  induction f with
  | zero =>
    intro l0 l1 l2 l3 l4 l5 M h
    exact absurd h (by simp [wX14_catches_51])
  | succ f ih =>
    intro l0 l1 l2 l3 l4 l5 M h
    rw [wX14_catches_51] at h
    refine q_iload (pc := 51) C 5 5 dX14_catches_51 rfl ?_
    refine q_iload_n (pc := 53) C 1 1 dX14_catches_53 rfl rfl ?_
    refine q_icmp_ge (pc := 54) C 125 dX14_catches_54 (by decide) (fun c1 => ?_) (fun c1 => ?_)
    · have h := h.1 c1
      refine q_iinc (pc := 125) C 3 3 (l3 + (-1)) [(3, .int (l3 + (-1))), (0, va_rf l0), (1, .int l1), (2, va_rf l2), (4, .int l4), (5, .int l5)] dX14_catches_125 rfl (by rfl) (by decide) (by first | rfl | simp [q_cat, q_catI, q_catJ, q_catR, q_catN]) ?_
      refine q_goto (pc := 128) C 27 dX14_catches_128 (by decide) ?_
      refine q_widen (k2 := 1) (n2 := 729) (by omega) (by omega) ?_
      refine q_lv [1, 2, 3, 0] rfl ?_
      exact hR27 _ _ _ _ _ h
    · have h := h.2 c1
      refine q_iconst (pc := 57) C 0 dX14_catches_57 (by decide) ?_
      refine q_istore (pc := 58) C 6 [(6, .int 0), (0, va_rf l0), (1, .int l1), (2, va_rf l2), (3, .int l3), (4, .int l4), (5, .int l5)] dX14_catches_58 (by decide) (by first | rfl | simp [q_cat, q_catI, q_catJ, q_catR, q_catN]) ?_
      refine q_widen (k2 := 1) (n2 := 729) (by omega) (by omega) ?_
      refine q_lv [1, 2, 3, 4, 5, 6, 0] rfl ?_
      obtain ⟨f9, h⟩ := h
      exact tX14_catches_60 C hr hlocks hR27 ih f9 _ _ _ _ _ _ _ _ h
set_option maxRecDepth 100000 in
set_option maxHeartbeats 4000000 in
theorem tX14_catches_27 {p : Program} {l : Launch} {e : Env} {s : State} {m : MethodId} {args : Array Value} {below : List Frame} {meth : Method} {c : Code} {G : mG} {b0 : Nat} (C : m_C p s m args c cX14_catches 7 RX14 wsX14_catches G b0) (hr : meth.sig.returnType = (some (.array .int))) (hlocks : meth.locks = false) {κ : Option Nat → mM → Prop} : ∀ (f : Nat) (l0 : Option Nat) (l1 : Int32) (l2 : Option Nat) (l3 : Int32) (M : mM), wX14_catches_27 κ f l0 l1 l2 l3 M → m_W p l e ({ frames := 5, cells := 1, slots := 729, locals := 110 } : Room) s m args below meth c G b0 (MQ below (va_Qq κ (m_B G b0) (fun q => b0 ≤ q)) args s 1 729 (fun q => b0 ≤ q)) 7 M 1 729 27 [(0, va_rf l0), (1, .int l1), (2, va_rf l2), (3, .int l3)] [] := by
  intro f
  induction f with
  | zero =>
    intro l0 l1 l2 l3 M h
    exact absurd h (by simp [wX14_catches_27])
  | succ f ih =>
    intro l0 l1 l2 l3 M h
    rw [wX14_catches_27] at h
    refine q_iload_n (pc := 27) C 3 3 dX14_catches_27 rfl rfl ?_
    refine q_if_lt (pc := 28) C 131 dX14_catches_28 (by decide) (fun c1 => ?_) (fun c1 => ?_)
    · have h := h.1 c1
      refine q_aload_n (pc := 131) C 2 2 dX14_catches_131 rfl rfl ?_
      exact q_aret (pc := 132) C hr (by first | exact Or.inl ⟨_, rfl⟩ | exact Or.inr ⟨_, rfl⟩) hlocks h dX14_catches_132 (by omega) (by omega)
    · have h := h.2 c1
      refine q_aload_n (pc := 31) C 0 0 dX14_catches_31 rfl rfl ?_
      refine q_aload_n (pc := 32) C 0 0 dX14_catches_32 rfl rfl ?_
      refine q_gR (pc := 33) C h (T := TX14) rfl (by decide) (wk_u rfl wm_X14_catches uq_X14 (by decide +kernel)) (by decide +kernel) (fun _ h9 => h9) dX14_catches_33 (fun x2 h => ?_)
      refine q_iload_n (pc := 36) C 3 3 dX14_catches_36 rfl rfl ?_
      obtain ⟨b5, fs9, hb5, hm9, h⟩ := h
      refine q_cq (pc := 37) (q_rV C (st := [va_rf l0]) (b := b5) (kJx4a65c_get_915e3 l G b0 h) (cwV 1 C.2.2.2.2.1 gX14_catches_Jx4a65c_get_915e3 rfl rfl rfl (by decide +kernel) ⟨Nat.le_of_ble_eq_true rfl, Nat.le_of_ble_eq_true rfl⟩) hm9 rfl rfl rfl (by first | exact Nat.le_of_ble_eq_true rfl | (simp [q_cat, q_catI, q_catJ, q_catR, q_catN]; done)) (by rw [hb5]; first | done | rfl) dX14_catches_37 ⟨(by first | omega | (dsimp only; omega)), (by first | omega | (dsimp only; omega))⟩) (fun x3 M4 h => ?_)
      refine q_cast (pc := 40) C h rfl rfl (by decide +kernel) dX14_catches_40 (fun h => ?_)
      obtain ⟨b8, fs9, hb8, hm9, h⟩ := h
      refine q_ci (pc := 43) (q_rV C (st := []) (b := b8) (kX14_hiddenWorth l G b0 h) (cwV 1 C.2.2.2.2.1 gX14_catches_X14_hiddenWorth rfl rfl rfl (by decide +kernel) ⟨Nat.le_of_ble_eq_true rfl, Nat.le_of_ble_eq_true rfl⟩) hm9 rfl rfl rfl (by first | exact Nat.le_of_ble_eq_true rfl | (simp [q_cat, q_catI, q_catJ, q_catR, q_catN]; done)) (by rw [hb8]; first | done | rfl) dX14_catches_43 ⟨(by first | omega | (dsimp only; omega)), (by first | omega | (dsimp only; omega))⟩) (fun x6 M7 h => ?_)
      refine q_istore (pc := 46) C 4 [(4, .int x6), (0, va_rf l0), (1, .int l1), (2, va_rf l2), (3, .int l3)] dX14_catches_46 (by decide) (by first | rfl | simp [q_cat, q_catI, q_catJ, q_catR, q_catN]) ?_
      refine q_iconst (pc := 48) C 0 dX14_catches_48 (by decide) ?_
      refine q_istore (pc := 49) C 5 [(5, .int 0), (4, .int x6), (0, va_rf l0), (1, .int l1), (2, va_rf l2), (3, .int l3)] dX14_catches_49 (by decide) (by first | rfl | simp [q_cat, q_catI, q_catJ, q_catR, q_catN]) ?_
      refine q_widen (k2 := 1) (n2 := 729) (by omega) (by omega) ?_
      refine q_lv [2, 3, 4, 5, 1, 0] rfl ?_
      obtain ⟨f9, h⟩ := h
      exact tX14_catches_51 C hr hlocks ih f9 _ _ _ _ _ _ _ h
set_option maxRecDepth 100000 in
set_option maxHeartbeats 4000000 in
theorem tX14_catches {p : Program} {l : Launch} {e : Env} {s : State} {m : MethodId} {args : Array Value} {below : List Frame} {meth : Method} {c : Code} {G : mG} {b0 : Nat} (C : m_C p s m args c cX14_catches 7 RX14 wsX14_catches G b0) (hr : meth.sig.returnType = (some (.array .int))) (hlocks : meth.locks = false) {κ : Option Nat → mM → Prop} {l0 : Option Nat} {M : mM} (h : wX14_catches κ l0 M) : m_W p l e ({ frames := 5, cells := 1, slots := 729, locals := 110 } : Room) s m args below meth c G b0 (MQ below (va_Qq κ (m_B G b0) (fun q => b0 ≤ q)) args s 1 729 (fun q => b0 ≤ q)) 7 M 0 0 0 [(0, va_rf l0)] [] := by
  unfold wX14_catches at h
  refine q_bipush (pc := 0) C 81 dX14_catches_0 (by decide) ?_
  refine q_istore_n (pc := 2) C 1 [(1, .int 81), (0, va_rf l0)] dX14_catches_2 rfl (by decide) (by first | rfl | simp [q_cat, q_catI, q_catJ, q_catR, q_catN]) ?_
  refine q_aload_n (pc := 3) C 0 1 dX14_catches_3 rfl rfl ?_
  refine q_gR (pc := 4) C h (T := TX14) rfl (by decide) (wk_u rfl wm_X14_catches uq_X14 (by decide +kernel)) (by decide +kernel) (fun _ h9 => h9) dX14_catches_4 (fun x1 h => ?_)
  obtain ⟨b4, fs9, hb4, hm9, h⟩ := h
  refine q_ci (pc := 7) (q_rV C (st := []) (b := b4) (kJx4a65c_size_8abf5 l G b0 h) (cwV 0 C.2.2.2.2.1 gX14_catches_Jx4a65c_size_8abf5 rfl rfl rfl (by decide +kernel) ⟨Nat.le_of_ble_eq_true rfl, Nat.le_of_ble_eq_true rfl⟩) hm9 rfl rfl rfl (by first | exact Nat.le_of_ble_eq_true rfl | (simp [q_cat, q_catI, q_catJ, q_catR, q_catN]; done)) (by rw [hb4]; first | done | rfl) dX14_catches_7 ⟨(by first | omega | (dsimp only; omega)), (by first | omega | (dsimp only; omega))⟩) (fun x2 M3 h => ?_)
  refine q_iconst (pc := 10) C 1 dX14_catches_10 (by decide) ?_
  refine q_iadd (pc := 11) C dX14_catches_11 ?_
  refine q_iload_n (pc := 12) C 1 0 dX14_catches_12 rfl rfl ?_
  refine q_imul (pc := 13) C dX14_catches_13 ?_
  refine q_newI (pc := 14) C h (ty := .int) rfl (ak := 0) rfl (by decide) (by decide) rfl (by decide) (fun _ => m_raI) (by decide +kernel) (by first | omega | (dsimp only; omega)) (by first | omega | (dsimp only; omega)) dX14_catches_14 (fun q5 M6 h => ?_)
  refine q_astore_n (pc := 16) C 2 [(2, va_rf (some q5)), (1, .int 81), (0, va_rf l0)] dX14_catches_16 rfl (by decide) (by first | rfl | simp [q_cat, q_catI, q_catJ, q_catR, q_catN]) ?_
  refine q_aload_n (pc := 17) C 0 2 dX14_catches_17 rfl rfl ?_
  refine q_gR (pc := 18) C h (T := TX14) rfl (by decide) (wk_u rfl wm_X14_catches uq_X14 (by decide +kernel)) (by decide +kernel) (fun _ h9 => h9) dX14_catches_18 (fun x7 h => ?_)
  obtain ⟨b10, fs9, hb10, hm9, h⟩ := h
  refine q_ci (pc := 21) (q_rV C (st := []) (b := b10) (kJx4a65c_size_8abf5 l G b0 h) (cwV 0 C.2.2.2.2.1 gX14_catches_Jx4a65c_size_8abf5 rfl rfl rfl (by decide +kernel) ⟨Nat.le_of_ble_eq_true rfl, Nat.le_of_ble_eq_true rfl⟩) hm9 rfl rfl rfl (by first | exact Nat.le_of_ble_eq_true rfl | (simp [q_cat, q_catI, q_catJ, q_catR, q_catN]; done)) (by rw [hb10]; first | done | rfl) dX14_catches_21 ⟨(by first | omega | (dsimp only; omega)), (by first | omega | (dsimp only; omega))⟩) (fun x8 M9 h => ?_)
  refine q_iconst (pc := 24) C 1 dX14_catches_24 (by decide) ?_
  refine q_isub (pc := 25) C dX14_catches_25 ?_
  refine q_istore_n (pc := 26) C 3 [(3, .int (x8 - 1)), (2, va_rf (some q5)), (1, .int 81), (0, va_rf l0)] dX14_catches_26 rfl (by decide) (by first | rfl | simp [q_cat, q_catI, q_catJ, q_catR, q_catN]) ?_
  refine q_widen (k2 := 1) (n2 := 729) (by omega) (by omega) ?_
  refine q_lv [3, 2, 1, 0] rfl ?_
  obtain ⟨f9, h⟩ := h
  exact tX14_catches_27 C hr hlocks f9 _ _ _ _ _ h
set_option maxRecDepth 100000 in
set_option maxHeartbeats 4000000 in
theorem kX14_catches (l : Launch) (G : mG) (b0 : Nat) {b : Nat} {M : mM} {κ : Option Nat → mM → Prop} (h : wX14_catches κ (some b) M) : Met l yX14_catches wsX14_catches ({ frames := 5, cells := 1, slots := 729, locals := 110 } : Room) (va_Pc [.ref b] (m_Pre G b0 M)) (va_Qq κ (m_B G b0) (fun q => b0 ≤ q)) 1 729 (fun q => b0 ≤ q) := by
  refine m_met (cc := cX14_catches) (maxL := 7) (ret := (some (.array .int))) (lv := [(0, va_rf (some b))]) RX14 rfl (by decide +kernel) rfl (by first | exact Nat.le_of_ble_eq_true rfl | simp [lg_sl, q_cat, q_catI, q_catJ, q_catR, q_catN]) (by first | rfl | (simp [lv_args, q_cat, q_catI, q_catJ, q_catR, q_catN]; done) | (simp [lv_args, q_cat, q_catI, q_catJ, q_catR, q_catN]; rfl)) ?_
  intro p e s m args below meth c C hr hlocks hni
  exact tX14_catches C hr hlocks h
/-! X14_planNow -/
set_option maxRecDepth 100000 in
set_option maxHeartbeats 4000000 in
theorem tX14_planNow_88 {p : Program} {l : Launch} {e : Env} {s : State} {m : MethodId} {args : Array Value} {below : List Frame} {meth : Method} {c : Code} {G : mG} {b0 : Nat} (C : m_C p s m args c cX14_planNow 10 RX14 wsX14_planNow G b0) (hr : meth.sig.returnType = (some .int)) (hlocks : meth.locks = false) {κ : Int32 → mM → Prop} {R55 : Option Nat → Int32 → Int32 → Option Nat → Int32 → Int32 → Int32 → mM → Prop} (hR55 : ∀ (l0 : Option Nat) (l2 : Int32) (l3 : Int32) (l4 : Option Nat) (l5 : Int32) (l6 : Int32) (l7 : Int32) (M : mM), R55 l0 l2 l3 l4 l5 l6 l7 M → m_W p l e ({ frames := 6, cells := 1, slots := 729, locals := 136 } : Room) s m args below meth c G b0 (MQ below (va_Qi κ (m_B G b0) (fun q => b0 ≤ q)) args s 1 729 (fun q => b0 ≤ q)) 10 M 1 729 55 [(0, va_rf l0), (2, .int l2), (3, .int l3), (4, va_rf l4), (5, .int l5), (6, .int l6), (7, .int l7)] []) : ∀ (f : Nat) (l0 : Option Nat) (l2 : Int32) (l3 : Int32) (l4 : Option Nat) (l5 : Int32) (l6 : Int32) (l7 : Int32) (l8 : Int32) (l9 : Int32) (M : mM), wX14_planNow_88 κ R55 f l0 l2 l3 l4 l5 l6 l7 l8 l9 M → m_W p l e ({ frames := 6, cells := 1, slots := 729, locals := 136 } : Room) s m args below meth c G b0 (MQ below (va_Qi κ (m_B G b0) (fun q => b0 ≤ q)) args s 1 729 (fun q => b0 ≤ q)) 10 M 1 729 88 [(0, va_rf l0), (2, .int l2), (3, .int l3), (4, va_rf l4), (5, .int l5), (6, .int l6), (7, .int l7), (8, .int l8), (9, .int l9)] [] := by
  intro f
  induction f with
  | zero =>
    intro l0 l2 l3 l4 l5 l6 l7 l8 l9 M h
    exact absurd h (by simp [wX14_planNow_88])
  | succ f ih =>
    intro l0 l2 l3 l4 l5 l6 l7 l8 l9 M h
    rw [wX14_planNow_88] at h
    refine q_iload (pc := 88) C 8 7 dX14_planNow_88 rfl ?_
    refine q_iload (pc := 90) C 9 8 dX14_planNow_90 rfl ?_
    refine q_imul (pc := 92) C dX14_planNow_92 ?_
    refine q_bipush (pc := 93) C 10 dX14_planNow_93 (by decide) ?_
    refine q_idiv (pc := 95) C dX14_planNow_95 (by decide) ?_
    refine q_aload (pc := 96) C 4 3 dX14_planNow_96 rfl ?_
    refine q_iload (pc := 98) C 7 6 dX14_planNow_98 rfl ?_
    refine q_iconst (pc := 100) C 1 dX14_planNow_100 (by decide) ?_
    refine q_iadd (pc := 101) C dX14_planNow_101 ?_
    refine q_iload_n (pc := 102) C 3 2 dX14_planNow_102 rfl rfl ?_
    refine q_imul (pc := 103) C dX14_planNow_103 ?_
    refine q_iload (pc := 104) C 5 4 dX14_planNow_104 rfl ?_
    refine q_iadd (pc := 106) C dX14_planNow_106 ?_
    refine q_iload (pc := 107) C 9 8 dX14_planNow_107 rfl ?_
    refine q_isub (pc := 109) C dX14_planNow_109 ?_
    refine q_iald (pc := 110) C h dX14_planNow_110 (fun x1 h => ?_)
    refine q_iadd (pc := 111) C dX14_planNow_111 ?_
    refine q_iload (pc := 112) C 6 5 dX14_planNow_112 rfl ?_
    refine q_icmp_ge (pc := 114) C 123 dX14_planNow_114 (by decide) (fun c2 => ?_) (fun c2 => ?_)
    · have h := h.1 c2
      refine q_iload (pc := 123) C 7 6 dX14_planNow_123 rfl ?_
      refine q_iload_n (pc := 125) C 2 1 dX14_planNow_125 rfl rfl ?_
      refine q_icmp_ne (pc := 126) C 132 dX14_planNow_126 (by decide) (fun c3 => ?_) (fun c3 => ?_)
      · have h := h.2 c3
        refine q_iload (pc := 132) C 5 4 dX14_planNow_132 rfl ?_
        refine q_iload (pc := 134) C 9 8 dX14_planNow_134 rfl ?_
        refine q_isub (pc := 136) C dX14_planNow_136 ?_
        refine q_istore (pc := 137) C 5 [(5, .int (l5 - l9)), (0, va_rf l0), (2, .int l2), (3, .int l3), (4, va_rf l4), (6, .int l6), (7, .int l7), (8, .int l8), (9, .int l9)] dX14_planNow_137 (by decide) (by first | rfl | simp [q_cat, q_catI, q_catJ, q_catR, q_catN]) ?_
        refine q_iload (pc := 139) C 6 5 dX14_planNow_139 rfl ?_
        refine q_iload (pc := 141) C 8 7 dX14_planNow_141 rfl ?_
        refine q_iload (pc := 143) C 9 8 dX14_planNow_143 rfl ?_
        refine q_imul (pc := 145) C dX14_planNow_145 ?_
        refine q_bipush (pc := 146) C 10 dX14_planNow_146 (by decide) ?_
        refine q_idiv (pc := 148) C dX14_planNow_148 (by decide) ?_
        refine q_isub (pc := 149) C dX14_planNow_149 ?_
        refine q_istore (pc := 150) C 6 [(6, .int (l6 - ((l8 * l9) / 10))), (5, .int (l5 - l9)), (0, va_rf l0), (2, .int l2), (3, .int l3), (4, va_rf l4), (7, .int l7), (8, .int l8), (9, .int l9)] dX14_planNow_150 (by decide) (by first | rfl | simp [q_cat, q_catI, q_catJ, q_catR, q_catN]) ?_
        refine q_iinc (pc := 152) C 7 6 (l7 + 1) [(7, .int (l7 + 1)), (6, .int (l6 - ((l8 * l9) / 10))), (5, .int (l5 - l9)), (0, va_rf l0), (2, .int l2), (3, .int l3), (4, va_rf l4), (8, .int l8), (9, .int l9)] dX14_planNow_152 rfl (by rfl) (by decide) (by first | rfl | simp [q_cat, q_catI, q_catJ, q_catR, q_catN]) ?_
        refine q_goto (pc := 155) C 55 dX14_planNow_155 (by decide) ?_
        refine q_widen (k2 := 1) (n2 := 729) (by omega) (by omega) ?_
        refine q_lv [3, 4, 5, 6, 2, 1, 0] rfl ?_
        exact hR55 _ _ _ _ _ _ _ _ h
      · have h := h.1 c3
        refine q_iload (pc := 129) C 9 8 dX14_planNow_129 rfl ?_
        exact q_iret (pc := 131) C hr hlocks h dX14_planNow_131 (by omega) (by omega)
    · have h := h.2 c2
      refine q_iinc (pc := 117) C 9 8 (l9 + 1) [(9, .int (l9 + 1)), (0, va_rf l0), (2, .int l2), (3, .int l3), (4, va_rf l4), (5, .int l5), (6, .int l6), (7, .int l7), (8, .int l8)] dX14_planNow_117 rfl (by rfl) (by decide) (by first | rfl | simp [q_cat, q_catI, q_catJ, q_catR, q_catN]) ?_
      refine q_goto (pc := 120) C 88 dX14_planNow_120 (by decide) ?_
      refine q_widen (k2 := 1) (n2 := 729) (by omega) (by omega) ?_
      refine q_lv [1, 2, 3, 4, 5, 6, 7, 8, 0] rfl ?_
      exact ih _ _ _ _ _ _ _ _ _ _ h
set_option maxRecDepth 100000 in
set_option maxHeartbeats 4000000 in
theorem tX14_planNow_55 {p : Program} {l : Launch} {e : Env} {s : State} {m : MethodId} {args : Array Value} {below : List Frame} {meth : Method} {c : Code} {G : mG} {b0 : Nat} (C : m_C p s m args c cX14_planNow 10 RX14 wsX14_planNow G b0) (hr : meth.sig.returnType = (some .int)) (hlocks : meth.locks = false) {κ : Int32 → mM → Prop} : ∀ (f : Nat) (l0 : Option Nat) (l2 : Int32) (l3 : Int32) (l4 : Option Nat) (l5 : Int32) (l6 : Int32) (l7 : Int32) (M : mM), wX14_planNow_55 κ f l0 l2 l3 l4 l5 l6 l7 M → m_W p l e ({ frames := 6, cells := 1, slots := 729, locals := 136 } : Room) s m args below meth c G b0 (MQ below (va_Qi κ (m_B G b0) (fun q => b0 ≤ q)) args s 1 729 (fun q => b0 ≤ q)) 10 M 1 729 55 [(0, va_rf l0), (2, .int l2), (3, .int l3), (4, va_rf l4), (5, .int l5), (6, .int l6), (7, .int l7)] [] := by
  intro f
  induction f with
  | zero =>
    intro l0 l2 l3 l4 l5 l6 l7 M h
    exact absurd h (by simp [wX14_planNow_55])
  | succ f ih =>
    intro l0 l2 l3 l4 l5 l6 l7 M h
    rw [wX14_planNow_55] at h
    refine q_iload (pc := 55) C 7 6 dX14_planNow_55 rfl ?_
    refine q_aload_n (pc := 57) C 0 0 dX14_planNow_57 rfl rfl ?_
    refine q_gR (pc := 58) C h (T := TX14) rfl (by decide) (wk_u rfl wm_X14_planNow uq_X14 (by decide +kernel)) (by decide +kernel) (fun _ h9 => h9) dX14_planNow_58 (fun x1 h => ?_)
    obtain ⟨b4, fs9, hb4, hm9, h⟩ := h
    refine q_ci (pc := 61) (q_rV C (st := [.int l7]) (b := b4) (kJx4a65c_size_8abf5 l G b0 h) (cwV 0 C.2.2.2.2.1 gX14_planNow_Jx4a65c_size_8abf5 rfl rfl rfl (by decide +kernel) ⟨Nat.le_of_ble_eq_true rfl, Nat.le_of_ble_eq_true rfl⟩) hm9 rfl rfl rfl (by first | exact Nat.le_of_ble_eq_true rfl | (simp [q_cat, q_catI, q_catJ, q_catR, q_catN]; done)) (by rw [hb4]; first | done | rfl) dX14_planNow_61 ⟨(by first | omega | (dsimp only; omega)), (by first | omega | (dsimp only; omega))⟩) (fun x2 M3 h => ?_)
    refine q_icmp_ge (pc := 64) C 158 dX14_planNow_64 (by decide) (fun c5 => ?_) (fun c5 => ?_)
    · have h := h.1 c5
      refine q_iconst (pc := 158) C (-1) dX14_planNow_158 (by decide) ?_
      exact q_iret (pc := 159) C hr hlocks h dX14_planNow_159 (by omega) (by omega)
    · have h := h.2 c5
      refine q_aload_n (pc := 67) C 0 0 dX14_planNow_67 rfl rfl ?_
      refine q_aload_n (pc := 68) C 0 0 dX14_planNow_68 rfl rfl ?_
      refine q_gR (pc := 69) C h (T := TX14) rfl (by decide) (wk_u rfl wm_X14_planNow uq_X14 (by decide +kernel)) (by decide +kernel) (fun _ h9 => h9) dX14_planNow_69 (fun x6 h => ?_)
      refine q_iload (pc := 72) C 7 6 dX14_planNow_72 rfl ?_
      obtain ⟨b9, fs9, hb9, hm9, h⟩ := h
      refine q_cq (pc := 74) (q_rV C (st := [va_rf l0]) (b := b9) (kJx4a65c_get_915e3 l G b0 h) (cwV 1 C.2.2.2.2.1 gX14_planNow_Jx4a65c_get_915e3 rfl rfl rfl (by decide +kernel) ⟨Nat.le_of_ble_eq_true rfl, Nat.le_of_ble_eq_true rfl⟩) hm9 rfl rfl rfl (by first | exact Nat.le_of_ble_eq_true rfl | (simp [q_cat, q_catI, q_catJ, q_catR, q_catN]; done)) (by rw [hb9]; first | done | rfl) dX14_planNow_74 ⟨(by first | omega | (dsimp only; omega)), (by first | omega | (dsimp only; omega))⟩) (fun x7 M8 h => ?_)
      refine q_cast (pc := 77) C h rfl rfl (by decide +kernel) dX14_planNow_77 (fun h => ?_)
      obtain ⟨b12, fs9, hb12, hm9, h⟩ := h
      refine q_ci (pc := 80) (q_rV C (st := []) (b := b12) (kX14_hiddenWorth l G b0 h) (cwV 1 C.2.2.2.2.1 gX14_planNow_X14_hiddenWorth rfl rfl rfl (by decide +kernel) ⟨Nat.le_of_ble_eq_true rfl, Nat.le_of_ble_eq_true rfl⟩) hm9 rfl rfl rfl (by first | exact Nat.le_of_ble_eq_true rfl | (simp [q_cat, q_catI, q_catJ, q_catR, q_catN]; done)) (by rw [hb12]; first | done | rfl) dX14_planNow_80 ⟨(by first | omega | (dsimp only; omega)), (by first | omega | (dsimp only; omega))⟩) (fun x10 M11 h => ?_)
      refine q_istore (pc := 83) C 8 [(8, .int x10), (0, va_rf l0), (2, .int l2), (3, .int l3), (4, va_rf l4), (5, .int l5), (6, .int l6), (7, .int l7)] dX14_planNow_83 (by decide) (by first | rfl | simp [q_cat, q_catI, q_catJ, q_catR, q_catN]) ?_
      refine q_iconst (pc := 85) C 0 dX14_planNow_85 (by decide) ?_
      refine q_istore (pc := 86) C 9 [(9, .int 0), (8, .int x10), (0, va_rf l0), (2, .int l2), (3, .int l3), (4, va_rf l4), (5, .int l5), (6, .int l6), (7, .int l7)] dX14_planNow_86 (by decide) (by first | rfl | simp [q_cat, q_catI, q_catJ, q_catR, q_catN]) ?_
      refine q_widen (k2 := 1) (n2 := 729) (by omega) (by omega) ?_
      refine q_lv [2, 3, 4, 5, 6, 7, 8, 1, 0] rfl ?_
      obtain ⟨f9, h⟩ := h
      exact tX14_planNow_88 C hr hlocks ih f9 _ _ _ _ _ _ _ _ _ _ h
set_option maxRecDepth 100000 in
set_option maxHeartbeats 4000000 in
theorem tX14_planNow_33 {p : Program} {l : Launch} {e : Env} {s : State} {m : MethodId} {args : Array Value} {below : List Frame} {meth : Method} {c : Code} {G : mG} {b0 : Nat} (C : m_C p s m args c cX14_planNow 10 RX14 wsX14_planNow G b0) (hr : meth.sig.returnType = (some .int)) (hlocks : meth.locks = false) {κ : Int32 → mM → Prop} {l0 : Option Nat} {l1 : Int32} {l2 : Int32} {l3 : Int32} {l4 : Option Nat} {l5 : Int32} {M : mM} (h : wX14_planNow_33 κ l0 l1 l2 l3 l4 l5 M) : m_W p l e ({ frames := 6, cells := 1, slots := 729, locals := 136 } : Room) s m args below meth c G b0 (MQ below (va_Qi κ (m_B G b0) (fun q => b0 ≤ q)) args s 1 729 (fun q => b0 ≤ q)) 10 M 1 729 33 [(0, va_rf l0), (1, .int l1), (2, .int l2), (3, .int l3), (4, va_rf l4), (5, .int l5)] [] := by
  unfold wX14_planNow_33 at h
  refine q_iload (pc := 33) C 5 5 dX14_planNow_33 rfl ?_
  refine q_iload_n (pc := 35) C 3 3 dX14_planNow_35 rfl rfl ?_
  refine q_icmp_ne (pc := 36) C 41 dX14_planNow_36 (by decide) (fun c1 => ?_) (fun c1 => ?_)
  · have h := h.2 c1
    refine q_iload_n (pc := 41) C 2 2 dX14_planNow_41 rfl rfl ?_
    refine q_iconst (pc := 42) C (-1) dX14_planNow_42 (by decide) ?_
    refine q_icmp_ne (pc := 43) C 49 dX14_planNow_43 (by decide) (fun c2 => ?_) (fun c2 => ?_)
    · have h := h.2 c2
      refine q_iload_n (pc := 49) C 1 1 dX14_planNow_49 rfl rfl ?_
      refine q_istore (pc := 50) C 6 [(6, .int l1), (0, va_rf l0), (1, .int l1), (2, .int l2), (3, .int l3), (4, va_rf l4), (5, .int l5)] dX14_planNow_50 (by decide) (by first | rfl | simp [q_cat, q_catI, q_catJ, q_catR, q_catN]) ?_
      refine q_iconst (pc := 52) C 0 dX14_planNow_52 (by decide) ?_
      refine q_istore (pc := 53) C 7 [(7, .int 0), (6, .int l1), (0, va_rf l0), (1, .int l1), (2, .int l2), (3, .int l3), (4, va_rf l4), (5, .int l5)] dX14_planNow_53 (by decide) (by first | rfl | simp [q_cat, q_catI, q_catJ, q_catR, q_catN]) ?_
      refine q_widen (k2 := 1) (n2 := 729) (by omega) (by omega) ?_
      refine q_lv [2, 4, 5, 6, 7, 1, 0] rfl ?_
      obtain ⟨f9, h⟩ := h
      exact tX14_planNow_55 C hr hlocks f9 _ _ _ _ _ _ _ _ h
    · have h := h.1 c2
      refine q_iload (pc := 46) C 5 5 dX14_planNow_46 rfl ?_
      exact q_iret (pc := 48) C hr hlocks h dX14_planNow_48 (by omega) (by omega)
  · have h := h.1 c1
    refine q_iconst (pc := 39) C (-1) dX14_planNow_39 (by decide) ?_
    exact q_iret (pc := 40) C hr hlocks h dX14_planNow_40 (by omega) (by omega)
set_option maxRecDepth 100000 in
set_option maxHeartbeats 4000000 in
theorem tX14_planNow_12 {p : Program} {l : Launch} {e : Env} {s : State} {m : MethodId} {args : Array Value} {below : List Frame} {meth : Method} {c : Code} {G : mG} {b0 : Nat} (C : m_C p s m args c cX14_planNow 10 RX14 wsX14_planNow G b0) (hr : meth.sig.returnType = (some .int)) (hlocks : meth.locks = false) {κ : Int32 → mM → Prop} : ∀ (f : Nat) (l0 : Option Nat) (l1 : Int32) (l2 : Int32) (l3 : Int32) (l4 : Option Nat) (l5 : Int32) (M : mM), wX14_planNow_12 κ f l0 l1 l2 l3 l4 l5 M → m_W p l e ({ frames := 6, cells := 1, slots := 729, locals := 136 } : Room) s m args below meth c G b0 (MQ below (va_Qi κ (m_B G b0) (fun q => b0 ≤ q)) args s 1 729 (fun q => b0 ≤ q)) 10 M 1 729 12 [(0, va_rf l0), (1, .int l1), (2, .int l2), (3, .int l3), (4, va_rf l4), (5, .int l5)] [] := by
  intro f
  induction f with
  | zero =>
    intro l0 l1 l2 l3 l4 l5 M h
    exact absurd h (by simp [wX14_planNow_12])
  | succ f ih =>
    intro l0 l1 l2 l3 l4 l5 M h
    rw [wX14_planNow_12] at h
    refine q_iload (pc := 12) C 5 5 dX14_planNow_12 rfl ?_
    refine q_iload_n (pc := 14) C 3 3 dX14_planNow_14 rfl rfl ?_
    refine q_icmp_ge (pc := 15) C 33 dX14_planNow_15 (by decide) (fun c1 => ?_) (fun c1 => ?_)
    · have h := h.1 c1
      refine q_widen (k2 := 1) (n2 := 729) (by omega) (by omega) ?_
      refine q_lv [0, 1, 2, 3, 4, 5] rfl ?_
      exact tX14_planNow_33 C hr hlocks h
    · have h := h.2 c1
      refine q_aload (pc := 18) C 4 4 dX14_planNow_18 rfl ?_
      refine q_iload (pc := 20) C 5 5 dX14_planNow_20 rfl ?_
      refine q_iald (pc := 22) C h dX14_planNow_22 (fun x2 h => ?_)
      refine q_iload_n (pc := 23) C 1 1 dX14_planNow_23 rfl rfl ?_
      refine q_icmp_ge (pc := 24) C 33 dX14_planNow_24 (by decide) (fun c3 => ?_) (fun c3 => ?_)
      · have h := h.1 c3
        refine q_widen (k2 := 1) (n2 := 729) (by omega) (by omega) ?_
        refine q_lv [0, 1, 2, 3, 4, 5] rfl ?_
        exact tX14_planNow_33 C hr hlocks h
      · have h := h.2 c3
        refine q_iinc (pc := 27) C 5 5 (l5 + 1) [(5, .int (l5 + 1)), (0, va_rf l0), (1, .int l1), (2, .int l2), (3, .int l3), (4, va_rf l4)] dX14_planNow_27 rfl (by rfl) (by decide) (by first | rfl | simp [q_cat, q_catI, q_catJ, q_catR, q_catN]) ?_
        refine q_goto (pc := 30) C 12 dX14_planNow_30 (by decide) ?_
        refine q_widen (k2 := 1) (n2 := 729) (by omega) (by omega) ?_
        refine q_lv [1, 2, 3, 4, 5, 0] rfl ?_
        exact ih _ _ _ _ _ _ _ h
set_option maxRecDepth 100000 in
set_option maxHeartbeats 4000000 in
theorem tX14_planNow {p : Program} {l : Launch} {e : Env} {s : State} {m : MethodId} {args : Array Value} {below : List Frame} {meth : Method} {c : Code} {G : mG} {b0 : Nat} (C : m_C p s m args c cX14_planNow 10 RX14 wsX14_planNow G b0) (hr : meth.sig.returnType = (some .int)) (hlocks : meth.locks = false) {κ : Int32 → mM → Prop} {l0 : Option Nat} {l1 : Int32} {l2 : Int32} {M : mM} (h : wX14_planNow κ l0 l1 l2 M) : m_W p l e ({ frames := 6, cells := 1, slots := 729, locals := 136 } : Room) s m args below meth c G b0 (MQ below (va_Qi κ (m_B G b0) (fun q => b0 ≤ q)) args s 1 729 (fun q => b0 ≤ q)) 10 M 0 0 0 [(0, va_rf l0), (1, .int l1), (2, .int l2)] [] := by
  unfold wX14_planNow at h
  refine q_bipush (pc := 0) C 81 dX14_planNow_0 (by decide) ?_
  refine q_istore_n (pc := 2) C 3 [(3, .int 81), (0, va_rf l0), (1, .int l1), (2, .int l2)] dX14_planNow_2 rfl (by decide) (by first | rfl | simp [q_cat, q_catI, q_catJ, q_catR, q_catN]) ?_
  refine q_aload_n (pc := 3) C 0 1 dX14_planNow_3 rfl rfl ?_
  obtain ⟨b3, fs9, hb3, hm9, h⟩ := h
  refine q_cq (pc := 4) (q_rV C (st := []) (b := b3) (kX14_catches l G b0 h) (cwV 0 C.2.2.2.2.1 gX14_planNow_X14_catches rfl rfl rfl (by decide +kernel) ⟨Nat.le_of_ble_eq_true rfl, Nat.le_of_ble_eq_true rfl⟩) hm9 rfl rfl rfl (by first | exact Nat.le_of_ble_eq_true rfl | (simp [q_cat, q_catI, q_catJ, q_catR, q_catN]; done)) (by rw [hb3]; first | done | rfl) dX14_planNow_4 ⟨(by first | omega | (dsimp only; omega)), (by first | omega | (dsimp only; omega))⟩) (fun x1 M2 h => ?_)
  refine q_astore (pc := 7) C 4 [(4, va_rf x1), (3, .int 81), (0, va_rf l0), (1, .int l1), (2, .int l2)] dX14_planNow_7 (by decide) (by first | rfl | simp [q_cat, q_catI, q_catJ, q_catR, q_catN]) ?_
  refine q_iconst (pc := 9) C 0 dX14_planNow_9 (by decide) ?_
  refine q_istore (pc := 10) C 5 [(5, .int 0), (4, va_rf x1), (3, .int 81), (0, va_rf l0), (1, .int l1), (2, .int l2)] dX14_planNow_10 (by decide) (by first | rfl | simp [q_cat, q_catI, q_catJ, q_catR, q_catN]) ?_
  refine q_widen (k2 := 1) (n2 := 729) (by omega) (by omega) ?_
  refine q_lv [3, 4, 5, 2, 1, 0] rfl ?_
  obtain ⟨f9, h⟩ := h
  exact tX14_planNow_12 C hr hlocks f9 _ _ _ _ _ _ _ h
set_option maxRecDepth 100000 in
set_option maxHeartbeats 4000000 in
theorem kX14_planNow (l : Launch) (G : mG) (b0 : Nat) {b : Nat} {l1 : Int32} {l2 : Int32} {M : mM} {κ : Int32 → mM → Prop} (h : wX14_planNow κ (some b) l1 l2 M) : Met l yX14_planNow wsX14_planNow ({ frames := 6, cells := 1, slots := 729, locals := 136 } : Room) (va_Pc [.ref b, .int l1, .int l2] (m_Pre G b0 M)) (va_Qi κ (m_B G b0) (fun q => b0 ≤ q)) 1 729 (fun q => b0 ≤ q) := by
  refine m_met (cc := cX14_planNow) (maxL := 10) (ret := (some .int)) (lv := [(0, va_rf (some b)), (1, .int l1), (2, .int l2)]) RX14 rfl (by decide +kernel) rfl (by first | exact Nat.le_of_ble_eq_true rfl | simp [lg_sl, q_cat, q_catI, q_catJ, q_catR, q_catN]) (by first | rfl | (simp [lv_args, q_cat, q_catI, q_catJ, q_catR, q_catN]; done) | (simp [lv_args, q_cat, q_catI, q_catJ, q_catR, q_catN]; rfl)) ?_
  intro p e s m args below meth c C hr hlocks hni
  exact tX14_planNow C hr hlocks h
/-! X14_plan -/
set_option maxRecDepth 100000 in
set_option maxHeartbeats 4000000 in
theorem tX14_plan_24 {p : Program} {l : Launch} {e : Env} {s : State} {m : MethodId} {args : Array Value} {below : List Frame} {meth : Method} {c : Code} {G : mG} {b0 : Nat} (C : m_C p s m args c cX14_plan 3 RX14 wsX14_plan G b0) (hr : meth.sig.returnType = (some .int)) (hlocks : meth.locks = false) {κ : Int32 → mM → Prop} {l0 : Option Nat} {l1 : Int32} {l2 : Int32} {M : mM} (h : wX14_plan_24 κ l0 l1 l2 M) : m_W p l e ({ frames := 7, cells := 1, slots := 729, locals := 165 } : Room) s m args below meth c G b0 (MQ below (va_Qi κ (m_B G b0) (fun q => b0 ≤ q)) args s 1 729 (fun q => b0 ≤ q)) 3 M 0 0 24 [(0, va_rf l0), (1, .int l1), (2, .int l2)] [] := by
  unfold wX14_plan_24 at h
  refine q_iload_n (pc := 24) C 1 1 dX14_plan_24 rfl rfl ?_
  refine q_iconst (pc := 25) C 0 dX14_plan_25 (by decide) ?_
  refine q_sipush (pc := 26) C 2000 dX14_plan_26 (by decide) ?_
  refine q_ci (pc := 29) (q_rS C (st := []) (kX14_is l G b0 h) (va_cwS 3 C.2.2.2.2.1 gX14_plan_X14_is rfl rfl rfl (by decide +kernel) ⟨Nat.le_of_ble_eq_true rfl, Nat.le_of_ble_eq_true rfl⟩) rfl (by first | exact Nat.le_of_ble_eq_true rfl | (simp [q_cat, q_catI, q_catJ, q_catR, q_catN]; done)) rfl dX14_plan_29 ⟨(by first | omega | (dsimp only; omega)), (by first | omega | (dsimp only; omega))⟩) (fun x1 M2 h => ?_)
  refine q_if_eq (pc := 32) C 44 dX14_plan_32 (by decide) (fun c3 => ?_) (fun c3 => ?_)
  · have h := h.1 c3
    refine q_aload_n (pc := 44) C 0 0 dX14_plan_44 rfl rfl ?_
    refine q_iconst (pc := 45) C 2 dX14_plan_45 (by decide) ?_
    obtain ⟨b6, fs9, hb6, hm9, h⟩ := h
    refine q_ci (pc := 46) (q_rV C (st := []) (b := b6) (kX14_refuse l G b0 h) (cwV 1 C.2.2.2.2.1 gX14_plan_X14_refuse rfl rfl rfl (by decide +kernel) ⟨Nat.le_of_ble_eq_true rfl, Nat.le_of_ble_eq_true rfl⟩) hm9 rfl rfl rfl (by first | exact Nat.le_of_ble_eq_true rfl | (simp [q_cat, q_catI, q_catJ, q_catR, q_catN]; done)) (by rw [hb6]; first | done | rfl) dX14_plan_46 ⟨(by first | omega | (dsimp only; omega)), (by first | omega | (dsimp only; omega))⟩) (fun x4 M5 h => ?_)
    exact q_iret (pc := 49) C hr hlocks h dX14_plan_49 (by omega) (by omega)
  · have h := h.2 c3
    refine q_aload_n (pc := 35) C 0 0 dX14_plan_35 rfl rfl ?_
    refine q_iload_n (pc := 36) C 1 1 dX14_plan_36 rfl rfl ?_
    refine q_iload_n (pc := 37) C 2 2 dX14_plan_37 rfl rfl ?_
    obtain ⟨b9, fs9, hb9, hm9, h⟩ := h
    refine q_ci (pc := 38) (q_rV C (st := []) (b := b9) (kX14_planNow l G b0 h) (cwV 2 C.2.2.2.2.1 gX14_plan_X14_planNow rfl rfl rfl (by decide +kernel) ⟨Nat.le_of_ble_eq_true rfl, Nat.le_of_ble_eq_true rfl⟩) hm9 rfl rfl rfl (by first | exact Nat.le_of_ble_eq_true rfl | (simp [q_cat, q_catI, q_catJ, q_catR, q_catN]; done)) (by rw [hb9]; first | done | rfl) dX14_plan_38 ⟨(by first | omega | (dsimp only; omega)), (by first | omega | (dsimp only; omega))⟩) (fun x7 M8 h => ?_)
    refine q_goto (pc := 41) C 49 dX14_plan_41 (by decide) ?_
    exact q_iret (pc := 49) C hr hlocks h dX14_plan_49 (by omega) (by omega)
set_option maxRecDepth 100000 in
set_option maxHeartbeats 4000000 in
theorem tX14_plan {p : Program} {l : Launch} {e : Env} {s : State} {m : MethodId} {args : Array Value} {below : List Frame} {meth : Method} {c : Code} {G : mG} {b0 : Nat} (C : m_C p s m args c cX14_plan 3 RX14 wsX14_plan G b0) (hr : meth.sig.returnType = (some .int)) (hlocks : meth.locks = false) {κ : Int32 → mM → Prop} {l0 : Option Nat} {l1 : Int32} {l2 : Int32} {M : mM} (h : wX14_plan κ l0 l1 l2 M) : m_W p l e ({ frames := 7, cells := 1, slots := 729, locals := 165 } : Room) s m args below meth c G b0 (MQ below (va_Qi κ (m_B G b0) (fun q => b0 ≤ q)) args s 1 729 (fun q => b0 ≤ q)) 3 M 0 0 0 [(0, va_rf l0), (1, .int l1), (2, .int l2)] [] := by
  unfold wX14_plan at h
  refine q_aload_n (pc := 0) C 0 0 dX14_plan_0 rfl rfl ?_
  refine q_iconst (pc := 1) C 0 dX14_plan_1 (by decide) ?_
  refine q_p (pc := 2) C h .int (T := TX14) tyX14 tyX14_ok nmX14 rfl (by decide +kernel) rfl rfl rfl (by decide) (wk_u rfl wm_X14_plan uq_X14 (by decide +kernel)) (by decide +kernel) (fun _ h9 => h9) rfl dX14_plan_2 (fun M1 h => ?_)
  refine q_iload_n (pc := 5) C 2 2 dX14_plan_5 rfl rfl ?_
  refine q_iconst (pc := 6) C (-1) dX14_plan_6 (by decide) ?_
  refine q_icmp_eq (pc := 7) C 24 dX14_plan_7 (by decide) (fun c2 => ?_) (fun c2 => ?_)
  · have h := h.1 c2
    refine q_widen (k2 := 0) (n2 := 0) (by omega) (by omega) ?_
    refine q_lv [0, 1, 2] rfl ?_
    exact tX14_plan_24 C hr hlocks h
  · have h := h.2 c2
    refine q_aload_n (pc := 10) C 0 0 dX14_plan_10 rfl rfl ?_
    refine q_iload_n (pc := 11) C 2 2 dX14_plan_11 rfl rfl ?_
    obtain ⟨b5, fs9, hb5, hm9, h⟩ := h
    refine q_ci (pc := 12) (q_rV C (st := []) (b := b5) (kX14_isGate l G b0 h) (cwV 1 C.2.2.2.2.1 gX14_plan_X14_isGate rfl rfl rfl (by decide +kernel) ⟨Nat.le_of_ble_eq_true rfl, Nat.le_of_ble_eq_true rfl⟩) hm9 rfl rfl rfl (by first | exact Nat.le_of_ble_eq_true rfl | (simp [q_cat, q_catI, q_catJ, q_catR, q_catN]; done)) (by rw [hb5]; first | done | rfl) dX14_plan_12 ⟨(by first | omega | (dsimp only; omega)), (by first | omega | (dsimp only; omega))⟩) (fun x3 M4 h => ?_)
    refine q_if_ne (pc := 15) C 24 dX14_plan_15 (by decide) (fun c6 => ?_) (fun c6 => ?_)
    · have h := h.2 c6
      refine q_widen (k2 := 0) (n2 := 0) (by omega) (by omega) ?_
      refine q_lv [0, 1, 2] rfl ?_
      exact tX14_plan_24 C hr hlocks h
    · have h := h.1 c6
      refine q_aload_n (pc := 18) C 0 0 dX14_plan_18 rfl rfl ?_
      refine q_iconst (pc := 19) C 1 dX14_plan_19 (by decide) ?_
      obtain ⟨b9, fs9, hb9, hm9, h⟩ := h
      refine q_ci (pc := 20) (q_rV C (st := []) (b := b9) (kX14_refuse l G b0 h) (cwV 1 C.2.2.2.2.1 gX14_plan_X14_refuse rfl rfl rfl (by decide +kernel) ⟨Nat.le_of_ble_eq_true rfl, Nat.le_of_ble_eq_true rfl⟩) hm9 rfl rfl rfl (by first | exact Nat.le_of_ble_eq_true rfl | (simp [q_cat, q_catI, q_catJ, q_catR, q_catN]; done)) (by rw [hb9]; first | done | rfl) dX14_plan_20 ⟨(by first | omega | (dsimp only; omega)), (by first | omega | (dsimp only; omega))⟩) (fun x7 M8 h => ?_)
      exact q_iret (pc := 23) C hr hlocks h dX14_plan_23 (by omega) (by omega)
set_option maxRecDepth 100000 in
set_option maxHeartbeats 4000000 in
theorem kX14_plan (l : Launch) (G : mG) (b0 : Nat) {b : Nat} {l1 : Int32} {l2 : Int32} {M : mM} {κ : Int32 → mM → Prop} (h : wX14_plan κ (some b) l1 l2 M) : Met l yX14_plan wsX14_plan ({ frames := 7, cells := 1, slots := 729, locals := 165 } : Room) (va_Pc [.ref b, .int l1, .int l2] (m_Pre G b0 M)) (va_Qi κ (m_B G b0) (fun q => b0 ≤ q)) 1 729 (fun q => b0 ≤ q) := by
  refine m_met (cc := cX14_plan) (maxL := 3) (ret := (some .int)) (lv := [(0, va_rf (some b)), (1, .int l1), (2, .int l2)]) RX14 rfl (by decide +kernel) rfl (by first | exact Nat.le_of_ble_eq_true rfl | simp [lg_sl, q_cat, q_catI, q_catJ, q_catR, q_catN]) (by first | rfl | (simp [lv_args, q_cat, q_catI, q_catJ, q_catR, q_catN]; done) | (simp [lv_args, q_cat, q_catI, q_catJ, q_catR, q_catN]; rfl)) ?_
  intro p e s m args below meth c C hr hlocks hni
  exact tX14_plan C hr hlocks h
/-! X14_wouldPayNow -/
set_option maxRecDepth 100000 in
set_option maxHeartbeats 4000000 in
theorem tX14_wouldPayNow {p : Program} {l : Launch} {e : Env} {s : State} {m : MethodId} {args : Array Value} {below : List Frame} {meth : Method} {c : Code} {G : mG} {b0 : Nat} (C : m_C p s m args c cX14_wouldPayNow 5 RX14 wsX14_wouldPayNow G b0) (hr : meth.sig.returnType = (some .int)) (hlocks : meth.locks = false) {κ : Int32 → mM → Prop} {l0 : Option Nat} {l1 : Int32} {M : mM} (h : wX14_wouldPayNow κ l0 l1 M) : m_W p l e ({ frames := 4, cells := 0, slots := 0, locals := 94 } : Room) s m args below meth c G b0 (MQ below (va_Qi κ (m_B G b0) (fun q => b0 ≤ q)) args s 0 0 (fun q => b0 ≤ q)) 5 M 0 0 0 [(0, va_rf l0), (1, .int l1)] [] := by
  unfold wX14_wouldPayNow at h
  refine q_aload_n (pc := 0) C 0 0 dX14_wouldPayNow_0 rfl rfl ?_
  refine q_gR (pc := 1) C h (T := TX14) rfl (by decide) (wk_u rfl wm_X14_wouldPayNow uq_X14 (by decide +kernel)) (by decide +kernel) (fun _ h9 => h9) dX14_wouldPayNow_1 (fun x1 h => ?_)
  refine q_iload_n (pc := 4) C 1 1 dX14_wouldPayNow_4 rfl rfl ?_
  obtain ⟨b4, fs9, hb4, hm9, h⟩ := h
  refine q_cq (pc := 5) (q_rV C (st := []) (b := b4) (kJx4a65c_get_915e3 l G b0 h) (cwV 1 C.2.2.2.2.1 gX14_wouldPayNow_Jx4a65c_get_915e3 rfl rfl rfl (by decide +kernel) ⟨Nat.le_of_ble_eq_true rfl, Nat.le_of_ble_eq_true rfl⟩) hm9 rfl rfl rfl (by first | exact Nat.le_of_ble_eq_true rfl | (simp [q_cat, q_catI, q_catJ, q_catR, q_catN]; done)) (by rw [hb4]; first | done | rfl) dX14_wouldPayNow_5 ⟨(by first | omega | (dsimp only; omega)), (by first | omega | (dsimp only; omega))⟩) (fun x2 M3 h => ?_)
  refine q_cast (pc := 8) C h rfl rfl (by decide +kernel) dX14_wouldPayNow_8 (fun h => ?_)
  refine q_astore_n (pc := 11) C 2 [(2, va_rf x2), (0, va_rf l0), (1, .int l1)] dX14_wouldPayNow_11 rfl (by decide) (by first | rfl | simp [q_cat, q_catI, q_catJ, q_catR, q_catN]) ?_
  refine q_aload_n (pc := 12) C 2 0 dX14_wouldPayNow_12 rfl rfl ?_
  refine q_gRN (pc := 13) C h (host := "LullabygateModel") (T := TX10) rfl (by decide) (by decide +kernel) 1430 (by decide +kernel) (fun _ h9 => h9) dX14_wouldPayNow_13 (fun x5 h => ?_)
  obtain ⟨b8, fs9, hb8, hm9, h⟩ := h
  refine q_ci (pc := 16) (q_rV C (st := []) (b := b8) (kJx4a65c_isEmpty_aae02 l G b0 h) (cwV 0 C.2.2.2.2.1 gX14_wouldPayNow_Jx4a65c_isEmpty_aae02 rfl rfl rfl (by decide +kernel) ⟨Nat.le_of_ble_eq_true rfl, Nat.le_of_ble_eq_true rfl⟩) hm9 rfl rfl rfl (by first | exact Nat.le_of_ble_eq_true rfl | (simp [q_cat, q_catI, q_catJ, q_catR, q_catN]; done)) (by rw [hb8]; first | done | rfl) dX14_wouldPayNow_16 ⟨(by first | omega | (dsimp only; omega)), (by first | omega | (dsimp only; omega))⟩) (fun x6 M7 h => ?_)
  refine q_if_ne (pc := 19) C 44 dX14_wouldPayNow_19 (by decide) (fun c9 => ?_) (fun c9 => ?_)
  · have h := h.2 c9
    refine q_iconst (pc := 44) C 0 dX14_wouldPayNow_44 (by decide) ?_
    exact q_iret (pc := 45) C hr hlocks h dX14_wouldPayNow_45 (by omega) (by omega)
  · have h := h.1 c9
    refine q_aload_n (pc := 22) C 0 1 dX14_wouldPayNow_22 rfl rfl ?_
    refine q_aload_n (pc := 23) C 2 0 dX14_wouldPayNow_23 rfl rfl ?_
    refine q_gRN (pc := 24) C h (host := "LullabygateModel") (T := TX10) rfl (by decide) (by decide +kernel) 1430 (by decide +kernel) (fun _ h9 => h9) dX14_wouldPayNow_24 (fun x10 h => ?_)
    refine q_iconst (pc := 27) C 0 dX14_wouldPayNow_27 (by decide) ?_
    obtain ⟨b13, fs9, hb13, hm9, h⟩ := h
    refine q_cq (pc := 28) (q_rV C (st := [va_rf l0]) (b := b13) (kJx4a65c_get_915e3 l G b0 h) (cwV 1 C.2.2.2.2.1 gX14_wouldPayNow_Jx4a65c_get_915e3 rfl rfl rfl (by decide +kernel) ⟨Nat.le_of_ble_eq_true rfl, Nat.le_of_ble_eq_true rfl⟩) hm9 rfl rfl rfl (by first | exact Nat.le_of_ble_eq_true rfl | (simp [q_cat, q_catI, q_catJ, q_catR, q_catN]; done)) (by rw [hb13]; first | done | rfl) dX14_wouldPayNow_28 ⟨(by first | omega | (dsimp only; omega)), (by first | omega | (dsimp only; omega))⟩) (fun x11 M12 h => ?_)
    refine q_cast (pc := 31) C h rfl rfl (by decide +kernel) dX14_wouldPayNow_31 (fun h => ?_)
    obtain ⟨b16, fs9, hb16, hm9, h⟩ := h
    refine q_ci (pc := 34) (q_rV C (st := [va_rf l0]) (b := b16) (kJ6_intValue_8abf5 l G b0 h) (cwV 0 C.2.2.2.2.1 gX14_wouldPayNow_J6_intValue_8abf5 rfl rfl rfl (by decide +kernel) ⟨Nat.le_of_ble_eq_true rfl, Nat.le_of_ble_eq_true rfl⟩) hm9 rfl rfl rfl (by first | exact Nat.le_of_ble_eq_true rfl | (simp [q_cat, q_catI, q_catJ, q_catR, q_catN]; done)) (by rw [hb16]; first | done | rfl) dX14_wouldPayNow_34 ⟨(by first | omega | (dsimp only; omega)), (by first | omega | (dsimp only; omega))⟩) (fun x14 M15 h => ?_)
    refine q_iload_n (pc := 37) C 1 2 dX14_wouldPayNow_37 rfl rfl ?_
    obtain ⟨b19, fs9, hb19, hm9, h⟩ := h
    refine q_ci (pc := 38) (q_rV C (st := []) (b := b19) (kX14_isGoodNow l G b0 h) (cwV 2 C.2.2.2.2.1 gX14_wouldPayNow_X14_isGoodNow rfl rfl rfl (by decide +kernel) ⟨Nat.le_of_ble_eq_true rfl, Nat.le_of_ble_eq_true rfl⟩) hm9 rfl rfl rfl (by first | exact Nat.le_of_ble_eq_true rfl | (simp [q_cat, q_catI, q_catJ, q_catR, q_catN]; done)) (by rw [hb19]; first | done | rfl) dX14_wouldPayNow_38 ⟨(by first | omega | (dsimp only; omega)), (by first | omega | (dsimp only; omega))⟩) (fun x17 M18 h => ?_)
    refine q_if_ne (pc := 41) C 46 dX14_wouldPayNow_41 (by decide) (fun c20 => ?_) (fun c20 => ?_)
    · have h := h.2 c20
      refine q_aload_n (pc := 46) C 2 0 dX14_wouldPayNow_46 rfl rfl ?_
      refine q_gRN (pc := 47) C h (host := "LullabygateModel") (T := TX10) rfl (by decide) (by decide +kernel) 1430 (by decide +kernel) (fun _ h9 => h9) dX14_wouldPayNow_47 (fun x21 h => ?_)
      refine q_iconst (pc := 50) C 0 dX14_wouldPayNow_50 (by decide) ?_
      obtain ⟨b24, fs9, hb24, hm9, h⟩ := h
      refine q_cq (pc := 51) (q_rV C (st := []) (b := b24) (kJx4a65c_get_915e3 l G b0 h) (cwV 1 C.2.2.2.2.1 gX14_wouldPayNow_Jx4a65c_get_915e3 rfl rfl rfl (by decide +kernel) ⟨Nat.le_of_ble_eq_true rfl, Nat.le_of_ble_eq_true rfl⟩) hm9 rfl rfl rfl (by first | exact Nat.le_of_ble_eq_true rfl | (simp [q_cat, q_catI, q_catJ, q_catR, q_catN]; done)) (by rw [hb24]; first | done | rfl) dX14_wouldPayNow_51 ⟨(by first | omega | (dsimp only; omega)), (by first | omega | (dsimp only; omega))⟩) (fun x22 M23 h => ?_)
      refine q_cast (pc := 54) C h rfl rfl (by decide +kernel) dX14_wouldPayNow_54 (fun h => ?_)
      obtain ⟨b27, fs9, hb27, hm9, h⟩ := h
      refine q_ci (pc := 57) (q_rV C (st := []) (b := b27) (kJ6_intValue_8abf5 l G b0 h) (cwV 0 C.2.2.2.2.1 gX14_wouldPayNow_J6_intValue_8abf5 rfl rfl rfl (by decide +kernel) ⟨Nat.le_of_ble_eq_true rfl, Nat.le_of_ble_eq_true rfl⟩) hm9 rfl rfl rfl (by first | exact Nat.le_of_ble_eq_true rfl | (simp [q_cat, q_catI, q_catJ, q_catR, q_catN]; done)) (by rw [hb27]; first | done | rfl) dX14_wouldPayNow_57 ⟨(by first | omega | (dsimp only; omega)), (by first | omega | (dsimp only; omega))⟩) (fun x25 M26 h => ?_)
      refine q_istore_n (pc := 60) C 3 [(3, .int x25), (2, va_rf x2), (0, va_rf l0), (1, .int l1)] dX14_wouldPayNow_60 rfl (by decide) (by first | rfl | simp [q_cat, q_catI, q_catJ, q_catR, q_catN]) ?_
      refine q_aload_n (pc := 61) C 2 1 dX14_wouldPayNow_61 rfl rfl ?_
      refine q_aload_n (pc := 62) C 0 2 dX14_wouldPayNow_62 rfl rfl ?_
      refine q_gR (pc := 63) C h (T := TX14) rfl (by decide) (wk_u rfl wm_X14_wouldPayNow uq_X14 (by decide +kernel)) (by decide +kernel) (fun _ h9 => h9) dX14_wouldPayNow_63 (fun x28 h => ?_)
      refine q_iload_n (pc := 66) C 3 0 dX14_wouldPayNow_66 rfl rfl ?_
      obtain ⟨b31, fs9, hb31, hm9, h⟩ := h
      refine q_cq (pc := 67) (q_rV C (st := [va_rf x2]) (b := b31) (kJx4a65c_get_915e3 l G b0 h) (cwV 1 C.2.2.2.2.1 gX14_wouldPayNow_Jx4a65c_get_915e3 rfl rfl rfl (by decide +kernel) ⟨Nat.le_of_ble_eq_true rfl, Nat.le_of_ble_eq_true rfl⟩) hm9 rfl rfl rfl (by first | exact Nat.le_of_ble_eq_true rfl | (simp [q_cat, q_catI, q_catJ, q_catR, q_catN]; done)) (by rw [hb31]; first | done | rfl) dX14_wouldPayNow_67 ⟨(by first | omega | (dsimp only; omega)), (by first | omega | (dsimp only; omega))⟩) (fun x29 M30 h => ?_)
      refine q_cast (pc := 70) C h rfl rfl (by decide +kernel) dX14_wouldPayNow_70 (fun h => ?_)
      refine q_gIN (pc := 73) C h (host := "LullabygateModel") (T := TX13) rfl (by decide) (by decide +kernel) 1474 (by decide +kernel) (fun _ h9 => h9) dX14_wouldPayNow_73 (fun x32 h => ?_)
      obtain ⟨b35, fs9, hb35, hm9, h⟩ := h
      refine q_ci (pc := 76) (q_rV C (st := []) (b := b35) (kX10_beyond l G b0 h) (cwV 1 C.2.2.2.2.1 gX14_wouldPayNow_X10_beyond rfl rfl rfl (by decide +kernel) ⟨Nat.le_of_ble_eq_true rfl, Nat.le_of_ble_eq_true rfl⟩) hm9 rfl rfl rfl (by first | exact Nat.le_of_ble_eq_true rfl | (simp [q_cat, q_catI, q_catJ, q_catR, q_catN]; done)) (by rw [hb35]; first | done | rfl) dX14_wouldPayNow_76 ⟨(by first | omega | (dsimp only; omega)), (by first | omega | (dsimp only; omega))⟩) (fun x33 M34 h => ?_)
      refine q_istore (pc := 79) C 4 [(4, .int x33), (3, .int x25), (2, va_rf x2), (0, va_rf l0), (1, .int l1)] dX14_wouldPayNow_79 (by decide) (by first | rfl | simp [q_cat, q_catI, q_catJ, q_catR, q_catN]) ?_
      refine q_aload_n (pc := 81) C 0 3 dX14_wouldPayNow_81 rfl rfl ?_
      refine q_aload_n (pc := 82) C 0 3 dX14_wouldPayNow_82 rfl rfl ?_
      refine q_iload_n (pc := 83) C 3 1 dX14_wouldPayNow_83 rfl rfl ?_
      refine q_iload (pc := 84) C 4 0 dX14_wouldPayNow_84 rfl ?_
      refine q_iconst (pc := 86) C 0 dX14_wouldPayNow_86 (by decide) ?_
      obtain ⟨b38, fs9, hb38, hm9, h⟩ := h
      refine q_ci (pc := 87) (q_rV C (st := [va_rf l0]) (b := b38) (kX14_comeIn l G b0 h) (cwV 3 C.2.2.2.2.1 gX14_wouldPayNow_X14_comeIn rfl rfl rfl (by decide +kernel) ⟨Nat.le_of_ble_eq_true rfl, Nat.le_of_ble_eq_true rfl⟩) hm9 rfl rfl rfl (by first | exact Nat.le_of_ble_eq_true rfl | (simp [q_cat, q_catI, q_catJ, q_catR, q_catN]; done)) (by rw [hb38]; first | done | rfl) dX14_wouldPayNow_87 ⟨(by first | omega | (dsimp only; omega)), (by first | omega | (dsimp only; omega))⟩) (fun x36 M37 h => ?_)
      refine q_aload_n (pc := 90) C 0 3 dX14_wouldPayNow_90 rfl rfl ?_
      refine q_gR (pc := 91) C h (T := TX14) rfl (by decide) (wk_u rfl wm_X14_wouldPayNow uq_X14 (by decide +kernel)) (by decide +kernel) (fun _ h9 => h9) dX14_wouldPayNow_91 (fun x39 h => ?_)
      refine q_iload (pc := 94) C 4 0 dX14_wouldPayNow_94 rfl ?_
      refine q_aald (pc := 96) C h rfl dX14_wouldPayNow_96 (fun x40 h => ?_)
      obtain ⟨b43, fs9, hb43, hm9, h⟩ := h
      refine q_ci (pc := 97) (q_rV C (st := []) (b := b43) (kX14_duty l G b0 h) (cwV 2 C.2.2.2.2.1 gX14_wouldPayNow_X14_duty rfl rfl rfl (by decide +kernel) ⟨Nat.le_of_ble_eq_true rfl, Nat.le_of_ble_eq_true rfl⟩) hm9 rfl rfl rfl (by first | exact Nat.le_of_ble_eq_true rfl | (simp [q_cat, q_catI, q_catJ, q_catR, q_catN]; done)) (by rw [hb43]; first | done | rfl) dX14_wouldPayNow_97 ⟨(by first | omega | (dsimp only; omega)), (by first | omega | (dsimp only; omega))⟩) (fun x41 M42 h => ?_)
      exact q_iret (pc := 100) C hr hlocks h dX14_wouldPayNow_100 (by omega) (by omega)
    · have h := h.1 c20
      refine q_iconst (pc := 44) C 0 dX14_wouldPayNow_44 (by decide) ?_
      exact q_iret (pc := 45) C hr hlocks h dX14_wouldPayNow_45 (by omega) (by omega)
set_option maxRecDepth 100000 in
set_option maxHeartbeats 4000000 in
theorem kX14_wouldPayNow (l : Launch) (G : mG) (b0 : Nat) {b : Nat} {l1 : Int32} {M : mM} {κ : Int32 → mM → Prop} (h : wX14_wouldPayNow κ (some b) l1 M) : Met l yX14_wouldPayNow wsX14_wouldPayNow ({ frames := 4, cells := 0, slots := 0, locals := 94 } : Room) (va_Pc [.ref b, .int l1] (m_Pre G b0 M)) (va_Qi κ (m_B G b0) (fun q => b0 ≤ q)) 0 0 (fun q => b0 ≤ q) := by
  refine m_met (cc := cX14_wouldPayNow) (maxL := 5) (ret := (some .int)) (lv := [(0, va_rf (some b)), (1, .int l1)]) RX14 rfl (by decide +kernel) rfl (by first | exact Nat.le_of_ble_eq_true rfl | simp [lg_sl, q_cat, q_catI, q_catJ, q_catR, q_catN]) (by first | rfl | (simp [lv_args, q_cat, q_catI, q_catJ, q_catR, q_catN]; done) | (simp [lv_args, q_cat, q_catI, q_catJ, q_catR, q_catN]; rfl)) ?_
  intro p e s m args below meth c C hr hlocks hni
  exact tX14_wouldPayNow C hr hlocks h
/-! X14_wouldPay -/
set_option maxRecDepth 100000 in
set_option maxHeartbeats 4000000 in
theorem tX14_wouldPay {p : Program} {l : Launch} {e : Env} {s : State} {m : MethodId} {args : Array Value} {below : List Frame} {meth : Method} {c : Code} {G : mG} {b0 : Nat} (C : m_C p s m args c cX14_wouldPay 2 RX14 wsX14_wouldPay G b0) (hr : meth.sig.returnType = (some .int)) (hlocks : meth.locks = false) {κ : Int32 → mM → Prop} {l0 : Option Nat} {l1 : Int32} {M : mM} (h : wX14_wouldPay κ l0 l1 M) : m_W p l e ({ frames := 5, cells := 0, slots := 0, locals := 118 } : Room) s m args below meth c G b0 (MQ below (va_Qi κ (m_B G b0) (fun q => b0 ≤ q)) args s 0 0 (fun q => b0 ≤ q)) 2 M 0 0 0 [(0, va_rf l0), (1, .int l1)] [] := by
  unfold wX14_wouldPay at h
  refine q_aload_n (pc := 0) C 0 0 dX14_wouldPay_0 rfl rfl ?_
  refine q_iconst (pc := 1) C 0 dX14_wouldPay_1 (by decide) ?_
  refine q_p (pc := 2) C h .int (T := TX14) tyX14 tyX14_ok nmX14 rfl (by decide +kernel) rfl rfl rfl (by decide) (wk_u rfl wm_X14_wouldPay uq_X14 (by decide +kernel)) (by decide +kernel) (fun _ h9 => h9) rfl dX14_wouldPay_2 (fun M1 h => ?_)
  refine q_aload_n (pc := 5) C 0 0 dX14_wouldPay_5 rfl rfl ?_
  refine q_iload_n (pc := 6) C 1 1 dX14_wouldPay_6 rfl rfl ?_
  obtain ⟨b4, fs9, hb4, hm9, h⟩ := h
  refine q_ci (pc := 7) (q_rV C (st := []) (b := b4) (kX14_isGate l G b0 h) (cwV 1 C.2.2.2.2.1 gX14_wouldPay_X14_isGate rfl rfl rfl (by decide +kernel) ⟨Nat.le_of_ble_eq_true rfl, Nat.le_of_ble_eq_true rfl⟩) hm9 rfl rfl rfl (by first | exact Nat.le_of_ble_eq_true rfl | (simp [q_cat, q_catI, q_catJ, q_catR, q_catN]; done)) (by rw [hb4]; first | done | rfl) dX14_wouldPay_7 ⟨(by first | omega | (dsimp only; omega)), (by first | omega | (dsimp only; omega))⟩) (fun x2 M3 h => ?_)
  refine q_if_eq (pc := 10) C 21 dX14_wouldPay_10 (by decide) (fun c5 => ?_) (fun c5 => ?_)
  · have h := h.1 c5
    refine q_aload_n (pc := 21) C 0 0 dX14_wouldPay_21 rfl rfl ?_
    refine q_iconst (pc := 22) C 1 dX14_wouldPay_22 (by decide) ?_
    obtain ⟨b8, fs9, hb8, hm9, h⟩ := h
    refine q_ci (pc := 23) (q_rV C (st := []) (b := b8) (kX14_refuse l G b0 h) (cwV 1 C.2.2.2.2.1 gX14_wouldPay_X14_refuse rfl rfl rfl (by decide +kernel) ⟨Nat.le_of_ble_eq_true rfl, Nat.le_of_ble_eq_true rfl⟩) hm9 rfl rfl rfl (by first | exact Nat.le_of_ble_eq_true rfl | (simp [q_cat, q_catI, q_catJ, q_catR, q_catN]; done)) (by rw [hb8]; first | done | rfl) dX14_wouldPay_23 ⟨(by first | omega | (dsimp only; omega)), (by first | omega | (dsimp only; omega))⟩) (fun x6 M7 h => ?_)
    exact q_iret (pc := 26) C hr hlocks h dX14_wouldPay_26 (by omega) (by omega)
  · have h := h.2 c5
    refine q_aload_n (pc := 13) C 0 0 dX14_wouldPay_13 rfl rfl ?_
    refine q_iload_n (pc := 14) C 1 1 dX14_wouldPay_14 rfl rfl ?_
    obtain ⟨b11, fs9, hb11, hm9, h⟩ := h
    refine q_ci (pc := 15) (q_rV C (st := []) (b := b11) (kX14_wouldPayNow l G b0 h) (cwV 1 C.2.2.2.2.1 gX14_wouldPay_X14_wouldPayNow rfl rfl rfl (by decide +kernel) ⟨Nat.le_of_ble_eq_true rfl, Nat.le_of_ble_eq_true rfl⟩) hm9 rfl rfl rfl (by first | exact Nat.le_of_ble_eq_true rfl | (simp [q_cat, q_catI, q_catJ, q_catR, q_catN]; done)) (by rw [hb11]; first | done | rfl) dX14_wouldPay_15 ⟨(by first | omega | (dsimp only; omega)), (by first | omega | (dsimp only; omega))⟩) (fun x9 M10 h => ?_)
    refine q_goto (pc := 18) C 26 dX14_wouldPay_18 (by decide) ?_
    exact q_iret (pc := 26) C hr hlocks h dX14_wouldPay_26 (by omega) (by omega)
set_option maxRecDepth 100000 in
set_option maxHeartbeats 4000000 in
theorem kX14_wouldPay (l : Launch) (G : mG) (b0 : Nat) {b : Nat} {l1 : Int32} {M : mM} {κ : Int32 → mM → Prop} (h : wX14_wouldPay κ (some b) l1 M) : Met l yX14_wouldPay wsX14_wouldPay ({ frames := 5, cells := 0, slots := 0, locals := 118 } : Room) (va_Pc [.ref b, .int l1] (m_Pre G b0 M)) (va_Qi κ (m_B G b0) (fun q => b0 ≤ q)) 0 0 (fun q => b0 ≤ q) := by
  refine m_met (cc := cX14_wouldPay) (maxL := 2) (ret := (some .int)) (lv := [(0, va_rf (some b)), (1, .int l1)]) RX14 rfl (by decide +kernel) rfl (by first | exact Nat.le_of_ble_eq_true rfl | simp [lg_sl, q_cat, q_catI, q_catJ, q_catR, q_catN]) (by first | rfl | (simp [lv_args, q_cat, q_catI, q_catJ, q_catR, q_catN]; done) | (simp [lv_args, q_cat, q_catI, q_catJ, q_catR, q_catN]; rfl)) ?_
  intro p e s m args below meth c C hr hlocks hni
  exact tX14_wouldPay C hr hlocks h
/-! X14_add -/
set_option maxRecDepth 100000 in
set_option maxHeartbeats 4000000 in
theorem tX14_add {p : Program} {l : Launch} {e : Env} {s : State} {m : MethodId} {args : Array Value} {below : List Frame} {meth : Method} {c : Code} {G : mG} {b0 : Nat} (C : m_C p s m args c cX14_add 3 RX14 wsX14_add G b0) (hr : meth.sig.returnType = none) (hlocks : meth.locks = false) {κ : mM → Prop} {l0 : Option Nat} {l1 : Int64} {M : mM} (h : wX14_add κ l0 l1 M) : m_W p l e ({ frames := 0, cells := 0, slots := 0, locals := 0 } : Room) s m args below meth c G b0 (MQ below (va_Qv κ (m_B G b0) (fun q => b0 ≤ q)) args s 0 0 (fun q => b0 ≤ q)) 3 M 0 0 0 [(0, va_rf l0), (1, .long l1)] [] := by
  unfold wX14_add at h
  refine q_aload_n (pc := 0) C 0 0 dX14_add_0 rfl rfl ?_
  refine q_aload_n (pc := 1) C 0 0 dX14_add_1 rfl rfl ?_
  refine q_gJ (pc := 2) C h (T := TX14) rfl (by decide) (wk_u rfl wm_X14_add uq_X14 (by decide +kernel)) (by decide +kernel) (fun _ h9 => h9) dX14_add_2 (fun x1 h => ?_)
  refine q_ldc2 (pc := 5) C 31 (by decide +kernel) dX14_add_5 ?_
  refine q_lmul (pc := 8) C dX14_add_8 ?_
  refine q_lload_n (pc := 9) C 1 1 dX14_add_9 rfl rfl ?_
  refine q_ladd (pc := 10) C dX14_add_10 ?_
  refine q_p (pc := 11) C h .long (T := TX14) tyX14 tyX14_ok nmX14 rfl (by decide +kernel) rfl rfl rfl (by decide) (wk_u rfl wm_X14_add uq_X14 (by decide +kernel)) (by decide +kernel) (fun _ h9 => h9) rfl dX14_add_11 (fun M2 h => ?_)
  exact q_vret (pc := 14) C hr hlocks h dX14_add_14 (by omega) (by omega)
set_option maxRecDepth 100000 in
set_option maxHeartbeats 4000000 in
theorem kX14_add (l : Launch) (G : mG) (b0 : Nat) {b : Nat} {l1 : Int64} {M : mM} {κ : mM → Prop} (h : wX14_add κ (some b) l1 M) : Met l yX14_add wsX14_add ({ frames := 0, cells := 0, slots := 0, locals := 0 } : Room) (va_Pc [.ref b, .long l1] (m_Pre G b0 M)) (va_Qv κ (m_B G b0) (fun q => b0 ≤ q)) 0 0 (fun q => b0 ≤ q) := by
  refine m_met (cc := cX14_add) (maxL := 3) (ret := none) (lv := [(0, va_rf (some b)), (1, .long l1)]) RX14 rfl (by decide +kernel) rfl (by first | exact Nat.le_of_ble_eq_true rfl | simp [lg_sl, q_cat, q_catI, q_catJ, q_catR, q_catN]) (by first | rfl | (simp [lv_args, q_cat, q_catI, q_catJ, q_catR, q_catN]; done) | (simp [lv_args, q_cat, q_catI, q_catJ, q_catR, q_catN]; rfl)) ?_
  intro p e s m args below meth c C hr hlocks hni
  exact tX14_add C hr hlocks h
