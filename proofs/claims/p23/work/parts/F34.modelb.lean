/-! X14_appeal -/
set_option maxRecDepth 100000 in
set_option maxHeartbeats 4000000 in
theorem tX14_appeal_68 {p : Program} {l : Launch} {e : Env} {s : State} {m : MethodId} {args : Array Value} {below : List Frame} {meth : Method} {c : Code} {G : mG} {b0 : Nat} (C : m_C p s m args c cX14_appeal 5 RX14 wsX14_appeal G b0) (hr : meth.sig.returnType = (some .boolean)) (hlocks : meth.locks = false) {κ : Int32 → mM → Prop} {l0 : Option Nat} {l1 : Int32} {M : mM} (h : wX14_appeal_68 κ l0 l1 M) : m_W p l e ({ frames := 3, cells := 0, slots := 0, locals := 64 } : Room) s m args below meth c G b0 (MQ below (va_Qi κ (m_B G b0) (fun q => b0 ≤ q)) args s 0 0 (fun q => b0 ≤ q)) 5 M 0 0 68 [(0, va_rf l0), (1, .int l1)] [] := by
  unfold wX14_appeal_68 at h
  refine q_aload_n (pc := 68) C 0 0 dX14_appeal_68 rfl rfl ?_
  refine q_gI (pc := 69) C h (T := TX14) rfl (by decide) (wk_u rfl wm_X14_appeal uq_X14 (by decide +kernel)) (by decide +kernel) (fun _ h9 => h9) dX14_appeal_69 (fun x1 h => ?_)
  refine q_if_le (pc := 72) C 77 dX14_appeal_72 (by decide) (fun c2 => ?_) (fun c2 => ?_)
  · have h := h.1 c2
    refine q_aload_n (pc := 77) C 0 0 dX14_appeal_77 rfl rfl ?_
    refine q_gR (pc := 78) C h (T := TX14) rfl (by decide) (wk_u rfl wm_X14_appeal uq_X14 (by decide +kernel)) (by decide +kernel) (fun _ h9 => h9) dX14_appeal_78 (fun x3 h => ?_)
    refine q_iload_n (pc := 81) C 1 1 dX14_appeal_81 rfl rfl ?_
    obtain ⟨b6, fs9, hb6, hm9, h⟩ := h
    refine q_cq (pc := 82) (q_rV C (st := []) (b := b6) (kJx4a65c_get_915e3 l G b0 h) (cwV 1 C.2.2.2.2.1 gX14_appeal_Jx4a65c_get_915e3 rfl rfl rfl (by decide +kernel) ⟨Nat.le_of_ble_eq_true rfl, Nat.le_of_ble_eq_true rfl⟩) hm9 rfl rfl rfl (by first | exact Nat.le_of_ble_eq_true rfl | (simp [q_cat, q_catI, q_catJ, q_catR, q_catN]; done)) (by rw [hb6]; first | done | rfl) dX14_appeal_82 ⟨(by first | omega | (dsimp only; omega)), (by first | omega | (dsimp only; omega))⟩) (fun x4 M5 h => ?_)
    refine q_cast (pc := 85) C h rfl rfl (by decide +kernel) dX14_appeal_85 (fun h => ?_)
    refine q_astore_n (pc := 88) C 2 [(2, va_rf x4), (0, va_rf l0), (1, .int l1)] dX14_appeal_88 rfl (by decide) (by first | rfl | simp [q_cat, q_catI, q_catJ, q_catR, q_catN]) ?_
    refine q_aload_n (pc := 89) C 0 1 dX14_appeal_89 rfl rfl ?_
    refine q_gR (pc := 90) C h (T := TX14) rfl (by decide) (wk_u rfl wm_X14_appeal uq_X14 (by decide +kernel)) (by decide +kernel) (fun _ h9 => h9) dX14_appeal_90 (fun x7 h => ?_)
    refine q_aload_n (pc := 93) C 2 0 dX14_appeal_93 rfl rfl ?_
    refine q_gIN (pc := 94) C h (host := "LullabygateModel") (T := TX12) rfl (by decide) (by decide +kernel) 1524 (by decide +kernel) (fun _ h9 => h9) dX14_appeal_94 (fun x8 h => ?_)
    refine q_bipush (pc := 97) C 100 dX14_appeal_97 (by decide) ?_
    refine q_isub (pc := 99) C dX14_appeal_99 ?_
    refine q_aald (pc := 100) C h rfl dX14_appeal_100 (fun x9 h => ?_)
    refine q_astore_n (pc := 101) C 3 [(3, va_rf x9), (2, va_rf x4), (0, va_rf l0), (1, .int l1)] dX14_appeal_101 rfl (by decide) (by first | rfl | simp [q_cat, q_catI, q_catJ, q_catR, q_catN]) ?_
    refine q_aload_n (pc := 102) C 0 2 dX14_appeal_102 rfl rfl ?_
    refine q_gR (pc := 103) C h (T := TX14) rfl (by decide) (wk_u rfl wm_X14_appeal uq_X14 (by decide +kernel)) (by decide +kernel) (fun _ h9 => h9) dX14_appeal_103 (fun x10 h => ?_)
    refine q_aload_n (pc := 106) C 2 1 dX14_appeal_106 rfl rfl ?_
    refine q_gIN (pc := 107) C h (host := "LullabygateModel") (T := TX12) rfl (by decide) (by decide +kernel) 1526 (by decide +kernel) (fun _ h9 => h9) dX14_appeal_107 (fun x11 h => ?_)
    obtain ⟨b14, fs9, hb14, hm9, h⟩ := h
    refine q_cq (pc := 110) (q_rV C (st := []) (b := b14) (kJx4a65c_get_915e3 l G b0 h) (cwV 1 C.2.2.2.2.1 gX14_appeal_Jx4a65c_get_915e3 rfl rfl rfl (by decide +kernel) ⟨Nat.le_of_ble_eq_true rfl, Nat.le_of_ble_eq_true rfl⟩) hm9 rfl rfl rfl (by first | exact Nat.le_of_ble_eq_true rfl | (simp [q_cat, q_catI, q_catJ, q_catR, q_catN]; done)) (by rw [hb14]; first | done | rfl) dX14_appeal_110 ⟨(by first | omega | (dsimp only; omega)), (by first | omega | (dsimp only; omega))⟩) (fun x12 M13 h => ?_)
    refine q_cast (pc := 113) C h rfl rfl (by decide +kernel) dX14_appeal_113 (fun h => ?_)
    refine q_astore (pc := 116) C 4 [(4, va_rf x12), (3, va_rf x9), (2, va_rf x4), (0, va_rf l0), (1, .int l1)] dX14_appeal_116 (by decide) (by first | rfl | simp [q_cat, q_catI, q_catJ, q_catR, q_catN]) ?_
    refine q_aload_n (pc := 118) C 2 2 dX14_appeal_118 rfl rfl ?_
    refine q_gIN (pc := 119) C h (host := "LullabygateModel") (T := TX12) rfl (by decide) (by decide +kernel) 1520 (by decide +kernel) (fun _ h9 => h9) dX14_appeal_119 (fun x15 h => ?_)
    refine q_aload_n (pc := 122) C 3 1 dX14_appeal_122 rfl rfl ?_
    refine q_gIN (pc := 123) C h (host := "LullabygateModel") (T := TX11) rfl (by decide) (by decide +kernel) 1321 (by decide +kernel) (fun _ h9 => h9) dX14_appeal_123 (fun x16 h => ?_)
    refine q_icmp_gt (pc := 126) C 152 dX14_appeal_126 (by decide) (fun c17 => ?_) (fun c17 => ?_)
    · have h := h.1 c17
      refine q_iconst (pc := 152) C 0 dX14_appeal_152 (by decide) ?_
      exact q_zret (pc := 153) C hr hlocks ⟨(by decide), h⟩ dX14_appeal_153 (by omega) (by omega)
    · have h := h.2 c17
      refine q_aload (pc := 129) C 4 0 dX14_appeal_129 rfl ?_
      refine q_gIN (pc := 131) C h (host := "LullabygateModel") (T := TX13) rfl (by decide) (by decide +kernel) 1474 (by decide +kernel) (fun _ h9 => h9) dX14_appeal_131 (fun x18 h => ?_)
      refine q_aload_n (pc := 134) C 2 2 dX14_appeal_134 rfl rfl ?_
      refine q_gIN (pc := 135) C h (host := "LullabygateModel") (T := TX12) rfl (by decide) (by decide +kernel) 1524 (by decide +kernel) (fun _ h9 => h9) dX14_appeal_135 (fun x19 h => ?_)
      refine q_bipush (pc := 138) C 100 dX14_appeal_138 (by decide) ?_
      refine q_isub (pc := 140) C dX14_appeal_140 ?_
      refine q_icmp_ne (pc := 141) C 152 dX14_appeal_141 (by decide) (fun c20 => ?_) (fun c20 => ?_)
      · have h := h.2 c20
        refine q_iconst (pc := 152) C 0 dX14_appeal_152 (by decide) ?_
        exact q_zret (pc := 153) C hr hlocks ⟨(by decide), h⟩ dX14_appeal_153 (by omega) (by omega)
      · have h := h.1 c20
        refine q_aload (pc := 144) C 4 0 dX14_appeal_144 rfl ?_
        refine q_gIN (pc := 146) C h (host := "LullabygateModel") (T := TX13) rfl (by decide) (by decide +kernel) 1477 (by decide +kernel) (fun _ h9 => h9) dX14_appeal_146 (fun x21 h => ?_)
        refine q_if_eq (pc := 149) C 154 dX14_appeal_149 (by decide) (fun c22 => ?_) (fun c22 => ?_)
        · have h := h.1 c22
          refine q_aload_n (pc := 154) C 3 1 dX14_appeal_154 rfl rfl ?_
          refine q_dup (pc := 155) C dX14_appeal_155 (q_cat _) ?_
          refine q_gIN (pc := 156) C h (host := "LullabygateModel") (T := TX11) rfl (by decide) (by decide +kernel) 1326 (by decide +kernel) (fun _ h9 => h9) dX14_appeal_156 (fun x23 h => ?_)
          refine q_aload_n (pc := 159) C 2 2 dX14_appeal_159 rfl rfl ?_
          refine q_gIN (pc := 160) C h (host := "LullabygateModel") (T := TX12) rfl (by decide) (by decide +kernel) 1520 (by decide +kernel) (fun _ h9 => h9) dX14_appeal_160 (fun x24 h => ?_)
          refine q_isub (pc := 163) C dX14_appeal_163 ?_
          refine q_pN (pc := 164) C h .int (host := "LullabygateModel") (T := TX11) tyX11 tyX11_ok nmX11 rfl (by decide +kernel) rfl rfl rfl (by decide) (by decide +kernel) 1326 (by decide +kernel) (fun _ h9 => h9) rfl dX14_appeal_164 (fun M25 h => ?_)
          refine q_aload_n (pc := 167) C 2 2 dX14_appeal_167 rfl rfl ?_
          refine q_aload_n (pc := 168) C 2 2 dX14_appeal_168 rfl rfl ?_
          refine q_gIN (pc := 169) C h (host := "LullabygateModel") (T := TX12) rfl (by decide) (by decide +kernel) 1526 (by decide +kernel) (fun _ h9 => h9) dX14_appeal_169 (fun x26 h => ?_)
          refine q_pN (pc := 172) C h .int (host := "LullabygateModel") (T := TX12) tyX12 tyX12_ok nmX12 rfl (by decide +kernel) rfl rfl rfl (by decide) (by decide +kernel) 1524 (by decide +kernel) (fun _ h9 => h9) rfl dX14_appeal_172 (fun M27 h => ?_)
          refine q_aload_n (pc := 175) C 2 2 dX14_appeal_175 rfl rfl ?_
          refine q_iconst (pc := 176) C 2 dX14_appeal_176 (by decide) ?_
          refine q_pN (pc := 177) C h .int (host := "LullabygateModel") (T := TX12) tyX12 tyX12_ok nmX12 rfl (by decide +kernel) rfl rfl rfl (by decide) (by decide +kernel) 1523 (by decide +kernel) (fun _ h9 => h9) rfl dX14_appeal_177 (fun M28 h => ?_)
          refine q_iconst (pc := 180) C 1 dX14_appeal_180 (by decide) ?_
          exact q_zret (pc := 181) C hr hlocks ⟨(by decide), h⟩ dX14_appeal_181 (by omega) (by omega)
        · have h := h.2 c22
          refine q_iconst (pc := 152) C 0 dX14_appeal_152 (by decide) ?_
          exact q_zret (pc := 153) C hr hlocks ⟨(by decide), h⟩ dX14_appeal_153 (by omega) (by omega)
  · have h := h.2 c2
    refine q_iconst (pc := 75) C 0 dX14_appeal_75 (by decide) ?_
    exact q_zret (pc := 76) C hr hlocks ⟨(by decide), h⟩ dX14_appeal_76 (by omega) (by omega)
set_option maxRecDepth 100000 in
set_option maxHeartbeats 4000000 in
theorem tX14_appeal_63 {p : Program} {l : Launch} {e : Env} {s : State} {m : MethodId} {args : Array Value} {below : List Frame} {meth : Method} {c : Code} {G : mG} {b0 : Nat} (C : m_C p s m args c cX14_appeal 5 RX14 wsX14_appeal G b0) (hr : meth.sig.returnType = (some .boolean)) (hlocks : meth.locks = false) {κ : Int32 → mM → Prop} {l0 : Option Nat} {l1 : Int32} {M : mM} (h : wX14_appeal_63 κ l0 l1 M) : m_W p l e ({ frames := 3, cells := 0, slots := 0, locals := 64 } : Room) s m args below meth c G b0 (MQ below (va_Qi κ (m_B G b0) (fun q => b0 ≤ q)) args s 0 0 (fun q => b0 ≤ q)) 5 M 0 0 63 [(0, va_rf l0), (1, .int l1)] [] := by
  unfold wX14_appeal_63 at h
  refine q_aload_n (pc := 63) C 0 0 dX14_appeal_63 rfl rfl ?_
  refine q_iconst (pc := 64) C 2 dX14_appeal_64 (by decide) ?_
  refine q_p (pc := 65) C h .int (T := TX14) tyX14 tyX14_ok nmX14 rfl (by decide +kernel) rfl rfl rfl (by decide) (wk_u rfl wm_X14_appeal uq_X14 (by decide +kernel)) (by decide +kernel) (fun _ h9 => h9) rfl dX14_appeal_65 (fun M1 h => ?_)
  refine q_widen (k2 := 0) (n2 := 0) (by omega) (by omega) ?_
  refine q_lv [0, 1] rfl ?_
  exact tX14_appeal_68 C hr hlocks h
set_option maxRecDepth 100000 in
set_option maxHeartbeats 4000000 in
theorem tX14_appeal {p : Program} {l : Launch} {e : Env} {s : State} {m : MethodId} {args : Array Value} {below : List Frame} {meth : Method} {c : Code} {G : mG} {b0 : Nat} (C : m_C p s m args c cX14_appeal 5 RX14 wsX14_appeal G b0) (hr : meth.sig.returnType = (some .boolean)) (hlocks : meth.locks = false) {κ : Int32 → mM → Prop} {l0 : Option Nat} {l1 : Int32} {M : mM} (h : wX14_appeal κ l0 l1 M) : m_W p l e ({ frames := 3, cells := 0, slots := 0, locals := 64 } : Room) s m args below meth c G b0 (MQ below (va_Qi κ (m_B G b0) (fun q => b0 ≤ q)) args s 0 0 (fun q => b0 ≤ q)) 5 M 0 0 0 [(0, va_rf l0), (1, .int l1)] [] := by
  unfold wX14_appeal at h
  refine q_aload_n (pc := 0) C 0 0 dX14_appeal_0 rfl rfl ?_
  refine q_iconst (pc := 1) C 0 dX14_appeal_1 (by decide) ?_
  refine q_p (pc := 2) C h .int (T := TX14) tyX14 tyX14_ok nmX14 rfl (by decide +kernel) rfl rfl rfl (by decide) (wk_u rfl wm_X14_appeal uq_X14 (by decide +kernel)) (by decide +kernel) (fun _ h9 => h9) rfl dX14_appeal_2 (fun M1 h => ?_)
  refine q_aload_n (pc := 5) C 0 0 dX14_appeal_5 rfl rfl ?_
  refine q_iload_n (pc := 6) C 1 1 dX14_appeal_6 rfl rfl ?_
  obtain ⟨b4, fs9, hb4, hm9, h⟩ := h
  refine q_ci (pc := 7) (q_rV C (st := []) (b := b4) (kX14_isPart l G b0 h) (cwV 1 C.2.2.2.2.1 gX14_appeal_X14_isPart rfl rfl rfl (by decide +kernel) ⟨Nat.le_of_ble_eq_true rfl, Nat.le_of_ble_eq_true rfl⟩) hm9 rfl rfl rfl (by first | exact Nat.le_of_ble_eq_true rfl | (simp [q_cat, q_catI, q_catJ, q_catR, q_catN]; done)) (by rw [hb4]; first | done | rfl) dX14_appeal_7 ⟨(by first | omega | (dsimp only; omega)), (by first | omega | (dsimp only; omega))⟩) (fun x2 M3 h => ?_)
  refine q_if_ne (pc := 10) C 21 dX14_appeal_10 (by decide) (fun c5 => ?_) (fun c5 => ?_)
  · have h := h.2 c5
    refine q_aload_n (pc := 21) C 0 0 dX14_appeal_21 rfl rfl ?_
    refine q_gR (pc := 22) C h (T := TX14) rfl (by decide) (wk_u rfl wm_X14_appeal uq_X14 (by decide +kernel)) (by decide +kernel) (fun _ h9 => h9) dX14_appeal_22 (fun x6 h => ?_)
    refine q_iload_n (pc := 25) C 1 1 dX14_appeal_25 rfl rfl ?_
    obtain ⟨b9, fs9, hb9, hm9, h⟩ := h
    refine q_cq (pc := 26) (q_rV C (st := []) (b := b9) (kJx4a65c_get_915e3 l G b0 h) (cwV 1 C.2.2.2.2.1 gX14_appeal_Jx4a65c_get_915e3 rfl rfl rfl (by decide +kernel) ⟨Nat.le_of_ble_eq_true rfl, Nat.le_of_ble_eq_true rfl⟩) hm9 rfl rfl rfl (by first | exact Nat.le_of_ble_eq_true rfl | (simp [q_cat, q_catI, q_catJ, q_catR, q_catN]; done)) (by rw [hb9]; first | done | rfl) dX14_appeal_26 ⟨(by first | omega | (dsimp only; omega)), (by first | omega | (dsimp only; omega))⟩) (fun x7 M8 h => ?_)
    refine q_cast (pc := 29) C h rfl rfl (by decide +kernel) dX14_appeal_29 (fun h => ?_)
    refine q_gIN (pc := 32) C h (host := "LullabygateModel") (T := TX12) rfl (by decide) (by decide +kernel) 1523 (by decide +kernel) (fun _ h9 => h9) dX14_appeal_32 (fun x10 h => ?_)
    refine q_iconst (pc := 35) C 3 dX14_appeal_35 (by decide) ?_
    refine q_icmp_ne (pc := 36) C 63 dX14_appeal_36 (by decide) (fun c11 => ?_) (fun c11 => ?_)
    · have h := h.2 c11
      refine q_widen (k2 := 0) (n2 := 0) (by omega) (by omega) ?_
      refine q_lv [0, 1] rfl ?_
      exact tX14_appeal_63 C hr hlocks h
    · have h := h.1 c11
      refine q_aload_n (pc := 39) C 0 0 dX14_appeal_39 rfl rfl ?_
      refine q_gR (pc := 40) C h (T := TX14) rfl (by decide) (wk_u rfl wm_X14_appeal uq_X14 (by decide +kernel)) (by decide +kernel) (fun _ h9 => h9) dX14_appeal_40 (fun x12 h => ?_)
      refine q_iload_n (pc := 43) C 1 1 dX14_appeal_43 rfl rfl ?_
      obtain ⟨b15, fs9, hb15, hm9, h⟩ := h
      refine q_cq (pc := 44) (q_rV C (st := []) (b := b15) (kJx4a65c_get_915e3 l G b0 h) (cwV 1 C.2.2.2.2.1 gX14_appeal_Jx4a65c_get_915e3 rfl rfl rfl (by decide +kernel) ⟨Nat.le_of_ble_eq_true rfl, Nat.le_of_ble_eq_true rfl⟩) hm9 rfl rfl rfl (by first | exact Nat.le_of_ble_eq_true rfl | (simp [q_cat, q_catI, q_catJ, q_catR, q_catN]; done)) (by rw [hb15]; first | done | rfl) dX14_appeal_44 ⟨(by first | omega | (dsimp only; omega)), (by first | omega | (dsimp only; omega))⟩) (fun x13 M14 h => ?_)
      refine q_cast (pc := 47) C h rfl rfl (by decide +kernel) dX14_appeal_47 (fun h => ?_)
      refine q_gIN (pc := 50) C h (host := "LullabygateModel") (T := TX12) rfl (by decide) (by decide +kernel) 1524 (by decide +kernel) (fun _ h9 => h9) dX14_appeal_50 (fun x16 h => ?_)
      refine q_bipush (pc := 53) C 100 dX14_appeal_53 (by decide) ?_
      refine q_bipush (pc := 55) C 105 dX14_appeal_55 (by decide) ?_
      refine q_ci (pc := 57) (q_rS C (st := []) (kX14_is l G b0 h) (va_cwS 3 C.2.2.2.2.1 gX14_appeal_X14_is rfl rfl rfl (by decide +kernel) ⟨Nat.le_of_ble_eq_true rfl, Nat.le_of_ble_eq_true rfl⟩) rfl (by first | exact Nat.le_of_ble_eq_true rfl | (simp [q_cat, q_catI, q_catJ, q_catR, q_catN]; done)) rfl dX14_appeal_57 ⟨(by first | omega | (dsimp only; omega)), (by first | omega | (dsimp only; omega))⟩) (fun x17 M18 h => ?_)
      refine q_if_ne (pc := 60) C 68 dX14_appeal_60 (by decide) (fun c19 => ?_) (fun c19 => ?_)
      · have h := h.2 c19
        refine q_widen (k2 := 0) (n2 := 0) (by omega) (by omega) ?_
        refine q_lv [0, 1] rfl ?_
        exact tX14_appeal_68 C hr hlocks h
      · have h := h.1 c19
        refine q_widen (k2 := 0) (n2 := 0) (by omega) (by omega) ?_
        refine q_lv [0, 1] rfl ?_
        exact tX14_appeal_63 C hr hlocks h
  · have h := h.1 c5
    refine q_aload_n (pc := 13) C 0 0 dX14_appeal_13 rfl rfl ?_
    refine q_iconst (pc := 14) C 1 dX14_appeal_14 (by decide) ?_
    refine q_p (pc := 15) C h .int (T := TX14) tyX14 tyX14_ok nmX14 rfl (by decide +kernel) rfl rfl rfl (by decide) (wk_u rfl wm_X14_appeal uq_X14 (by decide +kernel)) (by decide +kernel) (fun _ h9 => h9) rfl dX14_appeal_15 (fun M20 h => ?_)
    refine q_goto (pc := 18) C 68 dX14_appeal_18 (by decide) ?_
    refine q_widen (k2 := 0) (n2 := 0) (by omega) (by omega) ?_
    refine q_lv [0, 1] rfl ?_
    exact tX14_appeal_68 C hr hlocks h
set_option maxRecDepth 100000 in
set_option maxHeartbeats 4000000 in
theorem kX14_appeal (l : Launch) (G : mG) (b0 : Nat) {b : Nat} {l1 : Int32} {M : mM} {κ : Int32 → mM → Prop} (h : wX14_appeal κ (some b) l1 M) : Met l yX14_appeal wsX14_appeal ({ frames := 3, cells := 0, slots := 0, locals := 64 } : Room) (va_Pc [.ref b, .int l1] (m_Pre G b0 M)) (va_Qi κ (m_B G b0) (fun q => b0 ≤ q)) 0 0 (fun q => b0 ≤ q) := by
  refine m_met (cc := cX14_appeal) (maxL := 5) (ret := (some .boolean)) (lv := [(0, va_rf (some b)), (1, .int l1)]) RX14 rfl (by decide +kernel) rfl (by first | exact Nat.le_of_ble_eq_true rfl | simp [lg_sl, q_cat, q_catI, q_catJ, q_catR, q_catN]) (by first | rfl | (simp [lv_args, q_cat, q_catI, q_catJ, q_catR, q_catN]; done) | (simp [lv_args, q_cat, q_catI, q_catJ, q_catR, q_catN]; rfl)) ?_
  intro p e s m args below meth c C hr hlocks hni
  exact tX14_appeal C hr hlocks h
/-! X14_begin -/
set_option maxRecDepth 100000 in
set_option maxHeartbeats 4000000 in
theorem tX14_begin_356 {p : Program} {l : Launch} {e : Env} {s : State} {m : MethodId} {args : Array Value} {below : List Frame} {meth : Method} {c : Code} {G : mG} {b0 : Nat} (C : m_C p s m args c cX14_begin 6 RX14 wsX14_begin G b0) (hr : meth.sig.returnType = none) (hlocks : meth.locks = false) {κ : mM → Prop} {R276 : Option Nat → Int32 → mM → Prop} (hR276 : ∀ (l0 : Option Nat) (l1 : Int32) (M : mM), R276 l0 l1 M → m_W p l e ({ frames := 3, cells := 1, slots := 4, locals := 64 } : Room) s m args below meth c G b0 (MQ below (va_Qv κ (m_B G b0) (fun q => b0 ≤ q)) args s 1 4 (fun q => b0 ≤ q)) 6 M 1 4 276 [(0, va_rf l0), (1, .int l1)] []) {l0 : Option Nat} {l1 : Int32} {s0 : Int32} {s1 : Option Nat} {M : mM} (h : wX14_begin_356 κ R276 l0 l1 s0 s1 M) : m_W p l e ({ frames := 3, cells := 1, slots := 4, locals := 64 } : Room) s m args below meth c G b0 (MQ below (va_Qv κ (m_B G b0) (fun q => b0 ≤ q)) args s 1 4 (fun q => b0 ≤ q)) 6 M 1 4 356 [(0, va_rf l0), (1, .int l1)] [.int s0, va_rf s1] := by
  unfold wX14_begin_356 at h
  refine q_pN (pc := 356) C h .int (host := "LullabygateModel") (T := TX10) tyX10 tyX10_ok nmX10 rfl (by decide +kernel) rfl rfl rfl (by decide) (by decide +kernel) 1428 (by decide +kernel) (fun _ h9 => h9) rfl dX14_begin_356 (fun M1 h => ?_)
  refine q_iinc (pc := 359) C 1 1 (l1 + 1) [(1, .int (l1 + 1)), (0, va_rf l0)] dX14_begin_359 rfl (by rfl) (by decide) (by first | rfl | simp [q_cat, q_catI, q_catJ, q_catR, q_catN]) ?_
  refine q_goto (pc := 362) C 276 dX14_begin_362 (by decide) ?_
  refine q_widen (k2 := 1) (n2 := 4) (by omega) (by omega) ?_
  refine q_lv [1, 0] rfl ?_
  exact hR276 _ _ _ h
set_option maxRecDepth 100000 in
set_option maxHeartbeats 4000000 in
theorem tX14_begin_328 {p : Program} {l : Launch} {e : Env} {s : State} {m : MethodId} {args : Array Value} {below : List Frame} {meth : Method} {c : Code} {G : mG} {b0 : Nat} (C : m_C p s m args c cX14_begin 6 RX14 wsX14_begin G b0) (hr : meth.sig.returnType = none) (hlocks : meth.locks = false) {κ : mM → Prop} {R276 : Option Nat → Int32 → mM → Prop} (hR276 : ∀ (l0 : Option Nat) (l1 : Int32) (M : mM), R276 l0 l1 M → m_W p l e ({ frames := 3, cells := 1, slots := 4, locals := 64 } : Room) s m args below meth c G b0 (MQ below (va_Qv κ (m_B G b0) (fun q => b0 ≤ q)) args s 1 4 (fun q => b0 ≤ q)) 6 M 1 4 276 [(0, va_rf l0), (1, .int l1)] []) {R301 : Option Nat → Int32 → Option Nat → Int32 → mM → Prop} (hR301 : ∀ (l0 : Option Nat) (l1 : Int32) (l2 : Option Nat) (l3 : Int32) (M : mM), R301 l0 l1 l2 l3 M → m_W p l e ({ frames := 3, cells := 1, slots := 4, locals := 64 } : Room) s m args below meth c G b0 (MQ below (va_Qv κ (m_B G b0) (fun q => b0 ≤ q)) args s 1 4 (fun q => b0 ≤ q)) 6 M 1 4 301 [(0, va_rf l0), (1, .int l1), (2, va_rf l2), (3, .int l3)] []) {l0 : Option Nat} {l1 : Int32} {l2 : Option Nat} {l3 : Int32} {M : mM} (h : wX14_begin_328 κ R276 R301 l0 l1 l2 l3 M) : m_W p l e ({ frames := 3, cells := 1, slots := 4, locals := 64 } : Room) s m args below meth c G b0 (MQ below (va_Qv κ (m_B G b0) (fun q => b0 ≤ q)) args s 1 4 (fun q => b0 ≤ q)) 6 M 1 4 328 [(0, va_rf l0), (1, .int l1), (2, va_rf l2), (3, .int l3)] [] := by
  unfold wX14_begin_328 at h
  refine q_iinc (pc := 328) C 3 3 (l3 + 1) [(3, .int (l3 + 1)), (0, va_rf l0), (1, .int l1), (2, va_rf l2)] dX14_begin_328 rfl (by rfl) (by decide) (by first | rfl | simp [q_cat, q_catI, q_catJ, q_catR, q_catN]) ?_
  refine q_goto (pc := 331) C 301 dX14_begin_331 (by decide) ?_
  refine q_widen (k2 := 1) (n2 := 4) (by omega) (by omega) ?_
  refine q_lv [1, 2, 3, 0] rfl ?_
  exact hR301 _ _ _ _ _ h
set_option maxRecDepth 100000 in
set_option maxHeartbeats 4000000 in
theorem tX14_begin_301 {p : Program} {l : Launch} {e : Env} {s : State} {m : MethodId} {args : Array Value} {below : List Frame} {meth : Method} {c : Code} {G : mG} {b0 : Nat} (C : m_C p s m args c cX14_begin 6 RX14 wsX14_begin G b0) (hr : meth.sig.returnType = none) (hlocks : meth.locks = false) {κ : mM → Prop} {R276 : Option Nat → Int32 → mM → Prop} (hR276 : ∀ (l0 : Option Nat) (l1 : Int32) (M : mM), R276 l0 l1 M → m_W p l e ({ frames := 3, cells := 1, slots := 4, locals := 64 } : Room) s m args below meth c G b0 (MQ below (va_Qv κ (m_B G b0) (fun q => b0 ≤ q)) args s 1 4 (fun q => b0 ≤ q)) 6 M 1 4 276 [(0, va_rf l0), (1, .int l1)] []) : ∀ (f : Nat) (l0 : Option Nat) (l1 : Int32) (l2 : Option Nat) (l3 : Int32) (M : mM), wX14_begin_301 κ R276 f l0 l1 l2 l3 M → m_W p l e ({ frames := 3, cells := 1, slots := 4, locals := 64 } : Room) s m args below meth c G b0 (MQ below (va_Qv κ (m_B G b0) (fun q => b0 ≤ q)) args s 1 4 (fun q => b0 ≤ q)) 6 M 1 4 301 [(0, va_rf l0), (1, .int l1), (2, va_rf l2), (3, .int l3)] [] := by
  intro f
  induction f with
  | zero =>
    intro l0 l1 l2 l3 M h
    exact absurd h (by simp [wX14_begin_301])
  | succ f ih =>
    intro l0 l1 l2 l3 M h
    rw [wX14_begin_301] at h
    refine q_iload_n (pc := 301) C 3 3 dX14_begin_301 rfl rfl ?_
    refine q_bipush (pc := 302) C 97 dX14_begin_302 (by decide) ?_
    refine q_icmp_ge (pc := 304) C 334 dX14_begin_304 (by decide) (fun c1 => ?_) (fun c1 => ?_)
    · have h := h.1 c1
      refine q_aload_n (pc := 334) C 2 2 dX14_begin_334 rfl rfl ?_
      refine q_aload_n (pc := 335) C 2 2 dX14_begin_335 rfl rfl ?_
      refine q_aload_n (pc := 336) C 0 0 dX14_begin_336 rfl rfl ?_
      refine q_gI (pc := 337) C h (T := TX14) rfl (by decide) (wk_u rfl wm_X14_begin uq_X14 (by decide +kernel)) (by decide +kernel) (fun _ h9 => h9) dX14_begin_337 (fun x2 h => ?_)
      obtain ⟨b5, fs9, hb5, hm9, h⟩ := h
      refine q_ci (pc := 340) (q_rV C (st := [va_rf l2]) (b := b5) (kX10_isOpen l G b0 h) (cwV 1 C.2.2.2.2.1 gX14_begin_X10_isOpen rfl rfl rfl (by decide +kernel) ⟨Nat.le_of_ble_eq_true rfl, Nat.le_of_ble_eq_true rfl⟩) hm9 rfl rfl rfl (by first | exact Nat.le_of_ble_eq_true rfl | (simp [q_cat, q_catI, q_catJ, q_catR, q_catN]; done)) (by rw [hb5]; first | done | rfl) dX14_begin_340 ⟨(by first | omega | (dsimp only; omega)), (by first | omega | (dsimp only; omega))⟩) (fun x3 M4 h => ?_)
      refine q_if_eq (pc := 343) C 355 dX14_begin_343 (by decide) (fun c6 => ?_) (fun c6 => ?_)
      · have h := h.1 c6
        refine q_iconst (pc := 355) C 0 dX14_begin_355 (by decide) ?_
        refine q_widen (k2 := 1) (n2 := 4) (by omega) (by omega) ?_
        refine q_lv [0, 1] rfl ?_
        exact tX14_begin_356 C hr hlocks hR276 h
      · have h := h.2 c6
        refine q_aload_n (pc := 346) C 2 2 dX14_begin_346 rfl rfl ?_
        refine q_gIN (pc := 347) C h (host := "LullabygateModel") (T := TX10) rfl (by decide) (by decide +kernel) 1428 (by decide +kernel) (fun _ h9 => h9) dX14_begin_347 (fun x7 h => ?_)
        refine q_iconst (pc := 350) C 1 dX14_begin_350 (by decide) ?_
        refine q_iadd (pc := 351) C dX14_begin_351 ?_
        refine q_goto (pc := 352) C 356 dX14_begin_352 (by decide) ?_
        refine q_widen (k2 := 1) (n2 := 4) (by omega) (by omega) ?_
        refine q_lv [0, 1] rfl ?_
        exact tX14_begin_356 C hr hlocks hR276 h
    · have h := h.2 c1
      refine q_aload_n (pc := 307) C 0 0 dX14_begin_307 rfl rfl ?_
      refine q_gR (pc := 308) C h (T := TX14) rfl (by decide) (wk_u rfl wm_X14_begin uq_X14 (by decide +kernel)) (by decide +kernel) (fun _ h9 => h9) dX14_begin_308 (fun x8 h => ?_)
      refine q_iload_n (pc := 311) C 1 1 dX14_begin_311 rfl rfl ?_
      refine q_bipush (pc := 312) C 97 dX14_begin_312 (by decide) ?_
      refine q_imul (pc := 314) C dX14_begin_314 ?_
      refine q_iload_n (pc := 315) C 3 3 dX14_begin_315 rfl rfl ?_
      refine q_iadd (pc := 316) C dX14_begin_316 ?_
      refine q_zald (pc := 317) C h dX14_begin_317 (fun x9 h => ?_)
      refine q_if_eq (pc := 318) C 328 dX14_begin_318 (by decide) (fun c10 => ?_) (fun c10 => ?_)
      · have h := h.1 c10
        refine q_widen (k2 := 1) (n2 := 4) (by omega) (by omega) ?_
        refine q_lv [0, 1, 2, 3] rfl ?_
        exact tX14_begin_328 C hr hlocks hR276 ih h
      · have h := h.2 c10
        refine q_aload_n (pc := 321) C 2 2 dX14_begin_321 rfl rfl ?_
        refine q_gRN (pc := 322) C h (host := "LullabygateModel") (T := TX10) rfl (by decide) (by decide +kernel) 1432 (by decide +kernel) (fun _ h9 => h9) dX14_begin_322 (fun x11 h => ?_)
        refine q_iload_n (pc := 325) C 3 3 dX14_begin_325 rfl rfl ?_
        refine q_iconst (pc := 326) C 1 dX14_begin_326 (by decide) ?_
        refine q_zast (pc := 327) C h dX14_begin_327 (fun M12 h => ?_)
        refine q_widen (k2 := 1) (n2 := 4) (by omega) (by omega) ?_
        refine q_lv [0, 1, 2, 3] rfl ?_
        exact tX14_begin_328 C hr hlocks hR276 ih h
set_option maxRecDepth 100000 in
set_option maxHeartbeats 4000000 in
theorem tX14_begin_276 {p : Program} {l : Launch} {e : Env} {s : State} {m : MethodId} {args : Array Value} {below : List Frame} {meth : Method} {c : Code} {G : mG} {b0 : Nat} (C : m_C p s m args c cX14_begin 6 RX14 wsX14_begin G b0) (hr : meth.sig.returnType = none) (hlocks : meth.locks = false) {κ : mM → Prop} : ∀ (f : Nat) (l0 : Option Nat) (l1 : Int32) (M : mM), wX14_begin_276 κ f l0 l1 M → m_W p l e ({ frames := 3, cells := 1, slots := 4, locals := 64 } : Room) s m args below meth c G b0 (MQ below (va_Qv κ (m_B G b0) (fun q => b0 ≤ q)) args s 1 4 (fun q => b0 ≤ q)) 6 M 1 4 276 [(0, va_rf l0), (1, .int l1)] [] := by
  intro f
  induction f with
  | zero =>
    intro l0 l1 M h
    exact absurd h (by simp [wX14_begin_276])
  | succ f ih =>
    intro l0 l1 M h
    rw [wX14_begin_276] at h
    refine q_iload_n (pc := 276) C 1 1 dX14_begin_276 rfl rfl ?_
    refine q_aload_n (pc := 277) C 0 0 dX14_begin_277 rfl rfl ?_
    refine q_gR (pc := 278) C h (T := TX14) rfl (by decide) (wk_u rfl wm_X14_begin uq_X14 (by decide +kernel)) (by decide +kernel) (fun _ h9 => h9) dX14_begin_278 (fun x1 h => ?_)
    obtain ⟨b4, fs9, hb4, hm9, h⟩ := h
    refine q_ci (pc := 281) (q_rV C (st := [.int l1]) (b := b4) (kJx4a65c_size_8abf5 l G b0 h) (cwV 0 C.2.2.2.2.1 gX14_begin_Jx4a65c_size_8abf5 rfl rfl rfl (by decide +kernel) ⟨Nat.le_of_ble_eq_true rfl, Nat.le_of_ble_eq_true rfl⟩) hm9 rfl rfl rfl (by first | exact Nat.le_of_ble_eq_true rfl | (simp [q_cat, q_catI, q_catJ, q_catR, q_catN]; done)) (by rw [hb4]; first | done | rfl) dX14_begin_281 ⟨(by first | omega | (dsimp only; omega)), (by first | omega | (dsimp only; omega))⟩) (fun x2 M3 h => ?_)
    refine q_icmp_ge (pc := 284) C 365 dX14_begin_284 (by decide) (fun c5 => ?_) (fun c5 => ?_)
    · have h := h.1 c5
      exact q_vret (pc := 365) C hr hlocks h dX14_begin_365 (by omega) (by omega)
    · have h := h.2 c5
      refine q_aload_n (pc := 287) C 0 0 dX14_begin_287 rfl rfl ?_
      refine q_gR (pc := 288) C h (T := TX14) rfl (by decide) (wk_u rfl wm_X14_begin uq_X14 (by decide +kernel)) (by decide +kernel) (fun _ h9 => h9) dX14_begin_288 (fun x6 h => ?_)
      refine q_iload_n (pc := 291) C 1 1 dX14_begin_291 rfl rfl ?_
      obtain ⟨b9, fs9, hb9, hm9, h⟩ := h
      refine q_cq (pc := 292) (q_rV C (st := []) (b := b9) (kJx4a65c_get_915e3 l G b0 h) (cwV 1 C.2.2.2.2.1 gX14_begin_Jx4a65c_get_915e3 rfl rfl rfl (by decide +kernel) ⟨Nat.le_of_ble_eq_true rfl, Nat.le_of_ble_eq_true rfl⟩) hm9 rfl rfl rfl (by first | exact Nat.le_of_ble_eq_true rfl | (simp [q_cat, q_catI, q_catJ, q_catR, q_catN]; done)) (by rw [hb9]; first | done | rfl) dX14_begin_292 ⟨(by first | omega | (dsimp only; omega)), (by first | omega | (dsimp only; omega))⟩) (fun x7 M8 h => ?_)
      refine q_cast (pc := 295) C h rfl rfl (by decide +kernel) dX14_begin_295 (fun h => ?_)
      refine q_astore_n (pc := 298) C 2 [(2, va_rf x7), (0, va_rf l0), (1, .int l1)] dX14_begin_298 rfl (by decide) (by first | rfl | simp [q_cat, q_catI, q_catJ, q_catR, q_catN]) ?_
      refine q_iconst (pc := 299) C 0 dX14_begin_299 (by decide) ?_
      refine q_istore_n (pc := 300) C 3 [(3, .int 0), (2, va_rf x7), (0, va_rf l0), (1, .int l1)] dX14_begin_300 rfl (by decide) (by first | rfl | simp [q_cat, q_catI, q_catJ, q_catR, q_catN]) ?_
      refine q_widen (k2 := 1) (n2 := 4) (by omega) (by omega) ?_
      refine q_lv [2, 3, 1, 0] rfl ?_
      obtain ⟨f9, h⟩ := h
      exact tX14_begin_301 C hr hlocks ih f9 _ _ _ _ _ h
set_option maxRecDepth 100000 in
set_option maxHeartbeats 4000000 in
theorem tX14_begin_262 {p : Program} {l : Launch} {e : Env} {s : State} {m : MethodId} {args : Array Value} {below : List Frame} {meth : Method} {c : Code} {G : mG} {b0 : Nat} (C : m_C p s m args c cX14_begin 6 RX14 wsX14_begin G b0) (hr : meth.sig.returnType = none) (hlocks : meth.locks = false) {κ : mM → Prop} {R146 : Option Nat → Int32 → mM → Prop} (hR146 : ∀ (l0 : Option Nat) (l1 : Int32) (M : mM), R146 l0 l1 M → m_W p l e ({ frames := 3, cells := 1, slots := 4, locals := 64 } : Room) s m args below meth c G b0 (MQ below (va_Qv κ (m_B G b0) (fun q => b0 ≤ q)) args s 1 4 (fun q => b0 ≤ q)) 6 M 1 4 146 [(0, va_rf l0), (1, .int l1)] []) {R159 : Option Nat → Int32 → Int32 → mM → Prop} (hR159 : ∀ (l0 : Option Nat) (l1 : Int32) (l2 : Int32) (M : mM), R159 l0 l1 l2 M → m_W p l e ({ frames := 3, cells := 1, slots := 4, locals := 64 } : Room) s m args below meth c G b0 (MQ below (va_Qv κ (m_B G b0) (fun q => b0 ≤ q)) args s 1 4 (fun q => b0 ≤ q)) 6 M 1 4 159 [(0, va_rf l0), (1, .int l1), (2, .int l2)] []) {l0 : Option Nat} {l1 : Int32} {l2 : Int32} {M : mM} (h : wX14_begin_262 κ R146 R159 l0 l1 l2 M) : m_W p l e ({ frames := 3, cells := 1, slots := 4, locals := 64 } : Room) s m args below meth c G b0 (MQ below (va_Qv κ (m_B G b0) (fun q => b0 ≤ q)) args s 1 4 (fun q => b0 ≤ q)) 6 M 1 4 262 [(0, va_rf l0), (1, .int l1), (2, .int l2)] [] := by
  unfold wX14_begin_262 at h
  refine q_iinc (pc := 262) C 2 2 (l2 + 1) [(2, .int (l2 + 1)), (0, va_rf l0), (1, .int l1)] dX14_begin_262 rfl (by rfl) (by decide) (by first | rfl | simp [q_cat, q_catI, q_catJ, q_catR, q_catN]) ?_
  refine q_goto (pc := 265) C 159 dX14_begin_265 (by decide) ?_
  refine q_widen (k2 := 1) (n2 := 4) (by omega) (by omega) ?_
  refine q_lv [1, 2, 0] rfl ?_
  exact hR159 _ _ _ _ h
set_option maxRecDepth 100000 in
set_option maxHeartbeats 4000000 in
theorem tX14_begin_256 {p : Program} {l : Launch} {e : Env} {s : State} {m : MethodId} {args : Array Value} {below : List Frame} {meth : Method} {c : Code} {G : mG} {b0 : Nat} (C : m_C p s m args c cX14_begin 6 RX14 wsX14_begin G b0) (hr : meth.sig.returnType = none) (hlocks : meth.locks = false) {κ : mM → Prop} {R146 : Option Nat → Int32 → mM → Prop} (hR146 : ∀ (l0 : Option Nat) (l1 : Int32) (M : mM), R146 l0 l1 M → m_W p l e ({ frames := 3, cells := 1, slots := 4, locals := 64 } : Room) s m args below meth c G b0 (MQ below (va_Qv κ (m_B G b0) (fun q => b0 ≤ q)) args s 1 4 (fun q => b0 ≤ q)) 6 M 1 4 146 [(0, va_rf l0), (1, .int l1)] []) {R159 : Option Nat → Int32 → Int32 → mM → Prop} (hR159 : ∀ (l0 : Option Nat) (l1 : Int32) (l2 : Int32) (M : mM), R159 l0 l1 l2 M → m_W p l e ({ frames := 3, cells := 1, slots := 4, locals := 64 } : Room) s m args below meth c G b0 (MQ below (va_Qv κ (m_B G b0) (fun q => b0 ≤ q)) args s 1 4 (fun q => b0 ≤ q)) 6 M 1 4 159 [(0, va_rf l0), (1, .int l1), (2, .int l2)] []) {R225 : Option Nat → Int32 → Int32 → Option Nat → Int32 → mM → Prop} (hR225 : ∀ (l0 : Option Nat) (l1 : Int32) (l2 : Int32) (l4 : Option Nat) (l5 : Int32) (M : mM), R225 l0 l1 l2 l4 l5 M → m_W p l e ({ frames := 3, cells := 1, slots := 4, locals := 64 } : Room) s m args below meth c G b0 (MQ below (va_Qv κ (m_B G b0) (fun q => b0 ≤ q)) args s 1 4 (fun q => b0 ≤ q)) 6 M 1 4 225 [(0, va_rf l0), (1, .int l1), (2, .int l2), (4, va_rf l4), (5, .int l5)] []) {l0 : Option Nat} {l1 : Int32} {l2 : Int32} {l4 : Option Nat} {l5 : Int32} {M : mM} (h : wX14_begin_256 κ R146 R159 R225 l0 l1 l2 l4 l5 M) : m_W p l e ({ frames := 3, cells := 1, slots := 4, locals := 64 } : Room) s m args below meth c G b0 (MQ below (va_Qv κ (m_B G b0) (fun q => b0 ≤ q)) args s 1 4 (fun q => b0 ≤ q)) 6 M 1 4 256 [(0, va_rf l0), (1, .int l1), (2, .int l2), (4, va_rf l4), (5, .int l5)] [] := by
  unfold wX14_begin_256 at h
  refine q_iinc (pc := 256) C 5 4 (l5 + 1) [(5, .int (l5 + 1)), (0, va_rf l0), (1, .int l1), (2, .int l2), (4, va_rf l4)] dX14_begin_256 rfl (by rfl) (by decide) (by first | rfl | simp [q_cat, q_catI, q_catJ, q_catR, q_catN]) ?_
  refine q_goto (pc := 259) C 225 dX14_begin_259 (by decide) ?_
  refine q_widen (k2 := 1) (n2 := 4) (by omega) (by omega) ?_
  refine q_lv [1, 2, 3, 4, 0] rfl ?_
  exact hR225 _ _ _ _ _ _ h
set_option maxRecDepth 100000 in
set_option maxHeartbeats 4000000 in
theorem tX14_begin_225 {p : Program} {l : Launch} {e : Env} {s : State} {m : MethodId} {args : Array Value} {below : List Frame} {meth : Method} {c : Code} {G : mG} {b0 : Nat} (C : m_C p s m args c cX14_begin 6 RX14 wsX14_begin G b0) (hr : meth.sig.returnType = none) (hlocks : meth.locks = false) {κ : mM → Prop} {R146 : Option Nat → Int32 → mM → Prop} (hR146 : ∀ (l0 : Option Nat) (l1 : Int32) (M : mM), R146 l0 l1 M → m_W p l e ({ frames := 3, cells := 1, slots := 4, locals := 64 } : Room) s m args below meth c G b0 (MQ below (va_Qv κ (m_B G b0) (fun q => b0 ≤ q)) args s 1 4 (fun q => b0 ≤ q)) 6 M 1 4 146 [(0, va_rf l0), (1, .int l1)] []) {R159 : Option Nat → Int32 → Int32 → mM → Prop} (hR159 : ∀ (l0 : Option Nat) (l1 : Int32) (l2 : Int32) (M : mM), R159 l0 l1 l2 M → m_W p l e ({ frames := 3, cells := 1, slots := 4, locals := 64 } : Room) s m args below meth c G b0 (MQ below (va_Qv κ (m_B G b0) (fun q => b0 ≤ q)) args s 1 4 (fun q => b0 ≤ q)) 6 M 1 4 159 [(0, va_rf l0), (1, .int l1), (2, .int l2)] []) : ∀ (f : Nat) (l0 : Option Nat) (l1 : Int32) (l2 : Int32) (l4 : Option Nat) (l5 : Int32) (M : mM), wX14_begin_225 κ R146 R159 f l0 l1 l2 l4 l5 M → m_W p l e ({ frames := 3, cells := 1, slots := 4, locals := 64 } : Room) s m args below meth c G b0 (MQ below (va_Qv κ (m_B G b0) (fun q => b0 ≤ q)) args s 1 4 (fun q => b0 ≤ q)) 6 M 1 4 225 [(0, va_rf l0), (1, .int l1), (2, .int l2), (4, va_rf l4), (5, .int l5)] [] := by
  intro f
  induction f with
  | zero =>
    intro l0 l1 l2 l4 l5 M h
    exact absurd h (by simp [wX14_begin_225])
  | succ f ih =>
    intro l0 l1 l2 l4 l5 M h
    rw [wX14_begin_225] at h
    refine q_iload (pc := 225) C 5 4 dX14_begin_225 rfl ?_
    refine q_bipush (pc := 227) C 97 dX14_begin_227 (by decide) ?_
    refine q_icmp_ge (pc := 229) C 262 dX14_begin_229 (by decide) (fun c1 => ?_) (fun c1 => ?_)
    · have h := h.1 c1
      refine q_widen (k2 := 1) (n2 := 4) (by omega) (by omega) ?_
      refine q_lv [0, 1, 2] rfl ?_
      exact tX14_begin_262 C hr hlocks hR146 hR159 h
    · have h := h.2 c1
      refine q_aload (pc := 232) C 4 3 dX14_begin_232 rfl ?_
      refine q_gRN (pc := 234) C h (host := "LullabygateModel") (T := TX10) rfl (by decide) (by decide +kernel) 1432 (by decide +kernel) (fun _ h9 => h9) dX14_begin_234 (fun x2 h => ?_)
      refine q_iload (pc := 237) C 5 4 dX14_begin_237 rfl ?_
      refine q_zald (pc := 239) C h dX14_begin_239 (fun x3 h => ?_)
      refine q_if_eq (pc := 240) C 256 dX14_begin_240 (by decide) (fun c4 => ?_) (fun c4 => ?_)
      · have h := h.1 c4
        refine q_widen (k2 := 1) (n2 := 4) (by omega) (by omega) ?_
        refine q_lv [0, 1, 2, 3, 4] rfl ?_
        exact tX14_begin_256 C hr hlocks hR146 hR159 ih h
      · have h := h.2 c4
        refine q_aload_n (pc := 243) C 0 0 dX14_begin_243 rfl rfl ?_
        refine q_gR (pc := 244) C h (T := TX14) rfl (by decide) (wk_u rfl wm_X14_begin uq_X14 (by decide +kernel)) (by decide +kernel) (fun _ h9 => h9) dX14_begin_244 (fun x5 h => ?_)
        refine q_iload_n (pc := 247) C 1 1 dX14_begin_247 rfl rfl ?_
        refine q_bipush (pc := 248) C 97 dX14_begin_248 (by decide) ?_
        refine q_imul (pc := 250) C dX14_begin_250 ?_
        refine q_iload (pc := 251) C 5 4 dX14_begin_251 rfl ?_
        refine q_iadd (pc := 253) C dX14_begin_253 ?_
        refine q_iconst (pc := 254) C 1 dX14_begin_254 (by decide) ?_
        refine q_zast (pc := 255) C h dX14_begin_255 (fun M6 h => ?_)
        refine q_widen (k2 := 1) (n2 := 4) (by omega) (by omega) ?_
        refine q_lv [0, 1, 2, 3, 4] rfl ?_
        exact tX14_begin_256 C hr hlocks hR146 hR159 ih h
set_option maxRecDepth 100000 in
set_option maxHeartbeats 4000000 in
theorem tX14_begin_222 {p : Program} {l : Launch} {e : Env} {s : State} {m : MethodId} {args : Array Value} {below : List Frame} {meth : Method} {c : Code} {G : mG} {b0 : Nat} (C : m_C p s m args c cX14_begin 6 RX14 wsX14_begin G b0) (hr : meth.sig.returnType = none) (hlocks : meth.locks = false) {κ : mM → Prop} {R146 : Option Nat → Int32 → mM → Prop} (hR146 : ∀ (l0 : Option Nat) (l1 : Int32) (M : mM), R146 l0 l1 M → m_W p l e ({ frames := 3, cells := 1, slots := 4, locals := 64 } : Room) s m args below meth c G b0 (MQ below (va_Qv κ (m_B G b0) (fun q => b0 ≤ q)) args s 1 4 (fun q => b0 ≤ q)) 6 M 1 4 146 [(0, va_rf l0), (1, .int l1)] []) {R159 : Option Nat → Int32 → Int32 → mM → Prop} (hR159 : ∀ (l0 : Option Nat) (l1 : Int32) (l2 : Int32) (M : mM), R159 l0 l1 l2 M → m_W p l e ({ frames := 3, cells := 1, slots := 4, locals := 64 } : Room) s m args below meth c G b0 (MQ below (va_Qv κ (m_B G b0) (fun q => b0 ≤ q)) args s 1 4 (fun q => b0 ≤ q)) 6 M 1 4 159 [(0, va_rf l0), (1, .int l1), (2, .int l2)] []) {l0 : Option Nat} {l1 : Int32} {l2 : Int32} {l4 : Option Nat} {M : mM} (h : wX14_begin_222 κ R146 R159 l0 l1 l2 l4 M) : m_W p l e ({ frames := 3, cells := 1, slots := 4, locals := 64 } : Room) s m args below meth c G b0 (MQ below (va_Qv κ (m_B G b0) (fun q => b0 ≤ q)) args s 1 4 (fun q => b0 ≤ q)) 6 M 1 4 222 [(0, va_rf l0), (1, .int l1), (2, .int l2), (4, va_rf l4)] [] := by
  unfold wX14_begin_222 at h
  refine q_iconst (pc := 222) C 0 dX14_begin_222 (by decide) ?_
  refine q_istore (pc := 223) C 5 [(5, .int 0), (0, va_rf l0), (1, .int l1), (2, .int l2), (4, va_rf l4)] dX14_begin_223 (by decide) (by first | rfl | simp [q_cat, q_catI, q_catJ, q_catR, q_catN]) ?_
  refine q_widen (k2 := 1) (n2 := 4) (by omega) (by omega) ?_
  refine q_lv [1, 2, 3, 4, 0] rfl ?_
  obtain ⟨f9, h⟩ := h
  exact tX14_begin_225 C hr hlocks hR146 hR159 f9 _ _ _ _ _ _ h
set_option maxRecDepth 100000 in
set_option maxHeartbeats 4000000 in
theorem tX14_begin_159 {p : Program} {l : Launch} {e : Env} {s : State} {m : MethodId} {args : Array Value} {below : List Frame} {meth : Method} {c : Code} {G : mG} {b0 : Nat} (C : m_C p s m args c cX14_begin 6 RX14 wsX14_begin G b0) (hr : meth.sig.returnType = none) (hlocks : meth.locks = false) {κ : mM → Prop} {R146 : Option Nat → Int32 → mM → Prop} (hR146 : ∀ (l0 : Option Nat) (l1 : Int32) (M : mM), R146 l0 l1 M → m_W p l e ({ frames := 3, cells := 1, slots := 4, locals := 64 } : Room) s m args below meth c G b0 (MQ below (va_Qv κ (m_B G b0) (fun q => b0 ≤ q)) args s 1 4 (fun q => b0 ≤ q)) 6 M 1 4 146 [(0, va_rf l0), (1, .int l1)] []) : ∀ (f : Nat) (l0 : Option Nat) (l1 : Int32) (l2 : Int32) (M : mM), wX14_begin_159 κ R146 f l0 l1 l2 M → m_W p l e ({ frames := 3, cells := 1, slots := 4, locals := 64 } : Room) s m args below meth c G b0 (MQ below (va_Qv κ (m_B G b0) (fun q => b0 ≤ q)) args s 1 4 (fun q => b0 ≤ q)) 6 M 1 4 159 [(0, va_rf l0), (1, .int l1), (2, .int l2)] [] := by
  intro f
  induction f with
  | zero =>
    intro l0 l1 l2 M h
    exact absurd h (by simp [wX14_begin_159])
  | succ f ih =>
    intro l0 l1 l2 M h
    rw [wX14_begin_159] at h
    refine q_iload_n (pc := 159) C 2 2 dX14_begin_159 rfl rfl ?_
    refine q_aload_n (pc := 160) C 0 0 dX14_begin_160 rfl rfl ?_
    refine q_gR (pc := 161) C h (T := TX14) rfl (by decide) (wk_u rfl wm_X14_begin uq_X14 (by decide +kernel)) (by decide +kernel) (fun _ h9 => h9) dX14_begin_161 (fun x1 h => ?_)
    obtain ⟨b4, fs9, hb4, hm9, h⟩ := h
    refine q_ci (pc := 164) (q_rV C (st := [.int l2]) (b := b4) (kJx4a65c_size_8abf5 l G b0 h) (cwV 0 C.2.2.2.2.1 gX14_begin_Jx4a65c_size_8abf5 rfl rfl rfl (by decide +kernel) ⟨Nat.le_of_ble_eq_true rfl, Nat.le_of_ble_eq_true rfl⟩) hm9 rfl rfl rfl (by first | exact Nat.le_of_ble_eq_true rfl | (simp [q_cat, q_catI, q_catJ, q_catR, q_catN]; done)) (by rw [hb4]; first | done | rfl) dX14_begin_164 ⟨(by first | omega | (dsimp only; omega)), (by first | omega | (dsimp only; omega))⟩) (fun x2 M3 h => ?_)
    refine q_icmp_ge (pc := 167) C 268 dX14_begin_167 (by decide) (fun c5 => ?_) (fun c5 => ?_)
    · have h := h.1 c5
      refine q_iinc (pc := 268) C 1 1 (l1 + 1) [(1, .int (l1 + 1)), (0, va_rf l0), (2, .int l2)] dX14_begin_268 rfl (by rfl) (by decide) (by first | rfl | simp [q_cat, q_catI, q_catJ, q_catR, q_catN]) ?_
      refine q_goto (pc := 271) C 146 dX14_begin_271 (by decide) ?_
      refine q_widen (k2 := 1) (n2 := 4) (by omega) (by omega) ?_
      refine q_lv [1, 0] rfl ?_
      exact hR146 _ _ _ h
    · have h := h.2 c5
      refine q_aload_n (pc := 170) C 0 0 dX14_begin_170 rfl rfl ?_
      refine q_gR (pc := 171) C h (T := TX14) rfl (by decide) (wk_u rfl wm_X14_begin uq_X14 (by decide +kernel)) (by decide +kernel) (fun _ h9 => h9) dX14_begin_171 (fun x6 h => ?_)
      refine q_iload_n (pc := 174) C 1 1 dX14_begin_174 rfl rfl ?_
      obtain ⟨b9, fs9, hb9, hm9, h⟩ := h
      refine q_cq (pc := 175) (q_rV C (st := []) (b := b9) (kJx4a65c_get_915e3 l G b0 h) (cwV 1 C.2.2.2.2.1 gX14_begin_Jx4a65c_get_915e3 rfl rfl rfl (by decide +kernel) ⟨Nat.le_of_ble_eq_true rfl, Nat.le_of_ble_eq_true rfl⟩) hm9 rfl rfl rfl (by first | exact Nat.le_of_ble_eq_true rfl | (simp [q_cat, q_catI, q_catJ, q_catR, q_catN]; done)) (by rw [hb9]; first | done | rfl) dX14_begin_175 ⟨(by first | omega | (dsimp only; omega)), (by first | omega | (dsimp only; omega))⟩) (fun x7 M8 h => ?_)
      refine q_cast (pc := 178) C h rfl rfl (by decide +kernel) dX14_begin_178 (fun h => ?_)
      refine q_astore_n (pc := 181) C 3 [(3, va_rf x7), (0, va_rf l0), (1, .int l1), (2, .int l2)] dX14_begin_181 rfl (by decide) (by first | rfl | simp [q_cat, q_catI, q_catJ, q_catR, q_catN]) ?_
      refine q_aload_n (pc := 182) C 0 1 dX14_begin_182 rfl rfl ?_
      refine q_gR (pc := 183) C h (T := TX14) rfl (by decide) (wk_u rfl wm_X14_begin uq_X14 (by decide +kernel)) (by decide +kernel) (fun _ h9 => h9) dX14_begin_183 (fun x10 h => ?_)
      refine q_iload_n (pc := 186) C 2 3 dX14_begin_186 rfl rfl ?_
      obtain ⟨b13, fs9, hb13, hm9, h⟩ := h
      refine q_cq (pc := 187) (q_rV C (st := []) (b := b13) (kJx4a65c_get_915e3 l G b0 h) (cwV 1 C.2.2.2.2.1 gX14_begin_Jx4a65c_get_915e3 rfl rfl rfl (by decide +kernel) ⟨Nat.le_of_ble_eq_true rfl, Nat.le_of_ble_eq_true rfl⟩) hm9 rfl rfl rfl (by first | exact Nat.le_of_ble_eq_true rfl | (simp [q_cat, q_catI, q_catJ, q_catR, q_catN]; done)) (by rw [hb13]; first | done | rfl) dX14_begin_187 ⟨(by first | omega | (dsimp only; omega)), (by first | omega | (dsimp only; omega))⟩) (fun x11 M12 h => ?_)
      refine q_cast (pc := 190) C h rfl rfl (by decide +kernel) dX14_begin_190 (fun h => ?_)
      refine q_astore (pc := 193) C 4 [(4, va_rf x11), (3, va_rf x7), (0, va_rf l0), (1, .int l1), (2, .int l2)] dX14_begin_193 (by decide) (by first | rfl | simp [q_cat, q_catI, q_catJ, q_catR, q_catN]) ?_
      refine q_aload_n (pc := 195) C 3 1 dX14_begin_195 rfl rfl ?_
      refine q_aload (pc := 196) C 4 0 dX14_begin_196 rfl ?_
      refine q_gIN (pc := 198) C h (host := "LullabygateModel") (T := TX10) rfl (by decide) (by decide +kernel) 1418 (by decide +kernel) (fun _ h9 => h9) dX14_begin_198 (fun x14 h => ?_)
      obtain ⟨b17, fs9, hb17, hm9, h⟩ := h
      refine q_ci (pc := 201) (q_rV C (st := []) (b := b17) (kX10_has l G b0 h) (cwV 1 C.2.2.2.2.1 gX14_begin_X10_has rfl rfl rfl (by decide +kernel) ⟨Nat.le_of_ble_eq_true rfl, Nat.le_of_ble_eq_true rfl⟩) hm9 rfl rfl rfl (by first | exact Nat.le_of_ble_eq_true rfl | (simp [q_cat, q_catI, q_catJ, q_catR, q_catN]; done)) (by rw [hb17]; first | done | rfl) dX14_begin_201 ⟨(by first | omega | (dsimp only; omega)), (by first | omega | (dsimp only; omega))⟩) (fun x15 M16 h => ?_)
      refine q_if_ne (pc := 204) C 222 dX14_begin_204 (by decide) (fun c18 => ?_) (fun c18 => ?_)
      · have h := h.2 c18
        refine q_widen (k2 := 1) (n2 := 4) (by omega) (by omega) ?_
        refine q_lv [2, 3, 4, 0] rfl ?_
        exact tX14_begin_222 C hr hlocks hR146 ih h
      · have h := h.1 c18
        refine q_aload_n (pc := 207) C 3 1 dX14_begin_207 rfl rfl ?_
        refine q_aload (pc := 208) C 4 0 dX14_begin_208 rfl ?_
        refine q_gIN (pc := 210) C h (host := "LullabygateModel") (T := TX10) rfl (by decide) (by decide +kernel) 1420 (by decide +kernel) (fun _ h9 => h9) dX14_begin_210 (fun x19 h => ?_)
        obtain ⟨b22, fs9, hb22, hm9, h⟩ := h
        refine q_ci (pc := 213) (q_rV C (st := []) (b := b22) (kX10_has l G b0 h) (cwV 1 C.2.2.2.2.1 gX14_begin_X10_has rfl rfl rfl (by decide +kernel) ⟨Nat.le_of_ble_eq_true rfl, Nat.le_of_ble_eq_true rfl⟩) hm9 rfl rfl rfl (by first | exact Nat.le_of_ble_eq_true rfl | (simp [q_cat, q_catI, q_catJ, q_catR, q_catN]; done)) (by rw [hb22]; first | done | rfl) dX14_begin_213 ⟨(by first | omega | (dsimp only; omega)), (by first | omega | (dsimp only; omega))⟩) (fun x20 M21 h => ?_)
        refine q_if_ne (pc := 216) C 222 dX14_begin_216 (by decide) (fun c23 => ?_) (fun c23 => ?_)
        · have h := h.2 c23
          refine q_widen (k2 := 1) (n2 := 4) (by omega) (by omega) ?_
          refine q_lv [2, 3, 4, 0] rfl ?_
          exact tX14_begin_222 C hr hlocks hR146 ih h
        · have h := h.1 c23
          refine q_goto (pc := 219) C 262 dX14_begin_219 (by decide) ?_
          refine q_widen (k2 := 1) (n2 := 4) (by omega) (by omega) ?_
          refine q_lv [2, 3, 4] rfl ?_
          exact tX14_begin_262 C hr hlocks hR146 ih h
set_option maxRecDepth 100000 in
set_option maxHeartbeats 4000000 in
theorem tX14_begin_146 {p : Program} {l : Launch} {e : Env} {s : State} {m : MethodId} {args : Array Value} {below : List Frame} {meth : Method} {c : Code} {G : mG} {b0 : Nat} (C : m_C p s m args c cX14_begin 6 RX14 wsX14_begin G b0) (hr : meth.sig.returnType = none) (hlocks : meth.locks = false) {κ : mM → Prop} : ∀ (f : Nat) (l0 : Option Nat) (l1 : Int32) (M : mM), wX14_begin_146 κ f l0 l1 M → m_W p l e ({ frames := 3, cells := 1, slots := 4, locals := 64 } : Room) s m args below meth c G b0 (MQ below (va_Qv κ (m_B G b0) (fun q => b0 ≤ q)) args s 1 4 (fun q => b0 ≤ q)) 6 M 1 4 146 [(0, va_rf l0), (1, .int l1)] [] := by
  intro f
  induction f with
  | zero =>
    intro l0 l1 M h
    exact absurd h (by simp [wX14_begin_146])
  | succ f ih =>
    intro l0 l1 M h
    rw [wX14_begin_146] at h
    refine q_iload_n (pc := 146) C 1 1 dX14_begin_146 rfl rfl ?_
    refine q_aload_n (pc := 147) C 0 0 dX14_begin_147 rfl rfl ?_
    refine q_gR (pc := 148) C h (T := TX14) rfl (by decide) (wk_u rfl wm_X14_begin uq_X14 (by decide +kernel)) (by decide +kernel) (fun _ h9 => h9) dX14_begin_148 (fun x1 h => ?_)
    obtain ⟨b4, fs9, hb4, hm9, h⟩ := h
    refine q_ci (pc := 151) (q_rV C (st := [.int l1]) (b := b4) (kJx4a65c_size_8abf5 l G b0 h) (cwV 0 C.2.2.2.2.1 gX14_begin_Jx4a65c_size_8abf5 rfl rfl rfl (by decide +kernel) ⟨Nat.le_of_ble_eq_true rfl, Nat.le_of_ble_eq_true rfl⟩) hm9 rfl rfl rfl (by first | exact Nat.le_of_ble_eq_true rfl | (simp [q_cat, q_catI, q_catJ, q_catR, q_catN]; done)) (by rw [hb4]; first | done | rfl) dX14_begin_151 ⟨(by first | omega | (dsimp only; omega)), (by first | omega | (dsimp only; omega))⟩) (fun x2 M3 h => ?_)
    refine q_icmp_ge (pc := 154) C 274 dX14_begin_154 (by decide) (fun c5 => ?_) (fun c5 => ?_)
    · have h := h.1 c5
      refine q_iconst (pc := 274) C 0 dX14_begin_274 (by decide) ?_
      refine q_istore_n (pc := 275) C 1 [(1, .int 0), (0, va_rf l0)] dX14_begin_275 rfl (by decide) (by first | rfl | simp [q_cat, q_catI, q_catJ, q_catR, q_catN]) ?_
      refine q_widen (k2 := 1) (n2 := 4) (by omega) (by omega) ?_
      refine q_lv [1, 0] rfl ?_
      obtain ⟨f9, h⟩ := h
      exact tX14_begin_276 C hr hlocks f9 _ _ _ h
    · have h := h.2 c5
      refine q_iconst (pc := 157) C 0 dX14_begin_157 (by decide) ?_
      refine q_istore_n (pc := 158) C 2 [(2, .int 0), (0, va_rf l0), (1, .int l1)] dX14_begin_158 rfl (by decide) (by first | rfl | simp [q_cat, q_catI, q_catJ, q_catR, q_catN]) ?_
      refine q_widen (k2 := 1) (n2 := 4) (by omega) (by omega) ?_
      refine q_lv [1, 2, 0] rfl ?_
      obtain ⟨f9, h⟩ := h
      exact tX14_begin_159 C hr hlocks ih f9 _ _ _ _ h
set_option maxRecDepth 100000 in
set_option maxHeartbeats 4000000 in
theorem tX14_begin_122 {p : Program} {l : Launch} {e : Env} {s : State} {m : MethodId} {args : Array Value} {below : List Frame} {meth : Method} {c : Code} {G : mG} {b0 : Nat} (C : m_C p s m args c cX14_begin 6 RX14 wsX14_begin G b0) (hr : meth.sig.returnType = none) (hlocks : meth.locks = false) {κ : mM → Prop} : ∀ (f : Nat) (l0 : Option Nat) (l1 : Int32) (M : mM), wX14_begin_122 κ f l0 l1 M → m_W p l e ({ frames := 3, cells := 1, slots := 4, locals := 64 } : Room) s m args below meth c G b0 (MQ below (va_Qv κ (m_B G b0) (fun q => b0 ≤ q)) args s 1 4 (fun q => b0 ≤ q)) 6 M 1 4 122 [(0, va_rf l0), (1, .int l1)] [] := by
  intro f
  induction f with
  | zero =>
    intro l0 l1 M h
    exact absurd h (by simp [wX14_begin_122])
  | succ f ih =>
    intro l0 l1 M h
    rw [wX14_begin_122] at h
    refine q_iload_n (pc := 122) C 1 1 dX14_begin_122 rfl rfl ?_
    refine q_aload_n (pc := 123) C 0 0 dX14_begin_123 rfl rfl ?_
    refine q_gR (pc := 124) C h (T := TX14) rfl (by decide) (wk_u rfl wm_X14_begin uq_X14 (by decide +kernel)) (by decide +kernel) (fun _ h9 => h9) dX14_begin_124 (fun x1 h => ?_)
    refine q_len (pc := 127) C h dX14_begin_127 (fun x2 h => ?_)
    refine q_icmp_ge (pc := 128) C 144 dX14_begin_128 (by decide) (fun c3 => ?_) (fun c3 => ?_)
    · have h := h.1 c3
      refine q_iconst (pc := 144) C 0 dX14_begin_144 (by decide) ?_
      refine q_istore_n (pc := 145) C 1 [(1, .int 0), (0, va_rf l0)] dX14_begin_145 rfl (by decide) (by first | rfl | simp [q_cat, q_catI, q_catJ, q_catR, q_catN]) ?_
      refine q_widen (k2 := 1) (n2 := 4) (by omega) (by omega) ?_
      refine q_lv [1, 0] rfl ?_
      obtain ⟨f9, h⟩ := h
      exact tX14_begin_146 C hr hlocks f9 _ _ _ h
    · have h := h.2 c3
      refine q_aload_n (pc := 131) C 0 0 dX14_begin_131 rfl rfl ?_
      refine q_gR (pc := 132) C h (T := TX14) rfl (by decide) (wk_u rfl wm_X14_begin uq_X14 (by decide +kernel)) (by decide +kernel) (fun _ h9 => h9) dX14_begin_132 (fun x4 h => ?_)
      refine q_iload_n (pc := 135) C 1 1 dX14_begin_135 rfl rfl ?_
      refine q_iconst (pc := 136) C 0 dX14_begin_136 (by decide) ?_
      refine q_zast (pc := 137) C h dX14_begin_137 (fun M5 h => ?_)
      refine q_iinc (pc := 138) C 1 1 (l1 + 1) [(1, .int (l1 + 1)), (0, va_rf l0)] dX14_begin_138 rfl (by rfl) (by decide) (by first | rfl | simp [q_cat, q_catI, q_catJ, q_catR, q_catN]) ?_
      refine q_goto (pc := 141) C 122 dX14_begin_141 (by decide) ?_
      refine q_widen (k2 := 1) (n2 := 4) (by omega) (by omega) ?_
      refine q_lv [1, 0] rfl ?_
      exact ih _ _ _ h
set_option maxRecDepth 100000 in
set_option maxHeartbeats 4000000 in
theorem tX14_begin_120 {p : Program} {l : Launch} {e : Env} {s : State} {m : MethodId} {args : Array Value} {below : List Frame} {meth : Method} {c : Code} {G : mG} {b0 : Nat} (C : m_C p s m args c cX14_begin 6 RX14 wsX14_begin G b0) (hr : meth.sig.returnType = none) (hlocks : meth.locks = false) {κ : mM → Prop} {l0 : Option Nat} {M : mM} (h : wX14_begin_120 κ l0 M) : m_W p l e ({ frames := 3, cells := 1, slots := 4, locals := 64 } : Room) s m args below meth c G b0 (MQ below (va_Qv κ (m_B G b0) (fun q => b0 ≤ q)) args s 1 4 (fun q => b0 ≤ q)) 6 M 1 4 120 [(0, va_rf l0)] [] := by
  unfold wX14_begin_120 at h
  refine q_iconst (pc := 120) C 0 dX14_begin_120 (by decide) ?_
  refine q_istore_n (pc := 121) C 1 [(1, .int 0), (0, va_rf l0)] dX14_begin_121 rfl (by decide) (by first | rfl | simp [q_cat, q_catI, q_catJ, q_catR, q_catN]) ?_
  refine q_widen (k2 := 1) (n2 := 4) (by omega) (by omega) ?_
  refine q_lv [1, 0] rfl ?_
  obtain ⟨f9, h⟩ := h
  exact tX14_begin_122 C hr hlocks f9 _ _ _ h
set_option maxRecDepth 100000 in
set_option maxHeartbeats 4000000 in
theorem tX14_begin_117 {p : Program} {l : Launch} {e : Env} {s : State} {m : MethodId} {args : Array Value} {below : List Frame} {meth : Method} {c : Code} {G : mG} {b0 : Nat} (C : m_C p s m args c cX14_begin 6 RX14 wsX14_begin G b0) (hr : meth.sig.returnType = none) (hlocks : meth.locks = false) {κ : mM → Prop} {R74 : Option Nat → Option Nat → mM → Prop} (hR74 : ∀ (l0 : Option Nat) (l1 : Option Nat) (M : mM), R74 l0 l1 M → m_W p l e ({ frames := 3, cells := 1, slots := 4, locals := 64 } : Room) s m args below meth c G b0 (MQ below (va_Qv κ (m_B G b0) (fun q => b0 ≤ q)) args s 1 4 (fun q => b0 ≤ q)) 6 M 1 4 74 [(0, va_rf l0), (1, va_rf l1)] []) {l0 : Option Nat} {l1 : Option Nat} {M : mM} (h : wX14_begin_117 κ R74 l0 l1 M) : m_W p l e ({ frames := 3, cells := 1, slots := 4, locals := 64 } : Room) s m args below meth c G b0 (MQ below (va_Qv κ (m_B G b0) (fun q => b0 ≤ q)) args s 1 4 (fun q => b0 ≤ q)) 6 M 1 4 117 [(0, va_rf l0), (1, va_rf l1)] [] := by
  unfold wX14_begin_117 at h
  refine q_goto (pc := 117) C 74 dX14_begin_117 (by decide) ?_
  refine q_widen (k2 := 1) (n2 := 4) (by omega) (by omega) ?_
  refine q_lv [0, 1] rfl ?_
  exact hR74 _ _ _ h
set_option maxRecDepth 100000 in
set_option maxHeartbeats 4000000 in
theorem tX14_begin_74 {p : Program} {l : Launch} {e : Env} {s : State} {m : MethodId} {args : Array Value} {below : List Frame} {meth : Method} {c : Code} {G : mG} {b0 : Nat} (C : m_C p s m args c cX14_begin 6 RX14 wsX14_begin G b0) (hr : meth.sig.returnType = none) (hlocks : meth.locks = false) {κ : mM → Prop} : ∀ (f : Nat) (l0 : Option Nat) (l1 : Option Nat) (M : mM), wX14_begin_74 κ f l0 l1 M → m_W p l e ({ frames := 3, cells := 1, slots := 4, locals := 64 } : Room) s m args below meth c G b0 (MQ below (va_Qv κ (m_B G b0) (fun q => b0 ≤ q)) args s 1 4 (fun q => b0 ≤ q)) 6 M 1 4 74 [(0, va_rf l0), (1, va_rf l1)] [] := by
  intro f
  induction f with
  | zero =>
    intro l0 l1 M h
    exact absurd h (by simp [wX14_begin_74])
  | succ f ih =>
    intro l0 l1 M h
    rw [wX14_begin_74] at h
    refine q_aload_n (pc := 74) C 1 1 dX14_begin_74 rfl rfl ?_
    obtain ⟨b1, fs9, hb1, hm9, h⟩ := h
    refine q_cFi (pc := 75) C (st := []) (b := b1) (kJx35411_hasNext_aae02 l G b0 h) (va_cwF 0 C.2.2.2.2.1 gX14_begin_Jx35411_hasNext_aae02_f268Jx35411 rfl rfl rfl C.2.2.2.2.2.2.1.2.2.2.2.2.2.2.1 (by decide +kernel) ⟨Nat.le_of_ble_eq_true rfl, Nat.le_of_ble_eq_true rfl⟩) hm9 rfl rfl rfl (by first | exact Nat.le_of_ble_eq_true rfl | (simp [q_cat, q_catI, q_catJ, q_catR, q_catN]; done)) (by rw [hb1]; first | done | rfl) dX14_begin_75 ⟨(by first | omega | (dsimp only; omega)), (by first | omega | (dsimp only; omega))⟩ (fun x2 M3 h => ?_)
    refine q_if_eq (pc := 80) C 120 dX14_begin_80 (by decide) (fun c4 => ?_) (fun c4 => ?_)
    · have h := h.1 c4
      refine q_widen (k2 := 1) (n2 := 4) (by omega) (by omega) ?_
      refine q_lv [0] rfl ?_
      exact tX14_begin_120 C hr hlocks h
    · have h := h.2 c4
      refine q_aload_n (pc := 83) C 1 1 dX14_begin_83 rfl rfl ?_
      obtain ⟨b5, fs9, hb5, hm9, h⟩ := h
      refine q_cFq (pc := 84) C (st := []) (b := b5) (kJx35411_next_0502b l G b0 h) (va_cwF 0 C.2.2.2.2.1 gX14_begin_Jx35411_next_0502b_f273Jx35411 rfl rfl rfl C.2.2.2.2.2.2.1.2.2.2.2.2.2.2.2.1 (by decide +kernel) ⟨Nat.le_of_ble_eq_true rfl, Nat.le_of_ble_eq_true rfl⟩) hm9 rfl rfl rfl (by first | exact Nat.le_of_ble_eq_true rfl | (simp [q_cat, q_catI, q_catJ, q_catR, q_catN]; done)) (by rw [hb5]; first | done | rfl) dX14_begin_84 ⟨(by first | omega | (dsimp only; omega)), (by first | omega | (dsimp only; omega))⟩ (fun x6 M7 h => ?_)
      refine q_cast (pc := 89) C h rfl rfl (by decide +kernel) dX14_begin_89 (fun h => ?_)
      refine q_astore_n (pc := 92) C 2 [(2, va_rf x6), (0, va_rf l0), (1, va_rf l1)] dX14_begin_92 rfl (by decide) (by first | rfl | simp [q_cat, q_catI, q_catJ, q_catR, q_catN]) ?_
      refine q_aload_n (pc := 93) C 2 0 dX14_begin_93 rfl rfl ?_
      refine q_gIN (pc := 94) C h (host := "LullabygateModel") (T := TX13) rfl (by decide) (by decide +kernel) 1485 (by decide +kernel) (fun _ h9 => h9) dX14_begin_94 (fun x8 h => ?_)
      refine q_iconst (pc := 97) C (-1) dX14_begin_97 (by decide) ?_
      refine q_icmp_eq (pc := 98) C 117 dX14_begin_98 (by decide) (fun c9 => ?_) (fun c9 => ?_)
      · have h := h.1 c9
        refine q_widen (k2 := 1) (n2 := 4) (by omega) (by omega) ?_
        refine q_lv [1, 2] rfl ?_
        exact tX14_begin_117 C hr hlocks ih h
      · have h := h.2 c9
        refine q_aload_n (pc := 101) C 2 0 dX14_begin_101 rfl rfl ?_
        refine q_gIN (pc := 102) C h (host := "LullabygateModel") (T := TX13) rfl (by decide) (by decide +kernel) 1483 (by decide +kernel) (fun _ h9 => h9) dX14_begin_102 (fun x10 h => ?_)
        refine q_aload_n (pc := 105) C 0 1 dX14_begin_105 rfl rfl ?_
        refine q_gI (pc := 106) C h (T := TX14) rfl (by decide) (wk_u rfl wm_X14_begin uq_X14 (by decide +kernel)) (by decide +kernel) (fun _ h9 => h9) dX14_begin_106 (fun x11 h => ?_)
        refine q_icmp_ge (pc := 109) C 117 dX14_begin_109 (by decide) (fun c12 => ?_) (fun c12 => ?_)
        · have h := h.1 c12
          refine q_widen (k2 := 1) (n2 := 4) (by omega) (by omega) ?_
          refine q_lv [1, 2] rfl ?_
          exact tX14_begin_117 C hr hlocks ih h
        · have h := h.2 c12
          refine q_aload_n (pc := 112) C 2 0 dX14_begin_112 rfl rfl ?_
          refine q_iconst (pc := 113) C (-1) dX14_begin_113 (by decide) ?_
          refine q_pN (pc := 114) C h .int (host := "LullabygateModel") (T := TX13) tyX13 tyX13_ok nmX13 rfl (by decide +kernel) rfl rfl rfl (by decide) (by decide +kernel) 1485 (by decide +kernel) (fun _ h9 => h9) rfl dX14_begin_114 (fun M13 h => ?_)
          refine q_widen (k2 := 1) (n2 := 4) (by omega) (by omega) ?_
          refine q_lv [1, 2] rfl ?_
          exact tX14_begin_117 C hr hlocks ih h
set_option maxRecDepth 100000 in
set_option maxHeartbeats 4000000 in
theorem tX14_begin_44 {p : Program} {l : Launch} {e : Env} {s : State} {m : MethodId} {args : Array Value} {below : List Frame} {meth : Method} {c : Code} {G : mG} {b0 : Nat} (C : m_C p s m args c cX14_begin 6 RX14 wsX14_begin G b0) (hr : meth.sig.returnType = none) (hlocks : meth.locks = false) {κ : mM → Prop} : ∀ (f : Nat) (l0 : Option Nat) (l1 : Option Nat) (l2 : Int32) (l3 : Int32) (M : mM), wX14_begin_44 κ f l0 l1 l2 l3 M → m_W p l e ({ frames := 3, cells := 1, slots := 4, locals := 64 } : Room) s m args below meth c G b0 (MQ below (va_Qv κ (m_B G b0) (fun q => b0 ≤ q)) args s 1 4 (fun q => b0 ≤ q)) 6 M 0 0 44 [(0, va_rf l0), (1, va_rf l1), (2, .int l2), (3, .int l3)] [] := by
  intro f
  induction f with
  | zero =>
    intro l0 l1 l2 l3 M h
    exact absurd h (by simp [wX14_begin_44])
  | succ f ih =>
    intro l0 l1 l2 l3 M h
    rw [wX14_begin_44] at h
    refine q_iload_n (pc := 44) C 3 3 dX14_begin_44 rfl rfl ?_
    refine q_iload_n (pc := 45) C 2 2 dX14_begin_45 rfl rfl ?_
    refine q_icmp_ge (pc := 46) C 66 dX14_begin_46 (by decide) (fun c1 => ?_) (fun c1 => ?_)
    · have h := h.1 c1
      refine q_aload_n (pc := 66) C 0 0 dX14_begin_66 rfl rfl ?_
      refine q_gR (pc := 67) C h (T := TX14) rfl (by decide) (wk_u rfl wm_X14_begin uq_X14 (by decide +kernel)) (by decide +kernel) (fun _ h9 => h9) dX14_begin_67 (fun x2 h => ?_)
      obtain ⟨b5, fs9, hb5, hm9, h⟩ := h
      refine q_cq (pc := 70) (q_rV C (st := []) (b := b5) (kJx4a65c_iterator_32c93 l G b0 h) (cwV 0 C.2.2.2.2.1 gX14_begin_Jx4a65c_iterator_32c93 rfl rfl rfl (by decide +kernel) ⟨Nat.le_of_ble_eq_true rfl, Nat.le_of_ble_eq_true rfl⟩) hm9 rfl rfl rfl (by first | exact Nat.le_of_ble_eq_true rfl | (simp [q_cat, q_catI, q_catJ, q_catR, q_catN]; done)) (by rw [hb5]; first | done | rfl) dX14_begin_70 ⟨(by first | omega | (dsimp only; omega)), (by first | omega | (dsimp only; omega))⟩) (fun x3 M4 h => ?_)
      refine q_astore_n (pc := 73) C 1 [(1, va_rf x3), (0, va_rf l0), (2, .int l2), (3, .int l3)] dX14_begin_73 rfl (by decide) (by first | rfl | simp [q_cat, q_catI, q_catJ, q_catR, q_catN]) ?_
      refine q_widen (k2 := 1) (n2 := 4) (by omega) (by omega) ?_
      refine q_lv [1, 0] rfl ?_
      obtain ⟨f9, h⟩ := h
      exact tX14_begin_74 C hr hlocks f9 _ _ _ h
    · have h := h.2 c1
      refine q_aload_n (pc := 49) C 1 1 dX14_begin_49 rfl rfl ?_
      refine q_iload_n (pc := 50) C 3 3 dX14_begin_50 rfl rfl ?_
      refine q_aald (pc := 51) C h rfl dX14_begin_51 (fun x6 h => ?_)
      refine q_astore (pc := 52) C 4 [(4, va_rf x6), (0, va_rf l0), (1, va_rf l1), (2, .int l2), (3, .int l3)] dX14_begin_52 (by decide) (by first | rfl | simp [q_cat, q_catI, q_catJ, q_catR, q_catN]) ?_
      refine q_aload (pc := 54) C 4 0 dX14_begin_54 rfl ?_
      refine q_iconst (pc := 56) C 0 dX14_begin_56 (by decide) ?_
      refine q_pN (pc := 57) C h .int (host := "LullabygateModel") (T := TX11) tyX11 tyX11_ok nmX11 rfl (by decide +kernel) rfl rfl rfl (by decide) (by decide +kernel) 1324 (by decide +kernel) (fun _ h9 => h9) rfl dX14_begin_57 (fun M7 h => ?_)
      refine q_iinc (pc := 60) C 3 4 (l3 + 1) [(3, .int (l3 + 1)), (4, va_rf x6), (0, va_rf l0), (1, va_rf l1), (2, .int l2)] dX14_begin_60 rfl (by rfl) (by decide) (by first | rfl | simp [q_cat, q_catI, q_catJ, q_catR, q_catN]) ?_
      refine q_goto (pc := 63) C 44 dX14_begin_63 (by decide) ?_
      refine q_widen (k2 := 0) (n2 := 0) (by omega) (by omega) ?_
      refine q_lv [2, 3, 4, 0] rfl ?_
      exact ih _ _ _ _ _ h
set_option maxRecDepth 100000 in
set_option maxHeartbeats 4000000 in
theorem tX14_begin {p : Program} {l : Launch} {e : Env} {s : State} {m : MethodId} {args : Array Value} {below : List Frame} {meth : Method} {c : Code} {G : mG} {b0 : Nat} (C : m_C p s m args c cX14_begin 6 RX14 wsX14_begin G b0) (hr : meth.sig.returnType = none) (hlocks : meth.locks = false) {κ : mM → Prop} {l0 : Option Nat} {M : mM} (h : wX14_begin κ l0 M) : m_W p l e ({ frames := 3, cells := 1, slots := 4, locals := 64 } : Room) s m args below meth c G b0 (MQ below (va_Qv κ (m_B G b0) (fun q => b0 ≤ q)) args s 1 4 (fun q => b0 ≤ q)) 6 M 0 0 0 [(0, va_rf l0)] [] := by
  unfold wX14_begin at h
  refine q_aload_n (pc := 0) C 0 0 dX14_begin_0 rfl rfl ?_
  refine q_dup (pc := 1) C dX14_begin_1 (q_cat _) ?_
  refine q_gI (pc := 2) C h (T := TX14) rfl (by decide) (wk_u rfl wm_X14_begin uq_X14 (by decide +kernel)) (by decide +kernel) (fun _ h9 => h9) dX14_begin_2 (fun x1 h => ?_)
  refine q_iconst (pc := 5) C 1 dX14_begin_5 (by decide) ?_
  refine q_iadd (pc := 6) C dX14_begin_6 ?_
  refine q_p (pc := 7) C h .int (T := TX14) tyX14 tyX14_ok nmX14 rfl (by decide +kernel) rfl rfl rfl (by decide) (wk_u rfl wm_X14_begin uq_X14 (by decide +kernel)) (by decide +kernel) (fun _ h9 => h9) rfl dX14_begin_7 (fun M2 h => ?_)
  refine q_aload_n (pc := 10) C 0 0 dX14_begin_10 rfl rfl ?_
  refine q_gI (pc := 11) C h (T := TX14) rfl (by decide) (wk_u rfl wm_X14_begin uq_X14 (by decide +kernel)) (by decide +kernel) (fun _ h9 => h9) dX14_begin_11 (fun x3 h => ?_)
  refine q_bipush (pc := 14) C 24 dX14_begin_14 (by decide) ?_
  refine q_icmp_ne (pc := 16) C 120 dX14_begin_16 (by decide) (fun c4 => ?_) (fun c4 => ?_)
  · have h := h.2 c4
    refine q_widen (k2 := 1) (n2 := 4) (by omega) (by omega) ?_
    refine q_lv [0] rfl ?_
    exact tX14_begin_120 C hr hlocks h
  · have h := h.1 c4
    refine q_aload_n (pc := 19) C 0 0 dX14_begin_19 rfl rfl ?_
    refine q_iconst (pc := 20) C 0 dX14_begin_20 (by decide) ?_
    refine q_p (pc := 21) C h .int (T := TX14) tyX14 tyX14_ok nmX14 rfl (by decide +kernel) rfl rfl rfl (by decide) (wk_u rfl wm_X14_begin uq_X14 (by decide +kernel)) (by decide +kernel) (fun _ h9 => h9) rfl dX14_begin_21 (fun M5 h => ?_)
    refine q_aload_n (pc := 24) C 0 0 dX14_begin_24 rfl rfl ?_
    refine q_dup (pc := 25) C dX14_begin_25 (q_cat _) ?_
    refine q_gI (pc := 26) C h (T := TX14) rfl (by decide) (wk_u rfl wm_X14_begin uq_X14 (by decide +kernel)) (by decide +kernel) (fun _ h9 => h9) dX14_begin_26 (fun x6 h => ?_)
    refine q_iconst (pc := 29) C 1 dX14_begin_29 (by decide) ?_
    refine q_iadd (pc := 30) C dX14_begin_30 ?_
    refine q_p (pc := 31) C h .int (T := TX14) tyX14 tyX14_ok nmX14 rfl (by decide +kernel) rfl rfl rfl (by decide) (wk_u rfl wm_X14_begin uq_X14 (by decide +kernel)) (by decide +kernel) (fun _ h9 => h9) rfl dX14_begin_31 (fun M7 h => ?_)
    refine q_aload_n (pc := 34) C 0 0 dX14_begin_34 rfl rfl ?_
    refine q_gR (pc := 35) C h (T := TX14) rfl (by decide) (wk_u rfl wm_X14_begin uq_X14 (by decide +kernel)) (by decide +kernel) (fun _ h9 => h9) dX14_begin_35 (fun x8 h => ?_)
    refine q_astore_n (pc := 38) C 1 [(1, va_rf x8), (0, va_rf l0)] dX14_begin_38 rfl (by decide) (by first | rfl | simp [q_cat, q_catI, q_catJ, q_catR, q_catN]) ?_
    refine q_aload_n (pc := 39) C 1 0 dX14_begin_39 rfl rfl ?_
    refine q_len (pc := 40) C h dX14_begin_40 (fun x9 h => ?_)
    refine q_istore_n (pc := 41) C 2 [(2, .int x9), (1, va_rf x8), (0, va_rf l0)] dX14_begin_41 rfl (by decide) (by first | rfl | simp [q_cat, q_catI, q_catJ, q_catR, q_catN]) ?_
    refine q_iconst (pc := 42) C 0 dX14_begin_42 (by decide) ?_
    refine q_istore_n (pc := 43) C 3 [(3, .int 0), (2, .int x9), (1, va_rf x8), (0, va_rf l0)] dX14_begin_43 rfl (by decide) (by first | rfl | simp [q_cat, q_catI, q_catJ, q_catR, q_catN]) ?_
    refine q_widen (k2 := 0) (n2 := 0) (by omega) (by omega) ?_
    refine q_lv [3, 2, 1, 0] rfl ?_
    obtain ⟨f9, h⟩ := h
    exact tX14_begin_44 C hr hlocks f9 _ _ _ _ _ h
set_option maxRecDepth 100000 in
set_option maxHeartbeats 4000000 in
theorem kX14_begin (l : Launch) (G : mG) (b0 : Nat) {b : Nat} {M : mM} {κ : mM → Prop} (h : wX14_begin κ (some b) M) : Met l yX14_begin wsX14_begin ({ frames := 3, cells := 1, slots := 4, locals := 64 } : Room) (va_Pc [.ref b] (m_Pre G b0 M)) (va_Qv κ (m_B G b0) (fun q => b0 ≤ q)) 1 4 (fun q => b0 ≤ q) := by
  refine m_met (cc := cX14_begin) (maxL := 6) (ret := none) (lv := [(0, va_rf (some b))]) RX14 rfl (by decide +kernel) rfl (by first | exact Nat.le_of_ble_eq_true rfl | simp [lg_sl, q_cat, q_catI, q_catJ, q_catR, q_catN]) (by first | rfl | (simp [lv_args, q_cat, q_catI, q_catJ, q_catR, q_catN]; done) | (simp [lv_args, q_cat, q_catI, q_catJ, q_catR, q_catN]; rfl)) ?_
  intro p e s m args below meth c C hr hlocks hni
  exact tX14_begin C hr hlocks h
/-! X14_pass -/
set_option maxRecDepth 100000 in
set_option maxHeartbeats 4000000 in
theorem tX14_pass_48 {p : Program} {l : Launch} {e : Env} {s : State} {m : MethodId} {args : Array Value} {below : List Frame} {meth : Method} {c : Code} {G : mG} {b0 : Nat} (C : m_C p s m args c cX14_pass 3 RX14 wsX14_pass G b0) (hr : meth.sig.returnType = (some .int)) (hlocks : meth.locks = false) {κ : Int32 → mM → Prop} : ∀ (f : Nat) (k9 n9 : Nat) (l0 : Option Nat) (l1 : Int32) (l2 : Int32) (M : mM), wX14_pass_48 κ f k9 n9 l0 l1 l2 M → m_W p l e ({ frames := 4, cells := 48, slots := 192, locals := 89 } : Room) s m args below meth c G b0 (MQ below (va_Qi κ (m_B G b0) (fun q => b0 ≤ q)) args s 48 192 (fun q => b0 ≤ q)) 3 M k9 n9 48 [(0, va_rf l0), (1, .int l1), (2, .int l2)] [] := by
  intro f
  induction f with
  | zero =>
    intro k9 n9 l0 l1 l2 M h
    exact absurd h (by simp [wX14_pass_48])
  | succ f ih =>
    intro k9 n9 l0 l1 l2 M h
    rw [wX14_pass_48] at h
    obtain ⟨hbk, h⟩ := h
    refine q_iload_n (pc := 48) C 2 2 dX14_pass_48 rfl rfl ?_
    refine q_iload_n (pc := 49) C 1 1 dX14_pass_49 rfl rfl ?_
    refine q_icmp_ge (pc := 50) C 63 dX14_pass_50 (by decide) (fun c1 => ?_) (fun c1 => ?_)
    · have h := h.1 c1
      refine q_aload_n (pc := 63) C 0 0 dX14_pass_63 rfl rfl ?_
      refine q_gI (pc := 64) C h (T := TX14) rfl (by decide) (wk_u rfl wm_X14_pass uq_X14 (by decide +kernel)) (by decide +kernel) (fun _ h9 => h9) dX14_pass_64 (fun x2 h => ?_)
      obtain ⟨hbk, h⟩ := h
      exact q_iret (pc := 67) C hr hlocks h dX14_pass_67 (by omega) (by omega)
    · have h := h.2 c1
      refine q_aload_n (pc := 53) C 0 0 dX14_pass_53 rfl rfl ?_
      obtain ⟨hbk, h⟩ := h
      obtain ⟨b4, fs9, hb4, hm9, h⟩ := h
      refine q_cv (pc := 54) (q_rV C (st := []) (b := b4) (kX14_begin l G b0 h) (cwV 0 C.2.2.2.2.1 gX14_pass_X14_begin rfl rfl rfl (by decide +kernel) ⟨Nat.le_of_ble_eq_true rfl, Nat.le_of_ble_eq_true rfl⟩) hm9 rfl rfl rfl (by first | exact Nat.le_of_ble_eq_true rfl | (simp [q_cat, q_catI, q_catJ, q_catR, q_catN]; done)) (by rw [hb4]; first | done | rfl) dX14_pass_54 ⟨(by first | omega | (dsimp only; omega)), (by first | omega | (dsimp only; omega))⟩) (fun M3 h => ?_)
      refine q_iinc (pc := 57) C 2 2 (l2 + 1) [(2, .int (l2 + 1)), (0, va_rf l0), (1, .int l1)] dX14_pass_57 rfl (by rfl) (by decide) (by first | rfl | simp [q_cat, q_catI, q_catJ, q_catR, q_catN]) ?_
      refine q_goto (pc := 60) C 48 dX14_pass_60 (by decide) ?_
      refine q_lv [1, 2, 0] rfl ?_
      exact ih _ _ _ _ _ _ h
set_option maxRecDepth 100000 in
set_option maxHeartbeats 4000000 in
theorem tX14_pass {p : Program} {l : Launch} {e : Env} {s : State} {m : MethodId} {args : Array Value} {below : List Frame} {meth : Method} {c : Code} {G : mG} {b0 : Nat} (C : m_C p s m args c cX14_pass 3 RX14 wsX14_pass G b0) (hr : meth.sig.returnType = (some .int)) (hlocks : meth.locks = false) {κ : Int32 → mM → Prop} {l0 : Option Nat} {l1 : Int32} {M : mM} (h : wX14_pass κ l0 l1 M) : m_W p l e ({ frames := 4, cells := 48, slots := 192, locals := 89 } : Room) s m args below meth c G b0 (MQ below (va_Qi κ (m_B G b0) (fun q => b0 ≤ q)) args s 48 192 (fun q => b0 ≤ q)) 3 M 0 0 0 [(0, va_rf l0), (1, .int l1)] [] := by
  unfold wX14_pass at h
  refine q_aload_n (pc := 0) C 0 0 dX14_pass_0 rfl rfl ?_
  refine q_iconst (pc := 1) C 0 dX14_pass_1 (by decide) ?_
  refine q_p (pc := 2) C h .int (T := TX14) tyX14 tyX14_ok nmX14 rfl (by decide +kernel) rfl rfl rfl (by decide) (wk_u rfl wm_X14_pass uq_X14 (by decide +kernel)) (by decide +kernel) (fun _ h9 => h9) rfl dX14_pass_2 (fun M1 h => ?_)
  refine q_iload_n (pc := 5) C 1 1 dX14_pass_5 rfl rfl ?_
  refine q_iconst (pc := 6) C 1 dX14_pass_6 (by decide) ?_
  refine q_bipush (pc := 7) C 48 dX14_pass_7 (by decide) ?_
  refine q_ci (pc := 9) (q_rS C (st := []) (kX14_is l G b0 h) (va_cwS 3 C.2.2.2.2.1 gX14_pass_X14_is rfl rfl rfl (by decide +kernel) ⟨Nat.le_of_ble_eq_true rfl, Nat.le_of_ble_eq_true rfl⟩) rfl (by first | exact Nat.le_of_ble_eq_true rfl | (simp [q_cat, q_catI, q_catJ, q_catR, q_catN]; done)) rfl dX14_pass_9 ⟨(by first | omega | (dsimp only; omega)), (by first | omega | (dsimp only; omega))⟩) (fun x2 M3 h => ?_)
  refine q_if_ne (pc := 12) C 21 dX14_pass_12 (by decide) (fun c4 => ?_) (fun c4 => ?_)
  · have h := h.2 c4
    refine q_aload_n (pc := 21) C 0 0 dX14_pass_21 rfl rfl ?_
    refine q_gI (pc := 22) C h (T := TX14) rfl (by decide) (wk_u rfl wm_X14_pass uq_X14 (by decide +kernel)) (by decide +kernel) (fun _ h9 => h9) dX14_pass_22 (fun x5 h => ?_)
    refine q_aload_n (pc := 25) C 0 0 dX14_pass_25 rfl rfl ?_
    refine q_gI (pc := 26) C h (T := TX14) rfl (by decide) (wk_u rfl wm_X14_pass uq_X14 (by decide +kernel)) (by decide +kernel) (fun _ h9 => h9) dX14_pass_26 (fun x6 h => ?_)
    refine q_iload_n (pc := 29) C 1 1 dX14_pass_29 rfl rfl ?_
    refine q_iadd (pc := 30) C dX14_pass_30 ?_
    refine q_bipush (pc := 31) C 24 dX14_pass_31 (by decide) ?_
    refine q_idiv (pc := 33) C dX14_pass_33 (by decide) ?_
    refine q_iadd (pc := 34) C dX14_pass_34 ?_
    refine q_bipush (pc := 35) C 99 dX14_pass_35 (by decide) ?_
    refine q_icmp_le (pc := 37) C 46 dX14_pass_37 (by decide) (fun c7 => ?_) (fun c7 => ?_)
    · have h := h.1 c7
      refine q_iconst (pc := 46) C 0 dX14_pass_46 (by decide) ?_
      refine q_istore_n (pc := 47) C 2 [(2, .int 0), (0, va_rf l0), (1, .int l1)] dX14_pass_47 rfl (by decide) (by first | rfl | simp [q_cat, q_catI, q_catJ, q_catR, q_catN]) ?_
      refine q_lv [1, 2, 0] rfl ?_
      obtain ⟨f9, h⟩ := h
      exact tX14_pass_48 C hr hlocks f9 _ _ _ _ _ _ h
    · have h := h.2 c7
      refine q_aload_n (pc := 40) C 0 0 dX14_pass_40 rfl rfl ?_
      refine q_iconst (pc := 41) C 2 dX14_pass_41 (by decide) ?_
      obtain ⟨b10, fs9, hb10, hm9, h⟩ := h
      refine q_ci (pc := 42) (q_rV C (st := []) (b := b10) (kX14_refuse l G b0 h) (cwV 1 C.2.2.2.2.1 gX14_pass_X14_refuse rfl rfl rfl (by decide +kernel) ⟨Nat.le_of_ble_eq_true rfl, Nat.le_of_ble_eq_true rfl⟩) hm9 rfl rfl rfl (by first | exact Nat.le_of_ble_eq_true rfl | (simp [q_cat, q_catI, q_catJ, q_catR, q_catN]; done)) (by rw [hb10]; first | done | rfl) dX14_pass_42 ⟨(by first | omega | (dsimp only; omega)), (by first | omega | (dsimp only; omega))⟩) (fun x8 M9 h => ?_)
      obtain ⟨hbk, h⟩ := h
      exact q_iret (pc := 45) C hr hlocks h dX14_pass_45 (by omega) (by omega)
  · have h := h.1 c4
    refine q_aload_n (pc := 15) C 0 0 dX14_pass_15 rfl rfl ?_
    refine q_iconst (pc := 16) C 1 dX14_pass_16 (by decide) ?_
    obtain ⟨b13, fs9, hb13, hm9, h⟩ := h
    refine q_ci (pc := 17) (q_rV C (st := []) (b := b13) (kX14_refuse l G b0 h) (cwV 1 C.2.2.2.2.1 gX14_pass_X14_refuse rfl rfl rfl (by decide +kernel) ⟨Nat.le_of_ble_eq_true rfl, Nat.le_of_ble_eq_true rfl⟩) hm9 rfl rfl rfl (by first | exact Nat.le_of_ble_eq_true rfl | (simp [q_cat, q_catI, q_catJ, q_catR, q_catN]; done)) (by rw [hb13]; first | done | rfl) dX14_pass_17 ⟨(by first | omega | (dsimp only; omega)), (by first | omega | (dsimp only; omega))⟩) (fun x11 M12 h => ?_)
    obtain ⟨hbk, h⟩ := h
    exact q_iret (pc := 20) C hr hlocks h dX14_pass_20 (by omega) (by omega)
set_option maxRecDepth 100000 in
set_option maxHeartbeats 4000000 in
theorem kX14_pass (l : Launch) (G : mG) (b0 : Nat) {b : Nat} {l1 : Int32} {M : mM} {κ : Int32 → mM → Prop} (h : wX14_pass κ (some b) l1 M) : Met l yX14_pass wsX14_pass ({ frames := 4, cells := 48, slots := 192, locals := 89 } : Room) (va_Pc [.ref b, .int l1] (m_Pre G b0 M)) (va_Qi κ (m_B G b0) (fun q => b0 ≤ q)) 48 192 (fun q => b0 ≤ q) := by
  refine m_met (cc := cX14_pass) (maxL := 3) (ret := (some .int)) (lv := [(0, va_rf (some b)), (1, .int l1)]) RX14 rfl (by decide +kernel) rfl (by first | exact Nat.le_of_ble_eq_true rfl | simp [lg_sl, q_cat, q_catI, q_catJ, q_catR, q_catN]) (by first | rfl | (simp [lv_args, q_cat, q_catI, q_catJ, q_catR, q_catN]; done) | (simp [lv_args, q_cat, q_catI, q_catJ, q_catR, q_catN]; rfl)) ?_
  intro p e s m args below meth c C hr hlocks hni
  exact tX14_pass C hr hlocks h
/-! X14_landOf -/
set_option maxRecDepth 100000 in
set_option maxHeartbeats 4000000 in
theorem tX14_landOf {p : Program} {l : Launch} {e : Env} {s : State} {m : MethodId} {args : Array Value} {below : List Frame} {meth : Method} {c : Code} {G : mG} {b0 : Nat} (C : m_C p s m args c cX14_landOf 2 RX14 wsX14_landOf G b0) (hr : meth.sig.returnType = (some .int)) (hlocks : meth.locks = false) {κ : Int32 → mM → Prop} {l0 : Option Nat} {l1 : Option Nat} {M : mM} (h : wX14_landOf κ l0 l1 M) : m_W p l e ({ frames := 3, cells := 0, slots := 0, locals := 64 } : Room) s m args below meth c G b0 (MQ below (va_Qi κ (m_B G b0) (fun q => b0 ≤ q)) args s 0 0 (fun q => b0 ≤ q)) 2 M 0 0 0 [(0, va_rf l0), (1, va_rf l1)] [] := by
  unfold wX14_landOf at h
  refine q_aload_n (pc := 0) C 1 1 dX14_landOf_0 rfl rfl ?_
  refine q_gIN (pc := 1) C h (host := "LullabygateModel") (T := TX12) rfl (by decide) (by decide +kernel) 1524 (by decide +kernel) (fun _ h9 => h9) dX14_landOf_1 (fun x1 h => ?_)
  refine q_sipush (pc := 4) C 999 dX14_landOf_4 (by decide) ?_
  refine q_icmp_ne (pc := 7) C 14 dX14_landOf_7 (by decide) (fun c2 => ?_) (fun c2 => ?_)
  · have h := h.2 c2
    refine q_aload_n (pc := 14) C 1 1 dX14_landOf_14 rfl rfl ?_
    refine q_gIN (pc := 15) C h (host := "LullabygateModel") (T := TX12) rfl (by decide) (by decide +kernel) 1524 (by decide +kernel) (fun _ h9 => h9) dX14_landOf_15 (fun x3 h => ?_)
    refine q_bipush (pc := 18) C 100 dX14_landOf_18 (by decide) ?_
    refine q_icmp_lt (pc := 20) C 33 dX14_landOf_20 (by decide) (fun c4 => ?_) (fun c4 => ?_)
    · have h := h.1 c4
      refine q_aload_n (pc := 33) C 0 0 dX14_landOf_33 rfl rfl ?_
      refine q_gR (pc := 34) C h (T := TX14) rfl (by decide) (wk_u rfl wm_X14_landOf uq_X14 (by decide +kernel)) (by decide +kernel) (fun _ h9 => h9) dX14_landOf_34 (fun x5 h => ?_)
      refine q_aload_n (pc := 37) C 1 1 dX14_landOf_37 rfl rfl ?_
      refine q_gIN (pc := 38) C h (host := "LullabygateModel") (T := TX12) rfl (by decide) (by decide +kernel) 1524 (by decide +kernel) (fun _ h9 => h9) dX14_landOf_38 (fun x6 h => ?_)
      obtain ⟨b9, fs9, hb9, hm9, h⟩ := h
      refine q_cq (pc := 41) (q_rV C (st := []) (b := b9) (kJx4a65c_get_915e3 l G b0 h) (cwV 1 C.2.2.2.2.1 gX14_landOf_Jx4a65c_get_915e3 rfl rfl rfl (by decide +kernel) ⟨Nat.le_of_ble_eq_true rfl, Nat.le_of_ble_eq_true rfl⟩) hm9 rfl rfl rfl (by first | exact Nat.le_of_ble_eq_true rfl | (simp [q_cat, q_catI, q_catJ, q_catR, q_catN]; done)) (by rw [hb9]; first | done | rfl) dX14_landOf_41 ⟨(by first | omega | (dsimp only; omega)), (by first | omega | (dsimp only; omega))⟩) (fun x7 M8 h => ?_)
      refine q_cast (pc := 44) C h rfl rfl (by decide +kernel) dX14_landOf_44 (fun h => ?_)
      refine q_gIN (pc := 47) C h (host := "LullabygateModel") (T := TX13) rfl (by decide) (by decide +kernel) 1474 (by decide +kernel) (fun _ h9 => h9) dX14_landOf_47 (fun x10 h => ?_)
      exact q_iret (pc := 50) C hr hlocks h dX14_landOf_50 (by omega) (by omega)
    · have h := h.2 c4
      refine q_aload_n (pc := 23) C 1 1 dX14_landOf_23 rfl rfl ?_
      refine q_gIN (pc := 24) C h (host := "LullabygateModel") (T := TX12) rfl (by decide) (by decide +kernel) 1524 (by decide +kernel) (fun _ h9 => h9) dX14_landOf_24 (fun x11 h => ?_)
      refine q_bipush (pc := 27) C 100 dX14_landOf_27 (by decide) ?_
      refine q_isub (pc := 29) C dX14_landOf_29 ?_
      refine q_goto (pc := 30) C 50 dX14_landOf_30 (by decide) ?_
      exact q_iret (pc := 50) C hr hlocks h dX14_landOf_50 (by omega) (by omega)
  · have h := h.1 c2
    refine q_iconst (pc := 10) C (-1) dX14_landOf_10 (by decide) ?_
    refine q_goto (pc := 11) C 50 dX14_landOf_11 (by decide) ?_
    exact q_iret (pc := 50) C hr hlocks h dX14_landOf_50 (by omega) (by omega)
set_option maxRecDepth 100000 in
set_option maxHeartbeats 4000000 in
theorem kX14_landOf (l : Launch) (G : mG) (b0 : Nat) {b : Nat} {l1 : Option Nat} {M : mM} {κ : Int32 → mM → Prop} (h : wX14_landOf κ (some b) l1 M) : Met l yX14_landOf wsX14_landOf ({ frames := 3, cells := 0, slots := 0, locals := 64 } : Room) (va_Pc [.ref b, va_rf l1] (m_Pre G b0 M)) (va_Qi κ (m_B G b0) (fun q => b0 ≤ q)) 0 0 (fun q => b0 ≤ q) := by
  refine m_met (cc := cX14_landOf) (maxL := 2) (ret := (some .int)) (lv := [(0, va_rf (some b)), (1, va_rf l1)]) RX14 rfl (by decide +kernel) rfl (by first | exact Nat.le_of_ble_eq_true rfl | simp [lg_sl, q_cat, q_catI, q_catJ, q_catR, q_catN]) (by first | rfl | (simp [lv_args, q_cat, q_catI, q_catJ, q_catR, q_catN]; done) | (simp [lv_args, q_cat, q_catI, q_catJ, q_catR, q_catN]; rfl)) ?_
  intro p e s m args below meth c C hr hlocks hni
  exact tX14_landOf C hr hlocks h
/-! X14_wholes -/
set_option maxRecDepth 100000 in
set_option maxHeartbeats 4000000 in
theorem tX14_wholes_110 {p : Program} {l : Launch} {e : Env} {s : State} {m : MethodId} {args : Array Value} {below : List Frame} {meth : Method} {c : Code} {G : mG} {b0 : Nat} (C : m_C p s m args c cX14_wholes 7 RX14 wsX14_wholes G b0) (hr : meth.sig.returnType = (some .int)) (hlocks : meth.locks = false) {κ : Int32 → mM → Prop} {R4 : Option Nat → Int32 → Int32 → Int32 → mM → Prop} (hR4 : ∀ (l0 : Option Nat) (l1 : Int32) (l2 : Int32) (l3 : Int32) (M : mM), R4 l0 l1 l2 l3 M → m_W p l e ({ frames := 4, cells := 0, slots := 0, locals := 85 } : Room) s m args below meth c G b0 (MQ below (va_Qi κ (m_B G b0) (fun q => b0 ≤ q)) args s 0 0 (fun q => b0 ≤ q)) 7 M 0 0 4 [(0, va_rf l0), (1, .int l1), (2, .int l2), (3, .int l3)] []) {l0 : Option Nat} {l1 : Int32} {l3 : Int32} {s0 : Int32} {s1 : Int32} {M : mM} (h : wX14_wholes_110 κ R4 l0 l1 l3 s0 s1 M) : m_W p l e ({ frames := 4, cells := 0, slots := 0, locals := 85 } : Room) s m args below meth c G b0 (MQ below (va_Qi κ (m_B G b0) (fun q => b0 ≤ q)) args s 0 0 (fun q => b0 ≤ q)) 7 M 0 0 110 [(0, va_rf l0), (1, .int l1), (3, .int l3)] [.int s0, .int s1] := by
  unfold wX14_wholes_110 at h
  refine q_ior (pc := 110) C dX14_wholes_110 ?_
  refine q_istore_n (pc := 111) C 2 [(2, .int (s1 ||| s0)), (0, va_rf l0), (1, .int l1), (3, .int l3)] dX14_wholes_111 rfl (by decide) (by first | rfl | simp [q_cat, q_catI, q_catJ, q_catR, q_catN]) ?_
  refine q_iinc (pc := 112) C 3 3 (l3 + 1) [(3, .int (l3 + 1)), (2, .int (s1 ||| s0)), (0, va_rf l0), (1, .int l1)] dX14_wholes_112 rfl (by rfl) (by decide) (by first | rfl | simp [q_cat, q_catI, q_catJ, q_catR, q_catN]) ?_
  refine q_goto (pc := 115) C 4 dX14_wholes_115 (by decide) ?_
  refine q_widen (k2 := 0) (n2 := 0) (by omega) (by omega) ?_
  refine q_lv [2, 3, 1, 0] rfl ?_
  exact hR4 _ _ _ _ _ h
set_option maxRecDepth 100000 in
set_option maxHeartbeats 4000000 in
theorem tX14_wholes_109 {p : Program} {l : Launch} {e : Env} {s : State} {m : MethodId} {args : Array Value} {below : List Frame} {meth : Method} {c : Code} {G : mG} {b0 : Nat} (C : m_C p s m args c cX14_wholes 7 RX14 wsX14_wholes G b0) (hr : meth.sig.returnType = (some .int)) (hlocks : meth.locks = false) {κ : Int32 → mM → Prop} {R4 : Option Nat → Int32 → Int32 → Int32 → mM → Prop} (hR4 : ∀ (l0 : Option Nat) (l1 : Int32) (l2 : Int32) (l3 : Int32) (M : mM), R4 l0 l1 l2 l3 M → m_W p l e ({ frames := 4, cells := 0, slots := 0, locals := 85 } : Room) s m args below meth c G b0 (MQ below (va_Qi κ (m_B G b0) (fun q => b0 ≤ q)) args s 0 0 (fun q => b0 ≤ q)) 7 M 0 0 4 [(0, va_rf l0), (1, .int l1), (2, .int l2), (3, .int l3)] []) {l0 : Option Nat} {l1 : Int32} {l3 : Int32} {s0 : Int32} {M : mM} (h : wX14_wholes_109 κ R4 l0 l1 l3 s0 M) : m_W p l e ({ frames := 4, cells := 0, slots := 0, locals := 85 } : Room) s m args below meth c G b0 (MQ below (va_Qi κ (m_B G b0) (fun q => b0 ≤ q)) args s 0 0 (fun q => b0 ≤ q)) 7 M 0 0 109 [(0, va_rf l0), (1, .int l1), (3, .int l3)] [.int s0] := by
  unfold wX14_wholes_109 at h
  refine q_iconst (pc := 109) C 0 dX14_wholes_109 (by decide) ?_
  refine q_widen (k2 := 0) (n2 := 0) (by omega) (by omega) ?_
  refine q_lv [0, 1, 2] rfl ?_
  exact tX14_wholes_110 C hr hlocks hR4 h
set_option maxRecDepth 100000 in
set_option maxHeartbeats 4000000 in
theorem tX14_wholes_86 {p : Program} {l : Launch} {e : Env} {s : State} {m : MethodId} {args : Array Value} {below : List Frame} {meth : Method} {c : Code} {G : mG} {b0 : Nat} (C : m_C p s m args c cX14_wholes 7 RX14 wsX14_wholes G b0) (hr : meth.sig.returnType = (some .int)) (hlocks : meth.locks = false) {κ : Int32 → mM → Prop} {R4 : Option Nat → Int32 → Int32 → Int32 → mM → Prop} (hR4 : ∀ (l0 : Option Nat) (l1 : Int32) (l2 : Int32) (l3 : Int32) (M : mM), R4 l0 l1 l2 l3 M → m_W p l e ({ frames := 4, cells := 0, slots := 0, locals := 85 } : Room) s m args below meth c G b0 (MQ below (va_Qi κ (m_B G b0) (fun q => b0 ≤ q)) args s 0 0 (fun q => b0 ≤ q)) 7 M 0 0 4 [(0, va_rf l0), (1, .int l1), (2, .int l2), (3, .int l3)] []) {R19 : Option Nat → Int32 → Int32 → Int32 → Int32 → Int32 → Int32 → mM → Prop} (hR19 : ∀ (l0 : Option Nat) (l1 : Int32) (l2 : Int32) (l3 : Int32) (l4 : Int32) (l5 : Int32) (l6 : Int32) (M : mM), R19 l0 l1 l2 l3 l4 l5 l6 M → m_W p l e ({ frames := 4, cells := 0, slots := 0, locals := 85 } : Room) s m args below meth c G b0 (MQ below (va_Qi κ (m_B G b0) (fun q => b0 ≤ q)) args s 0 0 (fun q => b0 ≤ q)) 7 M 0 0 19 [(0, va_rf l0), (1, .int l1), (2, .int l2), (3, .int l3), (4, .int l4), (5, .int l5), (6, .int l6)] []) {l0 : Option Nat} {l1 : Int32} {l2 : Int32} {l3 : Int32} {l4 : Int32} {l5 : Int32} {l6 : Int32} {M : mM} (h : wX14_wholes_86 κ R4 R19 l0 l1 l2 l3 l4 l5 l6 M) : m_W p l e ({ frames := 4, cells := 0, slots := 0, locals := 85 } : Room) s m args below meth c G b0 (MQ below (va_Qi κ (m_B G b0) (fun q => b0 ≤ q)) args s 0 0 (fun q => b0 ≤ q)) 7 M 0 0 86 [(0, va_rf l0), (1, .int l1), (2, .int l2), (3, .int l3), (4, .int l4), (5, .int l5), (6, .int l6)] [] := by
  unfold wX14_wholes_86 at h
  refine q_iinc (pc := 86) C 6 6 (l6 + 1) [(6, .int (l6 + 1)), (0, va_rf l0), (1, .int l1), (2, .int l2), (3, .int l3), (4, .int l4), (5, .int l5)] dX14_wholes_86 rfl (by rfl) (by decide) (by first | rfl | simp [q_cat, q_catI, q_catJ, q_catR, q_catN]) ?_
  refine q_goto (pc := 89) C 19 dX14_wholes_89 (by decide) ?_
  refine q_widen (k2 := 0) (n2 := 0) (by omega) (by omega) ?_
  refine q_lv [1, 2, 3, 4, 5, 6, 0] rfl ?_
  exact hR19 _ _ _ _ _ _ _ _ h
set_option maxRecDepth 100000 in
set_option maxHeartbeats 4000000 in
theorem tX14_wholes_83 {p : Program} {l : Launch} {e : Env} {s : State} {m : MethodId} {args : Array Value} {below : List Frame} {meth : Method} {c : Code} {G : mG} {b0 : Nat} (C : m_C p s m args c cX14_wholes 7 RX14 wsX14_wholes G b0) (hr : meth.sig.returnType = (some .int)) (hlocks : meth.locks = false) {κ : Int32 → mM → Prop} {R4 : Option Nat → Int32 → Int32 → Int32 → mM → Prop} (hR4 : ∀ (l0 : Option Nat) (l1 : Int32) (l2 : Int32) (l3 : Int32) (M : mM), R4 l0 l1 l2 l3 M → m_W p l e ({ frames := 4, cells := 0, slots := 0, locals := 85 } : Room) s m args below meth c G b0 (MQ below (va_Qi κ (m_B G b0) (fun q => b0 ≤ q)) args s 0 0 (fun q => b0 ≤ q)) 7 M 0 0 4 [(0, va_rf l0), (1, .int l1), (2, .int l2), (3, .int l3)] []) {R19 : Option Nat → Int32 → Int32 → Int32 → Int32 → Int32 → Int32 → mM → Prop} (hR19 : ∀ (l0 : Option Nat) (l1 : Int32) (l2 : Int32) (l3 : Int32) (l4 : Int32) (l5 : Int32) (l6 : Int32) (M : mM), R19 l0 l1 l2 l3 l4 l5 l6 M → m_W p l e ({ frames := 4, cells := 0, slots := 0, locals := 85 } : Room) s m args below meth c G b0 (MQ below (va_Qi κ (m_B G b0) (fun q => b0 ≤ q)) args s 0 0 (fun q => b0 ≤ q)) 7 M 0 0 19 [(0, va_rf l0), (1, .int l1), (2, .int l2), (3, .int l3), (4, .int l4), (5, .int l5), (6, .int l6)] []) {l0 : Option Nat} {l1 : Int32} {l2 : Int32} {l3 : Int32} {l4 : Int32} {l6 : Int32} {s0 : Int32} {s1 : Int32} {M : mM} (h : wX14_wholes_83 κ R4 R19 l0 l1 l2 l3 l4 l6 s0 s1 M) : m_W p l e ({ frames := 4, cells := 0, slots := 0, locals := 85 } : Room) s m args below meth c G b0 (MQ below (va_Qi κ (m_B G b0) (fun q => b0 ≤ q)) args s 0 0 (fun q => b0 ≤ q)) 7 M 0 0 83 [(0, va_rf l0), (1, .int l1), (2, .int l2), (3, .int l3), (4, .int l4), (6, .int l6)] [.int s0, .int s1] := by
  unfold wX14_wholes_83 at h
  refine q_iand (pc := 83) C dX14_wholes_83 ?_
  refine q_istore (pc := 84) C 5 [(5, .int (s1 &&& s0)), (0, va_rf l0), (1, .int l1), (2, .int l2), (3, .int l3), (4, .int l4), (6, .int l6)] dX14_wholes_84 (by decide) (by first | rfl | simp [q_cat, q_catI, q_catJ, q_catR, q_catN]) ?_
  refine q_widen (k2 := 0) (n2 := 0) (by omega) (by omega) ?_
  refine q_lv [1, 2, 3, 4, 5, 0, 6] rfl ?_
  exact tX14_wholes_86 C hr hlocks hR4 hR19 h
set_option maxRecDepth 100000 in
set_option maxHeartbeats 4000000 in
theorem tX14_wholes_19 {p : Program} {l : Launch} {e : Env} {s : State} {m : MethodId} {args : Array Value} {below : List Frame} {meth : Method} {c : Code} {G : mG} {b0 : Nat} (C : m_C p s m args c cX14_wholes 7 RX14 wsX14_wholes G b0) (hr : meth.sig.returnType = (some .int)) (hlocks : meth.locks = false) {κ : Int32 → mM → Prop} {R4 : Option Nat → Int32 → Int32 → Int32 → mM → Prop} (hR4 : ∀ (l0 : Option Nat) (l1 : Int32) (l2 : Int32) (l3 : Int32) (M : mM), R4 l0 l1 l2 l3 M → m_W p l e ({ frames := 4, cells := 0, slots := 0, locals := 85 } : Room) s m args below meth c G b0 (MQ below (va_Qi κ (m_B G b0) (fun q => b0 ≤ q)) args s 0 0 (fun q => b0 ≤ q)) 7 M 0 0 4 [(0, va_rf l0), (1, .int l1), (2, .int l2), (3, .int l3)] []) : ∀ (f : Nat) (l0 : Option Nat) (l1 : Int32) (l2 : Int32) (l3 : Int32) (l4 : Int32) (l5 : Int32) (l6 : Int32) (M : mM), wX14_wholes_19 κ R4 f l0 l1 l2 l3 l4 l5 l6 M → m_W p l e ({ frames := 4, cells := 0, slots := 0, locals := 85 } : Room) s m args below meth c G b0 (MQ below (va_Qi κ (m_B G b0) (fun q => b0 ≤ q)) args s 0 0 (fun q => b0 ≤ q)) 7 M 0 0 19 [(0, va_rf l0), (1, .int l1), (2, .int l2), (3, .int l3), (4, .int l4), (5, .int l5), (6, .int l6)] [] := by
  intro f
  induction f with
  | zero =>
    intro l0 l1 l2 l3 l4 l5 l6 M h
    exact absurd h (by simp [wX14_wholes_19])
  | succ f ih =>
    intro l0 l1 l2 l3 l4 l5 l6 M h
    rw [wX14_wholes_19] at h
    refine q_iload (pc := 19) C 6 6 dX14_wholes_19 rfl ?_
    refine q_aload_n (pc := 21) C 0 0 dX14_wholes_21 rfl rfl ?_
    refine q_gR (pc := 22) C h (T := TX14) rfl (by decide) (wk_u rfl wm_X14_wholes uq_X14 (by decide +kernel)) (by decide +kernel) (fun _ h9 => h9) dX14_wholes_22 (fun x1 h => ?_)
    obtain ⟨b4, fs9, hb4, hm9, h⟩ := h
    refine q_ci (pc := 25) (q_rV C (st := [.int l6]) (b := b4) (kJx4a65c_size_8abf5 l G b0 h) (cwV 0 C.2.2.2.2.1 gX14_wholes_Jx4a65c_size_8abf5 rfl rfl rfl (by decide +kernel) ⟨Nat.le_of_ble_eq_true rfl, Nat.le_of_ble_eq_true rfl⟩) hm9 rfl rfl rfl (by first | exact Nat.le_of_ble_eq_true rfl | (simp [q_cat, q_catI, q_catJ, q_catR, q_catN]; done)) (by rw [hb4]; first | done | rfl) dX14_wholes_25 ⟨(by first | omega | (dsimp only; omega)), (by first | omega | (dsimp only; omega))⟩) (fun x2 M3 h => ?_)
    refine q_icmp_ge (pc := 28) C 92 dX14_wholes_28 (by decide) (fun c5 => ?_) (fun c5 => ?_)
    · have h := h.1 c5
      refine q_iload_n (pc := 92) C 2 2 dX14_wholes_92 rfl rfl ?_
      refine q_iload (pc := 93) C 5 5 dX14_wholes_93 rfl ?_
      refine q_if_eq (pc := 95) C 109 dX14_wholes_95 (by decide) (fun c6 => ?_) (fun c6 => ?_)
      · have h := h.1 c6
        refine q_widen (k2 := 0) (n2 := 0) (by omega) (by omega) ?_
        refine q_lv [0, 1, 3] rfl ?_
        exact tX14_wholes_109 C hr hlocks hR4 h
      · have h := h.2 c6
        refine q_iload (pc := 98) C 4 4 dX14_wholes_98 rfl ?_
        refine q_if_le (pc := 100) C 109 dX14_wholes_100 (by decide) (fun c7 => ?_) (fun c7 => ?_)
        · have h := h.1 c7
          refine q_widen (k2 := 0) (n2 := 0) (by omega) (by omega) ?_
          refine q_lv [0, 1, 3] rfl ?_
          exact tX14_wholes_109 C hr hlocks hR4 h
        · have h := h.2 c7
          refine q_iconst (pc := 103) C 1 dX14_wholes_103 (by decide) ?_
          refine q_iload_n (pc := 104) C 3 3 dX14_wholes_104 rfl rfl ?_
          refine q_ishl (pc := 105) C dX14_wholes_105 ?_
          refine m_stk (st2 := .int (m_shl 1 l3) :: _) rfl ?_
          refine q_goto (pc := 106) C 110 dX14_wholes_106 (by decide) ?_
          refine q_widen (k2 := 0) (n2 := 0) (by omega) (by omega) ?_
          refine q_lv [0, 1, 3] rfl ?_
          exact tX14_wholes_110 C hr hlocks hR4 h
    · have h := h.2 c5
      refine q_aload_n (pc := 31) C 0 0 dX14_wholes_31 rfl rfl ?_
      refine q_gR (pc := 32) C h (T := TX14) rfl (by decide) (wk_u rfl wm_X14_wholes uq_X14 (by decide +kernel)) (by decide +kernel) (fun _ h9 => h9) dX14_wholes_32 (fun x8 h => ?_)
      refine q_iload (pc := 35) C 6 6 dX14_wholes_35 rfl ?_
      obtain ⟨b11, fs9, hb11, hm9, h⟩ := h
      refine q_cq (pc := 37) (q_rV C (st := []) (b := b11) (kJx4a65c_get_915e3 l G b0 h) (cwV 1 C.2.2.2.2.1 gX14_wholes_Jx4a65c_get_915e3 rfl rfl rfl (by decide +kernel) ⟨Nat.le_of_ble_eq_true rfl, Nat.le_of_ble_eq_true rfl⟩) hm9 rfl rfl rfl (by first | exact Nat.le_of_ble_eq_true rfl | (simp [q_cat, q_catI, q_catJ, q_catR, q_catN]; done)) (by rw [hb11]; first | done | rfl) dX14_wholes_37 ⟨(by first | omega | (dsimp only; omega)), (by first | omega | (dsimp only; omega))⟩) (fun x9 M10 h => ?_)
      refine q_cast (pc := 40) C h rfl rfl (by decide +kernel) dX14_wholes_40 (fun h => ?_)
      refine q_gIN (pc := 43) C h (host := "LullabygateModel") (T := TX12) rfl (by decide) (by decide +kernel) 1519 (by decide +kernel) (fun _ h9 => h9) dX14_wholes_43 (fun x12 h => ?_)
      refine q_iload_n (pc := 46) C 3 3 dX14_wholes_46 rfl rfl ?_
      refine q_icmp_eq (pc := 47) C 53 dX14_wholes_47 (by decide) (fun c13 => ?_) (fun c13 => ?_)
      · have h := h.1 c13
        refine q_iinc (pc := 53) C 4 4 (l4 + 1) [(4, .int (l4 + 1)), (0, va_rf l0), (1, .int l1), (2, .int l2), (3, .int l3), (5, .int l5), (6, .int l6)] dX14_wholes_53 rfl (by rfl) (by decide) (by first | rfl | simp [q_cat, q_catI, q_catJ, q_catR, q_catN]) ?_
        refine q_iload (pc := 56) C 5 5 dX14_wholes_56 rfl ?_
        refine q_aload_n (pc := 58) C 0 1 dX14_wholes_58 rfl rfl ?_
        refine q_aload_n (pc := 59) C 0 1 dX14_wholes_59 rfl rfl ?_
        refine q_gR (pc := 60) C h (T := TX14) rfl (by decide) (wk_u rfl wm_X14_wholes uq_X14 (by decide +kernel)) (by decide +kernel) (fun _ h9 => h9) dX14_wholes_60 (fun x14 h => ?_)
        refine q_iload (pc := 63) C 6 6 dX14_wholes_63 rfl ?_
        obtain ⟨b17, fs9, hb17, hm9, h⟩ := h
        refine q_cq (pc := 65) (q_rV C (st := [va_rf l0, .int l5]) (b := b17) (kJx4a65c_get_915e3 l G b0 h) (cwV 1 C.2.2.2.2.1 gX14_wholes_Jx4a65c_get_915e3 rfl rfl rfl (by decide +kernel) ⟨Nat.le_of_ble_eq_true rfl, Nat.le_of_ble_eq_true rfl⟩) hm9 rfl rfl rfl (by first | exact Nat.le_of_ble_eq_true rfl | (simp [q_cat, q_catI, q_catJ, q_catR, q_catN]; done)) (by rw [hb17]; first | done | rfl) dX14_wholes_65 ⟨(by first | omega | (dsimp only; omega)), (by first | omega | (dsimp only; omega))⟩) (fun x15 M16 h => ?_)
        refine q_cast (pc := 68) C h rfl rfl (by decide +kernel) dX14_wholes_68 (fun h => ?_)
        obtain ⟨b20, fs9, hb20, hm9, h⟩ := h
        refine q_ci (pc := 71) (q_rV C (st := [.int l5]) (b := b20) (kX14_landOf l G b0 h) (cwV 1 C.2.2.2.2.1 gX14_wholes_X14_landOf rfl rfl rfl (by decide +kernel) ⟨Nat.le_of_ble_eq_true rfl, Nat.le_of_ble_eq_true rfl⟩) hm9 rfl rfl rfl (by first | exact Nat.le_of_ble_eq_true rfl | (simp [q_cat, q_catI, q_catJ, q_catR, q_catN]; done)) (by rw [hb20]; first | done | rfl) dX14_wholes_71 ⟨(by first | omega | (dsimp only; omega)), (by first | omega | (dsimp only; omega))⟩) (fun x18 M19 h => ?_)
        refine q_iload_n (pc := 74) C 1 2 dX14_wholes_74 rfl rfl ?_
        refine q_icmp_ne (pc := 75) C 82 dX14_wholes_75 (by decide) (fun c21 => ?_) (fun c21 => ?_)
        · have h := h.2 c21
          refine q_iconst (pc := 82) C 0 dX14_wholes_82 (by decide) ?_
          refine q_widen (k2 := 0) (n2 := 0) (by omega) (by omega) ?_
          refine q_lv [1, 2, 3, 4, 0, 6] rfl ?_
          exact tX14_wholes_83 C hr hlocks hR4 ih h
        · have h := h.1 c21
          refine q_iconst (pc := 78) C 1 dX14_wholes_78 (by decide) ?_
          refine q_goto (pc := 79) C 83 dX14_wholes_79 (by decide) ?_
          refine q_widen (k2 := 0) (n2 := 0) (by omega) (by omega) ?_
          refine q_lv [1, 2, 3, 4, 0, 6] rfl ?_
          exact tX14_wholes_83 C hr hlocks hR4 ih h
      · have h := h.2 c13
        refine q_goto (pc := 50) C 86 dX14_wholes_50 (by decide) ?_
        refine q_widen (k2 := 0) (n2 := 0) (by omega) (by omega) ?_
        refine q_lv [0, 1, 2, 3, 4, 5, 6] rfl ?_
        exact tX14_wholes_86 C hr hlocks hR4 ih h
set_option maxRecDepth 100000 in
set_option maxHeartbeats 4000000 in
theorem tX14_wholes_4 {p : Program} {l : Launch} {e : Env} {s : State} {m : MethodId} {args : Array Value} {below : List Frame} {meth : Method} {c : Code} {G : mG} {b0 : Nat} (C : m_C p s m args c cX14_wholes 7 RX14 wsX14_wholes G b0) (hr : meth.sig.returnType = (some .int)) (hlocks : meth.locks = false) {κ : Int32 → mM → Prop} : ∀ (f : Nat) (l0 : Option Nat) (l1 : Int32) (l2 : Int32) (l3 : Int32) (M : mM), wX14_wholes_4 κ f l0 l1 l2 l3 M → m_W p l e ({ frames := 4, cells := 0, slots := 0, locals := 85 } : Room) s m args below meth c G b0 (MQ below (va_Qi κ (m_B G b0) (fun q => b0 ≤ q)) args s 0 0 (fun q => b0 ≤ q)) 7 M 0 0 4 [(0, va_rf l0), (1, .int l1), (2, .int l2), (3, .int l3)] [] := by
  intro f
  induction f with
  | zero =>
    intro l0 l1 l2 l3 M h
    exact absurd h (by simp [wX14_wholes_4])
  | succ f ih =>
    intro l0 l1 l2 l3 M h
    rw [wX14_wholes_4] at h
    refine q_iload_n (pc := 4) C 3 3 dX14_wholes_4 rfl rfl ?_
    refine q_bipush (pc := 5) C 8 dX14_wholes_5 (by decide) ?_
    refine q_icmp_ge (pc := 7) C 118 dX14_wholes_7 (by decide) (fun c1 => ?_) (fun c1 => ?_)
    · have h := h.1 c1
      refine q_iload_n (pc := 118) C 2 2 dX14_wholes_118 rfl rfl ?_
      exact q_iret (pc := 119) C hr hlocks h dX14_wholes_119 (by omega) (by omega)
    · have h := h.2 c1
      refine q_iconst (pc := 10) C 0 dX14_wholes_10 (by decide) ?_
      refine q_istore (pc := 11) C 4 [(4, .int 0), (0, va_rf l0), (1, .int l1), (2, .int l2), (3, .int l3)] dX14_wholes_11 (by decide) (by first | rfl | simp [q_cat, q_catI, q_catJ, q_catR, q_catN]) ?_
      refine q_iconst (pc := 13) C 1 dX14_wholes_13 (by decide) ?_
      refine q_istore (pc := 14) C 5 [(5, .int 1), (4, .int 0), (0, va_rf l0), (1, .int l1), (2, .int l2), (3, .int l3)] dX14_wholes_14 (by decide) (by first | rfl | simp [q_cat, q_catI, q_catJ, q_catR, q_catN]) ?_
      refine q_iconst (pc := 16) C 0 dX14_wholes_16 (by decide) ?_
      refine q_istore (pc := 17) C 6 [(6, .int 0), (5, .int 1), (4, .int 0), (0, va_rf l0), (1, .int l1), (2, .int l2), (3, .int l3)] dX14_wholes_17 (by decide) (by first | rfl | simp [q_cat, q_catI, q_catJ, q_catR, q_catN]) ?_
      refine q_widen (k2 := 0) (n2 := 0) (by omega) (by omega) ?_
      refine q_lv [3, 4, 5, 6, 2, 1, 0] rfl ?_
      obtain ⟨f9, h⟩ := h
      exact tX14_wholes_19 C hr hlocks ih f9 _ _ _ _ _ _ _ _ h
set_option maxRecDepth 100000 in
set_option maxHeartbeats 4000000 in
theorem tX14_wholes {p : Program} {l : Launch} {e : Env} {s : State} {m : MethodId} {args : Array Value} {below : List Frame} {meth : Method} {c : Code} {G : mG} {b0 : Nat} (C : m_C p s m args c cX14_wholes 7 RX14 wsX14_wholes G b0) (hr : meth.sig.returnType = (some .int)) (hlocks : meth.locks = false) {κ : Int32 → mM → Prop} {l0 : Option Nat} {l1 : Int32} {M : mM} (h : wX14_wholes κ l0 l1 M) : m_W p l e ({ frames := 4, cells := 0, slots := 0, locals := 85 } : Room) s m args below meth c G b0 (MQ below (va_Qi κ (m_B G b0) (fun q => b0 ≤ q)) args s 0 0 (fun q => b0 ≤ q)) 7 M 0 0 0 [(0, va_rf l0), (1, .int l1)] [] := by
  unfold wX14_wholes at h
  refine q_iconst (pc := 0) C 0 dX14_wholes_0 (by decide) ?_
  refine q_istore_n (pc := 1) C 2 [(2, .int 0), (0, va_rf l0), (1, .int l1)] dX14_wholes_1 rfl (by decide) (by first | rfl | simp [q_cat, q_catI, q_catJ, q_catR, q_catN]) ?_
  refine q_iconst (pc := 2) C 0 dX14_wholes_2 (by decide) ?_
  refine q_istore_n (pc := 3) C 3 [(3, .int 0), (2, .int 0), (0, va_rf l0), (1, .int l1)] dX14_wholes_3 rfl (by decide) (by first | rfl | simp [q_cat, q_catI, q_catJ, q_catR, q_catN]) ?_
  refine q_widen (k2 := 0) (n2 := 0) (by omega) (by omega) ?_
  refine q_lv [2, 3, 1, 0] rfl ?_
  obtain ⟨f9, h⟩ := h
  exact tX14_wholes_4 C hr hlocks f9 _ _ _ _ _ h
set_option maxRecDepth 100000 in
set_option maxHeartbeats 4000000 in
theorem kX14_wholes (l : Launch) (G : mG) (b0 : Nat) {b : Nat} {l1 : Int32} {M : mM} {κ : Int32 → mM → Prop} (h : wX14_wholes κ (some b) l1 M) : Met l yX14_wholes wsX14_wholes ({ frames := 4, cells := 0, slots := 0, locals := 85 } : Room) (va_Pc [.ref b, .int l1] (m_Pre G b0 M)) (va_Qi κ (m_B G b0) (fun q => b0 ≤ q)) 0 0 (fun q => b0 ≤ q) := by
  refine m_met (cc := cX14_wholes) (maxL := 7) (ret := (some .int)) (lv := [(0, va_rf (some b)), (1, .int l1)]) RX14 rfl (by decide +kernel) rfl (by first | exact Nat.le_of_ble_eq_true rfl | simp [lg_sl, q_cat, q_catI, q_catJ, q_catR, q_catN]) (by first | rfl | (simp [lv_args, q_cat, q_catI, q_catJ, q_catR, q_catN]; done) | (simp [lv_args, q_cat, q_catI, q_catJ, q_catR, q_catN]; rfl)) ?_
  intro p e s m args below meth c C hr hlocks hni
  exact tX14_wholes C hr hlocks h
/-! X14_ofLandNow -/
set_option maxRecDepth 100000 in
set_option maxHeartbeats 4000000 in
theorem tX14_ofLandNow_130 {p : Program} {l : Launch} {e : Env} {s : State} {m : MethodId} {args : Array Value} {below : List Frame} {meth : Method} {c : Code} {G : mG} {b0 : Nat} (C : m_C p s m args c cX14_ofLandNow 6 RX14 wsX14_ofLandNow G b0) (hr : meth.sig.returnType = (some .int)) (hlocks : meth.locks = false) {κ : Int32 → mM → Prop} {R89 : Option Nat → Int32 → Int32 → Int32 → mM → Prop} (hR89 : ∀ (l0 : Option Nat) (l1 : Int32) (l4 : Int32) (l5 : Int32) (M : mM), R89 l0 l1 l4 l5 M → m_W p l e ({ frames := 5, cells := 0, slots := 0, locals := 111 } : Room) s m args below meth c G b0 (MQ below (va_Qi κ (m_B G b0) (fun q => b0 ≤ q)) args s 0 0 (fun q => b0 ≤ q)) 6 M 0 0 89 [(0, va_rf l0), (1, .int l1), (4, .int l4), (5, .int l5)] []) {l0 : Option Nat} {l1 : Int32} {l5 : Int32} {s0 : Int32} {s1 : Int32} {M : mM} (h : wX14_ofLandNow_130 κ R89 l0 l1 l5 s0 s1 M) : m_W p l e ({ frames := 5, cells := 0, slots := 0, locals := 111 } : Room) s m args below meth c G b0 (MQ below (va_Qi κ (m_B G b0) (fun q => b0 ≤ q)) args s 0 0 (fun q => b0 ≤ q)) 6 M 0 0 130 [(0, va_rf l0), (1, .int l1), (5, .int l5)] [.int s0, .int s1] := by
  unfold wX14_ofLandNow_130 at h
  refine q_iadd (pc := 130) C dX14_ofLandNow_130 ?_
  refine q_istore (pc := 131) C 4 [(4, .int (s1 + s0)), (0, va_rf l0), (1, .int l1), (5, .int l5)] dX14_ofLandNow_131 (by decide) (by first | rfl | simp [q_cat, q_catI, q_catJ, q_catR, q_catN]) ?_
  refine q_iinc (pc := 133) C 5 3 (l5 + 1) [(5, .int (l5 + 1)), (4, .int (s1 + s0)), (0, va_rf l0), (1, .int l1)] dX14_ofLandNow_133 rfl (by rfl) (by decide) (by first | rfl | simp [q_cat, q_catI, q_catJ, q_catR, q_catN]) ?_
  refine q_goto (pc := 136) C 89 dX14_ofLandNow_136 (by decide) ?_
  refine q_widen (k2 := 0) (n2 := 0) (by omega) (by omega) ?_
  refine q_lv [2, 3, 1, 0] rfl ?_
  exact hR89 _ _ _ _ _ h
set_option maxRecDepth 100000 in
set_option maxHeartbeats 4000000 in
theorem tX14_ofLandNow_89 {p : Program} {l : Launch} {e : Env} {s : State} {m : MethodId} {args : Array Value} {below : List Frame} {meth : Method} {c : Code} {G : mG} {b0 : Nat} (C : m_C p s m args c cX14_ofLandNow 6 RX14 wsX14_ofLandNow G b0) (hr : meth.sig.returnType = (some .int)) (hlocks : meth.locks = false) {κ : Int32 → mM → Prop} : ∀ (f : Nat) (l0 : Option Nat) (l1 : Int32) (l4 : Int32) (l5 : Int32) (M : mM), wX14_ofLandNow_89 κ f l0 l1 l4 l5 M → m_W p l e ({ frames := 5, cells := 0, slots := 0, locals := 111 } : Room) s m args below meth c G b0 (MQ below (va_Qi κ (m_B G b0) (fun q => b0 ≤ q)) args s 0 0 (fun q => b0 ≤ q)) 6 M 0 0 89 [(0, va_rf l0), (1, .int l1), (4, .int l4), (5, .int l5)] [] := by
  intro f
  induction f with
  | zero =>
    intro l0 l1 l4 l5 M h
    exact absurd h (by simp [wX14_ofLandNow_89])
  | succ f ih =>
    intro l0 l1 l4 l5 M h
    rw [wX14_ofLandNow_89] at h
    refine q_iload (pc := 89) C 5 3 dX14_ofLandNow_89 rfl ?_
    refine q_aload_n (pc := 91) C 0 0 dX14_ofLandNow_91 rfl rfl ?_
    refine q_gR (pc := 92) C h (T := TX14) rfl (by decide) (wk_u rfl wm_X14_ofLandNow uq_X14 (by decide +kernel)) (by decide +kernel) (fun _ h9 => h9) dX14_ofLandNow_92 (fun x1 h => ?_)
    obtain ⟨b4, fs9, hb4, hm9, h⟩ := h
    refine q_ci (pc := 95) (q_rV C (st := [.int l5]) (b := b4) (kJx4a65c_size_8abf5 l G b0 h) (cwV 0 C.2.2.2.2.1 gX14_ofLandNow_Jx4a65c_size_8abf5 rfl rfl rfl (by decide +kernel) ⟨Nat.le_of_ble_eq_true rfl, Nat.le_of_ble_eq_true rfl⟩) hm9 rfl rfl rfl (by first | exact Nat.le_of_ble_eq_true rfl | (simp [q_cat, q_catI, q_catJ, q_catR, q_catN]; done)) (by rw [hb4]; first | done | rfl) dX14_ofLandNow_95 ⟨(by first | omega | (dsimp only; omega)), (by first | omega | (dsimp only; omega))⟩) (fun x2 M3 h => ?_)
    refine q_icmp_ge (pc := 98) C 139 dX14_ofLandNow_98 (by decide) (fun c5 => ?_) (fun c5 => ?_)
    · have h := h.1 c5
      refine q_iload (pc := 139) C 4 2 dX14_ofLandNow_139 rfl ?_
      exact q_iret (pc := 141) C hr hlocks h dX14_ofLandNow_141 (by omega) (by omega)
    · have h := h.2 c5
      refine q_iload (pc := 101) C 4 2 dX14_ofLandNow_101 rfl ?_
      refine q_aload_n (pc := 103) C 0 0 dX14_ofLandNow_103 rfl rfl ?_
      refine q_gR (pc := 104) C h (T := TX14) rfl (by decide) (wk_u rfl wm_X14_ofLandNow uq_X14 (by decide +kernel)) (by decide +kernel) (fun _ h9 => h9) dX14_ofLandNow_104 (fun x6 h => ?_)
      refine q_iload (pc := 107) C 5 3 dX14_ofLandNow_107 rfl ?_
      obtain ⟨b9, fs9, hb9, hm9, h⟩ := h
      refine q_cq (pc := 109) (q_rV C (st := [.int l4]) (b := b9) (kJx4a65c_get_915e3 l G b0 h) (cwV 1 C.2.2.2.2.1 gX14_ofLandNow_Jx4a65c_get_915e3 rfl rfl rfl (by decide +kernel) ⟨Nat.le_of_ble_eq_true rfl, Nat.le_of_ble_eq_true rfl⟩) hm9 rfl rfl rfl (by first | exact Nat.le_of_ble_eq_true rfl | (simp [q_cat, q_catI, q_catJ, q_catR, q_catN]; done)) (by rw [hb9]; first | done | rfl) dX14_ofLandNow_109 ⟨(by first | omega | (dsimp only; omega)), (by first | omega | (dsimp only; omega))⟩) (fun x7 M8 h => ?_)
      refine q_cast (pc := 112) C h rfl rfl (by decide +kernel) dX14_ofLandNow_112 (fun h => ?_)
      refine q_gIN (pc := 115) C h (host := "LullabygateModel") (T := TX12) rfl (by decide) (by decide +kernel) 1524 (by decide +kernel) (fun _ h9 => h9) dX14_ofLandNow_115 (fun x10 h => ?_)
      refine q_bipush (pc := 118) C 100 dX14_ofLandNow_118 (by decide) ?_
      refine q_iload_n (pc := 120) C 1 1 dX14_ofLandNow_120 rfl rfl ?_
      refine q_iadd (pc := 121) C dX14_ofLandNow_121 ?_
      refine q_icmp_ne (pc := 122) C 129 dX14_ofLandNow_122 (by decide) (fun c11 => ?_) (fun c11 => ?_)
      · have h := h.2 c11
        refine q_iconst (pc := 129) C 0 dX14_ofLandNow_129 (by decide) ?_
        refine q_widen (k2 := 0) (n2 := 0) (by omega) (by omega) ?_
        refine q_lv [0, 1, 3] rfl ?_
        exact tX14_ofLandNow_130 C hr hlocks ih h
      · have h := h.1 c11
        refine q_iconst (pc := 125) C 1 dX14_ofLandNow_125 (by decide) ?_
        refine q_goto (pc := 126) C 130 dX14_ofLandNow_126 (by decide) ?_
        refine q_widen (k2 := 0) (n2 := 0) (by omega) (by omega) ?_
        refine q_lv [0, 1, 3] rfl ?_
        exact tX14_ofLandNow_130 C hr hlocks ih h
set_option maxRecDepth 100000 in
set_option maxHeartbeats 4000000 in
theorem tX14_ofLandNow_202 {p : Program} {l : Launch} {e : Env} {s : State} {m : MethodId} {args : Array Value} {below : List Frame} {meth : Method} {c : Code} {G : mG} {b0 : Nat} (C : m_C p s m args c cX14_ofLandNow 6 RX14 wsX14_ofLandNow G b0) (hr : meth.sig.returnType = (some .int)) (hlocks : meth.locks = false) {κ : Int32 → mM → Prop} {R145 : Option Nat → Int32 → Int32 → Int32 → mM → Prop} (hR145 : ∀ (l0 : Option Nat) (l1 : Int32) (l4 : Int32) (l5 : Int32) (M : mM), R145 l0 l1 l4 l5 M → m_W p l e ({ frames := 5, cells := 0, slots := 0, locals := 111 } : Room) s m args below meth c G b0 (MQ below (va_Qi κ (m_B G b0) (fun q => b0 ≤ q)) args s 0 0 (fun q => b0 ≤ q)) 6 M 0 0 145 [(0, va_rf l0), (1, .int l1), (4, .int l4), (5, .int l5)] []) {l0 : Option Nat} {l1 : Int32} {l5 : Int32} {s0 : Int32} {s1 : Int32} {M : mM} (h : wX14_ofLandNow_202 κ R145 l0 l1 l5 s0 s1 M) : m_W p l e ({ frames := 5, cells := 0, slots := 0, locals := 111 } : Room) s m args below meth c G b0 (MQ below (va_Qi κ (m_B G b0) (fun q => b0 ≤ q)) args s 0 0 (fun q => b0 ≤ q)) 6 M 0 0 202 [(0, va_rf l0), (1, .int l1), (5, .int l5)] [.int s0, .int s1] := by
  unfold wX14_ofLandNow_202 at h
  refine q_iadd (pc := 202) C dX14_ofLandNow_202 ?_
  refine q_istore (pc := 203) C 4 [(4, .int (s1 + s0)), (0, va_rf l0), (1, .int l1), (5, .int l5)] dX14_ofLandNow_203 (by decide) (by first | rfl | simp [q_cat, q_catI, q_catJ, q_catR, q_catN]) ?_
  refine q_iinc (pc := 205) C 5 3 (l5 + 1) [(5, .int (l5 + 1)), (4, .int (s1 + s0)), (0, va_rf l0), (1, .int l1)] dX14_ofLandNow_205 rfl (by rfl) (by decide) (by first | rfl | simp [q_cat, q_catI, q_catJ, q_catR, q_catN]) ?_
  refine q_goto (pc := 208) C 145 dX14_ofLandNow_208 (by decide) ?_
  refine q_widen (k2 := 0) (n2 := 0) (by omega) (by omega) ?_
  refine q_lv [2, 3, 1, 0] rfl ?_
  exact hR145 _ _ _ _ _ h
set_option maxRecDepth 100000 in
set_option maxHeartbeats 4000000 in
theorem tX14_ofLandNow_201 {p : Program} {l : Launch} {e : Env} {s : State} {m : MethodId} {args : Array Value} {below : List Frame} {meth : Method} {c : Code} {G : mG} {b0 : Nat} (C : m_C p s m args c cX14_ofLandNow 6 RX14 wsX14_ofLandNow G b0) (hr : meth.sig.returnType = (some .int)) (hlocks : meth.locks = false) {κ : Int32 → mM → Prop} {R145 : Option Nat → Int32 → Int32 → Int32 → mM → Prop} (hR145 : ∀ (l0 : Option Nat) (l1 : Int32) (l4 : Int32) (l5 : Int32) (M : mM), R145 l0 l1 l4 l5 M → m_W p l e ({ frames := 5, cells := 0, slots := 0, locals := 111 } : Room) s m args below meth c G b0 (MQ below (va_Qi κ (m_B G b0) (fun q => b0 ≤ q)) args s 0 0 (fun q => b0 ≤ q)) 6 M 0 0 145 [(0, va_rf l0), (1, .int l1), (4, .int l4), (5, .int l5)] []) {l0 : Option Nat} {l1 : Int32} {l5 : Int32} {s0 : Int32} {M : mM} (h : wX14_ofLandNow_201 κ R145 l0 l1 l5 s0 M) : m_W p l e ({ frames := 5, cells := 0, slots := 0, locals := 111 } : Room) s m args below meth c G b0 (MQ below (va_Qi κ (m_B G b0) (fun q => b0 ≤ q)) args s 0 0 (fun q => b0 ≤ q)) 6 M 0 0 201 [(0, va_rf l0), (1, .int l1), (5, .int l5)] [.int s0] := by
  unfold wX14_ofLandNow_201 at h
  refine q_iconst (pc := 201) C 0 dX14_ofLandNow_201 (by decide) ?_
  refine q_widen (k2 := 0) (n2 := 0) (by omega) (by omega) ?_
  refine q_lv [0, 1, 2] rfl ?_
  exact tX14_ofLandNow_202 C hr hlocks hR145 h
set_option maxRecDepth 100000 in
set_option maxHeartbeats 4000000 in
theorem tX14_ofLandNow_145 {p : Program} {l : Launch} {e : Env} {s : State} {m : MethodId} {args : Array Value} {below : List Frame} {meth : Method} {c : Code} {G : mG} {b0 : Nat} (C : m_C p s m args c cX14_ofLandNow 6 RX14 wsX14_ofLandNow G b0) (hr : meth.sig.returnType = (some .int)) (hlocks : meth.locks = false) {κ : Int32 → mM → Prop} : ∀ (f : Nat) (l0 : Option Nat) (l1 : Int32) (l4 : Int32) (l5 : Int32) (M : mM), wX14_ofLandNow_145 κ f l0 l1 l4 l5 M → m_W p l e ({ frames := 5, cells := 0, slots := 0, locals := 111 } : Room) s m args below meth c G b0 (MQ below (va_Qi κ (m_B G b0) (fun q => b0 ≤ q)) args s 0 0 (fun q => b0 ≤ q)) 6 M 0 0 145 [(0, va_rf l0), (1, .int l1), (4, .int l4), (5, .int l5)] [] := by
  intro f
  induction f with
  | zero =>
    intro l0 l1 l4 l5 M h
    exact absurd h (by simp [wX14_ofLandNow_145])
  | succ f ih =>
    intro l0 l1 l4 l5 M h
    rw [wX14_ofLandNow_145] at h
    refine q_iload (pc := 145) C 5 3 dX14_ofLandNow_145 rfl ?_
    refine q_aload_n (pc := 147) C 0 0 dX14_ofLandNow_147 rfl rfl ?_
    refine q_gR (pc := 148) C h (T := TX14) rfl (by decide) (wk_u rfl wm_X14_ofLandNow uq_X14 (by decide +kernel)) (by decide +kernel) (fun _ h9 => h9) dX14_ofLandNow_148 (fun x1 h => ?_)
    obtain ⟨b4, fs9, hb4, hm9, h⟩ := h
    refine q_ci (pc := 151) (q_rV C (st := [.int l5]) (b := b4) (kJx4a65c_size_8abf5 l G b0 h) (cwV 0 C.2.2.2.2.1 gX14_ofLandNow_Jx4a65c_size_8abf5 rfl rfl rfl (by decide +kernel) ⟨Nat.le_of_ble_eq_true rfl, Nat.le_of_ble_eq_true rfl⟩) hm9 rfl rfl rfl (by first | exact Nat.le_of_ble_eq_true rfl | (simp [q_cat, q_catI, q_catJ, q_catR, q_catN]; done)) (by rw [hb4]; first | done | rfl) dX14_ofLandNow_151 ⟨(by first | omega | (dsimp only; omega)), (by first | omega | (dsimp only; omega))⟩) (fun x2 M3 h => ?_)
    refine q_icmp_ge (pc := 154) C 211 dX14_ofLandNow_154 (by decide) (fun c5 => ?_) (fun c5 => ?_)
    · have h := h.1 c5
      refine q_iload (pc := 211) C 4 2 dX14_ofLandNow_211 rfl ?_
      exact q_iret (pc := 213) C hr hlocks h dX14_ofLandNow_213 (by omega) (by omega)
    · have h := h.2 c5
      refine q_iload (pc := 157) C 4 2 dX14_ofLandNow_157 rfl ?_
      refine q_aload_n (pc := 159) C 0 0 dX14_ofLandNow_159 rfl rfl ?_
      refine q_gR (pc := 160) C h (T := TX14) rfl (by decide) (wk_u rfl wm_X14_ofLandNow uq_X14 (by decide +kernel)) (by decide +kernel) (fun _ h9 => h9) dX14_ofLandNow_160 (fun x6 h => ?_)
      refine q_iload (pc := 163) C 5 3 dX14_ofLandNow_163 rfl ?_
      obtain ⟨b9, fs9, hb9, hm9, h⟩ := h
      refine q_cq (pc := 165) (q_rV C (st := [.int l4]) (b := b9) (kJx4a65c_get_915e3 l G b0 h) (cwV 1 C.2.2.2.2.1 gX14_ofLandNow_Jx4a65c_get_915e3 rfl rfl rfl (by decide +kernel) ⟨Nat.le_of_ble_eq_true rfl, Nat.le_of_ble_eq_true rfl⟩) hm9 rfl rfl rfl (by first | exact Nat.le_of_ble_eq_true rfl | (simp [q_cat, q_catI, q_catJ, q_catR, q_catN]; done)) (by rw [hb9]; first | done | rfl) dX14_ofLandNow_165 ⟨(by first | omega | (dsimp only; omega)), (by first | omega | (dsimp only; omega))⟩) (fun x7 M8 h => ?_)
      refine q_cast (pc := 168) C h rfl rfl (by decide +kernel) dX14_ofLandNow_168 (fun h => ?_)
      refine q_gIN (pc := 171) C h (host := "LullabygateModel") (T := TX13) rfl (by decide) (by decide +kernel) 1474 (by decide +kernel) (fun _ h9 => h9) dX14_ofLandNow_171 (fun x10 h => ?_)
      refine q_iload_n (pc := 174) C 1 1 dX14_ofLandNow_174 rfl rfl ?_
      refine q_icmp_ne (pc := 175) C 201 dX14_ofLandNow_175 (by decide) (fun c11 => ?_) (fun c11 => ?_)
      · have h := h.2 c11
        refine q_widen (k2 := 0) (n2 := 0) (by omega) (by omega) ?_
        refine q_lv [0, 1, 3] rfl ?_
        exact tX14_ofLandNow_201 C hr hlocks ih h
      · have h := h.1 c11
        refine q_aload_n (pc := 178) C 0 0 dX14_ofLandNow_178 rfl rfl ?_
        refine q_gR (pc := 179) C h (T := TX14) rfl (by decide) (wk_u rfl wm_X14_ofLandNow uq_X14 (by decide +kernel)) (by decide +kernel) (fun _ h9 => h9) dX14_ofLandNow_179 (fun x12 h => ?_)
        refine q_iload (pc := 182) C 5 3 dX14_ofLandNow_182 rfl ?_
        obtain ⟨b15, fs9, hb15, hm9, h⟩ := h
        refine q_cq (pc := 184) (q_rV C (st := [.int l4]) (b := b15) (kJx4a65c_get_915e3 l G b0 h) (cwV 1 C.2.2.2.2.1 gX14_ofLandNow_Jx4a65c_get_915e3 rfl rfl rfl (by decide +kernel) ⟨Nat.le_of_ble_eq_true rfl, Nat.le_of_ble_eq_true rfl⟩) hm9 rfl rfl rfl (by first | exact Nat.le_of_ble_eq_true rfl | (simp [q_cat, q_catI, q_catJ, q_catR, q_catN]; done)) (by rw [hb15]; first | done | rfl) dX14_ofLandNow_184 ⟨(by first | omega | (dsimp only; omega)), (by first | omega | (dsimp only; omega))⟩) (fun x13 M14 h => ?_)
        refine q_cast (pc := 187) C h rfl rfl (by decide +kernel) dX14_ofLandNow_187 (fun h => ?_)
        refine q_gIN (pc := 190) C h (host := "LullabygateModel") (T := TX13) rfl (by decide) (by decide +kernel) 1477 (by decide +kernel) (fun _ h9 => h9) dX14_ofLandNow_190 (fun x16 h => ?_)
        refine q_iconst (pc := 193) C 2 dX14_ofLandNow_193 (by decide) ?_
        refine q_icmp_eq (pc := 194) C 201 dX14_ofLandNow_194 (by decide) (fun c17 => ?_) (fun c17 => ?_)
        · have h := h.1 c17
          refine q_widen (k2 := 0) (n2 := 0) (by omega) (by omega) ?_
          refine q_lv [0, 1, 3] rfl ?_
          exact tX14_ofLandNow_201 C hr hlocks ih h
        · have h := h.2 c17
          refine q_iconst (pc := 197) C 1 dX14_ofLandNow_197 (by decide) ?_
          refine q_goto (pc := 198) C 202 dX14_ofLandNow_198 (by decide) ?_
          refine q_widen (k2 := 0) (n2 := 0) (by omega) (by omega) ?_
          refine q_lv [0, 1, 3] rfl ?_
          exact tX14_ofLandNow_202 C hr hlocks ih h
set_option maxRecDepth 100000 in
set_option maxHeartbeats 4000000 in
theorem tX14_ofLandNow {p : Program} {l : Launch} {e : Env} {s : State} {m : MethodId} {args : Array Value} {below : List Frame} {meth : Method} {c : Code} {G : mG} {b0 : Nat} (C : m_C p s m args c cX14_ofLandNow 6 RX14 wsX14_ofLandNow G b0) (hr : meth.sig.returnType = (some .int)) (hlocks : meth.locks = false) {κ : Int32 → mM → Prop} {l0 : Option Nat} {l1 : Int32} {l2 : Int32} {M : mM} (h : wX14_ofLandNow κ l0 l1 l2 M) : m_W p l e ({ frames := 5, cells := 0, slots := 0, locals := 111 } : Room) s m args below meth c G b0 (MQ below (va_Qi κ (m_B G b0) (fun q => b0 ≤ q)) args s 0 0 (fun q => b0 ≤ q)) 6 M 0 0 0 [(0, va_rf l0), (1, .int l1), (2, .int l2)] [] := by
  unfold wX14_ofLandNow at h
  refine q_aload_n (pc := 0) C 0 0 dX14_ofLandNow_0 rfl rfl ?_
  refine q_gR (pc := 1) C h (T := TX14) rfl (by decide) (wk_u rfl wm_X14_ofLandNow uq_X14 (by decide +kernel)) (by decide +kernel) (fun _ h9 => h9) dX14_ofLandNow_1 (fun x1 h => ?_)
  refine q_iload_n (pc := 4) C 1 1 dX14_ofLandNow_4 rfl rfl ?_
  refine q_aald (pc := 5) C h rfl dX14_ofLandNow_5 (fun x2 h => ?_)
  refine q_astore_n (pc := 6) C 3 [(3, va_rf x2), (0, va_rf l0), (1, .int l1), (2, .int l2)] dX14_ofLandNow_6 rfl (by decide) (by first | rfl | simp [q_cat, q_catI, q_catJ, q_catR, q_catN]) ?_
  refine q_iconst (pc := 7) C 0 dX14_ofLandNow_7 (by decide) ?_
  refine q_istore (pc := 8) C 4 [(4, .int 0), (3, va_rf x2), (0, va_rf l0), (1, .int l1), (2, .int l2)] dX14_ofLandNow_8 (by decide) (by first | rfl | simp [q_cat, q_catI, q_catJ, q_catR, q_catN]) ?_
  refine q_iload_n (pc := 10) C 2 4 dX14_ofLandNow_10 rfl rfl ?_
  by_cases c3 : l2 = 0
  · have h := h.1 c3
    refine q_tableIn (pc := 11) C 56 dX14_ofLandNow_11 (by rw [c3]; decide) (by rw [c3]; decide) (by rw [c3]; rfl) (by decide) ?_
    refine q_aload_n (pc := 56) C 3 1 dX14_ofLandNow_56 rfl rfl ?_
    refine q_gIN (pc := 57) C h (host := "LullabygateModel") (T := TX11) rfl (by decide) (by decide +kernel) 1319 (by decide +kernel) (fun _ h9 => h9) dX14_ofLandNow_57 (fun x4 h => ?_)
    exact q_iret (pc := 60) C hr hlocks h dX14_ofLandNow_60 (by omega) (by omega)
  have h := h.2 c3
  by_cases c5 : l2 = 1
  · have h := h.1 c5
    refine q_tableIn (pc := 11) C 61 dX14_ofLandNow_11 (by rw [c5]; decide) (by rw [c5]; decide) (by rw [c5]; rfl) (by decide) ?_
    refine q_aload_n (pc := 61) C 3 1 dX14_ofLandNow_61 rfl rfl ?_
    refine q_gIN (pc := 62) C h (host := "LullabygateModel") (T := TX11) rfl (by decide) (by decide +kernel) 1321 (by decide +kernel) (fun _ h9 => h9) dX14_ofLandNow_62 (fun x6 h => ?_)
    exact q_iret (pc := 65) C hr hlocks h dX14_ofLandNow_65 (by omega) (by omega)
  have h := h.2 c5
  by_cases c7 : l2 = 2
  · have h := h.1 c7
    refine q_tableIn (pc := 11) C 66 dX14_ofLandNow_11 (by rw [c7]; decide) (by rw [c7]; decide) (by rw [c7]; rfl) (by decide) ?_
    refine q_aload_n (pc := 66) C 3 1 dX14_ofLandNow_66 rfl rfl ?_
    refine q_gIN (pc := 67) C h (host := "LullabygateModel") (T := TX11) rfl (by decide) (by decide +kernel) 1323 (by decide +kernel) (fun _ h9 => h9) dX14_ofLandNow_67 (fun x8 h => ?_)
    exact q_iret (pc := 70) C hr hlocks h dX14_ofLandNow_70 (by omega) (by omega)
  have h := h.2 c7
  by_cases c9 : l2 = 3
  · have h := h.1 c9
    refine q_tableIn (pc := 11) C 71 dX14_ofLandNow_11 (by rw [c9]; decide) (by rw [c9]; decide) (by rw [c9]; rfl) (by decide) ?_
    refine q_aload_n (pc := 71) C 3 1 dX14_ofLandNow_71 rfl rfl ?_
    refine q_gIN (pc := 72) C h (host := "LullabygateModel") (T := TX11) rfl (by decide) (by decide +kernel) 1324 (by decide +kernel) (fun _ h9 => h9) dX14_ofLandNow_72 (fun x10 h => ?_)
    exact q_iret (pc := 75) C hr hlocks h dX14_ofLandNow_75 (by omega) (by omega)
  have h := h.2 c9
  by_cases c11 : l2 = 4
  · have h := h.1 c11
    refine q_tableIn (pc := 11) C 76 dX14_ofLandNow_11 (by rw [c11]; decide) (by rw [c11]; decide) (by rw [c11]; rfl) (by decide) ?_
    refine q_aload_n (pc := 76) C 3 1 dX14_ofLandNow_76 rfl rfl ?_
    refine q_gIN (pc := 77) C h (host := "LullabygateModel") (T := TX11) rfl (by decide) (by decide +kernel) 1325 (by decide +kernel) (fun _ h9 => h9) dX14_ofLandNow_77 (fun x12 h => ?_)
    exact q_iret (pc := 80) C hr hlocks h dX14_ofLandNow_80 (by omega) (by omega)
  have h := h.2 c11
  by_cases c13 : l2 = 5
  · have h := h.1 c13
    refine q_tableIn (pc := 11) C 81 dX14_ofLandNow_11 (by rw [c13]; decide) (by rw [c13]; decide) (by rw [c13]; rfl) (by decide) ?_
    refine q_aload_n (pc := 81) C 3 1 dX14_ofLandNow_81 rfl rfl ?_
    refine q_gIN (pc := 82) C h (host := "LullabygateModel") (T := TX11) rfl (by decide) (by decide +kernel) 1326 (by decide +kernel) (fun _ h9 => h9) dX14_ofLandNow_82 (fun x14 h => ?_)
    exact q_iret (pc := 85) C hr hlocks h dX14_ofLandNow_85 (by omega) (by omega)
  have h := h.2 c13
  by_cases c15 : l2 = 6
  · have h := h.1 c15
    refine q_tableIn (pc := 11) C 86 dX14_ofLandNow_11 (by rw [c15]; decide) (by rw [c15]; decide) (by rw [c15]; rfl) (by decide) ?_
    refine q_iconst (pc := 86) C 0 dX14_ofLandNow_86 (by decide) ?_
    refine q_istore (pc := 87) C 5 [(5, .int 0), (4, .int 0), (3, va_rf x2), (0, va_rf l0), (1, .int l1), (2, .int l2)] dX14_ofLandNow_87 (by decide) (by first | rfl | simp [q_cat, q_catI, q_catJ, q_catR, q_catN]) ?_
    refine q_widen (k2 := 0) (n2 := 0) (by omega) (by omega) ?_
    refine q_lv [3, 4, 1, 0] rfl ?_
    obtain ⟨f9, h⟩ := h
    exact tX14_ofLandNow_89 C hr hlocks f9 _ _ _ _ _ h
  have h := h.2 c15
  by_cases c16 : l2 = 7
  · have h := h.1 c16
    refine q_tableIn (pc := 11) C 142 dX14_ofLandNow_11 (by rw [c16]; decide) (by rw [c16]; decide) (by rw [c16]; rfl) (by decide) ?_
    refine q_iconst (pc := 142) C 0 dX14_ofLandNow_142 (by decide) ?_
    refine q_istore (pc := 143) C 5 [(5, .int 0), (4, .int 0), (3, va_rf x2), (0, va_rf l0), (1, .int l1), (2, .int l2)] dX14_ofLandNow_143 (by decide) (by first | rfl | simp [q_cat, q_catI, q_catJ, q_catR, q_catN]) ?_
    refine q_widen (k2 := 0) (n2 := 0) (by omega) (by omega) ?_
    refine q_lv [3, 4, 1, 0] rfl ?_
    obtain ⟨f9, h⟩ := h
    exact tX14_ofLandNow_145 C hr hlocks f9 _ _ _ _ _ h
  have h := h.2 c16
  refine q_tableOut (pc := 11) C 214 dX14_ofLandNow_11 ?_ (by decide) ?_
  · have hsw := m_sw (x := l2) 0 8 (fun j hj => by
      rcases (show j = 0 ∨ j = 1 ∨ j = 2 ∨ j = 3 ∨ j = 4 ∨ j = 5 ∨ j = 6 ∨ j = 7 by omega) with rfl | rfl | rfl | rfl | rfl | rfl | rfl | rfl
      · exact c3
      · exact c5
      · exact c7
      · exact c9
      · exact c11
      · exact c13
      · exact c15
      · exact c16
      ) (by decide)
    rcases hsw with q9 | q9
    · exact Or.inl (by simpa using q9)
    · exact Or.inr (by simp at q9 ⊢; omega)
  refine q_aload_n (pc := 214) C 0 2 dX14_ofLandNow_214 rfl rfl ?_
  refine q_iload_n (pc := 215) C 1 3 dX14_ofLandNow_215 rfl rfl ?_
  obtain ⟨b19, fs9, hb19, hm9, h⟩ := h
  refine q_ci (pc := 216) (q_rV C (st := []) (b := b19) (kX14_wholes l G b0 h) (cwV 1 C.2.2.2.2.1 gX14_ofLandNow_X14_wholes rfl rfl rfl (by decide +kernel) ⟨Nat.le_of_ble_eq_true rfl, Nat.le_of_ble_eq_true rfl⟩) hm9 rfl rfl rfl (by first | exact Nat.le_of_ble_eq_true rfl | (simp [q_cat, q_catI, q_catJ, q_catR, q_catN]; done)) (by rw [hb19]; first | done | rfl) dX14_ofLandNow_216 ⟨(by first | omega | (dsimp only; omega)), (by first | omega | (dsimp only; omega))⟩) (fun x17 M18 h => ?_)
  exact q_iret (pc := 219) C hr hlocks h dX14_ofLandNow_219 (by omega) (by omega)
set_option maxRecDepth 100000 in
set_option maxHeartbeats 4000000 in
theorem kX14_ofLandNow (l : Launch) (G : mG) (b0 : Nat) {b : Nat} {l1 : Int32} {l2 : Int32} {M : mM} {κ : Int32 → mM → Prop} (h : wX14_ofLandNow κ (some b) l1 l2 M) : Met l yX14_ofLandNow wsX14_ofLandNow ({ frames := 5, cells := 0, slots := 0, locals := 111 } : Room) (va_Pc [.ref b, .int l1, .int l2] (m_Pre G b0 M)) (va_Qi κ (m_B G b0) (fun q => b0 ≤ q)) 0 0 (fun q => b0 ≤ q) := by
  refine m_met (cc := cX14_ofLandNow) (maxL := 6) (ret := (some .int)) (lv := [(0, va_rf (some b)), (1, .int l1), (2, .int l2)]) RX14 rfl (by decide +kernel) rfl (by first | exact Nat.le_of_ble_eq_true rfl | simp [lg_sl, q_cat, q_catI, q_catJ, q_catR, q_catN]) (by first | rfl | (simp [lv_args, q_cat, q_catI, q_catJ, q_catR, q_catN]; done) | (simp [lv_args, q_cat, q_catI, q_catJ, q_catR, q_catN]; rfl)) ?_
  intro p e s m args below meth c C hr hlocks hni
  exact tX14_ofLandNow C hr hlocks h
/-! X14_ofLand -/
set_option maxRecDepth 100000 in
set_option maxHeartbeats 4000000 in
theorem tX14_ofLand {p : Program} {l : Launch} {e : Env} {s : State} {m : MethodId} {args : Array Value} {below : List Frame} {meth : Method} {c : Code} {G : mG} {b0 : Nat} (C : m_C p s m args c cX14_ofLand 3 RX14 wsX14_ofLand G b0) (hr : meth.sig.returnType = (some .int)) (hlocks : meth.locks = false) {κ : Int32 → mM → Prop} {l0 : Option Nat} {l1 : Int32} {l2 : Int32} {M : mM} (h : wX14_ofLand κ l0 l1 l2 M) : m_W p l e ({ frames := 6, cells := 0, slots := 0, locals := 136 } : Room) s m args below meth c G b0 (MQ below (va_Qi κ (m_B G b0) (fun q => b0 ≤ q)) args s 0 0 (fun q => b0 ≤ q)) 3 M 0 0 0 [(0, va_rf l0), (1, .int l1), (2, .int l2)] [] := by
  unfold wX14_ofLand at h
  refine q_aload_n (pc := 0) C 0 0 dX14_ofLand_0 rfl rfl ?_
  refine q_iconst (pc := 1) C 0 dX14_ofLand_1 (by decide) ?_
  refine q_p (pc := 2) C h .int (T := TX14) tyX14 tyX14_ok nmX14 rfl (by decide +kernel) rfl rfl rfl (by decide) (wk_u rfl wm_X14_ofLand uq_X14 (by decide +kernel)) (by decide +kernel) (fun _ h9 => h9) rfl dX14_ofLand_2 (fun M1 h => ?_)
  refine q_aload_n (pc := 5) C 0 0 dX14_ofLand_5 rfl rfl ?_
  refine q_iload_n (pc := 6) C 1 1 dX14_ofLand_6 rfl rfl ?_
  obtain ⟨b4, fs9, hb4, hm9, h⟩ := h
  refine q_ci (pc := 7) (q_rV C (st := []) (b := b4) (kX14_isLand l G b0 h) (cwV 1 C.2.2.2.2.1 gX14_ofLand_X14_isLand rfl rfl rfl (by decide +kernel) ⟨Nat.le_of_ble_eq_true rfl, Nat.le_of_ble_eq_true rfl⟩) hm9 rfl rfl rfl (by first | exact Nat.le_of_ble_eq_true rfl | (simp [q_cat, q_catI, q_catJ, q_catR, q_catN]; done)) (by rw [hb4]; first | done | rfl) dX14_ofLand_7 ⟨(by first | omega | (dsimp only; omega)), (by first | omega | (dsimp only; omega))⟩) (fun x2 M3 h => ?_)
  refine q_if_ne (pc := 10) C 19 dX14_ofLand_10 (by decide) (fun c5 => ?_) (fun c5 => ?_)
  · have h := h.2 c5
    refine q_iload_n (pc := 19) C 2 2 dX14_ofLand_19 rfl rfl ?_
    refine q_iconst (pc := 20) C 0 dX14_ofLand_20 (by decide) ?_
    refine q_bipush (pc := 21) C 8 dX14_ofLand_21 (by decide) ?_
    refine q_ci (pc := 23) (q_rS C (st := []) (kX14_is l G b0 h) (va_cwS 3 C.2.2.2.2.1 gX14_ofLand_X14_is rfl rfl rfl (by decide +kernel) ⟨Nat.le_of_ble_eq_true rfl, Nat.le_of_ble_eq_true rfl⟩) rfl (by first | exact Nat.le_of_ble_eq_true rfl | (simp [q_cat, q_catI, q_catJ, q_catR, q_catN]; done)) rfl dX14_ofLand_23 ⟨(by first | omega | (dsimp only; omega)), (by first | omega | (dsimp only; omega))⟩) (fun x6 M7 h => ?_)
    refine q_if_eq (pc := 26) C 38 dX14_ofLand_26 (by decide) (fun c8 => ?_) (fun c8 => ?_)
    · have h := h.1 c8
      refine q_aload_n (pc := 38) C 0 0 dX14_ofLand_38 rfl rfl ?_
      refine q_iconst (pc := 39) C 2 dX14_ofLand_39 (by decide) ?_
      obtain ⟨b11, fs9, hb11, hm9, h⟩ := h
      refine q_ci (pc := 40) (q_rV C (st := []) (b := b11) (kX14_refuse l G b0 h) (cwV 1 C.2.2.2.2.1 gX14_ofLand_X14_refuse rfl rfl rfl (by decide +kernel) ⟨Nat.le_of_ble_eq_true rfl, Nat.le_of_ble_eq_true rfl⟩) hm9 rfl rfl rfl (by first | exact Nat.le_of_ble_eq_true rfl | (simp [q_cat, q_catI, q_catJ, q_catR, q_catN]; done)) (by rw [hb11]; first | done | rfl) dX14_ofLand_40 ⟨(by first | omega | (dsimp only; omega)), (by first | omega | (dsimp only; omega))⟩) (fun x9 M10 h => ?_)
      exact q_iret (pc := 43) C hr hlocks h dX14_ofLand_43 (by omega) (by omega)
    · have h := h.2 c8
      refine q_aload_n (pc := 29) C 0 0 dX14_ofLand_29 rfl rfl ?_
      refine q_iload_n (pc := 30) C 1 1 dX14_ofLand_30 rfl rfl ?_
      refine q_iload_n (pc := 31) C 2 2 dX14_ofLand_31 rfl rfl ?_
      obtain ⟨b14, fs9, hb14, hm9, h⟩ := h
      refine q_ci (pc := 32) (q_rV C (st := []) (b := b14) (kX14_ofLandNow l G b0 h) (cwV 2 C.2.2.2.2.1 gX14_ofLand_X14_ofLandNow rfl rfl rfl (by decide +kernel) ⟨Nat.le_of_ble_eq_true rfl, Nat.le_of_ble_eq_true rfl⟩) hm9 rfl rfl rfl (by first | exact Nat.le_of_ble_eq_true rfl | (simp [q_cat, q_catI, q_catJ, q_catR, q_catN]; done)) (by rw [hb14]; first | done | rfl) dX14_ofLand_32 ⟨(by first | omega | (dsimp only; omega)), (by first | omega | (dsimp only; omega))⟩) (fun x12 M13 h => ?_)
      refine q_goto (pc := 35) C 43 dX14_ofLand_35 (by decide) ?_
      exact q_iret (pc := 43) C hr hlocks h dX14_ofLand_43 (by omega) (by omega)
  · have h := h.1 c5
    refine q_aload_n (pc := 13) C 0 0 dX14_ofLand_13 rfl rfl ?_
    refine q_iconst (pc := 14) C 1 dX14_ofLand_14 (by decide) ?_
    obtain ⟨b17, fs9, hb17, hm9, h⟩ := h
    refine q_ci (pc := 15) (q_rV C (st := []) (b := b17) (kX14_refuse l G b0 h) (cwV 1 C.2.2.2.2.1 gX14_ofLand_X14_refuse rfl rfl rfl (by decide +kernel) ⟨Nat.le_of_ble_eq_true rfl, Nat.le_of_ble_eq_true rfl⟩) hm9 rfl rfl rfl (by first | exact Nat.le_of_ble_eq_true rfl | (simp [q_cat, q_catI, q_catJ, q_catR, q_catN]; done)) (by rw [hb17]; first | done | rfl) dX14_ofLand_15 ⟨(by first | omega | (dsimp only; omega)), (by first | omega | (dsimp only; omega))⟩) (fun x15 M16 h => ?_)
    exact q_iret (pc := 18) C hr hlocks h dX14_ofLand_18 (by omega) (by omega)
set_option maxRecDepth 100000 in
set_option maxHeartbeats 4000000 in
theorem kX14_ofLand (l : Launch) (G : mG) (b0 : Nat) {b : Nat} {l1 : Int32} {l2 : Int32} {M : mM} {κ : Int32 → mM → Prop} (h : wX14_ofLand κ (some b) l1 l2 M) : Met l yX14_ofLand wsX14_ofLand ({ frames := 6, cells := 0, slots := 0, locals := 136 } : Room) (va_Pc [.ref b, .int l1, .int l2] (m_Pre G b0 M)) (va_Qi κ (m_B G b0) (fun q => b0 ≤ q)) 0 0 (fun q => b0 ≤ q) := by
  refine m_met (cc := cX14_ofLand) (maxL := 3) (ret := (some .int)) (lv := [(0, va_rf (some b)), (1, .int l1), (2, .int l2)]) RX14 rfl (by decide +kernel) rfl (by first | exact Nat.le_of_ble_eq_true rfl | simp [lg_sl, q_cat, q_catI, q_catJ, q_catR, q_catN]) (by first | rfl | (simp [lv_args, q_cat, q_catI, q_catJ, q_catR, q_catN]; done) | (simp [lv_args, q_cat, q_catI, q_catJ, q_catR, q_catN]; rfl)) ?_
  intro p e s m args below meth c C hr hlocks hni
  exact tX14_ofLand C hr hlocks h
/-! X14_hiddenWorth -/
set_option maxRecDepth 100000 in
set_option maxHeartbeats 4000000 in
theorem tX14_hiddenWorth_87 {p : Program} {l : Launch} {e : Env} {s : State} {m : MethodId} {args : Array Value} {below : List Frame} {meth : Method} {c : Code} {G : mG} {b0 : Nat} (C : m_C p s m args c cX14_hiddenWorth 5 RX14 wsX14_hiddenWorth G b0) (hr : meth.sig.returnType = (some .int)) (hlocks : meth.locks = false) {κ : Int32 → mM → Prop} {R4 : Option Nat → Option Nat → Int32 → Int32 → mM → Prop} (hR4 : ∀ (l0 : Option Nat) (l1 : Option Nat) (l2 : Int32) (l3 : Int32) (M : mM), R4 l0 l1 l2 l3 M → m_W p l e ({ frames := 4, cells := 0, slots := 0, locals := 86 } : Room) s m args below meth c G b0 (MQ below (va_Qi κ (m_B G b0) (fun q => b0 ≤ q)) args s 0 0 (fun q => b0 ≤ q)) 5 M 0 0 4 [(0, va_rf l0), (1, va_rf l1), (2, .int l2), (3, .int l3)] []) {l0 : Option Nat} {l1 : Option Nat} {l2 : Int32} {l3 : Int32} {M : mM} (h : wX14_hiddenWorth_87 κ R4 l0 l1 l2 l3 M) : m_W p l e ({ frames := 4, cells := 0, slots := 0, locals := 86 } : Room) s m args below meth c G b0 (MQ below (va_Qi κ (m_B G b0) (fun q => b0 ≤ q)) args s 0 0 (fun q => b0 ≤ q)) 5 M 0 0 87 [(0, va_rf l0), (1, va_rf l1), (2, .int l2), (3, .int l3)] [] := by
  unfold wX14_hiddenWorth_87 at h
  refine q_iinc (pc := 87) C 3 3 (l3 + 1) [(3, .int (l3 + 1)), (0, va_rf l0), (1, va_rf l1), (2, .int l2)] dX14_hiddenWorth_87 rfl (by rfl) (by decide) (by first | rfl | simp [q_cat, q_catI, q_catJ, q_catR, q_catN]) ?_
  refine q_goto (pc := 90) C 4 dX14_hiddenWorth_90 (by decide) ?_
  refine q_widen (k2 := 0) (n2 := 0) (by omega) (by omega) ?_
  refine q_lv [1, 2, 3, 0] rfl ?_
  exact hR4 _ _ _ _ _ h
set_option maxRecDepth 100000 in
set_option maxHeartbeats 4000000 in
theorem tX14_hiddenWorth_4 {p : Program} {l : Launch} {e : Env} {s : State} {m : MethodId} {args : Array Value} {below : List Frame} {meth : Method} {c : Code} {G : mG} {b0 : Nat} (C : m_C p s m args c cX14_hiddenWorth 5 RX14 wsX14_hiddenWorth G b0) (hr : meth.sig.returnType = (some .int)) (hlocks : meth.locks = false) {κ : Int32 → mM → Prop} : ∀ (f : Nat) (l0 : Option Nat) (l1 : Option Nat) (l2 : Int32) (l3 : Int32) (M : mM), wX14_hiddenWorth_4 κ f l0 l1 l2 l3 M → m_W p l e ({ frames := 4, cells := 0, slots := 0, locals := 86 } : Room) s m args below meth c G b0 (MQ below (va_Qi κ (m_B G b0) (fun q => b0 ≤ q)) args s 0 0 (fun q => b0 ≤ q)) 5 M 0 0 4 [(0, va_rf l0), (1, va_rf l1), (2, .int l2), (3, .int l3)] [] := by
  intro f
  induction f with
  | zero =>
    intro l0 l1 l2 l3 M h
    exact absurd h (by simp [wX14_hiddenWorth_4])
  | succ f ih =>
    intro l0 l1 l2 l3 M h
    rw [wX14_hiddenWorth_4] at h
    refine q_iload_n (pc := 4) C 3 3 dX14_hiddenWorth_4 rfl rfl ?_
    refine q_aload_n (pc := 5) C 0 0 dX14_hiddenWorth_5 rfl rfl ?_
    refine q_gR (pc := 6) C h (T := TX14) rfl (by decide) (wk_u rfl wm_X14_hiddenWorth uq_X14 (by decide +kernel)) (by decide +kernel) (fun _ h9 => h9) dX14_hiddenWorth_6 (fun x1 h => ?_)
    obtain ⟨b4, fs9, hb4, hm9, h⟩ := h
    refine q_ci (pc := 9) (q_rV C (st := [.int l3]) (b := b4) (kJx4a65c_size_8abf5 l G b0 h) (cwV 0 C.2.2.2.2.1 gX14_hiddenWorth_Jx4a65c_size_8abf5 rfl rfl rfl (by decide +kernel) ⟨Nat.le_of_ble_eq_true rfl, Nat.le_of_ble_eq_true rfl⟩) hm9 rfl rfl rfl (by first | exact Nat.le_of_ble_eq_true rfl | (simp [q_cat, q_catI, q_catJ, q_catR, q_catN]; done)) (by rw [hb4]; first | done | rfl) dX14_hiddenWorth_9 ⟨(by first | omega | (dsimp only; omega)), (by first | omega | (dsimp only; omega))⟩) (fun x2 M3 h => ?_)
    refine q_icmp_ge (pc := 12) C 93 dX14_hiddenWorth_12 (by decide) (fun c5 => ?_) (fun c5 => ?_)
    · have h := h.1 c5
      refine q_iload_n (pc := 93) C 2 2 dX14_hiddenWorth_93 rfl rfl ?_
      exact q_iret (pc := 94) C hr hlocks h dX14_hiddenWorth_94 (by omega) (by omega)
    · have h := h.2 c5
      refine q_aload_n (pc := 15) C 0 0 dX14_hiddenWorth_15 rfl rfl ?_
      refine q_gR (pc := 16) C h (T := TX14) rfl (by decide) (wk_u rfl wm_X14_hiddenWorth uq_X14 (by decide +kernel)) (by decide +kernel) (fun _ h9 => h9) dX14_hiddenWorth_16 (fun x6 h => ?_)
      refine q_iload_n (pc := 19) C 3 3 dX14_hiddenWorth_19 rfl rfl ?_
      obtain ⟨b9, fs9, hb9, hm9, h⟩ := h
      refine q_cq (pc := 20) (q_rV C (st := []) (b := b9) (kJx4a65c_get_915e3 l G b0 h) (cwV 1 C.2.2.2.2.1 gX14_hiddenWorth_Jx4a65c_get_915e3 rfl rfl rfl (by decide +kernel) ⟨Nat.le_of_ble_eq_true rfl, Nat.le_of_ble_eq_true rfl⟩) hm9 rfl rfl rfl (by first | exact Nat.le_of_ble_eq_true rfl | (simp [q_cat, q_catI, q_catJ, q_catR, q_catN]; done)) (by rw [hb9]; first | done | rfl) dX14_hiddenWorth_20 ⟨(by first | omega | (dsimp only; omega)), (by first | omega | (dsimp only; omega))⟩) (fun x7 M8 h => ?_)
      refine q_cast (pc := 23) C h rfl rfl (by decide +kernel) dX14_hiddenWorth_23 (fun h => ?_)
      refine q_gIN (pc := 26) C h (host := "LullabygateModel") (T := TX12) rfl (by decide) (by decide +kernel) 1524 (by decide +kernel) (fun _ h9 => h9) dX14_hiddenWorth_26 (fun x10 h => ?_)
      refine q_istore (pc := 29) C 4 [(4, .int x10), (0, va_rf l0), (1, va_rf l1), (2, .int l2), (3, .int l3)] dX14_hiddenWorth_29 (by decide) (by first | rfl | simp [q_cat, q_catI, q_catJ, q_catR, q_catN]) ?_
      refine q_iload (pc := 31) C 4 0 dX14_hiddenWorth_31 rfl ?_
      refine q_bipush (pc := 33) C 100 dX14_hiddenWorth_33 (by decide) ?_
      refine q_icmp_ge (pc := 35) C 87 dX14_hiddenWorth_35 (by decide) (fun c11 => ?_) (fun c11 => ?_)
      · have h := h.1 c11
        refine q_widen (k2 := 0) (n2 := 0) (by omega) (by omega) ?_
        refine q_lv [1, 2, 3, 4] rfl ?_
        exact tX14_hiddenWorth_87 C hr hlocks ih h
      · have h := h.2 c11
        refine q_aload_n (pc := 38) C 1 2 dX14_hiddenWorth_38 rfl rfl ?_
        refine q_iload (pc := 39) C 4 0 dX14_hiddenWorth_39 rfl ?_
        obtain ⟨b14, fs9, hb14, hm9, h⟩ := h
        refine q_ci (pc := 41) (q_rV C (st := []) (b := b14) (kX10_place l G b0 h) (cwV 1 C.2.2.2.2.1 gX14_hiddenWorth_X10_place rfl rfl rfl (by decide +kernel) ⟨Nat.le_of_ble_eq_true rfl, Nat.le_of_ble_eq_true rfl⟩) hm9 rfl rfl rfl (by first | exact Nat.le_of_ble_eq_true rfl | (simp [q_cat, q_catI, q_catJ, q_catR, q_catN]; done)) (by rw [hb14]; first | done | rfl) dX14_hiddenWorth_41 ⟨(by first | omega | (dsimp only; omega)), (by first | omega | (dsimp only; omega))⟩) (fun x12 M13 h => ?_)
        refine q_iconst (pc := 44) C (-1) dX14_hiddenWorth_44 (by decide) ?_
        refine q_icmp_eq (pc := 45) C 87 dX14_hiddenWorth_45 (by decide) (fun c15 => ?_) (fun c15 => ?_)
        · have h := h.1 c15
          refine q_widen (k2 := 0) (n2 := 0) (by omega) (by omega) ?_
          refine q_lv [1, 2, 3, 4] rfl ?_
          exact tX14_hiddenWorth_87 C hr hlocks ih h
        · have h := h.2 c15
          refine q_aload_n (pc := 48) C 0 1 dX14_hiddenWorth_48 rfl rfl ?_
          refine q_gR (pc := 49) C h (T := TX14) rfl (by decide) (wk_u rfl wm_X14_hiddenWorth uq_X14 (by decide +kernel)) (by decide +kernel) (fun _ h9 => h9) dX14_hiddenWorth_49 (fun x16 h => ?_)
          refine q_iload (pc := 52) C 4 0 dX14_hiddenWorth_52 rfl ?_
          obtain ⟨b19, fs9, hb19, hm9, h⟩ := h
          refine q_cq (pc := 54) (q_rV C (st := []) (b := b19) (kJx4a65c_get_915e3 l G b0 h) (cwV 1 C.2.2.2.2.1 gX14_hiddenWorth_Jx4a65c_get_915e3 rfl rfl rfl (by decide +kernel) ⟨Nat.le_of_ble_eq_true rfl, Nat.le_of_ble_eq_true rfl⟩) hm9 rfl rfl rfl (by first | exact Nat.le_of_ble_eq_true rfl | (simp [q_cat, q_catI, q_catJ, q_catR, q_catN]; done)) (by rw [hb19]; first | done | rfl) dX14_hiddenWorth_54 ⟨(by first | omega | (dsimp only; omega)), (by first | omega | (dsimp only; omega))⟩) (fun x17 M18 h => ?_)
          refine q_cast (pc := 57) C h rfl rfl (by decide +kernel) dX14_hiddenWorth_57 (fun h => ?_)
          refine q_gIN (pc := 60) C h (host := "LullabygateModel") (T := TX13) rfl (by decide) (by decide +kernel) 1480 (by decide +kernel) (fun _ h9 => h9) dX14_hiddenWorth_60 (fun x20 h => ?_)
          refine q_iload_n (pc := 63) C 3 4 dX14_hiddenWorth_63 rfl rfl ?_
          refine q_ishr (pc := 64) C dX14_hiddenWorth_64 ?_
          refine m_stk (st2 := .int (m_shr x20 l3) :: _) rfl ?_
          refine q_iconst (pc := 65) C 1 dX14_hiddenWorth_65 (by decide) ?_
          refine q_iand (pc := 66) C dX14_hiddenWorth_66 ?_
          refine q_if_ne (pc := 67) C 87 dX14_hiddenWorth_67 (by decide) (fun c21 => ?_) (fun c21 => ?_)
          · have h := h.2 c21
            refine q_widen (k2 := 0) (n2 := 0) (by omega) (by omega) ?_
            refine q_lv [1, 2, 3, 4] rfl ?_
            exact tX14_hiddenWorth_87 C hr hlocks ih h
          · have h := h.1 c21
            refine q_iload_n (pc := 70) C 2 3 dX14_hiddenWorth_70 rfl rfl ?_
            refine q_aload_n (pc := 71) C 0 1 dX14_hiddenWorth_71 rfl rfl ?_
            refine q_gR (pc := 72) C h (T := TX14) rfl (by decide) (wk_u rfl wm_X14_hiddenWorth uq_X14 (by decide +kernel)) (by decide +kernel) (fun _ h9 => h9) dX14_hiddenWorth_72 (fun x22 h => ?_)
            refine q_iload_n (pc := 75) C 3 4 dX14_hiddenWorth_75 rfl rfl ?_
            obtain ⟨b25, fs9, hb25, hm9, h⟩ := h
            refine q_cq (pc := 76) (q_rV C (st := [.int l2]) (b := b25) (kJx4a65c_get_915e3 l G b0 h) (cwV 1 C.2.2.2.2.1 gX14_hiddenWorth_Jx4a65c_get_915e3 rfl rfl rfl (by decide +kernel) ⟨Nat.le_of_ble_eq_true rfl, Nat.le_of_ble_eq_true rfl⟩) hm9 rfl rfl rfl (by first | exact Nat.le_of_ble_eq_true rfl | (simp [q_cat, q_catI, q_catJ, q_catR, q_catN]; done)) (by rw [hb25]; first | done | rfl) dX14_hiddenWorth_76 ⟨(by first | omega | (dsimp only; omega)), (by first | omega | (dsimp only; omega))⟩) (fun x23 M24 h => ?_)
            refine q_cast (pc := 79) C h rfl rfl (by decide +kernel) dX14_hiddenWorth_79 (fun h => ?_)
            refine q_gIN (pc := 82) C h (host := "LullabygateModel") (T := TX12) rfl (by decide) (by decide +kernel) 1520 (by decide +kernel) (fun _ h9 => h9) dX14_hiddenWorth_82 (fun x26 h => ?_)
            refine q_iadd (pc := 85) C dX14_hiddenWorth_85 ?_
            refine q_istore_n (pc := 86) C 2 [(2, .int (l2 + x26)), (4, .int x10), (0, va_rf l0), (1, va_rf l1), (3, .int l3)] dX14_hiddenWorth_86 rfl (by decide) (by first | rfl | simp [q_cat, q_catI, q_catJ, q_catR, q_catN]) ?_
            refine q_widen (k2 := 0) (n2 := 0) (by omega) (by omega) ?_
            refine q_lv [2, 3, 0, 4] rfl ?_
            exact tX14_hiddenWorth_87 C hr hlocks ih h
set_option maxRecDepth 100000 in
set_option maxHeartbeats 4000000 in
theorem tX14_hiddenWorth {p : Program} {l : Launch} {e : Env} {s : State} {m : MethodId} {args : Array Value} {below : List Frame} {meth : Method} {c : Code} {G : mG} {b0 : Nat} (C : m_C p s m args c cX14_hiddenWorth 5 RX14 wsX14_hiddenWorth G b0) (hr : meth.sig.returnType = (some .int)) (hlocks : meth.locks = false) {κ : Int32 → mM → Prop} {l0 : Option Nat} {l1 : Option Nat} {M : mM} (h : wX14_hiddenWorth κ l0 l1 M) : m_W p l e ({ frames := 4, cells := 0, slots := 0, locals := 86 } : Room) s m args below meth c G b0 (MQ below (va_Qi κ (m_B G b0) (fun q => b0 ≤ q)) args s 0 0 (fun q => b0 ≤ q)) 5 M 0 0 0 [(0, va_rf l0), (1, va_rf l1)] [] := by
  unfold wX14_hiddenWorth at h
  refine q_iconst (pc := 0) C 0 dX14_hiddenWorth_0 (by decide) ?_
  refine q_istore_n (pc := 1) C 2 [(2, .int 0), (0, va_rf l0), (1, va_rf l1)] dX14_hiddenWorth_1 rfl (by decide) (by first | rfl | simp [q_cat, q_catI, q_catJ, q_catR, q_catN]) ?_
  refine q_iconst (pc := 2) C 0 dX14_hiddenWorth_2 (by decide) ?_
  refine q_istore_n (pc := 3) C 3 [(3, .int 0), (2, .int 0), (0, va_rf l0), (1, va_rf l1)] dX14_hiddenWorth_3 rfl (by decide) (by first | rfl | simp [q_cat, q_catI, q_catJ, q_catR, q_catN]) ?_
  refine q_widen (k2 := 0) (n2 := 0) (by omega) (by omega) ?_
  refine q_lv [2, 3, 1, 0] rfl ?_
  obtain ⟨f9, h⟩ := h
  exact tX14_hiddenWorth_4 C hr hlocks f9 _ _ _ _ _ h
set_option maxRecDepth 100000 in
set_option maxHeartbeats 4000000 in
theorem kX14_hiddenWorth (l : Launch) (G : mG) (b0 : Nat) {b : Nat} {l1 : Option Nat} {M : mM} {κ : Int32 → mM → Prop} (h : wX14_hiddenWorth κ (some b) l1 M) : Met l yX14_hiddenWorth wsX14_hiddenWorth ({ frames := 4, cells := 0, slots := 0, locals := 86 } : Room) (va_Pc [.ref b, va_rf l1] (m_Pre G b0 M)) (va_Qi κ (m_B G b0) (fun q => b0 ≤ q)) 0 0 (fun q => b0 ≤ q) := by
  refine m_met (cc := cX14_hiddenWorth) (maxL := 5) (ret := (some .int)) (lv := [(0, va_rf (some b)), (1, va_rf l1)]) RX14 rfl (by decide +kernel) rfl (by first | exact Nat.le_of_ble_eq_true rfl | simp [lg_sl, q_cat, q_catI, q_catJ, q_catR, q_catN]) (by first | rfl | (simp [lv_args, q_cat, q_catI, q_catJ, q_catR, q_catN]; done) | (simp [lv_args, q_cat, q_catI, q_catJ, q_catR, q_catN]; rfl)) ?_
  intro p e s m args below meth c C hr hlocks hni
  exact tX14_hiddenWorth C hr hlocks h
/-! X14_ofGateNow -/
set_option maxRecDepth 100000 in
set_option maxHeartbeats 4000000 in
theorem tX14_ofGateNow_201 {p : Program} {l : Launch} {e : Env} {s : State} {m : MethodId} {args : Array Value} {below : List Frame} {meth : Method} {c : Code} {G : mG} {b0 : Nat} (C : m_C p s m args c cX14_ofGateNow 9 RX14 wsX14_ofGateNow G b0) (hr : meth.sig.returnType = (some .int)) (hlocks : meth.locks = false) {κ : Int32 → mM → Prop} {R175 : Int32 → Option Nat → Int32 → Int32 → mM → Prop} (hR175 : ∀ (l4 : Int32) (l5 : Option Nat) (l6 : Int32) (l7 : Int32) (M : mM), R175 l4 l5 l6 l7 M → m_W p l e ({ frames := 5, cells := 0, slots := 0, locals := 110 } : Room) s m args below meth c G b0 (MQ below (va_Qi κ (m_B G b0) (fun q => b0 ≤ q)) args s 0 0 (fun q => b0 ≤ q)) 9 M 0 0 175 [(4, .int l4), (5, va_rf l5), (6, .int l6), (7, .int l7)] []) {l5 : Option Nat} {l6 : Int32} {l7 : Int32} {s0 : Int32} {s1 : Int32} {M : mM} (h : wX14_ofGateNow_201 κ R175 l5 l6 l7 s0 s1 M) : m_W p l e ({ frames := 5, cells := 0, slots := 0, locals := 110 } : Room) s m args below meth c G b0 (MQ below (va_Qi κ (m_B G b0) (fun q => b0 ≤ q)) args s 0 0 (fun q => b0 ≤ q)) 9 M 0 0 201 [(5, va_rf l5), (6, .int l6), (7, .int l7)] [.int s0, .int s1] := by
  unfold wX14_ofGateNow_201 at h
  refine q_iadd (pc := 201) C dX14_ofGateNow_201 ?_
  refine q_istore (pc := 202) C 4 [(4, .int (s1 + s0)), (5, va_rf l5), (6, .int l6), (7, .int l7)] dX14_ofGateNow_202 (by decide) (by first | rfl | simp [q_cat, q_catI, q_catJ, q_catR, q_catN]) ?_
  refine q_iinc (pc := 204) C 7 3 (l7 + 1) [(7, .int (l7 + 1)), (4, .int (s1 + s0)), (5, va_rf l5), (6, .int l6)] dX14_ofGateNow_204 rfl (by rfl) (by decide) (by first | rfl | simp [q_cat, q_catI, q_catJ, q_catR, q_catN]) ?_
  refine q_goto (pc := 207) C 175 dX14_ofGateNow_207 (by decide) ?_
  refine q_widen (k2 := 0) (n2 := 0) (by omega) (by omega) ?_
  refine q_lv [1, 2, 3, 0] rfl ?_
  exact hR175 _ _ _ _ _ h
set_option maxRecDepth 100000 in
set_option maxHeartbeats 4000000 in
theorem tX14_ofGateNow_175 {p : Program} {l : Launch} {e : Env} {s : State} {m : MethodId} {args : Array Value} {below : List Frame} {meth : Method} {c : Code} {G : mG} {b0 : Nat} (C : m_C p s m args c cX14_ofGateNow 9 RX14 wsX14_ofGateNow G b0) (hr : meth.sig.returnType = (some .int)) (hlocks : meth.locks = false) {κ : Int32 → mM → Prop} : ∀ (f : Nat) (l4 : Int32) (l5 : Option Nat) (l6 : Int32) (l7 : Int32) (M : mM), wX14_ofGateNow_175 κ f l4 l5 l6 l7 M → m_W p l e ({ frames := 5, cells := 0, slots := 0, locals := 110 } : Room) s m args below meth c G b0 (MQ below (va_Qi κ (m_B G b0) (fun q => b0 ≤ q)) args s 0 0 (fun q => b0 ≤ q)) 9 M 0 0 175 [(4, .int l4), (5, va_rf l5), (6, .int l6), (7, .int l7)] [] := by
  intro f
  induction f with
  | zero =>
    intro l4 l5 l6 l7 M h
    exact absurd h (by simp [wX14_ofGateNow_175])
  | succ f ih =>
    intro l4 l5 l6 l7 M h
    rw [wX14_ofGateNow_175] at h
    refine q_iload (pc := 175) C 7 3 dX14_ofGateNow_175 rfl ?_
    refine q_iload (pc := 177) C 6 2 dX14_ofGateNow_177 rfl ?_
    refine q_icmp_ge (pc := 179) C 210 dX14_ofGateNow_179 (by decide) (fun c1 => ?_) (fun c1 => ?_)
    · have h := h.1 c1
      refine q_iload (pc := 210) C 4 0 dX14_ofGateNow_210 rfl ?_
      exact q_iret (pc := 212) C hr hlocks h dX14_ofGateNow_212 (by omega) (by omega)
    · have h := h.2 c1
      refine q_aload (pc := 182) C 5 1 dX14_ofGateNow_182 rfl ?_
      refine q_iload (pc := 184) C 7 3 dX14_ofGateNow_184 rfl ?_
      refine q_zald (pc := 186) C h dX14_ofGateNow_186 (fun x2 h => ?_)
      refine q_istore (pc := 187) C 8 [(8, .int x2), (4, .int l4), (5, va_rf l5), (6, .int l6), (7, .int l7)] dX14_ofGateNow_187 (by decide) (by first | rfl | simp [q_cat, q_catI, q_catJ, q_catR, q_catN]) ?_
      refine q_iload (pc := 189) C 4 1 dX14_ofGateNow_189 rfl ?_
      refine q_iload (pc := 191) C 8 0 dX14_ofGateNow_191 rfl ?_
      refine q_if_eq (pc := 193) C 200 dX14_ofGateNow_193 (by decide) (fun c3 => ?_) (fun c3 => ?_)
      · have h := h.1 c3
        refine q_iconst (pc := 200) C 0 dX14_ofGateNow_200 (by decide) ?_
        refine q_widen (k2 := 0) (n2 := 0) (by omega) (by omega) ?_
        refine q_lv [2, 3, 4] rfl ?_
        exact tX14_ofGateNow_201 C hr hlocks ih h
      · have h := h.2 c3
        refine q_iconst (pc := 196) C 1 dX14_ofGateNow_196 (by decide) ?_
        refine q_goto (pc := 197) C 201 dX14_ofGateNow_197 (by decide) ?_
        refine q_widen (k2 := 0) (n2 := 0) (by omega) (by omega) ?_
        refine q_lv [2, 3, 4] rfl ?_
        exact tX14_ofGateNow_201 C hr hlocks ih h
set_option maxRecDepth 100000 in
set_option maxHeartbeats 4000000 in
theorem tX14_ofGateNow {p : Program} {l : Launch} {e : Env} {s : State} {m : MethodId} {args : Array Value} {below : List Frame} {meth : Method} {c : Code} {G : mG} {b0 : Nat} (C : m_C p s m args c cX14_ofGateNow 9 RX14 wsX14_ofGateNow G b0) (hr : meth.sig.returnType = (some .int)) (hlocks : meth.locks = false) {κ : Int32 → mM → Prop} {l0 : Option Nat} {l1 : Int32} {l2 : Int32} {M : mM} (h : wX14_ofGateNow κ l0 l1 l2 M) : m_W p l e ({ frames := 5, cells := 0, slots := 0, locals := 110 } : Room) s m args below meth c G b0 (MQ below (va_Qi κ (m_B G b0) (fun q => b0 ≤ q)) args s 0 0 (fun q => b0 ≤ q)) 9 M 0 0 0 [(0, va_rf l0), (1, .int l1), (2, .int l2)] [] := by
  unfold wX14_ofGateNow at h
  refine q_aload_n (pc := 0) C 0 0 dX14_ofGateNow_0 rfl rfl ?_
  refine q_gR (pc := 1) C h (T := TX14) rfl (by decide) (wk_u rfl wm_X14_ofGateNow uq_X14 (by decide +kernel)) (by decide +kernel) (fun _ h9 => h9) dX14_ofGateNow_1 (fun x1 h => ?_)
  refine q_iload_n (pc := 4) C 1 1 dX14_ofGateNow_4 rfl rfl ?_
  obtain ⟨b4, fs9, hb4, hm9, h⟩ := h
  refine q_cq (pc := 5) (q_rV C (st := []) (b := b4) (kJx4a65c_get_915e3 l G b0 h) (cwV 1 C.2.2.2.2.1 gX14_ofGateNow_Jx4a65c_get_915e3 rfl rfl rfl (by decide +kernel) ⟨Nat.le_of_ble_eq_true rfl, Nat.le_of_ble_eq_true rfl⟩) hm9 rfl rfl rfl (by first | exact Nat.le_of_ble_eq_true rfl | (simp [q_cat, q_catI, q_catJ, q_catR, q_catN]; done)) (by rw [hb4]; first | done | rfl) dX14_ofGateNow_5 ⟨(by first | omega | (dsimp only; omega)), (by first | omega | (dsimp only; omega))⟩) (fun x2 M3 h => ?_)
  refine q_cast (pc := 8) C h rfl rfl (by decide +kernel) dX14_ofGateNow_8 (fun h => ?_)
  refine q_astore_n (pc := 11) C 3 [(3, va_rf x2), (0, va_rf l0), (1, .int l1), (2, .int l2)] dX14_ofGateNow_11 rfl (by decide) (by first | rfl | simp [q_cat, q_catI, q_catJ, q_catR, q_catN]) ?_
  refine q_iconst (pc := 12) C 0 dX14_ofGateNow_12 (by decide) ?_
  refine q_istore (pc := 13) C 4 [(4, .int 0), (3, va_rf x2), (0, va_rf l0), (1, .int l1), (2, .int l2)] dX14_ofGateNow_13 (by decide) (by first | rfl | simp [q_cat, q_catI, q_catJ, q_catR, q_catN]) ?_
  refine q_iload_n (pc := 15) C 2 4 dX14_ofGateNow_15 rfl rfl ?_
  by_cases c5 : l2 = 0
  · have h := h.1 c5
    refine q_tableIn (pc := 16) C 68 dX14_ofGateNow_16 (by rw [c5]; decide) (by rw [c5]; decide) (by rw [c5]; rfl) (by decide) ?_
    refine q_aload_n (pc := 68) C 3 1 dX14_ofGateNow_68 rfl rfl ?_
    refine q_gIN (pc := 69) C h (host := "LullabygateModel") (T := TX10) rfl (by decide) (by decide +kernel) 1418 (by decide +kernel) (fun _ h9 => h9) dX14_ofGateNow_69 (fun x6 h => ?_)
    exact q_iret (pc := 72) C hr hlocks h dX14_ofGateNow_72 (by omega) (by omega)
  have h := h.2 c5
  by_cases c7 : l2 = 1
  · have h := h.1 c7
    refine q_tableIn (pc := 16) C 73 dX14_ofGateNow_16 (by rw [c7]; decide) (by rw [c7]; decide) (by rw [c7]; rfl) (by decide) ?_
    refine q_aload_n (pc := 73) C 3 1 dX14_ofGateNow_73 rfl rfl ?_
    refine q_gIN (pc := 74) C h (host := "LullabygateModel") (T := TX10) rfl (by decide) (by decide +kernel) 1420 (by decide +kernel) (fun _ h9 => h9) dX14_ofGateNow_74 (fun x8 h => ?_)
    exact q_iret (pc := 77) C hr hlocks h dX14_ofGateNow_77 (by omega) (by omega)
  have h := h.2 c7
  by_cases c9 : l2 = 2
  · have h := h.1 c9
    refine q_tableIn (pc := 16) C 78 dX14_ofGateNow_16 (by rw [c9]; decide) (by rw [c9]; decide) (by rw [c9]; rfl) (by decide) ?_
    refine q_aload_n (pc := 78) C 3 1 dX14_ofGateNow_78 rfl rfl ?_
    refine q_aload_n (pc := 79) C 0 2 dX14_ofGateNow_79 rfl rfl ?_
    refine q_gI (pc := 80) C h (T := TX14) rfl (by decide) (wk_u rfl wm_X14_ofGateNow uq_X14 (by decide +kernel)) (by decide +kernel) (fun _ h9 => h9) dX14_ofGateNow_80 (fun x10 h => ?_)
    obtain ⟨b13, fs9, hb13, hm9, h⟩ := h
    refine q_ci (pc := 83) (q_rV C (st := []) (b := b13) (kX10_isOpen l G b0 h) (cwV 1 C.2.2.2.2.1 gX14_ofGateNow_X10_isOpen rfl rfl rfl (by decide +kernel) ⟨Nat.le_of_ble_eq_true rfl, Nat.le_of_ble_eq_true rfl⟩) hm9 rfl rfl rfl (by first | exact Nat.le_of_ble_eq_true rfl | (simp [q_cat, q_catI, q_catJ, q_catR, q_catN]; done)) (by rw [hb13]; first | done | rfl) dX14_ofGateNow_83 ⟨(by first | omega | (dsimp only; omega)), (by first | omega | (dsimp only; omega))⟩) (fun x11 M12 h => ?_)
    refine q_if_eq (pc := 86) C 93 dX14_ofGateNow_86 (by decide) (fun c14 => ?_) (fun c14 => ?_)
    · have h := h.1 c14
      refine q_iconst (pc := 93) C 0 dX14_ofGateNow_93 (by decide) ?_
      exact q_iret (pc := 94) C hr hlocks h dX14_ofGateNow_94 (by omega) (by omega)
    · have h := h.2 c14
      refine q_iconst (pc := 89) C 1 dX14_ofGateNow_89 (by decide) ?_
      refine q_goto (pc := 90) C 94 dX14_ofGateNow_90 (by decide) ?_
      exact q_iret (pc := 94) C hr hlocks h dX14_ofGateNow_94 (by omega) (by omega)
  have h := h.2 c9
  by_cases c15 : l2 = 3
  · have h := h.1 c15
    refine q_tableIn (pc := 16) C 95 dX14_ofGateNow_16 (by rw [c15]; decide) (by rw [c15]; decide) (by rw [c15]; rfl) (by decide) ?_
    refine q_aload_n (pc := 95) C 3 1 dX14_ofGateNow_95 rfl rfl ?_
    refine q_gIN (pc := 96) C h (host := "LullabygateModel") (T := TX10) rfl (by decide) (by decide +kernel) 1426 (by decide +kernel) (fun _ h9 => h9) dX14_ofGateNow_96 (fun x16 h => ?_)
    exact q_iret (pc := 99) C hr hlocks h dX14_ofGateNow_99 (by omega) (by omega)
  have h := h.2 c15
  by_cases c17 : l2 = 4
  · have h := h.1 c17
    refine q_tableIn (pc := 16) C 100 dX14_ofGateNow_16 (by rw [c17]; decide) (by rw [c17]; decide) (by rw [c17]; rfl) (by decide) ?_
    refine q_aload_n (pc := 100) C 3 1 dX14_ofGateNow_100 rfl rfl ?_
    refine q_gIN (pc := 101) C h (host := "LullabygateModel") (T := TX10) rfl (by decide) (by decide +kernel) 1428 (by decide +kernel) (fun _ h9 => h9) dX14_ofGateNow_101 (fun x18 h => ?_)
    exact q_iret (pc := 104) C hr hlocks h dX14_ofGateNow_104 (by omega) (by omega)
  have h := h.2 c17
  by_cases c19 : l2 = 5
  · have h := h.1 c19
    refine q_tableIn (pc := 16) C 105 dX14_ofGateNow_16 (by rw [c19]; decide) (by rw [c19]; decide) (by rw [c19]; rfl) (by decide) ?_
    refine q_aload_n (pc := 105) C 3 1 dX14_ofGateNow_105 rfl rfl ?_
    obtain ⟨b22, fs9, hb22, hm9, h⟩ := h
    refine q_ci (pc := 106) (q_rV C (st := []) (b := b22) (kX10_dozes l G b0 h) (cwV 0 C.2.2.2.2.1 gX14_ofGateNow_X10_dozes rfl rfl rfl (by decide +kernel) ⟨Nat.le_of_ble_eq_true rfl, Nat.le_of_ble_eq_true rfl⟩) hm9 rfl rfl rfl (by first | exact Nat.le_of_ble_eq_true rfl | (simp [q_cat, q_catI, q_catJ, q_catR, q_catN]; done)) (by rw [hb22]; first | done | rfl) dX14_ofGateNow_106 ⟨(by first | omega | (dsimp only; omega)), (by first | omega | (dsimp only; omega))⟩) (fun x20 M21 h => ?_)
    refine q_if_eq (pc := 109) C 116 dX14_ofGateNow_109 (by decide) (fun c23 => ?_) (fun c23 => ?_)
    · have h := h.1 c23
      refine q_iconst (pc := 116) C 0 dX14_ofGateNow_116 (by decide) ?_
      exact q_iret (pc := 117) C hr hlocks h dX14_ofGateNow_117 (by omega) (by omega)
    · have h := h.2 c23
      refine q_iconst (pc := 112) C 1 dX14_ofGateNow_112 (by decide) ?_
      refine q_goto (pc := 113) C 117 dX14_ofGateNow_113 (by decide) ?_
      exact q_iret (pc := 117) C hr hlocks h dX14_ofGateNow_117 (by omega) (by omega)
  have h := h.2 c19
  by_cases c24 : l2 = 6
  · have h := h.1 c24
    refine q_tableIn (pc := 16) C 118 dX14_ofGateNow_16 (by rw [c24]; decide) (by rw [c24]; decide) (by rw [c24]; rfl) (by decide) ?_
    refine q_aload_n (pc := 118) C 3 1 dX14_ofGateNow_118 rfl rfl ?_
    refine q_gRN (pc := 119) C h (host := "LullabygateModel") (T := TX10) rfl (by decide) (by decide +kernel) 1430 (by decide +kernel) (fun _ h9 => h9) dX14_ofGateNow_119 (fun x25 h => ?_)
    obtain ⟨b28, fs9, hb28, hm9, h⟩ := h
    refine q_ci (pc := 122) (q_rV C (st := []) (b := b28) (kJx4a65c_size_8abf5 l G b0 h) (cwV 0 C.2.2.2.2.1 gX14_ofGateNow_Jx4a65c_size_8abf5 rfl rfl rfl (by decide +kernel) ⟨Nat.le_of_ble_eq_true rfl, Nat.le_of_ble_eq_true rfl⟩) hm9 rfl rfl rfl (by first | exact Nat.le_of_ble_eq_true rfl | (simp [q_cat, q_catI, q_catJ, q_catR, q_catN]; done)) (by rw [hb28]; first | done | rfl) dX14_ofGateNow_122 ⟨(by first | omega | (dsimp only; omega)), (by first | omega | (dsimp only; omega))⟩) (fun x26 M27 h => ?_)
    exact q_iret (pc := 125) C hr hlocks h dX14_ofGateNow_125 (by omega) (by omega)
  have h := h.2 c24
  by_cases c29 : l2 = 7
  · have h := h.1 c29
    refine q_tableIn (pc := 16) C 126 dX14_ofGateNow_16 (by rw [c29]; decide) (by rw [c29]; decide) (by rw [c29]; rfl) (by decide) ?_
    refine q_aload_n (pc := 126) C 3 1 dX14_ofGateNow_126 rfl rfl ?_
    refine q_gRN (pc := 127) C h (host := "LullabygateModel") (T := TX10) rfl (by decide) (by decide +kernel) 1430 (by decide +kernel) (fun _ h9 => h9) dX14_ofGateNow_127 (fun x30 h => ?_)
    obtain ⟨b33, fs9, hb33, hm9, h⟩ := h
    refine q_ci (pc := 130) (q_rV C (st := []) (b := b33) (kJx4a65c_isEmpty_aae02 l G b0 h) (cwV 0 C.2.2.2.2.1 gX14_ofGateNow_Jx4a65c_isEmpty_aae02 rfl rfl rfl (by decide +kernel) ⟨Nat.le_of_ble_eq_true rfl, Nat.le_of_ble_eq_true rfl⟩) hm9 rfl rfl rfl (by first | exact Nat.le_of_ble_eq_true rfl | (simp [q_cat, q_catI, q_catJ, q_catR, q_catN]; done)) (by rw [hb33]; first | done | rfl) dX14_ofGateNow_130 ⟨(by first | omega | (dsimp only; omega)), (by first | omega | (dsimp only; omega))⟩) (fun x31 M32 h => ?_)
    refine q_if_eq (pc := 133) C 140 dX14_ofGateNow_133 (by decide) (fun c34 => ?_) (fun c34 => ?_)
    · have h := h.1 c34
      refine q_aload_n (pc := 140) C 3 1 dX14_ofGateNow_140 rfl rfl ?_
      refine q_gRN (pc := 141) C h (host := "LullabygateModel") (T := TX10) rfl (by decide) (by decide +kernel) 1430 (by decide +kernel) (fun _ h9 => h9) dX14_ofGateNow_141 (fun x35 h => ?_)
      refine q_iconst (pc := 144) C 0 dX14_ofGateNow_144 (by decide) ?_
      obtain ⟨b38, fs9, hb38, hm9, h⟩ := h
      refine q_cq (pc := 145) (q_rV C (st := []) (b := b38) (kJx4a65c_get_915e3 l G b0 h) (cwV 1 C.2.2.2.2.1 gX14_ofGateNow_Jx4a65c_get_915e3 rfl rfl rfl (by decide +kernel) ⟨Nat.le_of_ble_eq_true rfl, Nat.le_of_ble_eq_true rfl⟩) hm9 rfl rfl rfl (by first | exact Nat.le_of_ble_eq_true rfl | (simp [q_cat, q_catI, q_catJ, q_catR, q_catN]; done)) (by rw [hb38]; first | done | rfl) dX14_ofGateNow_145 ⟨(by first | omega | (dsimp only; omega)), (by first | omega | (dsimp only; omega))⟩) (fun x36 M37 h => ?_)
      refine q_cast (pc := 148) C h rfl rfl (by decide +kernel) dX14_ofGateNow_148 (fun h => ?_)
      obtain ⟨b41, fs9, hb41, hm9, h⟩ := h
      refine q_ci (pc := 151) (q_rV C (st := []) (b := b41) (kJ6_intValue_8abf5 l G b0 h) (cwV 0 C.2.2.2.2.1 gX14_ofGateNow_J6_intValue_8abf5 rfl rfl rfl (by decide +kernel) ⟨Nat.le_of_ble_eq_true rfl, Nat.le_of_ble_eq_true rfl⟩) hm9 rfl rfl rfl (by first | exact Nat.le_of_ble_eq_true rfl | (simp [q_cat, q_catI, q_catJ, q_catR, q_catN]; done)) (by rw [hb41]; first | done | rfl) dX14_ofGateNow_151 ⟨(by first | omega | (dsimp only; omega)), (by first | omega | (dsimp only; omega))⟩) (fun x39 M40 h => ?_)
      exact q_iret (pc := 154) C hr hlocks h dX14_ofGateNow_154 (by omega) (by omega)
    · have h := h.2 c34
      refine q_iconst (pc := 136) C (-1) dX14_ofGateNow_136 (by decide) ?_
      refine q_goto (pc := 137) C 154 dX14_ofGateNow_137 (by decide) ?_
      exact q_iret (pc := 154) C hr hlocks h dX14_ofGateNow_154 (by omega) (by omega)
  have h := h.2 c29
  by_cases c42 : l2 = 8
  · have h := h.1 c42
    refine q_tableIn (pc := 16) C 155 dX14_ofGateNow_16 (by rw [c42]; decide) (by rw [c42]; decide) (by rw [c42]; rfl) (by decide) ?_
    refine q_aload_n (pc := 155) C 0 2 dX14_ofGateNow_155 rfl rfl ?_
    refine q_aload_n (pc := 156) C 3 1 dX14_ofGateNow_156 rfl rfl ?_
    obtain ⟨b45, fs9, hb45, hm9, h⟩ := h
    refine q_ci (pc := 157) (q_rV C (st := []) (b := b45) (kX14_hiddenWorth l G b0 h) (cwV 1 C.2.2.2.2.1 gX14_ofGateNow_X14_hiddenWorth rfl rfl rfl (by decide +kernel) ⟨Nat.le_of_ble_eq_true rfl, Nat.le_of_ble_eq_true rfl⟩) hm9 rfl rfl rfl (by first | exact Nat.le_of_ble_eq_true rfl | (simp [q_cat, q_catI, q_catJ, q_catR, q_catN]; done)) (by rw [hb45]; first | done | rfl) dX14_ofGateNow_157 ⟨(by first | omega | (dsimp only; omega)), (by first | omega | (dsimp only; omega))⟩) (fun x43 M44 h => ?_)
    exact q_iret (pc := 160) C hr hlocks h dX14_ofGateNow_160 (by omega) (by omega)
  have h := h.2 c42
  refine q_tableOut (pc := 16) C 161 dX14_ofGateNow_16 ?_ (by decide) ?_
  · have hsw := m_sw (x := l2) 0 9 (fun j hj => by
      rcases (show j = 0 ∨ j = 1 ∨ j = 2 ∨ j = 3 ∨ j = 4 ∨ j = 5 ∨ j = 6 ∨ j = 7 ∨ j = 8 by omega) with rfl | rfl | rfl | rfl | rfl | rfl | rfl | rfl | rfl
      · exact c5
      · exact c7
      · exact c9
      · exact c15
      · exact c17
      · exact c19
      · exact c24
      · exact c29
      · exact c42
      ) (by decide)
    rcases hsw with q9 | q9
    · exact Or.inl (by simpa using q9)
    · exact Or.inr (by simp at q9 ⊢; omega)
  refine q_aload_n (pc := 161) C 3 1 dX14_ofGateNow_161 rfl rfl ?_
  refine q_gRN (pc := 162) C h (host := "LullabygateModel") (T := TX10) rfl (by decide) (by decide +kernel) 1432 (by decide +kernel) (fun _ h9 => h9) dX14_ofGateNow_162 (fun x46 h => ?_)
  refine q_astore (pc := 165) C 5 [(5, va_rf x46), (4, .int 0), (3, va_rf x2), (0, va_rf l0), (1, .int l1), (2, .int l2)] dX14_ofGateNow_165 (by decide) (by first | rfl | simp [q_cat, q_catI, q_catJ, q_catR, q_catN]) ?_
  refine q_aload (pc := 167) C 5 0 dX14_ofGateNow_167 rfl ?_
  refine q_len (pc := 169) C h dX14_ofGateNow_169 (fun x47 h => ?_)
  refine q_istore (pc := 170) C 6 [(6, .int x47), (5, va_rf x46), (4, .int 0), (3, va_rf x2), (0, va_rf l0), (1, .int l1), (2, .int l2)] dX14_ofGateNow_170 (by decide) (by first | rfl | simp [q_cat, q_catI, q_catJ, q_catR, q_catN]) ?_
  refine q_iconst (pc := 172) C 0 dX14_ofGateNow_172 (by decide) ?_
  refine q_istore (pc := 173) C 7 [(7, .int 0), (6, .int x47), (5, va_rf x46), (4, .int 0), (3, va_rf x2), (0, va_rf l0), (1, .int l1), (2, .int l2)] dX14_ofGateNow_173 (by decide) (by first | rfl | simp [q_cat, q_catI, q_catJ, q_catR, q_catN]) ?_
  refine q_widen (k2 := 0) (n2 := 0) (by omega) (by omega) ?_
  refine q_lv [3, 2, 1, 0] rfl ?_
  obtain ⟨f9, h⟩ := h
  exact tX14_ofGateNow_175 C hr hlocks f9 _ _ _ _ _ h
set_option maxRecDepth 100000 in
set_option maxHeartbeats 4000000 in
theorem kX14_ofGateNow (l : Launch) (G : mG) (b0 : Nat) {b : Nat} {l1 : Int32} {l2 : Int32} {M : mM} {κ : Int32 → mM → Prop} (h : wX14_ofGateNow κ (some b) l1 l2 M) : Met l yX14_ofGateNow wsX14_ofGateNow ({ frames := 5, cells := 0, slots := 0, locals := 110 } : Room) (va_Pc [.ref b, .int l1, .int l2] (m_Pre G b0 M)) (va_Qi κ (m_B G b0) (fun q => b0 ≤ q)) 0 0 (fun q => b0 ≤ q) := by
  refine m_met (cc := cX14_ofGateNow) (maxL := 9) (ret := (some .int)) (lv := [(0, va_rf (some b)), (1, .int l1), (2, .int l2)]) RX14 rfl (by decide +kernel) rfl (by first | exact Nat.le_of_ble_eq_true rfl | simp [lg_sl, q_cat, q_catI, q_catJ, q_catR, q_catN]) (by first | rfl | (simp [lv_args, q_cat, q_catI, q_catJ, q_catR, q_catN]; done) | (simp [lv_args, q_cat, q_catI, q_catJ, q_catR, q_catN]; rfl)) ?_
  intro p e s m args below meth c C hr hlocks hni
  exact tX14_ofGateNow C hr hlocks h
/-! X14_ofGate -/
set_option maxRecDepth 100000 in
set_option maxHeartbeats 4000000 in
theorem tX14_ofGate {p : Program} {l : Launch} {e : Env} {s : State} {m : MethodId} {args : Array Value} {below : List Frame} {meth : Method} {c : Code} {G : mG} {b0 : Nat} (C : m_C p s m args c cX14_ofGate 3 RX14 wsX14_ofGate G b0) (hr : meth.sig.returnType = (some .int)) (hlocks : meth.locks = false) {κ : Int32 → mM → Prop} {l0 : Option Nat} {l1 : Int32} {l2 : Int32} {M : mM} (h : wX14_ofGate κ l0 l1 l2 M) : m_W p l e ({ frames := 6, cells := 0, slots := 0, locals := 138 } : Room) s m args below meth c G b0 (MQ below (va_Qi κ (m_B G b0) (fun q => b0 ≤ q)) args s 0 0 (fun q => b0 ≤ q)) 3 M 0 0 0 [(0, va_rf l0), (1, .int l1), (2, .int l2)] [] := by
  unfold wX14_ofGate at h
  refine q_aload_n (pc := 0) C 0 0 dX14_ofGate_0 rfl rfl ?_
  refine q_iconst (pc := 1) C 0 dX14_ofGate_1 (by decide) ?_
  refine q_p (pc := 2) C h .int (T := TX14) tyX14 tyX14_ok nmX14 rfl (by decide +kernel) rfl rfl rfl (by decide) (wk_u rfl wm_X14_ofGate uq_X14 (by decide +kernel)) (by decide +kernel) (fun _ h9 => h9) rfl dX14_ofGate_2 (fun M1 h => ?_)
  refine q_aload_n (pc := 5) C 0 0 dX14_ofGate_5 rfl rfl ?_
  refine q_iload_n (pc := 6) C 1 1 dX14_ofGate_6 rfl rfl ?_
  obtain ⟨b4, fs9, hb4, hm9, h⟩ := h
  refine q_ci (pc := 7) (q_rV C (st := []) (b := b4) (kX14_isGate l G b0 h) (cwV 1 C.2.2.2.2.1 gX14_ofGate_X14_isGate rfl rfl rfl (by decide +kernel) ⟨Nat.le_of_ble_eq_true rfl, Nat.le_of_ble_eq_true rfl⟩) hm9 rfl rfl rfl (by first | exact Nat.le_of_ble_eq_true rfl | (simp [q_cat, q_catI, q_catJ, q_catR, q_catN]; done)) (by rw [hb4]; first | done | rfl) dX14_ofGate_7 ⟨(by first | omega | (dsimp only; omega)), (by first | omega | (dsimp only; omega))⟩) (fun x2 M3 h => ?_)
  refine q_if_ne (pc := 10) C 19 dX14_ofGate_10 (by decide) (fun c5 => ?_) (fun c5 => ?_)
  · have h := h.2 c5
    refine q_iload_n (pc := 19) C 2 2 dX14_ofGate_19 rfl rfl ?_
    refine q_iconst (pc := 20) C 0 dX14_ofGate_20 (by decide) ?_
    refine q_bipush (pc := 21) C 9 dX14_ofGate_21 (by decide) ?_
    refine q_ci (pc := 23) (q_rS C (st := []) (kX14_is l G b0 h) (va_cwS 3 C.2.2.2.2.1 gX14_ofGate_X14_is rfl rfl rfl (by decide +kernel) ⟨Nat.le_of_ble_eq_true rfl, Nat.le_of_ble_eq_true rfl⟩) rfl (by first | exact Nat.le_of_ble_eq_true rfl | (simp [q_cat, q_catI, q_catJ, q_catR, q_catN]; done)) rfl dX14_ofGate_23 ⟨(by first | omega | (dsimp only; omega)), (by first | omega | (dsimp only; omega))⟩) (fun x6 M7 h => ?_)
    refine q_if_eq (pc := 26) C 38 dX14_ofGate_26 (by decide) (fun c8 => ?_) (fun c8 => ?_)
    · have h := h.1 c8
      refine q_aload_n (pc := 38) C 0 0 dX14_ofGate_38 rfl rfl ?_
      refine q_iconst (pc := 39) C 2 dX14_ofGate_39 (by decide) ?_
      obtain ⟨b11, fs9, hb11, hm9, h⟩ := h
      refine q_ci (pc := 40) (q_rV C (st := []) (b := b11) (kX14_refuse l G b0 h) (cwV 1 C.2.2.2.2.1 gX14_ofGate_X14_refuse rfl rfl rfl (by decide +kernel) ⟨Nat.le_of_ble_eq_true rfl, Nat.le_of_ble_eq_true rfl⟩) hm9 rfl rfl rfl (by first | exact Nat.le_of_ble_eq_true rfl | (simp [q_cat, q_catI, q_catJ, q_catR, q_catN]; done)) (by rw [hb11]; first | done | rfl) dX14_ofGate_40 ⟨(by first | omega | (dsimp only; omega)), (by first | omega | (dsimp only; omega))⟩) (fun x9 M10 h => ?_)
      exact q_iret (pc := 43) C hr hlocks h dX14_ofGate_43 (by omega) (by omega)
    · have h := h.2 c8
      refine q_aload_n (pc := 29) C 0 0 dX14_ofGate_29 rfl rfl ?_
      refine q_iload_n (pc := 30) C 1 1 dX14_ofGate_30 rfl rfl ?_
      refine q_iload_n (pc := 31) C 2 2 dX14_ofGate_31 rfl rfl ?_
      obtain ⟨b14, fs9, hb14, hm9, h⟩ := h
      refine q_ci (pc := 32) (q_rV C (st := []) (b := b14) (kX14_ofGateNow l G b0 h) (cwV 2 C.2.2.2.2.1 gX14_ofGate_X14_ofGateNow rfl rfl rfl (by decide +kernel) ⟨Nat.le_of_ble_eq_true rfl, Nat.le_of_ble_eq_true rfl⟩) hm9 rfl rfl rfl (by first | exact Nat.le_of_ble_eq_true rfl | (simp [q_cat, q_catI, q_catJ, q_catR, q_catN]; done)) (by rw [hb14]; first | done | rfl) dX14_ofGate_32 ⟨(by first | omega | (dsimp only; omega)), (by first | omega | (dsimp only; omega))⟩) (fun x12 M13 h => ?_)
      refine q_goto (pc := 35) C 43 dX14_ofGate_35 (by decide) ?_
      exact q_iret (pc := 43) C hr hlocks h dX14_ofGate_43 (by omega) (by omega)
  · have h := h.1 c5
    refine q_aload_n (pc := 13) C 0 0 dX14_ofGate_13 rfl rfl ?_
    refine q_iconst (pc := 14) C 1 dX14_ofGate_14 (by decide) ?_
    obtain ⟨b17, fs9, hb17, hm9, h⟩ := h
    refine q_ci (pc := 15) (q_rV C (st := []) (b := b17) (kX14_refuse l G b0 h) (cwV 1 C.2.2.2.2.1 gX14_ofGate_X14_refuse rfl rfl rfl (by decide +kernel) ⟨Nat.le_of_ble_eq_true rfl, Nat.le_of_ble_eq_true rfl⟩) hm9 rfl rfl rfl (by first | exact Nat.le_of_ble_eq_true rfl | (simp [q_cat, q_catI, q_catJ, q_catR, q_catN]; done)) (by rw [hb17]; first | done | rfl) dX14_ofGate_15 ⟨(by first | omega | (dsimp only; omega)), (by first | omega | (dsimp only; omega))⟩) (fun x15 M16 h => ?_)
    exact q_iret (pc := 18) C hr hlocks h dX14_ofGate_18 (by omega) (by omega)
set_option maxRecDepth 100000 in
set_option maxHeartbeats 4000000 in
theorem kX14_ofGate (l : Launch) (G : mG) (b0 : Nat) {b : Nat} {l1 : Int32} {l2 : Int32} {M : mM} {κ : Int32 → mM → Prop} (h : wX14_ofGate κ (some b) l1 l2 M) : Met l yX14_ofGate wsX14_ofGate ({ frames := 6, cells := 0, slots := 0, locals := 138 } : Room) (va_Pc [.ref b, .int l1, .int l2] (m_Pre G b0 M)) (va_Qi κ (m_B G b0) (fun q => b0 ≤ q)) 0 0 (fun q => b0 ≤ q) := by
  refine m_met (cc := cX14_ofGate) (maxL := 3) (ret := (some .int)) (lv := [(0, va_rf (some b)), (1, .int l1), (2, .int l2)]) RX14 rfl (by decide +kernel) rfl (by first | exact Nat.le_of_ble_eq_true rfl | simp [lg_sl, q_cat, q_catI, q_catJ, q_catR, q_catN]) (by first | rfl | (simp [lv_args, q_cat, q_catI, q_catJ, q_catR, q_catN]; done) | (simp [lv_args, q_cat, q_catI, q_catJ, q_catR, q_catN]; rfl)) ?_
  intro p e s m args below meth c C hr hlocks hni
  exact tX14_ofGate C hr hlocks h
/-! X14_ring -/
set_option maxRecDepth 100000 in
set_option maxHeartbeats 4000000 in
theorem tX14_ring_199 {p : Program} {l : Launch} {e : Env} {s : State} {m : MethodId} {args : Array Value} {below : List Frame} {meth : Method} {c : Code} {G : mG} {b0 : Nat} (C : m_C p s m args c cX14_ring 9 RX14 wsX14_ring G b0) (hr : meth.sig.returnType = (some .int)) (hlocks : meth.locks = false) {κ : Int32 → mM → Prop} {R6 : Option Nat → Int32 → Int32 → mM → Prop} (hR6 : ∀ (l0 : Option Nat) (l2 : Int32) (l3 : Int32) (M : mM), R6 l0 l2 l3 M → m_W p l e ({ frames := 3, cells := 0, slots := 0, locals := 64 } : Room) s m args below meth c G b0 (MQ below (va_Qi κ (m_B G b0) (fun q => b0 ≤ q)) args s 0 0 (fun q => b0 ≤ q)) 9 M 0 0 6 [(0, va_rf l0), (2, .int l2), (3, .int l3)] []) {R15 : Option Nat → Int32 → Int32 → Int32 → mM → Prop} (hR15 : ∀ (l0 : Option Nat) (l2 : Int32) (l3 : Int32) (l4 : Int32) (M : mM), R15 l0 l2 l3 l4 M → m_W p l e ({ frames := 3, cells := 0, slots := 0, locals := 64 } : Room) s m args below meth c G b0 (MQ below (va_Qi κ (m_B G b0) (fun q => b0 ≤ q)) args s 0 0 (fun q => b0 ≤ q)) 9 M 0 0 15 [(0, va_rf l0), (2, .int l2), (3, .int l3), (4, .int l4)] []) {l0 : Option Nat} {l2 : Int32} {l3 : Int32} {l4 : Int32} {M : mM} (h : wX14_ring_199 κ R6 R15 l0 l2 l3 l4 M) : m_W p l e ({ frames := 3, cells := 0, slots := 0, locals := 64 } : Room) s m args below meth c G b0 (MQ below (va_Qi κ (m_B G b0) (fun q => b0 ≤ q)) args s 0 0 (fun q => b0 ≤ q)) 9 M 0 0 199 [(0, va_rf l0), (2, .int l2), (3, .int l3), (4, .int l4)] [] := by
  unfold wX14_ring_199 at h
  refine q_iinc (pc := 199) C 4 3 (l4 + 3) [(4, .int (l4 + 3)), (0, va_rf l0), (2, .int l2), (3, .int l3)] dX14_ring_199 rfl (by rfl) (by decide) (by first | rfl | simp [q_cat, q_catI, q_catJ, q_catR, q_catN]) ?_
  refine q_goto (pc := 202) C 15 dX14_ring_202 (by decide) ?_
  refine q_widen (k2 := 0) (n2 := 0) (by omega) (by omega) ?_
  refine q_lv [1, 2, 3, 0] rfl ?_
  exact hR15 _ _ _ _ _ h
set_option maxRecDepth 100000 in
set_option maxHeartbeats 4000000 in
theorem tX14_ring_193 {p : Program} {l : Launch} {e : Env} {s : State} {m : MethodId} {args : Array Value} {below : List Frame} {meth : Method} {c : Code} {G : mG} {b0 : Nat} (C : m_C p s m args c cX14_ring 9 RX14 wsX14_ring G b0) (hr : meth.sig.returnType = (some .int)) (hlocks : meth.locks = false) {κ : Int32 → mM → Prop} {R6 : Option Nat → Int32 → Int32 → mM → Prop} (hR6 : ∀ (l0 : Option Nat) (l2 : Int32) (l3 : Int32) (M : mM), R6 l0 l2 l3 M → m_W p l e ({ frames := 3, cells := 0, slots := 0, locals := 64 } : Room) s m args below meth c G b0 (MQ below (va_Qi κ (m_B G b0) (fun q => b0 ≤ q)) args s 0 0 (fun q => b0 ≤ q)) 9 M 0 0 6 [(0, va_rf l0), (2, .int l2), (3, .int l3)] []) {R15 : Option Nat → Int32 → Int32 → Int32 → mM → Prop} (hR15 : ∀ (l0 : Option Nat) (l2 : Int32) (l3 : Int32) (l4 : Int32) (M : mM), R15 l0 l2 l3 l4 M → m_W p l e ({ frames := 3, cells := 0, slots := 0, locals := 64 } : Room) s m args below meth c G b0 (MQ below (va_Qi κ (m_B G b0) (fun q => b0 ≤ q)) args s 0 0 (fun q => b0 ≤ q)) 9 M 0 0 15 [(0, va_rf l0), (2, .int l2), (3, .int l3), (4, .int l4)] []) {R55 : Option Nat → Int32 → Int32 → Int32 → Int32 → mM → Prop} (hR55 : ∀ (l0 : Option Nat) (l2 : Int32) (l3 : Int32) (l4 : Int32) (l5 : Int32) (M : mM), R55 l0 l2 l3 l4 l5 M → m_W p l e ({ frames := 3, cells := 0, slots := 0, locals := 64 } : Room) s m args below meth c G b0 (MQ below (va_Qi κ (m_B G b0) (fun q => b0 ≤ q)) args s 0 0 (fun q => b0 ≤ q)) 9 M 0 0 55 [(0, va_rf l0), (2, .int l2), (3, .int l3), (4, .int l4), (5, .int l5)] []) {l0 : Option Nat} {l2 : Int32} {l3 : Int32} {l4 : Int32} {l5 : Int32} {M : mM} (h : wX14_ring_193 κ R6 R15 R55 l0 l2 l3 l4 l5 M) : m_W p l e ({ frames := 3, cells := 0, slots := 0, locals := 64 } : Room) s m args below meth c G b0 (MQ below (va_Qi κ (m_B G b0) (fun q => b0 ≤ q)) args s 0 0 (fun q => b0 ≤ q)) 9 M 0 0 193 [(0, va_rf l0), (2, .int l2), (3, .int l3), (4, .int l4), (5, .int l5)] [] := by
  unfold wX14_ring_193 at h
  refine q_iinc (pc := 193) C 5 4 (l5 + 3) [(5, .int (l5 + 3)), (0, va_rf l0), (2, .int l2), (3, .int l3), (4, .int l4)] dX14_ring_193 rfl (by rfl) (by decide) (by first | rfl | simp [q_cat, q_catI, q_catJ, q_catR, q_catN]) ?_
  refine q_goto (pc := 196) C 55 dX14_ring_196 (by decide) ?_
  refine q_widen (k2 := 0) (n2 := 0) (by omega) (by omega) ?_
  refine q_lv [1, 2, 3, 4, 0] rfl ?_
  exact hR55 _ _ _ _ _ _ h
set_option maxRecDepth 100000 in
set_option maxHeartbeats 4000000 in
theorem tX14_ring_55 {p : Program} {l : Launch} {e : Env} {s : State} {m : MethodId} {args : Array Value} {below : List Frame} {meth : Method} {c : Code} {G : mG} {b0 : Nat} (C : m_C p s m args c cX14_ring 9 RX14 wsX14_ring G b0) (hr : meth.sig.returnType = (some .int)) (hlocks : meth.locks = false) {κ : Int32 → mM → Prop} {R6 : Option Nat → Int32 → Int32 → mM → Prop} (hR6 : ∀ (l0 : Option Nat) (l2 : Int32) (l3 : Int32) (M : mM), R6 l0 l2 l3 M → m_W p l e ({ frames := 3, cells := 0, slots := 0, locals := 64 } : Room) s m args below meth c G b0 (MQ below (va_Qi κ (m_B G b0) (fun q => b0 ≤ q)) args s 0 0 (fun q => b0 ≤ q)) 9 M 0 0 6 [(0, va_rf l0), (2, .int l2), (3, .int l3)] []) {R15 : Option Nat → Int32 → Int32 → Int32 → mM → Prop} (hR15 : ∀ (l0 : Option Nat) (l2 : Int32) (l3 : Int32) (l4 : Int32) (M : mM), R15 l0 l2 l3 l4 M → m_W p l e ({ frames := 3, cells := 0, slots := 0, locals := 64 } : Room) s m args below meth c G b0 (MQ below (va_Qi κ (m_B G b0) (fun q => b0 ≤ q)) args s 0 0 (fun q => b0 ≤ q)) 9 M 0 0 15 [(0, va_rf l0), (2, .int l2), (3, .int l3), (4, .int l4)] []) : ∀ (f : Nat) (l0 : Option Nat) (l2 : Int32) (l3 : Int32) (l4 : Int32) (l5 : Int32) (M : mM), wX14_ring_55 κ R6 R15 f l0 l2 l3 l4 l5 M → m_W p l e ({ frames := 3, cells := 0, slots := 0, locals := 64 } : Room) s m args below meth c G b0 (MQ below (va_Qi κ (m_B G b0) (fun q => b0 ≤ q)) args s 0 0 (fun q => b0 ≤ q)) 9 M 0 0 55 [(0, va_rf l0), (2, .int l2), (3, .int l3), (4, .int l4), (5, .int l5)] [] := by
  intro f
  induction f with
  | zero =>
    intro l0 l2 l3 l4 l5 M h
    exact absurd h (by simp [wX14_ring_55])
  | succ f ih =>
    intro l0 l2 l3 l4 l5 M h
    rw [wX14_ring_55] at h
    refine q_iload (pc := 55) C 5 4 dX14_ring_55 rfl ?_
    refine q_aload_n (pc := 57) C 0 0 dX14_ring_57 rfl rfl ?_
    refine q_gR (pc := 58) C h (T := TX14) rfl (by decide) (wk_u rfl wm_X14_ring uq_X14 (by decide +kernel)) (by decide +kernel) (fun _ h9 => h9) dX14_ring_58 (fun x1 h => ?_)
    obtain ⟨b4, fs9, hb4, hm9, h⟩ := h
    refine q_ci (pc := 61) (q_rV C (st := [.int l5]) (b := b4) (kJx4a65c_size_8abf5 l G b0 h) (cwV 0 C.2.2.2.2.1 gX14_ring_Jx4a65c_size_8abf5 rfl rfl rfl (by decide +kernel) ⟨Nat.le_of_ble_eq_true rfl, Nat.le_of_ble_eq_true rfl⟩) hm9 rfl rfl rfl (by first | exact Nat.le_of_ble_eq_true rfl | (simp [q_cat, q_catI, q_catJ, q_catR, q_catN]; done)) (by rw [hb4]; first | done | rfl) dX14_ring_61 ⟨(by first | omega | (dsimp only; omega)), (by first | omega | (dsimp only; omega))⟩) (fun x2 M3 h => ?_)
    refine q_icmp_ge (pc := 64) C 199 dX14_ring_64 (by decide) (fun c5 => ?_) (fun c5 => ?_)
    · have h := h.1 c5
      refine q_widen (k2 := 0) (n2 := 0) (by omega) (by omega) ?_
      refine q_lv [0, 1, 2, 3] rfl ?_
      exact tX14_ring_199 C hr hlocks hR6 hR15 h
    · have h := h.2 c5
      refine q_aload_n (pc := 67) C 0 0 dX14_ring_67 rfl rfl ?_
      refine q_gR (pc := 68) C h (T := TX14) rfl (by decide) (wk_u rfl wm_X14_ring uq_X14 (by decide +kernel)) (by decide +kernel) (fun _ h9 => h9) dX14_ring_68 (fun x6 h => ?_)
      refine q_iload (pc := 71) C 5 4 dX14_ring_71 rfl ?_
      obtain ⟨b9, fs9, hb9, hm9, h⟩ := h
      refine q_cq (pc := 73) (q_rV C (st := []) (b := b9) (kJx4a65c_get_915e3 l G b0 h) (cwV 1 C.2.2.2.2.1 gX14_ring_Jx4a65c_get_915e3 rfl rfl rfl (by decide +kernel) ⟨Nat.le_of_ble_eq_true rfl, Nat.le_of_ble_eq_true rfl⟩) hm9 rfl rfl rfl (by first | exact Nat.le_of_ble_eq_true rfl | (simp [q_cat, q_catI, q_catJ, q_catR, q_catN]; done)) (by rw [hb9]; first | done | rfl) dX14_ring_73 ⟨(by first | omega | (dsimp only; omega)), (by first | omega | (dsimp only; omega))⟩) (fun x7 M8 h => ?_)
      refine q_cast (pc := 76) C h rfl rfl (by decide +kernel) dX14_ring_76 (fun h => ?_)
      obtain ⟨b12, fs9, hb12, hm9, h⟩ := h
      refine q_ci (pc := 79) (q_rV C (st := []) (b := b12) (kJ6_intValue_8abf5 l G b0 h) (cwV 0 C.2.2.2.2.1 gX14_ring_J6_intValue_8abf5 rfl rfl rfl (by decide +kernel) ⟨Nat.le_of_ble_eq_true rfl, Nat.le_of_ble_eq_true rfl⟩) hm9 rfl rfl rfl (by first | exact Nat.le_of_ble_eq_true rfl | (simp [q_cat, q_catI, q_catJ, q_catR, q_catN]; done)) (by rw [hb12]; first | done | rfl) dX14_ring_79 ⟨(by first | omega | (dsimp only; omega)), (by first | omega | (dsimp only; omega))⟩) (fun x10 M11 h => ?_)
      refine q_istore (pc := 82) C 6 [(6, .int x10), (0, va_rf l0), (2, .int l2), (3, .int l3), (4, .int l4), (5, .int l5)] dX14_ring_82 (by decide) (by first | rfl | simp [q_cat, q_catI, q_catJ, q_catR, q_catN]) ?_
      refine q_aload_n (pc := 84) C 0 1 dX14_ring_84 rfl rfl ?_
      refine q_gR (pc := 85) C h (T := TX14) rfl (by decide) (wk_u rfl wm_X14_ring uq_X14 (by decide +kernel)) (by decide +kernel) (fun _ h9 => h9) dX14_ring_85 (fun x13 h => ?_)
      refine q_iload (pc := 88) C 4 4 dX14_ring_88 rfl ?_
      refine q_iconst (pc := 90) C 1 dX14_ring_90 (by decide) ?_
      refine q_iadd (pc := 91) C dX14_ring_91 ?_
      obtain ⟨b16, fs9, hb16, hm9, h⟩ := h
      refine q_cq (pc := 92) (q_rV C (st := []) (b := b16) (kJx4a65c_get_915e3 l G b0 h) (cwV 1 C.2.2.2.2.1 gX14_ring_Jx4a65c_get_915e3 rfl rfl rfl (by decide +kernel) ⟨Nat.le_of_ble_eq_true rfl, Nat.le_of_ble_eq_true rfl⟩) hm9 rfl rfl rfl (by first | exact Nat.le_of_ble_eq_true rfl | (simp [q_cat, q_catI, q_catJ, q_catR, q_catN]; done)) (by rw [hb16]; first | done | rfl) dX14_ring_92 ⟨(by first | omega | (dsimp only; omega)), (by first | omega | (dsimp only; omega))⟩) (fun x14 M15 h => ?_)
      refine q_cast (pc := 95) C h rfl rfl (by decide +kernel) dX14_ring_95 (fun h => ?_)
      obtain ⟨b19, fs9, hb19, hm9, h⟩ := h
      refine q_ci (pc := 98) (q_rV C (st := []) (b := b19) (kJ6_intValue_8abf5 l G b0 h) (cwV 0 C.2.2.2.2.1 gX14_ring_J6_intValue_8abf5 rfl rfl rfl (by decide +kernel) ⟨Nat.le_of_ble_eq_true rfl, Nat.le_of_ble_eq_true rfl⟩) hm9 rfl rfl rfl (by first | exact Nat.le_of_ble_eq_true rfl | (simp [q_cat, q_catI, q_catJ, q_catR, q_catN]; done)) (by rw [hb19]; first | done | rfl) dX14_ring_98 ⟨(by first | omega | (dsimp only; omega)), (by first | omega | (dsimp only; omega))⟩) (fun x17 M18 h => ?_)
      refine q_istore (pc := 101) C 7 [(7, .int x17), (6, .int x10), (0, va_rf l0), (2, .int l2), (3, .int l3), (4, .int l4), (5, .int l5)] dX14_ring_101 (by decide) (by first | rfl | simp [q_cat, q_catI, q_catJ, q_catR, q_catN]) ?_
      refine q_aload_n (pc := 103) C 0 2 dX14_ring_103 rfl rfl ?_
      refine q_gR (pc := 104) C h (T := TX14) rfl (by decide) (wk_u rfl wm_X14_ring uq_X14 (by decide +kernel)) (by decide +kernel) (fun _ h9 => h9) dX14_ring_104 (fun x20 h => ?_)
      refine q_iload (pc := 107) C 4 5 dX14_ring_107 rfl ?_
      refine q_iconst (pc := 109) C 2 dX14_ring_109 (by decide) ?_
      refine q_iadd (pc := 110) C dX14_ring_110 ?_
      obtain ⟨b23, fs9, hb23, hm9, h⟩ := h
      refine q_cq (pc := 111) (q_rV C (st := []) (b := b23) (kJx4a65c_get_915e3 l G b0 h) (cwV 1 C.2.2.2.2.1 gX14_ring_Jx4a65c_get_915e3 rfl rfl rfl (by decide +kernel) ⟨Nat.le_of_ble_eq_true rfl, Nat.le_of_ble_eq_true rfl⟩) hm9 rfl rfl rfl (by first | exact Nat.le_of_ble_eq_true rfl | (simp [q_cat, q_catI, q_catJ, q_catR, q_catN]; done)) (by rw [hb23]; first | done | rfl) dX14_ring_111 ⟨(by first | omega | (dsimp only; omega)), (by first | omega | (dsimp only; omega))⟩) (fun x21 M22 h => ?_)
      refine q_cast (pc := 114) C h rfl rfl (by decide +kernel) dX14_ring_114 (fun h => ?_)
      obtain ⟨b26, fs9, hb26, hm9, h⟩ := h
      refine q_ci (pc := 117) (q_rV C (st := []) (b := b26) (kJ6_intValue_8abf5 l G b0 h) (cwV 0 C.2.2.2.2.1 gX14_ring_J6_intValue_8abf5 rfl rfl rfl (by decide +kernel) ⟨Nat.le_of_ble_eq_true rfl, Nat.le_of_ble_eq_true rfl⟩) hm9 rfl rfl rfl (by first | exact Nat.le_of_ble_eq_true rfl | (simp [q_cat, q_catI, q_catJ, q_catR, q_catN]; done)) (by rw [hb26]; first | done | rfl) dX14_ring_117 ⟨(by first | omega | (dsimp only; omega)), (by first | omega | (dsimp only; omega))⟩) (fun x24 M25 h => ?_)
      refine q_aload_n (pc := 120) C 0 2 dX14_ring_120 rfl rfl ?_
      refine q_gR (pc := 121) C h (T := TX14) rfl (by decide) (wk_u rfl wm_X14_ring uq_X14 (by decide +kernel)) (by decide +kernel) (fun _ h9 => h9) dX14_ring_121 (fun x27 h => ?_)
      refine q_iload (pc := 124) C 5 6 dX14_ring_124 rfl ?_
      refine q_iconst (pc := 126) C 2 dX14_ring_126 (by decide) ?_
      refine q_iadd (pc := 127) C dX14_ring_127 ?_
      obtain ⟨b30, fs9, hb30, hm9, h⟩ := h
      refine q_cq (pc := 128) (q_rV C (st := [.int x24]) (b := b30) (kJx4a65c_get_915e3 l G b0 h) (cwV 1 C.2.2.2.2.1 gX14_ring_Jx4a65c_get_915e3 rfl rfl rfl (by decide +kernel) ⟨Nat.le_of_ble_eq_true rfl, Nat.le_of_ble_eq_true rfl⟩) hm9 rfl rfl rfl (by first | exact Nat.le_of_ble_eq_true rfl | (simp [q_cat, q_catI, q_catJ, q_catR, q_catN]; done)) (by rw [hb30]; first | done | rfl) dX14_ring_128 ⟨(by first | omega | (dsimp only; omega)), (by first | omega | (dsimp only; omega))⟩) (fun x28 M29 h => ?_)
      refine q_cast (pc := 131) C h rfl rfl (by decide +kernel) dX14_ring_131 (fun h => ?_)
      obtain ⟨b33, fs9, hb33, hm9, h⟩ := h
      refine q_ci (pc := 134) (q_rV C (st := [.int x24]) (b := b33) (kJ6_intValue_8abf5 l G b0 h) (cwV 0 C.2.2.2.2.1 gX14_ring_J6_intValue_8abf5 rfl rfl rfl (by decide +kernel) ⟨Nat.le_of_ble_eq_true rfl, Nat.le_of_ble_eq_true rfl⟩) hm9 rfl rfl rfl (by first | exact Nat.le_of_ble_eq_true rfl | (simp [q_cat, q_catI, q_catJ, q_catR, q_catN]; done)) (by rw [hb33]; first | done | rfl) dX14_ring_134 ⟨(by first | omega | (dsimp only; omega)), (by first | omega | (dsimp only; omega))⟩) (fun x31 M32 h => ?_)
      refine q_isub (pc := 137) C dX14_ring_137 ?_
      refine q_mabs (pc := 138) C (by decide +kernel) (by decide +kernel) (by decide +kernel) (by decide +kernel) (Nat.le_of_ble_eq_true rfl) (by first | exact Nat.le_of_ble_eq_true rfl | (simp [q_cat, q_catI, q_catJ, q_catR, q_catN]; done) | (simp [q_cat, q_catI, q_catJ, q_catR, q_catN]; decide)) (by first | omega | (dsimp only; omega)) (by first | omega | (dsimp only; omega)) dX14_ring_138 ?_
      refine m_stk (st2 := .int (m_abs (x24 - x31)) :: _) rfl ?_
      refine q_istore (pc := 141) C 8 [(8, .int (m_abs (x24 - x31))), (7, .int x17), (6, .int x10), (0, va_rf l0), (2, .int l2), (3, .int l3), (4, .int l4), (5, .int l5)] dX14_ring_141 (by decide) (by first | rfl | simp [q_cat, q_catI, q_catJ, q_catR, q_catN]) ?_
      refine q_iload_n (pc := 143) C 2 4 dX14_ring_143 rfl rfl ?_
      refine q_iload (pc := 144) C 6 2 dX14_ring_144 rfl ?_
      refine q_ishr (pc := 146) C dX14_ring_146 ?_
      refine m_stk (st2 := .int (m_shr l2 x10) :: _) rfl ?_
      refine q_iconst (pc := 147) C 1 dX14_ring_147 (by decide) ?_
      refine q_iand (pc := 148) C dX14_ring_148 ?_
      refine q_iconst (pc := 149) C 1 dX14_ring_149 (by decide) ?_
      refine q_icmp_eq (pc := 150) C 193 dX14_ring_150 (by decide) (fun c34 => ?_) (fun c34 => ?_)
      · have h := h.1 c34
        refine q_widen (k2 := 0) (n2 := 0) (by omega) (by omega) ?_
        refine q_lv [3, 4, 5, 6, 7] rfl ?_
        exact tX14_ring_193 C hr hlocks hR6 hR15 ih h
      · have h := h.2 c34
        refine q_aload_n (pc := 153) C 0 3 dX14_ring_153 rfl rfl ?_
        refine q_gR (pc := 154) C h (T := TX14) rfl (by decide) (wk_u rfl wm_X14_ring uq_X14 (by decide +kernel)) (by decide +kernel) (fun _ h9 => h9) dX14_ring_154 (fun x35 h => ?_)
        refine q_iload (pc := 157) C 5 7 dX14_ring_157 rfl ?_
        refine q_iconst (pc := 159) C 1 dX14_ring_159 (by decide) ?_
        refine q_iadd (pc := 160) C dX14_ring_160 ?_
        obtain ⟨b38, fs9, hb38, hm9, h⟩ := h
        refine q_cq (pc := 161) (q_rV C (st := []) (b := b38) (kJx4a65c_get_915e3 l G b0 h) (cwV 1 C.2.2.2.2.1 gX14_ring_Jx4a65c_get_915e3 rfl rfl rfl (by decide +kernel) ⟨Nat.le_of_ble_eq_true rfl, Nat.le_of_ble_eq_true rfl⟩) hm9 rfl rfl rfl (by first | exact Nat.le_of_ble_eq_true rfl | (simp [q_cat, q_catI, q_catJ, q_catR, q_catN]; done)) (by rw [hb38]; first | done | rfl) dX14_ring_161 ⟨(by first | omega | (dsimp only; omega)), (by first | omega | (dsimp only; omega))⟩) (fun x36 M37 h => ?_)
        refine q_cast (pc := 164) C h rfl rfl (by decide +kernel) dX14_ring_164 (fun h => ?_)
        obtain ⟨b41, fs9, hb41, hm9, h⟩ := h
        refine q_ci (pc := 167) (q_rV C (st := []) (b := b41) (kJ6_intValue_8abf5 l G b0 h) (cwV 0 C.2.2.2.2.1 gX14_ring_J6_intValue_8abf5 rfl rfl rfl (by decide +kernel) ⟨Nat.le_of_ble_eq_true rfl, Nat.le_of_ble_eq_true rfl⟩) hm9 rfl rfl rfl (by first | exact Nat.le_of_ble_eq_true rfl | (simp [q_cat, q_catI, q_catJ, q_catR, q_catN]; done)) (by rw [hb41]; first | done | rfl) dX14_ring_167 ⟨(by first | omega | (dsimp only; omega)), (by first | omega | (dsimp only; omega))⟩) (fun x39 M40 h => ?_)
        refine q_iload (pc := 170) C 7 1 dX14_ring_170 rfl ?_
        refine q_icmp_ne (pc := 172) C 193 dX14_ring_172 (by decide) (fun c42 => ?_) (fun c42 => ?_)
        · have h := h.2 c42
          refine q_widen (k2 := 0) (n2 := 0) (by omega) (by omega) ?_
          refine q_lv [3, 4, 5, 6, 7] rfl ?_
          exact tX14_ring_193 C hr hlocks hR6 hR15 ih h
        · have h := h.1 c42
          refine q_iload (pc := 175) C 8 0 dX14_ring_175 rfl ?_
          refine q_iconst (pc := 177) C 2 dX14_ring_177 (by decide) ?_
          refine q_icmp_le (pc := 178) C 184 dX14_ring_178 (by decide) (fun c43 => ?_) (fun c43 => ?_)
          · have h := h.1 c43
            refine q_iload_n (pc := 184) C 2 4 dX14_ring_184 rfl rfl ?_
            refine q_iconst (pc := 185) C 1 dX14_ring_185 (by decide) ?_
            refine q_iload (pc := 186) C 6 2 dX14_ring_186 rfl ?_
            refine q_ishl (pc := 188) C dX14_ring_188 ?_
            refine m_stk (st2 := .int (m_shl 1 x10) :: _) rfl ?_
            refine q_ior (pc := 189) C dX14_ring_189 ?_
            refine q_istore_n (pc := 190) C 2 [(2, .int (l2 ||| (m_shl 1 x10))), (8, .int (m_abs (x24 - x31))), (7, .int x17), (6, .int x10), (0, va_rf l0), (3, .int l3), (4, .int l4), (5, .int l5)] dX14_ring_190 rfl (by decide) (by first | rfl | simp [q_cat, q_catI, q_catJ, q_catR, q_catN]) ?_
            refine q_iconst (pc := 191) C 1 dX14_ring_191 (by decide) ?_
            refine q_istore_n (pc := 192) C 3 [(3, .int 1), (2, .int (l2 ||| (m_shl 1 x10))), (8, .int (m_abs (x24 - x31))), (7, .int x17), (6, .int x10), (0, va_rf l0), (4, .int l4), (5, .int l5)] dX14_ring_192 rfl (by decide) (by first | rfl | simp [q_cat, q_catI, q_catJ, q_catR, q_catN]) ?_
            refine q_widen (k2 := 0) (n2 := 0) (by omega) (by omega) ?_
            refine q_lv [5, 1, 0, 6, 7] rfl ?_
            exact tX14_ring_193 C hr hlocks hR6 hR15 ih h
          · have h := h.2 c43
            refine q_goto (pc := 181) C 193 dX14_ring_181 (by decide) ?_
            refine q_widen (k2 := 0) (n2 := 0) (by omega) (by omega) ?_
            refine q_lv [3, 4, 5, 6, 7] rfl ?_
            exact tX14_ring_193 C hr hlocks hR6 hR15 ih h
set_option maxRecDepth 100000 in
set_option maxHeartbeats 4000000 in
theorem tX14_ring_15 {p : Program} {l : Launch} {e : Env} {s : State} {m : MethodId} {args : Array Value} {below : List Frame} {meth : Method} {c : Code} {G : mG} {b0 : Nat} (C : m_C p s m args c cX14_ring 9 RX14 wsX14_ring G b0) (hr : meth.sig.returnType = (some .int)) (hlocks : meth.locks = false) {κ : Int32 → mM → Prop} {R6 : Option Nat → Int32 → Int32 → mM → Prop} (hR6 : ∀ (l0 : Option Nat) (l2 : Int32) (l3 : Int32) (M : mM), R6 l0 l2 l3 M → m_W p l e ({ frames := 3, cells := 0, slots := 0, locals := 64 } : Room) s m args below meth c G b0 (MQ below (va_Qi κ (m_B G b0) (fun q => b0 ≤ q)) args s 0 0 (fun q => b0 ≤ q)) 9 M 0 0 6 [(0, va_rf l0), (2, .int l2), (3, .int l3)] []) : ∀ (f : Nat) (l0 : Option Nat) (l2 : Int32) (l3 : Int32) (l4 : Int32) (M : mM), wX14_ring_15 κ R6 f l0 l2 l3 l4 M → m_W p l e ({ frames := 3, cells := 0, slots := 0, locals := 64 } : Room) s m args below meth c G b0 (MQ below (va_Qi κ (m_B G b0) (fun q => b0 ≤ q)) args s 0 0 (fun q => b0 ≤ q)) 9 M 0 0 15 [(0, va_rf l0), (2, .int l2), (3, .int l3), (4, .int l4)] [] := by
  intro f
  induction f with
  | zero =>
    intro l0 l2 l3 l4 M h
    exact absurd h (by simp [wX14_ring_15])
  | succ f ih =>
    intro l0 l2 l3 l4 M h
    rw [wX14_ring_15] at h
    refine q_iload (pc := 15) C 4 3 dX14_ring_15 rfl ?_
    refine q_aload_n (pc := 17) C 0 0 dX14_ring_17 rfl rfl ?_
    refine q_gR (pc := 18) C h (T := TX14) rfl (by decide) (wk_u rfl wm_X14_ring uq_X14 (by decide +kernel)) (by decide +kernel) (fun _ h9 => h9) dX14_ring_18 (fun x1 h => ?_)
    obtain ⟨b4, fs9, hb4, hm9, h⟩ := h
    refine q_ci (pc := 21) (q_rV C (st := [.int l4]) (b := b4) (kJx4a65c_size_8abf5 l G b0 h) (cwV 0 C.2.2.2.2.1 gX14_ring_Jx4a65c_size_8abf5 rfl rfl rfl (by decide +kernel) ⟨Nat.le_of_ble_eq_true rfl, Nat.le_of_ble_eq_true rfl⟩) hm9 rfl rfl rfl (by first | exact Nat.le_of_ble_eq_true rfl | (simp [q_cat, q_catI, q_catJ, q_catR, q_catN]; done)) (by rw [hb4]; first | done | rfl) dX14_ring_21 ⟨(by first | omega | (dsimp only; omega)), (by first | omega | (dsimp only; omega))⟩) (fun x2 M3 h => ?_)
    refine q_icmp_ge (pc := 24) C 205 dX14_ring_24 (by decide) (fun c5 => ?_) (fun c5 => ?_)
    · have h := h.1 c5
      refine q_goto (pc := 205) C 6 dX14_ring_205 (by decide) ?_
      refine q_widen (k2 := 0) (n2 := 0) (by omega) (by omega) ?_
      refine q_lv [0, 1, 2] rfl ?_
      exact hR6 _ _ _ _ h
    · have h := h.2 c5
      refine q_iload_n (pc := 27) C 2 1 dX14_ring_27 rfl rfl ?_
      refine q_aload_n (pc := 28) C 0 0 dX14_ring_28 rfl rfl ?_
      refine q_gR (pc := 29) C h (T := TX14) rfl (by decide) (wk_u rfl wm_X14_ring uq_X14 (by decide +kernel)) (by decide +kernel) (fun _ h9 => h9) dX14_ring_29 (fun x6 h => ?_)
      refine q_iload (pc := 32) C 4 3 dX14_ring_32 rfl ?_
      obtain ⟨b9, fs9, hb9, hm9, h⟩ := h
      refine q_cq (pc := 34) (q_rV C (st := [.int l2]) (b := b9) (kJx4a65c_get_915e3 l G b0 h) (cwV 1 C.2.2.2.2.1 gX14_ring_Jx4a65c_get_915e3 rfl rfl rfl (by decide +kernel) ⟨Nat.le_of_ble_eq_true rfl, Nat.le_of_ble_eq_true rfl⟩) hm9 rfl rfl rfl (by first | exact Nat.le_of_ble_eq_true rfl | (simp [q_cat, q_catI, q_catJ, q_catR, q_catN]; done)) (by rw [hb9]; first | done | rfl) dX14_ring_34 ⟨(by first | omega | (dsimp only; omega)), (by first | omega | (dsimp only; omega))⟩) (fun x7 M8 h => ?_)
      refine q_cast (pc := 37) C h rfl rfl (by decide +kernel) dX14_ring_37 (fun h => ?_)
      obtain ⟨b12, fs9, hb12, hm9, h⟩ := h
      refine q_ci (pc := 40) (q_rV C (st := [.int l2]) (b := b12) (kJ6_intValue_8abf5 l G b0 h) (cwV 0 C.2.2.2.2.1 gX14_ring_J6_intValue_8abf5 rfl rfl rfl (by decide +kernel) ⟨Nat.le_of_ble_eq_true rfl, Nat.le_of_ble_eq_true rfl⟩) hm9 rfl rfl rfl (by first | exact Nat.le_of_ble_eq_true rfl | (simp [q_cat, q_catI, q_catJ, q_catR, q_catN]; done)) (by rw [hb12]; first | done | rfl) dX14_ring_40 ⟨(by first | omega | (dsimp only; omega)), (by first | omega | (dsimp only; omega))⟩) (fun x10 M11 h => ?_)
      refine q_ishr (pc := 43) C dX14_ring_43 ?_
      refine m_stk (st2 := .int (m_shr l2 x10) :: _) rfl ?_
      refine q_iconst (pc := 44) C 1 dX14_ring_44 (by decide) ?_
      refine q_iand (pc := 45) C dX14_ring_45 ?_
      refine q_if_ne (pc := 46) C 52 dX14_ring_46 (by decide) (fun c13 => ?_) (fun c13 => ?_)
      · have h := h.2 c13
        refine q_iconst (pc := 52) C 0 dX14_ring_52 (by decide) ?_
        refine q_istore (pc := 53) C 5 [(5, .int 0), (0, va_rf l0), (2, .int l2), (3, .int l3), (4, .int l4)] dX14_ring_53 (by decide) (by first | rfl | simp [q_cat, q_catI, q_catJ, q_catR, q_catN]) ?_
        refine q_widen (k2 := 0) (n2 := 0) (by omega) (by omega) ?_
        refine q_lv [1, 2, 3, 4, 0] rfl ?_
        obtain ⟨f9, h⟩ := h
        exact tX14_ring_55 C hr hlocks hR6 ih f9 _ _ _ _ _ _ h
      · have h := h.1 c13
        refine q_goto (pc := 49) C 199 dX14_ring_49 (by decide) ?_
        refine q_widen (k2 := 0) (n2 := 0) (by omega) (by omega) ?_
        refine q_lv [0, 1, 2, 3] rfl ?_
        exact tX14_ring_199 C hr hlocks hR6 ih h
set_option maxRecDepth 100000 in
set_option maxHeartbeats 4000000 in
theorem tX14_ring_6 {p : Program} {l : Launch} {e : Env} {s : State} {m : MethodId} {args : Array Value} {below : List Frame} {meth : Method} {c : Code} {G : mG} {b0 : Nat} (C : m_C p s m args c cX14_ring 9 RX14 wsX14_ring G b0) (hr : meth.sig.returnType = (some .int)) (hlocks : meth.locks = false) {κ : Int32 → mM → Prop} : ∀ (f : Nat) (l0 : Option Nat) (l2 : Int32) (l3 : Int32) (M : mM), wX14_ring_6 κ f l0 l2 l3 M → m_W p l e ({ frames := 3, cells := 0, slots := 0, locals := 64 } : Room) s m args below meth c G b0 (MQ below (va_Qi κ (m_B G b0) (fun q => b0 ≤ q)) args s 0 0 (fun q => b0 ≤ q)) 9 M 0 0 6 [(0, va_rf l0), (2, .int l2), (3, .int l3)] [] := by
  intro f
  induction f with
  | zero =>
    intro l0 l2 l3 M h
    exact absurd h (by simp [wX14_ring_6])
  | succ f ih =>
    intro l0 l2 l3 M h
    rw [wX14_ring_6] at h
    refine q_iload_n (pc := 6) C 3 2 dX14_ring_6 rfl rfl ?_
    refine q_if_eq (pc := 7) C 208 dX14_ring_7 (by decide) (fun c1 => ?_) (fun c1 => ?_)
    · have h := h.1 c1
      refine q_iload_n (pc := 208) C 2 1 dX14_ring_208 rfl rfl ?_
      exact q_iret (pc := 209) C hr hlocks h dX14_ring_209 (by omega) (by omega)
    · have h := h.2 c1
      refine q_iconst (pc := 10) C 0 dX14_ring_10 (by decide) ?_
      refine q_istore_n (pc := 11) C 3 [(3, .int 0), (0, va_rf l0), (2, .int l2)] dX14_ring_11 rfl (by decide) (by first | rfl | simp [q_cat, q_catI, q_catJ, q_catR, q_catN]) ?_
      refine q_iconst (pc := 12) C 0 dX14_ring_12 (by decide) ?_
      refine q_istore (pc := 13) C 4 [(4, .int 0), (3, .int 0), (0, va_rf l0), (2, .int l2)] dX14_ring_13 (by decide) (by first | rfl | simp [q_cat, q_catI, q_catJ, q_catR, q_catN]) ?_
      refine q_widen (k2 := 0) (n2 := 0) (by omega) (by omega) ?_
      refine q_lv [2, 3, 1, 0] rfl ?_
      obtain ⟨f9, h⟩ := h
      exact tX14_ring_15 C hr hlocks ih f9 _ _ _ _ _ h
set_option maxRecDepth 100000 in
set_option maxHeartbeats 4000000 in
theorem tX14_ring {p : Program} {l : Launch} {e : Env} {s : State} {m : MethodId} {args : Array Value} {below : List Frame} {meth : Method} {c : Code} {G : mG} {b0 : Nat} (C : m_C p s m args c cX14_ring 9 RX14 wsX14_ring G b0) (hr : meth.sig.returnType = (some .int)) (hlocks : meth.locks = false) {κ : Int32 → mM → Prop} {l0 : Option Nat} {l1 : Int32} {M : mM} (h : wX14_ring κ l0 l1 M) : m_W p l e ({ frames := 3, cells := 0, slots := 0, locals := 64 } : Room) s m args below meth c G b0 (MQ below (va_Qi κ (m_B G b0) (fun q => b0 ≤ q)) args s 0 0 (fun q => b0 ≤ q)) 9 M 0 0 0 [(0, va_rf l0), (1, .int l1)] [] := by
  unfold wX14_ring at h
  refine q_iconst (pc := 0) C 1 dX14_ring_0 (by decide) ?_
  refine q_iload_n (pc := 1) C 1 1 dX14_ring_1 rfl rfl ?_
  refine q_ishl (pc := 2) C dX14_ring_2 ?_
  refine m_stk (st2 := .int (m_shl 1 l1) :: _) rfl ?_
  refine q_istore_n (pc := 3) C 2 [(2, .int (m_shl 1 l1)), (0, va_rf l0), (1, .int l1)] dX14_ring_3 rfl (by decide) (by first | rfl | simp [q_cat, q_catI, q_catJ, q_catR, q_catN]) ?_
  refine q_iconst (pc := 4) C 1 dX14_ring_4 (by decide) ?_
  refine q_istore_n (pc := 5) C 3 [(3, .int 1), (2, .int (m_shl 1 l1)), (0, va_rf l0), (1, .int l1)] dX14_ring_5 rfl (by decide) (by first | rfl | simp [q_cat, q_catI, q_catJ, q_catR, q_catN]) ?_
  refine q_widen (k2 := 0) (n2 := 0) (by omega) (by omega) ?_
  refine q_lv [2, 1, 0] rfl ?_
  obtain ⟨f9, h⟩ := h
  exact tX14_ring_6 C hr hlocks f9 _ _ _ _ h
set_option maxRecDepth 100000 in
set_option maxHeartbeats 4000000 in
theorem kX14_ring (l : Launch) (G : mG) (b0 : Nat) {b : Nat} {l1 : Int32} {M : mM} {κ : Int32 → mM → Prop} (h : wX14_ring κ (some b) l1 M) : Met l yX14_ring wsX14_ring ({ frames := 3, cells := 0, slots := 0, locals := 64 } : Room) (va_Pc [.ref b, .int l1] (m_Pre G b0 M)) (va_Qi κ (m_B G b0) (fun q => b0 ≤ q)) 0 0 (fun q => b0 ≤ q) := by
  refine m_met (cc := cX14_ring) (maxL := 9) (ret := (some .int)) (lv := [(0, va_rf (some b)), (1, .int l1)]) RX14 rfl (by decide +kernel) rfl (by first | exact Nat.le_of_ble_eq_true rfl | simp [lg_sl, q_cat, q_catI, q_catJ, q_catR, q_catN]) (by first | rfl | (simp [lv_args, q_cat, q_catI, q_catJ, q_catR, q_catN]; done) | (simp [lv_args, q_cat, q_catI, q_catJ, q_catR, q_catN]; rfl)) ?_
  intro p e s m args below meth c C hr hlocks hni
  exact tX14_ring C hr hlocks h
/-! X14_ofSleeperNow -/
set_option maxRecDepth 100000 in
set_option maxHeartbeats 4000000 in
theorem tX14_ofSleeperNow_173 {p : Program} {l : Launch} {e : Env} {s : State} {m : MethodId} {args : Array Value} {below : List Frame} {meth : Method} {c : Code} {G : mG} {b0 : Nat} (C : m_C p s m args c cX14_ofSleeperNow 6 RX14 wsX14_ofSleeperNow G b0) (hr : meth.sig.returnType = (some .int)) (hlocks : meth.locks = false) {κ : Int32 → mM → Prop} {R135 : Option Nat → Int32 → Int32 → Int32 → mM → Prop} (hR135 : ∀ (l0 : Option Nat) (l1 : Int32) (l4 : Int32) (l5 : Int32) (M : mM), R135 l0 l1 l4 l5 M → m_W p l e ({ frames := 4, cells := 0, slots := 0, locals := 92 } : Room) s m args below meth c G b0 (MQ below (va_Qi κ (m_B G b0) (fun q => b0 ≤ q)) args s 0 0 (fun q => b0 ≤ q)) 6 M 0 0 135 [(0, va_rf l0), (1, .int l1), (4, .int l4), (5, .int l5)] []) {l0 : Option Nat} {l1 : Int32} {l5 : Int32} {s0 : Int32} {s1 : Int32} {M : mM} (h : wX14_ofSleeperNow_173 κ R135 l0 l1 l5 s0 s1 M) : m_W p l e ({ frames := 4, cells := 0, slots := 0, locals := 92 } : Room) s m args below meth c G b0 (MQ below (va_Qi κ (m_B G b0) (fun q => b0 ≤ q)) args s 0 0 (fun q => b0 ≤ q)) 6 M 0 0 173 [(0, va_rf l0), (1, .int l1), (5, .int l5)] [.int s0, .int s1] := by
  unfold wX14_ofSleeperNow_173 at h
  refine q_iadd (pc := 173) C dX14_ofSleeperNow_173 ?_
  refine q_istore (pc := 174) C 4 [(4, .int (s1 + s0)), (0, va_rf l0), (1, .int l1), (5, .int l5)] dX14_ofSleeperNow_174 (by decide) (by first | rfl | simp [q_cat, q_catI, q_catJ, q_catR, q_catN]) ?_
  refine q_iinc (pc := 176) C 5 3 (l5 + 3) [(5, .int (l5 + 3)), (4, .int (s1 + s0)), (0, va_rf l0), (1, .int l1)] dX14_ofSleeperNow_176 rfl (by rfl) (by decide) (by first | rfl | simp [q_cat, q_catI, q_catJ, q_catR, q_catN]) ?_
  refine q_goto (pc := 179) C 135 dX14_ofSleeperNow_179 (by decide) ?_
  refine q_widen (k2 := 0) (n2 := 0) (by omega) (by omega) ?_
  refine q_lv [2, 3, 1, 0] rfl ?_
  exact hR135 _ _ _ _ _ h
set_option maxRecDepth 100000 in
set_option maxHeartbeats 4000000 in
theorem tX14_ofSleeperNow_135 {p : Program} {l : Launch} {e : Env} {s : State} {m : MethodId} {args : Array Value} {below : List Frame} {meth : Method} {c : Code} {G : mG} {b0 : Nat} (C : m_C p s m args c cX14_ofSleeperNow 6 RX14 wsX14_ofSleeperNow G b0) (hr : meth.sig.returnType = (some .int)) (hlocks : meth.locks = false) {κ : Int32 → mM → Prop} : ∀ (f : Nat) (l0 : Option Nat) (l1 : Int32) (l4 : Int32) (l5 : Int32) (M : mM), wX14_ofSleeperNow_135 κ f l0 l1 l4 l5 M → m_W p l e ({ frames := 4, cells := 0, slots := 0, locals := 92 } : Room) s m args below meth c G b0 (MQ below (va_Qi κ (m_B G b0) (fun q => b0 ≤ q)) args s 0 0 (fun q => b0 ≤ q)) 6 M 0 0 135 [(0, va_rf l0), (1, .int l1), (4, .int l4), (5, .int l5)] [] := by
  intro f
  induction f with
  | zero =>
    intro l0 l1 l4 l5 M h
    exact absurd h (by simp [wX14_ofSleeperNow_135])
  | succ f ih =>
    intro l0 l1 l4 l5 M h
    rw [wX14_ofSleeperNow_135] at h
    refine q_iload (pc := 135) C 5 3 dX14_ofSleeperNow_135 rfl ?_
    refine q_aload_n (pc := 137) C 0 0 dX14_ofSleeperNow_137 rfl rfl ?_
    refine q_gR (pc := 138) C h (T := TX14) rfl (by decide) (wk_u rfl wm_X14_ofSleeperNow uq_X14 (by decide +kernel)) (by decide +kernel) (fun _ h9 => h9) dX14_ofSleeperNow_138 (fun x1 h => ?_)
    obtain ⟨b4, fs9, hb4, hm9, h⟩ := h
    refine q_ci (pc := 141) (q_rV C (st := [.int l5]) (b := b4) (kJx4a65c_size_8abf5 l G b0 h) (cwV 0 C.2.2.2.2.1 gX14_ofSleeperNow_Jx4a65c_size_8abf5 rfl rfl rfl (by decide +kernel) ⟨Nat.le_of_ble_eq_true rfl, Nat.le_of_ble_eq_true rfl⟩) hm9 rfl rfl rfl (by first | exact Nat.le_of_ble_eq_true rfl | (simp [q_cat, q_catI, q_catJ, q_catR, q_catN]; done)) (by rw [hb4]; first | done | rfl) dX14_ofSleeperNow_141 ⟨(by first | omega | (dsimp only; omega)), (by first | omega | (dsimp only; omega))⟩) (fun x2 M3 h => ?_)
    refine q_icmp_ge (pc := 144) C 182 dX14_ofSleeperNow_144 (by decide) (fun c5 => ?_) (fun c5 => ?_)
    · have h := h.1 c5
      refine q_iload (pc := 182) C 4 2 dX14_ofSleeperNow_182 rfl ?_
      exact q_iret (pc := 184) C hr hlocks h dX14_ofSleeperNow_184 (by omega) (by omega)
    · have h := h.2 c5
      refine q_iload (pc := 147) C 4 2 dX14_ofSleeperNow_147 rfl ?_
      refine q_aload_n (pc := 149) C 0 0 dX14_ofSleeperNow_149 rfl rfl ?_
      refine q_gR (pc := 150) C h (T := TX14) rfl (by decide) (wk_u rfl wm_X14_ofSleeperNow uq_X14 (by decide +kernel)) (by decide +kernel) (fun _ h9 => h9) dX14_ofSleeperNow_150 (fun x6 h => ?_)
      refine q_iload (pc := 153) C 5 3 dX14_ofSleeperNow_153 rfl ?_
      obtain ⟨b9, fs9, hb9, hm9, h⟩ := h
      refine q_cq (pc := 155) (q_rV C (st := [.int l4]) (b := b9) (kJx4a65c_get_915e3 l G b0 h) (cwV 1 C.2.2.2.2.1 gX14_ofSleeperNow_Jx4a65c_get_915e3 rfl rfl rfl (by decide +kernel) ⟨Nat.le_of_ble_eq_true rfl, Nat.le_of_ble_eq_true rfl⟩) hm9 rfl rfl rfl (by first | exact Nat.le_of_ble_eq_true rfl | (simp [q_cat, q_catI, q_catJ, q_catR, q_catN]; done)) (by rw [hb9]; first | done | rfl) dX14_ofSleeperNow_155 ⟨(by first | omega | (dsimp only; omega)), (by first | omega | (dsimp only; omega))⟩) (fun x7 M8 h => ?_)
      refine q_cast (pc := 158) C h rfl rfl (by decide +kernel) dX14_ofSleeperNow_158 (fun h => ?_)
      obtain ⟨b12, fs9, hb12, hm9, h⟩ := h
      refine q_ci (pc := 161) (q_rV C (st := [.int l4]) (b := b12) (kJ6_intValue_8abf5 l G b0 h) (cwV 0 C.2.2.2.2.1 gX14_ofSleeperNow_J6_intValue_8abf5 rfl rfl rfl (by decide +kernel) ⟨Nat.le_of_ble_eq_true rfl, Nat.le_of_ble_eq_true rfl⟩) hm9 rfl rfl rfl (by first | exact Nat.le_of_ble_eq_true rfl | (simp [q_cat, q_catI, q_catJ, q_catR, q_catN]; done)) (by rw [hb12]; first | done | rfl) dX14_ofSleeperNow_161 ⟨(by first | omega | (dsimp only; omega)), (by first | omega | (dsimp only; omega))⟩) (fun x10 M11 h => ?_)
      refine q_iload_n (pc := 164) C 1 1 dX14_ofSleeperNow_164 rfl rfl ?_
      refine q_icmp_ne (pc := 165) C 172 dX14_ofSleeperNow_165 (by decide) (fun c13 => ?_) (fun c13 => ?_)
      · have h := h.2 c13
        refine q_iconst (pc := 172) C 0 dX14_ofSleeperNow_172 (by decide) ?_
        refine q_widen (k2 := 0) (n2 := 0) (by omega) (by omega) ?_
        refine q_lv [0, 1, 3] rfl ?_
        exact tX14_ofSleeperNow_173 C hr hlocks ih h
      · have h := h.1 c13
        refine q_iconst (pc := 168) C 1 dX14_ofSleeperNow_168 (by decide) ?_
        refine q_goto (pc := 169) C 173 dX14_ofSleeperNow_169 (by decide) ?_
        refine q_widen (k2 := 0) (n2 := 0) (by omega) (by omega) ?_
        refine q_lv [0, 1, 3] rfl ?_
        exact tX14_ofSleeperNow_173 C hr hlocks ih h
set_option maxRecDepth 100000 in
set_option maxHeartbeats 4000000 in
theorem tX14_ofSleeperNow {p : Program} {l : Launch} {e : Env} {s : State} {m : MethodId} {args : Array Value} {below : List Frame} {meth : Method} {c : Code} {G : mG} {b0 : Nat} (C : m_C p s m args c cX14_ofSleeperNow 6 RX14 wsX14_ofSleeperNow G b0) (hr : meth.sig.returnType = (some .int)) (hlocks : meth.locks = false) {κ : Int32 → mM → Prop} {l0 : Option Nat} {l1 : Int32} {l2 : Int32} {M : mM} (h : wX14_ofSleeperNow κ l0 l1 l2 M) : m_W p l e ({ frames := 4, cells := 0, slots := 0, locals := 92 } : Room) s m args below meth c G b0 (MQ below (va_Qi κ (m_B G b0) (fun q => b0 ≤ q)) args s 0 0 (fun q => b0 ≤ q)) 6 M 0 0 0 [(0, va_rf l0), (1, .int l1), (2, .int l2)] [] := by
  unfold wX14_ofSleeperNow at h
  refine q_aload_n (pc := 0) C 0 0 dX14_ofSleeperNow_0 rfl rfl ?_
  refine q_gR (pc := 1) C h (T := TX14) rfl (by decide) (wk_u rfl wm_X14_ofSleeperNow uq_X14 (by decide +kernel)) (by decide +kernel) (fun _ h9 => h9) dX14_ofSleeperNow_1 (fun x1 h => ?_)
  refine q_iload_n (pc := 4) C 1 1 dX14_ofSleeperNow_4 rfl rfl ?_
  obtain ⟨b4, fs9, hb4, hm9, h⟩ := h
  refine q_cq (pc := 5) (q_rV C (st := []) (b := b4) (kJx4a65c_get_915e3 l G b0 h) (cwV 1 C.2.2.2.2.1 gX14_ofSleeperNow_Jx4a65c_get_915e3 rfl rfl rfl (by decide +kernel) ⟨Nat.le_of_ble_eq_true rfl, Nat.le_of_ble_eq_true rfl⟩) hm9 rfl rfl rfl (by first | exact Nat.le_of_ble_eq_true rfl | (simp [q_cat, q_catI, q_catJ, q_catR, q_catN]; done)) (by rw [hb4]; first | done | rfl) dX14_ofSleeperNow_5 ⟨(by first | omega | (dsimp only; omega)), (by first | omega | (dsimp only; omega))⟩) (fun x2 M3 h => ?_)
  refine q_cast (pc := 8) C h rfl rfl (by decide +kernel) dX14_ofSleeperNow_8 (fun h => ?_)
  refine q_astore_n (pc := 11) C 3 [(3, va_rf x2), (0, va_rf l0), (1, .int l1), (2, .int l2)] dX14_ofSleeperNow_11 rfl (by decide) (by first | rfl | simp [q_cat, q_catI, q_catJ, q_catR, q_catN]) ?_
  refine q_iconst (pc := 12) C 0 dX14_ofSleeperNow_12 (by decide) ?_
  refine q_istore (pc := 13) C 4 [(4, .int 0), (3, va_rf x2), (0, va_rf l0), (1, .int l1), (2, .int l2)] dX14_ofSleeperNow_13 (by decide) (by first | rfl | simp [q_cat, q_catI, q_catJ, q_catR, q_catN]) ?_
  refine q_iload_n (pc := 15) C 2 4 dX14_ofSleeperNow_15 rfl rfl ?_
  by_cases c5 : l2 = 0
  · have h := h.1 c5
    refine q_tableIn (pc := 16) C 64 dX14_ofSleeperNow_16 (by rw [c5]; decide) (by rw [c5]; decide) (by rw [c5]; rfl) (by decide) ?_
    refine q_aload_n (pc := 64) C 3 1 dX14_ofSleeperNow_64 rfl rfl ?_
    refine q_gIN (pc := 65) C h (host := "LullabygateModel") (T := TX13) rfl (by decide) (by decide +kernel) 1474 (by decide +kernel) (fun _ h9 => h9) dX14_ofSleeperNow_65 (fun x6 h => ?_)
    exact q_iret (pc := 68) C hr hlocks h dX14_ofSleeperNow_68 (by omega) (by omega)
  have h := h.2 c5
  by_cases c7 : l2 = 1
  · have h := h.1 c7
    refine q_tableIn (pc := 16) C 69 dX14_ofSleeperNow_16 (by rw [c7]; decide) (by rw [c7]; decide) (by rw [c7]; rfl) (by decide) ?_
    refine q_aload_n (pc := 69) C 3 1 dX14_ofSleeperNow_69 rfl rfl ?_
    refine q_gIN (pc := 70) C h (host := "LullabygateModel") (T := TX13) rfl (by decide) (by decide +kernel) 1476 (by decide +kernel) (fun _ h9 => h9) dX14_ofSleeperNow_70 (fun x8 h => ?_)
    exact q_iret (pc := 73) C hr hlocks h dX14_ofSleeperNow_73 (by omega) (by omega)
  have h := h.2 c7
  by_cases c9 : l2 = 2
  · have h := h.1 c9
    refine q_tableIn (pc := 16) C 74 dX14_ofSleeperNow_16 (by rw [c9]; decide) (by rw [c9]; decide) (by rw [c9]; rfl) (by decide) ?_
    refine q_aload_n (pc := 74) C 3 1 dX14_ofSleeperNow_74 rfl rfl ?_
    refine q_gIN (pc := 75) C h (host := "LullabygateModel") (T := TX13) rfl (by decide) (by decide +kernel) 1477 (by decide +kernel) (fun _ h9 => h9) dX14_ofSleeperNow_75 (fun x10 h => ?_)
    exact q_iret (pc := 78) C hr hlocks h dX14_ofSleeperNow_78 (by omega) (by omega)
  have h := h.2 c9
  by_cases c11 : l2 = 3
  · have h := h.1 c11
    refine q_tableIn (pc := 16) C 79 dX14_ofSleeperNow_16 (by rw [c11]; decide) (by rw [c11]; decide) (by rw [c11]; rfl) (by decide) ?_
    refine q_aload_n (pc := 79) C 3 1 dX14_ofSleeperNow_79 rfl rfl ?_
    refine q_gIN (pc := 80) C h (host := "LullabygateModel") (T := TX13) rfl (by decide) (by decide +kernel) 1479 (by decide +kernel) (fun _ h9 => h9) dX14_ofSleeperNow_80 (fun x12 h => ?_)
    exact q_iret (pc := 83) C hr hlocks h dX14_ofSleeperNow_83 (by omega) (by omega)
  have h := h.2 c11
  by_cases c13 : l2 = 4
  · have h := h.1 c13
    refine q_tableIn (pc := 16) C 84 dX14_ofSleeperNow_16 (by rw [c13]; decide) (by rw [c13]; decide) (by rw [c13]; rfl) (by decide) ?_
    refine q_aload_n (pc := 84) C 3 1 dX14_ofSleeperNow_84 rfl rfl ?_
    refine q_gIN (pc := 85) C h (host := "LullabygateModel") (T := TX13) rfl (by decide) (by decide +kernel) 1479 (by decide +kernel) (fun _ h9 => h9) dX14_ofSleeperNow_85 (fun x14 h => ?_)
    refine q_iconst (pc := 88) C (-1) dX14_ofSleeperNow_88 (by decide) ?_
    refine q_icmp_ne (pc := 89) C 96 dX14_ofSleeperNow_89 (by decide) (fun c15 => ?_) (fun c15 => ?_)
    · have h := h.2 c15
      refine q_aload_n (pc := 96) C 0 2 dX14_ofSleeperNow_96 rfl rfl ?_
      refine q_gR (pc := 97) C h (T := TX14) rfl (by decide) (wk_u rfl wm_X14_ofSleeperNow uq_X14 (by decide +kernel)) (by decide +kernel) (fun _ h9 => h9) dX14_ofSleeperNow_97 (fun x16 h => ?_)
      refine q_aload_n (pc := 100) C 3 1 dX14_ofSleeperNow_100 rfl rfl ?_
      refine q_gIN (pc := 101) C h (host := "LullabygateModel") (T := TX13) rfl (by decide) (by decide +kernel) 1479 (by decide +kernel) (fun _ h9 => h9) dX14_ofSleeperNow_101 (fun x17 h => ?_)
      obtain ⟨b20, fs9, hb20, hm9, h⟩ := h
      refine q_cq (pc := 104) (q_rV C (st := []) (b := b20) (kJx4a65c_get_915e3 l G b0 h) (cwV 1 C.2.2.2.2.1 gX14_ofSleeperNow_Jx4a65c_get_915e3 rfl rfl rfl (by decide +kernel) ⟨Nat.le_of_ble_eq_true rfl, Nat.le_of_ble_eq_true rfl⟩) hm9 rfl rfl rfl (by first | exact Nat.le_of_ble_eq_true rfl | (simp [q_cat, q_catI, q_catJ, q_catR, q_catN]; done)) (by rw [hb20]; first | done | rfl) dX14_ofSleeperNow_104 ⟨(by first | omega | (dsimp only; omega)), (by first | omega | (dsimp only; omega))⟩) (fun x18 M19 h => ?_)
      refine q_cast (pc := 107) C h rfl rfl (by decide +kernel) dX14_ofSleeperNow_107 (fun h => ?_)
      refine q_iload_n (pc := 110) C 1 3 dX14_ofSleeperNow_110 rfl rfl ?_
      obtain ⟨b23, fs9, hb23, hm9, h⟩ := h
      refine q_ci (pc := 111) (q_rV C (st := []) (b := b23) (kX10_place l G b0 h) (cwV 1 C.2.2.2.2.1 gX14_ofSleeperNow_X10_place rfl rfl rfl (by decide +kernel) ⟨Nat.le_of_ble_eq_true rfl, Nat.le_of_ble_eq_true rfl⟩) hm9 rfl rfl rfl (by first | exact Nat.le_of_ble_eq_true rfl | (simp [q_cat, q_catI, q_catJ, q_catR, q_catN]; done)) (by rw [hb23]; first | done | rfl) dX14_ofSleeperNow_111 ⟨(by first | omega | (dsimp only; omega)), (by first | omega | (dsimp only; omega))⟩) (fun x21 M22 h => ?_)
      exact q_iret (pc := 114) C hr hlocks h dX14_ofSleeperNow_114 (by omega) (by omega)
    · have h := h.1 c15
      refine q_iconst (pc := 92) C (-1) dX14_ofSleeperNow_92 (by decide) ?_
      refine q_goto (pc := 93) C 114 dX14_ofSleeperNow_93 (by decide) ?_
      exact q_iret (pc := 114) C hr hlocks h dX14_ofSleeperNow_114 (by omega) (by omega)
  have h := h.2 c13
  by_cases c24 : l2 = 5
  · have h := h.1 c24
    refine q_tableIn (pc := 16) C 115 dX14_ofSleeperNow_16 (by rw [c24]; decide) (by rw [c24]; decide) (by rw [c24]; rfl) (by decide) ?_
    refine q_aload_n (pc := 115) C 0 2 dX14_ofSleeperNow_115 rfl rfl ?_
    refine q_iload_n (pc := 116) C 1 3 dX14_ofSleeperNow_116 rfl rfl ?_
    obtain ⟨b27, fs9, hb27, hm9, h⟩ := h
    refine q_ci (pc := 117) (q_rV C (st := []) (b := b27) (kX14_head l G b0 h) (cwV 1 C.2.2.2.2.1 gX14_ofSleeperNow_X14_head rfl rfl rfl (by decide +kernel) ⟨Nat.le_of_ble_eq_true rfl, Nat.le_of_ble_eq_true rfl⟩) hm9 rfl rfl rfl (by first | exact Nat.le_of_ble_eq_true rfl | (simp [q_cat, q_catI, q_catJ, q_catR, q_catN]; done)) (by rw [hb27]; first | done | rfl) dX14_ofSleeperNow_117 ⟨(by first | omega | (dsimp only; omega)), (by first | omega | (dsimp only; omega))⟩) (fun x25 M26 h => ?_)
    exact q_iret (pc := 120) C hr hlocks h dX14_ofSleeperNow_120 (by omega) (by omega)
  have h := h.2 c24
  by_cases c28 : l2 = 6
  · have h := h.1 c28
    refine q_tableIn (pc := 16) C 121 dX14_ofSleeperNow_16 (by rw [c28]; decide) (by rw [c28]; decide) (by rw [c28]; rfl) (by decide) ?_
    refine q_aload_n (pc := 121) C 3 1 dX14_ofSleeperNow_121 rfl rfl ?_
    refine q_gIN (pc := 122) C h (host := "LullabygateModel") (T := TX13) rfl (by decide) (by decide +kernel) 1485 (by decide +kernel) (fun _ h9 => h9) dX14_ofSleeperNow_122 (fun x29 h => ?_)
    exact q_iret (pc := 125) C hr hlocks h dX14_ofSleeperNow_125 (by omega) (by omega)
  have h := h.2 c28
  by_cases c30 : l2 = 7
  · have h := h.1 c30
    refine q_tableIn (pc := 16) C 126 dX14_ofSleeperNow_16 (by rw [c30]; decide) (by rw [c30]; decide) (by rw [c30]; rfl) (by decide) ?_
    refine q_aload_n (pc := 126) C 0 2 dX14_ofSleeperNow_126 rfl rfl ?_
    refine q_iload_n (pc := 127) C 1 3 dX14_ofSleeperNow_127 rfl rfl ?_
    obtain ⟨b33, fs9, hb33, hm9, h⟩ := h
    refine q_ci (pc := 128) (q_rV C (st := []) (b := b33) (kX14_ring l G b0 h) (cwV 1 C.2.2.2.2.1 gX14_ofSleeperNow_X14_ring rfl rfl rfl (by decide +kernel) ⟨Nat.le_of_ble_eq_true rfl, Nat.le_of_ble_eq_true rfl⟩) hm9 rfl rfl rfl (by first | exact Nat.le_of_ble_eq_true rfl | (simp [q_cat, q_catI, q_catJ, q_catR, q_catN]; done)) (by rw [hb33]; first | done | rfl) dX14_ofSleeperNow_128 ⟨(by first | omega | (dsimp only; omega)), (by first | omega | (dsimp only; omega))⟩) (fun x31 M32 h => ?_)
    exact q_iret (pc := 131) C hr hlocks h dX14_ofSleeperNow_131 (by omega) (by omega)
  have h := h.2 c30
  refine q_tableOut (pc := 16) C 132 dX14_ofSleeperNow_16 ?_ (by decide) ?_
  · have hsw := m_sw (x := l2) 0 8 (fun j hj => by
      rcases (show j = 0 ∨ j = 1 ∨ j = 2 ∨ j = 3 ∨ j = 4 ∨ j = 5 ∨ j = 6 ∨ j = 7 by omega) with rfl | rfl | rfl | rfl | rfl | rfl | rfl | rfl
      · exact c5
      · exact c7
      · exact c9
      · exact c11
      · exact c13
      · exact c24
      · exact c28
      · exact c30
      ) (by decide)
    rcases hsw with q9 | q9
    · exact Or.inl (by simpa using q9)
    · exact Or.inr (by simp at q9 ⊢; omega)
  refine q_iconst (pc := 132) C 0 dX14_ofSleeperNow_132 (by decide) ?_
  refine q_istore (pc := 133) C 5 [(5, .int 0), (4, .int 0), (3, va_rf x2), (0, va_rf l0), (1, .int l1), (2, .int l2)] dX14_ofSleeperNow_133 (by decide) (by first | rfl | simp [q_cat, q_catI, q_catJ, q_catR, q_catN]) ?_
  refine q_widen (k2 := 0) (n2 := 0) (by omega) (by omega) ?_
  refine q_lv [3, 4, 1, 0] rfl ?_
  obtain ⟨f9, h⟩ := h
  exact tX14_ofSleeperNow_135 C hr hlocks f9 _ _ _ _ _ h
set_option maxRecDepth 100000 in
set_option maxHeartbeats 4000000 in
theorem kX14_ofSleeperNow (l : Launch) (G : mG) (b0 : Nat) {b : Nat} {l1 : Int32} {l2 : Int32} {M : mM} {κ : Int32 → mM → Prop} (h : wX14_ofSleeperNow κ (some b) l1 l2 M) : Met l yX14_ofSleeperNow wsX14_ofSleeperNow ({ frames := 4, cells := 0, slots := 0, locals := 92 } : Room) (va_Pc [.ref b, .int l1, .int l2] (m_Pre G b0 M)) (va_Qi κ (m_B G b0) (fun q => b0 ≤ q)) 0 0 (fun q => b0 ≤ q) := by
  refine m_met (cc := cX14_ofSleeperNow) (maxL := 6) (ret := (some .int)) (lv := [(0, va_rf (some b)), (1, .int l1), (2, .int l2)]) RX14 rfl (by decide +kernel) rfl (by first | exact Nat.le_of_ble_eq_true rfl | simp [lg_sl, q_cat, q_catI, q_catJ, q_catR, q_catN]) (by first | rfl | (simp [lv_args, q_cat, q_catI, q_catJ, q_catR, q_catN]; done) | (simp [lv_args, q_cat, q_catI, q_catJ, q_catR, q_catN]; rfl)) ?_
  intro p e s m args below meth c C hr hlocks hni
  exact tX14_ofSleeperNow C hr hlocks h
/-! X14_ofSleeper -/
set_option maxRecDepth 100000 in
set_option maxHeartbeats 4000000 in
theorem tX14_ofSleeper {p : Program} {l : Launch} {e : Env} {s : State} {m : MethodId} {args : Array Value} {below : List Frame} {meth : Method} {c : Code} {G : mG} {b0 : Nat} (C : m_C p s m args c cX14_ofSleeper 3 RX14 wsX14_ofSleeper G b0) (hr : meth.sig.returnType = (some .int)) (hlocks : meth.locks = false) {κ : Int32 → mM → Prop} {l0 : Option Nat} {l1 : Int32} {l2 : Int32} {M : mM} (h : wX14_ofSleeper κ l0 l1 l2 M) : m_W p l e ({ frames := 5, cells := 0, slots := 0, locals := 117 } : Room) s m args below meth c G b0 (MQ below (va_Qi κ (m_B G b0) (fun q => b0 ≤ q)) args s 0 0 (fun q => b0 ≤ q)) 3 M 0 0 0 [(0, va_rf l0), (1, .int l1), (2, .int l2)] [] := by
  unfold wX14_ofSleeper at h
  refine q_aload_n (pc := 0) C 0 0 dX14_ofSleeper_0 rfl rfl ?_
  refine q_iconst (pc := 1) C 0 dX14_ofSleeper_1 (by decide) ?_
  refine q_p (pc := 2) C h .int (T := TX14) tyX14 tyX14_ok nmX14 rfl (by decide +kernel) rfl rfl rfl (by decide) (wk_u rfl wm_X14_ofSleeper uq_X14 (by decide +kernel)) (by decide +kernel) (fun _ h9 => h9) rfl dX14_ofSleeper_2 (fun M1 h => ?_)
  refine q_aload_n (pc := 5) C 0 0 dX14_ofSleeper_5 rfl rfl ?_
  refine q_iload_n (pc := 6) C 1 1 dX14_ofSleeper_6 rfl rfl ?_
  obtain ⟨b4, fs9, hb4, hm9, h⟩ := h
  refine q_ci (pc := 7) (q_rV C (st := []) (b := b4) (kX14_isSleeper l G b0 h) (cwV 1 C.2.2.2.2.1 gX14_ofSleeper_X14_isSleeper rfl rfl rfl (by decide +kernel) ⟨Nat.le_of_ble_eq_true rfl, Nat.le_of_ble_eq_true rfl⟩) hm9 rfl rfl rfl (by first | exact Nat.le_of_ble_eq_true rfl | (simp [q_cat, q_catI, q_catJ, q_catR, q_catN]; done)) (by rw [hb4]; first | done | rfl) dX14_ofSleeper_7 ⟨(by first | omega | (dsimp only; omega)), (by first | omega | (dsimp only; omega))⟩) (fun x2 M3 h => ?_)
  refine q_if_ne (pc := 10) C 19 dX14_ofSleeper_10 (by decide) (fun c5 => ?_) (fun c5 => ?_)
  · have h := h.2 c5
    refine q_iload_n (pc := 19) C 2 2 dX14_ofSleeper_19 rfl rfl ?_
    refine q_iconst (pc := 20) C 0 dX14_ofSleeper_20 (by decide) ?_
    refine q_bipush (pc := 21) C 8 dX14_ofSleeper_21 (by decide) ?_
    refine q_ci (pc := 23) (q_rS C (st := []) (kX14_is l G b0 h) (va_cwS 3 C.2.2.2.2.1 gX14_ofSleeper_X14_is rfl rfl rfl (by decide +kernel) ⟨Nat.le_of_ble_eq_true rfl, Nat.le_of_ble_eq_true rfl⟩) rfl (by first | exact Nat.le_of_ble_eq_true rfl | (simp [q_cat, q_catI, q_catJ, q_catR, q_catN]; done)) rfl dX14_ofSleeper_23 ⟨(by first | omega | (dsimp only; omega)), (by first | omega | (dsimp only; omega))⟩) (fun x6 M7 h => ?_)
    refine q_if_eq (pc := 26) C 38 dX14_ofSleeper_26 (by decide) (fun c8 => ?_) (fun c8 => ?_)
    · have h := h.1 c8
      refine q_aload_n (pc := 38) C 0 0 dX14_ofSleeper_38 rfl rfl ?_
      refine q_iconst (pc := 39) C 2 dX14_ofSleeper_39 (by decide) ?_
      obtain ⟨b11, fs9, hb11, hm9, h⟩ := h
      refine q_ci (pc := 40) (q_rV C (st := []) (b := b11) (kX14_refuse l G b0 h) (cwV 1 C.2.2.2.2.1 gX14_ofSleeper_X14_refuse rfl rfl rfl (by decide +kernel) ⟨Nat.le_of_ble_eq_true rfl, Nat.le_of_ble_eq_true rfl⟩) hm9 rfl rfl rfl (by first | exact Nat.le_of_ble_eq_true rfl | (simp [q_cat, q_catI, q_catJ, q_catR, q_catN]; done)) (by rw [hb11]; first | done | rfl) dX14_ofSleeper_40 ⟨(by first | omega | (dsimp only; omega)), (by first | omega | (dsimp only; omega))⟩) (fun x9 M10 h => ?_)
      exact q_iret (pc := 43) C hr hlocks h dX14_ofSleeper_43 (by omega) (by omega)
    · have h := h.2 c8
      refine q_aload_n (pc := 29) C 0 0 dX14_ofSleeper_29 rfl rfl ?_
      refine q_iload_n (pc := 30) C 1 1 dX14_ofSleeper_30 rfl rfl ?_
      refine q_iload_n (pc := 31) C 2 2 dX14_ofSleeper_31 rfl rfl ?_
      obtain ⟨b14, fs9, hb14, hm9, h⟩ := h
      refine q_ci (pc := 32) (q_rV C (st := []) (b := b14) (kX14_ofSleeperNow l G b0 h) (cwV 2 C.2.2.2.2.1 gX14_ofSleeper_X14_ofSleeperNow rfl rfl rfl (by decide +kernel) ⟨Nat.le_of_ble_eq_true rfl, Nat.le_of_ble_eq_true rfl⟩) hm9 rfl rfl rfl (by first | exact Nat.le_of_ble_eq_true rfl | (simp [q_cat, q_catI, q_catJ, q_catR, q_catN]; done)) (by rw [hb14]; first | done | rfl) dX14_ofSleeper_32 ⟨(by first | omega | (dsimp only; omega)), (by first | omega | (dsimp only; omega))⟩) (fun x12 M13 h => ?_)
      refine q_goto (pc := 35) C 43 dX14_ofSleeper_35 (by decide) ?_
      exact q_iret (pc := 43) C hr hlocks h dX14_ofSleeper_43 (by omega) (by omega)
  · have h := h.1 c5
    refine q_aload_n (pc := 13) C 0 0 dX14_ofSleeper_13 rfl rfl ?_
    refine q_iconst (pc := 14) C 1 dX14_ofSleeper_14 (by decide) ?_
    obtain ⟨b17, fs9, hb17, hm9, h⟩ := h
    refine q_ci (pc := 15) (q_rV C (st := []) (b := b17) (kX14_refuse l G b0 h) (cwV 1 C.2.2.2.2.1 gX14_ofSleeper_X14_refuse rfl rfl rfl (by decide +kernel) ⟨Nat.le_of_ble_eq_true rfl, Nat.le_of_ble_eq_true rfl⟩) hm9 rfl rfl rfl (by first | exact Nat.le_of_ble_eq_true rfl | (simp [q_cat, q_catI, q_catJ, q_catR, q_catN]; done)) (by rw [hb17]; first | done | rfl) dX14_ofSleeper_15 ⟨(by first | omega | (dsimp only; omega)), (by first | omega | (dsimp only; omega))⟩) (fun x15 M16 h => ?_)
    exact q_iret (pc := 18) C hr hlocks h dX14_ofSleeper_18 (by omega) (by omega)
set_option maxRecDepth 100000 in
set_option maxHeartbeats 4000000 in
theorem kX14_ofSleeper (l : Launch) (G : mG) (b0 : Nat) {b : Nat} {l1 : Int32} {l2 : Int32} {M : mM} {κ : Int32 → mM → Prop} (h : wX14_ofSleeper κ (some b) l1 l2 M) : Met l yX14_ofSleeper wsX14_ofSleeper ({ frames := 5, cells := 0, slots := 0, locals := 117 } : Room) (va_Pc [.ref b, .int l1, .int l2] (m_Pre G b0 M)) (va_Qi κ (m_B G b0) (fun q => b0 ≤ q)) 0 0 (fun q => b0 ≤ q) := by
  refine m_met (cc := cX14_ofSleeper) (maxL := 3) (ret := (some .int)) (lv := [(0, va_rf (some b)), (1, .int l1), (2, .int l2)]) RX14 rfl (by decide +kernel) rfl (by first | exact Nat.le_of_ble_eq_true rfl | simp [lg_sl, q_cat, q_catI, q_catJ, q_catR, q_catN]) (by first | rfl | (simp [lv_args, q_cat, q_catI, q_catJ, q_catR, q_catN]; done) | (simp [lv_args, q_cat, q_catI, q_catJ, q_catR, q_catN]; rfl)) ?_
  intro p e s m args below meth c C hr hlocks hni
  exact tX14_ofSleeper C hr hlocks h
/-! X14_ofPartNow -/
set_option maxRecDepth 100000 in
set_option maxHeartbeats 4000000 in
theorem tX14_ofPartNow {p : Program} {l : Launch} {e : Env} {s : State} {m : MethodId} {args : Array Value} {below : List Frame} {meth : Method} {c : Code} {G : mG} {b0 : Nat} (C : m_C p s m args c cX14_ofPartNow 4 RX14 wsX14_ofPartNow G b0) (hr : meth.sig.returnType = (some .int)) (hlocks : meth.locks = false) {κ : Int32 → mM → Prop} {l0 : Option Nat} {l1 : Int32} {l2 : Int32} {M : mM} (h : wX14_ofPartNow κ l0 l1 l2 M) : m_W p l e ({ frames := 4, cells := 0, slots := 0, locals := 85 } : Room) s m args below meth c G b0 (MQ below (va_Qi κ (m_B G b0) (fun q => b0 ≤ q)) args s 0 0 (fun q => b0 ≤ q)) 4 M 0 0 0 [(0, va_rf l0), (1, .int l1), (2, .int l2)] [] := by
  unfold wX14_ofPartNow at h
  refine q_aload_n (pc := 0) C 0 0 dX14_ofPartNow_0 rfl rfl ?_
  refine q_gR (pc := 1) C h (T := TX14) rfl (by decide) (wk_u rfl wm_X14_ofPartNow uq_X14 (by decide +kernel)) (by decide +kernel) (fun _ h9 => h9) dX14_ofPartNow_1 (fun x1 h => ?_)
  refine q_iload_n (pc := 4) C 1 1 dX14_ofPartNow_4 rfl rfl ?_
  obtain ⟨b4, fs9, hb4, hm9, h⟩ := h
  refine q_cq (pc := 5) (q_rV C (st := []) (b := b4) (kJx4a65c_get_915e3 l G b0 h) (cwV 1 C.2.2.2.2.1 gX14_ofPartNow_Jx4a65c_get_915e3 rfl rfl rfl (by decide +kernel) ⟨Nat.le_of_ble_eq_true rfl, Nat.le_of_ble_eq_true rfl⟩) hm9 rfl rfl rfl (by first | exact Nat.le_of_ble_eq_true rfl | (simp [q_cat, q_catI, q_catJ, q_catR, q_catN]; done)) (by rw [hb4]; first | done | rfl) dX14_ofPartNow_5 ⟨(by first | omega | (dsimp only; omega)), (by first | omega | (dsimp only; omega))⟩) (fun x2 M3 h => ?_)
  refine q_cast (pc := 8) C h rfl rfl (by decide +kernel) dX14_ofPartNow_8 (fun h => ?_)
  refine q_astore_n (pc := 11) C 3 [(3, va_rf x2), (0, va_rf l0), (1, .int l1), (2, .int l2)] dX14_ofPartNow_11 rfl (by decide) (by first | rfl | simp [q_cat, q_catI, q_catJ, q_catR, q_catN]) ?_
  refine q_iload_n (pc := 12) C 2 3 dX14_ofPartNow_12 rfl rfl ?_
  by_cases c5 : l2 = 0
  · have h := h.1 c5
    refine q_tableIn (pc := 13) C 48 dX14_ofPartNow_13 (by rw [c5]; decide) (by rw [c5]; decide) (by rw [c5]; rfl) (by decide) ?_
    refine q_aload_n (pc := 48) C 3 0 dX14_ofPartNow_48 rfl rfl ?_
    refine q_gIN (pc := 49) C h (host := "LullabygateModel") (T := TX12) rfl (by decide) (by decide +kernel) 1519 (by decide +kernel) (fun _ h9 => h9) dX14_ofPartNow_49 (fun x6 h => ?_)
    exact q_iret (pc := 52) C hr hlocks h dX14_ofPartNow_52 (by omega) (by omega)
  have h := h.2 c5
  by_cases c7 : l2 = 1
  · have h := h.1 c7
    refine q_tableIn (pc := 13) C 53 dX14_ofPartNow_13 (by rw [c7]; decide) (by rw [c7]; decide) (by rw [c7]; rfl) (by decide) ?_
    refine q_aload_n (pc := 53) C 3 0 dX14_ofPartNow_53 rfl rfl ?_
    refine q_gIN (pc := 54) C h (host := "LullabygateModel") (T := TX12) rfl (by decide) (by decide +kernel) 1520 (by decide +kernel) (fun _ h9 => h9) dX14_ofPartNow_54 (fun x8 h => ?_)
    exact q_iret (pc := 57) C hr hlocks h dX14_ofPartNow_57 (by omega) (by omega)
  have h := h.2 c7
  by_cases c9 : l2 = 2
  · have h := h.1 c9
    refine q_tableIn (pc := 13) C 58 dX14_ofPartNow_13 (by rw [c9]; decide) (by rw [c9]; decide) (by rw [c9]; rfl) (by decide) ?_
    refine q_aload_n (pc := 58) C 3 0 dX14_ofPartNow_58 rfl rfl ?_
    refine q_gIN (pc := 59) C h (host := "LullabygateModel") (T := TX12) rfl (by decide) (by decide +kernel) 1522 (by decide +kernel) (fun _ h9 => h9) dX14_ofPartNow_59 (fun x10 h => ?_)
    exact q_iret (pc := 62) C hr hlocks h dX14_ofPartNow_62 (by omega) (by omega)
  have h := h.2 c9
  by_cases c11 : l2 = 3
  · have h := h.1 c11
    refine q_tableIn (pc := 13) C 63 dX14_ofPartNow_13 (by rw [c11]; decide) (by rw [c11]; decide) (by rw [c11]; rfl) (by decide) ?_
    refine q_aload_n (pc := 63) C 3 0 dX14_ofPartNow_63 rfl rfl ?_
    refine q_gIN (pc := 64) C h (host := "LullabygateModel") (T := TX12) rfl (by decide) (by decide +kernel) 1523 (by decide +kernel) (fun _ h9 => h9) dX14_ofPartNow_64 (fun x12 h => ?_)
    exact q_iret (pc := 67) C hr hlocks h dX14_ofPartNow_67 (by omega) (by omega)
  have h := h.2 c11
  by_cases c13 : l2 = 4
  · have h := h.1 c13
    refine q_tableIn (pc := 13) C 68 dX14_ofPartNow_13 (by rw [c13]; decide) (by rw [c13]; decide) (by rw [c13]; rfl) (by decide) ?_
    refine q_aload_n (pc := 68) C 0 1 dX14_ofPartNow_68 rfl rfl ?_
    refine q_aload_n (pc := 69) C 3 0 dX14_ofPartNow_69 rfl rfl ?_
    obtain ⟨b16, fs9, hb16, hm9, h⟩ := h
    refine q_ci (pc := 70) (q_rV C (st := []) (b := b16) (kX14_landOf l G b0 h) (cwV 1 C.2.2.2.2.1 gX14_ofPartNow_X14_landOf rfl rfl rfl (by decide +kernel) ⟨Nat.le_of_ble_eq_true rfl, Nat.le_of_ble_eq_true rfl⟩) hm9 rfl rfl rfl (by first | exact Nat.le_of_ble_eq_true rfl | (simp [q_cat, q_catI, q_catJ, q_catR, q_catN]; done)) (by rw [hb16]; first | done | rfl) dX14_ofPartNow_70 ⟨(by first | omega | (dsimp only; omega)), (by first | omega | (dsimp only; omega))⟩) (fun x14 M15 h => ?_)
    exact q_iret (pc := 73) C hr hlocks h dX14_ofPartNow_73 (by omega) (by omega)
  have h := h.2 c13
  refine q_tableOut (pc := 13) C 74 dX14_ofPartNow_13 ?_ (by decide) ?_
  · have hsw := m_sw (x := l2) 0 5 (fun j hj => by
      rcases (show j = 0 ∨ j = 1 ∨ j = 2 ∨ j = 3 ∨ j = 4 by omega) with rfl | rfl | rfl | rfl | rfl
      · exact c5
      · exact c7
      · exact c9
      · exact c11
      · exact c13
      ) (by decide)
    rcases hsw with q9 | q9
    · exact Or.inl (by simpa using q9)
    · exact Or.inr (by simp at q9 ⊢; omega)
  refine q_aload_n (pc := 74) C 3 0 dX14_ofPartNow_74 rfl rfl ?_
  refine q_gIN (pc := 75) C h (host := "LullabygateModel") (T := TX12) rfl (by decide) (by decide +kernel) 1524 (by decide +kernel) (fun _ h9 => h9) dX14_ofPartNow_75 (fun x17 h => ?_)
  refine q_bipush (pc := 78) C 100 dX14_ofPartNow_78 (by decide) ?_
  refine q_icmp_ge (pc := 80) C 90 dX14_ofPartNow_80 (by decide) (fun c18 => ?_) (fun c18 => ?_)
  · have h := h.1 c18
    refine q_iconst (pc := 90) C (-1) dX14_ofPartNow_90 (by decide) ?_
    exact q_iret (pc := 91) C hr hlocks h dX14_ofPartNow_91 (by omega) (by omega)
  · have h := h.2 c18
    refine q_aload_n (pc := 83) C 3 0 dX14_ofPartNow_83 rfl rfl ?_
    refine q_gIN (pc := 84) C h (host := "LullabygateModel") (T := TX12) rfl (by decide) (by decide +kernel) 1524 (by decide +kernel) (fun _ h9 => h9) dX14_ofPartNow_84 (fun x19 h => ?_)
    refine q_goto (pc := 87) C 91 dX14_ofPartNow_87 (by decide) ?_
    exact q_iret (pc := 91) C hr hlocks h dX14_ofPartNow_91 (by omega) (by omega)
set_option maxRecDepth 100000 in
set_option maxHeartbeats 4000000 in
theorem kX14_ofPartNow (l : Launch) (G : mG) (b0 : Nat) {b : Nat} {l1 : Int32} {l2 : Int32} {M : mM} {κ : Int32 → mM → Prop} (h : wX14_ofPartNow κ (some b) l1 l2 M) : Met l yX14_ofPartNow wsX14_ofPartNow ({ frames := 4, cells := 0, slots := 0, locals := 85 } : Room) (va_Pc [.ref b, .int l1, .int l2] (m_Pre G b0 M)) (va_Qi κ (m_B G b0) (fun q => b0 ≤ q)) 0 0 (fun q => b0 ≤ q) := by
  refine m_met (cc := cX14_ofPartNow) (maxL := 4) (ret := (some .int)) (lv := [(0, va_rf (some b)), (1, .int l1), (2, .int l2)]) RX14 rfl (by decide +kernel) rfl (by first | exact Nat.le_of_ble_eq_true rfl | simp [lg_sl, q_cat, q_catI, q_catJ, q_catR, q_catN]) (by first | rfl | (simp [lv_args, q_cat, q_catI, q_catJ, q_catR, q_catN]; done) | (simp [lv_args, q_cat, q_catI, q_catJ, q_catR, q_catN]; rfl)) ?_
  intro p e s m args below meth c C hr hlocks hni
  exact tX14_ofPartNow C hr hlocks h
/-! X14_ofPart -/
set_option maxRecDepth 100000 in
set_option maxHeartbeats 4000000 in
theorem tX14_ofPart {p : Program} {l : Launch} {e : Env} {s : State} {m : MethodId} {args : Array Value} {below : List Frame} {meth : Method} {c : Code} {G : mG} {b0 : Nat} (C : m_C p s m args c cX14_ofPart 3 RX14 wsX14_ofPart G b0) (hr : meth.sig.returnType = (some .int)) (hlocks : meth.locks = false) {κ : Int32 → mM → Prop} {l0 : Option Nat} {l1 : Int32} {l2 : Int32} {M : mM} (h : wX14_ofPart κ l0 l1 l2 M) : m_W p l e ({ frames := 5, cells := 0, slots := 0, locals := 108 } : Room) s m args below meth c G b0 (MQ below (va_Qi κ (m_B G b0) (fun q => b0 ≤ q)) args s 0 0 (fun q => b0 ≤ q)) 3 M 0 0 0 [(0, va_rf l0), (1, .int l1), (2, .int l2)] [] := by
  unfold wX14_ofPart at h
  refine q_aload_n (pc := 0) C 0 0 dX14_ofPart_0 rfl rfl ?_
  refine q_iconst (pc := 1) C 0 dX14_ofPart_1 (by decide) ?_
  refine q_p (pc := 2) C h .int (T := TX14) tyX14 tyX14_ok nmX14 rfl (by decide +kernel) rfl rfl rfl (by decide) (wk_u rfl wm_X14_ofPart uq_X14 (by decide +kernel)) (by decide +kernel) (fun _ h9 => h9) rfl dX14_ofPart_2 (fun M1 h => ?_)
  refine q_aload_n (pc := 5) C 0 0 dX14_ofPart_5 rfl rfl ?_
  refine q_iload_n (pc := 6) C 1 1 dX14_ofPart_6 rfl rfl ?_
  obtain ⟨b4, fs9, hb4, hm9, h⟩ := h
  refine q_ci (pc := 7) (q_rV C (st := []) (b := b4) (kX14_isPart l G b0 h) (cwV 1 C.2.2.2.2.1 gX14_ofPart_X14_isPart rfl rfl rfl (by decide +kernel) ⟨Nat.le_of_ble_eq_true rfl, Nat.le_of_ble_eq_true rfl⟩) hm9 rfl rfl rfl (by first | exact Nat.le_of_ble_eq_true rfl | (simp [q_cat, q_catI, q_catJ, q_catR, q_catN]; done)) (by rw [hb4]; first | done | rfl) dX14_ofPart_7 ⟨(by first | omega | (dsimp only; omega)), (by first | omega | (dsimp only; omega))⟩) (fun x2 M3 h => ?_)
  refine q_if_ne (pc := 10) C 19 dX14_ofPart_10 (by decide) (fun c5 => ?_) (fun c5 => ?_)
  · have h := h.2 c5
    refine q_iload_n (pc := 19) C 2 2 dX14_ofPart_19 rfl rfl ?_
    refine q_iconst (pc := 20) C 0 dX14_ofPart_20 (by decide) ?_
    refine q_iconst (pc := 21) C 5 dX14_ofPart_21 (by decide) ?_
    refine q_ci (pc := 22) (q_rS C (st := []) (kX14_is l G b0 h) (va_cwS 3 C.2.2.2.2.1 gX14_ofPart_X14_is rfl rfl rfl (by decide +kernel) ⟨Nat.le_of_ble_eq_true rfl, Nat.le_of_ble_eq_true rfl⟩) rfl (by first | exact Nat.le_of_ble_eq_true rfl | (simp [q_cat, q_catI, q_catJ, q_catR, q_catN]; done)) rfl dX14_ofPart_22 ⟨(by first | omega | (dsimp only; omega)), (by first | omega | (dsimp only; omega))⟩) (fun x6 M7 h => ?_)
    refine q_if_eq (pc := 25) C 37 dX14_ofPart_25 (by decide) (fun c8 => ?_) (fun c8 => ?_)
    · have h := h.1 c8
      refine q_aload_n (pc := 37) C 0 0 dX14_ofPart_37 rfl rfl ?_
      refine q_iconst (pc := 38) C 2 dX14_ofPart_38 (by decide) ?_
      obtain ⟨b11, fs9, hb11, hm9, h⟩ := h
      refine q_ci (pc := 39) (q_rV C (st := []) (b := b11) (kX14_refuse l G b0 h) (cwV 1 C.2.2.2.2.1 gX14_ofPart_X14_refuse rfl rfl rfl (by decide +kernel) ⟨Nat.le_of_ble_eq_true rfl, Nat.le_of_ble_eq_true rfl⟩) hm9 rfl rfl rfl (by first | exact Nat.le_of_ble_eq_true rfl | (simp [q_cat, q_catI, q_catJ, q_catR, q_catN]; done)) (by rw [hb11]; first | done | rfl) dX14_ofPart_39 ⟨(by first | omega | (dsimp only; omega)), (by first | omega | (dsimp only; omega))⟩) (fun x9 M10 h => ?_)
      exact q_iret (pc := 42) C hr hlocks h dX14_ofPart_42 (by omega) (by omega)
    · have h := h.2 c8
      refine q_aload_n (pc := 28) C 0 0 dX14_ofPart_28 rfl rfl ?_
      refine q_iload_n (pc := 29) C 1 1 dX14_ofPart_29 rfl rfl ?_
      refine q_iload_n (pc := 30) C 2 2 dX14_ofPart_30 rfl rfl ?_
      obtain ⟨b14, fs9, hb14, hm9, h⟩ := h
      refine q_ci (pc := 31) (q_rV C (st := []) (b := b14) (kX14_ofPartNow l G b0 h) (cwV 2 C.2.2.2.2.1 gX14_ofPart_X14_ofPartNow rfl rfl rfl (by decide +kernel) ⟨Nat.le_of_ble_eq_true rfl, Nat.le_of_ble_eq_true rfl⟩) hm9 rfl rfl rfl (by first | exact Nat.le_of_ble_eq_true rfl | (simp [q_cat, q_catI, q_catJ, q_catR, q_catN]; done)) (by rw [hb14]; first | done | rfl) dX14_ofPart_31 ⟨(by first | omega | (dsimp only; omega)), (by first | omega | (dsimp only; omega))⟩) (fun x12 M13 h => ?_)
      refine q_goto (pc := 34) C 42 dX14_ofPart_34 (by decide) ?_
      exact q_iret (pc := 42) C hr hlocks h dX14_ofPart_42 (by omega) (by omega)
  · have h := h.1 c5
    refine q_aload_n (pc := 13) C 0 0 dX14_ofPart_13 rfl rfl ?_
    refine q_iconst (pc := 14) C 1 dX14_ofPart_14 (by decide) ?_
    obtain ⟨b17, fs9, hb17, hm9, h⟩ := h
    refine q_ci (pc := 15) (q_rV C (st := []) (b := b17) (kX14_refuse l G b0 h) (cwV 1 C.2.2.2.2.1 gX14_ofPart_X14_refuse rfl rfl rfl (by decide +kernel) ⟨Nat.le_of_ble_eq_true rfl, Nat.le_of_ble_eq_true rfl⟩) hm9 rfl rfl rfl (by first | exact Nat.le_of_ble_eq_true rfl | (simp [q_cat, q_catI, q_catJ, q_catR, q_catN]; done)) (by rw [hb17]; first | done | rfl) dX14_ofPart_15 ⟨(by first | omega | (dsimp only; omega)), (by first | omega | (dsimp only; omega))⟩) (fun x15 M16 h => ?_)
    exact q_iret (pc := 18) C hr hlocks h dX14_ofPart_18 (by omega) (by omega)
set_option maxRecDepth 100000 in
set_option maxHeartbeats 4000000 in
theorem kX14_ofPart (l : Launch) (G : mG) (b0 : Nat) {b : Nat} {l1 : Int32} {l2 : Int32} {M : mM} {κ : Int32 → mM → Prop} (h : wX14_ofPart κ (some b) l1 l2 M) : Met l yX14_ofPart wsX14_ofPart ({ frames := 5, cells := 0, slots := 0, locals := 108 } : Room) (va_Pc [.ref b, .int l1, .int l2] (m_Pre G b0 M)) (va_Qi κ (m_B G b0) (fun q => b0 ≤ q)) 0 0 (fun q => b0 ≤ q) := by
  refine m_met (cc := cX14_ofPart) (maxL := 3) (ret := (some .int)) (lv := [(0, va_rf (some b)), (1, .int l1), (2, .int l2)]) RX14 rfl (by decide +kernel) rfl (by first | exact Nat.le_of_ble_eq_true rfl | simp [lg_sl, q_cat, q_catI, q_catJ, q_catR, q_catN]) (by first | rfl | (simp [lv_args, q_cat, q_catI, q_catJ, q_catR, q_catN]; done) | (simp [lv_args, q_cat, q_catI, q_catJ, q_catR, q_catN]; rfl)) ?_
  intro p e s m args below meth c C hr hlocks hni
  exact tX14_ofPart C hr hlocks h
/-! X14_isGood -/
set_option maxRecDepth 100000 in
set_option maxHeartbeats 4000000 in
theorem tX14_isGood_22 {p : Program} {l : Launch} {e : Env} {s : State} {m : MethodId} {args : Array Value} {below : List Frame} {meth : Method} {c : Code} {G : mG} {b0 : Nat} (C : m_C p s m args c cX14_isGood 3 RX14 wsX14_isGood G b0) (hr : meth.sig.returnType = (some .boolean)) (hlocks : meth.locks = false) {κ : Int32 → mM → Prop} {l0 : Option Nat} {l1 : Int32} {l2 : Int32} {s0 : Int32} {s1 : Option Nat} {M : mM} (h : wX14_isGood_22 κ l0 l1 l2 s0 s1 M) : m_W p l e ({ frames := 4, cells := 0, slots := 0, locals := 89 } : Room) s m args below meth c G b0 (MQ below (va_Qi κ (m_B G b0) (fun q => b0 ≤ q)) args s 0 0 (fun q => b0 ≤ q)) 3 M 0 0 22 [(0, va_rf l0), (1, .int l1), (2, .int l2)] [.int s0, va_rf s1] := by
  unfold wX14_isGood_22 at h
  refine q_p (pc := 22) C h .int (T := TX14) tyX14 tyX14_ok nmX14 rfl (by decide +kernel) rfl rfl rfl (by decide) (wk_u rfl wm_X14_isGood uq_X14 (by decide +kernel)) (by decide +kernel) (fun _ h9 => h9) rfl dX14_isGood_22 (fun M1 h => ?_)
  refine q_aload_n (pc := 25) C 0 0 dX14_isGood_25 rfl rfl ?_
  refine q_gI (pc := 26) C h (T := TX14) rfl (by decide) (wk_u rfl wm_X14_isGood uq_X14 (by decide +kernel)) (by decide +kernel) (fun _ h9 => h9) dX14_isGood_26 (fun x2 h => ?_)
  refine q_if_ne (pc := 29) C 45 dX14_isGood_29 (by decide) (fun c3 => ?_) (fun c3 => ?_)
  · have h := h.2 c3
    refine q_iconst (pc := 45) C 0 dX14_isGood_45 (by decide) ?_
    exact q_zret (pc := 46) C hr hlocks ⟨(by decide), h⟩ dX14_isGood_46 (by omega) (by omega)
  · have h := h.1 c3
    refine q_aload_n (pc := 32) C 0 0 dX14_isGood_32 rfl rfl ?_
    refine q_iload_n (pc := 33) C 1 1 dX14_isGood_33 rfl rfl ?_
    refine q_iload_n (pc := 34) C 2 2 dX14_isGood_34 rfl rfl ?_
    obtain ⟨b6, fs9, hb6, hm9, h⟩ := h
    refine q_ci (pc := 35) (q_rV C (st := []) (b := b6) (kX14_isGoodNow l G b0 h) (cwV 2 C.2.2.2.2.1 gX14_isGood_X14_isGoodNow rfl rfl rfl (by decide +kernel) ⟨Nat.le_of_ble_eq_true rfl, Nat.le_of_ble_eq_true rfl⟩) hm9 rfl rfl rfl (by first | exact Nat.le_of_ble_eq_true rfl | (simp [q_cat, q_catI, q_catJ, q_catR, q_catN]; done)) (by rw [hb6]; first | done | rfl) dX14_isGood_35 ⟨(by first | omega | (dsimp only; omega)), (by first | omega | (dsimp only; omega))⟩) (fun x4 M5 h => ?_)
    refine q_if_eq (pc := 38) C 45 dX14_isGood_38 (by decide) (fun c7 => ?_) (fun c7 => ?_)
    · have h := h.1 c7
      refine q_iconst (pc := 45) C 0 dX14_isGood_45 (by decide) ?_
      exact q_zret (pc := 46) C hr hlocks ⟨(by decide), h⟩ dX14_isGood_46 (by omega) (by omega)
    · have h := h.2 c7
      refine q_iconst (pc := 41) C 1 dX14_isGood_41 (by decide) ?_
      refine q_goto (pc := 42) C 46 dX14_isGood_42 (by decide) ?_
      exact q_zret (pc := 46) C hr hlocks ⟨(by decide), h⟩ dX14_isGood_46 (by omega) (by omega)
set_option maxRecDepth 100000 in
set_option maxHeartbeats 4000000 in
theorem tX14_isGood_21 {p : Program} {l : Launch} {e : Env} {s : State} {m : MethodId} {args : Array Value} {below : List Frame} {meth : Method} {c : Code} {G : mG} {b0 : Nat} (C : m_C p s m args c cX14_isGood 3 RX14 wsX14_isGood G b0) (hr : meth.sig.returnType = (some .boolean)) (hlocks : meth.locks = false) {κ : Int32 → mM → Prop} {l0 : Option Nat} {l1 : Int32} {l2 : Int32} {s0 : Option Nat} {M : mM} (h : wX14_isGood_21 κ l0 l1 l2 s0 M) : m_W p l e ({ frames := 4, cells := 0, slots := 0, locals := 89 } : Room) s m args below meth c G b0 (MQ below (va_Qi κ (m_B G b0) (fun q => b0 ≤ q)) args s 0 0 (fun q => b0 ≤ q)) 3 M 0 0 21 [(0, va_rf l0), (1, .int l1), (2, .int l2)] [va_rf s0] := by
  unfold wX14_isGood_21 at h
  refine q_iconst (pc := 21) C 1 dX14_isGood_21 (by decide) ?_
  refine q_widen (k2 := 0) (n2 := 0) (by omega) (by omega) ?_
  refine q_lv [0, 1, 2] rfl ?_
  exact tX14_isGood_22 C hr hlocks h
set_option maxRecDepth 100000 in
set_option maxHeartbeats 4000000 in
theorem tX14_isGood {p : Program} {l : Launch} {e : Env} {s : State} {m : MethodId} {args : Array Value} {below : List Frame} {meth : Method} {c : Code} {G : mG} {b0 : Nat} (C : m_C p s m args c cX14_isGood 3 RX14 wsX14_isGood G b0) (hr : meth.sig.returnType = (some .boolean)) (hlocks : meth.locks = false) {κ : Int32 → mM → Prop} {l0 : Option Nat} {l1 : Int32} {l2 : Int32} {M : mM} (h : wX14_isGood κ l0 l1 l2 M) : m_W p l e ({ frames := 4, cells := 0, slots := 0, locals := 89 } : Room) s m args below meth c G b0 (MQ below (va_Qi κ (m_B G b0) (fun q => b0 ≤ q)) args s 0 0 (fun q => b0 ≤ q)) 3 M 0 0 0 [(0, va_rf l0), (1, .int l1), (2, .int l2)] [] := by
  unfold wX14_isGood at h
  refine q_aload_n (pc := 0) C 0 0 dX14_isGood_0 rfl rfl ?_
  refine q_aload_n (pc := 1) C 0 0 dX14_isGood_1 rfl rfl ?_
  refine q_iload_n (pc := 2) C 1 1 dX14_isGood_2 rfl rfl ?_
  obtain ⟨b3, fs9, hb3, hm9, h⟩ := h
  refine q_ci (pc := 3) (q_rV C (st := [va_rf l0]) (b := b3) (kX14_isSleeper l G b0 h) (cwV 1 C.2.2.2.2.1 gX14_isGood_X14_isSleeper rfl rfl rfl (by decide +kernel) ⟨Nat.le_of_ble_eq_true rfl, Nat.le_of_ble_eq_true rfl⟩) hm9 rfl rfl rfl (by first | exact Nat.le_of_ble_eq_true rfl | (simp [q_cat, q_catI, q_catJ, q_catR, q_catN]; done)) (by rw [hb3]; first | done | rfl) dX14_isGood_3 ⟨(by first | omega | (dsimp only; omega)), (by first | omega | (dsimp only; omega))⟩) (fun x1 M2 h => ?_)
  refine q_if_eq (pc := 6) C 21 dX14_isGood_6 (by decide) (fun c4 => ?_) (fun c4 => ?_)
  · have h := h.1 c4
    refine q_widen (k2 := 0) (n2 := 0) (by omega) (by omega) ?_
    refine q_lv [0, 1, 2] rfl ?_
    exact tX14_isGood_21 C hr hlocks h
  · have h := h.2 c4
    refine q_aload_n (pc := 9) C 0 0 dX14_isGood_9 rfl rfl ?_
    refine q_iload_n (pc := 10) C 2 2 dX14_isGood_10 rfl rfl ?_
    obtain ⟨b7, fs9, hb7, hm9, h⟩ := h
    refine q_ci (pc := 11) (q_rV C (st := [va_rf l0]) (b := b7) (kX14_isGate l G b0 h) (cwV 1 C.2.2.2.2.1 gX14_isGood_X14_isGate rfl rfl rfl (by decide +kernel) ⟨Nat.le_of_ble_eq_true rfl, Nat.le_of_ble_eq_true rfl⟩) hm9 rfl rfl rfl (by first | exact Nat.le_of_ble_eq_true rfl | (simp [q_cat, q_catI, q_catJ, q_catR, q_catN]; done)) (by rw [hb7]; first | done | rfl) dX14_isGood_11 ⟨(by first | omega | (dsimp only; omega)), (by first | omega | (dsimp only; omega))⟩) (fun x5 M6 h => ?_)
    refine q_if_eq (pc := 14) C 21 dX14_isGood_14 (by decide) (fun c8 => ?_) (fun c8 => ?_)
    · have h := h.1 c8
      refine q_widen (k2 := 0) (n2 := 0) (by omega) (by omega) ?_
      refine q_lv [0, 1, 2] rfl ?_
      exact tX14_isGood_21 C hr hlocks h
    · have h := h.2 c8
      refine q_iconst (pc := 17) C 0 dX14_isGood_17 (by decide) ?_
      refine q_goto (pc := 18) C 22 dX14_isGood_18 (by decide) ?_
      refine q_widen (k2 := 0) (n2 := 0) (by omega) (by omega) ?_
      refine q_lv [0, 1, 2] rfl ?_
      exact tX14_isGood_22 C hr hlocks h
set_option maxRecDepth 100000 in
set_option maxHeartbeats 4000000 in
theorem kX14_isGood (l : Launch) (G : mG) (b0 : Nat) {b : Nat} {l1 : Int32} {l2 : Int32} {M : mM} {κ : Int32 → mM → Prop} (h : wX14_isGood κ (some b) l1 l2 M) : Met l yX14_isGood wsX14_isGood ({ frames := 4, cells := 0, slots := 0, locals := 89 } : Room) (va_Pc [.ref b, .int l1, .int l2] (m_Pre G b0 M)) (va_Qi κ (m_B G b0) (fun q => b0 ≤ q)) 0 0 (fun q => b0 ≤ q) := by
  refine m_met (cc := cX14_isGood) (maxL := 3) (ret := (some .boolean)) (lv := [(0, va_rf (some b)), (1, .int l1), (2, .int l2)]) RX14 rfl (by decide +kernel) rfl (by first | exact Nat.le_of_ble_eq_true rfl | simp [lg_sl, q_cat, q_catI, q_catJ, q_catR, q_catN]) (by first | rfl | (simp [lv_args, q_cat, q_catI, q_catJ, q_catR, q_catN]; done) | (simp [lv_args, q_cat, q_catI, q_catJ, q_catR, q_catN]; rfl)) ?_
  intro p e s m args below meth c C hr hlocks hni
  exact tX14_isGood C hr hlocks h
/-! X14_nightNow -/
set_option maxRecDepth 100000 in
set_option maxHeartbeats 4000000 in
theorem tX14_nightNow_149 {p : Program} {l : Launch} {e : Env} {s : State} {m : MethodId} {args : Array Value} {below : List Frame} {meth : Method} {c : Code} {G : mG} {b0 : Nat} (C : m_C p s m args c cX14_nightNow 7 RX14 wsX14_nightNow G b0) (hr : meth.sig.returnType = (some .int)) (hlocks : meth.locks = false) {κ : Int32 → mM → Prop} {R114 : Int32 → Option Nat → mM → Prop} (hR114 : ∀ (l2 : Int32) (l3 : Option Nat) (M : mM), R114 l2 l3 M → m_W p l e ({ frames := 3, cells := 1, slots := 4, locals := 61 } : Room) s m args below meth c G b0 (MQ below (va_Qi κ (m_B G b0) (fun q => b0 ≤ q)) args s 1 4 (fun q => b0 ≤ q)) 7 M 1 4 114 [(2, .int l2), (3, va_rf l3)] []) {l3 : Option Nat} {s0 : Int32} {s1 : Int32} {M : mM} (h : wX14_nightNow_149 κ R114 l3 s0 s1 M) : m_W p l e ({ frames := 3, cells := 1, slots := 4, locals := 61 } : Room) s m args below meth c G b0 (MQ below (va_Qi κ (m_B G b0) (fun q => b0 ≤ q)) args s 1 4 (fun q => b0 ≤ q)) 7 M 1 4 149 [(3, va_rf l3)] [.int s0, .int s1] := by
  unfold wX14_nightNow_149 at h
  refine q_iadd (pc := 149) C dX14_nightNow_149 ?_
  refine q_istore_n (pc := 150) C 2 [(2, .int (s1 + s0)), (3, va_rf l3)] dX14_nightNow_150 rfl (by decide) (by first | rfl | simp [q_cat, q_catI, q_catJ, q_catR, q_catN]) ?_
  refine q_goto (pc := 151) C 114 dX14_nightNow_151 (by decide) ?_
  refine q_widen (k2 := 1) (n2 := 4) (by omega) (by omega) ?_
  refine q_lv [0, 1] rfl ?_
  exact hR114 _ _ _ h
set_option maxRecDepth 100000 in
set_option maxHeartbeats 4000000 in
theorem tX14_nightNow_114 {p : Program} {l : Launch} {e : Env} {s : State} {m : MethodId} {args : Array Value} {below : List Frame} {meth : Method} {c : Code} {G : mG} {b0 : Nat} (C : m_C p s m args c cX14_nightNow 7 RX14 wsX14_nightNow G b0) (hr : meth.sig.returnType = (some .int)) (hlocks : meth.locks = false) {κ : Int32 → mM → Prop} : ∀ (f : Nat) (l2 : Int32) (l3 : Option Nat) (M : mM), wX14_nightNow_114 κ f l2 l3 M → m_W p l e ({ frames := 3, cells := 1, slots := 4, locals := 61 } : Room) s m args below meth c G b0 (MQ below (va_Qi κ (m_B G b0) (fun q => b0 ≤ q)) args s 1 4 (fun q => b0 ≤ q)) 7 M 1 4 114 [(2, .int l2), (3, va_rf l3)] [] := by
  intro f
  induction f with
  | zero =>
    intro l2 l3 M h
    exact absurd h (by simp [wX14_nightNow_114])
  | succ f ih =>
    intro l2 l3 M h
    rw [wX14_nightNow_114] at h
    refine q_aload_n (pc := 114) C 3 1 dX14_nightNow_114 rfl rfl ?_
    obtain ⟨b1, fs9, hb1, hm9, h⟩ := h
    refine q_cFi (pc := 115) C (st := []) (b := b1) (kJx35411_hasNext_aae02 l G b0 h) (va_cwF 0 C.2.2.2.2.1 gX14_nightNow_Jx35411_hasNext_aae02_f268Jx35411 rfl rfl rfl C.2.2.2.2.2.2.1.2.2.2.2.2.2.2.1 (by decide +kernel) ⟨Nat.le_of_ble_eq_true rfl, Nat.le_of_ble_eq_true rfl⟩) hm9 rfl rfl rfl (by first | exact Nat.le_of_ble_eq_true rfl | (simp [q_cat, q_catI, q_catJ, q_catR, q_catN]; done)) (by rw [hb1]; first | done | rfl) dX14_nightNow_115 ⟨(by first | omega | (dsimp only; omega)), (by first | omega | (dsimp only; omega))⟩ (fun x2 M3 h => ?_)
    refine q_if_eq (pc := 120) C 154 dX14_nightNow_120 (by decide) (fun c4 => ?_) (fun c4 => ?_)
    · have h := h.1 c4
      refine q_iload_n (pc := 154) C 2 0 dX14_nightNow_154 rfl rfl ?_
      exact q_iret (pc := 155) C hr hlocks h dX14_nightNow_155 (by omega) (by omega)
    · have h := h.2 c4
      refine q_aload_n (pc := 123) C 3 1 dX14_nightNow_123 rfl rfl ?_
      obtain ⟨b5, fs9, hb5, hm9, h⟩ := h
      refine q_cFq (pc := 124) C (st := []) (b := b5) (kJx35411_next_0502b l G b0 h) (va_cwF 0 C.2.2.2.2.1 gX14_nightNow_Jx35411_next_0502b_f273Jx35411 rfl rfl rfl C.2.2.2.2.2.2.1.2.2.2.2.2.2.2.2.1 (by decide +kernel) ⟨Nat.le_of_ble_eq_true rfl, Nat.le_of_ble_eq_true rfl⟩) hm9 rfl rfl rfl (by first | exact Nat.le_of_ble_eq_true rfl | (simp [q_cat, q_catI, q_catJ, q_catR, q_catN]; done)) (by rw [hb5]; first | done | rfl) dX14_nightNow_124 ⟨(by first | omega | (dsimp only; omega)), (by first | omega | (dsimp only; omega))⟩ (fun x6 M7 h => ?_)
      refine q_cast (pc := 129) C h rfl rfl (by decide +kernel) dX14_nightNow_129 (fun h => ?_)
      refine q_astore (pc := 132) C 4 [(4, va_rf x6), (2, .int l2), (3, va_rf l3)] dX14_nightNow_132 (by decide) (by first | rfl | simp [q_cat, q_catI, q_catJ, q_catR, q_catN]) ?_
      refine q_iload_n (pc := 134) C 2 1 dX14_nightNow_134 rfl rfl ?_
      refine q_aload (pc := 135) C 4 0 dX14_nightNow_135 rfl ?_
      refine q_gIN (pc := 137) C h (host := "LullabygateModel") (T := TX13) rfl (by decide) (by decide +kernel) 1477 (by decide +kernel) (fun _ h9 => h9) dX14_nightNow_137 (fun x8 h => ?_)
      refine q_iconst (pc := 140) C 2 dX14_nightNow_140 (by decide) ?_
      refine q_icmp_ne (pc := 141) C 148 dX14_nightNow_141 (by decide) (fun c9 => ?_) (fun c9 => ?_)
      · have h := h.2 c9
        refine q_iconst (pc := 148) C 0 dX14_nightNow_148 (by decide) ?_
        refine q_widen (k2 := 1) (n2 := 4) (by omega) (by omega) ?_
        refine q_lv [2] rfl ?_
        exact tX14_nightNow_149 C hr hlocks ih h
      · have h := h.1 c9
        refine q_iconst (pc := 144) C 1 dX14_nightNow_144 (by decide) ?_
        refine q_goto (pc := 145) C 149 dX14_nightNow_145 (by decide) ?_
        refine q_widen (k2 := 1) (n2 := 4) (by omega) (by omega) ?_
        refine q_lv [2] rfl ?_
        exact tX14_nightNow_149 C hr hlocks ih h
set_option maxRecDepth 100000 in
set_option maxHeartbeats 4000000 in
theorem tX14_nightNow_209 {p : Program} {l : Launch} {e : Env} {s : State} {m : MethodId} {args : Array Value} {below : List Frame} {meth : Method} {c : Code} {G : mG} {b0 : Nat} (C : m_C p s m args c cX14_nightNow 7 RX14 wsX14_nightNow G b0) (hr : meth.sig.returnType = (some .int)) (hlocks : meth.locks = false) {κ : Int32 → mM → Prop} {R172 : Int32 → Int32 → Option Nat → mM → Prop} (hR172 : ∀ (l1 : Int32) (l2 : Int32) (l3 : Option Nat) (M : mM), R172 l1 l2 l3 M → m_W p l e ({ frames := 3, cells := 1, slots := 4, locals := 61 } : Room) s m args below meth c G b0 (MQ below (va_Qi κ (m_B G b0) (fun q => b0 ≤ q)) args s 1 4 (fun q => b0 ≤ q)) 7 M 1 4 172 [(1, .int l1), (2, .int l2), (3, va_rf l3)] []) {l1 : Int32} {l3 : Option Nat} {s0 : Int32} {s1 : Int32} {M : mM} (h : wX14_nightNow_209 κ R172 l1 l3 s0 s1 M) : m_W p l e ({ frames := 3, cells := 1, slots := 4, locals := 61 } : Room) s m args below meth c G b0 (MQ below (va_Qi κ (m_B G b0) (fun q => b0 ≤ q)) args s 1 4 (fun q => b0 ≤ q)) 7 M 1 4 209 [(1, .int l1), (3, va_rf l3)] [.int s0, .int s1] := by
  unfold wX14_nightNow_209 at h
  refine q_iadd (pc := 209) C dX14_nightNow_209 ?_
  refine q_istore_n (pc := 210) C 2 [(2, .int (s1 + s0)), (1, .int l1), (3, va_rf l3)] dX14_nightNow_210 rfl (by decide) (by first | rfl | simp [q_cat, q_catI, q_catJ, q_catR, q_catN]) ?_
  refine q_goto (pc := 211) C 172 dX14_nightNow_211 (by decide) ?_
  refine q_widen (k2 := 1) (n2 := 4) (by omega) (by omega) ?_
  refine q_lv [1, 0, 2] rfl ?_
  exact hR172 _ _ _ _ h
set_option maxRecDepth 100000 in
set_option maxHeartbeats 4000000 in
theorem tX14_nightNow_172 {p : Program} {l : Launch} {e : Env} {s : State} {m : MethodId} {args : Array Value} {below : List Frame} {meth : Method} {c : Code} {G : mG} {b0 : Nat} (C : m_C p s m args c cX14_nightNow 7 RX14 wsX14_nightNow G b0) (hr : meth.sig.returnType = (some .int)) (hlocks : meth.locks = false) {κ : Int32 → mM → Prop} : ∀ (f : Nat) (l1 : Int32) (l2 : Int32) (l3 : Option Nat) (M : mM), wX14_nightNow_172 κ f l1 l2 l3 M → m_W p l e ({ frames := 3, cells := 1, slots := 4, locals := 61 } : Room) s m args below meth c G b0 (MQ below (va_Qi κ (m_B G b0) (fun q => b0 ≤ q)) args s 1 4 (fun q => b0 ≤ q)) 7 M 1 4 172 [(1, .int l1), (2, .int l2), (3, va_rf l3)] [] := by
  intro f
  induction f with
  | zero =>
    intro l1 l2 l3 M h
    exact absurd h (by simp [wX14_nightNow_172])
  | succ f ih =>
    intro l1 l2 l3 M h
    rw [wX14_nightNow_172] at h
    refine q_aload_n (pc := 172) C 3 2 dX14_nightNow_172 rfl rfl ?_
    obtain ⟨b1, fs9, hb1, hm9, h⟩ := h
    refine q_cFi (pc := 173) C (st := []) (b := b1) (kJx35411_hasNext_aae02 l G b0 h) (va_cwF 0 C.2.2.2.2.1 gX14_nightNow_Jx35411_hasNext_aae02_f268Jx35411 rfl rfl rfl C.2.2.2.2.2.2.1.2.2.2.2.2.2.2.1 (by decide +kernel) ⟨Nat.le_of_ble_eq_true rfl, Nat.le_of_ble_eq_true rfl⟩) hm9 rfl rfl rfl (by first | exact Nat.le_of_ble_eq_true rfl | (simp [q_cat, q_catI, q_catJ, q_catR, q_catN]; done)) (by rw [hb1]; first | done | rfl) dX14_nightNow_173 ⟨(by first | omega | (dsimp only; omega)), (by first | omega | (dsimp only; omega))⟩ (fun x2 M3 h => ?_)
    refine q_if_eq (pc := 178) C 214 dX14_nightNow_178 (by decide) (fun c4 => ?_) (fun c4 => ?_)
    · have h := h.1 c4
      refine q_iload_n (pc := 214) C 2 1 dX14_nightNow_214 rfl rfl ?_
      exact q_iret (pc := 215) C hr hlocks h dX14_nightNow_215 (by omega) (by omega)
    · have h := h.2 c4
      refine q_aload_n (pc := 181) C 3 2 dX14_nightNow_181 rfl rfl ?_
      obtain ⟨b5, fs9, hb5, hm9, h⟩ := h
      refine q_cFq (pc := 182) C (st := []) (b := b5) (kJx35411_next_0502b l G b0 h) (va_cwF 0 C.2.2.2.2.1 gX14_nightNow_Jx35411_next_0502b_f273Jx35411 rfl rfl rfl C.2.2.2.2.2.2.1.2.2.2.2.2.2.2.2.1 (by decide +kernel) ⟨Nat.le_of_ble_eq_true rfl, Nat.le_of_ble_eq_true rfl⟩) hm9 rfl rfl rfl (by first | exact Nat.le_of_ble_eq_true rfl | (simp [q_cat, q_catI, q_catJ, q_catR, q_catN]; done)) (by rw [hb5]; first | done | rfl) dX14_nightNow_182 ⟨(by first | omega | (dsimp only; omega)), (by first | omega | (dsimp only; omega))⟩ (fun x6 M7 h => ?_)
      refine q_cast (pc := 187) C h rfl rfl (by decide +kernel) dX14_nightNow_187 (fun h => ?_)
      refine q_astore (pc := 190) C 4 [(4, va_rf x6), (1, .int l1), (2, .int l2), (3, va_rf l3)] dX14_nightNow_190 (by decide) (by first | rfl | simp [q_cat, q_catI, q_catJ, q_catR, q_catN]) ?_
      refine q_iload_n (pc := 192) C 2 2 dX14_nightNow_192 rfl rfl ?_
      refine q_aload (pc := 193) C 4 0 dX14_nightNow_193 rfl ?_
      refine q_gIN (pc := 195) C h (host := "LullabygateModel") (T := TX12) rfl (by decide) (by decide +kernel) 1523 (by decide +kernel) (fun _ h9 => h9) dX14_nightNow_195 (fun x8 h => ?_)
      refine q_iload_n (pc := 198) C 1 1 dX14_nightNow_198 rfl rfl ?_
      refine q_iconst (pc := 199) C 5 dX14_nightNow_199 (by decide) ?_
      refine q_isub (pc := 200) C dX14_nightNow_200 ?_
      refine q_icmp_ne (pc := 201) C 208 dX14_nightNow_201 (by decide) (fun c9 => ?_) (fun c9 => ?_)
      · have h := h.2 c9
        refine q_iconst (pc := 208) C 0 dX14_nightNow_208 (by decide) ?_
        refine q_widen (k2 := 1) (n2 := 4) (by omega) (by omega) ?_
        refine q_lv [1, 3] rfl ?_
        exact tX14_nightNow_209 C hr hlocks ih h
      · have h := h.1 c9
        refine q_iconst (pc := 204) C 1 dX14_nightNow_204 (by decide) ?_
        refine q_goto (pc := 205) C 209 dX14_nightNow_205 (by decide) ?_
        refine q_widen (k2 := 1) (n2 := 4) (by omega) (by omega) ?_
        refine q_lv [1, 3] rfl ?_
        exact tX14_nightNow_209 C hr hlocks ih h
set_option maxRecDepth 100000 in
set_option maxHeartbeats 4000000 in
theorem tX14_nightNow_261 {p : Program} {l : Launch} {e : Env} {s : State} {m : MethodId} {args : Array Value} {below : List Frame} {meth : Method} {c : Code} {G : mG} {b0 : Nat} (C : m_C p s m args c cX14_nightNow 7 RX14 wsX14_nightNow G b0) (hr : meth.sig.returnType = (some .int)) (hlocks : meth.locks = false) {κ : Int32 → mM → Prop} {R224 : Int32 → Option Nat → mM → Prop} (hR224 : ∀ (l2 : Int32) (l3 : Option Nat) (M : mM), R224 l2 l3 M → m_W p l e ({ frames := 3, cells := 1, slots := 4, locals := 61 } : Room) s m args below meth c G b0 (MQ below (va_Qi κ (m_B G b0) (fun q => b0 ≤ q)) args s 1 4 (fun q => b0 ≤ q)) 7 M 1 4 224 [(2, .int l2), (3, va_rf l3)] []) {l3 : Option Nat} {s0 : Int32} {s1 : Int32} {M : mM} (h : wX14_nightNow_261 κ R224 l3 s0 s1 M) : m_W p l e ({ frames := 3, cells := 1, slots := 4, locals := 61 } : Room) s m args below meth c G b0 (MQ below (va_Qi κ (m_B G b0) (fun q => b0 ≤ q)) args s 1 4 (fun q => b0 ≤ q)) 7 M 1 4 261 [(3, va_rf l3)] [.int s0, .int s1] := by
  unfold wX14_nightNow_261 at h
  refine q_iadd (pc := 261) C dX14_nightNow_261 ?_
  refine q_istore_n (pc := 262) C 2 [(2, .int (s1 + s0)), (3, va_rf l3)] dX14_nightNow_262 rfl (by decide) (by first | rfl | simp [q_cat, q_catI, q_catJ, q_catR, q_catN]) ?_
  refine q_goto (pc := 263) C 224 dX14_nightNow_263 (by decide) ?_
  refine q_widen (k2 := 1) (n2 := 4) (by omega) (by omega) ?_
  refine q_lv [0, 1] rfl ?_
  exact hR224 _ _ _ h
set_option maxRecDepth 100000 in
set_option maxHeartbeats 4000000 in
theorem tX14_nightNow_224 {p : Program} {l : Launch} {e : Env} {s : State} {m : MethodId} {args : Array Value} {below : List Frame} {meth : Method} {c : Code} {G : mG} {b0 : Nat} (C : m_C p s m args c cX14_nightNow 7 RX14 wsX14_nightNow G b0) (hr : meth.sig.returnType = (some .int)) (hlocks : meth.locks = false) {κ : Int32 → mM → Prop} : ∀ (f : Nat) (l2 : Int32) (l3 : Option Nat) (M : mM), wX14_nightNow_224 κ f l2 l3 M → m_W p l e ({ frames := 3, cells := 1, slots := 4, locals := 61 } : Room) s m args below meth c G b0 (MQ below (va_Qi κ (m_B G b0) (fun q => b0 ≤ q)) args s 1 4 (fun q => b0 ≤ q)) 7 M 1 4 224 [(2, .int l2), (3, va_rf l3)] [] := by
  intro f
  induction f with
  | zero =>
    intro l2 l3 M h
    exact absurd h (by simp [wX14_nightNow_224])
  | succ f ih =>
    intro l2 l3 M h
    rw [wX14_nightNow_224] at h
    refine q_aload_n (pc := 224) C 3 1 dX14_nightNow_224 rfl rfl ?_
    obtain ⟨b1, fs9, hb1, hm9, h⟩ := h
    refine q_cFi (pc := 225) C (st := []) (b := b1) (kJx35411_hasNext_aae02 l G b0 h) (va_cwF 0 C.2.2.2.2.1 gX14_nightNow_Jx35411_hasNext_aae02_f268Jx35411 rfl rfl rfl C.2.2.2.2.2.2.1.2.2.2.2.2.2.2.1 (by decide +kernel) ⟨Nat.le_of_ble_eq_true rfl, Nat.le_of_ble_eq_true rfl⟩) hm9 rfl rfl rfl (by first | exact Nat.le_of_ble_eq_true rfl | (simp [q_cat, q_catI, q_catJ, q_catR, q_catN]; done)) (by rw [hb1]; first | done | rfl) dX14_nightNow_225 ⟨(by first | omega | (dsimp only; omega)), (by first | omega | (dsimp only; omega))⟩ (fun x2 M3 h => ?_)
    refine q_if_eq (pc := 230) C 266 dX14_nightNow_230 (by decide) (fun c4 => ?_) (fun c4 => ?_)
    · have h := h.1 c4
      refine q_iload_n (pc := 266) C 2 0 dX14_nightNow_266 rfl rfl ?_
      exact q_iret (pc := 267) C hr hlocks h dX14_nightNow_267 (by omega) (by omega)
    · have h := h.2 c4
      refine q_aload_n (pc := 233) C 3 1 dX14_nightNow_233 rfl rfl ?_
      obtain ⟨b5, fs9, hb5, hm9, h⟩ := h
      refine q_cFq (pc := 234) C (st := []) (b := b5) (kJx35411_next_0502b l G b0 h) (va_cwF 0 C.2.2.2.2.1 gX14_nightNow_Jx35411_next_0502b_f273Jx35411 rfl rfl rfl C.2.2.2.2.2.2.1.2.2.2.2.2.2.2.2.1 (by decide +kernel) ⟨Nat.le_of_ble_eq_true rfl, Nat.le_of_ble_eq_true rfl⟩) hm9 rfl rfl rfl (by first | exact Nat.le_of_ble_eq_true rfl | (simp [q_cat, q_catI, q_catJ, q_catR, q_catN]; done)) (by rw [hb5]; first | done | rfl) dX14_nightNow_234 ⟨(by first | omega | (dsimp only; omega)), (by first | omega | (dsimp only; omega))⟩ (fun x6 M7 h => ?_)
      refine q_cast (pc := 239) C h rfl rfl (by decide +kernel) dX14_nightNow_239 (fun h => ?_)
      refine q_astore (pc := 242) C 4 [(4, va_rf x6), (2, .int l2), (3, va_rf l3)] dX14_nightNow_242 (by decide) (by first | rfl | simp [q_cat, q_catI, q_catJ, q_catR, q_catN]) ?_
      refine q_iload_n (pc := 244) C 2 1 dX14_nightNow_244 rfl rfl ?_
      refine q_aload (pc := 245) C 4 0 dX14_nightNow_245 rfl ?_
      refine q_gIN (pc := 247) C h (host := "LullabygateModel") (T := TX12) rfl (by decide) (by decide +kernel) 1524 (by decide +kernel) (fun _ h9 => h9) dX14_nightNow_247 (fun x8 h => ?_)
      refine q_sipush (pc := 250) C 999 dX14_nightNow_250 (by decide) ?_
      refine q_icmp_ne (pc := 253) C 260 dX14_nightNow_253 (by decide) (fun c9 => ?_) (fun c9 => ?_)
      · have h := h.2 c9
        refine q_iconst (pc := 260) C 0 dX14_nightNow_260 (by decide) ?_
        refine q_widen (k2 := 1) (n2 := 4) (by omega) (by omega) ?_
        refine q_lv [2] rfl ?_
        exact tX14_nightNow_261 C hr hlocks ih h
      · have h := h.1 c9
        refine q_iconst (pc := 256) C 1 dX14_nightNow_256 (by decide) ?_
        refine q_goto (pc := 257) C 261 dX14_nightNow_257 (by decide) ?_
        refine q_widen (k2 := 1) (n2 := 4) (by omega) (by omega) ?_
        refine q_lv [2] rfl ?_
        exact tX14_nightNow_261 C hr hlocks ih h
set_option maxRecDepth 100000 in
set_option maxHeartbeats 4000000 in
theorem tX14_nightNow_300 {p : Program} {l : Launch} {e : Env} {s : State} {m : MethodId} {args : Array Value} {below : List Frame} {meth : Method} {c : Code} {G : mG} {b0 : Nat} (C : m_C p s m args c cX14_nightNow 7 RX14 wsX14_nightNow G b0) (hr : meth.sig.returnType = (some .int)) (hlocks : meth.locks = false) {κ : Int32 → mM → Prop} : ∀ (f : Nat) (l2 : Int32) (l3 : Option Nat) (l4 : Int32) (l5 : Int32) (M : mM), wX14_nightNow_300 κ f l2 l3 l4 l5 M → m_W p l e ({ frames := 3, cells := 1, slots := 4, locals := 61 } : Room) s m args below meth c G b0 (MQ below (va_Qi κ (m_B G b0) (fun q => b0 ≤ q)) args s 1 4 (fun q => b0 ≤ q)) 7 M 0 0 300 [(2, .int l2), (3, va_rf l3), (4, .int l4), (5, .int l5)] [] := by
  intro f
  induction f with
  | zero =>
    intro l2 l3 l4 l5 M h
    exact absurd h (by simp [wX14_nightNow_300])
  | succ f ih =>
    intro l2 l3 l4 l5 M h
    rw [wX14_nightNow_300] at h
    refine q_iload (pc := 300) C 5 3 dX14_nightNow_300 rfl ?_
    refine q_iload (pc := 302) C 4 2 dX14_nightNow_302 rfl ?_
    refine q_icmp_ge (pc := 304) C 327 dX14_nightNow_304 (by decide) (fun c1 => ?_) (fun c1 => ?_)
    · have h := h.1 c1
      refine q_iload_n (pc := 327) C 2 0 dX14_nightNow_327 rfl rfl ?_
      exact q_iret (pc := 328) C hr hlocks h dX14_nightNow_328 (by omega) (by omega)
    · have h := h.2 c1
      refine q_aload_n (pc := 307) C 3 1 dX14_nightNow_307 rfl rfl ?_
      refine q_iload (pc := 308) C 5 3 dX14_nightNow_308 rfl ?_
      refine q_aald (pc := 310) C h rfl dX14_nightNow_310 (fun x2 h => ?_)
      refine q_astore (pc := 311) C 6 [(6, va_rf x2), (2, .int l2), (3, va_rf l3), (4, .int l4), (5, .int l5)] dX14_nightNow_311 (by decide) (by first | rfl | simp [q_cat, q_catI, q_catJ, q_catR, q_catN]) ?_
      refine q_iload_n (pc := 313) C 2 1 dX14_nightNow_313 rfl rfl ?_
      refine q_aload (pc := 314) C 6 0 dX14_nightNow_314 rfl ?_
      refine q_gIN (pc := 316) C h (host := "LullabygateModel") (T := TX11) rfl (by decide) (by decide +kernel) 1325 (by decide +kernel) (fun _ h9 => h9) dX14_nightNow_316 (fun x3 h => ?_)
      refine q_iadd (pc := 319) C dX14_nightNow_319 ?_
      refine q_istore_n (pc := 320) C 2 [(2, .int (l2 + x3)), (6, va_rf x2), (3, va_rf l3), (4, .int l4), (5, .int l5)] dX14_nightNow_320 rfl (by decide) (by first | rfl | simp [q_cat, q_catI, q_catJ, q_catR, q_catN]) ?_
      refine q_iinc (pc := 321) C 5 4 (l5 + 1) [(5, .int (l5 + 1)), (2, .int (l2 + x3)), (6, va_rf x2), (3, va_rf l3), (4, .int l4)] dX14_nightNow_321 rfl (by rfl) (by decide) (by first | rfl | simp [q_cat, q_catI, q_catJ, q_catR, q_catN]) ?_
      refine q_goto (pc := 324) C 300 dX14_nightNow_324 (by decide) ?_
      refine q_widen (k2 := 0) (n2 := 0) (by omega) (by omega) ?_
      refine q_lv [1, 3, 4, 0] rfl ?_
      exact ih _ _ _ _ _ h
set_option maxRecDepth 100000 in
set_option maxHeartbeats 4000000 in
theorem tX14_nightNow_341 {p : Program} {l : Launch} {e : Env} {s : State} {m : MethodId} {args : Array Value} {below : List Frame} {meth : Method} {c : Code} {G : mG} {b0 : Nat} (C : m_C p s m args c cX14_nightNow 7 RX14 wsX14_nightNow G b0) (hr : meth.sig.returnType = (some .int)) (hlocks : meth.locks = false) {κ : Int32 → mM → Prop} : ∀ (f : Nat) (l2 : Int32) (l3 : Option Nat) (l4 : Int32) (l5 : Int32) (M : mM), wX14_nightNow_341 κ f l2 l3 l4 l5 M → m_W p l e ({ frames := 3, cells := 1, slots := 4, locals := 61 } : Room) s m args below meth c G b0 (MQ below (va_Qi κ (m_B G b0) (fun q => b0 ≤ q)) args s 1 4 (fun q => b0 ≤ q)) 7 M 0 0 341 [(2, .int l2), (3, va_rf l3), (4, .int l4), (5, .int l5)] [] := by
  intro f
  induction f with
  | zero =>
    intro l2 l3 l4 l5 M h
    exact absurd h (by simp [wX14_nightNow_341])
  | succ f ih =>
    intro l2 l3 l4 l5 M h
    rw [wX14_nightNow_341] at h
    refine q_iload (pc := 341) C 5 3 dX14_nightNow_341 rfl ?_
    refine q_iload (pc := 343) C 4 2 dX14_nightNow_343 rfl ?_
    refine q_icmp_ge (pc := 345) C 368 dX14_nightNow_345 (by decide) (fun c1 => ?_) (fun c1 => ?_)
    · have h := h.1 c1
      refine q_iload_n (pc := 368) C 2 0 dX14_nightNow_368 rfl rfl ?_
      exact q_iret (pc := 369) C hr hlocks h dX14_nightNow_369 (by omega) (by omega)
    · have h := h.2 c1
      refine q_aload_n (pc := 348) C 3 1 dX14_nightNow_348 rfl rfl ?_
      refine q_iload (pc := 349) C 5 3 dX14_nightNow_349 rfl ?_
      refine q_aald (pc := 351) C h rfl dX14_nightNow_351 (fun x2 h => ?_)
      refine q_astore (pc := 352) C 6 [(6, va_rf x2), (2, .int l2), (3, va_rf l3), (4, .int l4), (5, .int l5)] dX14_nightNow_352 (by decide) (by first | rfl | simp [q_cat, q_catI, q_catJ, q_catR, q_catN]) ?_
      refine q_iload_n (pc := 354) C 2 1 dX14_nightNow_354 rfl rfl ?_
      refine q_aload (pc := 355) C 6 0 dX14_nightNow_355 rfl ?_
      refine q_gIN (pc := 357) C h (host := "LullabygateModel") (T := TX11) rfl (by decide) (by decide +kernel) 1326 (by decide +kernel) (fun _ h9 => h9) dX14_nightNow_357 (fun x3 h => ?_)
      refine q_iadd (pc := 360) C dX14_nightNow_360 ?_
      refine q_istore_n (pc := 361) C 2 [(2, .int (l2 + x3)), (6, va_rf x2), (3, va_rf l3), (4, .int l4), (5, .int l5)] dX14_nightNow_361 rfl (by decide) (by first | rfl | simp [q_cat, q_catI, q_catJ, q_catR, q_catN]) ?_
      refine q_iinc (pc := 362) C 5 4 (l5 + 1) [(5, .int (l5 + 1)), (2, .int (l2 + x3)), (6, va_rf x2), (3, va_rf l3), (4, .int l4)] dX14_nightNow_362 rfl (by rfl) (by decide) (by first | rfl | simp [q_cat, q_catI, q_catJ, q_catR, q_catN]) ?_
      refine q_goto (pc := 365) C 341 dX14_nightNow_365 (by decide) ?_
      refine q_widen (k2 := 0) (n2 := 0) (by omega) (by omega) ?_
      refine q_lv [1, 3, 4, 0] rfl ?_
      exact ih _ _ _ _ _ h
set_option maxRecDepth 100000 in
set_option maxHeartbeats 4000000 in
theorem tX14_nightNow {p : Program} {l : Launch} {e : Env} {s : State} {m : MethodId} {args : Array Value} {below : List Frame} {meth : Method} {c : Code} {G : mG} {b0 : Nat} (C : m_C p s m args c cX14_nightNow 7 RX14 wsX14_nightNow G b0) (hr : meth.sig.returnType = (some .int)) (hlocks : meth.locks = false) {κ : Int32 → mM → Prop} {l0 : Option Nat} {l1 : Int32} {M : mM} (h : wX14_nightNow κ l0 l1 M) : m_W p l e ({ frames := 3, cells := 1, slots := 4, locals := 61 } : Room) s m args below meth c G b0 (MQ below (va_Qi κ (m_B G b0) (fun q => b0 ≤ q)) args s 1 4 (fun q => b0 ≤ q)) 7 M 0 0 0 [(0, va_rf l0), (1, .int l1)] [] := by
  unfold wX14_nightNow at h
  refine q_iconst (pc := 0) C 0 dX14_nightNow_0 (by decide) ?_
  refine q_istore_n (pc := 1) C 2 [(2, .int 0), (0, va_rf l0), (1, .int l1)] dX14_nightNow_1 rfl (by decide) (by first | rfl | simp [q_cat, q_catI, q_catJ, q_catR, q_catN]) ?_
  refine q_iload_n (pc := 2) C 1 2 dX14_nightNow_2 rfl rfl ?_
  by_cases c1 : l1 = 0
  · have h := h.1 c1
    refine q_tableIn (pc := 3) C 80 dX14_nightNow_3 (by rw [c1]; decide) (by rw [c1]; decide) (by rw [c1]; rfl) (by decide) ?_
    refine q_aload_n (pc := 80) C 0 1 dX14_nightNow_80 rfl rfl ?_
    refine q_gI (pc := 81) C h (T := TX14) rfl (by decide) (wk_u rfl wm_X14_nightNow uq_X14 (by decide +kernel)) (by decide +kernel) (fun _ h9 => h9) dX14_nightNow_81 (fun x2 h => ?_)
    exact q_iret (pc := 84) C hr hlocks h dX14_nightNow_84 (by omega) (by omega)
  have h := h.2 c1
  by_cases c3 : l1 = 1
  · have h := h.1 c3
    refine q_tableIn (pc := 3) C 85 dX14_nightNow_3 (by rw [c3]; decide) (by rw [c3]; decide) (by rw [c3]; rfl) (by decide) ?_
    refine q_aload_n (pc := 85) C 0 1 dX14_nightNow_85 rfl rfl ?_
    refine q_gI (pc := 86) C h (T := TX14) rfl (by decide) (wk_u rfl wm_X14_nightNow uq_X14 (by decide +kernel)) (by decide +kernel) (fun _ h9 => h9) dX14_nightNow_86 (fun x4 h => ?_)
    exact q_iret (pc := 89) C hr hlocks h dX14_nightNow_89 (by omega) (by omega)
  have h := h.2 c3
  by_cases c5 : l1 = 2
  · have h := h.1 c5
    refine q_tableIn (pc := 3) C 90 dX14_nightNow_3 (by rw [c5]; decide) (by rw [c5]; decide) (by rw [c5]; rfl) (by decide) ?_
    refine q_aload_n (pc := 90) C 0 1 dX14_nightNow_90 rfl rfl ?_
    refine q_gR (pc := 91) C h (T := TX14) rfl (by decide) (wk_u rfl wm_X14_nightNow uq_X14 (by decide +kernel)) (by decide +kernel) (fun _ h9 => h9) dX14_nightNow_91 (fun x6 h => ?_)
    obtain ⟨b9, fs9, hb9, hm9, h⟩ := h
    refine q_ci (pc := 94) (q_rV C (st := []) (b := b9) (kJx4a65c_size_8abf5 l G b0 h) (cwV 0 C.2.2.2.2.1 gX14_nightNow_Jx4a65c_size_8abf5 rfl rfl rfl (by decide +kernel) ⟨Nat.le_of_ble_eq_true rfl, Nat.le_of_ble_eq_true rfl⟩) hm9 rfl rfl rfl (by first | exact Nat.le_of_ble_eq_true rfl | (simp [q_cat, q_catI, q_catJ, q_catR, q_catN]; done)) (by rw [hb9]; first | done | rfl) dX14_nightNow_94 ⟨(by first | omega | (dsimp only; omega)), (by first | omega | (dsimp only; omega))⟩) (fun x7 M8 h => ?_)
    exact q_iret (pc := 97) C hr hlocks h dX14_nightNow_97 (by omega) (by omega)
  have h := h.2 c5
  by_cases c10 : l1 = 3
  · have h := h.1 c10
    refine q_tableIn (pc := 3) C 98 dX14_nightNow_3 (by rw [c10]; decide) (by rw [c10]; decide) (by rw [c10]; rfl) (by decide) ?_
    refine q_aload_n (pc := 98) C 0 1 dX14_nightNow_98 rfl rfl ?_
    refine q_gR (pc := 99) C h (T := TX14) rfl (by decide) (wk_u rfl wm_X14_nightNow uq_X14 (by decide +kernel)) (by decide +kernel) (fun _ h9 => h9) dX14_nightNow_99 (fun x11 h => ?_)
    obtain ⟨b14, fs9, hb14, hm9, h⟩ := h
    refine q_ci (pc := 102) (q_rV C (st := []) (b := b14) (kJx4a65c_size_8abf5 l G b0 h) (cwV 0 C.2.2.2.2.1 gX14_nightNow_Jx4a65c_size_8abf5 rfl rfl rfl (by decide +kernel) ⟨Nat.le_of_ble_eq_true rfl, Nat.le_of_ble_eq_true rfl⟩) hm9 rfl rfl rfl (by first | exact Nat.le_of_ble_eq_true rfl | (simp [q_cat, q_catI, q_catJ, q_catR, q_catN]; done)) (by rw [hb14]; first | done | rfl) dX14_nightNow_102 ⟨(by first | omega | (dsimp only; omega)), (by first | omega | (dsimp only; omega))⟩) (fun x12 M13 h => ?_)
    exact q_iret (pc := 105) C hr hlocks h dX14_nightNow_105 (by omega) (by omega)
  have h := h.2 c10
  by_cases c15 : l1 = 4
  · have h := h.1 c15
    refine q_tableIn (pc := 3) C 106 dX14_nightNow_3 (by rw [c15]; decide) (by rw [c15]; decide) (by rw [c15]; rfl) (by decide) ?_
    refine q_aload_n (pc := 106) C 0 1 dX14_nightNow_106 rfl rfl ?_
    refine q_gR (pc := 107) C h (T := TX14) rfl (by decide) (wk_u rfl wm_X14_nightNow uq_X14 (by decide +kernel)) (by decide +kernel) (fun _ h9 => h9) dX14_nightNow_107 (fun x16 h => ?_)
    obtain ⟨b19, fs9, hb19, hm9, h⟩ := h
    refine q_cq (pc := 110) (q_rV C (st := []) (b := b19) (kJx4a65c_iterator_32c93 l G b0 h) (cwV 0 C.2.2.2.2.1 gX14_nightNow_Jx4a65c_iterator_32c93 rfl rfl rfl (by decide +kernel) ⟨Nat.le_of_ble_eq_true rfl, Nat.le_of_ble_eq_true rfl⟩) hm9 rfl rfl rfl (by first | exact Nat.le_of_ble_eq_true rfl | (simp [q_cat, q_catI, q_catJ, q_catR, q_catN]; done)) (by rw [hb19]; first | done | rfl) dX14_nightNow_110 ⟨(by first | omega | (dsimp only; omega)), (by first | omega | (dsimp only; omega))⟩) (fun x17 M18 h => ?_)
    refine q_astore_n (pc := 113) C 3 [(3, va_rf x17), (2, .int 0), (0, va_rf l0), (1, .int l1)] dX14_nightNow_113 rfl (by decide) (by first | rfl | simp [q_cat, q_catI, q_catJ, q_catR, q_catN]) ?_
    refine q_widen (k2 := 1) (n2 := 4) (by omega) (by omega) ?_
    refine q_lv [1, 0] rfl ?_
    obtain ⟨f9, h⟩ := h
    exact tX14_nightNow_114 C hr hlocks f9 _ _ _ h
  have h := h.2 c15
  by_cases c20 : l1 = 5
  · have h := h.1 c20
    refine q_tableIn (pc := 3) C 156 dX14_nightNow_3 (by rw [c20]; decide) (by rw [c20]; decide) (by rw [c20]; rfl) (by decide) ?_
    refine q_aload_n (pc := 156) C 0 1 dX14_nightNow_156 rfl rfl ?_
    refine q_gR (pc := 157) C h (T := TX14) rfl (by decide) (wk_u rfl wm_X14_nightNow uq_X14 (by decide +kernel)) (by decide +kernel) (fun _ h9 => h9) dX14_nightNow_157 (fun x21 h => ?_)
    obtain ⟨b24, fs9, hb24, hm9, h⟩ := h
    refine q_ci (pc := 160) (q_rV C (st := []) (b := b24) (kJx4a65c_size_8abf5 l G b0 h) (cwV 0 C.2.2.2.2.1 gX14_nightNow_Jx4a65c_size_8abf5 rfl rfl rfl (by decide +kernel) ⟨Nat.le_of_ble_eq_true rfl, Nat.le_of_ble_eq_true rfl⟩) hm9 rfl rfl rfl (by first | exact Nat.le_of_ble_eq_true rfl | (simp [q_cat, q_catI, q_catJ, q_catR, q_catN]; done)) (by rw [hb24]; first | done | rfl) dX14_nightNow_160 ⟨(by first | omega | (dsimp only; omega)), (by first | omega | (dsimp only; omega))⟩) (fun x22 M23 h => ?_)
    exact q_iret (pc := 163) C hr hlocks h dX14_nightNow_163 (by omega) (by omega)
  have h := h.2 c20
  by_cases c25 : l1 = 6
  · have h := h.1 c25
    refine q_tableIn (pc := 3) C 164 dX14_nightNow_3 (by rw [c25]; decide) (by rw [c25]; decide) (by rw [c25]; rfl) (by decide) ?_
    refine q_aload_n (pc := 164) C 0 1 dX14_nightNow_164 rfl rfl ?_
    refine q_gR (pc := 165) C h (T := TX14) rfl (by decide) (wk_u rfl wm_X14_nightNow uq_X14 (by decide +kernel)) (by decide +kernel) (fun _ h9 => h9) dX14_nightNow_165 (fun x26 h => ?_)
    obtain ⟨b29, fs9, hb29, hm9, h⟩ := h
    refine q_cq (pc := 168) (q_rV C (st := []) (b := b29) (kJx4a65c_iterator_32c93 l G b0 h) (cwV 0 C.2.2.2.2.1 gX14_nightNow_Jx4a65c_iterator_32c93 rfl rfl rfl (by decide +kernel) ⟨Nat.le_of_ble_eq_true rfl, Nat.le_of_ble_eq_true rfl⟩) hm9 rfl rfl rfl (by first | exact Nat.le_of_ble_eq_true rfl | (simp [q_cat, q_catI, q_catJ, q_catR, q_catN]; done)) (by rw [hb29]; first | done | rfl) dX14_nightNow_168 ⟨(by first | omega | (dsimp only; omega)), (by first | omega | (dsimp only; omega))⟩) (fun x27 M28 h => ?_)
    refine q_astore_n (pc := 171) C 3 [(3, va_rf x27), (2, .int 0), (0, va_rf l0), (1, .int l1)] dX14_nightNow_171 rfl (by decide) (by first | rfl | simp [q_cat, q_catI, q_catJ, q_catR, q_catN]) ?_
    refine q_widen (k2 := 1) (n2 := 4) (by omega) (by omega) ?_
    refine q_lv [3, 1, 0] rfl ?_
    obtain ⟨f9, h⟩ := h
    exact tX14_nightNow_172 C hr hlocks f9 _ _ _ _ h
  have h := h.2 c25
  by_cases c30 : l1 = 7
  · have h := h.1 c30
    refine q_tableIn (pc := 3) C 164 dX14_nightNow_3 (by rw [c30]; decide) (by rw [c30]; decide) (by rw [c30]; rfl) (by decide) ?_
    refine q_aload_n (pc := 164) C 0 1 dX14_nightNow_164 rfl rfl ?_
    refine q_gR (pc := 165) C h (T := TX14) rfl (by decide) (wk_u rfl wm_X14_nightNow uq_X14 (by decide +kernel)) (by decide +kernel) (fun _ h9 => h9) dX14_nightNow_165 (fun x31 h => ?_)
    obtain ⟨b34, fs9, hb34, hm9, h⟩ := h
    refine q_cq (pc := 168) (q_rV C (st := []) (b := b34) (kJx4a65c_iterator_32c93 l G b0 h) (cwV 0 C.2.2.2.2.1 gX14_nightNow_Jx4a65c_iterator_32c93 rfl rfl rfl (by decide +kernel) ⟨Nat.le_of_ble_eq_true rfl, Nat.le_of_ble_eq_true rfl⟩) hm9 rfl rfl rfl (by first | exact Nat.le_of_ble_eq_true rfl | (simp [q_cat, q_catI, q_catJ, q_catR, q_catN]; done)) (by rw [hb34]; first | done | rfl) dX14_nightNow_168 ⟨(by first | omega | (dsimp only; omega)), (by first | omega | (dsimp only; omega))⟩) (fun x32 M33 h => ?_)
    refine q_astore_n (pc := 171) C 3 [(3, va_rf x32), (2, .int 0), (0, va_rf l0), (1, .int l1)] dX14_nightNow_171 rfl (by decide) (by first | rfl | simp [q_cat, q_catI, q_catJ, q_catR, q_catN]) ?_
    refine q_widen (k2 := 1) (n2 := 4) (by omega) (by omega) ?_
    refine q_lv [3, 1, 0] rfl ?_
    obtain ⟨f9, h⟩ := h
    exact tX14_nightNow_172 C hr hlocks f9 _ _ _ _ h
  have h := h.2 c30
  by_cases c35 : l1 = 8
  · have h := h.1 c35
    refine q_tableIn (pc := 3) C 164 dX14_nightNow_3 (by rw [c35]; decide) (by rw [c35]; decide) (by rw [c35]; rfl) (by decide) ?_
    refine q_aload_n (pc := 164) C 0 1 dX14_nightNow_164 rfl rfl ?_
    refine q_gR (pc := 165) C h (T := TX14) rfl (by decide) (wk_u rfl wm_X14_nightNow uq_X14 (by decide +kernel)) (by decide +kernel) (fun _ h9 => h9) dX14_nightNow_165 (fun x36 h => ?_)
    obtain ⟨b39, fs9, hb39, hm9, h⟩ := h
    refine q_cq (pc := 168) (q_rV C (st := []) (b := b39) (kJx4a65c_iterator_32c93 l G b0 h) (cwV 0 C.2.2.2.2.1 gX14_nightNow_Jx4a65c_iterator_32c93 rfl rfl rfl (by decide +kernel) ⟨Nat.le_of_ble_eq_true rfl, Nat.le_of_ble_eq_true rfl⟩) hm9 rfl rfl rfl (by first | exact Nat.le_of_ble_eq_true rfl | (simp [q_cat, q_catI, q_catJ, q_catR, q_catN]; done)) (by rw [hb39]; first | done | rfl) dX14_nightNow_168 ⟨(by first | omega | (dsimp only; omega)), (by first | omega | (dsimp only; omega))⟩) (fun x37 M38 h => ?_)
    refine q_astore_n (pc := 171) C 3 [(3, va_rf x37), (2, .int 0), (0, va_rf l0), (1, .int l1)] dX14_nightNow_171 rfl (by decide) (by first | rfl | simp [q_cat, q_catI, q_catJ, q_catR, q_catN]) ?_
    refine q_widen (k2 := 1) (n2 := 4) (by omega) (by omega) ?_
    refine q_lv [3, 1, 0] rfl ?_
    obtain ⟨f9, h⟩ := h
    exact tX14_nightNow_172 C hr hlocks f9 _ _ _ _ h
  have h := h.2 c35
  by_cases c40 : l1 = 9
  · have h := h.1 c40
    refine q_tableIn (pc := 3) C 164 dX14_nightNow_3 (by rw [c40]; decide) (by rw [c40]; decide) (by rw [c40]; rfl) (by decide) ?_
    refine q_aload_n (pc := 164) C 0 1 dX14_nightNow_164 rfl rfl ?_
    refine q_gR (pc := 165) C h (T := TX14) rfl (by decide) (wk_u rfl wm_X14_nightNow uq_X14 (by decide +kernel)) (by decide +kernel) (fun _ h9 => h9) dX14_nightNow_165 (fun x41 h => ?_)
    obtain ⟨b44, fs9, hb44, hm9, h⟩ := h
    refine q_cq (pc := 168) (q_rV C (st := []) (b := b44) (kJx4a65c_iterator_32c93 l G b0 h) (cwV 0 C.2.2.2.2.1 gX14_nightNow_Jx4a65c_iterator_32c93 rfl rfl rfl (by decide +kernel) ⟨Nat.le_of_ble_eq_true rfl, Nat.le_of_ble_eq_true rfl⟩) hm9 rfl rfl rfl (by first | exact Nat.le_of_ble_eq_true rfl | (simp [q_cat, q_catI, q_catJ, q_catR, q_catN]; done)) (by rw [hb44]; first | done | rfl) dX14_nightNow_168 ⟨(by first | omega | (dsimp only; omega)), (by first | omega | (dsimp only; omega))⟩) (fun x42 M43 h => ?_)
    refine q_astore_n (pc := 171) C 3 [(3, va_rf x42), (2, .int 0), (0, va_rf l0), (1, .int l1)] dX14_nightNow_171 rfl (by decide) (by first | rfl | simp [q_cat, q_catI, q_catJ, q_catR, q_catN]) ?_
    refine q_widen (k2 := 1) (n2 := 4) (by omega) (by omega) ?_
    refine q_lv [3, 1, 0] rfl ?_
    obtain ⟨f9, h⟩ := h
    exact tX14_nightNow_172 C hr hlocks f9 _ _ _ _ h
  have h := h.2 c40
  by_cases c45 : l1 = 10
  · have h := h.1 c45
    refine q_tableIn (pc := 3) C 164 dX14_nightNow_3 (by rw [c45]; decide) (by rw [c45]; decide) (by rw [c45]; rfl) (by decide) ?_
    refine q_aload_n (pc := 164) C 0 1 dX14_nightNow_164 rfl rfl ?_
    refine q_gR (pc := 165) C h (T := TX14) rfl (by decide) (wk_u rfl wm_X14_nightNow uq_X14 (by decide +kernel)) (by decide +kernel) (fun _ h9 => h9) dX14_nightNow_165 (fun x46 h => ?_)
    obtain ⟨b49, fs9, hb49, hm9, h⟩ := h
    refine q_cq (pc := 168) (q_rV C (st := []) (b := b49) (kJx4a65c_iterator_32c93 l G b0 h) (cwV 0 C.2.2.2.2.1 gX14_nightNow_Jx4a65c_iterator_32c93 rfl rfl rfl (by decide +kernel) ⟨Nat.le_of_ble_eq_true rfl, Nat.le_of_ble_eq_true rfl⟩) hm9 rfl rfl rfl (by first | exact Nat.le_of_ble_eq_true rfl | (simp [q_cat, q_catI, q_catJ, q_catR, q_catN]; done)) (by rw [hb49]; first | done | rfl) dX14_nightNow_168 ⟨(by first | omega | (dsimp only; omega)), (by first | omega | (dsimp only; omega))⟩) (fun x47 M48 h => ?_)
    refine q_astore_n (pc := 171) C 3 [(3, va_rf x47), (2, .int 0), (0, va_rf l0), (1, .int l1)] dX14_nightNow_171 rfl (by decide) (by first | rfl | simp [q_cat, q_catI, q_catJ, q_catR, q_catN]) ?_
    refine q_widen (k2 := 1) (n2 := 4) (by omega) (by omega) ?_
    refine q_lv [3, 1, 0] rfl ?_
    obtain ⟨f9, h⟩ := h
    exact tX14_nightNow_172 C hr hlocks f9 _ _ _ _ h
  have h := h.2 c45
  by_cases c50 : l1 = 11
  · have h := h.1 c50
    refine q_tableIn (pc := 3) C 216 dX14_nightNow_3 (by rw [c50]; decide) (by rw [c50]; decide) (by rw [c50]; rfl) (by decide) ?_
    refine q_aload_n (pc := 216) C 0 1 dX14_nightNow_216 rfl rfl ?_
    refine q_gR (pc := 217) C h (T := TX14) rfl (by decide) (wk_u rfl wm_X14_nightNow uq_X14 (by decide +kernel)) (by decide +kernel) (fun _ h9 => h9) dX14_nightNow_217 (fun x51 h => ?_)
    obtain ⟨b54, fs9, hb54, hm9, h⟩ := h
    refine q_cq (pc := 220) (q_rV C (st := []) (b := b54) (kJx4a65c_iterator_32c93 l G b0 h) (cwV 0 C.2.2.2.2.1 gX14_nightNow_Jx4a65c_iterator_32c93 rfl rfl rfl (by decide +kernel) ⟨Nat.le_of_ble_eq_true rfl, Nat.le_of_ble_eq_true rfl⟩) hm9 rfl rfl rfl (by first | exact Nat.le_of_ble_eq_true rfl | (simp [q_cat, q_catI, q_catJ, q_catR, q_catN]; done)) (by rw [hb54]; first | done | rfl) dX14_nightNow_220 ⟨(by first | omega | (dsimp only; omega)), (by first | omega | (dsimp only; omega))⟩) (fun x52 M53 h => ?_)
    refine q_astore_n (pc := 223) C 3 [(3, va_rf x52), (2, .int 0), (0, va_rf l0), (1, .int l1)] dX14_nightNow_223 rfl (by decide) (by first | rfl | simp [q_cat, q_catI, q_catJ, q_catR, q_catN]) ?_
    refine q_widen (k2 := 1) (n2 := 4) (by omega) (by omega) ?_
    refine q_lv [1, 0] rfl ?_
    obtain ⟨f9, h⟩ := h
    exact tX14_nightNow_224 C hr hlocks f9 _ _ _ h
  have h := h.2 c50
  by_cases c55 : l1 = 12
  · have h := h.1 c55
    refine q_tableIn (pc := 3) C 268 dX14_nightNow_3 (by rw [c55]; decide) (by rw [c55]; decide) (by rw [c55]; rfl) (by decide) ?_
    refine q_aload_n (pc := 268) C 0 1 dX14_nightNow_268 rfl rfl ?_
    refine q_gR (pc := 269) C h (T := TX14) rfl (by decide) (wk_u rfl wm_X14_nightNow uq_X14 (by decide +kernel)) (by decide +kernel) (fun _ h9 => h9) dX14_nightNow_269 (fun x56 h => ?_)
    obtain ⟨b59, fs9, hb59, hm9, h⟩ := h
    refine q_ci (pc := 272) (q_rV C (st := []) (b := b59) (kJx4a65c_size_8abf5 l G b0 h) (cwV 0 C.2.2.2.2.1 gX14_nightNow_Jx4a65c_size_8abf5 rfl rfl rfl (by decide +kernel) ⟨Nat.le_of_ble_eq_true rfl, Nat.le_of_ble_eq_true rfl⟩) hm9 rfl rfl rfl (by first | exact Nat.le_of_ble_eq_true rfl | (simp [q_cat, q_catI, q_catJ, q_catR, q_catN]; done)) (by rw [hb59]; first | done | rfl) dX14_nightNow_272 ⟨(by first | omega | (dsimp only; omega)), (by first | omega | (dsimp only; omega))⟩) (fun x57 M58 h => ?_)
    refine q_iconst (pc := 275) C 3 dX14_nightNow_275 (by decide) ?_
    refine q_idiv (pc := 276) C dX14_nightNow_276 (by decide) ?_
    exact q_iret (pc := 277) C hr hlocks h dX14_nightNow_277 (by omega) (by omega)
  have h := h.2 c55
  by_cases c60 : l1 = 13
  · have h := h.1 c60
    refine q_tableIn (pc := 3) C 278 dX14_nightNow_3 (by rw [c60]; decide) (by rw [c60]; decide) (by rw [c60]; rfl) (by decide) ?_
    refine q_aload_n (pc := 278) C 0 1 dX14_nightNow_278 rfl rfl ?_
    refine q_gI (pc := 279) C h (T := TX14) rfl (by decide) (wk_u rfl wm_X14_nightNow uq_X14 (by decide +kernel)) (by decide +kernel) (fun _ h9 => h9) dX14_nightNow_279 (fun x61 h => ?_)
    exact q_iret (pc := 282) C hr hlocks h dX14_nightNow_282 (by omega) (by omega)
  have h := h.2 c60
  by_cases c62 : l1 = 14
  · have h := h.1 c62
    refine q_tableIn (pc := 3) C 283 dX14_nightNow_3 (by rw [c62]; decide) (by rw [c62]; decide) (by rw [c62]; rfl) (by decide) ?_
    refine q_aload_n (pc := 283) C 0 1 dX14_nightNow_283 rfl rfl ?_
    refine q_gI (pc := 284) C h (T := TX14) rfl (by decide) (wk_u rfl wm_X14_nightNow uq_X14 (by decide +kernel)) (by decide +kernel) (fun _ h9 => h9) dX14_nightNow_284 (fun x63 h => ?_)
    exact q_iret (pc := 287) C hr hlocks h dX14_nightNow_287 (by omega) (by omega)
  have h := h.2 c62
  by_cases c64 : l1 = 15
  · have h := h.1 c64
    refine q_tableIn (pc := 3) C 288 dX14_nightNow_3 (by rw [c64]; decide) (by rw [c64]; decide) (by rw [c64]; rfl) (by decide) ?_
    refine q_aload_n (pc := 288) C 0 1 dX14_nightNow_288 rfl rfl ?_
    refine q_gR (pc := 289) C h (T := TX14) rfl (by decide) (wk_u rfl wm_X14_nightNow uq_X14 (by decide +kernel)) (by decide +kernel) (fun _ h9 => h9) dX14_nightNow_289 (fun x65 h => ?_)
    refine q_astore_n (pc := 292) C 3 [(3, va_rf x65), (2, .int 0), (0, va_rf l0), (1, .int l1)] dX14_nightNow_292 rfl (by decide) (by first | rfl | simp [q_cat, q_catI, q_catJ, q_catR, q_catN]) ?_
    refine q_aload_n (pc := 293) C 3 0 dX14_nightNow_293 rfl rfl ?_
    refine q_len (pc := 294) C h dX14_nightNow_294 (fun x66 h => ?_)
    refine q_istore (pc := 295) C 4 [(4, .int x66), (3, va_rf x65), (2, .int 0), (0, va_rf l0), (1, .int l1)] dX14_nightNow_295 (by decide) (by first | rfl | simp [q_cat, q_catI, q_catJ, q_catR, q_catN]) ?_
    refine q_iconst (pc := 297) C 0 dX14_nightNow_297 (by decide) ?_
    refine q_istore (pc := 298) C 5 [(5, .int 0), (4, .int x66), (3, va_rf x65), (2, .int 0), (0, va_rf l0), (1, .int l1)] dX14_nightNow_298 (by decide) (by first | rfl | simp [q_cat, q_catI, q_catJ, q_catR, q_catN]) ?_
    refine q_widen (k2 := 0) (n2 := 0) (by omega) (by omega) ?_
    refine q_lv [3, 2, 1, 0] rfl ?_
    obtain ⟨f9, h⟩ := h
    exact tX14_nightNow_300 C hr hlocks f9 _ _ _ _ _ h
  have h := h.2 c64
  refine q_tableOut (pc := 3) C 329 dX14_nightNow_3 ?_ (by decide) ?_
  · have hsw := m_sw (x := l1) 0 16 (fun j hj => by
      rcases (show j = 0 ∨ j = 1 ∨ j = 2 ∨ j = 3 ∨ j = 4 ∨ j = 5 ∨ j = 6 ∨ j = 7 ∨ j = 8 ∨ j = 9 ∨ j = 10 ∨ j = 11 ∨ j = 12 ∨ j = 13 ∨ j = 14 ∨ j = 15 by omega) with rfl | rfl | rfl | rfl | rfl | rfl | rfl | rfl | rfl | rfl | rfl | rfl | rfl | rfl | rfl | rfl
      · exact c1
      · exact c3
      · exact c5
      · exact c10
      · exact c15
      · exact c20
      · exact c25
      · exact c30
      · exact c35
      · exact c40
      · exact c45
      · exact c50
      · exact c55
      · exact c60
      · exact c62
      · exact c64
      ) (by decide)
    rcases hsw with q9 | q9
    · exact Or.inl (by simpa using q9)
    · exact Or.inr (by simp at q9 ⊢; omega)
  refine q_aload_n (pc := 329) C 0 1 dX14_nightNow_329 rfl rfl ?_
  refine q_gR (pc := 330) C h (T := TX14) rfl (by decide) (wk_u rfl wm_X14_nightNow uq_X14 (by decide +kernel)) (by decide +kernel) (fun _ h9 => h9) dX14_nightNow_330 (fun x67 h => ?_)
  refine q_astore_n (pc := 333) C 3 [(3, va_rf x67), (2, .int 0), (0, va_rf l0), (1, .int l1)] dX14_nightNow_333 rfl (by decide) (by first | rfl | simp [q_cat, q_catI, q_catJ, q_catR, q_catN]) ?_
  refine q_aload_n (pc := 334) C 3 0 dX14_nightNow_334 rfl rfl ?_
  refine q_len (pc := 335) C h dX14_nightNow_335 (fun x68 h => ?_)
  refine q_istore (pc := 336) C 4 [(4, .int x68), (3, va_rf x67), (2, .int 0), (0, va_rf l0), (1, .int l1)] dX14_nightNow_336 (by decide) (by first | rfl | simp [q_cat, q_catI, q_catJ, q_catR, q_catN]) ?_
  refine q_iconst (pc := 338) C 0 dX14_nightNow_338 (by decide) ?_
  refine q_istore (pc := 339) C 5 [(5, .int 0), (4, .int x68), (3, va_rf x67), (2, .int 0), (0, va_rf l0), (1, .int l1)] dX14_nightNow_339 (by decide) (by first | rfl | simp [q_cat, q_catI, q_catJ, q_catR, q_catN]) ?_
  refine q_widen (k2 := 0) (n2 := 0) (by omega) (by omega) ?_
  refine q_lv [3, 2, 1, 0] rfl ?_
  obtain ⟨f9, h⟩ := h
  exact tX14_nightNow_341 C hr hlocks f9 _ _ _ _ _ h
set_option maxRecDepth 100000 in
set_option maxHeartbeats 4000000 in
theorem kX14_nightNow (l : Launch) (G : mG) (b0 : Nat) {b : Nat} {l1 : Int32} {M : mM} {κ : Int32 → mM → Prop} (h : wX14_nightNow κ (some b) l1 M) : Met l yX14_nightNow wsX14_nightNow ({ frames := 3, cells := 1, slots := 4, locals := 61 } : Room) (va_Pc [.ref b, .int l1] (m_Pre G b0 M)) (va_Qi κ (m_B G b0) (fun q => b0 ≤ q)) 1 4 (fun q => b0 ≤ q) := by
  refine m_met (cc := cX14_nightNow) (maxL := 7) (ret := (some .int)) (lv := [(0, va_rf (some b)), (1, .int l1)]) RX14 rfl (by decide +kernel) rfl (by first | exact Nat.le_of_ble_eq_true rfl | simp [lg_sl, q_cat, q_catI, q_catJ, q_catR, q_catN]) (by first | rfl | (simp [lv_args, q_cat, q_catI, q_catJ, q_catR, q_catN]; done) | (simp [lv_args, q_cat, q_catI, q_catJ, q_catR, q_catN]; rfl)) ?_
  intro p e s m args below meth c C hr hlocks hni
  exact tX14_nightNow C hr hlocks h
/-! X14_night -/
set_option maxRecDepth 100000 in
set_option maxHeartbeats 4000000 in
theorem tX14_night {p : Program} {l : Launch} {e : Env} {s : State} {m : MethodId} {args : Array Value} {below : List Frame} {meth : Method} {c : Code} {G : mG} {b0 : Nat} (C : m_C p s m args c cX14_night 2 RX14 wsX14_night G b0) (hr : meth.sig.returnType = (some .int)) (hlocks : meth.locks = false) {κ : Int32 → mM → Prop} {l0 : Option Nat} {l1 : Int32} {M : mM} (h : wX14_night κ l0 l1 M) : m_W p l e ({ frames := 4, cells := 1, slots := 4, locals := 87 } : Room) s m args below meth c G b0 (MQ below (va_Qi κ (m_B G b0) (fun q => b0 ≤ q)) args s 1 4 (fun q => b0 ≤ q)) 2 M 0 0 0 [(0, va_rf l0), (1, .int l1)] [] := by
  unfold wX14_night at h
  refine q_aload_n (pc := 0) C 0 0 dX14_night_0 rfl rfl ?_
  refine q_iconst (pc := 1) C 0 dX14_night_1 (by decide) ?_
  refine q_p (pc := 2) C h .int (T := TX14) tyX14 tyX14_ok nmX14 rfl (by decide +kernel) rfl rfl rfl (by decide) (wk_u rfl wm_X14_night uq_X14 (by decide +kernel)) (by decide +kernel) (fun _ h9 => h9) rfl dX14_night_2 (fun M1 h => ?_)
  refine q_iload_n (pc := 5) C 1 1 dX14_night_5 rfl rfl ?_
  refine q_iconst (pc := 6) C 0 dX14_night_6 (by decide) ?_
  refine q_bipush (pc := 7) C 16 dX14_night_7 (by decide) ?_
  refine q_ci (pc := 9) (q_rS C (st := []) (kX14_is l G b0 h) (va_cwS 3 C.2.2.2.2.1 gX14_night_X14_is rfl rfl rfl (by decide +kernel) ⟨Nat.le_of_ble_eq_true rfl, Nat.le_of_ble_eq_true rfl⟩) rfl (by first | exact Nat.le_of_ble_eq_true rfl | (simp [q_cat, q_catI, q_catJ, q_catR, q_catN]; done)) rfl dX14_night_9 ⟨(by first | omega | (dsimp only; omega)), (by first | omega | (dsimp only; omega))⟩) (fun x2 M3 h => ?_)
  refine q_if_eq (pc := 12) C 23 dX14_night_12 (by decide) (fun c4 => ?_) (fun c4 => ?_)
  · have h := h.1 c4
    refine q_aload_n (pc := 23) C 0 0 dX14_night_23 rfl rfl ?_
    refine q_iconst (pc := 24) C 1 dX14_night_24 (by decide) ?_
    obtain ⟨b7, fs9, hb7, hm9, h⟩ := h
    refine q_ci (pc := 25) (q_rV C (st := []) (b := b7) (kX14_refuse l G b0 h) (cwV 1 C.2.2.2.2.1 gX14_night_X14_refuse rfl rfl rfl (by decide +kernel) ⟨Nat.le_of_ble_eq_true rfl, Nat.le_of_ble_eq_true rfl⟩) hm9 rfl rfl rfl (by first | exact Nat.le_of_ble_eq_true rfl | (simp [q_cat, q_catI, q_catJ, q_catR, q_catN]; done)) (by rw [hb7]; first | done | rfl) dX14_night_25 ⟨(by first | omega | (dsimp only; omega)), (by first | omega | (dsimp only; omega))⟩) (fun x5 M6 h => ?_)
    exact q_iret (pc := 28) C hr hlocks h dX14_night_28 (by omega) (by omega)
  · have h := h.2 c4
    refine q_aload_n (pc := 15) C 0 0 dX14_night_15 rfl rfl ?_
    refine q_iload_n (pc := 16) C 1 1 dX14_night_16 rfl rfl ?_
    obtain ⟨b10, fs9, hb10, hm9, h⟩ := h
    refine q_ci (pc := 17) (q_rV C (st := []) (b := b10) (kX14_nightNow l G b0 h) (cwV 1 C.2.2.2.2.1 gX14_night_X14_nightNow rfl rfl rfl (by decide +kernel) ⟨Nat.le_of_ble_eq_true rfl, Nat.le_of_ble_eq_true rfl⟩) hm9 rfl rfl rfl (by first | exact Nat.le_of_ble_eq_true rfl | (simp [q_cat, q_catI, q_catJ, q_catR, q_catN]; done)) (by rw [hb10]; first | done | rfl) dX14_night_17 ⟨(by first | omega | (dsimp only; omega)), (by first | omega | (dsimp only; omega))⟩) (fun x8 M9 h => ?_)
    refine q_goto (pc := 20) C 28 dX14_night_20 (by decide) ?_
    exact q_iret (pc := 28) C hr hlocks h dX14_night_28 (by omega) (by omega)
set_option maxRecDepth 100000 in
set_option maxHeartbeats 4000000 in
theorem kX14_night (l : Launch) (G : mG) (b0 : Nat) {b : Nat} {l1 : Int32} {M : mM} {κ : Int32 → mM → Prop} (h : wX14_night κ (some b) l1 M) : Met l yX14_night wsX14_night ({ frames := 4, cells := 1, slots := 4, locals := 87 } : Room) (va_Pc [.ref b, .int l1] (m_Pre G b0 M)) (va_Qi κ (m_B G b0) (fun q => b0 ≤ q)) 1 4 (fun q => b0 ≤ q) := by
  refine m_met (cc := cX14_night) (maxL := 2) (ret := (some .int)) (lv := [(0, va_rf (some b)), (1, .int l1)]) RX14 rfl (by decide +kernel) rfl (by first | exact Nat.le_of_ble_eq_true rfl | simp [lg_sl, q_cat, q_catI, q_catJ, q_catR, q_catN]) (by first | rfl | (simp [lv_args, q_cat, q_catI, q_catJ, q_catR, q_catN]; done) | (simp [lv_args, q_cat, q_catI, q_catJ, q_catR, q_catN]; rfl)) ?_
  intro p e s m args below meth c C hr hlocks hni
  exact tX14_night C hr hlocks h
/-! X14_wayNow -/
set_option maxRecDepth 100000 in
set_option maxHeartbeats 4000000 in
theorem tX14_wayNow_129 {p : Program} {l : Launch} {e : Env} {s : State} {m : MethodId} {args : Array Value} {below : List Frame} {meth : Method} {c : Code} {G : mG} {b0 : Nat} (C : m_C p s m args c cX14_wayNow 8 RX14 wsX14_wayNow G b0) (hr : meth.sig.returnType = (some .int)) (hlocks : meth.locks = false) {κ : Int32 → mM → Prop} {R7 : Option Nat → Int32 → Int32 → Int32 → mM → Prop} (hR7 : ∀ (l0 : Option Nat) (l2 : Int32) (l3 : Int32) (l4 : Int32) (M : mM), R7 l0 l2 l3 l4 M → m_W p l e ({ frames := 3, cells := 0, slots := 0, locals := 64 } : Room) s m args below meth c G b0 (MQ below (va_Qi κ (m_B G b0) (fun q => b0 ≤ q)) args s 0 0 (fun q => b0 ≤ q)) 8 M 0 0 7 [(0, va_rf l0), (2, .int l2), (3, .int l3), (4, .int l4)] []) {R32 : Option Nat → Int32 → Int32 → Int32 → Int32 → Int32 → mM → Prop} (hR32 : ∀ (l0 : Option Nat) (l2 : Int32) (l3 : Int32) (l4 : Int32) (l5 : Int32) (l6 : Int32) (M : mM), R32 l0 l2 l3 l4 l5 l6 M → m_W p l e ({ frames := 3, cells := 0, slots := 0, locals := 64 } : Room) s m args below meth c G b0 (MQ below (va_Qi κ (m_B G b0) (fun q => b0 ≤ q)) args s 0 0 (fun q => b0 ≤ q)) 8 M 0 0 32 [(0, va_rf l0), (2, .int l2), (3, .int l3), (4, .int l4), (5, .int l5), (6, .int l6)] []) {l0 : Option Nat} {l2 : Int32} {l3 : Int32} {l4 : Int32} {l5 : Int32} {l6 : Int32} {M : mM} (h : wX14_wayNow_129 κ R7 R32 l0 l2 l3 l4 l5 l6 M) : m_W p l e ({ frames := 3, cells := 0, slots := 0, locals := 64 } : Room) s m args below meth c G b0 (MQ below (va_Qi κ (m_B G b0) (fun q => b0 ≤ q)) args s 0 0 (fun q => b0 ≤ q)) 8 M 0 0 129 [(0, va_rf l0), (2, .int l2), (3, .int l3), (4, .int l4), (5, .int l5), (6, .int l6)] [] := by
  unfold wX14_wayNow_129 at h
  refine q_iinc (pc := 129) C 6 5 (l6 + 1) [(6, .int (l6 + 1)), (0, va_rf l0), (2, .int l2), (3, .int l3), (4, .int l4), (5, .int l5)] dX14_wayNow_129 rfl (by rfl) (by decide) (by first | rfl | simp [q_cat, q_catI, q_catJ, q_catR, q_catN]) ?_
  refine q_goto (pc := 132) C 32 dX14_wayNow_132 (by decide) ?_
  refine q_widen (k2 := 0) (n2 := 0) (by omega) (by omega) ?_
  refine q_lv [1, 2, 3, 4, 5, 0] rfl ?_
  exact hR32 _ _ _ _ _ _ _ h
set_option maxRecDepth 100000 in
set_option maxHeartbeats 4000000 in
theorem tX14_wayNow_104 {p : Program} {l : Launch} {e : Env} {s : State} {m : MethodId} {args : Array Value} {below : List Frame} {meth : Method} {c : Code} {G : mG} {b0 : Nat} (C : m_C p s m args c cX14_wayNow 8 RX14 wsX14_wayNow G b0) (hr : meth.sig.returnType = (some .int)) (hlocks : meth.locks = false) {κ : Int32 → mM → Prop} {R7 : Option Nat → Int32 → Int32 → Int32 → mM → Prop} (hR7 : ∀ (l0 : Option Nat) (l2 : Int32) (l3 : Int32) (l4 : Int32) (M : mM), R7 l0 l2 l3 l4 M → m_W p l e ({ frames := 3, cells := 0, slots := 0, locals := 64 } : Room) s m args below meth c G b0 (MQ below (va_Qi κ (m_B G b0) (fun q => b0 ≤ q)) args s 0 0 (fun q => b0 ≤ q)) 8 M 0 0 7 [(0, va_rf l0), (2, .int l2), (3, .int l3), (4, .int l4)] []) {R32 : Option Nat → Int32 → Int32 → Int32 → Int32 → Int32 → mM → Prop} (hR32 : ∀ (l0 : Option Nat) (l2 : Int32) (l3 : Int32) (l4 : Int32) (l5 : Int32) (l6 : Int32) (M : mM), R32 l0 l2 l3 l4 l5 l6 M → m_W p l e ({ frames := 3, cells := 0, slots := 0, locals := 64 } : Room) s m args below meth c G b0 (MQ below (va_Qi κ (m_B G b0) (fun q => b0 ≤ q)) args s 0 0 (fun q => b0 ≤ q)) 8 M 0 0 32 [(0, va_rf l0), (2, .int l2), (3, .int l3), (4, .int l4), (5, .int l5), (6, .int l6)] []) {l0 : Option Nat} {l2 : Int32} {l3 : Int32} {l4 : Int32} {l5 : Int32} {l6 : Int32} {l7 : Option Nat} {M : mM} (h : wX14_wayNow_104 κ R7 R32 l0 l2 l3 l4 l5 l6 l7 M) : m_W p l e ({ frames := 3, cells := 0, slots := 0, locals := 64 } : Room) s m args below meth c G b0 (MQ below (va_Qi κ (m_B G b0) (fun q => b0 ≤ q)) args s 0 0 (fun q => b0 ≤ q)) 8 M 0 0 104 [(0, va_rf l0), (2, .int l2), (3, .int l3), (4, .int l4), (5, .int l5), (6, .int l6), (7, va_rf l7)] [] := by
  unfold wX14_wayNow_104 at h
  refine q_iload_n (pc := 104) C 3 2 dX14_wayNow_104 rfl rfl ?_
  refine q_aload (pc := 105) C 7 6 dX14_wayNow_105 rfl ?_
  refine q_gIN (pc := 107) C h (host := "LullabygateModel") (T := TX10) rfl (by decide) (by decide +kernel) 1420 (by decide +kernel) (fun _ h9 => h9) dX14_wayNow_107 (fun x1 h => ?_)
  refine q_ishr (pc := 110) C dX14_wayNow_110 ?_
  refine m_stk (st2 := .int (m_shr l3 x1) :: _) rfl ?_
  refine q_iconst (pc := 111) C 1 dX14_wayNow_111 (by decide) ?_
  refine q_iand (pc := 112) C dX14_wayNow_112 ?_
  refine q_iconst (pc := 113) C 1 dX14_wayNow_113 (by decide) ?_
  refine q_icmp_ne (pc := 114) C 129 dX14_wayNow_114 (by decide) (fun c2 => ?_) (fun c2 => ?_)
  · have h := h.2 c2
    refine q_widen (k2 := 0) (n2 := 0) (by omega) (by omega) ?_
    refine q_lv [0, 1, 2, 3, 4, 5] rfl ?_
    exact tX14_wayNow_129 C hr hlocks hR7 hR32 h
  · have h := h.1 c2
    refine q_iload (pc := 117) C 5 4 dX14_wayNow_117 rfl ?_
    refine q_iconst (pc := 119) C 1 dX14_wayNow_119 (by decide) ?_
    refine q_aload (pc := 120) C 7 6 dX14_wayNow_120 rfl ?_
    refine q_gIN (pc := 122) C h (host := "LullabygateModel") (T := TX10) rfl (by decide) (by decide +kernel) 1418 (by decide +kernel) (fun _ h9 => h9) dX14_wayNow_122 (fun x3 h => ?_)
    refine q_ishl (pc := 125) C dX14_wayNow_125 ?_
    refine m_stk (st2 := .int (m_shl 1 x3) :: _) rfl ?_
    refine q_ior (pc := 126) C dX14_wayNow_126 ?_
    refine q_istore (pc := 127) C 5 [(5, .int (l5 ||| (m_shl 1 x3))), (0, va_rf l0), (2, .int l2), (3, .int l3), (4, .int l4), (6, .int l6), (7, va_rf l7)] dX14_wayNow_127 (by decide) (by first | rfl | simp [q_cat, q_catI, q_catJ, q_catR, q_catN]) ?_
    refine q_widen (k2 := 0) (n2 := 0) (by omega) (by omega) ?_
    refine q_lv [1, 2, 3, 4, 0, 5] rfl ?_
    exact tX14_wayNow_129 C hr hlocks hR7 hR32 h
set_option maxRecDepth 100000 in
set_option maxHeartbeats 4000000 in
theorem tX14_wayNow_32 {p : Program} {l : Launch} {e : Env} {s : State} {m : MethodId} {args : Array Value} {below : List Frame} {meth : Method} {c : Code} {G : mG} {b0 : Nat} (C : m_C p s m args c cX14_wayNow 8 RX14 wsX14_wayNow G b0) (hr : meth.sig.returnType = (some .int)) (hlocks : meth.locks = false) {κ : Int32 → mM → Prop} {R7 : Option Nat → Int32 → Int32 → Int32 → mM → Prop} (hR7 : ∀ (l0 : Option Nat) (l2 : Int32) (l3 : Int32) (l4 : Int32) (M : mM), R7 l0 l2 l3 l4 M → m_W p l e ({ frames := 3, cells := 0, slots := 0, locals := 64 } : Room) s m args below meth c G b0 (MQ below (va_Qi κ (m_B G b0) (fun q => b0 ≤ q)) args s 0 0 (fun q => b0 ≤ q)) 8 M 0 0 7 [(0, va_rf l0), (2, .int l2), (3, .int l3), (4, .int l4)] []) : ∀ (f : Nat) (l0 : Option Nat) (l2 : Int32) (l3 : Int32) (l4 : Int32) (l5 : Int32) (l6 : Int32) (M : mM), wX14_wayNow_32 κ R7 f l0 l2 l3 l4 l5 l6 M → m_W p l e ({ frames := 3, cells := 0, slots := 0, locals := 64 } : Room) s m args below meth c G b0 (MQ below (va_Qi κ (m_B G b0) (fun q => b0 ≤ q)) args s 0 0 (fun q => b0 ≤ q)) 8 M 0 0 32 [(0, va_rf l0), (2, .int l2), (3, .int l3), (4, .int l4), (5, .int l5), (6, .int l6)] [] := by
  intro f
  induction f with
  | zero =>
    intro l0 l2 l3 l4 l5 l6 M h
    exact absurd h (by simp [wX14_wayNow_32])
  | succ f ih =>
    intro l0 l2 l3 l4 l5 l6 M h
    rw [wX14_wayNow_32] at h
    refine q_iload (pc := 32) C 6 5 dX14_wayNow_32 rfl ?_
    refine q_aload_n (pc := 34) C 0 0 dX14_wayNow_34 rfl rfl ?_
    refine q_gR (pc := 35) C h (T := TX14) rfl (by decide) (wk_u rfl wm_X14_wayNow uq_X14 (by decide +kernel)) (by decide +kernel) (fun _ h9 => h9) dX14_wayNow_35 (fun x1 h => ?_)
    obtain ⟨b4, fs9, hb4, hm9, h⟩ := h
    refine q_ci (pc := 38) (q_rV C (st := [.int l6]) (b := b4) (kJx4a65c_size_8abf5 l G b0 h) (cwV 0 C.2.2.2.2.1 gX14_wayNow_Jx4a65c_size_8abf5 rfl rfl rfl (by decide +kernel) ⟨Nat.le_of_ble_eq_true rfl, Nat.le_of_ble_eq_true rfl⟩) hm9 rfl rfl rfl (by first | exact Nat.le_of_ble_eq_true rfl | (simp [q_cat, q_catI, q_catJ, q_catR, q_catN]; done)) (by rw [hb4]; first | done | rfl) dX14_wayNow_38 ⟨(by first | omega | (dsimp only; omega)), (by first | omega | (dsimp only; omega))⟩) (fun x2 M3 h => ?_)
    refine q_icmp_ge (pc := 41) C 135 dX14_wayNow_41 (by decide) (fun c5 => ?_) (fun c5 => ?_)
    · have h := h.1 c5
      refine q_iload (pc := 135) C 5 4 dX14_wayNow_135 rfl ?_
      refine q_istore_n (pc := 137) C 3 [(3, .int l5), (0, va_rf l0), (2, .int l2), (4, .int l4), (5, .int l5), (6, .int l6)] dX14_wayNow_137 rfl (by decide) (by first | rfl | simp [q_cat, q_catI, q_catJ, q_catR, q_catN]) ?_
      refine q_iinc (pc := 138) C 4 3 (l4 + 1) [(4, .int (l4 + 1)), (3, .int l5), (0, va_rf l0), (2, .int l2), (5, .int l5), (6, .int l6)] dX14_wayNow_138 rfl (by rfl) (by decide) (by first | rfl | simp [q_cat, q_catI, q_catJ, q_catR, q_catN]) ?_
      refine q_goto (pc := 141) C 7 dX14_wayNow_141 (by decide) ?_
      refine q_widen (k2 := 0) (n2 := 0) (by omega) (by omega) ?_
      refine q_lv [2, 3, 1, 0] rfl ?_
      exact hR7 _ _ _ _ _ h
    · have h := h.2 c5
      refine q_aload_n (pc := 44) C 0 0 dX14_wayNow_44 rfl rfl ?_
      refine q_gR (pc := 45) C h (T := TX14) rfl (by decide) (wk_u rfl wm_X14_wayNow uq_X14 (by decide +kernel)) (by decide +kernel) (fun _ h9 => h9) dX14_wayNow_45 (fun x6 h => ?_)
      refine q_iload (pc := 48) C 6 5 dX14_wayNow_48 rfl ?_
      obtain ⟨b9, fs9, hb9, hm9, h⟩ := h
      refine q_cq (pc := 50) (q_rV C (st := []) (b := b9) (kJx4a65c_get_915e3 l G b0 h) (cwV 1 C.2.2.2.2.1 gX14_wayNow_Jx4a65c_get_915e3 rfl rfl rfl (by decide +kernel) ⟨Nat.le_of_ble_eq_true rfl, Nat.le_of_ble_eq_true rfl⟩) hm9 rfl rfl rfl (by first | exact Nat.le_of_ble_eq_true rfl | (simp [q_cat, q_catI, q_catJ, q_catR, q_catN]; done)) (by rw [hb9]; first | done | rfl) dX14_wayNow_50 ⟨(by first | omega | (dsimp only; omega)), (by first | omega | (dsimp only; omega))⟩) (fun x7 M8 h => ?_)
      refine q_cast (pc := 53) C h rfl rfl (by decide +kernel) dX14_wayNow_53 (fun h => ?_)
      refine q_astore (pc := 56) C 7 [(7, va_rf x7), (0, va_rf l0), (2, .int l2), (3, .int l3), (4, .int l4), (5, .int l5), (6, .int l6)] dX14_wayNow_56 (by decide) (by first | rfl | simp [q_cat, q_catI, q_catJ, q_catR, q_catN]) ?_
      refine q_aload (pc := 58) C 7 0 dX14_wayNow_58 rfl ?_
      refine q_aload_n (pc := 60) C 0 1 dX14_wayNow_60 rfl rfl ?_
      refine q_gI (pc := 61) C h (T := TX14) rfl (by decide) (wk_u rfl wm_X14_wayNow uq_X14 (by decide +kernel)) (by decide +kernel) (fun _ h9 => h9) dX14_wayNow_61 (fun x10 h => ?_)
      refine q_iload (pc := 64) C 4 4 dX14_wayNow_64 rfl ?_
      refine q_iadd (pc := 66) C dX14_wayNow_66 ?_
      refine q_bipush (pc := 67) C 24 dX14_wayNow_67 (by decide) ?_
      refine q_irem (pc := 69) C dX14_wayNow_69 (by decide) ?_
      refine m_stk (st2 := .int (m_rem (x10 + l4) 24) :: _) rfl ?_
      obtain ⟨b13, fs9, hb13, hm9, h⟩ := h
      refine q_ci (pc := 70) (q_rV C (st := []) (b := b13) (kX10_isOpen l G b0 h) (cwV 1 C.2.2.2.2.1 gX14_wayNow_X10_isOpen rfl rfl rfl (by decide +kernel) ⟨Nat.le_of_ble_eq_true rfl, Nat.le_of_ble_eq_true rfl⟩) hm9 rfl rfl rfl (by first | exact Nat.le_of_ble_eq_true rfl | (simp [q_cat, q_catI, q_catJ, q_catR, q_catN]; done)) (by rw [hb13]; first | done | rfl) dX14_wayNow_70 ⟨(by first | omega | (dsimp only; omega)), (by first | omega | (dsimp only; omega))⟩) (fun x11 M12 h => ?_)
      refine q_if_ne (pc := 73) C 79 dX14_wayNow_73 (by decide) (fun c14 => ?_) (fun c14 => ?_)
      · have h := h.2 c14
        refine q_iload_n (pc := 79) C 3 3 dX14_wayNow_79 rfl rfl ?_
        refine q_aload (pc := 80) C 7 0 dX14_wayNow_80 rfl ?_
        refine q_gIN (pc := 82) C h (host := "LullabygateModel") (T := TX10) rfl (by decide) (by decide +kernel) 1418 (by decide +kernel) (fun _ h9 => h9) dX14_wayNow_82 (fun x15 h => ?_)
        refine q_ishr (pc := 85) C dX14_wayNow_85 ?_
        refine m_stk (st2 := .int (m_shr l3 x15) :: _) rfl ?_
        refine q_iconst (pc := 86) C 1 dX14_wayNow_86 (by decide) ?_
        refine q_iand (pc := 87) C dX14_wayNow_87 ?_
        refine q_iconst (pc := 88) C 1 dX14_wayNow_88 (by decide) ?_
        refine q_icmp_ne (pc := 89) C 104 dX14_wayNow_89 (by decide) (fun c16 => ?_) (fun c16 => ?_)
        · have h := h.2 c16
          refine q_widen (k2 := 0) (n2 := 0) (by omega) (by omega) ?_
          refine q_lv [1, 2, 3, 4, 5, 6, 0] rfl ?_
          exact tX14_wayNow_104 C hr hlocks hR7 ih h
        · have h := h.1 c16
          refine q_iload (pc := 92) C 5 5 dX14_wayNow_92 rfl ?_
          refine q_iconst (pc := 94) C 1 dX14_wayNow_94 (by decide) ?_
          refine q_aload (pc := 95) C 7 0 dX14_wayNow_95 rfl ?_
          refine q_gIN (pc := 97) C h (host := "LullabygateModel") (T := TX10) rfl (by decide) (by decide +kernel) 1420 (by decide +kernel) (fun _ h9 => h9) dX14_wayNow_97 (fun x17 h => ?_)
          refine q_ishl (pc := 100) C dX14_wayNow_100 ?_
          refine m_stk (st2 := .int (m_shl 1 x17) :: _) rfl ?_
          refine q_ior (pc := 101) C dX14_wayNow_101 ?_
          refine q_istore (pc := 102) C 5 [(5, .int (l5 ||| (m_shl 1 x17))), (7, va_rf x7), (0, va_rf l0), (2, .int l2), (3, .int l3), (4, .int l4), (6, .int l6)] dX14_wayNow_102 (by decide) (by first | rfl | simp [q_cat, q_catI, q_catJ, q_catR, q_catN]) ?_
          refine q_widen (k2 := 0) (n2 := 0) (by omega) (by omega) ?_
          refine q_lv [2, 3, 4, 5, 0, 6, 1] rfl ?_
          exact tX14_wayNow_104 C hr hlocks hR7 ih h
      · have h := h.1 c14
        refine q_goto (pc := 76) C 129 dX14_wayNow_76 (by decide) ?_
        refine q_widen (k2 := 0) (n2 := 0) (by omega) (by omega) ?_
        refine q_lv [1, 2, 3, 4, 5, 6] rfl ?_
        exact tX14_wayNow_129 C hr hlocks hR7 ih h
set_option maxRecDepth 100000 in
set_option maxHeartbeats 4000000 in
theorem tX14_wayNow_7 {p : Program} {l : Launch} {e : Env} {s : State} {m : MethodId} {args : Array Value} {below : List Frame} {meth : Method} {c : Code} {G : mG} {b0 : Nat} (C : m_C p s m args c cX14_wayNow 8 RX14 wsX14_wayNow G b0) (hr : meth.sig.returnType = (some .int)) (hlocks : meth.locks = false) {κ : Int32 → mM → Prop} : ∀ (f : Nat) (l0 : Option Nat) (l2 : Int32) (l3 : Int32) (l4 : Int32) (M : mM), wX14_wayNow_7 κ f l0 l2 l3 l4 M → m_W p l e ({ frames := 3, cells := 0, slots := 0, locals := 64 } : Room) s m args below meth c G b0 (MQ below (va_Qi κ (m_B G b0) (fun q => b0 ≤ q)) args s 0 0 (fun q => b0 ≤ q)) 8 M 0 0 7 [(0, va_rf l0), (2, .int l2), (3, .int l3), (4, .int l4)] [] := by
  intro f
  induction f with
  | zero =>
    intro l0 l2 l3 l4 M h
    exact absurd h (by simp [wX14_wayNow_7])
  | succ f ih =>
    intro l0 l2 l3 l4 M h
    rw [wX14_wayNow_7] at h
    refine q_iload (pc := 7) C 4 3 dX14_wayNow_7 rfl ?_
    refine q_bipush (pc := 9) C 72 dX14_wayNow_9 (by decide) ?_
    refine q_icmp_gt (pc := 11) C 144 dX14_wayNow_11 (by decide) (fun c1 => ?_) (fun c1 => ?_)
    · have h := h.1 c1
      refine q_iconst (pc := 144) C (-1) dX14_wayNow_144 (by decide) ?_
      exact q_iret (pc := 145) C hr hlocks h dX14_wayNow_145 (by omega) (by omega)
    · have h := h.2 c1
      refine q_iload_n (pc := 14) C 3 2 dX14_wayNow_14 rfl rfl ?_
      refine q_iload_n (pc := 15) C 2 1 dX14_wayNow_15 rfl rfl ?_
      refine q_ishr (pc := 16) C dX14_wayNow_16 ?_
      refine m_stk (st2 := .int (m_shr l3 l2) :: _) rfl ?_
      refine q_iconst (pc := 17) C 1 dX14_wayNow_17 (by decide) ?_
      refine q_iand (pc := 18) C dX14_wayNow_18 ?_
      refine q_iconst (pc := 19) C 1 dX14_wayNow_19 (by decide) ?_
      refine q_icmp_ne (pc := 20) C 26 dX14_wayNow_20 (by decide) (fun c2 => ?_) (fun c2 => ?_)
      · have h := h.2 c2
        refine q_iload_n (pc := 26) C 3 2 dX14_wayNow_26 rfl rfl ?_
        refine q_istore (pc := 27) C 5 [(5, .int l3), (0, va_rf l0), (2, .int l2), (3, .int l3), (4, .int l4)] dX14_wayNow_27 (by decide) (by first | rfl | simp [q_cat, q_catI, q_catJ, q_catR, q_catN]) ?_
        refine q_iconst (pc := 29) C 0 dX14_wayNow_29 (by decide) ?_
        refine q_istore (pc := 30) C 6 [(6, .int 0), (5, .int l3), (0, va_rf l0), (2, .int l2), (3, .int l3), (4, .int l4)] dX14_wayNow_30 (by decide) (by first | rfl | simp [q_cat, q_catI, q_catJ, q_catR, q_catN]) ?_
        refine q_widen (k2 := 0) (n2 := 0) (by omega) (by omega) ?_
        refine q_lv [2, 3, 4, 5, 1, 0] rfl ?_
        obtain ⟨f9, h⟩ := h
        exact tX14_wayNow_32 C hr hlocks ih f9 _ _ _ _ _ _ _ h
      · have h := h.1 c2
        refine q_iload (pc := 23) C 4 3 dX14_wayNow_23 rfl ?_
        exact q_iret (pc := 25) C hr hlocks h dX14_wayNow_25 (by omega) (by omega)
set_option maxRecDepth 100000 in
set_option maxHeartbeats 4000000 in
theorem tX14_wayNow {p : Program} {l : Launch} {e : Env} {s : State} {m : MethodId} {args : Array Value} {below : List Frame} {meth : Method} {c : Code} {G : mG} {b0 : Nat} (C : m_C p s m args c cX14_wayNow 8 RX14 wsX14_wayNow G b0) (hr : meth.sig.returnType = (some .int)) (hlocks : meth.locks = false) {κ : Int32 → mM → Prop} {l0 : Option Nat} {l1 : Int32} {l2 : Int32} {M : mM} (h : wX14_wayNow κ l0 l1 l2 M) : m_W p l e ({ frames := 3, cells := 0, slots := 0, locals := 64 } : Room) s m args below meth c G b0 (MQ below (va_Qi κ (m_B G b0) (fun q => b0 ≤ q)) args s 0 0 (fun q => b0 ≤ q)) 8 M 0 0 0 [(0, va_rf l0), (1, .int l1), (2, .int l2)] [] := by
  unfold wX14_wayNow at h
  refine q_iconst (pc := 0) C 1 dX14_wayNow_0 (by decide) ?_
  refine q_iload_n (pc := 1) C 1 1 dX14_wayNow_1 rfl rfl ?_
  refine q_ishl (pc := 2) C dX14_wayNow_2 ?_
  refine m_stk (st2 := .int (m_shl 1 l1) :: _) rfl ?_
  refine q_istore_n (pc := 3) C 3 [(3, .int (m_shl 1 l1)), (0, va_rf l0), (1, .int l1), (2, .int l2)] dX14_wayNow_3 rfl (by decide) (by first | rfl | simp [q_cat, q_catI, q_catJ, q_catR, q_catN]) ?_
  refine q_iconst (pc := 4) C 0 dX14_wayNow_4 (by decide) ?_
  refine q_istore (pc := 5) C 4 [(4, .int 0), (3, .int (m_shl 1 l1)), (0, va_rf l0), (1, .int l1), (2, .int l2)] dX14_wayNow_5 (by decide) (by first | rfl | simp [q_cat, q_catI, q_catJ, q_catR, q_catN]) ?_
  refine q_widen (k2 := 0) (n2 := 0) (by omega) (by omega) ?_
  refine q_lv [2, 4, 1, 0] rfl ?_
  obtain ⟨f9, h⟩ := h
  exact tX14_wayNow_7 C hr hlocks f9 _ _ _ _ _ h
set_option maxRecDepth 100000 in
set_option maxHeartbeats 4000000 in
theorem kX14_wayNow (l : Launch) (G : mG) (b0 : Nat) {b : Nat} {l1 : Int32} {l2 : Int32} {M : mM} {κ : Int32 → mM → Prop} (h : wX14_wayNow κ (some b) l1 l2 M) : Met l yX14_wayNow wsX14_wayNow ({ frames := 3, cells := 0, slots := 0, locals := 64 } : Room) (va_Pc [.ref b, .int l1, .int l2] (m_Pre G b0 M)) (va_Qi κ (m_B G b0) (fun q => b0 ≤ q)) 0 0 (fun q => b0 ≤ q) := by
  refine m_met (cc := cX14_wayNow) (maxL := 8) (ret := (some .int)) (lv := [(0, va_rf (some b)), (1, .int l1), (2, .int l2)]) RX14 rfl (by decide +kernel) rfl (by first | exact Nat.le_of_ble_eq_true rfl | simp [lg_sl, q_cat, q_catI, q_catJ, q_catR, q_catN]) (by first | rfl | (simp [lv_args, q_cat, q_catI, q_catJ, q_catR, q_catN]; done) | (simp [lv_args, q_cat, q_catI, q_catJ, q_catR, q_catN]; rfl)) ?_
  intro p e s m args below meth c C hr hlocks hni
  exact tX14_wayNow C hr hlocks h
/-! X14_way -/
set_option maxRecDepth 100000 in
set_option maxHeartbeats 4000000 in
theorem tX14_way_30 {p : Program} {l : Launch} {e : Env} {s : State} {m : MethodId} {args : Array Value} {below : List Frame} {meth : Method} {c : Code} {G : mG} {b0 : Nat} (C : m_C p s m args c cX14_way 3 RX14 wsX14_way G b0) (hr : meth.sig.returnType = (some .int)) (hlocks : meth.locks = false) {κ : Int32 → mM → Prop} {l0 : Option Nat} {M : mM} (h : wX14_way_30 κ l0 M) : m_W p l e ({ frames := 4, cells := 0, slots := 0, locals := 91 } : Room) s m args below meth c G b0 (MQ below (va_Qi κ (m_B G b0) (fun q => b0 ≤ q)) args s 0 0 (fun q => b0 ≤ q)) 3 M 0 0 30 [(0, va_rf l0)] [] := by
  unfold wX14_way_30 at h
  refine q_aload_n (pc := 30) C 0 0 dX14_way_30 rfl rfl ?_
  refine q_iconst (pc := 31) C 1 dX14_way_31 (by decide) ?_
  obtain ⟨b3, fs9, hb3, hm9, h⟩ := h
  refine q_ci (pc := 32) (q_rV C (st := []) (b := b3) (kX14_refuse l G b0 h) (cwV 1 C.2.2.2.2.1 gX14_way_X14_refuse rfl rfl rfl (by decide +kernel) ⟨Nat.le_of_ble_eq_true rfl, Nat.le_of_ble_eq_true rfl⟩) hm9 rfl rfl rfl (by first | exact Nat.le_of_ble_eq_true rfl | (simp [q_cat, q_catI, q_catJ, q_catR, q_catN]; done)) (by rw [hb3]; first | done | rfl) dX14_way_32 ⟨(by first | omega | (dsimp only; omega)), (by first | omega | (dsimp only; omega))⟩) (fun x1 M2 h => ?_)
  exact q_iret (pc := 35) C hr hlocks h dX14_way_35 (by omega) (by omega)
set_option maxRecDepth 100000 in
set_option maxHeartbeats 4000000 in
theorem tX14_way {p : Program} {l : Launch} {e : Env} {s : State} {m : MethodId} {args : Array Value} {below : List Frame} {meth : Method} {c : Code} {G : mG} {b0 : Nat} (C : m_C p s m args c cX14_way 3 RX14 wsX14_way G b0) (hr : meth.sig.returnType = (some .int)) (hlocks : meth.locks = false) {κ : Int32 → mM → Prop} {l0 : Option Nat} {l1 : Int32} {l2 : Int32} {M : mM} (h : wX14_way κ l0 l1 l2 M) : m_W p l e ({ frames := 4, cells := 0, slots := 0, locals := 91 } : Room) s m args below meth c G b0 (MQ below (va_Qi κ (m_B G b0) (fun q => b0 ≤ q)) args s 0 0 (fun q => b0 ≤ q)) 3 M 0 0 0 [(0, va_rf l0), (1, .int l1), (2, .int l2)] [] := by
  unfold wX14_way at h
  refine q_aload_n (pc := 0) C 0 0 dX14_way_0 rfl rfl ?_
  refine q_iconst (pc := 1) C 0 dX14_way_1 (by decide) ?_
  refine q_p (pc := 2) C h .int (T := TX14) tyX14 tyX14_ok nmX14 rfl (by decide +kernel) rfl rfl rfl (by decide) (wk_u rfl wm_X14_way uq_X14 (by decide +kernel)) (by decide +kernel) (fun _ h9 => h9) rfl dX14_way_2 (fun M1 h => ?_)
  refine q_aload_n (pc := 5) C 0 0 dX14_way_5 rfl rfl ?_
  refine q_iload_n (pc := 6) C 1 1 dX14_way_6 rfl rfl ?_
  obtain ⟨b4, fs9, hb4, hm9, h⟩ := h
  refine q_ci (pc := 7) (q_rV C (st := []) (b := b4) (kX14_isLand l G b0 h) (cwV 1 C.2.2.2.2.1 gX14_way_X14_isLand rfl rfl rfl (by decide +kernel) ⟨Nat.le_of_ble_eq_true rfl, Nat.le_of_ble_eq_true rfl⟩) hm9 rfl rfl rfl (by first | exact Nat.le_of_ble_eq_true rfl | (simp [q_cat, q_catI, q_catJ, q_catR, q_catN]; done)) (by rw [hb4]; first | done | rfl) dX14_way_7 ⟨(by first | omega | (dsimp only; omega)), (by first | omega | (dsimp only; omega))⟩) (fun x2 M3 h => ?_)
  refine q_if_eq (pc := 10) C 30 dX14_way_10 (by decide) (fun c5 => ?_) (fun c5 => ?_)
  · have h := h.1 c5
    refine q_widen (k2 := 0) (n2 := 0) (by omega) (by omega) ?_
    refine q_lv [0] rfl ?_
    exact tX14_way_30 C hr hlocks h
  · have h := h.2 c5
    refine q_aload_n (pc := 13) C 0 0 dX14_way_13 rfl rfl ?_
    refine q_iload_n (pc := 14) C 2 2 dX14_way_14 rfl rfl ?_
    obtain ⟨b8, fs9, hb8, hm9, h⟩ := h
    refine q_ci (pc := 15) (q_rV C (st := []) (b := b8) (kX14_isLand l G b0 h) (cwV 1 C.2.2.2.2.1 gX14_way_X14_isLand rfl rfl rfl (by decide +kernel) ⟨Nat.le_of_ble_eq_true rfl, Nat.le_of_ble_eq_true rfl⟩) hm9 rfl rfl rfl (by first | exact Nat.le_of_ble_eq_true rfl | (simp [q_cat, q_catI, q_catJ, q_catR, q_catN]; done)) (by rw [hb8]; first | done | rfl) dX14_way_15 ⟨(by first | omega | (dsimp only; omega)), (by first | omega | (dsimp only; omega))⟩) (fun x6 M7 h => ?_)
    refine q_if_eq (pc := 18) C 30 dX14_way_18 (by decide) (fun c9 => ?_) (fun c9 => ?_)
    · have h := h.1 c9
      refine q_widen (k2 := 0) (n2 := 0) (by omega) (by omega) ?_
      refine q_lv [0] rfl ?_
      exact tX14_way_30 C hr hlocks h
    · have h := h.2 c9
      refine q_aload_n (pc := 21) C 0 0 dX14_way_21 rfl rfl ?_
      refine q_iload_n (pc := 22) C 1 1 dX14_way_22 rfl rfl ?_
      refine q_iload_n (pc := 23) C 2 2 dX14_way_23 rfl rfl ?_
      obtain ⟨b12, fs9, hb12, hm9, h⟩ := h
      refine q_ci (pc := 24) (q_rV C (st := []) (b := b12) (kX14_wayNow l G b0 h) (cwV 2 C.2.2.2.2.1 gX14_way_X14_wayNow rfl rfl rfl (by decide +kernel) ⟨Nat.le_of_ble_eq_true rfl, Nat.le_of_ble_eq_true rfl⟩) hm9 rfl rfl rfl (by first | exact Nat.le_of_ble_eq_true rfl | (simp [q_cat, q_catI, q_catJ, q_catR, q_catN]; done)) (by rw [hb12]; first | done | rfl) dX14_way_24 ⟨(by first | omega | (dsimp only; omega)), (by first | omega | (dsimp only; omega))⟩) (fun x10 M11 h => ?_)
      refine q_goto (pc := 27) C 35 dX14_way_27 (by decide) ?_
      exact q_iret (pc := 35) C hr hlocks h dX14_way_35 (by omega) (by omega)
set_option maxRecDepth 100000 in
set_option maxHeartbeats 4000000 in
theorem kX14_way (l : Launch) (G : mG) (b0 : Nat) {b : Nat} {l1 : Int32} {l2 : Int32} {M : mM} {κ : Int32 → mM → Prop} (h : wX14_way κ (some b) l1 l2 M) : Met l yX14_way wsX14_way ({ frames := 4, cells := 0, slots := 0, locals := 91 } : Room) (va_Pc [.ref b, .int l1, .int l2] (m_Pre G b0 M)) (va_Qi κ (m_B G b0) (fun q => b0 ≤ q)) 0 0 (fun q => b0 ≤ q) := by
  refine m_met (cc := cX14_way) (maxL := 3) (ret := (some .int)) (lv := [(0, va_rf (some b)), (1, .int l1), (2, .int l2)]) RX14 rfl (by decide +kernel) rfl (by first | exact Nat.le_of_ble_eq_true rfl | simp [lg_sl, q_cat, q_catI, q_catJ, q_catR, q_catN]) (by first | rfl | (simp [lv_args, q_cat, q_catI, q_catJ, q_catR, q_catN]; done) | (simp [lv_args, q_cat, q_catI, q_catJ, q_catR, q_catN]; rfl)) ?_
  intro p e s m args below meth c C hr hlocks hni
  exact tX14_way C hr hlocks h
