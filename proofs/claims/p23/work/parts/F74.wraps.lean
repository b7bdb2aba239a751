/-! L_land -/
def wsL_landA : List Cond := wsL_land ++ m_ex
set_option maxRecDepth 100000 in
set_option maxHeartbeats 4000000 in
theorem tL_land {p : Program} {l : Launch} {e : Env} {s : State} {m : MethodId} {args : Array Value} {below : List Frame} {meth : Method} {c : Code} {G : mG} {b0 : Nat} (C : m_C p s m args c cL_land 6 RL wsL_landA G b0) (hr : meth.sig.returnType = (some .int)) (hlocks : meth.locks = false) (hL : l.stackTraces = false) (hN : m_N s) (hxt : c.exceptionTable.toList = tableOf [(0, 13, 16, 19), (0, 13, 20, 21)]) {κ : Int32 → mM → Prop} {l0 : Option Nat} {l1 : Int32} {l2 : Int32} {l3 : Int32} {l4 : Option Nat} {M : mM} (h : wL_land κ l0 l1 l2 l3 l4 M) : m_W p l e ({ frames := 8, cells := 3, slots := 18, locals := 137 } : Room) s m args below meth c G b0 (vx_MQ below (va_Qi κ (m_B G b0) (fun q => b0 ≤ q)) (fun _ _ _ => False) args s 3 18 (fun q => b0 ≤ q)) 6 M 0 0 0 [(0, va_rf l0), (1, .int l1), (2, .int l2), (3, .int l3), (4, va_rf l4)] [] := by
  unfold wL_land at h
  refine q_aload (pc := 0) C 4 4 dL_land_0 rfl ?_
  refine q_aload_n (pc := 2) C 0 0 dL_land_2 rfl rfl ?_
  refine q_iload_n (pc := 3) C 1 1 dL_land_3 rfl rfl ?_
  refine q_iload_n (pc := 4) C 2 2 dL_land_4 rfl rfl ?_
  refine q_iload_n (pc := 5) C 3 3 dL_land_5 rfl rfl ?_
  obtain ⟨b3, fs9, hb3, hm9, h⟩ := h
  refine q_cXi (pc := 6) (q_rVX C (st := [va_rf l4]) (b := b3) (kX8_land l G b0 (t := 1) hL (fun _ _ _ => Nat.le_refl 1) h) (cwV 3 C.2.2.2.2.1 (m_gapp gL_land_X8_land) rfl rfl rfl (by decide +kernel) ⟨Nat.le_of_ble_eq_true rfl, Nat.le_of_ble_eq_true rfl⟩) hm9 rfl rfl rfl (by first | exact Nat.le_of_ble_eq_true rfl | (simp [q_cat, q_catI, q_catJ, q_catR, q_catN]; done)) (by rw [hb3]; first | done | rfl) dL_land_6 ⟨(by first | omega | (dsimp only; omega)), (by first | omega | (dsimp only; omega))⟩) ?_ ?_
  · intro E9 M9 h9
    rcases h9 with ⟨rfl, h⟩ | ⟨rfl, h⟩
    · refine q_catch (pc := 6) C hxt (E := "java/lang/IndexOutOfBoundsException") (name := "java/lang/IndexOutOfBoundsException") [] ⟨0, 13, 16, 19⟩ [⟨0, 13, 20, 21⟩] rfl (fun z hz => by cases hz) (by decide) (by decide) (by decide +kernel) 326 (by decide +kernel) (fun q9 => ?_)
      refine q_astore (pc := 16) C 5 [(5, va_rf (some q9)), (0, va_rf l0), (1, .int l1), (2, .int l2), (3, .int l3), (4, va_rf l4)] dL_land_16 (by decide) (by first | rfl | simp [q_cat, q_catI, q_catJ, q_catR, q_catN]) ?_
      refine q_iconst (pc := 18) C 1 dL_land_18 (by decide) ?_
      exact q_iretX (pc := 19) C hr hlocks h dL_land_19 (by omega) (by omega)
    · refine q_catch (pc := 6) C hxt (E := "java/lang/IllegalArgumentException") (name := "java/lang/IllegalArgumentException") [⟨0, 13, 16, 19⟩] ⟨0, 13, 20, 21⟩ [] rfl (fun z hz => by rw [List.mem_singleton.mp hz]; exact Or.inr ⟨by decide, "java/lang/IndexOutOfBoundsException", by decide +kernel, hN.1⟩) (by decide) (by decide) (by decide +kernel) 250 (by decide +kernel) (fun q9 => ?_)
      refine q_astore (pc := 20) C 5 [(5, va_rf (some q9)), (0, va_rf l0), (1, .int l1), (2, .int l2), (3, .int l3), (4, va_rf l4)] dL_land_20 (by decide) (by first | rfl | simp [q_cat, q_catI, q_catJ, q_catR, q_catN]) ?_
      refine q_iconst (pc := 22) C 2 dL_land_22 (by decide) ?_
      exact q_iretX (pc := 23) C hr hlocks h dL_land_23 (by omega) (by omega)
  · intro x1 M2 h
    refine q_i2l (pc := 9) C dL_land_9 ?_
    refine q_pN (pc := 10) C h .long (host := "LullabygateLaw") (T := TX9) tyX9 tyX9_ok nmX9 rfl (by decide +kernel) rfl rfl rfl (by decide) (by decide +kernel) 528 (by decide +kernel) (fun _ h9 => h9) rfl dL_land_10 (fun M4 h => ?_)
    refine q_goto (pc := 13) C 24 dL_land_13 (by decide) ?_
    refine q_iconst (pc := 24) C 0 dL_land_24 (by decide) ?_
    exact q_iretX (pc := 25) C hr hlocks h dL_land_25 (by omega) (by omega)
set_option maxRecDepth 100000 in
set_option maxHeartbeats 4000000 in
theorem kL_land (l : Launch) (G : mG) (b0 : Nat) (hL : l.stackTraces = false) {l0 : Option Nat} {l1 : Int32} {l2 : Int32} {l3 : Int32} {l4 : Option Nat} {M : mM} {κ : Int32 → mM → Prop} (h : wL_land κ l0 l1 l2 l3 l4 M) : Met l yL_land wsL_landA ({ frames := 8, cells := 3, slots := 18, locals := 137 } : Room) (va_Pc [va_rf l0, .int l1, .int l2, .int l3, va_rf l4] (m_PreN G b0 M)) (va_Qi κ (m_B G b0) (fun q => b0 ≤ q)) 3 18 (fun q => b0 ≤ q) := by
  refine m_metH (hh := [(0, 13, 16, 19), (0, 13, 20, 21)]) (cc := cL_land) (maxL := 6) (ret := (some .int)) (lv := [(0, va_rf l0), (1, .int l1), (2, .int l2), (3, .int l3), (4, va_rf l4)]) RL rfl (by decide +kernel) rfl (by first | exact Nat.le_of_ble_eq_true rfl | simp [lg_sl, q_cat, q_catI, q_catJ, q_catR, q_catN]) (by first | rfl | (simp [lv_args, q_cat, q_catI, q_catJ, q_catR, q_catN]; done) | (simp [lv_args, q_cat, q_catI, q_catJ, q_catR, q_catN]; rfl)) ?_
  intro p e s m args below meth c C hN hr hlocks hxt
  exact tL_land C hr hlocks hL hN hxt h
/-! L_trade -/
def wsL_tradeA : List Cond := wsL_trade ++ m_ex
set_option maxRecDepth 100000 in
set_option maxHeartbeats 4000000 in
theorem tL_trade {p : Program} {l : Launch} {e : Env} {s : State} {m : MethodId} {args : Array Value} {below : List Frame} {meth : Method} {c : Code} {G : mG} {b0 : Nat} (C : m_C p s m args c cL_trade 6 RL wsL_tradeA G b0) (hr : meth.sig.returnType = (some .int)) (hlocks : meth.locks = false) (hL : l.stackTraces = false) (hN : m_N s) (hxt : c.exceptionTable.toList = tableOf [(0, 13, 16, 19), (0, 13, 20, 21), (0, 13, 24, 26)]) {κ : Int32 → mM → Prop} {l0 : Option Nat} {l1 : Int32} {l2 : Int32} {l3 : Int32} {l4 : Option Nat} {M : mM} (h : wL_trade κ l0 l1 l2 l3 l4 M) : m_W p l e ({ frames := 8, cells := 3, slots := 18, locals := 136 } : Room) s m args below meth c G b0 (vx_MQ below (va_Qi κ (m_B G b0) (fun q => b0 ≤ q)) (fun _ _ _ => False) args s 3 18 (fun q => b0 ≤ q)) 6 M 0 0 0 [(0, va_rf l0), (1, .int l1), (2, .int l2), (3, .int l3), (4, va_rf l4)] [] := by
  unfold wL_trade at h
  refine q_aload (pc := 0) C 4 4 dL_trade_0 rfl ?_
  refine q_aload_n (pc := 2) C 0 0 dL_trade_2 rfl rfl ?_
  refine q_iload_n (pc := 3) C 1 1 dL_trade_3 rfl rfl ?_
  refine q_iload_n (pc := 4) C 2 2 dL_trade_4 rfl rfl ?_
  refine q_iload_n (pc := 5) C 3 3 dL_trade_5 rfl rfl ?_
  obtain ⟨b3, fs9, hb3, hm9, h⟩ := h
  refine q_cXi (pc := 6) (q_rVX C (st := [va_rf l4]) (b := b3) (kX8_trade l G b0 (t := 1) hL (fun _ _ _ => Nat.le_refl 1) h) (cwV 3 C.2.2.2.2.1 (m_gapp gL_trade_X8_trade) rfl rfl rfl (by decide +kernel) ⟨Nat.le_of_ble_eq_true rfl, Nat.le_of_ble_eq_true rfl⟩) hm9 rfl rfl rfl (by first | exact Nat.le_of_ble_eq_true rfl | (simp [q_cat, q_catI, q_catJ, q_catR, q_catN]; done)) (by rw [hb3]; first | done | rfl) dL_trade_6 ⟨(by first | omega | (dsimp only; omega)), (by first | omega | (dsimp only; omega))⟩) ?_ ?_
  · intro E9 M9 h9
    rcases h9 with ⟨rfl, h⟩ | ⟨rfl, h⟩ | ⟨rfl, h⟩
    · refine q_catch (pc := 6) C hxt (E := "java/lang/IndexOutOfBoundsException") (name := "java/lang/IndexOutOfBoundsException") [] ⟨0, 13, 16, 19⟩ [⟨0, 13, 20, 21⟩, ⟨0, 13, 24, 26⟩] rfl (fun z hz => by cases hz) (by decide) (by decide) (by decide +kernel) 326 (by decide +kernel) (fun q9 => ?_)
      refine q_astore (pc := 16) C 5 [(5, va_rf (some q9)), (0, va_rf l0), (1, .int l1), (2, .int l2), (3, .int l3), (4, va_rf l4)] dL_trade_16 (by decide) (by first | rfl | simp [q_cat, q_catI, q_catJ, q_catR, q_catN]) ?_
      refine q_iconst (pc := 18) C 1 dL_trade_18 (by decide) ?_
      exact q_iretX (pc := 19) C hr hlocks h dL_trade_19 (by omega) (by omega)
    · refine q_catch (pc := 6) C hxt (E := "java/lang/IllegalArgumentException") (name := "java/lang/IllegalArgumentException") [⟨0, 13, 16, 19⟩] ⟨0, 13, 20, 21⟩ [⟨0, 13, 24, 26⟩] rfl (fun z hz => by rw [List.mem_singleton.mp hz]; exact Or.inr ⟨by decide, "java/lang/IndexOutOfBoundsException", by decide +kernel, hN.1⟩) (by decide) (by decide) (by decide +kernel) 250 (by decide +kernel) (fun q9 => ?_)
      refine q_astore (pc := 20) C 5 [(5, va_rf (some q9)), (0, va_rf l0), (1, .int l1), (2, .int l2), (3, .int l3), (4, va_rf l4)] dL_trade_20 (by decide) (by first | rfl | simp [q_cat, q_catI, q_catJ, q_catR, q_catN]) ?_
      refine q_iconst (pc := 22) C 2 dL_trade_22 (by decide) ?_
      exact q_iretX (pc := 23) C hr hlocks h dL_trade_23 (by omega) (by omega)
    · refine q_catch (pc := 6) C hxt (E := "java/lang/IllegalStateException") (name := "java/lang/IllegalStateException") [⟨0, 13, 16, 19⟩, ⟨0, 13, 20, 21⟩] ⟨0, 13, 24, 26⟩ [] rfl (fun z hz => (List.mem_cons.mp hz).elim (fun e9 => by rw [e9]; exact Or.inr ⟨by decide, "java/lang/IndexOutOfBoundsException", by decide +kernel, hN.2.1⟩) (fun hz => by rw [List.mem_singleton.mp hz]; exact Or.inr ⟨by decide, "java/lang/IllegalArgumentException", by decide +kernel, hN.2.2⟩)) (by decide) (by decide) (by decide +kernel) 555 (by decide +kernel) (fun q9 => ?_)
      refine q_astore (pc := 24) C 5 [(5, va_rf (some q9)), (0, va_rf l0), (1, .int l1), (2, .int l2), (3, .int l3), (4, va_rf l4)] dL_trade_24 (by decide) (by first | rfl | simp [q_cat, q_catI, q_catJ, q_catR, q_catN]) ?_
      refine q_iconst (pc := 26) C 3 dL_trade_26 (by decide) ?_
      exact q_iretX (pc := 27) C hr hlocks h dL_trade_27 (by omega) (by omega)
  · intro x1 M2 h
    refine q_i2l (pc := 9) C dL_trade_9 ?_
    refine q_pN (pc := 10) C h .long (host := "LullabygateLaw") (T := TX9) tyX9 tyX9_ok nmX9 rfl (by decide +kernel) rfl rfl rfl (by decide) (by decide +kernel) 528 (by decide +kernel) (fun _ h9 => h9) rfl dL_trade_10 (fun M4 h => ?_)
    refine q_goto (pc := 13) C 28 dL_trade_13 (by decide) ?_
    refine q_iconst (pc := 28) C 0 dL_trade_28 (by decide) ?_
    exact q_iretX (pc := 29) C hr hlocks h dL_trade_29 (by omega) (by omega)
set_option maxRecDepth 100000 in
set_option maxHeartbeats 4000000 in
theorem kL_trade (l : Launch) (G : mG) (b0 : Nat) (hL : l.stackTraces = false) {l0 : Option Nat} {l1 : Int32} {l2 : Int32} {l3 : Int32} {l4 : Option Nat} {M : mM} {κ : Int32 → mM → Prop} (h : wL_trade κ l0 l1 l2 l3 l4 M) : Met l yL_trade wsL_tradeA ({ frames := 8, cells := 3, slots := 18, locals := 136 } : Room) (va_Pc [va_rf l0, .int l1, .int l2, .int l3, va_rf l4] (m_PreN G b0 M)) (va_Qi κ (m_B G b0) (fun q => b0 ≤ q)) 3 18 (fun q => b0 ≤ q) := by
  refine m_metH (hh := [(0, 13, 16, 19), (0, 13, 20, 21), (0, 13, 24, 26)]) (cc := cL_trade) (maxL := 6) (ret := (some .int)) (lv := [(0, va_rf l0), (1, .int l1), (2, .int l2), (3, .int l3), (4, va_rf l4)]) RL rfl (by decide +kernel) rfl (by first | exact Nat.le_of_ble_eq_true rfl | simp [lg_sl, q_cat, q_catI, q_catJ, q_catR, q_catN]) (by first | rfl | (simp [lv_args, q_cat, q_catI, q_catJ, q_catR, q_catN]; done) | (simp [lv_args, q_cat, q_catI, q_catJ, q_catR, q_catN]; rfl)) ?_
  intro p e s m args below meth c C hN hr hlocks hxt
  exact tL_trade C hr hlocks hL hN hxt h
/-! L_gate -/
def wsL_gateA : List Cond := wsL_gate ++ m_ex
set_option maxRecDepth 100000 in
set_option maxHeartbeats 4000000 in
theorem tL_gate {p : Program} {l : Launch} {e : Env} {s : State} {m : MethodId} {args : Array Value} {below : List Frame} {meth : Method} {c : Code} {G : mG} {b0 : Nat} (C : m_C p s m args c cL_gate 7 RL wsL_gateA G b0) (hr : meth.sig.returnType = (some .int)) (hlocks : meth.locks = false) (hL : l.stackTraces = false) (hN : m_N s) (hxt : c.exceptionTable.toList = tableOf [(0, 15, 18, 19), (0, 15, 22, 21), (0, 15, 26, 26)]) {g : Nat → Nat} (hg : G.2.2 = g) {κ : Int32 → mM → Prop} {l0 : Option Nat} {l1 : Int32} {l2 : Int32} {l3 : Int32} {l4 : Int32} {l5 : Option Nat} {M : mM} (h : wL_gate g κ l0 l1 l2 l3 l4 l5 M) : m_W p l e ({ frames := 8, cells := 10, slots := 57, locals := 198 } : Room) s m args below meth c G b0 (vx_MQ below (va_Qi κ (m_B G b0) (fun q => b0 ≤ q)) (fun _ _ _ => False) args s 10 57 (fun q => b0 ≤ q)) 7 M 0 0 0 [(0, va_rf l0), (1, .int l1), (2, .int l2), (3, .int l3), (4, .int l4), (5, va_rf l5)] [] := by
  unfold wL_gate at h
  refine q_aload (pc := 0) C 5 5 dL_gate_0 rfl ?_
  refine q_aload_n (pc := 2) C 0 0 dL_gate_2 rfl rfl ?_
  refine q_iload_n (pc := 3) C 1 1 dL_gate_3 rfl rfl ?_
  refine q_iload_n (pc := 4) C 2 2 dL_gate_4 rfl rfl ?_
  refine q_iload_n (pc := 5) C 3 3 dL_gate_5 rfl rfl ?_
  refine q_iload (pc := 6) C 4 4 dL_gate_6 rfl ?_
  obtain ⟨b3, fs9, hb3, hm9, h⟩ := h
  refine q_cXi (pc := 8) (q_rVX C (st := [va_rf l5]) (b := b3) (kX8_gate l G b0 (t := 1) hL hg (fun _ _ _ => Nat.le_refl 1) h) (cwV 4 C.2.2.2.2.1 (m_gapp gL_gate_X8_gate) rfl rfl rfl (by decide +kernel) ⟨Nat.le_of_ble_eq_true rfl, Nat.le_of_ble_eq_true rfl⟩) hm9 rfl rfl rfl (by first | exact Nat.le_of_ble_eq_true rfl | (simp [q_cat, q_catI, q_catJ, q_catR, q_catN]; done)) (by rw [hb3]; first | done | rfl) dL_gate_8 ⟨(by first | omega | (dsimp only; omega)), (by first | omega | (dsimp only; omega))⟩) ?_ ?_
  · intro E9 M9 h9
    rcases h9 with ⟨rfl, h⟩ | ⟨rfl, h⟩ | ⟨rfl, h⟩
    · refine q_catch (pc := 8) C hxt (E := "java/lang/IndexOutOfBoundsException") (name := "java/lang/IndexOutOfBoundsException") [] ⟨0, 15, 18, 19⟩ [⟨0, 15, 22, 21⟩, ⟨0, 15, 26, 26⟩] rfl (fun z hz => by cases hz) (by decide) (by decide) (by decide +kernel) 326 (by decide +kernel) (fun q9 => ?_)
      refine q_astore (pc := 18) C 6 [(6, va_rf (some q9)), (0, va_rf l0), (1, .int l1), (2, .int l2), (3, .int l3), (4, .int l4), (5, va_rf l5)] dL_gate_18 (by decide) (by first | rfl | simp [q_cat, q_catI, q_catJ, q_catR, q_catN]) ?_
      refine q_iconst (pc := 20) C 1 dL_gate_20 (by decide) ?_
      exact q_iretX (pc := 21) C hr hlocks h dL_gate_21 (by omega) (by omega)
    · refine q_catch (pc := 8) C hxt (E := "java/lang/IllegalArgumentException") (name := "java/lang/IllegalArgumentException") [⟨0, 15, 18, 19⟩] ⟨0, 15, 22, 21⟩ [⟨0, 15, 26, 26⟩] rfl (fun z hz => by rw [List.mem_singleton.mp hz]; exact Or.inr ⟨by decide, "java/lang/IndexOutOfBoundsException", by decide +kernel, hN.1⟩) (by decide) (by decide) (by decide +kernel) 250 (by decide +kernel) (fun q9 => ?_)
      refine q_astore (pc := 22) C 6 [(6, va_rf (some q9)), (0, va_rf l0), (1, .int l1), (2, .int l2), (3, .int l3), (4, .int l4), (5, va_rf l5)] dL_gate_22 (by decide) (by first | rfl | simp [q_cat, q_catI, q_catJ, q_catR, q_catN]) ?_
      refine q_iconst (pc := 24) C 2 dL_gate_24 (by decide) ?_
      exact q_iretX (pc := 25) C hr hlocks h dL_gate_25 (by omega) (by omega)
    · refine q_catch (pc := 8) C hxt (E := "java/lang/IllegalStateException") (name := "java/lang/IllegalStateException") [⟨0, 15, 18, 19⟩, ⟨0, 15, 22, 21⟩] ⟨0, 15, 26, 26⟩ [] rfl (fun z hz => (List.mem_cons.mp hz).elim (fun e9 => by rw [e9]; exact Or.inr ⟨by decide, "java/lang/IndexOutOfBoundsException", by decide +kernel, hN.2.1⟩) (fun hz => by rw [List.mem_singleton.mp hz]; exact Or.inr ⟨by decide, "java/lang/IllegalArgumentException", by decide +kernel, hN.2.2⟩)) (by decide) (by decide) (by decide +kernel) 555 (by decide +kernel) (fun q9 => ?_)
      refine q_astore (pc := 26) C 6 [(6, va_rf (some q9)), (0, va_rf l0), (1, .int l1), (2, .int l2), (3, .int l3), (4, .int l4), (5, va_rf l5)] dL_gate_26 (by decide) (by first | rfl | simp [q_cat, q_catI, q_catJ, q_catR, q_catN]) ?_
      refine q_iconst (pc := 28) C 3 dL_gate_28 (by decide) ?_
      exact q_iretX (pc := 29) C hr hlocks h dL_gate_29 (by omega) (by omega)
  · intro x1 M2 h
    refine q_i2l (pc := 11) C dL_gate_11 ?_
    refine q_pN (pc := 12) C h .long (host := "LullabygateLaw") (T := TX9) tyX9 tyX9_ok nmX9 rfl (by decide +kernel) rfl rfl rfl (by decide) (by decide +kernel) 528 (by decide +kernel) (fun _ h9 => h9) rfl dL_gate_12 (fun M4 h => ?_)
    refine q_goto (pc := 15) C 30 dL_gate_15 (by decide) ?_
    refine q_iconst (pc := 30) C 0 dL_gate_30 (by decide) ?_
    exact q_iretX (pc := 31) C hr hlocks h dL_gate_31 (by omega) (by omega)
set_option maxRecDepth 100000 in
set_option maxHeartbeats 4000000 in
theorem kL_gate (l : Launch) (G : mG) (b0 : Nat) (hL : l.stackTraces = false) {g : Nat → Nat} (hg : G.2.2 = g) {l0 : Option Nat} {l1 : Int32} {l2 : Int32} {l3 : Int32} {l4 : Int32} {l5 : Option Nat} {M : mM} {κ : Int32 → mM → Prop} (h : wL_gate g κ l0 l1 l2 l3 l4 l5 M) : Met l yL_gate wsL_gateA ({ frames := 8, cells := 10, slots := 57, locals := 198 } : Room) (va_Pc [va_rf l0, .int l1, .int l2, .int l3, .int l4, va_rf l5] (m_PreN G b0 M)) (va_Qi κ (m_B G b0) (fun q => b0 ≤ q)) 10 57 (fun q => b0 ≤ q) := by
  refine m_metH (hh := [(0, 15, 18, 19), (0, 15, 22, 21), (0, 15, 26, 26)]) (cc := cL_gate) (maxL := 7) (ret := (some .int)) (lv := [(0, va_rf l0), (1, .int l1), (2, .int l2), (3, .int l3), (4, .int l4), (5, va_rf l5)]) RL rfl (by decide +kernel) rfl (by first | exact Nat.le_of_ble_eq_true rfl | simp [lg_sl, q_cat, q_catI, q_catJ, q_catR, q_catN]) (by first | rfl | (simp [lv_args, q_cat, q_catI, q_catJ, q_catR, q_catN]; done) | (simp [lv_args, q_cat, q_catI, q_catJ, q_catR, q_catN]; rfl)) ?_
  intro p e s m args below meth c C hN hr hlocks hxt
  exact tL_gate C hr hlocks hL hN hxt hg h
/-! L_odds -/
def wsL_oddsA : List Cond := wsL_odds ++ m_ex
set_option maxRecDepth 100000 in
set_option maxHeartbeats 4000000 in
theorem tL_odds {p : Program} {l : Launch} {e : Env} {s : State} {m : MethodId} {args : Array Value} {below : List Frame} {meth : Method} {c : Code} {G : mG} {b0 : Nat} (C : m_C p s m args c cL_odds 5 RL wsL_oddsA G b0) (hr : meth.sig.returnType = (some .int)) (hlocks : meth.locks = false) (hL : l.stackTraces = false) (hN : m_N s) (hxt : c.exceptionTable.toList = tableOf [(0, 11, 14, 19), (0, 11, 18, 21)]) {κ : Int32 → mM → Prop} {l0 : Option Nat} {l1 : Int32} {l2 : Int32} {l3 : Option Nat} {M : mM} (h : wL_odds κ l0 l1 l2 l3 M) : m_W p l e ({ frames := 8, cells := 2, slots := 12, locals := 136 } : Room) s m args below meth c G b0 (vx_MQ below (va_Qi κ (m_B G b0) (fun q => b0 ≤ q)) (fun _ _ _ => False) args s 2 12 (fun q => b0 ≤ q)) 5 M 0 0 0 [(0, va_rf l0), (1, .int l1), (2, .int l2), (3, va_rf l3)] [] := by
  unfold wL_odds at h
  refine q_aload_n (pc := 0) C 3 3 dL_odds_0 rfl rfl ?_
  refine q_aload_n (pc := 1) C 0 0 dL_odds_1 rfl rfl ?_
  refine q_iload_n (pc := 2) C 1 1 dL_odds_2 rfl rfl ?_
  refine q_iload_n (pc := 3) C 2 2 dL_odds_3 rfl rfl ?_
  obtain ⟨b3, fs9, hb3, hm9, h⟩ := h
  refine q_cXi (pc := 4) (q_rVX C (st := [va_rf l3]) (b := b3) (kX8_odds l G b0 (t := 1) hL (fun _ _ _ => Nat.le_refl 1) h) (cwV 2 C.2.2.2.2.1 (m_gapp gL_odds_X8_odds) rfl rfl rfl (by decide +kernel) ⟨Nat.le_of_ble_eq_true rfl, Nat.le_of_ble_eq_true rfl⟩) hm9 rfl rfl rfl (by first | exact Nat.le_of_ble_eq_true rfl | (simp [q_cat, q_catI, q_catJ, q_catR, q_catN]; done)) (by rw [hb3]; first | done | rfl) dL_odds_4 ⟨(by first | omega | (dsimp only; omega)), (by first | omega | (dsimp only; omega))⟩) ?_ ?_
  · intro E9 M9 h9
    rcases h9 with ⟨rfl, h⟩ | ⟨rfl, h⟩
    · refine q_catch (pc := 4) C hxt (E := "java/lang/IndexOutOfBoundsException") (name := "java/lang/IndexOutOfBoundsException") [] ⟨0, 11, 14, 19⟩ [⟨0, 11, 18, 21⟩] rfl (fun z hz => by cases hz) (by decide) (by decide) (by decide +kernel) 326 (by decide +kernel) (fun q9 => ?_)
      refine q_astore (pc := 14) C 4 [(4, va_rf (some q9)), (0, va_rf l0), (1, .int l1), (2, .int l2), (3, va_rf l3)] dL_odds_14 (by decide) (by first | rfl | simp [q_cat, q_catI, q_catJ, q_catR, q_catN]) ?_
      refine q_iconst (pc := 16) C 1 dL_odds_16 (by decide) ?_
      exact q_iretX (pc := 17) C hr hlocks h dL_odds_17 (by omega) (by omega)
    · refine q_catch (pc := 4) C hxt (E := "java/lang/IllegalArgumentException") (name := "java/lang/IllegalArgumentException") [⟨0, 11, 14, 19⟩] ⟨0, 11, 18, 21⟩ [] rfl (fun z hz => by rw [List.mem_singleton.mp hz]; exact Or.inr ⟨by decide, "java/lang/IndexOutOfBoundsException", by decide +kernel, hN.1⟩) (by decide) (by decide) (by decide +kernel) 250 (by decide +kernel) (fun q9 => ?_)
      refine q_astore (pc := 18) C 4 [(4, va_rf (some q9)), (0, va_rf l0), (1, .int l1), (2, .int l2), (3, va_rf l3)] dL_odds_18 (by decide) (by first | rfl | simp [q_cat, q_catI, q_catJ, q_catR, q_catN]) ?_
      refine q_iconst (pc := 20) C 2 dL_odds_20 (by decide) ?_
      exact q_iretX (pc := 21) C hr hlocks h dL_odds_21 (by omega) (by omega)
  · intro x1 M2 h
    refine q_i2l (pc := 7) C dL_odds_7 ?_
    refine q_pN (pc := 8) C h .long (host := "LullabygateLaw") (T := TX9) tyX9 tyX9_ok nmX9 rfl (by decide +kernel) rfl rfl rfl (by decide) (by decide +kernel) 528 (by decide +kernel) (fun _ h9 => h9) rfl dL_odds_8 (fun M4 h => ?_)
    refine q_goto (pc := 11) C 22 dL_odds_11 (by decide) ?_
    refine q_iconst (pc := 22) C 0 dL_odds_22 (by decide) ?_
    exact q_iretX (pc := 23) C hr hlocks h dL_odds_23 (by omega) (by omega)
set_option maxRecDepth 100000 in
set_option maxHeartbeats 4000000 in
theorem kL_odds (l : Launch) (G : mG) (b0 : Nat) (hL : l.stackTraces = false) {l0 : Option Nat} {l1 : Int32} {l2 : Int32} {l3 : Option Nat} {M : mM} {κ : Int32 → mM → Prop} (h : wL_odds κ l0 l1 l2 l3 M) : Met l yL_odds wsL_oddsA ({ frames := 8, cells := 2, slots := 12, locals := 136 } : Room) (va_Pc [va_rf l0, .int l1, .int l2, va_rf l3] (m_PreN G b0 M)) (va_Qi κ (m_B G b0) (fun q => b0 ≤ q)) 2 12 (fun q => b0 ≤ q) := by
  refine m_metH (hh := [(0, 11, 14, 19), (0, 11, 18, 21)]) (cc := cL_odds) (maxL := 5) (ret := (some .int)) (lv := [(0, va_rf l0), (1, .int l1), (2, .int l2), (3, va_rf l3)]) RL rfl (by decide +kernel) rfl (by first | exact Nat.le_of_ble_eq_true rfl | simp [lg_sl, q_cat, q_catI, q_catJ, q_catR, q_catN]) (by first | rfl | (simp [lv_args, q_cat, q_catI, q_catJ, q_catR, q_catN]; done) | (simp [lv_args, q_cat, q_catI, q_catJ, q_catR, q_catN]; rfl)) ?_
  intro p e s m args below meth c C hN hr hlocks hxt
  exact tL_odds C hr hlocks hL hN hxt h
/-! L_relieve -/
def wsL_relieveA : List Cond := wsL_relieve ++ m_ex
set_option maxRecDepth 100000 in
set_option maxHeartbeats 4000000 in
theorem tL_relieve {p : Program} {l : Launch} {e : Env} {s : State} {m : MethodId} {args : Array Value} {below : List Frame} {meth : Method} {c : Code} {G : mG} {b0 : Nat} (C : m_C p s m args c cL_relieve 4 RL wsL_relieveA G b0) (hr : meth.sig.returnType = (some .int)) (hlocks : meth.locks = false) (hL : l.stackTraces = false) (hN : m_N s) (hxt : c.exceptionTable.toList = tableOf [(0, 10, 13, 19)]) {κ : Int32 → mM → Prop} {l0 : Option Nat} {l1 : Int32} {l2 : Option Nat} {M : mM} (h : wL_relieve κ l0 l1 l2 M) : m_W p l e ({ frames := 8, cells := 1, slots := 6, locals := 134 } : Room) s m args below meth c G b0 (vx_MQ below (va_Qi κ (m_B G b0) (fun q => b0 ≤ q)) (fun _ _ _ => False) args s 1 6 (fun q => b0 ≤ q)) 4 M 0 0 0 [(0, va_rf l0), (1, .int l1), (2, va_rf l2)] [] := by
  unfold wL_relieve at h
  refine q_aload_n (pc := 0) C 2 2 dL_relieve_0 rfl rfl ?_
  refine q_aload_n (pc := 1) C 0 0 dL_relieve_1 rfl rfl ?_
  refine q_iload_n (pc := 2) C 1 1 dL_relieve_2 rfl rfl ?_
  obtain ⟨b3, fs9, hb3, hm9, h⟩ := h
  refine q_cXi (pc := 3) (q_rVX C (st := [va_rf l2]) (b := b3) (kX8_relieve l G b0 (t := 1) hL (fun _ _ _ => Nat.le_refl 1) h) (cwV 1 C.2.2.2.2.1 (m_gapp gL_relieve_X8_relieve) rfl rfl rfl (by decide +kernel) ⟨Nat.le_of_ble_eq_true rfl, Nat.le_of_ble_eq_true rfl⟩) hm9 rfl rfl rfl (by first | exact Nat.le_of_ble_eq_true rfl | (simp [q_cat, q_catI, q_catJ, q_catR, q_catN]; done)) (by rw [hb3]; first | done | rfl) dL_relieve_3 ⟨(by first | omega | (dsimp only; omega)), (by first | omega | (dsimp only; omega))⟩) ?_ ?_
  · intro E9 M9 h9
    rcases h9 with ⟨rfl, h⟩
    · refine q_catch (pc := 3) C hxt (E := "java/lang/IndexOutOfBoundsException") (name := "java/lang/IndexOutOfBoundsException") [] ⟨0, 10, 13, 19⟩ [] rfl (fun z hz => by cases hz) (by decide) (by decide) (by decide +kernel) 326 (by decide +kernel) (fun q9 => ?_)
      refine q_astore_n (pc := 13) C 3 [(3, va_rf (some q9)), (0, va_rf l0), (1, .int l1), (2, va_rf l2)] dL_relieve_13 rfl (by decide) (by first | rfl | simp [q_cat, q_catI, q_catJ, q_catR, q_catN]) ?_
      refine q_iconst (pc := 14) C 1 dL_relieve_14 (by decide) ?_
      exact q_iretX (pc := 15) C hr hlocks h dL_relieve_15 (by omega) (by omega)
  · intro x1 M2 h
    refine q_i2l (pc := 6) C dL_relieve_6 ?_
    refine q_pN (pc := 7) C h .long (host := "LullabygateLaw") (T := TX9) tyX9 tyX9_ok nmX9 rfl (by decide +kernel) rfl rfl rfl (by decide) (by decide +kernel) 528 (by decide +kernel) (fun _ h9 => h9) rfl dL_relieve_7 (fun M4 h => ?_)
    refine q_goto (pc := 10) C 16 dL_relieve_10 (by decide) ?_
    refine q_iconst (pc := 16) C 0 dL_relieve_16 (by decide) ?_
    exact q_iretX (pc := 17) C hr hlocks h dL_relieve_17 (by omega) (by omega)
set_option maxRecDepth 100000 in
set_option maxHeartbeats 4000000 in
theorem kL_relieve (l : Launch) (G : mG) (b0 : Nat) (hL : l.stackTraces = false) {l0 : Option Nat} {l1 : Int32} {l2 : Option Nat} {M : mM} {κ : Int32 → mM → Prop} (h : wL_relieve κ l0 l1 l2 M) : Met l yL_relieve wsL_relieveA ({ frames := 8, cells := 1, slots := 6, locals := 134 } : Room) (va_Pc [va_rf l0, .int l1, va_rf l2] (m_PreN G b0 M)) (va_Qi κ (m_B G b0) (fun q => b0 ≤ q)) 1 6 (fun q => b0 ≤ q) := by
  refine m_metH (hh := [(0, 10, 13, 19)]) (cc := cL_relieve) (maxL := 4) (ret := (some .int)) (lv := [(0, va_rf l0), (1, .int l1), (2, va_rf l2)]) RL rfl (by decide +kernel) rfl (by first | exact Nat.le_of_ble_eq_true rfl | simp [lg_sl, q_cat, q_catI, q_catJ, q_catR, q_catN]) (by first | rfl | (simp [lv_args, q_cat, q_catI, q_catJ, q_catR, q_catN]; done) | (simp [lv_args, q_cat, q_catI, q_catJ, q_catR, q_catN]; rfl)) ?_
  intro p e s m args below meth c C hN hr hlocks hxt
  exact tL_relieve C hr hlocks hL hN hxt h
/-! L_sleeper -/
def wsL_sleeperA : List Cond := wsL_sleeper ++ m_ex
set_option maxRecDepth 100000 in
set_option maxHeartbeats 4000000 in
theorem tL_sleeper {p : Program} {l : Launch} {e : Env} {s : State} {m : MethodId} {args : Array Value} {below : List Frame} {meth : Method} {c : Code} {G : mG} {b0 : Nat} (C : m_C p s m args c cL_sleeper 6 RL wsL_sleeperA G b0) (hr : meth.sig.returnType = (some .int)) (hlocks : meth.locks = false) (hL : l.stackTraces = false) (hN : m_N s) (hxt : c.exceptionTable.toList = tableOf [(0, 13, 16, 19), (0, 13, 20, 21), (0, 13, 24, 26)]) {g : Nat → Nat} (hg : G.2.2 = g) {κ : Int32 → mM → Prop} {l0 : Option Nat} {l1 : Int32} {l2 : Int32} {l3 : Int32} {l4 : Option Nat} {M : mM} (h : wL_sleeper g κ l0 l1 l2 l3 l4 M) : m_W p l e ({ frames := 8, cells := 5, slots := 42, locals := 196 } : Room) s m args below meth c G b0 (vx_MQ below (va_Qi κ (m_B G b0) (fun q => b0 ≤ q)) (fun _ _ _ => False) args s 5 42 (fun q => b0 ≤ q)) 6 M 0 0 0 [(0, va_rf l0), (1, .int l1), (2, .int l2), (3, .int l3), (4, va_rf l4)] [] := by
  unfold wL_sleeper at h
  refine q_aload (pc := 0) C 4 4 dL_sleeper_0 rfl ?_
  refine q_aload_n (pc := 2) C 0 0 dL_sleeper_2 rfl rfl ?_
  refine q_iload_n (pc := 3) C 1 1 dL_sleeper_3 rfl rfl ?_
  refine q_iload_n (pc := 4) C 2 2 dL_sleeper_4 rfl rfl ?_
  refine q_iload_n (pc := 5) C 3 3 dL_sleeper_5 rfl rfl ?_
  obtain ⟨b3, fs9, hb3, hm9, h⟩ := h
  refine q_cXi (pc := 6) (q_rVX C (st := [va_rf l4]) (b := b3) (kX8_sleeper l G b0 (t := 1) hL hg (fun _ _ _ => Nat.le_refl 1) h) (cwV 3 C.2.2.2.2.1 (m_gapp gL_sleeper_X8_sleeper) rfl rfl rfl (by decide +kernel) ⟨Nat.le_of_ble_eq_true rfl, Nat.le_of_ble_eq_true rfl⟩) hm9 rfl rfl rfl (by first | exact Nat.le_of_ble_eq_true rfl | (simp [q_cat, q_catI, q_catJ, q_catR, q_catN]; done)) (by rw [hb3]; first | done | rfl) dL_sleeper_6 ⟨(by first | omega | (dsimp only; omega)), (by first | omega | (dsimp only; omega))⟩) ?_ ?_
  · intro E9 M9 h9
    rcases h9 with ⟨rfl, h⟩ | ⟨rfl, h⟩ | ⟨rfl, h⟩
    · refine q_catch (pc := 6) C hxt (E := "java/lang/IndexOutOfBoundsException") (name := "java/lang/IndexOutOfBoundsException") [] ⟨0, 13, 16, 19⟩ [⟨0, 13, 20, 21⟩, ⟨0, 13, 24, 26⟩] rfl (fun z hz => by cases hz) (by decide) (by decide) (by decide +kernel) 326 (by decide +kernel) (fun q9 => ?_)
      refine q_astore (pc := 16) C 5 [(5, va_rf (some q9)), (0, va_rf l0), (1, .int l1), (2, .int l2), (3, .int l3), (4, va_rf l4)] dL_sleeper_16 (by decide) (by first | rfl | simp [q_cat, q_catI, q_catJ, q_catR, q_catN]) ?_
      refine q_iconst (pc := 18) C 1 dL_sleeper_18 (by decide) ?_
      exact q_iretX (pc := 19) C hr hlocks h dL_sleeper_19 (by omega) (by omega)
    · refine q_catch (pc := 6) C hxt (E := "java/lang/IllegalArgumentException") (name := "java/lang/IllegalArgumentException") [⟨0, 13, 16, 19⟩] ⟨0, 13, 20, 21⟩ [⟨0, 13, 24, 26⟩] rfl (fun z hz => by rw [List.mem_singleton.mp hz]; exact Or.inr ⟨by decide, "java/lang/IndexOutOfBoundsException", by decide +kernel, hN.1⟩) (by decide) (by decide) (by decide +kernel) 250 (by decide +kernel) (fun q9 => ?_)
      refine q_astore (pc := 20) C 5 [(5, va_rf (some q9)), (0, va_rf l0), (1, .int l1), (2, .int l2), (3, .int l3), (4, va_rf l4)] dL_sleeper_20 (by decide) (by first | rfl | simp [q_cat, q_catI, q_catJ, q_catR, q_catN]) ?_
      refine q_iconst (pc := 22) C 2 dL_sleeper_22 (by decide) ?_
      exact q_iretX (pc := 23) C hr hlocks h dL_sleeper_23 (by omega) (by omega)
    · refine q_catch (pc := 6) C hxt (E := "java/lang/IllegalStateException") (name := "java/lang/IllegalStateException") [⟨0, 13, 16, 19⟩, ⟨0, 13, 20, 21⟩] ⟨0, 13, 24, 26⟩ [] rfl (fun z hz => (List.mem_cons.mp hz).elim (fun e9 => by rw [e9]; exact Or.inr ⟨by decide, "java/lang/IndexOutOfBoundsException", by decide +kernel, hN.2.1⟩) (fun hz => by rw [List.mem_singleton.mp hz]; exact Or.inr ⟨by decide, "java/lang/IllegalArgumentException", by decide +kernel, hN.2.2⟩)) (by decide) (by decide) (by decide +kernel) 555 (by decide +kernel) (fun q9 => ?_)
      refine q_astore (pc := 24) C 5 [(5, va_rf (some q9)), (0, va_rf l0), (1, .int l1), (2, .int l2), (3, .int l3), (4, va_rf l4)] dL_sleeper_24 (by decide) (by first | rfl | simp [q_cat, q_catI, q_catJ, q_catR, q_catN]) ?_
      refine q_iconst (pc := 26) C 3 dL_sleeper_26 (by decide) ?_
      exact q_iretX (pc := 27) C hr hlocks h dL_sleeper_27 (by omega) (by omega)
  · intro x1 M2 h
    refine q_i2l (pc := 9) C dL_sleeper_9 ?_
    refine q_pN (pc := 10) C h .long (host := "LullabygateLaw") (T := TX9) tyX9 tyX9_ok nmX9 rfl (by decide +kernel) rfl rfl rfl (by decide) (by decide +kernel) 528 (by decide +kernel) (fun _ h9 => h9) rfl dL_sleeper_10 (fun M4 h => ?_)
    refine q_goto (pc := 13) C 28 dL_sleeper_13 (by decide) ?_
    refine q_iconst (pc := 28) C 0 dL_sleeper_28 (by decide) ?_
    exact q_iretX (pc := 29) C hr hlocks h dL_sleeper_29 (by omega) (by omega)
set_option maxRecDepth 100000 in
set_option maxHeartbeats 4000000 in
theorem kL_sleeper (l : Launch) (G : mG) (b0 : Nat) (hL : l.stackTraces = false) {g : Nat → Nat} (hg : G.2.2 = g) {l0 : Option Nat} {l1 : Int32} {l2 : Int32} {l3 : Int32} {l4 : Option Nat} {M : mM} {κ : Int32 → mM → Prop} (h : wL_sleeper g κ l0 l1 l2 l3 l4 M) : Met l yL_sleeper wsL_sleeperA ({ frames := 8, cells := 5, slots := 42, locals := 196 } : Room) (va_Pc [va_rf l0, .int l1, .int l2, .int l3, va_rf l4] (m_PreN G b0 M)) (va_Qi κ (m_B G b0) (fun q => b0 ≤ q)) 5 42 (fun q => b0 ≤ q) := by
  refine m_metH (hh := [(0, 13, 16, 19), (0, 13, 20, 21), (0, 13, 24, 26)]) (cc := cL_sleeper) (maxL := 6) (ret := (some .int)) (lv := [(0, va_rf l0), (1, .int l1), (2, .int l2), (3, .int l3), (4, va_rf l4)]) RL rfl (by decide +kernel) rfl (by first | exact Nat.le_of_ble_eq_true rfl | simp [lg_sl, q_cat, q_catI, q_catJ, q_catR, q_catN]) (by first | rfl | (simp [lv_args, q_cat, q_catI, q_catJ, q_catR, q_catN]; done) | (simp [lv_args, q_cat, q_catI, q_catJ, q_catR, q_catN]; rfl)) ?_
  intro p e s m args below meth c C hN hr hlocks hxt
  exact tL_sleeper C hr hlocks hL hN hxt hg h
/-! L_part -/
def wsL_partA : List Cond := wsL_part ++ m_ex
set_option maxRecDepth 100000 in
set_option maxHeartbeats 4000000 in
theorem tL_part {p : Program} {l : Launch} {e : Env} {s : State} {m : MethodId} {args : Array Value} {below : List Frame} {meth : Method} {c : Code} {G : mG} {b0 : Nat} (C : m_C p s m args c cL_part 7 RL wsL_partA G b0) (hr : meth.sig.returnType = (some .int)) (hlocks : meth.locks = false) (hL : l.stackTraces = false) (hN : m_N s) (hxt : c.exceptionTable.toList = tableOf [(0, 15, 18, 19), (0, 15, 22, 21), (0, 15, 26, 26)]) {g : Nat → Nat} (hg : G.2.2 = g) {κ : Int32 → mM → Prop} {l0 : Option Nat} {l1 : Int32} {l2 : Int32} {l3 : Int32} {l4 : Int32} {l5 : Option Nat} {M : mM} (h : wL_part g κ l0 l1 l2 l3 l4 l5 M) : m_W p l e ({ frames := 8, cells := 7, slots := 71, locals := 197 } : Room) s m args below meth c G b0 (vx_MQ below (va_Qi κ (m_B G b0) (fun q => b0 ≤ q)) (fun _ _ _ => False) args s 7 71 (fun q => b0 ≤ q)) 7 M 0 0 0 [(0, va_rf l0), (1, .int l1), (2, .int l2), (3, .int l3), (4, .int l4), (5, va_rf l5)] [] := by
  unfold wL_part at h
  refine q_aload (pc := 0) C 5 5 dL_part_0 rfl ?_
  refine q_aload_n (pc := 2) C 0 0 dL_part_2 rfl rfl ?_
  refine q_iload_n (pc := 3) C 1 1 dL_part_3 rfl rfl ?_
  refine q_iload_n (pc := 4) C 2 2 dL_part_4 rfl rfl ?_
  refine q_iload_n (pc := 5) C 3 3 dL_part_5 rfl rfl ?_
  refine q_iload (pc := 6) C 4 4 dL_part_6 rfl ?_
  obtain ⟨b3, fs9, hb3, hm9, h⟩ := h
  refine q_cXi (pc := 8) (q_rVX C (st := [va_rf l5]) (b := b3) (kX8_part l G b0 (t := 1) hL hg (fun _ _ _ => Nat.le_refl 1) h) (cwV 4 C.2.2.2.2.1 (m_gapp gL_part_X8_part) rfl rfl rfl (by decide +kernel) ⟨Nat.le_of_ble_eq_true rfl, Nat.le_of_ble_eq_true rfl⟩) hm9 rfl rfl rfl (by first | exact Nat.le_of_ble_eq_true rfl | (simp [q_cat, q_catI, q_catJ, q_catR, q_catN]; done)) (by rw [hb3]; first | done | rfl) dL_part_8 ⟨(by first | omega | (dsimp only; omega)), (by first | omega | (dsimp only; omega))⟩) ?_ ?_
  · intro E9 M9 h9
    rcases h9 with ⟨rfl, h⟩ | ⟨rfl, h⟩ | ⟨rfl, h⟩
    · refine q_catch (pc := 8) C hxt (E := "java/lang/IndexOutOfBoundsException") (name := "java/lang/IndexOutOfBoundsException") [] ⟨0, 15, 18, 19⟩ [⟨0, 15, 22, 21⟩, ⟨0, 15, 26, 26⟩] rfl (fun z hz => by cases hz) (by decide) (by decide) (by decide +kernel) 326 (by decide +kernel) (fun q9 => ?_)
      refine q_astore (pc := 18) C 6 [(6, va_rf (some q9)), (0, va_rf l0), (1, .int l1), (2, .int l2), (3, .int l3), (4, .int l4), (5, va_rf l5)] dL_part_18 (by decide) (by first | rfl | simp [q_cat, q_catI, q_catJ, q_catR, q_catN]) ?_
      refine q_iconst (pc := 20) C 1 dL_part_20 (by decide) ?_
      exact q_iretX (pc := 21) C hr hlocks h dL_part_21 (by omega) (by omega)
    · refine q_catch (pc := 8) C hxt (E := "java/lang/IllegalArgumentException") (name := "java/lang/IllegalArgumentException") [⟨0, 15, 18, 19⟩] ⟨0, 15, 22, 21⟩ [⟨0, 15, 26, 26⟩] rfl (fun z hz => by rw [List.mem_singleton.mp hz]; exact Or.inr ⟨by decide, "java/lang/IndexOutOfBoundsException", by decide +kernel, hN.1⟩) (by decide) (by decide) (by decide +kernel) 250 (by decide +kernel) (fun q9 => ?_)
      refine q_astore (pc := 22) C 6 [(6, va_rf (some q9)), (0, va_rf l0), (1, .int l1), (2, .int l2), (3, .int l3), (4, .int l4), (5, va_rf l5)] dL_part_22 (by decide) (by first | rfl | simp [q_cat, q_catI, q_catJ, q_catR, q_catN]) ?_
      refine q_iconst (pc := 24) C 2 dL_part_24 (by decide) ?_
      exact q_iretX (pc := 25) C hr hlocks h dL_part_25 (by omega) (by omega)
    · refine q_catch (pc := 8) C hxt (E := "java/lang/IllegalStateException") (name := "java/lang/IllegalStateException") [⟨0, 15, 18, 19⟩, ⟨0, 15, 22, 21⟩] ⟨0, 15, 26, 26⟩ [] rfl (fun z hz => (List.mem_cons.mp hz).elim (fun e9 => by rw [e9]; exact Or.inr ⟨by decide, "java/lang/IndexOutOfBoundsException", by decide +kernel, hN.2.1⟩) (fun hz => by rw [List.mem_singleton.mp hz]; exact Or.inr ⟨by decide, "java/lang/IllegalArgumentException", by decide +kernel, hN.2.2⟩)) (by decide) (by decide) (by decide +kernel) 555 (by decide +kernel) (fun q9 => ?_)
      refine q_astore (pc := 26) C 6 [(6, va_rf (some q9)), (0, va_rf l0), (1, .int l1), (2, .int l2), (3, .int l3), (4, .int l4), (5, va_rf l5)] dL_part_26 (by decide) (by first | rfl | simp [q_cat, q_catI, q_catJ, q_catR, q_catN]) ?_
      refine q_iconst (pc := 28) C 3 dL_part_28 (by decide) ?_
      exact q_iretX (pc := 29) C hr hlocks h dL_part_29 (by omega) (by omega)
  · intro x1 M2 h
    refine q_i2l (pc := 11) C dL_part_11 ?_
    refine q_pN (pc := 12) C h .long (host := "LullabygateLaw") (T := TX9) tyX9 tyX9_ok nmX9 rfl (by decide +kernel) rfl rfl rfl (by decide) (by decide +kernel) 528 (by decide +kernel) (fun _ h9 => h9) rfl dL_part_12 (fun M4 h => ?_)
    refine q_goto (pc := 15) C 30 dL_part_15 (by decide) ?_
    refine q_iconst (pc := 30) C 0 dL_part_30 (by decide) ?_
    exact q_iretX (pc := 31) C hr hlocks h dL_part_31 (by omega) (by omega)
set_option maxRecDepth 100000 in
set_option maxHeartbeats 4000000 in
theorem kL_part (l : Launch) (G : mG) (b0 : Nat) (hL : l.stackTraces = false) {g : Nat → Nat} (hg : G.2.2 = g) {l0 : Option Nat} {l1 : Int32} {l2 : Int32} {l3 : Int32} {l4 : Int32} {l5 : Option Nat} {M : mM} {κ : Int32 → mM → Prop} (h : wL_part g κ l0 l1 l2 l3 l4 l5 M) : Met l yL_part wsL_partA ({ frames := 8, cells := 7, slots := 71, locals := 197 } : Room) (va_Pc [va_rf l0, .int l1, .int l2, .int l3, .int l4, va_rf l5] (m_PreN G b0 M)) (va_Qi κ (m_B G b0) (fun q => b0 ≤ q)) 7 71 (fun q => b0 ≤ q) := by
  refine m_metH (hh := [(0, 15, 18, 19), (0, 15, 22, 21), (0, 15, 26, 26)]) (cc := cL_part) (maxL := 7) (ret := (some .int)) (lv := [(0, va_rf l0), (1, .int l1), (2, .int l2), (3, .int l3), (4, .int l4), (5, va_rf l5)]) RL rfl (by decide +kernel) rfl (by first | exact Nat.le_of_ble_eq_true rfl | simp [lg_sl, q_cat, q_catI, q_catJ, q_catR, q_catN]) (by first | rfl | (simp [lv_args, q_cat, q_catI, q_catJ, q_catR, q_catN]; done) | (simp [lv_args, q_cat, q_catI, q_catJ, q_catR, q_catN]; rfl)) ?_
  intro p e s m args below meth c C hN hr hlocks hxt
  exact tL_part C hr hlocks hL hN hxt hg h
/-! L_give -/
def wsL_giveA : List Cond := wsL_give ++ m_ex
set_option maxRecDepth 100000 in
set_option maxHeartbeats 4000000 in
theorem tL_give {p : Program} {l : Launch} {e : Env} {s : State} {m : MethodId} {args : Array Value} {below : List Frame} {meth : Method} {c : Code} {G : mG} {b0 : Nat} (C : m_C p s m args c cL_give 5 RL wsL_giveA G b0) (hr : meth.sig.returnType = (some .int)) (hlocks : meth.locks = false) (hL : l.stackTraces = false) (hN : m_N s) (hxt : c.exceptionTable.toList = tableOf [(0, 11, 14, 19), (0, 11, 18, 26)]) {κ : Int32 → mM → Prop} {l0 : Option Nat} {l1 : Int32} {l2 : Int32} {l3 : Option Nat} {M : mM} (h : wL_give κ l0 l1 l2 l3 M) : m_W p l e ({ frames := 8, cells := 3, slots := 18, locals := 136 } : Room) s m args below meth c G b0 (vx_MQ below (va_Qi κ (m_B G b0) (fun q => b0 ≤ q)) (fun _ _ _ => False) args s 3 18 (fun q => b0 ≤ q)) 5 M 0 0 0 [(0, va_rf l0), (1, .int l1), (2, .int l2), (3, va_rf l3)] [] := by
  unfold wL_give at h
  refine q_aload_n (pc := 0) C 3 3 dL_give_0 rfl rfl ?_
  refine q_aload_n (pc := 1) C 0 0 dL_give_1 rfl rfl ?_
  refine q_iload_n (pc := 2) C 1 1 dL_give_2 rfl rfl ?_
  refine q_iload_n (pc := 3) C 2 2 dL_give_3 rfl rfl ?_
  obtain ⟨b3, fs9, hb3, hm9, h⟩ := h
  refine q_cXi (pc := 4) (q_rVX C (st := [va_rf l3]) (b := b3) (kX8_give l G b0 (t := 1) hL (fun _ _ _ => Nat.le_refl 1) h) (cwV 2 C.2.2.2.2.1 (m_gapp gL_give_X8_give) rfl rfl rfl (by decide +kernel) ⟨Nat.le_of_ble_eq_true rfl, Nat.le_of_ble_eq_true rfl⟩) hm9 rfl rfl rfl (by first | exact Nat.le_of_ble_eq_true rfl | (simp [q_cat, q_catI, q_catJ, q_catR, q_catN]; done)) (by rw [hb3]; first | done | rfl) dL_give_4 ⟨(by first | omega | (dsimp only; omega)), (by first | omega | (dsimp only; omega))⟩) ?_ ?_
  · intro E9 M9 h9
    rcases h9 with ⟨rfl, h⟩ | ⟨rfl, h⟩
    · refine q_catch (pc := 4) C hxt (E := "java/lang/IndexOutOfBoundsException") (name := "java/lang/IndexOutOfBoundsException") [] ⟨0, 11, 14, 19⟩ [⟨0, 11, 18, 26⟩] rfl (fun z hz => by cases hz) (by decide) (by decide) (by decide +kernel) 326 (by decide +kernel) (fun q9 => ?_)
      refine q_astore (pc := 14) C 4 [(4, va_rf (some q9)), (0, va_rf l0), (1, .int l1), (2, .int l2), (3, va_rf l3)] dL_give_14 (by decide) (by first | rfl | simp [q_cat, q_catI, q_catJ, q_catR, q_catN]) ?_
      refine q_iconst (pc := 16) C 1 dL_give_16 (by decide) ?_
      exact q_iretX (pc := 17) C hr hlocks h dL_give_17 (by omega) (by omega)
    · refine q_catch (pc := 4) C hxt (E := "java/lang/IllegalStateException") (name := "java/lang/IllegalStateException") [⟨0, 11, 14, 19⟩] ⟨0, 11, 18, 26⟩ [] rfl (fun z hz => by rw [List.mem_singleton.mp hz]; exact Or.inr ⟨by decide, "java/lang/IndexOutOfBoundsException", by decide +kernel, hN.2.1⟩) (by decide) (by decide) (by decide +kernel) 555 (by decide +kernel) (fun q9 => ?_)
      refine q_astore (pc := 18) C 4 [(4, va_rf (some q9)), (0, va_rf l0), (1, .int l1), (2, .int l2), (3, va_rf l3)] dL_give_18 (by decide) (by first | rfl | simp [q_cat, q_catI, q_catJ, q_catR, q_catN]) ?_
      refine q_iconst (pc := 20) C 2 dL_give_20 (by decide) ?_
      exact q_iretX (pc := 21) C hr hlocks h dL_give_21 (by omega) (by omega)
  · intro x1 M2 h
    refine q_i2l (pc := 7) C dL_give_7 ?_
    refine q_pN (pc := 8) C h .long (host := "LullabygateLaw") (T := TX9) tyX9 tyX9_ok nmX9 rfl (by decide +kernel) rfl rfl rfl (by decide) (by decide +kernel) 528 (by decide +kernel) (fun _ h9 => h9) rfl dL_give_8 (fun M4 h => ?_)
    refine q_goto (pc := 11) C 22 dL_give_11 (by decide) ?_
    refine q_iconst (pc := 22) C 0 dL_give_22 (by decide) ?_
    exact q_iretX (pc := 23) C hr hlocks h dL_give_23 (by omega) (by omega)
set_option maxRecDepth 100000 in
set_option maxHeartbeats 4000000 in
theorem kL_give (l : Launch) (G : mG) (b0 : Nat) (hL : l.stackTraces = false) {l0 : Option Nat} {l1 : Int32} {l2 : Int32} {l3 : Option Nat} {M : mM} {κ : Int32 → mM → Prop} (h : wL_give κ l0 l1 l2 l3 M) : Met l yL_give wsL_giveA ({ frames := 8, cells := 3, slots := 18, locals := 136 } : Room) (va_Pc [va_rf l0, .int l1, .int l2, va_rf l3] (m_PreN G b0 M)) (va_Qi κ (m_B G b0) (fun q => b0 ≤ q)) 3 18 (fun q => b0 ≤ q) := by
  refine m_metH (hh := [(0, 11, 14, 19), (0, 11, 18, 26)]) (cc := cL_give) (maxL := 5) (ret := (some .int)) (lv := [(0, va_rf l0), (1, .int l1), (2, .int l2), (3, va_rf l3)]) RL rfl (by decide +kernel) rfl (by first | exact Nat.le_of_ble_eq_true rfl | simp [lg_sl, q_cat, q_catI, q_catJ, q_catR, q_catN]) (by first | rfl | (simp [lv_args, q_cat, q_catI, q_catJ, q_catR, q_catN]; done) | (simp [lv_args, q_cat, q_catI, q_catJ, q_catR, q_catN]; rfl)) ?_
  intro p e s m args below meth c C hN hr hlocks hxt
  exact tL_give C hr hlocks hL hN hxt h
/-! L_sing -/
def wsL_singA : List Cond := wsL_sing ++ m_ex
set_option maxRecDepth 100000 in
set_option maxHeartbeats 4000000 in
theorem tL_sing {p : Program} {l : Launch} {e : Env} {s : State} {m : MethodId} {args : Array Value} {below : List Frame} {meth : Method} {c : Code} {G : mG} {b0 : Nat} (C : m_C p s m args c cL_sing 7 RL wsL_singA G b0) (hr : meth.sig.returnType = (some .int)) (hlocks : meth.locks = false) (hL : l.stackTraces = false) (hN : m_N s) (hxt : c.exceptionTable.toList = tableOf [(0, 15, 18, 19), (0, 15, 22, 21)]) {κ : Int32 → mM → Prop} {l0 : Option Nat} {l1 : Int32} {l2 : Int32} {l3 : Int32} {l4 : Int32} {l5 : Option Nat} {M : mM} (h : wL_sing κ l0 l1 l2 l3 l4 l5 M) : m_W p l e ({ frames := 8, cells := 5, slots := 27, locals := 138 } : Room) s m args below meth c G b0 (vx_MQ below (va_Qi κ (m_B G b0) (fun q => b0 ≤ q)) (fun _ _ _ => False) args s 5 27 (fun q => b0 ≤ q)) 7 M 0 0 0 [(0, va_rf l0), (1, .int l1), (2, .int l2), (3, .int l3), (4, .int l4), (5, va_rf l5)] [] := by
  unfold wL_sing at h
  refine q_aload (pc := 0) C 5 5 dL_sing_0 rfl ?_
  refine q_aload_n (pc := 2) C 0 0 dL_sing_2 rfl rfl ?_
  refine q_iload_n (pc := 3) C 1 1 dL_sing_3 rfl rfl ?_
  refine q_iload_n (pc := 4) C 2 2 dL_sing_4 rfl rfl ?_
  refine q_iload_n (pc := 5) C 3 3 dL_sing_5 rfl rfl ?_
  refine q_iload (pc := 6) C 4 4 dL_sing_6 rfl ?_
  obtain ⟨b3, fs9, hb3, hm9, h⟩ := h
  refine q_cXi (pc := 8) (q_rVX C (st := [va_rf l5]) (b := b3) (kX8_sing l G b0 (t := 1) hL (fun _ _ _ => Nat.le_refl 1) h) (cwV 4 C.2.2.2.2.1 (m_gapp gL_sing_X8_sing) rfl rfl rfl (by decide +kernel) ⟨Nat.le_of_ble_eq_true rfl, Nat.le_of_ble_eq_true rfl⟩) hm9 rfl rfl rfl (by first | exact Nat.le_of_ble_eq_true rfl | (simp [q_cat, q_catI, q_catJ, q_catR, q_catN]; done)) (by rw [hb3]; first | done | rfl) dL_sing_8 ⟨(by first | omega | (dsimp only; omega)), (by first | omega | (dsimp only; omega))⟩) ?_ ?_
  · intro E9 M9 h9
    rcases h9 with ⟨rfl, h⟩ | ⟨rfl, h⟩
    · refine q_catch (pc := 8) C hxt (E := "java/lang/IndexOutOfBoundsException") (name := "java/lang/IndexOutOfBoundsException") [] ⟨0, 15, 18, 19⟩ [⟨0, 15, 22, 21⟩] rfl (fun z hz => by cases hz) (by decide) (by decide) (by decide +kernel) 326 (by decide +kernel) (fun q9 => ?_)
      refine q_astore (pc := 18) C 6 [(6, va_rf (some q9)), (0, va_rf l0), (1, .int l1), (2, .int l2), (3, .int l3), (4, .int l4), (5, va_rf l5)] dL_sing_18 (by decide) (by first | rfl | simp [q_cat, q_catI, q_catJ, q_catR, q_catN]) ?_
      refine q_iconst (pc := 20) C 1 dL_sing_20 (by decide) ?_
      exact q_iretX (pc := 21) C hr hlocks h dL_sing_21 (by omega) (by omega)
    · refine q_catch (pc := 8) C hxt (E := "java/lang/IllegalArgumentException") (name := "java/lang/IllegalArgumentException") [⟨0, 15, 18, 19⟩] ⟨0, 15, 22, 21⟩ [] rfl (fun z hz => by rw [List.mem_singleton.mp hz]; exact Or.inr ⟨by decide, "java/lang/IndexOutOfBoundsException", by decide +kernel, hN.1⟩) (by decide) (by decide) (by decide +kernel) 250 (by decide +kernel) (fun q9 => ?_)
      refine q_astore (pc := 22) C 6 [(6, va_rf (some q9)), (0, va_rf l0), (1, .int l1), (2, .int l2), (3, .int l3), (4, .int l4), (5, va_rf l5)] dL_sing_22 (by decide) (by first | rfl | simp [q_cat, q_catI, q_catJ, q_catR, q_catN]) ?_
      refine q_iconst (pc := 24) C 2 dL_sing_24 (by decide) ?_
      exact q_iretX (pc := 25) C hr hlocks h dL_sing_25 (by omega) (by omega)
  · intro x1 M2 h
    refine q_i2l (pc := 11) C dL_sing_11 ?_
    refine q_pN (pc := 12) C h .long (host := "LullabygateLaw") (T := TX9) tyX9 tyX9_ok nmX9 rfl (by decide +kernel) rfl rfl rfl (by decide) (by decide +kernel) 528 (by decide +kernel) (fun _ h9 => h9) rfl dL_sing_12 (fun M4 h => ?_)
    refine q_goto (pc := 15) C 26 dL_sing_15 (by decide) ?_
    refine q_iconst (pc := 26) C 0 dL_sing_26 (by decide) ?_
    exact q_iretX (pc := 27) C hr hlocks h dL_sing_27 (by omega) (by omega)
set_option maxRecDepth 100000 in
set_option maxHeartbeats 4000000 in
theorem kL_sing (l : Launch) (G : mG) (b0 : Nat) (hL : l.stackTraces = false) {l0 : Option Nat} {l1 : Int32} {l2 : Int32} {l3 : Int32} {l4 : Int32} {l5 : Option Nat} {M : mM} {κ : Int32 → mM → Prop} (h : wL_sing κ l0 l1 l2 l3 l4 l5 M) : Met l yL_sing wsL_singA ({ frames := 8, cells := 5, slots := 27, locals := 138 } : Room) (va_Pc [va_rf l0, .int l1, .int l2, .int l3, .int l4, va_rf l5] (m_PreN G b0 M)) (va_Qi κ (m_B G b0) (fun q => b0 ≤ q)) 5 27 (fun q => b0 ≤ q) := by
  refine m_metH (hh := [(0, 15, 18, 19), (0, 15, 22, 21)]) (cc := cL_sing) (maxL := 7) (ret := (some .int)) (lv := [(0, va_rf l0), (1, .int l1), (2, .int l2), (3, .int l3), (4, .int l4), (5, va_rf l5)]) RL rfl (by decide +kernel) rfl (by first | exact Nat.le_of_ble_eq_true rfl | simp [lg_sl, q_cat, q_catI, q_catJ, q_catR, q_catN]) (by first | rfl | (simp [lv_args, q_cat, q_catI, q_catJ, q_catR, q_catN]; done) | (simp [lv_args, q_cat, q_catI, q_catJ, q_catR, q_catN]; rfl)) ?_
  intro p e s m args below meth c C hN hr hlocks hxt
  exact tL_sing C hr hlocks hL hN hxt h
/-! L_revoke -/
def wsL_revokeA : List Cond := wsL_revoke ++ m_ex
set_option maxRecDepth 100000 in
set_option maxHeartbeats 4000000 in
theorem tL_revoke_15 {p : Program} {l : Launch} {e : Env} {s : State} {m : MethodId} {args : Array Value} {below : List Frame} {meth : Method} {c : Code} {G : mG} {b0 : Nat} (C : m_C p s m args c cL_revoke 5 RL wsL_revokeA G b0) (hr : meth.sig.returnType = (some .int)) (hlocks : meth.locks = false) (hL : l.stackTraces = false) (hN : m_N s) (hxt : c.exceptionTable.toList = tableOf [(0, 18, 21, 19), (0, 18, 25, 21)]) {κ : Int32 → mM → Prop} {s0 : Int64} {s1 : Option Nat} {M : mM} (h : wL_revoke_15 κ s0 s1 M) : m_W p l e ({ frames := 8, cells := 2, slots := 12, locals := 136 } : Room) s m args below meth c G b0 (vx_MQ below (va_Qi κ (m_B G b0) (fun q => b0 ≤ q)) (fun _ _ _ => False) args s 2 12 (fun q => b0 ≤ q)) 5 M 2 12 15 [] [.long s0, va_rf s1] := by
  unfold wL_revoke_15 at h
  refine q_pN (pc := 15) C h .long (host := "LullabygateLaw") (T := TX9) tyX9 tyX9_ok nmX9 rfl (by decide +kernel) rfl rfl rfl (by decide) (by decide +kernel) 528 (by decide +kernel) (fun _ h9 => h9) rfl dL_revoke_15 (fun M1 h => ?_)
  refine q_goto (pc := 18) C 29 dL_revoke_18 (by decide) ?_
  refine q_iconst (pc := 29) C 0 dL_revoke_29 (by decide) ?_
  exact q_iretX (pc := 30) C hr hlocks h dL_revoke_30 (by omega) (by omega)
set_option maxRecDepth 100000 in
set_option maxHeartbeats 4000000 in
theorem tL_revoke {p : Program} {l : Launch} {e : Env} {s : State} {m : MethodId} {args : Array Value} {below : List Frame} {meth : Method} {c : Code} {G : mG} {b0 : Nat} (C : m_C p s m args c cL_revoke 5 RL wsL_revokeA G b0) (hr : meth.sig.returnType = (some .int)) (hlocks : meth.locks = false) (hL : l.stackTraces = false) (hN : m_N s) (hxt : c.exceptionTable.toList = tableOf [(0, 18, 21, 19), (0, 18, 25, 21)]) {κ : Int32 → mM → Prop} {l0 : Option Nat} {l1 : Int32} {l2 : Int32} {l3 : Option Nat} {M : mM} (h : wL_revoke κ l0 l1 l2 l3 M) : m_W p l e ({ frames := 8, cells := 2, slots := 12, locals := 136 } : Room) s m args below meth c G b0 (vx_MQ below (va_Qi κ (m_B G b0) (fun q => b0 ≤ q)) (fun _ _ _ => False) args s 2 12 (fun q => b0 ≤ q)) 5 M 0 0 0 [(0, va_rf l0), (1, .int l1), (2, .int l2), (3, va_rf l3)] [] := by
  unfold wL_revoke at h
  refine q_aload_n (pc := 0) C 3 3 dL_revoke_0 rfl rfl ?_
  refine q_aload_n (pc := 1) C 0 0 dL_revoke_1 rfl rfl ?_
  refine q_iload_n (pc := 2) C 1 1 dL_revoke_2 rfl rfl ?_
  refine q_iload_n (pc := 3) C 2 2 dL_revoke_3 rfl rfl ?_
  obtain ⟨b3, fs9, hb3, hm9, h⟩ := h
  refine q_cXi (pc := 4) (q_rVX C (st := [va_rf l3]) (b := b3) (kX8_revoke l G b0 (t := 1) hL (fun _ _ _ => Nat.le_refl 1) h) (cwV 2 C.2.2.2.2.1 (m_gapp gL_revoke_X8_revoke) rfl rfl rfl (by decide +kernel) ⟨Nat.le_of_ble_eq_true rfl, Nat.le_of_ble_eq_true rfl⟩) hm9 rfl rfl rfl (by first | exact Nat.le_of_ble_eq_true rfl | (simp [q_cat, q_catI, q_catJ, q_catR, q_catN]; done)) (by rw [hb3]; first | done | rfl) dL_revoke_4 ⟨(by first | omega | (dsimp only; omega)), (by first | omega | (dsimp only; omega))⟩) ?_ ?_
  · intro E9 M9 h9
    rcases h9 with ⟨rfl, h⟩ | ⟨rfl, h⟩
    · refine q_catch (pc := 4) C hxt (E := "java/lang/IndexOutOfBoundsException") (name := "java/lang/IndexOutOfBoundsException") [] ⟨0, 18, 21, 19⟩ [⟨0, 18, 25, 21⟩] rfl (fun z hz => by cases hz) (by decide) (by decide) (by decide +kernel) 326 (by decide +kernel) (fun q9 => ?_)
      refine q_astore (pc := 21) C 4 [(4, va_rf (some q9)), (0, va_rf l0), (1, .int l1), (2, .int l2), (3, va_rf l3)] dL_revoke_21 (by decide) (by first | rfl | simp [q_cat, q_catI, q_catJ, q_catR, q_catN]) ?_
      refine q_iconst (pc := 23) C 1 dL_revoke_23 (by decide) ?_
      exact q_iretX (pc := 24) C hr hlocks h dL_revoke_24 (by omega) (by omega)
    · refine q_catch (pc := 4) C hxt (E := "java/lang/IllegalArgumentException") (name := "java/lang/IllegalArgumentException") [⟨0, 18, 21, 19⟩] ⟨0, 18, 25, 21⟩ [] rfl (fun z hz => by rw [List.mem_singleton.mp hz]; exact Or.inr ⟨by decide, "java/lang/IndexOutOfBoundsException", by decide +kernel, hN.1⟩) (by decide) (by decide) (by decide +kernel) 250 (by decide +kernel) (fun q9 => ?_)
      refine q_astore (pc := 25) C 4 [(4, va_rf (some q9)), (0, va_rf l0), (1, .int l1), (2, .int l2), (3, va_rf l3)] dL_revoke_25 (by decide) (by first | rfl | simp [q_cat, q_catI, q_catJ, q_catR, q_catN]) ?_
      refine q_iconst (pc := 27) C 2 dL_revoke_27 (by decide) ?_
      exact q_iretX (pc := 28) C hr hlocks h dL_revoke_28 (by omega) (by omega)
  · intro x1 M2 h
    refine q_if_eq (pc := 7) C 14 dL_revoke_7 (by decide) (fun c4 => ?_) (fun c4 => ?_)
    · have h := h.1 c4
      refine q_lconst (pc := 14) C 0 dL_revoke_14 (by decide) ?_
      refine q_widen (k2 := 2) (n2 := 12) (by omega) (by omega) ?_
      refine q_lv [] rfl ?_
      exact tL_revoke_15 C hr hlocks hL hN hxt h
    · have h := h.2 c4
      refine q_lconst (pc := 10) C 1 dL_revoke_10 (by decide) ?_
      refine q_goto (pc := 11) C 15 dL_revoke_11 (by decide) ?_
      refine q_widen (k2 := 2) (n2 := 12) (by omega) (by omega) ?_
      refine q_lv [] rfl ?_
      exact tL_revoke_15 C hr hlocks hL hN hxt h
set_option maxRecDepth 100000 in
set_option maxHeartbeats 4000000 in
theorem kL_revoke (l : Launch) (G : mG) (b0 : Nat) (hL : l.stackTraces = false) {l0 : Option Nat} {l1 : Int32} {l2 : Int32} {l3 : Option Nat} {M : mM} {κ : Int32 → mM → Prop} (h : wL_revoke κ l0 l1 l2 l3 M) : Met l yL_revoke wsL_revokeA ({ frames := 8, cells := 2, slots := 12, locals := 136 } : Room) (va_Pc [va_rf l0, .int l1, .int l2, va_rf l3] (m_PreN G b0 M)) (va_Qi κ (m_B G b0) (fun q => b0 ≤ q)) 2 12 (fun q => b0 ≤ q) := by
  refine m_metH (hh := [(0, 18, 21, 19), (0, 18, 25, 21)]) (cc := cL_revoke) (maxL := 5) (ret := (some .int)) (lv := [(0, va_rf l0), (1, .int l1), (2, .int l2), (3, va_rf l3)]) RL rfl (by decide +kernel) rfl (by first | exact Nat.le_of_ble_eq_true rfl | simp [lg_sl, q_cat, q_catI, q_catJ, q_catR, q_catN]) (by first | rfl | (simp [lv_args, q_cat, q_catI, q_catJ, q_catR, q_catN]; done) | (simp [lv_args, q_cat, q_catI, q_catJ, q_catR, q_catN]; rfl)) ?_
  intro p e s m args below meth c C hN hr hlocks hxt
  exact tL_revoke C hr hlocks hL hN hxt h
/-! L_join -/
def wsL_joinA : List Cond := wsL_join ++ m_ex
set_option maxRecDepth 100000 in
set_option maxHeartbeats 4000000 in
theorem tL_join {p : Program} {l : Launch} {e : Env} {s : State} {m : MethodId} {args : Array Value} {below : List Frame} {meth : Method} {c : Code} {G : mG} {b0 : Nat} (C : m_C p s m args c cL_join 6 RL wsL_joinA G b0) (hr : meth.sig.returnType = (some .int)) (hlocks : meth.locks = false) (hL : l.stackTraces = false) (hN : m_N s) (hxt : c.exceptionTable.toList = tableOf [(0, 13, 16, 19), (0, 13, 20, 21), (0, 13, 24, 26)]) {g : Nat → Nat} (hg : G.2.2 = g) {κ : Int32 → mM → Prop} {l0 : Option Nat} {l1 : Int32} {l2 : Int32} {l3 : Int32} {l4 : Option Nat} {M : mM} (h : wL_join g κ l0 l1 l2 l3 l4 M) : m_W p l e ({ frames := 8, cells := 4, slots := 33, locals := 177 } : Room) s m args below meth c G b0 (vx_MQ below (va_Qi κ (m_B G b0) (fun q => b0 ≤ q)) (fun _ _ _ => False) args s 4 33 (fun q => b0 ≤ q)) 6 M 0 0 0 [(0, va_rf l0), (1, .int l1), (2, .int l2), (3, .int l3), (4, va_rf l4)] [] := by
  unfold wL_join at h
  refine q_aload (pc := 0) C 4 4 dL_join_0 rfl ?_
  refine q_aload_n (pc := 2) C 0 0 dL_join_2 rfl rfl ?_
  refine q_iload_n (pc := 3) C 1 1 dL_join_3 rfl rfl ?_
  refine q_iload_n (pc := 4) C 2 2 dL_join_4 rfl rfl ?_
  refine q_iload_n (pc := 5) C 3 3 dL_join_5 rfl rfl ?_
  obtain ⟨b3, fs9, hb3, hm9, h⟩ := h
  refine q_cXi (pc := 6) (q_rVX C (st := [va_rf l4]) (b := b3) (kX8_join l G b0 (t := 1) hL hg (fun _ _ _ => Nat.le_refl 1) h) (cwV 3 C.2.2.2.2.1 (m_gapp gL_join_X8_join) rfl rfl rfl (by decide +kernel) ⟨Nat.le_of_ble_eq_true rfl, Nat.le_of_ble_eq_true rfl⟩) hm9 rfl rfl rfl (by first | exact Nat.le_of_ble_eq_true rfl | (simp [q_cat, q_catI, q_catJ, q_catR, q_catN]; done)) (by rw [hb3]; first | done | rfl) dL_join_6 ⟨(by first | omega | (dsimp only; omega)), (by first | omega | (dsimp only; omega))⟩) ?_ ?_
  · intro E9 M9 h9
    rcases h9 with ⟨rfl, h⟩ | ⟨rfl, h⟩ | ⟨rfl, h⟩
    · refine q_catch (pc := 6) C hxt (E := "java/lang/IndexOutOfBoundsException") (name := "java/lang/IndexOutOfBoundsException") [] ⟨0, 13, 16, 19⟩ [⟨0, 13, 20, 21⟩, ⟨0, 13, 24, 26⟩] rfl (fun z hz => by cases hz) (by decide) (by decide) (by decide +kernel) 326 (by decide +kernel) (fun q9 => ?_)
      refine q_astore (pc := 16) C 5 [(5, va_rf (some q9)), (0, va_rf l0), (1, .int l1), (2, .int l2), (3, .int l3), (4, va_rf l4)] dL_join_16 (by decide) (by first | rfl | simp [q_cat, q_catI, q_catJ, q_catR, q_catN]) ?_
      refine q_iconst (pc := 18) C 1 dL_join_18 (by decide) ?_
      exact q_iretX (pc := 19) C hr hlocks h dL_join_19 (by omega) (by omega)
    · refine q_catch (pc := 6) C hxt (E := "java/lang/IllegalArgumentException") (name := "java/lang/IllegalArgumentException") [⟨0, 13, 16, 19⟩] ⟨0, 13, 20, 21⟩ [⟨0, 13, 24, 26⟩] rfl (fun z hz => by rw [List.mem_singleton.mp hz]; exact Or.inr ⟨by decide, "java/lang/IndexOutOfBoundsException", by decide +kernel, hN.1⟩) (by decide) (by decide) (by decide +kernel) 250 (by decide +kernel) (fun q9 => ?_)
      refine q_astore (pc := 20) C 5 [(5, va_rf (some q9)), (0, va_rf l0), (1, .int l1), (2, .int l2), (3, .int l3), (4, va_rf l4)] dL_join_20 (by decide) (by first | rfl | simp [q_cat, q_catI, q_catJ, q_catR, q_catN]) ?_
      refine q_iconst (pc := 22) C 2 dL_join_22 (by decide) ?_
      exact q_iretX (pc := 23) C hr hlocks h dL_join_23 (by omega) (by omega)
    · refine q_catch (pc := 6) C hxt (E := "java/lang/IllegalStateException") (name := "java/lang/IllegalStateException") [⟨0, 13, 16, 19⟩, ⟨0, 13, 20, 21⟩] ⟨0, 13, 24, 26⟩ [] rfl (fun z hz => (List.mem_cons.mp hz).elim (fun e9 => by rw [e9]; exact Or.inr ⟨by decide, "java/lang/IndexOutOfBoundsException", by decide +kernel, hN.2.1⟩) (fun hz => by rw [List.mem_singleton.mp hz]; exact Or.inr ⟨by decide, "java/lang/IllegalArgumentException", by decide +kernel, hN.2.2⟩)) (by decide) (by decide) (by decide +kernel) 555 (by decide +kernel) (fun q9 => ?_)
      refine q_astore (pc := 24) C 5 [(5, va_rf (some q9)), (0, va_rf l0), (1, .int l1), (2, .int l2), (3, .int l3), (4, va_rf l4)] dL_join_24 (by decide) (by first | rfl | simp [q_cat, q_catI, q_catJ, q_catR, q_catN]) ?_
      refine q_iconst (pc := 26) C 3 dL_join_26 (by decide) ?_
      exact q_iretX (pc := 27) C hr hlocks h dL_join_27 (by omega) (by omega)
  · intro x1 M2 h
    refine q_i2l (pc := 9) C dL_join_9 ?_
    refine q_pN (pc := 10) C h .long (host := "LullabygateLaw") (T := TX9) tyX9 tyX9_ok nmX9 rfl (by decide +kernel) rfl rfl rfl (by decide) (by decide +kernel) 528 (by decide +kernel) (fun _ h9 => h9) rfl dL_join_10 (fun M4 h => ?_)
    refine q_goto (pc := 13) C 28 dL_join_13 (by decide) ?_
    refine q_iconst (pc := 28) C 0 dL_join_28 (by decide) ?_
    exact q_iretX (pc := 29) C hr hlocks h dL_join_29 (by omega) (by omega)
set_option maxRecDepth 100000 in
set_option maxHeartbeats 4000000 in
theorem kL_join (l : Launch) (G : mG) (b0 : Nat) (hL : l.stackTraces = false) {g : Nat → Nat} (hg : G.2.2 = g) {l0 : Option Nat} {l1 : Int32} {l2 : Int32} {l3 : Int32} {l4 : Option Nat} {M : mM} {κ : Int32 → mM → Prop} (h : wL_join g κ l0 l1 l2 l3 l4 M) : Met l yL_join wsL_joinA ({ frames := 8, cells := 4, slots := 33, locals := 177 } : Room) (va_Pc [va_rf l0, .int l1, .int l2, .int l3, va_rf l4] (m_PreN G b0 M)) (va_Qi κ (m_B G b0) (fun q => b0 ≤ q)) 4 33 (fun q => b0 ≤ q) := by
  refine m_metH (hh := [(0, 13, 16, 19), (0, 13, 20, 21), (0, 13, 24, 26)]) (cc := cL_join) (maxL := 6) (ret := (some .int)) (lv := [(0, va_rf l0), (1, .int l1), (2, .int l2), (3, .int l3), (4, va_rf l4)]) RL rfl (by decide +kernel) rfl (by first | exact Nat.le_of_ble_eq_true rfl | simp [lg_sl, q_cat, q_catI, q_catJ, q_catR, q_catN]) (by first | rfl | (simp [lv_args, q_cat, q_catI, q_catJ, q_catR, q_catN]; done) | (simp [lv_args, q_cat, q_catI, q_catJ, q_catR, q_catN]; rfl)) ?_
  intro p e s m args below meth c C hN hr hlocks hxt
  exact tL_join C hr hlocks hL hN hxt hg h
/-! L_leave -/
def wsL_leaveA : List Cond := wsL_leave ++ m_ex
set_option maxRecDepth 100000 in
set_option maxHeartbeats 4000000 in
theorem tL_leave {p : Program} {l : Launch} {e : Env} {s : State} {m : MethodId} {args : Array Value} {below : List Frame} {meth : Method} {c : Code} {G : mG} {b0 : Nat} (C : m_C p s m args c cL_leave 4 RL wsL_leaveA G b0) (hr : meth.sig.returnType = (some .int)) (hlocks : meth.locks = false) (hL : l.stackTraces = false) (hN : m_N s) (hxt : c.exceptionTable.toList = tableOf [(0, 10, 13, 19), (0, 10, 16, 26)]) {κ : Int32 → mM → Prop} {l0 : Option Nat} {l1 : Int32} {l2 : Option Nat} {M : mM} (h : wL_leave κ l0 l1 l2 M) : m_W p l e ({ frames := 8, cells := 2, slots := 12, locals := 134 } : Room) s m args below meth c G b0 (vx_MQ below (va_Qi κ (m_B G b0) (fun q => b0 ≤ q)) (fun _ _ _ => False) args s 2 12 (fun q => b0 ≤ q)) 4 M 0 0 0 [(0, va_rf l0), (1, .int l1), (2, va_rf l2)] [] := by
  unfold wL_leave at h
  refine q_aload_n (pc := 0) C 2 2 dL_leave_0 rfl rfl ?_
  refine q_aload_n (pc := 1) C 0 0 dL_leave_1 rfl rfl ?_
  refine q_iload_n (pc := 2) C 1 1 dL_leave_2 rfl rfl ?_
  obtain ⟨b3, fs9, hb3, hm9, h⟩ := h
  refine q_cXi (pc := 3) (q_rVX C (st := [va_rf l2]) (b := b3) (kX8_leave l G b0 (t := 1) hL (fun _ _ _ => Nat.le_refl 1) h) (cwV 1 C.2.2.2.2.1 (m_gapp gL_leave_X8_leave) rfl rfl rfl (by decide +kernel) ⟨Nat.le_of_ble_eq_true rfl, Nat.le_of_ble_eq_true rfl⟩) hm9 rfl rfl rfl (by first | exact Nat.le_of_ble_eq_true rfl | (simp [q_cat, q_catI, q_catJ, q_catR, q_catN]; done)) (by rw [hb3]; first | done | rfl) dL_leave_3 ⟨(by first | omega | (dsimp only; omega)), (by first | omega | (dsimp only; omega))⟩) ?_ ?_
  · intro E9 M9 h9
    rcases h9 with ⟨rfl, h⟩ | ⟨rfl, h⟩
    · refine q_catch (pc := 3) C hxt (E := "java/lang/IndexOutOfBoundsException") (name := "java/lang/IndexOutOfBoundsException") [] ⟨0, 10, 13, 19⟩ [⟨0, 10, 16, 26⟩] rfl (fun z hz => by cases hz) (by decide) (by decide) (by decide +kernel) 326 (by decide +kernel) (fun q9 => ?_)
      refine q_astore_n (pc := 13) C 3 [(3, va_rf (some q9)), (0, va_rf l0), (1, .int l1), (2, va_rf l2)] dL_leave_13 rfl (by decide) (by first | rfl | simp [q_cat, q_catI, q_catJ, q_catR, q_catN]) ?_
      refine q_iconst (pc := 14) C 1 dL_leave_14 (by decide) ?_
      exact q_iretX (pc := 15) C hr hlocks h dL_leave_15 (by omega) (by omega)
    · refine q_catch (pc := 3) C hxt (E := "java/lang/IllegalStateException") (name := "java/lang/IllegalStateException") [⟨0, 10, 13, 19⟩] ⟨0, 10, 16, 26⟩ [] rfl (fun z hz => by rw [List.mem_singleton.mp hz]; exact Or.inr ⟨by decide, "java/lang/IndexOutOfBoundsException", by decide +kernel, hN.2.1⟩) (by decide) (by decide) (by decide +kernel) 555 (by decide +kernel) (fun q9 => ?_)
      refine q_astore_n (pc := 16) C 3 [(3, va_rf (some q9)), (0, va_rf l0), (1, .int l1), (2, va_rf l2)] dL_leave_16 rfl (by decide) (by first | rfl | simp [q_cat, q_catI, q_catJ, q_catR, q_catN]) ?_
      refine q_iconst (pc := 17) C 2 dL_leave_17 (by decide) ?_
      exact q_iretX (pc := 18) C hr hlocks h dL_leave_18 (by omega) (by omega)
  · intro x1 M2 h
    refine q_i2l (pc := 6) C dL_leave_6 ?_
    refine q_pN (pc := 7) C h .long (host := "LullabygateLaw") (T := TX9) tyX9 tyX9_ok nmX9 rfl (by decide +kernel) rfl rfl rfl (by decide) (by decide +kernel) 528 (by decide +kernel) (fun _ h9 => h9) rfl dL_leave_7 (fun M4 h => ?_)
    refine q_goto (pc := 10) C 19 dL_leave_10 (by decide) ?_
    refine q_iconst (pc := 19) C 0 dL_leave_19 (by decide) ?_
    exact q_iretX (pc := 20) C hr hlocks h dL_leave_20 (by omega) (by omega)
set_option maxRecDepth 100000 in
set_option maxHeartbeats 4000000 in
theorem kL_leave (l : Launch) (G : mG) (b0 : Nat) (hL : l.stackTraces = false) {l0 : Option Nat} {l1 : Int32} {l2 : Option Nat} {M : mM} {κ : Int32 → mM → Prop} (h : wL_leave κ l0 l1 l2 M) : Met l yL_leave wsL_leaveA ({ frames := 8, cells := 2, slots := 12, locals := 134 } : Room) (va_Pc [va_rf l0, .int l1, va_rf l2] (m_PreN G b0 M)) (va_Qi κ (m_B G b0) (fun q => b0 ≤ q)) 2 12 (fun q => b0 ≤ q) := by
  refine m_metH (hh := [(0, 10, 13, 19), (0, 10, 16, 26)]) (cc := cL_leave) (maxL := 4) (ret := (some .int)) (lv := [(0, va_rf l0), (1, .int l1), (2, va_rf l2)]) RL rfl (by decide +kernel) rfl (by first | exact Nat.le_of_ble_eq_true rfl | simp [lg_sl, q_cat, q_catI, q_catJ, q_catR, q_catN]) (by first | rfl | (simp [lv_args, q_cat, q_catI, q_catJ, q_catR, q_catN]; done) | (simp [lv_args, q_cat, q_catI, q_catJ, q_catR, q_catN]; rfl)) ?_
  intro p e s m args below meth c C hN hr hlocks hxt
  exact tL_leave C hr hlocks hL hN hxt h
/-! L_yawn -/
def wsL_yawnA : List Cond := wsL_yawn ++ m_ex
set_option maxRecDepth 100000 in
set_option maxHeartbeats 4000000 in
theorem tL_yawn {p : Program} {l : Launch} {e : Env} {s : State} {m : MethodId} {args : Array Value} {below : List Frame} {meth : Method} {c : Code} {G : mG} {b0 : Nat} (C : m_C p s m args c cL_yawn 4 RL wsL_yawnA G b0) (hr : meth.sig.returnType = (some .int)) (hlocks : meth.locks = false) (hL : l.stackTraces = false) (hN : m_N s) (hxt : c.exceptionTable.toList = tableOf [(0, 10, 13, 19), (0, 10, 16, 26)]) {g : Nat → Nat} (hg : G.2.2 = g) {κ : Int32 → mM → Prop} {l0 : Option Nat} {l1 : Int32} {l2 : Option Nat} {M : mM} (h : wL_yawn g κ l0 l1 l2 M) : m_W p l e ({ frames := 11, cells := 50, slots := 1260, locals := 270 } : Room) s m args below meth c G b0 (vx_MQ below (va_Qi κ (m_B G b0) (fun q => b0 ≤ q)) (fun _ _ _ => False) args s 50 1260 (fun q => b0 ≤ q)) 4 M 0 0 0 [(0, va_rf l0), (1, .int l1), (2, va_rf l2)] [] := by
  unfold wL_yawn at h
  refine q_aload_n (pc := 0) C 2 2 dL_yawn_0 rfl rfl ?_
  refine q_aload_n (pc := 1) C 0 0 dL_yawn_1 rfl rfl ?_
  refine q_iload_n (pc := 2) C 1 1 dL_yawn_2 rfl rfl ?_
  obtain ⟨b3, fs9, hb3, hm9, h⟩ := h
  refine q_cXi (pc := 3) (q_rVX C (st := [va_rf l2]) (b := b3) (kX8_yawn l G b0 (t := 1) hL hg (fun _ _ _ => Nat.le_refl 1) h) (cwV 1 C.2.2.2.2.1 (m_gapp gL_yawn_X8_yawn) rfl rfl rfl (by decide +kernel) ⟨Nat.le_of_ble_eq_true rfl, Nat.le_of_ble_eq_true rfl⟩) hm9 rfl rfl rfl (by first | exact Nat.le_of_ble_eq_true rfl | (simp [q_cat, q_catI, q_catJ, q_catR, q_catN]; done)) (by rw [hb3]; first | done | rfl) dL_yawn_3 ⟨(by first | omega | (dsimp only; omega)), (by first | omega | (dsimp only; omega))⟩) ?_ ?_
  · intro E9 M9 h9
    rcases h9 with ⟨rfl, h⟩ | ⟨rfl, h⟩
    · refine q_catch (pc := 3) C hxt (E := "java/lang/IndexOutOfBoundsException") (name := "java/lang/IndexOutOfBoundsException") [] ⟨0, 10, 13, 19⟩ [⟨0, 10, 16, 26⟩] rfl (fun z hz => by cases hz) (by decide) (by decide) (by decide +kernel) 326 (by decide +kernel) (fun q9 => ?_)
      refine q_astore_n (pc := 13) C 3 [(3, va_rf (some q9)), (0, va_rf l0), (1, .int l1), (2, va_rf l2)] dL_yawn_13 rfl (by decide) (by first | rfl | simp [q_cat, q_catI, q_catJ, q_catR, q_catN]) ?_
      refine q_iconst (pc := 14) C 1 dL_yawn_14 (by decide) ?_
      exact q_iretX (pc := 15) C hr hlocks h dL_yawn_15 (by omega) (by omega)
    · refine q_catch (pc := 3) C hxt (E := "java/lang/IllegalStateException") (name := "java/lang/IllegalStateException") [⟨0, 10, 13, 19⟩] ⟨0, 10, 16, 26⟩ [] rfl (fun z hz => by rw [List.mem_singleton.mp hz]; exact Or.inr ⟨by decide, "java/lang/IndexOutOfBoundsException", by decide +kernel, hN.2.1⟩) (by decide) (by decide) (by decide +kernel) 555 (by decide +kernel) (fun q9 => ?_)
      refine q_astore_n (pc := 16) C 3 [(3, va_rf (some q9)), (0, va_rf l0), (1, .int l1), (2, va_rf l2)] dL_yawn_16 rfl (by decide) (by first | rfl | simp [q_cat, q_catI, q_catJ, q_catR, q_catN]) ?_
      refine q_iconst (pc := 17) C 2 dL_yawn_17 (by decide) ?_
      exact q_iretX (pc := 18) C hr hlocks h dL_yawn_18 (by omega) (by omega)
  · intro x1 M2 h
    refine q_i2l (pc := 6) C dL_yawn_6 ?_
    refine q_pN (pc := 7) C h .long (host := "LullabygateLaw") (T := TX9) tyX9 tyX9_ok nmX9 rfl (by decide +kernel) rfl rfl rfl (by decide) (by decide +kernel) 528 (by decide +kernel) (fun _ h9 => h9) rfl dL_yawn_7 (fun M4 h => ?_)
    refine q_goto (pc := 10) C 19 dL_yawn_10 (by decide) ?_
    refine q_iconst (pc := 19) C 0 dL_yawn_19 (by decide) ?_
    exact q_iretX (pc := 20) C hr hlocks h dL_yawn_20 (by omega) (by omega)
set_option maxRecDepth 100000 in
set_option maxHeartbeats 4000000 in
theorem kL_yawn (l : Launch) (G : mG) (b0 : Nat) (hL : l.stackTraces = false) {g : Nat → Nat} (hg : G.2.2 = g) {l0 : Option Nat} {l1 : Int32} {l2 : Option Nat} {M : mM} {κ : Int32 → mM → Prop} (h : wL_yawn g κ l0 l1 l2 M) : Met l yL_yawn wsL_yawnA ({ frames := 11, cells := 50, slots := 1260, locals := 270 } : Room) (va_Pc [va_rf l0, .int l1, va_rf l2] (m_PreN G b0 M)) (va_Qi κ (m_B G b0) (fun q => b0 ≤ q)) 50 1260 (fun q => b0 ≤ q) := by
  refine m_metH (hh := [(0, 10, 13, 19), (0, 10, 16, 26)]) (cc := cL_yawn) (maxL := 4) (ret := (some .int)) (lv := [(0, va_rf l0), (1, .int l1), (2, va_rf l2)]) RL rfl (by decide +kernel) rfl (by first | exact Nat.le_of_ble_eq_true rfl | simp [lg_sl, q_cat, q_catI, q_catJ, q_catR, q_catN]) (by first | rfl | (simp [lv_args, q_cat, q_catI, q_catJ, q_catR, q_catN]; done) | (simp [lv_args, q_cat, q_catI, q_catJ, q_catR, q_catN]; rfl)) ?_
  intro p e s m args below meth c C hN hr hlocks hxt
  exact tL_yawn C hr hlocks hL hN hxt hg h
/-! L_appeal -/
def wsL_appealA : List Cond := wsL_appeal ++ m_ex
set_option maxRecDepth 100000 in
set_option maxHeartbeats 4000000 in
theorem tL_appeal_14 {p : Program} {l : Launch} {e : Env} {s : State} {m : MethodId} {args : Array Value} {below : List Frame} {meth : Method} {c : Code} {G : mG} {b0 : Nat} (C : m_C p s m args c cL_appeal 4 RL wsL_appealA G b0) (hr : meth.sig.returnType = (some .int)) (hlocks : meth.locks = false) (hL : l.stackTraces = false) (hN : m_N s) (hxt : c.exceptionTable.toList = tableOf [(0, 17, 20, 19), (0, 17, 23, 26)]) {κ : Int32 → mM → Prop} {s0 : Int64} {s1 : Option Nat} {M : mM} (h : wL_appeal_14 κ s0 s1 M) : m_W p l e ({ frames := 8, cells := 2, slots := 12, locals := 135 } : Room) s m args below meth c G b0 (vx_MQ below (va_Qi κ (m_B G b0) (fun q => b0 ≤ q)) (fun _ _ _ => False) args s 2 12 (fun q => b0 ≤ q)) 4 M 2 12 14 [] [.long s0, va_rf s1] := by
  unfold wL_appeal_14 at h
  refine q_pN (pc := 14) C h .long (host := "LullabygateLaw") (T := TX9) tyX9 tyX9_ok nmX9 rfl (by decide +kernel) rfl rfl rfl (by decide) (by decide +kernel) 528 (by decide +kernel) (fun _ h9 => h9) rfl dL_appeal_14 (fun M1 h => ?_)
  refine q_goto (pc := 17) C 26 dL_appeal_17 (by decide) ?_
  refine q_iconst (pc := 26) C 0 dL_appeal_26 (by decide) ?_
  exact q_iretX (pc := 27) C hr hlocks h dL_appeal_27 (by omega) (by omega)
set_option maxRecDepth 100000 in
set_option maxHeartbeats 4000000 in
theorem tL_appeal {p : Program} {l : Launch} {e : Env} {s : State} {m : MethodId} {args : Array Value} {below : List Frame} {meth : Method} {c : Code} {G : mG} {b0 : Nat} (C : m_C p s m args c cL_appeal 4 RL wsL_appealA G b0) (hr : meth.sig.returnType = (some .int)) (hlocks : meth.locks = false) (hL : l.stackTraces = false) (hN : m_N s) (hxt : c.exceptionTable.toList = tableOf [(0, 17, 20, 19), (0, 17, 23, 26)]) {κ : Int32 → mM → Prop} {l0 : Option Nat} {l1 : Int32} {l2 : Option Nat} {M : mM} (h : wL_appeal κ l0 l1 l2 M) : m_W p l e ({ frames := 8, cells := 2, slots := 12, locals := 135 } : Room) s m args below meth c G b0 (vx_MQ below (va_Qi κ (m_B G b0) (fun q => b0 ≤ q)) (fun _ _ _ => False) args s 2 12 (fun q => b0 ≤ q)) 4 M 0 0 0 [(0, va_rf l0), (1, .int l1), (2, va_rf l2)] [] := by
  unfold wL_appeal at h
  refine q_aload_n (pc := 0) C 2 2 dL_appeal_0 rfl rfl ?_
  refine q_aload_n (pc := 1) C 0 0 dL_appeal_1 rfl rfl ?_
  refine q_iload_n (pc := 2) C 1 1 dL_appeal_2 rfl rfl ?_
  obtain ⟨b3, fs9, hb3, hm9, h⟩ := h
  refine q_cXi (pc := 3) (q_rVX C (st := [va_rf l2]) (b := b3) (kX8_appeal l G b0 (t := 1) hL (fun _ _ _ => Nat.le_refl 1) h) (cwV 1 C.2.2.2.2.1 (m_gapp gL_appeal_X8_appeal) rfl rfl rfl (by decide +kernel) ⟨Nat.le_of_ble_eq_true rfl, Nat.le_of_ble_eq_true rfl⟩) hm9 rfl rfl rfl (by first | exact Nat.le_of_ble_eq_true rfl | (simp [q_cat, q_catI, q_catJ, q_catR, q_catN]; done)) (by rw [hb3]; first | done | rfl) dL_appeal_3 ⟨(by first | omega | (dsimp only; omega)), (by first | omega | (dsimp only; omega))⟩) ?_ ?_
  · intro E9 M9 h9
    rcases h9 with ⟨rfl, h⟩ | ⟨rfl, h⟩
    · refine q_catch (pc := 3) C hxt (E := "java/lang/IndexOutOfBoundsException") (name := "java/lang/IndexOutOfBoundsException") [] ⟨0, 17, 20, 19⟩ [⟨0, 17, 23, 26⟩] rfl (fun z hz => by cases hz) (by decide) (by decide) (by decide +kernel) 326 (by decide +kernel) (fun q9 => ?_)
      refine q_astore_n (pc := 20) C 3 [(3, va_rf (some q9)), (0, va_rf l0), (1, .int l1), (2, va_rf l2)] dL_appeal_20 rfl (by decide) (by first | rfl | simp [q_cat, q_catI, q_catJ, q_catR, q_catN]) ?_
      refine q_iconst (pc := 21) C 1 dL_appeal_21 (by decide) ?_
      exact q_iretX (pc := 22) C hr hlocks h dL_appeal_22 (by omega) (by omega)
    · refine q_catch (pc := 3) C hxt (E := "java/lang/IllegalStateException") (name := "java/lang/IllegalStateException") [⟨0, 17, 20, 19⟩] ⟨0, 17, 23, 26⟩ [] rfl (fun z hz => by rw [List.mem_singleton.mp hz]; exact Or.inr ⟨by decide, "java/lang/IndexOutOfBoundsException", by decide +kernel, hN.2.1⟩) (by decide) (by decide) (by decide +kernel) 555 (by decide +kernel) (fun q9 => ?_)
      refine q_astore_n (pc := 23) C 3 [(3, va_rf (some q9)), (0, va_rf l0), (1, .int l1), (2, va_rf l2)] dL_appeal_23 rfl (by decide) (by first | rfl | simp [q_cat, q_catI, q_catJ, q_catR, q_catN]) ?_
      refine q_iconst (pc := 24) C 2 dL_appeal_24 (by decide) ?_
      exact q_iretX (pc := 25) C hr hlocks h dL_appeal_25 (by omega) (by omega)
  · intro x1 M2 h
    refine q_if_eq (pc := 6) C 13 dL_appeal_6 (by decide) (fun c4 => ?_) (fun c4 => ?_)
    · have h := h.1 c4
      refine q_lconst (pc := 13) C 0 dL_appeal_13 (by decide) ?_
      refine q_widen (k2 := 2) (n2 := 12) (by omega) (by omega) ?_
      refine q_lv [] rfl ?_
      exact tL_appeal_14 C hr hlocks hL hN hxt h
    · have h := h.2 c4
      refine q_lconst (pc := 9) C 1 dL_appeal_9 (by decide) ?_
      refine q_goto (pc := 10) C 14 dL_appeal_10 (by decide) ?_
      refine q_widen (k2 := 2) (n2 := 12) (by omega) (by omega) ?_
      refine q_lv [] rfl ?_
      exact tL_appeal_14 C hr hlocks hL hN hxt h
set_option maxRecDepth 100000 in
set_option maxHeartbeats 4000000 in
theorem kL_appeal (l : Launch) (G : mG) (b0 : Nat) (hL : l.stackTraces = false) {l0 : Option Nat} {l1 : Int32} {l2 : Option Nat} {M : mM} {κ : Int32 → mM → Prop} (h : wL_appeal κ l0 l1 l2 M) : Met l yL_appeal wsL_appealA ({ frames := 8, cells := 2, slots := 12, locals := 135 } : Room) (va_Pc [va_rf l0, .int l1, va_rf l2] (m_PreN G b0 M)) (va_Qi κ (m_B G b0) (fun q => b0 ≤ q)) 2 12 (fun q => b0 ≤ q) := by
  refine m_metH (hh := [(0, 17, 20, 19), (0, 17, 23, 26)]) (cc := cL_appeal) (maxL := 4) (ret := (some .int)) (lv := [(0, va_rf l0), (1, .int l1), (2, va_rf l2)]) RL rfl (by decide +kernel) rfl (by first | exact Nat.le_of_ble_eq_true rfl | simp [lg_sl, q_cat, q_catI, q_catJ, q_catR, q_catN]) (by first | rfl | (simp [lv_args, q_cat, q_catI, q_catJ, q_catR, q_catN]; done) | (simp [lv_args, q_cat, q_catI, q_catJ, q_catR, q_catN]; rfl)) ?_
  intro p e s m args below meth c C hN hr hlocks hxt
  exact tL_appeal C hr hlocks hL hN hxt h
/-! L_pass -/
def wsL_passA : List Cond := wsL_pass ++ m_ex
set_option maxRecDepth 100000 in
set_option maxHeartbeats 4000000 in
theorem tL_pass {p : Program} {l : Launch} {e : Env} {s : State} {m : MethodId} {args : Array Value} {below : List Frame} {meth : Method} {c : Code} {G : mG} {b0 : Nat} (C : m_C p s m args c cL_pass 4 RL wsL_passA G b0) (hr : meth.sig.returnType = (some .int)) (hlocks : meth.locks = false) (hL : l.stackTraces = false) (hN : m_N s) (hxt : c.exceptionTable.toList = tableOf [(0, 10, 13, 21), (0, 10, 16, 26)]) {κ : Int32 → mM → Prop} {l0 : Option Nat} {l1 : Int32} {l2 : Option Nat} {M : mM} (h : wL_pass κ l0 l1 l2 M) : m_W p l e ({ frames := 8, cells := 2, slots := 12, locals := 134 } : Room) s m args below meth c G b0 (vx_MQ below (va_Qi κ (m_B G b0) (fun q => b0 ≤ q)) (fun _ _ _ => False) args s 2 12 (fun q => b0 ≤ q)) 4 M 0 0 0 [(0, va_rf l0), (1, .int l1), (2, va_rf l2)] [] := by
  unfold wL_pass at h
  refine q_aload_n (pc := 0) C 2 2 dL_pass_0 rfl rfl ?_
  refine q_aload_n (pc := 1) C 0 0 dL_pass_1 rfl rfl ?_
  refine q_iload_n (pc := 2) C 1 1 dL_pass_2 rfl rfl ?_
  obtain ⟨b3, fs9, hb3, hm9, h⟩ := h
  refine q_cXi (pc := 3) (q_rVX C (st := [va_rf l2]) (b := b3) (kX8_pass l G b0 (t := 1) hL (fun _ _ _ => Nat.le_refl 1) h) (cwV 1 C.2.2.2.2.1 (m_gapp gL_pass_X8_pass) rfl rfl rfl (by decide +kernel) ⟨Nat.le_of_ble_eq_true rfl, Nat.le_of_ble_eq_true rfl⟩) hm9 rfl rfl rfl (by first | exact Nat.le_of_ble_eq_true rfl | (simp [q_cat, q_catI, q_catJ, q_catR, q_catN]; done)) (by rw [hb3]; first | done | rfl) dL_pass_3 ⟨(by first | omega | (dsimp only; omega)), (by first | omega | (dsimp only; omega))⟩) ?_ ?_
  · intro E9 M9 h9
    rcases h9 with ⟨rfl, h⟩ | ⟨rfl, h⟩
    · refine q_catch (pc := 3) C hxt (E := "java/lang/IllegalArgumentException") (name := "java/lang/IllegalArgumentException") [] ⟨0, 10, 13, 21⟩ [⟨0, 10, 16, 26⟩] rfl (fun z hz => by cases hz) (by decide) (by decide) (by decide +kernel) 250 (by decide +kernel) (fun q9 => ?_)
      refine q_astore_n (pc := 13) C 3 [(3, va_rf (some q9)), (0, va_rf l0), (1, .int l1), (2, va_rf l2)] dL_pass_13 rfl (by decide) (by first | rfl | simp [q_cat, q_catI, q_catJ, q_catR, q_catN]) ?_
      refine q_iconst (pc := 14) C 1 dL_pass_14 (by decide) ?_
      exact q_iretX (pc := 15) C hr hlocks h dL_pass_15 (by omega) (by omega)
    · refine q_catch (pc := 3) C hxt (E := "java/lang/IllegalStateException") (name := "java/lang/IllegalStateException") [⟨0, 10, 13, 21⟩] ⟨0, 10, 16, 26⟩ [] rfl (fun z hz => by rw [List.mem_singleton.mp hz]; exact Or.inr ⟨by decide, "java/lang/IllegalArgumentException", by decide +kernel, hN.2.2⟩) (by decide) (by decide) (by decide +kernel) 555 (by decide +kernel) (fun q9 => ?_)
      refine q_astore_n (pc := 16) C 3 [(3, va_rf (some q9)), (0, va_rf l0), (1, .int l1), (2, va_rf l2)] dL_pass_16 rfl (by decide) (by first | rfl | simp [q_cat, q_catI, q_catJ, q_catR, q_catN]) ?_
      refine q_iconst (pc := 17) C 2 dL_pass_17 (by decide) ?_
      exact q_iretX (pc := 18) C hr hlocks h dL_pass_18 (by omega) (by omega)
  · intro x1 M2 h
    refine q_i2l (pc := 6) C dL_pass_6 ?_
    refine q_pN (pc := 7) C h .long (host := "LullabygateLaw") (T := TX9) tyX9 tyX9_ok nmX9 rfl (by decide +kernel) rfl rfl rfl (by decide) (by decide +kernel) 528 (by decide +kernel) (fun _ h9 => h9) rfl dL_pass_7 (fun M4 h => ?_)
    refine q_goto (pc := 10) C 19 dL_pass_10 (by decide) ?_
    refine q_iconst (pc := 19) C 0 dL_pass_19 (by decide) ?_
    exact q_iretX (pc := 20) C hr hlocks h dL_pass_20 (by omega) (by omega)
set_option maxRecDepth 100000 in
set_option maxHeartbeats 4000000 in
theorem kL_pass (l : Launch) (G : mG) (b0 : Nat) (hL : l.stackTraces = false) {l0 : Option Nat} {l1 : Int32} {l2 : Option Nat} {M : mM} {κ : Int32 → mM → Prop} (h : wL_pass κ l0 l1 l2 M) : Met l yL_pass wsL_passA ({ frames := 8, cells := 2, slots := 12, locals := 134 } : Room) (va_Pc [va_rf l0, .int l1, va_rf l2] (m_PreN G b0 M)) (va_Qi κ (m_B G b0) (fun q => b0 ≤ q)) 2 12 (fun q => b0 ≤ q) := by
  refine m_metH (hh := [(0, 10, 13, 21), (0, 10, 16, 26)]) (cc := cL_pass) (maxL := 4) (ret := (some .int)) (lv := [(0, va_rf l0), (1, .int l1), (2, va_rf l2)]) RL rfl (by decide +kernel) rfl (by first | exact Nat.le_of_ble_eq_true rfl | simp [lg_sl, q_cat, q_catI, q_catJ, q_catR, q_catN]) (by first | rfl | (simp [lv_args, q_cat, q_catI, q_catJ, q_catR, q_catN]; done) | (simp [lv_args, q_cat, q_catI, q_catJ, q_catR, q_catN]; rfl)) ?_
  intro p e s m args below meth c C hN hr hlocks hxt
  exact tL_pass C hr hlocks hL hN hxt h
/-! L_ofLand -/
def wsL_ofLandA : List Cond := wsL_ofLand ++ m_ex
set_option maxRecDepth 100000 in
set_option maxHeartbeats 4000000 in
theorem tL_ofLand {p : Program} {l : Launch} {e : Env} {s : State} {m : MethodId} {args : Array Value} {below : List Frame} {meth : Method} {c : Code} {G : mG} {b0 : Nat} (C : m_C p s m args c cL_ofLand 5 RL wsL_ofLandA G b0) (hr : meth.sig.returnType = (some .int)) (hlocks : meth.locks = false) (hL : l.stackTraces = false) (hN : m_N s) (hxt : c.exceptionTable.toList = tableOf [(0, 11, 14, 19), (0, 11, 18, 21)]) {κ : Int32 → mM → Prop} {l0 : Option Nat} {l1 : Int32} {l2 : Int32} {l3 : Option Nat} {M : mM} (h : wL_ofLand κ l0 l1 l2 l3 M) : m_W p l e ({ frames := 8, cells := 2, slots := 12, locals := 134 } : Room) s m args below meth c G b0 (vx_MQ below (va_Qi κ (m_B G b0) (fun q => b0 ≤ q)) (fun _ _ _ => False) args s 2 12 (fun q => b0 ≤ q)) 5 M 0 0 0 [(0, va_rf l0), (1, .int l1), (2, .int l2), (3, va_rf l3)] [] := by
  unfold wL_ofLand at h
  refine q_aload_n (pc := 0) C 3 3 dL_ofLand_0 rfl rfl ?_
  refine q_aload_n (pc := 1) C 0 0 dL_ofLand_1 rfl rfl ?_
  refine q_iload_n (pc := 2) C 1 1 dL_ofLand_2 rfl rfl ?_
  refine q_iload_n (pc := 3) C 2 2 dL_ofLand_3 rfl rfl ?_
  obtain ⟨b3, fs9, hb3, hm9, h⟩ := h
  refine q_cXi (pc := 4) (q_rVX C (st := [va_rf l3]) (b := b3) (kX8_ofLand l G b0 (t := 1) hL (fun _ _ _ => Nat.le_refl 1) h) (cwV 2 C.2.2.2.2.1 (m_gapp gL_ofLand_X8_ofLand) rfl rfl rfl (by decide +kernel) ⟨Nat.le_of_ble_eq_true rfl, Nat.le_of_ble_eq_true rfl⟩) hm9 rfl rfl rfl (by first | exact Nat.le_of_ble_eq_true rfl | (simp [q_cat, q_catI, q_catJ, q_catR, q_catN]; done)) (by rw [hb3]; first | done | rfl) dL_ofLand_4 ⟨(by first | omega | (dsimp only; omega)), (by first | omega | (dsimp only; omega))⟩) ?_ ?_
  · intro E9 M9 h9
    rcases h9 with ⟨rfl, h⟩ | ⟨rfl, h⟩
    · refine q_catch (pc := 4) C hxt (E := "java/lang/IndexOutOfBoundsException") (name := "java/lang/IndexOutOfBoundsException") [] ⟨0, 11, 14, 19⟩ [⟨0, 11, 18, 21⟩] rfl (fun z hz => by cases hz) (by decide) (by decide) (by decide +kernel) 326 (by decide +kernel) (fun q9 => ?_)
      refine q_astore (pc := 14) C 4 [(4, va_rf (some q9)), (0, va_rf l0), (1, .int l1), (2, .int l2), (3, va_rf l3)] dL_ofLand_14 (by decide) (by first | rfl | simp [q_cat, q_catI, q_catJ, q_catR, q_catN]) ?_
      refine q_iconst (pc := 16) C 1 dL_ofLand_16 (by decide) ?_
      exact q_iretX (pc := 17) C hr hlocks h dL_ofLand_17 (by omega) (by omega)
    · refine q_catch (pc := 4) C hxt (E := "java/lang/IllegalArgumentException") (name := "java/lang/IllegalArgumentException") [⟨0, 11, 14, 19⟩] ⟨0, 11, 18, 21⟩ [] rfl (fun z hz => by rw [List.mem_singleton.mp hz]; exact Or.inr ⟨by decide, "java/lang/IndexOutOfBoundsException", by decide +kernel, hN.1⟩) (by decide) (by decide) (by decide +kernel) 250 (by decide +kernel) (fun q9 => ?_)
      refine q_astore (pc := 18) C 4 [(4, va_rf (some q9)), (0, va_rf l0), (1, .int l1), (2, .int l2), (3, va_rf l3)] dL_ofLand_18 (by decide) (by first | rfl | simp [q_cat, q_catI, q_catJ, q_catR, q_catN]) ?_
      refine q_iconst (pc := 20) C 2 dL_ofLand_20 (by decide) ?_
      exact q_iretX (pc := 21) C hr hlocks h dL_ofLand_21 (by omega) (by omega)
  · intro x1 M2 h
    refine q_i2l (pc := 7) C dL_ofLand_7 ?_
    refine q_pN (pc := 8) C h .long (host := "LullabygateLaw") (T := TX9) tyX9 tyX9_ok nmX9 rfl (by decide +kernel) rfl rfl rfl (by decide) (by decide +kernel) 528 (by decide +kernel) (fun _ h9 => h9) rfl dL_ofLand_8 (fun M4 h => ?_)
    refine q_goto (pc := 11) C 22 dL_ofLand_11 (by decide) ?_
    refine q_iconst (pc := 22) C 0 dL_ofLand_22 (by decide) ?_
    exact q_iretX (pc := 23) C hr hlocks h dL_ofLand_23 (by omega) (by omega)
set_option maxRecDepth 100000 in
set_option maxHeartbeats 4000000 in
theorem kL_ofLand (l : Launch) (G : mG) (b0 : Nat) (hL : l.stackTraces = false) {l0 : Option Nat} {l1 : Int32} {l2 : Int32} {l3 : Option Nat} {M : mM} {κ : Int32 → mM → Prop} (h : wL_ofLand κ l0 l1 l2 l3 M) : Met l yL_ofLand wsL_ofLandA ({ frames := 8, cells := 2, slots := 12, locals := 134 } : Room) (va_Pc [va_rf l0, .int l1, .int l2, va_rf l3] (m_PreN G b0 M)) (va_Qi κ (m_B G b0) (fun q => b0 ≤ q)) 2 12 (fun q => b0 ≤ q) := by
  refine m_metH (hh := [(0, 11, 14, 19), (0, 11, 18, 21)]) (cc := cL_ofLand) (maxL := 5) (ret := (some .int)) (lv := [(0, va_rf l0), (1, .int l1), (2, .int l2), (3, va_rf l3)]) RL rfl (by decide +kernel) rfl (by first | exact Nat.le_of_ble_eq_true rfl | simp [lg_sl, q_cat, q_catI, q_catJ, q_catR, q_catN]) (by first | rfl | (simp [lv_args, q_cat, q_catI, q_catJ, q_catR, q_catN]; done) | (simp [lv_args, q_cat, q_catI, q_catJ, q_catR, q_catN]; rfl)) ?_
  intro p e s m args below meth c C hN hr hlocks hxt
  exact tL_ofLand C hr hlocks hL hN hxt h
/-! L_ofGate -/
def wsL_ofGateA : List Cond := wsL_ofGate ++ m_ex
set_option maxRecDepth 100000 in
set_option maxHeartbeats 4000000 in
theorem tL_ofGate {p : Program} {l : Launch} {e : Env} {s : State} {m : MethodId} {args : Array Value} {below : List Frame} {meth : Method} {c : Code} {G : mG} {b0 : Nat} (C : m_C p s m args c cL_ofGate 5 RL wsL_ofGateA G b0) (hr : meth.sig.returnType = (some .int)) (hlocks : meth.locks = false) (hL : l.stackTraces = false) (hN : m_N s) (hxt : c.exceptionTable.toList = tableOf [(0, 11, 14, 19), (0, 11, 18, 21)]) {κ : Int32 → mM → Prop} {l0 : Option Nat} {l1 : Int32} {l2 : Int32} {l3 : Option Nat} {M : mM} (h : wL_ofGate κ l0 l1 l2 l3 M) : m_W p l e ({ frames := 8, cells := 2, slots := 12, locals := 134 } : Room) s m args below meth c G b0 (vx_MQ below (va_Qi κ (m_B G b0) (fun q => b0 ≤ q)) (fun _ _ _ => False) args s 2 12 (fun q => b0 ≤ q)) 5 M 0 0 0 [(0, va_rf l0), (1, .int l1), (2, .int l2), (3, va_rf l3)] [] := by
  unfold wL_ofGate at h
  refine q_aload_n (pc := 0) C 3 3 dL_ofGate_0 rfl rfl ?_
  refine q_aload_n (pc := 1) C 0 0 dL_ofGate_1 rfl rfl ?_
  refine q_iload_n (pc := 2) C 1 1 dL_ofGate_2 rfl rfl ?_
  refine q_iload_n (pc := 3) C 2 2 dL_ofGate_3 rfl rfl ?_
  obtain ⟨b3, fs9, hb3, hm9, h⟩ := h
  refine q_cXi (pc := 4) (q_rVX C (st := [va_rf l3]) (b := b3) (kX8_ofGate l G b0 (t := 1) hL (fun _ _ _ => Nat.le_refl 1) h) (cwV 2 C.2.2.2.2.1 (m_gapp gL_ofGate_X8_ofGate) rfl rfl rfl (by decide +kernel) ⟨Nat.le_of_ble_eq_true rfl, Nat.le_of_ble_eq_true rfl⟩) hm9 rfl rfl rfl (by first | exact Nat.le_of_ble_eq_true rfl | (simp [q_cat, q_catI, q_catJ, q_catR, q_catN]; done)) (by rw [hb3]; first | done | rfl) dL_ofGate_4 ⟨(by first | omega | (dsimp only; omega)), (by first | omega | (dsimp only; omega))⟩) ?_ ?_
  · intro E9 M9 h9
    rcases h9 with ⟨rfl, h⟩ | ⟨rfl, h⟩
    · refine q_catch (pc := 4) C hxt (E := "java/lang/IndexOutOfBoundsException") (name := "java/lang/IndexOutOfBoundsException") [] ⟨0, 11, 14, 19⟩ [⟨0, 11, 18, 21⟩] rfl (fun z hz => by cases hz) (by decide) (by decide) (by decide +kernel) 326 (by decide +kernel) (fun q9 => ?_)
      refine q_astore (pc := 14) C 4 [(4, va_rf (some q9)), (0, va_rf l0), (1, .int l1), (2, .int l2), (3, va_rf l3)] dL_ofGate_14 (by decide) (by first | rfl | simp [q_cat, q_catI, q_catJ, q_catR, q_catN]) ?_
      refine q_iconst (pc := 16) C 1 dL_ofGate_16 (by decide) ?_
      exact q_iretX (pc := 17) C hr hlocks h dL_ofGate_17 (by omega) (by omega)
    · refine q_catch (pc := 4) C hxt (E := "java/lang/IllegalArgumentException") (name := "java/lang/IllegalArgumentException") [⟨0, 11, 14, 19⟩] ⟨0, 11, 18, 21⟩ [] rfl (fun z hz => by rw [List.mem_singleton.mp hz]; exact Or.inr ⟨by decide, "java/lang/IndexOutOfBoundsException", by decide +kernel, hN.1⟩) (by decide) (by decide) (by decide +kernel) 250 (by decide +kernel) (fun q9 => ?_)
      refine q_astore (pc := 18) C 4 [(4, va_rf (some q9)), (0, va_rf l0), (1, .int l1), (2, .int l2), (3, va_rf l3)] dL_ofGate_18 (by decide) (by first | rfl | simp [q_cat, q_catI, q_catJ, q_catR, q_catN]) ?_
      refine q_iconst (pc := 20) C 2 dL_ofGate_20 (by decide) ?_
      exact q_iretX (pc := 21) C hr hlocks h dL_ofGate_21 (by omega) (by omega)
  · intro x1 M2 h
    refine q_i2l (pc := 7) C dL_ofGate_7 ?_
    refine q_pN (pc := 8) C h .long (host := "LullabygateLaw") (T := TX9) tyX9 tyX9_ok nmX9 rfl (by decide +kernel) rfl rfl rfl (by decide) (by decide +kernel) 528 (by decide +kernel) (fun _ h9 => h9) rfl dL_ofGate_8 (fun M4 h => ?_)
    refine q_goto (pc := 11) C 22 dL_ofGate_11 (by decide) ?_
    refine q_iconst (pc := 22) C 0 dL_ofGate_22 (by decide) ?_
    exact q_iretX (pc := 23) C hr hlocks h dL_ofGate_23 (by omega) (by omega)
set_option maxRecDepth 100000 in
set_option maxHeartbeats 4000000 in
theorem kL_ofGate (l : Launch) (G : mG) (b0 : Nat) (hL : l.stackTraces = false) {l0 : Option Nat} {l1 : Int32} {l2 : Int32} {l3 : Option Nat} {M : mM} {κ : Int32 → mM → Prop} (h : wL_ofGate κ l0 l1 l2 l3 M) : Met l yL_ofGate wsL_ofGateA ({ frames := 8, cells := 2, slots := 12, locals := 134 } : Room) (va_Pc [va_rf l0, .int l1, .int l2, va_rf l3] (m_PreN G b0 M)) (va_Qi κ (m_B G b0) (fun q => b0 ≤ q)) 2 12 (fun q => b0 ≤ q) := by
  refine m_metH (hh := [(0, 11, 14, 19), (0, 11, 18, 21)]) (cc := cL_ofGate) (maxL := 5) (ret := (some .int)) (lv := [(0, va_rf l0), (1, .int l1), (2, .int l2), (3, va_rf l3)]) RL rfl (by decide +kernel) rfl (by first | exact Nat.le_of_ble_eq_true rfl | simp [lg_sl, q_cat, q_catI, q_catJ, q_catR, q_catN]) (by first | rfl | (simp [lv_args, q_cat, q_catI, q_catJ, q_catR, q_catN]; done) | (simp [lv_args, q_cat, q_catI, q_catJ, q_catR, q_catN]; rfl)) ?_
  intro p e s m args below meth c C hN hr hlocks hxt
  exact tL_ofGate C hr hlocks hL hN hxt h
/-! L_ofSleeper -/
def wsL_ofSleeperA : List Cond := wsL_ofSleeper ++ m_ex
set_option maxRecDepth 100000 in
set_option maxHeartbeats 4000000 in
theorem tL_ofSleeper {p : Program} {l : Launch} {e : Env} {s : State} {m : MethodId} {args : Array Value} {below : List Frame} {meth : Method} {c : Code} {G : mG} {b0 : Nat} (C : m_C p s m args c cL_ofSleeper 5 RL wsL_ofSleeperA G b0) (hr : meth.sig.returnType = (some .int)) (hlocks : meth.locks = false) (hL : l.stackTraces = false) (hN : m_N s) (hxt : c.exceptionTable.toList = tableOf [(0, 11, 14, 19), (0, 11, 18, 21)]) {κ : Int32 → mM → Prop} {l0 : Option Nat} {l1 : Int32} {l2 : Int32} {l3 : Option Nat} {M : mM} (h : wL_ofSleeper κ l0 l1 l2 l3 M) : m_W p l e ({ frames := 8, cells := 2, slots := 12, locals := 134 } : Room) s m args below meth c G b0 (vx_MQ below (va_Qi κ (m_B G b0) (fun q => b0 ≤ q)) (fun _ _ _ => False) args s 2 12 (fun q => b0 ≤ q)) 5 M 0 0 0 [(0, va_rf l0), (1, .int l1), (2, .int l2), (3, va_rf l3)] [] := by
  unfold wL_ofSleeper at h
  refine q_aload_n (pc := 0) C 3 3 dL_ofSleeper_0 rfl rfl ?_
  refine q_aload_n (pc := 1) C 0 0 dL_ofSleeper_1 rfl rfl ?_
  refine q_iload_n (pc := 2) C 1 1 dL_ofSleeper_2 rfl rfl ?_
  refine q_iload_n (pc := 3) C 2 2 dL_ofSleeper_3 rfl rfl ?_
  obtain ⟨b3, fs9, hb3, hm9, h⟩ := h
  refine q_cXi (pc := 4) (q_rVX C (st := [va_rf l3]) (b := b3) (kX8_ofSleeper l G b0 (t := 1) hL (fun _ _ _ => Nat.le_refl 1) h) (cwV 2 C.2.2.2.2.1 (m_gapp gL_ofSleeper_X8_ofSleeper) rfl rfl rfl (by decide +kernel) ⟨Nat.le_of_ble_eq_true rfl, Nat.le_of_ble_eq_true rfl⟩) hm9 rfl rfl rfl (by first | exact Nat.le_of_ble_eq_true rfl | (simp [q_cat, q_catI, q_catJ, q_catR, q_catN]; done)) (by rw [hb3]; first | done | rfl) dL_ofSleeper_4 ⟨(by first | omega | (dsimp only; omega)), (by first | omega | (dsimp only; omega))⟩) ?_ ?_
  · intro E9 M9 h9
    rcases h9 with ⟨rfl, h⟩ | ⟨rfl, h⟩
    · refine q_catch (pc := 4) C hxt (E := "java/lang/IndexOutOfBoundsException") (name := "java/lang/IndexOutOfBoundsException") [] ⟨0, 11, 14, 19⟩ [⟨0, 11, 18, 21⟩] rfl (fun z hz => by cases hz) (by decide) (by decide) (by decide +kernel) 326 (by decide +kernel) (fun q9 => ?_)
      refine q_astore (pc := 14) C 4 [(4, va_rf (some q9)), (0, va_rf l0), (1, .int l1), (2, .int l2), (3, va_rf l3)] dL_ofSleeper_14 (by decide) (by first | rfl | simp [q_cat, q_catI, q_catJ, q_catR, q_catN]) ?_
      refine q_iconst (pc := 16) C 1 dL_ofSleeper_16 (by decide) ?_
      exact q_iretX (pc := 17) C hr hlocks h dL_ofSleeper_17 (by omega) (by omega)
    · refine q_catch (pc := 4) C hxt (E := "java/lang/IllegalArgumentException") (name := "java/lang/IllegalArgumentException") [⟨0, 11, 14, 19⟩] ⟨0, 11, 18, 21⟩ [] rfl (fun z hz => by rw [List.mem_singleton.mp hz]; exact Or.inr ⟨by decide, "java/lang/IndexOutOfBoundsException", by decide +kernel, hN.1⟩) (by decide) (by decide) (by decide +kernel) 250 (by decide +kernel) (fun q9 => ?_)
      refine q_astore (pc := 18) C 4 [(4, va_rf (some q9)), (0, va_rf l0), (1, .int l1), (2, .int l2), (3, va_rf l3)] dL_ofSleeper_18 (by decide) (by first | rfl | simp [q_cat, q_catI, q_catJ, q_catR, q_catN]) ?_
      refine q_iconst (pc := 20) C 2 dL_ofSleeper_20 (by decide) ?_
      exact q_iretX (pc := 21) C hr hlocks h dL_ofSleeper_21 (by omega) (by omega)
  · intro x1 M2 h
    refine q_i2l (pc := 7) C dL_ofSleeper_7 ?_
    refine q_pN (pc := 8) C h .long (host := "LullabygateLaw") (T := TX9) tyX9 tyX9_ok nmX9 rfl (by decide +kernel) rfl rfl rfl (by decide) (by decide +kernel) 528 (by decide +kernel) (fun _ h9 => h9) rfl dL_ofSleeper_8 (fun M4 h => ?_)
    refine q_goto (pc := 11) C 22 dL_ofSleeper_11 (by decide) ?_
    refine q_iconst (pc := 22) C 0 dL_ofSleeper_22 (by decide) ?_
    exact q_iretX (pc := 23) C hr hlocks h dL_ofSleeper_23 (by omega) (by omega)
set_option maxRecDepth 100000 in
set_option maxHeartbeats 4000000 in
theorem kL_ofSleeper (l : Launch) (G : mG) (b0 : Nat) (hL : l.stackTraces = false) {l0 : Option Nat} {l1 : Int32} {l2 : Int32} {l3 : Option Nat} {M : mM} {κ : Int32 → mM → Prop} (h : wL_ofSleeper κ l0 l1 l2 l3 M) : Met l yL_ofSleeper wsL_ofSleeperA ({ frames := 8, cells := 2, slots := 12, locals := 134 } : Room) (va_Pc [va_rf l0, .int l1, .int l2, va_rf l3] (m_PreN G b0 M)) (va_Qi κ (m_B G b0) (fun q => b0 ≤ q)) 2 12 (fun q => b0 ≤ q) := by
  refine m_metH (hh := [(0, 11, 14, 19), (0, 11, 18, 21)]) (cc := cL_ofSleeper) (maxL := 5) (ret := (some .int)) (lv := [(0, va_rf l0), (1, .int l1), (2, .int l2), (3, va_rf l3)]) RL rfl (by decide +kernel) rfl (by first | exact Nat.le_of_ble_eq_true rfl | simp [lg_sl, q_cat, q_catI, q_catJ, q_catR, q_catN]) (by first | rfl | (simp [lv_args, q_cat, q_catI, q_catJ, q_catR, q_catN]; done) | (simp [lv_args, q_cat, q_catI, q_catJ, q_catR, q_catN]; rfl)) ?_
  intro p e s m args below meth c C hN hr hlocks hxt
  exact tL_ofSleeper C hr hlocks hL hN hxt h
/-! L_ofPart -/
def wsL_ofPartA : List Cond := wsL_ofPart ++ m_ex
set_option maxRecDepth 100000 in
set_option maxHeartbeats 4000000 in
theorem tL_ofPart {p : Program} {l : Launch} {e : Env} {s : State} {m : MethodId} {args : Array Value} {below : List Frame} {meth : Method} {c : Code} {G : mG} {b0 : Nat} (C : m_C p s m args c cL_ofPart 5 RL wsL_ofPartA G b0) (hr : meth.sig.returnType = (some .int)) (hlocks : meth.locks = false) (hL : l.stackTraces = false) (hN : m_N s) (hxt : c.exceptionTable.toList = tableOf [(0, 11, 14, 19), (0, 11, 18, 21)]) {κ : Int32 → mM → Prop} {l0 : Option Nat} {l1 : Int32} {l2 : Int32} {l3 : Option Nat} {M : mM} (h : wL_ofPart κ l0 l1 l2 l3 M) : m_W p l e ({ frames := 8, cells := 2, slots := 12, locals := 134 } : Room) s m args below meth c G b0 (vx_MQ below (va_Qi κ (m_B G b0) (fun q => b0 ≤ q)) (fun _ _ _ => False) args s 2 12 (fun q => b0 ≤ q)) 5 M 0 0 0 [(0, va_rf l0), (1, .int l1), (2, .int l2), (3, va_rf l3)] [] := by
  unfold wL_ofPart at h
  refine q_aload_n (pc := 0) C 3 3 dL_ofPart_0 rfl rfl ?_
  refine q_aload_n (pc := 1) C 0 0 dL_ofPart_1 rfl rfl ?_
  refine q_iload_n (pc := 2) C 1 1 dL_ofPart_2 rfl rfl ?_
  refine q_iload_n (pc := 3) C 2 2 dL_ofPart_3 rfl rfl ?_
  obtain ⟨b3, fs9, hb3, hm9, h⟩ := h
  refine q_cXi (pc := 4) (q_rVX C (st := [va_rf l3]) (b := b3) (kX8_ofPart l G b0 (t := 1) hL (fun _ _ _ => Nat.le_refl 1) h) (cwV 2 C.2.2.2.2.1 (m_gapp gL_ofPart_X8_ofPart) rfl rfl rfl (by decide +kernel) ⟨Nat.le_of_ble_eq_true rfl, Nat.le_of_ble_eq_true rfl⟩) hm9 rfl rfl rfl (by first | exact Nat.le_of_ble_eq_true rfl | (simp [q_cat, q_catI, q_catJ, q_catR, q_catN]; done)) (by rw [hb3]; first | done | rfl) dL_ofPart_4 ⟨(by first | omega | (dsimp only; omega)), (by first | omega | (dsimp only; omega))⟩) ?_ ?_
  · intro E9 M9 h9
    rcases h9 with ⟨rfl, h⟩ | ⟨rfl, h⟩
    · refine q_catch (pc := 4) C hxt (E := "java/lang/IndexOutOfBoundsException") (name := "java/lang/IndexOutOfBoundsException") [] ⟨0, 11, 14, 19⟩ [⟨0, 11, 18, 21⟩] rfl (fun z hz => by cases hz) (by decide) (by decide) (by decide +kernel) 326 (by decide +kernel) (fun q9 => ?_)
      refine q_astore (pc := 14) C 4 [(4, va_rf (some q9)), (0, va_rf l0), (1, .int l1), (2, .int l2), (3, va_rf l3)] dL_ofPart_14 (by decide) (by first | rfl | simp [q_cat, q_catI, q_catJ, q_catR, q_catN]) ?_
      refine q_iconst (pc := 16) C 1 dL_ofPart_16 (by decide) ?_
      exact q_iretX (pc := 17) C hr hlocks h dL_ofPart_17 (by omega) (by omega)
    · refine q_catch (pc := 4) C hxt (E := "java/lang/IllegalArgumentException") (name := "java/lang/IllegalArgumentException") [⟨0, 11, 14, 19⟩] ⟨0, 11, 18, 21⟩ [] rfl (fun z hz => by rw [List.mem_singleton.mp hz]; exact Or.inr ⟨by decide, "java/lang/IndexOutOfBoundsException", by decide +kernel, hN.1⟩) (by decide) (by decide) (by decide +kernel) 250 (by decide +kernel) (fun q9 => ?_)
      refine q_astore (pc := 18) C 4 [(4, va_rf (some q9)), (0, va_rf l0), (1, .int l1), (2, .int l2), (3, va_rf l3)] dL_ofPart_18 (by decide) (by first | rfl | simp [q_cat, q_catI, q_catJ, q_catR, q_catN]) ?_
      refine q_iconst (pc := 20) C 2 dL_ofPart_20 (by decide) ?_
      exact q_iretX (pc := 21) C hr hlocks h dL_ofPart_21 (by omega) (by omega)
  · intro x1 M2 h
    refine q_i2l (pc := 7) C dL_ofPart_7 ?_
    refine q_pN (pc := 8) C h .long (host := "LullabygateLaw") (T := TX9) tyX9 tyX9_ok nmX9 rfl (by decide +kernel) rfl rfl rfl (by decide) (by decide +kernel) 528 (by decide +kernel) (fun _ h9 => h9) rfl dL_ofPart_8 (fun M4 h => ?_)
    refine q_goto (pc := 11) C 22 dL_ofPart_11 (by decide) ?_
    refine q_iconst (pc := 22) C 0 dL_ofPart_22 (by decide) ?_
    exact q_iretX (pc := 23) C hr hlocks h dL_ofPart_23 (by omega) (by omega)
set_option maxRecDepth 100000 in
set_option maxHeartbeats 4000000 in
theorem kL_ofPart (l : Launch) (G : mG) (b0 : Nat) (hL : l.stackTraces = false) {l0 : Option Nat} {l1 : Int32} {l2 : Int32} {l3 : Option Nat} {M : mM} {κ : Int32 → mM → Prop} (h : wL_ofPart κ l0 l1 l2 l3 M) : Met l yL_ofPart wsL_ofPartA ({ frames := 8, cells := 2, slots := 12, locals := 134 } : Room) (va_Pc [va_rf l0, .int l1, .int l2, va_rf l3] (m_PreN G b0 M)) (va_Qi κ (m_B G b0) (fun q => b0 ≤ q)) 2 12 (fun q => b0 ≤ q) := by
  refine m_metH (hh := [(0, 11, 14, 19), (0, 11, 18, 21)]) (cc := cL_ofPart) (maxL := 5) (ret := (some .int)) (lv := [(0, va_rf l0), (1, .int l1), (2, .int l2), (3, va_rf l3)]) RL rfl (by decide +kernel) rfl (by first | exact Nat.le_of_ble_eq_true rfl | simp [lg_sl, q_cat, q_catI, q_catJ, q_catR, q_catN]) (by first | rfl | (simp [lv_args, q_cat, q_catI, q_catJ, q_catR, q_catN]; done) | (simp [lv_args, q_cat, q_catI, q_catJ, q_catR, q_catN]; rfl)) ?_
  intro p e s m args below meth c C hN hr hlocks hxt
  exact tL_ofPart C hr hlocks hL hN hxt h
/-! L_isGood -/
def wsL_isGoodA : List Cond := wsL_isGood ++ m_ex
set_option maxRecDepth 100000 in
set_option maxHeartbeats 4000000 in
theorem tL_isGood_15 {p : Program} {l : Launch} {e : Env} {s : State} {m : MethodId} {args : Array Value} {below : List Frame} {meth : Method} {c : Code} {G : mG} {b0 : Nat} (C : m_C p s m args c cL_isGood 5 RL wsL_isGoodA G b0) (hr : meth.sig.returnType = (some .int)) (hlocks : meth.locks = false) (hL : l.stackTraces = false) (hN : m_N s) (hxt : c.exceptionTable.toList = tableOf [(0, 18, 21, 19)]) {κ : Int32 → mM → Prop} {s0 : Int64} {s1 : Option Nat} {M : mM} (h : wL_isGood_15 κ s0 s1 M) : m_W p l e ({ frames := 8, cells := 2, slots := 12, locals := 134 } : Room) s m args below meth c G b0 (vx_MQ below (va_Qi κ (m_B G b0) (fun q => b0 ≤ q)) (fun _ _ _ => False) args s 2 12 (fun q => b0 ≤ q)) 5 M 2 12 15 [] [.long s0, va_rf s1] := by
  unfold wL_isGood_15 at h
  refine q_pN (pc := 15) C h .long (host := "LullabygateLaw") (T := TX9) tyX9 tyX9_ok nmX9 rfl (by decide +kernel) rfl rfl rfl (by decide) (by decide +kernel) 528 (by decide +kernel) (fun _ h9 => h9) rfl dL_isGood_15 (fun M1 h => ?_)
  refine q_goto (pc := 18) C 25 dL_isGood_18 (by decide) ?_
  refine q_iconst (pc := 25) C 0 dL_isGood_25 (by decide) ?_
  exact q_iretX (pc := 26) C hr hlocks h dL_isGood_26 (by omega) (by omega)
set_option maxRecDepth 100000 in
set_option maxHeartbeats 4000000 in
theorem tL_isGood {p : Program} {l : Launch} {e : Env} {s : State} {m : MethodId} {args : Array Value} {below : List Frame} {meth : Method} {c : Code} {G : mG} {b0 : Nat} (C : m_C p s m args c cL_isGood 5 RL wsL_isGoodA G b0) (hr : meth.sig.returnType = (some .int)) (hlocks : meth.locks = false) (hL : l.stackTraces = false) (hN : m_N s) (hxt : c.exceptionTable.toList = tableOf [(0, 18, 21, 19)]) {κ : Int32 → mM → Prop} {l0 : Option Nat} {l1 : Int32} {l2 : Int32} {l3 : Option Nat} {M : mM} (h : wL_isGood κ l0 l1 l2 l3 M) : m_W p l e ({ frames := 8, cells := 2, slots := 12, locals := 134 } : Room) s m args below meth c G b0 (vx_MQ below (va_Qi κ (m_B G b0) (fun q => b0 ≤ q)) (fun _ _ _ => False) args s 2 12 (fun q => b0 ≤ q)) 5 M 0 0 0 [(0, va_rf l0), (1, .int l1), (2, .int l2), (3, va_rf l3)] [] := by
  unfold wL_isGood at h
  refine q_aload_n (pc := 0) C 3 3 dL_isGood_0 rfl rfl ?_
  refine q_aload_n (pc := 1) C 0 0 dL_isGood_1 rfl rfl ?_
  refine q_iload_n (pc := 2) C 1 1 dL_isGood_2 rfl rfl ?_
  refine q_iload_n (pc := 3) C 2 2 dL_isGood_3 rfl rfl ?_
  obtain ⟨b3, fs9, hb3, hm9, h⟩ := h
  refine q_cXi (pc := 4) (q_rVX C (st := [va_rf l3]) (b := b3) (kX8_isGood l G b0 (t := 1) hL (fun _ _ _ => Nat.le_refl 1) h) (cwV 2 C.2.2.2.2.1 (m_gapp gL_isGood_X8_isGood) rfl rfl rfl (by decide +kernel) ⟨Nat.le_of_ble_eq_true rfl, Nat.le_of_ble_eq_true rfl⟩) hm9 rfl rfl rfl (by first | exact Nat.le_of_ble_eq_true rfl | (simp [q_cat, q_catI, q_catJ, q_catR, q_catN]; done)) (by rw [hb3]; first | done | rfl) dL_isGood_4 ⟨(by first | omega | (dsimp only; omega)), (by first | omega | (dsimp only; omega))⟩) ?_ ?_
  · intro E9 M9 h9
    rcases h9 with ⟨rfl, h⟩
    · refine q_catch (pc := 4) C hxt (E := "java/lang/IndexOutOfBoundsException") (name := "java/lang/IndexOutOfBoundsException") [] ⟨0, 18, 21, 19⟩ [] rfl (fun z hz => by cases hz) (by decide) (by decide) (by decide +kernel) 326 (by decide +kernel) (fun q9 => ?_)
      refine q_astore (pc := 21) C 4 [(4, va_rf (some q9)), (0, va_rf l0), (1, .int l1), (2, .int l2), (3, va_rf l3)] dL_isGood_21 (by decide) (by first | rfl | simp [q_cat, q_catI, q_catJ, q_catR, q_catN]) ?_
      refine q_iconst (pc := 23) C 1 dL_isGood_23 (by decide) ?_
      exact q_iretX (pc := 24) C hr hlocks h dL_isGood_24 (by omega) (by omega)
  · intro x1 M2 h
    refine q_if_eq (pc := 7) C 14 dL_isGood_7 (by decide) (fun c4 => ?_) (fun c4 => ?_)
    · have h := h.1 c4
      refine q_lconst (pc := 14) C 0 dL_isGood_14 (by decide) ?_
      refine q_widen (k2 := 2) (n2 := 12) (by omega) (by omega) ?_
      refine q_lv [] rfl ?_
      exact tL_isGood_15 C hr hlocks hL hN hxt h
    · have h := h.2 c4
      refine q_lconst (pc := 10) C 1 dL_isGood_10 (by decide) ?_
      refine q_goto (pc := 11) C 15 dL_isGood_11 (by decide) ?_
      refine q_widen (k2 := 2) (n2 := 12) (by omega) (by omega) ?_
      refine q_lv [] rfl ?_
      exact tL_isGood_15 C hr hlocks hL hN hxt h
set_option maxRecDepth 100000 in
set_option maxHeartbeats 4000000 in
theorem kL_isGood (l : Launch) (G : mG) (b0 : Nat) (hL : l.stackTraces = false) {l0 : Option Nat} {l1 : Int32} {l2 : Int32} {l3 : Option Nat} {M : mM} {κ : Int32 → mM → Prop} (h : wL_isGood κ l0 l1 l2 l3 M) : Met l yL_isGood wsL_isGoodA ({ frames := 8, cells := 2, slots := 12, locals := 134 } : Room) (va_Pc [va_rf l0, .int l1, .int l2, va_rf l3] (m_PreN G b0 M)) (va_Qi κ (m_B G b0) (fun q => b0 ≤ q)) 2 12 (fun q => b0 ≤ q) := by
  refine m_metH (hh := [(0, 18, 21, 19)]) (cc := cL_isGood) (maxL := 5) (ret := (some .int)) (lv := [(0, va_rf l0), (1, .int l1), (2, .int l2), (3, va_rf l3)]) RL rfl (by decide +kernel) rfl (by first | exact Nat.le_of_ble_eq_true rfl | simp [lg_sl, q_cat, q_catI, q_catJ, q_catR, q_catN]) (by first | rfl | (simp [lv_args, q_cat, q_catI, q_catJ, q_catR, q_catN]; done) | (simp [lv_args, q_cat, q_catI, q_catJ, q_catR, q_catN]; rfl)) ?_
  intro p e s m args below meth c C hN hr hlocks hxt
  exact tL_isGood C hr hlocks hL hN hxt h
/-! L_queue -/
def wsL_queueA : List Cond := wsL_queue ++ m_ex
set_option maxRecDepth 100000 in
set_option maxHeartbeats 4000000 in
theorem tL_queue {p : Program} {l : Launch} {e : Env} {s : State} {m : MethodId} {args : Array Value} {below : List Frame} {meth : Method} {c : Code} {G : mG} {b0 : Nat} (C : m_C p s m args c cL_queue 4 RL wsL_queueA G b0) (hr : meth.sig.returnType = (some .int)) (hlocks : meth.locks = false) (hL : l.stackTraces = false) (hN : m_N s) (hxt : c.exceptionTable.toList = tableOf [(0, 9, 12, 19)]) {g : Nat → Nat} (hg : G.2.2 = g) {κ : Int32 → mM → Prop} {l0 : Option Nat} {l1 : Int32} {l2 : Option Nat} {M : mM} (h : wL_queue g κ l0 l1 l2 M) : m_W p l e ({ frames := 8, cells := 81, slots := 606, locals := 179 } : Room) s m args below meth c G b0 (vx_MQ below (va_Qi κ (m_B G b0) (fun q => b0 ≤ q)) (fun _ _ _ => False) args s 81 606 (fun q => b0 ≤ q)) 4 M 0 0 0 [(0, va_rf l0), (1, .int l1), (2, va_rf l2)] [] := by
  unfold wL_queue at h
  refine q_aload_n (pc := 0) C 2 2 dL_queue_0 rfl rfl ?_
  refine q_aload_n (pc := 1) C 0 0 dL_queue_1 rfl rfl ?_
  refine q_iload_n (pc := 2) C 1 1 dL_queue_2 rfl rfl ?_
  obtain ⟨b3, fs9, hb3, hm9, h⟩ := h
  refine q_cXq (pc := 3) (q_rVX C (st := [va_rf l2]) (b := b3) (kX8_queue l G b0 (t := 1) hL hg (fun _ _ _ => Nat.le_refl 1) h) (cwV 1 C.2.2.2.2.1 (m_gapp gL_queue_X8_queue) rfl rfl rfl (by decide +kernel) ⟨Nat.le_of_ble_eq_true rfl, Nat.le_of_ble_eq_true rfl⟩) hm9 rfl rfl rfl (by first | exact Nat.le_of_ble_eq_true rfl | (simp [q_cat, q_catI, q_catJ, q_catR, q_catN]; done)) (by rw [hb3]; first | done | rfl) dL_queue_3 ⟨(by first | omega | (dsimp only; omega)), (by first | omega | (dsimp only; omega))⟩) ?_ ?_
  · intro E9 M9 h9
    rcases h9 with ⟨rfl, h⟩
    · refine q_catch (pc := 3) C hxt (E := "java/lang/IndexOutOfBoundsException") (name := "java/lang/IndexOutOfBoundsException") [] ⟨0, 9, 12, 19⟩ [] rfl (fun z hz => by cases hz) (by decide) (by decide) (by decide +kernel) 326 (by decide +kernel) (fun q9 => ?_)
      refine q_astore_n (pc := 12) C 3 [(3, va_rf (some q9)), (0, va_rf l0), (1, .int l1), (2, va_rf l2)] dL_queue_12 rfl (by decide) (by first | rfl | simp [q_cat, q_catI, q_catJ, q_catR, q_catN]) ?_
      refine q_iconst (pc := 13) C 1 dL_queue_13 (by decide) ?_
      exact q_iretX (pc := 14) C hr hlocks h dL_queue_14 (by omega) (by omega)
  · intro x1 M2 h
    refine q_pN (pc := 6) C h (.object "java/lang/String") (host := "LullabygateLaw") (T := TX9) tyX9 tyX9_ok nmX9 rfl (by decide +kernel) (q_nrO _ _) (q_ftO _ _) rfl (by decide) (by decide +kernel) 529 (by decide +kernel) (fun _ h9 => h9) rfl dL_queue_6 (fun M4 h => ?_)
    refine q_goto (pc := 9) C 15 dL_queue_9 (by decide) ?_
    refine q_iconst (pc := 15) C 0 dL_queue_15 (by decide) ?_
    exact q_iretX (pc := 16) C hr hlocks h dL_queue_16 (by omega) (by omega)
set_option maxRecDepth 100000 in
set_option maxHeartbeats 4000000 in
theorem kL_queue (l : Launch) (G : mG) (b0 : Nat) (hL : l.stackTraces = false) {g : Nat → Nat} (hg : G.2.2 = g) {l0 : Option Nat} {l1 : Int32} {l2 : Option Nat} {M : mM} {κ : Int32 → mM → Prop} (h : wL_queue g κ l0 l1 l2 M) : Met l yL_queue wsL_queueA ({ frames := 8, cells := 81, slots := 606, locals := 179 } : Room) (va_Pc [va_rf l0, .int l1, va_rf l2] (m_PreN G b0 M)) (va_Qi κ (m_B G b0) (fun q => b0 ≤ q)) 81 606 (fun q => b0 ≤ q) := by
  refine m_metH (hh := [(0, 9, 12, 19)]) (cc := cL_queue) (maxL := 4) (ret := (some .int)) (lv := [(0, va_rf l0), (1, .int l1), (2, va_rf l2)]) RL rfl (by decide +kernel) rfl (by first | exact Nat.le_of_ble_eq_true rfl | simp [lg_sl, q_cat, q_catI, q_catJ, q_catR, q_catN]) (by first | rfl | (simp [lv_args, q_cat, q_catI, q_catJ, q_catR, q_catN]; done) | (simp [lv_args, q_cat, q_catI, q_catJ, q_catR, q_catN]; rfl)) ?_
  intro p e s m args below meth c C hN hr hlocks hxt
  exact tL_queue C hr hlocks hL hN hxt hg h
/-! L_night -/
def wsL_nightA : List Cond := wsL_night ++ m_ex
set_option maxRecDepth 100000 in
set_option maxHeartbeats 4000000 in
theorem tL_night {p : Program} {l : Launch} {e : Env} {s : State} {m : MethodId} {args : Array Value} {below : List Frame} {meth : Method} {c : Code} {G : mG} {b0 : Nat} (C : m_C p s m args c cL_night 4 RL wsL_nightA G b0) (hr : meth.sig.returnType = (some .int)) (hlocks : meth.locks = false) (hL : l.stackTraces = false) (hN : m_N s) (hxt : c.exceptionTable.toList = tableOf [(0, 10, 13, 21)]) {κ : Int32 → mM → Prop} {l0 : Option Nat} {l1 : Int32} {l2 : Option Nat} {M : mM} (h : wL_night κ l0 l1 l2 M) : m_W p l e ({ frames := 7, cells := 1, slots := 6, locals := 111 } : Room) s m args below meth c G b0 (vx_MQ below (va_Qi κ (m_B G b0) (fun q => b0 ≤ q)) (fun _ _ _ => False) args s 1 6 (fun q => b0 ≤ q)) 4 M 0 0 0 [(0, va_rf l0), (1, .int l1), (2, va_rf l2)] [] := by
  unfold wL_night at h
  refine q_aload_n (pc := 0) C 2 2 dL_night_0 rfl rfl ?_
  refine q_aload_n (pc := 1) C 0 0 dL_night_1 rfl rfl ?_
  refine q_iload_n (pc := 2) C 1 1 dL_night_2 rfl rfl ?_
  obtain ⟨b3, fs9, hb3, hm9, h⟩ := h
  refine q_cXi (pc := 3) (q_rVX C (st := [va_rf l2]) (b := b3) (kX8_night l G b0 (t := 1) hL (fun _ _ _ => Nat.le_refl 1) h) (cwV 1 C.2.2.2.2.1 (m_gapp gL_night_X8_night) rfl rfl rfl (by decide +kernel) ⟨Nat.le_of_ble_eq_true rfl, Nat.le_of_ble_eq_true rfl⟩) hm9 rfl rfl rfl (by first | exact Nat.le_of_ble_eq_true rfl | (simp [q_cat, q_catI, q_catJ, q_catR, q_catN]; done)) (by rw [hb3]; first | done | rfl) dL_night_3 ⟨(by first | omega | (dsimp only; omega)), (by first | omega | (dsimp only; omega))⟩) ?_ ?_
  · intro E9 M9 h9
    rcases h9 with ⟨rfl, h⟩
    · refine q_catch (pc := 3) C hxt (E := "java/lang/IllegalArgumentException") (name := "java/lang/IllegalArgumentException") [] ⟨0, 10, 13, 21⟩ [] rfl (fun z hz => by cases hz) (by decide) (by decide) (by decide +kernel) 250 (by decide +kernel) (fun q9 => ?_)
      refine q_astore_n (pc := 13) C 3 [(3, va_rf (some q9)), (0, va_rf l0), (1, .int l1), (2, va_rf l2)] dL_night_13 rfl (by decide) (by first | rfl | simp [q_cat, q_catI, q_catJ, q_catR, q_catN]) ?_
      refine q_iconst (pc := 14) C 1 dL_night_14 (by decide) ?_
      exact q_iretX (pc := 15) C hr hlocks h dL_night_15 (by omega) (by omega)
  · intro x1 M2 h
    refine q_i2l (pc := 6) C dL_night_6 ?_
    refine q_pN (pc := 7) C h .long (host := "LullabygateLaw") (T := TX9) tyX9 tyX9_ok nmX9 rfl (by decide +kernel) rfl rfl rfl (by decide) (by decide +kernel) 528 (by decide +kernel) (fun _ h9 => h9) rfl dL_night_7 (fun M4 h => ?_)
    refine q_goto (pc := 10) C 16 dL_night_10 (by decide) ?_
    refine q_iconst (pc := 16) C 0 dL_night_16 (by decide) ?_
    exact q_iretX (pc := 17) C hr hlocks h dL_night_17 (by omega) (by omega)
set_option maxRecDepth 100000 in
set_option maxHeartbeats 4000000 in
theorem kL_night (l : Launch) (G : mG) (b0 : Nat) (hL : l.stackTraces = false) {l0 : Option Nat} {l1 : Int32} {l2 : Option Nat} {M : mM} {κ : Int32 → mM → Prop} (h : wL_night κ l0 l1 l2 M) : Met l yL_night wsL_nightA ({ frames := 7, cells := 1, slots := 6, locals := 111 } : Room) (va_Pc [va_rf l0, .int l1, va_rf l2] (m_PreN G b0 M)) (va_Qi κ (m_B G b0) (fun q => b0 ≤ q)) 1 6 (fun q => b0 ≤ q) := by
  refine m_metH (hh := [(0, 10, 13, 21)]) (cc := cL_night) (maxL := 4) (ret := (some .int)) (lv := [(0, va_rf l0), (1, .int l1), (2, va_rf l2)]) RL rfl (by decide +kernel) rfl (by first | exact Nat.le_of_ble_eq_true rfl | simp [lg_sl, q_cat, q_catI, q_catJ, q_catR, q_catN]) (by first | rfl | (simp [lv_args, q_cat, q_catI, q_catJ, q_catR, q_catN]; done) | (simp [lv_args, q_cat, q_catI, q_catJ, q_catR, q_catN]; rfl)) ?_
  intro p e s m args below meth c C hN hr hlocks hxt
  exact tL_night C hr hlocks hL hN hxt h
/-! L_way -/
def wsL_wayA : List Cond := wsL_way ++ m_ex
set_option maxRecDepth 100000 in
set_option maxHeartbeats 4000000 in
theorem tL_way {p : Program} {l : Launch} {e : Env} {s : State} {m : MethodId} {args : Array Value} {below : List Frame} {meth : Method} {c : Code} {G : mG} {b0 : Nat} (C : m_C p s m args c cL_way 5 RL wsL_wayA G b0) (hr : meth.sig.returnType = (some .int)) (hlocks : meth.locks = false) (hL : l.stackTraces = false) (hN : m_N s) (hxt : c.exceptionTable.toList = tableOf [(0, 11, 14, 19)]) {κ : Int32 → mM → Prop} {l0 : Option Nat} {l1 : Int32} {l2 : Int32} {l3 : Option Nat} {M : mM} (h : wL_way κ l0 l1 l2 l3 M) : m_W p l e ({ frames := 8, cells := 2, slots := 12, locals := 135 } : Room) s m args below meth c G b0 (vx_MQ below (va_Qi κ (m_B G b0) (fun q => b0 ≤ q)) (fun _ _ _ => False) args s 2 12 (fun q => b0 ≤ q)) 5 M 0 0 0 [(0, va_rf l0), (1, .int l1), (2, .int l2), (3, va_rf l3)] [] := by
  unfold wL_way at h
  refine q_aload_n (pc := 0) C 3 3 dL_way_0 rfl rfl ?_
  refine q_aload_n (pc := 1) C 0 0 dL_way_1 rfl rfl ?_
  refine q_iload_n (pc := 2) C 1 1 dL_way_2 rfl rfl ?_
  refine q_iload_n (pc := 3) C 2 2 dL_way_3 rfl rfl ?_
  obtain ⟨b3, fs9, hb3, hm9, h⟩ := h
  refine q_cXi (pc := 4) (q_rVX C (st := [va_rf l3]) (b := b3) (kX8_way l G b0 (t := 1) hL (fun _ _ _ => Nat.le_refl 1) h) (cwV 2 C.2.2.2.2.1 (m_gapp gL_way_X8_way) rfl rfl rfl (by decide +kernel) ⟨Nat.le_of_ble_eq_true rfl, Nat.le_of_ble_eq_true rfl⟩) hm9 rfl rfl rfl (by first | exact Nat.le_of_ble_eq_true rfl | (simp [q_cat, q_catI, q_catJ, q_catR, q_catN]; done)) (by rw [hb3]; first | done | rfl) dL_way_4 ⟨(by first | omega | (dsimp only; omega)), (by first | omega | (dsimp only; omega))⟩) ?_ ?_
  · intro E9 M9 h9
    rcases h9 with ⟨rfl, h⟩
    · refine q_catch (pc := 4) C hxt (E := "java/lang/IndexOutOfBoundsException") (name := "java/lang/IndexOutOfBoundsException") [] ⟨0, 11, 14, 19⟩ [] rfl (fun z hz => by cases hz) (by decide) (by decide) (by decide +kernel) 326 (by decide +kernel) (fun q9 => ?_)
      refine q_astore (pc := 14) C 4 [(4, va_rf (some q9)), (0, va_rf l0), (1, .int l1), (2, .int l2), (3, va_rf l3)] dL_way_14 (by decide) (by first | rfl | simp [q_cat, q_catI, q_catJ, q_catR, q_catN]) ?_
      refine q_iconst (pc := 16) C 1 dL_way_16 (by decide) ?_
      exact q_iretX (pc := 17) C hr hlocks h dL_way_17 (by omega) (by omega)
  · intro x1 M2 h
    refine q_i2l (pc := 7) C dL_way_7 ?_
    refine q_pN (pc := 8) C h .long (host := "LullabygateLaw") (T := TX9) tyX9 tyX9_ok nmX9 rfl (by decide +kernel) rfl rfl rfl (by decide) (by decide +kernel) 528 (by decide +kernel) (fun _ h9 => h9) rfl dL_way_8 (fun M4 h => ?_)
    refine q_goto (pc := 11) C 18 dL_way_11 (by decide) ?_
    refine q_iconst (pc := 18) C 0 dL_way_18 (by decide) ?_
    exact q_iretX (pc := 19) C hr hlocks h dL_way_19 (by omega) (by omega)
set_option maxRecDepth 100000 in
set_option maxHeartbeats 4000000 in
theorem kL_way (l : Launch) (G : mG) (b0 : Nat) (hL : l.stackTraces = false) {l0 : Option Nat} {l1 : Int32} {l2 : Int32} {l3 : Option Nat} {M : mM} {κ : Int32 → mM → Prop} (h : wL_way κ l0 l1 l2 l3 M) : Met l yL_way wsL_wayA ({ frames := 8, cells := 2, slots := 12, locals := 135 } : Room) (va_Pc [va_rf l0, .int l1, .int l2, va_rf l3] (m_PreN G b0 M)) (va_Qi κ (m_B G b0) (fun q => b0 ≤ q)) 2 12 (fun q => b0 ≤ q) := by
  refine m_metH (hh := [(0, 11, 14, 19)]) (cc := cL_way) (maxL := 5) (ret := (some .int)) (lv := [(0, va_rf l0), (1, .int l1), (2, .int l2), (3, va_rf l3)]) RL rfl (by decide +kernel) rfl (by first | exact Nat.le_of_ble_eq_true rfl | simp [lg_sl, q_cat, q_catI, q_catJ, q_catR, q_catN]) (by first | rfl | (simp [lv_args, q_cat, q_catI, q_catJ, q_catR, q_catN]; done) | (simp [lv_args, q_cat, q_catI, q_catJ, q_catR, q_catN]; rfl)) ?_
  intro p e s m args below meth c C hN hr hlocks hxt
  exact tL_way C hr hlocks hL hN hxt h
/-! L_plan -/
def wsL_planA : List Cond := wsL_plan ++ m_ex
set_option maxRecDepth 100000 in
set_option maxHeartbeats 4000000 in
theorem tL_plan {p : Program} {l : Launch} {e : Env} {s : State} {m : MethodId} {args : Array Value} {below : List Frame} {meth : Method} {c : Code} {G : mG} {b0 : Nat} (C : m_C p s m args c cL_plan 5 RL wsL_planA G b0) (hr : meth.sig.returnType = (some .int)) (hlocks : meth.locks = false) (hL : l.stackTraces = false) (hN : m_N s) (hxt : c.exceptionTable.toList = tableOf [(0, 11, 14, 19), (0, 11, 18, 21)]) {κ : Int32 → mM → Prop} {l0 : Option Nat} {l1 : Int32} {l2 : Int32} {l3 : Option Nat} {M : mM} (h : wL_plan κ l0 l1 l2 l3 M) : m_W p l e ({ frames := 8, cells := 2, slots := 12, locals := 139 } : Room) s m args below meth c G b0 (vx_MQ below (va_Qi κ (m_B G b0) (fun q => b0 ≤ q)) (fun _ _ _ => False) args s 2 12 (fun q => b0 ≤ q)) 5 M 0 0 0 [(0, va_rf l0), (1, .int l1), (2, .int l2), (3, va_rf l3)] [] := by
  unfold wL_plan at h
  refine q_aload_n (pc := 0) C 3 3 dL_plan_0 rfl rfl ?_
  refine q_aload_n (pc := 1) C 0 0 dL_plan_1 rfl rfl ?_
  refine q_iload_n (pc := 2) C 1 1 dL_plan_2 rfl rfl ?_
  refine q_iload_n (pc := 3) C 2 2 dL_plan_3 rfl rfl ?_
  obtain ⟨b3, fs9, hb3, hm9, h⟩ := h
  refine q_cXi (pc := 4) (q_rVX C (st := [va_rf l3]) (b := b3) (kX8_plan l G b0 (t := 1) hL (fun _ _ _ => Nat.le_refl 1) h) (cwV 2 C.2.2.2.2.1 (m_gapp gL_plan_X8_plan) rfl rfl rfl (by decide +kernel) ⟨Nat.le_of_ble_eq_true rfl, Nat.le_of_ble_eq_true rfl⟩) hm9 rfl rfl rfl (by first | exact Nat.le_of_ble_eq_true rfl | (simp [q_cat, q_catI, q_catJ, q_catR, q_catN]; done)) (by rw [hb3]; first | done | rfl) dL_plan_4 ⟨(by first | omega | (dsimp only; omega)), (by first | omega | (dsimp only; omega))⟩) ?_ ?_
  · intro E9 M9 h9
    rcases h9 with ⟨rfl, h⟩ | ⟨rfl, h⟩
    · refine q_catch (pc := 4) C hxt (E := "java/lang/IndexOutOfBoundsException") (name := "java/lang/IndexOutOfBoundsException") [] ⟨0, 11, 14, 19⟩ [⟨0, 11, 18, 21⟩] rfl (fun z hz => by cases hz) (by decide) (by decide) (by decide +kernel) 326 (by decide +kernel) (fun q9 => ?_)
      refine q_astore (pc := 14) C 4 [(4, va_rf (some q9)), (0, va_rf l0), (1, .int l1), (2, .int l2), (3, va_rf l3)] dL_plan_14 (by decide) (by first | rfl | simp [q_cat, q_catI, q_catJ, q_catR, q_catN]) ?_
      refine q_iconst (pc := 16) C 1 dL_plan_16 (by decide) ?_
      exact q_iretX (pc := 17) C hr hlocks h dL_plan_17 (by omega) (by omega)
    · refine q_catch (pc := 4) C hxt (E := "java/lang/IllegalArgumentException") (name := "java/lang/IllegalArgumentException") [⟨0, 11, 14, 19⟩] ⟨0, 11, 18, 21⟩ [] rfl (fun z hz => by rw [List.mem_singleton.mp hz]; exact Or.inr ⟨by decide, "java/lang/IndexOutOfBoundsException", by decide +kernel, hN.1⟩) (by decide) (by decide) (by decide +kernel) 250 (by decide +kernel) (fun q9 => ?_)
      refine q_astore (pc := 18) C 4 [(4, va_rf (some q9)), (0, va_rf l0), (1, .int l1), (2, .int l2), (3, va_rf l3)] dL_plan_18 (by decide) (by first | rfl | simp [q_cat, q_catI, q_catJ, q_catR, q_catN]) ?_
      refine q_iconst (pc := 20) C 2 dL_plan_20 (by decide) ?_
      exact q_iretX (pc := 21) C hr hlocks h dL_plan_21 (by omega) (by omega)
  · intro x1 M2 h
    refine q_i2l (pc := 7) C dL_plan_7 ?_
    refine q_pN (pc := 8) C h .long (host := "LullabygateLaw") (T := TX9) tyX9 tyX9_ok nmX9 rfl (by decide +kernel) rfl rfl rfl (by decide) (by decide +kernel) 528 (by decide +kernel) (fun _ h9 => h9) rfl dL_plan_8 (fun M4 h => ?_)
    refine q_goto (pc := 11) C 22 dL_plan_11 (by decide) ?_
    refine q_iconst (pc := 22) C 0 dL_plan_22 (by decide) ?_
    exact q_iretX (pc := 23) C hr hlocks h dL_plan_23 (by omega) (by omega)
set_option maxRecDepth 100000 in
set_option maxHeartbeats 4000000 in
theorem kL_plan (l : Launch) (G : mG) (b0 : Nat) (hL : l.stackTraces = false) {l0 : Option Nat} {l1 : Int32} {l2 : Int32} {l3 : Option Nat} {M : mM} {κ : Int32 → mM → Prop} (h : wL_plan κ l0 l1 l2 l3 M) : Met l yL_plan wsL_planA ({ frames := 8, cells := 2, slots := 12, locals := 139 } : Room) (va_Pc [va_rf l0, .int l1, .int l2, va_rf l3] (m_PreN G b0 M)) (va_Qi κ (m_B G b0) (fun q => b0 ≤ q)) 2 12 (fun q => b0 ≤ q) := by
  refine m_metH (hh := [(0, 11, 14, 19), (0, 11, 18, 21)]) (cc := cL_plan) (maxL := 5) (ret := (some .int)) (lv := [(0, va_rf l0), (1, .int l1), (2, .int l2), (3, va_rf l3)]) RL rfl (by decide +kernel) rfl (by first | exact Nat.le_of_ble_eq_true rfl | simp [lg_sl, q_cat, q_catI, q_catJ, q_catR, q_catN]) (by first | rfl | (simp [lv_args, q_cat, q_catI, q_catJ, q_catR, q_catN]; done) | (simp [lv_args, q_cat, q_catI, q_catJ, q_catR, q_catN]; rfl)) ?_
  intro p e s m args below meth c C hN hr hlocks hxt
  exact tL_plan C hr hlocks hL hN hxt h
/-! L_wouldPay -/
def wsL_wouldPayA : List Cond := wsL_wouldPay ++ m_ex
set_option maxRecDepth 100000 in
set_option maxHeartbeats 4000000 in
theorem tL_wouldPay {p : Program} {l : Launch} {e : Env} {s : State} {m : MethodId} {args : Array Value} {below : List Frame} {meth : Method} {c : Code} {G : mG} {b0 : Nat} (C : m_C p s m args c cL_wouldPay 4 RL wsL_wouldPayA G b0) (hr : meth.sig.returnType = (some .int)) (hlocks : meth.locks = false) (hL : l.stackTraces = false) (hN : m_N s) (hxt : c.exceptionTable.toList = tableOf [(0, 10, 13, 19)]) {κ : Int32 → mM → Prop} {l0 : Option Nat} {l1 : Int32} {l2 : Option Nat} {M : mM} (h : wL_wouldPay κ l0 l1 l2 M) : m_W p l e ({ frames := 8, cells := 1, slots := 6, locals := 135 } : Room) s m args below meth c G b0 (vx_MQ below (va_Qi κ (m_B G b0) (fun q => b0 ≤ q)) (fun _ _ _ => False) args s 1 6 (fun q => b0 ≤ q)) 4 M 0 0 0 [(0, va_rf l0), (1, .int l1), (2, va_rf l2)] [] := by
  unfold wL_wouldPay at h
  refine q_aload_n (pc := 0) C 2 2 dL_wouldPay_0 rfl rfl ?_
  refine q_aload_n (pc := 1) C 0 0 dL_wouldPay_1 rfl rfl ?_
  refine q_iload_n (pc := 2) C 1 1 dL_wouldPay_2 rfl rfl ?_
  obtain ⟨b3, fs9, hb3, hm9, h⟩ := h
  refine q_cXi (pc := 3) (q_rVX C (st := [va_rf l2]) (b := b3) (kX8_wouldPay l G b0 (t := 1) hL (fun _ _ _ => Nat.le_refl 1) h) (cwV 1 C.2.2.2.2.1 (m_gapp gL_wouldPay_X8_wouldPay) rfl rfl rfl (by decide +kernel) ⟨Nat.le_of_ble_eq_true rfl, Nat.le_of_ble_eq_true rfl⟩) hm9 rfl rfl rfl (by first | exact Nat.le_of_ble_eq_true rfl | (simp [q_cat, q_catI, q_catJ, q_catR, q_catN]; done)) (by rw [hb3]; first | done | rfl) dL_wouldPay_3 ⟨(by first | omega | (dsimp only; omega)), (by first | omega | (dsimp only; omega))⟩) ?_ ?_
  · intro E9 M9 h9
    rcases h9 with ⟨rfl, h⟩
    · refine q_catch (pc := 3) C hxt (E := "java/lang/IndexOutOfBoundsException") (name := "java/lang/IndexOutOfBoundsException") [] ⟨0, 10, 13, 19⟩ [] rfl (fun z hz => by cases hz) (by decide) (by decide) (by decide +kernel) 326 (by decide +kernel) (fun q9 => ?_)
      refine q_astore_n (pc := 13) C 3 [(3, va_rf (some q9)), (0, va_rf l0), (1, .int l1), (2, va_rf l2)] dL_wouldPay_13 rfl (by decide) (by first | rfl | simp [q_cat, q_catI, q_catJ, q_catR, q_catN]) ?_
      refine q_iconst (pc := 14) C 1 dL_wouldPay_14 (by decide) ?_
      exact q_iretX (pc := 15) C hr hlocks h dL_wouldPay_15 (by omega) (by omega)
  · intro x1 M2 h
    refine q_i2l (pc := 6) C dL_wouldPay_6 ?_
    refine q_pN (pc := 7) C h .long (host := "LullabygateLaw") (T := TX9) tyX9 tyX9_ok nmX9 rfl (by decide +kernel) rfl rfl rfl (by decide) (by decide +kernel) 528 (by decide +kernel) (fun _ h9 => h9) rfl dL_wouldPay_7 (fun M4 h => ?_)
    refine q_goto (pc := 10) C 16 dL_wouldPay_10 (by decide) ?_
    refine q_iconst (pc := 16) C 0 dL_wouldPay_16 (by decide) ?_
    exact q_iretX (pc := 17) C hr hlocks h dL_wouldPay_17 (by omega) (by omega)
set_option maxRecDepth 100000 in
set_option maxHeartbeats 4000000 in
theorem kL_wouldPay (l : Launch) (G : mG) (b0 : Nat) (hL : l.stackTraces = false) {l0 : Option Nat} {l1 : Int32} {l2 : Option Nat} {M : mM} {κ : Int32 → mM → Prop} (h : wL_wouldPay κ l0 l1 l2 M) : Met l yL_wouldPay wsL_wouldPayA ({ frames := 8, cells := 1, slots := 6, locals := 135 } : Room) (va_Pc [va_rf l0, .int l1, va_rf l2] (m_PreN G b0 M)) (va_Qi κ (m_B G b0) (fun q => b0 ≤ q)) 1 6 (fun q => b0 ≤ q) := by
  refine m_metH (hh := [(0, 10, 13, 19)]) (cc := cL_wouldPay) (maxL := 4) (ret := (some .int)) (lv := [(0, va_rf l0), (1, .int l1), (2, va_rf l2)]) RL rfl (by decide +kernel) rfl (by first | exact Nat.le_of_ble_eq_true rfl | simp [lg_sl, q_cat, q_catI, q_catJ, q_catR, q_catN]) (by first | rfl | (simp [lv_args, q_cat, q_catI, q_catJ, q_catR, q_catN]; done) | (simp [lv_args, q_cat, q_catI, q_catJ, q_catR, q_catN]; rfl)) ?_
  intro p e s m args below meth c C hN hr hlocks hxt
  exact tL_wouldPay C hr hlocks hL hN hxt h
