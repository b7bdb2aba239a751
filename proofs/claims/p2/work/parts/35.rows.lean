section MINH
variable {p : Program} {l : Launch} {e : Env} {R : Room} {s : State} {m : MethodId} {args : Array Value} {below : List Frame} {meth : Method} {c : Code} {Q : State → Prop}
variable {cc : ByteArray} {nL : Nat} {own : String} {Ts : List Cond} {G : mG} {b0 : Nat} {M : mM} {k n pc : Nat} {lv : List (Nat × Value)} {st : List Value}

/-- a call of a method that the receiver's class inherits, or overrides -/
theorem q_rU (C : m_C p s m args c cc nL own Ts G b0) {st0 : List Value} {mc ms : Nat} {x y : MethodName} {owner : String} {bytes : ByteArray} {maxL na index : Nat} {ws : List Cond} {rm : Room} {As : List Value} {Qc : Array Value → State → Outcome → State → Prop} {ret : Option FieldType} {b ci : Nat} {fs : List Value} {Cn : String} {r : vw_C} (hM : Met l y ws rm (va_Pc (.ref b :: As) (m_Pre G b0 M)) Qc mc ms (fun q => b0 ≤ q)) (cw : va_CU R s args own Cn owner index x y bytes maxL ret ws rm mc ms na) (hm : M b = some (.inr (ci, fs))) (hci : m_cl[ci]? = some r) (hr : r.1 = Cn) (hn : As.length = na) (hcat : (st.map fun v => v.category).sum ≤ 8) (hst : st0 = As.reverse ++ .ref b :: st) (d : decode cc pc = .ok (.invokevirtual index, 3)) (hf : k + mc ≤ R.cells ∧ n + ms ≤ R.slots) : ∀ (H : Heap) (locs : List Loc) (ls : Array Slot), m_Wd G b0 s M H locs → lv_has ls nL lv → va_Run p l e R s m args below meth c H locs k n mc ms (F0 m pc ls st0) st (Qc (Value.ref b :: As).toArray) (fun q => b0 ≤ q) := by
  intro H locs ls hW hl
  obtain ⟨ws0, q0, hP, he⟩ := m_rd hW.1 hm
  subst hr
  exact va_runU (As := As) (rest := st) ⟨C.1, C.2.1, C.2.2.1, C.2.2.2.1, C.2.2.2.2.1⟩ hM cw ⟨m_Pre.blind, va_recv C.2.2.2.2.2.1 hP hci he, m_pre_call C hW⟩ rfl hn hl.1 hst (lv_room hcat) d hf
/-- the superclass's own method, on this -/
theorem q_rSU (C : m_C p s m args c cc nL own Ts G b0) {st0 : List Value} {mc ms : Nat} {y : MethodName} {bytes : ByteArray} {maxL na index : Nat} {ws : List Cond} {rm : Room} {As : List Value} {Qc : Array Value → State → Outcome → State → Prop} {ret : Option FieldType} {b ci : Nat} {fs : List Value} {Cn : String} {r : vw_C} (hM : Met l y ws rm (va_Pc (.ref b :: As) (m_Pre G b0 M)) Qc mc ms (fun q => b0 ≤ q)) (cw : va_CS R s args own index y bytes maxL ret ws rm mc ms na) (hm : M b = some (.inr (ci, fs))) (hci : m_cl[ci]? = some r) (hr : r.1 = Cn) (hn : As.length = na) (hcat : (st.map fun v => v.category).sum ≤ 8) (hst : st0 = As.reverse ++ .ref b :: st) (d : decode cc pc = .ok (.invokespecial index, 3)) (hf : k + mc ≤ R.cells ∧ n + ms ≤ R.slots) : ∀ (H : Heap) (locs : List Loc) (ls : Array Slot), m_Wd G b0 s M H locs → lv_has ls nL lv → va_Run p l e R s m args below meth c H locs k n mc ms (F0 m pc ls st0) st (Qc (Value.ref b :: As).toArray) (fun q => b0 ≤ q) := by
  intro H locs ls hW hl
  obtain ⟨ws0, q0, hP, he⟩ := m_rd hW.1 hm
  subst hr
  exact va_runSU (C := r.1) (As := As) (rest := st) (C.2.2.2.2.2.1.1 ci r hci).2 ⟨C.1, C.2.1, C.2.2.1, C.2.2.2.1, C.2.2.2.2.1⟩ hM cw ⟨m_Pre.blind, va_recv C.2.2.2.2.2.1 hP hci he, m_pre_call C hW⟩ rfl hn hl.1 hst (lv_room hcat) d hf
end MINH
