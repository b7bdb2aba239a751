/-! methods with handlers -/
def m_N (U : State) : Prop := va_Nc "java/lang/IllegalArgumentException" "java/lang/IndexOutOfBoundsException" U ∧ va_Nc "java/lang/IllegalStateException" "java/lang/IndexOutOfBoundsException" U ∧ va_Nc "java/lang/IllegalStateException" "java/lang/IllegalArgumentException" U
theorem m_N.moved {u U : State} (hvm : u.vm.Alike U.vm) (h : m_N u) : m_N U := ⟨va_Nc.moved hvm h.1, va_Nc.moved hvm h.2.1, va_Nc.moved hvm h.2.2⟩
def m_PreN (G : mG) (b0 : Nat) (M : mM) (U : State) : Prop := m_Pre G b0 M U ∧ m_N U
theorem m_PreN.blind {G : mG} {b0 : Nat} {M : mM} {av : List Value} : FrameBlind (va_Pc av (m_PreN G b0 M)) := by
  intro a U g mk q
  obtain ⟨q0, q1, q2⟩ := q
  exact ⟨q0, (m_Pre.blind (av := av) a U g mk ⟨q0, q1⟩).2, m_N.moved (U := U.calling g mk a) (Vm.Alike.refl U.vm) q2⟩
def m_ex : List Cond := [.classLink RL 21 "java/lang/IllegalArgumentException", .classLink RL 26 "java/lang/IllegalStateException"]
theorem m_gapp {A B D : List Cond} (h : GoodIn A B) : GoodIn (A ++ D) B := fun w hw => ⟨List.mem_append_left _ (h w hw).1, (h w hw).2⟩
theorem m_gex {A : List Cond} : GoodIn (A ++ m_ex) m_ex := fun w hw => ⟨List.mem_append_right _ hw, (goodIn_of (big := m_ex) m_ex (by decide +kernel) w hw).2⟩
theorem m_gws {A w : List Cond} {o : String} {i : Nat} {y : MethodName} (h : GoodIn A (va_wsS o i y w)) : GoodIn (A ++ m_ex) (va_wsS o i y (w ++ m_ex)) := by
  have e : va_wsS o i y (w ++ m_ex) = va_wsS o i y w ++ m_ex := by unfold va_wsS; rw [List.append_assoc]
  rw [e]
  exact goodIn_app (m_gapp h) m_gex
theorem m_met_of {l : Launch} {y : MethodName} {ws : List Cond} {rm : Room} {Pc : Array Value → State → Prop} {Qc : Array Value → State → Outcome → State → Prop} {mc ms : Nat} {free : Addr → Prop} (h : vx_Met l y ws rm Pc Qc (fun _ _ _ => False) mc ms free) : Met l y ws rm Pc Qc mc ms free :=
  MetFree.mono h (fun _ _ h => h) (fun _ _ _ _ _ h => h) (fun a s o t _ h => by
    rcases h with h | ⟨q, -, E, ce, L, hf, -⟩
    · exact h
    · exact hf.elim)
theorem m_metH {l : Launch} {y : MethodName} {ws ws' : List Cond} {rm : Room} {mc ms : Nat} {G : mG} {b0 : Nat} {av : List Value} {M : mM} {Qc : Array Value → State → Outcome → State → Prop} {cc : ByteArray} {maxL : Nat} {ret : Option FieldType} {lv : List (Nat × Value)} {hh : List (Nat × Nat × Nat × Nat)} (own : String) (ho : own = y.cls) (hy : plainName y.cls = true) (hw : ws = Cond.codeWith y cc maxL ret hh :: ws') (hlen : (lg_sl av).length ≤ maxL) (hlv : lv_args 0 av = lv)
    (body : ∀ p e s m args below meth c, m_C p s m args c cc maxL own ws G b0 → m_N s → meth.sig.returnType = ret → meth.locks = false → c.exceptionTable.toList = tableOf hh → m_W p l e rm s m args below meth c G b0 (vx_MQ below Qc (fun _ _ _ => False) args s mc ms (fun q => b0 ≤ q)) maxL M 0 0 0 lv []) : Met l y ws rm (va_Pc av (m_PreN G b0 M)) Qc mc ms (fun q => b0 ≤ q) := by
  subst ho
  refine m_met_of (vx_ofWH (cc := cc) (maxL := maxL) (ret := ret) hy hw ?_)
  intro p e s m args below meth c s₁ B hml hv
  obtain ⟨rfl, ⟨hH, hb, hK, hZ⟩, hN⟩ := hv
  have hl := lv_entry av (n := maxL) hlen
  rw [hlv] at hl
  rw [lg_entry_eq]
  have hxt := vx_table (x := y) B (atoms_spec (ws := ws) B.pre _ (by rw [hw]; exact List.mem_cons_self))
  exact body p e s m av.toArray below meth c ⟨B.exec, B.bytes, hml, findClass_of_methodNamed B.named, atoms_spec (ws := ws) B.pre, hK, hZ, hb⟩ hN B.returns B.notSynchronized hxt s.heap [] _ ⟨hH, va_S.rf⟩ hl
section MWRAP
variable {p : Program} {l : Launch} {e : Env} {R : Room} {s : State} {m : MethodId} {args : Array Value} {below : List Frame} {meth : Method} {c : Code} {Q : State → Prop}
variable {cc : ByteArray} {nL : Nat} {own : String} {Ts : List Cond} {G : mG} {b0 : Nat} {M : mM} {k n pc : Nat} {lv : List (Nat × Value)} {st st0 : List Value} {mc ms : Nat}

/-- it is caught here -/
theorem q_catch (C : m_C p s m args c cc nL own Ts G b0) {E name : String} {hh : List (Nat × Nat × Nat × Nat)} (hxt : c.exceptionTable.toList = tableOf hh) (pre : List ExceptionTableEntry) (x : ExceptionTableEntry) (suf : List ExceptionTableEntry) (hsplit : tableOf hh = pre ++ x :: suf)
    (hpass : ∀ z ∈ pre, covers z pc = false ∨ (z.catchType ≠ 0 ∧ ∃ nm : String, Cond.classLink own z.catchType nm ∈ Ts ∧ va_Nc E nm s)) (hx : covers x pc = true) (h0 : x.catchType ≠ 0) (hlink : Cond.classLink own x.catchType name ∈ Ts) (tb : Nat) (hcast : tables_1[tb]? = some (Cond.castable E name))
    (kk : ∀ q : Nat, m_W p l e R s m args below meth c G b0 Q nL M k n x.handlerPc lv [va_rf (some q)]) : m_WX p l e R s m args below meth c G b0 Q nL E M k n pc lv st := by
  intro H locs ls q ce hW hl h1 h2 h3
  refine vx_catch C.2.2.2.1 pre x suf (hxt.trans hsplit) (fun z hz => ?_) hx h0 (C.2.2.2.2.1 _ hlink) (va_Nw.use rfl (C.2.2.2.2.2.2.1.1 _ (List.mem_of_getElem? hcast) rfl)) h1 h2 h3 (kk q H locs ls hW hl)
  rcases hpass z hz with h | ⟨ha, nm, hb, hc⟩
  · exact Or.inl h
  · exact Or.inr ⟨ha, nm, C.2.2.2.2.1 _ hb, hc⟩
theorem q_rSW (C : m_C p s m args c cc nL own Ts G b0) (hN : m_N s) {y : MethodName} {bytes : ByteArray} {maxL na index : Nat} {hh : List (Nat × Nat × Nat × Nat)} {ws : List Cond} {rm : Room} {As : List Value} {Qc : Array Value → State → Outcome → State → Prop} {ret : Option FieldType} (hM : Met l y ws rm (va_Pc As (m_PreN G b0 M)) Qc mc ms (fun q => b0 ≤ q)) (cw : vx_CSW R s args own index y bytes maxL ret hh ws rm mc ms na) (hn : As.length = na) (hcat : (st.map fun v => v.category).sum ≤ 8) (hst : st0 = As.reverse ++ st) (d : decode cc pc = .ok (.invokestatic index, 3)) (hf : k + mc ≤ R.cells ∧ n + ms ≤ R.slots) : ∀ (H : Heap) (locs : List Loc) (ls : Array Slot), m_Wd G b0 s M H locs → lv_has ls nL lv → va_Run p l e R s m args below meth c H locs k n mc ms (F0 m pc ls st0) st (Qc As.toArray) (fun q => b0 ≤ q) := by
  intro H locs ls hW hl
  refine vx_runSW (As := As) (rest := st) ⟨C.1, C.2.1, C.2.2.1, C.2.2.2.1, C.2.2.2.2.1⟩ hM cw ⟨m_PreN.blind, fun U hU hw => ?_⟩ rfl hn hl.1 hst (lv_room hcat) d hf
  obtain ⟨q0, q1⟩ := m_pre_call (av := As) C hW U hU hw
  exact ⟨q0, q1, m_N.moved hw.alike hN⟩
end MWRAP
