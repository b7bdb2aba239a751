section MFACE
variable {p : Program} {l : Launch} {e : Env} {R : Room} {s : State} {m : MethodId} {args : Array Value} {below : List Frame} {meth : Method} {c : Code} {Q : State → Prop}
variable {cc : ByteArray} {nL : Nat} {own : String} {Ts : List Cond} {G : mG} {b0 : Nat} {M : mM} {k n pc : Nat} {lv : List (Nat × Value)} {st st0 : List Value} {mc ms : Nat}
theorem q_cFi (C : m_C p s m args c cc nL own Ts G b0) {x y : MethodName} {bytes : ByteArray} {maxL na index count : Nat} {ret : Option FieldType} {ws : List Cond} {rm : Room} {As : List Value} {κ : Int32 → mM → Prop} {b ci : Nat} {fs : List Value} {Cn : String} {r : vw_C} (hM : Met l y ws rm (va_Pc (.ref b :: As) (m_Pre G b0 M)) (va_Qi κ (m_B G b0) (fun q => b0 ≤ q)) mc ms (fun q => b0 ≤ q)) (cw : va_CI R s args own Cn index x y bytes maxL ret ws rm mc ms na) (hm : M b = some (.inr (ci, fs))) (hci : m_cl[ci]? = some r) (hr : r.1 = Cn) (hn : As.length = na) (hcat : (st.map fun v => v.category).sum ≤ 8) (hst : st0 = As.reverse ++ .ref b :: st) (d : decode cc pc = .ok (.invokeinterface index count, 5)) (hf : k + mc ≤ R.cells ∧ n + ms ≤ R.slots) (kk : ∀ x9 M', κ x9 M' → m_W p l e R s m args below meth c G b0 Q nL M' (k + mc) (n + ms) (pc + 5) lv (.int x9 :: st)) : m_W p l e R s m args below meth c G b0 Q nL M k n pc lv st0 := by
  intro H locs ls hW hl
  obtain ⟨ws0, q0, hP, he⟩ := m_rd hW.1 hm
  subst hr
  exact va_callFi (va_runF (As := As) (rest := st) (C.2.2.2.2.2.1.1 ci r hci).2 ⟨C.1, C.2.1, C.2.2.1, C.2.2.2.1, C.2.2.2.2.1⟩ hM cw ⟨m_Pre.blind, va_recv C.2.2.2.2.2.1 hP hci he, m_pre_call C hW⟩ rfl hn hl.1 hst (lv_room hcat) d hf) hW.2 (fun q _ h => h) (fun q h => h) (fun r9 u t H1 locs1 ht hvm hp hB hz hk hS => kk r9 u hp H1 locs1 ls ⟨by rw [← ht]; exact hB, hS⟩ hl)
theorem q_cFq (C : m_C p s m args c cc nL own Ts G b0) {x y : MethodName} {bytes : ByteArray} {maxL na index count : Nat} {ret : Option FieldType} {ws : List Cond} {rm : Room} {As : List Value} {κ : Option Nat → mM → Prop} {b ci : Nat} {fs : List Value} {Cn : String} {r : vw_C} (hM : Met l y ws rm (va_Pc (.ref b :: As) (m_Pre G b0 M)) (va_Qq κ (m_B G b0) (fun q => b0 ≤ q)) mc ms (fun q => b0 ≤ q)) (cw : va_CI R s args own Cn index x y bytes maxL ret ws rm mc ms na) (hm : M b = some (.inr (ci, fs))) (hci : m_cl[ci]? = some r) (hr : r.1 = Cn) (hn : As.length = na) (hcat : (st.map fun v => v.category).sum ≤ 8) (hst : st0 = As.reverse ++ .ref b :: st) (d : decode cc pc = .ok (.invokeinterface index count, 5)) (hf : k + mc ≤ R.cells ∧ n + ms ≤ R.slots) (kk : ∀ x9 M', κ x9 M' → m_W p l e R s m args below meth c G b0 Q nL M' (k + mc) (n + ms) (pc + 5) lv (va_rf x9 :: st)) : m_W p l e R s m args below meth c G b0 Q nL M k n pc lv st0 := by
  intro H locs ls hW hl
  obtain ⟨ws0, q0, hP, he⟩ := m_rd hW.1 hm
  subst hr
  exact va_callFq (va_runF (As := As) (rest := st) (C.2.2.2.2.2.1.1 ci r hci).2 ⟨C.1, C.2.1, C.2.2.1, C.2.2.2.1, C.2.2.2.2.1⟩ hM cw ⟨m_Pre.blind, va_recv C.2.2.2.2.2.1 hP hci he, m_pre_call C hW⟩ rfl hn hl.1 hst (lv_room hcat) d hf) hW.2 (fun q _ h => h) (fun q h => h) (fun r9 u t H1 locs1 ht hvm hp hB hz hk hS => kk r9 u hp H1 locs1 ls ⟨by rw [← ht]; exact hB, hS⟩ hl)
theorem q_ldcwS (C : m_C p s m args c cc nL own Ts G b0) {g : Nat → Nat} (hg : G.2.2 = g) {text : String} {index a : Nat} (hq : (own, index, text, a) ∈ m_strs g) (d : decode cc pc = .ok (.ldc_w index, 3)) (kk : m_W p l e R s m args below meth c G b0 Q nL M k n (pc + 3) lv (va_rf (some a) :: st)) : m_W p l e R s m args below meth c G b0 Q nL M k n pc lv st := by
  intro H locs ls hW hl T hT X
  subst hg
  have hs := C.2.2.2.2.2.2.1.2.2.2.2.2.2.2.2.2 _ hq
  obtain ⟨t, a1, b1⟩ := kk H locs ls hW hl T hT X
  exact ⟨t, X.ldcStringW C.1 C.2.2.2.1 hs.1 hs.2 (g := F0 m pc ls st) rfl (by rw [C.2.1]; exact d) t a1, b1⟩
end MFACE
