/-! THE CLAIM OUT OF ONE WALK OF THE LAW'S BODY. Your part is whole_start (and what it stands on); all else here is the same for every law, but numbers. -/
def R_law : String := "LullabygateLaw"
def lw_P (b : Addr) (xs : List Int32) (args : Array Value) (s : State) : Prop := args = #[.ref b] ∧ s.IntsAt b xs ∧ xs.length ≤ 2560 ∧ (Jvm.Cond.and given_1 narrow_1).before args s = true
def lw_Q (_ : Array Value) (s : State) (o : Outcome) (t : State) : Prop := o = .returned (some (.int 1)) ∧ Framed s o t [] 601024 7293034
def lw_Z (below : List Frame) (a : Array Value) (s : State) : State → Prop := fun t => ∃ o, t.status = .running ∧ Ended t below o ∧ lw_Q a s o t
/-- the law's own end, with 1 on the stack, nothing written that was there before, its room as the claim has it -/
theorem lw_ret {p : Program} {l : Launch} {e : Env} {s : State} {m : MethodId} {below : List Frame} {meth : Method} {c : Code} {b : Nat} (hx : p.tables.exec = Jvm.exec) (hb : c.code = code) (hr : meth.sig.returnType = ret) (hlocks : meth.locks = false) {pc : Nat} {H : Heap} {ls : Array Slot} (hdg : decode code pc = .ok (.ireturn, 1)) : W p l e room_1 s m #[Value.ref b] below meth c H [] 601024 7293034 (lw_Z below #[Value.ref b] s) (F0 m pc ls [.int 1]) := by
  intro T hT X
  obtain ⟨fs, hret, hrun, hended, hW, hframe⟩ := X.leave (v := some (.int 1)) (hlocks := hlocks) (fun h => by rw [hr] at h; cases h)
  have hmeth' : T.vm.method? m = some meth := X.method'
  refine ⟨T.setFrames fs, ?_, .returned (some (.int 1)), hrun, hended, rfl, ⟨_, rfl⟩, hW, hframe⟩
  jvm_step X.here [X.here.top, hx, hb, hdg, hmeth', hr, ret, narrow_b1]
  (try refine ⟨rfl, ?_⟩); (try refine ⟨rfl, ?_⟩)
  first | (intro acts; rw [hret _ acts rfl rfl rfl]) | rw [hret _ _ rfl rfl rfl]
  exact Steps.refl _
/-- what holds at the law's entry: the machine, the code, the tables' words (any of lw_tbl by 'hts w (by decide +kernel)'), the script of L ints xs at the cell b, what the Statement gives of the start (any of its parts by flat_of_before) -/
def lw_At (p : Program) (s : State) (m : MethodId) (meth : Method) (c : Code) (b L : Nat) (xs : Nat → Int32) : Prop :=
  p.tables.exec = Jvm.exec ∧ c.code = code ∧ meth.sig.returnType = ret ∧ c.maxLocals = 7 ∧ s.vm.findClass R_law = some m.cls ∧ (∀ w ∈ lw_tbl, w.before #[Value.ref b] s = true) ∧ va_X b L xs s s.heap ∧ b < s.heap.size ∧ meth.locks = false ∧ (Jvm.Cond.and given_1 narrow_1).before #[Value.ref b] s = true
def wsL_lawA : List Cond := wsL_law ++ m_ex
/-- the script: the law's argument, below all that is new -/
def m_scr (s : State) (args : Array Value) (b0 sb L : Nat) (xs : Nat → Int32) : Prop := args = #[.ref sb] ∧ va_X sb L xs s s.heap ∧ sb < s.heap.size ∧ s.heap.size ≤ b0
section MLAW
variable {p : Program} {l : Launch} {e : Env} {R : Room} {s : State} {m : MethodId} {args : Array Value} {below : List Frame} {meth : Method} {c : Code} {Q : State → Prop}
variable {cc : ByteArray} {nL : Nat} {own : String} {Ts : List Cond} {G : mG} {b0 : Nat} {M : mM} {k n pc : Nat} {lv : List (Nat × Value)} {st st0 : List Value} {mc ms : Nat}

theorem q_sld (C : m_C p s m args c cc nL own Ts G b0) {sb L : Nat} {xs : Nat → Int32} (hS : m_scr s args b0 sb L xs) {r : Option Nat} {i : Int32} {κ : Int32 → Prop} (h : m_sld r sb L xs i κ) (d : decode cc pc = .ok (.iaload, 1)) (kk : ∀ x, κ x → m_W p l e R s m args below meth c G b0 Q nL M k n (pc + 1) lv (.int x :: st)) : m_W p l e R s m args below meth c G b0 Q nL M k n pc lv (.int i :: va_rf r :: st) := by
  obtain ⟨rfl, hi, hh⟩ := h
  intro H locs ls hW hl
  exact va_sld C.1 C.2.1 hS.2.1 hS.2.2.1 (Nat.not_le.mpr (Nat.lt_of_lt_of_le hS.2.2.1 hS.2.2.2)) hW.2 hi d (kk _ hh H locs ls hW hl)
theorem q_slen (C : m_C p s m args c cc nL own Ts G b0) {sb L : Nat} {xs : Nat → Int32} (hS : m_scr s args b0 sb L xs) {r : Option Nat} {κ : Int32 → Prop} (h : m_slen r sb L κ) (d : decode cc pc = .ok (.arraylength, 1)) (kk : ∀ x, κ x → m_W p l e R s m args below meth c G b0 Q nL M k n (pc + 1) lv (.int x :: st)) : m_W p l e R s m args below meth c G b0 Q nL M k n pc lv (va_rf r :: st) := by
  obtain ⟨rfl, hh⟩ := h
  intro H locs ls hW hl
  exact va_slen C.1 C.2.1 hS.2.1 hS.2.2.1 (Nat.not_le.mpr (Nat.lt_of_lt_of_le hS.2.2.1 hS.2.2.2)) hW.2 d (kk _ hh H locs ls hW hl)
theorem q_gJN (C : m_C p s m args c cc nL own Ts G b0) {r : Option Nat} {ci kf : Nat} {κ : Int64 → Prop} (h : m_gJ M r ci kf κ) {ref Cn host : String} {T : u_T} {N index : Nat} (hc : m_cl[ci]? = some (Cn, T, N)) (hk : kf < N) (hin : ∀ w ∈ u_ws Cn T N, w ∈ Ts) (tb : Nat) (hlink : tables_1[tb]? = some (Cond.fieldLinkNest own index ref (T kf).2.1 (T kf).2.2.1 host)) (hsame : ∀ x, s.fieldFound? (T kf).1 (T kf).2.1 (T kf).2.2.1 = some x → s.fieldFound? ref (T kf).2.1 (T kf).2.2.1 = some x) (d : decode cc pc = .ok (.getfield index, 3))
    (kk : ∀ x, κ x → m_W p l e R s m args below meth c G b0 Q nL M k n (pc + 3) lv (.long x :: st)) : m_W p l e R s m args below meth c G b0 Q nL M k n pc lv (va_rf r :: st) := by
  obtain ⟨a, fs, x, rfl, hM, hv, hh⟩ := h
  exact q_getN C hM kf hv hc hk hin tb hlink hsame d (kk x hh)
end MLAW
/-- the law's end -/
theorem q_lawret {p : Program} {l : Launch} {e : Env} {s : State} {m : MethodId} {args : Array Value} {below : List Frame} {meth : Method} {c : Code} {own : String} {Ts : List Cond} {G : mG} {b0 : Nat} {M : mM} {k n pc : Nat} {lv : List (Nat × Value)} (C : m_C p s m args c cL_law 7 own Ts G b0) {sb L : Nat} {xs : Nat → Int32} (hS : m_scr s args b0 sb L xs) (hr : meth.sig.returnType = (some .boolean)) (hlocks : meth.locks = false) {v : Int32} (h : v = 1) (d : decode cL_law pc = .ok (.ireturn, 1)) (hk : k ≤ 601024) (hn : n ≤ 7293034) : m_W p l e ({ frames := 2048, cells := 601024, slots := 7293034, locals := 84000 } : Room) s m args below meth c G b0 (lw_Z below args s) 7 M k n pc lv [.int v] := by
  obtain ⟨rfl, -, -, hb⟩ := hS
  subst h
  intro H locs ls hW hl
  exact va_forget (fun q hq => Nat.le_trans hb (hW.2.2.2 q hq)) (W.widen hk hn (lw_ret C.1 C.2.1 hr hlocks d))
