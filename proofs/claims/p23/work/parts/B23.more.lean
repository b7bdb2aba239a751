/-- words for what instructions compute -/
def m_rem (x y : Int32) : Int32 := x - x / y * y
def m_shl (x y : Int32) : Int32 := x <<< (y &&& 31)
def m_shr (x y : Int32) : Int32 := x >>> (y &&& 31)
def m_lshl (x : Int64) (y : Int32) : Int64 := x <<< (y.toInt64 &&& 63)
def m_lushr (x : Int64) (y : Int32) : Int64 := (x.toUInt64 >>> (y.toInt64.toUInt64 &&& Int64.toUInt64 63)).toInt64
def m_max (x y : Int32) : Int32 := if x < y then y else x
def m_min (x y : Int32) : Int32 := if y < x then y else x
def m_abs (x : Int32) : Int32 := if 0 ≤ x then x else 0 - x
def m_cast (M : mM) (r : Option Nat) (ci : Nat) (κ : Prop) : Prop := (r = none ∨ ∃ a fs, r = some a ∧ M a = some (.inr (ci, fs))) ∧ κ
/-- arrays of 12, of a row of words: what a switch falls through to -/
theorem m_sw {x : Int32} (lo n : Nat) (h : ∀ j : Nat, j < n → x ≠ nI (lo + j)) (hn : lo + n < 2 ^ 31) : x.toInt < (lo : Int) ∨ (lo : Int) + n ≤ x.toInt := by
  by_cases h1 : x.toInt < (lo : Int)
  · exact Or.inl h1
  · by_cases h2 : (lo : Int) + n ≤ x.toInt
    · exact Or.inr h2
    · exfalso
      refine h (x.toInt.toNat - lo) (by omega) (Int32.toInt_inj.mp ?_)
      rw [nI_toInt (by omega)]
      omega
theorem q_catI (x : Int32) : (Value.int x).category = 1 := rfl
theorem q_catJ (x : Int64) : (Value.long x).category = 2 := rfl
theorem q_catR (a : Nat) : (Value.ref a).category = 1 := rfl
theorem q_catN : (Value.null).category = 1 := rfl
section MMORE
variable {p : Program} {l : Launch} {e : Env} {R : Room} {s : State} {m : MethodId} {args : Array Value} {below : List Frame} {meth : Method} {c : Code} {Q : State → Prop}
variable {cc : ByteArray} {nL : Nat} {own : String} {Ts : List Cond} {G : mG} {b0 : Nat} {M : mM} {k n pc : Nat} {lv : List (Nat × Value)} {st : List Value}
theorem q_objInit (C : m_C p s m args c cc nL own Ts G b0) {r : Option Nat} {a idx : Nat} (hr : r = some a) (hlink : Cond.methodLink own idx Lib.objectInit ∈ Ts) (hinst : Cond.instanceMethod Lib.objectInit ∈ Ts) (hcode : Cond.code Lib.objectInit ⟨#[0xb1]⟩ 1 none ∈ Ts) (d : decode cc pc = .ok (.invokespecial idx, 3)) (hf : 1 ≤ R.frames) (hlo : (st.map fun v => v.category).sum + 12 ≤ R.locals) (kk : m_W p l e R s m args below meth c G b0 Q nL M k n (pc + 3) lv st) : m_W p l e R s m args below meth c G b0 Q nL M k n pc lv (va_rf r :: st) := by
  intro H locs ls hW hl
  subst hr
  refine W.objInit C.1 C.2.1 C.2.2.2.1 (C.2.2.2.2.1 _ hlink) (C.2.2.2.2.1 _ hinst) (C.2.2.2.2.1 _ hcode) rfl (hl.1.trans C.2.2.1.symm) rfl d hf (by show 2 * 0 + _ + 12 ≤ _; omega) ?_
  exact kk H locs ls hW hl
theorem q_ldc2 (C : m_C p s m args c cc nL own Ts G b0) {idx : Nat} (v : Int64) (hc : Cond.constantLong own idx v ∈ Ts) (d : decode cc pc = .ok (.ldc2_w idx, 3)) (kk : m_W p l e R s m args below meth c G b0 Q nL M k n (pc + 3) lv (.long v :: st)) : m_W p l e R s m args below meth c G b0 Q nL M k n pc lv st := fun H locs ls hW hl => W.ldc2 C.1 C.2.1 C.2.2.2.1 (C.2.2.2.2.1 _ hc) rfl d (kk H locs ls hW hl)
theorem q_ldc (C : m_C p s m args c cc nL own Ts G b0) {idx : Nat} (v : Int32) (hc : Cond.constant own idx v ∈ Ts) (d : decode cc pc = .ok (.ldc idx, 2)) (kk : m_W p l e R s m args below meth c G b0 Q nL M k n (pc + 2) lv (.int v :: st)) : m_W p l e R s m args below meth c G b0 Q nL M k n pc lv st := fun H locs ls hW hl => W.ldc C.1 C.2.1 C.2.2.2.1 (C.2.2.2.2.1 _ hc) rfl d (kk H locs ls hW hl)
theorem m_stk {st2 : List Value} (hst : st = st2) (kk : m_W p l e R s m args below meth c G b0 Q nL M k n pc lv st2) : m_W p l e R s m args below meth c G b0 Q nL M k n pc lv st := hst ▸ kk
theorem q_lsub (C : m_C p s m args c cc nL own Ts G b0) {x y : Int64} (d : decode cc pc = .ok (.lsub, 1)) (kk : m_W p l e R s m args below meth c G b0 Q nL M k n (pc + 1) lv (.long (x - y) :: st)) : m_W p l e R s m args below meth c G b0 Q nL M k n pc lv (.long y :: .long x :: st) := fun H locs ls hW hl => lv_lsub C.1 C.2.1 d (kk H locs ls hW hl)
end MMORE
