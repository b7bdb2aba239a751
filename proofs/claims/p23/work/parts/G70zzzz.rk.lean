/-! THE START: the read-only rows' cells and classes -/
theorem st_rk {s : State} {args : Array Value} {tm : Term} {ty : FieldType} {n : Int32} (harr : (Cond.arrayOf tm ty).before args s = true) (hlen : (Term.length tm).eval args s none [] s = some (.int n)) : ∃ (a : Nat) (cell : Cell), tm.eval args s none [] s = some (.ref a) ∧ s.heap[a]? = some cell ∧ cell.vm ≠ .unknown ∧ cell.vm.isStatics = false ∧ ArrOfT s cell.cls ty := by
  obtain ⟨t, cell, ht, hat, hv⟩ := Term.length_spec hlen
  obtain ⟨hcell, hkn, -, -⟩ := State.arrayAt?_spec hat
  obtain ⟨hof, -⟩ := Cond.arrayOf_spec harr ht hcell
  refine ⟨t, cell, ht, hcell, hkn, ?_, fun N z => ⟨(fun k h => by cases h), hof.2⟩⟩
  cases hvm : cell.vm with
  | statics k => exact absurd hvm (hof.1 k)
  | _ => rfl
