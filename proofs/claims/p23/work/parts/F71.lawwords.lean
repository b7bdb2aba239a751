/-! the law's words -/
theorem m_selP {C : String} {y x0 y0 : MethodName} {s : State} {args : Array Value} (hy : y.cls ≠ "java/lang/invoke/MethodHandle" ∧ y.cls ≠ "java/lang/invoke/VarHandle") (h0 : (Cond.selects C x0 y0).before args s = true) (hcl : y0.cls = y.cls) (hpriv : (Cond.privateMethod y).before args s = true) (hinst : (Cond.instanceMethod y).before args s = true) : (Cond.selects C y y).before args s = true := by
  obtain ⟨c, r, m, hc, -, hm, -, mk, hmk, hni⟩ := Cond.selects_spec (first := s) h0
  obtain ⟨mj, methM, hnamed, hmethM, -, -⟩ := Cond.instanceMethod_spec hinst
  have hfound : s.methodFound? y.cls y.name y.desc = some mj := State.methodFound?_of_named hnamed hy
  have hcls : mj.cls = m.cls := Option.some.inj ((findClass_of_methodNamed hnamed).symm.trans ((congrArg s.vm.findClass hcl.symm).trans (findClass_of_methodNamed hm)))
  have hsel : selectMethod {} s.vm c mj = .method mj := selectMethod_private hmethM (Cond.privateMethod_at hpriv mj methM hnamed hmethM)
  simp only [Cond.before, Cond.holds, Cond.value, hc, hfound, hnamed, hsel, hcls, hmk]
  simp [hni]
theorem m_tin {w : Cond} (i : Nat) (h : tables_1[i]? = some w) : w ∈ lw_tbl := List.mem_append_right _ (List.mem_of_getElem? h)
theorem m_lw_ok {s : State} {args : Array Value} (h : ∀ w ∈ lw_tbl, w.before args s = true) : ∀ w ∈ m_lw, w.before args s = true := by
  intro w hw
  rcases List.mem_append.mp hw with hw | hw
  · obtain ⟨y, hy, rfl⟩ := List.mem_map.mp hw
    have h0 := h _ (m_tin (w := Cond.selects RJ4 yJ5_isLatin1_aae02 yJ5_isLatin1_aae02) 951 (by decide +kernel))
    rcases List.mem_cons.mp hy with rfl | hy
    · exact m_selP (by decide +kernel) h0 rfl (h _ (m_tin 929 (by decide +kernel))) (h _ (m_tin 930 (by decide +kernel)))
    rcases List.mem_cons.mp hy with rfl | hy
    · exact m_selP (by decide +kernel) h0 rfl (h _ (m_tin 933 (by decide +kernel))) (h _ (m_tin 934 (by decide +kernel)))
    rcases List.mem_cons.mp hy with rfl | hy
    · exact m_selP (by decide +kernel) h0 rfl (h _ (m_tin 998 (by decide +kernel))) (h _ (m_tin 999 (by decide +kernel)))
    rcases List.mem_cons.mp hy with rfl | hy
    · exact m_selP (by decide +kernel) h0 rfl (h _ (m_tin 925 (by decide +kernel))) (h _ (m_tin 926 (by decide +kernel)))
    rcases List.mem_cons.mp hy with rfl | hy
    · exact m_selP (by decide +kernel) h0 rfl (h _ (m_tin 989 (by decide +kernel))) (h _ (m_tin 990 (by decide +kernel)))
    rcases List.mem_cons.mp hy with rfl | hy
    · exact m_selP (by decide +kernel) h0 rfl (h _ (m_tin 993 (by decide +kernel))) (h _ (m_tin 994 (by decide +kernel)))
    cases hy
  · exact h w hw
theorem m_pl {L ws : List Cond} {ps : List Nat} (h : ws = ps.filterMap (fun i => L[i]?)) : ∀ w ∈ ws, w ∈ L := by
  intro w hw
  rw [h] at hw
  obtain ⟨i, -, hi⟩ := List.mem_filterMap.mp hw
  exact List.mem_of_getElem? hi
set_option maxRecDepth 100000 in
theorem m_lw_x0 : ∀ w ∈ (vx_atS RX8 446 "java/lang/IndexOutOfBoundsException" ["java/lang/RuntimeException", "java/lang/Exception"]).filter goodWord, w ∈ m_lw := m_pl (ps := [89, 349, 358, 362, 365, 367, 350, 351, 126, 127, 352, 357, 363, 383, 339, 384, 341, 385, 343, 353, 355, 345, 379, 380, 382, 345, 414, 415, 416, 373, 373, 374, 375, 376, 376, 377, 378, 379, 413, 404, 406, 361, 407, 408, 409, 410, 348, 347, 411]) (by decide +kernel)
set_option maxRecDepth 100000 in
theorem m_lw_x1 : ∀ w ∈ (vx_atS RX8 69 "java/lang/IllegalArgumentException" ["java/lang/RuntimeException", "java/lang/Exception"]).filter goodWord, w ∈ m_lw := m_pl (ps := [89, 349, 358, 362, 365, 367, 350, 351, 126, 127, 352, 357, 363, 383, 339, 384, 341, 385, 343, 353, 355, 345, 379, 380, 382, 345, 370, 371, 372, 373, 373, 374, 375, 376, 376, 377, 378, 379, 369, 328, 336, 337, 338, 340, 342, 344, 348, 347, 346]) (by decide +kernel)
set_option maxRecDepth 100000 in
theorem m_lw_x2 : ∀ w ∈ (vx_atS RX8 79 "java/lang/IllegalStateException" ["java/lang/RuntimeException", "java/lang/Exception"]).filter goodWord, w ∈ m_lw := m_pl (ps := [89, 349, 358, 362, 365, 367, 350, 351, 126, 127, 352, 357, 363, 383, 339, 384, 341, 385, 343, 353, 355, 345, 379, 380, 382, 345, 643, 644, 645, 373, 373, 374, 375, 376, 376, 377, 378, 379, 642, 633, 635, 360, 636, 637, 638, 639, 348, 347, 640]) (by decide +kernel)
theorem m_lw_in : ∀ w ∈ wsL_law, w ∈ m_lw := fun w h => (List.mem_append.mp h).elim ((fun w h => (List.mem_append.mp h).elim ((fun w h => (List.mem_append.mp h).elim ((fun w h => wk_in h) w) (m_lw_x0 w)) w) (m_lw_x1 w)) w) (m_lw_x2 w)
