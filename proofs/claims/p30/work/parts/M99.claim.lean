/-- from the entry, for every script of at most 260 ints, the law comes to its end with true -/
theorem whole_start {p : Program} {e : Env} {s : State} {m : MethodId} {below : List Frame} {meth : Method} {c : Code} (l : Launch) (hflags : l.flags = flags0) {b L : Nat} {xs : Nat → Int32} (hL : L ≤ 260) (C0 : lw_At p s m meth c b L xs) : W p l e room_1 s m #[Value.ref b] below meth c s.heap [] 0 0 (lw_Z below #[Value.ref b] s) (entryFrame m ([Value.ref b] : List Value).toArray 16) := by
  obtain ⟨hx, hb, hr, hml, hown, hts, hX, hbl, hlocks, hgv⟩ := id C0
  obtain ⟨D, hKc⟩ := st_K hts
  obtain ⟨ids, hA⟩ := st_A hts
  obtain ⟨g0, e0, hZs⟩ := st_Zs hts hgv
  obtain ⟨z1, z2, z3, ⟨g4, z4⟩⟩ := st_env hts hgv
  have hs := flat_of_before _ hgv
  have hlen := va_eqt (hs (.eq (.length (.static "java/util/ArrayList" "DEFAULTCAPACITY_EMPTY_ELEMENTDATA" "[Ljava/lang/Object;")) (.int 0)) (by decide +kernel))
  obtain ⟨a0, cell0, x0, y0, n0, v0, A17⟩ := st_rk (hs (.arrayOf (.static "java/util/ArrayList" "DEFAULTCAPACITY_EMPTY_ELEMENTDATA" "[Ljava/lang/Object;") (.object "java/lang/Object")) (by decide +kernel)) hlen
  cases e0.symm.trans x0
  obtain ⟨scr, s1, s2, s3, s4, s5⟩ := id hX
  have A18 : ArrOfT s scr.cls .int := fun N z => ⟨(fun k h => by cases h), s2.2⟩
  have v1 : scr.vm.isStatics = false := by
    cases hvm : scr.vm with
    | statics k => exact absurd hvm (s2.1 k)
    | _ => rfl
  obtain ⟨f, hf, q17, q18, q19⟩ : ∃ f : Nat → ClassId, (∀ k, k < 10 → f k = ids k) ∧ f 17 = cell0.cls ∧ f 18 = scr.cls ∧ f 19 = ids 6 := ⟨fun k => if k = 17 then cell0.cls else if k = 18 then scr.cls else if k = 19 then ids 6 else ids k, fun k hk => by
    show (if k = 17 then cell0.cls else if k = 18 then scr.cls else if k = 19 then ids 6 else ids k) = ids k
    rw [if_neg (by omega), if_neg (by omega), if_neg (by omega)], rfl, rfl, rfl⟩
  obtain ⟨g, hg0, hg1, hg4⟩ : ∃ g : Nat → Nat, g 0 = g0 ∧ g 1 = b ∧ g 4 = g4 := ⟨fun k => [g0, b, 0, 0, g4].getD k 0, rfl, rfl, rfl⟩
  subst hg0 hg4
  have hK : va_K D m_cl (m_tys (D, (f, g))) s := ⟨hKc, fun k q h => hA D g f hf k q h⟩
  have A19 : ArrOfT s (f 19) .byte := by
    rw [q19, ← hf 6 (by omega)]
    exact (hA D g f hf 6 (f 6, .byte) rfl).1
  have F : st_F (D, (f, g)) s g L xs := by
    refine ⟨⟨cell0, y0, n0, v0, q17.symm, Nat.zero_le _, ?_, fun j hj => absurd hj (Nat.not_lt_zero j)⟩, ⟨scr, by rw [hg1]; exact s1, s3, v1, q18.symm, Nat.le_of_eq s4.symm, by rw [s4], fun j hj => ?_⟩⟩
    · obtain ⟨t, cell, ht, hat, hv⟩ := Term.length_spec hlen
      cases e0.symm.trans ht
      cases y0.symm.trans (State.arrayAt?_spec hat).1
      exact (Value.int.inj hv).symm
    · show scr.slots[j]? = (arrV (f 0) L (fun j => .int (xs j))).slots[j]?
      rw [s5 j hj, arrV_read _ _ hj]
  have A17' : ArrOfT s (f 17) (.object "java/lang/Object") := by rw [q17]; exact A17
  have A18' : ArrOfT s (f 18) .int := by rw [q18]; exact A18
  obtain ⟨hR, hH⟩ := st_mem (G := (D, (f, g))) F A17' A18'
  have hrk : ∀ q ∈ m_rks, ArrOfT s (f q.1) q.2 := by
    intro q hq
    rcases List.mem_cons.mp hq with rfl | hq
    · exact A17'
    rcases List.mem_cons.mp hq with rfl | hq
    · exact A18'
    rcases List.mem_cons.mp hq with rfl | hq
    · exact A19
    · cases hq
  have hZ : m_Z (D, (f, g)) s.heap.size s s.heap := ⟨st_nw hts, fun own k tx hm => st_str (hts _ (List.mem_append_right _ hm)), z1, z2, hZs g rfl, z3, z4, trivial, trivial, fun q hq => (by cases hq), hrk⟩
  have hws : ∀ w ∈ wsL_law, w.before #[Value.ref b] s = true := fun w hw => m_lw_ok hts w (m_lw_in w hw)
  have C : m_C p s m #[Value.ref b] c cL_law 16 RL wsL_law (D, (f, g)) s.heap.size := ⟨hx, hb, hml, hown, hws, hK, hZ, Nat.le_refl _⟩
  have hLst : l.stackTraces = false := by
    unfold Launch.stackTraces
    rw [hflags]
    decide +kernel
  have hN : m_N s := trivial
  have hS : m_scr s #[Value.ref b] s.heap.size b L xs := ⟨rfl, hX, hbl, Nat.le_refl _⟩
  have hz : ∀ k, k < 33 → yn (st_Y g) k = 0 := by
    intro k hk
    show (if k = 33 then 1 else if k = 34 then 1 else 0) = 0
    rw [if_neg (by omega), if_neg (by omega)]
  have hw0 : wL_law b L xs g (fun v _ => v = 1) (some (g 1)) (st_M (st_Y g) (st_S L xs)) := law_p hR hz rfl hL (fun _ => rfl)
  have hw : wL_law b L xs g (fun v _ => v = 1) (some b) (st_M (st_Y g) (st_S L xs)) := by rw [← hg1]; rw [← hg1] at hw0; exact hw0
  have T := tL_law (l := l) (e := e) (below := below) C hr hlocks hLst hN hS (g := g) rfl (κ := fun v _ => v = 1) (fun _ _ h => h) hw
  have hl := lv_entry ([.ref b]) (n := 16) (Nat.le_of_ble_eq_true rfl)
  rw [lg_entry_eq]
  generalize (lg_sl ([.ref b]) ++ List.replicate (16 - (lg_sl ([.ref b])).length) Slot.unset).toArray = ls at hl ⊢
  have hl : lv_has ls 16 [(0, .ref b)] := hl
  exact T s.heap [] ls ⟨hH, va_S.rf⟩ hl
set_option maxHeartbeats 4000000 in
theorem lw_walk (l : Launch) (hflags : l.flags = flags0) (b : Addr) (xs : List Int32) : MetFree l x (headSpec (Jvm.Cond.code x code maxLocals ret :: tables_1) room_1) (lw_P b xs) (fun _ _ _ _ _ => True) lw_Q := by
  refine MetFree.of_bodyS (code := code) (maxLocals := maxLocals) (ret := ret) (by decide) ?_ ?_
  · intro args s m h hn
    obtain ⟨meth, c, h1, h2, h3, h4, h5, h6, -, -⟩ := Cond.code_spec hn (atoms_spec (ws := Jvm.Cond.code x code maxLocals ret :: tables_1) h _ List.mem_cons_self)
    exact ⟨meth, c, h1, h2, h3, h4, h5, h6⟩
  · intro p e s m args below meth c s₁ B hml0 hP _
    obtain ⟨rfl, hx, hbd, hgv⟩ := hP
    obtain ⟨scr, harrAt, hlist, hof, hsmall⟩ := hx
    obtain ⟨hcb, hkn, -, -⟩ := State.arrayAt?_spec harrAt
    have hown : s.vm.findClass R_law = some m.cls := findClass_of_methodNamed B.named
    have hts0 : ∀ c ∈ (Jvm.Cond.code x code maxLocals ret :: tables_1), c.before #[Value.ref b] s = true := atoms_spec (ws := Jvm.Cond.code x code maxLocals ret :: tables_1) B.pre
    have hts : ∀ w ∈ lw_tbl, w.before #[Value.ref b] s = true := k2_hts_sels lw_privs (fun w hw => hts0 w (List.mem_cons_of_mem _ hw)) lw_privs_ok
    have hml : c.maxLocals = 16 := B.maxLocals_eq (hts0 _ List.mem_cons_self)
    have X₀ : Stand p l e room_1 s m #[Value.ref b] below meth c s₁ [] 0 0 := Stand.of_body B
    have hh0 : s₁.heap = s.heap := by rw [B.state]; rfl
    have hsz : scr.slots.size = xs.length := by rw [← Array.length_toList, hlist, List.length_map]
    have hval : ∀ j : Nat, j < xs.length → scr.slots[j]? = some (.int (xs.getD j 0)) := fun j hj => by
      rw [← Array.getElem?_toList, hlist]
      simp [hj]
    have hbl : b < s.heap.size := (Array.getElem?_eq_some_iff.mp hcb).1
    have hX : va_X b xs.length (fun j => xs.getD j 0) s s.heap := ⟨scr, hcb, hof, hkn, hsz, hval⟩
    have K : W p l e room_1 s m #[Value.ref b] below meth c s₁.heap [] 0 0 (lw_Z below #[Value.ref b] s) (entryFrame m ([Value.ref b] : List Value).toArray 16) := by
      rw [hh0]
      exact whole_start l hflags hbd ⟨B.exec, B.bytes, B.returns, hml, hown, hts, hX, hbl, B.notSynchronized, hgv⟩
    obtain ⟨t, a1, o, b1, b2, b3⟩ := K s₁ rfl X₀
    exact ⟨t, o, a1, b1, b2, b3⟩
theorem lw_pre_spec {args : Array Value} {s : State} (h : (Jvm.Cond.and given_1 narrow_1).before args s = true) (hr : rest_1_c.before args s = true) : ∃ (b : Addr) (xs : List Int32), lw_P b xs args s := by
  have hs := flat_of_before _ h
  have hq := flat_of_before _ hr
  have hc : (Cond.count 1).before args s = true := hs _ (by decide +kernel)
  have harr : (Cond.arrayOf (.arg 0) .int).before args s = true := hs _ (by decide +kernel)
  have hle : (Cond.le (.length (.arg 0)) (.int 260)).before args s = true := hs _ (by decide +kernel)
  have hlen : (Cond.isInt (.length (.arg 0))).before args s = true := hq _ (by decide +kernel)
  have hall : (Cond.all (.arg 0) (.isInt (.elem (.arg 0) (.index 0)))).before args s = true := hq _ (by decide +kernel)
  obtain ⟨b, xs, hb, hx⟩ := State.ints_of_pre rfl harr hlen hall
  have hsm : xs.length < 2 ^ 31 := hx.choose_spec.2.2.2
  have hev : (Term.length (.arg 0)).eval args s none [] s = some (.int xs.length.toInt32) := hx.length_eval hb
  have hv := Cond.le_ints hev (show (Term.int 260).eval args s none [] s = some (.int 260) from rfl)
  have hd : xs.length.toInt32 ≤ 260 := by
    simpa [Cond.before, Cond.holds, hv] using hle
  have hN : xs.length ≤ 260 := (Int32.ofNat_le_ofNat hsm (by decide)).mp (show Int32.ofNat xs.length ≤ Int32.ofNat 260 from hd)
  exact ⟨b, xs, Cond.one_arg hc (show args[0]? = some (.ref b) from hb), hx, hN, h⟩
theorem lw_comes (l : Launch) (hflags : l.flags = flags0) : Comes l x (Jvm.Cond.code x code maxLocals ret :: tables_1) room_1 (fun tb e args s => Calls_1 tb e args s ∧ rest_1 tb e args s ∧ Pre_1 tb e args s)
    (fun _ _ args s o t => lw_Q args s o t) := by
  intro p e ha hc hk s m args below hf hfit hheap happ hpre
  obtain ⟨b, xs, hP⟩ := lw_pre_spec hpre.2.2 hpre.2.1
  obtain ⟨k, o, h1, h2, h3, hQ⟩ := lw_walk l hflags b xs p e ha hc hk s m args below hf ((Spec.applies_iff_loose hf).mp happ).1 hP trivial
  exact ⟨k, o, h1, h2, h3, hQ⟩
theorem lw_frame {s t : State} {o : Outcome} {args : Array Value} (h : Framed s o t [] 600104 7301313) :
    Framed s o t (fieldLocs frame_1_writes args s ++ arrayLocs frame_1_arrays args s ++ staticLocs frame_1_statics s) 600104 7301313 := h
theorem lw_limb (L : Cond) (hL : ∀ (args : Array Value) (s t : State), L.after args s (.returned (some (.int 1))) t = true) :
    ArmFor flags0 classFile x code maxLocals ret World_1 tables_1 room_1 Calls_1 rest_1 Pre_1
      (fun tb e a s o t => postC L tb e a s o t ∧ Framed s o t (fieldLocs frame_1_writes a s ++ arrayLocs frame_1_arrays a s ++ staticLocs frame_1_statics s) 600104 7301313) := by
  intro l hflags _ _ p e ha hc hk s m args below hf hfit hheap happ hpre
  obtain ⟨k, o, h1, h2, h3, rfl, hF⟩ := lw_comes l hflags p e ha hc hk s m args below hf hfit hheap happ hpre
  exact ⟨k, _, h1, h2, h3, hL args s _, lw_frame hF⟩
theorem i_vc : Claimed_1_1 ∧ Claimed_1_2 := ⟨lw_limb limb_1_1 (fun args s t => by simp [limb_1_1, Cond.after, Cond.holds, Cond.value]), lw_limb limb_1_2 (fun args s t => Cond.after_iff.mpr (by
  first | (rw [show limb_1_2 = Cond.eq .result (.int 1) from rfl, Cond.eq_ints (x := 1) (y := 1) rfl rfl]; simp; done) | (simp [limb_1_2, Cond.value, Term.eval]; done)))⟩
