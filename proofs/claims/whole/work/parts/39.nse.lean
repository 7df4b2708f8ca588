/-! NoSuchElementException: its own constructor links its super by another entry -/
section NSE
variable {p : Program} {l : Launch} {e : Env} {R : Room} {s : State} {m : MethodId} {args : Array Value} {below : List Frame} {meth : Method} {c : Code} {T0 : State} {H : Heap} {locs : List Loc} {cells slots : Nat}
theorem nse_ctor (X : Stand p l e R s m args below meth c T0 [] cells slots) (hexec : p.tables.exec = Jvm.exec) (htr : e.platform.stackTraces = false) {own cls : String} {names : List String} {ic ix : Nat} {rx : ByteArray}
    (x0 : decode rx 0 = .ok (.aload_n 0, 1)) (x1 : decode rx 1 = .ok (.aload_n 1, 1)) (x2 : decode rx 2 = .ok (.invokespecial ix, 3)) (x5 : decode rx 5 = .ok (.return_, 1))
    (hown : s.vm.findClass own = some m.cls) (hcls : Bundle.fit cls = true) (hnames : ∀ n ∈ names, Bundle.fit n = true) (h : ∀ a ∈ Bundle.ownAtomsX own ic cls ix rx names, a.before args s = true)
    {a : Addr} {cX : ClassId} {kX : Class} (hfoundX : s.vm.findClass cls = some cX) (hkX : s.vm.classes[cX]? = some kX) (hcell : T0.heap[a]? = some (freshCell cX kX)) (hnew : s.heap.size ≤ a) {msg : Value} (hmsg : msg.isRef = true)
    {g : JFrame} (hg : g.method = m) (hsize : g.locals.size = c.maxLocals) (hlocked : g.locked = none) (hentered : g.entered = []) (hstack : g.stack = msg :: .ref a :: .ref a :: [])
    (hd6 : decode c.code g.pc = .ok (.invokespecial ic, 3)) (hd9 : decode c.code (g.pc + 3) = .ok (.athrow, 1)) (hout : ∀ x ∈ c.exceptionTable.toList, covers x (g.pc + 3) = false)
    (hRframes : names.length + 3 < R.frames) (hRlocals : 2 * g.monitorRoom + (([Value.ref a] : List Value).map fun v => v.category).sum + (13 * (names.length + 1) + 42) ≤ R.locals) (hlocks : meth.locks = false) :
    ∃ U : State, Steps p.tables e below (T0.setTop g) U ∧ U.status = .running ∧ Ended U below (.threw a) ∧ s.WarmedH U.vm ∧ s.sameButNew ({ U with vm := s.vm } : State) [] cells slots ∧ ∃ ce, U.heap[a]? = some ce ∧ ce.vm = .none ∧ ce.cls = cX := by
  have howns : e.platform.frameOwnsMonitors = true := by rw [X.admits.platform]
  have hfin : e.platform.finalization = false := by rw [X.admits.platform]
  have hpl : e.platform.magicAccessors = ({} : Platform).magicAccessors := by rw [X.admits.platform]
  have aw : ∀ x, x ∈ Bundle.ownAtomsX own ic cls ix rx names → x.holds args s none s [] = true := fun x hx => h x hx
  obtain ⟨Tc, Z0, L, -, Y⟩ := ThrowableC.of_atoms (args := args) howns hfin hpl (fun x hx => h x (by simp [Bundle.ownAtomsX, hx]))
  obtain ⟨Z, M, LZ, LM, hnZ⟩ := Init0T.ofS_atoms (args := args) hpl L Y (fun x hx => h x (by simp [Bundle.ownAtomsX, hx]))
  obtain ⟨P1, Ps, hlen, L1, hL, hP1m, hlink1, hlink⟩ := Bundle.chainSX (args := args) hpl hnZ x0 x1 x2 x5 names cls hcls hnames (fun x hx => h x (by simp [Bundle.ownAtomsX, hx]))
  have hfound : s.vm.findClass cls = some P1.m.cls := findClass_of_methodNamed hP1m
  cases Option.some.inj (hfoundX.symm.trans hfound)
  obtain ⟨c1, kX', hc1, hk, hord, -, -, hn6⟩ := Cond.instantiable_spec (aw (.instantiable cls 6) (by simp [Bundle.ownAtomsX]))
  cases Option.some.inj (hc1.symm.trans hfound)
  cases Option.some.inj (hkX.symm.trans hk)
  have pick : ∀ {t : MethodName} {r : MethodId}, (Cond.selects cls t t).holds args s none s [] = true → s.methodNamed? t = some r → (t.cls ≠ "java/lang/invoke/MethodHandle" ∧ t.cls ≠ "java/lang/invoke/VarHandle") → selectMethod e.platform s.vm P1.m.cls r = .method r := by
    intro t r hs hn ht
    obtain ⟨c2, r2, m2, q1, q2, q3, q4, -⟩ := Cond.selects_spec hs
    cases Option.some.inj (q1.symm.trans hfound)
    cases Option.some.inj (q2.symm.trans (State.methodFound?_of_named hn ht))
    cases Option.some.inj (q3.symm.trans hn)
    rw [Launch.admits_selectMethod X.admits]
    exact q4
  have hsel0 := pick (aw (.selects cls Bundle.tFill0 Bundle.tFill0) (by simp [Bundle.ownAtomsX])) Y.fill0 (by decide)
  have hselF := pick (aw (.selects cls Bundle.tFill Bundle.tFill) (by simp [Bundle.ownAtomsX])) Y.fill (by decide)
  obtain ⟨cellS0, hcS0, hiss⟩ := Y.statics
  obtain ⟨u0, hu0⟩ := Cond.staticRefV Y.unassigned L.unassignedStatic L.statics hcS0 hiss (aw (.isRef (.static Bundle.tN "UNASSIGNED_STACK" Bundle.steD)) (by simp [Bundle.ownAtomsX]))
  obtain ⟨sen, hsen⟩ := Cond.staticRefV Y.sentinel L.sentinelStatic L.statics hcS0 hiss (aw (.isRef (.static Bundle.tN "SUPPRESSED_SENTINEL" Bundle.listD)) (by simp [Bundle.ownAtomsX]))
  obtain ⟨ci198, i198, fB, hk198, hg198, ha198, hsB, -, hnB, htB, hffB⟩ := Cond.ownField (t := .object "java/lang/Object") Y.found L.cls (by decide +kernel) (aw (.fieldLink Bundle.tN 198 Bundle.tN "backtrace" "Ljava/lang/Object;") (by simp [Bundle.ownAtomsX])) (aw (.lays Bundle.tN Bundle.tN "backtrace" "Ljava/lang/Object;") (by simp [Bundle.ownAtomsX])) e.platform hpl
  obtain ⟨cellS, hcS', heS, -, hkeep⟩ := X.same.2.2.2.2.2 Tc.aS cellS0 hcS0
  have hknownS : cellS.vm ≠ .unknown := by
    rw [heS]
    intro hu
    rw [show cellS0.vm = .unknown from hu] at hiss
    cases hiss
  have hneS : Tc.aS ≠ a := Nat.ne_of_lt (Nat.lt_of_lt_of_le (Array.getElem?_eq_some_iff.mp hcS0).1 hnew)
  obtain ⟨iM, hffM⟩ := Y.msg
  obtain ⟨tyC, dC, hdC, hdnC⟩ := Cond.laysAt hfound hk Y.cause (aw (.lays cls Bundle.tN "cause" "Ljava/lang/Throwable;") (by simp [Bundle.ownAtomsX]))
  obtain ⟨tyS, dS, hdS, hdnS⟩ := Cond.laysAt hfound hk Y.stack (aw (.lays cls Bundle.tN "stackTrace" Bundle.steD) (by simp [Bundle.ownAtomsX]))
  obtain ⟨tyP, dP, hdP, hdnP⟩ := Cond.laysAt hfound hk Y.supp (aw (.lays cls Bundle.tN "suppressedExceptions" Bundle.listD) (by simp [Bundle.ownAtomsX]))
  obtain ⟨tyM, dM, hdM, hdnM⟩ := Cond.laysAt hfound hk hffM (aw (.lays cls Bundle.tN "detailMessage" "Ljava/lang/String;") (by simp [Bundle.ownAtomsX]))
  obtain ⟨tyB, dB, hdB, hdnB⟩ := Cond.laysAt hfound hk hffB (aw (.lays cls Bundle.tN "backtrace" "Ljava/lang/Object;") (by simp [Bundle.ownAtomsX]))
  have bC := Cond.laysApart hdB hdC hdnB hdnC (by rw [hnB, Y.causeName]; decide)
  have bS := Cond.laysApart hdB hdS hdnB hdnS (by rw [hnB, Y.stackName]; decide)
  have bP := Cond.laysApart hdB hdP hdnB hdnP (by rw [hnB, Y.suppName]; decide)
  have hskip : SkipFacts Tc e.platform s (fun u => u) u0 ((preparedCellV Tc.toThrowableT (freshCell P1.m.cls kX) a u0 sen).withEntry T0.cur) :=
    ⟨{ ci198 := ci198, i198 := i198, fBack := fB }, ⟨hk198, hg198, ha198, hsB⟩, by
      have := fresh_default (c := P1.m.cls) tyB
      rw [htB] at this
      simpa [preparedCellV, Cell.setSlot, Cell.withEntry, Array.getElem?_setIfInBounds, bC, bS, bP, bC.symm, bS.symm, bP.symm, defaultValue] using this, fun _ _ => rfl⟩
  obtain ⟨tm, methC, cdC, kC, vm₁, hnC, -, -, -, -, -, -, -, hW₁, st1⟩ := Steps.initColdS (tb := p.tables) (e := e) (below := below) (s := s) (U := T0) X.here hexec X.warmed hpl hown (t := Bundle.initS cls) rfl rfl (Bundle.fit_spec hcls).2
    (aw (.methodLink own ic (Bundle.initS cls)) (by simp [Bundle.ownAtomsX])) (h (.instanceMethod (Bundle.initS cls)) (by cases names <;> simp [Bundle.ownAtomsX, Bundle.chainSAtomsX, Bundle.passSAtoms])) (bytes := rx) (maxL := 2) (h (.code (Bundle.initS cls) rx 2 none) (by cases names <;> simp [Bundle.ownAtomsX, Bundle.chainSAtomsX, Bundle.passSAtoms]))
    (f := g) hg (a := a) (msg := msg) (rest := [.ref a]) hstack hd6
  cases Option.some.inj (hnC.symm.trans hP1m)
  have X₁ := X.noted hW₁
  obtain ⟨vm₂, X₂, st2⟩ := X₁.ctorMessageOffV hexec (g := { g with stack := [.ref a] }) hg hsize Tc L Z LZ M LM (P1 :: Ps)
    (fun P hP => by rcases List.mem_cons.mp hP with rfl | hP; exact L1; exact hL P hP) ⟨hlink1, hlink⟩ (u0 := u0) (sen := sen) (self := a) hmsg (cell := freshCell P1.m.cls kX) (cellS := cellS)
    hcell (fun _ => by simp) (by simp) rfl rfl hsel0 hselF hcS' hneS hknownS (by rw [hkeep _ (by simp)]; exact hu0) (by rw [hkeep _ (by simp)]; exact hsen)
    (Takes.of_laid hk hord tyC (by rw [Y.causeType]; rfl)) (Takes.of_laid hk hord tyS (by rw [Y.stackType]; exact fits_refV_array _ u0)) (Takes.of_laid hk hord tyP (by rw [Y.suppType]; exact fits_refV_object _ sen))
    (Takes.of_laid hk hord tyM (by rw [Y.msgType]; exact fits_refV_object _ ⟨msg, hmsg⟩)) Y.objLocals hskip htr [] hd6
    (by simp only [List.length_cons, hlen]; omega) (by simp only [List.length_cons, hlen]; exact hRlocals)
  obtain ⟨hwalk, hrun, hended, hWU, hsame⟩ := X₂.athrowLeaves hexec (g := { g with stack := [.ref a], pc := g.pc + 3 }) hg hlocked hentered hout (a := a) (rest := []) rfl hd9
  have hlt : a < ((T0.setVm vm₁).setVm vm₂).heap.size := (Array.getElem?_eq_some_iff.mp hcell).1
  have hU := heapAt_setCell_self (s := (T0.setVm vm₁).setVm vm₂) (plainBareV Tc.toThrowableT (freshCell P1.m.cls kX) a u0 sen msg) hlt
  refine ⟨_, st1 _ (fun acts => ?_), hrun, hended, hWU, hsame.weaken (fun y hy hlt' => ?_) (Nat.le_refl _) (Nat.le_refl _), _, hU, rfl, rfl⟩
  · rw [doInvoke_state]
    exact st2 _ hwalk
  · exfalso
    have hb : y.base = a := by
      simp only [List.nil_append, List.mem_cons, List.not_mem_nil, or_false] at hy
      rcases hy with rfl | rfl | rfl | rfl | rfl <;> rfl
    rw [hb] at hlt'
    exact Nat.not_lt.mpr hnew hlt'
/-- new, dup, a text, the constructor, athrow, at the base -/
theorem sb_throwX0 {cc : ByteArray} {pc nL : Nat} {ls : Array Slot} (hexec : p.tables.exec = Jvm.exec) (hb : c.code = cc) (htr : e.platform.stackTraces = false) (hown : s.vm.findClass "SealBox" = some m.cls)
    {iN iS : Nat} {tx : String} (hat : ∀ a ∈ Bundle.ownAtomsX "SealBox" 89 "java/util/NoSuchElementException" 13 prog_23_method_4_code ["java/lang/RuntimeException", "java/lang/Exception"], a.before args s = true)
    (hcl : (Cond.classLink "SealBox" iN "java/util/NoSuchElementException").before args s = true) (hins : (Cond.instantiable "java/util/NoSuchElementException" 6).before args s = true) (hini : (Cond.initialized "java/util/NoSuchElementException").before args s = true) {q0 : Nat} (hq0 : vk_R "SealBox" iS tx q0 s) (hex : c.exceptionTable.toList = []) (hlocks : meth.locks = false) (hml : c.maxLocals = nL) (hls : ls.size = nL)
    (d0 : decode cc pc = .ok (.new iN, 3)) (d3 : decode cc (pc + 3) = .ok (.dup, 1)) (d4 : decode cc (pc + 4) = .ok (.ldc iS, 2)) (d6 : decode cc (pc + 6) = .ok (.invokespecial 89, 3)) (d9 : decode cc (pc + 9) = .ok (.athrow, 1))
    (hf1 : 1 ≤ R.cells) (hf2 : 6 ≤ R.slots) (hR1 : 5 < R.frames) (hR2 : 83 ≤ R.locals) (hH : s.heap.size ≤ H.size) :
    W p l e R s m args below meth c H [] 0 0 (fun t => t.status = .running ∧ Ended t below (.threw H.size) ∧ s.WarmedH t.vm ∧ s.sameButNew ({ t with vm := s.vm } : State) [] 1 6 ∧ ∃ ce, t.heap[H.size]? = some ce ∧ ce.vm = .none ∧ s.vm.findClass "java/util/NoSuchElementException" = some ce.cls) (F0 m pc ls []) := by
  refine W.newc hexec hb (own := "SealBox") (C := "java/util/NoSuchElementException") (index := iN) (n := 6) hown hcl hins hini rfl d0 (by omega) (by omega) (fun cC kC h1 h2 h3 h4 => ?_)
  refine W.eq (g2 := F0 m (pc + 3) ls [.ref H.size]) rfl ?_
  refine lv_dup hexec hb d3 rfl ?_
  refine va_ldcS hexec hb hown hq0 d4 ?_
  intro T2 hT2 X2
  have hcell : T2.heap[H.size]? = some (freshCell cC kC) := by rw [hT2]; simp
  obtain ⟨U, st, hrun, hend, hW, hsame, ce, hce, hv, hcx⟩ := nse_ctor X2 hexec htr (own := "SealBox") (ic := 89) (rx := prog_23_method_4_code) (by decide +kernel) (by decide +kernel) (by decide +kernel) (by decide +kernel) hown (by decide +kernel) (by decide +kernel) hat (a := H.size) h1 h2
    hcell hH (msg := .ref q0) rfl (g := F0 m (pc + 6) ls [.ref q0, .ref H.size, .ref H.size]) rfl (hls.trans hml.symm) rfl rfl rfl (by rw [hb]; exact d6) (by rw [hb]; exact d9)
    (by rw [hex]; intro x hx; cases hx) (by show 2 + 3 < R.frames; omega) (by show 2 * 0 + 1 + (13 * (2 + 1) + 42) ≤ R.locals; omega) hlocks
  exact ⟨U, st, hrun, hend, hW, hsame, ce, hce, hv, by rw [hcx]; exact h1⟩
theorem th_NSE : thAll (Bundle.ownAtomsX "SealBox" 89 "java/util/NoSuchElementException" 13 prog_23_method_4_code ["java/lang/RuntimeException", "java/lang/Exception"]) [31, 316, 325, 331, 334, 336, 317, 318, 48, 49, 319, 324, 332, 352, 306, 353, 308, 354, 310, 320, 321, 322, 323, 312, 348, 349, 351, 312, 414, 415, 416, 342, 298, 342, 343, 344, 345, 300, 345, 346, 347, 348, 302, 413, 404, 405, 406, 330, 407, 408, 409, 410, 931, 931, 315, 314, 411] = true := by decide +kernel
/-- .. anywhere -/
theorem sb_throwX {Qt : Array Value → State → Addr → State → Prop} {free : Addr → Prop} {A : Nat → Prop} {cc : ByteArray} {pc nL : Nat} {ls : Array Slot} (hexec : p.tables.exec = Jvm.exec) (hb : c.code = cc) (htr : e.platform.stackTraces = false)
    (hts : ∀ w ∈ sbW, w.before args s = true) (hN : ∀ w ∈ sbN, va_Nw w s) (hT : sbTh A s s.heap) (hS : va_S A s.heap H locs) (hown : s.vm.findClass "SealBox" = some m.cls)
    {iN iS : Nat} {tx : String}
    (hcl : Cond.classLink "SealBox" iN "java/util/NoSuchElementException" ∈ sbW) (hins : Cond.instantiable "java/util/NoSuchElementException" 6 ∈ sbW) (hini : Cond.initialized "java/util/NoSuchElementException" ∈ sbW) (hstr : (iS, tx) ∈ sbStr) (hex : c.exceptionTable.toList = []) (hlocks : meth.locks = false) (hml : c.maxLocals = nL) (hls : ls.size = nL)
    (d0 : decode cc pc = .ok (.new iN, 3)) (d3 : decode cc (pc + 3) = .ok (.dup, 1)) (d4 : decode cc (pc + 4) = .ok (.ldc iS, 2)) (d6 : decode cc (pc + 6) = .ok (.invokespecial 89, 3)) (d9 : decode cc (pc + 9) = .ok (.athrow, 1))
    (hf1 : cells + 1 ≤ R.cells) (hf2 : slots + 6 ≤ R.slots) (hR1 : 5 < R.frames) (hR2 : 83 ≤ R.locals) (hfree : ∀ q ∈ locs, free q.base)
    (hq : ∀ (t : State) (ce : Cell), s.WarmedH t.vm → (∀ q, q < H.size → t.heap[q]? = H[q]?) → H.size ≤ t.heap.size → t.heap[H.size]? = some ce → ce.vm = .none → s.vm.findClass "java/util/NoSuchElementException" = some ce.cls → Qt args s H.size t) :
    W p l e R s m args below meth c H locs cells slots (MQT below Qt args s (cells + 1) (slots + 6) free) (F0 m pc ls []) := by
  intro T hTH X
  have X' := st_rebase X (by omega) (by omega)
  have back := fun (U : State) => same_back (U := U) (k := 1) (n := 6) X
  have hT' : sbTh A ({ s with heap := T.heap, slotsUsed := T.slotsUsed } : State) T.heap := hT.pass (U := ({ s with heap := T.heap, slotsUsed := T.slotsUsed } : State)) hS (fun _ h => h) hTH (State.WarmedH.refl s)
  have hvm : s.vm = ({ s with heap := T.heap, slotsUsed := T.slotsUsed } : State).vm := rfl
  have hwm : ∀ vm', ({ s with heap := T.heap, slotsUsed := T.slotsUsed } : State).WarmedH vm' → s.WarmedH vm' := fun _ h => h
  have hhp : ({ s with heap := T.heap, slotsUsed := T.slotsUsed } : State).heap = H := hTH
  generalize ({ s with heap := T.heap, slotsUsed := T.slotsUsed } : State) = s' at X' back hT' hvm hwm hhp
  rw [hTH, ← hhp] at hT'
  obtain ⟨q0, hq0⟩ := hT'.2.2.1 _ hstr
  obtain ⟨t, st, hrun, hend, hW, hsame, ce, hce, hv, hc⟩ := sb_throwX0 (R := { R with cells := R.cells - cells, slots := R.slots - slots }) (s := s') (H := H) (below := below) (l := l) (e := e) hexec hb htr (by rw [← hvm]; exact hown) (thAll_before hvm hts hN hT' _ _ th_NSE) (tabs_at hvm hts hcl rfl) (tabs_at hvm hts hins rfl) (tabs_at hvm hts hini rfl) hq0 hex hlocks hml hls d0 d3 d4 d6 d9
    (by show 1 ≤ R.cells - cells; omega) (by show 6 ≤ R.slots - slots; omega) hR1 hR2 (by rw [hhp]; exact Nat.le_refl _) T hTH X'
  rw [← hvm] at hsame hc
  refine ⟨t, st, H.size, hrun, hend, ?_, locs, ⟨⟨_, rfl⟩, hwm _ hW, back t hsame⟩, hfree⟩
  refine hq t ce (hwm _ hW) (fun q hq => ?_) ?_ hce hv hc
  · have hq' : q < s'.heap.size := by rw [hhp]; exact hq
    obtain ⟨c', h1, h2, h3, h4⟩ := hsame.2.2.2.2.2 q s'.heap[q] (Array.getElem?_eq_getElem hq')
    have e : c' = s'.heap[q] := by
      rw [h2]
      have : c'.slots = s'.heap[q].slots := Array.ext_getElem? (fun i => h4 i (by simp))
      rw [this]
    have h1' : t.heap[q]? = some c' := h1
    rw [h1', e, ← hhp]
    exact (Array.getElem?_eq_getElem hq').symm
  · have := hsame.2.1
    rw [← hhp]
    exact this
end NSE
