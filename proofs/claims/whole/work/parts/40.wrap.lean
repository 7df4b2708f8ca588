/-! methods with an exception table; static calls of them -/
abbrev sbwW (y : MethodName) (b : ByteArray) (n : Nat) (r : Option FieldType) (hh : List (Nat × Nat × Nat × Nat)) : List Cond := Cond.codeWith y b n r hh :: sbW
theorem nc_at {A : Nat → Prop} {s : State} {args : Array Value} {H : Heap} (h : sbTh A s H) {a b : String} (hm : (a, b) ∈ sbNc) : (Cond.not (.castable a b)).before args s = true := by
  have q := Cond.notCastable_moved (args' := args) (T := s) (Vm.Alike.refl s.vm) (h.2.2.2 _ hm)
  rwa [State.setVm_self] at q
section SBL
variable {p : Program} {l : Launch} {e : Env} {R : Room} {s : State} {m : MethodId} {args : Array Value} {below : List Frame} {meth : Method} {c : Code} {H H0 : Heap} {locs : List Loc} {cells slots : Nat} {Q : State → Prop}
variable {D : va_G} {cI cL cB : ClassId} {tS tF : Nat} {A B : Nat → Prop} {cc : ByteArray} {pc : Nat} {ls : Array Slot} {rest : List Value}
theorem sb_ofL {y : MethodName} {rm : Room} {mc ms maxL sz : Nat} {ret : Option FieldType} {hh : List (Nat × Nat × Nat × Nat)} {av : List Value} {w0 : va_W} {Qc : (Nat → Prop) → Array Value → State → Outcome → State → Prop} (tb : List ExceptionTableEntry)
    (htb : tb.map (fun x => (x.startPc, x.endPc, x.handlerPc, x.catchType)) = hh) (hy : plainName y.cls = true) (hlen : (lg_sl av).length ≤ maxL)
    (body : ∀ (p : Program) (e : Env) (s : State) (m : MethodId) (args : Array Value) (below : List Frame) (meth : Method) (c : Code) (A : Nat → Prop) (ls : Array Slot),
      p.tables.exec = Jvm.exec → c.code = cc → meth.sig.returnType = ret → c.maxLocals = maxL → (∀ w ∈ sbW, w.before args s = true) → s.vm.findClass y.cls = some m.cls → meth.locks = false → meth.name = y.name → s.heap.size = sz →
      va_P D vwCl w0 s.heap → sbG D cI cL cB tS tF A s s.heap → va_D A w0 → (∀ q, s.heap.size ≤ q → A q) → va_S A s.heap s.heap [] → lv_has ls maxL (lv_args 0 av) → c.exceptionTable.toList = tb → sbTh A s s.heap →
      W p l e rm s m args below meth c s.heap [] 0 0 (MQ below (Qc A) args s mc ms A) (F0 m 0 ls [])) :
    Met l y (sbwW y cc maxL ret hh) rm (sbPt D cI cL cB tS tF av sz w0) (Qc (va_A w0 sz)) mc ms (va_A w0 sz) := by
  refine va_MetW (cc := cc) (maxL := maxL) (ret := ret) (hh := hh) hy rfl ?_
  intro p e s m args below meth c s₁ B hml hv
  obtain ⟨rfl, hsz, hP, hG, hD0, hT⟩ := hv
  have hl := lv_entry av (n := maxL) hlen
  have X := Stand.of_body B
  have hex : c.exceptionTable.toList = tb := by
    obtain ⟨m', meth', c', q0, q1, q2, -, -, q5, -⟩ := Cond.codeWith_spec (atoms_spec (ws := sbwW y cc maxL ret hh) B.pre _ List.mem_cons_self)
    cases B.named.symm.trans q0
    cases X.method.symm.trans q1
    cases X.code.symm.trans q2
    have inj : ∀ (u v : List ExceptionTableEntry), u.map (fun x => (x.startPc, x.endPc, x.handlerPc, x.catchType)) = v.map (fun x => (x.startPc, x.endPc, x.handlerPc, x.catchType)) → u = v := by
      intro u
      induction u with
      | nil => intro v h; cases v with | nil => rfl | cons a v => cases h
      | cons a u ih =>
        intro v h
        cases v with
        | nil => cases h
        | cons b v =>
          simp only [List.map_cons, List.cons.injEq, Prod.mk.injEq] at h
          obtain ⟨⟨h1, h2, h3, h4⟩, h5⟩ := h
          have e1 : a = b := by
            cases a
            cases b
            simp_all
          rw [e1, ih v h5]
    exact inj _ _ (q5.trans htb.symm)
  rw [lg_entry_eq]
  exact body p e s m _ below meth c (va_A w0 sz) _ B.exec B.bytes B.returns hml (fun w hw => atoms_spec (ws := sbwW y cc maxL ret hh) B.pre w (List.mem_cons_of_mem _ hw)) (findClass_of_methodNamed B.named) B.notSynchronized (name_of_methodNamed B.named B.method).1 hsz hP hG hD0.self (fun q h => Or.inr (by rw [← hsz]; exact h)) va_S.rf hl hex hT
/-- what a callee is given -/
theorem sb_pSt {ws wc : va_W} {As : List Value} (hG : sbG D cI cL cB tS tF A s s.heap) (hT : sbTh A s s.heap) (hP : va_P D vwCl ws H) (hD : va_D A ws) (hS : va_S A s.heap H locs) (hA : ∀ q, s.heap.size ≤ q → A q) (isC : List Nat) (hn : va_nd isC = true) (hC : isC.map (fun i => ws[i]?) = wc.map some) :
    PreS s H (sbPt D cI cL cB tS tF As H.size wc) As :=
  ⟨fun a U g mk q => ⟨q.1, q.2.1, q.2.2.1, q.2.2.2.1.calling g mk a, q.2.2.2.2.1, q.2.2.2.2.2.calling g mk a⟩,
   fun U hU hW => ⟨rfl, by rw [hU], by rw [hU]; exact hP.sub isC (sb_fm hC), hG.pass hS (va_free hD hS hA isC hC) hU hW, (hD.sub isC hn hC).weaken (fun _ _ _ _ => trivial), hT.pass hS (va_free hD hS hA isC hC) hU hW⟩⟩
/-- a static call of a method with an exception table -/
theorem sb_runSW {y : MethodName} {bytes : ByteArray} {maxL nL mc ms n index : Nat} {ret : Option FieldType} {hh : List (Nat × Nat × Nat × Nat)} {rm : Room} {Pc : Array Value → State → Prop} {Qc : Array Value → State → Outcome → State → Prop} {free : Addr → Prop} {own : String} {As : List Value} {g : JFrame}
    (F : CallFix p m c cc nL s args sbW own) (hM : Met l y (sbwW y bytes maxL ret hh) rm Pc Qc mc ms free) (hcw : Cond.codeWith y bytes maxL ret hh ∈ sbW) (hl : Cond.methodLink own index y ∈ sbW) (hst : Cond.static y ∈ sbW) (hini : Cond.initialized y.cls ∈ sbW)
    (hrc : rm.cells = mc) (hrs : rm.slots = ms) (hd : y.cls ≠ "java/lang/invoke/MethodHandle" ∧ y.cls ≠ "java/lang/invoke/VarHandle" ∧ (parseMethodDescriptor y.desc).map (fun d => d.parameters.length) = some n) (hR : rm.frames + 1 ≤ R.frames ∧ 8 + (maxL + 11) + rm.locals ≤ R.locals) (hp : PreS s H Pc As)
    (hg : g.method = m) (hn : As.length = n) (hsize : g.locals.size = nL) (hstack : g.stack = As.reverse ++ rest) (hW : 2 * g.monitorRoom + (rest.map fun v => v.category).sum ≤ 8) (hdg : decode cc g.pc = .ok (.invokestatic index, 3)) (hf : cells + mc ≤ R.cells ∧ slots + ms ≤ R.slots) :
    va_Run p l e R s m args below meth c H locs cells slots mc ms g rest (Qc As.toArray) free := by
  obtain ⟨hx, hb, hml, ho, hts⟩ := F
  have words : ∀ w ∈ sbwW y bytes maxL ret hh, ∀ (a' : Array Value) (U : State), s.WarmedH U.vm → w.before a' U = true := fun w hw a' U hW' => by
    have hw' : w ∈ sbW := by
      rcases List.mem_cons.mp hw with rfl | h
      · exact hcw
      · exact h
    exact word_at hW' (good_of_word (List.mem_filter.mp hw').2) (hts w hw')
  have hK : Back l R p e below s args y 3 8 (PreOf R mc ms Pc) (PostOf Qc mc ms free) := va_backW (hh := hh) (bytes := bytes) (maxL := maxL) (ret := ret) hM hp.1 hrc hrs hR.1 hR.2 words List.mem_cons_self
    (fun a' U hW' => word_at hW' (good_of_word (List.mem_filter.mp hini).2) (hts _ hini))
  intro T hT X
  obtain ⟨mk, methM, cM, hnamed, hmethM, -, -, -, -, -, -, hsigM⟩ := Cond.codeWith_spec (hts _ hcw)
  have hstatic : methM.isStatic = true := Cond.static_spec hnamed hmethM (hts _ hst)
  obtain ⟨kP, hkP, -⟩ := className_of_methodNamed hnamed
  have hinitP : kP.init = .initialized := Cond.initialized_spec (findClass_of_methodNamed hnamed) hkP (hts _ hini)
  have hlen : As.length = methM.sig.parameters.length := by
    have h2 := hd.2.2
    rw [hsigM] at h2
    exact hn.trans (Option.some.inj h2).symm
  obtain ⟨vm₁, X₁, hstep₁⟩ := X.invokestatic hx ho (hts _ hl) hnamed hmethM hstatic hkP hinitP ⟨hd.1, hd.2.1⟩ (g := g) hg (argsL := As) (rest := rest) hlen hstack (by rw [hb]; exact hdg)
  obtain ⟨v, ⟨U', l2, c2, s2⟩, X', ⟨g', mk', t, L, e1, e2, hq, h1, hL, h2, h3⟩, hsteps⟩ := hK m meth c ⟨T.setVm vm₁, locs, cells, slots⟩ { g with stack := rest } (.invokestatic index) mk As.toArray X₁ hg (hsize.trans hml.symm) (by rw [hb]; exact hdg) hW (X₁.named hnamed) ⟨hf.1, hf.2, hp.2 (T.setVm vm₁) hT X₁.warmed⟩
  dsimp only [Free.Pt.U, Free.Pt.locs, Free.Pt.cells, Free.Pt.slots] at X' e1 e2 h1 h2 h3 hsteps
  subst h1; subst h2; subst h3
  exact ⟨v, (T.setVm vm₁).calling g' mk' As.toArray, t, U', L, hT, X', hL, e1, e2, hq, fun target h => hstep₁ _ fun acts => by rw [doInvoke_state]; exact hsteps.trans h⟩
end SBL
