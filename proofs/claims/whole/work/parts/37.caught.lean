/-! contracts that end in a throw; calls that throw and are caught -/
def MetT (l : Launch) (y : MethodName) (ws : List Cond) (rm : Room) (Pc : Array Value → State → Prop) (Qt : Array Value → State → Addr → State → Prop) (mc ms : Nat) (free : Addr → Prop) : Prop :=
  MetFree l y (headSpec ws rm) Pc (fun _ _ _ _ _ => True) (fun a st o t => ∃ x, o = .threw x ∧ Qt a st x t ∧ ∃ L, Free.FrameEndT st o t L mc ms ∧ ∀ q ∈ L, free q.base)
abbrev sbPt (D : va_G) (cI cL cB : ClassId) (tS tF : Nat) (av : List Value) (sz : Nat) (w0 : va_W) : Array Value → State → Prop :=
  va_Pc av (fun U => U.heap.size = sz ∧ va_P D vwCl w0 U.heap ∧ sbG D cI cL cB tS tF (va_A w0 sz) U U.heap ∧ va_D (fun _ => True) w0 ∧ sbTh (va_A w0 sz) U U.heap)
def sbQt {S : Type} (D : va_G) (cls : String) (post : S → Prop) (w1 : S → va_W) (A : Nat → Prop) : Array Value → State → Addr → State → Prop := fun _ st x t =>
  (∃ u : S, post u ∧ va_P D vwCl (w1 u) t.heap ∧ va_D A (w1 u)) ∧ va_F A st t ∧ ∃ ce : Cell, t.heap[x]? = some ce ∧ ce.vm = .none ∧ st.vm.findClass cls = some ce.cls
section SBT
variable {p : Program} {l : Launch} {e : Env} {R : Room} {s : State} {m : MethodId} {args : Array Value} {below : List Frame} {meth : Method} {c : Code} {H H0 : Heap} {locs : List Loc} {cells slots : Nat} {Q : State → Prop}
variable {D : va_G} {cI cL cB : ClassId} {tS tF : Nat} {A B : Nat → Prop} {cc : ByteArray} {pc : Nat} {ls : Array Slot} {rest : List Value}
theorem sb_qt {S : Type} {post : S → Prop} {w1 : S → va_W} {cls : String} (u : S) (hP : va_P D vwCl (w1 u) H) (hD : va_D A (w1 u)) (hS : va_S A s.heap H locs) (hp : post u) {t : State} {ce : Cell} (hk : ∀ q, q < H.size → t.heap[q]? = H[q]?) (hz : H.size ≤ t.heap.size) (hce : t.heap[H.size]? = some ce) (hv : ce.vm = .none) (hc : s.vm.findClass cls = some ce.cls) :
    sbQt D cls post w1 A args s H.size t :=
  ⟨⟨u, hp, hP.kept (fun k q h => hk q.1 (hP k q h).lt), hD⟩, ⟨Nat.le_trans hS.1 hz, fun q h1 h2 => by rw [hk q (Nat.lt_of_lt_of_le h1 hS.1)]; exact hS.2.1 q h1 h2⟩, ce, hce, hv, hc⟩
theorem sb_ofT {y : MethodName} {rm : Room} {mc ms maxL sz : Nat} {ret : Option FieldType} {av : List Value} {w0 : va_W} {Qt : (Nat → Prop) → Array Value → State → Addr → State → Prop}
    (hfl : l.flags = pinnedFlags ++ [noTraceFlag]) (hy : plainName y.cls = true) (hlen : (lg_sl av).length ≤ maxL)
    (body : ∀ (p : Program) (e : Env) (s : State) (m : MethodId) (args : Array Value) (below : List Frame) (meth : Method) (c : Code) (A : Nat → Prop) (ls : Array Slot),
      p.tables.exec = Jvm.exec → c.code = cc → meth.sig.returnType = ret → c.maxLocals = maxL → (∀ w ∈ sbW, w.before args s = true) → s.vm.findClass y.cls = some m.cls → meth.locks = false → meth.name = y.name → s.heap.size = sz →
      va_P D vwCl w0 s.heap → sbG D cI cL cB tS tF A s s.heap → va_D A w0 → (∀ q, s.heap.size ≤ q → A q) → va_S A s.heap s.heap [] → lv_has ls maxL (lv_args 0 av) → e.platform.stackTraces = false → c.exceptionTable.toList = [] → sbTh A s s.heap →
      W p l e rm s m args below meth c s.heap [] 0 0 (MQT below (Qt A) args s mc ms A) (F0 m 0 ls [])) :
    MetT l y (sbw y cc maxL ret) rm (sbPt D cI cL cB tS tF av sz w0) (Qt (va_A w0 sz)) mc ms (va_A w0 sz) := by
  refine MetFree.of_bodyS (code := cc) (maxLocals := maxL) (ret := ret) hy ?_ ?_
  · intro args s m h hn
    obtain ⟨meth, c, h1, h2, h3, h4, h5, h6, -, -⟩ := Cond.code_spec hn (atoms_spec (ws := sbw y cc maxL ret) h _ List.mem_cons_self)
    exact ⟨meth, c, h1, h2, h3, h4, h5, h6⟩
  · intro p e s m args below meth c s₁ B hml hv _
    have hh0 : s₁.heap = s.heap := by rw [B.state]; rfl
    have X := Stand.of_body B
    obtain ⟨rfl, hsz, hP, hG, hD0, hT⟩ := hv
    have hl := lv_entry av (n := maxL) hlen
    have hex : c.exceptionTable.toList = [] := by
      obtain ⟨meth', c', q1, q2, -, -, -, -, q7, -⟩ := Cond.code_spec B.named (atoms_spec (ws := sbw y cc maxL ret) B.pre _ List.mem_cons_self)
      cases X.method.symm.trans q1
      cases X.code.symm.trans q2
      simpa using q7
    have w := body p e s m _ below meth c (va_A w0 sz) _ B.exec B.bytes B.returns hml (fun w hw => atoms_spec (ws := sbw y cc maxL ret) B.pre w (List.mem_cons_of_mem _ hw)) (findClass_of_methodNamed B.named) B.notSynchronized (name_of_methodNamed B.named B.method).1 hsz hP hG hD0.self (fun q h => Or.inr (by rw [← hsz]; exact h)) va_S.rf hl (Launch.traces_off hfl B.admits) hex hT
    rw [← lg_entry_eq] at w
    obtain ⟨t, a1, x, b1, b2, b3, L, b4, b5⟩ := w s₁ hh0 X
    exact ⟨t, .threw x, a1, b1, b2, x, rfl, b3, L, b4, b5⟩
def PostT (Qt : Array Value → State → Addr → State → Prop) (mc ms : Nat) (free : Addr → Prop) : Free.Pt → Array Value → Addr → Free.Pt → Prop := fun A a x B =>
  ∃ (g : JFrame) (mk : MethodId) (t : State) (L : List Loc), B.U.heap = t.heap ∧ B.U.vm = t.vm ∧ Qt a (A.U.calling g mk a) x t ∧ B.locs = A.locs ++ L ∧ (∀ q ∈ L, free q.base) ∧ B.cells = A.cells + mc ∧ B.slots = A.slots + ms
theorem backT {y : MethodName} {bytes : ByteArray} {maxL mc ms n index : Nat} {ret : Option FieldType} {ws : List Cond} {rm : Room} {Pc : Array Value → State → Prop} {Qt : Array Value → State → Addr → State → Prop} {free : Addr → Prop} {own : String}
    (cb : CallB R s args own index y bytes maxL ret ws rm mc ms n) (hM : MetT l y ws rm Pc Qt mc ms free) (hbl : FrameBlind Pc) : Free.BackT l R p e below s args y 3 8 (PreOf R mc ms Pc) (PostT Qt mc ms free) := by
  obtain ⟨hrc, hrs, hfr, hlo, hws, hcw, -, hini, -⟩ := cb
  have hini' : ∀ (a' : Array Value) (U : State), s.WarmedH U.vm → (Cond.initialized y.cls).before a' U = true := fun a' U hW => word_at hW (Or.inl (by first | rfl | simp [Cond.onTables, Cond.keeps, Cond.steady])) hini
  refine Free.BackT.of_free (S := headSpec ws rm) (P := Pc) (K := fun _ _ _ _ _ => True) (Q := fun a st o t => ∃ x, o = .threw x ∧ Qt a st x t ∧ ∃ L, Free.FrameEndT st o t L mc ms ∧ ∀ q ∈ L, free q.base) (bytes := bytes) (maxL := maxL) (ret := ret)
    (E := fun a st o t L k n => k = mc ∧ n = ms ∧ ∀ q ∈ L, free q.base) hM hfr hlo ?_ ?_ (fun _ _ _ _ _ _ _ _ _ => trivial) ?_ ?_
  · intro m meth c A a X hp
    exact ⟨atoms_intro fun w hw => hws w hw _ _ X.warmed, hws _ hcw _ _ X.warmed, hini' _ _ X.warmed, by rw [show (headSpec ws rm).room.cells = mc from hrc]; exact hp.1, by rw [show (headSpec ws rm).room.slots = ms from hrs]; exact hp.2.1⟩
  · intro m meth c A a g mk X hp
    exact hbl _ _ _ _ hp.2.2
  · intro a st o t ⟨x, hx, hq, L, hF, hL⟩
    exact ⟨L, mc, ms, hF, rfl, rfl, hL⟩
  · intro m meth c A a g mk v t L k n X hp hq hF ⟨e1, e2, hL⟩
    subst e1; subst e2
    obtain ⟨x, hx, hq, -⟩ := hq
    cases hx
    exact ⟨g, mk, t, L, rfl, rfl, hq, rfl, hL, rfl, rfl⟩
/-- a call that throws: the walk stands at the call, with the throw's note -/
theorem callVT {y : MethodName} {bytes : ByteArray} {maxL nL mc ms n index : Nat} {ret : Option FieldType} {ws Ts : List Cond} {rm : Room} {Pc : Array Value → State → Prop} {Qt : Array Value → State → Addr → State → Prop} {free : Addr → Prop} {own C : String} {b : Addr} {As : List Value} {g : JFrame}
    (F : CallFix p m c cc nL s args Ts own) (hM : MetT l y ws rm Pc Qt mc ms free) (cw : CallW R s args own C index y bytes maxL ret ws rm mc ms n) (hp : PreV s H C b Pc As)
    (hg : g.method = m) (hn : As.length = n) (hsize : g.locals.size = nL) (hstack : g.stack = As.reverse ++ .ref b :: rest) (hW : 2 * g.monitorRoom + (rest.map fun v => v.category).sum ≤ 8) (hdg : decode cc g.pc = .ok (.invokevirtual index, 3)) (hf : cells + mc ≤ R.cells ∧ slots + ms ≤ R.slots)
    {T : State} (hT : T.heap = H) (X : Stand p l e R s m args below meth c T locs cells slots) :
    ∃ (x : Addr) (st₀ t T' : State) (L : List Loc), st₀.heap = H ∧ s.vm.Alike st₀.vm ∧ Stand p l e R s m args below meth c T' (locs ++ L) (cells + mc) (slots + ms) ∧ (∀ q ∈ L, free q.base) ∧ T'.heap = t.heap ∧ Qt (Value.ref b :: As).toArray st₀ x t ∧
      Steps p.tables e below (T.setTop g) ((T'.setTop { g with stack := rest }).pushFrame (.throwing x)) := by
  have hK : Free.BackT l R p e below s args y 3 8 (PreOf R mc ms Pc) (PostT Qt mc ms free) := backT cw.1 hM hp.1
  obtain ⟨⟨-, -, -, -, -, -, hcode, -, hy, hlen, hl⟩, hin, hse⟩ := cw
  obtain ⟨hx, hb, hml, ho, -⟩ := F
  obtain ⟨-, ⟨cellB, hcB, hoB, hclB⟩, hPc⟩ := hp
  obtain ⟨mk, methM, hnamed, hmethM, hstM, habM⟩ := Cond.instanceMethod_spec hin
  obtain ⟨methM', cM, hmethM', -, -, -, -, -, -, hsigM⟩ := Cond.code_spec hnamed hcode
  cases hmethM.symm.trans hmethM'
  obtain ⟨c2, r2, m2, q1, q2, q3, q4, kP, hkP, hkPi⟩ := Cond.selects_spec hse
  cases hclB.symm.trans q1
  cases (State.methodFound?_of_named hnamed hy).symm.trans q2
  cases hnamed.symm.trans q3
  have hselP : selectMethod e.platform s.vm cellB.cls mk = .method mk := by rw [Launch.admits_selectMethod X.admits]; exact q4
  obtain ⟨vm₁, X₁, hstep₁⟩ := X.invokevirtual hx ho hl hnamed hmethM hstM hkP hkPi hy (a := b) (cell := cellB) (by rw [hT]; exact hcB)
    (fun z h => by rw [h] at hoB; cases hoB) hselP hmethM habM hkP hkPi (g := g) hg (argsL := As) (rest := rest) (hn.trans (hlen _ hsigM)) hstack (by rw [hb]; exact hdg)
  obtain ⟨x, ⟨U', l2, c2, s2⟩, X', ⟨g', mk', t, L, e1, e2, hq, h1, hL, h2, h3⟩, hsteps⟩ := hK m meth c ⟨T.setVm vm₁, locs, cells, slots⟩ { g with stack := rest } (.invokevirtual index) mk (Value.ref b :: As).toArray X₁ hg (hsize.trans hml.symm) (by rw [hb]; exact hdg) hW (X₁.named hnamed) ⟨hf.1, hf.2, hPc (T.setVm vm₁) hT X₁.warmed⟩
  dsimp only [Free.Pt.U, Free.Pt.locs, Free.Pt.cells, Free.Pt.slots] at X' e1 e2 h1 h2 h3 hsteps
  subst h1; subst h2; subst h3
  exact ⟨x, (T.setVm vm₁).calling g' mk' (Value.ref b :: As).toArray, t, U', L, hT, X₁.warmed.alike, X', hL, e1, hq, (hstep₁ _ fun acts => by rw [doInvoke_state]; exact Steps.refl _).trans hsteps⟩
/-- what a callee that throws is given -/
theorem sb_pVt {ws wc : va_W} {As : List Value} {b q0 ci : Nat} {q : vw_C} {fs : List Value} (hG : sbG D cI cL cB tS tF A s s.heap) (hT : sbTh A s s.heap) (hP : va_P D vwCl ws H) (hD : va_D A ws) (hS : va_S A s.heap H locs) (hA : ∀ q, s.heap.size ≤ q → A q) (isC : List Nat) (hn : va_nd isC = true) (hC : isC.map (fun i => ws[i]?) = wc.map some)
    (hc : vwCl[ci]? = some q) (he : ws[q0]? = some (b, .inr (ci, fs))) :
    PreV s H q.1 b (sbPt D cI cL cB tS tF (.ref b :: As) H.size wc) As :=
  ⟨fun a U g mk q => ⟨q.1, q.2.1, q.2.2.1, q.2.2.2.1.calling g mk a, q.2.2.2.2.1, q.2.2.2.2.2.calling g mk a⟩, va_recv hG.1 hP hc he,
   fun U hU hW => ⟨rfl, by rw [hU], by rw [hU]; exact hP.sub isC (sb_fm hC), hG.pass hS (va_free hD hS hA isC hC) hU hW, (hD.sub isC hn hC).weaken (fun _ _ _ _ => trivial), hT.pass hS (va_free hD hS hA isC hC) hU hW⟩⟩
/-- a call that throws, caught by an entry behind some that pass it -/
theorem sb_callT {S : Type} {post : S → Prop} {w1 : S → va_W} {ws wc wr : va_W} {cls name own C : String} {y : MethodName} {bytes : ByteArray} {maxL nL mc ms n index : Nat} {ret : Option FieldType} {wds Ts : List Cond} {rm : Room} {Pc : Array Value → State → Prop} {b : Addr} {As : List Value}
    (F : CallFix p m c cc nL s args Ts own) (hM : MetT l y wds rm Pc (sbQt D cls post w1 (va_A wc H.size)) mc ms (va_A wc H.size)) (cw : CallW R s args own C index y bytes maxL ret wds rm mc ms n) (hp : PreV s H C b Pc As)
    (hn : As.length = n) (hsize : ls.size = nL) (hW : 2 * (F0 m pc ls (As.reverse ++ .ref b :: rest)).monitorRoom + (rest.map fun v => v.category).sum ≤ 8) (hdg : decode cc pc = .ok (.invokevirtual index, 3)) (hf : cells + mc ≤ R.cells ∧ slots + ms ≤ R.slots)
    (preE : List ExceptionTableEntry) (xE : ExceptionTableEntry) (restE : List ExceptionTableEntry) (hsplit : c.exceptionTable.toList = preE ++ xE :: restE) (hskip : ∀ y ∈ preE, covers y pc = false ∨ (y.catchType ≠ 0 ∧ ∃ nm : String, (Cond.classLink own y.catchType nm).before args s = true ∧ (Cond.not (.castable cls nm)).before args s = true)) (hx : covers xE pc = true) (h0 : xE.catchType ≠ 0)
    (hlink : (Cond.classLink own xE.catchType name).before args s = true) (hcast : (Cond.castable cls name).before args s = true)
    (hP : va_P D vwCl ws H) (hD : va_D A ws) (hS : va_S A H0 H locs) (hA : ∀ q, H0.size ≤ q → A q) (isC isR : List Nat) (hC : isC.map (fun i => ws[i]?) = wc.map some) (hR : isR.map (fun i => ws[i]?) = wr.map some) (hnd : va_nd isR = true) (hdis : ∀ i ∈ isR, i ∉ isC)
    (kk : ∀ (u : S) (x : Nat) (H1 : Heap) (locs1 : List Loc), post u → va_P D vwCl (wr ++ w1 u) H1 → va_D A (wr ++ w1 u) → va_S A H0 H1 locs1 → W p l e R s m args below meth c H1 locs1 (cells + mc) (slots + ms) Q (F0 m xE.handlerPc ls [.ref x])) :
    W p l e R s m args below meth c H locs cells slots Q (F0 m pc ls (As.reverse ++ .ref b :: rest)) := by
  have hFc := va_free hD hS hA isC hC
  intro T hT X
  obtain ⟨x, st₀, t, T', L, hs0, hal, X', hL, e1, ⟨⟨u, hp1, hP1, hD1⟩, ⟨hz, hk⟩, ce, hce, hv, hcl⟩, st⟩ := callVT F hM cw hp (g := F0 m pc ls (As.reverse ++ .ref b :: rest)) rfl hn hsize rfl hW hdg hf hT X
  rw [hs0] at hz hk
  obtain ⟨c3, cT, hc3, hcT, hasg⟩ := Cond.castable_spec hcast
  have hc' : s.vm.findClass cls = some ce.cls := by rw [← hal.findClass]; exact hcl
  cases hc3.symm.trans hc'
  have hpl : e.platform.magicAccessors = ({} : Platform).magicAccessors := by rw [X'.admits.platform]
  obtain ⟨hend, hk0⟩ := X'.catches_of_link F.2.2.2.1 h0 hlink hcT hasg
  obtain ⟨vm', XV, st2⟩ := X'.caughtThrough x (g := { F0 m pc ls (As.reverse ++ .ref b :: rest) with stack := rest }) rfl (cell := ce) (by rw [e1]; exact hce) (by rw [hv]; rfl) hk0 preE xE restE hsplit
    (fun y hy => (hskip y hy).elim (fun h => Or.inl h) (fun ⟨h1, nm, h2, h3⟩ => RowPassed.of_words hpl F.2.2.2.1 h1 h2 hc' h3)) hx hend
  have hP1' : va_P D vwCl (w1 u) T'.heap := by rw [e1]; exact hP1
  obtain ⟨hP2, hD2⟩ := va_join hP hD isC isR hC hR hnd hdis (by rw [e1]; exact hk) hFc hP1' hD1
  have hS1 : va_S A H0 T'.heap (locs ++ L) := ⟨Nat.le_trans hS.1 (by rw [e1]; exact hz), fun q h1 h2 => by rw [e1, hk q (Nat.lt_of_lt_of_le h1 hS.1) (fun z => h2 (hFc q z))]; exact hS.2.1 q h1 h2, fun q hq => by
    rcases List.mem_append.mp hq with h | h
    · exact hS.2.2 q h
    · exact hFc _ (hL q h)⟩
  obtain ⟨t2, a1, b1⟩ := kk u x T'.heap (locs ++ L) hp1 hP2 hD2 hS1 (T'.setVm vm') rfl XV
  refine ⟨t2, ?_, b1⟩
  rw [X'.pushThrowing_eq] at st
  exact st.trans (st2 _ a1)
end SBT
