/-! throws: what they ask beyond the words, a base at the place of the throw, the row -/
def thS (n d : String) (A : Nat → Prop) (U : State) (H : Heap) : Prop :=
  ∃ (c : ClassId) (k : Class) (i : Nat) (f : Field) (a : Nat) (cell : Cell) (v : Value), U.vm.findClass Bundle.tN = some c ∧ U.fieldFound? Bundle.tN n d = some (c, k, i, f) ∧ f.isStatic = true ∧ k.statics = some a ∧ H[a]? = some cell ∧ cell.vm.isStatics = true ∧ cell.cls = c ∧ f.slot < cell.slots.size ∧ k.staticTypes[f.slot]? = some f.type ∧ cell.slots[f.slot]? = some v ∧ v.isRef = true ∧ ¬ A a
theorem thS.moved {n d : String} {A : Nat → Prop} {u U : State} {H : Heap} (hvm : u.vm.Alike U.vm) (h : thS n d A u H) : thS n d A U H := by
  obtain ⟨c, k, i, f, a, cell, v, h1, h2, h3, h4, h5, h6, h7, h8, h9, h10⟩ := h
  obtain ⟨k', hi', he⟩ := State.fieldFound?_setVm hvm h2
  exact ⟨c, k', i, f, a, cell, v, by rw [hvm.findClass]; exact h1, hi', h3, by rw [he]; exact h4, h5, h6, h7, h8, by rw [he]; exact h9, h10⟩
theorem thS.kept {n d : String} {A : Nat → Prop} {U : State} {H H1 : Heap} (h : thS n d A U H) (hq : ∀ a : Nat, a < H.size → ¬ A a → H1[a]? = H[a]?) : thS n d A U H1 := by
  obtain ⟨c, k, i, f, a, cell, v, h1, h2, h3, h4, h5, h6, h7, h8, h9, h10, h11, h12⟩ := h
  exact ⟨c, k, i, f, a, cell, v, h1, h2, h3, h4, by rw [hq a (Array.getElem?_eq_some_iff.mp h5).1 h12]; exact h5, h6, h7, h8, h9, h10, h11, h12⟩
theorem thS.narrow {n d : String} {A B : Nat → Prop} {U : State} {H : Heap} (h : thS n d A U H) (hAB : ∀ q, B q → A q) : thS n d B U H := by
  obtain ⟨c, k, i, f, a, cell, v, h1, h2, h3, h4, h5, h6, h7, h8, h9, h10, h11, h12⟩ := h
  exact ⟨c, k, i, f, a, cell, v, h1, h2, h3, h4, h5, h6, h7, h8, h9, h10, h11, fun z => h12 (hAB a z)⟩
theorem thS.lays {n d : String} {A : Nat → Prop} {U : State} {args : Array Value} (h : thS n d A U U.heap) : (Cond.laysStatic Bundle.tN n d).before args U = true := by
  obtain ⟨c, k, i, f, a, cell, v, h1, h2, h3, h4, h5, h6, h7, h8, h9, h10, h11, h12⟩ := h
  exact Cond.laysStatic_of h1 h2 h3 h4 h5 h6 h7 h8 h9
theorem thS.ref {n d : String} {A : Nat → Prop} {U : State} {args : Array Value} (h : thS n d A U U.heap) : (Cond.isRef (.static Bundle.tN n d)).before args U = true := by
  obtain ⟨c, k, i, f, a, cell, v, h1, h2, h3, h4, h5, h6, h7, h8, h9, h10, h11, h12⟩ := h
  have e : (Term.static Bundle.tN n d).eval args U none [] U = some v := Term.static_eval h2 h3 h4 h5 h6 h10
  simp only [Cond.before, Cond.holds, Cond.value, e]
  cases v <;> first | rfl | (cases h11)
theorem thS.of {n d : String} {A : Nat → Prop} {s : State} {args : Array Value} (hl : (Cond.laysStatic Bundle.tN n d).before args s = true) (h : (Cond.isRef (.static Bundle.tN n d)).before args s = true) (hA : ∀ a : Nat, a < s.heap.size → ¬ A a) : thS n d A s s.heap := by
  obtain ⟨c, k, i, f, a, cell, hc, hi, hst, ha, hcell, hs, hcls, hlt, hty⟩ := Cond.laysStatic_spec hl
  cases hv : (Term.static Bundle.tN n d).eval args s none [] s with
  | none => simp [Cond.before, Cond.holds, Cond.value, hv] at h
  | some w =>
    obtain ⟨-, a', cell', ha', hcell', -, hslot⟩ := Term.static_spec hi hv
    cases ha.symm.trans ha'
    cases hcell.symm.trans hcell'
    simp only [Cond.before, Cond.holds, Cond.value, hv] at h
    refine ⟨c, k, i, f, a, cell, w, hc, hi, hst, ha, hcell, hs, hcls, hlt, hty, hslot, ?_, hA a (Array.getElem?_eq_some_iff.mp hcell).1⟩
    cases w <;> first | rfl | (simp at h)
/-- the texts of the throws -/
def sbStr : List (Nat × String) := [(67, "the tape has no room for 20 bytes"), (82, "the tape has no such length"), (87, "no such cipher"), (90, "the tape is no key of this cipher"), (97, "the tape has not 12 bytes"), (106, "no cipher is in use"), (133, "the tape does not open"), (138, "the box has no such byte")]
/-- what is no other -/
def sbNc : List (String × String) := [("java/lang/IllegalArgumentException", "java/util/NoSuchElementException"), ("java/lang/UnsupportedOperationException", "java/lang/IllegalStateException")]
def sbTh (A : Nat → Prop) (U : State) (H : Heap) : Prop := thS "UNASSIGNED_STACK" Bundle.steD A U H ∧ thS "SUPPRESSED_SENTINEL" Bundle.listD A U H ∧ (∀ x ∈ sbStr, ∃ q : Nat, vk_R "SealBox" x.1 x.2 q U) ∧ ∀ x ∈ sbNc, (Cond.not (.castable x.1 x.2)).before #[] U = true
theorem sbTh.pass {s : State} {H : Heap} {locs : List Loc} {A B : Nat → Prop} (h : sbTh A s s.heap) (hS : va_S A s.heap H locs) (hAB : ∀ q, B q → A q) {U : State} (hU : U.heap = H) (hW : s.WarmedH U.vm) : sbTh B U U.heap := by
  have hq : ∀ a : Nat, a < s.heap.size → ¬ A a → U.heap[a]? = s.heap[a]? := fun a ha hn => by rw [hU]; exact hS.2.1 a ha hn
  exact ⟨((h.1.moved hW.alike).kept hq).narrow hAB, ((h.2.1.moved hW.alike).kept hq).narrow hAB, fun x hx => by
    obtain ⟨q, hq⟩ := h.2.2.1 x hx
    exact ⟨q, vk_R.warm hW hq⟩, fun x hx => Cond.notCastable_moved (T := U) hW.alike (h.2.2.2 x hx)⟩
theorem sbTh.calling {A : Nat → Prop} {U : State} (h : sbTh A U U.heap) (g : JFrame) (mk : MethodId) (a : Array Value) : sbTh A (U.calling g mk a) (U.calling g mk a).heap := by
  have q : U.vm.Alike (U.calling g mk a).vm := Vm.Alike.refl U.vm
  exact ⟨h.1.moved q, h.2.1.moved q, fun x hx => by
    obtain ⟨q, hq⟩ := h.2.2.1 x hx
    exact ⟨q, vk_R.same (u := U) rfl hq⟩, fun x hx => Cond.notCastable_moved (T := U.calling g mk a) q (h.2.2.2 x hx)⟩
/-- one atom of a throw -/
def thW (a : Cond) (i : Nat) : Bool := match a with
  | .isRef (.static C n d) => decide (C = Bundle.tN) && ((decide (n = "UNASSIGNED_STACK") && decide (d = Bundle.steD)) || (decide (n = "SUPPRESSED_SENTINEL") && decide (d = Bundle.listD)))
  | .laysStatic C n d => decide (C = Bundle.tN) && ((decide (n = "UNASSIGNED_STACK") && decide (d = Bundle.steD)) || (decide (n = "SUPPRESSED_SENTINEL") && decide (d = Bundle.listD)))
  | a => decide (lw_tbl[i]? = some a) && ((goodWord a && a.onTables) || sbOk a)
theorem thW_before {args : Array Value} {s s' : State} {A : Nat → Prop} (hvm : s.vm = s'.vm) (hts : ∀ w ∈ sbW, w.before args s = true) (hN : ∀ w ∈ sbN, va_Nw w s) (hT : sbTh A s' s'.heap) {a : Cond} {i : Nat} (h : thW a i = true) : a.before args s' = true := by
  have main : (decide (lw_tbl[i]? = some a) && ((goodWord a && a.onTables) || sbOk a)) = true → a.before args s' = true := by
    intro h
    simp only [Bool.and_eq_true, Bool.or_eq_true, decide_eq_true_eq] at h
    obtain ⟨hi, ⟨hg, ho⟩ | hk⟩ := h
    · exact va_tabs ho hvm (hts a (sb_mem i hi hg))
    · exact va_tabs (sbOk_tab hk) hvm (hN a (sb_memN i hi hk))
  unfold thW at h
  split at h
  · rename_i C n d
    simp only [Bool.and_eq_true, Bool.or_eq_true, decide_eq_true_eq] at h
    obtain ⟨rfl, ⟨rfl, rfl⟩ | ⟨rfl, rfl⟩⟩ := h
    · exact hT.1.ref
    · exact hT.2.1.ref
  · rename_i C n d
    simp only [Bool.and_eq_true, Bool.or_eq_true, decide_eq_true_eq] at h
    obtain ⟨rfl, ⟨rfl, rfl⟩ | ⟨rfl, rfl⟩⟩ := h
    · exact hT.1.lays
    · exact hT.2.1.lays
  · exact main h
def thAll : List Cond → List Nat → Bool
  | [], _ => true
  | a :: l, i :: is => thW a i && thAll l is
  | _ :: _, [] => false
theorem thAll_before {args : Array Value} {s s' : State} {A : Nat → Prop} (hvm : s.vm = s'.vm) (hts : ∀ w ∈ sbW, w.before args s = true) (hN : ∀ w ∈ sbN, va_Nw w s) (hT : sbTh A s' s'.heap) : ∀ (l : List Cond) (is : List Nat), thAll l is = true → ∀ a ∈ l, a.before args s' = true
  | [], _, _, a, ha => by cases ha
  | x :: l, i :: is, h, a, ha => by
    simp only [thAll, Bool.and_eq_true] at h
    rcases List.mem_cons.mp ha with rfl | ha
    · exact thW_before hvm hts hN hT h.1
    · exact thAll_before hvm hts hN hT l is h.2 a ha
  | _ :: _, [], h, _, _ => by cases h
section THR
variable {p : Program} {l : Launch} {e : Env} {R : Room} {s : State} {m : MethodId} {args : Array Value} {below : List Frame} {meth : Method} {c : Code} {T : State} {H : Heap} {locs : List Loc} {cells slots : Nat}
/-- the walk, with the place where it stands for its base -/
theorem st_rebase (X : Stand p l e R s m args below meth c T locs cells slots) (h1 : cells ≤ R.cells) (h2 : slots ≤ R.slots) :
    Stand p l e { R with cells := R.cells - cells, slots := R.slots - slots } ({ s with heap := T.heap, slotsUsed := T.slotsUsed } : State) m args below meth c T [] 0 0 := by
  obtain ⟨e1, e2, e3, e4, e5, e6⟩ := X.same
  have hsz : T.heap.size ≤ s.heap.size + cells := e3
  have hu : T.slotsUsed ≤ s.slotsUsed + slots := X.used
  have hr := X.room
  have hb := X.book
  have hd : T.heap.toList.drop T.heap.size = [] := List.drop_of_length_le (by rw [Array.length_toList]; exact Nat.le_refl _)
  refine ⟨X.admits, X.cas, X.clock, X.frames, ?_, X.hears, X.method, X.code, X.here, X.tail, X.warmed, X.limits, X.bytes, ?_⟩
  · simp only [State.hasRoom, Bool.and_eq_true, decide_eq_true_eq] at hr ⊢
    obtain ⟨⟨⟨⟨r1, r2⟩, r3⟩, r4⟩, r5⟩ := hr
    refine ⟨⟨⟨⟨r1, r2⟩, ?_⟩, ?_⟩, hb⟩
    · show T.heap.size + (R.cells - cells) ≤ _
      omega
    · show T.slotsUsed + (R.slots - slots) ≤ _
      omega
  · refine ⟨e1, Nat.le_refl _, Nat.le_refl _, ?_, ?_, fun a c h => ⟨c, h, rfl, rfl, fun _ _ => rfl⟩⟩
    · show T.slotsUsed = T.slotsUsed + ((T.heap.toList.drop T.heap.size).map (·.slots.size)).sum
      rw [hd]
      rfl
    · show ((T.heap.toList.drop T.heap.size).map (·.slots.size)).sum ≤ 0
      rw [hd]
      exact Nat.le_refl _
theorem same_back {U : State} (X : Stand p l e R s m args below meth c T locs cells slots) {k n : Nat} (r : ({ s with heap := T.heap, slotsUsed := T.slotsUsed } : State).sameButNew ({ U with vm := s.vm } : State) [] k n) :
    s.sameButNew ({ U with vm := s.vm } : State) locs (cells + k) (slots + n) := by
  have e1 := X.same.1
  have r' : (T.setVm s.vm).sameButNew ({ U with vm := s.vm } : State) [] k n := by
    refine ⟨?_, r.2⟩
    refine r.1.trans ?_
    rw [e1]
    show _ = ({ ({ s.setFrames (T.setVm s.vm).frames with heap := T.heap, slotsUsed := T.slotsUsed } : State).setFrames U.frames with heap := U.heap, slotsUsed := U.slotsUsed } : State)
    show ({ ({ s with heap := T.heap, slotsUsed := T.slotsUsed } : State).setFrames U.frames with heap := U.heap, slotsUsed := U.slotsUsed } : State) = ({ (s.setFrames (T.setVm s.vm).frames).setFrames U.frames with heap := U.heap, slotsUsed := U.slotsUsed } : State)
    rw [State.setFrames_setFrames]
    rfl
  have q := X.same.trans r'
  rw [List.append_nil] at q
  exact q
def MQT (below : List Frame) (Qt : Array Value → State → Addr → State → Prop) (a : Array Value) (s : State) (mc ms : Nat) (free : Addr → Prop) : State → Prop := fun t =>
  ∃ x, t.status = .running ∧ Ended t below (.threw x) ∧ Qt a s x t ∧ ∃ L, Free.FrameEndT s (.threw x) t L mc ms ∧ ∀ q ∈ L, free q.base
/-- new, dup, a text, the constructor, athrow, at the base -/
theorem sb_throw0 {cc : ByteArray} {pc nL : Nat} {ls : Array Slot} (hexec : p.tables.exec = Jvm.exec) (hb : c.code = cc) (htr : e.platform.stackTraces = false) (hown : s.vm.findClass "SealBox" = some m.cls)
    {cls : String} {names : List String} {ic iN iS : Nat} {tx : String} (hcls : Bundle.fit cls = true) (hnames : ∀ n ∈ names, Bundle.fit n = true) (hat : ∀ a ∈ Bundle.ownAtoms "SealBox" ic cls names, a.before args s = true)
    (hcl : (Cond.classLink "SealBox" iN cls).before args s = true) (hins : (Cond.instantiable cls 6).before args s = true) (hini : (Cond.initialized cls).before args s = true) {q0 : Nat} (hq0 : vk_R "SealBox" iS tx q0 s) (hex : c.exceptionTable.toList = []) (hlocks : meth.locks = false) (hml : c.maxLocals = nL) (hls : ls.size = nL)
    (d0 : decode cc pc = .ok (.new iN, 3)) (d3 : decode cc (pc + 3) = .ok (.dup, 1)) (d4 : decode cc (pc + 4) = .ok (.ldc iS, 2)) (d6 : decode cc (pc + 6) = .ok (.invokespecial ic, 3)) (d9 : decode cc (pc + 9) = .ok (.athrow, 1))
    (hf1 : 1 ≤ R.cells) (hf2 : 6 ≤ R.slots) (hR1 : names.length + 3 < R.frames) (hR2 : 13 * (names.length + 1) + 44 ≤ R.locals) (hH : s.heap.size ≤ H.size) :
    W p l e R s m args below meth c H [] 0 0 (fun t => t.status = .running ∧ Ended t below (.threw H.size) ∧ s.WarmedH t.vm ∧ s.sameButNew ({ t with vm := s.vm } : State) [] 1 6 ∧ ∃ ce, t.heap[H.size]? = some ce ∧ ce.vm = .none ∧ s.vm.findClass cls = some ce.cls) (F0 m pc ls []) := by
  refine W.newc hexec hb (own := "SealBox") (C := cls) (index := iN) (n := 6) hown hcl hins hini rfl d0 (by omega) (by omega) (fun cC kC h1 h2 h3 h4 => ?_)
  refine W.eq (g2 := F0 m (pc + 3) ls [.ref H.size]) rfl ?_
  refine lv_dup hexec hb d3 rfl ?_
  refine va_ldcS hexec hb hown hq0 d4 ?_
  intro T2 hT2 X2
  have hcell : T2.heap[H.size]? = some (freshCell cC kC) := by rw [hT2]; simp
  obtain ⟨U, st, hrun, hend, hW, hsame, ce, hce, hoc⟩ := X2.ctorThrowS hexec htr (own := "SealBox") (ic := ic) hown hcls hnames hat (fun x hx => by cases hx) (a := H.size) h1 h2
    hcell hH (msg := .ref q0) rfl (g := F0 m (pc + 6) ls [.ref q0, .ref H.size, .ref H.size]) rfl (hls.trans hml.symm) rfl rfl (rest := []) rfl (by rw [hb]; exact d6) (by rw [hb]; exact d9)
    (by rw [hex]; intro x hx; cases hx) hR1 (by show 2 * 0 + 1 + (13 * (names.length + 1) + 42) ≤ R.locals; omega) hlocks
  exact ⟨U, st, hrun, hend, hW, hsame, ce, hce, hoc.vm, hoc.cls⟩
/-- a base anew: its tables are the old one's -/
theorem tabs_at {s' : State} (hvm : s.vm = s'.vm) (hts : ∀ w ∈ sbW, w.before args s = true) {w : Cond} (hw : w ∈ sbW) (ho : w.onTables = true) : w.before args s' = true := va_tabs ho hvm (hts w hw)
/-- .. anywhere -/
theorem sb_throw {Qt : Array Value → State → Addr → State → Prop} {free : Addr → Prop} {A : Nat → Prop} {cc : ByteArray} {pc nL : Nat} {ls : Array Slot} (hexec : p.tables.exec = Jvm.exec) (hb : c.code = cc) (htr : e.platform.stackTraces = false)
    (hts : ∀ w ∈ sbW, w.before args s = true) (hN : ∀ w ∈ sbN, va_Nw w s) (hT : sbTh A s s.heap) (hS : va_S A s.heap H locs) (hown : s.vm.findClass "SealBox" = some m.cls)
    {cls : String} {names : List String} {ic iN iS : Nat} {tx : String} (hcls : Bundle.fit cls = true) (hnames : ∀ n ∈ names, Bundle.fit n = true) (is : List Nat) (hat : thAll (Bundle.ownAtoms "SealBox" ic cls names) is = true)
    (hcl : Cond.classLink "SealBox" iN cls ∈ sbW) (hins : Cond.instantiable cls 6 ∈ sbW) (hini : Cond.initialized cls ∈ sbW) (hstr : (iS, tx) ∈ sbStr) (hex : c.exceptionTable.toList = []) (hlocks : meth.locks = false) (hml : c.maxLocals = nL) (hls : ls.size = nL)
    (d0 : decode cc pc = .ok (.new iN, 3)) (d3 : decode cc (pc + 3) = .ok (.dup, 1)) (d4 : decode cc (pc + 4) = .ok (.ldc iS, 2)) (d6 : decode cc (pc + 6) = .ok (.invokespecial ic, 3)) (d9 : decode cc (pc + 9) = .ok (.athrow, 1))
    (hf1 : cells + 1 ≤ R.cells) (hf2 : slots + 6 ≤ R.slots) (hR1 : names.length + 3 < R.frames) (hR2 : 13 * (names.length + 1) + 44 ≤ R.locals) (hfree : ∀ q ∈ locs, free q.base)
    (hq : ∀ (t : State) (ce : Cell), s.WarmedH t.vm → (∀ q, q < H.size → t.heap[q]? = H[q]?) → H.size ≤ t.heap.size → t.heap[H.size]? = some ce → ce.vm = .none → s.vm.findClass cls = some ce.cls → Qt args s H.size t) :
    W p l e R s m args below meth c H locs cells slots (MQT below Qt args s (cells + 1) (slots + 6) free) (F0 m pc ls []) := by
  intro T hTH X
  have X' := st_rebase X (by omega) (by omega)
  have back := fun (U : State) => same_back (U := U) (k := 1) (n := 6) X
  have hT' : sbTh A ({ s with heap := T.heap, slotsUsed := T.slotsUsed } : State) T.heap := hT.pass (U := ({ s with heap := T.heap, slotsUsed := T.slotsUsed } : State)) hS (fun _ h => h) hTH (State.WarmedH.refl s)
  have hvm : s.vm = ({ s with heap := T.heap, slotsUsed := T.slotsUsed } : State).vm := rfl
  have hwm : ∀ vm', ({ s with heap := T.heap, slotsUsed := T.slotsUsed } : State).WarmedH vm' → s.WarmedH vm' := fun _ h => h
  have hhp : ({ s with heap := T.heap, slotsUsed := T.slotsUsed } : State).heap = H := hTH
  generalize ({ s with heap := T.heap, slotsUsed := T.slotsUsed } : State) = s' at X' back hT' hvm hwm hhp
  rw [hTH, ← hhp] at hT'
  obtain ⟨q0, hq0⟩ := hT'.2.2.1 _ hstr
  obtain ⟨t, st, hrun, hend, hW, hsame, ce, hce, hv, hc⟩ := sb_throw0 (R := { R with cells := R.cells - cells, slots := R.slots - slots }) (s := s') (H := H) (below := below) (l := l) (e := e) hexec hb htr (by rw [← hvm]; exact hown) hcls hnames (thAll_before hvm hts hN hT' _ is hat) (tabs_at hvm hts hcl rfl) (tabs_at hvm hts hins rfl) (tabs_at hvm hts hini rfl) hq0 hex hlocks hml hls d0 d3 d4 d6 d9
    (by show 1 ≤ R.cells - cells; omega) (by show 6 ≤ R.slots - slots; omega) hR1 hR2 (by rw [hhp]; exact Nat.le_refl _) T hTH X'
  rw [← hvm] at hsame hc
  refine ⟨t, st, H.size, hrun, hend, ?_, locs, ⟨⟨_, rfl⟩, hwm _ hW, back t hsame⟩, hfree⟩
  refine hq t ce (hwm _ hW) (fun q hq => ?_) ?_ hce hv hc
  · have hq' : q < s'.heap.size := by rw [hhp]; exact hq
    obtain ⟨c', h1, h2, h3, h4⟩ := hsame.2.2.2.2.2 q s'.heap[q] (Array.getElem?_eq_getElem hq')
    have e : c' = s'.heap[q] := by
      rw [h2]
      have : c'.slots = s'.heap[q].slots := Array.ext_getElem? (fun i => h4 i (by simp))
      rw [this]
    have h1' : t.heap[q]? = some c' := h1
    rw [h1', e, ← hhp]
    exact (Array.getElem?_eq_getElem hq').symm
  · have := hsame.2.1
    rw [← hhp]
    exact this
end THR
