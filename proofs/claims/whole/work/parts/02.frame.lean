/-! numbers -/
def uS (x y : Int32) : Int32 := (x.toUInt32 >>> (y.toUInt32 &&& Int32.toUInt32 31)).toInt32
def uL (x : Int64) (y : Int32) : Int64 := (x.toUInt64 >>> (y.toInt64.toUInt64 &&& Int64.toUInt64 63)).toInt64
def sL (x : Int64) (y : Int32) : Int64 := x <<< (y.toInt64 &&& 63)
theorem sb_add {x y : Int32} {a b : Nat} (hx : x = nI a) (hy : y = nI b) : x + y = nI (a + b) := by rw [hx, hy]; exact nI_add a b
theorem sb_mul {x y : Int32} {a b : Nat} (hx : x = nI a) (hy : y = nI b) : x * y = nI (a * b) := by rw [hx, hy]; exact pk_mul a b
theorem sb_sub {x y : Int32} {a b : Nat} (h : b ≤ a) (hx : x = nI a) (hy : y = nI b) : x - y = nI (a - b) := by rw [hx, hy]; exact pk_sub h
theorem sb_div {x y : Int32} {a b : Nat} (ha : a < 2 ^ 31) (h0 : 0 < b) (hb : b < 2 ^ 31) (hx : x = nI a) (hy : y = nI b) : x / y = nI (a / b) := by rw [hx, hy]; exact pk_div ha h0 hb
theorem sb_rem {x y : Int32} {a b : Nat} (ha : a < 2 ^ 31) (h0 : 0 < b) (hb : b < 2 ^ 31) (hx : x = nI a) (hy : y = nI b) : x - x / y * y = nI (a % b) := by rw [hx, hy]; exact pk_rem ha h0 hb
theorem sb_eqn {x : Int32} {a b : Nat} (h : x = nI a) (hab : a = b) : x = nI b := by rw [h, hab]
theorem sb_inc {x c : Int32} {a b d : Nat} (h : x = nI a) (hc : c = nI d) (hab : a + d = b) : x + c = nI b := by rw [h, hc, nI_add, hab]
section SBN
variable {x y : Int32} {a b : Nat}
theorem sb_eqT (hx : x = nI a) (hy : y = nI b) (h : a = b) (_ : a < 2 ^ 31) (_ : b < 2 ^ 31) : x = y := by rw [hx, hy, h]
theorem sb_eqF (hx : x = nI a) (hy : y = nI b) (h : a ≠ b) (ha : a < 2 ^ 31) (hb : b < 2 ^ 31) : ¬ x = y := by rw [hx, hy, nI_eq ha hb]; exact h
theorem sb_neF (hx : x = nI a) (hy : y = nI b) (h : a = b) (_ : a < 2 ^ 31) (_ : b < 2 ^ 31) : x = y := by rw [hx, hy, h]
theorem sb_neT (hx : x = nI a) (hy : y = nI b) (h : a ≠ b) (ha : a < 2 ^ 31) (hb : b < 2 ^ 31) : ¬ x = y := by rw [hx, hy, nI_eq ha hb]; exact h
theorem sb_ltT (hx : x = nI a) (hy : y = nI b) (h : a < b) (ha : a < 2 ^ 31) (hb : b < 2 ^ 31) : x < y := by rw [hx, hy, nI_ltI ha hb]; exact h
theorem sb_ltF (hx : x = nI a) (hy : y = nI b) (h : b ≤ a) (ha : a < 2 ^ 31) (hb : b < 2 ^ 31) : ¬ x < y := by rw [hx, hy, nI_ltI ha hb]; omega
theorem sb_gtT (hx : x = nI a) (hy : y = nI b) (h : b < a) (ha : a < 2 ^ 31) (hb : b < 2 ^ 31) : y < x := by rw [hx, hy, nI_ltI hb ha]; exact h
theorem sb_gtF (hx : x = nI a) (hy : y = nI b) (h : a ≤ b) (ha : a < 2 ^ 31) (hb : b < 2 ^ 31) : ¬ y < x := by rw [hx, hy, nI_ltI hb ha]; omega
theorem sb_geT (hx : x = nI a) (hy : y = nI b) (h : b ≤ a) (ha : a < 2 ^ 31) (hb : b < 2 ^ 31) : y ≤ x := by rw [hx, hy, nI_leI hb ha]; exact h
theorem sb_geF (hx : x = nI a) (hy : y = nI b) (h : a < b) (ha : a < 2 ^ 31) (hb : b < 2 ^ 31) : ¬ y ≤ x := by rw [hx, hy, nI_leI hb ha]; omega
theorem sb_leT (hx : x = nI a) (hy : y = nI b) (h : a ≤ b) (ha : a < 2 ^ 31) (hb : b < 2 ^ 31) : x ≤ y := by rw [hx, hy, nI_leI ha hb]; exact h
theorem sb_leF (hx : x = nI a) (hy : y = nI b) (h : b < a) (ha : a < 2 ^ 31) (hb : b < 2 ^ 31) : ¬ x ≤ y := by rw [hx, hy, nI_leI ha hb]; omega
end SBN
/-- a loop's state behind i turns -/
def iter {α : Type} (step : Nat → α → α) : Nat → α → α
  | 0, a => a
  | i + 1, a => step i (iter step i a)
theorem sb_dflt (ty : Nat → FieldType) (fs : List Value) {N : Nat} (h : (List.range N).all (fun j => decide (defaultValue (ty j) = vp_V fs j)) = true) : ∀ j, j < N → defaultValue (ty j) = vp_V fs j := fun j hj => of_decide_eq_true (List.all_eq_true.mp h j (List.mem_range.mpr hj))
/-! THE FRAME OF ALL CONTRACTS: one kind of start, one kind of end, calls with the frame rule in one row.
sbG: what every method is told of the tables (classes, array classes, private members of nest mates, the two static tables). -/
theorem sbOk_tab {w : Cond} (h : sbOk w = true) : w.onTables = true := by
  cases w <;> first | rfl | cases h
theorem sbOk_warm {w : Cond} (h : sbOk w = true) {s U : State} (hW : s.WarmedH U.vm) (hZ : va_Nw w s) : va_Nw w U := by
  cases w <;> first | (cases h; done) | exact va_Nw.warmF hW hZ | exact va_Nw.warmM hW hZ | exact va_Nw.warmD hW hZ | exact va_Nw.warmC hW hZ | exact va_tabs rfl (rfl : (s.setVm U.vm).vm = U.vm) (by rw [Cond.privateMethod_setVm hW.alike]; exact hZ)
def sbSl : List Int32 := [99, 124, 119, 123, 242, 107, 111, 197, 48, 1, 103, 43, 254, 215, 171, 118, 202, 130, 201, 125, 250, 89, 71, 240, 173, 212, 162, 175, 156, 164, 114, 192, 183, 253, 147, 38, 54, 63, 247, 204, 52, 165, 229, 241, 113, 216, 49, 21, 4, 199, 35, 195, 24, 150, 5, 154, 7, 18, 128, 226, 235, 39, 178, 117, 9, 131, 44, 26, 27, 110, 90, 160, 82, 59, 214, 179, 41, 227, 47, 132, 83, 209, 0, 237, 32, 252, 177, 91, 106, 203, 190, 57, 74, 76, 88, 207, 208, 239, 170, 251, 67, 77, 51, 133, 69, 249, 2, 127, 80, 60, 159, 168, 81, 163, 64, 143, 146, 157, 56, 245, 188, 182, 218, 33, 16, 255, 243, 210, 205, 12, 19, 236, 95, 151, 68, 23, 196, 167, 126, 61, 100, 93, 25, 115, 96, 129, 79, 220, 34, 42, 144, 136, 70, 238, 184, 20, 222, 94, 11, 219, 224, 50, 58, 10, 73, 6, 36, 92, 194, 211, 172, 98, 145, 149, 228, 121, 231, 200, 55, 109, 141, 213, 78, 169, 108, 86, 244, 234, 101, 122, 174, 8, 186, 120, 37, 46, 28, 166, 180, 198, 232, 221, 116, 31, 75, 189, 139, 138, 112, 62, 181, 102, 72, 3, 246, 14, 97, 53, 87, 185, 134, 193, 29, 158, 225, 248, 152, 17, 105, 217, 142, 148, 155, 30, 135, 233, 206, 85, 40, 223, 140, 161, 137, 13, 191, 230, 66, 104, 65, 153, 45, 15, 176, 84, 187, 22]
def sbS (j : Nat) : Int32 := sbSl.getD j 0
def sbFl : List Int32 := [0, 7200, 14400, 9312, 28800, 27808, 18624, 21728, 57600, 64800, 55616, 50528, 37248, 36256, 43456, 46560]
def sbF (j : Nat) : Int32 := sbFl.getD j 0
def sbG (D : va_G) (cI cL cB : ClassId) (tS tF : Nat) (A : Nat → Prop) (U : State) (H : Heap) : Prop :=
  va_K D vwCl [(cI, .int), (cL, .long), (cB, .byte)] U ∧ (∀ w ∈ sbN, va_Nw w U) ∧
  va_Z "SealBox" "S_BOX" "[I" (.ref tS) A U H ∧ va_T .int tS 256 (fun j => .int (sbS j)) A U H ∧ va_Z "SealBox" "FOLD" "[I" (.ref tF) A U H ∧ va_T .int tF 16 (fun j => .int (sbF j)) A U H
theorem sb_fm {α β : Type} {f : α → Option β} : ∀ {l : List α} {w : List β}, l.map f = w.map some → l.filterMap f = w
  | [], [], _ => rfl
  | [], _ :: _, h => by cases h
  | _ :: _, [], h => by cases h
  | a :: l, b :: w, h => by
    simp only [List.map_cons, List.cons.injEq] at h
    rw [List.filterMap_cons, h.1, sb_fm h.2]
section SBF
variable {p : Program} {l : Launch} {e : Env} {R : Room} {s : State} {m : MethodId} {args : Array Value} {below : List Frame} {meth : Method} {c : Code} {H H0 : Heap} {locs : List Loc} {cells slots : Nat} {Q : State → Prop}
variable {D : va_G} {cI cL cB : ClassId} {tS tF : Nat} {A B : Nat → Prop} {cc : ByteArray} {pc : Nat} {ls : Array Slot} {rest : List Value}
theorem sbG.pass (hG : sbG D cI cL cB tS tF A s s.heap) (hS : va_S A s.heap H locs) (hAB : ∀ q, B q → A q) {U : State} (hU : U.heap = H) (hW : s.WarmedH U.vm) : sbG D cI cL cB tS tF B U U.heap := by
  obtain ⟨h1, h2, h3, h4, h5, h6⟩ := hG
  have hq : ∀ a : Nat, a < s.heap.size → ¬ A a → U.heap[a]? = s.heap[a]? := fun a ha hn => by rw [hU]; exact hS.2.1 a ha hn
  exact ⟨va_K.moved hW.alike h1, fun w hw => sbOk_warm (List.all_eq_true.mp sbN_ok w hw) hW (h2 w hw), ((h3.moved hW.alike).kept hq).narrow hAB, ((h4.moved hW.alike).kept hq).narrow hAB, ((h5.moved hW.alike).kept hq).narrow hAB, ((h6.moved hW.alike).kept hq).narrow hAB⟩
theorem sbG.calling {U : State} (h : sbG D cI cL cB tS tF A U U.heap) (g : JFrame) (mk : MethodId) (a : Array Value) : sbG D cI cL cB tS tF A (U.calling g mk a) (U.calling g mk a).heap := by
  obtain ⟨h1, h2, h3, h4, h5, h6⟩ := h
  have q : U.vm.Alike (U.calling g mk a).vm := Vm.Alike.refl U.vm
  exact ⟨va_K.moved q h1, fun w hw => va_Nw.same (u := U) (U := U.calling g mk a) (sbOk_tab (List.all_eq_true.mp sbN_ok w hw)) rfl (h2 w hw), h3.moved q, h4.moved q, h5.moved q, h6.moved q⟩
/-- a method's start: its cells, and nothing else, may be written -/
abbrev sbPc (D : va_G) (cI cL cB : ClassId) (tS tF : Nat) (av : List Value) (sz : Nat) (w0 : va_W) : Array Value → State → Prop :=
  va_Pc av (fun U => U.heap.size = sz ∧ va_P D vwCl w0 U.heap ∧ sbG D cI cL cB tS tF (va_A w0 sz) U U.heap ∧ va_D (fun _ => True) w0)
/-- the start of one that only reads -/
abbrev sbPr (D : va_G) (cI cL cB : ClassId) (tS tF : Nat) (av : List Value) (w0 : va_W) : Array Value → State → Prop :=
  va_Pc av (fun U => va_P D vwCl w0 U.heap ∧ sbG D cI cL cB tS tF (fun _ => False) U U.heap)
abbrev sbB {S : Type} (D : va_G) (w1 : S → va_W) (A : Nat → Prop) : S → State → Prop := fun u t => va_P D vwCl (w1 u) t.heap ∧ va_D A (w1 u)
abbrev sbQv {S : Type} (D : va_G) (post : S → Prop) (w1 : S → va_W) (A : Nat → Prop) := va_Qv post (sbB D w1 A) A
abbrev sbQi {S : Type} (D : va_G) (post : Int32 → S → Prop) (w1 : S → va_W) (A : Nat → Prop) := va_Qi post (sbB D w1 A) A
abbrev sbQl {S : Type} (D : va_G) (post : Int64 → S → Prop) (w1 : S → va_W) (A : Nat → Prop) := va_Ql post (sbB D w1 A) A
theorem sb_ofW {y : MethodName} {rm : Room} {mc ms maxL sz : Nat} {ret : Option FieldType} {av : List Value} {w0 : va_W} {Qc : (Nat → Prop) → Array Value → State → Outcome → State → Prop}
    (hy : plainName y.cls = true) (hlen : (lg_sl av).length ≤ maxL)
    (body : ∀ (p : Program) (e : Env) (s : State) (m : MethodId) (args : Array Value) (below : List Frame) (meth : Method) (c : Code) (A : Nat → Prop) (ls : Array Slot),
      p.tables.exec = Jvm.exec → c.code = cc → meth.sig.returnType = ret → c.maxLocals = maxL → (∀ w ∈ sbW, w.before args s = true) → s.vm.findClass y.cls = some m.cls → meth.locks = false → meth.name = y.name → s.heap.size = sz →
      va_P D vwCl w0 s.heap → sbG D cI cL cB tS tF A s s.heap → va_D A w0 → (∀ q, s.heap.size ≤ q → A q) → va_S A s.heap s.heap [] → lv_has ls maxL (lv_args 0 av) →
      W p l e rm s m args below meth c s.heap [] 0 0 (MQ below (Qc A) args s mc ms A) (F0 m 0 ls [])) :
    Met l y (sbw y cc maxL ret) rm (sbPc D cI cL cB tS tF av sz w0) (Qc (va_A w0 sz)) mc ms (va_A w0 sz) := by
  refine Met.ofW (cc := cc) (maxL := maxL) (ret := ret) hy rfl ?_
  intro p e s m args below meth c s₁ B hml hv
  obtain ⟨rfl, hsz, hP, hG, hD0⟩ := hv
  have hl := lv_entry av (n := maxL) hlen
  rw [lg_entry_eq]
  exact body p e s m _ below meth c (va_A w0 sz) _ B.exec B.bytes B.returns hml (fun w hw => atoms_spec (ws := sbw y cc maxL ret) B.pre w (List.mem_cons_of_mem _ hw)) (findClass_of_methodNamed B.named) B.notSynchronized (name_of_methodNamed B.named B.method).1 hsz hP hG hD0.self (fun q h => Or.inr (by rw [← hsz]; exact h)) va_S.rf hl
theorem sb_ofR {y : MethodName} {rm : Room} {maxL : Nat} {ret : Option FieldType} {av : List Value} {w0 : va_W} {Qc : Array Value → State → Outcome → State → Prop}
    (hy : plainName y.cls = true) (hlen : (lg_sl av).length ≤ maxL)
    (body : ∀ (p : Program) (e : Env) (s : State) (m : MethodId) (args : Array Value) (below : List Frame) (meth : Method) (c : Code) (ls : Array Slot),
      p.tables.exec = Jvm.exec → c.code = cc → meth.sig.returnType = ret → c.maxLocals = maxL → (∀ w ∈ sbW, w.before args s = true) → s.vm.findClass y.cls = some m.cls → meth.locks = false →
      va_P D vwCl w0 s.heap → sbG D cI cL cB tS tF (fun _ => False) s s.heap → va_S (fun _ => False) s.heap s.heap [] → lv_has ls maxL (lv_args 0 av) →
      W p l e rm s m args below meth c s.heap [] 0 0 (MQ below Qc args s 0 0 (fun _ => False)) (F0 m 0 ls [])) :
    Met l y (sbw y cc maxL ret) rm (sbPr D cI cL cB tS tF av w0) Qc 0 0 (fun _ => False) := by
  refine Met.ofW (cc := cc) (maxL := maxL) (ret := ret) hy rfl ?_
  intro p e s m args below meth c s₁ B hml hv
  obtain ⟨rfl, hP, hG⟩ := hv
  have hl := lv_entry av (n := maxL) hlen
  rw [lg_entry_eq]
  exact body p e s m _ below meth c _ B.exec B.bytes B.returns hml (fun w hw => atoms_spec (ws := sbw y cc maxL ret) B.pre w (List.mem_cons_of_mem _ hw)) (findClass_of_methodNamed B.named) B.notSynchronized hP hG va_S.rf hl
/-- what a callee is given -/
theorem sb_pS {ws wc : va_W} {As : List Value} (hG : sbG D cI cL cB tS tF A s s.heap) (hP : va_P D vwCl ws H) (hD : va_D A ws) (hS : va_S A s.heap H locs) (hA : ∀ q, s.heap.size ≤ q → A q) (isC : List Nat) (hn : va_nd isC = true) (hC : isC.map (fun i => ws[i]?) = wc.map some) :
    PreS s H (sbPc D cI cL cB tS tF As H.size wc) As :=
  ⟨fun a U g mk q => ⟨q.1, q.2.1, q.2.2.1, q.2.2.2.1.calling g mk a, q.2.2.2.2⟩,
   fun U hU hW => ⟨rfl, by rw [hU], by rw [hU]; exact hP.sub isC (sb_fm hC), hG.pass hS (va_free hD hS hA isC hC) hU hW, (hD.sub isC hn hC).weaken (fun _ _ _ _ => trivial)⟩⟩
theorem sb_pV {ws wc : va_W} {As : List Value} {b q0 ci : Nat} {q : vw_C} {fs : List Value} (hG : sbG D cI cL cB tS tF A s s.heap) (hP : va_P D vwCl ws H) (hD : va_D A ws) (hS : va_S A s.heap H locs) (hA : ∀ q, s.heap.size ≤ q → A q) (isC : List Nat) (hn : va_nd isC = true) (hC : isC.map (fun i => ws[i]?) = wc.map some)
    (hc : vwCl[ci]? = some q) (he : ws[q0]? = some (b, .inr (ci, fs))) :
    PreV s H q.1 b (sbPc D cI cL cB tS tF (.ref b :: As) H.size wc) As :=
  ⟨(sb_pS (As := .ref b :: As) hG hP hD hS hA isC hn hC).1, va_recv hG.1 hP hc he, (sb_pS (As := .ref b :: As) hG hP hD hS hA isC hn hC).2⟩
/-- .. one that only reads -/
theorem sb_rS {ws wc : va_W} {As : List Value} (hG : sbG D cI cL cB tS tF A s s.heap) (hP : va_P D vwCl ws H) (hS : va_S A s.heap H locs) (isC : List Nat) (hC : isC.filterMap (fun i => ws[i]?) = wc) :
    PreS s H (sbPr D cI cL cB tS tF As wc) As :=
  ⟨fun a U g mk q => ⟨q.1, q.2.1, q.2.2.calling g mk a⟩,
   fun U hU hW => ⟨rfl, by rw [hU]; exact hP.sub isC hC, hG.pass hS (fun _ h => h.elim) hU hW⟩⟩
theorem sb_rV {ws wc : va_W} {As : List Value} {b q0 ci : Nat} {q : vw_C} {fs : List Value} (hG : sbG D cI cL cB tS tF A s s.heap) (hP : va_P D vwCl ws H) (hS : va_S A s.heap H locs) (isC : List Nat) (hC : isC.filterMap (fun i => ws[i]?) = wc)
    (hc : vwCl[ci]? = some q) (he : ws[q0]? = some (b, .inr (ci, fs))) :
    PreV s H q.1 b (sbPr D cI cL cB tS tF (.ref b :: As) wc) As :=
  ⟨(sb_rS (As := .ref b :: As) hG hP hS isC hC).1, va_recv hG.1 hP hc he, (sb_rS (As := .ref b :: As) hG hP hS isC hC).2⟩
/-- a call, and the frame rule behind it -/
theorem sb_callv {S : Type} {post : S → Prop} {w1 : S → va_W} {ws wc wr : va_W} {mc ms : Nat} {st0 : List Value} {a : Array Value}
    (hr : va_Run p l e R s m args below meth c H locs cells slots mc ms (F0 m pc ls st0) rest (sbQv D post w1 (va_A wc H.size) a) (va_A wc H.size))
    (hP : va_P D vwCl ws H) (hD : va_D A ws) (hS : va_S A H0 H locs) (hA : ∀ q, H0.size ≤ q → A q) (isC isR : List Nat) (hC : isC.map (fun i => ws[i]?) = wc.map some) (hR : isR.map (fun i => ws[i]?) = wr.map some) (hn : va_nd isR = true) (hdis : ∀ i ∈ isR, i ∉ isC)
    (kk : ∀ (u : S) (H1 : Heap) (locs1 : List Loc), post u → va_P D vwCl (wr ++ w1 u) H1 → va_D A (wr ++ w1 u) → va_S A H0 H1 locs1 → W p l e R s m args below meth c H1 locs1 (cells + mc) (slots + ms) Q (F0 m (pc + 3) ls rest)) :
    W p l e R s m args below meth c H locs cells slots Q (F0 m pc ls st0) := by
  have hFc := va_free hD hS hA isC hC
  refine va_callv hr hS (fun q _ h => hFc q h) hFc (fun u t H1 locs1 ht hvm hw hB hz hk hS1 => ?_)
  obtain ⟨hP1, hD1⟩ := hB
  rw [ht] at hP1
  obtain ⟨hP2, hD2⟩ := va_join hP hD isC isR hC hR hn hdis hk hFc hP1 hD1
  exact kk u H1 locs1 hw hP2 hD2 hS1
theorem sb_calli {S : Type} {post : Int32 → S → Prop} {w1 : S → va_W} {ws wc wr : va_W} {mc ms : Nat} {st0 : List Value} {a : Array Value}
    (hr : va_Run p l e R s m args below meth c H locs cells slots mc ms (F0 m pc ls st0) rest (sbQi D post w1 (va_A wc H.size) a) (va_A wc H.size))
    (hP : va_P D vwCl ws H) (hD : va_D A ws) (hS : va_S A H0 H locs) (hA : ∀ q, H0.size ≤ q → A q) (isC isR : List Nat) (hC : isC.map (fun i => ws[i]?) = wc.map some) (hR : isR.map (fun i => ws[i]?) = wr.map some) (hn : va_nd isR = true) (hdis : ∀ i ∈ isR, i ∉ isC)
    (kk : ∀ (r : Int32) (u : S) (H1 : Heap) (locs1 : List Loc), post r u → va_P D vwCl (wr ++ w1 u) H1 → va_D A (wr ++ w1 u) → va_S A H0 H1 locs1 → W p l e R s m args below meth c H1 locs1 (cells + mc) (slots + ms) Q (F0 m (pc + 3) ls (.int r :: rest))) :
    W p l e R s m args below meth c H locs cells slots Q (F0 m pc ls st0) := by
  have hFc := va_free hD hS hA isC hC
  refine va_calli hr hS (fun q _ h => hFc q h) hFc (fun r u t H1 locs1 ht hvm hw hB hz hk hS1 => ?_)
  obtain ⟨hP1, hD1⟩ := hB
  rw [ht] at hP1
  obtain ⟨hP2, hD2⟩ := va_join hP hD isC isR hC hR hn hdis hk hFc hP1 hD1
  exact kk r u H1 locs1 hw hP2 hD2 hS1
theorem sb_newi (hexec : p.tables.exec = Jvm.exec) (hb : c.code = cc) (harr : (Cond.arrayClass .int).before args s = true) {ws : va_W} (hK : va_K D vwCl [(cI, .int), (cL, .long), (cB, .byte)] s) (hP : va_P D vwCl ws H) (hD : va_D A ws) (hS : va_S A H0 H locs) (hA : ∀ q, H0.size ≤ q → A q)
    {n : Int32} {N : Nat} (hn : n = nI N) (hN : N ≤ 100000) (hcells : cells + 1 ≤ R.cells) (hslots : slots + N ≤ R.slots) (hdg : decode cc pc = .ok (.newarray .int, 2))
    (kk : ∀ (q : Nat) (H1 : Heap), va_P D vwCl (ws ++ [(q, .inl (cI, N, .inl (fun _ => 0)))]) H1 → va_D A (ws ++ [(q, .inl (cI, N, .inl (fun _ => 0)))]) → va_S A H0 H1 locs →
      W p l e R s m args below meth c H1 locs (cells + 1) (slots + N) Q (F0 m (pc + 2) ls (.ref q :: rest))) : W p l e R s m args below meth c H locs cells slots Q (F0 m pc ls (.int n :: rest)) := by
  subst hn
  refine va_newa (atype := .int) (ty := .int) hexec hb harr rfl hK hP hD hS hA (a0 := (N, .inl (fun _ => 0))) (fun _ => rfl) (nI_pos (by omega)) (nI_clamp (by omega)) (by show N * 4 ≤ _; omega) hcells hslots hdg (fun q cA H1 hK1 hP1 hD1 hS1 => ?_)
  have h1 : s.vm.findClass ("[" ++ FieldType.int.toString) = some cA := (hK1.2 3 (cA, .int) rfl).2
  have h2 : s.vm.findClass ("[" ++ FieldType.int.toString) = some cI := (hK.2 0 (cI, .int) rfl).2
  cases Option.some.inj (h1.symm.trans h2)
  exact kk q H1 hP1 hD1 hS1
theorem sb_newl (hexec : p.tables.exec = Jvm.exec) (hb : c.code = cc) (harr : (Cond.arrayClass .long).before args s = true) {ws : va_W} (hK : va_K D vwCl [(cI, .int), (cL, .long), (cB, .byte)] s) (hP : va_P D vwCl ws H) (hD : va_D A ws) (hS : va_S A H0 H locs) (hA : ∀ q, H0.size ≤ q → A q)
    {n : Int32} {N : Nat} (hn : n = nI N) (hN : N ≤ 100000) (hcells : cells + 1 ≤ R.cells) (hslots : slots + N ≤ R.slots) (hdg : decode cc pc = .ok (.newarray .long, 2))
    (kk : ∀ (q : Nat) (H1 : Heap), va_P D vwCl (ws ++ [(q, .inl (cL, N, .inr (.inl (fun _ => 0))))]) H1 → va_D A (ws ++ [(q, .inl (cL, N, .inr (.inl (fun _ => 0))))]) → va_S A H0 H1 locs →
      W p l e R s m args below meth c H1 locs (cells + 1) (slots + N) Q (F0 m (pc + 2) ls (.ref q :: rest))) : W p l e R s m args below meth c H locs cells slots Q (F0 m pc ls (.int n :: rest)) := by
  subst hn
  refine va_newa (atype := .long) (ty := .long) hexec hb harr rfl hK hP hD hS hA (a0 := (N, .inr (.inl (fun _ => 0)))) (fun _ => rfl) (nI_pos (by omega)) (nI_clamp (by omega)) (by show N * 8 ≤ _; omega) hcells hslots hdg (fun q cA H1 hK1 hP1 hD1 hS1 => ?_)
  have h1 : s.vm.findClass ("[" ++ FieldType.long.toString) = some cA := (hK1.2 3 (cA, .long) rfl).2
  have h2 : s.vm.findClass ("[" ++ FieldType.long.toString) = some cL := (hK.2 1 (cL, .long) rfl).2
  cases Option.some.inj (h1.symm.trans h2)
  exact kk q H1 hP1 hD1 hS1
theorem sb_newb (hexec : p.tables.exec = Jvm.exec) (hb : c.code = cc) (harr : (Cond.arrayClass .byte).before args s = true) {ws : va_W} (hK : va_K D vwCl [(cI, .int), (cL, .long), (cB, .byte)] s) (hP : va_P D vwCl ws H) (hD : va_D A ws) (hS : va_S A H0 H locs) (hA : ∀ q, H0.size ≤ q → A q)
    {n : Int32} {N : Nat} (hn : n = nI N) (hN : N ≤ 100000) (hcells : cells + 1 ≤ R.cells) (hslots : slots + N ≤ R.slots) (hdg : decode cc pc = .ok (.newarray .byte, 2))
    (kk : ∀ (q : Nat) (H1 : Heap), va_P D vwCl (ws ++ [(q, .inl (cB, N, .inl (fun _ => 0)))]) H1 → va_D A (ws ++ [(q, .inl (cB, N, .inl (fun _ => 0)))]) → va_S A H0 H1 locs →
      W p l e R s m args below meth c H1 locs (cells + 1) (slots + N) Q (F0 m (pc + 2) ls (.ref q :: rest))) : W p l e R s m args below meth c H locs cells slots Q (F0 m pc ls (.int n :: rest)) := by
  subst hn
  refine va_newa (atype := .byte) (ty := .byte) hexec hb harr rfl hK hP hD hS hA (a0 := (N, .inl (fun _ => 0))) (fun _ => rfl) (nI_pos (by omega)) (nI_clamp (by omega)) (by show N * 1 ≤ _; omega) hcells hslots hdg (fun q cA H1 hK1 hP1 hD1 hS1 => ?_)
  have h1 : s.vm.findClass ("[" ++ FieldType.byte.toString) = some cA := (hK1.2 3 (cA, .byte) rfl).2
  have h2 : s.vm.findClass ("[" ++ FieldType.byte.toString) = some cB := (hK.2 2 (cB, .byte) rfl).2
  cases Option.some.inj (h1.symm.trans h2)
  exact kk q H1 hP1 hD1 hS1
theorem sb_topn {x : Int32} (j : Nat) (h : x = nI j) (k : W p l e R s m args below meth c H locs cells slots Q (F0 m pc ls (.int (nI j) :: rest))) : W p l e R s m args below meth c H locs cells slots Q (F0 m pc ls (.int x :: rest)) := by
  subst h
  exact k
/-- arrays by natural numbers -/
theorem sb_ild {ws : va_W} {a n : Nat} {f : Nat → Int32} (hexec : p.tables.exec = Jvm.exec) (hb : c.code = cc) (hK : va_K D vwCl [(cI, .int), (cL, .long), (cB, .byte)] s) (hP : va_P D vwCl ws H) (q0 : Nat) (ha : ws[q0]? = some (a, .inl (cI, n, .inl f))) {i : Int32} (j : Nat) (hi : i = nI j) (hj : j < n) (hn : n < 2 ^ 31) (hdg : decode cc pc = .ok (.iaload, 1))
    (kk : W p l e R s m args below meth c H locs cells slots Q (F0 m (pc + 1) ls (.int (f j) :: rest))) : W p l e R s m args below meth c H locs cells slots Q (F0 m pc ls (.int i :: .ref a :: rest)) := by
  subst hi
  refine va_iald hexec hb hK hP q0 0 ha rfl (vp_in_nI hj hn) hdg ?_
  rw [nI_clamp (show j < 2 ^ 31 by omega)]
  exact kk
theorem sb_lld {ws : va_W} {a n : Nat} {f : Nat → Int64} (hexec : p.tables.exec = Jvm.exec) (hb : c.code = cc) (hK : va_K D vwCl [(cI, .int), (cL, .long), (cB, .byte)] s) (hP : va_P D vwCl ws H) (q0 : Nat) (ha : ws[q0]? = some (a, .inl (cL, n, .inr (.inl f)))) {i : Int32} (j : Nat) (hi : i = nI j) (hj : j < n) (hn : n < 2 ^ 31) (hdg : decode cc pc = .ok (.laload, 1))
    (kk : W p l e R s m args below meth c H locs cells slots Q (F0 m (pc + 1) ls (.long (f j) :: rest))) : W p l e R s m args below meth c H locs cells slots Q (F0 m pc ls (.int i :: .ref a :: rest)) := by
  subst hi
  refine va_lald hexec hb hK hP q0 1 ha rfl (vp_in_nI hj hn) hdg ?_
  rw [nI_clamp (show j < 2 ^ 31 by omega)]
  exact kk
theorem sb_bld {ws : va_W} {a n : Nat} {f : Nat → Int32} (hexec : p.tables.exec = Jvm.exec) (hb : c.code = cc) (hK : va_K D vwCl [(cI, .int), (cL, .long), (cB, .byte)] s) (hP : va_P D vwCl ws H) (q0 : Nat) (ha : ws[q0]? = some (a, .inl (cB, n, .inl f))) {i : Int32} (j : Nat) (hi : i = nI j) (hj : j < n) (hn : n < 2 ^ 31) (hdg : decode cc pc = .ok (.baload, 1))
    (kk : W p l e R s m args below meth c H locs cells slots Q (F0 m (pc + 1) ls (.int (f j) :: rest))) : W p l e R s m args below meth c H locs cells slots Q (F0 m pc ls (.int i :: .ref a :: rest)) := by
  subst hi
  refine va_bald hexec hb hK hP q0 2 ha rfl (vp_in_nI hj hn) hdg ?_
  rw [nI_clamp (show j < 2 ^ 31 by omega)]
  exact kk
theorem sb_ist {ws : va_W} {a n : Nat} {f : Nat → Int32} (hexec : p.tables.exec = Jvm.exec) (hb : c.code = cc) (hK : va_K D vwCl [(cI, .int), (cL, .long), (cB, .byte)] s) (hP : va_P D vwCl ws H) (hD : va_D A ws) (hS : va_S A H0 H locs) (q0 : Nat) (ha : ws[q0]? = some (a, .inl (cI, n, .inl f))) {i x : Int32} (j : Nat) (hi : i = nI j) (hj : j < n) (hn : n < 2 ^ 31) (hdg : decode cc pc = .ok (.iastore, 1))
    (kk : ∀ (g : Nat → Int32) (H1 : Heap) (locs1 : List Loc), g = upd f j x → va_P D vwCl (ws.set q0 (a, .inl (cI, n, .inl g))) H1 → va_D A (ws.set q0 (a, .inl (cI, n, .inl g))) → va_S A H0 H1 locs1 → W p l e R s m args below meth c H1 locs1 cells slots Q (F0 m (pc + 1) ls rest)) :
    W p l e R s m args below meth c H locs cells slots Q (F0 m pc ls (.int x :: .int i :: .ref a :: rest)) := by
  subst hi
  refine va_iast hexec hb hK hP hD hS q0 0 ha rfl (vp_in_nI hj hn) hdg ?_
  rw [nI_clamp (show j < 2 ^ 31 by omega)]
  exact fun H1 locs1 h1 h2 h3 => kk _ H1 locs1 rfl h1 h2 h3
theorem sb_lst {ws : va_W} {a n : Nat} {f : Nat → Int64} (hexec : p.tables.exec = Jvm.exec) (hb : c.code = cc) (hK : va_K D vwCl [(cI, .int), (cL, .long), (cB, .byte)] s) (hP : va_P D vwCl ws H) (hD : va_D A ws) (hS : va_S A H0 H locs) (q0 : Nat) (ha : ws[q0]? = some (a, .inl (cL, n, .inr (.inl f)))) {i : Int32} {x : Int64} (j : Nat) (hi : i = nI j) (hj : j < n) (hn : n < 2 ^ 31) (hdg : decode cc pc = .ok (.lastore, 1))
    (kk : ∀ (g : Nat → Int64) (H1 : Heap) (locs1 : List Loc), g = vp_updL f j x → va_P D vwCl (ws.set q0 (a, .inl (cL, n, .inr (.inl g)))) H1 → va_D A (ws.set q0 (a, .inl (cL, n, .inr (.inl g)))) → va_S A H0 H1 locs1 → W p l e R s m args below meth c H1 locs1 cells slots Q (F0 m (pc + 1) ls rest)) :
    W p l e R s m args below meth c H locs cells slots Q (F0 m pc ls (.long x :: .int i :: .ref a :: rest)) := by
  subst hi
  refine va_last hexec hb hK hP hD hS q0 1 ha rfl (vp_in_nI hj hn) hdg ?_
  rw [nI_clamp (show j < 2 ^ 31 by omega)]
  exact fun H1 locs1 h1 h2 h3 => kk _ H1 locs1 rfl h1 h2 h3
theorem sb_bst {ws : va_W} {a n : Nat} {f : Nat → Int32} (hexec : p.tables.exec = Jvm.exec) (hb : c.code = cc) (hK : va_K D vwCl [(cI, .int), (cL, .long), (cB, .byte)] s) (hP : va_P D vwCl ws H) (hD : va_D A ws) (hS : va_S A H0 H locs) (q0 : Nat) (ha : ws[q0]? = some (a, .inl (cB, n, .inl f))) {i x : Int32} (j : Nat) (hi : i = nI j) (hj : j < n) (hn : n < 2 ^ 31) (hdg : decode cc pc = .ok (.bastore, 1))
    (kk : ∀ (g : Nat → Int32) (H1 : Heap) (locs1 : List Loc), g = upd f j (vp_nar .byte x) → va_P D vwCl (ws.set q0 (a, .inl (cB, n, .inl g))) H1 → va_D A (ws.set q0 (a, .inl (cB, n, .inl g))) → va_S A H0 H1 locs1 → W p l e R s m args below meth c H1 locs1 cells slots Q (F0 m (pc + 1) ls rest)) :
    W p l e R s m args below meth c H locs cells slots Q (F0 m pc ls (.int x :: .int i :: .ref a :: rest)) := by
  subst hi
  refine va_bast hexec hb hK hP hD hS q0 2 ha rfl (vp_in_nI hj hn) hdg ?_
  rw [nI_clamp (show j < 2 ^ 31 by omega)]
  exact fun H1 locs1 h1 h2 h3 => kk _ H1 locs1 rfl h1 h2 h3
theorem sb_tld {t n : Nat} {f : Nat → Int32} (hexec : p.tables.exec = Jvm.exec) (hb : c.code = cc) (hT : va_T .int t n (fun j => .int (f j)) A s s.heap) (hS : va_S A s.heap H locs) {i : Int32} (j : Nat) (hi : i = nI j) (hj : j < n) (hn : n < 2 ^ 31) (hdg : decode cc pc = .ok (.iaload, 1))
    (kk : W p l e R s m args below meth c H locs cells slots Q (F0 m (pc + 1) ls (.int (f j) :: rest))) : W p l e R s m args below meth c H locs cells slots Q (F0 m pc ls (.int i :: .ref t :: rest)) := by
  subst hi
  exact va_ti hexec hb hT hS (vp_in_nI hj hn) (by rw [nI_clamp (show j < 2 ^ 31 by omega)]) hdg kk
end SBF
theorem sbG.nest {D : va_G} {cI cL cB : ClassId} {tS tF : Nat} {A : Nat → Prop} {s : State} {H : Heap} {args : Array Value} (hG : sbG D cI cL cB tS tF A s H) (w : Cond) (h : w ∈ sbN) : w.before args s = true := va_Nw.use (sbOk_tab (List.all_eq_true.mp sbN_ok w h)) (hG.2.1 w h)
