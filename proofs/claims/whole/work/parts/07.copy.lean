theorem sb_and {x y : Int32} {a : Nat} (k : Nat) (hx : x = nI a) (ha : a < 2 ^ 31) (hy : y.toBitVec.toNat = 2 ^ k - 1) : x &&& y = nI (a % 2 ^ k) := by
  rw [hx]
  exact pk_andN (by omega) k hy
section SBC
variable {p : Program} {l : Launch} {e : Env} {R : Room} {s : State} {m : MethodId} {args : Array Value} {below : List Frame} {meth : Method} {c : Code} {H H0 : Heap} {locs : List Loc} {cells slots : Nat} {Q : State → Prop}
variable {D : va_G} {cI cL cB : ClassId} {tS tF : Nat} {A B : Nat → Prop} {cc : ByteArray} {pc : Nat} {ls : Array Slot} {rest : List Value}
theorem sb_copyi (hexec : p.tables.exec = Jvm.exec) (hb : c.code = cc) (hml : c.maxLocals = ls.size) {own : String} {index : Nat} (hown : s.vm.findClass own = some m.cls) (hlink : (Cond.methodLink own index arraycopyName).before args s = true) (hnat : (Cond.native arraycopyName).before args s = true) (hstat : (Cond.static arraycopyName).before args s = true) (hini : (Cond.initialized "java/lang/System").before args s = true)
    {ws : va_W} (hK : va_K D vwCl [(cI, .int), (cL, .long), (cB, .byte)] s) (hP : va_P D vwCl ws H) (hD : va_D A ws) (hS : va_S A H0 H locs) (q0 q1 : Nat) {a0 a : Nat} {n0 n1 : Nat} {f g : Nat → Int32} (ha0 : ws[q0]? = some (a0, .inl (cI, n0, .inl f))) (ha1 : ws[q1]? = some (a, .inl (cI, n1, .inl g)))
    {sp dp n : Int32} (i j k : Nat) (hsp : sp = nI i) (hdp : dp = nI j) (hn : n = nI k) (h4 : i + k ≤ n0) (h5 : j + k ≤ n1) (h0 : n0 < 2 ^ 31) (h1 : n1 < 2 ^ 31)
    (hframes : 1 ≤ R.frames) (hlocals : (rest.map fun v => v.category).sum + (nativeFrameWords "java/lang/System" "arraycopy" 5 + 11) ≤ R.locals) (hdg : decode cc pc = .ok (.invokestatic index, 3))
    (kk : ∀ (g1 : Nat → Int32) (H1 : Heap) (locs1 : List Loc), g1 = va_cpy f g i j k → va_P D vwCl (ws.set q1 (a, .inl (cI, n1, .inl g1))) H1 → va_D A (ws.set q1 (a, .inl (cI, n1, .inl g1))) → va_S A H0 H1 locs1 → W p l e R s m args below meth c H1 locs1 cells slots Q (F0 m (pc + 3) ls rest)) : W p l e R s m args below meth c H locs cells slots Q (F0 m pc ls (.int n :: .int dp :: .ref a :: .int sp :: .ref a0 :: rest)) := by
  subst hsp; subst hdp; subst hn
  refine va_copyi hexec hb hml hown hlink hnat hstat hini hK hP hD hS q0 q1 0 0 ha0 ha1 rfl rfl rfl (nI_pos (by omega)) (nI_pos (by omega)) (nI_pos (by omega)) (by rw [nI_clamp (by omega), nI_clamp (by omega)]; exact h4) (by rw [nI_clamp (by omega), nI_clamp (by omega)]; exact h5) (fun _ _ => rfl) hframes hlocals hdg ?_
  rw [nI_clamp (show i < 2 ^ 31 by omega), nI_clamp (show j < 2 ^ 31 by omega), nI_clamp (show k < 2 ^ 31 by omega)]
  exact fun H1 locs1 x y z => kk _ H1 locs1 rfl x y z
theorem sb_copyb (hexec : p.tables.exec = Jvm.exec) (hb : c.code = cc) (hml : c.maxLocals = ls.size) {own : String} {index : Nat} (hown : s.vm.findClass own = some m.cls) (hlink : (Cond.methodLink own index arraycopyName).before args s = true) (hnat : (Cond.native arraycopyName).before args s = true) (hstat : (Cond.static arraycopyName).before args s = true) (hini : (Cond.initialized "java/lang/System").before args s = true)
    {ws : va_W} (hK : va_K D vwCl [(cI, .int), (cL, .long), (cB, .byte)] s) (hP : va_P D vwCl ws H) (hD : va_D A ws) (hS : va_S A H0 H locs) (q0 q1 : Nat) {a0 a : Nat} {n0 n1 : Nat} {f g : Nat → Int32} (hfit : ∀ x, fits .byte (.int (f x)) = true) (ha0 : ws[q0]? = some (a0, .inl (cB, n0, .inl f))) (ha1 : ws[q1]? = some (a, .inl (cB, n1, .inl g)))
    {sp dp n : Int32} (i j k : Nat) (hsp : sp = nI i) (hdp : dp = nI j) (hn : n = nI k) (h4 : i + k ≤ n0) (h5 : j + k ≤ n1) (h0 : n0 < 2 ^ 31) (h1 : n1 < 2 ^ 31)
    (hframes : 1 ≤ R.frames) (hlocals : (rest.map fun v => v.category).sum + (nativeFrameWords "java/lang/System" "arraycopy" 5 + 11) ≤ R.locals) (hdg : decode cc pc = .ok (.invokestatic index, 3))
    (kk : ∀ (g1 : Nat → Int32) (H1 : Heap) (locs1 : List Loc), g1 = va_cpy f g i j k → va_P D vwCl (ws.set q1 (a, .inl (cB, n1, .inl g1))) H1 → va_D A (ws.set q1 (a, .inl (cB, n1, .inl g1))) → va_S A H0 H1 locs1 → W p l e R s m args below meth c H1 locs1 cells slots Q (F0 m (pc + 3) ls rest)) : W p l e R s m args below meth c H locs cells slots Q (F0 m pc ls (.int n :: .int dp :: .ref a :: .int sp :: .ref a0 :: rest)) := by
  subst hsp; subst hdp; subst hn
  refine va_copyi hexec hb hml hown hlink hnat hstat hini hK hP hD hS q0 q1 2 2 ha0 ha1 rfl rfl rfl (nI_pos (by omega)) (nI_pos (by omega)) (nI_pos (by omega)) (by rw [nI_clamp (by omega), nI_clamp (by omega)]; exact h4) (by rw [nI_clamp (by omega), nI_clamp (by omega)]; exact h5) (fun _ _ => hfit _) hframes hlocals hdg ?_
  rw [nI_clamp (show i < 2 ^ 31 by omega), nI_clamp (show j < 2 ^ 31 by omega), nI_clamp (show k < 2 ^ 31 by omega)]
  exact fun H1 locs1 x y z => kk _ H1 locs1 rfl x y z
theorem sb_copyl (hexec : p.tables.exec = Jvm.exec) (hb : c.code = cc) (hml : c.maxLocals = ls.size) {own : String} {index : Nat} (hown : s.vm.findClass own = some m.cls) (hlink : (Cond.methodLink own index arraycopyName).before args s = true) (hnat : (Cond.native arraycopyName).before args s = true) (hstat : (Cond.static arraycopyName).before args s = true) (hini : (Cond.initialized "java/lang/System").before args s = true)
    {ws : va_W} (hK : va_K D vwCl [(cI, .int), (cL, .long), (cB, .byte)] s) (hP : va_P D vwCl ws H) (hD : va_D A ws) (hS : va_S A H0 H locs) (q0 q1 : Nat) {a0 a : Nat} {n0 n1 : Nat} {f g : Nat → Int64} (ha0 : ws[q0]? = some (a0, .inl (cL, n0, .inr (.inl f)))) (ha1 : ws[q1]? = some (a, .inl (cL, n1, .inr (.inl g))))
    {sp dp n : Int32} (i j k : Nat) (hsp : sp = nI i) (hdp : dp = nI j) (hn : n = nI k) (h4 : i + k ≤ n0) (h5 : j + k ≤ n1) (h0 : n0 < 2 ^ 31) (h1 : n1 < 2 ^ 31)
    (hframes : 1 ≤ R.frames) (hlocals : (rest.map fun v => v.category).sum + (nativeFrameWords "java/lang/System" "arraycopy" 5 + 11) ≤ R.locals) (hdg : decode cc pc = .ok (.invokestatic index, 3))
    (kk : ∀ (g1 : Nat → Int64) (H1 : Heap) (locs1 : List Loc), g1 = va_cpy f g i j k → va_P D vwCl (ws.set q1 (a, .inl (cL, n1, .inr (.inl g1)))) H1 → va_D A (ws.set q1 (a, .inl (cL, n1, .inr (.inl g1)))) → va_S A H0 H1 locs1 → W p l e R s m args below meth c H1 locs1 cells slots Q (F0 m (pc + 3) ls rest)) : W p l e R s m args below meth c H locs cells slots Q (F0 m pc ls (.int n :: .int dp :: .ref a :: .int sp :: .ref a0 :: rest)) := by
  subst hsp; subst hdp; subst hn
  refine va_copyl hexec hb hml hown hlink hnat hstat hini hK hP hD hS q0 q1 1 1 ha0 ha1 rfl rfl rfl (nI_pos (by omega)) (nI_pos (by omega)) (nI_pos (by omega)) (by rw [nI_clamp (by omega), nI_clamp (by omega)]; exact h4) (by rw [nI_clamp (by omega), nI_clamp (by omega)]; exact h5) (fun _ _ => rfl) hframes hlocals hdg ?_
  rw [nI_clamp (show i < 2 ^ 31 by omega), nI_clamp (show j < 2 ^ 31 by omega), nI_clamp (show k < 2 ^ 31 by omega)]
  exact fun H1 locs1 x y z => kk _ H1 locs1 rfl x y z
end SBC
/-- a method of the JDK's own -/
theorem sb_ofF {l : Launch} {D : va_G} {cI cL cB : ClassId} {tS tF : Nat} {cc : ByteArray} {y : MethodName} {rm : Room} {mc ms maxL sz : Nat} {ret : Option FieldType} {av : List Value} {w0 : va_W} {Qc : (Nat → Prop) → Array Value → State → Outcome → State → Prop}
    (hy : plainFor y = true) (hlen : (lg_sl av).length ≤ maxL)
    (body : ∀ (p : Program) (e : Env) (s : State) (m : MethodId) (args : Array Value) (below : List Frame) (meth : Method) (c : Code) (A : Nat → Prop) (ls : Array Slot),
      p.tables.exec = Jvm.exec → c.code = cc → meth.sig.returnType = ret → c.maxLocals = maxL → (∀ w ∈ sbW, w.before args s = true) → s.vm.findClass y.cls = some m.cls → meth.locks = false → meth.name = y.name → s.heap.size = sz →
      va_P D vwCl w0 s.heap → sbG D cI cL cB tS tF A s s.heap → va_D A w0 → (∀ q, s.heap.size ≤ q → A q) → va_S A s.heap s.heap [] → lv_has ls maxL (lv_args 0 av) →
      W p l e rm s m args below meth c s.heap [] 0 0 (MQ below (Qc A) args s mc ms A) (F0 m 0 ls [])) :
    Met l y (sbw y cc maxL ret) rm (sbPc D cI cL cB tS tF av sz w0) (Qc (va_A w0 sz)) mc ms (va_A w0 sz) := by
  refine va_MetF (cc := cc) (maxL := maxL) (ret := ret) hy rfl ?_
  intro p e s m args below meth c s₁ B hml hv
  obtain ⟨rfl, hsz, hP, hG, hD0⟩ := hv
  have hl := lv_entry av (n := maxL) hlen
  rw [lg_entry_eq]
  exact body p e s m _ below meth c (va_A w0 sz) _ B.exec B.bytes B.returns hml (fun w hw => atoms_spec (ws := sbw y cc maxL ret) B.pre w (List.mem_cons_of_mem _ hw)) (findClass_of_methodNamed B.named) B.notSynchronized (name_of_methodNamed B.named B.method).1 hsz hP hG hD0.self (fun q h => Or.inr (by rw [← hsz]; exact h)) va_S.rf hl
abbrev sbQr {S : Type} (D : va_G) (post : S → Prop) (w1 : S → Nat → va_W) (A : Nat → Prop) := va_Qr post (fun u q t => va_P D vwCl (w1 u q) t.heap ∧ va_D A (w1 u q)) A
section SBR
variable {p : Program} {l : Launch} {e : Env} {R : Room} {s : State} {m : MethodId} {args : Array Value} {below : List Frame} {meth : Method} {c : Code} {H H0 : Heap} {locs : List Loc} {cells slots : Nat} {Q : State → Prop}
variable {D : va_G} {A B : Nat → Prop} {cc : ByteArray} {pc : Nat} {ls : Array Slot} {rest : List Value}
theorem sb_callr {S : Type} {post : S → Prop} {w1 : S → Nat → va_W} {ws wc wr : va_W} {mc ms : Nat} {st0 : List Value} {a : Array Value}
    (hr : va_Run p l e R s m args below meth c H locs cells slots mc ms (F0 m pc ls st0) rest (sbQr D post w1 (va_A wc H.size) a) (va_A wc H.size))
    (hP : va_P D vwCl ws H) (hD : va_D A ws) (hS : va_S A H0 H locs) (hA : ∀ q, H0.size ≤ q → A q) (isC isR : List Nat) (hC : isC.map (fun i => ws[i]?) = wc.map some) (hR : isR.map (fun i => ws[i]?) = wr.map some) (hn : va_nd isR = true) (hdis : ∀ i ∈ isR, i ∉ isC)
    (kk : ∀ (u : S) (q : Nat) (H1 : Heap) (locs1 : List Loc), post u → va_P D vwCl (wr ++ w1 u q) H1 → va_D A (wr ++ w1 u q) → va_S A H0 H1 locs1 → W p l e R s m args below meth c H1 locs1 (cells + mc) (slots + ms) Q (F0 m (pc + 3) ls (.ref q :: rest))) :
    W p l e R s m args below meth c H locs cells slots Q (F0 m pc ls st0) := by
  have hFc := va_free hD hS hA isC hC
  refine va_callr hr hS (fun q _ h => hFc q h) hFc (fun u q t H1 locs1 ht hvm hw hB hz hk hS1 => ?_)
  obtain ⟨hP1, hD1⟩ := hB
  rw [ht] at hP1
  obtain ⟨hP2, hD2⟩ := va_join hP hD isC isR hC hR hn hdis hk hFc hP1 hD1
  exact kk u q H1 locs1 hw hP2 hD2 hS1
theorem sb_calll {S : Type} {post : Int64 → S → Prop} {w1 : S → va_W} {ws wc wr : va_W} {mc ms : Nat} {st0 : List Value} {a : Array Value}
    (hr : va_Run p l e R s m args below meth c H locs cells slots mc ms (F0 m pc ls st0) rest (sbQl D post w1 (va_A wc H.size) a) (va_A wc H.size))
    (hP : va_P D vwCl ws H) (hD : va_D A ws) (hS : va_S A H0 H locs) (hA : ∀ q, H0.size ≤ q → A q) (isC isR : List Nat) (hC : isC.map (fun i => ws[i]?) = wc.map some) (hR : isR.map (fun i => ws[i]?) = wr.map some) (hn : va_nd isR = true) (hdis : ∀ i ∈ isR, i ∉ isC)
    (kk : ∀ (r : Int64) (u : S) (H1 : Heap) (locs1 : List Loc), post r u → va_P D vwCl (wr ++ w1 u) H1 → va_D A (wr ++ w1 u) → va_S A H0 H1 locs1 → W p l e R s m args below meth c H1 locs1 (cells + mc) (slots + ms) Q (F0 m (pc + 3) ls (.long r :: rest))) :
    W p l e R s m args below meth c H locs cells slots Q (F0 m pc ls st0) := by
  have hFc := va_free hD hS hA isC hC
  refine va_calll hr hS (fun q _ h => hFc q h) hFc (fun r u t H1 locs1 ht hvm hw hB hz hk hS1 => ?_)
  obtain ⟨hP1, hD1⟩ := hB
  rw [ht] at hP1
  obtain ⟨hP2, hD2⟩ := va_join hP hD isC isR hC hR hn hdis hk hFc hP1 hD1
  exact kk r u H1 locs1 hw hP2 hD2 hS1
end SBR
/-- a row's new room: what is asked for, or twice the old -/
def rnew (k n : Nat) : Nat := if k ≤ n then n else if k < 2 * n then 2 * n else k
def rsz (k n : Nat) : Nat := if k ≤ n then 0 else rnew k n
theorem rnew_le (k n : Nat) : k ≤ rnew k n := by
  unfold rnew
  split
  · omega
  · split <;> omega
theorem rnew_ge (k n : Nat) : n ≤ rnew k n := by
  unfold rnew
  split
  · omega
  · split <;> omega
def rcp (f : Nat → Int32) (n : Nat) : Nat → Int32 := va_cpy f (fun _ => 0) 0 0 n
theorem rcp_at (f : Nat → Int32) (n j : Nat) (h : j < n) : rcp f n j = f j := by
  unfold rcp va_cpy
  simp [h]
theorem cpy_fit {f g : Nat → Int32} (hf : ∀ x, fits .byte (.int (f x)) = true) (hg : ∀ x, fits .byte (.int (g x)) = true) (i j k : Nat) : ∀ x, fits .byte (.int (va_cpy f g i j k x)) = true := by
  intro x
  unfold va_cpy
  split
  · exact hf _
  · exact hg _
theorem rcp_fit {f : Nat → Int32} (hf : ∀ x, fits .byte (.int (f x)) = true) (n : Nat) : ∀ x, fits .byte (.int (rcp f n x)) = true := cpy_fit hf (fun _ => rfl) 0 0 n
theorem sb_min {a b : Nat} (h : a ≤ b) (hb : b < 2 ^ 31) : (if nI b < nI a then nI b else nI a) = nI a := if_neg (by rw [nI_ltI hb (by omega)]; omega)
theorem rnew_cap (k n : Nat) (hk : k ≤ 100000) (hn : n ≤ 50000) : rnew k n ≤ 100000 := by
  unfold rnew
  split
  · omega
  · split <;> omega
theorem sb_max {k n : Nat} (hk : k < 2 ^ 31) (hn : 2 * n < 2 ^ 31) (h : ¬ k ≤ n) : (if nI k < nI (2 * n) then nI (2 * n) else nI k) = nI (rnew k n) := by
  unfold rnew
  rw [if_neg h]
  by_cases hc : k < 2 * n
  · rw [if_pos hc, if_pos ((nI_ltI hk hn).mpr hc)]
  · rw [if_neg hc, if_neg (fun q => hc ((nI_ltI hk hn).mp q))]
