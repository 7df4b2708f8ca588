/-! calls of inherited, abstract and private methods of Cipher -/
theorem st4_v (a b c d : Int32) (q : Int32 × Int32 × Int32 × Int32) : st4 (i4 a b c d) q = i4 q.1 q.2.1 q.2.2.1 q.2.2.2 := st4_i4 a b c d q
theorem sb_shr {x y : Int32} {a : Nat} (k : Nat) (hx : x = nI a) (ha : a < 2 ^ 31) (hy : ((y &&& 31).toBitVec.smod 32).toNat = k) : x >>> (y &&& 31) = nI (a / 2 ^ k) := by
  rw [hx]
  exact pk_shrN ha (y &&& 31) k hy
theorem sb_selP {C : String} {y z : MethodName} {args : Array Value} {s : State} (hy : y.cls ≠ "java/lang/invoke/MethodHandle" ∧ y.cls ≠ "java/lang/invoke/VarHandle") (hz : (Cond.selects C z z).before args s = true) (hcls : z.cls = y.cls)
    (hpriv : (Cond.privateMethod y).before args s = true) (hinst : (Cond.instanceMethod y).before args s = true) : (Cond.selects C y y).before args s = true := by
  obtain ⟨c2, r2, m2, q1, q2, q3, q4, kP, hkP, hkPi⟩ := Cond.selects_spec hz
  obtain ⟨mk, methM, hnamed, hmethM, -, -⟩ := Cond.instanceMethod_spec hinst
  have hfound : s.methodFound? y.cls y.name y.desc = some mk := State.methodFound?_of_named hnamed hy
  have e1 : mk.cls = m2.cls := Option.some.inj ((findClass_of_methodNamed hnamed).symm.trans (by rw [← hcls]; exact findClass_of_methodNamed q3))
  have hsel : selectMethod {} s.vm c2 mk = .method mk := selectMethod_private hmethM (Cond.privateMethod_at hpriv mk methM hnamed hmethM)
  simp only [Cond.before, Cond.holds, Cond.value, q1, hfound, hnamed, hsel, e1, hkP]
  simp [hkPi]
theorem sb_cuP {R : Room} {s : State} {args : Array Value} {own C : String} {index maxL mc ms : Nat} {y : MethodName} {bytes : ByteArray} {ret : Option FieldType} {rm : Room} (n : Nat) (ht : ∀ w ∈ sbW, w.before args s = true) (hc : Cond.code y bytes maxL ret ∈ sbW) (hrc : rm.cells = mc) (hrs : rm.slots = ms)
    (hini : Cond.initialized y.cls ∈ sbW) (hlink : Cond.methodLink own index y ∈ sbW) (hsame : Cond.sameMethod y.cls y.cls y.name y.desc ∈ sbW) (hin : Cond.instanceMethod y ∈ sbW) (hsel : (Cond.selects C y y).before args s = true)
    (hd : y.cls ≠ "java/lang/invoke/MethodHandle" ∧ y.cls ≠ "java/lang/invoke/VarHandle" ∧ (parseMethodDescriptor y.desc).map (fun d => d.parameters.length) = some n) (hR : rm.frames + 1 ≤ R.frames ∧ 8 + (maxL + 11) + rm.locals ≤ R.locals) : va_CU R s args own C y.cls index y y bytes maxL ret (sbw y bytes maxL ret) rm mc ms n := by
  refine ⟨⟨hrc, hrs, hR.1, hR.2, pay_in ht (sb_g hc), List.mem_cons_self⟩, ht _ hc, ht _ hini, ⟨hd.1, hd.2.1⟩, fun sig h => ?_, ht _ hlink, ht _ hsame, va_Decl.of (ht _ hin) (ht _ hc), hsel, ht _ hin⟩
  have h2 := hd.2.2
  rw [h] at h2
  exact (Option.some.inj h2).symm
