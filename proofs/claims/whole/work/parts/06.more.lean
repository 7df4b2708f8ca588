/-! more rows of the frame -/
theorem sb_ix {i : Int32} (h0 : ¬ i < 0) : i = nI i.toNatClampNeg := by
  obtain ⟨j, hj, rfl⟩ := nI_of h0
  rw [nI_clamp hj]
theorem sb_ixlt {i : Int32} {len n : Nat} (h0 : ¬ i < 0) (h1 : ¬ nI len ≤ i) (hn : len ≤ n) (hl : n < 2 ^ 31) : i.toNatClampNeg < n := by
  obtain ⟨j, hj, rfl⟩ := nI_of h0
  rw [nI_clamp hj]
  rw [nI_leI (by omega) hj] at h1
  omega
theorem iter_s {α : Type} (step : Nat → α → α) (i : Nat) (a : α) : iter step (i + 1) a = step i (iter step i a) := rfl
section SBM
variable {x y : Int32} {a b : Nat}
theorem sb_eqI (hx : x = nI a) (hy : y = nI b) (ha : a < 2 ^ 31) (hb : b < 2 ^ 31) : x = y ↔ a = b := by rw [hx, hy]; exact nI_eq ha hb
theorem sb_ltI (hx : x = nI a) (hy : y = nI b) (ha : a < 2 ^ 31) (hb : b < 2 ^ 31) : x < y ↔ a < b := by rw [hx, hy]; exact nI_ltI ha hb
theorem sb_gtI (hx : x = nI a) (hy : y = nI b) (ha : a < 2 ^ 31) (hb : b < 2 ^ 31) : y < x ↔ b < a := by rw [hx, hy]; exact nI_ltI hb ha
theorem sb_leI (hx : x = nI a) (hy : y = nI b) (ha : a < 2 ^ 31) (hb : b < 2 ^ 31) : x ≤ y ↔ a ≤ b := by rw [hx, hy]; exact nI_leI ha hb
theorem sb_geI (hx : x = nI a) (hy : y = nI b) (ha : a < 2 ^ 31) (hb : b < 2 ^ 31) : y ≤ x ↔ b ≤ a := by rw [hx, hy]; exact nI_leI hb ha
end SBM
theorem sb_tn (x : Int32) : x = nI x.toBitVec.toNat := by
  apply Int32.toBitVec_inj.1
  show x.toBitVec = BitVec.ofNat 32 x.toBitVec.toNat
  simp
/-- the four bytes of a word, as places of a table -/
def b0n (x : Int32) : Nat := x.toBitVec.toNat / 16777216
def b1n (x : Int32) : Nat := x.toBitVec.toNat / 65536 % 256
def b2n (x : Int32) : Nat := x.toBitVec.toNat / 256 % 256
def b3n (x : Int32) : Nat := x.toBitVec.toNat % 256
theorem b0n_lt (x : Int32) : b0n x < 256 := by
  have := x.toBitVec.isLt
  unfold b0n
  omega
theorem b1n_lt (x : Int32) : b1n x < 256 := Nat.mod_lt _ (by omega)
theorem b2n_lt (x : Int32) : b2n x < 256 := Nat.mod_lt _ (by omega)
theorem b3n_lt (x : Int32) : b3n x < 256 := Nat.mod_lt _ (by omega)
theorem ix0 (x : Int32) : uS x 24 = nI (b0n x) := by
  rw [sb_tn (uS x 24)]
  exact congrArg nI (pk_ushr x 24 24 (by decide))
theorem ix1 (x : Int32) : uS x 16 &&& 255 = nI (b1n x) := by
  rw [pk_and (uS x 16) (m := 255) 8 (by decide)]
  exact congrArg (fun z => nI (z % 256)) (pk_ushr x 16 16 (by decide))
theorem ix2 (x : Int32) : uS x 8 &&& 255 = nI (b2n x) := by
  rw [pk_and (uS x 8) (m := 255) 8 (by decide)]
  exact congrArg (fun z => nI (z % 256)) (pk_ushr x 8 8 (by decide))
theorem ix3 (x : Int32) : x &&& 255 = nI (b3n x) := pk_and x (m := 255) 8 (by decide)
def nib (x : Int32) : Nat := x.toBitVec.toNat % 16
theorem nib_lt (x : Int32) : nib x < 16 := Nat.mod_lt _ (by omega)
theorem ix15 (x : Int32) : x &&& 15 = nI (nib x) := pk_and x (m := 15) 4 (by decide)
section SBV
variable {p : Program} {l : Launch} {e : Env} {R : Room} {s : State} {m : MethodId} {args : Array Value} {below : List Frame} {meth : Method} {c : Code} {H H0 : Heap} {locs : List Loc} {cells slots : Nat} {Q : State → Prop}
variable {D : va_G} {cI cL cB : ClassId} {tS tF : Nat} {A B : Nat → Prop} {cc : ByteArray} {pc : Nat} {ls : Array Slot} {rest : List Value}
theorem sb_lldv {ws : va_W} {a n : Nat} {f : Nat → Int64} (hexec : p.tables.exec = Jvm.exec) (hb : c.code = cc) (hK : va_K D vwCl [(cI, .int), (cL, .long), (cB, .byte)] s) (hP : va_P D vwCl ws H) (q0 : Nat) (ha : ws[q0]? = some (a, .inl (cL, n, .inr (.inl f)))) {i : Int32} (j : Nat) (hi : i = nI j) (hj : j < n) (hn : n < 2 ^ 31) {v : Int64} (hv : f j = v) (hdg : decode cc pc = .ok (.laload, 1))
    (kk : W p l e R s m args below meth c H locs cells slots Q (F0 m (pc + 1) ls (.long v :: rest))) : W p l e R s m args below meth c H locs cells slots Q (F0 m pc ls (.int i :: .ref a :: rest)) := by
  subst hv
  exact sb_lld hexec hb hK hP q0 ha j hi hj hn hdg kk
theorem sb_ildv {ws : va_W} {a n : Nat} {f : Nat → Int32} (hexec : p.tables.exec = Jvm.exec) (hb : c.code = cc) (hK : va_K D vwCl [(cI, .int), (cL, .long), (cB, .byte)] s) (hP : va_P D vwCl ws H) (q0 : Nat) (ha : ws[q0]? = some (a, .inl (cI, n, .inl f))) {i : Int32} (j : Nat) (hi : i = nI j) (hj : j < n) (hn : n < 2 ^ 31) {v : Int32} (hv : f j = v) (hdg : decode cc pc = .ok (.iaload, 1))
    (kk : W p l e R s m args below meth c H locs cells slots Q (F0 m (pc + 1) ls (.int v :: rest))) : W p l e R s m args below meth c H locs cells slots Q (F0 m pc ls (.int i :: .ref a :: rest)) := by
  subst hv
  exact sb_ild hexec hb hK hP q0 ha j hi hj hn hdg kk
end SBV
