/-! more rows of the frame -/
theorem sb_ix {i : Int32} (h0 : ¬ i < 0) : i = nI i.toNatClampNeg := by
  obtain ⟨j, hj, rfl⟩ := nI_of h0
  rw [nI_clamp hj]
theorem sb_ixlt {i : Int32} {len n : Nat} (h0 : ¬ i < 0) (h1 : ¬ nI len ≤ i) (hn : len ≤ n) (hl : n < 2 ^ 31) : i.toNatClampNeg < n := by
  obtain ⟨j, hj, rfl⟩ := nI_of h0
  rw [nI_clamp hj]
  rw [nI_leI (by omega) hj] at h1
  omega
theorem iter_s {α : Type} (step : Nat → α → α) (i : Nat) (a : α) : iter step (i + 1) a = step i (iter step i a) := rfl
section SBM
variable {x y : Int32} {a b : Nat}
theorem sb_eqI (hx : x = nI a) (hy : y = nI b) (ha : a < 2 ^ 31) (hb : b < 2 ^ 31) : x = y ↔ a = b := by rw [hx, hy]; exact nI_eq ha hb
theorem sb_ltI (hx : x = nI a) (hy : y = nI b) (ha : a < 2 ^ 31) (hb : b < 2 ^ 31) : x < y ↔ a < b := by rw [hx, hy]; exact nI_ltI ha hb
theorem sb_gtI (hx : x = nI a) (hy : y = nI b) (ha : a < 2 ^ 31) (hb : b < 2 ^ 31) : y < x ↔ b < a := by rw [hx, hy]; exact nI_ltI hb ha
theorem sb_leI (hx : x = nI a) (hy : y = nI b) (ha : a < 2 ^ 31) (hb : b < 2 ^ 31) : x ≤ y ↔ a ≤ b := by rw [hx, hy]; exact nI_leI ha hb
theorem sb_geI (hx : x = nI a) (hy : y = nI b) (ha : a < 2 ^ 31) (hb : b < 2 ^ 31) : y ≤ x ↔ b ≤ a := by rw [hx, hy]; exact nI_leI hb ha
end SBM
theorem sb_tn (x : Int32) : x = nI x.toBitVec.toNat := by
  apply Int32.toBitVec_inj.1
  show x.toBitVec = BitVec.ofNat 32 x.toBitVec.toNat
  simp
/-- the four bytes of a word, as places of a table -/
def b0n (x : Int32) : Nat := x.toBitVec.toNat / 16777216
def b1n (x : Int32) : Nat := x.toBitVec.toNat / 65536 % 256
def b2n (x : Int32) : Nat := x.toBitVec.toNat / 256 % 256
def b3n (x : Int32) : Nat := x.toBitVec.toNat % 256
theorem b0n_lt (x : Int32) : b0n x < 256 := by
  have := x.toBitVec.isLt
  unfold b0n
  omega
theorem b1n_lt (x : Int32) : b1n x < 256 := Nat.mod_lt _ (by omega)
theorem b2n_lt (x : Int32) : b2n x < 256 := Nat.mod_lt _ (by omega)
theorem b3n_lt (x : Int32) : b3n x < 256 := Nat.mod_lt _ (by omega)
theorem ix0 (x : Int32) : uS x 24 = nI (b0n x) := by
  rw [sb_tn (uS x 24)]
  exact congrArg nI (pk_ushr x 24 24 (by decide))
theorem ix1 (x : Int32) : uS x 16 &&& 255 = nI (b1n x) := by
  rw [pk_and (uS x 16) (m := 255) 8 (by decide)]
  exact congrArg (fun z => nI (z % 256)) (pk_ushr x 16 16 (by decide))
theorem ix2 (x : Int32) : uS x 8 &&& 255 = nI (b2n x) := by
  rw [pk_and (uS x 8) (m := 255) 8 (by decide)]
  exact congrArg (fun z => nI (z % 256)) (pk_ushr x 8 8 (by decide))
theorem ix3 (x : Int32) : x &&& 255 = nI (b3n x) := pk_and x (m := 255) 8 (by decide)
