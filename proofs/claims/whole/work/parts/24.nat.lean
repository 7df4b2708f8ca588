/-! the reference's arrays hold small numbers: their contents as natural numbers -/
abbrev nF (g : Nat → Nat) : Nat → Int32 := fun j => nI (g j)
def updN (g : Nat → Nat) (k v : Nat) : Nat → Nat := fun j => if j = k then v else g j
theorem nF_set (g : Nat → Nat) (k v : Nat) : upd (nF g) k (nI v) = nF (updN g k v) := by
  funext j
  show (if j = k then nI v else nI (g j)) = nI (if j = k then v else g j)
  by_cases h : j = k <;> simp [h]
theorem updN_s {g : Nat → Nat} {k v : Nat} : updN g k v k = v := if_pos rfl
theorem updN_n {g : Nat → Nat} {k v j : Nat} (h : j ≠ k) : updN g k v j = g j := if_neg h
theorem nF_zero : (fun _ => 0 : Nat → Int32) = nF (fun _ => 0) := rfl
theorem sb_xor {x y : Int32} {a b : Nat} (hx : x = nI a) (hy : y = nI b) : x ^^^ y = nI (a ^^^ b) := by
  rw [hx, hy]
  apply Int32.toBitVec_inj.1
  show BitVec.ofNat 32 a ^^^ BitVec.ofNat 32 b = BitVec.ofNat 32 (a ^^^ b)
  apply BitVec.eq_of_getLsbD_eq
  intro i hi
  simp [hi]
theorem sb_shl {x y : Int32} {a : Nat} (k : Nat) (hx : x = nI a) (ha : a * 2 ^ k < 2 ^ 32) (hy : ((y &&& 31).toBitVec.smod 32).toNat = k) : x <<< (y &&& 31) = nI (a * 2 ^ k) := by
  rw [hx]
  exact pk_shlN (y &&& 31) k hy ha
theorem sm31 : ∀ n, n < 32 → ((nI n &&& 31).toBitVec.smod 32).toNat = n := by decide +kernel
theorem sb_shrv {x y : Int32} {a n : Nat} (hx : x = nI a) (hy : y = nI n) (ha : a < 2 ^ 31) (hn : n < 32) : x >>> (y &&& 31) = nI (a / 2 ^ n) := by
  rw [hx, hy]
  exact pk_shrN ha (nI n &&& 31) n (sm31 n hn)
theorem xor_lt {a b : Nat} (ha : a < 256) (hb : b < 256) : a ^^^ b < 256 := Nat.xor_lt_two_pow (n := 8) ha hb
/-- a product in AES's field, as the reference does it -/
def gmX (x : Nat) : Nat := (x * 2) ^^^ (if x ≤ 127 then 0 else 283)
def gmS (b : Nat) (n : Nat) (q : Nat × Nat) : Nat × Nat := (if b / 2 ^ n % 2 = 1 then q.1 ^^^ q.2 else q.1, gmX q.2)
def gmN (a b : Nat) : Nat := (iter (gmS b) 8 (0, a)).1
theorem gmX_lt : ∀ x, x < 256 → gmX x < 256 := by decide +kernel
theorem gm_lt (a b : Nat) (ha : a < 256) : ∀ i, (iter (gmS b) i (0, a)).1 < 256 ∧ (iter (gmS b) i (0, a)).2 < 256
  | 0 => ⟨show 0 < 256 by omega, ha⟩
  | i + 1 => by
    have h := gm_lt a b ha i
    refine ⟨?_, gmX_lt _ h.2⟩
    show (if b / 2 ^ i % 2 = 1 then _ else _) < 256
    split
    · exact xor_lt h.1 h.2
    · exact h.1
theorem gmN_lt (a b : Nat) (ha : a < 256) : gmN a b < 256 := (gm_lt a b ha 8).1

/-- the fields of the reference -/
def mFs (f0 : Int32) (f1 : Nat) (f2 : Nat) (f3 : Nat) (f4 : Int32) (f5 : Int32) (f6 : Int32) (f7 : Int32) (f8 : Nat) (f9 : Nat) (f10 : Nat) (f11 : Int64) (f12 : Int32) (f13 : Int32) (f14 : Int32) (f15 : Int32) (f16 : Nat) (f17 : Nat) (f18 : Nat) (f19 : Nat) (f20 : Nat) (f21 : Int32) (f22 : Int64) (f23 : Int64) (f24 : Int64) (f25 : Int64) (f26 : Nat) (f27 : Nat) (f28 : Nat) (f29 : Nat) (f30 : Nat) (f31 : Nat) (f32 : Nat) (f33 : Nat) (f34 : Nat) : List Value := .int f0 :: .ref f1 :: .ref f2 :: .ref f3 :: .int f4 :: .int f5 :: .int f6 :: .int f7 :: .ref f8 :: .ref f9 :: .ref f10 :: .long f11 :: .int f12 :: .int f13 :: .int f14 :: .int f15 :: .ref f16 :: .ref f17 :: .ref f18 :: .ref f19 :: .ref f20 :: .int f21 :: .long f22 :: .long f23 :: .long f24 :: .long f25 :: .ref f26 :: .ref f27 :: .ref f28 :: .ref f29 :: .ref f30 :: .ref f31 :: .ref f32 :: .ref f33 :: .ref f34 :: []
