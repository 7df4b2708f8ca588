/-! AES, pure: a word is four bytes, the highest first -/
def aP (a b c d : BitVec 8) : BitVec 32 := (a ++ b) ++ (c ++ d)
theorem aP_bit (a b c d : BitVec 8) (i : Nat) : (aP a b c d).getLsbD i = if i < 8 then d.getLsbD i else if i < 16 then c.getLsbD (i - 8) else if i < 24 then b.getLsbD (i - 16) else a.getLsbD (i - 24) := by
  have h : (aP a b c d).getLsbD i = if i < 16 then (if i < 8 then d.getLsbD i else c.getLsbD (i - 8)) else (if i - 16 < 8 then b.getLsbD (i - 16) else a.getLsbD (i - 16 - 8)) := by
    have h1 : (aP a b c d).getLsbD i = if i < 16 then (c ++ d).getLsbD i else (a ++ b).getLsbD (i - 16) := BitVec.getLsbD_append
    rw [h1, BitVec.getLsbD_append, BitVec.getLsbD_append]
  rw [h]
  by_cases h1 : i < 8
  · simp [h1, show i < 16 by omega]
  · by_cases h2 : i < 16
    · simp [h1, h2]
    · by_cases h3 : i < 24
      · simp [h1, h2, h3, show i - 16 < 8 by omega]
      · simp [h1, h2, h3, show ¬ i - 16 < 8 by omega, show i - 16 - 8 = i - 24 by omega]
theorem aP_xor (a b c d e f g h : BitVec 8) : aP a b c d ^^^ aP e f g h = aP (a ^^^ e) (b ^^^ f) (c ^^^ g) (d ^^^ h) := by
  apply BitVec.eq_of_getLsbD_eq
  intro i _
  simp only [BitVec.getLsbD_xor, aP_bit]
  by_cases h1 : i < 8 <;> by_cases h2 : i < 16 <;> by_cases h3 : i < 24 <;> simp [h1, h2, h3]
theorem aP_or (a b c d e f g h : BitVec 8) : aP a b c d ||| aP e f g h = aP (a ||| e) (b ||| f) (c ||| g) (d ||| h) := by
  apply BitVec.eq_of_getLsbD_eq
  intro i _
  simp only [BitVec.getLsbD_or, aP_bit]
  by_cases h1 : i < 8 <;> by_cases h2 : i < 16 <;> by_cases h3 : i < 24 <;> simp [h1, h2, h3]
theorem aP_inj {a b c d e f g h : BitVec 8} (q : aP a b c d = aP e f g h) : a = e ∧ b = f ∧ c = g ∧ d = h := by
  have k : ∀ i, (aP a b c d).getLsbD i = (aP e f g h).getLsbD i := fun i => by rw [q]
  simp only [aP_bit] at k
  refine ⟨?_, ?_, ?_, ?_⟩ <;> (apply BitVec.eq_of_getLsbD_eq; intro i hi)
  · simpa [show ¬ i + 24 < 8 by omega, show ¬ i + 24 < 16 by omega, show ¬ i + 24 < 24 by omega] using k (i + 24)
  · simpa [show ¬ i + 16 < 8 by omega, show ¬ i + 16 < 16 by omega, show i + 16 < 24 by omega] using k (i + 16)
  · simpa [show ¬ i + 8 < 8 by omega, show i + 8 < 16 by omega] using k (i + 8)
  · simpa [hi] using k i
/-- every word is four bytes -/
def by0 (w : BitVec 32) : BitVec 8 := w.extractLsb' 24 8
def by1 (w : BitVec 32) : BitVec 8 := w.extractLsb' 16 8
def by2 (w : BitVec 32) : BitVec 8 := w.extractLsb' 8 8
def by3 (w : BitVec 32) : BitVec 8 := w.extractLsb' 0 8
theorem aP_by (w : BitVec 32) : aP (by0 w) (by1 w) (by2 w) (by3 w) = w := by
  apply BitVec.eq_of_getLsbD_eq
  intro i hi
  rw [aP_bit]
  simp only [by0, by1, by2, by3, BitVec.getLsbD_extractLsb']
  by_cases h1 : i < 8
  · simp [h1]
  · by_cases h2 : i < 16
    · simp [h1, h2, show i - 8 < 8 by omega, show 8 + (i - 8) = i by omega]
    · by_cases h3 : i < 24
      · simp [h1, h2, h3, show i - 16 < 8 by omega, show 16 + (i - 16) = i by omega]
      · simp [h1, h2, h3, show i - 24 < 8 by omega, show 24 + (i - 24) = i by omega]
theorem aP_split (a b c d : BitVec 8) : aP a b c d = aP a 0#8 0#8 0#8 ^^^ aP 0#8 b 0#8 0#8 ^^^ aP 0#8 0#8 c 0#8 ^^^ aP 0#8 0#8 0#8 d := by
  simp only [aP_xor, BitVec.xor_zero, BitVec.zero_xor]
/-- a map that is linear, byte by byte -/
theorem aP_lin {F : BitVec 32 → BitVec 32} (hF : ∀ x y, F (x ^^^ y) = F x ^^^ F y) (a b c d : BitVec 8) : F (aP a b c d) = F (aP a 0#8 0#8 0#8) ^^^ F (aP 0#8 b 0#8 0#8) ^^^ F (aP 0#8 0#8 c 0#8) ^^^ F (aP 0#8 0#8 0#8 d) := by
  rw [aP_split, hF, hF, hF]
theorem bv_and_xor (x y z : BitVec 32) : (x ^^^ y) &&& z = (x &&& z) ^^^ (y &&& z) := by
  apply BitVec.eq_of_getLsbD_eq
  intro i _
  simp only [BitVec.getLsbD_and, BitVec.getLsbD_xor]
  cases x.getLsbD i <;> cases y.getLsbD i <;> cases z.getLsbD i <;> rfl
theorem xo4w (x y p q : BitVec 32) : x ^^^ y ^^^ (p ^^^ q) = x ^^^ p ^^^ (y ^^^ q) := by
  apply BitVec.eq_of_getLsbD_eq
  intro i hi
  simp only [BitVec.getLsbD_xor]
  cases x.getLsbD i <;> cases y.getLsbD i <;> cases p.getLsbD i <;> cases q.getLsbD i <;> rfl
/-- a rotation: its two halves don't meet -/
theorem rot_xor (w : BitVec 32) (k : Nat) (hk : k ≤ 32) : w <<< k ||| w >>> (32 - k) = w <<< k ^^^ w >>> (32 - k) := by
  apply BitVec.eq_of_getLsbD_eq
  intro i hi
  simp only [BitVec.getLsbD_or, BitVec.getLsbD_xor, BitVec.getLsbD_shiftLeft, BitVec.getLsbD_ushiftRight]
  by_cases h : i < k
  · simp [h]
  · rw [BitVec.getLsbD_of_ge w (32 - k + i) (by omega)]
    simp
theorem rot_lin (k : Nat) (x y : BitVec 32) : (x ^^^ y) <<< k ^^^ (x ^^^ y) >>> (32 - k) = (x <<< k ^^^ x >>> (32 - k)) ^^^ (y <<< k ^^^ y >>> (32 - k)) := by
  rw [BitVec.shiftLeft_xor_distrib, BitVec.ushiftRight_xor_distrib, xo4w]
def rotB (k : Nat) (w : BitVec 32) : BitVec 32 := w <<< k ||| w >>> (32 - k)
theorem rotB_lin (k : Nat) (hk : k ≤ 32) (x y : BitVec 32) : rotB k (x ^^^ y) = rotB k x ^^^ rotB k y := by
  unfold rotB
  rw [rot_xor _ k hk, rot_xor _ k hk, rot_xor _ k hk, rot_lin]
theorem rot8 (a b c d : BitVec 8) : rotB 8 (aP a b c d) = aP b c d a := by
  rw [aP_lin (rotB_lin 8 (by omega)), (by decide +kernel : ∀ a, rotB 8 (aP a 0#8 0#8 0#8) = aP 0#8 0#8 0#8 a) a, (by decide +kernel : ∀ a, rotB 8 (aP 0#8 a 0#8 0#8) = aP a 0#8 0#8 0#8) b,
    (by decide +kernel : ∀ a, rotB 8 (aP 0#8 0#8 a 0#8) = aP 0#8 a 0#8 0#8) c, (by decide +kernel : ∀ a, rotB 8 (aP 0#8 0#8 0#8 a) = aP 0#8 0#8 a 0#8) d]
  simp only [aP_xor, BitVec.xor_zero, BitVec.zero_xor]
theorem rot16 (a b c d : BitVec 8) : rotB 16 (aP a b c d) = aP c d a b := by
  rw [aP_lin (rotB_lin 16 (by omega)), (by decide +kernel : ∀ a, rotB 16 (aP a 0#8 0#8 0#8) = aP 0#8 0#8 a 0#8) a, (by decide +kernel : ∀ a, rotB 16 (aP 0#8 a 0#8 0#8) = aP 0#8 0#8 0#8 a) b,
    (by decide +kernel : ∀ a, rotB 16 (aP 0#8 0#8 a 0#8) = aP a 0#8 0#8 0#8) c, (by decide +kernel : ∀ a, rotB 16 (aP 0#8 0#8 0#8 a) = aP 0#8 a 0#8 0#8) d]
  simp only [aP_xor, BitVec.xor_zero, BitVec.zero_xor]
theorem rot24 (a b c d : BitVec 8) : rotB 24 (aP a b c d) = aP d a b c := by
  rw [aP_lin (rotB_lin 24 (by omega)), (by decide +kernel : ∀ a, rotB 24 (aP a 0#8 0#8 0#8) = aP 0#8 a 0#8 0#8) a, (by decide +kernel : ∀ a, rotB 24 (aP 0#8 a 0#8 0#8) = aP 0#8 0#8 a 0#8) b,
    (by decide +kernel : ∀ a, rotB 24 (aP 0#8 0#8 a 0#8) = aP 0#8 0#8 0#8 a) c, (by decide +kernel : ∀ a, rotB 24 (aP 0#8 0#8 0#8 a) = aP a 0#8 0#8 0#8) d]
  simp only [aP_xor, BitVec.xor_zero, BitVec.zero_xor]
/-- a byte times 2 in AES's field -/
def x2 (a : BitVec 8) : BitVec 8 := a <<< 1 ^^^ (bif a.msb then 0x1b#8 else 0#8)
theorem x2_xor : ∀ a b : BitVec 8, x2 (a ^^^ b) = x2 a ^^^ x2 b := by
  intro a b
  unfold x2
  rw [BitVec.shiftLeft_xor_distrib, BitVec.msb_xor]
  apply BitVec.eq_of_getLsbD_eq
  intro i _
  cases a.msb <;> cases b.msb <;> simp only [BitVec.getLsbD_xor, Bool.xor_false, Bool.xor_true, Bool.false_xor, Bool.true_xor, Bool.not_true, Bool.not_false, cond_true, cond_false] <;>
    cases (a <<< 1).getLsbD i <;> cases (b <<< 1).getLsbD i <;> cases (0x1b#8).getLsbD i <;> simp
def tb (a : BitVec 8) : BitVec 8 := bif a.msb then 1#8 else 0#8
def dblM (w : BitVec 32) : BitVec 32 := w >>> 7 &&& 0x01010101#32
theorem dblM_lin (x y : BitVec 32) : dblM (x ^^^ y) = dblM x ^^^ dblM y := by
  unfold dblM
  rw [BitVec.ushiftRight_xor_distrib, bv_and_xor]
theorem dblM_P (a b c d : BitVec 8) : dblM (aP a b c d) = aP (tb a) (tb b) (tb c) (tb d) := by
  rw [aP_lin dblM_lin, (by decide +kernel : ∀ a, dblM (aP a 0#8 0#8 0#8) = aP (tb a) 0#8 0#8 0#8) a, (by decide +kernel : ∀ a, dblM (aP 0#8 a 0#8 0#8) = aP 0#8 (tb a) 0#8 0#8) b,
    (by decide +kernel : ∀ a, dblM (aP 0#8 0#8 a 0#8) = aP 0#8 0#8 (tb a) 0#8) c, (by decide +kernel : ∀ a, dblM (aP 0#8 0#8 0#8 a) = aP 0#8 0#8 0#8 (tb a)) d]
  simp only [aP_xor, BitVec.xor_zero, BitVec.zero_xor]
def dblH (w : BitVec 32) : BitVec 32 := (w &&& 0x7f7f7f7f#32) <<< 1
theorem dblH_lin (x y : BitVec 32) : dblH (x ^^^ y) = dblH x ^^^ dblH y := by
  unfold dblH
  rw [bv_and_xor, BitVec.shiftLeft_xor_distrib]
theorem dblH_P (a b c d : BitVec 8) : dblH (aP a b c d) = aP (a <<< 1) (b <<< 1) (c <<< 1) (d <<< 1) := by
  rw [aP_lin dblH_lin, (by decide +kernel : ∀ a, dblH (aP a 0#8 0#8 0#8) = aP (a <<< 1) 0#8 0#8 0#8) a, (by decide +kernel : ∀ a, dblH (aP 0#8 a 0#8 0#8) = aP 0#8 (a <<< 1) 0#8 0#8) b,
    (by decide +kernel : ∀ a, dblH (aP 0#8 0#8 a 0#8) = aP 0#8 0#8 (a <<< 1) 0#8) c, (by decide +kernel : ∀ a, dblH (aP 0#8 0#8 0#8 a) = aP 0#8 0#8 0#8 (a <<< 1)) d]
  simp only [aP_xor, BitVec.xor_zero, BitVec.zero_xor]
theorem mul27 : ∀ p q r t : Bool, aP (bif p then 1#8 else 0#8) (bif q then 1#8 else 0#8) (bif r then 1#8 else 0#8) (bif t then 1#8 else 0#8) * 0x1b#32 =
    aP (bif p then 0x1b#8 else 0#8) (bif q then 0x1b#8 else 0#8) (bif r then 0x1b#8 else 0#8) (bif t then 0x1b#8 else 0#8) := by decide +kernel
def dblB (w : BitVec 32) : BitVec 32 := dblH w ^^^ dblM w * 0x1b#32
theorem dblB_P (a b c d : BitVec 8) : dblB (aP a b c d) = aP (x2 a) (x2 b) (x2 c) (x2 d) := by
  unfold dblB
  rw [dblM_P, dblH_P]
  unfold tb
  rw [mul27, aP_xor]
  rfl
/-- MixColumns of one column, as the class does it -/
def mixB (w : BitVec 32) : BitVec 32 := ((dblB (w ^^^ rotB 8 w) ^^^ rotB 8 w) ^^^ rotB 16 w) ^^^ rotB 24 w
theorem mixB_P (a b c d : BitVec 8) : mixB (aP a b c d) = aP (x2 a ^^^ x2 b ^^^ b ^^^ c ^^^ d) (x2 b ^^^ x2 c ^^^ c ^^^ d ^^^ a) (x2 c ^^^ x2 d ^^^ d ^^^ a ^^^ b) (x2 d ^^^ x2 a ^^^ a ^^^ b ^^^ c) := by
  unfold mixB
  rw [rot8, rot16, rot24, aP_xor, dblB_P, aP_xor, aP_xor, aP_xor]
  simp only [x2_xor]
/-- bytes of a word, and a word of bytes -/
theorem byt0 (a b c d : BitVec 8) : (aP a b c d >>> 24).toNat = a.toNat := by
  have h : aP a b c d >>> 24 = aP 0#8 0#8 0#8 a := by
    rw [aP_lin (F := fun w => w >>> 24) (fun x y => BitVec.ushiftRight_xor_distrib x y 24)]
    simp only [(by decide +kernel : ∀ a, aP a 0#8 0#8 0#8 >>> 24 = aP 0#8 0#8 0#8 a), (by decide +kernel : ∀ a, aP 0#8 a 0#8 0#8 >>> 24 = aP 0#8 0#8 0#8 0#8),
      (by decide +kernel : ∀ a, aP 0#8 0#8 a 0#8 >>> 24 = aP 0#8 0#8 0#8 0#8), (by decide +kernel : ∀ a, aP 0#8 0#8 0#8 a >>> 24 = aP 0#8 0#8 0#8 0#8), aP_xor, BitVec.xor_zero, BitVec.zero_xor]
  rw [h]
  exact (by decide +kernel : ∀ a, (aP 0#8 0#8 0#8 a).toNat = a.toNat) a
theorem low1 : ∀ a, (aP 0#8 0#8 0#8 a).toNat = a.toNat := by decide +kernel
def bytF (k : Nat) (w : BitVec 32) : BitVec 32 := w >>> k &&& 255#32
theorem bytF_lin (k : Nat) (x y : BitVec 32) : bytF k (x ^^^ y) = bytF k x ^^^ bytF k y := by
  unfold bytF
  rw [BitVec.ushiftRight_xor_distrib, bv_and_xor]
theorem byt24 (a b c d : BitVec 8) : bytF 24 (aP a b c d) = aP 0#8 0#8 0#8 a := by
  rw [aP_lin (bytF_lin 24), (by decide +kernel : ∀ a, bytF 24 (aP a 0#8 0#8 0#8) = aP 0#8 0#8 0#8 a) a, (by decide +kernel : ∀ a, bytF 24 (aP 0#8 a 0#8 0#8) = aP 0#8 0#8 0#8 0#8) b,
    (by decide +kernel : ∀ a, bytF 24 (aP 0#8 0#8 a 0#8) = aP 0#8 0#8 0#8 0#8) c, (by decide +kernel : ∀ a, bytF 24 (aP 0#8 0#8 0#8 a) = aP 0#8 0#8 0#8 0#8) d]
  simp only [aP_xor, BitVec.xor_zero, BitVec.zero_xor]
theorem byt16 (a b c d : BitVec 8) : bytF 16 (aP a b c d) = aP 0#8 0#8 0#8 b := by
  rw [aP_lin (bytF_lin 16), (by decide +kernel : ∀ a, bytF 16 (aP a 0#8 0#8 0#8) = aP 0#8 0#8 0#8 0#8) a, (by decide +kernel : ∀ a, bytF 16 (aP 0#8 a 0#8 0#8) = aP 0#8 0#8 0#8 a) b,
    (by decide +kernel : ∀ a, bytF 16 (aP 0#8 0#8 a 0#8) = aP 0#8 0#8 0#8 0#8) c, (by decide +kernel : ∀ a, bytF 16 (aP 0#8 0#8 0#8 a) = aP 0#8 0#8 0#8 0#8) d]
  simp only [aP_xor, BitVec.xor_zero, BitVec.zero_xor]
theorem byt8 (a b c d : BitVec 8) : bytF 8 (aP a b c d) = aP 0#8 0#8 0#8 c := by
  rw [aP_lin (bytF_lin 8), (by decide +kernel : ∀ a, bytF 8 (aP a 0#8 0#8 0#8) = aP 0#8 0#8 0#8 0#8) a, (by decide +kernel : ∀ a, bytF 8 (aP 0#8 a 0#8 0#8) = aP 0#8 0#8 0#8 0#8) b,
    (by decide +kernel : ∀ a, bytF 8 (aP 0#8 0#8 a 0#8) = aP 0#8 0#8 0#8 a) c, (by decide +kernel : ∀ a, bytF 8 (aP 0#8 0#8 0#8 a) = aP 0#8 0#8 0#8 0#8) d]
  simp only [aP_xor, BitVec.xor_zero, BitVec.zero_xor]
theorem bytL (a b c d : BitVec 8) : bytF 0 (aP a b c d) = aP 0#8 0#8 0#8 d := by
  rw [aP_lin (bytF_lin 0), (by decide +kernel : ∀ a, bytF 0 (aP a 0#8 0#8 0#8) = aP 0#8 0#8 0#8 0#8) a, (by decide +kernel : ∀ a, bytF 0 (aP 0#8 a 0#8 0#8) = aP 0#8 0#8 0#8 0#8) b,
    (by decide +kernel : ∀ a, bytF 0 (aP 0#8 0#8 a 0#8) = aP 0#8 0#8 0#8 0#8) c, (by decide +kernel : ∀ a, bytF 0 (aP 0#8 0#8 0#8 a) = aP 0#8 0#8 0#8 a) d]
  simp only [aP_xor, BitVec.xor_zero, BitVec.zero_xor]
theorem ofBytes (a b c d : BitVec 8) : ((aP 0#8 0#8 0#8 a <<< 24 ||| aP 0#8 0#8 0#8 b <<< 16) ||| aP 0#8 0#8 0#8 c <<< 8) ||| aP 0#8 0#8 0#8 d = aP a b c d := by
  rw [(by decide +kernel : ∀ a, aP 0#8 0#8 0#8 a <<< 24 = aP a 0#8 0#8 0#8) a, (by decide +kernel : ∀ a, aP 0#8 0#8 0#8 a <<< 16 = aP 0#8 a 0#8 0#8) b, (by decide +kernel : ∀ a, aP 0#8 0#8 0#8 a <<< 8 = aP 0#8 0#8 a 0#8) c,
    aP_or, aP_or, aP_or]
  simp only [BitVec.or_zero, BitVec.zero_or]
