/-! the reference's own steps, purely -/
def By (g : Nat → Nat) : Prop := ∀ j, g j < 256
theorem By.u {g : Nat → Nat} {k v : Nat} (h : By g) (hv : v < 256) : By (updN g k v) := fun j => by
  unfold updN
  split
  · exact hv
  · exact h j
theorem By.z : By (fun _ => 0) := fun _ => show 0 < 256 by omega
theorem iter_P {α : Type} {P : α → Prop} {f : Nat → α → α} (h : ∀ i a, P a → P (f i a)) : ∀ (n : Nat) (a : α), P a → P (iter f n a)
  | 0, _, ha => ha
  | n + 1, a, ha => by rw [iter_s]; exact h _ _ (iter_P h n a ha)
theorem sb_or {x y : Int32} {a b : Nat} (hx : x = nI a) (hy : y = nI b) : x ||| y = nI (a ||| b) := by
  rw [hx, hy]
  apply Int32.toBitVec_inj.1
  show BitVec.ofNat 32 a ||| BitVec.ofNat 32 b = BitVec.ofNat 32 (a ||| b)
  apply BitVec.eq_of_getLsbD_eq
  intro i hi
  simp [hi]
theorem sb_shlv {x y : Int32} {a n : Nat} (hx : x = nI a) (hy : y = nI n) (ha : a * 2 ^ n < 2 ^ 32) (hn : n < 32) : x <<< (y &&& 31) = nI (a * 2 ^ n) := by
  rw [hx, hy]
  exact pk_shlN (nI n &&& 31) n (sm31 n hn) ha
def byI (x : Int32) (k : Nat) : Nat := x.toBitVec.toNat / 2 ^ k % 256
theorem byI_lt (x : Int32) (k : Nat) : byI x k < 256 := Nat.mod_lt _ (by omega)
theorem um32 : ∀ n, n < 32 → (((nI n).toUInt32 &&& Int32.toUInt32 31).toBitVec % 32).toNat = n := by decide +kernel
theorem sb_by {x y : Int32} {k : Nat} (hy : y = nI k) (hk : k < 32) : uS x y &&& 255 = nI (byI x k) := by
  rw [hy, pk_and (uS x (nI k)) (m := 255) 8 (by decide)]
  exact congrArg (fun z => nI (z % 256)) (pk_ushr x (nI k) k (um32 k hk))
theorem sb_by0 (x : Int32) : x &&& 255 = nI (byI x 0) := by
  rw [pk_and x (m := 255) 8 (by decide)]
  unfold byI
  rw [Nat.pow_zero, Nat.div_one]
def byL (x : Int64) (k : Nat) : Nat := x.toBitVec.toNat / 2 ^ k % 256
theorem byL_lt (x : Int64) (k : Nat) : byL x k < 256 := Nat.mod_lt _ (by omega)
theorem um64 : ∀ n, n < 64 → ((nI n).toInt64.toUInt64 &&& Int64.toUInt64 63).toBitVec % 64 = BitVec.ofNat 64 n := by decide +kernel
theorem uL_bv (x : Int64) {k : Nat} (hk : k < 64) : (uL x (nI k)).toBitVec = x.toBitVec >>> k := by
  show x.toBitVec >>> (((nI k).toInt64.toUInt64 &&& Int64.toUInt64 63).toBitVec % 64) = _
  rw [um64 k hk, BitVec.ushiftRight_eq', BitVec.toNat_ofNat, Nat.mod_eq_of_lt (by omega)]
theorem sb_byL {x : Int64} {y : Int32} {k : Nat} (hy : y = nI k) (hk : k < 64) : (uL x y &&& 255).toInt32 = nI (byL x k) := by
  rw [hy]
  apply Int32.toBitVec_inj.1
  show ((uL x (nI k)).toBitVec &&& 255#64).signExtend 32 = BitVec.ofNat 32 (byL x k)
  rw [uL_bv x hk, BitVec.signExtend_eq_setWidth_of_le _ (by omega)]
  apply BitVec.eq_of_toNat_eq
  rw [BitVec.toNat_setWidth, BitVec.toNat_and, BitVec.toNat_ushiftRight, BitVec.toNat_ofNat, Nat.shiftRight_eq_div_pow]
  show (x.toBitVec.toNat / 2 ^ k &&& (2 ^ 8 - 1)) % 2 ^ 32 = byL x k % 2 ^ 32
  rw [Nat.and_two_pow_sub_one_eq_mod]
  rfl
/-- copies, a number a turn -/
def nCpy (k : Nat → Nat) (i : Nat) (g : Nat → Nat) : Nat → Nat := updN g i (k i)
theorem nCpy_B {k : Nat → Nat} (hk : By k) (n : Nat) (g : Nat → Nat) (h : By g) : By (iter (nCpy k) n g) := iter_P (fun _ _ ha => ha.u (hk _)) n g h
/-- the key schedule -/
def kFour (rd : Nat → Nat) (w i : Nat) (g : Nat → Nat) : Nat → Nat := updN g i (rd (4 * w - 4 + i))
def kSub (S : Nat → Nat) (first i : Nat) (g : Nat → Nat) : Nat → Nat := updN g i (if 3 ≤ i then S first else S (g (i + 1)))
def kSub1 (S : Nat → Nat) (i : Nat) (g : Nat → Nat) : Nat → Nat := updN g i (S (g i))
def kMix (fo : Nat → Nat) (w kw i : Nat) (g : Nat → Nat) : Nat → Nat := updN g (4 * w + i) (g (4 * (w - kw) + i) ^^^ fo i)
theorem kFour_B {rd : Nat → Nat} (hr : By rd) (w n : Nat) (g : Nat → Nat) (h : By g) : By (iter (kFour rd w) n g) := iter_P (fun _ _ ha => ha.u (hr _)) n g h
theorem kSub_B {S : Nat → Nat} (hS : By S) (f n : Nat) (g : Nat → Nat) (h : By g) : By (iter (kSub S f) n g) := iter_P (fun i _ ha => ha.u (by by_cases c : 3 ≤ i <;> simp only [c, if_true, if_false] <;> exact hS _)) n g h
theorem kSub1_B {S : Nat → Nat} (hS : By S) (n : Nat) (g : Nat → Nat) (h : By g) : By (iter (kSub1 S) n g) := iter_P (fun _ _ ha => ha.u (hS _)) n g h
theorem kMix_B {fo : Nat → Nat} (hf : By fo) (w kw n : Nat) (g : Nat → Nat) (h : By g) : By (iter (kMix fo w kw) n g) := iter_P (fun _ _ ha => ha.u (xor_lt (ha _) (hf _))) n g h
abbrev kQ : Type := Nat × (Nat → Nat) × (Nat → Nat)
def kF1 (w : Nat) (q : kQ) : Nat → Nat := iter (kFour q.2.2 w) 4 q.2.1
def kF2 (S : Nat → Nat) (w : Nat) (q : kQ) : Nat → Nat := iter (kSub S (kF1 w q 0)) 4 (kF1 w q)
def kF3 (S : Nat → Nat) (w : Nat) (q : kQ) : Nat → Nat := updN (kF2 S w q) 0 (kF2 S w q 0 ^^^ q.1)
def kF4 (S : Nat → Nat) (w : Nat) (q : kQ) : Nat → Nat := iter (kSub1 S) 4 (kF1 w q)
def kStep (S : Nat → Nat) (kw j : Nat) (q : kQ) : kQ :=
  if (kw + j) % kw = 0 then (gmN q.1 2, kF3 S (kw + j) q, iter (kMix (kF3 S (kw + j) q) (kw + j) kw) 4 q.2.2)
  else if (kw + j) % kw = 4 then (q.1, kF4 S (kw + j) q, iter (kMix (kF4 S (kw + j) q) (kw + j) kw) 4 q.2.2)
  else (q.1, kF1 (kw + j) q, iter (kMix (kF1 (kw + j) q) (kw + j) kw) 4 q.2.2)
def kB (q : kQ) : Prop := q.1 < 256 ∧ By q.2.1 ∧ By q.2.2
theorem kF1_B {q : kQ} (h : kB q) (w : Nat) : By (kF1 w q) := kFour_B h.2.2 w 4 _ h.2.1
theorem kF2_B {S : Nat → Nat} (hS : By S) {q : kQ} (h : kB q) (w : Nat) : By (kF2 S w q) := kSub_B hS _ 4 _ (kF1_B h w)
theorem kF3_B {S : Nat → Nat} (hS : By S) {q : kQ} (h : kB q) (w : Nat) : By (kF3 S w q) := (kF2_B hS h w).u (xor_lt (kF2_B hS h w 0) h.1)
theorem kF4_B {S : Nat → Nat} (hS : By S) {q : kQ} (h : kB q) (w : Nat) : By (kF4 S w q) := kSub1_B hS 4 _ (kF1_B h w)
theorem kStep_B {S : Nat → Nat} (hS : By S) (kw j : Nat) {q : kQ} (h : kB q) : kB (kStep S kw j q) := by
  unfold kStep
  split
  · exact ⟨gmN_lt q.1 2 h.1, kF3_B hS h _, kMix_B (kF3_B hS h _) _ _ 4 _ h.2.2⟩
  · split
    · exact ⟨h.1, kF4_B hS h _, kMix_B (kF4_B hS h _) _ _ 4 _ h.2.2⟩
    · exact ⟨h.1, kF1_B h _, kMix_B (kF1_B h _) _ _ 4 _ h.2.2⟩
def kSch (S key : Nat → Nat) (kw : Nat) (fo rd : Nat → Nat) (j : Nat) : kQ := iter (kStep S kw) j (1, fo, iter (nCpy key) (4 * kw) rd)
theorem kSch_B {S key fo rd : Nat → Nat} (hS : By S) (hk : By key) (hf : By fo) (hr : By rd) (kw j : Nat) : kB (kSch S key kw fo rd j) :=
  iter_P (P := kB) (fun i _ h => kStep_B hS kw i h) j _ ⟨show 1 < 256 by omega, hf, nCpy_B hk _ _ hr⟩
/-- a turn of a block -/
def tXor (rd : Nat → Nat) (i : Nat) (g : Nat → Nat) : Nat → Nat := updN g i (g i ^^^ rd i)
def tSub (S st : Nat → Nat) (i : Nat) (g : Nat → Nat) : Nat → Nat := updN g i (S (st (5 * i % 16)))
def tMix (rd mv : Nat → Nat) (rn r i : Nat) (g : Nat → Nat) : Nat → Nat :=
  updN g i ((if rn ≤ r then mv i else gmN (mv i) 2 ^^^ gmN (mv (i / 4 * 4 + (i % 4 + 1) % 4)) 3 ^^^ mv (i / 4 * 4 + (i % 4 + 2) % 4) ^^^ mv (i / 4 * 4 + (i % 4 + 3) % 4)) ^^^ rd (16 * r + i))
abbrev N2 : Type := (Nat → Nat) × (Nat → Nat)
def trS (S rd : Nat → Nat) (rn i : Nat) (q : N2) : N2 := (iter (tMix rd (iter (tSub S q.1) 16 q.2) rn (1 + i)) 16 q.1, iter (tSub S q.1) 16 q.2)
def turnN (S rd : Nat → Nat) (rn : Nat) (st mv : Nat → Nat) (i : Nat) : N2 := iter (trS S rd rn) i (iter (tXor rd) 16 st, mv)
theorem tXor_B {rd : Nat → Nat} (hr : By rd) (n : Nat) (g : Nat → Nat) (h : By g) : By (iter (tXor rd) n g) := iter_P (fun _ _ ha => ha.u (xor_lt (ha _) (hr _))) n g h
theorem tSub_B {S : Nat → Nat} (hS : By S) (st : Nat → Nat) (n : Nat) (g : Nat → Nat) (h : By g) : By (iter (tSub S st) n g) := iter_P (fun _ _ ha => ha.u (hS _)) n g h
theorem tMix_B {rd mv : Nat → Nat} (hr : By rd) (hm : By mv) (rn r n : Nat) (g : Nat → Nat) (h : By g) : By (iter (tMix rd mv rn r) n g) :=
  iter_P (fun i _ ha => ha.u (by
    refine xor_lt ?_ (hr _)
    split
    · exact hm _
    · exact xor_lt (xor_lt (xor_lt (gmN_lt _ _ (hm _)) (gmN_lt _ _ (hm _))) (hm _)) (hm _))) n g h
theorem turnN_B {S rd st mv : Nat → Nat} (hS : By S) (hr : By rd) (hs : By st) (hm : By mv) (rn i : Nat) : By (turnN S rd rn st mv i).1 ∧ By (turnN S rd rn st mv i).2 :=
  iter_P (P := fun q : N2 => By q.1 ∧ By q.2) (fun _ _ h => ⟨tMix_B hr (tSub_B hS _ 16 _ h.2) _ _ 16 _ h.1, tSub_B hS _ 16 _ h.2⟩) i _ ⟨tXor_B hr 16 _ hs, hm⟩
def ctB (n : Int32) (i : Nat) (g : Nat → Nat) : Nat → Nat := updN g (12 + i) (byI n (24 - 8 * i))
def cntN (no : Nat → Nat) (n : Int32) (st : Nat → Nat) : Nat → Nat := iter (ctB n) 4 (iter (nCpy no) 12 st)
theorem cntN_B {no st : Nat → Nat} (hn : By no) (n : Int32) (hs : By st) : By (cntN no n st) := iter_P (fun _ _ ha => ha.u (byI_lt _ _)) 4 _ (nCpy_B hn 12 _ hs)
/-- GHASH, a bit a turn -/
abbrev L4 : Type := Int64 × Int64 × Int64 × Int64
def smBit (ah al : Int64) (n : Nat) : Int64 := if 64 ≤ n then uL al (nI (127 - n)) &&& 1 else uL ah (nI (63 - n)) &&& 1
def smS (ah al : Int64) (n : Nat) (q : L4) : L4 :=
  (if lg_cmp (smBit ah al n) 1 = 0 then q.1 ^^^ q.2.2.1 else q.1, if lg_cmp (smBit ah al n) 1 = 0 then q.2.1 ^^^ q.2.2.2 else q.2.1,
   if lg_cmp (q.2.2.2 &&& 1) 1 = 0 then uL q.2.2.1 1 ^^^ -2233785415175766016 else uL q.2.2.1 1, uL q.2.2.2 1 ||| sL q.2.2.1 63)
def smI (kh kl ah al : Int64) (i : Nat) : L4 := iter (smS ah al) i (0, 0, kh, kl)
def smx (kh kl : Int64) (z : Int64 × Int64) (a b : Int64) : Int64 × Int64 := ((smI kh kl (z.1 ^^^ a) (z.2 ^^^ b) 128).1, (smI kh kl (z.1 ^^^ a) (z.2 ^^^ b) 128).2.1)
def sRow (kh kl : Int64) (g : Nat → Nat) (z : Nat) (i : Nat) (q : Int64 × Int64) : Int64 × Int64 := smx kh kl (q.1, q.2) (m8 g (16 * i) z) (m8 g (16 * i + 8) z)
def sRowx (kh kl : Int64) (g : Nat → Nat) (z : Nat) (i : Nat) (q : Int64 × Int64) : Int64 × Int64 := iter (sRow kh kl g z) i q
def nZero (i : Nat) (g : Nat → Nat) : Nat → Nat := updN g i 0
theorem nZero_B (n : Nat) (g : Nat → Nat) (h : By g) : By (iter nZero n g) := iter_P (fun _ _ ha => ha.u (by decide)) n g h
def tgA (st : Nat → Nat) (sh sl : Int64) (i : Nat) (g : Nat → Nat) : Nat → Nat := updN g i (st i ^^^ (if 8 ≤ i then byL sl (120 - 8 * i) else byL sh (56 - 8 * i)))
theorem tgA_B {st : Nat → Nat} (hs : By st) (sh sl : Int64) (n : Nat) (g : Nat → Nat) (h : By g) : By (iter (tgA st sh sl) n g) := iter_P (fun i _ ha => ha.u (xor_lt (hs _) (by split <;> exact byL_lt _ _))) n g h
/-- ChaCha20 -/
def cW1 (key : Nat → Nat) (i : Nat) (w : Nat → Int32) : Nat → Int32 := upd w (4 + i) (mlit key (4 * i))
def cW2 (no : Nat → Nat) (i : Nat) (w : Nat → Int32) : Nat → Int32 := upd w (13 + i) (mlit no (4 * i))
def cWord (key no : Nat → Nat) (n : Int32) (w : Nat → Int32) : Nat → Int32 := iter (cW2 no) 3 (upd (iter (cW1 key) 8 (upd (upd (upd (upd w 0 1634760805) 1 857760878) 2 2036477234) 3 1797285236)) 12 n)
def cCpy (w : Nat → Int32) (i : Nat) (g : Nat → Int32) : Nat → Int32 := upd g i (w i)
def cTurn (w tr : Nat → Int32) : Nat → Int32 := iter (fun _ g => crnd g) 10 (iter (cCpy w) 16 tr)
def cStr (w tr : Nat → Int32) (i : Nat) (g : Nat → Nat) : Nat → Nat := updN g i (byI (tr (i / 4) + w (i / 4)) (8 * (i % 4)))
def cStrx (w tr : Nat → Int32) (sm : Nat → Nat) : Nat → Nat := iter (cStr w tr) 64 sm
theorem cStr_B (w tr : Nat → Int32) (n : Nat) (g : Nat → Nat) (h : By g) : By (iter (cStr w tr) n g) := iter_P (fun _ _ ha => ha.u (byI_lt _ _)) n g h
