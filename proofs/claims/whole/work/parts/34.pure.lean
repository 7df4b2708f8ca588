/-! class and reference: bytes and words -/
abbrev Bt (n : Nat) : BitVec 8 := BitVec.ofNat 8 n
def Wd (a b c d : BitVec 8) : Int32 := Int32.ofBitVec (aP a b c d)
theorem Wd_bv (a b c d : BitVec 8) : (Wd a b c d).toBitVec = aP a b c d := rfl
theorem Wd_eq {x : Int32} {a b c d : BitVec 8} (h : x.toBitVec = aP a b c d) : x = Wd a b c d := Int32.toBitVec_inj.1 h
theorem Bt_n {n : Nat} (h : n < 256) : (Bt n).toNat = n := by
  show n % 2 ^ 8 = n
  omega
theorem Bt_xor (a b : Nat) : Bt (a ^^^ b) = Bt a ^^^ Bt b := by
  apply BitVec.eq_of_getLsbD_eq
  intro i hi
  simp [hi]
theorem Wd_xor (a b c d e f g h : BitVec 8) : Wd a b c d ^^^ Wd e f g h = Wd (a ^^^ e) (b ^^^ f) (c ^^^ g) (d ^^^ h) := Wd_eq (aP_xor ..)
theorem Wd_inj {a b c d e f g h : BitVec 8} (q : Wd a b c d = Wd e f g h) : a = e ∧ b = f ∧ c = g ∧ d = h := aP_inj (congrArg Int32.toBitVec q)
theorem low1W (a : BitVec 8) : nI a.toNat = Wd 0#8 0#8 0#8 a := by
  apply Wd_eq
  apply BitVec.eq_of_toNat_eq
  rw [low1 a]
  exact pk_tn (by have := a.isLt; omega)
theorem nI_Wd {n : Nat} (h : n < 256) : nI n = Wd 0#8 0#8 0#8 (Bt n) := by
  have := low1W (Bt n)
  rwa [Bt_n h] at this
theorem b0W (a b c d : BitVec 8) : b0n (Wd a b c d) = a.toNat := by
  have h := byt0 a b c d
  rw [BitVec.toNat_ushiftRight, Nat.shiftRight_eq_div_pow] at h
  exact h
theorem bF_n (k : Nat) (w : BitVec 32) : (bytF k w).toNat = w.toNat / 2 ^ k % 256 := by
  unfold bytF
  rw [BitVec.toNat_and, BitVec.toNat_ushiftRight, Nat.shiftRight_eq_div_pow]
  exact Nat.and_two_pow_sub_one_eq_mod _ 8
theorem b1W (a b c d : BitVec 8) : b1n (Wd a b c d) = b.toNat := by
  have h := bF_n 16 (aP a b c d)
  rw [byt16, low1] at h
  exact h.symm
theorem b2W (a b c d : BitVec 8) : b2n (Wd a b c d) = c.toNat := by
  have h := bF_n 8 (aP a b c d)
  rw [byt8, low1] at h
  exact h.symm
theorem b3W (a b c d : BitVec 8) : b3n (Wd a b c d) = d.toNat := by
  have h := bF_n 0 (aP a b c d)
  rw [bytL, low1, Nat.pow_zero, Nat.div_one] at h
  exact h.symm
theorem shl_bv (x : Int32) (y : Int32) (k : Nat) (h : (y.toBitVec.smod 32).toNat = k) : (x <<< y).toBitVec = x.toBitVec <<< k := by
  apply BitVec.eq_of_toNat_eq
  rw [pk_shl x y k h, BitVec.toNat_shiftLeft, Nat.shiftLeft_eq]
theorem uS_bv (x y : Int32) (k : Nat) (h : ((y.toUInt32 &&& Int32.toUInt32 31).toBitVec % 32).toNat = k) : (uS x y).toBitVec = x.toBitVec >>> k := by
  apply BitVec.eq_of_toNat_eq
  rw [show (uS x y).toBitVec.toNat = _ from pk_ushr x y k h, BitVec.toNat_ushiftRight, Nat.shiftRight_eq_div_pow]
theorem four_bytes {a b c d : Int32} {p q r t : BitVec 8} (ha : a = Wd 0#8 0#8 0#8 p) (hb : b = Wd 0#8 0#8 0#8 q) (hc : c = Wd 0#8 0#8 0#8 r) (hd : d = Wd 0#8 0#8 0#8 t) :
    (((a <<< ((24 : Int32) &&& 31)) ||| (b <<< ((16 : Int32) &&& 31))) ||| (c <<< ((8 : Int32) &&& 31))) ||| d = Wd p q r t := by
  apply Wd_eq
  show (((a <<< ((24 : Int32) &&& 31)).toBitVec ||| (b <<< ((16 : Int32) &&& 31)).toBitVec) ||| (c <<< ((8 : Int32) &&& 31)).toBitVec) ||| d.toBitVec = _
  rw [shl_bv a _ 24 (by decide), shl_bv b _ 16 (by decide), shl_bv c _ 8 (by decide), ha, hb, hc, hd]
  exact ofBytes p q r t
def sbTb (S : Nat → Nat) : Prop := ∀ b, b < 256 → sbS b = nI (S b)
theorem subI_W {S : Nat → Nat} (hS : sbTb S) (hB : By S) (a0 a1 a2 a3 b0 b1 b2 b3 c0 c1 c2 c3 d0 d1 d2 d3 : BitVec 8) :
    subI (Wd a0 a1 a2 a3) (Wd b0 b1 b2 b3) (Wd c0 c1 c2 c3) (Wd d0 d1 d2 d3) = Wd (Bt (S a0.toNat)) (Bt (S b1.toNat)) (Bt (S c2.toNat)) (Bt (S d3.toNat)) := by
  unfold subI
  rw [b0W, b1W, b2W, b3W, hS _ a0.isLt, hS _ b1.isLt, hS _ c2.isLt, hS _ d3.isLt]
  exact four_bytes (nI_Wd (hB _)) (nI_Wd (hB _)) (nI_Wd (hB _)) (nI_Wd (hB _))
theorem rotI_bv (w b : Int32) (k : Nat) (h1 : ((b &&& 31).toBitVec.smod 32).toNat = k) (h2 : (((32 - b).toUInt32 &&& Int32.toUInt32 31).toBitVec % 32).toNat = 32 - k) : (rotI w b).toBitVec = rotB k w.toBitVec := by
  show (w <<< (b &&& 31)).toBitVec ||| (uS w (32 - b)).toBitVec = _
  rw [shl_bv w _ k h1, uS_bv w _ (32 - k) h2]
  rfl
theorem dblI_bv (w : Int32) : (dblI w).toBitVec = dblB w.toBitVec := by
  show (((w &&& 2139062143) <<< ((1 : Int32) &&& 31)).toBitVec ^^^ ((uS w 7 &&& 16843009) * 27).toBitVec) = _
  rw [shl_bv _ _ 1 (by decide)]
  show ((w.toBitVec &&& 2139062143#32) <<< 1 ^^^ ((uS w 7).toBitVec &&& 16843009#32) * 27#32) = _
  rw [uS_bv w 7 7 (by decide)]
  rfl
theorem mixI_W (a b c d : BitVec 8) : mixI (Wd a b c d) = Wd (x2 a ^^^ x2 b ^^^ b ^^^ c ^^^ d) (x2 b ^^^ x2 c ^^^ c ^^^ d ^^^ a) (x2 c ^^^ x2 d ^^^ d ^^^ a ^^^ b) (x2 d ^^^ x2 a ^^^ a ^^^ b ^^^ c) := by
  apply Wd_eq
  rw [← mixB_P]
  show ((dblI (Wd a b c d ^^^ rotI (Wd a b c d) 8)).toBitVec ^^^ (rotI (Wd a b c d) 8).toBitVec) ^^^ (rotI (Wd a b c d) 16).toBitVec ^^^ (rotI (Wd a b c d) 24).toBitVec = _
  rw [dblI_bv]
  show ((dblB ((Wd a b c d).toBitVec ^^^ (rotI (Wd a b c d) 8).toBitVec)) ^^^ (rotI (Wd a b c d) 8).toBitVec) ^^^ (rotI (Wd a b c d) 16).toBitVec ^^^ (rotI (Wd a b c d) 24).toBitVec = _
  rw [rotI_bv _ 8 8 (by decide) (by decide), rotI_bv _ 16 16 (by decide) (by decide), rotI_bv _ 24 24 (by decide) (by decide)]
  rfl
theorem gm2 : ∀ a, a < 256 → Bt (gmN a 2) = x2 (Bt a) := by decide +kernel
theorem gm3 : ∀ a, a < 256 → Bt (gmN a 3) = x2 (Bt a) ^^^ Bt a := by decide +kernel
/-- the word of four bytes -/
def bw (g : Nat → Nat) (k : Nat) : Int32 := Wd (Bt (g k)) (Bt (g (k + 1))) (Bt (g (k + 2))) (Bt (g (k + 3)))
theorem bw_congr {g h : Nat → Nat} {k l : Nat} (h0 : g k = h l) (h1 : g (k + 1) = h (l + 1)) (h2 : g (k + 2) = h (l + 2)) (h3 : g (k + 3) = h (l + 3)) : bw g k = bw h l := by
  unfold bw
  rw [h0, h1, h2, h3]
/-- counted writing -/
theorem iter_updN (F : Nat → Nat) (b : Nat) (g : Nat → Nat) (j : Nat) : ∀ n, iter (fun i g => updN g (b + i) (F i)) n g j = if b ≤ j ∧ j < b + n then F (j - b) else g j
  | 0 => (if_neg (by omega)).symm
  | n + 1 => by
    show updN (iter (fun i g => updN g (b + i) (F i)) n g) (b + n) (F n) j = _
    by_cases h : j = b + n
    · subst h
      rw [updN_s, if_pos (by omega), Nat.add_sub_cancel_left]
    · rw [updN_n h, iter_updN F b g j n]
      by_cases q : b ≤ j ∧ j < b + n
      · rw [if_pos q, if_pos (by omega)]
      · rw [if_neg q, if_neg (by omega)]
theorem iter_updN0 (F : Nat → Nat) (g : Nat → Nat) (j n : Nat) : iter (fun i g => updN g i (F i)) n g j = if j < n then F j else g j := by
  have h := iter_updN F 0 g j n
  simp only [Nat.zero_add, Nat.zero_le, true_and, Nat.sub_zero] at h
  exact h
theorem nCpy_at (k g : Nat → Nat) (n j : Nat) : iter (nCpy k) n g j = if j < n then k j else g j := iter_updN0 k g j n
theorem tSub_at (S st g : Nat → Nat) (n j : Nat) : iter (tSub S st) n g j = if j < n then S (st (5 * j % 16)) else g j := iter_updN0 (fun i => S (st (5 * i % 16))) g j n
theorem nZero_at (g : Nat → Nat) (n j : Nat) : iter nZero n g j = if j < n then 0 else g j := iter_updN0 (fun _ => 0) g j n
theorem tXor_at (rd g : Nat → Nat) (j : Nat) : ∀ n, iter (tXor rd) n g j = if j < n then g j ^^^ rd j else g j
  | 0 => (if_neg (by omega)).symm
  | n + 1 => by
    show updN (iter (tXor rd) n g) n (iter (tXor rd) n g n ^^^ rd n) j = _
    by_cases h : j = n
    · subst h
      rw [updN_s, if_pos (by omega), tXor_at rd g j j, if_neg (by omega)]
    · rw [updN_n h, tXor_at rd g j n]
      by_cases q : j < n
      · rw [if_pos q, if_pos (by omega)]
      · rw [if_neg q, if_neg (by omega)]
def tMv (rd mv : Nat → Nat) (rn r i : Nat) : Nat := (if rn ≤ r then mv i else gmN (mv i) 2 ^^^ gmN (mv (i / 4 * 4 + (i % 4 + 1) % 4)) 3 ^^^ mv (i / 4 * 4 + (i % 4 + 2) % 4) ^^^ mv (i / 4 * 4 + (i % 4 + 3) % 4)) ^^^ rd (16 * r + i)
theorem tMix_at (rd mv g : Nat → Nat) (rn r n j : Nat) : iter (tMix rd mv rn r) n g j = if j < n then tMv rd mv rn r j else g j := iter_updN0 (tMv rd mv rn r) g j n
/-- the state as four words -/
def st16 (g : Nat → Nat) : Q4 := (bw g 0, bw g 4, bw g 8, bw g 12)
def rkB (rk : Nat → Int32) (gr : Nat → Nat) (n : Nat) : Prop := ∀ k, k < n → rk k = bw gr (4 * k)
theorem xor_3a (a b c d e : BitVec 8) : a ^^^ (b ^^^ c) ^^^ d ^^^ e = a ^^^ b ^^^ c ^^^ d ^^^ e := by simp only [BitVec.xor_assoc]
theorem tMv_bt {rd mv : Nat → Nat} (hm : By mv) {rn r : Nat} (h : ¬ rn ≤ r) (i : Nat) :
    Bt (tMv rd mv rn r i) = (x2 (Bt (mv i)) ^^^ x2 (Bt (mv (i / 4 * 4 + (i % 4 + 1) % 4))) ^^^ Bt (mv (i / 4 * 4 + (i % 4 + 1) % 4)) ^^^ Bt (mv (i / 4 * 4 + (i % 4 + 2) % 4)) ^^^ Bt (mv (i / 4 * 4 + (i % 4 + 3) % 4))) ^^^ Bt (rd (16 * r + i)) := by
  unfold tMv
  rw [if_neg h, Bt_xor, Bt_xor, Bt_xor, Bt_xor, gm2 _ (hm _), gm3 _ (hm _), xor_3a]
theorem tMv_btL {rd mv : Nat → Nat} {rn r : Nat} (h : rn ≤ r) (i : Nat) : Bt (tMv rd mv rn r i) = Bt (mv i) ^^^ Bt (rd (16 * r + i)) := by
  unfold tMv
  rw [if_pos h, Bt_xor]
theorem bt_n {g : Nat → Nat} (hg : By g) (k : Nat) : (Bt (g k)).toNat = g k := Bt_n (hg k)
/-- the places of a round's words -/
theorem sub_w {S st mv : Nat → Nat} (hS : sbTb S) (hB : By S) (hs : By st) (a b c d k : Nat) (ha : 5 * k % 16 = a) (hb : 5 * (k + 1) % 16 = b + 1) (hc : 5 * (k + 2) % 16 = c + 2) (hd : 5 * (k + 3) % 16 = d + 3) (hk : k + 3 < 16) :
    subI (bw st a) (bw st b) (bw st c) (bw st d) = bw (iter (tSub S st) 16 mv) k := by
  unfold bw
  rw [subI_W hS hB]
  rw [tSub_at, tSub_at, tSub_at, tSub_at, if_pos (by omega), if_pos (by omega), if_pos (by omega), if_pos (by omega), ha, hb, hc, hd, bt_n hs, bt_n hs, bt_n hs, bt_n hs]
theorem rd_w {rk : Nat → Int32} {gr : Nat → Nat} {n : Nat} (h : rkB rk gr n) (r c : Nat) (hc : 4 + 4 * r + c < n) : rk (4 + 4 * r + c) = bw gr (16 * (1 + r) + 4 * c) := by
  rw [h _ hc]
  exact congrArg (bw gr) (by omega)
theorem mix_w {rd mv g : Nat → Nat} (hm : By mv) {rn r : Nat} (h : ¬ rn ≤ r) (c : Nat) (hc : c < 4) :
    mixI (bw mv (4 * c)) ^^^ bw rd (16 * r + 4 * c) = bw (iter (tMix rd mv rn r) 16 g) (4 * c) := by
  have e : ∀ i, i < 16 → iter (tMix rd mv rn r) 16 g i = tMv rd mv rn r i := fun i hi => by rw [tMix_at, if_pos hi]
  unfold bw
  rw [mixI_W, Wd_xor, e _ (by omega), e _ (by omega), e _ (by omega), e _ (by omega), tMv_bt hm h, tMv_bt hm h, tMv_bt hm h, tMv_bt hm h]
  have q0 : (4 * c) / 4 * 4 = 4 * c := by omega
  have q1 : (4 * c + 1) / 4 * 4 = 4 * c := by omega
  have q2 : (4 * c + 2) / 4 * 4 = 4 * c := by omega
  have q3 : (4 * c + 3) / 4 * 4 = 4 * c := by omega
  have m0 : 4 * c % 4 = 0 := by omega
  have m1 : (4 * c + 1) % 4 = 1 := by omega
  have m2 : (4 * c + 2) % 4 = 2 := by omega
  have m3 : (4 * c + 3) % 4 = 3 := by omega
  rw [q0, q1, q2, q3, m0, m1, m2, m3]
  rfl
theorem last_w {rd mv g : Nat → Nat} {rn r : Nat} (h : rn ≤ r) (c : Nat) (hc : c < 4) :
    bw mv (4 * c) ^^^ bw rd (16 * r + 4 * c) = bw (iter (tMix rd mv rn r) 16 g) (4 * c) := by
  have e : ∀ i, i < 16 → iter (tMix rd mv rn r) 16 g i = tMv rd mv rn r i := fun i hi => by rw [tMix_at, if_pos hi]
  unfold bw
  rw [Wd_xor, e _ (by omega), e _ (by omega), e _ (by omega), e _ (by omega), tMv_btL h, tMv_btL h, tMv_btL h, tMv_btL h]
  rfl
theorem arnd_eq {S gr : Nat → Nat} {rk : Nat → Int32} {rn : Nat} (hS : sbTb S) (hB : By S) (hk : rkB rk gr (4 * (rn + 1))) (q : N2) (h1 : By q.1) (h2 : By q.2) (i : Nat) (hi : 1 + i < rn) :
    arnd rk i (st16 q.1) = st16 (trS S gr rn i q).1 := by
  have hm := tSub_B hB q.1 16 q.2 h2
  have n : ¬ rn ≤ 1 + i := by omega
  show (mixI (subI (bw q.1 0) (bw q.1 4) (bw q.1 8) (bw q.1 12)) ^^^ rk (4 + 4 * i + 0), mixI (subI (bw q.1 4) (bw q.1 8) (bw q.1 12) (bw q.1 0)) ^^^ rk (4 + 4 * i + 1), mixI (subI (bw q.1 8) (bw q.1 12) (bw q.1 0) (bw q.1 4)) ^^^ rk (4 + 4 * i + 2), mixI (subI (bw q.1 12) (bw q.1 0) (bw q.1 4) (bw q.1 8)) ^^^ rk (4 + 4 * i + 3)) = _
  rw [sub_w hS hB h1 0 4 8 12 (4 * 0) rfl rfl rfl rfl (by omega) (mv := q.2), sub_w hS hB h1 4 8 12 0 (4 * 1) rfl rfl rfl rfl (by omega) (mv := q.2), sub_w hS hB h1 8 12 0 4 (4 * 2) rfl rfl rfl rfl (by omega) (mv := q.2), sub_w hS hB h1 12 0 4 8 (4 * 3) rfl rfl rfl rfl (by omega) (mv := q.2),
    rd_w hk i 0 (by omega), rd_w hk i 1 (by omega), rd_w hk i 2 (by omega), rd_w hk i 3 (by omega)]
  rw [mix_w hm n 0 (by omega) (g := q.1), mix_w hm n 1 (by omega) (g := q.1), mix_w hm n 2 (by omega) (g := q.1), mix_w hm n 3 (by omega) (g := q.1)]
  rfl
theorem alast_eq {S gr : Nat → Nat} {rk : Nat → Int32} {rn : Nat} (hS : sbTb S) (hB : By S) (hk : rkB rk gr (4 * (rn + 1))) (q : N2) (h1 : By q.1) (i : Nat) (hi : 1 + i = rn) :
    alast rk i (st16 q.1) = st16 (trS S gr rn i q).1 := by
  have n : rn ≤ 1 + i := by omega
  show (subI (bw q.1 0) (bw q.1 4) (bw q.1 8) (bw q.1 12) ^^^ rk (4 + 4 * i + 0), subI (bw q.1 4) (bw q.1 8) (bw q.1 12) (bw q.1 0) ^^^ rk (4 + 4 * i + 1), subI (bw q.1 8) (bw q.1 12) (bw q.1 0) (bw q.1 4) ^^^ rk (4 + 4 * i + 2), subI (bw q.1 12) (bw q.1 0) (bw q.1 4) (bw q.1 8) ^^^ rk (4 + 4 * i + 3)) = _
  rw [sub_w hS hB h1 0 4 8 12 (4 * 0) rfl rfl rfl rfl (by omega) (mv := q.2), sub_w hS hB h1 4 8 12 0 (4 * 1) rfl rfl rfl rfl (by omega) (mv := q.2), sub_w hS hB h1 8 12 0 4 (4 * 2) rfl rfl rfl rfl (by omega) (mv := q.2), sub_w hS hB h1 12 0 4 8 (4 * 3) rfl rfl rfl rfl (by omega) (mv := q.2),
    rd_w hk i 0 (by omega), rd_w hk i 1 (by omega), rd_w hk i 2 (by omega), rd_w hk i 3 (by omega)]
  rw [last_w n 0 (by omega) (g := q.1), last_w n 1 (by omega) (g := q.1), last_w n 2 (by omega) (g := q.1), last_w n 3 (by omega) (g := q.1)]
  rfl
theorem turn_st {S gr : Nat → Nat} {rk : Nat → Int32} {rn : Nat} {gs gm : Nat → Nat} (hS : sbTb S) (hB : By S) (hr : By gr) (hs : By gs) (hm : By gm) (hk : rkB rk gr (4 * (rn + 1))) :
    ∀ i, i + 1 ≤ rn → iter (arnd rk) i (bw gs 0 ^^^ rk 0, bw gs 4 ^^^ rk 1, bw gs 8 ^^^ rk 2, bw gs 12 ^^^ rk 3) = st16 (turnN S gr rn gs gm i).1
  | 0, _ => by
    show (bw gs 0 ^^^ rk 0, bw gs 4 ^^^ rk 1, bw gs 8 ^^^ rk 2, bw gs 12 ^^^ rk 3) = st16 (iter (tXor gr) 16 gs)
    rw [hk 0 (by omega), hk 1 (by omega), hk 2 (by omega), hk 3 (by omega)]
    unfold st16 bw
    simp only [Wd_xor, ← Bt_xor]
    have e : ∀ i, i < 16 → iter (tXor gr) 16 gs i = gs i ^^^ gr i := fun i hi => by rw [tXor_at, if_pos hi]
    simp only [Nat.zero_add, Nat.mul_zero, Nat.mul_one, Nat.reduceAdd, Nat.reduceMul]
    rw [e 0 (by omega), e 1 (by omega), e 2 (by omega), e 3 (by omega), e 4 (by omega), e 5 (by omega), e 6 (by omega), e 7 (by omega), e 8 (by omega), e 9 (by omega), e 10 (by omega), e 11 (by omega), e 12 (by omega), e 13 (by omega), e 14 (by omega), e 15 (by omega)]
  | i + 1, h => by
    have b := turnN_B hB hr hs hm rn i
    show arnd rk i (iter (arnd rk) i _) = st16 (trS S gr rn i (turnN S gr rn gs gm i)).1
    rw [turn_st hS hB hr hs hm hk i (by omega)]
    exact arnd_eq hS hB hk (turnN S gr rn gs gm i) b.1 b.2 i (by omega)
/-- AES: a block of the class is the reference's state -/
theorem aes_eq {S gr : Nat → Nat} {rk : Nat → Int32} {rn : Nat} {gs gm : Nat → Nat} (hS : sbTb S) (hB : By S) (hr : By gr) (hs : By gs) (hm : By gm) (hk : rkB rk gr (4 * (rn + 1))) (h1 : 1 ≤ rn) :
    aesI rk rn (bw gs 0) (bw gs 4) (bw gs 8) (bw gs 12) = st16 (turnN S gr rn gs gm rn).1 := by
  obtain ⟨n, rfl⟩ : ∃ n, rn = n + 1 := ⟨rn - 1, by omega⟩
  unfold aesI
  rw [Nat.add_sub_cancel, turn_st hS hB hr hs hm hk n (by omega)]
  have b := turnN_B hB hr hs hm (n + 1) n
  exact alast_eq hS hB hk (turnN S gr (n + 1) gs gm n) b.1 n (by omega)

/-! numbers of words -/
theorem Wd_n (a b c d : BitVec 8) : (Wd a b c d).toBitVec.toNat = a.toNat * 16777216 + b.toNat * 65536 + c.toNat * 256 + d.toNat := by
  have e : ∀ {m n : Nat} (x : BitVec m) (y : BitVec n), (x ++ y).toNat = x.toNat * 2 ^ n + y.toNat := fun {m n} x y => by
    rw [BitVec.toNat_append, Nat.shiftLeft_eq, Nat.mul_comm, Nat.two_pow_add_eq_or_of_lt y.isLt]
  show ((a ++ b) ++ (c ++ d)).toNat = _
  rw [e, e, e]
  omega
theorem eq_n32 {x y : Int32} (h : x.toBitVec.toNat = y.toBitVec.toNat) : x = y := Int32.toBitVec_inj.1 (BitVec.eq_of_toNat_eq h)
theorem eq_n64 {x y : Int64} (h : x.toBitVec.toNat = y.toBitVec.toNat) : x = y := Int64.toBitVec_inj.1 (BitVec.eq_of_toNat_eq h)
theorem lt32 (x : Int32) : x.toBitVec.toNat < 4294967296 := x.toBitVec.isLt
theorem lt64 (x : Int64) : x.toBitVec.toNat < 18446744073709551616 := x.toBitVec.isLt
theorem or_n {a b k : Nat} (hb : b < 2 ^ k) : a * 2 ^ k ||| b = a * 2 ^ k + b := by
  rw [Nat.mul_comm, Nat.two_pow_add_eq_or_of_lt hb]
theorem step8 (x : Int32) {n : Nat} (hx : x.toBitVec.toNat < 16777216) (hn : n < 256) : ((x <<< ((8 : Int32) &&& 31)) ||| nI n).toBitVec.toNat = x.toBitVec.toNat * 256 + n := by
  show ((x <<< ((8 : Int32) &&& 31)).toBitVec ||| (nI n).toBitVec).toNat = _
  rw [BitVec.toNat_or, pk_shl x _ 8 (by decide), pk_tn (by omega), Nat.mod_eq_of_lt (by omega)]
  exact or_n (k := 8) hn
theorem step8W (x : Int32) {n : Nat} (hn : n < 256) : ((x <<< ((8 : Int32) &&& 31)) ||| nI n).toBitVec.toNat = x.toBitVec.toNat * 256 % 4294967296 + n := by
  show ((x <<< ((8 : Int32) &&& 31)).toBitVec ||| (nI n).toBitVec).toNat = _
  rw [BitVec.toNat_or, pk_shl x _ 8 (by decide), pk_tn (by omega)]
  have e : x.toBitVec.toNat * 2 ^ 8 % 2 ^ 32 = (x.toBitVec.toNat % 16777216) * 2 ^ 8 := by omega
  rw [e, or_n (k := 8) hn, ← e]
/-- bytes of a row, zeros behind its end -/
def xg (g : Nat → Nat) (e : Nat) : Nat → Nat := fun j => if e ≤ j then 0 else g j
theorem xg_B {g : Nat → Nat} (h : By g) (e : Nat) : By (xg g e) := fun j => ite_lt (by omega) (h j)
theorem xg_in {g : Nat → Nat} {e j : Nat} (h : j < e) : xg g e j = g j := if_neg (by omega)
/-- a row of the class holds the reference's bytes -/
def RB (f : Nat → Int32) (len : Nat) (g : Nat → Nat) : Prop := ∀ j, j < len → f j &&& 255 = nI (g j)
theorem rget_in {f : Nat → Int32} {len j : Nat} (h : j < len) (hl : len < 2 ^ 31) : rget f len (nI j) = f j &&& 255 := by
  unfold rget
  rw [if_neg (nI_pos (by omega)), if_neg (nI_ge h hl), nI_clamp (by omega)]
theorem rget_eq {f : Nat → Int32} {len j : Nat} {g : Nat → Nat} (hr : RB f len g) (h : j < len) (hl : len < 2 ^ 31) : rget f len (nI j) = nI (g j) := by rw [rget_in h hl, hr j h]
theorem rw_in {f : Nat → Int32} {len e j : Nat} {g : Nat → Nat} (hr : RB f e g) (he : e ≤ len) (hl : len < 2 ^ 31) : (if e ≤ j then 0 else rget f len (nI j)) = nI (xg g e j) := by
  unfold xg
  by_cases h : e ≤ j
  · rw [if_pos h, if_pos h]
    rfl
  · rw [if_neg h, if_neg h, rget_in (by omega) hl, hr j (by omega)]
theorem bw_n {g : Nat → Nat} (hg : By g) (k : Nat) : (bw g k).toBitVec.toNat = g k * 16777216 + g (k + 1) * 65536 + g (k + 2) * 256 + g (k + 3) := by
  unfold bw
  rw [Wd_n, bt_n hg, bt_n hg, bt_n hg, bt_n hg]
theorem rword_eq {f : Nat → Int32} {len e : Nat} {g : Nat → Nat} (hr : RB f e g) (hg : By g) (he : e ≤ len) (hl : len < 2 ^ 31) (a : Nat) : rword f len a e = bw (xg g e) a := by
  have b := xg_B hg e
  apply eq_n32
  rw [bw_n b]
  show (rwstep f len a e 3 (rwstep f len a e 2 (rwstep f len a e 1 (rwstep f len a e 0 0)))).toBitVec.toNat = _
  unfold rwstep
  rw [rw_in hr he hl, rw_in hr he hl, rw_in hr he hl, rw_in hr he hl, Nat.add_zero]
  have h0 := b a
  have h1 := b (a + 1)
  have h2 := b (a + 2)
  have h3 := b (a + 3)
  have z : (0 : Int32).toBitVec.toNat = 0 := rfl
  rw [step8W _ h3, step8W _ h2, step8W _ h1, step8W _ h0, z]
  omega
/-! AES's key -/
theorem rot8W (a b c d : BitVec 8) : rotI (Wd a b c d) 8 = Wd b c d a := Wd_eq ((rotI_bv _ 8 8 (by decide) (by decide)).trans (rot8 a b c d))
theorem x2_0 : x2 0#8 = 0#8 := by decide
theorem dblI_W (a : BitVec 8) : dblI (Wd a 0#8 0#8 0#8) = Wd (x2 a) 0#8 0#8 0#8 := by
  apply Wd_eq
  rw [dblI_bv]
  have h := dblB_P a 0#8 0#8 0#8
  rw [x2_0] at h
  exact h
theorem kFour_at (rd : Nat → Nat) (w n : Nat) (g : Nat → Nat) (j : Nat) : iter (kFour rd w) n g j = if j < n then rd (4 * w - 4 + j) else g j := iter_updN0 (fun i => rd (4 * w - 4 + i)) g j n
theorem kSub1_at (S g : Nat → Nat) (j : Nat) : ∀ n, iter (kSub1 S) n g j = if j < n then S (g j) else g j
  | 0 => (if_neg (by omega)).symm
  | n + 1 => by
    show updN (iter (kSub1 S) n g) n (S (iter (kSub1 S) n g n)) j = _
    by_cases h : j = n
    · subst h
      rw [updN_s, if_pos (by omega), kSub1_at S g j j, if_neg (by omega)]
    · rw [updN_n h, kSub1_at S g j n]
      by_cases q : j < n
      · rw [if_pos q, if_pos (by omega)]
      · rw [if_neg q, if_neg (by omega)]
theorem kSub_at (S : Nat → Nat) (first : Nat) (g : Nat → Nat) (j : Nat) : ∀ n, iter (kSub S first) n g j = if j < n then (if 3 ≤ j then S first else S (g (j + 1))) else g j
  | 0 => (if_neg (by omega)).symm
  | n + 1 => by
    show updN (iter (kSub S first) n g) n (if 3 ≤ n then S first else S (iter (kSub S first) n g (n + 1))) j = _
    by_cases h : j = n
    · subst h
      rw [updN_s, if_pos (show j < j + 1 by omega), kSub_at S first g (j + 1) j, if_neg (show ¬ j + 1 < j by omega)]
    · rw [updN_n h, kSub_at S first g j n]
      by_cases q : j < n
      · rw [if_pos q, if_pos (show j < n + 1 by omega)]
      · rw [if_neg q, if_neg (by omega)]
theorem kMix_at (fo : Nat → Nat) (w kw : Nat) (hk : 1 ≤ kw) (hw : kw ≤ w) (g : Nat → Nat) (j : Nat) : ∀ n, n ≤ 4 → iter (kMix fo w kw) n g j = if 4 * w ≤ j ∧ j < 4 * w + n then g (4 * (w - kw) + (j - 4 * w)) ^^^ fo (j - 4 * w) else g j
  | 0, _ => (if_neg (by omega)).symm
  | n + 1, h4 => by
    show updN (iter (kMix fo w kw) n g) (4 * w + n) (iter (kMix fo w kw) n g (4 * (w - kw) + n) ^^^ fo n) j = _
    by_cases h : j = 4 * w + n
    · subst h
      rw [updN_s, if_pos (by omega), kMix_at fo w kw hk hw g (4 * (w - kw) + n) n (by omega), if_neg (by omega), Nat.add_sub_cancel_left]
    · rw [updN_n h, kMix_at fo w kw hk hw g j n (by omega)]
      by_cases q : 4 * w ≤ j ∧ j < 4 * w + n
      · rw [if_pos q, if_pos (by omega)]
      · rw [if_neg q, if_neg (by omega)]
/-- the new word: the word kw places back, and four bytes -/
theorem kMix_bw (fo : Nat → Nat) (w kw : Nat) (hk : 1 ≤ kw) (hw : kw ≤ w) (g : Nat → Nat) : bw (iter (kMix fo w kw) 4 g) (4 * w) = bw g (4 * (w - kw)) ^^^ bw fo 0 := by
  unfold bw
  rw [kMix_at fo w kw hk hw g _ 4 (by omega), kMix_at fo w kw hk hw g _ 4 (by omega), kMix_at fo w kw hk hw g _ 4 (by omega), kMix_at fo w kw hk hw g _ 4 (by omega), if_pos (by omega), if_pos (by omega), if_pos (by omega), if_pos (by omega), Wd_xor]
  rw [Bt_xor, Bt_xor, Bt_xor, Bt_xor, show 4 * w - 4 * w = 0 by omega, show 4 * w + 1 - 4 * w = 1 by omega, show 4 * w + 2 - 4 * w = 2 by omega, show 4 * w + 3 - 4 * w = 3 by omega]
  rfl
theorem kMix_old (fo : Nat → Nat) (w kw : Nat) (hk : 1 ≤ kw) (hw : kw ≤ w) (g : Nat → Nat) (k : Nat) (h : k < w) : bw (iter (kMix fo w kw) 4 g) (4 * k) = bw g (4 * k) := by
  have e : ∀ j, j < 4 * w → iter (kMix fo w kw) 4 g j = g j := fun j hj => by rw [kMix_at fo w kw hk hw g j 4 (by omega), if_neg (by omega)]
  exact bw_congr (e _ (by omega)) (e _ (by omega)) (e _ (by omega)) (e _ (by omega))
theorem kF1_bw (w : Nat) (q : kQ) (hw : 1 ≤ w) : bw (kF1 w q) 0 = bw q.2.2 (4 * (w - 1)) := by
  unfold kF1
  have e : ∀ j, j < 4 → iter (kFour q.2.2 w) 4 q.2.1 j = q.2.2 (4 * (w - 1) + j) := fun j hj => by rw [kFour_at, if_pos hj]; exact congrArg q.2.2 (by omega)
  exact bw_congr (e 0 (by omega)) (e 1 (by omega)) (e 2 (by omega)) (e 3 (by omega))
theorem kF4_bw {S : Nat → Nat} (hS : sbTb S) (hB : By S) {q : kQ} (hq : kB q) (w : Nat) (hw : 1 ≤ w) : bw (kF4 S w q) 0 = subI (bw q.2.2 (4 * (w - 1))) (bw q.2.2 (4 * (w - 1))) (bw q.2.2 (4 * (w - 1))) (bw q.2.2 (4 * (w - 1))) := by
  rw [← kF1_bw w q hw]
  have b := kF1_B hq w
  unfold bw
  rw [subI_W hS hB, bt_n b, bt_n b, bt_n b, bt_n b]
  unfold kF4
  rw [kSub1_at, kSub1_at, kSub1_at, kSub1_at]
  rfl
theorem kF3_bw {S : Nat → Nat} (hS : sbTb S) (hB : By S) {q : kQ} (hq : kB q) (w : Nat) (hw : 1 ≤ w) :
    bw (kF3 S w q) 0 = subI (rotI (bw q.2.2 (4 * (w - 1))) 8) (rotI (bw q.2.2 (4 * (w - 1))) 8) (rotI (bw q.2.2 (4 * (w - 1))) 8) (rotI (bw q.2.2 (4 * (w - 1))) 8) ^^^ Wd (Bt q.1) 0#8 0#8 0#8 := by
  rw [← kF1_bw w q hw]
  have b := kF1_B hq w
  unfold bw
  rw [rot8W, subI_W hS hB, bt_n b, bt_n b, bt_n b, bt_n b, Wd_xor]
  have e : ∀ j, j < 4 → kF2 S w q j = if 3 ≤ j then S (kF1 w q 0) else S (kF1 w q (j + 1)) := fun j hj => by unfold kF2; rw [kSub_at, if_pos hj]
  have f0 : kF3 S w q 0 = kF2 S w q 0 ^^^ q.1 := updN_s
  have f1 : kF3 S w q (0 + 1) = kF2 S w q 1 := updN_n (by omega)
  have f2 : kF3 S w q (0 + 2) = kF2 S w q 2 := updN_n (by omega)
  have f3 : kF3 S w q (0 + 3) = kF2 S w q 3 := updN_n (by omega)
  rw [f0, f1, f2, f3, e 0 (by omega), e 1 (by omega), e 2 (by omega), e 3 (by omega), if_neg (by omega), if_neg (by omega), if_neg (by omega), if_pos (by omega), Bt_xor]
  simp only [BitVec.xor_zero]
def kRel (kw i : Nat) (a : Int32 × (Nat → Int32)) (q : kQ) : Prop := kB q ∧ a.1 = Wd (Bt q.1) 0#8 0#8 0#8 ∧ ∀ k, k < kw + i → a.2 k = bw q.2.2 (4 * k)
theorem kStep_rel {S : Nat → Nat} (hS : sbTb S) (hB : By S) (kw i : Nat) (hk : 1 ≤ kw) {a : Int32 × (Nat → Int32)} {q : kQ} (h : kRel kw i a q) : kRel kw (i + 1) (ek2 kw i a) (kStep S kw i q) := by
  obtain ⟨hb, hc, hw⟩ := h
  have nb := kStep_B hB kw i hb
  have fin : ∀ (fo : Nat → Nat) (x : Int32), x = bw fo 0 → ∀ k, k < kw + (i + 1) → upd a.2 (kw + i) (a.2 (kw + i - kw) ^^^ x) k = bw (iter (kMix fo (kw + i) kw) 4 q.2.2) (4 * k) := fun fo x hx k hk2 => by
    by_cases e : k = kw + i
    · subst e
      rw [pk_us, kMix_bw fo (kw + i) kw hk (by omega), hw _ (by omega), hx]
    · rw [pk_un e, kMix_old fo (kw + i) kw hk (by omega) q.2.2 k (by omega), hw k (by omega)]
  refine ⟨nb, ?_, ?_⟩
  · unfold ek2 kStep
    split
    · show dblI a.1 = Wd (Bt (gmN q.1 2)) 0#8 0#8 0#8
      rw [hc, dblI_W, gm2 _ hb.1]
    · split <;> exact hc
  · have l : a.2 (kw + i - 1) = bw q.2.2 (4 * (kw + i - 1)) := hw _ (by omega)
    unfold ek2 kStep
    split
    · refine fin _ _ ?_
      rw [kF3_bw hS hB hb (kw + i) (by omega), l, hc]
    · split
      · refine fin _ _ ?_
        rw [kF4_bw hS hB hb (kw + i) (by omega), l]
      · refine fin _ _ ?_
        rw [kF1_bw (kw + i) q (by omega), l]
theorem ek1_at (f : Nat → Int32) (len : Nat) (rk : Nat → Int32) (j : Nat) : ∀ n, iter (ek1 f len) n rk j = if j < n then rword f len (4 * j) len else rk j
  | 0 => (if_neg (by omega)).symm
  | n + 1 => by
    show upd (iter (ek1 f len) n rk) n (rword f len (4 * n) len) j = _
    by_cases h : j = n
    · subst h
      rw [pk_us, if_pos (by omega)]
    · rw [pk_un h, ek1_at f len rk j n]
      by_cases q : j < n
      · rw [if_pos q, if_pos (by omega)]
      · rw [if_neg q, if_neg (by omega)]
/-- AES's key: the class's words are the reference's bytes -/
theorem ekey_eq {S : Nat → Nat} (hS : sbTb S) (hB : By S) {f : Nat → Int32} {kw : Nat} {g gk gf gr : Nat → Nat} (hk : 1 ≤ kw) (hk8 : kw ≤ 8) (hr : RB f (4 * kw) g) (hg : By g) (hgk : By gk) (hf : By gf) (hgr : By gr) (rk : Nat → Int32) (kc : ∀ j, j < 4 * kw → gk j = g j) :
    rkB (ekey f (4 * kw) kw rk) (kSch S gk kw gf gr (3 * kw + 28)).2.2 (4 * (kw + 6 + 1)) := by
  have start : kRel kw 0 (16777216, iter (ek1 f (4 * kw)) kw rk) (1, gf, iter (nCpy gk) (4 * kw) gr) := by
    refine ⟨⟨show 1 < 256 by omega, hf, nCpy_B hgk _ _ hgr⟩, show (16777216 : Int32) = Wd (Bt 1) 0#8 0#8 0#8 by decide, fun k h => ?_⟩
    show iter (ek1 f (4 * kw)) kw rk k = bw (iter (nCpy gk) (4 * kw) gr) (4 * k)
    rw [ek1_at, if_pos (by omega), rword_eq hr hg (Nat.le_refl _) (by omega)]
    have e : ∀ j, j < 4 * kw → xg g (4 * kw) j = iter (nCpy gk) (4 * kw) gr j := fun j hj => by rw [nCpy_at, if_pos hj, xg_in hj, kc j hj]
    exact bw_congr (e _ (by omega)) (e _ (by omega)) (e _ (by omega)) (e _ (by omega))
  have all : ∀ i, kRel kw i (iter (ek2 kw) i (16777216, iter (ek1 f (4 * kw)) kw rk)) (kSch S gk kw gf gr i) := fun i => by
    induction i with
    | zero => exact start
    | succ i ih => exact kStep_rel hS hB kw i hk ih
  intro k hk2
  exact (all (3 * kw + 28)).2.2 k (by omega)

/-! GHASH: a nibble a turn, or a bit a turn -/
def gpr (z : Int64 × Int64) : BitVec 128 := gcat z.1.toBitVec z.2.toBitVec
theorem gpr_inj {x y : Int64 × Int64} (h : gpr x = gpr y) : x = y := by
  have q := gcat_inj h
  exact Prod.ext (Int64.toBitVec_inj.1 q.1) (Int64.toBitVec_inj.1 q.2)
theorem sm64 : ∀ n, n < 64 → (((nI n).toInt64 &&& 63).toBitVec.smod 64) = BitVec.ofNat 64 n := by decide +kernel
theorem sL_bv (x : Int64) {k : Nat} (hk : k < 64) : (sL x (nI k)).toBitVec = x.toBitVec <<< k := by
  show x.toBitVec <<< (((nI k).toInt64 &&& 63).toBitVec.smod 64) = _
  rw [sm64 k hk, BitVec.shiftLeft_eq', BitVec.toNat_ofNat, Nat.mod_eq_of_lt (by omega)]
theorem toI32_n (x : Int64) : x.toInt32.toBitVec.toNat = x.toBitVec.toNat % 4294967296 := by
  show (x.toBitVec.signExtend 32).toNat = _
  rw [BitVec.signExtend_eq_setWidth_of_le _ (by omega), BitVec.toNat_setWidth]
theorem nib_n (x : Int64) : nib x.toInt32 = x.toBitVec.toNat % 16 := by
  unfold nib
  rw [toI32_n]
  omega
theorem tb_mod (x : BitVec 64) (s k : Nat) (hk : k < 4) : (x.toNat / 2 ^ s % 16).testBit k = x.getLsbD (s + k) := by
  rw [show 16 = 2 ^ 4 from rfl, Nat.testBit_mod_two_pow, Nat.testBit_div_two_pow]
  simp only [hk, decide_true, Bool.true_and, BitVec.getLsbD]
  rw [Nat.add_comm]
def gT (H : BitVec 128) (v : Nat) : BitVec 128 := gB (v.testBit 3) H ^^^ gB (v.testBit 2) (gM H) ^^^ gB (v.testBit 1) (gM (gM H)) ^^^ gB (v.testBit 0) (gM (gM (gM H)))
def TB (th tl : Nat → Int64) (H : BitVec 128) : Prop := ∀ v, v < 16 → gpr (th v, tl v) = gT H v
theorem fo_tab : ∀ n, n < 16 → gFo (n.testBit 0) (n.testBit 1) (n.testBit 2) (n.testBit 3) = gcat ((sL (sbF n).toInt64 (nI 48)).toBitVec) 0#64 := by decide +kernel
theorem gmul_step (th tl : Nat → Int64) (H : BitVec 128) (hT : TB th tl H) (half : Int64) (i : Nat) (hi : i < 16) (z : Int64 × Int64) :
    gpr (gmul th tl half i z) = gT H (half.toBitVec.toNat / 2 ^ (4 * i) % 16) ^^^ gM (gM (gM (gM (gpr z)))) := by
  have hv : nib (uL half (nI (4 * i))).toInt32 = half.toBitVec.toNat / 2 ^ (4 * i) % 16 := by
    rw [nib_n, uL_bv half (by omega), BitVec.toNat_ushiftRight, Nat.shiftRight_eq_div_pow]
  have hf := fo_tab (nib z.2.toInt32) (Nat.mod_lt _ (by omega))
  have hn : nib z.2.toInt32 = z.2.toBitVec.toNat / 2 ^ 0 % 16 := by rw [nib_n, Nat.pow_zero, Nat.div_one]
  rw [← hT _ (Nat.mod_lt _ (by omega)), ← hv]
  show gcat ((uL z.1 (nI 4)).toBitVec ^^^ (sL (sbF (nib z.2.toInt32)).toInt64 (nI 48)).toBitVec ^^^ (th (nib (uL half (nI (4 * i))).toInt32)).toBitVec) (((uL z.2 (nI 4)).toBitVec ||| (sL z.1 (nI 60)).toBitVec) ^^^ (tl (nib (uL half (nI (4 * i))).toInt32)).toBitVec) = _
  rw [uL_bv _ (by omega), uL_bv _ (by omega), sL_bv z.1 (k := 60) (by omega)]
  unfold gpr
  rw [gM_fourP]
  have b0 := tb_mod z.2.toBitVec 0 0 (by omega)
  have b1 := tb_mod z.2.toBitVec 0 1 (by omega)
  have b2 := tb_mod z.2.toBitVec 0 2 (by omega)
  have b3 := tb_mod z.2.toBitVec 0 3 (by omega)
  rw [← hn] at b0 b1 b2 b3
  rw [← b0, ← b1, ← b2, ← b3, hf, gcat_xor, gcat_xor, BitVec.xor_zero]
  rw [BitVec.xor_comm (th _).toBitVec, BitVec.xor_comm (tl _).toBitVec]
/-- Horner, a nibble a turn -/
def gh (H A : BitVec 128) (m : Nat) : BitVec 128 := gS H (fun k => A.getLsbD (4 * m - 1 - k)) (4 * m)
theorem gh_s (H A : BitVec 128) (m v : Nat) (h : ∀ k, k < 4 → v.testBit k = A.getLsbD (4 * m + k)) : gh H A (m + 1) = gT H v ^^^ gM (gM (gM (gM (gh H A m)))) := by
  unfold gh
  rw [show 4 * (m + 1) = 4 * m + 4 by omega, gS_four]
  unfold gT
  rw [h 3 (by omega), h 2 (by omega), h 1 (by omega), h 0 (by omega)]
  rw [show 4 * m + 4 - 1 - 0 = 4 * m + 3 by omega, show 4 * m + 4 - 1 - 1 = 4 * m + 2 by omega, show 4 * m + 4 - 1 - 2 = 4 * m + 1 by omega, show 4 * m + 4 - 1 - 3 = 4 * m + 0 by omega]
  rw [gS_congr (a := fun k => A.getLsbD (4 * m + 4 - 1 - (k + 4))) (b := fun k => A.getLsbD (4 * m - 1 - k)) (4 * m) (fun k hk => congrArg A.getLsbD (by omega))]
theorem gh_lo (th tl : Nat → Int64) (H : BitVec 128) (hT : TB th tl H) (ah al : Int64) : ∀ i, i ≤ 16 → gpr (iter (gmul th tl al) i (0, 0)) = gh H (gpr (ah, al)) i
  | 0, _ => show gcat 0#64 0#64 = 0#128 by decide
  | i + 1, h => by
    show gpr (gmul th tl al i (iter (gmul th tl al) i (0, 0))) = _
    rw [gmul_step th tl H hT al i (by omega), gh_lo th tl H hT ah al i (by omega)]
    refine (gh_s H _ i _ (fun k hk => ?_)).symm
    rw [tb_mod _ _ _ hk]
    exact (gcat_lo _ _ _ (by omega)).symm
theorem gh_hi (th tl : Nat → Int64) (H : BitVec 128) (hT : TB th tl H) (ah al : Int64) (z : Int64 × Int64) (hz : gpr z = gh H (gpr (ah, al)) 16) : ∀ i, i ≤ 16 → gpr (iter (gmul th tl ah) i z) = gh H (gpr (ah, al)) (16 + i)
  | 0, _ => hz
  | i + 1, h => by
    show gpr (gmul th tl ah i (iter (gmul th tl ah) i z)) = _
    rw [gmul_step th tl H hT ah i (by omega), gh_hi th tl H hT ah al z hz i (by omega)]
    refine (gh_s H _ (16 + i) _ (fun k hk => ?_)).symm
    rw [tb_mod _ _ _ hk]
    refine ((gcat_bit _ _ _).trans ?_).symm
    rw [if_neg (by omega)]
    exact congrArg ah.toBitVec.getLsbD (by omega)
theorem lg0 (x y : Int64) : lg_cmp x y = 0 ↔ x = y := by
  unfold lg_cmp
  by_cases h : x > y
  · rw [if_pos h]
    constructor
    · intro q
      exact absurd q (by decide)
    · intro q
      subst q
      exact (Int64.lt_irrefl h).elim
  · rw [if_neg h]
    by_cases e : x = y
    · simp [e]
    · rw [if_neg e]
      constructor
      · intro q
        exact absurd q (by decide)
      · intro q
        exact absurd q e
theorem bit1 (x : Int64) : x &&& 1 = 1 ↔ x.toBitVec.getLsbD 0 = true := by
  have e : (x &&& 1).toBitVec.toNat = x.toBitVec.toNat % 2 := by
    show (x.toBitVec &&& 1#64).toNat = _
    rw [BitVec.toNat_and]
    exact Nat.and_two_pow_sub_one_eq_mod _ 1
  have g : x.toBitVec.getLsbD 0 = decide (x.toBitVec.toNat % 2 = 1) := by
    show x.toBitVec.toNat.testBit 0 = _
    exact Nat.testBit_zero _
  rw [g, decide_eq_true_iff]
  constructor
  · intro h
    rw [h] at e
    exact e.symm
  · intro h
    exact eq_n64 (e.trans h)
theorem bitk (x : Int64) {k : Nat} (hk : k < 64) : uL x (nI k) &&& 1 = 1 ↔ x.toBitVec.getLsbD k = true := by
  rw [bit1, uL_bv x hk, BitVec.getLsbD_ushiftRight, Nat.add_zero]
theorem smBit_eq (ah al : Int64) (n : Nat) (hn : n < 128) : lg_cmp (smBit ah al n) 1 = 0 ↔ (gpr (ah, al)).getLsbD (127 - n) = true := by
  rw [lg0]
  unfold smBit gpr
  rw [gcat_bit]
  by_cases h : 64 ≤ n
  · rw [if_pos h, if_pos (by omega), bitk al (by omega)]
  · rw [if_neg h, if_neg (by omega), bitk ah (by omega), show 127 - n - 64 = 63 - n by omega]
theorem gM_pr (hi lo : Int64) : gpr (if lg_cmp (lo &&& 1) 1 = 0 then uL hi 1 ^^^ -2233785415175766016 else uL hi 1, uL lo 1 ||| sL hi 63) = gM (gpr (hi, lo)) := by
  show gcat (Int64.toBitVec (if lg_cmp (lo &&& 1) 1 = 0 then uL hi (nI 1) ^^^ -2233785415175766016 else uL hi (nI 1))) ((uL lo (nI 1)).toBitVec ||| (sL hi (nI 63)).toBitVec) = gM (gcat hi.toBitVec lo.toBitVec)
  rw [gM_one, uL_bv lo (by omega), sL_bv hi (by omega)]
  congr 1
  by_cases h : lo.toBitVec.getLsbD 0 = true
  · rw [if_pos ((lg0 _ _).2 ((bit1 lo).2 h)), h]
    show (uL hi (nI 1)).toBitVec ^^^ _ = _
    rw [uL_bv hi (by omega)]
    rfl
  · rw [if_neg (fun q => h ((bit1 lo).1 ((lg0 _ _).1 q))), uL_bv hi (by omega), Bool.eq_false_iff.2 h]
    simp
theorem gB_if (b : Bool) (v : BitVec 128) : gB b v = if b = true then v else 0#128 := by cases b <;> rfl
theorem smI_eq (kh kl ah al : Int64) : ∀ n, n ≤ 128 → gpr ((smI kh kl ah al n).1, (smI kh kl ah al n).2.1) = gS (gpr (kh, kl)) (fun k => (gpr (ah, al)).getLsbD (127 - k)) n ∧ gpr ((smI kh kl ah al n).2.2.1, (smI kh kl ah al n).2.2.2) = gV (gpr (kh, kl)) n
  | 0, _ => ⟨show gcat 0#64 0#64 = 0#128 by decide, rfl⟩
  | n + 1, h => by
    obtain ⟨h1, h2⟩ := smI_eq kh kl ah al n (by omega)
    constructor
    · show gpr ((smS ah al n (smI kh kl ah al n)).1, (smS ah al n (smI kh kl ah al n)).2.1) = gS _ _ n ^^^ gB _ (gV _ n)
      rw [← h1, ← h2, gB_if]
      have e := smBit_eq ah al n (by omega)
      unfold smS
      by_cases q : (gpr (ah, al)).getLsbD (127 - n) = true
      · simp only [if_pos (e.2 q), if_pos q]
        unfold gpr
        rw [gcat_xor]
        rfl
      · simp only [if_neg (fun w => q (e.1 w)), if_neg q, BitVec.xor_zero]
    · show gpr ((smS ah al n (smI kh kl ah al n)).2.2.1, (smS ah al n (smI kh kl ah al n)).2.2.2) = gM (gV _ n)
      rw [← h2]
      exact gM_pr _ _
/-- GHASH: what the class absorbs is what the reference sums -/
theorem gabs_eq {th tl : Nat → Int64} {kh kl : Int64} (hT : TB th tl (gpr (kh, kl))) (z : Int64 × Int64) (a b c d : Int32) : gabs th tl z a b c d = smx kh kl (z.1, z.2) (joinL a b) (joinL c d) := by
  apply gpr_inj
  unfold gabs gmulx smx
  rw [(smI_eq kh kl _ _ 128 (by omega)).1, gh_hi th tl _ hT _ (z.2 ^^^ joinL c d) _ (gh_lo th tl _ hT _ _ 16 (by omega)) 16 (by omega)]
  unfold gh
  exact gS_congr _ (fun k _ => congrArg (BitVec.getLsbD _) (by omega))
/-- the class's tables -/
theorem gk1_eq (q : Int64 × Int64) : gpr (gk1 q) = gM (gpr q) := by
  rw [show q = (q.1, q.2) from rfl, ← gM_pr]
  refine congrArg gpr (Prod.ext ?_ rfl)
  show uL q.1 1 ^^^ sL ((q.2 &&& 1) * 57600) 48 = if lg_cmp (q.2 &&& 1) 1 = 0 then uL q.1 1 ^^^ -2233785415175766016 else uL q.1 1
  have e : (q.2 &&& 1).toBitVec.toNat = q.2.toBitVec.toNat % 2 := by
    show (q.2.toBitVec &&& 1#64).toNat = _
    rw [BitVec.toNat_and]
    exact Nat.and_two_pow_sub_one_eq_mod _ 1
  by_cases h : q.2 &&& 1 = 1
  · rw [if_pos ((lg0 _ _).2 h), h]
    rfl
  · rw [if_neg (fun w => h ((lg0 _ _).1 w))]
    have z : q.2 &&& 1 = 0 := eq_n64 (by
      rw [e]
      have : ¬ q.2.toBitVec.toNat % 2 = 1 := fun w => h (eq_n64 (e.trans w))
      show _ = 0
      omega)
    rw [z, show sL ((0 : Int64) * 57600) 48 = 0 by decide, Int64.xor_zero]
theorem gtab_eq {v0 : Int64 × Int64} {th tl : Nat → Int64} (h1 : gtabP v0.1 (gk1 v0).1 (gk1 (gk1 v0)).1 (gk1 (gk1 (gk1 v0))).1 0 th) (h2 : gtabP v0.2 (gk1 v0).2 (gk1 (gk1 v0)).2 (gk1 (gk1 (gk1 v0))).2 0 tl) : TB th tl (gpr v0) := by
  obtain ⟨a0, a1, a2, a3, a4, a5, a6, a7, a8, a9, a10, a11, a12, a13, a14, a15⟩ := h1
  obtain ⟨b0, b1, b2, b3, b4, b5, b6, b7, b8, b9, b10, b11, b12, b13, b14, b15⟩ := h2
  have e1 := gk1_eq v0
  have e2 := gk1_eq (gk1 v0)
  have e3 := gk1_eq (gk1 (gk1 v0))
  rw [e1] at e2
  rw [e2] at e3
  have x : ∀ p q : Int64 × Int64, gpr (p.1 ^^^ q.1, p.2 ^^^ q.2) = gpr p ^^^ gpr q := fun p q => (gcat_xor ..).symm
  have x2 : ∀ p q r : Int64 × Int64, gpr (p.1 ^^^ (q.1 ^^^ r.1), p.2 ^^^ (q.2 ^^^ r.2)) = gpr p ^^^ (gpr q ^^^ gpr r) := fun p q r => by rw [← x q r]; exact x p (q.1 ^^^ r.1, q.2 ^^^ r.2)
  have x3 : ∀ p q r t : Int64 × Int64, gpr (p.1 ^^^ (q.1 ^^^ (r.1 ^^^ t.1)), p.2 ^^^ (q.2 ^^^ (r.2 ^^^ t.2))) = gpr p ^^^ (gpr q ^^^ (gpr r ^^^ gpr t)) := fun p q r t => by rw [← x2 q r t]; exact x p (q.1 ^^^ (r.1 ^^^ t.1), q.2 ^^^ (r.2 ^^^ t.2))
  intro v hv
  have c : v = 0 ∨ v = 1 ∨ v = 2 ∨ v = 3 ∨ v = 4 ∨ v = 5 ∨ v = 6 ∨ v = 7 ∨ v = 8 ∨ v = 9 ∨ v = 10 ∨ v = 11 ∨ v = 12 ∨ v = 13 ∨ v = 14 ∨ v = 15 := by omega
  rcases c with rfl | rfl | rfl | rfl | rfl | rfl | rfl | rfl | rfl | rfl | rfl | rfl | rfl | rfl | rfl | rfl
  · rw [a0, b0]
    show _ = gB false (gpr v0) ^^^ gB false (gM (gpr v0)) ^^^ gB false (gM (gM (gpr v0))) ^^^ gB false (gM (gM (gM (gpr v0))))
    simp only [gB, cond_false, BitVec.xor_zero]
    show gcat 0#64 0#64 = 0#128
    decide
  · rw [a1, b1]
    show _ = gB false (gpr v0) ^^^ gB false (gM (gpr v0)) ^^^ gB false (gM (gM (gpr v0))) ^^^ gB true (gM (gM (gM (gpr v0))))
    show gpr (gk1 (gk1 (gk1 v0))) = _
    simp only [gB, cond_false, cond_true, BitVec.xor_zero, BitVec.zero_xor, BitVec.xor_assoc, e3]
  · rw [a2, b2]
    show _ = gB false (gpr v0) ^^^ gB false (gM (gpr v0)) ^^^ gB true (gM (gM (gpr v0))) ^^^ gB false (gM (gM (gM (gpr v0))))
    show gpr (gk1 (gk1 v0)) = _
    simp only [gB, cond_false, cond_true, BitVec.xor_zero, BitVec.zero_xor, BitVec.xor_assoc, e2]
  · rw [a3, b3]
    show _ = gB false (gpr v0) ^^^ gB false (gM (gpr v0)) ^^^ gB true (gM (gM (gpr v0))) ^^^ gB true (gM (gM (gM (gpr v0))))
    rw [x (gk1 (gk1 v0)) (gk1 (gk1 (gk1 v0)))]
    simp only [gB, cond_false, cond_true, BitVec.xor_zero, BitVec.zero_xor, BitVec.xor_assoc, e2, e3]
  · rw [a4, b4]
    show _ = gB false (gpr v0) ^^^ gB true (gM (gpr v0)) ^^^ gB false (gM (gM (gpr v0))) ^^^ gB false (gM (gM (gM (gpr v0))))
    show gpr (gk1 v0) = _
    simp only [gB, cond_false, cond_true, BitVec.xor_zero, BitVec.zero_xor, BitVec.xor_assoc, e1]
  · rw [a5, b5]
    show _ = gB false (gpr v0) ^^^ gB true (gM (gpr v0)) ^^^ gB false (gM (gM (gpr v0))) ^^^ gB true (gM (gM (gM (gpr v0))))
    rw [x (gk1 v0) (gk1 (gk1 (gk1 v0)))]
    simp only [gB, cond_false, cond_true, BitVec.xor_zero, BitVec.zero_xor, BitVec.xor_assoc, e1, e3]
  · rw [a6, b6]
    show _ = gB false (gpr v0) ^^^ gB true (gM (gpr v0)) ^^^ gB true (gM (gM (gpr v0))) ^^^ gB false (gM (gM (gM (gpr v0))))
    rw [x (gk1 v0) (gk1 (gk1 v0))]
    simp only [gB, cond_false, cond_true, BitVec.xor_zero, BitVec.zero_xor, BitVec.xor_assoc, e1, e2]
  · rw [a7, b7]
    show _ = gB false (gpr v0) ^^^ gB true (gM (gpr v0)) ^^^ gB true (gM (gM (gpr v0))) ^^^ gB true (gM (gM (gM (gpr v0))))
    rw [x2 (gk1 v0) (gk1 (gk1 v0)) (gk1 (gk1 (gk1 v0)))]
    simp only [gB, cond_false, cond_true, BitVec.xor_zero, BitVec.zero_xor, BitVec.xor_assoc, e1, e2, e3]
  · rw [a8, b8]
    show _ = gB true (gpr v0) ^^^ gB false (gM (gpr v0)) ^^^ gB false (gM (gM (gpr v0))) ^^^ gB false (gM (gM (gM (gpr v0))))
    show gpr v0 = _
    simp only [gB, cond_false, cond_true, BitVec.xor_zero, BitVec.zero_xor, BitVec.xor_assoc]
  · rw [a9, b9]
    show _ = gB true (gpr v0) ^^^ gB false (gM (gpr v0)) ^^^ gB false (gM (gM (gpr v0))) ^^^ gB true (gM (gM (gM (gpr v0))))
    rw [x v0 (gk1 (gk1 (gk1 v0)))]
    simp only [gB, cond_false, cond_true, BitVec.xor_zero, BitVec.zero_xor, BitVec.xor_assoc, e3]
  · rw [a10, b10]
    show _ = gB true (gpr v0) ^^^ gB false (gM (gpr v0)) ^^^ gB true (gM (gM (gpr v0))) ^^^ gB false (gM (gM (gM (gpr v0))))
    rw [x v0 (gk1 (gk1 v0))]
    simp only [gB, cond_false, cond_true, BitVec.xor_zero, BitVec.zero_xor, BitVec.xor_assoc, e2]
  · rw [a11, b11]
    show _ = gB true (gpr v0) ^^^ gB false (gM (gpr v0)) ^^^ gB true (gM (gM (gpr v0))) ^^^ gB true (gM (gM (gM (gpr v0))))
    rw [x2 v0 (gk1 (gk1 v0)) (gk1 (gk1 (gk1 v0)))]
    simp only [gB, cond_false, cond_true, BitVec.xor_zero, BitVec.zero_xor, BitVec.xor_assoc, e2, e3]
  · rw [a12, b12]
    show _ = gB true (gpr v0) ^^^ gB true (gM (gpr v0)) ^^^ gB false (gM (gM (gpr v0))) ^^^ gB false (gM (gM (gM (gpr v0))))
    rw [x v0 (gk1 v0)]
    simp only [gB, cond_false, cond_true, BitVec.xor_zero, BitVec.zero_xor, BitVec.xor_assoc, e1]
  · rw [a13, b13]
    show _ = gB true (gpr v0) ^^^ gB true (gM (gpr v0)) ^^^ gB false (gM (gM (gpr v0))) ^^^ gB true (gM (gM (gM (gpr v0))))
    rw [x2 v0 (gk1 v0) (gk1 (gk1 (gk1 v0)))]
    simp only [gB, cond_false, cond_true, BitVec.xor_zero, BitVec.zero_xor, BitVec.xor_assoc, e1, e3]
  · rw [a14, b14]
    show _ = gB true (gpr v0) ^^^ gB true (gM (gpr v0)) ^^^ gB true (gM (gM (gpr v0))) ^^^ gB false (gM (gM (gM (gpr v0))))
    rw [x2 v0 (gk1 v0) (gk1 (gk1 v0))]
    simp only [gB, cond_false, cond_true, BitVec.xor_zero, BitVec.zero_xor, BitVec.xor_assoc, e1, e2]
  · rw [a15, b15]
    show _ = gB true (gpr v0) ^^^ gB true (gM (gpr v0)) ^^^ gB true (gM (gM (gpr v0))) ^^^ gB true (gM (gM (gM (gpr v0))))
    rw [x3 v0 (gk1 v0) (gk1 (gk1 v0)) (gk1 (gk1 (gk1 v0)))]
    simp only [gB, cond_false, cond_true, BitVec.xor_zero, BitVec.zero_xor, BitVec.xor_assoc, e1, e2, e3]

/-! long words of bytes, rows -/
theorem i64_n : ∀ n, n < 256 → (nI n).toInt64.toBitVec.toNat = n := by decide +kernel
theorem lN_n {n : Nat} (h : n < 2 ^ 63) : (lN n).toBitVec.toNat = n := by
  show n % 2 ^ 64 = n
  omega
theorem nIl_n {n : Nat} (h : n < 2 ^ 31) : (nI n).toInt64.toBitVec.toNat = n := by
  rw [nI_l h]
  exact lN_n (by omega)
theorem joinL_bv (a b : Int32) : (joinL a b).toBitVec = a.toBitVec ++ b.toBitVec := by
  show (sL a.toInt64 (nI 32)).toBitVec ||| (b.toBitVec.signExtend 64 &&& 4294967295#64) = _
  rw [sL_bv _ (by omega)]
  show a.toBitVec.signExtend 64 <<< 32 ||| (b.toBitVec.signExtend 64 &&& 4294967295#64) = _
  apply BitVec.eq_of_getLsbD_eq
  intro i hi
  have m : (4294967295#64).getLsbD i = decide (i < 32) := (by decide +kernel : ∀ i, i < 64 → (4294967295#64).getLsbD i = decide (i < 32)) i hi
  rw [BitVec.getLsbD_or, BitVec.getLsbD_and, m, BitVec.getLsbD_shiftLeft, BitVec.getLsbD_append, BitVec.getLsbD_signExtend, BitVec.getLsbD_signExtend]
  by_cases h : i < 32
  · have h2 : i < 64 := by omega
    simp [h, h2]
  · have h2 : i - 32 < 32 := by omega
    have h3 : i - 32 < 64 := by omega
    simp [h, h2, h3, hi]
theorem app_n {m n : Nat} (x : BitVec m) (y : BitVec n) : (x ++ y).toNat = x.toNat * 2 ^ n + y.toNat := by
  rw [BitVec.toNat_append, Nat.shiftLeft_eq, Nat.mul_comm, Nat.two_pow_add_eq_or_of_lt y.isLt]
theorem joinL_n (a b : Int32) : (joinL a b).toBitVec.toNat = a.toBitVec.toNat * 4294967296 + b.toBitVec.toNat := by
  rw [joinL_bv]
  exact app_n _ _
theorem m8_step (v : Int64) {n : Nat} (h : n < 256) : (sL v 8 ||| (nI n).toInt64).toBitVec.toNat = v.toBitVec.toNat % 72057594037927936 * 256 + n := by
  show ((sL v (nI 8)).toBitVec ||| (nI n).toInt64.toBitVec).toNat = _
  rw [BitVec.toNat_or, i64_n n h, sL_bv v (by omega), BitVec.toNat_shiftLeft, Nat.shiftLeft_eq]
  have e : v.toBitVec.toNat * 2 ^ 8 % 2 ^ 64 = v.toBitVec.toNat % 72057594037927936 * 2 ^ 8 := by omega
  rw [e]
  exact or_n (k := 8) h
theorem m8s_x (g : Nat → Nat) (a z i : Nat) (v : Int64) : m8s g a z i v = sL v 8 ||| (nI (xg g z (a + i))).toInt64 := by
  unfold m8s xg
  by_cases h : z ≤ a + i
  · rw [if_pos h, if_pos h]
    rfl
  · rw [if_neg h, if_neg h]
theorem m8_eq {g : Nat → Nat} (hg : By g) (a z : Nat) : m8 g a z = joinL (bw (xg g z) a) (bw (xg g z) (a + 4)) := by
  have b := xg_B hg z
  apply eq_n64
  rw [joinL_n, bw_n b, bw_n b]
  show (m8s g a z 7 (m8s g a z 6 (m8s g a z 5 (m8s g a z 4 (m8s g a z 3 (m8s g a z 2 (m8s g a z 1 (m8s g a z 0 0)))))))).toBitVec.toNat = _
  simp only [m8s_x]
  have h0 := b (a + 0)
  have h1 := b (a + 1)
  have h2 := b (a + 2)
  have h3 := b (a + 3)
  have h4 := b (a + 4)
  have h5 := b (a + 5)
  have h6 := b (a + 6)
  have h7 := b (a + 7)
  have z0 : (0 : Int64).toBitVec.toNat = 0 := rfl
  rw [m8_step _ h7, m8_step _ h6, m8_step _ h5, m8_step _ h4, m8_step _ h3, m8_step _ h2, m8_step _ h1, m8_step _ h0, z0, Nat.add_zero,
    show a + 4 + 1 = a + 5 from rfl, show a + 4 + 2 = a + 6 from rfl, show a + 4 + 3 = a + 7 from rfl]
  rw [Nat.add_zero] at h0
  omega
theorem growx_eq {th tl : Nat → Int64} {kh kl : Int64} (hT : TB th tl (gpr (kh, kl))) {f : Nat → Int32} {len z : Nat} {g : Nat → Nat} (hr : RB f z g) (hg : By g) (hz : z ≤ len) (hl : len < 2 ^ 31) (s : Int64 × Int64) :
    ∀ i, iter (grow th tl f len z) i s = sRowx kh kl g z i (s.1, s.2)
  | 0 => rfl
  | i + 1 => by
    have ih := growx_eq hT hr hg hz hl s i
    unfold sRowx at ih
    unfold sRowx
    rw [iter_s, iter_s, ih]
    unfold grow sRow
    rw [gabs_eq hT, rword_eq hr hg hz hl, rword_eq hr hg hz hl, rword_eq hr hg hz hl, rword_eq hr hg hz hl, m8_eq hg, m8_eq hg, Nat.add_assoc (16 * i) 8 4]
theorem eight_n {n : Nat} (h : n ≤ 50000) : joinL 0 (8 * nI n) = 8 * (nI n).toInt64 := by
  apply eq_n64
  rw [joinL_n]
  have a : (8 * nI n : Int32) = nI (8 * n) := pk_mul 8 n
  have e : (8 * (nI n).toInt64).toBitVec.toNat = 8 * n := by
    show (8#64 * (nI n).toInt64.toBitVec).toNat = _
    rw [BitVec.toNat_mul, nIl_n (by omega)]
    show 8 * n % 2 ^ 64 = _
    omega
  rw [a, pk_tn (by omega), e]
  show 0 * 4294967296 + 8 * n = 8 * n
  omega
/-- GHASH over two rows and their lengths -/
theorem gfin_eq {th tl : Nat → Int64} {kh kl : Int64} (hT : TB th tl (gpr (kh, kl))) {f1 f2 : Nat → Int32} {len1 len2 z : Nat} {g1 g2 : Nat → Nat} (hr1 : RB f1 len1 g1) (hg1 : By g1) (hr2 : RB f2 z g2) (hg2 : By g2) (hz : z ≤ len2) (hl1 : len1 ≤ 50000) (hl2 : len2 ≤ 50000) :
    gfin th tl f1 len1 f2 len2 z = agR kh kl g1 len1 g2 z := by
  unfold gfin agR growx
  rw [gabs_eq hT, growx_eq hT hr1 hg1 (Nat.le_refl _) (by omega), growx_eq hT hr2 hg2 hz (by omega), eight_n hl1, eight_n (by omega)]
/-! the counter's block -/
theorem byI_W (n : Int32) : Wd (Bt (byI n 24)) (Bt (byI n 16)) (Bt (byI n 8)) (Bt (byI n 0)) = n := by
  apply eq_n32
  rw [Wd_n, Bt_n (byI_lt _ _), Bt_n (byI_lt _ _), Bt_n (byI_lt _ _), Bt_n (byI_lt _ _)]
  have := lt32 n
  unfold byI
  omega
theorem ctB_at (n : Int32) (g : Nat → Nat) (j : Nat) (m : Nat) : iter (ctB n) m g j = if 12 ≤ j ∧ j < 12 + m then byI n (24 - 8 * (j - 12)) else g j := iter_updN (fun i => byI n (24 - 8 * i)) 12 g j m
theorem cnt_bw (no : Nat → Nat) (n : Int32) (st : Nat → Nat) : bw (cntN no n st) 0 = bw no 0 ∧ bw (cntN no n st) 4 = bw no 4 ∧ bw (cntN no n st) 8 = bw no 8 ∧ bw (cntN no n st) 12 = n := by
  have lo : ∀ j, j < 12 → cntN no n st j = no j := fun j hj => by unfold cntN; rw [ctB_at, if_neg (by omega), nCpy_at, if_pos hj]
  have hi : ∀ j, 12 ≤ j → j < 16 → cntN no n st j = byI n (24 - 8 * (j - 12)) := fun j h1 h2 => by unfold cntN; rw [ctB_at, if_pos (by omega)]
  refine ⟨bw_congr (lo _ (by omega)) (lo _ (by omega)) (lo _ (by omega)) (lo _ (by omega)), bw_congr (lo _ (by omega)) (lo _ (by omega)) (lo _ (by omega)) (lo _ (by omega)), bw_congr (lo _ (by omega)) (lo _ (by omega)) (lo _ (by omega)) (lo _ (by omega)), ?_⟩
  unfold bw
  rw [hi _ (by omega) (by omega), hi _ (by omega) (by omega), hi _ (by omega) (by omega), hi _ (by omega) (by omega)]
  exact byI_W n
/-- a counter's block, turned -/
theorem ctr_eq {S gr no : Nat → Nat} {rk : Nat → Int32} {rn : Nat} {gs gm : Nat → Nat} (hS : sbTb S) (hB : By S) (hr : By gr) (hs : By gs) (hm : By gm) (hn : By no) (hk : rkB rk gr (4 * (rn + 1))) (h1 : 1 ≤ rn) (n : Int32) :
    aesI rk rn (bw no 0) (bw no 4) (bw no 8) n = st16 (turnN S gr rn (cntN no n gs) gm rn).1 := by
  have c := cnt_bw no n gs
  have a := aes_eq hS hB hr (cntN_B hn n hs) hm hk h1
  rw [c.1, c.2.1, c.2.2.1, c.2.2.2] at a
  exact a
theorem byL_hi (x : Int64) : (uL x 32).toInt32 = Wd (Bt (byL x 56)) (Bt (byL x 48)) (Bt (byL x 40)) (Bt (byL x 32)) := by
  apply eq_n32
  rw [Wd_n, Bt_n (byL_lt _ _), Bt_n (byL_lt _ _), Bt_n (byL_lt _ _), Bt_n (byL_lt _ _), toI32_n, show uL x 32 = uL x (nI 32) from rfl, uL_bv x (by omega), BitVec.toNat_ushiftRight, Nat.shiftRight_eq_div_pow]
  have := lt64 x
  unfold byL
  omega
theorem byL_lo (x : Int64) : x.toInt32 = Wd (Bt (byL x 24)) (Bt (byL x 16)) (Bt (byL x 8)) (Bt (byL x 0)) := by
  apply eq_n32
  rw [Wd_n, Bt_n (byL_lt _ _), Bt_n (byL_lt _ _), Bt_n (byL_lt _ _), Bt_n (byL_lt _ _), toI32_n]
  unfold byL
  omega
theorem prS_at (v : Nat → Nat) (nu : Int64) (g : Nat → Nat) (n j : Nat) : iter (prS v nu) n g j = if j < n then v j ^^^ (if 4 ≤ j then byL nu (8 * (11 - j)) else 0) else g j := iter_updN0 (fun i => v i ^^^ (if 4 ≤ i then byL nu (8 * (11 - i)) else 0)) g j n
/-- the nonce -/
theorem prN_bw (v : Nat → Nat) (nu : Int64) (g : Nat → Nat) : bw (prN v nu g) 0 = bw v 0 ∧ bw (prN v nu g) 4 = bw v 4 ^^^ (uL nu 32).toInt32 ∧ bw (prN v nu g) 8 = bw v 8 ^^^ nu.toInt32 := by
  have lo : ∀ j, j < 4 → prN v nu g j = v j := fun j hj => by unfold prN; rw [prS_at, if_pos (by omega), if_neg (by omega), Nat.xor_zero]
  have hi : ∀ j, 4 ≤ j → j < 12 → prN v nu g j = v j ^^^ byL nu (8 * (11 - j)) := fun j h1 h2 => by unfold prN; rw [prS_at, if_pos (by omega), if_pos h1]
  refine ⟨bw_congr (lo _ (by omega)) (lo _ (by omega)) (lo _ (by omega)) (lo _ (by omega)), ?_, ?_⟩
  · rw [byL_hi]
    unfold bw
    rw [Wd_xor, hi _ (by omega) (by omega), hi _ (by omega) (by omega), hi _ (by omega) (by omega), hi _ (by omega) (by omega), Bt_xor, Bt_xor, Bt_xor, Bt_xor]
  · rw [byL_lo]
    unfold bw
    rw [Wd_xor, hi _ (by omega) (by omega), hi _ (by omega) (by omega), hi _ (by omega) (by omega), hi _ (by omega) (by omega), Bt_xor, Bt_xor, Bt_xor, Bt_xor]
/-! the tag -/
theorem tgA_at (st : Nat → Nat) (sh sl : Int64) (g : Nat → Nat) (n j : Nat) : iter (tgA st sh sl) n g j = if j < n then st j ^^^ (if 8 ≤ j then byL sl (120 - 8 * j) else byL sh (56 - 8 * j)) else g j := iter_updN0 (fun i => st i ^^^ (if 8 ≤ i then byL sl (120 - 8 * i) else byL sh (56 - 8 * i))) g j n
theorem gtag_eq {rk : Nat → Int32} {rn : Nat} {n0 n1 n2 : Int32} {st : Nat → Nat} (w : Int64 × Int64) (g : Nat → Nat) (h : aesI rk rn n0 n1 n2 1 = st16 st) : gtag rk rn n0 n1 n2 w = st16 (iter (tgA st w.1 w.2) 16 g) := by
  unfold gtag
  rw [h]
  have lo : ∀ j, j < 8 → iter (tgA st w.1 w.2) 16 g j = st j ^^^ byL w.1 (56 - 8 * j) := fun j hj => by rw [tgA_at, if_pos (by omega), if_neg (by omega)]
  have hi : ∀ j, 8 ≤ j → j < 16 → iter (tgA st w.1 w.2) 16 g j = st j ^^^ byL w.2 (120 - 8 * j) := fun j h1 h2 => by rw [tgA_at, if_pos (by omega), if_pos h1]
  unfold st16
  rw [byL_hi, byL_lo w.1, byL_hi, byL_lo w.2]
  unfold bw
  rw [lo _ (by omega), lo _ (by omega), lo _ (by omega), lo _ (by omega), lo _ (by omega), lo _ (by omega), lo _ (by omega), lo _ (by omega),
    hi _ (by omega) (by omega), hi _ (by omega) (by omega), hi _ (by omega) (by omega), hi _ (by omega) (by omega), hi _ (by omega) (by omega), hi _ (by omega) (by omega), hi _ (by omega) (by omega), hi _ (by omega) (by omega)]
  simp only [Wd_xor, Bt_xor]
  simp only [BitVec.xor_comm (Bt (byL _ _))]
/-! writing rows -/
theorem i8_and (v : Int32) : v.toInt8.toInt32 &&& 255 = v &&& 255 := by
  apply Int32.toBitVec_inj.1
  show (v.toBitVec.signExtend 8).signExtend 32 &&& 255#32 = v.toBitVec &&& 255#32
  apply BitVec.eq_of_getLsbD_eq
  intro i hi
  have m : (255#32).getLsbD i = decide (i < 8) := (by decide +kernel : ∀ i, i < 32 → (255#32).getLsbD i = decide (i < 8)) i hi
  rw [BitVec.getLsbD_and, BitVec.getLsbD_and, m, BitVec.getLsbD_signExtend]
  by_cases h : i < 8
  · rw [BitVec.signExtend_eq_setWidth_of_le _ (by omega), BitVec.getLsbD_setWidth]
    have h2 : i < 32 := by omega
    simp [h, h2]
  · simp [h]
theorem rset_in (f : Nat → Int32) {len j : Nat} (v : Int32) (h : j < len) (hl : len < 2 ^ 31) : rset f len (nI j) v = upd f j v.toInt8.toInt32 := by
  unfold rset
  rw [if_neg (nI_pos (by omega)), if_neg (nI_ge h hl), nI_clamp (by omega)]
theorem rset_and (f : Nat → Int32) {len j : Nat} (v : Int32) (h : j < len) (hl : len < 2 ^ 31) (k : Nat) : rset f len (nI j) v k &&& 255 = if k = j then v &&& 255 else f k &&& 255 := by
  rw [rset_in f v h hl]
  by_cases e : k = j
  · subst e
    rw [pk_us, if_pos rfl, i8_and]
  · rw [pk_un e, if_neg e]
theorem ix0a (x : Int32) : uS x 24 &&& 255 = nI (byI x 24) := sb_by (k := 24) rfl (by omega)
theorem rsetw_and (f : Nat → Int32) {len a : Nat} (w : Int32) (h : a + 4 ≤ len) (hl : len < 2 ^ 31) (k : Nat) : rsetw f len (nI a) w k &&& 255 = if a ≤ k ∧ k < a + 4 then nI (byI w (24 - 8 * (k - a))) else f k &&& 255 := by
  unfold rsetw
  rw [show (nI a + 1 : Int32) = nI (a + 1) from (nI_succ a).symm, show (nI a + 2 : Int32) = nI (a + 2) from nI_add a 2, show (nI a + 3 : Int32) = nI (a + 3) from nI_add a 3]
  rw [rset_and _ _ (by omega) hl, rset_and _ _ (by omega) hl, rset_and _ _ (by omega) hl, rset_and _ _ (by omega) hl]
  by_cases c3 : k = a + 3
  · rw [if_pos c3, if_pos (by omega), show 24 - 8 * (k - a) = 0 by omega]
    exact sb_by0 w
  · rw [if_neg c3]
    by_cases c2 : k = a + 2
    · rw [if_pos c2, if_pos (by omega), show 24 - 8 * (k - a) = 8 by omega]
      exact sb_by (k := 8) rfl (by omega)
    · rw [if_neg c2]
      by_cases c1 : k = a + 1
      · rw [if_pos c1, if_pos (by omega), show 24 - 8 * (k - a) = 16 by omega]
        exact sb_by (k := 16) rfl (by omega)
      · rw [if_neg c1]
        by_cases c0 : k = a
        · rw [if_pos c0, if_pos (by omega), show 24 - 8 * (k - a) = 24 by omega]
          exact ix0a w
        · rw [if_neg c0, if_neg (by omega)]
theorem byI_bw {g : Nat → Nat} (hg : By g) (k i : Nat) (hi : i < 4) : byI (bw g k) (24 - 8 * i) = g (k + i) := by
  unfold byI
  rw [bw_n hg]
  have h0 := hg k
  have h1 := hg (k + 1)
  have h2 := hg (k + 2)
  have h3 := hg (k + 3)
  have c : i = 0 ∨ i = 1 ∨ i = 2 ∨ i = 3 := by omega
  rcases c with rfl | rfl | rfl | rfl
  · show _ / 2 ^ 24 % 256 = g k
    omega
  · show _ / 2 ^ 16 % 256 = _
    omega
  · show _ / 2 ^ 8 % 256 = _
    omega
  · show _ / 2 ^ 0 % 256 = _
    omega
theorem wtag_and (f : Nat → Int32) {len a : Nat} {t : Nat → Nat} (ht : By t) (h : a + 16 ≤ len) (hl : len < 2 ^ 31) (k : Nat) :
    wtag f len a (bw t 0) (bw t 4) (bw t 8) (bw t 12) k &&& 255 = if a ≤ k ∧ k < a + 16 then nI (t (k - a)) else f k &&& 255 := by
  unfold wtag
  rw [rsetw_and _ _ (by omega) hl, rsetw_and _ _ (by omega) hl, rsetw_and _ _ (by omega) hl, rsetw_and _ _ (by omega) hl]
  by_cases c3 : a + 12 ≤ k ∧ k < a + 12 + 4
  · rw [if_pos c3, if_pos (by omega), byI_bw ht 12 (k - (a + 12)) (by omega), show 12 + (k - (a + 12)) = k - a by omega]
  · rw [if_neg c3]
    by_cases c2 : a + 8 ≤ k ∧ k < a + 8 + 4
    · rw [if_pos c2, if_pos (by omega), byI_bw ht 8 (k - (a + 8)) (by omega), show 8 + (k - (a + 8)) = k - a by omega]
    · rw [if_neg c2]
      by_cases c1 : a + 4 ≤ k ∧ k < a + 4 + 4
      · rw [if_pos c1, if_pos (by omega), byI_bw ht 4 (k - (a + 4)) (by omega), show 4 + (k - (a + 4)) = k - a by omega]
      · rw [if_neg c1]
        by_cases c0 : a ≤ k ∧ k < a + 4
        · rw [if_pos c0, if_pos (by omega), byI_bw ht 0 (k - a) (by omega), Nat.zero_add]
        · rw [if_neg c0, if_neg (by omega)]
theorem slS_at (tg : Nat → Nat) (z : Nat) (g : Nat → Nat) (j n : Nat) : iter (slS tg z) n g j = if z ≤ j ∧ j < z + n then tg (j - z) else g j := iter_updN tg z g j n
/-- the tag behind the text -/
theorem wtag_RB {f : Nat → Int32} {z : Nat} {t g : Nat → Nat} (ht : By t) (hl : z ≤ 50000) (hr : RB f z g) :
    RB (wtag f (z + 16) z (bw t 0) (bw t 4) (bw t 8) (bw t 12)) (z + 16) (iter (slS t z) 16 g) := fun j hj => by
  rw [wtag_and f ht (by omega) (by omega), slS_at]
  by_cases c : z ≤ j ∧ j < z + 16
  · rw [if_pos c, if_pos c]
  · rw [if_neg c, if_neg c, hr j (by omega)]
/-! does the tag fit -/
theorem opS_all (tg tp : Nat → Nat) (z : Nat) : ∀ n, iter (opS tg tp z) n 0 = if (∀ i, i < n → tg i = tp (z + i)) then 0 else 2
  | 0 => by
    rw [if_pos (fun i h => absurd h (by omega))]
    rfl
  | n + 1 => by
    show (if tg n = tp (z + n) then iter (opS tg tp z) n 0 else 2) = _
    rw [opS_all tg tp z n]
    by_cases e : tg n = tp (z + n)
    · rw [if_pos e]
      by_cases q : ∀ i, i < n → tg i = tp (z + i)
      · rw [if_pos q, if_pos (fun i h => by
          by_cases w : i = n
          · rw [w]; exact e
          · exact q i (by omega))]
      · rw [if_neg q, if_neg (fun r => q (fun i h => r i (by omega)))]
    · rw [if_neg e, if_neg (fun r => e (r n (by omega)))]
theorem or4 (a b c d : Int32) : (((0 ||| a) ||| b) ||| c) ||| d = 0 ↔ a = 0 ∧ b = 0 ∧ c = 0 ∧ d = 0 := by
  constructor
  · intro h
    have e : ∀ i, i < 32 → (a.toBitVec.getLsbD i = false ∧ b.toBitVec.getLsbD i = false ∧ c.toBitVec.getLsbD i = false ∧ d.toBitVec.getLsbD i = false) := fun i hi => by
      have q : (((0#32 ||| a.toBitVec) ||| b.toBitVec) ||| c.toBitVec ||| d.toBitVec).getLsbD i = (0#32).getLsbD i := congrArg (fun x : Int32 => x.toBitVec.getLsbD i) h
      simp at q
      exact ⟨q.1.1.1, q.1.1.2, q.1.2, q.2⟩
    refine ⟨?_, ?_, ?_, ?_⟩ <;> apply Int32.toBitVec_inj.1 <;> apply BitVec.eq_of_getLsbD_eq <;> intro i hi
    · rw [(e i hi).1]; simp
    · rw [(e i hi).2.1]; simp
    · rw [(e i hi).2.2.1]; simp
    · rw [(e i hi).2.2.2]; simp
  · rintro ⟨rfl, rfl, rfl, rfl⟩
    decide
theorem xor0 (a b : Int32) : a ^^^ b = 0 ↔ a = b := by
  constructor
  · intro h
    have : (a ^^^ b) ^^^ b = 0 ^^^ b := by rw [h]
    rwa [Int32.xor_assoc, Int32.xor_self, Int32.xor_zero, Int32.zero_xor] at this
  · rintro rfl
    exact Int32.xor_self
theorem bw_inj {g h : Nat → Nat} (hg : By g) (hh : By h) {k l : Nat} (e : bw g k = bw h l) (i : Nat) (hi : i < 4) : g (k + i) = h (l + i) := by
  rw [← byI_bw hg k i hi, e, byI_bw hh l i hi]
theorem dtag_eq {f : Nat → Int32} {z : Nat} {t g : Nat → Nat} (ht : By t) (hg : By g) (hl : z ≤ 50000) (hr : RB f (z + 16) g) :
    dtag f (z + 16) z (bw t 0) (bw t 4) (bw t 8) (bw t 12) = 0 ↔ iter (opS t g z) 16 0 = 0 := by
  unfold dtag
  rw [rword_eq hr hg (Nat.le_refl _) (by omega), rword_eq hr hg (Nat.le_refl _) (by omega), rword_eq hr hg (Nat.le_refl _) (by omega), rword_eq hr hg (Nat.le_refl _) (by omega), or4, xor0, xor0, xor0, xor0, opS_all]
  have b := xg_B hg (z + 16)
  have x : ∀ j, j < 16 → xg g (z + 16) (z + j) = g (z + j) := fun j hj => xg_in (by omega)
  constructor
  · rintro ⟨e0, e1, e2, e3⟩
    rw [if_pos]
    intro i hi
    rw [← x i hi]
    by_cases c0 : i < 4
    · have := bw_inj b ht e0 i c0
      rw [this, Nat.zero_add]
    · by_cases c1 : i < 8
      · have := bw_inj b ht e1 (i - 4) (by omega)
        rw [show z + 4 + (i - 4) = z + i by omega, show 4 + (i - 4) = i by omega] at this
        rw [this]
      · by_cases c2 : i < 12
        · have := bw_inj b ht e2 (i - 8) (by omega)
          rw [show z + 8 + (i - 8) = z + i by omega, show 8 + (i - 8) = i by omega] at this
          rw [this]
        · have := bw_inj b ht e3 (i - 12) (by omega)
          rw [show z + 12 + (i - 12) = z + i by omega, show 12 + (i - 12) = i by omega] at this
          rw [this]
  · intro h
    have a : ∀ i, i < 16 → t i = g (z + i) := by
      by_cases q : ∀ i, i < 16 → t i = g (z + i)
      · exact q
      · rw [if_neg q] at h
        exact absurd h (by decide)
    have y : ∀ j, j < 16 → xg g (z + 16) (z + j) = t j := fun j hj => (x j hj).trans (a j hj).symm
    exact ⟨bw_congr (y 0 (by omega)) (y 1 (by omega)) (y 2 (by omega)) (y 3 (by omega)), bw_congr (y 4 (by omega)) (y 5 (by omega)) (y 6 (by omega)) (y 7 (by omega)), bw_congr (y 8 (by omega)) (y 9 (by omega)) (y 10 (by omega)) (y 11 (by omega)), bw_congr (y 12 (by omega)) (y 13 (by omega)) (y 14 (by omega)) (y 15 (by omega))⟩
theorem opS_02 (tg tp : Nat → Nat) (z n : Nat) : iter (opS tg tp z) n 0 = 0 ∨ iter (opS tg tp z) n 0 = 2 := by
  rw [opS_all]
  split
  · exact Or.inl rfl
  · exact Or.inr rfl

/-! AES-GCM's text -/
def qb (q : Q4) (j : Nat) : Nat := byI (i4 q.1 q.2.1 q.2.2.1 q.2.2.2 (j / 4)) (24 - 8 * (j % 4))
theorem qb_lt (q : Q4) (j : Nat) : qb q j < 256 := byI_lt _ _
theorem qb_st {g : Nat → Nat} (hg : By g) {j : Nat} (hj : j < 16) : qb (st16 g) j = g j := by
  unfold qb st16
  have e : i4 (bw g 0) (bw g 4) (bw g 8) (bw g 12) (j / 4) = bw g (4 * (j / 4)) := by
    have c : j / 4 = 0 ∨ j / 4 = 1 ∨ j / 4 = 2 ∨ j / 4 = 3 := by omega
    rcases c with h | h | h | h <;> rw [h] <;> rfl
  show byI (i4 (bw g 0) (bw g 4) (bw g 8) (bw g 12) (j / 4)) (24 - 8 * (j % 4)) = g j
  rw [e, byI_bw hg _ _ (by omega), show 4 * (j / 4) + j % 4 = j by omega]
def ksA (rk : Nat → Int32) (rn : Nat) (n0 n1 n2 : Int32) (j : Nat) : Nat := qb (aesI rk rn n0 n1 n2 (nI (2 + j / 16))) (j % 16)
theorem xS_at (t u : Nat → Nat) (b : Nat) (g : Nat → Nat) (j n : Nat) : iter (xS t u b) n g j = if b ≤ j ∧ j < b + n then t j ^^^ u (j - b) else g j := by
  have h := iter_updN (fun k => t (b + k) ^^^ u k) b g j n
  refine h.trans ?_
  by_cases c : b ≤ j ∧ j < b + n
  · rw [if_pos c, if_pos c, show b + (j - b) = j by omega]
  · rw [if_neg c, if_neg c]
theorem ctr_qb {S gr : Nat → Nat} {rk : Nat → Int32} {rn : Nat} (hS : sbTb S) (hB : By S) (hr : By gr) (hk : rkB rk gr (4 * (rn + 1))) (h1 : 1 ≤ rn) {no gs gm : Nat → Nat} (hn : By no) (hs : By gs) (hm : By gm) (n : Int32) {j : Nat} (hj : j < 16) :
    (turnN S gr rn (cntN no n gs) gm rn).1 j = qb (aesI rk rn (bw no 0) (bw no 4) (bw no 8) n) j := by
  rw [ctr_eq hS hB hr hs hm hn hk h1 n, qb_st (turnN_B hB hr (cntN_B hn n hs) hm rn rn).1 hj]
theorem cvAI_at {S gr : Nat → Nat} {rk : Nat → Int32} {rn : Nat} (hS : sbTb S) (hB : By S) (hr : By gr) (hk : rkB rk gr (4 * (rn + 1))) (h1 : 1 ≤ rn) {no tp gs gm gx : Nat → Nat} (hn : By no) (ht : By tp) (hs : By gs) (hm : By gm) (hx : By gx) (z j : Nat) :
    ∀ i, (cvAI S gr rn no tp z i (gs, gm, gx)).2.2 j = if j < 16 * i ∧ j < z then tp j ^^^ ksA rk rn (bw no 0) (bw no 4) (bw no 8) j else gx j
  | 0 => (if_neg (by omega)).symm
  | i + 1 => by
    have b := cvAI_B hB hr hn ht rn z i (q := (gs, gm, gx)) ⟨hs, hm, hx⟩
    have ih := cvAI_at hS hB hr hk h1 hn ht hs hm hx z j i
    show iter (xS tp (cvT S gr rn no i (cvAI S gr rn no tp z i (gs, gm, gx))).1 (16 * i)) (min 16 (z - 16 * i)) (cvAI S gr rn no tp z i (gs, gm, gx)).2.2 j = _
    rw [xS_at, ih]
    by_cases c : 16 * i ≤ j ∧ j < 16 * i + min 16 (z - 16 * i)
    · rw [if_pos c, if_pos (by omega)]
      unfold cvT ksA
      rw [ctr_qb hS hB hr hk h1 hn b.1 b.2.1 _ (by omega), show 16 * i / 16 = j / 16 by omega, show j - 16 * i = j % 16 by omega]
    · rw [if_neg c]
      by_cases d : j < 16 * i ∧ j < z
      · rw [if_pos d, if_pos (by omega)]
      · rw [if_neg d, if_neg (by omega)]
theorem and_xor255 (x y : Int32) : (x ^^^ y) &&& 255 = (x &&& 255) ^^^ (y &&& 255) := by
  apply Int32.toBitVec_inj.1
  exact bv_and_xor x.toBitVec y.toBitVec 255#32
theorem nI_255 {a : Nat} (h : a < 256) : nI a &&& 255 = nI a := by
  rw [sb_by0]
  unfold byI
  rw [pk_tn (by omega), Nat.pow_zero, Nat.div_one, Nat.mod_eq_of_lt h]
theorem rx_and {a k : Nat} (ha : a < 256) (w : Int32) (hk : k < 32) : (nI a ^^^ uS w (nI k)) &&& 255 = nI (a ^^^ byI w k) := by
  rw [and_xor255, nI_255 ha, sb_by rfl hk]
  exact sb_xor rfl rfl
/-- the class's text, a byte a turn -/
def gtP (rk : Nat → Int32) (rn : Nat) (n0 n1 n2 tu : Int32) (g : Nat → Nat) (nf : Nat → Int32) (i : Nat) (q : Int32 × Int32 × Q4 × (Nat → Int32)) : Prop :=
  q.1 = nI (1 + (i + 15) / 16) ∧ q.2.1 = tu + nI ((i + 15) / 16) ∧ (¬ i % 16 = 0 → q.2.2.1 = aesI rk rn n0 n1 n2 (nI (1 + (i + 15) / 16))) ∧ ∀ j, q.2.2.2 j &&& 255 = if j < i then nI (g j ^^^ ksA rk rn n0 n1 n2 j) else nf j &&& 255
theorem gtt_row {rk : Nat → Int32} {rn : Nat} {n0 n1 n2 : Int32} {f nf q : Nat → Int32} {len len2 i : Nat} {g : Nat → Nat} (hg : By g) (hf : f i &&& 255 = nI (g i)) (h1 : i < len) (h2 : i < len2) (hl : len < 2 ^ 31) (hl2 : len2 < 2 ^ 31)
    {Q : Q4} (hQ : Q = aesI rk rn n0 n1 n2 (nI (2 + i / 16))) (hq : ∀ j, q j &&& 255 = if j < i then nI (g j ^^^ ksA rk rn n0 n1 n2 j) else nf j &&& 255) (j : Nat) :
    rset q len2 (nI i) (rget f len (nI i) ^^^ uS (i4 Q.1 Q.2.1 Q.2.2.1 Q.2.2.2 (i % 16 / 4)) (nI (24 - 8 * (i % 16 % 4)))) j &&& 255 = if j < i + 1 then nI (g j ^^^ ksA rk rn n0 n1 n2 j) else nf j &&& 255 := by
  rw [rset_and _ _ h2 hl2]
  by_cases e : j = i
  · subst e
    rw [if_pos rfl, if_pos (by omega), rget_in h1 hl, hf, rx_and (hg _) _ (by omega)]
    unfold ksA
    rw [← hQ]
    rfl
  · rw [if_neg e, hq]
    by_cases c : j < i
    · rw [if_pos c, if_pos (by omega)]
    · rw [if_neg c, if_neg (by omega)]
theorem gtt_inv {rk : Nat → Int32} {rn : Nat} {n0 n1 n2 tu : Int32} {f nf : Nat → Int32} {len len2 z : Nat} {g : Nat → Nat} (b : Q4) (hg : By g) (hf : RB f z g) (h1 : z ≤ len) (h2 : z ≤ len2) (hl : len < 2 ^ 31) (hl2 : len2 < 2 ^ 31) :
    ∀ i, i ≤ z → gtP rk rn n0 n1 n2 tu g nf i (iter (gtt rk rn n0 n1 n2 f len len2) i (1, tu, b, nf))
  | 0, _ => ⟨rfl, (Int32.add_zero tu).symm, fun h => absurd rfl h, fun j => (if_neg (by omega)).symm⟩
  | i + 1, h => by
    obtain ⟨a1, a2, a3, a4⟩ := gtt_inv b hg hf h1 h2 hl hl2 i (by omega)
    rw [iter_s]
    generalize iter (gtt rk rn n0 n1 n2 f len len2) i (1, tu, b, nf) = q at a1 a2 a3 a4
    unfold gtt
    by_cases c : i % 16 = 0
    · rw [if_pos c]
      have e : q.1 + 1 = nI (1 + (i + 1 + 15) / 16) := by rw [a1, ← nI_succ]; exact congrArg nI (by omega)
      have e2 : q.1 + 1 = nI (2 + i / 16) := by rw [a1, ← nI_succ]; exact congrArg nI (by omega)
      refine ⟨e, ?_, fun _ => ?_, fun j => ?_⟩
      · show q.2.1 + 1 = _
        rw [a2, Int32.add_assoc, ← nI_succ]
        exact congrArg (fun n => tu + nI n) (by omega)
      · show aesI rk rn n0 n1 n2 (q.1 + 1) = _
        rw [e]
      · exact gtt_row hg (hf i (by omega)) (by omega) (by omega) hl hl2 (by rw [e2]) a4 j
    · rw [if_neg c]
      refine ⟨?_, ?_, fun _ => ?_, fun j => ?_⟩
      · show q.1 = _
        rw [a1]
        exact congrArg nI (by omega)
      · show q.2.1 = _
        rw [a2]
        exact congrArg (fun n => tu + nI n) (by omega)
      · show q.2.2.1 = _
        rw [a3 c]
        exact congrArg (fun n => aesI rk rn n0 n1 n2 (nI n)) (by omega)
      · refine gtt_row hg (hf i (by omega)) (by omega) (by omega) hl hl2 ?_ a4 j
        rw [a3 c]
        exact congrArg (fun n => aesI rk rn n0 n1 n2 (nI n)) (by omega)
/-- the text of both -/
theorem textA {S gr : Nat → Nat} {rk : Nat → Int32} {rn : Nat} (hS : sbTb S) (hB : By S) (hr : By gr) (hk : rkB rk gr (4 * (rn + 1))) (h1 : 1 ≤ rn) {no tp gs gm gx : Nat → Nat} (hn : By no) (ht : By tp) (hs : By gs) (hm : By gm) (hx : By gx) {f nf : Nat → Int32} {len len2 z : Nat} {tu : Int32} (b : Q4) (hf : RB f z tp) (hz1 : z ≤ len) (hz2 : z ≤ len2) (hl : len < 2 ^ 31) (hl2 : len2 < 2 ^ 31) :
    RB (iter (gtt rk rn (bw no 0) (bw no 4) (bw no 8) f len len2) z (1, tu, b, nf)).2.2.2 z (cvAI S gr rn no tp z ((z + 15) / 16) (gs, gm, gx)).2.2 ∧
    (iter (gtt rk rn (bw no 0) (bw no 4) (bw no 8) f len len2) z (1, tu, b, nf)).2.1 = tu + nI ((z + 15) / 16) := by
  have q := gtt_inv (rk := rk) (rn := rn) (n0 := bw no 0) (n1 := bw no 4) (n2 := bw no 8) (tu := tu) (nf := nf) b ht hf hz1 hz2 hl hl2 z (Nat.le_refl z)
  refine ⟨fun j hj => ?_, q.2.1⟩
  rw [q.2.2.2 j, if_pos hj, cvAI_at hS hB hr hk h1 hn ht hs hm hx, if_pos (by omega)]
/-- the hash's key -/
theorem keyA {S gr : Nat → Nat} {rk : Nat → Int32} {rn : Nat} (hS : sbTb S) (hB : By S) (hr : By gr) (hk : rkB rk gr (4 * (rn + 1))) (h1 : 1 ≤ rn) {gs gm : Nat → Nat} (hs : By gs) (hm : By gm) : aesI rk rn 0 0 0 0 = st16 (agK S gr rn gs gm).1 ∧ m8 (agK S gr rn gs gm).1 0 16 = joinL (aesI rk rn 0 0 0 0).1 (aesI rk rn 0 0 0 0).2.1 ∧ m8 (agK S gr rn gs gm).1 8 16 = joinL (aesI rk rn 0 0 0 0).2.2.1 (aesI rk rn 0 0 0 0).2.2.2 := by
  have a := aes_eq hS hB hr (nZero_B 16 _ hs) hm hk h1
  have z : ∀ k, k + 3 < 16 → bw (iter nZero 16 gs) k = 0 := fun k hk => by
    unfold bw
    rw [nZero_at, nZero_at, nZero_at, nZero_at, if_pos (by omega), if_pos (by omega), if_pos (by omega), if_pos (by omega)]
    decide
  rw [z 0 (by omega), z 4 (by omega), z 8 (by omega), z 12 (by omega)] at a
  have bk := (agK_B hB hr hs hm rn).1
  have e : aesI rk rn 0 0 0 0 = st16 (agK S gr rn gs gm).1 := a
  refine ⟨e, ?_, ?_⟩
  · rw [m8_eq bk, e]
    have x : ∀ j, j < 16 → xg (agK S gr rn gs gm).1 16 j = (agK S gr rn gs gm).1 j := fun j hj => xg_in hj
    rw [bw_congr (x 0 (by omega)) (x 1 (by omega)) (x 2 (by omega)) (x 3 (by omega)), bw_congr (x 4 (by omega)) (x 5 (by omega)) (x 6 (by omega)) (x 7 (by omega))]
    rfl
  · rw [m8_eq bk, e]
    have x : ∀ j, j < 16 → xg (agK S gr rn gs gm).1 16 j = (agK S gr rn gs gm).1 j := fun j hj => xg_in hj
    rw [bw_congr (x 8 (by omega)) (x 9 (by omega)) (x 10 (by omega)) (x 11 (by omega)), bw_congr (x 12 (by omega)) (x 13 (by omega)) (x 14 (by omega)) (x 15 (by omega))]
    rfl
/-- the tag of both -/
theorem tagA {S gr : Nat → Nat} {rk : Nat → Int32} {rn : Nat} (hS : sbTb S) (hB : By S) (hr : By gr) (hk : rkB rk gr (4 * (rn + 1))) (h1 : 1 ≤ rn) {no gs gm gg gz gt : Nat → Nat} (hn : By no) (hs : By gs) (hm : By gm) (hz : By gz) (ht : By gt) {th tl : Nat → Int64}
    (hT : TB th tl (gpr (joinL (aesI rk rn 0 0 0 0).1 (aesI rk rn 0 0 0 0).2.1, joinL (aesI rk rn 0 0 0 0).2.2.1 (aesI rk rn 0 0 0 0).2.2.2)))
    {f1 f2 : Nat → Int32} {lz len2 z : Nat} (hr1 : RB f1 lz gz) (hr2 : RB f2 z gt) (hzl : z ≤ len2) (hl1 : lz ≤ 50000) (hl2 : len2 ≤ 50000) :
    gtag rk rn (bw no 0) (bw no 4) (bw no 8) (gfin th tl f1 lz f2 len2 z) =
      st16 (iter (tgA (agT S gr rn no (agK S gr rn gs gm)).1 (agR (m8 (agK S gr rn gs gm).1 0 16) (m8 (agK S gr rn gs gm).1 8 16) gz lz gt z).1 (agR (m8 (agK S gr rn gs gm).1 0 16) (m8 (agK S gr rn gs gm).1 8 16) gz lz gt z).2) 16 gg) := by
  have k := keyA hS hB hr hk h1 hs hm
  have bk := agK_B hB hr hs hm rn
  have e : aesI rk rn (bw no 0) (bw no 4) (bw no 8) 1 = st16 (agT S gr rn no (agK S gr rn gs gm)).1 := ctr_eq hS hB hr bk.1 bk.2 hn hk h1 1
  rw [k.2.1, k.2.2, ← gfin_eq hT hr1 hz hr2 ht hzl hl1 hl2]
  exact gtag_eq _ gg e

/-! ChaCha20: blocks of both -/
theorem swpI_n (w : Int32) : swpI w = Wd (Bt (byI w 0)) (Bt (byI w 8)) (Bt (byI w 16)) (Bt (byI w 24)) := by
  apply Wd_eq
  show (((w <<< ((24 : Int32) &&& 31)).toBitVec ||| ((w &&& 65280) <<< ((8 : Int32) &&& 31)).toBitVec) ||| ((uS w 8).toBitVec &&& 65280#32)) ||| (uS w 24).toBitVec = _
  rw [shl_bv _ _ 24 (by decide), shl_bv _ _ 8 (by decide), uS_bv w 8 8 (by decide), uS_bv w 24 24 (by decide)]
  show ((w.toBitVec <<< 24 ||| (w.toBitVec &&& 65280#32) <<< 8) ||| (w.toBitVec >>> 8 &&& 65280#32)) ||| w.toBitVec >>> 24 = _
  have b : ∀ s, Bt (byI w s) = w.toBitVec.extractLsb' s 8 := fun s => by
    apply BitVec.eq_of_toNat_eq
    rw [Bt_n (byI_lt _ _), BitVec.extractLsb'_toNat, Nat.shiftRight_eq_div_pow]
    rfl
  rw [b, b, b, b]
  apply BitVec.eq_of_getLsbD_eq
  intro i hi
  have m : (65280#32).getLsbD i = (decide (8 ≤ i) && decide (i < 16)) := (by decide +kernel : ∀ i, i < 32 → (65280#32).getLsbD i = (decide (8 ≤ i) && decide (i < 16))) i hi
  have m2 : (65280#32).getLsbD (i - 8) = (decide (8 ≤ i - 8) && decide (i - 8 < 16)) := (by decide +kernel : ∀ i, i < 32 → (65280#32).getLsbD i = (decide (8 ≤ i) && decide (i < 16))) (i - 8) (by omega)
  rw [aP_bit]
  simp only [BitVec.getLsbD_or, BitVec.getLsbD_and, BitVec.getLsbD_shiftLeft, BitVec.getLsbD_ushiftRight, BitVec.getLsbD_extractLsb', m, m2]
  by_cases c0 : i < 8
  · have h1 : ¬ 8 ≤ i := by omega
    have h2 : i < 24 := by omega
    simp [c0, h1, h2, hi]
  · by_cases c1 : i < 16
    · have h1 : 8 ≤ i := by omega
      have h2 : i < 24 := by omega
      have h3 : ¬ 8 ≤ i - 8 := by omega
      have h4 : i - 8 < 8 := by omega
      have h5 : 24 + i ≥ 32 := by omega
      have h6 : w.toBitVec.getLsbD (24 + i) = false := BitVec.getLsbD_of_ge _ _ h5
      simp [c0, c1, h1, h2, h3, h4, hi, h6]
      congr 1
      omega
    · by_cases c2 : i < 24
      · have h3 : 8 ≤ i - 8 := by omega
        have h4 : i - 8 < 16 := by omega
        have h5 : i - 16 < 8 := by omega
        have h6 : w.toBitVec.getLsbD (24 + i) = false := BitVec.getLsbD_of_ge _ _ (by omega)
        simp [c0, c1, c2, h3, h4, h5, hi, h6]
        congr 1
        omega
      · have h4 : ¬ i - 8 < 16 := by omega
        have h5 : i - 24 < 8 := by omega
        have h6 : w.toBitVec.getLsbD (24 + i) = false := BitVec.getLsbD_of_ge _ _ (by omega)
        simp [c0, c1, c2, h4, h5, hi, h6]
theorem byI_Wd (a b c d : BitVec 8) : byI (Wd a b c d) 24 = a.toNat ∧ byI (Wd a b c d) 16 = b.toNat ∧ byI (Wd a b c d) 8 = c.toNat ∧ byI (Wd a b c d) 0 = d.toNat := by
  have h := Wd_n a b c d
  have ha := a.isLt
  have hb := b.isLt
  have hc := c.isLt
  have hd := d.isLt
  unfold byI
  rw [h]
  refine ⟨?_, ?_, ?_, ?_⟩ <;> omega
theorem mlit_W {g : Nat → Nat} (hg : By g) (k : Nat) : mlit g k = Wd (Bt (g (k + 3))) (Bt (g (k + 2))) (Bt (g (k + 1))) (Bt (g k)) := by
  rw [← four_bytes (nI_Wd (hg (k + 3))) (nI_Wd (hg (k + 2))) (nI_Wd (hg (k + 1))) (nI_Wd (hg k))]
  unfold mlit
  generalize nI (g k) = a
  generalize nI (g (k + 1)) <<< ((8 : Int32) &&& 31) = b
  generalize nI (g (k + 2)) <<< ((16 : Int32) &&& 31) = c
  generalize nI (g (k + 3)) <<< ((24 : Int32) &&& 31) = d
  apply Int32.toBitVec_inj.1
  show ((a.toBitVec ||| b.toBitVec) ||| c.toBitVec) ||| d.toBitVec = ((d.toBitVec ||| c.toBitVec) ||| b.toBitVec) ||| a.toBitVec
  ac_rfl
theorem swp_bw {g : Nat → Nat} (hg : By g) (k : Nat) : swpI (bw g k) = mlit g k := by
  have h := byI_Wd (Bt (g k)) (Bt (g (k + 1))) (Bt (g (k + 2))) (Bt (g (k + 3)))
  rw [swpI_n, mlit_W hg]
  unfold bw
  rw [h.1, h.2.1, h.2.2.1, h.2.2.2, bt_n hg, bt_n hg, bt_n hg, bt_n hg]
theorem byI_swp (w : Int32) (r : Nat) (hr : r < 4) : byI (swpI w) (24 - 8 * r) = byI w (8 * r) := by
  have h := byI_Wd (Bt (byI w 0)) (Bt (byI w 8)) (Bt (byI w 16)) (Bt (byI w 24))
  rw [swpI_n]
  have c : r = 0 ∨ r = 1 ∨ r = 2 ∨ r = 3 := by omega
  rcases c with rfl | rfl | rfl | rfl
  · exact h.1.trans (Bt_n (byI_lt _ _))
  · exact h.2.1.trans (Bt_n (byI_lt _ _))
  · exact h.2.2.1.trans (Bt_n (byI_lt _ _))
  · exact h.2.2.2.trans (Bt_n (byI_lt _ _))
theorem swp_swp (w : Int32) : swpI (swpI w) = w := by
  rw [swpI_n (swpI w)]
  have e0 := byI_swp w 0 (by omega)
  have e1 := byI_swp w 1 (by omega)
  have e2 := byI_swp w 2 (by omega)
  have e3 := byI_swp w 3 (by omega)
  simp only [Nat.mul_zero, Nat.mul_one, Nat.sub_zero, Nat.reduceMul, Nat.reduceSub] at e0 e1 e2 e3
  rw [e0, e1, e2, e3]
  exact byI_W w
theorem iter_upd (F : Nat → Int32) (b : Nat) (g : Nat → Int32) (j : Nat) : ∀ n, iter (fun i g => upd g (b + i) (F i)) n g j = if b ≤ j ∧ j < b + n then F (j - b) else g j
  | 0 => (if_neg (by omega)).symm
  | n + 1 => by
    show upd (iter (fun i g => upd g (b + i) (F i)) n g) (b + n) (F n) j = _
    by_cases h : j = b + n
    · subst h
      rw [pk_us, if_pos (by omega), Nat.add_sub_cancel_left]
    · rw [pk_un h, iter_upd F b g j n]
      by_cases q : b ≤ j ∧ j < b + n
      · rw [if_pos q, if_pos (by omega)]
      · rw [if_neg q, if_neg (by omega)]
theorem iter_upd0 (F : Nat → Int32) (g : Nat → Int32) (j n : Nat) : iter (fun i g => upd g i (F i)) n g j = if j < n then F j else g j := by
  have h := iter_upd F 0 g j n
  simp only [Nat.zero_add, Nat.zero_le, true_and, Nat.sub_zero] at h
  exact h
def Ag (f g : Nat → Int32) : Prop := ∀ k, k < 16 → f k = g k
/-- the words of a block's start -/
def cS4 (k : Nat) : Int32 := if k = 0 then 1634760805 else if k = 1 then 857760878 else if k = 2 then 2036477234 else 1797285236
def cwX (gk no : Nat → Nat) (n : Int32) (k : Nat) : Int32 := if k < 4 then cS4 k else if k < 12 then mlit gk (4 * (k - 4)) else if k = 12 then n else mlit no (4 * (k - 13))
theorem cWord_at (gk no : Nat → Nat) (n : Int32) (w : Nat → Int32) : Ag (cWord gk no n w) (cwX gk no n) := fun k hk => by
  have h1 : ∀ (v : Nat → Int32) (m j : Nat), iter (cW1 gk) m v j = if 4 ≤ j ∧ j < 4 + m then mlit gk (4 * (j - 4)) else v j := fun v m j => iter_upd (fun i => mlit gk (4 * i)) 4 v j m
  have h2 : ∀ (v : Nat → Int32) (m j : Nat), iter (cW2 no) m v j = if 13 ≤ j ∧ j < 13 + m then mlit no (4 * (j - 13)) else v j := fun v m j => iter_upd (fun i => mlit no (4 * i)) 13 v j m
  unfold cWord
  rw [h2]
  by_cases c3 : 13 ≤ k
  · rw [if_pos (by omega)]
    unfold cwX
    rw [if_neg (by omega), if_neg (by omega), if_neg (by omega)]
  · rw [if_neg (by omega)]
    by_cases c2 : k = 12
    · subst c2
      rw [pk_us]
      rfl
    · rw [pk_un c2, h1]
      by_cases c1 : 4 ≤ k
      · rw [if_pos (by omega)]
        unfold cwX
        rw [if_neg (by omega), if_pos (by omega)]
      · rw [if_neg (by omega)]
        have c : k = 0 ∨ k = 1 ∨ k = 2 ∨ k = 3 := by omega
        rcases c with rfl | rfl | rfl | rfl <;> rfl
/-- the class's start words and the key -/
def SR (sr : Nat → Int32) (gk : Nat → Nat) : Prop := ∀ k, k < 12 → sr k = cwX gk gk 0 k
theorem cinit_at {sr : Nat → Int32} {gk no : Nat → Nat} (h : SR sr gk) (hn : By no) (n : Int32) {N : Nat → Int32} (hN : N 0 = bw no 0 ∧ N 1 = bw no 4 ∧ N 2 = bw no 8) : Ag (cinit sr N n) (cwX gk no n) := fun k hk => by
  unfold cinit
  rw [hN.1, hN.2.1, hN.2.2, swp_bw hn, swp_bw hn, swp_bw hn]
  by_cases c15 : k = 15
  · subst c15; rw [pk_us]; rfl
  · rw [pk_un c15]
    by_cases c14 : k = 14
    · subst c14; rw [pk_us]; rfl
    · rw [pk_un c14]
      by_cases c13 : k = 13
      · subst c13; rw [pk_us]; rfl
      · rw [pk_un c13]
        by_cases c12 : k = 12
        · subst c12; rw [pk_us]; rfl
        · rw [pk_un c12, h k (by omega)]
          unfold cwX
          by_cases c : k < 4
          · rw [if_pos c, if_pos c]
          · rw [if_neg c, if_neg c, if_pos (by omega), if_pos (by omega)]
theorem cinit_SR {sr : Nat → Int32} {gk : Nat → Nat} (h : SR sr gk) (n : Int32) (N : Nat → Int32) : SR (cinit sr N n) gk := fun k hk => by
  unfold cinit
  rw [pk_un (by omega), pk_un (by omega), pk_un (by omega), pk_un (by omega), h k hk]
theorem Ag.u {f g : Nat → Int32} (h : Ag f g) (a : Nat) {x y : Int32} (e : x = y) : Ag (upd f a x) (upd g a y) := fun k hk => by
  by_cases c : k = a
  · subst c
    rw [pk_us, pk_us, e]
  · rw [pk_un c, pk_un c, h k hk]
theorem Ag.q1 {f g : Nat → Int32} (h : Ag f g) {a b : Nat} (ha : a < 16) (hb : b < 16) : Ag (cq1 f a b) (cq1 g a b) := h.u a (by rw [h a ha, h b hb])
theorem Ag.q2 {f g : Nat → Int32} (h : Ag f g) {d a : Nat} (hd : d < 16) (ha : a < 16) (k : Int32) : Ag (cq2 f d a k) (cq2 g d a k) := h.u d (by rw [h a ha, h d hd])
theorem Ag.qr {f g : Nat → Int32} (h : Ag f g) {a b c d : Nat} (ha : a < 16) (hb : b < 16) (hc : c < 16) (hd : d < 16) : Ag (cqr f a b c d) (cqr g a b c d) :=
  (((((((h.q1 ha hb).q2 hd ha 16).q1 hc hd).q2 hb hc 12).q1 ha hb).q2 hd ha 8).q1 hc hd).q2 hb hc 7
theorem Ag.rnd {f g : Nat → Int32} (h : Ag f g) : Ag (crnd f) (crnd g) := by
  unfold crnd
  exact (((((((h.qr (by decide) (by decide) (by decide) (by decide)).qr (by decide) (by decide) (by decide) (by decide)).qr (by decide) (by decide) (by decide) (by decide)).qr (by decide) (by decide) (by decide) (by decide)).qr (by decide) (by decide) (by decide) (by decide)).qr (by decide) (by decide) (by decide) (by decide)).qr (by decide) (by decide) (by decide) (by decide)).qr (by decide) (by decide) (by decide) (by decide)
theorem Ag.rnds {f g : Nat → Int32} (h : Ag f g) : ∀ n, Ag (iter (fun _ g => crnd g) n f) (iter (fun _ g => crnd g) n g)
  | 0 => h
  | n + 1 => (h.rnds n).rnd
theorem cturn_at {w w' : Nat → Int32} (h : Ag w w') (f : Nat → Int32) : Ag (cturn w f) (iter (fun _ g => crnd g) 10 w') := by
  unfold cturn
  refine Ag.rnds (fun k hk => ?_) 10
  rw [pk_cpy_in (by omega) (by omega), ← h k hk]
  exact congrArg w (by omega)
theorem cTurn_at {w w' : Nat → Int32} (h : Ag w w') (f : Nat → Int32) : Ag (cTurn w f) (iter (fun _ g => crnd g) 10 w') := by
  unfold cTurn
  refine Ag.rnds (fun k hk => ?_) 10
  have e : iter (cCpy w) 16 f k = if k < 16 then w k else f k := iter_upd0 w f k 16
  rw [e, if_pos hk, h k hk]
/-- the words of a block -/
def blkX (gk no : Nat → Nat) (n : Int32) (k : Nat) : Int32 := iter (fun _ g => crnd g) 10 (cwX gk no n) k + cwX gk no n k
theorem cblk_eq {sr sa bl : Nat → Int32} {gk no : Nat → Nat} (h : SR sr gk) (hn : By no) (n : Int32) {N : Nat → Int32} (hN : N 0 = bw no 0 ∧ N 1 = bw no 4 ∧ N 2 = bw no 8) :
    SR (cblk N n (sr, sa, bl)).1 gk ∧ ∀ k, k < 16 → (cblk N n (sr, sa, bl)).2.2 k = swpI (blkX gk no n k) := by
  have a := cinit_at h hn n hN
  refine ⟨cinit_SR h n N, fun k hk => ?_⟩
  show iter (cout (cinit sr N n) (cturn (cinit sr N n) sa)) 16 bl k = _
  have e : iter (cout (cinit sr N n) (cturn (cinit sr N n) sa)) 16 bl k = if k < 16 then swpI (cturn (cinit sr N n) sa k + cinit sr N n k) else bl k := iter_upd0 (fun k => swpI (cturn (cinit sr N n) sa k + cinit sr N n k)) bl k 16
  rw [e, if_pos hk, cturn_at a sa k hk, a k hk]
  rfl
def sbX (gk no : Nat → Nat) (n : Int32) (i : Nat) : Nat := byI (blkX gk no n (i / 4)) (8 * (i % 4))
theorem ccN_eq (gk no : Nat → Nat) (n : Int32) (w t : Nat → Int32) (u : Nat → Nat) {i : Nat} (hi : i < 64) : ccN gk no n w t u i = sbX gk no n i := by
  unfold ccN cStrx
  have a := cWord_at gk no n w
  have e : iter (cStr (cWord gk no n w) (cTurn (cWord gk no n w) t)) 64 u i = if i < 64 then byI (cTurn (cWord gk no n w) t (i / 4) + cWord gk no n w (i / 4)) (8 * (i % 4)) else u i := iter_updN0 (fun i => byI (cTurn (cWord gk no n w) t (i / 4) + cWord gk no n w (i / 4)) (8 * (i % 4))) u i 64
  rw [e, if_pos hi, cTurn_at a t _ (by omega), a _ (by omega)]
  rfl
/-! the text -/
def ksC (gk no : Nat → Nat) (j : Nat) : Nat := sbX gk no (nI (1 + j / 64)) (j % 64)
theorem cvCI_at {gk no tp : Nat → Nat} (w t : Nat → Int32) (u gx : Nat → Nat) (z j : Nat) :
    ∀ i, (cvCI gk no tp z i (w, t, u, gx)).2.2.2 j = if j < 64 * i ∧ j < z then tp j ^^^ ksC gk no j else gx j
  | 0 => (if_neg (by omega)).symm
  | i + 1 => by
    have ih := cvCI_at (gk := gk) (no := no) (tp := tp) w t u gx z j i
    unfold cvCI at ih
    unfold cvCI
    rw [iter_s]
    generalize iter (cvC gk no tp z) i (w, t, u, gx) = q at ih
    show iter (xS tp (ccN gk no (nI (1 + 64 * i / 64)) q.1 q.2.1 q.2.2.1) (64 * i)) (min 64 (z - 64 * i)) q.2.2.2 j = _
    rw [xS_at, ih]
    by_cases c : 64 * i ≤ j ∧ j < 64 * i + min 64 (z - 64 * i)
    · rw [if_pos c, if_pos (by omega), ccN_eq _ _ _ _ _ _ (by omega)]
      unfold ksC
      rw [show 64 * i / 64 = j / 64 by omega, show j - 64 * i = j % 64 by omega]
    · rw [if_neg c]
      by_cases d : j < 64 * i ∧ j < z
      · rw [if_pos d, if_pos (by omega)]
      · rw [if_neg d, if_neg (by omega)]
def ctP (gk no : Nat → Nat) (tu : Int32) (g : Nat → Nat) (nf : Nat → Int32) (i : Nat) (q : Int32 × Int32 × S3 × (Nat → Int32)) : Prop :=
  q.1 = nI ((i + 63) / 64) ∧ q.2.1 = tu + nI ((i + 63) / 64) ∧ SR q.2.2.1.1 gk ∧ (¬ i % 64 = 0 → ∀ k, k < 16 → q.2.2.1.2.2 k = swpI (blkX gk no (nI ((i + 63) / 64)) k)) ∧ ∀ j, q.2.2.2 j &&& 255 = if j < i then nI (g j ^^^ ksC gk no j) else nf j &&& 255
theorem ctt_row {gk no : Nat → Nat} {f nf q : Nat → Int32} {len len2 i : Nat} {g : Nat → Nat} (hg : By g) (hf : f i &&& 255 = nI (g i)) (h1 : i < len) (h2 : i < len2) (hl : len < 2 ^ 31) (hl2 : len2 < 2 ^ 31)
    {Q : Nat → Int32} (hQ : ∀ k, k < 16 → Q k = swpI (blkX gk no (nI (1 + i / 64)) k)) (hq : ∀ j, q j &&& 255 = if j < i then nI (g j ^^^ ksC gk no j) else nf j &&& 255) (j : Nat) :
    rset q len2 (nI i) (rget f len (nI i) ^^^ uS (Q (i % 64 / 4)) (nI (24 - 8 * (i % 64 % 4)))) j &&& 255 = if j < i + 1 then nI (g j ^^^ ksC gk no j) else nf j &&& 255 := by
  rw [rset_and _ _ h2 hl2]
  by_cases e : j = i
  · subst e
    rw [if_pos rfl, if_pos (by omega), rget_in h1 hl, hf, rx_and (hg _) _ (by omega), hQ _ (by omega), byI_swp _ _ (by omega)]
    rfl
  · rw [if_neg e, hq]
    by_cases c : j < i
    · rw [if_pos c, if_pos (by omega)]
    · rw [if_neg c, if_neg (by omega)]
theorem ctt_inv {gk no : Nat → Nat} (hn : By no) {N : Nat → Int32} (hN : N 0 = bw no 0 ∧ N 1 = bw no 4 ∧ N 2 = bw no 8) {tu : Int32} {sr sa bl : Nat → Int32} (hs : SR sr gk) {f nf : Nat → Int32} {len len2 z : Nat} {g : Nat → Nat} (hg : By g) (hf : RB f z g) (h1 : z ≤ len) (h2 : z ≤ len2) (hl : len < 2 ^ 31) (hl2 : len2 < 2 ^ 31) :
    ∀ i, i ≤ z → ctP gk no tu g nf i (iter (ctt N f len len2) i (0, tu, (sr, sa, bl), nf))
  | 0, _ => ⟨rfl, (Int32.add_zero tu).symm, hs, fun h => absurd rfl h, fun j => (if_neg (by omega)).symm⟩
  | i + 1, h => by
    obtain ⟨a1, a2, a3, a4, a5⟩ := ctt_inv hn hN hs hg hf h1 h2 hl hl2 i (by omega) (bl := bl) (sa := sa) (tu := tu) (nf := nf)
    rw [iter_s]
    generalize iter (ctt N f len len2) i (0, tu, (sr, sa, bl), nf) = q at a1 a2 a3 a4 a5
    unfold ctt
    by_cases c : i % 64 = 0
    · rw [if_pos c]
      have e : q.1 + 1 = nI ((i + 1 + 63) / 64) := by rw [a1, ← nI_succ]; exact congrArg nI (by omega)
      have e2 : q.1 + 1 = nI (1 + i / 64) := by rw [a1, ← nI_succ]; exact congrArg nI (by omega)
      have k := cblk_eq (sa := q.2.2.1.2.1) (bl := q.2.2.1.2.2) a3 hn (q.1 + 1) hN
      refine ⟨e, ?_, k.1, fun _ => ?_, fun j => ?_⟩
      · show q.2.1 + 1 = _
        rw [a2, Int32.add_assoc, ← nI_succ]
        exact congrArg (fun n => tu + nI n) (by omega)
      · rw [← e]
        exact k.2
      · exact ctt_row hg (hf i (by omega)) (by omega) (by omega) hl hl2 (by rw [← e2]; exact k.2) a5 j
    · rw [if_neg c]
      refine ⟨?_, ?_, a3, fun _ => ?_, fun j => ?_⟩
      · show q.1 = _
        rw [a1]
        exact congrArg nI (by omega)
      · show q.2.1 = _
        rw [a2]
        exact congrArg (fun n => tu + nI n) (by omega)
      · rw [show (i + 1 + 63) / 64 = (i + 63) / 64 by omega]
        exact a4 c
      · refine ctt_row hg (hf i (by omega)) (by omega) (by omega) hl hl2 ?_ a5 j
        rw [show 1 + i / 64 = (i + 63) / 64 by omega]
        exact a4 c
/-- the text of both -/
theorem textC {gk no tp : Nat → Nat} (hn : By no) (ht : By tp) (w t : Nat → Int32) (u gx : Nat → Nat) {N : Nat → Int32} (hN : N 0 = bw no 0 ∧ N 1 = bw no 4 ∧ N 2 = bw no 8) {sr sa bl : Nat → Int32} (hs : SR sr gk) {f nf : Nat → Int32} {len len2 z : Nat} {tu : Int32} (hf : RB f z tp) (hz1 : z ≤ len) (hz2 : z ≤ len2) (hl : len < 2 ^ 31) (hl2 : len2 < 2 ^ 31) :
    RB (iter (ctt N f len len2) z (0, tu, (sr, sa, bl), nf)).2.2.2 z (cvCI gk no tp z ((z + 63) / 64) (w, t, u, gx)).2.2.2 ∧
    (iter (ctt N f len len2) z (0, tu, (sr, sa, bl), nf)).2.1 = tu + nI ((z + 63) / 64) ∧ SR (iter (ctt N f len len2) z (0, tu, (sr, sa, bl), nf)).2.2.1.1 gk := by
  have q := ctt_inv (tu := tu) (nf := nf) (sa := sa) (bl := bl) hn hN hs ht hf hz1 hz2 hl hl2 z (Nat.le_refl z)
  refine ⟨fun j hj => ?_, q.2.1, q.2.2.1⟩
  rw [q.2.2.2.2 j, if_pos hj, cvCI_at, if_pos (by omega)]
/-- the key's words -/
theorem ckey_SR {sr f : Nat → Int32} {g gk gk0 : Nat → Nat} (hg : By g) (hgk : By gk) (hr : RB f 32 g) (hs : SR sr gk0) (kc : ∀ j, j < 32 → gk j = g j) : SR (iter (ckey f 32) 8 sr) gk := fun k hk => by
  have e : iter (ckey f 32) 8 sr k = if 4 ≤ k ∧ k < 4 + 8 then swpI (rword f 32 (4 * (k - 4)) 32) else sr k := iter_upd (fun i => swpI (rword f 32 (4 * i) 32)) 4 sr k 8
  rw [e]
  by_cases c : 4 ≤ k
  · rw [if_pos (by omega), rword_eq hr hg (Nat.le_refl _) (by omega), swp_bw (xg_B hg 32)]
    unfold cwX
    rw [if_neg (by omega), if_pos (by omega), mlit_W (xg_B hg 32), mlit_W hgk, xg_in (by omega), xg_in (by omega), xg_in (by omega), xg_in (by omega), kc _ (by omega), kc _ (by omega), kc _ (by omega), kc _ (by omega)]
  · rw [if_neg (by omega), hs k hk]
    unfold cwX
    rw [if_pos (by omega), if_pos (by omega)]

/-! Poly1305: the reference's digits -/
theorem dv_add (a c : Nat → Nat) : ∀ n, dv (fun i => a i + c i) n = dv a n + dv c n
  | 0 => rfl
  | n + 1 => by
    show dv (fun i => a i + c i) n + (a n + c n) * 256 ^ n = dv a n + a n * 256 ^ n + (dv c n + c n * 256 ^ n)
    rw [dv_add a c n, Nat.add_mul]
    omega
theorem dv_mul (k : Nat) (a : Nat → Nat) : ∀ n, dv (fun i => k * a i) n = k * dv a n
  | 0 => rfl
  | n + 1 => by
    show dv (fun i => k * a i) n + k * a n * 256 ^ n = k * (dv a n + a n * 256 ^ n)
    rw [dv_mul k a n, Nat.mul_add, Nat.mul_assoc]
theorem dv_split (p : Nat → Nat) (i : Nat) : ∀ n, dv p (i + n) = dv p i + 256 ^ i * dv (fun k => p (i + k)) n
  | 0 => by
    show dv p i = dv p i + 256 ^ i * 0
    omega
  | n + 1 => by
    show dv p (i + n) + p (i + n) * 256 ^ (i + n) = dv p i + 256 ^ i * (dv (fun k => p (i + k)) n + p (i + n) * 256 ^ n)
    rw [dv_split p i n, Nat.pow_add, Nat.mul_add, Nat.add_assoc, Nat.mul_left_comm]
theorem dv_zero {f : Nat → Nat} (n : Nat) (h : ∀ i, i < n → f i = 0) : dv f n = 0 := by
  rw [dv_congr (g := fun _ => 0) n h]
  clear h
  induction n with
  | zero => rfl
  | succ n ih =>
    show dv (fun _ => 0) n + 0 * 256 ^ n = 0
    omega
theorem dv_inj {f g : Nat → Nat} : ∀ n, (∀ i, i < n → f i < 256) → (∀ i, i < n → g i < 256) → dv f n = dv g n → ∀ i, i < n → f i = g i
  | 0, _, _, _, i, h => absurd h (by omega)
  | n + 1, hf, hg, h, i, hi => by
    have lf := dv_lt n (fun i hi => hf i (by omega))
    have lg := dv_lt n (fun i hi => hg i (by omega))
    have h' : dv f n + f n * 256 ^ n = dv g n + g n * 256 ^ n := h
    have e : f n = g n := by
      have a : (dv f n + f n * 256 ^ n) / 256 ^ n = f n := by rw [Nat.add_mul_div_right _ _ (Nat.pow_pos (by omega)), Nat.div_eq_of_lt lf, Nat.zero_add]
      have b : (dv g n + g n * 256 ^ n) / 256 ^ n = g n := by rw [Nat.add_mul_div_right _ _ (Nat.pow_pos (by omega)), Nat.div_eq_of_lt lg, Nat.zero_add]
      rw [← a, ← b, h']
    by_cases c : i = n
    · rw [c]; exact e
    · rw [e] at h'
      exact dv_inj n (fun i hi => hf i (by omega)) (fun i hi => hg i (by omega)) (by omega) i (by omega)
/-- carrying, a digit a turn -/
def carryS (a : Nat → Nat) (b i : Nat) (q : C2) : C2 := ((q.1 + a i) / 256, updN q.2 (b + i) ((q.1 + a i) % 256))
theorem carry_it (a : Nat → Nat) (b : Nat) (p : Nat → Nat) : ∀ n, (iter (carryS a b) n (0, p)).1 = cyc a n ∧ ∀ j, (iter (carryS a b) n (0, p)).2 j = if b ≤ j ∧ j < b + n then (cyc a (j - b) + a (j - b)) % 256 else p j
  | 0 => ⟨rfl, fun j => (if_neg (by omega)).symm⟩
  | n + 1 => by
    obtain ⟨h1, h2⟩ := carry_it a b p n
    rw [iter_s]
    refine ⟨?_, fun j => ?_⟩
    · show ((iter (carryS a b) n (0, p)).1 + a n) / 256 = (cyc a n + a n) / 256
      rw [h1]
    · show updN (iter (carryS a b) n (0, p)).2 (b + n) (((iter (carryS a b) n (0, p)).1 + a n) % 256) j = _
      by_cases e : j = b + n
      · subst e
        rw [updN_s, if_pos (by omega), h1, Nat.add_sub_cancel_left]
      · rw [updN_n e, h2]
        by_cases c : b ≤ j ∧ j < b + n
        · rw [if_pos c, if_pos (by omega)]
        · rw [if_neg c, if_neg (by omega)]
theorem carry_dv (a : Nat → Nat) (p : Nat → Nat) (n : Nat) : dv (iter (carryS a 0) n (0, p)).2 n + (iter (carryS a 0) n (0, p)).1 * 256 ^ n = dv a n := by
  have h := carry_it a 0 p n
  rw [h.1, ← dv_carry a n, dv_congr n (fun i hi => by rw [h.2 i, if_pos (by omega), Nat.sub_zero])]
theorem aT_it (c t : Nat → Nat) : ∀ n, iter (aT c) n (0, t) = iter (carryS (fun i => t i + c i) 0) n (0, t)
  | 0 => rfl
  | n + 1 => by
    rw [iter_s, iter_s, aT_it c t n]
    have h := (carry_it (fun i => t i + c i) 0 t n).2 n
    rw [if_neg (by omega)] at h
    show ((_ + ((iter (carryS (fun i => t i + c i) 0) n (0, t)).2 n + c n)) / 256, updN _ n ((_ + ((iter (carryS (fun i => t i + c i) 0) n (0, t)).2 n + c n)) % 256)) = ((_ + (t n + c n)) / 256, updN _ (0 + n) ((_ + (t n + c n)) % 256))
    rw [h, Nat.zero_add]
theorem no_carry {x c s B : Nat} (h : x + c * B = s) (hs : s < B) : c = 0 ∧ x = s := by
  have z : c = 0 := by
    apply Nat.eq_zero_of_not_pos
    intro w
    have q : B ≤ c * B := Nat.le_mul_of_pos_left B w
    omega
  subst z
  exact ⟨rfl, by omega⟩
theorem pT1_val {a c : Nat → Nat} (h : dv a 17 + dv c 17 < 256 ^ 17) : dv (pT1 a c) 17 = dv a 17 + dv c 17 := by
  have e := carry_dv (fun i => a i + c i) a 17
  rw [dv_add] at e
  have q := (no_carry e h).2
  rw [← aT_it] at q
  exact q
theorem pI_it (t f p : Nat → Nat) (i : Nat) : ∀ n, pI t f p i n = iter (carryS (fun k => p (i + k) + t i * f k) i) n (0, p)
  | 0 => rfl
  | n + 1 => by
    have ih := pI_it t f p i n
    unfold pI at ih
    unfold pI
    rw [iter_s, iter_s, ih]
    have h := (carry_it (fun k => p (i + k) + t i * f k) i p n).2 (i + n)
    rw [if_neg (by omega)] at h
    show ((_ + ((iter (carryS (fun k => p (i + k) + t i * f k) i) n (0, p)).2 (i + n) + t i * f n)) / 256, updN _ (i + n) ((_ + ((iter (carryS (fun k => p (i + k) + t i * f k) i) n (0, p)).2 (i + n) + t i * f n)) % 256)) = ((_ + (p (i + n) + t i * f n)) / 256, updN _ (i + n) ((_ + (p (i + n) + t i * f n)) % 256))
    rw [h]
theorem pPass_val {t f p : Nat → Nat} (ht : By t) (hf : By f) {i : Nat} (hi : i < 17) (hp : pZ i p) : dv (pPass t f i p) 40 = dv p 40 + 256 ^ i * (t i * dv f 17) := by
  have b := pI_B ht hf hp.1 i 17
  have it := carry_it (fun k => p (i + k) + t i * f k) i p 17
  rw [← pI_it] at it
  have z : (pI t f p i 17).2 (i + 17) = 0 := by rw [pI_hi i 17 (by omega)]; exact hp.2 _ (by omega) (by omega)
  have e : ∀ j, pPass t f i p j = if j = i + 17 then (pI t f p i 17).1 else (pI t f p i 17).2 j := fun j => by
    unfold pPass
    by_cases c : (pI t f p i 17).1 ≤ 0
    · rw [if_pos c]
      by_cases d : j = i + 17
      · rw [if_pos d, d, z]; omega
      · rw [if_neg d]
    · rw [if_neg c]
      by_cases d : j = i + 17
      · subst d
        rw [if_pos rfl, updN_s, z]
        have := b.1
        omega
      · rw [if_neg d, updN_n d]
  have s1 : dv (pPass t f i p) 40 = dv (pPass t f i p) i + 256 ^ i * dv (fun k => pPass t f i p (i + k)) (40 - i) := by
    have := dv_split (pPass t f i p) i (40 - i)
    rwa [show i + (40 - i) = 40 by omega] at this
  have s2 : dv p 40 = dv p i + 256 ^ i * dv (fun k => p (i + k)) (40 - i) := by
    have := dv_split p i (40 - i)
    rwa [show i + (40 - i) = 40 by omega] at this
  have l1 : dv (pPass t f i p) i = dv p i := dv_congr i (fun j hj => by rw [e j, if_neg (by omega), it.2 j, if_neg (by omega)])
  have t1 := dv_split (fun k => pPass t f i p (i + k)) 18 (40 - i - 18)
  have t2 := dv_split (fun k => p (i + k)) 18 (40 - i - 18)
  rw [show 18 + (40 - i - 18) = 40 - i by omega] at t1 t2
  have l2 : dv (fun k => pPass t f i p (i + (18 + k))) (40 - i - 18) = dv (fun k => p (i + (18 + k))) (40 - i - 18) := dv_congr _ (fun j hj => by rw [e, if_neg (by omega), it.2, if_neg (by omega)])
  have l3 : dv (fun k => pPass t f i p (i + k)) 18 = dv (fun k => p (i + k)) 18 + t i * dv f 17 := by
    show dv (fun k => pPass t f i p (i + k)) 17 + pPass t f i p (i + 17) * 256 ^ 17 = dv (fun k => p (i + k)) 17 + p (i + 17) * 256 ^ 17 + t i * dv f 17
    rw [e (i + 17), if_pos rfl, it.1, hp.2 (i + 17) (by omega) (by omega)]
    have c := dv_carry (fun k => p (i + k) + t i * f k) 17
    rw [dv_add (fun k => p (i + k)) (fun k => t i * f k), dv_mul] at c
    rw [dv_congr (g := fun k => (cyc (fun k => p (i + k) + t i * f k) k + (p (i + k) + t i * f k)) % 256) 17 (fun j hj => by rw [e, if_neg (by omega), it.2, if_pos (by omega), Nat.add_sub_cancel_left]), Nat.zero_mul, Nat.add_zero]
    exact c
  rw [s1, s2, l1, t1, t2, l3, l2, Nat.add_right_comm, Nat.mul_add, Nat.add_assoc]
theorem pPs_val {t f d : Nat → Nat} (ht : By t) (hf : By f) (hd : By d) : ∀ i, i ≤ 17 → dv (pPs t f d i) 40 = dv t i * dv f 17
  | 0, _ => by
    show dv (iter nZero 40 d) 40 = 0 * dv f 17
    rw [dv_zero 40 (fun j hj => nZero_z d 40 j hj), Nat.zero_mul]
  | i + 1, h => by
    have z := pPs_Z ht hf hd i
    show dv (pPass t f i (pPs t f d i)) 40 = (dv t i + t i * 256 ^ i) * dv f 17
    rw [pPass_val ht hf (by omega) z, pPs_val ht hf hd i (by omega), Nat.add_mul, Nat.mul_comm (256 ^ i), Nat.mul_right_comm]
/-- one reduction -/
def rF (V : Nat) : Nat := V % 1361129467683753853853498429727072845824 + 5 * (V / 1361129467683753853853498429727072845824)
theorem dv_shr2 (q : Nat → Nat) : ∀ n, 4 * dv (fun i => q i / 4 + q (i + 1) % 4 * 64) n + q 0 % 4 = dv q n + q n % 4 * 256 ^ n
  | 0 => by
    show 4 * 0 + q 0 % 4 = 0 + q 0 % 4 * 1
    omega
  | n + 1 => by
    have ih := dv_shr2 q n
    show 4 * (dv (fun i => q i / 4 + q (i + 1) % 4 * 64) n + (q n / 4 + q (n + 1) % 4 * 64) * 256 ^ n) + q 0 % 4 = dv q n + q n * 256 ^ n + q (n + 1) % 4 * 256 ^ (n + 1)
    have e : 4 * ((q n / 4 + q (n + 1) % 4 * 64) * 256 ^ n) + q n % 4 * 256 ^ n = q n * 256 ^ n + q (n + 1) % 4 * 256 ^ (n + 1) := by
      rw [Nat.pow_succ, ← Nat.mul_assoc, ← Nat.add_mul, Nat.mul_comm (256 ^ n) 256, ← Nat.mul_assoc, ← Nat.add_mul]
      exact congrArg (· * 256 ^ n) (by omega)
    rw [Nat.mul_add]
    omega
theorem dv_mod (p : Nat → Nat) (hp : ∀ i, p i < 256) (i n : Nat) : dv p (i + n) % 256 ^ i = dv p i ∧ dv p (i + n) / 256 ^ i = dv (fun k => p (i + k)) n := by
  have l := dv_lt (f := p) i (fun j _ => hp j)
  rw [dv_split]
  constructor
  · rw [Nat.add_mul_mod_self_left, Nat.mod_eq_of_lt l]
  · rw [Nat.add_mul_div_left _ _ (Nat.pow_pos (by omega)), Nat.div_eq_of_lt l, Nat.zero_add]
theorem rI_it (p t : Nat → Nat) : ∀ n, rI p t n = iter (carryS (fun i => (if i = 16 then p 16 % 4 else p i) + 5 * (p (16 + i) / 4 + p (17 + i) % 4 * 64)) 0) n (0, t)
  | 0 => rfl
  | n + 1 => by
    have ih := rI_it p t n
    unfold rI at ih
    unfold rI
    rw [iter_s, iter_s, ih]
    show (_, updN _ n _) = (_, updN _ (0 + n) _)
    rw [Nat.zero_add]
theorem rI_dv (p t : Nat → Nat) (n : Nat) : dv (rI p t n).2 n + (rI p t n).1 * 256 ^ n = dv (fun i => if i = 16 then p 16 % 4 else p i) n + 5 * dv (fun i => p (16 + i) / 4 + p (17 + i) % 4 * 64) n := by
  rw [rI_it, carry_dv, dv_add (fun i => if i = 16 then p 16 % 4 else p i) (fun i => 5 * (p (16 + i) / 4 + p (17 + i) % 4 * 64)), dv_mul]
theorem dv_lo16 (p : Nat → Nat) (n : Nat) (h : n = 16) : dv (fun i => if i = 16 then p 16 % 4 else p i) (n + 1) = dv p n + p 16 % 4 * 256 ^ n := by
  show dv (fun i => if i = 16 then p 16 % 4 else p i) n + (if n = 16 then p 16 % 4 else p n) * 256 ^ n = _
  rw [if_pos h, dv_congr (g := p) n (fun i hi => if_neg (by omega))]
theorem hi_zero {p : Nat → Nat} (hp : By p) (a n : Nat) (h : dv p (a + n) < 256 ^ a) : ∀ j, a ≤ j → j < a + n → p j = 0 := fun j h1 h2 => by
  have m := (dv_mod p hp a n).2
  rw [Nat.div_eq_of_lt h] at m
  have z := dv_inj (f := fun k => p (a + k)) (g := fun _ => 0) n (fun i _ => hp _) (fun i _ => by omega) (by rw [← m, dv_zero n (fun _ _ => rfl)]) (j - a) (by omega)
  have e : p (a + (j - a)) = 0 := z
  rwa [show a + (j - a) = j by omega] at e
theorem dv_top (q : Nat → Nat) (a n : Nat) (h : ∀ k, k < n → q (a + k) = 0) : dv q (a + n) = dv q a := by
  rw [dv_split, dv_zero n h, Nat.mul_zero, Nat.add_zero]
theorem rI_num {V U X L y A B : Nat} (d : 340282366920938463463374607431768211456 * U + L = V) (l16 : L < 340282366920938463463374607431768211456) (s2 : 4 * X + y % 4 = U + 0 % 4 * 87112285931760246646623899502532662132736) (c : A + B * 87112285931760246646623899502532662132736 = L + y % 4 * 340282366920938463463374607431768211456 + 5 * X) (hV : V < 115792089237316195423570985008687907853269984665640564039457584007913129639936) : A = rF V := by
  have r : L + y % 4 * 340282366920938463463374607431768211456 + 5 * X = rF V := by
    unfold rF
    omega
  rw [r] at c
  exact (no_carry c (by unfold rF; omega)).2
theorem rI_val {p t : Nat → Nat} (hp : By p) (hV : dv p 40 < 115792089237316195423570985008687907853269984665640564039457584007913129639936) : dv (rI p t 17).2 17 = rF (dv p 40) := by
  have n16 : (256 : Nat) ^ 16 = 340282366920938463463374607431768211456 := by decide
  have n17 : (256 : Nat) ^ 17 = 87112285931760246646623899502532662132736 := by decide
  have n32 : (256 : Nat) ^ 32 = 115792089237316195423570985008687907853269984665640564039457584007913129639936 := by decide
  have hi := hi_zero hp 32 8 (by rw [n32]; exact hV)
  have c := rI_dv p t 17
  rw [dv_lo16 p 16 rfl, n16, n17] at c
  have s := dv_shr2 (fun k => p (16 + k)) 17
  rw [dv_congr (f := fun i => p (16 + i) / 4 + p (16 + (i + 1)) % 4 * 64) (g := fun i => p (16 + i) / 4 + p (17 + i) % 4 * 64) 17 (fun i _ => by rw [show 16 + (i + 1) = 17 + i by omega]), n17] at s
  have s0 : p (16 + 17) = 0 := hi (16 + 17) (by omega) (by omega)
  have s1 : p (16 + 0) = p 16 := rfl
  rw [s0, s1] at s
  have m := dv_mod p hp 16 24
  have u : dv (fun k => p (16 + k)) (17 + 7) = dv (fun k => p (16 + k)) 17 := dv_top (fun k => p (16 + k)) 17 7 (fun k hk => hi _ (by omega) (by omega))
  have l16 := dv_lt (f := p) 16 (fun j _ => hp j)
  have d := Nat.div_add_mod (dv p (16 + 24)) (256 ^ 16)
  rw [m.1, m.2, show 24 = 17 + 7 from rfl, u, n16] at d
  rw [n16] at l16
  exact rI_num (V := dv p 40) d l16 s c hV
theorem rC_at (t p : Nat → Nat) (n j : Nat) : iter (rC t) n p j = if j < n then (if 17 ≤ j then 0 else t j) else p j := iter_updN0 (fun i => if 17 ≤ i then 0 else t i) p j n
theorem rC_dv (t p : Nat → Nat) (n : Nat) : dv (iter (rC t) (17 + n) p) (17 + n) = dv t 17 := by
  rw [dv_top _ 17 n (fun k hk => by rw [rC_at, if_pos (by omega), if_pos (by omega)])]
  exact dv_congr 17 (fun i hi => by rw [rC_at, if_pos (by omega), if_neg (by omega)])
theorem rC_val {t p : Nat → Nat} : dv (iter (rC t) 40 p) 40 = dv t 17 := rC_dv t p 23
theorem redI_val {t p : Nat → Nat} (ht : By t) (hp : By p) (hV : dv p 40 < 115792089237316195423570985008687907853269984665640564039457584007913129639936) : ∀ i, dv (redI t p i).2 40 = iter (fun _ v => rF v) i (dv p 40) ∧ dv (redI t p i).2 40 < 115792089237316195423570985008687907853269984665640564039457584007913129639936 ∧ (1 ≤ i → dv (redI t p i).1 17 = iter (fun _ v => rF v) i (dv p 40))
  | 0 => ⟨rfl, hV, fun h => absurd h (by omega)⟩
  | i + 1 => by
    obtain ⟨h1, h2, _⟩ := redI_val ht hp hV i
    have b := redI_B ht hp i
    have v := rI_val (t := (redI t p i).1) b.2 h2
    have e : (redI t p (i + 1)).1 = (rI (redI t p i).2 (redI t p i).1 17).2 := rfl
    have e2 : (redI t p (i + 1)).2 = iter (rC (rI (redI t p i).2 (redI t p i).1 17).2) 40 (redI t p i).2 := rfl
    rw [e, e2, rC_val, v, h1]
    rw [h1] at h2
    refine ⟨rfl, ?_, fun _ => rfl⟩
    generalize iter (fun _ v => rF v) i (dv p 40) = W at h2
    unfold rF
    omega
theorem rF_mod (V : Nat) : rF V % pP = V % pP := by
  have e : V = rF V + pP * (V / 1361129467683753853853498429727072845824) := by
    unfold rF pP
    omega
  conv => rhs; rw [e]
  rw [Nat.add_mul_mod_self_left]
theorem rF4 {V : Nat} (h : V < 115792089237316195423570985008687907853269984665640564039457584007913129639936) : rF (rF (rF (rF V))) < 1361129467683753853853498429727072845824 ∧ rF (rF (rF (rF V))) % pP = V % pP := by
  refine ⟨?_, ?_⟩
  · unfold rF
    omega
  · rw [rF_mod, rF_mod, rF_mod, rF_mod]
theorem abS_at (t : Nat → Nat) : ∀ n, iter (abS t) n 1 = if (∀ i, i < n → t (1 + i) = 255) then 1 else 0
  | 0 => by
    rw [if_pos (fun i h => absurd h (by omega))]
    rfl
  | n + 1 => by
    show (if t (1 + n) = 255 then iter (abS t) n 1 else 0) = _
    rw [abS_at t n]
    by_cases e : t (1 + n) = 255
    · rw [if_pos e]
      by_cases q : ∀ i, i < n → t (1 + i) = 255
      · rw [if_pos q, if_pos (fun i h => by
          by_cases w : i = n
          · rw [w]; exact e
          · exact q i (by omega))]
      · rw [if_neg q, if_neg (fun r => q (fun i h => r i (by omega)))]
    · rw [if_neg e, if_neg (fun r => e (r n (by omega)))]
theorem dv17 (t : Nat → Nat) : dv t 17 = t 0 + 256 * dv (fun k => t (1 + k)) 15 + t 16 * 340282366920938463463374607431768211456 := by
  have h := dv_split t 1 15
  have e1 : dv t 1 = t 0 := by
    show 0 + t 0 * 1 = t 0
    omega
  have e : dv t 17 = dv t 16 + t 16 * 256 ^ 16 := rfl
  rw [show 1 + 15 = 16 from rfl, e1, Nat.pow_one] at h
  rw [e, h, show (256 : Nat) ^ 16 = 340282366920938463463374607431768211456 by decide]
theorem dv_max : ∀ n, dv (fun _ => 255) n + 1 = 256 ^ n
  | 0 => rfl
  | n + 1 => by
    have := dv_max n
    show dv (fun _ => 255) n + 255 * 256 ^ n + 1 = 256 ^ (n + 1)
    rw [Nat.pow_succ]
    omega
theorem dv_notmax {t : Nat → Nat} (n : Nat) (ht : ∀ i, i < n → t i < 256) (h : ¬ ∀ i, i < n → t i = 255) : dv t n + 1 < 256 ^ n := by
  have l := dv_lt n ht
  have m := dv_max n
  apply Nat.lt_of_le_of_ne (by omega)
  intro e
  exact h (dv_inj n ht (fun _ _ => by omega) (by omega))
theorem pSub_val {t : Nat → Nat} : dv (pSub t) 17 = t 0 - 251 := by
  have e : ∀ j, j < 17 → pSub t j = if j = 0 then t 0 - 251 else 0 := fun j hj => by
    unfold pSub
    have h : iter nZ1 16 (updN t 0 (t 0 - 251)) j = if 1 ≤ j ∧ j < 1 + 16 then 0 else updN t 0 (t 0 - 251) j := iter_updN (fun _ => 0) 1 (updN t 0 (t 0 - 251)) j 16
    rw [h]
    by_cases c : j = 0
    · subst c
      rw [if_neg (by omega), if_pos rfl, updN_s]
    · rw [if_pos (by omega), if_neg c]
  have s := dv_split (pSub t) 1 16
  rw [show 1 + 16 = 17 from rfl, dv_zero (f := fun k => pSub t (1 + k)) 16 (fun i hi => by rw [e _ (by omega), if_neg (by omega)])] at s
  rw [s]
  show 0 + pSub t 0 * 1 + _ = _
  rw [e 0 (by omega), if_pos rfl]
  omega
theorem pFin_val {t : Nat → Nat} (ht : By t) (h : dv t 17 < 1361129467683753853853498429727072845824) : dv (pFin t) 17 = dv t 17 % pP := by
  have e := dv17 t
  have l : dv (fun k => t (1 + k)) 15 < 1329227995784915872903807060280344576 := Nat.lt_of_lt_of_le (dv_lt 15 (fun i _ => ht _)) (by decide)
  have t0 := ht 0
  unfold pFin
  by_cases c : t 16 = 3
  · rw [if_pos c]
    by_cases c0 : t 0 < 251
    · rw [if_pos c0, Nat.mod_eq_of_lt (by unfold pP; omega)]
    · rw [if_neg c0, abS_at]
      by_cases q : ∀ i, i < 15 → t (1 + i) = 255
      · rw [if_pos q, if_neg (by omega), pSub_val]
        have m := dv_max 15
        rw [show (256 : Nat) ^ 15 = 1329227995784915872903807060280344576 by decide] at m
        have eq : dv (fun k => t (1 + k)) 15 = dv (fun _ => 255) 15 := dv_congr 15 (fun i hi => q i hi)
        have : dv t 17 = pP + (t 0 - 251) := by unfold pP; omega
        rw [this, Nat.add_mod_left, Nat.mod_eq_of_lt (by unfold pP; omega)]
      · rw [if_neg q, if_pos rfl]
        have n := dv_notmax (t := fun k => t (1 + k)) 15 (fun i _ => ht _) q
        rw [show (256 : Nat) ^ 15 = 1329227995784915872903807060280344576 by decide] at n
        rw [Nat.mod_eq_of_lt (by unfold pP; omega)]
  · rw [if_neg c, Nat.mod_eq_of_lt (by unfold pP; omega)]
/-- the reference's turn -/
theorem polyT_val {a b d c : Nat → Nat} (ha : By a) (hb : By b) (hd : By d) (hc : By c) (h1 : dv a 17 < pP) (h2 : dv c 17 < 680564733841876926926749214863536422912) (h3 : dv b 17 < 21267647932558653966460912964485513216) : dv (polyT a b d c) 17 = (dv a 17 + dv c 17) * dv b 17 % pP := by
  have hT := pT1_B ha hc
  have vT := pT1_val (a := a) (c := c) (Nat.lt_of_lt_of_le (m := 2722258935367507707706996859454145691648) (by unfold pP at h1; omega) (by decide))
  have vP := pPs_val hT hb hd 17 (by omega)
  rw [vT] at vP
  have hV : dv (pPs (pT1 a c) b d 17) 40 < 115792089237316195423570985008687907853269984665640564039457584007913129639936 := by
    rw [vP]
    have m : (dv a 17 + dv c 17) * dv b 17 ≤ 2722258935367507707706996859454145691648 * 21267647932558653966460912964485513216 := Nat.mul_le_mul (by unfold pP at h1; omega) (by omega)
    exact Nat.lt_of_le_of_lt m (by decide)
  have r := redI_val hT (pPs_Z hT hb hd 17).1 hV 4
  have f := rF4 hV
  have v : dv (pRed a b d c 4).1 17 = rF (rF (rF (rF (dv (pPs (pT1 a c) b d 17) 40)))) := r.2.2 (by omega)
  unfold polyT
  rw [pFin_val (pRed_B ha hb hd hc 4).1 (by rw [v]; exact f.1), v, f.2, vP]

/-! Poly1305: the class's limbs -/
abbrev nn (x : Int64) : Nat := x.toBitVec.toNat
theorem n_add {x y : Int64} {a b : Nat} (hx : nn x = a) (hy : nn y = b) (h : a + b < 18446744073709551616) : nn (x + y) = a + b := by
  show (x.toBitVec + y.toBitVec).toNat = _
  rw [BitVec.toNat_add, show x.toBitVec.toNat = a from hx, show y.toBitVec.toNat = b from hy]
  exact Nat.mod_eq_of_lt h
theorem n_mul {x y : Int64} {a b : Nat} (hx : nn x = a) (hy : nn y = b) (h : a * b < 18446744073709551616) : nn (x * y) = a * b := by
  show (x.toBitVec * y.toBitVec).toNat = _
  rw [BitVec.toNat_mul, show x.toBitVec.toNat = a from hx, show y.toBitVec.toNat = b from hy]
  exact Nat.mod_eq_of_lt h
theorem n_uL {x : Int64} {a : Nat} (hx : nn x = a) (k : Nat) (hk : k < 64) : nn (uL x (nI k)) = a / 2 ^ k := by
  show (uL x (nI k)).toBitVec.toNat = _
  rw [uL_bv x hk, BitVec.toNat_ushiftRight, show x.toBitVec.toNat = a from hx, Nat.shiftRight_eq_div_pow]
theorem n_sL {x : Int64} {a : Nat} (hx : nn x = a) (k : Nat) (hk : k < 64) : nn (sL x (nI k)) = a * 2 ^ k % 18446744073709551616 := by
  show (sL x (nI k)).toBitVec.toNat = _
  rw [sL_bv x hk, BitVec.toNat_shiftLeft, show x.toBitVec.toNat = a from hx, Nat.shiftLeft_eq]
theorem n_m26 {x : Int64} {a : Nat} (hx : nn x = a) : nn (m26 x) = a % 67108864 := by
  show (x.toBitVec &&& 67108863#64).toNat = _
  rw [BitVec.toNat_and, show x.toBitVec.toNat = a from hx]
  exact Nat.and_two_pow_sub_one_eq_mod a 26
theorem n_w32 (x : Int32) : nn (w32 x) = x.toBitVec.toNat := by
  have h := joinL_n 0 x
  have e : joinL 0 x = w32 x := by
    unfold joinL w32
    rw [show sL (0 : Int32).toInt64 32 = 0 by decide, Int64.zero_or]
  rw [e] at h
  show (w32 x).toBitVec.toNat = _
  rw [h]
  show 0 * 4294967296 + _ = _
  omega
theorem n_or {x y : Int64} {a b k : Nat} (hx : nn x = a * 2 ^ k) (hy : nn y = b) (h : b < 2 ^ k) : nn (x ||| y) = a * 2 ^ k + b := by
  show (x.toBitVec ||| y.toBitVec).toNat = _
  rw [BitVec.toNat_or, show x.toBitVec.toNat = a * 2 ^ k from hx, show y.toBitVec.toNat = b from hy, or_n h]
theorem n_cat (b a : Int32) : nn (sL (w32 b) 32 ||| w32 a) = b.toBitVec.toNat * 4294967296 + a.toBitVec.toNat := by
  have hb := lt32 b
  have h1 : nn (sL (w32 b) 32) = b.toBitVec.toNat * 2 ^ 32 := by
    rw [show (32 : Int32) = nI 32 from rfl, n_sL (n_w32 b) 32 (by omega), Nat.mod_eq_of_lt (by omega)]
  exact n_or h1 (n_w32 a) (lt32 a)
def tv (q : T5) : Nat := lv5 (nn q.1) (nn q.2.1) (nn q.2.2.1) (nn q.2.2.2.1) (nn q.2.2.2.2)
/-- limbs' bounds -/
def LB (q : T5) : Prop := nn q.1 < 67108864 ∧ nn q.2.1 < 67112960 ∧ nn q.2.2.1 < 67108864 ∧ nn q.2.2.2.1 < 67108864 ∧ nn q.2.2.2.2 < 67108864
def LK (q : T5) : Prop := nn q.1 < 67108864 ∧ nn q.2.1 < 67108864 ∧ nn q.2.2.1 < 67108864 ∧ nn q.2.2.2.1 < 67108864 ∧ nn q.2.2.2.2 < 67108864
def w4v (a b c d : Int32) : Nat := a.toBitVec.toNat + b.toBitVec.toNat * 4294967296 + c.toBitVec.toNat * 18446744073709551616 + d.toBitVec.toNat * 79228162514264337593543950336
theorem padd_n {q : T5} (h : LB q) (a b c d : Int32) :
    nn (padd q.1 q.2.1 q.2.2.1 q.2.2.2.1 q.2.2.2.2 a b c d).1 = nn q.1 + a.toBitVec.toNat % 67108864 ∧
    nn (padd q.1 q.2.1 q.2.2.1 q.2.2.2.1 q.2.2.2.2 a b c d).2.1 = nn q.2.1 + (b.toBitVec.toNat * 4294967296 + a.toBitVec.toNat) / 67108864 % 67108864 ∧
    nn (padd q.1 q.2.1 q.2.2.1 q.2.2.2.1 q.2.2.2.2 a b c d).2.2.1 = nn q.2.2.1 + (c.toBitVec.toNat * 4294967296 + b.toBitVec.toNat) / 1048576 % 67108864 ∧
    nn (padd q.1 q.2.1 q.2.2.1 q.2.2.2.1 q.2.2.2.2 a b c d).2.2.2.1 = nn q.2.2.2.1 + (d.toBitVec.toNat * 4294967296 + c.toBitVec.toNat) / 16384 % 67108864 ∧
    nn (padd q.1 q.2.1 q.2.2.1 q.2.2.2.1 q.2.2.2.2 a b c d).2.2.2.2 = nn q.2.2.2.2 + d.toBitVec.toNat / 256 := by
  obtain ⟨h0, h1, h2, h3, h4⟩ := h
  have hd := lt32 d
  refine ⟨n_add rfl (n_m26 (n_w32 a)) (by omega), n_add rfl (n_m26 (n_uL (n_cat b a) 26 (by omega))) (by omega), n_add rfl (n_m26 (n_uL (n_cat c b) 20 (by omega))) (by omega), n_add rfl (n_m26 (n_uL (n_cat d c) 14 (by omega))) (by omega), n_add rfl (n_uL (n_w32 d) 8 (by omega)) (by omega)⟩
theorem lv5_add (a0 a1 a2 a3 a4 b0 b1 b2 b3 b4 : Nat) : lv5 (a0 + b0) (a1 + b1) (a2 + b2) (a3 + b3) (a4 + b4) = lv5 a0 a1 a2 a3 a4 + lv5 b0 b1 b2 b3 b4 := by
  unfold lv5
  omega
theorem padd_tv {q : T5} (h : LB q) (a b c d : Int32) : tv (padd q.1 q.2.1 q.2.2.1 q.2.2.2.1 q.2.2.2.2 a b c d) = tv q + w4v a b c d := by
  obtain ⟨e0, e1, e2, e3, e4⟩ := padd_n h a b c d
  unfold tv
  rw [e0, e1, e2, e3, e4, lv5_add, p_limbs (lt32 a) (lt32 b) (lt32 c) (lt32 d)]
  rfl
/-- limbs before a product -/
def pLS (q : T5) : Prop := nn q.1 < 268435456 ∧ nn q.2.1 < 268435456 ∧ nn q.2.2.1 < 268435456 ∧ nn q.2.2.2.1 < 268435456 ∧ nn q.2.2.2.2 < 268435456
theorem c24 : nn (16777216 : Int64) = 16777216 := by decide +kernel
theorem p24_5 (s : T5) : (p24 s).2.2.2.2 = s.2.2.2.2 + 16777216 := rfl
theorem p24_n {s : T5} (h : nn s.2.2.2.2 < 134217728) : nn (p24 s).2.2.2.2 = nn s.2.2.2.2 + 16777216 := by
  rw [p24_5]
  exact n_add rfl c24 (by omega)
theorem p24_1 : ∀ s : T5, (p24 s).1 = s.1
  | (a, b, c, d, e) => show (p24 (a, b, c, d, e)).1 = a from rfl
theorem p24_2 : ∀ s : T5, (p24 s).2.1 = s.2.1
  | (a, b, c, d, e) => show (p24 (a, b, c, d, e)).2.1 = b from rfl
theorem p24_3 : ∀ s : T5, (p24 s).2.2.1 = s.2.2.1
  | (a, b, c, d, e) => show (p24 (a, b, c, d, e)).2.2.1 = c from rfl
theorem p24_4 : ∀ s : T5, (p24 s).2.2.2.1 = s.2.2.2.1
  | (a, b, c, d, e) => show (p24 (a, b, c, d, e)).2.2.2.1 = d from rfl
theorem p24_aux {s : T5} (h0 : nn s.1 < 268435456) (h1 : nn s.2.1 < 268435456) (h2 : nn s.2.2.1 < 268435456) (h3 : nn s.2.2.2.1 < 268435456) (h4 : nn s.2.2.2.2 < 134217728) : pLS (p24 s) := by
  have e := p24_n h4
  unfold pLS
  rw [p24_1, p24_2, p24_3, p24_4, e]
  exact ⟨h0, h1, h2, h3, by omega⟩
theorem p24_v {s : T5} (h4 : nn s.2.2.2.2 < 134217728) : tv (p24 s) = tv s + 340282366920938463463374607431768211456 := by
  have e := p24_n h4
  unfold tv
  rw [p24_1, p24_2, p24_3, p24_4, e]
  unfold lv5
  omega
theorem p24_tv {q : T5} (h : LB q) (a b c d : Int32) : pLS (p24 (padd q.1 q.2.1 q.2.2.1 q.2.2.2.1 q.2.2.2.2 a b c d)) ∧ tv (p24 (padd q.1 q.2.1 q.2.2.1 q.2.2.2.1 q.2.2.2.2 a b c d)) = tv q + w4v a b c d + 340282366920938463463374607431768211456 := by
  have v := padd_tv h a b c d
  obtain ⟨e0, e1, e2, e3, e4⟩ := padd_n h a b c d
  obtain ⟨h0, h1, h2, h3, h4⟩ := h
  have hd := lt32 d
  refine ⟨p24_aux (by rw [e0]; omega) (by rw [e1]; omega) (by rw [e2]; omega) (by rw [e3]; omega) (by rw [e4]; omega), ?_⟩
  rw [p24_v (by rw [e4]; omega), v]
theorem mul_lt2 {a b m n : Nat} (ha : a < m) (hb : b < n) : a * b < m * n := Nat.mul_lt_mul'' ha hb
theorem n_sum5 {a b c d e f g h i j : Int64} {A B C D E : Nat} (hA : nn a * nn f = A) (hB : nn b * nn g = B) (hC : nn c * nn h = C) (hD : nn d * nn i = D) (hE : nn e * nn j = E) (lA : A < 144115188075855872) (lB : B < 144115188075855872) (lC : C < 144115188075855872) (lD : D < 144115188075855872) (lE : E < 144115188075855872) :
    nn (((((0 + a * f) + b * g) + c * h) + d * i) + e * j) = A + B + C + D + E := by
  have m : ∀ (x y : Int64) (z : Nat), nn x * nn y = z → z < 144115188075855872 → nn (x * y) = z := fun x y z q l => by rw [← q]; exact n_mul rfl rfl (by rw [q]; omega)
  have z : nn (0 + a * f) = A := by rw [Int64.zero_add]; exact m _ _ _ hA lA
  exact n_add (n_add (n_add (n_add z (m _ _ _ hB lB) (by omega)) (m _ _ _ hC lC) (by omega)) (m _ _ _ hD lD) (by omega)) (m _ _ _ hE lE) (by omega)
theorem n_five {k : Int64} (h : nn k < 67108864) : nn (5 * k) = 5 * nn k := n_mul rfl rfl (by show 5 * nn k < _; omega)
/-- limbs behind a product -/
def pLP (q : T5) : Prop := nn q.1 < 720575940379279360 ∧ nn q.2.1 < 720575940379279360 ∧ nn q.2.2.1 < 720575940379279360 ∧ nn q.2.2.2.1 < 720575940379279360 ∧ nn q.2.2.2.2 < 720575940379279360
theorem pmul_tv {q k : T5} (h : pLS q) (hk : LK k) : pLP (pmul q k.1 k.2.1 k.2.2.1 k.2.2.2.1 k.2.2.2.2 (5 * k.1) (5 * k.2.1) (5 * k.2.2.1) (5 * k.2.2.2.1) (5 * k.2.2.2.2)) ∧ tv (pmul q k.1 k.2.1 k.2.2.1 k.2.2.2.1 k.2.2.2.2 (5 * k.1) (5 * k.2.1) (5 * k.2.2.1) (5 * k.2.2.2.1) (5 * k.2.2.2.2)) % pP = tv q * tv k % pP := by
  obtain ⟨h0, h1, h2, h3, h4⟩ := h
  obtain ⟨k0, k1, k2, k3, k4⟩ := hk
  have f0 := n_five k0
  have f1 := n_five k1
  have f2 := n_five k2
  have f3 := n_five k3
  have f4 := n_five k4
  have P : ∀ {a b : Nat}, a < 268435456 → b < 536870912 → a * b < 144115188075855872 := fun ha hb => mul_lt2 (m := 268435456) (n := 536870912) ha hb
  have e0 : nn (pmul q k.1 k.2.1 k.2.2.1 k.2.2.2.1 k.2.2.2.2 (5 * k.1) (5 * k.2.1) (5 * k.2.2.1) (5 * k.2.2.2.1) (5 * k.2.2.2.2)).1 = nn q.1 * nn k.1 + nn q.2.1 * (5 * nn k.2.2.2.2) + nn q.2.2.1 * (5 * nn k.2.2.2.1) + nn q.2.2.2.1 * (5 * nn k.2.2.1) + nn q.2.2.2.2 * (5 * nn k.2.1) :=
    n_sum5 rfl (by rw [f4]) (by rw [f3]) (by rw [f2]) (by rw [f1]) (P h0 (by omega)) (P h1 (by omega)) (P h2 (by omega)) (P h3 (by omega)) (P h4 (by omega))
  have e1 : nn (pmul q k.1 k.2.1 k.2.2.1 k.2.2.2.1 k.2.2.2.2 (5 * k.1) (5 * k.2.1) (5 * k.2.2.1) (5 * k.2.2.2.1) (5 * k.2.2.2.2)).2.1 = nn q.1 * nn k.2.1 + nn q.2.1 * nn k.1 + nn q.2.2.1 * (5 * nn k.2.2.2.2) + nn q.2.2.2.1 * (5 * nn k.2.2.2.1) + nn q.2.2.2.2 * (5 * nn k.2.2.1) :=
    n_sum5 rfl rfl (by rw [f4]) (by rw [f3]) (by rw [f2]) (P h0 (by omega)) (P h1 (by omega)) (P h2 (by omega)) (P h3 (by omega)) (P h4 (by omega))
  have e2 : nn (pmul q k.1 k.2.1 k.2.2.1 k.2.2.2.1 k.2.2.2.2 (5 * k.1) (5 * k.2.1) (5 * k.2.2.1) (5 * k.2.2.2.1) (5 * k.2.2.2.2)).2.2.1 = nn q.1 * nn k.2.2.1 + nn q.2.1 * nn k.2.1 + nn q.2.2.1 * nn k.1 + nn q.2.2.2.1 * (5 * nn k.2.2.2.2) + nn q.2.2.2.2 * (5 * nn k.2.2.2.1) :=
    n_sum5 rfl rfl rfl (by rw [f4]) (by rw [f3]) (P h0 (by omega)) (P h1 (by omega)) (P h2 (by omega)) (P h3 (by omega)) (P h4 (by omega))
  have e3 : nn (pmul q k.1 k.2.1 k.2.2.1 k.2.2.2.1 k.2.2.2.2 (5 * k.1) (5 * k.2.1) (5 * k.2.2.1) (5 * k.2.2.2.1) (5 * k.2.2.2.2)).2.2.2.1 = nn q.1 * nn k.2.2.2.1 + nn q.2.1 * nn k.2.2.1 + nn q.2.2.1 * nn k.2.1 + nn q.2.2.2.1 * nn k.1 + nn q.2.2.2.2 * (5 * nn k.2.2.2.2) :=
    n_sum5 rfl rfl rfl rfl (by rw [f4]) (P h0 (by omega)) (P h1 (by omega)) (P h2 (by omega)) (P h3 (by omega)) (P h4 (by omega))
  have e4 : nn (pmul q k.1 k.2.1 k.2.2.1 k.2.2.2.1 k.2.2.2.2 (5 * k.1) (5 * k.2.1) (5 * k.2.2.1) (5 * k.2.2.2.1) (5 * k.2.2.2.2)).2.2.2.2 = nn q.1 * nn k.2.2.2.2 + nn q.2.1 * nn k.2.2.2.1 + nn q.2.2.1 * nn k.2.2.1 + nn q.2.2.2.1 * nn k.2.1 + nn q.2.2.2.2 * nn k.1 :=
    n_sum5 rfl rfl rfl rfl rfl (P h0 (by omega)) (P h1 (by omega)) (P h2 (by omega)) (P h3 (by omega)) (P h4 (by omega))
  have add5 : ∀ {a b c d e : Nat}, a < 144115188075855872 → b < 144115188075855872 → c < 144115188075855872 → d < 144115188075855872 → e < 144115188075855872 → a + b + c + d + e < 720575940379279360 := by
    intro a b c d e ha hb hc hd he
    omega
  refine ⟨⟨?_, ?_, ?_, ?_, ?_⟩, ?_⟩
  · rw [e0]; exact add5 (P h0 (by omega)) (P h1 (by omega)) (P h2 (by omega)) (P h3 (by omega)) (P h4 (by omega))
  · rw [e1]; exact add5 (P h0 (by omega)) (P h1 (by omega)) (P h2 (by omega)) (P h3 (by omega)) (P h4 (by omega))
  · rw [e2]; exact add5 (P h0 (by omega)) (P h1 (by omega)) (P h2 (by omega)) (P h3 (by omega)) (P h4 (by omega))
  · rw [e3]; exact add5 (P h0 (by omega)) (P h1 (by omega)) (P h2 (by omega)) (P h3 (by omega)) (P h4 (by omega))
  · rw [e4]; exact add5 (P h0 (by omega)) (P h1 (by omega)) (P h2 (by omega)) (P h3 (by omega)) (P h4 (by omega))
  · show lv5 _ _ _ _ _ % pP = _
    rw [e0, e1, e2, e3, e4, p_mulm]
    rfl
/-- carrying: what the limbs are then -/
theorem pcar_n {q : T5} (h : pLP q) :
    let l1 := nn q.2.1 + nn q.1 / 67108864
    let l2 := nn q.2.2.1 + l1 / 67108864
    let l3 := nn q.2.2.2.1 + l2 / 67108864
    let l4 := nn q.2.2.2.2 + l3 / 67108864
    let r := nn q.1 % 67108864 + 5 * (l4 / 67108864)
    nn (pcart q).1 = r % 67108864 ∧ nn (pcart q).2.1 = l1 % 67108864 + r / 67108864 ∧ nn (pcart q).2.2.1 = l2 % 67108864 ∧ nn (pcart q).2.2.2.1 = l3 % 67108864 ∧ nn (pcart q).2.2.2.2 = l4 % 67108864 := by
  obtain ⟨h0, h1, h2, h3, h4⟩ := h
  intro l1 l2 l3 l4 r
  have z : nn (q.1 + 0) = nn q.1 := by rw [Int64.add_zero]
  have a1 : nn (q.2.1 + uL (q.1 + 0) 26) = l1 := n_add rfl (n_uL z 26 (by omega)) (by show nn q.2.1 + nn q.1 / 2 ^ 26 < _; omega)
  have b1 : l1 < 864691128455135232 := by show nn q.2.1 + nn q.1 / 67108864 < _; omega
  have a2 : nn (q.2.2.1 + uL (q.2.1 + uL (q.1 + 0) 26) 26) = l2 := n_add rfl (n_uL a1 26 (by omega)) (by show nn q.2.2.1 + l1 / 2 ^ 26 < _; omega)
  have b2 : l2 < 864691128455135232 := by show nn q.2.2.1 + l1 / 67108864 < _; omega
  have a3 : nn (q.2.2.2.1 + uL (q.2.2.1 + uL (q.2.1 + uL (q.1 + 0) 26) 26) 26) = l3 := n_add rfl (n_uL a2 26 (by omega)) (by show nn q.2.2.2.1 + l2 / 2 ^ 26 < _; omega)
  have b3 : l3 < 864691128455135232 := by show nn q.2.2.2.1 + l2 / 67108864 < _; omega
  have a4 : nn (q.2.2.2.2 + uL (q.2.2.2.1 + uL (q.2.2.1 + uL (q.2.1 + uL (q.1 + 0) 26) 26) 26) 26) = l4 := n_add rfl (n_uL a3 26 (by omega)) (by show nn q.2.2.2.2 + l3 / 2 ^ 26 < _; omega)
  have b4 : l4 < 864691128455135232 := by show nn q.2.2.2.2 + l3 / 67108864 < _; omega
  have a5 : nn (5 * uL (q.2.2.2.2 + uL (q.2.2.2.1 + uL (q.2.2.1 + uL (q.2.1 + uL (q.1 + 0) 26) 26) 26) 26) 26) = 5 * (l4 / 67108864) := n_mul rfl (n_uL a4 26 (by omega)) (by show 5 * (l4 / 2 ^ 26) < _; omega)
  have ar : nn (m26 (q.1 + 0) + 5 * uL (q.2.2.2.2 + uL (q.2.2.2.1 + uL (q.2.2.1 + uL (q.2.1 + uL (q.1 + 0) 26) 26) 26) 26) 26) = r := n_add (n_m26 z) a5 (by omega)
  have br : r < 137438953472 := by show nn q.1 % 67108864 + 5 * (l4 / 67108864) < _; omega
  exact ⟨n_m26 ar, n_add (n_m26 a1) (n_uL ar 26 (by omega)) (by show l1 % 67108864 + r / 2 ^ 26 < _; omega), n_m26 a2, n_m26 a3, n_m26 a4⟩
theorem pcar_tv {q : T5} (h : pLP q) : LB (pcart q) ∧ tv (pcart q) % pP = tv q % pP := by
  have c := pcar_n h
  obtain ⟨h0, h1, h2, h3, h4⟩ := h
  obtain ⟨c0, c1, c2, c3, c4⟩ := c
  refine ⟨⟨?_, ?_, ?_, ?_, ?_⟩, ?_⟩
  · rw [c0]; exact Nat.mod_lt _ (by omega)
  · rw [c1]; omega
  · rw [c2]; exact Nat.mod_lt _ (by omega)
  · rw [c3]; exact Nat.mod_lt _ (by omega)
  · rw [c4]; exact Nat.mod_lt _ (by omega)
  · show lv5 _ _ _ _ _ % pP = _
    rw [c0, c1, c2, c3, c4]
    have p := p_carry (nn q.1) (nn q.2.1) (nn q.2.2.1) (nn q.2.2.2.1) (nn q.2.2.2.2) rfl rfl rfl rfl rfl rfl
    show _ = lv5 _ _ _ _ _ % pP
    rw [← p, Nat.add_mul_mod_self_left]
/-- a block is absorbed -/
theorem pabs_tv {q k : T5} (h : LB q) (hk : LK k) (a b c d : Int32) :
    LB (pabs q.1 q.2.1 q.2.2.1 q.2.2.2.1 q.2.2.2.2 k.1 k.2.1 k.2.2.1 k.2.2.2.1 k.2.2.2.2 (5 * k.1) (5 * k.2.1) (5 * k.2.2.1) (5 * k.2.2.2.1) (5 * k.2.2.2.2) a b c d) ∧
    tv (pabs q.1 q.2.1 q.2.2.1 q.2.2.2.1 q.2.2.2.2 k.1 k.2.1 k.2.2.1 k.2.2.2.1 k.2.2.2.2 (5 * k.1) (5 * k.2.1) (5 * k.2.2.1) (5 * k.2.2.2.1) (5 * k.2.2.2.2) a b c d) % pP = (tv q + (w4v (swpI a) (swpI b) (swpI c) (swpI d) + 340282366920938463463374607431768211456)) * tv k % pP := by
  have p := p24_tv h (swpI a) (swpI b) (swpI c) (swpI d)
  have m := pmul_tv p.1 hk
  have r := pcar_tv m.1
  rw [m.2, p.2, Nat.add_assoc] at r
  exact r

/-! Poly1305: both -/
def le4 (g : Nat → Nat) (k : Nat) : Nat := g k + g (k + 1) * 256 + g (k + 2) * 65536 + g (k + 3) * 16777216
theorem mlit_n {g : Nat → Nat} (hg : By g) (k : Nat) : (mlit g k).toBitVec.toNat = le4 g k := by
  rw [mlit_W hg, Wd_n, bt_n hg, bt_n hg, bt_n hg, bt_n hg]
  unfold le4
  omega
theorem le4_lt {g : Nat → Nat} (hg : By g) (k : Nat) : le4 g k < 4294967296 := by
  rw [← mlit_n hg k]
  exact lt32 _
theorem dv_4 (g : Nat → Nat) (a : Nat) : dv (fun k => g (a + k)) 4 = le4 g a := by
  show 0 + g (a + 0) * 256 ^ 0 + g (a + 1) * 256 ^ 1 + g (a + 2) * 256 ^ 2 + g (a + 3) * 256 ^ 3 = g a + g (a + 1) * 256 + g (a + 2) * 65536 + g (a + 3) * 16777216
  rw [Nat.add_zero]
  omega
theorem dv_16 (g : Nat → Nat) (a : Nat) : dv (fun k => g (a + k)) 16 = le4 g a + le4 g (a + 4) * 4294967296 + le4 g (a + 8) * 18446744073709551616 + le4 g (a + 12) * 79228162514264337593543950336 := by
  have s1 := dv_split (fun k => g (a + k)) 4 12
  have s2 := dv_split (fun k => g (a + (4 + k))) 4 8
  have s3 := dv_split (fun k => g (a + (4 + (4 + k)))) 4 4
  have e1 : dv (fun k => g (a + (4 + k))) 4 = le4 g (a + 4) := by
    rw [← dv_4]
    exact dv_congr 4 (fun i _ => by rw [Nat.add_assoc])
  have e2 : dv (fun k => g (a + (4 + (4 + k)))) 4 = le4 g (a + 8) := by
    rw [← dv_4]
    exact dv_congr 4 (fun i _ => congrArg g (by omega))
  have e3 : dv (fun k => g (a + (4 + (4 + (4 + k))))) 4 = le4 g (a + 12) := by
    rw [← dv_4]
    exact dv_congr 4 (fun i _ => congrArg g (by omega))
  have n4 : (256 : Nat) ^ 4 = 4294967296 := by decide
  rw [dv_4, n4] at s1
  rw [e1, n4] at s2
  rw [e2, e3, n4] at s3
  rw [show 4 + 12 = 16 from rfl] at s1
  rw [show 4 + 8 = 12 from rfl] at s2
  rw [show 4 + 4 = 8 from rfl] at s3
  rw [s1, s2, s3]
  omega
theorem w4v_le {g : Nat → Nat} (hg : By g) (a : Nat) : w4v (mlit g a) (mlit g (a + 4)) (mlit g (a + 8)) (mlit g (a + 12)) = dv (fun k => g (a + k)) 16 := by
  unfold w4v
  rw [mlit_n hg, mlit_n hg, mlit_n hg, mlit_n hg, dv_16]
theorem dv_17 (g : Nat → Nat) : dv g 17 = dv g 16 + g 16 * 340282366920938463463374607431768211456 := by
  have n16 : (256 : Nat) ^ 16 = 340282366920938463463374607431768211456 := by decide
  have e : dv g 17 = dv g 16 + g 16 * 256 ^ 16 := rfl
  rw [e, n16]
theorem dv16_lt {g : Nat → Nat} (hg : By g) : dv g 16 < 340282366920938463463374607431768211456 := Nat.lt_of_lt_of_le (dv_lt 16 (fun i _ => hg i)) (by decide)
/-! a row, 16 bytes a turn -/
theorem chS_at (g : Nat → Nat) (z b : Nat) (c : Nat → Nat) (n j : Nat) : iter (chS g z b) n c j = if j < n then xg g z (b + j) else c j := iter_updN0 (fun i => if z ≤ b + i then 0 else g (b + i)) c j n
theorem chN_val (g : Nat → Nat) (z b : Nat) (c : Nat → Nat) : dv (chN g z b c) 17 = dv (fun k => xg g z (b + k)) 16 + 340282366920938463463374607431768211456 := by
  rw [dv_17]
  have e16 : chN g z b c 16 = 1 := updN_s
  rw [e16, dv_congr (g := fun k => xg g z (b + k)) 16 (fun i hi => by
    unfold chN
    rw [updN_n (by omega), chS_at, if_pos hi]), Nat.one_mul]
def pRel (s : T5) (t : Nat → Nat) : Prop := LB s ∧ tv s % pP = dv t 17 ∧ dv t 17 < pP
theorem pstep (x m k : Nat) : (x + m) * k % pP = (x % pP + m) * k % pP := by
  rw [Nat.mul_mod, Nat.add_mod, Nat.mul_mod (x % pP + m), Nat.add_mod (x % pP) m, Nat.mod_mod x]
theorem pp_pos : 0 < pP := by unfold pP; omega
/-- one turn of both -/
theorem pturn {s k : T5} {t F d c : Nat → Nat} (h : pRel s t) (hk : LK k) (hF : tv k = dv F 17) (hF2 : dv F 17 < 21267647932558653966460912964485513216) (ht : By t) (bF : By F) (hd : By d) (hc : By c) {a b cc dd : Int32}
    (hm : dv c 17 = w4v (swpI a) (swpI b) (swpI cc) (swpI dd) + 340282366920938463463374607431768211456) (hm2 : dv c 17 < 680564733841876926926749214863536422912) :
    pRel (pabs s.1 s.2.1 s.2.2.1 s.2.2.2.1 s.2.2.2.2 k.1 k.2.1 k.2.2.1 k.2.2.2.1 k.2.2.2.2 (5 * k.1) (5 * k.2.1) (5 * k.2.2.1) (5 * k.2.2.2.1) (5 * k.2.2.2.2) a b cc dd) (polyT t F d c) := by
  have p := pabs_tv h.1 hk a b cc dd
  have v := polyT_val ht bF hd hc h.2.2 hm2 hF2
  refine ⟨p.1, ?_, ?_⟩
  · rw [p.2, v, ← hm, hF, pstep, h.2.1]
  · rw [v]
    exact Nat.mod_lt _ pp_pos
theorem plI_1 (F g : Nat → Nat) (z i : Nat) (q : N3) : (plI F g z (i + 1) q).1 = polyT (plI F g z i q).1 F (plI F g z i q).2.1 (chN g z (16 * i) (plI F g z i q).2.2) := by
  unfold plI
  rw [iter_s]
  generalize iter (plS F g z) i q = m
  unfold plS
  rfl
theorem prow_1 (k0 k1 k2 k3 k4 t0 t1 t2 t3 t4 : Int64) (f : Nat → Int32) (len z i : Nat) (q : T5 × T5) : (prow k0 k1 k2 k3 k4 t0 t1 t2 t3 t4 f len z i q).1 = pabs q.1.1 q.1.2.1 q.1.2.2.1 q.1.2.2.2.1 q.1.2.2.2.2 k0 k1 k2 k3 k4 t0 t1 t2 t3 t4 (rword f len (16 * i) z) (rword f len (16 * i + 4) z) (rword f len (16 * i + 8) z) (rword f len (16 * i + 12) z) := by
  unfold prow
  rfl
theorem prow_rel {k : T5} {F g : Nat → Nat} (hk : LK k) (hF : tv k = dv F 17) (hF2 : dv F 17 < 21267647932558653966460912964485513216) (bF : By F) (hg : By g) {f : Nat → Int32} {len z : Nat} (hr : RB f z g) (hz : z ≤ len) (hl : len < 2 ^ 31) {s P : T5} {a d c : Nat → Nat} (h : pRel s a) (ha : By a) (hd : By d) (hc : By c) :
    ∀ i, pRel (iter (prow k.1 k.2.1 k.2.2.1 k.2.2.2.1 k.2.2.2.2 (5 * k.1) (5 * k.2.1) (5 * k.2.2.1) (5 * k.2.2.2.1) (5 * k.2.2.2.2) f len z) i (s, P)).1 (plI F g z i (a, d, c)).1
  | 0 => h
  | i + 1 => by
    have ih := prow_rel hk hF hF2 bF hg hr hz hl (P := P) h ha hd hc i
    have b := plI_B bF hg z i (q := (a, d, c)) ⟨ha, hd, hc⟩
    rw [iter_s, plI_1]
    generalize iter (prow k.1 k.2.1 k.2.2.1 k.2.2.2.1 k.2.2.2.2 (5 * k.1) (5 * k.2.1) (5 * k.2.2.1) (5 * k.2.2.2.1) (5 * k.2.2.2.2) f len z) i (s, P) = q at ih
    generalize plI F g z i (a, d, c) = m at ih b
    rw [prow_1]
    have bx := xg_B hg z
    have v : dv (chN g z (16 * i) m.2.2) 17 = w4v (swpI (rword f len (16 * i) z)) (swpI (rword f len (16 * i + 4) z)) (swpI (rword f len (16 * i + 8) z)) (swpI (rword f len (16 * i + 12) z)) + 340282366920938463463374607431768211456 := by
      rw [chN_val, rword_eq hr hg hz hl, rword_eq hr hg hz hl, rword_eq hr hg hz hl, rword_eq hr hg hz hl, swp_bw bx, swp_bw bx, swp_bw bx, swp_bw bx, w4v_le bx]
    refine pturn ih hk hF hF2 b.1 bF b.2.1 (chN_B hg z (16 * i) b.2.2) v ?_
    rw [chN_val]
    have := dv16_lt (g := fun k => xg g z (16 * i + k)) (fun j => bx _)
    omega
/-! the key -/
theorem and28 (x : Int32) : (x &&& 268435455).toBitVec.toNat = x.toBitVec.toNat % 268435456 := by
  show (x.toBitVec &&& 268435455#32).toNat = _
  rw [BitVec.toNat_and]
  exact Nat.and_two_pow_sub_one_eq_mod _ 28
theorem and28b (x : Int32) : (x &&& 268435452).toBitVec.toNat = x.toBitVec.toNat % 268435456 / 4 * 4 := by
  show (x.toBitVec &&& 268435452#32).toNat = _
  have e : x.toBitVec &&& 268435452#32 = ((x.toBitVec &&& 268435455#32) >>> 2) <<< 2 := by
    apply BitVec.eq_of_getLsbD_eq
    intro i hi
    have m1 : (268435452#32).getLsbD i = (decide (2 ≤ i) && decide (i < 28)) := (by decide +kernel : ∀ i, i < 32 → (268435452#32).getLsbD i = (decide (2 ≤ i) && decide (i < 28))) i hi
    have m2 : (268435455#32).getLsbD i = decide (i < 28) := (by decide +kernel : ∀ i, i < 32 → (268435455#32).getLsbD i = decide (i < 28)) i hi
    rw [BitVec.getLsbD_and, m1, BitVec.getLsbD_shiftLeft, BitVec.getLsbD_ushiftRight, BitVec.getLsbD_and]
    by_cases c : 2 ≤ i
    · rw [show 2 + (i - 2) = i by omega, m2]
      have c2 : ¬ i < 2 := by omega
      simp [c, c2, hi]
    · have c2 : i < 2 := by omega
      simp [c, c2]
  rw [e, BitVec.toNat_shiftLeft, BitVec.toNat_ushiftRight, BitVec.toNat_and, show (268435455#32).toNat = 2 ^ 28 - 1 from rfl, Nat.and_two_pow_sub_one_eq_mod, Nat.shiftRight_eq_div_pow, Nat.shiftLeft_eq]
  omega
theorem fS_at (s : Nat → Nat) (b : Nat → Nat) (n j : Nat) : iter (fS s) n b j = if j < n then (if j = 16 then 0 else if j % 4 = 3 then s j % 16 else if j % 4 = 0 then (if j ≤ 0 then s j % 256 else s j / 4 * 4) else s j % 256) else b j :=
  iter_updN0 (fun i => if i = 16 then 0 else if i % 4 = 3 then s i % 16 else if i % 4 = 0 then (if i ≤ 0 then s i % 256 else s i / 4 * 4) else s i % 256) b j n
theorem key_val {X : Nat → Int32} {su b : Nat → Nat} (hs : By su) (hX : ∀ k, k < 4 → (X k).toBitVec.toNat = le4 su (4 * k)) :
    LK (padd 0 0 0 0 0 (X 0 &&& 268435455) (X 1 &&& 268435452) (X 2 &&& 268435452) (X 3 &&& 268435452)) ∧ tv (padd 0 0 0 0 0 (X 0 &&& 268435455) (X 1 &&& 268435452) (X 2 &&& 268435452) (X 3 &&& 268435452)) = dv (tcF su b) 17 ∧ dv (tcF su b) 17 < 21267647932558653966460912964485513216 := by
  have z : LB ((0, 0, 0, 0, 0) : T5) := ⟨by decide, by decide, by decide, by decide, by decide⟩
  have n := padd_n z (X 0 &&& 268435455) (X 1 &&& 268435452) (X 2 &&& 268435452) (X 3 &&& 268435452)
  have v := padd_tv z (X 0 &&& 268435455) (X 1 &&& 268435452) (X 2 &&& 268435452) (X 3 &&& 268435452)
  have tz : tv ((0, 0, 0, 0, 0) : T5) = 0 := by decide
  rw [tz, Nat.zero_add] at v
  have x0 := and28 (X 0)
  have x1 := and28b (X 1)
  have x2 := and28b (X 2)
  have x3 := and28b (X 3)
  rw [hX 0 (by omega)] at x0
  rw [hX 1 (by omega)] at x1
  rw [hX 2 (by omega)] at x2
  rw [hX 3 (by omega)] at x3
  have at' : ∀ j, j < 17 → tcF su b j = if j = 16 then 0 else if j % 4 = 3 then su j % 16 else if j % 4 = 0 then (if j ≤ 0 then su j % 256 else su j / 4 * 4) else su j % 256 := fun j hj => by
    unfold tcF
    rw [fS_at, if_pos hj]
  have a16 : tcF su b 16 = 0 := at' 16 (by omega)
  have f : ∀ k, k < 4 → tcF su b (4 * k + 1) = su (4 * k + 1) ∧ tcF su b (4 * k + 2) = su (4 * k + 2) ∧ tcF su b (4 * k + 3) = su (4 * k + 3) % 16 := fun k hk => by
    have h1 := hs (4 * k + 1)
    have h2 := hs (4 * k + 2)
    refine ⟨?_, ?_, ?_⟩
    · rw [at' _ (by omega), if_neg (by omega), if_neg (by omega), if_neg (by omega), Nat.mod_eq_of_lt h1]
    · rw [at' _ (by omega), if_neg (by omega), if_neg (by omega), if_neg (by omega), Nat.mod_eq_of_lt h2]
    · rw [at' _ (by omega), if_neg (by omega), if_pos (by omega)]
  have f0 : tcF su b 0 = su 0 := by
    rw [at' 0 (by omega)]
    exact Nat.mod_eq_of_lt (hs 0)
  have f4 : tcF su b 4 = su 4 / 4 * 4 := at' 4 (by omega)
  have f8 : tcF su b 8 = su 8 / 4 * 4 := at' 8 (by omega)
  have f12 : tcF su b 12 = su 12 / 4 * 4 := at' 12 (by omega)
  have l : ∀ k, su k < 256 := hs
  have g0 : (X 0 &&& 268435455).toBitVec.toNat = le4 (tcF su b) 0 := by
    obtain ⟨q1, q2, q3⟩ := f 0 (by omega)
    have h0 := l 0
    have h1 := l 1
    have h2 := l 2
    have h3 := l 3
    rw [x0]
    unfold le4
    simp only [Nat.mul_zero, Nat.zero_add] at *
    rw [f0, q1, q2, q3]
    omega
  have gk : ∀ k, k < 4 → tcF su b (4 * k) = su (4 * k) / 4 * 4 → le4 su (4 * k) % 268435456 / 4 * 4 = le4 (tcF su b) (4 * k) := fun k hk e => by
    obtain ⟨q1, q2, q3⟩ := f k hk
    have h0 := l (4 * k)
    have h1 := l (4 * k + 1)
    have h2 := l (4 * k + 2)
    have h3 := l (4 * k + 3)
    unfold le4
    rw [e, q1, q2, q3]
    omega
  have g1 : (X 1 &&& 268435452).toBitVec.toNat = le4 (tcF su b) 4 := x1.trans (gk 1 (by omega) f4)
  have g2 : (X 2 &&& 268435452).toBitVec.toNat = le4 (tcF su b) 8 := x2.trans (gk 2 (by omega) f8)
  have g3 : (X 3 &&& 268435452).toBitVec.toNat = le4 (tcF su b) 12 := x3.trans (gk 3 (by omega) f12)
  have val : w4v (X 0 &&& 268435455) (X 1 &&& 268435452) (X 2 &&& 268435452) (X 3 &&& 268435452) = dv (tcF su b) 17 := by
    unfold w4v
    have d := dv_16 (tcF su b) 0
    simp only [Nat.zero_add] at d
    rw [g0, g1, g2, g3, dv_17, a16, show dv (tcF su b) 16 = dv (fun k => tcF su b k) 16 from rfl, d]
    omega
  refine ⟨?_, v.trans val, ?_⟩
  · obtain ⟨n0, n1, n2, n3, n4⟩ := n
    have zn : nn (0 : Int64) = 0 := by decide
    have l3 : (X 3 &&& 268435452).toBitVec.toNat < 4294967296 := lt32 _
    simp only [zn, Nat.zero_add] at n0 n1 n2 n3 n4
    unfold LK
    rw [n0, n1, n2, n3, n4]
    exact ⟨Nat.mod_lt _ (by omega), Nat.mod_lt _ (by omega), Nat.mod_lt _ (by omega), Nat.mod_lt _ (by omega), by omega⟩
  · rw [← val]
    unfold w4v
    have m3 : (X 3 &&& 268435452).toBitVec.toNat < 268435456 := by rw [x3]; omega
    have m2 := lt32 (X 2 &&& 268435452)
    have m1 := lt32 (X 1 &&& 268435452)
    have m0 := lt32 (X 0 &&& 268435455)
    omega
/-! the end: one number below the prime -/
theorem LB_LP {q : T5} (h : LB q) : pLP q := by
  obtain ⟨h0, h1, h2, h3, h4⟩ := h
  exact ⟨by omega, by omega, by omega, by omega, by omega⟩
theorem pcar_LK {q : T5} (h : LB q) : LK (pcart q) := by
  obtain ⟨c0, c1, c2, c3, c4⟩ := pcar_n (LB_LP h)
  obtain ⟨h0, h1, h2, h3, h4⟩ := h
  unfold LK
  rw [c0, c1, c2, c3, c4]
  refine ⟨Nat.mod_lt _ (by omega), ?_, Nat.mod_lt _ (by omega), Nat.mod_lt _ (by omega), Nat.mod_lt _ (by omega)⟩
  generalize nn q.1 = a0 at *
  generalize nn q.2.1 = a1 at *
  generalize nn q.2.2.1 = a2 at *
  generalize nn q.2.2.2.1 = a3 at *
  generalize nn q.2.2.2.2 = a4 at *
  omega
theorem pover_num {a0 a1 a2 a3 a4 l1 l2 l3 l4 : Nat} (h0 : a0 < 67108864) (h1 : a1 < 67108864) (h2 : a2 < 67108864) (h3 : a3 < 67108864) (h4 : a4 < 67108864) (e1 : l1 = a1 + (a0 + 5) / 67108864) (e2 : l2 = a2 + l1 / 67108864) (e3 : l3 = a3 + l2 / 67108864) (e4 : l4 = a4 + l3 / 67108864) :
    (l4 / 67108864 = 0 → lv5 a0 a1 a2 a3 a4 < pP) ∧ (¬ l4 / 67108864 = 0 → lv5 ((a0 + 5) % 67108864) (l1 % 67108864) (l2 % 67108864) (l3 % 67108864) (l4 % 67108864) + pP = lv5 a0 a1 a2 a3 a4) ∧ l4 / 67108864 < 2 := by
  unfold lv5 pP
  refine ⟨fun h => ?_, fun h => ?_, ?_⟩ <;> omega
theorem lv5_lt {a0 a1 a2 a3 a4 : Nat} (h0 : a0 < 67108864) (h1 : a1 < 67108864) (h2 : a2 < 67108864) (h3 : a3 < 67108864) (h4 : a4 < 67108864) : lv5 a0 a1 a2 a3 a4 < 1361129467683753853853498429727072845824 := by
  unfold lv5
  omega
theorem c5 : nn (5 : Int64) = 5 := by decide +kernel
theorem lgp {x : Int64} : (nn x = 0 → lg_cmp x 0 ≤ 0) ∧ (nn x = 1 → ¬ lg_cmp x 0 ≤ 0) := by
  constructor
  · intro h
    have e : x = 0 := eq_n64 h
    rw [e]
    decide
  · intro h
    have e : x = 1 := eq_n64 h
    rw [e]
    decide
theorem pred_tv {q : T5} (h : LK q) : LK (predt q) ∧ tv (predt q) = tv q % pP := by
  have h' := h
  obtain ⟨h0, h1, h2, h3, h4⟩ := h
  have a0 : nn (q.1 + 5) = nn q.1 + 5 := n_add rfl c5 (by omega)
  have a1 : nn (q.2.1 + uL (q.1 + 5) 26) = nn q.2.1 + (nn q.1 + 5) / 67108864 := n_add rfl (n_uL a0 26 (by omega)) (by show nn q.2.1 + (nn q.1 + 5) / 2 ^ 26 < _; omega)
  have a2 : nn (q.2.2.1 + uL (q.2.1 + uL (q.1 + 5) 26) 26) = nn q.2.2.1 + (nn q.2.1 + (nn q.1 + 5) / 67108864) / 67108864 := n_add rfl (n_uL a1 26 (by omega)) (by show nn q.2.2.1 + _ / 2 ^ 26 < _; omega)
  have a3 : nn (q.2.2.2.1 + uL (q.2.2.1 + uL (q.2.1 + uL (q.1 + 5) 26) 26) 26) = nn q.2.2.2.1 + (nn q.2.2.1 + (nn q.2.1 + (nn q.1 + 5) / 67108864) / 67108864) / 67108864 := n_add rfl (n_uL a2 26 (by omega)) (by show nn q.2.2.2.1 + _ / 2 ^ 26 < _; omega)
  have a4 : nn (q.2.2.2.2 + uL (q.2.2.2.1 + uL (q.2.2.1 + uL (q.2.1 + uL (q.1 + 5) 26) 26) 26) 26) = nn q.2.2.2.2 + (nn q.2.2.2.1 + (nn q.2.2.1 + (nn q.2.1 + (nn q.1 + 5) / 67108864) / 67108864) / 67108864) / 67108864 := n_add rfl (n_uL a3 26 (by omega)) (by show nn q.2.2.2.2 + _ / 2 ^ 26 < _; omega)
  have o : nn (pover q.1 q.2.1 q.2.2.1 q.2.2.2.1 q.2.2.2.2) = (nn q.2.2.2.2 + (nn q.2.2.2.1 + (nn q.2.2.1 + (nn q.2.1 + (nn q.1 + 5) / 67108864) / 67108864) / 67108864) / 67108864) / 67108864 := n_uL a4 26 (by omega)
  have N := pover_num h0 h1 h2 h3 h4 rfl rfl rfl rfl
  have V := lv5_lt h0 h1 h2 h3 h4
  unfold predt pred
  by_cases c : (nn q.2.2.2.2 + (nn q.2.2.2.1 + (nn q.2.2.1 + (nn q.2.1 + (nn q.1 + 5) / 67108864) / 67108864) / 67108864) / 67108864) / 67108864 = 0
  · rw [if_pos (lgp.1 (o.trans c))]
    refine ⟨h', ?_⟩
    exact (Nat.mod_eq_of_lt (N.1 c)).symm
  · rw [if_neg (lgp.2 (o.trans (by omega)))]
    have n0 := n_m26 a0
    have n1 := n_m26 a1
    have n2 := n_m26 a2
    have n3 := n_m26 a3
    have n4 := n_m26 a4
    have e := N.2.1 c
    constructor
    · show nn (m26 (q.1 + 5)) < 67108864 ∧ nn (m26 (q.2.1 + uL (q.1 + 5) 26)) < 67108864 ∧ nn (m26 (q.2.2.1 + uL (q.2.1 + uL (q.1 + 5) 26) 26)) < 67108864 ∧ nn (m26 (q.2.2.2.1 + uL (q.2.2.1 + uL (q.2.1 + uL (q.1 + 5) 26) 26) 26)) < 67108864 ∧ nn (m26 (q.2.2.2.2 + uL (q.2.2.2.1 + uL (q.2.2.1 + uL (q.2.1 + uL (q.1 + 5) 26) 26) 26) 26)) < 67108864
      rw [n0, n1, n2, n3, n4]
      exact ⟨Nat.mod_lt _ (by omega), Nat.mod_lt _ (by omega), Nat.mod_lt _ (by omega), Nat.mod_lt _ (by omega), Nat.mod_lt _ (by omega)⟩
    · show lv5 (nn (m26 (q.1 + 5))) (nn (m26 (q.2.1 + uL (q.1 + 5) 26))) (nn (m26 (q.2.2.1 + uL (q.2.1 + uL (q.1 + 5) 26) 26))) (nn (m26 (q.2.2.2.1 + uL (q.2.2.1 + uL (q.2.1 + uL (q.1 + 5) 26) 26) 26))) (nn (m26 (q.2.2.2.2 + uL (q.2.2.2.1 + uL (q.2.2.1 + uL (q.2.1 + uL (q.1 + 5) 26) 26) 26) 26))) = lv5 (nn q.1) (nn q.2.1) (nn q.2.2.1) (nn q.2.2.2.1) (nn q.2.2.2.2) % pP
      rw [n0, n1, n2, n3, n4, ← e, Nat.add_mod_right]
      refine (Nat.mod_eq_of_lt ?_).symm
      clear n0 n1 n2 n3 n4 a0 a1 a2 a3 a4 o N c
      unfold pP at e ⊢
      generalize lv5 (nn q.1) (nn q.2.1) (nn q.2.2.1) (nn q.2.2.2.1) (nn q.2.2.2.2) = Z at *
      omega
theorem n_and32 {x : Int64} {a : Nat} (hx : nn x = a) : nn (x &&& 4294967295) = a % 4294967296 := by
  show (x.toBitVec &&& 4294967295#64).toNat = _
  rw [BitVec.toNat_and, show x.toBitVec.toNat = a from hx]
  exact Nat.and_two_pow_sub_one_eq_mod a 32
theorem pw_n {x y : Int64} (hy : nn y < 67108864) (a b : Nat) (ha : a < 64) (hb : b ≤ 26) (hx : nn x / 2 ^ a < 2 ^ b) : nn (pw x y (nI a) (nI b)) = (nn y * 2 ^ b + nn x / 2 ^ a) % 4294967296 := by
  unfold pw
  refine n_and32 ?_
  have e : uL x (nI a) ||| sL y (nI b) = sL y (nI b) ||| uL x (nI a) := Int64.toBitVec_inj.1 (BitVec.or_comm _ _)
  rw [e]
  refine n_or ?_ (n_uL rfl a ha) hx
  rw [n_sL rfl b (by omega), Nat.mod_eq_of_lt]
  have : nn y * 2 ^ b ≤ 67108864 * 2 ^ 26 := Nat.mul_le_mul (by omega) (Nat.pow_le_pow_right (by omega) hb)
  exact Nat.lt_of_le_of_lt this (by decide)
theorem words_num {a0 a1 a2 a3 a4 : Nat} (h0 : a0 < 67108864) (h1 : a1 < 67108864) (h2 : a2 < 67108864) (h3 : a3 < 67108864) (h4 : a4 < 67108864) :
    (a1 * 67108864 + a0 / 1) % 4294967296 + (a2 * 1048576 + a1 / 64) % 4294967296 * 4294967296 + (a3 * 16384 + a2 / 4096) % 4294967296 * 18446744073709551616 + (a4 * 256 + a3 / 262144) % 4294967296 * 79228162514264337593543950336 = lv5 a0 a1 a2 a3 a4 % 340282366920938463463374607431768211456 := by
  unfold lv5
  omega
/-- the class's tag, as a number -/
theorem pc_val {q : T5} (h : LK q) (g0 g1 g2 g3 : Int32) :
    (pc1 q g0).toInt32.toBitVec.toNat + (pc2 q g0 g1).toInt32.toBitVec.toNat * 4294967296 + (pc3 q g0 g1 g2).toInt32.toBitVec.toNat * 18446744073709551616 + (pc4 q g0 g1 g2 g3).toInt32.toBitVec.toNat * 79228162514264337593543950336 =
      (tv q % 340282366920938463463374607431768211456 + w4v g0 g1 g2 g3) % 340282366920938463463374607431768211456 := by
  obtain ⟨h0, h1, h2, h3, h4⟩ := h
  have W := words_num h0 h1 h2 h3 h4
  have w0 : nn (pw q.1 q.2.1 0 26) = (nn q.2.1 * 67108864 + nn q.1 / 1) % 4294967296 := pw_n (x := q.1) h1 0 26 (by omega) (by omega) (by rw [Nat.pow_zero, Nat.div_one]; exact h0)
  have w1 : nn (pw q.2.1 q.2.2.1 6 20) = (nn q.2.2.1 * 1048576 + nn q.2.1 / 64) % 4294967296 := pw_n (x := q.2.1) h2 6 20 (by omega) (by omega) (by omega)
  have w2 : nn (pw q.2.2.1 q.2.2.2.1 12 14) = (nn q.2.2.2.1 * 16384 + nn q.2.2.1 / 4096) % 4294967296 := pw_n (x := q.2.2.1) h3 12 14 (by omega) (by omega) (by omega)
  have w3 : nn (pw q.2.2.2.1 q.2.2.2.2 18 8) = (nn q.2.2.2.2 * 256 + nn q.2.2.2.1 / 262144) % 4294967296 := pw_n (x := q.2.2.2.1) h4 18 8 (by omega) (by omega) (by omega)
  rw [← w0, ← w1, ← w2, ← w3] at W
  have b0 : nn (pw q.1 q.2.1 0 26) < 4294967296 := by rw [w0]; exact Nat.mod_lt _ (by omega)
  have b1 : nn (pw q.2.1 q.2.2.1 6 20) < 4294967296 := by rw [w1]; exact Nat.mod_lt _ (by omega)
  have b2 : nn (pw q.2.2.1 q.2.2.2.1 12 14) < 4294967296 := by rw [w2]; exact Nat.mod_lt _ (by omega)
  have b3 : nn (pw q.2.2.2.1 q.2.2.2.2 18 8) < 4294967296 := by rw [w3]; exact Nat.mod_lt _ (by omega)
  have l0 := lt32 g0
  have l1 := lt32 g1
  have l2 := lt32 g2
  have l3 := lt32 g3
  have v1 : nn (pc1 q g0) = nn (pw q.1 q.2.1 0 26) + g0.toBitVec.toNat := by
    unfold pc1
    rw [Int64.zero_add]
    exact n_add rfl (n_w32 g0) (by omega)
  have v2 : nn (pc2 q g0 g1) = nn (pc1 q g0) / 4294967296 + (nn (pw q.2.1 q.2.2.1 6 20) + g1.toBitVec.toNat) := n_add (n_uL rfl 32 (by omega)) (n_add rfl (n_w32 g1) (by omega)) (by rw [v1]; omega)
  have v3 : nn (pc3 q g0 g1 g2) = nn (pc2 q g0 g1) / 4294967296 + (nn (pw q.2.2.1 q.2.2.2.1 12 14) + g2.toBitVec.toNat) := n_add (n_uL rfl 32 (by omega)) (n_add rfl (n_w32 g2) (by omega)) (by rw [v2, v1]; omega)
  have v4 : nn (pc4 q g0 g1 g2 g3) = nn (pc3 q g0 g1 g2) / 4294967296 + (nn (pw q.2.2.2.1 q.2.2.2.2 18 8) + g3.toBitVec.toNat) := n_add (n_uL rfl 32 (by omega)) (n_add rfl (n_w32 g3) (by omega)) (by rw [v3, v2, v1]; omega)
  rw [toI32_n, toI32_n, toI32_n, toI32_n, show (pc1 q g0).toBitVec.toNat = _ from v1, show (pc2 q g0 g1).toBitVec.toNat = _ from v2, show (pc3 q g0 g1 g2).toBitVec.toNat = _ from v3, show (pc4 q g0 g1 g2 g3).toBitVec.toNat = _ from v4, v3, v2, v1]
  have tq : tv q = lv5 (nn q.1) (nn q.2.1) (nn q.2.2.1) (nn q.2.2.2.1) (nn q.2.2.2.2) := rfl
  rw [tq, ← W]
  unfold w4v
  generalize nn (pw q.1 q.2.1 0 26) = x0 at *
  generalize nn (pw q.2.1 q.2.2.1 6 20) = x1 at *
  generalize nn (pw q.2.2.1 q.2.2.2.1 12 14) = x2 at *
  generalize nn (pw q.2.2.2.1 q.2.2.2.2 18 8) = x3 at *
  generalize g0.toBitVec.toNat = y0 at *
  generalize g1.toBitVec.toNat = y1 at *
  generalize g2.toBitVec.toNat = y2 at *
  generalize g3.toBitVec.toNat = y3 at *
  clear W w0 w1 w2 w3 v1 v2 v3 v4 tq
  omega
theorem tgI_it (t k g : Nat → Nat) : ∀ n, tgI t k g n = iter (carryS (fun i => t i + k i) 0) n (0, g)
  | 0 => rfl
  | n + 1 => by
    have ih := tgI_it t k g n
    unfold tgI at ih
    unfold tgI
    rw [iter_s, iter_s, ih]
    generalize iter (carryS (fun i => t i + k i) 0) n (0, g) = q
    unfold tgC carryS
    rw [Nat.zero_add]
/-- the reference's tag, as a number -/
theorem tag_val {t k g : Nat → Nat} (ht : By t) (hk : By k) (hg : By g) : dv (tgI t k g 16).2 16 = (dv t 16 + dv k 16) % 340282366920938463463374607431768211456 := by
  have n16 : (256 : Nat) ^ 16 = 340282366920938463463374607431768211456 := by decide
  have c := carry_dv (fun i => t i + k i) g 16
  rw [← tgI_it, dv_add, n16] at c
  have l := dv16_lt (tgI_B ht hk hg 16).2
  rw [← c, Nat.add_mul_mod_self_right, Nat.mod_eq_of_lt l]
theorem mask_val {su w : Nat → Nat} (hs : By su) {X : Nat → Int32} (hX : ∀ k, k < 8 → (X k).toBitVec.toNat = le4 su (4 * k)) : w4v (X 4) (X 5) (X 6) (X 7) = dv (iter (mkS su) 17 w) 16 := by
  have at' : ∀ n j, n ≤ 16 → iter (mkS su) n w j = if j < n then su (16 + j) else w j := fun n j => by
    induction n with
    | zero => intro _; exact (if_neg (by omega)).symm
    | succ n ih =>
      intro h
      rw [iter_s]
      unfold mkS
      rw [if_neg (by omega)]
      by_cases e : j = n
      · subst e
        rw [updN_s, if_pos (by omega)]
      · rw [updN_n e]
        unfold mkS at ih
        rw [ih (by omega)]
        by_cases q : j < n
        · rw [if_pos q, if_pos (by omega)]
        · rw [if_neg q, if_neg (by omega)]
  have e17 : iter (mkS su) 17 w = iter (mkS su) 16 w := by
    show mkS su 16 (iter (mkS su) 16 w) = _
    unfold mkS
    rw [if_pos (by omega)]
  rw [e17, dv_congr (g := fun j => su (16 + j)) 16 (fun i hi => by rw [at' 16 i (by omega), if_pos hi]), dv_16]
  unfold w4v
  rw [hX 4 (by omega), hX 5 (by omega), hX 6 (by omega), hX 7 (by omega)]
theorem lnS_at (z n : Nat) (c : Nat → Nat) (m j : Nat) : iter (lnS z n) m c j = if j < m then (if 8 ≤ j then byL (nI n).toInt64 (8 * (j - 8)) else byL (nI z).toInt64 (8 * j)) else c j := iter_updN0 (fun i => if 8 ≤ i then byL (nI n).toInt64 (8 * (i - 8)) else byL (nI z).toInt64 (8 * i)) c j m
theorem len_val {z n : Nat} (hz : z ≤ 50000) (hn : n ≤ 50000) (c : Nat → Nat) : dv (lnN z n c) 17 = z + n * 18446744073709551616 + 340282366920938463463374607431768211456 := by
  rw [dv_17]
  have e16 : lnN z n c 16 = 1 := updN_s
  have b : ∀ (m k : Nat), m ≤ 50000 → byL (nI m).toInt64 k = m / 2 ^ k % 256 := fun m k h => by
    unfold byL
    rw [nIl_n (by omega)]
  have lo : ∀ j, j < 8 → lnN z n c j = z / 2 ^ (8 * j) % 256 := fun j hj => by
    unfold lnN
    rw [updN_n (by omega), lnS_at, if_pos (by omega), if_neg (by omega), b _ _ hz]
  have hi : ∀ j, 8 ≤ j → j < 16 → lnN z n c j = n / 2 ^ (8 * (j - 8)) % 256 := fun j h1 h2 => by
    unfold lnN
    rw [updN_n (by omega), lnS_at, if_pos (by omega), if_pos h1, b _ _ hn]
  have d := dv_16 (lnN z n c) 0
  simp only [Nat.zero_add] at d
  rw [e16, show dv (lnN z n c) 16 = dv (fun k => lnN z n c k) 16 from rfl, d]
  unfold le4
  rw [lo 0 (by omega), lo _ (by omega), lo _ (by omega), lo _ (by omega), lo 4 (by omega), lo _ (by omega), lo _ (by omega), lo _ (by omega), hi 8 (by omega) (by omega), hi _ (by omega) (by omega), hi _ (by omega) (by omega), hi _ (by omega) (by omega), hi 12 (by omega) (by omega), hi _ (by omega) (by omega), hi _ (by omega) (by omega), hi _ (by omega) (by omega)]
  simp only [Nat.reduceAdd, Nat.reduceMul, Nat.reduceSub, Nat.reducePow, Nat.mul_zero, Nat.pow_zero, Nat.div_one]
  omega
/-- ChaCha20-Poly1305: the tag of both -/
theorem tagC {wd : Nat → Int32} {su : Nat → Nat} (hs : By su) (hX : ∀ k, k < 8 → (swpI (wd k)).toBitVec.toNat = le4 su (4 * k)) {gb gz ga gd gc gt gw gg : Nat → Nat} (hb : By gb) (hz : By gz) (ha : By ga) (hd : By gd) (hc : By gc) (ht : By gt) (hw : By gw) (hg : By gg) (P : T5)
    {f1 f2 : Nat → Int32} {lz len2 z : Nat} (hr1 : RB f1 lz gz) (hr2 : RB f2 z gt) (hzl : z ≤ len2) (hl1 : lz ≤ 50000) (hl2 : len2 ≤ 50000) :
    htag wd P f1 lz f2 len2 z = st16 (tcG (tcT su gb gz lz ga gd gc gt z) su gw gg) := by
  obtain ⟨kK, kV, kL⟩ := key_val (X := fun k => swpI (wd k)) (b := gb) hs (fun k h => hX k (by omega))
  have bF := tcF_B hs hb
  have s0 : pRel ((0, 0, 0, 0, 0) : T5) (iter nZero 17 ga) := by
    refine ⟨⟨by decide, by decide, by decide, by decide, by decide⟩, ?_, ?_⟩
    · rw [dv_zero 17 (fun i hi => nZero_z ga 17 i hi)]
      decide
    · rw [dv_zero 17 (fun i hi => nZero_z ga 17 i hi)]
      exact pp_pos
  have r1 := prow_rel kK kV kL bF hz hr1 (Nat.le_refl lz) (by omega) (P := P) s0 (nZero_B 17 _ ha) hd hc ((lz + 15) / 16)
  have b1 := tcQ1_B hs hb hz ha hd hc lz
  have b2 := tcQ2_B hs hb hz ha hd hc ht lz z
  generalize hX1 : iter (prow (pkey wd).1 (pkey wd).2.1 (pkey wd).2.2.1 (pkey wd).2.2.2.1 (pkey wd).2.2.2.2 (5 * (pkey wd).1) (5 * (pkey wd).2.1) (5 * (pkey wd).2.2.1) (5 * (pkey wd).2.2.2.1) (5 * (pkey wd).2.2.2.2) f1 lz lz) ((lz + 15) / 16) ((0, 0, 0, 0, 0), P) = X1
  have r1' : pRel X1.1 (tcQ1 su gb gz lz ga gd gc).1 := by
    rw [← hX1]
    exact r1
  have r2 := prow_rel kK kV kL bF ht hr2 hzl (by omega) (P := X1.2) r1' b1.1 b1.2.1 b1.2.2 ((z + 15) / 16)
  have r2' : pRel (hsum (pkey wd) P f1 lz f2 len2 z).1 (tcQ2 su gb gz lz ga gd gc gt z).1 := by
    unfold hsum prowx
    rw [hX1]
    exact r2
  have lv := len_val (z := lz) (n := z) hl1 (by omega) (tcQ2 su gb gz lz ga gd gc gt z).2.2
  have w1 : w4v (swpI (swpI (nI lz))) (swpI 0) (swpI (swpI (nI z))) (swpI 0) = lz + z * 18446744073709551616 := by
    unfold w4v
    rw [swp_swp, swp_swp, show swpI 0 = 0 by decide, pk_tn (by omega), pk_tn (by omega)]
    show lz + 0 * 4294967296 + z * 18446744073709551616 + 0 * 79228162514264337593543950336 = _
    omega
  have fin : pRel (hfin (pkey wd) (hsum (pkey wd) P f1 lz f2 len2 z).1 lz z) (tcT su gb gz lz ga gd gc gt z) :=
    pturn r2' kK kV kL b2.1 bF b2.2.1 (tcC_B hs hb hz ha hd hc ht lz z) (a := swpI (nI lz)) (b := 0) (cc := swpI (nI z)) (dd := 0) (by rw [w1]; exact lv) (by show dv (lnN lz z _) 17 < _; rw [lv]; omega)
  have cK := pcar_LK fin.1
  have cV := (pcar_tv (LB_LP fin.1)).2
  have pr := pred_tv cK
  rw [cV, fin.2.1] at pr
  have bT := tcT_B hs hb hz ha hd hc ht lz z
  have bM := mkS_B hs 17 _ hw
  have m := mask_val (w := gw) hs (X := fun k => swpI (wd k)) hX
  have pv := pc_val pr.1 (swpI (wd 4)) (swpI (wd 5)) (swpI (wd 6)) (swpI (wd 7))
  have tg := tag_val bT bM hg
  have bG := tcG_B bT hs hw hg
  have e17 := dv_17 (tcT su gb gz lz ga gd gc gt z)
  have l16 := dv16_lt bT
  rw [pr.2, show w4v (swpI (wd 4)) (swpI (wd 5)) (swpI (wd 6)) (swpI (wd 7)) = _ from m] at pv
  have low : dv (tcT su gb gz lz ga gd gc gt z) 17 % 340282366920938463463374607431768211456 = dv (tcT su gb gz lz ga gd gc gt z) 16 := by
    rw [e17, Nat.add_mul_mod_self_right, Nat.mod_eq_of_lt l16]
  rw [low, ← tg] at pv
  have d := dv_16 (tcG (tcT su gb gz lz ga gd gc gt z) su gw gg) 0
  simp only [Nat.zero_add] at d
  have pv2 := pv.trans d
  have x1 := lt32 (pc1 (predt (pcart (hfin (pkey wd) (hsum (pkey wd) P f1 lz f2 len2 z).1 lz z))) (swpI (wd 4))).toInt32
  have x2 := lt32 (pc2 (predt (pcart (hfin (pkey wd) (hsum (pkey wd) P f1 lz f2 len2 z).1 lz z))) (swpI (wd 4)) (swpI (wd 5))).toInt32
  have x3 := lt32 (pc3 (predt (pcart (hfin (pkey wd) (hsum (pkey wd) P f1 lz f2 len2 z).1 lz z))) (swpI (wd 4)) (swpI (wd 5)) (swpI (wd 6))).toInt32
  have x4 := lt32 (pc4 (predt (pcart (hfin (pkey wd) (hsum (pkey wd) P f1 lz f2 len2 z).1 lz z))) (swpI (wd 4)) (swpI (wd 5)) (swpI (wd 6)) (swpI (wd 7))).toInt32
  have y1 := le4_lt bG 0
  have y2 := le4_lt bG 4
  have y3 := le4_lt bG 8
  have y4 := le4_lt bG 12
  have fw : ∀ (x : Int64) (k : Nat), x.toInt32.toBitVec.toNat = le4 (tcG (tcT su gb gz lz ga gd gc gt z) su gw gg) k → swpI x.toInt32 = bw (tcG (tcT su gb gz lz ga gd gc gt z) su gw gg) k := fun x k h => by
    rw [eq_n32 (h.trans (mlit_n bG k).symm), ← swp_bw bG, swp_swp]
  unfold htag
  dsimp only
  generalize predt (pcart (hfin (pkey wd) (hsum (pkey wd) P f1 lz f2 len2 z).1 lz z)) = q at *
  rw [fw (pc1 q (swpI (wd 4))) 0 (by omega), fw (pc2 q (swpI (wd 4)) (swpI (wd 5))) 4 (by omega), fw (pc3 q (swpI (wd 4)) (swpI (wd 5)) (swpI (wd 6))) 8 (by omega), fw (pc4 q (swpI (wd 4)) (swpI (wd 5)) (swpI (wd 6)) (swpI (wd 7))) 12 (by omega)]
  rfl

theorem byI_sum (x : Int32) : byI x 0 + byI x 8 * 256 + byI x 16 * 65536 + byI x 24 * 16777216 = x.toBitVec.toNat := by
  have := lt32 x
  unfold byI
  omega
/-- the one-time key's words and bytes -/
theorem otk {sr sa bl : Nat → Int32} {gk no : Nat → Nat} (h : SR sr gk) (hn : By no) {N : Nat → Int32} (hN : N 0 = bw no 0 ∧ N 1 = bw no 4 ∧ N 2 = bw no 8) (w t : Nat → Int32) (u : Nat → Nat) {k : Nat} (hk : k < 8) :
    (swpI ((cblk N 0 (sr, sa, bl)).2.2 k)).toBitVec.toNat = le4 (ccN gk no 0 w t u) (4 * k) := by
  rw [(cblk_eq (sa := sa) (bl := bl) h hn 0 hN).2 k (by omega), swp_swp]
  unfold le4
  rw [ccN_eq _ _ _ _ _ _ (by omega), ccN_eq _ _ _ _ _ _ (by omega), ccN_eq _ _ _ _ _ _ (by omega), ccN_eq _ _ _ _ _ _ (by omega)]
  unfold sbX
  rw [show (4 * k) / 4 = k by omega, show (4 * k + 1) / 4 = k by omega, show (4 * k + 2) / 4 = k by omega, show (4 * k + 3) / 4 = k by omega, show 4 * k % 4 = 0 by omega, show (4 * k + 1) % 4 = 1 by omega, show (4 * k + 2) % 4 = 2 by omega, show (4 * k + 3) % 4 = 3 by omega]
  exact (byI_sum _).symm
/-! small calls -/
theorem RB.mono {f : Nat → Int32} {n m : Nat} {g : Nat → Nat} (h : RB f n g) (hm : m ≤ n) : RB f m g := fun j hj => h j (by omega)
theorem RB.eqs {f f' : Nat → Int32} {n : Nat} {g g' : Nat → Nat} (h : RB f n g) (hf : ∀ j, j < n → f' j = f j) (hg : ∀ j, j < n → g' j = g j) : RB f' n g' := fun j hj => by rw [hf j hj, hg j hj, h j hj]
theorem fdS_at (a b c d e : Int32) (z : Nat) (g : Nat → Nat) (n j : Nat) : iter (fdS a b c d e z) n g j = if z ≤ j ∧ j < z + n then (if 4 ≤ j - z then if 8 ≤ j - z then if 12 ≤ j - z then if 16 ≤ j - z then byI e (8 * (3 - (j - z) % 4)) else byI d (8 * (3 - (j - z) % 4)) else byI c (8 * (3 - (j - z) % 4)) else byI b (8 * (3 - (j - z) % 4)) else byI a (8 * (3 - (j - z) % 4))) else g j :=
  iter_updN (fun i => if 4 ≤ i then if 8 ≤ i then if 12 ≤ i then if 16 ≤ i then byI e (8 * (3 - i % 4)) else byI d (8 * (3 - i % 4)) else byI c (8 * (3 - i % 4)) else byI b (8 * (3 - i % 4)) else byI a (8 * (3 - i % 4))) z g j n
/-- feed -/
theorem feed_RB {f nf : Nat → Int32} {len cp : Nat} {g : Nat → Nat} (hr : RB f len g) (hf : ∀ j, j < cp → nf j = f j) (hc : len ≤ cp) (hl : len ≤ 50000) (a b c d e : Int32) : RB (feed5 nf (len + 20) len a b c d e) (len + 20) (iter (fdS a b c d e len) 20 g) := fun j hj => by
  unfold feed5
  rw [rsetw_and _ _ (by omega) (by omega), rsetw_and _ _ (by omega) (by omega), rsetw_and _ _ (by omega) (by omega), rsetw_and _ _ (by omega) (by omega), rsetw_and _ _ (by omega) (by omega), fdS_at]
  by_cases c4 : len + 16 ≤ j
  · rw [if_pos (by omega), if_pos (show len ≤ j ∧ j < len + 20 by omega), if_pos (by omega), if_pos (by omega), if_pos (by omega), if_pos (by omega), show 24 - 8 * (j - (len + 16)) = 8 * (3 - (j - len) % 4) by omega]
  · rw [if_neg (by omega)]
    by_cases c3 : len + 12 ≤ j
    · rw [if_pos (by omega), if_pos (show len ≤ j ∧ j < len + 20 by omega), if_pos (by omega), if_pos (by omega), if_pos (by omega), if_neg (by omega), show 24 - 8 * (j - (len + 12)) = 8 * (3 - (j - len) % 4) by omega]
    · rw [if_neg (by omega)]
      by_cases c2 : len + 8 ≤ j
      · rw [if_pos (by omega), if_pos (show len ≤ j ∧ j < len + 20 by omega), if_pos (by omega), if_pos (by omega), if_neg (by omega), show 24 - 8 * (j - (len + 8)) = 8 * (3 - (j - len) % 4) by omega]
      · rw [if_neg (by omega)]
        by_cases c1 : len + 4 ≤ j
        · rw [if_pos (by omega), if_pos (show len ≤ j ∧ j < len + 20 by omega), if_pos (by omega), if_neg (by omega), show 24 - 8 * (j - (len + 4)) = 8 * (3 - (j - len) % 4) by omega]
        · rw [if_neg (by omega)]
          by_cases c0 : len ≤ j
          · rw [if_pos (by omega), if_pos (show len ≤ j ∧ j < len + 20 by omega), if_neg (by omega), show 24 - 8 * (j - len) = 8 * (3 - (j - len) % 4) by omega]
          · rw [if_neg (by omega), if_neg (by omega), hf j (by omega), hr j (by omega)]
theorem bkS_at (bx : Nat → Nat) (v : Int32) (at0 : Nat) (g : Nat → Nat) (n j : Nat) : iter (bkS bx v at0) n g j = if j < n then bx j ^^^ (if j = at0 then byI v 0 else 0) else g j := iter_updN0 (fun i => bx i ^^^ (if i = at0 then byI v 0 else 0)) g j n
/-- back, with a byte changed or without -/
theorem back_RB {f nf : Nat → Int32} {len i : Nat} {bx g : Nat → Nat} (hb : By bx) (hr : RB f len bx) (hf : ∀ j, j < len → nf j = f j) (hi : i < len) (hl : len ≤ 50000) (v : Int32) : RB (rset nf len (nI i) (rget nf len (nI i) ^^^ v)) len (iter (bkS bx v i) len g) := fun j hj => by
  have hr' : RB nf len bx := hr.eqs hf (fun _ _ => rfl)
  rw [rset_and _ _ hi (by omega), bkS_at, if_pos hj]
  by_cases e : j = i
  · subst e
    rw [if_pos rfl, if_pos rfl, rget_eq hr' hi (by omega), and_xor255, nI_255 (hb _), sb_by0]
    exact sb_xor rfl rfl
  · rw [if_neg e, if_neg e, Nat.xor_zero, hr' j hj]
theorem backM_RB {f nf : Nat → Int32} {len : Nat} {bx g : Nat → Nat} (hr : RB f len bx) (hf : ∀ j, j < len → nf j = f j) (hl : len ≤ 50000) (v : Int32) : RB nf len (iter (bkS bx v 98816) len g) := fun j hj => by
  rw [bkS_at, if_pos hj, if_neg (by omega), Nat.xor_zero, hf j hj, hr j hj]
theorem beside_RB {f nf : Nat → Int32} {len : Nat} {gt gz : Nat → Nat} (hr : RB f len gt) (hf : ∀ j, j < len → nf j = f j) : RB nf len (iter (nCpy gt) len gz) := hr.eqs hf (fun j hj => by rw [nCpy_at, if_pos hj])
theorem iv_bw {f : Nat → Int32} {g gi : Nat → Nat} (hr : RB f 12 g) (hg : By g) (a : Nat) (ha : a + 4 ≤ 12) : rword f 12 a 12 = bw (iter (nCpy g) 12 gi) a := by
  rw [rword_eq hr hg (Nat.le_refl _) (by omega)]
  have e : ∀ j, j < 12 → xg g 12 j = iter (nCpy g) 12 gi j := fun j hj => by rw [nCpy_at, if_pos hj, xg_in hj]
  exact bw_congr (e _ (by omega)) (e _ (by omega)) (e _ (by omega)) (e _ (by omega))
