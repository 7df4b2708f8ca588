/-! GHASH, pure: a hash is 128 bits; the highest bit is the lowest power -/
def gR : BitVec 128 := 0xE1000000000000000000000000000000#128
def gC (b : Bool) : BitVec 128 := bif b then gR else 0#128
def gM (v : BitVec 128) : BitVec 128 := v >>> 1 ^^^ gC (v.getLsbD 0)
def gV (H : BitVec 128) : Nat → BitVec 128
  | 0 => H
  | n + 1 => gM (gV H n)
def gB (b : Bool) (v : BitVec 128) : BitVec 128 := bif b then v else 0#128
def gS (H : BitVec 128) (b : Nat → Bool) : Nat → BitVec 128
  | 0 => 0#128
  | n + 1 => gS H b n ^^^ gB (b n) (gV H n)
theorem gC_xor (p q : Bool) : gC (p ^^ q) = gC p ^^^ gC q := by cases p <;> cases q <;> decide
theorem xo4 (x y p q : BitVec 128) : x ^^^ y ^^^ (p ^^^ q) = x ^^^ p ^^^ (y ^^^ q) := by
  apply BitVec.eq_of_getLsbD_eq
  intro i hi
  simp only [BitVec.getLsbD_xor]
  cases x.getLsbD i <;> cases y.getLsbD i <;> cases p.getLsbD i <;> cases q.getLsbD i <;> rfl
theorem gM_xor (u v : BitVec 128) : gM (u ^^^ v) = gM u ^^^ gM v := by
  unfold gM
  rw [BitVec.ushiftRight_xor_distrib, BitVec.getLsbD_xor, gC_xor, xo4]
theorem gM_0 : gM 0#128 = 0#128 := by decide
theorem gM_B (b : Bool) (v : BitVec 128) : gM (gB b v) = gB b (gM v) := by cases b <;> first | rfl | exact gM_0
theorem gS_first (H : BitVec 128) (b : Nat → Bool) : ∀ n, gS H b (n + 1) = gB (b 0) H ^^^ gM (gS H (fun k => b (k + 1)) n)
  | 0 => by
    show 0#128 ^^^ gB (b 0) H = gB (b 0) H ^^^ gM 0#128
    rw [gM_0, BitVec.zero_xor, BitVec.xor_zero]
  | n + 1 => by
    show gS H b (n + 1) ^^^ gB (b (n + 1)) (gM (gV H n)) = gB (b 0) H ^^^ gM (gS H (fun k => b (k + 1)) n ^^^ gB (b (n + 1)) (gV H n))
    rw [gS_first H b n, gM_xor, gM_B, BitVec.xor_assoc]
theorem gS_four (H : BitVec 128) (b : Nat → Bool) (n : Nat) : gS H b (n + 4) =
    (gB (b 0) H ^^^ gB (b 1) (gM H) ^^^ gB (b 2) (gM (gM H)) ^^^ gB (b 3) (gM (gM (gM H)))) ^^^ gM (gM (gM (gM (gS H (fun k => b (k + 4)) n)))) := by
  rw [gS_first, gS_first, gS_first, gS_first]
  simp only [gM_xor, gM_B, BitVec.xor_assoc]
theorem gS_congr {H : BitVec 128} {a b : Nat → Bool} : ∀ n, (∀ k, k < n → a k = b k) → gS H a n = gS H b n
  | 0, _ => rfl
  | n + 1, h => by
    show gS H a n ^^^ gB (a n) (gV H n) = gS H b n ^^^ gB (b n) (gV H n)
    rw [gS_congr n (fun k hk => h k (by omega)), h n (by omega)]
theorem gR_low : ∀ i, i < 120 → gR.getLsbD i = false := by decide +kernel
theorem gC_low (b : Bool) (i : Nat) (h : i < 120) : (gC b).getLsbD i = false := by
  cases b
  · simp [gC]
  · exact gR_low i h
theorem gM_low (v : BitVec 128) (i : Nat) (h : i < 120) : (gM v).getLsbD i = v.getLsbD (1 + i) := by
  unfold gM
  rw [BitVec.getLsbD_xor, gC_low _ _ h, BitVec.getLsbD_ushiftRight, Bool.xor_false]
theorem gM_four (v : BitVec 128) : gM (gM (gM (gM v))) = v >>> 4 ^^^ ((((gC (v.getLsbD 0)) >>> 3 ^^^ (gC (v.getLsbD 1)) >>> 2) ^^^ (gC (v.getLsbD 2)) >>> 1) ^^^ gC (v.getLsbD 3)) := by
  have h1 : (gM v).getLsbD 0 = v.getLsbD 1 := gM_low v 0 (by omega)
  have h2 : (gM (gM v)).getLsbD 0 = v.getLsbD 2 := by rw [gM_low _ 0 (by omega), gM_low _ _ (by omega)]
  have h3 : (gM (gM (gM v))).getLsbD 0 = v.getLsbD 3 := by rw [gM_low _ 0 (by omega), gM_low _ _ (by omega), gM_low _ _ (by omega)]
  rw [gM, h3, gM, h2, gM, h1, gM]
  simp only [BitVec.ushiftRight_xor_distrib, ← BitVec.shiftRight_add, BitVec.xor_assoc]
/-- two halves -/
def gcat (hi lo : BitVec 64) : BitVec 128 := hi ++ lo
theorem gcat_bit (hi lo : BitVec 64) (i : Nat) : (gcat hi lo).getLsbD i = if i < 64 then lo.getLsbD i else hi.getLsbD (i - 64) := BitVec.getLsbD_append
theorem gcat_lo (hi lo : BitVec 64) (i : Nat) (h : i < 64) : (gcat hi lo).getLsbD i = lo.getLsbD i := by rw [gcat_bit, if_pos h]
theorem gcat_xor (a b c d : BitVec 64) : gcat a b ^^^ gcat c d = gcat (a ^^^ c) (b ^^^ d) := by
  apply BitVec.eq_of_getLsbD_eq
  intro i _
  simp only [BitVec.getLsbD_xor, gcat_bit]
  by_cases h : i < 64 <;> simp [h]
theorem gcat_inj {a b c d : BitVec 64} (h : gcat a b = gcat c d) : a = c ∧ b = d := by
  constructor
  · apply BitVec.eq_of_getLsbD_eq
    intro i hi
    have := congrArg (fun v => BitVec.getLsbD v (i + 64)) h
    simpa [gcat_bit, show ¬ i + 64 < 64 by omega] using this
  · apply BitVec.eq_of_getLsbD_eq
    intro i hi
    have := congrArg (fun v => BitVec.getLsbD v i) h
    simpa [gcat_bit, hi] using this
theorem gcat_shr4 (hi lo : BitVec 64) : gcat hi lo >>> 4 = gcat (hi >>> 4) (lo >>> 4 ||| hi <<< 60) := by
  apply BitVec.eq_of_getLsbD_eq
  intro i h
  simp only [BitVec.getLsbD_ushiftRight, gcat_bit, BitVec.getLsbD_or, BitVec.getLsbD_shiftLeft]
  rcases Nat.lt_or_ge i 60 with h1 | h1
  · rw [if_pos (show 4 + i < 64 by omega), if_pos (show i < 64 by omega)]
    simp [h1]
  · rcases Nat.lt_or_ge i 64 with h2 | h2
    · rw [if_neg (show ¬ 4 + i < 64 by omega), if_pos h2, BitVec.getLsbD_of_ge lo (4 + i) (by omega)]
      simp [h2, show ¬ i < 60 by omega, show 4 + i - 64 = i - 60 by omega]
    · rw [if_neg (show ¬ 4 + i < 64 by omega), if_neg (show ¬ i < 64 by omega), show 4 + i - 64 = 4 + (i - 64) by omega]
theorem gcat_shr1 (hi lo : BitVec 64) : gcat hi lo >>> 1 = gcat (hi >>> 1) (lo >>> 1 ||| hi <<< 63) := by
  apply BitVec.eq_of_getLsbD_eq
  intro i h
  simp only [BitVec.getLsbD_ushiftRight, gcat_bit, BitVec.getLsbD_or, BitVec.getLsbD_shiftLeft]
  rcases Nat.lt_or_ge i 63 with h1 | h1
  · rw [if_pos (show 1 + i < 64 by omega), if_pos (show i < 64 by omega)]
    simp [h1]
  · rcases Nat.lt_or_ge i 64 with h2 | h2
    · rw [if_neg (show ¬ 1 + i < 64 by omega), if_pos h2, BitVec.getLsbD_of_ge lo (1 + i) (by omega)]
      simp [h2, show ¬ i < 63 by omega, show 1 + i - 64 = i - 63 by omega]
    · rw [if_neg (show ¬ 1 + i < 64 by omega), if_neg (show ¬ i < 64 by omega), show 1 + i - 64 = 1 + (i - 64) by omega]
/-- what falls out of a shift by four comes back: FOLD's sixteen -/
def gFo (p q r t : Bool) : BitVec 128 := (((gC p) >>> 3 ^^^ (gC q) >>> 2) ^^^ (gC r) >>> 1) ^^^ gC t
theorem gM_fourP (hi lo : BitVec 64) : gM (gM (gM (gM (gcat hi lo)))) = gcat (hi >>> 4) (lo >>> 4 ||| hi <<< 60) ^^^ gFo (lo.getLsbD 0) (lo.getLsbD 1) (lo.getLsbD 2) (lo.getLsbD 3) := by
  rw [gM_four, gcat_shr4, gcat_lo _ _ 0 (by omega), gcat_lo _ _ 1 (by omega), gcat_lo _ _ 2 (by omega), gcat_lo _ _ 3 (by omega)]
  rfl
theorem gM_one (hi lo : BitVec 64) : gM (gcat hi lo) = gcat (hi >>> 1 ^^^ (bif lo.getLsbD 0 then 0xE100000000000000#64 else 0#64)) (lo >>> 1 ||| hi <<< 63) := by
  unfold gM
  rw [gcat_shr1, gcat_lo _ _ 0 (by omega), show gC (lo.getLsbD 0) = gcat (bif lo.getLsbD 0 then 0xE100000000000000#64 else 0#64) 0#64 by cases lo.getLsbD 0 <;> decide, gcat_xor, BitVec.xor_zero]
