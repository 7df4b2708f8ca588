/-! Poly1305, pure: numbers modulo 2^130 - 5 -/
def pP : Nat := 1361129467683753853853498429727072845819
def lv5 (a b c d e : Nat) : Nat := a + b * 67108864 + c * 4503599627370496 + d * 302231454903657293676544 + e * 20282409603651670423947251286016
theorem p_mul (s0 s1 s2 s3 s4 k0 k1 k2 k3 k4 : Nat) :
    lv5 (s0 * k0 + s1 * (5 * k4) + s2 * (5 * k3) + s3 * (5 * k2) + s4 * (5 * k1)) (s0 * k1 + s1 * k0 + s2 * (5 * k4) + s3 * (5 * k3) + s4 * (5 * k2)) (s0 * k2 + s1 * k1 + s2 * k0 + s3 * (5 * k4) + s4 * (5 * k3))
      (s0 * k3 + s1 * k2 + s2 * k1 + s3 * k0 + s4 * (5 * k4)) (s0 * k4 + s1 * k3 + s2 * k2 + s3 * k1 + s4 * k0) +
    pP * (s1 * k4 + s2 * k3 + s3 * k2 + s4 * k1 + (s2 * k4 + s3 * k3 + s4 * k2) * 67108864 + (s3 * k4 + s4 * k3) * 4503599627370496 + s4 * k4 * 302231454903657293676544) = lv5 s0 s1 s2 s3 s4 * lv5 k0 k1 k2 k3 k4 := by
  unfold lv5 pP
  grind
theorem p_mulm (s0 s1 s2 s3 s4 k0 k1 k2 k3 k4 : Nat) :
    lv5 (s0 * k0 + s1 * (5 * k4) + s2 * (5 * k3) + s3 * (5 * k2) + s4 * (5 * k1)) (s0 * k1 + s1 * k0 + s2 * (5 * k4) + s3 * (5 * k3) + s4 * (5 * k2)) (s0 * k2 + s1 * k1 + s2 * k0 + s3 * (5 * k4) + s4 * (5 * k3))
      (s0 * k3 + s1 * k2 + s2 * k1 + s3 * k0 + s4 * (5 * k4)) (s0 * k4 + s1 * k3 + s2 * k2 + s3 * k1 + s4 * k0) % pP = lv5 s0 s1 s2 s3 s4 * lv5 k0 k1 k2 k3 k4 % pP := by
  rw [← p_mul, Nat.add_mul_mod_self_left]
/-- the words of a block, cut into limbs -/
theorem p_limbs {a b c d : Nat} (ha : a < 4294967296) (hb : b < 4294967296) (hc : c < 4294967296) (hd : d < 4294967296) :
    lv5 (a % 67108864) ((b * 4294967296 + a) / 67108864 % 67108864) ((c * 4294967296 + b) / 1048576 % 67108864) ((d * 4294967296 + c) / 16384 % 67108864) (d / 256) = a + b * 4294967296 + c * 18446744073709551616 + d * 79228162514264337593543950336 := by
  unfold lv5
  omega
/-- carrying keeps the number modulo the prime -/
theorem p_carry (a0 a1 a2 a3 a4 : Nat) {l1 l2 l3 l4 o r : Nat} (h1 : l1 = a1 + a0 / 67108864) (h2 : l2 = a2 + l1 / 67108864) (h3 : l3 = a3 + l2 / 67108864) (h4 : l4 = a4 + l3 / 67108864) (ho : o = l4 / 67108864) (hr : r = a0 % 67108864 + 5 * o) :
    lv5 (r % 67108864) (l1 % 67108864 + r / 67108864) (l2 % 67108864) (l3 % 67108864) (l4 % 67108864) + pP * o = lv5 a0 a1 a2 a3 a4 := by
  unfold lv5 pP
  omega
/-- digits -/
def dv (f : Nat → Nat) : Nat → Nat
  | 0 => 0
  | n + 1 => dv f n + f n * 256 ^ n
def cyc (a : Nat → Nat) : Nat → Nat
  | 0 => 0
  | n + 1 => (cyc a n + a n) / 256
theorem dv_carry (a : Nat → Nat) : ∀ n, dv (fun i => (cyc a i + a i) % 256) n + cyc a n * 256 ^ n = dv a n
  | 0 => by simp [dv, cyc]
  | n + 1 => by
    show dv (fun i => (cyc a i + a i) % 256) n + (cyc a n + a n) % 256 * 256 ^ n + (cyc a n + a n) / 256 * 256 ^ (n + 1) = dv a n + a n * 256 ^ n
    have h := dv_carry a n
    have e : (cyc a n + a n) % 256 * 256 ^ n + (cyc a n + a n) / 256 * 256 ^ (n + 1) = cyc a n * 256 ^ n + a n * 256 ^ n := by
      rw [← Nat.add_mul, Nat.pow_succ, Nat.mul_comm (256 ^ n) 256, ← Nat.mul_assoc, ← Nat.add_mul, Nat.mul_comm ((cyc a n + a n) / 256) 256, Nat.mod_add_div]
    omega
theorem dv_congr {f g : Nat → Nat} : ∀ n, (∀ i, i < n → f i = g i) → dv f n = dv g n
  | 0, _ => rfl
  | n + 1, h => by
    show dv f n + f n * 256 ^ n = dv g n + g n * 256 ^ n
    rw [dv_congr n (fun i hi => h i (by omega)), h n (by omega)]
theorem dv_lt {f : Nat → Nat} : ∀ n, (∀ i, i < n → f i < 256) → dv f n < 256 ^ n
  | 0, _ => by simp [dv]
  | n + 1, h => by
    have h1 := dv_lt n (fun i hi => h i (by omega))
    have h2 := h n (by omega)
    have h3 : f n * 256 ^ n ≤ 255 * 256 ^ n := Nat.mul_le_mul_right _ (by omega)
    show dv f n + f n * 256 ^ n < 256 ^ (n + 1)
    rw [Nat.pow_succ]
    omega
