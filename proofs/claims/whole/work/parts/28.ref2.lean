/-! the reference's Poly1305, purely: digits of 8 bits -/
theorem sb_or6 {x y : Int32} {a b : Nat} (hx : x = nI a) (hy : y = nI (b * 64)) (ha : a < 64) : x ||| y = nI (a + b * 64) := by
  rw [sb_or hx hy, Nat.or_comm, Nat.mul_comm, ← Nat.two_pow_add_eq_or_of_lt (i := 6) ha, Nat.add_comm]
theorem ite_lt {c : Prop} [Decidable c] {a b n : Nat} (ha : a < n) (hb : b < n) : (if c then a else b) < n := by split <;> assumption
theorem and252 : ∀ n, n < 256 → nI n &&& 252 = nI (n / 4 * 4) := by decide +kernel
theorem sb_and252 {x : Int32} {a : Nat} (hx : x = nI a) (ha : a < 256) : x &&& 252 = nI (a / 4 * 4) := by rw [hx]; exact and252 a ha
theorem mul_b {a b : Nat} (ha : a < 256) (hb : b < 256) : a * b ≤ 65025 := Nat.mul_le_mul (show a ≤ 255 by omega) (show b ≤ 255 by omega)
abbrev C2 : Type := Nat × (Nat → Nat)
def aS (t c : Nat → Nat) (i : Nat) (q : C2) : C2 := ((q.1 + (t i + c i)) / 256, updN q.2 i ((q.1 + (t i + c i)) % 256))
/-- a sum, digit by digit, in its own place -/
def aT (c : Nat → Nat) (i : Nat) (q : C2) : C2 := ((q.1 + (q.2 i + c i)) / 256, updN q.2 i ((q.1 + (q.2 i + c i)) % 256))
def qB (q : C2) : Prop := q.1 < 256 ∧ By q.2
theorem aT_B {c : Nat → Nat} (hc : By c) (i : Nat) {q : C2} (h : qB q) : qB (aT c i q) :=
  ⟨show (q.1 + (q.2 i + c i)) / 256 < 256 by have := h.1; have := h.2 i; have := hc i; omega, h.2.u (Nat.mod_lt _ (by omega))⟩
theorem aT_Bi {c t : Nat → Nat} (hc : By c) (ht : By t) (i : Nat) : qB (iter (aT c) i (0, t)) := iter_P (P := qB) (fun i _ h => aT_B hc i h) i _ ⟨show 0 < 256 by omega, ht⟩
def pS (t f : Nat → Nat) (i k : Nat) (q : C2) : C2 := ((q.1 + (q.2 (i + k) + t i * f k)) / 256, updN q.2 (i + k) ((q.1 + (q.2 (i + k) + t i * f k)) % 256))
theorem pS_B {t f : Nat → Nat} (ht : By t) (hf : By f) (i k : Nat) {q : C2} (h : qB q) : qB (pS t f i k q) :=
  ⟨show (q.1 + (q.2 (i + k) + t i * f k)) / 256 < 256 by have := h.1; have := h.2 (i + k); have := mul_b (ht i) (hf k); omega, h.2.u (Nat.mod_lt _ (by omega))⟩
def pI (t f p : Nat → Nat) (i k : Nat) : C2 := iter (pS t f i) k (0, p)
theorem pI_B {t f p : Nat → Nat} (ht : By t) (hf : By f) (hp : By p) (i k : Nat) : qB (pI t f p i k) := iter_P (P := qB) (fun k _ h => pS_B ht hf i k h) k _ ⟨show 0 < 256 by omega, hp⟩
theorem pI_hi {t f p : Nat → Nat} (i : Nat) {j : Nat} : ∀ k, i + k ≤ j → (pI t f p i k).2 j = p j
  | 0, _ => rfl
  | k + 1, h => by
    show updN (pI t f p i k).2 (i + k) _ j = p j
    rw [updN_n (by omega), pI_hi i k (by omega)]
/-- one pass: a digit times the factor, added in -/
def pPass (t f : Nat → Nat) (i : Nat) (p : Nat → Nat) : Nat → Nat :=
  if (pI t f p i 17).1 ≤ 0 then (pI t f p i 17).2 else updN (pI t f p i 17).2 (i + 17) (((pI t f p i 17).1 + ((pI t f p i 17).2 (i + 17) + 0)) % 256)
theorem pPass_T {t f p : Nat → Nat} {i : Nat} (h : (pI t f p i 17).1 ≤ 0) : pPass t f i p = (pI t f p i 17).2 := if_pos h
theorem pPass_F {t f p : Nat → Nat} {i : Nat} (h : ¬ (pI t f p i 17).1 ≤ 0) : pPass t f i p = updN (pI t f p i 17).2 (i + 17) (((pI t f p i 17).1 + ((pI t f p i 17).2 (i + 17) + 0)) % 256) := if_neg h
def pZ (i : Nat) (p : Nat → Nat) : Prop := By p ∧ ∀ j, i + 17 ≤ j → j < 40 → p j = 0
theorem pPass_Z {t f : Nat → Nat} (ht : By t) (hf : By f) (i : Nat) {p : Nat → Nat} (h : pZ i p) : pZ (i + 1) (pPass t f i p) := by
  have hb := pI_B ht hf h.1 i 17
  unfold pPass
  split
  · exact ⟨hb.2, fun j h1 h2 => by rw [pI_hi i 17 (by omega)]; exact h.2 j (by omega) h2⟩
  · refine ⟨hb.2.u (Nat.mod_lt _ (by omega)), fun j h1 h2 => ?_⟩
    rw [updN_n (by omega), pI_hi i 17 (by omega)]
    exact h.2 j (by omega) h2
theorem nZero_z (p : Nat → Nat) : ∀ n j, j < n → iter nZero n p j = 0
  | 0, _, h => absurd h (by omega)
  | n + 1, j, h => by
    show updN (iter nZero n p) n 0 j = 0
    by_cases e : j = n
    · rw [e, updN_s]
    · rw [updN_n e, nZero_z p n j (by omega)]
def pPs (t f p : Nat → Nat) (i : Nat) : Nat → Nat := iter (pPass t f) i (iter nZero 40 p)
theorem pPs_Z {t f p : Nat → Nat} (ht : By t) (hf : By f) (hp : By p) : ∀ i, pZ i (pPs t f p i)
  | 0 => ⟨nZero_B 40 _ hp, fun j _ h => nZero_z p 40 j h⟩
  | i + 1 => pPass_Z ht hf i (pPs_Z ht hf hp i)
/-- what lies above 130 bits comes back times 5 -/
def rS (p : Nat → Nat) (i : Nat) (q : C2) : C2 :=
  ((q.1 + ((if i = 16 then p 16 % 4 else p i) + 5 * (p (16 + i) / 4 + p (17 + i) % 4 * 64))) / 256, updN q.2 i ((q.1 + ((if i = 16 then p 16 % 4 else p i) + 5 * (p (16 + i) / 4 + p (17 + i) % 4 * 64))) % 256))
theorem rS_B {p : Nat → Nat} (hp : By p) (i : Nat) {q : C2} (h : qB q) : qB (rS p i q) := by
  refine ⟨?_, h.2.u (Nat.mod_lt _ (by omega))⟩
  show (q.1 + ((if i = 16 then p 16 % 4 else p i) + 5 * (p (16 + i) / 4 + p (17 + i) % 4 * 64))) / 256 < 256
  have h0 : (if i = 16 then p 16 % 4 else p i) < 256 := ite_lt (by omega) (hp i)
  have := h.1
  have := hp (16 + i)
  omega
def rI (p t : Nat → Nat) (i : Nat) : C2 := iter (rS p) i (0, t)
theorem rI_B {p t : Nat → Nat} (hp : By p) (ht : By t) (i : Nat) : qB (rI p t i) := iter_P (P := qB) (fun i _ h => rS_B hp i h) i _ ⟨show 0 < 256 by omega, ht⟩
def rC (t : Nat → Nat) (i : Nat) (p : Nat → Nat) : Nat → Nat := updN p i (if 17 ≤ i then 0 else t i)
theorem rC_B {t : Nat → Nat} (ht : By t) (n : Nat) (p : Nat → Nat) (h : By p) : By (iter (rC t) n p) := iter_P (fun i _ ha => ha.u (ite_lt (by omega) (ht i))) n p h
def redS (_ : Nat) (q : N2) : N2 := ((rI q.2 q.1 17).2, iter (rC (rI q.2 q.1 17).2) 40 q.2)
def redI (t p : Nat → Nat) (i : Nat) : N2 := iter redS i (t, p)
theorem redI_B {t p : Nat → Nat} (ht : By t) (hp : By p) (i : Nat) : By (redI t p i).1 ∧ By (redI t p i).2 :=
  iter_P (P := fun q : N2 => By q.1 ∧ By q.2) (fun _ _ h => ⟨(rI_B h.2 h.1 17).2, rC_B (rI_B h.2 h.1 17).2 40 _ h.2⟩) i _ ⟨ht, hp⟩
def abS (t : Nat → Nat) (i : Nat) (a : Nat) : Nat := if t (1 + i) = 255 then a else 0
theorem abS_0 (t : Nat → Nat) : ∀ n, iter (abS t) n 0 = 0
  | 0 => rfl
  | n + 1 => by
    show abS t n (iter (abS t) n 0) = 0
    rw [abS_0 t n]
    unfold abS
    split <;> rfl
theorem abS_1 (t : Nat → Nat) : ∀ n, iter (abS t) n 1 < 2
  | 0 => show 1 < 2 by omega
  | n + 1 => by
    show (if t (1 + n) = 255 then iter (abS t) n 1 else 0) < 2
    exact ite_lt (abS_1 t n) (by omega)
def nZ1 (i : Nat) (g : Nat → Nat) : Nat → Nat := updN g (1 + i) 0
def pSub (t : Nat → Nat) : Nat → Nat := iter nZ1 16 (updN t 0 (t 0 - 251))
def pFin (t : Nat → Nat) : Nat → Nat := if t 16 = 3 then (if t 0 < 251 then t else if iter (abS t) 15 1 = 0 then t else pSub t) else t
theorem pFin_B {t : Nat → Nat} (ht : By t) : By (pFin t) := by
  unfold pFin
  split
  · split
    · exact ht
    · split
      · exact ht
      · exact iter_P (fun _ _ ha => ha.u (by decide)) 16 _ (ht.u (by have := ht 0; omega))
  · exact ht
def pT1 (a c : Nat → Nat) : Nat → Nat := (iter (aT c) 17 (0, a)).2
theorem pT1_B {a c : Nat → Nat} (ha : By a) (hc : By c) : By (pT1 a c) := (aT_Bi hc ha 17).2
def pRed (a b d c : Nat → Nat) (i : Nat) : N2 := redI (pT1 a c) (pPs (pT1 a c) b d 17) i
def polyT (a b d c : Nat → Nat) : Nat → Nat := pFin (pRed a b d c 4).1
def polyD (a b d c : Nat → Nat) : Nat → Nat := (pRed a b d c 4).2
theorem pRed_B {a b d c : Nat → Nat} (ha : By a) (hb : By b) (hd : By d) (hc : By c) (i : Nat) : By (pRed a b d c i).1 ∧ By (pRed a b d c i).2 := redI_B (pT1_B ha hc) (pPs_Z (pT1_B ha hc) hb hd 17).1 i
theorem polyT_B {a b d c : Nat → Nat} (ha : By a) (hb : By b) (hd : By d) (hc : By c) : By (polyT a b d c) := pFin_B (pRed_B ha hb hd hc 4).1
theorem polyD_B {a b d c : Nat → Nat} (ha : By a) (hb : By b) (hd : By d) (hc : By c) : By (polyD a b d c) := (pRed_B ha hb hd hc 4).2
/-- a row, 16 bytes a turn -/
def chS (g : Nat → Nat) (z b i : Nat) (c : Nat → Nat) : Nat → Nat := updN c i (if z ≤ b + i then 0 else g (b + i))
theorem chS_B {g : Nat → Nat} (hg : By g) (z b n : Nat) (c : Nat → Nat) (h : By c) : By (iter (chS g z b) n c) := iter_P (fun i _ ha => ha.u (ite_lt (by omega) (hg _))) n c h
abbrev N3 : Type := (Nat → Nat) × (Nat → Nat) × (Nat → Nat)
def chN (g : Nat → Nat) (z b : Nat) (c : Nat → Nat) : Nat → Nat := updN (iter (chS g z b) 16 c) 16 1
theorem chN_B {g : Nat → Nat} (hg : By g) (z b : Nat) {c : Nat → Nat} (h : By c) : By (chN g z b c) := (chS_B hg z b 16 c h).u (by omega)
def plS (f g : Nat → Nat) (z i : Nat) (q : N3) : N3 := (polyT q.1 f q.2.1 (chN g z (16 * i) q.2.2), polyD q.1 f q.2.1 (chN g z (16 * i) q.2.2), chN g z (16 * i) q.2.2)
def plI (f g : Nat → Nat) (z i : Nat) (q : N3) : N3 := iter (plS f g z) i q
def B3 (q : N3) : Prop := By q.1 ∧ By q.2.1 ∧ By q.2.2
theorem plS_B {f g : Nat → Nat} (hf : By f) (hg : By g) (z i : Nat) {q : N3} (h : B3 q) : B3 (plS f g z i q) := by
  have hc := chN_B hg z (16 * i) h.2.2
  have h1 := polyT_B h.1 hf h.2.1 hc
  have h2 := polyD_B h.1 hf h.2.1 hc
  unfold B3 plS
  exact ⟨h1, h2, hc⟩
theorem plI_B {f g : Nat → Nat} (hf : By f) (hg : By g) (z i : Nat) {q : N3} (h : B3 q) : B3 (plI f g z i q) := iter_P (P := B3) (fun i _ h => plS_B hf hg z i h) i q h
def plx (f g : Nat → Nat) (z : Nat) (q : N3) : N3 := plI f g z ((z + 15) / 16) q
/-- the one-time key -/
def fS (s : Nat → Nat) (i : Nat) (g : Nat → Nat) : Nat → Nat := updN g i (if i = 16 then 0 else if i % 4 = 3 then s i % 16 else if i % 4 = 0 then (if i ≤ 0 then s i % 256 else s i / 4 * 4) else s i % 256)
def mkS (s : Nat → Nat) (i : Nat) (g : Nat → Nat) : Nat → Nat := if 16 ≤ i then g else updN g i (s (16 + i))
theorem fS_B {s : Nat → Nat} (hs : By s) (n : Nat) (g : Nat → Nat) (h : By g) : By (iter (fS s) n g) := iter_P (fun i _ ha => ha.u (ite_lt (by omega) (ite_lt (by omega) (ite_lt (ite_lt (by omega) (by have := hs i; omega)) (by omega))))) n g h
theorem mkS_B {s : Nat → Nat} (hs : By s) (n : Nat) (g : Nat → Nat) (h : By g) : By (iter (mkS s) n g) := iter_P (fun i _ ha => by unfold mkS; split <;> first | exact ha | exact ha.u (hs _)) n g h
def lnS (z n : Nat) (i : Nat) (c : Nat → Nat) : Nat → Nat := updN c i (if 8 ≤ i then byL (nI n).toInt64 (8 * (i - 8)) else byL (nI z).toInt64 (8 * i))
def lnN (z n : Nat) (c : Nat → Nat) : Nat → Nat := updN (iter (lnS z n) 16 c) 16 1
theorem lnN_B (z n : Nat) {c : Nat → Nat} (h : By c) : By (lnN z n c) := (iter_P (P := By) (fun i _ ha => ha.u (ite_lt (byL_lt _ _) (byL_lt _ _))) 16 c h).u (by omega)
def tgC (t k : Nat → Nat) (i : Nat) (q : C2) : C2 := ((q.1 + (t i + k i)) / 256, updN q.2 i ((q.1 + (t i + k i)) % 256))
def tgI (t k g : Nat → Nat) (i : Nat) : C2 := iter (tgC t k) i (0, g)
theorem tgI_B {t k g : Nat → Nat} (ht : By t) (hk : By k) (hg : By g) (i : Nat) : qB (tgI t k g i) :=
  iter_P (P := qB) (fun i q h => ⟨show (q.1 + (t i + k i)) / 256 < 256 by have := h.1; have := ht i; have := hk i; omega, h.2.u (Nat.mod_lt _ (by omega))⟩) i _ ⟨show 0 < 256 by omega, hg⟩
/-- the nonce, the text -/
def prS (v : Nat → Nat) (nu : Int64) (i : Nat) (g : Nat → Nat) : Nat → Nat := updN g i (v i ^^^ (if 4 ≤ i then byL nu (8 * (11 - i)) else 0))
def prN (v : Nat → Nat) (nu : Int64) (g : Nat → Nat) : Nat → Nat := iter (prS v nu) 12 g
theorem prN_B {v : Nat → Nat} (hv : By v) (nu : Int64) {g : Nat → Nat} (h : By g) : By (prN v nu g) := iter_P (fun i _ ha => ha.u (xor_lt (hv _) (ite_lt (byL_lt _ _) (by omega)))) 12 g h
def xS (t u : Nat → Nat) (b k : Nat) (g : Nat → Nat) : Nat → Nat := updN g (b + k) (t (b + k) ^^^ u k)
theorem xS_B {t u : Nat → Nat} (ht : By t) (hu : By u) (b n : Nat) (g : Nat → Nat) (h : By g) : By (iter (xS t u b) n g) := iter_P (fun _ _ ha => ha.u (xor_lt (ht _) (hu _))) n g h
abbrev CH : Type := (Nat → Int32) × (Nat → Int32) × (Nat → Nat) × (Nat → Nat)
def ccN (k no : Nat → Nat) (n : Int32) (w t : Nat → Int32) (u : Nat → Nat) : Nat → Nat := cStrx (cWord k no n w) (cTurn (cWord k no n w) t) u
def cvC (k no tp : Nat → Nat) (z i : Nat) (q : CH) : CH :=
  (cWord k no (nI (1 + 64 * i / 64)) q.1, cTurn (cWord k no (nI (1 + 64 * i / 64)) q.1) q.2.1, ccN k no (nI (1 + 64 * i / 64)) q.1 q.2.1 q.2.2.1,
    iter (xS tp (ccN k no (nI (1 + 64 * i / 64)) q.1 q.2.1 q.2.2.1) (64 * i)) (min 64 (z - 64 * i)) q.2.2.2)
def cvCI (k no tp : Nat → Nat) (z i : Nat) (q : CH) : CH := iter (cvC k no tp z) i q
theorem cvCI_B {k no tp : Nat → Nat} (ht : By tp) (z i : Nat) {q : CH} (hu : By q.2.2.1) (hx : By q.2.2.2) : By (cvCI k no tp z i q).2.2.1 ∧ By (cvCI k no tp z i q).2.2.2 :=
  iter_P (P := fun q : CH => By q.2.2.1 ∧ By q.2.2.2) (fun i q h => ⟨cStr_B _ _ 64 _ h.1, xS_B ht (cStr_B _ _ 64 _ h.1) _ _ _ h.2⟩) i q ⟨hu, hx⟩
def cvT (S rd : Nat → Nat) (rn : Nat) (no : Nat → Nat) (i : Nat) (q : N3) : N2 := turnN S rd rn (cntN no (nI (2 + 16 * i / 16)) q.1) q.2.1 rn
def cvA (S rd : Nat → Nat) (rn : Nat) (no tp : Nat → Nat) (z i : Nat) (q : N3) : N3 := ((cvT S rd rn no i q).1, (cvT S rd rn no i q).2, iter (xS tp (cvT S rd rn no i q).1 (16 * i)) (min 16 (z - 16 * i)) q.2.2)
def cvAI (S rd : Nat → Nat) (rn : Nat) (no tp : Nat → Nat) (z i : Nat) (q : N3) : N3 := iter (cvA S rd rn no tp z) i q
theorem cvAI_B {S rd no tp : Nat → Nat} (hS : By S) (hr : By rd) (hn : By no) (ht : By tp) (rn z i : Nat) {q : N3} (h : B3 q) : B3 (cvAI S rd rn no tp z i q) :=
  iter_P (P := B3) (fun i q h => ⟨(turnN_B hS hr (cntN_B hn _ h.1) h.2.1 rn rn).1, (turnN_B hS hr (cntN_B hn _ h.1) h.2.1 rn rn).2, xS_B ht (turnN_B hS hr (cntN_B hn _ h.1) h.2.1 rn rn).1 _ _ _ h.2.2⟩) i q h
/-- the calls -/
def fdS (a b c d e : Int32) (z i : Nat) (g : Nat → Nat) : Nat → Nat := updN g (z + i) (if 4 ≤ i then if 8 ≤ i then if 12 ≤ i then if 16 ≤ i then byI e (8 * (3 - i % 4)) else byI d (8 * (3 - i % 4)) else byI c (8 * (3 - i % 4)) else byI b (8 * (3 - i % 4)) else byI a (8 * (3 - i % 4)))
theorem fdS_B (a b c d e : Int32) (z n : Nat) (g : Nat → Nat) (h : By g) : By (iter (fdS a b c d e z) n g) := iter_P (fun i _ ha => ha.u (ite_lt (ite_lt (ite_lt (ite_lt (byI_lt _ _) (byI_lt _ _)) (byI_lt _ _)) (byI_lt _ _)) (byI_lt _ _))) n g h
def slS (tg : Nat → Nat) (z i : Nat) (g : Nat → Nat) : Nat → Nat := updN g (z + i) (tg i)
theorem slS_B {tg : Nat → Nat} (ht : By tg) (z n : Nat) (g : Nat → Nat) (h : By g) : By (iter (slS tg z) n g) := iter_P (fun _ _ ha => ha.u (ht _)) n g h
def opS (tg tp : Nat → Nat) (z i : Nat) (th : Int32) : Int32 := if tg i = tp (z + i) then th else 2
def bkS (bx : Nat → Nat) (v : Int32) (at0 : Nat) (i : Nat) (g : Nat → Nat) : Nat → Nat := updN g i (bx i ^^^ (if i = at0 then byI v 0 else 0))
theorem bkS_B {bx : Nat → Nat} (hb : By bx) (v : Int32) (at0 n : Nat) (g : Nat → Nat) (h : By g) : By (iter (bkS bx v at0) n g) := iter_P (fun i _ ha => ha.u (xor_lt (hb _) (ite_lt (byI_lt _ _) (by omega)))) n g h
/-- the tag with AES-GCM -/
def agK (S rd : Nat → Nat) (rn : Nat) (gs gm : Nat → Nat) : N2 := turnN S rd rn (iter nZero 16 gs) gm rn
def agR (kh kl : Int64) (gz : Nat → Nat) (lz : Nat) (gt : Nat → Nat) (nn : Nat) : Int64 × Int64 :=
  smx kh kl ((sRowx kh kl gt nn ((nn + 15) / 16) ((sRowx kh kl gz lz ((lz + 15) / 16) (0, 0)).1, (sRowx kh kl gz lz ((lz + 15) / 16) (0, 0)).2)).1,
    (sRowx kh kl gt nn ((nn + 15) / 16) ((sRowx kh kl gz lz ((lz + 15) / 16) (0, 0)).1, (sRowx kh kl gz lz ((lz + 15) / 16) (0, 0)).2)).2) (8 * (nI lz).toInt64) (8 * (nI nn).toInt64)
def agT (S rd : Nat → Nat) (rn : Nat) (gn : Nat → Nat) (k : N2) : N2 := turnN S rd rn (cntN gn 1 k.1) k.2 rn
theorem agK_B {S rd gs gm : Nat → Nat} (hS : By S) (hr : By rd) (hs : By gs) (hm : By gm) (rn : Nat) : By (agK S rd rn gs gm).1 ∧ By (agK S rd rn gs gm).2 := by
  unfold agK
  exact turnN_B hS hr (nZero_B 16 _ hs) hm rn rn
theorem agT_B {S rd gn : Nat → Nat} {k : N2} (hS : By S) (hr : By rd) (hn : By gn) (hk : By k.1 ∧ By k.2) (rn : Nat) : By (agT S rd rn gn k).1 ∧ By (agT S rd rn gn k).2 := by
  unfold agT
  exact turnN_B hS hr (cntN_B hn 1 hk.1) hk.2 rn rn
/-- the tag with Poly1305 -/
def tcF (u b : Nat → Nat) : Nat → Nat := iter (fS u) 17 b
def tcQ1 (u b z : Nat → Nat) (lz : Nat) (a d c : Nat → Nat) : N3 := plx (tcF u b) z lz (iter nZero 17 a, d, c)
def tcQ2 (u b z : Nat → Nat) (lz : Nat) (a d c t : Nat → Nat) (n : Nat) : N3 := plx (tcF u b) t n ((tcQ1 u b z lz a d c).1, (tcQ1 u b z lz a d c).2.1, (tcQ1 u b z lz a d c).2.2)
def tcC (u b z : Nat → Nat) (lz : Nat) (a d c t : Nat → Nat) (n : Nat) : Nat → Nat := lnN lz n (tcQ2 u b z lz a d c t n).2.2
def tcT (u b z : Nat → Nat) (lz : Nat) (a d c t : Nat → Nat) (n : Nat) : Nat → Nat := polyT (tcQ2 u b z lz a d c t n).1 (tcF u b) (tcQ2 u b z lz a d c t n).2.1 (tcC u b z lz a d c t n)
def tcD (u b z : Nat → Nat) (lz : Nat) (a d c t : Nat → Nat) (n : Nat) : Nat → Nat := polyD (tcQ2 u b z lz a d c t n).1 (tcF u b) (tcQ2 u b z lz a d c t n).2.1 (tcC u b z lz a d c t n)
def tcG (tt u w g : Nat → Nat) : Nat → Nat := (tgI tt (iter (mkS u) 17 w) g 16).2
theorem tcF_B {u b : Nat → Nat} (hu : By u) (hb : By b) : By (tcF u b) := by
  unfold tcF
  exact fS_B hu 17 _ hb
theorem tcQ1_B {u b z a d c : Nat → Nat} (hu : By u) (hb : By b) (hz : By z) (ha : By a) (hd : By d) (hc : By c) (lz : Nat) : B3 (tcQ1 u b z lz a d c) := by
  unfold tcQ1 plx
  exact plI_B (tcF_B hu hb) hz lz _ (q := (iter nZero 17 a, d, c)) ⟨nZero_B 17 _ ha, hd, hc⟩
theorem tcQ2_B {u b z a d c t : Nat → Nat} (hu : By u) (hb : By b) (hz : By z) (ha : By a) (hd : By d) (hc : By c) (ht : By t) (lz n : Nat) : B3 (tcQ2 u b z lz a d c t n) := by
  have h := tcQ1_B hu hb hz ha hd hc lz
  unfold tcQ2 plx
  exact plI_B (tcF_B hu hb) ht n _ (q := ((tcQ1 u b z lz a d c).1, (tcQ1 u b z lz a d c).2.1, (tcQ1 u b z lz a d c).2.2)) ⟨h.1, h.2.1, h.2.2⟩
theorem tcC_B {u b z a d c t : Nat → Nat} (hu : By u) (hb : By b) (hz : By z) (ha : By a) (hd : By d) (hc : By c) (ht : By t) (lz n : Nat) : By (tcC u b z lz a d c t n) := by
  unfold tcC
  exact lnN_B lz n (tcQ2_B hu hb hz ha hd hc ht lz n).2.2
theorem tcT_B {u b z a d c t : Nat → Nat} (hu : By u) (hb : By b) (hz : By z) (ha : By a) (hd : By d) (hc : By c) (ht : By t) (lz n : Nat) : By (tcT u b z lz a d c t n) := by
  have h := tcQ2_B hu hb hz ha hd hc ht lz n
  unfold tcT
  exact polyT_B h.1 (tcF_B hu hb) h.2.1 (tcC_B hu hb hz ha hd hc ht lz n)
theorem tcD_B {u b z a d c t : Nat → Nat} (hu : By u) (hb : By b) (hz : By z) (ha : By a) (hd : By d) (hc : By c) (ht : By t) (lz n : Nat) : By (tcD u b z lz a d c t n) := by
  have h := tcQ2_B hu hb hz ha hd hc ht lz n
  unfold tcD
  exact polyD_B h.1 (tcF_B hu hb) h.2.1 (tcC_B hu hb hz ha hd hc ht lz n)
theorem tcG_B {tt u w g : Nat → Nat} (ht : By tt) (hu : By u) (hw : By w) (hg : By g) : By (tcG tt u w g) := by
  unfold tcG
  exact (tgI_B ht (mkS_B hu 17 _ hw) hg 16).2
