/-! what holds between the class and the reference, between the law's turns -/
def Rw (i len cp : Nat) (f : Nat → Int32) (g : Nat → Nat) : Prop := len ≤ 20 * i ∧ len ≤ cp ∧ cp ≤ 64 + 40 * i ∧ (∀ x, fits .byte (.int (f x)) = true) ∧ RB f len g ∧ By g
theorem Rw.mono {i len cp : Nat} {f : Nat → Int32} {g : Nat → Nat} (h : Rw i len cp f g) : Rw (i + 1) len cp f g := ⟨by have := h.1; omega, h.2.1, by have := h.2.2.1; omega, h.2.2.2⟩
theorem Rw.len {i len cp : Nat} {f : Nat → Int32} {g : Nat → Nat} (h : Rw i len cp f g) (hi : i < 512) : len ≤ 20000 ∧ cp ≤ 50000 := ⟨by have := h.1; omega, by have := h.2.2.1; omega⟩
/-- a row's room, anew -/
theorem Rw.cap {i k cp : Nat} (hk : k ≤ 20 * (i + 1)) (h : cp ≤ 64 + 40 * i) : rnew k cp ≤ 64 + 40 * (i + 1) := by
  unfold rnew
  split
  · omega
  · split <;> omega
theorem rsz_cap (k cp : Nat) : rsz k cp + 2 * cp ≤ 2 * rnew k cp := by
  unfold rsz rnew
  split
  · omega
  · split <;> omega
/-- bytes stay bytes -/
theorem upd_fit {f : Nat → Int32} (h : ∀ x, fits .byte (.int (f x)) = true) (k : Nat) (v : Int32) : ∀ x, fits .byte (.int (upd f k v.toInt8.toInt32 x)) = true := fun x => by
  by_cases e : x = k
  · subst e
    rw [pk_us]
    exact pk_fb v
  · rw [pk_un e]
    exact h x
theorem rset_fit {f : Nat → Int32} (h : ∀ x, fits .byte (.int (f x)) = true) (len : Nat) (i v : Int32) : ∀ x, fits .byte (.int (rset f len i v x)) = true := by
  unfold rset
  split
  · exact h
  · split
    · exact h
    · exact upd_fit h _ _
theorem rsetw_fit {f : Nat → Int32} (h : ∀ x, fits .byte (.int (f x)) = true) (len : Nat) (i w : Int32) : ∀ x, fits .byte (.int (rsetw f len i w x)) = true := by
  unfold rsetw
  exact rset_fit (rset_fit (rset_fit (rset_fit h _ _ _) _ _ _) _ _ _) _ _ _
theorem feed_fit {f : Nat → Int32} (h : ∀ x, fits .byte (.int (f x)) = true) {k len : Nat} {a b c d e : Int32} : ∀ x, fits .byte (.int (feed5 f k len a b c d e x)) = true := by
  unfold feed5
  exact rsetw_fit (rsetw_fit (rsetw_fit (rsetw_fit (rsetw_fit h _ _ _) _ _ _) _ _ _) _ _ _) _ _ _
theorem wtag_fit {f : Nat → Int32} (h : ∀ x, fits .byte (.int (f x)) = true) {len a : Nat} {y0 y1 y2 y3 : Int32} : ∀ x, fits .byte (.int (wtag f len a y0 y1 y2 y3 x)) = true := by
  unfold wtag
  exact rsetw_fit (rsetw_fit (rsetw_fit (rsetw_fit h _ _ _) _ _ _) _ _ _) _ _ _
theorem gtt_fit {rk : Nat → Int32} {rnd : Nat} {n0 n1 n2 : Int32} {f : Nat → Int32} {len len2 : Nat} (q : Int32 × Int32 × Q4 × (Nat → Int32)) (h : ∀ x, fits .byte (.int (q.2.2.2 x)) = true) : ∀ n, ∀ x, fits .byte (.int ((iter (gtt rk rnd n0 n1 n2 f len len2) n q).2.2.2 x)) = true
  | 0 => h
  | n + 1 => by
    have ih := gtt_fit (rk := rk) (rnd := rnd) (n0 := n0) (n1 := n1) (n2 := n2) (f := f) (len := len) (len2 := len2) q h n
    rw [iter_s]
    unfold gtt
    split
    · exact rset_fit ih _ _ _
    · exact rset_fit ih _ _ _
theorem ctt_fit {N : Nat → Int32} {f : Nat → Int32} {len len2 : Nat} (q : Int32 × Int32 × S3 × (Nat → Int32)) (h : ∀ x, fits .byte (.int (q.2.2.2 x)) = true) : ∀ n, ∀ x, fits .byte (.int ((iter (ctt N f len len2) n q).2.2.2 x)) = true
  | 0 => h
  | n + 1 => by
    have ih := ctt_fit (N := N) (f := f) (len := len) (len2 := len2) q h n
    rw [iter_s]
    unfold ctt
    split
    · exact rset_fit ih _ _ _
    · exact rset_fit ih _ _ _
def ByM (gk gi gn gr gs gm gf gu ga gb gd gc gg gw : Nat → Nat) : Prop := By gk ∧ By gi ∧ By gn ∧ By gr ∧ By gs ∧ By gm ∧ By gf ∧ By gu ∧ By ga ∧ By gb ∧ By gd ∧ By gc ∧ By gg ∧ By gw
def IvR (i0 i1 i2 : Int32) (gi : Nat → Nat) : Prop := i0 = bw gi 0 ∧ i1 = bw gi 4 ∧ i2 = bw gi 8
def AeR (ci ri : Int32) (rn : Nat) (rk : Nat → Int32) (gr : Nat → Nat) (th tl : Nat → Int64) : Prop :=
  th 0 = 0 ∧ tl 0 = 0 ∧ rn ≤ 14 ∧ (ci = 0 ∨ ci = 1 → ri = nI rn ∧ 1 ≤ rn ∧ rkB rk gr (4 * (rn + 1)) ∧ TB th tl (gpr (joinL (aesI rk rn 0 0 0 0).1 (aesI rk rn 0 0 0 0).2.1, joinL (aesI rk rn 0 0 0 0).2.2.1 (aesI rk rn 0 0 0 0).2.2.2)))
def ChR (ci : Int32) (sr : Nat → Int32) (gk : Nat → Nat) : Prop := (∃ g0 : Nat → Nat, SR sr g0) ∧ (ci = 2 → SR sr gk)
def UsR (ci : Int32) (iu : Value) (Gg Hh : Nat) : Prop := (ci = -1 ∧ iu = .null) ∨ ((ci = 0 ∨ ci = 1) ∧ iu = .ref Gg) ∨ (ci = 2 ∧ iu = .ref Hh)
theorem SR_start : SR cstart (fun _ => 0) := fun k hk => by
  have c : k = 0 ∨ k = 1 ∨ k = 2 ∨ k = 3 ∨ k = 4 ∨ k = 5 ∨ k = 6 ∨ k = 7 ∨ k = 8 ∨ k = 9 ∨ k = 10 ∨ k = 11 := by omega
  rcases c with rfl | rfl | rfl | rfl | rfl | rfl | rfl | rfl | rfl | rfl | rfl | rfl <;> decide
theorem bk_g1 {bk g h : Int32} (e : bk = g + h) : bk + 1 = (g + 1) + h := by
  rw [e, Int32.add_assoc, Int32.add_assoc, Int32.add_comm h 1]
theorem bk_h1 {bk g h : Int32} (e : bk = g + h) : bk + 1 = g + (h + 1) := by
  rw [e, Int32.add_assoc]
section XLD
variable {p : Program} {l : Launch} {e : Env} {R : Room} {s : State} {m : MethodId} {args : Array Value} {below : List Frame} {meth : Method} {c : Code} {H H0 : Heap} {locs : List Loc} {cells slots : Nat} {Q : State → Prop} {A : Nat → Prop} {cc : ByteArray} {pc : Nat} {ls : Array Slot} {rest : List Value}
theorem sb_xld (hexec : p.tables.exec = Jvm.exec) (hb : c.code = cc) {b L n : Nat} {xs : Nat → Int32} (hX : va_X b L xs s H0) (hbl : b < H0.size) (hbA : ¬ A b) (hS : va_S A H0 H locs) {i : Int32} (hi : i = nI n) (hn : n < L) (hL : L < 2 ^ 31) (hdg : decode cc pc = .ok (.iaload, 1))
    (kk : W p l e R s m args below meth c H locs cells slots Q (F0 m (pc + 1) ls (.int (xs n) :: rest))) : W p l e R s m args below meth c H locs cells slots Q (F0 m pc ls (.int i :: .ref b :: rest)) := by
  have hc : i.toNatClampNeg = n := by rw [hi]; exact nI_clamp (by omega)
  refine va_sld hexec hb hX hbl hbA hS (pk_in n L hn hi hL) hdg ?_
  rw [hc]
  exact kk
end XLD
