def grow (th tl : Nat → Int64) (f : Nat → Int32) (len z : Nat) (i : Nat) (s : Int64 × Int64) : Int64 × Int64 := gabs th tl s (rword f len (16 * i) z) (rword f len (16 * i + 4) z) (rword f len (16 * i + 8) z) (rword f len (16 * i + 12) z)
def growx (th tl : Nat → Int64) (f : Nat → Int32) (len z : Nat) (s : Int64 × Int64) : Int64 × Int64 := iter (grow th tl f len z) ((z + 15) / 16) s
def prow (k0 k1 k2 k3 k4 t0 t1 t2 t3 t4 : Int64) (f : Nat → Int32) (len z : Nat) (i : Nat) (q : T5 × T5) : T5 × T5 :=
  (pabs q.1.1 q.1.2.1 q.1.2.2.1 q.1.2.2.2.1 q.1.2.2.2.2 k0 k1 k2 k3 k4 t0 t1 t2 t3 t4 (rword f len (16 * i) z) (rword f len (16 * i + 4) z) (rword f len (16 * i + 8) z) (rword f len (16 * i + 12) z),
   pmt q.1.1 q.1.2.1 q.1.2.2.1 q.1.2.2.2.1 q.1.2.2.2.2 k0 k1 k2 k3 k4 t0 t1 t2 t3 t4 (rword f len (16 * i) z) (rword f len (16 * i + 4) z) (rword f len (16 * i + 8) z) (rword f len (16 * i + 12) z))
def prowx (k0 k1 k2 k3 k4 t0 t1 t2 t3 t4 : Int64) (f : Nat → Int32) (len z : Nat) (q : T5 × T5) : T5 × T5 := iter (prow k0 k1 k2 k3 k4 t0 t1 t2 t3 t4 f len z) ((z + 15) / 16) q
def wtag (f : Nat → Int32) (len a : Nat) (y0 y1 y2 y3 : Int32) : Nat → Int32 := rsetw (rsetw (rsetw (rsetw f len (nI a) y0) len (nI (a + 4)) y1) len (nI (a + 8)) y2) len (nI (a + 12)) y3
def dtag (f : Nat → Int32) (len a : Nat) (y0 y1 y2 y3 : Int32) : Int32 := (((0 ||| (rword f len a (a + 16) ^^^ y0)) ||| (rword f len (a + 4) (a + 16) ^^^ y1)) ||| (rword f len (a + 8) (a + 16) ^^^ y2)) ||| (rword f len (a + 12) (a + 16) ^^^ y3)
abbrev Q4 : Type := Int32 × Int32 × Int32 × Int32
/-- the text, a byte a turn: counter, blocks turned, the block, the bytes -/
def gtt (rk : Nat → Int32) (rnd : Nat) (n0 n1 n2 : Int32) (f : Nat → Int32) (len : Nat) (len2 : Nat) (i : Nat) (q : Int32 × Int32 × Q4 × (Nat → Int32)) : Int32 × Int32 × Q4 × (Nat → Int32) :=
  if i % 16 = 0 then (q.1 + 1, q.2.1 + 1, aesI rk rnd n0 n1 n2 (q.1 + 1), rset q.2.2.2 len2 (nI i) (rget f len (nI i) ^^^ uS (i4 (aesI rk rnd n0 n1 n2 (q.1 + 1)).1 (aesI rk rnd n0 n1 n2 (q.1 + 1)).2.1 (aesI rk rnd n0 n1 n2 (q.1 + 1)).2.2.1 (aesI rk rnd n0 n1 n2 (q.1 + 1)).2.2.2 (i % 16 / 4)) (nI (24 - 8 * (i % 16 % 4)))))
  else (q.1, q.2.1, q.2.2.1, rset q.2.2.2 len2 (nI i) (rget f len (nI i) ^^^ uS (i4 q.2.2.1.1 q.2.2.1.2.1 q.2.2.1.2.2.1 q.2.2.1.2.2.2 (i % 16 / 4)) (nI (24 - 8 * (i % 16 % 4)))))
abbrev S3 : Type := (Nat → Int32) × (Nat → Int32) × (Nat → Int32)
def cblk (no : Nat → Int32) (n : Int32) (q : S3) : S3 := (cinit q.1 no n, cturn (cinit q.1 no n) q.2.1, iter (cout (cinit q.1 no n) (cturn (cinit q.1 no n) q.2.1)) 16 q.2.2)
def ctt (no : Nat → Int32) (f : Nat → Int32) (len : Nat) (len2 : Nat) (i : Nat) (q : Int32 × Int32 × S3 × (Nat → Int32)) : Int32 × Int32 × S3 × (Nat → Int32) :=
  if i % 64 = 0 then (q.1 + 1, q.2.1 + 1, cblk no (q.1 + 1) q.2.2.1, rset q.2.2.2 len2 (nI i) (rget f len (nI i) ^^^ uS ((cblk no (q.1 + 1) q.2.2.1).2.2 (i % 64 / 4)) (nI (24 - 8 * (i % 64 % 4)))))
  else (q.1, q.2.1, q.2.2.1, rset q.2.2.2 len2 (nI i) (rget f len (nI i) ^^^ uS (q.2.2.1.2.2 (i % 64 / 4)) (nI (24 - 8 * (i % 64 % 4)))))

theorem d_C_setNonce_0 : decode b_C_setNonce 0 = .ok (.aload_n 0, 1) := by decide +kernel
theorem d_C_setNonce_1 : decode b_C_setNonce 1 = .ok (.getfield 9, 3) := by decide +kernel
theorem d_C_setNonce_4 : decode b_C_setNonce 4 = .ok (.iconst 0, 1) := by decide +kernel
theorem d_C_setNonce_5 : decode b_C_setNonce 5 = .ok (.iload_n 1, 1) := by decide +kernel
theorem d_C_setNonce_6 : decode b_C_setNonce 6 = .ok (.iastore, 1) := by decide +kernel
theorem d_C_setNonce_7 : decode b_C_setNonce 7 = .ok (.aload_n 0, 1) := by decide +kernel
theorem d_C_setNonce_8 : decode b_C_setNonce 8 = .ok (.getfield 9, 3) := by decide +kernel
theorem d_C_setNonce_11 : decode b_C_setNonce 11 = .ok (.iconst 1, 1) := by decide +kernel
theorem d_C_setNonce_12 : decode b_C_setNonce 12 = .ok (.iload_n 2, 1) := by decide +kernel
theorem d_C_setNonce_13 : decode b_C_setNonce 13 = .ok (.lload 4, 2) := by decide +kernel
theorem d_C_setNonce_15 : decode b_C_setNonce 15 = .ok (.bipush 32, 2) := by decide +kernel
theorem d_C_setNonce_17 : decode b_C_setNonce 17 = .ok (.lushr, 1) := by decide +kernel
theorem d_C_setNonce_18 : decode b_C_setNonce 18 = .ok (.l2i, 1) := by decide +kernel
theorem d_C_setNonce_19 : decode b_C_setNonce 19 = .ok (.ixor, 1) := by decide +kernel
theorem d_C_setNonce_20 : decode b_C_setNonce 20 = .ok (.iastore, 1) := by decide +kernel
theorem d_C_setNonce_21 : decode b_C_setNonce 21 = .ok (.aload_n 0, 1) := by decide +kernel
theorem d_C_setNonce_22 : decode b_C_setNonce 22 = .ok (.getfield 9, 3) := by decide +kernel
theorem d_C_setNonce_25 : decode b_C_setNonce 25 = .ok (.iconst 2, 1) := by decide +kernel
theorem d_C_setNonce_26 : decode b_C_setNonce 26 = .ok (.iload_n 3, 1) := by decide +kernel
theorem d_C_setNonce_27 : decode b_C_setNonce 27 = .ok (.lload 4, 2) := by decide +kernel
theorem d_C_setNonce_29 : decode b_C_setNonce 29 = .ok (.l2i, 1) := by decide +kernel
theorem d_C_setNonce_30 : decode b_C_setNonce 30 = .ok (.ixor, 1) := by decide +kernel
theorem d_C_setNonce_31 : decode b_C_setNonce 31 = .ok (.iastore, 1) := by decide +kernel
theorem d_C_setNonce_32 : decode b_C_setNonce 32 = .ok (.return_, 1) := by decide +kernel

def rm_C_setNonceG : Room := { frames := 0, cells := 0, slots := 0, locals := 0 }
set_option maxHeartbeats 4000000 in
set_option maxRecDepth 100000 in
theorem c_C_setNonceG (l : Launch) (D : va_G) (cI cL cB : ClassId) (tS tF : Nat) (h : Nat) (q0 : Nat) (q1 : Nat) (q2 : Nat) (qa : Nat) (qh : Nat) (qm : Nat) (tu : Int32) (n0 : Int32) (n1 : Int32) (n2 : Int32) (a : Int32) (bb : Int32) (c0 : Int32) (num : Int64) (sz : Nat)  : Met l y_C_setNonce (sbw y_C_setNonce b_C_setNonce 6 none) rm_C_setNonceG (sbPc D cI cL cB tS tF [.ref h, .int a, .int bb, .int c0, .long num] sz [(h, .inr (1, [.ref q0, .ref q1, .ref q2, .int 1, .int tu, .ref qa, .ref qh, .ref qm])), (q0, .inl (cI, 3, .inl (i3 n0 n1 n2)))]) (sbQv D (fun (_ : Unit) => True) (fun (_ : Unit) => [(h, .inr (1, [.ref q0, .ref q1, .ref q2, .int 1, .int tu, .ref qa, .ref qh, .ref qm])), (q0, .inl (cI, 3, .inl (i3 a (bb ^^^ (uL num 32).toInt32) (c0 ^^^ num.toInt32))))]) (va_A [(h, .inr (1, [.ref q0, .ref q1, .ref q2, .int 1, .int tu, .ref qa, .ref qh, .ref qm])), (q0, .inl (cI, 3, .inl (i3 n0 n1 n2)))] sz)) 0 0 (va_A [(h, .inr (1, [.ref q0, .ref q1, .ref q2, .int 1, .int tu, .ref qa, .ref qh, .ref qm])), (q0, .inl (cI, 3, .inl (i3 n0 n1 n2)))] sz) := by
  refine sb_ofW (Qc := fun A => (sbQv D (fun (_ : Unit) => True) (fun (_ : Unit) => [(h, .inr (1, [.ref q0, .ref q1, .ref q2, .int 1, .int tu, .ref qa, .ref qh, .ref qm])), (q0, .inl (cI, 3, .inl (i3 a (bb ^^^ (uL num 32).toInt32) (c0 ^^^ num.toInt32))))]) A)) (by decide) (Nat.le_of_ble_eq_true rfl) ?_
  intro p e s m args below meth c A ls hx hb hr hml hts hown hlocks hin hsz hP hG hD hA hS hl
  have hl : lv_has ls 6 [(0, .ref h), (1, .int a), (2, .int bb), (3, .int c0), (4, .long num)] := hl
  refine lv_aload_n hx hb d_C_setNonce_0 rfl (lv_at hl 0 rfl) ?_
  refine va_get (D := D) (ci := 1) (v := .ref q0) (C := R_G) (T := F_G) (N := 8) hx hb hts in_G hown hG.1 hP 0 rfl rfl 0 (by decide) (hts _ k_116) (fun _ h9 => h9) rfl d_C_setNonce_1 ?_
  refine lv_iconst (v := 0) hx hb d_C_setNonce_4 (by decide) ?_
  refine lv_iload_n hx hb d_C_setNonce_5 rfl (lv_at hl 1 rfl) ?_
  refine sb_ist hx hb hG.1 hP hD hS 1 rfl 0 rfl (by omega) (by omega) d_C_setNonce_6 (fun f_1 H locs ef_1 hP hD hS => ?_)
  have hP : va_P D vwCl [(h, .inr (1, [.ref q0, .ref q1, .ref q2, .int 1, .int tu, .ref qa, .ref qh, .ref qm])), (q0, .inl (cI, 3, .inl f_1))] H := hP
  have hD : va_D A [(h, .inr (1, [.ref q0, .ref q1, .ref q2, .int 1, .int tu, .ref qa, .ref qh, .ref qm])), (q0, .inl (cI, 3, .inl f_1))] := hD
  obtain rfl : f_1 = i3 a n1 n2 := ef_1.trans (i3_set0 ..)
  refine lv_aload_n hx hb d_C_setNonce_7 rfl (lv_at hl 0 rfl) ?_
  refine va_get (D := D) (ci := 1) (v := .ref q0) (C := R_G) (T := F_G) (N := 8) hx hb hts in_G hown hG.1 hP 0 rfl rfl 0 (by decide) (hts _ k_116) (fun _ h9 => h9) rfl d_C_setNonce_8 ?_
  refine lv_iconst (v := 1) hx hb d_C_setNonce_11 (by decide) ?_
  refine lv_iload_n hx hb d_C_setNonce_12 rfl (lv_at hl 2 rfl) ?_
  refine lv_lload hx hb d_C_setNonce_13 (lv_at hl 4 rfl) ?_
  refine lv_bipush (v := 32) hx hb d_C_setNonce_15 (by decide) ?_
  refine lv_lushr (v := uL num 32) hx hb d_C_setNonce_17 rfl ?_
  refine lv_l2i (v := (uL num 32).toInt32) hx hb d_C_setNonce_18 rfl ?_
  refine lv_ixor hx hb d_C_setNonce_19 ?_
  refine lv_topi (fun x_2 ex_2 => ?_)
  refine sb_ist hx hb hG.1 hP hD hS 1 rfl 1 rfl (by omega) (by omega) d_C_setNonce_20 (fun f_3 H locs ef_3 hP hD hS => ?_)
  have hP : va_P D vwCl [(h, .inr (1, [.ref q0, .ref q1, .ref q2, .int 1, .int tu, .ref qa, .ref qh, .ref qm])), (q0, .inl (cI, 3, .inl f_3))] H := hP
  have hD : va_D A [(h, .inr (1, [.ref q0, .ref q1, .ref q2, .int 1, .int tu, .ref qa, .ref qh, .ref qm])), (q0, .inl (cI, 3, .inl f_3))] := hD
  obtain rfl : f_3 = i3 a x_2 n2 := ef_3.trans (i3_set1 ..)
  refine lv_aload_n hx hb d_C_setNonce_21 rfl (lv_at hl 0 rfl) ?_
  refine va_get (D := D) (ci := 1) (v := .ref q0) (C := R_G) (T := F_G) (N := 8) hx hb hts in_G hown hG.1 hP 0 rfl rfl 0 (by decide) (hts _ k_116) (fun _ h9 => h9) rfl d_C_setNonce_22 ?_
  refine lv_iconst (v := 2) hx hb d_C_setNonce_25 (by decide) ?_
  refine lv_iload_n hx hb d_C_setNonce_26 rfl (lv_at hl 3 rfl) ?_
  refine lv_lload hx hb d_C_setNonce_27 (lv_at hl 4 rfl) ?_
  refine lv_l2i (v := num.toInt32) hx hb d_C_setNonce_29 rfl ?_
  refine lv_ixor hx hb d_C_setNonce_30 ?_
  refine lv_topi (fun x_4 ex_4 => ?_)
  refine sb_ist hx hb hG.1 hP hD hS 1 rfl 2 rfl (by omega) (by omega) d_C_setNonce_31 (fun f_5 H locs ef_5 hP hD hS => ?_)
  have hP : va_P D vwCl [(h, .inr (1, [.ref q0, .ref q1, .ref q2, .int 1, .int tu, .ref qa, .ref qh, .ref qm])), (q0, .inl (cI, 3, .inl f_5))] H := hP
  have hD : va_D A [(h, .inr (1, [.ref q0, .ref q1, .ref q2, .int 1, .int tu, .ref qa, .ref qh, .ref qm])), (q0, .inl (cI, 3, .inl f_5))] := hD
  obtain rfl : f_5 = i3 a x_2 x_4 := ef_5.trans (i3_set2 ..)
  subst ex_4
  subst ex_2
  have hP9 := hP.sub (ws' := [(h, .inr (1, [.ref q0, .ref q1, .ref q2, .int 1, .int tu, .ref qa, .ref qh, .ref qm])), (q0, .inl (cI, 3, .inl (i3 a (bb ^^^ ((uL num 32).toInt32)) (c0 ^^^ num.toInt32))))]) [0, 1] rfl
  have hD9 := hD.sub (ws' := [(h, .inr (1, [.ref q0, .ref q1, .ref q2, .int 1, .int tu, .ref qa, .ref qh, .ref qm])), (q0, .inl (cI, 3, .inl (i3 a (bb ^^^ ((uL num 32).toInt32)) (c0 ^^^ num.toInt32))))]) [0, 1] (by decide) rfl
  exact W.vret hx hb hr (fun t ht hW => ⟨⟨(), rfl, trivial, by rw [ht]; exact hP9, hD9⟩, hS.F ht⟩) hS.2.2 d_C_setNonce_32

theorem d_C_writeTag_0 : decode b_C_writeTag 0 = .ok (.iconst 0, 1) := by decide +kernel
theorem d_C_writeTag_1 : decode b_C_writeTag 1 = .ok (.istore_n 3, 1) := by decide +kernel
theorem d_C_writeTag_2 : decode b_C_writeTag 2 = .ok (.iload_n 3, 1) := by decide +kernel
theorem d_C_writeTag_3 : decode b_C_writeTag 3 = .ok (.iconst 4, 1) := by decide +kernel
theorem d_C_writeTag_4 : decode b_C_writeTag 4 = .ok (.if_icmp .ge 24, 3) := by decide +kernel
theorem d_C_writeTag_7 : decode b_C_writeTag 7 = .ok (.aload_n 1, 1) := by decide +kernel
theorem d_C_writeTag_8 : decode b_C_writeTag 8 = .ok (.iload_n 2, 1) := by decide +kernel
theorem d_C_writeTag_9 : decode b_C_writeTag 9 = .ok (.iconst 4, 1) := by decide +kernel
theorem d_C_writeTag_10 : decode b_C_writeTag 10 = .ok (.iload_n 3, 1) := by decide +kernel
theorem d_C_writeTag_11 : decode b_C_writeTag 11 = .ok (.imul, 1) := by decide +kernel
theorem d_C_writeTag_12 : decode b_C_writeTag 12 = .ok (.iadd, 1) := by decide +kernel
theorem d_C_writeTag_13 : decode b_C_writeTag 13 = .ok (.aload_n 0, 1) := by decide +kernel
theorem d_C_writeTag_14 : decode b_C_writeTag 14 = .ok (.getfield 15, 3) := by decide +kernel
theorem d_C_writeTag_17 : decode b_C_writeTag 17 = .ok (.iload_n 3, 1) := by decide +kernel
theorem d_C_writeTag_18 : decode b_C_writeTag 18 = .ok (.iaload, 1) := by decide +kernel
theorem d_C_writeTag_19 : decode b_C_writeTag 19 = .ok (.invokevirtual 63, 3) := by decide +kernel
theorem d_C_writeTag_22 : decode b_C_writeTag 22 = .ok (.iinc 3 1, 3) := by decide +kernel
theorem d_C_writeTag_25 : decode b_C_writeTag 25 = .ok (.goto (-23), 3) := by decide +kernel
theorem d_C_writeTag_28 : decode b_C_writeTag 28 = .ok (.return_, 1) := by decide +kernel

def rm_C_writeTagG : Room := { frames := 2, cells := 0, slots := 0, locals := 44 }
set_option maxHeartbeats 4000000 in
set_option maxRecDepth 100000 in
theorem c_C_writeTagG (l : Launch) (D : va_G) (cI cL cB : ClassId) (tS tF : Nat) (h : Nat) (q0 : Nat) (q1 : Nat) (q2 : Nat) (qa : Nat) (qh : Nat) (qm : Nat) (tu : Int32) (y0 : Int32) (y1 : Int32) (y2 : Int32) (y3 : Int32) (h1 : Nat) (v1 : Nat) (len1 : Nat) (cp1 : Nat) (f1 : Nat → Int32) (at0 : Nat) (sz : Nat) (hl1 : len1 ≤ cp1) (hc1 : cp1 ≤ 100000) (ha : at0 ≤ 100000) : Met l y_C_writeTag (sbw y_C_writeTag b_C_writeTag 4 none) rm_C_writeTagG (sbPc D cI cL cB tS tF [.ref h, .ref h1, .int (nI at0)] sz [(h, .inr (1, [.ref q0, .ref q1, .ref q2, .int 1, .int tu, .ref qa, .ref qh, .ref qm])), (q2, .inl (cI, 4, .inl (i4 y0 y1 y2 y3))), (h1, .inr (5, [.ref v1, .int (nI len1)])), (v1, .inl (cB, cp1, .inl f1))]) (sbQv D (fun (_ : Unit) => True) (fun (_ : Unit) => [(h, .inr (1, [.ref q0, .ref q1, .ref q2, .int 1, .int tu, .ref qa, .ref qh, .ref qm])), (q2, .inl (cI, 4, .inl (i4 y0 y1 y2 y3))), (h1, .inr (5, [.ref v1, .int (nI len1)])), (v1, .inl (cB, cp1, .inl (wtag f1 len1 at0 y0 y1 y2 y3)))]) (va_A [(h, .inr (1, [.ref q0, .ref q1, .ref q2, .int 1, .int tu, .ref qa, .ref qh, .ref qm])), (q2, .inl (cI, 4, .inl (i4 y0 y1 y2 y3))), (h1, .inr (5, [.ref v1, .int (nI len1)])), (v1, .inl (cB, cp1, .inl f1))] sz)) 0 0 (va_A [(h, .inr (1, [.ref q0, .ref q1, .ref q2, .int 1, .int tu, .ref qa, .ref qh, .ref qm])), (q2, .inl (cI, 4, .inl (i4 y0 y1 y2 y3))), (h1, .inr (5, [.ref v1, .int (nI len1)])), (v1, .inl (cB, cp1, .inl f1))] sz) := by
  refine sb_ofW (Qc := fun A => (sbQv D (fun (_ : Unit) => True) (fun (_ : Unit) => [(h, .inr (1, [.ref q0, .ref q1, .ref q2, .int 1, .int tu, .ref qa, .ref qh, .ref qm])), (q2, .inl (cI, 4, .inl (i4 y0 y1 y2 y3))), (h1, .inr (5, [.ref v1, .int (nI len1)])), (v1, .inl (cB, cp1, .inl (wtag f1 len1 at0 y0 y1 y2 y3)))]) A)) (by decide) (Nat.le_of_ble_eq_true rfl) ?_
  intro p e s m args below meth c A ls hx hb hr hml hts hown hlocks hin hsz hP hG hD hA hS hl
  have hl : lv_has ls 4 [(0, .ref h), (1, .ref h1), (2, .int (nI at0))] := hl
  refine lv_iconst (v := 0) hx hb d_C_writeTag_0 (by decide) ?_
  refine lv_istore_n (lv' := [(3, .int 0), (0, .ref h), (1, .ref h1), (2, .int (nI at0))]) hx hb d_C_writeTag_1 rfl hl (by decide) rfl (fun ls hl => ?_)
  refine lv_iload_n hx hb d_C_writeTag_2 rfl (lv_at hl 0 rfl) ?_
  refine lv_iconst (v := 4) hx hb d_C_writeTag_3 (by decide) ?_
  refine lv_icmp_ge (tgt := 28) hx hb d_C_writeTag_4 (by decide) (fun c_1 => absurd c_1 (sb_geF (a := 0) (b := 4) rfl rfl (by omega) (by omega) (by omega))) (fun c_1 => ?_)
  refine lv_aload_n hx hb d_C_writeTag_7 rfl (lv_at hl 2 rfl) ?_
  refine lv_iload_n hx hb d_C_writeTag_8 rfl (lv_at hl 3 rfl) ?_
  refine lv_iconst (v := 4) hx hb d_C_writeTag_9 (by decide) ?_
  refine lv_iload_n hx hb d_C_writeTag_10 rfl (lv_at hl 0 rfl) ?_
  refine lv_imul hx hb d_C_writeTag_11 ?_
  refine sb_topn 0 (sb_eqn (a := 4 * 0) (b := 0) (sb_mul (a := 4) (b := 0) rfl rfl) (by omega)) ?_
  refine lv_iadd hx hb d_C_writeTag_12 ?_
  refine sb_topn at0 (sb_eqn (a := at0 + 0) (b := at0) (nI_add at0 0) (by omega)) ?_
  refine lv_aload_n hx hb d_C_writeTag_13 rfl (lv_at hl 1 rfl) ?_
  refine va_get (D := D) (ci := 1) (v := .ref q2) (C := R_G) (T := F_G) (N := 8) hx hb hts in_G hown hG.1 hP 0 rfl rfl 2 (by decide) (hts _ k_126) (fun _ h9 => h9) rfl d_C_writeTag_14 ?_
  refine lv_iload_n hx hb d_C_writeTag_17 rfl (lv_at hl 0 rfl) ?_
  refine sb_ildv hx hb hG.1 hP 1 rfl 0 rfl (by omega) (by omega) (v := y0) rfl d_C_writeTag_18 ?_
  refine sb_callv (wr := [(h, .inr (1, [.ref q0, .ref q1, .ref q2, .int 1, .int tu, .ref qa, .ref qh, .ref qm])), (q2, .inl (cI, 4, .inl (i4 y0 y1 y2 y3)))]) (va_runV (As := [.int (nI at0), .int y0]) (rest := []) ⟨hx, hb, hml, hown, hts⟩ (c_R_setWord l D cI cL cB tS tF h1 v1 len1 cp1 f1 (nI at0) y0 _ hl1 (by omega)) (cwV 2 hts (sb_gV k_619 k_364 k_365 k_23 k_366) rfl rfl rfl (by decide +kernel) ⟨Nat.le_of_ble_eq_true rfl, Nat.le_of_ble_eq_true rfl⟩) (sb_pV hG hP hD hS hA [2, 3] (by decide) rfl (ci := 5) (q0 := 2) rfl rfl) rfl rfl hl.1 rfl (lv_room (Nat.le_of_ble_eq_true rfl)) d_C_writeTag_19 ⟨Nat.le_of_ble_eq_true rfl, Nat.le_of_ble_eq_true rfl⟩) hP hD hS hA [2, 3] [0, 1] rfl rfl (by decide) (by decide) (fun u H locs hw_2 hP hD hS => ?_)
  have hP : va_P D vwCl [(h, .inr (1, [.ref q0, .ref q1, .ref q2, .int 1, .int tu, .ref qa, .ref qh, .ref qm])), (q2, .inl (cI, 4, .inl (i4 y0 y1 y2 y3))), (h1, .inr (5, [.ref v1, .int (nI len1)])), (v1, .inl (cB, cp1, .inl (rsetw f1 len1 (nI at0) y0)))] H := hP
  have hD : va_D A [(h, .inr (1, [.ref q0, .ref q1, .ref q2, .int 1, .int tu, .ref qa, .ref qh, .ref qm])), (q2, .inl (cI, 4, .inl (i4 y0 y1 y2 y3))), (h1, .inr (5, [.ref v1, .int (nI len1)])), (v1, .inl (cB, cp1, .inl (rsetw f1 len1 (nI at0) y0)))] := hD
  refine lv_iinc (v := nI 1) (lv' := [(3, .int (nI 1)), (0, .ref h), (1, .ref h1), (2, .int (nI at0))]) hx hb d_C_writeTag_22 hl (k := 0) rfl (sb_inc (a := 0) (b := 1) (d := 1) rfl (by decide) (by omega)) (by decide) rfl (fun ls hl => ?_)
  refine lv_goto (tgt := 2) hx hb d_C_writeTag_25 (by decide) ?_
  refine lv_iload_n hx hb d_C_writeTag_2 rfl (lv_at hl 0 rfl) ?_
  refine lv_iconst (v := 4) hx hb d_C_writeTag_3 (by decide) ?_
  refine lv_icmp_ge (tgt := 28) hx hb d_C_writeTag_4 (by decide) (fun c_3 => absurd c_3 (sb_geF (a := 1) (b := 4) rfl rfl (by omega) (by omega) (by omega))) (fun c_3 => ?_)
  refine lv_aload_n hx hb d_C_writeTag_7 rfl (lv_at hl 2 rfl) ?_
  refine lv_iload_n hx hb d_C_writeTag_8 rfl (lv_at hl 3 rfl) ?_
  refine lv_iconst (v := 4) hx hb d_C_writeTag_9 (by decide) ?_
  refine lv_iload_n hx hb d_C_writeTag_10 rfl (lv_at hl 0 rfl) ?_
  refine lv_imul hx hb d_C_writeTag_11 ?_
  refine sb_topn 4 (sb_eqn (a := 4 * 1) (b := 4) (sb_mul (a := 4) (b := 1) rfl rfl) (by omega)) ?_
  refine lv_iadd hx hb d_C_writeTag_12 ?_
  refine sb_topn (at0 + 4) (nI_add at0 4) ?_
  refine lv_aload_n hx hb d_C_writeTag_13 rfl (lv_at hl 1 rfl) ?_
  refine va_get (D := D) (ci := 1) (v := .ref q2) (C := R_G) (T := F_G) (N := 8) hx hb hts in_G hown hG.1 hP 0 rfl rfl 2 (by decide) (hts _ k_126) (fun _ h9 => h9) rfl d_C_writeTag_14 ?_
  refine lv_iload_n hx hb d_C_writeTag_17 rfl (lv_at hl 0 rfl) ?_
  refine sb_ildv hx hb hG.1 hP 1 rfl 1 rfl (by omega) (by omega) (v := y1) rfl d_C_writeTag_18 ?_
  refine sb_callv (wr := [(h, .inr (1, [.ref q0, .ref q1, .ref q2, .int 1, .int tu, .ref qa, .ref qh, .ref qm])), (q2, .inl (cI, 4, .inl (i4 y0 y1 y2 y3)))]) (va_runV (As := [.int (nI (at0 + 4)), .int y1]) (rest := []) ⟨hx, hb, hml, hown, hts⟩ (c_R_setWord l D cI cL cB tS tF h1 v1 len1 cp1 (rsetw f1 len1 (nI at0) y0) (nI (at0 + 4)) y1 _ hl1 (by omega)) (cwV 2 hts (sb_gV k_619 k_364 k_365 k_23 k_366) rfl rfl rfl (by decide +kernel) ⟨Nat.le_of_ble_eq_true rfl, Nat.le_of_ble_eq_true rfl⟩) (sb_pV hG hP hD hS hA [2, 3] (by decide) rfl (ci := 5) (q0 := 2) rfl rfl) rfl rfl hl.1 rfl (lv_room (Nat.le_of_ble_eq_true rfl)) d_C_writeTag_19 ⟨Nat.le_of_ble_eq_true rfl, Nat.le_of_ble_eq_true rfl⟩) hP hD hS hA [2, 3] [0, 1] rfl rfl (by decide) (by decide) (fun u H locs hw_4 hP hD hS => ?_)
  have hP : va_P D vwCl [(h, .inr (1, [.ref q0, .ref q1, .ref q2, .int 1, .int tu, .ref qa, .ref qh, .ref qm])), (q2, .inl (cI, 4, .inl (i4 y0 y1 y2 y3))), (h1, .inr (5, [.ref v1, .int (nI len1)])), (v1, .inl (cB, cp1, .inl (rsetw (rsetw f1 len1 (nI at0) y0) len1 (nI (at0 + 4)) y1)))] H := hP
  have hD : va_D A [(h, .inr (1, [.ref q0, .ref q1, .ref q2, .int 1, .int tu, .ref qa, .ref qh, .ref qm])), (q2, .inl (cI, 4, .inl (i4 y0 y1 y2 y3))), (h1, .inr (5, [.ref v1, .int (nI len1)])), (v1, .inl (cB, cp1, .inl (rsetw (rsetw f1 len1 (nI at0) y0) len1 (nI (at0 + 4)) y1)))] := hD
  refine lv_iinc (v := nI 2) (lv' := [(3, .int (nI 2)), (0, .ref h), (1, .ref h1), (2, .int (nI at0))]) hx hb d_C_writeTag_22 hl (k := 0) rfl (sb_inc (a := 1) (b := 2) (d := 1) rfl (by decide) (by omega)) (by decide) rfl (fun ls hl => ?_)
  refine lv_goto (tgt := 2) hx hb d_C_writeTag_25 (by decide) ?_
  refine lv_iload_n hx hb d_C_writeTag_2 rfl (lv_at hl 0 rfl) ?_
  refine lv_iconst (v := 4) hx hb d_C_writeTag_3 (by decide) ?_
  refine lv_icmp_ge (tgt := 28) hx hb d_C_writeTag_4 (by decide) (fun c_5 => absurd c_5 (sb_geF (a := 2) (b := 4) rfl rfl (by omega) (by omega) (by omega))) (fun c_5 => ?_)
  refine lv_aload_n hx hb d_C_writeTag_7 rfl (lv_at hl 2 rfl) ?_
  refine lv_iload_n hx hb d_C_writeTag_8 rfl (lv_at hl 3 rfl) ?_
  refine lv_iconst (v := 4) hx hb d_C_writeTag_9 (by decide) ?_
  refine lv_iload_n hx hb d_C_writeTag_10 rfl (lv_at hl 0 rfl) ?_
  refine lv_imul hx hb d_C_writeTag_11 ?_
  refine sb_topn 8 (sb_eqn (a := 4 * 2) (b := 8) (sb_mul (a := 4) (b := 2) rfl rfl) (by omega)) ?_
  refine lv_iadd hx hb d_C_writeTag_12 ?_
  refine sb_topn (at0 + 8) (nI_add at0 8) ?_
  refine lv_aload_n hx hb d_C_writeTag_13 rfl (lv_at hl 1 rfl) ?_
  refine va_get (D := D) (ci := 1) (v := .ref q2) (C := R_G) (T := F_G) (N := 8) hx hb hts in_G hown hG.1 hP 0 rfl rfl 2 (by decide) (hts _ k_126) (fun _ h9 => h9) rfl d_C_writeTag_14 ?_
  refine lv_iload_n hx hb d_C_writeTag_17 rfl (lv_at hl 0 rfl) ?_
  refine sb_ildv hx hb hG.1 hP 1 rfl 2 rfl (by omega) (by omega) (v := y2) rfl d_C_writeTag_18 ?_
  refine sb_callv (wr := [(h, .inr (1, [.ref q0, .ref q1, .ref q2, .int 1, .int tu, .ref qa, .ref qh, .ref qm])), (q2, .inl (cI, 4, .inl (i4 y0 y1 y2 y3)))]) (va_runV (As := [.int (nI (at0 + 8)), .int y2]) (rest := []) ⟨hx, hb, hml, hown, hts⟩ (c_R_setWord l D cI cL cB tS tF h1 v1 len1 cp1 (rsetw (rsetw f1 len1 (nI at0) y0) len1 (nI (at0 + 4)) y1) (nI (at0 + 8)) y2 _ hl1 (by omega)) (cwV 2 hts (sb_gV k_619 k_364 k_365 k_23 k_366) rfl rfl rfl (by decide +kernel) ⟨Nat.le_of_ble_eq_true rfl, Nat.le_of_ble_eq_true rfl⟩) (sb_pV hG hP hD hS hA [2, 3] (by decide) rfl (ci := 5) (q0 := 2) rfl rfl) rfl rfl hl.1 rfl (lv_room (Nat.le_of_ble_eq_true rfl)) d_C_writeTag_19 ⟨Nat.le_of_ble_eq_true rfl, Nat.le_of_ble_eq_true rfl⟩) hP hD hS hA [2, 3] [0, 1] rfl rfl (by decide) (by decide) (fun u H locs hw_6 hP hD hS => ?_)
  have hP : va_P D vwCl [(h, .inr (1, [.ref q0, .ref q1, .ref q2, .int 1, .int tu, .ref qa, .ref qh, .ref qm])), (q2, .inl (cI, 4, .inl (i4 y0 y1 y2 y3))), (h1, .inr (5, [.ref v1, .int (nI len1)])), (v1, .inl (cB, cp1, .inl (rsetw (rsetw (rsetw f1 len1 (nI at0) y0) len1 (nI (at0 + 4)) y1) len1 (nI (at0 + 8)) y2)))] H := hP
  have hD : va_D A [(h, .inr (1, [.ref q0, .ref q1, .ref q2, .int 1, .int tu, .ref qa, .ref qh, .ref qm])), (q2, .inl (cI, 4, .inl (i4 y0 y1 y2 y3))), (h1, .inr (5, [.ref v1, .int (nI len1)])), (v1, .inl (cB, cp1, .inl (rsetw (rsetw (rsetw f1 len1 (nI at0) y0) len1 (nI (at0 + 4)) y1) len1 (nI (at0 + 8)) y2)))] := hD
  refine lv_iinc (v := nI 3) (lv' := [(3, .int (nI 3)), (0, .ref h), (1, .ref h1), (2, .int (nI at0))]) hx hb d_C_writeTag_22 hl (k := 0) rfl (sb_inc (a := 2) (b := 3) (d := 1) rfl (by decide) (by omega)) (by decide) rfl (fun ls hl => ?_)
  refine lv_goto (tgt := 2) hx hb d_C_writeTag_25 (by decide) ?_
  refine lv_iload_n hx hb d_C_writeTag_2 rfl (lv_at hl 0 rfl) ?_
  refine lv_iconst (v := 4) hx hb d_C_writeTag_3 (by decide) ?_
  refine lv_icmp_ge (tgt := 28) hx hb d_C_writeTag_4 (by decide) (fun c_7 => absurd c_7 (sb_geF (a := 3) (b := 4) rfl rfl (by omega) (by omega) (by omega))) (fun c_7 => ?_)
  refine lv_aload_n hx hb d_C_writeTag_7 rfl (lv_at hl 2 rfl) ?_
  refine lv_iload_n hx hb d_C_writeTag_8 rfl (lv_at hl 3 rfl) ?_
  refine lv_iconst (v := 4) hx hb d_C_writeTag_9 (by decide) ?_
  refine lv_iload_n hx hb d_C_writeTag_10 rfl (lv_at hl 0 rfl) ?_
  refine lv_imul hx hb d_C_writeTag_11 ?_
  refine sb_topn 12 (sb_eqn (a := 4 * 3) (b := 12) (sb_mul (a := 4) (b := 3) rfl rfl) (by omega)) ?_
  refine lv_iadd hx hb d_C_writeTag_12 ?_
  refine sb_topn (at0 + 12) (nI_add at0 12) ?_
  refine lv_aload_n hx hb d_C_writeTag_13 rfl (lv_at hl 1 rfl) ?_
  refine va_get (D := D) (ci := 1) (v := .ref q2) (C := R_G) (T := F_G) (N := 8) hx hb hts in_G hown hG.1 hP 0 rfl rfl 2 (by decide) (hts _ k_126) (fun _ h9 => h9) rfl d_C_writeTag_14 ?_
  refine lv_iload_n hx hb d_C_writeTag_17 rfl (lv_at hl 0 rfl) ?_
  refine sb_ildv hx hb hG.1 hP 1 rfl 3 rfl (by omega) (by omega) (v := y3) rfl d_C_writeTag_18 ?_
  refine sb_callv (wr := [(h, .inr (1, [.ref q0, .ref q1, .ref q2, .int 1, .int tu, .ref qa, .ref qh, .ref qm])), (q2, .inl (cI, 4, .inl (i4 y0 y1 y2 y3)))]) (va_runV (As := [.int (nI (at0 + 12)), .int y3]) (rest := []) ⟨hx, hb, hml, hown, hts⟩ (c_R_setWord l D cI cL cB tS tF h1 v1 len1 cp1 (rsetw (rsetw (rsetw f1 len1 (nI at0) y0) len1 (nI (at0 + 4)) y1) len1 (nI (at0 + 8)) y2) (nI (at0 + 12)) y3 _ hl1 (by omega)) (cwV 2 hts (sb_gV k_619 k_364 k_365 k_23 k_366) rfl rfl rfl (by decide +kernel) ⟨Nat.le_of_ble_eq_true rfl, Nat.le_of_ble_eq_true rfl⟩) (sb_pV hG hP hD hS hA [2, 3] (by decide) rfl (ci := 5) (q0 := 2) rfl rfl) rfl rfl hl.1 rfl (lv_room (Nat.le_of_ble_eq_true rfl)) d_C_writeTag_19 ⟨Nat.le_of_ble_eq_true rfl, Nat.le_of_ble_eq_true rfl⟩) hP hD hS hA [2, 3] [0, 1] rfl rfl (by decide) (by decide) (fun u H locs hw_8 hP hD hS => ?_)
  have hP : va_P D vwCl [(h, .inr (1, [.ref q0, .ref q1, .ref q2, .int 1, .int tu, .ref qa, .ref qh, .ref qm])), (q2, .inl (cI, 4, .inl (i4 y0 y1 y2 y3))), (h1, .inr (5, [.ref v1, .int (nI len1)])), (v1, .inl (cB, cp1, .inl (rsetw (rsetw (rsetw (rsetw f1 len1 (nI at0) y0) len1 (nI (at0 + 4)) y1) len1 (nI (at0 + 8)) y2) len1 (nI (at0 + 12)) y3)))] H := hP
  have hD : va_D A [(h, .inr (1, [.ref q0, .ref q1, .ref q2, .int 1, .int tu, .ref qa, .ref qh, .ref qm])), (q2, .inl (cI, 4, .inl (i4 y0 y1 y2 y3))), (h1, .inr (5, [.ref v1, .int (nI len1)])), (v1, .inl (cB, cp1, .inl (rsetw (rsetw (rsetw (rsetw f1 len1 (nI at0) y0) len1 (nI (at0 + 4)) y1) len1 (nI (at0 + 8)) y2) len1 (nI (at0 + 12)) y3)))] := hD
  refine lv_iinc (v := nI 4) (lv' := [(3, .int (nI 4)), (0, .ref h), (1, .ref h1), (2, .int (nI at0))]) hx hb d_C_writeTag_22 hl (k := 0) rfl (sb_inc (a := 3) (b := 4) (d := 1) rfl (by decide) (by omega)) (by decide) rfl (fun ls hl => ?_)
  refine lv_goto (tgt := 2) hx hb d_C_writeTag_25 (by decide) ?_
  refine lv_iload_n hx hb d_C_writeTag_2 rfl (lv_at hl 0 rfl) ?_
  refine lv_iconst (v := 4) hx hb d_C_writeTag_3 (by decide) ?_
  refine lv_icmp_ge (tgt := 28) hx hb d_C_writeTag_4 (by decide) (fun c_9 => ?_) (fun c_9 => absurd (sb_geT (a := 4) (b := 4) rfl rfl (by omega) (by omega) (by omega)) c_9)
  have hP9 := hP.sub (ws' := [(h, .inr (1, [.ref q0, .ref q1, .ref q2, .int 1, .int tu, .ref qa, .ref qh, .ref qm])), (q2, .inl (cI, 4, .inl (i4 y0 y1 y2 y3))), (h1, .inr (5, [.ref v1, .int (nI len1)])), (v1, .inl (cB, cp1, .inl (rsetw (rsetw (rsetw (rsetw f1 len1 (nI at0) y0) len1 (nI (at0 + 4)) y1) len1 (nI (at0 + 8)) y2) len1 (nI (at0 + 12)) y3)))]) [0, 1, 2, 3] rfl
  have hD9 := hD.sub (ws' := [(h, .inr (1, [.ref q0, .ref q1, .ref q2, .int 1, .int tu, .ref qa, .ref qh, .ref qm])), (q2, .inl (cI, 4, .inl (i4 y0 y1 y2 y3))), (h1, .inr (5, [.ref v1, .int (nI len1)])), (v1, .inl (cB, cp1, .inl (rsetw (rsetw (rsetw (rsetw f1 len1 (nI at0) y0) len1 (nI (at0 + 4)) y1) len1 (nI (at0 + 8)) y2) len1 (nI (at0 + 12)) y3)))]) [0, 1, 2, 3] (by decide) rfl
  exact W.vret hx hb hr (fun t ht hW => ⟨⟨(), rfl, trivial, by rw [ht]; exact hP9, hD9⟩, hS.F ht⟩) hS.2.2 d_C_writeTag_28

theorem d_C_isTag_0 : decode b_C_isTag 0 = .ok (.iconst 0, 1) := by decide +kernel
theorem d_C_isTag_1 : decode b_C_isTag 1 = .ok (.istore_n 3, 1) := by decide +kernel
theorem d_C_isTag_2 : decode b_C_isTag 2 = .ok (.iconst 0, 1) := by decide +kernel
theorem d_C_isTag_3 : decode b_C_isTag 3 = .ok (.istore 4, 2) := by decide +kernel
theorem d_C_isTag_5 : decode b_C_isTag 5 = .ok (.iload 4, 2) := by decide +kernel
theorem d_C_isTag_7 : decode b_C_isTag 7 = .ok (.iconst 4, 1) := by decide +kernel
theorem d_C_isTag_8 : decode b_C_isTag 8 = .ok (.if_icmp .ge 34, 3) := by decide +kernel
theorem d_C_isTag_11 : decode b_C_isTag 11 = .ok (.iload_n 3, 1) := by decide +kernel
theorem d_C_isTag_12 : decode b_C_isTag 12 = .ok (.aload_n 1, 1) := by decide +kernel
theorem d_C_isTag_13 : decode b_C_isTag 13 = .ok (.iload_n 2, 1) := by decide +kernel
theorem d_C_isTag_14 : decode b_C_isTag 14 = .ok (.iconst 4, 1) := by decide +kernel
theorem d_C_isTag_15 : decode b_C_isTag 15 = .ok (.iload 4, 2) := by decide +kernel
theorem d_C_isTag_17 : decode b_C_isTag 17 = .ok (.imul, 1) := by decide +kernel
theorem d_C_isTag_18 : decode b_C_isTag 18 = .ok (.iadd, 1) := by decide +kernel
theorem d_C_isTag_19 : decode b_C_isTag 19 = .ok (.iload_n 2, 1) := by decide +kernel
theorem d_C_isTag_20 : decode b_C_isTag 20 = .ok (.bipush 16, 2) := by decide +kernel
theorem d_C_isTag_22 : decode b_C_isTag 22 = .ok (.iadd, 1) := by decide +kernel
theorem d_C_isTag_23 : decode b_C_isTag 23 = .ok (.invokevirtual 55, 3) := by decide +kernel
theorem d_C_isTag_26 : decode b_C_isTag 26 = .ok (.aload_n 0, 1) := by decide +kernel
theorem d_C_isTag_27 : decode b_C_isTag 27 = .ok (.getfield 15, 3) := by decide +kernel
theorem d_C_isTag_30 : decode b_C_isTag 30 = .ok (.iload 4, 2) := by decide +kernel
theorem d_C_isTag_32 : decode b_C_isTag 32 = .ok (.iaload, 1) := by decide +kernel
theorem d_C_isTag_33 : decode b_C_isTag 33 = .ok (.ixor, 1) := by decide +kernel
theorem d_C_isTag_34 : decode b_C_isTag 34 = .ok (.ior, 1) := by decide +kernel
theorem d_C_isTag_35 : decode b_C_isTag 35 = .ok (.istore_n 3, 1) := by decide +kernel
theorem d_C_isTag_36 : decode b_C_isTag 36 = .ok (.iinc 4 1, 3) := by decide +kernel
theorem d_C_isTag_39 : decode b_C_isTag 39 = .ok (.goto (-34), 3) := by decide +kernel
theorem d_C_isTag_42 : decode b_C_isTag 42 = .ok (.iload_n 3, 1) := by decide +kernel
theorem d_C_isTag_43 : decode b_C_isTag 43 = .ok (.ifCond .ne 7, 3) := by decide +kernel
theorem d_C_isTag_46 : decode b_C_isTag 46 = .ok (.iconst 1, 1) := by decide +kernel
theorem d_C_isTag_47 : decode b_C_isTag 47 = .ok (.goto 4, 3) := by decide +kernel
theorem d_C_isTag_50 : decode b_C_isTag 50 = .ok (.iconst 0, 1) := by decide +kernel
theorem d_C_isTag_51 : decode b_C_isTag 51 = .ok (.ireturn, 1) := by decide +kernel

def rm_C_isTagG : Room := { frames := 2, cells := 0, slots := 0, locals := 45 }
set_option maxHeartbeats 4000000 in
set_option maxRecDepth 100000 in
theorem c_C_isTagG (l : Launch) (D : va_G) (cI cL cB : ClassId) (tS tF : Nat) (h : Nat) (q0 : Nat) (q1 : Nat) (q2 : Nat) (qa : Nat) (qh : Nat) (qm : Nat) (tu : Int32) (y0 : Int32) (y1 : Int32) (y2 : Int32) (y3 : Int32) (h1 : Nat) (v1 : Nat) (len1 : Nat) (cp1 : Nat) (f1 : Nat → Int32) (at0 : Nat) (hl1 : len1 ≤ cp1) (hc1 : cp1 ≤ 100000) (ha : at0 ≤ 100000) : Met l y_C_isTag (sbw y_C_isTag b_C_isTag 5 (some .boolean)) rm_C_isTagG (sbPr D cI cL cB tS tF [.ref h, .ref h1, .int (nI at0)] [(h, .inr (1, [.ref q0, .ref q1, .ref q2, .int 1, .int tu, .ref qa, .ref qh, .ref qm])), (q2, .inl (cI, 4, .inl (i4 y0 y1 y2 y3))), (h1, .inr (5, [.ref v1, .int (nI len1)])), (v1, .inl (cB, cp1, .inl f1))]) (vp_Si (fun r => r = if dtag f1 len1 at0 y0 y1 y2 y3 = 0 then 1 else 0)) 0 0 (fun _ => False) := by
  refine sb_ofR (by decide) (Nat.le_of_ble_eq_true rfl) ?_
  intro p e s m args below meth c ls hx hb hr hml hts hown hlocks hP hG hS hl
  have hl : lv_has ls 5 [(0, .ref h), (1, .ref h1), (2, .int (nI at0))] := hl
  refine lv_iconst (v := 0) hx hb d_C_isTag_0 (by decide) ?_
  refine lv_istore_n (lv' := [(3, .int 0), (0, .ref h), (1, .ref h1), (2, .int (nI at0))]) hx hb d_C_isTag_1 rfl hl (by decide) rfl (fun ls hl => ?_)
  refine lv_iconst (v := 0) hx hb d_C_isTag_2 (by decide) ?_
  refine lv_istore (lv' := [(4, .int 0), (3, .int 0), (0, .ref h), (1, .ref h1), (2, .int (nI at0))]) hx hb d_C_isTag_3 hl (by decide) rfl (fun ls hl => ?_)
  refine lv_iload hx hb d_C_isTag_5 (lv_at hl 0 rfl) ?_
  refine lv_iconst (v := 4) hx hb d_C_isTag_7 (by decide) ?_
  refine lv_icmp_ge (tgt := 42) hx hb d_C_isTag_8 (by decide) (fun c_1 => absurd c_1 (sb_geF (a := 0) (b := 4) rfl rfl (by omega) (by omega) (by omega))) (fun c_1 => ?_)
  refine lv_iload_n hx hb d_C_isTag_11 rfl (lv_at hl 1 rfl) ?_
  refine lv_aload_n hx hb d_C_isTag_12 rfl (lv_at hl 3 rfl) ?_
  refine lv_iload_n hx hb d_C_isTag_13 rfl (lv_at hl 4 rfl) ?_
  refine lv_iconst (v := 4) hx hb d_C_isTag_14 (by decide) ?_
  refine lv_iload hx hb d_C_isTag_15 (lv_at hl 0 rfl) ?_
  refine lv_imul hx hb d_C_isTag_17 ?_
  refine sb_topn 0 (sb_eqn (a := 4 * 0) (b := 0) (sb_mul (a := 4) (b := 0) rfl rfl) (by omega)) ?_
  refine lv_iadd hx hb d_C_isTag_18 ?_
  refine sb_topn at0 (sb_eqn (a := at0 + 0) (b := at0) (nI_add at0 0) (by omega)) ?_
  refine lv_iload_n hx hb d_C_isTag_19 rfl (lv_at hl 4 rfl) ?_
  refine lv_bipush (v := 16) hx hb d_C_isTag_20 (by decide) ?_
  refine lv_iadd hx hb d_C_isTag_22 ?_
  refine sb_topn (at0 + 16) (nI_add at0 16) ?_
  refine vp_callSi (va_runV (As := [.int (nI at0), .int (nI (at0 + 16))]) (rest := [.int 0]) ⟨hx, hb, hml, hown, hts⟩ (c_R_word l D cI cL cB tS tF h1 v1 len1 cp1 f1 at0 (at0 + 16) hl1 (by omega) (by omega) (by omega)) (cwV 2 hts (sb_gV k_562 k_425 k_426 k_23 k_427) rfl rfl rfl (by decide +kernel) ⟨Nat.le_of_ble_eq_true rfl, Nat.le_of_ble_eq_true rfl⟩) (sb_rV hG hP hS [2, 3] rfl (ci := 5) (q0 := 2) rfl rfl) rfl rfl hl.1 rfl (lv_room (Nat.le_of_ble_eq_true rfl)) d_C_isTag_23 ⟨Nat.le_of_ble_eq_true rfl, Nat.le_of_ble_eq_true rfl⟩).run (fun r_2 er_2 => ?_)
  subst er_2
  refine lv_aload_n hx hb d_C_isTag_26 rfl (lv_at hl 2 rfl) ?_
  refine va_get (D := D) (ci := 1) (v := .ref q2) (C := R_G) (T := F_G) (N := 8) hx hb hts in_G hown hG.1 hP 0 rfl rfl 2 (by decide) (hts _ k_126) (fun _ h9 => h9) rfl d_C_isTag_27 ?_
  refine lv_iload hx hb d_C_isTag_30 (lv_at hl 0 rfl) ?_
  refine sb_ildv hx hb hG.1 hP 1 rfl 0 rfl (by omega) (by omega) (v := y0) rfl d_C_isTag_32 ?_
  refine lv_ixor hx hb d_C_isTag_33 ?_
  refine lv_ior hx hb d_C_isTag_34 ?_
  refine lv_topi (fun x_3 ex_3 => ?_)
  refine lv_istore_n (lv' := [(3, .int x_3), (4, .int 0), (0, .ref h), (1, .ref h1), (2, .int (nI at0))]) hx hb d_C_isTag_35 rfl hl (by decide) rfl (fun ls hl => ?_)
  refine lv_iinc (v := nI 1) (lv' := [(4, .int (nI 1)), (3, .int x_3), (0, .ref h), (1, .ref h1), (2, .int (nI at0))]) hx hb d_C_isTag_36 hl (k := 1) rfl (sb_inc (a := 0) (b := 1) (d := 1) rfl (by decide) (by omega)) (by decide) rfl (fun ls hl => ?_)
  refine lv_goto (tgt := 5) hx hb d_C_isTag_39 (by decide) ?_
  refine lv_iload hx hb d_C_isTag_5 (lv_at hl 0 rfl) ?_
  refine lv_iconst (v := 4) hx hb d_C_isTag_7 (by decide) ?_
  refine lv_icmp_ge (tgt := 42) hx hb d_C_isTag_8 (by decide) (fun c_4 => absurd c_4 (sb_geF (a := 1) (b := 4) rfl rfl (by omega) (by omega) (by omega))) (fun c_4 => ?_)
  refine lv_iload_n hx hb d_C_isTag_11 rfl (lv_at hl 1 rfl) ?_
  refine lv_aload_n hx hb d_C_isTag_12 rfl (lv_at hl 3 rfl) ?_
  refine lv_iload_n hx hb d_C_isTag_13 rfl (lv_at hl 4 rfl) ?_
  refine lv_iconst (v := 4) hx hb d_C_isTag_14 (by decide) ?_
  refine lv_iload hx hb d_C_isTag_15 (lv_at hl 0 rfl) ?_
  refine lv_imul hx hb d_C_isTag_17 ?_
  refine sb_topn 4 (sb_eqn (a := 4 * 1) (b := 4) (sb_mul (a := 4) (b := 1) rfl rfl) (by omega)) ?_
  refine lv_iadd hx hb d_C_isTag_18 ?_
  refine sb_topn (at0 + 4) (nI_add at0 4) ?_
  refine lv_iload_n hx hb d_C_isTag_19 rfl (lv_at hl 4 rfl) ?_
  refine lv_bipush (v := 16) hx hb d_C_isTag_20 (by decide) ?_
  refine lv_iadd hx hb d_C_isTag_22 ?_
  refine sb_topn (at0 + 16) (nI_add at0 16) ?_
  refine vp_callSi (va_runV (As := [.int (nI (at0 + 4)), .int (nI (at0 + 16))]) (rest := [.int x_3]) ⟨hx, hb, hml, hown, hts⟩ (c_R_word l D cI cL cB tS tF h1 v1 len1 cp1 f1 (at0 + 4) (at0 + 16) hl1 (by omega) (by omega) (by omega)) (cwV 2 hts (sb_gV k_562 k_425 k_426 k_23 k_427) rfl rfl rfl (by decide +kernel) ⟨Nat.le_of_ble_eq_true rfl, Nat.le_of_ble_eq_true rfl⟩) (sb_rV hG hP hS [2, 3] rfl (ci := 5) (q0 := 2) rfl rfl) rfl rfl hl.1 rfl (lv_room (Nat.le_of_ble_eq_true rfl)) d_C_isTag_23 ⟨Nat.le_of_ble_eq_true rfl, Nat.le_of_ble_eq_true rfl⟩).run (fun r_5 er_5 => ?_)
  subst er_5
  refine lv_aload_n hx hb d_C_isTag_26 rfl (lv_at hl 2 rfl) ?_
  refine va_get (D := D) (ci := 1) (v := .ref q2) (C := R_G) (T := F_G) (N := 8) hx hb hts in_G hown hG.1 hP 0 rfl rfl 2 (by decide) (hts _ k_126) (fun _ h9 => h9) rfl d_C_isTag_27 ?_
  refine lv_iload hx hb d_C_isTag_30 (lv_at hl 0 rfl) ?_
  refine sb_ildv hx hb hG.1 hP 1 rfl 1 rfl (by omega) (by omega) (v := y1) rfl d_C_isTag_32 ?_
  refine lv_ixor hx hb d_C_isTag_33 ?_
  refine lv_ior hx hb d_C_isTag_34 ?_
  refine lv_topi (fun x_6 ex_6 => ?_)
  refine lv_istore_n (lv' := [(3, .int x_6), (4, .int (nI 1)), (0, .ref h), (1, .ref h1), (2, .int (nI at0))]) hx hb d_C_isTag_35 rfl hl (by decide) rfl (fun ls hl => ?_)
  refine lv_iinc (v := nI 2) (lv' := [(4, .int (nI 2)), (3, .int x_6), (0, .ref h), (1, .ref h1), (2, .int (nI at0))]) hx hb d_C_isTag_36 hl (k := 1) rfl (sb_inc (a := 1) (b := 2) (d := 1) rfl (by decide) (by omega)) (by decide) rfl (fun ls hl => ?_)
  refine lv_goto (tgt := 5) hx hb d_C_isTag_39 (by decide) ?_
  refine lv_iload hx hb d_C_isTag_5 (lv_at hl 0 rfl) ?_
  refine lv_iconst (v := 4) hx hb d_C_isTag_7 (by decide) ?_
  refine lv_icmp_ge (tgt := 42) hx hb d_C_isTag_8 (by decide) (fun c_7 => absurd c_7 (sb_geF (a := 2) (b := 4) rfl rfl (by omega) (by omega) (by omega))) (fun c_7 => ?_)
  refine lv_iload_n hx hb d_C_isTag_11 rfl (lv_at hl 1 rfl) ?_
  refine lv_aload_n hx hb d_C_isTag_12 rfl (lv_at hl 3 rfl) ?_
  refine lv_iload_n hx hb d_C_isTag_13 rfl (lv_at hl 4 rfl) ?_
  refine lv_iconst (v := 4) hx hb d_C_isTag_14 (by decide) ?_
  refine lv_iload hx hb d_C_isTag_15 (lv_at hl 0 rfl) ?_
  refine lv_imul hx hb d_C_isTag_17 ?_
  refine sb_topn 8 (sb_eqn (a := 4 * 2) (b := 8) (sb_mul (a := 4) (b := 2) rfl rfl) (by omega)) ?_
  refine lv_iadd hx hb d_C_isTag_18 ?_
  refine sb_topn (at0 + 8) (nI_add at0 8) ?_
  refine lv_iload_n hx hb d_C_isTag_19 rfl (lv_at hl 4 rfl) ?_
  refine lv_bipush (v := 16) hx hb d_C_isTag_20 (by decide) ?_
  refine lv_iadd hx hb d_C_isTag_22 ?_
  refine sb_topn (at0 + 16) (nI_add at0 16) ?_
  refine vp_callSi (va_runV (As := [.int (nI (at0 + 8)), .int (nI (at0 + 16))]) (rest := [.int x_6]) ⟨hx, hb, hml, hown, hts⟩ (c_R_word l D cI cL cB tS tF h1 v1 len1 cp1 f1 (at0 + 8) (at0 + 16) hl1 (by omega) (by omega) (by omega)) (cwV 2 hts (sb_gV k_562 k_425 k_426 k_23 k_427) rfl rfl rfl (by decide +kernel) ⟨Nat.le_of_ble_eq_true rfl, Nat.le_of_ble_eq_true rfl⟩) (sb_rV hG hP hS [2, 3] rfl (ci := 5) (q0 := 2) rfl rfl) rfl rfl hl.1 rfl (lv_room (Nat.le_of_ble_eq_true rfl)) d_C_isTag_23 ⟨Nat.le_of_ble_eq_true rfl, Nat.le_of_ble_eq_true rfl⟩).run (fun r_8 er_8 => ?_)
  subst er_8
  refine lv_aload_n hx hb d_C_isTag_26 rfl (lv_at hl 2 rfl) ?_
  refine va_get (D := D) (ci := 1) (v := .ref q2) (C := R_G) (T := F_G) (N := 8) hx hb hts in_G hown hG.1 hP 0 rfl rfl 2 (by decide) (hts _ k_126) (fun _ h9 => h9) rfl d_C_isTag_27 ?_
  refine lv_iload hx hb d_C_isTag_30 (lv_at hl 0 rfl) ?_
  refine sb_ildv hx hb hG.1 hP 1 rfl 2 rfl (by omega) (by omega) (v := y2) rfl d_C_isTag_32 ?_
  refine lv_ixor hx hb d_C_isTag_33 ?_
  refine lv_ior hx hb d_C_isTag_34 ?_
  refine lv_topi (fun x_9 ex_9 => ?_)
  refine lv_istore_n (lv' := [(3, .int x_9), (4, .int (nI 2)), (0, .ref h), (1, .ref h1), (2, .int (nI at0))]) hx hb d_C_isTag_35 rfl hl (by decide) rfl (fun ls hl => ?_)
  refine lv_iinc (v := nI 3) (lv' := [(4, .int (nI 3)), (3, .int x_9), (0, .ref h), (1, .ref h1), (2, .int (nI at0))]) hx hb d_C_isTag_36 hl (k := 1) rfl (sb_inc (a := 2) (b := 3) (d := 1) rfl (by decide) (by omega)) (by decide) rfl (fun ls hl => ?_)
  refine lv_goto (tgt := 5) hx hb d_C_isTag_39 (by decide) ?_
  refine lv_iload hx hb d_C_isTag_5 (lv_at hl 0 rfl) ?_
  refine lv_iconst (v := 4) hx hb d_C_isTag_7 (by decide) ?_
  refine lv_icmp_ge (tgt := 42) hx hb d_C_isTag_8 (by decide) (fun c_10 => absurd c_10 (sb_geF (a := 3) (b := 4) rfl rfl (by omega) (by omega) (by omega))) (fun c_10 => ?_)
  refine lv_iload_n hx hb d_C_isTag_11 rfl (lv_at hl 1 rfl) ?_
  refine lv_aload_n hx hb d_C_isTag_12 rfl (lv_at hl 3 rfl) ?_
  refine lv_iload_n hx hb d_C_isTag_13 rfl (lv_at hl 4 rfl) ?_
  refine lv_iconst (v := 4) hx hb d_C_isTag_14 (by decide) ?_
  refine lv_iload hx hb d_C_isTag_15 (lv_at hl 0 rfl) ?_
  refine lv_imul hx hb d_C_isTag_17 ?_
  refine sb_topn 12 (sb_eqn (a := 4 * 3) (b := 12) (sb_mul (a := 4) (b := 3) rfl rfl) (by omega)) ?_
  refine lv_iadd hx hb d_C_isTag_18 ?_
  refine sb_topn (at0 + 12) (nI_add at0 12) ?_
  refine lv_iload_n hx hb d_C_isTag_19 rfl (lv_at hl 4 rfl) ?_
  refine lv_bipush (v := 16) hx hb d_C_isTag_20 (by decide) ?_
  refine lv_iadd hx hb d_C_isTag_22 ?_
  refine sb_topn (at0 + 16) (nI_add at0 16) ?_
  refine vp_callSi (va_runV (As := [.int (nI (at0 + 12)), .int (nI (at0 + 16))]) (rest := [.int x_9]) ⟨hx, hb, hml, hown, hts⟩ (c_R_word l D cI cL cB tS tF h1 v1 len1 cp1 f1 (at0 + 12) (at0 + 16) hl1 (by omega) (by omega) (by omega)) (cwV 2 hts (sb_gV k_562 k_425 k_426 k_23 k_427) rfl rfl rfl (by decide +kernel) ⟨Nat.le_of_ble_eq_true rfl, Nat.le_of_ble_eq_true rfl⟩) (sb_rV hG hP hS [2, 3] rfl (ci := 5) (q0 := 2) rfl rfl) rfl rfl hl.1 rfl (lv_room (Nat.le_of_ble_eq_true rfl)) d_C_isTag_23 ⟨Nat.le_of_ble_eq_true rfl, Nat.le_of_ble_eq_true rfl⟩).run (fun r_11 er_11 => ?_)
  subst er_11
  refine lv_aload_n hx hb d_C_isTag_26 rfl (lv_at hl 2 rfl) ?_
  refine va_get (D := D) (ci := 1) (v := .ref q2) (C := R_G) (T := F_G) (N := 8) hx hb hts in_G hown hG.1 hP 0 rfl rfl 2 (by decide) (hts _ k_126) (fun _ h9 => h9) rfl d_C_isTag_27 ?_
  refine lv_iload hx hb d_C_isTag_30 (lv_at hl 0 rfl) ?_
  refine sb_ildv hx hb hG.1 hP 1 rfl 3 rfl (by omega) (by omega) (v := y3) rfl d_C_isTag_32 ?_
  refine lv_ixor hx hb d_C_isTag_33 ?_
  refine lv_ior hx hb d_C_isTag_34 ?_
  refine lv_topi (fun x_12 ex_12 => ?_)
  refine lv_istore_n (lv' := [(3, .int x_12), (4, .int (nI 3)), (0, .ref h), (1, .ref h1), (2, .int (nI at0))]) hx hb d_C_isTag_35 rfl hl (by decide) rfl (fun ls hl => ?_)
  refine lv_iinc (v := nI 4) (lv' := [(4, .int (nI 4)), (3, .int x_12), (0, .ref h), (1, .ref h1), (2, .int (nI at0))]) hx hb d_C_isTag_36 hl (k := 1) rfl (sb_inc (a := 3) (b := 4) (d := 1) rfl (by decide) (by omega)) (by decide) rfl (fun ls hl => ?_)
  refine lv_goto (tgt := 5) hx hb d_C_isTag_39 (by decide) ?_
  refine lv_iload hx hb d_C_isTag_5 (lv_at hl 0 rfl) ?_
  refine lv_iconst (v := 4) hx hb d_C_isTag_7 (by decide) ?_
  refine lv_icmp_ge (tgt := 42) hx hb d_C_isTag_8 (by decide) (fun c_13 => ?_) (fun c_13 => absurd (sb_geT (a := 4) (b := 4) rfl rfl (by omega) (by omega) (by omega)) c_13)
  refine lv_iload_n hx hb d_C_isTag_42 rfl (lv_at hl 1 rfl) ?_
  refine lv_if_ne (tgt := 50) hx hb d_C_isTag_43 (by decide) (fun c_14 => ?_) (fun c_14 => ?_)
  · refine lv_iconst (v := 0) hx hb d_C_isTag_50 (by decide) ?_
    exact W.zret (v := 0) hx hb hr (by decide) (fun t ht hW => ⟨_, rfl, (by rw [show dtag f1 len1 at0 y0 y1 y2 y3 = x_12 from (by (try simp only [ex_12, ex_9, ex_6, ex_3]); (try rfl))]; exact (if_neg c_14).symm), ht⟩) hS.2.2 d_C_isTag_51
  · refine lv_iconst (v := 1) hx hb d_C_isTag_46 (by decide) ?_
    refine lv_goto (tgt := 51) hx hb d_C_isTag_47 (by decide) ?_
    exact W.zret (v := 1) hx hb hr (by decide) (fun t ht hW => ⟨_, rfl, (by rw [show dtag f1 len1 at0 y0 y1 y2 y3 = x_12 from (by (try simp only [ex_12, ex_9, ex_6, ex_3]); (try rfl))]; exact (if_pos c_14).symm), ht⟩) hS.2.2 d_C_isTag_51

def rm_C_setNonceH : Room := { frames := 0, cells := 0, slots := 0, locals := 0 }
set_option maxHeartbeats 4000000 in
set_option maxRecDepth 100000 in
theorem c_C_setNonceH (l : Launch) (D : va_G) (cI cL cB : ClassId) (tS tF : Nat) (h : Nat) (q0 : Nat) (q1 : Nat) (q2 : Nat) (q3 : Nat) (q4 : Nat) (q5 : Nat) (tu : Int32) (n0 : Int32) (n1 : Int32) (n2 : Int32) (a : Int32) (bb : Int32) (c0 : Int32) (num : Int64) (sz : Nat)  : Met l y_C_setNonce (sbw y_C_setNonce b_C_setNonce 6 none) rm_C_setNonceH (sbPc D cI cL cB tS tF [.ref h, .int a, .int bb, .int c0, .long num] sz [(h, .inr (2, [.ref q0, .ref q1, .ref q2, .int 0, .int tu, .ref q3, .ref q4, .ref q5])), (q0, .inl (cI, 3, .inl (i3 n0 n1 n2)))]) (sbQv D (fun (_ : Unit) => True) (fun (_ : Unit) => [(h, .inr (2, [.ref q0, .ref q1, .ref q2, .int 0, .int tu, .ref q3, .ref q4, .ref q5])), (q0, .inl (cI, 3, .inl (i3 a (bb ^^^ (uL num 32).toInt32) (c0 ^^^ num.toInt32))))]) (va_A [(h, .inr (2, [.ref q0, .ref q1, .ref q2, .int 0, .int tu, .ref q3, .ref q4, .ref q5])), (q0, .inl (cI, 3, .inl (i3 n0 n1 n2)))] sz)) 0 0 (va_A [(h, .inr (2, [.ref q0, .ref q1, .ref q2, .int 0, .int tu, .ref q3, .ref q4, .ref q5])), (q0, .inl (cI, 3, .inl (i3 n0 n1 n2)))] sz) := by
  refine sb_ofW (Qc := fun A => (sbQv D (fun (_ : Unit) => True) (fun (_ : Unit) => [(h, .inr (2, [.ref q0, .ref q1, .ref q2, .int 0, .int tu, .ref q3, .ref q4, .ref q5])), (q0, .inl (cI, 3, .inl (i3 a (bb ^^^ (uL num 32).toInt32) (c0 ^^^ num.toInt32))))]) A)) (by decide) (Nat.le_of_ble_eq_true rfl) ?_
  intro p e s m args below meth c A ls hx hb hr hml hts hown hlocks hin hsz hP hG hD hA hS hl
  have hl : lv_has ls 6 [(0, .ref h), (1, .int a), (2, .int bb), (3, .int c0), (4, .long num)] := hl
  refine lv_aload_n hx hb d_C_setNonce_0 rfl (lv_at hl 0 rfl) ?_
  refine va_get (D := D) (ci := 2) (v := .ref q0) (C := R_H) (T := F_H) (N := 8) hx hb hts in_H hown hG.1 hP 0 rfl rfl 0 (by decide) (hts _ k_116) (fun _ h9 => h9) rfl d_C_setNonce_1 ?_
  refine lv_iconst (v := 0) hx hb d_C_setNonce_4 (by decide) ?_
  refine lv_iload_n hx hb d_C_setNonce_5 rfl (lv_at hl 1 rfl) ?_
  refine sb_ist hx hb hG.1 hP hD hS 1 rfl 0 rfl (by omega) (by omega) d_C_setNonce_6 (fun f_1 H locs ef_1 hP hD hS => ?_)
  have hP : va_P D vwCl [(h, .inr (2, [.ref q0, .ref q1, .ref q2, .int 0, .int tu, .ref q3, .ref q4, .ref q5])), (q0, .inl (cI, 3, .inl f_1))] H := hP
  have hD : va_D A [(h, .inr (2, [.ref q0, .ref q1, .ref q2, .int 0, .int tu, .ref q3, .ref q4, .ref q5])), (q0, .inl (cI, 3, .inl f_1))] := hD
  obtain rfl : f_1 = i3 a n1 n2 := ef_1.trans (i3_set0 ..)
  refine lv_aload_n hx hb d_C_setNonce_7 rfl (lv_at hl 0 rfl) ?_
  refine va_get (D := D) (ci := 2) (v := .ref q0) (C := R_H) (T := F_H) (N := 8) hx hb hts in_H hown hG.1 hP 0 rfl rfl 0 (by decide) (hts _ k_116) (fun _ h9 => h9) rfl d_C_setNonce_8 ?_
  refine lv_iconst (v := 1) hx hb d_C_setNonce_11 (by decide) ?_
  refine lv_iload_n hx hb d_C_setNonce_12 rfl (lv_at hl 2 rfl) ?_
  refine lv_lload hx hb d_C_setNonce_13 (lv_at hl 4 rfl) ?_
  refine lv_bipush (v := 32) hx hb d_C_setNonce_15 (by decide) ?_
  refine lv_lushr (v := uL num 32) hx hb d_C_setNonce_17 rfl ?_
  refine lv_l2i (v := (uL num 32).toInt32) hx hb d_C_setNonce_18 rfl ?_
  refine lv_ixor hx hb d_C_setNonce_19 ?_
  refine lv_topi (fun x_2 ex_2 => ?_)
  refine sb_ist hx hb hG.1 hP hD hS 1 rfl 1 rfl (by omega) (by omega) d_C_setNonce_20 (fun f_3 H locs ef_3 hP hD hS => ?_)
  have hP : va_P D vwCl [(h, .inr (2, [.ref q0, .ref q1, .ref q2, .int 0, .int tu, .ref q3, .ref q4, .ref q5])), (q0, .inl (cI, 3, .inl f_3))] H := hP
  have hD : va_D A [(h, .inr (2, [.ref q0, .ref q1, .ref q2, .int 0, .int tu, .ref q3, .ref q4, .ref q5])), (q0, .inl (cI, 3, .inl f_3))] := hD
  obtain rfl : f_3 = i3 a x_2 n2 := ef_3.trans (i3_set1 ..)
  refine lv_aload_n hx hb d_C_setNonce_21 rfl (lv_at hl 0 rfl) ?_
  refine va_get (D := D) (ci := 2) (v := .ref q0) (C := R_H) (T := F_H) (N := 8) hx hb hts in_H hown hG.1 hP 0 rfl rfl 0 (by decide) (hts _ k_116) (fun _ h9 => h9) rfl d_C_setNonce_22 ?_
  refine lv_iconst (v := 2) hx hb d_C_setNonce_25 (by decide) ?_
  refine lv_iload_n hx hb d_C_setNonce_26 rfl (lv_at hl 3 rfl) ?_
  refine lv_lload hx hb d_C_setNonce_27 (lv_at hl 4 rfl) ?_
  refine lv_l2i (v := num.toInt32) hx hb d_C_setNonce_29 rfl ?_
  refine lv_ixor hx hb d_C_setNonce_30 ?_
  refine lv_topi (fun x_4 ex_4 => ?_)
  refine sb_ist hx hb hG.1 hP hD hS 1 rfl 2 rfl (by omega) (by omega) d_C_setNonce_31 (fun f_5 H locs ef_5 hP hD hS => ?_)
  have hP : va_P D vwCl [(h, .inr (2, [.ref q0, .ref q1, .ref q2, .int 0, .int tu, .ref q3, .ref q4, .ref q5])), (q0, .inl (cI, 3, .inl f_5))] H := hP
  have hD : va_D A [(h, .inr (2, [.ref q0, .ref q1, .ref q2, .int 0, .int tu, .ref q3, .ref q4, .ref q5])), (q0, .inl (cI, 3, .inl f_5))] := hD
  obtain rfl : f_5 = i3 a x_2 x_4 := ef_5.trans (i3_set2 ..)
  subst ex_4
  subst ex_2
  have hP9 := hP.sub (ws' := [(h, .inr (2, [.ref q0, .ref q1, .ref q2, .int 0, .int tu, .ref q3, .ref q4, .ref q5])), (q0, .inl (cI, 3, .inl (i3 a (bb ^^^ ((uL num 32).toInt32)) (c0 ^^^ num.toInt32))))]) [0, 1] rfl
  have hD9 := hD.sub (ws' := [(h, .inr (2, [.ref q0, .ref q1, .ref q2, .int 0, .int tu, .ref q3, .ref q4, .ref q5])), (q0, .inl (cI, 3, .inl (i3 a (bb ^^^ ((uL num 32).toInt32)) (c0 ^^^ num.toInt32))))]) [0, 1] (by decide) rfl
  exact W.vret hx hb hr (fun t ht hW => ⟨⟨(), rfl, trivial, by rw [ht]; exact hP9, hD9⟩, hS.F ht⟩) hS.2.2 d_C_setNonce_32

def rm_C_writeTagH : Room := { frames := 2, cells := 0, slots := 0, locals := 44 }
set_option maxHeartbeats 4000000 in
set_option maxRecDepth 100000 in
theorem c_C_writeTagH (l : Launch) (D : va_G) (cI cL cB : ClassId) (tS tF : Nat) (h : Nat) (q0 : Nat) (q1 : Nat) (q2 : Nat) (q3 : Nat) (q4 : Nat) (q5 : Nat) (tu : Int32) (y0 : Int32) (y1 : Int32) (y2 : Int32) (y3 : Int32) (h1 : Nat) (v1 : Nat) (len1 : Nat) (cp1 : Nat) (f1 : Nat → Int32) (at0 : Nat) (sz : Nat) (hl1 : len1 ≤ cp1) (hc1 : cp1 ≤ 100000) (ha : at0 ≤ 100000) : Met l y_C_writeTag (sbw y_C_writeTag b_C_writeTag 4 none) rm_C_writeTagH (sbPc D cI cL cB tS tF [.ref h, .ref h1, .int (nI at0)] sz [(h, .inr (2, [.ref q0, .ref q1, .ref q2, .int 0, .int tu, .ref q3, .ref q4, .ref q5])), (q2, .inl (cI, 4, .inl (i4 y0 y1 y2 y3))), (h1, .inr (5, [.ref v1, .int (nI len1)])), (v1, .inl (cB, cp1, .inl f1))]) (sbQv D (fun (_ : Unit) => True) (fun (_ : Unit) => [(h, .inr (2, [.ref q0, .ref q1, .ref q2, .int 0, .int tu, .ref q3, .ref q4, .ref q5])), (q2, .inl (cI, 4, .inl (i4 y0 y1 y2 y3))), (h1, .inr (5, [.ref v1, .int (nI len1)])), (v1, .inl (cB, cp1, .inl (wtag f1 len1 at0 y0 y1 y2 y3)))]) (va_A [(h, .inr (2, [.ref q0, .ref q1, .ref q2, .int 0, .int tu, .ref q3, .ref q4, .ref q5])), (q2, .inl (cI, 4, .inl (i4 y0 y1 y2 y3))), (h1, .inr (5, [.ref v1, .int (nI len1)])), (v1, .inl (cB, cp1, .inl f1))] sz)) 0 0 (va_A [(h, .inr (2, [.ref q0, .ref q1, .ref q2, .int 0, .int tu, .ref q3, .ref q4, .ref q5])), (q2, .inl (cI, 4, .inl (i4 y0 y1 y2 y3))), (h1, .inr (5, [.ref v1, .int (nI len1)])), (v1, .inl (cB, cp1, .inl f1))] sz) := by
  refine sb_ofW (Qc := fun A => (sbQv D (fun (_ : Unit) => True) (fun (_ : Unit) => [(h, .inr (2, [.ref q0, .ref q1, .ref q2, .int 0, .int tu, .ref q3, .ref q4, .ref q5])), (q2, .inl (cI, 4, .inl (i4 y0 y1 y2 y3))), (h1, .inr (5, [.ref v1, .int (nI len1)])), (v1, .inl (cB, cp1, .inl (wtag f1 len1 at0 y0 y1 y2 y3)))]) A)) (by decide) (Nat.le_of_ble_eq_true rfl) ?_
  intro p e s m args below meth c A ls hx hb hr hml hts hown hlocks hin hsz hP hG hD hA hS hl
  have hl : lv_has ls 4 [(0, .ref h), (1, .ref h1), (2, .int (nI at0))] := hl
  refine lv_iconst (v := 0) hx hb d_C_writeTag_0 (by decide) ?_
  refine lv_istore_n (lv' := [(3, .int 0), (0, .ref h), (1, .ref h1), (2, .int (nI at0))]) hx hb d_C_writeTag_1 rfl hl (by decide) rfl (fun ls hl => ?_)
  refine lv_iload_n hx hb d_C_writeTag_2 rfl (lv_at hl 0 rfl) ?_
  refine lv_iconst (v := 4) hx hb d_C_writeTag_3 (by decide) ?_
  refine lv_icmp_ge (tgt := 28) hx hb d_C_writeTag_4 (by decide) (fun c_1 => absurd c_1 (sb_geF (a := 0) (b := 4) rfl rfl (by omega) (by omega) (by omega))) (fun c_1 => ?_)
  refine lv_aload_n hx hb d_C_writeTag_7 rfl (lv_at hl 2 rfl) ?_
  refine lv_iload_n hx hb d_C_writeTag_8 rfl (lv_at hl 3 rfl) ?_
  refine lv_iconst (v := 4) hx hb d_C_writeTag_9 (by decide) ?_
  refine lv_iload_n hx hb d_C_writeTag_10 rfl (lv_at hl 0 rfl) ?_
  refine lv_imul hx hb d_C_writeTag_11 ?_
  refine sb_topn 0 (sb_eqn (a := 4 * 0) (b := 0) (sb_mul (a := 4) (b := 0) rfl rfl) (by omega)) ?_
  refine lv_iadd hx hb d_C_writeTag_12 ?_
  refine sb_topn at0 (sb_eqn (a := at0 + 0) (b := at0) (nI_add at0 0) (by omega)) ?_
  refine lv_aload_n hx hb d_C_writeTag_13 rfl (lv_at hl 1 rfl) ?_
  refine va_get (D := D) (ci := 2) (v := .ref q2) (C := R_H) (T := F_H) (N := 8) hx hb hts in_H hown hG.1 hP 0 rfl rfl 2 (by decide) (hts _ k_126) (fun _ h9 => h9) rfl d_C_writeTag_14 ?_
  refine lv_iload_n hx hb d_C_writeTag_17 rfl (lv_at hl 0 rfl) ?_
  refine sb_ildv hx hb hG.1 hP 1 rfl 0 rfl (by omega) (by omega) (v := y0) rfl d_C_writeTag_18 ?_
  refine sb_callv (wr := [(h, .inr (2, [.ref q0, .ref q1, .ref q2, .int 0, .int tu, .ref q3, .ref q4, .ref q5])), (q2, .inl (cI, 4, .inl (i4 y0 y1 y2 y3)))]) (va_runV (As := [.int (nI at0), .int y0]) (rest := []) ⟨hx, hb, hml, hown, hts⟩ (c_R_setWord l D cI cL cB tS tF h1 v1 len1 cp1 f1 (nI at0) y0 _ hl1 (by omega)) (cwV 2 hts (sb_gV k_619 k_364 k_365 k_23 k_366) rfl rfl rfl (by decide +kernel) ⟨Nat.le_of_ble_eq_true rfl, Nat.le_of_ble_eq_true rfl⟩) (sb_pV hG hP hD hS hA [2, 3] (by decide) rfl (ci := 5) (q0 := 2) rfl rfl) rfl rfl hl.1 rfl (lv_room (Nat.le_of_ble_eq_true rfl)) d_C_writeTag_19 ⟨Nat.le_of_ble_eq_true rfl, Nat.le_of_ble_eq_true rfl⟩) hP hD hS hA [2, 3] [0, 1] rfl rfl (by decide) (by decide) (fun u H locs hw_2 hP hD hS => ?_)
  have hP : va_P D vwCl [(h, .inr (2, [.ref q0, .ref q1, .ref q2, .int 0, .int tu, .ref q3, .ref q4, .ref q5])), (q2, .inl (cI, 4, .inl (i4 y0 y1 y2 y3))), (h1, .inr (5, [.ref v1, .int (nI len1)])), (v1, .inl (cB, cp1, .inl (rsetw f1 len1 (nI at0) y0)))] H := hP
  have hD : va_D A [(h, .inr (2, [.ref q0, .ref q1, .ref q2, .int 0, .int tu, .ref q3, .ref q4, .ref q5])), (q2, .inl (cI, 4, .inl (i4 y0 y1 y2 y3))), (h1, .inr (5, [.ref v1, .int (nI len1)])), (v1, .inl (cB, cp1, .inl (rsetw f1 len1 (nI at0) y0)))] := hD
  refine lv_iinc (v := nI 1) (lv' := [(3, .int (nI 1)), (0, .ref h), (1, .ref h1), (2, .int (nI at0))]) hx hb d_C_writeTag_22 hl (k := 0) rfl (sb_inc (a := 0) (b := 1) (d := 1) rfl (by decide) (by omega)) (by decide) rfl (fun ls hl => ?_)
  refine lv_goto (tgt := 2) hx hb d_C_writeTag_25 (by decide) ?_
  refine lv_iload_n hx hb d_C_writeTag_2 rfl (lv_at hl 0 rfl) ?_
  refine lv_iconst (v := 4) hx hb d_C_writeTag_3 (by decide) ?_
  refine lv_icmp_ge (tgt := 28) hx hb d_C_writeTag_4 (by decide) (fun c_3 => absurd c_3 (sb_geF (a := 1) (b := 4) rfl rfl (by omega) (by omega) (by omega))) (fun c_3 => ?_)
  refine lv_aload_n hx hb d_C_writeTag_7 rfl (lv_at hl 2 rfl) ?_
  refine lv_iload_n hx hb d_C_writeTag_8 rfl (lv_at hl 3 rfl) ?_
  refine lv_iconst (v := 4) hx hb d_C_writeTag_9 (by decide) ?_
  refine lv_iload_n hx hb d_C_writeTag_10 rfl (lv_at hl 0 rfl) ?_
  refine lv_imul hx hb d_C_writeTag_11 ?_
  refine sb_topn 4 (sb_eqn (a := 4 * 1) (b := 4) (sb_mul (a := 4) (b := 1) rfl rfl) (by omega)) ?_
  refine lv_iadd hx hb d_C_writeTag_12 ?_
  refine sb_topn (at0 + 4) (nI_add at0 4) ?_
  refine lv_aload_n hx hb d_C_writeTag_13 rfl (lv_at hl 1 rfl) ?_
  refine va_get (D := D) (ci := 2) (v := .ref q2) (C := R_H) (T := F_H) (N := 8) hx hb hts in_H hown hG.1 hP 0 rfl rfl 2 (by decide) (hts _ k_126) (fun _ h9 => h9) rfl d_C_writeTag_14 ?_
  refine lv_iload_n hx hb d_C_writeTag_17 rfl (lv_at hl 0 rfl) ?_
  refine sb_ildv hx hb hG.1 hP 1 rfl 1 rfl (by omega) (by omega) (v := y1) rfl d_C_writeTag_18 ?_
  refine sb_callv (wr := [(h, .inr (2, [.ref q0, .ref q1, .ref q2, .int 0, .int tu, .ref q3, .ref q4, .ref q5])), (q2, .inl (cI, 4, .inl (i4 y0 y1 y2 y3)))]) (va_runV (As := [.int (nI (at0 + 4)), .int y1]) (rest := []) ⟨hx, hb, hml, hown, hts⟩ (c_R_setWord l D cI cL cB tS tF h1 v1 len1 cp1 (rsetw f1 len1 (nI at0) y0) (nI (at0 + 4)) y1 _ hl1 (by omega)) (cwV 2 hts (sb_gV k_619 k_364 k_365 k_23 k_366) rfl rfl rfl (by decide +kernel) ⟨Nat.le_of_ble_eq_true rfl, Nat.le_of_ble_eq_true rfl⟩) (sb_pV hG hP hD hS hA [2, 3] (by decide) rfl (ci := 5) (q0 := 2) rfl rfl) rfl rfl hl.1 rfl (lv_room (Nat.le_of_ble_eq_true rfl)) d_C_writeTag_19 ⟨Nat.le_of_ble_eq_true rfl, Nat.le_of_ble_eq_true rfl⟩) hP hD hS hA [2, 3] [0, 1] rfl rfl (by decide) (by decide) (fun u H locs hw_4 hP hD hS => ?_)
  have hP : va_P D vwCl [(h, .inr (2, [.ref q0, .ref q1, .ref q2, .int 0, .int tu, .ref q3, .ref q4, .ref q5])), (q2, .inl (cI, 4, .inl (i4 y0 y1 y2 y3))), (h1, .inr (5, [.ref v1, .int (nI len1)])), (v1, .inl (cB, cp1, .inl (rsetw (rsetw f1 len1 (nI at0) y0) len1 (nI (at0 + 4)) y1)))] H := hP
  have hD : va_D A [(h, .inr (2, [.ref q0, .ref q1, .ref q2, .int 0, .int tu, .ref q3, .ref q4, .ref q5])), (q2, .inl (cI, 4, .inl (i4 y0 y1 y2 y3))), (h1, .inr (5, [.ref v1, .int (nI len1)])), (v1, .inl (cB, cp1, .inl (rsetw (rsetw f1 len1 (nI at0) y0) len1 (nI (at0 + 4)) y1)))] := hD
  refine lv_iinc (v := nI 2) (lv' := [(3, .int (nI 2)), (0, .ref h), (1, .ref h1), (2, .int (nI at0))]) hx hb d_C_writeTag_22 hl (k := 0) rfl (sb_inc (a := 1) (b := 2) (d := 1) rfl (by decide) (by omega)) (by decide) rfl (fun ls hl => ?_)
  refine lv_goto (tgt := 2) hx hb d_C_writeTag_25 (by decide) ?_
  refine lv_iload_n hx hb d_C_writeTag_2 rfl (lv_at hl 0 rfl) ?_
  refine lv_iconst (v := 4) hx hb d_C_writeTag_3 (by decide) ?_
  refine lv_icmp_ge (tgt := 28) hx hb d_C_writeTag_4 (by decide) (fun c_5 => absurd c_5 (sb_geF (a := 2) (b := 4) rfl rfl (by omega) (by omega) (by omega))) (fun c_5 => ?_)
  refine lv_aload_n hx hb d_C_writeTag_7 rfl (lv_at hl 2 rfl) ?_
  refine lv_iload_n hx hb d_C_writeTag_8 rfl (lv_at hl 3 rfl) ?_
  refine lv_iconst (v := 4) hx hb d_C_writeTag_9 (by decide) ?_
  refine lv_iload_n hx hb d_C_writeTag_10 rfl (lv_at hl 0 rfl) ?_
  refine lv_imul hx hb d_C_writeTag_11 ?_
  refine sb_topn 8 (sb_eqn (a := 4 * 2) (b := 8) (sb_mul (a := 4) (b := 2) rfl rfl) (by omega)) ?_
  refine lv_iadd hx hb d_C_writeTag_12 ?_
  refine sb_topn (at0 + 8) (nI_add at0 8) ?_
  refine lv_aload_n hx hb d_C_writeTag_13 rfl (lv_at hl 1 rfl) ?_
  refine va_get (D := D) (ci := 2) (v := .ref q2) (C := R_H) (T := F_H) (N := 8) hx hb hts in_H hown hG.1 hP 0 rfl rfl 2 (by decide) (hts _ k_126) (fun _ h9 => h9) rfl d_C_writeTag_14 ?_
  refine lv_iload_n hx hb d_C_writeTag_17 rfl (lv_at hl 0 rfl) ?_
  refine sb_ildv hx hb hG.1 hP 1 rfl 2 rfl (by omega) (by omega) (v := y2) rfl d_C_writeTag_18 ?_
  refine sb_callv (wr := [(h, .inr (2, [.ref q0, .ref q1, .ref q2, .int 0, .int tu, .ref q3, .ref q4, .ref q5])), (q2, .inl (cI, 4, .inl (i4 y0 y1 y2 y3)))]) (va_runV (As := [.int (nI (at0 + 8)), .int y2]) (rest := []) ⟨hx, hb, hml, hown, hts⟩ (c_R_setWord l D cI cL cB tS tF h1 v1 len1 cp1 (rsetw (rsetw f1 len1 (nI at0) y0) len1 (nI (at0 + 4)) y1) (nI (at0 + 8)) y2 _ hl1 (by omega)) (cwV 2 hts (sb_gV k_619 k_364 k_365 k_23 k_366) rfl rfl rfl (by decide +kernel) ⟨Nat.le_of_ble_eq_true rfl, Nat.le_of_ble_eq_true rfl⟩) (sb_pV hG hP hD hS hA [2, 3] (by decide) rfl (ci := 5) (q0 := 2) rfl rfl) rfl rfl hl.1 rfl (lv_room (Nat.le_of_ble_eq_true rfl)) d_C_writeTag_19 ⟨Nat.le_of_ble_eq_true rfl, Nat.le_of_ble_eq_true rfl⟩) hP hD hS hA [2, 3] [0, 1] rfl rfl (by decide) (by decide) (fun u H locs hw_6 hP hD hS => ?_)
  have hP : va_P D vwCl [(h, .inr (2, [.ref q0, .ref q1, .ref q2, .int 0, .int tu, .ref q3, .ref q4, .ref q5])), (q2, .inl (cI, 4, .inl (i4 y0 y1 y2 y3))), (h1, .inr (5, [.ref v1, .int (nI len1)])), (v1, .inl (cB, cp1, .inl (rsetw (rsetw (rsetw f1 len1 (nI at0) y0) len1 (nI (at0 + 4)) y1) len1 (nI (at0 + 8)) y2)))] H := hP
  have hD : va_D A [(h, .inr (2, [.ref q0, .ref q1, .ref q2, .int 0, .int tu, .ref q3, .ref q4, .ref q5])), (q2, .inl (cI, 4, .inl (i4 y0 y1 y2 y3))), (h1, .inr (5, [.ref v1, .int (nI len1)])), (v1, .inl (cB, cp1, .inl (rsetw (rsetw (rsetw f1 len1 (nI at0) y0) len1 (nI (at0 + 4)) y1) len1 (nI (at0 + 8)) y2)))] := hD
  refine lv_iinc (v := nI 3) (lv' := [(3, .int (nI 3)), (0, .ref h), (1, .ref h1), (2, .int (nI at0))]) hx hb d_C_writeTag_22 hl (k := 0) rfl (sb_inc (a := 2) (b := 3) (d := 1) rfl (by decide) (by omega)) (by decide) rfl (fun ls hl => ?_)
  refine lv_goto (tgt := 2) hx hb d_C_writeTag_25 (by decide) ?_
  refine lv_iload_n hx hb d_C_writeTag_2 rfl (lv_at hl 0 rfl) ?_
  refine lv_iconst (v := 4) hx hb d_C_writeTag_3 (by decide) ?_
  refine lv_icmp_ge (tgt := 28) hx hb d_C_writeTag_4 (by decide) (fun c_7 => absurd c_7 (sb_geF (a := 3) (b := 4) rfl rfl (by omega) (by omega) (by omega))) (fun c_7 => ?_)
  refine lv_aload_n hx hb d_C_writeTag_7 rfl (lv_at hl 2 rfl) ?_
  refine lv_iload_n hx hb d_C_writeTag_8 rfl (lv_at hl 3 rfl) ?_
  refine lv_iconst (v := 4) hx hb d_C_writeTag_9 (by decide) ?_
  refine lv_iload_n hx hb d_C_writeTag_10 rfl (lv_at hl 0 rfl) ?_
  refine lv_imul hx hb d_C_writeTag_11 ?_
  refine sb_topn 12 (sb_eqn (a := 4 * 3) (b := 12) (sb_mul (a := 4) (b := 3) rfl rfl) (by omega)) ?_
  refine lv_iadd hx hb d_C_writeTag_12 ?_
  refine sb_topn (at0 + 12) (nI_add at0 12) ?_
  refine lv_aload_n hx hb d_C_writeTag_13 rfl (lv_at hl 1 rfl) ?_
  refine va_get (D := D) (ci := 2) (v := .ref q2) (C := R_H) (T := F_H) (N := 8) hx hb hts in_H hown hG.1 hP 0 rfl rfl 2 (by decide) (hts _ k_126) (fun _ h9 => h9) rfl d_C_writeTag_14 ?_
  refine lv_iload_n hx hb d_C_writeTag_17 rfl (lv_at hl 0 rfl) ?_
  refine sb_ildv hx hb hG.1 hP 1 rfl 3 rfl (by omega) (by omega) (v := y3) rfl d_C_writeTag_18 ?_
  refine sb_callv (wr := [(h, .inr (2, [.ref q0, .ref q1, .ref q2, .int 0, .int tu, .ref q3, .ref q4, .ref q5])), (q2, .inl (cI, 4, .inl (i4 y0 y1 y2 y3)))]) (va_runV (As := [.int (nI (at0 + 12)), .int y3]) (rest := []) ⟨hx, hb, hml, hown, hts⟩ (c_R_setWord l D cI cL cB tS tF h1 v1 len1 cp1 (rsetw (rsetw (rsetw f1 len1 (nI at0) y0) len1 (nI (at0 + 4)) y1) len1 (nI (at0 + 8)) y2) (nI (at0 + 12)) y3 _ hl1 (by omega)) (cwV 2 hts (sb_gV k_619 k_364 k_365 k_23 k_366) rfl rfl rfl (by decide +kernel) ⟨Nat.le_of_ble_eq_true rfl, Nat.le_of_ble_eq_true rfl⟩) (sb_pV hG hP hD hS hA [2, 3] (by decide) rfl (ci := 5) (q0 := 2) rfl rfl) rfl rfl hl.1 rfl (lv_room (Nat.le_of_ble_eq_true rfl)) d_C_writeTag_19 ⟨Nat.le_of_ble_eq_true rfl, Nat.le_of_ble_eq_true rfl⟩) hP hD hS hA [2, 3] [0, 1] rfl rfl (by decide) (by decide) (fun u H locs hw_8 hP hD hS => ?_)
  have hP : va_P D vwCl [(h, .inr (2, [.ref q0, .ref q1, .ref q2, .int 0, .int tu, .ref q3, .ref q4, .ref q5])), (q2, .inl (cI, 4, .inl (i4 y0 y1 y2 y3))), (h1, .inr (5, [.ref v1, .int (nI len1)])), (v1, .inl (cB, cp1, .inl (rsetw (rsetw (rsetw (rsetw f1 len1 (nI at0) y0) len1 (nI (at0 + 4)) y1) len1 (nI (at0 + 8)) y2) len1 (nI (at0 + 12)) y3)))] H := hP
  have hD : va_D A [(h, .inr (2, [.ref q0, .ref q1, .ref q2, .int 0, .int tu, .ref q3, .ref q4, .ref q5])), (q2, .inl (cI, 4, .inl (i4 y0 y1 y2 y3))), (h1, .inr (5, [.ref v1, .int (nI len1)])), (v1, .inl (cB, cp1, .inl (rsetw (rsetw (rsetw (rsetw f1 len1 (nI at0) y0) len1 (nI (at0 + 4)) y1) len1 (nI (at0 + 8)) y2) len1 (nI (at0 + 12)) y3)))] := hD
  refine lv_iinc (v := nI 4) (lv' := [(3, .int (nI 4)), (0, .ref h), (1, .ref h1), (2, .int (nI at0))]) hx hb d_C_writeTag_22 hl (k := 0) rfl (sb_inc (a := 3) (b := 4) (d := 1) rfl (by decide) (by omega)) (by decide) rfl (fun ls hl => ?_)
  refine lv_goto (tgt := 2) hx hb d_C_writeTag_25 (by decide) ?_
  refine lv_iload_n hx hb d_C_writeTag_2 rfl (lv_at hl 0 rfl) ?_
  refine lv_iconst (v := 4) hx hb d_C_writeTag_3 (by decide) ?_
  refine lv_icmp_ge (tgt := 28) hx hb d_C_writeTag_4 (by decide) (fun c_9 => ?_) (fun c_9 => absurd (sb_geT (a := 4) (b := 4) rfl rfl (by omega) (by omega) (by omega)) c_9)
  have hP9 := hP.sub (ws' := [(h, .inr (2, [.ref q0, .ref q1, .ref q2, .int 0, .int tu, .ref q3, .ref q4, .ref q5])), (q2, .inl (cI, 4, .inl (i4 y0 y1 y2 y3))), (h1, .inr (5, [.ref v1, .int (nI len1)])), (v1, .inl (cB, cp1, .inl (rsetw (rsetw (rsetw (rsetw f1 len1 (nI at0) y0) len1 (nI (at0 + 4)) y1) len1 (nI (at0 + 8)) y2) len1 (nI (at0 + 12)) y3)))]) [0, 1, 2, 3] rfl
  have hD9 := hD.sub (ws' := [(h, .inr (2, [.ref q0, .ref q1, .ref q2, .int 0, .int tu, .ref q3, .ref q4, .ref q5])), (q2, .inl (cI, 4, .inl (i4 y0 y1 y2 y3))), (h1, .inr (5, [.ref v1, .int (nI len1)])), (v1, .inl (cB, cp1, .inl (rsetw (rsetw (rsetw (rsetw f1 len1 (nI at0) y0) len1 (nI (at0 + 4)) y1) len1 (nI (at0 + 8)) y2) len1 (nI (at0 + 12)) y3)))]) [0, 1, 2, 3] (by decide) rfl
  exact W.vret hx hb hr (fun t ht hW => ⟨⟨(), rfl, trivial, by rw [ht]; exact hP9, hD9⟩, hS.F ht⟩) hS.2.2 d_C_writeTag_28

def rm_C_isTagH : Room := { frames := 2, cells := 0, slots := 0, locals := 45 }
set_option maxHeartbeats 4000000 in
set_option maxRecDepth 100000 in
theorem c_C_isTagH (l : Launch) (D : va_G) (cI cL cB : ClassId) (tS tF : Nat) (h : Nat) (q0 : Nat) (q1 : Nat) (q2 : Nat) (q3 : Nat) (q4 : Nat) (q5 : Nat) (tu : Int32) (y0 : Int32) (y1 : Int32) (y2 : Int32) (y3 : Int32) (h1 : Nat) (v1 : Nat) (len1 : Nat) (cp1 : Nat) (f1 : Nat → Int32) (at0 : Nat) (hl1 : len1 ≤ cp1) (hc1 : cp1 ≤ 100000) (ha : at0 ≤ 100000) : Met l y_C_isTag (sbw y_C_isTag b_C_isTag 5 (some .boolean)) rm_C_isTagH (sbPr D cI cL cB tS tF [.ref h, .ref h1, .int (nI at0)] [(h, .inr (2, [.ref q0, .ref q1, .ref q2, .int 0, .int tu, .ref q3, .ref q4, .ref q5])), (q2, .inl (cI, 4, .inl (i4 y0 y1 y2 y3))), (h1, .inr (5, [.ref v1, .int (nI len1)])), (v1, .inl (cB, cp1, .inl f1))]) (vp_Si (fun r => r = if dtag f1 len1 at0 y0 y1 y2 y3 = 0 then 1 else 0)) 0 0 (fun _ => False) := by
  refine sb_ofR (by decide) (Nat.le_of_ble_eq_true rfl) ?_
  intro p e s m args below meth c ls hx hb hr hml hts hown hlocks hP hG hS hl
  have hl : lv_has ls 5 [(0, .ref h), (1, .ref h1), (2, .int (nI at0))] := hl
  refine lv_iconst (v := 0) hx hb d_C_isTag_0 (by decide) ?_
  refine lv_istore_n (lv' := [(3, .int 0), (0, .ref h), (1, .ref h1), (2, .int (nI at0))]) hx hb d_C_isTag_1 rfl hl (by decide) rfl (fun ls hl => ?_)
  refine lv_iconst (v := 0) hx hb d_C_isTag_2 (by decide) ?_
  refine lv_istore (lv' := [(4, .int 0), (3, .int 0), (0, .ref h), (1, .ref h1), (2, .int (nI at0))]) hx hb d_C_isTag_3 hl (by decide) rfl (fun ls hl => ?_)
  refine lv_iload hx hb d_C_isTag_5 (lv_at hl 0 rfl) ?_
  refine lv_iconst (v := 4) hx hb d_C_isTag_7 (by decide) ?_
  refine lv_icmp_ge (tgt := 42) hx hb d_C_isTag_8 (by decide) (fun c_1 => absurd c_1 (sb_geF (a := 0) (b := 4) rfl rfl (by omega) (by omega) (by omega))) (fun c_1 => ?_)
  refine lv_iload_n hx hb d_C_isTag_11 rfl (lv_at hl 1 rfl) ?_
  refine lv_aload_n hx hb d_C_isTag_12 rfl (lv_at hl 3 rfl) ?_
  refine lv_iload_n hx hb d_C_isTag_13 rfl (lv_at hl 4 rfl) ?_
  refine lv_iconst (v := 4) hx hb d_C_isTag_14 (by decide) ?_
  refine lv_iload hx hb d_C_isTag_15 (lv_at hl 0 rfl) ?_
  refine lv_imul hx hb d_C_isTag_17 ?_
  refine sb_topn 0 (sb_eqn (a := 4 * 0) (b := 0) (sb_mul (a := 4) (b := 0) rfl rfl) (by omega)) ?_
  refine lv_iadd hx hb d_C_isTag_18 ?_
  refine sb_topn at0 (sb_eqn (a := at0 + 0) (b := at0) (nI_add at0 0) (by omega)) ?_
  refine lv_iload_n hx hb d_C_isTag_19 rfl (lv_at hl 4 rfl) ?_
  refine lv_bipush (v := 16) hx hb d_C_isTag_20 (by decide) ?_
  refine lv_iadd hx hb d_C_isTag_22 ?_
  refine sb_topn (at0 + 16) (nI_add at0 16) ?_
  refine vp_callSi (va_runV (As := [.int (nI at0), .int (nI (at0 + 16))]) (rest := [.int 0]) ⟨hx, hb, hml, hown, hts⟩ (c_R_word l D cI cL cB tS tF h1 v1 len1 cp1 f1 at0 (at0 + 16) hl1 (by omega) (by omega) (by omega)) (cwV 2 hts (sb_gV k_562 k_425 k_426 k_23 k_427) rfl rfl rfl (by decide +kernel) ⟨Nat.le_of_ble_eq_true rfl, Nat.le_of_ble_eq_true rfl⟩) (sb_rV hG hP hS [2, 3] rfl (ci := 5) (q0 := 2) rfl rfl) rfl rfl hl.1 rfl (lv_room (Nat.le_of_ble_eq_true rfl)) d_C_isTag_23 ⟨Nat.le_of_ble_eq_true rfl, Nat.le_of_ble_eq_true rfl⟩).run (fun r_2 er_2 => ?_)
  subst er_2
  refine lv_aload_n hx hb d_C_isTag_26 rfl (lv_at hl 2 rfl) ?_
  refine va_get (D := D) (ci := 2) (v := .ref q2) (C := R_H) (T := F_H) (N := 8) hx hb hts in_H hown hG.1 hP 0 rfl rfl 2 (by decide) (hts _ k_126) (fun _ h9 => h9) rfl d_C_isTag_27 ?_
  refine lv_iload hx hb d_C_isTag_30 (lv_at hl 0 rfl) ?_
  refine sb_ildv hx hb hG.1 hP 1 rfl 0 rfl (by omega) (by omega) (v := y0) rfl d_C_isTag_32 ?_
  refine lv_ixor hx hb d_C_isTag_33 ?_
  refine lv_ior hx hb d_C_isTag_34 ?_
  refine lv_topi (fun x_3 ex_3 => ?_)
  refine lv_istore_n (lv' := [(3, .int x_3), (4, .int 0), (0, .ref h), (1, .ref h1), (2, .int (nI at0))]) hx hb d_C_isTag_35 rfl hl (by decide) rfl (fun ls hl => ?_)
  refine lv_iinc (v := nI 1) (lv' := [(4, .int (nI 1)), (3, .int x_3), (0, .ref h), (1, .ref h1), (2, .int (nI at0))]) hx hb d_C_isTag_36 hl (k := 1) rfl (sb_inc (a := 0) (b := 1) (d := 1) rfl (by decide) (by omega)) (by decide) rfl (fun ls hl => ?_)
  refine lv_goto (tgt := 5) hx hb d_C_isTag_39 (by decide) ?_
  refine lv_iload hx hb d_C_isTag_5 (lv_at hl 0 rfl) ?_
  refine lv_iconst (v := 4) hx hb d_C_isTag_7 (by decide) ?_
  refine lv_icmp_ge (tgt := 42) hx hb d_C_isTag_8 (by decide) (fun c_4 => absurd c_4 (sb_geF (a := 1) (b := 4) rfl rfl (by omega) (by omega) (by omega))) (fun c_4 => ?_)
  refine lv_iload_n hx hb d_C_isTag_11 rfl (lv_at hl 1 rfl) ?_
  refine lv_aload_n hx hb d_C_isTag_12 rfl (lv_at hl 3 rfl) ?_
  refine lv_iload_n hx hb d_C_isTag_13 rfl (lv_at hl 4 rfl) ?_
  refine lv_iconst (v := 4) hx hb d_C_isTag_14 (by decide) ?_
  refine lv_iload hx hb d_C_isTag_15 (lv_at hl 0 rfl) ?_
  refine lv_imul hx hb d_C_isTag_17 ?_
  refine sb_topn 4 (sb_eqn (a := 4 * 1) (b := 4) (sb_mul (a := 4) (b := 1) rfl rfl) (by omega)) ?_
  refine lv_iadd hx hb d_C_isTag_18 ?_
  refine sb_topn (at0 + 4) (nI_add at0 4) ?_
  refine lv_iload_n hx hb d_C_isTag_19 rfl (lv_at hl 4 rfl) ?_
  refine lv_bipush (v := 16) hx hb d_C_isTag_20 (by decide) ?_
  refine lv_iadd hx hb d_C_isTag_22 ?_
  refine sb_topn (at0 + 16) (nI_add at0 16) ?_
  refine vp_callSi (va_runV (As := [.int (nI (at0 + 4)), .int (nI (at0 + 16))]) (rest := [.int x_3]) ⟨hx, hb, hml, hown, hts⟩ (c_R_word l D cI cL cB tS tF h1 v1 len1 cp1 f1 (at0 + 4) (at0 + 16) hl1 (by omega) (by omega) (by omega)) (cwV 2 hts (sb_gV k_562 k_425 k_426 k_23 k_427) rfl rfl rfl (by decide +kernel) ⟨Nat.le_of_ble_eq_true rfl, Nat.le_of_ble_eq_true rfl⟩) (sb_rV hG hP hS [2, 3] rfl (ci := 5) (q0 := 2) rfl rfl) rfl rfl hl.1 rfl (lv_room (Nat.le_of_ble_eq_true rfl)) d_C_isTag_23 ⟨Nat.le_of_ble_eq_true rfl, Nat.le_of_ble_eq_true rfl⟩).run (fun r_5 er_5 => ?_)
  subst er_5
  refine lv_aload_n hx hb d_C_isTag_26 rfl (lv_at hl 2 rfl) ?_
  refine va_get (D := D) (ci := 2) (v := .ref q2) (C := R_H) (T := F_H) (N := 8) hx hb hts in_H hown hG.1 hP 0 rfl rfl 2 (by decide) (hts _ k_126) (fun _ h9 => h9) rfl d_C_isTag_27 ?_
  refine lv_iload hx hb d_C_isTag_30 (lv_at hl 0 rfl) ?_
  refine sb_ildv hx hb hG.1 hP 1 rfl 1 rfl (by omega) (by omega) (v := y1) rfl d_C_isTag_32 ?_
  refine lv_ixor hx hb d_C_isTag_33 ?_
  refine lv_ior hx hb d_C_isTag_34 ?_
  refine lv_topi (fun x_6 ex_6 => ?_)
  refine lv_istore_n (lv' := [(3, .int x_6), (4, .int (nI 1)), (0, .ref h), (1, .ref h1), (2, .int (nI at0))]) hx hb d_C_isTag_35 rfl hl (by decide) rfl (fun ls hl => ?_)
  refine lv_iinc (v := nI 2) (lv' := [(4, .int (nI 2)), (3, .int x_6), (0, .ref h), (1, .ref h1), (2, .int (nI at0))]) hx hb d_C_isTag_36 hl (k := 1) rfl (sb_inc (a := 1) (b := 2) (d := 1) rfl (by decide) (by omega)) (by decide) rfl (fun ls hl => ?_)
  refine lv_goto (tgt := 5) hx hb d_C_isTag_39 (by decide) ?_
  refine lv_iload hx hb d_C_isTag_5 (lv_at hl 0 rfl) ?_
  refine lv_iconst (v := 4) hx hb d_C_isTag_7 (by decide) ?_
  refine lv_icmp_ge (tgt := 42) hx hb d_C_isTag_8 (by decide) (fun c_7 => absurd c_7 (sb_geF (a := 2) (b := 4) rfl rfl (by omega) (by omega) (by omega))) (fun c_7 => ?_)
  refine lv_iload_n hx hb d_C_isTag_11 rfl (lv_at hl 1 rfl) ?_
  refine lv_aload_n hx hb d_C_isTag_12 rfl (lv_at hl 3 rfl) ?_
  refine lv_iload_n hx hb d_C_isTag_13 rfl (lv_at hl 4 rfl) ?_
  refine lv_iconst (v := 4) hx hb d_C_isTag_14 (by decide) ?_
  refine lv_iload hx hb d_C_isTag_15 (lv_at hl 0 rfl) ?_
  refine lv_imul hx hb d_C_isTag_17 ?_
  refine sb_topn 8 (sb_eqn (a := 4 * 2) (b := 8) (sb_mul (a := 4) (b := 2) rfl rfl) (by omega)) ?_
  refine lv_iadd hx hb d_C_isTag_18 ?_
  refine sb_topn (at0 + 8) (nI_add at0 8) ?_
  refine lv_iload_n hx hb d_C_isTag_19 rfl (lv_at hl 4 rfl) ?_
  refine lv_bipush (v := 16) hx hb d_C_isTag_20 (by decide) ?_
  refine lv_iadd hx hb d_C_isTag_22 ?_
  refine sb_topn (at0 + 16) (nI_add at0 16) ?_
  refine vp_callSi (va_runV (As := [.int (nI (at0 + 8)), .int (nI (at0 + 16))]) (rest := [.int x_6]) ⟨hx, hb, hml, hown, hts⟩ (c_R_word l D cI cL cB tS tF h1 v1 len1 cp1 f1 (at0 + 8) (at0 + 16) hl1 (by omega) (by omega) (by omega)) (cwV 2 hts (sb_gV k_562 k_425 k_426 k_23 k_427) rfl rfl rfl (by decide +kernel) ⟨Nat.le_of_ble_eq_true rfl, Nat.le_of_ble_eq_true rfl⟩) (sb_rV hG hP hS [2, 3] rfl (ci := 5) (q0 := 2) rfl rfl) rfl rfl hl.1 rfl (lv_room (Nat.le_of_ble_eq_true rfl)) d_C_isTag_23 ⟨Nat.le_of_ble_eq_true rfl, Nat.le_of_ble_eq_true rfl⟩).run (fun r_8 er_8 => ?_)
  subst er_8
  refine lv_aload_n hx hb d_C_isTag_26 rfl (lv_at hl 2 rfl) ?_
  refine va_get (D := D) (ci := 2) (v := .ref q2) (C := R_H) (T := F_H) (N := 8) hx hb hts in_H hown hG.1 hP 0 rfl rfl 2 (by decide) (hts _ k_126) (fun _ h9 => h9) rfl d_C_isTag_27 ?_
  refine lv_iload hx hb d_C_isTag_30 (lv_at hl 0 rfl) ?_
  refine sb_ildv hx hb hG.1 hP 1 rfl 2 rfl (by omega) (by omega) (v := y2) rfl d_C_isTag_32 ?_
  refine lv_ixor hx hb d_C_isTag_33 ?_
  refine lv_ior hx hb d_C_isTag_34 ?_
  refine lv_topi (fun x_9 ex_9 => ?_)
  refine lv_istore_n (lv' := [(3, .int x_9), (4, .int (nI 2)), (0, .ref h), (1, .ref h1), (2, .int (nI at0))]) hx hb d_C_isTag_35 rfl hl (by decide) rfl (fun ls hl => ?_)
  refine lv_iinc (v := nI 3) (lv' := [(4, .int (nI 3)), (3, .int x_9), (0, .ref h), (1, .ref h1), (2, .int (nI at0))]) hx hb d_C_isTag_36 hl (k := 1) rfl (sb_inc (a := 2) (b := 3) (d := 1) rfl (by decide) (by omega)) (by decide) rfl (fun ls hl => ?_)
  refine lv_goto (tgt := 5) hx hb d_C_isTag_39 (by decide) ?_
  refine lv_iload hx hb d_C_isTag_5 (lv_at hl 0 rfl) ?_
  refine lv_iconst (v := 4) hx hb d_C_isTag_7 (by decide) ?_
  refine lv_icmp_ge (tgt := 42) hx hb d_C_isTag_8 (by decide) (fun c_10 => absurd c_10 (sb_geF (a := 3) (b := 4) rfl rfl (by omega) (by omega) (by omega))) (fun c_10 => ?_)
  refine lv_iload_n hx hb d_C_isTag_11 rfl (lv_at hl 1 rfl) ?_
  refine lv_aload_n hx hb d_C_isTag_12 rfl (lv_at hl 3 rfl) ?_
  refine lv_iload_n hx hb d_C_isTag_13 rfl (lv_at hl 4 rfl) ?_
  refine lv_iconst (v := 4) hx hb d_C_isTag_14 (by decide) ?_
  refine lv_iload hx hb d_C_isTag_15 (lv_at hl 0 rfl) ?_
  refine lv_imul hx hb d_C_isTag_17 ?_
  refine sb_topn 12 (sb_eqn (a := 4 * 3) (b := 12) (sb_mul (a := 4) (b := 3) rfl rfl) (by omega)) ?_
  refine lv_iadd hx hb d_C_isTag_18 ?_
  refine sb_topn (at0 + 12) (nI_add at0 12) ?_
  refine lv_iload_n hx hb d_C_isTag_19 rfl (lv_at hl 4 rfl) ?_
  refine lv_bipush (v := 16) hx hb d_C_isTag_20 (by decide) ?_
  refine lv_iadd hx hb d_C_isTag_22 ?_
  refine sb_topn (at0 + 16) (nI_add at0 16) ?_
  refine vp_callSi (va_runV (As := [.int (nI (at0 + 12)), .int (nI (at0 + 16))]) (rest := [.int x_9]) ⟨hx, hb, hml, hown, hts⟩ (c_R_word l D cI cL cB tS tF h1 v1 len1 cp1 f1 (at0 + 12) (at0 + 16) hl1 (by omega) (by omega) (by omega)) (cwV 2 hts (sb_gV k_562 k_425 k_426 k_23 k_427) rfl rfl rfl (by decide +kernel) ⟨Nat.le_of_ble_eq_true rfl, Nat.le_of_ble_eq_true rfl⟩) (sb_rV hG hP hS [2, 3] rfl (ci := 5) (q0 := 2) rfl rfl) rfl rfl hl.1 rfl (lv_room (Nat.le_of_ble_eq_true rfl)) d_C_isTag_23 ⟨Nat.le_of_ble_eq_true rfl, Nat.le_of_ble_eq_true rfl⟩).run (fun r_11 er_11 => ?_)
  subst er_11
  refine lv_aload_n hx hb d_C_isTag_26 rfl (lv_at hl 2 rfl) ?_
  refine va_get (D := D) (ci := 2) (v := .ref q2) (C := R_H) (T := F_H) (N := 8) hx hb hts in_H hown hG.1 hP 0 rfl rfl 2 (by decide) (hts _ k_126) (fun _ h9 => h9) rfl d_C_isTag_27 ?_
  refine lv_iload hx hb d_C_isTag_30 (lv_at hl 0 rfl) ?_
  refine sb_ildv hx hb hG.1 hP 1 rfl 3 rfl (by omega) (by omega) (v := y3) rfl d_C_isTag_32 ?_
  refine lv_ixor hx hb d_C_isTag_33 ?_
  refine lv_ior hx hb d_C_isTag_34 ?_
  refine lv_topi (fun x_12 ex_12 => ?_)
  refine lv_istore_n (lv' := [(3, .int x_12), (4, .int (nI 3)), (0, .ref h), (1, .ref h1), (2, .int (nI at0))]) hx hb d_C_isTag_35 rfl hl (by decide) rfl (fun ls hl => ?_)
  refine lv_iinc (v := nI 4) (lv' := [(4, .int (nI 4)), (3, .int x_12), (0, .ref h), (1, .ref h1), (2, .int (nI at0))]) hx hb d_C_isTag_36 hl (k := 1) rfl (sb_inc (a := 3) (b := 4) (d := 1) rfl (by decide) (by omega)) (by decide) rfl (fun ls hl => ?_)
  refine lv_goto (tgt := 5) hx hb d_C_isTag_39 (by decide) ?_
  refine lv_iload hx hb d_C_isTag_5 (lv_at hl 0 rfl) ?_
  refine lv_iconst (v := 4) hx hb d_C_isTag_7 (by decide) ?_
  refine lv_icmp_ge (tgt := 42) hx hb d_C_isTag_8 (by decide) (fun c_13 => ?_) (fun c_13 => absurd (sb_geT (a := 4) (b := 4) rfl rfl (by omega) (by omega) (by omega)) c_13)
  refine lv_iload_n hx hb d_C_isTag_42 rfl (lv_at hl 1 rfl) ?_
  refine lv_if_ne (tgt := 50) hx hb d_C_isTag_43 (by decide) (fun c_14 => ?_) (fun c_14 => ?_)
  · refine lv_iconst (v := 0) hx hb d_C_isTag_50 (by decide) ?_
    exact W.zret (v := 0) hx hb hr (by decide) (fun t ht hW => ⟨_, rfl, (by rw [show dtag f1 len1 at0 y0 y1 y2 y3 = x_12 from (by (try simp only [ex_12, ex_9, ex_6, ex_3]); (try rfl))]; exact (if_neg c_14).symm), ht⟩) hS.2.2 d_C_isTag_51
  · refine lv_iconst (v := 1) hx hb d_C_isTag_46 (by decide) ?_
    refine lv_goto (tgt := 51) hx hb d_C_isTag_47 (by decide) ?_
    exact W.zret (v := 1) hx hb hr (by decide) (fun t ht hW => ⟨_, rfl, (by rw [show dtag f1 len1 at0 y0 y1 y2 y3 = x_12 from (by (try simp only [ex_12, ex_9, ex_6, ex_3]); (try rfl))]; exact (if_pos c_14).symm), ht⟩) hS.2.2 d_C_isTag_51

theorem d_C_absorbRow_0 : decode b_C_absorbRow 0 = .ok (.iconst 0, 1) := by decide +kernel
theorem d_C_absorbRow_1 : decode b_C_absorbRow 1 = .ok (.istore_n 3, 1) := by decide +kernel
theorem d_C_absorbRow_2 : decode b_C_absorbRow 2 = .ok (.iload_n 3, 1) := by decide +kernel
theorem d_C_absorbRow_3 : decode b_C_absorbRow 3 = .ok (.iload_n 2, 1) := by decide +kernel
theorem d_C_absorbRow_4 : decode b_C_absorbRow 4 = .ok (.if_icmp .ge 45, 3) := by decide +kernel
theorem d_C_absorbRow_7 : decode b_C_absorbRow 7 = .ok (.aload_n 0, 1) := by decide +kernel
theorem d_C_absorbRow_8 : decode b_C_absorbRow 8 = .ok (.aload_n 1, 1) := by decide +kernel
theorem d_C_absorbRow_9 : decode b_C_absorbRow 9 = .ok (.iload_n 3, 1) := by decide +kernel
theorem d_C_absorbRow_10 : decode b_C_absorbRow 10 = .ok (.iload_n 2, 1) := by decide +kernel
theorem d_C_absorbRow_11 : decode b_C_absorbRow 11 = .ok (.invokevirtual 55, 3) := by decide +kernel
theorem d_C_absorbRow_14 : decode b_C_absorbRow 14 = .ok (.aload_n 1, 1) := by decide +kernel
theorem d_C_absorbRow_15 : decode b_C_absorbRow 15 = .ok (.iload_n 3, 1) := by decide +kernel
theorem d_C_absorbRow_16 : decode b_C_absorbRow 16 = .ok (.iconst 4, 1) := by decide +kernel
theorem d_C_absorbRow_17 : decode b_C_absorbRow 17 = .ok (.iadd, 1) := by decide +kernel
theorem d_C_absorbRow_18 : decode b_C_absorbRow 18 = .ok (.iload_n 2, 1) := by decide +kernel
theorem d_C_absorbRow_19 : decode b_C_absorbRow 19 = .ok (.invokevirtual 55, 3) := by decide +kernel
theorem d_C_absorbRow_22 : decode b_C_absorbRow 22 = .ok (.aload_n 1, 1) := by decide +kernel
theorem d_C_absorbRow_23 : decode b_C_absorbRow 23 = .ok (.iload_n 3, 1) := by decide +kernel
theorem d_C_absorbRow_24 : decode b_C_absorbRow 24 = .ok (.bipush 8, 2) := by decide +kernel
theorem d_C_absorbRow_26 : decode b_C_absorbRow 26 = .ok (.iadd, 1) := by decide +kernel
theorem d_C_absorbRow_27 : decode b_C_absorbRow 27 = .ok (.iload_n 2, 1) := by decide +kernel
theorem d_C_absorbRow_28 : decode b_C_absorbRow 28 = .ok (.invokevirtual 55, 3) := by decide +kernel
theorem d_C_absorbRow_31 : decode b_C_absorbRow 31 = .ok (.aload_n 1, 1) := by decide +kernel
theorem d_C_absorbRow_32 : decode b_C_absorbRow 32 = .ok (.iload_n 3, 1) := by decide +kernel
theorem d_C_absorbRow_33 : decode b_C_absorbRow 33 = .ok (.bipush 12, 2) := by decide +kernel
theorem d_C_absorbRow_35 : decode b_C_absorbRow 35 = .ok (.iadd, 1) := by decide +kernel
theorem d_C_absorbRow_36 : decode b_C_absorbRow 36 = .ok (.iload_n 2, 1) := by decide +kernel
theorem d_C_absorbRow_37 : decode b_C_absorbRow 37 = .ok (.invokevirtual 55, 3) := by decide +kernel
theorem d_C_absorbRow_40 : decode b_C_absorbRow 40 = .ok (.invokevirtual 59, 3) := by decide +kernel
theorem d_C_absorbRow_43 : decode b_C_absorbRow 43 = .ok (.iinc 3 16, 3) := by decide +kernel
theorem d_C_absorbRow_46 : decode b_C_absorbRow 46 = .ok (.goto (-44), 3) := by decide +kernel
theorem d_C_absorbRow_49 : decode b_C_absorbRow 49 = .ok (.return_, 1) := by decide +kernel

def rm_C_absorbRowG : Room := { frames := 3, cells := 0, slots := 0, locals := 78 }
set_option maxHeartbeats 4000000 in
set_option maxRecDepth 100000 in
theorem c_C_absorbRowG (l : Launch) (D : va_G) (cI cL cB : ClassId) (tS tF : Nat) (h : Nat) (q0 : Nat) (q1 : Nat) (q2 : Nat) (qa : Nat) (qh : Nat) (qm : Nat) (tu : Int32) (q5 : Nat) (q6 : Nat) (th : Nat → Int64) (tl : Nat → Int64) (hi : Int64) (lo : Int64) (h1 : Nat) (v1 : Nat) (len1 : Nat) (cp1 : Nat) (f1 : Nat → Int32) (z : Nat) (sz : Nat) (hl1 : len1 ≤ cp1) (hc1 : cp1 ≤ 100000) (hz : z ≤ 100000) : Met l y_C_absorbRow (sbw y_C_absorbRow b_C_absorbRow 4 none) rm_C_absorbRowG (sbPc D cI cL cB tS tF [.ref h, .ref h1, .int (nI z)] sz [(h, .inr (1, [.ref q0, .ref q1, .ref q2, .int 1, .int tu, .ref qa, .ref qh, .ref qm])), (qh, .inr (3, [.ref q5, .ref q6, .long hi, .long lo])), (q5, .inl (cL, 16, .inr (.inl th))), (q6, .inl (cL, 16, .inr (.inl tl))), (h1, .inr (5, [.ref v1, .int (nI len1)])), (v1, .inl (cB, cp1, .inl f1))]) (sbQv D (fun (_ : Unit) => True) (fun (_ : Unit) => [(h, .inr (1, [.ref q0, .ref q1, .ref q2, .int 1, .int tu, .ref qa, .ref qh, .ref qm])), (qh, .inr (3, [.ref q5, .ref q6, .long ((growx th tl f1 len1 z (hi, lo)).1), .long ((growx th tl f1 len1 z (hi, lo)).2)])), (q5, .inl (cL, 16, .inr (.inl th))), (q6, .inl (cL, 16, .inr (.inl tl))), (h1, .inr (5, [.ref v1, .int (nI len1)])), (v1, .inl (cB, cp1, .inl f1))]) (va_A [(h, .inr (1, [.ref q0, .ref q1, .ref q2, .int 1, .int tu, .ref qa, .ref qh, .ref qm])), (qh, .inr (3, [.ref q5, .ref q6, .long hi, .long lo])), (q5, .inl (cL, 16, .inr (.inl th))), (q6, .inl (cL, 16, .inr (.inl tl))), (h1, .inr (5, [.ref v1, .int (nI len1)])), (v1, .inl (cB, cp1, .inl f1))] sz)) 0 0 (va_A [(h, .inr (1, [.ref q0, .ref q1, .ref q2, .int 1, .int tu, .ref qa, .ref qh, .ref qm])), (qh, .inr (3, [.ref q5, .ref q6, .long hi, .long lo])), (q5, .inl (cL, 16, .inr (.inl th))), (q6, .inl (cL, 16, .inr (.inl tl))), (h1, .inr (5, [.ref v1, .int (nI len1)])), (v1, .inl (cB, cp1, .inl f1))] sz) := by
  refine sb_ofW (Qc := fun A => (sbQv D (fun (_ : Unit) => True) (fun (_ : Unit) => [(h, .inr (1, [.ref q0, .ref q1, .ref q2, .int 1, .int tu, .ref qa, .ref qh, .ref qm])), (qh, .inr (3, [.ref q5, .ref q6, .long ((growx th tl f1 len1 z (hi, lo)).1), .long ((growx th tl f1 len1 z (hi, lo)).2)])), (q5, .inl (cL, 16, .inr (.inl th))), (q6, .inl (cL, 16, .inr (.inl tl))), (h1, .inr (5, [.ref v1, .int (nI len1)])), (v1, .inl (cB, cp1, .inl f1))]) A)) (by decide) (Nat.le_of_ble_eq_true rfl) ?_
  intro p e s m args below meth c A ls hx hb hr hml hts hown hlocks hin hsz hP hG hD hA hS hl
  have hl : lv_has ls 4 [(0, .ref h), (1, .ref h1), (2, .int (nI z))] := hl
  refine lv_iconst (v := 0) hx hb d_C_absorbRow_0 (by decide) ?_
  refine lv_istore_n (lv' := [(3, .int 0), (0, .ref h), (1, .ref h1), (2, .int (nI z))]) hx hb d_C_absorbRow_1 rfl hl (by decide) rfl (fun ls hl => ?_)
  have lp1 : ∀ (d1 i : Nat), i + d1 = (z + 15) / 16 → ∀ (H : Heap) (locs : List Loc) (ls : Array Slot), va_P D vwCl [(h, .inr (1, [.ref q0, .ref q1, .ref q2, .int 1, .int tu, .ref qa, .ref qh, .ref qm])), (qh, .inr (3, [.ref q5, .ref q6, .long ((iter (grow th tl f1 len1 z) i (hi, lo)).1), .long ((iter (grow th tl f1 len1 z) i (hi, lo)).2)])), (q5, .inl (cL, 16, .inr (.inl th))), (q6, .inl (cL, 16, .inr (.inl tl))), (h1, .inr (5, [.ref v1, .int (nI len1)])), (v1, .inl (cB, cp1, .inl f1))] H → va_D A [(h, .inr (1, [.ref q0, .ref q1, .ref q2, .int 1, .int tu, .ref qa, .ref qh, .ref qm])), (qh, .inr (3, [.ref q5, .ref q6, .long ((iter (grow th tl f1 len1 z) i (hi, lo)).1), .long ((iter (grow th tl f1 len1 z) i (hi, lo)).2)])), (q5, .inl (cL, 16, .inr (.inl th))), (q6, .inl (cL, 16, .inr (.inl tl))), (h1, .inr (5, [.ref v1, .int (nI len1)])), (v1, .inl (cB, cp1, .inl f1))] → va_S A s.heap H locs → lv_has ls 4 [(3, .int (nI (16 * i))), (0, .ref h), (1, .ref h1), (2, .int (nI z))] → W p l e rm_C_absorbRowG s m args below meth c H locs 0 0 (MQ below (sbQv D (fun (_ : Unit) => True) (fun (_ : Unit) => [(h, .inr (1, [.ref q0, .ref q1, .ref q2, .int 1, .int tu, .ref qa, .ref qh, .ref qm])), (qh, .inr (3, [.ref q5, .ref q6, .long ((growx th tl f1 len1 z (hi, lo)).1), .long ((growx th tl f1 len1 z (hi, lo)).2)])), (q5, .inl (cL, 16, .inr (.inl th))), (q6, .inl (cL, 16, .inr (.inl tl))), (h1, .inr (5, [.ref v1, .int (nI len1)])), (v1, .inl (cB, cp1, .inl f1))]) A) args s 0 0 A) (F0 m 2 ls []) := by
    intro d1
    induction d1 with
    | zero =>
      intro i hi1 H locs ls hP hD hS hl
      obtain rfl : (z + 15) / 16 = i := by omega
      refine lv_iload_n hx hb d_C_absorbRow_2 rfl (lv_at hl 0 rfl) ?_
      refine lv_iload_n hx hb d_C_absorbRow_3 rfl (lv_at hl 3 rfl) ?_
      refine lv_icmp_ge (tgt := 49) hx hb d_C_absorbRow_4 (by decide) (fun c_1 => ?_) (fun c_1 => absurd (sb_geT (a := 16 * ((z + 15) / 16)) (b := z) rfl rfl (by omega) (by omega) (by omega)) c_1)
      have hP9 := hP.sub (ws' := [(h, .inr (1, [.ref q0, .ref q1, .ref q2, .int 1, .int tu, .ref qa, .ref qh, .ref qm])), (qh, .inr (3, [.ref q5, .ref q6, .long ((iter (grow th tl f1 len1 z) ((z + 15) / 16) (hi, lo)).1), .long ((iter (grow th tl f1 len1 z) ((z + 15) / 16) (hi, lo)).2)])), (q5, .inl (cL, 16, .inr (.inl th))), (q6, .inl (cL, 16, .inr (.inl tl))), (h1, .inr (5, [.ref v1, .int (nI len1)])), (v1, .inl (cB, cp1, .inl f1))]) [0, 1, 2, 3, 4, 5] rfl
      have hD9 := hD.sub (ws' := [(h, .inr (1, [.ref q0, .ref q1, .ref q2, .int 1, .int tu, .ref qa, .ref qh, .ref qm])), (qh, .inr (3, [.ref q5, .ref q6, .long ((iter (grow th tl f1 len1 z) ((z + 15) / 16) (hi, lo)).1), .long ((iter (grow th tl f1 len1 z) ((z + 15) / 16) (hi, lo)).2)])), (q5, .inl (cL, 16, .inr (.inl th))), (q6, .inl (cL, 16, .inr (.inl tl))), (h1, .inr (5, [.ref v1, .int (nI len1)])), (v1, .inl (cB, cp1, .inl f1))]) [0, 1, 2, 3, 4, 5] (by decide) rfl
      exact W.vret hx hb hr (fun t ht hW => ⟨⟨(), rfl, trivial, by rw [ht]; exact hP9, hD9⟩, hS.F ht⟩) hS.2.2 d_C_absorbRow_49
    | succ d1 ih1 =>
      intro i hi1 H locs ls hP hD hS hl
      refine lv_iload_n hx hb d_C_absorbRow_2 rfl (lv_at hl 0 rfl) ?_
      refine lv_iload_n hx hb d_C_absorbRow_3 rfl (lv_at hl 3 rfl) ?_
      refine lv_icmp_ge (tgt := 49) hx hb d_C_absorbRow_4 (by decide) (fun c_2 => absurd c_2 (sb_geF (a := 16 * i) (b := z) rfl rfl (by omega) (by omega) (by omega))) (fun c_2 => ?_)
      refine lv_aload_n hx hb d_C_absorbRow_7 rfl (lv_at hl 1 rfl) ?_
      refine lv_aload_n hx hb d_C_absorbRow_8 rfl (lv_at hl 2 rfl) ?_
      refine lv_iload_n hx hb d_C_absorbRow_9 rfl (lv_at hl 0 rfl) ?_
      refine lv_iload_n hx hb d_C_absorbRow_10 rfl (lv_at hl 3 rfl) ?_
      refine vp_callSi (va_runV (As := [.int (nI (16 * i)), .int (nI z)]) (rest := [.ref h]) ⟨hx, hb, hml, hown, hts⟩ (c_R_word l D cI cL cB tS tF h1 v1 len1 cp1 f1 (16 * i) z hl1 (by omega) (by omega) (by omega)) (cwV 2 hts (sb_gV k_562 k_425 k_426 k_23 k_427) rfl rfl rfl (by decide +kernel) ⟨Nat.le_of_ble_eq_true rfl, Nat.le_of_ble_eq_true rfl⟩) (sb_rV hG hP hS [4, 5] rfl (ci := 5) (q0 := 4) rfl rfl) rfl rfl hl.1 rfl (lv_room (Nat.le_of_ble_eq_true rfl)) d_C_absorbRow_11 ⟨Nat.le_of_ble_eq_true rfl, Nat.le_of_ble_eq_true rfl⟩).run (fun r_3 er_3 => ?_)
      subst er_3
      refine lv_aload_n hx hb d_C_absorbRow_14 rfl (lv_at hl 2 rfl) ?_
      refine lv_iload_n hx hb d_C_absorbRow_15 rfl (lv_at hl 0 rfl) ?_
      refine lv_iconst (v := 4) hx hb d_C_absorbRow_16 (by decide) ?_
      refine lv_iadd hx hb d_C_absorbRow_17 ?_
      refine sb_topn ((16 * i) + 4) (nI_add (16 * i) 4) ?_
      refine lv_iload_n hx hb d_C_absorbRow_18 rfl (lv_at hl 3 rfl) ?_
      refine vp_callSi (va_runV (As := [.int (nI ((16 * i) + 4)), .int (nI z)]) (rest := [.int (rword f1 len1 (16 * i) z), .ref h]) ⟨hx, hb, hml, hown, hts⟩ (c_R_word l D cI cL cB tS tF h1 v1 len1 cp1 f1 ((16 * i) + 4) z hl1 (by omega) (by omega) (by omega)) (cwV 2 hts (sb_gV k_562 k_425 k_426 k_23 k_427) rfl rfl rfl (by decide +kernel) ⟨Nat.le_of_ble_eq_true rfl, Nat.le_of_ble_eq_true rfl⟩) (sb_rV hG hP hS [4, 5] rfl (ci := 5) (q0 := 4) rfl rfl) rfl rfl hl.1 rfl (lv_room (Nat.le_of_ble_eq_true rfl)) d_C_absorbRow_19 ⟨Nat.le_of_ble_eq_true rfl, Nat.le_of_ble_eq_true rfl⟩).run (fun r_4 er_4 => ?_)
      subst er_4
      refine lv_aload_n hx hb d_C_absorbRow_22 rfl (lv_at hl 2 rfl) ?_
      refine lv_iload_n hx hb d_C_absorbRow_23 rfl (lv_at hl 0 rfl) ?_
      refine lv_bipush (v := 8) hx hb d_C_absorbRow_24 (by decide) ?_
      refine lv_iadd hx hb d_C_absorbRow_26 ?_
      refine sb_topn ((16 * i) + 8) (nI_add (16 * i) 8) ?_
      refine lv_iload_n hx hb d_C_absorbRow_27 rfl (lv_at hl 3 rfl) ?_
      refine vp_callSi (va_runV (As := [.int (nI ((16 * i) + 8)), .int (nI z)]) (rest := [.int (rword f1 len1 ((16 * i) + 4) z), .int (rword f1 len1 (16 * i) z), .ref h]) ⟨hx, hb, hml, hown, hts⟩ (c_R_word l D cI cL cB tS tF h1 v1 len1 cp1 f1 ((16 * i) + 8) z hl1 (by omega) (by omega) (by omega)) (cwV 2 hts (sb_gV k_562 k_425 k_426 k_23 k_427) rfl rfl rfl (by decide +kernel) ⟨Nat.le_of_ble_eq_true rfl, Nat.le_of_ble_eq_true rfl⟩) (sb_rV hG hP hS [4, 5] rfl (ci := 5) (q0 := 4) rfl rfl) rfl rfl hl.1 rfl (lv_room (Nat.le_of_ble_eq_true rfl)) d_C_absorbRow_28 ⟨Nat.le_of_ble_eq_true rfl, Nat.le_of_ble_eq_true rfl⟩).run (fun r_5 er_5 => ?_)
      subst er_5
      refine lv_aload_n hx hb d_C_absorbRow_31 rfl (lv_at hl 2 rfl) ?_
      refine lv_iload_n hx hb d_C_absorbRow_32 rfl (lv_at hl 0 rfl) ?_
      refine lv_bipush (v := 12) hx hb d_C_absorbRow_33 (by decide) ?_
      refine lv_iadd hx hb d_C_absorbRow_35 ?_
      refine sb_topn ((16 * i) + 12) (nI_add (16 * i) 12) ?_
      refine lv_iload_n hx hb d_C_absorbRow_36 rfl (lv_at hl 3 rfl) ?_
      refine vp_callSi (va_runV (As := [.int (nI ((16 * i) + 12)), .int (nI z)]) (rest := [.int (rword f1 len1 ((16 * i) + 8) z), .int (rword f1 len1 ((16 * i) + 4) z), .int (rword f1 len1 (16 * i) z), .ref h]) ⟨hx, hb, hml, hown, hts⟩ (c_R_word l D cI cL cB tS tF h1 v1 len1 cp1 f1 ((16 * i) + 12) z hl1 (by omega) (by omega) (by omega)) (cwV 2 hts (sb_gV k_562 k_425 k_426 k_23 k_427) rfl rfl rfl (by decide +kernel) ⟨Nat.le_of_ble_eq_true rfl, Nat.le_of_ble_eq_true rfl⟩) (sb_rV hG hP hS [4, 5] rfl (ci := 5) (q0 := 4) rfl rfl) rfl rfl hl.1 rfl (lv_room (Nat.le_of_ble_eq_true rfl)) d_C_absorbRow_37 ⟨Nat.le_of_ble_eq_true rfl, Nat.le_of_ble_eq_true rfl⟩).run (fun r_6 er_6 => ?_)
      subst er_6
      refine sb_callv (wr := [(h1, .inr (5, [.ref v1, .int (nI len1)])), (v1, .inl (cB, cp1, .inl f1))]) (va_runU (As := [.int (rword f1 len1 (16 * i) z), .int (rword f1 len1 ((16 * i) + 4) z), .int (rword f1 len1 ((16 * i) + 8) z), .int (rword f1 len1 ((16 * i) + 12) z)]) (rest := []) ⟨hx, hb, hml, hown, hts⟩ (c_G_absorb l D cI cL cB tS tF h q0 q1 q2 qa qh qm tu q5 q6 th tl ((iter (grow th tl f1 len1 z) i (hi, lo)).1) ((iter (grow th tl f1 len1 z) i (hi, lo)).2) (rword f1 len1 (16 * i) z) (rword f1 len1 ((16 * i) + 4) z) (rword f1 len1 ((16 * i) + 8) z) (rword f1 len1 ((16 * i) + 12) z) _ ) (va_cwA (owner := "SealBox$Cipher") 4 hts (sb_gU (owner := "SealBox$Cipher") (x := ⟨"SealBox$Cipher", "absorb", "(IIII)V"⟩) k_563 k_565 k_566 k_567 k_25 k_568) rfl rfl rfl (va_Nw.of rfl (hG.nest (args := args) _ n_564)) (by decide +kernel) ⟨Nat.le_of_ble_eq_true rfl, Nat.le_of_ble_eq_true rfl⟩) (sb_pV hG hP hD hS hA [0, 1, 2, 3] (by decide) rfl (ci := 1) (q0 := 0) rfl rfl) rfl rfl hl.1 rfl (lv_room (Nat.le_of_ble_eq_true rfl)) d_C_absorbRow_40 ⟨Nat.le_of_ble_eq_true rfl, Nat.le_of_ble_eq_true rfl⟩) hP hD hS hA [0, 1, 2, 3] [4, 5] rfl rfl (by decide) (by decide) (fun u H locs hw_7 hP hD hS => ?_)
      have hP : va_P D vwCl [(h1, .inr (5, [.ref v1, .int (nI len1)])), (v1, .inl (cB, cp1, .inl f1)), (h, .inr (1, [.ref q0, .ref q1, .ref q2, .int 1, .int tu, .ref qa, .ref qh, .ref qm])), (qh, .inr (3, [.ref q5, .ref q6, .long ((gabs th tl (((iter (grow th tl f1 len1 z) i (hi, lo)).1), ((iter (grow th tl f1 len1 z) i (hi, lo)).2)) (rword f1 len1 (16 * i) z) (rword f1 len1 ((16 * i) + 4) z) (rword f1 len1 ((16 * i) + 8) z) (rword f1 len1 ((16 * i) + 12) z)).1), .long ((gabs th tl (((iter (grow th tl f1 len1 z) i (hi, lo)).1), ((iter (grow th tl f1 len1 z) i (hi, lo)).2)) (rword f1 len1 (16 * i) z) (rword f1 len1 ((16 * i) + 4) z) (rword f1 len1 ((16 * i) + 8) z) (rword f1 len1 ((16 * i) + 12) z)).2)])), (q5, .inl (cL, 16, .inr (.inl th))), (q6, .inl (cL, 16, .inr (.inl tl)))] H := hP
      have hD : va_D A [(h1, .inr (5, [.ref v1, .int (nI len1)])), (v1, .inl (cB, cp1, .inl f1)), (h, .inr (1, [.ref q0, .ref q1, .ref q2, .int 1, .int tu, .ref qa, .ref qh, .ref qm])), (qh, .inr (3, [.ref q5, .ref q6, .long ((gabs th tl (((iter (grow th tl f1 len1 z) i (hi, lo)).1), ((iter (grow th tl f1 len1 z) i (hi, lo)).2)) (rword f1 len1 (16 * i) z) (rword f1 len1 ((16 * i) + 4) z) (rword f1 len1 ((16 * i) + 8) z) (rword f1 len1 ((16 * i) + 12) z)).1), .long ((gabs th tl (((iter (grow th tl f1 len1 z) i (hi, lo)).1), ((iter (grow th tl f1 len1 z) i (hi, lo)).2)) (rword f1 len1 (16 * i) z) (rword f1 len1 ((16 * i) + 4) z) (rword f1 len1 ((16 * i) + 8) z) (rword f1 len1 ((16 * i) + 12) z)).2)])), (q5, .inl (cL, 16, .inr (.inl th))), (q6, .inl (cL, 16, .inr (.inl tl)))] := hD
      refine lv_iinc (v := nI ((16 * i) + 16)) (lv' := [(3, .int (nI ((16 * i) + 16))), (0, .ref h), (1, .ref h1), (2, .int (nI z))]) hx hb d_C_absorbRow_43 hl (k := 0) rfl (sb_inc (a := 16 * i) (b := (16 * i) + 16) (d := 16) rfl (by decide) (by omega)) (by decide) rfl (fun ls hl => ?_)
      refine lv_goto (tgt := 2) hx hb d_C_absorbRow_46 (by decide) ?_
      rw [show nI ((16 * i) + 16) = nI (16 * (i + 1)) from congrArg nI (by omega)] at hl
      rw [show (gabs th tl (((iter (grow th tl f1 len1 z) i (hi, lo)).1), ((iter (grow th tl f1 len1 z) i (hi, lo)).2)) (rword f1 len1 (16 * i) z) (rword f1 len1 ((16 * i) + 4) z) (rword f1 len1 ((16 * i) + 8) z) (rword f1 len1 ((16 * i) + 12) z)).1 = (iter (grow th tl f1 len1 z) (i + 1) (hi, lo)).1 from (by subst_vars; rfl)] at hP hD
      rw [show (gabs th tl (((iter (grow th tl f1 len1 z) i (hi, lo)).1), ((iter (grow th tl f1 len1 z) i (hi, lo)).2)) (rword f1 len1 (16 * i) z) (rword f1 len1 ((16 * i) + 4) z) (rword f1 len1 ((16 * i) + 8) z) (rword f1 len1 ((16 * i) + 12) z)).2 = (iter (grow th tl f1 len1 z) (i + 1) (hi, lo)).2 from (by subst_vars; rfl)] at hP hD
      exact ih1 (i + 1) (by omega) _ _ ls (hP.sub [2, 3, 4, 5, 0, 1] rfl) (hD.sub [2, 3, 4, 5, 0, 1] (by decide) rfl) hS (lv_sub hl [0, 1, 2, 3] rfl)
  exact lp1 ((z + 15) / 16) 0 (by omega) _ _ ls (hP.sub [0, 1, 2, 3, 4, 5] rfl) (hD.sub [0, 1, 2, 3, 4, 5] (by decide) rfl) hS (lv_sub hl [0, 1, 2, 3] rfl)

def rm_C_absorbRowH : Room := { frames := 3, cells := 0, slots := 0, locals := 81 }
set_option maxHeartbeats 4000000 in
set_option maxRecDepth 100000 in
theorem c_C_absorbRowH (l : Launch) (D : va_G) (cI cL cB : ClassId) (tS tF : Nat) (h : Nat) (q0 : Nat) (q1 : Nat) (q2 : Nat) (q3 : Nat) (q4 : Nat) (q5 : Nat) (tu : Int32) (r1 : Nat) (r2 : Nat) (r3 : Nat) (r4 : Nat) (r5 : Nat) (s0 : Int64) (s1 : Int64) (s2 : Int64) (s3 : Int64) (s4 : Int64) (k0 : Int64) (k1 : Int64) (k2 : Int64) (k3 : Int64) (k4 : Int64) (t0 : Int64) (t1 : Int64) (t2 : Int64) (t3 : Int64) (t4 : Int64) (p0 : Int64) (p1 : Int64) (p2 : Int64) (p3 : Int64) (p4 : Int64) (h1 : Nat) (v1 : Nat) (len1 : Nat) (cp1 : Nat) (f1 : Nat → Int32) (z : Nat) (sz : Nat) (hl1 : len1 ≤ cp1) (hc1 : cp1 ≤ 100000) (hz : z ≤ 100000) : Met l y_C_absorbRow (sbw y_C_absorbRow b_C_absorbRow 4 none) rm_C_absorbRowH (sbPc D cI cL cB tS tF [.ref h, .ref h1, .int (nI z)] sz [(h, .inr (2, [.ref q0, .ref q1, .ref q2, .int 0, .int tu, .ref q3, .ref q4, .ref q5])), (q5, .inr (4, [.ref r1, .ref r2, .ref r3, .ref r4, .ref r5])), (r1, .inl (cL, 5, .inr (.inl (l5 k0 k1 k2 k3 k4)))), (r2, .inl (cL, 5, .inr (.inl (l5 t0 t1 t2 t3 t4)))), (r3, .inl (cL, 5, .inr (.inl (l5 s0 s1 s2 s3 s4)))), (r4, .inl (cL, 5, .inr (.inl (l5 p0 p1 p2 p3 p4)))), (h1, .inr (5, [.ref v1, .int (nI len1)])), (v1, .inl (cB, cp1, .inl f1))]) (sbQv D (fun (_ : Unit) => True) (fun (_ : Unit) => [(h, .inr (2, [.ref q0, .ref q1, .ref q2, .int 0, .int tu, .ref q3, .ref q4, .ref q5])), (q5, .inr (4, [.ref r1, .ref r2, .ref r3, .ref r4, .ref r5])), (r1, .inl (cL, 5, .inr (.inl (l5 k0 k1 k2 k3 k4)))), (r2, .inl (cL, 5, .inr (.inl (l5 t0 t1 t2 t3 t4)))), (r3, .inl (cL, 5, .inr (.inl (l5 (((prowx k0 k1 k2 k3 k4 t0 t1 t2 t3 t4 f1 len1 z ((s0, s1, s2, s3, s4), (p0, p1, p2, p3, p4))).1).1) (((prowx k0 k1 k2 k3 k4 t0 t1 t2 t3 t4 f1 len1 z ((s0, s1, s2, s3, s4), (p0, p1, p2, p3, p4))).1).2.1) (((prowx k0 k1 k2 k3 k4 t0 t1 t2 t3 t4 f1 len1 z ((s0, s1, s2, s3, s4), (p0, p1, p2, p3, p4))).1).2.2.1) (((prowx k0 k1 k2 k3 k4 t0 t1 t2 t3 t4 f1 len1 z ((s0, s1, s2, s3, s4), (p0, p1, p2, p3, p4))).1).2.2.2.1) (((prowx k0 k1 k2 k3 k4 t0 t1 t2 t3 t4 f1 len1 z ((s0, s1, s2, s3, s4), (p0, p1, p2, p3, p4))).1).2.2.2.2))))), (r4, .inl (cL, 5, .inr (.inl (l5 (((prowx k0 k1 k2 k3 k4 t0 t1 t2 t3 t4 f1 len1 z ((s0, s1, s2, s3, s4), (p0, p1, p2, p3, p4))).2).1) (((prowx k0 k1 k2 k3 k4 t0 t1 t2 t3 t4 f1 len1 z ((s0, s1, s2, s3, s4), (p0, p1, p2, p3, p4))).2).2.1) (((prowx k0 k1 k2 k3 k4 t0 t1 t2 t3 t4 f1 len1 z ((s0, s1, s2, s3, s4), (p0, p1, p2, p3, p4))).2).2.2.1) (((prowx k0 k1 k2 k3 k4 t0 t1 t2 t3 t4 f1 len1 z ((s0, s1, s2, s3, s4), (p0, p1, p2, p3, p4))).2).2.2.2.1) (((prowx k0 k1 k2 k3 k4 t0 t1 t2 t3 t4 f1 len1 z ((s0, s1, s2, s3, s4), (p0, p1, p2, p3, p4))).2).2.2.2.2))))), (h1, .inr (5, [.ref v1, .int (nI len1)])), (v1, .inl (cB, cp1, .inl f1))]) (va_A [(h, .inr (2, [.ref q0, .ref q1, .ref q2, .int 0, .int tu, .ref q3, .ref q4, .ref q5])), (q5, .inr (4, [.ref r1, .ref r2, .ref r3, .ref r4, .ref r5])), (r1, .inl (cL, 5, .inr (.inl (l5 k0 k1 k2 k3 k4)))), (r2, .inl (cL, 5, .inr (.inl (l5 t0 t1 t2 t3 t4)))), (r3, .inl (cL, 5, .inr (.inl (l5 s0 s1 s2 s3 s4)))), (r4, .inl (cL, 5, .inr (.inl (l5 p0 p1 p2 p3 p4)))), (h1, .inr (5, [.ref v1, .int (nI len1)])), (v1, .inl (cB, cp1, .inl f1))] sz)) 0 0 (va_A [(h, .inr (2, [.ref q0, .ref q1, .ref q2, .int 0, .int tu, .ref q3, .ref q4, .ref q5])), (q5, .inr (4, [.ref r1, .ref r2, .ref r3, .ref r4, .ref r5])), (r1, .inl (cL, 5, .inr (.inl (l5 k0 k1 k2 k3 k4)))), (r2, .inl (cL, 5, .inr (.inl (l5 t0 t1 t2 t3 t4)))), (r3, .inl (cL, 5, .inr (.inl (l5 s0 s1 s2 s3 s4)))), (r4, .inl (cL, 5, .inr (.inl (l5 p0 p1 p2 p3 p4)))), (h1, .inr (5, [.ref v1, .int (nI len1)])), (v1, .inl (cB, cp1, .inl f1))] sz) := by
  refine sb_ofW (Qc := fun A => (sbQv D (fun (_ : Unit) => True) (fun (_ : Unit) => [(h, .inr (2, [.ref q0, .ref q1, .ref q2, .int 0, .int tu, .ref q3, .ref q4, .ref q5])), (q5, .inr (4, [.ref r1, .ref r2, .ref r3, .ref r4, .ref r5])), (r1, .inl (cL, 5, .inr (.inl (l5 k0 k1 k2 k3 k4)))), (r2, .inl (cL, 5, .inr (.inl (l5 t0 t1 t2 t3 t4)))), (r3, .inl (cL, 5, .inr (.inl (l5 (((prowx k0 k1 k2 k3 k4 t0 t1 t2 t3 t4 f1 len1 z ((s0, s1, s2, s3, s4), (p0, p1, p2, p3, p4))).1).1) (((prowx k0 k1 k2 k3 k4 t0 t1 t2 t3 t4 f1 len1 z ((s0, s1, s2, s3, s4), (p0, p1, p2, p3, p4))).1).2.1) (((prowx k0 k1 k2 k3 k4 t0 t1 t2 t3 t4 f1 len1 z ((s0, s1, s2, s3, s4), (p0, p1, p2, p3, p4))).1).2.2.1) (((prowx k0 k1 k2 k3 k4 t0 t1 t2 t3 t4 f1 len1 z ((s0, s1, s2, s3, s4), (p0, p1, p2, p3, p4))).1).2.2.2.1) (((prowx k0 k1 k2 k3 k4 t0 t1 t2 t3 t4 f1 len1 z ((s0, s1, s2, s3, s4), (p0, p1, p2, p3, p4))).1).2.2.2.2))))), (r4, .inl (cL, 5, .inr (.inl (l5 (((prowx k0 k1 k2 k3 k4 t0 t1 t2 t3 t4 f1 len1 z ((s0, s1, s2, s3, s4), (p0, p1, p2, p3, p4))).2).1) (((prowx k0 k1 k2 k3 k4 t0 t1 t2 t3 t4 f1 len1 z ((s0, s1, s2, s3, s4), (p0, p1, p2, p3, p4))).2).2.1) (((prowx k0 k1 k2 k3 k4 t0 t1 t2 t3 t4 f1 len1 z ((s0, s1, s2, s3, s4), (p0, p1, p2, p3, p4))).2).2.2.1) (((prowx k0 k1 k2 k3 k4 t0 t1 t2 t3 t4 f1 len1 z ((s0, s1, s2, s3, s4), (p0, p1, p2, p3, p4))).2).2.2.2.1) (((prowx k0 k1 k2 k3 k4 t0 t1 t2 t3 t4 f1 len1 z ((s0, s1, s2, s3, s4), (p0, p1, p2, p3, p4))).2).2.2.2.2))))), (h1, .inr (5, [.ref v1, .int (nI len1)])), (v1, .inl (cB, cp1, .inl f1))]) A)) (by decide) (Nat.le_of_ble_eq_true rfl) ?_
  intro p e s m args below meth c A ls hx hb hr hml hts hown hlocks hin hsz hP hG hD hA hS hl
  have hl : lv_has ls 4 [(0, .ref h), (1, .ref h1), (2, .int (nI z))] := hl
  refine lv_iconst (v := 0) hx hb d_C_absorbRow_0 (by decide) ?_
  refine lv_istore_n (lv' := [(3, .int 0), (0, .ref h), (1, .ref h1), (2, .int (nI z))]) hx hb d_C_absorbRow_1 rfl hl (by decide) rfl (fun ls hl => ?_)
  have lp1 : ∀ (d1 i : Nat), i + d1 = (z + 15) / 16 → ∀ (H : Heap) (locs : List Loc) (ls : Array Slot), va_P D vwCl [(h, .inr (2, [.ref q0, .ref q1, .ref q2, .int 0, .int tu, .ref q3, .ref q4, .ref q5])), (q5, .inr (4, [.ref r1, .ref r2, .ref r3, .ref r4, .ref r5])), (r1, .inl (cL, 5, .inr (.inl (l5 k0 k1 k2 k3 k4)))), (r2, .inl (cL, 5, .inr (.inl (l5 t0 t1 t2 t3 t4)))), (r3, .inl (cL, 5, .inr (.inl (l5 (((iter (prow k0 k1 k2 k3 k4 t0 t1 t2 t3 t4 f1 len1 z) i ((s0, s1, s2, s3, s4), (p0, p1, p2, p3, p4))).1).1) (((iter (prow k0 k1 k2 k3 k4 t0 t1 t2 t3 t4 f1 len1 z) i ((s0, s1, s2, s3, s4), (p0, p1, p2, p3, p4))).1).2.1) (((iter (prow k0 k1 k2 k3 k4 t0 t1 t2 t3 t4 f1 len1 z) i ((s0, s1, s2, s3, s4), (p0, p1, p2, p3, p4))).1).2.2.1) (((iter (prow k0 k1 k2 k3 k4 t0 t1 t2 t3 t4 f1 len1 z) i ((s0, s1, s2, s3, s4), (p0, p1, p2, p3, p4))).1).2.2.2.1) (((iter (prow k0 k1 k2 k3 k4 t0 t1 t2 t3 t4 f1 len1 z) i ((s0, s1, s2, s3, s4), (p0, p1, p2, p3, p4))).1).2.2.2.2))))), (r4, .inl (cL, 5, .inr (.inl (l5 (((iter (prow k0 k1 k2 k3 k4 t0 t1 t2 t3 t4 f1 len1 z) i ((s0, s1, s2, s3, s4), (p0, p1, p2, p3, p4))).2).1) (((iter (prow k0 k1 k2 k3 k4 t0 t1 t2 t3 t4 f1 len1 z) i ((s0, s1, s2, s3, s4), (p0, p1, p2, p3, p4))).2).2.1) (((iter (prow k0 k1 k2 k3 k4 t0 t1 t2 t3 t4 f1 len1 z) i ((s0, s1, s2, s3, s4), (p0, p1, p2, p3, p4))).2).2.2.1) (((iter (prow k0 k1 k2 k3 k4 t0 t1 t2 t3 t4 f1 len1 z) i ((s0, s1, s2, s3, s4), (p0, p1, p2, p3, p4))).2).2.2.2.1) (((iter (prow k0 k1 k2 k3 k4 t0 t1 t2 t3 t4 f1 len1 z) i ((s0, s1, s2, s3, s4), (p0, p1, p2, p3, p4))).2).2.2.2.2))))), (h1, .inr (5, [.ref v1, .int (nI len1)])), (v1, .inl (cB, cp1, .inl f1))] H → va_D A [(h, .inr (2, [.ref q0, .ref q1, .ref q2, .int 0, .int tu, .ref q3, .ref q4, .ref q5])), (q5, .inr (4, [.ref r1, .ref r2, .ref r3, .ref r4, .ref r5])), (r1, .inl (cL, 5, .inr (.inl (l5 k0 k1 k2 k3 k4)))), (r2, .inl (cL, 5, .inr (.inl (l5 t0 t1 t2 t3 t4)))), (r3, .inl (cL, 5, .inr (.inl (l5 (((iter (prow k0 k1 k2 k3 k4 t0 t1 t2 t3 t4 f1 len1 z) i ((s0, s1, s2, s3, s4), (p0, p1, p2, p3, p4))).1).1) (((iter (prow k0 k1 k2 k3 k4 t0 t1 t2 t3 t4 f1 len1 z) i ((s0, s1, s2, s3, s4), (p0, p1, p2, p3, p4))).1).2.1) (((iter (prow k0 k1 k2 k3 k4 t0 t1 t2 t3 t4 f1 len1 z) i ((s0, s1, s2, s3, s4), (p0, p1, p2, p3, p4))).1).2.2.1) (((iter (prow k0 k1 k2 k3 k4 t0 t1 t2 t3 t4 f1 len1 z) i ((s0, s1, s2, s3, s4), (p0, p1, p2, p3, p4))).1).2.2.2.1) (((iter (prow k0 k1 k2 k3 k4 t0 t1 t2 t3 t4 f1 len1 z) i ((s0, s1, s2, s3, s4), (p0, p1, p2, p3, p4))).1).2.2.2.2))))), (r4, .inl (cL, 5, .inr (.inl (l5 (((iter (prow k0 k1 k2 k3 k4 t0 t1 t2 t3 t4 f1 len1 z) i ((s0, s1, s2, s3, s4), (p0, p1, p2, p3, p4))).2).1) (((iter (prow k0 k1 k2 k3 k4 t0 t1 t2 t3 t4 f1 len1 z) i ((s0, s1, s2, s3, s4), (p0, p1, p2, p3, p4))).2).2.1) (((iter (prow k0 k1 k2 k3 k4 t0 t1 t2 t3 t4 f1 len1 z) i ((s0, s1, s2, s3, s4), (p0, p1, p2, p3, p4))).2).2.2.1) (((iter (prow k0 k1 k2 k3 k4 t0 t1 t2 t3 t4 f1 len1 z) i ((s0, s1, s2, s3, s4), (p0, p1, p2, p3, p4))).2).2.2.2.1) (((iter (prow k0 k1 k2 k3 k4 t0 t1 t2 t3 t4 f1 len1 z) i ((s0, s1, s2, s3, s4), (p0, p1, p2, p3, p4))).2).2.2.2.2))))), (h1, .inr (5, [.ref v1, .int (nI len1)])), (v1, .inl (cB, cp1, .inl f1))] → va_S A s.heap H locs → lv_has ls 4 [(3, .int (nI (16 * i))), (0, .ref h), (1, .ref h1), (2, .int (nI z))] → W p l e rm_C_absorbRowH s m args below meth c H locs 0 0 (MQ below (sbQv D (fun (_ : Unit) => True) (fun (_ : Unit) => [(h, .inr (2, [.ref q0, .ref q1, .ref q2, .int 0, .int tu, .ref q3, .ref q4, .ref q5])), (q5, .inr (4, [.ref r1, .ref r2, .ref r3, .ref r4, .ref r5])), (r1, .inl (cL, 5, .inr (.inl (l5 k0 k1 k2 k3 k4)))), (r2, .inl (cL, 5, .inr (.inl (l5 t0 t1 t2 t3 t4)))), (r3, .inl (cL, 5, .inr (.inl (l5 (((prowx k0 k1 k2 k3 k4 t0 t1 t2 t3 t4 f1 len1 z ((s0, s1, s2, s3, s4), (p0, p1, p2, p3, p4))).1).1) (((prowx k0 k1 k2 k3 k4 t0 t1 t2 t3 t4 f1 len1 z ((s0, s1, s2, s3, s4), (p0, p1, p2, p3, p4))).1).2.1) (((prowx k0 k1 k2 k3 k4 t0 t1 t2 t3 t4 f1 len1 z ((s0, s1, s2, s3, s4), (p0, p1, p2, p3, p4))).1).2.2.1) (((prowx k0 k1 k2 k3 k4 t0 t1 t2 t3 t4 f1 len1 z ((s0, s1, s2, s3, s4), (p0, p1, p2, p3, p4))).1).2.2.2.1) (((prowx k0 k1 k2 k3 k4 t0 t1 t2 t3 t4 f1 len1 z ((s0, s1, s2, s3, s4), (p0, p1, p2, p3, p4))).1).2.2.2.2))))), (r4, .inl (cL, 5, .inr (.inl (l5 (((prowx k0 k1 k2 k3 k4 t0 t1 t2 t3 t4 f1 len1 z ((s0, s1, s2, s3, s4), (p0, p1, p2, p3, p4))).2).1) (((prowx k0 k1 k2 k3 k4 t0 t1 t2 t3 t4 f1 len1 z ((s0, s1, s2, s3, s4), (p0, p1, p2, p3, p4))).2).2.1) (((prowx k0 k1 k2 k3 k4 t0 t1 t2 t3 t4 f1 len1 z ((s0, s1, s2, s3, s4), (p0, p1, p2, p3, p4))).2).2.2.1) (((prowx k0 k1 k2 k3 k4 t0 t1 t2 t3 t4 f1 len1 z ((s0, s1, s2, s3, s4), (p0, p1, p2, p3, p4))).2).2.2.2.1) (((prowx k0 k1 k2 k3 k4 t0 t1 t2 t3 t4 f1 len1 z ((s0, s1, s2, s3, s4), (p0, p1, p2, p3, p4))).2).2.2.2.2))))), (h1, .inr (5, [.ref v1, .int (nI len1)])), (v1, .inl (cB, cp1, .inl f1))]) A) args s 0 0 A) (F0 m 2 ls []) := by
    intro d1
    induction d1 with
    | zero =>
      intro i hi1 H locs ls hP hD hS hl
      obtain rfl : (z + 15) / 16 = i := by omega
      refine lv_iload_n hx hb d_C_absorbRow_2 rfl (lv_at hl 0 rfl) ?_
      refine lv_iload_n hx hb d_C_absorbRow_3 rfl (lv_at hl 3 rfl) ?_
      refine lv_icmp_ge (tgt := 49) hx hb d_C_absorbRow_4 (by decide) (fun c_1 => ?_) (fun c_1 => absurd (sb_geT (a := 16 * ((z + 15) / 16)) (b := z) rfl rfl (by omega) (by omega) (by omega)) c_1)
      have hP9 := hP.sub (ws' := [(h, .inr (2, [.ref q0, .ref q1, .ref q2, .int 0, .int tu, .ref q3, .ref q4, .ref q5])), (q5, .inr (4, [.ref r1, .ref r2, .ref r3, .ref r4, .ref r5])), (r1, .inl (cL, 5, .inr (.inl (l5 k0 k1 k2 k3 k4)))), (r2, .inl (cL, 5, .inr (.inl (l5 t0 t1 t2 t3 t4)))), (r3, .inl (cL, 5, .inr (.inl (l5 (((iter (prow k0 k1 k2 k3 k4 t0 t1 t2 t3 t4 f1 len1 z) ((z + 15) / 16) ((s0, s1, s2, s3, s4), (p0, p1, p2, p3, p4))).1).1) (((iter (prow k0 k1 k2 k3 k4 t0 t1 t2 t3 t4 f1 len1 z) ((z + 15) / 16) ((s0, s1, s2, s3, s4), (p0, p1, p2, p3, p4))).1).2.1) (((iter (prow k0 k1 k2 k3 k4 t0 t1 t2 t3 t4 f1 len1 z) ((z + 15) / 16) ((s0, s1, s2, s3, s4), (p0, p1, p2, p3, p4))).1).2.2.1) (((iter (prow k0 k1 k2 k3 k4 t0 t1 t2 t3 t4 f1 len1 z) ((z + 15) / 16) ((s0, s1, s2, s3, s4), (p0, p1, p2, p3, p4))).1).2.2.2.1) (((iter (prow k0 k1 k2 k3 k4 t0 t1 t2 t3 t4 f1 len1 z) ((z + 15) / 16) ((s0, s1, s2, s3, s4), (p0, p1, p2, p3, p4))).1).2.2.2.2))))), (r4, .inl (cL, 5, .inr (.inl (l5 (((iter (prow k0 k1 k2 k3 k4 t0 t1 t2 t3 t4 f1 len1 z) ((z + 15) / 16) ((s0, s1, s2, s3, s4), (p0, p1, p2, p3, p4))).2).1) (((iter (prow k0 k1 k2 k3 k4 t0 t1 t2 t3 t4 f1 len1 z) ((z + 15) / 16) ((s0, s1, s2, s3, s4), (p0, p1, p2, p3, p4))).2).2.1) (((iter (prow k0 k1 k2 k3 k4 t0 t1 t2 t3 t4 f1 len1 z) ((z + 15) / 16) ((s0, s1, s2, s3, s4), (p0, p1, p2, p3, p4))).2).2.2.1) (((iter (prow k0 k1 k2 k3 k4 t0 t1 t2 t3 t4 f1 len1 z) ((z + 15) / 16) ((s0, s1, s2, s3, s4), (p0, p1, p2, p3, p4))).2).2.2.2.1) (((iter (prow k0 k1 k2 k3 k4 t0 t1 t2 t3 t4 f1 len1 z) ((z + 15) / 16) ((s0, s1, s2, s3, s4), (p0, p1, p2, p3, p4))).2).2.2.2.2))))), (h1, .inr (5, [.ref v1, .int (nI len1)])), (v1, .inl (cB, cp1, .inl f1))]) [0, 1, 2, 3, 4, 5, 6, 7] rfl
      have hD9 := hD.sub (ws' := [(h, .inr (2, [.ref q0, .ref q1, .ref q2, .int 0, .int tu, .ref q3, .ref q4, .ref q5])), (q5, .inr (4, [.ref r1, .ref r2, .ref r3, .ref r4, .ref r5])), (r1, .inl (cL, 5, .inr (.inl (l5 k0 k1 k2 k3 k4)))), (r2, .inl (cL, 5, .inr (.inl (l5 t0 t1 t2 t3 t4)))), (r3, .inl (cL, 5, .inr (.inl (l5 (((iter (prow k0 k1 k2 k3 k4 t0 t1 t2 t3 t4 f1 len1 z) ((z + 15) / 16) ((s0, s1, s2, s3, s4), (p0, p1, p2, p3, p4))).1).1) (((iter (prow k0 k1 k2 k3 k4 t0 t1 t2 t3 t4 f1 len1 z) ((z + 15) / 16) ((s0, s1, s2, s3, s4), (p0, p1, p2, p3, p4))).1).2.1) (((iter (prow k0 k1 k2 k3 k4 t0 t1 t2 t3 t4 f1 len1 z) ((z + 15) / 16) ((s0, s1, s2, s3, s4), (p0, p1, p2, p3, p4))).1).2.2.1) (((iter (prow k0 k1 k2 k3 k4 t0 t1 t2 t3 t4 f1 len1 z) ((z + 15) / 16) ((s0, s1, s2, s3, s4), (p0, p1, p2, p3, p4))).1).2.2.2.1) (((iter (prow k0 k1 k2 k3 k4 t0 t1 t2 t3 t4 f1 len1 z) ((z + 15) / 16) ((s0, s1, s2, s3, s4), (p0, p1, p2, p3, p4))).1).2.2.2.2))))), (r4, .inl (cL, 5, .inr (.inl (l5 (((iter (prow k0 k1 k2 k3 k4 t0 t1 t2 t3 t4 f1 len1 z) ((z + 15) / 16) ((s0, s1, s2, s3, s4), (p0, p1, p2, p3, p4))).2).1) (((iter (prow k0 k1 k2 k3 k4 t0 t1 t2 t3 t4 f1 len1 z) ((z + 15) / 16) ((s0, s1, s2, s3, s4), (p0, p1, p2, p3, p4))).2).2.1) (((iter (prow k0 k1 k2 k3 k4 t0 t1 t2 t3 t4 f1 len1 z) ((z + 15) / 16) ((s0, s1, s2, s3, s4), (p0, p1, p2, p3, p4))).2).2.2.1) (((iter (prow k0 k1 k2 k3 k4 t0 t1 t2 t3 t4 f1 len1 z) ((z + 15) / 16) ((s0, s1, s2, s3, s4), (p0, p1, p2, p3, p4))).2).2.2.2.1) (((iter (prow k0 k1 k2 k3 k4 t0 t1 t2 t3 t4 f1 len1 z) ((z + 15) / 16) ((s0, s1, s2, s3, s4), (p0, p1, p2, p3, p4))).2).2.2.2.2))))), (h1, .inr (5, [.ref v1, .int (nI len1)])), (v1, .inl (cB, cp1, .inl f1))]) [0, 1, 2, 3, 4, 5, 6, 7] (by decide) rfl
      exact W.vret hx hb hr (fun t ht hW => ⟨⟨(), rfl, trivial, by rw [ht]; exact hP9, hD9⟩, hS.F ht⟩) hS.2.2 d_C_absorbRow_49
    | succ d1 ih1 =>
      intro i hi1 H locs ls hP hD hS hl
      refine lv_iload_n hx hb d_C_absorbRow_2 rfl (lv_at hl 0 rfl) ?_
      refine lv_iload_n hx hb d_C_absorbRow_3 rfl (lv_at hl 3 rfl) ?_
      refine lv_icmp_ge (tgt := 49) hx hb d_C_absorbRow_4 (by decide) (fun c_2 => absurd c_2 (sb_geF (a := 16 * i) (b := z) rfl rfl (by omega) (by omega) (by omega))) (fun c_2 => ?_)
      refine lv_aload_n hx hb d_C_absorbRow_7 rfl (lv_at hl 1 rfl) ?_
      refine lv_aload_n hx hb d_C_absorbRow_8 rfl (lv_at hl 2 rfl) ?_
      refine lv_iload_n hx hb d_C_absorbRow_9 rfl (lv_at hl 0 rfl) ?_
      refine lv_iload_n hx hb d_C_absorbRow_10 rfl (lv_at hl 3 rfl) ?_
      refine vp_callSi (va_runV (As := [.int (nI (16 * i)), .int (nI z)]) (rest := [.ref h]) ⟨hx, hb, hml, hown, hts⟩ (c_R_word l D cI cL cB tS tF h1 v1 len1 cp1 f1 (16 * i) z hl1 (by omega) (by omega) (by omega)) (cwV 2 hts (sb_gV k_562 k_425 k_426 k_23 k_427) rfl rfl rfl (by decide +kernel) ⟨Nat.le_of_ble_eq_true rfl, Nat.le_of_ble_eq_true rfl⟩) (sb_rV hG hP hS [6, 7] rfl (ci := 5) (q0 := 6) rfl rfl) rfl rfl hl.1 rfl (lv_room (Nat.le_of_ble_eq_true rfl)) d_C_absorbRow_11 ⟨Nat.le_of_ble_eq_true rfl, Nat.le_of_ble_eq_true rfl⟩).run (fun r_3 er_3 => ?_)
      subst er_3
      refine lv_aload_n hx hb d_C_absorbRow_14 rfl (lv_at hl 2 rfl) ?_
      refine lv_iload_n hx hb d_C_absorbRow_15 rfl (lv_at hl 0 rfl) ?_
      refine lv_iconst (v := 4) hx hb d_C_absorbRow_16 (by decide) ?_
      refine lv_iadd hx hb d_C_absorbRow_17 ?_
      refine sb_topn ((16 * i) + 4) (nI_add (16 * i) 4) ?_
      refine lv_iload_n hx hb d_C_absorbRow_18 rfl (lv_at hl 3 rfl) ?_
      refine vp_callSi (va_runV (As := [.int (nI ((16 * i) + 4)), .int (nI z)]) (rest := [.int (rword f1 len1 (16 * i) z), .ref h]) ⟨hx, hb, hml, hown, hts⟩ (c_R_word l D cI cL cB tS tF h1 v1 len1 cp1 f1 ((16 * i) + 4) z hl1 (by omega) (by omega) (by omega)) (cwV 2 hts (sb_gV k_562 k_425 k_426 k_23 k_427) rfl rfl rfl (by decide +kernel) ⟨Nat.le_of_ble_eq_true rfl, Nat.le_of_ble_eq_true rfl⟩) (sb_rV hG hP hS [6, 7] rfl (ci := 5) (q0 := 6) rfl rfl) rfl rfl hl.1 rfl (lv_room (Nat.le_of_ble_eq_true rfl)) d_C_absorbRow_19 ⟨Nat.le_of_ble_eq_true rfl, Nat.le_of_ble_eq_true rfl⟩).run (fun r_4 er_4 => ?_)
      subst er_4
      refine lv_aload_n hx hb d_C_absorbRow_22 rfl (lv_at hl 2 rfl) ?_
      refine lv_iload_n hx hb d_C_absorbRow_23 rfl (lv_at hl 0 rfl) ?_
      refine lv_bipush (v := 8) hx hb d_C_absorbRow_24 (by decide) ?_
      refine lv_iadd hx hb d_C_absorbRow_26 ?_
      refine sb_topn ((16 * i) + 8) (nI_add (16 * i) 8) ?_
      refine lv_iload_n hx hb d_C_absorbRow_27 rfl (lv_at hl 3 rfl) ?_
      refine vp_callSi (va_runV (As := [.int (nI ((16 * i) + 8)), .int (nI z)]) (rest := [.int (rword f1 len1 ((16 * i) + 4) z), .int (rword f1 len1 (16 * i) z), .ref h]) ⟨hx, hb, hml, hown, hts⟩ (c_R_word l D cI cL cB tS tF h1 v1 len1 cp1 f1 ((16 * i) + 8) z hl1 (by omega) (by omega) (by omega)) (cwV 2 hts (sb_gV k_562 k_425 k_426 k_23 k_427) rfl rfl rfl (by decide +kernel) ⟨Nat.le_of_ble_eq_true rfl, Nat.le_of_ble_eq_true rfl⟩) (sb_rV hG hP hS [6, 7] rfl (ci := 5) (q0 := 6) rfl rfl) rfl rfl hl.1 rfl (lv_room (Nat.le_of_ble_eq_true rfl)) d_C_absorbRow_28 ⟨Nat.le_of_ble_eq_true rfl, Nat.le_of_ble_eq_true rfl⟩).run (fun r_5 er_5 => ?_)
      subst er_5
      refine lv_aload_n hx hb d_C_absorbRow_31 rfl (lv_at hl 2 rfl) ?_
      refine lv_iload_n hx hb d_C_absorbRow_32 rfl (lv_at hl 0 rfl) ?_
      refine lv_bipush (v := 12) hx hb d_C_absorbRow_33 (by decide) ?_
      refine lv_iadd hx hb d_C_absorbRow_35 ?_
      refine sb_topn ((16 * i) + 12) (nI_add (16 * i) 12) ?_
      refine lv_iload_n hx hb d_C_absorbRow_36 rfl (lv_at hl 3 rfl) ?_
      refine vp_callSi (va_runV (As := [.int (nI ((16 * i) + 12)), .int (nI z)]) (rest := [.int (rword f1 len1 ((16 * i) + 8) z), .int (rword f1 len1 ((16 * i) + 4) z), .int (rword f1 len1 (16 * i) z), .ref h]) ⟨hx, hb, hml, hown, hts⟩ (c_R_word l D cI cL cB tS tF h1 v1 len1 cp1 f1 ((16 * i) + 12) z hl1 (by omega) (by omega) (by omega)) (cwV 2 hts (sb_gV k_562 k_425 k_426 k_23 k_427) rfl rfl rfl (by decide +kernel) ⟨Nat.le_of_ble_eq_true rfl, Nat.le_of_ble_eq_true rfl⟩) (sb_rV hG hP hS [6, 7] rfl (ci := 5) (q0 := 6) rfl rfl) rfl rfl hl.1 rfl (lv_room (Nat.le_of_ble_eq_true rfl)) d_C_absorbRow_37 ⟨Nat.le_of_ble_eq_true rfl, Nat.le_of_ble_eq_true rfl⟩).run (fun r_6 er_6 => ?_)
      subst er_6
      refine sb_callv (wr := [(h1, .inr (5, [.ref v1, .int (nI len1)])), (v1, .inl (cB, cp1, .inl f1))]) (va_runU (As := [.int (rword f1 len1 (16 * i) z), .int (rword f1 len1 ((16 * i) + 4) z), .int (rword f1 len1 ((16 * i) + 8) z), .int (rword f1 len1 ((16 * i) + 12) z)]) (rest := []) ⟨hx, hb, hml, hown, hts⟩ (c_H_absorb l D cI cL cB tS tF h q0 q1 q2 q3 q4 q5 0 tu r1 r2 r3 r4 r5 (((iter (prow k0 k1 k2 k3 k4 t0 t1 t2 t3 t4 f1 len1 z) i ((s0, s1, s2, s3, s4), (p0, p1, p2, p3, p4))).1).1) (((iter (prow k0 k1 k2 k3 k4 t0 t1 t2 t3 t4 f1 len1 z) i ((s0, s1, s2, s3, s4), (p0, p1, p2, p3, p4))).1).2.1) (((iter (prow k0 k1 k2 k3 k4 t0 t1 t2 t3 t4 f1 len1 z) i ((s0, s1, s2, s3, s4), (p0, p1, p2, p3, p4))).1).2.2.1) (((iter (prow k0 k1 k2 k3 k4 t0 t1 t2 t3 t4 f1 len1 z) i ((s0, s1, s2, s3, s4), (p0, p1, p2, p3, p4))).1).2.2.2.1) (((iter (prow k0 k1 k2 k3 k4 t0 t1 t2 t3 t4 f1 len1 z) i ((s0, s1, s2, s3, s4), (p0, p1, p2, p3, p4))).1).2.2.2.2) k0 k1 k2 k3 k4 t0 t1 t2 t3 t4 (((iter (prow k0 k1 k2 k3 k4 t0 t1 t2 t3 t4 f1 len1 z) i ((s0, s1, s2, s3, s4), (p0, p1, p2, p3, p4))).2).1) (((iter (prow k0 k1 k2 k3 k4 t0 t1 t2 t3 t4 f1 len1 z) i ((s0, s1, s2, s3, s4), (p0, p1, p2, p3, p4))).2).2.1) (((iter (prow k0 k1 k2 k3 k4 t0 t1 t2 t3 t4 f1 len1 z) i ((s0, s1, s2, s3, s4), (p0, p1, p2, p3, p4))).2).2.2.1) (((iter (prow k0 k1 k2 k3 k4 t0 t1 t2 t3 t4 f1 len1 z) i ((s0, s1, s2, s3, s4), (p0, p1, p2, p3, p4))).2).2.2.2.1) (((iter (prow k0 k1 k2 k3 k4 t0 t1 t2 t3 t4 f1 len1 z) i ((s0, s1, s2, s3, s4), (p0, p1, p2, p3, p4))).2).2.2.2.2) (rword f1 len1 (16 * i) z) (rword f1 len1 ((16 * i) + 4) z) (rword f1 len1 ((16 * i) + 8) z) (rword f1 len1 ((16 * i) + 12) z) _ ) (va_cwA (owner := "SealBox$Cipher") 4 hts (sb_gU (owner := "SealBox$Cipher") (x := ⟨"SealBox$Cipher", "absorb", "(IIII)V"⟩) k_563 k_565 k_579 k_580 k_28 k_581) rfl rfl rfl (va_Nw.of rfl (hG.nest (args := args) _ n_564)) (by decide +kernel) ⟨Nat.le_of_ble_eq_true rfl, Nat.le_of_ble_eq_true rfl⟩) (sb_pV hG hP hD hS hA [0, 1, 2, 3, 4, 5] (by decide) rfl (ci := 2) (q0 := 0) rfl rfl) rfl rfl hl.1 rfl (lv_room (Nat.le_of_ble_eq_true rfl)) d_C_absorbRow_40 ⟨Nat.le_of_ble_eq_true rfl, Nat.le_of_ble_eq_true rfl⟩) hP hD hS hA [0, 1, 2, 3, 4, 5] [6, 7] rfl rfl (by decide) (by decide) (fun u H locs hw_7 hP hD hS => ?_)
      have hP : va_P D vwCl [(h1, .inr (5, [.ref v1, .int (nI len1)])), (v1, .inl (cB, cp1, .inl f1)), (h, .inr (2, [.ref q0, .ref q1, .ref q2, .int 0, .int tu, .ref q3, .ref q4, .ref q5])), (q5, .inr (4, [.ref r1, .ref r2, .ref r3, .ref r4, .ref r5])), (r1, .inl (cL, 5, .inr (.inl (l5 k0 k1 k2 k3 k4)))), (r2, .inl (cL, 5, .inr (.inl (l5 t0 t1 t2 t3 t4)))), (r3, .inl (cL, 5, .inr (.inl (l5 ((pabs (((iter (prow k0 k1 k2 k3 k4 t0 t1 t2 t3 t4 f1 len1 z) i ((s0, s1, s2, s3, s4), (p0, p1, p2, p3, p4))).1).1) (((iter (prow k0 k1 k2 k3 k4 t0 t1 t2 t3 t4 f1 len1 z) i ((s0, s1, s2, s3, s4), (p0, p1, p2, p3, p4))).1).2.1) (((iter (prow k0 k1 k2 k3 k4 t0 t1 t2 t3 t4 f1 len1 z) i ((s0, s1, s2, s3, s4), (p0, p1, p2, p3, p4))).1).2.2.1) (((iter (prow k0 k1 k2 k3 k4 t0 t1 t2 t3 t4 f1 len1 z) i ((s0, s1, s2, s3, s4), (p0, p1, p2, p3, p4))).1).2.2.2.1) (((iter (prow k0 k1 k2 k3 k4 t0 t1 t2 t3 t4 f1 len1 z) i ((s0, s1, s2, s3, s4), (p0, p1, p2, p3, p4))).1).2.2.2.2) k0 k1 k2 k3 k4 t0 t1 t2 t3 t4 (rword f1 len1 (16 * i) z) (rword f1 len1 ((16 * i) + 4) z) (rword f1 len1 ((16 * i) + 8) z) (rword f1 len1 ((16 * i) + 12) z)).1) ((pabs (((iter (prow k0 k1 k2 k3 k4 t0 t1 t2 t3 t4 f1 len1 z) i ((s0, s1, s2, s3, s4), (p0, p1, p2, p3, p4))).1).1) (((iter (prow k0 k1 k2 k3 k4 t0 t1 t2 t3 t4 f1 len1 z) i ((s0, s1, s2, s3, s4), (p0, p1, p2, p3, p4))).1).2.1) (((iter (prow k0 k1 k2 k3 k4 t0 t1 t2 t3 t4 f1 len1 z) i ((s0, s1, s2, s3, s4), (p0, p1, p2, p3, p4))).1).2.2.1) (((iter (prow k0 k1 k2 k3 k4 t0 t1 t2 t3 t4 f1 len1 z) i ((s0, s1, s2, s3, s4), (p0, p1, p2, p3, p4))).1).2.2.2.1) (((iter (prow k0 k1 k2 k3 k4 t0 t1 t2 t3 t4 f1 len1 z) i ((s0, s1, s2, s3, s4), (p0, p1, p2, p3, p4))).1).2.2.2.2) k0 k1 k2 k3 k4 t0 t1 t2 t3 t4 (rword f1 len1 (16 * i) z) (rword f1 len1 ((16 * i) + 4) z) (rword f1 len1 ((16 * i) + 8) z) (rword f1 len1 ((16 * i) + 12) z)).2.1) ((pabs (((iter (prow k0 k1 k2 k3 k4 t0 t1 t2 t3 t4 f1 len1 z) i ((s0, s1, s2, s3, s4), (p0, p1, p2, p3, p4))).1).1) (((iter (prow k0 k1 k2 k3 k4 t0 t1 t2 t3 t4 f1 len1 z) i ((s0, s1, s2, s3, s4), (p0, p1, p2, p3, p4))).1).2.1) (((iter (prow k0 k1 k2 k3 k4 t0 t1 t2 t3 t4 f1 len1 z) i ((s0, s1, s2, s3, s4), (p0, p1, p2, p3, p4))).1).2.2.1) (((iter (prow k0 k1 k2 k3 k4 t0 t1 t2 t3 t4 f1 len1 z) i ((s0, s1, s2, s3, s4), (p0, p1, p2, p3, p4))).1).2.2.2.1) (((iter (prow k0 k1 k2 k3 k4 t0 t1 t2 t3 t4 f1 len1 z) i ((s0, s1, s2, s3, s4), (p0, p1, p2, p3, p4))).1).2.2.2.2) k0 k1 k2 k3 k4 t0 t1 t2 t3 t4 (rword f1 len1 (16 * i) z) (rword f1 len1 ((16 * i) + 4) z) (rword f1 len1 ((16 * i) + 8) z) (rword f1 len1 ((16 * i) + 12) z)).2.2.1) ((pabs (((iter (prow k0 k1 k2 k3 k4 t0 t1 t2 t3 t4 f1 len1 z) i ((s0, s1, s2, s3, s4), (p0, p1, p2, p3, p4))).1).1) (((iter (prow k0 k1 k2 k3 k4 t0 t1 t2 t3 t4 f1 len1 z) i ((s0, s1, s2, s3, s4), (p0, p1, p2, p3, p4))).1).2.1) (((iter (prow k0 k1 k2 k3 k4 t0 t1 t2 t3 t4 f1 len1 z) i ((s0, s1, s2, s3, s4), (p0, p1, p2, p3, p4))).1).2.2.1) (((iter (prow k0 k1 k2 k3 k4 t0 t1 t2 t3 t4 f1 len1 z) i ((s0, s1, s2, s3, s4), (p0, p1, p2, p3, p4))).1).2.2.2.1) (((iter (prow k0 k1 k2 k3 k4 t0 t1 t2 t3 t4 f1 len1 z) i ((s0, s1, s2, s3, s4), (p0, p1, p2, p3, p4))).1).2.2.2.2) k0 k1 k2 k3 k4 t0 t1 t2 t3 t4 (rword f1 len1 (16 * i) z) (rword f1 len1 ((16 * i) + 4) z) (rword f1 len1 ((16 * i) + 8) z) (rword f1 len1 ((16 * i) + 12) z)).2.2.2.1) ((pabs (((iter (prow k0 k1 k2 k3 k4 t0 t1 t2 t3 t4 f1 len1 z) i ((s0, s1, s2, s3, s4), (p0, p1, p2, p3, p4))).1).1) (((iter (prow k0 k1 k2 k3 k4 t0 t1 t2 t3 t4 f1 len1 z) i ((s0, s1, s2, s3, s4), (p0, p1, p2, p3, p4))).1).2.1) (((iter (prow k0 k1 k2 k3 k4 t0 t1 t2 t3 t4 f1 len1 z) i ((s0, s1, s2, s3, s4), (p0, p1, p2, p3, p4))).1).2.2.1) (((iter (prow k0 k1 k2 k3 k4 t0 t1 t2 t3 t4 f1 len1 z) i ((s0, s1, s2, s3, s4), (p0, p1, p2, p3, p4))).1).2.2.2.1) (((iter (prow k0 k1 k2 k3 k4 t0 t1 t2 t3 t4 f1 len1 z) i ((s0, s1, s2, s3, s4), (p0, p1, p2, p3, p4))).1).2.2.2.2) k0 k1 k2 k3 k4 t0 t1 t2 t3 t4 (rword f1 len1 (16 * i) z) (rword f1 len1 ((16 * i) + 4) z) (rword f1 len1 ((16 * i) + 8) z) (rword f1 len1 ((16 * i) + 12) z)).2.2.2.2))))), (r4, .inl (cL, 5, .inr (.inl (l5 ((pmt (((iter (prow k0 k1 k2 k3 k4 t0 t1 t2 t3 t4 f1 len1 z) i ((s0, s1, s2, s3, s4), (p0, p1, p2, p3, p4))).1).1) (((iter (prow k0 k1 k2 k3 k4 t0 t1 t2 t3 t4 f1 len1 z) i ((s0, s1, s2, s3, s4), (p0, p1, p2, p3, p4))).1).2.1) (((iter (prow k0 k1 k2 k3 k4 t0 t1 t2 t3 t4 f1 len1 z) i ((s0, s1, s2, s3, s4), (p0, p1, p2, p3, p4))).1).2.2.1) (((iter (prow k0 k1 k2 k3 k4 t0 t1 t2 t3 t4 f1 len1 z) i ((s0, s1, s2, s3, s4), (p0, p1, p2, p3, p4))).1).2.2.2.1) (((iter (prow k0 k1 k2 k3 k4 t0 t1 t2 t3 t4 f1 len1 z) i ((s0, s1, s2, s3, s4), (p0, p1, p2, p3, p4))).1).2.2.2.2) k0 k1 k2 k3 k4 t0 t1 t2 t3 t4 (rword f1 len1 (16 * i) z) (rword f1 len1 ((16 * i) + 4) z) (rword f1 len1 ((16 * i) + 8) z) (rword f1 len1 ((16 * i) + 12) z)).1) ((pmt (((iter (prow k0 k1 k2 k3 k4 t0 t1 t2 t3 t4 f1 len1 z) i ((s0, s1, s2, s3, s4), (p0, p1, p2, p3, p4))).1).1) (((iter (prow k0 k1 k2 k3 k4 t0 t1 t2 t3 t4 f1 len1 z) i ((s0, s1, s2, s3, s4), (p0, p1, p2, p3, p4))).1).2.1) (((iter (prow k0 k1 k2 k3 k4 t0 t1 t2 t3 t4 f1 len1 z) i ((s0, s1, s2, s3, s4), (p0, p1, p2, p3, p4))).1).2.2.1) (((iter (prow k0 k1 k2 k3 k4 t0 t1 t2 t3 t4 f1 len1 z) i ((s0, s1, s2, s3, s4), (p0, p1, p2, p3, p4))).1).2.2.2.1) (((iter (prow k0 k1 k2 k3 k4 t0 t1 t2 t3 t4 f1 len1 z) i ((s0, s1, s2, s3, s4), (p0, p1, p2, p3, p4))).1).2.2.2.2) k0 k1 k2 k3 k4 t0 t1 t2 t3 t4 (rword f1 len1 (16 * i) z) (rword f1 len1 ((16 * i) + 4) z) (rword f1 len1 ((16 * i) + 8) z) (rword f1 len1 ((16 * i) + 12) z)).2.1) ((pmt (((iter (prow k0 k1 k2 k3 k4 t0 t1 t2 t3 t4 f1 len1 z) i ((s0, s1, s2, s3, s4), (p0, p1, p2, p3, p4))).1).1) (((iter (prow k0 k1 k2 k3 k4 t0 t1 t2 t3 t4 f1 len1 z) i ((s0, s1, s2, s3, s4), (p0, p1, p2, p3, p4))).1).2.1) (((iter (prow k0 k1 k2 k3 k4 t0 t1 t2 t3 t4 f1 len1 z) i ((s0, s1, s2, s3, s4), (p0, p1, p2, p3, p4))).1).2.2.1) (((iter (prow k0 k1 k2 k3 k4 t0 t1 t2 t3 t4 f1 len1 z) i ((s0, s1, s2, s3, s4), (p0, p1, p2, p3, p4))).1).2.2.2.1) (((iter (prow k0 k1 k2 k3 k4 t0 t1 t2 t3 t4 f1 len1 z) i ((s0, s1, s2, s3, s4), (p0, p1, p2, p3, p4))).1).2.2.2.2) k0 k1 k2 k3 k4 t0 t1 t2 t3 t4 (rword f1 len1 (16 * i) z) (rword f1 len1 ((16 * i) + 4) z) (rword f1 len1 ((16 * i) + 8) z) (rword f1 len1 ((16 * i) + 12) z)).2.2.1) ((pmt (((iter (prow k0 k1 k2 k3 k4 t0 t1 t2 t3 t4 f1 len1 z) i ((s0, s1, s2, s3, s4), (p0, p1, p2, p3, p4))).1).1) (((iter (prow k0 k1 k2 k3 k4 t0 t1 t2 t3 t4 f1 len1 z) i ((s0, s1, s2, s3, s4), (p0, p1, p2, p3, p4))).1).2.1) (((iter (prow k0 k1 k2 k3 k4 t0 t1 t2 t3 t4 f1 len1 z) i ((s0, s1, s2, s3, s4), (p0, p1, p2, p3, p4))).1).2.2.1) (((iter (prow k0 k1 k2 k3 k4 t0 t1 t2 t3 t4 f1 len1 z) i ((s0, s1, s2, s3, s4), (p0, p1, p2, p3, p4))).1).2.2.2.1) (((iter (prow k0 k1 k2 k3 k4 t0 t1 t2 t3 t4 f1 len1 z) i ((s0, s1, s2, s3, s4), (p0, p1, p2, p3, p4))).1).2.2.2.2) k0 k1 k2 k3 k4 t0 t1 t2 t3 t4 (rword f1 len1 (16 * i) z) (rword f1 len1 ((16 * i) + 4) z) (rword f1 len1 ((16 * i) + 8) z) (rword f1 len1 ((16 * i) + 12) z)).2.2.2.1) ((pmt (((iter (prow k0 k1 k2 k3 k4 t0 t1 t2 t3 t4 f1 len1 z) i ((s0, s1, s2, s3, s4), (p0, p1, p2, p3, p4))).1).1) (((iter (prow k0 k1 k2 k3 k4 t0 t1 t2 t3 t4 f1 len1 z) i ((s0, s1, s2, s3, s4), (p0, p1, p2, p3, p4))).1).2.1) (((iter (prow k0 k1 k2 k3 k4 t0 t1 t2 t3 t4 f1 len1 z) i ((s0, s1, s2, s3, s4), (p0, p1, p2, p3, p4))).1).2.2.1) (((iter (prow k0 k1 k2 k3 k4 t0 t1 t2 t3 t4 f1 len1 z) i ((s0, s1, s2, s3, s4), (p0, p1, p2, p3, p4))).1).2.2.2.1) (((iter (prow k0 k1 k2 k3 k4 t0 t1 t2 t3 t4 f1 len1 z) i ((s0, s1, s2, s3, s4), (p0, p1, p2, p3, p4))).1).2.2.2.2) k0 k1 k2 k3 k4 t0 t1 t2 t3 t4 (rword f1 len1 (16 * i) z) (rword f1 len1 ((16 * i) + 4) z) (rword f1 len1 ((16 * i) + 8) z) (rword f1 len1 ((16 * i) + 12) z)).2.2.2.2)))))] H := hP
      have hD : va_D A [(h1, .inr (5, [.ref v1, .int (nI len1)])), (v1, .inl (cB, cp1, .inl f1)), (h, .inr (2, [.ref q0, .ref q1, .ref q2, .int 0, .int tu, .ref q3, .ref q4, .ref q5])), (q5, .inr (4, [.ref r1, .ref r2, .ref r3, .ref r4, .ref r5])), (r1, .inl (cL, 5, .inr (.inl (l5 k0 k1 k2 k3 k4)))), (r2, .inl (cL, 5, .inr (.inl (l5 t0 t1 t2 t3 t4)))), (r3, .inl (cL, 5, .inr (.inl (l5 ((pabs (((iter (prow k0 k1 k2 k3 k4 t0 t1 t2 t3 t4 f1 len1 z) i ((s0, s1, s2, s3, s4), (p0, p1, p2, p3, p4))).1).1) (((iter (prow k0 k1 k2 k3 k4 t0 t1 t2 t3 t4 f1 len1 z) i ((s0, s1, s2, s3, s4), (p0, p1, p2, p3, p4))).1).2.1) (((iter (prow k0 k1 k2 k3 k4 t0 t1 t2 t3 t4 f1 len1 z) i ((s0, s1, s2, s3, s4), (p0, p1, p2, p3, p4))).1).2.2.1) (((iter (prow k0 k1 k2 k3 k4 t0 t1 t2 t3 t4 f1 len1 z) i ((s0, s1, s2, s3, s4), (p0, p1, p2, p3, p4))).1).2.2.2.1) (((iter (prow k0 k1 k2 k3 k4 t0 t1 t2 t3 t4 f1 len1 z) i ((s0, s1, s2, s3, s4), (p0, p1, p2, p3, p4))).1).2.2.2.2) k0 k1 k2 k3 k4 t0 t1 t2 t3 t4 (rword f1 len1 (16 * i) z) (rword f1 len1 ((16 * i) + 4) z) (rword f1 len1 ((16 * i) + 8) z) (rword f1 len1 ((16 * i) + 12) z)).1) ((pabs (((iter (prow k0 k1 k2 k3 k4 t0 t1 t2 t3 t4 f1 len1 z) i ((s0, s1, s2, s3, s4), (p0, p1, p2, p3, p4))).1).1) (((iter (prow k0 k1 k2 k3 k4 t0 t1 t2 t3 t4 f1 len1 z) i ((s0, s1, s2, s3, s4), (p0, p1, p2, p3, p4))).1).2.1) (((iter (prow k0 k1 k2 k3 k4 t0 t1 t2 t3 t4 f1 len1 z) i ((s0, s1, s2, s3, s4), (p0, p1, p2, p3, p4))).1).2.2.1) (((iter (prow k0 k1 k2 k3 k4 t0 t1 t2 t3 t4 f1 len1 z) i ((s0, s1, s2, s3, s4), (p0, p1, p2, p3, p4))).1).2.2.2.1) (((iter (prow k0 k1 k2 k3 k4 t0 t1 t2 t3 t4 f1 len1 z) i ((s0, s1, s2, s3, s4), (p0, p1, p2, p3, p4))).1).2.2.2.2) k0 k1 k2 k3 k4 t0 t1 t2 t3 t4 (rword f1 len1 (16 * i) z) (rword f1 len1 ((16 * i) + 4) z) (rword f1 len1 ((16 * i) + 8) z) (rword f1 len1 ((16 * i) + 12) z)).2.1) ((pabs (((iter (prow k0 k1 k2 k3 k4 t0 t1 t2 t3 t4 f1 len1 z) i ((s0, s1, s2, s3, s4), (p0, p1, p2, p3, p4))).1).1) (((iter (prow k0 k1 k2 k3 k4 t0 t1 t2 t3 t4 f1 len1 z) i ((s0, s1, s2, s3, s4), (p0, p1, p2, p3, p4))).1).2.1) (((iter (prow k0 k1 k2 k3 k4 t0 t1 t2 t3 t4 f1 len1 z) i ((s0, s1, s2, s3, s4), (p0, p1, p2, p3, p4))).1).2.2.1) (((iter (prow k0 k1 k2 k3 k4 t0 t1 t2 t3 t4 f1 len1 z) i ((s0, s1, s2, s3, s4), (p0, p1, p2, p3, p4))).1).2.2.2.1) (((iter (prow k0 k1 k2 k3 k4 t0 t1 t2 t3 t4 f1 len1 z) i ((s0, s1, s2, s3, s4), (p0, p1, p2, p3, p4))).1).2.2.2.2) k0 k1 k2 k3 k4 t0 t1 t2 t3 t4 (rword f1 len1 (16 * i) z) (rword f1 len1 ((16 * i) + 4) z) (rword f1 len1 ((16 * i) + 8) z) (rword f1 len1 ((16 * i) + 12) z)).2.2.1) ((pabs (((iter (prow k0 k1 k2 k3 k4 t0 t1 t2 t3 t4 f1 len1 z) i ((s0, s1, s2, s3, s4), (p0, p1, p2, p3, p4))).1).1) (((iter (prow k0 k1 k2 k3 k4 t0 t1 t2 t3 t4 f1 len1 z) i ((s0, s1, s2, s3, s4), (p0, p1, p2, p3, p4))).1).2.1) (((iter (prow k0 k1 k2 k3 k4 t0 t1 t2 t3 t4 f1 len1 z) i ((s0, s1, s2, s3, s4), (p0, p1, p2, p3, p4))).1).2.2.1) (((iter (prow k0 k1 k2 k3 k4 t0 t1 t2 t3 t4 f1 len1 z) i ((s0, s1, s2, s3, s4), (p0, p1, p2, p3, p4))).1).2.2.2.1) (((iter (prow k0 k1 k2 k3 k4 t0 t1 t2 t3 t4 f1 len1 z) i ((s0, s1, s2, s3, s4), (p0, p1, p2, p3, p4))).1).2.2.2.2) k0 k1 k2 k3 k4 t0 t1 t2 t3 t4 (rword f1 len1 (16 * i) z) (rword f1 len1 ((16 * i) + 4) z) (rword f1 len1 ((16 * i) + 8) z) (rword f1 len1 ((16 * i) + 12) z)).2.2.2.1) ((pabs (((iter (prow k0 k1 k2 k3 k4 t0 t1 t2 t3 t4 f1 len1 z) i ((s0, s1, s2, s3, s4), (p0, p1, p2, p3, p4))).1).1) (((iter (prow k0 k1 k2 k3 k4 t0 t1 t2 t3 t4 f1 len1 z) i ((s0, s1, s2, s3, s4), (p0, p1, p2, p3, p4))).1).2.1) (((iter (prow k0 k1 k2 k3 k4 t0 t1 t2 t3 t4 f1 len1 z) i ((s0, s1, s2, s3, s4), (p0, p1, p2, p3, p4))).1).2.2.1) (((iter (prow k0 k1 k2 k3 k4 t0 t1 t2 t3 t4 f1 len1 z) i ((s0, s1, s2, s3, s4), (p0, p1, p2, p3, p4))).1).2.2.2.1) (((iter (prow k0 k1 k2 k3 k4 t0 t1 t2 t3 t4 f1 len1 z) i ((s0, s1, s2, s3, s4), (p0, p1, p2, p3, p4))).1).2.2.2.2) k0 k1 k2 k3 k4 t0 t1 t2 t3 t4 (rword f1 len1 (16 * i) z) (rword f1 len1 ((16 * i) + 4) z) (rword f1 len1 ((16 * i) + 8) z) (rword f1 len1 ((16 * i) + 12) z)).2.2.2.2))))), (r4, .inl (cL, 5, .inr (.inl (l5 ((pmt (((iter (prow k0 k1 k2 k3 k4 t0 t1 t2 t3 t4 f1 len1 z) i ((s0, s1, s2, s3, s4), (p0, p1, p2, p3, p4))).1).1) (((iter (prow k0 k1 k2 k3 k4 t0 t1 t2 t3 t4 f1 len1 z) i ((s0, s1, s2, s3, s4), (p0, p1, p2, p3, p4))).1).2.1) (((iter (prow k0 k1 k2 k3 k4 t0 t1 t2 t3 t4 f1 len1 z) i ((s0, s1, s2, s3, s4), (p0, p1, p2, p3, p4))).1).2.2.1) (((iter (prow k0 k1 k2 k3 k4 t0 t1 t2 t3 t4 f1 len1 z) i ((s0, s1, s2, s3, s4), (p0, p1, p2, p3, p4))).1).2.2.2.1) (((iter (prow k0 k1 k2 k3 k4 t0 t1 t2 t3 t4 f1 len1 z) i ((s0, s1, s2, s3, s4), (p0, p1, p2, p3, p4))).1).2.2.2.2) k0 k1 k2 k3 k4 t0 t1 t2 t3 t4 (rword f1 len1 (16 * i) z) (rword f1 len1 ((16 * i) + 4) z) (rword f1 len1 ((16 * i) + 8) z) (rword f1 len1 ((16 * i) + 12) z)).1) ((pmt (((iter (prow k0 k1 k2 k3 k4 t0 t1 t2 t3 t4 f1 len1 z) i ((s0, s1, s2, s3, s4), (p0, p1, p2, p3, p4))).1).1) (((iter (prow k0 k1 k2 k3 k4 t0 t1 t2 t3 t4 f1 len1 z) i ((s0, s1, s2, s3, s4), (p0, p1, p2, p3, p4))).1).2.1) (((iter (prow k0 k1 k2 k3 k4 t0 t1 t2 t3 t4 f1 len1 z) i ((s0, s1, s2, s3, s4), (p0, p1, p2, p3, p4))).1).2.2.1) (((iter (prow k0 k1 k2 k3 k4 t0 t1 t2 t3 t4 f1 len1 z) i ((s0, s1, s2, s3, s4), (p0, p1, p2, p3, p4))).1).2.2.2.1) (((iter (prow k0 k1 k2 k3 k4 t0 t1 t2 t3 t4 f1 len1 z) i ((s0, s1, s2, s3, s4), (p0, p1, p2, p3, p4))).1).2.2.2.2) k0 k1 k2 k3 k4 t0 t1 t2 t3 t4 (rword f1 len1 (16 * i) z) (rword f1 len1 ((16 * i) + 4) z) (rword f1 len1 ((16 * i) + 8) z) (rword f1 len1 ((16 * i) + 12) z)).2.1) ((pmt (((iter (prow k0 k1 k2 k3 k4 t0 t1 t2 t3 t4 f1 len1 z) i ((s0, s1, s2, s3, s4), (p0, p1, p2, p3, p4))).1).1) (((iter (prow k0 k1 k2 k3 k4 t0 t1 t2 t3 t4 f1 len1 z) i ((s0, s1, s2, s3, s4), (p0, p1, p2, p3, p4))).1).2.1) (((iter (prow k0 k1 k2 k3 k4 t0 t1 t2 t3 t4 f1 len1 z) i ((s0, s1, s2, s3, s4), (p0, p1, p2, p3, p4))).1).2.2.1) (((iter (prow k0 k1 k2 k3 k4 t0 t1 t2 t3 t4 f1 len1 z) i ((s0, s1, s2, s3, s4), (p0, p1, p2, p3, p4))).1).2.2.2.1) (((iter (prow k0 k1 k2 k3 k4 t0 t1 t2 t3 t4 f1 len1 z) i ((s0, s1, s2, s3, s4), (p0, p1, p2, p3, p4))).1).2.2.2.2) k0 k1 k2 k3 k4 t0 t1 t2 t3 t4 (rword f1 len1 (16 * i) z) (rword f1 len1 ((16 * i) + 4) z) (rword f1 len1 ((16 * i) + 8) z) (rword f1 len1 ((16 * i) + 12) z)).2.2.1) ((pmt (((iter (prow k0 k1 k2 k3 k4 t0 t1 t2 t3 t4 f1 len1 z) i ((s0, s1, s2, s3, s4), (p0, p1, p2, p3, p4))).1).1) (((iter (prow k0 k1 k2 k3 k4 t0 t1 t2 t3 t4 f1 len1 z) i ((s0, s1, s2, s3, s4), (p0, p1, p2, p3, p4))).1).2.1) (((iter (prow k0 k1 k2 k3 k4 t0 t1 t2 t3 t4 f1 len1 z) i ((s0, s1, s2, s3, s4), (p0, p1, p2, p3, p4))).1).2.2.1) (((iter (prow k0 k1 k2 k3 k4 t0 t1 t2 t3 t4 f1 len1 z) i ((s0, s1, s2, s3, s4), (p0, p1, p2, p3, p4))).1).2.2.2.1) (((iter (prow k0 k1 k2 k3 k4 t0 t1 t2 t3 t4 f1 len1 z) i ((s0, s1, s2, s3, s4), (p0, p1, p2, p3, p4))).1).2.2.2.2) k0 k1 k2 k3 k4 t0 t1 t2 t3 t4 (rword f1 len1 (16 * i) z) (rword f1 len1 ((16 * i) + 4) z) (rword f1 len1 ((16 * i) + 8) z) (rword f1 len1 ((16 * i) + 12) z)).2.2.2.1) ((pmt (((iter (prow k0 k1 k2 k3 k4 t0 t1 t2 t3 t4 f1 len1 z) i ((s0, s1, s2, s3, s4), (p0, p1, p2, p3, p4))).1).1) (((iter (prow k0 k1 k2 k3 k4 t0 t1 t2 t3 t4 f1 len1 z) i ((s0, s1, s2, s3, s4), (p0, p1, p2, p3, p4))).1).2.1) (((iter (prow k0 k1 k2 k3 k4 t0 t1 t2 t3 t4 f1 len1 z) i ((s0, s1, s2, s3, s4), (p0, p1, p2, p3, p4))).1).2.2.1) (((iter (prow k0 k1 k2 k3 k4 t0 t1 t2 t3 t4 f1 len1 z) i ((s0, s1, s2, s3, s4), (p0, p1, p2, p3, p4))).1).2.2.2.1) (((iter (prow k0 k1 k2 k3 k4 t0 t1 t2 t3 t4 f1 len1 z) i ((s0, s1, s2, s3, s4), (p0, p1, p2, p3, p4))).1).2.2.2.2) k0 k1 k2 k3 k4 t0 t1 t2 t3 t4 (rword f1 len1 (16 * i) z) (rword f1 len1 ((16 * i) + 4) z) (rword f1 len1 ((16 * i) + 8) z) (rword f1 len1 ((16 * i) + 12) z)).2.2.2.2)))))] := hD
      refine lv_iinc (v := nI ((16 * i) + 16)) (lv' := [(3, .int (nI ((16 * i) + 16))), (0, .ref h), (1, .ref h1), (2, .int (nI z))]) hx hb d_C_absorbRow_43 hl (k := 0) rfl (sb_inc (a := 16 * i) (b := (16 * i) + 16) (d := 16) rfl (by decide) (by omega)) (by decide) rfl (fun ls hl => ?_)
      refine lv_goto (tgt := 2) hx hb d_C_absorbRow_46 (by decide) ?_
      rw [show nI ((16 * i) + 16) = nI (16 * (i + 1)) from congrArg nI (by omega)] at hl
      rw [show l5 ((pabs (((iter (prow k0 k1 k2 k3 k4 t0 t1 t2 t3 t4 f1 len1 z) i ((s0, s1, s2, s3, s4), (p0, p1, p2, p3, p4))).1).1) (((iter (prow k0 k1 k2 k3 k4 t0 t1 t2 t3 t4 f1 len1 z) i ((s0, s1, s2, s3, s4), (p0, p1, p2, p3, p4))).1).2.1) (((iter (prow k0 k1 k2 k3 k4 t0 t1 t2 t3 t4 f1 len1 z) i ((s0, s1, s2, s3, s4), (p0, p1, p2, p3, p4))).1).2.2.1) (((iter (prow k0 k1 k2 k3 k4 t0 t1 t2 t3 t4 f1 len1 z) i ((s0, s1, s2, s3, s4), (p0, p1, p2, p3, p4))).1).2.2.2.1) (((iter (prow k0 k1 k2 k3 k4 t0 t1 t2 t3 t4 f1 len1 z) i ((s0, s1, s2, s3, s4), (p0, p1, p2, p3, p4))).1).2.2.2.2) k0 k1 k2 k3 k4 t0 t1 t2 t3 t4 (rword f1 len1 (16 * i) z) (rword f1 len1 ((16 * i) + 4) z) (rword f1 len1 ((16 * i) + 8) z) (rword f1 len1 ((16 * i) + 12) z)).1) ((pabs (((iter (prow k0 k1 k2 k3 k4 t0 t1 t2 t3 t4 f1 len1 z) i ((s0, s1, s2, s3, s4), (p0, p1, p2, p3, p4))).1).1) (((iter (prow k0 k1 k2 k3 k4 t0 t1 t2 t3 t4 f1 len1 z) i ((s0, s1, s2, s3, s4), (p0, p1, p2, p3, p4))).1).2.1) (((iter (prow k0 k1 k2 k3 k4 t0 t1 t2 t3 t4 f1 len1 z) i ((s0, s1, s2, s3, s4), (p0, p1, p2, p3, p4))).1).2.2.1) (((iter (prow k0 k1 k2 k3 k4 t0 t1 t2 t3 t4 f1 len1 z) i ((s0, s1, s2, s3, s4), (p0, p1, p2, p3, p4))).1).2.2.2.1) (((iter (prow k0 k1 k2 k3 k4 t0 t1 t2 t3 t4 f1 len1 z) i ((s0, s1, s2, s3, s4), (p0, p1, p2, p3, p4))).1).2.2.2.2) k0 k1 k2 k3 k4 t0 t1 t2 t3 t4 (rword f1 len1 (16 * i) z) (rword f1 len1 ((16 * i) + 4) z) (rword f1 len1 ((16 * i) + 8) z) (rword f1 len1 ((16 * i) + 12) z)).2.1) ((pabs (((iter (prow k0 k1 k2 k3 k4 t0 t1 t2 t3 t4 f1 len1 z) i ((s0, s1, s2, s3, s4), (p0, p1, p2, p3, p4))).1).1) (((iter (prow k0 k1 k2 k3 k4 t0 t1 t2 t3 t4 f1 len1 z) i ((s0, s1, s2, s3, s4), (p0, p1, p2, p3, p4))).1).2.1) (((iter (prow k0 k1 k2 k3 k4 t0 t1 t2 t3 t4 f1 len1 z) i ((s0, s1, s2, s3, s4), (p0, p1, p2, p3, p4))).1).2.2.1) (((iter (prow k0 k1 k2 k3 k4 t0 t1 t2 t3 t4 f1 len1 z) i ((s0, s1, s2, s3, s4), (p0, p1, p2, p3, p4))).1).2.2.2.1) (((iter (prow k0 k1 k2 k3 k4 t0 t1 t2 t3 t4 f1 len1 z) i ((s0, s1, s2, s3, s4), (p0, p1, p2, p3, p4))).1).2.2.2.2) k0 k1 k2 k3 k4 t0 t1 t2 t3 t4 (rword f1 len1 (16 * i) z) (rword f1 len1 ((16 * i) + 4) z) (rword f1 len1 ((16 * i) + 8) z) (rword f1 len1 ((16 * i) + 12) z)).2.2.1) ((pabs (((iter (prow k0 k1 k2 k3 k4 t0 t1 t2 t3 t4 f1 len1 z) i ((s0, s1, s2, s3, s4), (p0, p1, p2, p3, p4))).1).1) (((iter (prow k0 k1 k2 k3 k4 t0 t1 t2 t3 t4 f1 len1 z) i ((s0, s1, s2, s3, s4), (p0, p1, p2, p3, p4))).1).2.1) (((iter (prow k0 k1 k2 k3 k4 t0 t1 t2 t3 t4 f1 len1 z) i ((s0, s1, s2, s3, s4), (p0, p1, p2, p3, p4))).1).2.2.1) (((iter (prow k0 k1 k2 k3 k4 t0 t1 t2 t3 t4 f1 len1 z) i ((s0, s1, s2, s3, s4), (p0, p1, p2, p3, p4))).1).2.2.2.1) (((iter (prow k0 k1 k2 k3 k4 t0 t1 t2 t3 t4 f1 len1 z) i ((s0, s1, s2, s3, s4), (p0, p1, p2, p3, p4))).1).2.2.2.2) k0 k1 k2 k3 k4 t0 t1 t2 t3 t4 (rword f1 len1 (16 * i) z) (rword f1 len1 ((16 * i) + 4) z) (rword f1 len1 ((16 * i) + 8) z) (rword f1 len1 ((16 * i) + 12) z)).2.2.2.1) ((pabs (((iter (prow k0 k1 k2 k3 k4 t0 t1 t2 t3 t4 f1 len1 z) i ((s0, s1, s2, s3, s4), (p0, p1, p2, p3, p4))).1).1) (((iter (prow k0 k1 k2 k3 k4 t0 t1 t2 t3 t4 f1 len1 z) i ((s0, s1, s2, s3, s4), (p0, p1, p2, p3, p4))).1).2.1) (((iter (prow k0 k1 k2 k3 k4 t0 t1 t2 t3 t4 f1 len1 z) i ((s0, s1, s2, s3, s4), (p0, p1, p2, p3, p4))).1).2.2.1) (((iter (prow k0 k1 k2 k3 k4 t0 t1 t2 t3 t4 f1 len1 z) i ((s0, s1, s2, s3, s4), (p0, p1, p2, p3, p4))).1).2.2.2.1) (((iter (prow k0 k1 k2 k3 k4 t0 t1 t2 t3 t4 f1 len1 z) i ((s0, s1, s2, s3, s4), (p0, p1, p2, p3, p4))).1).2.2.2.2) k0 k1 k2 k3 k4 t0 t1 t2 t3 t4 (rword f1 len1 (16 * i) z) (rword f1 len1 ((16 * i) + 4) z) (rword f1 len1 ((16 * i) + 8) z) (rword f1 len1 ((16 * i) + 12) z)).2.2.2.2) = l5 (((iter (prow k0 k1 k2 k3 k4 t0 t1 t2 t3 t4 f1 len1 z) (i + 1) ((s0, s1, s2, s3, s4), (p0, p1, p2, p3, p4))).1).1) (((iter (prow k0 k1 k2 k3 k4 t0 t1 t2 t3 t4 f1 len1 z) (i + 1) ((s0, s1, s2, s3, s4), (p0, p1, p2, p3, p4))).1).2.1) (((iter (prow k0 k1 k2 k3 k4 t0 t1 t2 t3 t4 f1 len1 z) (i + 1) ((s0, s1, s2, s3, s4), (p0, p1, p2, p3, p4))).1).2.2.1) (((iter (prow k0 k1 k2 k3 k4 t0 t1 t2 t3 t4 f1 len1 z) (i + 1) ((s0, s1, s2, s3, s4), (p0, p1, p2, p3, p4))).1).2.2.2.1) (((iter (prow k0 k1 k2 k3 k4 t0 t1 t2 t3 t4 f1 len1 z) (i + 1) ((s0, s1, s2, s3, s4), (p0, p1, p2, p3, p4))).1).2.2.2.2) from (by subst_vars; rfl)] at hP hD
      rw [show l5 ((pmt (((iter (prow k0 k1 k2 k3 k4 t0 t1 t2 t3 t4 f1 len1 z) i ((s0, s1, s2, s3, s4), (p0, p1, p2, p3, p4))).1).1) (((iter (prow k0 k1 k2 k3 k4 t0 t1 t2 t3 t4 f1 len1 z) i ((s0, s1, s2, s3, s4), (p0, p1, p2, p3, p4))).1).2.1) (((iter (prow k0 k1 k2 k3 k4 t0 t1 t2 t3 t4 f1 len1 z) i ((s0, s1, s2, s3, s4), (p0, p1, p2, p3, p4))).1).2.2.1) (((iter (prow k0 k1 k2 k3 k4 t0 t1 t2 t3 t4 f1 len1 z) i ((s0, s1, s2, s3, s4), (p0, p1, p2, p3, p4))).1).2.2.2.1) (((iter (prow k0 k1 k2 k3 k4 t0 t1 t2 t3 t4 f1 len1 z) i ((s0, s1, s2, s3, s4), (p0, p1, p2, p3, p4))).1).2.2.2.2) k0 k1 k2 k3 k4 t0 t1 t2 t3 t4 (rword f1 len1 (16 * i) z) (rword f1 len1 ((16 * i) + 4) z) (rword f1 len1 ((16 * i) + 8) z) (rword f1 len1 ((16 * i) + 12) z)).1) ((pmt (((iter (prow k0 k1 k2 k3 k4 t0 t1 t2 t3 t4 f1 len1 z) i ((s0, s1, s2, s3, s4), (p0, p1, p2, p3, p4))).1).1) (((iter (prow k0 k1 k2 k3 k4 t0 t1 t2 t3 t4 f1 len1 z) i ((s0, s1, s2, s3, s4), (p0, p1, p2, p3, p4))).1).2.1) (((iter (prow k0 k1 k2 k3 k4 t0 t1 t2 t3 t4 f1 len1 z) i ((s0, s1, s2, s3, s4), (p0, p1, p2, p3, p4))).1).2.2.1) (((iter (prow k0 k1 k2 k3 k4 t0 t1 t2 t3 t4 f1 len1 z) i ((s0, s1, s2, s3, s4), (p0, p1, p2, p3, p4))).1).2.2.2.1) (((iter (prow k0 k1 k2 k3 k4 t0 t1 t2 t3 t4 f1 len1 z) i ((s0, s1, s2, s3, s4), (p0, p1, p2, p3, p4))).1).2.2.2.2) k0 k1 k2 k3 k4 t0 t1 t2 t3 t4 (rword f1 len1 (16 * i) z) (rword f1 len1 ((16 * i) + 4) z) (rword f1 len1 ((16 * i) + 8) z) (rword f1 len1 ((16 * i) + 12) z)).2.1) ((pmt (((iter (prow k0 k1 k2 k3 k4 t0 t1 t2 t3 t4 f1 len1 z) i ((s0, s1, s2, s3, s4), (p0, p1, p2, p3, p4))).1).1) (((iter (prow k0 k1 k2 k3 k4 t0 t1 t2 t3 t4 f1 len1 z) i ((s0, s1, s2, s3, s4), (p0, p1, p2, p3, p4))).1).2.1) (((iter (prow k0 k1 k2 k3 k4 t0 t1 t2 t3 t4 f1 len1 z) i ((s0, s1, s2, s3, s4), (p0, p1, p2, p3, p4))).1).2.2.1) (((iter (prow k0 k1 k2 k3 k4 t0 t1 t2 t3 t4 f1 len1 z) i ((s0, s1, s2, s3, s4), (p0, p1, p2, p3, p4))).1).2.2.2.1) (((iter (prow k0 k1 k2 k3 k4 t0 t1 t2 t3 t4 f1 len1 z) i ((s0, s1, s2, s3, s4), (p0, p1, p2, p3, p4))).1).2.2.2.2) k0 k1 k2 k3 k4 t0 t1 t2 t3 t4 (rword f1 len1 (16 * i) z) (rword f1 len1 ((16 * i) + 4) z) (rword f1 len1 ((16 * i) + 8) z) (rword f1 len1 ((16 * i) + 12) z)).2.2.1) ((pmt (((iter (prow k0 k1 k2 k3 k4 t0 t1 t2 t3 t4 f1 len1 z) i ((s0, s1, s2, s3, s4), (p0, p1, p2, p3, p4))).1).1) (((iter (prow k0 k1 k2 k3 k4 t0 t1 t2 t3 t4 f1 len1 z) i ((s0, s1, s2, s3, s4), (p0, p1, p2, p3, p4))).1).2.1) (((iter (prow k0 k1 k2 k3 k4 t0 t1 t2 t3 t4 f1 len1 z) i ((s0, s1, s2, s3, s4), (p0, p1, p2, p3, p4))).1).2.2.1) (((iter (prow k0 k1 k2 k3 k4 t0 t1 t2 t3 t4 f1 len1 z) i ((s0, s1, s2, s3, s4), (p0, p1, p2, p3, p4))).1).2.2.2.1) (((iter (prow k0 k1 k2 k3 k4 t0 t1 t2 t3 t4 f1 len1 z) i ((s0, s1, s2, s3, s4), (p0, p1, p2, p3, p4))).1).2.2.2.2) k0 k1 k2 k3 k4 t0 t1 t2 t3 t4 (rword f1 len1 (16 * i) z) (rword f1 len1 ((16 * i) + 4) z) (rword f1 len1 ((16 * i) + 8) z) (rword f1 len1 ((16 * i) + 12) z)).2.2.2.1) ((pmt (((iter (prow k0 k1 k2 k3 k4 t0 t1 t2 t3 t4 f1 len1 z) i ((s0, s1, s2, s3, s4), (p0, p1, p2, p3, p4))).1).1) (((iter (prow k0 k1 k2 k3 k4 t0 t1 t2 t3 t4 f1 len1 z) i ((s0, s1, s2, s3, s4), (p0, p1, p2, p3, p4))).1).2.1) (((iter (prow k0 k1 k2 k3 k4 t0 t1 t2 t3 t4 f1 len1 z) i ((s0, s1, s2, s3, s4), (p0, p1, p2, p3, p4))).1).2.2.1) (((iter (prow k0 k1 k2 k3 k4 t0 t1 t2 t3 t4 f1 len1 z) i ((s0, s1, s2, s3, s4), (p0, p1, p2, p3, p4))).1).2.2.2.1) (((iter (prow k0 k1 k2 k3 k4 t0 t1 t2 t3 t4 f1 len1 z) i ((s0, s1, s2, s3, s4), (p0, p1, p2, p3, p4))).1).2.2.2.2) k0 k1 k2 k3 k4 t0 t1 t2 t3 t4 (rword f1 len1 (16 * i) z) (rword f1 len1 ((16 * i) + 4) z) (rword f1 len1 ((16 * i) + 8) z) (rword f1 len1 ((16 * i) + 12) z)).2.2.2.2) = l5 (((iter (prow k0 k1 k2 k3 k4 t0 t1 t2 t3 t4 f1 len1 z) (i + 1) ((s0, s1, s2, s3, s4), (p0, p1, p2, p3, p4))).2).1) (((iter (prow k0 k1 k2 k3 k4 t0 t1 t2 t3 t4 f1 len1 z) (i + 1) ((s0, s1, s2, s3, s4), (p0, p1, p2, p3, p4))).2).2.1) (((iter (prow k0 k1 k2 k3 k4 t0 t1 t2 t3 t4 f1 len1 z) (i + 1) ((s0, s1, s2, s3, s4), (p0, p1, p2, p3, p4))).2).2.2.1) (((iter (prow k0 k1 k2 k3 k4 t0 t1 t2 t3 t4 f1 len1 z) (i + 1) ((s0, s1, s2, s3, s4), (p0, p1, p2, p3, p4))).2).2.2.2.1) (((iter (prow k0 k1 k2 k3 k4 t0 t1 t2 t3 t4 f1 len1 z) (i + 1) ((s0, s1, s2, s3, s4), (p0, p1, p2, p3, p4))).2).2.2.2.2) from (by subst_vars; rfl)] at hP hD
      exact ih1 (i + 1) (by omega) _ _ ls (hP.sub [2, 3, 4, 5, 6, 7, 0, 1] rfl) (hD.sub [2, 3, 4, 5, 6, 7, 0, 1] (by decide) rfl) hS (lv_sub hl [0, 1, 2, 3] rfl)
  exact lp1 ((z + 15) / 16) 0 (by omega) _ _ ls (hP.sub [0, 1, 2, 3, 4, 5, 6, 7] rfl) (hD.sub [0, 1, 2, 3, 4, 5, 6, 7] (by decide) rfl) hS (lv_sub hl [0, 1, 2, 3] rfl)

theorem d_C_turnText_0 : decode b_C_turnText 0 = .ok (.aload_n 0, 1) := by decide +kernel
theorem d_C_turnText_1 : decode b_C_turnText 1 = .ok (.getfield 25, 3) := by decide +kernel
theorem d_C_turnText_4 : decode b_C_turnText 4 = .ok (.istore 4, 2) := by decide +kernel
theorem d_C_turnText_6 : decode b_C_turnText 6 = .ok (.iconst 0, 1) := by decide +kernel
theorem d_C_turnText_7 : decode b_C_turnText 7 = .ok (.istore 5, 2) := by decide +kernel
theorem d_C_turnText_9 : decode b_C_turnText 9 = .ok (.iconst 0, 1) := by decide +kernel
theorem d_C_turnText_10 : decode b_C_turnText 10 = .ok (.istore 6, 2) := by decide +kernel
theorem d_C_turnText_12 : decode b_C_turnText 12 = .ok (.iload 6, 2) := by decide +kernel
theorem d_C_turnText_14 : decode b_C_turnText 14 = .ok (.iload_n 2, 1) := by decide +kernel
theorem d_C_turnText_15 : decode b_C_turnText 15 = .ok (.if_icmp .ge 72, 3) := by decide +kernel
theorem d_C_turnText_18 : decode b_C_turnText 18 = .ok (.iload 5, 2) := by decide +kernel
theorem d_C_turnText_20 : decode b_C_turnText 20 = .ok (.ifCond .ne 12, 3) := by decide +kernel
theorem d_C_turnText_23 : decode b_C_turnText 23 = .ok (.iinc 4 1, 3) := by decide +kernel
theorem d_C_turnText_26 : decode b_C_turnText 26 = .ok (.aload_n 0, 1) := by decide +kernel
theorem d_C_turnText_27 : decode b_C_turnText 27 = .ok (.iload 4, 2) := by decide +kernel
theorem d_C_turnText_29 : decode b_C_turnText 29 = .ok (.invokevirtual 28, 3) := by decide +kernel
theorem d_C_turnText_32 : decode b_C_turnText 32 = .ok (.aload_n 3, 1) := by decide +kernel
theorem d_C_turnText_33 : decode b_C_turnText 33 = .ok (.iload 6, 2) := by decide +kernel
theorem d_C_turnText_35 : decode b_C_turnText 35 = .ok (.aload_n 1, 1) := by decide +kernel
theorem d_C_turnText_36 : decode b_C_turnText 36 = .ok (.iload 6, 2) := by decide +kernel
theorem d_C_turnText_38 : decode b_C_turnText 38 = .ok (.invokevirtual 32, 3) := by decide +kernel
theorem d_C_turnText_41 : decode b_C_turnText 41 = .ok (.aload_n 0, 1) := by decide +kernel
theorem d_C_turnText_42 : decode b_C_turnText 42 = .ok (.getfield 22, 3) := by decide +kernel
theorem d_C_turnText_45 : decode b_C_turnText 45 = .ok (.iload 5, 2) := by decide +kernel
theorem d_C_turnText_47 : decode b_C_turnText 47 = .ok (.iconst 2, 1) := by decide +kernel
theorem d_C_turnText_48 : decode b_C_turnText 48 = .ok (.ishr, 1) := by decide +kernel
theorem d_C_turnText_49 : decode b_C_turnText 49 = .ok (.iaload, 1) := by decide +kernel
theorem d_C_turnText_50 : decode b_C_turnText 50 = .ok (.bipush 24, 2) := by decide +kernel
theorem d_C_turnText_52 : decode b_C_turnText 52 = .ok (.bipush 8, 2) := by decide +kernel
theorem d_C_turnText_54 : decode b_C_turnText 54 = .ok (.iload 5, 2) := by decide +kernel
theorem d_C_turnText_56 : decode b_C_turnText 56 = .ok (.iconst 3, 1) := by decide +kernel
theorem d_C_turnText_57 : decode b_C_turnText 57 = .ok (.iand, 1) := by decide +kernel
theorem d_C_turnText_58 : decode b_C_turnText 58 = .ok (.imul, 1) := by decide +kernel
theorem d_C_turnText_59 : decode b_C_turnText 59 = .ok (.isub, 1) := by decide +kernel
theorem d_C_turnText_60 : decode b_C_turnText 60 = .ok (.iushr, 1) := by decide +kernel
theorem d_C_turnText_61 : decode b_C_turnText 61 = .ok (.ixor, 1) := by decide +kernel
theorem d_C_turnText_62 : decode b_C_turnText 62 = .ok (.invokevirtual 38, 3) := by decide +kernel
theorem d_C_turnText_65 : decode b_C_turnText 65 = .ok (.iload 5, 2) := by decide +kernel
theorem d_C_turnText_67 : decode b_C_turnText 67 = .ok (.iconst 1, 1) := by decide +kernel
theorem d_C_turnText_68 : decode b_C_turnText 68 = .ok (.iadd, 1) := by decide +kernel
theorem d_C_turnText_69 : decode b_C_turnText 69 = .ok (.iconst 4, 1) := by decide +kernel
theorem d_C_turnText_70 : decode b_C_turnText 70 = .ok (.aload_n 0, 1) := by decide +kernel
theorem d_C_turnText_71 : decode b_C_turnText 71 = .ok (.getfield 22, 3) := by decide +kernel
theorem d_C_turnText_74 : decode b_C_turnText 74 = .ok (.arraylength, 1) := by decide +kernel
theorem d_C_turnText_75 : decode b_C_turnText 75 = .ok (.imul, 1) := by decide +kernel
theorem d_C_turnText_76 : decode b_C_turnText 76 = .ok (.iconst 1, 1) := by decide +kernel
theorem d_C_turnText_77 : decode b_C_turnText 77 = .ok (.isub, 1) := by decide +kernel
theorem d_C_turnText_78 : decode b_C_turnText 78 = .ok (.iand, 1) := by decide +kernel
theorem d_C_turnText_79 : decode b_C_turnText 79 = .ok (.istore 5, 2) := by decide +kernel
theorem d_C_turnText_81 : decode b_C_turnText 81 = .ok (.iinc 6 1, 3) := by decide +kernel
theorem d_C_turnText_84 : decode b_C_turnText 84 = .ok (.goto (-72), 3) := by decide +kernel
theorem d_C_turnText_87 : decode b_C_turnText 87 = .ok (.return_, 1) := by decide +kernel

def rm_C_turnTextG : Room := { frames := 4, cells := 0, slots := 0, locals := 97 }
set_option maxHeartbeats 4000000 in
set_option maxRecDepth 100000 in
theorem c_C_turnTextG (l : Launch) (D : va_G) (cI cL cB : ClassId) (tS tF : Nat) (h : Nat) (q0 : Nat) (q1 : Nat) (q2 : Nat) (qa : Nat) (qh : Nat) (qm : Nat) (tu : Int32) (n0 : Int32) (n1 : Int32) (n2 : Int32) (b0 : Int32) (b1 : Int32) (b2 : Int32) (b3 : Int32) (qk : Nat) (rnd : Nat) (rk : Nat → Int32) (h1 : Nat) (v1 : Nat) (len1 : Nat) (cp1 : Nat) (f1 : Nat → Int32) (h2 : Nat) (v2 : Nat) (len2 : Nat) (cp2 : Nat) (f2 : Nat → Int32) (z : Nat) (sz : Nat) (g1 : 1 ≤ rnd) (g2 : rnd ≤ 14) (hl1 : len1 ≤ cp1) (hc1 : cp1 ≤ 100000) (hl2 : len2 ≤ cp2) (hc2 : cp2 ≤ 100000) (hz : z ≤ 100000) : Met l y_C_turnText (sbw y_C_turnText b_C_turnText 7 none) rm_C_turnTextG (sbPc D cI cL cB tS tF [.ref h, .ref h1, .int (nI z), .ref h2] sz [(h, .inr (1, [.ref q0, .ref q1, .ref q2, .int 1, .int tu, .ref qa, .ref qh, .ref qm])), (q0, .inl (cI, 3, .inl (i3 n0 n1 n2))), (q1, .inl (cI, 4, .inl (i4 b0 b1 b2 b3))), (qa, .inr (0, [.ref qk, .int (nI rnd)])), (qk, .inl (cI, 60, .inl rk)), (h1, .inr (5, [.ref v1, .int (nI len1)])), (v1, .inl (cB, cp1, .inl f1)), (h2, .inr (5, [.ref v2, .int (nI len2)])), (v2, .inl (cB, cp2, .inl f2))]) (sbQv D (fun (_ : Unit) => True) (fun (_ : Unit) => [(h, .inr (1, [.ref q0, .ref q1, .ref q2, .int 1, .int ((iter (gtt rk rnd n0 n1 n2 f1 len1 len2) z (1, tu, (b0, b1, b2, b3), f2)).2.1), .ref qa, .ref qh, .ref qm])), (q0, .inl (cI, 3, .inl (i3 n0 n1 n2))), (q1, .inl (cI, 4, .inl (i4 (((iter (gtt rk rnd n0 n1 n2 f1 len1 len2) z (1, tu, (b0, b1, b2, b3), f2)).2.2.1).1) (((iter (gtt rk rnd n0 n1 n2 f1 len1 len2) z (1, tu, (b0, b1, b2, b3), f2)).2.2.1).2.1) (((iter (gtt rk rnd n0 n1 n2 f1 len1 len2) z (1, tu, (b0, b1, b2, b3), f2)).2.2.1).2.2.1) (((iter (gtt rk rnd n0 n1 n2 f1 len1 len2) z (1, tu, (b0, b1, b2, b3), f2)).2.2.1).2.2.2)))), (qa, .inr (0, [.ref qk, .int (nI rnd)])), (qk, .inl (cI, 60, .inl rk)), (h1, .inr (5, [.ref v1, .int (nI len1)])), (v1, .inl (cB, cp1, .inl f1)), (h2, .inr (5, [.ref v2, .int (nI len2)])), (v2, .inl (cB, cp2, .inl ((iter (gtt rk rnd n0 n1 n2 f1 len1 len2) z (1, tu, (b0, b1, b2, b3), f2)).2.2.2)))]) (va_A [(h, .inr (1, [.ref q0, .ref q1, .ref q2, .int 1, .int tu, .ref qa, .ref qh, .ref qm])), (q0, .inl (cI, 3, .inl (i3 n0 n1 n2))), (q1, .inl (cI, 4, .inl (i4 b0 b1 b2 b3))), (qa, .inr (0, [.ref qk, .int (nI rnd)])), (qk, .inl (cI, 60, .inl rk)), (h1, .inr (5, [.ref v1, .int (nI len1)])), (v1, .inl (cB, cp1, .inl f1)), (h2, .inr (5, [.ref v2, .int (nI len2)])), (v2, .inl (cB, cp2, .inl f2))] sz)) 0 0 (va_A [(h, .inr (1, [.ref q0, .ref q1, .ref q2, .int 1, .int tu, .ref qa, .ref qh, .ref qm])), (q0, .inl (cI, 3, .inl (i3 n0 n1 n2))), (q1, .inl (cI, 4, .inl (i4 b0 b1 b2 b3))), (qa, .inr (0, [.ref qk, .int (nI rnd)])), (qk, .inl (cI, 60, .inl rk)), (h1, .inr (5, [.ref v1, .int (nI len1)])), (v1, .inl (cB, cp1, .inl f1)), (h2, .inr (5, [.ref v2, .int (nI len2)])), (v2, .inl (cB, cp2, .inl f2))] sz) := by
  refine sb_ofW (Qc := fun A => (sbQv D (fun (_ : Unit) => True) (fun (_ : Unit) => [(h, .inr (1, [.ref q0, .ref q1, .ref q2, .int 1, .int ((iter (gtt rk rnd n0 n1 n2 f1 len1 len2) z (1, tu, (b0, b1, b2, b3), f2)).2.1), .ref qa, .ref qh, .ref qm])), (q0, .inl (cI, 3, .inl (i3 n0 n1 n2))), (q1, .inl (cI, 4, .inl (i4 (((iter (gtt rk rnd n0 n1 n2 f1 len1 len2) z (1, tu, (b0, b1, b2, b3), f2)).2.2.1).1) (((iter (gtt rk rnd n0 n1 n2 f1 len1 len2) z (1, tu, (b0, b1, b2, b3), f2)).2.2.1).2.1) (((iter (gtt rk rnd n0 n1 n2 f1 len1 len2) z (1, tu, (b0, b1, b2, b3), f2)).2.2.1).2.2.1) (((iter (gtt rk rnd n0 n1 n2 f1 len1 len2) z (1, tu, (b0, b1, b2, b3), f2)).2.2.1).2.2.2)))), (qa, .inr (0, [.ref qk, .int (nI rnd)])), (qk, .inl (cI, 60, .inl rk)), (h1, .inr (5, [.ref v1, .int (nI len1)])), (v1, .inl (cB, cp1, .inl f1)), (h2, .inr (5, [.ref v2, .int (nI len2)])), (v2, .inl (cB, cp2, .inl ((iter (gtt rk rnd n0 n1 n2 f1 len1 len2) z (1, tu, (b0, b1, b2, b3), f2)).2.2.2)))]) A)) (by decide) (Nat.le_of_ble_eq_true rfl) ?_
  intro p e s m args below meth c A ls hx hb hr hml hts hown hlocks hin hsz hP hG hD hA hS hl
  have hl : lv_has ls 7 [(0, .ref h), (1, .ref h1), (2, .int (nI z)), (3, .ref h2)] := hl
  refine lv_aload_n hx hb d_C_turnText_0 rfl (lv_at hl 0 rfl) ?_
  refine va_get (D := D) (ci := 1) (v := .int 1) (C := R_G) (T := F_G) (N := 8) hx hb hts in_G hown hG.1 hP 0 rfl rfl 3 (by decide) (hts _ k_131) (fun _ h9 => h9) rfl d_C_turnText_1 ?_
  refine lv_istore (lv' := [(4, .int 1), (0, .ref h), (1, .ref h1), (2, .int (nI z)), (3, .ref h2)]) hx hb d_C_turnText_4 hl (by decide) rfl (fun ls hl => ?_)
  refine lv_iconst (v := 0) hx hb d_C_turnText_6 (by decide) ?_
  refine lv_istore (lv' := [(5, .int 0), (4, .int 1), (0, .ref h), (1, .ref h1), (2, .int (nI z)), (3, .ref h2)]) hx hb d_C_turnText_7 hl (by decide) rfl (fun ls hl => ?_)
  refine lv_iconst (v := 0) hx hb d_C_turnText_9 (by decide) ?_
  refine lv_istore (lv' := [(6, .int 0), (5, .int 0), (4, .int 1), (0, .ref h), (1, .ref h1), (2, .int (nI z)), (3, .ref h2)]) hx hb d_C_turnText_10 hl (by decide) rfl (fun ls hl => ?_)
  have lp1 : ∀ (d1 i : Nat), i + d1 = z → ∀ (H : Heap) (locs : List Loc) (ls : Array Slot), va_P D vwCl [(h, .inr (1, [.ref q0, .ref q1, .ref q2, .int 1, .int ((iter (gtt rk rnd n0 n1 n2 f1 len1 len2) i (1, tu, (b0, b1, b2, b3), f2)).2.1), .ref qa, .ref qh, .ref qm])), (q0, .inl (cI, 3, .inl (i3 n0 n1 n2))), (q1, .inl (cI, 4, .inl (i4 (((iter (gtt rk rnd n0 n1 n2 f1 len1 len2) i (1, tu, (b0, b1, b2, b3), f2)).2.2.1).1) (((iter (gtt rk rnd n0 n1 n2 f1 len1 len2) i (1, tu, (b0, b1, b2, b3), f2)).2.2.1).2.1) (((iter (gtt rk rnd n0 n1 n2 f1 len1 len2) i (1, tu, (b0, b1, b2, b3), f2)).2.2.1).2.2.1) (((iter (gtt rk rnd n0 n1 n2 f1 len1 len2) i (1, tu, (b0, b1, b2, b3), f2)).2.2.1).2.2.2)))), (qa, .inr (0, [.ref qk, .int (nI rnd)])), (qk, .inl (cI, 60, .inl rk)), (h1, .inr (5, [.ref v1, .int (nI len1)])), (v1, .inl (cB, cp1, .inl f1)), (h2, .inr (5, [.ref v2, .int (nI len2)])), (v2, .inl (cB, cp2, .inl ((iter (gtt rk rnd n0 n1 n2 f1 len1 len2) i (1, tu, (b0, b1, b2, b3), f2)).2.2.2)))] H → va_D A [(h, .inr (1, [.ref q0, .ref q1, .ref q2, .int 1, .int ((iter (gtt rk rnd n0 n1 n2 f1 len1 len2) i (1, tu, (b0, b1, b2, b3), f2)).2.1), .ref qa, .ref qh, .ref qm])), (q0, .inl (cI, 3, .inl (i3 n0 n1 n2))), (q1, .inl (cI, 4, .inl (i4 (((iter (gtt rk rnd n0 n1 n2 f1 len1 len2) i (1, tu, (b0, b1, b2, b3), f2)).2.2.1).1) (((iter (gtt rk rnd n0 n1 n2 f1 len1 len2) i (1, tu, (b0, b1, b2, b3), f2)).2.2.1).2.1) (((iter (gtt rk rnd n0 n1 n2 f1 len1 len2) i (1, tu, (b0, b1, b2, b3), f2)).2.2.1).2.2.1) (((iter (gtt rk rnd n0 n1 n2 f1 len1 len2) i (1, tu, (b0, b1, b2, b3), f2)).2.2.1).2.2.2)))), (qa, .inr (0, [.ref qk, .int (nI rnd)])), (qk, .inl (cI, 60, .inl rk)), (h1, .inr (5, [.ref v1, .int (nI len1)])), (v1, .inl (cB, cp1, .inl f1)), (h2, .inr (5, [.ref v2, .int (nI len2)])), (v2, .inl (cB, cp2, .inl ((iter (gtt rk rnd n0 n1 n2 f1 len1 len2) i (1, tu, (b0, b1, b2, b3), f2)).2.2.2)))] → va_S A s.heap H locs → lv_has ls 7 [(4, .int ((iter (gtt rk rnd n0 n1 n2 f1 len1 len2) i (1, tu, (b0, b1, b2, b3), f2)).1)), (5, .int (nI (i % 16))), (6, .int (nI i)), (0, .ref h), (1, .ref h1), (2, .int (nI z)), (3, .ref h2)] → W p l e rm_C_turnTextG s m args below meth c H locs 0 0 (MQ below (sbQv D (fun (_ : Unit) => True) (fun (_ : Unit) => [(h, .inr (1, [.ref q0, .ref q1, .ref q2, .int 1, .int ((iter (gtt rk rnd n0 n1 n2 f1 len1 len2) z (1, tu, (b0, b1, b2, b3), f2)).2.1), .ref qa, .ref qh, .ref qm])), (q0, .inl (cI, 3, .inl (i3 n0 n1 n2))), (q1, .inl (cI, 4, .inl (i4 (((iter (gtt rk rnd n0 n1 n2 f1 len1 len2) z (1, tu, (b0, b1, b2, b3), f2)).2.2.1).1) (((iter (gtt rk rnd n0 n1 n2 f1 len1 len2) z (1, tu, (b0, b1, b2, b3), f2)).2.2.1).2.1) (((iter (gtt rk rnd n0 n1 n2 f1 len1 len2) z (1, tu, (b0, b1, b2, b3), f2)).2.2.1).2.2.1) (((iter (gtt rk rnd n0 n1 n2 f1 len1 len2) z (1, tu, (b0, b1, b2, b3), f2)).2.2.1).2.2.2)))), (qa, .inr (0, [.ref qk, .int (nI rnd)])), (qk, .inl (cI, 60, .inl rk)), (h1, .inr (5, [.ref v1, .int (nI len1)])), (v1, .inl (cB, cp1, .inl f1)), (h2, .inr (5, [.ref v2, .int (nI len2)])), (v2, .inl (cB, cp2, .inl ((iter (gtt rk rnd n0 n1 n2 f1 len1 len2) z (1, tu, (b0, b1, b2, b3), f2)).2.2.2)))]) A) args s 0 0 A) (F0 m 12 ls []) := by
    intro d1
    induction d1 with
    | zero =>
      intro i hi1 H locs ls hP hD hS hl
      obtain rfl : z = i := by omega
      refine lv_iload hx hb d_C_turnText_12 (lv_at hl 2 rfl) ?_
      refine lv_iload_n hx hb d_C_turnText_14 rfl (lv_at hl 5 rfl) ?_
      refine lv_icmp_ge (tgt := 87) hx hb d_C_turnText_15 (by decide) (fun c_1 => ?_) (fun c_1 => absurd (sb_geT (a := z) (b := z) rfl rfl (by omega) (by omega) (by omega)) c_1)
      have hP9 := hP.sub (ws' := [(h, .inr (1, [.ref q0, .ref q1, .ref q2, .int 1, .int ((iter (gtt rk rnd n0 n1 n2 f1 len1 len2) z (1, tu, (b0, b1, b2, b3), f2)).2.1), .ref qa, .ref qh, .ref qm])), (q0, .inl (cI, 3, .inl (i3 n0 n1 n2))), (q1, .inl (cI, 4, .inl (i4 (((iter (gtt rk rnd n0 n1 n2 f1 len1 len2) z (1, tu, (b0, b1, b2, b3), f2)).2.2.1).1) (((iter (gtt rk rnd n0 n1 n2 f1 len1 len2) z (1, tu, (b0, b1, b2, b3), f2)).2.2.1).2.1) (((iter (gtt rk rnd n0 n1 n2 f1 len1 len2) z (1, tu, (b0, b1, b2, b3), f2)).2.2.1).2.2.1) (((iter (gtt rk rnd n0 n1 n2 f1 len1 len2) z (1, tu, (b0, b1, b2, b3), f2)).2.2.1).2.2.2)))), (qa, .inr (0, [.ref qk, .int (nI rnd)])), (qk, .inl (cI, 60, .inl rk)), (h1, .inr (5, [.ref v1, .int (nI len1)])), (v1, .inl (cB, cp1, .inl f1)), (h2, .inr (5, [.ref v2, .int (nI len2)])), (v2, .inl (cB, cp2, .inl ((iter (gtt rk rnd n0 n1 n2 f1 len1 len2) z (1, tu, (b0, b1, b2, b3), f2)).2.2.2)))]) [0, 1, 2, 3, 4, 5, 6, 7, 8] rfl
      have hD9 := hD.sub (ws' := [(h, .inr (1, [.ref q0, .ref q1, .ref q2, .int 1, .int ((iter (gtt rk rnd n0 n1 n2 f1 len1 len2) z (1, tu, (b0, b1, b2, b3), f2)).2.1), .ref qa, .ref qh, .ref qm])), (q0, .inl (cI, 3, .inl (i3 n0 n1 n2))), (q1, .inl (cI, 4, .inl (i4 (((iter (gtt rk rnd n0 n1 n2 f1 len1 len2) z (1, tu, (b0, b1, b2, b3), f2)).2.2.1).1) (((iter (gtt rk rnd n0 n1 n2 f1 len1 len2) z (1, tu, (b0, b1, b2, b3), f2)).2.2.1).2.1) (((iter (gtt rk rnd n0 n1 n2 f1 len1 len2) z (1, tu, (b0, b1, b2, b3), f2)).2.2.1).2.2.1) (((iter (gtt rk rnd n0 n1 n2 f1 len1 len2) z (1, tu, (b0, b1, b2, b3), f2)).2.2.1).2.2.2)))), (qa, .inr (0, [.ref qk, .int (nI rnd)])), (qk, .inl (cI, 60, .inl rk)), (h1, .inr (5, [.ref v1, .int (nI len1)])), (v1, .inl (cB, cp1, .inl f1)), (h2, .inr (5, [.ref v2, .int (nI len2)])), (v2, .inl (cB, cp2, .inl ((iter (gtt rk rnd n0 n1 n2 f1 len1 len2) z (1, tu, (b0, b1, b2, b3), f2)).2.2.2)))]) [0, 1, 2, 3, 4, 5, 6, 7, 8] (by decide) rfl
      exact W.vret hx hb hr (fun t ht hW => ⟨⟨(), rfl, trivial, by rw [ht]; exact hP9, hD9⟩, hS.F ht⟩) hS.2.2 d_C_turnText_87
    | succ d1 ih1 =>
      intro i hi1 H locs ls hP hD hS hl
      refine lv_iload hx hb d_C_turnText_12 (lv_at hl 2 rfl) ?_
      refine lv_iload_n hx hb d_C_turnText_14 rfl (lv_at hl 5 rfl) ?_
      refine lv_icmp_ge (tgt := 87) hx hb d_C_turnText_15 (by decide) (fun c_2 => absurd c_2 (sb_geF (a := i) (b := z) rfl rfl (by omega) (by omega) (by omega))) (fun c_2 => ?_)
      refine lv_iload hx hb d_C_turnText_18 (lv_at hl 1 rfl) ?_
      refine lv_if_ne (tgt := 32) hx hb d_C_turnText_20 (by decide) (fun c_3 => ?_) (fun c_3 => ?_)
      · have c_3 := mt (sb_eqI (a := i % 16) (b := 0) rfl rfl (by omega) (by omega)).mpr c_3
        refine lv_aload_n hx hb d_C_turnText_32 rfl (lv_at hl 6 rfl) ?_
        refine lv_iload hx hb d_C_turnText_33 (lv_at hl 2 rfl) ?_
        refine lv_aload_n hx hb d_C_turnText_35 rfl (lv_at hl 4 rfl) ?_
        refine lv_iload hx hb d_C_turnText_36 (lv_at hl 2 rfl) ?_
        refine vp_callSi (va_runV (As := [.int (nI i)]) (rest := [.int (nI i), .ref h2]) ⟨hx, hb, hml, hown, hts⟩ (c_R_get l D cI cL cB tS tF h1 v1 len1 cp1 f1 (nI i) hl1 (by omega)) (cwV 1 hts (sb_gV k_520 k_429 k_430 k_23 k_431) rfl rfl rfl (by decide +kernel) ⟨Nat.le_of_ble_eq_true rfl, Nat.le_of_ble_eq_true rfl⟩) (sb_rV hG hP hS [5, 6] rfl (ci := 5) (q0 := 5) rfl rfl) rfl rfl hl.1 rfl (lv_room (Nat.le_of_ble_eq_true rfl)) d_C_turnText_38 ⟨Nat.le_of_ble_eq_true rfl, Nat.le_of_ble_eq_true rfl⟩).run (fun r_4 er_4 => ?_)
        subst er_4
        refine lv_aload_n hx hb d_C_turnText_41 rfl (lv_at hl 3 rfl) ?_
        refine va_get (D := D) (ci := 1) (v := .ref q1) (C := R_G) (T := F_G) (N := 8) hx hb hts in_G hown hG.1 hP 0 rfl rfl 1 (by decide) (hts _ k_121) (fun _ h9 => h9) rfl d_C_turnText_42 ?_
        refine lv_iload hx hb d_C_turnText_45 (lv_at hl 1 rfl) ?_
        refine lv_iconst (v := 2) hx hb d_C_turnText_47 (by decide) ?_
        refine lv_ishr hx hb d_C_turnText_48 ?_
        refine sb_topn ((i % 16) / 4) (sb_shr (a := i % 16) 2 rfl (by omega) (by decide)) ?_
        refine sb_ild hx hb hG.1 hP 2 rfl ((i % 16) / 4) rfl (by omega) (by omega) d_C_turnText_49 ?_
        refine lv_bipush (v := 24) hx hb d_C_turnText_50 (by decide) ?_
        refine lv_bipush (v := 8) hx hb d_C_turnText_52 (by decide) ?_
        refine lv_iload hx hb d_C_turnText_54 (lv_at hl 1 rfl) ?_
        refine lv_iconst (v := 3) hx hb d_C_turnText_56 (by decide) ?_
        refine lv_iand hx hb d_C_turnText_57 ?_
        refine sb_topn ((i % 16) % 4) (sb_and (a := i % 16) 2 rfl (by omega) (by decide)) ?_
        refine lv_imul hx hb d_C_turnText_58 ?_
        refine sb_topn (8 * ((i % 16) % 4)) (sb_mul (a := 8) (b := (i % 16) % 4) rfl rfl) ?_
        refine lv_isub hx hb d_C_turnText_59 ?_
        refine sb_topn (24 - (8 * ((i % 16) % 4))) (sb_sub (a := 24) (b := 8 * ((i % 16) % 4)) (by omega) rfl rfl) ?_
        refine lv_iushr (v := uS ((i4 (((iter (gtt rk rnd n0 n1 n2 f1 len1 len2) i (1, tu, (b0, b1, b2, b3), f2)).2.2.1).1) (((iter (gtt rk rnd n0 n1 n2 f1 len1 len2) i (1, tu, (b0, b1, b2, b3), f2)).2.2.1).2.1) (((iter (gtt rk rnd n0 n1 n2 f1 len1 len2) i (1, tu, (b0, b1, b2, b3), f2)).2.2.1).2.2.1) (((iter (gtt rk rnd n0 n1 n2 f1 len1 len2) i (1, tu, (b0, b1, b2, b3), f2)).2.2.1).2.2.2)) ((i % 16) / 4)) (nI (24 - (8 * ((i % 16) % 4))))) hx hb d_C_turnText_60 rfl ?_
        refine lv_ixor hx hb d_C_turnText_61 ?_
        refine sb_callv (wr := [(h, .inr (1, [.ref q0, .ref q1, .ref q2, .int 1, .int ((iter (gtt rk rnd n0 n1 n2 f1 len1 len2) i (1, tu, (b0, b1, b2, b3), f2)).2.1), .ref qa, .ref qh, .ref qm])), (q0, .inl (cI, 3, .inl (i3 n0 n1 n2))), (q1, .inl (cI, 4, .inl (i4 (((iter (gtt rk rnd n0 n1 n2 f1 len1 len2) i (1, tu, (b0, b1, b2, b3), f2)).2.2.1).1) (((iter (gtt rk rnd n0 n1 n2 f1 len1 len2) i (1, tu, (b0, b1, b2, b3), f2)).2.2.1).2.1) (((iter (gtt rk rnd n0 n1 n2 f1 len1 len2) i (1, tu, (b0, b1, b2, b3), f2)).2.2.1).2.2.1) (((iter (gtt rk rnd n0 n1 n2 f1 len1 len2) i (1, tu, (b0, b1, b2, b3), f2)).2.2.1).2.2.2)))), (qa, .inr (0, [.ref qk, .int (nI rnd)])), (qk, .inl (cI, 60, .inl rk)), (h1, .inr (5, [.ref v1, .int (nI len1)])), (v1, .inl (cB, cp1, .inl f1))]) (va_runV (As := [.int (nI i), .int ((rget f1 len1 (nI i)) ^^^ (uS ((i4 (((iter (gtt rk rnd n0 n1 n2 f1 len1 len2) i (1, tu, (b0, b1, b2, b3), f2)).2.2.1).1) (((iter (gtt rk rnd n0 n1 n2 f1 len1 len2) i (1, tu, (b0, b1, b2, b3), f2)).2.2.1).2.1) (((iter (gtt rk rnd n0 n1 n2 f1 len1 len2) i (1, tu, (b0, b1, b2, b3), f2)).2.2.1).2.2.1) (((iter (gtt rk rnd n0 n1 n2 f1 len1 len2) i (1, tu, (b0, b1, b2, b3), f2)).2.2.1).2.2.2)) ((i % 16) / 4)) (nI (24 - (8 * ((i % 16) % 4))))))]) (rest := []) ⟨hx, hb, hml, hown, hts⟩ (c_R_set l D cI cL cB tS tF h2 v2 len2 cp2 ((iter (gtt rk rnd n0 n1 n2 f1 len1 len2) i (1, tu, (b0, b1, b2, b3), f2)).2.2.2) (nI i) ((rget f1 len1 (nI i)) ^^^ (uS ((i4 (((iter (gtt rk rnd n0 n1 n2 f1 len1 len2) i (1, tu, (b0, b1, b2, b3), f2)).2.2.1).1) (((iter (gtt rk rnd n0 n1 n2 f1 len1 len2) i (1, tu, (b0, b1, b2, b3), f2)).2.2.1).2.1) (((iter (gtt rk rnd n0 n1 n2 f1 len1 len2) i (1, tu, (b0, b1, b2, b3), f2)).2.2.1).2.2.1) (((iter (gtt rk rnd n0 n1 n2 f1 len1 len2) i (1, tu, (b0, b1, b2, b3), f2)).2.2.1).2.2.2)) ((i % 16) / 4)) (nI (24 - (8 * ((i % 16) % 4)))))) _ hl2 (by omega)) (cwV 2 hts (sb_gV k_521 k_368 k_369 k_23 k_370) rfl rfl rfl (by decide +kernel) ⟨Nat.le_of_ble_eq_true rfl, Nat.le_of_ble_eq_true rfl⟩) (sb_pV hG hP hD hS hA [7, 8] (by decide) rfl (ci := 5) (q0 := 7) rfl rfl) rfl rfl hl.1 rfl (lv_room (Nat.le_of_ble_eq_true rfl)) d_C_turnText_62 ⟨Nat.le_of_ble_eq_true rfl, Nat.le_of_ble_eq_true rfl⟩) hP hD hS hA [7, 8] [0, 1, 2, 3, 4, 5, 6] rfl rfl (by decide) (by decide) (fun u H locs hw_5 hP hD hS => ?_)
        have hP : va_P D vwCl [(h, .inr (1, [.ref q0, .ref q1, .ref q2, .int 1, .int ((iter (gtt rk rnd n0 n1 n2 f1 len1 len2) i (1, tu, (b0, b1, b2, b3), f2)).2.1), .ref qa, .ref qh, .ref qm])), (q0, .inl (cI, 3, .inl (i3 n0 n1 n2))), (q1, .inl (cI, 4, .inl (i4 (((iter (gtt rk rnd n0 n1 n2 f1 len1 len2) i (1, tu, (b0, b1, b2, b3), f2)).2.2.1).1) (((iter (gtt rk rnd n0 n1 n2 f1 len1 len2) i (1, tu, (b0, b1, b2, b3), f2)).2.2.1).2.1) (((iter (gtt rk rnd n0 n1 n2 f1 len1 len2) i (1, tu, (b0, b1, b2, b3), f2)).2.2.1).2.2.1) (((iter (gtt rk rnd n0 n1 n2 f1 len1 len2) i (1, tu, (b0, b1, b2, b3), f2)).2.2.1).2.2.2)))), (qa, .inr (0, [.ref qk, .int (nI rnd)])), (qk, .inl (cI, 60, .inl rk)), (h1, .inr (5, [.ref v1, .int (nI len1)])), (v1, .inl (cB, cp1, .inl f1)), (h2, .inr (5, [.ref v2, .int (nI len2)])), (v2, .inl (cB, cp2, .inl (rset ((iter (gtt rk rnd n0 n1 n2 f1 len1 len2) i (1, tu, (b0, b1, b2, b3), f2)).2.2.2) len2 (nI i) ((rget f1 len1 (nI i)) ^^^ (uS ((i4 (((iter (gtt rk rnd n0 n1 n2 f1 len1 len2) i (1, tu, (b0, b1, b2, b3), f2)).2.2.1).1) (((iter (gtt rk rnd n0 n1 n2 f1 len1 len2) i (1, tu, (b0, b1, b2, b3), f2)).2.2.1).2.1) (((iter (gtt rk rnd n0 n1 n2 f1 len1 len2) i (1, tu, (b0, b1, b2, b3), f2)).2.2.1).2.2.1) (((iter (gtt rk rnd n0 n1 n2 f1 len1 len2) i (1, tu, (b0, b1, b2, b3), f2)).2.2.1).2.2.2)) ((i % 16) / 4)) (nI (24 - (8 * ((i % 16) % 4)))))))))] H := hP
        have hD : va_D A [(h, .inr (1, [.ref q0, .ref q1, .ref q2, .int 1, .int ((iter (gtt rk rnd n0 n1 n2 f1 len1 len2) i (1, tu, (b0, b1, b2, b3), f2)).2.1), .ref qa, .ref qh, .ref qm])), (q0, .inl (cI, 3, .inl (i3 n0 n1 n2))), (q1, .inl (cI, 4, .inl (i4 (((iter (gtt rk rnd n0 n1 n2 f1 len1 len2) i (1, tu, (b0, b1, b2, b3), f2)).2.2.1).1) (((iter (gtt rk rnd n0 n1 n2 f1 len1 len2) i (1, tu, (b0, b1, b2, b3), f2)).2.2.1).2.1) (((iter (gtt rk rnd n0 n1 n2 f1 len1 len2) i (1, tu, (b0, b1, b2, b3), f2)).2.2.1).2.2.1) (((iter (gtt rk rnd n0 n1 n2 f1 len1 len2) i (1, tu, (b0, b1, b2, b3), f2)).2.2.1).2.2.2)))), (qa, .inr (0, [.ref qk, .int (nI rnd)])), (qk, .inl (cI, 60, .inl rk)), (h1, .inr (5, [.ref v1, .int (nI len1)])), (v1, .inl (cB, cp1, .inl f1)), (h2, .inr (5, [.ref v2, .int (nI len2)])), (v2, .inl (cB, cp2, .inl (rset ((iter (gtt rk rnd n0 n1 n2 f1 len1 len2) i (1, tu, (b0, b1, b2, b3), f2)).2.2.2) len2 (nI i) ((rget f1 len1 (nI i)) ^^^ (uS ((i4 (((iter (gtt rk rnd n0 n1 n2 f1 len1 len2) i (1, tu, (b0, b1, b2, b3), f2)).2.2.1).1) (((iter (gtt rk rnd n0 n1 n2 f1 len1 len2) i (1, tu, (b0, b1, b2, b3), f2)).2.2.1).2.1) (((iter (gtt rk rnd n0 n1 n2 f1 len1 len2) i (1, tu, (b0, b1, b2, b3), f2)).2.2.1).2.2.1) (((iter (gtt rk rnd n0 n1 n2 f1 len1 len2) i (1, tu, (b0, b1, b2, b3), f2)).2.2.1).2.2.2)) ((i % 16) / 4)) (nI (24 - (8 * ((i % 16) % 4)))))))))] := hD
        refine lv_iload hx hb d_C_turnText_65 (lv_at hl 1 rfl) ?_
        refine lv_iconst (v := 1) hx hb d_C_turnText_67 (by decide) ?_
        refine lv_iadd hx hb d_C_turnText_68 ?_
        refine sb_topn ((i % 16) + 1) (nI_add (i % 16) 1) ?_
        refine lv_iconst (v := 4) hx hb d_C_turnText_69 (by decide) ?_
        refine lv_aload_n hx hb d_C_turnText_70 rfl (lv_at hl 3 rfl) ?_
        refine va_get (D := D) (ci := 1) (v := .ref q1) (C := R_G) (T := F_G) (N := 8) hx hb hts in_G hown hG.1 hP 0 rfl rfl 1 (by decide) (hts _ k_121) (fun _ h9 => h9) rfl d_C_turnText_71 ?_
        refine va_alen (v := nI 4) hx hb hG.1 hP 2 0 rfl rfl rfl d_C_turnText_74 ?_
        refine lv_imul hx hb d_C_turnText_75 ?_
        refine sb_topn 16 (sb_eqn (a := 4 * 4) (b := 16) (sb_mul (a := 4) (b := 4) rfl rfl) (by omega)) ?_
        refine lv_iconst (v := 1) hx hb d_C_turnText_76 (by decide) ?_
        refine lv_isub hx hb d_C_turnText_77 ?_
        refine sb_topn 15 (sb_eqn (a := 16 - 1) (b := 15) (sb_sub (a := 16) (b := 1) (by omega) rfl rfl) (by omega)) ?_
        refine lv_iand hx hb d_C_turnText_78 ?_
        refine sb_topn (((i % 16) + 1) % 16) (sb_and (a := (i % 16) + 1) 4 rfl (by omega) (by decide)) ?_
        refine sb_topn (((i % 16) + 1) % 16) rfl ?_
        refine lv_istore (lv' := [(5, .int (nI (((i % 16) + 1) % 16))), (4, .int ((iter (gtt rk rnd n0 n1 n2 f1 len1 len2) i (1, tu, (b0, b1, b2, b3), f2)).1)), (6, .int (nI i)), (0, .ref h), (1, .ref h1), (2, .int (nI z)), (3, .ref h2)]) hx hb d_C_turnText_79 hl (by decide) rfl (fun ls hl => ?_)
        refine lv_iinc (v := nI (i + 1)) (lv' := [(6, .int (nI (i + 1))), (5, .int (nI (((i % 16) + 1) % 16))), (4, .int ((iter (gtt rk rnd n0 n1 n2 f1 len1 len2) i (1, tu, (b0, b1, b2, b3), f2)).1)), (0, .ref h), (1, .ref h1), (2, .int (nI z)), (3, .ref h2)]) hx hb d_C_turnText_81 hl (k := 2) rfl (sb_inc (a := i) (b := i + 1) (d := 1) rfl (by decide) (by omega)) (by decide) rfl (fun ls hl => ?_)
        refine lv_goto (tgt := 12) hx hb d_C_turnText_84 (by decide) ?_
        have hE : iter (gtt rk rnd n0 n1 n2 f1 len1 len2) (i + 1) (1, tu, (b0, b1, b2, b3), f2) = ((iter (gtt rk rnd n0 n1 n2 f1 len1 len2) i (1, tu, (b0, b1, b2, b3), f2)).1, (iter (gtt rk rnd n0 n1 n2 f1 len1 len2) i (1, tu, (b0, b1, b2, b3), f2)).2.1, (((iter (gtt rk rnd n0 n1 n2 f1 len1 len2) i (1, tu, (b0, b1, b2, b3), f2)).2.2.1).1, ((iter (gtt rk rnd n0 n1 n2 f1 len1 len2) i (1, tu, (b0, b1, b2, b3), f2)).2.2.1).2.1, ((iter (gtt rk rnd n0 n1 n2 f1 len1 len2) i (1, tu, (b0, b1, b2, b3), f2)).2.2.1).2.2.1, ((iter (gtt rk rnd n0 n1 n2 f1 len1 len2) i (1, tu, (b0, b1, b2, b3), f2)).2.2.1).2.2.2), rset ((iter (gtt rk rnd n0 n1 n2 f1 len1 len2) i (1, tu, (b0, b1, b2, b3), f2)).2.2.2) len2 (nI i) ((rget f1 len1 (nI i)) ^^^ (uS ((i4 (((iter (gtt rk rnd n0 n1 n2 f1 len1 len2) i (1, tu, (b0, b1, b2, b3), f2)).2.2.1).1) (((iter (gtt rk rnd n0 n1 n2 f1 len1 len2) i (1, tu, (b0, b1, b2, b3), f2)).2.2.1).2.1) (((iter (gtt rk rnd n0 n1 n2 f1 len1 len2) i (1, tu, (b0, b1, b2, b3), f2)).2.2.1).2.2.1) (((iter (gtt rk rnd n0 n1 n2 f1 len1 len2) i (1, tu, (b0, b1, b2, b3), f2)).2.2.1).2.2.2)) ((i % 16) / 4)) (nI (24 - (8 * ((i % 16) % 4))))))) := (iter_s _ _ _).trans (if_neg c_3)
        have ih' := ih1 (i + 1) (by omega)
        rw [hE] at ih'
        rw [show nI (((i % 16) + 1) % 16) = nI ((i + 1) % 16) from congrArg nI (by omega)] at hl
        exact ih' _ _ ls (hP.sub [0, 1, 2, 3, 4, 5, 6, 7, 8] rfl) (hD.sub [0, 1, 2, 3, 4, 5, 6, 7, 8] (by decide) rfl) hS (lv_sub hl [2, 1, 0, 3, 4, 5, 6] rfl)
      · have c_3 := (sb_eqI (a := i % 16) (b := 0) rfl rfl (by omega) (by omega)).mp c_3
        obtain ⟨x_6, ex_6⟩ : ∃ y : Int32, y = ((iter (gtt rk rnd n0 n1 n2 f1 len1 len2) i (1, tu, (b0, b1, b2, b3), f2)).1) + 1 := ⟨_, rfl⟩
        refine lv_iinc (v := x_6) (lv' := [(4, .int x_6), (5, .int (nI (i % 16))), (6, .int (nI i)), (0, .ref h), (1, .ref h1), (2, .int (nI z)), (3, .ref h2)]) hx hb d_C_turnText_23 hl (k := 0) rfl (by rw [ex_6]; rfl) (by decide) rfl (fun ls hl => ?_)
        refine lv_aload_n hx hb d_C_turnText_26 rfl (lv_at hl 3 rfl) ?_
        refine lv_iload hx hb d_C_turnText_27 (lv_at hl 0 rfl) ?_
        refine sb_callv (wr := [(h1, .inr (5, [.ref v1, .int (nI len1)])), (v1, .inl (cB, cp1, .inl f1)), (h2, .inr (5, [.ref v2, .int (nI len2)])), (v2, .inl (cB, cp2, .inl ((iter (gtt rk rnd n0 n1 n2 f1 len1 len2) i (1, tu, (b0, b1, b2, b3), f2)).2.2.2)))]) (va_runU (As := [.int x_6]) (rest := []) ⟨hx, hb, hml, hown, hts⟩ (c_G_turnBlock l D cI cL cB tS tF h q0 q1 q2 qa qh qm ((iter (gtt rk rnd n0 n1 n2 f1 len1 len2) i (1, tu, (b0, b1, b2, b3), f2)).2.1) n0 n1 n2 (((iter (gtt rk rnd n0 n1 n2 f1 len1 len2) i (1, tu, (b0, b1, b2, b3), f2)).2.2.1).1) (((iter (gtt rk rnd n0 n1 n2 f1 len1 len2) i (1, tu, (b0, b1, b2, b3), f2)).2.2.1).2.1) (((iter (gtt rk rnd n0 n1 n2 f1 len1 len2) i (1, tu, (b0, b1, b2, b3), f2)).2.2.1).2.2.1) (((iter (gtt rk rnd n0 n1 n2 f1 len1 len2) i (1, tu, (b0, b1, b2, b3), f2)).2.2.1).2.2.2) qk rnd rk x_6 _ g1 g2) (va_cwA (owner := "SealBox$Cipher") 1 hts (sb_gU (owner := "SealBox$Cipher") (x := ⟨"SealBox$Cipher", "turnBlock", "(I)V"⟩) k_505 k_507 k_508 k_509 k_25 k_510) rfl rfl rfl (va_Nw.of rfl (hG.nest (args := args) _ n_506)) (by decide +kernel) ⟨Nat.le_of_ble_eq_true rfl, Nat.le_of_ble_eq_true rfl⟩) (sb_pV hG hP hD hS hA [0, 1, 2, 3, 4] (by decide) rfl (ci := 1) (q0 := 0) rfl rfl) rfl rfl hl.1 rfl (lv_room (Nat.le_of_ble_eq_true rfl)) d_C_turnText_29 ⟨Nat.le_of_ble_eq_true rfl, Nat.le_of_ble_eq_true rfl⟩) hP hD hS hA [0, 1, 2, 3, 4] [5, 6, 7, 8] rfl rfl (by decide) (by decide) (fun u H locs hw_7 hP hD hS => ?_)
        have hP : va_P D vwCl [(h1, .inr (5, [.ref v1, .int (nI len1)])), (v1, .inl (cB, cp1, .inl f1)), (h2, .inr (5, [.ref v2, .int (nI len2)])), (v2, .inl (cB, cp2, .inl ((iter (gtt rk rnd n0 n1 n2 f1 len1 len2) i (1, tu, (b0, b1, b2, b3), f2)).2.2.2))), (h, .inr (1, [.ref q0, .ref q1, .ref q2, .int 1, .int (((iter (gtt rk rnd n0 n1 n2 f1 len1 len2) i (1, tu, (b0, b1, b2, b3), f2)).2.1) + 1), .ref qa, .ref qh, .ref qm])), (q0, .inl (cI, 3, .inl (i3 n0 n1 n2))), (q1, .inl (cI, 4, .inl (i4 ((aesI rk rnd n0 n1 n2 x_6).1) ((aesI rk rnd n0 n1 n2 x_6).2.1) ((aesI rk rnd n0 n1 n2 x_6).2.2.1) ((aesI rk rnd n0 n1 n2 x_6).2.2.2)))), (qa, .inr (0, [.ref qk, .int (nI rnd)])), (qk, .inl (cI, 60, .inl rk))] H := hP
        have hD : va_D A [(h1, .inr (5, [.ref v1, .int (nI len1)])), (v1, .inl (cB, cp1, .inl f1)), (h2, .inr (5, [.ref v2, .int (nI len2)])), (v2, .inl (cB, cp2, .inl ((iter (gtt rk rnd n0 n1 n2 f1 len1 len2) i (1, tu, (b0, b1, b2, b3), f2)).2.2.2))), (h, .inr (1, [.ref q0, .ref q1, .ref q2, .int 1, .int (((iter (gtt rk rnd n0 n1 n2 f1 len1 len2) i (1, tu, (b0, b1, b2, b3), f2)).2.1) + 1), .ref qa, .ref qh, .ref qm])), (q0, .inl (cI, 3, .inl (i3 n0 n1 n2))), (q1, .inl (cI, 4, .inl (i4 ((aesI rk rnd n0 n1 n2 x_6).1) ((aesI rk rnd n0 n1 n2 x_6).2.1) ((aesI rk rnd n0 n1 n2 x_6).2.2.1) ((aesI rk rnd n0 n1 n2 x_6).2.2.2)))), (qa, .inr (0, [.ref qk, .int (nI rnd)])), (qk, .inl (cI, 60, .inl rk))] := hD
        refine lv_aload_n hx hb d_C_turnText_32 rfl (lv_at hl 6 rfl) ?_
        refine lv_iload hx hb d_C_turnText_33 (lv_at hl 2 rfl) ?_
        refine lv_aload_n hx hb d_C_turnText_35 rfl (lv_at hl 4 rfl) ?_
        refine lv_iload hx hb d_C_turnText_36 (lv_at hl 2 rfl) ?_
        refine vp_callSi (va_runV (As := [.int (nI i)]) (rest := [.int (nI i), .ref h2]) ⟨hx, hb, hml, hown, hts⟩ (c_R_get l D cI cL cB tS tF h1 v1 len1 cp1 f1 (nI i) hl1 (by omega)) (cwV 1 hts (sb_gV k_520 k_429 k_430 k_23 k_431) rfl rfl rfl (by decide +kernel) ⟨Nat.le_of_ble_eq_true rfl, Nat.le_of_ble_eq_true rfl⟩) (sb_rV hG hP hS [0, 1] rfl (ci := 5) (q0 := 0) rfl rfl) rfl rfl hl.1 rfl (lv_room (Nat.le_of_ble_eq_true rfl)) d_C_turnText_38 ⟨Nat.le_of_ble_eq_true rfl, Nat.le_of_ble_eq_true rfl⟩).run (fun r_8 er_8 => ?_)
        subst er_8
        refine lv_aload_n hx hb d_C_turnText_41 rfl (lv_at hl 3 rfl) ?_
        refine va_get (D := D) (ci := 1) (v := .ref q1) (C := R_G) (T := F_G) (N := 8) hx hb hts in_G hown hG.1 hP 4 rfl rfl 1 (by decide) (hts _ k_121) (fun _ h9 => h9) rfl d_C_turnText_42 ?_
        refine lv_iload hx hb d_C_turnText_45 (lv_at hl 1 rfl) ?_
        refine lv_iconst (v := 2) hx hb d_C_turnText_47 (by decide) ?_
        refine lv_ishr hx hb d_C_turnText_48 ?_
        refine sb_topn ((i % 16) / 4) (sb_shr (a := i % 16) 2 rfl (by omega) (by decide)) ?_
        refine sb_ild hx hb hG.1 hP 6 rfl ((i % 16) / 4) rfl (by omega) (by omega) d_C_turnText_49 ?_
        refine lv_bipush (v := 24) hx hb d_C_turnText_50 (by decide) ?_
        refine lv_bipush (v := 8) hx hb d_C_turnText_52 (by decide) ?_
        refine lv_iload hx hb d_C_turnText_54 (lv_at hl 1 rfl) ?_
        refine lv_iconst (v := 3) hx hb d_C_turnText_56 (by decide) ?_
        refine lv_iand hx hb d_C_turnText_57 ?_
        refine sb_topn ((i % 16) % 4) (sb_and (a := i % 16) 2 rfl (by omega) (by decide)) ?_
        refine lv_imul hx hb d_C_turnText_58 ?_
        refine sb_topn (8 * ((i % 16) % 4)) (sb_mul (a := 8) (b := (i % 16) % 4) rfl rfl) ?_
        refine lv_isub hx hb d_C_turnText_59 ?_
        refine sb_topn (24 - (8 * ((i % 16) % 4))) (sb_sub (a := 24) (b := 8 * ((i % 16) % 4)) (by omega) rfl rfl) ?_
        refine lv_iushr (v := uS ((i4 ((aesI rk rnd n0 n1 n2 x_6).1) ((aesI rk rnd n0 n1 n2 x_6).2.1) ((aesI rk rnd n0 n1 n2 x_6).2.2.1) ((aesI rk rnd n0 n1 n2 x_6).2.2.2)) ((i % 16) / 4)) (nI (24 - (8 * ((i % 16) % 4))))) hx hb d_C_turnText_60 rfl ?_
        refine lv_ixor hx hb d_C_turnText_61 ?_
        refine sb_callv (wr := [(h1, .inr (5, [.ref v1, .int (nI len1)])), (v1, .inl (cB, cp1, .inl f1)), (h, .inr (1, [.ref q0, .ref q1, .ref q2, .int 1, .int (((iter (gtt rk rnd n0 n1 n2 f1 len1 len2) i (1, tu, (b0, b1, b2, b3), f2)).2.1) + 1), .ref qa, .ref qh, .ref qm])), (q0, .inl (cI, 3, .inl (i3 n0 n1 n2))), (q1, .inl (cI, 4, .inl (i4 ((aesI rk rnd n0 n1 n2 x_6).1) ((aesI rk rnd n0 n1 n2 x_6).2.1) ((aesI rk rnd n0 n1 n2 x_6).2.2.1) ((aesI rk rnd n0 n1 n2 x_6).2.2.2)))), (qa, .inr (0, [.ref qk, .int (nI rnd)])), (qk, .inl (cI, 60, .inl rk))]) (va_runV (As := [.int (nI i), .int ((rget f1 len1 (nI i)) ^^^ (uS ((i4 ((aesI rk rnd n0 n1 n2 x_6).1) ((aesI rk rnd n0 n1 n2 x_6).2.1) ((aesI rk rnd n0 n1 n2 x_6).2.2.1) ((aesI rk rnd n0 n1 n2 x_6).2.2.2)) ((i % 16) / 4)) (nI (24 - (8 * ((i % 16) % 4))))))]) (rest := []) ⟨hx, hb, hml, hown, hts⟩ (c_R_set l D cI cL cB tS tF h2 v2 len2 cp2 ((iter (gtt rk rnd n0 n1 n2 f1 len1 len2) i (1, tu, (b0, b1, b2, b3), f2)).2.2.2) (nI i) ((rget f1 len1 (nI i)) ^^^ (uS ((i4 ((aesI rk rnd n0 n1 n2 x_6).1) ((aesI rk rnd n0 n1 n2 x_6).2.1) ((aesI rk rnd n0 n1 n2 x_6).2.2.1) ((aesI rk rnd n0 n1 n2 x_6).2.2.2)) ((i % 16) / 4)) (nI (24 - (8 * ((i % 16) % 4)))))) _ hl2 (by omega)) (cwV 2 hts (sb_gV k_521 k_368 k_369 k_23 k_370) rfl rfl rfl (by decide +kernel) ⟨Nat.le_of_ble_eq_true rfl, Nat.le_of_ble_eq_true rfl⟩) (sb_pV hG hP hD hS hA [2, 3] (by decide) rfl (ci := 5) (q0 := 2) rfl rfl) rfl rfl hl.1 rfl (lv_room (Nat.le_of_ble_eq_true rfl)) d_C_turnText_62 ⟨Nat.le_of_ble_eq_true rfl, Nat.le_of_ble_eq_true rfl⟩) hP hD hS hA [2, 3] [0, 1, 4, 5, 6, 7, 8] rfl rfl (by decide) (by decide) (fun u H locs hw_9 hP hD hS => ?_)
        have hP : va_P D vwCl [(h1, .inr (5, [.ref v1, .int (nI len1)])), (v1, .inl (cB, cp1, .inl f1)), (h, .inr (1, [.ref q0, .ref q1, .ref q2, .int 1, .int (((iter (gtt rk rnd n0 n1 n2 f1 len1 len2) i (1, tu, (b0, b1, b2, b3), f2)).2.1) + 1), .ref qa, .ref qh, .ref qm])), (q0, .inl (cI, 3, .inl (i3 n0 n1 n2))), (q1, .inl (cI, 4, .inl (i4 ((aesI rk rnd n0 n1 n2 x_6).1) ((aesI rk rnd n0 n1 n2 x_6).2.1) ((aesI rk rnd n0 n1 n2 x_6).2.2.1) ((aesI rk rnd n0 n1 n2 x_6).2.2.2)))), (qa, .inr (0, [.ref qk, .int (nI rnd)])), (qk, .inl (cI, 60, .inl rk)), (h2, .inr (5, [.ref v2, .int (nI len2)])), (v2, .inl (cB, cp2, .inl (rset ((iter (gtt rk rnd n0 n1 n2 f1 len1 len2) i (1, tu, (b0, b1, b2, b3), f2)).2.2.2) len2 (nI i) ((rget f1 len1 (nI i)) ^^^ (uS ((i4 ((aesI rk rnd n0 n1 n2 x_6).1) ((aesI rk rnd n0 n1 n2 x_6).2.1) ((aesI rk rnd n0 n1 n2 x_6).2.2.1) ((aesI rk rnd n0 n1 n2 x_6).2.2.2)) ((i % 16) / 4)) (nI (24 - (8 * ((i % 16) % 4)))))))))] H := hP
        have hD : va_D A [(h1, .inr (5, [.ref v1, .int (nI len1)])), (v1, .inl (cB, cp1, .inl f1)), (h, .inr (1, [.ref q0, .ref q1, .ref q2, .int 1, .int (((iter (gtt rk rnd n0 n1 n2 f1 len1 len2) i (1, tu, (b0, b1, b2, b3), f2)).2.1) + 1), .ref qa, .ref qh, .ref qm])), (q0, .inl (cI, 3, .inl (i3 n0 n1 n2))), (q1, .inl (cI, 4, .inl (i4 ((aesI rk rnd n0 n1 n2 x_6).1) ((aesI rk rnd n0 n1 n2 x_6).2.1) ((aesI rk rnd n0 n1 n2 x_6).2.2.1) ((aesI rk rnd n0 n1 n2 x_6).2.2.2)))), (qa, .inr (0, [.ref qk, .int (nI rnd)])), (qk, .inl (cI, 60, .inl rk)), (h2, .inr (5, [.ref v2, .int (nI len2)])), (v2, .inl (cB, cp2, .inl (rset ((iter (gtt rk rnd n0 n1 n2 f1 len1 len2) i (1, tu, (b0, b1, b2, b3), f2)).2.2.2) len2 (nI i) ((rget f1 len1 (nI i)) ^^^ (uS ((i4 ((aesI rk rnd n0 n1 n2 x_6).1) ((aesI rk rnd n0 n1 n2 x_6).2.1) ((aesI rk rnd n0 n1 n2 x_6).2.2.1) ((aesI rk rnd n0 n1 n2 x_6).2.2.2)) ((i % 16) / 4)) (nI (24 - (8 * ((i % 16) % 4)))))))))] := hD
        refine lv_iload hx hb d_C_turnText_65 (lv_at hl 1 rfl) ?_
        refine lv_iconst (v := 1) hx hb d_C_turnText_67 (by decide) ?_
        refine lv_iadd hx hb d_C_turnText_68 ?_
        refine sb_topn ((i % 16) + 1) (nI_add (i % 16) 1) ?_
        refine lv_iconst (v := 4) hx hb d_C_turnText_69 (by decide) ?_
        refine lv_aload_n hx hb d_C_turnText_70 rfl (lv_at hl 3 rfl) ?_
        refine va_get (D := D) (ci := 1) (v := .ref q1) (C := R_G) (T := F_G) (N := 8) hx hb hts in_G hown hG.1 hP 2 rfl rfl 1 (by decide) (hts _ k_121) (fun _ h9 => h9) rfl d_C_turnText_71 ?_
        refine va_alen (v := nI 4) hx hb hG.1 hP 4 0 rfl rfl rfl d_C_turnText_74 ?_
        refine lv_imul hx hb d_C_turnText_75 ?_
        refine sb_topn 16 (sb_eqn (a := 4 * 4) (b := 16) (sb_mul (a := 4) (b := 4) rfl rfl) (by omega)) ?_
        refine lv_iconst (v := 1) hx hb d_C_turnText_76 (by decide) ?_
        refine lv_isub hx hb d_C_turnText_77 ?_
        refine sb_topn 15 (sb_eqn (a := 16 - 1) (b := 15) (sb_sub (a := 16) (b := 1) (by omega) rfl rfl) (by omega)) ?_
        refine lv_iand hx hb d_C_turnText_78 ?_
        refine sb_topn (((i % 16) + 1) % 16) (sb_and (a := (i % 16) + 1) 4 rfl (by omega) (by decide)) ?_
        refine sb_topn (((i % 16) + 1) % 16) rfl ?_
        refine lv_istore (lv' := [(5, .int (nI (((i % 16) + 1) % 16))), (4, .int x_6), (6, .int (nI i)), (0, .ref h), (1, .ref h1), (2, .int (nI z)), (3, .ref h2)]) hx hb d_C_turnText_79 hl (by decide) rfl (fun ls hl => ?_)
        refine lv_iinc (v := nI (i + 1)) (lv' := [(6, .int (nI (i + 1))), (5, .int (nI (((i % 16) + 1) % 16))), (4, .int x_6), (0, .ref h), (1, .ref h1), (2, .int (nI z)), (3, .ref h2)]) hx hb d_C_turnText_81 hl (k := 2) rfl (sb_inc (a := i) (b := i + 1) (d := 1) rfl (by decide) (by omega)) (by decide) rfl (fun ls hl => ?_)
        refine lv_goto (tgt := 12) hx hb d_C_turnText_84 (by decide) ?_
        subst ex_6
        have hE : iter (gtt rk rnd n0 n1 n2 f1 len1 len2) (i + 1) (1, tu, (b0, b1, b2, b3), f2) = ((((iter (gtt rk rnd n0 n1 n2 f1 len1 len2) i (1, tu, (b0, b1, b2, b3), f2)).1) + 1), ((iter (gtt rk rnd n0 n1 n2 f1 len1 len2) i (1, tu, (b0, b1, b2, b3), f2)).2.1) + 1, ((aesI rk rnd n0 n1 n2 (((iter (gtt rk rnd n0 n1 n2 f1 len1 len2) i (1, tu, (b0, b1, b2, b3), f2)).1) + 1)).1, (aesI rk rnd n0 n1 n2 (((iter (gtt rk rnd n0 n1 n2 f1 len1 len2) i (1, tu, (b0, b1, b2, b3), f2)).1) + 1)).2.1, (aesI rk rnd n0 n1 n2 (((iter (gtt rk rnd n0 n1 n2 f1 len1 len2) i (1, tu, (b0, b1, b2, b3), f2)).1) + 1)).2.2.1, (aesI rk rnd n0 n1 n2 (((iter (gtt rk rnd n0 n1 n2 f1 len1 len2) i (1, tu, (b0, b1, b2, b3), f2)).1) + 1)).2.2.2), rset ((iter (gtt rk rnd n0 n1 n2 f1 len1 len2) i (1, tu, (b0, b1, b2, b3), f2)).2.2.2) len2 (nI i) ((rget f1 len1 (nI i)) ^^^ (uS ((i4 ((aesI rk rnd n0 n1 n2 (((iter (gtt rk rnd n0 n1 n2 f1 len1 len2) i (1, tu, (b0, b1, b2, b3), f2)).1) + 1)).1) ((aesI rk rnd n0 n1 n2 (((iter (gtt rk rnd n0 n1 n2 f1 len1 len2) i (1, tu, (b0, b1, b2, b3), f2)).1) + 1)).2.1) ((aesI rk rnd n0 n1 n2 (((iter (gtt rk rnd n0 n1 n2 f1 len1 len2) i (1, tu, (b0, b1, b2, b3), f2)).1) + 1)).2.2.1) ((aesI rk rnd n0 n1 n2 (((iter (gtt rk rnd n0 n1 n2 f1 len1 len2) i (1, tu, (b0, b1, b2, b3), f2)).1) + 1)).2.2.2)) ((i % 16) / 4)) (nI (24 - (8 * ((i % 16) % 4))))))) := (iter_s _ _ _).trans (if_pos c_3)
        have ih' := ih1 (i + 1) (by omega)
        rw [hE] at ih'
        rw [show nI (((i % 16) + 1) % 16) = nI ((i + 1) % 16) from congrArg nI (by omega)] at hl
        exact ih' _ _ ls (hP.sub [2, 3, 4, 5, 6, 0, 1, 7, 8] rfl) (hD.sub [2, 3, 4, 5, 6, 0, 1, 7, 8] (by decide) rfl) hS (lv_sub hl [2, 1, 0, 3, 4, 5, 6] rfl)
  exact lp1 z 0 (by omega) _ _ ls (hP.sub [0, 1, 2, 3, 4, 5, 6, 7, 8] rfl) (hD.sub [0, 1, 2, 3, 4, 5, 6, 7, 8] (by decide) rfl) hS (lv_sub hl [2, 1, 0, 3, 4, 5, 6] rfl)

def rm_C_turnTextH : Room := { frames := 3, cells := 0, slots := 0, locals := 68 }
set_option maxHeartbeats 4000000 in
set_option maxRecDepth 100000 in
theorem c_C_turnTextH (l : Launch) (D : va_G) (cI cL cB : ClassId) (tS tF : Nat) (h : Nat) (q0 : Nat) (q1 : Nat) (q2 : Nat) (q3 : Nat) (q4 : Nat) (q5 : Nat) (tu : Int32) (n0 : Int32) (n1 : Int32) (n2 : Int32) (bl : Nat → Int32) (sr : Nat → Int32) (sa : Nat → Int32) (h1 : Nat) (v1 : Nat) (len1 : Nat) (cp1 : Nat) (f1 : Nat → Int32) (h2 : Nat) (v2 : Nat) (len2 : Nat) (cp2 : Nat) (f2 : Nat → Int32) (z : Nat) (sz : Nat) (hl1 : len1 ≤ cp1) (hc1 : cp1 ≤ 100000) (hl2 : len2 ≤ cp2) (hc2 : cp2 ≤ 100000) (hz : z ≤ 100000) : Met l y_C_turnText (sbw y_C_turnText b_C_turnText 7 none) rm_C_turnTextH (sbPc D cI cL cB tS tF [.ref h, .ref h1, .int (nI z), .ref h2] sz [(h, .inr (2, [.ref q0, .ref q1, .ref q2, .int 0, .int tu, .ref q3, .ref q4, .ref q5])), (q0, .inl (cI, 3, .inl (i3 n0 n1 n2))), (q1, .inl (cI, 16, .inl bl)), (q3, .inl (cI, 16, .inl sr)), (q4, .inl (cI, 16, .inl sa)), (h1, .inr (5, [.ref v1, .int (nI len1)])), (v1, .inl (cB, cp1, .inl f1)), (h2, .inr (5, [.ref v2, .int (nI len2)])), (v2, .inl (cB, cp2, .inl f2))]) (sbQv D (fun (_ : Unit) => True) (fun (_ : Unit) => [(h, .inr (2, [.ref q0, .ref q1, .ref q2, .int 0, .int ((iter (ctt (i3 n0 n1 n2) f1 len1 len2) z (0, tu, (sr, sa, bl), f2)).2.1), .ref q3, .ref q4, .ref q5])), (q0, .inl (cI, 3, .inl (i3 n0 n1 n2))), (q1, .inl (cI, 16, .inl ((iter (ctt (i3 n0 n1 n2) f1 len1 len2) z (0, tu, (sr, sa, bl), f2)).2.2.1.2.2))), (q3, .inl (cI, 16, .inl ((iter (ctt (i3 n0 n1 n2) f1 len1 len2) z (0, tu, (sr, sa, bl), f2)).2.2.1.1))), (q4, .inl (cI, 16, .inl ((iter (ctt (i3 n0 n1 n2) f1 len1 len2) z (0, tu, (sr, sa, bl), f2)).2.2.1.2.1))), (h1, .inr (5, [.ref v1, .int (nI len1)])), (v1, .inl (cB, cp1, .inl f1)), (h2, .inr (5, [.ref v2, .int (nI len2)])), (v2, .inl (cB, cp2, .inl ((iter (ctt (i3 n0 n1 n2) f1 len1 len2) z (0, tu, (sr, sa, bl), f2)).2.2.2)))]) (va_A [(h, .inr (2, [.ref q0, .ref q1, .ref q2, .int 0, .int tu, .ref q3, .ref q4, .ref q5])), (q0, .inl (cI, 3, .inl (i3 n0 n1 n2))), (q1, .inl (cI, 16, .inl bl)), (q3, .inl (cI, 16, .inl sr)), (q4, .inl (cI, 16, .inl sa)), (h1, .inr (5, [.ref v1, .int (nI len1)])), (v1, .inl (cB, cp1, .inl f1)), (h2, .inr (5, [.ref v2, .int (nI len2)])), (v2, .inl (cB, cp2, .inl f2))] sz)) 0 0 (va_A [(h, .inr (2, [.ref q0, .ref q1, .ref q2, .int 0, .int tu, .ref q3, .ref q4, .ref q5])), (q0, .inl (cI, 3, .inl (i3 n0 n1 n2))), (q1, .inl (cI, 16, .inl bl)), (q3, .inl (cI, 16, .inl sr)), (q4, .inl (cI, 16, .inl sa)), (h1, .inr (5, [.ref v1, .int (nI len1)])), (v1, .inl (cB, cp1, .inl f1)), (h2, .inr (5, [.ref v2, .int (nI len2)])), (v2, .inl (cB, cp2, .inl f2))] sz) := by
  refine sb_ofW (Qc := fun A => (sbQv D (fun (_ : Unit) => True) (fun (_ : Unit) => [(h, .inr (2, [.ref q0, .ref q1, .ref q2, .int 0, .int ((iter (ctt (i3 n0 n1 n2) f1 len1 len2) z (0, tu, (sr, sa, bl), f2)).2.1), .ref q3, .ref q4, .ref q5])), (q0, .inl (cI, 3, .inl (i3 n0 n1 n2))), (q1, .inl (cI, 16, .inl ((iter (ctt (i3 n0 n1 n2) f1 len1 len2) z (0, tu, (sr, sa, bl), f2)).2.2.1.2.2))), (q3, .inl (cI, 16, .inl ((iter (ctt (i3 n0 n1 n2) f1 len1 len2) z (0, tu, (sr, sa, bl), f2)).2.2.1.1))), (q4, .inl (cI, 16, .inl ((iter (ctt (i3 n0 n1 n2) f1 len1 len2) z (0, tu, (sr, sa, bl), f2)).2.2.1.2.1))), (h1, .inr (5, [.ref v1, .int (nI len1)])), (v1, .inl (cB, cp1, .inl f1)), (h2, .inr (5, [.ref v2, .int (nI len2)])), (v2, .inl (cB, cp2, .inl ((iter (ctt (i3 n0 n1 n2) f1 len1 len2) z (0, tu, (sr, sa, bl), f2)).2.2.2)))]) A)) (by decide) (Nat.le_of_ble_eq_true rfl) ?_
  intro p e s m args below meth c A ls hx hb hr hml hts hown hlocks hin hsz hP hG hD hA hS hl
  have hl : lv_has ls 7 [(0, .ref h), (1, .ref h1), (2, .int (nI z)), (3, .ref h2)] := hl
  refine lv_aload_n hx hb d_C_turnText_0 rfl (lv_at hl 0 rfl) ?_
  refine va_get (D := D) (ci := 2) (v := .int 0) (C := R_H) (T := F_H) (N := 8) hx hb hts in_H hown hG.1 hP 0 rfl rfl 3 (by decide) (hts _ k_131) (fun _ h9 => h9) rfl d_C_turnText_1 ?_
  refine lv_istore (lv' := [(4, .int 0), (0, .ref h), (1, .ref h1), (2, .int (nI z)), (3, .ref h2)]) hx hb d_C_turnText_4 hl (by decide) rfl (fun ls hl => ?_)
  refine lv_iconst (v := 0) hx hb d_C_turnText_6 (by decide) ?_
  refine lv_istore (lv' := [(5, .int 0), (4, .int 0), (0, .ref h), (1, .ref h1), (2, .int (nI z)), (3, .ref h2)]) hx hb d_C_turnText_7 hl (by decide) rfl (fun ls hl => ?_)
  refine lv_iconst (v := 0) hx hb d_C_turnText_9 (by decide) ?_
  refine lv_istore (lv' := [(6, .int 0), (5, .int 0), (4, .int 0), (0, .ref h), (1, .ref h1), (2, .int (nI z)), (3, .ref h2)]) hx hb d_C_turnText_10 hl (by decide) rfl (fun ls hl => ?_)
  have lp1 : ∀ (d1 i : Nat), i + d1 = z → ∀ (H : Heap) (locs : List Loc) (ls : Array Slot), va_P D vwCl [(h, .inr (2, [.ref q0, .ref q1, .ref q2, .int 0, .int ((iter (ctt (i3 n0 n1 n2) f1 len1 len2) i (0, tu, (sr, sa, bl), f2)).2.1), .ref q3, .ref q4, .ref q5])), (q0, .inl (cI, 3, .inl (i3 n0 n1 n2))), (q1, .inl (cI, 16, .inl ((iter (ctt (i3 n0 n1 n2) f1 len1 len2) i (0, tu, (sr, sa, bl), f2)).2.2.1.2.2))), (q3, .inl (cI, 16, .inl ((iter (ctt (i3 n0 n1 n2) f1 len1 len2) i (0, tu, (sr, sa, bl), f2)).2.2.1.1))), (q4, .inl (cI, 16, .inl ((iter (ctt (i3 n0 n1 n2) f1 len1 len2) i (0, tu, (sr, sa, bl), f2)).2.2.1.2.1))), (h1, .inr (5, [.ref v1, .int (nI len1)])), (v1, .inl (cB, cp1, .inl f1)), (h2, .inr (5, [.ref v2, .int (nI len2)])), (v2, .inl (cB, cp2, .inl ((iter (ctt (i3 n0 n1 n2) f1 len1 len2) i (0, tu, (sr, sa, bl), f2)).2.2.2)))] H → va_D A [(h, .inr (2, [.ref q0, .ref q1, .ref q2, .int 0, .int ((iter (ctt (i3 n0 n1 n2) f1 len1 len2) i (0, tu, (sr, sa, bl), f2)).2.1), .ref q3, .ref q4, .ref q5])), (q0, .inl (cI, 3, .inl (i3 n0 n1 n2))), (q1, .inl (cI, 16, .inl ((iter (ctt (i3 n0 n1 n2) f1 len1 len2) i (0, tu, (sr, sa, bl), f2)).2.2.1.2.2))), (q3, .inl (cI, 16, .inl ((iter (ctt (i3 n0 n1 n2) f1 len1 len2) i (0, tu, (sr, sa, bl), f2)).2.2.1.1))), (q4, .inl (cI, 16, .inl ((iter (ctt (i3 n0 n1 n2) f1 len1 len2) i (0, tu, (sr, sa, bl), f2)).2.2.1.2.1))), (h1, .inr (5, [.ref v1, .int (nI len1)])), (v1, .inl (cB, cp1, .inl f1)), (h2, .inr (5, [.ref v2, .int (nI len2)])), (v2, .inl (cB, cp2, .inl ((iter (ctt (i3 n0 n1 n2) f1 len1 len2) i (0, tu, (sr, sa, bl), f2)).2.2.2)))] → va_S A s.heap H locs → lv_has ls 7 [(4, .int ((iter (ctt (i3 n0 n1 n2) f1 len1 len2) i (0, tu, (sr, sa, bl), f2)).1)), (5, .int (nI (i % 64))), (6, .int (nI i)), (0, .ref h), (1, .ref h1), (2, .int (nI z)), (3, .ref h2)] → W p l e rm_C_turnTextH s m args below meth c H locs 0 0 (MQ below (sbQv D (fun (_ : Unit) => True) (fun (_ : Unit) => [(h, .inr (2, [.ref q0, .ref q1, .ref q2, .int 0, .int ((iter (ctt (i3 n0 n1 n2) f1 len1 len2) z (0, tu, (sr, sa, bl), f2)).2.1), .ref q3, .ref q4, .ref q5])), (q0, .inl (cI, 3, .inl (i3 n0 n1 n2))), (q1, .inl (cI, 16, .inl ((iter (ctt (i3 n0 n1 n2) f1 len1 len2) z (0, tu, (sr, sa, bl), f2)).2.2.1.2.2))), (q3, .inl (cI, 16, .inl ((iter (ctt (i3 n0 n1 n2) f1 len1 len2) z (0, tu, (sr, sa, bl), f2)).2.2.1.1))), (q4, .inl (cI, 16, .inl ((iter (ctt (i3 n0 n1 n2) f1 len1 len2) z (0, tu, (sr, sa, bl), f2)).2.2.1.2.1))), (h1, .inr (5, [.ref v1, .int (nI len1)])), (v1, .inl (cB, cp1, .inl f1)), (h2, .inr (5, [.ref v2, .int (nI len2)])), (v2, .inl (cB, cp2, .inl ((iter (ctt (i3 n0 n1 n2) f1 len1 len2) z (0, tu, (sr, sa, bl), f2)).2.2.2)))]) A) args s 0 0 A) (F0 m 12 ls []) := by
    intro d1
    induction d1 with
    | zero =>
      intro i hi1 H locs ls hP hD hS hl
      obtain rfl : z = i := by omega
      refine lv_iload hx hb d_C_turnText_12 (lv_at hl 2 rfl) ?_
      refine lv_iload_n hx hb d_C_turnText_14 rfl (lv_at hl 5 rfl) ?_
      refine lv_icmp_ge (tgt := 87) hx hb d_C_turnText_15 (by decide) (fun c_1 => ?_) (fun c_1 => absurd (sb_geT (a := z) (b := z) rfl rfl (by omega) (by omega) (by omega)) c_1)
      have hP9 := hP.sub (ws' := [(h, .inr (2, [.ref q0, .ref q1, .ref q2, .int 0, .int ((iter (ctt (i3 n0 n1 n2) f1 len1 len2) z (0, tu, (sr, sa, bl), f2)).2.1), .ref q3, .ref q4, .ref q5])), (q0, .inl (cI, 3, .inl (i3 n0 n1 n2))), (q1, .inl (cI, 16, .inl ((iter (ctt (i3 n0 n1 n2) f1 len1 len2) z (0, tu, (sr, sa, bl), f2)).2.2.1.2.2))), (q3, .inl (cI, 16, .inl ((iter (ctt (i3 n0 n1 n2) f1 len1 len2) z (0, tu, (sr, sa, bl), f2)).2.2.1.1))), (q4, .inl (cI, 16, .inl ((iter (ctt (i3 n0 n1 n2) f1 len1 len2) z (0, tu, (sr, sa, bl), f2)).2.2.1.2.1))), (h1, .inr (5, [.ref v1, .int (nI len1)])), (v1, .inl (cB, cp1, .inl f1)), (h2, .inr (5, [.ref v2, .int (nI len2)])), (v2, .inl (cB, cp2, .inl ((iter (ctt (i3 n0 n1 n2) f1 len1 len2) z (0, tu, (sr, sa, bl), f2)).2.2.2)))]) [0, 1, 2, 3, 4, 5, 6, 7, 8] rfl
      have hD9 := hD.sub (ws' := [(h, .inr (2, [.ref q0, .ref q1, .ref q2, .int 0, .int ((iter (ctt (i3 n0 n1 n2) f1 len1 len2) z (0, tu, (sr, sa, bl), f2)).2.1), .ref q3, .ref q4, .ref q5])), (q0, .inl (cI, 3, .inl (i3 n0 n1 n2))), (q1, .inl (cI, 16, .inl ((iter (ctt (i3 n0 n1 n2) f1 len1 len2) z (0, tu, (sr, sa, bl), f2)).2.2.1.2.2))), (q3, .inl (cI, 16, .inl ((iter (ctt (i3 n0 n1 n2) f1 len1 len2) z (0, tu, (sr, sa, bl), f2)).2.2.1.1))), (q4, .inl (cI, 16, .inl ((iter (ctt (i3 n0 n1 n2) f1 len1 len2) z (0, tu, (sr, sa, bl), f2)).2.2.1.2.1))), (h1, .inr (5, [.ref v1, .int (nI len1)])), (v1, .inl (cB, cp1, .inl f1)), (h2, .inr (5, [.ref v2, .int (nI len2)])), (v2, .inl (cB, cp2, .inl ((iter (ctt (i3 n0 n1 n2) f1 len1 len2) z (0, tu, (sr, sa, bl), f2)).2.2.2)))]) [0, 1, 2, 3, 4, 5, 6, 7, 8] (by decide) rfl
      exact W.vret hx hb hr (fun t ht hW => ⟨⟨(), rfl, trivial, by rw [ht]; exact hP9, hD9⟩, hS.F ht⟩) hS.2.2 d_C_turnText_87
    | succ d1 ih1 =>
      intro i hi1 H locs ls hP hD hS hl
      refine lv_iload hx hb d_C_turnText_12 (lv_at hl 2 rfl) ?_
      refine lv_iload_n hx hb d_C_turnText_14 rfl (lv_at hl 5 rfl) ?_
      refine lv_icmp_ge (tgt := 87) hx hb d_C_turnText_15 (by decide) (fun c_2 => absurd c_2 (sb_geF (a := i) (b := z) rfl rfl (by omega) (by omega) (by omega))) (fun c_2 => ?_)
      refine lv_iload hx hb d_C_turnText_18 (lv_at hl 1 rfl) ?_
      refine lv_if_ne (tgt := 32) hx hb d_C_turnText_20 (by decide) (fun c_3 => ?_) (fun c_3 => ?_)
      · have c_3 := mt (sb_eqI (a := i % 64) (b := 0) rfl rfl (by omega) (by omega)).mpr c_3
        refine lv_aload_n hx hb d_C_turnText_32 rfl (lv_at hl 6 rfl) ?_
        refine lv_iload hx hb d_C_turnText_33 (lv_at hl 2 rfl) ?_
        refine lv_aload_n hx hb d_C_turnText_35 rfl (lv_at hl 4 rfl) ?_
        refine lv_iload hx hb d_C_turnText_36 (lv_at hl 2 rfl) ?_
        refine vp_callSi (va_runV (As := [.int (nI i)]) (rest := [.int (nI i), .ref h2]) ⟨hx, hb, hml, hown, hts⟩ (c_R_get l D cI cL cB tS tF h1 v1 len1 cp1 f1 (nI i) hl1 (by omega)) (cwV 1 hts (sb_gV k_520 k_429 k_430 k_23 k_431) rfl rfl rfl (by decide +kernel) ⟨Nat.le_of_ble_eq_true rfl, Nat.le_of_ble_eq_true rfl⟩) (sb_rV hG hP hS [5, 6] rfl (ci := 5) (q0 := 5) rfl rfl) rfl rfl hl.1 rfl (lv_room (Nat.le_of_ble_eq_true rfl)) d_C_turnText_38 ⟨Nat.le_of_ble_eq_true rfl, Nat.le_of_ble_eq_true rfl⟩).run (fun r_4 er_4 => ?_)
        subst er_4
        refine lv_aload_n hx hb d_C_turnText_41 rfl (lv_at hl 3 rfl) ?_
        refine va_get (D := D) (ci := 2) (v := .ref q1) (C := R_H) (T := F_H) (N := 8) hx hb hts in_H hown hG.1 hP 0 rfl rfl 1 (by decide) (hts _ k_121) (fun _ h9 => h9) rfl d_C_turnText_42 ?_
        refine lv_iload hx hb d_C_turnText_45 (lv_at hl 1 rfl) ?_
        refine lv_iconst (v := 2) hx hb d_C_turnText_47 (by decide) ?_
        refine lv_ishr hx hb d_C_turnText_48 ?_
        refine sb_topn ((i % 64) / 4) (sb_shr (a := i % 64) 2 rfl (by omega) (by decide)) ?_
        refine sb_ild hx hb hG.1 hP 2 rfl ((i % 64) / 4) rfl (by omega) (by omega) d_C_turnText_49 ?_
        refine lv_bipush (v := 24) hx hb d_C_turnText_50 (by decide) ?_
        refine lv_bipush (v := 8) hx hb d_C_turnText_52 (by decide) ?_
        refine lv_iload hx hb d_C_turnText_54 (lv_at hl 1 rfl) ?_
        refine lv_iconst (v := 3) hx hb d_C_turnText_56 (by decide) ?_
        refine lv_iand hx hb d_C_turnText_57 ?_
        refine sb_topn ((i % 64) % 4) (sb_and (a := i % 64) 2 rfl (by omega) (by decide)) ?_
        refine lv_imul hx hb d_C_turnText_58 ?_
        refine sb_topn (8 * ((i % 64) % 4)) (sb_mul (a := 8) (b := (i % 64) % 4) rfl rfl) ?_
        refine lv_isub hx hb d_C_turnText_59 ?_
        refine sb_topn (24 - (8 * ((i % 64) % 4))) (sb_sub (a := 24) (b := 8 * ((i % 64) % 4)) (by omega) rfl rfl) ?_
        refine lv_iushr (v := uS (((iter (ctt (i3 n0 n1 n2) f1 len1 len2) i (0, tu, (sr, sa, bl), f2)).2.2.1.2.2) ((i % 64) / 4)) (nI (24 - (8 * ((i % 64) % 4))))) hx hb d_C_turnText_60 rfl ?_
        refine lv_ixor hx hb d_C_turnText_61 ?_
        refine sb_callv (wr := [(h, .inr (2, [.ref q0, .ref q1, .ref q2, .int 0, .int ((iter (ctt (i3 n0 n1 n2) f1 len1 len2) i (0, tu, (sr, sa, bl), f2)).2.1), .ref q3, .ref q4, .ref q5])), (q0, .inl (cI, 3, .inl (i3 n0 n1 n2))), (q1, .inl (cI, 16, .inl ((iter (ctt (i3 n0 n1 n2) f1 len1 len2) i (0, tu, (sr, sa, bl), f2)).2.2.1.2.2))), (q3, .inl (cI, 16, .inl ((iter (ctt (i3 n0 n1 n2) f1 len1 len2) i (0, tu, (sr, sa, bl), f2)).2.2.1.1))), (q4, .inl (cI, 16, .inl ((iter (ctt (i3 n0 n1 n2) f1 len1 len2) i (0, tu, (sr, sa, bl), f2)).2.2.1.2.1))), (h1, .inr (5, [.ref v1, .int (nI len1)])), (v1, .inl (cB, cp1, .inl f1))]) (va_runV (As := [.int (nI i), .int ((rget f1 len1 (nI i)) ^^^ (uS (((iter (ctt (i3 n0 n1 n2) f1 len1 len2) i (0, tu, (sr, sa, bl), f2)).2.2.1.2.2) ((i % 64) / 4)) (nI (24 - (8 * ((i % 64) % 4))))))]) (rest := []) ⟨hx, hb, hml, hown, hts⟩ (c_R_set l D cI cL cB tS tF h2 v2 len2 cp2 ((iter (ctt (i3 n0 n1 n2) f1 len1 len2) i (0, tu, (sr, sa, bl), f2)).2.2.2) (nI i) ((rget f1 len1 (nI i)) ^^^ (uS (((iter (ctt (i3 n0 n1 n2) f1 len1 len2) i (0, tu, (sr, sa, bl), f2)).2.2.1.2.2) ((i % 64) / 4)) (nI (24 - (8 * ((i % 64) % 4)))))) _ hl2 (by omega)) (cwV 2 hts (sb_gV k_521 k_368 k_369 k_23 k_370) rfl rfl rfl (by decide +kernel) ⟨Nat.le_of_ble_eq_true rfl, Nat.le_of_ble_eq_true rfl⟩) (sb_pV hG hP hD hS hA [7, 8] (by decide) rfl (ci := 5) (q0 := 7) rfl rfl) rfl rfl hl.1 rfl (lv_room (Nat.le_of_ble_eq_true rfl)) d_C_turnText_62 ⟨Nat.le_of_ble_eq_true rfl, Nat.le_of_ble_eq_true rfl⟩) hP hD hS hA [7, 8] [0, 1, 2, 3, 4, 5, 6] rfl rfl (by decide) (by decide) (fun u H locs hw_5 hP hD hS => ?_)
        have hP : va_P D vwCl [(h, .inr (2, [.ref q0, .ref q1, .ref q2, .int 0, .int ((iter (ctt (i3 n0 n1 n2) f1 len1 len2) i (0, tu, (sr, sa, bl), f2)).2.1), .ref q3, .ref q4, .ref q5])), (q0, .inl (cI, 3, .inl (i3 n0 n1 n2))), (q1, .inl (cI, 16, .inl ((iter (ctt (i3 n0 n1 n2) f1 len1 len2) i (0, tu, (sr, sa, bl), f2)).2.2.1.2.2))), (q3, .inl (cI, 16, .inl ((iter (ctt (i3 n0 n1 n2) f1 len1 len2) i (0, tu, (sr, sa, bl), f2)).2.2.1.1))), (q4, .inl (cI, 16, .inl ((iter (ctt (i3 n0 n1 n2) f1 len1 len2) i (0, tu, (sr, sa, bl), f2)).2.2.1.2.1))), (h1, .inr (5, [.ref v1, .int (nI len1)])), (v1, .inl (cB, cp1, .inl f1)), (h2, .inr (5, [.ref v2, .int (nI len2)])), (v2, .inl (cB, cp2, .inl (rset ((iter (ctt (i3 n0 n1 n2) f1 len1 len2) i (0, tu, (sr, sa, bl), f2)).2.2.2) len2 (nI i) ((rget f1 len1 (nI i)) ^^^ (uS (((iter (ctt (i3 n0 n1 n2) f1 len1 len2) i (0, tu, (sr, sa, bl), f2)).2.2.1.2.2) ((i % 64) / 4)) (nI (24 - (8 * ((i % 64) % 4)))))))))] H := hP
        have hD : va_D A [(h, .inr (2, [.ref q0, .ref q1, .ref q2, .int 0, .int ((iter (ctt (i3 n0 n1 n2) f1 len1 len2) i (0, tu, (sr, sa, bl), f2)).2.1), .ref q3, .ref q4, .ref q5])), (q0, .inl (cI, 3, .inl (i3 n0 n1 n2))), (q1, .inl (cI, 16, .inl ((iter (ctt (i3 n0 n1 n2) f1 len1 len2) i (0, tu, (sr, sa, bl), f2)).2.2.1.2.2))), (q3, .inl (cI, 16, .inl ((iter (ctt (i3 n0 n1 n2) f1 len1 len2) i (0, tu, (sr, sa, bl), f2)).2.2.1.1))), (q4, .inl (cI, 16, .inl ((iter (ctt (i3 n0 n1 n2) f1 len1 len2) i (0, tu, (sr, sa, bl), f2)).2.2.1.2.1))), (h1, .inr (5, [.ref v1, .int (nI len1)])), (v1, .inl (cB, cp1, .inl f1)), (h2, .inr (5, [.ref v2, .int (nI len2)])), (v2, .inl (cB, cp2, .inl (rset ((iter (ctt (i3 n0 n1 n2) f1 len1 len2) i (0, tu, (sr, sa, bl), f2)).2.2.2) len2 (nI i) ((rget f1 len1 (nI i)) ^^^ (uS (((iter (ctt (i3 n0 n1 n2) f1 len1 len2) i (0, tu, (sr, sa, bl), f2)).2.2.1.2.2) ((i % 64) / 4)) (nI (24 - (8 * ((i % 64) % 4)))))))))] := hD
        refine lv_iload hx hb d_C_turnText_65 (lv_at hl 1 rfl) ?_
        refine lv_iconst (v := 1) hx hb d_C_turnText_67 (by decide) ?_
        refine lv_iadd hx hb d_C_turnText_68 ?_
        refine sb_topn ((i % 64) + 1) (nI_add (i % 64) 1) ?_
        refine lv_iconst (v := 4) hx hb d_C_turnText_69 (by decide) ?_
        refine lv_aload_n hx hb d_C_turnText_70 rfl (lv_at hl 3 rfl) ?_
        refine va_get (D := D) (ci := 2) (v := .ref q1) (C := R_H) (T := F_H) (N := 8) hx hb hts in_H hown hG.1 hP 0 rfl rfl 1 (by decide) (hts _ k_121) (fun _ h9 => h9) rfl d_C_turnText_71 ?_
        refine va_alen (v := nI 16) hx hb hG.1 hP 2 0 rfl rfl rfl d_C_turnText_74 ?_
        refine lv_imul hx hb d_C_turnText_75 ?_
        refine sb_topn 64 (sb_eqn (a := 4 * 16) (b := 64) (sb_mul (a := 4) (b := 16) rfl rfl) (by omega)) ?_
        refine lv_iconst (v := 1) hx hb d_C_turnText_76 (by decide) ?_
        refine lv_isub hx hb d_C_turnText_77 ?_
        refine sb_topn 63 (sb_eqn (a := 64 - 1) (b := 63) (sb_sub (a := 64) (b := 1) (by omega) rfl rfl) (by omega)) ?_
        refine lv_iand hx hb d_C_turnText_78 ?_
        refine sb_topn (((i % 64) + 1) % 64) (sb_and (a := (i % 64) + 1) 6 rfl (by omega) (by decide)) ?_
        refine sb_topn (((i % 64) + 1) % 64) rfl ?_
        refine lv_istore (lv' := [(5, .int (nI (((i % 64) + 1) % 64))), (4, .int ((iter (ctt (i3 n0 n1 n2) f1 len1 len2) i (0, tu, (sr, sa, bl), f2)).1)), (6, .int (nI i)), (0, .ref h), (1, .ref h1), (2, .int (nI z)), (3, .ref h2)]) hx hb d_C_turnText_79 hl (by decide) rfl (fun ls hl => ?_)
        refine lv_iinc (v := nI (i + 1)) (lv' := [(6, .int (nI (i + 1))), (5, .int (nI (((i % 64) + 1) % 64))), (4, .int ((iter (ctt (i3 n0 n1 n2) f1 len1 len2) i (0, tu, (sr, sa, bl), f2)).1)), (0, .ref h), (1, .ref h1), (2, .int (nI z)), (3, .ref h2)]) hx hb d_C_turnText_81 hl (k := 2) rfl (sb_inc (a := i) (b := i + 1) (d := 1) rfl (by decide) (by omega)) (by decide) rfl (fun ls hl => ?_)
        refine lv_goto (tgt := 12) hx hb d_C_turnText_84 (by decide) ?_
        have hE : iter (ctt (i3 n0 n1 n2) f1 len1 len2) (i + 1) (0, tu, (sr, sa, bl), f2) = ((iter (ctt (i3 n0 n1 n2) f1 len1 len2) i (0, tu, (sr, sa, bl), f2)).1, (iter (ctt (i3 n0 n1 n2) f1 len1 len2) i (0, tu, (sr, sa, bl), f2)).2.1, ((iter (ctt (i3 n0 n1 n2) f1 len1 len2) i (0, tu, (sr, sa, bl), f2)).2.2.1.1, (iter (ctt (i3 n0 n1 n2) f1 len1 len2) i (0, tu, (sr, sa, bl), f2)).2.2.1.2.1, (iter (ctt (i3 n0 n1 n2) f1 len1 len2) i (0, tu, (sr, sa, bl), f2)).2.2.1.2.2), rset ((iter (ctt (i3 n0 n1 n2) f1 len1 len2) i (0, tu, (sr, sa, bl), f2)).2.2.2) len2 (nI i) ((rget f1 len1 (nI i)) ^^^ (uS (((iter (ctt (i3 n0 n1 n2) f1 len1 len2) i (0, tu, (sr, sa, bl), f2)).2.2.1.2.2) ((i % 64) / 4)) (nI (24 - (8 * ((i % 64) % 4))))))) := (iter_s _ _ _).trans (if_neg c_3)
        have ih' := ih1 (i + 1) (by omega)
        rw [hE] at ih'
        rw [show nI (((i % 64) + 1) % 64) = nI ((i + 1) % 64) from congrArg nI (by omega)] at hl
        exact ih' _ _ ls (hP.sub [0, 1, 2, 3, 4, 5, 6, 7, 8] rfl) (hD.sub [0, 1, 2, 3, 4, 5, 6, 7, 8] (by decide) rfl) hS (lv_sub hl [2, 1, 0, 3, 4, 5, 6] rfl)
      · have c_3 := (sb_eqI (a := i % 64) (b := 0) rfl rfl (by omega) (by omega)).mp c_3
        obtain ⟨x_6, ex_6⟩ : ∃ y : Int32, y = ((iter (ctt (i3 n0 n1 n2) f1 len1 len2) i (0, tu, (sr, sa, bl), f2)).1) + 1 := ⟨_, rfl⟩
        refine lv_iinc (v := x_6) (lv' := [(4, .int x_6), (5, .int (nI (i % 64))), (6, .int (nI i)), (0, .ref h), (1, .ref h1), (2, .int (nI z)), (3, .ref h2)]) hx hb d_C_turnText_23 hl (k := 0) rfl (by rw [ex_6]; rfl) (by decide) rfl (fun ls hl => ?_)
        refine lv_aload_n hx hb d_C_turnText_26 rfl (lv_at hl 3 rfl) ?_
        refine lv_iload hx hb d_C_turnText_27 (lv_at hl 0 rfl) ?_
        refine sb_callv (wr := [(h1, .inr (5, [.ref v1, .int (nI len1)])), (v1, .inl (cB, cp1, .inl f1)), (h2, .inr (5, [.ref v2, .int (nI len2)])), (v2, .inl (cB, cp2, .inl ((iter (ctt (i3 n0 n1 n2) f1 len1 len2) i (0, tu, (sr, sa, bl), f2)).2.2.2)))]) (va_runU (As := [.int x_6]) (rest := []) ⟨hx, hb, hml, hown, hts⟩ (c_H_turnBlock l D cI cL cB tS tF h q0 q1 q2 q3 q4 q5 0 ((iter (ctt (i3 n0 n1 n2) f1 len1 len2) i (0, tu, (sr, sa, bl), f2)).2.1) (i3 n0 n1 n2) ((iter (ctt (i3 n0 n1 n2) f1 len1 len2) i (0, tu, (sr, sa, bl), f2)).2.2.1.2.2) ((iter (ctt (i3 n0 n1 n2) f1 len1 len2) i (0, tu, (sr, sa, bl), f2)).2.2.1.1) ((iter (ctt (i3 n0 n1 n2) f1 len1 len2) i (0, tu, (sr, sa, bl), f2)).2.2.1.2.1) x_6 _ ) (va_cwA (owner := "SealBox$Cipher") 1 hts (sb_gU (owner := "SealBox$Cipher") (x := ⟨"SealBox$Cipher", "turnBlock", "(I)V"⟩) k_505 k_507 k_511 k_512 k_28 k_513) rfl rfl rfl (va_Nw.of rfl (hG.nest (args := args) _ n_506)) (by decide +kernel) ⟨Nat.le_of_ble_eq_true rfl, Nat.le_of_ble_eq_true rfl⟩) (sb_pV hG hP hD hS hA [0, 1, 2, 3, 4] (by decide) rfl (ci := 2) (q0 := 0) rfl rfl) rfl rfl hl.1 rfl (lv_room (Nat.le_of_ble_eq_true rfl)) d_C_turnText_29 ⟨Nat.le_of_ble_eq_true rfl, Nat.le_of_ble_eq_true rfl⟩) hP hD hS hA [0, 1, 2, 3, 4] [5, 6, 7, 8] rfl rfl (by decide) (by decide) (fun u H locs hw_7 hP hD hS => ?_)
        have hP : va_P D vwCl [(h1, .inr (5, [.ref v1, .int (nI len1)])), (v1, .inl (cB, cp1, .inl f1)), (h2, .inr (5, [.ref v2, .int (nI len2)])), (v2, .inl (cB, cp2, .inl ((iter (ctt (i3 n0 n1 n2) f1 len1 len2) i (0, tu, (sr, sa, bl), f2)).2.2.2))), (h, .inr (2, [.ref q0, .ref q1, .ref q2, .int 0, .int (((iter (ctt (i3 n0 n1 n2) f1 len1 len2) i (0, tu, (sr, sa, bl), f2)).2.1) + 1), .ref q3, .ref q4, .ref q5])), (q0, .inl (cI, 3, .inl (i3 n0 n1 n2))), (q1, .inl (cI, 16, .inl (iter (cout (cinit ((iter (ctt (i3 n0 n1 n2) f1 len1 len2) i (0, tu, (sr, sa, bl), f2)).2.2.1.1) (i3 n0 n1 n2) x_6) (cturn (cinit ((iter (ctt (i3 n0 n1 n2) f1 len1 len2) i (0, tu, (sr, sa, bl), f2)).2.2.1.1) (i3 n0 n1 n2) x_6) ((iter (ctt (i3 n0 n1 n2) f1 len1 len2) i (0, tu, (sr, sa, bl), f2)).2.2.1.2.1))) 16 ((iter (ctt (i3 n0 n1 n2) f1 len1 len2) i (0, tu, (sr, sa, bl), f2)).2.2.1.2.2)))), (q3, .inl (cI, 16, .inl (cinit ((iter (ctt (i3 n0 n1 n2) f1 len1 len2) i (0, tu, (sr, sa, bl), f2)).2.2.1.1) (i3 n0 n1 n2) x_6))), (q4, .inl (cI, 16, .inl (cturn (cinit ((iter (ctt (i3 n0 n1 n2) f1 len1 len2) i (0, tu, (sr, sa, bl), f2)).2.2.1.1) (i3 n0 n1 n2) x_6) ((iter (ctt (i3 n0 n1 n2) f1 len1 len2) i (0, tu, (sr, sa, bl), f2)).2.2.1.2.1))))] H := hP
        have hD : va_D A [(h1, .inr (5, [.ref v1, .int (nI len1)])), (v1, .inl (cB, cp1, .inl f1)), (h2, .inr (5, [.ref v2, .int (nI len2)])), (v2, .inl (cB, cp2, .inl ((iter (ctt (i3 n0 n1 n2) f1 len1 len2) i (0, tu, (sr, sa, bl), f2)).2.2.2))), (h, .inr (2, [.ref q0, .ref q1, .ref q2, .int 0, .int (((iter (ctt (i3 n0 n1 n2) f1 len1 len2) i (0, tu, (sr, sa, bl), f2)).2.1) + 1), .ref q3, .ref q4, .ref q5])), (q0, .inl (cI, 3, .inl (i3 n0 n1 n2))), (q1, .inl (cI, 16, .inl (iter (cout (cinit ((iter (ctt (i3 n0 n1 n2) f1 len1 len2) i (0, tu, (sr, sa, bl), f2)).2.2.1.1) (i3 n0 n1 n2) x_6) (cturn (cinit ((iter (ctt (i3 n0 n1 n2) f1 len1 len2) i (0, tu, (sr, sa, bl), f2)).2.2.1.1) (i3 n0 n1 n2) x_6) ((iter (ctt (i3 n0 n1 n2) f1 len1 len2) i (0, tu, (sr, sa, bl), f2)).2.2.1.2.1))) 16 ((iter (ctt (i3 n0 n1 n2) f1 len1 len2) i (0, tu, (sr, sa, bl), f2)).2.2.1.2.2)))), (q3, .inl (cI, 16, .inl (cinit ((iter (ctt (i3 n0 n1 n2) f1 len1 len2) i (0, tu, (sr, sa, bl), f2)).2.2.1.1) (i3 n0 n1 n2) x_6))), (q4, .inl (cI, 16, .inl (cturn (cinit ((iter (ctt (i3 n0 n1 n2) f1 len1 len2) i (0, tu, (sr, sa, bl), f2)).2.2.1.1) (i3 n0 n1 n2) x_6) ((iter (ctt (i3 n0 n1 n2) f1 len1 len2) i (0, tu, (sr, sa, bl), f2)).2.2.1.2.1))))] := hD
        refine lv_aload_n hx hb d_C_turnText_32 rfl (lv_at hl 6 rfl) ?_
        refine lv_iload hx hb d_C_turnText_33 (lv_at hl 2 rfl) ?_
        refine lv_aload_n hx hb d_C_turnText_35 rfl (lv_at hl 4 rfl) ?_
        refine lv_iload hx hb d_C_turnText_36 (lv_at hl 2 rfl) ?_
        refine vp_callSi (va_runV (As := [.int (nI i)]) (rest := [.int (nI i), .ref h2]) ⟨hx, hb, hml, hown, hts⟩ (c_R_get l D cI cL cB tS tF h1 v1 len1 cp1 f1 (nI i) hl1 (by omega)) (cwV 1 hts (sb_gV k_520 k_429 k_430 k_23 k_431) rfl rfl rfl (by decide +kernel) ⟨Nat.le_of_ble_eq_true rfl, Nat.le_of_ble_eq_true rfl⟩) (sb_rV hG hP hS [0, 1] rfl (ci := 5) (q0 := 0) rfl rfl) rfl rfl hl.1 rfl (lv_room (Nat.le_of_ble_eq_true rfl)) d_C_turnText_38 ⟨Nat.le_of_ble_eq_true rfl, Nat.le_of_ble_eq_true rfl⟩).run (fun r_8 er_8 => ?_)
        subst er_8
        refine lv_aload_n hx hb d_C_turnText_41 rfl (lv_at hl 3 rfl) ?_
        refine va_get (D := D) (ci := 2) (v := .ref q1) (C := R_H) (T := F_H) (N := 8) hx hb hts in_H hown hG.1 hP 4 rfl rfl 1 (by decide) (hts _ k_121) (fun _ h9 => h9) rfl d_C_turnText_42 ?_
        refine lv_iload hx hb d_C_turnText_45 (lv_at hl 1 rfl) ?_
        refine lv_iconst (v := 2) hx hb d_C_turnText_47 (by decide) ?_
        refine lv_ishr hx hb d_C_turnText_48 ?_
        refine sb_topn ((i % 64) / 4) (sb_shr (a := i % 64) 2 rfl (by omega) (by decide)) ?_
        refine sb_ild hx hb hG.1 hP 6 rfl ((i % 64) / 4) rfl (by omega) (by omega) d_C_turnText_49 ?_
        refine lv_bipush (v := 24) hx hb d_C_turnText_50 (by decide) ?_
        refine lv_bipush (v := 8) hx hb d_C_turnText_52 (by decide) ?_
        refine lv_iload hx hb d_C_turnText_54 (lv_at hl 1 rfl) ?_
        refine lv_iconst (v := 3) hx hb d_C_turnText_56 (by decide) ?_
        refine lv_iand hx hb d_C_turnText_57 ?_
        refine sb_topn ((i % 64) % 4) (sb_and (a := i % 64) 2 rfl (by omega) (by decide)) ?_
        refine lv_imul hx hb d_C_turnText_58 ?_
        refine sb_topn (8 * ((i % 64) % 4)) (sb_mul (a := 8) (b := (i % 64) % 4) rfl rfl) ?_
        refine lv_isub hx hb d_C_turnText_59 ?_
        refine sb_topn (24 - (8 * ((i % 64) % 4))) (sb_sub (a := 24) (b := 8 * ((i % 64) % 4)) (by omega) rfl rfl) ?_
        refine lv_iushr (v := uS ((iter (cout (cinit ((iter (ctt (i3 n0 n1 n2) f1 len1 len2) i (0, tu, (sr, sa, bl), f2)).2.2.1.1) (i3 n0 n1 n2) x_6) (cturn (cinit ((iter (ctt (i3 n0 n1 n2) f1 len1 len2) i (0, tu, (sr, sa, bl), f2)).2.2.1.1) (i3 n0 n1 n2) x_6) ((iter (ctt (i3 n0 n1 n2) f1 len1 len2) i (0, tu, (sr, sa, bl), f2)).2.2.1.2.1))) 16 ((iter (ctt (i3 n0 n1 n2) f1 len1 len2) i (0, tu, (sr, sa, bl), f2)).2.2.1.2.2)) ((i % 64) / 4)) (nI (24 - (8 * ((i % 64) % 4))))) hx hb d_C_turnText_60 rfl ?_
        refine lv_ixor hx hb d_C_turnText_61 ?_
        refine sb_callv (wr := [(h1, .inr (5, [.ref v1, .int (nI len1)])), (v1, .inl (cB, cp1, .inl f1)), (h, .inr (2, [.ref q0, .ref q1, .ref q2, .int 0, .int (((iter (ctt (i3 n0 n1 n2) f1 len1 len2) i (0, tu, (sr, sa, bl), f2)).2.1) + 1), .ref q3, .ref q4, .ref q5])), (q0, .inl (cI, 3, .inl (i3 n0 n1 n2))), (q1, .inl (cI, 16, .inl (iter (cout (cinit ((iter (ctt (i3 n0 n1 n2) f1 len1 len2) i (0, tu, (sr, sa, bl), f2)).2.2.1.1) (i3 n0 n1 n2) x_6) (cturn (cinit ((iter (ctt (i3 n0 n1 n2) f1 len1 len2) i (0, tu, (sr, sa, bl), f2)).2.2.1.1) (i3 n0 n1 n2) x_6) ((iter (ctt (i3 n0 n1 n2) f1 len1 len2) i (0, tu, (sr, sa, bl), f2)).2.2.1.2.1))) 16 ((iter (ctt (i3 n0 n1 n2) f1 len1 len2) i (0, tu, (sr, sa, bl), f2)).2.2.1.2.2)))), (q3, .inl (cI, 16, .inl (cinit ((iter (ctt (i3 n0 n1 n2) f1 len1 len2) i (0, tu, (sr, sa, bl), f2)).2.2.1.1) (i3 n0 n1 n2) x_6))), (q4, .inl (cI, 16, .inl (cturn (cinit ((iter (ctt (i3 n0 n1 n2) f1 len1 len2) i (0, tu, (sr, sa, bl), f2)).2.2.1.1) (i3 n0 n1 n2) x_6) ((iter (ctt (i3 n0 n1 n2) f1 len1 len2) i (0, tu, (sr, sa, bl), f2)).2.2.1.2.1))))]) (va_runV (As := [.int (nI i), .int ((rget f1 len1 (nI i)) ^^^ (uS ((iter (cout (cinit ((iter (ctt (i3 n0 n1 n2) f1 len1 len2) i (0, tu, (sr, sa, bl), f2)).2.2.1.1) (i3 n0 n1 n2) x_6) (cturn (cinit ((iter (ctt (i3 n0 n1 n2) f1 len1 len2) i (0, tu, (sr, sa, bl), f2)).2.2.1.1) (i3 n0 n1 n2) x_6) ((iter (ctt (i3 n0 n1 n2) f1 len1 len2) i (0, tu, (sr, sa, bl), f2)).2.2.1.2.1))) 16 ((iter (ctt (i3 n0 n1 n2) f1 len1 len2) i (0, tu, (sr, sa, bl), f2)).2.2.1.2.2)) ((i % 64) / 4)) (nI (24 - (8 * ((i % 64) % 4))))))]) (rest := []) ⟨hx, hb, hml, hown, hts⟩ (c_R_set l D cI cL cB tS tF h2 v2 len2 cp2 ((iter (ctt (i3 n0 n1 n2) f1 len1 len2) i (0, tu, (sr, sa, bl), f2)).2.2.2) (nI i) ((rget f1 len1 (nI i)) ^^^ (uS ((iter (cout (cinit ((iter (ctt (i3 n0 n1 n2) f1 len1 len2) i (0, tu, (sr, sa, bl), f2)).2.2.1.1) (i3 n0 n1 n2) x_6) (cturn (cinit ((iter (ctt (i3 n0 n1 n2) f1 len1 len2) i (0, tu, (sr, sa, bl), f2)).2.2.1.1) (i3 n0 n1 n2) x_6) ((iter (ctt (i3 n0 n1 n2) f1 len1 len2) i (0, tu, (sr, sa, bl), f2)).2.2.1.2.1))) 16 ((iter (ctt (i3 n0 n1 n2) f1 len1 len2) i (0, tu, (sr, sa, bl), f2)).2.2.1.2.2)) ((i % 64) / 4)) (nI (24 - (8 * ((i % 64) % 4)))))) _ hl2 (by omega)) (cwV 2 hts (sb_gV k_521 k_368 k_369 k_23 k_370) rfl rfl rfl (by decide +kernel) ⟨Nat.le_of_ble_eq_true rfl, Nat.le_of_ble_eq_true rfl⟩) (sb_pV hG hP hD hS hA [2, 3] (by decide) rfl (ci := 5) (q0 := 2) rfl rfl) rfl rfl hl.1 rfl (lv_room (Nat.le_of_ble_eq_true rfl)) d_C_turnText_62 ⟨Nat.le_of_ble_eq_true rfl, Nat.le_of_ble_eq_true rfl⟩) hP hD hS hA [2, 3] [0, 1, 4, 5, 6, 7, 8] rfl rfl (by decide) (by decide) (fun u H locs hw_9 hP hD hS => ?_)
        have hP : va_P D vwCl [(h1, .inr (5, [.ref v1, .int (nI len1)])), (v1, .inl (cB, cp1, .inl f1)), (h, .inr (2, [.ref q0, .ref q1, .ref q2, .int 0, .int (((iter (ctt (i3 n0 n1 n2) f1 len1 len2) i (0, tu, (sr, sa, bl), f2)).2.1) + 1), .ref q3, .ref q4, .ref q5])), (q0, .inl (cI, 3, .inl (i3 n0 n1 n2))), (q1, .inl (cI, 16, .inl (iter (cout (cinit ((iter (ctt (i3 n0 n1 n2) f1 len1 len2) i (0, tu, (sr, sa, bl), f2)).2.2.1.1) (i3 n0 n1 n2) x_6) (cturn (cinit ((iter (ctt (i3 n0 n1 n2) f1 len1 len2) i (0, tu, (sr, sa, bl), f2)).2.2.1.1) (i3 n0 n1 n2) x_6) ((iter (ctt (i3 n0 n1 n2) f1 len1 len2) i (0, tu, (sr, sa, bl), f2)).2.2.1.2.1))) 16 ((iter (ctt (i3 n0 n1 n2) f1 len1 len2) i (0, tu, (sr, sa, bl), f2)).2.2.1.2.2)))), (q3, .inl (cI, 16, .inl (cinit ((iter (ctt (i3 n0 n1 n2) f1 len1 len2) i (0, tu, (sr, sa, bl), f2)).2.2.1.1) (i3 n0 n1 n2) x_6))), (q4, .inl (cI, 16, .inl (cturn (cinit ((iter (ctt (i3 n0 n1 n2) f1 len1 len2) i (0, tu, (sr, sa, bl), f2)).2.2.1.1) (i3 n0 n1 n2) x_6) ((iter (ctt (i3 n0 n1 n2) f1 len1 len2) i (0, tu, (sr, sa, bl), f2)).2.2.1.2.1)))), (h2, .inr (5, [.ref v2, .int (nI len2)])), (v2, .inl (cB, cp2, .inl (rset ((iter (ctt (i3 n0 n1 n2) f1 len1 len2) i (0, tu, (sr, sa, bl), f2)).2.2.2) len2 (nI i) ((rget f1 len1 (nI i)) ^^^ (uS ((iter (cout (cinit ((iter (ctt (i3 n0 n1 n2) f1 len1 len2) i (0, tu, (sr, sa, bl), f2)).2.2.1.1) (i3 n0 n1 n2) x_6) (cturn (cinit ((iter (ctt (i3 n0 n1 n2) f1 len1 len2) i (0, tu, (sr, sa, bl), f2)).2.2.1.1) (i3 n0 n1 n2) x_6) ((iter (ctt (i3 n0 n1 n2) f1 len1 len2) i (0, tu, (sr, sa, bl), f2)).2.2.1.2.1))) 16 ((iter (ctt (i3 n0 n1 n2) f1 len1 len2) i (0, tu, (sr, sa, bl), f2)).2.2.1.2.2)) ((i % 64) / 4)) (nI (24 - (8 * ((i % 64) % 4)))))))))] H := hP
        have hD : va_D A [(h1, .inr (5, [.ref v1, .int (nI len1)])), (v1, .inl (cB, cp1, .inl f1)), (h, .inr (2, [.ref q0, .ref q1, .ref q2, .int 0, .int (((iter (ctt (i3 n0 n1 n2) f1 len1 len2) i (0, tu, (sr, sa, bl), f2)).2.1) + 1), .ref q3, .ref q4, .ref q5])), (q0, .inl (cI, 3, .inl (i3 n0 n1 n2))), (q1, .inl (cI, 16, .inl (iter (cout (cinit ((iter (ctt (i3 n0 n1 n2) f1 len1 len2) i (0, tu, (sr, sa, bl), f2)).2.2.1.1) (i3 n0 n1 n2) x_6) (cturn (cinit ((iter (ctt (i3 n0 n1 n2) f1 len1 len2) i (0, tu, (sr, sa, bl), f2)).2.2.1.1) (i3 n0 n1 n2) x_6) ((iter (ctt (i3 n0 n1 n2) f1 len1 len2) i (0, tu, (sr, sa, bl), f2)).2.2.1.2.1))) 16 ((iter (ctt (i3 n0 n1 n2) f1 len1 len2) i (0, tu, (sr, sa, bl), f2)).2.2.1.2.2)))), (q3, .inl (cI, 16, .inl (cinit ((iter (ctt (i3 n0 n1 n2) f1 len1 len2) i (0, tu, (sr, sa, bl), f2)).2.2.1.1) (i3 n0 n1 n2) x_6))), (q4, .inl (cI, 16, .inl (cturn (cinit ((iter (ctt (i3 n0 n1 n2) f1 len1 len2) i (0, tu, (sr, sa, bl), f2)).2.2.1.1) (i3 n0 n1 n2) x_6) ((iter (ctt (i3 n0 n1 n2) f1 len1 len2) i (0, tu, (sr, sa, bl), f2)).2.2.1.2.1)))), (h2, .inr (5, [.ref v2, .int (nI len2)])), (v2, .inl (cB, cp2, .inl (rset ((iter (ctt (i3 n0 n1 n2) f1 len1 len2) i (0, tu, (sr, sa, bl), f2)).2.2.2) len2 (nI i) ((rget f1 len1 (nI i)) ^^^ (uS ((iter (cout (cinit ((iter (ctt (i3 n0 n1 n2) f1 len1 len2) i (0, tu, (sr, sa, bl), f2)).2.2.1.1) (i3 n0 n1 n2) x_6) (cturn (cinit ((iter (ctt (i3 n0 n1 n2) f1 len1 len2) i (0, tu, (sr, sa, bl), f2)).2.2.1.1) (i3 n0 n1 n2) x_6) ((iter (ctt (i3 n0 n1 n2) f1 len1 len2) i (0, tu, (sr, sa, bl), f2)).2.2.1.2.1))) 16 ((iter (ctt (i3 n0 n1 n2) f1 len1 len2) i (0, tu, (sr, sa, bl), f2)).2.2.1.2.2)) ((i % 64) / 4)) (nI (24 - (8 * ((i % 64) % 4)))))))))] := hD
        refine lv_iload hx hb d_C_turnText_65 (lv_at hl 1 rfl) ?_
        refine lv_iconst (v := 1) hx hb d_C_turnText_67 (by decide) ?_
        refine lv_iadd hx hb d_C_turnText_68 ?_
        refine sb_topn ((i % 64) + 1) (nI_add (i % 64) 1) ?_
        refine lv_iconst (v := 4) hx hb d_C_turnText_69 (by decide) ?_
        refine lv_aload_n hx hb d_C_turnText_70 rfl (lv_at hl 3 rfl) ?_
        refine va_get (D := D) (ci := 2) (v := .ref q1) (C := R_H) (T := F_H) (N := 8) hx hb hts in_H hown hG.1 hP 2 rfl rfl 1 (by decide) (hts _ k_121) (fun _ h9 => h9) rfl d_C_turnText_71 ?_
        refine va_alen (v := nI 16) hx hb hG.1 hP 4 0 rfl rfl rfl d_C_turnText_74 ?_
        refine lv_imul hx hb d_C_turnText_75 ?_
        refine sb_topn 64 (sb_eqn (a := 4 * 16) (b := 64) (sb_mul (a := 4) (b := 16) rfl rfl) (by omega)) ?_
        refine lv_iconst (v := 1) hx hb d_C_turnText_76 (by decide) ?_
        refine lv_isub hx hb d_C_turnText_77 ?_
        refine sb_topn 63 (sb_eqn (a := 64 - 1) (b := 63) (sb_sub (a := 64) (b := 1) (by omega) rfl rfl) (by omega)) ?_
        refine lv_iand hx hb d_C_turnText_78 ?_
        refine sb_topn (((i % 64) + 1) % 64) (sb_and (a := (i % 64) + 1) 6 rfl (by omega) (by decide)) ?_
        refine sb_topn (((i % 64) + 1) % 64) rfl ?_
        refine lv_istore (lv' := [(5, .int (nI (((i % 64) + 1) % 64))), (4, .int x_6), (6, .int (nI i)), (0, .ref h), (1, .ref h1), (2, .int (nI z)), (3, .ref h2)]) hx hb d_C_turnText_79 hl (by decide) rfl (fun ls hl => ?_)
        refine lv_iinc (v := nI (i + 1)) (lv' := [(6, .int (nI (i + 1))), (5, .int (nI (((i % 64) + 1) % 64))), (4, .int x_6), (0, .ref h), (1, .ref h1), (2, .int (nI z)), (3, .ref h2)]) hx hb d_C_turnText_81 hl (k := 2) rfl (sb_inc (a := i) (b := i + 1) (d := 1) rfl (by decide) (by omega)) (by decide) rfl (fun ls hl => ?_)
        refine lv_goto (tgt := 12) hx hb d_C_turnText_84 (by decide) ?_
        subst ex_6
        have hE : iter (ctt (i3 n0 n1 n2) f1 len1 len2) (i + 1) (0, tu, (sr, sa, bl), f2) = ((((iter (ctt (i3 n0 n1 n2) f1 len1 len2) i (0, tu, (sr, sa, bl), f2)).1) + 1), ((iter (ctt (i3 n0 n1 n2) f1 len1 len2) i (0, tu, (sr, sa, bl), f2)).2.1) + 1, (cinit ((iter (ctt (i3 n0 n1 n2) f1 len1 len2) i (0, tu, (sr, sa, bl), f2)).2.2.1.1) (i3 n0 n1 n2) (((iter (ctt (i3 n0 n1 n2) f1 len1 len2) i (0, tu, (sr, sa, bl), f2)).1) + 1), cturn (cinit ((iter (ctt (i3 n0 n1 n2) f1 len1 len2) i (0, tu, (sr, sa, bl), f2)).2.2.1.1) (i3 n0 n1 n2) (((iter (ctt (i3 n0 n1 n2) f1 len1 len2) i (0, tu, (sr, sa, bl), f2)).1) + 1)) ((iter (ctt (i3 n0 n1 n2) f1 len1 len2) i (0, tu, (sr, sa, bl), f2)).2.2.1.2.1), iter (cout (cinit ((iter (ctt (i3 n0 n1 n2) f1 len1 len2) i (0, tu, (sr, sa, bl), f2)).2.2.1.1) (i3 n0 n1 n2) (((iter (ctt (i3 n0 n1 n2) f1 len1 len2) i (0, tu, (sr, sa, bl), f2)).1) + 1)) (cturn (cinit ((iter (ctt (i3 n0 n1 n2) f1 len1 len2) i (0, tu, (sr, sa, bl), f2)).2.2.1.1) (i3 n0 n1 n2) (((iter (ctt (i3 n0 n1 n2) f1 len1 len2) i (0, tu, (sr, sa, bl), f2)).1) + 1)) ((iter (ctt (i3 n0 n1 n2) f1 len1 len2) i (0, tu, (sr, sa, bl), f2)).2.2.1.2.1))) 16 ((iter (ctt (i3 n0 n1 n2) f1 len1 len2) i (0, tu, (sr, sa, bl), f2)).2.2.1.2.2)), rset ((iter (ctt (i3 n0 n1 n2) f1 len1 len2) i (0, tu, (sr, sa, bl), f2)).2.2.2) len2 (nI i) ((rget f1 len1 (nI i)) ^^^ (uS ((iter (cout (cinit ((iter (ctt (i3 n0 n1 n2) f1 len1 len2) i (0, tu, (sr, sa, bl), f2)).2.2.1.1) (i3 n0 n1 n2) (((iter (ctt (i3 n0 n1 n2) f1 len1 len2) i (0, tu, (sr, sa, bl), f2)).1) + 1)) (cturn (cinit ((iter (ctt (i3 n0 n1 n2) f1 len1 len2) i (0, tu, (sr, sa, bl), f2)).2.2.1.1) (i3 n0 n1 n2) (((iter (ctt (i3 n0 n1 n2) f1 len1 len2) i (0, tu, (sr, sa, bl), f2)).1) + 1)) ((iter (ctt (i3 n0 n1 n2) f1 len1 len2) i (0, tu, (sr, sa, bl), f2)).2.2.1.2.1))) 16 ((iter (ctt (i3 n0 n1 n2) f1 len1 len2) i (0, tu, (sr, sa, bl), f2)).2.2.1.2.2)) ((i % 64) / 4)) (nI (24 - (8 * ((i % 64) % 4))))))) := (iter_s _ _ _).trans (if_pos c_3)
        have ih' := ih1 (i + 1) (by omega)
        rw [hE] at ih'
        rw [show nI (((i % 64) + 1) % 64) = nI ((i + 1) % 64) from congrArg nI (by omega)] at hl
        exact ih' _ _ ls (hP.sub [2, 3, 4, 5, 6, 0, 1, 7, 8] rfl) (hD.sub [2, 3, 4, 5, 6, 0, 1, 7, 8] (by decide) rfl) hS (lv_sub hl [2, 1, 0, 3, 4, 5, 6] rfl)
  exact lp1 z 0 (by omega) _ _ ls (hP.sub [0, 1, 2, 3, 4, 5, 6, 7, 8] rfl) (hD.sub [0, 1, 2, 3, 4, 5, 6, 7, 8] (by decide) rfl) hS (lv_sub hl [2, 1, 0, 3, 4, 5, 6] rfl)
