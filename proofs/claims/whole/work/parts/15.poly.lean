abbrev T5 : Type := Int64 × Int64 × Int64 × Int64 × Int64
def m26 (x : Int64) : Int64 := x &&& 67108863
def w32 (x : Int32) : Int64 := x.toInt64 &&& 4294967295
def padd (s0 s1 s2 s3 s4 : Int64) (a b c d : Int32) : T5 := (s0 + m26 (w32 a), s1 + m26 (uL (sL (w32 b) 32 ||| w32 a) 26), s2 + m26 (uL (sL (w32 c) 32 ||| w32 b) 20), s3 + m26 (uL (sL (w32 d) 32 ||| w32 c) 14), s4 + uL (w32 d) 8)
def pcar (s0 s1 s2 s3 s4 : Int64) : T5 :=
  let l1 := s1 + uL (s0 + 0) 26
  let l2 := s2 + uL l1 26
  let l3 := s3 + uL l2 26
  let l4 := s4 + uL l3 26
  let r := m26 (s0 + 0) + 5 * uL l4 26
  (m26 r, m26 l1 + uL r 26, m26 l2, m26 l3, m26 l4)
def pred1 (s0 s1 s2 s3 s4 : Int64) : T5 :=
  let l0 := s0 + 5
  let l1 := s1 + uL l0 26
  let l2 := s2 + uL l1 26
  let l3 := s3 + uL l2 26
  let l4 := s4 + uL l3 26
  (m26 l0, m26 l1, m26 l2, m26 l3, m26 l4)
def pover (s0 s1 s2 s3 s4 : Int64) : Int64 := uL (s4 + uL (s3 + uL (s2 + uL (s1 + uL (s0 + 5) 26) 26) 26) 26) 26
def pred (s0 s1 s2 s3 s4 : Int64) : T5 := if lg_cmp (pover s0 s1 s2 s3 s4) 0 ≤ 0 then (s0, s1, s2, s3, s4) else pred1 s0 s1 s2 s3 s4
def pl0 (s0 s1 s2 s3 s4 k0 k1 k2 k3 k4 t0 t1 t2 t3 t4 : Int64) : Int64 := ((((0 + s0 * k0) + s1 * t4) + s2 * t3) + s3 * t2) + s4 * t1
def pl1 (s0 s1 s2 s3 s4 k0 k1 k2 k3 k4 t0 t1 t2 t3 t4 : Int64) : Int64 := ((((0 + s0 * k1) + s1 * k0) + s2 * t4) + s3 * t3) + s4 * t2
def pl2 (s0 s1 s2 s3 s4 k0 k1 k2 k3 k4 t0 t1 t2 t3 t4 : Int64) : Int64 := ((((0 + s0 * k2) + s1 * k1) + s2 * k0) + s3 * t4) + s4 * t3
def pl3 (s0 s1 s2 s3 s4 k0 k1 k2 k3 k4 t0 t1 t2 t3 t4 : Int64) : Int64 := ((((0 + s0 * k3) + s1 * k2) + s2 * k1) + s3 * k0) + s4 * t4
def pl4 (s0 s1 s2 s3 s4 k0 k1 k2 k3 k4 t0 t1 t2 t3 t4 : Int64) : Int64 := ((((0 + s0 * k4) + s1 * k3) + s2 * k2) + s3 * k1) + s4 * k0
def pmul (q : T5) (k0 k1 k2 k3 k4 t0 t1 t2 t3 t4 : Int64) : T5 := (pl0 q.1 q.2.1 q.2.2.1 q.2.2.2.1 q.2.2.2.2 k0 k1 k2 k3 k4 t0 t1 t2 t3 t4, pl1 q.1 q.2.1 q.2.2.1 q.2.2.2.1 q.2.2.2.2 k0 k1 k2 k3 k4 t0 t1 t2 t3 t4, pl2 q.1 q.2.1 q.2.2.1 q.2.2.2.1 q.2.2.2.2 k0 k1 k2 k3 k4 t0 t1 t2 t3 t4, pl3 q.1 q.2.1 q.2.2.1 q.2.2.2.1 q.2.2.2.2 k0 k1 k2 k3 k4 t0 t1 t2 t3 t4, pl4 q.1 q.2.1 q.2.2.1 q.2.2.2.1 q.2.2.2.2 k0 k1 k2 k3 k4 t0 t1 t2 t3 t4)
def p24 (q : T5) : T5 := (q.1, q.2.1, q.2.2.1, q.2.2.2.1, q.2.2.2.2 + 16777216)
def pcart (q : T5) : T5 := pcar q.1 q.2.1 q.2.2.1 q.2.2.2.1 q.2.2.2.2
def predt (q : T5) : T5 := pred q.1 q.2.1 q.2.2.1 q.2.2.2.1 q.2.2.2.2
def pmt (s0 s1 s2 s3 s4 k0 k1 k2 k3 k4 t0 t1 t2 t3 t4 : Int64) (a b c d : Int32) : T5 := pmul (p24 (padd s0 s1 s2 s3 s4 (swpI a) (swpI b) (swpI c) (swpI d))) k0 k1 k2 k3 k4 t0 t1 t2 t3 t4
def pabs (s0 s1 s2 s3 s4 k0 k1 k2 k3 k4 t0 t1 t2 t3 t4 : Int64) (a b c d : Int32) : T5 := pcart (pmt s0 s1 s2 s3 s4 k0 k1 k2 k3 k4 t0 t1 t2 t3 t4 a b c d)
def pkey (w : Nat → Int32) : T5 := padd 0 0 0 0 0 (swpI (w 0) &&& 268435455) (swpI (w 1) &&& 268435452) (swpI (w 2) &&& 268435452) (swpI (w 3) &&& 268435452)
/-- the words of the sum -/
def pw (x y : Int64) (a b : Int32) : Int64 := (uL x a ||| sL y b) &&& 4294967295
def pc1 (q : T5) (g0 : Int32) : Int64 := 0 + (pw q.1 q.2.1 0 26 + w32 g0)
def pc2 (q : T5) (g0 g1 : Int32) : Int64 := uL (pc1 q g0) 32 + (pw q.2.1 q.2.2.1 6 20 + w32 g1)
def pc3 (q : T5) (g0 g1 g2 : Int32) : Int64 := uL (pc2 q g0 g1) 32 + (pw q.2.2.1 q.2.2.2.1 12 14 + w32 g2)
def pc4 (q : T5) (g0 g1 g2 g3 : Int32) : Int64 := uL (pc3 q g0 g1 g2) 32 + (pw q.2.2.2.1 q.2.2.2.2 18 8 + w32 g3)

theorem d_J_fill_0 : decode b_J_fill 0 = .ok (.iconst 0, 1) := by decide +kernel
theorem d_J_fill_1 : decode b_J_fill 1 = .ok (.istore_n 3, 1) := by decide +kernel
theorem d_J_fill_2 : decode b_J_fill 2 = .ok (.aload_n 0, 1) := by decide +kernel
theorem d_J_fill_3 : decode b_J_fill 3 = .ok (.arraylength, 1) := by decide +kernel
theorem d_J_fill_4 : decode b_J_fill 4 = .ok (.istore 4, 2) := by decide +kernel
theorem d_J_fill_6 : decode b_J_fill 6 = .ok (.iload_n 3, 1) := by decide +kernel
theorem d_J_fill_7 : decode b_J_fill 7 = .ok (.iload 4, 2) := by decide +kernel
theorem d_J_fill_9 : decode b_J_fill 9 = .ok (.if_icmp .ge 13, 3) := by decide +kernel
theorem d_J_fill_12 : decode b_J_fill 12 = .ok (.aload_n 0, 1) := by decide +kernel
theorem d_J_fill_13 : decode b_J_fill 13 = .ok (.iload_n 3, 1) := by decide +kernel
theorem d_J_fill_14 : decode b_J_fill 14 = .ok (.lload_n 1, 1) := by decide +kernel
theorem d_J_fill_15 : decode b_J_fill 15 = .ok (.lastore, 1) := by decide +kernel
theorem d_J_fill_16 : decode b_J_fill 16 = .ok (.iinc 3 1, 3) := by decide +kernel
theorem d_J_fill_19 : decode b_J_fill 19 = .ok (.goto (-13), 3) := by decide +kernel
theorem d_J_fill_22 : decode b_J_fill 22 = .ok (.return_, 1) := by decide +kernel

def rm_J_fill : Room := { frames := 0, cells := 0, slots := 0, locals := 0 }
set_option maxHeartbeats 4000000 in
set_option maxRecDepth 100000 in
theorem c_J_fill (l : Launch) (D : va_G) (cI cL cB : ClassId) (tS tF : Nat) (h : Nat) (s0 : Int64) (s1 : Int64) (s2 : Int64) (s3 : Int64) (s4 : Int64) (x : Int64) (sz : Nat)  : Met l y_J_fill (sbw y_J_fill b_J_fill 5 none) rm_J_fill (sbPc D cI cL cB tS tF [.ref h, .long x] sz [(h, .inl (cL, 5, .inr (.inl (l5 s0 s1 s2 s3 s4))))]) (sbQv D (fun (_ : Unit) => True) (fun (_ : Unit) => [(h, .inl (cL, 5, .inr (.inl (l5 x x x x x))))]) (va_A [(h, .inl (cL, 5, .inr (.inl (l5 s0 s1 s2 s3 s4))))] sz)) 0 0 (va_A [(h, .inl (cL, 5, .inr (.inl (l5 s0 s1 s2 s3 s4))))] sz) := by
  refine sb_ofF (Qc := fun A => (sbQv D (fun (_ : Unit) => True) (fun (_ : Unit) => [(h, .inl (cL, 5, .inr (.inl (l5 x x x x x))))]) A)) (by decide) (Nat.le_of_ble_eq_true rfl) ?_
  intro p e s m args below meth c A ls hx hb hr hml hts hown hlocks hin hsz hP hG hD hA hS hl
  have hl : lv_has ls 5 [(0, .ref h), (1, .long x)] := hl
  refine lv_iconst (v := 0) hx hb d_J_fill_0 (by decide) ?_
  refine lv_istore_n (lv' := [(3, .int 0), (0, .ref h), (1, .long x)]) hx hb d_J_fill_1 rfl hl (by decide) rfl (fun ls hl => ?_)
  refine lv_aload_n hx hb d_J_fill_2 rfl (lv_at hl 1 rfl) ?_
  refine va_alen (v := nI 5) hx hb hG.1 hP 0 1 rfl rfl rfl d_J_fill_3 ?_
  refine lv_istore (lv' := [(4, .int (nI 5)), (3, .int 0), (0, .ref h), (1, .long x)]) hx hb d_J_fill_4 hl (by decide) rfl (fun ls hl => ?_)
  refine lv_iload_n hx hb d_J_fill_6 rfl (lv_at hl 1 rfl) ?_
  refine lv_iload hx hb d_J_fill_7 (lv_at hl 0 rfl) ?_
  refine lv_icmp_ge (tgt := 22) hx hb d_J_fill_9 (by decide) (fun c_1 => absurd c_1 (sb_geF (a := 0) (b := 5) rfl rfl (by omega) (by omega) (by omega))) (fun c_1 => ?_)
  refine lv_aload_n hx hb d_J_fill_12 rfl (lv_at hl 2 rfl) ?_
  refine lv_iload_n hx hb d_J_fill_13 rfl (lv_at hl 1 rfl) ?_
  refine lv_lload_n hx hb d_J_fill_14 rfl (lv_at hl 3 rfl) ?_
  refine sb_lst hx hb hG.1 hP hD hS 0 rfl 0 rfl (by omega) (by omega) d_J_fill_15 (fun f_2 H locs ef_2 hP hD hS => ?_)
  have hP : va_P D vwCl [(h, .inl (cL, 5, .inr (.inl f_2)))] H := hP
  have hD : va_D A [(h, .inl (cL, 5, .inr (.inl f_2)))] := hD
  obtain rfl : f_2 = l5 x s1 s2 s3 s4 := ef_2.trans (l5_set0 ..)
  refine lv_iinc (v := nI 1) (lv' := [(3, .int (nI 1)), (4, .int (nI 5)), (0, .ref h), (1, .long x)]) hx hb d_J_fill_16 hl (k := 1) rfl (sb_inc (a := 0) (b := 1) (d := 1) rfl (by decide) (by omega)) (by decide) rfl (fun ls hl => ?_)
  refine lv_goto (tgt := 6) hx hb d_J_fill_19 (by decide) ?_
  refine lv_iload_n hx hb d_J_fill_6 rfl (lv_at hl 0 rfl) ?_
  refine lv_iload hx hb d_J_fill_7 (lv_at hl 1 rfl) ?_
  refine lv_icmp_ge (tgt := 22) hx hb d_J_fill_9 (by decide) (fun c_3 => absurd c_3 (sb_geF (a := 1) (b := 5) rfl rfl (by omega) (by omega) (by omega))) (fun c_3 => ?_)
  refine lv_aload_n hx hb d_J_fill_12 rfl (lv_at hl 2 rfl) ?_
  refine lv_iload_n hx hb d_J_fill_13 rfl (lv_at hl 0 rfl) ?_
  refine lv_lload_n hx hb d_J_fill_14 rfl (lv_at hl 3 rfl) ?_
  refine sb_lst hx hb hG.1 hP hD hS 0 rfl 1 rfl (by omega) (by omega) d_J_fill_15 (fun f_4 H locs ef_4 hP hD hS => ?_)
  have hP : va_P D vwCl [(h, .inl (cL, 5, .inr (.inl f_4)))] H := hP
  have hD : va_D A [(h, .inl (cL, 5, .inr (.inl f_4)))] := hD
  obtain rfl : f_4 = l5 x x s2 s3 s4 := ef_4.trans (l5_set1 ..)
  refine lv_iinc (v := nI 2) (lv' := [(3, .int (nI 2)), (4, .int (nI 5)), (0, .ref h), (1, .long x)]) hx hb d_J_fill_16 hl (k := 0) rfl (sb_inc (a := 1) (b := 2) (d := 1) rfl (by decide) (by omega)) (by decide) rfl (fun ls hl => ?_)
  refine lv_goto (tgt := 6) hx hb d_J_fill_19 (by decide) ?_
  refine lv_iload_n hx hb d_J_fill_6 rfl (lv_at hl 0 rfl) ?_
  refine lv_iload hx hb d_J_fill_7 (lv_at hl 1 rfl) ?_
  refine lv_icmp_ge (tgt := 22) hx hb d_J_fill_9 (by decide) (fun c_5 => absurd c_5 (sb_geF (a := 2) (b := 5) rfl rfl (by omega) (by omega) (by omega))) (fun c_5 => ?_)
  refine lv_aload_n hx hb d_J_fill_12 rfl (lv_at hl 2 rfl) ?_
  refine lv_iload_n hx hb d_J_fill_13 rfl (lv_at hl 0 rfl) ?_
  refine lv_lload_n hx hb d_J_fill_14 rfl (lv_at hl 3 rfl) ?_
  refine sb_lst hx hb hG.1 hP hD hS 0 rfl 2 rfl (by omega) (by omega) d_J_fill_15 (fun f_6 H locs ef_6 hP hD hS => ?_)
  have hP : va_P D vwCl [(h, .inl (cL, 5, .inr (.inl f_6)))] H := hP
  have hD : va_D A [(h, .inl (cL, 5, .inr (.inl f_6)))] := hD
  obtain rfl : f_6 = l5 x x x s3 s4 := ef_6.trans (l5_set2 ..)
  refine lv_iinc (v := nI 3) (lv' := [(3, .int (nI 3)), (4, .int (nI 5)), (0, .ref h), (1, .long x)]) hx hb d_J_fill_16 hl (k := 0) rfl (sb_inc (a := 2) (b := 3) (d := 1) rfl (by decide) (by omega)) (by decide) rfl (fun ls hl => ?_)
  refine lv_goto (tgt := 6) hx hb d_J_fill_19 (by decide) ?_
  refine lv_iload_n hx hb d_J_fill_6 rfl (lv_at hl 0 rfl) ?_
  refine lv_iload hx hb d_J_fill_7 (lv_at hl 1 rfl) ?_
  refine lv_icmp_ge (tgt := 22) hx hb d_J_fill_9 (by decide) (fun c_7 => absurd c_7 (sb_geF (a := 3) (b := 5) rfl rfl (by omega) (by omega) (by omega))) (fun c_7 => ?_)
  refine lv_aload_n hx hb d_J_fill_12 rfl (lv_at hl 2 rfl) ?_
  refine lv_iload_n hx hb d_J_fill_13 rfl (lv_at hl 0 rfl) ?_
  refine lv_lload_n hx hb d_J_fill_14 rfl (lv_at hl 3 rfl) ?_
  refine sb_lst hx hb hG.1 hP hD hS 0 rfl 3 rfl (by omega) (by omega) d_J_fill_15 (fun f_8 H locs ef_8 hP hD hS => ?_)
  have hP : va_P D vwCl [(h, .inl (cL, 5, .inr (.inl f_8)))] H := hP
  have hD : va_D A [(h, .inl (cL, 5, .inr (.inl f_8)))] := hD
  obtain rfl : f_8 = l5 x x x x s4 := ef_8.trans (l5_set3 ..)
  refine lv_iinc (v := nI 4) (lv' := [(3, .int (nI 4)), (4, .int (nI 5)), (0, .ref h), (1, .long x)]) hx hb d_J_fill_16 hl (k := 0) rfl (sb_inc (a := 3) (b := 4) (d := 1) rfl (by decide) (by omega)) (by decide) rfl (fun ls hl => ?_)
  refine lv_goto (tgt := 6) hx hb d_J_fill_19 (by decide) ?_
  refine lv_iload_n hx hb d_J_fill_6 rfl (lv_at hl 0 rfl) ?_
  refine lv_iload hx hb d_J_fill_7 (lv_at hl 1 rfl) ?_
  refine lv_icmp_ge (tgt := 22) hx hb d_J_fill_9 (by decide) (fun c_9 => absurd c_9 (sb_geF (a := 4) (b := 5) rfl rfl (by omega) (by omega) (by omega))) (fun c_9 => ?_)
  refine lv_aload_n hx hb d_J_fill_12 rfl (lv_at hl 2 rfl) ?_
  refine lv_iload_n hx hb d_J_fill_13 rfl (lv_at hl 0 rfl) ?_
  refine lv_lload_n hx hb d_J_fill_14 rfl (lv_at hl 3 rfl) ?_
  refine sb_lst hx hb hG.1 hP hD hS 0 rfl 4 rfl (by omega) (by omega) d_J_fill_15 (fun f_10 H locs ef_10 hP hD hS => ?_)
  have hP : va_P D vwCl [(h, .inl (cL, 5, .inr (.inl f_10)))] H := hP
  have hD : va_D A [(h, .inl (cL, 5, .inr (.inl f_10)))] := hD
  obtain rfl : f_10 = l5 x x x x x := ef_10.trans (l5_set4 ..)
  refine lv_iinc (v := nI 5) (lv' := [(3, .int (nI 5)), (4, .int (nI 5)), (0, .ref h), (1, .long x)]) hx hb d_J_fill_16 hl (k := 0) rfl (sb_inc (a := 4) (b := 5) (d := 1) rfl (by decide) (by omega)) (by decide) rfl (fun ls hl => ?_)
  refine lv_goto (tgt := 6) hx hb d_J_fill_19 (by decide) ?_
  refine lv_iload_n hx hb d_J_fill_6 rfl (lv_at hl 0 rfl) ?_
  refine lv_iload hx hb d_J_fill_7 (lv_at hl 1 rfl) ?_
  refine lv_icmp_ge (tgt := 22) hx hb d_J_fill_9 (by decide) (fun c_11 => ?_) (fun c_11 => absurd (sb_geT (a := 5) (b := 5) rfl rfl (by omega) (by omega) (by omega)) c_11)
  have hP9 := hP.sub (ws' := [(h, .inl (cL, 5, .inr (.inl (l5 x x x x x))))]) [0] rfl
  have hD9 := hD.sub (ws' := [(h, .inl (cL, 5, .inr (.inl (l5 x x x x x))))]) [0] (by decide) rfl
  exact W.vret hx hb hr (fun t ht hW => ⟨⟨(), rfl, trivial, by rw [ht]; exact hP9, hD9⟩, hS.F ht⟩) hS.2.2 d_J_fill_22

theorem d_P_init_0 : decode b_P_init 0 = .ok (.aload_n 0, 1) := by decide +kernel
theorem d_P_init_1 : decode b_P_init 1 = .ok (.invokespecial 3, 3) := by decide +kernel
theorem d_P_init_4 : decode b_P_init 4 = .ok (.aload_n 0, 1) := by decide +kernel
theorem d_P_init_5 : decode b_P_init 5 = .ok (.iconst 5, 1) := by decide +kernel
theorem d_P_init_6 : decode b_P_init 6 = .ok (.newarray .long, 2) := by decide +kernel
theorem d_P_init_8 : decode b_P_init 8 = .ok (.putfield 9, 3) := by decide +kernel
theorem d_P_init_11 : decode b_P_init 11 = .ok (.aload_n 0, 1) := by decide +kernel
theorem d_P_init_12 : decode b_P_init 12 = .ok (.iconst 5, 1) := by decide +kernel
theorem d_P_init_13 : decode b_P_init 13 = .ok (.newarray .long, 2) := by decide +kernel
theorem d_P_init_15 : decode b_P_init 15 = .ok (.putfield 15, 3) := by decide +kernel
theorem d_P_init_18 : decode b_P_init 18 = .ok (.aload_n 0, 1) := by decide +kernel
theorem d_P_init_19 : decode b_P_init 19 = .ok (.iconst 5, 1) := by decide +kernel
theorem d_P_init_20 : decode b_P_init 20 = .ok (.newarray .long, 2) := by decide +kernel
theorem d_P_init_22 : decode b_P_init 22 = .ok (.putfield 18, 3) := by decide +kernel
theorem d_P_init_25 : decode b_P_init 25 = .ok (.aload_n 0, 1) := by decide +kernel
theorem d_P_init_26 : decode b_P_init 26 = .ok (.iconst 5, 1) := by decide +kernel
theorem d_P_init_27 : decode b_P_init 27 = .ok (.newarray .long, 2) := by decide +kernel
theorem d_P_init_29 : decode b_P_init 29 = .ok (.putfield 21, 3) := by decide +kernel
theorem d_P_init_32 : decode b_P_init 32 = .ok (.aload_n 0, 1) := by decide +kernel
theorem d_P_init_33 : decode b_P_init 33 = .ok (.iconst 4, 1) := by decide +kernel
theorem d_P_init_34 : decode b_P_init 34 = .ok (.newarray .int, 2) := by decide +kernel
theorem d_P_init_36 : decode b_P_init 36 = .ok (.putfield 24, 3) := by decide +kernel
theorem d_P_init_39 : decode b_P_init 39 = .ok (.return_, 1) := by decide +kernel

def rm_P_init : Room := { frames := 1, cells := 5, slots := 24, locals := 12 }
set_option maxHeartbeats 4000000 in
set_option maxRecDepth 100000 in
theorem c_P_init (l : Launch) (D : va_G) (cI cL cB : ClassId) (tS tF : Nat) (h : Nat) (sz : Nat)  : Met l y_P_init (sbw y_P_init b_P_init 1 none) rm_P_init (sbPc D cI cL cB tS tF [.ref h] sz [(h, .inr (4, [.null, .null, .null, .null, .null]))]) (sbQv D (fun (u : Nat × Nat × Nat × Nat × Nat) => match u with | (q1, q2, q3, q4, q5) => True) (fun (u : Nat × Nat × Nat × Nat × Nat) => match u with | (q1, q2, q3, q4, q5) => [(h, .inr (4, [.ref q1, .ref q2, .ref q3, .ref q4, .ref q5])), (q1, .inl (cL, 5, .inr (.inl (fun _ => 0)))), (q2, .inl (cL, 5, .inr (.inl (fun _ => 0)))), (q3, .inl (cL, 5, .inr (.inl (fun _ => 0)))), (q4, .inl (cL, 5, .inr (.inl (fun _ => 0)))), (q5, .inl (cI, 4, .inl (fun _ => 0)))]) (va_A [(h, .inr (4, [.null, .null, .null, .null, .null]))] sz)) 5 24 (va_A [(h, .inr (4, [.null, .null, .null, .null, .null]))] sz) := by
  refine sb_ofW (Qc := fun A => (sbQv D (fun (u : Nat × Nat × Nat × Nat × Nat) => match u with | (q1, q2, q3, q4, q5) => True) (fun (u : Nat × Nat × Nat × Nat × Nat) => match u with | (q1, q2, q3, q4, q5) => [(h, .inr (4, [.ref q1, .ref q2, .ref q3, .ref q4, .ref q5])), (q1, .inl (cL, 5, .inr (.inl (fun _ => 0)))), (q2, .inl (cL, 5, .inr (.inl (fun _ => 0)))), (q3, .inl (cL, 5, .inr (.inl (fun _ => 0)))), (q4, .inl (cL, 5, .inr (.inl (fun _ => 0)))), (q5, .inl (cI, 4, .inl (fun _ => 0)))]) A)) (by decide) (Nat.le_of_ble_eq_true rfl) ?_
  intro p e s m args below meth c A ls hx hb hr hml hts hown hlocks hin hsz hP hG hD hA hS hl
  have hl : lv_has ls 1 [(0, .ref h)] := hl
  refine lv_aload_n hx hb d_P_init_0 rfl (lv_at hl 0 rfl) ?_
  refine W.objInit hx hb hown (hts _ k_171) (hts _ k_48) (hts _ k_49) rfl (by rw [hml]; exact hl.1) rfl d_P_init_1 (Nat.le_of_ble_eq_true rfl) (Nat.le_of_ble_eq_true rfl) ?_
  refine W.eq (g2 := F0 m 4 ls []) rfl ?_
  refine lv_aload_n hx hb d_P_init_4 rfl (lv_at hl 0 rfl) ?_
  refine lv_iconst (v := 5) hx hb d_P_init_5 (by decide) ?_
  refine sb_newl hx hb (hts _ k_112) hG.1 hP hD hS hA (N := 5) rfl (by omega) (Nat.le_of_ble_eq_true rfl) (Nat.le_of_ble_eq_true rfl) d_P_init_6 (fun q_1 H hP hD hS => ?_)
  have hP : va_P D vwCl [(h, .inr (4, [.null, .null, .null, .null, .null])), (q_1, .inl (cL, 5, .inr (.inl (fun _ => 0))))] H := hP
  have hD : va_D A [(h, .inr (4, [.null, .null, .null, .null, .null])), (q_1, .inl (cL, 5, .inr (.inl (fun _ => 0))))] := hD
  refine W.widen (k := 1) (n := 5) (Nat.le_of_ble_eq_true rfl) (Nat.le_of_ble_eq_true rfl) ?_
  refine va_putF (D := D) (ci := 4) (v := .ref q_1) (ty := (.array .long)) (C := R_P) (T := F_P) (N := 5) hx hb hts in_P tq_P tq_P_ok nq_P hown hG.1 hP hD hS 0 rfl rfl 0 (by decide) (hts _ k_172) (fun _ h9 => h9) rfl hin rfl (by decide +kernel) rfl rfl (Nat.le_of_ble_eq_true rfl) d_P_init_8 (fun H locs hP hD hS => ?_)
  have hP : va_P D vwCl [(h, .inr (4, [.ref q_1, .null, .null, .null, .null])), (q_1, .inl (cL, 5, .inr (.inl (fun _ => 0))))] H := hP
  have hD : va_D A [(h, .inr (4, [.ref q_1, .null, .null, .null, .null])), (q_1, .inl (cL, 5, .inr (.inl (fun _ => 0))))] := hD
  refine lv_aload_n hx hb d_P_init_11 rfl (lv_at hl 0 rfl) ?_
  refine lv_iconst (v := 5) hx hb d_P_init_12 (by decide) ?_
  refine sb_newl hx hb (hts _ k_112) hG.1 hP hD hS hA (N := 5) rfl (by omega) (Nat.le_of_ble_eq_true rfl) (Nat.le_of_ble_eq_true rfl) d_P_init_13 (fun q_2 H hP hD hS => ?_)
  have hP : va_P D vwCl [(h, .inr (4, [.ref q_1, .null, .null, .null, .null])), (q_1, .inl (cL, 5, .inr (.inl (fun _ => 0)))), (q_2, .inl (cL, 5, .inr (.inl (fun _ => 0))))] H := hP
  have hD : va_D A [(h, .inr (4, [.ref q_1, .null, .null, .null, .null])), (q_1, .inl (cL, 5, .inr (.inl (fun _ => 0)))), (q_2, .inl (cL, 5, .inr (.inl (fun _ => 0))))] := hD
  refine W.widen (k := 2) (n := 10) (Nat.le_of_ble_eq_true rfl) (Nat.le_of_ble_eq_true rfl) ?_
  refine va_putF (D := D) (ci := 4) (v := .ref q_2) (ty := (.array .long)) (C := R_P) (T := F_P) (N := 5) hx hb hts in_P tq_P tq_P_ok nq_P hown hG.1 hP hD hS 0 rfl rfl 1 (by decide) (hts _ k_173) (fun _ h9 => h9) rfl hin rfl (by decide +kernel) rfl rfl (Nat.le_of_ble_eq_true rfl) d_P_init_15 (fun H locs hP hD hS => ?_)
  have hP : va_P D vwCl [(h, .inr (4, [.ref q_1, .ref q_2, .null, .null, .null])), (q_1, .inl (cL, 5, .inr (.inl (fun _ => 0)))), (q_2, .inl (cL, 5, .inr (.inl (fun _ => 0))))] H := hP
  have hD : va_D A [(h, .inr (4, [.ref q_1, .ref q_2, .null, .null, .null])), (q_1, .inl (cL, 5, .inr (.inl (fun _ => 0)))), (q_2, .inl (cL, 5, .inr (.inl (fun _ => 0))))] := hD
  refine lv_aload_n hx hb d_P_init_18 rfl (lv_at hl 0 rfl) ?_
  refine lv_iconst (v := 5) hx hb d_P_init_19 (by decide) ?_
  refine sb_newl hx hb (hts _ k_112) hG.1 hP hD hS hA (N := 5) rfl (by omega) (Nat.le_of_ble_eq_true rfl) (Nat.le_of_ble_eq_true rfl) d_P_init_20 (fun q_3 H hP hD hS => ?_)
  have hP : va_P D vwCl [(h, .inr (4, [.ref q_1, .ref q_2, .null, .null, .null])), (q_1, .inl (cL, 5, .inr (.inl (fun _ => 0)))), (q_2, .inl (cL, 5, .inr (.inl (fun _ => 0)))), (q_3, .inl (cL, 5, .inr (.inl (fun _ => 0))))] H := hP
  have hD : va_D A [(h, .inr (4, [.ref q_1, .ref q_2, .null, .null, .null])), (q_1, .inl (cL, 5, .inr (.inl (fun _ => 0)))), (q_2, .inl (cL, 5, .inr (.inl (fun _ => 0)))), (q_3, .inl (cL, 5, .inr (.inl (fun _ => 0))))] := hD
  refine W.widen (k := 3) (n := 15) (Nat.le_of_ble_eq_true rfl) (Nat.le_of_ble_eq_true rfl) ?_
  refine va_putF (D := D) (ci := 4) (v := .ref q_3) (ty := (.array .long)) (C := R_P) (T := F_P) (N := 5) hx hb hts in_P tq_P tq_P_ok nq_P hown hG.1 hP hD hS 0 rfl rfl 2 (by decide) (hts _ k_174) (fun _ h9 => h9) rfl hin rfl (by decide +kernel) rfl rfl (Nat.le_of_ble_eq_true rfl) d_P_init_22 (fun H locs hP hD hS => ?_)
  have hP : va_P D vwCl [(h, .inr (4, [.ref q_1, .ref q_2, .ref q_3, .null, .null])), (q_1, .inl (cL, 5, .inr (.inl (fun _ => 0)))), (q_2, .inl (cL, 5, .inr (.inl (fun _ => 0)))), (q_3, .inl (cL, 5, .inr (.inl (fun _ => 0))))] H := hP
  have hD : va_D A [(h, .inr (4, [.ref q_1, .ref q_2, .ref q_3, .null, .null])), (q_1, .inl (cL, 5, .inr (.inl (fun _ => 0)))), (q_2, .inl (cL, 5, .inr (.inl (fun _ => 0)))), (q_3, .inl (cL, 5, .inr (.inl (fun _ => 0))))] := hD
  refine lv_aload_n hx hb d_P_init_25 rfl (lv_at hl 0 rfl) ?_
  refine lv_iconst (v := 5) hx hb d_P_init_26 (by decide) ?_
  refine sb_newl hx hb (hts _ k_112) hG.1 hP hD hS hA (N := 5) rfl (by omega) (Nat.le_of_ble_eq_true rfl) (Nat.le_of_ble_eq_true rfl) d_P_init_27 (fun q_4 H hP hD hS => ?_)
  have hP : va_P D vwCl [(h, .inr (4, [.ref q_1, .ref q_2, .ref q_3, .null, .null])), (q_1, .inl (cL, 5, .inr (.inl (fun _ => 0)))), (q_2, .inl (cL, 5, .inr (.inl (fun _ => 0)))), (q_3, .inl (cL, 5, .inr (.inl (fun _ => 0)))), (q_4, .inl (cL, 5, .inr (.inl (fun _ => 0))))] H := hP
  have hD : va_D A [(h, .inr (4, [.ref q_1, .ref q_2, .ref q_3, .null, .null])), (q_1, .inl (cL, 5, .inr (.inl (fun _ => 0)))), (q_2, .inl (cL, 5, .inr (.inl (fun _ => 0)))), (q_3, .inl (cL, 5, .inr (.inl (fun _ => 0)))), (q_4, .inl (cL, 5, .inr (.inl (fun _ => 0))))] := hD
  refine W.widen (k := 4) (n := 20) (Nat.le_of_ble_eq_true rfl) (Nat.le_of_ble_eq_true rfl) ?_
  refine va_putF (D := D) (ci := 4) (v := .ref q_4) (ty := (.array .long)) (C := R_P) (T := F_P) (N := 5) hx hb hts in_P tq_P tq_P_ok nq_P hown hG.1 hP hD hS 0 rfl rfl 3 (by decide) (hts _ k_175) (fun _ h9 => h9) rfl hin rfl (by decide +kernel) rfl rfl (Nat.le_of_ble_eq_true rfl) d_P_init_29 (fun H locs hP hD hS => ?_)
  have hP : va_P D vwCl [(h, .inr (4, [.ref q_1, .ref q_2, .ref q_3, .ref q_4, .null])), (q_1, .inl (cL, 5, .inr (.inl (fun _ => 0)))), (q_2, .inl (cL, 5, .inr (.inl (fun _ => 0)))), (q_3, .inl (cL, 5, .inr (.inl (fun _ => 0)))), (q_4, .inl (cL, 5, .inr (.inl (fun _ => 0))))] H := hP
  have hD : va_D A [(h, .inr (4, [.ref q_1, .ref q_2, .ref q_3, .ref q_4, .null])), (q_1, .inl (cL, 5, .inr (.inl (fun _ => 0)))), (q_2, .inl (cL, 5, .inr (.inl (fun _ => 0)))), (q_3, .inl (cL, 5, .inr (.inl (fun _ => 0)))), (q_4, .inl (cL, 5, .inr (.inl (fun _ => 0))))] := hD
  refine lv_aload_n hx hb d_P_init_32 rfl (lv_at hl 0 rfl) ?_
  refine lv_iconst (v := 4) hx hb d_P_init_33 (by decide) ?_
  refine sb_newi hx hb (hts _ k_90) hG.1 hP hD hS hA (N := 4) rfl (by omega) (Nat.le_of_ble_eq_true rfl) (Nat.le_of_ble_eq_true rfl) d_P_init_34 (fun q_5 H hP hD hS => ?_)
  have hP : va_P D vwCl [(h, .inr (4, [.ref q_1, .ref q_2, .ref q_3, .ref q_4, .null])), (q_1, .inl (cL, 5, .inr (.inl (fun _ => 0)))), (q_2, .inl (cL, 5, .inr (.inl (fun _ => 0)))), (q_3, .inl (cL, 5, .inr (.inl (fun _ => 0)))), (q_4, .inl (cL, 5, .inr (.inl (fun _ => 0)))), (q_5, .inl (cI, 4, .inl (fun _ => 0)))] H := hP
  have hD : va_D A [(h, .inr (4, [.ref q_1, .ref q_2, .ref q_3, .ref q_4, .null])), (q_1, .inl (cL, 5, .inr (.inl (fun _ => 0)))), (q_2, .inl (cL, 5, .inr (.inl (fun _ => 0)))), (q_3, .inl (cL, 5, .inr (.inl (fun _ => 0)))), (q_4, .inl (cL, 5, .inr (.inl (fun _ => 0)))), (q_5, .inl (cI, 4, .inl (fun _ => 0)))] := hD
  refine W.widen (k := 5) (n := 24) (Nat.le_of_ble_eq_true rfl) (Nat.le_of_ble_eq_true rfl) ?_
  refine va_putF (D := D) (ci := 4) (v := .ref q_5) (ty := (.array .int)) (C := R_P) (T := F_P) (N := 5) hx hb hts in_P tq_P tq_P_ok nq_P hown hG.1 hP hD hS 0 rfl rfl 4 (by decide) (hts _ k_176) (fun _ h9 => h9) rfl hin rfl (by decide +kernel) rfl rfl (Nat.le_of_ble_eq_true rfl) d_P_init_36 (fun H locs hP hD hS => ?_)
  have hP : va_P D vwCl [(h, .inr (4, [.ref q_1, .ref q_2, .ref q_3, .ref q_4, .ref q_5])), (q_1, .inl (cL, 5, .inr (.inl (fun _ => 0)))), (q_2, .inl (cL, 5, .inr (.inl (fun _ => 0)))), (q_3, .inl (cL, 5, .inr (.inl (fun _ => 0)))), (q_4, .inl (cL, 5, .inr (.inl (fun _ => 0)))), (q_5, .inl (cI, 4, .inl (fun _ => 0)))] H := hP
  have hD : va_D A [(h, .inr (4, [.ref q_1, .ref q_2, .ref q_3, .ref q_4, .ref q_5])), (q_1, .inl (cL, 5, .inr (.inl (fun _ => 0)))), (q_2, .inl (cL, 5, .inr (.inl (fun _ => 0)))), (q_3, .inl (cL, 5, .inr (.inl (fun _ => 0)))), (q_4, .inl (cL, 5, .inr (.inl (fun _ => 0)))), (q_5, .inl (cI, 4, .inl (fun _ => 0)))] := hD
  have hP9 := hP.sub (ws' := [(h, .inr (4, [.ref q_1, .ref q_2, .ref q_3, .ref q_4, .ref q_5])), (q_1, .inl (cL, 5, .inr (.inl (fun _ => 0)))), (q_2, .inl (cL, 5, .inr (.inl (fun _ => 0)))), (q_3, .inl (cL, 5, .inr (.inl (fun _ => 0)))), (q_4, .inl (cL, 5, .inr (.inl (fun _ => 0)))), (q_5, .inl (cI, 4, .inl (fun _ => 0)))]) [0, 1, 2, 3, 4, 5] rfl
  have hD9 := hD.sub (ws' := [(h, .inr (4, [.ref q_1, .ref q_2, .ref q_3, .ref q_4, .ref q_5])), (q_1, .inl (cL, 5, .inr (.inl (fun _ => 0)))), (q_2, .inl (cL, 5, .inr (.inl (fun _ => 0)))), (q_3, .inl (cL, 5, .inr (.inl (fun _ => 0)))), (q_4, .inl (cL, 5, .inr (.inl (fun _ => 0)))), (q_5, .inl (cI, 4, .inl (fun _ => 0)))]) [0, 1, 2, 3, 4, 5] (by decide) rfl
  refine W.widen (k := 5) (n := 24) (Nat.le_of_ble_eq_true rfl) (Nat.le_of_ble_eq_true rfl) ?_
  exact W.vret hx hb hr (fun t ht hW => ⟨⟨(q_1, q_2, q_3, q_4, q_5), rfl, trivial, by rw [ht]; exact hP9, hD9⟩, hS.F ht⟩) hS.2.2 d_P_init_39

theorem d_P_addTo_0 : decode b_P_addTo 0 = .ok (.iload_n 1, 1) := by decide +kernel
theorem d_P_addTo_1 : decode b_P_addTo 1 = .ok (.i2l, 1) := by decide +kernel
theorem d_P_addTo_2 : decode b_P_addTo 2 = .ok (.ldc2_w 61, 3) := by decide +kernel
theorem d_P_addTo_5 : decode b_P_addTo 5 = .ok (.land, 1) := by decide +kernel
theorem d_P_addTo_6 : decode b_P_addTo 6 = .ok (.lstore 5, 2) := by decide +kernel
theorem d_P_addTo_8 : decode b_P_addTo 8 = .ok (.iload_n 2, 1) := by decide +kernel
theorem d_P_addTo_9 : decode b_P_addTo 9 = .ok (.i2l, 1) := by decide +kernel
theorem d_P_addTo_10 : decode b_P_addTo 10 = .ok (.ldc2_w 61, 3) := by decide +kernel
theorem d_P_addTo_13 : decode b_P_addTo 13 = .ok (.land, 1) := by decide +kernel
theorem d_P_addTo_14 : decode b_P_addTo 14 = .ok (.lstore 7, 2) := by decide +kernel
theorem d_P_addTo_16 : decode b_P_addTo 16 = .ok (.iload_n 3, 1) := by decide +kernel
theorem d_P_addTo_17 : decode b_P_addTo 17 = .ok (.i2l, 1) := by decide +kernel
theorem d_P_addTo_18 : decode b_P_addTo 18 = .ok (.ldc2_w 61, 3) := by decide +kernel
theorem d_P_addTo_21 : decode b_P_addTo 21 = .ok (.land, 1) := by decide +kernel
theorem d_P_addTo_22 : decode b_P_addTo 22 = .ok (.lstore 9, 2) := by decide +kernel
theorem d_P_addTo_24 : decode b_P_addTo 24 = .ok (.iload 4, 2) := by decide +kernel
theorem d_P_addTo_26 : decode b_P_addTo 26 = .ok (.i2l, 1) := by decide +kernel
theorem d_P_addTo_27 : decode b_P_addTo 27 = .ok (.ldc2_w 61, 3) := by decide +kernel
theorem d_P_addTo_30 : decode b_P_addTo 30 = .ok (.land, 1) := by decide +kernel
theorem d_P_addTo_31 : decode b_P_addTo 31 = .ok (.lstore 11, 2) := by decide +kernel
theorem d_P_addTo_33 : decode b_P_addTo 33 = .ok (.aload_n 0, 1) := by decide +kernel
theorem d_P_addTo_34 : decode b_P_addTo 34 = .ok (.iconst 0, 1) := by decide +kernel
theorem d_P_addTo_35 : decode b_P_addTo 35 = .ok (.dup2, 1) := by decide +kernel
theorem d_P_addTo_36 : decode b_P_addTo 36 = .ok (.laload, 1) := by decide +kernel
theorem d_P_addTo_37 : decode b_P_addTo 37 = .ok (.lload 5, 2) := by decide +kernel
theorem d_P_addTo_39 : decode b_P_addTo 39 = .ok (.ldc2_w 63, 3) := by decide +kernel
theorem d_P_addTo_42 : decode b_P_addTo 42 = .ok (.land, 1) := by decide +kernel
theorem d_P_addTo_43 : decode b_P_addTo 43 = .ok (.ladd, 1) := by decide +kernel
theorem d_P_addTo_44 : decode b_P_addTo 44 = .ok (.lastore, 1) := by decide +kernel
theorem d_P_addTo_45 : decode b_P_addTo 45 = .ok (.aload_n 0, 1) := by decide +kernel
theorem d_P_addTo_46 : decode b_P_addTo 46 = .ok (.iconst 1, 1) := by decide +kernel
theorem d_P_addTo_47 : decode b_P_addTo 47 = .ok (.dup2, 1) := by decide +kernel
theorem d_P_addTo_48 : decode b_P_addTo 48 = .ok (.laload, 1) := by decide +kernel
theorem d_P_addTo_49 : decode b_P_addTo 49 = .ok (.lload 7, 2) := by decide +kernel
theorem d_P_addTo_51 : decode b_P_addTo 51 = .ok (.bipush 32, 2) := by decide +kernel
theorem d_P_addTo_53 : decode b_P_addTo 53 = .ok (.lshl, 1) := by decide +kernel
theorem d_P_addTo_54 : decode b_P_addTo 54 = .ok (.lload 5, 2) := by decide +kernel
theorem d_P_addTo_56 : decode b_P_addTo 56 = .ok (.lor, 1) := by decide +kernel
theorem d_P_addTo_57 : decode b_P_addTo 57 = .ok (.bipush 26, 2) := by decide +kernel
theorem d_P_addTo_59 : decode b_P_addTo 59 = .ok (.lushr, 1) := by decide +kernel
theorem d_P_addTo_60 : decode b_P_addTo 60 = .ok (.ldc2_w 63, 3) := by decide +kernel
theorem d_P_addTo_63 : decode b_P_addTo 63 = .ok (.land, 1) := by decide +kernel
theorem d_P_addTo_64 : decode b_P_addTo 64 = .ok (.ladd, 1) := by decide +kernel
theorem d_P_addTo_65 : decode b_P_addTo 65 = .ok (.lastore, 1) := by decide +kernel
theorem d_P_addTo_66 : decode b_P_addTo 66 = .ok (.aload_n 0, 1) := by decide +kernel
theorem d_P_addTo_67 : decode b_P_addTo 67 = .ok (.iconst 2, 1) := by decide +kernel
theorem d_P_addTo_68 : decode b_P_addTo 68 = .ok (.dup2, 1) := by decide +kernel
theorem d_P_addTo_69 : decode b_P_addTo 69 = .ok (.laload, 1) := by decide +kernel
theorem d_P_addTo_70 : decode b_P_addTo 70 = .ok (.lload 9, 2) := by decide +kernel
theorem d_P_addTo_72 : decode b_P_addTo 72 = .ok (.bipush 32, 2) := by decide +kernel
theorem d_P_addTo_74 : decode b_P_addTo 74 = .ok (.lshl, 1) := by decide +kernel
theorem d_P_addTo_75 : decode b_P_addTo 75 = .ok (.lload 7, 2) := by decide +kernel
theorem d_P_addTo_77 : decode b_P_addTo 77 = .ok (.lor, 1) := by decide +kernel
theorem d_P_addTo_78 : decode b_P_addTo 78 = .ok (.bipush 20, 2) := by decide +kernel
theorem d_P_addTo_80 : decode b_P_addTo 80 = .ok (.lushr, 1) := by decide +kernel
theorem d_P_addTo_81 : decode b_P_addTo 81 = .ok (.ldc2_w 63, 3) := by decide +kernel
theorem d_P_addTo_84 : decode b_P_addTo 84 = .ok (.land, 1) := by decide +kernel
theorem d_P_addTo_85 : decode b_P_addTo 85 = .ok (.ladd, 1) := by decide +kernel
theorem d_P_addTo_86 : decode b_P_addTo 86 = .ok (.lastore, 1) := by decide +kernel
theorem d_P_addTo_87 : decode b_P_addTo 87 = .ok (.aload_n 0, 1) := by decide +kernel
theorem d_P_addTo_88 : decode b_P_addTo 88 = .ok (.iconst 3, 1) := by decide +kernel
theorem d_P_addTo_89 : decode b_P_addTo 89 = .ok (.dup2, 1) := by decide +kernel
theorem d_P_addTo_90 : decode b_P_addTo 90 = .ok (.laload, 1) := by decide +kernel
theorem d_P_addTo_91 : decode b_P_addTo 91 = .ok (.lload 11, 2) := by decide +kernel
theorem d_P_addTo_93 : decode b_P_addTo 93 = .ok (.bipush 32, 2) := by decide +kernel
theorem d_P_addTo_95 : decode b_P_addTo 95 = .ok (.lshl, 1) := by decide +kernel
theorem d_P_addTo_96 : decode b_P_addTo 96 = .ok (.lload 9, 2) := by decide +kernel
theorem d_P_addTo_98 : decode b_P_addTo 98 = .ok (.lor, 1) := by decide +kernel
theorem d_P_addTo_99 : decode b_P_addTo 99 = .ok (.bipush 14, 2) := by decide +kernel
theorem d_P_addTo_101 : decode b_P_addTo 101 = .ok (.lushr, 1) := by decide +kernel
theorem d_P_addTo_102 : decode b_P_addTo 102 = .ok (.ldc2_w 63, 3) := by decide +kernel
theorem d_P_addTo_105 : decode b_P_addTo 105 = .ok (.land, 1) := by decide +kernel
theorem d_P_addTo_106 : decode b_P_addTo 106 = .ok (.ladd, 1) := by decide +kernel
theorem d_P_addTo_107 : decode b_P_addTo 107 = .ok (.lastore, 1) := by decide +kernel
theorem d_P_addTo_108 : decode b_P_addTo 108 = .ok (.aload_n 0, 1) := by decide +kernel
theorem d_P_addTo_109 : decode b_P_addTo 109 = .ok (.iconst 4, 1) := by decide +kernel
theorem d_P_addTo_110 : decode b_P_addTo 110 = .ok (.dup2, 1) := by decide +kernel
theorem d_P_addTo_111 : decode b_P_addTo 111 = .ok (.laload, 1) := by decide +kernel
theorem d_P_addTo_112 : decode b_P_addTo 112 = .ok (.lload 11, 2) := by decide +kernel
theorem d_P_addTo_114 : decode b_P_addTo 114 = .ok (.bipush 8, 2) := by decide +kernel
theorem d_P_addTo_116 : decode b_P_addTo 116 = .ok (.lushr, 1) := by decide +kernel
theorem d_P_addTo_117 : decode b_P_addTo 117 = .ok (.ladd, 1) := by decide +kernel
theorem d_P_addTo_118 : decode b_P_addTo 118 = .ok (.lastore, 1) := by decide +kernel
theorem d_P_addTo_119 : decode b_P_addTo 119 = .ok (.return_, 1) := by decide +kernel

def rm_P_addTo : Room := { frames := 0, cells := 0, slots := 0, locals := 0 }
set_option maxHeartbeats 4000000 in
set_option maxRecDepth 100000 in
theorem c_P_addTo (l : Launch) (D : va_G) (cI cL cB : ClassId) (tS tF : Nat) (h : Nat) (s0 : Int64) (s1 : Int64) (s2 : Int64) (s3 : Int64) (s4 : Int64) (a : Int32) (b : Int32) (c0 : Int32) (d0 : Int32) (sz : Nat)  : Met l y_P_addTo (sbw y_P_addTo b_P_addTo 13 none) rm_P_addTo (sbPc D cI cL cB tS tF [.ref h, .int a, .int b, .int c0, .int d0] sz [(h, .inl (cL, 5, .inr (.inl (l5 s0 s1 s2 s3 s4))))]) (sbQv D (fun (_ : Unit) => True) (fun (_ : Unit) => [(h, .inl (cL, 5, .inr (.inl (l5 ((padd s0 s1 s2 s3 s4 a b c0 d0).1) ((padd s0 s1 s2 s3 s4 a b c0 d0).2.1) ((padd s0 s1 s2 s3 s4 a b c0 d0).2.2.1) ((padd s0 s1 s2 s3 s4 a b c0 d0).2.2.2.1) ((padd s0 s1 s2 s3 s4 a b c0 d0).2.2.2.2)))))]) (va_A [(h, .inl (cL, 5, .inr (.inl (l5 s0 s1 s2 s3 s4))))] sz)) 0 0 (va_A [(h, .inl (cL, 5, .inr (.inl (l5 s0 s1 s2 s3 s4))))] sz) := by
  refine sb_ofW (Qc := fun A => (sbQv D (fun (_ : Unit) => True) (fun (_ : Unit) => [(h, .inl (cL, 5, .inr (.inl (l5 ((padd s0 s1 s2 s3 s4 a b c0 d0).1) ((padd s0 s1 s2 s3 s4 a b c0 d0).2.1) ((padd s0 s1 s2 s3 s4 a b c0 d0).2.2.1) ((padd s0 s1 s2 s3 s4 a b c0 d0).2.2.2.1) ((padd s0 s1 s2 s3 s4 a b c0 d0).2.2.2.2)))))]) A)) (by decide) (Nat.le_of_ble_eq_true rfl) ?_
  intro p e s m args below meth c A ls hx hb hr hml hts hown hlocks hin hsz hP hG hD hA hS hl
  have hl : lv_has ls 13 [(0, .ref h), (1, .int a), (2, .int b), (3, .int c0), (4, .int d0)] := hl
  refine lv_iload_n hx hb d_P_addTo_0 rfl (lv_at hl 1 rfl) ?_
  refine lv_i2l (v := a.toInt64) hx hb d_P_addTo_1 rfl ?_
  refine lv_ldc2 (v := 4294967295) hx hb hown (hts (.constantLong R_P 61 4294967295) (by decide +kernel)) d_P_addTo_2 ?_
  refine lv_land hx hb d_P_addTo_5 ?_
  refine lv_topl (fun x_1 ex_1 => ?_)
  refine lv_lstore (lv' := [(5, .long x_1), (0, .ref h), (1, .int a), (2, .int b), (3, .int c0), (4, .int d0)]) hx hb d_P_addTo_6 hl (by decide) rfl (fun ls hl => ?_)
  refine lv_iload_n hx hb d_P_addTo_8 rfl (lv_at hl 3 rfl) ?_
  refine lv_i2l (v := b.toInt64) hx hb d_P_addTo_9 rfl ?_
  refine lv_ldc2 (v := 4294967295) hx hb hown (hts (.constantLong R_P 61 4294967295) (by decide +kernel)) d_P_addTo_10 ?_
  refine lv_land hx hb d_P_addTo_13 ?_
  refine lv_topl (fun x_2 ex_2 => ?_)
  refine lv_lstore (lv' := [(7, .long x_2), (5, .long x_1), (0, .ref h), (1, .int a), (2, .int b), (3, .int c0), (4, .int d0)]) hx hb d_P_addTo_14 hl (by decide) rfl (fun ls hl => ?_)
  refine lv_iload_n hx hb d_P_addTo_16 rfl (lv_at hl 5 rfl) ?_
  refine lv_i2l (v := c0.toInt64) hx hb d_P_addTo_17 rfl ?_
  refine lv_ldc2 (v := 4294967295) hx hb hown (hts (.constantLong R_P 61 4294967295) (by decide +kernel)) d_P_addTo_18 ?_
  refine lv_land hx hb d_P_addTo_21 ?_
  refine lv_topl (fun x_3 ex_3 => ?_)
  refine lv_lstore (lv' := [(9, .long x_3), (7, .long x_2), (5, .long x_1), (0, .ref h), (1, .int a), (2, .int b), (3, .int c0), (4, .int d0)]) hx hb d_P_addTo_22 hl (by decide) rfl (fun ls hl => ?_)
  refine lv_iload hx hb d_P_addTo_24 (lv_at hl 7 rfl) ?_
  refine lv_i2l (v := d0.toInt64) hx hb d_P_addTo_26 rfl ?_
  refine lv_ldc2 (v := 4294967295) hx hb hown (hts (.constantLong R_P 61 4294967295) (by decide +kernel)) d_P_addTo_27 ?_
  refine lv_land hx hb d_P_addTo_30 ?_
  refine lv_topl (fun x_4 ex_4 => ?_)
  refine lv_lstore (lv' := [(11, .long x_4), (9, .long x_3), (7, .long x_2), (5, .long x_1), (0, .ref h), (1, .int a), (2, .int b), (3, .int c0), (4, .int d0)]) hx hb d_P_addTo_31 hl (by decide) rfl (fun ls hl => ?_)
  refine lv_aload_n hx hb d_P_addTo_33 rfl (lv_at hl 4 rfl) ?_
  refine lv_iconst (v := 0) hx hb d_P_addTo_34 (by decide) ?_
  refine lv_dup2_11 hx hb d_P_addTo_35 rfl rfl ?_
  refine sb_lldv hx hb hG.1 hP 0 rfl 0 rfl (by omega) (by omega) (v := s0) rfl d_P_addTo_36 ?_
  refine lv_lload hx hb d_P_addTo_37 (lv_at hl 3 rfl) ?_
  refine lv_ldc2 (v := 67108863) hx hb hown (hts (.constantLong R_P 63 67108863) (by decide +kernel)) d_P_addTo_39 ?_
  refine lv_land hx hb d_P_addTo_42 ?_
  refine lv_ladd hx hb d_P_addTo_43 ?_
  refine lv_topl (fun x_5 ex_5 => ?_)
  refine sb_lst hx hb hG.1 hP hD hS 0 rfl 0 rfl (by omega) (by omega) d_P_addTo_44 (fun f_6 H locs ef_6 hP hD hS => ?_)
  have hP : va_P D vwCl [(h, .inl (cL, 5, .inr (.inl f_6)))] H := hP
  have hD : va_D A [(h, .inl (cL, 5, .inr (.inl f_6)))] := hD
  obtain rfl : f_6 = l5 x_5 s1 s2 s3 s4 := ef_6.trans (l5_set0 ..)
  refine lv_aload_n hx hb d_P_addTo_45 rfl (lv_at hl 4 rfl) ?_
  refine lv_iconst (v := 1) hx hb d_P_addTo_46 (by decide) ?_
  refine lv_dup2_11 hx hb d_P_addTo_47 rfl rfl ?_
  refine sb_lldv hx hb hG.1 hP 0 rfl 1 rfl (by omega) (by omega) (v := s1) rfl d_P_addTo_48 ?_
  refine lv_lload hx hb d_P_addTo_49 (lv_at hl 2 rfl) ?_
  refine lv_bipush (v := 32) hx hb d_P_addTo_51 (by decide) ?_
  refine lv_lshl (v := sL x_2 32) hx hb d_P_addTo_53 rfl ?_
  refine lv_lload hx hb d_P_addTo_54 (lv_at hl 3 rfl) ?_
  refine lv_lor hx hb d_P_addTo_56 ?_
  refine lv_bipush (v := 26) hx hb d_P_addTo_57 (by decide) ?_
  refine lv_lushr (v := uL ((sL x_2 32) ||| x_1) 26) hx hb d_P_addTo_59 rfl ?_
  refine lv_ldc2 (v := 67108863) hx hb hown (hts (.constantLong R_P 63 67108863) (by decide +kernel)) d_P_addTo_60 ?_
  refine lv_land hx hb d_P_addTo_63 ?_
  refine lv_ladd hx hb d_P_addTo_64 ?_
  refine lv_topl (fun x_7 ex_7 => ?_)
  refine sb_lst hx hb hG.1 hP hD hS 0 rfl 1 rfl (by omega) (by omega) d_P_addTo_65 (fun f_8 H locs ef_8 hP hD hS => ?_)
  have hP : va_P D vwCl [(h, .inl (cL, 5, .inr (.inl f_8)))] H := hP
  have hD : va_D A [(h, .inl (cL, 5, .inr (.inl f_8)))] := hD
  obtain rfl : f_8 = l5 x_5 x_7 s2 s3 s4 := ef_8.trans (l5_set1 ..)
  refine lv_aload_n hx hb d_P_addTo_66 rfl (lv_at hl 4 rfl) ?_
  refine lv_iconst (v := 2) hx hb d_P_addTo_67 (by decide) ?_
  refine lv_dup2_11 hx hb d_P_addTo_68 rfl rfl ?_
  refine sb_lldv hx hb hG.1 hP 0 rfl 2 rfl (by omega) (by omega) (v := s2) rfl d_P_addTo_69 ?_
  refine lv_lload hx hb d_P_addTo_70 (lv_at hl 1 rfl) ?_
  refine lv_bipush (v := 32) hx hb d_P_addTo_72 (by decide) ?_
  refine lv_lshl (v := sL x_3 32) hx hb d_P_addTo_74 rfl ?_
  refine lv_lload hx hb d_P_addTo_75 (lv_at hl 2 rfl) ?_
  refine lv_lor hx hb d_P_addTo_77 ?_
  refine lv_bipush (v := 20) hx hb d_P_addTo_78 (by decide) ?_
  refine lv_lushr (v := uL ((sL x_3 32) ||| x_2) 20) hx hb d_P_addTo_80 rfl ?_
  refine lv_ldc2 (v := 67108863) hx hb hown (hts (.constantLong R_P 63 67108863) (by decide +kernel)) d_P_addTo_81 ?_
  refine lv_land hx hb d_P_addTo_84 ?_
  refine lv_ladd hx hb d_P_addTo_85 ?_
  refine lv_topl (fun x_9 ex_9 => ?_)
  refine sb_lst hx hb hG.1 hP hD hS 0 rfl 2 rfl (by omega) (by omega) d_P_addTo_86 (fun f_10 H locs ef_10 hP hD hS => ?_)
  have hP : va_P D vwCl [(h, .inl (cL, 5, .inr (.inl f_10)))] H := hP
  have hD : va_D A [(h, .inl (cL, 5, .inr (.inl f_10)))] := hD
  obtain rfl : f_10 = l5 x_5 x_7 x_9 s3 s4 := ef_10.trans (l5_set2 ..)
  refine lv_aload_n hx hb d_P_addTo_87 rfl (lv_at hl 4 rfl) ?_
  refine lv_iconst (v := 3) hx hb d_P_addTo_88 (by decide) ?_
  refine lv_dup2_11 hx hb d_P_addTo_89 rfl rfl ?_
  refine sb_lldv hx hb hG.1 hP 0 rfl 3 rfl (by omega) (by omega) (v := s3) rfl d_P_addTo_90 ?_
  refine lv_lload hx hb d_P_addTo_91 (lv_at hl 0 rfl) ?_
  refine lv_bipush (v := 32) hx hb d_P_addTo_93 (by decide) ?_
  refine lv_lshl (v := sL x_4 32) hx hb d_P_addTo_95 rfl ?_
  refine lv_lload hx hb d_P_addTo_96 (lv_at hl 1 rfl) ?_
  refine lv_lor hx hb d_P_addTo_98 ?_
  refine lv_bipush (v := 14) hx hb d_P_addTo_99 (by decide) ?_
  refine lv_lushr (v := uL ((sL x_4 32) ||| x_3) 14) hx hb d_P_addTo_101 rfl ?_
  refine lv_ldc2 (v := 67108863) hx hb hown (hts (.constantLong R_P 63 67108863) (by decide +kernel)) d_P_addTo_102 ?_
  refine lv_land hx hb d_P_addTo_105 ?_
  refine lv_ladd hx hb d_P_addTo_106 ?_
  refine lv_topl (fun x_11 ex_11 => ?_)
  refine sb_lst hx hb hG.1 hP hD hS 0 rfl 3 rfl (by omega) (by omega) d_P_addTo_107 (fun f_12 H locs ef_12 hP hD hS => ?_)
  have hP : va_P D vwCl [(h, .inl (cL, 5, .inr (.inl f_12)))] H := hP
  have hD : va_D A [(h, .inl (cL, 5, .inr (.inl f_12)))] := hD
  obtain rfl : f_12 = l5 x_5 x_7 x_9 x_11 s4 := ef_12.trans (l5_set3 ..)
  refine lv_aload_n hx hb d_P_addTo_108 rfl (lv_at hl 4 rfl) ?_
  refine lv_iconst (v := 4) hx hb d_P_addTo_109 (by decide) ?_
  refine lv_dup2_11 hx hb d_P_addTo_110 rfl rfl ?_
  refine sb_lldv hx hb hG.1 hP 0 rfl 4 rfl (by omega) (by omega) (v := s4) rfl d_P_addTo_111 ?_
  refine lv_lload hx hb d_P_addTo_112 (lv_at hl 0 rfl) ?_
  refine lv_bipush (v := 8) hx hb d_P_addTo_114 (by decide) ?_
  refine lv_lushr (v := uL x_4 8) hx hb d_P_addTo_116 rfl ?_
  refine lv_ladd hx hb d_P_addTo_117 ?_
  refine lv_topl (fun x_13 ex_13 => ?_)
  refine sb_lst hx hb hG.1 hP hD hS 0 rfl 4 rfl (by omega) (by omega) d_P_addTo_118 (fun f_14 H locs ef_14 hP hD hS => ?_)
  have hP : va_P D vwCl [(h, .inl (cL, 5, .inr (.inl f_14)))] H := hP
  have hD : va_D A [(h, .inl (cL, 5, .inr (.inl f_14)))] := hD
  obtain rfl : f_14 = l5 x_5 x_7 x_9 x_11 x_13 := ef_14.trans (l5_set4 ..)
  subst ex_13
  subst ex_11
  subst ex_9
  subst ex_7
  subst ex_5
  subst ex_4
  subst ex_3
  subst ex_2
  subst ex_1
  have hP9 := hP.sub (ws' := [(h, .inl (cL, 5, .inr (.inl (l5 (s0 + ((a.toInt64 &&& 4294967295) &&& 67108863)) (s1 + ((uL ((sL (b.toInt64 &&& 4294967295) 32) ||| (a.toInt64 &&& 4294967295)) 26) &&& 67108863)) (s2 + ((uL ((sL (c0.toInt64 &&& 4294967295) 32) ||| (b.toInt64 &&& 4294967295)) 20) &&& 67108863)) (s3 + ((uL ((sL (d0.toInt64 &&& 4294967295) 32) ||| (c0.toInt64 &&& 4294967295)) 14) &&& 67108863)) (s4 + (uL (d0.toInt64 &&& 4294967295) 8))))))]) [0] rfl
  have hD9 := hD.sub (ws' := [(h, .inl (cL, 5, .inr (.inl (l5 (s0 + ((a.toInt64 &&& 4294967295) &&& 67108863)) (s1 + ((uL ((sL (b.toInt64 &&& 4294967295) 32) ||| (a.toInt64 &&& 4294967295)) 26) &&& 67108863)) (s2 + ((uL ((sL (c0.toInt64 &&& 4294967295) 32) ||| (b.toInt64 &&& 4294967295)) 20) &&& 67108863)) (s3 + ((uL ((sL (d0.toInt64 &&& 4294967295) 32) ||| (c0.toInt64 &&& 4294967295)) 14) &&& 67108863)) (s4 + (uL (d0.toInt64 &&& 4294967295) 8))))))]) [0] (by decide) rfl
  exact W.vret hx hb hr (fun t ht hW => ⟨⟨(), rfl, trivial, by rw [ht]; exact hP9, hD9⟩, hS.F ht⟩) hS.2.2 d_P_addTo_119

theorem d_P_productLimb_0 : decode b_P_productLimb 0 = .ok (.lconst 0, 1) := by decide +kernel
theorem d_P_productLimb_1 : decode b_P_productLimb 1 = .ok (.lstore_n 2, 1) := by decide +kernel
theorem d_P_productLimb_2 : decode b_P_productLimb 2 = .ok (.iconst 0, 1) := by decide +kernel
theorem d_P_productLimb_3 : decode b_P_productLimb 3 = .ok (.istore 4, 2) := by decide +kernel
theorem d_P_productLimb_5 : decode b_P_productLimb 5 = .ok (.iload 4, 2) := by decide +kernel
theorem d_P_productLimb_7 : decode b_P_productLimb 7 = .ok (.iload_n 1, 1) := by decide +kernel
theorem d_P_productLimb_8 : decode b_P_productLimb 8 = .ok (.if_icmp .gt 29, 3) := by decide +kernel
theorem d_P_productLimb_11 : decode b_P_productLimb 11 = .ok (.lload_n 2, 1) := by decide +kernel
theorem d_P_productLimb_12 : decode b_P_productLimb 12 = .ok (.aload_n 0, 1) := by decide +kernel
theorem d_P_productLimb_13 : decode b_P_productLimb 13 = .ok (.getfield 18, 3) := by decide +kernel
theorem d_P_productLimb_16 : decode b_P_productLimb 16 = .ok (.iload 4, 2) := by decide +kernel
theorem d_P_productLimb_18 : decode b_P_productLimb 18 = .ok (.laload, 1) := by decide +kernel
theorem d_P_productLimb_19 : decode b_P_productLimb 19 = .ok (.aload_n 0, 1) := by decide +kernel
theorem d_P_productLimb_20 : decode b_P_productLimb 20 = .ok (.getfield 9, 3) := by decide +kernel
theorem d_P_productLimb_23 : decode b_P_productLimb 23 = .ok (.iload_n 1, 1) := by decide +kernel
theorem d_P_productLimb_24 : decode b_P_productLimb 24 = .ok (.iload 4, 2) := by decide +kernel
theorem d_P_productLimb_26 : decode b_P_productLimb 26 = .ok (.isub, 1) := by decide +kernel
theorem d_P_productLimb_27 : decode b_P_productLimb 27 = .ok (.laload, 1) := by decide +kernel
theorem d_P_productLimb_28 : decode b_P_productLimb 28 = .ok (.lmul, 1) := by decide +kernel
theorem d_P_productLimb_29 : decode b_P_productLimb 29 = .ok (.ladd, 1) := by decide +kernel
theorem d_P_productLimb_30 : decode b_P_productLimb 30 = .ok (.lstore_n 2, 1) := by decide +kernel
theorem d_P_productLimb_31 : decode b_P_productLimb 31 = .ok (.iinc 4 1, 3) := by decide +kernel
theorem d_P_productLimb_34 : decode b_P_productLimb 34 = .ok (.goto (-29), 3) := by decide +kernel
theorem d_P_productLimb_37 : decode b_P_productLimb 37 = .ok (.iload_n 1, 1) := by decide +kernel
theorem d_P_productLimb_38 : decode b_P_productLimb 38 = .ok (.iconst 1, 1) := by decide +kernel
theorem d_P_productLimb_39 : decode b_P_productLimb 39 = .ok (.iadd, 1) := by decide +kernel
theorem d_P_productLimb_40 : decode b_P_productLimb 40 = .ok (.istore 4, 2) := by decide +kernel
theorem d_P_productLimb_42 : decode b_P_productLimb 42 = .ok (.iload 4, 2) := by decide +kernel
theorem d_P_productLimb_44 : decode b_P_productLimb 44 = .ok (.iconst 5, 1) := by decide +kernel
theorem d_P_productLimb_45 : decode b_P_productLimb 45 = .ok (.if_icmp .ge 31, 3) := by decide +kernel
theorem d_P_productLimb_48 : decode b_P_productLimb 48 = .ok (.lload_n 2, 1) := by decide +kernel
theorem d_P_productLimb_49 : decode b_P_productLimb 49 = .ok (.aload_n 0, 1) := by decide +kernel
theorem d_P_productLimb_50 : decode b_P_productLimb 50 = .ok (.getfield 18, 3) := by decide +kernel
theorem d_P_productLimb_53 : decode b_P_productLimb 53 = .ok (.iload 4, 2) := by decide +kernel
theorem d_P_productLimb_55 : decode b_P_productLimb 55 = .ok (.laload, 1) := by decide +kernel
theorem d_P_productLimb_56 : decode b_P_productLimb 56 = .ok (.aload_n 0, 1) := by decide +kernel
theorem d_P_productLimb_57 : decode b_P_productLimb 57 = .ok (.getfield 15, 3) := by decide +kernel
theorem d_P_productLimb_60 : decode b_P_productLimb 60 = .ok (.iload_n 1, 1) := by decide +kernel
theorem d_P_productLimb_61 : decode b_P_productLimb 61 = .ok (.iconst 5, 1) := by decide +kernel
theorem d_P_productLimb_62 : decode b_P_productLimb 62 = .ok (.iadd, 1) := by decide +kernel
theorem d_P_productLimb_63 : decode b_P_productLimb 63 = .ok (.iload 4, 2) := by decide +kernel
theorem d_P_productLimb_65 : decode b_P_productLimb 65 = .ok (.isub, 1) := by decide +kernel
theorem d_P_productLimb_66 : decode b_P_productLimb 66 = .ok (.laload, 1) := by decide +kernel
theorem d_P_productLimb_67 : decode b_P_productLimb 67 = .ok (.lmul, 1) := by decide +kernel
theorem d_P_productLimb_68 : decode b_P_productLimb 68 = .ok (.ladd, 1) := by decide +kernel
theorem d_P_productLimb_69 : decode b_P_productLimb 69 = .ok (.lstore_n 2, 1) := by decide +kernel
theorem d_P_productLimb_70 : decode b_P_productLimb 70 = .ok (.iinc 4 1, 3) := by decide +kernel
theorem d_P_productLimb_73 : decode b_P_productLimb 73 = .ok (.goto (-31), 3) := by decide +kernel
theorem d_P_productLimb_76 : decode b_P_productLimb 76 = .ok (.lload_n 2, 1) := by decide +kernel
theorem d_P_productLimb_77 : decode b_P_productLimb 77 = .ok (.lreturn, 1) := by decide +kernel

def rm_P_productLimb0 : Room := { frames := 0, cells := 0, slots := 0, locals := 0 }
set_option maxHeartbeats 4000000 in
set_option maxRecDepth 100000 in
theorem c_P_productLimb0 (l : Launch) (D : va_G) (cI cL cB : ClassId) (tS tF : Nat) (h : Nat) (q1 : Nat) (q2 : Nat) (q3 : Nat) (q4 : Nat) (q5 : Nat) (s0 : Int64) (s1 : Int64) (s2 : Int64) (s3 : Int64) (s4 : Int64) (k0 : Int64) (k1 : Int64) (k2 : Int64) (k3 : Int64) (k4 : Int64) (t0 : Int64) (t1 : Int64) (t2 : Int64) (t3 : Int64) (t4 : Int64)  : Met l y_P_productLimb (sbw y_P_productLimb b_P_productLimb 5 (some .long)) rm_P_productLimb0 (sbPr D cI cL cB tS tF [.ref h, .int (nI 0)] [(h, .inr (4, [.ref q1, .ref q2, .ref q3, .ref q4, .ref q5])), (q1, .inl (cL, 5, .inr (.inl (l5 k0 k1 k2 k3 k4)))), (q2, .inl (cL, 5, .inr (.inl (l5 t0 t1 t2 t3 t4)))), (q3, .inl (cL, 5, .inr (.inl (l5 s0 s1 s2 s3 s4))))]) (vp_Sl (fun r => r = pl0 s0 s1 s2 s3 s4 k0 k1 k2 k3 k4 t0 t1 t2 t3 t4)) 0 0 (fun _ => False) := by
  refine sb_ofR (by decide) (Nat.le_of_ble_eq_true rfl) ?_
  intro p e s m args below meth c ls hx hb hr hml hts hown hlocks hP hG hS hl
  have hl : lv_has ls 5 [(0, .ref h), (1, .int (nI 0))] := hl
  refine lv_lconst (v := 0) hx hb d_P_productLimb_0 (by decide) ?_
  refine lv_lstore_n (lv' := [(2, .long 0), (0, .ref h), (1, .int (nI 0))]) hx hb d_P_productLimb_1 rfl hl (by decide) rfl (fun ls hl => ?_)
  refine lv_iconst (v := 0) hx hb d_P_productLimb_2 (by decide) ?_
  refine lv_istore (lv' := [(4, .int 0), (2, .long 0), (0, .ref h), (1, .int (nI 0))]) hx hb d_P_productLimb_3 hl (by decide) rfl (fun ls hl => ?_)
  refine lv_iload hx hb d_P_productLimb_5 (lv_at hl 0 rfl) ?_
  refine lv_iload_n hx hb d_P_productLimb_7 rfl (lv_at hl 3 rfl) ?_
  refine lv_icmp_gt (tgt := 37) hx hb d_P_productLimb_8 (by decide) (fun c_1 => absurd c_1 (sb_gtF (a := 0) (b := 0) rfl rfl (by omega) (by omega) (by omega))) (fun c_1 => ?_)
  refine lv_lload_n hx hb d_P_productLimb_11 rfl (lv_at hl 1 rfl) ?_
  refine lv_aload_n hx hb d_P_productLimb_12 rfl (lv_at hl 2 rfl) ?_
  refine va_get (D := D) (ci := 4) (v := .ref q3) (C := R_P) (T := F_P) (N := 5) hx hb hts in_P hown hG.1 hP 0 rfl rfl 2 (by decide) (hts _ k_174) (fun _ h9 => h9) rfl d_P_productLimb_13 ?_
  refine lv_iload hx hb d_P_productLimb_16 (lv_at hl 0 rfl) ?_
  refine sb_lldv hx hb hG.1 hP 3 rfl 0 rfl (by omega) (by omega) (v := s0) rfl d_P_productLimb_18 ?_
  refine lv_aload_n hx hb d_P_productLimb_19 rfl (lv_at hl 2 rfl) ?_
  refine va_get (D := D) (ci := 4) (v := .ref q1) (C := R_P) (T := F_P) (N := 5) hx hb hts in_P hown hG.1 hP 0 rfl rfl 0 (by decide) (hts _ k_172) (fun _ h9 => h9) rfl d_P_productLimb_20 ?_
  refine lv_iload_n hx hb d_P_productLimb_23 rfl (lv_at hl 3 rfl) ?_
  refine lv_iload hx hb d_P_productLimb_24 (lv_at hl 0 rfl) ?_
  refine lv_isub hx hb d_P_productLimb_26 ?_
  refine sb_topn 0 (sb_eqn (a := 0 - 0) (b := 0) (sb_sub (a := 0) (b := 0) (by omega) rfl rfl) (by omega)) ?_
  refine sb_lldv hx hb hG.1 hP 1 rfl 0 rfl (by omega) (by omega) (v := k0) rfl d_P_productLimb_27 ?_
  refine lv_lmul hx hb d_P_productLimb_28 ?_
  refine lv_ladd hx hb d_P_productLimb_29 ?_
  refine lv_topl (fun x_2 ex_2 => ?_)
  refine lv_lstore_n (lv' := [(2, .long x_2), (4, .int 0), (0, .ref h), (1, .int (nI 0))]) hx hb d_P_productLimb_30 rfl hl (by decide) rfl (fun ls hl => ?_)
  refine lv_iinc (v := nI 1) (lv' := [(4, .int (nI 1)), (2, .long x_2), (0, .ref h), (1, .int (nI 0))]) hx hb d_P_productLimb_31 hl (k := 1) rfl (sb_inc (a := 0) (b := 1) (d := 1) rfl (by decide) (by omega)) (by decide) rfl (fun ls hl => ?_)
  refine lv_goto (tgt := 5) hx hb d_P_productLimb_34 (by decide) ?_
  refine lv_iload hx hb d_P_productLimb_5 (lv_at hl 0 rfl) ?_
  refine lv_iload_n hx hb d_P_productLimb_7 rfl (lv_at hl 3 rfl) ?_
  refine lv_icmp_gt (tgt := 37) hx hb d_P_productLimb_8 (by decide) (fun c_3 => ?_) (fun c_3 => absurd (sb_gtT (a := 1) (b := 0) rfl rfl (by omega) (by omega) (by omega)) c_3)
  refine lv_iload_n hx hb d_P_productLimb_37 rfl (lv_at hl 3 rfl) ?_
  refine lv_iconst (v := 1) hx hb d_P_productLimb_38 (by decide) ?_
  refine lv_iadd hx hb d_P_productLimb_39 ?_
  refine sb_topn 1 (sb_eqn (a := 0 + 1) (b := 1) (nI_add 0 1) (by omega)) ?_
  refine lv_istore (lv' := [(4, .int (nI 1)), (2, .long x_2), (0, .ref h), (1, .int (nI 0))]) hx hb d_P_productLimb_40 hl (by decide) rfl (fun ls hl => ?_)
  refine lv_iload hx hb d_P_productLimb_42 (lv_at hl 0 rfl) ?_
  refine lv_iconst (v := 5) hx hb d_P_productLimb_44 (by decide) ?_
  refine lv_icmp_ge (tgt := 76) hx hb d_P_productLimb_45 (by decide) (fun c_4 => absurd c_4 (sb_geF (a := 1) (b := 5) rfl rfl (by omega) (by omega) (by omega))) (fun c_4 => ?_)
  refine lv_lload_n hx hb d_P_productLimb_48 rfl (lv_at hl 1 rfl) ?_
  refine lv_aload_n hx hb d_P_productLimb_49 rfl (lv_at hl 2 rfl) ?_
  refine va_get (D := D) (ci := 4) (v := .ref q3) (C := R_P) (T := F_P) (N := 5) hx hb hts in_P hown hG.1 hP 0 rfl rfl 2 (by decide) (hts _ k_174) (fun _ h9 => h9) rfl d_P_productLimb_50 ?_
  refine lv_iload hx hb d_P_productLimb_53 (lv_at hl 0 rfl) ?_
  refine sb_lldv hx hb hG.1 hP 3 rfl 1 rfl (by omega) (by omega) (v := s1) rfl d_P_productLimb_55 ?_
  refine lv_aload_n hx hb d_P_productLimb_56 rfl (lv_at hl 2 rfl) ?_
  refine va_get (D := D) (ci := 4) (v := .ref q2) (C := R_P) (T := F_P) (N := 5) hx hb hts in_P hown hG.1 hP 0 rfl rfl 1 (by decide) (hts _ k_173) (fun _ h9 => h9) rfl d_P_productLimb_57 ?_
  refine lv_iload_n hx hb d_P_productLimb_60 rfl (lv_at hl 3 rfl) ?_
  refine lv_iconst (v := 5) hx hb d_P_productLimb_61 (by decide) ?_
  refine lv_iadd hx hb d_P_productLimb_62 ?_
  refine sb_topn 5 (sb_eqn (a := 0 + 5) (b := 5) (nI_add 0 5) (by omega)) ?_
  refine lv_iload hx hb d_P_productLimb_63 (lv_at hl 0 rfl) ?_
  refine lv_isub hx hb d_P_productLimb_65 ?_
  refine sb_topn 4 (sb_eqn (a := 5 - 1) (b := 4) (sb_sub (a := 5) (b := 1) (by omega) rfl rfl) (by omega)) ?_
  refine sb_lldv hx hb hG.1 hP 2 rfl 4 rfl (by omega) (by omega) (v := t4) rfl d_P_productLimb_66 ?_
  refine lv_lmul hx hb d_P_productLimb_67 ?_
  refine lv_ladd hx hb d_P_productLimb_68 ?_
  refine lv_topl (fun x_5 ex_5 => ?_)
  refine lv_lstore_n (lv' := [(2, .long x_5), (4, .int (nI 1)), (0, .ref h), (1, .int (nI 0))]) hx hb d_P_productLimb_69 rfl hl (by decide) rfl (fun ls hl => ?_)
  refine lv_iinc (v := nI 2) (lv' := [(4, .int (nI 2)), (2, .long x_5), (0, .ref h), (1, .int (nI 0))]) hx hb d_P_productLimb_70 hl (k := 1) rfl (sb_inc (a := 1) (b := 2) (d := 1) rfl (by decide) (by omega)) (by decide) rfl (fun ls hl => ?_)
  refine lv_goto (tgt := 42) hx hb d_P_productLimb_73 (by decide) ?_
  refine lv_iload hx hb d_P_productLimb_42 (lv_at hl 0 rfl) ?_
  refine lv_iconst (v := 5) hx hb d_P_productLimb_44 (by decide) ?_
  refine lv_icmp_ge (tgt := 76) hx hb d_P_productLimb_45 (by decide) (fun c_6 => absurd c_6 (sb_geF (a := 2) (b := 5) rfl rfl (by omega) (by omega) (by omega))) (fun c_6 => ?_)
  refine lv_lload_n hx hb d_P_productLimb_48 rfl (lv_at hl 1 rfl) ?_
  refine lv_aload_n hx hb d_P_productLimb_49 rfl (lv_at hl 2 rfl) ?_
  refine va_get (D := D) (ci := 4) (v := .ref q3) (C := R_P) (T := F_P) (N := 5) hx hb hts in_P hown hG.1 hP 0 rfl rfl 2 (by decide) (hts _ k_174) (fun _ h9 => h9) rfl d_P_productLimb_50 ?_
  refine lv_iload hx hb d_P_productLimb_53 (lv_at hl 0 rfl) ?_
  refine sb_lldv hx hb hG.1 hP 3 rfl 2 rfl (by omega) (by omega) (v := s2) rfl d_P_productLimb_55 ?_
  refine lv_aload_n hx hb d_P_productLimb_56 rfl (lv_at hl 2 rfl) ?_
  refine va_get (D := D) (ci := 4) (v := .ref q2) (C := R_P) (T := F_P) (N := 5) hx hb hts in_P hown hG.1 hP 0 rfl rfl 1 (by decide) (hts _ k_173) (fun _ h9 => h9) rfl d_P_productLimb_57 ?_
  refine lv_iload_n hx hb d_P_productLimb_60 rfl (lv_at hl 3 rfl) ?_
  refine lv_iconst (v := 5) hx hb d_P_productLimb_61 (by decide) ?_
  refine lv_iadd hx hb d_P_productLimb_62 ?_
  refine sb_topn 5 (sb_eqn (a := 0 + 5) (b := 5) (nI_add 0 5) (by omega)) ?_
  refine lv_iload hx hb d_P_productLimb_63 (lv_at hl 0 rfl) ?_
  refine lv_isub hx hb d_P_productLimb_65 ?_
  refine sb_topn 3 (sb_eqn (a := 5 - 2) (b := 3) (sb_sub (a := 5) (b := 2) (by omega) rfl rfl) (by omega)) ?_
  refine sb_lldv hx hb hG.1 hP 2 rfl 3 rfl (by omega) (by omega) (v := t3) rfl d_P_productLimb_66 ?_
  refine lv_lmul hx hb d_P_productLimb_67 ?_
  refine lv_ladd hx hb d_P_productLimb_68 ?_
  refine lv_topl (fun x_7 ex_7 => ?_)
  refine lv_lstore_n (lv' := [(2, .long x_7), (4, .int (nI 2)), (0, .ref h), (1, .int (nI 0))]) hx hb d_P_productLimb_69 rfl hl (by decide) rfl (fun ls hl => ?_)
  refine lv_iinc (v := nI 3) (lv' := [(4, .int (nI 3)), (2, .long x_7), (0, .ref h), (1, .int (nI 0))]) hx hb d_P_productLimb_70 hl (k := 1) rfl (sb_inc (a := 2) (b := 3) (d := 1) rfl (by decide) (by omega)) (by decide) rfl (fun ls hl => ?_)
  refine lv_goto (tgt := 42) hx hb d_P_productLimb_73 (by decide) ?_
  refine lv_iload hx hb d_P_productLimb_42 (lv_at hl 0 rfl) ?_
  refine lv_iconst (v := 5) hx hb d_P_productLimb_44 (by decide) ?_
  refine lv_icmp_ge (tgt := 76) hx hb d_P_productLimb_45 (by decide) (fun c_8 => absurd c_8 (sb_geF (a := 3) (b := 5) rfl rfl (by omega) (by omega) (by omega))) (fun c_8 => ?_)
  refine lv_lload_n hx hb d_P_productLimb_48 rfl (lv_at hl 1 rfl) ?_
  refine lv_aload_n hx hb d_P_productLimb_49 rfl (lv_at hl 2 rfl) ?_
  refine va_get (D := D) (ci := 4) (v := .ref q3) (C := R_P) (T := F_P) (N := 5) hx hb hts in_P hown hG.1 hP 0 rfl rfl 2 (by decide) (hts _ k_174) (fun _ h9 => h9) rfl d_P_productLimb_50 ?_
  refine lv_iload hx hb d_P_productLimb_53 (lv_at hl 0 rfl) ?_
  refine sb_lldv hx hb hG.1 hP 3 rfl 3 rfl (by omega) (by omega) (v := s3) rfl d_P_productLimb_55 ?_
  refine lv_aload_n hx hb d_P_productLimb_56 rfl (lv_at hl 2 rfl) ?_
  refine va_get (D := D) (ci := 4) (v := .ref q2) (C := R_P) (T := F_P) (N := 5) hx hb hts in_P hown hG.1 hP 0 rfl rfl 1 (by decide) (hts _ k_173) (fun _ h9 => h9) rfl d_P_productLimb_57 ?_
  refine lv_iload_n hx hb d_P_productLimb_60 rfl (lv_at hl 3 rfl) ?_
  refine lv_iconst (v := 5) hx hb d_P_productLimb_61 (by decide) ?_
  refine lv_iadd hx hb d_P_productLimb_62 ?_
  refine sb_topn 5 (sb_eqn (a := 0 + 5) (b := 5) (nI_add 0 5) (by omega)) ?_
  refine lv_iload hx hb d_P_productLimb_63 (lv_at hl 0 rfl) ?_
  refine lv_isub hx hb d_P_productLimb_65 ?_
  refine sb_topn 2 (sb_eqn (a := 5 - 3) (b := 2) (sb_sub (a := 5) (b := 3) (by omega) rfl rfl) (by omega)) ?_
  refine sb_lldv hx hb hG.1 hP 2 rfl 2 rfl (by omega) (by omega) (v := t2) rfl d_P_productLimb_66 ?_
  refine lv_lmul hx hb d_P_productLimb_67 ?_
  refine lv_ladd hx hb d_P_productLimb_68 ?_
  refine lv_topl (fun x_9 ex_9 => ?_)
  refine lv_lstore_n (lv' := [(2, .long x_9), (4, .int (nI 3)), (0, .ref h), (1, .int (nI 0))]) hx hb d_P_productLimb_69 rfl hl (by decide) rfl (fun ls hl => ?_)
  refine lv_iinc (v := nI 4) (lv' := [(4, .int (nI 4)), (2, .long x_9), (0, .ref h), (1, .int (nI 0))]) hx hb d_P_productLimb_70 hl (k := 1) rfl (sb_inc (a := 3) (b := 4) (d := 1) rfl (by decide) (by omega)) (by decide) rfl (fun ls hl => ?_)
  refine lv_goto (tgt := 42) hx hb d_P_productLimb_73 (by decide) ?_
  refine lv_iload hx hb d_P_productLimb_42 (lv_at hl 0 rfl) ?_
  refine lv_iconst (v := 5) hx hb d_P_productLimb_44 (by decide) ?_
  refine lv_icmp_ge (tgt := 76) hx hb d_P_productLimb_45 (by decide) (fun c_10 => absurd c_10 (sb_geF (a := 4) (b := 5) rfl rfl (by omega) (by omega) (by omega))) (fun c_10 => ?_)
  refine lv_lload_n hx hb d_P_productLimb_48 rfl (lv_at hl 1 rfl) ?_
  refine lv_aload_n hx hb d_P_productLimb_49 rfl (lv_at hl 2 rfl) ?_
  refine va_get (D := D) (ci := 4) (v := .ref q3) (C := R_P) (T := F_P) (N := 5) hx hb hts in_P hown hG.1 hP 0 rfl rfl 2 (by decide) (hts _ k_174) (fun _ h9 => h9) rfl d_P_productLimb_50 ?_
  refine lv_iload hx hb d_P_productLimb_53 (lv_at hl 0 rfl) ?_
  refine sb_lldv hx hb hG.1 hP 3 rfl 4 rfl (by omega) (by omega) (v := s4) rfl d_P_productLimb_55 ?_
  refine lv_aload_n hx hb d_P_productLimb_56 rfl (lv_at hl 2 rfl) ?_
  refine va_get (D := D) (ci := 4) (v := .ref q2) (C := R_P) (T := F_P) (N := 5) hx hb hts in_P hown hG.1 hP 0 rfl rfl 1 (by decide) (hts _ k_173) (fun _ h9 => h9) rfl d_P_productLimb_57 ?_
  refine lv_iload_n hx hb d_P_productLimb_60 rfl (lv_at hl 3 rfl) ?_
  refine lv_iconst (v := 5) hx hb d_P_productLimb_61 (by decide) ?_
  refine lv_iadd hx hb d_P_productLimb_62 ?_
  refine sb_topn 5 (sb_eqn (a := 0 + 5) (b := 5) (nI_add 0 5) (by omega)) ?_
  refine lv_iload hx hb d_P_productLimb_63 (lv_at hl 0 rfl) ?_
  refine lv_isub hx hb d_P_productLimb_65 ?_
  refine sb_topn 1 (sb_eqn (a := 5 - 4) (b := 1) (sb_sub (a := 5) (b := 4) (by omega) rfl rfl) (by omega)) ?_
  refine sb_lldv hx hb hG.1 hP 2 rfl 1 rfl (by omega) (by omega) (v := t1) rfl d_P_productLimb_66 ?_
  refine lv_lmul hx hb d_P_productLimb_67 ?_
  refine lv_ladd hx hb d_P_productLimb_68 ?_
  refine lv_topl (fun x_11 ex_11 => ?_)
  refine lv_lstore_n (lv' := [(2, .long x_11), (4, .int (nI 4)), (0, .ref h), (1, .int (nI 0))]) hx hb d_P_productLimb_69 rfl hl (by decide) rfl (fun ls hl => ?_)
  refine lv_iinc (v := nI 5) (lv' := [(4, .int (nI 5)), (2, .long x_11), (0, .ref h), (1, .int (nI 0))]) hx hb d_P_productLimb_70 hl (k := 1) rfl (sb_inc (a := 4) (b := 5) (d := 1) rfl (by decide) (by omega)) (by decide) rfl (fun ls hl => ?_)
  refine lv_goto (tgt := 42) hx hb d_P_productLimb_73 (by decide) ?_
  refine lv_iload hx hb d_P_productLimb_42 (lv_at hl 0 rfl) ?_
  refine lv_iconst (v := 5) hx hb d_P_productLimb_44 (by decide) ?_
  refine lv_icmp_ge (tgt := 76) hx hb d_P_productLimb_45 (by decide) (fun c_12 => ?_) (fun c_12 => absurd (sb_geT (a := 5) (b := 5) rfl rfl (by omega) (by omega) (by omega)) c_12)
  refine lv_lload_n hx hb d_P_productLimb_76 rfl (lv_at hl 1 rfl) ?_
  exact W.lret (v := x_11) hx hb hr (fun t ht hW => ⟨_, rfl, (by subst_vars; rfl), ht⟩) hS.2.2 d_P_productLimb_77

def rm_P_productLimb1 : Room := { frames := 0, cells := 0, slots := 0, locals := 0 }
set_option maxHeartbeats 4000000 in
set_option maxRecDepth 100000 in
theorem c_P_productLimb1 (l : Launch) (D : va_G) (cI cL cB : ClassId) (tS tF : Nat) (h : Nat) (q1 : Nat) (q2 : Nat) (q3 : Nat) (q4 : Nat) (q5 : Nat) (s0 : Int64) (s1 : Int64) (s2 : Int64) (s3 : Int64) (s4 : Int64) (k0 : Int64) (k1 : Int64) (k2 : Int64) (k3 : Int64) (k4 : Int64) (t0 : Int64) (t1 : Int64) (t2 : Int64) (t3 : Int64) (t4 : Int64)  : Met l y_P_productLimb (sbw y_P_productLimb b_P_productLimb 5 (some .long)) rm_P_productLimb1 (sbPr D cI cL cB tS tF [.ref h, .int (nI 1)] [(h, .inr (4, [.ref q1, .ref q2, .ref q3, .ref q4, .ref q5])), (q1, .inl (cL, 5, .inr (.inl (l5 k0 k1 k2 k3 k4)))), (q2, .inl (cL, 5, .inr (.inl (l5 t0 t1 t2 t3 t4)))), (q3, .inl (cL, 5, .inr (.inl (l5 s0 s1 s2 s3 s4))))]) (vp_Sl (fun r => r = pl1 s0 s1 s2 s3 s4 k0 k1 k2 k3 k4 t0 t1 t2 t3 t4)) 0 0 (fun _ => False) := by
  refine sb_ofR (by decide) (Nat.le_of_ble_eq_true rfl) ?_
  intro p e s m args below meth c ls hx hb hr hml hts hown hlocks hP hG hS hl
  have hl : lv_has ls 5 [(0, .ref h), (1, .int (nI 1))] := hl
  refine lv_lconst (v := 0) hx hb d_P_productLimb_0 (by decide) ?_
  refine lv_lstore_n (lv' := [(2, .long 0), (0, .ref h), (1, .int (nI 1))]) hx hb d_P_productLimb_1 rfl hl (by decide) rfl (fun ls hl => ?_)
  refine lv_iconst (v := 0) hx hb d_P_productLimb_2 (by decide) ?_
  refine lv_istore (lv' := [(4, .int 0), (2, .long 0), (0, .ref h), (1, .int (nI 1))]) hx hb d_P_productLimb_3 hl (by decide) rfl (fun ls hl => ?_)
  refine lv_iload hx hb d_P_productLimb_5 (lv_at hl 0 rfl) ?_
  refine lv_iload_n hx hb d_P_productLimb_7 rfl (lv_at hl 3 rfl) ?_
  refine lv_icmp_gt (tgt := 37) hx hb d_P_productLimb_8 (by decide) (fun c_1 => absurd c_1 (sb_gtF (a := 0) (b := 1) rfl rfl (by omega) (by omega) (by omega))) (fun c_1 => ?_)
  refine lv_lload_n hx hb d_P_productLimb_11 rfl (lv_at hl 1 rfl) ?_
  refine lv_aload_n hx hb d_P_productLimb_12 rfl (lv_at hl 2 rfl) ?_
  refine va_get (D := D) (ci := 4) (v := .ref q3) (C := R_P) (T := F_P) (N := 5) hx hb hts in_P hown hG.1 hP 0 rfl rfl 2 (by decide) (hts _ k_174) (fun _ h9 => h9) rfl d_P_productLimb_13 ?_
  refine lv_iload hx hb d_P_productLimb_16 (lv_at hl 0 rfl) ?_
  refine sb_lldv hx hb hG.1 hP 3 rfl 0 rfl (by omega) (by omega) (v := s0) rfl d_P_productLimb_18 ?_
  refine lv_aload_n hx hb d_P_productLimb_19 rfl (lv_at hl 2 rfl) ?_
  refine va_get (D := D) (ci := 4) (v := .ref q1) (C := R_P) (T := F_P) (N := 5) hx hb hts in_P hown hG.1 hP 0 rfl rfl 0 (by decide) (hts _ k_172) (fun _ h9 => h9) rfl d_P_productLimb_20 ?_
  refine lv_iload_n hx hb d_P_productLimb_23 rfl (lv_at hl 3 rfl) ?_
  refine lv_iload hx hb d_P_productLimb_24 (lv_at hl 0 rfl) ?_
  refine lv_isub hx hb d_P_productLimb_26 ?_
  refine sb_topn 1 (sb_eqn (a := 1 - 0) (b := 1) (sb_sub (a := 1) (b := 0) (by omega) rfl rfl) (by omega)) ?_
  refine sb_lldv hx hb hG.1 hP 1 rfl 1 rfl (by omega) (by omega) (v := k1) rfl d_P_productLimb_27 ?_
  refine lv_lmul hx hb d_P_productLimb_28 ?_
  refine lv_ladd hx hb d_P_productLimb_29 ?_
  refine lv_topl (fun x_2 ex_2 => ?_)
  refine lv_lstore_n (lv' := [(2, .long x_2), (4, .int 0), (0, .ref h), (1, .int (nI 1))]) hx hb d_P_productLimb_30 rfl hl (by decide) rfl (fun ls hl => ?_)
  refine lv_iinc (v := nI 1) (lv' := [(4, .int (nI 1)), (2, .long x_2), (0, .ref h), (1, .int (nI 1))]) hx hb d_P_productLimb_31 hl (k := 1) rfl (sb_inc (a := 0) (b := 1) (d := 1) rfl (by decide) (by omega)) (by decide) rfl (fun ls hl => ?_)
  refine lv_goto (tgt := 5) hx hb d_P_productLimb_34 (by decide) ?_
  refine lv_iload hx hb d_P_productLimb_5 (lv_at hl 0 rfl) ?_
  refine lv_iload_n hx hb d_P_productLimb_7 rfl (lv_at hl 3 rfl) ?_
  refine lv_icmp_gt (tgt := 37) hx hb d_P_productLimb_8 (by decide) (fun c_3 => absurd c_3 (sb_gtF (a := 1) (b := 1) rfl rfl (by omega) (by omega) (by omega))) (fun c_3 => ?_)
  refine lv_lload_n hx hb d_P_productLimb_11 rfl (lv_at hl 1 rfl) ?_
  refine lv_aload_n hx hb d_P_productLimb_12 rfl (lv_at hl 2 rfl) ?_
  refine va_get (D := D) (ci := 4) (v := .ref q3) (C := R_P) (T := F_P) (N := 5) hx hb hts in_P hown hG.1 hP 0 rfl rfl 2 (by decide) (hts _ k_174) (fun _ h9 => h9) rfl d_P_productLimb_13 ?_
  refine lv_iload hx hb d_P_productLimb_16 (lv_at hl 0 rfl) ?_
  refine sb_lldv hx hb hG.1 hP 3 rfl 1 rfl (by omega) (by omega) (v := s1) rfl d_P_productLimb_18 ?_
  refine lv_aload_n hx hb d_P_productLimb_19 rfl (lv_at hl 2 rfl) ?_
  refine va_get (D := D) (ci := 4) (v := .ref q1) (C := R_P) (T := F_P) (N := 5) hx hb hts in_P hown hG.1 hP 0 rfl rfl 0 (by decide) (hts _ k_172) (fun _ h9 => h9) rfl d_P_productLimb_20 ?_
  refine lv_iload_n hx hb d_P_productLimb_23 rfl (lv_at hl 3 rfl) ?_
  refine lv_iload hx hb d_P_productLimb_24 (lv_at hl 0 rfl) ?_
  refine lv_isub hx hb d_P_productLimb_26 ?_
  refine sb_topn 0 (sb_eqn (a := 1 - 1) (b := 0) (sb_sub (a := 1) (b := 1) (by omega) rfl rfl) (by omega)) ?_
  refine sb_lldv hx hb hG.1 hP 1 rfl 0 rfl (by omega) (by omega) (v := k0) rfl d_P_productLimb_27 ?_
  refine lv_lmul hx hb d_P_productLimb_28 ?_
  refine lv_ladd hx hb d_P_productLimb_29 ?_
  refine lv_topl (fun x_4 ex_4 => ?_)
  refine lv_lstore_n (lv' := [(2, .long x_4), (4, .int (nI 1)), (0, .ref h), (1, .int (nI 1))]) hx hb d_P_productLimb_30 rfl hl (by decide) rfl (fun ls hl => ?_)
  refine lv_iinc (v := nI 2) (lv' := [(4, .int (nI 2)), (2, .long x_4), (0, .ref h), (1, .int (nI 1))]) hx hb d_P_productLimb_31 hl (k := 1) rfl (sb_inc (a := 1) (b := 2) (d := 1) rfl (by decide) (by omega)) (by decide) rfl (fun ls hl => ?_)
  refine lv_goto (tgt := 5) hx hb d_P_productLimb_34 (by decide) ?_
  refine lv_iload hx hb d_P_productLimb_5 (lv_at hl 0 rfl) ?_
  refine lv_iload_n hx hb d_P_productLimb_7 rfl (lv_at hl 3 rfl) ?_
  refine lv_icmp_gt (tgt := 37) hx hb d_P_productLimb_8 (by decide) (fun c_5 => ?_) (fun c_5 => absurd (sb_gtT (a := 2) (b := 1) rfl rfl (by omega) (by omega) (by omega)) c_5)
  refine lv_iload_n hx hb d_P_productLimb_37 rfl (lv_at hl 3 rfl) ?_
  refine lv_iconst (v := 1) hx hb d_P_productLimb_38 (by decide) ?_
  refine lv_iadd hx hb d_P_productLimb_39 ?_
  refine sb_topn 2 (sb_eqn (a := 1 + 1) (b := 2) (nI_add 1 1) (by omega)) ?_
  refine lv_istore (lv' := [(4, .int (nI 2)), (2, .long x_4), (0, .ref h), (1, .int (nI 1))]) hx hb d_P_productLimb_40 hl (by decide) rfl (fun ls hl => ?_)
  refine lv_iload hx hb d_P_productLimb_42 (lv_at hl 0 rfl) ?_
  refine lv_iconst (v := 5) hx hb d_P_productLimb_44 (by decide) ?_
  refine lv_icmp_ge (tgt := 76) hx hb d_P_productLimb_45 (by decide) (fun c_6 => absurd c_6 (sb_geF (a := 2) (b := 5) rfl rfl (by omega) (by omega) (by omega))) (fun c_6 => ?_)
  refine lv_lload_n hx hb d_P_productLimb_48 rfl (lv_at hl 1 rfl) ?_
  refine lv_aload_n hx hb d_P_productLimb_49 rfl (lv_at hl 2 rfl) ?_
  refine va_get (D := D) (ci := 4) (v := .ref q3) (C := R_P) (T := F_P) (N := 5) hx hb hts in_P hown hG.1 hP 0 rfl rfl 2 (by decide) (hts _ k_174) (fun _ h9 => h9) rfl d_P_productLimb_50 ?_
  refine lv_iload hx hb d_P_productLimb_53 (lv_at hl 0 rfl) ?_
  refine sb_lldv hx hb hG.1 hP 3 rfl 2 rfl (by omega) (by omega) (v := s2) rfl d_P_productLimb_55 ?_
  refine lv_aload_n hx hb d_P_productLimb_56 rfl (lv_at hl 2 rfl) ?_
  refine va_get (D := D) (ci := 4) (v := .ref q2) (C := R_P) (T := F_P) (N := 5) hx hb hts in_P hown hG.1 hP 0 rfl rfl 1 (by decide) (hts _ k_173) (fun _ h9 => h9) rfl d_P_productLimb_57 ?_
  refine lv_iload_n hx hb d_P_productLimb_60 rfl (lv_at hl 3 rfl) ?_
  refine lv_iconst (v := 5) hx hb d_P_productLimb_61 (by decide) ?_
  refine lv_iadd hx hb d_P_productLimb_62 ?_
  refine sb_topn 6 (sb_eqn (a := 1 + 5) (b := 6) (nI_add 1 5) (by omega)) ?_
  refine lv_iload hx hb d_P_productLimb_63 (lv_at hl 0 rfl) ?_
  refine lv_isub hx hb d_P_productLimb_65 ?_
  refine sb_topn 4 (sb_eqn (a := 6 - 2) (b := 4) (sb_sub (a := 6) (b := 2) (by omega) rfl rfl) (by omega)) ?_
  refine sb_lldv hx hb hG.1 hP 2 rfl 4 rfl (by omega) (by omega) (v := t4) rfl d_P_productLimb_66 ?_
  refine lv_lmul hx hb d_P_productLimb_67 ?_
  refine lv_ladd hx hb d_P_productLimb_68 ?_
  refine lv_topl (fun x_7 ex_7 => ?_)
  refine lv_lstore_n (lv' := [(2, .long x_7), (4, .int (nI 2)), (0, .ref h), (1, .int (nI 1))]) hx hb d_P_productLimb_69 rfl hl (by decide) rfl (fun ls hl => ?_)
  refine lv_iinc (v := nI 3) (lv' := [(4, .int (nI 3)), (2, .long x_7), (0, .ref h), (1, .int (nI 1))]) hx hb d_P_productLimb_70 hl (k := 1) rfl (sb_inc (a := 2) (b := 3) (d := 1) rfl (by decide) (by omega)) (by decide) rfl (fun ls hl => ?_)
  refine lv_goto (tgt := 42) hx hb d_P_productLimb_73 (by decide) ?_
  refine lv_iload hx hb d_P_productLimb_42 (lv_at hl 0 rfl) ?_
  refine lv_iconst (v := 5) hx hb d_P_productLimb_44 (by decide) ?_
  refine lv_icmp_ge (tgt := 76) hx hb d_P_productLimb_45 (by decide) (fun c_8 => absurd c_8 (sb_geF (a := 3) (b := 5) rfl rfl (by omega) (by omega) (by omega))) (fun c_8 => ?_)
  refine lv_lload_n hx hb d_P_productLimb_48 rfl (lv_at hl 1 rfl) ?_
  refine lv_aload_n hx hb d_P_productLimb_49 rfl (lv_at hl 2 rfl) ?_
  refine va_get (D := D) (ci := 4) (v := .ref q3) (C := R_P) (T := F_P) (N := 5) hx hb hts in_P hown hG.1 hP 0 rfl rfl 2 (by decide) (hts _ k_174) (fun _ h9 => h9) rfl d_P_productLimb_50 ?_
  refine lv_iload hx hb d_P_productLimb_53 (lv_at hl 0 rfl) ?_
  refine sb_lldv hx hb hG.1 hP 3 rfl 3 rfl (by omega) (by omega) (v := s3) rfl d_P_productLimb_55 ?_
  refine lv_aload_n hx hb d_P_productLimb_56 rfl (lv_at hl 2 rfl) ?_
  refine va_get (D := D) (ci := 4) (v := .ref q2) (C := R_P) (T := F_P) (N := 5) hx hb hts in_P hown hG.1 hP 0 rfl rfl 1 (by decide) (hts _ k_173) (fun _ h9 => h9) rfl d_P_productLimb_57 ?_
  refine lv_iload_n hx hb d_P_productLimb_60 rfl (lv_at hl 3 rfl) ?_
  refine lv_iconst (v := 5) hx hb d_P_productLimb_61 (by decide) ?_
  refine lv_iadd hx hb d_P_productLimb_62 ?_
  refine sb_topn 6 (sb_eqn (a := 1 + 5) (b := 6) (nI_add 1 5) (by omega)) ?_
  refine lv_iload hx hb d_P_productLimb_63 (lv_at hl 0 rfl) ?_
  refine lv_isub hx hb d_P_productLimb_65 ?_
  refine sb_topn 3 (sb_eqn (a := 6 - 3) (b := 3) (sb_sub (a := 6) (b := 3) (by omega) rfl rfl) (by omega)) ?_
  refine sb_lldv hx hb hG.1 hP 2 rfl 3 rfl (by omega) (by omega) (v := t3) rfl d_P_productLimb_66 ?_
  refine lv_lmul hx hb d_P_productLimb_67 ?_
  refine lv_ladd hx hb d_P_productLimb_68 ?_
  refine lv_topl (fun x_9 ex_9 => ?_)
  refine lv_lstore_n (lv' := [(2, .long x_9), (4, .int (nI 3)), (0, .ref h), (1, .int (nI 1))]) hx hb d_P_productLimb_69 rfl hl (by decide) rfl (fun ls hl => ?_)
  refine lv_iinc (v := nI 4) (lv' := [(4, .int (nI 4)), (2, .long x_9), (0, .ref h), (1, .int (nI 1))]) hx hb d_P_productLimb_70 hl (k := 1) rfl (sb_inc (a := 3) (b := 4) (d := 1) rfl (by decide) (by omega)) (by decide) rfl (fun ls hl => ?_)
  refine lv_goto (tgt := 42) hx hb d_P_productLimb_73 (by decide) ?_
  refine lv_iload hx hb d_P_productLimb_42 (lv_at hl 0 rfl) ?_
  refine lv_iconst (v := 5) hx hb d_P_productLimb_44 (by decide) ?_
  refine lv_icmp_ge (tgt := 76) hx hb d_P_productLimb_45 (by decide) (fun c_10 => absurd c_10 (sb_geF (a := 4) (b := 5) rfl rfl (by omega) (by omega) (by omega))) (fun c_10 => ?_)
  refine lv_lload_n hx hb d_P_productLimb_48 rfl (lv_at hl 1 rfl) ?_
  refine lv_aload_n hx hb d_P_productLimb_49 rfl (lv_at hl 2 rfl) ?_
  refine va_get (D := D) (ci := 4) (v := .ref q3) (C := R_P) (T := F_P) (N := 5) hx hb hts in_P hown hG.1 hP 0 rfl rfl 2 (by decide) (hts _ k_174) (fun _ h9 => h9) rfl d_P_productLimb_50 ?_
  refine lv_iload hx hb d_P_productLimb_53 (lv_at hl 0 rfl) ?_
  refine sb_lldv hx hb hG.1 hP 3 rfl 4 rfl (by omega) (by omega) (v := s4) rfl d_P_productLimb_55 ?_
  refine lv_aload_n hx hb d_P_productLimb_56 rfl (lv_at hl 2 rfl) ?_
  refine va_get (D := D) (ci := 4) (v := .ref q2) (C := R_P) (T := F_P) (N := 5) hx hb hts in_P hown hG.1 hP 0 rfl rfl 1 (by decide) (hts _ k_173) (fun _ h9 => h9) rfl d_P_productLimb_57 ?_
  refine lv_iload_n hx hb d_P_productLimb_60 rfl (lv_at hl 3 rfl) ?_
  refine lv_iconst (v := 5) hx hb d_P_productLimb_61 (by decide) ?_
  refine lv_iadd hx hb d_P_productLimb_62 ?_
  refine sb_topn 6 (sb_eqn (a := 1 + 5) (b := 6) (nI_add 1 5) (by omega)) ?_
  refine lv_iload hx hb d_P_productLimb_63 (lv_at hl 0 rfl) ?_
  refine lv_isub hx hb d_P_productLimb_65 ?_
  refine sb_topn 2 (sb_eqn (a := 6 - 4) (b := 2) (sb_sub (a := 6) (b := 4) (by omega) rfl rfl) (by omega)) ?_
  refine sb_lldv hx hb hG.1 hP 2 rfl 2 rfl (by omega) (by omega) (v := t2) rfl d_P_productLimb_66 ?_
  refine lv_lmul hx hb d_P_productLimb_67 ?_
  refine lv_ladd hx hb d_P_productLimb_68 ?_
  refine lv_topl (fun x_11 ex_11 => ?_)
  refine lv_lstore_n (lv' := [(2, .long x_11), (4, .int (nI 4)), (0, .ref h), (1, .int (nI 1))]) hx hb d_P_productLimb_69 rfl hl (by decide) rfl (fun ls hl => ?_)
  refine lv_iinc (v := nI 5) (lv' := [(4, .int (nI 5)), (2, .long x_11), (0, .ref h), (1, .int (nI 1))]) hx hb d_P_productLimb_70 hl (k := 1) rfl (sb_inc (a := 4) (b := 5) (d := 1) rfl (by decide) (by omega)) (by decide) rfl (fun ls hl => ?_)
  refine lv_goto (tgt := 42) hx hb d_P_productLimb_73 (by decide) ?_
  refine lv_iload hx hb d_P_productLimb_42 (lv_at hl 0 rfl) ?_
  refine lv_iconst (v := 5) hx hb d_P_productLimb_44 (by decide) ?_
  refine lv_icmp_ge (tgt := 76) hx hb d_P_productLimb_45 (by decide) (fun c_12 => ?_) (fun c_12 => absurd (sb_geT (a := 5) (b := 5) rfl rfl (by omega) (by omega) (by omega)) c_12)
  refine lv_lload_n hx hb d_P_productLimb_76 rfl (lv_at hl 1 rfl) ?_
  exact W.lret (v := x_11) hx hb hr (fun t ht hW => ⟨_, rfl, (by subst_vars; rfl), ht⟩) hS.2.2 d_P_productLimb_77

def rm_P_productLimb2 : Room := { frames := 0, cells := 0, slots := 0, locals := 0 }
set_option maxHeartbeats 4000000 in
set_option maxRecDepth 100000 in
theorem c_P_productLimb2 (l : Launch) (D : va_G) (cI cL cB : ClassId) (tS tF : Nat) (h : Nat) (q1 : Nat) (q2 : Nat) (q3 : Nat) (q4 : Nat) (q5 : Nat) (s0 : Int64) (s1 : Int64) (s2 : Int64) (s3 : Int64) (s4 : Int64) (k0 : Int64) (k1 : Int64) (k2 : Int64) (k3 : Int64) (k4 : Int64) (t0 : Int64) (t1 : Int64) (t2 : Int64) (t3 : Int64) (t4 : Int64)  : Met l y_P_productLimb (sbw y_P_productLimb b_P_productLimb 5 (some .long)) rm_P_productLimb2 (sbPr D cI cL cB tS tF [.ref h, .int (nI 2)] [(h, .inr (4, [.ref q1, .ref q2, .ref q3, .ref q4, .ref q5])), (q1, .inl (cL, 5, .inr (.inl (l5 k0 k1 k2 k3 k4)))), (q2, .inl (cL, 5, .inr (.inl (l5 t0 t1 t2 t3 t4)))), (q3, .inl (cL, 5, .inr (.inl (l5 s0 s1 s2 s3 s4))))]) (vp_Sl (fun r => r = pl2 s0 s1 s2 s3 s4 k0 k1 k2 k3 k4 t0 t1 t2 t3 t4)) 0 0 (fun _ => False) := by
  refine sb_ofR (by decide) (Nat.le_of_ble_eq_true rfl) ?_
  intro p e s m args below meth c ls hx hb hr hml hts hown hlocks hP hG hS hl
  have hl : lv_has ls 5 [(0, .ref h), (1, .int (nI 2))] := hl
  refine lv_lconst (v := 0) hx hb d_P_productLimb_0 (by decide) ?_
  refine lv_lstore_n (lv' := [(2, .long 0), (0, .ref h), (1, .int (nI 2))]) hx hb d_P_productLimb_1 rfl hl (by decide) rfl (fun ls hl => ?_)
  refine lv_iconst (v := 0) hx hb d_P_productLimb_2 (by decide) ?_
  refine lv_istore (lv' := [(4, .int 0), (2, .long 0), (0, .ref h), (1, .int (nI 2))]) hx hb d_P_productLimb_3 hl (by decide) rfl (fun ls hl => ?_)
  refine lv_iload hx hb d_P_productLimb_5 (lv_at hl 0 rfl) ?_
  refine lv_iload_n hx hb d_P_productLimb_7 rfl (lv_at hl 3 rfl) ?_
  refine lv_icmp_gt (tgt := 37) hx hb d_P_productLimb_8 (by decide) (fun c_1 => absurd c_1 (sb_gtF (a := 0) (b := 2) rfl rfl (by omega) (by omega) (by omega))) (fun c_1 => ?_)
  refine lv_lload_n hx hb d_P_productLimb_11 rfl (lv_at hl 1 rfl) ?_
  refine lv_aload_n hx hb d_P_productLimb_12 rfl (lv_at hl 2 rfl) ?_
  refine va_get (D := D) (ci := 4) (v := .ref q3) (C := R_P) (T := F_P) (N := 5) hx hb hts in_P hown hG.1 hP 0 rfl rfl 2 (by decide) (hts _ k_174) (fun _ h9 => h9) rfl d_P_productLimb_13 ?_
  refine lv_iload hx hb d_P_productLimb_16 (lv_at hl 0 rfl) ?_
  refine sb_lldv hx hb hG.1 hP 3 rfl 0 rfl (by omega) (by omega) (v := s0) rfl d_P_productLimb_18 ?_
  refine lv_aload_n hx hb d_P_productLimb_19 rfl (lv_at hl 2 rfl) ?_
  refine va_get (D := D) (ci := 4) (v := .ref q1) (C := R_P) (T := F_P) (N := 5) hx hb hts in_P hown hG.1 hP 0 rfl rfl 0 (by decide) (hts _ k_172) (fun _ h9 => h9) rfl d_P_productLimb_20 ?_
  refine lv_iload_n hx hb d_P_productLimb_23 rfl (lv_at hl 3 rfl) ?_
  refine lv_iload hx hb d_P_productLimb_24 (lv_at hl 0 rfl) ?_
  refine lv_isub hx hb d_P_productLimb_26 ?_
  refine sb_topn 2 (sb_eqn (a := 2 - 0) (b := 2) (sb_sub (a := 2) (b := 0) (by omega) rfl rfl) (by omega)) ?_
  refine sb_lldv hx hb hG.1 hP 1 rfl 2 rfl (by omega) (by omega) (v := k2) rfl d_P_productLimb_27 ?_
  refine lv_lmul hx hb d_P_productLimb_28 ?_
  refine lv_ladd hx hb d_P_productLimb_29 ?_
  refine lv_topl (fun x_2 ex_2 => ?_)
  refine lv_lstore_n (lv' := [(2, .long x_2), (4, .int 0), (0, .ref h), (1, .int (nI 2))]) hx hb d_P_productLimb_30 rfl hl (by decide) rfl (fun ls hl => ?_)
  refine lv_iinc (v := nI 1) (lv' := [(4, .int (nI 1)), (2, .long x_2), (0, .ref h), (1, .int (nI 2))]) hx hb d_P_productLimb_31 hl (k := 1) rfl (sb_inc (a := 0) (b := 1) (d := 1) rfl (by decide) (by omega)) (by decide) rfl (fun ls hl => ?_)
  refine lv_goto (tgt := 5) hx hb d_P_productLimb_34 (by decide) ?_
  refine lv_iload hx hb d_P_productLimb_5 (lv_at hl 0 rfl) ?_
  refine lv_iload_n hx hb d_P_productLimb_7 rfl (lv_at hl 3 rfl) ?_
  refine lv_icmp_gt (tgt := 37) hx hb d_P_productLimb_8 (by decide) (fun c_3 => absurd c_3 (sb_gtF (a := 1) (b := 2) rfl rfl (by omega) (by omega) (by omega))) (fun c_3 => ?_)
  refine lv_lload_n hx hb d_P_productLimb_11 rfl (lv_at hl 1 rfl) ?_
  refine lv_aload_n hx hb d_P_productLimb_12 rfl (lv_at hl 2 rfl) ?_
  refine va_get (D := D) (ci := 4) (v := .ref q3) (C := R_P) (T := F_P) (N := 5) hx hb hts in_P hown hG.1 hP 0 rfl rfl 2 (by decide) (hts _ k_174) (fun _ h9 => h9) rfl d_P_productLimb_13 ?_
  refine lv_iload hx hb d_P_productLimb_16 (lv_at hl 0 rfl) ?_
  refine sb_lldv hx hb hG.1 hP 3 rfl 1 rfl (by omega) (by omega) (v := s1) rfl d_P_productLimb_18 ?_
  refine lv_aload_n hx hb d_P_productLimb_19 rfl (lv_at hl 2 rfl) ?_
  refine va_get (D := D) (ci := 4) (v := .ref q1) (C := R_P) (T := F_P) (N := 5) hx hb hts in_P hown hG.1 hP 0 rfl rfl 0 (by decide) (hts _ k_172) (fun _ h9 => h9) rfl d_P_productLimb_20 ?_
  refine lv_iload_n hx hb d_P_productLimb_23 rfl (lv_at hl 3 rfl) ?_
  refine lv_iload hx hb d_P_productLimb_24 (lv_at hl 0 rfl) ?_
  refine lv_isub hx hb d_P_productLimb_26 ?_
  refine sb_topn 1 (sb_eqn (a := 2 - 1) (b := 1) (sb_sub (a := 2) (b := 1) (by omega) rfl rfl) (by omega)) ?_
  refine sb_lldv hx hb hG.1 hP 1 rfl 1 rfl (by omega) (by omega) (v := k1) rfl d_P_productLimb_27 ?_
  refine lv_lmul hx hb d_P_productLimb_28 ?_
  refine lv_ladd hx hb d_P_productLimb_29 ?_
  refine lv_topl (fun x_4 ex_4 => ?_)
  refine lv_lstore_n (lv' := [(2, .long x_4), (4, .int (nI 1)), (0, .ref h), (1, .int (nI 2))]) hx hb d_P_productLimb_30 rfl hl (by decide) rfl (fun ls hl => ?_)
  refine lv_iinc (v := nI 2) (lv' := [(4, .int (nI 2)), (2, .long x_4), (0, .ref h), (1, .int (nI 2))]) hx hb d_P_productLimb_31 hl (k := 1) rfl (sb_inc (a := 1) (b := 2) (d := 1) rfl (by decide) (by omega)) (by decide) rfl (fun ls hl => ?_)
  refine lv_goto (tgt := 5) hx hb d_P_productLimb_34 (by decide) ?_
  refine lv_iload hx hb d_P_productLimb_5 (lv_at hl 0 rfl) ?_
  refine lv_iload_n hx hb d_P_productLimb_7 rfl (lv_at hl 3 rfl) ?_
  refine lv_icmp_gt (tgt := 37) hx hb d_P_productLimb_8 (by decide) (fun c_5 => absurd c_5 (sb_gtF (a := 2) (b := 2) rfl rfl (by omega) (by omega) (by omega))) (fun c_5 => ?_)
  refine lv_lload_n hx hb d_P_productLimb_11 rfl (lv_at hl 1 rfl) ?_
  refine lv_aload_n hx hb d_P_productLimb_12 rfl (lv_at hl 2 rfl) ?_
  refine va_get (D := D) (ci := 4) (v := .ref q3) (C := R_P) (T := F_P) (N := 5) hx hb hts in_P hown hG.1 hP 0 rfl rfl 2 (by decide) (hts _ k_174) (fun _ h9 => h9) rfl d_P_productLimb_13 ?_
  refine lv_iload hx hb d_P_productLimb_16 (lv_at hl 0 rfl) ?_
  refine sb_lldv hx hb hG.1 hP 3 rfl 2 rfl (by omega) (by omega) (v := s2) rfl d_P_productLimb_18 ?_
  refine lv_aload_n hx hb d_P_productLimb_19 rfl (lv_at hl 2 rfl) ?_
  refine va_get (D := D) (ci := 4) (v := .ref q1) (C := R_P) (T := F_P) (N := 5) hx hb hts in_P hown hG.1 hP 0 rfl rfl 0 (by decide) (hts _ k_172) (fun _ h9 => h9) rfl d_P_productLimb_20 ?_
  refine lv_iload_n hx hb d_P_productLimb_23 rfl (lv_at hl 3 rfl) ?_
  refine lv_iload hx hb d_P_productLimb_24 (lv_at hl 0 rfl) ?_
  refine lv_isub hx hb d_P_productLimb_26 ?_
  refine sb_topn 0 (sb_eqn (a := 2 - 2) (b := 0) (sb_sub (a := 2) (b := 2) (by omega) rfl rfl) (by omega)) ?_
  refine sb_lldv hx hb hG.1 hP 1 rfl 0 rfl (by omega) (by omega) (v := k0) rfl d_P_productLimb_27 ?_
  refine lv_lmul hx hb d_P_productLimb_28 ?_
  refine lv_ladd hx hb d_P_productLimb_29 ?_
  refine lv_topl (fun x_6 ex_6 => ?_)
  refine lv_lstore_n (lv' := [(2, .long x_6), (4, .int (nI 2)), (0, .ref h), (1, .int (nI 2))]) hx hb d_P_productLimb_30 rfl hl (by decide) rfl (fun ls hl => ?_)
  refine lv_iinc (v := nI 3) (lv' := [(4, .int (nI 3)), (2, .long x_6), (0, .ref h), (1, .int (nI 2))]) hx hb d_P_productLimb_31 hl (k := 1) rfl (sb_inc (a := 2) (b := 3) (d := 1) rfl (by decide) (by omega)) (by decide) rfl (fun ls hl => ?_)
  refine lv_goto (tgt := 5) hx hb d_P_productLimb_34 (by decide) ?_
  refine lv_iload hx hb d_P_productLimb_5 (lv_at hl 0 rfl) ?_
  refine lv_iload_n hx hb d_P_productLimb_7 rfl (lv_at hl 3 rfl) ?_
  refine lv_icmp_gt (tgt := 37) hx hb d_P_productLimb_8 (by decide) (fun c_7 => ?_) (fun c_7 => absurd (sb_gtT (a := 3) (b := 2) rfl rfl (by omega) (by omega) (by omega)) c_7)
  refine lv_iload_n hx hb d_P_productLimb_37 rfl (lv_at hl 3 rfl) ?_
  refine lv_iconst (v := 1) hx hb d_P_productLimb_38 (by decide) ?_
  refine lv_iadd hx hb d_P_productLimb_39 ?_
  refine sb_topn 3 (sb_eqn (a := 2 + 1) (b := 3) (nI_add 2 1) (by omega)) ?_
  refine lv_istore (lv' := [(4, .int (nI 3)), (2, .long x_6), (0, .ref h), (1, .int (nI 2))]) hx hb d_P_productLimb_40 hl (by decide) rfl (fun ls hl => ?_)
  refine lv_iload hx hb d_P_productLimb_42 (lv_at hl 0 rfl) ?_
  refine lv_iconst (v := 5) hx hb d_P_productLimb_44 (by decide) ?_
  refine lv_icmp_ge (tgt := 76) hx hb d_P_productLimb_45 (by decide) (fun c_8 => absurd c_8 (sb_geF (a := 3) (b := 5) rfl rfl (by omega) (by omega) (by omega))) (fun c_8 => ?_)
  refine lv_lload_n hx hb d_P_productLimb_48 rfl (lv_at hl 1 rfl) ?_
  refine lv_aload_n hx hb d_P_productLimb_49 rfl (lv_at hl 2 rfl) ?_
  refine va_get (D := D) (ci := 4) (v := .ref q3) (C := R_P) (T := F_P) (N := 5) hx hb hts in_P hown hG.1 hP 0 rfl rfl 2 (by decide) (hts _ k_174) (fun _ h9 => h9) rfl d_P_productLimb_50 ?_
  refine lv_iload hx hb d_P_productLimb_53 (lv_at hl 0 rfl) ?_
  refine sb_lldv hx hb hG.1 hP 3 rfl 3 rfl (by omega) (by omega) (v := s3) rfl d_P_productLimb_55 ?_
  refine lv_aload_n hx hb d_P_productLimb_56 rfl (lv_at hl 2 rfl) ?_
  refine va_get (D := D) (ci := 4) (v := .ref q2) (C := R_P) (T := F_P) (N := 5) hx hb hts in_P hown hG.1 hP 0 rfl rfl 1 (by decide) (hts _ k_173) (fun _ h9 => h9) rfl d_P_productLimb_57 ?_
  refine lv_iload_n hx hb d_P_productLimb_60 rfl (lv_at hl 3 rfl) ?_
  refine lv_iconst (v := 5) hx hb d_P_productLimb_61 (by decide) ?_
  refine lv_iadd hx hb d_P_productLimb_62 ?_
  refine sb_topn 7 (sb_eqn (a := 2 + 5) (b := 7) (nI_add 2 5) (by omega)) ?_
  refine lv_iload hx hb d_P_productLimb_63 (lv_at hl 0 rfl) ?_
  refine lv_isub hx hb d_P_productLimb_65 ?_
  refine sb_topn 4 (sb_eqn (a := 7 - 3) (b := 4) (sb_sub (a := 7) (b := 3) (by omega) rfl rfl) (by omega)) ?_
  refine sb_lldv hx hb hG.1 hP 2 rfl 4 rfl (by omega) (by omega) (v := t4) rfl d_P_productLimb_66 ?_
  refine lv_lmul hx hb d_P_productLimb_67 ?_
  refine lv_ladd hx hb d_P_productLimb_68 ?_
  refine lv_topl (fun x_9 ex_9 => ?_)
  refine lv_lstore_n (lv' := [(2, .long x_9), (4, .int (nI 3)), (0, .ref h), (1, .int (nI 2))]) hx hb d_P_productLimb_69 rfl hl (by decide) rfl (fun ls hl => ?_)
  refine lv_iinc (v := nI 4) (lv' := [(4, .int (nI 4)), (2, .long x_9), (0, .ref h), (1, .int (nI 2))]) hx hb d_P_productLimb_70 hl (k := 1) rfl (sb_inc (a := 3) (b := 4) (d := 1) rfl (by decide) (by omega)) (by decide) rfl (fun ls hl => ?_)
  refine lv_goto (tgt := 42) hx hb d_P_productLimb_73 (by decide) ?_
  refine lv_iload hx hb d_P_productLimb_42 (lv_at hl 0 rfl) ?_
  refine lv_iconst (v := 5) hx hb d_P_productLimb_44 (by decide) ?_
  refine lv_icmp_ge (tgt := 76) hx hb d_P_productLimb_45 (by decide) (fun c_10 => absurd c_10 (sb_geF (a := 4) (b := 5) rfl rfl (by omega) (by omega) (by omega))) (fun c_10 => ?_)
  refine lv_lload_n hx hb d_P_productLimb_48 rfl (lv_at hl 1 rfl) ?_
  refine lv_aload_n hx hb d_P_productLimb_49 rfl (lv_at hl 2 rfl) ?_
  refine va_get (D := D) (ci := 4) (v := .ref q3) (C := R_P) (T := F_P) (N := 5) hx hb hts in_P hown hG.1 hP 0 rfl rfl 2 (by decide) (hts _ k_174) (fun _ h9 => h9) rfl d_P_productLimb_50 ?_
  refine lv_iload hx hb d_P_productLimb_53 (lv_at hl 0 rfl) ?_
  refine sb_lldv hx hb hG.1 hP 3 rfl 4 rfl (by omega) (by omega) (v := s4) rfl d_P_productLimb_55 ?_
  refine lv_aload_n hx hb d_P_productLimb_56 rfl (lv_at hl 2 rfl) ?_
  refine va_get (D := D) (ci := 4) (v := .ref q2) (C := R_P) (T := F_P) (N := 5) hx hb hts in_P hown hG.1 hP 0 rfl rfl 1 (by decide) (hts _ k_173) (fun _ h9 => h9) rfl d_P_productLimb_57 ?_
  refine lv_iload_n hx hb d_P_productLimb_60 rfl (lv_at hl 3 rfl) ?_
  refine lv_iconst (v := 5) hx hb d_P_productLimb_61 (by decide) ?_
  refine lv_iadd hx hb d_P_productLimb_62 ?_
  refine sb_topn 7 (sb_eqn (a := 2 + 5) (b := 7) (nI_add 2 5) (by omega)) ?_
  refine lv_iload hx hb d_P_productLimb_63 (lv_at hl 0 rfl) ?_
  refine lv_isub hx hb d_P_productLimb_65 ?_
  refine sb_topn 3 (sb_eqn (a := 7 - 4) (b := 3) (sb_sub (a := 7) (b := 4) (by omega) rfl rfl) (by omega)) ?_
  refine sb_lldv hx hb hG.1 hP 2 rfl 3 rfl (by omega) (by omega) (v := t3) rfl d_P_productLimb_66 ?_
  refine lv_lmul hx hb d_P_productLimb_67 ?_
  refine lv_ladd hx hb d_P_productLimb_68 ?_
  refine lv_topl (fun x_11 ex_11 => ?_)
  refine lv_lstore_n (lv' := [(2, .long x_11), (4, .int (nI 4)), (0, .ref h), (1, .int (nI 2))]) hx hb d_P_productLimb_69 rfl hl (by decide) rfl (fun ls hl => ?_)
  refine lv_iinc (v := nI 5) (lv' := [(4, .int (nI 5)), (2, .long x_11), (0, .ref h), (1, .int (nI 2))]) hx hb d_P_productLimb_70 hl (k := 1) rfl (sb_inc (a := 4) (b := 5) (d := 1) rfl (by decide) (by omega)) (by decide) rfl (fun ls hl => ?_)
  refine lv_goto (tgt := 42) hx hb d_P_productLimb_73 (by decide) ?_
  refine lv_iload hx hb d_P_productLimb_42 (lv_at hl 0 rfl) ?_
  refine lv_iconst (v := 5) hx hb d_P_productLimb_44 (by decide) ?_
  refine lv_icmp_ge (tgt := 76) hx hb d_P_productLimb_45 (by decide) (fun c_12 => ?_) (fun c_12 => absurd (sb_geT (a := 5) (b := 5) rfl rfl (by omega) (by omega) (by omega)) c_12)
  refine lv_lload_n hx hb d_P_productLimb_76 rfl (lv_at hl 1 rfl) ?_
  exact W.lret (v := x_11) hx hb hr (fun t ht hW => ⟨_, rfl, (by subst_vars; rfl), ht⟩) hS.2.2 d_P_productLimb_77

def rm_P_productLimb3 : Room := { frames := 0, cells := 0, slots := 0, locals := 0 }
set_option maxHeartbeats 4000000 in
set_option maxRecDepth 100000 in
theorem c_P_productLimb3 (l : Launch) (D : va_G) (cI cL cB : ClassId) (tS tF : Nat) (h : Nat) (q1 : Nat) (q2 : Nat) (q3 : Nat) (q4 : Nat) (q5 : Nat) (s0 : Int64) (s1 : Int64) (s2 : Int64) (s3 : Int64) (s4 : Int64) (k0 : Int64) (k1 : Int64) (k2 : Int64) (k3 : Int64) (k4 : Int64) (t0 : Int64) (t1 : Int64) (t2 : Int64) (t3 : Int64) (t4 : Int64)  : Met l y_P_productLimb (sbw y_P_productLimb b_P_productLimb 5 (some .long)) rm_P_productLimb3 (sbPr D cI cL cB tS tF [.ref h, .int (nI 3)] [(h, .inr (4, [.ref q1, .ref q2, .ref q3, .ref q4, .ref q5])), (q1, .inl (cL, 5, .inr (.inl (l5 k0 k1 k2 k3 k4)))), (q2, .inl (cL, 5, .inr (.inl (l5 t0 t1 t2 t3 t4)))), (q3, .inl (cL, 5, .inr (.inl (l5 s0 s1 s2 s3 s4))))]) (vp_Sl (fun r => r = pl3 s0 s1 s2 s3 s4 k0 k1 k2 k3 k4 t0 t1 t2 t3 t4)) 0 0 (fun _ => False) := by
  refine sb_ofR (by decide) (Nat.le_of_ble_eq_true rfl) ?_
  intro p e s m args below meth c ls hx hb hr hml hts hown hlocks hP hG hS hl
  have hl : lv_has ls 5 [(0, .ref h), (1, .int (nI 3))] := hl
  refine lv_lconst (v := 0) hx hb d_P_productLimb_0 (by decide) ?_
  refine lv_lstore_n (lv' := [(2, .long 0), (0, .ref h), (1, .int (nI 3))]) hx hb d_P_productLimb_1 rfl hl (by decide) rfl (fun ls hl => ?_)
  refine lv_iconst (v := 0) hx hb d_P_productLimb_2 (by decide) ?_
  refine lv_istore (lv' := [(4, .int 0), (2, .long 0), (0, .ref h), (1, .int (nI 3))]) hx hb d_P_productLimb_3 hl (by decide) rfl (fun ls hl => ?_)
  refine lv_iload hx hb d_P_productLimb_5 (lv_at hl 0 rfl) ?_
  refine lv_iload_n hx hb d_P_productLimb_7 rfl (lv_at hl 3 rfl) ?_
  refine lv_icmp_gt (tgt := 37) hx hb d_P_productLimb_8 (by decide) (fun c_1 => absurd c_1 (sb_gtF (a := 0) (b := 3) rfl rfl (by omega) (by omega) (by omega))) (fun c_1 => ?_)
  refine lv_lload_n hx hb d_P_productLimb_11 rfl (lv_at hl 1 rfl) ?_
  refine lv_aload_n hx hb d_P_productLimb_12 rfl (lv_at hl 2 rfl) ?_
  refine va_get (D := D) (ci := 4) (v := .ref q3) (C := R_P) (T := F_P) (N := 5) hx hb hts in_P hown hG.1 hP 0 rfl rfl 2 (by decide) (hts _ k_174) (fun _ h9 => h9) rfl d_P_productLimb_13 ?_
  refine lv_iload hx hb d_P_productLimb_16 (lv_at hl 0 rfl) ?_
  refine sb_lldv hx hb hG.1 hP 3 rfl 0 rfl (by omega) (by omega) (v := s0) rfl d_P_productLimb_18 ?_
  refine lv_aload_n hx hb d_P_productLimb_19 rfl (lv_at hl 2 rfl) ?_
  refine va_get (D := D) (ci := 4) (v := .ref q1) (C := R_P) (T := F_P) (N := 5) hx hb hts in_P hown hG.1 hP 0 rfl rfl 0 (by decide) (hts _ k_172) (fun _ h9 => h9) rfl d_P_productLimb_20 ?_
  refine lv_iload_n hx hb d_P_productLimb_23 rfl (lv_at hl 3 rfl) ?_
  refine lv_iload hx hb d_P_productLimb_24 (lv_at hl 0 rfl) ?_
  refine lv_isub hx hb d_P_productLimb_26 ?_
  refine sb_topn 3 (sb_eqn (a := 3 - 0) (b := 3) (sb_sub (a := 3) (b := 0) (by omega) rfl rfl) (by omega)) ?_
  refine sb_lldv hx hb hG.1 hP 1 rfl 3 rfl (by omega) (by omega) (v := k3) rfl d_P_productLimb_27 ?_
  refine lv_lmul hx hb d_P_productLimb_28 ?_
  refine lv_ladd hx hb d_P_productLimb_29 ?_
  refine lv_topl (fun x_2 ex_2 => ?_)
  refine lv_lstore_n (lv' := [(2, .long x_2), (4, .int 0), (0, .ref h), (1, .int (nI 3))]) hx hb d_P_productLimb_30 rfl hl (by decide) rfl (fun ls hl => ?_)
  refine lv_iinc (v := nI 1) (lv' := [(4, .int (nI 1)), (2, .long x_2), (0, .ref h), (1, .int (nI 3))]) hx hb d_P_productLimb_31 hl (k := 1) rfl (sb_inc (a := 0) (b := 1) (d := 1) rfl (by decide) (by omega)) (by decide) rfl (fun ls hl => ?_)
  refine lv_goto (tgt := 5) hx hb d_P_productLimb_34 (by decide) ?_
  refine lv_iload hx hb d_P_productLimb_5 (lv_at hl 0 rfl) ?_
  refine lv_iload_n hx hb d_P_productLimb_7 rfl (lv_at hl 3 rfl) ?_
  refine lv_icmp_gt (tgt := 37) hx hb d_P_productLimb_8 (by decide) (fun c_3 => absurd c_3 (sb_gtF (a := 1) (b := 3) rfl rfl (by omega) (by omega) (by omega))) (fun c_3 => ?_)
  refine lv_lload_n hx hb d_P_productLimb_11 rfl (lv_at hl 1 rfl) ?_
  refine lv_aload_n hx hb d_P_productLimb_12 rfl (lv_at hl 2 rfl) ?_
  refine va_get (D := D) (ci := 4) (v := .ref q3) (C := R_P) (T := F_P) (N := 5) hx hb hts in_P hown hG.1 hP 0 rfl rfl 2 (by decide) (hts _ k_174) (fun _ h9 => h9) rfl d_P_productLimb_13 ?_
  refine lv_iload hx hb d_P_productLimb_16 (lv_at hl 0 rfl) ?_
  refine sb_lldv hx hb hG.1 hP 3 rfl 1 rfl (by omega) (by omega) (v := s1) rfl d_P_productLimb_18 ?_
  refine lv_aload_n hx hb d_P_productLimb_19 rfl (lv_at hl 2 rfl) ?_
  refine va_get (D := D) (ci := 4) (v := .ref q1) (C := R_P) (T := F_P) (N := 5) hx hb hts in_P hown hG.1 hP 0 rfl rfl 0 (by decide) (hts _ k_172) (fun _ h9 => h9) rfl d_P_productLimb_20 ?_
  refine lv_iload_n hx hb d_P_productLimb_23 rfl (lv_at hl 3 rfl) ?_
  refine lv_iload hx hb d_P_productLimb_24 (lv_at hl 0 rfl) ?_
  refine lv_isub hx hb d_P_productLimb_26 ?_
  refine sb_topn 2 (sb_eqn (a := 3 - 1) (b := 2) (sb_sub (a := 3) (b := 1) (by omega) rfl rfl) (by omega)) ?_
  refine sb_lldv hx hb hG.1 hP 1 rfl 2 rfl (by omega) (by omega) (v := k2) rfl d_P_productLimb_27 ?_
  refine lv_lmul hx hb d_P_productLimb_28 ?_
  refine lv_ladd hx hb d_P_productLimb_29 ?_
  refine lv_topl (fun x_4 ex_4 => ?_)
  refine lv_lstore_n (lv' := [(2, .long x_4), (4, .int (nI 1)), (0, .ref h), (1, .int (nI 3))]) hx hb d_P_productLimb_30 rfl hl (by decide) rfl (fun ls hl => ?_)
  refine lv_iinc (v := nI 2) (lv' := [(4, .int (nI 2)), (2, .long x_4), (0, .ref h), (1, .int (nI 3))]) hx hb d_P_productLimb_31 hl (k := 1) rfl (sb_inc (a := 1) (b := 2) (d := 1) rfl (by decide) (by omega)) (by decide) rfl (fun ls hl => ?_)
  refine lv_goto (tgt := 5) hx hb d_P_productLimb_34 (by decide) ?_
  refine lv_iload hx hb d_P_productLimb_5 (lv_at hl 0 rfl) ?_
  refine lv_iload_n hx hb d_P_productLimb_7 rfl (lv_at hl 3 rfl) ?_
  refine lv_icmp_gt (tgt := 37) hx hb d_P_productLimb_8 (by decide) (fun c_5 => absurd c_5 (sb_gtF (a := 2) (b := 3) rfl rfl (by omega) (by omega) (by omega))) (fun c_5 => ?_)
  refine lv_lload_n hx hb d_P_productLimb_11 rfl (lv_at hl 1 rfl) ?_
  refine lv_aload_n hx hb d_P_productLimb_12 rfl (lv_at hl 2 rfl) ?_
  refine va_get (D := D) (ci := 4) (v := .ref q3) (C := R_P) (T := F_P) (N := 5) hx hb hts in_P hown hG.1 hP 0 rfl rfl 2 (by decide) (hts _ k_174) (fun _ h9 => h9) rfl d_P_productLimb_13 ?_
  refine lv_iload hx hb d_P_productLimb_16 (lv_at hl 0 rfl) ?_
  refine sb_lldv hx hb hG.1 hP 3 rfl 2 rfl (by omega) (by omega) (v := s2) rfl d_P_productLimb_18 ?_
  refine lv_aload_n hx hb d_P_productLimb_19 rfl (lv_at hl 2 rfl) ?_
  refine va_get (D := D) (ci := 4) (v := .ref q1) (C := R_P) (T := F_P) (N := 5) hx hb hts in_P hown hG.1 hP 0 rfl rfl 0 (by decide) (hts _ k_172) (fun _ h9 => h9) rfl d_P_productLimb_20 ?_
  refine lv_iload_n hx hb d_P_productLimb_23 rfl (lv_at hl 3 rfl) ?_
  refine lv_iload hx hb d_P_productLimb_24 (lv_at hl 0 rfl) ?_
  refine lv_isub hx hb d_P_productLimb_26 ?_
  refine sb_topn 1 (sb_eqn (a := 3 - 2) (b := 1) (sb_sub (a := 3) (b := 2) (by omega) rfl rfl) (by omega)) ?_
  refine sb_lldv hx hb hG.1 hP 1 rfl 1 rfl (by omega) (by omega) (v := k1) rfl d_P_productLimb_27 ?_
  refine lv_lmul hx hb d_P_productLimb_28 ?_
  refine lv_ladd hx hb d_P_productLimb_29 ?_
  refine lv_topl (fun x_6 ex_6 => ?_)
  refine lv_lstore_n (lv' := [(2, .long x_6), (4, .int (nI 2)), (0, .ref h), (1, .int (nI 3))]) hx hb d_P_productLimb_30 rfl hl (by decide) rfl (fun ls hl => ?_)
  refine lv_iinc (v := nI 3) (lv' := [(4, .int (nI 3)), (2, .long x_6), (0, .ref h), (1, .int (nI 3))]) hx hb d_P_productLimb_31 hl (k := 1) rfl (sb_inc (a := 2) (b := 3) (d := 1) rfl (by decide) (by omega)) (by decide) rfl (fun ls hl => ?_)
  refine lv_goto (tgt := 5) hx hb d_P_productLimb_34 (by decide) ?_
  refine lv_iload hx hb d_P_productLimb_5 (lv_at hl 0 rfl) ?_
  refine lv_iload_n hx hb d_P_productLimb_7 rfl (lv_at hl 3 rfl) ?_
  refine lv_icmp_gt (tgt := 37) hx hb d_P_productLimb_8 (by decide) (fun c_7 => absurd c_7 (sb_gtF (a := 3) (b := 3) rfl rfl (by omega) (by omega) (by omega))) (fun c_7 => ?_)
  refine lv_lload_n hx hb d_P_productLimb_11 rfl (lv_at hl 1 rfl) ?_
  refine lv_aload_n hx hb d_P_productLimb_12 rfl (lv_at hl 2 rfl) ?_
  refine va_get (D := D) (ci := 4) (v := .ref q3) (C := R_P) (T := F_P) (N := 5) hx hb hts in_P hown hG.1 hP 0 rfl rfl 2 (by decide) (hts _ k_174) (fun _ h9 => h9) rfl d_P_productLimb_13 ?_
  refine lv_iload hx hb d_P_productLimb_16 (lv_at hl 0 rfl) ?_
  refine sb_lldv hx hb hG.1 hP 3 rfl 3 rfl (by omega) (by omega) (v := s3) rfl d_P_productLimb_18 ?_
  refine lv_aload_n hx hb d_P_productLimb_19 rfl (lv_at hl 2 rfl) ?_
  refine va_get (D := D) (ci := 4) (v := .ref q1) (C := R_P) (T := F_P) (N := 5) hx hb hts in_P hown hG.1 hP 0 rfl rfl 0 (by decide) (hts _ k_172) (fun _ h9 => h9) rfl d_P_productLimb_20 ?_
  refine lv_iload_n hx hb d_P_productLimb_23 rfl (lv_at hl 3 rfl) ?_
  refine lv_iload hx hb d_P_productLimb_24 (lv_at hl 0 rfl) ?_
  refine lv_isub hx hb d_P_productLimb_26 ?_
  refine sb_topn 0 (sb_eqn (a := 3 - 3) (b := 0) (sb_sub (a := 3) (b := 3) (by omega) rfl rfl) (by omega)) ?_
  refine sb_lldv hx hb hG.1 hP 1 rfl 0 rfl (by omega) (by omega) (v := k0) rfl d_P_productLimb_27 ?_
  refine lv_lmul hx hb d_P_productLimb_28 ?_
  refine lv_ladd hx hb d_P_productLimb_29 ?_
  refine lv_topl (fun x_8 ex_8 => ?_)
  refine lv_lstore_n (lv' := [(2, .long x_8), (4, .int (nI 3)), (0, .ref h), (1, .int (nI 3))]) hx hb d_P_productLimb_30 rfl hl (by decide) rfl (fun ls hl => ?_)
  refine lv_iinc (v := nI 4) (lv' := [(4, .int (nI 4)), (2, .long x_8), (0, .ref h), (1, .int (nI 3))]) hx hb d_P_productLimb_31 hl (k := 1) rfl (sb_inc (a := 3) (b := 4) (d := 1) rfl (by decide) (by omega)) (by decide) rfl (fun ls hl => ?_)
  refine lv_goto (tgt := 5) hx hb d_P_productLimb_34 (by decide) ?_
  refine lv_iload hx hb d_P_productLimb_5 (lv_at hl 0 rfl) ?_
  refine lv_iload_n hx hb d_P_productLimb_7 rfl (lv_at hl 3 rfl) ?_
  refine lv_icmp_gt (tgt := 37) hx hb d_P_productLimb_8 (by decide) (fun c_9 => ?_) (fun c_9 => absurd (sb_gtT (a := 4) (b := 3) rfl rfl (by omega) (by omega) (by omega)) c_9)
  refine lv_iload_n hx hb d_P_productLimb_37 rfl (lv_at hl 3 rfl) ?_
  refine lv_iconst (v := 1) hx hb d_P_productLimb_38 (by decide) ?_
  refine lv_iadd hx hb d_P_productLimb_39 ?_
  refine sb_topn 4 (sb_eqn (a := 3 + 1) (b := 4) (nI_add 3 1) (by omega)) ?_
  refine lv_istore (lv' := [(4, .int (nI 4)), (2, .long x_8), (0, .ref h), (1, .int (nI 3))]) hx hb d_P_productLimb_40 hl (by decide) rfl (fun ls hl => ?_)
  refine lv_iload hx hb d_P_productLimb_42 (lv_at hl 0 rfl) ?_
  refine lv_iconst (v := 5) hx hb d_P_productLimb_44 (by decide) ?_
  refine lv_icmp_ge (tgt := 76) hx hb d_P_productLimb_45 (by decide) (fun c_10 => absurd c_10 (sb_geF (a := 4) (b := 5) rfl rfl (by omega) (by omega) (by omega))) (fun c_10 => ?_)
  refine lv_lload_n hx hb d_P_productLimb_48 rfl (lv_at hl 1 rfl) ?_
  refine lv_aload_n hx hb d_P_productLimb_49 rfl (lv_at hl 2 rfl) ?_
  refine va_get (D := D) (ci := 4) (v := .ref q3) (C := R_P) (T := F_P) (N := 5) hx hb hts in_P hown hG.1 hP 0 rfl rfl 2 (by decide) (hts _ k_174) (fun _ h9 => h9) rfl d_P_productLimb_50 ?_
  refine lv_iload hx hb d_P_productLimb_53 (lv_at hl 0 rfl) ?_
  refine sb_lldv hx hb hG.1 hP 3 rfl 4 rfl (by omega) (by omega) (v := s4) rfl d_P_productLimb_55 ?_
  refine lv_aload_n hx hb d_P_productLimb_56 rfl (lv_at hl 2 rfl) ?_
  refine va_get (D := D) (ci := 4) (v := .ref q2) (C := R_P) (T := F_P) (N := 5) hx hb hts in_P hown hG.1 hP 0 rfl rfl 1 (by decide) (hts _ k_173) (fun _ h9 => h9) rfl d_P_productLimb_57 ?_
  refine lv_iload_n hx hb d_P_productLimb_60 rfl (lv_at hl 3 rfl) ?_
  refine lv_iconst (v := 5) hx hb d_P_productLimb_61 (by decide) ?_
  refine lv_iadd hx hb d_P_productLimb_62 ?_
  refine sb_topn 8 (sb_eqn (a := 3 + 5) (b := 8) (nI_add 3 5) (by omega)) ?_
  refine lv_iload hx hb d_P_productLimb_63 (lv_at hl 0 rfl) ?_
  refine lv_isub hx hb d_P_productLimb_65 ?_
  refine sb_topn 4 (sb_eqn (a := 8 - 4) (b := 4) (sb_sub (a := 8) (b := 4) (by omega) rfl rfl) (by omega)) ?_
  refine sb_lldv hx hb hG.1 hP 2 rfl 4 rfl (by omega) (by omega) (v := t4) rfl d_P_productLimb_66 ?_
  refine lv_lmul hx hb d_P_productLimb_67 ?_
  refine lv_ladd hx hb d_P_productLimb_68 ?_
  refine lv_topl (fun x_11 ex_11 => ?_)
  refine lv_lstore_n (lv' := [(2, .long x_11), (4, .int (nI 4)), (0, .ref h), (1, .int (nI 3))]) hx hb d_P_productLimb_69 rfl hl (by decide) rfl (fun ls hl => ?_)
  refine lv_iinc (v := nI 5) (lv' := [(4, .int (nI 5)), (2, .long x_11), (0, .ref h), (1, .int (nI 3))]) hx hb d_P_productLimb_70 hl (k := 1) rfl (sb_inc (a := 4) (b := 5) (d := 1) rfl (by decide) (by omega)) (by decide) rfl (fun ls hl => ?_)
  refine lv_goto (tgt := 42) hx hb d_P_productLimb_73 (by decide) ?_
  refine lv_iload hx hb d_P_productLimb_42 (lv_at hl 0 rfl) ?_
  refine lv_iconst (v := 5) hx hb d_P_productLimb_44 (by decide) ?_
  refine lv_icmp_ge (tgt := 76) hx hb d_P_productLimb_45 (by decide) (fun c_12 => ?_) (fun c_12 => absurd (sb_geT (a := 5) (b := 5) rfl rfl (by omega) (by omega) (by omega)) c_12)
  refine lv_lload_n hx hb d_P_productLimb_76 rfl (lv_at hl 1 rfl) ?_
  exact W.lret (v := x_11) hx hb hr (fun t ht hW => ⟨_, rfl, (by subst_vars; rfl), ht⟩) hS.2.2 d_P_productLimb_77

def rm_P_productLimb4 : Room := { frames := 0, cells := 0, slots := 0, locals := 0 }
set_option maxHeartbeats 4000000 in
set_option maxRecDepth 100000 in
theorem c_P_productLimb4 (l : Launch) (D : va_G) (cI cL cB : ClassId) (tS tF : Nat) (h : Nat) (q1 : Nat) (q2 : Nat) (q3 : Nat) (q4 : Nat) (q5 : Nat) (s0 : Int64) (s1 : Int64) (s2 : Int64) (s3 : Int64) (s4 : Int64) (k0 : Int64) (k1 : Int64) (k2 : Int64) (k3 : Int64) (k4 : Int64) (t0 : Int64) (t1 : Int64) (t2 : Int64) (t3 : Int64) (t4 : Int64)  : Met l y_P_productLimb (sbw y_P_productLimb b_P_productLimb 5 (some .long)) rm_P_productLimb4 (sbPr D cI cL cB tS tF [.ref h, .int (nI 4)] [(h, .inr (4, [.ref q1, .ref q2, .ref q3, .ref q4, .ref q5])), (q1, .inl (cL, 5, .inr (.inl (l5 k0 k1 k2 k3 k4)))), (q2, .inl (cL, 5, .inr (.inl (l5 t0 t1 t2 t3 t4)))), (q3, .inl (cL, 5, .inr (.inl (l5 s0 s1 s2 s3 s4))))]) (vp_Sl (fun r => r = pl4 s0 s1 s2 s3 s4 k0 k1 k2 k3 k4 t0 t1 t2 t3 t4)) 0 0 (fun _ => False) := by
  refine sb_ofR (by decide) (Nat.le_of_ble_eq_true rfl) ?_
  intro p e s m args below meth c ls hx hb hr hml hts hown hlocks hP hG hS hl
  have hl : lv_has ls 5 [(0, .ref h), (1, .int (nI 4))] := hl
  refine lv_lconst (v := 0) hx hb d_P_productLimb_0 (by decide) ?_
  refine lv_lstore_n (lv' := [(2, .long 0), (0, .ref h), (1, .int (nI 4))]) hx hb d_P_productLimb_1 rfl hl (by decide) rfl (fun ls hl => ?_)
  refine lv_iconst (v := 0) hx hb d_P_productLimb_2 (by decide) ?_
  refine lv_istore (lv' := [(4, .int 0), (2, .long 0), (0, .ref h), (1, .int (nI 4))]) hx hb d_P_productLimb_3 hl (by decide) rfl (fun ls hl => ?_)
  refine lv_iload hx hb d_P_productLimb_5 (lv_at hl 0 rfl) ?_
  refine lv_iload_n hx hb d_P_productLimb_7 rfl (lv_at hl 3 rfl) ?_
  refine lv_icmp_gt (tgt := 37) hx hb d_P_productLimb_8 (by decide) (fun c_1 => absurd c_1 (sb_gtF (a := 0) (b := 4) rfl rfl (by omega) (by omega) (by omega))) (fun c_1 => ?_)
  refine lv_lload_n hx hb d_P_productLimb_11 rfl (lv_at hl 1 rfl) ?_
  refine lv_aload_n hx hb d_P_productLimb_12 rfl (lv_at hl 2 rfl) ?_
  refine va_get (D := D) (ci := 4) (v := .ref q3) (C := R_P) (T := F_P) (N := 5) hx hb hts in_P hown hG.1 hP 0 rfl rfl 2 (by decide) (hts _ k_174) (fun _ h9 => h9) rfl d_P_productLimb_13 ?_
  refine lv_iload hx hb d_P_productLimb_16 (lv_at hl 0 rfl) ?_
  refine sb_lldv hx hb hG.1 hP 3 rfl 0 rfl (by omega) (by omega) (v := s0) rfl d_P_productLimb_18 ?_
  refine lv_aload_n hx hb d_P_productLimb_19 rfl (lv_at hl 2 rfl) ?_
  refine va_get (D := D) (ci := 4) (v := .ref q1) (C := R_P) (T := F_P) (N := 5) hx hb hts in_P hown hG.1 hP 0 rfl rfl 0 (by decide) (hts _ k_172) (fun _ h9 => h9) rfl d_P_productLimb_20 ?_
  refine lv_iload_n hx hb d_P_productLimb_23 rfl (lv_at hl 3 rfl) ?_
  refine lv_iload hx hb d_P_productLimb_24 (lv_at hl 0 rfl) ?_
  refine lv_isub hx hb d_P_productLimb_26 ?_
  refine sb_topn 4 (sb_eqn (a := 4 - 0) (b := 4) (sb_sub (a := 4) (b := 0) (by omega) rfl rfl) (by omega)) ?_
  refine sb_lldv hx hb hG.1 hP 1 rfl 4 rfl (by omega) (by omega) (v := k4) rfl d_P_productLimb_27 ?_
  refine lv_lmul hx hb d_P_productLimb_28 ?_
  refine lv_ladd hx hb d_P_productLimb_29 ?_
  refine lv_topl (fun x_2 ex_2 => ?_)
  refine lv_lstore_n (lv' := [(2, .long x_2), (4, .int 0), (0, .ref h), (1, .int (nI 4))]) hx hb d_P_productLimb_30 rfl hl (by decide) rfl (fun ls hl => ?_)
  refine lv_iinc (v := nI 1) (lv' := [(4, .int (nI 1)), (2, .long x_2), (0, .ref h), (1, .int (nI 4))]) hx hb d_P_productLimb_31 hl (k := 1) rfl (sb_inc (a := 0) (b := 1) (d := 1) rfl (by decide) (by omega)) (by decide) rfl (fun ls hl => ?_)
  refine lv_goto (tgt := 5) hx hb d_P_productLimb_34 (by decide) ?_
  refine lv_iload hx hb d_P_productLimb_5 (lv_at hl 0 rfl) ?_
  refine lv_iload_n hx hb d_P_productLimb_7 rfl (lv_at hl 3 rfl) ?_
  refine lv_icmp_gt (tgt := 37) hx hb d_P_productLimb_8 (by decide) (fun c_3 => absurd c_3 (sb_gtF (a := 1) (b := 4) rfl rfl (by omega) (by omega) (by omega))) (fun c_3 => ?_)
  refine lv_lload_n hx hb d_P_productLimb_11 rfl (lv_at hl 1 rfl) ?_
  refine lv_aload_n hx hb d_P_productLimb_12 rfl (lv_at hl 2 rfl) ?_
  refine va_get (D := D) (ci := 4) (v := .ref q3) (C := R_P) (T := F_P) (N := 5) hx hb hts in_P hown hG.1 hP 0 rfl rfl 2 (by decide) (hts _ k_174) (fun _ h9 => h9) rfl d_P_productLimb_13 ?_
  refine lv_iload hx hb d_P_productLimb_16 (lv_at hl 0 rfl) ?_
  refine sb_lldv hx hb hG.1 hP 3 rfl 1 rfl (by omega) (by omega) (v := s1) rfl d_P_productLimb_18 ?_
  refine lv_aload_n hx hb d_P_productLimb_19 rfl (lv_at hl 2 rfl) ?_
  refine va_get (D := D) (ci := 4) (v := .ref q1) (C := R_P) (T := F_P) (N := 5) hx hb hts in_P hown hG.1 hP 0 rfl rfl 0 (by decide) (hts _ k_172) (fun _ h9 => h9) rfl d_P_productLimb_20 ?_
  refine lv_iload_n hx hb d_P_productLimb_23 rfl (lv_at hl 3 rfl) ?_
  refine lv_iload hx hb d_P_productLimb_24 (lv_at hl 0 rfl) ?_
  refine lv_isub hx hb d_P_productLimb_26 ?_
  refine sb_topn 3 (sb_eqn (a := 4 - 1) (b := 3) (sb_sub (a := 4) (b := 1) (by omega) rfl rfl) (by omega)) ?_
  refine sb_lldv hx hb hG.1 hP 1 rfl 3 rfl (by omega) (by omega) (v := k3) rfl d_P_productLimb_27 ?_
  refine lv_lmul hx hb d_P_productLimb_28 ?_
  refine lv_ladd hx hb d_P_productLimb_29 ?_
  refine lv_topl (fun x_4 ex_4 => ?_)
  refine lv_lstore_n (lv' := [(2, .long x_4), (4, .int (nI 1)), (0, .ref h), (1, .int (nI 4))]) hx hb d_P_productLimb_30 rfl hl (by decide) rfl (fun ls hl => ?_)
  refine lv_iinc (v := nI 2) (lv' := [(4, .int (nI 2)), (2, .long x_4), (0, .ref h), (1, .int (nI 4))]) hx hb d_P_productLimb_31 hl (k := 1) rfl (sb_inc (a := 1) (b := 2) (d := 1) rfl (by decide) (by omega)) (by decide) rfl (fun ls hl => ?_)
  refine lv_goto (tgt := 5) hx hb d_P_productLimb_34 (by decide) ?_
  refine lv_iload hx hb d_P_productLimb_5 (lv_at hl 0 rfl) ?_
  refine lv_iload_n hx hb d_P_productLimb_7 rfl (lv_at hl 3 rfl) ?_
  refine lv_icmp_gt (tgt := 37) hx hb d_P_productLimb_8 (by decide) (fun c_5 => absurd c_5 (sb_gtF (a := 2) (b := 4) rfl rfl (by omega) (by omega) (by omega))) (fun c_5 => ?_)
  refine lv_lload_n hx hb d_P_productLimb_11 rfl (lv_at hl 1 rfl) ?_
  refine lv_aload_n hx hb d_P_productLimb_12 rfl (lv_at hl 2 rfl) ?_
  refine va_get (D := D) (ci := 4) (v := .ref q3) (C := R_P) (T := F_P) (N := 5) hx hb hts in_P hown hG.1 hP 0 rfl rfl 2 (by decide) (hts _ k_174) (fun _ h9 => h9) rfl d_P_productLimb_13 ?_
  refine lv_iload hx hb d_P_productLimb_16 (lv_at hl 0 rfl) ?_
  refine sb_lldv hx hb hG.1 hP 3 rfl 2 rfl (by omega) (by omega) (v := s2) rfl d_P_productLimb_18 ?_
  refine lv_aload_n hx hb d_P_productLimb_19 rfl (lv_at hl 2 rfl) ?_
  refine va_get (D := D) (ci := 4) (v := .ref q1) (C := R_P) (T := F_P) (N := 5) hx hb hts in_P hown hG.1 hP 0 rfl rfl 0 (by decide) (hts _ k_172) (fun _ h9 => h9) rfl d_P_productLimb_20 ?_
  refine lv_iload_n hx hb d_P_productLimb_23 rfl (lv_at hl 3 rfl) ?_
  refine lv_iload hx hb d_P_productLimb_24 (lv_at hl 0 rfl) ?_
  refine lv_isub hx hb d_P_productLimb_26 ?_
  refine sb_topn 2 (sb_eqn (a := 4 - 2) (b := 2) (sb_sub (a := 4) (b := 2) (by omega) rfl rfl) (by omega)) ?_
  refine sb_lldv hx hb hG.1 hP 1 rfl 2 rfl (by omega) (by omega) (v := k2) rfl d_P_productLimb_27 ?_
  refine lv_lmul hx hb d_P_productLimb_28 ?_
  refine lv_ladd hx hb d_P_productLimb_29 ?_
  refine lv_topl (fun x_6 ex_6 => ?_)
  refine lv_lstore_n (lv' := [(2, .long x_6), (4, .int (nI 2)), (0, .ref h), (1, .int (nI 4))]) hx hb d_P_productLimb_30 rfl hl (by decide) rfl (fun ls hl => ?_)
  refine lv_iinc (v := nI 3) (lv' := [(4, .int (nI 3)), (2, .long x_6), (0, .ref h), (1, .int (nI 4))]) hx hb d_P_productLimb_31 hl (k := 1) rfl (sb_inc (a := 2) (b := 3) (d := 1) rfl (by decide) (by omega)) (by decide) rfl (fun ls hl => ?_)
  refine lv_goto (tgt := 5) hx hb d_P_productLimb_34 (by decide) ?_
  refine lv_iload hx hb d_P_productLimb_5 (lv_at hl 0 rfl) ?_
  refine lv_iload_n hx hb d_P_productLimb_7 rfl (lv_at hl 3 rfl) ?_
  refine lv_icmp_gt (tgt := 37) hx hb d_P_productLimb_8 (by decide) (fun c_7 => absurd c_7 (sb_gtF (a := 3) (b := 4) rfl rfl (by omega) (by omega) (by omega))) (fun c_7 => ?_)
  refine lv_lload_n hx hb d_P_productLimb_11 rfl (lv_at hl 1 rfl) ?_
  refine lv_aload_n hx hb d_P_productLimb_12 rfl (lv_at hl 2 rfl) ?_
  refine va_get (D := D) (ci := 4) (v := .ref q3) (C := R_P) (T := F_P) (N := 5) hx hb hts in_P hown hG.1 hP 0 rfl rfl 2 (by decide) (hts _ k_174) (fun _ h9 => h9) rfl d_P_productLimb_13 ?_
  refine lv_iload hx hb d_P_productLimb_16 (lv_at hl 0 rfl) ?_
  refine sb_lldv hx hb hG.1 hP 3 rfl 3 rfl (by omega) (by omega) (v := s3) rfl d_P_productLimb_18 ?_
  refine lv_aload_n hx hb d_P_productLimb_19 rfl (lv_at hl 2 rfl) ?_
  refine va_get (D := D) (ci := 4) (v := .ref q1) (C := R_P) (T := F_P) (N := 5) hx hb hts in_P hown hG.1 hP 0 rfl rfl 0 (by decide) (hts _ k_172) (fun _ h9 => h9) rfl d_P_productLimb_20 ?_
  refine lv_iload_n hx hb d_P_productLimb_23 rfl (lv_at hl 3 rfl) ?_
  refine lv_iload hx hb d_P_productLimb_24 (lv_at hl 0 rfl) ?_
  refine lv_isub hx hb d_P_productLimb_26 ?_
  refine sb_topn 1 (sb_eqn (a := 4 - 3) (b := 1) (sb_sub (a := 4) (b := 3) (by omega) rfl rfl) (by omega)) ?_
  refine sb_lldv hx hb hG.1 hP 1 rfl 1 rfl (by omega) (by omega) (v := k1) rfl d_P_productLimb_27 ?_
  refine lv_lmul hx hb d_P_productLimb_28 ?_
  refine lv_ladd hx hb d_P_productLimb_29 ?_
  refine lv_topl (fun x_8 ex_8 => ?_)
  refine lv_lstore_n (lv' := [(2, .long x_8), (4, .int (nI 3)), (0, .ref h), (1, .int (nI 4))]) hx hb d_P_productLimb_30 rfl hl (by decide) rfl (fun ls hl => ?_)
  refine lv_iinc (v := nI 4) (lv' := [(4, .int (nI 4)), (2, .long x_8), (0, .ref h), (1, .int (nI 4))]) hx hb d_P_productLimb_31 hl (k := 1) rfl (sb_inc (a := 3) (b := 4) (d := 1) rfl (by decide) (by omega)) (by decide) rfl (fun ls hl => ?_)
  refine lv_goto (tgt := 5) hx hb d_P_productLimb_34 (by decide) ?_
  refine lv_iload hx hb d_P_productLimb_5 (lv_at hl 0 rfl) ?_
  refine lv_iload_n hx hb d_P_productLimb_7 rfl (lv_at hl 3 rfl) ?_
  refine lv_icmp_gt (tgt := 37) hx hb d_P_productLimb_8 (by decide) (fun c_9 => absurd c_9 (sb_gtF (a := 4) (b := 4) rfl rfl (by omega) (by omega) (by omega))) (fun c_9 => ?_)
  refine lv_lload_n hx hb d_P_productLimb_11 rfl (lv_at hl 1 rfl) ?_
  refine lv_aload_n hx hb d_P_productLimb_12 rfl (lv_at hl 2 rfl) ?_
  refine va_get (D := D) (ci := 4) (v := .ref q3) (C := R_P) (T := F_P) (N := 5) hx hb hts in_P hown hG.1 hP 0 rfl rfl 2 (by decide) (hts _ k_174) (fun _ h9 => h9) rfl d_P_productLimb_13 ?_
  refine lv_iload hx hb d_P_productLimb_16 (lv_at hl 0 rfl) ?_
  refine sb_lldv hx hb hG.1 hP 3 rfl 4 rfl (by omega) (by omega) (v := s4) rfl d_P_productLimb_18 ?_
  refine lv_aload_n hx hb d_P_productLimb_19 rfl (lv_at hl 2 rfl) ?_
  refine va_get (D := D) (ci := 4) (v := .ref q1) (C := R_P) (T := F_P) (N := 5) hx hb hts in_P hown hG.1 hP 0 rfl rfl 0 (by decide) (hts _ k_172) (fun _ h9 => h9) rfl d_P_productLimb_20 ?_
  refine lv_iload_n hx hb d_P_productLimb_23 rfl (lv_at hl 3 rfl) ?_
  refine lv_iload hx hb d_P_productLimb_24 (lv_at hl 0 rfl) ?_
  refine lv_isub hx hb d_P_productLimb_26 ?_
  refine sb_topn 0 (sb_eqn (a := 4 - 4) (b := 0) (sb_sub (a := 4) (b := 4) (by omega) rfl rfl) (by omega)) ?_
  refine sb_lldv hx hb hG.1 hP 1 rfl 0 rfl (by omega) (by omega) (v := k0) rfl d_P_productLimb_27 ?_
  refine lv_lmul hx hb d_P_productLimb_28 ?_
  refine lv_ladd hx hb d_P_productLimb_29 ?_
  refine lv_topl (fun x_10 ex_10 => ?_)
  refine lv_lstore_n (lv' := [(2, .long x_10), (4, .int (nI 4)), (0, .ref h), (1, .int (nI 4))]) hx hb d_P_productLimb_30 rfl hl (by decide) rfl (fun ls hl => ?_)
  refine lv_iinc (v := nI 5) (lv' := [(4, .int (nI 5)), (2, .long x_10), (0, .ref h), (1, .int (nI 4))]) hx hb d_P_productLimb_31 hl (k := 1) rfl (sb_inc (a := 4) (b := 5) (d := 1) rfl (by decide) (by omega)) (by decide) rfl (fun ls hl => ?_)
  refine lv_goto (tgt := 5) hx hb d_P_productLimb_34 (by decide) ?_
  refine lv_iload hx hb d_P_productLimb_5 (lv_at hl 0 rfl) ?_
  refine lv_iload_n hx hb d_P_productLimb_7 rfl (lv_at hl 3 rfl) ?_
  refine lv_icmp_gt (tgt := 37) hx hb d_P_productLimb_8 (by decide) (fun c_11 => ?_) (fun c_11 => absurd (sb_gtT (a := 5) (b := 4) rfl rfl (by omega) (by omega) (by omega)) c_11)
  refine lv_iload_n hx hb d_P_productLimb_37 rfl (lv_at hl 3 rfl) ?_
  refine lv_iconst (v := 1) hx hb d_P_productLimb_38 (by decide) ?_
  refine lv_iadd hx hb d_P_productLimb_39 ?_
  refine sb_topn 5 (sb_eqn (a := 4 + 1) (b := 5) (nI_add 4 1) (by omega)) ?_
  refine lv_istore (lv' := [(4, .int (nI 5)), (2, .long x_10), (0, .ref h), (1, .int (nI 4))]) hx hb d_P_productLimb_40 hl (by decide) rfl (fun ls hl => ?_)
  refine lv_iload hx hb d_P_productLimb_42 (lv_at hl 0 rfl) ?_
  refine lv_iconst (v := 5) hx hb d_P_productLimb_44 (by decide) ?_
  refine lv_icmp_ge (tgt := 76) hx hb d_P_productLimb_45 (by decide) (fun c_12 => ?_) (fun c_12 => absurd (sb_geT (a := 5) (b := 5) rfl rfl (by omega) (by omega) (by omega)) c_12)
  refine lv_lload_n hx hb d_P_productLimb_76 rfl (lv_at hl 1 rfl) ?_
  exact W.lret (v := x_10) hx hb hr (fun t ht hW => ⟨_, rfl, (by subst_vars; rfl), ht⟩) hS.2.2 d_P_productLimb_77

theorem d_P_carry_0 : decode b_P_carry 0 = .ok (.lconst 0, 1) := by decide +kernel
theorem d_P_carry_1 : decode b_P_carry 1 = .ok (.lstore_n 1, 1) := by decide +kernel
theorem d_P_carry_2 : decode b_P_carry 2 = .ok (.iconst 0, 1) := by decide +kernel
theorem d_P_carry_3 : decode b_P_carry 3 = .ok (.istore_n 3, 1) := by decide +kernel
theorem d_P_carry_4 : decode b_P_carry 4 = .ok (.iload_n 3, 1) := by decide +kernel
theorem d_P_carry_5 : decode b_P_carry 5 = .ok (.iconst 5, 1) := by decide +kernel
theorem d_P_carry_6 : decode b_P_carry 6 = .ok (.if_icmp .ge 37, 3) := by decide +kernel
theorem d_P_carry_9 : decode b_P_carry 9 = .ok (.aload_n 0, 1) := by decide +kernel
theorem d_P_carry_10 : decode b_P_carry 10 = .ok (.getfield 18, 3) := by decide +kernel
theorem d_P_carry_13 : decode b_P_carry 13 = .ok (.iload_n 3, 1) := by decide +kernel
theorem d_P_carry_14 : decode b_P_carry 14 = .ok (.laload, 1) := by decide +kernel
theorem d_P_carry_15 : decode b_P_carry 15 = .ok (.lload_n 1, 1) := by decide +kernel
theorem d_P_carry_16 : decode b_P_carry 16 = .ok (.ladd, 1) := by decide +kernel
theorem d_P_carry_17 : decode b_P_carry 17 = .ok (.lstore 4, 2) := by decide +kernel
theorem d_P_carry_19 : decode b_P_carry 19 = .ok (.aload_n 0, 1) := by decide +kernel
theorem d_P_carry_20 : decode b_P_carry 20 = .ok (.getfield 18, 3) := by decide +kernel
theorem d_P_carry_23 : decode b_P_carry 23 = .ok (.iload_n 3, 1) := by decide +kernel
theorem d_P_carry_24 : decode b_P_carry 24 = .ok (.lload 4, 2) := by decide +kernel
theorem d_P_carry_26 : decode b_P_carry 26 = .ok (.ldc2_w 63, 3) := by decide +kernel
theorem d_P_carry_29 : decode b_P_carry 29 = .ok (.land, 1) := by decide +kernel
theorem d_P_carry_30 : decode b_P_carry 30 = .ok (.lastore, 1) := by decide +kernel
theorem d_P_carry_31 : decode b_P_carry 31 = .ok (.lload 4, 2) := by decide +kernel
theorem d_P_carry_33 : decode b_P_carry 33 = .ok (.bipush 26, 2) := by decide +kernel
theorem d_P_carry_35 : decode b_P_carry 35 = .ok (.lushr, 1) := by decide +kernel
theorem d_P_carry_36 : decode b_P_carry 36 = .ok (.lstore_n 1, 1) := by decide +kernel
theorem d_P_carry_37 : decode b_P_carry 37 = .ok (.iinc 3 1, 3) := by decide +kernel
theorem d_P_carry_40 : decode b_P_carry 40 = .ok (.goto (-36), 3) := by decide +kernel
theorem d_P_carry_43 : decode b_P_carry 43 = .ok (.aload_n 0, 1) := by decide +kernel
theorem d_P_carry_44 : decode b_P_carry 44 = .ok (.getfield 18, 3) := by decide +kernel
theorem d_P_carry_47 : decode b_P_carry 47 = .ok (.iconst 0, 1) := by decide +kernel
theorem d_P_carry_48 : decode b_P_carry 48 = .ok (.dup2, 1) := by decide +kernel
theorem d_P_carry_49 : decode b_P_carry 49 = .ok (.laload, 1) := by decide +kernel
theorem d_P_carry_50 : decode b_P_carry 50 = .ok (.ldc2_w 44, 3) := by decide +kernel
theorem d_P_carry_53 : decode b_P_carry 53 = .ok (.lload_n 1, 1) := by decide +kernel
theorem d_P_carry_54 : decode b_P_carry 54 = .ok (.lmul, 1) := by decide +kernel
theorem d_P_carry_55 : decode b_P_carry 55 = .ok (.ladd, 1) := by decide +kernel
theorem d_P_carry_56 : decode b_P_carry 56 = .ok (.lastore, 1) := by decide +kernel
theorem d_P_carry_57 : decode b_P_carry 57 = .ok (.aload_n 0, 1) := by decide +kernel
theorem d_P_carry_58 : decode b_P_carry 58 = .ok (.getfield 18, 3) := by decide +kernel
theorem d_P_carry_61 : decode b_P_carry 61 = .ok (.iconst 1, 1) := by decide +kernel
theorem d_P_carry_62 : decode b_P_carry 62 = .ok (.dup2, 1) := by decide +kernel
theorem d_P_carry_63 : decode b_P_carry 63 = .ok (.laload, 1) := by decide +kernel
theorem d_P_carry_64 : decode b_P_carry 64 = .ok (.aload_n 0, 1) := by decide +kernel
theorem d_P_carry_65 : decode b_P_carry 65 = .ok (.getfield 18, 3) := by decide +kernel
theorem d_P_carry_68 : decode b_P_carry 68 = .ok (.iconst 0, 1) := by decide +kernel
theorem d_P_carry_69 : decode b_P_carry 69 = .ok (.laload, 1) := by decide +kernel
theorem d_P_carry_70 : decode b_P_carry 70 = .ok (.bipush 26, 2) := by decide +kernel
theorem d_P_carry_72 : decode b_P_carry 72 = .ok (.lushr, 1) := by decide +kernel
theorem d_P_carry_73 : decode b_P_carry 73 = .ok (.ladd, 1) := by decide +kernel
theorem d_P_carry_74 : decode b_P_carry 74 = .ok (.lastore, 1) := by decide +kernel
theorem d_P_carry_75 : decode b_P_carry 75 = .ok (.aload_n 0, 1) := by decide +kernel
theorem d_P_carry_76 : decode b_P_carry 76 = .ok (.getfield 18, 3) := by decide +kernel
theorem d_P_carry_79 : decode b_P_carry 79 = .ok (.iconst 0, 1) := by decide +kernel
theorem d_P_carry_80 : decode b_P_carry 80 = .ok (.dup2, 1) := by decide +kernel
theorem d_P_carry_81 : decode b_P_carry 81 = .ok (.laload, 1) := by decide +kernel
theorem d_P_carry_82 : decode b_P_carry 82 = .ok (.ldc2_w 63, 3) := by decide +kernel
theorem d_P_carry_85 : decode b_P_carry 85 = .ok (.land, 1) := by decide +kernel
theorem d_P_carry_86 : decode b_P_carry 86 = .ok (.lastore, 1) := by decide +kernel
theorem d_P_carry_87 : decode b_P_carry 87 = .ok (.return_, 1) := by decide +kernel

def rm_P_carry : Room := { frames := 0, cells := 0, slots := 0, locals := 0 }
set_option maxHeartbeats 4000000 in
set_option maxRecDepth 100000 in
theorem c_P_carry (l : Launch) (D : va_G) (cI cL cB : ClassId) (tS tF : Nat) (h : Nat) (q1 : Nat) (q2 : Nat) (q3 : Nat) (q4 : Nat) (q5 : Nat) (s0 : Int64) (s1 : Int64) (s2 : Int64) (s3 : Int64) (s4 : Int64) (sz : Nat)  : Met l y_P_carry (sbw y_P_carry b_P_carry 6 none) rm_P_carry (sbPc D cI cL cB tS tF [.ref h] sz [(h, .inr (4, [.ref q1, .ref q2, .ref q3, .ref q4, .ref q5])), (q3, .inl (cL, 5, .inr (.inl (l5 s0 s1 s2 s3 s4))))]) (sbQv D (fun (_ : Unit) => True) (fun (_ : Unit) => [(h, .inr (4, [.ref q1, .ref q2, .ref q3, .ref q4, .ref q5])), (q3, .inl (cL, 5, .inr (.inl (l5 ((pcar s0 s1 s2 s3 s4).1) ((pcar s0 s1 s2 s3 s4).2.1) ((pcar s0 s1 s2 s3 s4).2.2.1) ((pcar s0 s1 s2 s3 s4).2.2.2.1) ((pcar s0 s1 s2 s3 s4).2.2.2.2)))))]) (va_A [(h, .inr (4, [.ref q1, .ref q2, .ref q3, .ref q4, .ref q5])), (q3, .inl (cL, 5, .inr (.inl (l5 s0 s1 s2 s3 s4))))] sz)) 0 0 (va_A [(h, .inr (4, [.ref q1, .ref q2, .ref q3, .ref q4, .ref q5])), (q3, .inl (cL, 5, .inr (.inl (l5 s0 s1 s2 s3 s4))))] sz) := by
  refine sb_ofW (Qc := fun A => (sbQv D (fun (_ : Unit) => True) (fun (_ : Unit) => [(h, .inr (4, [.ref q1, .ref q2, .ref q3, .ref q4, .ref q5])), (q3, .inl (cL, 5, .inr (.inl (l5 ((pcar s0 s1 s2 s3 s4).1) ((pcar s0 s1 s2 s3 s4).2.1) ((pcar s0 s1 s2 s3 s4).2.2.1) ((pcar s0 s1 s2 s3 s4).2.2.2.1) ((pcar s0 s1 s2 s3 s4).2.2.2.2)))))]) A)) (by decide) (Nat.le_of_ble_eq_true rfl) ?_
  intro p e s m args below meth c A ls hx hb hr hml hts hown hlocks hin hsz hP hG hD hA hS hl
  have hl : lv_has ls 6 [(0, .ref h)] := hl
  refine lv_lconst (v := 0) hx hb d_P_carry_0 (by decide) ?_
  refine lv_lstore_n (lv' := [(1, .long 0), (0, .ref h)]) hx hb d_P_carry_1 rfl hl (by decide) rfl (fun ls hl => ?_)
  refine lv_iconst (v := 0) hx hb d_P_carry_2 (by decide) ?_
  refine lv_istore_n (lv' := [(3, .int 0), (1, .long 0), (0, .ref h)]) hx hb d_P_carry_3 rfl hl (by decide) rfl (fun ls hl => ?_)
  refine lv_iload_n hx hb d_P_carry_4 rfl (lv_at hl 0 rfl) ?_
  refine lv_iconst (v := 5) hx hb d_P_carry_5 (by decide) ?_
  refine lv_icmp_ge (tgt := 43) hx hb d_P_carry_6 (by decide) (fun c_1 => absurd c_1 (sb_geF (a := 0) (b := 5) rfl rfl (by omega) (by omega) (by omega))) (fun c_1 => ?_)
  refine lv_aload_n hx hb d_P_carry_9 rfl (lv_at hl 2 rfl) ?_
  refine va_get (D := D) (ci := 4) (v := .ref q3) (C := R_P) (T := F_P) (N := 5) hx hb hts in_P hown hG.1 hP 0 rfl rfl 2 (by decide) (hts _ k_174) (fun _ h9 => h9) rfl d_P_carry_10 ?_
  refine lv_iload_n hx hb d_P_carry_13 rfl (lv_at hl 0 rfl) ?_
  refine sb_lldv hx hb hG.1 hP 1 rfl 0 rfl (by omega) (by omega) (v := s0) rfl d_P_carry_14 ?_
  refine lv_lload_n hx hb d_P_carry_15 rfl (lv_at hl 1 rfl) ?_
  refine lv_ladd hx hb d_P_carry_16 ?_
  refine lv_topl (fun x_2 ex_2 => ?_)
  refine lv_lstore (lv' := [(4, .long x_2), (3, .int 0), (1, .long 0), (0, .ref h)]) hx hb d_P_carry_17 hl (by decide) rfl (fun ls hl => ?_)
  refine lv_aload_n hx hb d_P_carry_19 rfl (lv_at hl 3 rfl) ?_
  refine va_get (D := D) (ci := 4) (v := .ref q3) (C := R_P) (T := F_P) (N := 5) hx hb hts in_P hown hG.1 hP 0 rfl rfl 2 (by decide) (hts _ k_174) (fun _ h9 => h9) rfl d_P_carry_20 ?_
  refine lv_iload_n hx hb d_P_carry_23 rfl (lv_at hl 1 rfl) ?_
  refine lv_lload hx hb d_P_carry_24 (lv_at hl 0 rfl) ?_
  refine lv_ldc2 (v := 67108863) hx hb hown (hts (.constantLong R_P 63 67108863) (by decide +kernel)) d_P_carry_26 ?_
  refine lv_land hx hb d_P_carry_29 ?_
  refine lv_topl (fun x_3 ex_3 => ?_)
  refine sb_lst hx hb hG.1 hP hD hS 1 rfl 0 rfl (by omega) (by omega) d_P_carry_30 (fun f_4 H locs ef_4 hP hD hS => ?_)
  have hP : va_P D vwCl [(h, .inr (4, [.ref q1, .ref q2, .ref q3, .ref q4, .ref q5])), (q3, .inl (cL, 5, .inr (.inl f_4)))] H := hP
  have hD : va_D A [(h, .inr (4, [.ref q1, .ref q2, .ref q3, .ref q4, .ref q5])), (q3, .inl (cL, 5, .inr (.inl f_4)))] := hD
  obtain rfl : f_4 = l5 x_3 s1 s2 s3 s4 := ef_4.trans (l5_set0 ..)
  refine lv_lload hx hb d_P_carry_31 (lv_at hl 0 rfl) ?_
  refine lv_bipush (v := 26) hx hb d_P_carry_33 (by decide) ?_
  refine lv_lushr (v := uL x_2 26) hx hb d_P_carry_35 rfl ?_
  refine lv_topl (fun x_5 ex_5 => ?_)
  refine lv_lstore_n (lv' := [(1, .long x_5), (4, .long x_2), (3, .int 0), (0, .ref h)]) hx hb d_P_carry_36 rfl hl (by decide) rfl (fun ls hl => ?_)
  refine lv_iinc (v := nI 1) (lv' := [(3, .int (nI 1)), (1, .long x_5), (4, .long x_2), (0, .ref h)]) hx hb d_P_carry_37 hl (k := 2) rfl (sb_inc (a := 0) (b := 1) (d := 1) rfl (by decide) (by omega)) (by decide) rfl (fun ls hl => ?_)
  refine lv_goto (tgt := 4) hx hb d_P_carry_40 (by decide) ?_
  refine lv_iload_n hx hb d_P_carry_4 rfl (lv_at hl 0 rfl) ?_
  refine lv_iconst (v := 5) hx hb d_P_carry_5 (by decide) ?_
  refine lv_icmp_ge (tgt := 43) hx hb d_P_carry_6 (by decide) (fun c_6 => absurd c_6 (sb_geF (a := 1) (b := 5) rfl rfl (by omega) (by omega) (by omega))) (fun c_6 => ?_)
  refine lv_aload_n hx hb d_P_carry_9 rfl (lv_at hl 3 rfl) ?_
  refine va_get (D := D) (ci := 4) (v := .ref q3) (C := R_P) (T := F_P) (N := 5) hx hb hts in_P hown hG.1 hP 0 rfl rfl 2 (by decide) (hts _ k_174) (fun _ h9 => h9) rfl d_P_carry_10 ?_
  refine lv_iload_n hx hb d_P_carry_13 rfl (lv_at hl 0 rfl) ?_
  refine sb_lldv hx hb hG.1 hP 1 rfl 1 rfl (by omega) (by omega) (v := s1) rfl d_P_carry_14 ?_
  refine lv_lload_n hx hb d_P_carry_15 rfl (lv_at hl 1 rfl) ?_
  refine lv_ladd hx hb d_P_carry_16 ?_
  refine lv_topl (fun x_7 ex_7 => ?_)
  refine lv_lstore (lv' := [(4, .long x_7), (3, .int (nI 1)), (1, .long x_5), (0, .ref h)]) hx hb d_P_carry_17 hl (by decide) rfl (fun ls hl => ?_)
  refine lv_aload_n hx hb d_P_carry_19 rfl (lv_at hl 3 rfl) ?_
  refine va_get (D := D) (ci := 4) (v := .ref q3) (C := R_P) (T := F_P) (N := 5) hx hb hts in_P hown hG.1 hP 0 rfl rfl 2 (by decide) (hts _ k_174) (fun _ h9 => h9) rfl d_P_carry_20 ?_
  refine lv_iload_n hx hb d_P_carry_23 rfl (lv_at hl 1 rfl) ?_
  refine lv_lload hx hb d_P_carry_24 (lv_at hl 0 rfl) ?_
  refine lv_ldc2 (v := 67108863) hx hb hown (hts (.constantLong R_P 63 67108863) (by decide +kernel)) d_P_carry_26 ?_
  refine lv_land hx hb d_P_carry_29 ?_
  refine lv_topl (fun x_8 ex_8 => ?_)
  refine sb_lst hx hb hG.1 hP hD hS 1 rfl 1 rfl (by omega) (by omega) d_P_carry_30 (fun f_9 H locs ef_9 hP hD hS => ?_)
  have hP : va_P D vwCl [(h, .inr (4, [.ref q1, .ref q2, .ref q3, .ref q4, .ref q5])), (q3, .inl (cL, 5, .inr (.inl f_9)))] H := hP
  have hD : va_D A [(h, .inr (4, [.ref q1, .ref q2, .ref q3, .ref q4, .ref q5])), (q3, .inl (cL, 5, .inr (.inl f_9)))] := hD
  obtain rfl : f_9 = l5 x_3 x_8 s2 s3 s4 := ef_9.trans (l5_set1 ..)
  refine lv_lload hx hb d_P_carry_31 (lv_at hl 0 rfl) ?_
  refine lv_bipush (v := 26) hx hb d_P_carry_33 (by decide) ?_
  refine lv_lushr (v := uL x_7 26) hx hb d_P_carry_35 rfl ?_
  refine lv_topl (fun x_10 ex_10 => ?_)
  refine lv_lstore_n (lv' := [(1, .long x_10), (4, .long x_7), (3, .int (nI 1)), (0, .ref h)]) hx hb d_P_carry_36 rfl hl (by decide) rfl (fun ls hl => ?_)
  refine lv_iinc (v := nI 2) (lv' := [(3, .int (nI 2)), (1, .long x_10), (4, .long x_7), (0, .ref h)]) hx hb d_P_carry_37 hl (k := 2) rfl (sb_inc (a := 1) (b := 2) (d := 1) rfl (by decide) (by omega)) (by decide) rfl (fun ls hl => ?_)
  refine lv_goto (tgt := 4) hx hb d_P_carry_40 (by decide) ?_
  refine lv_iload_n hx hb d_P_carry_4 rfl (lv_at hl 0 rfl) ?_
  refine lv_iconst (v := 5) hx hb d_P_carry_5 (by decide) ?_
  refine lv_icmp_ge (tgt := 43) hx hb d_P_carry_6 (by decide) (fun c_11 => absurd c_11 (sb_geF (a := 2) (b := 5) rfl rfl (by omega) (by omega) (by omega))) (fun c_11 => ?_)
  refine lv_aload_n hx hb d_P_carry_9 rfl (lv_at hl 3 rfl) ?_
  refine va_get (D := D) (ci := 4) (v := .ref q3) (C := R_P) (T := F_P) (N := 5) hx hb hts in_P hown hG.1 hP 0 rfl rfl 2 (by decide) (hts _ k_174) (fun _ h9 => h9) rfl d_P_carry_10 ?_
  refine lv_iload_n hx hb d_P_carry_13 rfl (lv_at hl 0 rfl) ?_
  refine sb_lldv hx hb hG.1 hP 1 rfl 2 rfl (by omega) (by omega) (v := s2) rfl d_P_carry_14 ?_
  refine lv_lload_n hx hb d_P_carry_15 rfl (lv_at hl 1 rfl) ?_
  refine lv_ladd hx hb d_P_carry_16 ?_
  refine lv_topl (fun x_12 ex_12 => ?_)
  refine lv_lstore (lv' := [(4, .long x_12), (3, .int (nI 2)), (1, .long x_10), (0, .ref h)]) hx hb d_P_carry_17 hl (by decide) rfl (fun ls hl => ?_)
  refine lv_aload_n hx hb d_P_carry_19 rfl (lv_at hl 3 rfl) ?_
  refine va_get (D := D) (ci := 4) (v := .ref q3) (C := R_P) (T := F_P) (N := 5) hx hb hts in_P hown hG.1 hP 0 rfl rfl 2 (by decide) (hts _ k_174) (fun _ h9 => h9) rfl d_P_carry_20 ?_
  refine lv_iload_n hx hb d_P_carry_23 rfl (lv_at hl 1 rfl) ?_
  refine lv_lload hx hb d_P_carry_24 (lv_at hl 0 rfl) ?_
  refine lv_ldc2 (v := 67108863) hx hb hown (hts (.constantLong R_P 63 67108863) (by decide +kernel)) d_P_carry_26 ?_
  refine lv_land hx hb d_P_carry_29 ?_
  refine lv_topl (fun x_13 ex_13 => ?_)
  refine sb_lst hx hb hG.1 hP hD hS 1 rfl 2 rfl (by omega) (by omega) d_P_carry_30 (fun f_14 H locs ef_14 hP hD hS => ?_)
  have hP : va_P D vwCl [(h, .inr (4, [.ref q1, .ref q2, .ref q3, .ref q4, .ref q5])), (q3, .inl (cL, 5, .inr (.inl f_14)))] H := hP
  have hD : va_D A [(h, .inr (4, [.ref q1, .ref q2, .ref q3, .ref q4, .ref q5])), (q3, .inl (cL, 5, .inr (.inl f_14)))] := hD
  obtain rfl : f_14 = l5 x_3 x_8 x_13 s3 s4 := ef_14.trans (l5_set2 ..)
  refine lv_lload hx hb d_P_carry_31 (lv_at hl 0 rfl) ?_
  refine lv_bipush (v := 26) hx hb d_P_carry_33 (by decide) ?_
  refine lv_lushr (v := uL x_12 26) hx hb d_P_carry_35 rfl ?_
  refine lv_topl (fun x_15 ex_15 => ?_)
  refine lv_lstore_n (lv' := [(1, .long x_15), (4, .long x_12), (3, .int (nI 2)), (0, .ref h)]) hx hb d_P_carry_36 rfl hl (by decide) rfl (fun ls hl => ?_)
  refine lv_iinc (v := nI 3) (lv' := [(3, .int (nI 3)), (1, .long x_15), (4, .long x_12), (0, .ref h)]) hx hb d_P_carry_37 hl (k := 2) rfl (sb_inc (a := 2) (b := 3) (d := 1) rfl (by decide) (by omega)) (by decide) rfl (fun ls hl => ?_)
  refine lv_goto (tgt := 4) hx hb d_P_carry_40 (by decide) ?_
  refine lv_iload_n hx hb d_P_carry_4 rfl (lv_at hl 0 rfl) ?_
  refine lv_iconst (v := 5) hx hb d_P_carry_5 (by decide) ?_
  refine lv_icmp_ge (tgt := 43) hx hb d_P_carry_6 (by decide) (fun c_16 => absurd c_16 (sb_geF (a := 3) (b := 5) rfl rfl (by omega) (by omega) (by omega))) (fun c_16 => ?_)
  refine lv_aload_n hx hb d_P_carry_9 rfl (lv_at hl 3 rfl) ?_
  refine va_get (D := D) (ci := 4) (v := .ref q3) (C := R_P) (T := F_P) (N := 5) hx hb hts in_P hown hG.1 hP 0 rfl rfl 2 (by decide) (hts _ k_174) (fun _ h9 => h9) rfl d_P_carry_10 ?_
  refine lv_iload_n hx hb d_P_carry_13 rfl (lv_at hl 0 rfl) ?_
  refine sb_lldv hx hb hG.1 hP 1 rfl 3 rfl (by omega) (by omega) (v := s3) rfl d_P_carry_14 ?_
  refine lv_lload_n hx hb d_P_carry_15 rfl (lv_at hl 1 rfl) ?_
  refine lv_ladd hx hb d_P_carry_16 ?_
  refine lv_topl (fun x_17 ex_17 => ?_)
  refine lv_lstore (lv' := [(4, .long x_17), (3, .int (nI 3)), (1, .long x_15), (0, .ref h)]) hx hb d_P_carry_17 hl (by decide) rfl (fun ls hl => ?_)
  refine lv_aload_n hx hb d_P_carry_19 rfl (lv_at hl 3 rfl) ?_
  refine va_get (D := D) (ci := 4) (v := .ref q3) (C := R_P) (T := F_P) (N := 5) hx hb hts in_P hown hG.1 hP 0 rfl rfl 2 (by decide) (hts _ k_174) (fun _ h9 => h9) rfl d_P_carry_20 ?_
  refine lv_iload_n hx hb d_P_carry_23 rfl (lv_at hl 1 rfl) ?_
  refine lv_lload hx hb d_P_carry_24 (lv_at hl 0 rfl) ?_
  refine lv_ldc2 (v := 67108863) hx hb hown (hts (.constantLong R_P 63 67108863) (by decide +kernel)) d_P_carry_26 ?_
  refine lv_land hx hb d_P_carry_29 ?_
  refine lv_topl (fun x_18 ex_18 => ?_)
  refine sb_lst hx hb hG.1 hP hD hS 1 rfl 3 rfl (by omega) (by omega) d_P_carry_30 (fun f_19 H locs ef_19 hP hD hS => ?_)
  have hP : va_P D vwCl [(h, .inr (4, [.ref q1, .ref q2, .ref q3, .ref q4, .ref q5])), (q3, .inl (cL, 5, .inr (.inl f_19)))] H := hP
  have hD : va_D A [(h, .inr (4, [.ref q1, .ref q2, .ref q3, .ref q4, .ref q5])), (q3, .inl (cL, 5, .inr (.inl f_19)))] := hD
  obtain rfl : f_19 = l5 x_3 x_8 x_13 x_18 s4 := ef_19.trans (l5_set3 ..)
  refine lv_lload hx hb d_P_carry_31 (lv_at hl 0 rfl) ?_
  refine lv_bipush (v := 26) hx hb d_P_carry_33 (by decide) ?_
  refine lv_lushr (v := uL x_17 26) hx hb d_P_carry_35 rfl ?_
  refine lv_topl (fun x_20 ex_20 => ?_)
  refine lv_lstore_n (lv' := [(1, .long x_20), (4, .long x_17), (3, .int (nI 3)), (0, .ref h)]) hx hb d_P_carry_36 rfl hl (by decide) rfl (fun ls hl => ?_)
  refine lv_iinc (v := nI 4) (lv' := [(3, .int (nI 4)), (1, .long x_20), (4, .long x_17), (0, .ref h)]) hx hb d_P_carry_37 hl (k := 2) rfl (sb_inc (a := 3) (b := 4) (d := 1) rfl (by decide) (by omega)) (by decide) rfl (fun ls hl => ?_)
  refine lv_goto (tgt := 4) hx hb d_P_carry_40 (by decide) ?_
  refine lv_iload_n hx hb d_P_carry_4 rfl (lv_at hl 0 rfl) ?_
  refine lv_iconst (v := 5) hx hb d_P_carry_5 (by decide) ?_
  refine lv_icmp_ge (tgt := 43) hx hb d_P_carry_6 (by decide) (fun c_21 => absurd c_21 (sb_geF (a := 4) (b := 5) rfl rfl (by omega) (by omega) (by omega))) (fun c_21 => ?_)
  refine lv_aload_n hx hb d_P_carry_9 rfl (lv_at hl 3 rfl) ?_
  refine va_get (D := D) (ci := 4) (v := .ref q3) (C := R_P) (T := F_P) (N := 5) hx hb hts in_P hown hG.1 hP 0 rfl rfl 2 (by decide) (hts _ k_174) (fun _ h9 => h9) rfl d_P_carry_10 ?_
  refine lv_iload_n hx hb d_P_carry_13 rfl (lv_at hl 0 rfl) ?_
  refine sb_lldv hx hb hG.1 hP 1 rfl 4 rfl (by omega) (by omega) (v := s4) rfl d_P_carry_14 ?_
  refine lv_lload_n hx hb d_P_carry_15 rfl (lv_at hl 1 rfl) ?_
  refine lv_ladd hx hb d_P_carry_16 ?_
  refine lv_topl (fun x_22 ex_22 => ?_)
  refine lv_lstore (lv' := [(4, .long x_22), (3, .int (nI 4)), (1, .long x_20), (0, .ref h)]) hx hb d_P_carry_17 hl (by decide) rfl (fun ls hl => ?_)
  refine lv_aload_n hx hb d_P_carry_19 rfl (lv_at hl 3 rfl) ?_
  refine va_get (D := D) (ci := 4) (v := .ref q3) (C := R_P) (T := F_P) (N := 5) hx hb hts in_P hown hG.1 hP 0 rfl rfl 2 (by decide) (hts _ k_174) (fun _ h9 => h9) rfl d_P_carry_20 ?_
  refine lv_iload_n hx hb d_P_carry_23 rfl (lv_at hl 1 rfl) ?_
  refine lv_lload hx hb d_P_carry_24 (lv_at hl 0 rfl) ?_
  refine lv_ldc2 (v := 67108863) hx hb hown (hts (.constantLong R_P 63 67108863) (by decide +kernel)) d_P_carry_26 ?_
  refine lv_land hx hb d_P_carry_29 ?_
  refine lv_topl (fun x_23 ex_23 => ?_)
  refine sb_lst hx hb hG.1 hP hD hS 1 rfl 4 rfl (by omega) (by omega) d_P_carry_30 (fun f_24 H locs ef_24 hP hD hS => ?_)
  have hP : va_P D vwCl [(h, .inr (4, [.ref q1, .ref q2, .ref q3, .ref q4, .ref q5])), (q3, .inl (cL, 5, .inr (.inl f_24)))] H := hP
  have hD : va_D A [(h, .inr (4, [.ref q1, .ref q2, .ref q3, .ref q4, .ref q5])), (q3, .inl (cL, 5, .inr (.inl f_24)))] := hD
  obtain rfl : f_24 = l5 x_3 x_8 x_13 x_18 x_23 := ef_24.trans (l5_set4 ..)
  refine lv_lload hx hb d_P_carry_31 (lv_at hl 0 rfl) ?_
  refine lv_bipush (v := 26) hx hb d_P_carry_33 (by decide) ?_
  refine lv_lushr (v := uL x_22 26) hx hb d_P_carry_35 rfl ?_
  refine lv_topl (fun x_25 ex_25 => ?_)
  refine lv_lstore_n (lv' := [(1, .long x_25), (4, .long x_22), (3, .int (nI 4)), (0, .ref h)]) hx hb d_P_carry_36 rfl hl (by decide) rfl (fun ls hl => ?_)
  refine lv_iinc (v := nI 5) (lv' := [(3, .int (nI 5)), (1, .long x_25), (4, .long x_22), (0, .ref h)]) hx hb d_P_carry_37 hl (k := 2) rfl (sb_inc (a := 4) (b := 5) (d := 1) rfl (by decide) (by omega)) (by decide) rfl (fun ls hl => ?_)
  refine lv_goto (tgt := 4) hx hb d_P_carry_40 (by decide) ?_
  refine lv_iload_n hx hb d_P_carry_4 rfl (lv_at hl 0 rfl) ?_
  refine lv_iconst (v := 5) hx hb d_P_carry_5 (by decide) ?_
  refine lv_icmp_ge (tgt := 43) hx hb d_P_carry_6 (by decide) (fun c_26 => ?_) (fun c_26 => absurd (sb_geT (a := 5) (b := 5) rfl rfl (by omega) (by omega) (by omega)) c_26)
  refine lv_aload_n hx hb d_P_carry_43 rfl (lv_at hl 3 rfl) ?_
  refine va_get (D := D) (ci := 4) (v := .ref q3) (C := R_P) (T := F_P) (N := 5) hx hb hts in_P hown hG.1 hP 0 rfl rfl 2 (by decide) (hts _ k_174) (fun _ h9 => h9) rfl d_P_carry_44 ?_
  refine lv_iconst (v := 0) hx hb d_P_carry_47 (by decide) ?_
  refine lv_dup2_11 hx hb d_P_carry_48 rfl rfl ?_
  refine sb_lldv hx hb hG.1 hP 1 rfl 0 rfl (by omega) (by omega) (v := x_3) rfl d_P_carry_49 ?_
  refine lv_ldc2 (v := 5) hx hb hown (hts (.constantLong R_P 44 5) (by decide +kernel)) d_P_carry_50 ?_
  refine lv_lload_n hx hb d_P_carry_53 rfl (lv_at hl 1 rfl) ?_
  refine lv_lmul hx hb d_P_carry_54 ?_
  refine lv_ladd hx hb d_P_carry_55 ?_
  refine lv_topl (fun x_27 ex_27 => ?_)
  refine sb_lst hx hb hG.1 hP hD hS 1 rfl 0 rfl (by omega) (by omega) d_P_carry_56 (fun f_28 H locs ef_28 hP hD hS => ?_)
  have hP : va_P D vwCl [(h, .inr (4, [.ref q1, .ref q2, .ref q3, .ref q4, .ref q5])), (q3, .inl (cL, 5, .inr (.inl f_28)))] H := hP
  have hD : va_D A [(h, .inr (4, [.ref q1, .ref q2, .ref q3, .ref q4, .ref q5])), (q3, .inl (cL, 5, .inr (.inl f_28)))] := hD
  obtain rfl : f_28 = l5 x_27 x_8 x_13 x_18 x_23 := ef_28.trans (l5_set0 ..)
  refine lv_aload_n hx hb d_P_carry_57 rfl (lv_at hl 3 rfl) ?_
  refine va_get (D := D) (ci := 4) (v := .ref q3) (C := R_P) (T := F_P) (N := 5) hx hb hts in_P hown hG.1 hP 0 rfl rfl 2 (by decide) (hts _ k_174) (fun _ h9 => h9) rfl d_P_carry_58 ?_
  refine lv_iconst (v := 1) hx hb d_P_carry_61 (by decide) ?_
  refine lv_dup2_11 hx hb d_P_carry_62 rfl rfl ?_
  refine sb_lldv hx hb hG.1 hP 1 rfl 1 rfl (by omega) (by omega) (v := x_8) rfl d_P_carry_63 ?_
  refine lv_aload_n hx hb d_P_carry_64 rfl (lv_at hl 3 rfl) ?_
  refine va_get (D := D) (ci := 4) (v := .ref q3) (C := R_P) (T := F_P) (N := 5) hx hb hts in_P hown hG.1 hP 0 rfl rfl 2 (by decide) (hts _ k_174) (fun _ h9 => h9) rfl d_P_carry_65 ?_
  refine lv_iconst (v := 0) hx hb d_P_carry_68 (by decide) ?_
  refine sb_lldv hx hb hG.1 hP 1 rfl 0 rfl (by omega) (by omega) (v := x_27) rfl d_P_carry_69 ?_
  refine lv_bipush (v := 26) hx hb d_P_carry_70 (by decide) ?_
  refine lv_lushr (v := uL x_27 26) hx hb d_P_carry_72 rfl ?_
  refine lv_ladd hx hb d_P_carry_73 ?_
  refine lv_topl (fun x_29 ex_29 => ?_)
  refine sb_lst hx hb hG.1 hP hD hS 1 rfl 1 rfl (by omega) (by omega) d_P_carry_74 (fun f_30 H locs ef_30 hP hD hS => ?_)
  have hP : va_P D vwCl [(h, .inr (4, [.ref q1, .ref q2, .ref q3, .ref q4, .ref q5])), (q3, .inl (cL, 5, .inr (.inl f_30)))] H := hP
  have hD : va_D A [(h, .inr (4, [.ref q1, .ref q2, .ref q3, .ref q4, .ref q5])), (q3, .inl (cL, 5, .inr (.inl f_30)))] := hD
  obtain rfl : f_30 = l5 x_27 x_29 x_13 x_18 x_23 := ef_30.trans (l5_set1 ..)
  refine lv_aload_n hx hb d_P_carry_75 rfl (lv_at hl 3 rfl) ?_
  refine va_get (D := D) (ci := 4) (v := .ref q3) (C := R_P) (T := F_P) (N := 5) hx hb hts in_P hown hG.1 hP 0 rfl rfl 2 (by decide) (hts _ k_174) (fun _ h9 => h9) rfl d_P_carry_76 ?_
  refine lv_iconst (v := 0) hx hb d_P_carry_79 (by decide) ?_
  refine lv_dup2_11 hx hb d_P_carry_80 rfl rfl ?_
  refine sb_lldv hx hb hG.1 hP 1 rfl 0 rfl (by omega) (by omega) (v := x_27) rfl d_P_carry_81 ?_
  refine lv_ldc2 (v := 67108863) hx hb hown (hts (.constantLong R_P 63 67108863) (by decide +kernel)) d_P_carry_82 ?_
  refine lv_land hx hb d_P_carry_85 ?_
  refine lv_topl (fun x_31 ex_31 => ?_)
  refine sb_lst hx hb hG.1 hP hD hS 1 rfl 0 rfl (by omega) (by omega) d_P_carry_86 (fun f_32 H locs ef_32 hP hD hS => ?_)
  have hP : va_P D vwCl [(h, .inr (4, [.ref q1, .ref q2, .ref q3, .ref q4, .ref q5])), (q3, .inl (cL, 5, .inr (.inl f_32)))] H := hP
  have hD : va_D A [(h, .inr (4, [.ref q1, .ref q2, .ref q3, .ref q4, .ref q5])), (q3, .inl (cL, 5, .inr (.inl f_32)))] := hD
  obtain rfl : f_32 = l5 x_31 x_29 x_13 x_18 x_23 := ef_32.trans (l5_set0 ..)
  subst ex_31
  subst ex_29
  subst ex_27
  subst ex_25
  subst ex_23
  subst ex_22
  subst ex_20
  subst ex_18
  subst ex_17
  subst ex_15
  subst ex_13
  subst ex_12
  subst ex_10
  subst ex_8
  subst ex_7
  subst ex_5
  subst ex_3
  subst ex_2
  have hP9 := hP.sub (ws' := [(h, .inr (4, [.ref q1, .ref q2, .ref q3, .ref q4, .ref q5])), (q3, .inl (cL, 5, .inr (.inl (l5 ((((s0 + 0) &&& 67108863) + (5 * (uL (s4 + (uL (s3 + (uL (s2 + (uL (s1 + (uL (s0 + 0) 26)) 26)) 26)) 26)) 26))) &&& 67108863) (((s1 + (uL (s0 + 0) 26)) &&& 67108863) + (uL (((s0 + 0) &&& 67108863) + (5 * (uL (s4 + (uL (s3 + (uL (s2 + (uL (s1 + (uL (s0 + 0) 26)) 26)) 26)) 26)) 26))) 26)) ((s2 + (uL (s1 + (uL (s0 + 0) 26)) 26)) &&& 67108863) ((s3 + (uL (s2 + (uL (s1 + (uL (s0 + 0) 26)) 26)) 26)) &&& 67108863) ((s4 + (uL (s3 + (uL (s2 + (uL (s1 + (uL (s0 + 0) 26)) 26)) 26)) 26)) &&& 67108863)))))]) [0, 1] rfl
  have hD9 := hD.sub (ws' := [(h, .inr (4, [.ref q1, .ref q2, .ref q3, .ref q4, .ref q5])), (q3, .inl (cL, 5, .inr (.inl (l5 ((((s0 + 0) &&& 67108863) + (5 * (uL (s4 + (uL (s3 + (uL (s2 + (uL (s1 + (uL (s0 + 0) 26)) 26)) 26)) 26)) 26))) &&& 67108863) (((s1 + (uL (s0 + 0) 26)) &&& 67108863) + (uL (((s0 + 0) &&& 67108863) + (5 * (uL (s4 + (uL (s3 + (uL (s2 + (uL (s1 + (uL (s0 + 0) 26)) 26)) 26)) 26)) 26))) 26)) ((s2 + (uL (s1 + (uL (s0 + 0) 26)) 26)) &&& 67108863) ((s3 + (uL (s2 + (uL (s1 + (uL (s0 + 0) 26)) 26)) 26)) &&& 67108863) ((s4 + (uL (s3 + (uL (s2 + (uL (s1 + (uL (s0 + 0) 26)) 26)) 26)) 26)) &&& 67108863)))))]) [0, 1] (by decide) rfl
  exact W.vret hx hb hr (fun t ht hW => ⟨⟨(), rfl, trivial, by rw [ht]; exact hP9, hD9⟩, hS.F ht⟩) hS.2.2 d_P_carry_87

theorem d_P_reduce_0 : decode b_P_reduce 0 = .ok (.ldc2_w 44, 3) := by decide +kernel
theorem d_P_reduce_3 : decode b_P_reduce 3 = .ok (.lstore_n 1, 1) := by decide +kernel
theorem d_P_reduce_4 : decode b_P_reduce 4 = .ok (.iconst 0, 1) := by decide +kernel
theorem d_P_reduce_5 : decode b_P_reduce 5 = .ok (.istore_n 3, 1) := by decide +kernel
theorem d_P_reduce_6 : decode b_P_reduce 6 = .ok (.iload_n 3, 1) := by decide +kernel
theorem d_P_reduce_7 : decode b_P_reduce 7 = .ok (.iconst 5, 1) := by decide +kernel
theorem d_P_reduce_8 : decode b_P_reduce 8 = .ok (.if_icmp .ge 37, 3) := by decide +kernel
theorem d_P_reduce_11 : decode b_P_reduce 11 = .ok (.aload_n 0, 1) := by decide +kernel
theorem d_P_reduce_12 : decode b_P_reduce 12 = .ok (.getfield 18, 3) := by decide +kernel
theorem d_P_reduce_15 : decode b_P_reduce 15 = .ok (.iload_n 3, 1) := by decide +kernel
theorem d_P_reduce_16 : decode b_P_reduce 16 = .ok (.laload, 1) := by decide +kernel
theorem d_P_reduce_17 : decode b_P_reduce 17 = .ok (.lload_n 1, 1) := by decide +kernel
theorem d_P_reduce_18 : decode b_P_reduce 18 = .ok (.ladd, 1) := by decide +kernel
theorem d_P_reduce_19 : decode b_P_reduce 19 = .ok (.lstore 4, 2) := by decide +kernel
theorem d_P_reduce_21 : decode b_P_reduce 21 = .ok (.aload_n 0, 1) := by decide +kernel
theorem d_P_reduce_22 : decode b_P_reduce 22 = .ok (.getfield 21, 3) := by decide +kernel
theorem d_P_reduce_25 : decode b_P_reduce 25 = .ok (.iload_n 3, 1) := by decide +kernel
theorem d_P_reduce_26 : decode b_P_reduce 26 = .ok (.lload 4, 2) := by decide +kernel
theorem d_P_reduce_28 : decode b_P_reduce 28 = .ok (.ldc2_w 63, 3) := by decide +kernel
theorem d_P_reduce_31 : decode b_P_reduce 31 = .ok (.land, 1) := by decide +kernel
theorem d_P_reduce_32 : decode b_P_reduce 32 = .ok (.lastore, 1) := by decide +kernel
theorem d_P_reduce_33 : decode b_P_reduce 33 = .ok (.lload 4, 2) := by decide +kernel
theorem d_P_reduce_35 : decode b_P_reduce 35 = .ok (.bipush 26, 2) := by decide +kernel
theorem d_P_reduce_37 : decode b_P_reduce 37 = .ok (.lushr, 1) := by decide +kernel
theorem d_P_reduce_38 : decode b_P_reduce 38 = .ok (.lstore_n 1, 1) := by decide +kernel
theorem d_P_reduce_39 : decode b_P_reduce 39 = .ok (.iinc 3 1, 3) := by decide +kernel
theorem d_P_reduce_42 : decode b_P_reduce 42 = .ok (.goto (-36), 3) := by decide +kernel
theorem d_P_reduce_45 : decode b_P_reduce 45 = .ok (.lload_n 1, 1) := by decide +kernel
theorem d_P_reduce_46 : decode b_P_reduce 46 = .ok (.lconst 0, 1) := by decide +kernel
theorem d_P_reduce_47 : decode b_P_reduce 47 = .ok (.lcmp, 1) := by decide +kernel
theorem d_P_reduce_48 : decode b_P_reduce 48 = .ok (.ifCond .le 17, 3) := by decide +kernel
theorem d_P_reduce_51 : decode b_P_reduce 51 = .ok (.aload_n 0, 1) := by decide +kernel
theorem d_P_reduce_52 : decode b_P_reduce 52 = .ok (.getfield 21, 3) := by decide +kernel
theorem d_P_reduce_55 : decode b_P_reduce 55 = .ok (.iconst 0, 1) := by decide +kernel
theorem d_P_reduce_56 : decode b_P_reduce 56 = .ok (.aload_n 0, 1) := by decide +kernel
theorem d_P_reduce_57 : decode b_P_reduce 57 = .ok (.getfield 18, 3) := by decide +kernel
theorem d_P_reduce_60 : decode b_P_reduce 60 = .ok (.iconst 0, 1) := by decide +kernel
theorem d_P_reduce_61 : decode b_P_reduce 61 = .ok (.iconst 5, 1) := by decide +kernel
theorem d_P_reduce_62 : decode b_P_reduce 62 = .ok (.invokestatic 52, 3) := by decide +kernel
theorem d_P_reduce_65 : decode b_P_reduce 65 = .ok (.return_, 1) := by decide +kernel

def rm_P_reduce : Room := { frames := 1, cells := 0, slots := 0, locals := 18 }
set_option maxHeartbeats 4000000 in
set_option maxRecDepth 100000 in
theorem c_P_reduce (l : Launch) (D : va_G) (cI cL cB : ClassId) (tS tF : Nat) (h : Nat) (q1 : Nat) (q2 : Nat) (q3 : Nat) (q4 : Nat) (q5 : Nat) (s0 : Int64) (s1 : Int64) (s2 : Int64) (s3 : Int64) (s4 : Int64) (p0 : Int64) (p1 : Int64) (p2 : Int64) (p3 : Int64) (p4 : Int64) (sz : Nat)  : Met l y_P_reduce (sbw y_P_reduce b_P_reduce 6 none) rm_P_reduce (sbPc D cI cL cB tS tF [.ref h] sz [(h, .inr (4, [.ref q1, .ref q2, .ref q3, .ref q4, .ref q5])), (q3, .inl (cL, 5, .inr (.inl (l5 s0 s1 s2 s3 s4)))), (q4, .inl (cL, 5, .inr (.inl (l5 p0 p1 p2 p3 p4))))]) (sbQv D (fun (_ : Unit) => True) (fun (_ : Unit) => [(h, .inr (4, [.ref q1, .ref q2, .ref q3, .ref q4, .ref q5])), (q3, .inl (cL, 5, .inr (.inl (l5 ((pred s0 s1 s2 s3 s4).1) ((pred s0 s1 s2 s3 s4).2.1) ((pred s0 s1 s2 s3 s4).2.2.1) ((pred s0 s1 s2 s3 s4).2.2.2.1) ((pred s0 s1 s2 s3 s4).2.2.2.2))))), (q4, .inl (cL, 5, .inr (.inl (l5 ((pred1 s0 s1 s2 s3 s4).1) ((pred1 s0 s1 s2 s3 s4).2.1) ((pred1 s0 s1 s2 s3 s4).2.2.1) ((pred1 s0 s1 s2 s3 s4).2.2.2.1) ((pred1 s0 s1 s2 s3 s4).2.2.2.2)))))]) (va_A [(h, .inr (4, [.ref q1, .ref q2, .ref q3, .ref q4, .ref q5])), (q3, .inl (cL, 5, .inr (.inl (l5 s0 s1 s2 s3 s4)))), (q4, .inl (cL, 5, .inr (.inl (l5 p0 p1 p2 p3 p4))))] sz)) 0 0 (va_A [(h, .inr (4, [.ref q1, .ref q2, .ref q3, .ref q4, .ref q5])), (q3, .inl (cL, 5, .inr (.inl (l5 s0 s1 s2 s3 s4)))), (q4, .inl (cL, 5, .inr (.inl (l5 p0 p1 p2 p3 p4))))] sz) := by
  refine sb_ofW (Qc := fun A => (sbQv D (fun (_ : Unit) => True) (fun (_ : Unit) => [(h, .inr (4, [.ref q1, .ref q2, .ref q3, .ref q4, .ref q5])), (q3, .inl (cL, 5, .inr (.inl (l5 ((pred s0 s1 s2 s3 s4).1) ((pred s0 s1 s2 s3 s4).2.1) ((pred s0 s1 s2 s3 s4).2.2.1) ((pred s0 s1 s2 s3 s4).2.2.2.1) ((pred s0 s1 s2 s3 s4).2.2.2.2))))), (q4, .inl (cL, 5, .inr (.inl (l5 ((pred1 s0 s1 s2 s3 s4).1) ((pred1 s0 s1 s2 s3 s4).2.1) ((pred1 s0 s1 s2 s3 s4).2.2.1) ((pred1 s0 s1 s2 s3 s4).2.2.2.1) ((pred1 s0 s1 s2 s3 s4).2.2.2.2)))))]) A)) (by decide) (Nat.le_of_ble_eq_true rfl) ?_
  intro p e s m args below meth c A ls hx hb hr hml hts hown hlocks hin hsz hP hG hD hA hS hl
  have hl : lv_has ls 6 [(0, .ref h)] := hl
  refine lv_ldc2 (v := 5) hx hb hown (hts (.constantLong R_P 44 5) (by decide +kernel)) d_P_reduce_0 ?_
  refine lv_lstore_n (lv' := [(1, .long 5), (0, .ref h)]) hx hb d_P_reduce_3 rfl hl (by decide) rfl (fun ls hl => ?_)
  refine lv_iconst (v := 0) hx hb d_P_reduce_4 (by decide) ?_
  refine lv_istore_n (lv' := [(3, .int 0), (1, .long 5), (0, .ref h)]) hx hb d_P_reduce_5 rfl hl (by decide) rfl (fun ls hl => ?_)
  refine lv_iload_n hx hb d_P_reduce_6 rfl (lv_at hl 0 rfl) ?_
  refine lv_iconst (v := 5) hx hb d_P_reduce_7 (by decide) ?_
  refine lv_icmp_ge (tgt := 45) hx hb d_P_reduce_8 (by decide) (fun c_1 => absurd c_1 (sb_geF (a := 0) (b := 5) rfl rfl (by omega) (by omega) (by omega))) (fun c_1 => ?_)
  refine lv_aload_n hx hb d_P_reduce_11 rfl (lv_at hl 2 rfl) ?_
  refine va_get (D := D) (ci := 4) (v := .ref q3) (C := R_P) (T := F_P) (N := 5) hx hb hts in_P hown hG.1 hP 0 rfl rfl 2 (by decide) (hts _ k_174) (fun _ h9 => h9) rfl d_P_reduce_12 ?_
  refine lv_iload_n hx hb d_P_reduce_15 rfl (lv_at hl 0 rfl) ?_
  refine sb_lldv hx hb hG.1 hP 1 rfl 0 rfl (by omega) (by omega) (v := s0) rfl d_P_reduce_16 ?_
  refine lv_lload_n hx hb d_P_reduce_17 rfl (lv_at hl 1 rfl) ?_
  refine lv_ladd hx hb d_P_reduce_18 ?_
  refine lv_topl (fun x_2 ex_2 => ?_)
  refine lv_lstore (lv' := [(4, .long x_2), (3, .int 0), (1, .long 5), (0, .ref h)]) hx hb d_P_reduce_19 hl (by decide) rfl (fun ls hl => ?_)
  refine lv_aload_n hx hb d_P_reduce_21 rfl (lv_at hl 3 rfl) ?_
  refine va_get (D := D) (ci := 4) (v := .ref q4) (C := R_P) (T := F_P) (N := 5) hx hb hts in_P hown hG.1 hP 0 rfl rfl 3 (by decide) (hts _ k_175) (fun _ h9 => h9) rfl d_P_reduce_22 ?_
  refine lv_iload_n hx hb d_P_reduce_25 rfl (lv_at hl 1 rfl) ?_
  refine lv_lload hx hb d_P_reduce_26 (lv_at hl 0 rfl) ?_
  refine lv_ldc2 (v := 67108863) hx hb hown (hts (.constantLong R_P 63 67108863) (by decide +kernel)) d_P_reduce_28 ?_
  refine lv_land hx hb d_P_reduce_31 ?_
  refine lv_topl (fun x_3 ex_3 => ?_)
  refine sb_lst hx hb hG.1 hP hD hS 2 rfl 0 rfl (by omega) (by omega) d_P_reduce_32 (fun f_4 H locs ef_4 hP hD hS => ?_)
  have hP : va_P D vwCl [(h, .inr (4, [.ref q1, .ref q2, .ref q3, .ref q4, .ref q5])), (q3, .inl (cL, 5, .inr (.inl (l5 s0 s1 s2 s3 s4)))), (q4, .inl (cL, 5, .inr (.inl f_4)))] H := hP
  have hD : va_D A [(h, .inr (4, [.ref q1, .ref q2, .ref q3, .ref q4, .ref q5])), (q3, .inl (cL, 5, .inr (.inl (l5 s0 s1 s2 s3 s4)))), (q4, .inl (cL, 5, .inr (.inl f_4)))] := hD
  obtain rfl : f_4 = l5 x_3 p1 p2 p3 p4 := ef_4.trans (l5_set0 ..)
  refine lv_lload hx hb d_P_reduce_33 (lv_at hl 0 rfl) ?_
  refine lv_bipush (v := 26) hx hb d_P_reduce_35 (by decide) ?_
  refine lv_lushr (v := uL x_2 26) hx hb d_P_reduce_37 rfl ?_
  refine lv_topl (fun x_5 ex_5 => ?_)
  refine lv_lstore_n (lv' := [(1, .long x_5), (4, .long x_2), (3, .int 0), (0, .ref h)]) hx hb d_P_reduce_38 rfl hl (by decide) rfl (fun ls hl => ?_)
  refine lv_iinc (v := nI 1) (lv' := [(3, .int (nI 1)), (1, .long x_5), (4, .long x_2), (0, .ref h)]) hx hb d_P_reduce_39 hl (k := 2) rfl (sb_inc (a := 0) (b := 1) (d := 1) rfl (by decide) (by omega)) (by decide) rfl (fun ls hl => ?_)
  refine lv_goto (tgt := 6) hx hb d_P_reduce_42 (by decide) ?_
  refine lv_iload_n hx hb d_P_reduce_6 rfl (lv_at hl 0 rfl) ?_
  refine lv_iconst (v := 5) hx hb d_P_reduce_7 (by decide) ?_
  refine lv_icmp_ge (tgt := 45) hx hb d_P_reduce_8 (by decide) (fun c_6 => absurd c_6 (sb_geF (a := 1) (b := 5) rfl rfl (by omega) (by omega) (by omega))) (fun c_6 => ?_)
  refine lv_aload_n hx hb d_P_reduce_11 rfl (lv_at hl 3 rfl) ?_
  refine va_get (D := D) (ci := 4) (v := .ref q3) (C := R_P) (T := F_P) (N := 5) hx hb hts in_P hown hG.1 hP 0 rfl rfl 2 (by decide) (hts _ k_174) (fun _ h9 => h9) rfl d_P_reduce_12 ?_
  refine lv_iload_n hx hb d_P_reduce_15 rfl (lv_at hl 0 rfl) ?_
  refine sb_lldv hx hb hG.1 hP 1 rfl 1 rfl (by omega) (by omega) (v := s1) rfl d_P_reduce_16 ?_
  refine lv_lload_n hx hb d_P_reduce_17 rfl (lv_at hl 1 rfl) ?_
  refine lv_ladd hx hb d_P_reduce_18 ?_
  refine lv_topl (fun x_7 ex_7 => ?_)
  refine lv_lstore (lv' := [(4, .long x_7), (3, .int (nI 1)), (1, .long x_5), (0, .ref h)]) hx hb d_P_reduce_19 hl (by decide) rfl (fun ls hl => ?_)
  refine lv_aload_n hx hb d_P_reduce_21 rfl (lv_at hl 3 rfl) ?_
  refine va_get (D := D) (ci := 4) (v := .ref q4) (C := R_P) (T := F_P) (N := 5) hx hb hts in_P hown hG.1 hP 0 rfl rfl 3 (by decide) (hts _ k_175) (fun _ h9 => h9) rfl d_P_reduce_22 ?_
  refine lv_iload_n hx hb d_P_reduce_25 rfl (lv_at hl 1 rfl) ?_
  refine lv_lload hx hb d_P_reduce_26 (lv_at hl 0 rfl) ?_
  refine lv_ldc2 (v := 67108863) hx hb hown (hts (.constantLong R_P 63 67108863) (by decide +kernel)) d_P_reduce_28 ?_
  refine lv_land hx hb d_P_reduce_31 ?_
  refine lv_topl (fun x_8 ex_8 => ?_)
  refine sb_lst hx hb hG.1 hP hD hS 2 rfl 1 rfl (by omega) (by omega) d_P_reduce_32 (fun f_9 H locs ef_9 hP hD hS => ?_)
  have hP : va_P D vwCl [(h, .inr (4, [.ref q1, .ref q2, .ref q3, .ref q4, .ref q5])), (q3, .inl (cL, 5, .inr (.inl (l5 s0 s1 s2 s3 s4)))), (q4, .inl (cL, 5, .inr (.inl f_9)))] H := hP
  have hD : va_D A [(h, .inr (4, [.ref q1, .ref q2, .ref q3, .ref q4, .ref q5])), (q3, .inl (cL, 5, .inr (.inl (l5 s0 s1 s2 s3 s4)))), (q4, .inl (cL, 5, .inr (.inl f_9)))] := hD
  obtain rfl : f_9 = l5 x_3 x_8 p2 p3 p4 := ef_9.trans (l5_set1 ..)
  refine lv_lload hx hb d_P_reduce_33 (lv_at hl 0 rfl) ?_
  refine lv_bipush (v := 26) hx hb d_P_reduce_35 (by decide) ?_
  refine lv_lushr (v := uL x_7 26) hx hb d_P_reduce_37 rfl ?_
  refine lv_topl (fun x_10 ex_10 => ?_)
  refine lv_lstore_n (lv' := [(1, .long x_10), (4, .long x_7), (3, .int (nI 1)), (0, .ref h)]) hx hb d_P_reduce_38 rfl hl (by decide) rfl (fun ls hl => ?_)
  refine lv_iinc (v := nI 2) (lv' := [(3, .int (nI 2)), (1, .long x_10), (4, .long x_7), (0, .ref h)]) hx hb d_P_reduce_39 hl (k := 2) rfl (sb_inc (a := 1) (b := 2) (d := 1) rfl (by decide) (by omega)) (by decide) rfl (fun ls hl => ?_)
  refine lv_goto (tgt := 6) hx hb d_P_reduce_42 (by decide) ?_
  refine lv_iload_n hx hb d_P_reduce_6 rfl (lv_at hl 0 rfl) ?_
  refine lv_iconst (v := 5) hx hb d_P_reduce_7 (by decide) ?_
  refine lv_icmp_ge (tgt := 45) hx hb d_P_reduce_8 (by decide) (fun c_11 => absurd c_11 (sb_geF (a := 2) (b := 5) rfl rfl (by omega) (by omega) (by omega))) (fun c_11 => ?_)
  refine lv_aload_n hx hb d_P_reduce_11 rfl (lv_at hl 3 rfl) ?_
  refine va_get (D := D) (ci := 4) (v := .ref q3) (C := R_P) (T := F_P) (N := 5) hx hb hts in_P hown hG.1 hP 0 rfl rfl 2 (by decide) (hts _ k_174) (fun _ h9 => h9) rfl d_P_reduce_12 ?_
  refine lv_iload_n hx hb d_P_reduce_15 rfl (lv_at hl 0 rfl) ?_
  refine sb_lldv hx hb hG.1 hP 1 rfl 2 rfl (by omega) (by omega) (v := s2) rfl d_P_reduce_16 ?_
  refine lv_lload_n hx hb d_P_reduce_17 rfl (lv_at hl 1 rfl) ?_
  refine lv_ladd hx hb d_P_reduce_18 ?_
  refine lv_topl (fun x_12 ex_12 => ?_)
  refine lv_lstore (lv' := [(4, .long x_12), (3, .int (nI 2)), (1, .long x_10), (0, .ref h)]) hx hb d_P_reduce_19 hl (by decide) rfl (fun ls hl => ?_)
  refine lv_aload_n hx hb d_P_reduce_21 rfl (lv_at hl 3 rfl) ?_
  refine va_get (D := D) (ci := 4) (v := .ref q4) (C := R_P) (T := F_P) (N := 5) hx hb hts in_P hown hG.1 hP 0 rfl rfl 3 (by decide) (hts _ k_175) (fun _ h9 => h9) rfl d_P_reduce_22 ?_
  refine lv_iload_n hx hb d_P_reduce_25 rfl (lv_at hl 1 rfl) ?_
  refine lv_lload hx hb d_P_reduce_26 (lv_at hl 0 rfl) ?_
  refine lv_ldc2 (v := 67108863) hx hb hown (hts (.constantLong R_P 63 67108863) (by decide +kernel)) d_P_reduce_28 ?_
  refine lv_land hx hb d_P_reduce_31 ?_
  refine lv_topl (fun x_13 ex_13 => ?_)
  refine sb_lst hx hb hG.1 hP hD hS 2 rfl 2 rfl (by omega) (by omega) d_P_reduce_32 (fun f_14 H locs ef_14 hP hD hS => ?_)
  have hP : va_P D vwCl [(h, .inr (4, [.ref q1, .ref q2, .ref q3, .ref q4, .ref q5])), (q3, .inl (cL, 5, .inr (.inl (l5 s0 s1 s2 s3 s4)))), (q4, .inl (cL, 5, .inr (.inl f_14)))] H := hP
  have hD : va_D A [(h, .inr (4, [.ref q1, .ref q2, .ref q3, .ref q4, .ref q5])), (q3, .inl (cL, 5, .inr (.inl (l5 s0 s1 s2 s3 s4)))), (q4, .inl (cL, 5, .inr (.inl f_14)))] := hD
  obtain rfl : f_14 = l5 x_3 x_8 x_13 p3 p4 := ef_14.trans (l5_set2 ..)
  refine lv_lload hx hb d_P_reduce_33 (lv_at hl 0 rfl) ?_
  refine lv_bipush (v := 26) hx hb d_P_reduce_35 (by decide) ?_
  refine lv_lushr (v := uL x_12 26) hx hb d_P_reduce_37 rfl ?_
  refine lv_topl (fun x_15 ex_15 => ?_)
  refine lv_lstore_n (lv' := [(1, .long x_15), (4, .long x_12), (3, .int (nI 2)), (0, .ref h)]) hx hb d_P_reduce_38 rfl hl (by decide) rfl (fun ls hl => ?_)
  refine lv_iinc (v := nI 3) (lv' := [(3, .int (nI 3)), (1, .long x_15), (4, .long x_12), (0, .ref h)]) hx hb d_P_reduce_39 hl (k := 2) rfl (sb_inc (a := 2) (b := 3) (d := 1) rfl (by decide) (by omega)) (by decide) rfl (fun ls hl => ?_)
  refine lv_goto (tgt := 6) hx hb d_P_reduce_42 (by decide) ?_
  refine lv_iload_n hx hb d_P_reduce_6 rfl (lv_at hl 0 rfl) ?_
  refine lv_iconst (v := 5) hx hb d_P_reduce_7 (by decide) ?_
  refine lv_icmp_ge (tgt := 45) hx hb d_P_reduce_8 (by decide) (fun c_16 => absurd c_16 (sb_geF (a := 3) (b := 5) rfl rfl (by omega) (by omega) (by omega))) (fun c_16 => ?_)
  refine lv_aload_n hx hb d_P_reduce_11 rfl (lv_at hl 3 rfl) ?_
  refine va_get (D := D) (ci := 4) (v := .ref q3) (C := R_P) (T := F_P) (N := 5) hx hb hts in_P hown hG.1 hP 0 rfl rfl 2 (by decide) (hts _ k_174) (fun _ h9 => h9) rfl d_P_reduce_12 ?_
  refine lv_iload_n hx hb d_P_reduce_15 rfl (lv_at hl 0 rfl) ?_
  refine sb_lldv hx hb hG.1 hP 1 rfl 3 rfl (by omega) (by omega) (v := s3) rfl d_P_reduce_16 ?_
  refine lv_lload_n hx hb d_P_reduce_17 rfl (lv_at hl 1 rfl) ?_
  refine lv_ladd hx hb d_P_reduce_18 ?_
  refine lv_topl (fun x_17 ex_17 => ?_)
  refine lv_lstore (lv' := [(4, .long x_17), (3, .int (nI 3)), (1, .long x_15), (0, .ref h)]) hx hb d_P_reduce_19 hl (by decide) rfl (fun ls hl => ?_)
  refine lv_aload_n hx hb d_P_reduce_21 rfl (lv_at hl 3 rfl) ?_
  refine va_get (D := D) (ci := 4) (v := .ref q4) (C := R_P) (T := F_P) (N := 5) hx hb hts in_P hown hG.1 hP 0 rfl rfl 3 (by decide) (hts _ k_175) (fun _ h9 => h9) rfl d_P_reduce_22 ?_
  refine lv_iload_n hx hb d_P_reduce_25 rfl (lv_at hl 1 rfl) ?_
  refine lv_lload hx hb d_P_reduce_26 (lv_at hl 0 rfl) ?_
  refine lv_ldc2 (v := 67108863) hx hb hown (hts (.constantLong R_P 63 67108863) (by decide +kernel)) d_P_reduce_28 ?_
  refine lv_land hx hb d_P_reduce_31 ?_
  refine lv_topl (fun x_18 ex_18 => ?_)
  refine sb_lst hx hb hG.1 hP hD hS 2 rfl 3 rfl (by omega) (by omega) d_P_reduce_32 (fun f_19 H locs ef_19 hP hD hS => ?_)
  have hP : va_P D vwCl [(h, .inr (4, [.ref q1, .ref q2, .ref q3, .ref q4, .ref q5])), (q3, .inl (cL, 5, .inr (.inl (l5 s0 s1 s2 s3 s4)))), (q4, .inl (cL, 5, .inr (.inl f_19)))] H := hP
  have hD : va_D A [(h, .inr (4, [.ref q1, .ref q2, .ref q3, .ref q4, .ref q5])), (q3, .inl (cL, 5, .inr (.inl (l5 s0 s1 s2 s3 s4)))), (q4, .inl (cL, 5, .inr (.inl f_19)))] := hD
  obtain rfl : f_19 = l5 x_3 x_8 x_13 x_18 p4 := ef_19.trans (l5_set3 ..)
  refine lv_lload hx hb d_P_reduce_33 (lv_at hl 0 rfl) ?_
  refine lv_bipush (v := 26) hx hb d_P_reduce_35 (by decide) ?_
  refine lv_lushr (v := uL x_17 26) hx hb d_P_reduce_37 rfl ?_
  refine lv_topl (fun x_20 ex_20 => ?_)
  refine lv_lstore_n (lv' := [(1, .long x_20), (4, .long x_17), (3, .int (nI 3)), (0, .ref h)]) hx hb d_P_reduce_38 rfl hl (by decide) rfl (fun ls hl => ?_)
  refine lv_iinc (v := nI 4) (lv' := [(3, .int (nI 4)), (1, .long x_20), (4, .long x_17), (0, .ref h)]) hx hb d_P_reduce_39 hl (k := 2) rfl (sb_inc (a := 3) (b := 4) (d := 1) rfl (by decide) (by omega)) (by decide) rfl (fun ls hl => ?_)
  refine lv_goto (tgt := 6) hx hb d_P_reduce_42 (by decide) ?_
  refine lv_iload_n hx hb d_P_reduce_6 rfl (lv_at hl 0 rfl) ?_
  refine lv_iconst (v := 5) hx hb d_P_reduce_7 (by decide) ?_
  refine lv_icmp_ge (tgt := 45) hx hb d_P_reduce_8 (by decide) (fun c_21 => absurd c_21 (sb_geF (a := 4) (b := 5) rfl rfl (by omega) (by omega) (by omega))) (fun c_21 => ?_)
  refine lv_aload_n hx hb d_P_reduce_11 rfl (lv_at hl 3 rfl) ?_
  refine va_get (D := D) (ci := 4) (v := .ref q3) (C := R_P) (T := F_P) (N := 5) hx hb hts in_P hown hG.1 hP 0 rfl rfl 2 (by decide) (hts _ k_174) (fun _ h9 => h9) rfl d_P_reduce_12 ?_
  refine lv_iload_n hx hb d_P_reduce_15 rfl (lv_at hl 0 rfl) ?_
  refine sb_lldv hx hb hG.1 hP 1 rfl 4 rfl (by omega) (by omega) (v := s4) rfl d_P_reduce_16 ?_
  refine lv_lload_n hx hb d_P_reduce_17 rfl (lv_at hl 1 rfl) ?_
  refine lv_ladd hx hb d_P_reduce_18 ?_
  refine lv_topl (fun x_22 ex_22 => ?_)
  refine lv_lstore (lv' := [(4, .long x_22), (3, .int (nI 4)), (1, .long x_20), (0, .ref h)]) hx hb d_P_reduce_19 hl (by decide) rfl (fun ls hl => ?_)
  refine lv_aload_n hx hb d_P_reduce_21 rfl (lv_at hl 3 rfl) ?_
  refine va_get (D := D) (ci := 4) (v := .ref q4) (C := R_P) (T := F_P) (N := 5) hx hb hts in_P hown hG.1 hP 0 rfl rfl 3 (by decide) (hts _ k_175) (fun _ h9 => h9) rfl d_P_reduce_22 ?_
  refine lv_iload_n hx hb d_P_reduce_25 rfl (lv_at hl 1 rfl) ?_
  refine lv_lload hx hb d_P_reduce_26 (lv_at hl 0 rfl) ?_
  refine lv_ldc2 (v := 67108863) hx hb hown (hts (.constantLong R_P 63 67108863) (by decide +kernel)) d_P_reduce_28 ?_
  refine lv_land hx hb d_P_reduce_31 ?_
  refine lv_topl (fun x_23 ex_23 => ?_)
  refine sb_lst hx hb hG.1 hP hD hS 2 rfl 4 rfl (by omega) (by omega) d_P_reduce_32 (fun f_24 H locs ef_24 hP hD hS => ?_)
  have hP : va_P D vwCl [(h, .inr (4, [.ref q1, .ref q2, .ref q3, .ref q4, .ref q5])), (q3, .inl (cL, 5, .inr (.inl (l5 s0 s1 s2 s3 s4)))), (q4, .inl (cL, 5, .inr (.inl f_24)))] H := hP
  have hD : va_D A [(h, .inr (4, [.ref q1, .ref q2, .ref q3, .ref q4, .ref q5])), (q3, .inl (cL, 5, .inr (.inl (l5 s0 s1 s2 s3 s4)))), (q4, .inl (cL, 5, .inr (.inl f_24)))] := hD
  obtain rfl : f_24 = l5 x_3 x_8 x_13 x_18 x_23 := ef_24.trans (l5_set4 ..)
  refine lv_lload hx hb d_P_reduce_33 (lv_at hl 0 rfl) ?_
  refine lv_bipush (v := 26) hx hb d_P_reduce_35 (by decide) ?_
  refine lv_lushr (v := uL x_22 26) hx hb d_P_reduce_37 rfl ?_
  refine lv_topl (fun x_25 ex_25 => ?_)
  refine lv_lstore_n (lv' := [(1, .long x_25), (4, .long x_22), (3, .int (nI 4)), (0, .ref h)]) hx hb d_P_reduce_38 rfl hl (by decide) rfl (fun ls hl => ?_)
  refine lv_iinc (v := nI 5) (lv' := [(3, .int (nI 5)), (1, .long x_25), (4, .long x_22), (0, .ref h)]) hx hb d_P_reduce_39 hl (k := 2) rfl (sb_inc (a := 4) (b := 5) (d := 1) rfl (by decide) (by omega)) (by decide) rfl (fun ls hl => ?_)
  refine lv_goto (tgt := 6) hx hb d_P_reduce_42 (by decide) ?_
  refine lv_iload_n hx hb d_P_reduce_6 rfl (lv_at hl 0 rfl) ?_
  refine lv_iconst (v := 5) hx hb d_P_reduce_7 (by decide) ?_
  refine lv_icmp_ge (tgt := 45) hx hb d_P_reduce_8 (by decide) (fun c_26 => ?_) (fun c_26 => absurd (sb_geT (a := 5) (b := 5) rfl rfl (by omega) (by omega) (by omega)) c_26)
  refine lv_lload_n hx hb d_P_reduce_45 rfl (lv_at hl 1 rfl) ?_
  refine lv_lconst (v := 0) hx hb d_P_reduce_46 (by decide) ?_
  refine W.lcmp hx hb d_P_reduce_47 ?_
  refine lv_if_le (tgt := 65) hx hb d_P_reduce_48 (by decide) (fun c_27 => ?_) (fun c_27 => ?_)
  · subst ex_25
    subst ex_23
    subst ex_22
    subst ex_20
    subst ex_18
    subst ex_17
    subst ex_15
    subst ex_13
    subst ex_12
    subst ex_10
    subst ex_8
    subst ex_7
    subst ex_5
    subst ex_3
    subst ex_2
    have hP9 := hP.sub (ws' := [(h, .inr (4, [.ref q1, .ref q2, .ref q3, .ref q4, .ref q5])), (q3, .inl (cL, 5, .inr (.inl (l5 s0 s1 s2 s3 s4)))), (q4, .inl (cL, 5, .inr (.inl (l5 ((s0 + 5) &&& 67108863) ((s1 + (uL (s0 + 5) 26)) &&& 67108863) ((s2 + (uL (s1 + (uL (s0 + 5) 26)) 26)) &&& 67108863) ((s3 + (uL (s2 + (uL (s1 + (uL (s0 + 5) 26)) 26)) 26)) &&& 67108863) ((s4 + (uL (s3 + (uL (s2 + (uL (s1 + (uL (s0 + 5) 26)) 26)) 26)) 26)) &&& 67108863)))))]) [0, 1, 2] rfl
    have hD9 := hD.sub (ws' := [(h, .inr (4, [.ref q1, .ref q2, .ref q3, .ref q4, .ref q5])), (q3, .inl (cL, 5, .inr (.inl (l5 s0 s1 s2 s3 s4)))), (q4, .inl (cL, 5, .inr (.inl (l5 ((s0 + 5) &&& 67108863) ((s1 + (uL (s0 + 5) 26)) &&& 67108863) ((s2 + (uL (s1 + (uL (s0 + 5) 26)) 26)) &&& 67108863) ((s3 + (uL (s2 + (uL (s1 + (uL (s0 + 5) 26)) 26)) 26)) &&& 67108863) ((s4 + (uL (s3 + (uL (s2 + (uL (s1 + (uL (s0 + 5) 26)) 26)) 26)) 26)) &&& 67108863)))))]) [0, 1, 2] (by decide) rfl
    have hz : pred s0 s1 s2 s3 s4 = (s0, s1, s2, s3, s4) := if_pos c_27
    exact W.vret hx hb hr (fun t ht hW => ⟨⟨(), rfl, trivial, by rw [ht, hz]; exact hP9, (by rw [hz]; exact hD9)⟩, hS.F ht⟩) hS.2.2 d_P_reduce_65
  · refine lv_aload_n hx hb d_P_reduce_51 rfl (lv_at hl 3 rfl) ?_
    refine va_get (D := D) (ci := 4) (v := .ref q4) (C := R_P) (T := F_P) (N := 5) hx hb hts in_P hown hG.1 hP 0 rfl rfl 3 (by decide) (hts _ k_175) (fun _ h9 => h9) rfl d_P_reduce_52 ?_
    refine lv_iconst (v := 0) hx hb d_P_reduce_55 (by decide) ?_
    refine lv_aload_n hx hb d_P_reduce_56 rfl (lv_at hl 3 rfl) ?_
    refine va_get (D := D) (ci := 4) (v := .ref q3) (C := R_P) (T := F_P) (N := 5) hx hb hts in_P hown hG.1 hP 0 rfl rfl 2 (by decide) (hts _ k_174) (fun _ h9 => h9) rfl d_P_reduce_57 ?_
    refine lv_iconst (v := 0) hx hb d_P_reduce_60 (by decide) ?_
    refine lv_iconst (v := 5) hx hb d_P_reduce_61 (by decide) ?_
    refine sb_copyl hx hb (hml.trans hl.1.symm) hown (hts _ k_591) (hts _ k_274) (hts _ k_273) (hts _ k_37) hG.1 hP hD hS 2 1 rfl rfl 0 0 5 rfl rfl rfl (by omega) (by omega) (by omega) (by omega) (Nat.le_of_ble_eq_true rfl) (Nat.le_of_ble_eq_true rfl) d_P_reduce_62 (fun f_28 H locs ef_28 hP hD hS => ?_)
    have hP : va_P D vwCl [(h, .inr (4, [.ref q1, .ref q2, .ref q3, .ref q4, .ref q5])), (q3, .inl (cL, 5, .inr (.inl f_28))), (q4, .inl (cL, 5, .inr (.inl (l5 x_3 x_8 x_13 x_18 x_23))))] H := hP
    have hD : va_D A [(h, .inr (4, [.ref q1, .ref q2, .ref q3, .ref q4, .ref q5])), (q3, .inl (cL, 5, .inr (.inl f_28))), (q4, .inl (cL, 5, .inr (.inl (l5 x_3 x_8 x_13 x_18 x_23))))] := hD
    obtain rfl : f_28 = l5 x_3 x_8 x_13 x_18 x_23 := ef_28.trans (l5_cpy ..)
    subst ex_25
    subst ex_23
    subst ex_22
    subst ex_20
    subst ex_18
    subst ex_17
    subst ex_15
    subst ex_13
    subst ex_12
    subst ex_10
    subst ex_8
    subst ex_7
    subst ex_5
    subst ex_3
    subst ex_2
    have hP9 := hP.sub (ws' := [(h, .inr (4, [.ref q1, .ref q2, .ref q3, .ref q4, .ref q5])), (q3, .inl (cL, 5, .inr (.inl (l5 ((s0 + 5) &&& 67108863) ((s1 + (uL (s0 + 5) 26)) &&& 67108863) ((s2 + (uL (s1 + (uL (s0 + 5) 26)) 26)) &&& 67108863) ((s3 + (uL (s2 + (uL (s1 + (uL (s0 + 5) 26)) 26)) 26)) &&& 67108863) ((s4 + (uL (s3 + (uL (s2 + (uL (s1 + (uL (s0 + 5) 26)) 26)) 26)) 26)) &&& 67108863))))), (q4, .inl (cL, 5, .inr (.inl (l5 ((s0 + 5) &&& 67108863) ((s1 + (uL (s0 + 5) 26)) &&& 67108863) ((s2 + (uL (s1 + (uL (s0 + 5) 26)) 26)) &&& 67108863) ((s3 + (uL (s2 + (uL (s1 + (uL (s0 + 5) 26)) 26)) 26)) &&& 67108863) ((s4 + (uL (s3 + (uL (s2 + (uL (s1 + (uL (s0 + 5) 26)) 26)) 26)) 26)) &&& 67108863)))))]) [0, 1, 2] rfl
    have hD9 := hD.sub (ws' := [(h, .inr (4, [.ref q1, .ref q2, .ref q3, .ref q4, .ref q5])), (q3, .inl (cL, 5, .inr (.inl (l5 ((s0 + 5) &&& 67108863) ((s1 + (uL (s0 + 5) 26)) &&& 67108863) ((s2 + (uL (s1 + (uL (s0 + 5) 26)) 26)) &&& 67108863) ((s3 + (uL (s2 + (uL (s1 + (uL (s0 + 5) 26)) 26)) 26)) &&& 67108863) ((s4 + (uL (s3 + (uL (s2 + (uL (s1 + (uL (s0 + 5) 26)) 26)) 26)) 26)) &&& 67108863))))), (q4, .inl (cL, 5, .inr (.inl (l5 ((s0 + 5) &&& 67108863) ((s1 + (uL (s0 + 5) 26)) &&& 67108863) ((s2 + (uL (s1 + (uL (s0 + 5) 26)) 26)) &&& 67108863) ((s3 + (uL (s2 + (uL (s1 + (uL (s0 + 5) 26)) 26)) 26)) &&& 67108863) ((s4 + (uL (s3 + (uL (s2 + (uL (s1 + (uL (s0 + 5) 26)) 26)) 26)) 26)) &&& 67108863)))))]) [0, 1, 2] (by decide) rfl
    have hz : pred s0 s1 s2 s3 s4 = pred1 s0 s1 s2 s3 s4 := if_neg c_27
    exact W.vret hx hb hr (fun t ht hW => ⟨⟨(), rfl, trivial, by rw [ht, hz]; exact hP9, (by rw [hz]; exact hD9)⟩, hS.F ht⟩) hS.2.2 d_P_reduce_65

theorem d_P_absorb_0 : decode b_P_absorb 0 = .ok (.aload_n 0, 1) := by decide +kernel
theorem d_P_absorb_1 : decode b_P_absorb 1 = .ok (.getfield 18, 3) := by decide +kernel
theorem d_P_absorb_4 : decode b_P_absorb 4 = .ok (.iload_n 1, 1) := by decide +kernel
theorem d_P_absorb_5 : decode b_P_absorb 5 = .ok (.invokestatic 34, 3) := by decide +kernel
theorem d_P_absorb_8 : decode b_P_absorb 8 = .ok (.iload_n 2, 1) := by decide +kernel
theorem d_P_absorb_9 : decode b_P_absorb 9 = .ok (.invokestatic 34, 3) := by decide +kernel
theorem d_P_absorb_12 : decode b_P_absorb 12 = .ok (.iload_n 3, 1) := by decide +kernel
theorem d_P_absorb_13 : decode b_P_absorb 13 = .ok (.invokestatic 34, 3) := by decide +kernel
theorem d_P_absorb_16 : decode b_P_absorb 16 = .ok (.iload 4, 2) := by decide +kernel
theorem d_P_absorb_18 : decode b_P_absorb 18 = .ok (.invokestatic 34, 3) := by decide +kernel
theorem d_P_absorb_21 : decode b_P_absorb 21 = .ok (.invokestatic 40, 3) := by decide +kernel
theorem d_P_absorb_24 : decode b_P_absorb 24 = .ok (.aload_n 0, 1) := by decide +kernel
theorem d_P_absorb_25 : decode b_P_absorb 25 = .ok (.getfield 18, 3) := by decide +kernel
theorem d_P_absorb_28 : decode b_P_absorb 28 = .ok (.iconst 4, 1) := by decide +kernel
theorem d_P_absorb_29 : decode b_P_absorb 29 = .ok (.dup2, 1) := by decide +kernel
theorem d_P_absorb_30 : decode b_P_absorb 30 = .ok (.laload, 1) := by decide +kernel
theorem d_P_absorb_31 : decode b_P_absorb 31 = .ok (.ldc2_w 46, 3) := by decide +kernel
theorem d_P_absorb_34 : decode b_P_absorb 34 = .ok (.ladd, 1) := by decide +kernel
theorem d_P_absorb_35 : decode b_P_absorb 35 = .ok (.lastore, 1) := by decide +kernel
theorem d_P_absorb_36 : decode b_P_absorb 36 = .ok (.iconst 0, 1) := by decide +kernel
theorem d_P_absorb_37 : decode b_P_absorb 37 = .ok (.istore 5, 2) := by decide +kernel
theorem d_P_absorb_39 : decode b_P_absorb 39 = .ok (.iload 5, 2) := by decide +kernel
theorem d_P_absorb_41 : decode b_P_absorb 41 = .ok (.iconst 5, 1) := by decide +kernel
theorem d_P_absorb_42 : decode b_P_absorb 42 = .ok (.if_icmp .ge 22, 3) := by decide +kernel
theorem d_P_absorb_45 : decode b_P_absorb 45 = .ok (.aload_n 0, 1) := by decide +kernel
theorem d_P_absorb_46 : decode b_P_absorb 46 = .ok (.getfield 21, 3) := by decide +kernel
theorem d_P_absorb_49 : decode b_P_absorb 49 = .ok (.iload 5, 2) := by decide +kernel
theorem d_P_absorb_51 : decode b_P_absorb 51 = .ok (.aload_n 0, 1) := by decide +kernel
theorem d_P_absorb_52 : decode b_P_absorb 52 = .ok (.iload 5, 2) := by decide +kernel
theorem d_P_absorb_54 : decode b_P_absorb 54 = .ok (.invokevirtual 48, 3) := by decide +kernel
theorem d_P_absorb_57 : decode b_P_absorb 57 = .ok (.lastore, 1) := by decide +kernel
theorem d_P_absorb_58 : decode b_P_absorb 58 = .ok (.iinc 5 1, 3) := by decide +kernel
theorem d_P_absorb_61 : decode b_P_absorb 61 = .ok (.goto (-22), 3) := by decide +kernel
theorem d_P_absorb_64 : decode b_P_absorb 64 = .ok (.aload_n 0, 1) := by decide +kernel
theorem d_P_absorb_65 : decode b_P_absorb 65 = .ok (.getfield 21, 3) := by decide +kernel
theorem d_P_absorb_68 : decode b_P_absorb 68 = .ok (.iconst 0, 1) := by decide +kernel
theorem d_P_absorb_69 : decode b_P_absorb 69 = .ok (.aload_n 0, 1) := by decide +kernel
theorem d_P_absorb_70 : decode b_P_absorb 70 = .ok (.getfield 18, 3) := by decide +kernel
theorem d_P_absorb_73 : decode b_P_absorb 73 = .ok (.iconst 0, 1) := by decide +kernel
theorem d_P_absorb_74 : decode b_P_absorb 74 = .ok (.iconst 5, 1) := by decide +kernel
theorem d_P_absorb_75 : decode b_P_absorb 75 = .ok (.invokestatic 52, 3) := by decide +kernel
theorem d_P_absorb_78 : decode b_P_absorb 78 = .ok (.aload_n 0, 1) := by decide +kernel
theorem d_P_absorb_79 : decode b_P_absorb 79 = .ok (.invokevirtual 58, 3) := by decide +kernel
theorem d_P_absorb_82 : decode b_P_absorb 82 = .ok (.return_, 1) := by decide +kernel

def rm_P_absorb : Room := { frames := 1, cells := 0, slots := 0, locals := 32 }
set_option maxHeartbeats 4000000 in
set_option maxRecDepth 100000 in
theorem c_P_absorb (l : Launch) (D : va_G) (cI cL cB : ClassId) (tS tF : Nat) (h : Nat) (q1 : Nat) (q2 : Nat) (q3 : Nat) (q4 : Nat) (q5 : Nat) (s0 : Int64) (s1 : Int64) (s2 : Int64) (s3 : Int64) (s4 : Int64) (k0 : Int64) (k1 : Int64) (k2 : Int64) (k3 : Int64) (k4 : Int64) (t0 : Int64) (t1 : Int64) (t2 : Int64) (t3 : Int64) (t4 : Int64) (p0 : Int64) (p1 : Int64) (p2 : Int64) (p3 : Int64) (p4 : Int64) (a : Int32) (b : Int32) (c0 : Int32) (d0 : Int32) (sz : Nat)  : Met l y_P_absorb (sbw y_P_absorb b_P_absorb 6 none) rm_P_absorb (sbPc D cI cL cB tS tF [.ref h, .int a, .int b, .int c0, .int d0] sz [(h, .inr (4, [.ref q1, .ref q2, .ref q3, .ref q4, .ref q5])), (q1, .inl (cL, 5, .inr (.inl (l5 k0 k1 k2 k3 k4)))), (q2, .inl (cL, 5, .inr (.inl (l5 t0 t1 t2 t3 t4)))), (q3, .inl (cL, 5, .inr (.inl (l5 s0 s1 s2 s3 s4)))), (q4, .inl (cL, 5, .inr (.inl (l5 p0 p1 p2 p3 p4))))]) (sbQv D (fun (_ : Unit) => True) (fun (_ : Unit) => [(h, .inr (4, [.ref q1, .ref q2, .ref q3, .ref q4, .ref q5])), (q1, .inl (cL, 5, .inr (.inl (l5 k0 k1 k2 k3 k4)))), (q2, .inl (cL, 5, .inr (.inl (l5 t0 t1 t2 t3 t4)))), (q3, .inl (cL, 5, .inr (.inl (l5 ((pabs s0 s1 s2 s3 s4 k0 k1 k2 k3 k4 t0 t1 t2 t3 t4 a b c0 d0).1) ((pabs s0 s1 s2 s3 s4 k0 k1 k2 k3 k4 t0 t1 t2 t3 t4 a b c0 d0).2.1) ((pabs s0 s1 s2 s3 s4 k0 k1 k2 k3 k4 t0 t1 t2 t3 t4 a b c0 d0).2.2.1) ((pabs s0 s1 s2 s3 s4 k0 k1 k2 k3 k4 t0 t1 t2 t3 t4 a b c0 d0).2.2.2.1) ((pabs s0 s1 s2 s3 s4 k0 k1 k2 k3 k4 t0 t1 t2 t3 t4 a b c0 d0).2.2.2.2))))), (q4, .inl (cL, 5, .inr (.inl (l5 ((pmt s0 s1 s2 s3 s4 k0 k1 k2 k3 k4 t0 t1 t2 t3 t4 a b c0 d0).1) ((pmt s0 s1 s2 s3 s4 k0 k1 k2 k3 k4 t0 t1 t2 t3 t4 a b c0 d0).2.1) ((pmt s0 s1 s2 s3 s4 k0 k1 k2 k3 k4 t0 t1 t2 t3 t4 a b c0 d0).2.2.1) ((pmt s0 s1 s2 s3 s4 k0 k1 k2 k3 k4 t0 t1 t2 t3 t4 a b c0 d0).2.2.2.1) ((pmt s0 s1 s2 s3 s4 k0 k1 k2 k3 k4 t0 t1 t2 t3 t4 a b c0 d0).2.2.2.2)))))]) (va_A [(h, .inr (4, [.ref q1, .ref q2, .ref q3, .ref q4, .ref q5])), (q1, .inl (cL, 5, .inr (.inl (l5 k0 k1 k2 k3 k4)))), (q2, .inl (cL, 5, .inr (.inl (l5 t0 t1 t2 t3 t4)))), (q3, .inl (cL, 5, .inr (.inl (l5 s0 s1 s2 s3 s4)))), (q4, .inl (cL, 5, .inr (.inl (l5 p0 p1 p2 p3 p4))))] sz)) 0 0 (va_A [(h, .inr (4, [.ref q1, .ref q2, .ref q3, .ref q4, .ref q5])), (q1, .inl (cL, 5, .inr (.inl (l5 k0 k1 k2 k3 k4)))), (q2, .inl (cL, 5, .inr (.inl (l5 t0 t1 t2 t3 t4)))), (q3, .inl (cL, 5, .inr (.inl (l5 s0 s1 s2 s3 s4)))), (q4, .inl (cL, 5, .inr (.inl (l5 p0 p1 p2 p3 p4))))] sz) := by
  refine sb_ofW (Qc := fun A => (sbQv D (fun (_ : Unit) => True) (fun (_ : Unit) => [(h, .inr (4, [.ref q1, .ref q2, .ref q3, .ref q4, .ref q5])), (q1, .inl (cL, 5, .inr (.inl (l5 k0 k1 k2 k3 k4)))), (q2, .inl (cL, 5, .inr (.inl (l5 t0 t1 t2 t3 t4)))), (q3, .inl (cL, 5, .inr (.inl (l5 ((pabs s0 s1 s2 s3 s4 k0 k1 k2 k3 k4 t0 t1 t2 t3 t4 a b c0 d0).1) ((pabs s0 s1 s2 s3 s4 k0 k1 k2 k3 k4 t0 t1 t2 t3 t4 a b c0 d0).2.1) ((pabs s0 s1 s2 s3 s4 k0 k1 k2 k3 k4 t0 t1 t2 t3 t4 a b c0 d0).2.2.1) ((pabs s0 s1 s2 s3 s4 k0 k1 k2 k3 k4 t0 t1 t2 t3 t4 a b c0 d0).2.2.2.1) ((pabs s0 s1 s2 s3 s4 k0 k1 k2 k3 k4 t0 t1 t2 t3 t4 a b c0 d0).2.2.2.2))))), (q4, .inl (cL, 5, .inr (.inl (l5 ((pmt s0 s1 s2 s3 s4 k0 k1 k2 k3 k4 t0 t1 t2 t3 t4 a b c0 d0).1) ((pmt s0 s1 s2 s3 s4 k0 k1 k2 k3 k4 t0 t1 t2 t3 t4 a b c0 d0).2.1) ((pmt s0 s1 s2 s3 s4 k0 k1 k2 k3 k4 t0 t1 t2 t3 t4 a b c0 d0).2.2.1) ((pmt s0 s1 s2 s3 s4 k0 k1 k2 k3 k4 t0 t1 t2 t3 t4 a b c0 d0).2.2.2.1) ((pmt s0 s1 s2 s3 s4 k0 k1 k2 k3 k4 t0 t1 t2 t3 t4 a b c0 d0).2.2.2.2)))))]) A)) (by decide) (Nat.le_of_ble_eq_true rfl) ?_
  intro p e s m args below meth c A ls hx hb hr hml hts hown hlocks hin hsz hP hG hD hA hS hl
  have hl : lv_has ls 6 [(0, .ref h), (1, .int a), (2, .int b), (3, .int c0), (4, .int d0)] := hl
  refine lv_aload_n hx hb d_P_absorb_0 rfl (lv_at hl 0 rfl) ?_
  refine va_get (D := D) (ci := 4) (v := .ref q3) (C := R_P) (T := F_P) (N := 5) hx hb hts in_P hown hG.1 hP 0 rfl rfl 2 (by decide) (hts _ k_174) (fun _ h9 => h9) rfl d_P_absorb_1 ?_
  refine lv_iload_n hx hb d_P_absorb_4 rfl (lv_at hl 1 rfl) ?_
  refine vp_callSi (va_runSN (As := [.int a]) (rest := [.ref q3]) ⟨hx, hb, hml, hown, hts⟩ (c_X_swapped l D cI cL cB tS tF a ) ⟨va_cnB 1 hts (sb_g k_434) rfl rfl rfl (va_Nw.of rfl (hG.nest (args := args) _ n_549)) (hts _ k_22) (by decide +kernel) ⟨Nat.le_of_ble_eq_true rfl, Nat.le_of_ble_eq_true rfl⟩, hts _ k_433, trivial⟩ (sb_rS hG hP hS [] rfl) rfl rfl hl.1 rfl (lv_room (Nat.le_of_ble_eq_true rfl)) d_P_absorb_5 ⟨Nat.le_of_ble_eq_true rfl, Nat.le_of_ble_eq_true rfl⟩).run (fun r_1 er_1 => ?_)
  subst er_1
  refine lv_iload_n hx hb d_P_absorb_8 rfl (lv_at hl 2 rfl) ?_
  refine vp_callSi (va_runSN (As := [.int b]) (rest := [.int (swpI a), .ref q3]) ⟨hx, hb, hml, hown, hts⟩ (c_X_swapped l D cI cL cB tS tF b ) ⟨va_cnB 1 hts (sb_g k_434) rfl rfl rfl (va_Nw.of rfl (hG.nest (args := args) _ n_549)) (hts _ k_22) (by decide +kernel) ⟨Nat.le_of_ble_eq_true rfl, Nat.le_of_ble_eq_true rfl⟩, hts _ k_433, trivial⟩ (sb_rS hG hP hS [] rfl) rfl rfl hl.1 rfl (lv_room (Nat.le_of_ble_eq_true rfl)) d_P_absorb_9 ⟨Nat.le_of_ble_eq_true rfl, Nat.le_of_ble_eq_true rfl⟩).run (fun r_2 er_2 => ?_)
  subst er_2
  refine lv_iload_n hx hb d_P_absorb_12 rfl (lv_at hl 3 rfl) ?_
  refine vp_callSi (va_runSN (As := [.int c0]) (rest := [.int (swpI b), .int (swpI a), .ref q3]) ⟨hx, hb, hml, hown, hts⟩ (c_X_swapped l D cI cL cB tS tF c0 ) ⟨va_cnB 1 hts (sb_g k_434) rfl rfl rfl (va_Nw.of rfl (hG.nest (args := args) _ n_549)) (hts _ k_22) (by decide +kernel) ⟨Nat.le_of_ble_eq_true rfl, Nat.le_of_ble_eq_true rfl⟩, hts _ k_433, trivial⟩ (sb_rS hG hP hS [] rfl) rfl rfl hl.1 rfl (lv_room (Nat.le_of_ble_eq_true rfl)) d_P_absorb_13 ⟨Nat.le_of_ble_eq_true rfl, Nat.le_of_ble_eq_true rfl⟩).run (fun r_3 er_3 => ?_)
  subst er_3
  refine lv_iload hx hb d_P_absorb_16 (lv_at hl 4 rfl) ?_
  refine vp_callSi (va_runSN (As := [.int d0]) (rest := [.int (swpI c0), .int (swpI b), .int (swpI a), .ref q3]) ⟨hx, hb, hml, hown, hts⟩ (c_X_swapped l D cI cL cB tS tF d0 ) ⟨va_cnB 1 hts (sb_g k_434) rfl rfl rfl (va_Nw.of rfl (hG.nest (args := args) _ n_549)) (hts _ k_22) (by decide +kernel) ⟨Nat.le_of_ble_eq_true rfl, Nat.le_of_ble_eq_true rfl⟩, hts _ k_433, trivial⟩ (sb_rS hG hP hS [] rfl) rfl rfl hl.1 rfl (lv_room (Nat.le_of_ble_eq_true rfl)) d_P_absorb_18 ⟨Nat.le_of_ble_eq_true rfl, Nat.le_of_ble_eq_true rfl⟩).run (fun r_4 er_4 => ?_)
  subst er_4
  refine sb_callv (wr := [(h, .inr (4, [.ref q1, .ref q2, .ref q3, .ref q4, .ref q5])), (q1, .inl (cL, 5, .inr (.inl (l5 k0 k1 k2 k3 k4)))), (q2, .inl (cL, 5, .inr (.inl (l5 t0 t1 t2 t3 t4)))), (q4, .inl (cL, 5, .inr (.inl (l5 p0 p1 p2 p3 p4))))]) (va_runS (As := [.ref q3, .int (swpI a), .int (swpI b), .int (swpI c0), .int (swpI d0)]) (rest := []) ⟨hx, hb, hml, hown, hts⟩ (c_P_addTo l D cI cL cB tS tF q3 s0 s1 s2 s3 s4 (swpI a) (swpI b) (swpI c0) (swpI d0) _ ) (va_cwS 5 hts (sb_gS k_552 k_553 k_29 k_554) rfl rfl rfl (by decide +kernel) ⟨Nat.le_of_ble_eq_true rfl, Nat.le_of_ble_eq_true rfl⟩) (sb_pS hG hP hD hS hA [3] (by decide) rfl) rfl rfl hl.1 rfl (lv_room (Nat.le_of_ble_eq_true rfl)) d_P_absorb_21 ⟨Nat.le_of_ble_eq_true rfl, Nat.le_of_ble_eq_true rfl⟩) hP hD hS hA [3] [0, 1, 2, 4] rfl rfl (by decide) (by decide) (fun u H locs hw_5 hP hD hS => ?_)
  have hP : va_P D vwCl [(h, .inr (4, [.ref q1, .ref q2, .ref q3, .ref q4, .ref q5])), (q1, .inl (cL, 5, .inr (.inl (l5 k0 k1 k2 k3 k4)))), (q2, .inl (cL, 5, .inr (.inl (l5 t0 t1 t2 t3 t4)))), (q4, .inl (cL, 5, .inr (.inl (l5 p0 p1 p2 p3 p4)))), (q3, .inl (cL, 5, .inr (.inl (l5 ((padd s0 s1 s2 s3 s4 (swpI a) (swpI b) (swpI c0) (swpI d0)).1) ((padd s0 s1 s2 s3 s4 (swpI a) (swpI b) (swpI c0) (swpI d0)).2.1) ((padd s0 s1 s2 s3 s4 (swpI a) (swpI b) (swpI c0) (swpI d0)).2.2.1) ((padd s0 s1 s2 s3 s4 (swpI a) (swpI b) (swpI c0) (swpI d0)).2.2.2.1) ((padd s0 s1 s2 s3 s4 (swpI a) (swpI b) (swpI c0) (swpI d0)).2.2.2.2)))))] H := hP
  have hD : va_D A [(h, .inr (4, [.ref q1, .ref q2, .ref q3, .ref q4, .ref q5])), (q1, .inl (cL, 5, .inr (.inl (l5 k0 k1 k2 k3 k4)))), (q2, .inl (cL, 5, .inr (.inl (l5 t0 t1 t2 t3 t4)))), (q4, .inl (cL, 5, .inr (.inl (l5 p0 p1 p2 p3 p4)))), (q3, .inl (cL, 5, .inr (.inl (l5 ((padd s0 s1 s2 s3 s4 (swpI a) (swpI b) (swpI c0) (swpI d0)).1) ((padd s0 s1 s2 s3 s4 (swpI a) (swpI b) (swpI c0) (swpI d0)).2.1) ((padd s0 s1 s2 s3 s4 (swpI a) (swpI b) (swpI c0) (swpI d0)).2.2.1) ((padd s0 s1 s2 s3 s4 (swpI a) (swpI b) (swpI c0) (swpI d0)).2.2.2.1) ((padd s0 s1 s2 s3 s4 (swpI a) (swpI b) (swpI c0) (swpI d0)).2.2.2.2)))))] := hD
  refine lv_aload_n hx hb d_P_absorb_24 rfl (lv_at hl 0 rfl) ?_
  refine va_get (D := D) (ci := 4) (v := .ref q3) (C := R_P) (T := F_P) (N := 5) hx hb hts in_P hown hG.1 hP 0 rfl rfl 2 (by decide) (hts _ k_174) (fun _ h9 => h9) rfl d_P_absorb_25 ?_
  refine lv_iconst (v := 4) hx hb d_P_absorb_28 (by decide) ?_
  refine lv_dup2_11 hx hb d_P_absorb_29 rfl rfl ?_
  refine sb_lldv hx hb hG.1 hP 4 rfl 4 rfl (by omega) (by omega) (v := (padd s0 s1 s2 s3 s4 (swpI a) (swpI b) (swpI c0) (swpI d0)).2.2.2.2) rfl d_P_absorb_30 ?_
  refine lv_ldc2 (v := 16777216) hx hb hown (hts (.constantLong R_P 46 16777216) (by decide +kernel)) d_P_absorb_31 ?_
  refine lv_ladd hx hb d_P_absorb_34 ?_
  refine lv_topl (fun x_6 ex_6 => ?_)
  refine sb_lst hx hb hG.1 hP hD hS 4 rfl 4 rfl (by omega) (by omega) d_P_absorb_35 (fun f_7 H locs ef_7 hP hD hS => ?_)
  have hP : va_P D vwCl [(h, .inr (4, [.ref q1, .ref q2, .ref q3, .ref q4, .ref q5])), (q1, .inl (cL, 5, .inr (.inl (l5 k0 k1 k2 k3 k4)))), (q2, .inl (cL, 5, .inr (.inl (l5 t0 t1 t2 t3 t4)))), (q4, .inl (cL, 5, .inr (.inl (l5 p0 p1 p2 p3 p4)))), (q3, .inl (cL, 5, .inr (.inl f_7)))] H := hP
  have hD : va_D A [(h, .inr (4, [.ref q1, .ref q2, .ref q3, .ref q4, .ref q5])), (q1, .inl (cL, 5, .inr (.inl (l5 k0 k1 k2 k3 k4)))), (q2, .inl (cL, 5, .inr (.inl (l5 t0 t1 t2 t3 t4)))), (q4, .inl (cL, 5, .inr (.inl (l5 p0 p1 p2 p3 p4)))), (q3, .inl (cL, 5, .inr (.inl f_7)))] := hD
  obtain rfl : f_7 = l5 ((padd s0 s1 s2 s3 s4 (swpI a) (swpI b) (swpI c0) (swpI d0)).1) ((padd s0 s1 s2 s3 s4 (swpI a) (swpI b) (swpI c0) (swpI d0)).2.1) ((padd s0 s1 s2 s3 s4 (swpI a) (swpI b) (swpI c0) (swpI d0)).2.2.1) ((padd s0 s1 s2 s3 s4 (swpI a) (swpI b) (swpI c0) (swpI d0)).2.2.2.1) x_6 := ef_7.trans (l5_set4 ..)
  refine lv_iconst (v := 0) hx hb d_P_absorb_36 (by decide) ?_
  refine lv_istore (lv' := [(5, .int 0), (0, .ref h), (1, .int a), (2, .int b), (3, .int c0), (4, .int d0)]) hx hb d_P_absorb_37 hl (by decide) rfl (fun ls hl => ?_)
  refine lv_iload hx hb d_P_absorb_39 (lv_at hl 0 rfl) ?_
  refine lv_iconst (v := 5) hx hb d_P_absorb_41 (by decide) ?_
  refine lv_icmp_ge (tgt := 64) hx hb d_P_absorb_42 (by decide) (fun c_8 => absurd c_8 (sb_geF (a := 0) (b := 5) rfl rfl (by omega) (by omega) (by omega))) (fun c_8 => ?_)
  refine lv_aload_n hx hb d_P_absorb_45 rfl (lv_at hl 1 rfl) ?_
  refine va_get (D := D) (ci := 4) (v := .ref q4) (C := R_P) (T := F_P) (N := 5) hx hb hts in_P hown hG.1 hP 0 rfl rfl 3 (by decide) (hts _ k_175) (fun _ h9 => h9) rfl d_P_absorb_46 ?_
  refine lv_iload hx hb d_P_absorb_49 (lv_at hl 0 rfl) ?_
  refine lv_aload_n hx hb d_P_absorb_51 rfl (lv_at hl 1 rfl) ?_
  refine lv_iload hx hb d_P_absorb_52 (lv_at hl 0 rfl) ?_
  refine vp_callSl (va_runV (As := [.int 0]) (rest := [.int 0, .ref q4]) ⟨hx, hb, hml, hown, hts⟩ (c_P_productLimb0 l D cI cL cB tS tF h q1 q2 q3 q4 q5 ((padd s0 s1 s2 s3 s4 (swpI a) (swpI b) (swpI c0) (swpI d0)).1) ((padd s0 s1 s2 s3 s4 (swpI a) (swpI b) (swpI c0) (swpI d0)).2.1) ((padd s0 s1 s2 s3 s4 (swpI a) (swpI b) (swpI c0) (swpI d0)).2.2.1) ((padd s0 s1 s2 s3 s4 (swpI a) (swpI b) (swpI c0) (swpI d0)).2.2.2.1) x_6 k0 k1 k2 k3 k4 t0 t1 t2 t3 t4 ) (cwV 1 hts (sb_gV k_587 k_589 k_3 k_29 k_590) rfl rfl rfl (by decide +kernel) ⟨Nat.le_of_ble_eq_true rfl, Nat.le_of_ble_eq_true rfl⟩) (sb_rV hG hP hS [0, 1, 2, 4] rfl (ci := 4) (q0 := 0) rfl rfl) rfl rfl hl.1 rfl (lv_room (Nat.le_of_ble_eq_true rfl)) d_P_absorb_54 ⟨Nat.le_of_ble_eq_true rfl, Nat.le_of_ble_eq_true rfl⟩).run (fun r_9 er_9 => ?_)
  subst er_9
  refine lv_topl (fun x_10 ex_10 => ?_)
  refine sb_lst hx hb hG.1 hP hD hS 3 rfl 0 rfl (by omega) (by omega) d_P_absorb_57 (fun f_11 H locs ef_11 hP hD hS => ?_)
  have hP : va_P D vwCl [(h, .inr (4, [.ref q1, .ref q2, .ref q3, .ref q4, .ref q5])), (q1, .inl (cL, 5, .inr (.inl (l5 k0 k1 k2 k3 k4)))), (q2, .inl (cL, 5, .inr (.inl (l5 t0 t1 t2 t3 t4)))), (q4, .inl (cL, 5, .inr (.inl f_11))), (q3, .inl (cL, 5, .inr (.inl (l5 ((padd s0 s1 s2 s3 s4 (swpI a) (swpI b) (swpI c0) (swpI d0)).1) ((padd s0 s1 s2 s3 s4 (swpI a) (swpI b) (swpI c0) (swpI d0)).2.1) ((padd s0 s1 s2 s3 s4 (swpI a) (swpI b) (swpI c0) (swpI d0)).2.2.1) ((padd s0 s1 s2 s3 s4 (swpI a) (swpI b) (swpI c0) (swpI d0)).2.2.2.1) x_6))))] H := hP
  have hD : va_D A [(h, .inr (4, [.ref q1, .ref q2, .ref q3, .ref q4, .ref q5])), (q1, .inl (cL, 5, .inr (.inl (l5 k0 k1 k2 k3 k4)))), (q2, .inl (cL, 5, .inr (.inl (l5 t0 t1 t2 t3 t4)))), (q4, .inl (cL, 5, .inr (.inl f_11))), (q3, .inl (cL, 5, .inr (.inl (l5 ((padd s0 s1 s2 s3 s4 (swpI a) (swpI b) (swpI c0) (swpI d0)).1) ((padd s0 s1 s2 s3 s4 (swpI a) (swpI b) (swpI c0) (swpI d0)).2.1) ((padd s0 s1 s2 s3 s4 (swpI a) (swpI b) (swpI c0) (swpI d0)).2.2.1) ((padd s0 s1 s2 s3 s4 (swpI a) (swpI b) (swpI c0) (swpI d0)).2.2.2.1) x_6))))] := hD
  obtain rfl : f_11 = l5 x_10 p1 p2 p3 p4 := ef_11.trans (l5_set0 ..)
  refine lv_iinc (v := nI 1) (lv' := [(5, .int (nI 1)), (0, .ref h), (1, .int a), (2, .int b), (3, .int c0), (4, .int d0)]) hx hb d_P_absorb_58 hl (k := 0) rfl (sb_inc (a := 0) (b := 1) (d := 1) rfl (by decide) (by omega)) (by decide) rfl (fun ls hl => ?_)
  refine lv_goto (tgt := 39) hx hb d_P_absorb_61 (by decide) ?_
  refine lv_iload hx hb d_P_absorb_39 (lv_at hl 0 rfl) ?_
  refine lv_iconst (v := 5) hx hb d_P_absorb_41 (by decide) ?_
  refine lv_icmp_ge (tgt := 64) hx hb d_P_absorb_42 (by decide) (fun c_12 => absurd c_12 (sb_geF (a := 1) (b := 5) rfl rfl (by omega) (by omega) (by omega))) (fun c_12 => ?_)
  refine lv_aload_n hx hb d_P_absorb_45 rfl (lv_at hl 1 rfl) ?_
  refine va_get (D := D) (ci := 4) (v := .ref q4) (C := R_P) (T := F_P) (N := 5) hx hb hts in_P hown hG.1 hP 0 rfl rfl 3 (by decide) (hts _ k_175) (fun _ h9 => h9) rfl d_P_absorb_46 ?_
  refine lv_iload hx hb d_P_absorb_49 (lv_at hl 0 rfl) ?_
  refine lv_aload_n hx hb d_P_absorb_51 rfl (lv_at hl 1 rfl) ?_
  refine lv_iload hx hb d_P_absorb_52 (lv_at hl 0 rfl) ?_
  refine vp_callSl (va_runV (As := [.int (nI 1)]) (rest := [.int (nI 1), .ref q4]) ⟨hx, hb, hml, hown, hts⟩ (c_P_productLimb1 l D cI cL cB tS tF h q1 q2 q3 q4 q5 ((padd s0 s1 s2 s3 s4 (swpI a) (swpI b) (swpI c0) (swpI d0)).1) ((padd s0 s1 s2 s3 s4 (swpI a) (swpI b) (swpI c0) (swpI d0)).2.1) ((padd s0 s1 s2 s3 s4 (swpI a) (swpI b) (swpI c0) (swpI d0)).2.2.1) ((padd s0 s1 s2 s3 s4 (swpI a) (swpI b) (swpI c0) (swpI d0)).2.2.2.1) x_6 k0 k1 k2 k3 k4 t0 t1 t2 t3 t4 ) (cwV 1 hts (sb_gV k_587 k_589 k_3 k_29 k_590) rfl rfl rfl (by decide +kernel) ⟨Nat.le_of_ble_eq_true rfl, Nat.le_of_ble_eq_true rfl⟩) (sb_rV hG hP hS [0, 1, 2, 4] rfl (ci := 4) (q0 := 0) rfl rfl) rfl rfl hl.1 rfl (lv_room (Nat.le_of_ble_eq_true rfl)) d_P_absorb_54 ⟨Nat.le_of_ble_eq_true rfl, Nat.le_of_ble_eq_true rfl⟩).run (fun r_13 er_13 => ?_)
  subst er_13
  refine lv_topl (fun x_14 ex_14 => ?_)
  refine sb_lst hx hb hG.1 hP hD hS 3 rfl 1 rfl (by omega) (by omega) d_P_absorb_57 (fun f_15 H locs ef_15 hP hD hS => ?_)
  have hP : va_P D vwCl [(h, .inr (4, [.ref q1, .ref q2, .ref q3, .ref q4, .ref q5])), (q1, .inl (cL, 5, .inr (.inl (l5 k0 k1 k2 k3 k4)))), (q2, .inl (cL, 5, .inr (.inl (l5 t0 t1 t2 t3 t4)))), (q4, .inl (cL, 5, .inr (.inl f_15))), (q3, .inl (cL, 5, .inr (.inl (l5 ((padd s0 s1 s2 s3 s4 (swpI a) (swpI b) (swpI c0) (swpI d0)).1) ((padd s0 s1 s2 s3 s4 (swpI a) (swpI b) (swpI c0) (swpI d0)).2.1) ((padd s0 s1 s2 s3 s4 (swpI a) (swpI b) (swpI c0) (swpI d0)).2.2.1) ((padd s0 s1 s2 s3 s4 (swpI a) (swpI b) (swpI c0) (swpI d0)).2.2.2.1) x_6))))] H := hP
  have hD : va_D A [(h, .inr (4, [.ref q1, .ref q2, .ref q3, .ref q4, .ref q5])), (q1, .inl (cL, 5, .inr (.inl (l5 k0 k1 k2 k3 k4)))), (q2, .inl (cL, 5, .inr (.inl (l5 t0 t1 t2 t3 t4)))), (q4, .inl (cL, 5, .inr (.inl f_15))), (q3, .inl (cL, 5, .inr (.inl (l5 ((padd s0 s1 s2 s3 s4 (swpI a) (swpI b) (swpI c0) (swpI d0)).1) ((padd s0 s1 s2 s3 s4 (swpI a) (swpI b) (swpI c0) (swpI d0)).2.1) ((padd s0 s1 s2 s3 s4 (swpI a) (swpI b) (swpI c0) (swpI d0)).2.2.1) ((padd s0 s1 s2 s3 s4 (swpI a) (swpI b) (swpI c0) (swpI d0)).2.2.2.1) x_6))))] := hD
  obtain rfl : f_15 = l5 x_10 x_14 p2 p3 p4 := ef_15.trans (l5_set1 ..)
  refine lv_iinc (v := nI 2) (lv' := [(5, .int (nI 2)), (0, .ref h), (1, .int a), (2, .int b), (3, .int c0), (4, .int d0)]) hx hb d_P_absorb_58 hl (k := 0) rfl (sb_inc (a := 1) (b := 2) (d := 1) rfl (by decide) (by omega)) (by decide) rfl (fun ls hl => ?_)
  refine lv_goto (tgt := 39) hx hb d_P_absorb_61 (by decide) ?_
  refine lv_iload hx hb d_P_absorb_39 (lv_at hl 0 rfl) ?_
  refine lv_iconst (v := 5) hx hb d_P_absorb_41 (by decide) ?_
  refine lv_icmp_ge (tgt := 64) hx hb d_P_absorb_42 (by decide) (fun c_16 => absurd c_16 (sb_geF (a := 2) (b := 5) rfl rfl (by omega) (by omega) (by omega))) (fun c_16 => ?_)
  refine lv_aload_n hx hb d_P_absorb_45 rfl (lv_at hl 1 rfl) ?_
  refine va_get (D := D) (ci := 4) (v := .ref q4) (C := R_P) (T := F_P) (N := 5) hx hb hts in_P hown hG.1 hP 0 rfl rfl 3 (by decide) (hts _ k_175) (fun _ h9 => h9) rfl d_P_absorb_46 ?_
  refine lv_iload hx hb d_P_absorb_49 (lv_at hl 0 rfl) ?_
  refine lv_aload_n hx hb d_P_absorb_51 rfl (lv_at hl 1 rfl) ?_
  refine lv_iload hx hb d_P_absorb_52 (lv_at hl 0 rfl) ?_
  refine vp_callSl (va_runV (As := [.int (nI 2)]) (rest := [.int (nI 2), .ref q4]) ⟨hx, hb, hml, hown, hts⟩ (c_P_productLimb2 l D cI cL cB tS tF h q1 q2 q3 q4 q5 ((padd s0 s1 s2 s3 s4 (swpI a) (swpI b) (swpI c0) (swpI d0)).1) ((padd s0 s1 s2 s3 s4 (swpI a) (swpI b) (swpI c0) (swpI d0)).2.1) ((padd s0 s1 s2 s3 s4 (swpI a) (swpI b) (swpI c0) (swpI d0)).2.2.1) ((padd s0 s1 s2 s3 s4 (swpI a) (swpI b) (swpI c0) (swpI d0)).2.2.2.1) x_6 k0 k1 k2 k3 k4 t0 t1 t2 t3 t4 ) (cwV 1 hts (sb_gV k_587 k_589 k_3 k_29 k_590) rfl rfl rfl (by decide +kernel) ⟨Nat.le_of_ble_eq_true rfl, Nat.le_of_ble_eq_true rfl⟩) (sb_rV hG hP hS [0, 1, 2, 4] rfl (ci := 4) (q0 := 0) rfl rfl) rfl rfl hl.1 rfl (lv_room (Nat.le_of_ble_eq_true rfl)) d_P_absorb_54 ⟨Nat.le_of_ble_eq_true rfl, Nat.le_of_ble_eq_true rfl⟩).run (fun r_17 er_17 => ?_)
  subst er_17
  refine lv_topl (fun x_18 ex_18 => ?_)
  refine sb_lst hx hb hG.1 hP hD hS 3 rfl 2 rfl (by omega) (by omega) d_P_absorb_57 (fun f_19 H locs ef_19 hP hD hS => ?_)
  have hP : va_P D vwCl [(h, .inr (4, [.ref q1, .ref q2, .ref q3, .ref q4, .ref q5])), (q1, .inl (cL, 5, .inr (.inl (l5 k0 k1 k2 k3 k4)))), (q2, .inl (cL, 5, .inr (.inl (l5 t0 t1 t2 t3 t4)))), (q4, .inl (cL, 5, .inr (.inl f_19))), (q3, .inl (cL, 5, .inr (.inl (l5 ((padd s0 s1 s2 s3 s4 (swpI a) (swpI b) (swpI c0) (swpI d0)).1) ((padd s0 s1 s2 s3 s4 (swpI a) (swpI b) (swpI c0) (swpI d0)).2.1) ((padd s0 s1 s2 s3 s4 (swpI a) (swpI b) (swpI c0) (swpI d0)).2.2.1) ((padd s0 s1 s2 s3 s4 (swpI a) (swpI b) (swpI c0) (swpI d0)).2.2.2.1) x_6))))] H := hP
  have hD : va_D A [(h, .inr (4, [.ref q1, .ref q2, .ref q3, .ref q4, .ref q5])), (q1, .inl (cL, 5, .inr (.inl (l5 k0 k1 k2 k3 k4)))), (q2, .inl (cL, 5, .inr (.inl (l5 t0 t1 t2 t3 t4)))), (q4, .inl (cL, 5, .inr (.inl f_19))), (q3, .inl (cL, 5, .inr (.inl (l5 ((padd s0 s1 s2 s3 s4 (swpI a) (swpI b) (swpI c0) (swpI d0)).1) ((padd s0 s1 s2 s3 s4 (swpI a) (swpI b) (swpI c0) (swpI d0)).2.1) ((padd s0 s1 s2 s3 s4 (swpI a) (swpI b) (swpI c0) (swpI d0)).2.2.1) ((padd s0 s1 s2 s3 s4 (swpI a) (swpI b) (swpI c0) (swpI d0)).2.2.2.1) x_6))))] := hD
  obtain rfl : f_19 = l5 x_10 x_14 x_18 p3 p4 := ef_19.trans (l5_set2 ..)
  refine lv_iinc (v := nI 3) (lv' := [(5, .int (nI 3)), (0, .ref h), (1, .int a), (2, .int b), (3, .int c0), (4, .int d0)]) hx hb d_P_absorb_58 hl (k := 0) rfl (sb_inc (a := 2) (b := 3) (d := 1) rfl (by decide) (by omega)) (by decide) rfl (fun ls hl => ?_)
  refine lv_goto (tgt := 39) hx hb d_P_absorb_61 (by decide) ?_
  refine lv_iload hx hb d_P_absorb_39 (lv_at hl 0 rfl) ?_
  refine lv_iconst (v := 5) hx hb d_P_absorb_41 (by decide) ?_
  refine lv_icmp_ge (tgt := 64) hx hb d_P_absorb_42 (by decide) (fun c_20 => absurd c_20 (sb_geF (a := 3) (b := 5) rfl rfl (by omega) (by omega) (by omega))) (fun c_20 => ?_)
  refine lv_aload_n hx hb d_P_absorb_45 rfl (lv_at hl 1 rfl) ?_
  refine va_get (D := D) (ci := 4) (v := .ref q4) (C := R_P) (T := F_P) (N := 5) hx hb hts in_P hown hG.1 hP 0 rfl rfl 3 (by decide) (hts _ k_175) (fun _ h9 => h9) rfl d_P_absorb_46 ?_
  refine lv_iload hx hb d_P_absorb_49 (lv_at hl 0 rfl) ?_
  refine lv_aload_n hx hb d_P_absorb_51 rfl (lv_at hl 1 rfl) ?_
  refine lv_iload hx hb d_P_absorb_52 (lv_at hl 0 rfl) ?_
  refine vp_callSl (va_runV (As := [.int (nI 3)]) (rest := [.int (nI 3), .ref q4]) ⟨hx, hb, hml, hown, hts⟩ (c_P_productLimb3 l D cI cL cB tS tF h q1 q2 q3 q4 q5 ((padd s0 s1 s2 s3 s4 (swpI a) (swpI b) (swpI c0) (swpI d0)).1) ((padd s0 s1 s2 s3 s4 (swpI a) (swpI b) (swpI c0) (swpI d0)).2.1) ((padd s0 s1 s2 s3 s4 (swpI a) (swpI b) (swpI c0) (swpI d0)).2.2.1) ((padd s0 s1 s2 s3 s4 (swpI a) (swpI b) (swpI c0) (swpI d0)).2.2.2.1) x_6 k0 k1 k2 k3 k4 t0 t1 t2 t3 t4 ) (cwV 1 hts (sb_gV k_587 k_589 k_3 k_29 k_590) rfl rfl rfl (by decide +kernel) ⟨Nat.le_of_ble_eq_true rfl, Nat.le_of_ble_eq_true rfl⟩) (sb_rV hG hP hS [0, 1, 2, 4] rfl (ci := 4) (q0 := 0) rfl rfl) rfl rfl hl.1 rfl (lv_room (Nat.le_of_ble_eq_true rfl)) d_P_absorb_54 ⟨Nat.le_of_ble_eq_true rfl, Nat.le_of_ble_eq_true rfl⟩).run (fun r_21 er_21 => ?_)
  subst er_21
  refine lv_topl (fun x_22 ex_22 => ?_)
  refine sb_lst hx hb hG.1 hP hD hS 3 rfl 3 rfl (by omega) (by omega) d_P_absorb_57 (fun f_23 H locs ef_23 hP hD hS => ?_)
  have hP : va_P D vwCl [(h, .inr (4, [.ref q1, .ref q2, .ref q3, .ref q4, .ref q5])), (q1, .inl (cL, 5, .inr (.inl (l5 k0 k1 k2 k3 k4)))), (q2, .inl (cL, 5, .inr (.inl (l5 t0 t1 t2 t3 t4)))), (q4, .inl (cL, 5, .inr (.inl f_23))), (q3, .inl (cL, 5, .inr (.inl (l5 ((padd s0 s1 s2 s3 s4 (swpI a) (swpI b) (swpI c0) (swpI d0)).1) ((padd s0 s1 s2 s3 s4 (swpI a) (swpI b) (swpI c0) (swpI d0)).2.1) ((padd s0 s1 s2 s3 s4 (swpI a) (swpI b) (swpI c0) (swpI d0)).2.2.1) ((padd s0 s1 s2 s3 s4 (swpI a) (swpI b) (swpI c0) (swpI d0)).2.2.2.1) x_6))))] H := hP
  have hD : va_D A [(h, .inr (4, [.ref q1, .ref q2, .ref q3, .ref q4, .ref q5])), (q1, .inl (cL, 5, .inr (.inl (l5 k0 k1 k2 k3 k4)))), (q2, .inl (cL, 5, .inr (.inl (l5 t0 t1 t2 t3 t4)))), (q4, .inl (cL, 5, .inr (.inl f_23))), (q3, .inl (cL, 5, .inr (.inl (l5 ((padd s0 s1 s2 s3 s4 (swpI a) (swpI b) (swpI c0) (swpI d0)).1) ((padd s0 s1 s2 s3 s4 (swpI a) (swpI b) (swpI c0) (swpI d0)).2.1) ((padd s0 s1 s2 s3 s4 (swpI a) (swpI b) (swpI c0) (swpI d0)).2.2.1) ((padd s0 s1 s2 s3 s4 (swpI a) (swpI b) (swpI c0) (swpI d0)).2.2.2.1) x_6))))] := hD
  obtain rfl : f_23 = l5 x_10 x_14 x_18 x_22 p4 := ef_23.trans (l5_set3 ..)
  refine lv_iinc (v := nI 4) (lv' := [(5, .int (nI 4)), (0, .ref h), (1, .int a), (2, .int b), (3, .int c0), (4, .int d0)]) hx hb d_P_absorb_58 hl (k := 0) rfl (sb_inc (a := 3) (b := 4) (d := 1) rfl (by decide) (by omega)) (by decide) rfl (fun ls hl => ?_)
  refine lv_goto (tgt := 39) hx hb d_P_absorb_61 (by decide) ?_
  refine lv_iload hx hb d_P_absorb_39 (lv_at hl 0 rfl) ?_
  refine lv_iconst (v := 5) hx hb d_P_absorb_41 (by decide) ?_
  refine lv_icmp_ge (tgt := 64) hx hb d_P_absorb_42 (by decide) (fun c_24 => absurd c_24 (sb_geF (a := 4) (b := 5) rfl rfl (by omega) (by omega) (by omega))) (fun c_24 => ?_)
  refine lv_aload_n hx hb d_P_absorb_45 rfl (lv_at hl 1 rfl) ?_
  refine va_get (D := D) (ci := 4) (v := .ref q4) (C := R_P) (T := F_P) (N := 5) hx hb hts in_P hown hG.1 hP 0 rfl rfl 3 (by decide) (hts _ k_175) (fun _ h9 => h9) rfl d_P_absorb_46 ?_
  refine lv_iload hx hb d_P_absorb_49 (lv_at hl 0 rfl) ?_
  refine lv_aload_n hx hb d_P_absorb_51 rfl (lv_at hl 1 rfl) ?_
  refine lv_iload hx hb d_P_absorb_52 (lv_at hl 0 rfl) ?_
  refine vp_callSl (va_runV (As := [.int (nI 4)]) (rest := [.int (nI 4), .ref q4]) ⟨hx, hb, hml, hown, hts⟩ (c_P_productLimb4 l D cI cL cB tS tF h q1 q2 q3 q4 q5 ((padd s0 s1 s2 s3 s4 (swpI a) (swpI b) (swpI c0) (swpI d0)).1) ((padd s0 s1 s2 s3 s4 (swpI a) (swpI b) (swpI c0) (swpI d0)).2.1) ((padd s0 s1 s2 s3 s4 (swpI a) (swpI b) (swpI c0) (swpI d0)).2.2.1) ((padd s0 s1 s2 s3 s4 (swpI a) (swpI b) (swpI c0) (swpI d0)).2.2.2.1) x_6 k0 k1 k2 k3 k4 t0 t1 t2 t3 t4 ) (cwV 1 hts (sb_gV k_587 k_589 k_3 k_29 k_590) rfl rfl rfl (by decide +kernel) ⟨Nat.le_of_ble_eq_true rfl, Nat.le_of_ble_eq_true rfl⟩) (sb_rV hG hP hS [0, 1, 2, 4] rfl (ci := 4) (q0 := 0) rfl rfl) rfl rfl hl.1 rfl (lv_room (Nat.le_of_ble_eq_true rfl)) d_P_absorb_54 ⟨Nat.le_of_ble_eq_true rfl, Nat.le_of_ble_eq_true rfl⟩).run (fun r_25 er_25 => ?_)
  subst er_25
  refine lv_topl (fun x_26 ex_26 => ?_)
  refine sb_lst hx hb hG.1 hP hD hS 3 rfl 4 rfl (by omega) (by omega) d_P_absorb_57 (fun f_27 H locs ef_27 hP hD hS => ?_)
  have hP : va_P D vwCl [(h, .inr (4, [.ref q1, .ref q2, .ref q3, .ref q4, .ref q5])), (q1, .inl (cL, 5, .inr (.inl (l5 k0 k1 k2 k3 k4)))), (q2, .inl (cL, 5, .inr (.inl (l5 t0 t1 t2 t3 t4)))), (q4, .inl (cL, 5, .inr (.inl f_27))), (q3, .inl (cL, 5, .inr (.inl (l5 ((padd s0 s1 s2 s3 s4 (swpI a) (swpI b) (swpI c0) (swpI d0)).1) ((padd s0 s1 s2 s3 s4 (swpI a) (swpI b) (swpI c0) (swpI d0)).2.1) ((padd s0 s1 s2 s3 s4 (swpI a) (swpI b) (swpI c0) (swpI d0)).2.2.1) ((padd s0 s1 s2 s3 s4 (swpI a) (swpI b) (swpI c0) (swpI d0)).2.2.2.1) x_6))))] H := hP
  have hD : va_D A [(h, .inr (4, [.ref q1, .ref q2, .ref q3, .ref q4, .ref q5])), (q1, .inl (cL, 5, .inr (.inl (l5 k0 k1 k2 k3 k4)))), (q2, .inl (cL, 5, .inr (.inl (l5 t0 t1 t2 t3 t4)))), (q4, .inl (cL, 5, .inr (.inl f_27))), (q3, .inl (cL, 5, .inr (.inl (l5 ((padd s0 s1 s2 s3 s4 (swpI a) (swpI b) (swpI c0) (swpI d0)).1) ((padd s0 s1 s2 s3 s4 (swpI a) (swpI b) (swpI c0) (swpI d0)).2.1) ((padd s0 s1 s2 s3 s4 (swpI a) (swpI b) (swpI c0) (swpI d0)).2.2.1) ((padd s0 s1 s2 s3 s4 (swpI a) (swpI b) (swpI c0) (swpI d0)).2.2.2.1) x_6))))] := hD
  obtain rfl : f_27 = l5 x_10 x_14 x_18 x_22 x_26 := ef_27.trans (l5_set4 ..)
  refine lv_iinc (v := nI 5) (lv' := [(5, .int (nI 5)), (0, .ref h), (1, .int a), (2, .int b), (3, .int c0), (4, .int d0)]) hx hb d_P_absorb_58 hl (k := 0) rfl (sb_inc (a := 4) (b := 5) (d := 1) rfl (by decide) (by omega)) (by decide) rfl (fun ls hl => ?_)
  refine lv_goto (tgt := 39) hx hb d_P_absorb_61 (by decide) ?_
  refine lv_iload hx hb d_P_absorb_39 (lv_at hl 0 rfl) ?_
  refine lv_iconst (v := 5) hx hb d_P_absorb_41 (by decide) ?_
  refine lv_icmp_ge (tgt := 64) hx hb d_P_absorb_42 (by decide) (fun c_28 => ?_) (fun c_28 => absurd (sb_geT (a := 5) (b := 5) rfl rfl (by omega) (by omega) (by omega)) c_28)
  refine lv_aload_n hx hb d_P_absorb_64 rfl (lv_at hl 1 rfl) ?_
  refine va_get (D := D) (ci := 4) (v := .ref q4) (C := R_P) (T := F_P) (N := 5) hx hb hts in_P hown hG.1 hP 0 rfl rfl 3 (by decide) (hts _ k_175) (fun _ h9 => h9) rfl d_P_absorb_65 ?_
  refine lv_iconst (v := 0) hx hb d_P_absorb_68 (by decide) ?_
  refine lv_aload_n hx hb d_P_absorb_69 rfl (lv_at hl 1 rfl) ?_
  refine va_get (D := D) (ci := 4) (v := .ref q3) (C := R_P) (T := F_P) (N := 5) hx hb hts in_P hown hG.1 hP 0 rfl rfl 2 (by decide) (hts _ k_174) (fun _ h9 => h9) rfl d_P_absorb_70 ?_
  refine lv_iconst (v := 0) hx hb d_P_absorb_73 (by decide) ?_
  refine lv_iconst (v := 5) hx hb d_P_absorb_74 (by decide) ?_
  refine sb_copyl hx hb (hml.trans hl.1.symm) hown (hts _ k_591) (hts _ k_274) (hts _ k_273) (hts _ k_37) hG.1 hP hD hS 3 4 rfl rfl 0 0 5 rfl rfl rfl (by omega) (by omega) (by omega) (by omega) (Nat.le_of_ble_eq_true rfl) (Nat.le_of_ble_eq_true rfl) d_P_absorb_75 (fun f_29 H locs ef_29 hP hD hS => ?_)
  have hP : va_P D vwCl [(h, .inr (4, [.ref q1, .ref q2, .ref q3, .ref q4, .ref q5])), (q1, .inl (cL, 5, .inr (.inl (l5 k0 k1 k2 k3 k4)))), (q2, .inl (cL, 5, .inr (.inl (l5 t0 t1 t2 t3 t4)))), (q4, .inl (cL, 5, .inr (.inl (l5 x_10 x_14 x_18 x_22 x_26)))), (q3, .inl (cL, 5, .inr (.inl f_29)))] H := hP
  have hD : va_D A [(h, .inr (4, [.ref q1, .ref q2, .ref q3, .ref q4, .ref q5])), (q1, .inl (cL, 5, .inr (.inl (l5 k0 k1 k2 k3 k4)))), (q2, .inl (cL, 5, .inr (.inl (l5 t0 t1 t2 t3 t4)))), (q4, .inl (cL, 5, .inr (.inl (l5 x_10 x_14 x_18 x_22 x_26)))), (q3, .inl (cL, 5, .inr (.inl f_29)))] := hD
  obtain rfl : f_29 = l5 x_10 x_14 x_18 x_22 x_26 := ef_29.trans (l5_cpy ..)
  refine lv_aload_n hx hb d_P_absorb_78 rfl (lv_at hl 1 rfl) ?_
  refine sb_callv (wr := [(q1, .inl (cL, 5, .inr (.inl (l5 k0 k1 k2 k3 k4)))), (q2, .inl (cL, 5, .inr (.inl (l5 t0 t1 t2 t3 t4)))), (q4, .inl (cL, 5, .inr (.inl (l5 x_10 x_14 x_18 x_22 x_26))))]) (va_runV (As := []) (rest := []) ⟨hx, hb, hml, hown, hts⟩ (c_P_carry l D cI cL cB tS tF h q1 q2 q3 q4 q5 x_10 x_14 x_18 x_22 x_26 _ ) (cwV 0 hts (sb_gV k_592 k_594 k_4 k_29 k_595) rfl rfl rfl (by decide +kernel) ⟨Nat.le_of_ble_eq_true rfl, Nat.le_of_ble_eq_true rfl⟩) (sb_pV hG hP hD hS hA [0, 4] (by decide) rfl (ci := 4) (q0 := 0) rfl rfl) rfl rfl hl.1 rfl (lv_room (Nat.le_of_ble_eq_true rfl)) d_P_absorb_79 ⟨Nat.le_of_ble_eq_true rfl, Nat.le_of_ble_eq_true rfl⟩) hP hD hS hA [0, 4] [1, 2, 3] rfl rfl (by decide) (by decide) (fun u H locs hw_30 hP hD hS => ?_)
  have hP : va_P D vwCl [(q1, .inl (cL, 5, .inr (.inl (l5 k0 k1 k2 k3 k4)))), (q2, .inl (cL, 5, .inr (.inl (l5 t0 t1 t2 t3 t4)))), (q4, .inl (cL, 5, .inr (.inl (l5 x_10 x_14 x_18 x_22 x_26)))), (h, .inr (4, [.ref q1, .ref q2, .ref q3, .ref q4, .ref q5])), (q3, .inl (cL, 5, .inr (.inl (l5 ((pcar x_10 x_14 x_18 x_22 x_26).1) ((pcar x_10 x_14 x_18 x_22 x_26).2.1) ((pcar x_10 x_14 x_18 x_22 x_26).2.2.1) ((pcar x_10 x_14 x_18 x_22 x_26).2.2.2.1) ((pcar x_10 x_14 x_18 x_22 x_26).2.2.2.2)))))] H := hP
  have hD : va_D A [(q1, .inl (cL, 5, .inr (.inl (l5 k0 k1 k2 k3 k4)))), (q2, .inl (cL, 5, .inr (.inl (l5 t0 t1 t2 t3 t4)))), (q4, .inl (cL, 5, .inr (.inl (l5 x_10 x_14 x_18 x_22 x_26)))), (h, .inr (4, [.ref q1, .ref q2, .ref q3, .ref q4, .ref q5])), (q3, .inl (cL, 5, .inr (.inl (l5 ((pcar x_10 x_14 x_18 x_22 x_26).1) ((pcar x_10 x_14 x_18 x_22 x_26).2.1) ((pcar x_10 x_14 x_18 x_22 x_26).2.2.1) ((pcar x_10 x_14 x_18 x_22 x_26).2.2.2.1) ((pcar x_10 x_14 x_18 x_22 x_26).2.2.2.2)))))] := hD
  subst ex_26
  subst ex_22
  subst ex_18
  subst ex_14
  subst ex_10
  subst ex_6
  have hP9 := hP.sub (ws' := [(h, .inr (4, [.ref q1, .ref q2, .ref q3, .ref q4, .ref q5])), (q1, .inl (cL, 5, .inr (.inl (l5 k0 k1 k2 k3 k4)))), (q2, .inl (cL, 5, .inr (.inl (l5 t0 t1 t2 t3 t4)))), (q3, .inl (cL, 5, .inr (.inl (l5 ((pcar (pl0 ((padd s0 s1 s2 s3 s4 (swpI a) (swpI b) (swpI c0) (swpI d0)).1) ((padd s0 s1 s2 s3 s4 (swpI a) (swpI b) (swpI c0) (swpI d0)).2.1) ((padd s0 s1 s2 s3 s4 (swpI a) (swpI b) (swpI c0) (swpI d0)).2.2.1) ((padd s0 s1 s2 s3 s4 (swpI a) (swpI b) (swpI c0) (swpI d0)).2.2.2.1) (((padd s0 s1 s2 s3 s4 (swpI a) (swpI b) (swpI c0) (swpI d0)).2.2.2.2) + 16777216) k0 k1 k2 k3 k4 t0 t1 t2 t3 t4) (pl1 ((padd s0 s1 s2 s3 s4 (swpI a) (swpI b) (swpI c0) (swpI d0)).1) ((padd s0 s1 s2 s3 s4 (swpI a) (swpI b) (swpI c0) (swpI d0)).2.1) ((padd s0 s1 s2 s3 s4 (swpI a) (swpI b) (swpI c0) (swpI d0)).2.2.1) ((padd s0 s1 s2 s3 s4 (swpI a) (swpI b) (swpI c0) (swpI d0)).2.2.2.1) (((padd s0 s1 s2 s3 s4 (swpI a) (swpI b) (swpI c0) (swpI d0)).2.2.2.2) + 16777216) k0 k1 k2 k3 k4 t0 t1 t2 t3 t4) (pl2 ((padd s0 s1 s2 s3 s4 (swpI a) (swpI b) (swpI c0) (swpI d0)).1) ((padd s0 s1 s2 s3 s4 (swpI a) (swpI b) (swpI c0) (swpI d0)).2.1) ((padd s0 s1 s2 s3 s4 (swpI a) (swpI b) (swpI c0) (swpI d0)).2.2.1) ((padd s0 s1 s2 s3 s4 (swpI a) (swpI b) (swpI c0) (swpI d0)).2.2.2.1) (((padd s0 s1 s2 s3 s4 (swpI a) (swpI b) (swpI c0) (swpI d0)).2.2.2.2) + 16777216) k0 k1 k2 k3 k4 t0 t1 t2 t3 t4) (pl3 ((padd s0 s1 s2 s3 s4 (swpI a) (swpI b) (swpI c0) (swpI d0)).1) ((padd s0 s1 s2 s3 s4 (swpI a) (swpI b) (swpI c0) (swpI d0)).2.1) ((padd s0 s1 s2 s3 s4 (swpI a) (swpI b) (swpI c0) (swpI d0)).2.2.1) ((padd s0 s1 s2 s3 s4 (swpI a) (swpI b) (swpI c0) (swpI d0)).2.2.2.1) (((padd s0 s1 s2 s3 s4 (swpI a) (swpI b) (swpI c0) (swpI d0)).2.2.2.2) + 16777216) k0 k1 k2 k3 k4 t0 t1 t2 t3 t4) (pl4 ((padd s0 s1 s2 s3 s4 (swpI a) (swpI b) (swpI c0) (swpI d0)).1) ((padd s0 s1 s2 s3 s4 (swpI a) (swpI b) (swpI c0) (swpI d0)).2.1) ((padd s0 s1 s2 s3 s4 (swpI a) (swpI b) (swpI c0) (swpI d0)).2.2.1) ((padd s0 s1 s2 s3 s4 (swpI a) (swpI b) (swpI c0) (swpI d0)).2.2.2.1) (((padd s0 s1 s2 s3 s4 (swpI a) (swpI b) (swpI c0) (swpI d0)).2.2.2.2) + 16777216) k0 k1 k2 k3 k4 t0 t1 t2 t3 t4)).1) ((pcar (pl0 ((padd s0 s1 s2 s3 s4 (swpI a) (swpI b) (swpI c0) (swpI d0)).1) ((padd s0 s1 s2 s3 s4 (swpI a) (swpI b) (swpI c0) (swpI d0)).2.1) ((padd s0 s1 s2 s3 s4 (swpI a) (swpI b) (swpI c0) (swpI d0)).2.2.1) ((padd s0 s1 s2 s3 s4 (swpI a) (swpI b) (swpI c0) (swpI d0)).2.2.2.1) (((padd s0 s1 s2 s3 s4 (swpI a) (swpI b) (swpI c0) (swpI d0)).2.2.2.2) + 16777216) k0 k1 k2 k3 k4 t0 t1 t2 t3 t4) (pl1 ((padd s0 s1 s2 s3 s4 (swpI a) (swpI b) (swpI c0) (swpI d0)).1) ((padd s0 s1 s2 s3 s4 (swpI a) (swpI b) (swpI c0) (swpI d0)).2.1) ((padd s0 s1 s2 s3 s4 (swpI a) (swpI b) (swpI c0) (swpI d0)).2.2.1) ((padd s0 s1 s2 s3 s4 (swpI a) (swpI b) (swpI c0) (swpI d0)).2.2.2.1) (((padd s0 s1 s2 s3 s4 (swpI a) (swpI b) (swpI c0) (swpI d0)).2.2.2.2) + 16777216) k0 k1 k2 k3 k4 t0 t1 t2 t3 t4) (pl2 ((padd s0 s1 s2 s3 s4 (swpI a) (swpI b) (swpI c0) (swpI d0)).1) ((padd s0 s1 s2 s3 s4 (swpI a) (swpI b) (swpI c0) (swpI d0)).2.1) ((padd s0 s1 s2 s3 s4 (swpI a) (swpI b) (swpI c0) (swpI d0)).2.2.1) ((padd s0 s1 s2 s3 s4 (swpI a) (swpI b) (swpI c0) (swpI d0)).2.2.2.1) (((padd s0 s1 s2 s3 s4 (swpI a) (swpI b) (swpI c0) (swpI d0)).2.2.2.2) + 16777216) k0 k1 k2 k3 k4 t0 t1 t2 t3 t4) (pl3 ((padd s0 s1 s2 s3 s4 (swpI a) (swpI b) (swpI c0) (swpI d0)).1) ((padd s0 s1 s2 s3 s4 (swpI a) (swpI b) (swpI c0) (swpI d0)).2.1) ((padd s0 s1 s2 s3 s4 (swpI a) (swpI b) (swpI c0) (swpI d0)).2.2.1) ((padd s0 s1 s2 s3 s4 (swpI a) (swpI b) (swpI c0) (swpI d0)).2.2.2.1) (((padd s0 s1 s2 s3 s4 (swpI a) (swpI b) (swpI c0) (swpI d0)).2.2.2.2) + 16777216) k0 k1 k2 k3 k4 t0 t1 t2 t3 t4) (pl4 ((padd s0 s1 s2 s3 s4 (swpI a) (swpI b) (swpI c0) (swpI d0)).1) ((padd s0 s1 s2 s3 s4 (swpI a) (swpI b) (swpI c0) (swpI d0)).2.1) ((padd s0 s1 s2 s3 s4 (swpI a) (swpI b) (swpI c0) (swpI d0)).2.2.1) ((padd s0 s1 s2 s3 s4 (swpI a) (swpI b) (swpI c0) (swpI d0)).2.2.2.1) (((padd s0 s1 s2 s3 s4 (swpI a) (swpI b) (swpI c0) (swpI d0)).2.2.2.2) + 16777216) k0 k1 k2 k3 k4 t0 t1 t2 t3 t4)).2.1) ((pcar (pl0 ((padd s0 s1 s2 s3 s4 (swpI a) (swpI b) (swpI c0) (swpI d0)).1) ((padd s0 s1 s2 s3 s4 (swpI a) (swpI b) (swpI c0) (swpI d0)).2.1) ((padd s0 s1 s2 s3 s4 (swpI a) (swpI b) (swpI c0) (swpI d0)).2.2.1) ((padd s0 s1 s2 s3 s4 (swpI a) (swpI b) (swpI c0) (swpI d0)).2.2.2.1) (((padd s0 s1 s2 s3 s4 (swpI a) (swpI b) (swpI c0) (swpI d0)).2.2.2.2) + 16777216) k0 k1 k2 k3 k4 t0 t1 t2 t3 t4) (pl1 ((padd s0 s1 s2 s3 s4 (swpI a) (swpI b) (swpI c0) (swpI d0)).1) ((padd s0 s1 s2 s3 s4 (swpI a) (swpI b) (swpI c0) (swpI d0)).2.1) ((padd s0 s1 s2 s3 s4 (swpI a) (swpI b) (swpI c0) (swpI d0)).2.2.1) ((padd s0 s1 s2 s3 s4 (swpI a) (swpI b) (swpI c0) (swpI d0)).2.2.2.1) (((padd s0 s1 s2 s3 s4 (swpI a) (swpI b) (swpI c0) (swpI d0)).2.2.2.2) + 16777216) k0 k1 k2 k3 k4 t0 t1 t2 t3 t4) (pl2 ((padd s0 s1 s2 s3 s4 (swpI a) (swpI b) (swpI c0) (swpI d0)).1) ((padd s0 s1 s2 s3 s4 (swpI a) (swpI b) (swpI c0) (swpI d0)).2.1) ((padd s0 s1 s2 s3 s4 (swpI a) (swpI b) (swpI c0) (swpI d0)).2.2.1) ((padd s0 s1 s2 s3 s4 (swpI a) (swpI b) (swpI c0) (swpI d0)).2.2.2.1) (((padd s0 s1 s2 s3 s4 (swpI a) (swpI b) (swpI c0) (swpI d0)).2.2.2.2) + 16777216) k0 k1 k2 k3 k4 t0 t1 t2 t3 t4) (pl3 ((padd s0 s1 s2 s3 s4 (swpI a) (swpI b) (swpI c0) (swpI d0)).1) ((padd s0 s1 s2 s3 s4 (swpI a) (swpI b) (swpI c0) (swpI d0)).2.1) ((padd s0 s1 s2 s3 s4 (swpI a) (swpI b) (swpI c0) (swpI d0)).2.2.1) ((padd s0 s1 s2 s3 s4 (swpI a) (swpI b) (swpI c0) (swpI d0)).2.2.2.1) (((padd s0 s1 s2 s3 s4 (swpI a) (swpI b) (swpI c0) (swpI d0)).2.2.2.2) + 16777216) k0 k1 k2 k3 k4 t0 t1 t2 t3 t4) (pl4 ((padd s0 s1 s2 s3 s4 (swpI a) (swpI b) (swpI c0) (swpI d0)).1) ((padd s0 s1 s2 s3 s4 (swpI a) (swpI b) (swpI c0) (swpI d0)).2.1) ((padd s0 s1 s2 s3 s4 (swpI a) (swpI b) (swpI c0) (swpI d0)).2.2.1) ((padd s0 s1 s2 s3 s4 (swpI a) (swpI b) (swpI c0) (swpI d0)).2.2.2.1) (((padd s0 s1 s2 s3 s4 (swpI a) (swpI b) (swpI c0) (swpI d0)).2.2.2.2) + 16777216) k0 k1 k2 k3 k4 t0 t1 t2 t3 t4)).2.2.1) ((pcar (pl0 ((padd s0 s1 s2 s3 s4 (swpI a) (swpI b) (swpI c0) (swpI d0)).1) ((padd s0 s1 s2 s3 s4 (swpI a) (swpI b) (swpI c0) (swpI d0)).2.1) ((padd s0 s1 s2 s3 s4 (swpI a) (swpI b) (swpI c0) (swpI d0)).2.2.1) ((padd s0 s1 s2 s3 s4 (swpI a) (swpI b) (swpI c0) (swpI d0)).2.2.2.1) (((padd s0 s1 s2 s3 s4 (swpI a) (swpI b) (swpI c0) (swpI d0)).2.2.2.2) + 16777216) k0 k1 k2 k3 k4 t0 t1 t2 t3 t4) (pl1 ((padd s0 s1 s2 s3 s4 (swpI a) (swpI b) (swpI c0) (swpI d0)).1) ((padd s0 s1 s2 s3 s4 (swpI a) (swpI b) (swpI c0) (swpI d0)).2.1) ((padd s0 s1 s2 s3 s4 (swpI a) (swpI b) (swpI c0) (swpI d0)).2.2.1) ((padd s0 s1 s2 s3 s4 (swpI a) (swpI b) (swpI c0) (swpI d0)).2.2.2.1) (((padd s0 s1 s2 s3 s4 (swpI a) (swpI b) (swpI c0) (swpI d0)).2.2.2.2) + 16777216) k0 k1 k2 k3 k4 t0 t1 t2 t3 t4) (pl2 ((padd s0 s1 s2 s3 s4 (swpI a) (swpI b) (swpI c0) (swpI d0)).1) ((padd s0 s1 s2 s3 s4 (swpI a) (swpI b) (swpI c0) (swpI d0)).2.1) ((padd s0 s1 s2 s3 s4 (swpI a) (swpI b) (swpI c0) (swpI d0)).2.2.1) ((padd s0 s1 s2 s3 s4 (swpI a) (swpI b) (swpI c0) (swpI d0)).2.2.2.1) (((padd s0 s1 s2 s3 s4 (swpI a) (swpI b) (swpI c0) (swpI d0)).2.2.2.2) + 16777216) k0 k1 k2 k3 k4 t0 t1 t2 t3 t4) (pl3 ((padd s0 s1 s2 s3 s4 (swpI a) (swpI b) (swpI c0) (swpI d0)).1) ((padd s0 s1 s2 s3 s4 (swpI a) (swpI b) (swpI c0) (swpI d0)).2.1) ((padd s0 s1 s2 s3 s4 (swpI a) (swpI b) (swpI c0) (swpI d0)).2.2.1) ((padd s0 s1 s2 s3 s4 (swpI a) (swpI b) (swpI c0) (swpI d0)).2.2.2.1) (((padd s0 s1 s2 s3 s4 (swpI a) (swpI b) (swpI c0) (swpI d0)).2.2.2.2) + 16777216) k0 k1 k2 k3 k4 t0 t1 t2 t3 t4) (pl4 ((padd s0 s1 s2 s3 s4 (swpI a) (swpI b) (swpI c0) (swpI d0)).1) ((padd s0 s1 s2 s3 s4 (swpI a) (swpI b) (swpI c0) (swpI d0)).2.1) ((padd s0 s1 s2 s3 s4 (swpI a) (swpI b) (swpI c0) (swpI d0)).2.2.1) ((padd s0 s1 s2 s3 s4 (swpI a) (swpI b) (swpI c0) (swpI d0)).2.2.2.1) (((padd s0 s1 s2 s3 s4 (swpI a) (swpI b) (swpI c0) (swpI d0)).2.2.2.2) + 16777216) k0 k1 k2 k3 k4 t0 t1 t2 t3 t4)).2.2.2.1) ((pcar (pl0 ((padd s0 s1 s2 s3 s4 (swpI a) (swpI b) (swpI c0) (swpI d0)).1) ((padd s0 s1 s2 s3 s4 (swpI a) (swpI b) (swpI c0) (swpI d0)).2.1) ((padd s0 s1 s2 s3 s4 (swpI a) (swpI b) (swpI c0) (swpI d0)).2.2.1) ((padd s0 s1 s2 s3 s4 (swpI a) (swpI b) (swpI c0) (swpI d0)).2.2.2.1) (((padd s0 s1 s2 s3 s4 (swpI a) (swpI b) (swpI c0) (swpI d0)).2.2.2.2) + 16777216) k0 k1 k2 k3 k4 t0 t1 t2 t3 t4) (pl1 ((padd s0 s1 s2 s3 s4 (swpI a) (swpI b) (swpI c0) (swpI d0)).1) ((padd s0 s1 s2 s3 s4 (swpI a) (swpI b) (swpI c0) (swpI d0)).2.1) ((padd s0 s1 s2 s3 s4 (swpI a) (swpI b) (swpI c0) (swpI d0)).2.2.1) ((padd s0 s1 s2 s3 s4 (swpI a) (swpI b) (swpI c0) (swpI d0)).2.2.2.1) (((padd s0 s1 s2 s3 s4 (swpI a) (swpI b) (swpI c0) (swpI d0)).2.2.2.2) + 16777216) k0 k1 k2 k3 k4 t0 t1 t2 t3 t4) (pl2 ((padd s0 s1 s2 s3 s4 (swpI a) (swpI b) (swpI c0) (swpI d0)).1) ((padd s0 s1 s2 s3 s4 (swpI a) (swpI b) (swpI c0) (swpI d0)).2.1) ((padd s0 s1 s2 s3 s4 (swpI a) (swpI b) (swpI c0) (swpI d0)).2.2.1) ((padd s0 s1 s2 s3 s4 (swpI a) (swpI b) (swpI c0) (swpI d0)).2.2.2.1) (((padd s0 s1 s2 s3 s4 (swpI a) (swpI b) (swpI c0) (swpI d0)).2.2.2.2) + 16777216) k0 k1 k2 k3 k4 t0 t1 t2 t3 t4) (pl3 ((padd s0 s1 s2 s3 s4 (swpI a) (swpI b) (swpI c0) (swpI d0)).1) ((padd s0 s1 s2 s3 s4 (swpI a) (swpI b) (swpI c0) (swpI d0)).2.1) ((padd s0 s1 s2 s3 s4 (swpI a) (swpI b) (swpI c0) (swpI d0)).2.2.1) ((padd s0 s1 s2 s3 s4 (swpI a) (swpI b) (swpI c0) (swpI d0)).2.2.2.1) (((padd s0 s1 s2 s3 s4 (swpI a) (swpI b) (swpI c0) (swpI d0)).2.2.2.2) + 16777216) k0 k1 k2 k3 k4 t0 t1 t2 t3 t4) (pl4 ((padd s0 s1 s2 s3 s4 (swpI a) (swpI b) (swpI c0) (swpI d0)).1) ((padd s0 s1 s2 s3 s4 (swpI a) (swpI b) (swpI c0) (swpI d0)).2.1) ((padd s0 s1 s2 s3 s4 (swpI a) (swpI b) (swpI c0) (swpI d0)).2.2.1) ((padd s0 s1 s2 s3 s4 (swpI a) (swpI b) (swpI c0) (swpI d0)).2.2.2.1) (((padd s0 s1 s2 s3 s4 (swpI a) (swpI b) (swpI c0) (swpI d0)).2.2.2.2) + 16777216) k0 k1 k2 k3 k4 t0 t1 t2 t3 t4)).2.2.2.2))))), (q4, .inl (cL, 5, .inr (.inl (l5 (pl0 ((padd s0 s1 s2 s3 s4 (swpI a) (swpI b) (swpI c0) (swpI d0)).1) ((padd s0 s1 s2 s3 s4 (swpI a) (swpI b) (swpI c0) (swpI d0)).2.1) ((padd s0 s1 s2 s3 s4 (swpI a) (swpI b) (swpI c0) (swpI d0)).2.2.1) ((padd s0 s1 s2 s3 s4 (swpI a) (swpI b) (swpI c0) (swpI d0)).2.2.2.1) (((padd s0 s1 s2 s3 s4 (swpI a) (swpI b) (swpI c0) (swpI d0)).2.2.2.2) + 16777216) k0 k1 k2 k3 k4 t0 t1 t2 t3 t4) (pl1 ((padd s0 s1 s2 s3 s4 (swpI a) (swpI b) (swpI c0) (swpI d0)).1) ((padd s0 s1 s2 s3 s4 (swpI a) (swpI b) (swpI c0) (swpI d0)).2.1) ((padd s0 s1 s2 s3 s4 (swpI a) (swpI b) (swpI c0) (swpI d0)).2.2.1) ((padd s0 s1 s2 s3 s4 (swpI a) (swpI b) (swpI c0) (swpI d0)).2.2.2.1) (((padd s0 s1 s2 s3 s4 (swpI a) (swpI b) (swpI c0) (swpI d0)).2.2.2.2) + 16777216) k0 k1 k2 k3 k4 t0 t1 t2 t3 t4) (pl2 ((padd s0 s1 s2 s3 s4 (swpI a) (swpI b) (swpI c0) (swpI d0)).1) ((padd s0 s1 s2 s3 s4 (swpI a) (swpI b) (swpI c0) (swpI d0)).2.1) ((padd s0 s1 s2 s3 s4 (swpI a) (swpI b) (swpI c0) (swpI d0)).2.2.1) ((padd s0 s1 s2 s3 s4 (swpI a) (swpI b) (swpI c0) (swpI d0)).2.2.2.1) (((padd s0 s1 s2 s3 s4 (swpI a) (swpI b) (swpI c0) (swpI d0)).2.2.2.2) + 16777216) k0 k1 k2 k3 k4 t0 t1 t2 t3 t4) (pl3 ((padd s0 s1 s2 s3 s4 (swpI a) (swpI b) (swpI c0) (swpI d0)).1) ((padd s0 s1 s2 s3 s4 (swpI a) (swpI b) (swpI c0) (swpI d0)).2.1) ((padd s0 s1 s2 s3 s4 (swpI a) (swpI b) (swpI c0) (swpI d0)).2.2.1) ((padd s0 s1 s2 s3 s4 (swpI a) (swpI b) (swpI c0) (swpI d0)).2.2.2.1) (((padd s0 s1 s2 s3 s4 (swpI a) (swpI b) (swpI c0) (swpI d0)).2.2.2.2) + 16777216) k0 k1 k2 k3 k4 t0 t1 t2 t3 t4) (pl4 ((padd s0 s1 s2 s3 s4 (swpI a) (swpI b) (swpI c0) (swpI d0)).1) ((padd s0 s1 s2 s3 s4 (swpI a) (swpI b) (swpI c0) (swpI d0)).2.1) ((padd s0 s1 s2 s3 s4 (swpI a) (swpI b) (swpI c0) (swpI d0)).2.2.1) ((padd s0 s1 s2 s3 s4 (swpI a) (swpI b) (swpI c0) (swpI d0)).2.2.2.1) (((padd s0 s1 s2 s3 s4 (swpI a) (swpI b) (swpI c0) (swpI d0)).2.2.2.2) + 16777216) k0 k1 k2 k3 k4 t0 t1 t2 t3 t4)))))]) [3, 0, 1, 4, 2] rfl
  have hD9 := hD.sub (ws' := [(h, .inr (4, [.ref q1, .ref q2, .ref q3, .ref q4, .ref q5])), (q1, .inl (cL, 5, .inr (.inl (l5 k0 k1 k2 k3 k4)))), (q2, .inl (cL, 5, .inr (.inl (l5 t0 t1 t2 t3 t4)))), (q3, .inl (cL, 5, .inr (.inl (l5 ((pcar (pl0 ((padd s0 s1 s2 s3 s4 (swpI a) (swpI b) (swpI c0) (swpI d0)).1) ((padd s0 s1 s2 s3 s4 (swpI a) (swpI b) (swpI c0) (swpI d0)).2.1) ((padd s0 s1 s2 s3 s4 (swpI a) (swpI b) (swpI c0) (swpI d0)).2.2.1) ((padd s0 s1 s2 s3 s4 (swpI a) (swpI b) (swpI c0) (swpI d0)).2.2.2.1) (((padd s0 s1 s2 s3 s4 (swpI a) (swpI b) (swpI c0) (swpI d0)).2.2.2.2) + 16777216) k0 k1 k2 k3 k4 t0 t1 t2 t3 t4) (pl1 ((padd s0 s1 s2 s3 s4 (swpI a) (swpI b) (swpI c0) (swpI d0)).1) ((padd s0 s1 s2 s3 s4 (swpI a) (swpI b) (swpI c0) (swpI d0)).2.1) ((padd s0 s1 s2 s3 s4 (swpI a) (swpI b) (swpI c0) (swpI d0)).2.2.1) ((padd s0 s1 s2 s3 s4 (swpI a) (swpI b) (swpI c0) (swpI d0)).2.2.2.1) (((padd s0 s1 s2 s3 s4 (swpI a) (swpI b) (swpI c0) (swpI d0)).2.2.2.2) + 16777216) k0 k1 k2 k3 k4 t0 t1 t2 t3 t4) (pl2 ((padd s0 s1 s2 s3 s4 (swpI a) (swpI b) (swpI c0) (swpI d0)).1) ((padd s0 s1 s2 s3 s4 (swpI a) (swpI b) (swpI c0) (swpI d0)).2.1) ((padd s0 s1 s2 s3 s4 (swpI a) (swpI b) (swpI c0) (swpI d0)).2.2.1) ((padd s0 s1 s2 s3 s4 (swpI a) (swpI b) (swpI c0) (swpI d0)).2.2.2.1) (((padd s0 s1 s2 s3 s4 (swpI a) (swpI b) (swpI c0) (swpI d0)).2.2.2.2) + 16777216) k0 k1 k2 k3 k4 t0 t1 t2 t3 t4) (pl3 ((padd s0 s1 s2 s3 s4 (swpI a) (swpI b) (swpI c0) (swpI d0)).1) ((padd s0 s1 s2 s3 s4 (swpI a) (swpI b) (swpI c0) (swpI d0)).2.1) ((padd s0 s1 s2 s3 s4 (swpI a) (swpI b) (swpI c0) (swpI d0)).2.2.1) ((padd s0 s1 s2 s3 s4 (swpI a) (swpI b) (swpI c0) (swpI d0)).2.2.2.1) (((padd s0 s1 s2 s3 s4 (swpI a) (swpI b) (swpI c0) (swpI d0)).2.2.2.2) + 16777216) k0 k1 k2 k3 k4 t0 t1 t2 t3 t4) (pl4 ((padd s0 s1 s2 s3 s4 (swpI a) (swpI b) (swpI c0) (swpI d0)).1) ((padd s0 s1 s2 s3 s4 (swpI a) (swpI b) (swpI c0) (swpI d0)).2.1) ((padd s0 s1 s2 s3 s4 (swpI a) (swpI b) (swpI c0) (swpI d0)).2.2.1) ((padd s0 s1 s2 s3 s4 (swpI a) (swpI b) (swpI c0) (swpI d0)).2.2.2.1) (((padd s0 s1 s2 s3 s4 (swpI a) (swpI b) (swpI c0) (swpI d0)).2.2.2.2) + 16777216) k0 k1 k2 k3 k4 t0 t1 t2 t3 t4)).1) ((pcar (pl0 ((padd s0 s1 s2 s3 s4 (swpI a) (swpI b) (swpI c0) (swpI d0)).1) ((padd s0 s1 s2 s3 s4 (swpI a) (swpI b) (swpI c0) (swpI d0)).2.1) ((padd s0 s1 s2 s3 s4 (swpI a) (swpI b) (swpI c0) (swpI d0)).2.2.1) ((padd s0 s1 s2 s3 s4 (swpI a) (swpI b) (swpI c0) (swpI d0)).2.2.2.1) (((padd s0 s1 s2 s3 s4 (swpI a) (swpI b) (swpI c0) (swpI d0)).2.2.2.2) + 16777216) k0 k1 k2 k3 k4 t0 t1 t2 t3 t4) (pl1 ((padd s0 s1 s2 s3 s4 (swpI a) (swpI b) (swpI c0) (swpI d0)).1) ((padd s0 s1 s2 s3 s4 (swpI a) (swpI b) (swpI c0) (swpI d0)).2.1) ((padd s0 s1 s2 s3 s4 (swpI a) (swpI b) (swpI c0) (swpI d0)).2.2.1) ((padd s0 s1 s2 s3 s4 (swpI a) (swpI b) (swpI c0) (swpI d0)).2.2.2.1) (((padd s0 s1 s2 s3 s4 (swpI a) (swpI b) (swpI c0) (swpI d0)).2.2.2.2) + 16777216) k0 k1 k2 k3 k4 t0 t1 t2 t3 t4) (pl2 ((padd s0 s1 s2 s3 s4 (swpI a) (swpI b) (swpI c0) (swpI d0)).1) ((padd s0 s1 s2 s3 s4 (swpI a) (swpI b) (swpI c0) (swpI d0)).2.1) ((padd s0 s1 s2 s3 s4 (swpI a) (swpI b) (swpI c0) (swpI d0)).2.2.1) ((padd s0 s1 s2 s3 s4 (swpI a) (swpI b) (swpI c0) (swpI d0)).2.2.2.1) (((padd s0 s1 s2 s3 s4 (swpI a) (swpI b) (swpI c0) (swpI d0)).2.2.2.2) + 16777216) k0 k1 k2 k3 k4 t0 t1 t2 t3 t4) (pl3 ((padd s0 s1 s2 s3 s4 (swpI a) (swpI b) (swpI c0) (swpI d0)).1) ((padd s0 s1 s2 s3 s4 (swpI a) (swpI b) (swpI c0) (swpI d0)).2.1) ((padd s0 s1 s2 s3 s4 (swpI a) (swpI b) (swpI c0) (swpI d0)).2.2.1) ((padd s0 s1 s2 s3 s4 (swpI a) (swpI b) (swpI c0) (swpI d0)).2.2.2.1) (((padd s0 s1 s2 s3 s4 (swpI a) (swpI b) (swpI c0) (swpI d0)).2.2.2.2) + 16777216) k0 k1 k2 k3 k4 t0 t1 t2 t3 t4) (pl4 ((padd s0 s1 s2 s3 s4 (swpI a) (swpI b) (swpI c0) (swpI d0)).1) ((padd s0 s1 s2 s3 s4 (swpI a) (swpI b) (swpI c0) (swpI d0)).2.1) ((padd s0 s1 s2 s3 s4 (swpI a) (swpI b) (swpI c0) (swpI d0)).2.2.1) ((padd s0 s1 s2 s3 s4 (swpI a) (swpI b) (swpI c0) (swpI d0)).2.2.2.1) (((padd s0 s1 s2 s3 s4 (swpI a) (swpI b) (swpI c0) (swpI d0)).2.2.2.2) + 16777216) k0 k1 k2 k3 k4 t0 t1 t2 t3 t4)).2.1) ((pcar (pl0 ((padd s0 s1 s2 s3 s4 (swpI a) (swpI b) (swpI c0) (swpI d0)).1) ((padd s0 s1 s2 s3 s4 (swpI a) (swpI b) (swpI c0) (swpI d0)).2.1) ((padd s0 s1 s2 s3 s4 (swpI a) (swpI b) (swpI c0) (swpI d0)).2.2.1) ((padd s0 s1 s2 s3 s4 (swpI a) (swpI b) (swpI c0) (swpI d0)).2.2.2.1) (((padd s0 s1 s2 s3 s4 (swpI a) (swpI b) (swpI c0) (swpI d0)).2.2.2.2) + 16777216) k0 k1 k2 k3 k4 t0 t1 t2 t3 t4) (pl1 ((padd s0 s1 s2 s3 s4 (swpI a) (swpI b) (swpI c0) (swpI d0)).1) ((padd s0 s1 s2 s3 s4 (swpI a) (swpI b) (swpI c0) (swpI d0)).2.1) ((padd s0 s1 s2 s3 s4 (swpI a) (swpI b) (swpI c0) (swpI d0)).2.2.1) ((padd s0 s1 s2 s3 s4 (swpI a) (swpI b) (swpI c0) (swpI d0)).2.2.2.1) (((padd s0 s1 s2 s3 s4 (swpI a) (swpI b) (swpI c0) (swpI d0)).2.2.2.2) + 16777216) k0 k1 k2 k3 k4 t0 t1 t2 t3 t4) (pl2 ((padd s0 s1 s2 s3 s4 (swpI a) (swpI b) (swpI c0) (swpI d0)).1) ((padd s0 s1 s2 s3 s4 (swpI a) (swpI b) (swpI c0) (swpI d0)).2.1) ((padd s0 s1 s2 s3 s4 (swpI a) (swpI b) (swpI c0) (swpI d0)).2.2.1) ((padd s0 s1 s2 s3 s4 (swpI a) (swpI b) (swpI c0) (swpI d0)).2.2.2.1) (((padd s0 s1 s2 s3 s4 (swpI a) (swpI b) (swpI c0) (swpI d0)).2.2.2.2) + 16777216) k0 k1 k2 k3 k4 t0 t1 t2 t3 t4) (pl3 ((padd s0 s1 s2 s3 s4 (swpI a) (swpI b) (swpI c0) (swpI d0)).1) ((padd s0 s1 s2 s3 s4 (swpI a) (swpI b) (swpI c0) (swpI d0)).2.1) ((padd s0 s1 s2 s3 s4 (swpI a) (swpI b) (swpI c0) (swpI d0)).2.2.1) ((padd s0 s1 s2 s3 s4 (swpI a) (swpI b) (swpI c0) (swpI d0)).2.2.2.1) (((padd s0 s1 s2 s3 s4 (swpI a) (swpI b) (swpI c0) (swpI d0)).2.2.2.2) + 16777216) k0 k1 k2 k3 k4 t0 t1 t2 t3 t4) (pl4 ((padd s0 s1 s2 s3 s4 (swpI a) (swpI b) (swpI c0) (swpI d0)).1) ((padd s0 s1 s2 s3 s4 (swpI a) (swpI b) (swpI c0) (swpI d0)).2.1) ((padd s0 s1 s2 s3 s4 (swpI a) (swpI b) (swpI c0) (swpI d0)).2.2.1) ((padd s0 s1 s2 s3 s4 (swpI a) (swpI b) (swpI c0) (swpI d0)).2.2.2.1) (((padd s0 s1 s2 s3 s4 (swpI a) (swpI b) (swpI c0) (swpI d0)).2.2.2.2) + 16777216) k0 k1 k2 k3 k4 t0 t1 t2 t3 t4)).2.2.1) ((pcar (pl0 ((padd s0 s1 s2 s3 s4 (swpI a) (swpI b) (swpI c0) (swpI d0)).1) ((padd s0 s1 s2 s3 s4 (swpI a) (swpI b) (swpI c0) (swpI d0)).2.1) ((padd s0 s1 s2 s3 s4 (swpI a) (swpI b) (swpI c0) (swpI d0)).2.2.1) ((padd s0 s1 s2 s3 s4 (swpI a) (swpI b) (swpI c0) (swpI d0)).2.2.2.1) (((padd s0 s1 s2 s3 s4 (swpI a) (swpI b) (swpI c0) (swpI d0)).2.2.2.2) + 16777216) k0 k1 k2 k3 k4 t0 t1 t2 t3 t4) (pl1 ((padd s0 s1 s2 s3 s4 (swpI a) (swpI b) (swpI c0) (swpI d0)).1) ((padd s0 s1 s2 s3 s4 (swpI a) (swpI b) (swpI c0) (swpI d0)).2.1) ((padd s0 s1 s2 s3 s4 (swpI a) (swpI b) (swpI c0) (swpI d0)).2.2.1) ((padd s0 s1 s2 s3 s4 (swpI a) (swpI b) (swpI c0) (swpI d0)).2.2.2.1) (((padd s0 s1 s2 s3 s4 (swpI a) (swpI b) (swpI c0) (swpI d0)).2.2.2.2) + 16777216) k0 k1 k2 k3 k4 t0 t1 t2 t3 t4) (pl2 ((padd s0 s1 s2 s3 s4 (swpI a) (swpI b) (swpI c0) (swpI d0)).1) ((padd s0 s1 s2 s3 s4 (swpI a) (swpI b) (swpI c0) (swpI d0)).2.1) ((padd s0 s1 s2 s3 s4 (swpI a) (swpI b) (swpI c0) (swpI d0)).2.2.1) ((padd s0 s1 s2 s3 s4 (swpI a) (swpI b) (swpI c0) (swpI d0)).2.2.2.1) (((padd s0 s1 s2 s3 s4 (swpI a) (swpI b) (swpI c0) (swpI d0)).2.2.2.2) + 16777216) k0 k1 k2 k3 k4 t0 t1 t2 t3 t4) (pl3 ((padd s0 s1 s2 s3 s4 (swpI a) (swpI b) (swpI c0) (swpI d0)).1) ((padd s0 s1 s2 s3 s4 (swpI a) (swpI b) (swpI c0) (swpI d0)).2.1) ((padd s0 s1 s2 s3 s4 (swpI a) (swpI b) (swpI c0) (swpI d0)).2.2.1) ((padd s0 s1 s2 s3 s4 (swpI a) (swpI b) (swpI c0) (swpI d0)).2.2.2.1) (((padd s0 s1 s2 s3 s4 (swpI a) (swpI b) (swpI c0) (swpI d0)).2.2.2.2) + 16777216) k0 k1 k2 k3 k4 t0 t1 t2 t3 t4) (pl4 ((padd s0 s1 s2 s3 s4 (swpI a) (swpI b) (swpI c0) (swpI d0)).1) ((padd s0 s1 s2 s3 s4 (swpI a) (swpI b) (swpI c0) (swpI d0)).2.1) ((padd s0 s1 s2 s3 s4 (swpI a) (swpI b) (swpI c0) (swpI d0)).2.2.1) ((padd s0 s1 s2 s3 s4 (swpI a) (swpI b) (swpI c0) (swpI d0)).2.2.2.1) (((padd s0 s1 s2 s3 s4 (swpI a) (swpI b) (swpI c0) (swpI d0)).2.2.2.2) + 16777216) k0 k1 k2 k3 k4 t0 t1 t2 t3 t4)).2.2.2.1) ((pcar (pl0 ((padd s0 s1 s2 s3 s4 (swpI a) (swpI b) (swpI c0) (swpI d0)).1) ((padd s0 s1 s2 s3 s4 (swpI a) (swpI b) (swpI c0) (swpI d0)).2.1) ((padd s0 s1 s2 s3 s4 (swpI a) (swpI b) (swpI c0) (swpI d0)).2.2.1) ((padd s0 s1 s2 s3 s4 (swpI a) (swpI b) (swpI c0) (swpI d0)).2.2.2.1) (((padd s0 s1 s2 s3 s4 (swpI a) (swpI b) (swpI c0) (swpI d0)).2.2.2.2) + 16777216) k0 k1 k2 k3 k4 t0 t1 t2 t3 t4) (pl1 ((padd s0 s1 s2 s3 s4 (swpI a) (swpI b) (swpI c0) (swpI d0)).1) ((padd s0 s1 s2 s3 s4 (swpI a) (swpI b) (swpI c0) (swpI d0)).2.1) ((padd s0 s1 s2 s3 s4 (swpI a) (swpI b) (swpI c0) (swpI d0)).2.2.1) ((padd s0 s1 s2 s3 s4 (swpI a) (swpI b) (swpI c0) (swpI d0)).2.2.2.1) (((padd s0 s1 s2 s3 s4 (swpI a) (swpI b) (swpI c0) (swpI d0)).2.2.2.2) + 16777216) k0 k1 k2 k3 k4 t0 t1 t2 t3 t4) (pl2 ((padd s0 s1 s2 s3 s4 (swpI a) (swpI b) (swpI c0) (swpI d0)).1) ((padd s0 s1 s2 s3 s4 (swpI a) (swpI b) (swpI c0) (swpI d0)).2.1) ((padd s0 s1 s2 s3 s4 (swpI a) (swpI b) (swpI c0) (swpI d0)).2.2.1) ((padd s0 s1 s2 s3 s4 (swpI a) (swpI b) (swpI c0) (swpI d0)).2.2.2.1) (((padd s0 s1 s2 s3 s4 (swpI a) (swpI b) (swpI c0) (swpI d0)).2.2.2.2) + 16777216) k0 k1 k2 k3 k4 t0 t1 t2 t3 t4) (pl3 ((padd s0 s1 s2 s3 s4 (swpI a) (swpI b) (swpI c0) (swpI d0)).1) ((padd s0 s1 s2 s3 s4 (swpI a) (swpI b) (swpI c0) (swpI d0)).2.1) ((padd s0 s1 s2 s3 s4 (swpI a) (swpI b) (swpI c0) (swpI d0)).2.2.1) ((padd s0 s1 s2 s3 s4 (swpI a) (swpI b) (swpI c0) (swpI d0)).2.2.2.1) (((padd s0 s1 s2 s3 s4 (swpI a) (swpI b) (swpI c0) (swpI d0)).2.2.2.2) + 16777216) k0 k1 k2 k3 k4 t0 t1 t2 t3 t4) (pl4 ((padd s0 s1 s2 s3 s4 (swpI a) (swpI b) (swpI c0) (swpI d0)).1) ((padd s0 s1 s2 s3 s4 (swpI a) (swpI b) (swpI c0) (swpI d0)).2.1) ((padd s0 s1 s2 s3 s4 (swpI a) (swpI b) (swpI c0) (swpI d0)).2.2.1) ((padd s0 s1 s2 s3 s4 (swpI a) (swpI b) (swpI c0) (swpI d0)).2.2.2.1) (((padd s0 s1 s2 s3 s4 (swpI a) (swpI b) (swpI c0) (swpI d0)).2.2.2.2) + 16777216) k0 k1 k2 k3 k4 t0 t1 t2 t3 t4)).2.2.2.2))))), (q4, .inl (cL, 5, .inr (.inl (l5 (pl0 ((padd s0 s1 s2 s3 s4 (swpI a) (swpI b) (swpI c0) (swpI d0)).1) ((padd s0 s1 s2 s3 s4 (swpI a) (swpI b) (swpI c0) (swpI d0)).2.1) ((padd s0 s1 s2 s3 s4 (swpI a) (swpI b) (swpI c0) (swpI d0)).2.2.1) ((padd s0 s1 s2 s3 s4 (swpI a) (swpI b) (swpI c0) (swpI d0)).2.2.2.1) (((padd s0 s1 s2 s3 s4 (swpI a) (swpI b) (swpI c0) (swpI d0)).2.2.2.2) + 16777216) k0 k1 k2 k3 k4 t0 t1 t2 t3 t4) (pl1 ((padd s0 s1 s2 s3 s4 (swpI a) (swpI b) (swpI c0) (swpI d0)).1) ((padd s0 s1 s2 s3 s4 (swpI a) (swpI b) (swpI c0) (swpI d0)).2.1) ((padd s0 s1 s2 s3 s4 (swpI a) (swpI b) (swpI c0) (swpI d0)).2.2.1) ((padd s0 s1 s2 s3 s4 (swpI a) (swpI b) (swpI c0) (swpI d0)).2.2.2.1) (((padd s0 s1 s2 s3 s4 (swpI a) (swpI b) (swpI c0) (swpI d0)).2.2.2.2) + 16777216) k0 k1 k2 k3 k4 t0 t1 t2 t3 t4) (pl2 ((padd s0 s1 s2 s3 s4 (swpI a) (swpI b) (swpI c0) (swpI d0)).1) ((padd s0 s1 s2 s3 s4 (swpI a) (swpI b) (swpI c0) (swpI d0)).2.1) ((padd s0 s1 s2 s3 s4 (swpI a) (swpI b) (swpI c0) (swpI d0)).2.2.1) ((padd s0 s1 s2 s3 s4 (swpI a) (swpI b) (swpI c0) (swpI d0)).2.2.2.1) (((padd s0 s1 s2 s3 s4 (swpI a) (swpI b) (swpI c0) (swpI d0)).2.2.2.2) + 16777216) k0 k1 k2 k3 k4 t0 t1 t2 t3 t4) (pl3 ((padd s0 s1 s2 s3 s4 (swpI a) (swpI b) (swpI c0) (swpI d0)).1) ((padd s0 s1 s2 s3 s4 (swpI a) (swpI b) (swpI c0) (swpI d0)).2.1) ((padd s0 s1 s2 s3 s4 (swpI a) (swpI b) (swpI c0) (swpI d0)).2.2.1) ((padd s0 s1 s2 s3 s4 (swpI a) (swpI b) (swpI c0) (swpI d0)).2.2.2.1) (((padd s0 s1 s2 s3 s4 (swpI a) (swpI b) (swpI c0) (swpI d0)).2.2.2.2) + 16777216) k0 k1 k2 k3 k4 t0 t1 t2 t3 t4) (pl4 ((padd s0 s1 s2 s3 s4 (swpI a) (swpI b) (swpI c0) (swpI d0)).1) ((padd s0 s1 s2 s3 s4 (swpI a) (swpI b) (swpI c0) (swpI d0)).2.1) ((padd s0 s1 s2 s3 s4 (swpI a) (swpI b) (swpI c0) (swpI d0)).2.2.1) ((padd s0 s1 s2 s3 s4 (swpI a) (swpI b) (swpI c0) (swpI d0)).2.2.2.1) (((padd s0 s1 s2 s3 s4 (swpI a) (swpI b) (swpI c0) (swpI d0)).2.2.2.2) + 16777216) k0 k1 k2 k3 k4 t0 t1 t2 t3 t4)))))]) [3, 0, 1, 4, 2] (by decide) rfl
  exact W.vret hx hb hr (fun t ht hW => ⟨⟨(), rfl, trivial, by rw [ht]; exact hP9, hD9⟩, hS.F ht⟩) hS.2.2 d_P_absorb_82

theorem d_P_begin_0 : decode b_P_begin 0 = .ok (.aload_n 0, 1) := by decide +kernel
theorem d_P_begin_1 : decode b_P_begin 1 = .ok (.getfield 18, 3) := by decide +kernel
theorem d_P_begin_4 : decode b_P_begin 4 = .ok (.lconst 0, 1) := by decide +kernel
theorem d_P_begin_5 : decode b_P_begin 5 = .ok (.invokestatic 28, 3) := by decide +kernel
theorem d_P_begin_8 : decode b_P_begin 8 = .ok (.aload_n 0, 1) := by decide +kernel
theorem d_P_begin_9 : decode b_P_begin 9 = .ok (.getfield 9, 3) := by decide +kernel
theorem d_P_begin_12 : decode b_P_begin 12 = .ok (.lconst 0, 1) := by decide +kernel
theorem d_P_begin_13 : decode b_P_begin 13 = .ok (.invokestatic 28, 3) := by decide +kernel
theorem d_P_begin_16 : decode b_P_begin 16 = .ok (.aload_n 0, 1) := by decide +kernel
theorem d_P_begin_17 : decode b_P_begin 17 = .ok (.getfield 9, 3) := by decide +kernel
theorem d_P_begin_20 : decode b_P_begin 20 = .ok (.aload_n 1, 1) := by decide +kernel
theorem d_P_begin_21 : decode b_P_begin 21 = .ok (.iconst 0, 1) := by decide +kernel
theorem d_P_begin_22 : decode b_P_begin 22 = .ok (.iaload, 1) := by decide +kernel
theorem d_P_begin_23 : decode b_P_begin 23 = .ok (.invokestatic 34, 3) := by decide +kernel
theorem d_P_begin_26 : decode b_P_begin 26 = .ok (.ldc 38, 2) := by decide +kernel
theorem d_P_begin_28 : decode b_P_begin 28 = .ok (.iand, 1) := by decide +kernel
theorem d_P_begin_29 : decode b_P_begin 29 = .ok (.aload_n 1, 1) := by decide +kernel
theorem d_P_begin_30 : decode b_P_begin 30 = .ok (.iconst 1, 1) := by decide +kernel
theorem d_P_begin_31 : decode b_P_begin 31 = .ok (.iaload, 1) := by decide +kernel
theorem d_P_begin_32 : decode b_P_begin 32 = .ok (.invokestatic 34, 3) := by decide +kernel
theorem d_P_begin_35 : decode b_P_begin 35 = .ok (.ldc 39, 2) := by decide +kernel
theorem d_P_begin_37 : decode b_P_begin 37 = .ok (.iand, 1) := by decide +kernel
theorem d_P_begin_38 : decode b_P_begin 38 = .ok (.aload_n 1, 1) := by decide +kernel
theorem d_P_begin_39 : decode b_P_begin 39 = .ok (.iconst 2, 1) := by decide +kernel
theorem d_P_begin_40 : decode b_P_begin 40 = .ok (.iaload, 1) := by decide +kernel
theorem d_P_begin_41 : decode b_P_begin 41 = .ok (.invokestatic 34, 3) := by decide +kernel
theorem d_P_begin_44 : decode b_P_begin 44 = .ok (.ldc 39, 2) := by decide +kernel
theorem d_P_begin_46 : decode b_P_begin 46 = .ok (.iand, 1) := by decide +kernel
theorem d_P_begin_47 : decode b_P_begin 47 = .ok (.aload_n 1, 1) := by decide +kernel
theorem d_P_begin_48 : decode b_P_begin 48 = .ok (.iconst 3, 1) := by decide +kernel
theorem d_P_begin_49 : decode b_P_begin 49 = .ok (.iaload, 1) := by decide +kernel
theorem d_P_begin_50 : decode b_P_begin 50 = .ok (.invokestatic 34, 3) := by decide +kernel
theorem d_P_begin_53 : decode b_P_begin 53 = .ok (.ldc 39, 2) := by decide +kernel
theorem d_P_begin_55 : decode b_P_begin 55 = .ok (.iand, 1) := by decide +kernel
theorem d_P_begin_56 : decode b_P_begin 56 = .ok (.invokestatic 40, 3) := by decide +kernel
theorem d_P_begin_59 : decode b_P_begin 59 = .ok (.iconst 0, 1) := by decide +kernel
theorem d_P_begin_60 : decode b_P_begin 60 = .ok (.istore_n 2, 1) := by decide +kernel
theorem d_P_begin_61 : decode b_P_begin 61 = .ok (.iload_n 2, 1) := by decide +kernel
theorem d_P_begin_62 : decode b_P_begin 62 = .ok (.iconst 5, 1) := by decide +kernel
theorem d_P_begin_63 : decode b_P_begin 63 = .ok (.if_icmp .ge 25, 3) := by decide +kernel
theorem d_P_begin_66 : decode b_P_begin 66 = .ok (.aload_n 0, 1) := by decide +kernel
theorem d_P_begin_67 : decode b_P_begin 67 = .ok (.getfield 15, 3) := by decide +kernel
theorem d_P_begin_70 : decode b_P_begin 70 = .ok (.iload_n 2, 1) := by decide +kernel
theorem d_P_begin_71 : decode b_P_begin 71 = .ok (.ldc2_w 44, 3) := by decide +kernel
theorem d_P_begin_74 : decode b_P_begin 74 = .ok (.aload_n 0, 1) := by decide +kernel
theorem d_P_begin_75 : decode b_P_begin 75 = .ok (.getfield 9, 3) := by decide +kernel
theorem d_P_begin_78 : decode b_P_begin 78 = .ok (.iload_n 2, 1) := by decide +kernel
theorem d_P_begin_79 : decode b_P_begin 79 = .ok (.laload, 1) := by decide +kernel
theorem d_P_begin_80 : decode b_P_begin 80 = .ok (.lmul, 1) := by decide +kernel
theorem d_P_begin_81 : decode b_P_begin 81 = .ok (.lastore, 1) := by decide +kernel
theorem d_P_begin_82 : decode b_P_begin 82 = .ok (.iinc 2 1, 3) := by decide +kernel
theorem d_P_begin_85 : decode b_P_begin 85 = .ok (.goto (-24), 3) := by decide +kernel
theorem d_P_begin_88 : decode b_P_begin 88 = .ok (.iconst 0, 1) := by decide +kernel
theorem d_P_begin_89 : decode b_P_begin 89 = .ok (.istore_n 2, 1) := by decide +kernel
theorem d_P_begin_90 : decode b_P_begin 90 = .ok (.iload_n 2, 1) := by decide +kernel
theorem d_P_begin_91 : decode b_P_begin 91 = .ok (.iconst 4, 1) := by decide +kernel
theorem d_P_begin_92 : decode b_P_begin 92 = .ok (.if_icmp .ge 23, 3) := by decide +kernel
theorem d_P_begin_95 : decode b_P_begin 95 = .ok (.aload_n 0, 1) := by decide +kernel
theorem d_P_begin_96 : decode b_P_begin 96 = .ok (.getfield 24, 3) := by decide +kernel
theorem d_P_begin_99 : decode b_P_begin 99 = .ok (.iload_n 2, 1) := by decide +kernel
theorem d_P_begin_100 : decode b_P_begin 100 = .ok (.aload_n 1, 1) := by decide +kernel
theorem d_P_begin_101 : decode b_P_begin 101 = .ok (.iconst 4, 1) := by decide +kernel
theorem d_P_begin_102 : decode b_P_begin 102 = .ok (.iload_n 2, 1) := by decide +kernel
theorem d_P_begin_103 : decode b_P_begin 103 = .ok (.iadd, 1) := by decide +kernel
theorem d_P_begin_104 : decode b_P_begin 104 = .ok (.iaload, 1) := by decide +kernel
theorem d_P_begin_105 : decode b_P_begin 105 = .ok (.invokestatic 34, 3) := by decide +kernel
theorem d_P_begin_108 : decode b_P_begin 108 = .ok (.iastore, 1) := by decide +kernel
theorem d_P_begin_109 : decode b_P_begin 109 = .ok (.iinc 2 1, 3) := by decide +kernel
theorem d_P_begin_112 : decode b_P_begin 112 = .ok (.goto (-22), 3) := by decide +kernel
theorem d_P_begin_115 : decode b_P_begin 115 = .ok (.return_, 1) := by decide +kernel

def rm_P_begin : Room := { frames := 1, cells := 0, slots := 0, locals := 32 }
set_option maxHeartbeats 4000000 in
set_option maxRecDepth 100000 in
theorem c_P_begin (l : Launch) (D : va_G) (cI cL cB : ClassId) (tS tF : Nat) (h : Nat) (q1 : Nat) (q2 : Nat) (q3 : Nat) (q4 : Nat) (q5 : Nat) (s0 : Int64) (s1 : Int64) (s2 : Int64) (s3 : Int64) (s4 : Int64) (k0 : Int64) (k1 : Int64) (k2 : Int64) (k3 : Int64) (k4 : Int64) (t0 : Int64) (t1 : Int64) (t2 : Int64) (t3 : Int64) (t4 : Int64) (g0 : Int32) (g1 : Int32) (g2 : Int32) (g3 : Int32) (q6 : Nat) (wd : Nat → Int32) (sz : Nat)  : Met l y_P_begin (sbw y_P_begin b_P_begin 3 none) rm_P_begin (sbPc D cI cL cB tS tF [.ref h, .ref q6] sz [(h, .inr (4, [.ref q1, .ref q2, .ref q3, .ref q4, .ref q5])), (q1, .inl (cL, 5, .inr (.inl (l5 k0 k1 k2 k3 k4)))), (q2, .inl (cL, 5, .inr (.inl (l5 t0 t1 t2 t3 t4)))), (q3, .inl (cL, 5, .inr (.inl (l5 s0 s1 s2 s3 s4)))), (q5, .inl (cI, 4, .inl (i4 g0 g1 g2 g3))), (q6, .inl (cI, 16, .inl wd))]) (sbQv D (fun (_ : Unit) => True) (fun (_ : Unit) => [(h, .inr (4, [.ref q1, .ref q2, .ref q3, .ref q4, .ref q5])), (q1, .inl (cL, 5, .inr (.inl (l5 ((pkey wd).1) ((pkey wd).2.1) ((pkey wd).2.2.1) ((pkey wd).2.2.2.1) ((pkey wd).2.2.2.2))))), (q2, .inl (cL, 5, .inr (.inl (l5 (5 * (pkey wd).1) (5 * (pkey wd).2.1) (5 * (pkey wd).2.2.1) (5 * (pkey wd).2.2.2.1) (5 * (pkey wd).2.2.2.2))))), (q3, .inl (cL, 5, .inr (.inl (l5 0 0 0 0 0)))), (q5, .inl (cI, 4, .inl (i4 (swpI (wd 4)) (swpI (wd 5)) (swpI (wd 6)) (swpI (wd 7))))), (q6, .inl (cI, 16, .inl wd))]) (va_A [(h, .inr (4, [.ref q1, .ref q2, .ref q3, .ref q4, .ref q5])), (q1, .inl (cL, 5, .inr (.inl (l5 k0 k1 k2 k3 k4)))), (q2, .inl (cL, 5, .inr (.inl (l5 t0 t1 t2 t3 t4)))), (q3, .inl (cL, 5, .inr (.inl (l5 s0 s1 s2 s3 s4)))), (q5, .inl (cI, 4, .inl (i4 g0 g1 g2 g3))), (q6, .inl (cI, 16, .inl wd))] sz)) 0 0 (va_A [(h, .inr (4, [.ref q1, .ref q2, .ref q3, .ref q4, .ref q5])), (q1, .inl (cL, 5, .inr (.inl (l5 k0 k1 k2 k3 k4)))), (q2, .inl (cL, 5, .inr (.inl (l5 t0 t1 t2 t3 t4)))), (q3, .inl (cL, 5, .inr (.inl (l5 s0 s1 s2 s3 s4)))), (q5, .inl (cI, 4, .inl (i4 g0 g1 g2 g3))), (q6, .inl (cI, 16, .inl wd))] sz) := by
  refine sb_ofW (Qc := fun A => (sbQv D (fun (_ : Unit) => True) (fun (_ : Unit) => [(h, .inr (4, [.ref q1, .ref q2, .ref q3, .ref q4, .ref q5])), (q1, .inl (cL, 5, .inr (.inl (l5 ((pkey wd).1) ((pkey wd).2.1) ((pkey wd).2.2.1) ((pkey wd).2.2.2.1) ((pkey wd).2.2.2.2))))), (q2, .inl (cL, 5, .inr (.inl (l5 (5 * (pkey wd).1) (5 * (pkey wd).2.1) (5 * (pkey wd).2.2.1) (5 * (pkey wd).2.2.2.1) (5 * (pkey wd).2.2.2.2))))), (q3, .inl (cL, 5, .inr (.inl (l5 0 0 0 0 0)))), (q5, .inl (cI, 4, .inl (i4 (swpI (wd 4)) (swpI (wd 5)) (swpI (wd 6)) (swpI (wd 7))))), (q6, .inl (cI, 16, .inl wd))]) A)) (by decide) (Nat.le_of_ble_eq_true rfl) ?_
  intro p e s m args below meth c A ls hx hb hr hml hts hown hlocks hin hsz hP hG hD hA hS hl
  have hl : lv_has ls 3 [(0, .ref h), (1, .ref q6)] := hl
  refine lv_aload_n hx hb d_P_begin_0 rfl (lv_at hl 0 rfl) ?_
  refine va_get (D := D) (ci := 4) (v := .ref q3) (C := R_P) (T := F_P) (N := 5) hx hb hts in_P hown hG.1 hP 0 rfl rfl 2 (by decide) (hts _ k_174) (fun _ h9 => h9) rfl d_P_begin_1 ?_
  refine lv_lconst (v := 0) hx hb d_P_begin_4 (by decide) ?_
  refine sb_callv (wr := [(h, .inr (4, [.ref q1, .ref q2, .ref q3, .ref q4, .ref q5])), (q1, .inl (cL, 5, .inr (.inl (l5 k0 k1 k2 k3 k4)))), (q2, .inl (cL, 5, .inr (.inl (l5 t0 t1 t2 t3 t4)))), (q5, .inl (cI, 4, .inl (i4 g0 g1 g2 g3))), (q6, .inl (cI, 16, .inl wd))]) (va_runS (As := [.ref q3, .long 0]) (rest := []) ⟨hx, hb, hml, hown, hts⟩ (c_J_fill l D cI cL cB tS tF q3 s0 s1 s2 s3 s4 0 _ ) (va_cwS 2 hts (sb_gS k_546 k_547 k_36 k_548) rfl rfl rfl (by decide +kernel) ⟨Nat.le_of_ble_eq_true rfl, Nat.le_of_ble_eq_true rfl⟩) (sb_pS hG hP hD hS hA [3] (by decide) rfl) rfl rfl hl.1 rfl (lv_room (Nat.le_of_ble_eq_true rfl)) d_P_begin_5 ⟨Nat.le_of_ble_eq_true rfl, Nat.le_of_ble_eq_true rfl⟩) hP hD hS hA [3] [0, 1, 2, 4, 5] rfl rfl (by decide) (by decide) (fun u H locs hw_1 hP hD hS => ?_)
  have hP : va_P D vwCl [(h, .inr (4, [.ref q1, .ref q2, .ref q3, .ref q4, .ref q5])), (q1, .inl (cL, 5, .inr (.inl (l5 k0 k1 k2 k3 k4)))), (q2, .inl (cL, 5, .inr (.inl (l5 t0 t1 t2 t3 t4)))), (q5, .inl (cI, 4, .inl (i4 g0 g1 g2 g3))), (q6, .inl (cI, 16, .inl wd)), (q3, .inl (cL, 5, .inr (.inl (l5 0 0 0 0 0))))] H := hP
  have hD : va_D A [(h, .inr (4, [.ref q1, .ref q2, .ref q3, .ref q4, .ref q5])), (q1, .inl (cL, 5, .inr (.inl (l5 k0 k1 k2 k3 k4)))), (q2, .inl (cL, 5, .inr (.inl (l5 t0 t1 t2 t3 t4)))), (q5, .inl (cI, 4, .inl (i4 g0 g1 g2 g3))), (q6, .inl (cI, 16, .inl wd)), (q3, .inl (cL, 5, .inr (.inl (l5 0 0 0 0 0))))] := hD
  refine lv_aload_n hx hb d_P_begin_8 rfl (lv_at hl 0 rfl) ?_
  refine va_get (D := D) (ci := 4) (v := .ref q1) (C := R_P) (T := F_P) (N := 5) hx hb hts in_P hown hG.1 hP 0 rfl rfl 0 (by decide) (hts _ k_172) (fun _ h9 => h9) rfl d_P_begin_9 ?_
  refine lv_lconst (v := 0) hx hb d_P_begin_12 (by decide) ?_
  refine sb_callv (wr := [(h, .inr (4, [.ref q1, .ref q2, .ref q3, .ref q4, .ref q5])), (q2, .inl (cL, 5, .inr (.inl (l5 t0 t1 t2 t3 t4)))), (q5, .inl (cI, 4, .inl (i4 g0 g1 g2 g3))), (q6, .inl (cI, 16, .inl wd)), (q3, .inl (cL, 5, .inr (.inl (l5 0 0 0 0 0))))]) (va_runS (As := [.ref q1, .long 0]) (rest := []) ⟨hx, hb, hml, hown, hts⟩ (c_J_fill l D cI cL cB tS tF q1 k0 k1 k2 k3 k4 0 _ ) (va_cwS 2 hts (sb_gS k_546 k_547 k_36 k_548) rfl rfl rfl (by decide +kernel) ⟨Nat.le_of_ble_eq_true rfl, Nat.le_of_ble_eq_true rfl⟩) (sb_pS hG hP hD hS hA [1] (by decide) rfl) rfl rfl hl.1 rfl (lv_room (Nat.le_of_ble_eq_true rfl)) d_P_begin_13 ⟨Nat.le_of_ble_eq_true rfl, Nat.le_of_ble_eq_true rfl⟩) hP hD hS hA [1] [0, 2, 3, 4, 5] rfl rfl (by decide) (by decide) (fun u H locs hw_2 hP hD hS => ?_)
  have hP : va_P D vwCl [(h, .inr (4, [.ref q1, .ref q2, .ref q3, .ref q4, .ref q5])), (q2, .inl (cL, 5, .inr (.inl (l5 t0 t1 t2 t3 t4)))), (q5, .inl (cI, 4, .inl (i4 g0 g1 g2 g3))), (q6, .inl (cI, 16, .inl wd)), (q3, .inl (cL, 5, .inr (.inl (l5 0 0 0 0 0)))), (q1, .inl (cL, 5, .inr (.inl (l5 0 0 0 0 0))))] H := hP
  have hD : va_D A [(h, .inr (4, [.ref q1, .ref q2, .ref q3, .ref q4, .ref q5])), (q2, .inl (cL, 5, .inr (.inl (l5 t0 t1 t2 t3 t4)))), (q5, .inl (cI, 4, .inl (i4 g0 g1 g2 g3))), (q6, .inl (cI, 16, .inl wd)), (q3, .inl (cL, 5, .inr (.inl (l5 0 0 0 0 0)))), (q1, .inl (cL, 5, .inr (.inl (l5 0 0 0 0 0))))] := hD
  refine lv_aload_n hx hb d_P_begin_16 rfl (lv_at hl 0 rfl) ?_
  refine va_get (D := D) (ci := 4) (v := .ref q1) (C := R_P) (T := F_P) (N := 5) hx hb hts in_P hown hG.1 hP 0 rfl rfl 0 (by decide) (hts _ k_172) (fun _ h9 => h9) rfl d_P_begin_17 ?_
  refine lv_aload_n hx hb d_P_begin_20 rfl (lv_at hl 1 rfl) ?_
  refine lv_iconst (v := 0) hx hb d_P_begin_21 (by decide) ?_
  refine sb_ild hx hb hG.1 hP 3 rfl 0 rfl (by omega) (by omega) d_P_begin_22 ?_
  refine vp_callSi (va_runSN (As := [.int (wd 0)]) (rest := [.ref q1]) ⟨hx, hb, hml, hown, hts⟩ (c_X_swapped l D cI cL cB tS tF (wd 0) ) ⟨va_cnB 1 hts (sb_g k_434) rfl rfl rfl (va_Nw.of rfl (hG.nest (args := args) _ n_549)) (hts _ k_22) (by decide +kernel) ⟨Nat.le_of_ble_eq_true rfl, Nat.le_of_ble_eq_true rfl⟩, hts _ k_433, trivial⟩ (sb_rS hG hP hS [] rfl) rfl rfl hl.1 rfl (lv_room (Nat.le_of_ble_eq_true rfl)) d_P_begin_23 ⟨Nat.le_of_ble_eq_true rfl, Nat.le_of_ble_eq_true rfl⟩).run (fun r_3 er_3 => ?_)
  subst er_3
  refine lv_ldc (v := 268435455) hx hb hown (hts (.constant R_P 38 268435455) (by decide +kernel)) d_P_begin_26 ?_
  refine lv_iand hx hb d_P_begin_28 ?_
  refine lv_aload_n hx hb d_P_begin_29 rfl (lv_at hl 1 rfl) ?_
  refine lv_iconst (v := 1) hx hb d_P_begin_30 (by decide) ?_
  refine sb_ild hx hb hG.1 hP 3 rfl 1 rfl (by omega) (by omega) d_P_begin_31 ?_
  refine vp_callSi (va_runSN (As := [.int (wd 1)]) (rest := [.int ((swpI (wd 0)) &&& 268435455), .ref q1]) ⟨hx, hb, hml, hown, hts⟩ (c_X_swapped l D cI cL cB tS tF (wd 1) ) ⟨va_cnB 1 hts (sb_g k_434) rfl rfl rfl (va_Nw.of rfl (hG.nest (args := args) _ n_549)) (hts _ k_22) (by decide +kernel) ⟨Nat.le_of_ble_eq_true rfl, Nat.le_of_ble_eq_true rfl⟩, hts _ k_433, trivial⟩ (sb_rS hG hP hS [] rfl) rfl rfl hl.1 rfl (lv_room (Nat.le_of_ble_eq_true rfl)) d_P_begin_32 ⟨Nat.le_of_ble_eq_true rfl, Nat.le_of_ble_eq_true rfl⟩).run (fun r_4 er_4 => ?_)
  subst er_4
  refine lv_ldc (v := 268435452) hx hb hown (hts (.constant R_P 39 268435452) (by decide +kernel)) d_P_begin_35 ?_
  refine lv_iand hx hb d_P_begin_37 ?_
  refine lv_aload_n hx hb d_P_begin_38 rfl (lv_at hl 1 rfl) ?_
  refine lv_iconst (v := 2) hx hb d_P_begin_39 (by decide) ?_
  refine sb_ild hx hb hG.1 hP 3 rfl 2 rfl (by omega) (by omega) d_P_begin_40 ?_
  refine vp_callSi (va_runSN (As := [.int (wd 2)]) (rest := [.int ((swpI (wd 1)) &&& 268435452), .int ((swpI (wd 0)) &&& 268435455), .ref q1]) ⟨hx, hb, hml, hown, hts⟩ (c_X_swapped l D cI cL cB tS tF (wd 2) ) ⟨va_cnB 1 hts (sb_g k_434) rfl rfl rfl (va_Nw.of rfl (hG.nest (args := args) _ n_549)) (hts _ k_22) (by decide +kernel) ⟨Nat.le_of_ble_eq_true rfl, Nat.le_of_ble_eq_true rfl⟩, hts _ k_433, trivial⟩ (sb_rS hG hP hS [] rfl) rfl rfl hl.1 rfl (lv_room (Nat.le_of_ble_eq_true rfl)) d_P_begin_41 ⟨Nat.le_of_ble_eq_true rfl, Nat.le_of_ble_eq_true rfl⟩).run (fun r_5 er_5 => ?_)
  subst er_5
  refine lv_ldc (v := 268435452) hx hb hown (hts (.constant R_P 39 268435452) (by decide +kernel)) d_P_begin_44 ?_
  refine lv_iand hx hb d_P_begin_46 ?_
  refine lv_aload_n hx hb d_P_begin_47 rfl (lv_at hl 1 rfl) ?_
  refine lv_iconst (v := 3) hx hb d_P_begin_48 (by decide) ?_
  refine sb_ild hx hb hG.1 hP 3 rfl 3 rfl (by omega) (by omega) d_P_begin_49 ?_
  refine vp_callSi (va_runSN (As := [.int (wd 3)]) (rest := [.int ((swpI (wd 2)) &&& 268435452), .int ((swpI (wd 1)) &&& 268435452), .int ((swpI (wd 0)) &&& 268435455), .ref q1]) ⟨hx, hb, hml, hown, hts⟩ (c_X_swapped l D cI cL cB tS tF (wd 3) ) ⟨va_cnB 1 hts (sb_g k_434) rfl rfl rfl (va_Nw.of rfl (hG.nest (args := args) _ n_549)) (hts _ k_22) (by decide +kernel) ⟨Nat.le_of_ble_eq_true rfl, Nat.le_of_ble_eq_true rfl⟩, hts _ k_433, trivial⟩ (sb_rS hG hP hS [] rfl) rfl rfl hl.1 rfl (lv_room (Nat.le_of_ble_eq_true rfl)) d_P_begin_50 ⟨Nat.le_of_ble_eq_true rfl, Nat.le_of_ble_eq_true rfl⟩).run (fun r_6 er_6 => ?_)
  subst er_6
  refine lv_ldc (v := 268435452) hx hb hown (hts (.constant R_P 39 268435452) (by decide +kernel)) d_P_begin_53 ?_
  refine lv_iand hx hb d_P_begin_55 ?_
  refine sb_callv (wr := [(h, .inr (4, [.ref q1, .ref q2, .ref q3, .ref q4, .ref q5])), (q2, .inl (cL, 5, .inr (.inl (l5 t0 t1 t2 t3 t4)))), (q5, .inl (cI, 4, .inl (i4 g0 g1 g2 g3))), (q6, .inl (cI, 16, .inl wd)), (q3, .inl (cL, 5, .inr (.inl (l5 0 0 0 0 0))))]) (va_runS (As := [.ref q1, .int ((swpI (wd 0)) &&& 268435455), .int ((swpI (wd 1)) &&& 268435452), .int ((swpI (wd 2)) &&& 268435452), .int ((swpI (wd 3)) &&& 268435452)]) (rest := []) ⟨hx, hb, hml, hown, hts⟩ (c_P_addTo l D cI cL cB tS tF q1 0 0 0 0 0 ((swpI (wd 0)) &&& 268435455) ((swpI (wd 1)) &&& 268435452) ((swpI (wd 2)) &&& 268435452) ((swpI (wd 3)) &&& 268435452) _ ) (va_cwS 5 hts (sb_gS k_552 k_553 k_29 k_554) rfl rfl rfl (by decide +kernel) ⟨Nat.le_of_ble_eq_true rfl, Nat.le_of_ble_eq_true rfl⟩) (sb_pS hG hP hD hS hA [5] (by decide) rfl) rfl rfl hl.1 rfl (lv_room (Nat.le_of_ble_eq_true rfl)) d_P_begin_56 ⟨Nat.le_of_ble_eq_true rfl, Nat.le_of_ble_eq_true rfl⟩) hP hD hS hA [5] [0, 1, 2, 3, 4] rfl rfl (by decide) (by decide) (fun u H locs hw_7 hP hD hS => ?_)
  have hP : va_P D vwCl [(h, .inr (4, [.ref q1, .ref q2, .ref q3, .ref q4, .ref q5])), (q2, .inl (cL, 5, .inr (.inl (l5 t0 t1 t2 t3 t4)))), (q5, .inl (cI, 4, .inl (i4 g0 g1 g2 g3))), (q6, .inl (cI, 16, .inl wd)), (q3, .inl (cL, 5, .inr (.inl (l5 0 0 0 0 0)))), (q1, .inl (cL, 5, .inr (.inl (l5 ((padd 0 0 0 0 0 ((swpI (wd 0)) &&& 268435455) ((swpI (wd 1)) &&& 268435452) ((swpI (wd 2)) &&& 268435452) ((swpI (wd 3)) &&& 268435452)).1) ((padd 0 0 0 0 0 ((swpI (wd 0)) &&& 268435455) ((swpI (wd 1)) &&& 268435452) ((swpI (wd 2)) &&& 268435452) ((swpI (wd 3)) &&& 268435452)).2.1) ((padd 0 0 0 0 0 ((swpI (wd 0)) &&& 268435455) ((swpI (wd 1)) &&& 268435452) ((swpI (wd 2)) &&& 268435452) ((swpI (wd 3)) &&& 268435452)).2.2.1) ((padd 0 0 0 0 0 ((swpI (wd 0)) &&& 268435455) ((swpI (wd 1)) &&& 268435452) ((swpI (wd 2)) &&& 268435452) ((swpI (wd 3)) &&& 268435452)).2.2.2.1) ((padd 0 0 0 0 0 ((swpI (wd 0)) &&& 268435455) ((swpI (wd 1)) &&& 268435452) ((swpI (wd 2)) &&& 268435452) ((swpI (wd 3)) &&& 268435452)).2.2.2.2)))))] H := hP
  have hD : va_D A [(h, .inr (4, [.ref q1, .ref q2, .ref q3, .ref q4, .ref q5])), (q2, .inl (cL, 5, .inr (.inl (l5 t0 t1 t2 t3 t4)))), (q5, .inl (cI, 4, .inl (i4 g0 g1 g2 g3))), (q6, .inl (cI, 16, .inl wd)), (q3, .inl (cL, 5, .inr (.inl (l5 0 0 0 0 0)))), (q1, .inl (cL, 5, .inr (.inl (l5 ((padd 0 0 0 0 0 ((swpI (wd 0)) &&& 268435455) ((swpI (wd 1)) &&& 268435452) ((swpI (wd 2)) &&& 268435452) ((swpI (wd 3)) &&& 268435452)).1) ((padd 0 0 0 0 0 ((swpI (wd 0)) &&& 268435455) ((swpI (wd 1)) &&& 268435452) ((swpI (wd 2)) &&& 268435452) ((swpI (wd 3)) &&& 268435452)).2.1) ((padd 0 0 0 0 0 ((swpI (wd 0)) &&& 268435455) ((swpI (wd 1)) &&& 268435452) ((swpI (wd 2)) &&& 268435452) ((swpI (wd 3)) &&& 268435452)).2.2.1) ((padd 0 0 0 0 0 ((swpI (wd 0)) &&& 268435455) ((swpI (wd 1)) &&& 268435452) ((swpI (wd 2)) &&& 268435452) ((swpI (wd 3)) &&& 268435452)).2.2.2.1) ((padd 0 0 0 0 0 ((swpI (wd 0)) &&& 268435455) ((swpI (wd 1)) &&& 268435452) ((swpI (wd 2)) &&& 268435452) ((swpI (wd 3)) &&& 268435452)).2.2.2.2)))))] := hD
  refine lv_iconst (v := 0) hx hb d_P_begin_59 (by decide) ?_
  refine lv_istore_n (lv' := [(2, .int 0), (0, .ref h), (1, .ref q6)]) hx hb d_P_begin_60 rfl hl (by decide) rfl (fun ls hl => ?_)
  refine lv_iload_n hx hb d_P_begin_61 rfl (lv_at hl 0 rfl) ?_
  refine lv_iconst (v := 5) hx hb d_P_begin_62 (by decide) ?_
  refine lv_icmp_ge (tgt := 88) hx hb d_P_begin_63 (by decide) (fun c_8 => absurd c_8 (sb_geF (a := 0) (b := 5) rfl rfl (by omega) (by omega) (by omega))) (fun c_8 => ?_)
  refine lv_aload_n hx hb d_P_begin_66 rfl (lv_at hl 1 rfl) ?_
  refine va_get (D := D) (ci := 4) (v := .ref q2) (C := R_P) (T := F_P) (N := 5) hx hb hts in_P hown hG.1 hP 0 rfl rfl 1 (by decide) (hts _ k_173) (fun _ h9 => h9) rfl d_P_begin_67 ?_
  refine lv_iload_n hx hb d_P_begin_70 rfl (lv_at hl 0 rfl) ?_
  refine lv_ldc2 (v := 5) hx hb hown (hts (.constantLong R_P 44 5) (by decide +kernel)) d_P_begin_71 ?_
  refine lv_aload_n hx hb d_P_begin_74 rfl (lv_at hl 1 rfl) ?_
  refine va_get (D := D) (ci := 4) (v := .ref q1) (C := R_P) (T := F_P) (N := 5) hx hb hts in_P hown hG.1 hP 0 rfl rfl 0 (by decide) (hts _ k_172) (fun _ h9 => h9) rfl d_P_begin_75 ?_
  refine lv_iload_n hx hb d_P_begin_78 rfl (lv_at hl 0 rfl) ?_
  refine sb_lldv hx hb hG.1 hP 5 rfl 0 rfl (by omega) (by omega) (v := (padd 0 0 0 0 0 ((swpI (wd 0)) &&& 268435455) ((swpI (wd 1)) &&& 268435452) ((swpI (wd 2)) &&& 268435452) ((swpI (wd 3)) &&& 268435452)).1) rfl d_P_begin_79 ?_
  refine lv_lmul hx hb d_P_begin_80 ?_
  refine lv_topl (fun x_9 ex_9 => ?_)
  refine sb_lst hx hb hG.1 hP hD hS 1 rfl 0 rfl (by omega) (by omega) d_P_begin_81 (fun f_10 H locs ef_10 hP hD hS => ?_)
  have hP : va_P D vwCl [(h, .inr (4, [.ref q1, .ref q2, .ref q3, .ref q4, .ref q5])), (q2, .inl (cL, 5, .inr (.inl f_10))), (q5, .inl (cI, 4, .inl (i4 g0 g1 g2 g3))), (q6, .inl (cI, 16, .inl wd)), (q3, .inl (cL, 5, .inr (.inl (l5 0 0 0 0 0)))), (q1, .inl (cL, 5, .inr (.inl (l5 ((padd 0 0 0 0 0 ((swpI (wd 0)) &&& 268435455) ((swpI (wd 1)) &&& 268435452) ((swpI (wd 2)) &&& 268435452) ((swpI (wd 3)) &&& 268435452)).1) ((padd 0 0 0 0 0 ((swpI (wd 0)) &&& 268435455) ((swpI (wd 1)) &&& 268435452) ((swpI (wd 2)) &&& 268435452) ((swpI (wd 3)) &&& 268435452)).2.1) ((padd 0 0 0 0 0 ((swpI (wd 0)) &&& 268435455) ((swpI (wd 1)) &&& 268435452) ((swpI (wd 2)) &&& 268435452) ((swpI (wd 3)) &&& 268435452)).2.2.1) ((padd 0 0 0 0 0 ((swpI (wd 0)) &&& 268435455) ((swpI (wd 1)) &&& 268435452) ((swpI (wd 2)) &&& 268435452) ((swpI (wd 3)) &&& 268435452)).2.2.2.1) ((padd 0 0 0 0 0 ((swpI (wd 0)) &&& 268435455) ((swpI (wd 1)) &&& 268435452) ((swpI (wd 2)) &&& 268435452) ((swpI (wd 3)) &&& 268435452)).2.2.2.2)))))] H := hP
  have hD : va_D A [(h, .inr (4, [.ref q1, .ref q2, .ref q3, .ref q4, .ref q5])), (q2, .inl (cL, 5, .inr (.inl f_10))), (q5, .inl (cI, 4, .inl (i4 g0 g1 g2 g3))), (q6, .inl (cI, 16, .inl wd)), (q3, .inl (cL, 5, .inr (.inl (l5 0 0 0 0 0)))), (q1, .inl (cL, 5, .inr (.inl (l5 ((padd 0 0 0 0 0 ((swpI (wd 0)) &&& 268435455) ((swpI (wd 1)) &&& 268435452) ((swpI (wd 2)) &&& 268435452) ((swpI (wd 3)) &&& 268435452)).1) ((padd 0 0 0 0 0 ((swpI (wd 0)) &&& 268435455) ((swpI (wd 1)) &&& 268435452) ((swpI (wd 2)) &&& 268435452) ((swpI (wd 3)) &&& 268435452)).2.1) ((padd 0 0 0 0 0 ((swpI (wd 0)) &&& 268435455) ((swpI (wd 1)) &&& 268435452) ((swpI (wd 2)) &&& 268435452) ((swpI (wd 3)) &&& 268435452)).2.2.1) ((padd 0 0 0 0 0 ((swpI (wd 0)) &&& 268435455) ((swpI (wd 1)) &&& 268435452) ((swpI (wd 2)) &&& 268435452) ((swpI (wd 3)) &&& 268435452)).2.2.2.1) ((padd 0 0 0 0 0 ((swpI (wd 0)) &&& 268435455) ((swpI (wd 1)) &&& 268435452) ((swpI (wd 2)) &&& 268435452) ((swpI (wd 3)) &&& 268435452)).2.2.2.2)))))] := hD
  obtain rfl : f_10 = l5 x_9 t1 t2 t3 t4 := ef_10.trans (l5_set0 ..)
  refine lv_iinc (v := nI 1) (lv' := [(2, .int (nI 1)), (0, .ref h), (1, .ref q6)]) hx hb d_P_begin_82 hl (k := 0) rfl (sb_inc (a := 0) (b := 1) (d := 1) rfl (by decide) (by omega)) (by decide) rfl (fun ls hl => ?_)
  refine lv_goto (tgt := 61) hx hb d_P_begin_85 (by decide) ?_
  refine lv_iload_n hx hb d_P_begin_61 rfl (lv_at hl 0 rfl) ?_
  refine lv_iconst (v := 5) hx hb d_P_begin_62 (by decide) ?_
  refine lv_icmp_ge (tgt := 88) hx hb d_P_begin_63 (by decide) (fun c_11 => absurd c_11 (sb_geF (a := 1) (b := 5) rfl rfl (by omega) (by omega) (by omega))) (fun c_11 => ?_)
  refine lv_aload_n hx hb d_P_begin_66 rfl (lv_at hl 1 rfl) ?_
  refine va_get (D := D) (ci := 4) (v := .ref q2) (C := R_P) (T := F_P) (N := 5) hx hb hts in_P hown hG.1 hP 0 rfl rfl 1 (by decide) (hts _ k_173) (fun _ h9 => h9) rfl d_P_begin_67 ?_
  refine lv_iload_n hx hb d_P_begin_70 rfl (lv_at hl 0 rfl) ?_
  refine lv_ldc2 (v := 5) hx hb hown (hts (.constantLong R_P 44 5) (by decide +kernel)) d_P_begin_71 ?_
  refine lv_aload_n hx hb d_P_begin_74 rfl (lv_at hl 1 rfl) ?_
  refine va_get (D := D) (ci := 4) (v := .ref q1) (C := R_P) (T := F_P) (N := 5) hx hb hts in_P hown hG.1 hP 0 rfl rfl 0 (by decide) (hts _ k_172) (fun _ h9 => h9) rfl d_P_begin_75 ?_
  refine lv_iload_n hx hb d_P_begin_78 rfl (lv_at hl 0 rfl) ?_
  refine sb_lldv hx hb hG.1 hP 5 rfl 1 rfl (by omega) (by omega) (v := (padd 0 0 0 0 0 ((swpI (wd 0)) &&& 268435455) ((swpI (wd 1)) &&& 268435452) ((swpI (wd 2)) &&& 268435452) ((swpI (wd 3)) &&& 268435452)).2.1) rfl d_P_begin_79 ?_
  refine lv_lmul hx hb d_P_begin_80 ?_
  refine lv_topl (fun x_12 ex_12 => ?_)
  refine sb_lst hx hb hG.1 hP hD hS 1 rfl 1 rfl (by omega) (by omega) d_P_begin_81 (fun f_13 H locs ef_13 hP hD hS => ?_)
  have hP : va_P D vwCl [(h, .inr (4, [.ref q1, .ref q2, .ref q3, .ref q4, .ref q5])), (q2, .inl (cL, 5, .inr (.inl f_13))), (q5, .inl (cI, 4, .inl (i4 g0 g1 g2 g3))), (q6, .inl (cI, 16, .inl wd)), (q3, .inl (cL, 5, .inr (.inl (l5 0 0 0 0 0)))), (q1, .inl (cL, 5, .inr (.inl (l5 ((padd 0 0 0 0 0 ((swpI (wd 0)) &&& 268435455) ((swpI (wd 1)) &&& 268435452) ((swpI (wd 2)) &&& 268435452) ((swpI (wd 3)) &&& 268435452)).1) ((padd 0 0 0 0 0 ((swpI (wd 0)) &&& 268435455) ((swpI (wd 1)) &&& 268435452) ((swpI (wd 2)) &&& 268435452) ((swpI (wd 3)) &&& 268435452)).2.1) ((padd 0 0 0 0 0 ((swpI (wd 0)) &&& 268435455) ((swpI (wd 1)) &&& 268435452) ((swpI (wd 2)) &&& 268435452) ((swpI (wd 3)) &&& 268435452)).2.2.1) ((padd 0 0 0 0 0 ((swpI (wd 0)) &&& 268435455) ((swpI (wd 1)) &&& 268435452) ((swpI (wd 2)) &&& 268435452) ((swpI (wd 3)) &&& 268435452)).2.2.2.1) ((padd 0 0 0 0 0 ((swpI (wd 0)) &&& 268435455) ((swpI (wd 1)) &&& 268435452) ((swpI (wd 2)) &&& 268435452) ((swpI (wd 3)) &&& 268435452)).2.2.2.2)))))] H := hP
  have hD : va_D A [(h, .inr (4, [.ref q1, .ref q2, .ref q3, .ref q4, .ref q5])), (q2, .inl (cL, 5, .inr (.inl f_13))), (q5, .inl (cI, 4, .inl (i4 g0 g1 g2 g3))), (q6, .inl (cI, 16, .inl wd)), (q3, .inl (cL, 5, .inr (.inl (l5 0 0 0 0 0)))), (q1, .inl (cL, 5, .inr (.inl (l5 ((padd 0 0 0 0 0 ((swpI (wd 0)) &&& 268435455) ((swpI (wd 1)) &&& 268435452) ((swpI (wd 2)) &&& 268435452) ((swpI (wd 3)) &&& 268435452)).1) ((padd 0 0 0 0 0 ((swpI (wd 0)) &&& 268435455) ((swpI (wd 1)) &&& 268435452) ((swpI (wd 2)) &&& 268435452) ((swpI (wd 3)) &&& 268435452)).2.1) ((padd 0 0 0 0 0 ((swpI (wd 0)) &&& 268435455) ((swpI (wd 1)) &&& 268435452) ((swpI (wd 2)) &&& 268435452) ((swpI (wd 3)) &&& 268435452)).2.2.1) ((padd 0 0 0 0 0 ((swpI (wd 0)) &&& 268435455) ((swpI (wd 1)) &&& 268435452) ((swpI (wd 2)) &&& 268435452) ((swpI (wd 3)) &&& 268435452)).2.2.2.1) ((padd 0 0 0 0 0 ((swpI (wd 0)) &&& 268435455) ((swpI (wd 1)) &&& 268435452) ((swpI (wd 2)) &&& 268435452) ((swpI (wd 3)) &&& 268435452)).2.2.2.2)))))] := hD
  obtain rfl : f_13 = l5 x_9 x_12 t2 t3 t4 := ef_13.trans (l5_set1 ..)
  refine lv_iinc (v := nI 2) (lv' := [(2, .int (nI 2)), (0, .ref h), (1, .ref q6)]) hx hb d_P_begin_82 hl (k := 0) rfl (sb_inc (a := 1) (b := 2) (d := 1) rfl (by decide) (by omega)) (by decide) rfl (fun ls hl => ?_)
  refine lv_goto (tgt := 61) hx hb d_P_begin_85 (by decide) ?_
  refine lv_iload_n hx hb d_P_begin_61 rfl (lv_at hl 0 rfl) ?_
  refine lv_iconst (v := 5) hx hb d_P_begin_62 (by decide) ?_
  refine lv_icmp_ge (tgt := 88) hx hb d_P_begin_63 (by decide) (fun c_14 => absurd c_14 (sb_geF (a := 2) (b := 5) rfl rfl (by omega) (by omega) (by omega))) (fun c_14 => ?_)
  refine lv_aload_n hx hb d_P_begin_66 rfl (lv_at hl 1 rfl) ?_
  refine va_get (D := D) (ci := 4) (v := .ref q2) (C := R_P) (T := F_P) (N := 5) hx hb hts in_P hown hG.1 hP 0 rfl rfl 1 (by decide) (hts _ k_173) (fun _ h9 => h9) rfl d_P_begin_67 ?_
  refine lv_iload_n hx hb d_P_begin_70 rfl (lv_at hl 0 rfl) ?_
  refine lv_ldc2 (v := 5) hx hb hown (hts (.constantLong R_P 44 5) (by decide +kernel)) d_P_begin_71 ?_
  refine lv_aload_n hx hb d_P_begin_74 rfl (lv_at hl 1 rfl) ?_
  refine va_get (D := D) (ci := 4) (v := .ref q1) (C := R_P) (T := F_P) (N := 5) hx hb hts in_P hown hG.1 hP 0 rfl rfl 0 (by decide) (hts _ k_172) (fun _ h9 => h9) rfl d_P_begin_75 ?_
  refine lv_iload_n hx hb d_P_begin_78 rfl (lv_at hl 0 rfl) ?_
  refine sb_lldv hx hb hG.1 hP 5 rfl 2 rfl (by omega) (by omega) (v := (padd 0 0 0 0 0 ((swpI (wd 0)) &&& 268435455) ((swpI (wd 1)) &&& 268435452) ((swpI (wd 2)) &&& 268435452) ((swpI (wd 3)) &&& 268435452)).2.2.1) rfl d_P_begin_79 ?_
  refine lv_lmul hx hb d_P_begin_80 ?_
  refine lv_topl (fun x_15 ex_15 => ?_)
  refine sb_lst hx hb hG.1 hP hD hS 1 rfl 2 rfl (by omega) (by omega) d_P_begin_81 (fun f_16 H locs ef_16 hP hD hS => ?_)
  have hP : va_P D vwCl [(h, .inr (4, [.ref q1, .ref q2, .ref q3, .ref q4, .ref q5])), (q2, .inl (cL, 5, .inr (.inl f_16))), (q5, .inl (cI, 4, .inl (i4 g0 g1 g2 g3))), (q6, .inl (cI, 16, .inl wd)), (q3, .inl (cL, 5, .inr (.inl (l5 0 0 0 0 0)))), (q1, .inl (cL, 5, .inr (.inl (l5 ((padd 0 0 0 0 0 ((swpI (wd 0)) &&& 268435455) ((swpI (wd 1)) &&& 268435452) ((swpI (wd 2)) &&& 268435452) ((swpI (wd 3)) &&& 268435452)).1) ((padd 0 0 0 0 0 ((swpI (wd 0)) &&& 268435455) ((swpI (wd 1)) &&& 268435452) ((swpI (wd 2)) &&& 268435452) ((swpI (wd 3)) &&& 268435452)).2.1) ((padd 0 0 0 0 0 ((swpI (wd 0)) &&& 268435455) ((swpI (wd 1)) &&& 268435452) ((swpI (wd 2)) &&& 268435452) ((swpI (wd 3)) &&& 268435452)).2.2.1) ((padd 0 0 0 0 0 ((swpI (wd 0)) &&& 268435455) ((swpI (wd 1)) &&& 268435452) ((swpI (wd 2)) &&& 268435452) ((swpI (wd 3)) &&& 268435452)).2.2.2.1) ((padd 0 0 0 0 0 ((swpI (wd 0)) &&& 268435455) ((swpI (wd 1)) &&& 268435452) ((swpI (wd 2)) &&& 268435452) ((swpI (wd 3)) &&& 268435452)).2.2.2.2)))))] H := hP
  have hD : va_D A [(h, .inr (4, [.ref q1, .ref q2, .ref q3, .ref q4, .ref q5])), (q2, .inl (cL, 5, .inr (.inl f_16))), (q5, .inl (cI, 4, .inl (i4 g0 g1 g2 g3))), (q6, .inl (cI, 16, .inl wd)), (q3, .inl (cL, 5, .inr (.inl (l5 0 0 0 0 0)))), (q1, .inl (cL, 5, .inr (.inl (l5 ((padd 0 0 0 0 0 ((swpI (wd 0)) &&& 268435455) ((swpI (wd 1)) &&& 268435452) ((swpI (wd 2)) &&& 268435452) ((swpI (wd 3)) &&& 268435452)).1) ((padd 0 0 0 0 0 ((swpI (wd 0)) &&& 268435455) ((swpI (wd 1)) &&& 268435452) ((swpI (wd 2)) &&& 268435452) ((swpI (wd 3)) &&& 268435452)).2.1) ((padd 0 0 0 0 0 ((swpI (wd 0)) &&& 268435455) ((swpI (wd 1)) &&& 268435452) ((swpI (wd 2)) &&& 268435452) ((swpI (wd 3)) &&& 268435452)).2.2.1) ((padd 0 0 0 0 0 ((swpI (wd 0)) &&& 268435455) ((swpI (wd 1)) &&& 268435452) ((swpI (wd 2)) &&& 268435452) ((swpI (wd 3)) &&& 268435452)).2.2.2.1) ((padd 0 0 0 0 0 ((swpI (wd 0)) &&& 268435455) ((swpI (wd 1)) &&& 268435452) ((swpI (wd 2)) &&& 268435452) ((swpI (wd 3)) &&& 268435452)).2.2.2.2)))))] := hD
  obtain rfl : f_16 = l5 x_9 x_12 x_15 t3 t4 := ef_16.trans (l5_set2 ..)
  refine lv_iinc (v := nI 3) (lv' := [(2, .int (nI 3)), (0, .ref h), (1, .ref q6)]) hx hb d_P_begin_82 hl (k := 0) rfl (sb_inc (a := 2) (b := 3) (d := 1) rfl (by decide) (by omega)) (by decide) rfl (fun ls hl => ?_)
  refine lv_goto (tgt := 61) hx hb d_P_begin_85 (by decide) ?_
  refine lv_iload_n hx hb d_P_begin_61 rfl (lv_at hl 0 rfl) ?_
  refine lv_iconst (v := 5) hx hb d_P_begin_62 (by decide) ?_
  refine lv_icmp_ge (tgt := 88) hx hb d_P_begin_63 (by decide) (fun c_17 => absurd c_17 (sb_geF (a := 3) (b := 5) rfl rfl (by omega) (by omega) (by omega))) (fun c_17 => ?_)
  refine lv_aload_n hx hb d_P_begin_66 rfl (lv_at hl 1 rfl) ?_
  refine va_get (D := D) (ci := 4) (v := .ref q2) (C := R_P) (T := F_P) (N := 5) hx hb hts in_P hown hG.1 hP 0 rfl rfl 1 (by decide) (hts _ k_173) (fun _ h9 => h9) rfl d_P_begin_67 ?_
  refine lv_iload_n hx hb d_P_begin_70 rfl (lv_at hl 0 rfl) ?_
  refine lv_ldc2 (v := 5) hx hb hown (hts (.constantLong R_P 44 5) (by decide +kernel)) d_P_begin_71 ?_
  refine lv_aload_n hx hb d_P_begin_74 rfl (lv_at hl 1 rfl) ?_
  refine va_get (D := D) (ci := 4) (v := .ref q1) (C := R_P) (T := F_P) (N := 5) hx hb hts in_P hown hG.1 hP 0 rfl rfl 0 (by decide) (hts _ k_172) (fun _ h9 => h9) rfl d_P_begin_75 ?_
  refine lv_iload_n hx hb d_P_begin_78 rfl (lv_at hl 0 rfl) ?_
  refine sb_lldv hx hb hG.1 hP 5 rfl 3 rfl (by omega) (by omega) (v := (padd 0 0 0 0 0 ((swpI (wd 0)) &&& 268435455) ((swpI (wd 1)) &&& 268435452) ((swpI (wd 2)) &&& 268435452) ((swpI (wd 3)) &&& 268435452)).2.2.2.1) rfl d_P_begin_79 ?_
  refine lv_lmul hx hb d_P_begin_80 ?_
  refine lv_topl (fun x_18 ex_18 => ?_)
  refine sb_lst hx hb hG.1 hP hD hS 1 rfl 3 rfl (by omega) (by omega) d_P_begin_81 (fun f_19 H locs ef_19 hP hD hS => ?_)
  have hP : va_P D vwCl [(h, .inr (4, [.ref q1, .ref q2, .ref q3, .ref q4, .ref q5])), (q2, .inl (cL, 5, .inr (.inl f_19))), (q5, .inl (cI, 4, .inl (i4 g0 g1 g2 g3))), (q6, .inl (cI, 16, .inl wd)), (q3, .inl (cL, 5, .inr (.inl (l5 0 0 0 0 0)))), (q1, .inl (cL, 5, .inr (.inl (l5 ((padd 0 0 0 0 0 ((swpI (wd 0)) &&& 268435455) ((swpI (wd 1)) &&& 268435452) ((swpI (wd 2)) &&& 268435452) ((swpI (wd 3)) &&& 268435452)).1) ((padd 0 0 0 0 0 ((swpI (wd 0)) &&& 268435455) ((swpI (wd 1)) &&& 268435452) ((swpI (wd 2)) &&& 268435452) ((swpI (wd 3)) &&& 268435452)).2.1) ((padd 0 0 0 0 0 ((swpI (wd 0)) &&& 268435455) ((swpI (wd 1)) &&& 268435452) ((swpI (wd 2)) &&& 268435452) ((swpI (wd 3)) &&& 268435452)).2.2.1) ((padd 0 0 0 0 0 ((swpI (wd 0)) &&& 268435455) ((swpI (wd 1)) &&& 268435452) ((swpI (wd 2)) &&& 268435452) ((swpI (wd 3)) &&& 268435452)).2.2.2.1) ((padd 0 0 0 0 0 ((swpI (wd 0)) &&& 268435455) ((swpI (wd 1)) &&& 268435452) ((swpI (wd 2)) &&& 268435452) ((swpI (wd 3)) &&& 268435452)).2.2.2.2)))))] H := hP
  have hD : va_D A [(h, .inr (4, [.ref q1, .ref q2, .ref q3, .ref q4, .ref q5])), (q2, .inl (cL, 5, .inr (.inl f_19))), (q5, .inl (cI, 4, .inl (i4 g0 g1 g2 g3))), (q6, .inl (cI, 16, .inl wd)), (q3, .inl (cL, 5, .inr (.inl (l5 0 0 0 0 0)))), (q1, .inl (cL, 5, .inr (.inl (l5 ((padd 0 0 0 0 0 ((swpI (wd 0)) &&& 268435455) ((swpI (wd 1)) &&& 268435452) ((swpI (wd 2)) &&& 268435452) ((swpI (wd 3)) &&& 268435452)).1) ((padd 0 0 0 0 0 ((swpI (wd 0)) &&& 268435455) ((swpI (wd 1)) &&& 268435452) ((swpI (wd 2)) &&& 268435452) ((swpI (wd 3)) &&& 268435452)).2.1) ((padd 0 0 0 0 0 ((swpI (wd 0)) &&& 268435455) ((swpI (wd 1)) &&& 268435452) ((swpI (wd 2)) &&& 268435452) ((swpI (wd 3)) &&& 268435452)).2.2.1) ((padd 0 0 0 0 0 ((swpI (wd 0)) &&& 268435455) ((swpI (wd 1)) &&& 268435452) ((swpI (wd 2)) &&& 268435452) ((swpI (wd 3)) &&& 268435452)).2.2.2.1) ((padd 0 0 0 0 0 ((swpI (wd 0)) &&& 268435455) ((swpI (wd 1)) &&& 268435452) ((swpI (wd 2)) &&& 268435452) ((swpI (wd 3)) &&& 268435452)).2.2.2.2)))))] := hD
  obtain rfl : f_19 = l5 x_9 x_12 x_15 x_18 t4 := ef_19.trans (l5_set3 ..)
  refine lv_iinc (v := nI 4) (lv' := [(2, .int (nI 4)), (0, .ref h), (1, .ref q6)]) hx hb d_P_begin_82 hl (k := 0) rfl (sb_inc (a := 3) (b := 4) (d := 1) rfl (by decide) (by omega)) (by decide) rfl (fun ls hl => ?_)
  refine lv_goto (tgt := 61) hx hb d_P_begin_85 (by decide) ?_
  refine lv_iload_n hx hb d_P_begin_61 rfl (lv_at hl 0 rfl) ?_
  refine lv_iconst (v := 5) hx hb d_P_begin_62 (by decide) ?_
  refine lv_icmp_ge (tgt := 88) hx hb d_P_begin_63 (by decide) (fun c_20 => absurd c_20 (sb_geF (a := 4) (b := 5) rfl rfl (by omega) (by omega) (by omega))) (fun c_20 => ?_)
  refine lv_aload_n hx hb d_P_begin_66 rfl (lv_at hl 1 rfl) ?_
  refine va_get (D := D) (ci := 4) (v := .ref q2) (C := R_P) (T := F_P) (N := 5) hx hb hts in_P hown hG.1 hP 0 rfl rfl 1 (by decide) (hts _ k_173) (fun _ h9 => h9) rfl d_P_begin_67 ?_
  refine lv_iload_n hx hb d_P_begin_70 rfl (lv_at hl 0 rfl) ?_
  refine lv_ldc2 (v := 5) hx hb hown (hts (.constantLong R_P 44 5) (by decide +kernel)) d_P_begin_71 ?_
  refine lv_aload_n hx hb d_P_begin_74 rfl (lv_at hl 1 rfl) ?_
  refine va_get (D := D) (ci := 4) (v := .ref q1) (C := R_P) (T := F_P) (N := 5) hx hb hts in_P hown hG.1 hP 0 rfl rfl 0 (by decide) (hts _ k_172) (fun _ h9 => h9) rfl d_P_begin_75 ?_
  refine lv_iload_n hx hb d_P_begin_78 rfl (lv_at hl 0 rfl) ?_
  refine sb_lldv hx hb hG.1 hP 5 rfl 4 rfl (by omega) (by omega) (v := (padd 0 0 0 0 0 ((swpI (wd 0)) &&& 268435455) ((swpI (wd 1)) &&& 268435452) ((swpI (wd 2)) &&& 268435452) ((swpI (wd 3)) &&& 268435452)).2.2.2.2) rfl d_P_begin_79 ?_
  refine lv_lmul hx hb d_P_begin_80 ?_
  refine lv_topl (fun x_21 ex_21 => ?_)
  refine sb_lst hx hb hG.1 hP hD hS 1 rfl 4 rfl (by omega) (by omega) d_P_begin_81 (fun f_22 H locs ef_22 hP hD hS => ?_)
  have hP : va_P D vwCl [(h, .inr (4, [.ref q1, .ref q2, .ref q3, .ref q4, .ref q5])), (q2, .inl (cL, 5, .inr (.inl f_22))), (q5, .inl (cI, 4, .inl (i4 g0 g1 g2 g3))), (q6, .inl (cI, 16, .inl wd)), (q3, .inl (cL, 5, .inr (.inl (l5 0 0 0 0 0)))), (q1, .inl (cL, 5, .inr (.inl (l5 ((padd 0 0 0 0 0 ((swpI (wd 0)) &&& 268435455) ((swpI (wd 1)) &&& 268435452) ((swpI (wd 2)) &&& 268435452) ((swpI (wd 3)) &&& 268435452)).1) ((padd 0 0 0 0 0 ((swpI (wd 0)) &&& 268435455) ((swpI (wd 1)) &&& 268435452) ((swpI (wd 2)) &&& 268435452) ((swpI (wd 3)) &&& 268435452)).2.1) ((padd 0 0 0 0 0 ((swpI (wd 0)) &&& 268435455) ((swpI (wd 1)) &&& 268435452) ((swpI (wd 2)) &&& 268435452) ((swpI (wd 3)) &&& 268435452)).2.2.1) ((padd 0 0 0 0 0 ((swpI (wd 0)) &&& 268435455) ((swpI (wd 1)) &&& 268435452) ((swpI (wd 2)) &&& 268435452) ((swpI (wd 3)) &&& 268435452)).2.2.2.1) ((padd 0 0 0 0 0 ((swpI (wd 0)) &&& 268435455) ((swpI (wd 1)) &&& 268435452) ((swpI (wd 2)) &&& 268435452) ((swpI (wd 3)) &&& 268435452)).2.2.2.2)))))] H := hP
  have hD : va_D A [(h, .inr (4, [.ref q1, .ref q2, .ref q3, .ref q4, .ref q5])), (q2, .inl (cL, 5, .inr (.inl f_22))), (q5, .inl (cI, 4, .inl (i4 g0 g1 g2 g3))), (q6, .inl (cI, 16, .inl wd)), (q3, .inl (cL, 5, .inr (.inl (l5 0 0 0 0 0)))), (q1, .inl (cL, 5, .inr (.inl (l5 ((padd 0 0 0 0 0 ((swpI (wd 0)) &&& 268435455) ((swpI (wd 1)) &&& 268435452) ((swpI (wd 2)) &&& 268435452) ((swpI (wd 3)) &&& 268435452)).1) ((padd 0 0 0 0 0 ((swpI (wd 0)) &&& 268435455) ((swpI (wd 1)) &&& 268435452) ((swpI (wd 2)) &&& 268435452) ((swpI (wd 3)) &&& 268435452)).2.1) ((padd 0 0 0 0 0 ((swpI (wd 0)) &&& 268435455) ((swpI (wd 1)) &&& 268435452) ((swpI (wd 2)) &&& 268435452) ((swpI (wd 3)) &&& 268435452)).2.2.1) ((padd 0 0 0 0 0 ((swpI (wd 0)) &&& 268435455) ((swpI (wd 1)) &&& 268435452) ((swpI (wd 2)) &&& 268435452) ((swpI (wd 3)) &&& 268435452)).2.2.2.1) ((padd 0 0 0 0 0 ((swpI (wd 0)) &&& 268435455) ((swpI (wd 1)) &&& 268435452) ((swpI (wd 2)) &&& 268435452) ((swpI (wd 3)) &&& 268435452)).2.2.2.2)))))] := hD
  obtain rfl : f_22 = l5 x_9 x_12 x_15 x_18 x_21 := ef_22.trans (l5_set4 ..)
  refine lv_iinc (v := nI 5) (lv' := [(2, .int (nI 5)), (0, .ref h), (1, .ref q6)]) hx hb d_P_begin_82 hl (k := 0) rfl (sb_inc (a := 4) (b := 5) (d := 1) rfl (by decide) (by omega)) (by decide) rfl (fun ls hl => ?_)
  refine lv_goto (tgt := 61) hx hb d_P_begin_85 (by decide) ?_
  refine lv_iload_n hx hb d_P_begin_61 rfl (lv_at hl 0 rfl) ?_
  refine lv_iconst (v := 5) hx hb d_P_begin_62 (by decide) ?_
  refine lv_icmp_ge (tgt := 88) hx hb d_P_begin_63 (by decide) (fun c_23 => ?_) (fun c_23 => absurd (sb_geT (a := 5) (b := 5) rfl rfl (by omega) (by omega) (by omega)) c_23)
  refine lv_iconst (v := 0) hx hb d_P_begin_88 (by decide) ?_
  refine lv_istore_n (lv' := [(2, .int 0), (0, .ref h), (1, .ref q6)]) hx hb d_P_begin_89 rfl hl (by decide) rfl (fun ls hl => ?_)
  refine lv_iload_n hx hb d_P_begin_90 rfl (lv_at hl 0 rfl) ?_
  refine lv_iconst (v := 4) hx hb d_P_begin_91 (by decide) ?_
  refine lv_icmp_ge (tgt := 115) hx hb d_P_begin_92 (by decide) (fun c_24 => absurd c_24 (sb_geF (a := 0) (b := 4) rfl rfl (by omega) (by omega) (by omega))) (fun c_24 => ?_)
  refine lv_aload_n hx hb d_P_begin_95 rfl (lv_at hl 1 rfl) ?_
  refine va_get (D := D) (ci := 4) (v := .ref q5) (C := R_P) (T := F_P) (N := 5) hx hb hts in_P hown hG.1 hP 0 rfl rfl 4 (by decide) (hts _ k_176) (fun _ h9 => h9) rfl d_P_begin_96 ?_
  refine lv_iload_n hx hb d_P_begin_99 rfl (lv_at hl 0 rfl) ?_
  refine lv_aload_n hx hb d_P_begin_100 rfl (lv_at hl 2 rfl) ?_
  refine lv_iconst (v := 4) hx hb d_P_begin_101 (by decide) ?_
  refine lv_iload_n hx hb d_P_begin_102 rfl (lv_at hl 0 rfl) ?_
  refine lv_iadd hx hb d_P_begin_103 ?_
  refine sb_topn 4 (sb_eqn (a := 4 + 0) (b := 4) (nI_add 4 0) (by omega)) ?_
  refine sb_ild hx hb hG.1 hP 3 rfl 4 rfl (by omega) (by omega) d_P_begin_104 ?_
  refine vp_callSi (va_runSN (As := [.int (wd 4)]) (rest := [.int 0, .ref q5]) ⟨hx, hb, hml, hown, hts⟩ (c_X_swapped l D cI cL cB tS tF (wd 4) ) ⟨va_cnB 1 hts (sb_g k_434) rfl rfl rfl (va_Nw.of rfl (hG.nest (args := args) _ n_549)) (hts _ k_22) (by decide +kernel) ⟨Nat.le_of_ble_eq_true rfl, Nat.le_of_ble_eq_true rfl⟩, hts _ k_433, trivial⟩ (sb_rS hG hP hS [] rfl) rfl rfl hl.1 rfl (lv_room (Nat.le_of_ble_eq_true rfl)) d_P_begin_105 ⟨Nat.le_of_ble_eq_true rfl, Nat.le_of_ble_eq_true rfl⟩).run (fun r_25 er_25 => ?_)
  subst er_25
  refine lv_topi (fun x_26 ex_26 => ?_)
  refine sb_ist hx hb hG.1 hP hD hS 2 rfl 0 rfl (by omega) (by omega) d_P_begin_108 (fun f_27 H locs ef_27 hP hD hS => ?_)
  have hP : va_P D vwCl [(h, .inr (4, [.ref q1, .ref q2, .ref q3, .ref q4, .ref q5])), (q2, .inl (cL, 5, .inr (.inl (l5 x_9 x_12 x_15 x_18 x_21)))), (q5, .inl (cI, 4, .inl f_27)), (q6, .inl (cI, 16, .inl wd)), (q3, .inl (cL, 5, .inr (.inl (l5 0 0 0 0 0)))), (q1, .inl (cL, 5, .inr (.inl (l5 ((padd 0 0 0 0 0 ((swpI (wd 0)) &&& 268435455) ((swpI (wd 1)) &&& 268435452) ((swpI (wd 2)) &&& 268435452) ((swpI (wd 3)) &&& 268435452)).1) ((padd 0 0 0 0 0 ((swpI (wd 0)) &&& 268435455) ((swpI (wd 1)) &&& 268435452) ((swpI (wd 2)) &&& 268435452) ((swpI (wd 3)) &&& 268435452)).2.1) ((padd 0 0 0 0 0 ((swpI (wd 0)) &&& 268435455) ((swpI (wd 1)) &&& 268435452) ((swpI (wd 2)) &&& 268435452) ((swpI (wd 3)) &&& 268435452)).2.2.1) ((padd 0 0 0 0 0 ((swpI (wd 0)) &&& 268435455) ((swpI (wd 1)) &&& 268435452) ((swpI (wd 2)) &&& 268435452) ((swpI (wd 3)) &&& 268435452)).2.2.2.1) ((padd 0 0 0 0 0 ((swpI (wd 0)) &&& 268435455) ((swpI (wd 1)) &&& 268435452) ((swpI (wd 2)) &&& 268435452) ((swpI (wd 3)) &&& 268435452)).2.2.2.2)))))] H := hP
  have hD : va_D A [(h, .inr (4, [.ref q1, .ref q2, .ref q3, .ref q4, .ref q5])), (q2, .inl (cL, 5, .inr (.inl (l5 x_9 x_12 x_15 x_18 x_21)))), (q5, .inl (cI, 4, .inl f_27)), (q6, .inl (cI, 16, .inl wd)), (q3, .inl (cL, 5, .inr (.inl (l5 0 0 0 0 0)))), (q1, .inl (cL, 5, .inr (.inl (l5 ((padd 0 0 0 0 0 ((swpI (wd 0)) &&& 268435455) ((swpI (wd 1)) &&& 268435452) ((swpI (wd 2)) &&& 268435452) ((swpI (wd 3)) &&& 268435452)).1) ((padd 0 0 0 0 0 ((swpI (wd 0)) &&& 268435455) ((swpI (wd 1)) &&& 268435452) ((swpI (wd 2)) &&& 268435452) ((swpI (wd 3)) &&& 268435452)).2.1) ((padd 0 0 0 0 0 ((swpI (wd 0)) &&& 268435455) ((swpI (wd 1)) &&& 268435452) ((swpI (wd 2)) &&& 268435452) ((swpI (wd 3)) &&& 268435452)).2.2.1) ((padd 0 0 0 0 0 ((swpI (wd 0)) &&& 268435455) ((swpI (wd 1)) &&& 268435452) ((swpI (wd 2)) &&& 268435452) ((swpI (wd 3)) &&& 268435452)).2.2.2.1) ((padd 0 0 0 0 0 ((swpI (wd 0)) &&& 268435455) ((swpI (wd 1)) &&& 268435452) ((swpI (wd 2)) &&& 268435452) ((swpI (wd 3)) &&& 268435452)).2.2.2.2)))))] := hD
  obtain rfl : f_27 = i4 x_26 g1 g2 g3 := ef_27.trans (i4_set0 ..)
  refine lv_iinc (v := nI 1) (lv' := [(2, .int (nI 1)), (0, .ref h), (1, .ref q6)]) hx hb d_P_begin_109 hl (k := 0) rfl (sb_inc (a := 0) (b := 1) (d := 1) rfl (by decide) (by omega)) (by decide) rfl (fun ls hl => ?_)
  refine lv_goto (tgt := 90) hx hb d_P_begin_112 (by decide) ?_
  refine lv_iload_n hx hb d_P_begin_90 rfl (lv_at hl 0 rfl) ?_
  refine lv_iconst (v := 4) hx hb d_P_begin_91 (by decide) ?_
  refine lv_icmp_ge (tgt := 115) hx hb d_P_begin_92 (by decide) (fun c_28 => absurd c_28 (sb_geF (a := 1) (b := 4) rfl rfl (by omega) (by omega) (by omega))) (fun c_28 => ?_)
  refine lv_aload_n hx hb d_P_begin_95 rfl (lv_at hl 1 rfl) ?_
  refine va_get (D := D) (ci := 4) (v := .ref q5) (C := R_P) (T := F_P) (N := 5) hx hb hts in_P hown hG.1 hP 0 rfl rfl 4 (by decide) (hts _ k_176) (fun _ h9 => h9) rfl d_P_begin_96 ?_
  refine lv_iload_n hx hb d_P_begin_99 rfl (lv_at hl 0 rfl) ?_
  refine lv_aload_n hx hb d_P_begin_100 rfl (lv_at hl 2 rfl) ?_
  refine lv_iconst (v := 4) hx hb d_P_begin_101 (by decide) ?_
  refine lv_iload_n hx hb d_P_begin_102 rfl (lv_at hl 0 rfl) ?_
  refine lv_iadd hx hb d_P_begin_103 ?_
  refine sb_topn 5 (sb_eqn (a := 4 + 1) (b := 5) (nI_add 4 1) (by omega)) ?_
  refine sb_ild hx hb hG.1 hP 3 rfl 5 rfl (by omega) (by omega) d_P_begin_104 ?_
  refine vp_callSi (va_runSN (As := [.int (wd 5)]) (rest := [.int (nI 1), .ref q5]) ⟨hx, hb, hml, hown, hts⟩ (c_X_swapped l D cI cL cB tS tF (wd 5) ) ⟨va_cnB 1 hts (sb_g k_434) rfl rfl rfl (va_Nw.of rfl (hG.nest (args := args) _ n_549)) (hts _ k_22) (by decide +kernel) ⟨Nat.le_of_ble_eq_true rfl, Nat.le_of_ble_eq_true rfl⟩, hts _ k_433, trivial⟩ (sb_rS hG hP hS [] rfl) rfl rfl hl.1 rfl (lv_room (Nat.le_of_ble_eq_true rfl)) d_P_begin_105 ⟨Nat.le_of_ble_eq_true rfl, Nat.le_of_ble_eq_true rfl⟩).run (fun r_29 er_29 => ?_)
  subst er_29
  refine lv_topi (fun x_30 ex_30 => ?_)
  refine sb_ist hx hb hG.1 hP hD hS 2 rfl 1 rfl (by omega) (by omega) d_P_begin_108 (fun f_31 H locs ef_31 hP hD hS => ?_)
  have hP : va_P D vwCl [(h, .inr (4, [.ref q1, .ref q2, .ref q3, .ref q4, .ref q5])), (q2, .inl (cL, 5, .inr (.inl (l5 x_9 x_12 x_15 x_18 x_21)))), (q5, .inl (cI, 4, .inl f_31)), (q6, .inl (cI, 16, .inl wd)), (q3, .inl (cL, 5, .inr (.inl (l5 0 0 0 0 0)))), (q1, .inl (cL, 5, .inr (.inl (l5 ((padd 0 0 0 0 0 ((swpI (wd 0)) &&& 268435455) ((swpI (wd 1)) &&& 268435452) ((swpI (wd 2)) &&& 268435452) ((swpI (wd 3)) &&& 268435452)).1) ((padd 0 0 0 0 0 ((swpI (wd 0)) &&& 268435455) ((swpI (wd 1)) &&& 268435452) ((swpI (wd 2)) &&& 268435452) ((swpI (wd 3)) &&& 268435452)).2.1) ((padd 0 0 0 0 0 ((swpI (wd 0)) &&& 268435455) ((swpI (wd 1)) &&& 268435452) ((swpI (wd 2)) &&& 268435452) ((swpI (wd 3)) &&& 268435452)).2.2.1) ((padd 0 0 0 0 0 ((swpI (wd 0)) &&& 268435455) ((swpI (wd 1)) &&& 268435452) ((swpI (wd 2)) &&& 268435452) ((swpI (wd 3)) &&& 268435452)).2.2.2.1) ((padd 0 0 0 0 0 ((swpI (wd 0)) &&& 268435455) ((swpI (wd 1)) &&& 268435452) ((swpI (wd 2)) &&& 268435452) ((swpI (wd 3)) &&& 268435452)).2.2.2.2)))))] H := hP
  have hD : va_D A [(h, .inr (4, [.ref q1, .ref q2, .ref q3, .ref q4, .ref q5])), (q2, .inl (cL, 5, .inr (.inl (l5 x_9 x_12 x_15 x_18 x_21)))), (q5, .inl (cI, 4, .inl f_31)), (q6, .inl (cI, 16, .inl wd)), (q3, .inl (cL, 5, .inr (.inl (l5 0 0 0 0 0)))), (q1, .inl (cL, 5, .inr (.inl (l5 ((padd 0 0 0 0 0 ((swpI (wd 0)) &&& 268435455) ((swpI (wd 1)) &&& 268435452) ((swpI (wd 2)) &&& 268435452) ((swpI (wd 3)) &&& 268435452)).1) ((padd 0 0 0 0 0 ((swpI (wd 0)) &&& 268435455) ((swpI (wd 1)) &&& 268435452) ((swpI (wd 2)) &&& 268435452) ((swpI (wd 3)) &&& 268435452)).2.1) ((padd 0 0 0 0 0 ((swpI (wd 0)) &&& 268435455) ((swpI (wd 1)) &&& 268435452) ((swpI (wd 2)) &&& 268435452) ((swpI (wd 3)) &&& 268435452)).2.2.1) ((padd 0 0 0 0 0 ((swpI (wd 0)) &&& 268435455) ((swpI (wd 1)) &&& 268435452) ((swpI (wd 2)) &&& 268435452) ((swpI (wd 3)) &&& 268435452)).2.2.2.1) ((padd 0 0 0 0 0 ((swpI (wd 0)) &&& 268435455) ((swpI (wd 1)) &&& 268435452) ((swpI (wd 2)) &&& 268435452) ((swpI (wd 3)) &&& 268435452)).2.2.2.2)))))] := hD
  obtain rfl : f_31 = i4 x_26 x_30 g2 g3 := ef_31.trans (i4_set1 ..)
  refine lv_iinc (v := nI 2) (lv' := [(2, .int (nI 2)), (0, .ref h), (1, .ref q6)]) hx hb d_P_begin_109 hl (k := 0) rfl (sb_inc (a := 1) (b := 2) (d := 1) rfl (by decide) (by omega)) (by decide) rfl (fun ls hl => ?_)
  refine lv_goto (tgt := 90) hx hb d_P_begin_112 (by decide) ?_
  refine lv_iload_n hx hb d_P_begin_90 rfl (lv_at hl 0 rfl) ?_
  refine lv_iconst (v := 4) hx hb d_P_begin_91 (by decide) ?_
  refine lv_icmp_ge (tgt := 115) hx hb d_P_begin_92 (by decide) (fun c_32 => absurd c_32 (sb_geF (a := 2) (b := 4) rfl rfl (by omega) (by omega) (by omega))) (fun c_32 => ?_)
  refine lv_aload_n hx hb d_P_begin_95 rfl (lv_at hl 1 rfl) ?_
  refine va_get (D := D) (ci := 4) (v := .ref q5) (C := R_P) (T := F_P) (N := 5) hx hb hts in_P hown hG.1 hP 0 rfl rfl 4 (by decide) (hts _ k_176) (fun _ h9 => h9) rfl d_P_begin_96 ?_
  refine lv_iload_n hx hb d_P_begin_99 rfl (lv_at hl 0 rfl) ?_
  refine lv_aload_n hx hb d_P_begin_100 rfl (lv_at hl 2 rfl) ?_
  refine lv_iconst (v := 4) hx hb d_P_begin_101 (by decide) ?_
  refine lv_iload_n hx hb d_P_begin_102 rfl (lv_at hl 0 rfl) ?_
  refine lv_iadd hx hb d_P_begin_103 ?_
  refine sb_topn 6 (sb_eqn (a := 4 + 2) (b := 6) (nI_add 4 2) (by omega)) ?_
  refine sb_ild hx hb hG.1 hP 3 rfl 6 rfl (by omega) (by omega) d_P_begin_104 ?_
  refine vp_callSi (va_runSN (As := [.int (wd 6)]) (rest := [.int (nI 2), .ref q5]) ⟨hx, hb, hml, hown, hts⟩ (c_X_swapped l D cI cL cB tS tF (wd 6) ) ⟨va_cnB 1 hts (sb_g k_434) rfl rfl rfl (va_Nw.of rfl (hG.nest (args := args) _ n_549)) (hts _ k_22) (by decide +kernel) ⟨Nat.le_of_ble_eq_true rfl, Nat.le_of_ble_eq_true rfl⟩, hts _ k_433, trivial⟩ (sb_rS hG hP hS [] rfl) rfl rfl hl.1 rfl (lv_room (Nat.le_of_ble_eq_true rfl)) d_P_begin_105 ⟨Nat.le_of_ble_eq_true rfl, Nat.le_of_ble_eq_true rfl⟩).run (fun r_33 er_33 => ?_)
  subst er_33
  refine lv_topi (fun x_34 ex_34 => ?_)
  refine sb_ist hx hb hG.1 hP hD hS 2 rfl 2 rfl (by omega) (by omega) d_P_begin_108 (fun f_35 H locs ef_35 hP hD hS => ?_)
  have hP : va_P D vwCl [(h, .inr (4, [.ref q1, .ref q2, .ref q3, .ref q4, .ref q5])), (q2, .inl (cL, 5, .inr (.inl (l5 x_9 x_12 x_15 x_18 x_21)))), (q5, .inl (cI, 4, .inl f_35)), (q6, .inl (cI, 16, .inl wd)), (q3, .inl (cL, 5, .inr (.inl (l5 0 0 0 0 0)))), (q1, .inl (cL, 5, .inr (.inl (l5 ((padd 0 0 0 0 0 ((swpI (wd 0)) &&& 268435455) ((swpI (wd 1)) &&& 268435452) ((swpI (wd 2)) &&& 268435452) ((swpI (wd 3)) &&& 268435452)).1) ((padd 0 0 0 0 0 ((swpI (wd 0)) &&& 268435455) ((swpI (wd 1)) &&& 268435452) ((swpI (wd 2)) &&& 268435452) ((swpI (wd 3)) &&& 268435452)).2.1) ((padd 0 0 0 0 0 ((swpI (wd 0)) &&& 268435455) ((swpI (wd 1)) &&& 268435452) ((swpI (wd 2)) &&& 268435452) ((swpI (wd 3)) &&& 268435452)).2.2.1) ((padd 0 0 0 0 0 ((swpI (wd 0)) &&& 268435455) ((swpI (wd 1)) &&& 268435452) ((swpI (wd 2)) &&& 268435452) ((swpI (wd 3)) &&& 268435452)).2.2.2.1) ((padd 0 0 0 0 0 ((swpI (wd 0)) &&& 268435455) ((swpI (wd 1)) &&& 268435452) ((swpI (wd 2)) &&& 268435452) ((swpI (wd 3)) &&& 268435452)).2.2.2.2)))))] H := hP
  have hD : va_D A [(h, .inr (4, [.ref q1, .ref q2, .ref q3, .ref q4, .ref q5])), (q2, .inl (cL, 5, .inr (.inl (l5 x_9 x_12 x_15 x_18 x_21)))), (q5, .inl (cI, 4, .inl f_35)), (q6, .inl (cI, 16, .inl wd)), (q3, .inl (cL, 5, .inr (.inl (l5 0 0 0 0 0)))), (q1, .inl (cL, 5, .inr (.inl (l5 ((padd 0 0 0 0 0 ((swpI (wd 0)) &&& 268435455) ((swpI (wd 1)) &&& 268435452) ((swpI (wd 2)) &&& 268435452) ((swpI (wd 3)) &&& 268435452)).1) ((padd 0 0 0 0 0 ((swpI (wd 0)) &&& 268435455) ((swpI (wd 1)) &&& 268435452) ((swpI (wd 2)) &&& 268435452) ((swpI (wd 3)) &&& 268435452)).2.1) ((padd 0 0 0 0 0 ((swpI (wd 0)) &&& 268435455) ((swpI (wd 1)) &&& 268435452) ((swpI (wd 2)) &&& 268435452) ((swpI (wd 3)) &&& 268435452)).2.2.1) ((padd 0 0 0 0 0 ((swpI (wd 0)) &&& 268435455) ((swpI (wd 1)) &&& 268435452) ((swpI (wd 2)) &&& 268435452) ((swpI (wd 3)) &&& 268435452)).2.2.2.1) ((padd 0 0 0 0 0 ((swpI (wd 0)) &&& 268435455) ((swpI (wd 1)) &&& 268435452) ((swpI (wd 2)) &&& 268435452) ((swpI (wd 3)) &&& 268435452)).2.2.2.2)))))] := hD
  obtain rfl : f_35 = i4 x_26 x_30 x_34 g3 := ef_35.trans (i4_set2 ..)
  refine lv_iinc (v := nI 3) (lv' := [(2, .int (nI 3)), (0, .ref h), (1, .ref q6)]) hx hb d_P_begin_109 hl (k := 0) rfl (sb_inc (a := 2) (b := 3) (d := 1) rfl (by decide) (by omega)) (by decide) rfl (fun ls hl => ?_)
  refine lv_goto (tgt := 90) hx hb d_P_begin_112 (by decide) ?_
  refine lv_iload_n hx hb d_P_begin_90 rfl (lv_at hl 0 rfl) ?_
  refine lv_iconst (v := 4) hx hb d_P_begin_91 (by decide) ?_
  refine lv_icmp_ge (tgt := 115) hx hb d_P_begin_92 (by decide) (fun c_36 => absurd c_36 (sb_geF (a := 3) (b := 4) rfl rfl (by omega) (by omega) (by omega))) (fun c_36 => ?_)
  refine lv_aload_n hx hb d_P_begin_95 rfl (lv_at hl 1 rfl) ?_
  refine va_get (D := D) (ci := 4) (v := .ref q5) (C := R_P) (T := F_P) (N := 5) hx hb hts in_P hown hG.1 hP 0 rfl rfl 4 (by decide) (hts _ k_176) (fun _ h9 => h9) rfl d_P_begin_96 ?_
  refine lv_iload_n hx hb d_P_begin_99 rfl (lv_at hl 0 rfl) ?_
  refine lv_aload_n hx hb d_P_begin_100 rfl (lv_at hl 2 rfl) ?_
  refine lv_iconst (v := 4) hx hb d_P_begin_101 (by decide) ?_
  refine lv_iload_n hx hb d_P_begin_102 rfl (lv_at hl 0 rfl) ?_
  refine lv_iadd hx hb d_P_begin_103 ?_
  refine sb_topn 7 (sb_eqn (a := 4 + 3) (b := 7) (nI_add 4 3) (by omega)) ?_
  refine sb_ild hx hb hG.1 hP 3 rfl 7 rfl (by omega) (by omega) d_P_begin_104 ?_
  refine vp_callSi (va_runSN (As := [.int (wd 7)]) (rest := [.int (nI 3), .ref q5]) ⟨hx, hb, hml, hown, hts⟩ (c_X_swapped l D cI cL cB tS tF (wd 7) ) ⟨va_cnB 1 hts (sb_g k_434) rfl rfl rfl (va_Nw.of rfl (hG.nest (args := args) _ n_549)) (hts _ k_22) (by decide +kernel) ⟨Nat.le_of_ble_eq_true rfl, Nat.le_of_ble_eq_true rfl⟩, hts _ k_433, trivial⟩ (sb_rS hG hP hS [] rfl) rfl rfl hl.1 rfl (lv_room (Nat.le_of_ble_eq_true rfl)) d_P_begin_105 ⟨Nat.le_of_ble_eq_true rfl, Nat.le_of_ble_eq_true rfl⟩).run (fun r_37 er_37 => ?_)
  subst er_37
  refine lv_topi (fun x_38 ex_38 => ?_)
  refine sb_ist hx hb hG.1 hP hD hS 2 rfl 3 rfl (by omega) (by omega) d_P_begin_108 (fun f_39 H locs ef_39 hP hD hS => ?_)
  have hP : va_P D vwCl [(h, .inr (4, [.ref q1, .ref q2, .ref q3, .ref q4, .ref q5])), (q2, .inl (cL, 5, .inr (.inl (l5 x_9 x_12 x_15 x_18 x_21)))), (q5, .inl (cI, 4, .inl f_39)), (q6, .inl (cI, 16, .inl wd)), (q3, .inl (cL, 5, .inr (.inl (l5 0 0 0 0 0)))), (q1, .inl (cL, 5, .inr (.inl (l5 ((padd 0 0 0 0 0 ((swpI (wd 0)) &&& 268435455) ((swpI (wd 1)) &&& 268435452) ((swpI (wd 2)) &&& 268435452) ((swpI (wd 3)) &&& 268435452)).1) ((padd 0 0 0 0 0 ((swpI (wd 0)) &&& 268435455) ((swpI (wd 1)) &&& 268435452) ((swpI (wd 2)) &&& 268435452) ((swpI (wd 3)) &&& 268435452)).2.1) ((padd 0 0 0 0 0 ((swpI (wd 0)) &&& 268435455) ((swpI (wd 1)) &&& 268435452) ((swpI (wd 2)) &&& 268435452) ((swpI (wd 3)) &&& 268435452)).2.2.1) ((padd 0 0 0 0 0 ((swpI (wd 0)) &&& 268435455) ((swpI (wd 1)) &&& 268435452) ((swpI (wd 2)) &&& 268435452) ((swpI (wd 3)) &&& 268435452)).2.2.2.1) ((padd 0 0 0 0 0 ((swpI (wd 0)) &&& 268435455) ((swpI (wd 1)) &&& 268435452) ((swpI (wd 2)) &&& 268435452) ((swpI (wd 3)) &&& 268435452)).2.2.2.2)))))] H := hP
  have hD : va_D A [(h, .inr (4, [.ref q1, .ref q2, .ref q3, .ref q4, .ref q5])), (q2, .inl (cL, 5, .inr (.inl (l5 x_9 x_12 x_15 x_18 x_21)))), (q5, .inl (cI, 4, .inl f_39)), (q6, .inl (cI, 16, .inl wd)), (q3, .inl (cL, 5, .inr (.inl (l5 0 0 0 0 0)))), (q1, .inl (cL, 5, .inr (.inl (l5 ((padd 0 0 0 0 0 ((swpI (wd 0)) &&& 268435455) ((swpI (wd 1)) &&& 268435452) ((swpI (wd 2)) &&& 268435452) ((swpI (wd 3)) &&& 268435452)).1) ((padd 0 0 0 0 0 ((swpI (wd 0)) &&& 268435455) ((swpI (wd 1)) &&& 268435452) ((swpI (wd 2)) &&& 268435452) ((swpI (wd 3)) &&& 268435452)).2.1) ((padd 0 0 0 0 0 ((swpI (wd 0)) &&& 268435455) ((swpI (wd 1)) &&& 268435452) ((swpI (wd 2)) &&& 268435452) ((swpI (wd 3)) &&& 268435452)).2.2.1) ((padd 0 0 0 0 0 ((swpI (wd 0)) &&& 268435455) ((swpI (wd 1)) &&& 268435452) ((swpI (wd 2)) &&& 268435452) ((swpI (wd 3)) &&& 268435452)).2.2.2.1) ((padd 0 0 0 0 0 ((swpI (wd 0)) &&& 268435455) ((swpI (wd 1)) &&& 268435452) ((swpI (wd 2)) &&& 268435452) ((swpI (wd 3)) &&& 268435452)).2.2.2.2)))))] := hD
  obtain rfl : f_39 = i4 x_26 x_30 x_34 x_38 := ef_39.trans (i4_set3 ..)
  refine lv_iinc (v := nI 4) (lv' := [(2, .int (nI 4)), (0, .ref h), (1, .ref q6)]) hx hb d_P_begin_109 hl (k := 0) rfl (sb_inc (a := 3) (b := 4) (d := 1) rfl (by decide) (by omega)) (by decide) rfl (fun ls hl => ?_)
  refine lv_goto (tgt := 90) hx hb d_P_begin_112 (by decide) ?_
  refine lv_iload_n hx hb d_P_begin_90 rfl (lv_at hl 0 rfl) ?_
  refine lv_iconst (v := 4) hx hb d_P_begin_91 (by decide) ?_
  refine lv_icmp_ge (tgt := 115) hx hb d_P_begin_92 (by decide) (fun c_40 => ?_) (fun c_40 => absurd (sb_geT (a := 4) (b := 4) rfl rfl (by omega) (by omega) (by omega)) c_40)
  subst ex_38
  subst ex_34
  subst ex_30
  subst ex_26
  subst ex_21
  subst ex_18
  subst ex_15
  subst ex_12
  subst ex_9
  have hP9 := hP.sub (ws' := [(h, .inr (4, [.ref q1, .ref q2, .ref q3, .ref q4, .ref q5])), (q1, .inl (cL, 5, .inr (.inl (l5 ((padd 0 0 0 0 0 ((swpI (wd 0)) &&& 268435455) ((swpI (wd 1)) &&& 268435452) ((swpI (wd 2)) &&& 268435452) ((swpI (wd 3)) &&& 268435452)).1) ((padd 0 0 0 0 0 ((swpI (wd 0)) &&& 268435455) ((swpI (wd 1)) &&& 268435452) ((swpI (wd 2)) &&& 268435452) ((swpI (wd 3)) &&& 268435452)).2.1) ((padd 0 0 0 0 0 ((swpI (wd 0)) &&& 268435455) ((swpI (wd 1)) &&& 268435452) ((swpI (wd 2)) &&& 268435452) ((swpI (wd 3)) &&& 268435452)).2.2.1) ((padd 0 0 0 0 0 ((swpI (wd 0)) &&& 268435455) ((swpI (wd 1)) &&& 268435452) ((swpI (wd 2)) &&& 268435452) ((swpI (wd 3)) &&& 268435452)).2.2.2.1) ((padd 0 0 0 0 0 ((swpI (wd 0)) &&& 268435455) ((swpI (wd 1)) &&& 268435452) ((swpI (wd 2)) &&& 268435452) ((swpI (wd 3)) &&& 268435452)).2.2.2.2))))), (q2, .inl (cL, 5, .inr (.inl (l5 (5 * ((padd 0 0 0 0 0 ((swpI (wd 0)) &&& 268435455) ((swpI (wd 1)) &&& 268435452) ((swpI (wd 2)) &&& 268435452) ((swpI (wd 3)) &&& 268435452)).1)) (5 * ((padd 0 0 0 0 0 ((swpI (wd 0)) &&& 268435455) ((swpI (wd 1)) &&& 268435452) ((swpI (wd 2)) &&& 268435452) ((swpI (wd 3)) &&& 268435452)).2.1)) (5 * ((padd 0 0 0 0 0 ((swpI (wd 0)) &&& 268435455) ((swpI (wd 1)) &&& 268435452) ((swpI (wd 2)) &&& 268435452) ((swpI (wd 3)) &&& 268435452)).2.2.1)) (5 * ((padd 0 0 0 0 0 ((swpI (wd 0)) &&& 268435455) ((swpI (wd 1)) &&& 268435452) ((swpI (wd 2)) &&& 268435452) ((swpI (wd 3)) &&& 268435452)).2.2.2.1)) (5 * ((padd 0 0 0 0 0 ((swpI (wd 0)) &&& 268435455) ((swpI (wd 1)) &&& 268435452) ((swpI (wd 2)) &&& 268435452) ((swpI (wd 3)) &&& 268435452)).2.2.2.2)))))), (q3, .inl (cL, 5, .inr (.inl (l5 0 0 0 0 0)))), (q5, .inl (cI, 4, .inl (i4 (swpI (wd 4)) (swpI (wd 5)) (swpI (wd 6)) (swpI (wd 7))))), (q6, .inl (cI, 16, .inl wd))]) [0, 5, 1, 4, 2, 3] rfl
  have hD9 := hD.sub (ws' := [(h, .inr (4, [.ref q1, .ref q2, .ref q3, .ref q4, .ref q5])), (q1, .inl (cL, 5, .inr (.inl (l5 ((padd 0 0 0 0 0 ((swpI (wd 0)) &&& 268435455) ((swpI (wd 1)) &&& 268435452) ((swpI (wd 2)) &&& 268435452) ((swpI (wd 3)) &&& 268435452)).1) ((padd 0 0 0 0 0 ((swpI (wd 0)) &&& 268435455) ((swpI (wd 1)) &&& 268435452) ((swpI (wd 2)) &&& 268435452) ((swpI (wd 3)) &&& 268435452)).2.1) ((padd 0 0 0 0 0 ((swpI (wd 0)) &&& 268435455) ((swpI (wd 1)) &&& 268435452) ((swpI (wd 2)) &&& 268435452) ((swpI (wd 3)) &&& 268435452)).2.2.1) ((padd 0 0 0 0 0 ((swpI (wd 0)) &&& 268435455) ((swpI (wd 1)) &&& 268435452) ((swpI (wd 2)) &&& 268435452) ((swpI (wd 3)) &&& 268435452)).2.2.2.1) ((padd 0 0 0 0 0 ((swpI (wd 0)) &&& 268435455) ((swpI (wd 1)) &&& 268435452) ((swpI (wd 2)) &&& 268435452) ((swpI (wd 3)) &&& 268435452)).2.2.2.2))))), (q2, .inl (cL, 5, .inr (.inl (l5 (5 * ((padd 0 0 0 0 0 ((swpI (wd 0)) &&& 268435455) ((swpI (wd 1)) &&& 268435452) ((swpI (wd 2)) &&& 268435452) ((swpI (wd 3)) &&& 268435452)).1)) (5 * ((padd 0 0 0 0 0 ((swpI (wd 0)) &&& 268435455) ((swpI (wd 1)) &&& 268435452) ((swpI (wd 2)) &&& 268435452) ((swpI (wd 3)) &&& 268435452)).2.1)) (5 * ((padd 0 0 0 0 0 ((swpI (wd 0)) &&& 268435455) ((swpI (wd 1)) &&& 268435452) ((swpI (wd 2)) &&& 268435452) ((swpI (wd 3)) &&& 268435452)).2.2.1)) (5 * ((padd 0 0 0 0 0 ((swpI (wd 0)) &&& 268435455) ((swpI (wd 1)) &&& 268435452) ((swpI (wd 2)) &&& 268435452) ((swpI (wd 3)) &&& 268435452)).2.2.2.1)) (5 * ((padd 0 0 0 0 0 ((swpI (wd 0)) &&& 268435455) ((swpI (wd 1)) &&& 268435452) ((swpI (wd 2)) &&& 268435452) ((swpI (wd 3)) &&& 268435452)).2.2.2.2)))))), (q3, .inl (cL, 5, .inr (.inl (l5 0 0 0 0 0)))), (q5, .inl (cI, 4, .inl (i4 (swpI (wd 4)) (swpI (wd 5)) (swpI (wd 6)) (swpI (wd 7))))), (q6, .inl (cI, 16, .inl wd))]) [0, 5, 1, 4, 2, 3] (by decide) rfl
  exact W.vret hx hb hr (fun t ht hW => ⟨⟨(), rfl, trivial, by rw [ht]; exact hP9, hD9⟩, hS.F ht⟩) hS.2.2 d_P_begin_115

theorem d_P_finish_0 : decode b_P_finish 0 = .ok (.aload_n 0, 1) := by decide +kernel
theorem d_P_finish_1 : decode b_P_finish 1 = .ok (.invokevirtual 58, 3) := by decide +kernel
theorem d_P_finish_4 : decode b_P_finish 4 = .ok (.aload_n 0, 1) := by decide +kernel
theorem d_P_finish_5 : decode b_P_finish 5 = .ok (.invokevirtual 65, 3) := by decide +kernel
theorem d_P_finish_8 : decode b_P_finish 8 = .ok (.lconst 0, 1) := by decide +kernel
theorem d_P_finish_9 : decode b_P_finish 9 = .ok (.lstore_n 2, 1) := by decide +kernel
theorem d_P_finish_10 : decode b_P_finish 10 = .ok (.iconst 0, 1) := by decide +kernel
theorem d_P_finish_11 : decode b_P_finish 11 = .ok (.istore 4, 2) := by decide +kernel
theorem d_P_finish_13 : decode b_P_finish 13 = .ok (.iload 4, 2) := by decide +kernel
theorem d_P_finish_15 : decode b_P_finish 15 = .ok (.iconst 4, 1) := by decide +kernel
theorem d_P_finish_16 : decode b_P_finish 16 = .ok (.if_icmp .ge 79, 3) := by decide +kernel
theorem d_P_finish_19 : decode b_P_finish 19 = .ok (.aload_n 0, 1) := by decide +kernel
theorem d_P_finish_20 : decode b_P_finish 20 = .ok (.getfield 18, 3) := by decide +kernel
theorem d_P_finish_23 : decode b_P_finish 23 = .ok (.iload 4, 2) := by decide +kernel
theorem d_P_finish_25 : decode b_P_finish 25 = .ok (.laload, 1) := by decide +kernel
theorem d_P_finish_26 : decode b_P_finish 26 = .ok (.bipush 6, 2) := by decide +kernel
theorem d_P_finish_28 : decode b_P_finish 28 = .ok (.iload 4, 2) := by decide +kernel
theorem d_P_finish_30 : decode b_P_finish 30 = .ok (.imul, 1) := by decide +kernel
theorem d_P_finish_31 : decode b_P_finish 31 = .ok (.lushr, 1) := by decide +kernel
theorem d_P_finish_32 : decode b_P_finish 32 = .ok (.aload_n 0, 1) := by decide +kernel
theorem d_P_finish_33 : decode b_P_finish 33 = .ok (.getfield 18, 3) := by decide +kernel
theorem d_P_finish_36 : decode b_P_finish 36 = .ok (.iload 4, 2) := by decide +kernel
theorem d_P_finish_38 : decode b_P_finish 38 = .ok (.iconst 1, 1) := by decide +kernel
theorem d_P_finish_39 : decode b_P_finish 39 = .ok (.iadd, 1) := by decide +kernel
theorem d_P_finish_40 : decode b_P_finish 40 = .ok (.laload, 1) := by decide +kernel
theorem d_P_finish_41 : decode b_P_finish 41 = .ok (.bipush 26, 2) := by decide +kernel
theorem d_P_finish_43 : decode b_P_finish 43 = .ok (.bipush 6, 2) := by decide +kernel
theorem d_P_finish_45 : decode b_P_finish 45 = .ok (.iload 4, 2) := by decide +kernel
theorem d_P_finish_47 : decode b_P_finish 47 = .ok (.imul, 1) := by decide +kernel
theorem d_P_finish_48 : decode b_P_finish 48 = .ok (.isub, 1) := by decide +kernel
theorem d_P_finish_49 : decode b_P_finish 49 = .ok (.lshl, 1) := by decide +kernel
theorem d_P_finish_50 : decode b_P_finish 50 = .ok (.lor, 1) := by decide +kernel
theorem d_P_finish_51 : decode b_P_finish 51 = .ok (.ldc2_w 61, 3) := by decide +kernel
theorem d_P_finish_54 : decode b_P_finish 54 = .ok (.land, 1) := by decide +kernel
theorem d_P_finish_55 : decode b_P_finish 55 = .ok (.lstore 5, 2) := by decide +kernel
theorem d_P_finish_57 : decode b_P_finish 57 = .ok (.lload_n 2, 1) := by decide +kernel
theorem d_P_finish_58 : decode b_P_finish 58 = .ok (.lload 5, 2) := by decide +kernel
theorem d_P_finish_60 : decode b_P_finish 60 = .ok (.aload_n 0, 1) := by decide +kernel
theorem d_P_finish_61 : decode b_P_finish 61 = .ok (.getfield 24, 3) := by decide +kernel
theorem d_P_finish_64 : decode b_P_finish 64 = .ok (.iload 4, 2) := by decide +kernel
theorem d_P_finish_66 : decode b_P_finish 66 = .ok (.iaload, 1) := by decide +kernel
theorem d_P_finish_67 : decode b_P_finish 67 = .ok (.i2l, 1) := by decide +kernel
theorem d_P_finish_68 : decode b_P_finish 68 = .ok (.ldc2_w 61, 3) := by decide +kernel
theorem d_P_finish_71 : decode b_P_finish 71 = .ok (.land, 1) := by decide +kernel
theorem d_P_finish_72 : decode b_P_finish 72 = .ok (.ladd, 1) := by decide +kernel
theorem d_P_finish_73 : decode b_P_finish 73 = .ok (.ladd, 1) := by decide +kernel
theorem d_P_finish_74 : decode b_P_finish 74 = .ok (.lstore_n 2, 1) := by decide +kernel
theorem d_P_finish_75 : decode b_P_finish 75 = .ok (.aload_n 1, 1) := by decide +kernel
theorem d_P_finish_76 : decode b_P_finish 76 = .ok (.iload 4, 2) := by decide +kernel
theorem d_P_finish_78 : decode b_P_finish 78 = .ok (.lload_n 2, 1) := by decide +kernel
theorem d_P_finish_79 : decode b_P_finish 79 = .ok (.l2i, 1) := by decide +kernel
theorem d_P_finish_80 : decode b_P_finish 80 = .ok (.invokestatic 34, 3) := by decide +kernel
theorem d_P_finish_83 : decode b_P_finish 83 = .ok (.iastore, 1) := by decide +kernel
theorem d_P_finish_84 : decode b_P_finish 84 = .ok (.lload_n 2, 1) := by decide +kernel
theorem d_P_finish_85 : decode b_P_finish 85 = .ok (.bipush 32, 2) := by decide +kernel
theorem d_P_finish_87 : decode b_P_finish 87 = .ok (.lushr, 1) := by decide +kernel
theorem d_P_finish_88 : decode b_P_finish 88 = .ok (.lstore_n 2, 1) := by decide +kernel
theorem d_P_finish_89 : decode b_P_finish 89 = .ok (.iinc 4 1, 3) := by decide +kernel
theorem d_P_finish_92 : decode b_P_finish 92 = .ok (.goto (-79), 3) := by decide +kernel
theorem d_P_finish_95 : decode b_P_finish 95 = .ok (.return_, 1) := by decide +kernel

def rm_P_finish : Room := { frames := 2, cells := 0, slots := 0, locals := 43 }
set_option maxHeartbeats 4000000 in
set_option maxRecDepth 100000 in
theorem c_P_finish (l : Launch) (D : va_G) (cI cL cB : ClassId) (tS tF : Nat) (h : Nat) (q1 : Nat) (q2 : Nat) (q3 : Nat) (q4 : Nat) (q5 : Nat) (s0 : Int64) (s1 : Int64) (s2 : Int64) (s3 : Int64) (s4 : Int64) (p0 : Int64) (p1 : Int64) (p2 : Int64) (p3 : Int64) (p4 : Int64) (g0 : Int32) (g1 : Int32) (g2 : Int32) (g3 : Int32) (q6 : Nat) (z0 : Int32) (z1 : Int32) (z2 : Int32) (z3 : Int32) (sz : Nat)  : Met l y_P_finish (sbw y_P_finish b_P_finish 7 none) rm_P_finish (sbPc D cI cL cB tS tF [.ref h, .ref q6] sz [(h, .inr (4, [.ref q1, .ref q2, .ref q3, .ref q4, .ref q5])), (q3, .inl (cL, 5, .inr (.inl (l5 s0 s1 s2 s3 s4)))), (q4, .inl (cL, 5, .inr (.inl (l5 p0 p1 p2 p3 p4)))), (q5, .inl (cI, 4, .inl (i4 g0 g1 g2 g3))), (q6, .inl (cI, 4, .inl (i4 z0 z1 z2 z3)))]) (sbQv D (fun (u : Int64 × Int64 × Int64 × Int64 × Int64 × Int64 × Int64 × Int64 × Int64 × Int64) => match u with | (y0, y1, y2, y3, y4, y5, y6, y7, y8, y9) => True) (fun (u : Int64 × Int64 × Int64 × Int64 × Int64 × Int64 × Int64 × Int64 × Int64 × Int64) => match u with | (y0, y1, y2, y3, y4, y5, y6, y7, y8, y9) => [(h, .inr (4, [.ref q1, .ref q2, .ref q3, .ref q4, .ref q5])), (q3, .inl (cL, 5, .inr (.inl (l5 y0 y1 y2 y3 y4)))), (q4, .inl (cL, 5, .inr (.inl (l5 y5 y6 y7 y8 y9)))), (q5, .inl (cI, 4, .inl (i4 g0 g1 g2 g3))), (q6, .inl (cI, 4, .inl (i4 (swpI (pc1 (predt (pcar s0 s1 s2 s3 s4)) g0).toInt32) (swpI (pc2 (predt (pcar s0 s1 s2 s3 s4)) g0 g1).toInt32) (swpI (pc3 (predt (pcar s0 s1 s2 s3 s4)) g0 g1 g2).toInt32) (swpI (pc4 (predt (pcar s0 s1 s2 s3 s4)) g0 g1 g2 g3).toInt32))))]) (va_A [(h, .inr (4, [.ref q1, .ref q2, .ref q3, .ref q4, .ref q5])), (q3, .inl (cL, 5, .inr (.inl (l5 s0 s1 s2 s3 s4)))), (q4, .inl (cL, 5, .inr (.inl (l5 p0 p1 p2 p3 p4)))), (q5, .inl (cI, 4, .inl (i4 g0 g1 g2 g3))), (q6, .inl (cI, 4, .inl (i4 z0 z1 z2 z3)))] sz)) 0 0 (va_A [(h, .inr (4, [.ref q1, .ref q2, .ref q3, .ref q4, .ref q5])), (q3, .inl (cL, 5, .inr (.inl (l5 s0 s1 s2 s3 s4)))), (q4, .inl (cL, 5, .inr (.inl (l5 p0 p1 p2 p3 p4)))), (q5, .inl (cI, 4, .inl (i4 g0 g1 g2 g3))), (q6, .inl (cI, 4, .inl (i4 z0 z1 z2 z3)))] sz) := by
  refine sb_ofW (Qc := fun A => (sbQv D (fun (u : Int64 × Int64 × Int64 × Int64 × Int64 × Int64 × Int64 × Int64 × Int64 × Int64) => match u with | (y0, y1, y2, y3, y4, y5, y6, y7, y8, y9) => True) (fun (u : Int64 × Int64 × Int64 × Int64 × Int64 × Int64 × Int64 × Int64 × Int64 × Int64) => match u with | (y0, y1, y2, y3, y4, y5, y6, y7, y8, y9) => [(h, .inr (4, [.ref q1, .ref q2, .ref q3, .ref q4, .ref q5])), (q3, .inl (cL, 5, .inr (.inl (l5 y0 y1 y2 y3 y4)))), (q4, .inl (cL, 5, .inr (.inl (l5 y5 y6 y7 y8 y9)))), (q5, .inl (cI, 4, .inl (i4 g0 g1 g2 g3))), (q6, .inl (cI, 4, .inl (i4 (swpI (pc1 (predt (pcar s0 s1 s2 s3 s4)) g0).toInt32) (swpI (pc2 (predt (pcar s0 s1 s2 s3 s4)) g0 g1).toInt32) (swpI (pc3 (predt (pcar s0 s1 s2 s3 s4)) g0 g1 g2).toInt32) (swpI (pc4 (predt (pcar s0 s1 s2 s3 s4)) g0 g1 g2 g3).toInt32))))]) A)) (by decide) (Nat.le_of_ble_eq_true rfl) ?_
  intro p e s m args below meth c A ls hx hb hr hml hts hown hlocks hin hsz hP hG hD hA hS hl
  have hl : lv_has ls 7 [(0, .ref h), (1, .ref q6)] := hl
  refine lv_aload_n hx hb d_P_finish_0 rfl (lv_at hl 0 rfl) ?_
  refine sb_callv (wr := [(q4, .inl (cL, 5, .inr (.inl (l5 p0 p1 p2 p3 p4)))), (q5, .inl (cI, 4, .inl (i4 g0 g1 g2 g3))), (q6, .inl (cI, 4, .inl (i4 z0 z1 z2 z3)))]) (va_runV (As := []) (rest := []) ⟨hx, hb, hml, hown, hts⟩ (c_P_carry l D cI cL cB tS tF h q1 q2 q3 q4 q5 s0 s1 s2 s3 s4 _ ) (cwV 0 hts (sb_gV k_592 k_594 k_4 k_29 k_595) rfl rfl rfl (by decide +kernel) ⟨Nat.le_of_ble_eq_true rfl, Nat.le_of_ble_eq_true rfl⟩) (sb_pV hG hP hD hS hA [0, 1] (by decide) rfl (ci := 4) (q0 := 0) rfl rfl) rfl rfl hl.1 rfl (lv_room (Nat.le_of_ble_eq_true rfl)) d_P_finish_1 ⟨Nat.le_of_ble_eq_true rfl, Nat.le_of_ble_eq_true rfl⟩) hP hD hS hA [0, 1] [2, 3, 4] rfl rfl (by decide) (by decide) (fun u H locs hw_1 hP hD hS => ?_)
  have hP : va_P D vwCl [(q4, .inl (cL, 5, .inr (.inl (l5 p0 p1 p2 p3 p4)))), (q5, .inl (cI, 4, .inl (i4 g0 g1 g2 g3))), (q6, .inl (cI, 4, .inl (i4 z0 z1 z2 z3))), (h, .inr (4, [.ref q1, .ref q2, .ref q3, .ref q4, .ref q5])), (q3, .inl (cL, 5, .inr (.inl (l5 ((pcar s0 s1 s2 s3 s4).1) ((pcar s0 s1 s2 s3 s4).2.1) ((pcar s0 s1 s2 s3 s4).2.2.1) ((pcar s0 s1 s2 s3 s4).2.2.2.1) ((pcar s0 s1 s2 s3 s4).2.2.2.2)))))] H := hP
  have hD : va_D A [(q4, .inl (cL, 5, .inr (.inl (l5 p0 p1 p2 p3 p4)))), (q5, .inl (cI, 4, .inl (i4 g0 g1 g2 g3))), (q6, .inl (cI, 4, .inl (i4 z0 z1 z2 z3))), (h, .inr (4, [.ref q1, .ref q2, .ref q3, .ref q4, .ref q5])), (q3, .inl (cL, 5, .inr (.inl (l5 ((pcar s0 s1 s2 s3 s4).1) ((pcar s0 s1 s2 s3 s4).2.1) ((pcar s0 s1 s2 s3 s4).2.2.1) ((pcar s0 s1 s2 s3 s4).2.2.2.1) ((pcar s0 s1 s2 s3 s4).2.2.2.2)))))] := hD
  refine lv_aload_n hx hb d_P_finish_4 rfl (lv_at hl 0 rfl) ?_
  refine sb_callv (wr := [(q5, .inl (cI, 4, .inl (i4 g0 g1 g2 g3))), (q6, .inl (cI, 4, .inl (i4 z0 z1 z2 z3)))]) (va_runV (As := []) (rest := []) ⟨hx, hb, hml, hown, hts⟩ (c_P_reduce l D cI cL cB tS tF h q1 q2 q3 q4 q5 ((pcar s0 s1 s2 s3 s4).1) ((pcar s0 s1 s2 s3 s4).2.1) ((pcar s0 s1 s2 s3 s4).2.2.1) ((pcar s0 s1 s2 s3 s4).2.2.2.1) ((pcar s0 s1 s2 s3 s4).2.2.2.2) p0 p1 p2 p3 p4 _ ) (cwV 0 hts (sb_gV k_609 k_611 k_5 k_29 k_612) rfl rfl rfl (by decide +kernel) ⟨Nat.le_of_ble_eq_true rfl, Nat.le_of_ble_eq_true rfl⟩) (sb_pV hG hP hD hS hA [3, 4, 0] (by decide) rfl (ci := 4) (q0 := 3) rfl rfl) rfl rfl hl.1 rfl (lv_room (Nat.le_of_ble_eq_true rfl)) d_P_finish_5 ⟨Nat.le_of_ble_eq_true rfl, Nat.le_of_ble_eq_true rfl⟩) hP hD hS hA [3, 4, 0] [1, 2] rfl rfl (by decide) (by decide) (fun u H locs hw_2 hP hD hS => ?_)
  have hP : va_P D vwCl [(q5, .inl (cI, 4, .inl (i4 g0 g1 g2 g3))), (q6, .inl (cI, 4, .inl (i4 z0 z1 z2 z3))), (h, .inr (4, [.ref q1, .ref q2, .ref q3, .ref q4, .ref q5])), (q3, .inl (cL, 5, .inr (.inl (l5 ((pred ((pcar s0 s1 s2 s3 s4).1) ((pcar s0 s1 s2 s3 s4).2.1) ((pcar s0 s1 s2 s3 s4).2.2.1) ((pcar s0 s1 s2 s3 s4).2.2.2.1) ((pcar s0 s1 s2 s3 s4).2.2.2.2)).1) ((pred ((pcar s0 s1 s2 s3 s4).1) ((pcar s0 s1 s2 s3 s4).2.1) ((pcar s0 s1 s2 s3 s4).2.2.1) ((pcar s0 s1 s2 s3 s4).2.2.2.1) ((pcar s0 s1 s2 s3 s4).2.2.2.2)).2.1) ((pred ((pcar s0 s1 s2 s3 s4).1) ((pcar s0 s1 s2 s3 s4).2.1) ((pcar s0 s1 s2 s3 s4).2.2.1) ((pcar s0 s1 s2 s3 s4).2.2.2.1) ((pcar s0 s1 s2 s3 s4).2.2.2.2)).2.2.1) ((pred ((pcar s0 s1 s2 s3 s4).1) ((pcar s0 s1 s2 s3 s4).2.1) ((pcar s0 s1 s2 s3 s4).2.2.1) ((pcar s0 s1 s2 s3 s4).2.2.2.1) ((pcar s0 s1 s2 s3 s4).2.2.2.2)).2.2.2.1) ((pred ((pcar s0 s1 s2 s3 s4).1) ((pcar s0 s1 s2 s3 s4).2.1) ((pcar s0 s1 s2 s3 s4).2.2.1) ((pcar s0 s1 s2 s3 s4).2.2.2.1) ((pcar s0 s1 s2 s3 s4).2.2.2.2)).2.2.2.2))))), (q4, .inl (cL, 5, .inr (.inl (l5 ((pred1 ((pcar s0 s1 s2 s3 s4).1) ((pcar s0 s1 s2 s3 s4).2.1) ((pcar s0 s1 s2 s3 s4).2.2.1) ((pcar s0 s1 s2 s3 s4).2.2.2.1) ((pcar s0 s1 s2 s3 s4).2.2.2.2)).1) ((pred1 ((pcar s0 s1 s2 s3 s4).1) ((pcar s0 s1 s2 s3 s4).2.1) ((pcar s0 s1 s2 s3 s4).2.2.1) ((pcar s0 s1 s2 s3 s4).2.2.2.1) ((pcar s0 s1 s2 s3 s4).2.2.2.2)).2.1) ((pred1 ((pcar s0 s1 s2 s3 s4).1) ((pcar s0 s1 s2 s3 s4).2.1) ((pcar s0 s1 s2 s3 s4).2.2.1) ((pcar s0 s1 s2 s3 s4).2.2.2.1) ((pcar s0 s1 s2 s3 s4).2.2.2.2)).2.2.1) ((pred1 ((pcar s0 s1 s2 s3 s4).1) ((pcar s0 s1 s2 s3 s4).2.1) ((pcar s0 s1 s2 s3 s4).2.2.1) ((pcar s0 s1 s2 s3 s4).2.2.2.1) ((pcar s0 s1 s2 s3 s4).2.2.2.2)).2.2.2.1) ((pred1 ((pcar s0 s1 s2 s3 s4).1) ((pcar s0 s1 s2 s3 s4).2.1) ((pcar s0 s1 s2 s3 s4).2.2.1) ((pcar s0 s1 s2 s3 s4).2.2.2.1) ((pcar s0 s1 s2 s3 s4).2.2.2.2)).2.2.2.2)))))] H := hP
  have hD : va_D A [(q5, .inl (cI, 4, .inl (i4 g0 g1 g2 g3))), (q6, .inl (cI, 4, .inl (i4 z0 z1 z2 z3))), (h, .inr (4, [.ref q1, .ref q2, .ref q3, .ref q4, .ref q5])), (q3, .inl (cL, 5, .inr (.inl (l5 ((pred ((pcar s0 s1 s2 s3 s4).1) ((pcar s0 s1 s2 s3 s4).2.1) ((pcar s0 s1 s2 s3 s4).2.2.1) ((pcar s0 s1 s2 s3 s4).2.2.2.1) ((pcar s0 s1 s2 s3 s4).2.2.2.2)).1) ((pred ((pcar s0 s1 s2 s3 s4).1) ((pcar s0 s1 s2 s3 s4).2.1) ((pcar s0 s1 s2 s3 s4).2.2.1) ((pcar s0 s1 s2 s3 s4).2.2.2.1) ((pcar s0 s1 s2 s3 s4).2.2.2.2)).2.1) ((pred ((pcar s0 s1 s2 s3 s4).1) ((pcar s0 s1 s2 s3 s4).2.1) ((pcar s0 s1 s2 s3 s4).2.2.1) ((pcar s0 s1 s2 s3 s4).2.2.2.1) ((pcar s0 s1 s2 s3 s4).2.2.2.2)).2.2.1) ((pred ((pcar s0 s1 s2 s3 s4).1) ((pcar s0 s1 s2 s3 s4).2.1) ((pcar s0 s1 s2 s3 s4).2.2.1) ((pcar s0 s1 s2 s3 s4).2.2.2.1) ((pcar s0 s1 s2 s3 s4).2.2.2.2)).2.2.2.1) ((pred ((pcar s0 s1 s2 s3 s4).1) ((pcar s0 s1 s2 s3 s4).2.1) ((pcar s0 s1 s2 s3 s4).2.2.1) ((pcar s0 s1 s2 s3 s4).2.2.2.1) ((pcar s0 s1 s2 s3 s4).2.2.2.2)).2.2.2.2))))), (q4, .inl (cL, 5, .inr (.inl (l5 ((pred1 ((pcar s0 s1 s2 s3 s4).1) ((pcar s0 s1 s2 s3 s4).2.1) ((pcar s0 s1 s2 s3 s4).2.2.1) ((pcar s0 s1 s2 s3 s4).2.2.2.1) ((pcar s0 s1 s2 s3 s4).2.2.2.2)).1) ((pred1 ((pcar s0 s1 s2 s3 s4).1) ((pcar s0 s1 s2 s3 s4).2.1) ((pcar s0 s1 s2 s3 s4).2.2.1) ((pcar s0 s1 s2 s3 s4).2.2.2.1) ((pcar s0 s1 s2 s3 s4).2.2.2.2)).2.1) ((pred1 ((pcar s0 s1 s2 s3 s4).1) ((pcar s0 s1 s2 s3 s4).2.1) ((pcar s0 s1 s2 s3 s4).2.2.1) ((pcar s0 s1 s2 s3 s4).2.2.2.1) ((pcar s0 s1 s2 s3 s4).2.2.2.2)).2.2.1) ((pred1 ((pcar s0 s1 s2 s3 s4).1) ((pcar s0 s1 s2 s3 s4).2.1) ((pcar s0 s1 s2 s3 s4).2.2.1) ((pcar s0 s1 s2 s3 s4).2.2.2.1) ((pcar s0 s1 s2 s3 s4).2.2.2.2)).2.2.2.1) ((pred1 ((pcar s0 s1 s2 s3 s4).1) ((pcar s0 s1 s2 s3 s4).2.1) ((pcar s0 s1 s2 s3 s4).2.2.1) ((pcar s0 s1 s2 s3 s4).2.2.2.1) ((pcar s0 s1 s2 s3 s4).2.2.2.2)).2.2.2.2)))))] := hD
  refine lv_lconst (v := 0) hx hb d_P_finish_8 (by decide) ?_
  refine lv_lstore_n (lv' := [(2, .long 0), (0, .ref h), (1, .ref q6)]) hx hb d_P_finish_9 rfl hl (by decide) rfl (fun ls hl => ?_)
  refine lv_iconst (v := 0) hx hb d_P_finish_10 (by decide) ?_
  refine lv_istore (lv' := [(4, .int 0), (2, .long 0), (0, .ref h), (1, .ref q6)]) hx hb d_P_finish_11 hl (by decide) rfl (fun ls hl => ?_)
  refine lv_iload hx hb d_P_finish_13 (lv_at hl 0 rfl) ?_
  refine lv_iconst (v := 4) hx hb d_P_finish_15 (by decide) ?_
  refine lv_icmp_ge (tgt := 95) hx hb d_P_finish_16 (by decide) (fun c_3 => absurd c_3 (sb_geF (a := 0) (b := 4) rfl rfl (by omega) (by omega) (by omega))) (fun c_3 => ?_)
  refine lv_aload_n hx hb d_P_finish_19 rfl (lv_at hl 2 rfl) ?_
  refine va_get (D := D) (ci := 4) (v := .ref q3) (C := R_P) (T := F_P) (N := 5) hx hb hts in_P hown hG.1 hP 2 rfl rfl 2 (by decide) (hts _ k_174) (fun _ h9 => h9) rfl d_P_finish_20 ?_
  refine lv_iload hx hb d_P_finish_23 (lv_at hl 0 rfl) ?_
  refine sb_lldv hx hb hG.1 hP 3 rfl 0 rfl (by omega) (by omega) (v := (pred ((pcar s0 s1 s2 s3 s4).1) ((pcar s0 s1 s2 s3 s4).2.1) ((pcar s0 s1 s2 s3 s4).2.2.1) ((pcar s0 s1 s2 s3 s4).2.2.2.1) ((pcar s0 s1 s2 s3 s4).2.2.2.2)).1) rfl d_P_finish_25 ?_
  refine lv_bipush (v := 6) hx hb d_P_finish_26 (by decide) ?_
  refine lv_iload hx hb d_P_finish_28 (lv_at hl 0 rfl) ?_
  refine lv_imul hx hb d_P_finish_30 ?_
  refine sb_topn 0 (sb_eqn (a := 6 * 0) (b := 0) (sb_mul (a := 6) (b := 0) rfl rfl) (by omega)) ?_
  refine lv_lushr (v := uL ((pred ((pcar s0 s1 s2 s3 s4).1) ((pcar s0 s1 s2 s3 s4).2.1) ((pcar s0 s1 s2 s3 s4).2.2.1) ((pcar s0 s1 s2 s3 s4).2.2.2.1) ((pcar s0 s1 s2 s3 s4).2.2.2.2)).1) (nI 0)) hx hb d_P_finish_31 rfl ?_
  refine lv_aload_n hx hb d_P_finish_32 rfl (lv_at hl 2 rfl) ?_
  refine va_get (D := D) (ci := 4) (v := .ref q3) (C := R_P) (T := F_P) (N := 5) hx hb hts in_P hown hG.1 hP 2 rfl rfl 2 (by decide) (hts _ k_174) (fun _ h9 => h9) rfl d_P_finish_33 ?_
  refine lv_iload hx hb d_P_finish_36 (lv_at hl 0 rfl) ?_
  refine lv_iconst (v := 1) hx hb d_P_finish_38 (by decide) ?_
  refine lv_iadd hx hb d_P_finish_39 ?_
  refine sb_topn 1 (sb_eqn (a := 0 + 1) (b := 1) (nI_add 0 1) (by omega)) ?_
  refine sb_lldv hx hb hG.1 hP 3 rfl 1 rfl (by omega) (by omega) (v := (pred ((pcar s0 s1 s2 s3 s4).1) ((pcar s0 s1 s2 s3 s4).2.1) ((pcar s0 s1 s2 s3 s4).2.2.1) ((pcar s0 s1 s2 s3 s4).2.2.2.1) ((pcar s0 s1 s2 s3 s4).2.2.2.2)).2.1) rfl d_P_finish_40 ?_
  refine lv_bipush (v := 26) hx hb d_P_finish_41 (by decide) ?_
  refine lv_bipush (v := 6) hx hb d_P_finish_43 (by decide) ?_
  refine lv_iload hx hb d_P_finish_45 (lv_at hl 0 rfl) ?_
  refine lv_imul hx hb d_P_finish_47 ?_
  refine sb_topn 0 (sb_eqn (a := 6 * 0) (b := 0) (sb_mul (a := 6) (b := 0) rfl rfl) (by omega)) ?_
  refine lv_isub hx hb d_P_finish_48 ?_
  refine sb_topn 26 (sb_eqn (a := 26 - 0) (b := 26) (sb_sub (a := 26) (b := 0) (by omega) rfl rfl) (by omega)) ?_
  refine lv_lshl (v := sL ((pred ((pcar s0 s1 s2 s3 s4).1) ((pcar s0 s1 s2 s3 s4).2.1) ((pcar s0 s1 s2 s3 s4).2.2.1) ((pcar s0 s1 s2 s3 s4).2.2.2.1) ((pcar s0 s1 s2 s3 s4).2.2.2.2)).2.1) (nI 26)) hx hb d_P_finish_49 rfl ?_
  refine lv_lor hx hb d_P_finish_50 ?_
  refine lv_ldc2 (v := 4294967295) hx hb hown (hts (.constantLong R_P 61 4294967295) (by decide +kernel)) d_P_finish_51 ?_
  refine lv_land hx hb d_P_finish_54 ?_
  refine lv_topl (fun x_4 ex_4 => ?_)
  refine lv_lstore (lv' := [(5, .long x_4), (4, .int 0), (2, .long 0), (0, .ref h), (1, .ref q6)]) hx hb d_P_finish_55 hl (by decide) rfl (fun ls hl => ?_)
  refine lv_lload_n hx hb d_P_finish_57 rfl (lv_at hl 2 rfl) ?_
  refine lv_lload hx hb d_P_finish_58 (lv_at hl 0 rfl) ?_
  refine lv_aload_n hx hb d_P_finish_60 rfl (lv_at hl 3 rfl) ?_
  refine va_get (D := D) (ci := 4) (v := .ref q5) (C := R_P) (T := F_P) (N := 5) hx hb hts in_P hown hG.1 hP 2 rfl rfl 4 (by decide) (hts _ k_176) (fun _ h9 => h9) rfl d_P_finish_61 ?_
  refine lv_iload hx hb d_P_finish_64 (lv_at hl 1 rfl) ?_
  refine sb_ildv hx hb hG.1 hP 0 rfl 0 rfl (by omega) (by omega) (v := g0) rfl d_P_finish_66 ?_
  refine lv_i2l (v := g0.toInt64) hx hb d_P_finish_67 rfl ?_
  refine lv_ldc2 (v := 4294967295) hx hb hown (hts (.constantLong R_P 61 4294967295) (by decide +kernel)) d_P_finish_68 ?_
  refine lv_land hx hb d_P_finish_71 ?_
  refine lv_ladd hx hb d_P_finish_72 ?_
  refine lv_ladd hx hb d_P_finish_73 ?_
  refine lv_topl (fun x_5 ex_5 => ?_)
  refine lv_lstore_n (lv' := [(2, .long x_5), (5, .long x_4), (4, .int 0), (0, .ref h), (1, .ref q6)]) hx hb d_P_finish_74 rfl hl (by decide) rfl (fun ls hl => ?_)
  refine lv_aload_n hx hb d_P_finish_75 rfl (lv_at hl 4 rfl) ?_
  refine lv_iload hx hb d_P_finish_76 (lv_at hl 2 rfl) ?_
  refine lv_lload_n hx hb d_P_finish_78 rfl (lv_at hl 0 rfl) ?_
  refine lv_l2i (v := x_5.toInt32) hx hb d_P_finish_79 rfl ?_
  refine vp_callSi (va_runSN (As := [.int x_5.toInt32]) (rest := [.int 0, .ref q6]) ⟨hx, hb, hml, hown, hts⟩ (c_X_swapped l D cI cL cB tS tF x_5.toInt32 ) ⟨va_cnB 1 hts (sb_g k_434) rfl rfl rfl (va_Nw.of rfl (hG.nest (args := args) _ n_549)) (hts _ k_22) (by decide +kernel) ⟨Nat.le_of_ble_eq_true rfl, Nat.le_of_ble_eq_true rfl⟩, hts _ k_433, trivial⟩ (sb_rS hG hP hS [] rfl) rfl rfl hl.1 rfl (lv_room (Nat.le_of_ble_eq_true rfl)) d_P_finish_80 ⟨Nat.le_of_ble_eq_true rfl, Nat.le_of_ble_eq_true rfl⟩).run (fun r_6 er_6 => ?_)
  subst er_6
  refine lv_topi (fun x_7 ex_7 => ?_)
  refine sb_ist hx hb hG.1 hP hD hS 1 rfl 0 rfl (by omega) (by omega) d_P_finish_83 (fun f_8 H locs ef_8 hP hD hS => ?_)
  have hP : va_P D vwCl [(q5, .inl (cI, 4, .inl (i4 g0 g1 g2 g3))), (q6, .inl (cI, 4, .inl f_8)), (h, .inr (4, [.ref q1, .ref q2, .ref q3, .ref q4, .ref q5])), (q3, .inl (cL, 5, .inr (.inl (l5 ((pred ((pcar s0 s1 s2 s3 s4).1) ((pcar s0 s1 s2 s3 s4).2.1) ((pcar s0 s1 s2 s3 s4).2.2.1) ((pcar s0 s1 s2 s3 s4).2.2.2.1) ((pcar s0 s1 s2 s3 s4).2.2.2.2)).1) ((pred ((pcar s0 s1 s2 s3 s4).1) ((pcar s0 s1 s2 s3 s4).2.1) ((pcar s0 s1 s2 s3 s4).2.2.1) ((pcar s0 s1 s2 s3 s4).2.2.2.1) ((pcar s0 s1 s2 s3 s4).2.2.2.2)).2.1) ((pred ((pcar s0 s1 s2 s3 s4).1) ((pcar s0 s1 s2 s3 s4).2.1) ((pcar s0 s1 s2 s3 s4).2.2.1) ((pcar s0 s1 s2 s3 s4).2.2.2.1) ((pcar s0 s1 s2 s3 s4).2.2.2.2)).2.2.1) ((pred ((pcar s0 s1 s2 s3 s4).1) ((pcar s0 s1 s2 s3 s4).2.1) ((pcar s0 s1 s2 s3 s4).2.2.1) ((pcar s0 s1 s2 s3 s4).2.2.2.1) ((pcar s0 s1 s2 s3 s4).2.2.2.2)).2.2.2.1) ((pred ((pcar s0 s1 s2 s3 s4).1) ((pcar s0 s1 s2 s3 s4).2.1) ((pcar s0 s1 s2 s3 s4).2.2.1) ((pcar s0 s1 s2 s3 s4).2.2.2.1) ((pcar s0 s1 s2 s3 s4).2.2.2.2)).2.2.2.2))))), (q4, .inl (cL, 5, .inr (.inl (l5 ((pred1 ((pcar s0 s1 s2 s3 s4).1) ((pcar s0 s1 s2 s3 s4).2.1) ((pcar s0 s1 s2 s3 s4).2.2.1) ((pcar s0 s1 s2 s3 s4).2.2.2.1) ((pcar s0 s1 s2 s3 s4).2.2.2.2)).1) ((pred1 ((pcar s0 s1 s2 s3 s4).1) ((pcar s0 s1 s2 s3 s4).2.1) ((pcar s0 s1 s2 s3 s4).2.2.1) ((pcar s0 s1 s2 s3 s4).2.2.2.1) ((pcar s0 s1 s2 s3 s4).2.2.2.2)).2.1) ((pred1 ((pcar s0 s1 s2 s3 s4).1) ((pcar s0 s1 s2 s3 s4).2.1) ((pcar s0 s1 s2 s3 s4).2.2.1) ((pcar s0 s1 s2 s3 s4).2.2.2.1) ((pcar s0 s1 s2 s3 s4).2.2.2.2)).2.2.1) ((pred1 ((pcar s0 s1 s2 s3 s4).1) ((pcar s0 s1 s2 s3 s4).2.1) ((pcar s0 s1 s2 s3 s4).2.2.1) ((pcar s0 s1 s2 s3 s4).2.2.2.1) ((pcar s0 s1 s2 s3 s4).2.2.2.2)).2.2.2.1) ((pred1 ((pcar s0 s1 s2 s3 s4).1) ((pcar s0 s1 s2 s3 s4).2.1) ((pcar s0 s1 s2 s3 s4).2.2.1) ((pcar s0 s1 s2 s3 s4).2.2.2.1) ((pcar s0 s1 s2 s3 s4).2.2.2.2)).2.2.2.2)))))] H := hP
  have hD : va_D A [(q5, .inl (cI, 4, .inl (i4 g0 g1 g2 g3))), (q6, .inl (cI, 4, .inl f_8)), (h, .inr (4, [.ref q1, .ref q2, .ref q3, .ref q4, .ref q5])), (q3, .inl (cL, 5, .inr (.inl (l5 ((pred ((pcar s0 s1 s2 s3 s4).1) ((pcar s0 s1 s2 s3 s4).2.1) ((pcar s0 s1 s2 s3 s4).2.2.1) ((pcar s0 s1 s2 s3 s4).2.2.2.1) ((pcar s0 s1 s2 s3 s4).2.2.2.2)).1) ((pred ((pcar s0 s1 s2 s3 s4).1) ((pcar s0 s1 s2 s3 s4).2.1) ((pcar s0 s1 s2 s3 s4).2.2.1) ((pcar s0 s1 s2 s3 s4).2.2.2.1) ((pcar s0 s1 s2 s3 s4).2.2.2.2)).2.1) ((pred ((pcar s0 s1 s2 s3 s4).1) ((pcar s0 s1 s2 s3 s4).2.1) ((pcar s0 s1 s2 s3 s4).2.2.1) ((pcar s0 s1 s2 s3 s4).2.2.2.1) ((pcar s0 s1 s2 s3 s4).2.2.2.2)).2.2.1) ((pred ((pcar s0 s1 s2 s3 s4).1) ((pcar s0 s1 s2 s3 s4).2.1) ((pcar s0 s1 s2 s3 s4).2.2.1) ((pcar s0 s1 s2 s3 s4).2.2.2.1) ((pcar s0 s1 s2 s3 s4).2.2.2.2)).2.2.2.1) ((pred ((pcar s0 s1 s2 s3 s4).1) ((pcar s0 s1 s2 s3 s4).2.1) ((pcar s0 s1 s2 s3 s4).2.2.1) ((pcar s0 s1 s2 s3 s4).2.2.2.1) ((pcar s0 s1 s2 s3 s4).2.2.2.2)).2.2.2.2))))), (q4, .inl (cL, 5, .inr (.inl (l5 ((pred1 ((pcar s0 s1 s2 s3 s4).1) ((pcar s0 s1 s2 s3 s4).2.1) ((pcar s0 s1 s2 s3 s4).2.2.1) ((pcar s0 s1 s2 s3 s4).2.2.2.1) ((pcar s0 s1 s2 s3 s4).2.2.2.2)).1) ((pred1 ((pcar s0 s1 s2 s3 s4).1) ((pcar s0 s1 s2 s3 s4).2.1) ((pcar s0 s1 s2 s3 s4).2.2.1) ((pcar s0 s1 s2 s3 s4).2.2.2.1) ((pcar s0 s1 s2 s3 s4).2.2.2.2)).2.1) ((pred1 ((pcar s0 s1 s2 s3 s4).1) ((pcar s0 s1 s2 s3 s4).2.1) ((pcar s0 s1 s2 s3 s4).2.2.1) ((pcar s0 s1 s2 s3 s4).2.2.2.1) ((pcar s0 s1 s2 s3 s4).2.2.2.2)).2.2.1) ((pred1 ((pcar s0 s1 s2 s3 s4).1) ((pcar s0 s1 s2 s3 s4).2.1) ((pcar s0 s1 s2 s3 s4).2.2.1) ((pcar s0 s1 s2 s3 s4).2.2.2.1) ((pcar s0 s1 s2 s3 s4).2.2.2.2)).2.2.2.1) ((pred1 ((pcar s0 s1 s2 s3 s4).1) ((pcar s0 s1 s2 s3 s4).2.1) ((pcar s0 s1 s2 s3 s4).2.2.1) ((pcar s0 s1 s2 s3 s4).2.2.2.1) ((pcar s0 s1 s2 s3 s4).2.2.2.2)).2.2.2.2)))))] := hD
  obtain rfl : f_8 = i4 x_7 z1 z2 z3 := ef_8.trans (i4_set0 ..)
  refine lv_lload_n hx hb d_P_finish_84 rfl (lv_at hl 0 rfl) ?_
  refine lv_bipush (v := 32) hx hb d_P_finish_85 (by decide) ?_
  refine lv_lushr (v := uL x_5 32) hx hb d_P_finish_87 rfl ?_
  refine lv_topl (fun x_9 ex_9 => ?_)
  refine lv_lstore_n (lv' := [(2, .long x_9), (5, .long x_4), (4, .int 0), (0, .ref h), (1, .ref q6)]) hx hb d_P_finish_88 rfl hl (by decide) rfl (fun ls hl => ?_)
  refine lv_iinc (v := nI 1) (lv' := [(4, .int (nI 1)), (2, .long x_9), (5, .long x_4), (0, .ref h), (1, .ref q6)]) hx hb d_P_finish_89 hl (k := 2) rfl (sb_inc (a := 0) (b := 1) (d := 1) rfl (by decide) (by omega)) (by decide) rfl (fun ls hl => ?_)
  refine lv_goto (tgt := 13) hx hb d_P_finish_92 (by decide) ?_
  refine lv_iload hx hb d_P_finish_13 (lv_at hl 0 rfl) ?_
  refine lv_iconst (v := 4) hx hb d_P_finish_15 (by decide) ?_
  refine lv_icmp_ge (tgt := 95) hx hb d_P_finish_16 (by decide) (fun c_10 => absurd c_10 (sb_geF (a := 1) (b := 4) rfl rfl (by omega) (by omega) (by omega))) (fun c_10 => ?_)
  refine lv_aload_n hx hb d_P_finish_19 rfl (lv_at hl 3 rfl) ?_
  refine va_get (D := D) (ci := 4) (v := .ref q3) (C := R_P) (T := F_P) (N := 5) hx hb hts in_P hown hG.1 hP 2 rfl rfl 2 (by decide) (hts _ k_174) (fun _ h9 => h9) rfl d_P_finish_20 ?_
  refine lv_iload hx hb d_P_finish_23 (lv_at hl 0 rfl) ?_
  refine sb_lldv hx hb hG.1 hP 3 rfl 1 rfl (by omega) (by omega) (v := (pred ((pcar s0 s1 s2 s3 s4).1) ((pcar s0 s1 s2 s3 s4).2.1) ((pcar s0 s1 s2 s3 s4).2.2.1) ((pcar s0 s1 s2 s3 s4).2.2.2.1) ((pcar s0 s1 s2 s3 s4).2.2.2.2)).2.1) rfl d_P_finish_25 ?_
  refine lv_bipush (v := 6) hx hb d_P_finish_26 (by decide) ?_
  refine lv_iload hx hb d_P_finish_28 (lv_at hl 0 rfl) ?_
  refine lv_imul hx hb d_P_finish_30 ?_
  refine sb_topn 6 (sb_eqn (a := 6 * 1) (b := 6) (sb_mul (a := 6) (b := 1) rfl rfl) (by omega)) ?_
  refine lv_lushr (v := uL ((pred ((pcar s0 s1 s2 s3 s4).1) ((pcar s0 s1 s2 s3 s4).2.1) ((pcar s0 s1 s2 s3 s4).2.2.1) ((pcar s0 s1 s2 s3 s4).2.2.2.1) ((pcar s0 s1 s2 s3 s4).2.2.2.2)).2.1) (nI 6)) hx hb d_P_finish_31 rfl ?_
  refine lv_aload_n hx hb d_P_finish_32 rfl (lv_at hl 3 rfl) ?_
  refine va_get (D := D) (ci := 4) (v := .ref q3) (C := R_P) (T := F_P) (N := 5) hx hb hts in_P hown hG.1 hP 2 rfl rfl 2 (by decide) (hts _ k_174) (fun _ h9 => h9) rfl d_P_finish_33 ?_
  refine lv_iload hx hb d_P_finish_36 (lv_at hl 0 rfl) ?_
  refine lv_iconst (v := 1) hx hb d_P_finish_38 (by decide) ?_
  refine lv_iadd hx hb d_P_finish_39 ?_
  refine sb_topn 2 (sb_eqn (a := 1 + 1) (b := 2) (nI_add 1 1) (by omega)) ?_
  refine sb_lldv hx hb hG.1 hP 3 rfl 2 rfl (by omega) (by omega) (v := (pred ((pcar s0 s1 s2 s3 s4).1) ((pcar s0 s1 s2 s3 s4).2.1) ((pcar s0 s1 s2 s3 s4).2.2.1) ((pcar s0 s1 s2 s3 s4).2.2.2.1) ((pcar s0 s1 s2 s3 s4).2.2.2.2)).2.2.1) rfl d_P_finish_40 ?_
  refine lv_bipush (v := 26) hx hb d_P_finish_41 (by decide) ?_
  refine lv_bipush (v := 6) hx hb d_P_finish_43 (by decide) ?_
  refine lv_iload hx hb d_P_finish_45 (lv_at hl 0 rfl) ?_
  refine lv_imul hx hb d_P_finish_47 ?_
  refine sb_topn 6 (sb_eqn (a := 6 * 1) (b := 6) (sb_mul (a := 6) (b := 1) rfl rfl) (by omega)) ?_
  refine lv_isub hx hb d_P_finish_48 ?_
  refine sb_topn 20 (sb_eqn (a := 26 - 6) (b := 20) (sb_sub (a := 26) (b := 6) (by omega) rfl rfl) (by omega)) ?_
  refine lv_lshl (v := sL ((pred ((pcar s0 s1 s2 s3 s4).1) ((pcar s0 s1 s2 s3 s4).2.1) ((pcar s0 s1 s2 s3 s4).2.2.1) ((pcar s0 s1 s2 s3 s4).2.2.2.1) ((pcar s0 s1 s2 s3 s4).2.2.2.2)).2.2.1) (nI 20)) hx hb d_P_finish_49 rfl ?_
  refine lv_lor hx hb d_P_finish_50 ?_
  refine lv_ldc2 (v := 4294967295) hx hb hown (hts (.constantLong R_P 61 4294967295) (by decide +kernel)) d_P_finish_51 ?_
  refine lv_land hx hb d_P_finish_54 ?_
  refine lv_topl (fun x_11 ex_11 => ?_)
  refine lv_lstore (lv' := [(5, .long x_11), (4, .int (nI 1)), (2, .long x_9), (0, .ref h), (1, .ref q6)]) hx hb d_P_finish_55 hl (by decide) rfl (fun ls hl => ?_)
  refine lv_lload_n hx hb d_P_finish_57 rfl (lv_at hl 2 rfl) ?_
  refine lv_lload hx hb d_P_finish_58 (lv_at hl 0 rfl) ?_
  refine lv_aload_n hx hb d_P_finish_60 rfl (lv_at hl 3 rfl) ?_
  refine va_get (D := D) (ci := 4) (v := .ref q5) (C := R_P) (T := F_P) (N := 5) hx hb hts in_P hown hG.1 hP 2 rfl rfl 4 (by decide) (hts _ k_176) (fun _ h9 => h9) rfl d_P_finish_61 ?_
  refine lv_iload hx hb d_P_finish_64 (lv_at hl 1 rfl) ?_
  refine sb_ildv hx hb hG.1 hP 0 rfl 1 rfl (by omega) (by omega) (v := g1) rfl d_P_finish_66 ?_
  refine lv_i2l (v := g1.toInt64) hx hb d_P_finish_67 rfl ?_
  refine lv_ldc2 (v := 4294967295) hx hb hown (hts (.constantLong R_P 61 4294967295) (by decide +kernel)) d_P_finish_68 ?_
  refine lv_land hx hb d_P_finish_71 ?_
  refine lv_ladd hx hb d_P_finish_72 ?_
  refine lv_ladd hx hb d_P_finish_73 ?_
  refine lv_topl (fun x_12 ex_12 => ?_)
  refine lv_lstore_n (lv' := [(2, .long x_12), (5, .long x_11), (4, .int (nI 1)), (0, .ref h), (1, .ref q6)]) hx hb d_P_finish_74 rfl hl (by decide) rfl (fun ls hl => ?_)
  refine lv_aload_n hx hb d_P_finish_75 rfl (lv_at hl 4 rfl) ?_
  refine lv_iload hx hb d_P_finish_76 (lv_at hl 2 rfl) ?_
  refine lv_lload_n hx hb d_P_finish_78 rfl (lv_at hl 0 rfl) ?_
  refine lv_l2i (v := x_12.toInt32) hx hb d_P_finish_79 rfl ?_
  refine vp_callSi (va_runSN (As := [.int x_12.toInt32]) (rest := [.int (nI 1), .ref q6]) ⟨hx, hb, hml, hown, hts⟩ (c_X_swapped l D cI cL cB tS tF x_12.toInt32 ) ⟨va_cnB 1 hts (sb_g k_434) rfl rfl rfl (va_Nw.of rfl (hG.nest (args := args) _ n_549)) (hts _ k_22) (by decide +kernel) ⟨Nat.le_of_ble_eq_true rfl, Nat.le_of_ble_eq_true rfl⟩, hts _ k_433, trivial⟩ (sb_rS hG hP hS [] rfl) rfl rfl hl.1 rfl (lv_room (Nat.le_of_ble_eq_true rfl)) d_P_finish_80 ⟨Nat.le_of_ble_eq_true rfl, Nat.le_of_ble_eq_true rfl⟩).run (fun r_13 er_13 => ?_)
  subst er_13
  refine lv_topi (fun x_14 ex_14 => ?_)
  refine sb_ist hx hb hG.1 hP hD hS 1 rfl 1 rfl (by omega) (by omega) d_P_finish_83 (fun f_15 H locs ef_15 hP hD hS => ?_)
  have hP : va_P D vwCl [(q5, .inl (cI, 4, .inl (i4 g0 g1 g2 g3))), (q6, .inl (cI, 4, .inl f_15)), (h, .inr (4, [.ref q1, .ref q2, .ref q3, .ref q4, .ref q5])), (q3, .inl (cL, 5, .inr (.inl (l5 ((pred ((pcar s0 s1 s2 s3 s4).1) ((pcar s0 s1 s2 s3 s4).2.1) ((pcar s0 s1 s2 s3 s4).2.2.1) ((pcar s0 s1 s2 s3 s4).2.2.2.1) ((pcar s0 s1 s2 s3 s4).2.2.2.2)).1) ((pred ((pcar s0 s1 s2 s3 s4).1) ((pcar s0 s1 s2 s3 s4).2.1) ((pcar s0 s1 s2 s3 s4).2.2.1) ((pcar s0 s1 s2 s3 s4).2.2.2.1) ((pcar s0 s1 s2 s3 s4).2.2.2.2)).2.1) ((pred ((pcar s0 s1 s2 s3 s4).1) ((pcar s0 s1 s2 s3 s4).2.1) ((pcar s0 s1 s2 s3 s4).2.2.1) ((pcar s0 s1 s2 s3 s4).2.2.2.1) ((pcar s0 s1 s2 s3 s4).2.2.2.2)).2.2.1) ((pred ((pcar s0 s1 s2 s3 s4).1) ((pcar s0 s1 s2 s3 s4).2.1) ((pcar s0 s1 s2 s3 s4).2.2.1) ((pcar s0 s1 s2 s3 s4).2.2.2.1) ((pcar s0 s1 s2 s3 s4).2.2.2.2)).2.2.2.1) ((pred ((pcar s0 s1 s2 s3 s4).1) ((pcar s0 s1 s2 s3 s4).2.1) ((pcar s0 s1 s2 s3 s4).2.2.1) ((pcar s0 s1 s2 s3 s4).2.2.2.1) ((pcar s0 s1 s2 s3 s4).2.2.2.2)).2.2.2.2))))), (q4, .inl (cL, 5, .inr (.inl (l5 ((pred1 ((pcar s0 s1 s2 s3 s4).1) ((pcar s0 s1 s2 s3 s4).2.1) ((pcar s0 s1 s2 s3 s4).2.2.1) ((pcar s0 s1 s2 s3 s4).2.2.2.1) ((pcar s0 s1 s2 s3 s4).2.2.2.2)).1) ((pred1 ((pcar s0 s1 s2 s3 s4).1) ((pcar s0 s1 s2 s3 s4).2.1) ((pcar s0 s1 s2 s3 s4).2.2.1) ((pcar s0 s1 s2 s3 s4).2.2.2.1) ((pcar s0 s1 s2 s3 s4).2.2.2.2)).2.1) ((pred1 ((pcar s0 s1 s2 s3 s4).1) ((pcar s0 s1 s2 s3 s4).2.1) ((pcar s0 s1 s2 s3 s4).2.2.1) ((pcar s0 s1 s2 s3 s4).2.2.2.1) ((pcar s0 s1 s2 s3 s4).2.2.2.2)).2.2.1) ((pred1 ((pcar s0 s1 s2 s3 s4).1) ((pcar s0 s1 s2 s3 s4).2.1) ((pcar s0 s1 s2 s3 s4).2.2.1) ((pcar s0 s1 s2 s3 s4).2.2.2.1) ((pcar s0 s1 s2 s3 s4).2.2.2.2)).2.2.2.1) ((pred1 ((pcar s0 s1 s2 s3 s4).1) ((pcar s0 s1 s2 s3 s4).2.1) ((pcar s0 s1 s2 s3 s4).2.2.1) ((pcar s0 s1 s2 s3 s4).2.2.2.1) ((pcar s0 s1 s2 s3 s4).2.2.2.2)).2.2.2.2)))))] H := hP
  have hD : va_D A [(q5, .inl (cI, 4, .inl (i4 g0 g1 g2 g3))), (q6, .inl (cI, 4, .inl f_15)), (h, .inr (4, [.ref q1, .ref q2, .ref q3, .ref q4, .ref q5])), (q3, .inl (cL, 5, .inr (.inl (l5 ((pred ((pcar s0 s1 s2 s3 s4).1) ((pcar s0 s1 s2 s3 s4).2.1) ((pcar s0 s1 s2 s3 s4).2.2.1) ((pcar s0 s1 s2 s3 s4).2.2.2.1) ((pcar s0 s1 s2 s3 s4).2.2.2.2)).1) ((pred ((pcar s0 s1 s2 s3 s4).1) ((pcar s0 s1 s2 s3 s4).2.1) ((pcar s0 s1 s2 s3 s4).2.2.1) ((pcar s0 s1 s2 s3 s4).2.2.2.1) ((pcar s0 s1 s2 s3 s4).2.2.2.2)).2.1) ((pred ((pcar s0 s1 s2 s3 s4).1) ((pcar s0 s1 s2 s3 s4).2.1) ((pcar s0 s1 s2 s3 s4).2.2.1) ((pcar s0 s1 s2 s3 s4).2.2.2.1) ((pcar s0 s1 s2 s3 s4).2.2.2.2)).2.2.1) ((pred ((pcar s0 s1 s2 s3 s4).1) ((pcar s0 s1 s2 s3 s4).2.1) ((pcar s0 s1 s2 s3 s4).2.2.1) ((pcar s0 s1 s2 s3 s4).2.2.2.1) ((pcar s0 s1 s2 s3 s4).2.2.2.2)).2.2.2.1) ((pred ((pcar s0 s1 s2 s3 s4).1) ((pcar s0 s1 s2 s3 s4).2.1) ((pcar s0 s1 s2 s3 s4).2.2.1) ((pcar s0 s1 s2 s3 s4).2.2.2.1) ((pcar s0 s1 s2 s3 s4).2.2.2.2)).2.2.2.2))))), (q4, .inl (cL, 5, .inr (.inl (l5 ((pred1 ((pcar s0 s1 s2 s3 s4).1) ((pcar s0 s1 s2 s3 s4).2.1) ((pcar s0 s1 s2 s3 s4).2.2.1) ((pcar s0 s1 s2 s3 s4).2.2.2.1) ((pcar s0 s1 s2 s3 s4).2.2.2.2)).1) ((pred1 ((pcar s0 s1 s2 s3 s4).1) ((pcar s0 s1 s2 s3 s4).2.1) ((pcar s0 s1 s2 s3 s4).2.2.1) ((pcar s0 s1 s2 s3 s4).2.2.2.1) ((pcar s0 s1 s2 s3 s4).2.2.2.2)).2.1) ((pred1 ((pcar s0 s1 s2 s3 s4).1) ((pcar s0 s1 s2 s3 s4).2.1) ((pcar s0 s1 s2 s3 s4).2.2.1) ((pcar s0 s1 s2 s3 s4).2.2.2.1) ((pcar s0 s1 s2 s3 s4).2.2.2.2)).2.2.1) ((pred1 ((pcar s0 s1 s2 s3 s4).1) ((pcar s0 s1 s2 s3 s4).2.1) ((pcar s0 s1 s2 s3 s4).2.2.1) ((pcar s0 s1 s2 s3 s4).2.2.2.1) ((pcar s0 s1 s2 s3 s4).2.2.2.2)).2.2.2.1) ((pred1 ((pcar s0 s1 s2 s3 s4).1) ((pcar s0 s1 s2 s3 s4).2.1) ((pcar s0 s1 s2 s3 s4).2.2.1) ((pcar s0 s1 s2 s3 s4).2.2.2.1) ((pcar s0 s1 s2 s3 s4).2.2.2.2)).2.2.2.2)))))] := hD
  obtain rfl : f_15 = i4 x_7 x_14 z2 z3 := ef_15.trans (i4_set1 ..)
  refine lv_lload_n hx hb d_P_finish_84 rfl (lv_at hl 0 rfl) ?_
  refine lv_bipush (v := 32) hx hb d_P_finish_85 (by decide) ?_
  refine lv_lushr (v := uL x_12 32) hx hb d_P_finish_87 rfl ?_
  refine lv_topl (fun x_16 ex_16 => ?_)
  refine lv_lstore_n (lv' := [(2, .long x_16), (5, .long x_11), (4, .int (nI 1)), (0, .ref h), (1, .ref q6)]) hx hb d_P_finish_88 rfl hl (by decide) rfl (fun ls hl => ?_)
  refine lv_iinc (v := nI 2) (lv' := [(4, .int (nI 2)), (2, .long x_16), (5, .long x_11), (0, .ref h), (1, .ref q6)]) hx hb d_P_finish_89 hl (k := 2) rfl (sb_inc (a := 1) (b := 2) (d := 1) rfl (by decide) (by omega)) (by decide) rfl (fun ls hl => ?_)
  refine lv_goto (tgt := 13) hx hb d_P_finish_92 (by decide) ?_
  refine lv_iload hx hb d_P_finish_13 (lv_at hl 0 rfl) ?_
  refine lv_iconst (v := 4) hx hb d_P_finish_15 (by decide) ?_
  refine lv_icmp_ge (tgt := 95) hx hb d_P_finish_16 (by decide) (fun c_17 => absurd c_17 (sb_geF (a := 2) (b := 4) rfl rfl (by omega) (by omega) (by omega))) (fun c_17 => ?_)
  refine lv_aload_n hx hb d_P_finish_19 rfl (lv_at hl 3 rfl) ?_
  refine va_get (D := D) (ci := 4) (v := .ref q3) (C := R_P) (T := F_P) (N := 5) hx hb hts in_P hown hG.1 hP 2 rfl rfl 2 (by decide) (hts _ k_174) (fun _ h9 => h9) rfl d_P_finish_20 ?_
  refine lv_iload hx hb d_P_finish_23 (lv_at hl 0 rfl) ?_
  refine sb_lldv hx hb hG.1 hP 3 rfl 2 rfl (by omega) (by omega) (v := (pred ((pcar s0 s1 s2 s3 s4).1) ((pcar s0 s1 s2 s3 s4).2.1) ((pcar s0 s1 s2 s3 s4).2.2.1) ((pcar s0 s1 s2 s3 s4).2.2.2.1) ((pcar s0 s1 s2 s3 s4).2.2.2.2)).2.2.1) rfl d_P_finish_25 ?_
  refine lv_bipush (v := 6) hx hb d_P_finish_26 (by decide) ?_
  refine lv_iload hx hb d_P_finish_28 (lv_at hl 0 rfl) ?_
  refine lv_imul hx hb d_P_finish_30 ?_
  refine sb_topn 12 (sb_eqn (a := 6 * 2) (b := 12) (sb_mul (a := 6) (b := 2) rfl rfl) (by omega)) ?_
  refine lv_lushr (v := uL ((pred ((pcar s0 s1 s2 s3 s4).1) ((pcar s0 s1 s2 s3 s4).2.1) ((pcar s0 s1 s2 s3 s4).2.2.1) ((pcar s0 s1 s2 s3 s4).2.2.2.1) ((pcar s0 s1 s2 s3 s4).2.2.2.2)).2.2.1) (nI 12)) hx hb d_P_finish_31 rfl ?_
  refine lv_aload_n hx hb d_P_finish_32 rfl (lv_at hl 3 rfl) ?_
  refine va_get (D := D) (ci := 4) (v := .ref q3) (C := R_P) (T := F_P) (N := 5) hx hb hts in_P hown hG.1 hP 2 rfl rfl 2 (by decide) (hts _ k_174) (fun _ h9 => h9) rfl d_P_finish_33 ?_
  refine lv_iload hx hb d_P_finish_36 (lv_at hl 0 rfl) ?_
  refine lv_iconst (v := 1) hx hb d_P_finish_38 (by decide) ?_
  refine lv_iadd hx hb d_P_finish_39 ?_
  refine sb_topn 3 (sb_eqn (a := 2 + 1) (b := 3) (nI_add 2 1) (by omega)) ?_
  refine sb_lldv hx hb hG.1 hP 3 rfl 3 rfl (by omega) (by omega) (v := (pred ((pcar s0 s1 s2 s3 s4).1) ((pcar s0 s1 s2 s3 s4).2.1) ((pcar s0 s1 s2 s3 s4).2.2.1) ((pcar s0 s1 s2 s3 s4).2.2.2.1) ((pcar s0 s1 s2 s3 s4).2.2.2.2)).2.2.2.1) rfl d_P_finish_40 ?_
  refine lv_bipush (v := 26) hx hb d_P_finish_41 (by decide) ?_
  refine lv_bipush (v := 6) hx hb d_P_finish_43 (by decide) ?_
  refine lv_iload hx hb d_P_finish_45 (lv_at hl 0 rfl) ?_
  refine lv_imul hx hb d_P_finish_47 ?_
  refine sb_topn 12 (sb_eqn (a := 6 * 2) (b := 12) (sb_mul (a := 6) (b := 2) rfl rfl) (by omega)) ?_
  refine lv_isub hx hb d_P_finish_48 ?_
  refine sb_topn 14 (sb_eqn (a := 26 - 12) (b := 14) (sb_sub (a := 26) (b := 12) (by omega) rfl rfl) (by omega)) ?_
  refine lv_lshl (v := sL ((pred ((pcar s0 s1 s2 s3 s4).1) ((pcar s0 s1 s2 s3 s4).2.1) ((pcar s0 s1 s2 s3 s4).2.2.1) ((pcar s0 s1 s2 s3 s4).2.2.2.1) ((pcar s0 s1 s2 s3 s4).2.2.2.2)).2.2.2.1) (nI 14)) hx hb d_P_finish_49 rfl ?_
  refine lv_lor hx hb d_P_finish_50 ?_
  refine lv_ldc2 (v := 4294967295) hx hb hown (hts (.constantLong R_P 61 4294967295) (by decide +kernel)) d_P_finish_51 ?_
  refine lv_land hx hb d_P_finish_54 ?_
  refine lv_topl (fun x_18 ex_18 => ?_)
  refine lv_lstore (lv' := [(5, .long x_18), (4, .int (nI 2)), (2, .long x_16), (0, .ref h), (1, .ref q6)]) hx hb d_P_finish_55 hl (by decide) rfl (fun ls hl => ?_)
  refine lv_lload_n hx hb d_P_finish_57 rfl (lv_at hl 2 rfl) ?_
  refine lv_lload hx hb d_P_finish_58 (lv_at hl 0 rfl) ?_
  refine lv_aload_n hx hb d_P_finish_60 rfl (lv_at hl 3 rfl) ?_
  refine va_get (D := D) (ci := 4) (v := .ref q5) (C := R_P) (T := F_P) (N := 5) hx hb hts in_P hown hG.1 hP 2 rfl rfl 4 (by decide) (hts _ k_176) (fun _ h9 => h9) rfl d_P_finish_61 ?_
  refine lv_iload hx hb d_P_finish_64 (lv_at hl 1 rfl) ?_
  refine sb_ildv hx hb hG.1 hP 0 rfl 2 rfl (by omega) (by omega) (v := g2) rfl d_P_finish_66 ?_
  refine lv_i2l (v := g2.toInt64) hx hb d_P_finish_67 rfl ?_
  refine lv_ldc2 (v := 4294967295) hx hb hown (hts (.constantLong R_P 61 4294967295) (by decide +kernel)) d_P_finish_68 ?_
  refine lv_land hx hb d_P_finish_71 ?_
  refine lv_ladd hx hb d_P_finish_72 ?_
  refine lv_ladd hx hb d_P_finish_73 ?_
  refine lv_topl (fun x_19 ex_19 => ?_)
  refine lv_lstore_n (lv' := [(2, .long x_19), (5, .long x_18), (4, .int (nI 2)), (0, .ref h), (1, .ref q6)]) hx hb d_P_finish_74 rfl hl (by decide) rfl (fun ls hl => ?_)
  refine lv_aload_n hx hb d_P_finish_75 rfl (lv_at hl 4 rfl) ?_
  refine lv_iload hx hb d_P_finish_76 (lv_at hl 2 rfl) ?_
  refine lv_lload_n hx hb d_P_finish_78 rfl (lv_at hl 0 rfl) ?_
  refine lv_l2i (v := x_19.toInt32) hx hb d_P_finish_79 rfl ?_
  refine vp_callSi (va_runSN (As := [.int x_19.toInt32]) (rest := [.int (nI 2), .ref q6]) ⟨hx, hb, hml, hown, hts⟩ (c_X_swapped l D cI cL cB tS tF x_19.toInt32 ) ⟨va_cnB 1 hts (sb_g k_434) rfl rfl rfl (va_Nw.of rfl (hG.nest (args := args) _ n_549)) (hts _ k_22) (by decide +kernel) ⟨Nat.le_of_ble_eq_true rfl, Nat.le_of_ble_eq_true rfl⟩, hts _ k_433, trivial⟩ (sb_rS hG hP hS [] rfl) rfl rfl hl.1 rfl (lv_room (Nat.le_of_ble_eq_true rfl)) d_P_finish_80 ⟨Nat.le_of_ble_eq_true rfl, Nat.le_of_ble_eq_true rfl⟩).run (fun r_20 er_20 => ?_)
  subst er_20
  refine lv_topi (fun x_21 ex_21 => ?_)
  refine sb_ist hx hb hG.1 hP hD hS 1 rfl 2 rfl (by omega) (by omega) d_P_finish_83 (fun f_22 H locs ef_22 hP hD hS => ?_)
  have hP : va_P D vwCl [(q5, .inl (cI, 4, .inl (i4 g0 g1 g2 g3))), (q6, .inl (cI, 4, .inl f_22)), (h, .inr (4, [.ref q1, .ref q2, .ref q3, .ref q4, .ref q5])), (q3, .inl (cL, 5, .inr (.inl (l5 ((pred ((pcar s0 s1 s2 s3 s4).1) ((pcar s0 s1 s2 s3 s4).2.1) ((pcar s0 s1 s2 s3 s4).2.2.1) ((pcar s0 s1 s2 s3 s4).2.2.2.1) ((pcar s0 s1 s2 s3 s4).2.2.2.2)).1) ((pred ((pcar s0 s1 s2 s3 s4).1) ((pcar s0 s1 s2 s3 s4).2.1) ((pcar s0 s1 s2 s3 s4).2.2.1) ((pcar s0 s1 s2 s3 s4).2.2.2.1) ((pcar s0 s1 s2 s3 s4).2.2.2.2)).2.1) ((pred ((pcar s0 s1 s2 s3 s4).1) ((pcar s0 s1 s2 s3 s4).2.1) ((pcar s0 s1 s2 s3 s4).2.2.1) ((pcar s0 s1 s2 s3 s4).2.2.2.1) ((pcar s0 s1 s2 s3 s4).2.2.2.2)).2.2.1) ((pred ((pcar s0 s1 s2 s3 s4).1) ((pcar s0 s1 s2 s3 s4).2.1) ((pcar s0 s1 s2 s3 s4).2.2.1) ((pcar s0 s1 s2 s3 s4).2.2.2.1) ((pcar s0 s1 s2 s3 s4).2.2.2.2)).2.2.2.1) ((pred ((pcar s0 s1 s2 s3 s4).1) ((pcar s0 s1 s2 s3 s4).2.1) ((pcar s0 s1 s2 s3 s4).2.2.1) ((pcar s0 s1 s2 s3 s4).2.2.2.1) ((pcar s0 s1 s2 s3 s4).2.2.2.2)).2.2.2.2))))), (q4, .inl (cL, 5, .inr (.inl (l5 ((pred1 ((pcar s0 s1 s2 s3 s4).1) ((pcar s0 s1 s2 s3 s4).2.1) ((pcar s0 s1 s2 s3 s4).2.2.1) ((pcar s0 s1 s2 s3 s4).2.2.2.1) ((pcar s0 s1 s2 s3 s4).2.2.2.2)).1) ((pred1 ((pcar s0 s1 s2 s3 s4).1) ((pcar s0 s1 s2 s3 s4).2.1) ((pcar s0 s1 s2 s3 s4).2.2.1) ((pcar s0 s1 s2 s3 s4).2.2.2.1) ((pcar s0 s1 s2 s3 s4).2.2.2.2)).2.1) ((pred1 ((pcar s0 s1 s2 s3 s4).1) ((pcar s0 s1 s2 s3 s4).2.1) ((pcar s0 s1 s2 s3 s4).2.2.1) ((pcar s0 s1 s2 s3 s4).2.2.2.1) ((pcar s0 s1 s2 s3 s4).2.2.2.2)).2.2.1) ((pred1 ((pcar s0 s1 s2 s3 s4).1) ((pcar s0 s1 s2 s3 s4).2.1) ((pcar s0 s1 s2 s3 s4).2.2.1) ((pcar s0 s1 s2 s3 s4).2.2.2.1) ((pcar s0 s1 s2 s3 s4).2.2.2.2)).2.2.2.1) ((pred1 ((pcar s0 s1 s2 s3 s4).1) ((pcar s0 s1 s2 s3 s4).2.1) ((pcar s0 s1 s2 s3 s4).2.2.1) ((pcar s0 s1 s2 s3 s4).2.2.2.1) ((pcar s0 s1 s2 s3 s4).2.2.2.2)).2.2.2.2)))))] H := hP
  have hD : va_D A [(q5, .inl (cI, 4, .inl (i4 g0 g1 g2 g3))), (q6, .inl (cI, 4, .inl f_22)), (h, .inr (4, [.ref q1, .ref q2, .ref q3, .ref q4, .ref q5])), (q3, .inl (cL, 5, .inr (.inl (l5 ((pred ((pcar s0 s1 s2 s3 s4).1) ((pcar s0 s1 s2 s3 s4).2.1) ((pcar s0 s1 s2 s3 s4).2.2.1) ((pcar s0 s1 s2 s3 s4).2.2.2.1) ((pcar s0 s1 s2 s3 s4).2.2.2.2)).1) ((pred ((pcar s0 s1 s2 s3 s4).1) ((pcar s0 s1 s2 s3 s4).2.1) ((pcar s0 s1 s2 s3 s4).2.2.1) ((pcar s0 s1 s2 s3 s4).2.2.2.1) ((pcar s0 s1 s2 s3 s4).2.2.2.2)).2.1) ((pred ((pcar s0 s1 s2 s3 s4).1) ((pcar s0 s1 s2 s3 s4).2.1) ((pcar s0 s1 s2 s3 s4).2.2.1) ((pcar s0 s1 s2 s3 s4).2.2.2.1) ((pcar s0 s1 s2 s3 s4).2.2.2.2)).2.2.1) ((pred ((pcar s0 s1 s2 s3 s4).1) ((pcar s0 s1 s2 s3 s4).2.1) ((pcar s0 s1 s2 s3 s4).2.2.1) ((pcar s0 s1 s2 s3 s4).2.2.2.1) ((pcar s0 s1 s2 s3 s4).2.2.2.2)).2.2.2.1) ((pred ((pcar s0 s1 s2 s3 s4).1) ((pcar s0 s1 s2 s3 s4).2.1) ((pcar s0 s1 s2 s3 s4).2.2.1) ((pcar s0 s1 s2 s3 s4).2.2.2.1) ((pcar s0 s1 s2 s3 s4).2.2.2.2)).2.2.2.2))))), (q4, .inl (cL, 5, .inr (.inl (l5 ((pred1 ((pcar s0 s1 s2 s3 s4).1) ((pcar s0 s1 s2 s3 s4).2.1) ((pcar s0 s1 s2 s3 s4).2.2.1) ((pcar s0 s1 s2 s3 s4).2.2.2.1) ((pcar s0 s1 s2 s3 s4).2.2.2.2)).1) ((pred1 ((pcar s0 s1 s2 s3 s4).1) ((pcar s0 s1 s2 s3 s4).2.1) ((pcar s0 s1 s2 s3 s4).2.2.1) ((pcar s0 s1 s2 s3 s4).2.2.2.1) ((pcar s0 s1 s2 s3 s4).2.2.2.2)).2.1) ((pred1 ((pcar s0 s1 s2 s3 s4).1) ((pcar s0 s1 s2 s3 s4).2.1) ((pcar s0 s1 s2 s3 s4).2.2.1) ((pcar s0 s1 s2 s3 s4).2.2.2.1) ((pcar s0 s1 s2 s3 s4).2.2.2.2)).2.2.1) ((pred1 ((pcar s0 s1 s2 s3 s4).1) ((pcar s0 s1 s2 s3 s4).2.1) ((pcar s0 s1 s2 s3 s4).2.2.1) ((pcar s0 s1 s2 s3 s4).2.2.2.1) ((pcar s0 s1 s2 s3 s4).2.2.2.2)).2.2.2.1) ((pred1 ((pcar s0 s1 s2 s3 s4).1) ((pcar s0 s1 s2 s3 s4).2.1) ((pcar s0 s1 s2 s3 s4).2.2.1) ((pcar s0 s1 s2 s3 s4).2.2.2.1) ((pcar s0 s1 s2 s3 s4).2.2.2.2)).2.2.2.2)))))] := hD
  obtain rfl : f_22 = i4 x_7 x_14 x_21 z3 := ef_22.trans (i4_set2 ..)
  refine lv_lload_n hx hb d_P_finish_84 rfl (lv_at hl 0 rfl) ?_
  refine lv_bipush (v := 32) hx hb d_P_finish_85 (by decide) ?_
  refine lv_lushr (v := uL x_19 32) hx hb d_P_finish_87 rfl ?_
  refine lv_topl (fun x_23 ex_23 => ?_)
  refine lv_lstore_n (lv' := [(2, .long x_23), (5, .long x_18), (4, .int (nI 2)), (0, .ref h), (1, .ref q6)]) hx hb d_P_finish_88 rfl hl (by decide) rfl (fun ls hl => ?_)
  refine lv_iinc (v := nI 3) (lv' := [(4, .int (nI 3)), (2, .long x_23), (5, .long x_18), (0, .ref h), (1, .ref q6)]) hx hb d_P_finish_89 hl (k := 2) rfl (sb_inc (a := 2) (b := 3) (d := 1) rfl (by decide) (by omega)) (by decide) rfl (fun ls hl => ?_)
  refine lv_goto (tgt := 13) hx hb d_P_finish_92 (by decide) ?_
  refine lv_iload hx hb d_P_finish_13 (lv_at hl 0 rfl) ?_
  refine lv_iconst (v := 4) hx hb d_P_finish_15 (by decide) ?_
  refine lv_icmp_ge (tgt := 95) hx hb d_P_finish_16 (by decide) (fun c_24 => absurd c_24 (sb_geF (a := 3) (b := 4) rfl rfl (by omega) (by omega) (by omega))) (fun c_24 => ?_)
  refine lv_aload_n hx hb d_P_finish_19 rfl (lv_at hl 3 rfl) ?_
  refine va_get (D := D) (ci := 4) (v := .ref q3) (C := R_P) (T := F_P) (N := 5) hx hb hts in_P hown hG.1 hP 2 rfl rfl 2 (by decide) (hts _ k_174) (fun _ h9 => h9) rfl d_P_finish_20 ?_
  refine lv_iload hx hb d_P_finish_23 (lv_at hl 0 rfl) ?_
  refine sb_lldv hx hb hG.1 hP 3 rfl 3 rfl (by omega) (by omega) (v := (pred ((pcar s0 s1 s2 s3 s4).1) ((pcar s0 s1 s2 s3 s4).2.1) ((pcar s0 s1 s2 s3 s4).2.2.1) ((pcar s0 s1 s2 s3 s4).2.2.2.1) ((pcar s0 s1 s2 s3 s4).2.2.2.2)).2.2.2.1) rfl d_P_finish_25 ?_
  refine lv_bipush (v := 6) hx hb d_P_finish_26 (by decide) ?_
  refine lv_iload hx hb d_P_finish_28 (lv_at hl 0 rfl) ?_
  refine lv_imul hx hb d_P_finish_30 ?_
  refine sb_topn 18 (sb_eqn (a := 6 * 3) (b := 18) (sb_mul (a := 6) (b := 3) rfl rfl) (by omega)) ?_
  refine lv_lushr (v := uL ((pred ((pcar s0 s1 s2 s3 s4).1) ((pcar s0 s1 s2 s3 s4).2.1) ((pcar s0 s1 s2 s3 s4).2.2.1) ((pcar s0 s1 s2 s3 s4).2.2.2.1) ((pcar s0 s1 s2 s3 s4).2.2.2.2)).2.2.2.1) (nI 18)) hx hb d_P_finish_31 rfl ?_
  refine lv_aload_n hx hb d_P_finish_32 rfl (lv_at hl 3 rfl) ?_
  refine va_get (D := D) (ci := 4) (v := .ref q3) (C := R_P) (T := F_P) (N := 5) hx hb hts in_P hown hG.1 hP 2 rfl rfl 2 (by decide) (hts _ k_174) (fun _ h9 => h9) rfl d_P_finish_33 ?_
  refine lv_iload hx hb d_P_finish_36 (lv_at hl 0 rfl) ?_
  refine lv_iconst (v := 1) hx hb d_P_finish_38 (by decide) ?_
  refine lv_iadd hx hb d_P_finish_39 ?_
  refine sb_topn 4 (sb_eqn (a := 3 + 1) (b := 4) (nI_add 3 1) (by omega)) ?_
  refine sb_lldv hx hb hG.1 hP 3 rfl 4 rfl (by omega) (by omega) (v := (pred ((pcar s0 s1 s2 s3 s4).1) ((pcar s0 s1 s2 s3 s4).2.1) ((pcar s0 s1 s2 s3 s4).2.2.1) ((pcar s0 s1 s2 s3 s4).2.2.2.1) ((pcar s0 s1 s2 s3 s4).2.2.2.2)).2.2.2.2) rfl d_P_finish_40 ?_
  refine lv_bipush (v := 26) hx hb d_P_finish_41 (by decide) ?_
  refine lv_bipush (v := 6) hx hb d_P_finish_43 (by decide) ?_
  refine lv_iload hx hb d_P_finish_45 (lv_at hl 0 rfl) ?_
  refine lv_imul hx hb d_P_finish_47 ?_
  refine sb_topn 18 (sb_eqn (a := 6 * 3) (b := 18) (sb_mul (a := 6) (b := 3) rfl rfl) (by omega)) ?_
  refine lv_isub hx hb d_P_finish_48 ?_
  refine sb_topn 8 (sb_eqn (a := 26 - 18) (b := 8) (sb_sub (a := 26) (b := 18) (by omega) rfl rfl) (by omega)) ?_
  refine lv_lshl (v := sL ((pred ((pcar s0 s1 s2 s3 s4).1) ((pcar s0 s1 s2 s3 s4).2.1) ((pcar s0 s1 s2 s3 s4).2.2.1) ((pcar s0 s1 s2 s3 s4).2.2.2.1) ((pcar s0 s1 s2 s3 s4).2.2.2.2)).2.2.2.2) (nI 8)) hx hb d_P_finish_49 rfl ?_
  refine lv_lor hx hb d_P_finish_50 ?_
  refine lv_ldc2 (v := 4294967295) hx hb hown (hts (.constantLong R_P 61 4294967295) (by decide +kernel)) d_P_finish_51 ?_
  refine lv_land hx hb d_P_finish_54 ?_
  refine lv_topl (fun x_25 ex_25 => ?_)
  refine lv_lstore (lv' := [(5, .long x_25), (4, .int (nI 3)), (2, .long x_23), (0, .ref h), (1, .ref q6)]) hx hb d_P_finish_55 hl (by decide) rfl (fun ls hl => ?_)
  refine lv_lload_n hx hb d_P_finish_57 rfl (lv_at hl 2 rfl) ?_
  refine lv_lload hx hb d_P_finish_58 (lv_at hl 0 rfl) ?_
  refine lv_aload_n hx hb d_P_finish_60 rfl (lv_at hl 3 rfl) ?_
  refine va_get (D := D) (ci := 4) (v := .ref q5) (C := R_P) (T := F_P) (N := 5) hx hb hts in_P hown hG.1 hP 2 rfl rfl 4 (by decide) (hts _ k_176) (fun _ h9 => h9) rfl d_P_finish_61 ?_
  refine lv_iload hx hb d_P_finish_64 (lv_at hl 1 rfl) ?_
  refine sb_ildv hx hb hG.1 hP 0 rfl 3 rfl (by omega) (by omega) (v := g3) rfl d_P_finish_66 ?_
  refine lv_i2l (v := g3.toInt64) hx hb d_P_finish_67 rfl ?_
  refine lv_ldc2 (v := 4294967295) hx hb hown (hts (.constantLong R_P 61 4294967295) (by decide +kernel)) d_P_finish_68 ?_
  refine lv_land hx hb d_P_finish_71 ?_
  refine lv_ladd hx hb d_P_finish_72 ?_
  refine lv_ladd hx hb d_P_finish_73 ?_
  refine lv_topl (fun x_26 ex_26 => ?_)
  refine lv_lstore_n (lv' := [(2, .long x_26), (5, .long x_25), (4, .int (nI 3)), (0, .ref h), (1, .ref q6)]) hx hb d_P_finish_74 rfl hl (by decide) rfl (fun ls hl => ?_)
  refine lv_aload_n hx hb d_P_finish_75 rfl (lv_at hl 4 rfl) ?_
  refine lv_iload hx hb d_P_finish_76 (lv_at hl 2 rfl) ?_
  refine lv_lload_n hx hb d_P_finish_78 rfl (lv_at hl 0 rfl) ?_
  refine lv_l2i (v := x_26.toInt32) hx hb d_P_finish_79 rfl ?_
  refine vp_callSi (va_runSN (As := [.int x_26.toInt32]) (rest := [.int (nI 3), .ref q6]) ⟨hx, hb, hml, hown, hts⟩ (c_X_swapped l D cI cL cB tS tF x_26.toInt32 ) ⟨va_cnB 1 hts (sb_g k_434) rfl rfl rfl (va_Nw.of rfl (hG.nest (args := args) _ n_549)) (hts _ k_22) (by decide +kernel) ⟨Nat.le_of_ble_eq_true rfl, Nat.le_of_ble_eq_true rfl⟩, hts _ k_433, trivial⟩ (sb_rS hG hP hS [] rfl) rfl rfl hl.1 rfl (lv_room (Nat.le_of_ble_eq_true rfl)) d_P_finish_80 ⟨Nat.le_of_ble_eq_true rfl, Nat.le_of_ble_eq_true rfl⟩).run (fun r_27 er_27 => ?_)
  subst er_27
  refine lv_topi (fun x_28 ex_28 => ?_)
  refine sb_ist hx hb hG.1 hP hD hS 1 rfl 3 rfl (by omega) (by omega) d_P_finish_83 (fun f_29 H locs ef_29 hP hD hS => ?_)
  have hP : va_P D vwCl [(q5, .inl (cI, 4, .inl (i4 g0 g1 g2 g3))), (q6, .inl (cI, 4, .inl f_29)), (h, .inr (4, [.ref q1, .ref q2, .ref q3, .ref q4, .ref q5])), (q3, .inl (cL, 5, .inr (.inl (l5 ((pred ((pcar s0 s1 s2 s3 s4).1) ((pcar s0 s1 s2 s3 s4).2.1) ((pcar s0 s1 s2 s3 s4).2.2.1) ((pcar s0 s1 s2 s3 s4).2.2.2.1) ((pcar s0 s1 s2 s3 s4).2.2.2.2)).1) ((pred ((pcar s0 s1 s2 s3 s4).1) ((pcar s0 s1 s2 s3 s4).2.1) ((pcar s0 s1 s2 s3 s4).2.2.1) ((pcar s0 s1 s2 s3 s4).2.2.2.1) ((pcar s0 s1 s2 s3 s4).2.2.2.2)).2.1) ((pred ((pcar s0 s1 s2 s3 s4).1) ((pcar s0 s1 s2 s3 s4).2.1) ((pcar s0 s1 s2 s3 s4).2.2.1) ((pcar s0 s1 s2 s3 s4).2.2.2.1) ((pcar s0 s1 s2 s3 s4).2.2.2.2)).2.2.1) ((pred ((pcar s0 s1 s2 s3 s4).1) ((pcar s0 s1 s2 s3 s4).2.1) ((pcar s0 s1 s2 s3 s4).2.2.1) ((pcar s0 s1 s2 s3 s4).2.2.2.1) ((pcar s0 s1 s2 s3 s4).2.2.2.2)).2.2.2.1) ((pred ((pcar s0 s1 s2 s3 s4).1) ((pcar s0 s1 s2 s3 s4).2.1) ((pcar s0 s1 s2 s3 s4).2.2.1) ((pcar s0 s1 s2 s3 s4).2.2.2.1) ((pcar s0 s1 s2 s3 s4).2.2.2.2)).2.2.2.2))))), (q4, .inl (cL, 5, .inr (.inl (l5 ((pred1 ((pcar s0 s1 s2 s3 s4).1) ((pcar s0 s1 s2 s3 s4).2.1) ((pcar s0 s1 s2 s3 s4).2.2.1) ((pcar s0 s1 s2 s3 s4).2.2.2.1) ((pcar s0 s1 s2 s3 s4).2.2.2.2)).1) ((pred1 ((pcar s0 s1 s2 s3 s4).1) ((pcar s0 s1 s2 s3 s4).2.1) ((pcar s0 s1 s2 s3 s4).2.2.1) ((pcar s0 s1 s2 s3 s4).2.2.2.1) ((pcar s0 s1 s2 s3 s4).2.2.2.2)).2.1) ((pred1 ((pcar s0 s1 s2 s3 s4).1) ((pcar s0 s1 s2 s3 s4).2.1) ((pcar s0 s1 s2 s3 s4).2.2.1) ((pcar s0 s1 s2 s3 s4).2.2.2.1) ((pcar s0 s1 s2 s3 s4).2.2.2.2)).2.2.1) ((pred1 ((pcar s0 s1 s2 s3 s4).1) ((pcar s0 s1 s2 s3 s4).2.1) ((pcar s0 s1 s2 s3 s4).2.2.1) ((pcar s0 s1 s2 s3 s4).2.2.2.1) ((pcar s0 s1 s2 s3 s4).2.2.2.2)).2.2.2.1) ((pred1 ((pcar s0 s1 s2 s3 s4).1) ((pcar s0 s1 s2 s3 s4).2.1) ((pcar s0 s1 s2 s3 s4).2.2.1) ((pcar s0 s1 s2 s3 s4).2.2.2.1) ((pcar s0 s1 s2 s3 s4).2.2.2.2)).2.2.2.2)))))] H := hP
  have hD : va_D A [(q5, .inl (cI, 4, .inl (i4 g0 g1 g2 g3))), (q6, .inl (cI, 4, .inl f_29)), (h, .inr (4, [.ref q1, .ref q2, .ref q3, .ref q4, .ref q5])), (q3, .inl (cL, 5, .inr (.inl (l5 ((pred ((pcar s0 s1 s2 s3 s4).1) ((pcar s0 s1 s2 s3 s4).2.1) ((pcar s0 s1 s2 s3 s4).2.2.1) ((pcar s0 s1 s2 s3 s4).2.2.2.1) ((pcar s0 s1 s2 s3 s4).2.2.2.2)).1) ((pred ((pcar s0 s1 s2 s3 s4).1) ((pcar s0 s1 s2 s3 s4).2.1) ((pcar s0 s1 s2 s3 s4).2.2.1) ((pcar s0 s1 s2 s3 s4).2.2.2.1) ((pcar s0 s1 s2 s3 s4).2.2.2.2)).2.1) ((pred ((pcar s0 s1 s2 s3 s4).1) ((pcar s0 s1 s2 s3 s4).2.1) ((pcar s0 s1 s2 s3 s4).2.2.1) ((pcar s0 s1 s2 s3 s4).2.2.2.1) ((pcar s0 s1 s2 s3 s4).2.2.2.2)).2.2.1) ((pred ((pcar s0 s1 s2 s3 s4).1) ((pcar s0 s1 s2 s3 s4).2.1) ((pcar s0 s1 s2 s3 s4).2.2.1) ((pcar s0 s1 s2 s3 s4).2.2.2.1) ((pcar s0 s1 s2 s3 s4).2.2.2.2)).2.2.2.1) ((pred ((pcar s0 s1 s2 s3 s4).1) ((pcar s0 s1 s2 s3 s4).2.1) ((pcar s0 s1 s2 s3 s4).2.2.1) ((pcar s0 s1 s2 s3 s4).2.2.2.1) ((pcar s0 s1 s2 s3 s4).2.2.2.2)).2.2.2.2))))), (q4, .inl (cL, 5, .inr (.inl (l5 ((pred1 ((pcar s0 s1 s2 s3 s4).1) ((pcar s0 s1 s2 s3 s4).2.1) ((pcar s0 s1 s2 s3 s4).2.2.1) ((pcar s0 s1 s2 s3 s4).2.2.2.1) ((pcar s0 s1 s2 s3 s4).2.2.2.2)).1) ((pred1 ((pcar s0 s1 s2 s3 s4).1) ((pcar s0 s1 s2 s3 s4).2.1) ((pcar s0 s1 s2 s3 s4).2.2.1) ((pcar s0 s1 s2 s3 s4).2.2.2.1) ((pcar s0 s1 s2 s3 s4).2.2.2.2)).2.1) ((pred1 ((pcar s0 s1 s2 s3 s4).1) ((pcar s0 s1 s2 s3 s4).2.1) ((pcar s0 s1 s2 s3 s4).2.2.1) ((pcar s0 s1 s2 s3 s4).2.2.2.1) ((pcar s0 s1 s2 s3 s4).2.2.2.2)).2.2.1) ((pred1 ((pcar s0 s1 s2 s3 s4).1) ((pcar s0 s1 s2 s3 s4).2.1) ((pcar s0 s1 s2 s3 s4).2.2.1) ((pcar s0 s1 s2 s3 s4).2.2.2.1) ((pcar s0 s1 s2 s3 s4).2.2.2.2)).2.2.2.1) ((pred1 ((pcar s0 s1 s2 s3 s4).1) ((pcar s0 s1 s2 s3 s4).2.1) ((pcar s0 s1 s2 s3 s4).2.2.1) ((pcar s0 s1 s2 s3 s4).2.2.2.1) ((pcar s0 s1 s2 s3 s4).2.2.2.2)).2.2.2.2)))))] := hD
  obtain rfl : f_29 = i4 x_7 x_14 x_21 x_28 := ef_29.trans (i4_set3 ..)
  refine lv_lload_n hx hb d_P_finish_84 rfl (lv_at hl 0 rfl) ?_
  refine lv_bipush (v := 32) hx hb d_P_finish_85 (by decide) ?_
  refine lv_lushr (v := uL x_26 32) hx hb d_P_finish_87 rfl ?_
  refine lv_topl (fun x_30 ex_30 => ?_)
  refine lv_lstore_n (lv' := [(2, .long x_30), (5, .long x_25), (4, .int (nI 3)), (0, .ref h), (1, .ref q6)]) hx hb d_P_finish_88 rfl hl (by decide) rfl (fun ls hl => ?_)
  refine lv_iinc (v := nI 4) (lv' := [(4, .int (nI 4)), (2, .long x_30), (5, .long x_25), (0, .ref h), (1, .ref q6)]) hx hb d_P_finish_89 hl (k := 2) rfl (sb_inc (a := 3) (b := 4) (d := 1) rfl (by decide) (by omega)) (by decide) rfl (fun ls hl => ?_)
  refine lv_goto (tgt := 13) hx hb d_P_finish_92 (by decide) ?_
  refine lv_iload hx hb d_P_finish_13 (lv_at hl 0 rfl) ?_
  refine lv_iconst (v := 4) hx hb d_P_finish_15 (by decide) ?_
  refine lv_icmp_ge (tgt := 95) hx hb d_P_finish_16 (by decide) (fun c_31 => ?_) (fun c_31 => absurd (sb_geT (a := 4) (b := 4) rfl rfl (by omega) (by omega) (by omega)) c_31)
  subst ex_28
  subst ex_26
  subst ex_25
  subst ex_23
  subst ex_21
  subst ex_19
  subst ex_18
  subst ex_16
  subst ex_14
  subst ex_12
  subst ex_11
  subst ex_9
  subst ex_7
  subst ex_5
  subst ex_4
  have hP9 := hP.sub (ws' := [(h, .inr (4, [.ref q1, .ref q2, .ref q3, .ref q4, .ref q5])), (q3, .inl (cL, 5, .inr (.inl (l5 ((pred ((pcar s0 s1 s2 s3 s4).1) ((pcar s0 s1 s2 s3 s4).2.1) ((pcar s0 s1 s2 s3 s4).2.2.1) ((pcar s0 s1 s2 s3 s4).2.2.2.1) ((pcar s0 s1 s2 s3 s4).2.2.2.2)).1) ((pred ((pcar s0 s1 s2 s3 s4).1) ((pcar s0 s1 s2 s3 s4).2.1) ((pcar s0 s1 s2 s3 s4).2.2.1) ((pcar s0 s1 s2 s3 s4).2.2.2.1) ((pcar s0 s1 s2 s3 s4).2.2.2.2)).2.1) ((pred ((pcar s0 s1 s2 s3 s4).1) ((pcar s0 s1 s2 s3 s4).2.1) ((pcar s0 s1 s2 s3 s4).2.2.1) ((pcar s0 s1 s2 s3 s4).2.2.2.1) ((pcar s0 s1 s2 s3 s4).2.2.2.2)).2.2.1) ((pred ((pcar s0 s1 s2 s3 s4).1) ((pcar s0 s1 s2 s3 s4).2.1) ((pcar s0 s1 s2 s3 s4).2.2.1) ((pcar s0 s1 s2 s3 s4).2.2.2.1) ((pcar s0 s1 s2 s3 s4).2.2.2.2)).2.2.2.1) ((pred ((pcar s0 s1 s2 s3 s4).1) ((pcar s0 s1 s2 s3 s4).2.1) ((pcar s0 s1 s2 s3 s4).2.2.1) ((pcar s0 s1 s2 s3 s4).2.2.2.1) ((pcar s0 s1 s2 s3 s4).2.2.2.2)).2.2.2.2))))), (q4, .inl (cL, 5, .inr (.inl (l5 ((pred1 ((pcar s0 s1 s2 s3 s4).1) ((pcar s0 s1 s2 s3 s4).2.1) ((pcar s0 s1 s2 s3 s4).2.2.1) ((pcar s0 s1 s2 s3 s4).2.2.2.1) ((pcar s0 s1 s2 s3 s4).2.2.2.2)).1) ((pred1 ((pcar s0 s1 s2 s3 s4).1) ((pcar s0 s1 s2 s3 s4).2.1) ((pcar s0 s1 s2 s3 s4).2.2.1) ((pcar s0 s1 s2 s3 s4).2.2.2.1) ((pcar s0 s1 s2 s3 s4).2.2.2.2)).2.1) ((pred1 ((pcar s0 s1 s2 s3 s4).1) ((pcar s0 s1 s2 s3 s4).2.1) ((pcar s0 s1 s2 s3 s4).2.2.1) ((pcar s0 s1 s2 s3 s4).2.2.2.1) ((pcar s0 s1 s2 s3 s4).2.2.2.2)).2.2.1) ((pred1 ((pcar s0 s1 s2 s3 s4).1) ((pcar s0 s1 s2 s3 s4).2.1) ((pcar s0 s1 s2 s3 s4).2.2.1) ((pcar s0 s1 s2 s3 s4).2.2.2.1) ((pcar s0 s1 s2 s3 s4).2.2.2.2)).2.2.2.1) ((pred1 ((pcar s0 s1 s2 s3 s4).1) ((pcar s0 s1 s2 s3 s4).2.1) ((pcar s0 s1 s2 s3 s4).2.2.1) ((pcar s0 s1 s2 s3 s4).2.2.2.1) ((pcar s0 s1 s2 s3 s4).2.2.2.2)).2.2.2.2))))), (q5, .inl (cI, 4, .inl (i4 g0 g1 g2 g3))), (q6, .inl (cI, 4, .inl (i4 (swpI (0 + ((((uL ((pred ((pcar s0 s1 s2 s3 s4).1) ((pcar s0 s1 s2 s3 s4).2.1) ((pcar s0 s1 s2 s3 s4).2.2.1) ((pcar s0 s1 s2 s3 s4).2.2.2.1) ((pcar s0 s1 s2 s3 s4).2.2.2.2)).1) (nI 0)) ||| (sL ((pred ((pcar s0 s1 s2 s3 s4).1) ((pcar s0 s1 s2 s3 s4).2.1) ((pcar s0 s1 s2 s3 s4).2.2.1) ((pcar s0 s1 s2 s3 s4).2.2.2.1) ((pcar s0 s1 s2 s3 s4).2.2.2.2)).2.1) (nI 26))) &&& 4294967295) + (g0.toInt64 &&& 4294967295))).toInt32) (swpI ((uL (0 + ((((uL ((pred ((pcar s0 s1 s2 s3 s4).1) ((pcar s0 s1 s2 s3 s4).2.1) ((pcar s0 s1 s2 s3 s4).2.2.1) ((pcar s0 s1 s2 s3 s4).2.2.2.1) ((pcar s0 s1 s2 s3 s4).2.2.2.2)).1) (nI 0)) ||| (sL ((pred ((pcar s0 s1 s2 s3 s4).1) ((pcar s0 s1 s2 s3 s4).2.1) ((pcar s0 s1 s2 s3 s4).2.2.1) ((pcar s0 s1 s2 s3 s4).2.2.2.1) ((pcar s0 s1 s2 s3 s4).2.2.2.2)).2.1) (nI 26))) &&& 4294967295) + (g0.toInt64 &&& 4294967295))) 32) + ((((uL ((pred ((pcar s0 s1 s2 s3 s4).1) ((pcar s0 s1 s2 s3 s4).2.1) ((pcar s0 s1 s2 s3 s4).2.2.1) ((pcar s0 s1 s2 s3 s4).2.2.2.1) ((pcar s0 s1 s2 s3 s4).2.2.2.2)).2.1) (nI 6)) ||| (sL ((pred ((pcar s0 s1 s2 s3 s4).1) ((pcar s0 s1 s2 s3 s4).2.1) ((pcar s0 s1 s2 s3 s4).2.2.1) ((pcar s0 s1 s2 s3 s4).2.2.2.1) ((pcar s0 s1 s2 s3 s4).2.2.2.2)).2.2.1) (nI 20))) &&& 4294967295) + (g1.toInt64 &&& 4294967295))).toInt32) (swpI ((uL ((uL (0 + ((((uL ((pred ((pcar s0 s1 s2 s3 s4).1) ((pcar s0 s1 s2 s3 s4).2.1) ((pcar s0 s1 s2 s3 s4).2.2.1) ((pcar s0 s1 s2 s3 s4).2.2.2.1) ((pcar s0 s1 s2 s3 s4).2.2.2.2)).1) (nI 0)) ||| (sL ((pred ((pcar s0 s1 s2 s3 s4).1) ((pcar s0 s1 s2 s3 s4).2.1) ((pcar s0 s1 s2 s3 s4).2.2.1) ((pcar s0 s1 s2 s3 s4).2.2.2.1) ((pcar s0 s1 s2 s3 s4).2.2.2.2)).2.1) (nI 26))) &&& 4294967295) + (g0.toInt64 &&& 4294967295))) 32) + ((((uL ((pred ((pcar s0 s1 s2 s3 s4).1) ((pcar s0 s1 s2 s3 s4).2.1) ((pcar s0 s1 s2 s3 s4).2.2.1) ((pcar s0 s1 s2 s3 s4).2.2.2.1) ((pcar s0 s1 s2 s3 s4).2.2.2.2)).2.1) (nI 6)) ||| (sL ((pred ((pcar s0 s1 s2 s3 s4).1) ((pcar s0 s1 s2 s3 s4).2.1) ((pcar s0 s1 s2 s3 s4).2.2.1) ((pcar s0 s1 s2 s3 s4).2.2.2.1) ((pcar s0 s1 s2 s3 s4).2.2.2.2)).2.2.1) (nI 20))) &&& 4294967295) + (g1.toInt64 &&& 4294967295))) 32) + ((((uL ((pred ((pcar s0 s1 s2 s3 s4).1) ((pcar s0 s1 s2 s3 s4).2.1) ((pcar s0 s1 s2 s3 s4).2.2.1) ((pcar s0 s1 s2 s3 s4).2.2.2.1) ((pcar s0 s1 s2 s3 s4).2.2.2.2)).2.2.1) (nI 12)) ||| (sL ((pred ((pcar s0 s1 s2 s3 s4).1) ((pcar s0 s1 s2 s3 s4).2.1) ((pcar s0 s1 s2 s3 s4).2.2.1) ((pcar s0 s1 s2 s3 s4).2.2.2.1) ((pcar s0 s1 s2 s3 s4).2.2.2.2)).2.2.2.1) (nI 14))) &&& 4294967295) + (g2.toInt64 &&& 4294967295))).toInt32) (swpI ((uL ((uL ((uL (0 + ((((uL ((pred ((pcar s0 s1 s2 s3 s4).1) ((pcar s0 s1 s2 s3 s4).2.1) ((pcar s0 s1 s2 s3 s4).2.2.1) ((pcar s0 s1 s2 s3 s4).2.2.2.1) ((pcar s0 s1 s2 s3 s4).2.2.2.2)).1) (nI 0)) ||| (sL ((pred ((pcar s0 s1 s2 s3 s4).1) ((pcar s0 s1 s2 s3 s4).2.1) ((pcar s0 s1 s2 s3 s4).2.2.1) ((pcar s0 s1 s2 s3 s4).2.2.2.1) ((pcar s0 s1 s2 s3 s4).2.2.2.2)).2.1) (nI 26))) &&& 4294967295) + (g0.toInt64 &&& 4294967295))) 32) + ((((uL ((pred ((pcar s0 s1 s2 s3 s4).1) ((pcar s0 s1 s2 s3 s4).2.1) ((pcar s0 s1 s2 s3 s4).2.2.1) ((pcar s0 s1 s2 s3 s4).2.2.2.1) ((pcar s0 s1 s2 s3 s4).2.2.2.2)).2.1) (nI 6)) ||| (sL ((pred ((pcar s0 s1 s2 s3 s4).1) ((pcar s0 s1 s2 s3 s4).2.1) ((pcar s0 s1 s2 s3 s4).2.2.1) ((pcar s0 s1 s2 s3 s4).2.2.2.1) ((pcar s0 s1 s2 s3 s4).2.2.2.2)).2.2.1) (nI 20))) &&& 4294967295) + (g1.toInt64 &&& 4294967295))) 32) + ((((uL ((pred ((pcar s0 s1 s2 s3 s4).1) ((pcar s0 s1 s2 s3 s4).2.1) ((pcar s0 s1 s2 s3 s4).2.2.1) ((pcar s0 s1 s2 s3 s4).2.2.2.1) ((pcar s0 s1 s2 s3 s4).2.2.2.2)).2.2.1) (nI 12)) ||| (sL ((pred ((pcar s0 s1 s2 s3 s4).1) ((pcar s0 s1 s2 s3 s4).2.1) ((pcar s0 s1 s2 s3 s4).2.2.1) ((pcar s0 s1 s2 s3 s4).2.2.2.1) ((pcar s0 s1 s2 s3 s4).2.2.2.2)).2.2.2.1) (nI 14))) &&& 4294967295) + (g2.toInt64 &&& 4294967295))) 32) + ((((uL ((pred ((pcar s0 s1 s2 s3 s4).1) ((pcar s0 s1 s2 s3 s4).2.1) ((pcar s0 s1 s2 s3 s4).2.2.1) ((pcar s0 s1 s2 s3 s4).2.2.2.1) ((pcar s0 s1 s2 s3 s4).2.2.2.2)).2.2.2.1) (nI 18)) ||| (sL ((pred ((pcar s0 s1 s2 s3 s4).1) ((pcar s0 s1 s2 s3 s4).2.1) ((pcar s0 s1 s2 s3 s4).2.2.1) ((pcar s0 s1 s2 s3 s4).2.2.2.1) ((pcar s0 s1 s2 s3 s4).2.2.2.2)).2.2.2.2) (nI 8))) &&& 4294967295) + (g3.toInt64 &&& 4294967295))).toInt32))))]) [2, 3, 4, 0, 1] rfl
  have hD9 := hD.sub (ws' := [(h, .inr (4, [.ref q1, .ref q2, .ref q3, .ref q4, .ref q5])), (q3, .inl (cL, 5, .inr (.inl (l5 ((pred ((pcar s0 s1 s2 s3 s4).1) ((pcar s0 s1 s2 s3 s4).2.1) ((pcar s0 s1 s2 s3 s4).2.2.1) ((pcar s0 s1 s2 s3 s4).2.2.2.1) ((pcar s0 s1 s2 s3 s4).2.2.2.2)).1) ((pred ((pcar s0 s1 s2 s3 s4).1) ((pcar s0 s1 s2 s3 s4).2.1) ((pcar s0 s1 s2 s3 s4).2.2.1) ((pcar s0 s1 s2 s3 s4).2.2.2.1) ((pcar s0 s1 s2 s3 s4).2.2.2.2)).2.1) ((pred ((pcar s0 s1 s2 s3 s4).1) ((pcar s0 s1 s2 s3 s4).2.1) ((pcar s0 s1 s2 s3 s4).2.2.1) ((pcar s0 s1 s2 s3 s4).2.2.2.1) ((pcar s0 s1 s2 s3 s4).2.2.2.2)).2.2.1) ((pred ((pcar s0 s1 s2 s3 s4).1) ((pcar s0 s1 s2 s3 s4).2.1) ((pcar s0 s1 s2 s3 s4).2.2.1) ((pcar s0 s1 s2 s3 s4).2.2.2.1) ((pcar s0 s1 s2 s3 s4).2.2.2.2)).2.2.2.1) ((pred ((pcar s0 s1 s2 s3 s4).1) ((pcar s0 s1 s2 s3 s4).2.1) ((pcar s0 s1 s2 s3 s4).2.2.1) ((pcar s0 s1 s2 s3 s4).2.2.2.1) ((pcar s0 s1 s2 s3 s4).2.2.2.2)).2.2.2.2))))), (q4, .inl (cL, 5, .inr (.inl (l5 ((pred1 ((pcar s0 s1 s2 s3 s4).1) ((pcar s0 s1 s2 s3 s4).2.1) ((pcar s0 s1 s2 s3 s4).2.2.1) ((pcar s0 s1 s2 s3 s4).2.2.2.1) ((pcar s0 s1 s2 s3 s4).2.2.2.2)).1) ((pred1 ((pcar s0 s1 s2 s3 s4).1) ((pcar s0 s1 s2 s3 s4).2.1) ((pcar s0 s1 s2 s3 s4).2.2.1) ((pcar s0 s1 s2 s3 s4).2.2.2.1) ((pcar s0 s1 s2 s3 s4).2.2.2.2)).2.1) ((pred1 ((pcar s0 s1 s2 s3 s4).1) ((pcar s0 s1 s2 s3 s4).2.1) ((pcar s0 s1 s2 s3 s4).2.2.1) ((pcar s0 s1 s2 s3 s4).2.2.2.1) ((pcar s0 s1 s2 s3 s4).2.2.2.2)).2.2.1) ((pred1 ((pcar s0 s1 s2 s3 s4).1) ((pcar s0 s1 s2 s3 s4).2.1) ((pcar s0 s1 s2 s3 s4).2.2.1) ((pcar s0 s1 s2 s3 s4).2.2.2.1) ((pcar s0 s1 s2 s3 s4).2.2.2.2)).2.2.2.1) ((pred1 ((pcar s0 s1 s2 s3 s4).1) ((pcar s0 s1 s2 s3 s4).2.1) ((pcar s0 s1 s2 s3 s4).2.2.1) ((pcar s0 s1 s2 s3 s4).2.2.2.1) ((pcar s0 s1 s2 s3 s4).2.2.2.2)).2.2.2.2))))), (q5, .inl (cI, 4, .inl (i4 g0 g1 g2 g3))), (q6, .inl (cI, 4, .inl (i4 (swpI (0 + ((((uL ((pred ((pcar s0 s1 s2 s3 s4).1) ((pcar s0 s1 s2 s3 s4).2.1) ((pcar s0 s1 s2 s3 s4).2.2.1) ((pcar s0 s1 s2 s3 s4).2.2.2.1) ((pcar s0 s1 s2 s3 s4).2.2.2.2)).1) (nI 0)) ||| (sL ((pred ((pcar s0 s1 s2 s3 s4).1) ((pcar s0 s1 s2 s3 s4).2.1) ((pcar s0 s1 s2 s3 s4).2.2.1) ((pcar s0 s1 s2 s3 s4).2.2.2.1) ((pcar s0 s1 s2 s3 s4).2.2.2.2)).2.1) (nI 26))) &&& 4294967295) + (g0.toInt64 &&& 4294967295))).toInt32) (swpI ((uL (0 + ((((uL ((pred ((pcar s0 s1 s2 s3 s4).1) ((pcar s0 s1 s2 s3 s4).2.1) ((pcar s0 s1 s2 s3 s4).2.2.1) ((pcar s0 s1 s2 s3 s4).2.2.2.1) ((pcar s0 s1 s2 s3 s4).2.2.2.2)).1) (nI 0)) ||| (sL ((pred ((pcar s0 s1 s2 s3 s4).1) ((pcar s0 s1 s2 s3 s4).2.1) ((pcar s0 s1 s2 s3 s4).2.2.1) ((pcar s0 s1 s2 s3 s4).2.2.2.1) ((pcar s0 s1 s2 s3 s4).2.2.2.2)).2.1) (nI 26))) &&& 4294967295) + (g0.toInt64 &&& 4294967295))) 32) + ((((uL ((pred ((pcar s0 s1 s2 s3 s4).1) ((pcar s0 s1 s2 s3 s4).2.1) ((pcar s0 s1 s2 s3 s4).2.2.1) ((pcar s0 s1 s2 s3 s4).2.2.2.1) ((pcar s0 s1 s2 s3 s4).2.2.2.2)).2.1) (nI 6)) ||| (sL ((pred ((pcar s0 s1 s2 s3 s4).1) ((pcar s0 s1 s2 s3 s4).2.1) ((pcar s0 s1 s2 s3 s4).2.2.1) ((pcar s0 s1 s2 s3 s4).2.2.2.1) ((pcar s0 s1 s2 s3 s4).2.2.2.2)).2.2.1) (nI 20))) &&& 4294967295) + (g1.toInt64 &&& 4294967295))).toInt32) (swpI ((uL ((uL (0 + ((((uL ((pred ((pcar s0 s1 s2 s3 s4).1) ((pcar s0 s1 s2 s3 s4).2.1) ((pcar s0 s1 s2 s3 s4).2.2.1) ((pcar s0 s1 s2 s3 s4).2.2.2.1) ((pcar s0 s1 s2 s3 s4).2.2.2.2)).1) (nI 0)) ||| (sL ((pred ((pcar s0 s1 s2 s3 s4).1) ((pcar s0 s1 s2 s3 s4).2.1) ((pcar s0 s1 s2 s3 s4).2.2.1) ((pcar s0 s1 s2 s3 s4).2.2.2.1) ((pcar s0 s1 s2 s3 s4).2.2.2.2)).2.1) (nI 26))) &&& 4294967295) + (g0.toInt64 &&& 4294967295))) 32) + ((((uL ((pred ((pcar s0 s1 s2 s3 s4).1) ((pcar s0 s1 s2 s3 s4).2.1) ((pcar s0 s1 s2 s3 s4).2.2.1) ((pcar s0 s1 s2 s3 s4).2.2.2.1) ((pcar s0 s1 s2 s3 s4).2.2.2.2)).2.1) (nI 6)) ||| (sL ((pred ((pcar s0 s1 s2 s3 s4).1) ((pcar s0 s1 s2 s3 s4).2.1) ((pcar s0 s1 s2 s3 s4).2.2.1) ((pcar s0 s1 s2 s3 s4).2.2.2.1) ((pcar s0 s1 s2 s3 s4).2.2.2.2)).2.2.1) (nI 20))) &&& 4294967295) + (g1.toInt64 &&& 4294967295))) 32) + ((((uL ((pred ((pcar s0 s1 s2 s3 s4).1) ((pcar s0 s1 s2 s3 s4).2.1) ((pcar s0 s1 s2 s3 s4).2.2.1) ((pcar s0 s1 s2 s3 s4).2.2.2.1) ((pcar s0 s1 s2 s3 s4).2.2.2.2)).2.2.1) (nI 12)) ||| (sL ((pred ((pcar s0 s1 s2 s3 s4).1) ((pcar s0 s1 s2 s3 s4).2.1) ((pcar s0 s1 s2 s3 s4).2.2.1) ((pcar s0 s1 s2 s3 s4).2.2.2.1) ((pcar s0 s1 s2 s3 s4).2.2.2.2)).2.2.2.1) (nI 14))) &&& 4294967295) + (g2.toInt64 &&& 4294967295))).toInt32) (swpI ((uL ((uL ((uL (0 + ((((uL ((pred ((pcar s0 s1 s2 s3 s4).1) ((pcar s0 s1 s2 s3 s4).2.1) ((pcar s0 s1 s2 s3 s4).2.2.1) ((pcar s0 s1 s2 s3 s4).2.2.2.1) ((pcar s0 s1 s2 s3 s4).2.2.2.2)).1) (nI 0)) ||| (sL ((pred ((pcar s0 s1 s2 s3 s4).1) ((pcar s0 s1 s2 s3 s4).2.1) ((pcar s0 s1 s2 s3 s4).2.2.1) ((pcar s0 s1 s2 s3 s4).2.2.2.1) ((pcar s0 s1 s2 s3 s4).2.2.2.2)).2.1) (nI 26))) &&& 4294967295) + (g0.toInt64 &&& 4294967295))) 32) + ((((uL ((pred ((pcar s0 s1 s2 s3 s4).1) ((pcar s0 s1 s2 s3 s4).2.1) ((pcar s0 s1 s2 s3 s4).2.2.1) ((pcar s0 s1 s2 s3 s4).2.2.2.1) ((pcar s0 s1 s2 s3 s4).2.2.2.2)).2.1) (nI 6)) ||| (sL ((pred ((pcar s0 s1 s2 s3 s4).1) ((pcar s0 s1 s2 s3 s4).2.1) ((pcar s0 s1 s2 s3 s4).2.2.1) ((pcar s0 s1 s2 s3 s4).2.2.2.1) ((pcar s0 s1 s2 s3 s4).2.2.2.2)).2.2.1) (nI 20))) &&& 4294967295) + (g1.toInt64 &&& 4294967295))) 32) + ((((uL ((pred ((pcar s0 s1 s2 s3 s4).1) ((pcar s0 s1 s2 s3 s4).2.1) ((pcar s0 s1 s2 s3 s4).2.2.1) ((pcar s0 s1 s2 s3 s4).2.2.2.1) ((pcar s0 s1 s2 s3 s4).2.2.2.2)).2.2.1) (nI 12)) ||| (sL ((pred ((pcar s0 s1 s2 s3 s4).1) ((pcar s0 s1 s2 s3 s4).2.1) ((pcar s0 s1 s2 s3 s4).2.2.1) ((pcar s0 s1 s2 s3 s4).2.2.2.1) ((pcar s0 s1 s2 s3 s4).2.2.2.2)).2.2.2.1) (nI 14))) &&& 4294967295) + (g2.toInt64 &&& 4294967295))) 32) + ((((uL ((pred ((pcar s0 s1 s2 s3 s4).1) ((pcar s0 s1 s2 s3 s4).2.1) ((pcar s0 s1 s2 s3 s4).2.2.1) ((pcar s0 s1 s2 s3 s4).2.2.2.1) ((pcar s0 s1 s2 s3 s4).2.2.2.2)).2.2.2.1) (nI 18)) ||| (sL ((pred ((pcar s0 s1 s2 s3 s4).1) ((pcar s0 s1 s2 s3 s4).2.1) ((pcar s0 s1 s2 s3 s4).2.2.1) ((pcar s0 s1 s2 s3 s4).2.2.2.1) ((pcar s0 s1 s2 s3 s4).2.2.2.2)).2.2.2.2) (nI 8))) &&& 4294967295) + (g3.toInt64 &&& 4294967295))).toInt32))))]) [2, 3, 4, 0, 1] (by decide) rfl
  exact W.vret hx hb hr (fun t ht hW => ⟨⟨((pred ((pcar s0 s1 s2 s3 s4).1) ((pcar s0 s1 s2 s3 s4).2.1) ((pcar s0 s1 s2 s3 s4).2.2.1) ((pcar s0 s1 s2 s3 s4).2.2.2.1) ((pcar s0 s1 s2 s3 s4).2.2.2.2)).1, (pred ((pcar s0 s1 s2 s3 s4).1) ((pcar s0 s1 s2 s3 s4).2.1) ((pcar s0 s1 s2 s3 s4).2.2.1) ((pcar s0 s1 s2 s3 s4).2.2.2.1) ((pcar s0 s1 s2 s3 s4).2.2.2.2)).2.1, (pred ((pcar s0 s1 s2 s3 s4).1) ((pcar s0 s1 s2 s3 s4).2.1) ((pcar s0 s1 s2 s3 s4).2.2.1) ((pcar s0 s1 s2 s3 s4).2.2.2.1) ((pcar s0 s1 s2 s3 s4).2.2.2.2)).2.2.1, (pred ((pcar s0 s1 s2 s3 s4).1) ((pcar s0 s1 s2 s3 s4).2.1) ((pcar s0 s1 s2 s3 s4).2.2.1) ((pcar s0 s1 s2 s3 s4).2.2.2.1) ((pcar s0 s1 s2 s3 s4).2.2.2.2)).2.2.2.1, (pred ((pcar s0 s1 s2 s3 s4).1) ((pcar s0 s1 s2 s3 s4).2.1) ((pcar s0 s1 s2 s3 s4).2.2.1) ((pcar s0 s1 s2 s3 s4).2.2.2.1) ((pcar s0 s1 s2 s3 s4).2.2.2.2)).2.2.2.2, (pred1 ((pcar s0 s1 s2 s3 s4).1) ((pcar s0 s1 s2 s3 s4).2.1) ((pcar s0 s1 s2 s3 s4).2.2.1) ((pcar s0 s1 s2 s3 s4).2.2.2.1) ((pcar s0 s1 s2 s3 s4).2.2.2.2)).1, (pred1 ((pcar s0 s1 s2 s3 s4).1) ((pcar s0 s1 s2 s3 s4).2.1) ((pcar s0 s1 s2 s3 s4).2.2.1) ((pcar s0 s1 s2 s3 s4).2.2.2.1) ((pcar s0 s1 s2 s3 s4).2.2.2.2)).2.1, (pred1 ((pcar s0 s1 s2 s3 s4).1) ((pcar s0 s1 s2 s3 s4).2.1) ((pcar s0 s1 s2 s3 s4).2.2.1) ((pcar s0 s1 s2 s3 s4).2.2.2.1) ((pcar s0 s1 s2 s3 s4).2.2.2.2)).2.2.1, (pred1 ((pcar s0 s1 s2 s3 s4).1) ((pcar s0 s1 s2 s3 s4).2.1) ((pcar s0 s1 s2 s3 s4).2.2.1) ((pcar s0 s1 s2 s3 s4).2.2.2.1) ((pcar s0 s1 s2 s3 s4).2.2.2.2)).2.2.2.1, (pred1 ((pcar s0 s1 s2 s3 s4).1) ((pcar s0 s1 s2 s3 s4).2.1) ((pcar s0 s1 s2 s3 s4).2.2.1) ((pcar s0 s1 s2 s3 s4).2.2.2.1) ((pcar s0 s1 s2 s3 s4).2.2.2.2)).2.2.2.2), rfl, trivial, by rw [ht]; exact hP9, hD9⟩, hS.F ht⟩) hS.2.2 d_P_finish_95
