def gk1 (q : Int64 × Int64) : Int64 × Int64 := (uL q.1 1 ^^^ sL ((q.2 &&& 1) * 57600) 48, uL q.2 1 ||| sL q.1 63)
def gtabP (x8 x4 x2 x1 t0 : Int64) (th : Nat → Int64) : Prop := th 0 = t0 ∧ th 1 = x1 ∧ th 2 = x2 ∧ th 3 = x2 ^^^ x1 ∧ th 4 = x4 ∧ th 5 = x4 ^^^ x1 ∧ th 6 = x4 ^^^ x2 ∧ th 7 = x4 ^^^ (x2 ^^^ x1) ∧ th 8 = x8 ∧ th 9 = x8 ^^^ x1 ∧ th 10 = x8 ^^^ x2 ∧ th 11 = x8 ^^^ (x2 ^^^ x1) ∧ th 12 = x8 ^^^ x4 ∧ th 13 = x8 ^^^ (x4 ^^^ x1) ∧ th 14 = x8 ^^^ (x4 ^^^ x2) ∧ th 15 = x8 ^^^ (x4 ^^^ (x2 ^^^ x1))
def gmul (th tl : Nat → Int64) (half : Int64) (i : Nat) (z : Int64 × Int64) : Int64 × Int64 :=
  ((uL z.1 4 ^^^ sL (sbF (nib z.2.toInt32)).toInt64 48) ^^^ th (nib (uL half (nI (4 * i))).toInt32), (uL z.2 4 ||| sL z.1 60) ^^^ tl (nib (uL half (nI (4 * i))).toInt32))
def gmulx (th tl : Nat → Int64) (half : Int64) (z : Int64 × Int64) : Int64 × Int64 := iter (gmul th tl half) 16 z
def gabs (th tl : Nat → Int64) (z : Int64 × Int64) (a b c d : Int32) : Int64 × Int64 := gmulx th tl (z.1 ^^^ joinL a b) (gmulx th tl (z.2 ^^^ joinL c d) (0, 0))

theorem d_S_init_0 : decode b_S_init 0 = .ok (.aload_n 0, 1) := by decide +kernel
theorem d_S_init_1 : decode b_S_init 1 = .ok (.invokespecial 3, 3) := by decide +kernel
theorem d_S_init_4 : decode b_S_init 4 = .ok (.aload_n 0, 1) := by decide +kernel
theorem d_S_init_5 : decode b_S_init 5 = .ok (.bipush 16, 2) := by decide +kernel
theorem d_S_init_7 : decode b_S_init 7 = .ok (.newarray .long, 2) := by decide +kernel
theorem d_S_init_9 : decode b_S_init 9 = .ok (.putfield 9, 3) := by decide +kernel
theorem d_S_init_12 : decode b_S_init 12 = .ok (.aload_n 0, 1) := by decide +kernel
theorem d_S_init_13 : decode b_S_init 13 = .ok (.bipush 16, 2) := by decide +kernel
theorem d_S_init_15 : decode b_S_init 15 = .ok (.newarray .long, 2) := by decide +kernel
theorem d_S_init_17 : decode b_S_init 17 = .ok (.putfield 15, 3) := by decide +kernel
theorem d_S_init_20 : decode b_S_init 20 = .ok (.aload_n 0, 1) := by decide +kernel
theorem d_S_init_21 : decode b_S_init 21 = .ok (.lconst 0, 1) := by decide +kernel
theorem d_S_init_22 : decode b_S_init 22 = .ok (.putfield 18, 3) := by decide +kernel
theorem d_S_init_25 : decode b_S_init 25 = .ok (.aload_n 0, 1) := by decide +kernel
theorem d_S_init_26 : decode b_S_init 26 = .ok (.lconst 0, 1) := by decide +kernel
theorem d_S_init_27 : decode b_S_init 27 = .ok (.putfield 22, 3) := by decide +kernel
theorem d_S_init_30 : decode b_S_init 30 = .ok (.return_, 1) := by decide +kernel

def rm_S_init : Room := { frames := 1, cells := 2, slots := 32, locals := 12 }
set_option maxHeartbeats 4000000 in
set_option maxRecDepth 100000 in
theorem c_S_init (l : Launch) (D : va_G) (cI cL cB : ClassId) (tS tF : Nat) (h : Nat) (sz : Nat)  : Met l y_S_init (sbw y_S_init b_S_init 1 none) rm_S_init (sbPc D cI cL cB tS tF [.ref h] sz [(h, .inr (3, [.null, .null, .long 0, .long 0]))]) (sbQv D (fun (u : Nat × Nat) => match u with | (q1, q2) => True) (fun (u : Nat × Nat) => match u with | (q1, q2) => [(h, .inr (3, [.ref q1, .ref q2, .long 0, .long 0])), (q1, .inl (cL, 16, .inr (.inl (fun _ => 0)))), (q2, .inl (cL, 16, .inr (.inl (fun _ => 0))))]) (va_A [(h, .inr (3, [.null, .null, .long 0, .long 0]))] sz)) 2 32 (va_A [(h, .inr (3, [.null, .null, .long 0, .long 0]))] sz) := by
  refine sb_ofW (Qc := fun A => (sbQv D (fun (u : Nat × Nat) => match u with | (q1, q2) => True) (fun (u : Nat × Nat) => match u with | (q1, q2) => [(h, .inr (3, [.ref q1, .ref q2, .long 0, .long 0])), (q1, .inl (cL, 16, .inr (.inl (fun _ => 0)))), (q2, .inl (cL, 16, .inr (.inl (fun _ => 0))))]) A)) (by decide) (Nat.le_of_ble_eq_true rfl) ?_
  intro p e s m args below meth c A ls hx hb hr hml hts hown hlocks hin hsz hP hG hD hA hS hl
  have hl : lv_has ls 1 [(0, .ref h)] := hl
  refine lv_aload_n hx hb d_S_init_0 rfl (lv_at hl 0 rfl) ?_
  refine W.objInit hx hb hown (hts _ k_96) (hts _ k_48) (hts _ k_49) rfl (by rw [hml]; exact hl.1) rfl d_S_init_1 (Nat.le_of_ble_eq_true rfl) (Nat.le_of_ble_eq_true rfl) ?_
  refine W.eq (g2 := F0 m 4 ls []) rfl ?_
  refine lv_aload_n hx hb d_S_init_4 rfl (lv_at hl 0 rfl) ?_
  refine lv_bipush (v := 16) hx hb d_S_init_5 (by decide) ?_
  refine sb_newl hx hb (hts _ k_112) hG.1 hP hD hS hA (N := 16) rfl (by omega) (Nat.le_of_ble_eq_true rfl) (Nat.le_of_ble_eq_true rfl) d_S_init_7 (fun q_1 H hP hD hS => ?_)
  have hP : va_P D vwCl [(h, .inr (3, [.null, .null, .long 0, .long 0])), (q_1, .inl (cL, 16, .inr (.inl (fun _ => 0))))] H := hP
  have hD : va_D A [(h, .inr (3, [.null, .null, .long 0, .long 0])), (q_1, .inl (cL, 16, .inr (.inl (fun _ => 0))))] := hD
  refine W.widen (k := 1) (n := 16) (Nat.le_of_ble_eq_true rfl) (Nat.le_of_ble_eq_true rfl) ?_
  refine va_putF (D := D) (ci := 3) (v := .ref q_1) (ty := (.array .long)) (C := R_S) (T := F_S) (N := 4) hx hb hts in_S tq_S tq_S_ok nq_S hown hG.1 hP hD hS 0 rfl rfl 0 (by decide) (hts _ k_97) (fun _ h9 => h9) rfl hin rfl (by decide +kernel) rfl rfl (Nat.le_of_ble_eq_true rfl) d_S_init_9 (fun H locs hP hD hS => ?_)
  have hP : va_P D vwCl [(h, .inr (3, [.ref q_1, .null, .long 0, .long 0])), (q_1, .inl (cL, 16, .inr (.inl (fun _ => 0))))] H := hP
  have hD : va_D A [(h, .inr (3, [.ref q_1, .null, .long 0, .long 0])), (q_1, .inl (cL, 16, .inr (.inl (fun _ => 0))))] := hD
  refine lv_aload_n hx hb d_S_init_12 rfl (lv_at hl 0 rfl) ?_
  refine lv_bipush (v := 16) hx hb d_S_init_13 (by decide) ?_
  refine sb_newl hx hb (hts _ k_112) hG.1 hP hD hS hA (N := 16) rfl (by omega) (Nat.le_of_ble_eq_true rfl) (Nat.le_of_ble_eq_true rfl) d_S_init_15 (fun q_2 H hP hD hS => ?_)
  have hP : va_P D vwCl [(h, .inr (3, [.ref q_1, .null, .long 0, .long 0])), (q_1, .inl (cL, 16, .inr (.inl (fun _ => 0)))), (q_2, .inl (cL, 16, .inr (.inl (fun _ => 0))))] H := hP
  have hD : va_D A [(h, .inr (3, [.ref q_1, .null, .long 0, .long 0])), (q_1, .inl (cL, 16, .inr (.inl (fun _ => 0)))), (q_2, .inl (cL, 16, .inr (.inl (fun _ => 0))))] := hD
  refine W.widen (k := 2) (n := 32) (Nat.le_of_ble_eq_true rfl) (Nat.le_of_ble_eq_true rfl) ?_
  refine va_putF (D := D) (ci := 3) (v := .ref q_2) (ty := (.array .long)) (C := R_S) (T := F_S) (N := 4) hx hb hts in_S tq_S tq_S_ok nq_S hown hG.1 hP hD hS 0 rfl rfl 1 (by decide) (hts _ k_98) (fun _ h9 => h9) rfl hin rfl (by decide +kernel) rfl rfl (Nat.le_of_ble_eq_true rfl) d_S_init_17 (fun H locs hP hD hS => ?_)
  have hP : va_P D vwCl [(h, .inr (3, [.ref q_1, .ref q_2, .long 0, .long 0])), (q_1, .inl (cL, 16, .inr (.inl (fun _ => 0)))), (q_2, .inl (cL, 16, .inr (.inl (fun _ => 0))))] H := hP
  have hD : va_D A [(h, .inr (3, [.ref q_1, .ref q_2, .long 0, .long 0])), (q_1, .inl (cL, 16, .inr (.inl (fun _ => 0)))), (q_2, .inl (cL, 16, .inr (.inl (fun _ => 0))))] := hD
  refine lv_aload_n hx hb d_S_init_20 rfl (lv_at hl 0 rfl) ?_
  refine lv_lconst (v := 0) hx hb d_S_init_21 (by decide) ?_
  refine va_put (D := D) (ci := 3) (v := .long 0) (ty := .long) (C := R_S) (T := F_S) (N := 4) hx hb hts in_S tq_S tq_S_ok nq_S hown hG.1 hP hD hS 0 rfl rfl 2 (by decide) (hts _ k_99) (fun _ h9 => h9) rfl (by decide +kernel) rfl rfl (Nat.le_of_ble_eq_true rfl) d_S_init_22 (fun H locs hP hD hS => ?_)
  have hP : va_P D vwCl [(h, .inr (3, [.ref q_1, .ref q_2, .long 0, .long 0])), (q_1, .inl (cL, 16, .inr (.inl (fun _ => 0)))), (q_2, .inl (cL, 16, .inr (.inl (fun _ => 0))))] H := hP
  have hD : va_D A [(h, .inr (3, [.ref q_1, .ref q_2, .long 0, .long 0])), (q_1, .inl (cL, 16, .inr (.inl (fun _ => 0)))), (q_2, .inl (cL, 16, .inr (.inl (fun _ => 0))))] := hD
  refine lv_aload_n hx hb d_S_init_25 rfl (lv_at hl 0 rfl) ?_
  refine lv_lconst (v := 0) hx hb d_S_init_26 (by decide) ?_
  refine va_put (D := D) (ci := 3) (v := .long 0) (ty := .long) (C := R_S) (T := F_S) (N := 4) hx hb hts in_S tq_S tq_S_ok nq_S hown hG.1 hP hD hS 0 rfl rfl 3 (by decide) (hts _ k_101) (fun _ h9 => h9) rfl (by decide +kernel) rfl rfl (Nat.le_of_ble_eq_true rfl) d_S_init_27 (fun H locs hP hD hS => ?_)
  have hP : va_P D vwCl [(h, .inr (3, [.ref q_1, .ref q_2, .long 0, .long 0])), (q_1, .inl (cL, 16, .inr (.inl (fun _ => 0)))), (q_2, .inl (cL, 16, .inr (.inl (fun _ => 0))))] H := hP
  have hD : va_D A [(h, .inr (3, [.ref q_1, .ref q_2, .long 0, .long 0])), (q_1, .inl (cL, 16, .inr (.inl (fun _ => 0)))), (q_2, .inl (cL, 16, .inr (.inl (fun _ => 0))))] := hD
  have hP9 := hP.sub (ws' := [(h, .inr (3, [.ref q_1, .ref q_2, .long 0, .long 0])), (q_1, .inl (cL, 16, .inr (.inl (fun _ => 0)))), (q_2, .inl (cL, 16, .inr (.inl (fun _ => 0))))]) [0, 1, 2] rfl
  have hD9 := hD.sub (ws' := [(h, .inr (3, [.ref q_1, .ref q_2, .long 0, .long 0])), (q_1, .inl (cL, 16, .inr (.inl (fun _ => 0)))), (q_2, .inl (cL, 16, .inr (.inl (fun _ => 0))))]) [0, 1, 2] (by decide) rfl
  refine W.widen (k := 2) (n := 32) (Nat.le_of_ble_eq_true rfl) (Nat.le_of_ble_eq_true rfl) ?_
  exact W.vret hx hb hr (fun t ht hW => ⟨⟨(q_1, q_2), rfl, trivial, by rw [ht]; exact hP9, hD9⟩, hS.F ht⟩) hS.2.2 d_S_init_30

theorem d_S_begin_0 : decode b_S_begin 0 = .ok (.aload_n 0, 1) := by decide +kernel
theorem d_S_begin_1 : decode b_S_begin 1 = .ok (.lconst 0, 1) := by decide +kernel
theorem d_S_begin_2 : decode b_S_begin 2 = .ok (.putfield 18, 3) := by decide +kernel
theorem d_S_begin_5 : decode b_S_begin 5 = .ok (.aload_n 0, 1) := by decide +kernel
theorem d_S_begin_6 : decode b_S_begin 6 = .ok (.lconst 0, 1) := by decide +kernel
theorem d_S_begin_7 : decode b_S_begin 7 = .ok (.putfield 22, 3) := by decide +kernel
theorem d_S_begin_10 : decode b_S_begin 10 = .ok (.return_, 1) := by decide +kernel

def rm_S_begin : Room := { frames := 0, cells := 0, slots := 0, locals := 0 }
set_option maxHeartbeats 4000000 in
set_option maxRecDepth 100000 in
theorem c_S_begin (l : Launch) (D : va_G) (cI cL cB : ClassId) (tS tF : Nat) (h : Nat) (q1 : Nat) (q2 : Nat) (th : Nat → Int64) (tl : Nat → Int64) (x : Int64) (y : Int64) (sz : Nat)  : Met l y_S_begin (sbw y_S_begin b_S_begin 1 none) rm_S_begin (sbPc D cI cL cB tS tF [.ref h] sz [(h, .inr (3, [.ref q1, .ref q2, .long x, .long y])), (q1, .inl (cL, 16, .inr (.inl th))), (q2, .inl (cL, 16, .inr (.inl tl)))]) (sbQv D (fun (_ : Unit) => True) (fun (_ : Unit) => [(h, .inr (3, [.ref q1, .ref q2, .long 0, .long 0])), (q1, .inl (cL, 16, .inr (.inl th))), (q2, .inl (cL, 16, .inr (.inl tl)))]) (va_A [(h, .inr (3, [.ref q1, .ref q2, .long x, .long y])), (q1, .inl (cL, 16, .inr (.inl th))), (q2, .inl (cL, 16, .inr (.inl tl)))] sz)) 0 0 (va_A [(h, .inr (3, [.ref q1, .ref q2, .long x, .long y])), (q1, .inl (cL, 16, .inr (.inl th))), (q2, .inl (cL, 16, .inr (.inl tl)))] sz) := by
  refine sb_ofW (Qc := fun A => (sbQv D (fun (_ : Unit) => True) (fun (_ : Unit) => [(h, .inr (3, [.ref q1, .ref q2, .long 0, .long 0])), (q1, .inl (cL, 16, .inr (.inl th))), (q2, .inl (cL, 16, .inr (.inl tl)))]) A)) (by decide) (Nat.le_of_ble_eq_true rfl) ?_
  intro p e s m args below meth c A ls hx hb hr hml hts hown hlocks hin hsz hP hG hD hA hS hl
  have hl : lv_has ls 1 [(0, .ref h)] := hl
  refine lv_aload_n hx hb d_S_begin_0 rfl (lv_at hl 0 rfl) ?_
  refine lv_lconst (v := 0) hx hb d_S_begin_1 (by decide) ?_
  refine va_put (D := D) (ci := 3) (v := .long 0) (ty := .long) (C := R_S) (T := F_S) (N := 4) hx hb hts in_S tq_S tq_S_ok nq_S hown hG.1 hP hD hS 0 rfl rfl 2 (by decide) (hts _ k_99) (fun _ h9 => h9) rfl (by decide +kernel) rfl rfl (Nat.le_of_ble_eq_true rfl) d_S_begin_2 (fun H locs hP hD hS => ?_)
  have hP : va_P D vwCl [(h, .inr (3, [.ref q1, .ref q2, .long 0, .long y])), (q1, .inl (cL, 16, .inr (.inl th))), (q2, .inl (cL, 16, .inr (.inl tl)))] H := hP
  have hD : va_D A [(h, .inr (3, [.ref q1, .ref q2, .long 0, .long y])), (q1, .inl (cL, 16, .inr (.inl th))), (q2, .inl (cL, 16, .inr (.inl tl)))] := hD
  refine lv_aload_n hx hb d_S_begin_5 rfl (lv_at hl 0 rfl) ?_
  refine lv_lconst (v := 0) hx hb d_S_begin_6 (by decide) ?_
  refine va_put (D := D) (ci := 3) (v := .long 0) (ty := .long) (C := R_S) (T := F_S) (N := 4) hx hb hts in_S tq_S tq_S_ok nq_S hown hG.1 hP hD hS 0 rfl rfl 3 (by decide) (hts _ k_101) (fun _ h9 => h9) rfl (by decide +kernel) rfl rfl (Nat.le_of_ble_eq_true rfl) d_S_begin_7 (fun H locs hP hD hS => ?_)
  have hP : va_P D vwCl [(h, .inr (3, [.ref q1, .ref q2, .long 0, .long 0])), (q1, .inl (cL, 16, .inr (.inl th))), (q2, .inl (cL, 16, .inr (.inl tl)))] H := hP
  have hD : va_D A [(h, .inr (3, [.ref q1, .ref q2, .long 0, .long 0])), (q1, .inl (cL, 16, .inr (.inl th))), (q2, .inl (cL, 16, .inr (.inl tl)))] := hD
  have hP9 := hP.sub (ws' := [(h, .inr (3, [.ref q1, .ref q2, .long 0, .long 0])), (q1, .inl (cL, 16, .inr (.inl th))), (q2, .inl (cL, 16, .inr (.inl tl)))]) [0, 1, 2] rfl
  have hD9 := hD.sub (ws' := [(h, .inr (3, [.ref q1, .ref q2, .long 0, .long 0])), (q1, .inl (cL, 16, .inr (.inl th))), (q2, .inl (cL, 16, .inr (.inl tl)))]) [0, 1, 2] (by decide) rfl
  exact W.vret hx hb hr (fun t ht hW => ⟨⟨(), rfl, trivial, by rw [ht]; exact hP9, hD9⟩, hS.F ht⟩) hS.2.2 d_S_begin_10

theorem d_S_multiplyBy_0 : decode b_S_multiplyBy 0 = .ok (.iconst 0, 1) := by decide +kernel
theorem d_S_multiplyBy_1 : decode b_S_multiplyBy 1 = .ok (.istore_n 3, 1) := by decide +kernel
theorem d_S_multiplyBy_2 : decode b_S_multiplyBy 2 = .ok (.iload_n 3, 1) := by decide +kernel
theorem d_S_multiplyBy_3 : decode b_S_multiplyBy 3 = .ok (.bipush 64, 2) := by decide +kernel
theorem d_S_multiplyBy_5 : decode b_S_multiplyBy 5 = .ok (.if_icmp .ge 83, 3) := by decide +kernel
theorem d_S_multiplyBy_8 : decode b_S_multiplyBy 8 = .ok (.lload_n 1, 1) := by decide +kernel
theorem d_S_multiplyBy_9 : decode b_S_multiplyBy 9 = .ok (.iload_n 3, 1) := by decide +kernel
theorem d_S_multiplyBy_10 : decode b_S_multiplyBy 10 = .ok (.lushr, 1) := by decide +kernel
theorem d_S_multiplyBy_11 : decode b_S_multiplyBy 11 = .ok (.l2i, 1) := by decide +kernel
theorem d_S_multiplyBy_12 : decode b_S_multiplyBy 12 = .ok (.bipush 15, 2) := by decide +kernel
theorem d_S_multiplyBy_14 : decode b_S_multiplyBy 14 = .ok (.iand, 1) := by decide +kernel
theorem d_S_multiplyBy_15 : decode b_S_multiplyBy 15 = .ok (.istore 4, 2) := by decide +kernel
theorem d_S_multiplyBy_17 : decode b_S_multiplyBy 17 = .ok (.getstatic 35, 3) := by decide +kernel
theorem d_S_multiplyBy_20 : decode b_S_multiplyBy 20 = .ok (.aload_n 0, 1) := by decide +kernel
theorem d_S_multiplyBy_21 : decode b_S_multiplyBy 21 = .ok (.getfield 22, 3) := by decide +kernel
theorem d_S_multiplyBy_24 : decode b_S_multiplyBy 24 = .ok (.l2i, 1) := by decide +kernel
theorem d_S_multiplyBy_25 : decode b_S_multiplyBy 25 = .ok (.bipush 15, 2) := by decide +kernel
theorem d_S_multiplyBy_27 : decode b_S_multiplyBy 27 = .ok (.iand, 1) := by decide +kernel
theorem d_S_multiplyBy_28 : decode b_S_multiplyBy 28 = .ok (.iaload, 1) := by decide +kernel
theorem d_S_multiplyBy_29 : decode b_S_multiplyBy 29 = .ok (.i2l, 1) := by decide +kernel
theorem d_S_multiplyBy_30 : decode b_S_multiplyBy 30 = .ok (.lstore 5, 2) := by decide +kernel
theorem d_S_multiplyBy_32 : decode b_S_multiplyBy 32 = .ok (.aload_n 0, 1) := by decide +kernel
theorem d_S_multiplyBy_33 : decode b_S_multiplyBy 33 = .ok (.aload_n 0, 1) := by decide +kernel
theorem d_S_multiplyBy_34 : decode b_S_multiplyBy 34 = .ok (.getfield 22, 3) := by decide +kernel
theorem d_S_multiplyBy_37 : decode b_S_multiplyBy 37 = .ok (.iconst 4, 1) := by decide +kernel
theorem d_S_multiplyBy_38 : decode b_S_multiplyBy 38 = .ok (.lushr, 1) := by decide +kernel
theorem d_S_multiplyBy_39 : decode b_S_multiplyBy 39 = .ok (.aload_n 0, 1) := by decide +kernel
theorem d_S_multiplyBy_40 : decode b_S_multiplyBy 40 = .ok (.getfield 18, 3) := by decide +kernel
theorem d_S_multiplyBy_43 : decode b_S_multiplyBy 43 = .ok (.bipush 60, 2) := by decide +kernel
theorem d_S_multiplyBy_45 : decode b_S_multiplyBy 45 = .ok (.lshl, 1) := by decide +kernel
theorem d_S_multiplyBy_46 : decode b_S_multiplyBy 46 = .ok (.lor, 1) := by decide +kernel
theorem d_S_multiplyBy_47 : decode b_S_multiplyBy 47 = .ok (.aload_n 0, 1) := by decide +kernel
theorem d_S_multiplyBy_48 : decode b_S_multiplyBy 48 = .ok (.getfield 15, 3) := by decide +kernel
theorem d_S_multiplyBy_51 : decode b_S_multiplyBy 51 = .ok (.iload 4, 2) := by decide +kernel
theorem d_S_multiplyBy_53 : decode b_S_multiplyBy 53 = .ok (.laload, 1) := by decide +kernel
theorem d_S_multiplyBy_54 : decode b_S_multiplyBy 54 = .ok (.lxor, 1) := by decide +kernel
theorem d_S_multiplyBy_55 : decode b_S_multiplyBy 55 = .ok (.putfield 22, 3) := by decide +kernel
theorem d_S_multiplyBy_58 : decode b_S_multiplyBy 58 = .ok (.aload_n 0, 1) := by decide +kernel
theorem d_S_multiplyBy_59 : decode b_S_multiplyBy 59 = .ok (.aload_n 0, 1) := by decide +kernel
theorem d_S_multiplyBy_60 : decode b_S_multiplyBy 60 = .ok (.getfield 18, 3) := by decide +kernel
theorem d_S_multiplyBy_63 : decode b_S_multiplyBy 63 = .ok (.iconst 4, 1) := by decide +kernel
theorem d_S_multiplyBy_64 : decode b_S_multiplyBy 64 = .ok (.lushr, 1) := by decide +kernel
theorem d_S_multiplyBy_65 : decode b_S_multiplyBy 65 = .ok (.lload 5, 2) := by decide +kernel
theorem d_S_multiplyBy_67 : decode b_S_multiplyBy 67 = .ok (.bipush 48, 2) := by decide +kernel
theorem d_S_multiplyBy_69 : decode b_S_multiplyBy 69 = .ok (.lshl, 1) := by decide +kernel
theorem d_S_multiplyBy_70 : decode b_S_multiplyBy 70 = .ok (.lxor, 1) := by decide +kernel
theorem d_S_multiplyBy_71 : decode b_S_multiplyBy 71 = .ok (.aload_n 0, 1) := by decide +kernel
theorem d_S_multiplyBy_72 : decode b_S_multiplyBy 72 = .ok (.getfield 9, 3) := by decide +kernel
theorem d_S_multiplyBy_75 : decode b_S_multiplyBy 75 = .ok (.iload 4, 2) := by decide +kernel
theorem d_S_multiplyBy_77 : decode b_S_multiplyBy 77 = .ok (.laload, 1) := by decide +kernel
theorem d_S_multiplyBy_78 : decode b_S_multiplyBy 78 = .ok (.lxor, 1) := by decide +kernel
theorem d_S_multiplyBy_79 : decode b_S_multiplyBy 79 = .ok (.putfield 18, 3) := by decide +kernel
theorem d_S_multiplyBy_82 : decode b_S_multiplyBy 82 = .ok (.iinc 3 4, 3) := by decide +kernel
theorem d_S_multiplyBy_85 : decode b_S_multiplyBy 85 = .ok (.goto (-83), 3) := by decide +kernel
theorem d_S_multiplyBy_88 : decode b_S_multiplyBy 88 = .ok (.return_, 1) := by decide +kernel

def rm_S_multiplyBy : Room := { frames := 0, cells := 0, slots := 0, locals := 0 }
set_option maxHeartbeats 4000000 in
set_option maxRecDepth 100000 in
theorem c_S_multiplyBy (l : Launch) (D : va_G) (cI cL cB : ClassId) (tS tF : Nat) (h : Nat) (q1 : Nat) (q2 : Nat) (th : Nat → Int64) (tl : Nat → Int64) (x : Int64) (y : Int64) (half : Int64) (sz : Nat)  : Met l y_S_multiplyBy (sbw y_S_multiplyBy b_S_multiplyBy 7 none) rm_S_multiplyBy (sbPc D cI cL cB tS tF [.ref h, .long half] sz [(h, .inr (3, [.ref q1, .ref q2, .long x, .long y])), (q1, .inl (cL, 16, .inr (.inl th))), (q2, .inl (cL, 16, .inr (.inl tl)))]) (sbQv D (fun (_ : Unit) => True) (fun (_ : Unit) => [(h, .inr (3, [.ref q1, .ref q2, .long ((gmulx th tl half (x, y)).1), .long ((gmulx th tl half (x, y)).2)])), (q1, .inl (cL, 16, .inr (.inl th))), (q2, .inl (cL, 16, .inr (.inl tl)))]) (va_A [(h, .inr (3, [.ref q1, .ref q2, .long x, .long y])), (q1, .inl (cL, 16, .inr (.inl th))), (q2, .inl (cL, 16, .inr (.inl tl)))] sz)) 0 0 (va_A [(h, .inr (3, [.ref q1, .ref q2, .long x, .long y])), (q1, .inl (cL, 16, .inr (.inl th))), (q2, .inl (cL, 16, .inr (.inl tl)))] sz) := by
  refine sb_ofW (Qc := fun A => (sbQv D (fun (_ : Unit) => True) (fun (_ : Unit) => [(h, .inr (3, [.ref q1, .ref q2, .long ((gmulx th tl half (x, y)).1), .long ((gmulx th tl half (x, y)).2)])), (q1, .inl (cL, 16, .inr (.inl th))), (q2, .inl (cL, 16, .inr (.inl tl)))]) A)) (by decide) (Nat.le_of_ble_eq_true rfl) ?_
  intro p e s m args below meth c A ls hx hb hr hml hts hown hlocks hin hsz hP hG hD hA hS hl
  have hl : lv_has ls 7 [(0, .ref h), (1, .long half)] := hl
  refine lv_iconst (v := 0) hx hb d_S_multiplyBy_0 (by decide) ?_
  refine lv_istore_n (lv' := [(3, .int 0), (0, .ref h), (1, .long half)]) hx hb d_S_multiplyBy_1 rfl hl (by decide) rfl (fun ls hl => ?_)
  have lp1 : ∀ (d1 i : Nat), i + d1 = 16 → ∀ (H : Heap) (locs : List Loc) (ls : Array Slot), va_P D vwCl [(h, .inr (3, [.ref q1, .ref q2, .long ((iter (gmul th tl half) i (x, y)).1), .long ((iter (gmul th tl half) i (x, y)).2)])), (q1, .inl (cL, 16, .inr (.inl th))), (q2, .inl (cL, 16, .inr (.inl tl)))] H → va_D A [(h, .inr (3, [.ref q1, .ref q2, .long ((iter (gmul th tl half) i (x, y)).1), .long ((iter (gmul th tl half) i (x, y)).2)])), (q1, .inl (cL, 16, .inr (.inl th))), (q2, .inl (cL, 16, .inr (.inl tl)))] → va_S A s.heap H locs → lv_has ls 7 [(3, .int (nI (4 * i))), (0, .ref h), (1, .long half)] → W p l e rm_S_multiplyBy s m args below meth c H locs 0 0 (MQ below (sbQv D (fun (_ : Unit) => True) (fun (_ : Unit) => [(h, .inr (3, [.ref q1, .ref q2, .long ((gmulx th tl half (x, y)).1), .long ((gmulx th tl half (x, y)).2)])), (q1, .inl (cL, 16, .inr (.inl th))), (q2, .inl (cL, 16, .inr (.inl tl)))]) A) args s 0 0 A) (F0 m 2 ls []) := by
    intro d1
    induction d1 with
    | zero =>
      intro i hi1 H locs ls hP hD hS hl
      obtain rfl : 16 = i := by omega
      refine lv_iload_n hx hb d_S_multiplyBy_2 rfl (lv_at hl 0 rfl) ?_
      refine lv_bipush (v := 64) hx hb d_S_multiplyBy_3 (by decide) ?_
      refine lv_icmp_ge (tgt := 88) hx hb d_S_multiplyBy_5 (by decide) (fun c_1 => ?_) (fun c_1 => absurd (sb_geT (a := 4 * 16) (b := 64) rfl rfl (by omega) (by omega) (by omega)) c_1)
      have hP9 := hP.sub (ws' := [(h, .inr (3, [.ref q1, .ref q2, .long ((iter (gmul th tl half) 16 (x, y)).1), .long ((iter (gmul th tl half) 16 (x, y)).2)])), (q1, .inl (cL, 16, .inr (.inl th))), (q2, .inl (cL, 16, .inr (.inl tl)))]) [0, 1, 2] rfl
      have hD9 := hD.sub (ws' := [(h, .inr (3, [.ref q1, .ref q2, .long ((iter (gmul th tl half) 16 (x, y)).1), .long ((iter (gmul th tl half) 16 (x, y)).2)])), (q1, .inl (cL, 16, .inr (.inl th))), (q2, .inl (cL, 16, .inr (.inl tl)))]) [0, 1, 2] (by decide) rfl
      exact W.vret hx hb hr (fun t ht hW => ⟨⟨(), rfl, trivial, by rw [ht]; exact hP9, hD9⟩, hS.F ht⟩) hS.2.2 d_S_multiplyBy_88
    | succ d1 ih1 =>
      intro i hi1 H locs ls hP hD hS hl
      refine lv_iload_n hx hb d_S_multiplyBy_2 rfl (lv_at hl 0 rfl) ?_
      refine lv_bipush (v := 64) hx hb d_S_multiplyBy_3 (by decide) ?_
      refine lv_icmp_ge (tgt := 88) hx hb d_S_multiplyBy_5 (by decide) (fun c_2 => absurd c_2 (sb_geF (a := 4 * i) (b := 64) rfl rfl (by omega) (by omega) (by omega))) (fun c_2 => ?_)
      refine lv_lload_n hx hb d_S_multiplyBy_8 rfl (lv_at hl 2 rfl) ?_
      refine lv_iload_n hx hb d_S_multiplyBy_9 rfl (lv_at hl 0 rfl) ?_
      refine lv_lushr (v := uL half (nI (4 * i))) hx hb d_S_multiplyBy_10 rfl ?_
      refine lv_l2i (v := (uL half (nI (4 * i))).toInt32) hx hb d_S_multiplyBy_11 rfl ?_
      refine lv_bipush (v := 15) hx hb d_S_multiplyBy_12 (by decide) ?_
      refine lv_iand hx hb d_S_multiplyBy_14 ?_
      refine sb_topn (nib ((uL half (nI (4 * i))).toInt32)) (ix15 ((uL half (nI (4 * i))).toInt32)) ?_
      refine sb_topn (nib ((uL half (nI (4 * i))).toInt32)) rfl ?_
      refine lv_istore (lv' := [(4, .int (nI (nib ((uL half (nI (4 * i))).toInt32)))), (3, .int (nI (4 * i))), (0, .ref h), (1, .long half)]) hx hb d_S_multiplyBy_15 hl (by decide) rfl (fun ls hl => ?_)
      refine va_getsN hx hb hG.2.2.2.2.1 hS hown (hG.nest _ n_577) (fun _ h9 => h9) d_S_multiplyBy_17 ?_
      refine lv_aload_n hx hb d_S_multiplyBy_20 rfl (lv_at hl 2 rfl) ?_
      refine va_get (D := D) (ci := 3) (v := .long ((iter (gmul th tl half) i (x, y)).2)) (C := R_S) (T := F_S) (N := 4) hx hb hts in_S hown hG.1 hP 0 rfl rfl 3 (by decide) (hts _ k_101) (fun _ h9 => h9) rfl d_S_multiplyBy_21 ?_
      refine lv_l2i (v := ((iter (gmul th tl half) i (x, y)).2).toInt32) hx hb d_S_multiplyBy_24 rfl ?_
      refine lv_bipush (v := 15) hx hb d_S_multiplyBy_25 (by decide) ?_
      refine lv_iand hx hb d_S_multiplyBy_27 ?_
      refine sb_topn (nib (((iter (gmul th tl half) i (x, y)).2).toInt32)) (ix15 (((iter (gmul th tl half) i (x, y)).2).toInt32)) ?_
      refine sb_tld hx hb hG.2.2.2.2.2 hS (nib (((iter (gmul th tl half) i (x, y)).2).toInt32)) rfl (nib_lt _) (by omega) d_S_multiplyBy_28 ?_
      refine lv_i2l (v := (sbF (nib (((iter (gmul th tl half) i (x, y)).2).toInt32))).toInt64) hx hb d_S_multiplyBy_29 rfl ?_
      refine lv_topl (fun x_3 ex_3 => ?_)
      refine lv_lstore (lv' := [(5, .long x_3), (4, .int (nI (nib ((uL half (nI (4 * i))).toInt32)))), (3, .int (nI (4 * i))), (0, .ref h), (1, .long half)]) hx hb d_S_multiplyBy_30 hl (by decide) rfl (fun ls hl => ?_)
      refine lv_aload_n hx hb d_S_multiplyBy_32 rfl (lv_at hl 3 rfl) ?_
      refine lv_aload_n hx hb d_S_multiplyBy_33 rfl (lv_at hl 3 rfl) ?_
      refine va_get (D := D) (ci := 3) (v := .long ((iter (gmul th tl half) i (x, y)).2)) (C := R_S) (T := F_S) (N := 4) hx hb hts in_S hown hG.1 hP 0 rfl rfl 3 (by decide) (hts _ k_101) (fun _ h9 => h9) rfl d_S_multiplyBy_34 ?_
      refine lv_iconst (v := 4) hx hb d_S_multiplyBy_37 (by decide) ?_
      refine lv_lushr (v := uL ((iter (gmul th tl half) i (x, y)).2) 4) hx hb d_S_multiplyBy_38 rfl ?_
      refine lv_aload_n hx hb d_S_multiplyBy_39 rfl (lv_at hl 3 rfl) ?_
      refine va_get (D := D) (ci := 3) (v := .long ((iter (gmul th tl half) i (x, y)).1)) (C := R_S) (T := F_S) (N := 4) hx hb hts in_S hown hG.1 hP 0 rfl rfl 2 (by decide) (hts _ k_99) (fun _ h9 => h9) rfl d_S_multiplyBy_40 ?_
      refine lv_bipush (v := 60) hx hb d_S_multiplyBy_43 (by decide) ?_
      refine lv_lshl (v := sL ((iter (gmul th tl half) i (x, y)).1) 60) hx hb d_S_multiplyBy_45 rfl ?_
      refine lv_lor hx hb d_S_multiplyBy_46 ?_
      refine lv_aload_n hx hb d_S_multiplyBy_47 rfl (lv_at hl 3 rfl) ?_
      refine va_get (D := D) (ci := 3) (v := .ref q2) (C := R_S) (T := F_S) (N := 4) hx hb hts in_S hown hG.1 hP 0 rfl rfl 1 (by decide) (hts _ k_98) (fun _ h9 => h9) rfl d_S_multiplyBy_48 ?_
      refine lv_iload hx hb d_S_multiplyBy_51 (lv_at hl 1 rfl) ?_
      refine sb_lld hx hb hG.1 hP 2 rfl (nib ((uL half (nI (4 * i))).toInt32)) rfl (nib_lt _) (by omega) d_S_multiplyBy_53 ?_
      refine lv_lxor hx hb d_S_multiplyBy_54 ?_
      refine lv_topl (fun x_4 ex_4 => ?_)
      refine va_put (D := D) (ci := 3) (v := .long x_4) (ty := .long) (C := R_S) (T := F_S) (N := 4) hx hb hts in_S tq_S tq_S_ok nq_S hown hG.1 hP hD hS 0 rfl rfl 3 (by decide) (hts _ k_101) (fun _ h9 => h9) rfl (by decide +kernel) rfl rfl (Nat.le_of_ble_eq_true rfl) d_S_multiplyBy_55 (fun H locs hP hD hS => ?_)
      have hP : va_P D vwCl [(h, .inr (3, [.ref q1, .ref q2, .long ((iter (gmul th tl half) i (x, y)).1), .long x_4])), (q1, .inl (cL, 16, .inr (.inl th))), (q2, .inl (cL, 16, .inr (.inl tl)))] H := hP
      have hD : va_D A [(h, .inr (3, [.ref q1, .ref q2, .long ((iter (gmul th tl half) i (x, y)).1), .long x_4])), (q1, .inl (cL, 16, .inr (.inl th))), (q2, .inl (cL, 16, .inr (.inl tl)))] := hD
      refine lv_aload_n hx hb d_S_multiplyBy_58 rfl (lv_at hl 3 rfl) ?_
      refine lv_aload_n hx hb d_S_multiplyBy_59 rfl (lv_at hl 3 rfl) ?_
      refine va_get (D := D) (ci := 3) (v := .long ((iter (gmul th tl half) i (x, y)).1)) (C := R_S) (T := F_S) (N := 4) hx hb hts in_S hown hG.1 hP 0 rfl rfl 2 (by decide) (hts _ k_99) (fun _ h9 => h9) rfl d_S_multiplyBy_60 ?_
      refine lv_iconst (v := 4) hx hb d_S_multiplyBy_63 (by decide) ?_
      refine lv_lushr (v := uL ((iter (gmul th tl half) i (x, y)).1) 4) hx hb d_S_multiplyBy_64 rfl ?_
      refine lv_lload hx hb d_S_multiplyBy_65 (lv_at hl 0 rfl) ?_
      refine lv_bipush (v := 48) hx hb d_S_multiplyBy_67 (by decide) ?_
      refine lv_lshl (v := sL x_3 48) hx hb d_S_multiplyBy_69 rfl ?_
      refine lv_lxor hx hb d_S_multiplyBy_70 ?_
      refine lv_aload_n hx hb d_S_multiplyBy_71 rfl (lv_at hl 3 rfl) ?_
      refine va_get (D := D) (ci := 3) (v := .ref q1) (C := R_S) (T := F_S) (N := 4) hx hb hts in_S hown hG.1 hP 0 rfl rfl 0 (by decide) (hts _ k_97) (fun _ h9 => h9) rfl d_S_multiplyBy_72 ?_
      refine lv_iload hx hb d_S_multiplyBy_75 (lv_at hl 1 rfl) ?_
      refine sb_lld hx hb hG.1 hP 1 rfl (nib ((uL half (nI (4 * i))).toInt32)) rfl (nib_lt _) (by omega) d_S_multiplyBy_77 ?_
      refine lv_lxor hx hb d_S_multiplyBy_78 ?_
      refine lv_topl (fun x_5 ex_5 => ?_)
      refine va_put (D := D) (ci := 3) (v := .long x_5) (ty := .long) (C := R_S) (T := F_S) (N := 4) hx hb hts in_S tq_S tq_S_ok nq_S hown hG.1 hP hD hS 0 rfl rfl 2 (by decide) (hts _ k_99) (fun _ h9 => h9) rfl (by decide +kernel) rfl rfl (Nat.le_of_ble_eq_true rfl) d_S_multiplyBy_79 (fun H locs hP hD hS => ?_)
      have hP : va_P D vwCl [(h, .inr (3, [.ref q1, .ref q2, .long x_5, .long x_4])), (q1, .inl (cL, 16, .inr (.inl th))), (q2, .inl (cL, 16, .inr (.inl tl)))] H := hP
      have hD : va_D A [(h, .inr (3, [.ref q1, .ref q2, .long x_5, .long x_4])), (q1, .inl (cL, 16, .inr (.inl th))), (q2, .inl (cL, 16, .inr (.inl tl)))] := hD
      refine lv_iinc (v := nI ((4 * i) + 4)) (lv' := [(3, .int (nI ((4 * i) + 4))), (5, .long x_3), (4, .int (nI (nib ((uL half (nI (4 * i))).toInt32)))), (0, .ref h), (1, .long half)]) hx hb d_S_multiplyBy_82 hl (k := 2) rfl (sb_inc (a := 4 * i) (b := (4 * i) + 4) (d := 4) rfl (by decide) (by omega)) (by decide) rfl (fun ls hl => ?_)
      refine lv_goto (tgt := 2) hx hb d_S_multiplyBy_85 (by decide) ?_
      rw [show nI ((4 * i) + 4) = nI (4 * (i + 1)) from congrArg nI (by omega)] at hl
      obtain rfl : x_5 = (iter (gmul th tl half) (i + 1) (x, y)).1 := (by subst_vars; rfl)
      obtain rfl : x_4 = (iter (gmul th tl half) (i + 1) (x, y)).2 := (by subst_vars; rfl)
      exact ih1 (i + 1) (by omega) _ _ ls (hP.sub [0, 1, 2] rfl) (hD.sub [0, 1, 2] (by decide) rfl) hS (lv_sub hl [0, 3, 4] rfl)
  exact lp1 16 0 (by omega) _ _ ls (hP.sub [0, 1, 2] rfl) (hD.sub [0, 1, 2] (by decide) rfl) hS (lv_sub hl [0, 1, 2] rfl)

theorem d_S_absorb_0 : decode b_S_absorb 0 = .ok (.aload_n 0, 1) := by decide +kernel
theorem d_S_absorb_1 : decode b_S_absorb 1 = .ok (.getfield 18, 3) := by decide +kernel
theorem d_S_absorb_4 : decode b_S_absorb 4 = .ok (.iload_n 1, 1) := by decide +kernel
theorem d_S_absorb_5 : decode b_S_absorb 5 = .ok (.iload_n 2, 1) := by decide +kernel
theorem d_S_absorb_6 : decode b_S_absorb 6 = .ok (.invokestatic 25, 3) := by decide +kernel
theorem d_S_absorb_9 : decode b_S_absorb 9 = .ok (.lxor, 1) := by decide +kernel
theorem d_S_absorb_10 : decode b_S_absorb 10 = .ok (.lstore 5, 2) := by decide +kernel
theorem d_S_absorb_12 : decode b_S_absorb 12 = .ok (.aload_n 0, 1) := by decide +kernel
theorem d_S_absorb_13 : decode b_S_absorb 13 = .ok (.getfield 22, 3) := by decide +kernel
theorem d_S_absorb_16 : decode b_S_absorb 16 = .ok (.iload_n 3, 1) := by decide +kernel
theorem d_S_absorb_17 : decode b_S_absorb 17 = .ok (.iload 4, 2) := by decide +kernel
theorem d_S_absorb_19 : decode b_S_absorb 19 = .ok (.invokestatic 25, 3) := by decide +kernel
theorem d_S_absorb_22 : decode b_S_absorb 22 = .ok (.lxor, 1) := by decide +kernel
theorem d_S_absorb_23 : decode b_S_absorb 23 = .ok (.lstore 7, 2) := by decide +kernel
theorem d_S_absorb_25 : decode b_S_absorb 25 = .ok (.aload_n 0, 1) := by decide +kernel
theorem d_S_absorb_26 : decode b_S_absorb 26 = .ok (.lconst 0, 1) := by decide +kernel
theorem d_S_absorb_27 : decode b_S_absorb 27 = .ok (.putfield 18, 3) := by decide +kernel
theorem d_S_absorb_30 : decode b_S_absorb 30 = .ok (.aload_n 0, 1) := by decide +kernel
theorem d_S_absorb_31 : decode b_S_absorb 31 = .ok (.lconst 0, 1) := by decide +kernel
theorem d_S_absorb_32 : decode b_S_absorb 32 = .ok (.putfield 22, 3) := by decide +kernel
theorem d_S_absorb_35 : decode b_S_absorb 35 = .ok (.aload_n 0, 1) := by decide +kernel
theorem d_S_absorb_36 : decode b_S_absorb 36 = .ok (.lload 7, 2) := by decide +kernel
theorem d_S_absorb_38 : decode b_S_absorb 38 = .ok (.invokevirtual 31, 3) := by decide +kernel
theorem d_S_absorb_41 : decode b_S_absorb 41 = .ok (.aload_n 0, 1) := by decide +kernel
theorem d_S_absorb_42 : decode b_S_absorb 42 = .ok (.lload 5, 2) := by decide +kernel
theorem d_S_absorb_44 : decode b_S_absorb 44 = .ok (.invokevirtual 31, 3) := by decide +kernel
theorem d_S_absorb_47 : decode b_S_absorb 47 = .ok (.return_, 1) := by decide +kernel

def rm_S_absorb : Room := { frames := 1, cells := 0, slots := 0, locals := 26 }
set_option maxHeartbeats 4000000 in
set_option maxRecDepth 100000 in
theorem c_S_absorb (l : Launch) (D : va_G) (cI cL cB : ClassId) (tS tF : Nat) (h : Nat) (q1 : Nat) (q2 : Nat) (th : Nat → Int64) (tl : Nat → Int64) (x : Int64) (y : Int64) (a : Int32) (b : Int32) (c0 : Int32) (d0 : Int32) (sz : Nat)  : Met l y_S_absorb (sbw y_S_absorb b_S_absorb 9 none) rm_S_absorb (sbPc D cI cL cB tS tF [.ref h, .int a, .int b, .int c0, .int d0] sz [(h, .inr (3, [.ref q1, .ref q2, .long x, .long y])), (q1, .inl (cL, 16, .inr (.inl th))), (q2, .inl (cL, 16, .inr (.inl tl)))]) (sbQv D (fun (_ : Unit) => True) (fun (_ : Unit) => [(h, .inr (3, [.ref q1, .ref q2, .long ((gabs th tl (x, y) a b c0 d0).1), .long ((gabs th tl (x, y) a b c0 d0).2)])), (q1, .inl (cL, 16, .inr (.inl th))), (q2, .inl (cL, 16, .inr (.inl tl)))]) (va_A [(h, .inr (3, [.ref q1, .ref q2, .long x, .long y])), (q1, .inl (cL, 16, .inr (.inl th))), (q2, .inl (cL, 16, .inr (.inl tl)))] sz)) 0 0 (va_A [(h, .inr (3, [.ref q1, .ref q2, .long x, .long y])), (q1, .inl (cL, 16, .inr (.inl th))), (q2, .inl (cL, 16, .inr (.inl tl)))] sz) := by
  refine sb_ofW (Qc := fun A => (sbQv D (fun (_ : Unit) => True) (fun (_ : Unit) => [(h, .inr (3, [.ref q1, .ref q2, .long ((gabs th tl (x, y) a b c0 d0).1), .long ((gabs th tl (x, y) a b c0 d0).2)])), (q1, .inl (cL, 16, .inr (.inl th))), (q2, .inl (cL, 16, .inr (.inl tl)))]) A)) (by decide) (Nat.le_of_ble_eq_true rfl) ?_
  intro p e s m args below meth c A ls hx hb hr hml hts hown hlocks hin hsz hP hG hD hA hS hl
  have hl : lv_has ls 9 [(0, .ref h), (1, .int a), (2, .int b), (3, .int c0), (4, .int d0)] := hl
  refine lv_aload_n hx hb d_S_absorb_0 rfl (lv_at hl 0 rfl) ?_
  refine va_get (D := D) (ci := 3) (v := .long x) (C := R_S) (T := F_S) (N := 4) hx hb hts in_S hown hG.1 hP 0 rfl rfl 2 (by decide) (hts _ k_99) (fun _ h9 => h9) rfl d_S_absorb_1 ?_
  refine lv_iload_n hx hb d_S_absorb_4 rfl (lv_at hl 1 rfl) ?_
  refine lv_iload_n hx hb d_S_absorb_5 rfl (lv_at hl 2 rfl) ?_
  refine vp_callSl (va_runS (As := [.int a, .int b]) (rest := [.long x]) ⟨hx, hb, hml, hown, hts⟩ (c_S_joined l D cI cL cB tS tF a b ) (va_cwS 2 hts (sb_gS k_470 k_471 k_27 k_472) rfl rfl rfl (by decide +kernel) ⟨Nat.le_of_ble_eq_true rfl, Nat.le_of_ble_eq_true rfl⟩) (sb_rS hG hP hS [] rfl) rfl rfl hl.1 rfl (lv_room (Nat.le_of_ble_eq_true rfl)) d_S_absorb_6 ⟨Nat.le_of_ble_eq_true rfl, Nat.le_of_ble_eq_true rfl⟩).run (fun r_1 er_1 => ?_)
  subst er_1
  refine lv_lxor hx hb d_S_absorb_9 ?_
  refine lv_topl (fun x_2 ex_2 => ?_)
  refine lv_lstore (lv' := [(5, .long x_2), (0, .ref h), (1, .int a), (2, .int b), (3, .int c0), (4, .int d0)]) hx hb d_S_absorb_10 hl (by decide) rfl (fun ls hl => ?_)
  refine lv_aload_n hx hb d_S_absorb_12 rfl (lv_at hl 1 rfl) ?_
  refine va_get (D := D) (ci := 3) (v := .long y) (C := R_S) (T := F_S) (N := 4) hx hb hts in_S hown hG.1 hP 0 rfl rfl 3 (by decide) (hts _ k_101) (fun _ h9 => h9) rfl d_S_absorb_13 ?_
  refine lv_iload_n hx hb d_S_absorb_16 rfl (lv_at hl 4 rfl) ?_
  refine lv_iload hx hb d_S_absorb_17 (lv_at hl 5 rfl) ?_
  refine vp_callSl (va_runS (As := [.int c0, .int d0]) (rest := [.long y]) ⟨hx, hb, hml, hown, hts⟩ (c_S_joined l D cI cL cB tS tF c0 d0 ) (va_cwS 2 hts (sb_gS k_470 k_471 k_27 k_472) rfl rfl rfl (by decide +kernel) ⟨Nat.le_of_ble_eq_true rfl, Nat.le_of_ble_eq_true rfl⟩) (sb_rS hG hP hS [] rfl) rfl rfl hl.1 rfl (lv_room (Nat.le_of_ble_eq_true rfl)) d_S_absorb_19 ⟨Nat.le_of_ble_eq_true rfl, Nat.le_of_ble_eq_true rfl⟩).run (fun r_3 er_3 => ?_)
  subst er_3
  refine lv_lxor hx hb d_S_absorb_22 ?_
  refine lv_topl (fun x_4 ex_4 => ?_)
  refine lv_lstore (lv' := [(7, .long x_4), (5, .long x_2), (0, .ref h), (1, .int a), (2, .int b), (3, .int c0), (4, .int d0)]) hx hb d_S_absorb_23 hl (by decide) rfl (fun ls hl => ?_)
  refine lv_aload_n hx hb d_S_absorb_25 rfl (lv_at hl 2 rfl) ?_
  refine lv_lconst (v := 0) hx hb d_S_absorb_26 (by decide) ?_
  refine va_put (D := D) (ci := 3) (v := .long 0) (ty := .long) (C := R_S) (T := F_S) (N := 4) hx hb hts in_S tq_S tq_S_ok nq_S hown hG.1 hP hD hS 0 rfl rfl 2 (by decide) (hts _ k_99) (fun _ h9 => h9) rfl (by decide +kernel) rfl rfl (Nat.le_of_ble_eq_true rfl) d_S_absorb_27 (fun H locs hP hD hS => ?_)
  have hP : va_P D vwCl [(h, .inr (3, [.ref q1, .ref q2, .long 0, .long y])), (q1, .inl (cL, 16, .inr (.inl th))), (q2, .inl (cL, 16, .inr (.inl tl)))] H := hP
  have hD : va_D A [(h, .inr (3, [.ref q1, .ref q2, .long 0, .long y])), (q1, .inl (cL, 16, .inr (.inl th))), (q2, .inl (cL, 16, .inr (.inl tl)))] := hD
  refine lv_aload_n hx hb d_S_absorb_30 rfl (lv_at hl 2 rfl) ?_
  refine lv_lconst (v := 0) hx hb d_S_absorb_31 (by decide) ?_
  refine va_put (D := D) (ci := 3) (v := .long 0) (ty := .long) (C := R_S) (T := F_S) (N := 4) hx hb hts in_S tq_S tq_S_ok nq_S hown hG.1 hP hD hS 0 rfl rfl 3 (by decide) (hts _ k_101) (fun _ h9 => h9) rfl (by decide +kernel) rfl rfl (Nat.le_of_ble_eq_true rfl) d_S_absorb_32 (fun H locs hP hD hS => ?_)
  have hP : va_P D vwCl [(h, .inr (3, [.ref q1, .ref q2, .long 0, .long 0])), (q1, .inl (cL, 16, .inr (.inl th))), (q2, .inl (cL, 16, .inr (.inl tl)))] H := hP
  have hD : va_D A [(h, .inr (3, [.ref q1, .ref q2, .long 0, .long 0])), (q1, .inl (cL, 16, .inr (.inl th))), (q2, .inl (cL, 16, .inr (.inl tl)))] := hD
  refine lv_aload_n hx hb d_S_absorb_35 rfl (lv_at hl 2 rfl) ?_
  refine lv_lload hx hb d_S_absorb_36 (lv_at hl 0 rfl) ?_
  refine sb_callv (wr := []) (va_runV (As := [.long x_4]) (rest := []) ⟨hx, hb, hml, hown, hts⟩ (c_S_multiplyBy l D cI cL cB tS tF h q1 q2 th tl 0 0 x_4 _ ) (cwV 1 hts (sb_gV k_573 k_575 k_2 k_27 k_576) rfl rfl rfl (by decide +kernel) ⟨Nat.le_of_ble_eq_true rfl, Nat.le_of_ble_eq_true rfl⟩) (sb_pV hG hP hD hS hA [0, 1, 2] (by decide) rfl (ci := 3) (q0 := 0) rfl rfl) rfl rfl hl.1 rfl (lv_room (Nat.le_of_ble_eq_true rfl)) d_S_absorb_38 ⟨Nat.le_of_ble_eq_true rfl, Nat.le_of_ble_eq_true rfl⟩) hP hD hS hA [0, 1, 2] [] rfl rfl (by decide) (by decide) (fun u H locs hw_5 hP hD hS => ?_)
  have hP : va_P D vwCl [(h, .inr (3, [.ref q1, .ref q2, .long ((gmulx th tl x_4 (0, 0)).1), .long ((gmulx th tl x_4 (0, 0)).2)])), (q1, .inl (cL, 16, .inr (.inl th))), (q2, .inl (cL, 16, .inr (.inl tl)))] H := hP
  have hD : va_D A [(h, .inr (3, [.ref q1, .ref q2, .long ((gmulx th tl x_4 (0, 0)).1), .long ((gmulx th tl x_4 (0, 0)).2)])), (q1, .inl (cL, 16, .inr (.inl th))), (q2, .inl (cL, 16, .inr (.inl tl)))] := hD
  refine lv_aload_n hx hb d_S_absorb_41 rfl (lv_at hl 2 rfl) ?_
  refine lv_lload hx hb d_S_absorb_42 (lv_at hl 1 rfl) ?_
  refine sb_callv (wr := []) (va_runV (As := [.long x_2]) (rest := []) ⟨hx, hb, hml, hown, hts⟩ (c_S_multiplyBy l D cI cL cB tS tF h q1 q2 th tl ((gmulx th tl x_4 (0, 0)).1) ((gmulx th tl x_4 (0, 0)).2) x_2 _ ) (cwV 1 hts (sb_gV k_573 k_575 k_2 k_27 k_576) rfl rfl rfl (by decide +kernel) ⟨Nat.le_of_ble_eq_true rfl, Nat.le_of_ble_eq_true rfl⟩) (sb_pV hG hP hD hS hA [0, 1, 2] (by decide) rfl (ci := 3) (q0 := 0) rfl rfl) rfl rfl hl.1 rfl (lv_room (Nat.le_of_ble_eq_true rfl)) d_S_absorb_44 ⟨Nat.le_of_ble_eq_true rfl, Nat.le_of_ble_eq_true rfl⟩) hP hD hS hA [0, 1, 2] [] rfl rfl (by decide) (by decide) (fun u H locs hw_6 hP hD hS => ?_)
  have hP : va_P D vwCl [(h, .inr (3, [.ref q1, .ref q2, .long ((gmulx th tl x_2 (((gmulx th tl x_4 (0, 0)).1), ((gmulx th tl x_4 (0, 0)).2))).1), .long ((gmulx th tl x_2 (((gmulx th tl x_4 (0, 0)).1), ((gmulx th tl x_4 (0, 0)).2))).2)])), (q1, .inl (cL, 16, .inr (.inl th))), (q2, .inl (cL, 16, .inr (.inl tl)))] H := hP
  have hD : va_D A [(h, .inr (3, [.ref q1, .ref q2, .long ((gmulx th tl x_2 (((gmulx th tl x_4 (0, 0)).1), ((gmulx th tl x_4 (0, 0)).2))).1), .long ((gmulx th tl x_2 (((gmulx th tl x_4 (0, 0)).1), ((gmulx th tl x_4 (0, 0)).2))).2)])), (q1, .inl (cL, 16, .inr (.inl th))), (q2, .inl (cL, 16, .inr (.inl tl)))] := hD
  subst ex_4
  subst ex_2
  have hP9 := hP.sub (ws' := [(h, .inr (3, [.ref q1, .ref q2, .long ((gmulx th tl (x ^^^ (joinL a b)) (((gmulx th tl (y ^^^ (joinL c0 d0)) (0, 0)).1), ((gmulx th tl (y ^^^ (joinL c0 d0)) (0, 0)).2))).1), .long ((gmulx th tl (x ^^^ (joinL a b)) (((gmulx th tl (y ^^^ (joinL c0 d0)) (0, 0)).1), ((gmulx th tl (y ^^^ (joinL c0 d0)) (0, 0)).2))).2)])), (q1, .inl (cL, 16, .inr (.inl th))), (q2, .inl (cL, 16, .inr (.inl tl)))]) [0, 1, 2] rfl
  have hD9 := hD.sub (ws' := [(h, .inr (3, [.ref q1, .ref q2, .long ((gmulx th tl (x ^^^ (joinL a b)) (((gmulx th tl (y ^^^ (joinL c0 d0)) (0, 0)).1), ((gmulx th tl (y ^^^ (joinL c0 d0)) (0, 0)).2))).1), .long ((gmulx th tl (x ^^^ (joinL a b)) (((gmulx th tl (y ^^^ (joinL c0 d0)) (0, 0)).1), ((gmulx th tl (y ^^^ (joinL c0 d0)) (0, 0)).2))).2)])), (q1, .inl (cL, 16, .inr (.inl th))), (q2, .inl (cL, 16, .inr (.inl tl)))]) [0, 1, 2] (by decide) rfl
  exact W.vret hx hb hr (fun t ht hW => ⟨⟨(), rfl, trivial, by rw [ht]; exact hP9, hD9⟩, hS.F ht⟩) hS.2.2 d_S_absorb_47

theorem d_S_setKey_0 : decode b_S_setKey 0 = .ok (.iload_n 1, 1) := by decide +kernel
theorem d_S_setKey_1 : decode b_S_setKey 1 = .ok (.iload_n 2, 1) := by decide +kernel
theorem d_S_setKey_2 : decode b_S_setKey 2 = .ok (.invokestatic 25, 3) := by decide +kernel
theorem d_S_setKey_5 : decode b_S_setKey 5 = .ok (.lstore 5, 2) := by decide +kernel
theorem d_S_setKey_7 : decode b_S_setKey 7 = .ok (.iload_n 3, 1) := by decide +kernel
theorem d_S_setKey_8 : decode b_S_setKey 8 = .ok (.iload 4, 2) := by decide +kernel
theorem d_S_setKey_10 : decode b_S_setKey 10 = .ok (.invokestatic 25, 3) := by decide +kernel
theorem d_S_setKey_13 : decode b_S_setKey 13 = .ok (.lstore 7, 2) := by decide +kernel
theorem d_S_setKey_15 : decode b_S_setKey 15 = .ok (.bipush 8, 2) := by decide +kernel
theorem d_S_setKey_17 : decode b_S_setKey 17 = .ok (.istore 9, 2) := by decide +kernel
theorem d_S_setKey_19 : decode b_S_setKey 19 = .ok (.iload 9, 2) := by decide +kernel
theorem d_S_setKey_21 : decode b_S_setKey 21 = .ok (.ifCond .le 64, 3) := by decide +kernel
theorem d_S_setKey_24 : decode b_S_setKey 24 = .ok (.aload_n 0, 1) := by decide +kernel
theorem d_S_setKey_25 : decode b_S_setKey 25 = .ok (.getfield 9, 3) := by decide +kernel
theorem d_S_setKey_28 : decode b_S_setKey 28 = .ok (.iload 9, 2) := by decide +kernel
theorem d_S_setKey_30 : decode b_S_setKey 30 = .ok (.lload 5, 2) := by decide +kernel
theorem d_S_setKey_32 : decode b_S_setKey 32 = .ok (.lastore, 1) := by decide +kernel
theorem d_S_setKey_33 : decode b_S_setKey 33 = .ok (.aload_n 0, 1) := by decide +kernel
theorem d_S_setKey_34 : decode b_S_setKey 34 = .ok (.getfield 15, 3) := by decide +kernel
theorem d_S_setKey_37 : decode b_S_setKey 37 = .ok (.iload 9, 2) := by decide +kernel
theorem d_S_setKey_39 : decode b_S_setKey 39 = .ok (.lload 7, 2) := by decide +kernel
theorem d_S_setKey_41 : decode b_S_setKey 41 = .ok (.lastore, 1) := by decide +kernel
theorem d_S_setKey_42 : decode b_S_setKey 42 = .ok (.lload 7, 2) := by decide +kernel
theorem d_S_setKey_44 : decode b_S_setKey 44 = .ok (.lconst 1, 1) := by decide +kernel
theorem d_S_setKey_45 : decode b_S_setKey 45 = .ok (.land, 1) := by decide +kernel
theorem d_S_setKey_46 : decode b_S_setKey 46 = .ok (.ldc2_w 29, 3) := by decide +kernel
theorem d_S_setKey_49 : decode b_S_setKey 49 = .ok (.lmul, 1) := by decide +kernel
theorem d_S_setKey_50 : decode b_S_setKey 50 = .ok (.lstore 10, 2) := by decide +kernel
theorem d_S_setKey_52 : decode b_S_setKey 52 = .ok (.lload 7, 2) := by decide +kernel
theorem d_S_setKey_54 : decode b_S_setKey 54 = .ok (.iconst 1, 1) := by decide +kernel
theorem d_S_setKey_55 : decode b_S_setKey 55 = .ok (.lushr, 1) := by decide +kernel
theorem d_S_setKey_56 : decode b_S_setKey 56 = .ok (.lload 5, 2) := by decide +kernel
theorem d_S_setKey_58 : decode b_S_setKey 58 = .ok (.bipush 63, 2) := by decide +kernel
theorem d_S_setKey_60 : decode b_S_setKey 60 = .ok (.lshl, 1) := by decide +kernel
theorem d_S_setKey_61 : decode b_S_setKey 61 = .ok (.lor, 1) := by decide +kernel
theorem d_S_setKey_62 : decode b_S_setKey 62 = .ok (.lstore 7, 2) := by decide +kernel
theorem d_S_setKey_64 : decode b_S_setKey 64 = .ok (.lload 5, 2) := by decide +kernel
theorem d_S_setKey_66 : decode b_S_setKey 66 = .ok (.iconst 1, 1) := by decide +kernel
theorem d_S_setKey_67 : decode b_S_setKey 67 = .ok (.lushr, 1) := by decide +kernel
theorem d_S_setKey_68 : decode b_S_setKey 68 = .ok (.lload 10, 2) := by decide +kernel
theorem d_S_setKey_70 : decode b_S_setKey 70 = .ok (.bipush 48, 2) := by decide +kernel
theorem d_S_setKey_72 : decode b_S_setKey 72 = .ok (.lshl, 1) := by decide +kernel
theorem d_S_setKey_73 : decode b_S_setKey 73 = .ok (.lxor, 1) := by decide +kernel
theorem d_S_setKey_74 : decode b_S_setKey 74 = .ok (.lstore 5, 2) := by decide +kernel
theorem d_S_setKey_76 : decode b_S_setKey 76 = .ok (.iload 9, 2) := by decide +kernel
theorem d_S_setKey_78 : decode b_S_setKey 78 = .ok (.iconst 1, 1) := by decide +kernel
theorem d_S_setKey_79 : decode b_S_setKey 79 = .ok (.ishr, 1) := by decide +kernel
theorem d_S_setKey_80 : decode b_S_setKey 80 = .ok (.istore 9, 2) := by decide +kernel
theorem d_S_setKey_82 : decode b_S_setKey 82 = .ok (.goto (-63), 3) := by decide +kernel
theorem d_S_setKey_85 : decode b_S_setKey 85 = .ok (.iconst 2, 1) := by decide +kernel
theorem d_S_setKey_86 : decode b_S_setKey 86 = .ok (.istore 9, 2) := by decide +kernel
theorem d_S_setKey_88 : decode b_S_setKey 88 = .ok (.iload 9, 2) := by decide +kernel
theorem d_S_setKey_90 : decode b_S_setKey 90 = .ok (.bipush 16, 2) := by decide +kernel
theorem d_S_setKey_92 : decode b_S_setKey 92 = .ok (.if_icmp .ge 78, 3) := by decide +kernel
theorem d_S_setKey_95 : decode b_S_setKey 95 = .ok (.iconst 1, 1) := by decide +kernel
theorem d_S_setKey_96 : decode b_S_setKey 96 = .ok (.istore 10, 2) := by decide +kernel
theorem d_S_setKey_98 : decode b_S_setKey 98 = .ok (.iload 10, 2) := by decide +kernel
theorem d_S_setKey_100 : decode b_S_setKey 100 = .ok (.iload 9, 2) := by decide +kernel
theorem d_S_setKey_102 : decode b_S_setKey 102 = .ok (.if_icmp .ge 59, 3) := by decide +kernel
theorem d_S_setKey_105 : decode b_S_setKey 105 = .ok (.aload_n 0, 1) := by decide +kernel
theorem d_S_setKey_106 : decode b_S_setKey 106 = .ok (.getfield 9, 3) := by decide +kernel
theorem d_S_setKey_109 : decode b_S_setKey 109 = .ok (.iload 9, 2) := by decide +kernel
theorem d_S_setKey_111 : decode b_S_setKey 111 = .ok (.iload 10, 2) := by decide +kernel
theorem d_S_setKey_113 : decode b_S_setKey 113 = .ok (.iadd, 1) := by decide +kernel
theorem d_S_setKey_114 : decode b_S_setKey 114 = .ok (.aload_n 0, 1) := by decide +kernel
theorem d_S_setKey_115 : decode b_S_setKey 115 = .ok (.getfield 9, 3) := by decide +kernel
theorem d_S_setKey_118 : decode b_S_setKey 118 = .ok (.iload 9, 2) := by decide +kernel
theorem d_S_setKey_120 : decode b_S_setKey 120 = .ok (.laload, 1) := by decide +kernel
theorem d_S_setKey_121 : decode b_S_setKey 121 = .ok (.aload_n 0, 1) := by decide +kernel
theorem d_S_setKey_122 : decode b_S_setKey 122 = .ok (.getfield 9, 3) := by decide +kernel
theorem d_S_setKey_125 : decode b_S_setKey 125 = .ok (.iload 10, 2) := by decide +kernel
theorem d_S_setKey_127 : decode b_S_setKey 127 = .ok (.laload, 1) := by decide +kernel
theorem d_S_setKey_128 : decode b_S_setKey 128 = .ok (.lxor, 1) := by decide +kernel
theorem d_S_setKey_129 : decode b_S_setKey 129 = .ok (.lastore, 1) := by decide +kernel
theorem d_S_setKey_130 : decode b_S_setKey 130 = .ok (.aload_n 0, 1) := by decide +kernel
theorem d_S_setKey_131 : decode b_S_setKey 131 = .ok (.getfield 15, 3) := by decide +kernel
theorem d_S_setKey_134 : decode b_S_setKey 134 = .ok (.iload 9, 2) := by decide +kernel
theorem d_S_setKey_136 : decode b_S_setKey 136 = .ok (.iload 10, 2) := by decide +kernel
theorem d_S_setKey_138 : decode b_S_setKey 138 = .ok (.iadd, 1) := by decide +kernel
theorem d_S_setKey_139 : decode b_S_setKey 139 = .ok (.aload_n 0, 1) := by decide +kernel
theorem d_S_setKey_140 : decode b_S_setKey 140 = .ok (.getfield 15, 3) := by decide +kernel
theorem d_S_setKey_143 : decode b_S_setKey 143 = .ok (.iload 9, 2) := by decide +kernel
theorem d_S_setKey_145 : decode b_S_setKey 145 = .ok (.laload, 1) := by decide +kernel
theorem d_S_setKey_146 : decode b_S_setKey 146 = .ok (.aload_n 0, 1) := by decide +kernel
theorem d_S_setKey_147 : decode b_S_setKey 147 = .ok (.getfield 15, 3) := by decide +kernel
theorem d_S_setKey_150 : decode b_S_setKey 150 = .ok (.iload 10, 2) := by decide +kernel
theorem d_S_setKey_152 : decode b_S_setKey 152 = .ok (.laload, 1) := by decide +kernel
theorem d_S_setKey_153 : decode b_S_setKey 153 = .ok (.lxor, 1) := by decide +kernel
theorem d_S_setKey_154 : decode b_S_setKey 154 = .ok (.lastore, 1) := by decide +kernel
theorem d_S_setKey_155 : decode b_S_setKey 155 = .ok (.iinc 10 1, 3) := by decide +kernel
theorem d_S_setKey_158 : decode b_S_setKey 158 = .ok (.goto (-60), 3) := by decide +kernel
theorem d_S_setKey_161 : decode b_S_setKey 161 = .ok (.iload 9, 2) := by decide +kernel
theorem d_S_setKey_163 : decode b_S_setKey 163 = .ok (.iconst 1, 1) := by decide +kernel
theorem d_S_setKey_164 : decode b_S_setKey 164 = .ok (.ishl, 1) := by decide +kernel
theorem d_S_setKey_165 : decode b_S_setKey 165 = .ok (.istore 9, 2) := by decide +kernel
theorem d_S_setKey_167 : decode b_S_setKey 167 = .ok (.goto (-79), 3) := by decide +kernel
theorem d_S_setKey_170 : decode b_S_setKey 170 = .ok (.return_, 1) := by decide +kernel

def rm_S_setKey : Room := { frames := 1, cells := 0, slots := 0, locals := 21 }
set_option maxHeartbeats 4000000 in
set_option maxRecDepth 100000 in
theorem c_S_setKey (l : Launch) (D : va_G) (cI cL cB : ClassId) (tS tF : Nat) (h : Nat) (q1 : Nat) (q2 : Nat) (th : Nat → Int64) (tl : Nat → Int64) (x : Int64) (y : Int64) (a : Int32) (b : Int32) (c0 : Int32) (d0 : Int32) (sz : Nat)  : Met l y_S_setKey (sbw y_S_setKey b_S_setKey 12 none) rm_S_setKey (sbPc D cI cL cB tS tF [.ref h, .int a, .int b, .int c0, .int d0] sz [(h, .inr (3, [.ref q1, .ref q2, .long x, .long y])), (q1, .inl (cL, 16, .inr (.inl th))), (q2, .inl (cL, 16, .inr (.inl tl)))]) (sbQv D (fun (u : (Nat → Int64) × (Nat → Int64)) => match u with | (uh, ul) => gtabP (joinL a b, joinL c0 d0).1 (gk1 (joinL a b, joinL c0 d0)).1 (gk1 (gk1 (joinL a b, joinL c0 d0))).1 (gk1 (gk1 (gk1 (joinL a b, joinL c0 d0)))).1 (th 0) uh ∧ gtabP (joinL a b, joinL c0 d0).2 (gk1 (joinL a b, joinL c0 d0)).2 (gk1 (gk1 (joinL a b, joinL c0 d0))).2 (gk1 (gk1 (gk1 (joinL a b, joinL c0 d0)))).2 (tl 0) ul) (fun (u : (Nat → Int64) × (Nat → Int64)) => match u with | (uh, ul) => [(h, .inr (3, [.ref q1, .ref q2, .long x, .long y])), (q1, .inl (cL, 16, .inr (.inl uh))), (q2, .inl (cL, 16, .inr (.inl ul)))]) (va_A [(h, .inr (3, [.ref q1, .ref q2, .long x, .long y])), (q1, .inl (cL, 16, .inr (.inl th))), (q2, .inl (cL, 16, .inr (.inl tl)))] sz)) 0 0 (va_A [(h, .inr (3, [.ref q1, .ref q2, .long x, .long y])), (q1, .inl (cL, 16, .inr (.inl th))), (q2, .inl (cL, 16, .inr (.inl tl)))] sz) := by
  refine sb_ofW (Qc := fun A => (sbQv D (fun (u : (Nat → Int64) × (Nat → Int64)) => match u with | (uh, ul) => gtabP (joinL a b, joinL c0 d0).1 (gk1 (joinL a b, joinL c0 d0)).1 (gk1 (gk1 (joinL a b, joinL c0 d0))).1 (gk1 (gk1 (gk1 (joinL a b, joinL c0 d0)))).1 (th 0) uh ∧ gtabP (joinL a b, joinL c0 d0).2 (gk1 (joinL a b, joinL c0 d0)).2 (gk1 (gk1 (joinL a b, joinL c0 d0))).2 (gk1 (gk1 (gk1 (joinL a b, joinL c0 d0)))).2 (tl 0) ul) (fun (u : (Nat → Int64) × (Nat → Int64)) => match u with | (uh, ul) => [(h, .inr (3, [.ref q1, .ref q2, .long x, .long y])), (q1, .inl (cL, 16, .inr (.inl uh))), (q2, .inl (cL, 16, .inr (.inl ul)))]) A)) (by decide) (Nat.le_of_ble_eq_true rfl) ?_
  intro p e s m args below meth c A ls hx hb hr hml hts hown hlocks hin hsz hP hG hD hA hS hl
  have hl : lv_has ls 12 [(0, .ref h), (1, .int a), (2, .int b), (3, .int c0), (4, .int d0)] := hl
  refine lv_iload_n hx hb d_S_setKey_0 rfl (lv_at hl 1 rfl) ?_
  refine lv_iload_n hx hb d_S_setKey_1 rfl (lv_at hl 2 rfl) ?_
  refine vp_callSl (va_runS (As := [.int a, .int b]) (rest := []) ⟨hx, hb, hml, hown, hts⟩ (c_S_joined l D cI cL cB tS tF a b ) (va_cwS 2 hts (sb_gS k_470 k_471 k_27 k_472) rfl rfl rfl (by decide +kernel) ⟨Nat.le_of_ble_eq_true rfl, Nat.le_of_ble_eq_true rfl⟩) (sb_rS hG hP hS [] rfl) rfl rfl hl.1 rfl (lv_room (Nat.le_of_ble_eq_true rfl)) d_S_setKey_2 ⟨Nat.le_of_ble_eq_true rfl, Nat.le_of_ble_eq_true rfl⟩).run (fun r_1 er_1 => ?_)
  subst er_1
  refine lv_topl (fun x_2 ex_2 => ?_)
  refine lv_lstore (lv' := [(5, .long x_2), (0, .ref h), (1, .int a), (2, .int b), (3, .int c0), (4, .int d0)]) hx hb d_S_setKey_5 hl (by decide) rfl (fun ls hl => ?_)
  refine lv_iload_n hx hb d_S_setKey_7 rfl (lv_at hl 4 rfl) ?_
  refine lv_iload hx hb d_S_setKey_8 (lv_at hl 5 rfl) ?_
  refine vp_callSl (va_runS (As := [.int c0, .int d0]) (rest := []) ⟨hx, hb, hml, hown, hts⟩ (c_S_joined l D cI cL cB tS tF c0 d0 ) (va_cwS 2 hts (sb_gS k_470 k_471 k_27 k_472) rfl rfl rfl (by decide +kernel) ⟨Nat.le_of_ble_eq_true rfl, Nat.le_of_ble_eq_true rfl⟩) (sb_rS hG hP hS [] rfl) rfl rfl hl.1 rfl (lv_room (Nat.le_of_ble_eq_true rfl)) d_S_setKey_10 ⟨Nat.le_of_ble_eq_true rfl, Nat.le_of_ble_eq_true rfl⟩).run (fun r_3 er_3 => ?_)
  subst er_3
  refine lv_topl (fun x_4 ex_4 => ?_)
  refine lv_lstore (lv' := [(7, .long x_4), (5, .long x_2), (0, .ref h), (1, .int a), (2, .int b), (3, .int c0), (4, .int d0)]) hx hb d_S_setKey_13 hl (by decide) rfl (fun ls hl => ?_)
  refine lv_bipush (v := 8) hx hb d_S_setKey_15 (by decide) ?_
  refine lv_istore (lv' := [(9, .int 8), (7, .long x_4), (5, .long x_2), (0, .ref h), (1, .int a), (2, .int b), (3, .int c0), (4, .int d0)]) hx hb d_S_setKey_17 hl (by decide) rfl (fun ls hl => ?_)
  refine lv_iload hx hb d_S_setKey_19 (lv_at hl 0 rfl) ?_
  refine lv_if_le (tgt := 85) hx hb d_S_setKey_21 (by decide) (fun c_5 => absurd c_5 (sb_leF (a := 8) (b := 0) rfl rfl (by omega) (by omega) (by omega))) (fun c_5 => ?_)
  refine lv_aload_n hx hb d_S_setKey_24 rfl (lv_at hl 3 rfl) ?_
  refine va_get (D := D) (ci := 3) (v := .ref q1) (C := R_S) (T := F_S) (N := 4) hx hb hts in_S hown hG.1 hP 0 rfl rfl 0 (by decide) (hts _ k_97) (fun _ h9 => h9) rfl d_S_setKey_25 ?_
  refine lv_iload hx hb d_S_setKey_28 (lv_at hl 0 rfl) ?_
  refine lv_lload hx hb d_S_setKey_30 (lv_at hl 2 rfl) ?_
  refine sb_lst hx hb hG.1 hP hD hS 1 rfl 8 rfl (by omega) (by omega) d_S_setKey_32 (fun f_6 H locs ef_6 hP hD hS => ?_)
  have hP : va_P D vwCl [(h, .inr (3, [.ref q1, .ref q2, .long x, .long y])), (q1, .inl (cL, 16, .inr (.inl f_6))), (q2, .inl (cL, 16, .inr (.inl tl)))] H := hP
  have hD : va_D A [(h, .inr (3, [.ref q1, .ref q2, .long x, .long y])), (q1, .inl (cL, 16, .inr (.inl f_6))), (q2, .inl (cL, 16, .inr (.inl tl)))] := hD
  have kf_6_0 : f_6 0 = th 0 := by rw [ef_6]; exact (pk_uLn (by decide)).trans rfl
  have kf_6_8 : f_6 8 = x_2 := by rw [ef_6]; exact pk_uLs
  refine lv_aload_n hx hb d_S_setKey_33 rfl (lv_at hl 3 rfl) ?_
  refine va_get (D := D) (ci := 3) (v := .ref q2) (C := R_S) (T := F_S) (N := 4) hx hb hts in_S hown hG.1 hP 0 rfl rfl 1 (by decide) (hts _ k_98) (fun _ h9 => h9) rfl d_S_setKey_34 ?_
  refine lv_iload hx hb d_S_setKey_37 (lv_at hl 0 rfl) ?_
  refine lv_lload hx hb d_S_setKey_39 (lv_at hl 1 rfl) ?_
  refine sb_lst hx hb hG.1 hP hD hS 2 rfl 8 rfl (by omega) (by omega) d_S_setKey_41 (fun f_7 H locs ef_7 hP hD hS => ?_)
  have hP : va_P D vwCl [(h, .inr (3, [.ref q1, .ref q2, .long x, .long y])), (q1, .inl (cL, 16, .inr (.inl f_6))), (q2, .inl (cL, 16, .inr (.inl f_7)))] H := hP
  have hD : va_D A [(h, .inr (3, [.ref q1, .ref q2, .long x, .long y])), (q1, .inl (cL, 16, .inr (.inl f_6))), (q2, .inl (cL, 16, .inr (.inl f_7)))] := hD
  have kf_7_0 : f_7 0 = tl 0 := by rw [ef_7]; exact (pk_uLn (by decide)).trans rfl
  have kf_7_8 : f_7 8 = x_4 := by rw [ef_7]; exact pk_uLs
  refine lv_lload hx hb d_S_setKey_42 (lv_at hl 1 rfl) ?_
  refine lv_lconst (v := 1) hx hb d_S_setKey_44 (by decide) ?_
  refine lv_land hx hb d_S_setKey_45 ?_
  refine lv_ldc2 (v := 57600) hx hb hown (hts (.constantLong R_S 29 57600) (by decide +kernel)) d_S_setKey_46 ?_
  refine lv_lmul hx hb d_S_setKey_49 ?_
  refine lv_topl (fun x_8 ex_8 => ?_)
  refine lv_lstore (lv' := [(10, .long x_8), (9, .int 8), (7, .long x_4), (5, .long x_2), (0, .ref h), (1, .int a), (2, .int b), (3, .int c0), (4, .int d0)]) hx hb d_S_setKey_50 hl (by decide) rfl (fun ls hl => ?_)
  refine lv_lload hx hb d_S_setKey_52 (lv_at hl 2 rfl) ?_
  refine lv_iconst (v := 1) hx hb d_S_setKey_54 (by decide) ?_
  refine lv_lushr (v := uL x_4 1) hx hb d_S_setKey_55 rfl ?_
  refine lv_lload hx hb d_S_setKey_56 (lv_at hl 3 rfl) ?_
  refine lv_bipush (v := 63) hx hb d_S_setKey_58 (by decide) ?_
  refine lv_lshl (v := sL x_2 63) hx hb d_S_setKey_60 rfl ?_
  refine lv_lor hx hb d_S_setKey_61 ?_
  refine lv_topl (fun x_9 ex_9 => ?_)
  refine lv_lstore (lv' := [(7, .long x_9), (10, .long x_8), (9, .int 8), (5, .long x_2), (0, .ref h), (1, .int a), (2, .int b), (3, .int c0), (4, .int d0)]) hx hb d_S_setKey_62 hl (by decide) rfl (fun ls hl => ?_)
  refine lv_lload hx hb d_S_setKey_64 (lv_at hl 3 rfl) ?_
  refine lv_iconst (v := 1) hx hb d_S_setKey_66 (by decide) ?_
  refine lv_lushr (v := uL x_2 1) hx hb d_S_setKey_67 rfl ?_
  refine lv_lload hx hb d_S_setKey_68 (lv_at hl 1 rfl) ?_
  refine lv_bipush (v := 48) hx hb d_S_setKey_70 (by decide) ?_
  refine lv_lshl (v := sL x_8 48) hx hb d_S_setKey_72 rfl ?_
  refine lv_lxor hx hb d_S_setKey_73 ?_
  refine lv_topl (fun x_10 ex_10 => ?_)
  refine lv_lstore (lv' := [(5, .long x_10), (7, .long x_9), (10, .long x_8), (9, .int 8), (0, .ref h), (1, .int a), (2, .int b), (3, .int c0), (4, .int d0)]) hx hb d_S_setKey_74 hl (by decide) rfl (fun ls hl => ?_)
  refine lv_iload hx hb d_S_setKey_76 (lv_at hl 3 rfl) ?_
  refine lv_iconst (v := 1) hx hb d_S_setKey_78 (by decide) ?_
  refine lv_ishr hx hb d_S_setKey_79 ?_
  refine sb_topn 4 (by decide) ?_
  refine lv_istore (lv' := [(9, .int (nI 4)), (5, .long x_10), (7, .long x_9), (10, .long x_8), (0, .ref h), (1, .int a), (2, .int b), (3, .int c0), (4, .int d0)]) hx hb d_S_setKey_80 hl (by decide) rfl (fun ls hl => ?_)
  refine lv_goto (tgt := 19) hx hb d_S_setKey_82 (by decide) ?_
  refine lv_iload hx hb d_S_setKey_19 (lv_at hl 0 rfl) ?_
  refine lv_if_le (tgt := 85) hx hb d_S_setKey_21 (by decide) (fun c_11 => absurd c_11 (sb_leF (a := 4) (b := 0) rfl rfl (by omega) (by omega) (by omega))) (fun c_11 => ?_)
  refine lv_aload_n hx hb d_S_setKey_24 rfl (lv_at hl 4 rfl) ?_
  refine va_get (D := D) (ci := 3) (v := .ref q1) (C := R_S) (T := F_S) (N := 4) hx hb hts in_S hown hG.1 hP 0 rfl rfl 0 (by decide) (hts _ k_97) (fun _ h9 => h9) rfl d_S_setKey_25 ?_
  refine lv_iload hx hb d_S_setKey_28 (lv_at hl 0 rfl) ?_
  refine lv_lload hx hb d_S_setKey_30 (lv_at hl 1 rfl) ?_
  refine sb_lst hx hb hG.1 hP hD hS 1 rfl 4 rfl (by omega) (by omega) d_S_setKey_32 (fun f_12 H locs ef_12 hP hD hS => ?_)
  have hP : va_P D vwCl [(h, .inr (3, [.ref q1, .ref q2, .long x, .long y])), (q1, .inl (cL, 16, .inr (.inl f_12))), (q2, .inl (cL, 16, .inr (.inl f_7)))] H := hP
  have hD : va_D A [(h, .inr (3, [.ref q1, .ref q2, .long x, .long y])), (q1, .inl (cL, 16, .inr (.inl f_12))), (q2, .inl (cL, 16, .inr (.inl f_7)))] := hD
  have kf_12_0 : f_12 0 = th 0 := by rw [ef_12]; exact (pk_uLn (by decide)).trans kf_6_0
  have kf_12_8 : f_12 8 = x_2 := by rw [ef_12]; exact (pk_uLn (by decide)).trans kf_6_8
  have kf_12_4 : f_12 4 = x_10 := by rw [ef_12]; exact pk_uLs
  refine lv_aload_n hx hb d_S_setKey_33 rfl (lv_at hl 4 rfl) ?_
  refine va_get (D := D) (ci := 3) (v := .ref q2) (C := R_S) (T := F_S) (N := 4) hx hb hts in_S hown hG.1 hP 0 rfl rfl 1 (by decide) (hts _ k_98) (fun _ h9 => h9) rfl d_S_setKey_34 ?_
  refine lv_iload hx hb d_S_setKey_37 (lv_at hl 0 rfl) ?_
  refine lv_lload hx hb d_S_setKey_39 (lv_at hl 2 rfl) ?_
  refine sb_lst hx hb hG.1 hP hD hS 2 rfl 4 rfl (by omega) (by omega) d_S_setKey_41 (fun f_13 H locs ef_13 hP hD hS => ?_)
  have hP : va_P D vwCl [(h, .inr (3, [.ref q1, .ref q2, .long x, .long y])), (q1, .inl (cL, 16, .inr (.inl f_12))), (q2, .inl (cL, 16, .inr (.inl f_13)))] H := hP
  have hD : va_D A [(h, .inr (3, [.ref q1, .ref q2, .long x, .long y])), (q1, .inl (cL, 16, .inr (.inl f_12))), (q2, .inl (cL, 16, .inr (.inl f_13)))] := hD
  have kf_13_0 : f_13 0 = tl 0 := by rw [ef_13]; exact (pk_uLn (by decide)).trans kf_7_0
  have kf_13_8 : f_13 8 = x_4 := by rw [ef_13]; exact (pk_uLn (by decide)).trans kf_7_8
  have kf_13_4 : f_13 4 = x_9 := by rw [ef_13]; exact pk_uLs
  refine lv_lload hx hb d_S_setKey_42 (lv_at hl 2 rfl) ?_
  refine lv_lconst (v := 1) hx hb d_S_setKey_44 (by decide) ?_
  refine lv_land hx hb d_S_setKey_45 ?_
  refine lv_ldc2 (v := 57600) hx hb hown (hts (.constantLong R_S 29 57600) (by decide +kernel)) d_S_setKey_46 ?_
  refine lv_lmul hx hb d_S_setKey_49 ?_
  refine lv_topl (fun x_14 ex_14 => ?_)
  refine lv_lstore (lv' := [(10, .long x_14), (9, .int (nI 4)), (5, .long x_10), (7, .long x_9), (0, .ref h), (1, .int a), (2, .int b), (3, .int c0), (4, .int d0)]) hx hb d_S_setKey_50 hl (by decide) rfl (fun ls hl => ?_)
  refine lv_lload hx hb d_S_setKey_52 (lv_at hl 3 rfl) ?_
  refine lv_iconst (v := 1) hx hb d_S_setKey_54 (by decide) ?_
  refine lv_lushr (v := uL x_9 1) hx hb d_S_setKey_55 rfl ?_
  refine lv_lload hx hb d_S_setKey_56 (lv_at hl 2 rfl) ?_
  refine lv_bipush (v := 63) hx hb d_S_setKey_58 (by decide) ?_
  refine lv_lshl (v := sL x_10 63) hx hb d_S_setKey_60 rfl ?_
  refine lv_lor hx hb d_S_setKey_61 ?_
  refine lv_topl (fun x_15 ex_15 => ?_)
  refine lv_lstore (lv' := [(7, .long x_15), (10, .long x_14), (9, .int (nI 4)), (5, .long x_10), (0, .ref h), (1, .int a), (2, .int b), (3, .int c0), (4, .int d0)]) hx hb d_S_setKey_62 hl (by decide) rfl (fun ls hl => ?_)
  refine lv_lload hx hb d_S_setKey_64 (lv_at hl 3 rfl) ?_
  refine lv_iconst (v := 1) hx hb d_S_setKey_66 (by decide) ?_
  refine lv_lushr (v := uL x_10 1) hx hb d_S_setKey_67 rfl ?_
  refine lv_lload hx hb d_S_setKey_68 (lv_at hl 1 rfl) ?_
  refine lv_bipush (v := 48) hx hb d_S_setKey_70 (by decide) ?_
  refine lv_lshl (v := sL x_14 48) hx hb d_S_setKey_72 rfl ?_
  refine lv_lxor hx hb d_S_setKey_73 ?_
  refine lv_topl (fun x_16 ex_16 => ?_)
  refine lv_lstore (lv' := [(5, .long x_16), (7, .long x_15), (10, .long x_14), (9, .int (nI 4)), (0, .ref h), (1, .int a), (2, .int b), (3, .int c0), (4, .int d0)]) hx hb d_S_setKey_74 hl (by decide) rfl (fun ls hl => ?_)
  refine lv_iload hx hb d_S_setKey_76 (lv_at hl 3 rfl) ?_
  refine lv_iconst (v := 1) hx hb d_S_setKey_78 (by decide) ?_
  refine lv_ishr hx hb d_S_setKey_79 ?_
  refine sb_topn 2 (by decide) ?_
  refine lv_istore (lv' := [(9, .int (nI 2)), (5, .long x_16), (7, .long x_15), (10, .long x_14), (0, .ref h), (1, .int a), (2, .int b), (3, .int c0), (4, .int d0)]) hx hb d_S_setKey_80 hl (by decide) rfl (fun ls hl => ?_)
  refine lv_goto (tgt := 19) hx hb d_S_setKey_82 (by decide) ?_
  refine lv_iload hx hb d_S_setKey_19 (lv_at hl 0 rfl) ?_
  refine lv_if_le (tgt := 85) hx hb d_S_setKey_21 (by decide) (fun c_17 => absurd c_17 (sb_leF (a := 2) (b := 0) rfl rfl (by omega) (by omega) (by omega))) (fun c_17 => ?_)
  refine lv_aload_n hx hb d_S_setKey_24 rfl (lv_at hl 4 rfl) ?_
  refine va_get (D := D) (ci := 3) (v := .ref q1) (C := R_S) (T := F_S) (N := 4) hx hb hts in_S hown hG.1 hP 0 rfl rfl 0 (by decide) (hts _ k_97) (fun _ h9 => h9) rfl d_S_setKey_25 ?_
  refine lv_iload hx hb d_S_setKey_28 (lv_at hl 0 rfl) ?_
  refine lv_lload hx hb d_S_setKey_30 (lv_at hl 1 rfl) ?_
  refine sb_lst hx hb hG.1 hP hD hS 1 rfl 2 rfl (by omega) (by omega) d_S_setKey_32 (fun f_18 H locs ef_18 hP hD hS => ?_)
  have hP : va_P D vwCl [(h, .inr (3, [.ref q1, .ref q2, .long x, .long y])), (q1, .inl (cL, 16, .inr (.inl f_18))), (q2, .inl (cL, 16, .inr (.inl f_13)))] H := hP
  have hD : va_D A [(h, .inr (3, [.ref q1, .ref q2, .long x, .long y])), (q1, .inl (cL, 16, .inr (.inl f_18))), (q2, .inl (cL, 16, .inr (.inl f_13)))] := hD
  have kf_18_0 : f_18 0 = th 0 := by rw [ef_18]; exact (pk_uLn (by decide)).trans kf_12_0
  have kf_18_8 : f_18 8 = x_2 := by rw [ef_18]; exact (pk_uLn (by decide)).trans kf_12_8
  have kf_18_4 : f_18 4 = x_10 := by rw [ef_18]; exact (pk_uLn (by decide)).trans kf_12_4
  have kf_18_2 : f_18 2 = x_16 := by rw [ef_18]; exact pk_uLs
  refine lv_aload_n hx hb d_S_setKey_33 rfl (lv_at hl 4 rfl) ?_
  refine va_get (D := D) (ci := 3) (v := .ref q2) (C := R_S) (T := F_S) (N := 4) hx hb hts in_S hown hG.1 hP 0 rfl rfl 1 (by decide) (hts _ k_98) (fun _ h9 => h9) rfl d_S_setKey_34 ?_
  refine lv_iload hx hb d_S_setKey_37 (lv_at hl 0 rfl) ?_
  refine lv_lload hx hb d_S_setKey_39 (lv_at hl 2 rfl) ?_
  refine sb_lst hx hb hG.1 hP hD hS 2 rfl 2 rfl (by omega) (by omega) d_S_setKey_41 (fun f_19 H locs ef_19 hP hD hS => ?_)
  have hP : va_P D vwCl [(h, .inr (3, [.ref q1, .ref q2, .long x, .long y])), (q1, .inl (cL, 16, .inr (.inl f_18))), (q2, .inl (cL, 16, .inr (.inl f_19)))] H := hP
  have hD : va_D A [(h, .inr (3, [.ref q1, .ref q2, .long x, .long y])), (q1, .inl (cL, 16, .inr (.inl f_18))), (q2, .inl (cL, 16, .inr (.inl f_19)))] := hD
  have kf_19_0 : f_19 0 = tl 0 := by rw [ef_19]; exact (pk_uLn (by decide)).trans kf_13_0
  have kf_19_8 : f_19 8 = x_4 := by rw [ef_19]; exact (pk_uLn (by decide)).trans kf_13_8
  have kf_19_4 : f_19 4 = x_9 := by rw [ef_19]; exact (pk_uLn (by decide)).trans kf_13_4
  have kf_19_2 : f_19 2 = x_15 := by rw [ef_19]; exact pk_uLs
  refine lv_lload hx hb d_S_setKey_42 (lv_at hl 2 rfl) ?_
  refine lv_lconst (v := 1) hx hb d_S_setKey_44 (by decide) ?_
  refine lv_land hx hb d_S_setKey_45 ?_
  refine lv_ldc2 (v := 57600) hx hb hown (hts (.constantLong R_S 29 57600) (by decide +kernel)) d_S_setKey_46 ?_
  refine lv_lmul hx hb d_S_setKey_49 ?_
  refine lv_topl (fun x_20 ex_20 => ?_)
  refine lv_lstore (lv' := [(10, .long x_20), (9, .int (nI 2)), (5, .long x_16), (7, .long x_15), (0, .ref h), (1, .int a), (2, .int b), (3, .int c0), (4, .int d0)]) hx hb d_S_setKey_50 hl (by decide) rfl (fun ls hl => ?_)
  refine lv_lload hx hb d_S_setKey_52 (lv_at hl 3 rfl) ?_
  refine lv_iconst (v := 1) hx hb d_S_setKey_54 (by decide) ?_
  refine lv_lushr (v := uL x_15 1) hx hb d_S_setKey_55 rfl ?_
  refine lv_lload hx hb d_S_setKey_56 (lv_at hl 2 rfl) ?_
  refine lv_bipush (v := 63) hx hb d_S_setKey_58 (by decide) ?_
  refine lv_lshl (v := sL x_16 63) hx hb d_S_setKey_60 rfl ?_
  refine lv_lor hx hb d_S_setKey_61 ?_
  refine lv_topl (fun x_21 ex_21 => ?_)
  refine lv_lstore (lv' := [(7, .long x_21), (10, .long x_20), (9, .int (nI 2)), (5, .long x_16), (0, .ref h), (1, .int a), (2, .int b), (3, .int c0), (4, .int d0)]) hx hb d_S_setKey_62 hl (by decide) rfl (fun ls hl => ?_)
  refine lv_lload hx hb d_S_setKey_64 (lv_at hl 3 rfl) ?_
  refine lv_iconst (v := 1) hx hb d_S_setKey_66 (by decide) ?_
  refine lv_lushr (v := uL x_16 1) hx hb d_S_setKey_67 rfl ?_
  refine lv_lload hx hb d_S_setKey_68 (lv_at hl 1 rfl) ?_
  refine lv_bipush (v := 48) hx hb d_S_setKey_70 (by decide) ?_
  refine lv_lshl (v := sL x_20 48) hx hb d_S_setKey_72 rfl ?_
  refine lv_lxor hx hb d_S_setKey_73 ?_
  refine lv_topl (fun x_22 ex_22 => ?_)
  refine lv_lstore (lv' := [(5, .long x_22), (7, .long x_21), (10, .long x_20), (9, .int (nI 2)), (0, .ref h), (1, .int a), (2, .int b), (3, .int c0), (4, .int d0)]) hx hb d_S_setKey_74 hl (by decide) rfl (fun ls hl => ?_)
  refine lv_iload hx hb d_S_setKey_76 (lv_at hl 3 rfl) ?_
  refine lv_iconst (v := 1) hx hb d_S_setKey_78 (by decide) ?_
  refine lv_ishr hx hb d_S_setKey_79 ?_
  refine sb_topn 1 (by decide) ?_
  refine lv_istore (lv' := [(9, .int (nI 1)), (5, .long x_22), (7, .long x_21), (10, .long x_20), (0, .ref h), (1, .int a), (2, .int b), (3, .int c0), (4, .int d0)]) hx hb d_S_setKey_80 hl (by decide) rfl (fun ls hl => ?_)
  refine lv_goto (tgt := 19) hx hb d_S_setKey_82 (by decide) ?_
  refine lv_iload hx hb d_S_setKey_19 (lv_at hl 0 rfl) ?_
  refine lv_if_le (tgt := 85) hx hb d_S_setKey_21 (by decide) (fun c_23 => absurd c_23 (sb_leF (a := 1) (b := 0) rfl rfl (by omega) (by omega) (by omega))) (fun c_23 => ?_)
  refine lv_aload_n hx hb d_S_setKey_24 rfl (lv_at hl 4 rfl) ?_
  refine va_get (D := D) (ci := 3) (v := .ref q1) (C := R_S) (T := F_S) (N := 4) hx hb hts in_S hown hG.1 hP 0 rfl rfl 0 (by decide) (hts _ k_97) (fun _ h9 => h9) rfl d_S_setKey_25 ?_
  refine lv_iload hx hb d_S_setKey_28 (lv_at hl 0 rfl) ?_
  refine lv_lload hx hb d_S_setKey_30 (lv_at hl 1 rfl) ?_
  refine sb_lst hx hb hG.1 hP hD hS 1 rfl 1 rfl (by omega) (by omega) d_S_setKey_32 (fun f_24 H locs ef_24 hP hD hS => ?_)
  have hP : va_P D vwCl [(h, .inr (3, [.ref q1, .ref q2, .long x, .long y])), (q1, .inl (cL, 16, .inr (.inl f_24))), (q2, .inl (cL, 16, .inr (.inl f_19)))] H := hP
  have hD : va_D A [(h, .inr (3, [.ref q1, .ref q2, .long x, .long y])), (q1, .inl (cL, 16, .inr (.inl f_24))), (q2, .inl (cL, 16, .inr (.inl f_19)))] := hD
  have kf_24_0 : f_24 0 = th 0 := by rw [ef_24]; exact (pk_uLn (by decide)).trans kf_18_0
  have kf_24_8 : f_24 8 = x_2 := by rw [ef_24]; exact (pk_uLn (by decide)).trans kf_18_8
  have kf_24_4 : f_24 4 = x_10 := by rw [ef_24]; exact (pk_uLn (by decide)).trans kf_18_4
  have kf_24_2 : f_24 2 = x_16 := by rw [ef_24]; exact (pk_uLn (by decide)).trans kf_18_2
  have kf_24_1 : f_24 1 = x_22 := by rw [ef_24]; exact pk_uLs
  refine lv_aload_n hx hb d_S_setKey_33 rfl (lv_at hl 4 rfl) ?_
  refine va_get (D := D) (ci := 3) (v := .ref q2) (C := R_S) (T := F_S) (N := 4) hx hb hts in_S hown hG.1 hP 0 rfl rfl 1 (by decide) (hts _ k_98) (fun _ h9 => h9) rfl d_S_setKey_34 ?_
  refine lv_iload hx hb d_S_setKey_37 (lv_at hl 0 rfl) ?_
  refine lv_lload hx hb d_S_setKey_39 (lv_at hl 2 rfl) ?_
  refine sb_lst hx hb hG.1 hP hD hS 2 rfl 1 rfl (by omega) (by omega) d_S_setKey_41 (fun f_25 H locs ef_25 hP hD hS => ?_)
  have hP : va_P D vwCl [(h, .inr (3, [.ref q1, .ref q2, .long x, .long y])), (q1, .inl (cL, 16, .inr (.inl f_24))), (q2, .inl (cL, 16, .inr (.inl f_25)))] H := hP
  have hD : va_D A [(h, .inr (3, [.ref q1, .ref q2, .long x, .long y])), (q1, .inl (cL, 16, .inr (.inl f_24))), (q2, .inl (cL, 16, .inr (.inl f_25)))] := hD
  have kf_25_0 : f_25 0 = tl 0 := by rw [ef_25]; exact (pk_uLn (by decide)).trans kf_19_0
  have kf_25_8 : f_25 8 = x_4 := by rw [ef_25]; exact (pk_uLn (by decide)).trans kf_19_8
  have kf_25_4 : f_25 4 = x_9 := by rw [ef_25]; exact (pk_uLn (by decide)).trans kf_19_4
  have kf_25_2 : f_25 2 = x_15 := by rw [ef_25]; exact (pk_uLn (by decide)).trans kf_19_2
  have kf_25_1 : f_25 1 = x_21 := by rw [ef_25]; exact pk_uLs
  refine lv_lload hx hb d_S_setKey_42 (lv_at hl 2 rfl) ?_
  refine lv_lconst (v := 1) hx hb d_S_setKey_44 (by decide) ?_
  refine lv_land hx hb d_S_setKey_45 ?_
  refine lv_ldc2 (v := 57600) hx hb hown (hts (.constantLong R_S 29 57600) (by decide +kernel)) d_S_setKey_46 ?_
  refine lv_lmul hx hb d_S_setKey_49 ?_
  refine lv_topl (fun x_26 ex_26 => ?_)
  refine lv_lstore (lv' := [(10, .long x_26), (9, .int (nI 1)), (5, .long x_22), (7, .long x_21), (0, .ref h), (1, .int a), (2, .int b), (3, .int c0), (4, .int d0)]) hx hb d_S_setKey_50 hl (by decide) rfl (fun ls hl => ?_)
  refine lv_lload hx hb d_S_setKey_52 (lv_at hl 3 rfl) ?_
  refine lv_iconst (v := 1) hx hb d_S_setKey_54 (by decide) ?_
  refine lv_lushr (v := uL x_21 1) hx hb d_S_setKey_55 rfl ?_
  refine lv_lload hx hb d_S_setKey_56 (lv_at hl 2 rfl) ?_
  refine lv_bipush (v := 63) hx hb d_S_setKey_58 (by decide) ?_
  refine lv_lshl (v := sL x_22 63) hx hb d_S_setKey_60 rfl ?_
  refine lv_lor hx hb d_S_setKey_61 ?_
  refine lv_topl (fun x_27 ex_27 => ?_)
  refine lv_lstore (lv' := [(7, .long x_27), (10, .long x_26), (9, .int (nI 1)), (5, .long x_22), (0, .ref h), (1, .int a), (2, .int b), (3, .int c0), (4, .int d0)]) hx hb d_S_setKey_62 hl (by decide) rfl (fun ls hl => ?_)
  refine lv_lload hx hb d_S_setKey_64 (lv_at hl 3 rfl) ?_
  refine lv_iconst (v := 1) hx hb d_S_setKey_66 (by decide) ?_
  refine lv_lushr (v := uL x_22 1) hx hb d_S_setKey_67 rfl ?_
  refine lv_lload hx hb d_S_setKey_68 (lv_at hl 1 rfl) ?_
  refine lv_bipush (v := 48) hx hb d_S_setKey_70 (by decide) ?_
  refine lv_lshl (v := sL x_26 48) hx hb d_S_setKey_72 rfl ?_
  refine lv_lxor hx hb d_S_setKey_73 ?_
  refine lv_topl (fun x_28 ex_28 => ?_)
  refine lv_lstore (lv' := [(5, .long x_28), (7, .long x_27), (10, .long x_26), (9, .int (nI 1)), (0, .ref h), (1, .int a), (2, .int b), (3, .int c0), (4, .int d0)]) hx hb d_S_setKey_74 hl (by decide) rfl (fun ls hl => ?_)
  refine lv_iload hx hb d_S_setKey_76 (lv_at hl 3 rfl) ?_
  refine lv_iconst (v := 1) hx hb d_S_setKey_78 (by decide) ?_
  refine lv_ishr hx hb d_S_setKey_79 ?_
  refine sb_topn 0 (by decide) ?_
  refine lv_istore (lv' := [(9, .int (nI 0)), (5, .long x_28), (7, .long x_27), (10, .long x_26), (0, .ref h), (1, .int a), (2, .int b), (3, .int c0), (4, .int d0)]) hx hb d_S_setKey_80 hl (by decide) rfl (fun ls hl => ?_)
  refine lv_goto (tgt := 19) hx hb d_S_setKey_82 (by decide) ?_
  refine lv_iload hx hb d_S_setKey_19 (lv_at hl 0 rfl) ?_
  refine lv_if_le (tgt := 85) hx hb d_S_setKey_21 (by decide) (fun c_29 => ?_) (fun c_29 => absurd (sb_leT (a := 0) (b := 0) rfl rfl (by omega) (by omega) (by omega)) c_29)
  refine lv_iconst (v := 2) hx hb d_S_setKey_85 (by decide) ?_
  refine lv_istore (lv' := [(9, .int 2), (5, .long x_28), (7, .long x_27), (10, .long x_26), (0, .ref h), (1, .int a), (2, .int b), (3, .int c0), (4, .int d0)]) hx hb d_S_setKey_86 hl (by decide) rfl (fun ls hl => ?_)
  refine lv_iload hx hb d_S_setKey_88 (lv_at hl 0 rfl) ?_
  refine lv_bipush (v := 16) hx hb d_S_setKey_90 (by decide) ?_
  refine lv_icmp_ge (tgt := 170) hx hb d_S_setKey_92 (by decide) (fun c_30 => absurd c_30 (sb_geF (a := 2) (b := 16) rfl rfl (by omega) (by omega) (by omega))) (fun c_30 => ?_)
  refine lv_iconst (v := 1) hx hb d_S_setKey_95 (by decide) ?_
  refine lv_istore (lv' := [(10, .int 1), (9, .int 2), (5, .long x_28), (7, .long x_27), (0, .ref h), (1, .int a), (2, .int b), (3, .int c0), (4, .int d0)]) hx hb d_S_setKey_96 hl (by decide) rfl (fun ls hl => ?_)
  refine lv_iload hx hb d_S_setKey_98 (lv_at hl 0 rfl) ?_
  refine lv_iload hx hb d_S_setKey_100 (lv_at hl 1 rfl) ?_
  refine lv_icmp_ge (tgt := 161) hx hb d_S_setKey_102 (by decide) (fun c_31 => absurd c_31 (sb_geF (a := 1) (b := 2) rfl rfl (by omega) (by omega) (by omega))) (fun c_31 => ?_)
  refine lv_aload_n hx hb d_S_setKey_105 rfl (lv_at hl 4 rfl) ?_
  refine va_get (D := D) (ci := 3) (v := .ref q1) (C := R_S) (T := F_S) (N := 4) hx hb hts in_S hown hG.1 hP 0 rfl rfl 0 (by decide) (hts _ k_97) (fun _ h9 => h9) rfl d_S_setKey_106 ?_
  refine lv_iload hx hb d_S_setKey_109 (lv_at hl 1 rfl) ?_
  refine lv_iload hx hb d_S_setKey_111 (lv_at hl 0 rfl) ?_
  refine lv_iadd hx hb d_S_setKey_113 ?_
  refine sb_topn 3 (sb_eqn (a := 2 + 1) (b := 3) (nI_add 2 1) (by omega)) ?_
  refine lv_aload_n hx hb d_S_setKey_114 rfl (lv_at hl 4 rfl) ?_
  refine va_get (D := D) (ci := 3) (v := .ref q1) (C := R_S) (T := F_S) (N := 4) hx hb hts in_S hown hG.1 hP 0 rfl rfl 0 (by decide) (hts _ k_97) (fun _ h9 => h9) rfl d_S_setKey_115 ?_
  refine lv_iload hx hb d_S_setKey_118 (lv_at hl 1 rfl) ?_
  refine sb_lldv hx hb hG.1 hP 1 rfl 2 rfl (by omega) (by omega) (v := x_16) kf_24_2 d_S_setKey_120 ?_
  refine lv_aload_n hx hb d_S_setKey_121 rfl (lv_at hl 4 rfl) ?_
  refine va_get (D := D) (ci := 3) (v := .ref q1) (C := R_S) (T := F_S) (N := 4) hx hb hts in_S hown hG.1 hP 0 rfl rfl 0 (by decide) (hts _ k_97) (fun _ h9 => h9) rfl d_S_setKey_122 ?_
  refine lv_iload hx hb d_S_setKey_125 (lv_at hl 0 rfl) ?_
  refine sb_lldv hx hb hG.1 hP 1 rfl 1 rfl (by omega) (by omega) (v := x_22) kf_24_1 d_S_setKey_127 ?_
  refine lv_lxor hx hb d_S_setKey_128 ?_
  refine sb_lst hx hb hG.1 hP hD hS 1 rfl 3 rfl (by omega) (by omega) d_S_setKey_129 (fun f_32 H locs ef_32 hP hD hS => ?_)
  have hP : va_P D vwCl [(h, .inr (3, [.ref q1, .ref q2, .long x, .long y])), (q1, .inl (cL, 16, .inr (.inl f_32))), (q2, .inl (cL, 16, .inr (.inl f_25)))] H := hP
  have hD : va_D A [(h, .inr (3, [.ref q1, .ref q2, .long x, .long y])), (q1, .inl (cL, 16, .inr (.inl f_32))), (q2, .inl (cL, 16, .inr (.inl f_25)))] := hD
  have kf_32_0 : f_32 0 = th 0 := by rw [ef_32]; exact (pk_uLn (by decide)).trans kf_24_0
  have kf_32_8 : f_32 8 = x_2 := by rw [ef_32]; exact (pk_uLn (by decide)).trans kf_24_8
  have kf_32_4 : f_32 4 = x_10 := by rw [ef_32]; exact (pk_uLn (by decide)).trans kf_24_4
  have kf_32_2 : f_32 2 = x_16 := by rw [ef_32]; exact (pk_uLn (by decide)).trans kf_24_2
  have kf_32_1 : f_32 1 = x_22 := by rw [ef_32]; exact (pk_uLn (by decide)).trans kf_24_1
  have kf_32_3 : f_32 3 = x_16 ^^^ x_22 := by rw [ef_32]; exact pk_uLs
  refine lv_aload_n hx hb d_S_setKey_130 rfl (lv_at hl 4 rfl) ?_
  refine va_get (D := D) (ci := 3) (v := .ref q2) (C := R_S) (T := F_S) (N := 4) hx hb hts in_S hown hG.1 hP 0 rfl rfl 1 (by decide) (hts _ k_98) (fun _ h9 => h9) rfl d_S_setKey_131 ?_
  refine lv_iload hx hb d_S_setKey_134 (lv_at hl 1 rfl) ?_
  refine lv_iload hx hb d_S_setKey_136 (lv_at hl 0 rfl) ?_
  refine lv_iadd hx hb d_S_setKey_138 ?_
  refine sb_topn 3 (sb_eqn (a := 2 + 1) (b := 3) (nI_add 2 1) (by omega)) ?_
  refine lv_aload_n hx hb d_S_setKey_139 rfl (lv_at hl 4 rfl) ?_
  refine va_get (D := D) (ci := 3) (v := .ref q2) (C := R_S) (T := F_S) (N := 4) hx hb hts in_S hown hG.1 hP 0 rfl rfl 1 (by decide) (hts _ k_98) (fun _ h9 => h9) rfl d_S_setKey_140 ?_
  refine lv_iload hx hb d_S_setKey_143 (lv_at hl 1 rfl) ?_
  refine sb_lldv hx hb hG.1 hP 2 rfl 2 rfl (by omega) (by omega) (v := x_15) kf_25_2 d_S_setKey_145 ?_
  refine lv_aload_n hx hb d_S_setKey_146 rfl (lv_at hl 4 rfl) ?_
  refine va_get (D := D) (ci := 3) (v := .ref q2) (C := R_S) (T := F_S) (N := 4) hx hb hts in_S hown hG.1 hP 0 rfl rfl 1 (by decide) (hts _ k_98) (fun _ h9 => h9) rfl d_S_setKey_147 ?_
  refine lv_iload hx hb d_S_setKey_150 (lv_at hl 0 rfl) ?_
  refine sb_lldv hx hb hG.1 hP 2 rfl 1 rfl (by omega) (by omega) (v := x_21) kf_25_1 d_S_setKey_152 ?_
  refine lv_lxor hx hb d_S_setKey_153 ?_
  refine sb_lst hx hb hG.1 hP hD hS 2 rfl 3 rfl (by omega) (by omega) d_S_setKey_154 (fun f_33 H locs ef_33 hP hD hS => ?_)
  have hP : va_P D vwCl [(h, .inr (3, [.ref q1, .ref q2, .long x, .long y])), (q1, .inl (cL, 16, .inr (.inl f_32))), (q2, .inl (cL, 16, .inr (.inl f_33)))] H := hP
  have hD : va_D A [(h, .inr (3, [.ref q1, .ref q2, .long x, .long y])), (q1, .inl (cL, 16, .inr (.inl f_32))), (q2, .inl (cL, 16, .inr (.inl f_33)))] := hD
  have kf_33_0 : f_33 0 = tl 0 := by rw [ef_33]; exact (pk_uLn (by decide)).trans kf_25_0
  have kf_33_8 : f_33 8 = x_4 := by rw [ef_33]; exact (pk_uLn (by decide)).trans kf_25_8
  have kf_33_4 : f_33 4 = x_9 := by rw [ef_33]; exact (pk_uLn (by decide)).trans kf_25_4
  have kf_33_2 : f_33 2 = x_15 := by rw [ef_33]; exact (pk_uLn (by decide)).trans kf_25_2
  have kf_33_1 : f_33 1 = x_21 := by rw [ef_33]; exact (pk_uLn (by decide)).trans kf_25_1
  have kf_33_3 : f_33 3 = x_15 ^^^ x_21 := by rw [ef_33]; exact pk_uLs
  refine lv_iinc (v := nI 2) (lv' := [(10, .int (nI 2)), (9, .int 2), (5, .long x_28), (7, .long x_27), (0, .ref h), (1, .int a), (2, .int b), (3, .int c0), (4, .int d0)]) hx hb d_S_setKey_155 hl (k := 0) rfl (sb_inc (a := 1) (b := 2) (d := 1) rfl (by decide) (by omega)) (by decide) rfl (fun ls hl => ?_)
  refine lv_goto (tgt := 98) hx hb d_S_setKey_158 (by decide) ?_
  refine lv_iload hx hb d_S_setKey_98 (lv_at hl 0 rfl) ?_
  refine lv_iload hx hb d_S_setKey_100 (lv_at hl 1 rfl) ?_
  refine lv_icmp_ge (tgt := 161) hx hb d_S_setKey_102 (by decide) (fun c_34 => ?_) (fun c_34 => absurd (sb_geT (a := 2) (b := 2) rfl rfl (by omega) (by omega) (by omega)) c_34)
  refine lv_iload hx hb d_S_setKey_161 (lv_at hl 1 rfl) ?_
  refine lv_iconst (v := 1) hx hb d_S_setKey_163 (by decide) ?_
  refine lv_ishl hx hb d_S_setKey_164 ?_
  refine sb_topn 4 (by decide) ?_
  refine lv_istore (lv' := [(9, .int (nI 4)), (10, .int (nI 2)), (5, .long x_28), (7, .long x_27), (0, .ref h), (1, .int a), (2, .int b), (3, .int c0), (4, .int d0)]) hx hb d_S_setKey_165 hl (by decide) rfl (fun ls hl => ?_)
  refine lv_goto (tgt := 88) hx hb d_S_setKey_167 (by decide) ?_
  refine lv_iload hx hb d_S_setKey_88 (lv_at hl 0 rfl) ?_
  refine lv_bipush (v := 16) hx hb d_S_setKey_90 (by decide) ?_
  refine lv_icmp_ge (tgt := 170) hx hb d_S_setKey_92 (by decide) (fun c_35 => absurd c_35 (sb_geF (a := 4) (b := 16) rfl rfl (by omega) (by omega) (by omega))) (fun c_35 => ?_)
  refine lv_iconst (v := 1) hx hb d_S_setKey_95 (by decide) ?_
  refine lv_istore (lv' := [(10, .int 1), (9, .int (nI 4)), (5, .long x_28), (7, .long x_27), (0, .ref h), (1, .int a), (2, .int b), (3, .int c0), (4, .int d0)]) hx hb d_S_setKey_96 hl (by decide) rfl (fun ls hl => ?_)
  refine lv_iload hx hb d_S_setKey_98 (lv_at hl 0 rfl) ?_
  refine lv_iload hx hb d_S_setKey_100 (lv_at hl 1 rfl) ?_
  refine lv_icmp_ge (tgt := 161) hx hb d_S_setKey_102 (by decide) (fun c_36 => absurd c_36 (sb_geF (a := 1) (b := 4) rfl rfl (by omega) (by omega) (by omega))) (fun c_36 => ?_)
  refine lv_aload_n hx hb d_S_setKey_105 rfl (lv_at hl 4 rfl) ?_
  refine va_get (D := D) (ci := 3) (v := .ref q1) (C := R_S) (T := F_S) (N := 4) hx hb hts in_S hown hG.1 hP 0 rfl rfl 0 (by decide) (hts _ k_97) (fun _ h9 => h9) rfl d_S_setKey_106 ?_
  refine lv_iload hx hb d_S_setKey_109 (lv_at hl 1 rfl) ?_
  refine lv_iload hx hb d_S_setKey_111 (lv_at hl 0 rfl) ?_
  refine lv_iadd hx hb d_S_setKey_113 ?_
  refine sb_topn 5 (sb_eqn (a := 4 + 1) (b := 5) (nI_add 4 1) (by omega)) ?_
  refine lv_aload_n hx hb d_S_setKey_114 rfl (lv_at hl 4 rfl) ?_
  refine va_get (D := D) (ci := 3) (v := .ref q1) (C := R_S) (T := F_S) (N := 4) hx hb hts in_S hown hG.1 hP 0 rfl rfl 0 (by decide) (hts _ k_97) (fun _ h9 => h9) rfl d_S_setKey_115 ?_
  refine lv_iload hx hb d_S_setKey_118 (lv_at hl 1 rfl) ?_
  refine sb_lldv hx hb hG.1 hP 1 rfl 4 rfl (by omega) (by omega) (v := x_10) kf_32_4 d_S_setKey_120 ?_
  refine lv_aload_n hx hb d_S_setKey_121 rfl (lv_at hl 4 rfl) ?_
  refine va_get (D := D) (ci := 3) (v := .ref q1) (C := R_S) (T := F_S) (N := 4) hx hb hts in_S hown hG.1 hP 0 rfl rfl 0 (by decide) (hts _ k_97) (fun _ h9 => h9) rfl d_S_setKey_122 ?_
  refine lv_iload hx hb d_S_setKey_125 (lv_at hl 0 rfl) ?_
  refine sb_lldv hx hb hG.1 hP 1 rfl 1 rfl (by omega) (by omega) (v := x_22) kf_32_1 d_S_setKey_127 ?_
  refine lv_lxor hx hb d_S_setKey_128 ?_
  refine sb_lst hx hb hG.1 hP hD hS 1 rfl 5 rfl (by omega) (by omega) d_S_setKey_129 (fun f_37 H locs ef_37 hP hD hS => ?_)
  have hP : va_P D vwCl [(h, .inr (3, [.ref q1, .ref q2, .long x, .long y])), (q1, .inl (cL, 16, .inr (.inl f_37))), (q2, .inl (cL, 16, .inr (.inl f_33)))] H := hP
  have hD : va_D A [(h, .inr (3, [.ref q1, .ref q2, .long x, .long y])), (q1, .inl (cL, 16, .inr (.inl f_37))), (q2, .inl (cL, 16, .inr (.inl f_33)))] := hD
  have kf_37_0 : f_37 0 = th 0 := by rw [ef_37]; exact (pk_uLn (by decide)).trans kf_32_0
  have kf_37_8 : f_37 8 = x_2 := by rw [ef_37]; exact (pk_uLn (by decide)).trans kf_32_8
  have kf_37_4 : f_37 4 = x_10 := by rw [ef_37]; exact (pk_uLn (by decide)).trans kf_32_4
  have kf_37_2 : f_37 2 = x_16 := by rw [ef_37]; exact (pk_uLn (by decide)).trans kf_32_2
  have kf_37_1 : f_37 1 = x_22 := by rw [ef_37]; exact (pk_uLn (by decide)).trans kf_32_1
  have kf_37_3 : f_37 3 = x_16 ^^^ x_22 := by rw [ef_37]; exact (pk_uLn (by decide)).trans kf_32_3
  have kf_37_5 : f_37 5 = x_10 ^^^ x_22 := by rw [ef_37]; exact pk_uLs
  refine lv_aload_n hx hb d_S_setKey_130 rfl (lv_at hl 4 rfl) ?_
  refine va_get (D := D) (ci := 3) (v := .ref q2) (C := R_S) (T := F_S) (N := 4) hx hb hts in_S hown hG.1 hP 0 rfl rfl 1 (by decide) (hts _ k_98) (fun _ h9 => h9) rfl d_S_setKey_131 ?_
  refine lv_iload hx hb d_S_setKey_134 (lv_at hl 1 rfl) ?_
  refine lv_iload hx hb d_S_setKey_136 (lv_at hl 0 rfl) ?_
  refine lv_iadd hx hb d_S_setKey_138 ?_
  refine sb_topn 5 (sb_eqn (a := 4 + 1) (b := 5) (nI_add 4 1) (by omega)) ?_
  refine lv_aload_n hx hb d_S_setKey_139 rfl (lv_at hl 4 rfl) ?_
  refine va_get (D := D) (ci := 3) (v := .ref q2) (C := R_S) (T := F_S) (N := 4) hx hb hts in_S hown hG.1 hP 0 rfl rfl 1 (by decide) (hts _ k_98) (fun _ h9 => h9) rfl d_S_setKey_140 ?_
  refine lv_iload hx hb d_S_setKey_143 (lv_at hl 1 rfl) ?_
  refine sb_lldv hx hb hG.1 hP 2 rfl 4 rfl (by omega) (by omega) (v := x_9) kf_33_4 d_S_setKey_145 ?_
  refine lv_aload_n hx hb d_S_setKey_146 rfl (lv_at hl 4 rfl) ?_
  refine va_get (D := D) (ci := 3) (v := .ref q2) (C := R_S) (T := F_S) (N := 4) hx hb hts in_S hown hG.1 hP 0 rfl rfl 1 (by decide) (hts _ k_98) (fun _ h9 => h9) rfl d_S_setKey_147 ?_
  refine lv_iload hx hb d_S_setKey_150 (lv_at hl 0 rfl) ?_
  refine sb_lldv hx hb hG.1 hP 2 rfl 1 rfl (by omega) (by omega) (v := x_21) kf_33_1 d_S_setKey_152 ?_
  refine lv_lxor hx hb d_S_setKey_153 ?_
  refine sb_lst hx hb hG.1 hP hD hS 2 rfl 5 rfl (by omega) (by omega) d_S_setKey_154 (fun f_38 H locs ef_38 hP hD hS => ?_)
  have hP : va_P D vwCl [(h, .inr (3, [.ref q1, .ref q2, .long x, .long y])), (q1, .inl (cL, 16, .inr (.inl f_37))), (q2, .inl (cL, 16, .inr (.inl f_38)))] H := hP
  have hD : va_D A [(h, .inr (3, [.ref q1, .ref q2, .long x, .long y])), (q1, .inl (cL, 16, .inr (.inl f_37))), (q2, .inl (cL, 16, .inr (.inl f_38)))] := hD
  have kf_38_0 : f_38 0 = tl 0 := by rw [ef_38]; exact (pk_uLn (by decide)).trans kf_33_0
  have kf_38_8 : f_38 8 = x_4 := by rw [ef_38]; exact (pk_uLn (by decide)).trans kf_33_8
  have kf_38_4 : f_38 4 = x_9 := by rw [ef_38]; exact (pk_uLn (by decide)).trans kf_33_4
  have kf_38_2 : f_38 2 = x_15 := by rw [ef_38]; exact (pk_uLn (by decide)).trans kf_33_2
  have kf_38_1 : f_38 1 = x_21 := by rw [ef_38]; exact (pk_uLn (by decide)).trans kf_33_1
  have kf_38_3 : f_38 3 = x_15 ^^^ x_21 := by rw [ef_38]; exact (pk_uLn (by decide)).trans kf_33_3
  have kf_38_5 : f_38 5 = x_9 ^^^ x_21 := by rw [ef_38]; exact pk_uLs
  refine lv_iinc (v := nI 2) (lv' := [(10, .int (nI 2)), (9, .int (nI 4)), (5, .long x_28), (7, .long x_27), (0, .ref h), (1, .int a), (2, .int b), (3, .int c0), (4, .int d0)]) hx hb d_S_setKey_155 hl (k := 0) rfl (sb_inc (a := 1) (b := 2) (d := 1) rfl (by decide) (by omega)) (by decide) rfl (fun ls hl => ?_)
  refine lv_goto (tgt := 98) hx hb d_S_setKey_158 (by decide) ?_
  refine lv_iload hx hb d_S_setKey_98 (lv_at hl 0 rfl) ?_
  refine lv_iload hx hb d_S_setKey_100 (lv_at hl 1 rfl) ?_
  refine lv_icmp_ge (tgt := 161) hx hb d_S_setKey_102 (by decide) (fun c_39 => absurd c_39 (sb_geF (a := 2) (b := 4) rfl rfl (by omega) (by omega) (by omega))) (fun c_39 => ?_)
  refine lv_aload_n hx hb d_S_setKey_105 rfl (lv_at hl 4 rfl) ?_
  refine va_get (D := D) (ci := 3) (v := .ref q1) (C := R_S) (T := F_S) (N := 4) hx hb hts in_S hown hG.1 hP 0 rfl rfl 0 (by decide) (hts _ k_97) (fun _ h9 => h9) rfl d_S_setKey_106 ?_
  refine lv_iload hx hb d_S_setKey_109 (lv_at hl 1 rfl) ?_
  refine lv_iload hx hb d_S_setKey_111 (lv_at hl 0 rfl) ?_
  refine lv_iadd hx hb d_S_setKey_113 ?_
  refine sb_topn 6 (sb_eqn (a := 4 + 2) (b := 6) (nI_add 4 2) (by omega)) ?_
  refine lv_aload_n hx hb d_S_setKey_114 rfl (lv_at hl 4 rfl) ?_
  refine va_get (D := D) (ci := 3) (v := .ref q1) (C := R_S) (T := F_S) (N := 4) hx hb hts in_S hown hG.1 hP 0 rfl rfl 0 (by decide) (hts _ k_97) (fun _ h9 => h9) rfl d_S_setKey_115 ?_
  refine lv_iload hx hb d_S_setKey_118 (lv_at hl 1 rfl) ?_
  refine sb_lldv hx hb hG.1 hP 1 rfl 4 rfl (by omega) (by omega) (v := x_10) kf_37_4 d_S_setKey_120 ?_
  refine lv_aload_n hx hb d_S_setKey_121 rfl (lv_at hl 4 rfl) ?_
  refine va_get (D := D) (ci := 3) (v := .ref q1) (C := R_S) (T := F_S) (N := 4) hx hb hts in_S hown hG.1 hP 0 rfl rfl 0 (by decide) (hts _ k_97) (fun _ h9 => h9) rfl d_S_setKey_122 ?_
  refine lv_iload hx hb d_S_setKey_125 (lv_at hl 0 rfl) ?_
  refine sb_lldv hx hb hG.1 hP 1 rfl 2 rfl (by omega) (by omega) (v := x_16) kf_37_2 d_S_setKey_127 ?_
  refine lv_lxor hx hb d_S_setKey_128 ?_
  refine sb_lst hx hb hG.1 hP hD hS 1 rfl 6 rfl (by omega) (by omega) d_S_setKey_129 (fun f_40 H locs ef_40 hP hD hS => ?_)
  have hP : va_P D vwCl [(h, .inr (3, [.ref q1, .ref q2, .long x, .long y])), (q1, .inl (cL, 16, .inr (.inl f_40))), (q2, .inl (cL, 16, .inr (.inl f_38)))] H := hP
  have hD : va_D A [(h, .inr (3, [.ref q1, .ref q2, .long x, .long y])), (q1, .inl (cL, 16, .inr (.inl f_40))), (q2, .inl (cL, 16, .inr (.inl f_38)))] := hD
  have kf_40_0 : f_40 0 = th 0 := by rw [ef_40]; exact (pk_uLn (by decide)).trans kf_37_0
  have kf_40_8 : f_40 8 = x_2 := by rw [ef_40]; exact (pk_uLn (by decide)).trans kf_37_8
  have kf_40_4 : f_40 4 = x_10 := by rw [ef_40]; exact (pk_uLn (by decide)).trans kf_37_4
  have kf_40_2 : f_40 2 = x_16 := by rw [ef_40]; exact (pk_uLn (by decide)).trans kf_37_2
  have kf_40_1 : f_40 1 = x_22 := by rw [ef_40]; exact (pk_uLn (by decide)).trans kf_37_1
  have kf_40_3 : f_40 3 = x_16 ^^^ x_22 := by rw [ef_40]; exact (pk_uLn (by decide)).trans kf_37_3
  have kf_40_5 : f_40 5 = x_10 ^^^ x_22 := by rw [ef_40]; exact (pk_uLn (by decide)).trans kf_37_5
  have kf_40_6 : f_40 6 = x_10 ^^^ x_16 := by rw [ef_40]; exact pk_uLs
  refine lv_aload_n hx hb d_S_setKey_130 rfl (lv_at hl 4 rfl) ?_
  refine va_get (D := D) (ci := 3) (v := .ref q2) (C := R_S) (T := F_S) (N := 4) hx hb hts in_S hown hG.1 hP 0 rfl rfl 1 (by decide) (hts _ k_98) (fun _ h9 => h9) rfl d_S_setKey_131 ?_
  refine lv_iload hx hb d_S_setKey_134 (lv_at hl 1 rfl) ?_
  refine lv_iload hx hb d_S_setKey_136 (lv_at hl 0 rfl) ?_
  refine lv_iadd hx hb d_S_setKey_138 ?_
  refine sb_topn 6 (sb_eqn (a := 4 + 2) (b := 6) (nI_add 4 2) (by omega)) ?_
  refine lv_aload_n hx hb d_S_setKey_139 rfl (lv_at hl 4 rfl) ?_
  refine va_get (D := D) (ci := 3) (v := .ref q2) (C := R_S) (T := F_S) (N := 4) hx hb hts in_S hown hG.1 hP 0 rfl rfl 1 (by decide) (hts _ k_98) (fun _ h9 => h9) rfl d_S_setKey_140 ?_
  refine lv_iload hx hb d_S_setKey_143 (lv_at hl 1 rfl) ?_
  refine sb_lldv hx hb hG.1 hP 2 rfl 4 rfl (by omega) (by omega) (v := x_9) kf_38_4 d_S_setKey_145 ?_
  refine lv_aload_n hx hb d_S_setKey_146 rfl (lv_at hl 4 rfl) ?_
  refine va_get (D := D) (ci := 3) (v := .ref q2) (C := R_S) (T := F_S) (N := 4) hx hb hts in_S hown hG.1 hP 0 rfl rfl 1 (by decide) (hts _ k_98) (fun _ h9 => h9) rfl d_S_setKey_147 ?_
  refine lv_iload hx hb d_S_setKey_150 (lv_at hl 0 rfl) ?_
  refine sb_lldv hx hb hG.1 hP 2 rfl 2 rfl (by omega) (by omega) (v := x_15) kf_38_2 d_S_setKey_152 ?_
  refine lv_lxor hx hb d_S_setKey_153 ?_
  refine sb_lst hx hb hG.1 hP hD hS 2 rfl 6 rfl (by omega) (by omega) d_S_setKey_154 (fun f_41 H locs ef_41 hP hD hS => ?_)
  have hP : va_P D vwCl [(h, .inr (3, [.ref q1, .ref q2, .long x, .long y])), (q1, .inl (cL, 16, .inr (.inl f_40))), (q2, .inl (cL, 16, .inr (.inl f_41)))] H := hP
  have hD : va_D A [(h, .inr (3, [.ref q1, .ref q2, .long x, .long y])), (q1, .inl (cL, 16, .inr (.inl f_40))), (q2, .inl (cL, 16, .inr (.inl f_41)))] := hD
  have kf_41_0 : f_41 0 = tl 0 := by rw [ef_41]; exact (pk_uLn (by decide)).trans kf_38_0
  have kf_41_8 : f_41 8 = x_4 := by rw [ef_41]; exact (pk_uLn (by decide)).trans kf_38_8
  have kf_41_4 : f_41 4 = x_9 := by rw [ef_41]; exact (pk_uLn (by decide)).trans kf_38_4
  have kf_41_2 : f_41 2 = x_15 := by rw [ef_41]; exact (pk_uLn (by decide)).trans kf_38_2
  have kf_41_1 : f_41 1 = x_21 := by rw [ef_41]; exact (pk_uLn (by decide)).trans kf_38_1
  have kf_41_3 : f_41 3 = x_15 ^^^ x_21 := by rw [ef_41]; exact (pk_uLn (by decide)).trans kf_38_3
  have kf_41_5 : f_41 5 = x_9 ^^^ x_21 := by rw [ef_41]; exact (pk_uLn (by decide)).trans kf_38_5
  have kf_41_6 : f_41 6 = x_9 ^^^ x_15 := by rw [ef_41]; exact pk_uLs
  refine lv_iinc (v := nI 3) (lv' := [(10, .int (nI 3)), (9, .int (nI 4)), (5, .long x_28), (7, .long x_27), (0, .ref h), (1, .int a), (2, .int b), (3, .int c0), (4, .int d0)]) hx hb d_S_setKey_155 hl (k := 0) rfl (sb_inc (a := 2) (b := 3) (d := 1) rfl (by decide) (by omega)) (by decide) rfl (fun ls hl => ?_)
  refine lv_goto (tgt := 98) hx hb d_S_setKey_158 (by decide) ?_
  refine lv_iload hx hb d_S_setKey_98 (lv_at hl 0 rfl) ?_
  refine lv_iload hx hb d_S_setKey_100 (lv_at hl 1 rfl) ?_
  refine lv_icmp_ge (tgt := 161) hx hb d_S_setKey_102 (by decide) (fun c_42 => absurd c_42 (sb_geF (a := 3) (b := 4) rfl rfl (by omega) (by omega) (by omega))) (fun c_42 => ?_)
  refine lv_aload_n hx hb d_S_setKey_105 rfl (lv_at hl 4 rfl) ?_
  refine va_get (D := D) (ci := 3) (v := .ref q1) (C := R_S) (T := F_S) (N := 4) hx hb hts in_S hown hG.1 hP 0 rfl rfl 0 (by decide) (hts _ k_97) (fun _ h9 => h9) rfl d_S_setKey_106 ?_
  refine lv_iload hx hb d_S_setKey_109 (lv_at hl 1 rfl) ?_
  refine lv_iload hx hb d_S_setKey_111 (lv_at hl 0 rfl) ?_
  refine lv_iadd hx hb d_S_setKey_113 ?_
  refine sb_topn 7 (sb_eqn (a := 4 + 3) (b := 7) (nI_add 4 3) (by omega)) ?_
  refine lv_aload_n hx hb d_S_setKey_114 rfl (lv_at hl 4 rfl) ?_
  refine va_get (D := D) (ci := 3) (v := .ref q1) (C := R_S) (T := F_S) (N := 4) hx hb hts in_S hown hG.1 hP 0 rfl rfl 0 (by decide) (hts _ k_97) (fun _ h9 => h9) rfl d_S_setKey_115 ?_
  refine lv_iload hx hb d_S_setKey_118 (lv_at hl 1 rfl) ?_
  refine sb_lldv hx hb hG.1 hP 1 rfl 4 rfl (by omega) (by omega) (v := x_10) kf_40_4 d_S_setKey_120 ?_
  refine lv_aload_n hx hb d_S_setKey_121 rfl (lv_at hl 4 rfl) ?_
  refine va_get (D := D) (ci := 3) (v := .ref q1) (C := R_S) (T := F_S) (N := 4) hx hb hts in_S hown hG.1 hP 0 rfl rfl 0 (by decide) (hts _ k_97) (fun _ h9 => h9) rfl d_S_setKey_122 ?_
  refine lv_iload hx hb d_S_setKey_125 (lv_at hl 0 rfl) ?_
  refine sb_lldv hx hb hG.1 hP 1 rfl 3 rfl (by omega) (by omega) (v := x_16 ^^^ x_22) kf_40_3 d_S_setKey_127 ?_
  refine lv_lxor hx hb d_S_setKey_128 ?_
  refine sb_lst hx hb hG.1 hP hD hS 1 rfl 7 rfl (by omega) (by omega) d_S_setKey_129 (fun f_43 H locs ef_43 hP hD hS => ?_)
  have hP : va_P D vwCl [(h, .inr (3, [.ref q1, .ref q2, .long x, .long y])), (q1, .inl (cL, 16, .inr (.inl f_43))), (q2, .inl (cL, 16, .inr (.inl f_41)))] H := hP
  have hD : va_D A [(h, .inr (3, [.ref q1, .ref q2, .long x, .long y])), (q1, .inl (cL, 16, .inr (.inl f_43))), (q2, .inl (cL, 16, .inr (.inl f_41)))] := hD
  have kf_43_0 : f_43 0 = th 0 := by rw [ef_43]; exact (pk_uLn (by decide)).trans kf_40_0
  have kf_43_8 : f_43 8 = x_2 := by rw [ef_43]; exact (pk_uLn (by decide)).trans kf_40_8
  have kf_43_4 : f_43 4 = x_10 := by rw [ef_43]; exact (pk_uLn (by decide)).trans kf_40_4
  have kf_43_2 : f_43 2 = x_16 := by rw [ef_43]; exact (pk_uLn (by decide)).trans kf_40_2
  have kf_43_1 : f_43 1 = x_22 := by rw [ef_43]; exact (pk_uLn (by decide)).trans kf_40_1
  have kf_43_3 : f_43 3 = x_16 ^^^ x_22 := by rw [ef_43]; exact (pk_uLn (by decide)).trans kf_40_3
  have kf_43_5 : f_43 5 = x_10 ^^^ x_22 := by rw [ef_43]; exact (pk_uLn (by decide)).trans kf_40_5
  have kf_43_6 : f_43 6 = x_10 ^^^ x_16 := by rw [ef_43]; exact (pk_uLn (by decide)).trans kf_40_6
  have kf_43_7 : f_43 7 = x_10 ^^^ (x_16 ^^^ x_22) := by rw [ef_43]; exact pk_uLs
  refine lv_aload_n hx hb d_S_setKey_130 rfl (lv_at hl 4 rfl) ?_
  refine va_get (D := D) (ci := 3) (v := .ref q2) (C := R_S) (T := F_S) (N := 4) hx hb hts in_S hown hG.1 hP 0 rfl rfl 1 (by decide) (hts _ k_98) (fun _ h9 => h9) rfl d_S_setKey_131 ?_
  refine lv_iload hx hb d_S_setKey_134 (lv_at hl 1 rfl) ?_
  refine lv_iload hx hb d_S_setKey_136 (lv_at hl 0 rfl) ?_
  refine lv_iadd hx hb d_S_setKey_138 ?_
  refine sb_topn 7 (sb_eqn (a := 4 + 3) (b := 7) (nI_add 4 3) (by omega)) ?_
  refine lv_aload_n hx hb d_S_setKey_139 rfl (lv_at hl 4 rfl) ?_
  refine va_get (D := D) (ci := 3) (v := .ref q2) (C := R_S) (T := F_S) (N := 4) hx hb hts in_S hown hG.1 hP 0 rfl rfl 1 (by decide) (hts _ k_98) (fun _ h9 => h9) rfl d_S_setKey_140 ?_
  refine lv_iload hx hb d_S_setKey_143 (lv_at hl 1 rfl) ?_
  refine sb_lldv hx hb hG.1 hP 2 rfl 4 rfl (by omega) (by omega) (v := x_9) kf_41_4 d_S_setKey_145 ?_
  refine lv_aload_n hx hb d_S_setKey_146 rfl (lv_at hl 4 rfl) ?_
  refine va_get (D := D) (ci := 3) (v := .ref q2) (C := R_S) (T := F_S) (N := 4) hx hb hts in_S hown hG.1 hP 0 rfl rfl 1 (by decide) (hts _ k_98) (fun _ h9 => h9) rfl d_S_setKey_147 ?_
  refine lv_iload hx hb d_S_setKey_150 (lv_at hl 0 rfl) ?_
  refine sb_lldv hx hb hG.1 hP 2 rfl 3 rfl (by omega) (by omega) (v := x_15 ^^^ x_21) kf_41_3 d_S_setKey_152 ?_
  refine lv_lxor hx hb d_S_setKey_153 ?_
  refine sb_lst hx hb hG.1 hP hD hS 2 rfl 7 rfl (by omega) (by omega) d_S_setKey_154 (fun f_44 H locs ef_44 hP hD hS => ?_)
  have hP : va_P D vwCl [(h, .inr (3, [.ref q1, .ref q2, .long x, .long y])), (q1, .inl (cL, 16, .inr (.inl f_43))), (q2, .inl (cL, 16, .inr (.inl f_44)))] H := hP
  have hD : va_D A [(h, .inr (3, [.ref q1, .ref q2, .long x, .long y])), (q1, .inl (cL, 16, .inr (.inl f_43))), (q2, .inl (cL, 16, .inr (.inl f_44)))] := hD
  have kf_44_0 : f_44 0 = tl 0 := by rw [ef_44]; exact (pk_uLn (by decide)).trans kf_41_0
  have kf_44_8 : f_44 8 = x_4 := by rw [ef_44]; exact (pk_uLn (by decide)).trans kf_41_8
  have kf_44_4 : f_44 4 = x_9 := by rw [ef_44]; exact (pk_uLn (by decide)).trans kf_41_4
  have kf_44_2 : f_44 2 = x_15 := by rw [ef_44]; exact (pk_uLn (by decide)).trans kf_41_2
  have kf_44_1 : f_44 1 = x_21 := by rw [ef_44]; exact (pk_uLn (by decide)).trans kf_41_1
  have kf_44_3 : f_44 3 = x_15 ^^^ x_21 := by rw [ef_44]; exact (pk_uLn (by decide)).trans kf_41_3
  have kf_44_5 : f_44 5 = x_9 ^^^ x_21 := by rw [ef_44]; exact (pk_uLn (by decide)).trans kf_41_5
  have kf_44_6 : f_44 6 = x_9 ^^^ x_15 := by rw [ef_44]; exact (pk_uLn (by decide)).trans kf_41_6
  have kf_44_7 : f_44 7 = x_9 ^^^ (x_15 ^^^ x_21) := by rw [ef_44]; exact pk_uLs
  refine lv_iinc (v := nI 4) (lv' := [(10, .int (nI 4)), (9, .int (nI 4)), (5, .long x_28), (7, .long x_27), (0, .ref h), (1, .int a), (2, .int b), (3, .int c0), (4, .int d0)]) hx hb d_S_setKey_155 hl (k := 0) rfl (sb_inc (a := 3) (b := 4) (d := 1) rfl (by decide) (by omega)) (by decide) rfl (fun ls hl => ?_)
  refine lv_goto (tgt := 98) hx hb d_S_setKey_158 (by decide) ?_
  refine lv_iload hx hb d_S_setKey_98 (lv_at hl 0 rfl) ?_
  refine lv_iload hx hb d_S_setKey_100 (lv_at hl 1 rfl) ?_
  refine lv_icmp_ge (tgt := 161) hx hb d_S_setKey_102 (by decide) (fun c_45 => ?_) (fun c_45 => absurd (sb_geT (a := 4) (b := 4) rfl rfl (by omega) (by omega) (by omega)) c_45)
  refine lv_iload hx hb d_S_setKey_161 (lv_at hl 1 rfl) ?_
  refine lv_iconst (v := 1) hx hb d_S_setKey_163 (by decide) ?_
  refine lv_ishl hx hb d_S_setKey_164 ?_
  refine sb_topn 8 (by decide) ?_
  refine lv_istore (lv' := [(9, .int (nI 8)), (10, .int (nI 4)), (5, .long x_28), (7, .long x_27), (0, .ref h), (1, .int a), (2, .int b), (3, .int c0), (4, .int d0)]) hx hb d_S_setKey_165 hl (by decide) rfl (fun ls hl => ?_)
  refine lv_goto (tgt := 88) hx hb d_S_setKey_167 (by decide) ?_
  refine lv_iload hx hb d_S_setKey_88 (lv_at hl 0 rfl) ?_
  refine lv_bipush (v := 16) hx hb d_S_setKey_90 (by decide) ?_
  refine lv_icmp_ge (tgt := 170) hx hb d_S_setKey_92 (by decide) (fun c_46 => absurd c_46 (sb_geF (a := 8) (b := 16) rfl rfl (by omega) (by omega) (by omega))) (fun c_46 => ?_)
  refine lv_iconst (v := 1) hx hb d_S_setKey_95 (by decide) ?_
  refine lv_istore (lv' := [(10, .int 1), (9, .int (nI 8)), (5, .long x_28), (7, .long x_27), (0, .ref h), (1, .int a), (2, .int b), (3, .int c0), (4, .int d0)]) hx hb d_S_setKey_96 hl (by decide) rfl (fun ls hl => ?_)
  refine lv_iload hx hb d_S_setKey_98 (lv_at hl 0 rfl) ?_
  refine lv_iload hx hb d_S_setKey_100 (lv_at hl 1 rfl) ?_
  refine lv_icmp_ge (tgt := 161) hx hb d_S_setKey_102 (by decide) (fun c_47 => absurd c_47 (sb_geF (a := 1) (b := 8) rfl rfl (by omega) (by omega) (by omega))) (fun c_47 => ?_)
  refine lv_aload_n hx hb d_S_setKey_105 rfl (lv_at hl 4 rfl) ?_
  refine va_get (D := D) (ci := 3) (v := .ref q1) (C := R_S) (T := F_S) (N := 4) hx hb hts in_S hown hG.1 hP 0 rfl rfl 0 (by decide) (hts _ k_97) (fun _ h9 => h9) rfl d_S_setKey_106 ?_
  refine lv_iload hx hb d_S_setKey_109 (lv_at hl 1 rfl) ?_
  refine lv_iload hx hb d_S_setKey_111 (lv_at hl 0 rfl) ?_
  refine lv_iadd hx hb d_S_setKey_113 ?_
  refine sb_topn 9 (sb_eqn (a := 8 + 1) (b := 9) (nI_add 8 1) (by omega)) ?_
  refine lv_aload_n hx hb d_S_setKey_114 rfl (lv_at hl 4 rfl) ?_
  refine va_get (D := D) (ci := 3) (v := .ref q1) (C := R_S) (T := F_S) (N := 4) hx hb hts in_S hown hG.1 hP 0 rfl rfl 0 (by decide) (hts _ k_97) (fun _ h9 => h9) rfl d_S_setKey_115 ?_
  refine lv_iload hx hb d_S_setKey_118 (lv_at hl 1 rfl) ?_
  refine sb_lldv hx hb hG.1 hP 1 rfl 8 rfl (by omega) (by omega) (v := x_2) kf_43_8 d_S_setKey_120 ?_
  refine lv_aload_n hx hb d_S_setKey_121 rfl (lv_at hl 4 rfl) ?_
  refine va_get (D := D) (ci := 3) (v := .ref q1) (C := R_S) (T := F_S) (N := 4) hx hb hts in_S hown hG.1 hP 0 rfl rfl 0 (by decide) (hts _ k_97) (fun _ h9 => h9) rfl d_S_setKey_122 ?_
  refine lv_iload hx hb d_S_setKey_125 (lv_at hl 0 rfl) ?_
  refine sb_lldv hx hb hG.1 hP 1 rfl 1 rfl (by omega) (by omega) (v := x_22) kf_43_1 d_S_setKey_127 ?_
  refine lv_lxor hx hb d_S_setKey_128 ?_
  refine sb_lst hx hb hG.1 hP hD hS 1 rfl 9 rfl (by omega) (by omega) d_S_setKey_129 (fun f_48 H locs ef_48 hP hD hS => ?_)
  have hP : va_P D vwCl [(h, .inr (3, [.ref q1, .ref q2, .long x, .long y])), (q1, .inl (cL, 16, .inr (.inl f_48))), (q2, .inl (cL, 16, .inr (.inl f_44)))] H := hP
  have hD : va_D A [(h, .inr (3, [.ref q1, .ref q2, .long x, .long y])), (q1, .inl (cL, 16, .inr (.inl f_48))), (q2, .inl (cL, 16, .inr (.inl f_44)))] := hD
  have kf_48_0 : f_48 0 = th 0 := by rw [ef_48]; exact (pk_uLn (by decide)).trans kf_43_0
  have kf_48_8 : f_48 8 = x_2 := by rw [ef_48]; exact (pk_uLn (by decide)).trans kf_43_8
  have kf_48_4 : f_48 4 = x_10 := by rw [ef_48]; exact (pk_uLn (by decide)).trans kf_43_4
  have kf_48_2 : f_48 2 = x_16 := by rw [ef_48]; exact (pk_uLn (by decide)).trans kf_43_2
  have kf_48_1 : f_48 1 = x_22 := by rw [ef_48]; exact (pk_uLn (by decide)).trans kf_43_1
  have kf_48_3 : f_48 3 = x_16 ^^^ x_22 := by rw [ef_48]; exact (pk_uLn (by decide)).trans kf_43_3
  have kf_48_5 : f_48 5 = x_10 ^^^ x_22 := by rw [ef_48]; exact (pk_uLn (by decide)).trans kf_43_5
  have kf_48_6 : f_48 6 = x_10 ^^^ x_16 := by rw [ef_48]; exact (pk_uLn (by decide)).trans kf_43_6
  have kf_48_7 : f_48 7 = x_10 ^^^ (x_16 ^^^ x_22) := by rw [ef_48]; exact (pk_uLn (by decide)).trans kf_43_7
  have kf_48_9 : f_48 9 = x_2 ^^^ x_22 := by rw [ef_48]; exact pk_uLs
  refine lv_aload_n hx hb d_S_setKey_130 rfl (lv_at hl 4 rfl) ?_
  refine va_get (D := D) (ci := 3) (v := .ref q2) (C := R_S) (T := F_S) (N := 4) hx hb hts in_S hown hG.1 hP 0 rfl rfl 1 (by decide) (hts _ k_98) (fun _ h9 => h9) rfl d_S_setKey_131 ?_
  refine lv_iload hx hb d_S_setKey_134 (lv_at hl 1 rfl) ?_
  refine lv_iload hx hb d_S_setKey_136 (lv_at hl 0 rfl) ?_
  refine lv_iadd hx hb d_S_setKey_138 ?_
  refine sb_topn 9 (sb_eqn (a := 8 + 1) (b := 9) (nI_add 8 1) (by omega)) ?_
  refine lv_aload_n hx hb d_S_setKey_139 rfl (lv_at hl 4 rfl) ?_
  refine va_get (D := D) (ci := 3) (v := .ref q2) (C := R_S) (T := F_S) (N := 4) hx hb hts in_S hown hG.1 hP 0 rfl rfl 1 (by decide) (hts _ k_98) (fun _ h9 => h9) rfl d_S_setKey_140 ?_
  refine lv_iload hx hb d_S_setKey_143 (lv_at hl 1 rfl) ?_
  refine sb_lldv hx hb hG.1 hP 2 rfl 8 rfl (by omega) (by omega) (v := x_4) kf_44_8 d_S_setKey_145 ?_
  refine lv_aload_n hx hb d_S_setKey_146 rfl (lv_at hl 4 rfl) ?_
  refine va_get (D := D) (ci := 3) (v := .ref q2) (C := R_S) (T := F_S) (N := 4) hx hb hts in_S hown hG.1 hP 0 rfl rfl 1 (by decide) (hts _ k_98) (fun _ h9 => h9) rfl d_S_setKey_147 ?_
  refine lv_iload hx hb d_S_setKey_150 (lv_at hl 0 rfl) ?_
  refine sb_lldv hx hb hG.1 hP 2 rfl 1 rfl (by omega) (by omega) (v := x_21) kf_44_1 d_S_setKey_152 ?_
  refine lv_lxor hx hb d_S_setKey_153 ?_
  refine sb_lst hx hb hG.1 hP hD hS 2 rfl 9 rfl (by omega) (by omega) d_S_setKey_154 (fun f_49 H locs ef_49 hP hD hS => ?_)
  have hP : va_P D vwCl [(h, .inr (3, [.ref q1, .ref q2, .long x, .long y])), (q1, .inl (cL, 16, .inr (.inl f_48))), (q2, .inl (cL, 16, .inr (.inl f_49)))] H := hP
  have hD : va_D A [(h, .inr (3, [.ref q1, .ref q2, .long x, .long y])), (q1, .inl (cL, 16, .inr (.inl f_48))), (q2, .inl (cL, 16, .inr (.inl f_49)))] := hD
  have kf_49_0 : f_49 0 = tl 0 := by rw [ef_49]; exact (pk_uLn (by decide)).trans kf_44_0
  have kf_49_8 : f_49 8 = x_4 := by rw [ef_49]; exact (pk_uLn (by decide)).trans kf_44_8
  have kf_49_4 : f_49 4 = x_9 := by rw [ef_49]; exact (pk_uLn (by decide)).trans kf_44_4
  have kf_49_2 : f_49 2 = x_15 := by rw [ef_49]; exact (pk_uLn (by decide)).trans kf_44_2
  have kf_49_1 : f_49 1 = x_21 := by rw [ef_49]; exact (pk_uLn (by decide)).trans kf_44_1
  have kf_49_3 : f_49 3 = x_15 ^^^ x_21 := by rw [ef_49]; exact (pk_uLn (by decide)).trans kf_44_3
  have kf_49_5 : f_49 5 = x_9 ^^^ x_21 := by rw [ef_49]; exact (pk_uLn (by decide)).trans kf_44_5
  have kf_49_6 : f_49 6 = x_9 ^^^ x_15 := by rw [ef_49]; exact (pk_uLn (by decide)).trans kf_44_6
  have kf_49_7 : f_49 7 = x_9 ^^^ (x_15 ^^^ x_21) := by rw [ef_49]; exact (pk_uLn (by decide)).trans kf_44_7
  have kf_49_9 : f_49 9 = x_4 ^^^ x_21 := by rw [ef_49]; exact pk_uLs
  refine lv_iinc (v := nI 2) (lv' := [(10, .int (nI 2)), (9, .int (nI 8)), (5, .long x_28), (7, .long x_27), (0, .ref h), (1, .int a), (2, .int b), (3, .int c0), (4, .int d0)]) hx hb d_S_setKey_155 hl (k := 0) rfl (sb_inc (a := 1) (b := 2) (d := 1) rfl (by decide) (by omega)) (by decide) rfl (fun ls hl => ?_)
  refine lv_goto (tgt := 98) hx hb d_S_setKey_158 (by decide) ?_
  refine lv_iload hx hb d_S_setKey_98 (lv_at hl 0 rfl) ?_
  refine lv_iload hx hb d_S_setKey_100 (lv_at hl 1 rfl) ?_
  refine lv_icmp_ge (tgt := 161) hx hb d_S_setKey_102 (by decide) (fun c_50 => absurd c_50 (sb_geF (a := 2) (b := 8) rfl rfl (by omega) (by omega) (by omega))) (fun c_50 => ?_)
  refine lv_aload_n hx hb d_S_setKey_105 rfl (lv_at hl 4 rfl) ?_
  refine va_get (D := D) (ci := 3) (v := .ref q1) (C := R_S) (T := F_S) (N := 4) hx hb hts in_S hown hG.1 hP 0 rfl rfl 0 (by decide) (hts _ k_97) (fun _ h9 => h9) rfl d_S_setKey_106 ?_
  refine lv_iload hx hb d_S_setKey_109 (lv_at hl 1 rfl) ?_
  refine lv_iload hx hb d_S_setKey_111 (lv_at hl 0 rfl) ?_
  refine lv_iadd hx hb d_S_setKey_113 ?_
  refine sb_topn 10 (sb_eqn (a := 8 + 2) (b := 10) (nI_add 8 2) (by omega)) ?_
  refine lv_aload_n hx hb d_S_setKey_114 rfl (lv_at hl 4 rfl) ?_
  refine va_get (D := D) (ci := 3) (v := .ref q1) (C := R_S) (T := F_S) (N := 4) hx hb hts in_S hown hG.1 hP 0 rfl rfl 0 (by decide) (hts _ k_97) (fun _ h9 => h9) rfl d_S_setKey_115 ?_
  refine lv_iload hx hb d_S_setKey_118 (lv_at hl 1 rfl) ?_
  refine sb_lldv hx hb hG.1 hP 1 rfl 8 rfl (by omega) (by omega) (v := x_2) kf_48_8 d_S_setKey_120 ?_
  refine lv_aload_n hx hb d_S_setKey_121 rfl (lv_at hl 4 rfl) ?_
  refine va_get (D := D) (ci := 3) (v := .ref q1) (C := R_S) (T := F_S) (N := 4) hx hb hts in_S hown hG.1 hP 0 rfl rfl 0 (by decide) (hts _ k_97) (fun _ h9 => h9) rfl d_S_setKey_122 ?_
  refine lv_iload hx hb d_S_setKey_125 (lv_at hl 0 rfl) ?_
  refine sb_lldv hx hb hG.1 hP 1 rfl 2 rfl (by omega) (by omega) (v := x_16) kf_48_2 d_S_setKey_127 ?_
  refine lv_lxor hx hb d_S_setKey_128 ?_
  refine sb_lst hx hb hG.1 hP hD hS 1 rfl 10 rfl (by omega) (by omega) d_S_setKey_129 (fun f_51 H locs ef_51 hP hD hS => ?_)
  have hP : va_P D vwCl [(h, .inr (3, [.ref q1, .ref q2, .long x, .long y])), (q1, .inl (cL, 16, .inr (.inl f_51))), (q2, .inl (cL, 16, .inr (.inl f_49)))] H := hP
  have hD : va_D A [(h, .inr (3, [.ref q1, .ref q2, .long x, .long y])), (q1, .inl (cL, 16, .inr (.inl f_51))), (q2, .inl (cL, 16, .inr (.inl f_49)))] := hD
  have kf_51_0 : f_51 0 = th 0 := by rw [ef_51]; exact (pk_uLn (by decide)).trans kf_48_0
  have kf_51_8 : f_51 8 = x_2 := by rw [ef_51]; exact (pk_uLn (by decide)).trans kf_48_8
  have kf_51_4 : f_51 4 = x_10 := by rw [ef_51]; exact (pk_uLn (by decide)).trans kf_48_4
  have kf_51_2 : f_51 2 = x_16 := by rw [ef_51]; exact (pk_uLn (by decide)).trans kf_48_2
  have kf_51_1 : f_51 1 = x_22 := by rw [ef_51]; exact (pk_uLn (by decide)).trans kf_48_1
  have kf_51_3 : f_51 3 = x_16 ^^^ x_22 := by rw [ef_51]; exact (pk_uLn (by decide)).trans kf_48_3
  have kf_51_5 : f_51 5 = x_10 ^^^ x_22 := by rw [ef_51]; exact (pk_uLn (by decide)).trans kf_48_5
  have kf_51_6 : f_51 6 = x_10 ^^^ x_16 := by rw [ef_51]; exact (pk_uLn (by decide)).trans kf_48_6
  have kf_51_7 : f_51 7 = x_10 ^^^ (x_16 ^^^ x_22) := by rw [ef_51]; exact (pk_uLn (by decide)).trans kf_48_7
  have kf_51_9 : f_51 9 = x_2 ^^^ x_22 := by rw [ef_51]; exact (pk_uLn (by decide)).trans kf_48_9
  have kf_51_10 : f_51 10 = x_2 ^^^ x_16 := by rw [ef_51]; exact pk_uLs
  refine lv_aload_n hx hb d_S_setKey_130 rfl (lv_at hl 4 rfl) ?_
  refine va_get (D := D) (ci := 3) (v := .ref q2) (C := R_S) (T := F_S) (N := 4) hx hb hts in_S hown hG.1 hP 0 rfl rfl 1 (by decide) (hts _ k_98) (fun _ h9 => h9) rfl d_S_setKey_131 ?_
  refine lv_iload hx hb d_S_setKey_134 (lv_at hl 1 rfl) ?_
  refine lv_iload hx hb d_S_setKey_136 (lv_at hl 0 rfl) ?_
  refine lv_iadd hx hb d_S_setKey_138 ?_
  refine sb_topn 10 (sb_eqn (a := 8 + 2) (b := 10) (nI_add 8 2) (by omega)) ?_
  refine lv_aload_n hx hb d_S_setKey_139 rfl (lv_at hl 4 rfl) ?_
  refine va_get (D := D) (ci := 3) (v := .ref q2) (C := R_S) (T := F_S) (N := 4) hx hb hts in_S hown hG.1 hP 0 rfl rfl 1 (by decide) (hts _ k_98) (fun _ h9 => h9) rfl d_S_setKey_140 ?_
  refine lv_iload hx hb d_S_setKey_143 (lv_at hl 1 rfl) ?_
  refine sb_lldv hx hb hG.1 hP 2 rfl 8 rfl (by omega) (by omega) (v := x_4) kf_49_8 d_S_setKey_145 ?_
  refine lv_aload_n hx hb d_S_setKey_146 rfl (lv_at hl 4 rfl) ?_
  refine va_get (D := D) (ci := 3) (v := .ref q2) (C := R_S) (T := F_S) (N := 4) hx hb hts in_S hown hG.1 hP 0 rfl rfl 1 (by decide) (hts _ k_98) (fun _ h9 => h9) rfl d_S_setKey_147 ?_
  refine lv_iload hx hb d_S_setKey_150 (lv_at hl 0 rfl) ?_
  refine sb_lldv hx hb hG.1 hP 2 rfl 2 rfl (by omega) (by omega) (v := x_15) kf_49_2 d_S_setKey_152 ?_
  refine lv_lxor hx hb d_S_setKey_153 ?_
  refine sb_lst hx hb hG.1 hP hD hS 2 rfl 10 rfl (by omega) (by omega) d_S_setKey_154 (fun f_52 H locs ef_52 hP hD hS => ?_)
  have hP : va_P D vwCl [(h, .inr (3, [.ref q1, .ref q2, .long x, .long y])), (q1, .inl (cL, 16, .inr (.inl f_51))), (q2, .inl (cL, 16, .inr (.inl f_52)))] H := hP
  have hD : va_D A [(h, .inr (3, [.ref q1, .ref q2, .long x, .long y])), (q1, .inl (cL, 16, .inr (.inl f_51))), (q2, .inl (cL, 16, .inr (.inl f_52)))] := hD
  have kf_52_0 : f_52 0 = tl 0 := by rw [ef_52]; exact (pk_uLn (by decide)).trans kf_49_0
  have kf_52_8 : f_52 8 = x_4 := by rw [ef_52]; exact (pk_uLn (by decide)).trans kf_49_8
  have kf_52_4 : f_52 4 = x_9 := by rw [ef_52]; exact (pk_uLn (by decide)).trans kf_49_4
  have kf_52_2 : f_52 2 = x_15 := by rw [ef_52]; exact (pk_uLn (by decide)).trans kf_49_2
  have kf_52_1 : f_52 1 = x_21 := by rw [ef_52]; exact (pk_uLn (by decide)).trans kf_49_1
  have kf_52_3 : f_52 3 = x_15 ^^^ x_21 := by rw [ef_52]; exact (pk_uLn (by decide)).trans kf_49_3
  have kf_52_5 : f_52 5 = x_9 ^^^ x_21 := by rw [ef_52]; exact (pk_uLn (by decide)).trans kf_49_5
  have kf_52_6 : f_52 6 = x_9 ^^^ x_15 := by rw [ef_52]; exact (pk_uLn (by decide)).trans kf_49_6
  have kf_52_7 : f_52 7 = x_9 ^^^ (x_15 ^^^ x_21) := by rw [ef_52]; exact (pk_uLn (by decide)).trans kf_49_7
  have kf_52_9 : f_52 9 = x_4 ^^^ x_21 := by rw [ef_52]; exact (pk_uLn (by decide)).trans kf_49_9
  have kf_52_10 : f_52 10 = x_4 ^^^ x_15 := by rw [ef_52]; exact pk_uLs
  refine lv_iinc (v := nI 3) (lv' := [(10, .int (nI 3)), (9, .int (nI 8)), (5, .long x_28), (7, .long x_27), (0, .ref h), (1, .int a), (2, .int b), (3, .int c0), (4, .int d0)]) hx hb d_S_setKey_155 hl (k := 0) rfl (sb_inc (a := 2) (b := 3) (d := 1) rfl (by decide) (by omega)) (by decide) rfl (fun ls hl => ?_)
  refine lv_goto (tgt := 98) hx hb d_S_setKey_158 (by decide) ?_
  refine lv_iload hx hb d_S_setKey_98 (lv_at hl 0 rfl) ?_
  refine lv_iload hx hb d_S_setKey_100 (lv_at hl 1 rfl) ?_
  refine lv_icmp_ge (tgt := 161) hx hb d_S_setKey_102 (by decide) (fun c_53 => absurd c_53 (sb_geF (a := 3) (b := 8) rfl rfl (by omega) (by omega) (by omega))) (fun c_53 => ?_)
  refine lv_aload_n hx hb d_S_setKey_105 rfl (lv_at hl 4 rfl) ?_
  refine va_get (D := D) (ci := 3) (v := .ref q1) (C := R_S) (T := F_S) (N := 4) hx hb hts in_S hown hG.1 hP 0 rfl rfl 0 (by decide) (hts _ k_97) (fun _ h9 => h9) rfl d_S_setKey_106 ?_
  refine lv_iload hx hb d_S_setKey_109 (lv_at hl 1 rfl) ?_
  refine lv_iload hx hb d_S_setKey_111 (lv_at hl 0 rfl) ?_
  refine lv_iadd hx hb d_S_setKey_113 ?_
  refine sb_topn 11 (sb_eqn (a := 8 + 3) (b := 11) (nI_add 8 3) (by omega)) ?_
  refine lv_aload_n hx hb d_S_setKey_114 rfl (lv_at hl 4 rfl) ?_
  refine va_get (D := D) (ci := 3) (v := .ref q1) (C := R_S) (T := F_S) (N := 4) hx hb hts in_S hown hG.1 hP 0 rfl rfl 0 (by decide) (hts _ k_97) (fun _ h9 => h9) rfl d_S_setKey_115 ?_
  refine lv_iload hx hb d_S_setKey_118 (lv_at hl 1 rfl) ?_
  refine sb_lldv hx hb hG.1 hP 1 rfl 8 rfl (by omega) (by omega) (v := x_2) kf_51_8 d_S_setKey_120 ?_
  refine lv_aload_n hx hb d_S_setKey_121 rfl (lv_at hl 4 rfl) ?_
  refine va_get (D := D) (ci := 3) (v := .ref q1) (C := R_S) (T := F_S) (N := 4) hx hb hts in_S hown hG.1 hP 0 rfl rfl 0 (by decide) (hts _ k_97) (fun _ h9 => h9) rfl d_S_setKey_122 ?_
  refine lv_iload hx hb d_S_setKey_125 (lv_at hl 0 rfl) ?_
  refine sb_lldv hx hb hG.1 hP 1 rfl 3 rfl (by omega) (by omega) (v := x_16 ^^^ x_22) kf_51_3 d_S_setKey_127 ?_
  refine lv_lxor hx hb d_S_setKey_128 ?_
  refine sb_lst hx hb hG.1 hP hD hS 1 rfl 11 rfl (by omega) (by omega) d_S_setKey_129 (fun f_54 H locs ef_54 hP hD hS => ?_)
  have hP : va_P D vwCl [(h, .inr (3, [.ref q1, .ref q2, .long x, .long y])), (q1, .inl (cL, 16, .inr (.inl f_54))), (q2, .inl (cL, 16, .inr (.inl f_52)))] H := hP
  have hD : va_D A [(h, .inr (3, [.ref q1, .ref q2, .long x, .long y])), (q1, .inl (cL, 16, .inr (.inl f_54))), (q2, .inl (cL, 16, .inr (.inl f_52)))] := hD
  have kf_54_0 : f_54 0 = th 0 := by rw [ef_54]; exact (pk_uLn (by decide)).trans kf_51_0
  have kf_54_8 : f_54 8 = x_2 := by rw [ef_54]; exact (pk_uLn (by decide)).trans kf_51_8
  have kf_54_4 : f_54 4 = x_10 := by rw [ef_54]; exact (pk_uLn (by decide)).trans kf_51_4
  have kf_54_2 : f_54 2 = x_16 := by rw [ef_54]; exact (pk_uLn (by decide)).trans kf_51_2
  have kf_54_1 : f_54 1 = x_22 := by rw [ef_54]; exact (pk_uLn (by decide)).trans kf_51_1
  have kf_54_3 : f_54 3 = x_16 ^^^ x_22 := by rw [ef_54]; exact (pk_uLn (by decide)).trans kf_51_3
  have kf_54_5 : f_54 5 = x_10 ^^^ x_22 := by rw [ef_54]; exact (pk_uLn (by decide)).trans kf_51_5
  have kf_54_6 : f_54 6 = x_10 ^^^ x_16 := by rw [ef_54]; exact (pk_uLn (by decide)).trans kf_51_6
  have kf_54_7 : f_54 7 = x_10 ^^^ (x_16 ^^^ x_22) := by rw [ef_54]; exact (pk_uLn (by decide)).trans kf_51_7
  have kf_54_9 : f_54 9 = x_2 ^^^ x_22 := by rw [ef_54]; exact (pk_uLn (by decide)).trans kf_51_9
  have kf_54_10 : f_54 10 = x_2 ^^^ x_16 := by rw [ef_54]; exact (pk_uLn (by decide)).trans kf_51_10
  have kf_54_11 : f_54 11 = x_2 ^^^ (x_16 ^^^ x_22) := by rw [ef_54]; exact pk_uLs
  refine lv_aload_n hx hb d_S_setKey_130 rfl (lv_at hl 4 rfl) ?_
  refine va_get (D := D) (ci := 3) (v := .ref q2) (C := R_S) (T := F_S) (N := 4) hx hb hts in_S hown hG.1 hP 0 rfl rfl 1 (by decide) (hts _ k_98) (fun _ h9 => h9) rfl d_S_setKey_131 ?_
  refine lv_iload hx hb d_S_setKey_134 (lv_at hl 1 rfl) ?_
  refine lv_iload hx hb d_S_setKey_136 (lv_at hl 0 rfl) ?_
  refine lv_iadd hx hb d_S_setKey_138 ?_
  refine sb_topn 11 (sb_eqn (a := 8 + 3) (b := 11) (nI_add 8 3) (by omega)) ?_
  refine lv_aload_n hx hb d_S_setKey_139 rfl (lv_at hl 4 rfl) ?_
  refine va_get (D := D) (ci := 3) (v := .ref q2) (C := R_S) (T := F_S) (N := 4) hx hb hts in_S hown hG.1 hP 0 rfl rfl 1 (by decide) (hts _ k_98) (fun _ h9 => h9) rfl d_S_setKey_140 ?_
  refine lv_iload hx hb d_S_setKey_143 (lv_at hl 1 rfl) ?_
  refine sb_lldv hx hb hG.1 hP 2 rfl 8 rfl (by omega) (by omega) (v := x_4) kf_52_8 d_S_setKey_145 ?_
  refine lv_aload_n hx hb d_S_setKey_146 rfl (lv_at hl 4 rfl) ?_
  refine va_get (D := D) (ci := 3) (v := .ref q2) (C := R_S) (T := F_S) (N := 4) hx hb hts in_S hown hG.1 hP 0 rfl rfl 1 (by decide) (hts _ k_98) (fun _ h9 => h9) rfl d_S_setKey_147 ?_
  refine lv_iload hx hb d_S_setKey_150 (lv_at hl 0 rfl) ?_
  refine sb_lldv hx hb hG.1 hP 2 rfl 3 rfl (by omega) (by omega) (v := x_15 ^^^ x_21) kf_52_3 d_S_setKey_152 ?_
  refine lv_lxor hx hb d_S_setKey_153 ?_
  refine sb_lst hx hb hG.1 hP hD hS 2 rfl 11 rfl (by omega) (by omega) d_S_setKey_154 (fun f_55 H locs ef_55 hP hD hS => ?_)
  have hP : va_P D vwCl [(h, .inr (3, [.ref q1, .ref q2, .long x, .long y])), (q1, .inl (cL, 16, .inr (.inl f_54))), (q2, .inl (cL, 16, .inr (.inl f_55)))] H := hP
  have hD : va_D A [(h, .inr (3, [.ref q1, .ref q2, .long x, .long y])), (q1, .inl (cL, 16, .inr (.inl f_54))), (q2, .inl (cL, 16, .inr (.inl f_55)))] := hD
  have kf_55_0 : f_55 0 = tl 0 := by rw [ef_55]; exact (pk_uLn (by decide)).trans kf_52_0
  have kf_55_8 : f_55 8 = x_4 := by rw [ef_55]; exact (pk_uLn (by decide)).trans kf_52_8
  have kf_55_4 : f_55 4 = x_9 := by rw [ef_55]; exact (pk_uLn (by decide)).trans kf_52_4
  have kf_55_2 : f_55 2 = x_15 := by rw [ef_55]; exact (pk_uLn (by decide)).trans kf_52_2
  have kf_55_1 : f_55 1 = x_21 := by rw [ef_55]; exact (pk_uLn (by decide)).trans kf_52_1
  have kf_55_3 : f_55 3 = x_15 ^^^ x_21 := by rw [ef_55]; exact (pk_uLn (by decide)).trans kf_52_3
  have kf_55_5 : f_55 5 = x_9 ^^^ x_21 := by rw [ef_55]; exact (pk_uLn (by decide)).trans kf_52_5
  have kf_55_6 : f_55 6 = x_9 ^^^ x_15 := by rw [ef_55]; exact (pk_uLn (by decide)).trans kf_52_6
  have kf_55_7 : f_55 7 = x_9 ^^^ (x_15 ^^^ x_21) := by rw [ef_55]; exact (pk_uLn (by decide)).trans kf_52_7
  have kf_55_9 : f_55 9 = x_4 ^^^ x_21 := by rw [ef_55]; exact (pk_uLn (by decide)).trans kf_52_9
  have kf_55_10 : f_55 10 = x_4 ^^^ x_15 := by rw [ef_55]; exact (pk_uLn (by decide)).trans kf_52_10
  have kf_55_11 : f_55 11 = x_4 ^^^ (x_15 ^^^ x_21) := by rw [ef_55]; exact pk_uLs
  refine lv_iinc (v := nI 4) (lv' := [(10, .int (nI 4)), (9, .int (nI 8)), (5, .long x_28), (7, .long x_27), (0, .ref h), (1, .int a), (2, .int b), (3, .int c0), (4, .int d0)]) hx hb d_S_setKey_155 hl (k := 0) rfl (sb_inc (a := 3) (b := 4) (d := 1) rfl (by decide) (by omega)) (by decide) rfl (fun ls hl => ?_)
  refine lv_goto (tgt := 98) hx hb d_S_setKey_158 (by decide) ?_
  refine lv_iload hx hb d_S_setKey_98 (lv_at hl 0 rfl) ?_
  refine lv_iload hx hb d_S_setKey_100 (lv_at hl 1 rfl) ?_
  refine lv_icmp_ge (tgt := 161) hx hb d_S_setKey_102 (by decide) (fun c_56 => absurd c_56 (sb_geF (a := 4) (b := 8) rfl rfl (by omega) (by omega) (by omega))) (fun c_56 => ?_)
  refine lv_aload_n hx hb d_S_setKey_105 rfl (lv_at hl 4 rfl) ?_
  refine va_get (D := D) (ci := 3) (v := .ref q1) (C := R_S) (T := F_S) (N := 4) hx hb hts in_S hown hG.1 hP 0 rfl rfl 0 (by decide) (hts _ k_97) (fun _ h9 => h9) rfl d_S_setKey_106 ?_
  refine lv_iload hx hb d_S_setKey_109 (lv_at hl 1 rfl) ?_
  refine lv_iload hx hb d_S_setKey_111 (lv_at hl 0 rfl) ?_
  refine lv_iadd hx hb d_S_setKey_113 ?_
  refine sb_topn 12 (sb_eqn (a := 8 + 4) (b := 12) (nI_add 8 4) (by omega)) ?_
  refine lv_aload_n hx hb d_S_setKey_114 rfl (lv_at hl 4 rfl) ?_
  refine va_get (D := D) (ci := 3) (v := .ref q1) (C := R_S) (T := F_S) (N := 4) hx hb hts in_S hown hG.1 hP 0 rfl rfl 0 (by decide) (hts _ k_97) (fun _ h9 => h9) rfl d_S_setKey_115 ?_
  refine lv_iload hx hb d_S_setKey_118 (lv_at hl 1 rfl) ?_
  refine sb_lldv hx hb hG.1 hP 1 rfl 8 rfl (by omega) (by omega) (v := x_2) kf_54_8 d_S_setKey_120 ?_
  refine lv_aload_n hx hb d_S_setKey_121 rfl (lv_at hl 4 rfl) ?_
  refine va_get (D := D) (ci := 3) (v := .ref q1) (C := R_S) (T := F_S) (N := 4) hx hb hts in_S hown hG.1 hP 0 rfl rfl 0 (by decide) (hts _ k_97) (fun _ h9 => h9) rfl d_S_setKey_122 ?_
  refine lv_iload hx hb d_S_setKey_125 (lv_at hl 0 rfl) ?_
  refine sb_lldv hx hb hG.1 hP 1 rfl 4 rfl (by omega) (by omega) (v := x_10) kf_54_4 d_S_setKey_127 ?_
  refine lv_lxor hx hb d_S_setKey_128 ?_
  refine sb_lst hx hb hG.1 hP hD hS 1 rfl 12 rfl (by omega) (by omega) d_S_setKey_129 (fun f_57 H locs ef_57 hP hD hS => ?_)
  have hP : va_P D vwCl [(h, .inr (3, [.ref q1, .ref q2, .long x, .long y])), (q1, .inl (cL, 16, .inr (.inl f_57))), (q2, .inl (cL, 16, .inr (.inl f_55)))] H := hP
  have hD : va_D A [(h, .inr (3, [.ref q1, .ref q2, .long x, .long y])), (q1, .inl (cL, 16, .inr (.inl f_57))), (q2, .inl (cL, 16, .inr (.inl f_55)))] := hD
  have kf_57_0 : f_57 0 = th 0 := by rw [ef_57]; exact (pk_uLn (by decide)).trans kf_54_0
  have kf_57_8 : f_57 8 = x_2 := by rw [ef_57]; exact (pk_uLn (by decide)).trans kf_54_8
  have kf_57_4 : f_57 4 = x_10 := by rw [ef_57]; exact (pk_uLn (by decide)).trans kf_54_4
  have kf_57_2 : f_57 2 = x_16 := by rw [ef_57]; exact (pk_uLn (by decide)).trans kf_54_2
  have kf_57_1 : f_57 1 = x_22 := by rw [ef_57]; exact (pk_uLn (by decide)).trans kf_54_1
  have kf_57_3 : f_57 3 = x_16 ^^^ x_22 := by rw [ef_57]; exact (pk_uLn (by decide)).trans kf_54_3
  have kf_57_5 : f_57 5 = x_10 ^^^ x_22 := by rw [ef_57]; exact (pk_uLn (by decide)).trans kf_54_5
  have kf_57_6 : f_57 6 = x_10 ^^^ x_16 := by rw [ef_57]; exact (pk_uLn (by decide)).trans kf_54_6
  have kf_57_7 : f_57 7 = x_10 ^^^ (x_16 ^^^ x_22) := by rw [ef_57]; exact (pk_uLn (by decide)).trans kf_54_7
  have kf_57_9 : f_57 9 = x_2 ^^^ x_22 := by rw [ef_57]; exact (pk_uLn (by decide)).trans kf_54_9
  have kf_57_10 : f_57 10 = x_2 ^^^ x_16 := by rw [ef_57]; exact (pk_uLn (by decide)).trans kf_54_10
  have kf_57_11 : f_57 11 = x_2 ^^^ (x_16 ^^^ x_22) := by rw [ef_57]; exact (pk_uLn (by decide)).trans kf_54_11
  have kf_57_12 : f_57 12 = x_2 ^^^ x_10 := by rw [ef_57]; exact pk_uLs
  refine lv_aload_n hx hb d_S_setKey_130 rfl (lv_at hl 4 rfl) ?_
  refine va_get (D := D) (ci := 3) (v := .ref q2) (C := R_S) (T := F_S) (N := 4) hx hb hts in_S hown hG.1 hP 0 rfl rfl 1 (by decide) (hts _ k_98) (fun _ h9 => h9) rfl d_S_setKey_131 ?_
  refine lv_iload hx hb d_S_setKey_134 (lv_at hl 1 rfl) ?_
  refine lv_iload hx hb d_S_setKey_136 (lv_at hl 0 rfl) ?_
  refine lv_iadd hx hb d_S_setKey_138 ?_
  refine sb_topn 12 (sb_eqn (a := 8 + 4) (b := 12) (nI_add 8 4) (by omega)) ?_
  refine lv_aload_n hx hb d_S_setKey_139 rfl (lv_at hl 4 rfl) ?_
  refine va_get (D := D) (ci := 3) (v := .ref q2) (C := R_S) (T := F_S) (N := 4) hx hb hts in_S hown hG.1 hP 0 rfl rfl 1 (by decide) (hts _ k_98) (fun _ h9 => h9) rfl d_S_setKey_140 ?_
  refine lv_iload hx hb d_S_setKey_143 (lv_at hl 1 rfl) ?_
  refine sb_lldv hx hb hG.1 hP 2 rfl 8 rfl (by omega) (by omega) (v := x_4) kf_55_8 d_S_setKey_145 ?_
  refine lv_aload_n hx hb d_S_setKey_146 rfl (lv_at hl 4 rfl) ?_
  refine va_get (D := D) (ci := 3) (v := .ref q2) (C := R_S) (T := F_S) (N := 4) hx hb hts in_S hown hG.1 hP 0 rfl rfl 1 (by decide) (hts _ k_98) (fun _ h9 => h9) rfl d_S_setKey_147 ?_
  refine lv_iload hx hb d_S_setKey_150 (lv_at hl 0 rfl) ?_
  refine sb_lldv hx hb hG.1 hP 2 rfl 4 rfl (by omega) (by omega) (v := x_9) kf_55_4 d_S_setKey_152 ?_
  refine lv_lxor hx hb d_S_setKey_153 ?_
  refine sb_lst hx hb hG.1 hP hD hS 2 rfl 12 rfl (by omega) (by omega) d_S_setKey_154 (fun f_58 H locs ef_58 hP hD hS => ?_)
  have hP : va_P D vwCl [(h, .inr (3, [.ref q1, .ref q2, .long x, .long y])), (q1, .inl (cL, 16, .inr (.inl f_57))), (q2, .inl (cL, 16, .inr (.inl f_58)))] H := hP
  have hD : va_D A [(h, .inr (3, [.ref q1, .ref q2, .long x, .long y])), (q1, .inl (cL, 16, .inr (.inl f_57))), (q2, .inl (cL, 16, .inr (.inl f_58)))] := hD
  have kf_58_0 : f_58 0 = tl 0 := by rw [ef_58]; exact (pk_uLn (by decide)).trans kf_55_0
  have kf_58_8 : f_58 8 = x_4 := by rw [ef_58]; exact (pk_uLn (by decide)).trans kf_55_8
  have kf_58_4 : f_58 4 = x_9 := by rw [ef_58]; exact (pk_uLn (by decide)).trans kf_55_4
  have kf_58_2 : f_58 2 = x_15 := by rw [ef_58]; exact (pk_uLn (by decide)).trans kf_55_2
  have kf_58_1 : f_58 1 = x_21 := by rw [ef_58]; exact (pk_uLn (by decide)).trans kf_55_1
  have kf_58_3 : f_58 3 = x_15 ^^^ x_21 := by rw [ef_58]; exact (pk_uLn (by decide)).trans kf_55_3
  have kf_58_5 : f_58 5 = x_9 ^^^ x_21 := by rw [ef_58]; exact (pk_uLn (by decide)).trans kf_55_5
  have kf_58_6 : f_58 6 = x_9 ^^^ x_15 := by rw [ef_58]; exact (pk_uLn (by decide)).trans kf_55_6
  have kf_58_7 : f_58 7 = x_9 ^^^ (x_15 ^^^ x_21) := by rw [ef_58]; exact (pk_uLn (by decide)).trans kf_55_7
  have kf_58_9 : f_58 9 = x_4 ^^^ x_21 := by rw [ef_58]; exact (pk_uLn (by decide)).trans kf_55_9
  have kf_58_10 : f_58 10 = x_4 ^^^ x_15 := by rw [ef_58]; exact (pk_uLn (by decide)).trans kf_55_10
  have kf_58_11 : f_58 11 = x_4 ^^^ (x_15 ^^^ x_21) := by rw [ef_58]; exact (pk_uLn (by decide)).trans kf_55_11
  have kf_58_12 : f_58 12 = x_4 ^^^ x_9 := by rw [ef_58]; exact pk_uLs
  refine lv_iinc (v := nI 5) (lv' := [(10, .int (nI 5)), (9, .int (nI 8)), (5, .long x_28), (7, .long x_27), (0, .ref h), (1, .int a), (2, .int b), (3, .int c0), (4, .int d0)]) hx hb d_S_setKey_155 hl (k := 0) rfl (sb_inc (a := 4) (b := 5) (d := 1) rfl (by decide) (by omega)) (by decide) rfl (fun ls hl => ?_)
  refine lv_goto (tgt := 98) hx hb d_S_setKey_158 (by decide) ?_
  refine lv_iload hx hb d_S_setKey_98 (lv_at hl 0 rfl) ?_
  refine lv_iload hx hb d_S_setKey_100 (lv_at hl 1 rfl) ?_
  refine lv_icmp_ge (tgt := 161) hx hb d_S_setKey_102 (by decide) (fun c_59 => absurd c_59 (sb_geF (a := 5) (b := 8) rfl rfl (by omega) (by omega) (by omega))) (fun c_59 => ?_)
  refine lv_aload_n hx hb d_S_setKey_105 rfl (lv_at hl 4 rfl) ?_
  refine va_get (D := D) (ci := 3) (v := .ref q1) (C := R_S) (T := F_S) (N := 4) hx hb hts in_S hown hG.1 hP 0 rfl rfl 0 (by decide) (hts _ k_97) (fun _ h9 => h9) rfl d_S_setKey_106 ?_
  refine lv_iload hx hb d_S_setKey_109 (lv_at hl 1 rfl) ?_
  refine lv_iload hx hb d_S_setKey_111 (lv_at hl 0 rfl) ?_
  refine lv_iadd hx hb d_S_setKey_113 ?_
  refine sb_topn 13 (sb_eqn (a := 8 + 5) (b := 13) (nI_add 8 5) (by omega)) ?_
  refine lv_aload_n hx hb d_S_setKey_114 rfl (lv_at hl 4 rfl) ?_
  refine va_get (D := D) (ci := 3) (v := .ref q1) (C := R_S) (T := F_S) (N := 4) hx hb hts in_S hown hG.1 hP 0 rfl rfl 0 (by decide) (hts _ k_97) (fun _ h9 => h9) rfl d_S_setKey_115 ?_
  refine lv_iload hx hb d_S_setKey_118 (lv_at hl 1 rfl) ?_
  refine sb_lldv hx hb hG.1 hP 1 rfl 8 rfl (by omega) (by omega) (v := x_2) kf_57_8 d_S_setKey_120 ?_
  refine lv_aload_n hx hb d_S_setKey_121 rfl (lv_at hl 4 rfl) ?_
  refine va_get (D := D) (ci := 3) (v := .ref q1) (C := R_S) (T := F_S) (N := 4) hx hb hts in_S hown hG.1 hP 0 rfl rfl 0 (by decide) (hts _ k_97) (fun _ h9 => h9) rfl d_S_setKey_122 ?_
  refine lv_iload hx hb d_S_setKey_125 (lv_at hl 0 rfl) ?_
  refine sb_lldv hx hb hG.1 hP 1 rfl 5 rfl (by omega) (by omega) (v := x_10 ^^^ x_22) kf_57_5 d_S_setKey_127 ?_
  refine lv_lxor hx hb d_S_setKey_128 ?_
  refine sb_lst hx hb hG.1 hP hD hS 1 rfl 13 rfl (by omega) (by omega) d_S_setKey_129 (fun f_60 H locs ef_60 hP hD hS => ?_)
  have hP : va_P D vwCl [(h, .inr (3, [.ref q1, .ref q2, .long x, .long y])), (q1, .inl (cL, 16, .inr (.inl f_60))), (q2, .inl (cL, 16, .inr (.inl f_58)))] H := hP
  have hD : va_D A [(h, .inr (3, [.ref q1, .ref q2, .long x, .long y])), (q1, .inl (cL, 16, .inr (.inl f_60))), (q2, .inl (cL, 16, .inr (.inl f_58)))] := hD
  have kf_60_0 : f_60 0 = th 0 := by rw [ef_60]; exact (pk_uLn (by decide)).trans kf_57_0
  have kf_60_8 : f_60 8 = x_2 := by rw [ef_60]; exact (pk_uLn (by decide)).trans kf_57_8
  have kf_60_4 : f_60 4 = x_10 := by rw [ef_60]; exact (pk_uLn (by decide)).trans kf_57_4
  have kf_60_2 : f_60 2 = x_16 := by rw [ef_60]; exact (pk_uLn (by decide)).trans kf_57_2
  have kf_60_1 : f_60 1 = x_22 := by rw [ef_60]; exact (pk_uLn (by decide)).trans kf_57_1
  have kf_60_3 : f_60 3 = x_16 ^^^ x_22 := by rw [ef_60]; exact (pk_uLn (by decide)).trans kf_57_3
  have kf_60_5 : f_60 5 = x_10 ^^^ x_22 := by rw [ef_60]; exact (pk_uLn (by decide)).trans kf_57_5
  have kf_60_6 : f_60 6 = x_10 ^^^ x_16 := by rw [ef_60]; exact (pk_uLn (by decide)).trans kf_57_6
  have kf_60_7 : f_60 7 = x_10 ^^^ (x_16 ^^^ x_22) := by rw [ef_60]; exact (pk_uLn (by decide)).trans kf_57_7
  have kf_60_9 : f_60 9 = x_2 ^^^ x_22 := by rw [ef_60]; exact (pk_uLn (by decide)).trans kf_57_9
  have kf_60_10 : f_60 10 = x_2 ^^^ x_16 := by rw [ef_60]; exact (pk_uLn (by decide)).trans kf_57_10
  have kf_60_11 : f_60 11 = x_2 ^^^ (x_16 ^^^ x_22) := by rw [ef_60]; exact (pk_uLn (by decide)).trans kf_57_11
  have kf_60_12 : f_60 12 = x_2 ^^^ x_10 := by rw [ef_60]; exact (pk_uLn (by decide)).trans kf_57_12
  have kf_60_13 : f_60 13 = x_2 ^^^ (x_10 ^^^ x_22) := by rw [ef_60]; exact pk_uLs
  refine lv_aload_n hx hb d_S_setKey_130 rfl (lv_at hl 4 rfl) ?_
  refine va_get (D := D) (ci := 3) (v := .ref q2) (C := R_S) (T := F_S) (N := 4) hx hb hts in_S hown hG.1 hP 0 rfl rfl 1 (by decide) (hts _ k_98) (fun _ h9 => h9) rfl d_S_setKey_131 ?_
  refine lv_iload hx hb d_S_setKey_134 (lv_at hl 1 rfl) ?_
  refine lv_iload hx hb d_S_setKey_136 (lv_at hl 0 rfl) ?_
  refine lv_iadd hx hb d_S_setKey_138 ?_
  refine sb_topn 13 (sb_eqn (a := 8 + 5) (b := 13) (nI_add 8 5) (by omega)) ?_
  refine lv_aload_n hx hb d_S_setKey_139 rfl (lv_at hl 4 rfl) ?_
  refine va_get (D := D) (ci := 3) (v := .ref q2) (C := R_S) (T := F_S) (N := 4) hx hb hts in_S hown hG.1 hP 0 rfl rfl 1 (by decide) (hts _ k_98) (fun _ h9 => h9) rfl d_S_setKey_140 ?_
  refine lv_iload hx hb d_S_setKey_143 (lv_at hl 1 rfl) ?_
  refine sb_lldv hx hb hG.1 hP 2 rfl 8 rfl (by omega) (by omega) (v := x_4) kf_58_8 d_S_setKey_145 ?_
  refine lv_aload_n hx hb d_S_setKey_146 rfl (lv_at hl 4 rfl) ?_
  refine va_get (D := D) (ci := 3) (v := .ref q2) (C := R_S) (T := F_S) (N := 4) hx hb hts in_S hown hG.1 hP 0 rfl rfl 1 (by decide) (hts _ k_98) (fun _ h9 => h9) rfl d_S_setKey_147 ?_
  refine lv_iload hx hb d_S_setKey_150 (lv_at hl 0 rfl) ?_
  refine sb_lldv hx hb hG.1 hP 2 rfl 5 rfl (by omega) (by omega) (v := x_9 ^^^ x_21) kf_58_5 d_S_setKey_152 ?_
  refine lv_lxor hx hb d_S_setKey_153 ?_
  refine sb_lst hx hb hG.1 hP hD hS 2 rfl 13 rfl (by omega) (by omega) d_S_setKey_154 (fun f_61 H locs ef_61 hP hD hS => ?_)
  have hP : va_P D vwCl [(h, .inr (3, [.ref q1, .ref q2, .long x, .long y])), (q1, .inl (cL, 16, .inr (.inl f_60))), (q2, .inl (cL, 16, .inr (.inl f_61)))] H := hP
  have hD : va_D A [(h, .inr (3, [.ref q1, .ref q2, .long x, .long y])), (q1, .inl (cL, 16, .inr (.inl f_60))), (q2, .inl (cL, 16, .inr (.inl f_61)))] := hD
  have kf_61_0 : f_61 0 = tl 0 := by rw [ef_61]; exact (pk_uLn (by decide)).trans kf_58_0
  have kf_61_8 : f_61 8 = x_4 := by rw [ef_61]; exact (pk_uLn (by decide)).trans kf_58_8
  have kf_61_4 : f_61 4 = x_9 := by rw [ef_61]; exact (pk_uLn (by decide)).trans kf_58_4
  have kf_61_2 : f_61 2 = x_15 := by rw [ef_61]; exact (pk_uLn (by decide)).trans kf_58_2
  have kf_61_1 : f_61 1 = x_21 := by rw [ef_61]; exact (pk_uLn (by decide)).trans kf_58_1
  have kf_61_3 : f_61 3 = x_15 ^^^ x_21 := by rw [ef_61]; exact (pk_uLn (by decide)).trans kf_58_3
  have kf_61_5 : f_61 5 = x_9 ^^^ x_21 := by rw [ef_61]; exact (pk_uLn (by decide)).trans kf_58_5
  have kf_61_6 : f_61 6 = x_9 ^^^ x_15 := by rw [ef_61]; exact (pk_uLn (by decide)).trans kf_58_6
  have kf_61_7 : f_61 7 = x_9 ^^^ (x_15 ^^^ x_21) := by rw [ef_61]; exact (pk_uLn (by decide)).trans kf_58_7
  have kf_61_9 : f_61 9 = x_4 ^^^ x_21 := by rw [ef_61]; exact (pk_uLn (by decide)).trans kf_58_9
  have kf_61_10 : f_61 10 = x_4 ^^^ x_15 := by rw [ef_61]; exact (pk_uLn (by decide)).trans kf_58_10
  have kf_61_11 : f_61 11 = x_4 ^^^ (x_15 ^^^ x_21) := by rw [ef_61]; exact (pk_uLn (by decide)).trans kf_58_11
  have kf_61_12 : f_61 12 = x_4 ^^^ x_9 := by rw [ef_61]; exact (pk_uLn (by decide)).trans kf_58_12
  have kf_61_13 : f_61 13 = x_4 ^^^ (x_9 ^^^ x_21) := by rw [ef_61]; exact pk_uLs
  refine lv_iinc (v := nI 6) (lv' := [(10, .int (nI 6)), (9, .int (nI 8)), (5, .long x_28), (7, .long x_27), (0, .ref h), (1, .int a), (2, .int b), (3, .int c0), (4, .int d0)]) hx hb d_S_setKey_155 hl (k := 0) rfl (sb_inc (a := 5) (b := 6) (d := 1) rfl (by decide) (by omega)) (by decide) rfl (fun ls hl => ?_)
  refine lv_goto (tgt := 98) hx hb d_S_setKey_158 (by decide) ?_
  refine lv_iload hx hb d_S_setKey_98 (lv_at hl 0 rfl) ?_
  refine lv_iload hx hb d_S_setKey_100 (lv_at hl 1 rfl) ?_
  refine lv_icmp_ge (tgt := 161) hx hb d_S_setKey_102 (by decide) (fun c_62 => absurd c_62 (sb_geF (a := 6) (b := 8) rfl rfl (by omega) (by omega) (by omega))) (fun c_62 => ?_)
  refine lv_aload_n hx hb d_S_setKey_105 rfl (lv_at hl 4 rfl) ?_
  refine va_get (D := D) (ci := 3) (v := .ref q1) (C := R_S) (T := F_S) (N := 4) hx hb hts in_S hown hG.1 hP 0 rfl rfl 0 (by decide) (hts _ k_97) (fun _ h9 => h9) rfl d_S_setKey_106 ?_
  refine lv_iload hx hb d_S_setKey_109 (lv_at hl 1 rfl) ?_
  refine lv_iload hx hb d_S_setKey_111 (lv_at hl 0 rfl) ?_
  refine lv_iadd hx hb d_S_setKey_113 ?_
  refine sb_topn 14 (sb_eqn (a := 8 + 6) (b := 14) (nI_add 8 6) (by omega)) ?_
  refine lv_aload_n hx hb d_S_setKey_114 rfl (lv_at hl 4 rfl) ?_
  refine va_get (D := D) (ci := 3) (v := .ref q1) (C := R_S) (T := F_S) (N := 4) hx hb hts in_S hown hG.1 hP 0 rfl rfl 0 (by decide) (hts _ k_97) (fun _ h9 => h9) rfl d_S_setKey_115 ?_
  refine lv_iload hx hb d_S_setKey_118 (lv_at hl 1 rfl) ?_
  refine sb_lldv hx hb hG.1 hP 1 rfl 8 rfl (by omega) (by omega) (v := x_2) kf_60_8 d_S_setKey_120 ?_
  refine lv_aload_n hx hb d_S_setKey_121 rfl (lv_at hl 4 rfl) ?_
  refine va_get (D := D) (ci := 3) (v := .ref q1) (C := R_S) (T := F_S) (N := 4) hx hb hts in_S hown hG.1 hP 0 rfl rfl 0 (by decide) (hts _ k_97) (fun _ h9 => h9) rfl d_S_setKey_122 ?_
  refine lv_iload hx hb d_S_setKey_125 (lv_at hl 0 rfl) ?_
  refine sb_lldv hx hb hG.1 hP 1 rfl 6 rfl (by omega) (by omega) (v := x_10 ^^^ x_16) kf_60_6 d_S_setKey_127 ?_
  refine lv_lxor hx hb d_S_setKey_128 ?_
  refine sb_lst hx hb hG.1 hP hD hS 1 rfl 14 rfl (by omega) (by omega) d_S_setKey_129 (fun f_63 H locs ef_63 hP hD hS => ?_)
  have hP : va_P D vwCl [(h, .inr (3, [.ref q1, .ref q2, .long x, .long y])), (q1, .inl (cL, 16, .inr (.inl f_63))), (q2, .inl (cL, 16, .inr (.inl f_61)))] H := hP
  have hD : va_D A [(h, .inr (3, [.ref q1, .ref q2, .long x, .long y])), (q1, .inl (cL, 16, .inr (.inl f_63))), (q2, .inl (cL, 16, .inr (.inl f_61)))] := hD
  have kf_63_0 : f_63 0 = th 0 := by rw [ef_63]; exact (pk_uLn (by decide)).trans kf_60_0
  have kf_63_8 : f_63 8 = x_2 := by rw [ef_63]; exact (pk_uLn (by decide)).trans kf_60_8
  have kf_63_4 : f_63 4 = x_10 := by rw [ef_63]; exact (pk_uLn (by decide)).trans kf_60_4
  have kf_63_2 : f_63 2 = x_16 := by rw [ef_63]; exact (pk_uLn (by decide)).trans kf_60_2
  have kf_63_1 : f_63 1 = x_22 := by rw [ef_63]; exact (pk_uLn (by decide)).trans kf_60_1
  have kf_63_3 : f_63 3 = x_16 ^^^ x_22 := by rw [ef_63]; exact (pk_uLn (by decide)).trans kf_60_3
  have kf_63_5 : f_63 5 = x_10 ^^^ x_22 := by rw [ef_63]; exact (pk_uLn (by decide)).trans kf_60_5
  have kf_63_6 : f_63 6 = x_10 ^^^ x_16 := by rw [ef_63]; exact (pk_uLn (by decide)).trans kf_60_6
  have kf_63_7 : f_63 7 = x_10 ^^^ (x_16 ^^^ x_22) := by rw [ef_63]; exact (pk_uLn (by decide)).trans kf_60_7
  have kf_63_9 : f_63 9 = x_2 ^^^ x_22 := by rw [ef_63]; exact (pk_uLn (by decide)).trans kf_60_9
  have kf_63_10 : f_63 10 = x_2 ^^^ x_16 := by rw [ef_63]; exact (pk_uLn (by decide)).trans kf_60_10
  have kf_63_11 : f_63 11 = x_2 ^^^ (x_16 ^^^ x_22) := by rw [ef_63]; exact (pk_uLn (by decide)).trans kf_60_11
  have kf_63_12 : f_63 12 = x_2 ^^^ x_10 := by rw [ef_63]; exact (pk_uLn (by decide)).trans kf_60_12
  have kf_63_13 : f_63 13 = x_2 ^^^ (x_10 ^^^ x_22) := by rw [ef_63]; exact (pk_uLn (by decide)).trans kf_60_13
  have kf_63_14 : f_63 14 = x_2 ^^^ (x_10 ^^^ x_16) := by rw [ef_63]; exact pk_uLs
  refine lv_aload_n hx hb d_S_setKey_130 rfl (lv_at hl 4 rfl) ?_
  refine va_get (D := D) (ci := 3) (v := .ref q2) (C := R_S) (T := F_S) (N := 4) hx hb hts in_S hown hG.1 hP 0 rfl rfl 1 (by decide) (hts _ k_98) (fun _ h9 => h9) rfl d_S_setKey_131 ?_
  refine lv_iload hx hb d_S_setKey_134 (lv_at hl 1 rfl) ?_
  refine lv_iload hx hb d_S_setKey_136 (lv_at hl 0 rfl) ?_
  refine lv_iadd hx hb d_S_setKey_138 ?_
  refine sb_topn 14 (sb_eqn (a := 8 + 6) (b := 14) (nI_add 8 6) (by omega)) ?_
  refine lv_aload_n hx hb d_S_setKey_139 rfl (lv_at hl 4 rfl) ?_
  refine va_get (D := D) (ci := 3) (v := .ref q2) (C := R_S) (T := F_S) (N := 4) hx hb hts in_S hown hG.1 hP 0 rfl rfl 1 (by decide) (hts _ k_98) (fun _ h9 => h9) rfl d_S_setKey_140 ?_
  refine lv_iload hx hb d_S_setKey_143 (lv_at hl 1 rfl) ?_
  refine sb_lldv hx hb hG.1 hP 2 rfl 8 rfl (by omega) (by omega) (v := x_4) kf_61_8 d_S_setKey_145 ?_
  refine lv_aload_n hx hb d_S_setKey_146 rfl (lv_at hl 4 rfl) ?_
  refine va_get (D := D) (ci := 3) (v := .ref q2) (C := R_S) (T := F_S) (N := 4) hx hb hts in_S hown hG.1 hP 0 rfl rfl 1 (by decide) (hts _ k_98) (fun _ h9 => h9) rfl d_S_setKey_147 ?_
  refine lv_iload hx hb d_S_setKey_150 (lv_at hl 0 rfl) ?_
  refine sb_lldv hx hb hG.1 hP 2 rfl 6 rfl (by omega) (by omega) (v := x_9 ^^^ x_15) kf_61_6 d_S_setKey_152 ?_
  refine lv_lxor hx hb d_S_setKey_153 ?_
  refine sb_lst hx hb hG.1 hP hD hS 2 rfl 14 rfl (by omega) (by omega) d_S_setKey_154 (fun f_64 H locs ef_64 hP hD hS => ?_)
  have hP : va_P D vwCl [(h, .inr (3, [.ref q1, .ref q2, .long x, .long y])), (q1, .inl (cL, 16, .inr (.inl f_63))), (q2, .inl (cL, 16, .inr (.inl f_64)))] H := hP
  have hD : va_D A [(h, .inr (3, [.ref q1, .ref q2, .long x, .long y])), (q1, .inl (cL, 16, .inr (.inl f_63))), (q2, .inl (cL, 16, .inr (.inl f_64)))] := hD
  have kf_64_0 : f_64 0 = tl 0 := by rw [ef_64]; exact (pk_uLn (by decide)).trans kf_61_0
  have kf_64_8 : f_64 8 = x_4 := by rw [ef_64]; exact (pk_uLn (by decide)).trans kf_61_8
  have kf_64_4 : f_64 4 = x_9 := by rw [ef_64]; exact (pk_uLn (by decide)).trans kf_61_4
  have kf_64_2 : f_64 2 = x_15 := by rw [ef_64]; exact (pk_uLn (by decide)).trans kf_61_2
  have kf_64_1 : f_64 1 = x_21 := by rw [ef_64]; exact (pk_uLn (by decide)).trans kf_61_1
  have kf_64_3 : f_64 3 = x_15 ^^^ x_21 := by rw [ef_64]; exact (pk_uLn (by decide)).trans kf_61_3
  have kf_64_5 : f_64 5 = x_9 ^^^ x_21 := by rw [ef_64]; exact (pk_uLn (by decide)).trans kf_61_5
  have kf_64_6 : f_64 6 = x_9 ^^^ x_15 := by rw [ef_64]; exact (pk_uLn (by decide)).trans kf_61_6
  have kf_64_7 : f_64 7 = x_9 ^^^ (x_15 ^^^ x_21) := by rw [ef_64]; exact (pk_uLn (by decide)).trans kf_61_7
  have kf_64_9 : f_64 9 = x_4 ^^^ x_21 := by rw [ef_64]; exact (pk_uLn (by decide)).trans kf_61_9
  have kf_64_10 : f_64 10 = x_4 ^^^ x_15 := by rw [ef_64]; exact (pk_uLn (by decide)).trans kf_61_10
  have kf_64_11 : f_64 11 = x_4 ^^^ (x_15 ^^^ x_21) := by rw [ef_64]; exact (pk_uLn (by decide)).trans kf_61_11
  have kf_64_12 : f_64 12 = x_4 ^^^ x_9 := by rw [ef_64]; exact (pk_uLn (by decide)).trans kf_61_12
  have kf_64_13 : f_64 13 = x_4 ^^^ (x_9 ^^^ x_21) := by rw [ef_64]; exact (pk_uLn (by decide)).trans kf_61_13
  have kf_64_14 : f_64 14 = x_4 ^^^ (x_9 ^^^ x_15) := by rw [ef_64]; exact pk_uLs
  refine lv_iinc (v := nI 7) (lv' := [(10, .int (nI 7)), (9, .int (nI 8)), (5, .long x_28), (7, .long x_27), (0, .ref h), (1, .int a), (2, .int b), (3, .int c0), (4, .int d0)]) hx hb d_S_setKey_155 hl (k := 0) rfl (sb_inc (a := 6) (b := 7) (d := 1) rfl (by decide) (by omega)) (by decide) rfl (fun ls hl => ?_)
  refine lv_goto (tgt := 98) hx hb d_S_setKey_158 (by decide) ?_
  refine lv_iload hx hb d_S_setKey_98 (lv_at hl 0 rfl) ?_
  refine lv_iload hx hb d_S_setKey_100 (lv_at hl 1 rfl) ?_
  refine lv_icmp_ge (tgt := 161) hx hb d_S_setKey_102 (by decide) (fun c_65 => absurd c_65 (sb_geF (a := 7) (b := 8) rfl rfl (by omega) (by omega) (by omega))) (fun c_65 => ?_)
  refine lv_aload_n hx hb d_S_setKey_105 rfl (lv_at hl 4 rfl) ?_
  refine va_get (D := D) (ci := 3) (v := .ref q1) (C := R_S) (T := F_S) (N := 4) hx hb hts in_S hown hG.1 hP 0 rfl rfl 0 (by decide) (hts _ k_97) (fun _ h9 => h9) rfl d_S_setKey_106 ?_
  refine lv_iload hx hb d_S_setKey_109 (lv_at hl 1 rfl) ?_
  refine lv_iload hx hb d_S_setKey_111 (lv_at hl 0 rfl) ?_
  refine lv_iadd hx hb d_S_setKey_113 ?_
  refine sb_topn 15 (sb_eqn (a := 8 + 7) (b := 15) (nI_add 8 7) (by omega)) ?_
  refine lv_aload_n hx hb d_S_setKey_114 rfl (lv_at hl 4 rfl) ?_
  refine va_get (D := D) (ci := 3) (v := .ref q1) (C := R_S) (T := F_S) (N := 4) hx hb hts in_S hown hG.1 hP 0 rfl rfl 0 (by decide) (hts _ k_97) (fun _ h9 => h9) rfl d_S_setKey_115 ?_
  refine lv_iload hx hb d_S_setKey_118 (lv_at hl 1 rfl) ?_
  refine sb_lldv hx hb hG.1 hP 1 rfl 8 rfl (by omega) (by omega) (v := x_2) kf_63_8 d_S_setKey_120 ?_
  refine lv_aload_n hx hb d_S_setKey_121 rfl (lv_at hl 4 rfl) ?_
  refine va_get (D := D) (ci := 3) (v := .ref q1) (C := R_S) (T := F_S) (N := 4) hx hb hts in_S hown hG.1 hP 0 rfl rfl 0 (by decide) (hts _ k_97) (fun _ h9 => h9) rfl d_S_setKey_122 ?_
  refine lv_iload hx hb d_S_setKey_125 (lv_at hl 0 rfl) ?_
  refine sb_lldv hx hb hG.1 hP 1 rfl 7 rfl (by omega) (by omega) (v := x_10 ^^^ (x_16 ^^^ x_22)) kf_63_7 d_S_setKey_127 ?_
  refine lv_lxor hx hb d_S_setKey_128 ?_
  refine sb_lst hx hb hG.1 hP hD hS 1 rfl 15 rfl (by omega) (by omega) d_S_setKey_129 (fun f_66 H locs ef_66 hP hD hS => ?_)
  have hP : va_P D vwCl [(h, .inr (3, [.ref q1, .ref q2, .long x, .long y])), (q1, .inl (cL, 16, .inr (.inl f_66))), (q2, .inl (cL, 16, .inr (.inl f_64)))] H := hP
  have hD : va_D A [(h, .inr (3, [.ref q1, .ref q2, .long x, .long y])), (q1, .inl (cL, 16, .inr (.inl f_66))), (q2, .inl (cL, 16, .inr (.inl f_64)))] := hD
  have kf_66_0 : f_66 0 = th 0 := by rw [ef_66]; exact (pk_uLn (by decide)).trans kf_63_0
  have kf_66_8 : f_66 8 = x_2 := by rw [ef_66]; exact (pk_uLn (by decide)).trans kf_63_8
  have kf_66_4 : f_66 4 = x_10 := by rw [ef_66]; exact (pk_uLn (by decide)).trans kf_63_4
  have kf_66_2 : f_66 2 = x_16 := by rw [ef_66]; exact (pk_uLn (by decide)).trans kf_63_2
  have kf_66_1 : f_66 1 = x_22 := by rw [ef_66]; exact (pk_uLn (by decide)).trans kf_63_1
  have kf_66_3 : f_66 3 = x_16 ^^^ x_22 := by rw [ef_66]; exact (pk_uLn (by decide)).trans kf_63_3
  have kf_66_5 : f_66 5 = x_10 ^^^ x_22 := by rw [ef_66]; exact (pk_uLn (by decide)).trans kf_63_5
  have kf_66_6 : f_66 6 = x_10 ^^^ x_16 := by rw [ef_66]; exact (pk_uLn (by decide)).trans kf_63_6
  have kf_66_7 : f_66 7 = x_10 ^^^ (x_16 ^^^ x_22) := by rw [ef_66]; exact (pk_uLn (by decide)).trans kf_63_7
  have kf_66_9 : f_66 9 = x_2 ^^^ x_22 := by rw [ef_66]; exact (pk_uLn (by decide)).trans kf_63_9
  have kf_66_10 : f_66 10 = x_2 ^^^ x_16 := by rw [ef_66]; exact (pk_uLn (by decide)).trans kf_63_10
  have kf_66_11 : f_66 11 = x_2 ^^^ (x_16 ^^^ x_22) := by rw [ef_66]; exact (pk_uLn (by decide)).trans kf_63_11
  have kf_66_12 : f_66 12 = x_2 ^^^ x_10 := by rw [ef_66]; exact (pk_uLn (by decide)).trans kf_63_12
  have kf_66_13 : f_66 13 = x_2 ^^^ (x_10 ^^^ x_22) := by rw [ef_66]; exact (pk_uLn (by decide)).trans kf_63_13
  have kf_66_14 : f_66 14 = x_2 ^^^ (x_10 ^^^ x_16) := by rw [ef_66]; exact (pk_uLn (by decide)).trans kf_63_14
  have kf_66_15 : f_66 15 = x_2 ^^^ (x_10 ^^^ (x_16 ^^^ x_22)) := by rw [ef_66]; exact pk_uLs
  refine lv_aload_n hx hb d_S_setKey_130 rfl (lv_at hl 4 rfl) ?_
  refine va_get (D := D) (ci := 3) (v := .ref q2) (C := R_S) (T := F_S) (N := 4) hx hb hts in_S hown hG.1 hP 0 rfl rfl 1 (by decide) (hts _ k_98) (fun _ h9 => h9) rfl d_S_setKey_131 ?_
  refine lv_iload hx hb d_S_setKey_134 (lv_at hl 1 rfl) ?_
  refine lv_iload hx hb d_S_setKey_136 (lv_at hl 0 rfl) ?_
  refine lv_iadd hx hb d_S_setKey_138 ?_
  refine sb_topn 15 (sb_eqn (a := 8 + 7) (b := 15) (nI_add 8 7) (by omega)) ?_
  refine lv_aload_n hx hb d_S_setKey_139 rfl (lv_at hl 4 rfl) ?_
  refine va_get (D := D) (ci := 3) (v := .ref q2) (C := R_S) (T := F_S) (N := 4) hx hb hts in_S hown hG.1 hP 0 rfl rfl 1 (by decide) (hts _ k_98) (fun _ h9 => h9) rfl d_S_setKey_140 ?_
  refine lv_iload hx hb d_S_setKey_143 (lv_at hl 1 rfl) ?_
  refine sb_lldv hx hb hG.1 hP 2 rfl 8 rfl (by omega) (by omega) (v := x_4) kf_64_8 d_S_setKey_145 ?_
  refine lv_aload_n hx hb d_S_setKey_146 rfl (lv_at hl 4 rfl) ?_
  refine va_get (D := D) (ci := 3) (v := .ref q2) (C := R_S) (T := F_S) (N := 4) hx hb hts in_S hown hG.1 hP 0 rfl rfl 1 (by decide) (hts _ k_98) (fun _ h9 => h9) rfl d_S_setKey_147 ?_
  refine lv_iload hx hb d_S_setKey_150 (lv_at hl 0 rfl) ?_
  refine sb_lldv hx hb hG.1 hP 2 rfl 7 rfl (by omega) (by omega) (v := x_9 ^^^ (x_15 ^^^ x_21)) kf_64_7 d_S_setKey_152 ?_
  refine lv_lxor hx hb d_S_setKey_153 ?_
  refine sb_lst hx hb hG.1 hP hD hS 2 rfl 15 rfl (by omega) (by omega) d_S_setKey_154 (fun f_67 H locs ef_67 hP hD hS => ?_)
  have hP : va_P D vwCl [(h, .inr (3, [.ref q1, .ref q2, .long x, .long y])), (q1, .inl (cL, 16, .inr (.inl f_66))), (q2, .inl (cL, 16, .inr (.inl f_67)))] H := hP
  have hD : va_D A [(h, .inr (3, [.ref q1, .ref q2, .long x, .long y])), (q1, .inl (cL, 16, .inr (.inl f_66))), (q2, .inl (cL, 16, .inr (.inl f_67)))] := hD
  have kf_67_0 : f_67 0 = tl 0 := by rw [ef_67]; exact (pk_uLn (by decide)).trans kf_64_0
  have kf_67_8 : f_67 8 = x_4 := by rw [ef_67]; exact (pk_uLn (by decide)).trans kf_64_8
  have kf_67_4 : f_67 4 = x_9 := by rw [ef_67]; exact (pk_uLn (by decide)).trans kf_64_4
  have kf_67_2 : f_67 2 = x_15 := by rw [ef_67]; exact (pk_uLn (by decide)).trans kf_64_2
  have kf_67_1 : f_67 1 = x_21 := by rw [ef_67]; exact (pk_uLn (by decide)).trans kf_64_1
  have kf_67_3 : f_67 3 = x_15 ^^^ x_21 := by rw [ef_67]; exact (pk_uLn (by decide)).trans kf_64_3
  have kf_67_5 : f_67 5 = x_9 ^^^ x_21 := by rw [ef_67]; exact (pk_uLn (by decide)).trans kf_64_5
  have kf_67_6 : f_67 6 = x_9 ^^^ x_15 := by rw [ef_67]; exact (pk_uLn (by decide)).trans kf_64_6
  have kf_67_7 : f_67 7 = x_9 ^^^ (x_15 ^^^ x_21) := by rw [ef_67]; exact (pk_uLn (by decide)).trans kf_64_7
  have kf_67_9 : f_67 9 = x_4 ^^^ x_21 := by rw [ef_67]; exact (pk_uLn (by decide)).trans kf_64_9
  have kf_67_10 : f_67 10 = x_4 ^^^ x_15 := by rw [ef_67]; exact (pk_uLn (by decide)).trans kf_64_10
  have kf_67_11 : f_67 11 = x_4 ^^^ (x_15 ^^^ x_21) := by rw [ef_67]; exact (pk_uLn (by decide)).trans kf_64_11
  have kf_67_12 : f_67 12 = x_4 ^^^ x_9 := by rw [ef_67]; exact (pk_uLn (by decide)).trans kf_64_12
  have kf_67_13 : f_67 13 = x_4 ^^^ (x_9 ^^^ x_21) := by rw [ef_67]; exact (pk_uLn (by decide)).trans kf_64_13
  have kf_67_14 : f_67 14 = x_4 ^^^ (x_9 ^^^ x_15) := by rw [ef_67]; exact (pk_uLn (by decide)).trans kf_64_14
  have kf_67_15 : f_67 15 = x_4 ^^^ (x_9 ^^^ (x_15 ^^^ x_21)) := by rw [ef_67]; exact pk_uLs
  refine lv_iinc (v := nI 8) (lv' := [(10, .int (nI 8)), (9, .int (nI 8)), (5, .long x_28), (7, .long x_27), (0, .ref h), (1, .int a), (2, .int b), (3, .int c0), (4, .int d0)]) hx hb d_S_setKey_155 hl (k := 0) rfl (sb_inc (a := 7) (b := 8) (d := 1) rfl (by decide) (by omega)) (by decide) rfl (fun ls hl => ?_)
  refine lv_goto (tgt := 98) hx hb d_S_setKey_158 (by decide) ?_
  refine lv_iload hx hb d_S_setKey_98 (lv_at hl 0 rfl) ?_
  refine lv_iload hx hb d_S_setKey_100 (lv_at hl 1 rfl) ?_
  refine lv_icmp_ge (tgt := 161) hx hb d_S_setKey_102 (by decide) (fun c_68 => ?_) (fun c_68 => absurd (sb_geT (a := 8) (b := 8) rfl rfl (by omega) (by omega) (by omega)) c_68)
  refine lv_iload hx hb d_S_setKey_161 (lv_at hl 1 rfl) ?_
  refine lv_iconst (v := 1) hx hb d_S_setKey_163 (by decide) ?_
  refine lv_ishl hx hb d_S_setKey_164 ?_
  refine sb_topn 16 (by decide) ?_
  refine lv_istore (lv' := [(9, .int (nI 16)), (10, .int (nI 8)), (5, .long x_28), (7, .long x_27), (0, .ref h), (1, .int a), (2, .int b), (3, .int c0), (4, .int d0)]) hx hb d_S_setKey_165 hl (by decide) rfl (fun ls hl => ?_)
  refine lv_goto (tgt := 88) hx hb d_S_setKey_167 (by decide) ?_
  refine lv_iload hx hb d_S_setKey_88 (lv_at hl 0 rfl) ?_
  refine lv_bipush (v := 16) hx hb d_S_setKey_90 (by decide) ?_
  refine lv_icmp_ge (tgt := 170) hx hb d_S_setKey_92 (by decide) (fun c_69 => ?_) (fun c_69 => absurd (sb_geT (a := 16) (b := 16) rfl rfl (by omega) (by omega) (by omega)) c_69)
  have hP9 := hP.sub (ws' := [(h, .inr (3, [.ref q1, .ref q2, .long x, .long y])), (q1, .inl (cL, 16, .inr (.inl f_66))), (q2, .inl (cL, 16, .inr (.inl f_67)))]) [0, 1, 2] rfl
  have hD9 := hD.sub (ws' := [(h, .inr (3, [.ref q1, .ref q2, .long x, .long y])), (q1, .inl (cL, 16, .inr (.inl f_66))), (q2, .inl (cL, 16, .inr (.inl f_67)))]) [0, 1, 2] (by decide) rfl
  exact W.vret hx hb hr (fun t ht hW => ⟨⟨(f_66, f_67), rfl, ⟨⟨(by rw [kf_66_0]; (try rfl)), (by rw [kf_66_1]; (try simp only [ex_22, ex_20, ex_15, ex_10, ex_8, ex_4, ex_2, ex_9, ex_16, ex_14]); (try rfl)), (by rw [kf_66_2]; (try simp only [ex_16, ex_14, ex_9, ex_2, ex_4, ex_10, ex_8]); (try rfl)), (by rw [kf_66_3]; (try simp only [ex_22, ex_20, ex_15, ex_10, ex_8, ex_4, ex_2, ex_9, ex_16, ex_14]); (try rfl)), (by rw [kf_66_4]; (try simp only [ex_10, ex_8, ex_4, ex_2]); (try rfl)), (by rw [kf_66_5]; (try simp only [ex_22, ex_20, ex_15, ex_10, ex_8, ex_4, ex_2, ex_9, ex_16, ex_14]); (try rfl)), (by rw [kf_66_6]; (try simp only [ex_16, ex_14, ex_9, ex_2, ex_4, ex_10, ex_8]); (try rfl)), (by rw [kf_66_7]; (try simp only [ex_22, ex_20, ex_15, ex_10, ex_8, ex_4, ex_2, ex_9, ex_16, ex_14]); (try rfl)), (by rw [kf_66_8]; (try simp only [ex_2]); (try rfl)), (by rw [kf_66_9]; (try simp only [ex_22, ex_20, ex_15, ex_10, ex_8, ex_4, ex_2, ex_9, ex_16, ex_14]); (try rfl)), (by rw [kf_66_10]; (try simp only [ex_16, ex_14, ex_9, ex_2, ex_4, ex_10, ex_8]); (try rfl)), (by rw [kf_66_11]; (try simp only [ex_22, ex_20, ex_15, ex_10, ex_8, ex_4, ex_2, ex_9, ex_16, ex_14]); (try rfl)), (by rw [kf_66_12]; (try simp only [ex_10, ex_8, ex_4, ex_2]); (try rfl)), (by rw [kf_66_13]; (try simp only [ex_22, ex_20, ex_15, ex_10, ex_8, ex_4, ex_2, ex_9, ex_16, ex_14]); (try rfl)), (by rw [kf_66_14]; (try simp only [ex_16, ex_14, ex_9, ex_2, ex_4, ex_10, ex_8]); (try rfl)), (by rw [kf_66_15]; (try simp only [ex_22, ex_20, ex_15, ex_10, ex_8, ex_4, ex_2, ex_9, ex_16, ex_14]); (try rfl))⟩, ⟨(by rw [kf_67_0]; (try rfl)), (by rw [kf_67_1]; (try simp only [ex_21, ex_16, ex_14, ex_9, ex_2, ex_4, ex_10, ex_8, ex_15]); (try rfl)), (by rw [kf_67_2]; (try simp only [ex_15, ex_10, ex_8, ex_4, ex_2, ex_9]); (try rfl)), (by rw [kf_67_3]; (try simp only [ex_21, ex_16, ex_14, ex_9, ex_2, ex_4, ex_10, ex_8, ex_15]); (try rfl)), (by rw [kf_67_4]; (try simp only [ex_9, ex_2, ex_4]); (try rfl)), (by rw [kf_67_5]; (try simp only [ex_21, ex_16, ex_14, ex_9, ex_2, ex_4, ex_10, ex_8, ex_15]); (try rfl)), (by rw [kf_67_6]; (try simp only [ex_15, ex_10, ex_8, ex_4, ex_2, ex_9]); (try rfl)), (by rw [kf_67_7]; (try simp only [ex_21, ex_16, ex_14, ex_9, ex_2, ex_4, ex_10, ex_8, ex_15]); (try rfl)), (by rw [kf_67_8]; (try simp only [ex_4]); (try rfl)), (by rw [kf_67_9]; (try simp only [ex_21, ex_16, ex_14, ex_9, ex_2, ex_4, ex_10, ex_8, ex_15]); (try rfl)), (by rw [kf_67_10]; (try simp only [ex_15, ex_10, ex_8, ex_4, ex_2, ex_9]); (try rfl)), (by rw [kf_67_11]; (try simp only [ex_21, ex_16, ex_14, ex_9, ex_2, ex_4, ex_10, ex_8, ex_15]); (try rfl)), (by rw [kf_67_12]; (try simp only [ex_9, ex_2, ex_4]); (try rfl)), (by rw [kf_67_13]; (try simp only [ex_21, ex_16, ex_14, ex_9, ex_2, ex_4, ex_10, ex_8, ex_15]); (try rfl)), (by rw [kf_67_14]; (try simp only [ex_15, ex_10, ex_8, ex_4, ex_2, ex_9]); (try rfl)), (by rw [kf_67_15]; (try simp only [ex_21, ex_16, ex_14, ex_9, ex_2, ex_4, ex_10, ex_8, ex_15]); (try rfl))⟩⟩, by rw [ht]; exact hP9, hD9⟩, hS.F ht⟩) hS.2.2 d_S_setKey_170
