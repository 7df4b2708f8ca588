def rotI (w b : Int32) : Int32 := (w <<< (b &&& 31)) ||| uS w (32 - b)
def swpI (w : Int32) : Int32 := (((w <<< ((24 : Int32) &&& 31)) ||| ((w &&& 65280) <<< ((8 : Int32) &&& 31))) ||| (uS w 8 &&& 65280)) ||| uS w 24
def dblI (w : Int32) : Int32 := ((w &&& 2139062143) <<< ((1 : Int32) &&& 31)) ^^^ ((uS w 7 &&& 16843009) * 27)
def mixI (w : Int32) : Int32 := ((dblI (w ^^^ rotI w 8) ^^^ rotI w 8) ^^^ rotI w 16) ^^^ rotI w 24
def joinL (a b : Int32) : Int64 := sL a.toInt64 32 ||| (b.toInt64 &&& 4294967295)

theorem d_X_rotated_0 : decode b_X_rotated 0 = .ok (.iload_n 0, 1) := by decide +kernel
theorem d_X_rotated_1 : decode b_X_rotated 1 = .ok (.iload_n 1, 1) := by decide +kernel
theorem d_X_rotated_2 : decode b_X_rotated 2 = .ok (.ishl, 1) := by decide +kernel
theorem d_X_rotated_3 : decode b_X_rotated 3 = .ok (.iload_n 0, 1) := by decide +kernel
theorem d_X_rotated_4 : decode b_X_rotated 4 = .ok (.bipush 32, 2) := by decide +kernel
theorem d_X_rotated_6 : decode b_X_rotated 6 = .ok (.iload_n 1, 1) := by decide +kernel
theorem d_X_rotated_7 : decode b_X_rotated 7 = .ok (.isub, 1) := by decide +kernel
theorem d_X_rotated_8 : decode b_X_rotated 8 = .ok (.iushr, 1) := by decide +kernel
theorem d_X_rotated_9 : decode b_X_rotated 9 = .ok (.ior, 1) := by decide +kernel
theorem d_X_rotated_10 : decode b_X_rotated 10 = .ok (.ireturn, 1) := by decide +kernel

def rm_X_rotated : Room := { frames := 0, cells := 0, slots := 0, locals := 0 }
set_option maxHeartbeats 4000000 in
set_option maxRecDepth 100000 in
theorem c_X_rotated (l : Launch) (D : va_G) (cI cL cB : ClassId) (tS tF : Nat) (w : Int32) (b : Int32)  : Met l y_X_rotated (sbw y_X_rotated b_X_rotated 2 (some .int)) rm_X_rotated (sbPr D cI cL cB tS tF [.int w, .int b] []) (vp_Si (fun r => r = rotI w b)) 0 0 (fun _ => False) := by
  refine sb_ofR (by decide) (Nat.le_of_ble_eq_true rfl) ?_
  intro p e s m args below meth c ls hx hb hr hml hts hown hlocks hP hG hS hl
  have hl : lv_has ls 2 [(0, .int w), (1, .int b)] := hl
  refine lv_iload_n hx hb d_X_rotated_0 rfl (lv_at hl 0 rfl) ?_
  refine lv_iload_n hx hb d_X_rotated_1 rfl (lv_at hl 1 rfl) ?_
  refine lv_ishl hx hb d_X_rotated_2 ?_
  refine lv_iload_n hx hb d_X_rotated_3 rfl (lv_at hl 0 rfl) ?_
  refine lv_bipush (v := 32) hx hb d_X_rotated_4 (by decide) ?_
  refine lv_iload_n hx hb d_X_rotated_6 rfl (lv_at hl 1 rfl) ?_
  refine lv_isub hx hb d_X_rotated_7 ?_
  refine lv_iushr (v := uS w (32 - b)) hx hb d_X_rotated_8 rfl ?_
  refine lv_ior hx hb d_X_rotated_9 ?_
  exact W.iret (v := (w <<< (b &&& 31)) ||| (uS w (32 - b))) hx hb hr (fun t ht hW => ⟨_, rfl, (by subst_vars; rfl), ht⟩) hS.2.2 d_X_rotated_10

theorem d_X_swapped_0 : decode b_X_swapped 0 = .ok (.iload_n 0, 1) := by decide +kernel
theorem d_X_swapped_1 : decode b_X_swapped 1 = .ok (.bipush 24, 2) := by decide +kernel
theorem d_X_swapped_3 : decode b_X_swapped 3 = .ok (.ishl, 1) := by decide +kernel
theorem d_X_swapped_4 : decode b_X_swapped 4 = .ok (.iload_n 0, 1) := by decide +kernel
theorem d_X_swapped_5 : decode b_X_swapped 5 = .ok (.ldc 156, 2) := by decide +kernel
theorem d_X_swapped_7 : decode b_X_swapped 7 = .ok (.iand, 1) := by decide +kernel
theorem d_X_swapped_8 : decode b_X_swapped 8 = .ok (.bipush 8, 2) := by decide +kernel
theorem d_X_swapped_10 : decode b_X_swapped 10 = .ok (.ishl, 1) := by decide +kernel
theorem d_X_swapped_11 : decode b_X_swapped 11 = .ok (.ior, 1) := by decide +kernel
theorem d_X_swapped_12 : decode b_X_swapped 12 = .ok (.iload_n 0, 1) := by decide +kernel
theorem d_X_swapped_13 : decode b_X_swapped 13 = .ok (.bipush 8, 2) := by decide +kernel
theorem d_X_swapped_15 : decode b_X_swapped 15 = .ok (.iushr, 1) := by decide +kernel
theorem d_X_swapped_16 : decode b_X_swapped 16 = .ok (.ldc 156, 2) := by decide +kernel
theorem d_X_swapped_18 : decode b_X_swapped 18 = .ok (.iand, 1) := by decide +kernel
theorem d_X_swapped_19 : decode b_X_swapped 19 = .ok (.ior, 1) := by decide +kernel
theorem d_X_swapped_20 : decode b_X_swapped 20 = .ok (.iload_n 0, 1) := by decide +kernel
theorem d_X_swapped_21 : decode b_X_swapped 21 = .ok (.bipush 24, 2) := by decide +kernel
theorem d_X_swapped_23 : decode b_X_swapped 23 = .ok (.iushr, 1) := by decide +kernel
theorem d_X_swapped_24 : decode b_X_swapped 24 = .ok (.ior, 1) := by decide +kernel
theorem d_X_swapped_25 : decode b_X_swapped 25 = .ok (.ireturn, 1) := by decide +kernel

def rm_X_swapped : Room := { frames := 0, cells := 0, slots := 0, locals := 0 }
set_option maxHeartbeats 4000000 in
set_option maxRecDepth 100000 in
theorem c_X_swapped (l : Launch) (D : va_G) (cI cL cB : ClassId) (tS tF : Nat) (w : Int32)  : Met l y_X_swapped (sbw y_X_swapped b_X_swapped 1 (some .int)) rm_X_swapped (sbPr D cI cL cB tS tF [.int w] []) (vp_Si (fun r => r = swpI w)) 0 0 (fun _ => False) := by
  refine sb_ofR (by decide) (Nat.le_of_ble_eq_true rfl) ?_
  intro p e s m args below meth c ls hx hb hr hml hts hown hlocks hP hG hS hl
  have hl : lv_has ls 1 [(0, .int w)] := hl
  refine lv_iload_n hx hb d_X_swapped_0 rfl (lv_at hl 0 rfl) ?_
  refine lv_bipush (v := 24) hx hb d_X_swapped_1 (by decide) ?_
  refine lv_ishl hx hb d_X_swapped_3 ?_
  refine lv_iload_n hx hb d_X_swapped_4 rfl (lv_at hl 0 rfl) ?_
  refine lv_ldc (v := 65280) hx hb hown (hts (.constant R_X 156 65280) (by decide +kernel)) d_X_swapped_5 ?_
  refine lv_iand hx hb d_X_swapped_7 ?_
  refine lv_bipush (v := 8) hx hb d_X_swapped_8 (by decide) ?_
  refine lv_ishl hx hb d_X_swapped_10 ?_
  refine lv_ior hx hb d_X_swapped_11 ?_
  refine lv_iload_n hx hb d_X_swapped_12 rfl (lv_at hl 0 rfl) ?_
  refine lv_bipush (v := 8) hx hb d_X_swapped_13 (by decide) ?_
  refine lv_iushr (v := uS w 8) hx hb d_X_swapped_15 rfl ?_
  refine lv_ldc (v := 65280) hx hb hown (hts (.constant R_X 156 65280) (by decide +kernel)) d_X_swapped_16 ?_
  refine lv_iand hx hb d_X_swapped_18 ?_
  refine lv_ior hx hb d_X_swapped_19 ?_
  refine lv_iload_n hx hb d_X_swapped_20 rfl (lv_at hl 0 rfl) ?_
  refine lv_bipush (v := 24) hx hb d_X_swapped_21 (by decide) ?_
  refine lv_iushr (v := uS w 24) hx hb d_X_swapped_23 rfl ?_
  refine lv_ior hx hb d_X_swapped_24 ?_
  exact W.iret (v := (((w <<< (24 &&& 31)) ||| ((w &&& 65280) <<< (8 &&& 31))) ||| ((uS w 8) &&& 65280)) ||| (uS w 24)) hx hb hr (fun t ht hW => ⟨_, rfl, (by subst_vars; rfl), ht⟩) hS.2.2 d_X_swapped_25

theorem d_A_doubled_0 : decode b_A_doubled 0 = .ok (.iload_n 0, 1) := by decide +kernel
theorem d_A_doubled_1 : decode b_A_doubled 1 = .ok (.ldc 46, 2) := by decide +kernel
theorem d_A_doubled_3 : decode b_A_doubled 3 = .ok (.iand, 1) := by decide +kernel
theorem d_A_doubled_4 : decode b_A_doubled 4 = .ok (.iconst 1, 1) := by decide +kernel
theorem d_A_doubled_5 : decode b_A_doubled 5 = .ok (.ishl, 1) := by decide +kernel
theorem d_A_doubled_6 : decode b_A_doubled 6 = .ok (.iload_n 0, 1) := by decide +kernel
theorem d_A_doubled_7 : decode b_A_doubled 7 = .ok (.bipush 7, 2) := by decide +kernel
theorem d_A_doubled_9 : decode b_A_doubled 9 = .ok (.iushr, 1) := by decide +kernel
theorem d_A_doubled_10 : decode b_A_doubled 10 = .ok (.ldc 47, 2) := by decide +kernel
theorem d_A_doubled_12 : decode b_A_doubled 12 = .ok (.iand, 1) := by decide +kernel
theorem d_A_doubled_13 : decode b_A_doubled 13 = .ok (.bipush 27, 2) := by decide +kernel
theorem d_A_doubled_15 : decode b_A_doubled 15 = .ok (.imul, 1) := by decide +kernel
theorem d_A_doubled_16 : decode b_A_doubled 16 = .ok (.ixor, 1) := by decide +kernel
theorem d_A_doubled_17 : decode b_A_doubled 17 = .ok (.ireturn, 1) := by decide +kernel

def rm_A_doubled : Room := { frames := 0, cells := 0, slots := 0, locals := 0 }
set_option maxHeartbeats 4000000 in
set_option maxRecDepth 100000 in
theorem c_A_doubled (l : Launch) (D : va_G) (cI cL cB : ClassId) (tS tF : Nat) (w : Int32)  : Met l y_A_doubled (sbw y_A_doubled b_A_doubled 1 (some .int)) rm_A_doubled (sbPr D cI cL cB tS tF [.int w] []) (vp_Si (fun r => r = dblI w)) 0 0 (fun _ => False) := by
  refine sb_ofR (by decide) (Nat.le_of_ble_eq_true rfl) ?_
  intro p e s m args below meth c ls hx hb hr hml hts hown hlocks hP hG hS hl
  have hl : lv_has ls 1 [(0, .int w)] := hl
  refine lv_iload_n hx hb d_A_doubled_0 rfl (lv_at hl 0 rfl) ?_
  refine lv_ldc (v := 2139062143) hx hb hown (hts (.constant R_A 46 2139062143) (by decide +kernel)) d_A_doubled_1 ?_
  refine lv_iand hx hb d_A_doubled_3 ?_
  refine lv_iconst (v := 1) hx hb d_A_doubled_4 (by decide) ?_
  refine lv_ishl hx hb d_A_doubled_5 ?_
  refine lv_iload_n hx hb d_A_doubled_6 rfl (lv_at hl 0 rfl) ?_
  refine lv_bipush (v := 7) hx hb d_A_doubled_7 (by decide) ?_
  refine lv_iushr (v := uS w 7) hx hb d_A_doubled_9 rfl ?_
  refine lv_ldc (v := 16843009) hx hb hown (hts (.constant R_A 47 16843009) (by decide +kernel)) d_A_doubled_10 ?_
  refine lv_iand hx hb d_A_doubled_12 ?_
  refine lv_bipush (v := 27) hx hb d_A_doubled_13 (by decide) ?_
  refine lv_imul hx hb d_A_doubled_15 ?_
  refine lv_ixor hx hb d_A_doubled_16 ?_
  exact W.iret (v := ((w &&& 2139062143) <<< (1 &&& 31)) ^^^ (((uS w 7) &&& 16843009) * 27)) hx hb hr (fun t ht hW => ⟨_, rfl, (by subst_vars; rfl), ht⟩) hS.2.2 d_A_doubled_17

theorem d_A_mixed_0 : decode b_A_mixed 0 = .ok (.iload_n 0, 1) := by decide +kernel
theorem d_A_mixed_1 : decode b_A_mixed 1 = .ok (.bipush 8, 2) := by decide +kernel
theorem d_A_mixed_3 : decode b_A_mixed 3 = .ok (.invokestatic 27, 3) := by decide +kernel
theorem d_A_mixed_6 : decode b_A_mixed 6 = .ok (.istore_n 1, 1) := by decide +kernel
theorem d_A_mixed_7 : decode b_A_mixed 7 = .ok (.iload_n 0, 1) := by decide +kernel
theorem d_A_mixed_8 : decode b_A_mixed 8 = .ok (.iload_n 1, 1) := by decide +kernel
theorem d_A_mixed_9 : decode b_A_mixed 9 = .ok (.ixor, 1) := by decide +kernel
theorem d_A_mixed_10 : decode b_A_mixed 10 = .ok (.invokestatic 36, 3) := by decide +kernel
theorem d_A_mixed_13 : decode b_A_mixed 13 = .ok (.iload_n 1, 1) := by decide +kernel
theorem d_A_mixed_14 : decode b_A_mixed 14 = .ok (.ixor, 1) := by decide +kernel
theorem d_A_mixed_15 : decode b_A_mixed 15 = .ok (.iload_n 0, 1) := by decide +kernel
theorem d_A_mixed_16 : decode b_A_mixed 16 = .ok (.bipush 16, 2) := by decide +kernel
theorem d_A_mixed_18 : decode b_A_mixed 18 = .ok (.invokestatic 27, 3) := by decide +kernel
theorem d_A_mixed_21 : decode b_A_mixed 21 = .ok (.ixor, 1) := by decide +kernel
theorem d_A_mixed_22 : decode b_A_mixed 22 = .ok (.iload_n 0, 1) := by decide +kernel
theorem d_A_mixed_23 : decode b_A_mixed 23 = .ok (.bipush 24, 2) := by decide +kernel
theorem d_A_mixed_25 : decode b_A_mixed 25 = .ok (.invokestatic 27, 3) := by decide +kernel
theorem d_A_mixed_28 : decode b_A_mixed 28 = .ok (.ixor, 1) := by decide +kernel
theorem d_A_mixed_29 : decode b_A_mixed 29 = .ok (.ireturn, 1) := by decide +kernel

def rm_A_mixed : Room := { frames := 1, cells := 0, slots := 0, locals := 21 }
set_option maxHeartbeats 4000000 in
set_option maxRecDepth 100000 in
theorem c_A_mixed (l : Launch) (D : va_G) (cI cL cB : ClassId) (tS tF : Nat) (w : Int32)  : Met l y_A_mixed (sbw y_A_mixed b_A_mixed 2 (some .int)) rm_A_mixed (sbPr D cI cL cB tS tF [.int w] []) (vp_Si (fun r => r = mixI w)) 0 0 (fun _ => False) := by
  refine sb_ofR (by decide) (Nat.le_of_ble_eq_true rfl) ?_
  intro p e s m args below meth c ls hx hb hr hml hts hown hlocks hP hG hS hl
  have hl : lv_has ls 2 [(0, .int w)] := hl
  refine lv_iload_n hx hb d_A_mixed_0 rfl (lv_at hl 0 rfl) ?_
  refine lv_bipush (v := 8) hx hb d_A_mixed_1 (by decide) ?_
  refine vp_callSi (va_runSN (As := [.int w, .int 8]) (rest := []) ⟨hx, hb, hml, hown, hts⟩ (c_X_rotated l D cI cL cB tS tF w 8 ) ⟨va_cnB 2 hts (sb_g k_448) rfl rfl rfl (va_Nw.of rfl (hG.nest (args := args) _ n_446)) (hts _ k_22) (by decide +kernel) ⟨Nat.le_of_ble_eq_true rfl, Nat.le_of_ble_eq_true rfl⟩, hts _ k_447, trivial⟩ (sb_rS hG hP hS [] rfl) rfl rfl hl.1 rfl (lv_room (Nat.le_of_ble_eq_true rfl)) d_A_mixed_3 ⟨Nat.le_of_ble_eq_true rfl, Nat.le_of_ble_eq_true rfl⟩).run (fun r_1 er_1 => ?_)
  subst er_1
  refine lv_topi (fun x_2 ex_2 => ?_)
  refine lv_istore_n (lv' := [(1, .int x_2), (0, .int w)]) hx hb d_A_mixed_6 rfl hl (by decide) rfl (fun ls hl => ?_)
  refine lv_iload_n hx hb d_A_mixed_7 rfl (lv_at hl 1 rfl) ?_
  refine lv_iload_n hx hb d_A_mixed_8 rfl (lv_at hl 0 rfl) ?_
  refine lv_ixor hx hb d_A_mixed_9 ?_
  refine vp_callSi (va_runS (As := [.int (w ^^^ x_2)]) (rest := []) ⟨hx, hb, hml, hown, hts⟩ (c_A_doubled l D cI cL cB tS tF (w ^^^ x_2) ) (va_cwS 1 hts (sb_gS k_454 k_455 k_26 k_456) rfl rfl rfl (by decide +kernel) ⟨Nat.le_of_ble_eq_true rfl, Nat.le_of_ble_eq_true rfl⟩) (sb_rS hG hP hS [] rfl) rfl rfl hl.1 rfl (lv_room (Nat.le_of_ble_eq_true rfl)) d_A_mixed_10 ⟨Nat.le_of_ble_eq_true rfl, Nat.le_of_ble_eq_true rfl⟩).run (fun r_3 er_3 => ?_)
  subst er_3
  refine lv_iload_n hx hb d_A_mixed_13 rfl (lv_at hl 0 rfl) ?_
  refine lv_ixor hx hb d_A_mixed_14 ?_
  refine lv_iload_n hx hb d_A_mixed_15 rfl (lv_at hl 1 rfl) ?_
  refine lv_bipush (v := 16) hx hb d_A_mixed_16 (by decide) ?_
  refine vp_callSi (va_runSN (As := [.int w, .int 16]) (rest := [.int ((dblI (w ^^^ x_2)) ^^^ x_2)]) ⟨hx, hb, hml, hown, hts⟩ (c_X_rotated l D cI cL cB tS tF w 16 ) ⟨va_cnB 2 hts (sb_g k_448) rfl rfl rfl (va_Nw.of rfl (hG.nest (args := args) _ n_446)) (hts _ k_22) (by decide +kernel) ⟨Nat.le_of_ble_eq_true rfl, Nat.le_of_ble_eq_true rfl⟩, hts _ k_447, trivial⟩ (sb_rS hG hP hS [] rfl) rfl rfl hl.1 rfl (lv_room (Nat.le_of_ble_eq_true rfl)) d_A_mixed_18 ⟨Nat.le_of_ble_eq_true rfl, Nat.le_of_ble_eq_true rfl⟩).run (fun r_4 er_4 => ?_)
  subst er_4
  refine lv_ixor hx hb d_A_mixed_21 ?_
  refine lv_iload_n hx hb d_A_mixed_22 rfl (lv_at hl 1 rfl) ?_
  refine lv_bipush (v := 24) hx hb d_A_mixed_23 (by decide) ?_
  refine vp_callSi (va_runSN (As := [.int w, .int 24]) (rest := [.int (((dblI (w ^^^ x_2)) ^^^ x_2) ^^^ (rotI w 16))]) ⟨hx, hb, hml, hown, hts⟩ (c_X_rotated l D cI cL cB tS tF w 24 ) ⟨va_cnB 2 hts (sb_g k_448) rfl rfl rfl (va_Nw.of rfl (hG.nest (args := args) _ n_446)) (hts _ k_22) (by decide +kernel) ⟨Nat.le_of_ble_eq_true rfl, Nat.le_of_ble_eq_true rfl⟩, hts _ k_447, trivial⟩ (sb_rS hG hP hS [] rfl) rfl rfl hl.1 rfl (lv_room (Nat.le_of_ble_eq_true rfl)) d_A_mixed_25 ⟨Nat.le_of_ble_eq_true rfl, Nat.le_of_ble_eq_true rfl⟩).run (fun r_5 er_5 => ?_)
  subst er_5
  refine lv_ixor hx hb d_A_mixed_28 ?_
  exact W.iret (v := (((dblI (w ^^^ x_2)) ^^^ x_2) ^^^ (rotI w 16)) ^^^ (rotI w 24)) hx hb hr (fun t ht hW => ⟨_, rfl, (by subst_vars; rfl), ht⟩) hS.2.2 d_A_mixed_29

theorem d_S_joined_0 : decode b_S_joined 0 = .ok (.iload_n 0, 1) := by decide +kernel
theorem d_S_joined_1 : decode b_S_joined 1 = .ok (.i2l, 1) := by decide +kernel
theorem d_S_joined_2 : decode b_S_joined 2 = .ok (.bipush 32, 2) := by decide +kernel
theorem d_S_joined_4 : decode b_S_joined 4 = .ok (.lshl, 1) := by decide +kernel
theorem d_S_joined_5 : decode b_S_joined 5 = .ok (.iload_n 1, 1) := by decide +kernel
theorem d_S_joined_6 : decode b_S_joined 6 = .ok (.i2l, 1) := by decide +kernel
theorem d_S_joined_7 : decode b_S_joined 7 = .ok (.ldc2_w 39, 3) := by decide +kernel
theorem d_S_joined_10 : decode b_S_joined 10 = .ok (.land, 1) := by decide +kernel
theorem d_S_joined_11 : decode b_S_joined 11 = .ok (.lor, 1) := by decide +kernel
theorem d_S_joined_12 : decode b_S_joined 12 = .ok (.lreturn, 1) := by decide +kernel

def rm_S_joined : Room := { frames := 0, cells := 0, slots := 0, locals := 0 }
set_option maxHeartbeats 4000000 in
set_option maxRecDepth 100000 in
theorem c_S_joined (l : Launch) (D : va_G) (cI cL cB : ClassId) (tS tF : Nat) (a : Int32) (b : Int32)  : Met l y_S_joined (sbw y_S_joined b_S_joined 2 (some .long)) rm_S_joined (sbPr D cI cL cB tS tF [.int a, .int b] []) (vp_Sl (fun r => r = joinL a b)) 0 0 (fun _ => False) := by
  refine sb_ofR (by decide) (Nat.le_of_ble_eq_true rfl) ?_
  intro p e s m args below meth c ls hx hb hr hml hts hown hlocks hP hG hS hl
  have hl : lv_has ls 2 [(0, .int a), (1, .int b)] := hl
  refine lv_iload_n hx hb d_S_joined_0 rfl (lv_at hl 0 rfl) ?_
  refine lv_i2l (v := a.toInt64) hx hb d_S_joined_1 rfl ?_
  refine lv_bipush (v := 32) hx hb d_S_joined_2 (by decide) ?_
  refine lv_lshl (v := sL a.toInt64 32) hx hb d_S_joined_4 rfl ?_
  refine lv_iload_n hx hb d_S_joined_5 rfl (lv_at hl 1 rfl) ?_
  refine lv_i2l (v := b.toInt64) hx hb d_S_joined_6 rfl ?_
  refine lv_ldc2 (v := 4294967295) hx hb hown (hts (.constantLong R_S 39 4294967295) (by decide +kernel)) d_S_joined_7 ?_
  refine lv_land hx hb d_S_joined_10 ?_
  refine lv_lor hx hb d_S_joined_11 ?_
  exact W.lret (v := (sL a.toInt64 32) ||| (b.toInt64 &&& 4294967295)) hx hb hr (fun t ht hW => ⟨_, rfl, (by subst_vars; rfl), ht⟩) hS.2.2 d_S_joined_12

theorem d_M_left_0 : decode b_M_left 0 = .ok (.iload_n 0, 1) := by decide +kernel
theorem d_M_left_1 : decode b_M_left 1 = .ok (.iload_n 1, 1) := by decide +kernel
theorem d_M_left_2 : decode b_M_left 2 = .ok (.ishl, 1) := by decide +kernel
theorem d_M_left_3 : decode b_M_left 3 = .ok (.iload_n 0, 1) := by decide +kernel
theorem d_M_left_4 : decode b_M_left 4 = .ok (.bipush 32, 2) := by decide +kernel
theorem d_M_left_6 : decode b_M_left 6 = .ok (.iload_n 1, 1) := by decide +kernel
theorem d_M_left_7 : decode b_M_left 7 = .ok (.isub, 1) := by decide +kernel
theorem d_M_left_8 : decode b_M_left 8 = .ok (.iushr, 1) := by decide +kernel
theorem d_M_left_9 : decode b_M_left 9 = .ok (.ior, 1) := by decide +kernel
theorem d_M_left_10 : decode b_M_left 10 = .ok (.ireturn, 1) := by decide +kernel

def rm_M_left : Room := { frames := 0, cells := 0, slots := 0, locals := 0 }
set_option maxHeartbeats 4000000 in
set_option maxRecDepth 100000 in
theorem c_M_left (l : Launch) (D : va_G) (cI cL cB : ClassId) (tS tF : Nat) (w : Int32) (b : Int32)  : Met l y_M_left (sbw y_M_left b_M_left 2 (some .int)) rm_M_left (sbPr D cI cL cB tS tF [.int w, .int b] []) (vp_Si (fun r => r = rotI w b)) 0 0 (fun _ => False) := by
  refine sb_ofR (by decide) (Nat.le_of_ble_eq_true rfl) ?_
  intro p e s m args below meth c ls hx hb hr hml hts hown hlocks hP hG hS hl
  have hl : lv_has ls 2 [(0, .int w), (1, .int b)] := hl
  refine lv_iload_n hx hb d_M_left_0 rfl (lv_at hl 0 rfl) ?_
  refine lv_iload_n hx hb d_M_left_1 rfl (lv_at hl 1 rfl) ?_
  refine lv_ishl hx hb d_M_left_2 ?_
  refine lv_iload_n hx hb d_M_left_3 rfl (lv_at hl 0 rfl) ?_
  refine lv_bipush (v := 32) hx hb d_M_left_4 (by decide) ?_
  refine lv_iload_n hx hb d_M_left_6 rfl (lv_at hl 1 rfl) ?_
  refine lv_isub hx hb d_M_left_7 ?_
  refine lv_iushr (v := uS w (32 - b)) hx hb d_M_left_8 rfl ?_
  refine lv_ior hx hb d_M_left_9 ?_
  exact W.iret (v := (w <<< (b &&& 31)) ||| (uS w (32 - b))) hx hb hr (fun t ht hW => ⟨_, rfl, (by subst_vars; rfl), ht⟩) hS.2.2 d_M_left_10
