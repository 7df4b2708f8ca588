def cq1 (f : Nat → Int32) (a b : Nat) : Nat → Int32 := upd f a (f a + f b)
def cq2 (f : Nat → Int32) (d a : Nat) (k : Int32) : Nat → Int32 := upd f d (rotI (f d ^^^ f a) k)
def cqr (f : Nat → Int32) (a b c d : Nat) : Nat → Int32 := cq2 (cq1 (cq2 (cq1 (cq2 (cq1 (cq2 (cq1 f a b) d a 16) c d) b c 12) a b) d a 8) c d) b c 7
def crnd (f : Nat → Int32) : Nat → Int32 := cqr (cqr (cqr (cqr (cqr (cqr (cqr (cqr f 0 4 8 12) 1 5 9 13) 2 6 10 14) 3 7 11 15) 0 5 10 15) 1 6 11 12) 2 7 8 13) 3 4 9 14
def cinit (start nonce : Nat → Int32) (n : Int32) : Nat → Int32 := upd (upd (upd (upd start 12 n) 13 (swpI (nonce 0))) 14 (swpI (nonce 1))) 15 (swpI (nonce 2))
def cturn (w : Nat → Int32) (f : Nat → Int32) : Nat → Int32 := iter (fun _ g => crnd g) 10 (va_cpy w f 0 0 16)
def cout (w t : Nat → Int32) (k : Nat) (g : Nat → Int32) : Nat → Int32 := upd g k (swpI (t k + w k))
def ckey (f : Nat → Int32) (len : Nat) (k : Nat) (g : Nat → Int32) : Nat → Int32 := upd g (4 + k) (swpI (rword f len (4 * k) len))

theorem d_H_quarterRound_0 : decode b_H_quarterRound 0 = .ok (.aload_n 0, 1) := by decide +kernel
theorem d_H_quarterRound_1 : decode b_H_quarterRound 1 = .ok (.getfield 17, 3) := by decide +kernel
theorem d_H_quarterRound_4 : decode b_H_quarterRound 4 = .ok (.iload_n 1, 1) := by decide +kernel
theorem d_H_quarterRound_5 : decode b_H_quarterRound 5 = .ok (.dup2, 1) := by decide +kernel
theorem d_H_quarterRound_6 : decode b_H_quarterRound 6 = .ok (.iaload, 1) := by decide +kernel
theorem d_H_quarterRound_7 : decode b_H_quarterRound 7 = .ok (.aload_n 0, 1) := by decide +kernel
theorem d_H_quarterRound_8 : decode b_H_quarterRound 8 = .ok (.getfield 17, 3) := by decide +kernel
theorem d_H_quarterRound_11 : decode b_H_quarterRound 11 = .ok (.iload_n 2, 1) := by decide +kernel
theorem d_H_quarterRound_12 : decode b_H_quarterRound 12 = .ok (.iaload, 1) := by decide +kernel
theorem d_H_quarterRound_13 : decode b_H_quarterRound 13 = .ok (.iadd, 1) := by decide +kernel
theorem d_H_quarterRound_14 : decode b_H_quarterRound 14 = .ok (.iastore, 1) := by decide +kernel
theorem d_H_quarterRound_15 : decode b_H_quarterRound 15 = .ok (.aload_n 0, 1) := by decide +kernel
theorem d_H_quarterRound_16 : decode b_H_quarterRound 16 = .ok (.getfield 17, 3) := by decide +kernel
theorem d_H_quarterRound_19 : decode b_H_quarterRound 19 = .ok (.iload 4, 2) := by decide +kernel
theorem d_H_quarterRound_21 : decode b_H_quarterRound 21 = .ok (.aload_n 0, 1) := by decide +kernel
theorem d_H_quarterRound_22 : decode b_H_quarterRound 22 = .ok (.getfield 17, 3) := by decide +kernel
theorem d_H_quarterRound_25 : decode b_H_quarterRound 25 = .ok (.iload 4, 2) := by decide +kernel
theorem d_H_quarterRound_27 : decode b_H_quarterRound 27 = .ok (.iaload, 1) := by decide +kernel
theorem d_H_quarterRound_28 : decode b_H_quarterRound 28 = .ok (.aload_n 0, 1) := by decide +kernel
theorem d_H_quarterRound_29 : decode b_H_quarterRound 29 = .ok (.getfield 17, 3) := by decide +kernel
theorem d_H_quarterRound_32 : decode b_H_quarterRound 32 = .ok (.iload_n 1, 1) := by decide +kernel
theorem d_H_quarterRound_33 : decode b_H_quarterRound 33 = .ok (.iaload, 1) := by decide +kernel
theorem d_H_quarterRound_34 : decode b_H_quarterRound 34 = .ok (.ixor, 1) := by decide +kernel
theorem d_H_quarterRound_35 : decode b_H_quarterRound 35 = .ok (.bipush 16, 2) := by decide +kernel
theorem d_H_quarterRound_37 : decode b_H_quarterRound 37 = .ok (.invokestatic 64, 3) := by decide +kernel
theorem d_H_quarterRound_40 : decode b_H_quarterRound 40 = .ok (.iastore, 1) := by decide +kernel
theorem d_H_quarterRound_41 : decode b_H_quarterRound 41 = .ok (.aload_n 0, 1) := by decide +kernel
theorem d_H_quarterRound_42 : decode b_H_quarterRound 42 = .ok (.getfield 17, 3) := by decide +kernel
theorem d_H_quarterRound_45 : decode b_H_quarterRound 45 = .ok (.iload_n 3, 1) := by decide +kernel
theorem d_H_quarterRound_46 : decode b_H_quarterRound 46 = .ok (.dup2, 1) := by decide +kernel
theorem d_H_quarterRound_47 : decode b_H_quarterRound 47 = .ok (.iaload, 1) := by decide +kernel
theorem d_H_quarterRound_48 : decode b_H_quarterRound 48 = .ok (.aload_n 0, 1) := by decide +kernel
theorem d_H_quarterRound_49 : decode b_H_quarterRound 49 = .ok (.getfield 17, 3) := by decide +kernel
theorem d_H_quarterRound_52 : decode b_H_quarterRound 52 = .ok (.iload 4, 2) := by decide +kernel
theorem d_H_quarterRound_54 : decode b_H_quarterRound 54 = .ok (.iaload, 1) := by decide +kernel
theorem d_H_quarterRound_55 : decode b_H_quarterRound 55 = .ok (.iadd, 1) := by decide +kernel
theorem d_H_quarterRound_56 : decode b_H_quarterRound 56 = .ok (.iastore, 1) := by decide +kernel
theorem d_H_quarterRound_57 : decode b_H_quarterRound 57 = .ok (.aload_n 0, 1) := by decide +kernel
theorem d_H_quarterRound_58 : decode b_H_quarterRound 58 = .ok (.getfield 17, 3) := by decide +kernel
theorem d_H_quarterRound_61 : decode b_H_quarterRound 61 = .ok (.iload_n 2, 1) := by decide +kernel
theorem d_H_quarterRound_62 : decode b_H_quarterRound 62 = .ok (.aload_n 0, 1) := by decide +kernel
theorem d_H_quarterRound_63 : decode b_H_quarterRound 63 = .ok (.getfield 17, 3) := by decide +kernel
theorem d_H_quarterRound_66 : decode b_H_quarterRound 66 = .ok (.iload_n 2, 1) := by decide +kernel
theorem d_H_quarterRound_67 : decode b_H_quarterRound 67 = .ok (.iaload, 1) := by decide +kernel
theorem d_H_quarterRound_68 : decode b_H_quarterRound 68 = .ok (.aload_n 0, 1) := by decide +kernel
theorem d_H_quarterRound_69 : decode b_H_quarterRound 69 = .ok (.getfield 17, 3) := by decide +kernel
theorem d_H_quarterRound_72 : decode b_H_quarterRound 72 = .ok (.iload_n 3, 1) := by decide +kernel
theorem d_H_quarterRound_73 : decode b_H_quarterRound 73 = .ok (.iaload, 1) := by decide +kernel
theorem d_H_quarterRound_74 : decode b_H_quarterRound 74 = .ok (.ixor, 1) := by decide +kernel
theorem d_H_quarterRound_75 : decode b_H_quarterRound 75 = .ok (.bipush 12, 2) := by decide +kernel
theorem d_H_quarterRound_77 : decode b_H_quarterRound 77 = .ok (.invokestatic 64, 3) := by decide +kernel
theorem d_H_quarterRound_80 : decode b_H_quarterRound 80 = .ok (.iastore, 1) := by decide +kernel
theorem d_H_quarterRound_81 : decode b_H_quarterRound 81 = .ok (.aload_n 0, 1) := by decide +kernel
theorem d_H_quarterRound_82 : decode b_H_quarterRound 82 = .ok (.getfield 17, 3) := by decide +kernel
theorem d_H_quarterRound_85 : decode b_H_quarterRound 85 = .ok (.iload_n 1, 1) := by decide +kernel
theorem d_H_quarterRound_86 : decode b_H_quarterRound 86 = .ok (.dup2, 1) := by decide +kernel
theorem d_H_quarterRound_87 : decode b_H_quarterRound 87 = .ok (.iaload, 1) := by decide +kernel
theorem d_H_quarterRound_88 : decode b_H_quarterRound 88 = .ok (.aload_n 0, 1) := by decide +kernel
theorem d_H_quarterRound_89 : decode b_H_quarterRound 89 = .ok (.getfield 17, 3) := by decide +kernel
theorem d_H_quarterRound_92 : decode b_H_quarterRound 92 = .ok (.iload_n 2, 1) := by decide +kernel
theorem d_H_quarterRound_93 : decode b_H_quarterRound 93 = .ok (.iaload, 1) := by decide +kernel
theorem d_H_quarterRound_94 : decode b_H_quarterRound 94 = .ok (.iadd, 1) := by decide +kernel
theorem d_H_quarterRound_95 : decode b_H_quarterRound 95 = .ok (.iastore, 1) := by decide +kernel
theorem d_H_quarterRound_96 : decode b_H_quarterRound 96 = .ok (.aload_n 0, 1) := by decide +kernel
theorem d_H_quarterRound_97 : decode b_H_quarterRound 97 = .ok (.getfield 17, 3) := by decide +kernel
theorem d_H_quarterRound_100 : decode b_H_quarterRound 100 = .ok (.iload 4, 2) := by decide +kernel
theorem d_H_quarterRound_102 : decode b_H_quarterRound 102 = .ok (.aload_n 0, 1) := by decide +kernel
theorem d_H_quarterRound_103 : decode b_H_quarterRound 103 = .ok (.getfield 17, 3) := by decide +kernel
theorem d_H_quarterRound_106 : decode b_H_quarterRound 106 = .ok (.iload 4, 2) := by decide +kernel
theorem d_H_quarterRound_108 : decode b_H_quarterRound 108 = .ok (.iaload, 1) := by decide +kernel
theorem d_H_quarterRound_109 : decode b_H_quarterRound 109 = .ok (.aload_n 0, 1) := by decide +kernel
theorem d_H_quarterRound_110 : decode b_H_quarterRound 110 = .ok (.getfield 17, 3) := by decide +kernel
theorem d_H_quarterRound_113 : decode b_H_quarterRound 113 = .ok (.iload_n 1, 1) := by decide +kernel
theorem d_H_quarterRound_114 : decode b_H_quarterRound 114 = .ok (.iaload, 1) := by decide +kernel
theorem d_H_quarterRound_115 : decode b_H_quarterRound 115 = .ok (.ixor, 1) := by decide +kernel
theorem d_H_quarterRound_116 : decode b_H_quarterRound 116 = .ok (.bipush 8, 2) := by decide +kernel
theorem d_H_quarterRound_118 : decode b_H_quarterRound 118 = .ok (.invokestatic 64, 3) := by decide +kernel
theorem d_H_quarterRound_121 : decode b_H_quarterRound 121 = .ok (.iastore, 1) := by decide +kernel
theorem d_H_quarterRound_122 : decode b_H_quarterRound 122 = .ok (.aload_n 0, 1) := by decide +kernel
theorem d_H_quarterRound_123 : decode b_H_quarterRound 123 = .ok (.getfield 17, 3) := by decide +kernel
theorem d_H_quarterRound_126 : decode b_H_quarterRound 126 = .ok (.iload_n 3, 1) := by decide +kernel
theorem d_H_quarterRound_127 : decode b_H_quarterRound 127 = .ok (.dup2, 1) := by decide +kernel
theorem d_H_quarterRound_128 : decode b_H_quarterRound 128 = .ok (.iaload, 1) := by decide +kernel
theorem d_H_quarterRound_129 : decode b_H_quarterRound 129 = .ok (.aload_n 0, 1) := by decide +kernel
theorem d_H_quarterRound_130 : decode b_H_quarterRound 130 = .ok (.getfield 17, 3) := by decide +kernel
theorem d_H_quarterRound_133 : decode b_H_quarterRound 133 = .ok (.iload 4, 2) := by decide +kernel
theorem d_H_quarterRound_135 : decode b_H_quarterRound 135 = .ok (.iaload, 1) := by decide +kernel
theorem d_H_quarterRound_136 : decode b_H_quarterRound 136 = .ok (.iadd, 1) := by decide +kernel
theorem d_H_quarterRound_137 : decode b_H_quarterRound 137 = .ok (.iastore, 1) := by decide +kernel
theorem d_H_quarterRound_138 : decode b_H_quarterRound 138 = .ok (.aload_n 0, 1) := by decide +kernel
theorem d_H_quarterRound_139 : decode b_H_quarterRound 139 = .ok (.getfield 17, 3) := by decide +kernel
theorem d_H_quarterRound_142 : decode b_H_quarterRound 142 = .ok (.iload_n 2, 1) := by decide +kernel
theorem d_H_quarterRound_143 : decode b_H_quarterRound 143 = .ok (.aload_n 0, 1) := by decide +kernel
theorem d_H_quarterRound_144 : decode b_H_quarterRound 144 = .ok (.getfield 17, 3) := by decide +kernel
theorem d_H_quarterRound_147 : decode b_H_quarterRound 147 = .ok (.iload_n 2, 1) := by decide +kernel
theorem d_H_quarterRound_148 : decode b_H_quarterRound 148 = .ok (.iaload, 1) := by decide +kernel
theorem d_H_quarterRound_149 : decode b_H_quarterRound 149 = .ok (.aload_n 0, 1) := by decide +kernel
theorem d_H_quarterRound_150 : decode b_H_quarterRound 150 = .ok (.getfield 17, 3) := by decide +kernel
theorem d_H_quarterRound_153 : decode b_H_quarterRound 153 = .ok (.iload_n 3, 1) := by decide +kernel
theorem d_H_quarterRound_154 : decode b_H_quarterRound 154 = .ok (.iaload, 1) := by decide +kernel
theorem d_H_quarterRound_155 : decode b_H_quarterRound 155 = .ok (.ixor, 1) := by decide +kernel
theorem d_H_quarterRound_156 : decode b_H_quarterRound 156 = .ok (.bipush 7, 2) := by decide +kernel
theorem d_H_quarterRound_158 : decode b_H_quarterRound 158 = .ok (.invokestatic 64, 3) := by decide +kernel
theorem d_H_quarterRound_161 : decode b_H_quarterRound 161 = .ok (.iastore, 1) := by decide +kernel
theorem d_H_quarterRound_162 : decode b_H_quarterRound 162 = .ok (.return_, 1) := by decide +kernel

def rm_H_quarterRound : Room := { frames := 1, cells := 0, slots := 0, locals := 21 }
set_option maxHeartbeats 4000000 in
set_option maxRecDepth 100000 in
theorem c_H_quarterRound (l : Launch) (D : va_G) (cI cL cB : ClassId) (tS tF : Nat) (h : Nat) (q0 : Nat) (q1 : Nat) (q2 : Nat) (q3 : Nat) (q4 : Nat) (q5 : Nat) (tc : Int32) (tu : Int32) (f : Nat → Int32) (a : Nat) (b : Nat) (c0 : Nat) (d0 : Nat) (sz : Nat) (ha : a < 16) (hb0 : b < 16) (hc : c0 < 16) (hd : d0 < 16) : Met l y_H_quarterRound (sbw y_H_quarterRound b_H_quarterRound 5 none) rm_H_quarterRound (sbPc D cI cL cB tS tF [.ref h, .int (nI a), .int (nI b), .int (nI c0), .int (nI d0)] sz [(h, .inr (2, [.ref q0, .ref q1, .ref q2, .int tc, .int tu, .ref q3, .ref q4, .ref q5])), (q4, .inl (cI, 16, .inl f))]) (sbQv D (fun (_ : Unit) => True) (fun (_ : Unit) => [(h, .inr (2, [.ref q0, .ref q1, .ref q2, .int tc, .int tu, .ref q3, .ref q4, .ref q5])), (q4, .inl (cI, 16, .inl (cqr f a b c0 d0)))]) (va_A [(h, .inr (2, [.ref q0, .ref q1, .ref q2, .int tc, .int tu, .ref q3, .ref q4, .ref q5])), (q4, .inl (cI, 16, .inl f))] sz)) 0 0 (va_A [(h, .inr (2, [.ref q0, .ref q1, .ref q2, .int tc, .int tu, .ref q3, .ref q4, .ref q5])), (q4, .inl (cI, 16, .inl f))] sz) := by
  refine sb_ofW (Qc := fun A => (sbQv D (fun (_ : Unit) => True) (fun (_ : Unit) => [(h, .inr (2, [.ref q0, .ref q1, .ref q2, .int tc, .int tu, .ref q3, .ref q4, .ref q5])), (q4, .inl (cI, 16, .inl (cqr f a b c0 d0)))]) A)) (by decide) (Nat.le_of_ble_eq_true rfl) ?_
  intro p e s m args below meth c A ls hx hb hr hml hts hown hlocks hin hsz hP hG hD hA hS hl
  have hl : lv_has ls 5 [(0, .ref h), (1, .int (nI a)), (2, .int (nI b)), (3, .int (nI c0)), (4, .int (nI d0))] := hl
  refine lv_aload_n hx hb d_H_quarterRound_0 rfl (lv_at hl 0 rfl) ?_
  refine va_get (D := D) (ci := 2) (v := .ref q4) (C := R_H) (T := F_H) (N := 8) hx hb hts in_H hown hG.1 hP 0 rfl rfl 6 (by decide) (hts _ k_189) (fun _ h9 => h9) rfl d_H_quarterRound_1 ?_
  refine lv_iload_n hx hb d_H_quarterRound_4 rfl (lv_at hl 1 rfl) ?_
  refine lv_dup2_11 hx hb d_H_quarterRound_5 rfl rfl ?_
  refine sb_ild hx hb hG.1 hP 1 rfl a rfl (by omega) (by omega) d_H_quarterRound_6 ?_
  refine lv_aload_n hx hb d_H_quarterRound_7 rfl (lv_at hl 0 rfl) ?_
  refine va_get (D := D) (ci := 2) (v := .ref q4) (C := R_H) (T := F_H) (N := 8) hx hb hts in_H hown hG.1 hP 0 rfl rfl 6 (by decide) (hts _ k_189) (fun _ h9 => h9) rfl d_H_quarterRound_8 ?_
  refine lv_iload_n hx hb d_H_quarterRound_11 rfl (lv_at hl 2 rfl) ?_
  refine sb_ild hx hb hG.1 hP 1 rfl b rfl (by omega) (by omega) d_H_quarterRound_12 ?_
  refine lv_iadd hx hb d_H_quarterRound_13 ?_
  refine sb_ist hx hb hG.1 hP hD hS 1 rfl a rfl (by omega) (by omega) d_H_quarterRound_14 (fun f_1 H locs ef_1 hP hD hS => ?_)
  have hP : va_P D vwCl [(h, .inr (2, [.ref q0, .ref q1, .ref q2, .int tc, .int tu, .ref q3, .ref q4, .ref q5])), (q4, .inl (cI, 16, .inl f_1))] H := hP
  have hD : va_D A [(h, .inr (2, [.ref q0, .ref q1, .ref q2, .int tc, .int tu, .ref q3, .ref q4, .ref q5])), (q4, .inl (cI, 16, .inl f_1))] := hD
  obtain rfl : f_1 = cq1 f a b := ef_1
  refine lv_aload_n hx hb d_H_quarterRound_15 rfl (lv_at hl 0 rfl) ?_
  refine va_get (D := D) (ci := 2) (v := .ref q4) (C := R_H) (T := F_H) (N := 8) hx hb hts in_H hown hG.1 hP 0 rfl rfl 6 (by decide) (hts _ k_189) (fun _ h9 => h9) rfl d_H_quarterRound_16 ?_
  refine lv_iload hx hb d_H_quarterRound_19 (lv_at hl 4 rfl) ?_
  refine lv_aload_n hx hb d_H_quarterRound_21 rfl (lv_at hl 0 rfl) ?_
  refine va_get (D := D) (ci := 2) (v := .ref q4) (C := R_H) (T := F_H) (N := 8) hx hb hts in_H hown hG.1 hP 0 rfl rfl 6 (by decide) (hts _ k_189) (fun _ h9 => h9) rfl d_H_quarterRound_22 ?_
  refine lv_iload hx hb d_H_quarterRound_25 (lv_at hl 4 rfl) ?_
  refine sb_ild hx hb hG.1 hP 1 rfl d0 rfl (by omega) (by omega) d_H_quarterRound_27 ?_
  refine lv_aload_n hx hb d_H_quarterRound_28 rfl (lv_at hl 0 rfl) ?_
  refine va_get (D := D) (ci := 2) (v := .ref q4) (C := R_H) (T := F_H) (N := 8) hx hb hts in_H hown hG.1 hP 0 rfl rfl 6 (by decide) (hts _ k_189) (fun _ h9 => h9) rfl d_H_quarterRound_29 ?_
  refine lv_iload_n hx hb d_H_quarterRound_32 rfl (lv_at hl 1 rfl) ?_
  refine sb_ild hx hb hG.1 hP 1 rfl a rfl (by omega) (by omega) d_H_quarterRound_33 ?_
  refine lv_ixor hx hb d_H_quarterRound_34 ?_
  refine lv_bipush (v := 16) hx hb d_H_quarterRound_35 (by decide) ?_
  refine vp_callSi (va_runSN (As := [.int (((cq1 f a b) d0) ^^^ ((cq1 f a b) a)), .int 16]) (rest := [.int (nI d0), .ref q4]) ⟨hx, hb, hml, hown, hts⟩ (c_X_rotated l D cI cL cB tS tF (((cq1 f a b) d0) ^^^ ((cq1 f a b) a)) 16 ) ⟨va_cnB 2 hts (sb_g k_448) rfl rfl rfl (va_Nw.of rfl (hG.nest (args := args) _ n_519)) (hts _ k_22) (by decide +kernel) ⟨Nat.le_of_ble_eq_true rfl, Nat.le_of_ble_eq_true rfl⟩, hts _ k_447, trivial⟩ (sb_rS hG hP hS [] rfl) rfl rfl hl.1 rfl (lv_room (Nat.le_of_ble_eq_true rfl)) d_H_quarterRound_37 ⟨Nat.le_of_ble_eq_true rfl, Nat.le_of_ble_eq_true rfl⟩).run (fun r_2 er_2 => ?_)
  subst er_2
  refine sb_ist hx hb hG.1 hP hD hS 1 rfl d0 rfl (by omega) (by omega) d_H_quarterRound_40 (fun f_3 H locs ef_3 hP hD hS => ?_)
  have hP : va_P D vwCl [(h, .inr (2, [.ref q0, .ref q1, .ref q2, .int tc, .int tu, .ref q3, .ref q4, .ref q5])), (q4, .inl (cI, 16, .inl f_3))] H := hP
  have hD : va_D A [(h, .inr (2, [.ref q0, .ref q1, .ref q2, .int tc, .int tu, .ref q3, .ref q4, .ref q5])), (q4, .inl (cI, 16, .inl f_3))] := hD
  obtain rfl : f_3 = cq2 (cq1 f a b) d0 a 16 := ef_3
  refine lv_aload_n hx hb d_H_quarterRound_41 rfl (lv_at hl 0 rfl) ?_
  refine va_get (D := D) (ci := 2) (v := .ref q4) (C := R_H) (T := F_H) (N := 8) hx hb hts in_H hown hG.1 hP 0 rfl rfl 6 (by decide) (hts _ k_189) (fun _ h9 => h9) rfl d_H_quarterRound_42 ?_
  refine lv_iload_n hx hb d_H_quarterRound_45 rfl (lv_at hl 3 rfl) ?_
  refine lv_dup2_11 hx hb d_H_quarterRound_46 rfl rfl ?_
  refine sb_ild hx hb hG.1 hP 1 rfl c0 rfl (by omega) (by omega) d_H_quarterRound_47 ?_
  refine lv_aload_n hx hb d_H_quarterRound_48 rfl (lv_at hl 0 rfl) ?_
  refine va_get (D := D) (ci := 2) (v := .ref q4) (C := R_H) (T := F_H) (N := 8) hx hb hts in_H hown hG.1 hP 0 rfl rfl 6 (by decide) (hts _ k_189) (fun _ h9 => h9) rfl d_H_quarterRound_49 ?_
  refine lv_iload hx hb d_H_quarterRound_52 (lv_at hl 4 rfl) ?_
  refine sb_ild hx hb hG.1 hP 1 rfl d0 rfl (by omega) (by omega) d_H_quarterRound_54 ?_
  refine lv_iadd hx hb d_H_quarterRound_55 ?_
  refine sb_ist hx hb hG.1 hP hD hS 1 rfl c0 rfl (by omega) (by omega) d_H_quarterRound_56 (fun f_4 H locs ef_4 hP hD hS => ?_)
  have hP : va_P D vwCl [(h, .inr (2, [.ref q0, .ref q1, .ref q2, .int tc, .int tu, .ref q3, .ref q4, .ref q5])), (q4, .inl (cI, 16, .inl f_4))] H := hP
  have hD : va_D A [(h, .inr (2, [.ref q0, .ref q1, .ref q2, .int tc, .int tu, .ref q3, .ref q4, .ref q5])), (q4, .inl (cI, 16, .inl f_4))] := hD
  obtain rfl : f_4 = cq1 (cq2 (cq1 f a b) d0 a 16) c0 d0 := ef_4
  refine lv_aload_n hx hb d_H_quarterRound_57 rfl (lv_at hl 0 rfl) ?_
  refine va_get (D := D) (ci := 2) (v := .ref q4) (C := R_H) (T := F_H) (N := 8) hx hb hts in_H hown hG.1 hP 0 rfl rfl 6 (by decide) (hts _ k_189) (fun _ h9 => h9) rfl d_H_quarterRound_58 ?_
  refine lv_iload_n hx hb d_H_quarterRound_61 rfl (lv_at hl 2 rfl) ?_
  refine lv_aload_n hx hb d_H_quarterRound_62 rfl (lv_at hl 0 rfl) ?_
  refine va_get (D := D) (ci := 2) (v := .ref q4) (C := R_H) (T := F_H) (N := 8) hx hb hts in_H hown hG.1 hP 0 rfl rfl 6 (by decide) (hts _ k_189) (fun _ h9 => h9) rfl d_H_quarterRound_63 ?_
  refine lv_iload_n hx hb d_H_quarterRound_66 rfl (lv_at hl 2 rfl) ?_
  refine sb_ild hx hb hG.1 hP 1 rfl b rfl (by omega) (by omega) d_H_quarterRound_67 ?_
  refine lv_aload_n hx hb d_H_quarterRound_68 rfl (lv_at hl 0 rfl) ?_
  refine va_get (D := D) (ci := 2) (v := .ref q4) (C := R_H) (T := F_H) (N := 8) hx hb hts in_H hown hG.1 hP 0 rfl rfl 6 (by decide) (hts _ k_189) (fun _ h9 => h9) rfl d_H_quarterRound_69 ?_
  refine lv_iload_n hx hb d_H_quarterRound_72 rfl (lv_at hl 3 rfl) ?_
  refine sb_ild hx hb hG.1 hP 1 rfl c0 rfl (by omega) (by omega) d_H_quarterRound_73 ?_
  refine lv_ixor hx hb d_H_quarterRound_74 ?_
  refine lv_bipush (v := 12) hx hb d_H_quarterRound_75 (by decide) ?_
  refine vp_callSi (va_runSN (As := [.int (((cq1 (cq2 (cq1 f a b) d0 a 16) c0 d0) b) ^^^ ((cq1 (cq2 (cq1 f a b) d0 a 16) c0 d0) c0)), .int 12]) (rest := [.int (nI b), .ref q4]) ⟨hx, hb, hml, hown, hts⟩ (c_X_rotated l D cI cL cB tS tF (((cq1 (cq2 (cq1 f a b) d0 a 16) c0 d0) b) ^^^ ((cq1 (cq2 (cq1 f a b) d0 a 16) c0 d0) c0)) 12 ) ⟨va_cnB 2 hts (sb_g k_448) rfl rfl rfl (va_Nw.of rfl (hG.nest (args := args) _ n_519)) (hts _ k_22) (by decide +kernel) ⟨Nat.le_of_ble_eq_true rfl, Nat.le_of_ble_eq_true rfl⟩, hts _ k_447, trivial⟩ (sb_rS hG hP hS [] rfl) rfl rfl hl.1 rfl (lv_room (Nat.le_of_ble_eq_true rfl)) d_H_quarterRound_77 ⟨Nat.le_of_ble_eq_true rfl, Nat.le_of_ble_eq_true rfl⟩).run (fun r_5 er_5 => ?_)
  subst er_5
  refine sb_ist hx hb hG.1 hP hD hS 1 rfl b rfl (by omega) (by omega) d_H_quarterRound_80 (fun f_6 H locs ef_6 hP hD hS => ?_)
  have hP : va_P D vwCl [(h, .inr (2, [.ref q0, .ref q1, .ref q2, .int tc, .int tu, .ref q3, .ref q4, .ref q5])), (q4, .inl (cI, 16, .inl f_6))] H := hP
  have hD : va_D A [(h, .inr (2, [.ref q0, .ref q1, .ref q2, .int tc, .int tu, .ref q3, .ref q4, .ref q5])), (q4, .inl (cI, 16, .inl f_6))] := hD
  obtain rfl : f_6 = cq2 (cq1 (cq2 (cq1 f a b) d0 a 16) c0 d0) b c0 12 := ef_6
  refine lv_aload_n hx hb d_H_quarterRound_81 rfl (lv_at hl 0 rfl) ?_
  refine va_get (D := D) (ci := 2) (v := .ref q4) (C := R_H) (T := F_H) (N := 8) hx hb hts in_H hown hG.1 hP 0 rfl rfl 6 (by decide) (hts _ k_189) (fun _ h9 => h9) rfl d_H_quarterRound_82 ?_
  refine lv_iload_n hx hb d_H_quarterRound_85 rfl (lv_at hl 1 rfl) ?_
  refine lv_dup2_11 hx hb d_H_quarterRound_86 rfl rfl ?_
  refine sb_ild hx hb hG.1 hP 1 rfl a rfl (by omega) (by omega) d_H_quarterRound_87 ?_
  refine lv_aload_n hx hb d_H_quarterRound_88 rfl (lv_at hl 0 rfl) ?_
  refine va_get (D := D) (ci := 2) (v := .ref q4) (C := R_H) (T := F_H) (N := 8) hx hb hts in_H hown hG.1 hP 0 rfl rfl 6 (by decide) (hts _ k_189) (fun _ h9 => h9) rfl d_H_quarterRound_89 ?_
  refine lv_iload_n hx hb d_H_quarterRound_92 rfl (lv_at hl 2 rfl) ?_
  refine sb_ild hx hb hG.1 hP 1 rfl b rfl (by omega) (by omega) d_H_quarterRound_93 ?_
  refine lv_iadd hx hb d_H_quarterRound_94 ?_
  refine sb_ist hx hb hG.1 hP hD hS 1 rfl a rfl (by omega) (by omega) d_H_quarterRound_95 (fun f_7 H locs ef_7 hP hD hS => ?_)
  have hP : va_P D vwCl [(h, .inr (2, [.ref q0, .ref q1, .ref q2, .int tc, .int tu, .ref q3, .ref q4, .ref q5])), (q4, .inl (cI, 16, .inl f_7))] H := hP
  have hD : va_D A [(h, .inr (2, [.ref q0, .ref q1, .ref q2, .int tc, .int tu, .ref q3, .ref q4, .ref q5])), (q4, .inl (cI, 16, .inl f_7))] := hD
  obtain rfl : f_7 = cq1 (cq2 (cq1 (cq2 (cq1 f a b) d0 a 16) c0 d0) b c0 12) a b := ef_7
  refine lv_aload_n hx hb d_H_quarterRound_96 rfl (lv_at hl 0 rfl) ?_
  refine va_get (D := D) (ci := 2) (v := .ref q4) (C := R_H) (T := F_H) (N := 8) hx hb hts in_H hown hG.1 hP 0 rfl rfl 6 (by decide) (hts _ k_189) (fun _ h9 => h9) rfl d_H_quarterRound_97 ?_
  refine lv_iload hx hb d_H_quarterRound_100 (lv_at hl 4 rfl) ?_
  refine lv_aload_n hx hb d_H_quarterRound_102 rfl (lv_at hl 0 rfl) ?_
  refine va_get (D := D) (ci := 2) (v := .ref q4) (C := R_H) (T := F_H) (N := 8) hx hb hts in_H hown hG.1 hP 0 rfl rfl 6 (by decide) (hts _ k_189) (fun _ h9 => h9) rfl d_H_quarterRound_103 ?_
  refine lv_iload hx hb d_H_quarterRound_106 (lv_at hl 4 rfl) ?_
  refine sb_ild hx hb hG.1 hP 1 rfl d0 rfl (by omega) (by omega) d_H_quarterRound_108 ?_
  refine lv_aload_n hx hb d_H_quarterRound_109 rfl (lv_at hl 0 rfl) ?_
  refine va_get (D := D) (ci := 2) (v := .ref q4) (C := R_H) (T := F_H) (N := 8) hx hb hts in_H hown hG.1 hP 0 rfl rfl 6 (by decide) (hts _ k_189) (fun _ h9 => h9) rfl d_H_quarterRound_110 ?_
  refine lv_iload_n hx hb d_H_quarterRound_113 rfl (lv_at hl 1 rfl) ?_
  refine sb_ild hx hb hG.1 hP 1 rfl a rfl (by omega) (by omega) d_H_quarterRound_114 ?_
  refine lv_ixor hx hb d_H_quarterRound_115 ?_
  refine lv_bipush (v := 8) hx hb d_H_quarterRound_116 (by decide) ?_
  refine vp_callSi (va_runSN (As := [.int (((cq1 (cq2 (cq1 (cq2 (cq1 f a b) d0 a 16) c0 d0) b c0 12) a b) d0) ^^^ ((cq1 (cq2 (cq1 (cq2 (cq1 f a b) d0 a 16) c0 d0) b c0 12) a b) a)), .int 8]) (rest := [.int (nI d0), .ref q4]) ⟨hx, hb, hml, hown, hts⟩ (c_X_rotated l D cI cL cB tS tF (((cq1 (cq2 (cq1 (cq2 (cq1 f a b) d0 a 16) c0 d0) b c0 12) a b) d0) ^^^ ((cq1 (cq2 (cq1 (cq2 (cq1 f a b) d0 a 16) c0 d0) b c0 12) a b) a)) 8 ) ⟨va_cnB 2 hts (sb_g k_448) rfl rfl rfl (va_Nw.of rfl (hG.nest (args := args) _ n_519)) (hts _ k_22) (by decide +kernel) ⟨Nat.le_of_ble_eq_true rfl, Nat.le_of_ble_eq_true rfl⟩, hts _ k_447, trivial⟩ (sb_rS hG hP hS [] rfl) rfl rfl hl.1 rfl (lv_room (Nat.le_of_ble_eq_true rfl)) d_H_quarterRound_118 ⟨Nat.le_of_ble_eq_true rfl, Nat.le_of_ble_eq_true rfl⟩).run (fun r_8 er_8 => ?_)
  subst er_8
  refine sb_ist hx hb hG.1 hP hD hS 1 rfl d0 rfl (by omega) (by omega) d_H_quarterRound_121 (fun f_9 H locs ef_9 hP hD hS => ?_)
  have hP : va_P D vwCl [(h, .inr (2, [.ref q0, .ref q1, .ref q2, .int tc, .int tu, .ref q3, .ref q4, .ref q5])), (q4, .inl (cI, 16, .inl f_9))] H := hP
  have hD : va_D A [(h, .inr (2, [.ref q0, .ref q1, .ref q2, .int tc, .int tu, .ref q3, .ref q4, .ref q5])), (q4, .inl (cI, 16, .inl f_9))] := hD
  obtain rfl : f_9 = cq2 (cq1 (cq2 (cq1 (cq2 (cq1 f a b) d0 a 16) c0 d0) b c0 12) a b) d0 a 8 := ef_9
  refine lv_aload_n hx hb d_H_quarterRound_122 rfl (lv_at hl 0 rfl) ?_
  refine va_get (D := D) (ci := 2) (v := .ref q4) (C := R_H) (T := F_H) (N := 8) hx hb hts in_H hown hG.1 hP 0 rfl rfl 6 (by decide) (hts _ k_189) (fun _ h9 => h9) rfl d_H_quarterRound_123 ?_
  refine lv_iload_n hx hb d_H_quarterRound_126 rfl (lv_at hl 3 rfl) ?_
  refine lv_dup2_11 hx hb d_H_quarterRound_127 rfl rfl ?_
  refine sb_ild hx hb hG.1 hP 1 rfl c0 rfl (by omega) (by omega) d_H_quarterRound_128 ?_
  refine lv_aload_n hx hb d_H_quarterRound_129 rfl (lv_at hl 0 rfl) ?_
  refine va_get (D := D) (ci := 2) (v := .ref q4) (C := R_H) (T := F_H) (N := 8) hx hb hts in_H hown hG.1 hP 0 rfl rfl 6 (by decide) (hts _ k_189) (fun _ h9 => h9) rfl d_H_quarterRound_130 ?_
  refine lv_iload hx hb d_H_quarterRound_133 (lv_at hl 4 rfl) ?_
  refine sb_ild hx hb hG.1 hP 1 rfl d0 rfl (by omega) (by omega) d_H_quarterRound_135 ?_
  refine lv_iadd hx hb d_H_quarterRound_136 ?_
  refine sb_ist hx hb hG.1 hP hD hS 1 rfl c0 rfl (by omega) (by omega) d_H_quarterRound_137 (fun f_10 H locs ef_10 hP hD hS => ?_)
  have hP : va_P D vwCl [(h, .inr (2, [.ref q0, .ref q1, .ref q2, .int tc, .int tu, .ref q3, .ref q4, .ref q5])), (q4, .inl (cI, 16, .inl f_10))] H := hP
  have hD : va_D A [(h, .inr (2, [.ref q0, .ref q1, .ref q2, .int tc, .int tu, .ref q3, .ref q4, .ref q5])), (q4, .inl (cI, 16, .inl f_10))] := hD
  obtain rfl : f_10 = cq1 (cq2 (cq1 (cq2 (cq1 (cq2 (cq1 f a b) d0 a 16) c0 d0) b c0 12) a b) d0 a 8) c0 d0 := ef_10
  refine lv_aload_n hx hb d_H_quarterRound_138 rfl (lv_at hl 0 rfl) ?_
  refine va_get (D := D) (ci := 2) (v := .ref q4) (C := R_H) (T := F_H) (N := 8) hx hb hts in_H hown hG.1 hP 0 rfl rfl 6 (by decide) (hts _ k_189) (fun _ h9 => h9) rfl d_H_quarterRound_139 ?_
  refine lv_iload_n hx hb d_H_quarterRound_142 rfl (lv_at hl 2 rfl) ?_
  refine lv_aload_n hx hb d_H_quarterRound_143 rfl (lv_at hl 0 rfl) ?_
  refine va_get (D := D) (ci := 2) (v := .ref q4) (C := R_H) (T := F_H) (N := 8) hx hb hts in_H hown hG.1 hP 0 rfl rfl 6 (by decide) (hts _ k_189) (fun _ h9 => h9) rfl d_H_quarterRound_144 ?_
  refine lv_iload_n hx hb d_H_quarterRound_147 rfl (lv_at hl 2 rfl) ?_
  refine sb_ild hx hb hG.1 hP 1 rfl b rfl (by omega) (by omega) d_H_quarterRound_148 ?_
  refine lv_aload_n hx hb d_H_quarterRound_149 rfl (lv_at hl 0 rfl) ?_
  refine va_get (D := D) (ci := 2) (v := .ref q4) (C := R_H) (T := F_H) (N := 8) hx hb hts in_H hown hG.1 hP 0 rfl rfl 6 (by decide) (hts _ k_189) (fun _ h9 => h9) rfl d_H_quarterRound_150 ?_
  refine lv_iload_n hx hb d_H_quarterRound_153 rfl (lv_at hl 3 rfl) ?_
  refine sb_ild hx hb hG.1 hP 1 rfl c0 rfl (by omega) (by omega) d_H_quarterRound_154 ?_
  refine lv_ixor hx hb d_H_quarterRound_155 ?_
  refine lv_bipush (v := 7) hx hb d_H_quarterRound_156 (by decide) ?_
  refine vp_callSi (va_runSN (As := [.int (((cq1 (cq2 (cq1 (cq2 (cq1 (cq2 (cq1 f a b) d0 a 16) c0 d0) b c0 12) a b) d0 a 8) c0 d0) b) ^^^ ((cq1 (cq2 (cq1 (cq2 (cq1 (cq2 (cq1 f a b) d0 a 16) c0 d0) b c0 12) a b) d0 a 8) c0 d0) c0)), .int 7]) (rest := [.int (nI b), .ref q4]) ⟨hx, hb, hml, hown, hts⟩ (c_X_rotated l D cI cL cB tS tF (((cq1 (cq2 (cq1 (cq2 (cq1 (cq2 (cq1 f a b) d0 a 16) c0 d0) b c0 12) a b) d0 a 8) c0 d0) b) ^^^ ((cq1 (cq2 (cq1 (cq2 (cq1 (cq2 (cq1 f a b) d0 a 16) c0 d0) b c0 12) a b) d0 a 8) c0 d0) c0)) 7 ) ⟨va_cnB 2 hts (sb_g k_448) rfl rfl rfl (va_Nw.of rfl (hG.nest (args := args) _ n_519)) (hts _ k_22) (by decide +kernel) ⟨Nat.le_of_ble_eq_true rfl, Nat.le_of_ble_eq_true rfl⟩, hts _ k_447, trivial⟩ (sb_rS hG hP hS [] rfl) rfl rfl hl.1 rfl (lv_room (Nat.le_of_ble_eq_true rfl)) d_H_quarterRound_158 ⟨Nat.le_of_ble_eq_true rfl, Nat.le_of_ble_eq_true rfl⟩).run (fun r_11 er_11 => ?_)
  subst er_11
  refine sb_ist hx hb hG.1 hP hD hS 1 rfl b rfl (by omega) (by omega) d_H_quarterRound_161 (fun f_12 H locs ef_12 hP hD hS => ?_)
  have hP : va_P D vwCl [(h, .inr (2, [.ref q0, .ref q1, .ref q2, .int tc, .int tu, .ref q3, .ref q4, .ref q5])), (q4, .inl (cI, 16, .inl f_12))] H := hP
  have hD : va_D A [(h, .inr (2, [.ref q0, .ref q1, .ref q2, .int tc, .int tu, .ref q3, .ref q4, .ref q5])), (q4, .inl (cI, 16, .inl f_12))] := hD
  obtain rfl : f_12 = cq2 (cq1 (cq2 (cq1 (cq2 (cq1 (cq2 (cq1 f a b) d0 a 16) c0 d0) b c0 12) a b) d0 a 8) c0 d0) b c0 7 := ef_12
  have hP9 := hP.sub (ws' := [(h, .inr (2, [.ref q0, .ref q1, .ref q2, .int tc, .int tu, .ref q3, .ref q4, .ref q5])), (q4, .inl (cI, 16, .inl (cq2 (cq1 (cq2 (cq1 (cq2 (cq1 (cq2 (cq1 f a b) d0 a 16) c0 d0) b c0 12) a b) d0 a 8) c0 d0) b c0 7)))]) [0, 1] rfl
  have hD9 := hD.sub (ws' := [(h, .inr (2, [.ref q0, .ref q1, .ref q2, .int tc, .int tu, .ref q3, .ref q4, .ref q5])), (q4, .inl (cI, 16, .inl (cq2 (cq1 (cq2 (cq1 (cq2 (cq1 (cq2 (cq1 f a b) d0 a 16) c0 d0) b c0 12) a b) d0 a 8) c0 d0) b c0 7)))]) [0, 1] (by decide) rfl
  exact W.vret hx hb hr (fun t ht hW => ⟨⟨(), rfl, trivial, by rw [ht]; exact hP9, hD9⟩, hS.F ht⟩) hS.2.2 d_H_quarterRound_162

theorem d_H_turnBlock_0 : decode b_H_turnBlock 0 = .ok (.aload_n 0, 1) := by decide +kernel
theorem d_H_turnBlock_1 : decode b_H_turnBlock 1 = .ok (.dup, 1) := by decide +kernel
theorem d_H_turnBlock_2 : decode b_H_turnBlock 2 = .ok (.getfield 45, 3) := by decide +kernel
theorem d_H_turnBlock_5 : decode b_H_turnBlock 5 = .ok (.iconst 1, 1) := by decide +kernel
theorem d_H_turnBlock_6 : decode b_H_turnBlock 6 = .ok (.iadd, 1) := by decide +kernel
theorem d_H_turnBlock_7 : decode b_H_turnBlock 7 = .ok (.putfield 45, 3) := by decide +kernel
theorem d_H_turnBlock_10 : decode b_H_turnBlock 10 = .ok (.aload_n 0, 1) := by decide +kernel
theorem d_H_turnBlock_11 : decode b_H_turnBlock 11 = .ok (.getfield 11, 3) := by decide +kernel
theorem d_H_turnBlock_14 : decode b_H_turnBlock 14 = .ok (.bipush 12, 2) := by decide +kernel
theorem d_H_turnBlock_16 : decode b_H_turnBlock 16 = .ok (.iload_n 1, 1) := by decide +kernel
theorem d_H_turnBlock_17 : decode b_H_turnBlock 17 = .ok (.iastore, 1) := by decide +kernel
theorem d_H_turnBlock_18 : decode b_H_turnBlock 18 = .ok (.iconst 0, 1) := by decide +kernel
theorem d_H_turnBlock_19 : decode b_H_turnBlock 19 = .ok (.istore_n 2, 1) := by decide +kernel
theorem d_H_turnBlock_20 : decode b_H_turnBlock 20 = .ok (.iload_n 2, 1) := by decide +kernel
theorem d_H_turnBlock_21 : decode b_H_turnBlock 21 = .ok (.iconst 3, 1) := by decide +kernel
theorem d_H_turnBlock_22 : decode b_H_turnBlock 22 = .ok (.if_icmp .ge 27, 3) := by decide +kernel
theorem d_H_turnBlock_25 : decode b_H_turnBlock 25 = .ok (.aload_n 0, 1) := by decide +kernel
theorem d_H_turnBlock_26 : decode b_H_turnBlock 26 = .ok (.getfield 11, 3) := by decide +kernel
theorem d_H_turnBlock_29 : decode b_H_turnBlock 29 = .ok (.bipush 13, 2) := by decide +kernel
theorem d_H_turnBlock_31 : decode b_H_turnBlock 31 = .ok (.iload_n 2, 1) := by decide +kernel
theorem d_H_turnBlock_32 : decode b_H_turnBlock 32 = .ok (.iadd, 1) := by decide +kernel
theorem d_H_turnBlock_33 : decode b_H_turnBlock 33 = .ok (.aload_n 0, 1) := by decide +kernel
theorem d_H_turnBlock_34 : decode b_H_turnBlock 34 = .ok (.getfield 48, 3) := by decide +kernel
theorem d_H_turnBlock_37 : decode b_H_turnBlock 37 = .ok (.iload_n 2, 1) := by decide +kernel
theorem d_H_turnBlock_38 : decode b_H_turnBlock 38 = .ok (.iaload, 1) := by decide +kernel
theorem d_H_turnBlock_39 : decode b_H_turnBlock 39 = .ok (.invokestatic 39, 3) := by decide +kernel
theorem d_H_turnBlock_42 : decode b_H_turnBlock 42 = .ok (.iastore, 1) := by decide +kernel
theorem d_H_turnBlock_43 : decode b_H_turnBlock 43 = .ok (.iinc 2 1, 3) := by decide +kernel
theorem d_H_turnBlock_46 : decode b_H_turnBlock 46 = .ok (.goto (-26), 3) := by decide +kernel
theorem d_H_turnBlock_49 : decode b_H_turnBlock 49 = .ok (.aload_n 0, 1) := by decide +kernel
theorem d_H_turnBlock_50 : decode b_H_turnBlock 50 = .ok (.getfield 11, 3) := by decide +kernel
theorem d_H_turnBlock_53 : decode b_H_turnBlock 53 = .ok (.iconst 0, 1) := by decide +kernel
theorem d_H_turnBlock_54 : decode b_H_turnBlock 54 = .ok (.aload_n 0, 1) := by decide +kernel
theorem d_H_turnBlock_55 : decode b_H_turnBlock 55 = .ok (.getfield 17, 3) := by decide +kernel
theorem d_H_turnBlock_58 : decode b_H_turnBlock 58 = .ok (.iconst 0, 1) := by decide +kernel
theorem d_H_turnBlock_59 : decode b_H_turnBlock 59 = .ok (.bipush 16, 2) := by decide +kernel
theorem d_H_turnBlock_61 : decode b_H_turnBlock 61 = .ok (.invokestatic 51, 3) := by decide +kernel
theorem d_H_turnBlock_64 : decode b_H_turnBlock 64 = .ok (.iconst 0, 1) := by decide +kernel
theorem d_H_turnBlock_65 : decode b_H_turnBlock 65 = .ok (.istore_n 2, 1) := by decide +kernel
theorem d_H_turnBlock_66 : decode b_H_turnBlock 66 = .ok (.iload_n 2, 1) := by decide +kernel
theorem d_H_turnBlock_67 : decode b_H_turnBlock 67 = .ok (.bipush 10, 2) := by decide +kernel
theorem d_H_turnBlock_69 : decode b_H_turnBlock 69 = .ok (.if_icmp .ge 79, 3) := by decide +kernel
theorem d_H_turnBlock_72 : decode b_H_turnBlock 72 = .ok (.iconst 0, 1) := by decide +kernel
theorem d_H_turnBlock_73 : decode b_H_turnBlock 73 = .ok (.istore_n 3, 1) := by decide +kernel
theorem d_H_turnBlock_74 : decode b_H_turnBlock 74 = .ok (.iload_n 3, 1) := by decide +kernel
theorem d_H_turnBlock_75 : decode b_H_turnBlock 75 = .ok (.iconst 4, 1) := by decide +kernel
theorem d_H_turnBlock_76 : decode b_H_turnBlock 76 = .ok (.if_icmp .ge 25, 3) := by decide +kernel
theorem d_H_turnBlock_79 : decode b_H_turnBlock 79 = .ok (.aload_n 0, 1) := by decide +kernel
theorem d_H_turnBlock_80 : decode b_H_turnBlock 80 = .ok (.iload_n 3, 1) := by decide +kernel
theorem d_H_turnBlock_81 : decode b_H_turnBlock 81 = .ok (.iconst 4, 1) := by decide +kernel
theorem d_H_turnBlock_82 : decode b_H_turnBlock 82 = .ok (.iload_n 3, 1) := by decide +kernel
theorem d_H_turnBlock_83 : decode b_H_turnBlock 83 = .ok (.iadd, 1) := by decide +kernel
theorem d_H_turnBlock_84 : decode b_H_turnBlock 84 = .ok (.bipush 8, 2) := by decide +kernel
theorem d_H_turnBlock_86 : decode b_H_turnBlock 86 = .ok (.iload_n 3, 1) := by decide +kernel
theorem d_H_turnBlock_87 : decode b_H_turnBlock 87 = .ok (.iadd, 1) := by decide +kernel
theorem d_H_turnBlock_88 : decode b_H_turnBlock 88 = .ok (.bipush 12, 2) := by decide +kernel
theorem d_H_turnBlock_90 : decode b_H_turnBlock 90 = .ok (.iload_n 3, 1) := by decide +kernel
theorem d_H_turnBlock_91 : decode b_H_turnBlock 91 = .ok (.iadd, 1) := by decide +kernel
theorem d_H_turnBlock_92 : decode b_H_turnBlock 92 = .ok (.invokevirtual 57, 3) := by decide +kernel
theorem d_H_turnBlock_95 : decode b_H_turnBlock 95 = .ok (.iinc 3 1, 3) := by decide +kernel
theorem d_H_turnBlock_98 : decode b_H_turnBlock 98 = .ok (.goto (-24), 3) := by decide +kernel
theorem d_H_turnBlock_101 : decode b_H_turnBlock 101 = .ok (.iconst 0, 1) := by decide +kernel
theorem d_H_turnBlock_102 : decode b_H_turnBlock 102 = .ok (.istore_n 3, 1) := by decide +kernel
theorem d_H_turnBlock_103 : decode b_H_turnBlock 103 = .ok (.iload_n 3, 1) := by decide +kernel
theorem d_H_turnBlock_104 : decode b_H_turnBlock 104 = .ok (.iconst 4, 1) := by decide +kernel
theorem d_H_turnBlock_105 : decode b_H_turnBlock 105 = .ok (.if_icmp .ge 37, 3) := by decide +kernel
theorem d_H_turnBlock_108 : decode b_H_turnBlock 108 = .ok (.aload_n 0, 1) := by decide +kernel
theorem d_H_turnBlock_109 : decode b_H_turnBlock 109 = .ok (.iload_n 3, 1) := by decide +kernel
theorem d_H_turnBlock_110 : decode b_H_turnBlock 110 = .ok (.iconst 4, 1) := by decide +kernel
theorem d_H_turnBlock_111 : decode b_H_turnBlock 111 = .ok (.iload_n 3, 1) := by decide +kernel
theorem d_H_turnBlock_112 : decode b_H_turnBlock 112 = .ok (.iconst 1, 1) := by decide +kernel
theorem d_H_turnBlock_113 : decode b_H_turnBlock 113 = .ok (.iadd, 1) := by decide +kernel
theorem d_H_turnBlock_114 : decode b_H_turnBlock 114 = .ok (.iconst 3, 1) := by decide +kernel
theorem d_H_turnBlock_115 : decode b_H_turnBlock 115 = .ok (.iand, 1) := by decide +kernel
theorem d_H_turnBlock_116 : decode b_H_turnBlock 116 = .ok (.iadd, 1) := by decide +kernel
theorem d_H_turnBlock_117 : decode b_H_turnBlock 117 = .ok (.bipush 8, 2) := by decide +kernel
theorem d_H_turnBlock_119 : decode b_H_turnBlock 119 = .ok (.iload_n 3, 1) := by decide +kernel
theorem d_H_turnBlock_120 : decode b_H_turnBlock 120 = .ok (.iconst 2, 1) := by decide +kernel
theorem d_H_turnBlock_121 : decode b_H_turnBlock 121 = .ok (.iadd, 1) := by decide +kernel
theorem d_H_turnBlock_122 : decode b_H_turnBlock 122 = .ok (.iconst 3, 1) := by decide +kernel
theorem d_H_turnBlock_123 : decode b_H_turnBlock 123 = .ok (.iand, 1) := by decide +kernel
theorem d_H_turnBlock_124 : decode b_H_turnBlock 124 = .ok (.iadd, 1) := by decide +kernel
theorem d_H_turnBlock_125 : decode b_H_turnBlock 125 = .ok (.bipush 12, 2) := by decide +kernel
theorem d_H_turnBlock_127 : decode b_H_turnBlock 127 = .ok (.iload_n 3, 1) := by decide +kernel
theorem d_H_turnBlock_128 : decode b_H_turnBlock 128 = .ok (.iconst 3, 1) := by decide +kernel
theorem d_H_turnBlock_129 : decode b_H_turnBlock 129 = .ok (.iadd, 1) := by decide +kernel
theorem d_H_turnBlock_130 : decode b_H_turnBlock 130 = .ok (.iconst 3, 1) := by decide +kernel
theorem d_H_turnBlock_131 : decode b_H_turnBlock 131 = .ok (.iand, 1) := by decide +kernel
theorem d_H_turnBlock_132 : decode b_H_turnBlock 132 = .ok (.iadd, 1) := by decide +kernel
theorem d_H_turnBlock_133 : decode b_H_turnBlock 133 = .ok (.invokevirtual 57, 3) := by decide +kernel
theorem d_H_turnBlock_136 : decode b_H_turnBlock 136 = .ok (.iinc 3 1, 3) := by decide +kernel
theorem d_H_turnBlock_139 : decode b_H_turnBlock 139 = .ok (.goto (-36), 3) := by decide +kernel
theorem d_H_turnBlock_142 : decode b_H_turnBlock 142 = .ok (.iinc 2 1, 3) := by decide +kernel
theorem d_H_turnBlock_145 : decode b_H_turnBlock 145 = .ok (.goto (-79), 3) := by decide +kernel
theorem d_H_turnBlock_148 : decode b_H_turnBlock 148 = .ok (.iconst 0, 1) := by decide +kernel
theorem d_H_turnBlock_149 : decode b_H_turnBlock 149 = .ok (.istore_n 2, 1) := by decide +kernel
theorem d_H_turnBlock_150 : decode b_H_turnBlock 150 = .ok (.iload_n 2, 1) := by decide +kernel
theorem d_H_turnBlock_151 : decode b_H_turnBlock 151 = .ok (.bipush 16, 2) := by decide +kernel
theorem d_H_turnBlock_153 : decode b_H_turnBlock 153 = .ok (.if_icmp .ge 31, 3) := by decide +kernel
theorem d_H_turnBlock_156 : decode b_H_turnBlock 156 = .ok (.aload_n 0, 1) := by decide +kernel
theorem d_H_turnBlock_157 : decode b_H_turnBlock 157 = .ok (.getfield 61, 3) := by decide +kernel
theorem d_H_turnBlock_160 : decode b_H_turnBlock 160 = .ok (.iload_n 2, 1) := by decide +kernel
theorem d_H_turnBlock_161 : decode b_H_turnBlock 161 = .ok (.aload_n 0, 1) := by decide +kernel
theorem d_H_turnBlock_162 : decode b_H_turnBlock 162 = .ok (.getfield 17, 3) := by decide +kernel
theorem d_H_turnBlock_165 : decode b_H_turnBlock 165 = .ok (.iload_n 2, 1) := by decide +kernel
theorem d_H_turnBlock_166 : decode b_H_turnBlock 166 = .ok (.iaload, 1) := by decide +kernel
theorem d_H_turnBlock_167 : decode b_H_turnBlock 167 = .ok (.aload_n 0, 1) := by decide +kernel
theorem d_H_turnBlock_168 : decode b_H_turnBlock 168 = .ok (.getfield 11, 3) := by decide +kernel
theorem d_H_turnBlock_171 : decode b_H_turnBlock 171 = .ok (.iload_n 2, 1) := by decide +kernel
theorem d_H_turnBlock_172 : decode b_H_turnBlock 172 = .ok (.iaload, 1) := by decide +kernel
theorem d_H_turnBlock_173 : decode b_H_turnBlock 173 = .ok (.iadd, 1) := by decide +kernel
theorem d_H_turnBlock_174 : decode b_H_turnBlock 174 = .ok (.invokestatic 39, 3) := by decide +kernel
theorem d_H_turnBlock_177 : decode b_H_turnBlock 177 = .ok (.iastore, 1) := by decide +kernel
theorem d_H_turnBlock_178 : decode b_H_turnBlock 178 = .ok (.iinc 2 1, 3) := by decide +kernel
theorem d_H_turnBlock_181 : decode b_H_turnBlock 181 = .ok (.goto (-31), 3) := by decide +kernel
theorem d_H_turnBlock_184 : decode b_H_turnBlock 184 = .ok (.return_, 1) := by decide +kernel

def rm_H_turnBlock : Room := { frames := 2, cells := 0, slots := 0, locals := 45 }
set_option maxHeartbeats 4000000 in
set_option maxRecDepth 100000 in
theorem c_H_turnBlock (l : Launch) (D : va_G) (cI cL cB : ClassId) (tS tF : Nat) (h : Nat) (q0 : Nat) (q1 : Nat) (q2 : Nat) (q3 : Nat) (q4 : Nat) (q5 : Nat) (tc : Int32) (tu : Int32) (no : Nat → Int32) (bl : Nat → Int32) (sr : Nat → Int32) (sa : Nat → Int32) (n : Int32) (sz : Nat)  : Met l y_H_turnBlock (sbw y_H_turnBlock b_H_turnBlock 4 none) rm_H_turnBlock (sbPc D cI cL cB tS tF [.ref h, .int n] sz [(h, .inr (2, [.ref q0, .ref q1, .ref q2, .int tc, .int tu, .ref q3, .ref q4, .ref q5])), (q0, .inl (cI, 3, .inl no)), (q1, .inl (cI, 16, .inl bl)), (q3, .inl (cI, 16, .inl sr)), (q4, .inl (cI, 16, .inl sa))]) (sbQv D (fun (_ : Unit) => True) (fun (_ : Unit) => [(h, .inr (2, [.ref q0, .ref q1, .ref q2, .int tc, .int (tu + 1), .ref q3, .ref q4, .ref q5])), (q0, .inl (cI, 3, .inl no)), (q1, .inl (cI, 16, .inl (iter (cout (cinit sr no n) (cturn (cinit sr no n) sa)) 16 bl))), (q3, .inl (cI, 16, .inl (cinit sr no n))), (q4, .inl (cI, 16, .inl (cturn (cinit sr no n) sa)))]) (va_A [(h, .inr (2, [.ref q0, .ref q1, .ref q2, .int tc, .int tu, .ref q3, .ref q4, .ref q5])), (q0, .inl (cI, 3, .inl no)), (q1, .inl (cI, 16, .inl bl)), (q3, .inl (cI, 16, .inl sr)), (q4, .inl (cI, 16, .inl sa))] sz)) 0 0 (va_A [(h, .inr (2, [.ref q0, .ref q1, .ref q2, .int tc, .int tu, .ref q3, .ref q4, .ref q5])), (q0, .inl (cI, 3, .inl no)), (q1, .inl (cI, 16, .inl bl)), (q3, .inl (cI, 16, .inl sr)), (q4, .inl (cI, 16, .inl sa))] sz) := by
  refine sb_ofW (Qc := fun A => (sbQv D (fun (_ : Unit) => True) (fun (_ : Unit) => [(h, .inr (2, [.ref q0, .ref q1, .ref q2, .int tc, .int (tu + 1), .ref q3, .ref q4, .ref q5])), (q0, .inl (cI, 3, .inl no)), (q1, .inl (cI, 16, .inl (iter (cout (cinit sr no n) (cturn (cinit sr no n) sa)) 16 bl))), (q3, .inl (cI, 16, .inl (cinit sr no n))), (q4, .inl (cI, 16, .inl (cturn (cinit sr no n) sa)))]) A)) (by decide) (Nat.le_of_ble_eq_true rfl) ?_
  intro p e s m args below meth c A ls hx hb hr hml hts hown hlocks hin hsz hP hG hD hA hS hl
  have hl : lv_has ls 4 [(0, .ref h), (1, .int n)] := hl
  refine lv_aload_n hx hb d_H_turnBlock_0 rfl (lv_at hl 0 rfl) ?_
  refine lv_dup hx hb d_H_turnBlock_1 rfl ?_
  refine va_get (D := D) (ci := 2) (v := .int tu) (C := R_H) (T := F_H) (N := 8) hx hb hts in_H hown hG.1 hP 0 rfl rfl 4 (by decide) (hts _ k_135) (fun x9 h9 => u_same (hts _ k_136) x9 h9) rfl d_H_turnBlock_2 ?_
  refine lv_iconst (v := 1) hx hb d_H_turnBlock_5 (by decide) ?_
  refine lv_iadd hx hb d_H_turnBlock_6 ?_
  refine lv_topi (fun x_1 ex_1 => ?_)
  refine va_put (D := D) (ci := 2) (v := .int x_1) (ty := .int) (C := R_H) (T := F_H) (N := 8) hx hb hts in_H tq_H tq_H_ok nq_H hown hG.1 hP hD hS 0 rfl rfl 4 (by decide) (hts _ k_135) (fun x9 h9 => u_same (hts _ k_136) x9 h9) rfl (by decide +kernel) rfl rfl (Nat.le_of_ble_eq_true rfl) d_H_turnBlock_7 (fun H locs hP hD hS => ?_)
  have hP : va_P D vwCl [(h, .inr (2, [.ref q0, .ref q1, .ref q2, .int tc, .int x_1, .ref q3, .ref q4, .ref q5])), (q0, .inl (cI, 3, .inl no)), (q1, .inl (cI, 16, .inl bl)), (q3, .inl (cI, 16, .inl sr)), (q4, .inl (cI, 16, .inl sa))] H := hP
  have hD : va_D A [(h, .inr (2, [.ref q0, .ref q1, .ref q2, .int tc, .int x_1, .ref q3, .ref q4, .ref q5])), (q0, .inl (cI, 3, .inl no)), (q1, .inl (cI, 16, .inl bl)), (q3, .inl (cI, 16, .inl sr)), (q4, .inl (cI, 16, .inl sa))] := hD
  refine lv_aload_n hx hb d_H_turnBlock_10 rfl (lv_at hl 0 rfl) ?_
  refine va_get (D := D) (ci := 2) (v := .ref q3) (C := R_H) (T := F_H) (N := 8) hx hb hts in_H hown hG.1 hP 0 rfl rfl 5 (by decide) (hts _ k_188) (fun _ h9 => h9) rfl d_H_turnBlock_11 ?_
  refine lv_bipush (v := 12) hx hb d_H_turnBlock_14 (by decide) ?_
  refine lv_iload_n hx hb d_H_turnBlock_16 rfl (lv_at hl 1 rfl) ?_
  refine sb_ist hx hb hG.1 hP hD hS 3 rfl 12 rfl (by omega) (by omega) d_H_turnBlock_17 (fun f_2 H locs ef_2 hP hD hS => ?_)
  have hP : va_P D vwCl [(h, .inr (2, [.ref q0, .ref q1, .ref q2, .int tc, .int x_1, .ref q3, .ref q4, .ref q5])), (q0, .inl (cI, 3, .inl no)), (q1, .inl (cI, 16, .inl bl)), (q3, .inl (cI, 16, .inl f_2)), (q4, .inl (cI, 16, .inl sa))] H := hP
  have hD : va_D A [(h, .inr (2, [.ref q0, .ref q1, .ref q2, .int tc, .int x_1, .ref q3, .ref q4, .ref q5])), (q0, .inl (cI, 3, .inl no)), (q1, .inl (cI, 16, .inl bl)), (q3, .inl (cI, 16, .inl f_2)), (q4, .inl (cI, 16, .inl sa))] := hD
  obtain rfl : f_2 = upd sr 12 n := ef_2
  refine lv_iconst (v := 0) hx hb d_H_turnBlock_18 (by decide) ?_
  refine lv_istore_n (lv' := [(2, .int 0), (0, .ref h), (1, .int n)]) hx hb d_H_turnBlock_19 rfl hl (by decide) rfl (fun ls hl => ?_)
  refine lv_iload_n hx hb d_H_turnBlock_20 rfl (lv_at hl 0 rfl) ?_
  refine lv_iconst (v := 3) hx hb d_H_turnBlock_21 (by decide) ?_
  refine lv_icmp_ge (tgt := 49) hx hb d_H_turnBlock_22 (by decide) (fun c_3 => absurd c_3 (sb_geF (a := 0) (b := 3) rfl rfl (by omega) (by omega) (by omega))) (fun c_3 => ?_)
  refine lv_aload_n hx hb d_H_turnBlock_25 rfl (lv_at hl 1 rfl) ?_
  refine va_get (D := D) (ci := 2) (v := .ref q3) (C := R_H) (T := F_H) (N := 8) hx hb hts in_H hown hG.1 hP 0 rfl rfl 5 (by decide) (hts _ k_188) (fun _ h9 => h9) rfl d_H_turnBlock_26 ?_
  refine lv_bipush (v := 13) hx hb d_H_turnBlock_29 (by decide) ?_
  refine lv_iload_n hx hb d_H_turnBlock_31 rfl (lv_at hl 0 rfl) ?_
  refine lv_iadd hx hb d_H_turnBlock_32 ?_
  refine sb_topn 13 (sb_eqn (a := 13 + 0) (b := 13) (nI_add 13 0) (by omega)) ?_
  refine lv_aload_n hx hb d_H_turnBlock_33 rfl (lv_at hl 1 rfl) ?_
  refine va_get (D := D) (ci := 2) (v := .ref q0) (C := R_H) (T := F_H) (N := 8) hx hb hts in_H hown hG.1 hP 0 rfl rfl 0 (by decide) (hts _ k_119) (fun x9 h9 => u_same (hts _ k_120) x9 h9) rfl d_H_turnBlock_34 ?_
  refine lv_iload_n hx hb d_H_turnBlock_37 rfl (lv_at hl 0 rfl) ?_
  refine sb_ild hx hb hG.1 hP 1 rfl 0 rfl (by omega) (by omega) d_H_turnBlock_38 ?_
  refine vp_callSi (va_runSN (As := [.int (no 0)]) (rest := [.int (nI 13), .ref q3]) ⟨hx, hb, hml, hown, hts⟩ (c_X_swapped l D cI cL cB tS tF (no 0) ) ⟨va_cnB 1 hts (sb_g k_434) rfl rfl rfl (va_Nw.of rfl (hG.nest (args := args) _ n_432)) (hts _ k_22) (by decide +kernel) ⟨Nat.le_of_ble_eq_true rfl, Nat.le_of_ble_eq_true rfl⟩, hts _ k_433, trivial⟩ (sb_rS hG hP hS [] rfl) rfl rfl hl.1 rfl (lv_room (Nat.le_of_ble_eq_true rfl)) d_H_turnBlock_39 ⟨Nat.le_of_ble_eq_true rfl, Nat.le_of_ble_eq_true rfl⟩).run (fun r_4 er_4 => ?_)
  subst er_4
  refine sb_ist hx hb hG.1 hP hD hS 3 rfl 13 rfl (by omega) (by omega) d_H_turnBlock_42 (fun f_5 H locs ef_5 hP hD hS => ?_)
  have hP : va_P D vwCl [(h, .inr (2, [.ref q0, .ref q1, .ref q2, .int tc, .int x_1, .ref q3, .ref q4, .ref q5])), (q0, .inl (cI, 3, .inl no)), (q1, .inl (cI, 16, .inl bl)), (q3, .inl (cI, 16, .inl f_5)), (q4, .inl (cI, 16, .inl sa))] H := hP
  have hD : va_D A [(h, .inr (2, [.ref q0, .ref q1, .ref q2, .int tc, .int x_1, .ref q3, .ref q4, .ref q5])), (q0, .inl (cI, 3, .inl no)), (q1, .inl (cI, 16, .inl bl)), (q3, .inl (cI, 16, .inl f_5)), (q4, .inl (cI, 16, .inl sa))] := hD
  obtain rfl : f_5 = upd (upd sr 12 n) 13 (swpI (no 0)) := ef_5
  refine lv_iinc (v := nI 1) (lv' := [(2, .int (nI 1)), (0, .ref h), (1, .int n)]) hx hb d_H_turnBlock_43 hl (k := 0) rfl (sb_inc (a := 0) (b := 1) (d := 1) rfl (by decide) (by omega)) (by decide) rfl (fun ls hl => ?_)
  refine lv_goto (tgt := 20) hx hb d_H_turnBlock_46 (by decide) ?_
  refine lv_iload_n hx hb d_H_turnBlock_20 rfl (lv_at hl 0 rfl) ?_
  refine lv_iconst (v := 3) hx hb d_H_turnBlock_21 (by decide) ?_
  refine lv_icmp_ge (tgt := 49) hx hb d_H_turnBlock_22 (by decide) (fun c_6 => absurd c_6 (sb_geF (a := 1) (b := 3) rfl rfl (by omega) (by omega) (by omega))) (fun c_6 => ?_)
  refine lv_aload_n hx hb d_H_turnBlock_25 rfl (lv_at hl 1 rfl) ?_
  refine va_get (D := D) (ci := 2) (v := .ref q3) (C := R_H) (T := F_H) (N := 8) hx hb hts in_H hown hG.1 hP 0 rfl rfl 5 (by decide) (hts _ k_188) (fun _ h9 => h9) rfl d_H_turnBlock_26 ?_
  refine lv_bipush (v := 13) hx hb d_H_turnBlock_29 (by decide) ?_
  refine lv_iload_n hx hb d_H_turnBlock_31 rfl (lv_at hl 0 rfl) ?_
  refine lv_iadd hx hb d_H_turnBlock_32 ?_
  refine sb_topn 14 (sb_eqn (a := 13 + 1) (b := 14) (nI_add 13 1) (by omega)) ?_
  refine lv_aload_n hx hb d_H_turnBlock_33 rfl (lv_at hl 1 rfl) ?_
  refine va_get (D := D) (ci := 2) (v := .ref q0) (C := R_H) (T := F_H) (N := 8) hx hb hts in_H hown hG.1 hP 0 rfl rfl 0 (by decide) (hts _ k_119) (fun x9 h9 => u_same (hts _ k_120) x9 h9) rfl d_H_turnBlock_34 ?_
  refine lv_iload_n hx hb d_H_turnBlock_37 rfl (lv_at hl 0 rfl) ?_
  refine sb_ild hx hb hG.1 hP 1 rfl 1 rfl (by omega) (by omega) d_H_turnBlock_38 ?_
  refine vp_callSi (va_runSN (As := [.int (no 1)]) (rest := [.int (nI 14), .ref q3]) ⟨hx, hb, hml, hown, hts⟩ (c_X_swapped l D cI cL cB tS tF (no 1) ) ⟨va_cnB 1 hts (sb_g k_434) rfl rfl rfl (va_Nw.of rfl (hG.nest (args := args) _ n_432)) (hts _ k_22) (by decide +kernel) ⟨Nat.le_of_ble_eq_true rfl, Nat.le_of_ble_eq_true rfl⟩, hts _ k_433, trivial⟩ (sb_rS hG hP hS [] rfl) rfl rfl hl.1 rfl (lv_room (Nat.le_of_ble_eq_true rfl)) d_H_turnBlock_39 ⟨Nat.le_of_ble_eq_true rfl, Nat.le_of_ble_eq_true rfl⟩).run (fun r_7 er_7 => ?_)
  subst er_7
  refine sb_ist hx hb hG.1 hP hD hS 3 rfl 14 rfl (by omega) (by omega) d_H_turnBlock_42 (fun f_8 H locs ef_8 hP hD hS => ?_)
  have hP : va_P D vwCl [(h, .inr (2, [.ref q0, .ref q1, .ref q2, .int tc, .int x_1, .ref q3, .ref q4, .ref q5])), (q0, .inl (cI, 3, .inl no)), (q1, .inl (cI, 16, .inl bl)), (q3, .inl (cI, 16, .inl f_8)), (q4, .inl (cI, 16, .inl sa))] H := hP
  have hD : va_D A [(h, .inr (2, [.ref q0, .ref q1, .ref q2, .int tc, .int x_1, .ref q3, .ref q4, .ref q5])), (q0, .inl (cI, 3, .inl no)), (q1, .inl (cI, 16, .inl bl)), (q3, .inl (cI, 16, .inl f_8)), (q4, .inl (cI, 16, .inl sa))] := hD
  obtain rfl : f_8 = upd (upd (upd sr 12 n) 13 (swpI (no 0))) 14 (swpI (no 1)) := ef_8
  refine lv_iinc (v := nI 2) (lv' := [(2, .int (nI 2)), (0, .ref h), (1, .int n)]) hx hb d_H_turnBlock_43 hl (k := 0) rfl (sb_inc (a := 1) (b := 2) (d := 1) rfl (by decide) (by omega)) (by decide) rfl (fun ls hl => ?_)
  refine lv_goto (tgt := 20) hx hb d_H_turnBlock_46 (by decide) ?_
  refine lv_iload_n hx hb d_H_turnBlock_20 rfl (lv_at hl 0 rfl) ?_
  refine lv_iconst (v := 3) hx hb d_H_turnBlock_21 (by decide) ?_
  refine lv_icmp_ge (tgt := 49) hx hb d_H_turnBlock_22 (by decide) (fun c_9 => absurd c_9 (sb_geF (a := 2) (b := 3) rfl rfl (by omega) (by omega) (by omega))) (fun c_9 => ?_)
  refine lv_aload_n hx hb d_H_turnBlock_25 rfl (lv_at hl 1 rfl) ?_
  refine va_get (D := D) (ci := 2) (v := .ref q3) (C := R_H) (T := F_H) (N := 8) hx hb hts in_H hown hG.1 hP 0 rfl rfl 5 (by decide) (hts _ k_188) (fun _ h9 => h9) rfl d_H_turnBlock_26 ?_
  refine lv_bipush (v := 13) hx hb d_H_turnBlock_29 (by decide) ?_
  refine lv_iload_n hx hb d_H_turnBlock_31 rfl (lv_at hl 0 rfl) ?_
  refine lv_iadd hx hb d_H_turnBlock_32 ?_
  refine sb_topn 15 (sb_eqn (a := 13 + 2) (b := 15) (nI_add 13 2) (by omega)) ?_
  refine lv_aload_n hx hb d_H_turnBlock_33 rfl (lv_at hl 1 rfl) ?_
  refine va_get (D := D) (ci := 2) (v := .ref q0) (C := R_H) (T := F_H) (N := 8) hx hb hts in_H hown hG.1 hP 0 rfl rfl 0 (by decide) (hts _ k_119) (fun x9 h9 => u_same (hts _ k_120) x9 h9) rfl d_H_turnBlock_34 ?_
  refine lv_iload_n hx hb d_H_turnBlock_37 rfl (lv_at hl 0 rfl) ?_
  refine sb_ild hx hb hG.1 hP 1 rfl 2 rfl (by omega) (by omega) d_H_turnBlock_38 ?_
  refine vp_callSi (va_runSN (As := [.int (no 2)]) (rest := [.int (nI 15), .ref q3]) ⟨hx, hb, hml, hown, hts⟩ (c_X_swapped l D cI cL cB tS tF (no 2) ) ⟨va_cnB 1 hts (sb_g k_434) rfl rfl rfl (va_Nw.of rfl (hG.nest (args := args) _ n_432)) (hts _ k_22) (by decide +kernel) ⟨Nat.le_of_ble_eq_true rfl, Nat.le_of_ble_eq_true rfl⟩, hts _ k_433, trivial⟩ (sb_rS hG hP hS [] rfl) rfl rfl hl.1 rfl (lv_room (Nat.le_of_ble_eq_true rfl)) d_H_turnBlock_39 ⟨Nat.le_of_ble_eq_true rfl, Nat.le_of_ble_eq_true rfl⟩).run (fun r_10 er_10 => ?_)
  subst er_10
  refine sb_ist hx hb hG.1 hP hD hS 3 rfl 15 rfl (by omega) (by omega) d_H_turnBlock_42 (fun f_11 H locs ef_11 hP hD hS => ?_)
  have hP : va_P D vwCl [(h, .inr (2, [.ref q0, .ref q1, .ref q2, .int tc, .int x_1, .ref q3, .ref q4, .ref q5])), (q0, .inl (cI, 3, .inl no)), (q1, .inl (cI, 16, .inl bl)), (q3, .inl (cI, 16, .inl f_11)), (q4, .inl (cI, 16, .inl sa))] H := hP
  have hD : va_D A [(h, .inr (2, [.ref q0, .ref q1, .ref q2, .int tc, .int x_1, .ref q3, .ref q4, .ref q5])), (q0, .inl (cI, 3, .inl no)), (q1, .inl (cI, 16, .inl bl)), (q3, .inl (cI, 16, .inl f_11)), (q4, .inl (cI, 16, .inl sa))] := hD
  obtain rfl : f_11 = (cinit sr no n) := ef_11
  refine lv_iinc (v := nI 3) (lv' := [(2, .int (nI 3)), (0, .ref h), (1, .int n)]) hx hb d_H_turnBlock_43 hl (k := 0) rfl (sb_inc (a := 2) (b := 3) (d := 1) rfl (by decide) (by omega)) (by decide) rfl (fun ls hl => ?_)
  refine lv_goto (tgt := 20) hx hb d_H_turnBlock_46 (by decide) ?_
  refine lv_iload_n hx hb d_H_turnBlock_20 rfl (lv_at hl 0 rfl) ?_
  refine lv_iconst (v := 3) hx hb d_H_turnBlock_21 (by decide) ?_
  refine lv_icmp_ge (tgt := 49) hx hb d_H_turnBlock_22 (by decide) (fun c_12 => ?_) (fun c_12 => absurd (sb_geT (a := 3) (b := 3) rfl rfl (by omega) (by omega) (by omega)) c_12)
  refine lv_aload_n hx hb d_H_turnBlock_49 rfl (lv_at hl 1 rfl) ?_
  refine va_get (D := D) (ci := 2) (v := .ref q3) (C := R_H) (T := F_H) (N := 8) hx hb hts in_H hown hG.1 hP 0 rfl rfl 5 (by decide) (hts _ k_188) (fun _ h9 => h9) rfl d_H_turnBlock_50 ?_
  refine lv_iconst (v := 0) hx hb d_H_turnBlock_53 (by decide) ?_
  refine lv_aload_n hx hb d_H_turnBlock_54 rfl (lv_at hl 1 rfl) ?_
  refine va_get (D := D) (ci := 2) (v := .ref q4) (C := R_H) (T := F_H) (N := 8) hx hb hts in_H hown hG.1 hP 0 rfl rfl 6 (by decide) (hts _ k_189) (fun _ h9 => h9) rfl d_H_turnBlock_55 ?_
  refine lv_iconst (v := 0) hx hb d_H_turnBlock_58 (by decide) ?_
  refine lv_bipush (v := 16) hx hb d_H_turnBlock_59 (by decide) ?_
  refine sb_copyi hx hb (hml.trans hl.1.symm) hown (hts _ k_514) (hts _ k_274) (hts _ k_273) (hts _ k_37) hG.1 hP hD hS 3 4 rfl rfl 0 0 16 rfl rfl rfl (by omega) (by omega) (by omega) (by omega) (Nat.le_of_ble_eq_true rfl) (Nat.le_of_ble_eq_true rfl) d_H_turnBlock_61 (fun f_13 H locs ef_13 hP hD hS => ?_)
  have hP : va_P D vwCl [(h, .inr (2, [.ref q0, .ref q1, .ref q2, .int tc, .int x_1, .ref q3, .ref q4, .ref q5])), (q0, .inl (cI, 3, .inl no)), (q1, .inl (cI, 16, .inl bl)), (q3, .inl (cI, 16, .inl (cinit sr no n))), (q4, .inl (cI, 16, .inl f_13))] H := hP
  have hD : va_D A [(h, .inr (2, [.ref q0, .ref q1, .ref q2, .int tc, .int x_1, .ref q3, .ref q4, .ref q5])), (q0, .inl (cI, 3, .inl no)), (q1, .inl (cI, 16, .inl bl)), (q3, .inl (cI, 16, .inl (cinit sr no n))), (q4, .inl (cI, 16, .inl f_13))] := hD
  obtain rfl : f_13 = va_cpy (cinit sr no n) sa 0 0 16 := ef_13
  refine lv_iconst (v := 0) hx hb d_H_turnBlock_64 (by decide) ?_
  refine lv_istore_n (lv' := [(2, .int 0), (0, .ref h), (1, .int n)]) hx hb d_H_turnBlock_65 rfl hl (by decide) rfl (fun ls hl => ?_)
  have lp1 : ∀ (d1 i : Nat), i + d1 = 10 → ∀ (H : Heap) (locs : List Loc) (ls : Array Slot), va_P D vwCl [(h, .inr (2, [.ref q0, .ref q1, .ref q2, .int tc, .int x_1, .ref q3, .ref q4, .ref q5])), (q0, .inl (cI, 3, .inl no)), (q1, .inl (cI, 16, .inl bl)), (q3, .inl (cI, 16, .inl (cinit sr no n))), (q4, .inl (cI, 16, .inl (iter (fun _ g => crnd g) i (va_cpy (cinit sr no n) sa 0 0 16))))] H → va_D A [(h, .inr (2, [.ref q0, .ref q1, .ref q2, .int tc, .int x_1, .ref q3, .ref q4, .ref q5])), (q0, .inl (cI, 3, .inl no)), (q1, .inl (cI, 16, .inl bl)), (q3, .inl (cI, 16, .inl (cinit sr no n))), (q4, .inl (cI, 16, .inl (iter (fun _ g => crnd g) i (va_cpy (cinit sr no n) sa 0 0 16))))] → va_S A s.heap H locs → lv_has ls 4 [(2, .int (nI i)), (0, .ref h), (1, .int n)] → W p l e rm_H_turnBlock s m args below meth c H locs 0 0 (MQ below (sbQv D (fun (_ : Unit) => True) (fun (_ : Unit) => [(h, .inr (2, [.ref q0, .ref q1, .ref q2, .int tc, .int (tu + 1), .ref q3, .ref q4, .ref q5])), (q0, .inl (cI, 3, .inl no)), (q1, .inl (cI, 16, .inl (iter (cout (cinit sr no n) (cturn (cinit sr no n) sa)) 16 bl))), (q3, .inl (cI, 16, .inl (cinit sr no n))), (q4, .inl (cI, 16, .inl (cturn (cinit sr no n) sa)))]) A) args s 0 0 A) (F0 m 66 ls []) := by
    intro d1
    induction d1 with
    | zero =>
      intro i hi1 H locs ls hP hD hS hl
      obtain rfl : 10 = i := by omega
      refine lv_iload_n hx hb d_H_turnBlock_66 rfl (lv_at hl 0 rfl) ?_
      refine lv_bipush (v := 10) hx hb d_H_turnBlock_67 (by decide) ?_
      refine lv_icmp_ge (tgt := 148) hx hb d_H_turnBlock_69 (by decide) (fun c_14 => ?_) (fun c_14 => absurd (sb_geT (a := 10) (b := 10) rfl rfl (by omega) (by omega) (by omega)) c_14)
      refine lv_iconst (v := 0) hx hb d_H_turnBlock_148 (by decide) ?_
      refine lv_istore_n (lv' := [(2, .int 0), (0, .ref h), (1, .int n)]) hx hb d_H_turnBlock_149 rfl hl (by decide) rfl (fun ls hl => ?_)
      have lp2 : ∀ (d2 j : Nat), j + d2 = 16 → ∀ (H : Heap) (locs : List Loc) (ls : Array Slot), va_P D vwCl [(h, .inr (2, [.ref q0, .ref q1, .ref q2, .int tc, .int x_1, .ref q3, .ref q4, .ref q5])), (q0, .inl (cI, 3, .inl no)), (q1, .inl (cI, 16, .inl (iter (cout (cinit sr no n) (cturn (cinit sr no n) sa)) j bl))), (q3, .inl (cI, 16, .inl (cinit sr no n))), (q4, .inl (cI, 16, .inl (cturn (cinit sr no n) sa)))] H → va_D A [(h, .inr (2, [.ref q0, .ref q1, .ref q2, .int tc, .int x_1, .ref q3, .ref q4, .ref q5])), (q0, .inl (cI, 3, .inl no)), (q1, .inl (cI, 16, .inl (iter (cout (cinit sr no n) (cturn (cinit sr no n) sa)) j bl))), (q3, .inl (cI, 16, .inl (cinit sr no n))), (q4, .inl (cI, 16, .inl (cturn (cinit sr no n) sa)))] → va_S A s.heap H locs → lv_has ls 4 [(2, .int (nI j)), (0, .ref h), (1, .int n)] → W p l e rm_H_turnBlock s m args below meth c H locs 0 0 (MQ below (sbQv D (fun (_ : Unit) => True) (fun (_ : Unit) => [(h, .inr (2, [.ref q0, .ref q1, .ref q2, .int tc, .int (tu + 1), .ref q3, .ref q4, .ref q5])), (q0, .inl (cI, 3, .inl no)), (q1, .inl (cI, 16, .inl (iter (cout (cinit sr no n) (cturn (cinit sr no n) sa)) 16 bl))), (q3, .inl (cI, 16, .inl (cinit sr no n))), (q4, .inl (cI, 16, .inl (cturn (cinit sr no n) sa)))]) A) args s 0 0 A) (F0 m 150 ls []) := by
        intro d2
        induction d2 with
        | zero =>
          intro j hi2 H locs ls hP hD hS hl
          obtain rfl : 16 = j := by omega
          refine lv_iload_n hx hb d_H_turnBlock_150 rfl (lv_at hl 0 rfl) ?_
          refine lv_bipush (v := 16) hx hb d_H_turnBlock_151 (by decide) ?_
          refine lv_icmp_ge (tgt := 184) hx hb d_H_turnBlock_153 (by decide) (fun c_15 => ?_) (fun c_15 => absurd (sb_geT (a := 16) (b := 16) rfl rfl (by omega) (by omega) (by omega)) c_15)
          subst ex_1
          have hP9 := hP.sub (ws' := [(h, .inr (2, [.ref q0, .ref q1, .ref q2, .int tc, .int (tu + 1), .ref q3, .ref q4, .ref q5])), (q0, .inl (cI, 3, .inl no)), (q1, .inl (cI, 16, .inl (iter (cout (cinit sr no n) (cturn (cinit sr no n) sa)) 16 bl))), (q3, .inl (cI, 16, .inl (cinit sr no n))), (q4, .inl (cI, 16, .inl (cturn (cinit sr no n) sa)))]) [0, 1, 2, 3, 4] rfl
          have hD9 := hD.sub (ws' := [(h, .inr (2, [.ref q0, .ref q1, .ref q2, .int tc, .int (tu + 1), .ref q3, .ref q4, .ref q5])), (q0, .inl (cI, 3, .inl no)), (q1, .inl (cI, 16, .inl (iter (cout (cinit sr no n) (cturn (cinit sr no n) sa)) 16 bl))), (q3, .inl (cI, 16, .inl (cinit sr no n))), (q4, .inl (cI, 16, .inl (cturn (cinit sr no n) sa)))]) [0, 1, 2, 3, 4] (by decide) rfl
          exact W.vret hx hb hr (fun t ht hW => ⟨⟨(), rfl, trivial, by rw [ht]; exact hP9, hD9⟩, hS.F ht⟩) hS.2.2 d_H_turnBlock_184
        | succ d2 ih2 =>
          intro j hi2 H locs ls hP hD hS hl
          refine lv_iload_n hx hb d_H_turnBlock_150 rfl (lv_at hl 0 rfl) ?_
          refine lv_bipush (v := 16) hx hb d_H_turnBlock_151 (by decide) ?_
          refine lv_icmp_ge (tgt := 184) hx hb d_H_turnBlock_153 (by decide) (fun c_16 => absurd c_16 (sb_geF (a := j) (b := 16) rfl rfl (by omega) (by omega) (by omega))) (fun c_16 => ?_)
          refine lv_aload_n hx hb d_H_turnBlock_156 rfl (lv_at hl 1 rfl) ?_
          refine va_get (D := D) (ci := 2) (v := .ref q1) (C := R_H) (T := F_H) (N := 8) hx hb hts in_H hown hG.1 hP 0 rfl rfl 1 (by decide) (hts _ k_124) (fun x9 h9 => u_same (hts _ k_125) x9 h9) rfl d_H_turnBlock_157 ?_
          refine lv_iload_n hx hb d_H_turnBlock_160 rfl (lv_at hl 0 rfl) ?_
          refine lv_aload_n hx hb d_H_turnBlock_161 rfl (lv_at hl 1 rfl) ?_
          refine va_get (D := D) (ci := 2) (v := .ref q4) (C := R_H) (T := F_H) (N := 8) hx hb hts in_H hown hG.1 hP 0 rfl rfl 6 (by decide) (hts _ k_189) (fun _ h9 => h9) rfl d_H_turnBlock_162 ?_
          refine lv_iload_n hx hb d_H_turnBlock_165 rfl (lv_at hl 0 rfl) ?_
          refine sb_ild hx hb hG.1 hP 4 rfl j rfl (by omega) (by omega) d_H_turnBlock_166 ?_
          refine lv_aload_n hx hb d_H_turnBlock_167 rfl (lv_at hl 1 rfl) ?_
          refine va_get (D := D) (ci := 2) (v := .ref q3) (C := R_H) (T := F_H) (N := 8) hx hb hts in_H hown hG.1 hP 0 rfl rfl 5 (by decide) (hts _ k_188) (fun _ h9 => h9) rfl d_H_turnBlock_168 ?_
          refine lv_iload_n hx hb d_H_turnBlock_171 rfl (lv_at hl 0 rfl) ?_
          refine sb_ild hx hb hG.1 hP 3 rfl j rfl (by omega) (by omega) d_H_turnBlock_172 ?_
          refine lv_iadd hx hb d_H_turnBlock_173 ?_
          refine vp_callSi (va_runSN (As := [.int (((cturn (cinit sr no n) sa) j) + ((cinit sr no n) j))]) (rest := [.int (nI j), .ref q1]) ⟨hx, hb, hml, hown, hts⟩ (c_X_swapped l D cI cL cB tS tF (((cturn (cinit sr no n) sa) j) + ((cinit sr no n) j)) ) ⟨va_cnB 1 hts (sb_g k_434) rfl rfl rfl (va_Nw.of rfl (hG.nest (args := args) _ n_432)) (hts _ k_22) (by decide +kernel) ⟨Nat.le_of_ble_eq_true rfl, Nat.le_of_ble_eq_true rfl⟩, hts _ k_433, trivial⟩ (sb_rS hG hP hS [] rfl) rfl rfl hl.1 rfl (lv_room (Nat.le_of_ble_eq_true rfl)) d_H_turnBlock_174 ⟨Nat.le_of_ble_eq_true rfl, Nat.le_of_ble_eq_true rfl⟩).run (fun r_17 er_17 => ?_)
          subst er_17
          refine sb_ist hx hb hG.1 hP hD hS 2 rfl j rfl (by omega) (by omega) d_H_turnBlock_177 (fun f_18 H locs ef_18 hP hD hS => ?_)
          have hP : va_P D vwCl [(h, .inr (2, [.ref q0, .ref q1, .ref q2, .int tc, .int x_1, .ref q3, .ref q4, .ref q5])), (q0, .inl (cI, 3, .inl no)), (q1, .inl (cI, 16, .inl f_18)), (q3, .inl (cI, 16, .inl (cinit sr no n))), (q4, .inl (cI, 16, .inl (cturn (cinit sr no n) sa)))] H := hP
          have hD : va_D A [(h, .inr (2, [.ref q0, .ref q1, .ref q2, .int tc, .int x_1, .ref q3, .ref q4, .ref q5])), (q0, .inl (cI, 3, .inl no)), (q1, .inl (cI, 16, .inl f_18)), (q3, .inl (cI, 16, .inl (cinit sr no n))), (q4, .inl (cI, 16, .inl (cturn (cinit sr no n) sa)))] := hD
          refine lv_iinc (v := nI (j + 1)) (lv' := [(2, .int (nI (j + 1))), (0, .ref h), (1, .int n)]) hx hb d_H_turnBlock_178 hl (k := 0) rfl (sb_inc (a := j) (b := j + 1) (d := 1) rfl (by decide) (by omega)) (by decide) rfl (fun ls hl => ?_)
          refine lv_goto (tgt := 150) hx hb d_H_turnBlock_181 (by decide) ?_
          obtain rfl : f_18 = iter (cout (cinit sr no n) (cturn (cinit sr no n) sa)) (j + 1) bl := (by subst_vars; rfl)
          exact ih2 (j + 1) (by omega) _ _ ls (hP.sub [0, 1, 2, 3, 4] rfl) (hD.sub [0, 1, 2, 3, 4] (by decide) rfl) hS (lv_sub hl [0, 1, 2] rfl)
      exact lp2 16 0 (by omega) _ _ ls (hP.sub [0, 1, 2, 3, 4] rfl) (hD.sub [0, 1, 2, 3, 4] (by decide) rfl) hS (lv_sub hl [0, 1, 2] rfl)
    | succ d1 ih1 =>
      intro i hi1 H locs ls hP hD hS hl
      refine lv_iload_n hx hb d_H_turnBlock_66 rfl (lv_at hl 0 rfl) ?_
      refine lv_bipush (v := 10) hx hb d_H_turnBlock_67 (by decide) ?_
      refine lv_icmp_ge (tgt := 148) hx hb d_H_turnBlock_69 (by decide) (fun c_19 => absurd c_19 (sb_geF (a := i) (b := 10) rfl rfl (by omega) (by omega) (by omega))) (fun c_19 => ?_)
      refine lv_iconst (v := 0) hx hb d_H_turnBlock_72 (by decide) ?_
      refine lv_istore_n (lv' := [(3, .int 0), (2, .int (nI i)), (0, .ref h), (1, .int n)]) hx hb d_H_turnBlock_73 rfl hl (by decide) rfl (fun ls hl => ?_)
      refine lv_iload_n hx hb d_H_turnBlock_74 rfl (lv_at hl 0 rfl) ?_
      refine lv_iconst (v := 4) hx hb d_H_turnBlock_75 (by decide) ?_
      refine lv_icmp_ge (tgt := 101) hx hb d_H_turnBlock_76 (by decide) (fun c_20 => absurd c_20 (sb_geF (a := 0) (b := 4) rfl rfl (by omega) (by omega) (by omega))) (fun c_20 => ?_)
      refine lv_aload_n hx hb d_H_turnBlock_79 rfl (lv_at hl 2 rfl) ?_
      refine lv_iload_n hx hb d_H_turnBlock_80 rfl (lv_at hl 0 rfl) ?_
      refine lv_iconst (v := 4) hx hb d_H_turnBlock_81 (by decide) ?_
      refine lv_iload_n hx hb d_H_turnBlock_82 rfl (lv_at hl 0 rfl) ?_
      refine lv_iadd hx hb d_H_turnBlock_83 ?_
      refine sb_topn 4 (sb_eqn (a := 4 + 0) (b := 4) (nI_add 4 0) (by omega)) ?_
      refine lv_bipush (v := 8) hx hb d_H_turnBlock_84 (by decide) ?_
      refine lv_iload_n hx hb d_H_turnBlock_86 rfl (lv_at hl 0 rfl) ?_
      refine lv_iadd hx hb d_H_turnBlock_87 ?_
      refine sb_topn 8 (sb_eqn (a := 8 + 0) (b := 8) (nI_add 8 0) (by omega)) ?_
      refine lv_bipush (v := 12) hx hb d_H_turnBlock_88 (by decide) ?_
      refine lv_iload_n hx hb d_H_turnBlock_90 rfl (lv_at hl 0 rfl) ?_
      refine lv_iadd hx hb d_H_turnBlock_91 ?_
      refine sb_topn 12 (sb_eqn (a := 12 + 0) (b := 12) (nI_add 12 0) (by omega)) ?_
      refine sb_callv (wr := [(q0, .inl (cI, 3, .inl no)), (q1, .inl (cI, 16, .inl bl)), (q3, .inl (cI, 16, .inl (cinit sr no n)))]) (va_runV (As := [.int 0, .int (nI 4), .int (nI 8), .int (nI 12)]) (rest := []) ⟨hx, hb, hml, hown, hts⟩ (c_H_quarterRound l D cI cL cB tS tF h q0 q1 q2 q3 q4 q5 tc x_1 (iter (fun _ g => crnd g) i (va_cpy (cinit sr no n) sa 0 0 16)) 0 4 8 12 _ (by omega) (by omega) (by omega) (by omega)) (cwV 4 hts (sb_gV k_515 k_517 k_1 k_28 k_518) rfl rfl rfl (by decide +kernel) ⟨Nat.le_of_ble_eq_true rfl, Nat.le_of_ble_eq_true rfl⟩) (sb_pV hG hP hD hS hA [0, 4] (by decide) rfl (ci := 2) (q0 := 0) rfl rfl) rfl rfl hl.1 rfl (lv_room (Nat.le_of_ble_eq_true rfl)) d_H_turnBlock_92 ⟨Nat.le_of_ble_eq_true rfl, Nat.le_of_ble_eq_true rfl⟩) hP hD hS hA [0, 4] [1, 2, 3] rfl rfl (by decide) (by decide) (fun u H locs hw_21 hP hD hS => ?_)
      have hP : va_P D vwCl [(q0, .inl (cI, 3, .inl no)), (q1, .inl (cI, 16, .inl bl)), (q3, .inl (cI, 16, .inl (cinit sr no n))), (h, .inr (2, [.ref q0, .ref q1, .ref q2, .int tc, .int x_1, .ref q3, .ref q4, .ref q5])), (q4, .inl (cI, 16, .inl (cqr (iter (fun _ g => crnd g) i (va_cpy (cinit sr no n) sa 0 0 16)) 0 4 8 12)))] H := hP
      have hD : va_D A [(q0, .inl (cI, 3, .inl no)), (q1, .inl (cI, 16, .inl bl)), (q3, .inl (cI, 16, .inl (cinit sr no n))), (h, .inr (2, [.ref q0, .ref q1, .ref q2, .int tc, .int x_1, .ref q3, .ref q4, .ref q5])), (q4, .inl (cI, 16, .inl (cqr (iter (fun _ g => crnd g) i (va_cpy (cinit sr no n) sa 0 0 16)) 0 4 8 12)))] := hD
      refine lv_iinc (v := nI 1) (lv' := [(3, .int (nI 1)), (2, .int (nI i)), (0, .ref h), (1, .int n)]) hx hb d_H_turnBlock_95 hl (k := 0) rfl (sb_inc (a := 0) (b := 1) (d := 1) rfl (by decide) (by omega)) (by decide) rfl (fun ls hl => ?_)
      refine lv_goto (tgt := 74) hx hb d_H_turnBlock_98 (by decide) ?_
      refine lv_iload_n hx hb d_H_turnBlock_74 rfl (lv_at hl 0 rfl) ?_
      refine lv_iconst (v := 4) hx hb d_H_turnBlock_75 (by decide) ?_
      refine lv_icmp_ge (tgt := 101) hx hb d_H_turnBlock_76 (by decide) (fun c_22 => absurd c_22 (sb_geF (a := 1) (b := 4) rfl rfl (by omega) (by omega) (by omega))) (fun c_22 => ?_)
      refine lv_aload_n hx hb d_H_turnBlock_79 rfl (lv_at hl 2 rfl) ?_
      refine lv_iload_n hx hb d_H_turnBlock_80 rfl (lv_at hl 0 rfl) ?_
      refine lv_iconst (v := 4) hx hb d_H_turnBlock_81 (by decide) ?_
      refine lv_iload_n hx hb d_H_turnBlock_82 rfl (lv_at hl 0 rfl) ?_
      refine lv_iadd hx hb d_H_turnBlock_83 ?_
      refine sb_topn 5 (sb_eqn (a := 4 + 1) (b := 5) (nI_add 4 1) (by omega)) ?_
      refine lv_bipush (v := 8) hx hb d_H_turnBlock_84 (by decide) ?_
      refine lv_iload_n hx hb d_H_turnBlock_86 rfl (lv_at hl 0 rfl) ?_
      refine lv_iadd hx hb d_H_turnBlock_87 ?_
      refine sb_topn 9 (sb_eqn (a := 8 + 1) (b := 9) (nI_add 8 1) (by omega)) ?_
      refine lv_bipush (v := 12) hx hb d_H_turnBlock_88 (by decide) ?_
      refine lv_iload_n hx hb d_H_turnBlock_90 rfl (lv_at hl 0 rfl) ?_
      refine lv_iadd hx hb d_H_turnBlock_91 ?_
      refine sb_topn 13 (sb_eqn (a := 12 + 1) (b := 13) (nI_add 12 1) (by omega)) ?_
      refine sb_callv (wr := [(q0, .inl (cI, 3, .inl no)), (q1, .inl (cI, 16, .inl bl)), (q3, .inl (cI, 16, .inl (cinit sr no n)))]) (va_runV (As := [.int (nI 1), .int (nI 5), .int (nI 9), .int (nI 13)]) (rest := []) ⟨hx, hb, hml, hown, hts⟩ (c_H_quarterRound l D cI cL cB tS tF h q0 q1 q2 q3 q4 q5 tc x_1 (cqr (iter (fun _ g => crnd g) i (va_cpy (cinit sr no n) sa 0 0 16)) 0 4 8 12) 1 5 9 13 _ (by omega) (by omega) (by omega) (by omega)) (cwV 4 hts (sb_gV k_515 k_517 k_1 k_28 k_518) rfl rfl rfl (by decide +kernel) ⟨Nat.le_of_ble_eq_true rfl, Nat.le_of_ble_eq_true rfl⟩) (sb_pV hG hP hD hS hA [3, 4] (by decide) rfl (ci := 2) (q0 := 3) rfl rfl) rfl rfl hl.1 rfl (lv_room (Nat.le_of_ble_eq_true rfl)) d_H_turnBlock_92 ⟨Nat.le_of_ble_eq_true rfl, Nat.le_of_ble_eq_true rfl⟩) hP hD hS hA [3, 4] [0, 1, 2] rfl rfl (by decide) (by decide) (fun u H locs hw_23 hP hD hS => ?_)
      have hP : va_P D vwCl [(q0, .inl (cI, 3, .inl no)), (q1, .inl (cI, 16, .inl bl)), (q3, .inl (cI, 16, .inl (cinit sr no n))), (h, .inr (2, [.ref q0, .ref q1, .ref q2, .int tc, .int x_1, .ref q3, .ref q4, .ref q5])), (q4, .inl (cI, 16, .inl (cqr (cqr (iter (fun _ g => crnd g) i (va_cpy (cinit sr no n) sa 0 0 16)) 0 4 8 12) 1 5 9 13)))] H := hP
      have hD : va_D A [(q0, .inl (cI, 3, .inl no)), (q1, .inl (cI, 16, .inl bl)), (q3, .inl (cI, 16, .inl (cinit sr no n))), (h, .inr (2, [.ref q0, .ref q1, .ref q2, .int tc, .int x_1, .ref q3, .ref q4, .ref q5])), (q4, .inl (cI, 16, .inl (cqr (cqr (iter (fun _ g => crnd g) i (va_cpy (cinit sr no n) sa 0 0 16)) 0 4 8 12) 1 5 9 13)))] := hD
      refine lv_iinc (v := nI 2) (lv' := [(3, .int (nI 2)), (2, .int (nI i)), (0, .ref h), (1, .int n)]) hx hb d_H_turnBlock_95 hl (k := 0) rfl (sb_inc (a := 1) (b := 2) (d := 1) rfl (by decide) (by omega)) (by decide) rfl (fun ls hl => ?_)
      refine lv_goto (tgt := 74) hx hb d_H_turnBlock_98 (by decide) ?_
      refine lv_iload_n hx hb d_H_turnBlock_74 rfl (lv_at hl 0 rfl) ?_
      refine lv_iconst (v := 4) hx hb d_H_turnBlock_75 (by decide) ?_
      refine lv_icmp_ge (tgt := 101) hx hb d_H_turnBlock_76 (by decide) (fun c_24 => absurd c_24 (sb_geF (a := 2) (b := 4) rfl rfl (by omega) (by omega) (by omega))) (fun c_24 => ?_)
      refine lv_aload_n hx hb d_H_turnBlock_79 rfl (lv_at hl 2 rfl) ?_
      refine lv_iload_n hx hb d_H_turnBlock_80 rfl (lv_at hl 0 rfl) ?_
      refine lv_iconst (v := 4) hx hb d_H_turnBlock_81 (by decide) ?_
      refine lv_iload_n hx hb d_H_turnBlock_82 rfl (lv_at hl 0 rfl) ?_
      refine lv_iadd hx hb d_H_turnBlock_83 ?_
      refine sb_topn 6 (sb_eqn (a := 4 + 2) (b := 6) (nI_add 4 2) (by omega)) ?_
      refine lv_bipush (v := 8) hx hb d_H_turnBlock_84 (by decide) ?_
      refine lv_iload_n hx hb d_H_turnBlock_86 rfl (lv_at hl 0 rfl) ?_
      refine lv_iadd hx hb d_H_turnBlock_87 ?_
      refine sb_topn 10 (sb_eqn (a := 8 + 2) (b := 10) (nI_add 8 2) (by omega)) ?_
      refine lv_bipush (v := 12) hx hb d_H_turnBlock_88 (by decide) ?_
      refine lv_iload_n hx hb d_H_turnBlock_90 rfl (lv_at hl 0 rfl) ?_
      refine lv_iadd hx hb d_H_turnBlock_91 ?_
      refine sb_topn 14 (sb_eqn (a := 12 + 2) (b := 14) (nI_add 12 2) (by omega)) ?_
      refine sb_callv (wr := [(q0, .inl (cI, 3, .inl no)), (q1, .inl (cI, 16, .inl bl)), (q3, .inl (cI, 16, .inl (cinit sr no n)))]) (va_runV (As := [.int (nI 2), .int (nI 6), .int (nI 10), .int (nI 14)]) (rest := []) ⟨hx, hb, hml, hown, hts⟩ (c_H_quarterRound l D cI cL cB tS tF h q0 q1 q2 q3 q4 q5 tc x_1 (cqr (cqr (iter (fun _ g => crnd g) i (va_cpy (cinit sr no n) sa 0 0 16)) 0 4 8 12) 1 5 9 13) 2 6 10 14 _ (by omega) (by omega) (by omega) (by omega)) (cwV 4 hts (sb_gV k_515 k_517 k_1 k_28 k_518) rfl rfl rfl (by decide +kernel) ⟨Nat.le_of_ble_eq_true rfl, Nat.le_of_ble_eq_true rfl⟩) (sb_pV hG hP hD hS hA [3, 4] (by decide) rfl (ci := 2) (q0 := 3) rfl rfl) rfl rfl hl.1 rfl (lv_room (Nat.le_of_ble_eq_true rfl)) d_H_turnBlock_92 ⟨Nat.le_of_ble_eq_true rfl, Nat.le_of_ble_eq_true rfl⟩) hP hD hS hA [3, 4] [0, 1, 2] rfl rfl (by decide) (by decide) (fun u H locs hw_25 hP hD hS => ?_)
      have hP : va_P D vwCl [(q0, .inl (cI, 3, .inl no)), (q1, .inl (cI, 16, .inl bl)), (q3, .inl (cI, 16, .inl (cinit sr no n))), (h, .inr (2, [.ref q0, .ref q1, .ref q2, .int tc, .int x_1, .ref q3, .ref q4, .ref q5])), (q4, .inl (cI, 16, .inl (cqr (cqr (cqr (iter (fun _ g => crnd g) i (va_cpy (cinit sr no n) sa 0 0 16)) 0 4 8 12) 1 5 9 13) 2 6 10 14)))] H := hP
      have hD : va_D A [(q0, .inl (cI, 3, .inl no)), (q1, .inl (cI, 16, .inl bl)), (q3, .inl (cI, 16, .inl (cinit sr no n))), (h, .inr (2, [.ref q0, .ref q1, .ref q2, .int tc, .int x_1, .ref q3, .ref q4, .ref q5])), (q4, .inl (cI, 16, .inl (cqr (cqr (cqr (iter (fun _ g => crnd g) i (va_cpy (cinit sr no n) sa 0 0 16)) 0 4 8 12) 1 5 9 13) 2 6 10 14)))] := hD
      refine lv_iinc (v := nI 3) (lv' := [(3, .int (nI 3)), (2, .int (nI i)), (0, .ref h), (1, .int n)]) hx hb d_H_turnBlock_95 hl (k := 0) rfl (sb_inc (a := 2) (b := 3) (d := 1) rfl (by decide) (by omega)) (by decide) rfl (fun ls hl => ?_)
      refine lv_goto (tgt := 74) hx hb d_H_turnBlock_98 (by decide) ?_
      refine lv_iload_n hx hb d_H_turnBlock_74 rfl (lv_at hl 0 rfl) ?_
      refine lv_iconst (v := 4) hx hb d_H_turnBlock_75 (by decide) ?_
      refine lv_icmp_ge (tgt := 101) hx hb d_H_turnBlock_76 (by decide) (fun c_26 => absurd c_26 (sb_geF (a := 3) (b := 4) rfl rfl (by omega) (by omega) (by omega))) (fun c_26 => ?_)
      refine lv_aload_n hx hb d_H_turnBlock_79 rfl (lv_at hl 2 rfl) ?_
      refine lv_iload_n hx hb d_H_turnBlock_80 rfl (lv_at hl 0 rfl) ?_
      refine lv_iconst (v := 4) hx hb d_H_turnBlock_81 (by decide) ?_
      refine lv_iload_n hx hb d_H_turnBlock_82 rfl (lv_at hl 0 rfl) ?_
      refine lv_iadd hx hb d_H_turnBlock_83 ?_
      refine sb_topn 7 (sb_eqn (a := 4 + 3) (b := 7) (nI_add 4 3) (by omega)) ?_
      refine lv_bipush (v := 8) hx hb d_H_turnBlock_84 (by decide) ?_
      refine lv_iload_n hx hb d_H_turnBlock_86 rfl (lv_at hl 0 rfl) ?_
      refine lv_iadd hx hb d_H_turnBlock_87 ?_
      refine sb_topn 11 (sb_eqn (a := 8 + 3) (b := 11) (nI_add 8 3) (by omega)) ?_
      refine lv_bipush (v := 12) hx hb d_H_turnBlock_88 (by decide) ?_
      refine lv_iload_n hx hb d_H_turnBlock_90 rfl (lv_at hl 0 rfl) ?_
      refine lv_iadd hx hb d_H_turnBlock_91 ?_
      refine sb_topn 15 (sb_eqn (a := 12 + 3) (b := 15) (nI_add 12 3) (by omega)) ?_
      refine sb_callv (wr := [(q0, .inl (cI, 3, .inl no)), (q1, .inl (cI, 16, .inl bl)), (q3, .inl (cI, 16, .inl (cinit sr no n)))]) (va_runV (As := [.int (nI 3), .int (nI 7), .int (nI 11), .int (nI 15)]) (rest := []) ⟨hx, hb, hml, hown, hts⟩ (c_H_quarterRound l D cI cL cB tS tF h q0 q1 q2 q3 q4 q5 tc x_1 (cqr (cqr (cqr (iter (fun _ g => crnd g) i (va_cpy (cinit sr no n) sa 0 0 16)) 0 4 8 12) 1 5 9 13) 2 6 10 14) 3 7 11 15 _ (by omega) (by omega) (by omega) (by omega)) (cwV 4 hts (sb_gV k_515 k_517 k_1 k_28 k_518) rfl rfl rfl (by decide +kernel) ⟨Nat.le_of_ble_eq_true rfl, Nat.le_of_ble_eq_true rfl⟩) (sb_pV hG hP hD hS hA [3, 4] (by decide) rfl (ci := 2) (q0 := 3) rfl rfl) rfl rfl hl.1 rfl (lv_room (Nat.le_of_ble_eq_true rfl)) d_H_turnBlock_92 ⟨Nat.le_of_ble_eq_true rfl, Nat.le_of_ble_eq_true rfl⟩) hP hD hS hA [3, 4] [0, 1, 2] rfl rfl (by decide) (by decide) (fun u H locs hw_27 hP hD hS => ?_)
      have hP : va_P D vwCl [(q0, .inl (cI, 3, .inl no)), (q1, .inl (cI, 16, .inl bl)), (q3, .inl (cI, 16, .inl (cinit sr no n))), (h, .inr (2, [.ref q0, .ref q1, .ref q2, .int tc, .int x_1, .ref q3, .ref q4, .ref q5])), (q4, .inl (cI, 16, .inl (cqr (cqr (cqr (cqr (iter (fun _ g => crnd g) i (va_cpy (cinit sr no n) sa 0 0 16)) 0 4 8 12) 1 5 9 13) 2 6 10 14) 3 7 11 15)))] H := hP
      have hD : va_D A [(q0, .inl (cI, 3, .inl no)), (q1, .inl (cI, 16, .inl bl)), (q3, .inl (cI, 16, .inl (cinit sr no n))), (h, .inr (2, [.ref q0, .ref q1, .ref q2, .int tc, .int x_1, .ref q3, .ref q4, .ref q5])), (q4, .inl (cI, 16, .inl (cqr (cqr (cqr (cqr (iter (fun _ g => crnd g) i (va_cpy (cinit sr no n) sa 0 0 16)) 0 4 8 12) 1 5 9 13) 2 6 10 14) 3 7 11 15)))] := hD
      refine lv_iinc (v := nI 4) (lv' := [(3, .int (nI 4)), (2, .int (nI i)), (0, .ref h), (1, .int n)]) hx hb d_H_turnBlock_95 hl (k := 0) rfl (sb_inc (a := 3) (b := 4) (d := 1) rfl (by decide) (by omega)) (by decide) rfl (fun ls hl => ?_)
      refine lv_goto (tgt := 74) hx hb d_H_turnBlock_98 (by decide) ?_
      refine lv_iload_n hx hb d_H_turnBlock_74 rfl (lv_at hl 0 rfl) ?_
      refine lv_iconst (v := 4) hx hb d_H_turnBlock_75 (by decide) ?_
      refine lv_icmp_ge (tgt := 101) hx hb d_H_turnBlock_76 (by decide) (fun c_28 => ?_) (fun c_28 => absurd (sb_geT (a := 4) (b := 4) rfl rfl (by omega) (by omega) (by omega)) c_28)
      refine lv_iconst (v := 0) hx hb d_H_turnBlock_101 (by decide) ?_
      refine lv_istore_n (lv' := [(3, .int 0), (2, .int (nI i)), (0, .ref h), (1, .int n)]) hx hb d_H_turnBlock_102 rfl hl (by decide) rfl (fun ls hl => ?_)
      refine lv_iload_n hx hb d_H_turnBlock_103 rfl (lv_at hl 0 rfl) ?_
      refine lv_iconst (v := 4) hx hb d_H_turnBlock_104 (by decide) ?_
      refine lv_icmp_ge (tgt := 142) hx hb d_H_turnBlock_105 (by decide) (fun c_29 => absurd c_29 (sb_geF (a := 0) (b := 4) rfl rfl (by omega) (by omega) (by omega))) (fun c_29 => ?_)
      refine lv_aload_n hx hb d_H_turnBlock_108 rfl (lv_at hl 2 rfl) ?_
      refine lv_iload_n hx hb d_H_turnBlock_109 rfl (lv_at hl 0 rfl) ?_
      refine lv_iconst (v := 4) hx hb d_H_turnBlock_110 (by decide) ?_
      refine lv_iload_n hx hb d_H_turnBlock_111 rfl (lv_at hl 0 rfl) ?_
      refine lv_iconst (v := 1) hx hb d_H_turnBlock_112 (by decide) ?_
      refine lv_iadd hx hb d_H_turnBlock_113 ?_
      refine sb_topn 1 (sb_eqn (a := 0 + 1) (b := 1) (nI_add 0 1) (by omega)) ?_
      refine lv_iconst (v := 3) hx hb d_H_turnBlock_114 (by decide) ?_
      refine lv_iand hx hb d_H_turnBlock_115 ?_
      refine sb_topn 1 (by decide) ?_
      refine lv_iadd hx hb d_H_turnBlock_116 ?_
      refine sb_topn 5 (sb_eqn (a := 4 + 1) (b := 5) (nI_add 4 1) (by omega)) ?_
      refine lv_bipush (v := 8) hx hb d_H_turnBlock_117 (by decide) ?_
      refine lv_iload_n hx hb d_H_turnBlock_119 rfl (lv_at hl 0 rfl) ?_
      refine lv_iconst (v := 2) hx hb d_H_turnBlock_120 (by decide) ?_
      refine lv_iadd hx hb d_H_turnBlock_121 ?_
      refine sb_topn 2 (sb_eqn (a := 0 + 2) (b := 2) (nI_add 0 2) (by omega)) ?_
      refine lv_iconst (v := 3) hx hb d_H_turnBlock_122 (by decide) ?_
      refine lv_iand hx hb d_H_turnBlock_123 ?_
      refine sb_topn 2 (by decide) ?_
      refine lv_iadd hx hb d_H_turnBlock_124 ?_
      refine sb_topn 10 (sb_eqn (a := 8 + 2) (b := 10) (nI_add 8 2) (by omega)) ?_
      refine lv_bipush (v := 12) hx hb d_H_turnBlock_125 (by decide) ?_
      refine lv_iload_n hx hb d_H_turnBlock_127 rfl (lv_at hl 0 rfl) ?_
      refine lv_iconst (v := 3) hx hb d_H_turnBlock_128 (by decide) ?_
      refine lv_iadd hx hb d_H_turnBlock_129 ?_
      refine sb_topn 3 (sb_eqn (a := 0 + 3) (b := 3) (nI_add 0 3) (by omega)) ?_
      refine lv_iconst (v := 3) hx hb d_H_turnBlock_130 (by decide) ?_
      refine lv_iand hx hb d_H_turnBlock_131 ?_
      refine sb_topn 3 (by decide) ?_
      refine lv_iadd hx hb d_H_turnBlock_132 ?_
      refine sb_topn 15 (sb_eqn (a := 12 + 3) (b := 15) (nI_add 12 3) (by omega)) ?_
      refine sb_callv (wr := [(q0, .inl (cI, 3, .inl no)), (q1, .inl (cI, 16, .inl bl)), (q3, .inl (cI, 16, .inl (cinit sr no n)))]) (va_runV (As := [.int 0, .int (nI 5), .int (nI 10), .int (nI 15)]) (rest := []) ⟨hx, hb, hml, hown, hts⟩ (c_H_quarterRound l D cI cL cB tS tF h q0 q1 q2 q3 q4 q5 tc x_1 (cqr (cqr (cqr (cqr (iter (fun _ g => crnd g) i (va_cpy (cinit sr no n) sa 0 0 16)) 0 4 8 12) 1 5 9 13) 2 6 10 14) 3 7 11 15) 0 5 10 15 _ (by omega) (by omega) (by omega) (by omega)) (cwV 4 hts (sb_gV k_515 k_517 k_1 k_28 k_518) rfl rfl rfl (by decide +kernel) ⟨Nat.le_of_ble_eq_true rfl, Nat.le_of_ble_eq_true rfl⟩) (sb_pV hG hP hD hS hA [3, 4] (by decide) rfl (ci := 2) (q0 := 3) rfl rfl) rfl rfl hl.1 rfl (lv_room (Nat.le_of_ble_eq_true rfl)) d_H_turnBlock_133 ⟨Nat.le_of_ble_eq_true rfl, Nat.le_of_ble_eq_true rfl⟩) hP hD hS hA [3, 4] [0, 1, 2] rfl rfl (by decide) (by decide) (fun u H locs hw_30 hP hD hS => ?_)
      have hP : va_P D vwCl [(q0, .inl (cI, 3, .inl no)), (q1, .inl (cI, 16, .inl bl)), (q3, .inl (cI, 16, .inl (cinit sr no n))), (h, .inr (2, [.ref q0, .ref q1, .ref q2, .int tc, .int x_1, .ref q3, .ref q4, .ref q5])), (q4, .inl (cI, 16, .inl (cqr (cqr (cqr (cqr (cqr (iter (fun _ g => crnd g) i (va_cpy (cinit sr no n) sa 0 0 16)) 0 4 8 12) 1 5 9 13) 2 6 10 14) 3 7 11 15) 0 5 10 15)))] H := hP
      have hD : va_D A [(q0, .inl (cI, 3, .inl no)), (q1, .inl (cI, 16, .inl bl)), (q3, .inl (cI, 16, .inl (cinit sr no n))), (h, .inr (2, [.ref q0, .ref q1, .ref q2, .int tc, .int x_1, .ref q3, .ref q4, .ref q5])), (q4, .inl (cI, 16, .inl (cqr (cqr (cqr (cqr (cqr (iter (fun _ g => crnd g) i (va_cpy (cinit sr no n) sa 0 0 16)) 0 4 8 12) 1 5 9 13) 2 6 10 14) 3 7 11 15) 0 5 10 15)))] := hD
      refine lv_iinc (v := nI 1) (lv' := [(3, .int (nI 1)), (2, .int (nI i)), (0, .ref h), (1, .int n)]) hx hb d_H_turnBlock_136 hl (k := 0) rfl (sb_inc (a := 0) (b := 1) (d := 1) rfl (by decide) (by omega)) (by decide) rfl (fun ls hl => ?_)
      refine lv_goto (tgt := 103) hx hb d_H_turnBlock_139 (by decide) ?_
      refine lv_iload_n hx hb d_H_turnBlock_103 rfl (lv_at hl 0 rfl) ?_
      refine lv_iconst (v := 4) hx hb d_H_turnBlock_104 (by decide) ?_
      refine lv_icmp_ge (tgt := 142) hx hb d_H_turnBlock_105 (by decide) (fun c_31 => absurd c_31 (sb_geF (a := 1) (b := 4) rfl rfl (by omega) (by omega) (by omega))) (fun c_31 => ?_)
      refine lv_aload_n hx hb d_H_turnBlock_108 rfl (lv_at hl 2 rfl) ?_
      refine lv_iload_n hx hb d_H_turnBlock_109 rfl (lv_at hl 0 rfl) ?_
      refine lv_iconst (v := 4) hx hb d_H_turnBlock_110 (by decide) ?_
      refine lv_iload_n hx hb d_H_turnBlock_111 rfl (lv_at hl 0 rfl) ?_
      refine lv_iconst (v := 1) hx hb d_H_turnBlock_112 (by decide) ?_
      refine lv_iadd hx hb d_H_turnBlock_113 ?_
      refine sb_topn 2 (sb_eqn (a := 1 + 1) (b := 2) (nI_add 1 1) (by omega)) ?_
      refine lv_iconst (v := 3) hx hb d_H_turnBlock_114 (by decide) ?_
      refine lv_iand hx hb d_H_turnBlock_115 ?_
      refine sb_topn 2 (by decide) ?_
      refine lv_iadd hx hb d_H_turnBlock_116 ?_
      refine sb_topn 6 (sb_eqn (a := 4 + 2) (b := 6) (nI_add 4 2) (by omega)) ?_
      refine lv_bipush (v := 8) hx hb d_H_turnBlock_117 (by decide) ?_
      refine lv_iload_n hx hb d_H_turnBlock_119 rfl (lv_at hl 0 rfl) ?_
      refine lv_iconst (v := 2) hx hb d_H_turnBlock_120 (by decide) ?_
      refine lv_iadd hx hb d_H_turnBlock_121 ?_
      refine sb_topn 3 (sb_eqn (a := 1 + 2) (b := 3) (nI_add 1 2) (by omega)) ?_
      refine lv_iconst (v := 3) hx hb d_H_turnBlock_122 (by decide) ?_
      refine lv_iand hx hb d_H_turnBlock_123 ?_
      refine sb_topn 3 (by decide) ?_
      refine lv_iadd hx hb d_H_turnBlock_124 ?_
      refine sb_topn 11 (sb_eqn (a := 8 + 3) (b := 11) (nI_add 8 3) (by omega)) ?_
      refine lv_bipush (v := 12) hx hb d_H_turnBlock_125 (by decide) ?_
      refine lv_iload_n hx hb d_H_turnBlock_127 rfl (lv_at hl 0 rfl) ?_
      refine lv_iconst (v := 3) hx hb d_H_turnBlock_128 (by decide) ?_
      refine lv_iadd hx hb d_H_turnBlock_129 ?_
      refine sb_topn 4 (sb_eqn (a := 1 + 3) (b := 4) (nI_add 1 3) (by omega)) ?_
      refine lv_iconst (v := 3) hx hb d_H_turnBlock_130 (by decide) ?_
      refine lv_iand hx hb d_H_turnBlock_131 ?_
      refine sb_topn 0 (by decide) ?_
      refine lv_iadd hx hb d_H_turnBlock_132 ?_
      refine sb_topn 12 (sb_eqn (a := 12 + 0) (b := 12) (nI_add 12 0) (by omega)) ?_
      refine sb_callv (wr := [(q0, .inl (cI, 3, .inl no)), (q1, .inl (cI, 16, .inl bl)), (q3, .inl (cI, 16, .inl (cinit sr no n)))]) (va_runV (As := [.int (nI 1), .int (nI 6), .int (nI 11), .int (nI 12)]) (rest := []) ⟨hx, hb, hml, hown, hts⟩ (c_H_quarterRound l D cI cL cB tS tF h q0 q1 q2 q3 q4 q5 tc x_1 (cqr (cqr (cqr (cqr (cqr (iter (fun _ g => crnd g) i (va_cpy (cinit sr no n) sa 0 0 16)) 0 4 8 12) 1 5 9 13) 2 6 10 14) 3 7 11 15) 0 5 10 15) 1 6 11 12 _ (by omega) (by omega) (by omega) (by omega)) (cwV 4 hts (sb_gV k_515 k_517 k_1 k_28 k_518) rfl rfl rfl (by decide +kernel) ⟨Nat.le_of_ble_eq_true rfl, Nat.le_of_ble_eq_true rfl⟩) (sb_pV hG hP hD hS hA [3, 4] (by decide) rfl (ci := 2) (q0 := 3) rfl rfl) rfl rfl hl.1 rfl (lv_room (Nat.le_of_ble_eq_true rfl)) d_H_turnBlock_133 ⟨Nat.le_of_ble_eq_true rfl, Nat.le_of_ble_eq_true rfl⟩) hP hD hS hA [3, 4] [0, 1, 2] rfl rfl (by decide) (by decide) (fun u H locs hw_32 hP hD hS => ?_)
      have hP : va_P D vwCl [(q0, .inl (cI, 3, .inl no)), (q1, .inl (cI, 16, .inl bl)), (q3, .inl (cI, 16, .inl (cinit sr no n))), (h, .inr (2, [.ref q0, .ref q1, .ref q2, .int tc, .int x_1, .ref q3, .ref q4, .ref q5])), (q4, .inl (cI, 16, .inl (cqr (cqr (cqr (cqr (cqr (cqr (iter (fun _ g => crnd g) i (va_cpy (cinit sr no n) sa 0 0 16)) 0 4 8 12) 1 5 9 13) 2 6 10 14) 3 7 11 15) 0 5 10 15) 1 6 11 12)))] H := hP
      have hD : va_D A [(q0, .inl (cI, 3, .inl no)), (q1, .inl (cI, 16, .inl bl)), (q3, .inl (cI, 16, .inl (cinit sr no n))), (h, .inr (2, [.ref q0, .ref q1, .ref q2, .int tc, .int x_1, .ref q3, .ref q4, .ref q5])), (q4, .inl (cI, 16, .inl (cqr (cqr (cqr (cqr (cqr (cqr (iter (fun _ g => crnd g) i (va_cpy (cinit sr no n) sa 0 0 16)) 0 4 8 12) 1 5 9 13) 2 6 10 14) 3 7 11 15) 0 5 10 15) 1 6 11 12)))] := hD
      refine lv_iinc (v := nI 2) (lv' := [(3, .int (nI 2)), (2, .int (nI i)), (0, .ref h), (1, .int n)]) hx hb d_H_turnBlock_136 hl (k := 0) rfl (sb_inc (a := 1) (b := 2) (d := 1) rfl (by decide) (by omega)) (by decide) rfl (fun ls hl => ?_)
      refine lv_goto (tgt := 103) hx hb d_H_turnBlock_139 (by decide) ?_
      refine lv_iload_n hx hb d_H_turnBlock_103 rfl (lv_at hl 0 rfl) ?_
      refine lv_iconst (v := 4) hx hb d_H_turnBlock_104 (by decide) ?_
      refine lv_icmp_ge (tgt := 142) hx hb d_H_turnBlock_105 (by decide) (fun c_33 => absurd c_33 (sb_geF (a := 2) (b := 4) rfl rfl (by omega) (by omega) (by omega))) (fun c_33 => ?_)
      refine lv_aload_n hx hb d_H_turnBlock_108 rfl (lv_at hl 2 rfl) ?_
      refine lv_iload_n hx hb d_H_turnBlock_109 rfl (lv_at hl 0 rfl) ?_
      refine lv_iconst (v := 4) hx hb d_H_turnBlock_110 (by decide) ?_
      refine lv_iload_n hx hb d_H_turnBlock_111 rfl (lv_at hl 0 rfl) ?_
      refine lv_iconst (v := 1) hx hb d_H_turnBlock_112 (by decide) ?_
      refine lv_iadd hx hb d_H_turnBlock_113 ?_
      refine sb_topn 3 (sb_eqn (a := 2 + 1) (b := 3) (nI_add 2 1) (by omega)) ?_
      refine lv_iconst (v := 3) hx hb d_H_turnBlock_114 (by decide) ?_
      refine lv_iand hx hb d_H_turnBlock_115 ?_
      refine sb_topn 3 (by decide) ?_
      refine lv_iadd hx hb d_H_turnBlock_116 ?_
      refine sb_topn 7 (sb_eqn (a := 4 + 3) (b := 7) (nI_add 4 3) (by omega)) ?_
      refine lv_bipush (v := 8) hx hb d_H_turnBlock_117 (by decide) ?_
      refine lv_iload_n hx hb d_H_turnBlock_119 rfl (lv_at hl 0 rfl) ?_
      refine lv_iconst (v := 2) hx hb d_H_turnBlock_120 (by decide) ?_
      refine lv_iadd hx hb d_H_turnBlock_121 ?_
      refine sb_topn 4 (sb_eqn (a := 2 + 2) (b := 4) (nI_add 2 2) (by omega)) ?_
      refine lv_iconst (v := 3) hx hb d_H_turnBlock_122 (by decide) ?_
      refine lv_iand hx hb d_H_turnBlock_123 ?_
      refine sb_topn 0 (by decide) ?_
      refine lv_iadd hx hb d_H_turnBlock_124 ?_
      refine sb_topn 8 (sb_eqn (a := 8 + 0) (b := 8) (nI_add 8 0) (by omega)) ?_
      refine lv_bipush (v := 12) hx hb d_H_turnBlock_125 (by decide) ?_
      refine lv_iload_n hx hb d_H_turnBlock_127 rfl (lv_at hl 0 rfl) ?_
      refine lv_iconst (v := 3) hx hb d_H_turnBlock_128 (by decide) ?_
      refine lv_iadd hx hb d_H_turnBlock_129 ?_
      refine sb_topn 5 (sb_eqn (a := 2 + 3) (b := 5) (nI_add 2 3) (by omega)) ?_
      refine lv_iconst (v := 3) hx hb d_H_turnBlock_130 (by decide) ?_
      refine lv_iand hx hb d_H_turnBlock_131 ?_
      refine sb_topn 1 (by decide) ?_
      refine lv_iadd hx hb d_H_turnBlock_132 ?_
      refine sb_topn 13 (sb_eqn (a := 12 + 1) (b := 13) (nI_add 12 1) (by omega)) ?_
      refine sb_callv (wr := [(q0, .inl (cI, 3, .inl no)), (q1, .inl (cI, 16, .inl bl)), (q3, .inl (cI, 16, .inl (cinit sr no n)))]) (va_runV (As := [.int (nI 2), .int (nI 7), .int (nI 8), .int (nI 13)]) (rest := []) ⟨hx, hb, hml, hown, hts⟩ (c_H_quarterRound l D cI cL cB tS tF h q0 q1 q2 q3 q4 q5 tc x_1 (cqr (cqr (cqr (cqr (cqr (cqr (iter (fun _ g => crnd g) i (va_cpy (cinit sr no n) sa 0 0 16)) 0 4 8 12) 1 5 9 13) 2 6 10 14) 3 7 11 15) 0 5 10 15) 1 6 11 12) 2 7 8 13 _ (by omega) (by omega) (by omega) (by omega)) (cwV 4 hts (sb_gV k_515 k_517 k_1 k_28 k_518) rfl rfl rfl (by decide +kernel) ⟨Nat.le_of_ble_eq_true rfl, Nat.le_of_ble_eq_true rfl⟩) (sb_pV hG hP hD hS hA [3, 4] (by decide) rfl (ci := 2) (q0 := 3) rfl rfl) rfl rfl hl.1 rfl (lv_room (Nat.le_of_ble_eq_true rfl)) d_H_turnBlock_133 ⟨Nat.le_of_ble_eq_true rfl, Nat.le_of_ble_eq_true rfl⟩) hP hD hS hA [3, 4] [0, 1, 2] rfl rfl (by decide) (by decide) (fun u H locs hw_34 hP hD hS => ?_)
      have hP : va_P D vwCl [(q0, .inl (cI, 3, .inl no)), (q1, .inl (cI, 16, .inl bl)), (q3, .inl (cI, 16, .inl (cinit sr no n))), (h, .inr (2, [.ref q0, .ref q1, .ref q2, .int tc, .int x_1, .ref q3, .ref q4, .ref q5])), (q4, .inl (cI, 16, .inl (cqr (cqr (cqr (cqr (cqr (cqr (cqr (iter (fun _ g => crnd g) i (va_cpy (cinit sr no n) sa 0 0 16)) 0 4 8 12) 1 5 9 13) 2 6 10 14) 3 7 11 15) 0 5 10 15) 1 6 11 12) 2 7 8 13)))] H := hP
      have hD : va_D A [(q0, .inl (cI, 3, .inl no)), (q1, .inl (cI, 16, .inl bl)), (q3, .inl (cI, 16, .inl (cinit sr no n))), (h, .inr (2, [.ref q0, .ref q1, .ref q2, .int tc, .int x_1, .ref q3, .ref q4, .ref q5])), (q4, .inl (cI, 16, .inl (cqr (cqr (cqr (cqr (cqr (cqr (cqr (iter (fun _ g => crnd g) i (va_cpy (cinit sr no n) sa 0 0 16)) 0 4 8 12) 1 5 9 13) 2 6 10 14) 3 7 11 15) 0 5 10 15) 1 6 11 12) 2 7 8 13)))] := hD
      refine lv_iinc (v := nI 3) (lv' := [(3, .int (nI 3)), (2, .int (nI i)), (0, .ref h), (1, .int n)]) hx hb d_H_turnBlock_136 hl (k := 0) rfl (sb_inc (a := 2) (b := 3) (d := 1) rfl (by decide) (by omega)) (by decide) rfl (fun ls hl => ?_)
      refine lv_goto (tgt := 103) hx hb d_H_turnBlock_139 (by decide) ?_
      refine lv_iload_n hx hb d_H_turnBlock_103 rfl (lv_at hl 0 rfl) ?_
      refine lv_iconst (v := 4) hx hb d_H_turnBlock_104 (by decide) ?_
      refine lv_icmp_ge (tgt := 142) hx hb d_H_turnBlock_105 (by decide) (fun c_35 => absurd c_35 (sb_geF (a := 3) (b := 4) rfl rfl (by omega) (by omega) (by omega))) (fun c_35 => ?_)
      refine lv_aload_n hx hb d_H_turnBlock_108 rfl (lv_at hl 2 rfl) ?_
      refine lv_iload_n hx hb d_H_turnBlock_109 rfl (lv_at hl 0 rfl) ?_
      refine lv_iconst (v := 4) hx hb d_H_turnBlock_110 (by decide) ?_
      refine lv_iload_n hx hb d_H_turnBlock_111 rfl (lv_at hl 0 rfl) ?_
      refine lv_iconst (v := 1) hx hb d_H_turnBlock_112 (by decide) ?_
      refine lv_iadd hx hb d_H_turnBlock_113 ?_
      refine sb_topn 4 (sb_eqn (a := 3 + 1) (b := 4) (nI_add 3 1) (by omega)) ?_
      refine lv_iconst (v := 3) hx hb d_H_turnBlock_114 (by decide) ?_
      refine lv_iand hx hb d_H_turnBlock_115 ?_
      refine sb_topn 0 (by decide) ?_
      refine lv_iadd hx hb d_H_turnBlock_116 ?_
      refine sb_topn 4 (sb_eqn (a := 4 + 0) (b := 4) (nI_add 4 0) (by omega)) ?_
      refine lv_bipush (v := 8) hx hb d_H_turnBlock_117 (by decide) ?_
      refine lv_iload_n hx hb d_H_turnBlock_119 rfl (lv_at hl 0 rfl) ?_
      refine lv_iconst (v := 2) hx hb d_H_turnBlock_120 (by decide) ?_
      refine lv_iadd hx hb d_H_turnBlock_121 ?_
      refine sb_topn 5 (sb_eqn (a := 3 + 2) (b := 5) (nI_add 3 2) (by omega)) ?_
      refine lv_iconst (v := 3) hx hb d_H_turnBlock_122 (by decide) ?_
      refine lv_iand hx hb d_H_turnBlock_123 ?_
      refine sb_topn 1 (by decide) ?_
      refine lv_iadd hx hb d_H_turnBlock_124 ?_
      refine sb_topn 9 (sb_eqn (a := 8 + 1) (b := 9) (nI_add 8 1) (by omega)) ?_
      refine lv_bipush (v := 12) hx hb d_H_turnBlock_125 (by decide) ?_
      refine lv_iload_n hx hb d_H_turnBlock_127 rfl (lv_at hl 0 rfl) ?_
      refine lv_iconst (v := 3) hx hb d_H_turnBlock_128 (by decide) ?_
      refine lv_iadd hx hb d_H_turnBlock_129 ?_
      refine sb_topn 6 (sb_eqn (a := 3 + 3) (b := 6) (nI_add 3 3) (by omega)) ?_
      refine lv_iconst (v := 3) hx hb d_H_turnBlock_130 (by decide) ?_
      refine lv_iand hx hb d_H_turnBlock_131 ?_
      refine sb_topn 2 (by decide) ?_
      refine lv_iadd hx hb d_H_turnBlock_132 ?_
      refine sb_topn 14 (sb_eqn (a := 12 + 2) (b := 14) (nI_add 12 2) (by omega)) ?_
      refine sb_callv (wr := [(q0, .inl (cI, 3, .inl no)), (q1, .inl (cI, 16, .inl bl)), (q3, .inl (cI, 16, .inl (cinit sr no n)))]) (va_runV (As := [.int (nI 3), .int (nI 4), .int (nI 9), .int (nI 14)]) (rest := []) ⟨hx, hb, hml, hown, hts⟩ (c_H_quarterRound l D cI cL cB tS tF h q0 q1 q2 q3 q4 q5 tc x_1 (cqr (cqr (cqr (cqr (cqr (cqr (cqr (iter (fun _ g => crnd g) i (va_cpy (cinit sr no n) sa 0 0 16)) 0 4 8 12) 1 5 9 13) 2 6 10 14) 3 7 11 15) 0 5 10 15) 1 6 11 12) 2 7 8 13) 3 4 9 14 _ (by omega) (by omega) (by omega) (by omega)) (cwV 4 hts (sb_gV k_515 k_517 k_1 k_28 k_518) rfl rfl rfl (by decide +kernel) ⟨Nat.le_of_ble_eq_true rfl, Nat.le_of_ble_eq_true rfl⟩) (sb_pV hG hP hD hS hA [3, 4] (by decide) rfl (ci := 2) (q0 := 3) rfl rfl) rfl rfl hl.1 rfl (lv_room (Nat.le_of_ble_eq_true rfl)) d_H_turnBlock_133 ⟨Nat.le_of_ble_eq_true rfl, Nat.le_of_ble_eq_true rfl⟩) hP hD hS hA [3, 4] [0, 1, 2] rfl rfl (by decide) (by decide) (fun u H locs hw_36 hP hD hS => ?_)
      have hP : va_P D vwCl [(q0, .inl (cI, 3, .inl no)), (q1, .inl (cI, 16, .inl bl)), (q3, .inl (cI, 16, .inl (cinit sr no n))), (h, .inr (2, [.ref q0, .ref q1, .ref q2, .int tc, .int x_1, .ref q3, .ref q4, .ref q5])), (q4, .inl (cI, 16, .inl (cqr (cqr (cqr (cqr (cqr (cqr (cqr (cqr (iter (fun _ g => crnd g) i (va_cpy (cinit sr no n) sa 0 0 16)) 0 4 8 12) 1 5 9 13) 2 6 10 14) 3 7 11 15) 0 5 10 15) 1 6 11 12) 2 7 8 13) 3 4 9 14)))] H := hP
      have hD : va_D A [(q0, .inl (cI, 3, .inl no)), (q1, .inl (cI, 16, .inl bl)), (q3, .inl (cI, 16, .inl (cinit sr no n))), (h, .inr (2, [.ref q0, .ref q1, .ref q2, .int tc, .int x_1, .ref q3, .ref q4, .ref q5])), (q4, .inl (cI, 16, .inl (cqr (cqr (cqr (cqr (cqr (cqr (cqr (cqr (iter (fun _ g => crnd g) i (va_cpy (cinit sr no n) sa 0 0 16)) 0 4 8 12) 1 5 9 13) 2 6 10 14) 3 7 11 15) 0 5 10 15) 1 6 11 12) 2 7 8 13) 3 4 9 14)))] := hD
      refine lv_iinc (v := nI 4) (lv' := [(3, .int (nI 4)), (2, .int (nI i)), (0, .ref h), (1, .int n)]) hx hb d_H_turnBlock_136 hl (k := 0) rfl (sb_inc (a := 3) (b := 4) (d := 1) rfl (by decide) (by omega)) (by decide) rfl (fun ls hl => ?_)
      refine lv_goto (tgt := 103) hx hb d_H_turnBlock_139 (by decide) ?_
      refine lv_iload_n hx hb d_H_turnBlock_103 rfl (lv_at hl 0 rfl) ?_
      refine lv_iconst (v := 4) hx hb d_H_turnBlock_104 (by decide) ?_
      refine lv_icmp_ge (tgt := 142) hx hb d_H_turnBlock_105 (by decide) (fun c_37 => ?_) (fun c_37 => absurd (sb_geT (a := 4) (b := 4) rfl rfl (by omega) (by omega) (by omega)) c_37)
      refine lv_iinc (v := nI (i + 1)) (lv' := [(2, .int (nI (i + 1))), (3, .int (nI 4)), (0, .ref h), (1, .int n)]) hx hb d_H_turnBlock_142 hl (k := 1) rfl (sb_inc (a := i) (b := i + 1) (d := 1) rfl (by decide) (by omega)) (by decide) rfl (fun ls hl => ?_)
      refine lv_goto (tgt := 66) hx hb d_H_turnBlock_145 (by decide) ?_
      rw [show cqr (cqr (cqr (cqr (cqr (cqr (cqr (cqr (iter (fun _ g => crnd g) i (va_cpy (cinit sr no n) sa 0 0 16)) 0 4 8 12) 1 5 9 13) 2 6 10 14) 3 7 11 15) 0 5 10 15) 1 6 11 12) 2 7 8 13) 3 4 9 14 = iter (fun _ g => crnd g) (i + 1) (va_cpy (cinit sr no n) sa 0 0 16) from (by subst_vars; rfl)] at hP hD
      exact ih1 (i + 1) (by omega) _ _ ls (hP.sub [3, 0, 1, 2, 4] rfl) (hD.sub [3, 0, 1, 2, 4] (by decide) rfl) hS (lv_sub hl [0, 2, 3] rfl)
  exact lp1 10 0 (by omega) _ _ ls (hP.sub [0, 1, 2, 3, 4] rfl) (hD.sub [0, 1, 2, 3, 4] (by decide) rfl) hS (lv_sub hl [0, 1, 2] rfl)

theorem d_H_takeKey_0 : decode b_H_takeKey 0 = .ok (.iconst 0, 1) := by decide +kernel
theorem d_H_takeKey_1 : decode b_H_takeKey 1 = .ok (.istore_n 2, 1) := by decide +kernel
theorem d_H_takeKey_2 : decode b_H_takeKey 2 = .ok (.iload_n 2, 1) := by decide +kernel
theorem d_H_takeKey_3 : decode b_H_takeKey 3 = .ok (.bipush 8, 2) := by decide +kernel
theorem d_H_takeKey_5 : decode b_H_takeKey 5 = .ok (.if_icmp .ge 31, 3) := by decide +kernel
theorem d_H_takeKey_8 : decode b_H_takeKey 8 = .ok (.aload_n 0, 1) := by decide +kernel
theorem d_H_takeKey_9 : decode b_H_takeKey 9 = .ok (.getfield 11, 3) := by decide +kernel
theorem d_H_takeKey_12 : decode b_H_takeKey 12 = .ok (.iconst 4, 1) := by decide +kernel
theorem d_H_takeKey_13 : decode b_H_takeKey 13 = .ok (.iload_n 2, 1) := by decide +kernel
theorem d_H_takeKey_14 : decode b_H_takeKey 14 = .ok (.iadd, 1) := by decide +kernel
theorem d_H_takeKey_15 : decode b_H_takeKey 15 = .ok (.aload_n 1, 1) := by decide +kernel
theorem d_H_takeKey_16 : decode b_H_takeKey 16 = .ok (.iconst 4, 1) := by decide +kernel
theorem d_H_takeKey_17 : decode b_H_takeKey 17 = .ok (.iload_n 2, 1) := by decide +kernel
theorem d_H_takeKey_18 : decode b_H_takeKey 18 = .ok (.imul, 1) := by decide +kernel
theorem d_H_takeKey_19 : decode b_H_takeKey 19 = .ok (.aload_n 1, 1) := by decide +kernel
theorem d_H_takeKey_20 : decode b_H_takeKey 20 = .ok (.getfield 29, 3) := by decide +kernel
theorem d_H_takeKey_23 : decode b_H_takeKey 23 = .ok (.invokevirtual 35, 3) := by decide +kernel
theorem d_H_takeKey_26 : decode b_H_takeKey 26 = .ok (.invokestatic 39, 3) := by decide +kernel
theorem d_H_takeKey_29 : decode b_H_takeKey 29 = .ok (.iastore, 1) := by decide +kernel
theorem d_H_takeKey_30 : decode b_H_takeKey 30 = .ok (.iinc 2 1, 3) := by decide +kernel
theorem d_H_takeKey_33 : decode b_H_takeKey 33 = .ok (.goto (-31), 3) := by decide +kernel
theorem d_H_takeKey_36 : decode b_H_takeKey 36 = .ok (.return_, 1) := by decide +kernel

def rm_H_takeKey : Room := { frames := 2, cells := 0, slots := 0, locals := 45 }
set_option maxHeartbeats 4000000 in
set_option maxRecDepth 100000 in
theorem c_H_takeKey (l : Launch) (D : va_G) (cI cL cB : ClassId) (tS tF : Nat) (h : Nat) (q0 : Nat) (q1 : Nat) (q2 : Nat) (q3 : Nat) (q4 : Nat) (q5 : Nat) (tc : Int32) (tu : Int32) (sr : Nat → Int32) (hr0 : Nat) (bb : Nat) (n : Nat) (f : Nat → Int32) (sz : Nat) (hln : 32 ≤ n) (hn : n < 2 ^ 31) : Met l y_H_takeKey (sbw y_H_takeKey b_H_takeKey 3 none) rm_H_takeKey (sbPc D cI cL cB tS tF [.ref h, .ref hr0] sz [(h, .inr (2, [.ref q0, .ref q1, .ref q2, .int tc, .int tu, .ref q3, .ref q4, .ref q5])), (q3, .inl (cI, 16, .inl sr)), (hr0, .inr (5, [.ref bb, .int (nI 32)])), (bb, .inl (cB, n, .inl f))]) (sbQv D (fun (_ : Unit) => True) (fun (_ : Unit) => [(h, .inr (2, [.ref q0, .ref q1, .ref q2, .int tc, .int tu, .ref q3, .ref q4, .ref q5])), (q3, .inl (cI, 16, .inl (iter (ckey f 32) 8 sr))), (hr0, .inr (5, [.ref bb, .int (nI 32)])), (bb, .inl (cB, n, .inl f))]) (va_A [(h, .inr (2, [.ref q0, .ref q1, .ref q2, .int tc, .int tu, .ref q3, .ref q4, .ref q5])), (q3, .inl (cI, 16, .inl sr)), (hr0, .inr (5, [.ref bb, .int (nI 32)])), (bb, .inl (cB, n, .inl f))] sz)) 0 0 (va_A [(h, .inr (2, [.ref q0, .ref q1, .ref q2, .int tc, .int tu, .ref q3, .ref q4, .ref q5])), (q3, .inl (cI, 16, .inl sr)), (hr0, .inr (5, [.ref bb, .int (nI 32)])), (bb, .inl (cB, n, .inl f))] sz) := by
  refine sb_ofW (Qc := fun A => (sbQv D (fun (_ : Unit) => True) (fun (_ : Unit) => [(h, .inr (2, [.ref q0, .ref q1, .ref q2, .int tc, .int tu, .ref q3, .ref q4, .ref q5])), (q3, .inl (cI, 16, .inl (iter (ckey f 32) 8 sr))), (hr0, .inr (5, [.ref bb, .int (nI 32)])), (bb, .inl (cB, n, .inl f))]) A)) (by decide) (Nat.le_of_ble_eq_true rfl) ?_
  intro p e s m args below meth c A ls hx hb hr hml hts hown hlocks hin hsz hP hG hD hA hS hl
  have hl : lv_has ls 3 [(0, .ref h), (1, .ref hr0)] := hl
  refine lv_iconst (v := 0) hx hb d_H_takeKey_0 (by decide) ?_
  refine lv_istore_n (lv' := [(2, .int 0), (0, .ref h), (1, .ref hr0)]) hx hb d_H_takeKey_1 rfl hl (by decide) rfl (fun ls hl => ?_)
  have lp1 : ∀ (d1 i : Nat), i + d1 = 8 → ∀ (H : Heap) (locs : List Loc) (ls : Array Slot), va_P D vwCl [(h, .inr (2, [.ref q0, .ref q1, .ref q2, .int tc, .int tu, .ref q3, .ref q4, .ref q5])), (q3, .inl (cI, 16, .inl (iter (ckey f 32) i sr))), (hr0, .inr (5, [.ref bb, .int (nI 32)])), (bb, .inl (cB, n, .inl f))] H → va_D A [(h, .inr (2, [.ref q0, .ref q1, .ref q2, .int tc, .int tu, .ref q3, .ref q4, .ref q5])), (q3, .inl (cI, 16, .inl (iter (ckey f 32) i sr))), (hr0, .inr (5, [.ref bb, .int (nI 32)])), (bb, .inl (cB, n, .inl f))] → va_S A s.heap H locs → lv_has ls 3 [(2, .int (nI i)), (0, .ref h), (1, .ref hr0)] → W p l e rm_H_takeKey s m args below meth c H locs 0 0 (MQ below (sbQv D (fun (_ : Unit) => True) (fun (_ : Unit) => [(h, .inr (2, [.ref q0, .ref q1, .ref q2, .int tc, .int tu, .ref q3, .ref q4, .ref q5])), (q3, .inl (cI, 16, .inl (iter (ckey f 32) 8 sr))), (hr0, .inr (5, [.ref bb, .int (nI 32)])), (bb, .inl (cB, n, .inl f))]) A) args s 0 0 A) (F0 m 2 ls []) := by
    intro d1
    induction d1 with
    | zero =>
      intro i hi1 H locs ls hP hD hS hl
      obtain rfl : 8 = i := by omega
      refine lv_iload_n hx hb d_H_takeKey_2 rfl (lv_at hl 0 rfl) ?_
      refine lv_bipush (v := 8) hx hb d_H_takeKey_3 (by decide) ?_
      refine lv_icmp_ge (tgt := 36) hx hb d_H_takeKey_5 (by decide) (fun c_1 => ?_) (fun c_1 => absurd (sb_geT (a := 8) (b := 8) rfl rfl (by omega) (by omega) (by omega)) c_1)
      have hP9 := hP.sub (ws' := [(h, .inr (2, [.ref q0, .ref q1, .ref q2, .int tc, .int tu, .ref q3, .ref q4, .ref q5])), (q3, .inl (cI, 16, .inl (iter (ckey f 32) 8 sr))), (hr0, .inr (5, [.ref bb, .int (nI 32)])), (bb, .inl (cB, n, .inl f))]) [0, 1, 2, 3] rfl
      have hD9 := hD.sub (ws' := [(h, .inr (2, [.ref q0, .ref q1, .ref q2, .int tc, .int tu, .ref q3, .ref q4, .ref q5])), (q3, .inl (cI, 16, .inl (iter (ckey f 32) 8 sr))), (hr0, .inr (5, [.ref bb, .int (nI 32)])), (bb, .inl (cB, n, .inl f))]) [0, 1, 2, 3] (by decide) rfl
      exact W.vret hx hb hr (fun t ht hW => ⟨⟨(), rfl, trivial, by rw [ht]; exact hP9, hD9⟩, hS.F ht⟩) hS.2.2 d_H_takeKey_36
    | succ d1 ih1 =>
      intro i hi1 H locs ls hP hD hS hl
      refine lv_iload_n hx hb d_H_takeKey_2 rfl (lv_at hl 0 rfl) ?_
      refine lv_bipush (v := 8) hx hb d_H_takeKey_3 (by decide) ?_
      refine lv_icmp_ge (tgt := 36) hx hb d_H_takeKey_5 (by decide) (fun c_2 => absurd c_2 (sb_geF (a := i) (b := 8) rfl rfl (by omega) (by omega) (by omega))) (fun c_2 => ?_)
      refine lv_aload_n hx hb d_H_takeKey_8 rfl (lv_at hl 1 rfl) ?_
      refine va_get (D := D) (ci := 2) (v := .ref q3) (C := R_H) (T := F_H) (N := 8) hx hb hts in_H hown hG.1 hP 0 rfl rfl 5 (by decide) (hts _ k_188) (fun _ h9 => h9) rfl d_H_takeKey_9 ?_
      refine lv_iconst (v := 4) hx hb d_H_takeKey_12 (by decide) ?_
      refine lv_iload_n hx hb d_H_takeKey_13 rfl (lv_at hl 0 rfl) ?_
      refine lv_iadd hx hb d_H_takeKey_14 ?_
      refine sb_topn (4 + i) (nI_add 4 i) ?_
      refine lv_aload_n hx hb d_H_takeKey_15 rfl (lv_at hl 2 rfl) ?_
      refine lv_iconst (v := 4) hx hb d_H_takeKey_16 (by decide) ?_
      refine lv_iload_n hx hb d_H_takeKey_17 rfl (lv_at hl 0 rfl) ?_
      refine lv_imul hx hb d_H_takeKey_18 ?_
      refine sb_topn (4 * i) (sb_mul (a := 4) (b := i) rfl rfl) ?_
      refine lv_aload_n hx hb d_H_takeKey_19 rfl (lv_at hl 2 rfl) ?_
      refine va_getN (D := D) (ci := 5) (v := .int (nI 32)) (C := R_R) (T := F_R) (N := 2) hx hb hts in_R hown hG.1 hP 2 rfl rfl 1 (by decide) (hG.nest _ n_60) (fun _ h9 => h9) rfl d_H_takeKey_20 ?_
      refine vp_callSi (va_runV (As := [.int (nI (4 * i)), .int (nI 32)]) (rest := [.int (nI (4 + i)), .ref q3]) ⟨hx, hb, hml, hown, hts⟩ (c_R_word l D cI cL cB tS tF hr0 bb 32 n f (4 * i) 32 (by omega) (by omega) (by omega) (by omega)) (cwV 2 hts (sb_gV k_424 k_425 k_426 k_23 k_427) rfl rfl rfl (by decide +kernel) ⟨Nat.le_of_ble_eq_true rfl, Nat.le_of_ble_eq_true rfl⟩) (sb_rV hG hP hS [2, 3] rfl (ci := 5) (q0 := 2) rfl rfl) rfl rfl hl.1 rfl (lv_room (Nat.le_of_ble_eq_true rfl)) d_H_takeKey_23 ⟨Nat.le_of_ble_eq_true rfl, Nat.le_of_ble_eq_true rfl⟩).run (fun r_3 er_3 => ?_)
      subst er_3
      refine vp_callSi (va_runSN (As := [.int (rword f 32 (4 * i) 32)]) (rest := [.int (nI (4 + i)), .ref q3]) ⟨hx, hb, hml, hown, hts⟩ (c_X_swapped l D cI cL cB tS tF (rword f 32 (4 * i) 32) ) ⟨va_cnB 1 hts (sb_g k_434) rfl rfl rfl (va_Nw.of rfl (hG.nest (args := args) _ n_432)) (hts _ k_22) (by decide +kernel) ⟨Nat.le_of_ble_eq_true rfl, Nat.le_of_ble_eq_true rfl⟩, hts _ k_433, trivial⟩ (sb_rS hG hP hS [] rfl) rfl rfl hl.1 rfl (lv_room (Nat.le_of_ble_eq_true rfl)) d_H_takeKey_26 ⟨Nat.le_of_ble_eq_true rfl, Nat.le_of_ble_eq_true rfl⟩).run (fun r_4 er_4 => ?_)
      subst er_4
      refine sb_ist hx hb hG.1 hP hD hS 1 rfl (4 + i) rfl (by omega) (by omega) d_H_takeKey_29 (fun f_5 H locs ef_5 hP hD hS => ?_)
      have hP : va_P D vwCl [(h, .inr (2, [.ref q0, .ref q1, .ref q2, .int tc, .int tu, .ref q3, .ref q4, .ref q5])), (q3, .inl (cI, 16, .inl f_5)), (hr0, .inr (5, [.ref bb, .int (nI 32)])), (bb, .inl (cB, n, .inl f))] H := hP
      have hD : va_D A [(h, .inr (2, [.ref q0, .ref q1, .ref q2, .int tc, .int tu, .ref q3, .ref q4, .ref q5])), (q3, .inl (cI, 16, .inl f_5)), (hr0, .inr (5, [.ref bb, .int (nI 32)])), (bb, .inl (cB, n, .inl f))] := hD
      refine lv_iinc (v := nI (i + 1)) (lv' := [(2, .int (nI (i + 1))), (0, .ref h), (1, .ref hr0)]) hx hb d_H_takeKey_30 hl (k := 0) rfl (sb_inc (a := i) (b := i + 1) (d := 1) rfl (by decide) (by omega)) (by decide) rfl (fun ls hl => ?_)
      refine lv_goto (tgt := 2) hx hb d_H_takeKey_33 (by decide) ?_
      obtain rfl : f_5 = iter (ckey f 32) (i + 1) sr := (by subst_vars; rfl)
      exact ih1 (i + 1) (by omega) _ _ ls (hP.sub [0, 1, 2, 3] rfl) (hD.sub [0, 1, 2, 3] (by decide) rfl) hS (lv_sub hl [0, 1, 2] rfl)
  exact lp1 8 0 (by omega) _ _ ls (hP.sub [0, 1, 2, 3] rfl) (hD.sub [0, 1, 2, 3] (by decide) rfl) hS (lv_sub hl [0, 1, 2] rfl)
