def subI (a b c d : Int32) : Int32 := (((sbS (b0n a) <<< ((24 : Int32) &&& 31)) ||| (sbS (b1n b) <<< ((16 : Int32) &&& 31))) ||| (sbS (b2n c) <<< ((8 : Int32) &&& 31))) ||| sbS (b3n d)
def arnd (rk : Nat → Int32) (i : Nat) (q : Int32 × Int32 × Int32 × Int32) : Int32 × Int32 × Int32 × Int32 :=
  (mixI (subI q.1 q.2.1 q.2.2.1 q.2.2.2) ^^^ rk (4 + 4 * i), mixI (subI q.2.1 q.2.2.1 q.2.2.2 q.1) ^^^ rk (4 + 4 * i + 1), mixI (subI q.2.2.1 q.2.2.2 q.1 q.2.1) ^^^ rk (4 + 4 * i + 2), mixI (subI q.2.2.2 q.1 q.2.1 q.2.2.1) ^^^ rk (4 + 4 * i + 3))
def alast (rk : Nat → Int32) (i : Nat) (q : Int32 × Int32 × Int32 × Int32) : Int32 × Int32 × Int32 × Int32 :=
  (subI q.1 q.2.1 q.2.2.1 q.2.2.2 ^^^ rk (4 + 4 * i), subI q.2.1 q.2.2.1 q.2.2.2 q.1 ^^^ rk (4 + 4 * i + 1), subI q.2.2.1 q.2.2.2 q.1 q.2.1 ^^^ rk (4 + 4 * i + 2), subI q.2.2.2 q.1 q.2.1 q.2.2.1 ^^^ rk (4 + 4 * i + 3))
def aesI (rk : Nat → Int32) (rnd : Nat) (a b c d : Int32) : Int32 × Int32 × Int32 × Int32 := alast rk (rnd - 1) (iter (arnd rk) (rnd - 1) (a ^^^ rk 0, b ^^^ rk 1, c ^^^ rk 2, d ^^^ rk 3))
def st4 (g : Nat → Int32) (q : Int32 × Int32 × Int32 × Int32) : Nat → Int32 := upd (upd (upd (upd g 0 q.1) 1 q.2.1) 2 q.2.2.1) 3 q.2.2.2
/-- the key's words, then the others -/
def ek1 (f : Nat → Int32) (len : Nat) (k : Nat) (rk : Nat → Int32) : Nat → Int32 := upd rk k (rword f len (4 * k) len)
def ek2 (kw : Nat) (i : Nat) (q : Int32 × (Nat → Int32)) : Int32 × (Nat → Int32) :=
  if (kw + i) % kw = 0 then (dblI q.1, upd q.2 (kw + i) (q.2 (kw + i - kw) ^^^ (subI (rotI (q.2 (kw + i - 1)) 8) (rotI (q.2 (kw + i - 1)) 8) (rotI (q.2 (kw + i - 1)) 8) (rotI (q.2 (kw + i - 1)) 8) ^^^ q.1)))
  else if (kw + i) % kw = 4 then (q.1, upd q.2 (kw + i) (q.2 (kw + i - kw) ^^^ subI (q.2 (kw + i - 1)) (q.2 (kw + i - 1)) (q.2 (kw + i - 1)) (q.2 (kw + i - 1))))
  else (q.1, upd q.2 (kw + i) (q.2 (kw + i - kw) ^^^ q.2 (kw + i - 1)))
def ekey (f : Nat → Int32) (len kw : Nat) (rk : Nat → Int32) : Nat → Int32 := (iter (ek2 kw) (3 * kw + 28) (16777216, iter (ek1 f len) kw rk)).2

theorem d_A_substituted_0 : decode b_A_substituted 0 = .ok (.getstatic 43, 3) := by decide +kernel
theorem d_A_substituted_3 : decode b_A_substituted 3 = .ok (.iload_n 0, 1) := by decide +kernel
theorem d_A_substituted_4 : decode b_A_substituted 4 = .ok (.bipush 24, 2) := by decide +kernel
theorem d_A_substituted_6 : decode b_A_substituted 6 = .ok (.iushr, 1) := by decide +kernel
theorem d_A_substituted_7 : decode b_A_substituted 7 = .ok (.iaload, 1) := by decide +kernel
theorem d_A_substituted_8 : decode b_A_substituted 8 = .ok (.bipush 24, 2) := by decide +kernel
theorem d_A_substituted_10 : decode b_A_substituted 10 = .ok (.ishl, 1) := by decide +kernel
theorem d_A_substituted_11 : decode b_A_substituted 11 = .ok (.getstatic 43, 3) := by decide +kernel
theorem d_A_substituted_14 : decode b_A_substituted 14 = .ok (.iload_n 1, 1) := by decide +kernel
theorem d_A_substituted_15 : decode b_A_substituted 15 = .ok (.bipush 16, 2) := by decide +kernel
theorem d_A_substituted_17 : decode b_A_substituted 17 = .ok (.iushr, 1) := by decide +kernel
theorem d_A_substituted_18 : decode b_A_substituted 18 = .ok (.sipush 255, 3) := by decide +kernel
theorem d_A_substituted_21 : decode b_A_substituted 21 = .ok (.iand, 1) := by decide +kernel
theorem d_A_substituted_22 : decode b_A_substituted 22 = .ok (.iaload, 1) := by decide +kernel
theorem d_A_substituted_23 : decode b_A_substituted 23 = .ok (.bipush 16, 2) := by decide +kernel
theorem d_A_substituted_25 : decode b_A_substituted 25 = .ok (.ishl, 1) := by decide +kernel
theorem d_A_substituted_26 : decode b_A_substituted 26 = .ok (.ior, 1) := by decide +kernel
theorem d_A_substituted_27 : decode b_A_substituted 27 = .ok (.getstatic 43, 3) := by decide +kernel
theorem d_A_substituted_30 : decode b_A_substituted 30 = .ok (.iload_n 2, 1) := by decide +kernel
theorem d_A_substituted_31 : decode b_A_substituted 31 = .ok (.bipush 8, 2) := by decide +kernel
theorem d_A_substituted_33 : decode b_A_substituted 33 = .ok (.iushr, 1) := by decide +kernel
theorem d_A_substituted_34 : decode b_A_substituted 34 = .ok (.sipush 255, 3) := by decide +kernel
theorem d_A_substituted_37 : decode b_A_substituted 37 = .ok (.iand, 1) := by decide +kernel
theorem d_A_substituted_38 : decode b_A_substituted 38 = .ok (.iaload, 1) := by decide +kernel
theorem d_A_substituted_39 : decode b_A_substituted 39 = .ok (.bipush 8, 2) := by decide +kernel
theorem d_A_substituted_41 : decode b_A_substituted 41 = .ok (.ishl, 1) := by decide +kernel
theorem d_A_substituted_42 : decode b_A_substituted 42 = .ok (.ior, 1) := by decide +kernel
theorem d_A_substituted_43 : decode b_A_substituted 43 = .ok (.getstatic 43, 3) := by decide +kernel
theorem d_A_substituted_46 : decode b_A_substituted 46 = .ok (.iload_n 3, 1) := by decide +kernel
theorem d_A_substituted_47 : decode b_A_substituted 47 = .ok (.sipush 255, 3) := by decide +kernel
theorem d_A_substituted_50 : decode b_A_substituted 50 = .ok (.iand, 1) := by decide +kernel
theorem d_A_substituted_51 : decode b_A_substituted 51 = .ok (.iaload, 1) := by decide +kernel
theorem d_A_substituted_52 : decode b_A_substituted 52 = .ok (.ior, 1) := by decide +kernel
theorem d_A_substituted_53 : decode b_A_substituted 53 = .ok (.ireturn, 1) := by decide +kernel

def rm_A_substituted : Room := { frames := 0, cells := 0, slots := 0, locals := 0 }
set_option maxHeartbeats 4000000 in
set_option maxRecDepth 100000 in
theorem c_A_substituted (l : Launch) (D : va_G) (cI cL cB : ClassId) (tS tF : Nat) (a : Int32) (b : Int32) (c0 : Int32) (d0 : Int32)  : Met l y_A_substituted (sbw y_A_substituted b_A_substituted 4 (some .int)) rm_A_substituted (sbPr D cI cL cB tS tF [.int a, .int b, .int c0, .int d0] []) (vp_Si (fun r => r = subI a b c0 d0)) 0 0 (fun _ => False) := by
  refine sb_ofR (by decide) (Nat.le_of_ble_eq_true rfl) ?_
  intro p e s m args below meth c ls hx hb hr hml hts hown hlocks hP hG hS hl
  have hl : lv_has ls 4 [(0, .int a), (1, .int b), (2, .int c0), (3, .int d0)] := hl
  refine va_getsN hx hb hG.2.2.1 hS hown (hG.nest _ n_452) (fun _ h9 => h9) d_A_substituted_0 ?_
  refine lv_iload_n hx hb d_A_substituted_3 rfl (lv_at hl 0 rfl) ?_
  refine lv_bipush (v := 24) hx hb d_A_substituted_4 (by decide) ?_
  refine lv_iushr (v := uS a 24) hx hb d_A_substituted_6 rfl ?_
  refine sb_tld hx hb hG.2.2.2.1 hS (b0n a) (ix0 a) (b0n_lt a) (by omega) d_A_substituted_7 ?_
  refine lv_bipush (v := 24) hx hb d_A_substituted_8 (by decide) ?_
  refine lv_ishl hx hb d_A_substituted_10 ?_
  refine va_getsN hx hb hG.2.2.1 hS hown (hG.nest _ n_452) (fun _ h9 => h9) d_A_substituted_11 ?_
  refine lv_iload_n hx hb d_A_substituted_14 rfl (lv_at hl 1 rfl) ?_
  refine lv_bipush (v := 16) hx hb d_A_substituted_15 (by decide) ?_
  refine lv_iushr (v := uS b 16) hx hb d_A_substituted_17 rfl ?_
  refine lv_sipush (v := 255) hx hb d_A_substituted_18 (by decide) ?_
  refine lv_iand hx hb d_A_substituted_21 ?_
  refine sb_tld hx hb hG.2.2.2.1 hS (b1n b) (ix1 b) (b1n_lt b) (by omega) d_A_substituted_22 ?_
  refine lv_bipush (v := 16) hx hb d_A_substituted_23 (by decide) ?_
  refine lv_ishl hx hb d_A_substituted_25 ?_
  refine lv_ior hx hb d_A_substituted_26 ?_
  refine va_getsN hx hb hG.2.2.1 hS hown (hG.nest _ n_452) (fun _ h9 => h9) d_A_substituted_27 ?_
  refine lv_iload_n hx hb d_A_substituted_30 rfl (lv_at hl 2 rfl) ?_
  refine lv_bipush (v := 8) hx hb d_A_substituted_31 (by decide) ?_
  refine lv_iushr (v := uS c0 8) hx hb d_A_substituted_33 rfl ?_
  refine lv_sipush (v := 255) hx hb d_A_substituted_34 (by decide) ?_
  refine lv_iand hx hb d_A_substituted_37 ?_
  refine sb_tld hx hb hG.2.2.2.1 hS (b2n c0) (ix2 c0) (b2n_lt c0) (by omega) d_A_substituted_38 ?_
  refine lv_bipush (v := 8) hx hb d_A_substituted_39 (by decide) ?_
  refine lv_ishl hx hb d_A_substituted_41 ?_
  refine lv_ior hx hb d_A_substituted_42 ?_
  refine va_getsN hx hb hG.2.2.1 hS hown (hG.nest _ n_452) (fun _ h9 => h9) d_A_substituted_43 ?_
  refine lv_iload_n hx hb d_A_substituted_46 rfl (lv_at hl 3 rfl) ?_
  refine lv_sipush (v := 255) hx hb d_A_substituted_47 (by decide) ?_
  refine lv_iand hx hb d_A_substituted_50 ?_
  refine sb_tld hx hb hG.2.2.2.1 hS (b3n d0) (ix3 d0) (b3n_lt d0) (by omega) d_A_substituted_51 ?_
  refine lv_ior hx hb d_A_substituted_52 ?_
  exact W.iret (v := ((((sbS (b0n a)) <<< (24 &&& 31)) ||| ((sbS (b1n b)) <<< (16 &&& 31))) ||| ((sbS (b2n c0)) <<< (8 &&& 31))) ||| (sbS (b3n d0))) hx hb hr (fun t ht hW => ⟨_, rfl, rfl, ht⟩) hS.2.2 d_A_substituted_53

theorem d_A_turn_0 : decode b_A_turn 0 = .ok (.iload_n 1, 1) := by decide +kernel
theorem d_A_turn_1 : decode b_A_turn 1 = .ok (.aload_n 0, 1) := by decide +kernel
theorem d_A_turn_2 : decode b_A_turn 2 = .ok (.getfield 7, 3) := by decide +kernel
theorem d_A_turn_5 : decode b_A_turn 5 = .ok (.iconst 0, 1) := by decide +kernel
theorem d_A_turn_6 : decode b_A_turn 6 = .ok (.iaload, 1) := by decide +kernel
theorem d_A_turn_7 : decode b_A_turn 7 = .ok (.ixor, 1) := by decide +kernel
theorem d_A_turn_8 : decode b_A_turn 8 = .ok (.istore 6, 2) := by decide +kernel
theorem d_A_turn_10 : decode b_A_turn 10 = .ok (.iload_n 2, 1) := by decide +kernel
theorem d_A_turn_11 : decode b_A_turn 11 = .ok (.aload_n 0, 1) := by decide +kernel
theorem d_A_turn_12 : decode b_A_turn 12 = .ok (.getfield 7, 3) := by decide +kernel
theorem d_A_turn_15 : decode b_A_turn 15 = .ok (.iconst 1, 1) := by decide +kernel
theorem d_A_turn_16 : decode b_A_turn 16 = .ok (.iaload, 1) := by decide +kernel
theorem d_A_turn_17 : decode b_A_turn 17 = .ok (.ixor, 1) := by decide +kernel
theorem d_A_turn_18 : decode b_A_turn 18 = .ok (.istore 7, 2) := by decide +kernel
theorem d_A_turn_20 : decode b_A_turn 20 = .ok (.iload_n 3, 1) := by decide +kernel
theorem d_A_turn_21 : decode b_A_turn 21 = .ok (.aload_n 0, 1) := by decide +kernel
theorem d_A_turn_22 : decode b_A_turn 22 = .ok (.getfield 7, 3) := by decide +kernel
theorem d_A_turn_25 : decode b_A_turn 25 = .ok (.iconst 2, 1) := by decide +kernel
theorem d_A_turn_26 : decode b_A_turn 26 = .ok (.iaload, 1) := by decide +kernel
theorem d_A_turn_27 : decode b_A_turn 27 = .ok (.ixor, 1) := by decide +kernel
theorem d_A_turn_28 : decode b_A_turn 28 = .ok (.istore 8, 2) := by decide +kernel
theorem d_A_turn_30 : decode b_A_turn 30 = .ok (.iload 4, 2) := by decide +kernel
theorem d_A_turn_32 : decode b_A_turn 32 = .ok (.aload_n 0, 1) := by decide +kernel
theorem d_A_turn_33 : decode b_A_turn 33 = .ok (.getfield 7, 3) := by decide +kernel
theorem d_A_turn_36 : decode b_A_turn 36 = .ok (.iconst 3, 1) := by decide +kernel
theorem d_A_turn_37 : decode b_A_turn 37 = .ok (.iaload, 1) := by decide +kernel
theorem d_A_turn_38 : decode b_A_turn 38 = .ok (.ixor, 1) := by decide +kernel
theorem d_A_turn_39 : decode b_A_turn 39 = .ok (.istore 9, 2) := by decide +kernel
theorem d_A_turn_41 : decode b_A_turn 41 = .ok (.iconst 4, 1) := by decide +kernel
theorem d_A_turn_42 : decode b_A_turn 42 = .ok (.istore 10, 2) := by decide +kernel
theorem d_A_turn_44 : decode b_A_turn 44 = .ok (.iconst 1, 1) := by decide +kernel
theorem d_A_turn_45 : decode b_A_turn 45 = .ok (.istore 11, 2) := by decide +kernel
theorem d_A_turn_47 : decode b_A_turn 47 = .ok (.iload 11, 2) := by decide +kernel
theorem d_A_turn_49 : decode b_A_turn 49 = .ok (.aload_n 0, 1) := by decide +kernel
theorem d_A_turn_50 : decode b_A_turn 50 = .ok (.getfield 13, 3) := by decide +kernel
theorem d_A_turn_53 : decode b_A_turn 53 = .ok (.if_icmp .ge 126, 3) := by decide +kernel
theorem d_A_turn_56 : decode b_A_turn 56 = .ok (.iload 6, 2) := by decide +kernel
theorem d_A_turn_58 : decode b_A_turn 58 = .ok (.iload 7, 2) := by decide +kernel
theorem d_A_turn_60 : decode b_A_turn 60 = .ok (.iload 8, 2) := by decide +kernel
theorem d_A_turn_62 : decode b_A_turn 62 = .ok (.iload 9, 2) := by decide +kernel
theorem d_A_turn_64 : decode b_A_turn 64 = .ok (.invokestatic 32, 3) := by decide +kernel
theorem d_A_turn_67 : decode b_A_turn 67 = .ok (.invokestatic 40, 3) := by decide +kernel
theorem d_A_turn_70 : decode b_A_turn 70 = .ok (.aload_n 0, 1) := by decide +kernel
theorem d_A_turn_71 : decode b_A_turn 71 = .ok (.getfield 7, 3) := by decide +kernel
theorem d_A_turn_74 : decode b_A_turn 74 = .ok (.iload 10, 2) := by decide +kernel
theorem d_A_turn_76 : decode b_A_turn 76 = .ok (.iaload, 1) := by decide +kernel
theorem d_A_turn_77 : decode b_A_turn 77 = .ok (.ixor, 1) := by decide +kernel
theorem d_A_turn_78 : decode b_A_turn 78 = .ok (.istore 12, 2) := by decide +kernel
theorem d_A_turn_80 : decode b_A_turn 80 = .ok (.iload 7, 2) := by decide +kernel
theorem d_A_turn_82 : decode b_A_turn 82 = .ok (.iload 8, 2) := by decide +kernel
theorem d_A_turn_84 : decode b_A_turn 84 = .ok (.iload 9, 2) := by decide +kernel
theorem d_A_turn_86 : decode b_A_turn 86 = .ok (.iload 6, 2) := by decide +kernel
theorem d_A_turn_88 : decode b_A_turn 88 = .ok (.invokestatic 32, 3) := by decide +kernel
theorem d_A_turn_91 : decode b_A_turn 91 = .ok (.invokestatic 40, 3) := by decide +kernel
theorem d_A_turn_94 : decode b_A_turn 94 = .ok (.aload_n 0, 1) := by decide +kernel
theorem d_A_turn_95 : decode b_A_turn 95 = .ok (.getfield 7, 3) := by decide +kernel
theorem d_A_turn_98 : decode b_A_turn 98 = .ok (.iload 10, 2) := by decide +kernel
theorem d_A_turn_100 : decode b_A_turn 100 = .ok (.iconst 1, 1) := by decide +kernel
theorem d_A_turn_101 : decode b_A_turn 101 = .ok (.iadd, 1) := by decide +kernel
theorem d_A_turn_102 : decode b_A_turn 102 = .ok (.iaload, 1) := by decide +kernel
theorem d_A_turn_103 : decode b_A_turn 103 = .ok (.ixor, 1) := by decide +kernel
theorem d_A_turn_104 : decode b_A_turn 104 = .ok (.istore 13, 2) := by decide +kernel
theorem d_A_turn_106 : decode b_A_turn 106 = .ok (.iload 8, 2) := by decide +kernel
theorem d_A_turn_108 : decode b_A_turn 108 = .ok (.iload 9, 2) := by decide +kernel
theorem d_A_turn_110 : decode b_A_turn 110 = .ok (.iload 6, 2) := by decide +kernel
theorem d_A_turn_112 : decode b_A_turn 112 = .ok (.iload 7, 2) := by decide +kernel
theorem d_A_turn_114 : decode b_A_turn 114 = .ok (.invokestatic 32, 3) := by decide +kernel
theorem d_A_turn_117 : decode b_A_turn 117 = .ok (.invokestatic 40, 3) := by decide +kernel
theorem d_A_turn_120 : decode b_A_turn 120 = .ok (.aload_n 0, 1) := by decide +kernel
theorem d_A_turn_121 : decode b_A_turn 121 = .ok (.getfield 7, 3) := by decide +kernel
theorem d_A_turn_124 : decode b_A_turn 124 = .ok (.iload 10, 2) := by decide +kernel
theorem d_A_turn_126 : decode b_A_turn 126 = .ok (.iconst 2, 1) := by decide +kernel
theorem d_A_turn_127 : decode b_A_turn 127 = .ok (.iadd, 1) := by decide +kernel
theorem d_A_turn_128 : decode b_A_turn 128 = .ok (.iaload, 1) := by decide +kernel
theorem d_A_turn_129 : decode b_A_turn 129 = .ok (.ixor, 1) := by decide +kernel
theorem d_A_turn_130 : decode b_A_turn 130 = .ok (.istore 14, 2) := by decide +kernel
theorem d_A_turn_132 : decode b_A_turn 132 = .ok (.iload 9, 2) := by decide +kernel
theorem d_A_turn_134 : decode b_A_turn 134 = .ok (.iload 6, 2) := by decide +kernel
theorem d_A_turn_136 : decode b_A_turn 136 = .ok (.iload 7, 2) := by decide +kernel
theorem d_A_turn_138 : decode b_A_turn 138 = .ok (.iload 8, 2) := by decide +kernel
theorem d_A_turn_140 : decode b_A_turn 140 = .ok (.invokestatic 32, 3) := by decide +kernel
theorem d_A_turn_143 : decode b_A_turn 143 = .ok (.invokestatic 40, 3) := by decide +kernel
theorem d_A_turn_146 : decode b_A_turn 146 = .ok (.aload_n 0, 1) := by decide +kernel
theorem d_A_turn_147 : decode b_A_turn 147 = .ok (.getfield 7, 3) := by decide +kernel
theorem d_A_turn_150 : decode b_A_turn 150 = .ok (.iload 10, 2) := by decide +kernel
theorem d_A_turn_152 : decode b_A_turn 152 = .ok (.iconst 3, 1) := by decide +kernel
theorem d_A_turn_153 : decode b_A_turn 153 = .ok (.iadd, 1) := by decide +kernel
theorem d_A_turn_154 : decode b_A_turn 154 = .ok (.iaload, 1) := by decide +kernel
theorem d_A_turn_155 : decode b_A_turn 155 = .ok (.ixor, 1) := by decide +kernel
theorem d_A_turn_156 : decode b_A_turn 156 = .ok (.istore 9, 2) := by decide +kernel
theorem d_A_turn_158 : decode b_A_turn 158 = .ok (.iload 12, 2) := by decide +kernel
theorem d_A_turn_160 : decode b_A_turn 160 = .ok (.istore 6, 2) := by decide +kernel
theorem d_A_turn_162 : decode b_A_turn 162 = .ok (.iload 13, 2) := by decide +kernel
theorem d_A_turn_164 : decode b_A_turn 164 = .ok (.istore 7, 2) := by decide +kernel
theorem d_A_turn_166 : decode b_A_turn 166 = .ok (.iload 14, 2) := by decide +kernel
theorem d_A_turn_168 : decode b_A_turn 168 = .ok (.istore 8, 2) := by decide +kernel
theorem d_A_turn_170 : decode b_A_turn 170 = .ok (.iinc 10 4, 3) := by decide +kernel
theorem d_A_turn_173 : decode b_A_turn 173 = .ok (.iinc 11 1, 3) := by decide +kernel
theorem d_A_turn_176 : decode b_A_turn 176 = .ok (.goto (-129), 3) := by decide +kernel
theorem d_A_turn_179 : decode b_A_turn 179 = .ok (.aload 5, 2) := by decide +kernel
theorem d_A_turn_181 : decode b_A_turn 181 = .ok (.iconst 0, 1) := by decide +kernel
theorem d_A_turn_182 : decode b_A_turn 182 = .ok (.iload 6, 2) := by decide +kernel
theorem d_A_turn_184 : decode b_A_turn 184 = .ok (.iload 7, 2) := by decide +kernel
theorem d_A_turn_186 : decode b_A_turn 186 = .ok (.iload 8, 2) := by decide +kernel
theorem d_A_turn_188 : decode b_A_turn 188 = .ok (.iload 9, 2) := by decide +kernel
theorem d_A_turn_190 : decode b_A_turn 190 = .ok (.invokestatic 32, 3) := by decide +kernel
theorem d_A_turn_193 : decode b_A_turn 193 = .ok (.aload_n 0, 1) := by decide +kernel
theorem d_A_turn_194 : decode b_A_turn 194 = .ok (.getfield 7, 3) := by decide +kernel
theorem d_A_turn_197 : decode b_A_turn 197 = .ok (.iload 10, 2) := by decide +kernel
theorem d_A_turn_199 : decode b_A_turn 199 = .ok (.iaload, 1) := by decide +kernel
theorem d_A_turn_200 : decode b_A_turn 200 = .ok (.ixor, 1) := by decide +kernel
theorem d_A_turn_201 : decode b_A_turn 201 = .ok (.iastore, 1) := by decide +kernel
theorem d_A_turn_202 : decode b_A_turn 202 = .ok (.aload 5, 2) := by decide +kernel
theorem d_A_turn_204 : decode b_A_turn 204 = .ok (.iconst 1, 1) := by decide +kernel
theorem d_A_turn_205 : decode b_A_turn 205 = .ok (.iload 7, 2) := by decide +kernel
theorem d_A_turn_207 : decode b_A_turn 207 = .ok (.iload 8, 2) := by decide +kernel
theorem d_A_turn_209 : decode b_A_turn 209 = .ok (.iload 9, 2) := by decide +kernel
theorem d_A_turn_211 : decode b_A_turn 211 = .ok (.iload 6, 2) := by decide +kernel
theorem d_A_turn_213 : decode b_A_turn 213 = .ok (.invokestatic 32, 3) := by decide +kernel
theorem d_A_turn_216 : decode b_A_turn 216 = .ok (.aload_n 0, 1) := by decide +kernel
theorem d_A_turn_217 : decode b_A_turn 217 = .ok (.getfield 7, 3) := by decide +kernel
theorem d_A_turn_220 : decode b_A_turn 220 = .ok (.iload 10, 2) := by decide +kernel
theorem d_A_turn_222 : decode b_A_turn 222 = .ok (.iconst 1, 1) := by decide +kernel
theorem d_A_turn_223 : decode b_A_turn 223 = .ok (.iadd, 1) := by decide +kernel
theorem d_A_turn_224 : decode b_A_turn 224 = .ok (.iaload, 1) := by decide +kernel
theorem d_A_turn_225 : decode b_A_turn 225 = .ok (.ixor, 1) := by decide +kernel
theorem d_A_turn_226 : decode b_A_turn 226 = .ok (.iastore, 1) := by decide +kernel
theorem d_A_turn_227 : decode b_A_turn 227 = .ok (.aload 5, 2) := by decide +kernel
theorem d_A_turn_229 : decode b_A_turn 229 = .ok (.iconst 2, 1) := by decide +kernel
theorem d_A_turn_230 : decode b_A_turn 230 = .ok (.iload 8, 2) := by decide +kernel
theorem d_A_turn_232 : decode b_A_turn 232 = .ok (.iload 9, 2) := by decide +kernel
theorem d_A_turn_234 : decode b_A_turn 234 = .ok (.iload 6, 2) := by decide +kernel
theorem d_A_turn_236 : decode b_A_turn 236 = .ok (.iload 7, 2) := by decide +kernel
theorem d_A_turn_238 : decode b_A_turn 238 = .ok (.invokestatic 32, 3) := by decide +kernel
theorem d_A_turn_241 : decode b_A_turn 241 = .ok (.aload_n 0, 1) := by decide +kernel
theorem d_A_turn_242 : decode b_A_turn 242 = .ok (.getfield 7, 3) := by decide +kernel
theorem d_A_turn_245 : decode b_A_turn 245 = .ok (.iload 10, 2) := by decide +kernel
theorem d_A_turn_247 : decode b_A_turn 247 = .ok (.iconst 2, 1) := by decide +kernel
theorem d_A_turn_248 : decode b_A_turn 248 = .ok (.iadd, 1) := by decide +kernel
theorem d_A_turn_249 : decode b_A_turn 249 = .ok (.iaload, 1) := by decide +kernel
theorem d_A_turn_250 : decode b_A_turn 250 = .ok (.ixor, 1) := by decide +kernel
theorem d_A_turn_251 : decode b_A_turn 251 = .ok (.iastore, 1) := by decide +kernel
theorem d_A_turn_252 : decode b_A_turn 252 = .ok (.aload 5, 2) := by decide +kernel
theorem d_A_turn_254 : decode b_A_turn 254 = .ok (.iconst 3, 1) := by decide +kernel
theorem d_A_turn_255 : decode b_A_turn 255 = .ok (.iload 9, 2) := by decide +kernel
theorem d_A_turn_257 : decode b_A_turn 257 = .ok (.iload 6, 2) := by decide +kernel
theorem d_A_turn_259 : decode b_A_turn 259 = .ok (.iload 7, 2) := by decide +kernel
theorem d_A_turn_261 : decode b_A_turn 261 = .ok (.iload 8, 2) := by decide +kernel
theorem d_A_turn_263 : decode b_A_turn 263 = .ok (.invokestatic 32, 3) := by decide +kernel
theorem d_A_turn_266 : decode b_A_turn 266 = .ok (.aload_n 0, 1) := by decide +kernel
theorem d_A_turn_267 : decode b_A_turn 267 = .ok (.getfield 7, 3) := by decide +kernel
theorem d_A_turn_270 : decode b_A_turn 270 = .ok (.iload 10, 2) := by decide +kernel
theorem d_A_turn_272 : decode b_A_turn 272 = .ok (.iconst 3, 1) := by decide +kernel
theorem d_A_turn_273 : decode b_A_turn 273 = .ok (.iadd, 1) := by decide +kernel
theorem d_A_turn_274 : decode b_A_turn 274 = .ok (.iaload, 1) := by decide +kernel
theorem d_A_turn_275 : decode b_A_turn 275 = .ok (.ixor, 1) := by decide +kernel
theorem d_A_turn_276 : decode b_A_turn 276 = .ok (.iastore, 1) := by decide +kernel
theorem d_A_turn_277 : decode b_A_turn 277 = .ok (.return_, 1) := by decide +kernel

def rm_A_turn : Room := { frames := 2, cells := 0, slots := 0, locals := 42 }
set_option maxHeartbeats 4000000 in
set_option maxRecDepth 100000 in
theorem c_A_turn (l : Launch) (D : va_G) (cI cL cB : ClassId) (tS tF : Nat) (h : Nat) (k : Nat) (q : Nat) (rk : Nat → Int32) (g : Nat → Int32) (rnd : Nat) (tn : Nat) (a : Int32) (b : Int32) (c0 : Int32) (d0 : Int32) (sz : Nat) (h1 : 1 ≤ rnd) (h2 : rnd ≤ 14) (h3 : 4 ≤ tn) (h4 : tn < 2 ^ 31) : Met l y_A_turn (sbw y_A_turn b_A_turn 15 none) rm_A_turn (sbPc D cI cL cB tS tF [.ref h, .int a, .int b, .int c0, .int d0, .ref q] sz [(h, .inr (0, [.ref k, .int (nI rnd)])), (k, .inl (cI, 60, .inl rk)), (q, .inl (cI, tn, .inl g))]) (sbQv D (fun (_ : Unit) => True) (fun (_ : Unit) => [(h, .inr (0, [.ref k, .int (nI rnd)])), (k, .inl (cI, 60, .inl rk)), (q, .inl (cI, tn, .inl (st4 g (aesI rk rnd a b c0 d0))))]) (va_A [(h, .inr (0, [.ref k, .int (nI rnd)])), (k, .inl (cI, 60, .inl rk)), (q, .inl (cI, tn, .inl g))] sz)) 0 0 (va_A [(h, .inr (0, [.ref k, .int (nI rnd)])), (k, .inl (cI, 60, .inl rk)), (q, .inl (cI, tn, .inl g))] sz) := by
  refine sb_ofW (Qc := fun A => (sbQv D (fun (_ : Unit) => True) (fun (_ : Unit) => [(h, .inr (0, [.ref k, .int (nI rnd)])), (k, .inl (cI, 60, .inl rk)), (q, .inl (cI, tn, .inl (st4 g (aesI rk rnd a b c0 d0))))]) A)) (by decide) (Nat.le_of_ble_eq_true rfl) ?_
  intro p e s m args below meth c A ls hx hb hr hml hts hown hlocks hin hsz hP hG hD hA hS hl
  have hl : lv_has ls 15 [(0, .ref h), (1, .int a), (2, .int b), (3, .int c0), (4, .int d0), (5, .ref q)] := hl
  refine lv_iload_n hx hb d_A_turn_0 rfl (lv_at hl 1 rfl) ?_
  refine lv_aload_n hx hb d_A_turn_1 rfl (lv_at hl 0 rfl) ?_
  refine va_get (D := D) (ci := 0) (v := .ref k) (C := R_A) (T := F_A) (N := 2) hx hb hts in_A hown hG.1 hP 0 rfl rfl 0 (by decide) (hts _ k_83) (fun _ h9 => h9) rfl d_A_turn_2 ?_
  refine lv_iconst (v := 0) hx hb d_A_turn_5 (by decide) ?_
  refine sb_ild hx hb hG.1 hP 1 rfl 0 rfl (by omega) (by omega) d_A_turn_6 ?_
  refine lv_ixor hx hb d_A_turn_7 ?_
  refine lv_topi (fun x_1 ex_1 => ?_)
  refine lv_istore (lv' := [(6, .int x_1), (0, .ref h), (1, .int a), (2, .int b), (3, .int c0), (4, .int d0), (5, .ref q)]) hx hb d_A_turn_8 hl (by decide) rfl (fun ls hl => ?_)
  refine lv_iload_n hx hb d_A_turn_10 rfl (lv_at hl 3 rfl) ?_
  refine lv_aload_n hx hb d_A_turn_11 rfl (lv_at hl 1 rfl) ?_
  refine va_get (D := D) (ci := 0) (v := .ref k) (C := R_A) (T := F_A) (N := 2) hx hb hts in_A hown hG.1 hP 0 rfl rfl 0 (by decide) (hts _ k_83) (fun _ h9 => h9) rfl d_A_turn_12 ?_
  refine lv_iconst (v := 1) hx hb d_A_turn_15 (by decide) ?_
  refine sb_ild hx hb hG.1 hP 1 rfl 1 rfl (by omega) (by omega) d_A_turn_16 ?_
  refine lv_ixor hx hb d_A_turn_17 ?_
  refine lv_topi (fun x_2 ex_2 => ?_)
  refine lv_istore (lv' := [(7, .int x_2), (6, .int x_1), (0, .ref h), (1, .int a), (2, .int b), (3, .int c0), (4, .int d0), (5, .ref q)]) hx hb d_A_turn_18 hl (by decide) rfl (fun ls hl => ?_)
  refine lv_iload_n hx hb d_A_turn_20 rfl (lv_at hl 5 rfl) ?_
  refine lv_aload_n hx hb d_A_turn_21 rfl (lv_at hl 2 rfl) ?_
  refine va_get (D := D) (ci := 0) (v := .ref k) (C := R_A) (T := F_A) (N := 2) hx hb hts in_A hown hG.1 hP 0 rfl rfl 0 (by decide) (hts _ k_83) (fun _ h9 => h9) rfl d_A_turn_22 ?_
  refine lv_iconst (v := 2) hx hb d_A_turn_25 (by decide) ?_
  refine sb_ild hx hb hG.1 hP 1 rfl 2 rfl (by omega) (by omega) d_A_turn_26 ?_
  refine lv_ixor hx hb d_A_turn_27 ?_
  refine lv_topi (fun x_3 ex_3 => ?_)
  refine lv_istore (lv' := [(8, .int x_3), (7, .int x_2), (6, .int x_1), (0, .ref h), (1, .int a), (2, .int b), (3, .int c0), (4, .int d0), (5, .ref q)]) hx hb d_A_turn_28 hl (by decide) rfl (fun ls hl => ?_)
  refine lv_iload hx hb d_A_turn_30 (lv_at hl 7 rfl) ?_
  refine lv_aload_n hx hb d_A_turn_32 rfl (lv_at hl 3 rfl) ?_
  refine va_get (D := D) (ci := 0) (v := .ref k) (C := R_A) (T := F_A) (N := 2) hx hb hts in_A hown hG.1 hP 0 rfl rfl 0 (by decide) (hts _ k_83) (fun _ h9 => h9) rfl d_A_turn_33 ?_
  refine lv_iconst (v := 3) hx hb d_A_turn_36 (by decide) ?_
  refine sb_ild hx hb hG.1 hP 1 rfl 3 rfl (by omega) (by omega) d_A_turn_37 ?_
  refine lv_ixor hx hb d_A_turn_38 ?_
  refine lv_topi (fun x_4 ex_4 => ?_)
  refine lv_istore (lv' := [(9, .int x_4), (8, .int x_3), (7, .int x_2), (6, .int x_1), (0, .ref h), (1, .int a), (2, .int b), (3, .int c0), (4, .int d0), (5, .ref q)]) hx hb d_A_turn_39 hl (by decide) rfl (fun ls hl => ?_)
  refine lv_iconst (v := 4) hx hb d_A_turn_41 (by decide) ?_
  refine lv_istore (lv' := [(10, .int 4), (9, .int x_4), (8, .int x_3), (7, .int x_2), (6, .int x_1), (0, .ref h), (1, .int a), (2, .int b), (3, .int c0), (4, .int d0), (5, .ref q)]) hx hb d_A_turn_42 hl (by decide) rfl (fun ls hl => ?_)
  refine lv_iconst (v := 1) hx hb d_A_turn_44 (by decide) ?_
  refine lv_istore (lv' := [(11, .int 1), (10, .int 4), (9, .int x_4), (8, .int x_3), (7, .int x_2), (6, .int x_1), (0, .ref h), (1, .int a), (2, .int b), (3, .int c0), (4, .int d0), (5, .ref q)]) hx hb d_A_turn_45 hl (by decide) rfl (fun ls hl => ?_)
  have lp1 : ∀ (d1 i : Nat), i + d1 = rnd - 1 → ∀ (H : Heap) (locs : List Loc) (ls : Array Slot), va_P D vwCl [(h, .inr (0, [.ref k, .int (nI rnd)])), (k, .inl (cI, 60, .inl rk)), (q, .inl (cI, tn, .inl g))] H → va_D A [(h, .inr (0, [.ref k, .int (nI rnd)])), (k, .inl (cI, 60, .inl rk)), (q, .inl (cI, tn, .inl g))] → va_S A s.heap H locs → lv_has ls 15 [(6, .int ((iter (arnd rk) i (a ^^^ rk 0, b ^^^ rk 1, c0 ^^^ rk 2, d0 ^^^ rk 3)).1)), (7, .int ((iter (arnd rk) i (a ^^^ rk 0, b ^^^ rk 1, c0 ^^^ rk 2, d0 ^^^ rk 3)).2.1)), (8, .int ((iter (arnd rk) i (a ^^^ rk 0, b ^^^ rk 1, c0 ^^^ rk 2, d0 ^^^ rk 3)).2.2.1)), (9, .int ((iter (arnd rk) i (a ^^^ rk 0, b ^^^ rk 1, c0 ^^^ rk 2, d0 ^^^ rk 3)).2.2.2)), (10, .int (nI (4 + 4 * i))), (11, .int (nI (1 + i))), (0, .ref h), (1, .int a), (2, .int b), (3, .int c0), (4, .int d0), (5, .ref q)] → W p l e rm_A_turn s m args below meth c H locs 0 0 (MQ below (sbQv D (fun (_ : Unit) => True) (fun (_ : Unit) => [(h, .inr (0, [.ref k, .int (nI rnd)])), (k, .inl (cI, 60, .inl rk)), (q, .inl (cI, tn, .inl (st4 g (aesI rk rnd a b c0 d0))))]) A) args s 0 0 A) (F0 m 47 ls []) := by
    intro d1
    induction d1 with
    | zero =>
      intro i hi1 H locs ls hP hD hS hl
      obtain rfl : rnd - 1 = i := by omega
      refine lv_iload hx hb d_A_turn_47 (lv_at hl 5 rfl) ?_
      refine lv_aload_n hx hb d_A_turn_49 rfl (lv_at hl 6 rfl) ?_
      refine va_get (D := D) (ci := 0) (v := .int (nI rnd)) (C := R_A) (T := F_A) (N := 2) hx hb hts in_A hown hG.1 hP 0 rfl rfl 1 (by decide) (hts _ k_84) (fun _ h9 => h9) rfl d_A_turn_50 ?_
      refine lv_icmp_ge (tgt := 179) hx hb d_A_turn_53 (by decide) (fun c_5 => ?_) (fun c_5 => absurd (sb_geT (a := 1 + (rnd - 1)) (b := rnd) rfl rfl (by omega) (by omega) (by omega)) c_5)
      refine lv_aload hx hb d_A_turn_179 (lv_at hl 11 rfl) ?_
      refine lv_iconst (v := 0) hx hb d_A_turn_181 (by decide) ?_
      refine lv_iload hx hb d_A_turn_182 (lv_at hl 0 rfl) ?_
      refine lv_iload hx hb d_A_turn_184 (lv_at hl 1 rfl) ?_
      refine lv_iload hx hb d_A_turn_186 (lv_at hl 2 rfl) ?_
      refine lv_iload hx hb d_A_turn_188 (lv_at hl 3 rfl) ?_
      refine vp_callSi (va_runS (As := [.int ((iter (arnd rk) (rnd - 1) (a ^^^ rk 0, b ^^^ rk 1, c0 ^^^ rk 2, d0 ^^^ rk 3)).1), .int ((iter (arnd rk) (rnd - 1) (a ^^^ rk 0, b ^^^ rk 1, c0 ^^^ rk 2, d0 ^^^ rk 3)).2.1), .int ((iter (arnd rk) (rnd - 1) (a ^^^ rk 0, b ^^^ rk 1, c0 ^^^ rk 2, d0 ^^^ rk 3)).2.2.1), .int ((iter (arnd rk) (rnd - 1) (a ^^^ rk 0, b ^^^ rk 1, c0 ^^^ rk 2, d0 ^^^ rk 3)).2.2.2)]) (rest := [.int 0, .ref q]) ⟨hx, hb, hml, hown, hts⟩ (c_A_substituted l D cI cL cB tS tF ((iter (arnd rk) (rnd - 1) (a ^^^ rk 0, b ^^^ rk 1, c0 ^^^ rk 2, d0 ^^^ rk 3)).1) ((iter (arnd rk) (rnd - 1) (a ^^^ rk 0, b ^^^ rk 1, c0 ^^^ rk 2, d0 ^^^ rk 3)).2.1) ((iter (arnd rk) (rnd - 1) (a ^^^ rk 0, b ^^^ rk 1, c0 ^^^ rk 2, d0 ^^^ rk 3)).2.2.1) ((iter (arnd rk) (rnd - 1) (a ^^^ rk 0, b ^^^ rk 1, c0 ^^^ rk 2, d0 ^^^ rk 3)).2.2.2) ) (va_cwS 4 hts (sb_gS k_449 k_450 k_26 k_451) rfl rfl rfl (by decide +kernel) ⟨Nat.le_of_ble_eq_true rfl, Nat.le_of_ble_eq_true rfl⟩) (sb_rS hG hP hS [] rfl) rfl rfl hl.1 rfl (lv_room (Nat.le_of_ble_eq_true rfl)) d_A_turn_190 ⟨Nat.le_of_ble_eq_true rfl, Nat.le_of_ble_eq_true rfl⟩).run (fun r_6 er_6 => ?_)
      subst er_6
      refine lv_aload_n hx hb d_A_turn_193 rfl (lv_at hl 6 rfl) ?_
      refine va_get (D := D) (ci := 0) (v := .ref k) (C := R_A) (T := F_A) (N := 2) hx hb hts in_A hown hG.1 hP 0 rfl rfl 0 (by decide) (hts _ k_83) (fun _ h9 => h9) rfl d_A_turn_194 ?_
      refine lv_iload hx hb d_A_turn_197 (lv_at hl 4 rfl) ?_
      refine sb_ild hx hb hG.1 hP 1 rfl (4 + 4 * (rnd - 1)) rfl (by omega) (by omega) d_A_turn_199 ?_
      refine lv_ixor hx hb d_A_turn_200 ?_
      refine sb_ist hx hb hG.1 hP hD hS 2 rfl 0 rfl (by omega) (by omega) d_A_turn_201 (fun f_7 H locs ef_7 hP hD hS => ?_)
      have hP : va_P D vwCl [(h, .inr (0, [.ref k, .int (nI rnd)])), (k, .inl (cI, 60, .inl rk)), (q, .inl (cI, tn, .inl f_7))] H := hP
      have hD : va_D A [(h, .inr (0, [.ref k, .int (nI rnd)])), (k, .inl (cI, 60, .inl rk)), (q, .inl (cI, tn, .inl f_7))] := hD
      refine lv_aload hx hb d_A_turn_202 (lv_at hl 11 rfl) ?_
      refine lv_iconst (v := 1) hx hb d_A_turn_204 (by decide) ?_
      refine lv_iload hx hb d_A_turn_205 (lv_at hl 1 rfl) ?_
      refine lv_iload hx hb d_A_turn_207 (lv_at hl 2 rfl) ?_
      refine lv_iload hx hb d_A_turn_209 (lv_at hl 3 rfl) ?_
      refine lv_iload hx hb d_A_turn_211 (lv_at hl 0 rfl) ?_
      refine vp_callSi (va_runS (As := [.int ((iter (arnd rk) (rnd - 1) (a ^^^ rk 0, b ^^^ rk 1, c0 ^^^ rk 2, d0 ^^^ rk 3)).2.1), .int ((iter (arnd rk) (rnd - 1) (a ^^^ rk 0, b ^^^ rk 1, c0 ^^^ rk 2, d0 ^^^ rk 3)).2.2.1), .int ((iter (arnd rk) (rnd - 1) (a ^^^ rk 0, b ^^^ rk 1, c0 ^^^ rk 2, d0 ^^^ rk 3)).2.2.2), .int ((iter (arnd rk) (rnd - 1) (a ^^^ rk 0, b ^^^ rk 1, c0 ^^^ rk 2, d0 ^^^ rk 3)).1)]) (rest := [.int 1, .ref q]) ⟨hx, hb, hml, hown, hts⟩ (c_A_substituted l D cI cL cB tS tF ((iter (arnd rk) (rnd - 1) (a ^^^ rk 0, b ^^^ rk 1, c0 ^^^ rk 2, d0 ^^^ rk 3)).2.1) ((iter (arnd rk) (rnd - 1) (a ^^^ rk 0, b ^^^ rk 1, c0 ^^^ rk 2, d0 ^^^ rk 3)).2.2.1) ((iter (arnd rk) (rnd - 1) (a ^^^ rk 0, b ^^^ rk 1, c0 ^^^ rk 2, d0 ^^^ rk 3)).2.2.2) ((iter (arnd rk) (rnd - 1) (a ^^^ rk 0, b ^^^ rk 1, c0 ^^^ rk 2, d0 ^^^ rk 3)).1) ) (va_cwS 4 hts (sb_gS k_449 k_450 k_26 k_451) rfl rfl rfl (by decide +kernel) ⟨Nat.le_of_ble_eq_true rfl, Nat.le_of_ble_eq_true rfl⟩) (sb_rS hG hP hS [] rfl) rfl rfl hl.1 rfl (lv_room (Nat.le_of_ble_eq_true rfl)) d_A_turn_213 ⟨Nat.le_of_ble_eq_true rfl, Nat.le_of_ble_eq_true rfl⟩).run (fun r_8 er_8 => ?_)
      subst er_8
      refine lv_aload_n hx hb d_A_turn_216 rfl (lv_at hl 6 rfl) ?_
      refine va_get (D := D) (ci := 0) (v := .ref k) (C := R_A) (T := F_A) (N := 2) hx hb hts in_A hown hG.1 hP 0 rfl rfl 0 (by decide) (hts _ k_83) (fun _ h9 => h9) rfl d_A_turn_217 ?_
      refine lv_iload hx hb d_A_turn_220 (lv_at hl 4 rfl) ?_
      refine lv_iconst (v := 1) hx hb d_A_turn_222 (by decide) ?_
      refine lv_iadd hx hb d_A_turn_223 ?_
      refine sb_topn ((4 + 4 * (rnd - 1)) + 1) (nI_add (4 + 4 * (rnd - 1)) 1) ?_
      refine sb_ild hx hb hG.1 hP 1 rfl ((4 + 4 * (rnd - 1)) + 1) rfl (by omega) (by omega) d_A_turn_224 ?_
      refine lv_ixor hx hb d_A_turn_225 ?_
      refine sb_ist hx hb hG.1 hP hD hS 2 rfl 1 rfl (by omega) (by omega) d_A_turn_226 (fun f_9 H locs ef_9 hP hD hS => ?_)
      have hP : va_P D vwCl [(h, .inr (0, [.ref k, .int (nI rnd)])), (k, .inl (cI, 60, .inl rk)), (q, .inl (cI, tn, .inl f_9))] H := hP
      have hD : va_D A [(h, .inr (0, [.ref k, .int (nI rnd)])), (k, .inl (cI, 60, .inl rk)), (q, .inl (cI, tn, .inl f_9))] := hD
      refine lv_aload hx hb d_A_turn_227 (lv_at hl 11 rfl) ?_
      refine lv_iconst (v := 2) hx hb d_A_turn_229 (by decide) ?_
      refine lv_iload hx hb d_A_turn_230 (lv_at hl 2 rfl) ?_
      refine lv_iload hx hb d_A_turn_232 (lv_at hl 3 rfl) ?_
      refine lv_iload hx hb d_A_turn_234 (lv_at hl 0 rfl) ?_
      refine lv_iload hx hb d_A_turn_236 (lv_at hl 1 rfl) ?_
      refine vp_callSi (va_runS (As := [.int ((iter (arnd rk) (rnd - 1) (a ^^^ rk 0, b ^^^ rk 1, c0 ^^^ rk 2, d0 ^^^ rk 3)).2.2.1), .int ((iter (arnd rk) (rnd - 1) (a ^^^ rk 0, b ^^^ rk 1, c0 ^^^ rk 2, d0 ^^^ rk 3)).2.2.2), .int ((iter (arnd rk) (rnd - 1) (a ^^^ rk 0, b ^^^ rk 1, c0 ^^^ rk 2, d0 ^^^ rk 3)).1), .int ((iter (arnd rk) (rnd - 1) (a ^^^ rk 0, b ^^^ rk 1, c0 ^^^ rk 2, d0 ^^^ rk 3)).2.1)]) (rest := [.int 2, .ref q]) ⟨hx, hb, hml, hown, hts⟩ (c_A_substituted l D cI cL cB tS tF ((iter (arnd rk) (rnd - 1) (a ^^^ rk 0, b ^^^ rk 1, c0 ^^^ rk 2, d0 ^^^ rk 3)).2.2.1) ((iter (arnd rk) (rnd - 1) (a ^^^ rk 0, b ^^^ rk 1, c0 ^^^ rk 2, d0 ^^^ rk 3)).2.2.2) ((iter (arnd rk) (rnd - 1) (a ^^^ rk 0, b ^^^ rk 1, c0 ^^^ rk 2, d0 ^^^ rk 3)).1) ((iter (arnd rk) (rnd - 1) (a ^^^ rk 0, b ^^^ rk 1, c0 ^^^ rk 2, d0 ^^^ rk 3)).2.1) ) (va_cwS 4 hts (sb_gS k_449 k_450 k_26 k_451) rfl rfl rfl (by decide +kernel) ⟨Nat.le_of_ble_eq_true rfl, Nat.le_of_ble_eq_true rfl⟩) (sb_rS hG hP hS [] rfl) rfl rfl hl.1 rfl (lv_room (Nat.le_of_ble_eq_true rfl)) d_A_turn_238 ⟨Nat.le_of_ble_eq_true rfl, Nat.le_of_ble_eq_true rfl⟩).run (fun r_10 er_10 => ?_)
      subst er_10
      refine lv_aload_n hx hb d_A_turn_241 rfl (lv_at hl 6 rfl) ?_
      refine va_get (D := D) (ci := 0) (v := .ref k) (C := R_A) (T := F_A) (N := 2) hx hb hts in_A hown hG.1 hP 0 rfl rfl 0 (by decide) (hts _ k_83) (fun _ h9 => h9) rfl d_A_turn_242 ?_
      refine lv_iload hx hb d_A_turn_245 (lv_at hl 4 rfl) ?_
      refine lv_iconst (v := 2) hx hb d_A_turn_247 (by decide) ?_
      refine lv_iadd hx hb d_A_turn_248 ?_
      refine sb_topn ((4 + 4 * (rnd - 1)) + 2) (nI_add (4 + 4 * (rnd - 1)) 2) ?_
      refine sb_ild hx hb hG.1 hP 1 rfl ((4 + 4 * (rnd - 1)) + 2) rfl (by omega) (by omega) d_A_turn_249 ?_
      refine lv_ixor hx hb d_A_turn_250 ?_
      refine sb_ist hx hb hG.1 hP hD hS 2 rfl 2 rfl (by omega) (by omega) d_A_turn_251 (fun f_11 H locs ef_11 hP hD hS => ?_)
      have hP : va_P D vwCl [(h, .inr (0, [.ref k, .int (nI rnd)])), (k, .inl (cI, 60, .inl rk)), (q, .inl (cI, tn, .inl f_11))] H := hP
      have hD : va_D A [(h, .inr (0, [.ref k, .int (nI rnd)])), (k, .inl (cI, 60, .inl rk)), (q, .inl (cI, tn, .inl f_11))] := hD
      refine lv_aload hx hb d_A_turn_252 (lv_at hl 11 rfl) ?_
      refine lv_iconst (v := 3) hx hb d_A_turn_254 (by decide) ?_
      refine lv_iload hx hb d_A_turn_255 (lv_at hl 3 rfl) ?_
      refine lv_iload hx hb d_A_turn_257 (lv_at hl 0 rfl) ?_
      refine lv_iload hx hb d_A_turn_259 (lv_at hl 1 rfl) ?_
      refine lv_iload hx hb d_A_turn_261 (lv_at hl 2 rfl) ?_
      refine vp_callSi (va_runS (As := [.int ((iter (arnd rk) (rnd - 1) (a ^^^ rk 0, b ^^^ rk 1, c0 ^^^ rk 2, d0 ^^^ rk 3)).2.2.2), .int ((iter (arnd rk) (rnd - 1) (a ^^^ rk 0, b ^^^ rk 1, c0 ^^^ rk 2, d0 ^^^ rk 3)).1), .int ((iter (arnd rk) (rnd - 1) (a ^^^ rk 0, b ^^^ rk 1, c0 ^^^ rk 2, d0 ^^^ rk 3)).2.1), .int ((iter (arnd rk) (rnd - 1) (a ^^^ rk 0, b ^^^ rk 1, c0 ^^^ rk 2, d0 ^^^ rk 3)).2.2.1)]) (rest := [.int 3, .ref q]) ⟨hx, hb, hml, hown, hts⟩ (c_A_substituted l D cI cL cB tS tF ((iter (arnd rk) (rnd - 1) (a ^^^ rk 0, b ^^^ rk 1, c0 ^^^ rk 2, d0 ^^^ rk 3)).2.2.2) ((iter (arnd rk) (rnd - 1) (a ^^^ rk 0, b ^^^ rk 1, c0 ^^^ rk 2, d0 ^^^ rk 3)).1) ((iter (arnd rk) (rnd - 1) (a ^^^ rk 0, b ^^^ rk 1, c0 ^^^ rk 2, d0 ^^^ rk 3)).2.1) ((iter (arnd rk) (rnd - 1) (a ^^^ rk 0, b ^^^ rk 1, c0 ^^^ rk 2, d0 ^^^ rk 3)).2.2.1) ) (va_cwS 4 hts (sb_gS k_449 k_450 k_26 k_451) rfl rfl rfl (by decide +kernel) ⟨Nat.le_of_ble_eq_true rfl, Nat.le_of_ble_eq_true rfl⟩) (sb_rS hG hP hS [] rfl) rfl rfl hl.1 rfl (lv_room (Nat.le_of_ble_eq_true rfl)) d_A_turn_263 ⟨Nat.le_of_ble_eq_true rfl, Nat.le_of_ble_eq_true rfl⟩).run (fun r_12 er_12 => ?_)
      subst er_12
      refine lv_aload_n hx hb d_A_turn_266 rfl (lv_at hl 6 rfl) ?_
      refine va_get (D := D) (ci := 0) (v := .ref k) (C := R_A) (T := F_A) (N := 2) hx hb hts in_A hown hG.1 hP 0 rfl rfl 0 (by decide) (hts _ k_83) (fun _ h9 => h9) rfl d_A_turn_267 ?_
      refine lv_iload hx hb d_A_turn_270 (lv_at hl 4 rfl) ?_
      refine lv_iconst (v := 3) hx hb d_A_turn_272 (by decide) ?_
      refine lv_iadd hx hb d_A_turn_273 ?_
      refine sb_topn ((4 + 4 * (rnd - 1)) + 3) (nI_add (4 + 4 * (rnd - 1)) 3) ?_
      refine sb_ild hx hb hG.1 hP 1 rfl ((4 + 4 * (rnd - 1)) + 3) rfl (by omega) (by omega) d_A_turn_274 ?_
      refine lv_ixor hx hb d_A_turn_275 ?_
      refine sb_ist hx hb hG.1 hP hD hS 2 rfl 3 rfl (by omega) (by omega) d_A_turn_276 (fun f_13 H locs ef_13 hP hD hS => ?_)
      have hP : va_P D vwCl [(h, .inr (0, [.ref k, .int (nI rnd)])), (k, .inl (cI, 60, .inl rk)), (q, .inl (cI, tn, .inl f_13))] H := hP
      have hD : va_D A [(h, .inr (0, [.ref k, .int (nI rnd)])), (k, .inl (cI, 60, .inl rk)), (q, .inl (cI, tn, .inl f_13))] := hD
      obtain rfl : f_13 = st4 g (aesI rk rnd a b c0 d0) := (by subst_vars; rfl)
      have hP9 := hP.sub (ws' := [(h, .inr (0, [.ref k, .int (nI rnd)])), (k, .inl (cI, 60, .inl rk)), (q, .inl (cI, tn, .inl (st4 g (aesI rk rnd a b c0 d0))))]) [0, 1, 2] rfl
      have hD9 := hD.sub (ws' := [(h, .inr (0, [.ref k, .int (nI rnd)])), (k, .inl (cI, 60, .inl rk)), (q, .inl (cI, tn, .inl (st4 g (aesI rk rnd a b c0 d0))))]) [0, 1, 2] (by decide) rfl
      exact W.vret hx hb hr (fun t ht hW => ⟨⟨(), rfl, trivial, by rw [ht]; exact hP9, hD9⟩, hS.F ht⟩) hS.2.2 d_A_turn_277
    | succ d1 ih1 =>
      intro i hi1 H locs ls hP hD hS hl
      refine lv_iload hx hb d_A_turn_47 (lv_at hl 5 rfl) ?_
      refine lv_aload_n hx hb d_A_turn_49 rfl (lv_at hl 6 rfl) ?_
      refine va_get (D := D) (ci := 0) (v := .int (nI rnd)) (C := R_A) (T := F_A) (N := 2) hx hb hts in_A hown hG.1 hP 0 rfl rfl 1 (by decide) (hts _ k_84) (fun _ h9 => h9) rfl d_A_turn_50 ?_
      refine lv_icmp_ge (tgt := 179) hx hb d_A_turn_53 (by decide) (fun c_14 => absurd c_14 (sb_geF (a := 1 + i) (b := rnd) rfl rfl (by omega) (by omega) (by omega))) (fun c_14 => ?_)
      refine lv_iload hx hb d_A_turn_56 (lv_at hl 0 rfl) ?_
      refine lv_iload hx hb d_A_turn_58 (lv_at hl 1 rfl) ?_
      refine lv_iload hx hb d_A_turn_60 (lv_at hl 2 rfl) ?_
      refine lv_iload hx hb d_A_turn_62 (lv_at hl 3 rfl) ?_
      refine vp_callSi (va_runS (As := [.int ((iter (arnd rk) i (a ^^^ rk 0, b ^^^ rk 1, c0 ^^^ rk 2, d0 ^^^ rk 3)).1), .int ((iter (arnd rk) i (a ^^^ rk 0, b ^^^ rk 1, c0 ^^^ rk 2, d0 ^^^ rk 3)).2.1), .int ((iter (arnd rk) i (a ^^^ rk 0, b ^^^ rk 1, c0 ^^^ rk 2, d0 ^^^ rk 3)).2.2.1), .int ((iter (arnd rk) i (a ^^^ rk 0, b ^^^ rk 1, c0 ^^^ rk 2, d0 ^^^ rk 3)).2.2.2)]) (rest := []) ⟨hx, hb, hml, hown, hts⟩ (c_A_substituted l D cI cL cB tS tF ((iter (arnd rk) i (a ^^^ rk 0, b ^^^ rk 1, c0 ^^^ rk 2, d0 ^^^ rk 3)).1) ((iter (arnd rk) i (a ^^^ rk 0, b ^^^ rk 1, c0 ^^^ rk 2, d0 ^^^ rk 3)).2.1) ((iter (arnd rk) i (a ^^^ rk 0, b ^^^ rk 1, c0 ^^^ rk 2, d0 ^^^ rk 3)).2.2.1) ((iter (arnd rk) i (a ^^^ rk 0, b ^^^ rk 1, c0 ^^^ rk 2, d0 ^^^ rk 3)).2.2.2) ) (va_cwS 4 hts (sb_gS k_449 k_450 k_26 k_451) rfl rfl rfl (by decide +kernel) ⟨Nat.le_of_ble_eq_true rfl, Nat.le_of_ble_eq_true rfl⟩) (sb_rS hG hP hS [] rfl) rfl rfl hl.1 rfl (lv_room (Nat.le_of_ble_eq_true rfl)) d_A_turn_64 ⟨Nat.le_of_ble_eq_true rfl, Nat.le_of_ble_eq_true rfl⟩).run (fun r_15 er_15 => ?_)
      subst er_15
      refine vp_callSi (va_runS (As := [.int (subI ((iter (arnd rk) i (a ^^^ rk 0, b ^^^ rk 1, c0 ^^^ rk 2, d0 ^^^ rk 3)).1) ((iter (arnd rk) i (a ^^^ rk 0, b ^^^ rk 1, c0 ^^^ rk 2, d0 ^^^ rk 3)).2.1) ((iter (arnd rk) i (a ^^^ rk 0, b ^^^ rk 1, c0 ^^^ rk 2, d0 ^^^ rk 3)).2.2.1) ((iter (arnd rk) i (a ^^^ rk 0, b ^^^ rk 1, c0 ^^^ rk 2, d0 ^^^ rk 3)).2.2.2))]) (rest := []) ⟨hx, hb, hml, hown, hts⟩ (c_A_mixed l D cI cL cB tS tF (subI ((iter (arnd rk) i (a ^^^ rk 0, b ^^^ rk 1, c0 ^^^ rk 2, d0 ^^^ rk 3)).1) ((iter (arnd rk) i (a ^^^ rk 0, b ^^^ rk 1, c0 ^^^ rk 2, d0 ^^^ rk 3)).2.1) ((iter (arnd rk) i (a ^^^ rk 0, b ^^^ rk 1, c0 ^^^ rk 2, d0 ^^^ rk 3)).2.2.1) ((iter (arnd rk) i (a ^^^ rk 0, b ^^^ rk 1, c0 ^^^ rk 2, d0 ^^^ rk 3)).2.2.2)) ) (va_cwS 1 hts (sb_gS k_463 k_464 k_26 k_465) rfl rfl rfl (by decide +kernel) ⟨Nat.le_of_ble_eq_true rfl, Nat.le_of_ble_eq_true rfl⟩) (sb_rS hG hP hS [] rfl) rfl rfl hl.1 rfl (lv_room (Nat.le_of_ble_eq_true rfl)) d_A_turn_67 ⟨Nat.le_of_ble_eq_true rfl, Nat.le_of_ble_eq_true rfl⟩).run (fun r_16 er_16 => ?_)
      subst er_16
      refine lv_aload_n hx hb d_A_turn_70 rfl (lv_at hl 6 rfl) ?_
      refine va_get (D := D) (ci := 0) (v := .ref k) (C := R_A) (T := F_A) (N := 2) hx hb hts in_A hown hG.1 hP 0 rfl rfl 0 (by decide) (hts _ k_83) (fun _ h9 => h9) rfl d_A_turn_71 ?_
      refine lv_iload hx hb d_A_turn_74 (lv_at hl 4 rfl) ?_
      refine sb_ild hx hb hG.1 hP 1 rfl (4 + 4 * i) rfl (by omega) (by omega) d_A_turn_76 ?_
      refine lv_ixor hx hb d_A_turn_77 ?_
      refine lv_topi (fun x_17 ex_17 => ?_)
      refine lv_istore (lv' := [(12, .int x_17), (6, .int ((iter (arnd rk) i (a ^^^ rk 0, b ^^^ rk 1, c0 ^^^ rk 2, d0 ^^^ rk 3)).1)), (7, .int ((iter (arnd rk) i (a ^^^ rk 0, b ^^^ rk 1, c0 ^^^ rk 2, d0 ^^^ rk 3)).2.1)), (8, .int ((iter (arnd rk) i (a ^^^ rk 0, b ^^^ rk 1, c0 ^^^ rk 2, d0 ^^^ rk 3)).2.2.1)), (9, .int ((iter (arnd rk) i (a ^^^ rk 0, b ^^^ rk 1, c0 ^^^ rk 2, d0 ^^^ rk 3)).2.2.2)), (10, .int (nI (4 + 4 * i))), (11, .int (nI (1 + i))), (0, .ref h), (1, .int a), (2, .int b), (3, .int c0), (4, .int d0), (5, .ref q)]) hx hb d_A_turn_78 hl (by decide) rfl (fun ls hl => ?_)
      refine lv_iload hx hb d_A_turn_80 (lv_at hl 2 rfl) ?_
      refine lv_iload hx hb d_A_turn_82 (lv_at hl 3 rfl) ?_
      refine lv_iload hx hb d_A_turn_84 (lv_at hl 4 rfl) ?_
      refine lv_iload hx hb d_A_turn_86 (lv_at hl 1 rfl) ?_
      refine vp_callSi (va_runS (As := [.int ((iter (arnd rk) i (a ^^^ rk 0, b ^^^ rk 1, c0 ^^^ rk 2, d0 ^^^ rk 3)).2.1), .int ((iter (arnd rk) i (a ^^^ rk 0, b ^^^ rk 1, c0 ^^^ rk 2, d0 ^^^ rk 3)).2.2.1), .int ((iter (arnd rk) i (a ^^^ rk 0, b ^^^ rk 1, c0 ^^^ rk 2, d0 ^^^ rk 3)).2.2.2), .int ((iter (arnd rk) i (a ^^^ rk 0, b ^^^ rk 1, c0 ^^^ rk 2, d0 ^^^ rk 3)).1)]) (rest := []) ⟨hx, hb, hml, hown, hts⟩ (c_A_substituted l D cI cL cB tS tF ((iter (arnd rk) i (a ^^^ rk 0, b ^^^ rk 1, c0 ^^^ rk 2, d0 ^^^ rk 3)).2.1) ((iter (arnd rk) i (a ^^^ rk 0, b ^^^ rk 1, c0 ^^^ rk 2, d0 ^^^ rk 3)).2.2.1) ((iter (arnd rk) i (a ^^^ rk 0, b ^^^ rk 1, c0 ^^^ rk 2, d0 ^^^ rk 3)).2.2.2) ((iter (arnd rk) i (a ^^^ rk 0, b ^^^ rk 1, c0 ^^^ rk 2, d0 ^^^ rk 3)).1) ) (va_cwS 4 hts (sb_gS k_449 k_450 k_26 k_451) rfl rfl rfl (by decide +kernel) ⟨Nat.le_of_ble_eq_true rfl, Nat.le_of_ble_eq_true rfl⟩) (sb_rS hG hP hS [] rfl) rfl rfl hl.1 rfl (lv_room (Nat.le_of_ble_eq_true rfl)) d_A_turn_88 ⟨Nat.le_of_ble_eq_true rfl, Nat.le_of_ble_eq_true rfl⟩).run (fun r_18 er_18 => ?_)
      subst er_18
      refine vp_callSi (va_runS (As := [.int (subI ((iter (arnd rk) i (a ^^^ rk 0, b ^^^ rk 1, c0 ^^^ rk 2, d0 ^^^ rk 3)).2.1) ((iter (arnd rk) i (a ^^^ rk 0, b ^^^ rk 1, c0 ^^^ rk 2, d0 ^^^ rk 3)).2.2.1) ((iter (arnd rk) i (a ^^^ rk 0, b ^^^ rk 1, c0 ^^^ rk 2, d0 ^^^ rk 3)).2.2.2) ((iter (arnd rk) i (a ^^^ rk 0, b ^^^ rk 1, c0 ^^^ rk 2, d0 ^^^ rk 3)).1))]) (rest := []) ⟨hx, hb, hml, hown, hts⟩ (c_A_mixed l D cI cL cB tS tF (subI ((iter (arnd rk) i (a ^^^ rk 0, b ^^^ rk 1, c0 ^^^ rk 2, d0 ^^^ rk 3)).2.1) ((iter (arnd rk) i (a ^^^ rk 0, b ^^^ rk 1, c0 ^^^ rk 2, d0 ^^^ rk 3)).2.2.1) ((iter (arnd rk) i (a ^^^ rk 0, b ^^^ rk 1, c0 ^^^ rk 2, d0 ^^^ rk 3)).2.2.2) ((iter (arnd rk) i (a ^^^ rk 0, b ^^^ rk 1, c0 ^^^ rk 2, d0 ^^^ rk 3)).1)) ) (va_cwS 1 hts (sb_gS k_463 k_464 k_26 k_465) rfl rfl rfl (by decide +kernel) ⟨Nat.le_of_ble_eq_true rfl, Nat.le_of_ble_eq_true rfl⟩) (sb_rS hG hP hS [] rfl) rfl rfl hl.1 rfl (lv_room (Nat.le_of_ble_eq_true rfl)) d_A_turn_91 ⟨Nat.le_of_ble_eq_true rfl, Nat.le_of_ble_eq_true rfl⟩).run (fun r_19 er_19 => ?_)
      subst er_19
      refine lv_aload_n hx hb d_A_turn_94 rfl (lv_at hl 7 rfl) ?_
      refine va_get (D := D) (ci := 0) (v := .ref k) (C := R_A) (T := F_A) (N := 2) hx hb hts in_A hown hG.1 hP 0 rfl rfl 0 (by decide) (hts _ k_83) (fun _ h9 => h9) rfl d_A_turn_95 ?_
      refine lv_iload hx hb d_A_turn_98 (lv_at hl 5 rfl) ?_
      refine lv_iconst (v := 1) hx hb d_A_turn_100 (by decide) ?_
      refine lv_iadd hx hb d_A_turn_101 ?_
      refine sb_topn ((4 + 4 * i) + 1) (nI_add (4 + 4 * i) 1) ?_
      refine sb_ild hx hb hG.1 hP 1 rfl ((4 + 4 * i) + 1) rfl (by omega) (by omega) d_A_turn_102 ?_
      refine lv_ixor hx hb d_A_turn_103 ?_
      refine lv_topi (fun x_20 ex_20 => ?_)
      refine lv_istore (lv' := [(13, .int x_20), (12, .int x_17), (6, .int ((iter (arnd rk) i (a ^^^ rk 0, b ^^^ rk 1, c0 ^^^ rk 2, d0 ^^^ rk 3)).1)), (7, .int ((iter (arnd rk) i (a ^^^ rk 0, b ^^^ rk 1, c0 ^^^ rk 2, d0 ^^^ rk 3)).2.1)), (8, .int ((iter (arnd rk) i (a ^^^ rk 0, b ^^^ rk 1, c0 ^^^ rk 2, d0 ^^^ rk 3)).2.2.1)), (9, .int ((iter (arnd rk) i (a ^^^ rk 0, b ^^^ rk 1, c0 ^^^ rk 2, d0 ^^^ rk 3)).2.2.2)), (10, .int (nI (4 + 4 * i))), (11, .int (nI (1 + i))), (0, .ref h), (1, .int a), (2, .int b), (3, .int c0), (4, .int d0), (5, .ref q)]) hx hb d_A_turn_104 hl (by decide) rfl (fun ls hl => ?_)
      refine lv_iload hx hb d_A_turn_106 (lv_at hl 4 rfl) ?_
      refine lv_iload hx hb d_A_turn_108 (lv_at hl 5 rfl) ?_
      refine lv_iload hx hb d_A_turn_110 (lv_at hl 2 rfl) ?_
      refine lv_iload hx hb d_A_turn_112 (lv_at hl 3 rfl) ?_
      refine vp_callSi (va_runS (As := [.int ((iter (arnd rk) i (a ^^^ rk 0, b ^^^ rk 1, c0 ^^^ rk 2, d0 ^^^ rk 3)).2.2.1), .int ((iter (arnd rk) i (a ^^^ rk 0, b ^^^ rk 1, c0 ^^^ rk 2, d0 ^^^ rk 3)).2.2.2), .int ((iter (arnd rk) i (a ^^^ rk 0, b ^^^ rk 1, c0 ^^^ rk 2, d0 ^^^ rk 3)).1), .int ((iter (arnd rk) i (a ^^^ rk 0, b ^^^ rk 1, c0 ^^^ rk 2, d0 ^^^ rk 3)).2.1)]) (rest := []) ⟨hx, hb, hml, hown, hts⟩ (c_A_substituted l D cI cL cB tS tF ((iter (arnd rk) i (a ^^^ rk 0, b ^^^ rk 1, c0 ^^^ rk 2, d0 ^^^ rk 3)).2.2.1) ((iter (arnd rk) i (a ^^^ rk 0, b ^^^ rk 1, c0 ^^^ rk 2, d0 ^^^ rk 3)).2.2.2) ((iter (arnd rk) i (a ^^^ rk 0, b ^^^ rk 1, c0 ^^^ rk 2, d0 ^^^ rk 3)).1) ((iter (arnd rk) i (a ^^^ rk 0, b ^^^ rk 1, c0 ^^^ rk 2, d0 ^^^ rk 3)).2.1) ) (va_cwS 4 hts (sb_gS k_449 k_450 k_26 k_451) rfl rfl rfl (by decide +kernel) ⟨Nat.le_of_ble_eq_true rfl, Nat.le_of_ble_eq_true rfl⟩) (sb_rS hG hP hS [] rfl) rfl rfl hl.1 rfl (lv_room (Nat.le_of_ble_eq_true rfl)) d_A_turn_114 ⟨Nat.le_of_ble_eq_true rfl, Nat.le_of_ble_eq_true rfl⟩).run (fun r_21 er_21 => ?_)
      subst er_21
      refine vp_callSi (va_runS (As := [.int (subI ((iter (arnd rk) i (a ^^^ rk 0, b ^^^ rk 1, c0 ^^^ rk 2, d0 ^^^ rk 3)).2.2.1) ((iter (arnd rk) i (a ^^^ rk 0, b ^^^ rk 1, c0 ^^^ rk 2, d0 ^^^ rk 3)).2.2.2) ((iter (arnd rk) i (a ^^^ rk 0, b ^^^ rk 1, c0 ^^^ rk 2, d0 ^^^ rk 3)).1) ((iter (arnd rk) i (a ^^^ rk 0, b ^^^ rk 1, c0 ^^^ rk 2, d0 ^^^ rk 3)).2.1))]) (rest := []) ⟨hx, hb, hml, hown, hts⟩ (c_A_mixed l D cI cL cB tS tF (subI ((iter (arnd rk) i (a ^^^ rk 0, b ^^^ rk 1, c0 ^^^ rk 2, d0 ^^^ rk 3)).2.2.1) ((iter (arnd rk) i (a ^^^ rk 0, b ^^^ rk 1, c0 ^^^ rk 2, d0 ^^^ rk 3)).2.2.2) ((iter (arnd rk) i (a ^^^ rk 0, b ^^^ rk 1, c0 ^^^ rk 2, d0 ^^^ rk 3)).1) ((iter (arnd rk) i (a ^^^ rk 0, b ^^^ rk 1, c0 ^^^ rk 2, d0 ^^^ rk 3)).2.1)) ) (va_cwS 1 hts (sb_gS k_463 k_464 k_26 k_465) rfl rfl rfl (by decide +kernel) ⟨Nat.le_of_ble_eq_true rfl, Nat.le_of_ble_eq_true rfl⟩) (sb_rS hG hP hS [] rfl) rfl rfl hl.1 rfl (lv_room (Nat.le_of_ble_eq_true rfl)) d_A_turn_117 ⟨Nat.le_of_ble_eq_true rfl, Nat.le_of_ble_eq_true rfl⟩).run (fun r_22 er_22 => ?_)
      subst er_22
      refine lv_aload_n hx hb d_A_turn_120 rfl (lv_at hl 8 rfl) ?_
      refine va_get (D := D) (ci := 0) (v := .ref k) (C := R_A) (T := F_A) (N := 2) hx hb hts in_A hown hG.1 hP 0 rfl rfl 0 (by decide) (hts _ k_83) (fun _ h9 => h9) rfl d_A_turn_121 ?_
      refine lv_iload hx hb d_A_turn_124 (lv_at hl 6 rfl) ?_
      refine lv_iconst (v := 2) hx hb d_A_turn_126 (by decide) ?_
      refine lv_iadd hx hb d_A_turn_127 ?_
      refine sb_topn ((4 + 4 * i) + 2) (nI_add (4 + 4 * i) 2) ?_
      refine sb_ild hx hb hG.1 hP 1 rfl ((4 + 4 * i) + 2) rfl (by omega) (by omega) d_A_turn_128 ?_
      refine lv_ixor hx hb d_A_turn_129 ?_
      refine lv_topi (fun x_23 ex_23 => ?_)
      refine lv_istore (lv' := [(14, .int x_23), (13, .int x_20), (12, .int x_17), (6, .int ((iter (arnd rk) i (a ^^^ rk 0, b ^^^ rk 1, c0 ^^^ rk 2, d0 ^^^ rk 3)).1)), (7, .int ((iter (arnd rk) i (a ^^^ rk 0, b ^^^ rk 1, c0 ^^^ rk 2, d0 ^^^ rk 3)).2.1)), (8, .int ((iter (arnd rk) i (a ^^^ rk 0, b ^^^ rk 1, c0 ^^^ rk 2, d0 ^^^ rk 3)).2.2.1)), (9, .int ((iter (arnd rk) i (a ^^^ rk 0, b ^^^ rk 1, c0 ^^^ rk 2, d0 ^^^ rk 3)).2.2.2)), (10, .int (nI (4 + 4 * i))), (11, .int (nI (1 + i))), (0, .ref h), (1, .int a), (2, .int b), (3, .int c0), (4, .int d0), (5, .ref q)]) hx hb d_A_turn_130 hl (by decide) rfl (fun ls hl => ?_)
      refine lv_iload hx hb d_A_turn_132 (lv_at hl 6 rfl) ?_
      refine lv_iload hx hb d_A_turn_134 (lv_at hl 3 rfl) ?_
      refine lv_iload hx hb d_A_turn_136 (lv_at hl 4 rfl) ?_
      refine lv_iload hx hb d_A_turn_138 (lv_at hl 5 rfl) ?_
      refine vp_callSi (va_runS (As := [.int ((iter (arnd rk) i (a ^^^ rk 0, b ^^^ rk 1, c0 ^^^ rk 2, d0 ^^^ rk 3)).2.2.2), .int ((iter (arnd rk) i (a ^^^ rk 0, b ^^^ rk 1, c0 ^^^ rk 2, d0 ^^^ rk 3)).1), .int ((iter (arnd rk) i (a ^^^ rk 0, b ^^^ rk 1, c0 ^^^ rk 2, d0 ^^^ rk 3)).2.1), .int ((iter (arnd rk) i (a ^^^ rk 0, b ^^^ rk 1, c0 ^^^ rk 2, d0 ^^^ rk 3)).2.2.1)]) (rest := []) ⟨hx, hb, hml, hown, hts⟩ (c_A_substituted l D cI cL cB tS tF ((iter (arnd rk) i (a ^^^ rk 0, b ^^^ rk 1, c0 ^^^ rk 2, d0 ^^^ rk 3)).2.2.2) ((iter (arnd rk) i (a ^^^ rk 0, b ^^^ rk 1, c0 ^^^ rk 2, d0 ^^^ rk 3)).1) ((iter (arnd rk) i (a ^^^ rk 0, b ^^^ rk 1, c0 ^^^ rk 2, d0 ^^^ rk 3)).2.1) ((iter (arnd rk) i (a ^^^ rk 0, b ^^^ rk 1, c0 ^^^ rk 2, d0 ^^^ rk 3)).2.2.1) ) (va_cwS 4 hts (sb_gS k_449 k_450 k_26 k_451) rfl rfl rfl (by decide +kernel) ⟨Nat.le_of_ble_eq_true rfl, Nat.le_of_ble_eq_true rfl⟩) (sb_rS hG hP hS [] rfl) rfl rfl hl.1 rfl (lv_room (Nat.le_of_ble_eq_true rfl)) d_A_turn_140 ⟨Nat.le_of_ble_eq_true rfl, Nat.le_of_ble_eq_true rfl⟩).run (fun r_24 er_24 => ?_)
      subst er_24
      refine vp_callSi (va_runS (As := [.int (subI ((iter (arnd rk) i (a ^^^ rk 0, b ^^^ rk 1, c0 ^^^ rk 2, d0 ^^^ rk 3)).2.2.2) ((iter (arnd rk) i (a ^^^ rk 0, b ^^^ rk 1, c0 ^^^ rk 2, d0 ^^^ rk 3)).1) ((iter (arnd rk) i (a ^^^ rk 0, b ^^^ rk 1, c0 ^^^ rk 2, d0 ^^^ rk 3)).2.1) ((iter (arnd rk) i (a ^^^ rk 0, b ^^^ rk 1, c0 ^^^ rk 2, d0 ^^^ rk 3)).2.2.1))]) (rest := []) ⟨hx, hb, hml, hown, hts⟩ (c_A_mixed l D cI cL cB tS tF (subI ((iter (arnd rk) i (a ^^^ rk 0, b ^^^ rk 1, c0 ^^^ rk 2, d0 ^^^ rk 3)).2.2.2) ((iter (arnd rk) i (a ^^^ rk 0, b ^^^ rk 1, c0 ^^^ rk 2, d0 ^^^ rk 3)).1) ((iter (arnd rk) i (a ^^^ rk 0, b ^^^ rk 1, c0 ^^^ rk 2, d0 ^^^ rk 3)).2.1) ((iter (arnd rk) i (a ^^^ rk 0, b ^^^ rk 1, c0 ^^^ rk 2, d0 ^^^ rk 3)).2.2.1)) ) (va_cwS 1 hts (sb_gS k_463 k_464 k_26 k_465) rfl rfl rfl (by decide +kernel) ⟨Nat.le_of_ble_eq_true rfl, Nat.le_of_ble_eq_true rfl⟩) (sb_rS hG hP hS [] rfl) rfl rfl hl.1 rfl (lv_room (Nat.le_of_ble_eq_true rfl)) d_A_turn_143 ⟨Nat.le_of_ble_eq_true rfl, Nat.le_of_ble_eq_true rfl⟩).run (fun r_25 er_25 => ?_)
      subst er_25
      refine lv_aload_n hx hb d_A_turn_146 rfl (lv_at hl 9 rfl) ?_
      refine va_get (D := D) (ci := 0) (v := .ref k) (C := R_A) (T := F_A) (N := 2) hx hb hts in_A hown hG.1 hP 0 rfl rfl 0 (by decide) (hts _ k_83) (fun _ h9 => h9) rfl d_A_turn_147 ?_
      refine lv_iload hx hb d_A_turn_150 (lv_at hl 7 rfl) ?_
      refine lv_iconst (v := 3) hx hb d_A_turn_152 (by decide) ?_
      refine lv_iadd hx hb d_A_turn_153 ?_
      refine sb_topn ((4 + 4 * i) + 3) (nI_add (4 + 4 * i) 3) ?_
      refine sb_ild hx hb hG.1 hP 1 rfl ((4 + 4 * i) + 3) rfl (by omega) (by omega) d_A_turn_154 ?_
      refine lv_ixor hx hb d_A_turn_155 ?_
      refine lv_topi (fun x_26 ex_26 => ?_)
      refine lv_istore (lv' := [(9, .int x_26), (14, .int x_23), (13, .int x_20), (12, .int x_17), (6, .int ((iter (arnd rk) i (a ^^^ rk 0, b ^^^ rk 1, c0 ^^^ rk 2, d0 ^^^ rk 3)).1)), (7, .int ((iter (arnd rk) i (a ^^^ rk 0, b ^^^ rk 1, c0 ^^^ rk 2, d0 ^^^ rk 3)).2.1)), (8, .int ((iter (arnd rk) i (a ^^^ rk 0, b ^^^ rk 1, c0 ^^^ rk 2, d0 ^^^ rk 3)).2.2.1)), (10, .int (nI (4 + 4 * i))), (11, .int (nI (1 + i))), (0, .ref h), (1, .int a), (2, .int b), (3, .int c0), (4, .int d0), (5, .ref q)]) hx hb d_A_turn_156 hl (by decide) rfl (fun ls hl => ?_)
      refine lv_iload hx hb d_A_turn_158 (lv_at hl 3 rfl) ?_
      refine lv_istore (lv' := [(6, .int x_17), (9, .int x_26), (14, .int x_23), (13, .int x_20), (12, .int x_17), (7, .int ((iter (arnd rk) i (a ^^^ rk 0, b ^^^ rk 1, c0 ^^^ rk 2, d0 ^^^ rk 3)).2.1)), (8, .int ((iter (arnd rk) i (a ^^^ rk 0, b ^^^ rk 1, c0 ^^^ rk 2, d0 ^^^ rk 3)).2.2.1)), (10, .int (nI (4 + 4 * i))), (11, .int (nI (1 + i))), (0, .ref h), (1, .int a), (2, .int b), (3, .int c0), (4, .int d0), (5, .ref q)]) hx hb d_A_turn_160 hl (by decide) rfl (fun ls hl => ?_)
      refine lv_iload hx hb d_A_turn_162 (lv_at hl 3 rfl) ?_
      refine lv_istore (lv' := [(7, .int x_20), (6, .int x_17), (9, .int x_26), (14, .int x_23), (13, .int x_20), (12, .int x_17), (8, .int ((iter (arnd rk) i (a ^^^ rk 0, b ^^^ rk 1, c0 ^^^ rk 2, d0 ^^^ rk 3)).2.2.1)), (10, .int (nI (4 + 4 * i))), (11, .int (nI (1 + i))), (0, .ref h), (1, .int a), (2, .int b), (3, .int c0), (4, .int d0), (5, .ref q)]) hx hb d_A_turn_164 hl (by decide) rfl (fun ls hl => ?_)
      refine lv_iload hx hb d_A_turn_166 (lv_at hl 3 rfl) ?_
      refine lv_istore (lv' := [(8, .int x_23), (7, .int x_20), (6, .int x_17), (9, .int x_26), (14, .int x_23), (13, .int x_20), (12, .int x_17), (10, .int (nI (4 + 4 * i))), (11, .int (nI (1 + i))), (0, .ref h), (1, .int a), (2, .int b), (3, .int c0), (4, .int d0), (5, .ref q)]) hx hb d_A_turn_168 hl (by decide) rfl (fun ls hl => ?_)
      refine lv_iinc (v := nI ((4 + 4 * i) + 4)) (lv' := [(10, .int (nI ((4 + 4 * i) + 4))), (8, .int x_23), (7, .int x_20), (6, .int x_17), (9, .int x_26), (14, .int x_23), (13, .int x_20), (12, .int x_17), (11, .int (nI (1 + i))), (0, .ref h), (1, .int a), (2, .int b), (3, .int c0), (4, .int d0), (5, .ref q)]) hx hb d_A_turn_170 hl (k := 7) rfl (sb_inc (a := 4 + 4 * i) (b := (4 + 4 * i) + 4) (d := 4) rfl (by decide) (by omega)) (by decide) rfl (fun ls hl => ?_)
      refine lv_iinc (v := nI ((1 + i) + 1)) (lv' := [(11, .int (nI ((1 + i) + 1))), (10, .int (nI ((4 + 4 * i) + 4))), (8, .int x_23), (7, .int x_20), (6, .int x_17), (9, .int x_26), (14, .int x_23), (13, .int x_20), (12, .int x_17), (0, .ref h), (1, .int a), (2, .int b), (3, .int c0), (4, .int d0), (5, .ref q)]) hx hb d_A_turn_173 hl (k := 8) rfl (sb_inc (a := 1 + i) (b := (1 + i) + 1) (d := 1) rfl (by decide) (by omega)) (by decide) rfl (fun ls hl => ?_)
      refine lv_goto (tgt := 47) hx hb d_A_turn_176 (by decide) ?_
      obtain rfl : x_17 = (iter (arnd rk) (i + 1) (a ^^^ rk 0, b ^^^ rk 1, c0 ^^^ rk 2, d0 ^^^ rk 3)).1 := (by subst_vars; rfl)
      obtain rfl : x_20 = (iter (arnd rk) (i + 1) (a ^^^ rk 0, b ^^^ rk 1, c0 ^^^ rk 2, d0 ^^^ rk 3)).2.1 := (by subst_vars; rfl)
      obtain rfl : x_23 = (iter (arnd rk) (i + 1) (a ^^^ rk 0, b ^^^ rk 1, c0 ^^^ rk 2, d0 ^^^ rk 3)).2.2.1 := (by subst_vars; rfl)
      obtain rfl : x_26 = (iter (arnd rk) (i + 1) (a ^^^ rk 0, b ^^^ rk 1, c0 ^^^ rk 2, d0 ^^^ rk 3)).2.2.2 := (by subst_vars; rfl)
      rw [show nI ((4 + 4 * i) + 4) = nI (4 + 4 * (i + 1)) from congrArg nI (by omega)] at hl
      exact ih1 (i + 1) (by omega) _ _ ls (hP.sub [0, 1, 2] rfl) (hD.sub [0, 1, 2] (by decide) rfl) hS (lv_sub hl [4, 3, 2, 5, 1, 0, 9, 10, 11, 12, 13, 14] rfl)
  obtain rfl : x_1 = (iter (arnd rk) 0 (a ^^^ rk 0, b ^^^ rk 1, c0 ^^^ rk 2, d0 ^^^ rk 3)).1 := (by subst_vars; rfl)
  obtain rfl : x_2 = (iter (arnd rk) 0 (a ^^^ rk 0, b ^^^ rk 1, c0 ^^^ rk 2, d0 ^^^ rk 3)).2.1 := (by subst_vars; rfl)
  obtain rfl : x_3 = (iter (arnd rk) 0 (a ^^^ rk 0, b ^^^ rk 1, c0 ^^^ rk 2, d0 ^^^ rk 3)).2.2.1 := (by subst_vars; rfl)
  obtain rfl : x_4 = (iter (arnd rk) 0 (a ^^^ rk 0, b ^^^ rk 1, c0 ^^^ rk 2, d0 ^^^ rk 3)).2.2.2 := (by subst_vars; rfl)
  exact lp1 (rnd - 1) 0 (by omega) _ _ ls (hP.sub [0, 1, 2] rfl) (hD.sub [0, 1, 2] (by decide) rfl) hS (lv_sub hl [5, 4, 3, 2, 1, 0, 6, 7, 8, 9, 10, 11] rfl)

theorem d_A_expandKey_0 : decode b_A_expandKey 0 = .ok (.aload_n 1, 1) := by decide +kernel
theorem d_A_expandKey_1 : decode b_A_expandKey 1 = .ok (.getfield 17, 3) := by decide +kernel
theorem d_A_expandKey_4 : decode b_A_expandKey 4 = .ok (.bipush 16, 2) := by decide +kernel
theorem d_A_expandKey_6 : decode b_A_expandKey 6 = .ok (.if_icmp .ne 7, 3) := by decide +kernel
theorem d_A_expandKey_9 : decode b_A_expandKey 9 = .ok (.iconst 4, 1) := by decide +kernel
theorem d_A_expandKey_10 : decode b_A_expandKey 10 = .ok (.goto 5, 3) := by decide +kernel
theorem d_A_expandKey_13 : decode b_A_expandKey 13 = .ok (.bipush 8, 2) := by decide +kernel
theorem d_A_expandKey_15 : decode b_A_expandKey 15 = .ok (.istore_n 2, 1) := by decide +kernel
theorem d_A_expandKey_16 : decode b_A_expandKey 16 = .ok (.aload_n 0, 1) := by decide +kernel
theorem d_A_expandKey_17 : decode b_A_expandKey 17 = .ok (.iload_n 2, 1) := by decide +kernel
theorem d_A_expandKey_18 : decode b_A_expandKey 18 = .ok (.bipush 6, 2) := by decide +kernel
theorem d_A_expandKey_20 : decode b_A_expandKey 20 = .ok (.iadd, 1) := by decide +kernel
theorem d_A_expandKey_21 : decode b_A_expandKey 21 = .ok (.putfield 13, 3) := by decide +kernel
theorem d_A_expandKey_24 : decode b_A_expandKey 24 = .ok (.iconst 0, 1) := by decide +kernel
theorem d_A_expandKey_25 : decode b_A_expandKey 25 = .ok (.istore_n 3, 1) := by decide +kernel
theorem d_A_expandKey_26 : decode b_A_expandKey 26 = .ok (.iload_n 3, 1) := by decide +kernel
theorem d_A_expandKey_27 : decode b_A_expandKey 27 = .ok (.iload_n 2, 1) := by decide +kernel
theorem d_A_expandKey_28 : decode b_A_expandKey 28 = .ok (.if_icmp .ge 26, 3) := by decide +kernel
theorem d_A_expandKey_31 : decode b_A_expandKey 31 = .ok (.aload_n 0, 1) := by decide +kernel
theorem d_A_expandKey_32 : decode b_A_expandKey 32 = .ok (.getfield 7, 3) := by decide +kernel
theorem d_A_expandKey_35 : decode b_A_expandKey 35 = .ok (.iload_n 3, 1) := by decide +kernel
theorem d_A_expandKey_36 : decode b_A_expandKey 36 = .ok (.aload_n 1, 1) := by decide +kernel
theorem d_A_expandKey_37 : decode b_A_expandKey 37 = .ok (.iconst 4, 1) := by decide +kernel
theorem d_A_expandKey_38 : decode b_A_expandKey 38 = .ok (.iload_n 3, 1) := by decide +kernel
theorem d_A_expandKey_39 : decode b_A_expandKey 39 = .ok (.imul, 1) := by decide +kernel
theorem d_A_expandKey_40 : decode b_A_expandKey 40 = .ok (.aload_n 1, 1) := by decide +kernel
theorem d_A_expandKey_41 : decode b_A_expandKey 41 = .ok (.getfield 17, 3) := by decide +kernel
theorem d_A_expandKey_44 : decode b_A_expandKey 44 = .ok (.invokevirtual 22, 3) := by decide +kernel
theorem d_A_expandKey_47 : decode b_A_expandKey 47 = .ok (.iastore, 1) := by decide +kernel
theorem d_A_expandKey_48 : decode b_A_expandKey 48 = .ok (.iinc 3 1, 3) := by decide +kernel
theorem d_A_expandKey_51 : decode b_A_expandKey 51 = .ok (.goto (-25), 3) := by decide +kernel
theorem d_A_expandKey_54 : decode b_A_expandKey 54 = .ok (.ldc 26, 2) := by decide +kernel
theorem d_A_expandKey_56 : decode b_A_expandKey 56 = .ok (.istore_n 3, 1) := by decide +kernel
theorem d_A_expandKey_57 : decode b_A_expandKey 57 = .ok (.iload_n 2, 1) := by decide +kernel
theorem d_A_expandKey_58 : decode b_A_expandKey 58 = .ok (.istore 4, 2) := by decide +kernel
theorem d_A_expandKey_60 : decode b_A_expandKey 60 = .ok (.iload 4, 2) := by decide +kernel
theorem d_A_expandKey_62 : decode b_A_expandKey 62 = .ok (.iconst 4, 1) := by decide +kernel
theorem d_A_expandKey_63 : decode b_A_expandKey 63 = .ok (.aload_n 0, 1) := by decide +kernel
theorem d_A_expandKey_64 : decode b_A_expandKey 64 = .ok (.getfield 13, 3) := by decide +kernel
theorem d_A_expandKey_67 : decode b_A_expandKey 67 = .ok (.iconst 1, 1) := by decide +kernel
theorem d_A_expandKey_68 : decode b_A_expandKey 68 = .ok (.iadd, 1) := by decide +kernel
theorem d_A_expandKey_69 : decode b_A_expandKey 69 = .ok (.imul, 1) := by decide +kernel
theorem d_A_expandKey_70 : decode b_A_expandKey 70 = .ok (.if_icmp .ge 99, 3) := by decide +kernel
theorem d_A_expandKey_73 : decode b_A_expandKey 73 = .ok (.aload_n 0, 1) := by decide +kernel
theorem d_A_expandKey_74 : decode b_A_expandKey 74 = .ok (.getfield 7, 3) := by decide +kernel
theorem d_A_expandKey_77 : decode b_A_expandKey 77 = .ok (.iload 4, 2) := by decide +kernel
theorem d_A_expandKey_79 : decode b_A_expandKey 79 = .ok (.iconst 1, 1) := by decide +kernel
theorem d_A_expandKey_80 : decode b_A_expandKey 80 = .ok (.isub, 1) := by decide +kernel
theorem d_A_expandKey_81 : decode b_A_expandKey 81 = .ok (.iaload, 1) := by decide +kernel
theorem d_A_expandKey_82 : decode b_A_expandKey 82 = .ok (.istore 5, 2) := by decide +kernel
theorem d_A_expandKey_84 : decode b_A_expandKey 84 = .ok (.iload 4, 2) := by decide +kernel
theorem d_A_expandKey_86 : decode b_A_expandKey 86 = .ok (.iload_n 2, 1) := by decide +kernel
theorem d_A_expandKey_87 : decode b_A_expandKey 87 = .ok (.irem, 1) := by decide +kernel
theorem d_A_expandKey_88 : decode b_A_expandKey 88 = .ok (.ifCond .ne 35, 3) := by decide +kernel
theorem d_A_expandKey_91 : decode b_A_expandKey 91 = .ok (.iload 5, 2) := by decide +kernel
theorem d_A_expandKey_93 : decode b_A_expandKey 93 = .ok (.bipush 8, 2) := by decide +kernel
theorem d_A_expandKey_95 : decode b_A_expandKey 95 = .ok (.invokestatic 27, 3) := by decide +kernel
theorem d_A_expandKey_98 : decode b_A_expandKey 98 = .ok (.istore 6, 2) := by decide +kernel
theorem d_A_expandKey_100 : decode b_A_expandKey 100 = .ok (.iload 6, 2) := by decide +kernel
theorem d_A_expandKey_102 : decode b_A_expandKey 102 = .ok (.iload 6, 2) := by decide +kernel
theorem d_A_expandKey_104 : decode b_A_expandKey 104 = .ok (.iload 6, 2) := by decide +kernel
theorem d_A_expandKey_106 : decode b_A_expandKey 106 = .ok (.iload 6, 2) := by decide +kernel
theorem d_A_expandKey_108 : decode b_A_expandKey 108 = .ok (.invokestatic 32, 3) := by decide +kernel
theorem d_A_expandKey_111 : decode b_A_expandKey 111 = .ok (.iload_n 3, 1) := by decide +kernel
theorem d_A_expandKey_112 : decode b_A_expandKey 112 = .ok (.ixor, 1) := by decide +kernel
theorem d_A_expandKey_113 : decode b_A_expandKey 113 = .ok (.istore 5, 2) := by decide +kernel
theorem d_A_expandKey_115 : decode b_A_expandKey 115 = .ok (.iload_n 3, 1) := by decide +kernel
theorem d_A_expandKey_116 : decode b_A_expandKey 116 = .ok (.invokestatic 36, 3) := by decide +kernel
theorem d_A_expandKey_119 : decode b_A_expandKey 119 = .ok (.istore_n 3, 1) := by decide +kernel
theorem d_A_expandKey_120 : decode b_A_expandKey 120 = .ok (.goto 24, 3) := by decide +kernel
theorem d_A_expandKey_123 : decode b_A_expandKey 123 = .ok (.iload 4, 2) := by decide +kernel
theorem d_A_expandKey_125 : decode b_A_expandKey 125 = .ok (.iload_n 2, 1) := by decide +kernel
theorem d_A_expandKey_126 : decode b_A_expandKey 126 = .ok (.irem, 1) := by decide +kernel
theorem d_A_expandKey_127 : decode b_A_expandKey 127 = .ok (.iconst 4, 1) := by decide +kernel
theorem d_A_expandKey_128 : decode b_A_expandKey 128 = .ok (.if_icmp .ne 16, 3) := by decide +kernel
theorem d_A_expandKey_131 : decode b_A_expandKey 131 = .ok (.iload 5, 2) := by decide +kernel
theorem d_A_expandKey_133 : decode b_A_expandKey 133 = .ok (.iload 5, 2) := by decide +kernel
theorem d_A_expandKey_135 : decode b_A_expandKey 135 = .ok (.iload 5, 2) := by decide +kernel
theorem d_A_expandKey_137 : decode b_A_expandKey 137 = .ok (.iload 5, 2) := by decide +kernel
theorem d_A_expandKey_139 : decode b_A_expandKey 139 = .ok (.invokestatic 32, 3) := by decide +kernel
theorem d_A_expandKey_142 : decode b_A_expandKey 142 = .ok (.istore 5, 2) := by decide +kernel
theorem d_A_expandKey_144 : decode b_A_expandKey 144 = .ok (.aload_n 0, 1) := by decide +kernel
theorem d_A_expandKey_145 : decode b_A_expandKey 145 = .ok (.getfield 7, 3) := by decide +kernel
theorem d_A_expandKey_148 : decode b_A_expandKey 148 = .ok (.iload 4, 2) := by decide +kernel
theorem d_A_expandKey_150 : decode b_A_expandKey 150 = .ok (.aload_n 0, 1) := by decide +kernel
theorem d_A_expandKey_151 : decode b_A_expandKey 151 = .ok (.getfield 7, 3) := by decide +kernel
theorem d_A_expandKey_154 : decode b_A_expandKey 154 = .ok (.iload 4, 2) := by decide +kernel
theorem d_A_expandKey_156 : decode b_A_expandKey 156 = .ok (.iload_n 2, 1) := by decide +kernel
theorem d_A_expandKey_157 : decode b_A_expandKey 157 = .ok (.isub, 1) := by decide +kernel
theorem d_A_expandKey_158 : decode b_A_expandKey 158 = .ok (.iaload, 1) := by decide +kernel
theorem d_A_expandKey_159 : decode b_A_expandKey 159 = .ok (.iload 5, 2) := by decide +kernel
theorem d_A_expandKey_161 : decode b_A_expandKey 161 = .ok (.ixor, 1) := by decide +kernel
theorem d_A_expandKey_162 : decode b_A_expandKey 162 = .ok (.iastore, 1) := by decide +kernel
theorem d_A_expandKey_163 : decode b_A_expandKey 163 = .ok (.iinc 4 1, 3) := by decide +kernel
theorem d_A_expandKey_166 : decode b_A_expandKey 166 = .ok (.goto (-106), 3) := by decide +kernel
theorem d_A_expandKey_169 : decode b_A_expandKey 169 = .ok (.return_, 1) := by decide +kernel

def rm_A_expandKey4 : Room := { frames := 2, cells := 0, slots := 0, locals := 45 }
set_option maxHeartbeats 4000000 in
set_option maxRecDepth 100000 in
theorem c_A_expandKey4 (l : Launch) (D : va_G) (cI cL cB : ClassId) (tS tF : Nat) (h : Nat) (k : Nat) (hr0 : Nat) (bb : Nat) (n : Nat) (f : Nat → Int32) (rk : Nat → Int32) (rnd : Int32) (sz : Nat) (hln : 16 ≤ n) (hn : n < 2 ^ 31) : Met l y_A_expandKey (sbw y_A_expandKey b_A_expandKey 7 none) rm_A_expandKey4 (sbPc D cI cL cB tS tF [.ref h, .ref hr0] sz [(h, .inr (0, [.ref k, .int rnd])), (k, .inl (cI, 60, .inl rk)), (hr0, .inr (5, [.ref bb, .int (nI 16)])), (bb, .inl (cB, n, .inl f))]) (sbQv D (fun (_ : Unit) => True) (fun (_ : Unit) => [(h, .inr (0, [.ref k, .int (nI 10)])), (k, .inl (cI, 60, .inl (ekey f 16 4 rk))), (hr0, .inr (5, [.ref bb, .int (nI 16)])), (bb, .inl (cB, n, .inl f))]) (va_A [(h, .inr (0, [.ref k, .int rnd])), (k, .inl (cI, 60, .inl rk)), (hr0, .inr (5, [.ref bb, .int (nI 16)])), (bb, .inl (cB, n, .inl f))] sz)) 0 0 (va_A [(h, .inr (0, [.ref k, .int rnd])), (k, .inl (cI, 60, .inl rk)), (hr0, .inr (5, [.ref bb, .int (nI 16)])), (bb, .inl (cB, n, .inl f))] sz) := by
  refine sb_ofW (Qc := fun A => (sbQv D (fun (_ : Unit) => True) (fun (_ : Unit) => [(h, .inr (0, [.ref k, .int (nI 10)])), (k, .inl (cI, 60, .inl (ekey f 16 4 rk))), (hr0, .inr (5, [.ref bb, .int (nI 16)])), (bb, .inl (cB, n, .inl f))]) A)) (by decide) (Nat.le_of_ble_eq_true rfl) ?_
  intro p e s m args below meth c A ls hx hb hr hml hts hown hlocks hin hsz hP hG hD hA hS hl
  have hl : lv_has ls 7 [(0, .ref h), (1, .ref hr0)] := hl
  refine lv_aload_n hx hb d_A_expandKey_0 rfl (lv_at hl 1 rfl) ?_
  refine va_getN (D := D) (ci := 5) (v := .int (nI 16)) (C := R_R) (T := F_R) (N := 2) hx hb hts in_R hown hG.1 hP 2 rfl rfl 1 (by decide) (hG.nest _ n_58) (fun _ h9 => h9) rfl d_A_expandKey_1 ?_
  refine lv_bipush (v := 16) hx hb d_A_expandKey_4 (by decide) ?_
  refine lv_icmp_ne (tgt := 13) hx hb d_A_expandKey_6 (by decide) (fun c_1 => absurd (sb_neF (a := 16) (b := 16) rfl rfl (by omega) (by omega) (by omega)) c_1) (fun c_1 => ?_)
  refine lv_iconst (v := 4) hx hb d_A_expandKey_9 (by decide) ?_
  refine lv_goto (tgt := 15) hx hb d_A_expandKey_10 (by decide) ?_
  refine lv_istore_n (lv' := [(2, .int 4), (0, .ref h), (1, .ref hr0)]) hx hb d_A_expandKey_15 rfl hl (by decide) rfl (fun ls hl => ?_)
  refine lv_aload_n hx hb d_A_expandKey_16 rfl (lv_at hl 1 rfl) ?_
  refine lv_iload_n hx hb d_A_expandKey_17 rfl (lv_at hl 0 rfl) ?_
  refine lv_bipush (v := 6) hx hb d_A_expandKey_18 (by decide) ?_
  refine lv_iadd hx hb d_A_expandKey_20 ?_
  refine sb_topn 10 (sb_eqn (a := 4 + 6) (b := 10) (nI_add 4 6) (by omega)) ?_
  refine va_put (D := D) (ci := 0) (v := .int (nI 10)) (ty := .int) (C := R_A) (T := F_A) (N := 2) hx hb hts in_A tq_A tq_A_ok nq_A hown hG.1 hP hD hS 0 rfl rfl 1 (by decide) (hts _ k_84) (fun _ h9 => h9) rfl (by decide +kernel) rfl rfl (Nat.le_of_ble_eq_true rfl) d_A_expandKey_21 (fun H locs hP hD hS => ?_)
  have hP : va_P D vwCl [(h, .inr (0, [.ref k, .int (nI 10)])), (k, .inl (cI, 60, .inl rk)), (hr0, .inr (5, [.ref bb, .int (nI 16)])), (bb, .inl (cB, n, .inl f))] H := hP
  have hD : va_D A [(h, .inr (0, [.ref k, .int (nI 10)])), (k, .inl (cI, 60, .inl rk)), (hr0, .inr (5, [.ref bb, .int (nI 16)])), (bb, .inl (cB, n, .inl f))] := hD
  refine lv_iconst (v := 0) hx hb d_A_expandKey_24 (by decide) ?_
  refine lv_istore_n (lv' := [(3, .int 0), (2, .int 4), (0, .ref h), (1, .ref hr0)]) hx hb d_A_expandKey_25 rfl hl (by decide) rfl (fun ls hl => ?_)
  have lp1 : ∀ (d1 i : Nat), i + d1 = 4 → ∀ (H : Heap) (locs : List Loc) (ls : Array Slot), va_P D vwCl [(h, .inr (0, [.ref k, .int (nI 10)])), (k, .inl (cI, 60, .inl (iter (ek1 f 16) i rk))), (hr0, .inr (5, [.ref bb, .int (nI 16)])), (bb, .inl (cB, n, .inl f))] H → va_D A [(h, .inr (0, [.ref k, .int (nI 10)])), (k, .inl (cI, 60, .inl (iter (ek1 f 16) i rk))), (hr0, .inr (5, [.ref bb, .int (nI 16)])), (bb, .inl (cB, n, .inl f))] → va_S A s.heap H locs → lv_has ls 7 [(3, .int (nI i)), (2, .int 4), (0, .ref h), (1, .ref hr0)] → W p l e rm_A_expandKey4 s m args below meth c H locs 0 0 (MQ below (sbQv D (fun (_ : Unit) => True) (fun (_ : Unit) => [(h, .inr (0, [.ref k, .int (nI 10)])), (k, .inl (cI, 60, .inl (ekey f 16 4 rk))), (hr0, .inr (5, [.ref bb, .int (nI 16)])), (bb, .inl (cB, n, .inl f))]) A) args s 0 0 A) (F0 m 26 ls []) := by
    intro d1
    induction d1 with
    | zero =>
      intro i hi1 H locs ls hP hD hS hl
      obtain rfl : 4 = i := by omega
      refine lv_iload_n hx hb d_A_expandKey_26 rfl (lv_at hl 0 rfl) ?_
      refine lv_iload_n hx hb d_A_expandKey_27 rfl (lv_at hl 1 rfl) ?_
      refine lv_icmp_ge (tgt := 54) hx hb d_A_expandKey_28 (by decide) (fun c_2 => ?_) (fun c_2 => absurd (sb_geT (a := 4) (b := 4) rfl rfl (by omega) (by omega) (by omega)) c_2)
      refine lv_ldc (v := 16777216) hx hb hown (hts (.constant R_A 26 16777216) (by decide +kernel)) d_A_expandKey_54 ?_
      refine lv_istore_n (lv' := [(3, .int 16777216), (2, .int 4), (0, .ref h), (1, .ref hr0)]) hx hb d_A_expandKey_56 rfl hl (by decide) rfl (fun ls hl => ?_)
      refine lv_iload_n hx hb d_A_expandKey_57 rfl (lv_at hl 1 rfl) ?_
      refine lv_istore (lv' := [(4, .int 4), (3, .int 16777216), (2, .int 4), (0, .ref h), (1, .ref hr0)]) hx hb d_A_expandKey_58 hl (by decide) rfl (fun ls hl => ?_)
      have lp2 : ∀ (d2 j : Nat), j + d2 = 40 → ∀ (H : Heap) (locs : List Loc) (ls : Array Slot), va_P D vwCl [(h, .inr (0, [.ref k, .int (nI 10)])), (k, .inl (cI, 60, .inl ((iter (ek2 4) j (16777216, iter (ek1 f 16) 4 rk)).2))), (hr0, .inr (5, [.ref bb, .int (nI 16)])), (bb, .inl (cB, n, .inl f))] H → va_D A [(h, .inr (0, [.ref k, .int (nI 10)])), (k, .inl (cI, 60, .inl ((iter (ek2 4) j (16777216, iter (ek1 f 16) 4 rk)).2))), (hr0, .inr (5, [.ref bb, .int (nI 16)])), (bb, .inl (cB, n, .inl f))] → va_S A s.heap H locs → lv_has ls 7 [(3, .int ((iter (ek2 4) j (16777216, iter (ek1 f 16) 4 rk)).1)), (4, .int (nI (4 + j))), (2, .int 4), (0, .ref h), (1, .ref hr0)] → W p l e rm_A_expandKey4 s m args below meth c H locs 0 0 (MQ below (sbQv D (fun (_ : Unit) => True) (fun (_ : Unit) => [(h, .inr (0, [.ref k, .int (nI 10)])), (k, .inl (cI, 60, .inl (ekey f 16 4 rk))), (hr0, .inr (5, [.ref bb, .int (nI 16)])), (bb, .inl (cB, n, .inl f))]) A) args s 0 0 A) (F0 m 60 ls []) := by
        intro d2
        induction d2 with
        | zero =>
          intro j hi2 H locs ls hP hD hS hl
          obtain rfl : 40 = j := by omega
          refine lv_iload hx hb d_A_expandKey_60 (lv_at hl 1 rfl) ?_
          refine lv_iconst (v := 4) hx hb d_A_expandKey_62 (by decide) ?_
          refine lv_aload_n hx hb d_A_expandKey_63 rfl (lv_at hl 3 rfl) ?_
          refine va_get (D := D) (ci := 0) (v := .int (nI 10)) (C := R_A) (T := F_A) (N := 2) hx hb hts in_A hown hG.1 hP 0 rfl rfl 1 (by decide) (hts _ k_84) (fun _ h9 => h9) rfl d_A_expandKey_64 ?_
          refine lv_iconst (v := 1) hx hb d_A_expandKey_67 (by decide) ?_
          refine lv_iadd hx hb d_A_expandKey_68 ?_
          refine sb_topn 11 (sb_eqn (a := 10 + 1) (b := 11) (nI_add 10 1) (by omega)) ?_
          refine lv_imul hx hb d_A_expandKey_69 ?_
          refine sb_topn 44 (sb_eqn (a := 4 * 11) (b := 44) (sb_mul (a := 4) (b := 11) rfl rfl) (by omega)) ?_
          refine lv_icmp_ge (tgt := 169) hx hb d_A_expandKey_70 (by decide) (fun c_3 => ?_) (fun c_3 => absurd (sb_geT (a := 4 + 40) (b := 44) rfl rfl (by omega) (by omega) (by omega)) c_3)
          have t_4 : (iter (ek2 4) 40 (16777216, iter (ek1 f 16) 4 rk)).2 = ekey f 16 4 rk := rfl
          have hP9 := hP.sub (ws' := [(h, .inr (0, [.ref k, .int (nI 10)])), (k, .inl (cI, 60, .inl ((iter (ek2 4) 40 (16777216, iter (ek1 f 16) 4 rk)).2))), (hr0, .inr (5, [.ref bb, .int (nI 16)])), (bb, .inl (cB, n, .inl f))]) [0, 1, 2, 3] rfl
          have hD9 := hD.sub (ws' := [(h, .inr (0, [.ref k, .int (nI 10)])), (k, .inl (cI, 60, .inl ((iter (ek2 4) 40 (16777216, iter (ek1 f 16) 4 rk)).2))), (hr0, .inr (5, [.ref bb, .int (nI 16)])), (bb, .inl (cB, n, .inl f))]) [0, 1, 2, 3] (by decide) rfl
          rw [t_4] at hP9 hD9
          exact W.vret hx hb hr (fun t ht hW => ⟨⟨(), rfl, trivial, by rw [ht]; exact hP9, hD9⟩, hS.F ht⟩) hS.2.2 d_A_expandKey_169
        | succ d2 ih2 =>
          intro j hi2 H locs ls hP hD hS hl
          refine lv_iload hx hb d_A_expandKey_60 (lv_at hl 1 rfl) ?_
          refine lv_iconst (v := 4) hx hb d_A_expandKey_62 (by decide) ?_
          refine lv_aload_n hx hb d_A_expandKey_63 rfl (lv_at hl 3 rfl) ?_
          refine va_get (D := D) (ci := 0) (v := .int (nI 10)) (C := R_A) (T := F_A) (N := 2) hx hb hts in_A hown hG.1 hP 0 rfl rfl 1 (by decide) (hts _ k_84) (fun _ h9 => h9) rfl d_A_expandKey_64 ?_
          refine lv_iconst (v := 1) hx hb d_A_expandKey_67 (by decide) ?_
          refine lv_iadd hx hb d_A_expandKey_68 ?_
          refine sb_topn 11 (sb_eqn (a := 10 + 1) (b := 11) (nI_add 10 1) (by omega)) ?_
          refine lv_imul hx hb d_A_expandKey_69 ?_
          refine sb_topn 44 (sb_eqn (a := 4 * 11) (b := 44) (sb_mul (a := 4) (b := 11) rfl rfl) (by omega)) ?_
          refine lv_icmp_ge (tgt := 169) hx hb d_A_expandKey_70 (by decide) (fun c_5 => absurd c_5 (sb_geF (a := 4 + j) (b := 44) rfl rfl (by omega) (by omega) (by omega))) (fun c_5 => ?_)
          refine lv_aload_n hx hb d_A_expandKey_73 rfl (lv_at hl 3 rfl) ?_
          refine va_get (D := D) (ci := 0) (v := .ref k) (C := R_A) (T := F_A) (N := 2) hx hb hts in_A hown hG.1 hP 0 rfl rfl 0 (by decide) (hts _ k_83) (fun _ h9 => h9) rfl d_A_expandKey_74 ?_
          refine lv_iload hx hb d_A_expandKey_77 (lv_at hl 1 rfl) ?_
          refine lv_iconst (v := 1) hx hb d_A_expandKey_79 (by decide) ?_
          refine lv_isub hx hb d_A_expandKey_80 ?_
          refine sb_topn ((4 + j) - 1) (sb_sub (a := 4 + j) (b := 1) (by omega) rfl rfl) ?_
          refine sb_ild hx hb hG.1 hP 1 rfl ((4 + j) - 1) rfl (by omega) (by omega) d_A_expandKey_81 ?_
          refine lv_topi (fun x_6 ex_6 => ?_)
          refine lv_istore (lv' := [(5, .int x_6), (3, .int ((iter (ek2 4) j (16777216, iter (ek1 f 16) 4 rk)).1)), (4, .int (nI (4 + j))), (2, .int 4), (0, .ref h), (1, .ref hr0)]) hx hb d_A_expandKey_82 hl (by decide) rfl (fun ls hl => ?_)
          refine lv_iload hx hb d_A_expandKey_84 (lv_at hl 2 rfl) ?_
          refine lv_iload_n hx hb d_A_expandKey_86 rfl (lv_at hl 3 rfl) ?_
          refine lv_irem hx hb d_A_expandKey_87 (by decide) ?_
          refine sb_topn ((4 + j) % 4) (sb_rem (a := 4 + j) (b := 4) (by omega) (by omega) (by omega) rfl rfl) ?_
          refine lv_if_ne (tgt := 123) hx hb d_A_expandKey_88 (by decide) (fun c_7 => ?_) (fun c_7 => ?_)
          · have c_7 := mt (sb_eqI (a := (4 + j) % 4) (b := 0) rfl rfl (by omega) (by omega)).mpr c_7
            refine lv_iload hx hb d_A_expandKey_123 (lv_at hl 2 rfl) ?_
            refine lv_iload_n hx hb d_A_expandKey_125 rfl (lv_at hl 3 rfl) ?_
            refine lv_irem hx hb d_A_expandKey_126 (by decide) ?_
            refine sb_topn ((4 + j) % 4) (sb_rem (a := 4 + j) (b := 4) (by omega) (by omega) (by omega) rfl rfl) ?_
            refine lv_iconst (v := 4) hx hb d_A_expandKey_127 (by decide) ?_
            refine lv_icmp_ne (tgt := 144) hx hb d_A_expandKey_128 (by decide) (fun c_8 => ?_) (fun c_8 => ?_)
            · have c_8 := mt (sb_eqI (a := (4 + j) % 4) (b := 4) rfl rfl (by omega) (by omega)).mpr c_8
              refine lv_aload_n hx hb d_A_expandKey_144 rfl (lv_at hl 4 rfl) ?_
              refine va_get (D := D) (ci := 0) (v := .ref k) (C := R_A) (T := F_A) (N := 2) hx hb hts in_A hown hG.1 hP 0 rfl rfl 0 (by decide) (hts _ k_83) (fun _ h9 => h9) rfl d_A_expandKey_145 ?_
              refine lv_iload hx hb d_A_expandKey_148 (lv_at hl 2 rfl) ?_
              refine lv_aload_n hx hb d_A_expandKey_150 rfl (lv_at hl 4 rfl) ?_
              refine va_get (D := D) (ci := 0) (v := .ref k) (C := R_A) (T := F_A) (N := 2) hx hb hts in_A hown hG.1 hP 0 rfl rfl 0 (by decide) (hts _ k_83) (fun _ h9 => h9) rfl d_A_expandKey_151 ?_
              refine lv_iload hx hb d_A_expandKey_154 (lv_at hl 2 rfl) ?_
              refine lv_iload_n hx hb d_A_expandKey_156 rfl (lv_at hl 3 rfl) ?_
              refine lv_isub hx hb d_A_expandKey_157 ?_
              refine sb_topn ((4 + j) - 4) (sb_sub (a := 4 + j) (b := 4) (by omega) rfl rfl) ?_
              refine sb_ild hx hb hG.1 hP 1 rfl ((4 + j) - 4) rfl (by omega) (by omega) d_A_expandKey_158 ?_
              refine lv_iload hx hb d_A_expandKey_159 (lv_at hl 0 rfl) ?_
              refine lv_ixor hx hb d_A_expandKey_161 ?_
              refine sb_ist hx hb hG.1 hP hD hS 1 rfl (4 + j) rfl (by omega) (by omega) d_A_expandKey_162 (fun f_9 H locs ef_9 hP hD hS => ?_)
              have hP : va_P D vwCl [(h, .inr (0, [.ref k, .int (nI 10)])), (k, .inl (cI, 60, .inl f_9)), (hr0, .inr (5, [.ref bb, .int (nI 16)])), (bb, .inl (cB, n, .inl f))] H := hP
              have hD : va_D A [(h, .inr (0, [.ref k, .int (nI 10)])), (k, .inl (cI, 60, .inl f_9)), (hr0, .inr (5, [.ref bb, .int (nI 16)])), (bb, .inl (cB, n, .inl f))] := hD
              refine lv_iinc (v := nI ((4 + j) + 1)) (lv' := [(4, .int (nI ((4 + j) + 1))), (5, .int x_6), (3, .int ((iter (ek2 4) j (16777216, iter (ek1 f 16) 4 rk)).1)), (2, .int 4), (0, .ref h), (1, .ref hr0)]) hx hb d_A_expandKey_163 hl (k := 2) rfl (sb_inc (a := 4 + j) (b := (4 + j) + 1) (d := 1) rfl (by decide) (by omega)) (by decide) rfl (fun ls hl => ?_)
              refine lv_goto (tgt := 60) hx hb d_A_expandKey_166 (by decide) ?_
              rw [show (iter (ek2 4) j (16777216, iter (ek1 f 16) 4 rk)).1 = (iter (ek2 4) (j + 1) (16777216, iter (ek1 f 16) 4 rk)).1 from (by subst_vars; simp only [iter_s, ek2, if_neg c_7, if_neg c_8])] at hl
              obtain rfl : f_9 = (iter (ek2 4) (j + 1) (16777216, iter (ek1 f 16) 4 rk)).2 := (by subst_vars; simp only [iter_s, ek2, if_neg c_7, if_neg c_8])
              exact ih2 (j + 1) (by omega) _ _ ls (hP.sub [0, 1, 2, 3] rfl) (hD.sub [0, 1, 2, 3] (by decide) rfl) hS (lv_sub hl [2, 0, 3, 4, 5] rfl)
            · have c_8 := (sb_eqI (a := (4 + j) % 4) (b := 4) rfl rfl (by omega) (by omega)).mp c_8
              refine lv_iload hx hb d_A_expandKey_131 (lv_at hl 0 rfl) ?_
              refine lv_iload hx hb d_A_expandKey_133 (lv_at hl 0 rfl) ?_
              refine lv_iload hx hb d_A_expandKey_135 (lv_at hl 0 rfl) ?_
              refine lv_iload hx hb d_A_expandKey_137 (lv_at hl 0 rfl) ?_
              refine vp_callSi (va_runS (As := [.int x_6, .int x_6, .int x_6, .int x_6]) (rest := []) ⟨hx, hb, hml, hown, hts⟩ (c_A_substituted l D cI cL cB tS tF x_6 x_6 x_6 x_6 ) (va_cwS 4 hts (sb_gS k_449 k_450 k_26 k_451) rfl rfl rfl (by decide +kernel) ⟨Nat.le_of_ble_eq_true rfl, Nat.le_of_ble_eq_true rfl⟩) (sb_rS hG hP hS [] rfl) rfl rfl hl.1 rfl (lv_room (Nat.le_of_ble_eq_true rfl)) d_A_expandKey_139 ⟨Nat.le_of_ble_eq_true rfl, Nat.le_of_ble_eq_true rfl⟩).run (fun r_10 er_10 => ?_)
              subst er_10
              refine lv_topi (fun x_11 ex_11 => ?_)
              refine lv_istore (lv' := [(5, .int x_11), (3, .int ((iter (ek2 4) j (16777216, iter (ek1 f 16) 4 rk)).1)), (4, .int (nI (4 + j))), (2, .int 4), (0, .ref h), (1, .ref hr0)]) hx hb d_A_expandKey_142 hl (by decide) rfl (fun ls hl => ?_)
              refine lv_aload_n hx hb d_A_expandKey_144 rfl (lv_at hl 4 rfl) ?_
              refine va_get (D := D) (ci := 0) (v := .ref k) (C := R_A) (T := F_A) (N := 2) hx hb hts in_A hown hG.1 hP 0 rfl rfl 0 (by decide) (hts _ k_83) (fun _ h9 => h9) rfl d_A_expandKey_145 ?_
              refine lv_iload hx hb d_A_expandKey_148 (lv_at hl 2 rfl) ?_
              refine lv_aload_n hx hb d_A_expandKey_150 rfl (lv_at hl 4 rfl) ?_
              refine va_get (D := D) (ci := 0) (v := .ref k) (C := R_A) (T := F_A) (N := 2) hx hb hts in_A hown hG.1 hP 0 rfl rfl 0 (by decide) (hts _ k_83) (fun _ h9 => h9) rfl d_A_expandKey_151 ?_
              refine lv_iload hx hb d_A_expandKey_154 (lv_at hl 2 rfl) ?_
              refine lv_iload_n hx hb d_A_expandKey_156 rfl (lv_at hl 3 rfl) ?_
              refine lv_isub hx hb d_A_expandKey_157 ?_
              refine sb_topn ((4 + j) - 4) (sb_sub (a := 4 + j) (b := 4) (by omega) rfl rfl) ?_
              refine sb_ild hx hb hG.1 hP 1 rfl ((4 + j) - 4) rfl (by omega) (by omega) d_A_expandKey_158 ?_
              refine lv_iload hx hb d_A_expandKey_159 (lv_at hl 0 rfl) ?_
              refine lv_ixor hx hb d_A_expandKey_161 ?_
              refine sb_ist hx hb hG.1 hP hD hS 1 rfl (4 + j) rfl (by omega) (by omega) d_A_expandKey_162 (fun f_12 H locs ef_12 hP hD hS => ?_)
              have hP : va_P D vwCl [(h, .inr (0, [.ref k, .int (nI 10)])), (k, .inl (cI, 60, .inl f_12)), (hr0, .inr (5, [.ref bb, .int (nI 16)])), (bb, .inl (cB, n, .inl f))] H := hP
              have hD : va_D A [(h, .inr (0, [.ref k, .int (nI 10)])), (k, .inl (cI, 60, .inl f_12)), (hr0, .inr (5, [.ref bb, .int (nI 16)])), (bb, .inl (cB, n, .inl f))] := hD
              refine lv_iinc (v := nI ((4 + j) + 1)) (lv' := [(4, .int (nI ((4 + j) + 1))), (5, .int x_11), (3, .int ((iter (ek2 4) j (16777216, iter (ek1 f 16) 4 rk)).1)), (2, .int 4), (0, .ref h), (1, .ref hr0)]) hx hb d_A_expandKey_163 hl (k := 2) rfl (sb_inc (a := 4 + j) (b := (4 + j) + 1) (d := 1) rfl (by decide) (by omega)) (by decide) rfl (fun ls hl => ?_)
              refine lv_goto (tgt := 60) hx hb d_A_expandKey_166 (by decide) ?_
              rw [show (iter (ek2 4) j (16777216, iter (ek1 f 16) 4 rk)).1 = (iter (ek2 4) (j + 1) (16777216, iter (ek1 f 16) 4 rk)).1 from (by subst_vars; simp only [iter_s, ek2, if_neg c_7, if_pos c_8])] at hl
              obtain rfl : f_12 = (iter (ek2 4) (j + 1) (16777216, iter (ek1 f 16) 4 rk)).2 := (by subst_vars; simp only [iter_s, ek2, if_neg c_7, if_pos c_8])
              exact ih2 (j + 1) (by omega) _ _ ls (hP.sub [0, 1, 2, 3] rfl) (hD.sub [0, 1, 2, 3] (by decide) rfl) hS (lv_sub hl [2, 0, 3, 4, 5] rfl)
          · have c_7 := (sb_eqI (a := (4 + j) % 4) (b := 0) rfl rfl (by omega) (by omega)).mp c_7
            refine lv_iload hx hb d_A_expandKey_91 (lv_at hl 0 rfl) ?_
            refine lv_bipush (v := 8) hx hb d_A_expandKey_93 (by decide) ?_
            refine vp_callSi (va_runSN (As := [.int x_6, .int 8]) (rest := []) ⟨hx, hb, hml, hown, hts⟩ (c_X_rotated l D cI cL cB tS tF x_6 8 ) ⟨va_cnB 2 hts (sb_g k_448) rfl rfl rfl (va_Nw.of rfl (hG.nest (args := args) _ n_446)) (hts _ k_22) (by decide +kernel) ⟨Nat.le_of_ble_eq_true rfl, Nat.le_of_ble_eq_true rfl⟩, hts _ k_447, trivial⟩ (sb_rS hG hP hS [] rfl) rfl rfl hl.1 rfl (lv_room (Nat.le_of_ble_eq_true rfl)) d_A_expandKey_95 ⟨Nat.le_of_ble_eq_true rfl, Nat.le_of_ble_eq_true rfl⟩).run (fun r_13 er_13 => ?_)
            subst er_13
            refine lv_topi (fun x_14 ex_14 => ?_)
            refine lv_istore (lv' := [(6, .int x_14), (5, .int x_6), (3, .int ((iter (ek2 4) j (16777216, iter (ek1 f 16) 4 rk)).1)), (4, .int (nI (4 + j))), (2, .int 4), (0, .ref h), (1, .ref hr0)]) hx hb d_A_expandKey_98 hl (by decide) rfl (fun ls hl => ?_)
            refine lv_iload hx hb d_A_expandKey_100 (lv_at hl 0 rfl) ?_
            refine lv_iload hx hb d_A_expandKey_102 (lv_at hl 0 rfl) ?_
            refine lv_iload hx hb d_A_expandKey_104 (lv_at hl 0 rfl) ?_
            refine lv_iload hx hb d_A_expandKey_106 (lv_at hl 0 rfl) ?_
            refine vp_callSi (va_runS (As := [.int x_14, .int x_14, .int x_14, .int x_14]) (rest := []) ⟨hx, hb, hml, hown, hts⟩ (c_A_substituted l D cI cL cB tS tF x_14 x_14 x_14 x_14 ) (va_cwS 4 hts (sb_gS k_449 k_450 k_26 k_451) rfl rfl rfl (by decide +kernel) ⟨Nat.le_of_ble_eq_true rfl, Nat.le_of_ble_eq_true rfl⟩) (sb_rS hG hP hS [] rfl) rfl rfl hl.1 rfl (lv_room (Nat.le_of_ble_eq_true rfl)) d_A_expandKey_108 ⟨Nat.le_of_ble_eq_true rfl, Nat.le_of_ble_eq_true rfl⟩).run (fun r_15 er_15 => ?_)
            subst er_15
            refine lv_iload_n hx hb d_A_expandKey_111 rfl (lv_at hl 2 rfl) ?_
            refine lv_ixor hx hb d_A_expandKey_112 ?_
            refine lv_topi (fun x_16 ex_16 => ?_)
            refine lv_istore (lv' := [(5, .int x_16), (6, .int x_14), (3, .int ((iter (ek2 4) j (16777216, iter (ek1 f 16) 4 rk)).1)), (4, .int (nI (4 + j))), (2, .int 4), (0, .ref h), (1, .ref hr0)]) hx hb d_A_expandKey_113 hl (by decide) rfl (fun ls hl => ?_)
            refine lv_iload_n hx hb d_A_expandKey_115 rfl (lv_at hl 2 rfl) ?_
            refine vp_callSi (va_runS (As := [.int ((iter (ek2 4) j (16777216, iter (ek1 f 16) 4 rk)).1)]) (rest := []) ⟨hx, hb, hml, hown, hts⟩ (c_A_doubled l D cI cL cB tS tF ((iter (ek2 4) j (16777216, iter (ek1 f 16) 4 rk)).1) ) (va_cwS 1 hts (sb_gS k_454 k_455 k_26 k_456) rfl rfl rfl (by decide +kernel) ⟨Nat.le_of_ble_eq_true rfl, Nat.le_of_ble_eq_true rfl⟩) (sb_rS hG hP hS [] rfl) rfl rfl hl.1 rfl (lv_room (Nat.le_of_ble_eq_true rfl)) d_A_expandKey_116 ⟨Nat.le_of_ble_eq_true rfl, Nat.le_of_ble_eq_true rfl⟩).run (fun r_17 er_17 => ?_)
            subst er_17
            refine lv_topi (fun x_18 ex_18 => ?_)
            refine lv_istore_n (lv' := [(3, .int x_18), (5, .int x_16), (6, .int x_14), (4, .int (nI (4 + j))), (2, .int 4), (0, .ref h), (1, .ref hr0)]) hx hb d_A_expandKey_119 rfl hl (by decide) rfl (fun ls hl => ?_)
            refine lv_goto (tgt := 144) hx hb d_A_expandKey_120 (by decide) ?_
            refine lv_aload_n hx hb d_A_expandKey_144 rfl (lv_at hl 5 rfl) ?_
            refine va_get (D := D) (ci := 0) (v := .ref k) (C := R_A) (T := F_A) (N := 2) hx hb hts in_A hown hG.1 hP 0 rfl rfl 0 (by decide) (hts _ k_83) (fun _ h9 => h9) rfl d_A_expandKey_145 ?_
            refine lv_iload hx hb d_A_expandKey_148 (lv_at hl 3 rfl) ?_
            refine lv_aload_n hx hb d_A_expandKey_150 rfl (lv_at hl 5 rfl) ?_
            refine va_get (D := D) (ci := 0) (v := .ref k) (C := R_A) (T := F_A) (N := 2) hx hb hts in_A hown hG.1 hP 0 rfl rfl 0 (by decide) (hts _ k_83) (fun _ h9 => h9) rfl d_A_expandKey_151 ?_
            refine lv_iload hx hb d_A_expandKey_154 (lv_at hl 3 rfl) ?_
            refine lv_iload_n hx hb d_A_expandKey_156 rfl (lv_at hl 4 rfl) ?_
            refine lv_isub hx hb d_A_expandKey_157 ?_
            refine sb_topn ((4 + j) - 4) (sb_sub (a := 4 + j) (b := 4) (by omega) rfl rfl) ?_
            refine sb_ild hx hb hG.1 hP 1 rfl ((4 + j) - 4) rfl (by omega) (by omega) d_A_expandKey_158 ?_
            refine lv_iload hx hb d_A_expandKey_159 (lv_at hl 1 rfl) ?_
            refine lv_ixor hx hb d_A_expandKey_161 ?_
            refine sb_ist hx hb hG.1 hP hD hS 1 rfl (4 + j) rfl (by omega) (by omega) d_A_expandKey_162 (fun f_19 H locs ef_19 hP hD hS => ?_)
            have hP : va_P D vwCl [(h, .inr (0, [.ref k, .int (nI 10)])), (k, .inl (cI, 60, .inl f_19)), (hr0, .inr (5, [.ref bb, .int (nI 16)])), (bb, .inl (cB, n, .inl f))] H := hP
            have hD : va_D A [(h, .inr (0, [.ref k, .int (nI 10)])), (k, .inl (cI, 60, .inl f_19)), (hr0, .inr (5, [.ref bb, .int (nI 16)])), (bb, .inl (cB, n, .inl f))] := hD
            refine lv_iinc (v := nI ((4 + j) + 1)) (lv' := [(4, .int (nI ((4 + j) + 1))), (3, .int x_18), (5, .int x_16), (6, .int x_14), (2, .int 4), (0, .ref h), (1, .ref hr0)]) hx hb d_A_expandKey_163 hl (k := 3) rfl (sb_inc (a := 4 + j) (b := (4 + j) + 1) (d := 1) rfl (by decide) (by omega)) (by decide) rfl (fun ls hl => ?_)
            refine lv_goto (tgt := 60) hx hb d_A_expandKey_166 (by decide) ?_
            obtain rfl : x_18 = (iter (ek2 4) (j + 1) (16777216, iter (ek1 f 16) 4 rk)).1 := (by subst_vars; simp only [iter_s, ek2, if_pos c_7])
            obtain rfl : f_19 = (iter (ek2 4) (j + 1) (16777216, iter (ek1 f 16) 4 rk)).2 := (by subst_vars; simp only [iter_s, ek2, if_pos c_7])
            exact ih2 (j + 1) (by omega) _ _ ls (hP.sub [0, 1, 2, 3] rfl) (hD.sub [0, 1, 2, 3] (by decide) rfl) hS (lv_sub hl [1, 0, 4, 5, 6] rfl)
      exact lp2 40 0 (by omega) _ _ ls (hP.sub [0, 1, 2, 3] rfl) (hD.sub [0, 1, 2, 3] (by decide) rfl) hS (lv_sub hl [1, 0, 2, 3, 4] rfl)
    | succ d1 ih1 =>
      intro i hi1 H locs ls hP hD hS hl
      refine lv_iload_n hx hb d_A_expandKey_26 rfl (lv_at hl 0 rfl) ?_
      refine lv_iload_n hx hb d_A_expandKey_27 rfl (lv_at hl 1 rfl) ?_
      refine lv_icmp_ge (tgt := 54) hx hb d_A_expandKey_28 (by decide) (fun c_20 => absurd c_20 (sb_geF (a := i) (b := 4) rfl rfl (by omega) (by omega) (by omega))) (fun c_20 => ?_)
      refine lv_aload_n hx hb d_A_expandKey_31 rfl (lv_at hl 2 rfl) ?_
      refine va_get (D := D) (ci := 0) (v := .ref k) (C := R_A) (T := F_A) (N := 2) hx hb hts in_A hown hG.1 hP 0 rfl rfl 0 (by decide) (hts _ k_83) (fun _ h9 => h9) rfl d_A_expandKey_32 ?_
      refine lv_iload_n hx hb d_A_expandKey_35 rfl (lv_at hl 0 rfl) ?_
      refine lv_aload_n hx hb d_A_expandKey_36 rfl (lv_at hl 3 rfl) ?_
      refine lv_iconst (v := 4) hx hb d_A_expandKey_37 (by decide) ?_
      refine lv_iload_n hx hb d_A_expandKey_38 rfl (lv_at hl 0 rfl) ?_
      refine lv_imul hx hb d_A_expandKey_39 ?_
      refine sb_topn (4 * i) (sb_mul (a := 4) (b := i) rfl rfl) ?_
      refine lv_aload_n hx hb d_A_expandKey_40 rfl (lv_at hl 3 rfl) ?_
      refine va_getN (D := D) (ci := 5) (v := .int (nI 16)) (C := R_R) (T := F_R) (N := 2) hx hb hts in_R hown hG.1 hP 2 rfl rfl 1 (by decide) (hG.nest _ n_58) (fun _ h9 => h9) rfl d_A_expandKey_41 ?_
      refine vp_callSi (va_runV (As := [.int (nI (4 * i)), .int (nI 16)]) (rest := [.int (nI i), .ref k]) ⟨hx, hb, hml, hown, hts⟩ (c_R_word l D cI cL cB tS tF hr0 bb 16 n f (4 * i) 16 (by omega) (by omega) (by omega) (by omega)) (cwV 2 hts (sb_gV k_444 k_425 k_426 k_23 k_427) rfl rfl rfl (by decide +kernel) ⟨Nat.le_of_ble_eq_true rfl, Nat.le_of_ble_eq_true rfl⟩) (sb_rV hG hP hS [2, 3] rfl (ci := 5) (q0 := 2) rfl rfl) rfl rfl hl.1 rfl (lv_room (Nat.le_of_ble_eq_true rfl)) d_A_expandKey_44 ⟨Nat.le_of_ble_eq_true rfl, Nat.le_of_ble_eq_true rfl⟩).run (fun r_21 er_21 => ?_)
      subst er_21
      refine sb_ist hx hb hG.1 hP hD hS 1 rfl i rfl (by omega) (by omega) d_A_expandKey_47 (fun f_22 H locs ef_22 hP hD hS => ?_)
      have hP : va_P D vwCl [(h, .inr (0, [.ref k, .int (nI 10)])), (k, .inl (cI, 60, .inl f_22)), (hr0, .inr (5, [.ref bb, .int (nI 16)])), (bb, .inl (cB, n, .inl f))] H := hP
      have hD : va_D A [(h, .inr (0, [.ref k, .int (nI 10)])), (k, .inl (cI, 60, .inl f_22)), (hr0, .inr (5, [.ref bb, .int (nI 16)])), (bb, .inl (cB, n, .inl f))] := hD
      refine lv_iinc (v := nI (i + 1)) (lv' := [(3, .int (nI (i + 1))), (2, .int 4), (0, .ref h), (1, .ref hr0)]) hx hb d_A_expandKey_48 hl (k := 0) rfl (sb_inc (a := i) (b := i + 1) (d := 1) rfl (by decide) (by omega)) (by decide) rfl (fun ls hl => ?_)
      refine lv_goto (tgt := 26) hx hb d_A_expandKey_51 (by decide) ?_
      obtain rfl : f_22 = iter (ek1 f 16) (i + 1) rk := (by subst_vars; rfl)
      exact ih1 (i + 1) (by omega) _ _ ls (hP.sub [0, 1, 2, 3] rfl) (hD.sub [0, 1, 2, 3] (by decide) rfl) hS (lv_sub hl [0, 1, 2, 3] rfl)
  exact lp1 4 0 (by omega) _ _ ls (hP.sub [0, 1, 2, 3] rfl) (hD.sub [0, 1, 2, 3] (by decide) rfl) hS (lv_sub hl [0, 1, 2, 3] rfl)

def rm_A_expandKey8 : Room := { frames := 2, cells := 0, slots := 0, locals := 45 }
set_option maxHeartbeats 4000000 in
set_option maxRecDepth 100000 in
theorem c_A_expandKey8 (l : Launch) (D : va_G) (cI cL cB : ClassId) (tS tF : Nat) (h : Nat) (k : Nat) (hr0 : Nat) (bb : Nat) (n : Nat) (f : Nat → Int32) (rk : Nat → Int32) (rnd : Int32) (sz : Nat) (hln : 32 ≤ n) (hn : n < 2 ^ 31) : Met l y_A_expandKey (sbw y_A_expandKey b_A_expandKey 7 none) rm_A_expandKey8 (sbPc D cI cL cB tS tF [.ref h, .ref hr0] sz [(h, .inr (0, [.ref k, .int rnd])), (k, .inl (cI, 60, .inl rk)), (hr0, .inr (5, [.ref bb, .int (nI 32)])), (bb, .inl (cB, n, .inl f))]) (sbQv D (fun (_ : Unit) => True) (fun (_ : Unit) => [(h, .inr (0, [.ref k, .int (nI 14)])), (k, .inl (cI, 60, .inl (ekey f 32 8 rk))), (hr0, .inr (5, [.ref bb, .int (nI 32)])), (bb, .inl (cB, n, .inl f))]) (va_A [(h, .inr (0, [.ref k, .int rnd])), (k, .inl (cI, 60, .inl rk)), (hr0, .inr (5, [.ref bb, .int (nI 32)])), (bb, .inl (cB, n, .inl f))] sz)) 0 0 (va_A [(h, .inr (0, [.ref k, .int rnd])), (k, .inl (cI, 60, .inl rk)), (hr0, .inr (5, [.ref bb, .int (nI 32)])), (bb, .inl (cB, n, .inl f))] sz) := by
  refine sb_ofW (Qc := fun A => (sbQv D (fun (_ : Unit) => True) (fun (_ : Unit) => [(h, .inr (0, [.ref k, .int (nI 14)])), (k, .inl (cI, 60, .inl (ekey f 32 8 rk))), (hr0, .inr (5, [.ref bb, .int (nI 32)])), (bb, .inl (cB, n, .inl f))]) A)) (by decide) (Nat.le_of_ble_eq_true rfl) ?_
  intro p e s m args below meth c A ls hx hb hr hml hts hown hlocks hin hsz hP hG hD hA hS hl
  have hl : lv_has ls 7 [(0, .ref h), (1, .ref hr0)] := hl
  refine lv_aload_n hx hb d_A_expandKey_0 rfl (lv_at hl 1 rfl) ?_
  refine va_getN (D := D) (ci := 5) (v := .int (nI 32)) (C := R_R) (T := F_R) (N := 2) hx hb hts in_R hown hG.1 hP 2 rfl rfl 1 (by decide) (hG.nest _ n_58) (fun _ h9 => h9) rfl d_A_expandKey_1 ?_
  refine lv_bipush (v := 16) hx hb d_A_expandKey_4 (by decide) ?_
  refine lv_icmp_ne (tgt := 13) hx hb d_A_expandKey_6 (by decide) (fun c_1 => ?_) (fun c_1 => absurd c_1 (sb_neT (a := 32) (b := 16) rfl rfl (by omega) (by omega) (by omega)))
  refine lv_bipush (v := 8) hx hb d_A_expandKey_13 (by decide) ?_
  refine lv_istore_n (lv' := [(2, .int 8), (0, .ref h), (1, .ref hr0)]) hx hb d_A_expandKey_15 rfl hl (by decide) rfl (fun ls hl => ?_)
  refine lv_aload_n hx hb d_A_expandKey_16 rfl (lv_at hl 1 rfl) ?_
  refine lv_iload_n hx hb d_A_expandKey_17 rfl (lv_at hl 0 rfl) ?_
  refine lv_bipush (v := 6) hx hb d_A_expandKey_18 (by decide) ?_
  refine lv_iadd hx hb d_A_expandKey_20 ?_
  refine sb_topn 14 (sb_eqn (a := 8 + 6) (b := 14) (nI_add 8 6) (by omega)) ?_
  refine va_put (D := D) (ci := 0) (v := .int (nI 14)) (ty := .int) (C := R_A) (T := F_A) (N := 2) hx hb hts in_A tq_A tq_A_ok nq_A hown hG.1 hP hD hS 0 rfl rfl 1 (by decide) (hts _ k_84) (fun _ h9 => h9) rfl (by decide +kernel) rfl rfl (Nat.le_of_ble_eq_true rfl) d_A_expandKey_21 (fun H locs hP hD hS => ?_)
  have hP : va_P D vwCl [(h, .inr (0, [.ref k, .int (nI 14)])), (k, .inl (cI, 60, .inl rk)), (hr0, .inr (5, [.ref bb, .int (nI 32)])), (bb, .inl (cB, n, .inl f))] H := hP
  have hD : va_D A [(h, .inr (0, [.ref k, .int (nI 14)])), (k, .inl (cI, 60, .inl rk)), (hr0, .inr (5, [.ref bb, .int (nI 32)])), (bb, .inl (cB, n, .inl f))] := hD
  refine lv_iconst (v := 0) hx hb d_A_expandKey_24 (by decide) ?_
  refine lv_istore_n (lv' := [(3, .int 0), (2, .int 8), (0, .ref h), (1, .ref hr0)]) hx hb d_A_expandKey_25 rfl hl (by decide) rfl (fun ls hl => ?_)
  have lp1 : ∀ (d1 i : Nat), i + d1 = 8 → ∀ (H : Heap) (locs : List Loc) (ls : Array Slot), va_P D vwCl [(h, .inr (0, [.ref k, .int (nI 14)])), (k, .inl (cI, 60, .inl (iter (ek1 f 32) i rk))), (hr0, .inr (5, [.ref bb, .int (nI 32)])), (bb, .inl (cB, n, .inl f))] H → va_D A [(h, .inr (0, [.ref k, .int (nI 14)])), (k, .inl (cI, 60, .inl (iter (ek1 f 32) i rk))), (hr0, .inr (5, [.ref bb, .int (nI 32)])), (bb, .inl (cB, n, .inl f))] → va_S A s.heap H locs → lv_has ls 7 [(3, .int (nI i)), (2, .int 8), (0, .ref h), (1, .ref hr0)] → W p l e rm_A_expandKey8 s m args below meth c H locs 0 0 (MQ below (sbQv D (fun (_ : Unit) => True) (fun (_ : Unit) => [(h, .inr (0, [.ref k, .int (nI 14)])), (k, .inl (cI, 60, .inl (ekey f 32 8 rk))), (hr0, .inr (5, [.ref bb, .int (nI 32)])), (bb, .inl (cB, n, .inl f))]) A) args s 0 0 A) (F0 m 26 ls []) := by
    intro d1
    induction d1 with
    | zero =>
      intro i hi1 H locs ls hP hD hS hl
      obtain rfl : 8 = i := by omega
      refine lv_iload_n hx hb d_A_expandKey_26 rfl (lv_at hl 0 rfl) ?_
      refine lv_iload_n hx hb d_A_expandKey_27 rfl (lv_at hl 1 rfl) ?_
      refine lv_icmp_ge (tgt := 54) hx hb d_A_expandKey_28 (by decide) (fun c_2 => ?_) (fun c_2 => absurd (sb_geT (a := 8) (b := 8) rfl rfl (by omega) (by omega) (by omega)) c_2)
      refine lv_ldc (v := 16777216) hx hb hown (hts (.constant R_A 26 16777216) (by decide +kernel)) d_A_expandKey_54 ?_
      refine lv_istore_n (lv' := [(3, .int 16777216), (2, .int 8), (0, .ref h), (1, .ref hr0)]) hx hb d_A_expandKey_56 rfl hl (by decide) rfl (fun ls hl => ?_)
      refine lv_iload_n hx hb d_A_expandKey_57 rfl (lv_at hl 1 rfl) ?_
      refine lv_istore (lv' := [(4, .int 8), (3, .int 16777216), (2, .int 8), (0, .ref h), (1, .ref hr0)]) hx hb d_A_expandKey_58 hl (by decide) rfl (fun ls hl => ?_)
      have lp2 : ∀ (d2 j : Nat), j + d2 = 52 → ∀ (H : Heap) (locs : List Loc) (ls : Array Slot), va_P D vwCl [(h, .inr (0, [.ref k, .int (nI 14)])), (k, .inl (cI, 60, .inl ((iter (ek2 8) j (16777216, iter (ek1 f 32) 8 rk)).2))), (hr0, .inr (5, [.ref bb, .int (nI 32)])), (bb, .inl (cB, n, .inl f))] H → va_D A [(h, .inr (0, [.ref k, .int (nI 14)])), (k, .inl (cI, 60, .inl ((iter (ek2 8) j (16777216, iter (ek1 f 32) 8 rk)).2))), (hr0, .inr (5, [.ref bb, .int (nI 32)])), (bb, .inl (cB, n, .inl f))] → va_S A s.heap H locs → lv_has ls 7 [(3, .int ((iter (ek2 8) j (16777216, iter (ek1 f 32) 8 rk)).1)), (4, .int (nI (8 + j))), (2, .int 8), (0, .ref h), (1, .ref hr0)] → W p l e rm_A_expandKey8 s m args below meth c H locs 0 0 (MQ below (sbQv D (fun (_ : Unit) => True) (fun (_ : Unit) => [(h, .inr (0, [.ref k, .int (nI 14)])), (k, .inl (cI, 60, .inl (ekey f 32 8 rk))), (hr0, .inr (5, [.ref bb, .int (nI 32)])), (bb, .inl (cB, n, .inl f))]) A) args s 0 0 A) (F0 m 60 ls []) := by
        intro d2
        induction d2 with
        | zero =>
          intro j hi2 H locs ls hP hD hS hl
          obtain rfl : 52 = j := by omega
          refine lv_iload hx hb d_A_expandKey_60 (lv_at hl 1 rfl) ?_
          refine lv_iconst (v := 4) hx hb d_A_expandKey_62 (by decide) ?_
          refine lv_aload_n hx hb d_A_expandKey_63 rfl (lv_at hl 3 rfl) ?_
          refine va_get (D := D) (ci := 0) (v := .int (nI 14)) (C := R_A) (T := F_A) (N := 2) hx hb hts in_A hown hG.1 hP 0 rfl rfl 1 (by decide) (hts _ k_84) (fun _ h9 => h9) rfl d_A_expandKey_64 ?_
          refine lv_iconst (v := 1) hx hb d_A_expandKey_67 (by decide) ?_
          refine lv_iadd hx hb d_A_expandKey_68 ?_
          refine sb_topn 15 (sb_eqn (a := 14 + 1) (b := 15) (nI_add 14 1) (by omega)) ?_
          refine lv_imul hx hb d_A_expandKey_69 ?_
          refine sb_topn 60 (sb_eqn (a := 4 * 15) (b := 60) (sb_mul (a := 4) (b := 15) rfl rfl) (by omega)) ?_
          refine lv_icmp_ge (tgt := 169) hx hb d_A_expandKey_70 (by decide) (fun c_3 => ?_) (fun c_3 => absurd (sb_geT (a := 8 + 52) (b := 60) rfl rfl (by omega) (by omega) (by omega)) c_3)
          have t_4 : (iter (ek2 8) 52 (16777216, iter (ek1 f 32) 8 rk)).2 = ekey f 32 8 rk := rfl
          have hP9 := hP.sub (ws' := [(h, .inr (0, [.ref k, .int (nI 14)])), (k, .inl (cI, 60, .inl ((iter (ek2 8) 52 (16777216, iter (ek1 f 32) 8 rk)).2))), (hr0, .inr (5, [.ref bb, .int (nI 32)])), (bb, .inl (cB, n, .inl f))]) [0, 1, 2, 3] rfl
          have hD9 := hD.sub (ws' := [(h, .inr (0, [.ref k, .int (nI 14)])), (k, .inl (cI, 60, .inl ((iter (ek2 8) 52 (16777216, iter (ek1 f 32) 8 rk)).2))), (hr0, .inr (5, [.ref bb, .int (nI 32)])), (bb, .inl (cB, n, .inl f))]) [0, 1, 2, 3] (by decide) rfl
          rw [t_4] at hP9 hD9
          exact W.vret hx hb hr (fun t ht hW => ⟨⟨(), rfl, trivial, by rw [ht]; exact hP9, hD9⟩, hS.F ht⟩) hS.2.2 d_A_expandKey_169
        | succ d2 ih2 =>
          intro j hi2 H locs ls hP hD hS hl
          refine lv_iload hx hb d_A_expandKey_60 (lv_at hl 1 rfl) ?_
          refine lv_iconst (v := 4) hx hb d_A_expandKey_62 (by decide) ?_
          refine lv_aload_n hx hb d_A_expandKey_63 rfl (lv_at hl 3 rfl) ?_
          refine va_get (D := D) (ci := 0) (v := .int (nI 14)) (C := R_A) (T := F_A) (N := 2) hx hb hts in_A hown hG.1 hP 0 rfl rfl 1 (by decide) (hts _ k_84) (fun _ h9 => h9) rfl d_A_expandKey_64 ?_
          refine lv_iconst (v := 1) hx hb d_A_expandKey_67 (by decide) ?_
          refine lv_iadd hx hb d_A_expandKey_68 ?_
          refine sb_topn 15 (sb_eqn (a := 14 + 1) (b := 15) (nI_add 14 1) (by omega)) ?_
          refine lv_imul hx hb d_A_expandKey_69 ?_
          refine sb_topn 60 (sb_eqn (a := 4 * 15) (b := 60) (sb_mul (a := 4) (b := 15) rfl rfl) (by omega)) ?_
          refine lv_icmp_ge (tgt := 169) hx hb d_A_expandKey_70 (by decide) (fun c_5 => absurd c_5 (sb_geF (a := 8 + j) (b := 60) rfl rfl (by omega) (by omega) (by omega))) (fun c_5 => ?_)
          refine lv_aload_n hx hb d_A_expandKey_73 rfl (lv_at hl 3 rfl) ?_
          refine va_get (D := D) (ci := 0) (v := .ref k) (C := R_A) (T := F_A) (N := 2) hx hb hts in_A hown hG.1 hP 0 rfl rfl 0 (by decide) (hts _ k_83) (fun _ h9 => h9) rfl d_A_expandKey_74 ?_
          refine lv_iload hx hb d_A_expandKey_77 (lv_at hl 1 rfl) ?_
          refine lv_iconst (v := 1) hx hb d_A_expandKey_79 (by decide) ?_
          refine lv_isub hx hb d_A_expandKey_80 ?_
          refine sb_topn ((8 + j) - 1) (sb_sub (a := 8 + j) (b := 1) (by omega) rfl rfl) ?_
          refine sb_ild hx hb hG.1 hP 1 rfl ((8 + j) - 1) rfl (by omega) (by omega) d_A_expandKey_81 ?_
          refine lv_topi (fun x_6 ex_6 => ?_)
          refine lv_istore (lv' := [(5, .int x_6), (3, .int ((iter (ek2 8) j (16777216, iter (ek1 f 32) 8 rk)).1)), (4, .int (nI (8 + j))), (2, .int 8), (0, .ref h), (1, .ref hr0)]) hx hb d_A_expandKey_82 hl (by decide) rfl (fun ls hl => ?_)
          refine lv_iload hx hb d_A_expandKey_84 (lv_at hl 2 rfl) ?_
          refine lv_iload_n hx hb d_A_expandKey_86 rfl (lv_at hl 3 rfl) ?_
          refine lv_irem hx hb d_A_expandKey_87 (by decide) ?_
          refine sb_topn ((8 + j) % 8) (sb_rem (a := 8 + j) (b := 8) (by omega) (by omega) (by omega) rfl rfl) ?_
          refine lv_if_ne (tgt := 123) hx hb d_A_expandKey_88 (by decide) (fun c_7 => ?_) (fun c_7 => ?_)
          · have c_7 := mt (sb_eqI (a := (8 + j) % 8) (b := 0) rfl rfl (by omega) (by omega)).mpr c_7
            refine lv_iload hx hb d_A_expandKey_123 (lv_at hl 2 rfl) ?_
            refine lv_iload_n hx hb d_A_expandKey_125 rfl (lv_at hl 3 rfl) ?_
            refine lv_irem hx hb d_A_expandKey_126 (by decide) ?_
            refine sb_topn ((8 + j) % 8) (sb_rem (a := 8 + j) (b := 8) (by omega) (by omega) (by omega) rfl rfl) ?_
            refine lv_iconst (v := 4) hx hb d_A_expandKey_127 (by decide) ?_
            refine lv_icmp_ne (tgt := 144) hx hb d_A_expandKey_128 (by decide) (fun c_8 => ?_) (fun c_8 => ?_)
            · have c_8 := mt (sb_eqI (a := (8 + j) % 8) (b := 4) rfl rfl (by omega) (by omega)).mpr c_8
              refine lv_aload_n hx hb d_A_expandKey_144 rfl (lv_at hl 4 rfl) ?_
              refine va_get (D := D) (ci := 0) (v := .ref k) (C := R_A) (T := F_A) (N := 2) hx hb hts in_A hown hG.1 hP 0 rfl rfl 0 (by decide) (hts _ k_83) (fun _ h9 => h9) rfl d_A_expandKey_145 ?_
              refine lv_iload hx hb d_A_expandKey_148 (lv_at hl 2 rfl) ?_
              refine lv_aload_n hx hb d_A_expandKey_150 rfl (lv_at hl 4 rfl) ?_
              refine va_get (D := D) (ci := 0) (v := .ref k) (C := R_A) (T := F_A) (N := 2) hx hb hts in_A hown hG.1 hP 0 rfl rfl 0 (by decide) (hts _ k_83) (fun _ h9 => h9) rfl d_A_expandKey_151 ?_
              refine lv_iload hx hb d_A_expandKey_154 (lv_at hl 2 rfl) ?_
              refine lv_iload_n hx hb d_A_expandKey_156 rfl (lv_at hl 3 rfl) ?_
              refine lv_isub hx hb d_A_expandKey_157 ?_
              refine sb_topn ((8 + j) - 8) (sb_sub (a := 8 + j) (b := 8) (by omega) rfl rfl) ?_
              refine sb_ild hx hb hG.1 hP 1 rfl ((8 + j) - 8) rfl (by omega) (by omega) d_A_expandKey_158 ?_
              refine lv_iload hx hb d_A_expandKey_159 (lv_at hl 0 rfl) ?_
              refine lv_ixor hx hb d_A_expandKey_161 ?_
              refine sb_ist hx hb hG.1 hP hD hS 1 rfl (8 + j) rfl (by omega) (by omega) d_A_expandKey_162 (fun f_9 H locs ef_9 hP hD hS => ?_)
              have hP : va_P D vwCl [(h, .inr (0, [.ref k, .int (nI 14)])), (k, .inl (cI, 60, .inl f_9)), (hr0, .inr (5, [.ref bb, .int (nI 32)])), (bb, .inl (cB, n, .inl f))] H := hP
              have hD : va_D A [(h, .inr (0, [.ref k, .int (nI 14)])), (k, .inl (cI, 60, .inl f_9)), (hr0, .inr (5, [.ref bb, .int (nI 32)])), (bb, .inl (cB, n, .inl f))] := hD
              refine lv_iinc (v := nI ((8 + j) + 1)) (lv' := [(4, .int (nI ((8 + j) + 1))), (5, .int x_6), (3, .int ((iter (ek2 8) j (16777216, iter (ek1 f 32) 8 rk)).1)), (2, .int 8), (0, .ref h), (1, .ref hr0)]) hx hb d_A_expandKey_163 hl (k := 2) rfl (sb_inc (a := 8 + j) (b := (8 + j) + 1) (d := 1) rfl (by decide) (by omega)) (by decide) rfl (fun ls hl => ?_)
              refine lv_goto (tgt := 60) hx hb d_A_expandKey_166 (by decide) ?_
              rw [show (iter (ek2 8) j (16777216, iter (ek1 f 32) 8 rk)).1 = (iter (ek2 8) (j + 1) (16777216, iter (ek1 f 32) 8 rk)).1 from (by subst_vars; simp only [iter_s, ek2, if_neg c_7, if_neg c_8])] at hl
              obtain rfl : f_9 = (iter (ek2 8) (j + 1) (16777216, iter (ek1 f 32) 8 rk)).2 := (by subst_vars; simp only [iter_s, ek2, if_neg c_7, if_neg c_8])
              exact ih2 (j + 1) (by omega) _ _ ls (hP.sub [0, 1, 2, 3] rfl) (hD.sub [0, 1, 2, 3] (by decide) rfl) hS (lv_sub hl [2, 0, 3, 4, 5] rfl)
            · have c_8 := (sb_eqI (a := (8 + j) % 8) (b := 4) rfl rfl (by omega) (by omega)).mp c_8
              refine lv_iload hx hb d_A_expandKey_131 (lv_at hl 0 rfl) ?_
              refine lv_iload hx hb d_A_expandKey_133 (lv_at hl 0 rfl) ?_
              refine lv_iload hx hb d_A_expandKey_135 (lv_at hl 0 rfl) ?_
              refine lv_iload hx hb d_A_expandKey_137 (lv_at hl 0 rfl) ?_
              refine vp_callSi (va_runS (As := [.int x_6, .int x_6, .int x_6, .int x_6]) (rest := []) ⟨hx, hb, hml, hown, hts⟩ (c_A_substituted l D cI cL cB tS tF x_6 x_6 x_6 x_6 ) (va_cwS 4 hts (sb_gS k_449 k_450 k_26 k_451) rfl rfl rfl (by decide +kernel) ⟨Nat.le_of_ble_eq_true rfl, Nat.le_of_ble_eq_true rfl⟩) (sb_rS hG hP hS [] rfl) rfl rfl hl.1 rfl (lv_room (Nat.le_of_ble_eq_true rfl)) d_A_expandKey_139 ⟨Nat.le_of_ble_eq_true rfl, Nat.le_of_ble_eq_true rfl⟩).run (fun r_10 er_10 => ?_)
              subst er_10
              refine lv_topi (fun x_11 ex_11 => ?_)
              refine lv_istore (lv' := [(5, .int x_11), (3, .int ((iter (ek2 8) j (16777216, iter (ek1 f 32) 8 rk)).1)), (4, .int (nI (8 + j))), (2, .int 8), (0, .ref h), (1, .ref hr0)]) hx hb d_A_expandKey_142 hl (by decide) rfl (fun ls hl => ?_)
              refine lv_aload_n hx hb d_A_expandKey_144 rfl (lv_at hl 4 rfl) ?_
              refine va_get (D := D) (ci := 0) (v := .ref k) (C := R_A) (T := F_A) (N := 2) hx hb hts in_A hown hG.1 hP 0 rfl rfl 0 (by decide) (hts _ k_83) (fun _ h9 => h9) rfl d_A_expandKey_145 ?_
              refine lv_iload hx hb d_A_expandKey_148 (lv_at hl 2 rfl) ?_
              refine lv_aload_n hx hb d_A_expandKey_150 rfl (lv_at hl 4 rfl) ?_
              refine va_get (D := D) (ci := 0) (v := .ref k) (C := R_A) (T := F_A) (N := 2) hx hb hts in_A hown hG.1 hP 0 rfl rfl 0 (by decide) (hts _ k_83) (fun _ h9 => h9) rfl d_A_expandKey_151 ?_
              refine lv_iload hx hb d_A_expandKey_154 (lv_at hl 2 rfl) ?_
              refine lv_iload_n hx hb d_A_expandKey_156 rfl (lv_at hl 3 rfl) ?_
              refine lv_isub hx hb d_A_expandKey_157 ?_
              refine sb_topn ((8 + j) - 8) (sb_sub (a := 8 + j) (b := 8) (by omega) rfl rfl) ?_
              refine sb_ild hx hb hG.1 hP 1 rfl ((8 + j) - 8) rfl (by omega) (by omega) d_A_expandKey_158 ?_
              refine lv_iload hx hb d_A_expandKey_159 (lv_at hl 0 rfl) ?_
              refine lv_ixor hx hb d_A_expandKey_161 ?_
              refine sb_ist hx hb hG.1 hP hD hS 1 rfl (8 + j) rfl (by omega) (by omega) d_A_expandKey_162 (fun f_12 H locs ef_12 hP hD hS => ?_)
              have hP : va_P D vwCl [(h, .inr (0, [.ref k, .int (nI 14)])), (k, .inl (cI, 60, .inl f_12)), (hr0, .inr (5, [.ref bb, .int (nI 32)])), (bb, .inl (cB, n, .inl f))] H := hP
              have hD : va_D A [(h, .inr (0, [.ref k, .int (nI 14)])), (k, .inl (cI, 60, .inl f_12)), (hr0, .inr (5, [.ref bb, .int (nI 32)])), (bb, .inl (cB, n, .inl f))] := hD
              refine lv_iinc (v := nI ((8 + j) + 1)) (lv' := [(4, .int (nI ((8 + j) + 1))), (5, .int x_11), (3, .int ((iter (ek2 8) j (16777216, iter (ek1 f 32) 8 rk)).1)), (2, .int 8), (0, .ref h), (1, .ref hr0)]) hx hb d_A_expandKey_163 hl (k := 2) rfl (sb_inc (a := 8 + j) (b := (8 + j) + 1) (d := 1) rfl (by decide) (by omega)) (by decide) rfl (fun ls hl => ?_)
              refine lv_goto (tgt := 60) hx hb d_A_expandKey_166 (by decide) ?_
              rw [show (iter (ek2 8) j (16777216, iter (ek1 f 32) 8 rk)).1 = (iter (ek2 8) (j + 1) (16777216, iter (ek1 f 32) 8 rk)).1 from (by subst_vars; simp only [iter_s, ek2, if_neg c_7, if_pos c_8])] at hl
              obtain rfl : f_12 = (iter (ek2 8) (j + 1) (16777216, iter (ek1 f 32) 8 rk)).2 := (by subst_vars; simp only [iter_s, ek2, if_neg c_7, if_pos c_8])
              exact ih2 (j + 1) (by omega) _ _ ls (hP.sub [0, 1, 2, 3] rfl) (hD.sub [0, 1, 2, 3] (by decide) rfl) hS (lv_sub hl [2, 0, 3, 4, 5] rfl)
          · have c_7 := (sb_eqI (a := (8 + j) % 8) (b := 0) rfl rfl (by omega) (by omega)).mp c_7
            refine lv_iload hx hb d_A_expandKey_91 (lv_at hl 0 rfl) ?_
            refine lv_bipush (v := 8) hx hb d_A_expandKey_93 (by decide) ?_
            refine vp_callSi (va_runSN (As := [.int x_6, .int 8]) (rest := []) ⟨hx, hb, hml, hown, hts⟩ (c_X_rotated l D cI cL cB tS tF x_6 8 ) ⟨va_cnB 2 hts (sb_g k_448) rfl rfl rfl (va_Nw.of rfl (hG.nest (args := args) _ n_446)) (hts _ k_22) (by decide +kernel) ⟨Nat.le_of_ble_eq_true rfl, Nat.le_of_ble_eq_true rfl⟩, hts _ k_447, trivial⟩ (sb_rS hG hP hS [] rfl) rfl rfl hl.1 rfl (lv_room (Nat.le_of_ble_eq_true rfl)) d_A_expandKey_95 ⟨Nat.le_of_ble_eq_true rfl, Nat.le_of_ble_eq_true rfl⟩).run (fun r_13 er_13 => ?_)
            subst er_13
            refine lv_topi (fun x_14 ex_14 => ?_)
            refine lv_istore (lv' := [(6, .int x_14), (5, .int x_6), (3, .int ((iter (ek2 8) j (16777216, iter (ek1 f 32) 8 rk)).1)), (4, .int (nI (8 + j))), (2, .int 8), (0, .ref h), (1, .ref hr0)]) hx hb d_A_expandKey_98 hl (by decide) rfl (fun ls hl => ?_)
            refine lv_iload hx hb d_A_expandKey_100 (lv_at hl 0 rfl) ?_
            refine lv_iload hx hb d_A_expandKey_102 (lv_at hl 0 rfl) ?_
            refine lv_iload hx hb d_A_expandKey_104 (lv_at hl 0 rfl) ?_
            refine lv_iload hx hb d_A_expandKey_106 (lv_at hl 0 rfl) ?_
            refine vp_callSi (va_runS (As := [.int x_14, .int x_14, .int x_14, .int x_14]) (rest := []) ⟨hx, hb, hml, hown, hts⟩ (c_A_substituted l D cI cL cB tS tF x_14 x_14 x_14 x_14 ) (va_cwS 4 hts (sb_gS k_449 k_450 k_26 k_451) rfl rfl rfl (by decide +kernel) ⟨Nat.le_of_ble_eq_true rfl, Nat.le_of_ble_eq_true rfl⟩) (sb_rS hG hP hS [] rfl) rfl rfl hl.1 rfl (lv_room (Nat.le_of_ble_eq_true rfl)) d_A_expandKey_108 ⟨Nat.le_of_ble_eq_true rfl, Nat.le_of_ble_eq_true rfl⟩).run (fun r_15 er_15 => ?_)
            subst er_15
            refine lv_iload_n hx hb d_A_expandKey_111 rfl (lv_at hl 2 rfl) ?_
            refine lv_ixor hx hb d_A_expandKey_112 ?_
            refine lv_topi (fun x_16 ex_16 => ?_)
            refine lv_istore (lv' := [(5, .int x_16), (6, .int x_14), (3, .int ((iter (ek2 8) j (16777216, iter (ek1 f 32) 8 rk)).1)), (4, .int (nI (8 + j))), (2, .int 8), (0, .ref h), (1, .ref hr0)]) hx hb d_A_expandKey_113 hl (by decide) rfl (fun ls hl => ?_)
            refine lv_iload_n hx hb d_A_expandKey_115 rfl (lv_at hl 2 rfl) ?_
            refine vp_callSi (va_runS (As := [.int ((iter (ek2 8) j (16777216, iter (ek1 f 32) 8 rk)).1)]) (rest := []) ⟨hx, hb, hml, hown, hts⟩ (c_A_doubled l D cI cL cB tS tF ((iter (ek2 8) j (16777216, iter (ek1 f 32) 8 rk)).1) ) (va_cwS 1 hts (sb_gS k_454 k_455 k_26 k_456) rfl rfl rfl (by decide +kernel) ⟨Nat.le_of_ble_eq_true rfl, Nat.le_of_ble_eq_true rfl⟩) (sb_rS hG hP hS [] rfl) rfl rfl hl.1 rfl (lv_room (Nat.le_of_ble_eq_true rfl)) d_A_expandKey_116 ⟨Nat.le_of_ble_eq_true rfl, Nat.le_of_ble_eq_true rfl⟩).run (fun r_17 er_17 => ?_)
            subst er_17
            refine lv_topi (fun x_18 ex_18 => ?_)
            refine lv_istore_n (lv' := [(3, .int x_18), (5, .int x_16), (6, .int x_14), (4, .int (nI (8 + j))), (2, .int 8), (0, .ref h), (1, .ref hr0)]) hx hb d_A_expandKey_119 rfl hl (by decide) rfl (fun ls hl => ?_)
            refine lv_goto (tgt := 144) hx hb d_A_expandKey_120 (by decide) ?_
            refine lv_aload_n hx hb d_A_expandKey_144 rfl (lv_at hl 5 rfl) ?_
            refine va_get (D := D) (ci := 0) (v := .ref k) (C := R_A) (T := F_A) (N := 2) hx hb hts in_A hown hG.1 hP 0 rfl rfl 0 (by decide) (hts _ k_83) (fun _ h9 => h9) rfl d_A_expandKey_145 ?_
            refine lv_iload hx hb d_A_expandKey_148 (lv_at hl 3 rfl) ?_
            refine lv_aload_n hx hb d_A_expandKey_150 rfl (lv_at hl 5 rfl) ?_
            refine va_get (D := D) (ci := 0) (v := .ref k) (C := R_A) (T := F_A) (N := 2) hx hb hts in_A hown hG.1 hP 0 rfl rfl 0 (by decide) (hts _ k_83) (fun _ h9 => h9) rfl d_A_expandKey_151 ?_
            refine lv_iload hx hb d_A_expandKey_154 (lv_at hl 3 rfl) ?_
            refine lv_iload_n hx hb d_A_expandKey_156 rfl (lv_at hl 4 rfl) ?_
            refine lv_isub hx hb d_A_expandKey_157 ?_
            refine sb_topn ((8 + j) - 8) (sb_sub (a := 8 + j) (b := 8) (by omega) rfl rfl) ?_
            refine sb_ild hx hb hG.1 hP 1 rfl ((8 + j) - 8) rfl (by omega) (by omega) d_A_expandKey_158 ?_
            refine lv_iload hx hb d_A_expandKey_159 (lv_at hl 1 rfl) ?_
            refine lv_ixor hx hb d_A_expandKey_161 ?_
            refine sb_ist hx hb hG.1 hP hD hS 1 rfl (8 + j) rfl (by omega) (by omega) d_A_expandKey_162 (fun f_19 H locs ef_19 hP hD hS => ?_)
            have hP : va_P D vwCl [(h, .inr (0, [.ref k, .int (nI 14)])), (k, .inl (cI, 60, .inl f_19)), (hr0, .inr (5, [.ref bb, .int (nI 32)])), (bb, .inl (cB, n, .inl f))] H := hP
            have hD : va_D A [(h, .inr (0, [.ref k, .int (nI 14)])), (k, .inl (cI, 60, .inl f_19)), (hr0, .inr (5, [.ref bb, .int (nI 32)])), (bb, .inl (cB, n, .inl f))] := hD
            refine lv_iinc (v := nI ((8 + j) + 1)) (lv' := [(4, .int (nI ((8 + j) + 1))), (3, .int x_18), (5, .int x_16), (6, .int x_14), (2, .int 8), (0, .ref h), (1, .ref hr0)]) hx hb d_A_expandKey_163 hl (k := 3) rfl (sb_inc (a := 8 + j) (b := (8 + j) + 1) (d := 1) rfl (by decide) (by omega)) (by decide) rfl (fun ls hl => ?_)
            refine lv_goto (tgt := 60) hx hb d_A_expandKey_166 (by decide) ?_
            obtain rfl : x_18 = (iter (ek2 8) (j + 1) (16777216, iter (ek1 f 32) 8 rk)).1 := (by subst_vars; simp only [iter_s, ek2, if_pos c_7])
            obtain rfl : f_19 = (iter (ek2 8) (j + 1) (16777216, iter (ek1 f 32) 8 rk)).2 := (by subst_vars; simp only [iter_s, ek2, if_pos c_7])
            exact ih2 (j + 1) (by omega) _ _ ls (hP.sub [0, 1, 2, 3] rfl) (hD.sub [0, 1, 2, 3] (by decide) rfl) hS (lv_sub hl [1, 0, 4, 5, 6] rfl)
      exact lp2 52 0 (by omega) _ _ ls (hP.sub [0, 1, 2, 3] rfl) (hD.sub [0, 1, 2, 3] (by decide) rfl) hS (lv_sub hl [1, 0, 2, 3, 4] rfl)
    | succ d1 ih1 =>
      intro i hi1 H locs ls hP hD hS hl
      refine lv_iload_n hx hb d_A_expandKey_26 rfl (lv_at hl 0 rfl) ?_
      refine lv_iload_n hx hb d_A_expandKey_27 rfl (lv_at hl 1 rfl) ?_
      refine lv_icmp_ge (tgt := 54) hx hb d_A_expandKey_28 (by decide) (fun c_20 => absurd c_20 (sb_geF (a := i) (b := 8) rfl rfl (by omega) (by omega) (by omega))) (fun c_20 => ?_)
      refine lv_aload_n hx hb d_A_expandKey_31 rfl (lv_at hl 2 rfl) ?_
      refine va_get (D := D) (ci := 0) (v := .ref k) (C := R_A) (T := F_A) (N := 2) hx hb hts in_A hown hG.1 hP 0 rfl rfl 0 (by decide) (hts _ k_83) (fun _ h9 => h9) rfl d_A_expandKey_32 ?_
      refine lv_iload_n hx hb d_A_expandKey_35 rfl (lv_at hl 0 rfl) ?_
      refine lv_aload_n hx hb d_A_expandKey_36 rfl (lv_at hl 3 rfl) ?_
      refine lv_iconst (v := 4) hx hb d_A_expandKey_37 (by decide) ?_
      refine lv_iload_n hx hb d_A_expandKey_38 rfl (lv_at hl 0 rfl) ?_
      refine lv_imul hx hb d_A_expandKey_39 ?_
      refine sb_topn (4 * i) (sb_mul (a := 4) (b := i) rfl rfl) ?_
      refine lv_aload_n hx hb d_A_expandKey_40 rfl (lv_at hl 3 rfl) ?_
      refine va_getN (D := D) (ci := 5) (v := .int (nI 32)) (C := R_R) (T := F_R) (N := 2) hx hb hts in_R hown hG.1 hP 2 rfl rfl 1 (by decide) (hG.nest _ n_58) (fun _ h9 => h9) rfl d_A_expandKey_41 ?_
      refine vp_callSi (va_runV (As := [.int (nI (4 * i)), .int (nI 32)]) (rest := [.int (nI i), .ref k]) ⟨hx, hb, hml, hown, hts⟩ (c_R_word l D cI cL cB tS tF hr0 bb 32 n f (4 * i) 32 (by omega) (by omega) (by omega) (by omega)) (cwV 2 hts (sb_gV k_444 k_425 k_426 k_23 k_427) rfl rfl rfl (by decide +kernel) ⟨Nat.le_of_ble_eq_true rfl, Nat.le_of_ble_eq_true rfl⟩) (sb_rV hG hP hS [2, 3] rfl (ci := 5) (q0 := 2) rfl rfl) rfl rfl hl.1 rfl (lv_room (Nat.le_of_ble_eq_true rfl)) d_A_expandKey_44 ⟨Nat.le_of_ble_eq_true rfl, Nat.le_of_ble_eq_true rfl⟩).run (fun r_21 er_21 => ?_)
      subst er_21
      refine sb_ist hx hb hG.1 hP hD hS 1 rfl i rfl (by omega) (by omega) d_A_expandKey_47 (fun f_22 H locs ef_22 hP hD hS => ?_)
      have hP : va_P D vwCl [(h, .inr (0, [.ref k, .int (nI 14)])), (k, .inl (cI, 60, .inl f_22)), (hr0, .inr (5, [.ref bb, .int (nI 32)])), (bb, .inl (cB, n, .inl f))] H := hP
      have hD : va_D A [(h, .inr (0, [.ref k, .int (nI 14)])), (k, .inl (cI, 60, .inl f_22)), (hr0, .inr (5, [.ref bb, .int (nI 32)])), (bb, .inl (cB, n, .inl f))] := hD
      refine lv_iinc (v := nI (i + 1)) (lv' := [(3, .int (nI (i + 1))), (2, .int 8), (0, .ref h), (1, .ref hr0)]) hx hb d_A_expandKey_48 hl (k := 0) rfl (sb_inc (a := i) (b := i + 1) (d := 1) rfl (by decide) (by omega)) (by decide) rfl (fun ls hl => ?_)
      refine lv_goto (tgt := 26) hx hb d_A_expandKey_51 (by decide) ?_
      obtain rfl : f_22 = iter (ek1 f 32) (i + 1) rk := (by subst_vars; rfl)
      exact ih1 (i + 1) (by omega) _ _ ls (hP.sub [0, 1, 2, 3] rfl) (hD.sub [0, 1, 2, 3] (by decide) rfl) hS (lv_sub hl [0, 1, 2, 3] rfl)
  exact lp1 8 0 (by omega) _ _ ls (hP.sub [0, 1, 2, 3] rfl) (hD.sub [0, 1, 2, 3] (by decide) rfl) hS (lv_sub hl [0, 1, 2, 3] rfl)
