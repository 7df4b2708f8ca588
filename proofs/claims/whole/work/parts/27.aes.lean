theorem d_M_schedule_0 : decode b_M_schedule 0 = .ok (.aload_n 0, 1) := by decide +kernel
theorem d_M_schedule_1 : decode b_M_schedule 1 = .ok (.iload_n 1, 1) := by decide +kernel
theorem d_M_schedule_2 : decode b_M_schedule 2 = .ok (.bipush 6, 2) := by decide +kernel
theorem d_M_schedule_4 : decode b_M_schedule 4 = .ok (.iadd, 1) := by decide +kernel
theorem d_M_schedule_5 : decode b_M_schedule 5 = .ok (.putfield 82, 3) := by decide +kernel
theorem d_M_schedule_8 : decode b_M_schedule 8 = .ok (.iconst 0, 1) := by decide +kernel
theorem d_M_schedule_9 : decode b_M_schedule 9 = .ok (.istore_n 2, 1) := by decide +kernel
theorem d_M_schedule_10 : decode b_M_schedule 10 = .ok (.iload_n 2, 1) := by decide +kernel
theorem d_M_schedule_11 : decode b_M_schedule 11 = .ok (.iconst 4, 1) := by decide +kernel
theorem d_M_schedule_12 : decode b_M_schedule 12 = .ok (.iload_n 1, 1) := by decide +kernel
theorem d_M_schedule_13 : decode b_M_schedule 13 = .ok (.imul, 1) := by decide +kernel
theorem d_M_schedule_14 : decode b_M_schedule 14 = .ok (.if_icmp .ge 21, 3) := by decide +kernel
theorem d_M_schedule_17 : decode b_M_schedule 17 = .ok (.aload_n 0, 1) := by decide +kernel
theorem d_M_schedule_18 : decode b_M_schedule 18 = .ok (.getfield 36, 3) := by decide +kernel
theorem d_M_schedule_21 : decode b_M_schedule 21 = .ok (.iload_n 2, 1) := by decide +kernel
theorem d_M_schedule_22 : decode b_M_schedule 22 = .ok (.aload_n 0, 1) := by decide +kernel
theorem d_M_schedule_23 : decode b_M_schedule 23 = .ok (.getfield 24, 3) := by decide +kernel
theorem d_M_schedule_26 : decode b_M_schedule 26 = .ok (.iload_n 2, 1) := by decide +kernel
theorem d_M_schedule_27 : decode b_M_schedule 27 = .ok (.iaload, 1) := by decide +kernel
theorem d_M_schedule_28 : decode b_M_schedule 28 = .ok (.iastore, 1) := by decide +kernel
theorem d_M_schedule_29 : decode b_M_schedule 29 = .ok (.iinc 2 1, 3) := by decide +kernel
theorem d_M_schedule_32 : decode b_M_schedule 32 = .ok (.goto (-22), 3) := by decide +kernel
theorem d_M_schedule_35 : decode b_M_schedule 35 = .ok (.iconst 1, 1) := by decide +kernel
theorem d_M_schedule_36 : decode b_M_schedule 36 = .ok (.istore_n 2, 1) := by decide +kernel
theorem d_M_schedule_37 : decode b_M_schedule 37 = .ok (.iload_n 1, 1) := by decide +kernel
theorem d_M_schedule_38 : decode b_M_schedule 38 = .ok (.istore_n 3, 1) := by decide +kernel
theorem d_M_schedule_39 : decode b_M_schedule 39 = .ok (.iload_n 3, 1) := by decide +kernel
theorem d_M_schedule_40 : decode b_M_schedule 40 = .ok (.iconst 4, 1) := by decide +kernel
theorem d_M_schedule_41 : decode b_M_schedule 41 = .ok (.aload_n 0, 1) := by decide +kernel
theorem d_M_schedule_42 : decode b_M_schedule 42 = .ok (.getfield 82, 3) := by decide +kernel
theorem d_M_schedule_45 : decode b_M_schedule 45 = .ok (.iconst 1, 1) := by decide +kernel
theorem d_M_schedule_46 : decode b_M_schedule 46 = .ok (.iadd, 1) := by decide +kernel
theorem d_M_schedule_47 : decode b_M_schedule 47 = .ok (.imul, 1) := by decide +kernel
theorem d_M_schedule_48 : decode b_M_schedule 48 = .ok (.if_icmp .ge 218, 3) := by decide +kernel
theorem d_M_schedule_51 : decode b_M_schedule 51 = .ok (.iconst 0, 1) := by decide +kernel
theorem d_M_schedule_52 : decode b_M_schedule 52 = .ok (.istore 4, 2) := by decide +kernel
theorem d_M_schedule_54 : decode b_M_schedule 54 = .ok (.iload 4, 2) := by decide +kernel
theorem d_M_schedule_56 : decode b_M_schedule 56 = .ok (.iconst 4, 1) := by decide +kernel
theorem d_M_schedule_57 : decode b_M_schedule 57 = .ok (.if_icmp .ge 29, 3) := by decide +kernel
theorem d_M_schedule_60 : decode b_M_schedule 60 = .ok (.aload_n 0, 1) := by decide +kernel
theorem d_M_schedule_61 : decode b_M_schedule 61 = .ok (.getfield 45, 3) := by decide +kernel
theorem d_M_schedule_64 : decode b_M_schedule 64 = .ok (.iload 4, 2) := by decide +kernel
theorem d_M_schedule_66 : decode b_M_schedule 66 = .ok (.aload_n 0, 1) := by decide +kernel
theorem d_M_schedule_67 : decode b_M_schedule 67 = .ok (.getfield 36, 3) := by decide +kernel
theorem d_M_schedule_70 : decode b_M_schedule 70 = .ok (.iconst 4, 1) := by decide +kernel
theorem d_M_schedule_71 : decode b_M_schedule 71 = .ok (.iload_n 3, 1) := by decide +kernel
theorem d_M_schedule_72 : decode b_M_schedule 72 = .ok (.imul, 1) := by decide +kernel
theorem d_M_schedule_73 : decode b_M_schedule 73 = .ok (.iconst 4, 1) := by decide +kernel
theorem d_M_schedule_74 : decode b_M_schedule 74 = .ok (.isub, 1) := by decide +kernel
theorem d_M_schedule_75 : decode b_M_schedule 75 = .ok (.iload 4, 2) := by decide +kernel
theorem d_M_schedule_77 : decode b_M_schedule 77 = .ok (.iadd, 1) := by decide +kernel
theorem d_M_schedule_78 : decode b_M_schedule 78 = .ok (.iaload, 1) := by decide +kernel
theorem d_M_schedule_79 : decode b_M_schedule 79 = .ok (.iastore, 1) := by decide +kernel
theorem d_M_schedule_80 : decode b_M_schedule 80 = .ok (.iinc 4 1, 3) := by decide +kernel
theorem d_M_schedule_83 : decode b_M_schedule 83 = .ok (.goto (-29), 3) := by decide +kernel
theorem d_M_schedule_86 : decode b_M_schedule 86 = .ok (.iload_n 3, 1) := by decide +kernel
theorem d_M_schedule_87 : decode b_M_schedule 87 = .ok (.iload_n 1, 1) := by decide +kernel
theorem d_M_schedule_88 : decode b_M_schedule 88 = .ok (.irem, 1) := by decide +kernel
theorem d_M_schedule_89 : decode b_M_schedule 89 = .ok (.ifCond .ne 77, 3) := by decide +kernel
theorem d_M_schedule_92 : decode b_M_schedule 92 = .ok (.aload_n 0, 1) := by decide +kernel
theorem d_M_schedule_93 : decode b_M_schedule 93 = .ok (.getfield 45, 3) := by decide +kernel
theorem d_M_schedule_96 : decode b_M_schedule 96 = .ok (.iconst 0, 1) := by decide +kernel
theorem d_M_schedule_97 : decode b_M_schedule 97 = .ok (.iaload, 1) := by decide +kernel
theorem d_M_schedule_98 : decode b_M_schedule 98 = .ok (.istore 4, 2) := by decide +kernel
theorem d_M_schedule_100 : decode b_M_schedule 100 = .ok (.iconst 0, 1) := by decide +kernel
theorem d_M_schedule_101 : decode b_M_schedule 101 = .ok (.istore 5, 2) := by decide +kernel
theorem d_M_schedule_103 : decode b_M_schedule 103 = .ok (.iload 5, 2) := by decide +kernel
theorem d_M_schedule_105 : decode b_M_schedule 105 = .ok (.iconst 4, 1) := by decide +kernel
theorem d_M_schedule_106 : decode b_M_schedule 106 = .ok (.if_icmp .ge 41, 3) := by decide +kernel
theorem d_M_schedule_109 : decode b_M_schedule 109 = .ok (.aload_n 0, 1) := by decide +kernel
theorem d_M_schedule_110 : decode b_M_schedule 110 = .ok (.getfield 45, 3) := by decide +kernel
theorem d_M_schedule_113 : decode b_M_schedule 113 = .ok (.iload 5, 2) := by decide +kernel
theorem d_M_schedule_115 : decode b_M_schedule 115 = .ok (.aload_n 0, 1) := by decide +kernel
theorem d_M_schedule_116 : decode b_M_schedule 116 = .ok (.getfield 33, 3) := by decide +kernel
theorem d_M_schedule_119 : decode b_M_schedule 119 = .ok (.iload 5, 2) := by decide +kernel
theorem d_M_schedule_121 : decode b_M_schedule 121 = .ok (.iconst 3, 1) := by decide +kernel
theorem d_M_schedule_122 : decode b_M_schedule 122 = .ok (.if_icmp .ge 15, 3) := by decide +kernel
theorem d_M_schedule_125 : decode b_M_schedule 125 = .ok (.aload_n 0, 1) := by decide +kernel
theorem d_M_schedule_126 : decode b_M_schedule 126 = .ok (.getfield 45, 3) := by decide +kernel
theorem d_M_schedule_129 : decode b_M_schedule 129 = .ok (.iload 5, 2) := by decide +kernel
theorem d_M_schedule_131 : decode b_M_schedule 131 = .ok (.iconst 1, 1) := by decide +kernel
theorem d_M_schedule_132 : decode b_M_schedule 132 = .ok (.iadd, 1) := by decide +kernel
theorem d_M_schedule_133 : decode b_M_schedule 133 = .ok (.iaload, 1) := by decide +kernel
theorem d_M_schedule_134 : decode b_M_schedule 134 = .ok (.goto 5, 3) := by decide +kernel
theorem d_M_schedule_137 : decode b_M_schedule 137 = .ok (.iload 4, 2) := by decide +kernel
theorem d_M_schedule_139 : decode b_M_schedule 139 = .ok (.iaload, 1) := by decide +kernel
theorem d_M_schedule_140 : decode b_M_schedule 140 = .ok (.iastore, 1) := by decide +kernel
theorem d_M_schedule_141 : decode b_M_schedule 141 = .ok (.iinc 5 1, 3) := by decide +kernel
theorem d_M_schedule_144 : decode b_M_schedule 144 = .ok (.goto (-41), 3) := by decide +kernel
theorem d_M_schedule_147 : decode b_M_schedule 147 = .ok (.aload_n 0, 1) := by decide +kernel
theorem d_M_schedule_148 : decode b_M_schedule 148 = .ok (.getfield 45, 3) := by decide +kernel
theorem d_M_schedule_151 : decode b_M_schedule 151 = .ok (.iconst 0, 1) := by decide +kernel
theorem d_M_schedule_152 : decode b_M_schedule 152 = .ok (.dup2, 1) := by decide +kernel
theorem d_M_schedule_153 : decode b_M_schedule 153 = .ok (.iaload, 1) := by decide +kernel
theorem d_M_schedule_154 : decode b_M_schedule 154 = .ok (.iload_n 2, 1) := by decide +kernel
theorem d_M_schedule_155 : decode b_M_schedule 155 = .ok (.ixor, 1) := by decide +kernel
theorem d_M_schedule_156 : decode b_M_schedule 156 = .ok (.iastore, 1) := by decide +kernel
theorem d_M_schedule_157 : decode b_M_schedule 157 = .ok (.iload_n 2, 1) := by decide +kernel
theorem d_M_schedule_158 : decode b_M_schedule 158 = .ok (.iconst 2, 1) := by decide +kernel
theorem d_M_schedule_159 : decode b_M_schedule 159 = .ok (.invokestatic 75, 3) := by decide +kernel
theorem d_M_schedule_162 : decode b_M_schedule 162 = .ok (.istore_n 2, 1) := by decide +kernel
theorem d_M_schedule_163 : decode b_M_schedule 163 = .ok (.goto 50, 3) := by decide +kernel
theorem d_M_schedule_166 : decode b_M_schedule 166 = .ok (.iload_n 1, 1) := by decide +kernel
theorem d_M_schedule_167 : decode b_M_schedule 167 = .ok (.bipush 6, 2) := by decide +kernel
theorem d_M_schedule_169 : decode b_M_schedule 169 = .ok (.if_icmp .le 44, 3) := by decide +kernel
theorem d_M_schedule_172 : decode b_M_schedule 172 = .ok (.iload_n 3, 1) := by decide +kernel
theorem d_M_schedule_173 : decode b_M_schedule 173 = .ok (.iload_n 1, 1) := by decide +kernel
theorem d_M_schedule_174 : decode b_M_schedule 174 = .ok (.irem, 1) := by decide +kernel
theorem d_M_schedule_175 : decode b_M_schedule 175 = .ok (.iconst 4, 1) := by decide +kernel
theorem d_M_schedule_176 : decode b_M_schedule 176 = .ok (.if_icmp .ne 37, 3) := by decide +kernel
theorem d_M_schedule_179 : decode b_M_schedule 179 = .ok (.iconst 0, 1) := by decide +kernel
theorem d_M_schedule_180 : decode b_M_schedule 180 = .ok (.istore 4, 2) := by decide +kernel
theorem d_M_schedule_182 : decode b_M_schedule 182 = .ok (.iload 4, 2) := by decide +kernel
theorem d_M_schedule_184 : decode b_M_schedule 184 = .ok (.iconst 4, 1) := by decide +kernel
theorem d_M_schedule_185 : decode b_M_schedule 185 = .ok (.if_icmp .ge 28, 3) := by decide +kernel
theorem d_M_schedule_188 : decode b_M_schedule 188 = .ok (.aload_n 0, 1) := by decide +kernel
theorem d_M_schedule_189 : decode b_M_schedule 189 = .ok (.getfield 45, 3) := by decide +kernel
theorem d_M_schedule_192 : decode b_M_schedule 192 = .ok (.iload 4, 2) := by decide +kernel
theorem d_M_schedule_194 : decode b_M_schedule 194 = .ok (.aload_n 0, 1) := by decide +kernel
theorem d_M_schedule_195 : decode b_M_schedule 195 = .ok (.getfield 33, 3) := by decide +kernel
theorem d_M_schedule_198 : decode b_M_schedule 198 = .ok (.aload_n 0, 1) := by decide +kernel
theorem d_M_schedule_199 : decode b_M_schedule 199 = .ok (.getfield 45, 3) := by decide +kernel
theorem d_M_schedule_202 : decode b_M_schedule 202 = .ok (.iload 4, 2) := by decide +kernel
theorem d_M_schedule_204 : decode b_M_schedule 204 = .ok (.iaload, 1) := by decide +kernel
theorem d_M_schedule_205 : decode b_M_schedule 205 = .ok (.iaload, 1) := by decide +kernel
theorem d_M_schedule_206 : decode b_M_schedule 206 = .ok (.iastore, 1) := by decide +kernel
theorem d_M_schedule_207 : decode b_M_schedule 207 = .ok (.iinc 4 1, 3) := by decide +kernel
theorem d_M_schedule_210 : decode b_M_schedule 210 = .ok (.goto (-28), 3) := by decide +kernel
theorem d_M_schedule_213 : decode b_M_schedule 213 = .ok (.iconst 0, 1) := by decide +kernel
theorem d_M_schedule_214 : decode b_M_schedule 214 = .ok (.istore 4, 2) := by decide +kernel
theorem d_M_schedule_216 : decode b_M_schedule 216 = .ok (.iload 4, 2) := by decide +kernel
theorem d_M_schedule_218 : decode b_M_schedule 218 = .ok (.iconst 4, 1) := by decide +kernel
theorem d_M_schedule_219 : decode b_M_schedule 219 = .ok (.if_icmp .ge 41, 3) := by decide +kernel
theorem d_M_schedule_222 : decode b_M_schedule 222 = .ok (.aload_n 0, 1) := by decide +kernel
theorem d_M_schedule_223 : decode b_M_schedule 223 = .ok (.getfield 36, 3) := by decide +kernel
theorem d_M_schedule_226 : decode b_M_schedule 226 = .ok (.iconst 4, 1) := by decide +kernel
theorem d_M_schedule_227 : decode b_M_schedule 227 = .ok (.iload_n 3, 1) := by decide +kernel
theorem d_M_schedule_228 : decode b_M_schedule 228 = .ok (.imul, 1) := by decide +kernel
theorem d_M_schedule_229 : decode b_M_schedule 229 = .ok (.iload 4, 2) := by decide +kernel
theorem d_M_schedule_231 : decode b_M_schedule 231 = .ok (.iadd, 1) := by decide +kernel
theorem d_M_schedule_232 : decode b_M_schedule 232 = .ok (.aload_n 0, 1) := by decide +kernel
theorem d_M_schedule_233 : decode b_M_schedule 233 = .ok (.getfield 36, 3) := by decide +kernel
theorem d_M_schedule_236 : decode b_M_schedule 236 = .ok (.iconst 4, 1) := by decide +kernel
theorem d_M_schedule_237 : decode b_M_schedule 237 = .ok (.iload_n 3, 1) := by decide +kernel
theorem d_M_schedule_238 : decode b_M_schedule 238 = .ok (.iload_n 1, 1) := by decide +kernel
theorem d_M_schedule_239 : decode b_M_schedule 239 = .ok (.isub, 1) := by decide +kernel
theorem d_M_schedule_240 : decode b_M_schedule 240 = .ok (.imul, 1) := by decide +kernel
theorem d_M_schedule_241 : decode b_M_schedule 241 = .ok (.iload 4, 2) := by decide +kernel
theorem d_M_schedule_243 : decode b_M_schedule 243 = .ok (.iadd, 1) := by decide +kernel
theorem d_M_schedule_244 : decode b_M_schedule 244 = .ok (.iaload, 1) := by decide +kernel
theorem d_M_schedule_245 : decode b_M_schedule 245 = .ok (.aload_n 0, 1) := by decide +kernel
theorem d_M_schedule_246 : decode b_M_schedule 246 = .ok (.getfield 45, 3) := by decide +kernel
theorem d_M_schedule_249 : decode b_M_schedule 249 = .ok (.iload 4, 2) := by decide +kernel
theorem d_M_schedule_251 : decode b_M_schedule 251 = .ok (.iaload, 1) := by decide +kernel
theorem d_M_schedule_252 : decode b_M_schedule 252 = .ok (.ixor, 1) := by decide +kernel
theorem d_M_schedule_253 : decode b_M_schedule 253 = .ok (.iastore, 1) := by decide +kernel
theorem d_M_schedule_254 : decode b_M_schedule 254 = .ok (.iinc 4 1, 3) := by decide +kernel
theorem d_M_schedule_257 : decode b_M_schedule 257 = .ok (.goto (-41), 3) := by decide +kernel
theorem d_M_schedule_260 : decode b_M_schedule 260 = .ok (.iinc 3 1, 3) := by decide +kernel
theorem d_M_schedule_263 : decode b_M_schedule 263 = .ok (.goto (-224), 3) := by decide +kernel
theorem d_M_schedule_266 : decode b_M_schedule 266 = .ok (.return_, 1) := by decide +kernel

def rm_M_schedule4 : Room := { frames := 1, cells := 0, slots := 0, locals := 24 }
set_option maxHeartbeats 4000000 in
set_option maxRecDepth 100000 in
theorem c_M_schedule4 (l : Launch) (D : va_G) (cI cL cB : ClassId) (tS tF : Nat) (mo : Nat) (a1 : Nat) (a2 : Nat) (a3 : Nat) (a4 : Nat) (a5 : Nat) (a6 : Nat) (a7 : Nat) (a8 : Nat) (a9 : Nat) (a10 : Nat) (a11 : Nat) (a12 : Nat) (a13 : Nat) (a14 : Nat) (a15 : Nat) (a16 : Nat) (a17 : Nat) (a18 : Nat) (a19 : Nat) (a20 : Nat) (thr : Int32) (ci : Int32) (bk : Int32) (se : Int32) (op : Int32) (fa : Int32) (lt : Nat) (lb : Nat) (lz : Nat) (rn : Nat) (nu : Int64) (kh : Int64) (kl : Int64) (sh : Int64) (sl : Int64) (gk : Nat → Nat) (gS : Nat → Nat) (gr : Nat → Nat) (gf : Nat → Nat) (sz : Nat) (hgk : By gk) (hgS : By gS) (hgr : By gr) (hgf : By gf) : Met l y_M_schedule (sbw y_M_schedule b_M_schedule 6 none) rm_M_schedule4 (sbPc D cI cL cB tS tF [.ref mo, .int (nI 4)] sz [(mo, .inr (7, mFs thr a1 a2 a3 (nI lt) (nI lb) (nI lz) ci a4 a5 a6 nu bk se op fa a7 a8 a9 a10 a11 (nI rn) kh kl sh sl a12 a13 a14 a15 a16 a17 a18 a19 a20)), (a4, .inl (cI, 32, .inl (nF gk))), (a7, .inl (cI, 256, .inl (nF gS))), (a8, .inl (cI, 240, .inl (nF gr))), (a11, .inl (cI, 4, .inl (nF gf)))]) (sbQv D (fun (_ : Unit) => True) (fun (_ : Unit) => [(mo, .inr (7, mFs thr a1 a2 a3 (nI lt) (nI lb) (nI lz) ci a4 a5 a6 nu bk se op fa a7 a8 a9 a10 a11 (nI 10) kh kl sh sl a12 a13 a14 a15 a16 a17 a18 a19 a20)), (a4, .inl (cI, 32, .inl (nF gk))), (a7, .inl (cI, 256, .inl (nF gS))), (a8, .inl (cI, 240, .inl (nF ((kSch gS gk 4 gf gr 40).2.2)))), (a11, .inl (cI, 4, .inl (nF ((kSch gS gk 4 gf gr 40).2.1))))]) (va_A [(mo, .inr (7, mFs thr a1 a2 a3 (nI lt) (nI lb) (nI lz) ci a4 a5 a6 nu bk se op fa a7 a8 a9 a10 a11 (nI rn) kh kl sh sl a12 a13 a14 a15 a16 a17 a18 a19 a20)), (a4, .inl (cI, 32, .inl (nF gk))), (a7, .inl (cI, 256, .inl (nF gS))), (a8, .inl (cI, 240, .inl (nF gr))), (a11, .inl (cI, 4, .inl (nF gf)))] sz)) 0 0 (va_A [(mo, .inr (7, mFs thr a1 a2 a3 (nI lt) (nI lb) (nI lz) ci a4 a5 a6 nu bk se op fa a7 a8 a9 a10 a11 (nI rn) kh kl sh sl a12 a13 a14 a15 a16 a17 a18 a19 a20)), (a4, .inl (cI, 32, .inl (nF gk))), (a7, .inl (cI, 256, .inl (nF gS))), (a8, .inl (cI, 240, .inl (nF gr))), (a11, .inl (cI, 4, .inl (nF gf)))] sz) := by
  refine sb_ofW (y := y_M_schedule) (maxL := 6) (av := [.ref mo, .int (nI 4)]) (Qc := fun A => (sbQv D (fun (_ : Unit) => True) (fun (_ : Unit) => [(mo, .inr (7, mFs thr a1 a2 a3 (nI lt) (nI lb) (nI lz) ci a4 a5 a6 nu bk se op fa a7 a8 a9 a10 a11 (nI 10) kh kl sh sl a12 a13 a14 a15 a16 a17 a18 a19 a20)), (a4, .inl (cI, 32, .inl (nF gk))), (a7, .inl (cI, 256, .inl (nF gS))), (a8, .inl (cI, 240, .inl (nF ((kSch gS gk 4 gf gr 40).2.2)))), (a11, .inl (cI, 4, .inl (nF ((kSch gS gk 4 gf gr 40).2.1))))]) A)) (by decide) (Nat.le_of_ble_eq_true rfl) ?_
  intro p e s m args below meth c A ls hx hb hr hml hts hown hlocks hin hsz hP hG hD hA hS hl
  have hl : lv_has ls 6 [(0, .ref mo), (1, .int (nI 4))] := hl
  refine lv_aload_n hx hb d_M_schedule_0 rfl (lv_at hl 0 rfl) ?_
  refine lv_iload_n hx hb d_M_schedule_1 rfl (lv_at hl 1 rfl) ?_
  refine lv_bipush (v := 6) hx hb d_M_schedule_2 (by decide) ?_
  refine lv_iadd hx hb d_M_schedule_4 ?_
  refine sb_topn 10 (sb_eqn (a := 4 + 6) (b := 10) (nI_add 4 6) (by omega)) ?_
  refine va_put (D := D) (ci := 7) (v := .int (nI 10)) (ty := .int) (C := R_M) (T := F_M) (N := 35) hx hb hts in_M tq_M tq_M_ok nq_M hown hG.1 hP hD hS 0 rfl rfl 21 (by decide) (hts _ k_718) (fun _ h9 => h9) rfl (by decide +kernel) rfl rfl (Nat.le_of_ble_eq_true rfl) d_M_schedule_5 (fun H locs hP hD hS => ?_)
  have hP : va_P D vwCl [(mo, .inr (7, mFs thr a1 a2 a3 (nI lt) (nI lb) (nI lz) ci a4 a5 a6 nu bk se op fa a7 a8 a9 a10 a11 (nI 10) kh kl sh sl a12 a13 a14 a15 a16 a17 a18 a19 a20)), (a4, .inl (cI, 32, .inl (nF gk))), (a7, .inl (cI, 256, .inl (nF gS))), (a8, .inl (cI, 240, .inl (nF gr))), (a11, .inl (cI, 4, .inl (nF gf)))] H := hP
  have hD : va_D A [(mo, .inr (7, mFs thr a1 a2 a3 (nI lt) (nI lb) (nI lz) ci a4 a5 a6 nu bk se op fa a7 a8 a9 a10 a11 (nI 10) kh kl sh sl a12 a13 a14 a15 a16 a17 a18 a19 a20)), (a4, .inl (cI, 32, .inl (nF gk))), (a7, .inl (cI, 256, .inl (nF gS))), (a8, .inl (cI, 240, .inl (nF gr))), (a11, .inl (cI, 4, .inl (nF gf)))] := hD
  refine lv_iconst (v := 0) hx hb d_M_schedule_8 (by decide) ?_
  refine lv_istore_n (lv' := [(2, .int 0), (0, .ref mo), (1, .int (nI 4))]) hx hb d_M_schedule_9 rfl hl (by decide) rfl (fun ls hl => ?_)
  have lp1 : ∀ (d1 i : Nat), i + d1 = 16 → ∀ (H : Heap) (locs : List Loc) (ls : Array Slot), va_P D vwCl [(mo, .inr (7, mFs thr a1 a2 a3 (nI lt) (nI lb) (nI lz) ci a4 a5 a6 nu bk se op fa a7 a8 a9 a10 a11 (nI 10) kh kl sh sl a12 a13 a14 a15 a16 a17 a18 a19 a20)), (a4, .inl (cI, 32, .inl (nF gk))), (a7, .inl (cI, 256, .inl (nF gS))), (a8, .inl (cI, 240, .inl (nF (iter (nCpy gk) i gr)))), (a11, .inl (cI, 4, .inl (nF gf)))] H → va_D A [(mo, .inr (7, mFs thr a1 a2 a3 (nI lt) (nI lb) (nI lz) ci a4 a5 a6 nu bk se op fa a7 a8 a9 a10 a11 (nI 10) kh kl sh sl a12 a13 a14 a15 a16 a17 a18 a19 a20)), (a4, .inl (cI, 32, .inl (nF gk))), (a7, .inl (cI, 256, .inl (nF gS))), (a8, .inl (cI, 240, .inl (nF (iter (nCpy gk) i gr)))), (a11, .inl (cI, 4, .inl (nF gf)))] → va_S A s.heap H locs → lv_has ls 6 [(2, .int (nI i)), (0, .ref mo), (1, .int (nI 4))] → W p l e rm_M_schedule4 s m args below meth c H locs 0 0 (MQ below (sbQv D (fun (_ : Unit) => True) (fun (_ : Unit) => [(mo, .inr (7, mFs thr a1 a2 a3 (nI lt) (nI lb) (nI lz) ci a4 a5 a6 nu bk se op fa a7 a8 a9 a10 a11 (nI 10) kh kl sh sl a12 a13 a14 a15 a16 a17 a18 a19 a20)), (a4, .inl (cI, 32, .inl (nF gk))), (a7, .inl (cI, 256, .inl (nF gS))), (a8, .inl (cI, 240, .inl (nF ((kSch gS gk 4 gf gr 40).2.2)))), (a11, .inl (cI, 4, .inl (nF ((kSch gS gk 4 gf gr 40).2.1))))]) A) args s 0 0 A) (F0 m 10 ls []) := by
    intro d1
    induction d1 with
    | zero =>
      intro i hi1 H locs ls hP hD hS hl
      obtain rfl : 16 = i := by omega
      refine lv_iload_n hx hb d_M_schedule_10 rfl (lv_at hl 0 rfl) ?_
      refine lv_iconst (v := 4) hx hb d_M_schedule_11 (by decide) ?_
      refine lv_iload_n hx hb d_M_schedule_12 rfl (lv_at hl 2 rfl) ?_
      refine lv_imul hx hb d_M_schedule_13 ?_
      refine sb_topn 16 (sb_eqn (a := 4 * 4) (b := 16) (sb_mul (a := 4) (b := 4) rfl rfl) (by omega)) ?_
      refine lv_icmp_ge (tgt := 35) hx hb d_M_schedule_14 (by decide) (fun c_1 => ?_) (fun c_1 => absurd (sb_geT (a := 16) (b := 16) rfl rfl (by omega) (by omega) (by omega)) c_1)
      refine lv_iconst (v := 1) hx hb d_M_schedule_35 (by decide) ?_
      refine lv_istore_n (lv' := [(2, .int 1), (0, .ref mo), (1, .int (nI 4))]) hx hb d_M_schedule_36 rfl hl (by decide) rfl (fun ls hl => ?_)
      refine lv_iload_n hx hb d_M_schedule_37 rfl (lv_at hl 2 rfl) ?_
      refine lv_istore_n (lv' := [(3, .int (nI 4)), (2, .int 1), (0, .ref mo), (1, .int (nI 4))]) hx hb d_M_schedule_38 rfl hl (by decide) rfl (fun ls hl => ?_)
      have lp2 : ∀ (d2 j : Nat), j + d2 = 40 → ∀ (H : Heap) (locs : List Loc) (ls : Array Slot), va_P D vwCl [(mo, .inr (7, mFs thr a1 a2 a3 (nI lt) (nI lb) (nI lz) ci a4 a5 a6 nu bk se op fa a7 a8 a9 a10 a11 (nI 10) kh kl sh sl a12 a13 a14 a15 a16 a17 a18 a19 a20)), (a4, .inl (cI, 32, .inl (nF gk))), (a7, .inl (cI, 256, .inl (nF gS))), (a8, .inl (cI, 240, .inl (nF ((kSch gS gk 4 gf gr j).2.2)))), (a11, .inl (cI, 4, .inl (nF ((kSch gS gk 4 gf gr j).2.1))))] H → va_D A [(mo, .inr (7, mFs thr a1 a2 a3 (nI lt) (nI lb) (nI lz) ci a4 a5 a6 nu bk se op fa a7 a8 a9 a10 a11 (nI 10) kh kl sh sl a12 a13 a14 a15 a16 a17 a18 a19 a20)), (a4, .inl (cI, 32, .inl (nF gk))), (a7, .inl (cI, 256, .inl (nF gS))), (a8, .inl (cI, 240, .inl (nF ((kSch gS gk 4 gf gr j).2.2)))), (a11, .inl (cI, 4, .inl (nF ((kSch gS gk 4 gf gr j).2.1))))] → va_S A s.heap H locs → lv_has ls 6 [(2, .int (nI ((kSch gS gk 4 gf gr j).1))), (3, .int (nI (4 + j))), (0, .ref mo), (1, .int (nI 4))] → W p l e rm_M_schedule4 s m args below meth c H locs 0 0 (MQ below (sbQv D (fun (_ : Unit) => True) (fun (_ : Unit) => [(mo, .inr (7, mFs thr a1 a2 a3 (nI lt) (nI lb) (nI lz) ci a4 a5 a6 nu bk se op fa a7 a8 a9 a10 a11 (nI 10) kh kl sh sl a12 a13 a14 a15 a16 a17 a18 a19 a20)), (a4, .inl (cI, 32, .inl (nF gk))), (a7, .inl (cI, 256, .inl (nF gS))), (a8, .inl (cI, 240, .inl (nF ((kSch gS gk 4 gf gr 40).2.2)))), (a11, .inl (cI, 4, .inl (nF ((kSch gS gk 4 gf gr 40).2.1))))]) A) args s 0 0 A) (F0 m 39 ls []) := by
        intro d2
        induction d2 with
        | zero =>
          intro j hi2 H locs ls hP hD hS hl
          obtain rfl : 40 = j := by omega
          have hB := kSch_B hgS hgk hgf hgr 4 40
          obtain ⟨hB1, hB2, hB3⟩ := hB
          refine lv_iload_n hx hb d_M_schedule_39 rfl (lv_at hl 1 rfl) ?_
          refine lv_iconst (v := 4) hx hb d_M_schedule_40 (by decide) ?_
          refine lv_aload_n hx hb d_M_schedule_41 rfl (lv_at hl 2 rfl) ?_
          refine va_get (D := D) (ci := 7) (v := .int (nI 10)) (C := R_M) (T := F_M) (N := 35) hx hb hts in_M hown hG.1 hP 0 rfl rfl 21 (by decide) (hts _ k_718) (fun _ h9 => h9) rfl d_M_schedule_42 ?_
          refine lv_iconst (v := 1) hx hb d_M_schedule_45 (by decide) ?_
          refine lv_iadd hx hb d_M_schedule_46 ?_
          refine sb_topn 11 (sb_eqn (a := 10 + 1) (b := 11) (nI_add 10 1) (by omega)) ?_
          refine lv_imul hx hb d_M_schedule_47 ?_
          refine sb_topn 44 (sb_eqn (a := 4 * 11) (b := 44) (sb_mul (a := 4) (b := 11) rfl rfl) (by omega)) ?_
          refine lv_icmp_ge (tgt := 266) hx hb d_M_schedule_48 (by decide) (fun c_2 => ?_) (fun c_2 => absurd (sb_geT (a := 4 + 40) (b := 44) rfl rfl (by omega) (by omega) (by omega)) c_2)
          have hP9 := hP.sub (ws' := [(mo, .inr (7, mFs thr a1 a2 a3 (nI lt) (nI lb) (nI lz) ci a4 a5 a6 nu bk se op fa a7 a8 a9 a10 a11 (nI 10) kh kl sh sl a12 a13 a14 a15 a16 a17 a18 a19 a20)), (a4, .inl (cI, 32, .inl (nF gk))), (a7, .inl (cI, 256, .inl (nF gS))), (a8, .inl (cI, 240, .inl (nF ((kSch gS gk 4 gf gr 40).2.2)))), (a11, .inl (cI, 4, .inl (nF ((kSch gS gk 4 gf gr 40).2.1))))]) [0, 1, 2, 3, 4] rfl
          have hD9 := hD.sub (ws' := [(mo, .inr (7, mFs thr a1 a2 a3 (nI lt) (nI lb) (nI lz) ci a4 a5 a6 nu bk se op fa a7 a8 a9 a10 a11 (nI 10) kh kl sh sl a12 a13 a14 a15 a16 a17 a18 a19 a20)), (a4, .inl (cI, 32, .inl (nF gk))), (a7, .inl (cI, 256, .inl (nF gS))), (a8, .inl (cI, 240, .inl (nF ((kSch gS gk 4 gf gr 40).2.2)))), (a11, .inl (cI, 4, .inl (nF ((kSch gS gk 4 gf gr 40).2.1))))]) [0, 1, 2, 3, 4] (by decide) rfl
          exact W.vret hx hb hr (fun t ht hW => ⟨⟨(), rfl, trivial, by rw [ht]; exact hP9, hD9⟩, hS.F ht⟩) hS.2.2 d_M_schedule_266
        | succ d2 ih2 =>
          intro j hi2 H locs ls hP hD hS hl
          have hB := kSch_B hgS hgk hgf hgr 4 j
          obtain ⟨hB1, hB2, hB3⟩ := hB
          refine lv_iload_n hx hb d_M_schedule_39 rfl (lv_at hl 1 rfl) ?_
          refine lv_iconst (v := 4) hx hb d_M_schedule_40 (by decide) ?_
          refine lv_aload_n hx hb d_M_schedule_41 rfl (lv_at hl 2 rfl) ?_
          refine va_get (D := D) (ci := 7) (v := .int (nI 10)) (C := R_M) (T := F_M) (N := 35) hx hb hts in_M hown hG.1 hP 0 rfl rfl 21 (by decide) (hts _ k_718) (fun _ h9 => h9) rfl d_M_schedule_42 ?_
          refine lv_iconst (v := 1) hx hb d_M_schedule_45 (by decide) ?_
          refine lv_iadd hx hb d_M_schedule_46 ?_
          refine sb_topn 11 (sb_eqn (a := 10 + 1) (b := 11) (nI_add 10 1) (by omega)) ?_
          refine lv_imul hx hb d_M_schedule_47 ?_
          refine sb_topn 44 (sb_eqn (a := 4 * 11) (b := 44) (sb_mul (a := 4) (b := 11) rfl rfl) (by omega)) ?_
          refine lv_icmp_ge (tgt := 266) hx hb d_M_schedule_48 (by decide) (fun c_3 => absurd c_3 (sb_geF (a := 4 + j) (b := 44) rfl rfl (by omega) (by omega) (by omega))) (fun c_3 => ?_)
          refine lv_iconst (v := 0) hx hb d_M_schedule_51 (by decide) ?_
          refine lv_istore (lv' := [(4, .int 0), (2, .int (nI ((kSch gS gk 4 gf gr j).1))), (3, .int (nI (4 + j))), (0, .ref mo), (1, .int (nI 4))]) hx hb d_M_schedule_52 hl (by decide) rfl (fun ls hl => ?_)
          have lp3 : ∀ (d3 i : Nat), i + d3 = 4 → ∀ (H : Heap) (locs : List Loc) (ls : Array Slot), va_P D vwCl [(mo, .inr (7, mFs thr a1 a2 a3 (nI lt) (nI lb) (nI lz) ci a4 a5 a6 nu bk se op fa a7 a8 a9 a10 a11 (nI 10) kh kl sh sl a12 a13 a14 a15 a16 a17 a18 a19 a20)), (a4, .inl (cI, 32, .inl (nF gk))), (a7, .inl (cI, 256, .inl (nF gS))), (a8, .inl (cI, 240, .inl (nF ((kSch gS gk 4 gf gr j).2.2)))), (a11, .inl (cI, 4, .inl (nF (iter (kFour ((kSch gS gk 4 gf gr j).2.2) (4 + j)) i ((kSch gS gk 4 gf gr j).2.1)))))] H → va_D A [(mo, .inr (7, mFs thr a1 a2 a3 (nI lt) (nI lb) (nI lz) ci a4 a5 a6 nu bk se op fa a7 a8 a9 a10 a11 (nI 10) kh kl sh sl a12 a13 a14 a15 a16 a17 a18 a19 a20)), (a4, .inl (cI, 32, .inl (nF gk))), (a7, .inl (cI, 256, .inl (nF gS))), (a8, .inl (cI, 240, .inl (nF ((kSch gS gk 4 gf gr j).2.2)))), (a11, .inl (cI, 4, .inl (nF (iter (kFour ((kSch gS gk 4 gf gr j).2.2) (4 + j)) i ((kSch gS gk 4 gf gr j).2.1)))))] → va_S A s.heap H locs → lv_has ls 6 [(4, .int (nI i)), (2, .int (nI ((kSch gS gk 4 gf gr j).1))), (3, .int (nI (4 + j))), (0, .ref mo), (1, .int (nI 4))] → W p l e rm_M_schedule4 s m args below meth c H locs 0 0 (MQ below (sbQv D (fun (_ : Unit) => True) (fun (_ : Unit) => [(mo, .inr (7, mFs thr a1 a2 a3 (nI lt) (nI lb) (nI lz) ci a4 a5 a6 nu bk se op fa a7 a8 a9 a10 a11 (nI 10) kh kl sh sl a12 a13 a14 a15 a16 a17 a18 a19 a20)), (a4, .inl (cI, 32, .inl (nF gk))), (a7, .inl (cI, 256, .inl (nF gS))), (a8, .inl (cI, 240, .inl (nF ((kSch gS gk 4 gf gr 40).2.2)))), (a11, .inl (cI, 4, .inl (nF ((kSch gS gk 4 gf gr 40).2.1))))]) A) args s 0 0 A) (F0 m 54 ls []) := by
            intro d3
            induction d3 with
            | zero =>
              intro i hi3 H locs ls hP hD hS hl
              obtain rfl : 4 = i := by omega
              refine lv_iload hx hb d_M_schedule_54 (lv_at hl 0 rfl) ?_
              refine lv_iconst (v := 4) hx hb d_M_schedule_56 (by decide) ?_
              refine lv_icmp_ge (tgt := 86) hx hb d_M_schedule_57 (by decide) (fun c_4 => ?_) (fun c_4 => absurd (sb_geT (a := 4) (b := 4) rfl rfl (by omega) (by omega) (by omega)) c_4)
              refine lv_iload_n hx hb d_M_schedule_86 rfl (lv_at hl 2 rfl) ?_
              refine lv_iload_n hx hb d_M_schedule_87 rfl (lv_at hl 4 rfl) ?_
              refine lv_irem hx hb d_M_schedule_88 (by decide) ?_
              refine sb_topn ((4 + j) % 4) (sb_rem (a := 4 + j) (b := 4) (by omega) (by omega) (by omega) rfl rfl) ?_
              refine lv_if_ne (tgt := 166) hx hb d_M_schedule_89 (by decide) (fun c_5 => ?_) (fun c_5 => ?_)
              · have c_5 := mt (sb_eqI (a := (4 + j) % 4) (b := 0) rfl rfl (by omega) (by omega)).mpr c_5
                refine lv_iload_n hx hb d_M_schedule_166 rfl (lv_at hl 4 rfl) ?_
                refine lv_bipush (v := 6) hx hb d_M_schedule_167 (by decide) ?_
                refine lv_icmp_le (tgt := 213) hx hb d_M_schedule_169 (by decide) (fun c_6 => ?_) (fun c_6 => absurd (sb_leT (a := 4) (b := 6) rfl rfl (by omega) (by omega) (by omega)) c_6)
                refine lv_iconst (v := 0) hx hb d_M_schedule_213 (by decide) ?_
                refine lv_istore (lv' := [(4, .int 0), (2, .int (nI ((kSch gS gk 4 gf gr j).1))), (3, .int (nI (4 + j))), (0, .ref mo), (1, .int (nI 4))]) hx hb d_M_schedule_214 hl (by decide) rfl (fun ls hl => ?_)
                have lp4 : ∀ (d4 i : Nat), i + d4 = 4 → ∀ (H : Heap) (locs : List Loc) (ls : Array Slot), va_P D vwCl [(mo, .inr (7, mFs thr a1 a2 a3 (nI lt) (nI lb) (nI lz) ci a4 a5 a6 nu bk se op fa a7 a8 a9 a10 a11 (nI 10) kh kl sh sl a12 a13 a14 a15 a16 a17 a18 a19 a20)), (a4, .inl (cI, 32, .inl (nF gk))), (a7, .inl (cI, 256, .inl (nF gS))), (a8, .inl (cI, 240, .inl (nF (iter (kMix (iter (kFour ((kSch gS gk 4 gf gr j).2.2) (4 + j)) 4 ((kSch gS gk 4 gf gr j).2.1)) (4 + j) 4) i ((kSch gS gk 4 gf gr j).2.2))))), (a11, .inl (cI, 4, .inl (nF (iter (kFour ((kSch gS gk 4 gf gr j).2.2) (4 + j)) 4 ((kSch gS gk 4 gf gr j).2.1)))))] H → va_D A [(mo, .inr (7, mFs thr a1 a2 a3 (nI lt) (nI lb) (nI lz) ci a4 a5 a6 nu bk se op fa a7 a8 a9 a10 a11 (nI 10) kh kl sh sl a12 a13 a14 a15 a16 a17 a18 a19 a20)), (a4, .inl (cI, 32, .inl (nF gk))), (a7, .inl (cI, 256, .inl (nF gS))), (a8, .inl (cI, 240, .inl (nF (iter (kMix (iter (kFour ((kSch gS gk 4 gf gr j).2.2) (4 + j)) 4 ((kSch gS gk 4 gf gr j).2.1)) (4 + j) 4) i ((kSch gS gk 4 gf gr j).2.2))))), (a11, .inl (cI, 4, .inl (nF (iter (kFour ((kSch gS gk 4 gf gr j).2.2) (4 + j)) 4 ((kSch gS gk 4 gf gr j).2.1)))))] → va_S A s.heap H locs → lv_has ls 6 [(4, .int (nI i)), (2, .int (nI ((kSch gS gk 4 gf gr j).1))), (3, .int (nI (4 + j))), (0, .ref mo), (1, .int (nI 4))] → W p l e rm_M_schedule4 s m args below meth c H locs 0 0 (MQ below (sbQv D (fun (_ : Unit) => True) (fun (_ : Unit) => [(mo, .inr (7, mFs thr a1 a2 a3 (nI lt) (nI lb) (nI lz) ci a4 a5 a6 nu bk se op fa a7 a8 a9 a10 a11 (nI 10) kh kl sh sl a12 a13 a14 a15 a16 a17 a18 a19 a20)), (a4, .inl (cI, 32, .inl (nF gk))), (a7, .inl (cI, 256, .inl (nF gS))), (a8, .inl (cI, 240, .inl (nF ((kSch gS gk 4 gf gr 40).2.2)))), (a11, .inl (cI, 4, .inl (nF ((kSch gS gk 4 gf gr 40).2.1))))]) A) args s 0 0 A) (F0 m 216 ls []) := by
                  intro d4
                  induction d4 with
                  | zero =>
                    intro i hi4 H locs ls hP hD hS hl
                    obtain rfl : 4 = i := by omega
                    refine lv_iload hx hb d_M_schedule_216 (lv_at hl 0 rfl) ?_
                    refine lv_iconst (v := 4) hx hb d_M_schedule_218 (by decide) ?_
                    refine lv_icmp_ge (tgt := 260) hx hb d_M_schedule_219 (by decide) (fun c_7 => ?_) (fun c_7 => absurd (sb_geT (a := 4) (b := 4) rfl rfl (by omega) (by omega) (by omega)) c_7)
                    refine lv_iinc (v := nI ((4 + j) + 1)) (lv' := [(3, .int (nI ((4 + j) + 1))), (4, .int (nI 4)), (2, .int (nI ((kSch gS gk 4 gf gr j).1))), (0, .ref mo), (1, .int (nI 4))]) hx hb d_M_schedule_260 hl (k := 2) rfl (sb_inc (a := 4 + j) (b := (4 + j) + 1) (d := 1) rfl (by decide) (by omega)) (by decide) rfl (fun ls hl => ?_)
                    refine lv_goto (tgt := 39) hx hb d_M_schedule_263 (by decide) ?_
                    have hE : kSch gS gk 4 gf gr (j + 1) = ((kSch gS gk 4 gf gr j).1, iter (kFour ((kSch gS gk 4 gf gr j).2.2) (4 + j)) 4 ((kSch gS gk 4 gf gr j).2.1), iter (kMix (iter (kFour ((kSch gS gk 4 gf gr j).2.2) (4 + j)) 4 ((kSch gS gk 4 gf gr j).2.1)) (4 + j) 4) 4 ((kSch gS gk 4 gf gr j).2.2)) := (by show kStep gS 4 j (kSch gS gk 4 gf gr j) = _; unfold kStep; simp only [if_neg c_5, if_neg (show ¬ (4 + j) % 4 = 4 by omega)]; rfl)
                    have ih' := ih2 (j + 1) (by omega)
                    rw [hE] at ih'
                    exact ih' _ _ ls (hP.sub [0, 1, 2, 3, 4] rfl) (hD.sub [0, 1, 2, 3, 4] (by decide) rfl) hS (lv_sub hl [2, 0, 3, 4] rfl)
                  | succ d4 ih4 =>
                    intro i hi4 H locs ls hP hD hS hl
                    refine lv_iload hx hb d_M_schedule_216 (lv_at hl 0 rfl) ?_
                    refine lv_iconst (v := 4) hx hb d_M_schedule_218 (by decide) ?_
                    refine lv_icmp_ge (tgt := 260) hx hb d_M_schedule_219 (by decide) (fun c_8 => absurd c_8 (sb_geF (a := i) (b := 4) rfl rfl (by omega) (by omega) (by omega))) (fun c_8 => ?_)
                    refine lv_aload_n hx hb d_M_schedule_222 rfl (lv_at hl 3 rfl) ?_
                    refine va_get (D := D) (ci := 7) (v := .ref a8) (C := R_M) (T := F_M) (N := 35) hx hb hts in_M hown hG.1 hP 0 rfl rfl 17 (by decide) (hts _ k_714) (fun _ h9 => h9) rfl d_M_schedule_223 ?_
                    refine lv_iconst (v := 4) hx hb d_M_schedule_226 (by decide) ?_
                    refine lv_iload_n hx hb d_M_schedule_227 rfl (lv_at hl 2 rfl) ?_
                    refine lv_imul hx hb d_M_schedule_228 ?_
                    refine sb_topn (4 * (4 + j)) (sb_mul (a := 4) (b := 4 + j) rfl rfl) ?_
                    refine lv_iload hx hb d_M_schedule_229 (lv_at hl 0 rfl) ?_
                    refine lv_iadd hx hb d_M_schedule_231 ?_
                    refine sb_topn ((4 * (4 + j)) + i) (nI_add (4 * (4 + j)) i) ?_
                    refine lv_aload_n hx hb d_M_schedule_232 rfl (lv_at hl 3 rfl) ?_
                    refine va_get (D := D) (ci := 7) (v := .ref a8) (C := R_M) (T := F_M) (N := 35) hx hb hts in_M hown hG.1 hP 0 rfl rfl 17 (by decide) (hts _ k_714) (fun _ h9 => h9) rfl d_M_schedule_233 ?_
                    refine lv_iconst (v := 4) hx hb d_M_schedule_236 (by decide) ?_
                    refine lv_iload_n hx hb d_M_schedule_237 rfl (lv_at hl 2 rfl) ?_
                    refine lv_iload_n hx hb d_M_schedule_238 rfl (lv_at hl 4 rfl) ?_
                    refine lv_isub hx hb d_M_schedule_239 ?_
                    refine sb_topn ((4 + j) - 4) (sb_sub (a := 4 + j) (b := 4) (by omega) rfl rfl) ?_
                    refine lv_imul hx hb d_M_schedule_240 ?_
                    refine sb_topn (4 * ((4 + j) - 4)) (sb_mul (a := 4) (b := (4 + j) - 4) rfl rfl) ?_
                    refine lv_iload hx hb d_M_schedule_241 (lv_at hl 0 rfl) ?_
                    refine lv_iadd hx hb d_M_schedule_243 ?_
                    refine sb_topn ((4 * ((4 + j) - 4)) + i) (nI_add (4 * ((4 + j) - 4)) i) ?_
                    refine sb_ild hx hb hG.1 hP 3 rfl ((4 * ((4 + j) - 4)) + i) rfl (by omega) (by omega) d_M_schedule_244 ?_
                    refine lv_aload_n hx hb d_M_schedule_245 rfl (lv_at hl 3 rfl) ?_
                    refine va_get (D := D) (ci := 7) (v := .ref a11) (C := R_M) (T := F_M) (N := 35) hx hb hts in_M hown hG.1 hP 0 rfl rfl 20 (by decide) (hts _ k_717) (fun _ h9 => h9) rfl d_M_schedule_246 ?_
                    refine lv_iload hx hb d_M_schedule_249 (lv_at hl 0 rfl) ?_
                    refine sb_ild hx hb hG.1 hP 4 rfl i rfl (by omega) (by omega) d_M_schedule_251 ?_
                    refine lv_ixor hx hb d_M_schedule_252 ?_
                    refine sb_topn (((iter (kMix (iter (kFour ((kSch gS gk 4 gf gr j).2.2) (4 + j)) 4 ((kSch gS gk 4 gf gr j).2.1)) (4 + j) 4) i ((kSch gS gk 4 gf gr j).2.2)) ((4 * ((4 + j) - 4)) + i)) ^^^ ((iter (kFour ((kSch gS gk 4 gf gr j).2.2) (4 + j)) 4 ((kSch gS gk 4 gf gr j).2.1)) i)) (sb_xor (a := (iter (kMix (iter (kFour ((kSch gS gk 4 gf gr j).2.2) (4 + j)) 4 ((kSch gS gk 4 gf gr j).2.1)) (4 + j) 4) i ((kSch gS gk 4 gf gr j).2.2)) ((4 * ((4 + j) - 4)) + i)) (b := (iter (kFour ((kSch gS gk 4 gf gr j).2.2) (4 + j)) 4 ((kSch gS gk 4 gf gr j).2.1)) i) rfl rfl) ?_
                    refine sb_topn (((iter (kMix (iter (kFour ((kSch gS gk 4 gf gr j).2.2) (4 + j)) 4 ((kSch gS gk 4 gf gr j).2.1)) (4 + j) 4) i ((kSch gS gk 4 gf gr j).2.2)) ((4 * ((4 + j) - 4)) + i)) ^^^ ((iter (kFour ((kSch gS gk 4 gf gr j).2.2) (4 + j)) 4 ((kSch gS gk 4 gf gr j).2.1)) i)) rfl ?_
                    refine sb_ist hx hb hG.1 hP hD hS 3 rfl ((4 * (4 + j)) + i) rfl (by omega) (by omega) d_M_schedule_253 (fun f_9 H locs ef_9 hP hD hS => ?_)
                    have hP : va_P D vwCl [(mo, .inr (7, mFs thr a1 a2 a3 (nI lt) (nI lb) (nI lz) ci a4 a5 a6 nu bk se op fa a7 a8 a9 a10 a11 (nI 10) kh kl sh sl a12 a13 a14 a15 a16 a17 a18 a19 a20)), (a4, .inl (cI, 32, .inl (nF gk))), (a7, .inl (cI, 256, .inl (nF gS))), (a8, .inl (cI, 240, .inl f_9)), (a11, .inl (cI, 4, .inl (nF (iter (kFour ((kSch gS gk 4 gf gr j).2.2) (4 + j)) 4 ((kSch gS gk 4 gf gr j).2.1)))))] H := hP
                    have hD : va_D A [(mo, .inr (7, mFs thr a1 a2 a3 (nI lt) (nI lb) (nI lz) ci a4 a5 a6 nu bk se op fa a7 a8 a9 a10 a11 (nI 10) kh kl sh sl a12 a13 a14 a15 a16 a17 a18 a19 a20)), (a4, .inl (cI, 32, .inl (nF gk))), (a7, .inl (cI, 256, .inl (nF gS))), (a8, .inl (cI, 240, .inl f_9)), (a11, .inl (cI, 4, .inl (nF (iter (kFour ((kSch gS gk 4 gf gr j).2.2) (4 + j)) 4 ((kSch gS gk 4 gf gr j).2.1)))))] := hD
                    obtain rfl : f_9 = nF (updN (iter (kMix (iter (kFour ((kSch gS gk 4 gf gr j).2.2) (4 + j)) 4 ((kSch gS gk 4 gf gr j).2.1)) (4 + j) 4) i ((kSch gS gk 4 gf gr j).2.2)) ((4 * (4 + j)) + i) (((iter (kMix (iter (kFour ((kSch gS gk 4 gf gr j).2.2) (4 + j)) 4 ((kSch gS gk 4 gf gr j).2.1)) (4 + j) 4) i ((kSch gS gk 4 gf gr j).2.2)) ((4 * ((4 + j) - 4)) + i)) ^^^ ((iter (kFour ((kSch gS gk 4 gf gr j).2.2) (4 + j)) 4 ((kSch gS gk 4 gf gr j).2.1)) i))) := ef_9.trans (nF_set _ _ _)
                    have hP : va_P D vwCl [(mo, .inr (7, mFs thr a1 a2 a3 (nI lt) (nI lb) (nI lz) ci a4 a5 a6 nu bk se op fa a7 a8 a9 a10 a11 (nI 10) kh kl sh sl a12 a13 a14 a15 a16 a17 a18 a19 a20)), (a4, .inl (cI, 32, .inl (nF gk))), (a7, .inl (cI, 256, .inl (nF gS))), (a8, .inl (cI, 240, .inl (nF (updN (iter (kMix (iter (kFour ((kSch gS gk 4 gf gr j).2.2) (4 + j)) 4 ((kSch gS gk 4 gf gr j).2.1)) (4 + j) 4) i ((kSch gS gk 4 gf gr j).2.2)) ((4 * (4 + j)) + i) (((iter (kMix (iter (kFour ((kSch gS gk 4 gf gr j).2.2) (4 + j)) 4 ((kSch gS gk 4 gf gr j).2.1)) (4 + j) 4) i ((kSch gS gk 4 gf gr j).2.2)) ((4 * ((4 + j) - 4)) + i)) ^^^ ((iter (kFour ((kSch gS gk 4 gf gr j).2.2) (4 + j)) 4 ((kSch gS gk 4 gf gr j).2.1)) i)))))), (a11, .inl (cI, 4, .inl (nF (iter (kFour ((kSch gS gk 4 gf gr j).2.2) (4 + j)) 4 ((kSch gS gk 4 gf gr j).2.1)))))] H := hP
                    have hD : va_D A [(mo, .inr (7, mFs thr a1 a2 a3 (nI lt) (nI lb) (nI lz) ci a4 a5 a6 nu bk se op fa a7 a8 a9 a10 a11 (nI 10) kh kl sh sl a12 a13 a14 a15 a16 a17 a18 a19 a20)), (a4, .inl (cI, 32, .inl (nF gk))), (a7, .inl (cI, 256, .inl (nF gS))), (a8, .inl (cI, 240, .inl (nF (updN (iter (kMix (iter (kFour ((kSch gS gk 4 gf gr j).2.2) (4 + j)) 4 ((kSch gS gk 4 gf gr j).2.1)) (4 + j) 4) i ((kSch gS gk 4 gf gr j).2.2)) ((4 * (4 + j)) + i) (((iter (kMix (iter (kFour ((kSch gS gk 4 gf gr j).2.2) (4 + j)) 4 ((kSch gS gk 4 gf gr j).2.1)) (4 + j) 4) i ((kSch gS gk 4 gf gr j).2.2)) ((4 * ((4 + j) - 4)) + i)) ^^^ ((iter (kFour ((kSch gS gk 4 gf gr j).2.2) (4 + j)) 4 ((kSch gS gk 4 gf gr j).2.1)) i)))))), (a11, .inl (cI, 4, .inl (nF (iter (kFour ((kSch gS gk 4 gf gr j).2.2) (4 + j)) 4 ((kSch gS gk 4 gf gr j).2.1)))))] := hD
                    refine lv_iinc (v := nI (i + 1)) (lv' := [(4, .int (nI (i + 1))), (2, .int (nI ((kSch gS gk 4 gf gr j).1))), (3, .int (nI (4 + j))), (0, .ref mo), (1, .int (nI 4))]) hx hb d_M_schedule_254 hl (k := 0) rfl (sb_inc (a := i) (b := i + 1) (d := 1) rfl (by decide) (by omega)) (by decide) rfl (fun ls hl => ?_)
                    refine lv_goto (tgt := 216) hx hb d_M_schedule_257 (by decide) ?_
                    rw [show nF (updN (iter (kMix (iter (kFour ((kSch gS gk 4 gf gr j).2.2) (4 + j)) 4 ((kSch gS gk 4 gf gr j).2.1)) (4 + j) 4) i ((kSch gS gk 4 gf gr j).2.2)) ((4 * (4 + j)) + i) (((iter (kMix (iter (kFour ((kSch gS gk 4 gf gr j).2.2) (4 + j)) 4 ((kSch gS gk 4 gf gr j).2.1)) (4 + j) 4) i ((kSch gS gk 4 gf gr j).2.2)) ((4 * ((4 + j) - 4)) + i)) ^^^ ((iter (kFour ((kSch gS gk 4 gf gr j).2.2) (4 + j)) 4 ((kSch gS gk 4 gf gr j).2.1)) i))) = nF (iter (kMix (iter (kFour ((kSch gS gk 4 gf gr j).2.2) (4 + j)) 4 ((kSch gS gk 4 gf gr j).2.1)) (4 + j) 4) (i + 1) ((kSch gS gk 4 gf gr j).2.2)) from rfl] at hP hD
                    exact ih4 (i + 1) (by omega) _ _ ls (hP.sub [0, 1, 2, 3, 4] rfl) (hD.sub [0, 1, 2, 3, 4] (by decide) rfl) hS (lv_sub hl [0, 1, 2, 3, 4] rfl)
                exact lp4 4 0 (by omega) _ _ ls (hP.sub [0, 1, 2, 3, 4] rfl) (hD.sub [0, 1, 2, 3, 4] (by decide) rfl) hS (lv_sub hl [0, 1, 2, 3, 4] rfl)
              · have c_5 := (sb_eqI (a := (4 + j) % 4) (b := 0) rfl rfl (by omega) (by omega)).mp c_5
                refine lv_aload_n hx hb d_M_schedule_92 rfl (lv_at hl 3 rfl) ?_
                refine va_get (D := D) (ci := 7) (v := .ref a11) (C := R_M) (T := F_M) (N := 35) hx hb hts in_M hown hG.1 hP 0 rfl rfl 20 (by decide) (hts _ k_717) (fun _ h9 => h9) rfl d_M_schedule_93 ?_
                refine lv_iconst (v := 0) hx hb d_M_schedule_96 (by decide) ?_
                refine sb_ild hx hb hG.1 hP 4 rfl 0 rfl (by omega) (by omega) d_M_schedule_97 ?_
                refine sb_topn ((iter (kFour ((kSch gS gk 4 gf gr j).2.2) (4 + j)) 4 ((kSch gS gk 4 gf gr j).2.1)) 0) rfl ?_
                refine lv_istore (lv' := [(4, .int (nI ((iter (kFour ((kSch gS gk 4 gf gr j).2.2) (4 + j)) 4 ((kSch gS gk 4 gf gr j).2.1)) 0))), (2, .int (nI ((kSch gS gk 4 gf gr j).1))), (3, .int (nI (4 + j))), (0, .ref mo), (1, .int (nI 4))]) hx hb d_M_schedule_98 hl (by decide) rfl (fun ls hl => ?_)
                refine lv_iconst (v := 0) hx hb d_M_schedule_100 (by decide) ?_
                refine lv_istore (lv' := [(5, .int 0), (4, .int (nI ((iter (kFour ((kSch gS gk 4 gf gr j).2.2) (4 + j)) 4 ((kSch gS gk 4 gf gr j).2.1)) 0))), (2, .int (nI ((kSch gS gk 4 gf gr j).1))), (3, .int (nI (4 + j))), (0, .ref mo), (1, .int (nI 4))]) hx hb d_M_schedule_101 hl (by decide) rfl (fun ls hl => ?_)
                have lp5 : ∀ (d5 i : Nat), i + d5 = 4 → ∀ (H : Heap) (locs : List Loc) (ls : Array Slot), va_P D vwCl [(mo, .inr (7, mFs thr a1 a2 a3 (nI lt) (nI lb) (nI lz) ci a4 a5 a6 nu bk se op fa a7 a8 a9 a10 a11 (nI 10) kh kl sh sl a12 a13 a14 a15 a16 a17 a18 a19 a20)), (a4, .inl (cI, 32, .inl (nF gk))), (a7, .inl (cI, 256, .inl (nF gS))), (a8, .inl (cI, 240, .inl (nF ((kSch gS gk 4 gf gr j).2.2)))), (a11, .inl (cI, 4, .inl (nF (iter (kSub gS ((iter (kFour ((kSch gS gk 4 gf gr j).2.2) (4 + j)) 4 ((kSch gS gk 4 gf gr j).2.1)) 0)) i (iter (kFour ((kSch gS gk 4 gf gr j).2.2) (4 + j)) 4 ((kSch gS gk 4 gf gr j).2.1))))))] H → va_D A [(mo, .inr (7, mFs thr a1 a2 a3 (nI lt) (nI lb) (nI lz) ci a4 a5 a6 nu bk se op fa a7 a8 a9 a10 a11 (nI 10) kh kl sh sl a12 a13 a14 a15 a16 a17 a18 a19 a20)), (a4, .inl (cI, 32, .inl (nF gk))), (a7, .inl (cI, 256, .inl (nF gS))), (a8, .inl (cI, 240, .inl (nF ((kSch gS gk 4 gf gr j).2.2)))), (a11, .inl (cI, 4, .inl (nF (iter (kSub gS ((iter (kFour ((kSch gS gk 4 gf gr j).2.2) (4 + j)) 4 ((kSch gS gk 4 gf gr j).2.1)) 0)) i (iter (kFour ((kSch gS gk 4 gf gr j).2.2) (4 + j)) 4 ((kSch gS gk 4 gf gr j).2.1))))))] → va_S A s.heap H locs → lv_has ls 6 [(5, .int (nI i)), (4, .int (nI ((iter (kFour ((kSch gS gk 4 gf gr j).2.2) (4 + j)) 4 ((kSch gS gk 4 gf gr j).2.1)) 0))), (2, .int (nI ((kSch gS gk 4 gf gr j).1))), (3, .int (nI (4 + j))), (0, .ref mo), (1, .int (nI 4))] → W p l e rm_M_schedule4 s m args below meth c H locs 0 0 (MQ below (sbQv D (fun (_ : Unit) => True) (fun (_ : Unit) => [(mo, .inr (7, mFs thr a1 a2 a3 (nI lt) (nI lb) (nI lz) ci a4 a5 a6 nu bk se op fa a7 a8 a9 a10 a11 (nI 10) kh kl sh sl a12 a13 a14 a15 a16 a17 a18 a19 a20)), (a4, .inl (cI, 32, .inl (nF gk))), (a7, .inl (cI, 256, .inl (nF gS))), (a8, .inl (cI, 240, .inl (nF ((kSch gS gk 4 gf gr 40).2.2)))), (a11, .inl (cI, 4, .inl (nF ((kSch gS gk 4 gf gr 40).2.1))))]) A) args s 0 0 A) (F0 m 103 ls []) := by
                  intro d5
                  induction d5 with
                  | zero =>
                    intro i hi5 H locs ls hP hD hS hl
                    obtain rfl : 4 = i := by omega
                    have hC := kF1_B (q := (kSch gS gk 4 gf gr j)) ⟨hB1, hB2, hB3⟩ (4 + j)
                    have hC2 := kSub_B hgS (kF1 (4 + j) (kSch gS gk 4 gf gr j) 0) 4 _ hC
                    refine lv_iload hx hb d_M_schedule_103 (lv_at hl 0 rfl) ?_
                    refine lv_iconst (v := 4) hx hb d_M_schedule_105 (by decide) ?_
                    refine lv_icmp_ge (tgt := 147) hx hb d_M_schedule_106 (by decide) (fun c_10 => ?_) (fun c_10 => absurd (sb_geT (a := 4) (b := 4) rfl rfl (by omega) (by omega) (by omega)) c_10)
                    refine lv_aload_n hx hb d_M_schedule_147 rfl (lv_at hl 4 rfl) ?_
                    refine va_get (D := D) (ci := 7) (v := .ref a11) (C := R_M) (T := F_M) (N := 35) hx hb hts in_M hown hG.1 hP 0 rfl rfl 20 (by decide) (hts _ k_717) (fun _ h9 => h9) rfl d_M_schedule_148 ?_
                    refine lv_iconst (v := 0) hx hb d_M_schedule_151 (by decide) ?_
                    refine lv_dup2_11 hx hb d_M_schedule_152 rfl rfl ?_
                    refine sb_ild hx hb hG.1 hP 4 rfl 0 rfl (by omega) (by omega) d_M_schedule_153 ?_
                    refine lv_iload_n hx hb d_M_schedule_154 rfl (lv_at hl 2 rfl) ?_
                    refine lv_ixor hx hb d_M_schedule_155 ?_
                    refine sb_topn (((iter (kSub gS ((iter (kFour ((kSch gS gk 4 gf gr j).2.2) (4 + j)) 4 ((kSch gS gk 4 gf gr j).2.1)) 0)) 4 (iter (kFour ((kSch gS gk 4 gf gr j).2.2) (4 + j)) 4 ((kSch gS gk 4 gf gr j).2.1))) 0) ^^^ ((kSch gS gk 4 gf gr j).1)) (sb_xor (a := (iter (kSub gS ((iter (kFour ((kSch gS gk 4 gf gr j).2.2) (4 + j)) 4 ((kSch gS gk 4 gf gr j).2.1)) 0)) 4 (iter (kFour ((kSch gS gk 4 gf gr j).2.2) (4 + j)) 4 ((kSch gS gk 4 gf gr j).2.1))) 0) (b := (kSch gS gk 4 gf gr j).1) rfl rfl) ?_
                    refine sb_topn (((iter (kSub gS ((iter (kFour ((kSch gS gk 4 gf gr j).2.2) (4 + j)) 4 ((kSch gS gk 4 gf gr j).2.1)) 0)) 4 (iter (kFour ((kSch gS gk 4 gf gr j).2.2) (4 + j)) 4 ((kSch gS gk 4 gf gr j).2.1))) 0) ^^^ ((kSch gS gk 4 gf gr j).1)) rfl ?_
                    refine sb_ist hx hb hG.1 hP hD hS 4 rfl 0 rfl (by omega) (by omega) d_M_schedule_156 (fun f_11 H locs ef_11 hP hD hS => ?_)
                    have hP : va_P D vwCl [(mo, .inr (7, mFs thr a1 a2 a3 (nI lt) (nI lb) (nI lz) ci a4 a5 a6 nu bk se op fa a7 a8 a9 a10 a11 (nI 10) kh kl sh sl a12 a13 a14 a15 a16 a17 a18 a19 a20)), (a4, .inl (cI, 32, .inl (nF gk))), (a7, .inl (cI, 256, .inl (nF gS))), (a8, .inl (cI, 240, .inl (nF ((kSch gS gk 4 gf gr j).2.2)))), (a11, .inl (cI, 4, .inl f_11))] H := hP
                    have hD : va_D A [(mo, .inr (7, mFs thr a1 a2 a3 (nI lt) (nI lb) (nI lz) ci a4 a5 a6 nu bk se op fa a7 a8 a9 a10 a11 (nI 10) kh kl sh sl a12 a13 a14 a15 a16 a17 a18 a19 a20)), (a4, .inl (cI, 32, .inl (nF gk))), (a7, .inl (cI, 256, .inl (nF gS))), (a8, .inl (cI, 240, .inl (nF ((kSch gS gk 4 gf gr j).2.2)))), (a11, .inl (cI, 4, .inl f_11))] := hD
                    obtain rfl : f_11 = nF (updN (iter (kSub gS ((iter (kFour ((kSch gS gk 4 gf gr j).2.2) (4 + j)) 4 ((kSch gS gk 4 gf gr j).2.1)) 0)) 4 (iter (kFour ((kSch gS gk 4 gf gr j).2.2) (4 + j)) 4 ((kSch gS gk 4 gf gr j).2.1))) 0 (((iter (kSub gS ((iter (kFour ((kSch gS gk 4 gf gr j).2.2) (4 + j)) 4 ((kSch gS gk 4 gf gr j).2.1)) 0)) 4 (iter (kFour ((kSch gS gk 4 gf gr j).2.2) (4 + j)) 4 ((kSch gS gk 4 gf gr j).2.1))) 0) ^^^ ((kSch gS gk 4 gf gr j).1))) := ef_11.trans (nF_set _ _ _)
                    have hP : va_P D vwCl [(mo, .inr (7, mFs thr a1 a2 a3 (nI lt) (nI lb) (nI lz) ci a4 a5 a6 nu bk se op fa a7 a8 a9 a10 a11 (nI 10) kh kl sh sl a12 a13 a14 a15 a16 a17 a18 a19 a20)), (a4, .inl (cI, 32, .inl (nF gk))), (a7, .inl (cI, 256, .inl (nF gS))), (a8, .inl (cI, 240, .inl (nF ((kSch gS gk 4 gf gr j).2.2)))), (a11, .inl (cI, 4, .inl (nF (updN (iter (kSub gS ((iter (kFour ((kSch gS gk 4 gf gr j).2.2) (4 + j)) 4 ((kSch gS gk 4 gf gr j).2.1)) 0)) 4 (iter (kFour ((kSch gS gk 4 gf gr j).2.2) (4 + j)) 4 ((kSch gS gk 4 gf gr j).2.1))) 0 (((iter (kSub gS ((iter (kFour ((kSch gS gk 4 gf gr j).2.2) (4 + j)) 4 ((kSch gS gk 4 gf gr j).2.1)) 0)) 4 (iter (kFour ((kSch gS gk 4 gf gr j).2.2) (4 + j)) 4 ((kSch gS gk 4 gf gr j).2.1))) 0) ^^^ ((kSch gS gk 4 gf gr j).1))))))] H := hP
                    have hD : va_D A [(mo, .inr (7, mFs thr a1 a2 a3 (nI lt) (nI lb) (nI lz) ci a4 a5 a6 nu bk se op fa a7 a8 a9 a10 a11 (nI 10) kh kl sh sl a12 a13 a14 a15 a16 a17 a18 a19 a20)), (a4, .inl (cI, 32, .inl (nF gk))), (a7, .inl (cI, 256, .inl (nF gS))), (a8, .inl (cI, 240, .inl (nF ((kSch gS gk 4 gf gr j).2.2)))), (a11, .inl (cI, 4, .inl (nF (updN (iter (kSub gS ((iter (kFour ((kSch gS gk 4 gf gr j).2.2) (4 + j)) 4 ((kSch gS gk 4 gf gr j).2.1)) 0)) 4 (iter (kFour ((kSch gS gk 4 gf gr j).2.2) (4 + j)) 4 ((kSch gS gk 4 gf gr j).2.1))) 0 (((iter (kSub gS ((iter (kFour ((kSch gS gk 4 gf gr j).2.2) (4 + j)) 4 ((kSch gS gk 4 gf gr j).2.1)) 0)) 4 (iter (kFour ((kSch gS gk 4 gf gr j).2.2) (4 + j)) 4 ((kSch gS gk 4 gf gr j).2.1))) 0) ^^^ ((kSch gS gk 4 gf gr j).1))))))] := hD
                    refine lv_iload_n hx hb d_M_schedule_157 rfl (lv_at hl 2 rfl) ?_
                    refine lv_iconst (v := 2) hx hb d_M_schedule_158 (by decide) ?_
                    refine vp_callSi (va_runS (As := [.int (nI ((kSch gS gk 4 gf gr j).1)), .int 2]) (rest := []) ⟨hx, hb, hml, hown, hts⟩ (c_M_times l D cI cL cB tS tF ((kSch gS gk 4 gf gr j).1) 2 hB1 (by omega)) (va_cwS 2 hts (sb_gS k_694 k_695 k_30 k_696) rfl rfl rfl (by decide +kernel) ⟨Nat.le_of_ble_eq_true rfl, Nat.le_of_ble_eq_true rfl⟩) (sb_rS hG hP hS [] rfl) rfl rfl hl.1 rfl (lv_room (Nat.le_of_ble_eq_true rfl)) d_M_schedule_159 ⟨Nat.le_of_ble_eq_true rfl, Nat.le_of_ble_eq_true rfl⟩).run (fun r_12 er_12 => ?_)
                    subst er_12
                    refine sb_topn (gmN ((kSch gS gk 4 gf gr j).1) 2) rfl ?_
                    refine lv_istore_n (lv' := [(2, .int (nI (gmN ((kSch gS gk 4 gf gr j).1) 2))), (5, .int (nI 4)), (4, .int (nI ((iter (kFour ((kSch gS gk 4 gf gr j).2.2) (4 + j)) 4 ((kSch gS gk 4 gf gr j).2.1)) 0))), (3, .int (nI (4 + j))), (0, .ref mo), (1, .int (nI 4))]) hx hb d_M_schedule_162 rfl hl (by decide) rfl (fun ls hl => ?_)
                    refine lv_goto (tgt := 213) hx hb d_M_schedule_163 (by decide) ?_
                    refine lv_iconst (v := 0) hx hb d_M_schedule_213 (by decide) ?_
                    refine lv_istore (lv' := [(4, .int 0), (2, .int (nI (gmN ((kSch gS gk 4 gf gr j).1) 2))), (5, .int (nI 4)), (3, .int (nI (4 + j))), (0, .ref mo), (1, .int (nI 4))]) hx hb d_M_schedule_214 hl (by decide) rfl (fun ls hl => ?_)
                    have lp6 : ∀ (d6 i : Nat), i + d6 = 4 → ∀ (H : Heap) (locs : List Loc) (ls : Array Slot), va_P D vwCl [(mo, .inr (7, mFs thr a1 a2 a3 (nI lt) (nI lb) (nI lz) ci a4 a5 a6 nu bk se op fa a7 a8 a9 a10 a11 (nI 10) kh kl sh sl a12 a13 a14 a15 a16 a17 a18 a19 a20)), (a4, .inl (cI, 32, .inl (nF gk))), (a7, .inl (cI, 256, .inl (nF gS))), (a8, .inl (cI, 240, .inl (nF (iter (kMix (updN (iter (kSub gS ((iter (kFour ((kSch gS gk 4 gf gr j).2.2) (4 + j)) 4 ((kSch gS gk 4 gf gr j).2.1)) 0)) 4 (iter (kFour ((kSch gS gk 4 gf gr j).2.2) (4 + j)) 4 ((kSch gS gk 4 gf gr j).2.1))) 0 (((iter (kSub gS ((iter (kFour ((kSch gS gk 4 gf gr j).2.2) (4 + j)) 4 ((kSch gS gk 4 gf gr j).2.1)) 0)) 4 (iter (kFour ((kSch gS gk 4 gf gr j).2.2) (4 + j)) 4 ((kSch gS gk 4 gf gr j).2.1))) 0) ^^^ ((kSch gS gk 4 gf gr j).1))) (4 + j) 4) i ((kSch gS gk 4 gf gr j).2.2))))), (a11, .inl (cI, 4, .inl (nF (updN (iter (kSub gS ((iter (kFour ((kSch gS gk 4 gf gr j).2.2) (4 + j)) 4 ((kSch gS gk 4 gf gr j).2.1)) 0)) 4 (iter (kFour ((kSch gS gk 4 gf gr j).2.2) (4 + j)) 4 ((kSch gS gk 4 gf gr j).2.1))) 0 (((iter (kSub gS ((iter (kFour ((kSch gS gk 4 gf gr j).2.2) (4 + j)) 4 ((kSch gS gk 4 gf gr j).2.1)) 0)) 4 (iter (kFour ((kSch gS gk 4 gf gr j).2.2) (4 + j)) 4 ((kSch gS gk 4 gf gr j).2.1))) 0) ^^^ ((kSch gS gk 4 gf gr j).1))))))] H → va_D A [(mo, .inr (7, mFs thr a1 a2 a3 (nI lt) (nI lb) (nI lz) ci a4 a5 a6 nu bk se op fa a7 a8 a9 a10 a11 (nI 10) kh kl sh sl a12 a13 a14 a15 a16 a17 a18 a19 a20)), (a4, .inl (cI, 32, .inl (nF gk))), (a7, .inl (cI, 256, .inl (nF gS))), (a8, .inl (cI, 240, .inl (nF (iter (kMix (updN (iter (kSub gS ((iter (kFour ((kSch gS gk 4 gf gr j).2.2) (4 + j)) 4 ((kSch gS gk 4 gf gr j).2.1)) 0)) 4 (iter (kFour ((kSch gS gk 4 gf gr j).2.2) (4 + j)) 4 ((kSch gS gk 4 gf gr j).2.1))) 0 (((iter (kSub gS ((iter (kFour ((kSch gS gk 4 gf gr j).2.2) (4 + j)) 4 ((kSch gS gk 4 gf gr j).2.1)) 0)) 4 (iter (kFour ((kSch gS gk 4 gf gr j).2.2) (4 + j)) 4 ((kSch gS gk 4 gf gr j).2.1))) 0) ^^^ ((kSch gS gk 4 gf gr j).1))) (4 + j) 4) i ((kSch gS gk 4 gf gr j).2.2))))), (a11, .inl (cI, 4, .inl (nF (updN (iter (kSub gS ((iter (kFour ((kSch gS gk 4 gf gr j).2.2) (4 + j)) 4 ((kSch gS gk 4 gf gr j).2.1)) 0)) 4 (iter (kFour ((kSch gS gk 4 gf gr j).2.2) (4 + j)) 4 ((kSch gS gk 4 gf gr j).2.1))) 0 (((iter (kSub gS ((iter (kFour ((kSch gS gk 4 gf gr j).2.2) (4 + j)) 4 ((kSch gS gk 4 gf gr j).2.1)) 0)) 4 (iter (kFour ((kSch gS gk 4 gf gr j).2.2) (4 + j)) 4 ((kSch gS gk 4 gf gr j).2.1))) 0) ^^^ ((kSch gS gk 4 gf gr j).1))))))] → va_S A s.heap H locs → lv_has ls 6 [(4, .int (nI i)), (2, .int (nI (gmN ((kSch gS gk 4 gf gr j).1) 2))), (3, .int (nI (4 + j))), (0, .ref mo), (1, .int (nI 4))] → W p l e rm_M_schedule4 s m args below meth c H locs 0 0 (MQ below (sbQv D (fun (_ : Unit) => True) (fun (_ : Unit) => [(mo, .inr (7, mFs thr a1 a2 a3 (nI lt) (nI lb) (nI lz) ci a4 a5 a6 nu bk se op fa a7 a8 a9 a10 a11 (nI 10) kh kl sh sl a12 a13 a14 a15 a16 a17 a18 a19 a20)), (a4, .inl (cI, 32, .inl (nF gk))), (a7, .inl (cI, 256, .inl (nF gS))), (a8, .inl (cI, 240, .inl (nF ((kSch gS gk 4 gf gr 40).2.2)))), (a11, .inl (cI, 4, .inl (nF ((kSch gS gk 4 gf gr 40).2.1))))]) A) args s 0 0 A) (F0 m 216 ls []) := by
                      intro d6
                      induction d6 with
                      | zero =>
                        intro i hi6 H locs ls hP hD hS hl
                        obtain rfl : 4 = i := by omega
                        refine lv_iload hx hb d_M_schedule_216 (lv_at hl 0 rfl) ?_
                        refine lv_iconst (v := 4) hx hb d_M_schedule_218 (by decide) ?_
                        refine lv_icmp_ge (tgt := 260) hx hb d_M_schedule_219 (by decide) (fun c_13 => ?_) (fun c_13 => absurd (sb_geT (a := 4) (b := 4) rfl rfl (by omega) (by omega) (by omega)) c_13)
                        refine lv_iinc (v := nI ((4 + j) + 1)) (lv' := [(3, .int (nI ((4 + j) + 1))), (4, .int (nI 4)), (2, .int (nI (gmN ((kSch gS gk 4 gf gr j).1) 2))), (0, .ref mo), (1, .int (nI 4))]) hx hb d_M_schedule_260 hl (k := 2) rfl (sb_inc (a := 4 + j) (b := (4 + j) + 1) (d := 1) rfl (by decide) (by omega)) (by decide) rfl (fun ls hl => ?_)
                        refine lv_goto (tgt := 39) hx hb d_M_schedule_263 (by decide) ?_
                        have hE : kSch gS gk 4 gf gr (j + 1) = ((gmN ((kSch gS gk 4 gf gr j).1) 2), updN (iter (kSub gS ((iter (kFour ((kSch gS gk 4 gf gr j).2.2) (4 + j)) 4 ((kSch gS gk 4 gf gr j).2.1)) 0)) 4 (iter (kFour ((kSch gS gk 4 gf gr j).2.2) (4 + j)) 4 ((kSch gS gk 4 gf gr j).2.1))) 0 (((iter (kSub gS ((iter (kFour ((kSch gS gk 4 gf gr j).2.2) (4 + j)) 4 ((kSch gS gk 4 gf gr j).2.1)) 0)) 4 (iter (kFour ((kSch gS gk 4 gf gr j).2.2) (4 + j)) 4 ((kSch gS gk 4 gf gr j).2.1))) 0) ^^^ ((kSch gS gk 4 gf gr j).1)), iter (kMix (updN (iter (kSub gS ((iter (kFour ((kSch gS gk 4 gf gr j).2.2) (4 + j)) 4 ((kSch gS gk 4 gf gr j).2.1)) 0)) 4 (iter (kFour ((kSch gS gk 4 gf gr j).2.2) (4 + j)) 4 ((kSch gS gk 4 gf gr j).2.1))) 0 (((iter (kSub gS ((iter (kFour ((kSch gS gk 4 gf gr j).2.2) (4 + j)) 4 ((kSch gS gk 4 gf gr j).2.1)) 0)) 4 (iter (kFour ((kSch gS gk 4 gf gr j).2.2) (4 + j)) 4 ((kSch gS gk 4 gf gr j).2.1))) 0) ^^^ ((kSch gS gk 4 gf gr j).1))) (4 + j) 4) 4 ((kSch gS gk 4 gf gr j).2.2)) := (by show kStep gS 4 j (kSch gS gk 4 gf gr j) = _; unfold kStep; simp only [if_pos c_5]; rfl)
                        have ih' := ih2 (j + 1) (by omega)
                        rw [hE] at ih'
                        exact ih' _ _ ls (hP.sub [0, 1, 2, 3, 4] rfl) (hD.sub [0, 1, 2, 3, 4] (by decide) rfl) hS (lv_sub hl [2, 0, 3, 4] rfl)
                      | succ d6 ih6 =>
                        intro i hi6 H locs ls hP hD hS hl
                        refine lv_iload hx hb d_M_schedule_216 (lv_at hl 0 rfl) ?_
                        refine lv_iconst (v := 4) hx hb d_M_schedule_218 (by decide) ?_
                        refine lv_icmp_ge (tgt := 260) hx hb d_M_schedule_219 (by decide) (fun c_14 => absurd c_14 (sb_geF (a := i) (b := 4) rfl rfl (by omega) (by omega) (by omega))) (fun c_14 => ?_)
                        refine lv_aload_n hx hb d_M_schedule_222 rfl (lv_at hl 3 rfl) ?_
                        refine va_get (D := D) (ci := 7) (v := .ref a8) (C := R_M) (T := F_M) (N := 35) hx hb hts in_M hown hG.1 hP 0 rfl rfl 17 (by decide) (hts _ k_714) (fun _ h9 => h9) rfl d_M_schedule_223 ?_
                        refine lv_iconst (v := 4) hx hb d_M_schedule_226 (by decide) ?_
                        refine lv_iload_n hx hb d_M_schedule_227 rfl (lv_at hl 2 rfl) ?_
                        refine lv_imul hx hb d_M_schedule_228 ?_
                        refine sb_topn (4 * (4 + j)) (sb_mul (a := 4) (b := 4 + j) rfl rfl) ?_
                        refine lv_iload hx hb d_M_schedule_229 (lv_at hl 0 rfl) ?_
                        refine lv_iadd hx hb d_M_schedule_231 ?_
                        refine sb_topn ((4 * (4 + j)) + i) (nI_add (4 * (4 + j)) i) ?_
                        refine lv_aload_n hx hb d_M_schedule_232 rfl (lv_at hl 3 rfl) ?_
                        refine va_get (D := D) (ci := 7) (v := .ref a8) (C := R_M) (T := F_M) (N := 35) hx hb hts in_M hown hG.1 hP 0 rfl rfl 17 (by decide) (hts _ k_714) (fun _ h9 => h9) rfl d_M_schedule_233 ?_
                        refine lv_iconst (v := 4) hx hb d_M_schedule_236 (by decide) ?_
                        refine lv_iload_n hx hb d_M_schedule_237 rfl (lv_at hl 2 rfl) ?_
                        refine lv_iload_n hx hb d_M_schedule_238 rfl (lv_at hl 4 rfl) ?_
                        refine lv_isub hx hb d_M_schedule_239 ?_
                        refine sb_topn ((4 + j) - 4) (sb_sub (a := 4 + j) (b := 4) (by omega) rfl rfl) ?_
                        refine lv_imul hx hb d_M_schedule_240 ?_
                        refine sb_topn (4 * ((4 + j) - 4)) (sb_mul (a := 4) (b := (4 + j) - 4) rfl rfl) ?_
                        refine lv_iload hx hb d_M_schedule_241 (lv_at hl 0 rfl) ?_
                        refine lv_iadd hx hb d_M_schedule_243 ?_
                        refine sb_topn ((4 * ((4 + j) - 4)) + i) (nI_add (4 * ((4 + j) - 4)) i) ?_
                        refine sb_ild hx hb hG.1 hP 3 rfl ((4 * ((4 + j) - 4)) + i) rfl (by omega) (by omega) d_M_schedule_244 ?_
                        refine lv_aload_n hx hb d_M_schedule_245 rfl (lv_at hl 3 rfl) ?_
                        refine va_get (D := D) (ci := 7) (v := .ref a11) (C := R_M) (T := F_M) (N := 35) hx hb hts in_M hown hG.1 hP 0 rfl rfl 20 (by decide) (hts _ k_717) (fun _ h9 => h9) rfl d_M_schedule_246 ?_
                        refine lv_iload hx hb d_M_schedule_249 (lv_at hl 0 rfl) ?_
                        refine sb_ild hx hb hG.1 hP 4 rfl i rfl (by omega) (by omega) d_M_schedule_251 ?_
                        refine lv_ixor hx hb d_M_schedule_252 ?_
                        refine sb_topn (((iter (kMix (updN (iter (kSub gS ((iter (kFour ((kSch gS gk 4 gf gr j).2.2) (4 + j)) 4 ((kSch gS gk 4 gf gr j).2.1)) 0)) 4 (iter (kFour ((kSch gS gk 4 gf gr j).2.2) (4 + j)) 4 ((kSch gS gk 4 gf gr j).2.1))) 0 (((iter (kSub gS ((iter (kFour ((kSch gS gk 4 gf gr j).2.2) (4 + j)) 4 ((kSch gS gk 4 gf gr j).2.1)) 0)) 4 (iter (kFour ((kSch gS gk 4 gf gr j).2.2) (4 + j)) 4 ((kSch gS gk 4 gf gr j).2.1))) 0) ^^^ ((kSch gS gk 4 gf gr j).1))) (4 + j) 4) i ((kSch gS gk 4 gf gr j).2.2)) ((4 * ((4 + j) - 4)) + i)) ^^^ ((updN (iter (kSub gS ((iter (kFour ((kSch gS gk 4 gf gr j).2.2) (4 + j)) 4 ((kSch gS gk 4 gf gr j).2.1)) 0)) 4 (iter (kFour ((kSch gS gk 4 gf gr j).2.2) (4 + j)) 4 ((kSch gS gk 4 gf gr j).2.1))) 0 (((iter (kSub gS ((iter (kFour ((kSch gS gk 4 gf gr j).2.2) (4 + j)) 4 ((kSch gS gk 4 gf gr j).2.1)) 0)) 4 (iter (kFour ((kSch gS gk 4 gf gr j).2.2) (4 + j)) 4 ((kSch gS gk 4 gf gr j).2.1))) 0) ^^^ ((kSch gS gk 4 gf gr j).1))) i)) (sb_xor (a := (iter (kMix (updN (iter (kSub gS ((iter (kFour ((kSch gS gk 4 gf gr j).2.2) (4 + j)) 4 ((kSch gS gk 4 gf gr j).2.1)) 0)) 4 (iter (kFour ((kSch gS gk 4 gf gr j).2.2) (4 + j)) 4 ((kSch gS gk 4 gf gr j).2.1))) 0 (((iter (kSub gS ((iter (kFour ((kSch gS gk 4 gf gr j).2.2) (4 + j)) 4 ((kSch gS gk 4 gf gr j).2.1)) 0)) 4 (iter (kFour ((kSch gS gk 4 gf gr j).2.2) (4 + j)) 4 ((kSch gS gk 4 gf gr j).2.1))) 0) ^^^ ((kSch gS gk 4 gf gr j).1))) (4 + j) 4) i ((kSch gS gk 4 gf gr j).2.2)) ((4 * ((4 + j) - 4)) + i)) (b := (updN (iter (kSub gS ((iter (kFour ((kSch gS gk 4 gf gr j).2.2) (4 + j)) 4 ((kSch gS gk 4 gf gr j).2.1)) 0)) 4 (iter (kFour ((kSch gS gk 4 gf gr j).2.2) (4 + j)) 4 ((kSch gS gk 4 gf gr j).2.1))) 0 (((iter (kSub gS ((iter (kFour ((kSch gS gk 4 gf gr j).2.2) (4 + j)) 4 ((kSch gS gk 4 gf gr j).2.1)) 0)) 4 (iter (kFour ((kSch gS gk 4 gf gr j).2.2) (4 + j)) 4 ((kSch gS gk 4 gf gr j).2.1))) 0) ^^^ ((kSch gS gk 4 gf gr j).1))) i) rfl rfl) ?_
                        refine sb_topn (((iter (kMix (updN (iter (kSub gS ((iter (kFour ((kSch gS gk 4 gf gr j).2.2) (4 + j)) 4 ((kSch gS gk 4 gf gr j).2.1)) 0)) 4 (iter (kFour ((kSch gS gk 4 gf gr j).2.2) (4 + j)) 4 ((kSch gS gk 4 gf gr j).2.1))) 0 (((iter (kSub gS ((iter (kFour ((kSch gS gk 4 gf gr j).2.2) (4 + j)) 4 ((kSch gS gk 4 gf gr j).2.1)) 0)) 4 (iter (kFour ((kSch gS gk 4 gf gr j).2.2) (4 + j)) 4 ((kSch gS gk 4 gf gr j).2.1))) 0) ^^^ ((kSch gS gk 4 gf gr j).1))) (4 + j) 4) i ((kSch gS gk 4 gf gr j).2.2)) ((4 * ((4 + j) - 4)) + i)) ^^^ ((updN (iter (kSub gS ((iter (kFour ((kSch gS gk 4 gf gr j).2.2) (4 + j)) 4 ((kSch gS gk 4 gf gr j).2.1)) 0)) 4 (iter (kFour ((kSch gS gk 4 gf gr j).2.2) (4 + j)) 4 ((kSch gS gk 4 gf gr j).2.1))) 0 (((iter (kSub gS ((iter (kFour ((kSch gS gk 4 gf gr j).2.2) (4 + j)) 4 ((kSch gS gk 4 gf gr j).2.1)) 0)) 4 (iter (kFour ((kSch gS gk 4 gf gr j).2.2) (4 + j)) 4 ((kSch gS gk 4 gf gr j).2.1))) 0) ^^^ ((kSch gS gk 4 gf gr j).1))) i)) rfl ?_
                        refine sb_ist hx hb hG.1 hP hD hS 3 rfl ((4 * (4 + j)) + i) rfl (by omega) (by omega) d_M_schedule_253 (fun f_15 H locs ef_15 hP hD hS => ?_)
                        have hP : va_P D vwCl [(mo, .inr (7, mFs thr a1 a2 a3 (nI lt) (nI lb) (nI lz) ci a4 a5 a6 nu bk se op fa a7 a8 a9 a10 a11 (nI 10) kh kl sh sl a12 a13 a14 a15 a16 a17 a18 a19 a20)), (a4, .inl (cI, 32, .inl (nF gk))), (a7, .inl (cI, 256, .inl (nF gS))), (a8, .inl (cI, 240, .inl f_15)), (a11, .inl (cI, 4, .inl (nF (updN (iter (kSub gS ((iter (kFour ((kSch gS gk 4 gf gr j).2.2) (4 + j)) 4 ((kSch gS gk 4 gf gr j).2.1)) 0)) 4 (iter (kFour ((kSch gS gk 4 gf gr j).2.2) (4 + j)) 4 ((kSch gS gk 4 gf gr j).2.1))) 0 (((iter (kSub gS ((iter (kFour ((kSch gS gk 4 gf gr j).2.2) (4 + j)) 4 ((kSch gS gk 4 gf gr j).2.1)) 0)) 4 (iter (kFour ((kSch gS gk 4 gf gr j).2.2) (4 + j)) 4 ((kSch gS gk 4 gf gr j).2.1))) 0) ^^^ ((kSch gS gk 4 gf gr j).1))))))] H := hP
                        have hD : va_D A [(mo, .inr (7, mFs thr a1 a2 a3 (nI lt) (nI lb) (nI lz) ci a4 a5 a6 nu bk se op fa a7 a8 a9 a10 a11 (nI 10) kh kl sh sl a12 a13 a14 a15 a16 a17 a18 a19 a20)), (a4, .inl (cI, 32, .inl (nF gk))), (a7, .inl (cI, 256, .inl (nF gS))), (a8, .inl (cI, 240, .inl f_15)), (a11, .inl (cI, 4, .inl (nF (updN (iter (kSub gS ((iter (kFour ((kSch gS gk 4 gf gr j).2.2) (4 + j)) 4 ((kSch gS gk 4 gf gr j).2.1)) 0)) 4 (iter (kFour ((kSch gS gk 4 gf gr j).2.2) (4 + j)) 4 ((kSch gS gk 4 gf gr j).2.1))) 0 (((iter (kSub gS ((iter (kFour ((kSch gS gk 4 gf gr j).2.2) (4 + j)) 4 ((kSch gS gk 4 gf gr j).2.1)) 0)) 4 (iter (kFour ((kSch gS gk 4 gf gr j).2.2) (4 + j)) 4 ((kSch gS gk 4 gf gr j).2.1))) 0) ^^^ ((kSch gS gk 4 gf gr j).1))))))] := hD
                        obtain rfl : f_15 = nF (updN (iter (kMix (updN (iter (kSub gS ((iter (kFour ((kSch gS gk 4 gf gr j).2.2) (4 + j)) 4 ((kSch gS gk 4 gf gr j).2.1)) 0)) 4 (iter (kFour ((kSch gS gk 4 gf gr j).2.2) (4 + j)) 4 ((kSch gS gk 4 gf gr j).2.1))) 0 (((iter (kSub gS ((iter (kFour ((kSch gS gk 4 gf gr j).2.2) (4 + j)) 4 ((kSch gS gk 4 gf gr j).2.1)) 0)) 4 (iter (kFour ((kSch gS gk 4 gf gr j).2.2) (4 + j)) 4 ((kSch gS gk 4 gf gr j).2.1))) 0) ^^^ ((kSch gS gk 4 gf gr j).1))) (4 + j) 4) i ((kSch gS gk 4 gf gr j).2.2)) ((4 * (4 + j)) + i) (((iter (kMix (updN (iter (kSub gS ((iter (kFour ((kSch gS gk 4 gf gr j).2.2) (4 + j)) 4 ((kSch gS gk 4 gf gr j).2.1)) 0)) 4 (iter (kFour ((kSch gS gk 4 gf gr j).2.2) (4 + j)) 4 ((kSch gS gk 4 gf gr j).2.1))) 0 (((iter (kSub gS ((iter (kFour ((kSch gS gk 4 gf gr j).2.2) (4 + j)) 4 ((kSch gS gk 4 gf gr j).2.1)) 0)) 4 (iter (kFour ((kSch gS gk 4 gf gr j).2.2) (4 + j)) 4 ((kSch gS gk 4 gf gr j).2.1))) 0) ^^^ ((kSch gS gk 4 gf gr j).1))) (4 + j) 4) i ((kSch gS gk 4 gf gr j).2.2)) ((4 * ((4 + j) - 4)) + i)) ^^^ ((updN (iter (kSub gS ((iter (kFour ((kSch gS gk 4 gf gr j).2.2) (4 + j)) 4 ((kSch gS gk 4 gf gr j).2.1)) 0)) 4 (iter (kFour ((kSch gS gk 4 gf gr j).2.2) (4 + j)) 4 ((kSch gS gk 4 gf gr j).2.1))) 0 (((iter (kSub gS ((iter (kFour ((kSch gS gk 4 gf gr j).2.2) (4 + j)) 4 ((kSch gS gk 4 gf gr j).2.1)) 0)) 4 (iter (kFour ((kSch gS gk 4 gf gr j).2.2) (4 + j)) 4 ((kSch gS gk 4 gf gr j).2.1))) 0) ^^^ ((kSch gS gk 4 gf gr j).1))) i))) := ef_15.trans (nF_set _ _ _)
                        have hP : va_P D vwCl [(mo, .inr (7, mFs thr a1 a2 a3 (nI lt) (nI lb) (nI lz) ci a4 a5 a6 nu bk se op fa a7 a8 a9 a10 a11 (nI 10) kh kl sh sl a12 a13 a14 a15 a16 a17 a18 a19 a20)), (a4, .inl (cI, 32, .inl (nF gk))), (a7, .inl (cI, 256, .inl (nF gS))), (a8, .inl (cI, 240, .inl (nF (updN (iter (kMix (updN (iter (kSub gS ((iter (kFour ((kSch gS gk 4 gf gr j).2.2) (4 + j)) 4 ((kSch gS gk 4 gf gr j).2.1)) 0)) 4 (iter (kFour ((kSch gS gk 4 gf gr j).2.2) (4 + j)) 4 ((kSch gS gk 4 gf gr j).2.1))) 0 (((iter (kSub gS ((iter (kFour ((kSch gS gk 4 gf gr j).2.2) (4 + j)) 4 ((kSch gS gk 4 gf gr j).2.1)) 0)) 4 (iter (kFour ((kSch gS gk 4 gf gr j).2.2) (4 + j)) 4 ((kSch gS gk 4 gf gr j).2.1))) 0) ^^^ ((kSch gS gk 4 gf gr j).1))) (4 + j) 4) i ((kSch gS gk 4 gf gr j).2.2)) ((4 * (4 + j)) + i) (((iter (kMix (updN (iter (kSub gS ((iter (kFour ((kSch gS gk 4 gf gr j).2.2) (4 + j)) 4 ((kSch gS gk 4 gf gr j).2.1)) 0)) 4 (iter (kFour ((kSch gS gk 4 gf gr j).2.2) (4 + j)) 4 ((kSch gS gk 4 gf gr j).2.1))) 0 (((iter (kSub gS ((iter (kFour ((kSch gS gk 4 gf gr j).2.2) (4 + j)) 4 ((kSch gS gk 4 gf gr j).2.1)) 0)) 4 (iter (kFour ((kSch gS gk 4 gf gr j).2.2) (4 + j)) 4 ((kSch gS gk 4 gf gr j).2.1))) 0) ^^^ ((kSch gS gk 4 gf gr j).1))) (4 + j) 4) i ((kSch gS gk 4 gf gr j).2.2)) ((4 * ((4 + j) - 4)) + i)) ^^^ ((updN (iter (kSub gS ((iter (kFour ((kSch gS gk 4 gf gr j).2.2) (4 + j)) 4 ((kSch gS gk 4 gf gr j).2.1)) 0)) 4 (iter (kFour ((kSch gS gk 4 gf gr j).2.2) (4 + j)) 4 ((kSch gS gk 4 gf gr j).2.1))) 0 (((iter (kSub gS ((iter (kFour ((kSch gS gk 4 gf gr j).2.2) (4 + j)) 4 ((kSch gS gk 4 gf gr j).2.1)) 0)) 4 (iter (kFour ((kSch gS gk 4 gf gr j).2.2) (4 + j)) 4 ((kSch gS gk 4 gf gr j).2.1))) 0) ^^^ ((kSch gS gk 4 gf gr j).1))) i)))))), (a11, .inl (cI, 4, .inl (nF (updN (iter (kSub gS ((iter (kFour ((kSch gS gk 4 gf gr j).2.2) (4 + j)) 4 ((kSch gS gk 4 gf gr j).2.1)) 0)) 4 (iter (kFour ((kSch gS gk 4 gf gr j).2.2) (4 + j)) 4 ((kSch gS gk 4 gf gr j).2.1))) 0 (((iter (kSub gS ((iter (kFour ((kSch gS gk 4 gf gr j).2.2) (4 + j)) 4 ((kSch gS gk 4 gf gr j).2.1)) 0)) 4 (iter (kFour ((kSch gS gk 4 gf gr j).2.2) (4 + j)) 4 ((kSch gS gk 4 gf gr j).2.1))) 0) ^^^ ((kSch gS gk 4 gf gr j).1))))))] H := hP
                        have hD : va_D A [(mo, .inr (7, mFs thr a1 a2 a3 (nI lt) (nI lb) (nI lz) ci a4 a5 a6 nu bk se op fa a7 a8 a9 a10 a11 (nI 10) kh kl sh sl a12 a13 a14 a15 a16 a17 a18 a19 a20)), (a4, .inl (cI, 32, .inl (nF gk))), (a7, .inl (cI, 256, .inl (nF gS))), (a8, .inl (cI, 240, .inl (nF (updN (iter (kMix (updN (iter (kSub gS ((iter (kFour ((kSch gS gk 4 gf gr j).2.2) (4 + j)) 4 ((kSch gS gk 4 gf gr j).2.1)) 0)) 4 (iter (kFour ((kSch gS gk 4 gf gr j).2.2) (4 + j)) 4 ((kSch gS gk 4 gf gr j).2.1))) 0 (((iter (kSub gS ((iter (kFour ((kSch gS gk 4 gf gr j).2.2) (4 + j)) 4 ((kSch gS gk 4 gf gr j).2.1)) 0)) 4 (iter (kFour ((kSch gS gk 4 gf gr j).2.2) (4 + j)) 4 ((kSch gS gk 4 gf gr j).2.1))) 0) ^^^ ((kSch gS gk 4 gf gr j).1))) (4 + j) 4) i ((kSch gS gk 4 gf gr j).2.2)) ((4 * (4 + j)) + i) (((iter (kMix (updN (iter (kSub gS ((iter (kFour ((kSch gS gk 4 gf gr j).2.2) (4 + j)) 4 ((kSch gS gk 4 gf gr j).2.1)) 0)) 4 (iter (kFour ((kSch gS gk 4 gf gr j).2.2) (4 + j)) 4 ((kSch gS gk 4 gf gr j).2.1))) 0 (((iter (kSub gS ((iter (kFour ((kSch gS gk 4 gf gr j).2.2) (4 + j)) 4 ((kSch gS gk 4 gf gr j).2.1)) 0)) 4 (iter (kFour ((kSch gS gk 4 gf gr j).2.2) (4 + j)) 4 ((kSch gS gk 4 gf gr j).2.1))) 0) ^^^ ((kSch gS gk 4 gf gr j).1))) (4 + j) 4) i ((kSch gS gk 4 gf gr j).2.2)) ((4 * ((4 + j) - 4)) + i)) ^^^ ((updN (iter (kSub gS ((iter (kFour ((kSch gS gk 4 gf gr j).2.2) (4 + j)) 4 ((kSch gS gk 4 gf gr j).2.1)) 0)) 4 (iter (kFour ((kSch gS gk 4 gf gr j).2.2) (4 + j)) 4 ((kSch gS gk 4 gf gr j).2.1))) 0 (((iter (kSub gS ((iter (kFour ((kSch gS gk 4 gf gr j).2.2) (4 + j)) 4 ((kSch gS gk 4 gf gr j).2.1)) 0)) 4 (iter (kFour ((kSch gS gk 4 gf gr j).2.2) (4 + j)) 4 ((kSch gS gk 4 gf gr j).2.1))) 0) ^^^ ((kSch gS gk 4 gf gr j).1))) i)))))), (a11, .inl (cI, 4, .inl (nF (updN (iter (kSub gS ((iter (kFour ((kSch gS gk 4 gf gr j).2.2) (4 + j)) 4 ((kSch gS gk 4 gf gr j).2.1)) 0)) 4 (iter (kFour ((kSch gS gk 4 gf gr j).2.2) (4 + j)) 4 ((kSch gS gk 4 gf gr j).2.1))) 0 (((iter (kSub gS ((iter (kFour ((kSch gS gk 4 gf gr j).2.2) (4 + j)) 4 ((kSch gS gk 4 gf gr j).2.1)) 0)) 4 (iter (kFour ((kSch gS gk 4 gf gr j).2.2) (4 + j)) 4 ((kSch gS gk 4 gf gr j).2.1))) 0) ^^^ ((kSch gS gk 4 gf gr j).1))))))] := hD
                        refine lv_iinc (v := nI (i + 1)) (lv' := [(4, .int (nI (i + 1))), (2, .int (nI (gmN ((kSch gS gk 4 gf gr j).1) 2))), (3, .int (nI (4 + j))), (0, .ref mo), (1, .int (nI 4))]) hx hb d_M_schedule_254 hl (k := 0) rfl (sb_inc (a := i) (b := i + 1) (d := 1) rfl (by decide) (by omega)) (by decide) rfl (fun ls hl => ?_)
                        refine lv_goto (tgt := 216) hx hb d_M_schedule_257 (by decide) ?_
                        rw [show nF (updN (iter (kMix (updN (iter (kSub gS ((iter (kFour ((kSch gS gk 4 gf gr j).2.2) (4 + j)) 4 ((kSch gS gk 4 gf gr j).2.1)) 0)) 4 (iter (kFour ((kSch gS gk 4 gf gr j).2.2) (4 + j)) 4 ((kSch gS gk 4 gf gr j).2.1))) 0 (((iter (kSub gS ((iter (kFour ((kSch gS gk 4 gf gr j).2.2) (4 + j)) 4 ((kSch gS gk 4 gf gr j).2.1)) 0)) 4 (iter (kFour ((kSch gS gk 4 gf gr j).2.2) (4 + j)) 4 ((kSch gS gk 4 gf gr j).2.1))) 0) ^^^ ((kSch gS gk 4 gf gr j).1))) (4 + j) 4) i ((kSch gS gk 4 gf gr j).2.2)) ((4 * (4 + j)) + i) (((iter (kMix (updN (iter (kSub gS ((iter (kFour ((kSch gS gk 4 gf gr j).2.2) (4 + j)) 4 ((kSch gS gk 4 gf gr j).2.1)) 0)) 4 (iter (kFour ((kSch gS gk 4 gf gr j).2.2) (4 + j)) 4 ((kSch gS gk 4 gf gr j).2.1))) 0 (((iter (kSub gS ((iter (kFour ((kSch gS gk 4 gf gr j).2.2) (4 + j)) 4 ((kSch gS gk 4 gf gr j).2.1)) 0)) 4 (iter (kFour ((kSch gS gk 4 gf gr j).2.2) (4 + j)) 4 ((kSch gS gk 4 gf gr j).2.1))) 0) ^^^ ((kSch gS gk 4 gf gr j).1))) (4 + j) 4) i ((kSch gS gk 4 gf gr j).2.2)) ((4 * ((4 + j) - 4)) + i)) ^^^ ((updN (iter (kSub gS ((iter (kFour ((kSch gS gk 4 gf gr j).2.2) (4 + j)) 4 ((kSch gS gk 4 gf gr j).2.1)) 0)) 4 (iter (kFour ((kSch gS gk 4 gf gr j).2.2) (4 + j)) 4 ((kSch gS gk 4 gf gr j).2.1))) 0 (((iter (kSub gS ((iter (kFour ((kSch gS gk 4 gf gr j).2.2) (4 + j)) 4 ((kSch gS gk 4 gf gr j).2.1)) 0)) 4 (iter (kFour ((kSch gS gk 4 gf gr j).2.2) (4 + j)) 4 ((kSch gS gk 4 gf gr j).2.1))) 0) ^^^ ((kSch gS gk 4 gf gr j).1))) i))) = nF (iter (kMix (updN (iter (kSub gS ((iter (kFour ((kSch gS gk 4 gf gr j).2.2) (4 + j)) 4 ((kSch gS gk 4 gf gr j).2.1)) 0)) 4 (iter (kFour ((kSch gS gk 4 gf gr j).2.2) (4 + j)) 4 ((kSch gS gk 4 gf gr j).2.1))) 0 (((iter (kSub gS ((iter (kFour ((kSch gS gk 4 gf gr j).2.2) (4 + j)) 4 ((kSch gS gk 4 gf gr j).2.1)) 0)) 4 (iter (kFour ((kSch gS gk 4 gf gr j).2.2) (4 + j)) 4 ((kSch gS gk 4 gf gr j).2.1))) 0) ^^^ ((kSch gS gk 4 gf gr j).1))) (4 + j) 4) (i + 1) ((kSch gS gk 4 gf gr j).2.2)) from rfl] at hP hD
                        exact ih6 (i + 1) (by omega) _ _ ls (hP.sub [0, 1, 2, 3, 4] rfl) (hD.sub [0, 1, 2, 3, 4] (by decide) rfl) hS (lv_sub hl [0, 1, 2, 3, 4] rfl)
                    exact lp6 4 0 (by omega) _ _ ls (hP.sub [0, 1, 2, 3, 4] rfl) (hD.sub [0, 1, 2, 3, 4] (by decide) rfl) hS (lv_sub hl [0, 1, 3, 4, 5] rfl)
                  | succ d5 ih5 =>
                    intro i hi5 H locs ls hP hD hS hl
                    have hC := kF1_B (q := (kSch gS gk 4 gf gr j)) ⟨hB1, hB2, hB3⟩ (4 + j)
                    have hC2 := kSub_B hgS (kF1 (4 + j) (kSch gS gk 4 gf gr j) 0) i _ hC
                    refine lv_iload hx hb d_M_schedule_103 (lv_at hl 0 rfl) ?_
                    refine lv_iconst (v := 4) hx hb d_M_schedule_105 (by decide) ?_
                    refine lv_icmp_ge (tgt := 147) hx hb d_M_schedule_106 (by decide) (fun c_16 => absurd c_16 (sb_geF (a := i) (b := 4) rfl rfl (by omega) (by omega) (by omega))) (fun c_16 => ?_)
                    refine lv_aload_n hx hb d_M_schedule_109 rfl (lv_at hl 4 rfl) ?_
                    refine va_get (D := D) (ci := 7) (v := .ref a11) (C := R_M) (T := F_M) (N := 35) hx hb hts in_M hown hG.1 hP 0 rfl rfl 20 (by decide) (hts _ k_717) (fun _ h9 => h9) rfl d_M_schedule_110 ?_
                    refine lv_iload hx hb d_M_schedule_113 (lv_at hl 0 rfl) ?_
                    refine lv_aload_n hx hb d_M_schedule_115 rfl (lv_at hl 4 rfl) ?_
                    refine va_get (D := D) (ci := 7) (v := .ref a7) (C := R_M) (T := F_M) (N := 35) hx hb hts in_M hown hG.1 hP 0 rfl rfl 16 (by decide) (hts _ k_713) (fun _ h9 => h9) rfl d_M_schedule_116 ?_
                    refine lv_iload hx hb d_M_schedule_119 (lv_at hl 0 rfl) ?_
                    refine lv_iconst (v := 3) hx hb d_M_schedule_121 (by decide) ?_
                    refine lv_icmp_ge (tgt := 137) hx hb d_M_schedule_122 (by decide) (fun c_17 => ?_) (fun c_17 => ?_)
                    · have c_17 := (sb_geI (a := i) (b := 3) rfl rfl (by omega) (by omega)).mp c_17
                      refine lv_iload hx hb d_M_schedule_137 (lv_at hl 1 rfl) ?_
                      refine sb_ild hx hb hG.1 hP 2 rfl ((iter (kFour ((kSch gS gk 4 gf gr j).2.2) (4 + j)) 4 ((kSch gS gk 4 gf gr j).2.1)) 0) rfl (hC 0) (by omega) d_M_schedule_139 ?_
                      refine sb_topn (gS ((iter (kFour ((kSch gS gk 4 gf gr j).2.2) (4 + j)) 4 ((kSch gS gk 4 gf gr j).2.1)) 0)) rfl ?_
                      refine sb_ist hx hb hG.1 hP hD hS 4 rfl i rfl (by omega) (by omega) d_M_schedule_140 (fun f_18 H locs ef_18 hP hD hS => ?_)
                      have hP : va_P D vwCl [(mo, .inr (7, mFs thr a1 a2 a3 (nI lt) (nI lb) (nI lz) ci a4 a5 a6 nu bk se op fa a7 a8 a9 a10 a11 (nI 10) kh kl sh sl a12 a13 a14 a15 a16 a17 a18 a19 a20)), (a4, .inl (cI, 32, .inl (nF gk))), (a7, .inl (cI, 256, .inl (nF gS))), (a8, .inl (cI, 240, .inl (nF ((kSch gS gk 4 gf gr j).2.2)))), (a11, .inl (cI, 4, .inl f_18))] H := hP
                      have hD : va_D A [(mo, .inr (7, mFs thr a1 a2 a3 (nI lt) (nI lb) (nI lz) ci a4 a5 a6 nu bk se op fa a7 a8 a9 a10 a11 (nI 10) kh kl sh sl a12 a13 a14 a15 a16 a17 a18 a19 a20)), (a4, .inl (cI, 32, .inl (nF gk))), (a7, .inl (cI, 256, .inl (nF gS))), (a8, .inl (cI, 240, .inl (nF ((kSch gS gk 4 gf gr j).2.2)))), (a11, .inl (cI, 4, .inl f_18))] := hD
                      obtain rfl : f_18 = nF (updN (iter (kSub gS ((iter (kFour ((kSch gS gk 4 gf gr j).2.2) (4 + j)) 4 ((kSch gS gk 4 gf gr j).2.1)) 0)) i (iter (kFour ((kSch gS gk 4 gf gr j).2.2) (4 + j)) 4 ((kSch gS gk 4 gf gr j).2.1))) i (gS ((iter (kFour ((kSch gS gk 4 gf gr j).2.2) (4 + j)) 4 ((kSch gS gk 4 gf gr j).2.1)) 0))) := ef_18.trans (nF_set _ _ _)
                      have hP : va_P D vwCl [(mo, .inr (7, mFs thr a1 a2 a3 (nI lt) (nI lb) (nI lz) ci a4 a5 a6 nu bk se op fa a7 a8 a9 a10 a11 (nI 10) kh kl sh sl a12 a13 a14 a15 a16 a17 a18 a19 a20)), (a4, .inl (cI, 32, .inl (nF gk))), (a7, .inl (cI, 256, .inl (nF gS))), (a8, .inl (cI, 240, .inl (nF ((kSch gS gk 4 gf gr j).2.2)))), (a11, .inl (cI, 4, .inl (nF (updN (iter (kSub gS ((iter (kFour ((kSch gS gk 4 gf gr j).2.2) (4 + j)) 4 ((kSch gS gk 4 gf gr j).2.1)) 0)) i (iter (kFour ((kSch gS gk 4 gf gr j).2.2) (4 + j)) 4 ((kSch gS gk 4 gf gr j).2.1))) i (gS ((iter (kFour ((kSch gS gk 4 gf gr j).2.2) (4 + j)) 4 ((kSch gS gk 4 gf gr j).2.1)) 0))))))] H := hP
                      have hD : va_D A [(mo, .inr (7, mFs thr a1 a2 a3 (nI lt) (nI lb) (nI lz) ci a4 a5 a6 nu bk se op fa a7 a8 a9 a10 a11 (nI 10) kh kl sh sl a12 a13 a14 a15 a16 a17 a18 a19 a20)), (a4, .inl (cI, 32, .inl (nF gk))), (a7, .inl (cI, 256, .inl (nF gS))), (a8, .inl (cI, 240, .inl (nF ((kSch gS gk 4 gf gr j).2.2)))), (a11, .inl (cI, 4, .inl (nF (updN (iter (kSub gS ((iter (kFour ((kSch gS gk 4 gf gr j).2.2) (4 + j)) 4 ((kSch gS gk 4 gf gr j).2.1)) 0)) i (iter (kFour ((kSch gS gk 4 gf gr j).2.2) (4 + j)) 4 ((kSch gS gk 4 gf gr j).2.1))) i (gS ((iter (kFour ((kSch gS gk 4 gf gr j).2.2) (4 + j)) 4 ((kSch gS gk 4 gf gr j).2.1)) 0))))))] := hD
                      refine lv_iinc (v := nI (i + 1)) (lv' := [(5, .int (nI (i + 1))), (4, .int (nI ((iter (kFour ((kSch gS gk 4 gf gr j).2.2) (4 + j)) 4 ((kSch gS gk 4 gf gr j).2.1)) 0))), (2, .int (nI ((kSch gS gk 4 gf gr j).1))), (3, .int (nI (4 + j))), (0, .ref mo), (1, .int (nI 4))]) hx hb d_M_schedule_141 hl (k := 0) rfl (sb_inc (a := i) (b := i + 1) (d := 1) rfl (by decide) (by omega)) (by decide) rfl (fun ls hl => ?_)
                      refine lv_goto (tgt := 103) hx hb d_M_schedule_144 (by decide) ?_
                      rw [show nF (updN (iter (kSub gS ((iter (kFour ((kSch gS gk 4 gf gr j).2.2) (4 + j)) 4 ((kSch gS gk 4 gf gr j).2.1)) 0)) i (iter (kFour ((kSch gS gk 4 gf gr j).2.2) (4 + j)) 4 ((kSch gS gk 4 gf gr j).2.1))) i (gS ((iter (kFour ((kSch gS gk 4 gf gr j).2.2) (4 + j)) 4 ((kSch gS gk 4 gf gr j).2.1)) 0))) = nF (iter (kSub gS ((iter (kFour ((kSch gS gk 4 gf gr j).2.2) (4 + j)) 4 ((kSch gS gk 4 gf gr j).2.1)) 0)) (i + 1) (iter (kFour ((kSch gS gk 4 gf gr j).2.2) (4 + j)) 4 ((kSch gS gk 4 gf gr j).2.1))) from (congrArg nF (Eq.trans (by simp only [kSub, if_pos c_17]) (iter_s _ _ _).symm))] at hP hD
                      exact ih5 (i + 1) (by omega) _ _ ls (hP.sub [0, 1, 2, 3, 4] rfl) (hD.sub [0, 1, 2, 3, 4] (by decide) rfl) hS (lv_sub hl [0, 1, 2, 3, 4, 5] rfl)
                    · have c_17 := mt (sb_geI (a := i) (b := 3) rfl rfl (by omega) (by omega)).mpr c_17
                      refine lv_aload_n hx hb d_M_schedule_125 rfl (lv_at hl 4 rfl) ?_
                      refine va_get (D := D) (ci := 7) (v := .ref a11) (C := R_M) (T := F_M) (N := 35) hx hb hts in_M hown hG.1 hP 0 rfl rfl 20 (by decide) (hts _ k_717) (fun _ h9 => h9) rfl d_M_schedule_126 ?_
                      refine lv_iload hx hb d_M_schedule_129 (lv_at hl 0 rfl) ?_
                      refine lv_iconst (v := 1) hx hb d_M_schedule_131 (by decide) ?_
                      refine lv_iadd hx hb d_M_schedule_132 ?_
                      refine sb_topn (i + 1) (nI_add i 1) ?_
                      refine sb_ild hx hb hG.1 hP 4 rfl (i + 1) rfl (by omega) (by omega) d_M_schedule_133 ?_
                      refine lv_goto (tgt := 139) hx hb d_M_schedule_134 (by decide) ?_
                      refine sb_ild hx hb hG.1 hP 2 rfl ((iter (kSub gS ((iter (kFour ((kSch gS gk 4 gf gr j).2.2) (4 + j)) 4 ((kSch gS gk 4 gf gr j).2.1)) 0)) i (iter (kFour ((kSch gS gk 4 gf gr j).2.2) (4 + j)) 4 ((kSch gS gk 4 gf gr j).2.1))) (i + 1)) rfl (hC2 _) (by omega) d_M_schedule_139 ?_
                      refine sb_topn (gS ((iter (kSub gS ((iter (kFour ((kSch gS gk 4 gf gr j).2.2) (4 + j)) 4 ((kSch gS gk 4 gf gr j).2.1)) 0)) i (iter (kFour ((kSch gS gk 4 gf gr j).2.2) (4 + j)) 4 ((kSch gS gk 4 gf gr j).2.1))) (i + 1))) rfl ?_
                      refine sb_ist hx hb hG.1 hP hD hS 4 rfl i rfl (by omega) (by omega) d_M_schedule_140 (fun f_19 H locs ef_19 hP hD hS => ?_)
                      have hP : va_P D vwCl [(mo, .inr (7, mFs thr a1 a2 a3 (nI lt) (nI lb) (nI lz) ci a4 a5 a6 nu bk se op fa a7 a8 a9 a10 a11 (nI 10) kh kl sh sl a12 a13 a14 a15 a16 a17 a18 a19 a20)), (a4, .inl (cI, 32, .inl (nF gk))), (a7, .inl (cI, 256, .inl (nF gS))), (a8, .inl (cI, 240, .inl (nF ((kSch gS gk 4 gf gr j).2.2)))), (a11, .inl (cI, 4, .inl f_19))] H := hP
                      have hD : va_D A [(mo, .inr (7, mFs thr a1 a2 a3 (nI lt) (nI lb) (nI lz) ci a4 a5 a6 nu bk se op fa a7 a8 a9 a10 a11 (nI 10) kh kl sh sl a12 a13 a14 a15 a16 a17 a18 a19 a20)), (a4, .inl (cI, 32, .inl (nF gk))), (a7, .inl (cI, 256, .inl (nF gS))), (a8, .inl (cI, 240, .inl (nF ((kSch gS gk 4 gf gr j).2.2)))), (a11, .inl (cI, 4, .inl f_19))] := hD
                      obtain rfl : f_19 = nF (updN (iter (kSub gS ((iter (kFour ((kSch gS gk 4 gf gr j).2.2) (4 + j)) 4 ((kSch gS gk 4 gf gr j).2.1)) 0)) i (iter (kFour ((kSch gS gk 4 gf gr j).2.2) (4 + j)) 4 ((kSch gS gk 4 gf gr j).2.1))) i (gS ((iter (kSub gS ((iter (kFour ((kSch gS gk 4 gf gr j).2.2) (4 + j)) 4 ((kSch gS gk 4 gf gr j).2.1)) 0)) i (iter (kFour ((kSch gS gk 4 gf gr j).2.2) (4 + j)) 4 ((kSch gS gk 4 gf gr j).2.1))) (i + 1)))) := ef_19.trans (nF_set _ _ _)
                      have hP : va_P D vwCl [(mo, .inr (7, mFs thr a1 a2 a3 (nI lt) (nI lb) (nI lz) ci a4 a5 a6 nu bk se op fa a7 a8 a9 a10 a11 (nI 10) kh kl sh sl a12 a13 a14 a15 a16 a17 a18 a19 a20)), (a4, .inl (cI, 32, .inl (nF gk))), (a7, .inl (cI, 256, .inl (nF gS))), (a8, .inl (cI, 240, .inl (nF ((kSch gS gk 4 gf gr j).2.2)))), (a11, .inl (cI, 4, .inl (nF (updN (iter (kSub gS ((iter (kFour ((kSch gS gk 4 gf gr j).2.2) (4 + j)) 4 ((kSch gS gk 4 gf gr j).2.1)) 0)) i (iter (kFour ((kSch gS gk 4 gf gr j).2.2) (4 + j)) 4 ((kSch gS gk 4 gf gr j).2.1))) i (gS ((iter (kSub gS ((iter (kFour ((kSch gS gk 4 gf gr j).2.2) (4 + j)) 4 ((kSch gS gk 4 gf gr j).2.1)) 0)) i (iter (kFour ((kSch gS gk 4 gf gr j).2.2) (4 + j)) 4 ((kSch gS gk 4 gf gr j).2.1))) (i + 1)))))))] H := hP
                      have hD : va_D A [(mo, .inr (7, mFs thr a1 a2 a3 (nI lt) (nI lb) (nI lz) ci a4 a5 a6 nu bk se op fa a7 a8 a9 a10 a11 (nI 10) kh kl sh sl a12 a13 a14 a15 a16 a17 a18 a19 a20)), (a4, .inl (cI, 32, .inl (nF gk))), (a7, .inl (cI, 256, .inl (nF gS))), (a8, .inl (cI, 240, .inl (nF ((kSch gS gk 4 gf gr j).2.2)))), (a11, .inl (cI, 4, .inl (nF (updN (iter (kSub gS ((iter (kFour ((kSch gS gk 4 gf gr j).2.2) (4 + j)) 4 ((kSch gS gk 4 gf gr j).2.1)) 0)) i (iter (kFour ((kSch gS gk 4 gf gr j).2.2) (4 + j)) 4 ((kSch gS gk 4 gf gr j).2.1))) i (gS ((iter (kSub gS ((iter (kFour ((kSch gS gk 4 gf gr j).2.2) (4 + j)) 4 ((kSch gS gk 4 gf gr j).2.1)) 0)) i (iter (kFour ((kSch gS gk 4 gf gr j).2.2) (4 + j)) 4 ((kSch gS gk 4 gf gr j).2.1))) (i + 1)))))))] := hD
                      refine lv_iinc (v := nI (i + 1)) (lv' := [(5, .int (nI (i + 1))), (4, .int (nI ((iter (kFour ((kSch gS gk 4 gf gr j).2.2) (4 + j)) 4 ((kSch gS gk 4 gf gr j).2.1)) 0))), (2, .int (nI ((kSch gS gk 4 gf gr j).1))), (3, .int (nI (4 + j))), (0, .ref mo), (1, .int (nI 4))]) hx hb d_M_schedule_141 hl (k := 0) rfl (sb_inc (a := i) (b := i + 1) (d := 1) rfl (by decide) (by omega)) (by decide) rfl (fun ls hl => ?_)
                      refine lv_goto (tgt := 103) hx hb d_M_schedule_144 (by decide) ?_
                      rw [show nF (updN (iter (kSub gS ((iter (kFour ((kSch gS gk 4 gf gr j).2.2) (4 + j)) 4 ((kSch gS gk 4 gf gr j).2.1)) 0)) i (iter (kFour ((kSch gS gk 4 gf gr j).2.2) (4 + j)) 4 ((kSch gS gk 4 gf gr j).2.1))) i (gS ((iter (kSub gS ((iter (kFour ((kSch gS gk 4 gf gr j).2.2) (4 + j)) 4 ((kSch gS gk 4 gf gr j).2.1)) 0)) i (iter (kFour ((kSch gS gk 4 gf gr j).2.2) (4 + j)) 4 ((kSch gS gk 4 gf gr j).2.1))) (i + 1)))) = nF (iter (kSub gS ((iter (kFour ((kSch gS gk 4 gf gr j).2.2) (4 + j)) 4 ((kSch gS gk 4 gf gr j).2.1)) 0)) (i + 1) (iter (kFour ((kSch gS gk 4 gf gr j).2.2) (4 + j)) 4 ((kSch gS gk 4 gf gr j).2.1))) from (congrArg nF (Eq.trans (by simp only [kSub, if_neg c_17]) (iter_s _ _ _).symm))] at hP hD
                      exact ih5 (i + 1) (by omega) _ _ ls (hP.sub [0, 1, 2, 3, 4] rfl) (hD.sub [0, 1, 2, 3, 4] (by decide) rfl) hS (lv_sub hl [0, 1, 2, 3, 4, 5] rfl)
                exact lp5 4 0 (by omega) _ _ ls (hP.sub [0, 1, 2, 3, 4] rfl) (hD.sub [0, 1, 2, 3, 4] (by decide) rfl) hS (lv_sub hl [0, 1, 2, 3, 4, 5] rfl)
            | succ d3 ih3 =>
              intro i hi3 H locs ls hP hD hS hl
              refine lv_iload hx hb d_M_schedule_54 (lv_at hl 0 rfl) ?_
              refine lv_iconst (v := 4) hx hb d_M_schedule_56 (by decide) ?_
              refine lv_icmp_ge (tgt := 86) hx hb d_M_schedule_57 (by decide) (fun c_20 => absurd c_20 (sb_geF (a := i) (b := 4) rfl rfl (by omega) (by omega) (by omega))) (fun c_20 => ?_)
              refine lv_aload_n hx hb d_M_schedule_60 rfl (lv_at hl 3 rfl) ?_
              refine va_get (D := D) (ci := 7) (v := .ref a11) (C := R_M) (T := F_M) (N := 35) hx hb hts in_M hown hG.1 hP 0 rfl rfl 20 (by decide) (hts _ k_717) (fun _ h9 => h9) rfl d_M_schedule_61 ?_
              refine lv_iload hx hb d_M_schedule_64 (lv_at hl 0 rfl) ?_
              refine lv_aload_n hx hb d_M_schedule_66 rfl (lv_at hl 3 rfl) ?_
              refine va_get (D := D) (ci := 7) (v := .ref a8) (C := R_M) (T := F_M) (N := 35) hx hb hts in_M hown hG.1 hP 0 rfl rfl 17 (by decide) (hts _ k_714) (fun _ h9 => h9) rfl d_M_schedule_67 ?_
              refine lv_iconst (v := 4) hx hb d_M_schedule_70 (by decide) ?_
              refine lv_iload_n hx hb d_M_schedule_71 rfl (lv_at hl 2 rfl) ?_
              refine lv_imul hx hb d_M_schedule_72 ?_
              refine sb_topn (4 * (4 + j)) (sb_mul (a := 4) (b := 4 + j) rfl rfl) ?_
              refine lv_iconst (v := 4) hx hb d_M_schedule_73 (by decide) ?_
              refine lv_isub hx hb d_M_schedule_74 ?_
              refine sb_topn ((4 * (4 + j)) - 4) (sb_sub (a := 4 * (4 + j)) (b := 4) (by omega) rfl rfl) ?_
              refine lv_iload hx hb d_M_schedule_75 (lv_at hl 0 rfl) ?_
              refine lv_iadd hx hb d_M_schedule_77 ?_
              refine sb_topn (((4 * (4 + j)) - 4) + i) (nI_add ((4 * (4 + j)) - 4) i) ?_
              refine sb_ild hx hb hG.1 hP 3 rfl (((4 * (4 + j)) - 4) + i) rfl (by omega) (by omega) d_M_schedule_78 ?_
              refine sb_topn (((kSch gS gk 4 gf gr j).2.2) (((4 * (4 + j)) - 4) + i)) rfl ?_
              refine sb_ist hx hb hG.1 hP hD hS 4 rfl i rfl (by omega) (by omega) d_M_schedule_79 (fun f_21 H locs ef_21 hP hD hS => ?_)
              have hP : va_P D vwCl [(mo, .inr (7, mFs thr a1 a2 a3 (nI lt) (nI lb) (nI lz) ci a4 a5 a6 nu bk se op fa a7 a8 a9 a10 a11 (nI 10) kh kl sh sl a12 a13 a14 a15 a16 a17 a18 a19 a20)), (a4, .inl (cI, 32, .inl (nF gk))), (a7, .inl (cI, 256, .inl (nF gS))), (a8, .inl (cI, 240, .inl (nF ((kSch gS gk 4 gf gr j).2.2)))), (a11, .inl (cI, 4, .inl f_21))] H := hP
              have hD : va_D A [(mo, .inr (7, mFs thr a1 a2 a3 (nI lt) (nI lb) (nI lz) ci a4 a5 a6 nu bk se op fa a7 a8 a9 a10 a11 (nI 10) kh kl sh sl a12 a13 a14 a15 a16 a17 a18 a19 a20)), (a4, .inl (cI, 32, .inl (nF gk))), (a7, .inl (cI, 256, .inl (nF gS))), (a8, .inl (cI, 240, .inl (nF ((kSch gS gk 4 gf gr j).2.2)))), (a11, .inl (cI, 4, .inl f_21))] := hD
              obtain rfl : f_21 = nF (updN (iter (kFour ((kSch gS gk 4 gf gr j).2.2) (4 + j)) i ((kSch gS gk 4 gf gr j).2.1)) i (((kSch gS gk 4 gf gr j).2.2) (((4 * (4 + j)) - 4) + i))) := ef_21.trans (nF_set _ _ _)
              have hP : va_P D vwCl [(mo, .inr (7, mFs thr a1 a2 a3 (nI lt) (nI lb) (nI lz) ci a4 a5 a6 nu bk se op fa a7 a8 a9 a10 a11 (nI 10) kh kl sh sl a12 a13 a14 a15 a16 a17 a18 a19 a20)), (a4, .inl (cI, 32, .inl (nF gk))), (a7, .inl (cI, 256, .inl (nF gS))), (a8, .inl (cI, 240, .inl (nF ((kSch gS gk 4 gf gr j).2.2)))), (a11, .inl (cI, 4, .inl (nF (updN (iter (kFour ((kSch gS gk 4 gf gr j).2.2) (4 + j)) i ((kSch gS gk 4 gf gr j).2.1)) i (((kSch gS gk 4 gf gr j).2.2) (((4 * (4 + j)) - 4) + i))))))] H := hP
              have hD : va_D A [(mo, .inr (7, mFs thr a1 a2 a3 (nI lt) (nI lb) (nI lz) ci a4 a5 a6 nu bk se op fa a7 a8 a9 a10 a11 (nI 10) kh kl sh sl a12 a13 a14 a15 a16 a17 a18 a19 a20)), (a4, .inl (cI, 32, .inl (nF gk))), (a7, .inl (cI, 256, .inl (nF gS))), (a8, .inl (cI, 240, .inl (nF ((kSch gS gk 4 gf gr j).2.2)))), (a11, .inl (cI, 4, .inl (nF (updN (iter (kFour ((kSch gS gk 4 gf gr j).2.2) (4 + j)) i ((kSch gS gk 4 gf gr j).2.1)) i (((kSch gS gk 4 gf gr j).2.2) (((4 * (4 + j)) - 4) + i))))))] := hD
              refine lv_iinc (v := nI (i + 1)) (lv' := [(4, .int (nI (i + 1))), (2, .int (nI ((kSch gS gk 4 gf gr j).1))), (3, .int (nI (4 + j))), (0, .ref mo), (1, .int (nI 4))]) hx hb d_M_schedule_80 hl (k := 0) rfl (sb_inc (a := i) (b := i + 1) (d := 1) rfl (by decide) (by omega)) (by decide) rfl (fun ls hl => ?_)
              refine lv_goto (tgt := 54) hx hb d_M_schedule_83 (by decide) ?_
              rw [show nF (updN (iter (kFour ((kSch gS gk 4 gf gr j).2.2) (4 + j)) i ((kSch gS gk 4 gf gr j).2.1)) i (((kSch gS gk 4 gf gr j).2.2) (((4 * (4 + j)) - 4) + i))) = nF (iter (kFour ((kSch gS gk 4 gf gr j).2.2) (4 + j)) (i + 1) ((kSch gS gk 4 gf gr j).2.1)) from rfl] at hP hD
              exact ih3 (i + 1) (by omega) _ _ ls (hP.sub [0, 1, 2, 3, 4] rfl) (hD.sub [0, 1, 2, 3, 4] (by decide) rfl) hS (lv_sub hl [0, 1, 2, 3, 4] rfl)
          exact lp3 4 0 (by omega) _ _ ls (hP.sub [0, 1, 2, 3, 4] rfl) (hD.sub [0, 1, 2, 3, 4] (by decide) rfl) hS (lv_sub hl [0, 1, 2, 3, 4] rfl)
      exact lp2 40 0 (by omega) _ _ ls (hP.sub [0, 1, 2, 3, 4] rfl) (hD.sub [0, 1, 2, 3, 4] (by decide) rfl) hS (lv_sub hl [1, 0, 2, 3] rfl)
    | succ d1 ih1 =>
      intro i hi1 H locs ls hP hD hS hl
      refine lv_iload_n hx hb d_M_schedule_10 rfl (lv_at hl 0 rfl) ?_
      refine lv_iconst (v := 4) hx hb d_M_schedule_11 (by decide) ?_
      refine lv_iload_n hx hb d_M_schedule_12 rfl (lv_at hl 2 rfl) ?_
      refine lv_imul hx hb d_M_schedule_13 ?_
      refine sb_topn 16 (sb_eqn (a := 4 * 4) (b := 16) (sb_mul (a := 4) (b := 4) rfl rfl) (by omega)) ?_
      refine lv_icmp_ge (tgt := 35) hx hb d_M_schedule_14 (by decide) (fun c_22 => absurd c_22 (sb_geF (a := i) (b := 16) rfl rfl (by omega) (by omega) (by omega))) (fun c_22 => ?_)
      refine lv_aload_n hx hb d_M_schedule_17 rfl (lv_at hl 1 rfl) ?_
      refine va_get (D := D) (ci := 7) (v := .ref a8) (C := R_M) (T := F_M) (N := 35) hx hb hts in_M hown hG.1 hP 0 rfl rfl 17 (by decide) (hts _ k_714) (fun _ h9 => h9) rfl d_M_schedule_18 ?_
      refine lv_iload_n hx hb d_M_schedule_21 rfl (lv_at hl 0 rfl) ?_
      refine lv_aload_n hx hb d_M_schedule_22 rfl (lv_at hl 1 rfl) ?_
      refine va_get (D := D) (ci := 7) (v := .ref a4) (C := R_M) (T := F_M) (N := 35) hx hb hts in_M hown hG.1 hP 0 rfl rfl 8 (by decide) (hts _ k_705) (fun _ h9 => h9) rfl d_M_schedule_23 ?_
      refine lv_iload_n hx hb d_M_schedule_26 rfl (lv_at hl 0 rfl) ?_
      refine sb_ild hx hb hG.1 hP 1 rfl i rfl (by omega) (by omega) d_M_schedule_27 ?_
      refine sb_topn (gk i) rfl ?_
      refine sb_ist hx hb hG.1 hP hD hS 3 rfl i rfl (by omega) (by omega) d_M_schedule_28 (fun f_23 H locs ef_23 hP hD hS => ?_)
      have hP : va_P D vwCl [(mo, .inr (7, mFs thr a1 a2 a3 (nI lt) (nI lb) (nI lz) ci a4 a5 a6 nu bk se op fa a7 a8 a9 a10 a11 (nI 10) kh kl sh sl a12 a13 a14 a15 a16 a17 a18 a19 a20)), (a4, .inl (cI, 32, .inl (nF gk))), (a7, .inl (cI, 256, .inl (nF gS))), (a8, .inl (cI, 240, .inl f_23)), (a11, .inl (cI, 4, .inl (nF gf)))] H := hP
      have hD : va_D A [(mo, .inr (7, mFs thr a1 a2 a3 (nI lt) (nI lb) (nI lz) ci a4 a5 a6 nu bk se op fa a7 a8 a9 a10 a11 (nI 10) kh kl sh sl a12 a13 a14 a15 a16 a17 a18 a19 a20)), (a4, .inl (cI, 32, .inl (nF gk))), (a7, .inl (cI, 256, .inl (nF gS))), (a8, .inl (cI, 240, .inl f_23)), (a11, .inl (cI, 4, .inl (nF gf)))] := hD
      obtain rfl : f_23 = nF (updN (iter (nCpy gk) i gr) i (gk i)) := ef_23.trans (nF_set _ _ _)
      have hP : va_P D vwCl [(mo, .inr (7, mFs thr a1 a2 a3 (nI lt) (nI lb) (nI lz) ci a4 a5 a6 nu bk se op fa a7 a8 a9 a10 a11 (nI 10) kh kl sh sl a12 a13 a14 a15 a16 a17 a18 a19 a20)), (a4, .inl (cI, 32, .inl (nF gk))), (a7, .inl (cI, 256, .inl (nF gS))), (a8, .inl (cI, 240, .inl (nF (updN (iter (nCpy gk) i gr) i (gk i))))), (a11, .inl (cI, 4, .inl (nF gf)))] H := hP
      have hD : va_D A [(mo, .inr (7, mFs thr a1 a2 a3 (nI lt) (nI lb) (nI lz) ci a4 a5 a6 nu bk se op fa a7 a8 a9 a10 a11 (nI 10) kh kl sh sl a12 a13 a14 a15 a16 a17 a18 a19 a20)), (a4, .inl (cI, 32, .inl (nF gk))), (a7, .inl (cI, 256, .inl (nF gS))), (a8, .inl (cI, 240, .inl (nF (updN (iter (nCpy gk) i gr) i (gk i))))), (a11, .inl (cI, 4, .inl (nF gf)))] := hD
      refine lv_iinc (v := nI (i + 1)) (lv' := [(2, .int (nI (i + 1))), (0, .ref mo), (1, .int (nI 4))]) hx hb d_M_schedule_29 hl (k := 0) rfl (sb_inc (a := i) (b := i + 1) (d := 1) rfl (by decide) (by omega)) (by decide) rfl (fun ls hl => ?_)
      refine lv_goto (tgt := 10) hx hb d_M_schedule_32 (by decide) ?_
      rw [show nF (updN (iter (nCpy gk) i gr) i (gk i)) = nF (iter (nCpy gk) (i + 1) gr) from rfl] at hP hD
      exact ih1 (i + 1) (by omega) _ _ ls (hP.sub [0, 1, 2, 3, 4] rfl) (hD.sub [0, 1, 2, 3, 4] (by decide) rfl) hS (lv_sub hl [0, 1, 2] rfl)
  exact lp1 16 0 (by omega) _ _ ls (hP.sub [0, 1, 2, 3, 4] rfl) (hD.sub [0, 1, 2, 3, 4] (by decide) rfl) hS (lv_sub hl [0, 1, 2] rfl)

def rm_M_schedule8 : Room := { frames := 1, cells := 0, slots := 0, locals := 24 }
set_option maxHeartbeats 4000000 in
set_option maxRecDepth 100000 in
theorem c_M_schedule8 (l : Launch) (D : va_G) (cI cL cB : ClassId) (tS tF : Nat) (mo : Nat) (a1 : Nat) (a2 : Nat) (a3 : Nat) (a4 : Nat) (a5 : Nat) (a6 : Nat) (a7 : Nat) (a8 : Nat) (a9 : Nat) (a10 : Nat) (a11 : Nat) (a12 : Nat) (a13 : Nat) (a14 : Nat) (a15 : Nat) (a16 : Nat) (a17 : Nat) (a18 : Nat) (a19 : Nat) (a20 : Nat) (thr : Int32) (ci : Int32) (bk : Int32) (se : Int32) (op : Int32) (fa : Int32) (lt : Nat) (lb : Nat) (lz : Nat) (rn : Nat) (nu : Int64) (kh : Int64) (kl : Int64) (sh : Int64) (sl : Int64) (gk : Nat → Nat) (gS : Nat → Nat) (gr : Nat → Nat) (gf : Nat → Nat) (sz : Nat) (hgk : By gk) (hgS : By gS) (hgr : By gr) (hgf : By gf) : Met l y_M_schedule (sbw y_M_schedule b_M_schedule 6 none) rm_M_schedule8 (sbPc D cI cL cB tS tF [.ref mo, .int (nI 8)] sz [(mo, .inr (7, mFs thr a1 a2 a3 (nI lt) (nI lb) (nI lz) ci a4 a5 a6 nu bk se op fa a7 a8 a9 a10 a11 (nI rn) kh kl sh sl a12 a13 a14 a15 a16 a17 a18 a19 a20)), (a4, .inl (cI, 32, .inl (nF gk))), (a7, .inl (cI, 256, .inl (nF gS))), (a8, .inl (cI, 240, .inl (nF gr))), (a11, .inl (cI, 4, .inl (nF gf)))]) (sbQv D (fun (_ : Unit) => True) (fun (_ : Unit) => [(mo, .inr (7, mFs thr a1 a2 a3 (nI lt) (nI lb) (nI lz) ci a4 a5 a6 nu bk se op fa a7 a8 a9 a10 a11 (nI 14) kh kl sh sl a12 a13 a14 a15 a16 a17 a18 a19 a20)), (a4, .inl (cI, 32, .inl (nF gk))), (a7, .inl (cI, 256, .inl (nF gS))), (a8, .inl (cI, 240, .inl (nF ((kSch gS gk 8 gf gr 52).2.2)))), (a11, .inl (cI, 4, .inl (nF ((kSch gS gk 8 gf gr 52).2.1))))]) (va_A [(mo, .inr (7, mFs thr a1 a2 a3 (nI lt) (nI lb) (nI lz) ci a4 a5 a6 nu bk se op fa a7 a8 a9 a10 a11 (nI rn) kh kl sh sl a12 a13 a14 a15 a16 a17 a18 a19 a20)), (a4, .inl (cI, 32, .inl (nF gk))), (a7, .inl (cI, 256, .inl (nF gS))), (a8, .inl (cI, 240, .inl (nF gr))), (a11, .inl (cI, 4, .inl (nF gf)))] sz)) 0 0 (va_A [(mo, .inr (7, mFs thr a1 a2 a3 (nI lt) (nI lb) (nI lz) ci a4 a5 a6 nu bk se op fa a7 a8 a9 a10 a11 (nI rn) kh kl sh sl a12 a13 a14 a15 a16 a17 a18 a19 a20)), (a4, .inl (cI, 32, .inl (nF gk))), (a7, .inl (cI, 256, .inl (nF gS))), (a8, .inl (cI, 240, .inl (nF gr))), (a11, .inl (cI, 4, .inl (nF gf)))] sz) := by
  refine sb_ofW (y := y_M_schedule) (maxL := 6) (av := [.ref mo, .int (nI 8)]) (Qc := fun A => (sbQv D (fun (_ : Unit) => True) (fun (_ : Unit) => [(mo, .inr (7, mFs thr a1 a2 a3 (nI lt) (nI lb) (nI lz) ci a4 a5 a6 nu bk se op fa a7 a8 a9 a10 a11 (nI 14) kh kl sh sl a12 a13 a14 a15 a16 a17 a18 a19 a20)), (a4, .inl (cI, 32, .inl (nF gk))), (a7, .inl (cI, 256, .inl (nF gS))), (a8, .inl (cI, 240, .inl (nF ((kSch gS gk 8 gf gr 52).2.2)))), (a11, .inl (cI, 4, .inl (nF ((kSch gS gk 8 gf gr 52).2.1))))]) A)) (by decide) (Nat.le_of_ble_eq_true rfl) ?_
  intro p e s m args below meth c A ls hx hb hr hml hts hown hlocks hin hsz hP hG hD hA hS hl
  have hl : lv_has ls 6 [(0, .ref mo), (1, .int (nI 8))] := hl
  refine lv_aload_n hx hb d_M_schedule_0 rfl (lv_at hl 0 rfl) ?_
  refine lv_iload_n hx hb d_M_schedule_1 rfl (lv_at hl 1 rfl) ?_
  refine lv_bipush (v := 6) hx hb d_M_schedule_2 (by decide) ?_
  refine lv_iadd hx hb d_M_schedule_4 ?_
  refine sb_topn 14 (sb_eqn (a := 8 + 6) (b := 14) (nI_add 8 6) (by omega)) ?_
  refine va_put (D := D) (ci := 7) (v := .int (nI 14)) (ty := .int) (C := R_M) (T := F_M) (N := 35) hx hb hts in_M tq_M tq_M_ok nq_M hown hG.1 hP hD hS 0 rfl rfl 21 (by decide) (hts _ k_718) (fun _ h9 => h9) rfl (by decide +kernel) rfl rfl (Nat.le_of_ble_eq_true rfl) d_M_schedule_5 (fun H locs hP hD hS => ?_)
  have hP : va_P D vwCl [(mo, .inr (7, mFs thr a1 a2 a3 (nI lt) (nI lb) (nI lz) ci a4 a5 a6 nu bk se op fa a7 a8 a9 a10 a11 (nI 14) kh kl sh sl a12 a13 a14 a15 a16 a17 a18 a19 a20)), (a4, .inl (cI, 32, .inl (nF gk))), (a7, .inl (cI, 256, .inl (nF gS))), (a8, .inl (cI, 240, .inl (nF gr))), (a11, .inl (cI, 4, .inl (nF gf)))] H := hP
  have hD : va_D A [(mo, .inr (7, mFs thr a1 a2 a3 (nI lt) (nI lb) (nI lz) ci a4 a5 a6 nu bk se op fa a7 a8 a9 a10 a11 (nI 14) kh kl sh sl a12 a13 a14 a15 a16 a17 a18 a19 a20)), (a4, .inl (cI, 32, .inl (nF gk))), (a7, .inl (cI, 256, .inl (nF gS))), (a8, .inl (cI, 240, .inl (nF gr))), (a11, .inl (cI, 4, .inl (nF gf)))] := hD
  refine lv_iconst (v := 0) hx hb d_M_schedule_8 (by decide) ?_
  refine lv_istore_n (lv' := [(2, .int 0), (0, .ref mo), (1, .int (nI 8))]) hx hb d_M_schedule_9 rfl hl (by decide) rfl (fun ls hl => ?_)
  have lp1 : ∀ (d1 i : Nat), i + d1 = 32 → ∀ (H : Heap) (locs : List Loc) (ls : Array Slot), va_P D vwCl [(mo, .inr (7, mFs thr a1 a2 a3 (nI lt) (nI lb) (nI lz) ci a4 a5 a6 nu bk se op fa a7 a8 a9 a10 a11 (nI 14) kh kl sh sl a12 a13 a14 a15 a16 a17 a18 a19 a20)), (a4, .inl (cI, 32, .inl (nF gk))), (a7, .inl (cI, 256, .inl (nF gS))), (a8, .inl (cI, 240, .inl (nF (iter (nCpy gk) i gr)))), (a11, .inl (cI, 4, .inl (nF gf)))] H → va_D A [(mo, .inr (7, mFs thr a1 a2 a3 (nI lt) (nI lb) (nI lz) ci a4 a5 a6 nu bk se op fa a7 a8 a9 a10 a11 (nI 14) kh kl sh sl a12 a13 a14 a15 a16 a17 a18 a19 a20)), (a4, .inl (cI, 32, .inl (nF gk))), (a7, .inl (cI, 256, .inl (nF gS))), (a8, .inl (cI, 240, .inl (nF (iter (nCpy gk) i gr)))), (a11, .inl (cI, 4, .inl (nF gf)))] → va_S A s.heap H locs → lv_has ls 6 [(2, .int (nI i)), (0, .ref mo), (1, .int (nI 8))] → W p l e rm_M_schedule8 s m args below meth c H locs 0 0 (MQ below (sbQv D (fun (_ : Unit) => True) (fun (_ : Unit) => [(mo, .inr (7, mFs thr a1 a2 a3 (nI lt) (nI lb) (nI lz) ci a4 a5 a6 nu bk se op fa a7 a8 a9 a10 a11 (nI 14) kh kl sh sl a12 a13 a14 a15 a16 a17 a18 a19 a20)), (a4, .inl (cI, 32, .inl (nF gk))), (a7, .inl (cI, 256, .inl (nF gS))), (a8, .inl (cI, 240, .inl (nF ((kSch gS gk 8 gf gr 52).2.2)))), (a11, .inl (cI, 4, .inl (nF ((kSch gS gk 8 gf gr 52).2.1))))]) A) args s 0 0 A) (F0 m 10 ls []) := by
    intro d1
    induction d1 with
    | zero =>
      intro i hi1 H locs ls hP hD hS hl
      obtain rfl : 32 = i := by omega
      refine lv_iload_n hx hb d_M_schedule_10 rfl (lv_at hl 0 rfl) ?_
      refine lv_iconst (v := 4) hx hb d_M_schedule_11 (by decide) ?_
      refine lv_iload_n hx hb d_M_schedule_12 rfl (lv_at hl 2 rfl) ?_
      refine lv_imul hx hb d_M_schedule_13 ?_
      refine sb_topn 32 (sb_eqn (a := 4 * 8) (b := 32) (sb_mul (a := 4) (b := 8) rfl rfl) (by omega)) ?_
      refine lv_icmp_ge (tgt := 35) hx hb d_M_schedule_14 (by decide) (fun c_1 => ?_) (fun c_1 => absurd (sb_geT (a := 32) (b := 32) rfl rfl (by omega) (by omega) (by omega)) c_1)
      refine lv_iconst (v := 1) hx hb d_M_schedule_35 (by decide) ?_
      refine lv_istore_n (lv' := [(2, .int 1), (0, .ref mo), (1, .int (nI 8))]) hx hb d_M_schedule_36 rfl hl (by decide) rfl (fun ls hl => ?_)
      refine lv_iload_n hx hb d_M_schedule_37 rfl (lv_at hl 2 rfl) ?_
      refine lv_istore_n (lv' := [(3, .int (nI 8)), (2, .int 1), (0, .ref mo), (1, .int (nI 8))]) hx hb d_M_schedule_38 rfl hl (by decide) rfl (fun ls hl => ?_)
      have lp2 : ∀ (d2 j : Nat), j + d2 = 52 → ∀ (H : Heap) (locs : List Loc) (ls : Array Slot), va_P D vwCl [(mo, .inr (7, mFs thr a1 a2 a3 (nI lt) (nI lb) (nI lz) ci a4 a5 a6 nu bk se op fa a7 a8 a9 a10 a11 (nI 14) kh kl sh sl a12 a13 a14 a15 a16 a17 a18 a19 a20)), (a4, .inl (cI, 32, .inl (nF gk))), (a7, .inl (cI, 256, .inl (nF gS))), (a8, .inl (cI, 240, .inl (nF ((kSch gS gk 8 gf gr j).2.2)))), (a11, .inl (cI, 4, .inl (nF ((kSch gS gk 8 gf gr j).2.1))))] H → va_D A [(mo, .inr (7, mFs thr a1 a2 a3 (nI lt) (nI lb) (nI lz) ci a4 a5 a6 nu bk se op fa a7 a8 a9 a10 a11 (nI 14) kh kl sh sl a12 a13 a14 a15 a16 a17 a18 a19 a20)), (a4, .inl (cI, 32, .inl (nF gk))), (a7, .inl (cI, 256, .inl (nF gS))), (a8, .inl (cI, 240, .inl (nF ((kSch gS gk 8 gf gr j).2.2)))), (a11, .inl (cI, 4, .inl (nF ((kSch gS gk 8 gf gr j).2.1))))] → va_S A s.heap H locs → lv_has ls 6 [(2, .int (nI ((kSch gS gk 8 gf gr j).1))), (3, .int (nI (8 + j))), (0, .ref mo), (1, .int (nI 8))] → W p l e rm_M_schedule8 s m args below meth c H locs 0 0 (MQ below (sbQv D (fun (_ : Unit) => True) (fun (_ : Unit) => [(mo, .inr (7, mFs thr a1 a2 a3 (nI lt) (nI lb) (nI lz) ci a4 a5 a6 nu bk se op fa a7 a8 a9 a10 a11 (nI 14) kh kl sh sl a12 a13 a14 a15 a16 a17 a18 a19 a20)), (a4, .inl (cI, 32, .inl (nF gk))), (a7, .inl (cI, 256, .inl (nF gS))), (a8, .inl (cI, 240, .inl (nF ((kSch gS gk 8 gf gr 52).2.2)))), (a11, .inl (cI, 4, .inl (nF ((kSch gS gk 8 gf gr 52).2.1))))]) A) args s 0 0 A) (F0 m 39 ls []) := by
        intro d2
        induction d2 with
        | zero =>
          intro j hi2 H locs ls hP hD hS hl
          obtain rfl : 52 = j := by omega
          have hB := kSch_B hgS hgk hgf hgr 8 52
          obtain ⟨hB1, hB2, hB3⟩ := hB
          refine lv_iload_n hx hb d_M_schedule_39 rfl (lv_at hl 1 rfl) ?_
          refine lv_iconst (v := 4) hx hb d_M_schedule_40 (by decide) ?_
          refine lv_aload_n hx hb d_M_schedule_41 rfl (lv_at hl 2 rfl) ?_
          refine va_get (D := D) (ci := 7) (v := .int (nI 14)) (C := R_M) (T := F_M) (N := 35) hx hb hts in_M hown hG.1 hP 0 rfl rfl 21 (by decide) (hts _ k_718) (fun _ h9 => h9) rfl d_M_schedule_42 ?_
          refine lv_iconst (v := 1) hx hb d_M_schedule_45 (by decide) ?_
          refine lv_iadd hx hb d_M_schedule_46 ?_
          refine sb_topn 15 (sb_eqn (a := 14 + 1) (b := 15) (nI_add 14 1) (by omega)) ?_
          refine lv_imul hx hb d_M_schedule_47 ?_
          refine sb_topn 60 (sb_eqn (a := 4 * 15) (b := 60) (sb_mul (a := 4) (b := 15) rfl rfl) (by omega)) ?_
          refine lv_icmp_ge (tgt := 266) hx hb d_M_schedule_48 (by decide) (fun c_2 => ?_) (fun c_2 => absurd (sb_geT (a := 8 + 52) (b := 60) rfl rfl (by omega) (by omega) (by omega)) c_2)
          have hP9 := hP.sub (ws' := [(mo, .inr (7, mFs thr a1 a2 a3 (nI lt) (nI lb) (nI lz) ci a4 a5 a6 nu bk se op fa a7 a8 a9 a10 a11 (nI 14) kh kl sh sl a12 a13 a14 a15 a16 a17 a18 a19 a20)), (a4, .inl (cI, 32, .inl (nF gk))), (a7, .inl (cI, 256, .inl (nF gS))), (a8, .inl (cI, 240, .inl (nF ((kSch gS gk 8 gf gr 52).2.2)))), (a11, .inl (cI, 4, .inl (nF ((kSch gS gk 8 gf gr 52).2.1))))]) [0, 1, 2, 3, 4] rfl
          have hD9 := hD.sub (ws' := [(mo, .inr (7, mFs thr a1 a2 a3 (nI lt) (nI lb) (nI lz) ci a4 a5 a6 nu bk se op fa a7 a8 a9 a10 a11 (nI 14) kh kl sh sl a12 a13 a14 a15 a16 a17 a18 a19 a20)), (a4, .inl (cI, 32, .inl (nF gk))), (a7, .inl (cI, 256, .inl (nF gS))), (a8, .inl (cI, 240, .inl (nF ((kSch gS gk 8 gf gr 52).2.2)))), (a11, .inl (cI, 4, .inl (nF ((kSch gS gk 8 gf gr 52).2.1))))]) [0, 1, 2, 3, 4] (by decide) rfl
          exact W.vret hx hb hr (fun t ht hW => ⟨⟨(), rfl, trivial, by rw [ht]; exact hP9, hD9⟩, hS.F ht⟩) hS.2.2 d_M_schedule_266
        | succ d2 ih2 =>
          intro j hi2 H locs ls hP hD hS hl
          have hB := kSch_B hgS hgk hgf hgr 8 j
          obtain ⟨hB1, hB2, hB3⟩ := hB
          refine lv_iload_n hx hb d_M_schedule_39 rfl (lv_at hl 1 rfl) ?_
          refine lv_iconst (v := 4) hx hb d_M_schedule_40 (by decide) ?_
          refine lv_aload_n hx hb d_M_schedule_41 rfl (lv_at hl 2 rfl) ?_
          refine va_get (D := D) (ci := 7) (v := .int (nI 14)) (C := R_M) (T := F_M) (N := 35) hx hb hts in_M hown hG.1 hP 0 rfl rfl 21 (by decide) (hts _ k_718) (fun _ h9 => h9) rfl d_M_schedule_42 ?_
          refine lv_iconst (v := 1) hx hb d_M_schedule_45 (by decide) ?_
          refine lv_iadd hx hb d_M_schedule_46 ?_
          refine sb_topn 15 (sb_eqn (a := 14 + 1) (b := 15) (nI_add 14 1) (by omega)) ?_
          refine lv_imul hx hb d_M_schedule_47 ?_
          refine sb_topn 60 (sb_eqn (a := 4 * 15) (b := 60) (sb_mul (a := 4) (b := 15) rfl rfl) (by omega)) ?_
          refine lv_icmp_ge (tgt := 266) hx hb d_M_schedule_48 (by decide) (fun c_3 => absurd c_3 (sb_geF (a := 8 + j) (b := 60) rfl rfl (by omega) (by omega) (by omega))) (fun c_3 => ?_)
          refine lv_iconst (v := 0) hx hb d_M_schedule_51 (by decide) ?_
          refine lv_istore (lv' := [(4, .int 0), (2, .int (nI ((kSch gS gk 8 gf gr j).1))), (3, .int (nI (8 + j))), (0, .ref mo), (1, .int (nI 8))]) hx hb d_M_schedule_52 hl (by decide) rfl (fun ls hl => ?_)
          have lp3 : ∀ (d3 i : Nat), i + d3 = 4 → ∀ (H : Heap) (locs : List Loc) (ls : Array Slot), va_P D vwCl [(mo, .inr (7, mFs thr a1 a2 a3 (nI lt) (nI lb) (nI lz) ci a4 a5 a6 nu bk se op fa a7 a8 a9 a10 a11 (nI 14) kh kl sh sl a12 a13 a14 a15 a16 a17 a18 a19 a20)), (a4, .inl (cI, 32, .inl (nF gk))), (a7, .inl (cI, 256, .inl (nF gS))), (a8, .inl (cI, 240, .inl (nF ((kSch gS gk 8 gf gr j).2.2)))), (a11, .inl (cI, 4, .inl (nF (iter (kFour ((kSch gS gk 8 gf gr j).2.2) (8 + j)) i ((kSch gS gk 8 gf gr j).2.1)))))] H → va_D A [(mo, .inr (7, mFs thr a1 a2 a3 (nI lt) (nI lb) (nI lz) ci a4 a5 a6 nu bk se op fa a7 a8 a9 a10 a11 (nI 14) kh kl sh sl a12 a13 a14 a15 a16 a17 a18 a19 a20)), (a4, .inl (cI, 32, .inl (nF gk))), (a7, .inl (cI, 256, .inl (nF gS))), (a8, .inl (cI, 240, .inl (nF ((kSch gS gk 8 gf gr j).2.2)))), (a11, .inl (cI, 4, .inl (nF (iter (kFour ((kSch gS gk 8 gf gr j).2.2) (8 + j)) i ((kSch gS gk 8 gf gr j).2.1)))))] → va_S A s.heap H locs → lv_has ls 6 [(4, .int (nI i)), (2, .int (nI ((kSch gS gk 8 gf gr j).1))), (3, .int (nI (8 + j))), (0, .ref mo), (1, .int (nI 8))] → W p l e rm_M_schedule8 s m args below meth c H locs 0 0 (MQ below (sbQv D (fun (_ : Unit) => True) (fun (_ : Unit) => [(mo, .inr (7, mFs thr a1 a2 a3 (nI lt) (nI lb) (nI lz) ci a4 a5 a6 nu bk se op fa a7 a8 a9 a10 a11 (nI 14) kh kl sh sl a12 a13 a14 a15 a16 a17 a18 a19 a20)), (a4, .inl (cI, 32, .inl (nF gk))), (a7, .inl (cI, 256, .inl (nF gS))), (a8, .inl (cI, 240, .inl (nF ((kSch gS gk 8 gf gr 52).2.2)))), (a11, .inl (cI, 4, .inl (nF ((kSch gS gk 8 gf gr 52).2.1))))]) A) args s 0 0 A) (F0 m 54 ls []) := by
            intro d3
            induction d3 with
            | zero =>
              intro i hi3 H locs ls hP hD hS hl
              obtain rfl : 4 = i := by omega
              refine lv_iload hx hb d_M_schedule_54 (lv_at hl 0 rfl) ?_
              refine lv_iconst (v := 4) hx hb d_M_schedule_56 (by decide) ?_
              refine lv_icmp_ge (tgt := 86) hx hb d_M_schedule_57 (by decide) (fun c_4 => ?_) (fun c_4 => absurd (sb_geT (a := 4) (b := 4) rfl rfl (by omega) (by omega) (by omega)) c_4)
              refine lv_iload_n hx hb d_M_schedule_86 rfl (lv_at hl 2 rfl) ?_
              refine lv_iload_n hx hb d_M_schedule_87 rfl (lv_at hl 4 rfl) ?_
              refine lv_irem hx hb d_M_schedule_88 (by decide) ?_
              refine sb_topn ((8 + j) % 8) (sb_rem (a := 8 + j) (b := 8) (by omega) (by omega) (by omega) rfl rfl) ?_
              refine lv_if_ne (tgt := 166) hx hb d_M_schedule_89 (by decide) (fun c_5 => ?_) (fun c_5 => ?_)
              · have c_5 := mt (sb_eqI (a := (8 + j) % 8) (b := 0) rfl rfl (by omega) (by omega)).mpr c_5
                refine lv_iload_n hx hb d_M_schedule_166 rfl (lv_at hl 4 rfl) ?_
                refine lv_bipush (v := 6) hx hb d_M_schedule_167 (by decide) ?_
                refine lv_icmp_le (tgt := 213) hx hb d_M_schedule_169 (by decide) (fun c_6 => absurd c_6 (sb_leF (a := 8) (b := 6) rfl rfl (by omega) (by omega) (by omega))) (fun c_6 => ?_)
                refine lv_iload_n hx hb d_M_schedule_172 rfl (lv_at hl 2 rfl) ?_
                refine lv_iload_n hx hb d_M_schedule_173 rfl (lv_at hl 4 rfl) ?_
                refine lv_irem hx hb d_M_schedule_174 (by decide) ?_
                refine sb_topn ((8 + j) % 8) (sb_rem (a := 8 + j) (b := 8) (by omega) (by omega) (by omega) rfl rfl) ?_
                refine lv_iconst (v := 4) hx hb d_M_schedule_175 (by decide) ?_
                refine lv_icmp_ne (tgt := 213) hx hb d_M_schedule_176 (by decide) (fun c_7 => ?_) (fun c_7 => ?_)
                · have c_7 := mt (sb_eqI (a := (8 + j) % 8) (b := 4) rfl rfl (by omega) (by omega)).mpr c_7
                  refine lv_iconst (v := 0) hx hb d_M_schedule_213 (by decide) ?_
                  refine lv_istore (lv' := [(4, .int 0), (2, .int (nI ((kSch gS gk 8 gf gr j).1))), (3, .int (nI (8 + j))), (0, .ref mo), (1, .int (nI 8))]) hx hb d_M_schedule_214 hl (by decide) rfl (fun ls hl => ?_)
                  have lp4 : ∀ (d4 i : Nat), i + d4 = 4 → ∀ (H : Heap) (locs : List Loc) (ls : Array Slot), va_P D vwCl [(mo, .inr (7, mFs thr a1 a2 a3 (nI lt) (nI lb) (nI lz) ci a4 a5 a6 nu bk se op fa a7 a8 a9 a10 a11 (nI 14) kh kl sh sl a12 a13 a14 a15 a16 a17 a18 a19 a20)), (a4, .inl (cI, 32, .inl (nF gk))), (a7, .inl (cI, 256, .inl (nF gS))), (a8, .inl (cI, 240, .inl (nF (iter (kMix (iter (kFour ((kSch gS gk 8 gf gr j).2.2) (8 + j)) 4 ((kSch gS gk 8 gf gr j).2.1)) (8 + j) 8) i ((kSch gS gk 8 gf gr j).2.2))))), (a11, .inl (cI, 4, .inl (nF (iter (kFour ((kSch gS gk 8 gf gr j).2.2) (8 + j)) 4 ((kSch gS gk 8 gf gr j).2.1)))))] H → va_D A [(mo, .inr (7, mFs thr a1 a2 a3 (nI lt) (nI lb) (nI lz) ci a4 a5 a6 nu bk se op fa a7 a8 a9 a10 a11 (nI 14) kh kl sh sl a12 a13 a14 a15 a16 a17 a18 a19 a20)), (a4, .inl (cI, 32, .inl (nF gk))), (a7, .inl (cI, 256, .inl (nF gS))), (a8, .inl (cI, 240, .inl (nF (iter (kMix (iter (kFour ((kSch gS gk 8 gf gr j).2.2) (8 + j)) 4 ((kSch gS gk 8 gf gr j).2.1)) (8 + j) 8) i ((kSch gS gk 8 gf gr j).2.2))))), (a11, .inl (cI, 4, .inl (nF (iter (kFour ((kSch gS gk 8 gf gr j).2.2) (8 + j)) 4 ((kSch gS gk 8 gf gr j).2.1)))))] → va_S A s.heap H locs → lv_has ls 6 [(4, .int (nI i)), (2, .int (nI ((kSch gS gk 8 gf gr j).1))), (3, .int (nI (8 + j))), (0, .ref mo), (1, .int (nI 8))] → W p l e rm_M_schedule8 s m args below meth c H locs 0 0 (MQ below (sbQv D (fun (_ : Unit) => True) (fun (_ : Unit) => [(mo, .inr (7, mFs thr a1 a2 a3 (nI lt) (nI lb) (nI lz) ci a4 a5 a6 nu bk se op fa a7 a8 a9 a10 a11 (nI 14) kh kl sh sl a12 a13 a14 a15 a16 a17 a18 a19 a20)), (a4, .inl (cI, 32, .inl (nF gk))), (a7, .inl (cI, 256, .inl (nF gS))), (a8, .inl (cI, 240, .inl (nF ((kSch gS gk 8 gf gr 52).2.2)))), (a11, .inl (cI, 4, .inl (nF ((kSch gS gk 8 gf gr 52).2.1))))]) A) args s 0 0 A) (F0 m 216 ls []) := by
                    intro d4
                    induction d4 with
                    | zero =>
                      intro i hi4 H locs ls hP hD hS hl
                      obtain rfl : 4 = i := by omega
                      refine lv_iload hx hb d_M_schedule_216 (lv_at hl 0 rfl) ?_
                      refine lv_iconst (v := 4) hx hb d_M_schedule_218 (by decide) ?_
                      refine lv_icmp_ge (tgt := 260) hx hb d_M_schedule_219 (by decide) (fun c_8 => ?_) (fun c_8 => absurd (sb_geT (a := 4) (b := 4) rfl rfl (by omega) (by omega) (by omega)) c_8)
                      refine lv_iinc (v := nI ((8 + j) + 1)) (lv' := [(3, .int (nI ((8 + j) + 1))), (4, .int (nI 4)), (2, .int (nI ((kSch gS gk 8 gf gr j).1))), (0, .ref mo), (1, .int (nI 8))]) hx hb d_M_schedule_260 hl (k := 2) rfl (sb_inc (a := 8 + j) (b := (8 + j) + 1) (d := 1) rfl (by decide) (by omega)) (by decide) rfl (fun ls hl => ?_)
                      refine lv_goto (tgt := 39) hx hb d_M_schedule_263 (by decide) ?_
                      have hE : kSch gS gk 8 gf gr (j + 1) = ((kSch gS gk 8 gf gr j).1, iter (kFour ((kSch gS gk 8 gf gr j).2.2) (8 + j)) 4 ((kSch gS gk 8 gf gr j).2.1), iter (kMix (iter (kFour ((kSch gS gk 8 gf gr j).2.2) (8 + j)) 4 ((kSch gS gk 8 gf gr j).2.1)) (8 + j) 8) 4 ((kSch gS gk 8 gf gr j).2.2)) := (by show kStep gS 8 j (kSch gS gk 8 gf gr j) = _; unfold kStep; simp only [if_neg c_5, if_neg c_7]; rfl)
                      have ih' := ih2 (j + 1) (by omega)
                      rw [hE] at ih'
                      exact ih' _ _ ls (hP.sub [0, 1, 2, 3, 4] rfl) (hD.sub [0, 1, 2, 3, 4] (by decide) rfl) hS (lv_sub hl [2, 0, 3, 4] rfl)
                    | succ d4 ih4 =>
                      intro i hi4 H locs ls hP hD hS hl
                      refine lv_iload hx hb d_M_schedule_216 (lv_at hl 0 rfl) ?_
                      refine lv_iconst (v := 4) hx hb d_M_schedule_218 (by decide) ?_
                      refine lv_icmp_ge (tgt := 260) hx hb d_M_schedule_219 (by decide) (fun c_9 => absurd c_9 (sb_geF (a := i) (b := 4) rfl rfl (by omega) (by omega) (by omega))) (fun c_9 => ?_)
                      refine lv_aload_n hx hb d_M_schedule_222 rfl (lv_at hl 3 rfl) ?_
                      refine va_get (D := D) (ci := 7) (v := .ref a8) (C := R_M) (T := F_M) (N := 35) hx hb hts in_M hown hG.1 hP 0 rfl rfl 17 (by decide) (hts _ k_714) (fun _ h9 => h9) rfl d_M_schedule_223 ?_
                      refine lv_iconst (v := 4) hx hb d_M_schedule_226 (by decide) ?_
                      refine lv_iload_n hx hb d_M_schedule_227 rfl (lv_at hl 2 rfl) ?_
                      refine lv_imul hx hb d_M_schedule_228 ?_
                      refine sb_topn (4 * (8 + j)) (sb_mul (a := 4) (b := 8 + j) rfl rfl) ?_
                      refine lv_iload hx hb d_M_schedule_229 (lv_at hl 0 rfl) ?_
                      refine lv_iadd hx hb d_M_schedule_231 ?_
                      refine sb_topn ((4 * (8 + j)) + i) (nI_add (4 * (8 + j)) i) ?_
                      refine lv_aload_n hx hb d_M_schedule_232 rfl (lv_at hl 3 rfl) ?_
                      refine va_get (D := D) (ci := 7) (v := .ref a8) (C := R_M) (T := F_M) (N := 35) hx hb hts in_M hown hG.1 hP 0 rfl rfl 17 (by decide) (hts _ k_714) (fun _ h9 => h9) rfl d_M_schedule_233 ?_
                      refine lv_iconst (v := 4) hx hb d_M_schedule_236 (by decide) ?_
                      refine lv_iload_n hx hb d_M_schedule_237 rfl (lv_at hl 2 rfl) ?_
                      refine lv_iload_n hx hb d_M_schedule_238 rfl (lv_at hl 4 rfl) ?_
                      refine lv_isub hx hb d_M_schedule_239 ?_
                      refine sb_topn ((8 + j) - 8) (sb_sub (a := 8 + j) (b := 8) (by omega) rfl rfl) ?_
                      refine lv_imul hx hb d_M_schedule_240 ?_
                      refine sb_topn (4 * ((8 + j) - 8)) (sb_mul (a := 4) (b := (8 + j) - 8) rfl rfl) ?_
                      refine lv_iload hx hb d_M_schedule_241 (lv_at hl 0 rfl) ?_
                      refine lv_iadd hx hb d_M_schedule_243 ?_
                      refine sb_topn ((4 * ((8 + j) - 8)) + i) (nI_add (4 * ((8 + j) - 8)) i) ?_
                      refine sb_ild hx hb hG.1 hP 3 rfl ((4 * ((8 + j) - 8)) + i) rfl (by omega) (by omega) d_M_schedule_244 ?_
                      refine lv_aload_n hx hb d_M_schedule_245 rfl (lv_at hl 3 rfl) ?_
                      refine va_get (D := D) (ci := 7) (v := .ref a11) (C := R_M) (T := F_M) (N := 35) hx hb hts in_M hown hG.1 hP 0 rfl rfl 20 (by decide) (hts _ k_717) (fun _ h9 => h9) rfl d_M_schedule_246 ?_
                      refine lv_iload hx hb d_M_schedule_249 (lv_at hl 0 rfl) ?_
                      refine sb_ild hx hb hG.1 hP 4 rfl i rfl (by omega) (by omega) d_M_schedule_251 ?_
                      refine lv_ixor hx hb d_M_schedule_252 ?_
                      refine sb_topn (((iter (kMix (iter (kFour ((kSch gS gk 8 gf gr j).2.2) (8 + j)) 4 ((kSch gS gk 8 gf gr j).2.1)) (8 + j) 8) i ((kSch gS gk 8 gf gr j).2.2)) ((4 * ((8 + j) - 8)) + i)) ^^^ ((iter (kFour ((kSch gS gk 8 gf gr j).2.2) (8 + j)) 4 ((kSch gS gk 8 gf gr j).2.1)) i)) (sb_xor (a := (iter (kMix (iter (kFour ((kSch gS gk 8 gf gr j).2.2) (8 + j)) 4 ((kSch gS gk 8 gf gr j).2.1)) (8 + j) 8) i ((kSch gS gk 8 gf gr j).2.2)) ((4 * ((8 + j) - 8)) + i)) (b := (iter (kFour ((kSch gS gk 8 gf gr j).2.2) (8 + j)) 4 ((kSch gS gk 8 gf gr j).2.1)) i) rfl rfl) ?_
                      refine sb_topn (((iter (kMix (iter (kFour ((kSch gS gk 8 gf gr j).2.2) (8 + j)) 4 ((kSch gS gk 8 gf gr j).2.1)) (8 + j) 8) i ((kSch gS gk 8 gf gr j).2.2)) ((4 * ((8 + j) - 8)) + i)) ^^^ ((iter (kFour ((kSch gS gk 8 gf gr j).2.2) (8 + j)) 4 ((kSch gS gk 8 gf gr j).2.1)) i)) rfl ?_
                      refine sb_ist hx hb hG.1 hP hD hS 3 rfl ((4 * (8 + j)) + i) rfl (by omega) (by omega) d_M_schedule_253 (fun f_10 H locs ef_10 hP hD hS => ?_)
                      have hP : va_P D vwCl [(mo, .inr (7, mFs thr a1 a2 a3 (nI lt) (nI lb) (nI lz) ci a4 a5 a6 nu bk se op fa a7 a8 a9 a10 a11 (nI 14) kh kl sh sl a12 a13 a14 a15 a16 a17 a18 a19 a20)), (a4, .inl (cI, 32, .inl (nF gk))), (a7, .inl (cI, 256, .inl (nF gS))), (a8, .inl (cI, 240, .inl f_10)), (a11, .inl (cI, 4, .inl (nF (iter (kFour ((kSch gS gk 8 gf gr j).2.2) (8 + j)) 4 ((kSch gS gk 8 gf gr j).2.1)))))] H := hP
                      have hD : va_D A [(mo, .inr (7, mFs thr a1 a2 a3 (nI lt) (nI lb) (nI lz) ci a4 a5 a6 nu bk se op fa a7 a8 a9 a10 a11 (nI 14) kh kl sh sl a12 a13 a14 a15 a16 a17 a18 a19 a20)), (a4, .inl (cI, 32, .inl (nF gk))), (a7, .inl (cI, 256, .inl (nF gS))), (a8, .inl (cI, 240, .inl f_10)), (a11, .inl (cI, 4, .inl (nF (iter (kFour ((kSch gS gk 8 gf gr j).2.2) (8 + j)) 4 ((kSch gS gk 8 gf gr j).2.1)))))] := hD
                      obtain rfl : f_10 = nF (updN (iter (kMix (iter (kFour ((kSch gS gk 8 gf gr j).2.2) (8 + j)) 4 ((kSch gS gk 8 gf gr j).2.1)) (8 + j) 8) i ((kSch gS gk 8 gf gr j).2.2)) ((4 * (8 + j)) + i) (((iter (kMix (iter (kFour ((kSch gS gk 8 gf gr j).2.2) (8 + j)) 4 ((kSch gS gk 8 gf gr j).2.1)) (8 + j) 8) i ((kSch gS gk 8 gf gr j).2.2)) ((4 * ((8 + j) - 8)) + i)) ^^^ ((iter (kFour ((kSch gS gk 8 gf gr j).2.2) (8 + j)) 4 ((kSch gS gk 8 gf gr j).2.1)) i))) := ef_10.trans (nF_set _ _ _)
                      have hP : va_P D vwCl [(mo, .inr (7, mFs thr a1 a2 a3 (nI lt) (nI lb) (nI lz) ci a4 a5 a6 nu bk se op fa a7 a8 a9 a10 a11 (nI 14) kh kl sh sl a12 a13 a14 a15 a16 a17 a18 a19 a20)), (a4, .inl (cI, 32, .inl (nF gk))), (a7, .inl (cI, 256, .inl (nF gS))), (a8, .inl (cI, 240, .inl (nF (updN (iter (kMix (iter (kFour ((kSch gS gk 8 gf gr j).2.2) (8 + j)) 4 ((kSch gS gk 8 gf gr j).2.1)) (8 + j) 8) i ((kSch gS gk 8 gf gr j).2.2)) ((4 * (8 + j)) + i) (((iter (kMix (iter (kFour ((kSch gS gk 8 gf gr j).2.2) (8 + j)) 4 ((kSch gS gk 8 gf gr j).2.1)) (8 + j) 8) i ((kSch gS gk 8 gf gr j).2.2)) ((4 * ((8 + j) - 8)) + i)) ^^^ ((iter (kFour ((kSch gS gk 8 gf gr j).2.2) (8 + j)) 4 ((kSch gS gk 8 gf gr j).2.1)) i)))))), (a11, .inl (cI, 4, .inl (nF (iter (kFour ((kSch gS gk 8 gf gr j).2.2) (8 + j)) 4 ((kSch gS gk 8 gf gr j).2.1)))))] H := hP
                      have hD : va_D A [(mo, .inr (7, mFs thr a1 a2 a3 (nI lt) (nI lb) (nI lz) ci a4 a5 a6 nu bk se op fa a7 a8 a9 a10 a11 (nI 14) kh kl sh sl a12 a13 a14 a15 a16 a17 a18 a19 a20)), (a4, .inl (cI, 32, .inl (nF gk))), (a7, .inl (cI, 256, .inl (nF gS))), (a8, .inl (cI, 240, .inl (nF (updN (iter (kMix (iter (kFour ((kSch gS gk 8 gf gr j).2.2) (8 + j)) 4 ((kSch gS gk 8 gf gr j).2.1)) (8 + j) 8) i ((kSch gS gk 8 gf gr j).2.2)) ((4 * (8 + j)) + i) (((iter (kMix (iter (kFour ((kSch gS gk 8 gf gr j).2.2) (8 + j)) 4 ((kSch gS gk 8 gf gr j).2.1)) (8 + j) 8) i ((kSch gS gk 8 gf gr j).2.2)) ((4 * ((8 + j) - 8)) + i)) ^^^ ((iter (kFour ((kSch gS gk 8 gf gr j).2.2) (8 + j)) 4 ((kSch gS gk 8 gf gr j).2.1)) i)))))), (a11, .inl (cI, 4, .inl (nF (iter (kFour ((kSch gS gk 8 gf gr j).2.2) (8 + j)) 4 ((kSch gS gk 8 gf gr j).2.1)))))] := hD
                      refine lv_iinc (v := nI (i + 1)) (lv' := [(4, .int (nI (i + 1))), (2, .int (nI ((kSch gS gk 8 gf gr j).1))), (3, .int (nI (8 + j))), (0, .ref mo), (1, .int (nI 8))]) hx hb d_M_schedule_254 hl (k := 0) rfl (sb_inc (a := i) (b := i + 1) (d := 1) rfl (by decide) (by omega)) (by decide) rfl (fun ls hl => ?_)
                      refine lv_goto (tgt := 216) hx hb d_M_schedule_257 (by decide) ?_
                      rw [show nF (updN (iter (kMix (iter (kFour ((kSch gS gk 8 gf gr j).2.2) (8 + j)) 4 ((kSch gS gk 8 gf gr j).2.1)) (8 + j) 8) i ((kSch gS gk 8 gf gr j).2.2)) ((4 * (8 + j)) + i) (((iter (kMix (iter (kFour ((kSch gS gk 8 gf gr j).2.2) (8 + j)) 4 ((kSch gS gk 8 gf gr j).2.1)) (8 + j) 8) i ((kSch gS gk 8 gf gr j).2.2)) ((4 * ((8 + j) - 8)) + i)) ^^^ ((iter (kFour ((kSch gS gk 8 gf gr j).2.2) (8 + j)) 4 ((kSch gS gk 8 gf gr j).2.1)) i))) = nF (iter (kMix (iter (kFour ((kSch gS gk 8 gf gr j).2.2) (8 + j)) 4 ((kSch gS gk 8 gf gr j).2.1)) (8 + j) 8) (i + 1) ((kSch gS gk 8 gf gr j).2.2)) from rfl] at hP hD
                      exact ih4 (i + 1) (by omega) _ _ ls (hP.sub [0, 1, 2, 3, 4] rfl) (hD.sub [0, 1, 2, 3, 4] (by decide) rfl) hS (lv_sub hl [0, 1, 2, 3, 4] rfl)
                  exact lp4 4 0 (by omega) _ _ ls (hP.sub [0, 1, 2, 3, 4] rfl) (hD.sub [0, 1, 2, 3, 4] (by decide) rfl) hS (lv_sub hl [0, 1, 2, 3, 4] rfl)
                · have c_7 := (sb_eqI (a := (8 + j) % 8) (b := 4) rfl rfl (by omega) (by omega)).mp c_7
                  refine lv_iconst (v := 0) hx hb d_M_schedule_179 (by decide) ?_
                  refine lv_istore (lv' := [(4, .int 0), (2, .int (nI ((kSch gS gk 8 gf gr j).1))), (3, .int (nI (8 + j))), (0, .ref mo), (1, .int (nI 8))]) hx hb d_M_schedule_180 hl (by decide) rfl (fun ls hl => ?_)
                  have lp5 : ∀ (d5 i : Nat), i + d5 = 4 → ∀ (H : Heap) (locs : List Loc) (ls : Array Slot), va_P D vwCl [(mo, .inr (7, mFs thr a1 a2 a3 (nI lt) (nI lb) (nI lz) ci a4 a5 a6 nu bk se op fa a7 a8 a9 a10 a11 (nI 14) kh kl sh sl a12 a13 a14 a15 a16 a17 a18 a19 a20)), (a4, .inl (cI, 32, .inl (nF gk))), (a7, .inl (cI, 256, .inl (nF gS))), (a8, .inl (cI, 240, .inl (nF ((kSch gS gk 8 gf gr j).2.2)))), (a11, .inl (cI, 4, .inl (nF (iter (kSub1 gS) i (iter (kFour ((kSch gS gk 8 gf gr j).2.2) (8 + j)) 4 ((kSch gS gk 8 gf gr j).2.1))))))] H → va_D A [(mo, .inr (7, mFs thr a1 a2 a3 (nI lt) (nI lb) (nI lz) ci a4 a5 a6 nu bk se op fa a7 a8 a9 a10 a11 (nI 14) kh kl sh sl a12 a13 a14 a15 a16 a17 a18 a19 a20)), (a4, .inl (cI, 32, .inl (nF gk))), (a7, .inl (cI, 256, .inl (nF gS))), (a8, .inl (cI, 240, .inl (nF ((kSch gS gk 8 gf gr j).2.2)))), (a11, .inl (cI, 4, .inl (nF (iter (kSub1 gS) i (iter (kFour ((kSch gS gk 8 gf gr j).2.2) (8 + j)) 4 ((kSch gS gk 8 gf gr j).2.1))))))] → va_S A s.heap H locs → lv_has ls 6 [(4, .int (nI i)), (2, .int (nI ((kSch gS gk 8 gf gr j).1))), (3, .int (nI (8 + j))), (0, .ref mo), (1, .int (nI 8))] → W p l e rm_M_schedule8 s m args below meth c H locs 0 0 (MQ below (sbQv D (fun (_ : Unit) => True) (fun (_ : Unit) => [(mo, .inr (7, mFs thr a1 a2 a3 (nI lt) (nI lb) (nI lz) ci a4 a5 a6 nu bk se op fa a7 a8 a9 a10 a11 (nI 14) kh kl sh sl a12 a13 a14 a15 a16 a17 a18 a19 a20)), (a4, .inl (cI, 32, .inl (nF gk))), (a7, .inl (cI, 256, .inl (nF gS))), (a8, .inl (cI, 240, .inl (nF ((kSch gS gk 8 gf gr 52).2.2)))), (a11, .inl (cI, 4, .inl (nF ((kSch gS gk 8 gf gr 52).2.1))))]) A) args s 0 0 A) (F0 m 182 ls []) := by
                    intro d5
                    induction d5 with
                    | zero =>
                      intro i hi5 H locs ls hP hD hS hl
                      obtain rfl : 4 = i := by omega
                      have hC2 := kSub1_B hgS 4 _ (kF1_B (q := (kSch gS gk 8 gf gr j)) ⟨hB1, hB2, hB3⟩ (8 + j))
                      refine lv_iload hx hb d_M_schedule_182 (lv_at hl 0 rfl) ?_
                      refine lv_iconst (v := 4) hx hb d_M_schedule_184 (by decide) ?_
                      refine lv_icmp_ge (tgt := 213) hx hb d_M_schedule_185 (by decide) (fun c_11 => ?_) (fun c_11 => absurd (sb_geT (a := 4) (b := 4) rfl rfl (by omega) (by omega) (by omega)) c_11)
                      refine lv_iconst (v := 0) hx hb d_M_schedule_213 (by decide) ?_
                      refine lv_istore (lv' := [(4, .int 0), (2, .int (nI ((kSch gS gk 8 gf gr j).1))), (3, .int (nI (8 + j))), (0, .ref mo), (1, .int (nI 8))]) hx hb d_M_schedule_214 hl (by decide) rfl (fun ls hl => ?_)
                      have lp6 : ∀ (d6 i : Nat), i + d6 = 4 → ∀ (H : Heap) (locs : List Loc) (ls : Array Slot), va_P D vwCl [(mo, .inr (7, mFs thr a1 a2 a3 (nI lt) (nI lb) (nI lz) ci a4 a5 a6 nu bk se op fa a7 a8 a9 a10 a11 (nI 14) kh kl sh sl a12 a13 a14 a15 a16 a17 a18 a19 a20)), (a4, .inl (cI, 32, .inl (nF gk))), (a7, .inl (cI, 256, .inl (nF gS))), (a8, .inl (cI, 240, .inl (nF (iter (kMix (iter (kSub1 gS) 4 (iter (kFour ((kSch gS gk 8 gf gr j).2.2) (8 + j)) 4 ((kSch gS gk 8 gf gr j).2.1))) (8 + j) 8) i ((kSch gS gk 8 gf gr j).2.2))))), (a11, .inl (cI, 4, .inl (nF (iter (kSub1 gS) 4 (iter (kFour ((kSch gS gk 8 gf gr j).2.2) (8 + j)) 4 ((kSch gS gk 8 gf gr j).2.1))))))] H → va_D A [(mo, .inr (7, mFs thr a1 a2 a3 (nI lt) (nI lb) (nI lz) ci a4 a5 a6 nu bk se op fa a7 a8 a9 a10 a11 (nI 14) kh kl sh sl a12 a13 a14 a15 a16 a17 a18 a19 a20)), (a4, .inl (cI, 32, .inl (nF gk))), (a7, .inl (cI, 256, .inl (nF gS))), (a8, .inl (cI, 240, .inl (nF (iter (kMix (iter (kSub1 gS) 4 (iter (kFour ((kSch gS gk 8 gf gr j).2.2) (8 + j)) 4 ((kSch gS gk 8 gf gr j).2.1))) (8 + j) 8) i ((kSch gS gk 8 gf gr j).2.2))))), (a11, .inl (cI, 4, .inl (nF (iter (kSub1 gS) 4 (iter (kFour ((kSch gS gk 8 gf gr j).2.2) (8 + j)) 4 ((kSch gS gk 8 gf gr j).2.1))))))] → va_S A s.heap H locs → lv_has ls 6 [(4, .int (nI i)), (2, .int (nI ((kSch gS gk 8 gf gr j).1))), (3, .int (nI (8 + j))), (0, .ref mo), (1, .int (nI 8))] → W p l e rm_M_schedule8 s m args below meth c H locs 0 0 (MQ below (sbQv D (fun (_ : Unit) => True) (fun (_ : Unit) => [(mo, .inr (7, mFs thr a1 a2 a3 (nI lt) (nI lb) (nI lz) ci a4 a5 a6 nu bk se op fa a7 a8 a9 a10 a11 (nI 14) kh kl sh sl a12 a13 a14 a15 a16 a17 a18 a19 a20)), (a4, .inl (cI, 32, .inl (nF gk))), (a7, .inl (cI, 256, .inl (nF gS))), (a8, .inl (cI, 240, .inl (nF ((kSch gS gk 8 gf gr 52).2.2)))), (a11, .inl (cI, 4, .inl (nF ((kSch gS gk 8 gf gr 52).2.1))))]) A) args s 0 0 A) (F0 m 216 ls []) := by
                        intro d6
                        induction d6 with
                        | zero =>
                          intro i hi6 H locs ls hP hD hS hl
                          obtain rfl : 4 = i := by omega
                          refine lv_iload hx hb d_M_schedule_216 (lv_at hl 0 rfl) ?_
                          refine lv_iconst (v := 4) hx hb d_M_schedule_218 (by decide) ?_
                          refine lv_icmp_ge (tgt := 260) hx hb d_M_schedule_219 (by decide) (fun c_12 => ?_) (fun c_12 => absurd (sb_geT (a := 4) (b := 4) rfl rfl (by omega) (by omega) (by omega)) c_12)
                          refine lv_iinc (v := nI ((8 + j) + 1)) (lv' := [(3, .int (nI ((8 + j) + 1))), (4, .int (nI 4)), (2, .int (nI ((kSch gS gk 8 gf gr j).1))), (0, .ref mo), (1, .int (nI 8))]) hx hb d_M_schedule_260 hl (k := 2) rfl (sb_inc (a := 8 + j) (b := (8 + j) + 1) (d := 1) rfl (by decide) (by omega)) (by decide) rfl (fun ls hl => ?_)
                          refine lv_goto (tgt := 39) hx hb d_M_schedule_263 (by decide) ?_
                          have hE : kSch gS gk 8 gf gr (j + 1) = ((kSch gS gk 8 gf gr j).1, iter (kSub1 gS) 4 (iter (kFour ((kSch gS gk 8 gf gr j).2.2) (8 + j)) 4 ((kSch gS gk 8 gf gr j).2.1)), iter (kMix (iter (kSub1 gS) 4 (iter (kFour ((kSch gS gk 8 gf gr j).2.2) (8 + j)) 4 ((kSch gS gk 8 gf gr j).2.1))) (8 + j) 8) 4 ((kSch gS gk 8 gf gr j).2.2)) := (by show kStep gS 8 j (kSch gS gk 8 gf gr j) = _; unfold kStep; simp only [if_neg c_5, if_pos c_7]; rfl)
                          have ih' := ih2 (j + 1) (by omega)
                          rw [hE] at ih'
                          exact ih' _ _ ls (hP.sub [0, 1, 2, 3, 4] rfl) (hD.sub [0, 1, 2, 3, 4] (by decide) rfl) hS (lv_sub hl [2, 0, 3, 4] rfl)
                        | succ d6 ih6 =>
                          intro i hi6 H locs ls hP hD hS hl
                          refine lv_iload hx hb d_M_schedule_216 (lv_at hl 0 rfl) ?_
                          refine lv_iconst (v := 4) hx hb d_M_schedule_218 (by decide) ?_
                          refine lv_icmp_ge (tgt := 260) hx hb d_M_schedule_219 (by decide) (fun c_13 => absurd c_13 (sb_geF (a := i) (b := 4) rfl rfl (by omega) (by omega) (by omega))) (fun c_13 => ?_)
                          refine lv_aload_n hx hb d_M_schedule_222 rfl (lv_at hl 3 rfl) ?_
                          refine va_get (D := D) (ci := 7) (v := .ref a8) (C := R_M) (T := F_M) (N := 35) hx hb hts in_M hown hG.1 hP 0 rfl rfl 17 (by decide) (hts _ k_714) (fun _ h9 => h9) rfl d_M_schedule_223 ?_
                          refine lv_iconst (v := 4) hx hb d_M_schedule_226 (by decide) ?_
                          refine lv_iload_n hx hb d_M_schedule_227 rfl (lv_at hl 2 rfl) ?_
                          refine lv_imul hx hb d_M_schedule_228 ?_
                          refine sb_topn (4 * (8 + j)) (sb_mul (a := 4) (b := 8 + j) rfl rfl) ?_
                          refine lv_iload hx hb d_M_schedule_229 (lv_at hl 0 rfl) ?_
                          refine lv_iadd hx hb d_M_schedule_231 ?_
                          refine sb_topn ((4 * (8 + j)) + i) (nI_add (4 * (8 + j)) i) ?_
                          refine lv_aload_n hx hb d_M_schedule_232 rfl (lv_at hl 3 rfl) ?_
                          refine va_get (D := D) (ci := 7) (v := .ref a8) (C := R_M) (T := F_M) (N := 35) hx hb hts in_M hown hG.1 hP 0 rfl rfl 17 (by decide) (hts _ k_714) (fun _ h9 => h9) rfl d_M_schedule_233 ?_
                          refine lv_iconst (v := 4) hx hb d_M_schedule_236 (by decide) ?_
                          refine lv_iload_n hx hb d_M_schedule_237 rfl (lv_at hl 2 rfl) ?_
                          refine lv_iload_n hx hb d_M_schedule_238 rfl (lv_at hl 4 rfl) ?_
                          refine lv_isub hx hb d_M_schedule_239 ?_
                          refine sb_topn ((8 + j) - 8) (sb_sub (a := 8 + j) (b := 8) (by omega) rfl rfl) ?_
                          refine lv_imul hx hb d_M_schedule_240 ?_
                          refine sb_topn (4 * ((8 + j) - 8)) (sb_mul (a := 4) (b := (8 + j) - 8) rfl rfl) ?_
                          refine lv_iload hx hb d_M_schedule_241 (lv_at hl 0 rfl) ?_
                          refine lv_iadd hx hb d_M_schedule_243 ?_
                          refine sb_topn ((4 * ((8 + j) - 8)) + i) (nI_add (4 * ((8 + j) - 8)) i) ?_
                          refine sb_ild hx hb hG.1 hP 3 rfl ((4 * ((8 + j) - 8)) + i) rfl (by omega) (by omega) d_M_schedule_244 ?_
                          refine lv_aload_n hx hb d_M_schedule_245 rfl (lv_at hl 3 rfl) ?_
                          refine va_get (D := D) (ci := 7) (v := .ref a11) (C := R_M) (T := F_M) (N := 35) hx hb hts in_M hown hG.1 hP 0 rfl rfl 20 (by decide) (hts _ k_717) (fun _ h9 => h9) rfl d_M_schedule_246 ?_
                          refine lv_iload hx hb d_M_schedule_249 (lv_at hl 0 rfl) ?_
                          refine sb_ild hx hb hG.1 hP 4 rfl i rfl (by omega) (by omega) d_M_schedule_251 ?_
                          refine lv_ixor hx hb d_M_schedule_252 ?_
                          refine sb_topn (((iter (kMix (iter (kSub1 gS) 4 (iter (kFour ((kSch gS gk 8 gf gr j).2.2) (8 + j)) 4 ((kSch gS gk 8 gf gr j).2.1))) (8 + j) 8) i ((kSch gS gk 8 gf gr j).2.2)) ((4 * ((8 + j) - 8)) + i)) ^^^ ((iter (kSub1 gS) 4 (iter (kFour ((kSch gS gk 8 gf gr j).2.2) (8 + j)) 4 ((kSch gS gk 8 gf gr j).2.1))) i)) (sb_xor (a := (iter (kMix (iter (kSub1 gS) 4 (iter (kFour ((kSch gS gk 8 gf gr j).2.2) (8 + j)) 4 ((kSch gS gk 8 gf gr j).2.1))) (8 + j) 8) i ((kSch gS gk 8 gf gr j).2.2)) ((4 * ((8 + j) - 8)) + i)) (b := (iter (kSub1 gS) 4 (iter (kFour ((kSch gS gk 8 gf gr j).2.2) (8 + j)) 4 ((kSch gS gk 8 gf gr j).2.1))) i) rfl rfl) ?_
                          refine sb_topn (((iter (kMix (iter (kSub1 gS) 4 (iter (kFour ((kSch gS gk 8 gf gr j).2.2) (8 + j)) 4 ((kSch gS gk 8 gf gr j).2.1))) (8 + j) 8) i ((kSch gS gk 8 gf gr j).2.2)) ((4 * ((8 + j) - 8)) + i)) ^^^ ((iter (kSub1 gS) 4 (iter (kFour ((kSch gS gk 8 gf gr j).2.2) (8 + j)) 4 ((kSch gS gk 8 gf gr j).2.1))) i)) rfl ?_
                          refine sb_ist hx hb hG.1 hP hD hS 3 rfl ((4 * (8 + j)) + i) rfl (by omega) (by omega) d_M_schedule_253 (fun f_14 H locs ef_14 hP hD hS => ?_)
                          have hP : va_P D vwCl [(mo, .inr (7, mFs thr a1 a2 a3 (nI lt) (nI lb) (nI lz) ci a4 a5 a6 nu bk se op fa a7 a8 a9 a10 a11 (nI 14) kh kl sh sl a12 a13 a14 a15 a16 a17 a18 a19 a20)), (a4, .inl (cI, 32, .inl (nF gk))), (a7, .inl (cI, 256, .inl (nF gS))), (a8, .inl (cI, 240, .inl f_14)), (a11, .inl (cI, 4, .inl (nF (iter (kSub1 gS) 4 (iter (kFour ((kSch gS gk 8 gf gr j).2.2) (8 + j)) 4 ((kSch gS gk 8 gf gr j).2.1))))))] H := hP
                          have hD : va_D A [(mo, .inr (7, mFs thr a1 a2 a3 (nI lt) (nI lb) (nI lz) ci a4 a5 a6 nu bk se op fa a7 a8 a9 a10 a11 (nI 14) kh kl sh sl a12 a13 a14 a15 a16 a17 a18 a19 a20)), (a4, .inl (cI, 32, .inl (nF gk))), (a7, .inl (cI, 256, .inl (nF gS))), (a8, .inl (cI, 240, .inl f_14)), (a11, .inl (cI, 4, .inl (nF (iter (kSub1 gS) 4 (iter (kFour ((kSch gS gk 8 gf gr j).2.2) (8 + j)) 4 ((kSch gS gk 8 gf gr j).2.1))))))] := hD
                          obtain rfl : f_14 = nF (updN (iter (kMix (iter (kSub1 gS) 4 (iter (kFour ((kSch gS gk 8 gf gr j).2.2) (8 + j)) 4 ((kSch gS gk 8 gf gr j).2.1))) (8 + j) 8) i ((kSch gS gk 8 gf gr j).2.2)) ((4 * (8 + j)) + i) (((iter (kMix (iter (kSub1 gS) 4 (iter (kFour ((kSch gS gk 8 gf gr j).2.2) (8 + j)) 4 ((kSch gS gk 8 gf gr j).2.1))) (8 + j) 8) i ((kSch gS gk 8 gf gr j).2.2)) ((4 * ((8 + j) - 8)) + i)) ^^^ ((iter (kSub1 gS) 4 (iter (kFour ((kSch gS gk 8 gf gr j).2.2) (8 + j)) 4 ((kSch gS gk 8 gf gr j).2.1))) i))) := ef_14.trans (nF_set _ _ _)
                          have hP : va_P D vwCl [(mo, .inr (7, mFs thr a1 a2 a3 (nI lt) (nI lb) (nI lz) ci a4 a5 a6 nu bk se op fa a7 a8 a9 a10 a11 (nI 14) kh kl sh sl a12 a13 a14 a15 a16 a17 a18 a19 a20)), (a4, .inl (cI, 32, .inl (nF gk))), (a7, .inl (cI, 256, .inl (nF gS))), (a8, .inl (cI, 240, .inl (nF (updN (iter (kMix (iter (kSub1 gS) 4 (iter (kFour ((kSch gS gk 8 gf gr j).2.2) (8 + j)) 4 ((kSch gS gk 8 gf gr j).2.1))) (8 + j) 8) i ((kSch gS gk 8 gf gr j).2.2)) ((4 * (8 + j)) + i) (((iter (kMix (iter (kSub1 gS) 4 (iter (kFour ((kSch gS gk 8 gf gr j).2.2) (8 + j)) 4 ((kSch gS gk 8 gf gr j).2.1))) (8 + j) 8) i ((kSch gS gk 8 gf gr j).2.2)) ((4 * ((8 + j) - 8)) + i)) ^^^ ((iter (kSub1 gS) 4 (iter (kFour ((kSch gS gk 8 gf gr j).2.2) (8 + j)) 4 ((kSch gS gk 8 gf gr j).2.1))) i)))))), (a11, .inl (cI, 4, .inl (nF (iter (kSub1 gS) 4 (iter (kFour ((kSch gS gk 8 gf gr j).2.2) (8 + j)) 4 ((kSch gS gk 8 gf gr j).2.1))))))] H := hP
                          have hD : va_D A [(mo, .inr (7, mFs thr a1 a2 a3 (nI lt) (nI lb) (nI lz) ci a4 a5 a6 nu bk se op fa a7 a8 a9 a10 a11 (nI 14) kh kl sh sl a12 a13 a14 a15 a16 a17 a18 a19 a20)), (a4, .inl (cI, 32, .inl (nF gk))), (a7, .inl (cI, 256, .inl (nF gS))), (a8, .inl (cI, 240, .inl (nF (updN (iter (kMix (iter (kSub1 gS) 4 (iter (kFour ((kSch gS gk 8 gf gr j).2.2) (8 + j)) 4 ((kSch gS gk 8 gf gr j).2.1))) (8 + j) 8) i ((kSch gS gk 8 gf gr j).2.2)) ((4 * (8 + j)) + i) (((iter (kMix (iter (kSub1 gS) 4 (iter (kFour ((kSch gS gk 8 gf gr j).2.2) (8 + j)) 4 ((kSch gS gk 8 gf gr j).2.1))) (8 + j) 8) i ((kSch gS gk 8 gf gr j).2.2)) ((4 * ((8 + j) - 8)) + i)) ^^^ ((iter (kSub1 gS) 4 (iter (kFour ((kSch gS gk 8 gf gr j).2.2) (8 + j)) 4 ((kSch gS gk 8 gf gr j).2.1))) i)))))), (a11, .inl (cI, 4, .inl (nF (iter (kSub1 gS) 4 (iter (kFour ((kSch gS gk 8 gf gr j).2.2) (8 + j)) 4 ((kSch gS gk 8 gf gr j).2.1))))))] := hD
                          refine lv_iinc (v := nI (i + 1)) (lv' := [(4, .int (nI (i + 1))), (2, .int (nI ((kSch gS gk 8 gf gr j).1))), (3, .int (nI (8 + j))), (0, .ref mo), (1, .int (nI 8))]) hx hb d_M_schedule_254 hl (k := 0) rfl (sb_inc (a := i) (b := i + 1) (d := 1) rfl (by decide) (by omega)) (by decide) rfl (fun ls hl => ?_)
                          refine lv_goto (tgt := 216) hx hb d_M_schedule_257 (by decide) ?_
                          rw [show nF (updN (iter (kMix (iter (kSub1 gS) 4 (iter (kFour ((kSch gS gk 8 gf gr j).2.2) (8 + j)) 4 ((kSch gS gk 8 gf gr j).2.1))) (8 + j) 8) i ((kSch gS gk 8 gf gr j).2.2)) ((4 * (8 + j)) + i) (((iter (kMix (iter (kSub1 gS) 4 (iter (kFour ((kSch gS gk 8 gf gr j).2.2) (8 + j)) 4 ((kSch gS gk 8 gf gr j).2.1))) (8 + j) 8) i ((kSch gS gk 8 gf gr j).2.2)) ((4 * ((8 + j) - 8)) + i)) ^^^ ((iter (kSub1 gS) 4 (iter (kFour ((kSch gS gk 8 gf gr j).2.2) (8 + j)) 4 ((kSch gS gk 8 gf gr j).2.1))) i))) = nF (iter (kMix (iter (kSub1 gS) 4 (iter (kFour ((kSch gS gk 8 gf gr j).2.2) (8 + j)) 4 ((kSch gS gk 8 gf gr j).2.1))) (8 + j) 8) (i + 1) ((kSch gS gk 8 gf gr j).2.2)) from rfl] at hP hD
                          exact ih6 (i + 1) (by omega) _ _ ls (hP.sub [0, 1, 2, 3, 4] rfl) (hD.sub [0, 1, 2, 3, 4] (by decide) rfl) hS (lv_sub hl [0, 1, 2, 3, 4] rfl)
                      exact lp6 4 0 (by omega) _ _ ls (hP.sub [0, 1, 2, 3, 4] rfl) (hD.sub [0, 1, 2, 3, 4] (by decide) rfl) hS (lv_sub hl [0, 1, 2, 3, 4] rfl)
                    | succ d5 ih5 =>
                      intro i hi5 H locs ls hP hD hS hl
                      have hC2 := kSub1_B hgS i _ (kF1_B (q := (kSch gS gk 8 gf gr j)) ⟨hB1, hB2, hB3⟩ (8 + j))
                      refine lv_iload hx hb d_M_schedule_182 (lv_at hl 0 rfl) ?_
                      refine lv_iconst (v := 4) hx hb d_M_schedule_184 (by decide) ?_
                      refine lv_icmp_ge (tgt := 213) hx hb d_M_schedule_185 (by decide) (fun c_15 => absurd c_15 (sb_geF (a := i) (b := 4) rfl rfl (by omega) (by omega) (by omega))) (fun c_15 => ?_)
                      refine lv_aload_n hx hb d_M_schedule_188 rfl (lv_at hl 3 rfl) ?_
                      refine va_get (D := D) (ci := 7) (v := .ref a11) (C := R_M) (T := F_M) (N := 35) hx hb hts in_M hown hG.1 hP 0 rfl rfl 20 (by decide) (hts _ k_717) (fun _ h9 => h9) rfl d_M_schedule_189 ?_
                      refine lv_iload hx hb d_M_schedule_192 (lv_at hl 0 rfl) ?_
                      refine lv_aload_n hx hb d_M_schedule_194 rfl (lv_at hl 3 rfl) ?_
                      refine va_get (D := D) (ci := 7) (v := .ref a7) (C := R_M) (T := F_M) (N := 35) hx hb hts in_M hown hG.1 hP 0 rfl rfl 16 (by decide) (hts _ k_713) (fun _ h9 => h9) rfl d_M_schedule_195 ?_
                      refine lv_aload_n hx hb d_M_schedule_198 rfl (lv_at hl 3 rfl) ?_
                      refine va_get (D := D) (ci := 7) (v := .ref a11) (C := R_M) (T := F_M) (N := 35) hx hb hts in_M hown hG.1 hP 0 rfl rfl 20 (by decide) (hts _ k_717) (fun _ h9 => h9) rfl d_M_schedule_199 ?_
                      refine lv_iload hx hb d_M_schedule_202 (lv_at hl 0 rfl) ?_
                      refine sb_ild hx hb hG.1 hP 4 rfl i rfl (by omega) (by omega) d_M_schedule_204 ?_
                      refine sb_ild hx hb hG.1 hP 2 rfl ((iter (kSub1 gS) i (iter (kFour ((kSch gS gk 8 gf gr j).2.2) (8 + j)) 4 ((kSch gS gk 8 gf gr j).2.1))) i) rfl (hC2 _) (by omega) d_M_schedule_205 ?_
                      refine sb_topn (gS ((iter (kSub1 gS) i (iter (kFour ((kSch gS gk 8 gf gr j).2.2) (8 + j)) 4 ((kSch gS gk 8 gf gr j).2.1))) i)) rfl ?_
                      refine sb_ist hx hb hG.1 hP hD hS 4 rfl i rfl (by omega) (by omega) d_M_schedule_206 (fun f_16 H locs ef_16 hP hD hS => ?_)
                      have hP : va_P D vwCl [(mo, .inr (7, mFs thr a1 a2 a3 (nI lt) (nI lb) (nI lz) ci a4 a5 a6 nu bk se op fa a7 a8 a9 a10 a11 (nI 14) kh kl sh sl a12 a13 a14 a15 a16 a17 a18 a19 a20)), (a4, .inl (cI, 32, .inl (nF gk))), (a7, .inl (cI, 256, .inl (nF gS))), (a8, .inl (cI, 240, .inl (nF ((kSch gS gk 8 gf gr j).2.2)))), (a11, .inl (cI, 4, .inl f_16))] H := hP
                      have hD : va_D A [(mo, .inr (7, mFs thr a1 a2 a3 (nI lt) (nI lb) (nI lz) ci a4 a5 a6 nu bk se op fa a7 a8 a9 a10 a11 (nI 14) kh kl sh sl a12 a13 a14 a15 a16 a17 a18 a19 a20)), (a4, .inl (cI, 32, .inl (nF gk))), (a7, .inl (cI, 256, .inl (nF gS))), (a8, .inl (cI, 240, .inl (nF ((kSch gS gk 8 gf gr j).2.2)))), (a11, .inl (cI, 4, .inl f_16))] := hD
                      obtain rfl : f_16 = nF (updN (iter (kSub1 gS) i (iter (kFour ((kSch gS gk 8 gf gr j).2.2) (8 + j)) 4 ((kSch gS gk 8 gf gr j).2.1))) i (gS ((iter (kSub1 gS) i (iter (kFour ((kSch gS gk 8 gf gr j).2.2) (8 + j)) 4 ((kSch gS gk 8 gf gr j).2.1))) i))) := ef_16.trans (nF_set _ _ _)
                      have hP : va_P D vwCl [(mo, .inr (7, mFs thr a1 a2 a3 (nI lt) (nI lb) (nI lz) ci a4 a5 a6 nu bk se op fa a7 a8 a9 a10 a11 (nI 14) kh kl sh sl a12 a13 a14 a15 a16 a17 a18 a19 a20)), (a4, .inl (cI, 32, .inl (nF gk))), (a7, .inl (cI, 256, .inl (nF gS))), (a8, .inl (cI, 240, .inl (nF ((kSch gS gk 8 gf gr j).2.2)))), (a11, .inl (cI, 4, .inl (nF (updN (iter (kSub1 gS) i (iter (kFour ((kSch gS gk 8 gf gr j).2.2) (8 + j)) 4 ((kSch gS gk 8 gf gr j).2.1))) i (gS ((iter (kSub1 gS) i (iter (kFour ((kSch gS gk 8 gf gr j).2.2) (8 + j)) 4 ((kSch gS gk 8 gf gr j).2.1))) i))))))] H := hP
                      have hD : va_D A [(mo, .inr (7, mFs thr a1 a2 a3 (nI lt) (nI lb) (nI lz) ci a4 a5 a6 nu bk se op fa a7 a8 a9 a10 a11 (nI 14) kh kl sh sl a12 a13 a14 a15 a16 a17 a18 a19 a20)), (a4, .inl (cI, 32, .inl (nF gk))), (a7, .inl (cI, 256, .inl (nF gS))), (a8, .inl (cI, 240, .inl (nF ((kSch gS gk 8 gf gr j).2.2)))), (a11, .inl (cI, 4, .inl (nF (updN (iter (kSub1 gS) i (iter (kFour ((kSch gS gk 8 gf gr j).2.2) (8 + j)) 4 ((kSch gS gk 8 gf gr j).2.1))) i (gS ((iter (kSub1 gS) i (iter (kFour ((kSch gS gk 8 gf gr j).2.2) (8 + j)) 4 ((kSch gS gk 8 gf gr j).2.1))) i))))))] := hD
                      refine lv_iinc (v := nI (i + 1)) (lv' := [(4, .int (nI (i + 1))), (2, .int (nI ((kSch gS gk 8 gf gr j).1))), (3, .int (nI (8 + j))), (0, .ref mo), (1, .int (nI 8))]) hx hb d_M_schedule_207 hl (k := 0) rfl (sb_inc (a := i) (b := i + 1) (d := 1) rfl (by decide) (by omega)) (by decide) rfl (fun ls hl => ?_)
                      refine lv_goto (tgt := 182) hx hb d_M_schedule_210 (by decide) ?_
                      rw [show nF (updN (iter (kSub1 gS) i (iter (kFour ((kSch gS gk 8 gf gr j).2.2) (8 + j)) 4 ((kSch gS gk 8 gf gr j).2.1))) i (gS ((iter (kSub1 gS) i (iter (kFour ((kSch gS gk 8 gf gr j).2.2) (8 + j)) 4 ((kSch gS gk 8 gf gr j).2.1))) i))) = nF (iter (kSub1 gS) (i + 1) (iter (kFour ((kSch gS gk 8 gf gr j).2.2) (8 + j)) 4 ((kSch gS gk 8 gf gr j).2.1))) from rfl] at hP hD
                      exact ih5 (i + 1) (by omega) _ _ ls (hP.sub [0, 1, 2, 3, 4] rfl) (hD.sub [0, 1, 2, 3, 4] (by decide) rfl) hS (lv_sub hl [0, 1, 2, 3, 4] rfl)
                  exact lp5 4 0 (by omega) _ _ ls (hP.sub [0, 1, 2, 3, 4] rfl) (hD.sub [0, 1, 2, 3, 4] (by decide) rfl) hS (lv_sub hl [0, 1, 2, 3, 4] rfl)
              · have c_5 := (sb_eqI (a := (8 + j) % 8) (b := 0) rfl rfl (by omega) (by omega)).mp c_5
                refine lv_aload_n hx hb d_M_schedule_92 rfl (lv_at hl 3 rfl) ?_
                refine va_get (D := D) (ci := 7) (v := .ref a11) (C := R_M) (T := F_M) (N := 35) hx hb hts in_M hown hG.1 hP 0 rfl rfl 20 (by decide) (hts _ k_717) (fun _ h9 => h9) rfl d_M_schedule_93 ?_
                refine lv_iconst (v := 0) hx hb d_M_schedule_96 (by decide) ?_
                refine sb_ild hx hb hG.1 hP 4 rfl 0 rfl (by omega) (by omega) d_M_schedule_97 ?_
                refine sb_topn ((iter (kFour ((kSch gS gk 8 gf gr j).2.2) (8 + j)) 4 ((kSch gS gk 8 gf gr j).2.1)) 0) rfl ?_
                refine lv_istore (lv' := [(4, .int (nI ((iter (kFour ((kSch gS gk 8 gf gr j).2.2) (8 + j)) 4 ((kSch gS gk 8 gf gr j).2.1)) 0))), (2, .int (nI ((kSch gS gk 8 gf gr j).1))), (3, .int (nI (8 + j))), (0, .ref mo), (1, .int (nI 8))]) hx hb d_M_schedule_98 hl (by decide) rfl (fun ls hl => ?_)
                refine lv_iconst (v := 0) hx hb d_M_schedule_100 (by decide) ?_
                refine lv_istore (lv' := [(5, .int 0), (4, .int (nI ((iter (kFour ((kSch gS gk 8 gf gr j).2.2) (8 + j)) 4 ((kSch gS gk 8 gf gr j).2.1)) 0))), (2, .int (nI ((kSch gS gk 8 gf gr j).1))), (3, .int (nI (8 + j))), (0, .ref mo), (1, .int (nI 8))]) hx hb d_M_schedule_101 hl (by decide) rfl (fun ls hl => ?_)
                have lp7 : ∀ (d7 i : Nat), i + d7 = 4 → ∀ (H : Heap) (locs : List Loc) (ls : Array Slot), va_P D vwCl [(mo, .inr (7, mFs thr a1 a2 a3 (nI lt) (nI lb) (nI lz) ci a4 a5 a6 nu bk se op fa a7 a8 a9 a10 a11 (nI 14) kh kl sh sl a12 a13 a14 a15 a16 a17 a18 a19 a20)), (a4, .inl (cI, 32, .inl (nF gk))), (a7, .inl (cI, 256, .inl (nF gS))), (a8, .inl (cI, 240, .inl (nF ((kSch gS gk 8 gf gr j).2.2)))), (a11, .inl (cI, 4, .inl (nF (iter (kSub gS ((iter (kFour ((kSch gS gk 8 gf gr j).2.2) (8 + j)) 4 ((kSch gS gk 8 gf gr j).2.1)) 0)) i (iter (kFour ((kSch gS gk 8 gf gr j).2.2) (8 + j)) 4 ((kSch gS gk 8 gf gr j).2.1))))))] H → va_D A [(mo, .inr (7, mFs thr a1 a2 a3 (nI lt) (nI lb) (nI lz) ci a4 a5 a6 nu bk se op fa a7 a8 a9 a10 a11 (nI 14) kh kl sh sl a12 a13 a14 a15 a16 a17 a18 a19 a20)), (a4, .inl (cI, 32, .inl (nF gk))), (a7, .inl (cI, 256, .inl (nF gS))), (a8, .inl (cI, 240, .inl (nF ((kSch gS gk 8 gf gr j).2.2)))), (a11, .inl (cI, 4, .inl (nF (iter (kSub gS ((iter (kFour ((kSch gS gk 8 gf gr j).2.2) (8 + j)) 4 ((kSch gS gk 8 gf gr j).2.1)) 0)) i (iter (kFour ((kSch gS gk 8 gf gr j).2.2) (8 + j)) 4 ((kSch gS gk 8 gf gr j).2.1))))))] → va_S A s.heap H locs → lv_has ls 6 [(5, .int (nI i)), (4, .int (nI ((iter (kFour ((kSch gS gk 8 gf gr j).2.2) (8 + j)) 4 ((kSch gS gk 8 gf gr j).2.1)) 0))), (2, .int (nI ((kSch gS gk 8 gf gr j).1))), (3, .int (nI (8 + j))), (0, .ref mo), (1, .int (nI 8))] → W p l e rm_M_schedule8 s m args below meth c H locs 0 0 (MQ below (sbQv D (fun (_ : Unit) => True) (fun (_ : Unit) => [(mo, .inr (7, mFs thr a1 a2 a3 (nI lt) (nI lb) (nI lz) ci a4 a5 a6 nu bk se op fa a7 a8 a9 a10 a11 (nI 14) kh kl sh sl a12 a13 a14 a15 a16 a17 a18 a19 a20)), (a4, .inl (cI, 32, .inl (nF gk))), (a7, .inl (cI, 256, .inl (nF gS))), (a8, .inl (cI, 240, .inl (nF ((kSch gS gk 8 gf gr 52).2.2)))), (a11, .inl (cI, 4, .inl (nF ((kSch gS gk 8 gf gr 52).2.1))))]) A) args s 0 0 A) (F0 m 103 ls []) := by
                  intro d7
                  induction d7 with
                  | zero =>
                    intro i hi7 H locs ls hP hD hS hl
                    obtain rfl : 4 = i := by omega
                    have hC := kF1_B (q := (kSch gS gk 8 gf gr j)) ⟨hB1, hB2, hB3⟩ (8 + j)
                    have hC2 := kSub_B hgS (kF1 (8 + j) (kSch gS gk 8 gf gr j) 0) 4 _ hC
                    refine lv_iload hx hb d_M_schedule_103 (lv_at hl 0 rfl) ?_
                    refine lv_iconst (v := 4) hx hb d_M_schedule_105 (by decide) ?_
                    refine lv_icmp_ge (tgt := 147) hx hb d_M_schedule_106 (by decide) (fun c_17 => ?_) (fun c_17 => absurd (sb_geT (a := 4) (b := 4) rfl rfl (by omega) (by omega) (by omega)) c_17)
                    refine lv_aload_n hx hb d_M_schedule_147 rfl (lv_at hl 4 rfl) ?_
                    refine va_get (D := D) (ci := 7) (v := .ref a11) (C := R_M) (T := F_M) (N := 35) hx hb hts in_M hown hG.1 hP 0 rfl rfl 20 (by decide) (hts _ k_717) (fun _ h9 => h9) rfl d_M_schedule_148 ?_
                    refine lv_iconst (v := 0) hx hb d_M_schedule_151 (by decide) ?_
                    refine lv_dup2_11 hx hb d_M_schedule_152 rfl rfl ?_
                    refine sb_ild hx hb hG.1 hP 4 rfl 0 rfl (by omega) (by omega) d_M_schedule_153 ?_
                    refine lv_iload_n hx hb d_M_schedule_154 rfl (lv_at hl 2 rfl) ?_
                    refine lv_ixor hx hb d_M_schedule_155 ?_
                    refine sb_topn (((iter (kSub gS ((iter (kFour ((kSch gS gk 8 gf gr j).2.2) (8 + j)) 4 ((kSch gS gk 8 gf gr j).2.1)) 0)) 4 (iter (kFour ((kSch gS gk 8 gf gr j).2.2) (8 + j)) 4 ((kSch gS gk 8 gf gr j).2.1))) 0) ^^^ ((kSch gS gk 8 gf gr j).1)) (sb_xor (a := (iter (kSub gS ((iter (kFour ((kSch gS gk 8 gf gr j).2.2) (8 + j)) 4 ((kSch gS gk 8 gf gr j).2.1)) 0)) 4 (iter (kFour ((kSch gS gk 8 gf gr j).2.2) (8 + j)) 4 ((kSch gS gk 8 gf gr j).2.1))) 0) (b := (kSch gS gk 8 gf gr j).1) rfl rfl) ?_
                    refine sb_topn (((iter (kSub gS ((iter (kFour ((kSch gS gk 8 gf gr j).2.2) (8 + j)) 4 ((kSch gS gk 8 gf gr j).2.1)) 0)) 4 (iter (kFour ((kSch gS gk 8 gf gr j).2.2) (8 + j)) 4 ((kSch gS gk 8 gf gr j).2.1))) 0) ^^^ ((kSch gS gk 8 gf gr j).1)) rfl ?_
                    refine sb_ist hx hb hG.1 hP hD hS 4 rfl 0 rfl (by omega) (by omega) d_M_schedule_156 (fun f_18 H locs ef_18 hP hD hS => ?_)
                    have hP : va_P D vwCl [(mo, .inr (7, mFs thr a1 a2 a3 (nI lt) (nI lb) (nI lz) ci a4 a5 a6 nu bk se op fa a7 a8 a9 a10 a11 (nI 14) kh kl sh sl a12 a13 a14 a15 a16 a17 a18 a19 a20)), (a4, .inl (cI, 32, .inl (nF gk))), (a7, .inl (cI, 256, .inl (nF gS))), (a8, .inl (cI, 240, .inl (nF ((kSch gS gk 8 gf gr j).2.2)))), (a11, .inl (cI, 4, .inl f_18))] H := hP
                    have hD : va_D A [(mo, .inr (7, mFs thr a1 a2 a3 (nI lt) (nI lb) (nI lz) ci a4 a5 a6 nu bk se op fa a7 a8 a9 a10 a11 (nI 14) kh kl sh sl a12 a13 a14 a15 a16 a17 a18 a19 a20)), (a4, .inl (cI, 32, .inl (nF gk))), (a7, .inl (cI, 256, .inl (nF gS))), (a8, .inl (cI, 240, .inl (nF ((kSch gS gk 8 gf gr j).2.2)))), (a11, .inl (cI, 4, .inl f_18))] := hD
                    obtain rfl : f_18 = nF (updN (iter (kSub gS ((iter (kFour ((kSch gS gk 8 gf gr j).2.2) (8 + j)) 4 ((kSch gS gk 8 gf gr j).2.1)) 0)) 4 (iter (kFour ((kSch gS gk 8 gf gr j).2.2) (8 + j)) 4 ((kSch gS gk 8 gf gr j).2.1))) 0 (((iter (kSub gS ((iter (kFour ((kSch gS gk 8 gf gr j).2.2) (8 + j)) 4 ((kSch gS gk 8 gf gr j).2.1)) 0)) 4 (iter (kFour ((kSch gS gk 8 gf gr j).2.2) (8 + j)) 4 ((kSch gS gk 8 gf gr j).2.1))) 0) ^^^ ((kSch gS gk 8 gf gr j).1))) := ef_18.trans (nF_set _ _ _)
                    have hP : va_P D vwCl [(mo, .inr (7, mFs thr a1 a2 a3 (nI lt) (nI lb) (nI lz) ci a4 a5 a6 nu bk se op fa a7 a8 a9 a10 a11 (nI 14) kh kl sh sl a12 a13 a14 a15 a16 a17 a18 a19 a20)), (a4, .inl (cI, 32, .inl (nF gk))), (a7, .inl (cI, 256, .inl (nF gS))), (a8, .inl (cI, 240, .inl (nF ((kSch gS gk 8 gf gr j).2.2)))), (a11, .inl (cI, 4, .inl (nF (updN (iter (kSub gS ((iter (kFour ((kSch gS gk 8 gf gr j).2.2) (8 + j)) 4 ((kSch gS gk 8 gf gr j).2.1)) 0)) 4 (iter (kFour ((kSch gS gk 8 gf gr j).2.2) (8 + j)) 4 ((kSch gS gk 8 gf gr j).2.1))) 0 (((iter (kSub gS ((iter (kFour ((kSch gS gk 8 gf gr j).2.2) (8 + j)) 4 ((kSch gS gk 8 gf gr j).2.1)) 0)) 4 (iter (kFour ((kSch gS gk 8 gf gr j).2.2) (8 + j)) 4 ((kSch gS gk 8 gf gr j).2.1))) 0) ^^^ ((kSch gS gk 8 gf gr j).1))))))] H := hP
                    have hD : va_D A [(mo, .inr (7, mFs thr a1 a2 a3 (nI lt) (nI lb) (nI lz) ci a4 a5 a6 nu bk se op fa a7 a8 a9 a10 a11 (nI 14) kh kl sh sl a12 a13 a14 a15 a16 a17 a18 a19 a20)), (a4, .inl (cI, 32, .inl (nF gk))), (a7, .inl (cI, 256, .inl (nF gS))), (a8, .inl (cI, 240, .inl (nF ((kSch gS gk 8 gf gr j).2.2)))), (a11, .inl (cI, 4, .inl (nF (updN (iter (kSub gS ((iter (kFour ((kSch gS gk 8 gf gr j).2.2) (8 + j)) 4 ((kSch gS gk 8 gf gr j).2.1)) 0)) 4 (iter (kFour ((kSch gS gk 8 gf gr j).2.2) (8 + j)) 4 ((kSch gS gk 8 gf gr j).2.1))) 0 (((iter (kSub gS ((iter (kFour ((kSch gS gk 8 gf gr j).2.2) (8 + j)) 4 ((kSch gS gk 8 gf gr j).2.1)) 0)) 4 (iter (kFour ((kSch gS gk 8 gf gr j).2.2) (8 + j)) 4 ((kSch gS gk 8 gf gr j).2.1))) 0) ^^^ ((kSch gS gk 8 gf gr j).1))))))] := hD
                    refine lv_iload_n hx hb d_M_schedule_157 rfl (lv_at hl 2 rfl) ?_
                    refine lv_iconst (v := 2) hx hb d_M_schedule_158 (by decide) ?_
                    refine vp_callSi (va_runS (As := [.int (nI ((kSch gS gk 8 gf gr j).1)), .int 2]) (rest := []) ⟨hx, hb, hml, hown, hts⟩ (c_M_times l D cI cL cB tS tF ((kSch gS gk 8 gf gr j).1) 2 hB1 (by omega)) (va_cwS 2 hts (sb_gS k_694 k_695 k_30 k_696) rfl rfl rfl (by decide +kernel) ⟨Nat.le_of_ble_eq_true rfl, Nat.le_of_ble_eq_true rfl⟩) (sb_rS hG hP hS [] rfl) rfl rfl hl.1 rfl (lv_room (Nat.le_of_ble_eq_true rfl)) d_M_schedule_159 ⟨Nat.le_of_ble_eq_true rfl, Nat.le_of_ble_eq_true rfl⟩).run (fun r_19 er_19 => ?_)
                    subst er_19
                    refine sb_topn (gmN ((kSch gS gk 8 gf gr j).1) 2) rfl ?_
                    refine lv_istore_n (lv' := [(2, .int (nI (gmN ((kSch gS gk 8 gf gr j).1) 2))), (5, .int (nI 4)), (4, .int (nI ((iter (kFour ((kSch gS gk 8 gf gr j).2.2) (8 + j)) 4 ((kSch gS gk 8 gf gr j).2.1)) 0))), (3, .int (nI (8 + j))), (0, .ref mo), (1, .int (nI 8))]) hx hb d_M_schedule_162 rfl hl (by decide) rfl (fun ls hl => ?_)
                    refine lv_goto (tgt := 213) hx hb d_M_schedule_163 (by decide) ?_
                    refine lv_iconst (v := 0) hx hb d_M_schedule_213 (by decide) ?_
                    refine lv_istore (lv' := [(4, .int 0), (2, .int (nI (gmN ((kSch gS gk 8 gf gr j).1) 2))), (5, .int (nI 4)), (3, .int (nI (8 + j))), (0, .ref mo), (1, .int (nI 8))]) hx hb d_M_schedule_214 hl (by decide) rfl (fun ls hl => ?_)
                    have lp8 : ∀ (d8 i : Nat), i + d8 = 4 → ∀ (H : Heap) (locs : List Loc) (ls : Array Slot), va_P D vwCl [(mo, .inr (7, mFs thr a1 a2 a3 (nI lt) (nI lb) (nI lz) ci a4 a5 a6 nu bk se op fa a7 a8 a9 a10 a11 (nI 14) kh kl sh sl a12 a13 a14 a15 a16 a17 a18 a19 a20)), (a4, .inl (cI, 32, .inl (nF gk))), (a7, .inl (cI, 256, .inl (nF gS))), (a8, .inl (cI, 240, .inl (nF (iter (kMix (updN (iter (kSub gS ((iter (kFour ((kSch gS gk 8 gf gr j).2.2) (8 + j)) 4 ((kSch gS gk 8 gf gr j).2.1)) 0)) 4 (iter (kFour ((kSch gS gk 8 gf gr j).2.2) (8 + j)) 4 ((kSch gS gk 8 gf gr j).2.1))) 0 (((iter (kSub gS ((iter (kFour ((kSch gS gk 8 gf gr j).2.2) (8 + j)) 4 ((kSch gS gk 8 gf gr j).2.1)) 0)) 4 (iter (kFour ((kSch gS gk 8 gf gr j).2.2) (8 + j)) 4 ((kSch gS gk 8 gf gr j).2.1))) 0) ^^^ ((kSch gS gk 8 gf gr j).1))) (8 + j) 8) i ((kSch gS gk 8 gf gr j).2.2))))), (a11, .inl (cI, 4, .inl (nF (updN (iter (kSub gS ((iter (kFour ((kSch gS gk 8 gf gr j).2.2) (8 + j)) 4 ((kSch gS gk 8 gf gr j).2.1)) 0)) 4 (iter (kFour ((kSch gS gk 8 gf gr j).2.2) (8 + j)) 4 ((kSch gS gk 8 gf gr j).2.1))) 0 (((iter (kSub gS ((iter (kFour ((kSch gS gk 8 gf gr j).2.2) (8 + j)) 4 ((kSch gS gk 8 gf gr j).2.1)) 0)) 4 (iter (kFour ((kSch gS gk 8 gf gr j).2.2) (8 + j)) 4 ((kSch gS gk 8 gf gr j).2.1))) 0) ^^^ ((kSch gS gk 8 gf gr j).1))))))] H → va_D A [(mo, .inr (7, mFs thr a1 a2 a3 (nI lt) (nI lb) (nI lz) ci a4 a5 a6 nu bk se op fa a7 a8 a9 a10 a11 (nI 14) kh kl sh sl a12 a13 a14 a15 a16 a17 a18 a19 a20)), (a4, .inl (cI, 32, .inl (nF gk))), (a7, .inl (cI, 256, .inl (nF gS))), (a8, .inl (cI, 240, .inl (nF (iter (kMix (updN (iter (kSub gS ((iter (kFour ((kSch gS gk 8 gf gr j).2.2) (8 + j)) 4 ((kSch gS gk 8 gf gr j).2.1)) 0)) 4 (iter (kFour ((kSch gS gk 8 gf gr j).2.2) (8 + j)) 4 ((kSch gS gk 8 gf gr j).2.1))) 0 (((iter (kSub gS ((iter (kFour ((kSch gS gk 8 gf gr j).2.2) (8 + j)) 4 ((kSch gS gk 8 gf gr j).2.1)) 0)) 4 (iter (kFour ((kSch gS gk 8 gf gr j).2.2) (8 + j)) 4 ((kSch gS gk 8 gf gr j).2.1))) 0) ^^^ ((kSch gS gk 8 gf gr j).1))) (8 + j) 8) i ((kSch gS gk 8 gf gr j).2.2))))), (a11, .inl (cI, 4, .inl (nF (updN (iter (kSub gS ((iter (kFour ((kSch gS gk 8 gf gr j).2.2) (8 + j)) 4 ((kSch gS gk 8 gf gr j).2.1)) 0)) 4 (iter (kFour ((kSch gS gk 8 gf gr j).2.2) (8 + j)) 4 ((kSch gS gk 8 gf gr j).2.1))) 0 (((iter (kSub gS ((iter (kFour ((kSch gS gk 8 gf gr j).2.2) (8 + j)) 4 ((kSch gS gk 8 gf gr j).2.1)) 0)) 4 (iter (kFour ((kSch gS gk 8 gf gr j).2.2) (8 + j)) 4 ((kSch gS gk 8 gf gr j).2.1))) 0) ^^^ ((kSch gS gk 8 gf gr j).1))))))] → va_S A s.heap H locs → lv_has ls 6 [(4, .int (nI i)), (2, .int (nI (gmN ((kSch gS gk 8 gf gr j).1) 2))), (3, .int (nI (8 + j))), (0, .ref mo), (1, .int (nI 8))] → W p l e rm_M_schedule8 s m args below meth c H locs 0 0 (MQ below (sbQv D (fun (_ : Unit) => True) (fun (_ : Unit) => [(mo, .inr (7, mFs thr a1 a2 a3 (nI lt) (nI lb) (nI lz) ci a4 a5 a6 nu bk se op fa a7 a8 a9 a10 a11 (nI 14) kh kl sh sl a12 a13 a14 a15 a16 a17 a18 a19 a20)), (a4, .inl (cI, 32, .inl (nF gk))), (a7, .inl (cI, 256, .inl (nF gS))), (a8, .inl (cI, 240, .inl (nF ((kSch gS gk 8 gf gr 52).2.2)))), (a11, .inl (cI, 4, .inl (nF ((kSch gS gk 8 gf gr 52).2.1))))]) A) args s 0 0 A) (F0 m 216 ls []) := by
                      intro d8
                      induction d8 with
                      | zero =>
                        intro i hi8 H locs ls hP hD hS hl
                        obtain rfl : 4 = i := by omega
                        refine lv_iload hx hb d_M_schedule_216 (lv_at hl 0 rfl) ?_
                        refine lv_iconst (v := 4) hx hb d_M_schedule_218 (by decide) ?_
                        refine lv_icmp_ge (tgt := 260) hx hb d_M_schedule_219 (by decide) (fun c_20 => ?_) (fun c_20 => absurd (sb_geT (a := 4) (b := 4) rfl rfl (by omega) (by omega) (by omega)) c_20)
                        refine lv_iinc (v := nI ((8 + j) + 1)) (lv' := [(3, .int (nI ((8 + j) + 1))), (4, .int (nI 4)), (2, .int (nI (gmN ((kSch gS gk 8 gf gr j).1) 2))), (0, .ref mo), (1, .int (nI 8))]) hx hb d_M_schedule_260 hl (k := 2) rfl (sb_inc (a := 8 + j) (b := (8 + j) + 1) (d := 1) rfl (by decide) (by omega)) (by decide) rfl (fun ls hl => ?_)
                        refine lv_goto (tgt := 39) hx hb d_M_schedule_263 (by decide) ?_
                        have hE : kSch gS gk 8 gf gr (j + 1) = ((gmN ((kSch gS gk 8 gf gr j).1) 2), updN (iter (kSub gS ((iter (kFour ((kSch gS gk 8 gf gr j).2.2) (8 + j)) 4 ((kSch gS gk 8 gf gr j).2.1)) 0)) 4 (iter (kFour ((kSch gS gk 8 gf gr j).2.2) (8 + j)) 4 ((kSch gS gk 8 gf gr j).2.1))) 0 (((iter (kSub gS ((iter (kFour ((kSch gS gk 8 gf gr j).2.2) (8 + j)) 4 ((kSch gS gk 8 gf gr j).2.1)) 0)) 4 (iter (kFour ((kSch gS gk 8 gf gr j).2.2) (8 + j)) 4 ((kSch gS gk 8 gf gr j).2.1))) 0) ^^^ ((kSch gS gk 8 gf gr j).1)), iter (kMix (updN (iter (kSub gS ((iter (kFour ((kSch gS gk 8 gf gr j).2.2) (8 + j)) 4 ((kSch gS gk 8 gf gr j).2.1)) 0)) 4 (iter (kFour ((kSch gS gk 8 gf gr j).2.2) (8 + j)) 4 ((kSch gS gk 8 gf gr j).2.1))) 0 (((iter (kSub gS ((iter (kFour ((kSch gS gk 8 gf gr j).2.2) (8 + j)) 4 ((kSch gS gk 8 gf gr j).2.1)) 0)) 4 (iter (kFour ((kSch gS gk 8 gf gr j).2.2) (8 + j)) 4 ((kSch gS gk 8 gf gr j).2.1))) 0) ^^^ ((kSch gS gk 8 gf gr j).1))) (8 + j) 8) 4 ((kSch gS gk 8 gf gr j).2.2)) := (by show kStep gS 8 j (kSch gS gk 8 gf gr j) = _; unfold kStep; simp only [if_pos c_5]; rfl)
                        have ih' := ih2 (j + 1) (by omega)
                        rw [hE] at ih'
                        exact ih' _ _ ls (hP.sub [0, 1, 2, 3, 4] rfl) (hD.sub [0, 1, 2, 3, 4] (by decide) rfl) hS (lv_sub hl [2, 0, 3, 4] rfl)
                      | succ d8 ih8 =>
                        intro i hi8 H locs ls hP hD hS hl
                        refine lv_iload hx hb d_M_schedule_216 (lv_at hl 0 rfl) ?_
                        refine lv_iconst (v := 4) hx hb d_M_schedule_218 (by decide) ?_
                        refine lv_icmp_ge (tgt := 260) hx hb d_M_schedule_219 (by decide) (fun c_21 => absurd c_21 (sb_geF (a := i) (b := 4) rfl rfl (by omega) (by omega) (by omega))) (fun c_21 => ?_)
                        refine lv_aload_n hx hb d_M_schedule_222 rfl (lv_at hl 3 rfl) ?_
                        refine va_get (D := D) (ci := 7) (v := .ref a8) (C := R_M) (T := F_M) (N := 35) hx hb hts in_M hown hG.1 hP 0 rfl rfl 17 (by decide) (hts _ k_714) (fun _ h9 => h9) rfl d_M_schedule_223 ?_
                        refine lv_iconst (v := 4) hx hb d_M_schedule_226 (by decide) ?_
                        refine lv_iload_n hx hb d_M_schedule_227 rfl (lv_at hl 2 rfl) ?_
                        refine lv_imul hx hb d_M_schedule_228 ?_
                        refine sb_topn (4 * (8 + j)) (sb_mul (a := 4) (b := 8 + j) rfl rfl) ?_
                        refine lv_iload hx hb d_M_schedule_229 (lv_at hl 0 rfl) ?_
                        refine lv_iadd hx hb d_M_schedule_231 ?_
                        refine sb_topn ((4 * (8 + j)) + i) (nI_add (4 * (8 + j)) i) ?_
                        refine lv_aload_n hx hb d_M_schedule_232 rfl (lv_at hl 3 rfl) ?_
                        refine va_get (D := D) (ci := 7) (v := .ref a8) (C := R_M) (T := F_M) (N := 35) hx hb hts in_M hown hG.1 hP 0 rfl rfl 17 (by decide) (hts _ k_714) (fun _ h9 => h9) rfl d_M_schedule_233 ?_
                        refine lv_iconst (v := 4) hx hb d_M_schedule_236 (by decide) ?_
                        refine lv_iload_n hx hb d_M_schedule_237 rfl (lv_at hl 2 rfl) ?_
                        refine lv_iload_n hx hb d_M_schedule_238 rfl (lv_at hl 4 rfl) ?_
                        refine lv_isub hx hb d_M_schedule_239 ?_
                        refine sb_topn ((8 + j) - 8) (sb_sub (a := 8 + j) (b := 8) (by omega) rfl rfl) ?_
                        refine lv_imul hx hb d_M_schedule_240 ?_
                        refine sb_topn (4 * ((8 + j) - 8)) (sb_mul (a := 4) (b := (8 + j) - 8) rfl rfl) ?_
                        refine lv_iload hx hb d_M_schedule_241 (lv_at hl 0 rfl) ?_
                        refine lv_iadd hx hb d_M_schedule_243 ?_
                        refine sb_topn ((4 * ((8 + j) - 8)) + i) (nI_add (4 * ((8 + j) - 8)) i) ?_
                        refine sb_ild hx hb hG.1 hP 3 rfl ((4 * ((8 + j) - 8)) + i) rfl (by omega) (by omega) d_M_schedule_244 ?_
                        refine lv_aload_n hx hb d_M_schedule_245 rfl (lv_at hl 3 rfl) ?_
                        refine va_get (D := D) (ci := 7) (v := .ref a11) (C := R_M) (T := F_M) (N := 35) hx hb hts in_M hown hG.1 hP 0 rfl rfl 20 (by decide) (hts _ k_717) (fun _ h9 => h9) rfl d_M_schedule_246 ?_
                        refine lv_iload hx hb d_M_schedule_249 (lv_at hl 0 rfl) ?_
                        refine sb_ild hx hb hG.1 hP 4 rfl i rfl (by omega) (by omega) d_M_schedule_251 ?_
                        refine lv_ixor hx hb d_M_schedule_252 ?_
                        refine sb_topn (((iter (kMix (updN (iter (kSub gS ((iter (kFour ((kSch gS gk 8 gf gr j).2.2) (8 + j)) 4 ((kSch gS gk 8 gf gr j).2.1)) 0)) 4 (iter (kFour ((kSch gS gk 8 gf gr j).2.2) (8 + j)) 4 ((kSch gS gk 8 gf gr j).2.1))) 0 (((iter (kSub gS ((iter (kFour ((kSch gS gk 8 gf gr j).2.2) (8 + j)) 4 ((kSch gS gk 8 gf gr j).2.1)) 0)) 4 (iter (kFour ((kSch gS gk 8 gf gr j).2.2) (8 + j)) 4 ((kSch gS gk 8 gf gr j).2.1))) 0) ^^^ ((kSch gS gk 8 gf gr j).1))) (8 + j) 8) i ((kSch gS gk 8 gf gr j).2.2)) ((4 * ((8 + j) - 8)) + i)) ^^^ ((updN (iter (kSub gS ((iter (kFour ((kSch gS gk 8 gf gr j).2.2) (8 + j)) 4 ((kSch gS gk 8 gf gr j).2.1)) 0)) 4 (iter (kFour ((kSch gS gk 8 gf gr j).2.2) (8 + j)) 4 ((kSch gS gk 8 gf gr j).2.1))) 0 (((iter (kSub gS ((iter (kFour ((kSch gS gk 8 gf gr j).2.2) (8 + j)) 4 ((kSch gS gk 8 gf gr j).2.1)) 0)) 4 (iter (kFour ((kSch gS gk 8 gf gr j).2.2) (8 + j)) 4 ((kSch gS gk 8 gf gr j).2.1))) 0) ^^^ ((kSch gS gk 8 gf gr j).1))) i)) (sb_xor (a := (iter (kMix (updN (iter (kSub gS ((iter (kFour ((kSch gS gk 8 gf gr j).2.2) (8 + j)) 4 ((kSch gS gk 8 gf gr j).2.1)) 0)) 4 (iter (kFour ((kSch gS gk 8 gf gr j).2.2) (8 + j)) 4 ((kSch gS gk 8 gf gr j).2.1))) 0 (((iter (kSub gS ((iter (kFour ((kSch gS gk 8 gf gr j).2.2) (8 + j)) 4 ((kSch gS gk 8 gf gr j).2.1)) 0)) 4 (iter (kFour ((kSch gS gk 8 gf gr j).2.2) (8 + j)) 4 ((kSch gS gk 8 gf gr j).2.1))) 0) ^^^ ((kSch gS gk 8 gf gr j).1))) (8 + j) 8) i ((kSch gS gk 8 gf gr j).2.2)) ((4 * ((8 + j) - 8)) + i)) (b := (updN (iter (kSub gS ((iter (kFour ((kSch gS gk 8 gf gr j).2.2) (8 + j)) 4 ((kSch gS gk 8 gf gr j).2.1)) 0)) 4 (iter (kFour ((kSch gS gk 8 gf gr j).2.2) (8 + j)) 4 ((kSch gS gk 8 gf gr j).2.1))) 0 (((iter (kSub gS ((iter (kFour ((kSch gS gk 8 gf gr j).2.2) (8 + j)) 4 ((kSch gS gk 8 gf gr j).2.1)) 0)) 4 (iter (kFour ((kSch gS gk 8 gf gr j).2.2) (8 + j)) 4 ((kSch gS gk 8 gf gr j).2.1))) 0) ^^^ ((kSch gS gk 8 gf gr j).1))) i) rfl rfl) ?_
                        refine sb_topn (((iter (kMix (updN (iter (kSub gS ((iter (kFour ((kSch gS gk 8 gf gr j).2.2) (8 + j)) 4 ((kSch gS gk 8 gf gr j).2.1)) 0)) 4 (iter (kFour ((kSch gS gk 8 gf gr j).2.2) (8 + j)) 4 ((kSch gS gk 8 gf gr j).2.1))) 0 (((iter (kSub gS ((iter (kFour ((kSch gS gk 8 gf gr j).2.2) (8 + j)) 4 ((kSch gS gk 8 gf gr j).2.1)) 0)) 4 (iter (kFour ((kSch gS gk 8 gf gr j).2.2) (8 + j)) 4 ((kSch gS gk 8 gf gr j).2.1))) 0) ^^^ ((kSch gS gk 8 gf gr j).1))) (8 + j) 8) i ((kSch gS gk 8 gf gr j).2.2)) ((4 * ((8 + j) - 8)) + i)) ^^^ ((updN (iter (kSub gS ((iter (kFour ((kSch gS gk 8 gf gr j).2.2) (8 + j)) 4 ((kSch gS gk 8 gf gr j).2.1)) 0)) 4 (iter (kFour ((kSch gS gk 8 gf gr j).2.2) (8 + j)) 4 ((kSch gS gk 8 gf gr j).2.1))) 0 (((iter (kSub gS ((iter (kFour ((kSch gS gk 8 gf gr j).2.2) (8 + j)) 4 ((kSch gS gk 8 gf gr j).2.1)) 0)) 4 (iter (kFour ((kSch gS gk 8 gf gr j).2.2) (8 + j)) 4 ((kSch gS gk 8 gf gr j).2.1))) 0) ^^^ ((kSch gS gk 8 gf gr j).1))) i)) rfl ?_
                        refine sb_ist hx hb hG.1 hP hD hS 3 rfl ((4 * (8 + j)) + i) rfl (by omega) (by omega) d_M_schedule_253 (fun f_22 H locs ef_22 hP hD hS => ?_)
                        have hP : va_P D vwCl [(mo, .inr (7, mFs thr a1 a2 a3 (nI lt) (nI lb) (nI lz) ci a4 a5 a6 nu bk se op fa a7 a8 a9 a10 a11 (nI 14) kh kl sh sl a12 a13 a14 a15 a16 a17 a18 a19 a20)), (a4, .inl (cI, 32, .inl (nF gk))), (a7, .inl (cI, 256, .inl (nF gS))), (a8, .inl (cI, 240, .inl f_22)), (a11, .inl (cI, 4, .inl (nF (updN (iter (kSub gS ((iter (kFour ((kSch gS gk 8 gf gr j).2.2) (8 + j)) 4 ((kSch gS gk 8 gf gr j).2.1)) 0)) 4 (iter (kFour ((kSch gS gk 8 gf gr j).2.2) (8 + j)) 4 ((kSch gS gk 8 gf gr j).2.1))) 0 (((iter (kSub gS ((iter (kFour ((kSch gS gk 8 gf gr j).2.2) (8 + j)) 4 ((kSch gS gk 8 gf gr j).2.1)) 0)) 4 (iter (kFour ((kSch gS gk 8 gf gr j).2.2) (8 + j)) 4 ((kSch gS gk 8 gf gr j).2.1))) 0) ^^^ ((kSch gS gk 8 gf gr j).1))))))] H := hP
                        have hD : va_D A [(mo, .inr (7, mFs thr a1 a2 a3 (nI lt) (nI lb) (nI lz) ci a4 a5 a6 nu bk se op fa a7 a8 a9 a10 a11 (nI 14) kh kl sh sl a12 a13 a14 a15 a16 a17 a18 a19 a20)), (a4, .inl (cI, 32, .inl (nF gk))), (a7, .inl (cI, 256, .inl (nF gS))), (a8, .inl (cI, 240, .inl f_22)), (a11, .inl (cI, 4, .inl (nF (updN (iter (kSub gS ((iter (kFour ((kSch gS gk 8 gf gr j).2.2) (8 + j)) 4 ((kSch gS gk 8 gf gr j).2.1)) 0)) 4 (iter (kFour ((kSch gS gk 8 gf gr j).2.2) (8 + j)) 4 ((kSch gS gk 8 gf gr j).2.1))) 0 (((iter (kSub gS ((iter (kFour ((kSch gS gk 8 gf gr j).2.2) (8 + j)) 4 ((kSch gS gk 8 gf gr j).2.1)) 0)) 4 (iter (kFour ((kSch gS gk 8 gf gr j).2.2) (8 + j)) 4 ((kSch gS gk 8 gf gr j).2.1))) 0) ^^^ ((kSch gS gk 8 gf gr j).1))))))] := hD
                        obtain rfl : f_22 = nF (updN (iter (kMix (updN (iter (kSub gS ((iter (kFour ((kSch gS gk 8 gf gr j).2.2) (8 + j)) 4 ((kSch gS gk 8 gf gr j).2.1)) 0)) 4 (iter (kFour ((kSch gS gk 8 gf gr j).2.2) (8 + j)) 4 ((kSch gS gk 8 gf gr j).2.1))) 0 (((iter (kSub gS ((iter (kFour ((kSch gS gk 8 gf gr j).2.2) (8 + j)) 4 ((kSch gS gk 8 gf gr j).2.1)) 0)) 4 (iter (kFour ((kSch gS gk 8 gf gr j).2.2) (8 + j)) 4 ((kSch gS gk 8 gf gr j).2.1))) 0) ^^^ ((kSch gS gk 8 gf gr j).1))) (8 + j) 8) i ((kSch gS gk 8 gf gr j).2.2)) ((4 * (8 + j)) + i) (((iter (kMix (updN (iter (kSub gS ((iter (kFour ((kSch gS gk 8 gf gr j).2.2) (8 + j)) 4 ((kSch gS gk 8 gf gr j).2.1)) 0)) 4 (iter (kFour ((kSch gS gk 8 gf gr j).2.2) (8 + j)) 4 ((kSch gS gk 8 gf gr j).2.1))) 0 (((iter (kSub gS ((iter (kFour ((kSch gS gk 8 gf gr j).2.2) (8 + j)) 4 ((kSch gS gk 8 gf gr j).2.1)) 0)) 4 (iter (kFour ((kSch gS gk 8 gf gr j).2.2) (8 + j)) 4 ((kSch gS gk 8 gf gr j).2.1))) 0) ^^^ ((kSch gS gk 8 gf gr j).1))) (8 + j) 8) i ((kSch gS gk 8 gf gr j).2.2)) ((4 * ((8 + j) - 8)) + i)) ^^^ ((updN (iter (kSub gS ((iter (kFour ((kSch gS gk 8 gf gr j).2.2) (8 + j)) 4 ((kSch gS gk 8 gf gr j).2.1)) 0)) 4 (iter (kFour ((kSch gS gk 8 gf gr j).2.2) (8 + j)) 4 ((kSch gS gk 8 gf gr j).2.1))) 0 (((iter (kSub gS ((iter (kFour ((kSch gS gk 8 gf gr j).2.2) (8 + j)) 4 ((kSch gS gk 8 gf gr j).2.1)) 0)) 4 (iter (kFour ((kSch gS gk 8 gf gr j).2.2) (8 + j)) 4 ((kSch gS gk 8 gf gr j).2.1))) 0) ^^^ ((kSch gS gk 8 gf gr j).1))) i))) := ef_22.trans (nF_set _ _ _)
                        have hP : va_P D vwCl [(mo, .inr (7, mFs thr a1 a2 a3 (nI lt) (nI lb) (nI lz) ci a4 a5 a6 nu bk se op fa a7 a8 a9 a10 a11 (nI 14) kh kl sh sl a12 a13 a14 a15 a16 a17 a18 a19 a20)), (a4, .inl (cI, 32, .inl (nF gk))), (a7, .inl (cI, 256, .inl (nF gS))), (a8, .inl (cI, 240, .inl (nF (updN (iter (kMix (updN (iter (kSub gS ((iter (kFour ((kSch gS gk 8 gf gr j).2.2) (8 + j)) 4 ((kSch gS gk 8 gf gr j).2.1)) 0)) 4 (iter (kFour ((kSch gS gk 8 gf gr j).2.2) (8 + j)) 4 ((kSch gS gk 8 gf gr j).2.1))) 0 (((iter (kSub gS ((iter (kFour ((kSch gS gk 8 gf gr j).2.2) (8 + j)) 4 ((kSch gS gk 8 gf gr j).2.1)) 0)) 4 (iter (kFour ((kSch gS gk 8 gf gr j).2.2) (8 + j)) 4 ((kSch gS gk 8 gf gr j).2.1))) 0) ^^^ ((kSch gS gk 8 gf gr j).1))) (8 + j) 8) i ((kSch gS gk 8 gf gr j).2.2)) ((4 * (8 + j)) + i) (((iter (kMix (updN (iter (kSub gS ((iter (kFour ((kSch gS gk 8 gf gr j).2.2) (8 + j)) 4 ((kSch gS gk 8 gf gr j).2.1)) 0)) 4 (iter (kFour ((kSch gS gk 8 gf gr j).2.2) (8 + j)) 4 ((kSch gS gk 8 gf gr j).2.1))) 0 (((iter (kSub gS ((iter (kFour ((kSch gS gk 8 gf gr j).2.2) (8 + j)) 4 ((kSch gS gk 8 gf gr j).2.1)) 0)) 4 (iter (kFour ((kSch gS gk 8 gf gr j).2.2) (8 + j)) 4 ((kSch gS gk 8 gf gr j).2.1))) 0) ^^^ ((kSch gS gk 8 gf gr j).1))) (8 + j) 8) i ((kSch gS gk 8 gf gr j).2.2)) ((4 * ((8 + j) - 8)) + i)) ^^^ ((updN (iter (kSub gS ((iter (kFour ((kSch gS gk 8 gf gr j).2.2) (8 + j)) 4 ((kSch gS gk 8 gf gr j).2.1)) 0)) 4 (iter (kFour ((kSch gS gk 8 gf gr j).2.2) (8 + j)) 4 ((kSch gS gk 8 gf gr j).2.1))) 0 (((iter (kSub gS ((iter (kFour ((kSch gS gk 8 gf gr j).2.2) (8 + j)) 4 ((kSch gS gk 8 gf gr j).2.1)) 0)) 4 (iter (kFour ((kSch gS gk 8 gf gr j).2.2) (8 + j)) 4 ((kSch gS gk 8 gf gr j).2.1))) 0) ^^^ ((kSch gS gk 8 gf gr j).1))) i)))))), (a11, .inl (cI, 4, .inl (nF (updN (iter (kSub gS ((iter (kFour ((kSch gS gk 8 gf gr j).2.2) (8 + j)) 4 ((kSch gS gk 8 gf gr j).2.1)) 0)) 4 (iter (kFour ((kSch gS gk 8 gf gr j).2.2) (8 + j)) 4 ((kSch gS gk 8 gf gr j).2.1))) 0 (((iter (kSub gS ((iter (kFour ((kSch gS gk 8 gf gr j).2.2) (8 + j)) 4 ((kSch gS gk 8 gf gr j).2.1)) 0)) 4 (iter (kFour ((kSch gS gk 8 gf gr j).2.2) (8 + j)) 4 ((kSch gS gk 8 gf gr j).2.1))) 0) ^^^ ((kSch gS gk 8 gf gr j).1))))))] H := hP
                        have hD : va_D A [(mo, .inr (7, mFs thr a1 a2 a3 (nI lt) (nI lb) (nI lz) ci a4 a5 a6 nu bk se op fa a7 a8 a9 a10 a11 (nI 14) kh kl sh sl a12 a13 a14 a15 a16 a17 a18 a19 a20)), (a4, .inl (cI, 32, .inl (nF gk))), (a7, .inl (cI, 256, .inl (nF gS))), (a8, .inl (cI, 240, .inl (nF (updN (iter (kMix (updN (iter (kSub gS ((iter (kFour ((kSch gS gk 8 gf gr j).2.2) (8 + j)) 4 ((kSch gS gk 8 gf gr j).2.1)) 0)) 4 (iter (kFour ((kSch gS gk 8 gf gr j).2.2) (8 + j)) 4 ((kSch gS gk 8 gf gr j).2.1))) 0 (((iter (kSub gS ((iter (kFour ((kSch gS gk 8 gf gr j).2.2) (8 + j)) 4 ((kSch gS gk 8 gf gr j).2.1)) 0)) 4 (iter (kFour ((kSch gS gk 8 gf gr j).2.2) (8 + j)) 4 ((kSch gS gk 8 gf gr j).2.1))) 0) ^^^ ((kSch gS gk 8 gf gr j).1))) (8 + j) 8) i ((kSch gS gk 8 gf gr j).2.2)) ((4 * (8 + j)) + i) (((iter (kMix (updN (iter (kSub gS ((iter (kFour ((kSch gS gk 8 gf gr j).2.2) (8 + j)) 4 ((kSch gS gk 8 gf gr j).2.1)) 0)) 4 (iter (kFour ((kSch gS gk 8 gf gr j).2.2) (8 + j)) 4 ((kSch gS gk 8 gf gr j).2.1))) 0 (((iter (kSub gS ((iter (kFour ((kSch gS gk 8 gf gr j).2.2) (8 + j)) 4 ((kSch gS gk 8 gf gr j).2.1)) 0)) 4 (iter (kFour ((kSch gS gk 8 gf gr j).2.2) (8 + j)) 4 ((kSch gS gk 8 gf gr j).2.1))) 0) ^^^ ((kSch gS gk 8 gf gr j).1))) (8 + j) 8) i ((kSch gS gk 8 gf gr j).2.2)) ((4 * ((8 + j) - 8)) + i)) ^^^ ((updN (iter (kSub gS ((iter (kFour ((kSch gS gk 8 gf gr j).2.2) (8 + j)) 4 ((kSch gS gk 8 gf gr j).2.1)) 0)) 4 (iter (kFour ((kSch gS gk 8 gf gr j).2.2) (8 + j)) 4 ((kSch gS gk 8 gf gr j).2.1))) 0 (((iter (kSub gS ((iter (kFour ((kSch gS gk 8 gf gr j).2.2) (8 + j)) 4 ((kSch gS gk 8 gf gr j).2.1)) 0)) 4 (iter (kFour ((kSch gS gk 8 gf gr j).2.2) (8 + j)) 4 ((kSch gS gk 8 gf gr j).2.1))) 0) ^^^ ((kSch gS gk 8 gf gr j).1))) i)))))), (a11, .inl (cI, 4, .inl (nF (updN (iter (kSub gS ((iter (kFour ((kSch gS gk 8 gf gr j).2.2) (8 + j)) 4 ((kSch gS gk 8 gf gr j).2.1)) 0)) 4 (iter (kFour ((kSch gS gk 8 gf gr j).2.2) (8 + j)) 4 ((kSch gS gk 8 gf gr j).2.1))) 0 (((iter (kSub gS ((iter (kFour ((kSch gS gk 8 gf gr j).2.2) (8 + j)) 4 ((kSch gS gk 8 gf gr j).2.1)) 0)) 4 (iter (kFour ((kSch gS gk 8 gf gr j).2.2) (8 + j)) 4 ((kSch gS gk 8 gf gr j).2.1))) 0) ^^^ ((kSch gS gk 8 gf gr j).1))))))] := hD
                        refine lv_iinc (v := nI (i + 1)) (lv' := [(4, .int (nI (i + 1))), (2, .int (nI (gmN ((kSch gS gk 8 gf gr j).1) 2))), (3, .int (nI (8 + j))), (0, .ref mo), (1, .int (nI 8))]) hx hb d_M_schedule_254 hl (k := 0) rfl (sb_inc (a := i) (b := i + 1) (d := 1) rfl (by decide) (by omega)) (by decide) rfl (fun ls hl => ?_)
                        refine lv_goto (tgt := 216) hx hb d_M_schedule_257 (by decide) ?_
                        rw [show nF (updN (iter (kMix (updN (iter (kSub gS ((iter (kFour ((kSch gS gk 8 gf gr j).2.2) (8 + j)) 4 ((kSch gS gk 8 gf gr j).2.1)) 0)) 4 (iter (kFour ((kSch gS gk 8 gf gr j).2.2) (8 + j)) 4 ((kSch gS gk 8 gf gr j).2.1))) 0 (((iter (kSub gS ((iter (kFour ((kSch gS gk 8 gf gr j).2.2) (8 + j)) 4 ((kSch gS gk 8 gf gr j).2.1)) 0)) 4 (iter (kFour ((kSch gS gk 8 gf gr j).2.2) (8 + j)) 4 ((kSch gS gk 8 gf gr j).2.1))) 0) ^^^ ((kSch gS gk 8 gf gr j).1))) (8 + j) 8) i ((kSch gS gk 8 gf gr j).2.2)) ((4 * (8 + j)) + i) (((iter (kMix (updN (iter (kSub gS ((iter (kFour ((kSch gS gk 8 gf gr j).2.2) (8 + j)) 4 ((kSch gS gk 8 gf gr j).2.1)) 0)) 4 (iter (kFour ((kSch gS gk 8 gf gr j).2.2) (8 + j)) 4 ((kSch gS gk 8 gf gr j).2.1))) 0 (((iter (kSub gS ((iter (kFour ((kSch gS gk 8 gf gr j).2.2) (8 + j)) 4 ((kSch gS gk 8 gf gr j).2.1)) 0)) 4 (iter (kFour ((kSch gS gk 8 gf gr j).2.2) (8 + j)) 4 ((kSch gS gk 8 gf gr j).2.1))) 0) ^^^ ((kSch gS gk 8 gf gr j).1))) (8 + j) 8) i ((kSch gS gk 8 gf gr j).2.2)) ((4 * ((8 + j) - 8)) + i)) ^^^ ((updN (iter (kSub gS ((iter (kFour ((kSch gS gk 8 gf gr j).2.2) (8 + j)) 4 ((kSch gS gk 8 gf gr j).2.1)) 0)) 4 (iter (kFour ((kSch gS gk 8 gf gr j).2.2) (8 + j)) 4 ((kSch gS gk 8 gf gr j).2.1))) 0 (((iter (kSub gS ((iter (kFour ((kSch gS gk 8 gf gr j).2.2) (8 + j)) 4 ((kSch gS gk 8 gf gr j).2.1)) 0)) 4 (iter (kFour ((kSch gS gk 8 gf gr j).2.2) (8 + j)) 4 ((kSch gS gk 8 gf gr j).2.1))) 0) ^^^ ((kSch gS gk 8 gf gr j).1))) i))) = nF (iter (kMix (updN (iter (kSub gS ((iter (kFour ((kSch gS gk 8 gf gr j).2.2) (8 + j)) 4 ((kSch gS gk 8 gf gr j).2.1)) 0)) 4 (iter (kFour ((kSch gS gk 8 gf gr j).2.2) (8 + j)) 4 ((kSch gS gk 8 gf gr j).2.1))) 0 (((iter (kSub gS ((iter (kFour ((kSch gS gk 8 gf gr j).2.2) (8 + j)) 4 ((kSch gS gk 8 gf gr j).2.1)) 0)) 4 (iter (kFour ((kSch gS gk 8 gf gr j).2.2) (8 + j)) 4 ((kSch gS gk 8 gf gr j).2.1))) 0) ^^^ ((kSch gS gk 8 gf gr j).1))) (8 + j) 8) (i + 1) ((kSch gS gk 8 gf gr j).2.2)) from rfl] at hP hD
                        exact ih8 (i + 1) (by omega) _ _ ls (hP.sub [0, 1, 2, 3, 4] rfl) (hD.sub [0, 1, 2, 3, 4] (by decide) rfl) hS (lv_sub hl [0, 1, 2, 3, 4] rfl)
                    exact lp8 4 0 (by omega) _ _ ls (hP.sub [0, 1, 2, 3, 4] rfl) (hD.sub [0, 1, 2, 3, 4] (by decide) rfl) hS (lv_sub hl [0, 1, 3, 4, 5] rfl)
                  | succ d7 ih7 =>
                    intro i hi7 H locs ls hP hD hS hl
                    have hC := kF1_B (q := (kSch gS gk 8 gf gr j)) ⟨hB1, hB2, hB3⟩ (8 + j)
                    have hC2 := kSub_B hgS (kF1 (8 + j) (kSch gS gk 8 gf gr j) 0) i _ hC
                    refine lv_iload hx hb d_M_schedule_103 (lv_at hl 0 rfl) ?_
                    refine lv_iconst (v := 4) hx hb d_M_schedule_105 (by decide) ?_
                    refine lv_icmp_ge (tgt := 147) hx hb d_M_schedule_106 (by decide) (fun c_23 => absurd c_23 (sb_geF (a := i) (b := 4) rfl rfl (by omega) (by omega) (by omega))) (fun c_23 => ?_)
                    refine lv_aload_n hx hb d_M_schedule_109 rfl (lv_at hl 4 rfl) ?_
                    refine va_get (D := D) (ci := 7) (v := .ref a11) (C := R_M) (T := F_M) (N := 35) hx hb hts in_M hown hG.1 hP 0 rfl rfl 20 (by decide) (hts _ k_717) (fun _ h9 => h9) rfl d_M_schedule_110 ?_
                    refine lv_iload hx hb d_M_schedule_113 (lv_at hl 0 rfl) ?_
                    refine lv_aload_n hx hb d_M_schedule_115 rfl (lv_at hl 4 rfl) ?_
                    refine va_get (D := D) (ci := 7) (v := .ref a7) (C := R_M) (T := F_M) (N := 35) hx hb hts in_M hown hG.1 hP 0 rfl rfl 16 (by decide) (hts _ k_713) (fun _ h9 => h9) rfl d_M_schedule_116 ?_
                    refine lv_iload hx hb d_M_schedule_119 (lv_at hl 0 rfl) ?_
                    refine lv_iconst (v := 3) hx hb d_M_schedule_121 (by decide) ?_
                    refine lv_icmp_ge (tgt := 137) hx hb d_M_schedule_122 (by decide) (fun c_24 => ?_) (fun c_24 => ?_)
                    · have c_24 := (sb_geI (a := i) (b := 3) rfl rfl (by omega) (by omega)).mp c_24
                      refine lv_iload hx hb d_M_schedule_137 (lv_at hl 1 rfl) ?_
                      refine sb_ild hx hb hG.1 hP 2 rfl ((iter (kFour ((kSch gS gk 8 gf gr j).2.2) (8 + j)) 4 ((kSch gS gk 8 gf gr j).2.1)) 0) rfl (hC 0) (by omega) d_M_schedule_139 ?_
                      refine sb_topn (gS ((iter (kFour ((kSch gS gk 8 gf gr j).2.2) (8 + j)) 4 ((kSch gS gk 8 gf gr j).2.1)) 0)) rfl ?_
                      refine sb_ist hx hb hG.1 hP hD hS 4 rfl i rfl (by omega) (by omega) d_M_schedule_140 (fun f_25 H locs ef_25 hP hD hS => ?_)
                      have hP : va_P D vwCl [(mo, .inr (7, mFs thr a1 a2 a3 (nI lt) (nI lb) (nI lz) ci a4 a5 a6 nu bk se op fa a7 a8 a9 a10 a11 (nI 14) kh kl sh sl a12 a13 a14 a15 a16 a17 a18 a19 a20)), (a4, .inl (cI, 32, .inl (nF gk))), (a7, .inl (cI, 256, .inl (nF gS))), (a8, .inl (cI, 240, .inl (nF ((kSch gS gk 8 gf gr j).2.2)))), (a11, .inl (cI, 4, .inl f_25))] H := hP
                      have hD : va_D A [(mo, .inr (7, mFs thr a1 a2 a3 (nI lt) (nI lb) (nI lz) ci a4 a5 a6 nu bk se op fa a7 a8 a9 a10 a11 (nI 14) kh kl sh sl a12 a13 a14 a15 a16 a17 a18 a19 a20)), (a4, .inl (cI, 32, .inl (nF gk))), (a7, .inl (cI, 256, .inl (nF gS))), (a8, .inl (cI, 240, .inl (nF ((kSch gS gk 8 gf gr j).2.2)))), (a11, .inl (cI, 4, .inl f_25))] := hD
                      obtain rfl : f_25 = nF (updN (iter (kSub gS ((iter (kFour ((kSch gS gk 8 gf gr j).2.2) (8 + j)) 4 ((kSch gS gk 8 gf gr j).2.1)) 0)) i (iter (kFour ((kSch gS gk 8 gf gr j).2.2) (8 + j)) 4 ((kSch gS gk 8 gf gr j).2.1))) i (gS ((iter (kFour ((kSch gS gk 8 gf gr j).2.2) (8 + j)) 4 ((kSch gS gk 8 gf gr j).2.1)) 0))) := ef_25.trans (nF_set _ _ _)
                      have hP : va_P D vwCl [(mo, .inr (7, mFs thr a1 a2 a3 (nI lt) (nI lb) (nI lz) ci a4 a5 a6 nu bk se op fa a7 a8 a9 a10 a11 (nI 14) kh kl sh sl a12 a13 a14 a15 a16 a17 a18 a19 a20)), (a4, .inl (cI, 32, .inl (nF gk))), (a7, .inl (cI, 256, .inl (nF gS))), (a8, .inl (cI, 240, .inl (nF ((kSch gS gk 8 gf gr j).2.2)))), (a11, .inl (cI, 4, .inl (nF (updN (iter (kSub gS ((iter (kFour ((kSch gS gk 8 gf gr j).2.2) (8 + j)) 4 ((kSch gS gk 8 gf gr j).2.1)) 0)) i (iter (kFour ((kSch gS gk 8 gf gr j).2.2) (8 + j)) 4 ((kSch gS gk 8 gf gr j).2.1))) i (gS ((iter (kFour ((kSch gS gk 8 gf gr j).2.2) (8 + j)) 4 ((kSch gS gk 8 gf gr j).2.1)) 0))))))] H := hP
                      have hD : va_D A [(mo, .inr (7, mFs thr a1 a2 a3 (nI lt) (nI lb) (nI lz) ci a4 a5 a6 nu bk se op fa a7 a8 a9 a10 a11 (nI 14) kh kl sh sl a12 a13 a14 a15 a16 a17 a18 a19 a20)), (a4, .inl (cI, 32, .inl (nF gk))), (a7, .inl (cI, 256, .inl (nF gS))), (a8, .inl (cI, 240, .inl (nF ((kSch gS gk 8 gf gr j).2.2)))), (a11, .inl (cI, 4, .inl (nF (updN (iter (kSub gS ((iter (kFour ((kSch gS gk 8 gf gr j).2.2) (8 + j)) 4 ((kSch gS gk 8 gf gr j).2.1)) 0)) i (iter (kFour ((kSch gS gk 8 gf gr j).2.2) (8 + j)) 4 ((kSch gS gk 8 gf gr j).2.1))) i (gS ((iter (kFour ((kSch gS gk 8 gf gr j).2.2) (8 + j)) 4 ((kSch gS gk 8 gf gr j).2.1)) 0))))))] := hD
                      refine lv_iinc (v := nI (i + 1)) (lv' := [(5, .int (nI (i + 1))), (4, .int (nI ((iter (kFour ((kSch gS gk 8 gf gr j).2.2) (8 + j)) 4 ((kSch gS gk 8 gf gr j).2.1)) 0))), (2, .int (nI ((kSch gS gk 8 gf gr j).1))), (3, .int (nI (8 + j))), (0, .ref mo), (1, .int (nI 8))]) hx hb d_M_schedule_141 hl (k := 0) rfl (sb_inc (a := i) (b := i + 1) (d := 1) rfl (by decide) (by omega)) (by decide) rfl (fun ls hl => ?_)
                      refine lv_goto (tgt := 103) hx hb d_M_schedule_144 (by decide) ?_
                      rw [show nF (updN (iter (kSub gS ((iter (kFour ((kSch gS gk 8 gf gr j).2.2) (8 + j)) 4 ((kSch gS gk 8 gf gr j).2.1)) 0)) i (iter (kFour ((kSch gS gk 8 gf gr j).2.2) (8 + j)) 4 ((kSch gS gk 8 gf gr j).2.1))) i (gS ((iter (kFour ((kSch gS gk 8 gf gr j).2.2) (8 + j)) 4 ((kSch gS gk 8 gf gr j).2.1)) 0))) = nF (iter (kSub gS ((iter (kFour ((kSch gS gk 8 gf gr j).2.2) (8 + j)) 4 ((kSch gS gk 8 gf gr j).2.1)) 0)) (i + 1) (iter (kFour ((kSch gS gk 8 gf gr j).2.2) (8 + j)) 4 ((kSch gS gk 8 gf gr j).2.1))) from (congrArg nF (Eq.trans (by simp only [kSub, if_pos c_24]) (iter_s _ _ _).symm))] at hP hD
                      exact ih7 (i + 1) (by omega) _ _ ls (hP.sub [0, 1, 2, 3, 4] rfl) (hD.sub [0, 1, 2, 3, 4] (by decide) rfl) hS (lv_sub hl [0, 1, 2, 3, 4, 5] rfl)
                    · have c_24 := mt (sb_geI (a := i) (b := 3) rfl rfl (by omega) (by omega)).mpr c_24
                      refine lv_aload_n hx hb d_M_schedule_125 rfl (lv_at hl 4 rfl) ?_
                      refine va_get (D := D) (ci := 7) (v := .ref a11) (C := R_M) (T := F_M) (N := 35) hx hb hts in_M hown hG.1 hP 0 rfl rfl 20 (by decide) (hts _ k_717) (fun _ h9 => h9) rfl d_M_schedule_126 ?_
                      refine lv_iload hx hb d_M_schedule_129 (lv_at hl 0 rfl) ?_
                      refine lv_iconst (v := 1) hx hb d_M_schedule_131 (by decide) ?_
                      refine lv_iadd hx hb d_M_schedule_132 ?_
                      refine sb_topn (i + 1) (nI_add i 1) ?_
                      refine sb_ild hx hb hG.1 hP 4 rfl (i + 1) rfl (by omega) (by omega) d_M_schedule_133 ?_
                      refine lv_goto (tgt := 139) hx hb d_M_schedule_134 (by decide) ?_
                      refine sb_ild hx hb hG.1 hP 2 rfl ((iter (kSub gS ((iter (kFour ((kSch gS gk 8 gf gr j).2.2) (8 + j)) 4 ((kSch gS gk 8 gf gr j).2.1)) 0)) i (iter (kFour ((kSch gS gk 8 gf gr j).2.2) (8 + j)) 4 ((kSch gS gk 8 gf gr j).2.1))) (i + 1)) rfl (hC2 _) (by omega) d_M_schedule_139 ?_
                      refine sb_topn (gS ((iter (kSub gS ((iter (kFour ((kSch gS gk 8 gf gr j).2.2) (8 + j)) 4 ((kSch gS gk 8 gf gr j).2.1)) 0)) i (iter (kFour ((kSch gS gk 8 gf gr j).2.2) (8 + j)) 4 ((kSch gS gk 8 gf gr j).2.1))) (i + 1))) rfl ?_
                      refine sb_ist hx hb hG.1 hP hD hS 4 rfl i rfl (by omega) (by omega) d_M_schedule_140 (fun f_26 H locs ef_26 hP hD hS => ?_)
                      have hP : va_P D vwCl [(mo, .inr (7, mFs thr a1 a2 a3 (nI lt) (nI lb) (nI lz) ci a4 a5 a6 nu bk se op fa a7 a8 a9 a10 a11 (nI 14) kh kl sh sl a12 a13 a14 a15 a16 a17 a18 a19 a20)), (a4, .inl (cI, 32, .inl (nF gk))), (a7, .inl (cI, 256, .inl (nF gS))), (a8, .inl (cI, 240, .inl (nF ((kSch gS gk 8 gf gr j).2.2)))), (a11, .inl (cI, 4, .inl f_26))] H := hP
                      have hD : va_D A [(mo, .inr (7, mFs thr a1 a2 a3 (nI lt) (nI lb) (nI lz) ci a4 a5 a6 nu bk se op fa a7 a8 a9 a10 a11 (nI 14) kh kl sh sl a12 a13 a14 a15 a16 a17 a18 a19 a20)), (a4, .inl (cI, 32, .inl (nF gk))), (a7, .inl (cI, 256, .inl (nF gS))), (a8, .inl (cI, 240, .inl (nF ((kSch gS gk 8 gf gr j).2.2)))), (a11, .inl (cI, 4, .inl f_26))] := hD
                      obtain rfl : f_26 = nF (updN (iter (kSub gS ((iter (kFour ((kSch gS gk 8 gf gr j).2.2) (8 + j)) 4 ((kSch gS gk 8 gf gr j).2.1)) 0)) i (iter (kFour ((kSch gS gk 8 gf gr j).2.2) (8 + j)) 4 ((kSch gS gk 8 gf gr j).2.1))) i (gS ((iter (kSub gS ((iter (kFour ((kSch gS gk 8 gf gr j).2.2) (8 + j)) 4 ((kSch gS gk 8 gf gr j).2.1)) 0)) i (iter (kFour ((kSch gS gk 8 gf gr j).2.2) (8 + j)) 4 ((kSch gS gk 8 gf gr j).2.1))) (i + 1)))) := ef_26.trans (nF_set _ _ _)
                      have hP : va_P D vwCl [(mo, .inr (7, mFs thr a1 a2 a3 (nI lt) (nI lb) (nI lz) ci a4 a5 a6 nu bk se op fa a7 a8 a9 a10 a11 (nI 14) kh kl sh sl a12 a13 a14 a15 a16 a17 a18 a19 a20)), (a4, .inl (cI, 32, .inl (nF gk))), (a7, .inl (cI, 256, .inl (nF gS))), (a8, .inl (cI, 240, .inl (nF ((kSch gS gk 8 gf gr j).2.2)))), (a11, .inl (cI, 4, .inl (nF (updN (iter (kSub gS ((iter (kFour ((kSch gS gk 8 gf gr j).2.2) (8 + j)) 4 ((kSch gS gk 8 gf gr j).2.1)) 0)) i (iter (kFour ((kSch gS gk 8 gf gr j).2.2) (8 + j)) 4 ((kSch gS gk 8 gf gr j).2.1))) i (gS ((iter (kSub gS ((iter (kFour ((kSch gS gk 8 gf gr j).2.2) (8 + j)) 4 ((kSch gS gk 8 gf gr j).2.1)) 0)) i (iter (kFour ((kSch gS gk 8 gf gr j).2.2) (8 + j)) 4 ((kSch gS gk 8 gf gr j).2.1))) (i + 1)))))))] H := hP
                      have hD : va_D A [(mo, .inr (7, mFs thr a1 a2 a3 (nI lt) (nI lb) (nI lz) ci a4 a5 a6 nu bk se op fa a7 a8 a9 a10 a11 (nI 14) kh kl sh sl a12 a13 a14 a15 a16 a17 a18 a19 a20)), (a4, .inl (cI, 32, .inl (nF gk))), (a7, .inl (cI, 256, .inl (nF gS))), (a8, .inl (cI, 240, .inl (nF ((kSch gS gk 8 gf gr j).2.2)))), (a11, .inl (cI, 4, .inl (nF (updN (iter (kSub gS ((iter (kFour ((kSch gS gk 8 gf gr j).2.2) (8 + j)) 4 ((kSch gS gk 8 gf gr j).2.1)) 0)) i (iter (kFour ((kSch gS gk 8 gf gr j).2.2) (8 + j)) 4 ((kSch gS gk 8 gf gr j).2.1))) i (gS ((iter (kSub gS ((iter (kFour ((kSch gS gk 8 gf gr j).2.2) (8 + j)) 4 ((kSch gS gk 8 gf gr j).2.1)) 0)) i (iter (kFour ((kSch gS gk 8 gf gr j).2.2) (8 + j)) 4 ((kSch gS gk 8 gf gr j).2.1))) (i + 1)))))))] := hD
                      refine lv_iinc (v := nI (i + 1)) (lv' := [(5, .int (nI (i + 1))), (4, .int (nI ((iter (kFour ((kSch gS gk 8 gf gr j).2.2) (8 + j)) 4 ((kSch gS gk 8 gf gr j).2.1)) 0))), (2, .int (nI ((kSch gS gk 8 gf gr j).1))), (3, .int (nI (8 + j))), (0, .ref mo), (1, .int (nI 8))]) hx hb d_M_schedule_141 hl (k := 0) rfl (sb_inc (a := i) (b := i + 1) (d := 1) rfl (by decide) (by omega)) (by decide) rfl (fun ls hl => ?_)
                      refine lv_goto (tgt := 103) hx hb d_M_schedule_144 (by decide) ?_
                      rw [show nF (updN (iter (kSub gS ((iter (kFour ((kSch gS gk 8 gf gr j).2.2) (8 + j)) 4 ((kSch gS gk 8 gf gr j).2.1)) 0)) i (iter (kFour ((kSch gS gk 8 gf gr j).2.2) (8 + j)) 4 ((kSch gS gk 8 gf gr j).2.1))) i (gS ((iter (kSub gS ((iter (kFour ((kSch gS gk 8 gf gr j).2.2) (8 + j)) 4 ((kSch gS gk 8 gf gr j).2.1)) 0)) i (iter (kFour ((kSch gS gk 8 gf gr j).2.2) (8 + j)) 4 ((kSch gS gk 8 gf gr j).2.1))) (i + 1)))) = nF (iter (kSub gS ((iter (kFour ((kSch gS gk 8 gf gr j).2.2) (8 + j)) 4 ((kSch gS gk 8 gf gr j).2.1)) 0)) (i + 1) (iter (kFour ((kSch gS gk 8 gf gr j).2.2) (8 + j)) 4 ((kSch gS gk 8 gf gr j).2.1))) from (congrArg nF (Eq.trans (by simp only [kSub, if_neg c_24]) (iter_s _ _ _).symm))] at hP hD
                      exact ih7 (i + 1) (by omega) _ _ ls (hP.sub [0, 1, 2, 3, 4] rfl) (hD.sub [0, 1, 2, 3, 4] (by decide) rfl) hS (lv_sub hl [0, 1, 2, 3, 4, 5] rfl)
                exact lp7 4 0 (by omega) _ _ ls (hP.sub [0, 1, 2, 3, 4] rfl) (hD.sub [0, 1, 2, 3, 4] (by decide) rfl) hS (lv_sub hl [0, 1, 2, 3, 4, 5] rfl)
            | succ d3 ih3 =>
              intro i hi3 H locs ls hP hD hS hl
              refine lv_iload hx hb d_M_schedule_54 (lv_at hl 0 rfl) ?_
              refine lv_iconst (v := 4) hx hb d_M_schedule_56 (by decide) ?_
              refine lv_icmp_ge (tgt := 86) hx hb d_M_schedule_57 (by decide) (fun c_27 => absurd c_27 (sb_geF (a := i) (b := 4) rfl rfl (by omega) (by omega) (by omega))) (fun c_27 => ?_)
              refine lv_aload_n hx hb d_M_schedule_60 rfl (lv_at hl 3 rfl) ?_
              refine va_get (D := D) (ci := 7) (v := .ref a11) (C := R_M) (T := F_M) (N := 35) hx hb hts in_M hown hG.1 hP 0 rfl rfl 20 (by decide) (hts _ k_717) (fun _ h9 => h9) rfl d_M_schedule_61 ?_
              refine lv_iload hx hb d_M_schedule_64 (lv_at hl 0 rfl) ?_
              refine lv_aload_n hx hb d_M_schedule_66 rfl (lv_at hl 3 rfl) ?_
              refine va_get (D := D) (ci := 7) (v := .ref a8) (C := R_M) (T := F_M) (N := 35) hx hb hts in_M hown hG.1 hP 0 rfl rfl 17 (by decide) (hts _ k_714) (fun _ h9 => h9) rfl d_M_schedule_67 ?_
              refine lv_iconst (v := 4) hx hb d_M_schedule_70 (by decide) ?_
              refine lv_iload_n hx hb d_M_schedule_71 rfl (lv_at hl 2 rfl) ?_
              refine lv_imul hx hb d_M_schedule_72 ?_
              refine sb_topn (4 * (8 + j)) (sb_mul (a := 4) (b := 8 + j) rfl rfl) ?_
              refine lv_iconst (v := 4) hx hb d_M_schedule_73 (by decide) ?_
              refine lv_isub hx hb d_M_schedule_74 ?_
              refine sb_topn ((4 * (8 + j)) - 4) (sb_sub (a := 4 * (8 + j)) (b := 4) (by omega) rfl rfl) ?_
              refine lv_iload hx hb d_M_schedule_75 (lv_at hl 0 rfl) ?_
              refine lv_iadd hx hb d_M_schedule_77 ?_
              refine sb_topn (((4 * (8 + j)) - 4) + i) (nI_add ((4 * (8 + j)) - 4) i) ?_
              refine sb_ild hx hb hG.1 hP 3 rfl (((4 * (8 + j)) - 4) + i) rfl (by omega) (by omega) d_M_schedule_78 ?_
              refine sb_topn (((kSch gS gk 8 gf gr j).2.2) (((4 * (8 + j)) - 4) + i)) rfl ?_
              refine sb_ist hx hb hG.1 hP hD hS 4 rfl i rfl (by omega) (by omega) d_M_schedule_79 (fun f_28 H locs ef_28 hP hD hS => ?_)
              have hP : va_P D vwCl [(mo, .inr (7, mFs thr a1 a2 a3 (nI lt) (nI lb) (nI lz) ci a4 a5 a6 nu bk se op fa a7 a8 a9 a10 a11 (nI 14) kh kl sh sl a12 a13 a14 a15 a16 a17 a18 a19 a20)), (a4, .inl (cI, 32, .inl (nF gk))), (a7, .inl (cI, 256, .inl (nF gS))), (a8, .inl (cI, 240, .inl (nF ((kSch gS gk 8 gf gr j).2.2)))), (a11, .inl (cI, 4, .inl f_28))] H := hP
              have hD : va_D A [(mo, .inr (7, mFs thr a1 a2 a3 (nI lt) (nI lb) (nI lz) ci a4 a5 a6 nu bk se op fa a7 a8 a9 a10 a11 (nI 14) kh kl sh sl a12 a13 a14 a15 a16 a17 a18 a19 a20)), (a4, .inl (cI, 32, .inl (nF gk))), (a7, .inl (cI, 256, .inl (nF gS))), (a8, .inl (cI, 240, .inl (nF ((kSch gS gk 8 gf gr j).2.2)))), (a11, .inl (cI, 4, .inl f_28))] := hD
              obtain rfl : f_28 = nF (updN (iter (kFour ((kSch gS gk 8 gf gr j).2.2) (8 + j)) i ((kSch gS gk 8 gf gr j).2.1)) i (((kSch gS gk 8 gf gr j).2.2) (((4 * (8 + j)) - 4) + i))) := ef_28.trans (nF_set _ _ _)
              have hP : va_P D vwCl [(mo, .inr (7, mFs thr a1 a2 a3 (nI lt) (nI lb) (nI lz) ci a4 a5 a6 nu bk se op fa a7 a8 a9 a10 a11 (nI 14) kh kl sh sl a12 a13 a14 a15 a16 a17 a18 a19 a20)), (a4, .inl (cI, 32, .inl (nF gk))), (a7, .inl (cI, 256, .inl (nF gS))), (a8, .inl (cI, 240, .inl (nF ((kSch gS gk 8 gf gr j).2.2)))), (a11, .inl (cI, 4, .inl (nF (updN (iter (kFour ((kSch gS gk 8 gf gr j).2.2) (8 + j)) i ((kSch gS gk 8 gf gr j).2.1)) i (((kSch gS gk 8 gf gr j).2.2) (((4 * (8 + j)) - 4) + i))))))] H := hP
              have hD : va_D A [(mo, .inr (7, mFs thr a1 a2 a3 (nI lt) (nI lb) (nI lz) ci a4 a5 a6 nu bk se op fa a7 a8 a9 a10 a11 (nI 14) kh kl sh sl a12 a13 a14 a15 a16 a17 a18 a19 a20)), (a4, .inl (cI, 32, .inl (nF gk))), (a7, .inl (cI, 256, .inl (nF gS))), (a8, .inl (cI, 240, .inl (nF ((kSch gS gk 8 gf gr j).2.2)))), (a11, .inl (cI, 4, .inl (nF (updN (iter (kFour ((kSch gS gk 8 gf gr j).2.2) (8 + j)) i ((kSch gS gk 8 gf gr j).2.1)) i (((kSch gS gk 8 gf gr j).2.2) (((4 * (8 + j)) - 4) + i))))))] := hD
              refine lv_iinc (v := nI (i + 1)) (lv' := [(4, .int (nI (i + 1))), (2, .int (nI ((kSch gS gk 8 gf gr j).1))), (3, .int (nI (8 + j))), (0, .ref mo), (1, .int (nI 8))]) hx hb d_M_schedule_80 hl (k := 0) rfl (sb_inc (a := i) (b := i + 1) (d := 1) rfl (by decide) (by omega)) (by decide) rfl (fun ls hl => ?_)
              refine lv_goto (tgt := 54) hx hb d_M_schedule_83 (by decide) ?_
              rw [show nF (updN (iter (kFour ((kSch gS gk 8 gf gr j).2.2) (8 + j)) i ((kSch gS gk 8 gf gr j).2.1)) i (((kSch gS gk 8 gf gr j).2.2) (((4 * (8 + j)) - 4) + i))) = nF (iter (kFour ((kSch gS gk 8 gf gr j).2.2) (8 + j)) (i + 1) ((kSch gS gk 8 gf gr j).2.1)) from rfl] at hP hD
              exact ih3 (i + 1) (by omega) _ _ ls (hP.sub [0, 1, 2, 3, 4] rfl) (hD.sub [0, 1, 2, 3, 4] (by decide) rfl) hS (lv_sub hl [0, 1, 2, 3, 4] rfl)
          exact lp3 4 0 (by omega) _ _ ls (hP.sub [0, 1, 2, 3, 4] rfl) (hD.sub [0, 1, 2, 3, 4] (by decide) rfl) hS (lv_sub hl [0, 1, 2, 3, 4] rfl)
      exact lp2 52 0 (by omega) _ _ ls (hP.sub [0, 1, 2, 3, 4] rfl) (hD.sub [0, 1, 2, 3, 4] (by decide) rfl) hS (lv_sub hl [1, 0, 2, 3] rfl)
    | succ d1 ih1 =>
      intro i hi1 H locs ls hP hD hS hl
      refine lv_iload_n hx hb d_M_schedule_10 rfl (lv_at hl 0 rfl) ?_
      refine lv_iconst (v := 4) hx hb d_M_schedule_11 (by decide) ?_
      refine lv_iload_n hx hb d_M_schedule_12 rfl (lv_at hl 2 rfl) ?_
      refine lv_imul hx hb d_M_schedule_13 ?_
      refine sb_topn 32 (sb_eqn (a := 4 * 8) (b := 32) (sb_mul (a := 4) (b := 8) rfl rfl) (by omega)) ?_
      refine lv_icmp_ge (tgt := 35) hx hb d_M_schedule_14 (by decide) (fun c_29 => absurd c_29 (sb_geF (a := i) (b := 32) rfl rfl (by omega) (by omega) (by omega))) (fun c_29 => ?_)
      refine lv_aload_n hx hb d_M_schedule_17 rfl (lv_at hl 1 rfl) ?_
      refine va_get (D := D) (ci := 7) (v := .ref a8) (C := R_M) (T := F_M) (N := 35) hx hb hts in_M hown hG.1 hP 0 rfl rfl 17 (by decide) (hts _ k_714) (fun _ h9 => h9) rfl d_M_schedule_18 ?_
      refine lv_iload_n hx hb d_M_schedule_21 rfl (lv_at hl 0 rfl) ?_
      refine lv_aload_n hx hb d_M_schedule_22 rfl (lv_at hl 1 rfl) ?_
      refine va_get (D := D) (ci := 7) (v := .ref a4) (C := R_M) (T := F_M) (N := 35) hx hb hts in_M hown hG.1 hP 0 rfl rfl 8 (by decide) (hts _ k_705) (fun _ h9 => h9) rfl d_M_schedule_23 ?_
      refine lv_iload_n hx hb d_M_schedule_26 rfl (lv_at hl 0 rfl) ?_
      refine sb_ild hx hb hG.1 hP 1 rfl i rfl (by omega) (by omega) d_M_schedule_27 ?_
      refine sb_topn (gk i) rfl ?_
      refine sb_ist hx hb hG.1 hP hD hS 3 rfl i rfl (by omega) (by omega) d_M_schedule_28 (fun f_30 H locs ef_30 hP hD hS => ?_)
      have hP : va_P D vwCl [(mo, .inr (7, mFs thr a1 a2 a3 (nI lt) (nI lb) (nI lz) ci a4 a5 a6 nu bk se op fa a7 a8 a9 a10 a11 (nI 14) kh kl sh sl a12 a13 a14 a15 a16 a17 a18 a19 a20)), (a4, .inl (cI, 32, .inl (nF gk))), (a7, .inl (cI, 256, .inl (nF gS))), (a8, .inl (cI, 240, .inl f_30)), (a11, .inl (cI, 4, .inl (nF gf)))] H := hP
      have hD : va_D A [(mo, .inr (7, mFs thr a1 a2 a3 (nI lt) (nI lb) (nI lz) ci a4 a5 a6 nu bk se op fa a7 a8 a9 a10 a11 (nI 14) kh kl sh sl a12 a13 a14 a15 a16 a17 a18 a19 a20)), (a4, .inl (cI, 32, .inl (nF gk))), (a7, .inl (cI, 256, .inl (nF gS))), (a8, .inl (cI, 240, .inl f_30)), (a11, .inl (cI, 4, .inl (nF gf)))] := hD
      obtain rfl : f_30 = nF (updN (iter (nCpy gk) i gr) i (gk i)) := ef_30.trans (nF_set _ _ _)
      have hP : va_P D vwCl [(mo, .inr (7, mFs thr a1 a2 a3 (nI lt) (nI lb) (nI lz) ci a4 a5 a6 nu bk se op fa a7 a8 a9 a10 a11 (nI 14) kh kl sh sl a12 a13 a14 a15 a16 a17 a18 a19 a20)), (a4, .inl (cI, 32, .inl (nF gk))), (a7, .inl (cI, 256, .inl (nF gS))), (a8, .inl (cI, 240, .inl (nF (updN (iter (nCpy gk) i gr) i (gk i))))), (a11, .inl (cI, 4, .inl (nF gf)))] H := hP
      have hD : va_D A [(mo, .inr (7, mFs thr a1 a2 a3 (nI lt) (nI lb) (nI lz) ci a4 a5 a6 nu bk se op fa a7 a8 a9 a10 a11 (nI 14) kh kl sh sl a12 a13 a14 a15 a16 a17 a18 a19 a20)), (a4, .inl (cI, 32, .inl (nF gk))), (a7, .inl (cI, 256, .inl (nF gS))), (a8, .inl (cI, 240, .inl (nF (updN (iter (nCpy gk) i gr) i (gk i))))), (a11, .inl (cI, 4, .inl (nF gf)))] := hD
      refine lv_iinc (v := nI (i + 1)) (lv' := [(2, .int (nI (i + 1))), (0, .ref mo), (1, .int (nI 8))]) hx hb d_M_schedule_29 hl (k := 0) rfl (sb_inc (a := i) (b := i + 1) (d := 1) rfl (by decide) (by omega)) (by decide) rfl (fun ls hl => ?_)
      refine lv_goto (tgt := 10) hx hb d_M_schedule_32 (by decide) ?_
      rw [show nF (updN (iter (nCpy gk) i gr) i (gk i)) = nF (iter (nCpy gk) (i + 1) gr) from rfl] at hP hD
      exact ih1 (i + 1) (by omega) _ _ ls (hP.sub [0, 1, 2, 3, 4] rfl) (hD.sub [0, 1, 2, 3, 4] (by decide) rfl) hS (lv_sub hl [0, 1, 2] rfl)
  exact lp1 32 0 (by omega) _ _ ls (hP.sub [0, 1, 2, 3, 4] rfl) (hD.sub [0, 1, 2, 3, 4] (by decide) rfl) hS (lv_sub hl [0, 1, 2] rfl)

theorem d_M_turn_0 : decode b_M_turn 0 = .ok (.iconst 0, 1) := by decide +kernel
theorem d_M_turn_1 : decode b_M_turn 1 = .ok (.istore_n 1, 1) := by decide +kernel
theorem d_M_turn_2 : decode b_M_turn 2 = .ok (.iload_n 1, 1) := by decide +kernel
theorem d_M_turn_3 : decode b_M_turn 3 = .ok (.bipush 16, 2) := by decide +kernel
theorem d_M_turn_5 : decode b_M_turn 5 = .ok (.if_icmp .ge 24, 3) := by decide +kernel
theorem d_M_turn_8 : decode b_M_turn 8 = .ok (.aload_n 0, 1) := by decide +kernel
theorem d_M_turn_9 : decode b_M_turn 9 = .ok (.getfield 39, 3) := by decide +kernel
theorem d_M_turn_12 : decode b_M_turn 12 = .ok (.iload_n 1, 1) := by decide +kernel
theorem d_M_turn_13 : decode b_M_turn 13 = .ok (.dup2, 1) := by decide +kernel
theorem d_M_turn_14 : decode b_M_turn 14 = .ok (.iaload, 1) := by decide +kernel
theorem d_M_turn_15 : decode b_M_turn 15 = .ok (.aload_n 0, 1) := by decide +kernel
theorem d_M_turn_16 : decode b_M_turn 16 = .ok (.getfield 36, 3) := by decide +kernel
theorem d_M_turn_19 : decode b_M_turn 19 = .ok (.iload_n 1, 1) := by decide +kernel
theorem d_M_turn_20 : decode b_M_turn 20 = .ok (.iaload, 1) := by decide +kernel
theorem d_M_turn_21 : decode b_M_turn 21 = .ok (.ixor, 1) := by decide +kernel
theorem d_M_turn_22 : decode b_M_turn 22 = .ok (.iastore, 1) := by decide +kernel
theorem d_M_turn_23 : decode b_M_turn 23 = .ok (.iinc 1 1, 3) := by decide +kernel
theorem d_M_turn_26 : decode b_M_turn 26 = .ok (.goto (-24), 3) := by decide +kernel
theorem d_M_turn_29 : decode b_M_turn 29 = .ok (.iconst 1, 1) := by decide +kernel
theorem d_M_turn_30 : decode b_M_turn 30 = .ok (.istore_n 1, 1) := by decide +kernel
theorem d_M_turn_31 : decode b_M_turn 31 = .ok (.iload_n 1, 1) := by decide +kernel
theorem d_M_turn_32 : decode b_M_turn 32 = .ok (.aload_n 0, 1) := by decide +kernel
theorem d_M_turn_33 : decode b_M_turn 33 = .ok (.getfield 82, 3) := by decide +kernel
theorem d_M_turn_36 : decode b_M_turn 36 = .ok (.if_icmp .gt 164, 3) := by decide +kernel
theorem d_M_turn_39 : decode b_M_turn 39 = .ok (.iconst 0, 1) := by decide +kernel
theorem d_M_turn_40 : decode b_M_turn 40 = .ok (.istore_n 2, 1) := by decide +kernel
theorem d_M_turn_41 : decode b_M_turn 41 = .ok (.iload_n 2, 1) := by decide +kernel
theorem d_M_turn_42 : decode b_M_turn 42 = .ok (.bipush 16, 2) := by decide +kernel
theorem d_M_turn_44 : decode b_M_turn 44 = .ok (.if_icmp .ge 31, 3) := by decide +kernel
theorem d_M_turn_47 : decode b_M_turn 47 = .ok (.aload_n 0, 1) := by decide +kernel
theorem d_M_turn_48 : decode b_M_turn 48 = .ok (.getfield 42, 3) := by decide +kernel
theorem d_M_turn_51 : decode b_M_turn 51 = .ok (.iload_n 2, 1) := by decide +kernel
theorem d_M_turn_52 : decode b_M_turn 52 = .ok (.aload_n 0, 1) := by decide +kernel
theorem d_M_turn_53 : decode b_M_turn 53 = .ok (.getfield 33, 3) := by decide +kernel
theorem d_M_turn_56 : decode b_M_turn 56 = .ok (.aload_n 0, 1) := by decide +kernel
theorem d_M_turn_57 : decode b_M_turn 57 = .ok (.getfield 39, 3) := by decide +kernel
theorem d_M_turn_60 : decode b_M_turn 60 = .ok (.iconst 5, 1) := by decide +kernel
theorem d_M_turn_61 : decode b_M_turn 61 = .ok (.iload_n 2, 1) := by decide +kernel
theorem d_M_turn_62 : decode b_M_turn 62 = .ok (.imul, 1) := by decide +kernel
theorem d_M_turn_63 : decode b_M_turn 63 = .ok (.bipush 16, 2) := by decide +kernel
theorem d_M_turn_65 : decode b_M_turn 65 = .ok (.irem, 1) := by decide +kernel
theorem d_M_turn_66 : decode b_M_turn 66 = .ok (.iaload, 1) := by decide +kernel
theorem d_M_turn_67 : decode b_M_turn 67 = .ok (.iaload, 1) := by decide +kernel
theorem d_M_turn_68 : decode b_M_turn 68 = .ok (.iastore, 1) := by decide +kernel
theorem d_M_turn_69 : decode b_M_turn 69 = .ok (.iinc 2 1, 3) := by decide +kernel
theorem d_M_turn_72 : decode b_M_turn 72 = .ok (.goto (-31), 3) := by decide +kernel
theorem d_M_turn_75 : decode b_M_turn 75 = .ok (.iconst 0, 1) := by decide +kernel
theorem d_M_turn_76 : decode b_M_turn 76 = .ok (.istore_n 2, 1) := by decide +kernel
theorem d_M_turn_77 : decode b_M_turn 77 = .ok (.iload_n 2, 1) := by decide +kernel
theorem d_M_turn_78 : decode b_M_turn 78 = .ok (.bipush 16, 2) := by decide +kernel
theorem d_M_turn_80 : decode b_M_turn 80 = .ok (.if_icmp .ge 114, 3) := by decide +kernel
theorem d_M_turn_83 : decode b_M_turn 83 = .ok (.iload_n 2, 1) := by decide +kernel
theorem d_M_turn_84 : decode b_M_turn 84 = .ok (.iconst 4, 1) := by decide +kernel
theorem d_M_turn_85 : decode b_M_turn 85 = .ok (.idiv, 1) := by decide +kernel
theorem d_M_turn_86 : decode b_M_turn 86 = .ok (.iconst 4, 1) := by decide +kernel
theorem d_M_turn_87 : decode b_M_turn 87 = .ok (.imul, 1) := by decide +kernel
theorem d_M_turn_88 : decode b_M_turn 88 = .ok (.istore_n 3, 1) := by decide +kernel
theorem d_M_turn_89 : decode b_M_turn 89 = .ok (.iload_n 2, 1) := by decide +kernel
theorem d_M_turn_90 : decode b_M_turn 90 = .ok (.iconst 4, 1) := by decide +kernel
theorem d_M_turn_91 : decode b_M_turn 91 = .ok (.irem, 1) := by decide +kernel
theorem d_M_turn_92 : decode b_M_turn 92 = .ok (.istore 4, 2) := by decide +kernel
theorem d_M_turn_94 : decode b_M_turn 94 = .ok (.aload_n 0, 1) := by decide +kernel
theorem d_M_turn_95 : decode b_M_turn 95 = .ok (.getfield 42, 3) := by decide +kernel
theorem d_M_turn_98 : decode b_M_turn 98 = .ok (.iload_n 2, 1) := by decide +kernel
theorem d_M_turn_99 : decode b_M_turn 99 = .ok (.iaload, 1) := by decide +kernel
theorem d_M_turn_100 : decode b_M_turn 100 = .ok (.istore 5, 2) := by decide +kernel
theorem d_M_turn_102 : decode b_M_turn 102 = .ok (.iload_n 1, 1) := by decide +kernel
theorem d_M_turn_103 : decode b_M_turn 103 = .ok (.aload_n 0, 1) := by decide +kernel
theorem d_M_turn_104 : decode b_M_turn 104 = .ok (.getfield 82, 3) := by decide +kernel
theorem d_M_turn_107 : decode b_M_turn 107 = .ok (.if_icmp .ge 61, 3) := by decide +kernel
theorem d_M_turn_110 : decode b_M_turn 110 = .ok (.aload_n 0, 1) := by decide +kernel
theorem d_M_turn_111 : decode b_M_turn 111 = .ok (.getfield 42, 3) := by decide +kernel
theorem d_M_turn_114 : decode b_M_turn 114 = .ok (.iload_n 2, 1) := by decide +kernel
theorem d_M_turn_115 : decode b_M_turn 115 = .ok (.iaload, 1) := by decide +kernel
theorem d_M_turn_116 : decode b_M_turn 116 = .ok (.iconst 2, 1) := by decide +kernel
theorem d_M_turn_117 : decode b_M_turn 117 = .ok (.invokestatic 75, 3) := by decide +kernel
theorem d_M_turn_120 : decode b_M_turn 120 = .ok (.aload_n 0, 1) := by decide +kernel
theorem d_M_turn_121 : decode b_M_turn 121 = .ok (.getfield 42, 3) := by decide +kernel
theorem d_M_turn_124 : decode b_M_turn 124 = .ok (.iload_n 3, 1) := by decide +kernel
theorem d_M_turn_125 : decode b_M_turn 125 = .ok (.iload 4, 2) := by decide +kernel
theorem d_M_turn_127 : decode b_M_turn 127 = .ok (.iconst 1, 1) := by decide +kernel
theorem d_M_turn_128 : decode b_M_turn 128 = .ok (.iadd, 1) := by decide +kernel
theorem d_M_turn_129 : decode b_M_turn 129 = .ok (.iconst 4, 1) := by decide +kernel
theorem d_M_turn_130 : decode b_M_turn 130 = .ok (.irem, 1) := by decide +kernel
theorem d_M_turn_131 : decode b_M_turn 131 = .ok (.iadd, 1) := by decide +kernel
theorem d_M_turn_132 : decode b_M_turn 132 = .ok (.iaload, 1) := by decide +kernel
theorem d_M_turn_133 : decode b_M_turn 133 = .ok (.iconst 3, 1) := by decide +kernel
theorem d_M_turn_134 : decode b_M_turn 134 = .ok (.invokestatic 75, 3) := by decide +kernel
theorem d_M_turn_137 : decode b_M_turn 137 = .ok (.ixor, 1) := by decide +kernel
theorem d_M_turn_138 : decode b_M_turn 138 = .ok (.aload_n 0, 1) := by decide +kernel
theorem d_M_turn_139 : decode b_M_turn 139 = .ok (.getfield 42, 3) := by decide +kernel
theorem d_M_turn_142 : decode b_M_turn 142 = .ok (.iload_n 3, 1) := by decide +kernel
theorem d_M_turn_143 : decode b_M_turn 143 = .ok (.iload 4, 2) := by decide +kernel
theorem d_M_turn_145 : decode b_M_turn 145 = .ok (.iconst 2, 1) := by decide +kernel
theorem d_M_turn_146 : decode b_M_turn 146 = .ok (.iadd, 1) := by decide +kernel
theorem d_M_turn_147 : decode b_M_turn 147 = .ok (.iconst 4, 1) := by decide +kernel
theorem d_M_turn_148 : decode b_M_turn 148 = .ok (.irem, 1) := by decide +kernel
theorem d_M_turn_149 : decode b_M_turn 149 = .ok (.iadd, 1) := by decide +kernel
theorem d_M_turn_150 : decode b_M_turn 150 = .ok (.iaload, 1) := by decide +kernel
theorem d_M_turn_151 : decode b_M_turn 151 = .ok (.ixor, 1) := by decide +kernel
theorem d_M_turn_152 : decode b_M_turn 152 = .ok (.aload_n 0, 1) := by decide +kernel
theorem d_M_turn_153 : decode b_M_turn 153 = .ok (.getfield 42, 3) := by decide +kernel
theorem d_M_turn_156 : decode b_M_turn 156 = .ok (.iload_n 3, 1) := by decide +kernel
theorem d_M_turn_157 : decode b_M_turn 157 = .ok (.iload 4, 2) := by decide +kernel
theorem d_M_turn_159 : decode b_M_turn 159 = .ok (.iconst 3, 1) := by decide +kernel
theorem d_M_turn_160 : decode b_M_turn 160 = .ok (.iadd, 1) := by decide +kernel
theorem d_M_turn_161 : decode b_M_turn 161 = .ok (.iconst 4, 1) := by decide +kernel
theorem d_M_turn_162 : decode b_M_turn 162 = .ok (.irem, 1) := by decide +kernel
theorem d_M_turn_163 : decode b_M_turn 163 = .ok (.iadd, 1) := by decide +kernel
theorem d_M_turn_164 : decode b_M_turn 164 = .ok (.iaload, 1) := by decide +kernel
theorem d_M_turn_165 : decode b_M_turn 165 = .ok (.ixor, 1) := by decide +kernel
theorem d_M_turn_166 : decode b_M_turn 166 = .ok (.istore 5, 2) := by decide +kernel
theorem d_M_turn_168 : decode b_M_turn 168 = .ok (.aload_n 0, 1) := by decide +kernel
theorem d_M_turn_169 : decode b_M_turn 169 = .ok (.getfield 39, 3) := by decide +kernel
theorem d_M_turn_172 : decode b_M_turn 172 = .ok (.iload_n 2, 1) := by decide +kernel
theorem d_M_turn_173 : decode b_M_turn 173 = .ok (.iload 5, 2) := by decide +kernel
theorem d_M_turn_175 : decode b_M_turn 175 = .ok (.aload_n 0, 1) := by decide +kernel
theorem d_M_turn_176 : decode b_M_turn 176 = .ok (.getfield 36, 3) := by decide +kernel
theorem d_M_turn_179 : decode b_M_turn 179 = .ok (.bipush 16, 2) := by decide +kernel
theorem d_M_turn_181 : decode b_M_turn 181 = .ok (.iload_n 1, 1) := by decide +kernel
theorem d_M_turn_182 : decode b_M_turn 182 = .ok (.imul, 1) := by decide +kernel
theorem d_M_turn_183 : decode b_M_turn 183 = .ok (.iload_n 2, 1) := by decide +kernel
theorem d_M_turn_184 : decode b_M_turn 184 = .ok (.iadd, 1) := by decide +kernel
theorem d_M_turn_185 : decode b_M_turn 185 = .ok (.iaload, 1) := by decide +kernel
theorem d_M_turn_186 : decode b_M_turn 186 = .ok (.ixor, 1) := by decide +kernel
theorem d_M_turn_187 : decode b_M_turn 187 = .ok (.iastore, 1) := by decide +kernel
theorem d_M_turn_188 : decode b_M_turn 188 = .ok (.iinc 2 1, 3) := by decide +kernel
theorem d_M_turn_191 : decode b_M_turn 191 = .ok (.goto (-114), 3) := by decide +kernel
theorem d_M_turn_194 : decode b_M_turn 194 = .ok (.iinc 1 1, 3) := by decide +kernel
theorem d_M_turn_197 : decode b_M_turn 197 = .ok (.goto (-166), 3) := by decide +kernel
theorem d_M_turn_200 : decode b_M_turn 200 = .ok (.return_, 1) := by decide +kernel

def rm_M_turn : Room := { frames := 1, cells := 0, slots := 0, locals := 24 }
set_option maxHeartbeats 4000000 in
set_option maxRecDepth 100000 in
theorem c_M_turn (l : Launch) (D : va_G) (cI cL cB : ClassId) (tS tF : Nat) (mo : Nat) (a1 : Nat) (a2 : Nat) (a3 : Nat) (a4 : Nat) (a5 : Nat) (a6 : Nat) (a7 : Nat) (a8 : Nat) (a9 : Nat) (a10 : Nat) (a11 : Nat) (a12 : Nat) (a13 : Nat) (a14 : Nat) (a15 : Nat) (a16 : Nat) (a17 : Nat) (a18 : Nat) (a19 : Nat) (a20 : Nat) (thr : Int32) (ci : Int32) (bk : Int32) (se : Int32) (op : Int32) (fa : Int32) (lt : Nat) (lb : Nat) (lz : Nat) (rn : Nat) (nu : Int64) (kh : Int64) (kl : Int64) (sh : Int64) (sl : Int64) (gS : Nat → Nat) (gr : Nat → Nat) (gs : Nat → Nat) (gm : Nat → Nat) (sz : Nat) (hgS : By gS) (hgr : By gr) (hgs : By gs) (hgm : By gm) (hrn : rn ≤ 14) : Met l y_M_turn (sbw y_M_turn b_M_turn 6 none) rm_M_turn (sbPc D cI cL cB tS tF [.ref mo] sz [(mo, .inr (7, mFs thr a1 a2 a3 (nI lt) (nI lb) (nI lz) ci a4 a5 a6 nu bk se op fa a7 a8 a9 a10 a11 (nI rn) kh kl sh sl a12 a13 a14 a15 a16 a17 a18 a19 a20)), (a7, .inl (cI, 256, .inl (nF gS))), (a8, .inl (cI, 240, .inl (nF gr))), (a9, .inl (cI, 16, .inl (nF gs))), (a10, .inl (cI, 16, .inl (nF gm)))]) (sbQv D (fun (_ : Unit) => True) (fun (_ : Unit) => [(mo, .inr (7, mFs thr a1 a2 a3 (nI lt) (nI lb) (nI lz) ci a4 a5 a6 nu bk se op fa a7 a8 a9 a10 a11 (nI rn) kh kl sh sl a12 a13 a14 a15 a16 a17 a18 a19 a20)), (a7, .inl (cI, 256, .inl (nF gS))), (a8, .inl (cI, 240, .inl (nF gr))), (a9, .inl (cI, 16, .inl (nF ((turnN gS gr rn gs gm rn).1)))), (a10, .inl (cI, 16, .inl (nF ((turnN gS gr rn gs gm rn).2))))]) (va_A [(mo, .inr (7, mFs thr a1 a2 a3 (nI lt) (nI lb) (nI lz) ci a4 a5 a6 nu bk se op fa a7 a8 a9 a10 a11 (nI rn) kh kl sh sl a12 a13 a14 a15 a16 a17 a18 a19 a20)), (a7, .inl (cI, 256, .inl (nF gS))), (a8, .inl (cI, 240, .inl (nF gr))), (a9, .inl (cI, 16, .inl (nF gs))), (a10, .inl (cI, 16, .inl (nF gm)))] sz)) 0 0 (va_A [(mo, .inr (7, mFs thr a1 a2 a3 (nI lt) (nI lb) (nI lz) ci a4 a5 a6 nu bk se op fa a7 a8 a9 a10 a11 (nI rn) kh kl sh sl a12 a13 a14 a15 a16 a17 a18 a19 a20)), (a7, .inl (cI, 256, .inl (nF gS))), (a8, .inl (cI, 240, .inl (nF gr))), (a9, .inl (cI, 16, .inl (nF gs))), (a10, .inl (cI, 16, .inl (nF gm)))] sz) := by
  refine sb_ofW (y := y_M_turn) (maxL := 6) (av := [.ref mo]) (Qc := fun A => (sbQv D (fun (_ : Unit) => True) (fun (_ : Unit) => [(mo, .inr (7, mFs thr a1 a2 a3 (nI lt) (nI lb) (nI lz) ci a4 a5 a6 nu bk se op fa a7 a8 a9 a10 a11 (nI rn) kh kl sh sl a12 a13 a14 a15 a16 a17 a18 a19 a20)), (a7, .inl (cI, 256, .inl (nF gS))), (a8, .inl (cI, 240, .inl (nF gr))), (a9, .inl (cI, 16, .inl (nF ((turnN gS gr rn gs gm rn).1)))), (a10, .inl (cI, 16, .inl (nF ((turnN gS gr rn gs gm rn).2))))]) A)) (by decide) (Nat.le_of_ble_eq_true rfl) ?_
  intro p e s m args below meth c A ls hx hb hr hml hts hown hlocks hin hsz hP hG hD hA hS hl
  have hl : lv_has ls 6 [(0, .ref mo)] := hl
  refine lv_iconst (v := 0) hx hb d_M_turn_0 (by decide) ?_
  refine lv_istore_n (lv' := [(1, .int 0), (0, .ref mo)]) hx hb d_M_turn_1 rfl hl (by decide) rfl (fun ls hl => ?_)
  have lp1 : ∀ (d1 i : Nat), i + d1 = 16 → ∀ (H : Heap) (locs : List Loc) (ls : Array Slot), va_P D vwCl [(mo, .inr (7, mFs thr a1 a2 a3 (nI lt) (nI lb) (nI lz) ci a4 a5 a6 nu bk se op fa a7 a8 a9 a10 a11 (nI rn) kh kl sh sl a12 a13 a14 a15 a16 a17 a18 a19 a20)), (a7, .inl (cI, 256, .inl (nF gS))), (a8, .inl (cI, 240, .inl (nF gr))), (a9, .inl (cI, 16, .inl (nF (iter (tXor gr) i gs)))), (a10, .inl (cI, 16, .inl (nF gm)))] H → va_D A [(mo, .inr (7, mFs thr a1 a2 a3 (nI lt) (nI lb) (nI lz) ci a4 a5 a6 nu bk se op fa a7 a8 a9 a10 a11 (nI rn) kh kl sh sl a12 a13 a14 a15 a16 a17 a18 a19 a20)), (a7, .inl (cI, 256, .inl (nF gS))), (a8, .inl (cI, 240, .inl (nF gr))), (a9, .inl (cI, 16, .inl (nF (iter (tXor gr) i gs)))), (a10, .inl (cI, 16, .inl (nF gm)))] → va_S A s.heap H locs → lv_has ls 6 [(1, .int (nI i)), (0, .ref mo)] → W p l e rm_M_turn s m args below meth c H locs 0 0 (MQ below (sbQv D (fun (_ : Unit) => True) (fun (_ : Unit) => [(mo, .inr (7, mFs thr a1 a2 a3 (nI lt) (nI lb) (nI lz) ci a4 a5 a6 nu bk se op fa a7 a8 a9 a10 a11 (nI rn) kh kl sh sl a12 a13 a14 a15 a16 a17 a18 a19 a20)), (a7, .inl (cI, 256, .inl (nF gS))), (a8, .inl (cI, 240, .inl (nF gr))), (a9, .inl (cI, 16, .inl (nF ((turnN gS gr rn gs gm rn).1)))), (a10, .inl (cI, 16, .inl (nF ((turnN gS gr rn gs gm rn).2))))]) A) args s 0 0 A) (F0 m 2 ls []) := by
    intro d1
    induction d1 with
    | zero =>
      intro i hi1 H locs ls hP hD hS hl
      obtain rfl : 16 = i := by omega
      refine lv_iload_n hx hb d_M_turn_2 rfl (lv_at hl 0 rfl) ?_
      refine lv_bipush (v := 16) hx hb d_M_turn_3 (by decide) ?_
      refine lv_icmp_ge (tgt := 29) hx hb d_M_turn_5 (by decide) (fun c_1 => ?_) (fun c_1 => absurd (sb_geT (a := 16) (b := 16) rfl rfl (by omega) (by omega) (by omega)) c_1)
      refine lv_iconst (v := 1) hx hb d_M_turn_29 (by decide) ?_
      refine lv_istore_n (lv' := [(1, .int 1), (0, .ref mo)]) hx hb d_M_turn_30 rfl hl (by decide) rfl (fun ls hl => ?_)
      have lp2 : ∀ (d2 r0 : Nat), r0 + d2 = rn → ∀ (H : Heap) (locs : List Loc) (ls : Array Slot), va_P D vwCl [(mo, .inr (7, mFs thr a1 a2 a3 (nI lt) (nI lb) (nI lz) ci a4 a5 a6 nu bk se op fa a7 a8 a9 a10 a11 (nI rn) kh kl sh sl a12 a13 a14 a15 a16 a17 a18 a19 a20)), (a7, .inl (cI, 256, .inl (nF gS))), (a8, .inl (cI, 240, .inl (nF gr))), (a9, .inl (cI, 16, .inl (nF ((turnN gS gr rn gs gm r0).1)))), (a10, .inl (cI, 16, .inl (nF ((turnN gS gr rn gs gm r0).2))))] H → va_D A [(mo, .inr (7, mFs thr a1 a2 a3 (nI lt) (nI lb) (nI lz) ci a4 a5 a6 nu bk se op fa a7 a8 a9 a10 a11 (nI rn) kh kl sh sl a12 a13 a14 a15 a16 a17 a18 a19 a20)), (a7, .inl (cI, 256, .inl (nF gS))), (a8, .inl (cI, 240, .inl (nF gr))), (a9, .inl (cI, 16, .inl (nF ((turnN gS gr rn gs gm r0).1)))), (a10, .inl (cI, 16, .inl (nF ((turnN gS gr rn gs gm r0).2))))] → va_S A s.heap H locs → lv_has ls 6 [(1, .int (nI (1 + r0))), (0, .ref mo)] → W p l e rm_M_turn s m args below meth c H locs 0 0 (MQ below (sbQv D (fun (_ : Unit) => True) (fun (_ : Unit) => [(mo, .inr (7, mFs thr a1 a2 a3 (nI lt) (nI lb) (nI lz) ci a4 a5 a6 nu bk se op fa a7 a8 a9 a10 a11 (nI rn) kh kl sh sl a12 a13 a14 a15 a16 a17 a18 a19 a20)), (a7, .inl (cI, 256, .inl (nF gS))), (a8, .inl (cI, 240, .inl (nF gr))), (a9, .inl (cI, 16, .inl (nF ((turnN gS gr rn gs gm rn).1)))), (a10, .inl (cI, 16, .inl (nF ((turnN gS gr rn gs gm rn).2))))]) A) args s 0 0 A) (F0 m 31 ls []) := by
        intro d2
        induction d2 with
        | zero =>
          intro r0 hi2 H locs ls hP hD hS hl
          obtain rfl : rn = r0 := by omega
          obtain ⟨hB1, hB2⟩ := turnN_B hgS hgr hgs hgm rn rn
          refine lv_iload_n hx hb d_M_turn_31 rfl (lv_at hl 0 rfl) ?_
          refine lv_aload_n hx hb d_M_turn_32 rfl (lv_at hl 1 rfl) ?_
          refine va_get (D := D) (ci := 7) (v := .int (nI rn)) (C := R_M) (T := F_M) (N := 35) hx hb hts in_M hown hG.1 hP 0 rfl rfl 21 (by decide) (hts _ k_718) (fun _ h9 => h9) rfl d_M_turn_33 ?_
          refine lv_icmp_gt (tgt := 200) hx hb d_M_turn_36 (by decide) (fun c_2 => ?_) (fun c_2 => absurd (sb_gtT (a := 1 + rn) (b := rn) rfl rfl (by omega) (by omega) (by omega)) c_2)
          have hP9 := hP.sub (ws' := [(mo, .inr (7, mFs thr a1 a2 a3 (nI lt) (nI lb) (nI lz) ci a4 a5 a6 nu bk se op fa a7 a8 a9 a10 a11 (nI rn) kh kl sh sl a12 a13 a14 a15 a16 a17 a18 a19 a20)), (a7, .inl (cI, 256, .inl (nF gS))), (a8, .inl (cI, 240, .inl (nF gr))), (a9, .inl (cI, 16, .inl (nF ((turnN gS gr rn gs gm rn).1)))), (a10, .inl (cI, 16, .inl (nF ((turnN gS gr rn gs gm rn).2))))]) [0, 1, 2, 3, 4] rfl
          have hD9 := hD.sub (ws' := [(mo, .inr (7, mFs thr a1 a2 a3 (nI lt) (nI lb) (nI lz) ci a4 a5 a6 nu bk se op fa a7 a8 a9 a10 a11 (nI rn) kh kl sh sl a12 a13 a14 a15 a16 a17 a18 a19 a20)), (a7, .inl (cI, 256, .inl (nF gS))), (a8, .inl (cI, 240, .inl (nF gr))), (a9, .inl (cI, 16, .inl (nF ((turnN gS gr rn gs gm rn).1)))), (a10, .inl (cI, 16, .inl (nF ((turnN gS gr rn gs gm rn).2))))]) [0, 1, 2, 3, 4] (by decide) rfl
          exact W.vret hx hb hr (fun t ht hW => ⟨⟨(), rfl, trivial, by rw [ht]; exact hP9, hD9⟩, hS.F ht⟩) hS.2.2 d_M_turn_200
        | succ d2 ih2 =>
          intro r0 hi2 H locs ls hP hD hS hl
          obtain ⟨hB1, hB2⟩ := turnN_B hgS hgr hgs hgm rn r0
          refine lv_iload_n hx hb d_M_turn_31 rfl (lv_at hl 0 rfl) ?_
          refine lv_aload_n hx hb d_M_turn_32 rfl (lv_at hl 1 rfl) ?_
          refine va_get (D := D) (ci := 7) (v := .int (nI rn)) (C := R_M) (T := F_M) (N := 35) hx hb hts in_M hown hG.1 hP 0 rfl rfl 21 (by decide) (hts _ k_718) (fun _ h9 => h9) rfl d_M_turn_33 ?_
          refine lv_icmp_gt (tgt := 200) hx hb d_M_turn_36 (by decide) (fun c_3 => absurd c_3 (sb_gtF (a := 1 + r0) (b := rn) rfl rfl (by omega) (by omega) (by omega))) (fun c_3 => ?_)
          refine lv_iconst (v := 0) hx hb d_M_turn_39 (by decide) ?_
          refine lv_istore_n (lv' := [(2, .int 0), (1, .int (nI (1 + r0))), (0, .ref mo)]) hx hb d_M_turn_40 rfl hl (by decide) rfl (fun ls hl => ?_)
          have lp3 : ∀ (d3 i : Nat), i + d3 = 16 → ∀ (H : Heap) (locs : List Loc) (ls : Array Slot), va_P D vwCl [(mo, .inr (7, mFs thr a1 a2 a3 (nI lt) (nI lb) (nI lz) ci a4 a5 a6 nu bk se op fa a7 a8 a9 a10 a11 (nI rn) kh kl sh sl a12 a13 a14 a15 a16 a17 a18 a19 a20)), (a7, .inl (cI, 256, .inl (nF gS))), (a8, .inl (cI, 240, .inl (nF gr))), (a9, .inl (cI, 16, .inl (nF ((turnN gS gr rn gs gm r0).1)))), (a10, .inl (cI, 16, .inl (nF (iter (tSub gS ((turnN gS gr rn gs gm r0).1)) i ((turnN gS gr rn gs gm r0).2)))))] H → va_D A [(mo, .inr (7, mFs thr a1 a2 a3 (nI lt) (nI lb) (nI lz) ci a4 a5 a6 nu bk se op fa a7 a8 a9 a10 a11 (nI rn) kh kl sh sl a12 a13 a14 a15 a16 a17 a18 a19 a20)), (a7, .inl (cI, 256, .inl (nF gS))), (a8, .inl (cI, 240, .inl (nF gr))), (a9, .inl (cI, 16, .inl (nF ((turnN gS gr rn gs gm r0).1)))), (a10, .inl (cI, 16, .inl (nF (iter (tSub gS ((turnN gS gr rn gs gm r0).1)) i ((turnN gS gr rn gs gm r0).2)))))] → va_S A s.heap H locs → lv_has ls 6 [(2, .int (nI i)), (1, .int (nI (1 + r0))), (0, .ref mo)] → W p l e rm_M_turn s m args below meth c H locs 0 0 (MQ below (sbQv D (fun (_ : Unit) => True) (fun (_ : Unit) => [(mo, .inr (7, mFs thr a1 a2 a3 (nI lt) (nI lb) (nI lz) ci a4 a5 a6 nu bk se op fa a7 a8 a9 a10 a11 (nI rn) kh kl sh sl a12 a13 a14 a15 a16 a17 a18 a19 a20)), (a7, .inl (cI, 256, .inl (nF gS))), (a8, .inl (cI, 240, .inl (nF gr))), (a9, .inl (cI, 16, .inl (nF ((turnN gS gr rn gs gm rn).1)))), (a10, .inl (cI, 16, .inl (nF ((turnN gS gr rn gs gm rn).2))))]) A) args s 0 0 A) (F0 m 41 ls []) := by
            intro d3
            induction d3 with
            | zero =>
              intro i hi3 H locs ls hP hD hS hl
              obtain rfl : 16 = i := by omega
              refine lv_iload_n hx hb d_M_turn_41 rfl (lv_at hl 0 rfl) ?_
              refine lv_bipush (v := 16) hx hb d_M_turn_42 (by decide) ?_
              refine lv_icmp_ge (tgt := 75) hx hb d_M_turn_44 (by decide) (fun c_4 => ?_) (fun c_4 => absurd (sb_geT (a := 16) (b := 16) rfl rfl (by omega) (by omega) (by omega)) c_4)
              refine lv_iconst (v := 0) hx hb d_M_turn_75 (by decide) ?_
              refine lv_istore_n (lv' := [(2, .int 0), (1, .int (nI (1 + r0))), (0, .ref mo)]) hx hb d_M_turn_76 rfl hl (by decide) rfl (fun ls hl => ?_)
              have lp4 : ∀ (d4 i : Nat), i + d4 = 16 → ∀ (H : Heap) (locs : List Loc) (ls : Array Slot), va_P D vwCl [(mo, .inr (7, mFs thr a1 a2 a3 (nI lt) (nI lb) (nI lz) ci a4 a5 a6 nu bk se op fa a7 a8 a9 a10 a11 (nI rn) kh kl sh sl a12 a13 a14 a15 a16 a17 a18 a19 a20)), (a7, .inl (cI, 256, .inl (nF gS))), (a8, .inl (cI, 240, .inl (nF gr))), (a9, .inl (cI, 16, .inl (nF (iter (tMix gr (iter (tSub gS ((turnN gS gr rn gs gm r0).1)) 16 ((turnN gS gr rn gs gm r0).2)) rn (1 + r0)) i ((turnN gS gr rn gs gm r0).1))))), (a10, .inl (cI, 16, .inl (nF (iter (tSub gS ((turnN gS gr rn gs gm r0).1)) 16 ((turnN gS gr rn gs gm r0).2)))))] H → va_D A [(mo, .inr (7, mFs thr a1 a2 a3 (nI lt) (nI lb) (nI lz) ci a4 a5 a6 nu bk se op fa a7 a8 a9 a10 a11 (nI rn) kh kl sh sl a12 a13 a14 a15 a16 a17 a18 a19 a20)), (a7, .inl (cI, 256, .inl (nF gS))), (a8, .inl (cI, 240, .inl (nF gr))), (a9, .inl (cI, 16, .inl (nF (iter (tMix gr (iter (tSub gS ((turnN gS gr rn gs gm r0).1)) 16 ((turnN gS gr rn gs gm r0).2)) rn (1 + r0)) i ((turnN gS gr rn gs gm r0).1))))), (a10, .inl (cI, 16, .inl (nF (iter (tSub gS ((turnN gS gr rn gs gm r0).1)) 16 ((turnN gS gr rn gs gm r0).2)))))] → va_S A s.heap H locs → lv_has ls 6 [(2, .int (nI i)), (1, .int (nI (1 + r0))), (0, .ref mo)] → W p l e rm_M_turn s m args below meth c H locs 0 0 (MQ below (sbQv D (fun (_ : Unit) => True) (fun (_ : Unit) => [(mo, .inr (7, mFs thr a1 a2 a3 (nI lt) (nI lb) (nI lz) ci a4 a5 a6 nu bk se op fa a7 a8 a9 a10 a11 (nI rn) kh kl sh sl a12 a13 a14 a15 a16 a17 a18 a19 a20)), (a7, .inl (cI, 256, .inl (nF gS))), (a8, .inl (cI, 240, .inl (nF gr))), (a9, .inl (cI, 16, .inl (nF ((turnN gS gr rn gs gm rn).1)))), (a10, .inl (cI, 16, .inl (nF ((turnN gS gr rn gs gm rn).2))))]) A) args s 0 0 A) (F0 m 77 ls []) := by
                intro d4
                induction d4 with
                | zero =>
                  intro i hi4 H locs ls hP hD hS hl
                  obtain rfl : 16 = i := by omega
                  have hM := tSub_B hgS (turnN gS gr rn gs gm r0).1 16 _ hB2
                  refine lv_iload_n hx hb d_M_turn_77 rfl (lv_at hl 0 rfl) ?_
                  refine lv_bipush (v := 16) hx hb d_M_turn_78 (by decide) ?_
                  refine lv_icmp_ge (tgt := 194) hx hb d_M_turn_80 (by decide) (fun c_5 => ?_) (fun c_5 => absurd (sb_geT (a := 16) (b := 16) rfl rfl (by omega) (by omega) (by omega)) c_5)
                  refine lv_iinc (v := nI ((1 + r0) + 1)) (lv' := [(1, .int (nI ((1 + r0) + 1))), (2, .int (nI 16)), (0, .ref mo)]) hx hb d_M_turn_194 hl (k := 1) rfl (sb_inc (a := 1 + r0) (b := (1 + r0) + 1) (d := 1) rfl (by decide) (by omega)) (by decide) rfl (fun ls hl => ?_)
                  refine lv_goto (tgt := 31) hx hb d_M_turn_197 (by decide) ?_
                  have hE : (turnN gS gr rn gs gm (r0 + 1)) = (iter (tMix gr (iter (tSub gS ((turnN gS gr rn gs gm r0).1)) 16 ((turnN gS gr rn gs gm r0).2)) rn (1 + r0)) 16 ((turnN gS gr rn gs gm r0).1), iter (tSub gS ((turnN gS gr rn gs gm r0).1)) 16 ((turnN gS gr rn gs gm r0).2)) := rfl
                  have ih' := ih2 (r0 + 1) (by omega)
                  rw [hE] at ih'
                  exact ih' _ _ ls (hP.sub [0, 1, 2, 3, 4] rfl) (hD.sub [0, 1, 2, 3, 4] (by decide) rfl) hS (lv_sub hl [0, 2] rfl)
                | succ d4 ih4 =>
                  intro i hi4 H locs ls hP hD hS hl
                  have hM := tSub_B hgS (turnN gS gr rn gs gm r0).1 16 _ hB2
                  refine lv_iload_n hx hb d_M_turn_77 rfl (lv_at hl 0 rfl) ?_
                  refine lv_bipush (v := 16) hx hb d_M_turn_78 (by decide) ?_
                  refine lv_icmp_ge (tgt := 194) hx hb d_M_turn_80 (by decide) (fun c_6 => absurd c_6 (sb_geF (a := i) (b := 16) rfl rfl (by omega) (by omega) (by omega))) (fun c_6 => ?_)
                  refine lv_iload_n hx hb d_M_turn_83 rfl (lv_at hl 0 rfl) ?_
                  refine lv_iconst (v := 4) hx hb d_M_turn_84 (by decide) ?_
                  refine lv_idiv hx hb d_M_turn_85 (by decide) ?_
                  refine sb_topn (i / 4) (sb_div (a := i) (b := 4) (by omega) (by omega) (by omega) rfl rfl) ?_
                  refine lv_iconst (v := 4) hx hb d_M_turn_86 (by decide) ?_
                  refine lv_imul hx hb d_M_turn_87 ?_
                  refine sb_topn ((i / 4) * 4) (sb_mul (a := i / 4) (b := 4) rfl rfl) ?_
                  refine sb_topn ((i / 4) * 4) rfl ?_
                  refine lv_istore_n (lv' := [(3, .int (nI ((i / 4) * 4))), (2, .int (nI i)), (1, .int (nI (1 + r0))), (0, .ref mo)]) hx hb d_M_turn_88 rfl hl (by decide) rfl (fun ls hl => ?_)
                  refine lv_iload_n hx hb d_M_turn_89 rfl (lv_at hl 1 rfl) ?_
                  refine lv_iconst (v := 4) hx hb d_M_turn_90 (by decide) ?_
                  refine lv_irem hx hb d_M_turn_91 (by decide) ?_
                  refine sb_topn (i % 4) (sb_rem (a := i) (b := 4) (by omega) (by omega) (by omega) rfl rfl) ?_
                  refine sb_topn (i % 4) rfl ?_
                  refine lv_istore (lv' := [(4, .int (nI (i % 4))), (3, .int (nI ((i / 4) * 4))), (2, .int (nI i)), (1, .int (nI (1 + r0))), (0, .ref mo)]) hx hb d_M_turn_92 hl (by decide) rfl (fun ls hl => ?_)
                  refine lv_aload_n hx hb d_M_turn_94 rfl (lv_at hl 4 rfl) ?_
                  refine va_get (D := D) (ci := 7) (v := .ref a10) (C := R_M) (T := F_M) (N := 35) hx hb hts in_M hown hG.1 hP 0 rfl rfl 19 (by decide) (hts _ k_716) (fun _ h9 => h9) rfl d_M_turn_95 ?_
                  refine lv_iload_n hx hb d_M_turn_98 rfl (lv_at hl 2 rfl) ?_
                  refine sb_ild hx hb hG.1 hP 4 rfl i rfl (by omega) (by omega) d_M_turn_99 ?_
                  refine sb_topn ((iter (tSub gS ((turnN gS gr rn gs gm r0).1)) 16 ((turnN gS gr rn gs gm r0).2)) i) rfl ?_
                  refine lv_istore (lv' := [(5, .int (nI ((iter (tSub gS ((turnN gS gr rn gs gm r0).1)) 16 ((turnN gS gr rn gs gm r0).2)) i))), (4, .int (nI (i % 4))), (3, .int (nI ((i / 4) * 4))), (2, .int (nI i)), (1, .int (nI (1 + r0))), (0, .ref mo)]) hx hb d_M_turn_100 hl (by decide) rfl (fun ls hl => ?_)
                  refine lv_iload_n hx hb d_M_turn_102 rfl (lv_at hl 4 rfl) ?_
                  refine lv_aload_n hx hb d_M_turn_103 rfl (lv_at hl 5 rfl) ?_
                  refine va_get (D := D) (ci := 7) (v := .int (nI rn)) (C := R_M) (T := F_M) (N := 35) hx hb hts in_M hown hG.1 hP 0 rfl rfl 21 (by decide) (hts _ k_718) (fun _ h9 => h9) rfl d_M_turn_104 ?_
                  refine lv_icmp_ge (tgt := 168) hx hb d_M_turn_107 (by decide) (fun c_7 => ?_) (fun c_7 => ?_)
                  · have c_7 := (sb_geI (a := 1 + r0) (b := rn) rfl rfl (by omega) (by omega)).mp c_7
                    refine lv_aload_n hx hb d_M_turn_168 rfl (lv_at hl 5 rfl) ?_
                    refine va_get (D := D) (ci := 7) (v := .ref a9) (C := R_M) (T := F_M) (N := 35) hx hb hts in_M hown hG.1 hP 0 rfl rfl 18 (by decide) (hts _ k_715) (fun _ h9 => h9) rfl d_M_turn_169 ?_
                    refine lv_iload_n hx hb d_M_turn_172 rfl (lv_at hl 3 rfl) ?_
                    refine lv_iload hx hb d_M_turn_173 (lv_at hl 0 rfl) ?_
                    refine lv_aload_n hx hb d_M_turn_175 rfl (lv_at hl 5 rfl) ?_
                    refine va_get (D := D) (ci := 7) (v := .ref a8) (C := R_M) (T := F_M) (N := 35) hx hb hts in_M hown hG.1 hP 0 rfl rfl 17 (by decide) (hts _ k_714) (fun _ h9 => h9) rfl d_M_turn_176 ?_
                    refine lv_bipush (v := 16) hx hb d_M_turn_179 (by decide) ?_
                    refine lv_iload_n hx hb d_M_turn_181 rfl (lv_at hl 4 rfl) ?_
                    refine lv_imul hx hb d_M_turn_182 ?_
                    refine sb_topn (16 * (1 + r0)) (sb_mul (a := 16) (b := 1 + r0) rfl rfl) ?_
                    refine lv_iload_n hx hb d_M_turn_183 rfl (lv_at hl 3 rfl) ?_
                    refine lv_iadd hx hb d_M_turn_184 ?_
                    refine sb_topn ((16 * (1 + r0)) + i) (nI_add (16 * (1 + r0)) i) ?_
                    refine sb_ild hx hb hG.1 hP 2 rfl ((16 * (1 + r0)) + i) rfl (by omega) (by omega) d_M_turn_185 ?_
                    refine lv_ixor hx hb d_M_turn_186 ?_
                    refine sb_topn (((iter (tSub gS ((turnN gS gr rn gs gm r0).1)) 16 ((turnN gS gr rn gs gm r0).2)) i) ^^^ (gr ((16 * (1 + r0)) + i))) (sb_xor (a := (iter (tSub gS ((turnN gS gr rn gs gm r0).1)) 16 ((turnN gS gr rn gs gm r0).2)) i) (b := gr ((16 * (1 + r0)) + i)) rfl rfl) ?_
                    refine sb_topn (((iter (tSub gS ((turnN gS gr rn gs gm r0).1)) 16 ((turnN gS gr rn gs gm r0).2)) i) ^^^ (gr ((16 * (1 + r0)) + i))) rfl ?_
                    refine sb_ist hx hb hG.1 hP hD hS 3 rfl i rfl (by omega) (by omega) d_M_turn_187 (fun f_8 H locs ef_8 hP hD hS => ?_)
                    have hP : va_P D vwCl [(mo, .inr (7, mFs thr a1 a2 a3 (nI lt) (nI lb) (nI lz) ci a4 a5 a6 nu bk se op fa a7 a8 a9 a10 a11 (nI rn) kh kl sh sl a12 a13 a14 a15 a16 a17 a18 a19 a20)), (a7, .inl (cI, 256, .inl (nF gS))), (a8, .inl (cI, 240, .inl (nF gr))), (a9, .inl (cI, 16, .inl f_8)), (a10, .inl (cI, 16, .inl (nF (iter (tSub gS ((turnN gS gr rn gs gm r0).1)) 16 ((turnN gS gr rn gs gm r0).2)))))] H := hP
                    have hD : va_D A [(mo, .inr (7, mFs thr a1 a2 a3 (nI lt) (nI lb) (nI lz) ci a4 a5 a6 nu bk se op fa a7 a8 a9 a10 a11 (nI rn) kh kl sh sl a12 a13 a14 a15 a16 a17 a18 a19 a20)), (a7, .inl (cI, 256, .inl (nF gS))), (a8, .inl (cI, 240, .inl (nF gr))), (a9, .inl (cI, 16, .inl f_8)), (a10, .inl (cI, 16, .inl (nF (iter (tSub gS ((turnN gS gr rn gs gm r0).1)) 16 ((turnN gS gr rn gs gm r0).2)))))] := hD
                    obtain rfl : f_8 = nF (updN (iter (tMix gr (iter (tSub gS ((turnN gS gr rn gs gm r0).1)) 16 ((turnN gS gr rn gs gm r0).2)) rn (1 + r0)) i ((turnN gS gr rn gs gm r0).1)) i (((iter (tSub gS ((turnN gS gr rn gs gm r0).1)) 16 ((turnN gS gr rn gs gm r0).2)) i) ^^^ (gr ((16 * (1 + r0)) + i)))) := ef_8.trans (nF_set _ _ _)
                    have hP : va_P D vwCl [(mo, .inr (7, mFs thr a1 a2 a3 (nI lt) (nI lb) (nI lz) ci a4 a5 a6 nu bk se op fa a7 a8 a9 a10 a11 (nI rn) kh kl sh sl a12 a13 a14 a15 a16 a17 a18 a19 a20)), (a7, .inl (cI, 256, .inl (nF gS))), (a8, .inl (cI, 240, .inl (nF gr))), (a9, .inl (cI, 16, .inl (nF (updN (iter (tMix gr (iter (tSub gS ((turnN gS gr rn gs gm r0).1)) 16 ((turnN gS gr rn gs gm r0).2)) rn (1 + r0)) i ((turnN gS gr rn gs gm r0).1)) i (((iter (tSub gS ((turnN gS gr rn gs gm r0).1)) 16 ((turnN gS gr rn gs gm r0).2)) i) ^^^ (gr ((16 * (1 + r0)) + i))))))), (a10, .inl (cI, 16, .inl (nF (iter (tSub gS ((turnN gS gr rn gs gm r0).1)) 16 ((turnN gS gr rn gs gm r0).2)))))] H := hP
                    have hD : va_D A [(mo, .inr (7, mFs thr a1 a2 a3 (nI lt) (nI lb) (nI lz) ci a4 a5 a6 nu bk se op fa a7 a8 a9 a10 a11 (nI rn) kh kl sh sl a12 a13 a14 a15 a16 a17 a18 a19 a20)), (a7, .inl (cI, 256, .inl (nF gS))), (a8, .inl (cI, 240, .inl (nF gr))), (a9, .inl (cI, 16, .inl (nF (updN (iter (tMix gr (iter (tSub gS ((turnN gS gr rn gs gm r0).1)) 16 ((turnN gS gr rn gs gm r0).2)) rn (1 + r0)) i ((turnN gS gr rn gs gm r0).1)) i (((iter (tSub gS ((turnN gS gr rn gs gm r0).1)) 16 ((turnN gS gr rn gs gm r0).2)) i) ^^^ (gr ((16 * (1 + r0)) + i))))))), (a10, .inl (cI, 16, .inl (nF (iter (tSub gS ((turnN gS gr rn gs gm r0).1)) 16 ((turnN gS gr rn gs gm r0).2)))))] := hD
                    refine lv_iinc (v := nI (i + 1)) (lv' := [(2, .int (nI (i + 1))), (5, .int (nI ((iter (tSub gS ((turnN gS gr rn gs gm r0).1)) 16 ((turnN gS gr rn gs gm r0).2)) i))), (4, .int (nI (i % 4))), (3, .int (nI ((i / 4) * 4))), (1, .int (nI (1 + r0))), (0, .ref mo)]) hx hb d_M_turn_188 hl (k := 3) rfl (sb_inc (a := i) (b := i + 1) (d := 1) rfl (by decide) (by omega)) (by decide) rfl (fun ls hl => ?_)
                    refine lv_goto (tgt := 77) hx hb d_M_turn_191 (by decide) ?_
                    rw [show nF (updN (iter (tMix gr (iter (tSub gS ((turnN gS gr rn gs gm r0).1)) 16 ((turnN gS gr rn gs gm r0).2)) rn (1 + r0)) i ((turnN gS gr rn gs gm r0).1)) i (((iter (tSub gS ((turnN gS gr rn gs gm r0).1)) 16 ((turnN gS gr rn gs gm r0).2)) i) ^^^ (gr ((16 * (1 + r0)) + i)))) = nF (iter (tMix gr (iter (tSub gS ((turnN gS gr rn gs gm r0).1)) 16 ((turnN gS gr rn gs gm r0).2)) rn (1 + r0)) (i + 1) ((turnN gS gr rn gs gm r0).1)) from (congrArg nF (Eq.trans (by simp only [tMix, if_pos c_7]) (iter_s _ _ _).symm))] at hP hD
                    exact ih4 (i + 1) (by omega) _ _ ls (hP.sub [0, 1, 2, 3, 4] rfl) (hD.sub [0, 1, 2, 3, 4] (by decide) rfl) hS (lv_sub hl [0, 4, 5] rfl)
                  · have c_7 := mt (sb_geI (a := 1 + r0) (b := rn) rfl rfl (by omega) (by omega)).mpr c_7
                    refine lv_aload_n hx hb d_M_turn_110 rfl (lv_at hl 5 rfl) ?_
                    refine va_get (D := D) (ci := 7) (v := .ref a10) (C := R_M) (T := F_M) (N := 35) hx hb hts in_M hown hG.1 hP 0 rfl rfl 19 (by decide) (hts _ k_716) (fun _ h9 => h9) rfl d_M_turn_111 ?_
                    refine lv_iload_n hx hb d_M_turn_114 rfl (lv_at hl 3 rfl) ?_
                    refine sb_ild hx hb hG.1 hP 4 rfl i rfl (by omega) (by omega) d_M_turn_115 ?_
                    refine lv_iconst (v := 2) hx hb d_M_turn_116 (by decide) ?_
                    refine vp_callSi (va_runS (As := [.int (nI ((iter (tSub gS ((turnN gS gr rn gs gm r0).1)) 16 ((turnN gS gr rn gs gm r0).2)) i)), .int 2]) (rest := []) ⟨hx, hb, hml, hown, hts⟩ (c_M_times l D cI cL cB tS tF ((iter (tSub gS ((turnN gS gr rn gs gm r0).1)) 16 ((turnN gS gr rn gs gm r0).2)) i) 2 (hM _) (by omega)) (va_cwS 2 hts (sb_gS k_694 k_695 k_30 k_696) rfl rfl rfl (by decide +kernel) ⟨Nat.le_of_ble_eq_true rfl, Nat.le_of_ble_eq_true rfl⟩) (sb_rS hG hP hS [] rfl) rfl rfl hl.1 rfl (lv_room (Nat.le_of_ble_eq_true rfl)) d_M_turn_117 ⟨Nat.le_of_ble_eq_true rfl, Nat.le_of_ble_eq_true rfl⟩).run (fun r_9 er_9 => ?_)
                    subst er_9
                    refine lv_aload_n hx hb d_M_turn_120 rfl (lv_at hl 5 rfl) ?_
                    refine va_get (D := D) (ci := 7) (v := .ref a10) (C := R_M) (T := F_M) (N := 35) hx hb hts in_M hown hG.1 hP 0 rfl rfl 19 (by decide) (hts _ k_716) (fun _ h9 => h9) rfl d_M_turn_121 ?_
                    refine lv_iload_n hx hb d_M_turn_124 rfl (lv_at hl 2 rfl) ?_
                    refine lv_iload hx hb d_M_turn_125 (lv_at hl 1 rfl) ?_
                    refine lv_iconst (v := 1) hx hb d_M_turn_127 (by decide) ?_
                    refine lv_iadd hx hb d_M_turn_128 ?_
                    refine sb_topn ((i % 4) + 1) (nI_add (i % 4) 1) ?_
                    refine lv_iconst (v := 4) hx hb d_M_turn_129 (by decide) ?_
                    refine lv_irem hx hb d_M_turn_130 (by decide) ?_
                    refine sb_topn (((i % 4) + 1) % 4) (sb_rem (a := (i % 4) + 1) (b := 4) (by omega) (by omega) (by omega) rfl rfl) ?_
                    refine lv_iadd hx hb d_M_turn_131 ?_
                    refine sb_topn (((i / 4) * 4) + (((i % 4) + 1) % 4)) (nI_add ((i / 4) * 4) (((i % 4) + 1) % 4)) ?_
                    refine sb_ild hx hb hG.1 hP 4 rfl (((i / 4) * 4) + (((i % 4) + 1) % 4)) rfl (by omega) (by omega) d_M_turn_132 ?_
                    refine lv_iconst (v := 3) hx hb d_M_turn_133 (by decide) ?_
                    refine vp_callSi (va_runS (As := [.int (nI ((iter (tSub gS ((turnN gS gr rn gs gm r0).1)) 16 ((turnN gS gr rn gs gm r0).2)) (((i / 4) * 4) + (((i % 4) + 1) % 4)))), .int 3]) (rest := [.int (nI (gmN ((iter (tSub gS ((turnN gS gr rn gs gm r0).1)) 16 ((turnN gS gr rn gs gm r0).2)) i) 2))]) ⟨hx, hb, hml, hown, hts⟩ (c_M_times l D cI cL cB tS tF ((iter (tSub gS ((turnN gS gr rn gs gm r0).1)) 16 ((turnN gS gr rn gs gm r0).2)) (((i / 4) * 4) + (((i % 4) + 1) % 4))) 3 (hM _) (by omega)) (va_cwS 2 hts (sb_gS k_694 k_695 k_30 k_696) rfl rfl rfl (by decide +kernel) ⟨Nat.le_of_ble_eq_true rfl, Nat.le_of_ble_eq_true rfl⟩) (sb_rS hG hP hS [] rfl) rfl rfl hl.1 rfl (lv_room (Nat.le_of_ble_eq_true rfl)) d_M_turn_134 ⟨Nat.le_of_ble_eq_true rfl, Nat.le_of_ble_eq_true rfl⟩).run (fun r_10 er_10 => ?_)
                    subst er_10
                    refine lv_ixor hx hb d_M_turn_137 ?_
                    refine sb_topn ((gmN ((iter (tSub gS ((turnN gS gr rn gs gm r0).1)) 16 ((turnN gS gr rn gs gm r0).2)) i) 2) ^^^ (gmN ((iter (tSub gS ((turnN gS gr rn gs gm r0).1)) 16 ((turnN gS gr rn gs gm r0).2)) (((i / 4) * 4) + (((i % 4) + 1) % 4))) 3)) (sb_xor (a := (gmN ((iter (tSub gS ((turnN gS gr rn gs gm r0).1)) 16 ((turnN gS gr rn gs gm r0).2)) i) 2)) (b := (gmN ((iter (tSub gS ((turnN gS gr rn gs gm r0).1)) 16 ((turnN gS gr rn gs gm r0).2)) (((i / 4) * 4) + (((i % 4) + 1) % 4))) 3)) rfl rfl) ?_
                    refine lv_aload_n hx hb d_M_turn_138 rfl (lv_at hl 5 rfl) ?_
                    refine va_get (D := D) (ci := 7) (v := .ref a10) (C := R_M) (T := F_M) (N := 35) hx hb hts in_M hown hG.1 hP 0 rfl rfl 19 (by decide) (hts _ k_716) (fun _ h9 => h9) rfl d_M_turn_139 ?_
                    refine lv_iload_n hx hb d_M_turn_142 rfl (lv_at hl 2 rfl) ?_
                    refine lv_iload hx hb d_M_turn_143 (lv_at hl 1 rfl) ?_
                    refine lv_iconst (v := 2) hx hb d_M_turn_145 (by decide) ?_
                    refine lv_iadd hx hb d_M_turn_146 ?_
                    refine sb_topn ((i % 4) + 2) (nI_add (i % 4) 2) ?_
                    refine lv_iconst (v := 4) hx hb d_M_turn_147 (by decide) ?_
                    refine lv_irem hx hb d_M_turn_148 (by decide) ?_
                    refine sb_topn (((i % 4) + 2) % 4) (sb_rem (a := (i % 4) + 2) (b := 4) (by omega) (by omega) (by omega) rfl rfl) ?_
                    refine lv_iadd hx hb d_M_turn_149 ?_
                    refine sb_topn (((i / 4) * 4) + (((i % 4) + 2) % 4)) (nI_add ((i / 4) * 4) (((i % 4) + 2) % 4)) ?_
                    refine sb_ild hx hb hG.1 hP 4 rfl (((i / 4) * 4) + (((i % 4) + 2) % 4)) rfl (by omega) (by omega) d_M_turn_150 ?_
                    refine lv_ixor hx hb d_M_turn_151 ?_
                    refine sb_topn (((gmN ((iter (tSub gS ((turnN gS gr rn gs gm r0).1)) 16 ((turnN gS gr rn gs gm r0).2)) i) 2) ^^^ (gmN ((iter (tSub gS ((turnN gS gr rn gs gm r0).1)) 16 ((turnN gS gr rn gs gm r0).2)) (((i / 4) * 4) + (((i % 4) + 1) % 4))) 3)) ^^^ ((iter (tSub gS ((turnN gS gr rn gs gm r0).1)) 16 ((turnN gS gr rn gs gm r0).2)) (((i / 4) * 4) + (((i % 4) + 2) % 4)))) (sb_xor (a := (gmN ((iter (tSub gS ((turnN gS gr rn gs gm r0).1)) 16 ((turnN gS gr rn gs gm r0).2)) i) 2) ^^^ (gmN ((iter (tSub gS ((turnN gS gr rn gs gm r0).1)) 16 ((turnN gS gr rn gs gm r0).2)) (((i / 4) * 4) + (((i % 4) + 1) % 4))) 3)) (b := (iter (tSub gS ((turnN gS gr rn gs gm r0).1)) 16 ((turnN gS gr rn gs gm r0).2)) (((i / 4) * 4) + (((i % 4) + 2) % 4))) rfl rfl) ?_
                    refine lv_aload_n hx hb d_M_turn_152 rfl (lv_at hl 5 rfl) ?_
                    refine va_get (D := D) (ci := 7) (v := .ref a10) (C := R_M) (T := F_M) (N := 35) hx hb hts in_M hown hG.1 hP 0 rfl rfl 19 (by decide) (hts _ k_716) (fun _ h9 => h9) rfl d_M_turn_153 ?_
                    refine lv_iload_n hx hb d_M_turn_156 rfl (lv_at hl 2 rfl) ?_
                    refine lv_iload hx hb d_M_turn_157 (lv_at hl 1 rfl) ?_
                    refine lv_iconst (v := 3) hx hb d_M_turn_159 (by decide) ?_
                    refine lv_iadd hx hb d_M_turn_160 ?_
                    refine sb_topn ((i % 4) + 3) (nI_add (i % 4) 3) ?_
                    refine lv_iconst (v := 4) hx hb d_M_turn_161 (by decide) ?_
                    refine lv_irem hx hb d_M_turn_162 (by decide) ?_
                    refine sb_topn (((i % 4) + 3) % 4) (sb_rem (a := (i % 4) + 3) (b := 4) (by omega) (by omega) (by omega) rfl rfl) ?_
                    refine lv_iadd hx hb d_M_turn_163 ?_
                    refine sb_topn (((i / 4) * 4) + (((i % 4) + 3) % 4)) (nI_add ((i / 4) * 4) (((i % 4) + 3) % 4)) ?_
                    refine sb_ild hx hb hG.1 hP 4 rfl (((i / 4) * 4) + (((i % 4) + 3) % 4)) rfl (by omega) (by omega) d_M_turn_164 ?_
                    refine lv_ixor hx hb d_M_turn_165 ?_
                    refine sb_topn ((((gmN ((iter (tSub gS ((turnN gS gr rn gs gm r0).1)) 16 ((turnN gS gr rn gs gm r0).2)) i) 2) ^^^ (gmN ((iter (tSub gS ((turnN gS gr rn gs gm r0).1)) 16 ((turnN gS gr rn gs gm r0).2)) (((i / 4) * 4) + (((i % 4) + 1) % 4))) 3)) ^^^ ((iter (tSub gS ((turnN gS gr rn gs gm r0).1)) 16 ((turnN gS gr rn gs gm r0).2)) (((i / 4) * 4) + (((i % 4) + 2) % 4)))) ^^^ ((iter (tSub gS ((turnN gS gr rn gs gm r0).1)) 16 ((turnN gS gr rn gs gm r0).2)) (((i / 4) * 4) + (((i % 4) + 3) % 4)))) (sb_xor (a := ((gmN ((iter (tSub gS ((turnN gS gr rn gs gm r0).1)) 16 ((turnN gS gr rn gs gm r0).2)) i) 2) ^^^ (gmN ((iter (tSub gS ((turnN gS gr rn gs gm r0).1)) 16 ((turnN gS gr rn gs gm r0).2)) (((i / 4) * 4) + (((i % 4) + 1) % 4))) 3)) ^^^ ((iter (tSub gS ((turnN gS gr rn gs gm r0).1)) 16 ((turnN gS gr rn gs gm r0).2)) (((i / 4) * 4) + (((i % 4) + 2) % 4)))) (b := (iter (tSub gS ((turnN gS gr rn gs gm r0).1)) 16 ((turnN gS gr rn gs gm r0).2)) (((i / 4) * 4) + (((i % 4) + 3) % 4))) rfl rfl) ?_
                    refine sb_topn ((((gmN ((iter (tSub gS ((turnN gS gr rn gs gm r0).1)) 16 ((turnN gS gr rn gs gm r0).2)) i) 2) ^^^ (gmN ((iter (tSub gS ((turnN gS gr rn gs gm r0).1)) 16 ((turnN gS gr rn gs gm r0).2)) (((i / 4) * 4) + (((i % 4) + 1) % 4))) 3)) ^^^ ((iter (tSub gS ((turnN gS gr rn gs gm r0).1)) 16 ((turnN gS gr rn gs gm r0).2)) (((i / 4) * 4) + (((i % 4) + 2) % 4)))) ^^^ ((iter (tSub gS ((turnN gS gr rn gs gm r0).1)) 16 ((turnN gS gr rn gs gm r0).2)) (((i / 4) * 4) + (((i % 4) + 3) % 4)))) rfl ?_
                    refine lv_istore (lv' := [(5, .int (nI ((((gmN ((iter (tSub gS ((turnN gS gr rn gs gm r0).1)) 16 ((turnN gS gr rn gs gm r0).2)) i) 2) ^^^ (gmN ((iter (tSub gS ((turnN gS gr rn gs gm r0).1)) 16 ((turnN gS gr rn gs gm r0).2)) (((i / 4) * 4) + (((i % 4) + 1) % 4))) 3)) ^^^ ((iter (tSub gS ((turnN gS gr rn gs gm r0).1)) 16 ((turnN gS gr rn gs gm r0).2)) (((i / 4) * 4) + (((i % 4) + 2) % 4)))) ^^^ ((iter (tSub gS ((turnN gS gr rn gs gm r0).1)) 16 ((turnN gS gr rn gs gm r0).2)) (((i / 4) * 4) + (((i % 4) + 3) % 4)))))), (4, .int (nI (i % 4))), (3, .int (nI ((i / 4) * 4))), (2, .int (nI i)), (1, .int (nI (1 + r0))), (0, .ref mo)]) hx hb d_M_turn_166 hl (by decide) rfl (fun ls hl => ?_)
                    refine lv_aload_n hx hb d_M_turn_168 rfl (lv_at hl 5 rfl) ?_
                    refine va_get (D := D) (ci := 7) (v := .ref a9) (C := R_M) (T := F_M) (N := 35) hx hb hts in_M hown hG.1 hP 0 rfl rfl 18 (by decide) (hts _ k_715) (fun _ h9 => h9) rfl d_M_turn_169 ?_
                    refine lv_iload_n hx hb d_M_turn_172 rfl (lv_at hl 3 rfl) ?_
                    refine lv_iload hx hb d_M_turn_173 (lv_at hl 0 rfl) ?_
                    refine lv_aload_n hx hb d_M_turn_175 rfl (lv_at hl 5 rfl) ?_
                    refine va_get (D := D) (ci := 7) (v := .ref a8) (C := R_M) (T := F_M) (N := 35) hx hb hts in_M hown hG.1 hP 0 rfl rfl 17 (by decide) (hts _ k_714) (fun _ h9 => h9) rfl d_M_turn_176 ?_
                    refine lv_bipush (v := 16) hx hb d_M_turn_179 (by decide) ?_
                    refine lv_iload_n hx hb d_M_turn_181 rfl (lv_at hl 4 rfl) ?_
                    refine lv_imul hx hb d_M_turn_182 ?_
                    refine sb_topn (16 * (1 + r0)) (sb_mul (a := 16) (b := 1 + r0) rfl rfl) ?_
                    refine lv_iload_n hx hb d_M_turn_183 rfl (lv_at hl 3 rfl) ?_
                    refine lv_iadd hx hb d_M_turn_184 ?_
                    refine sb_topn ((16 * (1 + r0)) + i) (nI_add (16 * (1 + r0)) i) ?_
                    refine sb_ild hx hb hG.1 hP 2 rfl ((16 * (1 + r0)) + i) rfl (by omega) (by omega) d_M_turn_185 ?_
                    refine lv_ixor hx hb d_M_turn_186 ?_
                    refine sb_topn (((((gmN ((iter (tSub gS ((turnN gS gr rn gs gm r0).1)) 16 ((turnN gS gr rn gs gm r0).2)) i) 2) ^^^ (gmN ((iter (tSub gS ((turnN gS gr rn gs gm r0).1)) 16 ((turnN gS gr rn gs gm r0).2)) (((i / 4) * 4) + (((i % 4) + 1) % 4))) 3)) ^^^ ((iter (tSub gS ((turnN gS gr rn gs gm r0).1)) 16 ((turnN gS gr rn gs gm r0).2)) (((i / 4) * 4) + (((i % 4) + 2) % 4)))) ^^^ ((iter (tSub gS ((turnN gS gr rn gs gm r0).1)) 16 ((turnN gS gr rn gs gm r0).2)) (((i / 4) * 4) + (((i % 4) + 3) % 4)))) ^^^ (gr ((16 * (1 + r0)) + i))) (sb_xor (a := (((gmN ((iter (tSub gS ((turnN gS gr rn gs gm r0).1)) 16 ((turnN gS gr rn gs gm r0).2)) i) 2) ^^^ (gmN ((iter (tSub gS ((turnN gS gr rn gs gm r0).1)) 16 ((turnN gS gr rn gs gm r0).2)) (((i / 4) * 4) + (((i % 4) + 1) % 4))) 3)) ^^^ ((iter (tSub gS ((turnN gS gr rn gs gm r0).1)) 16 ((turnN gS gr rn gs gm r0).2)) (((i / 4) * 4) + (((i % 4) + 2) % 4)))) ^^^ ((iter (tSub gS ((turnN gS gr rn gs gm r0).1)) 16 ((turnN gS gr rn gs gm r0).2)) (((i / 4) * 4) + (((i % 4) + 3) % 4)))) (b := gr ((16 * (1 + r0)) + i)) rfl rfl) ?_
                    refine sb_topn (((((gmN ((iter (tSub gS ((turnN gS gr rn gs gm r0).1)) 16 ((turnN gS gr rn gs gm r0).2)) i) 2) ^^^ (gmN ((iter (tSub gS ((turnN gS gr rn gs gm r0).1)) 16 ((turnN gS gr rn gs gm r0).2)) (((i / 4) * 4) + (((i % 4) + 1) % 4))) 3)) ^^^ ((iter (tSub gS ((turnN gS gr rn gs gm r0).1)) 16 ((turnN gS gr rn gs gm r0).2)) (((i / 4) * 4) + (((i % 4) + 2) % 4)))) ^^^ ((iter (tSub gS ((turnN gS gr rn gs gm r0).1)) 16 ((turnN gS gr rn gs gm r0).2)) (((i / 4) * 4) + (((i % 4) + 3) % 4)))) ^^^ (gr ((16 * (1 + r0)) + i))) rfl ?_
                    refine sb_ist hx hb hG.1 hP hD hS 3 rfl i rfl (by omega) (by omega) d_M_turn_187 (fun f_11 H locs ef_11 hP hD hS => ?_)
                    have hP : va_P D vwCl [(mo, .inr (7, mFs thr a1 a2 a3 (nI lt) (nI lb) (nI lz) ci a4 a5 a6 nu bk se op fa a7 a8 a9 a10 a11 (nI rn) kh kl sh sl a12 a13 a14 a15 a16 a17 a18 a19 a20)), (a7, .inl (cI, 256, .inl (nF gS))), (a8, .inl (cI, 240, .inl (nF gr))), (a9, .inl (cI, 16, .inl f_11)), (a10, .inl (cI, 16, .inl (nF (iter (tSub gS ((turnN gS gr rn gs gm r0).1)) 16 ((turnN gS gr rn gs gm r0).2)))))] H := hP
                    have hD : va_D A [(mo, .inr (7, mFs thr a1 a2 a3 (nI lt) (nI lb) (nI lz) ci a4 a5 a6 nu bk se op fa a7 a8 a9 a10 a11 (nI rn) kh kl sh sl a12 a13 a14 a15 a16 a17 a18 a19 a20)), (a7, .inl (cI, 256, .inl (nF gS))), (a8, .inl (cI, 240, .inl (nF gr))), (a9, .inl (cI, 16, .inl f_11)), (a10, .inl (cI, 16, .inl (nF (iter (tSub gS ((turnN gS gr rn gs gm r0).1)) 16 ((turnN gS gr rn gs gm r0).2)))))] := hD
                    obtain rfl : f_11 = nF (updN (iter (tMix gr (iter (tSub gS ((turnN gS gr rn gs gm r0).1)) 16 ((turnN gS gr rn gs gm r0).2)) rn (1 + r0)) i ((turnN gS gr rn gs gm r0).1)) i (((((gmN ((iter (tSub gS ((turnN gS gr rn gs gm r0).1)) 16 ((turnN gS gr rn gs gm r0).2)) i) 2) ^^^ (gmN ((iter (tSub gS ((turnN gS gr rn gs gm r0).1)) 16 ((turnN gS gr rn gs gm r0).2)) (((i / 4) * 4) + (((i % 4) + 1) % 4))) 3)) ^^^ ((iter (tSub gS ((turnN gS gr rn gs gm r0).1)) 16 ((turnN gS gr rn gs gm r0).2)) (((i / 4) * 4) + (((i % 4) + 2) % 4)))) ^^^ ((iter (tSub gS ((turnN gS gr rn gs gm r0).1)) 16 ((turnN gS gr rn gs gm r0).2)) (((i / 4) * 4) + (((i % 4) + 3) % 4)))) ^^^ (gr ((16 * (1 + r0)) + i)))) := ef_11.trans (nF_set _ _ _)
                    have hP : va_P D vwCl [(mo, .inr (7, mFs thr a1 a2 a3 (nI lt) (nI lb) (nI lz) ci a4 a5 a6 nu bk se op fa a7 a8 a9 a10 a11 (nI rn) kh kl sh sl a12 a13 a14 a15 a16 a17 a18 a19 a20)), (a7, .inl (cI, 256, .inl (nF gS))), (a8, .inl (cI, 240, .inl (nF gr))), (a9, .inl (cI, 16, .inl (nF (updN (iter (tMix gr (iter (tSub gS ((turnN gS gr rn gs gm r0).1)) 16 ((turnN gS gr rn gs gm r0).2)) rn (1 + r0)) i ((turnN gS gr rn gs gm r0).1)) i (((((gmN ((iter (tSub gS ((turnN gS gr rn gs gm r0).1)) 16 ((turnN gS gr rn gs gm r0).2)) i) 2) ^^^ (gmN ((iter (tSub gS ((turnN gS gr rn gs gm r0).1)) 16 ((turnN gS gr rn gs gm r0).2)) (((i / 4) * 4) + (((i % 4) + 1) % 4))) 3)) ^^^ ((iter (tSub gS ((turnN gS gr rn gs gm r0).1)) 16 ((turnN gS gr rn gs gm r0).2)) (((i / 4) * 4) + (((i % 4) + 2) % 4)))) ^^^ ((iter (tSub gS ((turnN gS gr rn gs gm r0).1)) 16 ((turnN gS gr rn gs gm r0).2)) (((i / 4) * 4) + (((i % 4) + 3) % 4)))) ^^^ (gr ((16 * (1 + r0)) + i))))))), (a10, .inl (cI, 16, .inl (nF (iter (tSub gS ((turnN gS gr rn gs gm r0).1)) 16 ((turnN gS gr rn gs gm r0).2)))))] H := hP
                    have hD : va_D A [(mo, .inr (7, mFs thr a1 a2 a3 (nI lt) (nI lb) (nI lz) ci a4 a5 a6 nu bk se op fa a7 a8 a9 a10 a11 (nI rn) kh kl sh sl a12 a13 a14 a15 a16 a17 a18 a19 a20)), (a7, .inl (cI, 256, .inl (nF gS))), (a8, .inl (cI, 240, .inl (nF gr))), (a9, .inl (cI, 16, .inl (nF (updN (iter (tMix gr (iter (tSub gS ((turnN gS gr rn gs gm r0).1)) 16 ((turnN gS gr rn gs gm r0).2)) rn (1 + r0)) i ((turnN gS gr rn gs gm r0).1)) i (((((gmN ((iter (tSub gS ((turnN gS gr rn gs gm r0).1)) 16 ((turnN gS gr rn gs gm r0).2)) i) 2) ^^^ (gmN ((iter (tSub gS ((turnN gS gr rn gs gm r0).1)) 16 ((turnN gS gr rn gs gm r0).2)) (((i / 4) * 4) + (((i % 4) + 1) % 4))) 3)) ^^^ ((iter (tSub gS ((turnN gS gr rn gs gm r0).1)) 16 ((turnN gS gr rn gs gm r0).2)) (((i / 4) * 4) + (((i % 4) + 2) % 4)))) ^^^ ((iter (tSub gS ((turnN gS gr rn gs gm r0).1)) 16 ((turnN gS gr rn gs gm r0).2)) (((i / 4) * 4) + (((i % 4) + 3) % 4)))) ^^^ (gr ((16 * (1 + r0)) + i))))))), (a10, .inl (cI, 16, .inl (nF (iter (tSub gS ((turnN gS gr rn gs gm r0).1)) 16 ((turnN gS gr rn gs gm r0).2)))))] := hD
                    refine lv_iinc (v := nI (i + 1)) (lv' := [(2, .int (nI (i + 1))), (5, .int (nI ((((gmN ((iter (tSub gS ((turnN gS gr rn gs gm r0).1)) 16 ((turnN gS gr rn gs gm r0).2)) i) 2) ^^^ (gmN ((iter (tSub gS ((turnN gS gr rn gs gm r0).1)) 16 ((turnN gS gr rn gs gm r0).2)) (((i / 4) * 4) + (((i % 4) + 1) % 4))) 3)) ^^^ ((iter (tSub gS ((turnN gS gr rn gs gm r0).1)) 16 ((turnN gS gr rn gs gm r0).2)) (((i / 4) * 4) + (((i % 4) + 2) % 4)))) ^^^ ((iter (tSub gS ((turnN gS gr rn gs gm r0).1)) 16 ((turnN gS gr rn gs gm r0).2)) (((i / 4) * 4) + (((i % 4) + 3) % 4)))))), (4, .int (nI (i % 4))), (3, .int (nI ((i / 4) * 4))), (1, .int (nI (1 + r0))), (0, .ref mo)]) hx hb d_M_turn_188 hl (k := 3) rfl (sb_inc (a := i) (b := i + 1) (d := 1) rfl (by decide) (by omega)) (by decide) rfl (fun ls hl => ?_)
                    refine lv_goto (tgt := 77) hx hb d_M_turn_191 (by decide) ?_
                    rw [show nF (updN (iter (tMix gr (iter (tSub gS ((turnN gS gr rn gs gm r0).1)) 16 ((turnN gS gr rn gs gm r0).2)) rn (1 + r0)) i ((turnN gS gr rn gs gm r0).1)) i (((((gmN ((iter (tSub gS ((turnN gS gr rn gs gm r0).1)) 16 ((turnN gS gr rn gs gm r0).2)) i) 2) ^^^ (gmN ((iter (tSub gS ((turnN gS gr rn gs gm r0).1)) 16 ((turnN gS gr rn gs gm r0).2)) (((i / 4) * 4) + (((i % 4) + 1) % 4))) 3)) ^^^ ((iter (tSub gS ((turnN gS gr rn gs gm r0).1)) 16 ((turnN gS gr rn gs gm r0).2)) (((i / 4) * 4) + (((i % 4) + 2) % 4)))) ^^^ ((iter (tSub gS ((turnN gS gr rn gs gm r0).1)) 16 ((turnN gS gr rn gs gm r0).2)) (((i / 4) * 4) + (((i % 4) + 3) % 4)))) ^^^ (gr ((16 * (1 + r0)) + i)))) = nF (iter (tMix gr (iter (tSub gS ((turnN gS gr rn gs gm r0).1)) 16 ((turnN gS gr rn gs gm r0).2)) rn (1 + r0)) (i + 1) ((turnN gS gr rn gs gm r0).1)) from (congrArg nF (Eq.trans (by simp only [tMix, if_neg c_7]) (iter_s _ _ _).symm))] at hP hD
                    exact ih4 (i + 1) (by omega) _ _ ls (hP.sub [0, 1, 2, 3, 4] rfl) (hD.sub [0, 1, 2, 3, 4] (by decide) rfl) hS (lv_sub hl [0, 4, 5] rfl)
              exact lp4 16 0 (by omega) _ _ ls (hP.sub [0, 1, 2, 3, 4] rfl) (hD.sub [0, 1, 2, 3, 4] (by decide) rfl) hS (lv_sub hl [0, 1, 2] rfl)
            | succ d3 ih3 =>
              intro i hi3 H locs ls hP hD hS hl
              refine lv_iload_n hx hb d_M_turn_41 rfl (lv_at hl 0 rfl) ?_
              refine lv_bipush (v := 16) hx hb d_M_turn_42 (by decide) ?_
              refine lv_icmp_ge (tgt := 75) hx hb d_M_turn_44 (by decide) (fun c_12 => absurd c_12 (sb_geF (a := i) (b := 16) rfl rfl (by omega) (by omega) (by omega))) (fun c_12 => ?_)
              refine lv_aload_n hx hb d_M_turn_47 rfl (lv_at hl 2 rfl) ?_
              refine va_get (D := D) (ci := 7) (v := .ref a10) (C := R_M) (T := F_M) (N := 35) hx hb hts in_M hown hG.1 hP 0 rfl rfl 19 (by decide) (hts _ k_716) (fun _ h9 => h9) rfl d_M_turn_48 ?_
              refine lv_iload_n hx hb d_M_turn_51 rfl (lv_at hl 0 rfl) ?_
              refine lv_aload_n hx hb d_M_turn_52 rfl (lv_at hl 2 rfl) ?_
              refine va_get (D := D) (ci := 7) (v := .ref a7) (C := R_M) (T := F_M) (N := 35) hx hb hts in_M hown hG.1 hP 0 rfl rfl 16 (by decide) (hts _ k_713) (fun _ h9 => h9) rfl d_M_turn_53 ?_
              refine lv_aload_n hx hb d_M_turn_56 rfl (lv_at hl 2 rfl) ?_
              refine va_get (D := D) (ci := 7) (v := .ref a9) (C := R_M) (T := F_M) (N := 35) hx hb hts in_M hown hG.1 hP 0 rfl rfl 18 (by decide) (hts _ k_715) (fun _ h9 => h9) rfl d_M_turn_57 ?_
              refine lv_iconst (v := 5) hx hb d_M_turn_60 (by decide) ?_
              refine lv_iload_n hx hb d_M_turn_61 rfl (lv_at hl 0 rfl) ?_
              refine lv_imul hx hb d_M_turn_62 ?_
              refine sb_topn (5 * i) (sb_mul (a := 5) (b := i) rfl rfl) ?_
              refine lv_bipush (v := 16) hx hb d_M_turn_63 (by decide) ?_
              refine lv_irem hx hb d_M_turn_65 (by decide) ?_
              refine sb_topn ((5 * i) % 16) (sb_rem (a := 5 * i) (b := 16) (by omega) (by omega) (by omega) rfl rfl) ?_
              refine sb_ild hx hb hG.1 hP 3 rfl ((5 * i) % 16) rfl (by omega) (by omega) d_M_turn_66 ?_
              refine sb_ild hx hb hG.1 hP 1 rfl (((turnN gS gr rn gs gm r0).1) ((5 * i) % 16)) rfl (hB1 _) (by omega) d_M_turn_67 ?_
              refine sb_topn (gS (((turnN gS gr rn gs gm r0).1) ((5 * i) % 16))) rfl ?_
              refine sb_ist hx hb hG.1 hP hD hS 4 rfl i rfl (by omega) (by omega) d_M_turn_68 (fun f_13 H locs ef_13 hP hD hS => ?_)
              have hP : va_P D vwCl [(mo, .inr (7, mFs thr a1 a2 a3 (nI lt) (nI lb) (nI lz) ci a4 a5 a6 nu bk se op fa a7 a8 a9 a10 a11 (nI rn) kh kl sh sl a12 a13 a14 a15 a16 a17 a18 a19 a20)), (a7, .inl (cI, 256, .inl (nF gS))), (a8, .inl (cI, 240, .inl (nF gr))), (a9, .inl (cI, 16, .inl (nF ((turnN gS gr rn gs gm r0).1)))), (a10, .inl (cI, 16, .inl f_13))] H := hP
              have hD : va_D A [(mo, .inr (7, mFs thr a1 a2 a3 (nI lt) (nI lb) (nI lz) ci a4 a5 a6 nu bk se op fa a7 a8 a9 a10 a11 (nI rn) kh kl sh sl a12 a13 a14 a15 a16 a17 a18 a19 a20)), (a7, .inl (cI, 256, .inl (nF gS))), (a8, .inl (cI, 240, .inl (nF gr))), (a9, .inl (cI, 16, .inl (nF ((turnN gS gr rn gs gm r0).1)))), (a10, .inl (cI, 16, .inl f_13))] := hD
              obtain rfl : f_13 = nF (updN (iter (tSub gS ((turnN gS gr rn gs gm r0).1)) i ((turnN gS gr rn gs gm r0).2)) i (gS (((turnN gS gr rn gs gm r0).1) ((5 * i) % 16)))) := ef_13.trans (nF_set _ _ _)
              have hP : va_P D vwCl [(mo, .inr (7, mFs thr a1 a2 a3 (nI lt) (nI lb) (nI lz) ci a4 a5 a6 nu bk se op fa a7 a8 a9 a10 a11 (nI rn) kh kl sh sl a12 a13 a14 a15 a16 a17 a18 a19 a20)), (a7, .inl (cI, 256, .inl (nF gS))), (a8, .inl (cI, 240, .inl (nF gr))), (a9, .inl (cI, 16, .inl (nF ((turnN gS gr rn gs gm r0).1)))), (a10, .inl (cI, 16, .inl (nF (updN (iter (tSub gS ((turnN gS gr rn gs gm r0).1)) i ((turnN gS gr rn gs gm r0).2)) i (gS (((turnN gS gr rn gs gm r0).1) ((5 * i) % 16)))))))] H := hP
              have hD : va_D A [(mo, .inr (7, mFs thr a1 a2 a3 (nI lt) (nI lb) (nI lz) ci a4 a5 a6 nu bk se op fa a7 a8 a9 a10 a11 (nI rn) kh kl sh sl a12 a13 a14 a15 a16 a17 a18 a19 a20)), (a7, .inl (cI, 256, .inl (nF gS))), (a8, .inl (cI, 240, .inl (nF gr))), (a9, .inl (cI, 16, .inl (nF ((turnN gS gr rn gs gm r0).1)))), (a10, .inl (cI, 16, .inl (nF (updN (iter (tSub gS ((turnN gS gr rn gs gm r0).1)) i ((turnN gS gr rn gs gm r0).2)) i (gS (((turnN gS gr rn gs gm r0).1) ((5 * i) % 16)))))))] := hD
              refine lv_iinc (v := nI (i + 1)) (lv' := [(2, .int (nI (i + 1))), (1, .int (nI (1 + r0))), (0, .ref mo)]) hx hb d_M_turn_69 hl (k := 0) rfl (sb_inc (a := i) (b := i + 1) (d := 1) rfl (by decide) (by omega)) (by decide) rfl (fun ls hl => ?_)
              refine lv_goto (tgt := 41) hx hb d_M_turn_72 (by decide) ?_
              rw [show nF (updN (iter (tSub gS ((turnN gS gr rn gs gm r0).1)) i ((turnN gS gr rn gs gm r0).2)) i (gS (((turnN gS gr rn gs gm r0).1) ((5 * i) % 16)))) = nF (iter (tSub gS ((turnN gS gr rn gs gm r0).1)) (i + 1) ((turnN gS gr rn gs gm r0).2)) from rfl] at hP hD
              exact ih3 (i + 1) (by omega) _ _ ls (hP.sub [0, 1, 2, 3, 4] rfl) (hD.sub [0, 1, 2, 3, 4] (by decide) rfl) hS (lv_sub hl [0, 1, 2] rfl)
          exact lp3 16 0 (by omega) _ _ ls (hP.sub [0, 1, 2, 3, 4] rfl) (hD.sub [0, 1, 2, 3, 4] (by decide) rfl) hS (lv_sub hl [0, 1, 2] rfl)
      exact lp2 rn 0 (by omega) _ _ ls (hP.sub [0, 1, 2, 3, 4] rfl) (hD.sub [0, 1, 2, 3, 4] (by decide) rfl) hS (lv_sub hl [0, 1] rfl)
    | succ d1 ih1 =>
      intro i hi1 H locs ls hP hD hS hl
      refine lv_iload_n hx hb d_M_turn_2 rfl (lv_at hl 0 rfl) ?_
      refine lv_bipush (v := 16) hx hb d_M_turn_3 (by decide) ?_
      refine lv_icmp_ge (tgt := 29) hx hb d_M_turn_5 (by decide) (fun c_14 => absurd c_14 (sb_geF (a := i) (b := 16) rfl rfl (by omega) (by omega) (by omega))) (fun c_14 => ?_)
      refine lv_aload_n hx hb d_M_turn_8 rfl (lv_at hl 1 rfl) ?_
      refine va_get (D := D) (ci := 7) (v := .ref a9) (C := R_M) (T := F_M) (N := 35) hx hb hts in_M hown hG.1 hP 0 rfl rfl 18 (by decide) (hts _ k_715) (fun _ h9 => h9) rfl d_M_turn_9 ?_
      refine lv_iload_n hx hb d_M_turn_12 rfl (lv_at hl 0 rfl) ?_
      refine lv_dup2_11 hx hb d_M_turn_13 rfl rfl ?_
      refine sb_ild hx hb hG.1 hP 3 rfl i rfl (by omega) (by omega) d_M_turn_14 ?_
      refine lv_aload_n hx hb d_M_turn_15 rfl (lv_at hl 1 rfl) ?_
      refine va_get (D := D) (ci := 7) (v := .ref a8) (C := R_M) (T := F_M) (N := 35) hx hb hts in_M hown hG.1 hP 0 rfl rfl 17 (by decide) (hts _ k_714) (fun _ h9 => h9) rfl d_M_turn_16 ?_
      refine lv_iload_n hx hb d_M_turn_19 rfl (lv_at hl 0 rfl) ?_
      refine sb_ild hx hb hG.1 hP 2 rfl i rfl (by omega) (by omega) d_M_turn_20 ?_
      refine lv_ixor hx hb d_M_turn_21 ?_
      refine sb_topn (((iter (tXor gr) i gs) i) ^^^ (gr i)) (sb_xor (a := (iter (tXor gr) i gs) i) (b := gr i) rfl rfl) ?_
      refine sb_topn (((iter (tXor gr) i gs) i) ^^^ (gr i)) rfl ?_
      refine sb_ist hx hb hG.1 hP hD hS 3 rfl i rfl (by omega) (by omega) d_M_turn_22 (fun f_15 H locs ef_15 hP hD hS => ?_)
      have hP : va_P D vwCl [(mo, .inr (7, mFs thr a1 a2 a3 (nI lt) (nI lb) (nI lz) ci a4 a5 a6 nu bk se op fa a7 a8 a9 a10 a11 (nI rn) kh kl sh sl a12 a13 a14 a15 a16 a17 a18 a19 a20)), (a7, .inl (cI, 256, .inl (nF gS))), (a8, .inl (cI, 240, .inl (nF gr))), (a9, .inl (cI, 16, .inl f_15)), (a10, .inl (cI, 16, .inl (nF gm)))] H := hP
      have hD : va_D A [(mo, .inr (7, mFs thr a1 a2 a3 (nI lt) (nI lb) (nI lz) ci a4 a5 a6 nu bk se op fa a7 a8 a9 a10 a11 (nI rn) kh kl sh sl a12 a13 a14 a15 a16 a17 a18 a19 a20)), (a7, .inl (cI, 256, .inl (nF gS))), (a8, .inl (cI, 240, .inl (nF gr))), (a9, .inl (cI, 16, .inl f_15)), (a10, .inl (cI, 16, .inl (nF gm)))] := hD
      obtain rfl : f_15 = nF (updN (iter (tXor gr) i gs) i (((iter (tXor gr) i gs) i) ^^^ (gr i))) := ef_15.trans (nF_set _ _ _)
      have hP : va_P D vwCl [(mo, .inr (7, mFs thr a1 a2 a3 (nI lt) (nI lb) (nI lz) ci a4 a5 a6 nu bk se op fa a7 a8 a9 a10 a11 (nI rn) kh kl sh sl a12 a13 a14 a15 a16 a17 a18 a19 a20)), (a7, .inl (cI, 256, .inl (nF gS))), (a8, .inl (cI, 240, .inl (nF gr))), (a9, .inl (cI, 16, .inl (nF (updN (iter (tXor gr) i gs) i (((iter (tXor gr) i gs) i) ^^^ (gr i)))))), (a10, .inl (cI, 16, .inl (nF gm)))] H := hP
      have hD : va_D A [(mo, .inr (7, mFs thr a1 a2 a3 (nI lt) (nI lb) (nI lz) ci a4 a5 a6 nu bk se op fa a7 a8 a9 a10 a11 (nI rn) kh kl sh sl a12 a13 a14 a15 a16 a17 a18 a19 a20)), (a7, .inl (cI, 256, .inl (nF gS))), (a8, .inl (cI, 240, .inl (nF gr))), (a9, .inl (cI, 16, .inl (nF (updN (iter (tXor gr) i gs) i (((iter (tXor gr) i gs) i) ^^^ (gr i)))))), (a10, .inl (cI, 16, .inl (nF gm)))] := hD
      refine lv_iinc (v := nI (i + 1)) (lv' := [(1, .int (nI (i + 1))), (0, .ref mo)]) hx hb d_M_turn_23 hl (k := 0) rfl (sb_inc (a := i) (b := i + 1) (d := 1) rfl (by decide) (by omega)) (by decide) rfl (fun ls hl => ?_)
      refine lv_goto (tgt := 2) hx hb d_M_turn_26 (by decide) ?_
      rw [show nF (updN (iter (tXor gr) i gs) i (((iter (tXor gr) i gs) i) ^^^ (gr i))) = nF (iter (tXor gr) (i + 1) gs) from rfl] at hP hD
      exact ih1 (i + 1) (by omega) _ _ ls (hP.sub [0, 1, 2, 3, 4] rfl) (hD.sub [0, 1, 2, 3, 4] (by decide) rfl) hS (lv_sub hl [0, 1] rfl)
  exact lp1 16 0 (by omega) _ _ ls (hP.sub [0, 1, 2, 3, 4] rfl) (hD.sub [0, 1, 2, 3, 4] (by decide) rfl) hS (lv_sub hl [0, 1] rfl)

theorem d_M_counter_0 : decode b_M_counter 0 = .ok (.iconst 0, 1) := by decide +kernel
theorem d_M_counter_1 : decode b_M_counter 1 = .ok (.istore_n 2, 1) := by decide +kernel
theorem d_M_counter_2 : decode b_M_counter 2 = .ok (.iload_n 2, 1) := by decide +kernel
theorem d_M_counter_3 : decode b_M_counter 3 = .ok (.bipush 12, 2) := by decide +kernel
theorem d_M_counter_5 : decode b_M_counter 5 = .ok (.if_icmp .ge 21, 3) := by decide +kernel
theorem d_M_counter_8 : decode b_M_counter 8 = .ok (.aload_n 0, 1) := by decide +kernel
theorem d_M_counter_9 : decode b_M_counter 9 = .ok (.getfield 39, 3) := by decide +kernel
theorem d_M_counter_12 : decode b_M_counter 12 = .ok (.iload_n 2, 1) := by decide +kernel
theorem d_M_counter_13 : decode b_M_counter 13 = .ok (.aload_n 0, 1) := by decide +kernel
theorem d_M_counter_14 : decode b_M_counter 14 = .ok (.getfield 30, 3) := by decide +kernel
theorem d_M_counter_17 : decode b_M_counter 17 = .ok (.iload_n 2, 1) := by decide +kernel
theorem d_M_counter_18 : decode b_M_counter 18 = .ok (.iaload, 1) := by decide +kernel
theorem d_M_counter_19 : decode b_M_counter 19 = .ok (.iastore, 1) := by decide +kernel
theorem d_M_counter_20 : decode b_M_counter 20 = .ok (.iinc 2 1, 3) := by decide +kernel
theorem d_M_counter_23 : decode b_M_counter 23 = .ok (.goto (-21), 3) := by decide +kernel
theorem d_M_counter_26 : decode b_M_counter 26 = .ok (.iconst 0, 1) := by decide +kernel
theorem d_M_counter_27 : decode b_M_counter 27 = .ok (.istore_n 2, 1) := by decide +kernel
theorem d_M_counter_28 : decode b_M_counter 28 = .ok (.iload_n 2, 1) := by decide +kernel
theorem d_M_counter_29 : decode b_M_counter 29 = .ok (.iconst 4, 1) := by decide +kernel
theorem d_M_counter_30 : decode b_M_counter 30 = .ok (.if_icmp .ge 31, 3) := by decide +kernel
theorem d_M_counter_33 : decode b_M_counter 33 = .ok (.aload_n 0, 1) := by decide +kernel
theorem d_M_counter_34 : decode b_M_counter 34 = .ok (.getfield 39, 3) := by decide +kernel
theorem d_M_counter_37 : decode b_M_counter 37 = .ok (.bipush 12, 2) := by decide +kernel
theorem d_M_counter_39 : decode b_M_counter 39 = .ok (.iload_n 2, 1) := by decide +kernel
theorem d_M_counter_40 : decode b_M_counter 40 = .ok (.iadd, 1) := by decide +kernel
theorem d_M_counter_41 : decode b_M_counter 41 = .ok (.iload_n 1, 1) := by decide +kernel
theorem d_M_counter_42 : decode b_M_counter 42 = .ok (.bipush 24, 2) := by decide +kernel
theorem d_M_counter_44 : decode b_M_counter 44 = .ok (.bipush 8, 2) := by decide +kernel
theorem d_M_counter_46 : decode b_M_counter 46 = .ok (.iload_n 2, 1) := by decide +kernel
theorem d_M_counter_47 : decode b_M_counter 47 = .ok (.imul, 1) := by decide +kernel
theorem d_M_counter_48 : decode b_M_counter 48 = .ok (.isub, 1) := by decide +kernel
theorem d_M_counter_49 : decode b_M_counter 49 = .ok (.iushr, 1) := by decide +kernel
theorem d_M_counter_50 : decode b_M_counter 50 = .ok (.sipush 255, 3) := by decide +kernel
theorem d_M_counter_53 : decode b_M_counter 53 = .ok (.iand, 1) := by decide +kernel
theorem d_M_counter_54 : decode b_M_counter 54 = .ok (.iastore, 1) := by decide +kernel
theorem d_M_counter_55 : decode b_M_counter 55 = .ok (.iinc 2 1, 3) := by decide +kernel
theorem d_M_counter_58 : decode b_M_counter 58 = .ok (.goto (-30), 3) := by decide +kernel
theorem d_M_counter_61 : decode b_M_counter 61 = .ok (.aload_n 0, 1) := by decide +kernel
theorem d_M_counter_62 : decode b_M_counter 62 = .ok (.invokevirtual 85, 3) := by decide +kernel
theorem d_M_counter_65 : decode b_M_counter 65 = .ok (.return_, 1) := by decide +kernel

def rm_M_counter : Room := { frames := 2, cells := 0, slots := 0, locals := 49 }
set_option maxHeartbeats 4000000 in
set_option maxRecDepth 100000 in
theorem c_M_counter (l : Launch) (D : va_G) (cI cL cB : ClassId) (tS tF : Nat) (mo : Nat) (a1 : Nat) (a2 : Nat) (a3 : Nat) (a4 : Nat) (a5 : Nat) (a6 : Nat) (a7 : Nat) (a8 : Nat) (a9 : Nat) (a10 : Nat) (a11 : Nat) (a12 : Nat) (a13 : Nat) (a14 : Nat) (a15 : Nat) (a16 : Nat) (a17 : Nat) (a18 : Nat) (a19 : Nat) (a20 : Nat) (thr : Int32) (ci : Int32) (bk : Int32) (se : Int32) (op : Int32) (fa : Int32) (lt : Nat) (lb : Nat) (lz : Nat) (rn : Nat) (nu : Int64) (kh : Int64) (kl : Int64) (sh : Int64) (sl : Int64) (gS : Nat → Nat) (gr : Nat → Nat) (gs : Nat → Nat) (gm : Nat → Nat) (gn : Nat → Nat) (n0 : Int32) (sz : Nat) (hgS : By gS) (hgr : By gr) (hgs : By gs) (hgm : By gm) (hgn : By gn) (hrn : rn ≤ 14) : Met l y_M_counter (sbw y_M_counter b_M_counter 3 none) rm_M_counter (sbPc D cI cL cB tS tF [.ref mo, .int n0] sz [(mo, .inr (7, mFs thr a1 a2 a3 (nI lt) (nI lb) (nI lz) ci a4 a5 a6 nu bk se op fa a7 a8 a9 a10 a11 (nI rn) kh kl sh sl a12 a13 a14 a15 a16 a17 a18 a19 a20)), (a7, .inl (cI, 256, .inl (nF gS))), (a8, .inl (cI, 240, .inl (nF gr))), (a9, .inl (cI, 16, .inl (nF gs))), (a10, .inl (cI, 16, .inl (nF gm))), (a6, .inl (cI, 12, .inl (nF gn)))]) (sbQv D (fun (_ : Unit) => True) (fun (_ : Unit) => [(mo, .inr (7, mFs thr a1 a2 a3 (nI lt) (nI lb) (nI lz) ci a4 a5 a6 nu bk se op fa a7 a8 a9 a10 a11 (nI rn) kh kl sh sl a12 a13 a14 a15 a16 a17 a18 a19 a20)), (a7, .inl (cI, 256, .inl (nF gS))), (a8, .inl (cI, 240, .inl (nF gr))), (a9, .inl (cI, 16, .inl (nF ((turnN gS gr rn (cntN gn n0 gs) gm rn).1)))), (a10, .inl (cI, 16, .inl (nF ((turnN gS gr rn (cntN gn n0 gs) gm rn).2)))), (a6, .inl (cI, 12, .inl (nF gn)))]) (va_A [(mo, .inr (7, mFs thr a1 a2 a3 (nI lt) (nI lb) (nI lz) ci a4 a5 a6 nu bk se op fa a7 a8 a9 a10 a11 (nI rn) kh kl sh sl a12 a13 a14 a15 a16 a17 a18 a19 a20)), (a7, .inl (cI, 256, .inl (nF gS))), (a8, .inl (cI, 240, .inl (nF gr))), (a9, .inl (cI, 16, .inl (nF gs))), (a10, .inl (cI, 16, .inl (nF gm))), (a6, .inl (cI, 12, .inl (nF gn)))] sz)) 0 0 (va_A [(mo, .inr (7, mFs thr a1 a2 a3 (nI lt) (nI lb) (nI lz) ci a4 a5 a6 nu bk se op fa a7 a8 a9 a10 a11 (nI rn) kh kl sh sl a12 a13 a14 a15 a16 a17 a18 a19 a20)), (a7, .inl (cI, 256, .inl (nF gS))), (a8, .inl (cI, 240, .inl (nF gr))), (a9, .inl (cI, 16, .inl (nF gs))), (a10, .inl (cI, 16, .inl (nF gm))), (a6, .inl (cI, 12, .inl (nF gn)))] sz) := by
  refine sb_ofW (y := y_M_counter) (maxL := 3) (av := [.ref mo, .int n0]) (Qc := fun A => (sbQv D (fun (_ : Unit) => True) (fun (_ : Unit) => [(mo, .inr (7, mFs thr a1 a2 a3 (nI lt) (nI lb) (nI lz) ci a4 a5 a6 nu bk se op fa a7 a8 a9 a10 a11 (nI rn) kh kl sh sl a12 a13 a14 a15 a16 a17 a18 a19 a20)), (a7, .inl (cI, 256, .inl (nF gS))), (a8, .inl (cI, 240, .inl (nF gr))), (a9, .inl (cI, 16, .inl (nF ((turnN gS gr rn (cntN gn n0 gs) gm rn).1)))), (a10, .inl (cI, 16, .inl (nF ((turnN gS gr rn (cntN gn n0 gs) gm rn).2)))), (a6, .inl (cI, 12, .inl (nF gn)))]) A)) (by decide) (Nat.le_of_ble_eq_true rfl) ?_
  intro p e s m args below meth c A ls hx hb hr hml hts hown hlocks hin hsz hP hG hD hA hS hl
  have hl : lv_has ls 3 [(0, .ref mo), (1, .int n0)] := hl
  refine lv_iconst (v := 0) hx hb d_M_counter_0 (by decide) ?_
  refine lv_istore_n (lv' := [(2, .int 0), (0, .ref mo), (1, .int n0)]) hx hb d_M_counter_1 rfl hl (by decide) rfl (fun ls hl => ?_)
  have lp1 : ∀ (d1 i : Nat), i + d1 = 12 → ∀ (H : Heap) (locs : List Loc) (ls : Array Slot), va_P D vwCl [(mo, .inr (7, mFs thr a1 a2 a3 (nI lt) (nI lb) (nI lz) ci a4 a5 a6 nu bk se op fa a7 a8 a9 a10 a11 (nI rn) kh kl sh sl a12 a13 a14 a15 a16 a17 a18 a19 a20)), (a7, .inl (cI, 256, .inl (nF gS))), (a8, .inl (cI, 240, .inl (nF gr))), (a9, .inl (cI, 16, .inl (nF (iter (nCpy gn) i gs)))), (a10, .inl (cI, 16, .inl (nF gm))), (a6, .inl (cI, 12, .inl (nF gn)))] H → va_D A [(mo, .inr (7, mFs thr a1 a2 a3 (nI lt) (nI lb) (nI lz) ci a4 a5 a6 nu bk se op fa a7 a8 a9 a10 a11 (nI rn) kh kl sh sl a12 a13 a14 a15 a16 a17 a18 a19 a20)), (a7, .inl (cI, 256, .inl (nF gS))), (a8, .inl (cI, 240, .inl (nF gr))), (a9, .inl (cI, 16, .inl (nF (iter (nCpy gn) i gs)))), (a10, .inl (cI, 16, .inl (nF gm))), (a6, .inl (cI, 12, .inl (nF gn)))] → va_S A s.heap H locs → lv_has ls 3 [(2, .int (nI i)), (0, .ref mo), (1, .int n0)] → W p l e rm_M_counter s m args below meth c H locs 0 0 (MQ below (sbQv D (fun (_ : Unit) => True) (fun (_ : Unit) => [(mo, .inr (7, mFs thr a1 a2 a3 (nI lt) (nI lb) (nI lz) ci a4 a5 a6 nu bk se op fa a7 a8 a9 a10 a11 (nI rn) kh kl sh sl a12 a13 a14 a15 a16 a17 a18 a19 a20)), (a7, .inl (cI, 256, .inl (nF gS))), (a8, .inl (cI, 240, .inl (nF gr))), (a9, .inl (cI, 16, .inl (nF ((turnN gS gr rn (cntN gn n0 gs) gm rn).1)))), (a10, .inl (cI, 16, .inl (nF ((turnN gS gr rn (cntN gn n0 gs) gm rn).2)))), (a6, .inl (cI, 12, .inl (nF gn)))]) A) args s 0 0 A) (F0 m 2 ls []) := by
    intro d1
    induction d1 with
    | zero =>
      intro i hi1 H locs ls hP hD hS hl
      obtain rfl : 12 = i := by omega
      refine lv_iload_n hx hb d_M_counter_2 rfl (lv_at hl 0 rfl) ?_
      refine lv_bipush (v := 12) hx hb d_M_counter_3 (by decide) ?_
      refine lv_icmp_ge (tgt := 26) hx hb d_M_counter_5 (by decide) (fun c_1 => ?_) (fun c_1 => absurd (sb_geT (a := 12) (b := 12) rfl rfl (by omega) (by omega) (by omega)) c_1)
      refine lv_iconst (v := 0) hx hb d_M_counter_26 (by decide) ?_
      refine lv_istore_n (lv' := [(2, .int 0), (0, .ref mo), (1, .int n0)]) hx hb d_M_counter_27 rfl hl (by decide) rfl (fun ls hl => ?_)
      have lp2 : ∀ (d2 i : Nat), i + d2 = 4 → ∀ (H : Heap) (locs : List Loc) (ls : Array Slot), va_P D vwCl [(mo, .inr (7, mFs thr a1 a2 a3 (nI lt) (nI lb) (nI lz) ci a4 a5 a6 nu bk se op fa a7 a8 a9 a10 a11 (nI rn) kh kl sh sl a12 a13 a14 a15 a16 a17 a18 a19 a20)), (a7, .inl (cI, 256, .inl (nF gS))), (a8, .inl (cI, 240, .inl (nF gr))), (a9, .inl (cI, 16, .inl (nF (iter (ctB n0) i (iter (nCpy gn) 12 gs))))), (a10, .inl (cI, 16, .inl (nF gm))), (a6, .inl (cI, 12, .inl (nF gn)))] H → va_D A [(mo, .inr (7, mFs thr a1 a2 a3 (nI lt) (nI lb) (nI lz) ci a4 a5 a6 nu bk se op fa a7 a8 a9 a10 a11 (nI rn) kh kl sh sl a12 a13 a14 a15 a16 a17 a18 a19 a20)), (a7, .inl (cI, 256, .inl (nF gS))), (a8, .inl (cI, 240, .inl (nF gr))), (a9, .inl (cI, 16, .inl (nF (iter (ctB n0) i (iter (nCpy gn) 12 gs))))), (a10, .inl (cI, 16, .inl (nF gm))), (a6, .inl (cI, 12, .inl (nF gn)))] → va_S A s.heap H locs → lv_has ls 3 [(2, .int (nI i)), (0, .ref mo), (1, .int n0)] → W p l e rm_M_counter s m args below meth c H locs 0 0 (MQ below (sbQv D (fun (_ : Unit) => True) (fun (_ : Unit) => [(mo, .inr (7, mFs thr a1 a2 a3 (nI lt) (nI lb) (nI lz) ci a4 a5 a6 nu bk se op fa a7 a8 a9 a10 a11 (nI rn) kh kl sh sl a12 a13 a14 a15 a16 a17 a18 a19 a20)), (a7, .inl (cI, 256, .inl (nF gS))), (a8, .inl (cI, 240, .inl (nF gr))), (a9, .inl (cI, 16, .inl (nF ((turnN gS gr rn (cntN gn n0 gs) gm rn).1)))), (a10, .inl (cI, 16, .inl (nF ((turnN gS gr rn (cntN gn n0 gs) gm rn).2)))), (a6, .inl (cI, 12, .inl (nF gn)))]) A) args s 0 0 A) (F0 m 28 ls []) := by
        intro d2
        induction d2 with
        | zero =>
          intro i hi2 H locs ls hP hD hS hl
          obtain rfl : 4 = i := by omega
          refine lv_iload_n hx hb d_M_counter_28 rfl (lv_at hl 0 rfl) ?_
          refine lv_iconst (v := 4) hx hb d_M_counter_29 (by decide) ?_
          refine lv_icmp_ge (tgt := 61) hx hb d_M_counter_30 (by decide) (fun c_2 => ?_) (fun c_2 => absurd (sb_geT (a := 4) (b := 4) rfl rfl (by omega) (by omega) (by omega)) c_2)
          refine lv_aload_n hx hb d_M_counter_61 rfl (lv_at hl 1 rfl) ?_
          refine sb_callv (wr := [(a6, .inl (cI, 12, .inl (nF gn)))]) (va_runV (As := []) (rest := []) ⟨hx, hb, hml, hown, hts⟩ (c_M_turn l D cI cL cB tS tF mo a1 a2 a3 a4 a5 a6 a7 a8 a9 a10 a11 a12 a13 a14 a15 a16 a17 a18 a19 a20 thr ci bk se op fa lt lb lz rn nu kh kl sh sl gS gr (cntN gn n0 gs) gm _ hgS hgr (cntN_B hgn n0 hgs) hgm hrn) (cwV 0 hts (sb_gV k_875 k_877 k_14 k_30 k_878) rfl rfl rfl (by decide +kernel) ⟨Nat.le_of_ble_eq_true rfl, Nat.le_of_ble_eq_true rfl⟩) (sb_pV hG hP hD hS hA [0, 1, 2, 3, 4] (by decide) rfl (ci := 7) (q0 := 0) rfl rfl) rfl rfl hl.1 rfl (lv_room (Nat.le_of_ble_eq_true rfl)) d_M_counter_62 ⟨Nat.le_of_ble_eq_true rfl, Nat.le_of_ble_eq_true rfl⟩) hP hD hS hA [0, 1, 2, 3, 4] [5] rfl rfl (by decide) (by decide) (fun u H locs hw_3 hP hD hS => ?_)
          have hP : va_P D vwCl [(a6, .inl (cI, 12, .inl (nF gn))), (mo, .inr (7, mFs thr a1 a2 a3 (nI lt) (nI lb) (nI lz) ci a4 a5 a6 nu bk se op fa a7 a8 a9 a10 a11 (nI rn) kh kl sh sl a12 a13 a14 a15 a16 a17 a18 a19 a20)), (a7, .inl (cI, 256, .inl (nF gS))), (a8, .inl (cI, 240, .inl (nF gr))), (a9, .inl (cI, 16, .inl (nF ((turnN gS gr rn (cntN gn n0 gs) gm rn).1)))), (a10, .inl (cI, 16, .inl (nF ((turnN gS gr rn (cntN gn n0 gs) gm rn).2))))] H := hP
          have hD : va_D A [(a6, .inl (cI, 12, .inl (nF gn))), (mo, .inr (7, mFs thr a1 a2 a3 (nI lt) (nI lb) (nI lz) ci a4 a5 a6 nu bk se op fa a7 a8 a9 a10 a11 (nI rn) kh kl sh sl a12 a13 a14 a15 a16 a17 a18 a19 a20)), (a7, .inl (cI, 256, .inl (nF gS))), (a8, .inl (cI, 240, .inl (nF gr))), (a9, .inl (cI, 16, .inl (nF ((turnN gS gr rn (cntN gn n0 gs) gm rn).1)))), (a10, .inl (cI, 16, .inl (nF ((turnN gS gr rn (cntN gn n0 gs) gm rn).2))))] := hD
          have hP9 := hP.sub (ws' := [(mo, .inr (7, mFs thr a1 a2 a3 (nI lt) (nI lb) (nI lz) ci a4 a5 a6 nu bk se op fa a7 a8 a9 a10 a11 (nI rn) kh kl sh sl a12 a13 a14 a15 a16 a17 a18 a19 a20)), (a7, .inl (cI, 256, .inl (nF gS))), (a8, .inl (cI, 240, .inl (nF gr))), (a9, .inl (cI, 16, .inl (nF ((turnN gS gr rn (cntN gn n0 gs) gm rn).1)))), (a10, .inl (cI, 16, .inl (nF ((turnN gS gr rn (cntN gn n0 gs) gm rn).2)))), (a6, .inl (cI, 12, .inl (nF gn)))]) [1, 2, 3, 4, 5, 0] rfl
          have hD9 := hD.sub (ws' := [(mo, .inr (7, mFs thr a1 a2 a3 (nI lt) (nI lb) (nI lz) ci a4 a5 a6 nu bk se op fa a7 a8 a9 a10 a11 (nI rn) kh kl sh sl a12 a13 a14 a15 a16 a17 a18 a19 a20)), (a7, .inl (cI, 256, .inl (nF gS))), (a8, .inl (cI, 240, .inl (nF gr))), (a9, .inl (cI, 16, .inl (nF ((turnN gS gr rn (cntN gn n0 gs) gm rn).1)))), (a10, .inl (cI, 16, .inl (nF ((turnN gS gr rn (cntN gn n0 gs) gm rn).2)))), (a6, .inl (cI, 12, .inl (nF gn)))]) [1, 2, 3, 4, 5, 0] (by decide) rfl
          exact W.vret hx hb hr (fun t ht hW => ⟨⟨(), rfl, trivial, by rw [ht]; exact hP9, hD9⟩, hS.F ht⟩) hS.2.2 d_M_counter_65
        | succ d2 ih2 =>
          intro i hi2 H locs ls hP hD hS hl
          refine lv_iload_n hx hb d_M_counter_28 rfl (lv_at hl 0 rfl) ?_
          refine lv_iconst (v := 4) hx hb d_M_counter_29 (by decide) ?_
          refine lv_icmp_ge (tgt := 61) hx hb d_M_counter_30 (by decide) (fun c_4 => absurd c_4 (sb_geF (a := i) (b := 4) rfl rfl (by omega) (by omega) (by omega))) (fun c_4 => ?_)
          refine lv_aload_n hx hb d_M_counter_33 rfl (lv_at hl 1 rfl) ?_
          refine va_get (D := D) (ci := 7) (v := .ref a9) (C := R_M) (T := F_M) (N := 35) hx hb hts in_M hown hG.1 hP 0 rfl rfl 18 (by decide) (hts _ k_715) (fun _ h9 => h9) rfl d_M_counter_34 ?_
          refine lv_bipush (v := 12) hx hb d_M_counter_37 (by decide) ?_
          refine lv_iload_n hx hb d_M_counter_39 rfl (lv_at hl 0 rfl) ?_
          refine lv_iadd hx hb d_M_counter_40 ?_
          refine sb_topn (12 + i) (nI_add 12 i) ?_
          refine lv_iload_n hx hb d_M_counter_41 rfl (lv_at hl 2 rfl) ?_
          refine lv_bipush (v := 24) hx hb d_M_counter_42 (by decide) ?_
          refine lv_bipush (v := 8) hx hb d_M_counter_44 (by decide) ?_
          refine lv_iload_n hx hb d_M_counter_46 rfl (lv_at hl 0 rfl) ?_
          refine lv_imul hx hb d_M_counter_47 ?_
          refine sb_topn (8 * i) (sb_mul (a := 8) (b := i) rfl rfl) ?_
          refine lv_isub hx hb d_M_counter_48 ?_
          refine sb_topn (24 - (8 * i)) (sb_sub (a := 24) (b := 8 * i) (by omega) rfl rfl) ?_
          refine lv_iushr (v := uS n0 (nI (24 - (8 * i)))) hx hb d_M_counter_49 rfl ?_
          refine lv_sipush (v := 255) hx hb d_M_counter_50 (by decide) ?_
          refine lv_iand hx hb d_M_counter_53 ?_
          refine sb_topn (byI n0 (24 - (8 * i))) (sb_by (x := n0) (k := 24 - (8 * i)) rfl (by omega)) ?_
          refine sb_topn (byI n0 (24 - (8 * i))) rfl ?_
          refine sb_ist hx hb hG.1 hP hD hS 3 rfl (12 + i) rfl (by omega) (by omega) d_M_counter_54 (fun f_5 H locs ef_5 hP hD hS => ?_)
          have hP : va_P D vwCl [(mo, .inr (7, mFs thr a1 a2 a3 (nI lt) (nI lb) (nI lz) ci a4 a5 a6 nu bk se op fa a7 a8 a9 a10 a11 (nI rn) kh kl sh sl a12 a13 a14 a15 a16 a17 a18 a19 a20)), (a7, .inl (cI, 256, .inl (nF gS))), (a8, .inl (cI, 240, .inl (nF gr))), (a9, .inl (cI, 16, .inl f_5)), (a10, .inl (cI, 16, .inl (nF gm))), (a6, .inl (cI, 12, .inl (nF gn)))] H := hP
          have hD : va_D A [(mo, .inr (7, mFs thr a1 a2 a3 (nI lt) (nI lb) (nI lz) ci a4 a5 a6 nu bk se op fa a7 a8 a9 a10 a11 (nI rn) kh kl sh sl a12 a13 a14 a15 a16 a17 a18 a19 a20)), (a7, .inl (cI, 256, .inl (nF gS))), (a8, .inl (cI, 240, .inl (nF gr))), (a9, .inl (cI, 16, .inl f_5)), (a10, .inl (cI, 16, .inl (nF gm))), (a6, .inl (cI, 12, .inl (nF gn)))] := hD
          obtain rfl : f_5 = nF (updN (iter (ctB n0) i (iter (nCpy gn) 12 gs)) (12 + i) (byI n0 (24 - (8 * i)))) := ef_5.trans (nF_set _ _ _)
          have hP : va_P D vwCl [(mo, .inr (7, mFs thr a1 a2 a3 (nI lt) (nI lb) (nI lz) ci a4 a5 a6 nu bk se op fa a7 a8 a9 a10 a11 (nI rn) kh kl sh sl a12 a13 a14 a15 a16 a17 a18 a19 a20)), (a7, .inl (cI, 256, .inl (nF gS))), (a8, .inl (cI, 240, .inl (nF gr))), (a9, .inl (cI, 16, .inl (nF (updN (iter (ctB n0) i (iter (nCpy gn) 12 gs)) (12 + i) (byI n0 (24 - (8 * i))))))), (a10, .inl (cI, 16, .inl (nF gm))), (a6, .inl (cI, 12, .inl (nF gn)))] H := hP
          have hD : va_D A [(mo, .inr (7, mFs thr a1 a2 a3 (nI lt) (nI lb) (nI lz) ci a4 a5 a6 nu bk se op fa a7 a8 a9 a10 a11 (nI rn) kh kl sh sl a12 a13 a14 a15 a16 a17 a18 a19 a20)), (a7, .inl (cI, 256, .inl (nF gS))), (a8, .inl (cI, 240, .inl (nF gr))), (a9, .inl (cI, 16, .inl (nF (updN (iter (ctB n0) i (iter (nCpy gn) 12 gs)) (12 + i) (byI n0 (24 - (8 * i))))))), (a10, .inl (cI, 16, .inl (nF gm))), (a6, .inl (cI, 12, .inl (nF gn)))] := hD
          refine lv_iinc (v := nI (i + 1)) (lv' := [(2, .int (nI (i + 1))), (0, .ref mo), (1, .int n0)]) hx hb d_M_counter_55 hl (k := 0) rfl (sb_inc (a := i) (b := i + 1) (d := 1) rfl (by decide) (by omega)) (by decide) rfl (fun ls hl => ?_)
          refine lv_goto (tgt := 28) hx hb d_M_counter_58 (by decide) ?_
          rw [show nF (updN (iter (ctB n0) i (iter (nCpy gn) 12 gs)) (12 + i) (byI n0 (24 - (8 * i)))) = nF (iter (ctB n0) (i + 1) (iter (nCpy gn) 12 gs)) from rfl] at hP hD
          exact ih2 (i + 1) (by omega) _ _ ls (hP.sub [0, 1, 2, 3, 4, 5] rfl) (hD.sub [0, 1, 2, 3, 4, 5] (by decide) rfl) hS (lv_sub hl [0, 1, 2] rfl)
      exact lp2 4 0 (by omega) _ _ ls (hP.sub [0, 1, 2, 3, 4, 5] rfl) (hD.sub [0, 1, 2, 3, 4, 5] (by decide) rfl) hS (lv_sub hl [0, 1, 2] rfl)
    | succ d1 ih1 =>
      intro i hi1 H locs ls hP hD hS hl
      refine lv_iload_n hx hb d_M_counter_2 rfl (lv_at hl 0 rfl) ?_
      refine lv_bipush (v := 12) hx hb d_M_counter_3 (by decide) ?_
      refine lv_icmp_ge (tgt := 26) hx hb d_M_counter_5 (by decide) (fun c_6 => absurd c_6 (sb_geF (a := i) (b := 12) rfl rfl (by omega) (by omega) (by omega))) (fun c_6 => ?_)
      refine lv_aload_n hx hb d_M_counter_8 rfl (lv_at hl 1 rfl) ?_
      refine va_get (D := D) (ci := 7) (v := .ref a9) (C := R_M) (T := F_M) (N := 35) hx hb hts in_M hown hG.1 hP 0 rfl rfl 18 (by decide) (hts _ k_715) (fun _ h9 => h9) rfl d_M_counter_9 ?_
      refine lv_iload_n hx hb d_M_counter_12 rfl (lv_at hl 0 rfl) ?_
      refine lv_aload_n hx hb d_M_counter_13 rfl (lv_at hl 1 rfl) ?_
      refine va_get (D := D) (ci := 7) (v := .ref a6) (C := R_M) (T := F_M) (N := 35) hx hb hts in_M hown hG.1 hP 0 rfl rfl 10 (by decide) (hts _ k_707) (fun _ h9 => h9) rfl d_M_counter_14 ?_
      refine lv_iload_n hx hb d_M_counter_17 rfl (lv_at hl 0 rfl) ?_
      refine sb_ild hx hb hG.1 hP 5 rfl i rfl (by omega) (by omega) d_M_counter_18 ?_
      refine sb_topn (gn i) rfl ?_
      refine sb_ist hx hb hG.1 hP hD hS 3 rfl i rfl (by omega) (by omega) d_M_counter_19 (fun f_7 H locs ef_7 hP hD hS => ?_)
      have hP : va_P D vwCl [(mo, .inr (7, mFs thr a1 a2 a3 (nI lt) (nI lb) (nI lz) ci a4 a5 a6 nu bk se op fa a7 a8 a9 a10 a11 (nI rn) kh kl sh sl a12 a13 a14 a15 a16 a17 a18 a19 a20)), (a7, .inl (cI, 256, .inl (nF gS))), (a8, .inl (cI, 240, .inl (nF gr))), (a9, .inl (cI, 16, .inl f_7)), (a10, .inl (cI, 16, .inl (nF gm))), (a6, .inl (cI, 12, .inl (nF gn)))] H := hP
      have hD : va_D A [(mo, .inr (7, mFs thr a1 a2 a3 (nI lt) (nI lb) (nI lz) ci a4 a5 a6 nu bk se op fa a7 a8 a9 a10 a11 (nI rn) kh kl sh sl a12 a13 a14 a15 a16 a17 a18 a19 a20)), (a7, .inl (cI, 256, .inl (nF gS))), (a8, .inl (cI, 240, .inl (nF gr))), (a9, .inl (cI, 16, .inl f_7)), (a10, .inl (cI, 16, .inl (nF gm))), (a6, .inl (cI, 12, .inl (nF gn)))] := hD
      obtain rfl : f_7 = nF (updN (iter (nCpy gn) i gs) i (gn i)) := ef_7.trans (nF_set _ _ _)
      have hP : va_P D vwCl [(mo, .inr (7, mFs thr a1 a2 a3 (nI lt) (nI lb) (nI lz) ci a4 a5 a6 nu bk se op fa a7 a8 a9 a10 a11 (nI rn) kh kl sh sl a12 a13 a14 a15 a16 a17 a18 a19 a20)), (a7, .inl (cI, 256, .inl (nF gS))), (a8, .inl (cI, 240, .inl (nF gr))), (a9, .inl (cI, 16, .inl (nF (updN (iter (nCpy gn) i gs) i (gn i))))), (a10, .inl (cI, 16, .inl (nF gm))), (a6, .inl (cI, 12, .inl (nF gn)))] H := hP
      have hD : va_D A [(mo, .inr (7, mFs thr a1 a2 a3 (nI lt) (nI lb) (nI lz) ci a4 a5 a6 nu bk se op fa a7 a8 a9 a10 a11 (nI rn) kh kl sh sl a12 a13 a14 a15 a16 a17 a18 a19 a20)), (a7, .inl (cI, 256, .inl (nF gS))), (a8, .inl (cI, 240, .inl (nF gr))), (a9, .inl (cI, 16, .inl (nF (updN (iter (nCpy gn) i gs) i (gn i))))), (a10, .inl (cI, 16, .inl (nF gm))), (a6, .inl (cI, 12, .inl (nF gn)))] := hD
      refine lv_iinc (v := nI (i + 1)) (lv' := [(2, .int (nI (i + 1))), (0, .ref mo), (1, .int n0)]) hx hb d_M_counter_20 hl (k := 0) rfl (sb_inc (a := i) (b := i + 1) (d := 1) rfl (by decide) (by omega)) (by decide) rfl (fun ls hl => ?_)
      refine lv_goto (tgt := 2) hx hb d_M_counter_23 (by decide) ?_
      rw [show nF (updN (iter (nCpy gn) i gs) i (gn i)) = nF (iter (nCpy gn) (i + 1) gs) from rfl] at hP hD
      exact ih1 (i + 1) (by omega) _ _ ls (hP.sub [0, 1, 2, 3, 4, 5] rfl) (hD.sub [0, 1, 2, 3, 4, 5] (by decide) rfl) hS (lv_sub hl [0, 1, 2] rfl)
  exact lp1 12 0 (by omega) _ _ ls (hP.sub [0, 1, 2, 3, 4, 5] rfl) (hD.sub [0, 1, 2, 3, 4, 5] (by decide) rfl) hS (lv_sub hl [0, 1, 2] rfl)

theorem d_M_summed_0 : decode b_M_summed 0 = .ok (.aload_n 0, 1) := by decide +kernel
theorem d_M_summed_1 : decode b_M_summed 1 = .ok (.getfield 88, 3) := by decide +kernel
theorem d_M_summed_4 : decode b_M_summed 4 = .ok (.lload_n 1, 1) := by decide +kernel
theorem d_M_summed_5 : decode b_M_summed 5 = .ok (.lxor, 1) := by decide +kernel
theorem d_M_summed_6 : decode b_M_summed 6 = .ok (.lstore 5, 2) := by decide +kernel
theorem d_M_summed_8 : decode b_M_summed 8 = .ok (.aload_n 0, 1) := by decide +kernel
theorem d_M_summed_9 : decode b_M_summed 9 = .ok (.getfield 92, 3) := by decide +kernel
theorem d_M_summed_12 : decode b_M_summed 12 = .ok (.lload_n 3, 1) := by decide +kernel
theorem d_M_summed_13 : decode b_M_summed 13 = .ok (.lxor, 1) := by decide +kernel
theorem d_M_summed_14 : decode b_M_summed 14 = .ok (.lstore 7, 2) := by decide +kernel
theorem d_M_summed_16 : decode b_M_summed 16 = .ok (.aload_n 0, 1) := by decide +kernel
theorem d_M_summed_17 : decode b_M_summed 17 = .ok (.getfield 95, 3) := by decide +kernel
theorem d_M_summed_20 : decode b_M_summed 20 = .ok (.lstore 9, 2) := by decide +kernel
theorem d_M_summed_22 : decode b_M_summed 22 = .ok (.aload_n 0, 1) := by decide +kernel
theorem d_M_summed_23 : decode b_M_summed 23 = .ok (.getfield 98, 3) := by decide +kernel
theorem d_M_summed_26 : decode b_M_summed 26 = .ok (.lstore 11, 2) := by decide +kernel
theorem d_M_summed_28 : decode b_M_summed 28 = .ok (.aload_n 0, 1) := by decide +kernel
theorem d_M_summed_29 : decode b_M_summed 29 = .ok (.lconst 0, 1) := by decide +kernel
theorem d_M_summed_30 : decode b_M_summed 30 = .ok (.putfield 88, 3) := by decide +kernel
theorem d_M_summed_33 : decode b_M_summed 33 = .ok (.aload_n 0, 1) := by decide +kernel
theorem d_M_summed_34 : decode b_M_summed 34 = .ok (.lconst 0, 1) := by decide +kernel
theorem d_M_summed_35 : decode b_M_summed 35 = .ok (.putfield 92, 3) := by decide +kernel
theorem d_M_summed_38 : decode b_M_summed 38 = .ok (.iconst 0, 1) := by decide +kernel
theorem d_M_summed_39 : decode b_M_summed 39 = .ok (.istore 13, 2) := by decide +kernel
theorem d_M_summed_41 : decode b_M_summed 41 = .ok (.iload 13, 2) := by decide +kernel
theorem d_M_summed_43 : decode b_M_summed 43 = .ok (.sipush 128, 3) := by decide +kernel
theorem d_M_summed_46 : decode b_M_summed 46 = .ok (.if_icmp .ge 117, 3) := by decide +kernel
theorem d_M_summed_49 : decode b_M_summed 49 = .ok (.iload 13, 2) := by decide +kernel
theorem d_M_summed_51 : decode b_M_summed 51 = .ok (.bipush 64, 2) := by decide +kernel
theorem d_M_summed_53 : decode b_M_summed 53 = .ok (.if_icmp .ge 16, 3) := by decide +kernel
theorem d_M_summed_56 : decode b_M_summed 56 = .ok (.lload 5, 2) := by decide +kernel
theorem d_M_summed_58 : decode b_M_summed 58 = .ok (.bipush 63, 2) := by decide +kernel
theorem d_M_summed_60 : decode b_M_summed 60 = .ok (.iload 13, 2) := by decide +kernel
theorem d_M_summed_62 : decode b_M_summed 62 = .ok (.isub, 1) := by decide +kernel
theorem d_M_summed_63 : decode b_M_summed 63 = .ok (.lushr, 1) := by decide +kernel
theorem d_M_summed_64 : decode b_M_summed 64 = .ok (.lconst 1, 1) := by decide +kernel
theorem d_M_summed_65 : decode b_M_summed 65 = .ok (.land, 1) := by decide +kernel
theorem d_M_summed_66 : decode b_M_summed 66 = .ok (.goto 13, 3) := by decide +kernel
theorem d_M_summed_69 : decode b_M_summed 69 = .ok (.lload 7, 2) := by decide +kernel
theorem d_M_summed_71 : decode b_M_summed 71 = .ok (.bipush 127, 2) := by decide +kernel
theorem d_M_summed_73 : decode b_M_summed 73 = .ok (.iload 13, 2) := by decide +kernel
theorem d_M_summed_75 : decode b_M_summed 75 = .ok (.isub, 1) := by decide +kernel
theorem d_M_summed_76 : decode b_M_summed 76 = .ok (.lushr, 1) := by decide +kernel
theorem d_M_summed_77 : decode b_M_summed 77 = .ok (.lconst 1, 1) := by decide +kernel
theorem d_M_summed_78 : decode b_M_summed 78 = .ok (.land, 1) := by decide +kernel
theorem d_M_summed_79 : decode b_M_summed 79 = .ok (.lstore 14, 2) := by decide +kernel
theorem d_M_summed_81 : decode b_M_summed 81 = .ok (.lload 14, 2) := by decide +kernel
theorem d_M_summed_83 : decode b_M_summed 83 = .ok (.lconst 1, 1) := by decide +kernel
theorem d_M_summed_84 : decode b_M_summed 84 = .ok (.lcmp, 1) := by decide +kernel
theorem d_M_summed_85 : decode b_M_summed 85 = .ok (.ifCond .ne 25, 3) := by decide +kernel
theorem d_M_summed_88 : decode b_M_summed 88 = .ok (.aload_n 0, 1) := by decide +kernel
theorem d_M_summed_89 : decode b_M_summed 89 = .ok (.dup, 1) := by decide +kernel
theorem d_M_summed_90 : decode b_M_summed 90 = .ok (.getfield 88, 3) := by decide +kernel
theorem d_M_summed_93 : decode b_M_summed 93 = .ok (.lload 9, 2) := by decide +kernel
theorem d_M_summed_95 : decode b_M_summed 95 = .ok (.lxor, 1) := by decide +kernel
theorem d_M_summed_96 : decode b_M_summed 96 = .ok (.putfield 88, 3) := by decide +kernel
theorem d_M_summed_99 : decode b_M_summed 99 = .ok (.aload_n 0, 1) := by decide +kernel
theorem d_M_summed_100 : decode b_M_summed 100 = .ok (.dup, 1) := by decide +kernel
theorem d_M_summed_101 : decode b_M_summed 101 = .ok (.getfield 92, 3) := by decide +kernel
theorem d_M_summed_104 : decode b_M_summed 104 = .ok (.lload 11, 2) := by decide +kernel
theorem d_M_summed_106 : decode b_M_summed 106 = .ok (.lxor, 1) := by decide +kernel
theorem d_M_summed_107 : decode b_M_summed 107 = .ok (.putfield 92, 3) := by decide +kernel
theorem d_M_summed_110 : decode b_M_summed 110 = .ok (.lload 11, 2) := by decide +kernel
theorem d_M_summed_112 : decode b_M_summed 112 = .ok (.lconst 1, 1) := by decide +kernel
theorem d_M_summed_113 : decode b_M_summed 113 = .ok (.land, 1) := by decide +kernel
theorem d_M_summed_114 : decode b_M_summed 114 = .ok (.lconst 1, 1) := by decide +kernel
theorem d_M_summed_115 : decode b_M_summed 115 = .ok (.lcmp, 1) := by decide +kernel
theorem d_M_summed_116 : decode b_M_summed 116 = .ok (.ifCond .ne 7, 3) := by decide +kernel
theorem d_M_summed_119 : decode b_M_summed 119 = .ok (.iconst 1, 1) := by decide +kernel
theorem d_M_summed_120 : decode b_M_summed 120 = .ok (.goto 4, 3) := by decide +kernel
theorem d_M_summed_123 : decode b_M_summed 123 = .ok (.iconst 0, 1) := by decide +kernel
theorem d_M_summed_124 : decode b_M_summed 124 = .ok (.istore 16, 2) := by decide +kernel
theorem d_M_summed_126 : decode b_M_summed 126 = .ok (.lload 11, 2) := by decide +kernel
theorem d_M_summed_128 : decode b_M_summed 128 = .ok (.iconst 1, 1) := by decide +kernel
theorem d_M_summed_129 : decode b_M_summed 129 = .ok (.lushr, 1) := by decide +kernel
theorem d_M_summed_130 : decode b_M_summed 130 = .ok (.lload 9, 2) := by decide +kernel
theorem d_M_summed_132 : decode b_M_summed 132 = .ok (.bipush 63, 2) := by decide +kernel
theorem d_M_summed_134 : decode b_M_summed 134 = .ok (.lshl, 1) := by decide +kernel
theorem d_M_summed_135 : decode b_M_summed 135 = .ok (.lor, 1) := by decide +kernel
theorem d_M_summed_136 : decode b_M_summed 136 = .ok (.lstore 11, 2) := by decide +kernel
theorem d_M_summed_138 : decode b_M_summed 138 = .ok (.lload 9, 2) := by decide +kernel
theorem d_M_summed_140 : decode b_M_summed 140 = .ok (.iconst 1, 1) := by decide +kernel
theorem d_M_summed_141 : decode b_M_summed 141 = .ok (.lushr, 1) := by decide +kernel
theorem d_M_summed_142 : decode b_M_summed 142 = .ok (.lstore 9, 2) := by decide +kernel
theorem d_M_summed_144 : decode b_M_summed 144 = .ok (.iload 16, 2) := by decide +kernel
theorem d_M_summed_146 : decode b_M_summed 146 = .ok (.ifCond .eq 11, 3) := by decide +kernel
theorem d_M_summed_149 : decode b_M_summed 149 = .ok (.lload 9, 2) := by decide +kernel
theorem d_M_summed_151 : decode b_M_summed 151 = .ok (.ldc2_w 101, 3) := by decide +kernel
theorem d_M_summed_154 : decode b_M_summed 154 = .ok (.lxor, 1) := by decide +kernel
theorem d_M_summed_155 : decode b_M_summed 155 = .ok (.lstore 9, 2) := by decide +kernel
theorem d_M_summed_157 : decode b_M_summed 157 = .ok (.iinc 13 1, 3) := by decide +kernel
theorem d_M_summed_160 : decode b_M_summed 160 = .ok (.goto (-119), 3) := by decide +kernel
theorem d_M_summed_163 : decode b_M_summed 163 = .ok (.return_, 1) := by decide +kernel

def rm_M_summed : Room := { frames := 0, cells := 0, slots := 0, locals := 0 }
set_option maxHeartbeats 4000000 in
set_option maxRecDepth 100000 in
theorem c_M_summed (l : Launch) (D : va_G) (cI cL cB : ClassId) (tS tF : Nat) (mo : Nat) (a1 : Nat) (a2 : Nat) (a3 : Nat) (a4 : Nat) (a5 : Nat) (a6 : Nat) (a7 : Nat) (a8 : Nat) (a9 : Nat) (a10 : Nat) (a11 : Nat) (a12 : Nat) (a13 : Nat) (a14 : Nat) (a15 : Nat) (a16 : Nat) (a17 : Nat) (a18 : Nat) (a19 : Nat) (a20 : Nat) (thr : Int32) (ci : Int32) (bk : Int32) (se : Int32) (op : Int32) (fa : Int32) (lt : Nat) (lb : Nat) (lz : Nat) (rn : Nat) (nu : Int64) (kh : Int64) (kl : Int64) (sh : Int64) (sl : Int64) (hh : Int64) (ll : Int64) (sz : Nat)  : Met l y_M_summed (sbw y_M_summed b_M_summed 17 none) rm_M_summed (sbPc D cI cL cB tS tF [.ref mo, .long hh, .long ll] sz [(mo, .inr (7, mFs thr a1 a2 a3 (nI lt) (nI lb) (nI lz) ci a4 a5 a6 nu bk se op fa a7 a8 a9 a10 a11 (nI rn) kh kl sh sl a12 a13 a14 a15 a16 a17 a18 a19 a20))]) (sbQv D (fun (_ : Unit) => True) (fun (_ : Unit) => [(mo, .inr (7, mFs thr a1 a2 a3 (nI lt) (nI lb) (nI lz) ci a4 a5 a6 nu bk se op fa a7 a8 a9 a10 a11 (nI rn) kh kl ((smx kh kl (sh, sl) hh ll).1) ((smx kh kl (sh, sl) hh ll).2) a12 a13 a14 a15 a16 a17 a18 a19 a20))]) (va_A [(mo, .inr (7, mFs thr a1 a2 a3 (nI lt) (nI lb) (nI lz) ci a4 a5 a6 nu bk se op fa a7 a8 a9 a10 a11 (nI rn) kh kl sh sl a12 a13 a14 a15 a16 a17 a18 a19 a20))] sz)) 0 0 (va_A [(mo, .inr (7, mFs thr a1 a2 a3 (nI lt) (nI lb) (nI lz) ci a4 a5 a6 nu bk se op fa a7 a8 a9 a10 a11 (nI rn) kh kl sh sl a12 a13 a14 a15 a16 a17 a18 a19 a20))] sz) := by
  refine sb_ofW (y := y_M_summed) (maxL := 17) (av := [.ref mo, .long hh, .long ll]) (Qc := fun A => (sbQv D (fun (_ : Unit) => True) (fun (_ : Unit) => [(mo, .inr (7, mFs thr a1 a2 a3 (nI lt) (nI lb) (nI lz) ci a4 a5 a6 nu bk se op fa a7 a8 a9 a10 a11 (nI rn) kh kl ((smx kh kl (sh, sl) hh ll).1) ((smx kh kl (sh, sl) hh ll).2) a12 a13 a14 a15 a16 a17 a18 a19 a20))]) A)) (by decide) (Nat.le_of_ble_eq_true rfl) ?_
  intro p e s m args below meth c A ls hx hb hr hml hts hown hlocks hin hsz hP hG hD hA hS hl
  have hl : lv_has ls 17 [(0, .ref mo), (1, .long hh), (3, .long ll)] := hl
  refine lv_aload_n hx hb d_M_summed_0 rfl (lv_at hl 0 rfl) ?_
  refine va_get (D := D) (ci := 7) (v := .long sh) (C := R_M) (T := F_M) (N := 35) hx hb hts in_M hown hG.1 hP 0 rfl rfl 24 (by decide) (hts _ k_721) (fun _ h9 => h9) rfl d_M_summed_1 ?_
  refine lv_lload_n hx hb d_M_summed_4 rfl (lv_at hl 1 rfl) ?_
  refine lv_lxor hx hb d_M_summed_5 ?_
  refine lv_topl (fun x_1 ex_1 => ?_)
  refine lv_lstore (lv' := [(5, .long x_1), (0, .ref mo), (1, .long hh), (3, .long ll)]) hx hb d_M_summed_6 hl (by decide) rfl (fun ls hl => ?_)
  refine lv_aload_n hx hb d_M_summed_8 rfl (lv_at hl 1 rfl) ?_
  refine va_get (D := D) (ci := 7) (v := .long sl) (C := R_M) (T := F_M) (N := 35) hx hb hts in_M hown hG.1 hP 0 rfl rfl 25 (by decide) (hts _ k_722) (fun _ h9 => h9) rfl d_M_summed_9 ?_
  refine lv_lload_n hx hb d_M_summed_12 rfl (lv_at hl 3 rfl) ?_
  refine lv_lxor hx hb d_M_summed_13 ?_
  refine lv_topl (fun x_2 ex_2 => ?_)
  refine lv_lstore (lv' := [(7, .long x_2), (5, .long x_1), (0, .ref mo), (1, .long hh), (3, .long ll)]) hx hb d_M_summed_14 hl (by decide) rfl (fun ls hl => ?_)
  refine lv_aload_n hx hb d_M_summed_16 rfl (lv_at hl 2 rfl) ?_
  refine va_get (D := D) (ci := 7) (v := .long kh) (C := R_M) (T := F_M) (N := 35) hx hb hts in_M hown hG.1 hP 0 rfl rfl 22 (by decide) (hts _ k_719) (fun _ h9 => h9) rfl d_M_summed_17 ?_
  refine lv_lstore (lv' := [(9, .long kh), (7, .long x_2), (5, .long x_1), (0, .ref mo), (1, .long hh), (3, .long ll)]) hx hb d_M_summed_20 hl (by decide) rfl (fun ls hl => ?_)
  refine lv_aload_n hx hb d_M_summed_22 rfl (lv_at hl 3 rfl) ?_
  refine va_get (D := D) (ci := 7) (v := .long kl) (C := R_M) (T := F_M) (N := 35) hx hb hts in_M hown hG.1 hP 0 rfl rfl 23 (by decide) (hts _ k_720) (fun _ h9 => h9) rfl d_M_summed_23 ?_
  refine lv_lstore (lv' := [(11, .long kl), (9, .long kh), (7, .long x_2), (5, .long x_1), (0, .ref mo), (1, .long hh), (3, .long ll)]) hx hb d_M_summed_26 hl (by decide) rfl (fun ls hl => ?_)
  refine lv_aload_n hx hb d_M_summed_28 rfl (lv_at hl 4 rfl) ?_
  refine lv_lconst (v := 0) hx hb d_M_summed_29 (by decide) ?_
  refine va_put (D := D) (ci := 7) (v := .long 0) (ty := .long) (C := R_M) (T := F_M) (N := 35) hx hb hts in_M tq_M tq_M_ok nq_M hown hG.1 hP hD hS 0 rfl rfl 24 (by decide) (hts _ k_721) (fun _ h9 => h9) rfl (by decide +kernel) rfl rfl (Nat.le_of_ble_eq_true rfl) d_M_summed_30 (fun H locs hP hD hS => ?_)
  have hP : va_P D vwCl [(mo, .inr (7, mFs thr a1 a2 a3 (nI lt) (nI lb) (nI lz) ci a4 a5 a6 nu bk se op fa a7 a8 a9 a10 a11 (nI rn) kh kl 0 sl a12 a13 a14 a15 a16 a17 a18 a19 a20))] H := hP
  have hD : va_D A [(mo, .inr (7, mFs thr a1 a2 a3 (nI lt) (nI lb) (nI lz) ci a4 a5 a6 nu bk se op fa a7 a8 a9 a10 a11 (nI rn) kh kl 0 sl a12 a13 a14 a15 a16 a17 a18 a19 a20))] := hD
  refine lv_aload_n hx hb d_M_summed_33 rfl (lv_at hl 4 rfl) ?_
  refine lv_lconst (v := 0) hx hb d_M_summed_34 (by decide) ?_
  refine va_put (D := D) (ci := 7) (v := .long 0) (ty := .long) (C := R_M) (T := F_M) (N := 35) hx hb hts in_M tq_M tq_M_ok nq_M hown hG.1 hP hD hS 0 rfl rfl 25 (by decide) (hts _ k_722) (fun _ h9 => h9) rfl (by decide +kernel) rfl rfl (Nat.le_of_ble_eq_true rfl) d_M_summed_35 (fun H locs hP hD hS => ?_)
  have hP : va_P D vwCl [(mo, .inr (7, mFs thr a1 a2 a3 (nI lt) (nI lb) (nI lz) ci a4 a5 a6 nu bk se op fa a7 a8 a9 a10 a11 (nI rn) kh kl 0 0 a12 a13 a14 a15 a16 a17 a18 a19 a20))] H := hP
  have hD : va_D A [(mo, .inr (7, mFs thr a1 a2 a3 (nI lt) (nI lb) (nI lz) ci a4 a5 a6 nu bk se op fa a7 a8 a9 a10 a11 (nI rn) kh kl 0 0 a12 a13 a14 a15 a16 a17 a18 a19 a20))] := hD
  refine lv_iconst (v := 0) hx hb d_M_summed_38 (by decide) ?_
  refine lv_istore (lv' := [(13, .int 0), (11, .long kl), (9, .long kh), (7, .long x_2), (5, .long x_1), (0, .ref mo), (1, .long hh), (3, .long ll)]) hx hb d_M_summed_39 hl (by decide) rfl (fun ls hl => ?_)
  have lp1 : ∀ (d1 i : Nat), i + d1 = 128 → ∀ (H : Heap) (locs : List Loc) (ls : Array Slot), va_P D vwCl [(mo, .inr (7, mFs thr a1 a2 a3 (nI lt) (nI lb) (nI lz) ci a4 a5 a6 nu bk se op fa a7 a8 a9 a10 a11 (nI rn) kh kl ((smI kh kl (sh ^^^ hh) (sl ^^^ ll) i).1) ((smI kh kl (sh ^^^ hh) (sl ^^^ ll) i).2.1) a12 a13 a14 a15 a16 a17 a18 a19 a20))] H → va_D A [(mo, .inr (7, mFs thr a1 a2 a3 (nI lt) (nI lb) (nI lz) ci a4 a5 a6 nu bk se op fa a7 a8 a9 a10 a11 (nI rn) kh kl ((smI kh kl (sh ^^^ hh) (sl ^^^ ll) i).1) ((smI kh kl (sh ^^^ hh) (sl ^^^ ll) i).2.1) a12 a13 a14 a15 a16 a17 a18 a19 a20))] → va_S A s.heap H locs → lv_has ls 17 [(9, .long ((smI kh kl (sh ^^^ hh) (sl ^^^ ll) i).2.2.1)), (11, .long ((smI kh kl (sh ^^^ hh) (sl ^^^ ll) i).2.2.2)), (13, .int (nI i)), (7, .long (sl ^^^ ll)), (5, .long (sh ^^^ hh)), (0, .ref mo), (1, .long hh), (3, .long ll)] → W p l e rm_M_summed s m args below meth c H locs 0 0 (MQ below (sbQv D (fun (_ : Unit) => True) (fun (_ : Unit) => [(mo, .inr (7, mFs thr a1 a2 a3 (nI lt) (nI lb) (nI lz) ci a4 a5 a6 nu bk se op fa a7 a8 a9 a10 a11 (nI rn) kh kl ((smx kh kl (sh, sl) hh ll).1) ((smx kh kl (sh, sl) hh ll).2) a12 a13 a14 a15 a16 a17 a18 a19 a20))]) A) args s 0 0 A) (F0 m 41 ls []) := by
    intro d1
    induction d1 with
    | zero =>
      intro i hi1 H locs ls hP hD hS hl
      obtain rfl : 128 = i := by omega
      refine lv_iload hx hb d_M_summed_41 (lv_at hl 2 rfl) ?_
      refine lv_sipush (v := 128) hx hb d_M_summed_43 (by decide) ?_
      refine lv_icmp_ge (tgt := 163) hx hb d_M_summed_46 (by decide) (fun c_3 => ?_) (fun c_3 => absurd (sb_geT (a := 128) (b := 128) rfl rfl (by omega) (by omega) (by omega)) c_3)
      have hP9 := hP.sub (ws' := [(mo, .inr (7, mFs thr a1 a2 a3 (nI lt) (nI lb) (nI lz) ci a4 a5 a6 nu bk se op fa a7 a8 a9 a10 a11 (nI rn) kh kl ((smI kh kl (sh ^^^ hh) (sl ^^^ ll) 128).1) ((smI kh kl (sh ^^^ hh) (sl ^^^ ll) 128).2.1) a12 a13 a14 a15 a16 a17 a18 a19 a20))]) [0] rfl
      have hD9 := hD.sub (ws' := [(mo, .inr (7, mFs thr a1 a2 a3 (nI lt) (nI lb) (nI lz) ci a4 a5 a6 nu bk se op fa a7 a8 a9 a10 a11 (nI rn) kh kl ((smI kh kl (sh ^^^ hh) (sl ^^^ ll) 128).1) ((smI kh kl (sh ^^^ hh) (sl ^^^ ll) 128).2.1) a12 a13 a14 a15 a16 a17 a18 a19 a20))]) [0] (by decide) rfl
      exact W.vret hx hb hr (fun t ht hW => ⟨⟨(), rfl, trivial, by rw [ht]; exact hP9, hD9⟩, hS.F ht⟩) hS.2.2 d_M_summed_163
    | succ d1 ih1 =>
      intro i hi1 H locs ls hP hD hS hl
      refine lv_iload hx hb d_M_summed_41 (lv_at hl 2 rfl) ?_
      refine lv_sipush (v := 128) hx hb d_M_summed_43 (by decide) ?_
      refine lv_icmp_ge (tgt := 163) hx hb d_M_summed_46 (by decide) (fun c_4 => absurd c_4 (sb_geF (a := i) (b := 128) rfl rfl (by omega) (by omega) (by omega))) (fun c_4 => ?_)
      refine lv_iload hx hb d_M_summed_49 (lv_at hl 2 rfl) ?_
      refine lv_bipush (v := 64) hx hb d_M_summed_51 (by decide) ?_
      refine lv_icmp_ge (tgt := 69) hx hb d_M_summed_53 (by decide) (fun c_5 => ?_) (fun c_5 => ?_)
      · have c_5 := (sb_geI (a := i) (b := 64) rfl rfl (by omega) (by omega)).mp c_5
        refine lv_lload hx hb d_M_summed_69 (lv_at hl 3 rfl) ?_
        refine lv_bipush (v := 127) hx hb d_M_summed_71 (by decide) ?_
        refine lv_iload hx hb d_M_summed_73 (lv_at hl 2 rfl) ?_
        refine lv_isub hx hb d_M_summed_75 ?_
        refine sb_topn (127 - i) (sb_sub (a := 127) (b := i) (by omega) rfl rfl) ?_
        refine lv_lushr (v := uL (sl ^^^ ll) (nI (127 - i))) hx hb d_M_summed_76 rfl ?_
        refine lv_lconst (v := 1) hx hb d_M_summed_77 (by decide) ?_
        refine lv_land hx hb d_M_summed_78 ?_
        refine lv_topl (fun x_6 ex_6 => ?_)
        refine lv_lstore (lv' := [(14, .long x_6), (9, .long ((smI kh kl (sh ^^^ hh) (sl ^^^ ll) i).2.2.1)), (11, .long ((smI kh kl (sh ^^^ hh) (sl ^^^ ll) i).2.2.2)), (13, .int (nI i)), (7, .long (sl ^^^ ll)), (5, .long (sh ^^^ hh)), (0, .ref mo), (1, .long hh), (3, .long ll)]) hx hb d_M_summed_79 hl (by decide) rfl (fun ls hl => ?_)
        refine lv_lload hx hb d_M_summed_81 (lv_at hl 0 rfl) ?_
        refine lv_lconst (v := 1) hx hb d_M_summed_83 (by decide) ?_
        refine W.lcmp hx hb d_M_summed_84 ?_
        refine lv_if_ne (tgt := 110) hx hb d_M_summed_85 (by decide) (fun c_7 => ?_) (fun c_7 => ?_)
        · refine lv_lload hx hb d_M_summed_110 (lv_at hl 2 rfl) ?_
          refine lv_lconst (v := 1) hx hb d_M_summed_112 (by decide) ?_
          refine lv_land hx hb d_M_summed_113 ?_
          refine lv_lconst (v := 1) hx hb d_M_summed_114 (by decide) ?_
          refine W.lcmp hx hb d_M_summed_115 ?_
          refine lv_if_ne (tgt := 123) hx hb d_M_summed_116 (by decide) (fun c_8 => ?_) (fun c_8 => ?_)
          · refine lv_iconst (v := 0) hx hb d_M_summed_123 (by decide) ?_
            refine lv_istore (lv' := [(16, .int 0), (14, .long x_6), (9, .long ((smI kh kl (sh ^^^ hh) (sl ^^^ ll) i).2.2.1)), (11, .long ((smI kh kl (sh ^^^ hh) (sl ^^^ ll) i).2.2.2)), (13, .int (nI i)), (7, .long (sl ^^^ ll)), (5, .long (sh ^^^ hh)), (0, .ref mo), (1, .long hh), (3, .long ll)]) hx hb d_M_summed_124 hl (by decide) rfl (fun ls hl => ?_)
            refine lv_lload hx hb d_M_summed_126 (lv_at hl 3 rfl) ?_
            refine lv_iconst (v := 1) hx hb d_M_summed_128 (by decide) ?_
            refine lv_lushr (v := uL ((smI kh kl (sh ^^^ hh) (sl ^^^ ll) i).2.2.2) 1) hx hb d_M_summed_129 rfl ?_
            refine lv_lload hx hb d_M_summed_130 (lv_at hl 2 rfl) ?_
            refine lv_bipush (v := 63) hx hb d_M_summed_132 (by decide) ?_
            refine lv_lshl (v := sL ((smI kh kl (sh ^^^ hh) (sl ^^^ ll) i).2.2.1) 63) hx hb d_M_summed_134 rfl ?_
            refine lv_lor hx hb d_M_summed_135 ?_
            refine lv_topl (fun x_9 ex_9 => ?_)
            refine lv_lstore (lv' := [(11, .long x_9), (16, .int 0), (14, .long x_6), (9, .long ((smI kh kl (sh ^^^ hh) (sl ^^^ ll) i).2.2.1)), (13, .int (nI i)), (7, .long (sl ^^^ ll)), (5, .long (sh ^^^ hh)), (0, .ref mo), (1, .long hh), (3, .long ll)]) hx hb d_M_summed_136 hl (by decide) rfl (fun ls hl => ?_)
            refine lv_lload hx hb d_M_summed_138 (lv_at hl 3 rfl) ?_
            refine lv_iconst (v := 1) hx hb d_M_summed_140 (by decide) ?_
            refine lv_lushr (v := uL ((smI kh kl (sh ^^^ hh) (sl ^^^ ll) i).2.2.1) 1) hx hb d_M_summed_141 rfl ?_
            refine lv_topl (fun x_10 ex_10 => ?_)
            refine lv_lstore (lv' := [(9, .long x_10), (11, .long x_9), (16, .int 0), (14, .long x_6), (13, .int (nI i)), (7, .long (sl ^^^ ll)), (5, .long (sh ^^^ hh)), (0, .ref mo), (1, .long hh), (3, .long ll)]) hx hb d_M_summed_142 hl (by decide) rfl (fun ls hl => ?_)
            refine lv_iload hx hb d_M_summed_144 (lv_at hl 2 rfl) ?_
            refine lv_if_eq (tgt := 157) hx hb d_M_summed_146 (by decide) (fun c_11 => ?_) (fun c_11 => absurd (sb_eqT (a := 0) (b := 0) rfl rfl (by omega) (by omega) (by omega)) c_11)
            refine lv_iinc (v := nI (i + 1)) (lv' := [(13, .int (nI (i + 1))), (9, .long x_10), (11, .long x_9), (16, .int 0), (14, .long x_6), (7, .long (sl ^^^ ll)), (5, .long (sh ^^^ hh)), (0, .ref mo), (1, .long hh), (3, .long ll)]) hx hb d_M_summed_157 hl (k := 4) rfl (sb_inc (a := i) (b := i + 1) (d := 1) rfl (by decide) (by omega)) (by decide) rfl (fun ls hl => ?_)
            refine lv_goto (tgt := 41) hx hb d_M_summed_160 (by decide) ?_
            subst ex_10
            subst ex_9
            subst ex_6
            have hE : (smI kh kl (sh ^^^ hh) (sl ^^^ ll) (i + 1)) = ((smI kh kl (sh ^^^ hh) (sl ^^^ ll) i).1, (smI kh kl (sh ^^^ hh) (sl ^^^ ll) i).2.1, (uL ((smI kh kl (sh ^^^ hh) (sl ^^^ ll) i).2.2.1) 1), ((uL ((smI kh kl (sh ^^^ hh) (sl ^^^ ll) i).2.2.2) 1) ||| (sL ((smI kh kl (sh ^^^ hh) (sl ^^^ ll) i).2.2.1) 63))) := (by show smS _ _ i (smI kh kl (sh ^^^ hh) (sl ^^^ ll) i) = _; simp only [smS, smBit, if_pos c_5, if_neg c_7, if_neg c_8])
            have ih' := ih1 (i + 1) (by omega)
            rw [hE] at ih'
            exact ih' _ _ ls (hP.sub [0] rfl) (hD.sub [0] (by decide) rfl) hS (lv_sub hl [1, 2, 0, 5, 6, 7, 8, 9] rfl)
          · refine lv_iconst (v := 1) hx hb d_M_summed_119 (by decide) ?_
            refine lv_goto (tgt := 124) hx hb d_M_summed_120 (by decide) ?_
            refine lv_istore (lv' := [(16, .int 1), (14, .long x_6), (9, .long ((smI kh kl (sh ^^^ hh) (sl ^^^ ll) i).2.2.1)), (11, .long ((smI kh kl (sh ^^^ hh) (sl ^^^ ll) i).2.2.2)), (13, .int (nI i)), (7, .long (sl ^^^ ll)), (5, .long (sh ^^^ hh)), (0, .ref mo), (1, .long hh), (3, .long ll)]) hx hb d_M_summed_124 hl (by decide) rfl (fun ls hl => ?_)
            refine lv_lload hx hb d_M_summed_126 (lv_at hl 3 rfl) ?_
            refine lv_iconst (v := 1) hx hb d_M_summed_128 (by decide) ?_
            refine lv_lushr (v := uL ((smI kh kl (sh ^^^ hh) (sl ^^^ ll) i).2.2.2) 1) hx hb d_M_summed_129 rfl ?_
            refine lv_lload hx hb d_M_summed_130 (lv_at hl 2 rfl) ?_
            refine lv_bipush (v := 63) hx hb d_M_summed_132 (by decide) ?_
            refine lv_lshl (v := sL ((smI kh kl (sh ^^^ hh) (sl ^^^ ll) i).2.2.1) 63) hx hb d_M_summed_134 rfl ?_
            refine lv_lor hx hb d_M_summed_135 ?_
            refine lv_topl (fun x_12 ex_12 => ?_)
            refine lv_lstore (lv' := [(11, .long x_12), (16, .int 1), (14, .long x_6), (9, .long ((smI kh kl (sh ^^^ hh) (sl ^^^ ll) i).2.2.1)), (13, .int (nI i)), (7, .long (sl ^^^ ll)), (5, .long (sh ^^^ hh)), (0, .ref mo), (1, .long hh), (3, .long ll)]) hx hb d_M_summed_136 hl (by decide) rfl (fun ls hl => ?_)
            refine lv_lload hx hb d_M_summed_138 (lv_at hl 3 rfl) ?_
            refine lv_iconst (v := 1) hx hb d_M_summed_140 (by decide) ?_
            refine lv_lushr (v := uL ((smI kh kl (sh ^^^ hh) (sl ^^^ ll) i).2.2.1) 1) hx hb d_M_summed_141 rfl ?_
            refine lv_topl (fun x_13 ex_13 => ?_)
            refine lv_lstore (lv' := [(9, .long x_13), (11, .long x_12), (16, .int 1), (14, .long x_6), (13, .int (nI i)), (7, .long (sl ^^^ ll)), (5, .long (sh ^^^ hh)), (0, .ref mo), (1, .long hh), (3, .long ll)]) hx hb d_M_summed_142 hl (by decide) rfl (fun ls hl => ?_)
            refine lv_iload hx hb d_M_summed_144 (lv_at hl 2 rfl) ?_
            refine lv_if_eq (tgt := 157) hx hb d_M_summed_146 (by decide) (fun c_14 => absurd c_14 (sb_eqF (a := 1) (b := 0) rfl rfl (by omega) (by omega) (by omega))) (fun c_14 => ?_)
            refine lv_lload hx hb d_M_summed_149 (lv_at hl 0 rfl) ?_
            refine lv_ldc2 (v := (-2233785415175766016)) hx hb hown (hts (.constantLong R_M 101 (-2233785415175766016)) (by decide +kernel)) d_M_summed_151 ?_
            refine lv_lxor hx hb d_M_summed_154 ?_
            refine lv_topl (fun x_15 ex_15 => ?_)
            refine lv_lstore (lv' := [(9, .long x_15), (11, .long x_12), (16, .int 1), (14, .long x_6), (13, .int (nI i)), (7, .long (sl ^^^ ll)), (5, .long (sh ^^^ hh)), (0, .ref mo), (1, .long hh), (3, .long ll)]) hx hb d_M_summed_155 hl (by decide) rfl (fun ls hl => ?_)
            refine lv_iinc (v := nI (i + 1)) (lv' := [(13, .int (nI (i + 1))), (9, .long x_15), (11, .long x_12), (16, .int 1), (14, .long x_6), (7, .long (sl ^^^ ll)), (5, .long (sh ^^^ hh)), (0, .ref mo), (1, .long hh), (3, .long ll)]) hx hb d_M_summed_157 hl (k := 4) rfl (sb_inc (a := i) (b := i + 1) (d := 1) rfl (by decide) (by omega)) (by decide) rfl (fun ls hl => ?_)
            refine lv_goto (tgt := 41) hx hb d_M_summed_160 (by decide) ?_
            subst ex_15
            subst ex_13
            subst ex_12
            subst ex_6
            have hE : (smI kh kl (sh ^^^ hh) (sl ^^^ ll) (i + 1)) = ((smI kh kl (sh ^^^ hh) (sl ^^^ ll) i).1, (smI kh kl (sh ^^^ hh) (sl ^^^ ll) i).2.1, ((uL ((smI kh kl (sh ^^^ hh) (sl ^^^ ll) i).2.2.1) 1) ^^^ (-2233785415175766016)), ((uL ((smI kh kl (sh ^^^ hh) (sl ^^^ ll) i).2.2.2) 1) ||| (sL ((smI kh kl (sh ^^^ hh) (sl ^^^ ll) i).2.2.1) 63))) := (by show smS _ _ i (smI kh kl (sh ^^^ hh) (sl ^^^ ll) i) = _; simp only [smS, smBit, if_pos c_5, if_neg c_7, if_pos c_8])
            have ih' := ih1 (i + 1) (by omega)
            rw [hE] at ih'
            exact ih' _ _ ls (hP.sub [0] rfl) (hD.sub [0] (by decide) rfl) hS (lv_sub hl [1, 2, 0, 5, 6, 7, 8, 9] rfl)
        · refine lv_aload_n hx hb d_M_summed_88 rfl (lv_at hl 6 rfl) ?_
          refine lv_dup hx hb d_M_summed_89 rfl ?_
          refine va_get (D := D) (ci := 7) (v := .long ((smI kh kl (sh ^^^ hh) (sl ^^^ ll) i).1)) (C := R_M) (T := F_M) (N := 35) hx hb hts in_M hown hG.1 hP 0 rfl rfl 24 (by decide) (hts _ k_721) (fun _ h9 => h9) rfl d_M_summed_90 ?_
          refine lv_lload hx hb d_M_summed_93 (lv_at hl 1 rfl) ?_
          refine lv_lxor hx hb d_M_summed_95 ?_
          refine lv_topl (fun x_16 ex_16 => ?_)
          refine va_put (D := D) (ci := 7) (v := .long x_16) (ty := .long) (C := R_M) (T := F_M) (N := 35) hx hb hts in_M tq_M tq_M_ok nq_M hown hG.1 hP hD hS 0 rfl rfl 24 (by decide) (hts _ k_721) (fun _ h9 => h9) rfl (by decide +kernel) rfl rfl (Nat.le_of_ble_eq_true rfl) d_M_summed_96 (fun H locs hP hD hS => ?_)
          have hP : va_P D vwCl [(mo, .inr (7, mFs thr a1 a2 a3 (nI lt) (nI lb) (nI lz) ci a4 a5 a6 nu bk se op fa a7 a8 a9 a10 a11 (nI rn) kh kl x_16 ((smI kh kl (sh ^^^ hh) (sl ^^^ ll) i).2.1) a12 a13 a14 a15 a16 a17 a18 a19 a20))] H := hP
          have hD : va_D A [(mo, .inr (7, mFs thr a1 a2 a3 (nI lt) (nI lb) (nI lz) ci a4 a5 a6 nu bk se op fa a7 a8 a9 a10 a11 (nI rn) kh kl x_16 ((smI kh kl (sh ^^^ hh) (sl ^^^ ll) i).2.1) a12 a13 a14 a15 a16 a17 a18 a19 a20))] := hD
          refine lv_aload_n hx hb d_M_summed_99 rfl (lv_at hl 6 rfl) ?_
          refine lv_dup hx hb d_M_summed_100 rfl ?_
          refine va_get (D := D) (ci := 7) (v := .long ((smI kh kl (sh ^^^ hh) (sl ^^^ ll) i).2.1)) (C := R_M) (T := F_M) (N := 35) hx hb hts in_M hown hG.1 hP 0 rfl rfl 25 (by decide) (hts _ k_722) (fun _ h9 => h9) rfl d_M_summed_101 ?_
          refine lv_lload hx hb d_M_summed_104 (lv_at hl 2 rfl) ?_
          refine lv_lxor hx hb d_M_summed_106 ?_
          refine lv_topl (fun x_17 ex_17 => ?_)
          refine va_put (D := D) (ci := 7) (v := .long x_17) (ty := .long) (C := R_M) (T := F_M) (N := 35) hx hb hts in_M tq_M tq_M_ok nq_M hown hG.1 hP hD hS 0 rfl rfl 25 (by decide) (hts _ k_722) (fun _ h9 => h9) rfl (by decide +kernel) rfl rfl (Nat.le_of_ble_eq_true rfl) d_M_summed_107 (fun H locs hP hD hS => ?_)
          have hP : va_P D vwCl [(mo, .inr (7, mFs thr a1 a2 a3 (nI lt) (nI lb) (nI lz) ci a4 a5 a6 nu bk se op fa a7 a8 a9 a10 a11 (nI rn) kh kl x_16 x_17 a12 a13 a14 a15 a16 a17 a18 a19 a20))] H := hP
          have hD : va_D A [(mo, .inr (7, mFs thr a1 a2 a3 (nI lt) (nI lb) (nI lz) ci a4 a5 a6 nu bk se op fa a7 a8 a9 a10 a11 (nI rn) kh kl x_16 x_17 a12 a13 a14 a15 a16 a17 a18 a19 a20))] := hD
          refine lv_lload hx hb d_M_summed_110 (lv_at hl 2 rfl) ?_
          refine lv_lconst (v := 1) hx hb d_M_summed_112 (by decide) ?_
          refine lv_land hx hb d_M_summed_113 ?_
          refine lv_lconst (v := 1) hx hb d_M_summed_114 (by decide) ?_
          refine W.lcmp hx hb d_M_summed_115 ?_
          refine lv_if_ne (tgt := 123) hx hb d_M_summed_116 (by decide) (fun c_18 => ?_) (fun c_18 => ?_)
          · refine lv_iconst (v := 0) hx hb d_M_summed_123 (by decide) ?_
            refine lv_istore (lv' := [(16, .int 0), (14, .long x_6), (9, .long ((smI kh kl (sh ^^^ hh) (sl ^^^ ll) i).2.2.1)), (11, .long ((smI kh kl (sh ^^^ hh) (sl ^^^ ll) i).2.2.2)), (13, .int (nI i)), (7, .long (sl ^^^ ll)), (5, .long (sh ^^^ hh)), (0, .ref mo), (1, .long hh), (3, .long ll)]) hx hb d_M_summed_124 hl (by decide) rfl (fun ls hl => ?_)
            refine lv_lload hx hb d_M_summed_126 (lv_at hl 3 rfl) ?_
            refine lv_iconst (v := 1) hx hb d_M_summed_128 (by decide) ?_
            refine lv_lushr (v := uL ((smI kh kl (sh ^^^ hh) (sl ^^^ ll) i).2.2.2) 1) hx hb d_M_summed_129 rfl ?_
            refine lv_lload hx hb d_M_summed_130 (lv_at hl 2 rfl) ?_
            refine lv_bipush (v := 63) hx hb d_M_summed_132 (by decide) ?_
            refine lv_lshl (v := sL ((smI kh kl (sh ^^^ hh) (sl ^^^ ll) i).2.2.1) 63) hx hb d_M_summed_134 rfl ?_
            refine lv_lor hx hb d_M_summed_135 ?_
            refine lv_topl (fun x_19 ex_19 => ?_)
            refine lv_lstore (lv' := [(11, .long x_19), (16, .int 0), (14, .long x_6), (9, .long ((smI kh kl (sh ^^^ hh) (sl ^^^ ll) i).2.2.1)), (13, .int (nI i)), (7, .long (sl ^^^ ll)), (5, .long (sh ^^^ hh)), (0, .ref mo), (1, .long hh), (3, .long ll)]) hx hb d_M_summed_136 hl (by decide) rfl (fun ls hl => ?_)
            refine lv_lload hx hb d_M_summed_138 (lv_at hl 3 rfl) ?_
            refine lv_iconst (v := 1) hx hb d_M_summed_140 (by decide) ?_
            refine lv_lushr (v := uL ((smI kh kl (sh ^^^ hh) (sl ^^^ ll) i).2.2.1) 1) hx hb d_M_summed_141 rfl ?_
            refine lv_topl (fun x_20 ex_20 => ?_)
            refine lv_lstore (lv' := [(9, .long x_20), (11, .long x_19), (16, .int 0), (14, .long x_6), (13, .int (nI i)), (7, .long (sl ^^^ ll)), (5, .long (sh ^^^ hh)), (0, .ref mo), (1, .long hh), (3, .long ll)]) hx hb d_M_summed_142 hl (by decide) rfl (fun ls hl => ?_)
            refine lv_iload hx hb d_M_summed_144 (lv_at hl 2 rfl) ?_
            refine lv_if_eq (tgt := 157) hx hb d_M_summed_146 (by decide) (fun c_21 => ?_) (fun c_21 => absurd (sb_eqT (a := 0) (b := 0) rfl rfl (by omega) (by omega) (by omega)) c_21)
            refine lv_iinc (v := nI (i + 1)) (lv' := [(13, .int (nI (i + 1))), (9, .long x_20), (11, .long x_19), (16, .int 0), (14, .long x_6), (7, .long (sl ^^^ ll)), (5, .long (sh ^^^ hh)), (0, .ref mo), (1, .long hh), (3, .long ll)]) hx hb d_M_summed_157 hl (k := 4) rfl (sb_inc (a := i) (b := i + 1) (d := 1) rfl (by decide) (by omega)) (by decide) rfl (fun ls hl => ?_)
            refine lv_goto (tgt := 41) hx hb d_M_summed_160 (by decide) ?_
            subst ex_20
            subst ex_19
            subst ex_17
            subst ex_16
            subst ex_6
            have hE : (smI kh kl (sh ^^^ hh) (sl ^^^ ll) (i + 1)) = ((((smI kh kl (sh ^^^ hh) (sl ^^^ ll) i).1) ^^^ ((smI kh kl (sh ^^^ hh) (sl ^^^ ll) i).2.2.1)), (((smI kh kl (sh ^^^ hh) (sl ^^^ ll) i).2.1) ^^^ ((smI kh kl (sh ^^^ hh) (sl ^^^ ll) i).2.2.2)), (uL ((smI kh kl (sh ^^^ hh) (sl ^^^ ll) i).2.2.1) 1), ((uL ((smI kh kl (sh ^^^ hh) (sl ^^^ ll) i).2.2.2) 1) ||| (sL ((smI kh kl (sh ^^^ hh) (sl ^^^ ll) i).2.2.1) 63))) := (by show smS _ _ i (smI kh kl (sh ^^^ hh) (sl ^^^ ll) i) = _; simp only [smS, smBit, if_pos c_5, if_pos c_7, if_neg c_18])
            have ih' := ih1 (i + 1) (by omega)
            rw [hE] at ih'
            exact ih' _ _ ls (hP.sub [0] rfl) (hD.sub [0] (by decide) rfl) hS (lv_sub hl [1, 2, 0, 5, 6, 7, 8, 9] rfl)
          · refine lv_iconst (v := 1) hx hb d_M_summed_119 (by decide) ?_
            refine lv_goto (tgt := 124) hx hb d_M_summed_120 (by decide) ?_
            refine lv_istore (lv' := [(16, .int 1), (14, .long x_6), (9, .long ((smI kh kl (sh ^^^ hh) (sl ^^^ ll) i).2.2.1)), (11, .long ((smI kh kl (sh ^^^ hh) (sl ^^^ ll) i).2.2.2)), (13, .int (nI i)), (7, .long (sl ^^^ ll)), (5, .long (sh ^^^ hh)), (0, .ref mo), (1, .long hh), (3, .long ll)]) hx hb d_M_summed_124 hl (by decide) rfl (fun ls hl => ?_)
            refine lv_lload hx hb d_M_summed_126 (lv_at hl 3 rfl) ?_
            refine lv_iconst (v := 1) hx hb d_M_summed_128 (by decide) ?_
            refine lv_lushr (v := uL ((smI kh kl (sh ^^^ hh) (sl ^^^ ll) i).2.2.2) 1) hx hb d_M_summed_129 rfl ?_
            refine lv_lload hx hb d_M_summed_130 (lv_at hl 2 rfl) ?_
            refine lv_bipush (v := 63) hx hb d_M_summed_132 (by decide) ?_
            refine lv_lshl (v := sL ((smI kh kl (sh ^^^ hh) (sl ^^^ ll) i).2.2.1) 63) hx hb d_M_summed_134 rfl ?_
            refine lv_lor hx hb d_M_summed_135 ?_
            refine lv_topl (fun x_22 ex_22 => ?_)
            refine lv_lstore (lv' := [(11, .long x_22), (16, .int 1), (14, .long x_6), (9, .long ((smI kh kl (sh ^^^ hh) (sl ^^^ ll) i).2.2.1)), (13, .int (nI i)), (7, .long (sl ^^^ ll)), (5, .long (sh ^^^ hh)), (0, .ref mo), (1, .long hh), (3, .long ll)]) hx hb d_M_summed_136 hl (by decide) rfl (fun ls hl => ?_)
            refine lv_lload hx hb d_M_summed_138 (lv_at hl 3 rfl) ?_
            refine lv_iconst (v := 1) hx hb d_M_summed_140 (by decide) ?_
            refine lv_lushr (v := uL ((smI kh kl (sh ^^^ hh) (sl ^^^ ll) i).2.2.1) 1) hx hb d_M_summed_141 rfl ?_
            refine lv_topl (fun x_23 ex_23 => ?_)
            refine lv_lstore (lv' := [(9, .long x_23), (11, .long x_22), (16, .int 1), (14, .long x_6), (13, .int (nI i)), (7, .long (sl ^^^ ll)), (5, .long (sh ^^^ hh)), (0, .ref mo), (1, .long hh), (3, .long ll)]) hx hb d_M_summed_142 hl (by decide) rfl (fun ls hl => ?_)
            refine lv_iload hx hb d_M_summed_144 (lv_at hl 2 rfl) ?_
            refine lv_if_eq (tgt := 157) hx hb d_M_summed_146 (by decide) (fun c_24 => absurd c_24 (sb_eqF (a := 1) (b := 0) rfl rfl (by omega) (by omega) (by omega))) (fun c_24 => ?_)
            refine lv_lload hx hb d_M_summed_149 (lv_at hl 0 rfl) ?_
            refine lv_ldc2 (v := (-2233785415175766016)) hx hb hown (hts (.constantLong R_M 101 (-2233785415175766016)) (by decide +kernel)) d_M_summed_151 ?_
            refine lv_lxor hx hb d_M_summed_154 ?_
            refine lv_topl (fun x_25 ex_25 => ?_)
            refine lv_lstore (lv' := [(9, .long x_25), (11, .long x_22), (16, .int 1), (14, .long x_6), (13, .int (nI i)), (7, .long (sl ^^^ ll)), (5, .long (sh ^^^ hh)), (0, .ref mo), (1, .long hh), (3, .long ll)]) hx hb d_M_summed_155 hl (by decide) rfl (fun ls hl => ?_)
            refine lv_iinc (v := nI (i + 1)) (lv' := [(13, .int (nI (i + 1))), (9, .long x_25), (11, .long x_22), (16, .int 1), (14, .long x_6), (7, .long (sl ^^^ ll)), (5, .long (sh ^^^ hh)), (0, .ref mo), (1, .long hh), (3, .long ll)]) hx hb d_M_summed_157 hl (k := 4) rfl (sb_inc (a := i) (b := i + 1) (d := 1) rfl (by decide) (by omega)) (by decide) rfl (fun ls hl => ?_)
            refine lv_goto (tgt := 41) hx hb d_M_summed_160 (by decide) ?_
            subst ex_25
            subst ex_23
            subst ex_22
            subst ex_17
            subst ex_16
            subst ex_6
            have hE : (smI kh kl (sh ^^^ hh) (sl ^^^ ll) (i + 1)) = ((((smI kh kl (sh ^^^ hh) (sl ^^^ ll) i).1) ^^^ ((smI kh kl (sh ^^^ hh) (sl ^^^ ll) i).2.2.1)), (((smI kh kl (sh ^^^ hh) (sl ^^^ ll) i).2.1) ^^^ ((smI kh kl (sh ^^^ hh) (sl ^^^ ll) i).2.2.2)), ((uL ((smI kh kl (sh ^^^ hh) (sl ^^^ ll) i).2.2.1) 1) ^^^ (-2233785415175766016)), ((uL ((smI kh kl (sh ^^^ hh) (sl ^^^ ll) i).2.2.2) 1) ||| (sL ((smI kh kl (sh ^^^ hh) (sl ^^^ ll) i).2.2.1) 63))) := (by show smS _ _ i (smI kh kl (sh ^^^ hh) (sl ^^^ ll) i) = _; simp only [smS, smBit, if_pos c_5, if_pos c_7, if_pos c_18])
            have ih' := ih1 (i + 1) (by omega)
            rw [hE] at ih'
            exact ih' _ _ ls (hP.sub [0] rfl) (hD.sub [0] (by decide) rfl) hS (lv_sub hl [1, 2, 0, 5, 6, 7, 8, 9] rfl)
      · have c_5 := mt (sb_geI (a := i) (b := 64) rfl rfl (by omega) (by omega)).mpr c_5
        refine lv_lload hx hb d_M_summed_56 (lv_at hl 4 rfl) ?_
        refine lv_bipush (v := 63) hx hb d_M_summed_58 (by decide) ?_
        refine lv_iload hx hb d_M_summed_60 (lv_at hl 2 rfl) ?_
        refine lv_isub hx hb d_M_summed_62 ?_
        refine sb_topn (63 - i) (sb_sub (a := 63) (b := i) (by omega) rfl rfl) ?_
        refine lv_lushr (v := uL (sh ^^^ hh) (nI (63 - i))) hx hb d_M_summed_63 rfl ?_
        refine lv_lconst (v := 1) hx hb d_M_summed_64 (by decide) ?_
        refine lv_land hx hb d_M_summed_65 ?_
        refine lv_goto (tgt := 79) hx hb d_M_summed_66 (by decide) ?_
        refine lv_topl (fun x_26 ex_26 => ?_)
        refine lv_lstore (lv' := [(14, .long x_26), (9, .long ((smI kh kl (sh ^^^ hh) (sl ^^^ ll) i).2.2.1)), (11, .long ((smI kh kl (sh ^^^ hh) (sl ^^^ ll) i).2.2.2)), (13, .int (nI i)), (7, .long (sl ^^^ ll)), (5, .long (sh ^^^ hh)), (0, .ref mo), (1, .long hh), (3, .long ll)]) hx hb d_M_summed_79 hl (by decide) rfl (fun ls hl => ?_)
        refine lv_lload hx hb d_M_summed_81 (lv_at hl 0 rfl) ?_
        refine lv_lconst (v := 1) hx hb d_M_summed_83 (by decide) ?_
        refine W.lcmp hx hb d_M_summed_84 ?_
        refine lv_if_ne (tgt := 110) hx hb d_M_summed_85 (by decide) (fun c_27 => ?_) (fun c_27 => ?_)
        · refine lv_lload hx hb d_M_summed_110 (lv_at hl 2 rfl) ?_
          refine lv_lconst (v := 1) hx hb d_M_summed_112 (by decide) ?_
          refine lv_land hx hb d_M_summed_113 ?_
          refine lv_lconst (v := 1) hx hb d_M_summed_114 (by decide) ?_
          refine W.lcmp hx hb d_M_summed_115 ?_
          refine lv_if_ne (tgt := 123) hx hb d_M_summed_116 (by decide) (fun c_28 => ?_) (fun c_28 => ?_)
          · refine lv_iconst (v := 0) hx hb d_M_summed_123 (by decide) ?_
            refine lv_istore (lv' := [(16, .int 0), (14, .long x_26), (9, .long ((smI kh kl (sh ^^^ hh) (sl ^^^ ll) i).2.2.1)), (11, .long ((smI kh kl (sh ^^^ hh) (sl ^^^ ll) i).2.2.2)), (13, .int (nI i)), (7, .long (sl ^^^ ll)), (5, .long (sh ^^^ hh)), (0, .ref mo), (1, .long hh), (3, .long ll)]) hx hb d_M_summed_124 hl (by decide) rfl (fun ls hl => ?_)
            refine lv_lload hx hb d_M_summed_126 (lv_at hl 3 rfl) ?_
            refine lv_iconst (v := 1) hx hb d_M_summed_128 (by decide) ?_
            refine lv_lushr (v := uL ((smI kh kl (sh ^^^ hh) (sl ^^^ ll) i).2.2.2) 1) hx hb d_M_summed_129 rfl ?_
            refine lv_lload hx hb d_M_summed_130 (lv_at hl 2 rfl) ?_
            refine lv_bipush (v := 63) hx hb d_M_summed_132 (by decide) ?_
            refine lv_lshl (v := sL ((smI kh kl (sh ^^^ hh) (sl ^^^ ll) i).2.2.1) 63) hx hb d_M_summed_134 rfl ?_
            refine lv_lor hx hb d_M_summed_135 ?_
            refine lv_topl (fun x_29 ex_29 => ?_)
            refine lv_lstore (lv' := [(11, .long x_29), (16, .int 0), (14, .long x_26), (9, .long ((smI kh kl (sh ^^^ hh) (sl ^^^ ll) i).2.2.1)), (13, .int (nI i)), (7, .long (sl ^^^ ll)), (5, .long (sh ^^^ hh)), (0, .ref mo), (1, .long hh), (3, .long ll)]) hx hb d_M_summed_136 hl (by decide) rfl (fun ls hl => ?_)
            refine lv_lload hx hb d_M_summed_138 (lv_at hl 3 rfl) ?_
            refine lv_iconst (v := 1) hx hb d_M_summed_140 (by decide) ?_
            refine lv_lushr (v := uL ((smI kh kl (sh ^^^ hh) (sl ^^^ ll) i).2.2.1) 1) hx hb d_M_summed_141 rfl ?_
            refine lv_topl (fun x_30 ex_30 => ?_)
            refine lv_lstore (lv' := [(9, .long x_30), (11, .long x_29), (16, .int 0), (14, .long x_26), (13, .int (nI i)), (7, .long (sl ^^^ ll)), (5, .long (sh ^^^ hh)), (0, .ref mo), (1, .long hh), (3, .long ll)]) hx hb d_M_summed_142 hl (by decide) rfl (fun ls hl => ?_)
            refine lv_iload hx hb d_M_summed_144 (lv_at hl 2 rfl) ?_
            refine lv_if_eq (tgt := 157) hx hb d_M_summed_146 (by decide) (fun c_31 => ?_) (fun c_31 => absurd (sb_eqT (a := 0) (b := 0) rfl rfl (by omega) (by omega) (by omega)) c_31)
            refine lv_iinc (v := nI (i + 1)) (lv' := [(13, .int (nI (i + 1))), (9, .long x_30), (11, .long x_29), (16, .int 0), (14, .long x_26), (7, .long (sl ^^^ ll)), (5, .long (sh ^^^ hh)), (0, .ref mo), (1, .long hh), (3, .long ll)]) hx hb d_M_summed_157 hl (k := 4) rfl (sb_inc (a := i) (b := i + 1) (d := 1) rfl (by decide) (by omega)) (by decide) rfl (fun ls hl => ?_)
            refine lv_goto (tgt := 41) hx hb d_M_summed_160 (by decide) ?_
            subst ex_30
            subst ex_29
            subst ex_26
            have hE : (smI kh kl (sh ^^^ hh) (sl ^^^ ll) (i + 1)) = ((smI kh kl (sh ^^^ hh) (sl ^^^ ll) i).1, (smI kh kl (sh ^^^ hh) (sl ^^^ ll) i).2.1, (uL ((smI kh kl (sh ^^^ hh) (sl ^^^ ll) i).2.2.1) 1), ((uL ((smI kh kl (sh ^^^ hh) (sl ^^^ ll) i).2.2.2) 1) ||| (sL ((smI kh kl (sh ^^^ hh) (sl ^^^ ll) i).2.2.1) 63))) := (by show smS _ _ i (smI kh kl (sh ^^^ hh) (sl ^^^ ll) i) = _; simp only [smS, smBit, if_neg c_5, if_neg c_27, if_neg c_28])
            have ih' := ih1 (i + 1) (by omega)
            rw [hE] at ih'
            exact ih' _ _ ls (hP.sub [0] rfl) (hD.sub [0] (by decide) rfl) hS (lv_sub hl [1, 2, 0, 5, 6, 7, 8, 9] rfl)
          · refine lv_iconst (v := 1) hx hb d_M_summed_119 (by decide) ?_
            refine lv_goto (tgt := 124) hx hb d_M_summed_120 (by decide) ?_
            refine lv_istore (lv' := [(16, .int 1), (14, .long x_26), (9, .long ((smI kh kl (sh ^^^ hh) (sl ^^^ ll) i).2.2.1)), (11, .long ((smI kh kl (sh ^^^ hh) (sl ^^^ ll) i).2.2.2)), (13, .int (nI i)), (7, .long (sl ^^^ ll)), (5, .long (sh ^^^ hh)), (0, .ref mo), (1, .long hh), (3, .long ll)]) hx hb d_M_summed_124 hl (by decide) rfl (fun ls hl => ?_)
            refine lv_lload hx hb d_M_summed_126 (lv_at hl 3 rfl) ?_
            refine lv_iconst (v := 1) hx hb d_M_summed_128 (by decide) ?_
            refine lv_lushr (v := uL ((smI kh kl (sh ^^^ hh) (sl ^^^ ll) i).2.2.2) 1) hx hb d_M_summed_129 rfl ?_
            refine lv_lload hx hb d_M_summed_130 (lv_at hl 2 rfl) ?_
            refine lv_bipush (v := 63) hx hb d_M_summed_132 (by decide) ?_
            refine lv_lshl (v := sL ((smI kh kl (sh ^^^ hh) (sl ^^^ ll) i).2.2.1) 63) hx hb d_M_summed_134 rfl ?_
            refine lv_lor hx hb d_M_summed_135 ?_
            refine lv_topl (fun x_32 ex_32 => ?_)
            refine lv_lstore (lv' := [(11, .long x_32), (16, .int 1), (14, .long x_26), (9, .long ((smI kh kl (sh ^^^ hh) (sl ^^^ ll) i).2.2.1)), (13, .int (nI i)), (7, .long (sl ^^^ ll)), (5, .long (sh ^^^ hh)), (0, .ref mo), (1, .long hh), (3, .long ll)]) hx hb d_M_summed_136 hl (by decide) rfl (fun ls hl => ?_)
            refine lv_lload hx hb d_M_summed_138 (lv_at hl 3 rfl) ?_
            refine lv_iconst (v := 1) hx hb d_M_summed_140 (by decide) ?_
            refine lv_lushr (v := uL ((smI kh kl (sh ^^^ hh) (sl ^^^ ll) i).2.2.1) 1) hx hb d_M_summed_141 rfl ?_
            refine lv_topl (fun x_33 ex_33 => ?_)
            refine lv_lstore (lv' := [(9, .long x_33), (11, .long x_32), (16, .int 1), (14, .long x_26), (13, .int (nI i)), (7, .long (sl ^^^ ll)), (5, .long (sh ^^^ hh)), (0, .ref mo), (1, .long hh), (3, .long ll)]) hx hb d_M_summed_142 hl (by decide) rfl (fun ls hl => ?_)
            refine lv_iload hx hb d_M_summed_144 (lv_at hl 2 rfl) ?_
            refine lv_if_eq (tgt := 157) hx hb d_M_summed_146 (by decide) (fun c_34 => absurd c_34 (sb_eqF (a := 1) (b := 0) rfl rfl (by omega) (by omega) (by omega))) (fun c_34 => ?_)
            refine lv_lload hx hb d_M_summed_149 (lv_at hl 0 rfl) ?_
            refine lv_ldc2 (v := (-2233785415175766016)) hx hb hown (hts (.constantLong R_M 101 (-2233785415175766016)) (by decide +kernel)) d_M_summed_151 ?_
            refine lv_lxor hx hb d_M_summed_154 ?_
            refine lv_topl (fun x_35 ex_35 => ?_)
            refine lv_lstore (lv' := [(9, .long x_35), (11, .long x_32), (16, .int 1), (14, .long x_26), (13, .int (nI i)), (7, .long (sl ^^^ ll)), (5, .long (sh ^^^ hh)), (0, .ref mo), (1, .long hh), (3, .long ll)]) hx hb d_M_summed_155 hl (by decide) rfl (fun ls hl => ?_)
            refine lv_iinc (v := nI (i + 1)) (lv' := [(13, .int (nI (i + 1))), (9, .long x_35), (11, .long x_32), (16, .int 1), (14, .long x_26), (7, .long (sl ^^^ ll)), (5, .long (sh ^^^ hh)), (0, .ref mo), (1, .long hh), (3, .long ll)]) hx hb d_M_summed_157 hl (k := 4) rfl (sb_inc (a := i) (b := i + 1) (d := 1) rfl (by decide) (by omega)) (by decide) rfl (fun ls hl => ?_)
            refine lv_goto (tgt := 41) hx hb d_M_summed_160 (by decide) ?_
            subst ex_35
            subst ex_33
            subst ex_32
            subst ex_26
            have hE : (smI kh kl (sh ^^^ hh) (sl ^^^ ll) (i + 1)) = ((smI kh kl (sh ^^^ hh) (sl ^^^ ll) i).1, (smI kh kl (sh ^^^ hh) (sl ^^^ ll) i).2.1, ((uL ((smI kh kl (sh ^^^ hh) (sl ^^^ ll) i).2.2.1) 1) ^^^ (-2233785415175766016)), ((uL ((smI kh kl (sh ^^^ hh) (sl ^^^ ll) i).2.2.2) 1) ||| (sL ((smI kh kl (sh ^^^ hh) (sl ^^^ ll) i).2.2.1) 63))) := (by show smS _ _ i (smI kh kl (sh ^^^ hh) (sl ^^^ ll) i) = _; simp only [smS, smBit, if_neg c_5, if_neg c_27, if_pos c_28])
            have ih' := ih1 (i + 1) (by omega)
            rw [hE] at ih'
            exact ih' _ _ ls (hP.sub [0] rfl) (hD.sub [0] (by decide) rfl) hS (lv_sub hl [1, 2, 0, 5, 6, 7, 8, 9] rfl)
        · refine lv_aload_n hx hb d_M_summed_88 rfl (lv_at hl 6 rfl) ?_
          refine lv_dup hx hb d_M_summed_89 rfl ?_
          refine va_get (D := D) (ci := 7) (v := .long ((smI kh kl (sh ^^^ hh) (sl ^^^ ll) i).1)) (C := R_M) (T := F_M) (N := 35) hx hb hts in_M hown hG.1 hP 0 rfl rfl 24 (by decide) (hts _ k_721) (fun _ h9 => h9) rfl d_M_summed_90 ?_
          refine lv_lload hx hb d_M_summed_93 (lv_at hl 1 rfl) ?_
          refine lv_lxor hx hb d_M_summed_95 ?_
          refine lv_topl (fun x_36 ex_36 => ?_)
          refine va_put (D := D) (ci := 7) (v := .long x_36) (ty := .long) (C := R_M) (T := F_M) (N := 35) hx hb hts in_M tq_M tq_M_ok nq_M hown hG.1 hP hD hS 0 rfl rfl 24 (by decide) (hts _ k_721) (fun _ h9 => h9) rfl (by decide +kernel) rfl rfl (Nat.le_of_ble_eq_true rfl) d_M_summed_96 (fun H locs hP hD hS => ?_)
          have hP : va_P D vwCl [(mo, .inr (7, mFs thr a1 a2 a3 (nI lt) (nI lb) (nI lz) ci a4 a5 a6 nu bk se op fa a7 a8 a9 a10 a11 (nI rn) kh kl x_36 ((smI kh kl (sh ^^^ hh) (sl ^^^ ll) i).2.1) a12 a13 a14 a15 a16 a17 a18 a19 a20))] H := hP
          have hD : va_D A [(mo, .inr (7, mFs thr a1 a2 a3 (nI lt) (nI lb) (nI lz) ci a4 a5 a6 nu bk se op fa a7 a8 a9 a10 a11 (nI rn) kh kl x_36 ((smI kh kl (sh ^^^ hh) (sl ^^^ ll) i).2.1) a12 a13 a14 a15 a16 a17 a18 a19 a20))] := hD
          refine lv_aload_n hx hb d_M_summed_99 rfl (lv_at hl 6 rfl) ?_
          refine lv_dup hx hb d_M_summed_100 rfl ?_
          refine va_get (D := D) (ci := 7) (v := .long ((smI kh kl (sh ^^^ hh) (sl ^^^ ll) i).2.1)) (C := R_M) (T := F_M) (N := 35) hx hb hts in_M hown hG.1 hP 0 rfl rfl 25 (by decide) (hts _ k_722) (fun _ h9 => h9) rfl d_M_summed_101 ?_
          refine lv_lload hx hb d_M_summed_104 (lv_at hl 2 rfl) ?_
          refine lv_lxor hx hb d_M_summed_106 ?_
          refine lv_topl (fun x_37 ex_37 => ?_)
          refine va_put (D := D) (ci := 7) (v := .long x_37) (ty := .long) (C := R_M) (T := F_M) (N := 35) hx hb hts in_M tq_M tq_M_ok nq_M hown hG.1 hP hD hS 0 rfl rfl 25 (by decide) (hts _ k_722) (fun _ h9 => h9) rfl (by decide +kernel) rfl rfl (Nat.le_of_ble_eq_true rfl) d_M_summed_107 (fun H locs hP hD hS => ?_)
          have hP : va_P D vwCl [(mo, .inr (7, mFs thr a1 a2 a3 (nI lt) (nI lb) (nI lz) ci a4 a5 a6 nu bk se op fa a7 a8 a9 a10 a11 (nI rn) kh kl x_36 x_37 a12 a13 a14 a15 a16 a17 a18 a19 a20))] H := hP
          have hD : va_D A [(mo, .inr (7, mFs thr a1 a2 a3 (nI lt) (nI lb) (nI lz) ci a4 a5 a6 nu bk se op fa a7 a8 a9 a10 a11 (nI rn) kh kl x_36 x_37 a12 a13 a14 a15 a16 a17 a18 a19 a20))] := hD
          refine lv_lload hx hb d_M_summed_110 (lv_at hl 2 rfl) ?_
          refine lv_lconst (v := 1) hx hb d_M_summed_112 (by decide) ?_
          refine lv_land hx hb d_M_summed_113 ?_
          refine lv_lconst (v := 1) hx hb d_M_summed_114 (by decide) ?_
          refine W.lcmp hx hb d_M_summed_115 ?_
          refine lv_if_ne (tgt := 123) hx hb d_M_summed_116 (by decide) (fun c_38 => ?_) (fun c_38 => ?_)
          · refine lv_iconst (v := 0) hx hb d_M_summed_123 (by decide) ?_
            refine lv_istore (lv' := [(16, .int 0), (14, .long x_26), (9, .long ((smI kh kl (sh ^^^ hh) (sl ^^^ ll) i).2.2.1)), (11, .long ((smI kh kl (sh ^^^ hh) (sl ^^^ ll) i).2.2.2)), (13, .int (nI i)), (7, .long (sl ^^^ ll)), (5, .long (sh ^^^ hh)), (0, .ref mo), (1, .long hh), (3, .long ll)]) hx hb d_M_summed_124 hl (by decide) rfl (fun ls hl => ?_)
            refine lv_lload hx hb d_M_summed_126 (lv_at hl 3 rfl) ?_
            refine lv_iconst (v := 1) hx hb d_M_summed_128 (by decide) ?_
            refine lv_lushr (v := uL ((smI kh kl (sh ^^^ hh) (sl ^^^ ll) i).2.2.2) 1) hx hb d_M_summed_129 rfl ?_
            refine lv_lload hx hb d_M_summed_130 (lv_at hl 2 rfl) ?_
            refine lv_bipush (v := 63) hx hb d_M_summed_132 (by decide) ?_
            refine lv_lshl (v := sL ((smI kh kl (sh ^^^ hh) (sl ^^^ ll) i).2.2.1) 63) hx hb d_M_summed_134 rfl ?_
            refine lv_lor hx hb d_M_summed_135 ?_
            refine lv_topl (fun x_39 ex_39 => ?_)
            refine lv_lstore (lv' := [(11, .long x_39), (16, .int 0), (14, .long x_26), (9, .long ((smI kh kl (sh ^^^ hh) (sl ^^^ ll) i).2.2.1)), (13, .int (nI i)), (7, .long (sl ^^^ ll)), (5, .long (sh ^^^ hh)), (0, .ref mo), (1, .long hh), (3, .long ll)]) hx hb d_M_summed_136 hl (by decide) rfl (fun ls hl => ?_)
            refine lv_lload hx hb d_M_summed_138 (lv_at hl 3 rfl) ?_
            refine lv_iconst (v := 1) hx hb d_M_summed_140 (by decide) ?_
            refine lv_lushr (v := uL ((smI kh kl (sh ^^^ hh) (sl ^^^ ll) i).2.2.1) 1) hx hb d_M_summed_141 rfl ?_
            refine lv_topl (fun x_40 ex_40 => ?_)
            refine lv_lstore (lv' := [(9, .long x_40), (11, .long x_39), (16, .int 0), (14, .long x_26), (13, .int (nI i)), (7, .long (sl ^^^ ll)), (5, .long (sh ^^^ hh)), (0, .ref mo), (1, .long hh), (3, .long ll)]) hx hb d_M_summed_142 hl (by decide) rfl (fun ls hl => ?_)
            refine lv_iload hx hb d_M_summed_144 (lv_at hl 2 rfl) ?_
            refine lv_if_eq (tgt := 157) hx hb d_M_summed_146 (by decide) (fun c_41 => ?_) (fun c_41 => absurd (sb_eqT (a := 0) (b := 0) rfl rfl (by omega) (by omega) (by omega)) c_41)
            refine lv_iinc (v := nI (i + 1)) (lv' := [(13, .int (nI (i + 1))), (9, .long x_40), (11, .long x_39), (16, .int 0), (14, .long x_26), (7, .long (sl ^^^ ll)), (5, .long (sh ^^^ hh)), (0, .ref mo), (1, .long hh), (3, .long ll)]) hx hb d_M_summed_157 hl (k := 4) rfl (sb_inc (a := i) (b := i + 1) (d := 1) rfl (by decide) (by omega)) (by decide) rfl (fun ls hl => ?_)
            refine lv_goto (tgt := 41) hx hb d_M_summed_160 (by decide) ?_
            subst ex_40
            subst ex_39
            subst ex_37
            subst ex_36
            subst ex_26
            have hE : (smI kh kl (sh ^^^ hh) (sl ^^^ ll) (i + 1)) = ((((smI kh kl (sh ^^^ hh) (sl ^^^ ll) i).1) ^^^ ((smI kh kl (sh ^^^ hh) (sl ^^^ ll) i).2.2.1)), (((smI kh kl (sh ^^^ hh) (sl ^^^ ll) i).2.1) ^^^ ((smI kh kl (sh ^^^ hh) (sl ^^^ ll) i).2.2.2)), (uL ((smI kh kl (sh ^^^ hh) (sl ^^^ ll) i).2.2.1) 1), ((uL ((smI kh kl (sh ^^^ hh) (sl ^^^ ll) i).2.2.2) 1) ||| (sL ((smI kh kl (sh ^^^ hh) (sl ^^^ ll) i).2.2.1) 63))) := (by show smS _ _ i (smI kh kl (sh ^^^ hh) (sl ^^^ ll) i) = _; simp only [smS, smBit, if_neg c_5, if_pos c_27, if_neg c_38])
            have ih' := ih1 (i + 1) (by omega)
            rw [hE] at ih'
            exact ih' _ _ ls (hP.sub [0] rfl) (hD.sub [0] (by decide) rfl) hS (lv_sub hl [1, 2, 0, 5, 6, 7, 8, 9] rfl)
          · refine lv_iconst (v := 1) hx hb d_M_summed_119 (by decide) ?_
            refine lv_goto (tgt := 124) hx hb d_M_summed_120 (by decide) ?_
            refine lv_istore (lv' := [(16, .int 1), (14, .long x_26), (9, .long ((smI kh kl (sh ^^^ hh) (sl ^^^ ll) i).2.2.1)), (11, .long ((smI kh kl (sh ^^^ hh) (sl ^^^ ll) i).2.2.2)), (13, .int (nI i)), (7, .long (sl ^^^ ll)), (5, .long (sh ^^^ hh)), (0, .ref mo), (1, .long hh), (3, .long ll)]) hx hb d_M_summed_124 hl (by decide) rfl (fun ls hl => ?_)
            refine lv_lload hx hb d_M_summed_126 (lv_at hl 3 rfl) ?_
            refine lv_iconst (v := 1) hx hb d_M_summed_128 (by decide) ?_
            refine lv_lushr (v := uL ((smI kh kl (sh ^^^ hh) (sl ^^^ ll) i).2.2.2) 1) hx hb d_M_summed_129 rfl ?_
            refine lv_lload hx hb d_M_summed_130 (lv_at hl 2 rfl) ?_
            refine lv_bipush (v := 63) hx hb d_M_summed_132 (by decide) ?_
            refine lv_lshl (v := sL ((smI kh kl (sh ^^^ hh) (sl ^^^ ll) i).2.2.1) 63) hx hb d_M_summed_134 rfl ?_
            refine lv_lor hx hb d_M_summed_135 ?_
            refine lv_topl (fun x_42 ex_42 => ?_)
            refine lv_lstore (lv' := [(11, .long x_42), (16, .int 1), (14, .long x_26), (9, .long ((smI kh kl (sh ^^^ hh) (sl ^^^ ll) i).2.2.1)), (13, .int (nI i)), (7, .long (sl ^^^ ll)), (5, .long (sh ^^^ hh)), (0, .ref mo), (1, .long hh), (3, .long ll)]) hx hb d_M_summed_136 hl (by decide) rfl (fun ls hl => ?_)
            refine lv_lload hx hb d_M_summed_138 (lv_at hl 3 rfl) ?_
            refine lv_iconst (v := 1) hx hb d_M_summed_140 (by decide) ?_
            refine lv_lushr (v := uL ((smI kh kl (sh ^^^ hh) (sl ^^^ ll) i).2.2.1) 1) hx hb d_M_summed_141 rfl ?_
            refine lv_topl (fun x_43 ex_43 => ?_)
            refine lv_lstore (lv' := [(9, .long x_43), (11, .long x_42), (16, .int 1), (14, .long x_26), (13, .int (nI i)), (7, .long (sl ^^^ ll)), (5, .long (sh ^^^ hh)), (0, .ref mo), (1, .long hh), (3, .long ll)]) hx hb d_M_summed_142 hl (by decide) rfl (fun ls hl => ?_)
            refine lv_iload hx hb d_M_summed_144 (lv_at hl 2 rfl) ?_
            refine lv_if_eq (tgt := 157) hx hb d_M_summed_146 (by decide) (fun c_44 => absurd c_44 (sb_eqF (a := 1) (b := 0) rfl rfl (by omega) (by omega) (by omega))) (fun c_44 => ?_)
            refine lv_lload hx hb d_M_summed_149 (lv_at hl 0 rfl) ?_
            refine lv_ldc2 (v := (-2233785415175766016)) hx hb hown (hts (.constantLong R_M 101 (-2233785415175766016)) (by decide +kernel)) d_M_summed_151 ?_
            refine lv_lxor hx hb d_M_summed_154 ?_
            refine lv_topl (fun x_45 ex_45 => ?_)
            refine lv_lstore (lv' := [(9, .long x_45), (11, .long x_42), (16, .int 1), (14, .long x_26), (13, .int (nI i)), (7, .long (sl ^^^ ll)), (5, .long (sh ^^^ hh)), (0, .ref mo), (1, .long hh), (3, .long ll)]) hx hb d_M_summed_155 hl (by decide) rfl (fun ls hl => ?_)
            refine lv_iinc (v := nI (i + 1)) (lv' := [(13, .int (nI (i + 1))), (9, .long x_45), (11, .long x_42), (16, .int 1), (14, .long x_26), (7, .long (sl ^^^ ll)), (5, .long (sh ^^^ hh)), (0, .ref mo), (1, .long hh), (3, .long ll)]) hx hb d_M_summed_157 hl (k := 4) rfl (sb_inc (a := i) (b := i + 1) (d := 1) rfl (by decide) (by omega)) (by decide) rfl (fun ls hl => ?_)
            refine lv_goto (tgt := 41) hx hb d_M_summed_160 (by decide) ?_
            subst ex_45
            subst ex_43
            subst ex_42
            subst ex_37
            subst ex_36
            subst ex_26
            have hE : (smI kh kl (sh ^^^ hh) (sl ^^^ ll) (i + 1)) = ((((smI kh kl (sh ^^^ hh) (sl ^^^ ll) i).1) ^^^ ((smI kh kl (sh ^^^ hh) (sl ^^^ ll) i).2.2.1)), (((smI kh kl (sh ^^^ hh) (sl ^^^ ll) i).2.1) ^^^ ((smI kh kl (sh ^^^ hh) (sl ^^^ ll) i).2.2.2)), ((uL ((smI kh kl (sh ^^^ hh) (sl ^^^ ll) i).2.2.1) 1) ^^^ (-2233785415175766016)), ((uL ((smI kh kl (sh ^^^ hh) (sl ^^^ ll) i).2.2.2) 1) ||| (sL ((smI kh kl (sh ^^^ hh) (sl ^^^ ll) i).2.2.1) 63))) := (by show smS _ _ i (smI kh kl (sh ^^^ hh) (sl ^^^ ll) i) = _; simp only [smS, smBit, if_neg c_5, if_pos c_27, if_pos c_38])
            have ih' := ih1 (i + 1) (by omega)
            rw [hE] at ih'
            exact ih' _ _ ls (hP.sub [0] rfl) (hD.sub [0] (by decide) rfl) hS (lv_sub hl [1, 2, 0, 5, 6, 7, 8, 9] rfl)
  obtain rfl : x_2 = sl ^^^ ll := (by subst_vars; rfl)
  obtain rfl : x_1 = sh ^^^ hh := (by subst_vars; rfl)
  exact lp1 128 0 (by omega) _ _ ls (hP.sub [0] rfl) (hD.sub [0] (by decide) rfl) hS (lv_sub hl [2, 1, 0, 3, 4, 5, 6, 7] rfl)

theorem d_M_chacha_0 : decode b_M_chacha 0 = .ok (.aload_n 0, 1) := by decide +kernel
theorem d_M_chacha_1 : decode b_M_chacha 1 = .ok (.getfield 48, 3) := by decide +kernel
theorem d_M_chacha_4 : decode b_M_chacha 4 = .ok (.iconst 0, 1) := by decide +kernel
theorem d_M_chacha_5 : decode b_M_chacha 5 = .ok (.ldc 125, 2) := by decide +kernel
theorem d_M_chacha_7 : decode b_M_chacha 7 = .ok (.iastore, 1) := by decide +kernel
theorem d_M_chacha_8 : decode b_M_chacha 8 = .ok (.aload_n 0, 1) := by decide +kernel
theorem d_M_chacha_9 : decode b_M_chacha 9 = .ok (.getfield 48, 3) := by decide +kernel
theorem d_M_chacha_12 : decode b_M_chacha 12 = .ok (.iconst 1, 1) := by decide +kernel
theorem d_M_chacha_13 : decode b_M_chacha 13 = .ok (.ldc 126, 2) := by decide +kernel
theorem d_M_chacha_15 : decode b_M_chacha 15 = .ok (.iastore, 1) := by decide +kernel
theorem d_M_chacha_16 : decode b_M_chacha 16 = .ok (.aload_n 0, 1) := by decide +kernel
theorem d_M_chacha_17 : decode b_M_chacha 17 = .ok (.getfield 48, 3) := by decide +kernel
theorem d_M_chacha_20 : decode b_M_chacha 20 = .ok (.iconst 2, 1) := by decide +kernel
theorem d_M_chacha_21 : decode b_M_chacha 21 = .ok (.ldc 127, 2) := by decide +kernel
theorem d_M_chacha_23 : decode b_M_chacha 23 = .ok (.iastore, 1) := by decide +kernel
theorem d_M_chacha_24 : decode b_M_chacha 24 = .ok (.aload_n 0, 1) := by decide +kernel
theorem d_M_chacha_25 : decode b_M_chacha 25 = .ok (.getfield 48, 3) := by decide +kernel
theorem d_M_chacha_28 : decode b_M_chacha 28 = .ok (.iconst 3, 1) := by decide +kernel
theorem d_M_chacha_29 : decode b_M_chacha 29 = .ok (.ldc 128, 2) := by decide +kernel
theorem d_M_chacha_31 : decode b_M_chacha 31 = .ok (.iastore, 1) := by decide +kernel
theorem d_M_chacha_32 : decode b_M_chacha 32 = .ok (.iconst 0, 1) := by decide +kernel
theorem d_M_chacha_33 : decode b_M_chacha 33 = .ok (.istore_n 2, 1) := by decide +kernel
theorem d_M_chacha_34 : decode b_M_chacha 34 = .ok (.iload_n 2, 1) := by decide +kernel
theorem d_M_chacha_35 : decode b_M_chacha 35 = .ok (.bipush 8, 2) := by decide +kernel
theorem d_M_chacha_37 : decode b_M_chacha 37 = .ok (.if_icmp .ge 27, 3) := by decide +kernel
theorem d_M_chacha_40 : decode b_M_chacha 40 = .ok (.aload_n 0, 1) := by decide +kernel
theorem d_M_chacha_41 : decode b_M_chacha 41 = .ok (.getfield 48, 3) := by decide +kernel
theorem d_M_chacha_44 : decode b_M_chacha 44 = .ok (.iconst 4, 1) := by decide +kernel
theorem d_M_chacha_45 : decode b_M_chacha 45 = .ok (.iload_n 2, 1) := by decide +kernel
theorem d_M_chacha_46 : decode b_M_chacha 46 = .ok (.iadd, 1) := by decide +kernel
theorem d_M_chacha_47 : decode b_M_chacha 47 = .ok (.aload_n 0, 1) := by decide +kernel
theorem d_M_chacha_48 : decode b_M_chacha 48 = .ok (.getfield 24, 3) := by decide +kernel
theorem d_M_chacha_51 : decode b_M_chacha 51 = .ok (.iconst 4, 1) := by decide +kernel
theorem d_M_chacha_52 : decode b_M_chacha 52 = .ok (.iload_n 2, 1) := by decide +kernel
theorem d_M_chacha_53 : decode b_M_chacha 53 = .ok (.imul, 1) := by decide +kernel
theorem d_M_chacha_54 : decode b_M_chacha 54 = .ok (.invokestatic 129, 3) := by decide +kernel
theorem d_M_chacha_57 : decode b_M_chacha 57 = .ok (.iastore, 1) := by decide +kernel
theorem d_M_chacha_58 : decode b_M_chacha 58 = .ok (.iinc 2 1, 3) := by decide +kernel
theorem d_M_chacha_61 : decode b_M_chacha 61 = .ok (.goto (-27), 3) := by decide +kernel
theorem d_M_chacha_64 : decode b_M_chacha 64 = .ok (.aload_n 0, 1) := by decide +kernel
theorem d_M_chacha_65 : decode b_M_chacha 65 = .ok (.getfield 48, 3) := by decide +kernel
theorem d_M_chacha_68 : decode b_M_chacha 68 = .ok (.bipush 12, 2) := by decide +kernel
theorem d_M_chacha_70 : decode b_M_chacha 70 = .ok (.iload_n 1, 1) := by decide +kernel
theorem d_M_chacha_71 : decode b_M_chacha 71 = .ok (.iastore, 1) := by decide +kernel
theorem d_M_chacha_72 : decode b_M_chacha 72 = .ok (.iconst 0, 1) := by decide +kernel
theorem d_M_chacha_73 : decode b_M_chacha 73 = .ok (.istore_n 2, 1) := by decide +kernel
theorem d_M_chacha_74 : decode b_M_chacha 74 = .ok (.iload_n 2, 1) := by decide +kernel
theorem d_M_chacha_75 : decode b_M_chacha 75 = .ok (.iconst 3, 1) := by decide +kernel
theorem d_M_chacha_76 : decode b_M_chacha 76 = .ok (.if_icmp .ge 28, 3) := by decide +kernel
theorem d_M_chacha_79 : decode b_M_chacha 79 = .ok (.aload_n 0, 1) := by decide +kernel
theorem d_M_chacha_80 : decode b_M_chacha 80 = .ok (.getfield 48, 3) := by decide +kernel
theorem d_M_chacha_83 : decode b_M_chacha 83 = .ok (.bipush 13, 2) := by decide +kernel
theorem d_M_chacha_85 : decode b_M_chacha 85 = .ok (.iload_n 2, 1) := by decide +kernel
theorem d_M_chacha_86 : decode b_M_chacha 86 = .ok (.iadd, 1) := by decide +kernel
theorem d_M_chacha_87 : decode b_M_chacha 87 = .ok (.aload_n 0, 1) := by decide +kernel
theorem d_M_chacha_88 : decode b_M_chacha 88 = .ok (.getfield 30, 3) := by decide +kernel
theorem d_M_chacha_91 : decode b_M_chacha 91 = .ok (.iconst 4, 1) := by decide +kernel
theorem d_M_chacha_92 : decode b_M_chacha 92 = .ok (.iload_n 2, 1) := by decide +kernel
theorem d_M_chacha_93 : decode b_M_chacha 93 = .ok (.imul, 1) := by decide +kernel
theorem d_M_chacha_94 : decode b_M_chacha 94 = .ok (.invokestatic 129, 3) := by decide +kernel
theorem d_M_chacha_97 : decode b_M_chacha 97 = .ok (.iastore, 1) := by decide +kernel
theorem d_M_chacha_98 : decode b_M_chacha 98 = .ok (.iinc 2 1, 3) := by decide +kernel
theorem d_M_chacha_101 : decode b_M_chacha 101 = .ok (.goto (-27), 3) := by decide +kernel
theorem d_M_chacha_104 : decode b_M_chacha 104 = .ok (.iconst 0, 1) := by decide +kernel
theorem d_M_chacha_105 : decode b_M_chacha 105 = .ok (.istore_n 2, 1) := by decide +kernel
theorem d_M_chacha_106 : decode b_M_chacha 106 = .ok (.iload_n 2, 1) := by decide +kernel
theorem d_M_chacha_107 : decode b_M_chacha 107 = .ok (.bipush 16, 2) := by decide +kernel
theorem d_M_chacha_109 : decode b_M_chacha 109 = .ok (.if_icmp .ge 21, 3) := by decide +kernel
theorem d_M_chacha_112 : decode b_M_chacha 112 = .ok (.aload_n 0, 1) := by decide +kernel
theorem d_M_chacha_113 : decode b_M_chacha 113 = .ok (.getfield 51, 3) := by decide +kernel
theorem d_M_chacha_116 : decode b_M_chacha 116 = .ok (.iload_n 2, 1) := by decide +kernel
theorem d_M_chacha_117 : decode b_M_chacha 117 = .ok (.aload_n 0, 1) := by decide +kernel
theorem d_M_chacha_118 : decode b_M_chacha 118 = .ok (.getfield 48, 3) := by decide +kernel
theorem d_M_chacha_121 : decode b_M_chacha 121 = .ok (.iload_n 2, 1) := by decide +kernel
theorem d_M_chacha_122 : decode b_M_chacha 122 = .ok (.iaload, 1) := by decide +kernel
theorem d_M_chacha_123 : decode b_M_chacha 123 = .ok (.iastore, 1) := by decide +kernel
theorem d_M_chacha_124 : decode b_M_chacha 124 = .ok (.iinc 2 1, 3) := by decide +kernel
theorem d_M_chacha_127 : decode b_M_chacha 127 = .ok (.goto (-21), 3) := by decide +kernel
theorem d_M_chacha_130 : decode b_M_chacha 130 = .ok (.iconst 0, 1) := by decide +kernel
theorem d_M_chacha_131 : decode b_M_chacha 131 = .ok (.istore_n 2, 1) := by decide +kernel
theorem d_M_chacha_132 : decode b_M_chacha 132 = .ok (.iload_n 2, 1) := by decide +kernel
theorem d_M_chacha_133 : decode b_M_chacha 133 = .ok (.bipush 10, 2) := by decide +kernel
theorem d_M_chacha_135 : decode b_M_chacha 135 = .ok (.if_icmp .ge 79, 3) := by decide +kernel
theorem d_M_chacha_138 : decode b_M_chacha 138 = .ok (.iconst 0, 1) := by decide +kernel
theorem d_M_chacha_139 : decode b_M_chacha 139 = .ok (.istore_n 3, 1) := by decide +kernel
theorem d_M_chacha_140 : decode b_M_chacha 140 = .ok (.iload_n 3, 1) := by decide +kernel
theorem d_M_chacha_141 : decode b_M_chacha 141 = .ok (.iconst 4, 1) := by decide +kernel
theorem d_M_chacha_142 : decode b_M_chacha 142 = .ok (.if_icmp .ge 25, 3) := by decide +kernel
theorem d_M_chacha_145 : decode b_M_chacha 145 = .ok (.aload_n 0, 1) := by decide +kernel
theorem d_M_chacha_146 : decode b_M_chacha 146 = .ok (.iload_n 3, 1) := by decide +kernel
theorem d_M_chacha_147 : decode b_M_chacha 147 = .ok (.iconst 4, 1) := by decide +kernel
theorem d_M_chacha_148 : decode b_M_chacha 148 = .ok (.iload_n 3, 1) := by decide +kernel
theorem d_M_chacha_149 : decode b_M_chacha 149 = .ok (.iadd, 1) := by decide +kernel
theorem d_M_chacha_150 : decode b_M_chacha 150 = .ok (.bipush 8, 2) := by decide +kernel
theorem d_M_chacha_152 : decode b_M_chacha 152 = .ok (.iload_n 3, 1) := by decide +kernel
theorem d_M_chacha_153 : decode b_M_chacha 153 = .ok (.iadd, 1) := by decide +kernel
theorem d_M_chacha_154 : decode b_M_chacha 154 = .ok (.bipush 12, 2) := by decide +kernel
theorem d_M_chacha_156 : decode b_M_chacha 156 = .ok (.iload_n 3, 1) := by decide +kernel
theorem d_M_chacha_157 : decode b_M_chacha 157 = .ok (.iadd, 1) := by decide +kernel
theorem d_M_chacha_158 : decode b_M_chacha 158 = .ok (.invokevirtual 133, 3) := by decide +kernel
theorem d_M_chacha_161 : decode b_M_chacha 161 = .ok (.iinc 3 1, 3) := by decide +kernel
theorem d_M_chacha_164 : decode b_M_chacha 164 = .ok (.goto (-24), 3) := by decide +kernel
theorem d_M_chacha_167 : decode b_M_chacha 167 = .ok (.iconst 0, 1) := by decide +kernel
theorem d_M_chacha_168 : decode b_M_chacha 168 = .ok (.istore_n 3, 1) := by decide +kernel
theorem d_M_chacha_169 : decode b_M_chacha 169 = .ok (.iload_n 3, 1) := by decide +kernel
theorem d_M_chacha_170 : decode b_M_chacha 170 = .ok (.iconst 4, 1) := by decide +kernel
theorem d_M_chacha_171 : decode b_M_chacha 171 = .ok (.if_icmp .ge 37, 3) := by decide +kernel
theorem d_M_chacha_174 : decode b_M_chacha 174 = .ok (.aload_n 0, 1) := by decide +kernel
theorem d_M_chacha_175 : decode b_M_chacha 175 = .ok (.iload_n 3, 1) := by decide +kernel
theorem d_M_chacha_176 : decode b_M_chacha 176 = .ok (.iconst 4, 1) := by decide +kernel
theorem d_M_chacha_177 : decode b_M_chacha 177 = .ok (.iload_n 3, 1) := by decide +kernel
theorem d_M_chacha_178 : decode b_M_chacha 178 = .ok (.iconst 1, 1) := by decide +kernel
theorem d_M_chacha_179 : decode b_M_chacha 179 = .ok (.iadd, 1) := by decide +kernel
theorem d_M_chacha_180 : decode b_M_chacha 180 = .ok (.iconst 4, 1) := by decide +kernel
theorem d_M_chacha_181 : decode b_M_chacha 181 = .ok (.irem, 1) := by decide +kernel
theorem d_M_chacha_182 : decode b_M_chacha 182 = .ok (.iadd, 1) := by decide +kernel
theorem d_M_chacha_183 : decode b_M_chacha 183 = .ok (.bipush 8, 2) := by decide +kernel
theorem d_M_chacha_185 : decode b_M_chacha 185 = .ok (.iload_n 3, 1) := by decide +kernel
theorem d_M_chacha_186 : decode b_M_chacha 186 = .ok (.iconst 2, 1) := by decide +kernel
theorem d_M_chacha_187 : decode b_M_chacha 187 = .ok (.iadd, 1) := by decide +kernel
theorem d_M_chacha_188 : decode b_M_chacha 188 = .ok (.iconst 4, 1) := by decide +kernel
theorem d_M_chacha_189 : decode b_M_chacha 189 = .ok (.irem, 1) := by decide +kernel
theorem d_M_chacha_190 : decode b_M_chacha 190 = .ok (.iadd, 1) := by decide +kernel
theorem d_M_chacha_191 : decode b_M_chacha 191 = .ok (.bipush 12, 2) := by decide +kernel
theorem d_M_chacha_193 : decode b_M_chacha 193 = .ok (.iload_n 3, 1) := by decide +kernel
theorem d_M_chacha_194 : decode b_M_chacha 194 = .ok (.iconst 3, 1) := by decide +kernel
theorem d_M_chacha_195 : decode b_M_chacha 195 = .ok (.iadd, 1) := by decide +kernel
theorem d_M_chacha_196 : decode b_M_chacha 196 = .ok (.iconst 4, 1) := by decide +kernel
theorem d_M_chacha_197 : decode b_M_chacha 197 = .ok (.irem, 1) := by decide +kernel
theorem d_M_chacha_198 : decode b_M_chacha 198 = .ok (.iadd, 1) := by decide +kernel
theorem d_M_chacha_199 : decode b_M_chacha 199 = .ok (.invokevirtual 133, 3) := by decide +kernel
theorem d_M_chacha_202 : decode b_M_chacha 202 = .ok (.iinc 3 1, 3) := by decide +kernel
theorem d_M_chacha_205 : decode b_M_chacha 205 = .ok (.goto (-36), 3) := by decide +kernel
theorem d_M_chacha_208 : decode b_M_chacha 208 = .ok (.iinc 2 1, 3) := by decide +kernel
theorem d_M_chacha_211 : decode b_M_chacha 211 = .ok (.goto (-79), 3) := by decide +kernel
theorem d_M_chacha_214 : decode b_M_chacha 214 = .ok (.iconst 0, 1) := by decide +kernel
theorem d_M_chacha_215 : decode b_M_chacha 215 = .ok (.istore_n 2, 1) := by decide +kernel
theorem d_M_chacha_216 : decode b_M_chacha 216 = .ok (.iload_n 2, 1) := by decide +kernel
theorem d_M_chacha_217 : decode b_M_chacha 217 = .ok (.bipush 64, 2) := by decide +kernel
theorem d_M_chacha_219 : decode b_M_chacha 219 = .ok (.if_icmp .ge 43, 3) := by decide +kernel
theorem d_M_chacha_222 : decode b_M_chacha 222 = .ok (.aload_n 0, 1) := by decide +kernel
theorem d_M_chacha_223 : decode b_M_chacha 223 = .ok (.getfield 54, 3) := by decide +kernel
theorem d_M_chacha_226 : decode b_M_chacha 226 = .ok (.iload_n 2, 1) := by decide +kernel
theorem d_M_chacha_227 : decode b_M_chacha 227 = .ok (.aload_n 0, 1) := by decide +kernel
theorem d_M_chacha_228 : decode b_M_chacha 228 = .ok (.getfield 51, 3) := by decide +kernel
theorem d_M_chacha_231 : decode b_M_chacha 231 = .ok (.iload_n 2, 1) := by decide +kernel
theorem d_M_chacha_232 : decode b_M_chacha 232 = .ok (.iconst 4, 1) := by decide +kernel
theorem d_M_chacha_233 : decode b_M_chacha 233 = .ok (.idiv, 1) := by decide +kernel
theorem d_M_chacha_234 : decode b_M_chacha 234 = .ok (.iaload, 1) := by decide +kernel
theorem d_M_chacha_235 : decode b_M_chacha 235 = .ok (.aload_n 0, 1) := by decide +kernel
theorem d_M_chacha_236 : decode b_M_chacha 236 = .ok (.getfield 48, 3) := by decide +kernel
theorem d_M_chacha_239 : decode b_M_chacha 239 = .ok (.iload_n 2, 1) := by decide +kernel
theorem d_M_chacha_240 : decode b_M_chacha 240 = .ok (.iconst 4, 1) := by decide +kernel
theorem d_M_chacha_241 : decode b_M_chacha 241 = .ok (.idiv, 1) := by decide +kernel
theorem d_M_chacha_242 : decode b_M_chacha 242 = .ok (.iaload, 1) := by decide +kernel
theorem d_M_chacha_243 : decode b_M_chacha 243 = .ok (.iadd, 1) := by decide +kernel
theorem d_M_chacha_244 : decode b_M_chacha 244 = .ok (.bipush 8, 2) := by decide +kernel
theorem d_M_chacha_246 : decode b_M_chacha 246 = .ok (.iload_n 2, 1) := by decide +kernel
theorem d_M_chacha_247 : decode b_M_chacha 247 = .ok (.iconst 4, 1) := by decide +kernel
theorem d_M_chacha_248 : decode b_M_chacha 248 = .ok (.irem, 1) := by decide +kernel
theorem d_M_chacha_249 : decode b_M_chacha 249 = .ok (.imul, 1) := by decide +kernel
theorem d_M_chacha_250 : decode b_M_chacha 250 = .ok (.iushr, 1) := by decide +kernel
theorem d_M_chacha_251 : decode b_M_chacha 251 = .ok (.sipush 255, 3) := by decide +kernel
theorem d_M_chacha_254 : decode b_M_chacha 254 = .ok (.iand, 1) := by decide +kernel
theorem d_M_chacha_255 : decode b_M_chacha 255 = .ok (.iastore, 1) := by decide +kernel
theorem d_M_chacha_256 : decode b_M_chacha 256 = .ok (.iinc 2 1, 3) := by decide +kernel
theorem d_M_chacha_259 : decode b_M_chacha 259 = .ok (.goto (-43), 3) := by decide +kernel
theorem d_M_chacha_262 : decode b_M_chacha 262 = .ok (.return_, 1) := by decide +kernel

def rm_M_chacha : Room := { frames := 2, cells := 0, slots := 0, locals := 45 }
set_option maxHeartbeats 4000000 in
set_option maxRecDepth 100000 in
theorem c_M_chacha (l : Launch) (D : va_G) (cI cL cB : ClassId) (tS tF : Nat) (mo : Nat) (a1 : Nat) (a2 : Nat) (a3 : Nat) (a4 : Nat) (a5 : Nat) (a6 : Nat) (a7 : Nat) (a8 : Nat) (a9 : Nat) (a10 : Nat) (a11 : Nat) (a12 : Nat) (a13 : Nat) (a14 : Nat) (a15 : Nat) (a16 : Nat) (a17 : Nat) (a18 : Nat) (a19 : Nat) (a20 : Nat) (thr : Int32) (ci : Int32) (bk : Int32) (se : Int32) (op : Int32) (fa : Int32) (lt : Nat) (lb : Nat) (lz : Nat) (rn : Nat) (nu : Int64) (kh : Int64) (kl : Int64) (sh : Int64) (sl : Int64) (gk : Nat → Nat) (gn : Nat → Nat) (gu : Nat → Nat) (wd : Nat → Int32) (td : Nat → Int32) (n0 : Int32) (sz : Nat)  : Met l y_M_chacha (sbw y_M_chacha b_M_chacha 4 none) rm_M_chacha (sbPc D cI cL cB tS tF [.ref mo, .int n0] sz [(mo, .inr (7, mFs thr a1 a2 a3 (nI lt) (nI lb) (nI lz) ci a4 a5 a6 nu bk se op fa a7 a8 a9 a10 a11 (nI rn) kh kl sh sl a12 a13 a14 a15 a16 a17 a18 a19 a20)), (a4, .inl (cI, 32, .inl (nF gk))), (a6, .inl (cI, 12, .inl (nF gn))), (a12, .inl (cI, 16, .inl wd)), (a13, .inl (cI, 16, .inl td)), (a14, .inl (cI, 64, .inl (nF gu)))]) (sbQv D (fun (_ : Unit) => True) (fun (_ : Unit) => [(mo, .inr (7, mFs thr a1 a2 a3 (nI lt) (nI lb) (nI lz) ci a4 a5 a6 nu bk se op fa a7 a8 a9 a10 a11 (nI rn) kh kl sh sl a12 a13 a14 a15 a16 a17 a18 a19 a20)), (a4, .inl (cI, 32, .inl (nF gk))), (a6, .inl (cI, 12, .inl (nF gn))), (a12, .inl (cI, 16, .inl (cWord gk gn n0 wd))), (a13, .inl (cI, 16, .inl (cTurn (cWord gk gn n0 wd) td))), (a14, .inl (cI, 64, .inl (nF (cStrx (cWord gk gn n0 wd) (cTurn (cWord gk gn n0 wd) td) gu))))]) (va_A [(mo, .inr (7, mFs thr a1 a2 a3 (nI lt) (nI lb) (nI lz) ci a4 a5 a6 nu bk se op fa a7 a8 a9 a10 a11 (nI rn) kh kl sh sl a12 a13 a14 a15 a16 a17 a18 a19 a20)), (a4, .inl (cI, 32, .inl (nF gk))), (a6, .inl (cI, 12, .inl (nF gn))), (a12, .inl (cI, 16, .inl wd)), (a13, .inl (cI, 16, .inl td)), (a14, .inl (cI, 64, .inl (nF gu)))] sz)) 0 0 (va_A [(mo, .inr (7, mFs thr a1 a2 a3 (nI lt) (nI lb) (nI lz) ci a4 a5 a6 nu bk se op fa a7 a8 a9 a10 a11 (nI rn) kh kl sh sl a12 a13 a14 a15 a16 a17 a18 a19 a20)), (a4, .inl (cI, 32, .inl (nF gk))), (a6, .inl (cI, 12, .inl (nF gn))), (a12, .inl (cI, 16, .inl wd)), (a13, .inl (cI, 16, .inl td)), (a14, .inl (cI, 64, .inl (nF gu)))] sz) := by
  refine sb_ofW (y := y_M_chacha) (maxL := 4) (av := [.ref mo, .int n0]) (Qc := fun A => (sbQv D (fun (_ : Unit) => True) (fun (_ : Unit) => [(mo, .inr (7, mFs thr a1 a2 a3 (nI lt) (nI lb) (nI lz) ci a4 a5 a6 nu bk se op fa a7 a8 a9 a10 a11 (nI rn) kh kl sh sl a12 a13 a14 a15 a16 a17 a18 a19 a20)), (a4, .inl (cI, 32, .inl (nF gk))), (a6, .inl (cI, 12, .inl (nF gn))), (a12, .inl (cI, 16, .inl (cWord gk gn n0 wd))), (a13, .inl (cI, 16, .inl (cTurn (cWord gk gn n0 wd) td))), (a14, .inl (cI, 64, .inl (nF (cStrx (cWord gk gn n0 wd) (cTurn (cWord gk gn n0 wd) td) gu))))]) A)) (by decide) (Nat.le_of_ble_eq_true rfl) ?_
  intro p e s m args below meth c A ls hx hb hr hml hts hown hlocks hin hsz hP hG hD hA hS hl
  have hl : lv_has ls 4 [(0, .ref mo), (1, .int n0)] := hl
  refine lv_aload_n hx hb d_M_chacha_0 rfl (lv_at hl 0 rfl) ?_
  refine va_get (D := D) (ci := 7) (v := .ref a12) (C := R_M) (T := F_M) (N := 35) hx hb hts in_M hown hG.1 hP 0 rfl rfl 26 (by decide) (hts _ k_723) (fun _ h9 => h9) rfl d_M_chacha_1 ?_
  refine lv_iconst (v := 0) hx hb d_M_chacha_4 (by decide) ?_
  refine lv_ldc (v := 1634760805) hx hb hown (hts (.constant R_M 125 1634760805) (by decide +kernel)) d_M_chacha_5 ?_
  refine sb_ist hx hb hG.1 hP hD hS 3 rfl 0 rfl (by omega) (by omega) d_M_chacha_7 (fun f_1 H locs ef_1 hP hD hS => ?_)
  have hP : va_P D vwCl [(mo, .inr (7, mFs thr a1 a2 a3 (nI lt) (nI lb) (nI lz) ci a4 a5 a6 nu bk se op fa a7 a8 a9 a10 a11 (nI rn) kh kl sh sl a12 a13 a14 a15 a16 a17 a18 a19 a20)), (a4, .inl (cI, 32, .inl (nF gk))), (a6, .inl (cI, 12, .inl (nF gn))), (a12, .inl (cI, 16, .inl f_1)), (a13, .inl (cI, 16, .inl td)), (a14, .inl (cI, 64, .inl (nF gu)))] H := hP
  have hD : va_D A [(mo, .inr (7, mFs thr a1 a2 a3 (nI lt) (nI lb) (nI lz) ci a4 a5 a6 nu bk se op fa a7 a8 a9 a10 a11 (nI rn) kh kl sh sl a12 a13 a14 a15 a16 a17 a18 a19 a20)), (a4, .inl (cI, 32, .inl (nF gk))), (a6, .inl (cI, 12, .inl (nF gn))), (a12, .inl (cI, 16, .inl f_1)), (a13, .inl (cI, 16, .inl td)), (a14, .inl (cI, 64, .inl (nF gu)))] := hD
  obtain rfl : f_1 = upd wd 0 1634760805 := ef_1
  refine lv_aload_n hx hb d_M_chacha_8 rfl (lv_at hl 0 rfl) ?_
  refine va_get (D := D) (ci := 7) (v := .ref a12) (C := R_M) (T := F_M) (N := 35) hx hb hts in_M hown hG.1 hP 0 rfl rfl 26 (by decide) (hts _ k_723) (fun _ h9 => h9) rfl d_M_chacha_9 ?_
  refine lv_iconst (v := 1) hx hb d_M_chacha_12 (by decide) ?_
  refine lv_ldc (v := 857760878) hx hb hown (hts (.constant R_M 126 857760878) (by decide +kernel)) d_M_chacha_13 ?_
  refine sb_ist hx hb hG.1 hP hD hS 3 rfl 1 rfl (by omega) (by omega) d_M_chacha_15 (fun f_2 H locs ef_2 hP hD hS => ?_)
  have hP : va_P D vwCl [(mo, .inr (7, mFs thr a1 a2 a3 (nI lt) (nI lb) (nI lz) ci a4 a5 a6 nu bk se op fa a7 a8 a9 a10 a11 (nI rn) kh kl sh sl a12 a13 a14 a15 a16 a17 a18 a19 a20)), (a4, .inl (cI, 32, .inl (nF gk))), (a6, .inl (cI, 12, .inl (nF gn))), (a12, .inl (cI, 16, .inl f_2)), (a13, .inl (cI, 16, .inl td)), (a14, .inl (cI, 64, .inl (nF gu)))] H := hP
  have hD : va_D A [(mo, .inr (7, mFs thr a1 a2 a3 (nI lt) (nI lb) (nI lz) ci a4 a5 a6 nu bk se op fa a7 a8 a9 a10 a11 (nI rn) kh kl sh sl a12 a13 a14 a15 a16 a17 a18 a19 a20)), (a4, .inl (cI, 32, .inl (nF gk))), (a6, .inl (cI, 12, .inl (nF gn))), (a12, .inl (cI, 16, .inl f_2)), (a13, .inl (cI, 16, .inl td)), (a14, .inl (cI, 64, .inl (nF gu)))] := hD
  obtain rfl : f_2 = upd (upd wd 0 1634760805) 1 857760878 := ef_2
  refine lv_aload_n hx hb d_M_chacha_16 rfl (lv_at hl 0 rfl) ?_
  refine va_get (D := D) (ci := 7) (v := .ref a12) (C := R_M) (T := F_M) (N := 35) hx hb hts in_M hown hG.1 hP 0 rfl rfl 26 (by decide) (hts _ k_723) (fun _ h9 => h9) rfl d_M_chacha_17 ?_
  refine lv_iconst (v := 2) hx hb d_M_chacha_20 (by decide) ?_
  refine lv_ldc (v := 2036477234) hx hb hown (hts (.constant R_M 127 2036477234) (by decide +kernel)) d_M_chacha_21 ?_
  refine sb_ist hx hb hG.1 hP hD hS 3 rfl 2 rfl (by omega) (by omega) d_M_chacha_23 (fun f_3 H locs ef_3 hP hD hS => ?_)
  have hP : va_P D vwCl [(mo, .inr (7, mFs thr a1 a2 a3 (nI lt) (nI lb) (nI lz) ci a4 a5 a6 nu bk se op fa a7 a8 a9 a10 a11 (nI rn) kh kl sh sl a12 a13 a14 a15 a16 a17 a18 a19 a20)), (a4, .inl (cI, 32, .inl (nF gk))), (a6, .inl (cI, 12, .inl (nF gn))), (a12, .inl (cI, 16, .inl f_3)), (a13, .inl (cI, 16, .inl td)), (a14, .inl (cI, 64, .inl (nF gu)))] H := hP
  have hD : va_D A [(mo, .inr (7, mFs thr a1 a2 a3 (nI lt) (nI lb) (nI lz) ci a4 a5 a6 nu bk se op fa a7 a8 a9 a10 a11 (nI rn) kh kl sh sl a12 a13 a14 a15 a16 a17 a18 a19 a20)), (a4, .inl (cI, 32, .inl (nF gk))), (a6, .inl (cI, 12, .inl (nF gn))), (a12, .inl (cI, 16, .inl f_3)), (a13, .inl (cI, 16, .inl td)), (a14, .inl (cI, 64, .inl (nF gu)))] := hD
  obtain rfl : f_3 = upd (upd (upd wd 0 1634760805) 1 857760878) 2 2036477234 := ef_3
  refine lv_aload_n hx hb d_M_chacha_24 rfl (lv_at hl 0 rfl) ?_
  refine va_get (D := D) (ci := 7) (v := .ref a12) (C := R_M) (T := F_M) (N := 35) hx hb hts in_M hown hG.1 hP 0 rfl rfl 26 (by decide) (hts _ k_723) (fun _ h9 => h9) rfl d_M_chacha_25 ?_
  refine lv_iconst (v := 3) hx hb d_M_chacha_28 (by decide) ?_
  refine lv_ldc (v := 1797285236) hx hb hown (hts (.constant R_M 128 1797285236) (by decide +kernel)) d_M_chacha_29 ?_
  refine sb_ist hx hb hG.1 hP hD hS 3 rfl 3 rfl (by omega) (by omega) d_M_chacha_31 (fun f_4 H locs ef_4 hP hD hS => ?_)
  have hP : va_P D vwCl [(mo, .inr (7, mFs thr a1 a2 a3 (nI lt) (nI lb) (nI lz) ci a4 a5 a6 nu bk se op fa a7 a8 a9 a10 a11 (nI rn) kh kl sh sl a12 a13 a14 a15 a16 a17 a18 a19 a20)), (a4, .inl (cI, 32, .inl (nF gk))), (a6, .inl (cI, 12, .inl (nF gn))), (a12, .inl (cI, 16, .inl f_4)), (a13, .inl (cI, 16, .inl td)), (a14, .inl (cI, 64, .inl (nF gu)))] H := hP
  have hD : va_D A [(mo, .inr (7, mFs thr a1 a2 a3 (nI lt) (nI lb) (nI lz) ci a4 a5 a6 nu bk se op fa a7 a8 a9 a10 a11 (nI rn) kh kl sh sl a12 a13 a14 a15 a16 a17 a18 a19 a20)), (a4, .inl (cI, 32, .inl (nF gk))), (a6, .inl (cI, 12, .inl (nF gn))), (a12, .inl (cI, 16, .inl f_4)), (a13, .inl (cI, 16, .inl td)), (a14, .inl (cI, 64, .inl (nF gu)))] := hD
  obtain rfl : f_4 = upd (upd (upd (upd wd 0 1634760805) 1 857760878) 2 2036477234) 3 1797285236 := ef_4
  refine lv_iconst (v := 0) hx hb d_M_chacha_32 (by decide) ?_
  refine lv_istore_n (lv' := [(2, .int 0), (0, .ref mo), (1, .int n0)]) hx hb d_M_chacha_33 rfl hl (by decide) rfl (fun ls hl => ?_)
  have lp1 : ∀ (d1 i : Nat), i + d1 = 8 → ∀ (H : Heap) (locs : List Loc) (ls : Array Slot), va_P D vwCl [(mo, .inr (7, mFs thr a1 a2 a3 (nI lt) (nI lb) (nI lz) ci a4 a5 a6 nu bk se op fa a7 a8 a9 a10 a11 (nI rn) kh kl sh sl a12 a13 a14 a15 a16 a17 a18 a19 a20)), (a4, .inl (cI, 32, .inl (nF gk))), (a6, .inl (cI, 12, .inl (nF gn))), (a12, .inl (cI, 16, .inl (iter (cW1 gk) i (upd (upd (upd (upd wd 0 1634760805) 1 857760878) 2 2036477234) 3 1797285236)))), (a13, .inl (cI, 16, .inl td)), (a14, .inl (cI, 64, .inl (nF gu)))] H → va_D A [(mo, .inr (7, mFs thr a1 a2 a3 (nI lt) (nI lb) (nI lz) ci a4 a5 a6 nu bk se op fa a7 a8 a9 a10 a11 (nI rn) kh kl sh sl a12 a13 a14 a15 a16 a17 a18 a19 a20)), (a4, .inl (cI, 32, .inl (nF gk))), (a6, .inl (cI, 12, .inl (nF gn))), (a12, .inl (cI, 16, .inl (iter (cW1 gk) i (upd (upd (upd (upd wd 0 1634760805) 1 857760878) 2 2036477234) 3 1797285236)))), (a13, .inl (cI, 16, .inl td)), (a14, .inl (cI, 64, .inl (nF gu)))] → va_S A s.heap H locs → lv_has ls 4 [(2, .int (nI i)), (0, .ref mo), (1, .int n0)] → W p l e rm_M_chacha s m args below meth c H locs 0 0 (MQ below (sbQv D (fun (_ : Unit) => True) (fun (_ : Unit) => [(mo, .inr (7, mFs thr a1 a2 a3 (nI lt) (nI lb) (nI lz) ci a4 a5 a6 nu bk se op fa a7 a8 a9 a10 a11 (nI rn) kh kl sh sl a12 a13 a14 a15 a16 a17 a18 a19 a20)), (a4, .inl (cI, 32, .inl (nF gk))), (a6, .inl (cI, 12, .inl (nF gn))), (a12, .inl (cI, 16, .inl (cWord gk gn n0 wd))), (a13, .inl (cI, 16, .inl (cTurn (cWord gk gn n0 wd) td))), (a14, .inl (cI, 64, .inl (nF (cStrx (cWord gk gn n0 wd) (cTurn (cWord gk gn n0 wd) td) gu))))]) A) args s 0 0 A) (F0 m 34 ls []) := by
    intro d1
    induction d1 with
    | zero =>
      intro i hi1 H locs ls hP hD hS hl
      obtain rfl : 8 = i := by omega
      refine lv_iload_n hx hb d_M_chacha_34 rfl (lv_at hl 0 rfl) ?_
      refine lv_bipush (v := 8) hx hb d_M_chacha_35 (by decide) ?_
      refine lv_icmp_ge (tgt := 64) hx hb d_M_chacha_37 (by decide) (fun c_5 => ?_) (fun c_5 => absurd (sb_geT (a := 8) (b := 8) rfl rfl (by omega) (by omega) (by omega)) c_5)
      refine lv_aload_n hx hb d_M_chacha_64 rfl (lv_at hl 1 rfl) ?_
      refine va_get (D := D) (ci := 7) (v := .ref a12) (C := R_M) (T := F_M) (N := 35) hx hb hts in_M hown hG.1 hP 0 rfl rfl 26 (by decide) (hts _ k_723) (fun _ h9 => h9) rfl d_M_chacha_65 ?_
      refine lv_bipush (v := 12) hx hb d_M_chacha_68 (by decide) ?_
      refine lv_iload_n hx hb d_M_chacha_70 rfl (lv_at hl 2 rfl) ?_
      refine sb_ist hx hb hG.1 hP hD hS 3 rfl 12 rfl (by omega) (by omega) d_M_chacha_71 (fun f_6 H locs ef_6 hP hD hS => ?_)
      have hP : va_P D vwCl [(mo, .inr (7, mFs thr a1 a2 a3 (nI lt) (nI lb) (nI lz) ci a4 a5 a6 nu bk se op fa a7 a8 a9 a10 a11 (nI rn) kh kl sh sl a12 a13 a14 a15 a16 a17 a18 a19 a20)), (a4, .inl (cI, 32, .inl (nF gk))), (a6, .inl (cI, 12, .inl (nF gn))), (a12, .inl (cI, 16, .inl f_6)), (a13, .inl (cI, 16, .inl td)), (a14, .inl (cI, 64, .inl (nF gu)))] H := hP
      have hD : va_D A [(mo, .inr (7, mFs thr a1 a2 a3 (nI lt) (nI lb) (nI lz) ci a4 a5 a6 nu bk se op fa a7 a8 a9 a10 a11 (nI rn) kh kl sh sl a12 a13 a14 a15 a16 a17 a18 a19 a20)), (a4, .inl (cI, 32, .inl (nF gk))), (a6, .inl (cI, 12, .inl (nF gn))), (a12, .inl (cI, 16, .inl f_6)), (a13, .inl (cI, 16, .inl td)), (a14, .inl (cI, 64, .inl (nF gu)))] := hD
      obtain rfl : f_6 = upd (iter (cW1 gk) 8 (upd (upd (upd (upd wd 0 1634760805) 1 857760878) 2 2036477234) 3 1797285236)) 12 n0 := ef_6
      refine lv_iconst (v := 0) hx hb d_M_chacha_72 (by decide) ?_
      refine lv_istore_n (lv' := [(2, .int 0), (0, .ref mo), (1, .int n0)]) hx hb d_M_chacha_73 rfl hl (by decide) rfl (fun ls hl => ?_)
      have lp2 : ∀ (d2 i : Nat), i + d2 = 3 → ∀ (H : Heap) (locs : List Loc) (ls : Array Slot), va_P D vwCl [(mo, .inr (7, mFs thr a1 a2 a3 (nI lt) (nI lb) (nI lz) ci a4 a5 a6 nu bk se op fa a7 a8 a9 a10 a11 (nI rn) kh kl sh sl a12 a13 a14 a15 a16 a17 a18 a19 a20)), (a4, .inl (cI, 32, .inl (nF gk))), (a6, .inl (cI, 12, .inl (nF gn))), (a12, .inl (cI, 16, .inl (iter (cW2 gn) i (upd (iter (cW1 gk) 8 (upd (upd (upd (upd wd 0 1634760805) 1 857760878) 2 2036477234) 3 1797285236)) 12 n0)))), (a13, .inl (cI, 16, .inl td)), (a14, .inl (cI, 64, .inl (nF gu)))] H → va_D A [(mo, .inr (7, mFs thr a1 a2 a3 (nI lt) (nI lb) (nI lz) ci a4 a5 a6 nu bk se op fa a7 a8 a9 a10 a11 (nI rn) kh kl sh sl a12 a13 a14 a15 a16 a17 a18 a19 a20)), (a4, .inl (cI, 32, .inl (nF gk))), (a6, .inl (cI, 12, .inl (nF gn))), (a12, .inl (cI, 16, .inl (iter (cW2 gn) i (upd (iter (cW1 gk) 8 (upd (upd (upd (upd wd 0 1634760805) 1 857760878) 2 2036477234) 3 1797285236)) 12 n0)))), (a13, .inl (cI, 16, .inl td)), (a14, .inl (cI, 64, .inl (nF gu)))] → va_S A s.heap H locs → lv_has ls 4 [(2, .int (nI i)), (0, .ref mo), (1, .int n0)] → W p l e rm_M_chacha s m args below meth c H locs 0 0 (MQ below (sbQv D (fun (_ : Unit) => True) (fun (_ : Unit) => [(mo, .inr (7, mFs thr a1 a2 a3 (nI lt) (nI lb) (nI lz) ci a4 a5 a6 nu bk se op fa a7 a8 a9 a10 a11 (nI rn) kh kl sh sl a12 a13 a14 a15 a16 a17 a18 a19 a20)), (a4, .inl (cI, 32, .inl (nF gk))), (a6, .inl (cI, 12, .inl (nF gn))), (a12, .inl (cI, 16, .inl (cWord gk gn n0 wd))), (a13, .inl (cI, 16, .inl (cTurn (cWord gk gn n0 wd) td))), (a14, .inl (cI, 64, .inl (nF (cStrx (cWord gk gn n0 wd) (cTurn (cWord gk gn n0 wd) td) gu))))]) A) args s 0 0 A) (F0 m 74 ls []) := by
        intro d2
        induction d2 with
        | zero =>
          intro i hi2 H locs ls hP hD hS hl
          obtain rfl : 3 = i := by omega
          refine lv_iload_n hx hb d_M_chacha_74 rfl (lv_at hl 0 rfl) ?_
          refine lv_iconst (v := 3) hx hb d_M_chacha_75 (by decide) ?_
          refine lv_icmp_ge (tgt := 104) hx hb d_M_chacha_76 (by decide) (fun c_7 => ?_) (fun c_7 => absurd (sb_geT (a := 3) (b := 3) rfl rfl (by omega) (by omega) (by omega)) c_7)
          refine lv_iconst (v := 0) hx hb d_M_chacha_104 (by decide) ?_
          refine lv_istore_n (lv' := [(2, .int 0), (0, .ref mo), (1, .int n0)]) hx hb d_M_chacha_105 rfl hl (by decide) rfl (fun ls hl => ?_)
          have lp3 : ∀ (d3 i : Nat), i + d3 = 16 → ∀ (H : Heap) (locs : List Loc) (ls : Array Slot), va_P D vwCl [(mo, .inr (7, mFs thr a1 a2 a3 (nI lt) (nI lb) (nI lz) ci a4 a5 a6 nu bk se op fa a7 a8 a9 a10 a11 (nI rn) kh kl sh sl a12 a13 a14 a15 a16 a17 a18 a19 a20)), (a4, .inl (cI, 32, .inl (nF gk))), (a6, .inl (cI, 12, .inl (nF gn))), (a12, .inl (cI, 16, .inl (iter (cW2 gn) 3 (upd (iter (cW1 gk) 8 (upd (upd (upd (upd wd 0 1634760805) 1 857760878) 2 2036477234) 3 1797285236)) 12 n0)))), (a13, .inl (cI, 16, .inl (iter (cCpy (cWord gk gn n0 wd)) i td))), (a14, .inl (cI, 64, .inl (nF gu)))] H → va_D A [(mo, .inr (7, mFs thr a1 a2 a3 (nI lt) (nI lb) (nI lz) ci a4 a5 a6 nu bk se op fa a7 a8 a9 a10 a11 (nI rn) kh kl sh sl a12 a13 a14 a15 a16 a17 a18 a19 a20)), (a4, .inl (cI, 32, .inl (nF gk))), (a6, .inl (cI, 12, .inl (nF gn))), (a12, .inl (cI, 16, .inl (iter (cW2 gn) 3 (upd (iter (cW1 gk) 8 (upd (upd (upd (upd wd 0 1634760805) 1 857760878) 2 2036477234) 3 1797285236)) 12 n0)))), (a13, .inl (cI, 16, .inl (iter (cCpy (cWord gk gn n0 wd)) i td))), (a14, .inl (cI, 64, .inl (nF gu)))] → va_S A s.heap H locs → lv_has ls 4 [(2, .int (nI i)), (0, .ref mo), (1, .int n0)] → W p l e rm_M_chacha s m args below meth c H locs 0 0 (MQ below (sbQv D (fun (_ : Unit) => True) (fun (_ : Unit) => [(mo, .inr (7, mFs thr a1 a2 a3 (nI lt) (nI lb) (nI lz) ci a4 a5 a6 nu bk se op fa a7 a8 a9 a10 a11 (nI rn) kh kl sh sl a12 a13 a14 a15 a16 a17 a18 a19 a20)), (a4, .inl (cI, 32, .inl (nF gk))), (a6, .inl (cI, 12, .inl (nF gn))), (a12, .inl (cI, 16, .inl (cWord gk gn n0 wd))), (a13, .inl (cI, 16, .inl (cTurn (cWord gk gn n0 wd) td))), (a14, .inl (cI, 64, .inl (nF (cStrx (cWord gk gn n0 wd) (cTurn (cWord gk gn n0 wd) td) gu))))]) A) args s 0 0 A) (F0 m 106 ls []) := by
            intro d3
            induction d3 with
            | zero =>
              intro i hi3 H locs ls hP hD hS hl
              obtain rfl : 16 = i := by omega
              refine lv_iload_n hx hb d_M_chacha_106 rfl (lv_at hl 0 rfl) ?_
              refine lv_bipush (v := 16) hx hb d_M_chacha_107 (by decide) ?_
              refine lv_icmp_ge (tgt := 130) hx hb d_M_chacha_109 (by decide) (fun c_8 => ?_) (fun c_8 => absurd (sb_geT (a := 16) (b := 16) rfl rfl (by omega) (by omega) (by omega)) c_8)
              refine lv_iconst (v := 0) hx hb d_M_chacha_130 (by decide) ?_
              refine lv_istore_n (lv' := [(2, .int 0), (0, .ref mo), (1, .int n0)]) hx hb d_M_chacha_131 rfl hl (by decide) rfl (fun ls hl => ?_)
              have lp4 : ∀ (d4 i : Nat), i + d4 = 10 → ∀ (H : Heap) (locs : List Loc) (ls : Array Slot), va_P D vwCl [(mo, .inr (7, mFs thr a1 a2 a3 (nI lt) (nI lb) (nI lz) ci a4 a5 a6 nu bk se op fa a7 a8 a9 a10 a11 (nI rn) kh kl sh sl a12 a13 a14 a15 a16 a17 a18 a19 a20)), (a4, .inl (cI, 32, .inl (nF gk))), (a6, .inl (cI, 12, .inl (nF gn))), (a12, .inl (cI, 16, .inl (iter (cW2 gn) 3 (upd (iter (cW1 gk) 8 (upd (upd (upd (upd wd 0 1634760805) 1 857760878) 2 2036477234) 3 1797285236)) 12 n0)))), (a13, .inl (cI, 16, .inl (iter (fun _ g => crnd g) i (iter (cCpy (cWord gk gn n0 wd)) 16 td)))), (a14, .inl (cI, 64, .inl (nF gu)))] H → va_D A [(mo, .inr (7, mFs thr a1 a2 a3 (nI lt) (nI lb) (nI lz) ci a4 a5 a6 nu bk se op fa a7 a8 a9 a10 a11 (nI rn) kh kl sh sl a12 a13 a14 a15 a16 a17 a18 a19 a20)), (a4, .inl (cI, 32, .inl (nF gk))), (a6, .inl (cI, 12, .inl (nF gn))), (a12, .inl (cI, 16, .inl (iter (cW2 gn) 3 (upd (iter (cW1 gk) 8 (upd (upd (upd (upd wd 0 1634760805) 1 857760878) 2 2036477234) 3 1797285236)) 12 n0)))), (a13, .inl (cI, 16, .inl (iter (fun _ g => crnd g) i (iter (cCpy (cWord gk gn n0 wd)) 16 td)))), (a14, .inl (cI, 64, .inl (nF gu)))] → va_S A s.heap H locs → lv_has ls 4 [(2, .int (nI i)), (0, .ref mo), (1, .int n0)] → W p l e rm_M_chacha s m args below meth c H locs 0 0 (MQ below (sbQv D (fun (_ : Unit) => True) (fun (_ : Unit) => [(mo, .inr (7, mFs thr a1 a2 a3 (nI lt) (nI lb) (nI lz) ci a4 a5 a6 nu bk se op fa a7 a8 a9 a10 a11 (nI rn) kh kl sh sl a12 a13 a14 a15 a16 a17 a18 a19 a20)), (a4, .inl (cI, 32, .inl (nF gk))), (a6, .inl (cI, 12, .inl (nF gn))), (a12, .inl (cI, 16, .inl (cWord gk gn n0 wd))), (a13, .inl (cI, 16, .inl (cTurn (cWord gk gn n0 wd) td))), (a14, .inl (cI, 64, .inl (nF (cStrx (cWord gk gn n0 wd) (cTurn (cWord gk gn n0 wd) td) gu))))]) A) args s 0 0 A) (F0 m 132 ls []) := by
                intro d4
                induction d4 with
                | zero =>
                  intro i hi4 H locs ls hP hD hS hl
                  obtain rfl : 10 = i := by omega
                  refine lv_iload_n hx hb d_M_chacha_132 rfl (lv_at hl 0 rfl) ?_
                  refine lv_bipush (v := 10) hx hb d_M_chacha_133 (by decide) ?_
                  refine lv_icmp_ge (tgt := 214) hx hb d_M_chacha_135 (by decide) (fun c_9 => ?_) (fun c_9 => absurd (sb_geT (a := 10) (b := 10) rfl rfl (by omega) (by omega) (by omega)) c_9)
                  refine lv_iconst (v := 0) hx hb d_M_chacha_214 (by decide) ?_
                  refine lv_istore_n (lv' := [(2, .int 0), (0, .ref mo), (1, .int n0)]) hx hb d_M_chacha_215 rfl hl (by decide) rfl (fun ls hl => ?_)
                  have lp5 : ∀ (d5 i : Nat), i + d5 = 64 → ∀ (H : Heap) (locs : List Loc) (ls : Array Slot), va_P D vwCl [(mo, .inr (7, mFs thr a1 a2 a3 (nI lt) (nI lb) (nI lz) ci a4 a5 a6 nu bk se op fa a7 a8 a9 a10 a11 (nI rn) kh kl sh sl a12 a13 a14 a15 a16 a17 a18 a19 a20)), (a4, .inl (cI, 32, .inl (nF gk))), (a6, .inl (cI, 12, .inl (nF gn))), (a12, .inl (cI, 16, .inl (iter (cW2 gn) 3 (upd (iter (cW1 gk) 8 (upd (upd (upd (upd wd 0 1634760805) 1 857760878) 2 2036477234) 3 1797285236)) 12 n0)))), (a13, .inl (cI, 16, .inl (iter (fun _ g => crnd g) 10 (iter (cCpy (cWord gk gn n0 wd)) 16 td)))), (a14, .inl (cI, 64, .inl (nF (iter (cStr (cWord gk gn n0 wd) (cTurn (cWord gk gn n0 wd) td)) i gu))))] H → va_D A [(mo, .inr (7, mFs thr a1 a2 a3 (nI lt) (nI lb) (nI lz) ci a4 a5 a6 nu bk se op fa a7 a8 a9 a10 a11 (nI rn) kh kl sh sl a12 a13 a14 a15 a16 a17 a18 a19 a20)), (a4, .inl (cI, 32, .inl (nF gk))), (a6, .inl (cI, 12, .inl (nF gn))), (a12, .inl (cI, 16, .inl (iter (cW2 gn) 3 (upd (iter (cW1 gk) 8 (upd (upd (upd (upd wd 0 1634760805) 1 857760878) 2 2036477234) 3 1797285236)) 12 n0)))), (a13, .inl (cI, 16, .inl (iter (fun _ g => crnd g) 10 (iter (cCpy (cWord gk gn n0 wd)) 16 td)))), (a14, .inl (cI, 64, .inl (nF (iter (cStr (cWord gk gn n0 wd) (cTurn (cWord gk gn n0 wd) td)) i gu))))] → va_S A s.heap H locs → lv_has ls 4 [(2, .int (nI i)), (0, .ref mo), (1, .int n0)] → W p l e rm_M_chacha s m args below meth c H locs 0 0 (MQ below (sbQv D (fun (_ : Unit) => True) (fun (_ : Unit) => [(mo, .inr (7, mFs thr a1 a2 a3 (nI lt) (nI lb) (nI lz) ci a4 a5 a6 nu bk se op fa a7 a8 a9 a10 a11 (nI rn) kh kl sh sl a12 a13 a14 a15 a16 a17 a18 a19 a20)), (a4, .inl (cI, 32, .inl (nF gk))), (a6, .inl (cI, 12, .inl (nF gn))), (a12, .inl (cI, 16, .inl (cWord gk gn n0 wd))), (a13, .inl (cI, 16, .inl (cTurn (cWord gk gn n0 wd) td))), (a14, .inl (cI, 64, .inl (nF (cStrx (cWord gk gn n0 wd) (cTurn (cWord gk gn n0 wd) td) gu))))]) A) args s 0 0 A) (F0 m 216 ls []) := by
                    intro d5
                    induction d5 with
                    | zero =>
                      intro i hi5 H locs ls hP hD hS hl
                      obtain rfl : 64 = i := by omega
                      refine lv_iload_n hx hb d_M_chacha_216 rfl (lv_at hl 0 rfl) ?_
                      refine lv_bipush (v := 64) hx hb d_M_chacha_217 (by decide) ?_
                      refine lv_icmp_ge (tgt := 262) hx hb d_M_chacha_219 (by decide) (fun c_10 => ?_) (fun c_10 => absurd (sb_geT (a := 64) (b := 64) rfl rfl (by omega) (by omega) (by omega)) c_10)
                      have hP9 := hP.sub (ws' := [(mo, .inr (7, mFs thr a1 a2 a3 (nI lt) (nI lb) (nI lz) ci a4 a5 a6 nu bk se op fa a7 a8 a9 a10 a11 (nI rn) kh kl sh sl a12 a13 a14 a15 a16 a17 a18 a19 a20)), (a4, .inl (cI, 32, .inl (nF gk))), (a6, .inl (cI, 12, .inl (nF gn))), (a12, .inl (cI, 16, .inl (iter (cW2 gn) 3 (upd (iter (cW1 gk) 8 (upd (upd (upd (upd wd 0 1634760805) 1 857760878) 2 2036477234) 3 1797285236)) 12 n0)))), (a13, .inl (cI, 16, .inl (iter (fun _ g => crnd g) 10 (iter (cCpy (cWord gk gn n0 wd)) 16 td)))), (a14, .inl (cI, 64, .inl (nF (iter (cStr (cWord gk gn n0 wd) (cTurn (cWord gk gn n0 wd) td)) 64 gu))))]) [0, 1, 2, 3, 4, 5] rfl
                      have hD9 := hD.sub (ws' := [(mo, .inr (7, mFs thr a1 a2 a3 (nI lt) (nI lb) (nI lz) ci a4 a5 a6 nu bk se op fa a7 a8 a9 a10 a11 (nI rn) kh kl sh sl a12 a13 a14 a15 a16 a17 a18 a19 a20)), (a4, .inl (cI, 32, .inl (nF gk))), (a6, .inl (cI, 12, .inl (nF gn))), (a12, .inl (cI, 16, .inl (iter (cW2 gn) 3 (upd (iter (cW1 gk) 8 (upd (upd (upd (upd wd 0 1634760805) 1 857760878) 2 2036477234) 3 1797285236)) 12 n0)))), (a13, .inl (cI, 16, .inl (iter (fun _ g => crnd g) 10 (iter (cCpy (cWord gk gn n0 wd)) 16 td)))), (a14, .inl (cI, 64, .inl (nF (iter (cStr (cWord gk gn n0 wd) (cTurn (cWord gk gn n0 wd) td)) 64 gu))))]) [0, 1, 2, 3, 4, 5] (by decide) rfl
                      exact W.vret hx hb hr (fun t ht hW => ⟨⟨(), rfl, trivial, by rw [ht]; exact hP9, hD9⟩, hS.F ht⟩) hS.2.2 d_M_chacha_262
                    | succ d5 ih5 =>
                      intro i hi5 H locs ls hP hD hS hl
                      refine lv_iload_n hx hb d_M_chacha_216 rfl (lv_at hl 0 rfl) ?_
                      refine lv_bipush (v := 64) hx hb d_M_chacha_217 (by decide) ?_
                      refine lv_icmp_ge (tgt := 262) hx hb d_M_chacha_219 (by decide) (fun c_11 => absurd c_11 (sb_geF (a := i) (b := 64) rfl rfl (by omega) (by omega) (by omega))) (fun c_11 => ?_)
                      refine lv_aload_n hx hb d_M_chacha_222 rfl (lv_at hl 1 rfl) ?_
                      refine va_get (D := D) (ci := 7) (v := .ref a14) (C := R_M) (T := F_M) (N := 35) hx hb hts in_M hown hG.1 hP 0 rfl rfl 28 (by decide) (hts _ k_725) (fun _ h9 => h9) rfl d_M_chacha_223 ?_
                      refine lv_iload_n hx hb d_M_chacha_226 rfl (lv_at hl 0 rfl) ?_
                      refine lv_aload_n hx hb d_M_chacha_227 rfl (lv_at hl 1 rfl) ?_
                      refine va_get (D := D) (ci := 7) (v := .ref a13) (C := R_M) (T := F_M) (N := 35) hx hb hts in_M hown hG.1 hP 0 rfl rfl 27 (by decide) (hts _ k_724) (fun _ h9 => h9) rfl d_M_chacha_228 ?_
                      refine lv_iload_n hx hb d_M_chacha_231 rfl (lv_at hl 0 rfl) ?_
                      refine lv_iconst (v := 4) hx hb d_M_chacha_232 (by decide) ?_
                      refine lv_idiv hx hb d_M_chacha_233 (by decide) ?_
                      refine sb_topn (i / 4) (sb_div (a := i) (b := 4) (by omega) (by omega) (by omega) rfl rfl) ?_
                      refine sb_ild hx hb hG.1 hP 4 rfl (i / 4) rfl (by omega) (by omega) d_M_chacha_234 ?_
                      refine lv_aload_n hx hb d_M_chacha_235 rfl (lv_at hl 1 rfl) ?_
                      refine va_get (D := D) (ci := 7) (v := .ref a12) (C := R_M) (T := F_M) (N := 35) hx hb hts in_M hown hG.1 hP 0 rfl rfl 26 (by decide) (hts _ k_723) (fun _ h9 => h9) rfl d_M_chacha_236 ?_
                      refine lv_iload_n hx hb d_M_chacha_239 rfl (lv_at hl 0 rfl) ?_
                      refine lv_iconst (v := 4) hx hb d_M_chacha_240 (by decide) ?_
                      refine lv_idiv hx hb d_M_chacha_241 (by decide) ?_
                      refine sb_topn (i / 4) (sb_div (a := i) (b := 4) (by omega) (by omega) (by omega) rfl rfl) ?_
                      refine sb_ild hx hb hG.1 hP 3 rfl (i / 4) rfl (by omega) (by omega) d_M_chacha_242 ?_
                      refine lv_iadd hx hb d_M_chacha_243 ?_
                      refine lv_bipush (v := 8) hx hb d_M_chacha_244 (by decide) ?_
                      refine lv_iload_n hx hb d_M_chacha_246 rfl (lv_at hl 0 rfl) ?_
                      refine lv_iconst (v := 4) hx hb d_M_chacha_247 (by decide) ?_
                      refine lv_irem hx hb d_M_chacha_248 (by decide) ?_
                      refine sb_topn (i % 4) (sb_rem (a := i) (b := 4) (by omega) (by omega) (by omega) rfl rfl) ?_
                      refine lv_imul hx hb d_M_chacha_249 ?_
                      refine sb_topn (8 * (i % 4)) (sb_mul (a := 8) (b := i % 4) rfl rfl) ?_
                      refine lv_iushr (v := uS (((iter (fun _ g => crnd g) 10 (iter (cCpy (cWord gk gn n0 wd)) 16 td)) (i / 4)) + ((iter (cW2 gn) 3 (upd (iter (cW1 gk) 8 (upd (upd (upd (upd wd 0 1634760805) 1 857760878) 2 2036477234) 3 1797285236)) 12 n0)) (i / 4))) (nI (8 * (i % 4)))) hx hb d_M_chacha_250 rfl ?_
                      refine lv_sipush (v := 255) hx hb d_M_chacha_251 (by decide) ?_
                      refine lv_iand hx hb d_M_chacha_254 ?_
                      refine sb_topn (byI (((iter (fun _ g => crnd g) 10 (iter (cCpy (cWord gk gn n0 wd)) 16 td)) (i / 4)) + ((iter (cW2 gn) 3 (upd (iter (cW1 gk) 8 (upd (upd (upd (upd wd 0 1634760805) 1 857760878) 2 2036477234) 3 1797285236)) 12 n0)) (i / 4))) (8 * (i % 4))) (sb_by (x := ((iter (fun _ g => crnd g) 10 (iter (cCpy (cWord gk gn n0 wd)) 16 td)) (i / 4)) + ((iter (cW2 gn) 3 (upd (iter (cW1 gk) 8 (upd (upd (upd (upd wd 0 1634760805) 1 857760878) 2 2036477234) 3 1797285236)) 12 n0)) (i / 4))) (k := 8 * (i % 4)) rfl (by omega)) ?_
                      refine sb_topn (byI (((iter (fun _ g => crnd g) 10 (iter (cCpy (cWord gk gn n0 wd)) 16 td)) (i / 4)) + ((iter (cW2 gn) 3 (upd (iter (cW1 gk) 8 (upd (upd (upd (upd wd 0 1634760805) 1 857760878) 2 2036477234) 3 1797285236)) 12 n0)) (i / 4))) (8 * (i % 4))) rfl ?_
                      refine sb_ist hx hb hG.1 hP hD hS 5 rfl i rfl (by omega) (by omega) d_M_chacha_255 (fun f_12 H locs ef_12 hP hD hS => ?_)
                      have hP : va_P D vwCl [(mo, .inr (7, mFs thr a1 a2 a3 (nI lt) (nI lb) (nI lz) ci a4 a5 a6 nu bk se op fa a7 a8 a9 a10 a11 (nI rn) kh kl sh sl a12 a13 a14 a15 a16 a17 a18 a19 a20)), (a4, .inl (cI, 32, .inl (nF gk))), (a6, .inl (cI, 12, .inl (nF gn))), (a12, .inl (cI, 16, .inl (iter (cW2 gn) 3 (upd (iter (cW1 gk) 8 (upd (upd (upd (upd wd 0 1634760805) 1 857760878) 2 2036477234) 3 1797285236)) 12 n0)))), (a13, .inl (cI, 16, .inl (iter (fun _ g => crnd g) 10 (iter (cCpy (cWord gk gn n0 wd)) 16 td)))), (a14, .inl (cI, 64, .inl f_12))] H := hP
                      have hD : va_D A [(mo, .inr (7, mFs thr a1 a2 a3 (nI lt) (nI lb) (nI lz) ci a4 a5 a6 nu bk se op fa a7 a8 a9 a10 a11 (nI rn) kh kl sh sl a12 a13 a14 a15 a16 a17 a18 a19 a20)), (a4, .inl (cI, 32, .inl (nF gk))), (a6, .inl (cI, 12, .inl (nF gn))), (a12, .inl (cI, 16, .inl (iter (cW2 gn) 3 (upd (iter (cW1 gk) 8 (upd (upd (upd (upd wd 0 1634760805) 1 857760878) 2 2036477234) 3 1797285236)) 12 n0)))), (a13, .inl (cI, 16, .inl (iter (fun _ g => crnd g) 10 (iter (cCpy (cWord gk gn n0 wd)) 16 td)))), (a14, .inl (cI, 64, .inl f_12))] := hD
                      obtain rfl : f_12 = nF (updN (iter (cStr (cWord gk gn n0 wd) (cTurn (cWord gk gn n0 wd) td)) i gu) i (byI (((iter (fun _ g => crnd g) 10 (iter (cCpy (cWord gk gn n0 wd)) 16 td)) (i / 4)) + ((iter (cW2 gn) 3 (upd (iter (cW1 gk) 8 (upd (upd (upd (upd wd 0 1634760805) 1 857760878) 2 2036477234) 3 1797285236)) 12 n0)) (i / 4))) (8 * (i % 4)))) := ef_12.trans (nF_set _ _ _)
                      have hP : va_P D vwCl [(mo, .inr (7, mFs thr a1 a2 a3 (nI lt) (nI lb) (nI lz) ci a4 a5 a6 nu bk se op fa a7 a8 a9 a10 a11 (nI rn) kh kl sh sl a12 a13 a14 a15 a16 a17 a18 a19 a20)), (a4, .inl (cI, 32, .inl (nF gk))), (a6, .inl (cI, 12, .inl (nF gn))), (a12, .inl (cI, 16, .inl (iter (cW2 gn) 3 (upd (iter (cW1 gk) 8 (upd (upd (upd (upd wd 0 1634760805) 1 857760878) 2 2036477234) 3 1797285236)) 12 n0)))), (a13, .inl (cI, 16, .inl (iter (fun _ g => crnd g) 10 (iter (cCpy (cWord gk gn n0 wd)) 16 td)))), (a14, .inl (cI, 64, .inl (nF (updN (iter (cStr (cWord gk gn n0 wd) (cTurn (cWord gk gn n0 wd) td)) i gu) i (byI (((iter (fun _ g => crnd g) 10 (iter (cCpy (cWord gk gn n0 wd)) 16 td)) (i / 4)) + ((iter (cW2 gn) 3 (upd (iter (cW1 gk) 8 (upd (upd (upd (upd wd 0 1634760805) 1 857760878) 2 2036477234) 3 1797285236)) 12 n0)) (i / 4))) (8 * (i % 4)))))))] H := hP
                      have hD : va_D A [(mo, .inr (7, mFs thr a1 a2 a3 (nI lt) (nI lb) (nI lz) ci a4 a5 a6 nu bk se op fa a7 a8 a9 a10 a11 (nI rn) kh kl sh sl a12 a13 a14 a15 a16 a17 a18 a19 a20)), (a4, .inl (cI, 32, .inl (nF gk))), (a6, .inl (cI, 12, .inl (nF gn))), (a12, .inl (cI, 16, .inl (iter (cW2 gn) 3 (upd (iter (cW1 gk) 8 (upd (upd (upd (upd wd 0 1634760805) 1 857760878) 2 2036477234) 3 1797285236)) 12 n0)))), (a13, .inl (cI, 16, .inl (iter (fun _ g => crnd g) 10 (iter (cCpy (cWord gk gn n0 wd)) 16 td)))), (a14, .inl (cI, 64, .inl (nF (updN (iter (cStr (cWord gk gn n0 wd) (cTurn (cWord gk gn n0 wd) td)) i gu) i (byI (((iter (fun _ g => crnd g) 10 (iter (cCpy (cWord gk gn n0 wd)) 16 td)) (i / 4)) + ((iter (cW2 gn) 3 (upd (iter (cW1 gk) 8 (upd (upd (upd (upd wd 0 1634760805) 1 857760878) 2 2036477234) 3 1797285236)) 12 n0)) (i / 4))) (8 * (i % 4)))))))] := hD
                      refine lv_iinc (v := nI (i + 1)) (lv' := [(2, .int (nI (i + 1))), (0, .ref mo), (1, .int n0)]) hx hb d_M_chacha_256 hl (k := 0) rfl (sb_inc (a := i) (b := i + 1) (d := 1) rfl (by decide) (by omega)) (by decide) rfl (fun ls hl => ?_)
                      refine lv_goto (tgt := 216) hx hb d_M_chacha_259 (by decide) ?_
                      rw [show nF (updN (iter (cStr (cWord gk gn n0 wd) (cTurn (cWord gk gn n0 wd) td)) i gu) i (byI (((iter (fun _ g => crnd g) 10 (iter (cCpy (cWord gk gn n0 wd)) 16 td)) (i / 4)) + ((iter (cW2 gn) 3 (upd (iter (cW1 gk) 8 (upd (upd (upd (upd wd 0 1634760805) 1 857760878) 2 2036477234) 3 1797285236)) 12 n0)) (i / 4))) (8 * (i % 4)))) = nF (iter (cStr (cWord gk gn n0 wd) (cTurn (cWord gk gn n0 wd) td)) (i + 1) gu) from rfl] at hP hD
                      exact ih5 (i + 1) (by omega) _ _ ls (hP.sub [0, 1, 2, 3, 4, 5] rfl) (hD.sub [0, 1, 2, 3, 4, 5] (by decide) rfl) hS (lv_sub hl [0, 1, 2] rfl)
                  exact lp5 64 0 (by omega) _ _ ls (hP.sub [0, 1, 2, 3, 4, 5] rfl) (hD.sub [0, 1, 2, 3, 4, 5] (by decide) rfl) hS (lv_sub hl [0, 1, 2] rfl)
                | succ d4 ih4 =>
                  intro i hi4 H locs ls hP hD hS hl
                  refine lv_iload_n hx hb d_M_chacha_132 rfl (lv_at hl 0 rfl) ?_
                  refine lv_bipush (v := 10) hx hb d_M_chacha_133 (by decide) ?_
                  refine lv_icmp_ge (tgt := 214) hx hb d_M_chacha_135 (by decide) (fun c_13 => absurd c_13 (sb_geF (a := i) (b := 10) rfl rfl (by omega) (by omega) (by omega))) (fun c_13 => ?_)
                  refine lv_iconst (v := 0) hx hb d_M_chacha_138 (by decide) ?_
                  refine lv_istore_n (lv' := [(3, .int 0), (2, .int (nI i)), (0, .ref mo), (1, .int n0)]) hx hb d_M_chacha_139 rfl hl (by decide) rfl (fun ls hl => ?_)
                  refine lv_iload_n hx hb d_M_chacha_140 rfl (lv_at hl 0 rfl) ?_
                  refine lv_iconst (v := 4) hx hb d_M_chacha_141 (by decide) ?_
                  refine lv_icmp_ge (tgt := 167) hx hb d_M_chacha_142 (by decide) (fun c_14 => absurd c_14 (sb_geF (a := 0) (b := 4) rfl rfl (by omega) (by omega) (by omega))) (fun c_14 => ?_)
                  refine lv_aload_n hx hb d_M_chacha_145 rfl (lv_at hl 2 rfl) ?_
                  refine lv_iload_n hx hb d_M_chacha_146 rfl (lv_at hl 0 rfl) ?_
                  refine lv_iconst (v := 4) hx hb d_M_chacha_147 (by decide) ?_
                  refine lv_iload_n hx hb d_M_chacha_148 rfl (lv_at hl 0 rfl) ?_
                  refine lv_iadd hx hb d_M_chacha_149 ?_
                  refine sb_topn 4 (sb_eqn (a := 4 + 0) (b := 4) (nI_add 4 0) (by omega)) ?_
                  refine lv_bipush (v := 8) hx hb d_M_chacha_150 (by decide) ?_
                  refine lv_iload_n hx hb d_M_chacha_152 rfl (lv_at hl 0 rfl) ?_
                  refine lv_iadd hx hb d_M_chacha_153 ?_
                  refine sb_topn 8 (sb_eqn (a := 8 + 0) (b := 8) (nI_add 8 0) (by omega)) ?_
                  refine lv_bipush (v := 12) hx hb d_M_chacha_154 (by decide) ?_
                  refine lv_iload_n hx hb d_M_chacha_156 rfl (lv_at hl 0 rfl) ?_
                  refine lv_iadd hx hb d_M_chacha_157 ?_
                  refine sb_topn 12 (sb_eqn (a := 12 + 0) (b := 12) (nI_add 12 0) (by omega)) ?_
                  refine sb_callv (wr := [(a4, .inl (cI, 32, .inl (nF gk))), (a6, .inl (cI, 12, .inl (nF gn))), (a12, .inl (cI, 16, .inl (iter (cW2 gn) 3 (upd (iter (cW1 gk) 8 (upd (upd (upd (upd wd 0 1634760805) 1 857760878) 2 2036477234) 3 1797285236)) 12 n0)))), (a14, .inl (cI, 64, .inl (nF gu)))]) (va_runV (As := [.int 0, .int (nI 4), .int (nI 8), .int (nI 12)]) (rest := []) ⟨hx, hb, hml, hown, hts⟩ (c_M_quarter l D cI cL cB tS tF mo a1 a2 a3 a4 a5 a6 a7 a8 a9 a10 a11 a12 a13 a14 a15 a16 a17 a18 a19 a20 thr ci bk se op fa lt lb lz rn nu kh kl sh sl (iter (fun _ g => crnd g) i (iter (cCpy (cWord gk gn n0 wd)) 16 td)) 0 4 8 12 _ (by omega) (by omega) (by omega) (by omega)) (cwV 4 hts (sb_gV k_864 k_866 k_12 k_30 k_867) rfl rfl rfl (by decide +kernel) ⟨Nat.le_of_ble_eq_true rfl, Nat.le_of_ble_eq_true rfl⟩) (sb_pV hG hP hD hS hA [0, 4] (by decide) rfl (ci := 7) (q0 := 0) rfl rfl) rfl rfl hl.1 rfl (lv_room (Nat.le_of_ble_eq_true rfl)) d_M_chacha_158 ⟨Nat.le_of_ble_eq_true rfl, Nat.le_of_ble_eq_true rfl⟩) hP hD hS hA [0, 4] [1, 2, 3, 5] rfl rfl (by decide) (by decide) (fun u H locs hw_15 hP hD hS => ?_)
                  have hP : va_P D vwCl [(a4, .inl (cI, 32, .inl (nF gk))), (a6, .inl (cI, 12, .inl (nF gn))), (a12, .inl (cI, 16, .inl (iter (cW2 gn) 3 (upd (iter (cW1 gk) 8 (upd (upd (upd (upd wd 0 1634760805) 1 857760878) 2 2036477234) 3 1797285236)) 12 n0)))), (a14, .inl (cI, 64, .inl (nF gu))), (mo, .inr (7, mFs thr a1 a2 a3 (nI lt) (nI lb) (nI lz) ci a4 a5 a6 nu bk se op fa a7 a8 a9 a10 a11 (nI rn) kh kl sh sl a12 a13 a14 a15 a16 a17 a18 a19 a20)), (a13, .inl (cI, 16, .inl (cqr (iter (fun _ g => crnd g) i (iter (cCpy (cWord gk gn n0 wd)) 16 td)) 0 4 8 12)))] H := hP
                  have hD : va_D A [(a4, .inl (cI, 32, .inl (nF gk))), (a6, .inl (cI, 12, .inl (nF gn))), (a12, .inl (cI, 16, .inl (iter (cW2 gn) 3 (upd (iter (cW1 gk) 8 (upd (upd (upd (upd wd 0 1634760805) 1 857760878) 2 2036477234) 3 1797285236)) 12 n0)))), (a14, .inl (cI, 64, .inl (nF gu))), (mo, .inr (7, mFs thr a1 a2 a3 (nI lt) (nI lb) (nI lz) ci a4 a5 a6 nu bk se op fa a7 a8 a9 a10 a11 (nI rn) kh kl sh sl a12 a13 a14 a15 a16 a17 a18 a19 a20)), (a13, .inl (cI, 16, .inl (cqr (iter (fun _ g => crnd g) i (iter (cCpy (cWord gk gn n0 wd)) 16 td)) 0 4 8 12)))] := hD
                  refine lv_iinc (v := nI 1) (lv' := [(3, .int (nI 1)), (2, .int (nI i)), (0, .ref mo), (1, .int n0)]) hx hb d_M_chacha_161 hl (k := 0) rfl (sb_inc (a := 0) (b := 1) (d := 1) rfl (by decide) (by omega)) (by decide) rfl (fun ls hl => ?_)
                  refine lv_goto (tgt := 140) hx hb d_M_chacha_164 (by decide) ?_
                  refine lv_iload_n hx hb d_M_chacha_140 rfl (lv_at hl 0 rfl) ?_
                  refine lv_iconst (v := 4) hx hb d_M_chacha_141 (by decide) ?_
                  refine lv_icmp_ge (tgt := 167) hx hb d_M_chacha_142 (by decide) (fun c_16 => absurd c_16 (sb_geF (a := 1) (b := 4) rfl rfl (by omega) (by omega) (by omega))) (fun c_16 => ?_)
                  refine lv_aload_n hx hb d_M_chacha_145 rfl (lv_at hl 2 rfl) ?_
                  refine lv_iload_n hx hb d_M_chacha_146 rfl (lv_at hl 0 rfl) ?_
                  refine lv_iconst (v := 4) hx hb d_M_chacha_147 (by decide) ?_
                  refine lv_iload_n hx hb d_M_chacha_148 rfl (lv_at hl 0 rfl) ?_
                  refine lv_iadd hx hb d_M_chacha_149 ?_
                  refine sb_topn 5 (sb_eqn (a := 4 + 1) (b := 5) (nI_add 4 1) (by omega)) ?_
                  refine lv_bipush (v := 8) hx hb d_M_chacha_150 (by decide) ?_
                  refine lv_iload_n hx hb d_M_chacha_152 rfl (lv_at hl 0 rfl) ?_
                  refine lv_iadd hx hb d_M_chacha_153 ?_
                  refine sb_topn 9 (sb_eqn (a := 8 + 1) (b := 9) (nI_add 8 1) (by omega)) ?_
                  refine lv_bipush (v := 12) hx hb d_M_chacha_154 (by decide) ?_
                  refine lv_iload_n hx hb d_M_chacha_156 rfl (lv_at hl 0 rfl) ?_
                  refine lv_iadd hx hb d_M_chacha_157 ?_
                  refine sb_topn 13 (sb_eqn (a := 12 + 1) (b := 13) (nI_add 12 1) (by omega)) ?_
                  refine sb_callv (wr := [(a4, .inl (cI, 32, .inl (nF gk))), (a6, .inl (cI, 12, .inl (nF gn))), (a12, .inl (cI, 16, .inl (iter (cW2 gn) 3 (upd (iter (cW1 gk) 8 (upd (upd (upd (upd wd 0 1634760805) 1 857760878) 2 2036477234) 3 1797285236)) 12 n0)))), (a14, .inl (cI, 64, .inl (nF gu)))]) (va_runV (As := [.int (nI 1), .int (nI 5), .int (nI 9), .int (nI 13)]) (rest := []) ⟨hx, hb, hml, hown, hts⟩ (c_M_quarter l D cI cL cB tS tF mo a1 a2 a3 a4 a5 a6 a7 a8 a9 a10 a11 a12 a13 a14 a15 a16 a17 a18 a19 a20 thr ci bk se op fa lt lb lz rn nu kh kl sh sl (cqr (iter (fun _ g => crnd g) i (iter (cCpy (cWord gk gn n0 wd)) 16 td)) 0 4 8 12) 1 5 9 13 _ (by omega) (by omega) (by omega) (by omega)) (cwV 4 hts (sb_gV k_864 k_866 k_12 k_30 k_867) rfl rfl rfl (by decide +kernel) ⟨Nat.le_of_ble_eq_true rfl, Nat.le_of_ble_eq_true rfl⟩) (sb_pV hG hP hD hS hA [4, 5] (by decide) rfl (ci := 7) (q0 := 4) rfl rfl) rfl rfl hl.1 rfl (lv_room (Nat.le_of_ble_eq_true rfl)) d_M_chacha_158 ⟨Nat.le_of_ble_eq_true rfl, Nat.le_of_ble_eq_true rfl⟩) hP hD hS hA [4, 5] [0, 1, 2, 3] rfl rfl (by decide) (by decide) (fun u H locs hw_17 hP hD hS => ?_)
                  have hP : va_P D vwCl [(a4, .inl (cI, 32, .inl (nF gk))), (a6, .inl (cI, 12, .inl (nF gn))), (a12, .inl (cI, 16, .inl (iter (cW2 gn) 3 (upd (iter (cW1 gk) 8 (upd (upd (upd (upd wd 0 1634760805) 1 857760878) 2 2036477234) 3 1797285236)) 12 n0)))), (a14, .inl (cI, 64, .inl (nF gu))), (mo, .inr (7, mFs thr a1 a2 a3 (nI lt) (nI lb) (nI lz) ci a4 a5 a6 nu bk se op fa a7 a8 a9 a10 a11 (nI rn) kh kl sh sl a12 a13 a14 a15 a16 a17 a18 a19 a20)), (a13, .inl (cI, 16, .inl (cqr (cqr (iter (fun _ g => crnd g) i (iter (cCpy (cWord gk gn n0 wd)) 16 td)) 0 4 8 12) 1 5 9 13)))] H := hP
                  have hD : va_D A [(a4, .inl (cI, 32, .inl (nF gk))), (a6, .inl (cI, 12, .inl (nF gn))), (a12, .inl (cI, 16, .inl (iter (cW2 gn) 3 (upd (iter (cW1 gk) 8 (upd (upd (upd (upd wd 0 1634760805) 1 857760878) 2 2036477234) 3 1797285236)) 12 n0)))), (a14, .inl (cI, 64, .inl (nF gu))), (mo, .inr (7, mFs thr a1 a2 a3 (nI lt) (nI lb) (nI lz) ci a4 a5 a6 nu bk se op fa a7 a8 a9 a10 a11 (nI rn) kh kl sh sl a12 a13 a14 a15 a16 a17 a18 a19 a20)), (a13, .inl (cI, 16, .inl (cqr (cqr (iter (fun _ g => crnd g) i (iter (cCpy (cWord gk gn n0 wd)) 16 td)) 0 4 8 12) 1 5 9 13)))] := hD
                  refine lv_iinc (v := nI 2) (lv' := [(3, .int (nI 2)), (2, .int (nI i)), (0, .ref mo), (1, .int n0)]) hx hb d_M_chacha_161 hl (k := 0) rfl (sb_inc (a := 1) (b := 2) (d := 1) rfl (by decide) (by omega)) (by decide) rfl (fun ls hl => ?_)
                  refine lv_goto (tgt := 140) hx hb d_M_chacha_164 (by decide) ?_
                  refine lv_iload_n hx hb d_M_chacha_140 rfl (lv_at hl 0 rfl) ?_
                  refine lv_iconst (v := 4) hx hb d_M_chacha_141 (by decide) ?_
                  refine lv_icmp_ge (tgt := 167) hx hb d_M_chacha_142 (by decide) (fun c_18 => absurd c_18 (sb_geF (a := 2) (b := 4) rfl rfl (by omega) (by omega) (by omega))) (fun c_18 => ?_)
                  refine lv_aload_n hx hb d_M_chacha_145 rfl (lv_at hl 2 rfl) ?_
                  refine lv_iload_n hx hb d_M_chacha_146 rfl (lv_at hl 0 rfl) ?_
                  refine lv_iconst (v := 4) hx hb d_M_chacha_147 (by decide) ?_
                  refine lv_iload_n hx hb d_M_chacha_148 rfl (lv_at hl 0 rfl) ?_
                  refine lv_iadd hx hb d_M_chacha_149 ?_
                  refine sb_topn 6 (sb_eqn (a := 4 + 2) (b := 6) (nI_add 4 2) (by omega)) ?_
                  refine lv_bipush (v := 8) hx hb d_M_chacha_150 (by decide) ?_
                  refine lv_iload_n hx hb d_M_chacha_152 rfl (lv_at hl 0 rfl) ?_
                  refine lv_iadd hx hb d_M_chacha_153 ?_
                  refine sb_topn 10 (sb_eqn (a := 8 + 2) (b := 10) (nI_add 8 2) (by omega)) ?_
                  refine lv_bipush (v := 12) hx hb d_M_chacha_154 (by decide) ?_
                  refine lv_iload_n hx hb d_M_chacha_156 rfl (lv_at hl 0 rfl) ?_
                  refine lv_iadd hx hb d_M_chacha_157 ?_
                  refine sb_topn 14 (sb_eqn (a := 12 + 2) (b := 14) (nI_add 12 2) (by omega)) ?_
                  refine sb_callv (wr := [(a4, .inl (cI, 32, .inl (nF gk))), (a6, .inl (cI, 12, .inl (nF gn))), (a12, .inl (cI, 16, .inl (iter (cW2 gn) 3 (upd (iter (cW1 gk) 8 (upd (upd (upd (upd wd 0 1634760805) 1 857760878) 2 2036477234) 3 1797285236)) 12 n0)))), (a14, .inl (cI, 64, .inl (nF gu)))]) (va_runV (As := [.int (nI 2), .int (nI 6), .int (nI 10), .int (nI 14)]) (rest := []) ⟨hx, hb, hml, hown, hts⟩ (c_M_quarter l D cI cL cB tS tF mo a1 a2 a3 a4 a5 a6 a7 a8 a9 a10 a11 a12 a13 a14 a15 a16 a17 a18 a19 a20 thr ci bk se op fa lt lb lz rn nu kh kl sh sl (cqr (cqr (iter (fun _ g => crnd g) i (iter (cCpy (cWord gk gn n0 wd)) 16 td)) 0 4 8 12) 1 5 9 13) 2 6 10 14 _ (by omega) (by omega) (by omega) (by omega)) (cwV 4 hts (sb_gV k_864 k_866 k_12 k_30 k_867) rfl rfl rfl (by decide +kernel) ⟨Nat.le_of_ble_eq_true rfl, Nat.le_of_ble_eq_true rfl⟩) (sb_pV hG hP hD hS hA [4, 5] (by decide) rfl (ci := 7) (q0 := 4) rfl rfl) rfl rfl hl.1 rfl (lv_room (Nat.le_of_ble_eq_true rfl)) d_M_chacha_158 ⟨Nat.le_of_ble_eq_true rfl, Nat.le_of_ble_eq_true rfl⟩) hP hD hS hA [4, 5] [0, 1, 2, 3] rfl rfl (by decide) (by decide) (fun u H locs hw_19 hP hD hS => ?_)
                  have hP : va_P D vwCl [(a4, .inl (cI, 32, .inl (nF gk))), (a6, .inl (cI, 12, .inl (nF gn))), (a12, .inl (cI, 16, .inl (iter (cW2 gn) 3 (upd (iter (cW1 gk) 8 (upd (upd (upd (upd wd 0 1634760805) 1 857760878) 2 2036477234) 3 1797285236)) 12 n0)))), (a14, .inl (cI, 64, .inl (nF gu))), (mo, .inr (7, mFs thr a1 a2 a3 (nI lt) (nI lb) (nI lz) ci a4 a5 a6 nu bk se op fa a7 a8 a9 a10 a11 (nI rn) kh kl sh sl a12 a13 a14 a15 a16 a17 a18 a19 a20)), (a13, .inl (cI, 16, .inl (cqr (cqr (cqr (iter (fun _ g => crnd g) i (iter (cCpy (cWord gk gn n0 wd)) 16 td)) 0 4 8 12) 1 5 9 13) 2 6 10 14)))] H := hP
                  have hD : va_D A [(a4, .inl (cI, 32, .inl (nF gk))), (a6, .inl (cI, 12, .inl (nF gn))), (a12, .inl (cI, 16, .inl (iter (cW2 gn) 3 (upd (iter (cW1 gk) 8 (upd (upd (upd (upd wd 0 1634760805) 1 857760878) 2 2036477234) 3 1797285236)) 12 n0)))), (a14, .inl (cI, 64, .inl (nF gu))), (mo, .inr (7, mFs thr a1 a2 a3 (nI lt) (nI lb) (nI lz) ci a4 a5 a6 nu bk se op fa a7 a8 a9 a10 a11 (nI rn) kh kl sh sl a12 a13 a14 a15 a16 a17 a18 a19 a20)), (a13, .inl (cI, 16, .inl (cqr (cqr (cqr (iter (fun _ g => crnd g) i (iter (cCpy (cWord gk gn n0 wd)) 16 td)) 0 4 8 12) 1 5 9 13) 2 6 10 14)))] := hD
                  refine lv_iinc (v := nI 3) (lv' := [(3, .int (nI 3)), (2, .int (nI i)), (0, .ref mo), (1, .int n0)]) hx hb d_M_chacha_161 hl (k := 0) rfl (sb_inc (a := 2) (b := 3) (d := 1) rfl (by decide) (by omega)) (by decide) rfl (fun ls hl => ?_)
                  refine lv_goto (tgt := 140) hx hb d_M_chacha_164 (by decide) ?_
                  refine lv_iload_n hx hb d_M_chacha_140 rfl (lv_at hl 0 rfl) ?_
                  refine lv_iconst (v := 4) hx hb d_M_chacha_141 (by decide) ?_
                  refine lv_icmp_ge (tgt := 167) hx hb d_M_chacha_142 (by decide) (fun c_20 => absurd c_20 (sb_geF (a := 3) (b := 4) rfl rfl (by omega) (by omega) (by omega))) (fun c_20 => ?_)
                  refine lv_aload_n hx hb d_M_chacha_145 rfl (lv_at hl 2 rfl) ?_
                  refine lv_iload_n hx hb d_M_chacha_146 rfl (lv_at hl 0 rfl) ?_
                  refine lv_iconst (v := 4) hx hb d_M_chacha_147 (by decide) ?_
                  refine lv_iload_n hx hb d_M_chacha_148 rfl (lv_at hl 0 rfl) ?_
                  refine lv_iadd hx hb d_M_chacha_149 ?_
                  refine sb_topn 7 (sb_eqn (a := 4 + 3) (b := 7) (nI_add 4 3) (by omega)) ?_
                  refine lv_bipush (v := 8) hx hb d_M_chacha_150 (by decide) ?_
                  refine lv_iload_n hx hb d_M_chacha_152 rfl (lv_at hl 0 rfl) ?_
                  refine lv_iadd hx hb d_M_chacha_153 ?_
                  refine sb_topn 11 (sb_eqn (a := 8 + 3) (b := 11) (nI_add 8 3) (by omega)) ?_
                  refine lv_bipush (v := 12) hx hb d_M_chacha_154 (by decide) ?_
                  refine lv_iload_n hx hb d_M_chacha_156 rfl (lv_at hl 0 rfl) ?_
                  refine lv_iadd hx hb d_M_chacha_157 ?_
                  refine sb_topn 15 (sb_eqn (a := 12 + 3) (b := 15) (nI_add 12 3) (by omega)) ?_
                  refine sb_callv (wr := [(a4, .inl (cI, 32, .inl (nF gk))), (a6, .inl (cI, 12, .inl (nF gn))), (a12, .inl (cI, 16, .inl (iter (cW2 gn) 3 (upd (iter (cW1 gk) 8 (upd (upd (upd (upd wd 0 1634760805) 1 857760878) 2 2036477234) 3 1797285236)) 12 n0)))), (a14, .inl (cI, 64, .inl (nF gu)))]) (va_runV (As := [.int (nI 3), .int (nI 7), .int (nI 11), .int (nI 15)]) (rest := []) ⟨hx, hb, hml, hown, hts⟩ (c_M_quarter l D cI cL cB tS tF mo a1 a2 a3 a4 a5 a6 a7 a8 a9 a10 a11 a12 a13 a14 a15 a16 a17 a18 a19 a20 thr ci bk se op fa lt lb lz rn nu kh kl sh sl (cqr (cqr (cqr (iter (fun _ g => crnd g) i (iter (cCpy (cWord gk gn n0 wd)) 16 td)) 0 4 8 12) 1 5 9 13) 2 6 10 14) 3 7 11 15 _ (by omega) (by omega) (by omega) (by omega)) (cwV 4 hts (sb_gV k_864 k_866 k_12 k_30 k_867) rfl rfl rfl (by decide +kernel) ⟨Nat.le_of_ble_eq_true rfl, Nat.le_of_ble_eq_true rfl⟩) (sb_pV hG hP hD hS hA [4, 5] (by decide) rfl (ci := 7) (q0 := 4) rfl rfl) rfl rfl hl.1 rfl (lv_room (Nat.le_of_ble_eq_true rfl)) d_M_chacha_158 ⟨Nat.le_of_ble_eq_true rfl, Nat.le_of_ble_eq_true rfl⟩) hP hD hS hA [4, 5] [0, 1, 2, 3] rfl rfl (by decide) (by decide) (fun u H locs hw_21 hP hD hS => ?_)
                  have hP : va_P D vwCl [(a4, .inl (cI, 32, .inl (nF gk))), (a6, .inl (cI, 12, .inl (nF gn))), (a12, .inl (cI, 16, .inl (iter (cW2 gn) 3 (upd (iter (cW1 gk) 8 (upd (upd (upd (upd wd 0 1634760805) 1 857760878) 2 2036477234) 3 1797285236)) 12 n0)))), (a14, .inl (cI, 64, .inl (nF gu))), (mo, .inr (7, mFs thr a1 a2 a3 (nI lt) (nI lb) (nI lz) ci a4 a5 a6 nu bk se op fa a7 a8 a9 a10 a11 (nI rn) kh kl sh sl a12 a13 a14 a15 a16 a17 a18 a19 a20)), (a13, .inl (cI, 16, .inl (cqr (cqr (cqr (cqr (iter (fun _ g => crnd g) i (iter (cCpy (cWord gk gn n0 wd)) 16 td)) 0 4 8 12) 1 5 9 13) 2 6 10 14) 3 7 11 15)))] H := hP
                  have hD : va_D A [(a4, .inl (cI, 32, .inl (nF gk))), (a6, .inl (cI, 12, .inl (nF gn))), (a12, .inl (cI, 16, .inl (iter (cW2 gn) 3 (upd (iter (cW1 gk) 8 (upd (upd (upd (upd wd 0 1634760805) 1 857760878) 2 2036477234) 3 1797285236)) 12 n0)))), (a14, .inl (cI, 64, .inl (nF gu))), (mo, .inr (7, mFs thr a1 a2 a3 (nI lt) (nI lb) (nI lz) ci a4 a5 a6 nu bk se op fa a7 a8 a9 a10 a11 (nI rn) kh kl sh sl a12 a13 a14 a15 a16 a17 a18 a19 a20)), (a13, .inl (cI, 16, .inl (cqr (cqr (cqr (cqr (iter (fun _ g => crnd g) i (iter (cCpy (cWord gk gn n0 wd)) 16 td)) 0 4 8 12) 1 5 9 13) 2 6 10 14) 3 7 11 15)))] := hD
                  refine lv_iinc (v := nI 4) (lv' := [(3, .int (nI 4)), (2, .int (nI i)), (0, .ref mo), (1, .int n0)]) hx hb d_M_chacha_161 hl (k := 0) rfl (sb_inc (a := 3) (b := 4) (d := 1) rfl (by decide) (by omega)) (by decide) rfl (fun ls hl => ?_)
                  refine lv_goto (tgt := 140) hx hb d_M_chacha_164 (by decide) ?_
                  refine lv_iload_n hx hb d_M_chacha_140 rfl (lv_at hl 0 rfl) ?_
                  refine lv_iconst (v := 4) hx hb d_M_chacha_141 (by decide) ?_
                  refine lv_icmp_ge (tgt := 167) hx hb d_M_chacha_142 (by decide) (fun c_22 => ?_) (fun c_22 => absurd (sb_geT (a := 4) (b := 4) rfl rfl (by omega) (by omega) (by omega)) c_22)
                  refine lv_iconst (v := 0) hx hb d_M_chacha_167 (by decide) ?_
                  refine lv_istore_n (lv' := [(3, .int 0), (2, .int (nI i)), (0, .ref mo), (1, .int n0)]) hx hb d_M_chacha_168 rfl hl (by decide) rfl (fun ls hl => ?_)
                  refine lv_iload_n hx hb d_M_chacha_169 rfl (lv_at hl 0 rfl) ?_
                  refine lv_iconst (v := 4) hx hb d_M_chacha_170 (by decide) ?_
                  refine lv_icmp_ge (tgt := 208) hx hb d_M_chacha_171 (by decide) (fun c_23 => absurd c_23 (sb_geF (a := 0) (b := 4) rfl rfl (by omega) (by omega) (by omega))) (fun c_23 => ?_)
                  refine lv_aload_n hx hb d_M_chacha_174 rfl (lv_at hl 2 rfl) ?_
                  refine lv_iload_n hx hb d_M_chacha_175 rfl (lv_at hl 0 rfl) ?_
                  refine lv_iconst (v := 4) hx hb d_M_chacha_176 (by decide) ?_
                  refine lv_iload_n hx hb d_M_chacha_177 rfl (lv_at hl 0 rfl) ?_
                  refine lv_iconst (v := 1) hx hb d_M_chacha_178 (by decide) ?_
                  refine lv_iadd hx hb d_M_chacha_179 ?_
                  refine sb_topn 1 (sb_eqn (a := 0 + 1) (b := 1) (nI_add 0 1) (by omega)) ?_
                  refine lv_iconst (v := 4) hx hb d_M_chacha_180 (by decide) ?_
                  refine lv_irem hx hb d_M_chacha_181 (by decide) ?_
                  refine sb_topn 1 (sb_eqn (a := 1 % 4) (b := 1) (sb_rem (a := 1) (b := 4) (by omega) (by omega) (by omega) rfl rfl) (by omega)) ?_
                  refine lv_iadd hx hb d_M_chacha_182 ?_
                  refine sb_topn 5 (sb_eqn (a := 4 + 1) (b := 5) (nI_add 4 1) (by omega)) ?_
                  refine lv_bipush (v := 8) hx hb d_M_chacha_183 (by decide) ?_
                  refine lv_iload_n hx hb d_M_chacha_185 rfl (lv_at hl 0 rfl) ?_
                  refine lv_iconst (v := 2) hx hb d_M_chacha_186 (by decide) ?_
                  refine lv_iadd hx hb d_M_chacha_187 ?_
                  refine sb_topn 2 (sb_eqn (a := 0 + 2) (b := 2) (nI_add 0 2) (by omega)) ?_
                  refine lv_iconst (v := 4) hx hb d_M_chacha_188 (by decide) ?_
                  refine lv_irem hx hb d_M_chacha_189 (by decide) ?_
                  refine sb_topn 2 (sb_eqn (a := 2 % 4) (b := 2) (sb_rem (a := 2) (b := 4) (by omega) (by omega) (by omega) rfl rfl) (by omega)) ?_
                  refine lv_iadd hx hb d_M_chacha_190 ?_
                  refine sb_topn 10 (sb_eqn (a := 8 + 2) (b := 10) (nI_add 8 2) (by omega)) ?_
                  refine lv_bipush (v := 12) hx hb d_M_chacha_191 (by decide) ?_
                  refine lv_iload_n hx hb d_M_chacha_193 rfl (lv_at hl 0 rfl) ?_
                  refine lv_iconst (v := 3) hx hb d_M_chacha_194 (by decide) ?_
                  refine lv_iadd hx hb d_M_chacha_195 ?_
                  refine sb_topn 3 (sb_eqn (a := 0 + 3) (b := 3) (nI_add 0 3) (by omega)) ?_
                  refine lv_iconst (v := 4) hx hb d_M_chacha_196 (by decide) ?_
                  refine lv_irem hx hb d_M_chacha_197 (by decide) ?_
                  refine sb_topn 3 (sb_eqn (a := 3 % 4) (b := 3) (sb_rem (a := 3) (b := 4) (by omega) (by omega) (by omega) rfl rfl) (by omega)) ?_
                  refine lv_iadd hx hb d_M_chacha_198 ?_
                  refine sb_topn 15 (sb_eqn (a := 12 + 3) (b := 15) (nI_add 12 3) (by omega)) ?_
                  refine sb_callv (wr := [(a4, .inl (cI, 32, .inl (nF gk))), (a6, .inl (cI, 12, .inl (nF gn))), (a12, .inl (cI, 16, .inl (iter (cW2 gn) 3 (upd (iter (cW1 gk) 8 (upd (upd (upd (upd wd 0 1634760805) 1 857760878) 2 2036477234) 3 1797285236)) 12 n0)))), (a14, .inl (cI, 64, .inl (nF gu)))]) (va_runV (As := [.int 0, .int (nI 5), .int (nI 10), .int (nI 15)]) (rest := []) ⟨hx, hb, hml, hown, hts⟩ (c_M_quarter l D cI cL cB tS tF mo a1 a2 a3 a4 a5 a6 a7 a8 a9 a10 a11 a12 a13 a14 a15 a16 a17 a18 a19 a20 thr ci bk se op fa lt lb lz rn nu kh kl sh sl (cqr (cqr (cqr (cqr (iter (fun _ g => crnd g) i (iter (cCpy (cWord gk gn n0 wd)) 16 td)) 0 4 8 12) 1 5 9 13) 2 6 10 14) 3 7 11 15) 0 5 10 15 _ (by omega) (by omega) (by omega) (by omega)) (cwV 4 hts (sb_gV k_864 k_866 k_12 k_30 k_867) rfl rfl rfl (by decide +kernel) ⟨Nat.le_of_ble_eq_true rfl, Nat.le_of_ble_eq_true rfl⟩) (sb_pV hG hP hD hS hA [4, 5] (by decide) rfl (ci := 7) (q0 := 4) rfl rfl) rfl rfl hl.1 rfl (lv_room (Nat.le_of_ble_eq_true rfl)) d_M_chacha_199 ⟨Nat.le_of_ble_eq_true rfl, Nat.le_of_ble_eq_true rfl⟩) hP hD hS hA [4, 5] [0, 1, 2, 3] rfl rfl (by decide) (by decide) (fun u H locs hw_24 hP hD hS => ?_)
                  have hP : va_P D vwCl [(a4, .inl (cI, 32, .inl (nF gk))), (a6, .inl (cI, 12, .inl (nF gn))), (a12, .inl (cI, 16, .inl (iter (cW2 gn) 3 (upd (iter (cW1 gk) 8 (upd (upd (upd (upd wd 0 1634760805) 1 857760878) 2 2036477234) 3 1797285236)) 12 n0)))), (a14, .inl (cI, 64, .inl (nF gu))), (mo, .inr (7, mFs thr a1 a2 a3 (nI lt) (nI lb) (nI lz) ci a4 a5 a6 nu bk se op fa a7 a8 a9 a10 a11 (nI rn) kh kl sh sl a12 a13 a14 a15 a16 a17 a18 a19 a20)), (a13, .inl (cI, 16, .inl (cqr (cqr (cqr (cqr (cqr (iter (fun _ g => crnd g) i (iter (cCpy (cWord gk gn n0 wd)) 16 td)) 0 4 8 12) 1 5 9 13) 2 6 10 14) 3 7 11 15) 0 5 10 15)))] H := hP
                  have hD : va_D A [(a4, .inl (cI, 32, .inl (nF gk))), (a6, .inl (cI, 12, .inl (nF gn))), (a12, .inl (cI, 16, .inl (iter (cW2 gn) 3 (upd (iter (cW1 gk) 8 (upd (upd (upd (upd wd 0 1634760805) 1 857760878) 2 2036477234) 3 1797285236)) 12 n0)))), (a14, .inl (cI, 64, .inl (nF gu))), (mo, .inr (7, mFs thr a1 a2 a3 (nI lt) (nI lb) (nI lz) ci a4 a5 a6 nu bk se op fa a7 a8 a9 a10 a11 (nI rn) kh kl sh sl a12 a13 a14 a15 a16 a17 a18 a19 a20)), (a13, .inl (cI, 16, .inl (cqr (cqr (cqr (cqr (cqr (iter (fun _ g => crnd g) i (iter (cCpy (cWord gk gn n0 wd)) 16 td)) 0 4 8 12) 1 5 9 13) 2 6 10 14) 3 7 11 15) 0 5 10 15)))] := hD
                  refine lv_iinc (v := nI 1) (lv' := [(3, .int (nI 1)), (2, .int (nI i)), (0, .ref mo), (1, .int n0)]) hx hb d_M_chacha_202 hl (k := 0) rfl (sb_inc (a := 0) (b := 1) (d := 1) rfl (by decide) (by omega)) (by decide) rfl (fun ls hl => ?_)
                  refine lv_goto (tgt := 169) hx hb d_M_chacha_205 (by decide) ?_
                  refine lv_iload_n hx hb d_M_chacha_169 rfl (lv_at hl 0 rfl) ?_
                  refine lv_iconst (v := 4) hx hb d_M_chacha_170 (by decide) ?_
                  refine lv_icmp_ge (tgt := 208) hx hb d_M_chacha_171 (by decide) (fun c_25 => absurd c_25 (sb_geF (a := 1) (b := 4) rfl rfl (by omega) (by omega) (by omega))) (fun c_25 => ?_)
                  refine lv_aload_n hx hb d_M_chacha_174 rfl (lv_at hl 2 rfl) ?_
                  refine lv_iload_n hx hb d_M_chacha_175 rfl (lv_at hl 0 rfl) ?_
                  refine lv_iconst (v := 4) hx hb d_M_chacha_176 (by decide) ?_
                  refine lv_iload_n hx hb d_M_chacha_177 rfl (lv_at hl 0 rfl) ?_
                  refine lv_iconst (v := 1) hx hb d_M_chacha_178 (by decide) ?_
                  refine lv_iadd hx hb d_M_chacha_179 ?_
                  refine sb_topn 2 (sb_eqn (a := 1 + 1) (b := 2) (nI_add 1 1) (by omega)) ?_
                  refine lv_iconst (v := 4) hx hb d_M_chacha_180 (by decide) ?_
                  refine lv_irem hx hb d_M_chacha_181 (by decide) ?_
                  refine sb_topn 2 (sb_eqn (a := 2 % 4) (b := 2) (sb_rem (a := 2) (b := 4) (by omega) (by omega) (by omega) rfl rfl) (by omega)) ?_
                  refine lv_iadd hx hb d_M_chacha_182 ?_
                  refine sb_topn 6 (sb_eqn (a := 4 + 2) (b := 6) (nI_add 4 2) (by omega)) ?_
                  refine lv_bipush (v := 8) hx hb d_M_chacha_183 (by decide) ?_
                  refine lv_iload_n hx hb d_M_chacha_185 rfl (lv_at hl 0 rfl) ?_
                  refine lv_iconst (v := 2) hx hb d_M_chacha_186 (by decide) ?_
                  refine lv_iadd hx hb d_M_chacha_187 ?_
                  refine sb_topn 3 (sb_eqn (a := 1 + 2) (b := 3) (nI_add 1 2) (by omega)) ?_
                  refine lv_iconst (v := 4) hx hb d_M_chacha_188 (by decide) ?_
                  refine lv_irem hx hb d_M_chacha_189 (by decide) ?_
                  refine sb_topn 3 (sb_eqn (a := 3 % 4) (b := 3) (sb_rem (a := 3) (b := 4) (by omega) (by omega) (by omega) rfl rfl) (by omega)) ?_
                  refine lv_iadd hx hb d_M_chacha_190 ?_
                  refine sb_topn 11 (sb_eqn (a := 8 + 3) (b := 11) (nI_add 8 3) (by omega)) ?_
                  refine lv_bipush (v := 12) hx hb d_M_chacha_191 (by decide) ?_
                  refine lv_iload_n hx hb d_M_chacha_193 rfl (lv_at hl 0 rfl) ?_
                  refine lv_iconst (v := 3) hx hb d_M_chacha_194 (by decide) ?_
                  refine lv_iadd hx hb d_M_chacha_195 ?_
                  refine sb_topn 4 (sb_eqn (a := 1 + 3) (b := 4) (nI_add 1 3) (by omega)) ?_
                  refine lv_iconst (v := 4) hx hb d_M_chacha_196 (by decide) ?_
                  refine lv_irem hx hb d_M_chacha_197 (by decide) ?_
                  refine sb_topn 0 (sb_eqn (a := 4 % 4) (b := 0) (sb_rem (a := 4) (b := 4) (by omega) (by omega) (by omega) rfl rfl) (by omega)) ?_
                  refine lv_iadd hx hb d_M_chacha_198 ?_
                  refine sb_topn 12 (sb_eqn (a := 12 + 0) (b := 12) (nI_add 12 0) (by omega)) ?_
                  refine sb_callv (wr := [(a4, .inl (cI, 32, .inl (nF gk))), (a6, .inl (cI, 12, .inl (nF gn))), (a12, .inl (cI, 16, .inl (iter (cW2 gn) 3 (upd (iter (cW1 gk) 8 (upd (upd (upd (upd wd 0 1634760805) 1 857760878) 2 2036477234) 3 1797285236)) 12 n0)))), (a14, .inl (cI, 64, .inl (nF gu)))]) (va_runV (As := [.int (nI 1), .int (nI 6), .int (nI 11), .int (nI 12)]) (rest := []) ⟨hx, hb, hml, hown, hts⟩ (c_M_quarter l D cI cL cB tS tF mo a1 a2 a3 a4 a5 a6 a7 a8 a9 a10 a11 a12 a13 a14 a15 a16 a17 a18 a19 a20 thr ci bk se op fa lt lb lz rn nu kh kl sh sl (cqr (cqr (cqr (cqr (cqr (iter (fun _ g => crnd g) i (iter (cCpy (cWord gk gn n0 wd)) 16 td)) 0 4 8 12) 1 5 9 13) 2 6 10 14) 3 7 11 15) 0 5 10 15) 1 6 11 12 _ (by omega) (by omega) (by omega) (by omega)) (cwV 4 hts (sb_gV k_864 k_866 k_12 k_30 k_867) rfl rfl rfl (by decide +kernel) ⟨Nat.le_of_ble_eq_true rfl, Nat.le_of_ble_eq_true rfl⟩) (sb_pV hG hP hD hS hA [4, 5] (by decide) rfl (ci := 7) (q0 := 4) rfl rfl) rfl rfl hl.1 rfl (lv_room (Nat.le_of_ble_eq_true rfl)) d_M_chacha_199 ⟨Nat.le_of_ble_eq_true rfl, Nat.le_of_ble_eq_true rfl⟩) hP hD hS hA [4, 5] [0, 1, 2, 3] rfl rfl (by decide) (by decide) (fun u H locs hw_26 hP hD hS => ?_)
                  have hP : va_P D vwCl [(a4, .inl (cI, 32, .inl (nF gk))), (a6, .inl (cI, 12, .inl (nF gn))), (a12, .inl (cI, 16, .inl (iter (cW2 gn) 3 (upd (iter (cW1 gk) 8 (upd (upd (upd (upd wd 0 1634760805) 1 857760878) 2 2036477234) 3 1797285236)) 12 n0)))), (a14, .inl (cI, 64, .inl (nF gu))), (mo, .inr (7, mFs thr a1 a2 a3 (nI lt) (nI lb) (nI lz) ci a4 a5 a6 nu bk se op fa a7 a8 a9 a10 a11 (nI rn) kh kl sh sl a12 a13 a14 a15 a16 a17 a18 a19 a20)), (a13, .inl (cI, 16, .inl (cqr (cqr (cqr (cqr (cqr (cqr (iter (fun _ g => crnd g) i (iter (cCpy (cWord gk gn n0 wd)) 16 td)) 0 4 8 12) 1 5 9 13) 2 6 10 14) 3 7 11 15) 0 5 10 15) 1 6 11 12)))] H := hP
                  have hD : va_D A [(a4, .inl (cI, 32, .inl (nF gk))), (a6, .inl (cI, 12, .inl (nF gn))), (a12, .inl (cI, 16, .inl (iter (cW2 gn) 3 (upd (iter (cW1 gk) 8 (upd (upd (upd (upd wd 0 1634760805) 1 857760878) 2 2036477234) 3 1797285236)) 12 n0)))), (a14, .inl (cI, 64, .inl (nF gu))), (mo, .inr (7, mFs thr a1 a2 a3 (nI lt) (nI lb) (nI lz) ci a4 a5 a6 nu bk se op fa a7 a8 a9 a10 a11 (nI rn) kh kl sh sl a12 a13 a14 a15 a16 a17 a18 a19 a20)), (a13, .inl (cI, 16, .inl (cqr (cqr (cqr (cqr (cqr (cqr (iter (fun _ g => crnd g) i (iter (cCpy (cWord gk gn n0 wd)) 16 td)) 0 4 8 12) 1 5 9 13) 2 6 10 14) 3 7 11 15) 0 5 10 15) 1 6 11 12)))] := hD
                  refine lv_iinc (v := nI 2) (lv' := [(3, .int (nI 2)), (2, .int (nI i)), (0, .ref mo), (1, .int n0)]) hx hb d_M_chacha_202 hl (k := 0) rfl (sb_inc (a := 1) (b := 2) (d := 1) rfl (by decide) (by omega)) (by decide) rfl (fun ls hl => ?_)
                  refine lv_goto (tgt := 169) hx hb d_M_chacha_205 (by decide) ?_
                  refine lv_iload_n hx hb d_M_chacha_169 rfl (lv_at hl 0 rfl) ?_
                  refine lv_iconst (v := 4) hx hb d_M_chacha_170 (by decide) ?_
                  refine lv_icmp_ge (tgt := 208) hx hb d_M_chacha_171 (by decide) (fun c_27 => absurd c_27 (sb_geF (a := 2) (b := 4) rfl rfl (by omega) (by omega) (by omega))) (fun c_27 => ?_)
                  refine lv_aload_n hx hb d_M_chacha_174 rfl (lv_at hl 2 rfl) ?_
                  refine lv_iload_n hx hb d_M_chacha_175 rfl (lv_at hl 0 rfl) ?_
                  refine lv_iconst (v := 4) hx hb d_M_chacha_176 (by decide) ?_
                  refine lv_iload_n hx hb d_M_chacha_177 rfl (lv_at hl 0 rfl) ?_
                  refine lv_iconst (v := 1) hx hb d_M_chacha_178 (by decide) ?_
                  refine lv_iadd hx hb d_M_chacha_179 ?_
                  refine sb_topn 3 (sb_eqn (a := 2 + 1) (b := 3) (nI_add 2 1) (by omega)) ?_
                  refine lv_iconst (v := 4) hx hb d_M_chacha_180 (by decide) ?_
                  refine lv_irem hx hb d_M_chacha_181 (by decide) ?_
                  refine sb_topn 3 (sb_eqn (a := 3 % 4) (b := 3) (sb_rem (a := 3) (b := 4) (by omega) (by omega) (by omega) rfl rfl) (by omega)) ?_
                  refine lv_iadd hx hb d_M_chacha_182 ?_
                  refine sb_topn 7 (sb_eqn (a := 4 + 3) (b := 7) (nI_add 4 3) (by omega)) ?_
                  refine lv_bipush (v := 8) hx hb d_M_chacha_183 (by decide) ?_
                  refine lv_iload_n hx hb d_M_chacha_185 rfl (lv_at hl 0 rfl) ?_
                  refine lv_iconst (v := 2) hx hb d_M_chacha_186 (by decide) ?_
                  refine lv_iadd hx hb d_M_chacha_187 ?_
                  refine sb_topn 4 (sb_eqn (a := 2 + 2) (b := 4) (nI_add 2 2) (by omega)) ?_
                  refine lv_iconst (v := 4) hx hb d_M_chacha_188 (by decide) ?_
                  refine lv_irem hx hb d_M_chacha_189 (by decide) ?_
                  refine sb_topn 0 (sb_eqn (a := 4 % 4) (b := 0) (sb_rem (a := 4) (b := 4) (by omega) (by omega) (by omega) rfl rfl) (by omega)) ?_
                  refine lv_iadd hx hb d_M_chacha_190 ?_
                  refine sb_topn 8 (sb_eqn (a := 8 + 0) (b := 8) (nI_add 8 0) (by omega)) ?_
                  refine lv_bipush (v := 12) hx hb d_M_chacha_191 (by decide) ?_
                  refine lv_iload_n hx hb d_M_chacha_193 rfl (lv_at hl 0 rfl) ?_
                  refine lv_iconst (v := 3) hx hb d_M_chacha_194 (by decide) ?_
                  refine lv_iadd hx hb d_M_chacha_195 ?_
                  refine sb_topn 5 (sb_eqn (a := 2 + 3) (b := 5) (nI_add 2 3) (by omega)) ?_
                  refine lv_iconst (v := 4) hx hb d_M_chacha_196 (by decide) ?_
                  refine lv_irem hx hb d_M_chacha_197 (by decide) ?_
                  refine sb_topn 1 (sb_eqn (a := 5 % 4) (b := 1) (sb_rem (a := 5) (b := 4) (by omega) (by omega) (by omega) rfl rfl) (by omega)) ?_
                  refine lv_iadd hx hb d_M_chacha_198 ?_
                  refine sb_topn 13 (sb_eqn (a := 12 + 1) (b := 13) (nI_add 12 1) (by omega)) ?_
                  refine sb_callv (wr := [(a4, .inl (cI, 32, .inl (nF gk))), (a6, .inl (cI, 12, .inl (nF gn))), (a12, .inl (cI, 16, .inl (iter (cW2 gn) 3 (upd (iter (cW1 gk) 8 (upd (upd (upd (upd wd 0 1634760805) 1 857760878) 2 2036477234) 3 1797285236)) 12 n0)))), (a14, .inl (cI, 64, .inl (nF gu)))]) (va_runV (As := [.int (nI 2), .int (nI 7), .int (nI 8), .int (nI 13)]) (rest := []) ⟨hx, hb, hml, hown, hts⟩ (c_M_quarter l D cI cL cB tS tF mo a1 a2 a3 a4 a5 a6 a7 a8 a9 a10 a11 a12 a13 a14 a15 a16 a17 a18 a19 a20 thr ci bk se op fa lt lb lz rn nu kh kl sh sl (cqr (cqr (cqr (cqr (cqr (cqr (iter (fun _ g => crnd g) i (iter (cCpy (cWord gk gn n0 wd)) 16 td)) 0 4 8 12) 1 5 9 13) 2 6 10 14) 3 7 11 15) 0 5 10 15) 1 6 11 12) 2 7 8 13 _ (by omega) (by omega) (by omega) (by omega)) (cwV 4 hts (sb_gV k_864 k_866 k_12 k_30 k_867) rfl rfl rfl (by decide +kernel) ⟨Nat.le_of_ble_eq_true rfl, Nat.le_of_ble_eq_true rfl⟩) (sb_pV hG hP hD hS hA [4, 5] (by decide) rfl (ci := 7) (q0 := 4) rfl rfl) rfl rfl hl.1 rfl (lv_room (Nat.le_of_ble_eq_true rfl)) d_M_chacha_199 ⟨Nat.le_of_ble_eq_true rfl, Nat.le_of_ble_eq_true rfl⟩) hP hD hS hA [4, 5] [0, 1, 2, 3] rfl rfl (by decide) (by decide) (fun u H locs hw_28 hP hD hS => ?_)
                  have hP : va_P D vwCl [(a4, .inl (cI, 32, .inl (nF gk))), (a6, .inl (cI, 12, .inl (nF gn))), (a12, .inl (cI, 16, .inl (iter (cW2 gn) 3 (upd (iter (cW1 gk) 8 (upd (upd (upd (upd wd 0 1634760805) 1 857760878) 2 2036477234) 3 1797285236)) 12 n0)))), (a14, .inl (cI, 64, .inl (nF gu))), (mo, .inr (7, mFs thr a1 a2 a3 (nI lt) (nI lb) (nI lz) ci a4 a5 a6 nu bk se op fa a7 a8 a9 a10 a11 (nI rn) kh kl sh sl a12 a13 a14 a15 a16 a17 a18 a19 a20)), (a13, .inl (cI, 16, .inl (cqr (cqr (cqr (cqr (cqr (cqr (cqr (iter (fun _ g => crnd g) i (iter (cCpy (cWord gk gn n0 wd)) 16 td)) 0 4 8 12) 1 5 9 13) 2 6 10 14) 3 7 11 15) 0 5 10 15) 1 6 11 12) 2 7 8 13)))] H := hP
                  have hD : va_D A [(a4, .inl (cI, 32, .inl (nF gk))), (a6, .inl (cI, 12, .inl (nF gn))), (a12, .inl (cI, 16, .inl (iter (cW2 gn) 3 (upd (iter (cW1 gk) 8 (upd (upd (upd (upd wd 0 1634760805) 1 857760878) 2 2036477234) 3 1797285236)) 12 n0)))), (a14, .inl (cI, 64, .inl (nF gu))), (mo, .inr (7, mFs thr a1 a2 a3 (nI lt) (nI lb) (nI lz) ci a4 a5 a6 nu bk se op fa a7 a8 a9 a10 a11 (nI rn) kh kl sh sl a12 a13 a14 a15 a16 a17 a18 a19 a20)), (a13, .inl (cI, 16, .inl (cqr (cqr (cqr (cqr (cqr (cqr (cqr (iter (fun _ g => crnd g) i (iter (cCpy (cWord gk gn n0 wd)) 16 td)) 0 4 8 12) 1 5 9 13) 2 6 10 14) 3 7 11 15) 0 5 10 15) 1 6 11 12) 2 7 8 13)))] := hD
                  refine lv_iinc (v := nI 3) (lv' := [(3, .int (nI 3)), (2, .int (nI i)), (0, .ref mo), (1, .int n0)]) hx hb d_M_chacha_202 hl (k := 0) rfl (sb_inc (a := 2) (b := 3) (d := 1) rfl (by decide) (by omega)) (by decide) rfl (fun ls hl => ?_)
                  refine lv_goto (tgt := 169) hx hb d_M_chacha_205 (by decide) ?_
                  refine lv_iload_n hx hb d_M_chacha_169 rfl (lv_at hl 0 rfl) ?_
                  refine lv_iconst (v := 4) hx hb d_M_chacha_170 (by decide) ?_
                  refine lv_icmp_ge (tgt := 208) hx hb d_M_chacha_171 (by decide) (fun c_29 => absurd c_29 (sb_geF (a := 3) (b := 4) rfl rfl (by omega) (by omega) (by omega))) (fun c_29 => ?_)
                  refine lv_aload_n hx hb d_M_chacha_174 rfl (lv_at hl 2 rfl) ?_
                  refine lv_iload_n hx hb d_M_chacha_175 rfl (lv_at hl 0 rfl) ?_
                  refine lv_iconst (v := 4) hx hb d_M_chacha_176 (by decide) ?_
                  refine lv_iload_n hx hb d_M_chacha_177 rfl (lv_at hl 0 rfl) ?_
                  refine lv_iconst (v := 1) hx hb d_M_chacha_178 (by decide) ?_
                  refine lv_iadd hx hb d_M_chacha_179 ?_
                  refine sb_topn 4 (sb_eqn (a := 3 + 1) (b := 4) (nI_add 3 1) (by omega)) ?_
                  refine lv_iconst (v := 4) hx hb d_M_chacha_180 (by decide) ?_
                  refine lv_irem hx hb d_M_chacha_181 (by decide) ?_
                  refine sb_topn 0 (sb_eqn (a := 4 % 4) (b := 0) (sb_rem (a := 4) (b := 4) (by omega) (by omega) (by omega) rfl rfl) (by omega)) ?_
                  refine lv_iadd hx hb d_M_chacha_182 ?_
                  refine sb_topn 4 (sb_eqn (a := 4 + 0) (b := 4) (nI_add 4 0) (by omega)) ?_
                  refine lv_bipush (v := 8) hx hb d_M_chacha_183 (by decide) ?_
                  refine lv_iload_n hx hb d_M_chacha_185 rfl (lv_at hl 0 rfl) ?_
                  refine lv_iconst (v := 2) hx hb d_M_chacha_186 (by decide) ?_
                  refine lv_iadd hx hb d_M_chacha_187 ?_
                  refine sb_topn 5 (sb_eqn (a := 3 + 2) (b := 5) (nI_add 3 2) (by omega)) ?_
                  refine lv_iconst (v := 4) hx hb d_M_chacha_188 (by decide) ?_
                  refine lv_irem hx hb d_M_chacha_189 (by decide) ?_
                  refine sb_topn 1 (sb_eqn (a := 5 % 4) (b := 1) (sb_rem (a := 5) (b := 4) (by omega) (by omega) (by omega) rfl rfl) (by omega)) ?_
                  refine lv_iadd hx hb d_M_chacha_190 ?_
                  refine sb_topn 9 (sb_eqn (a := 8 + 1) (b := 9) (nI_add 8 1) (by omega)) ?_
                  refine lv_bipush (v := 12) hx hb d_M_chacha_191 (by decide) ?_
                  refine lv_iload_n hx hb d_M_chacha_193 rfl (lv_at hl 0 rfl) ?_
                  refine lv_iconst (v := 3) hx hb d_M_chacha_194 (by decide) ?_
                  refine lv_iadd hx hb d_M_chacha_195 ?_
                  refine sb_topn 6 (sb_eqn (a := 3 + 3) (b := 6) (nI_add 3 3) (by omega)) ?_
                  refine lv_iconst (v := 4) hx hb d_M_chacha_196 (by decide) ?_
                  refine lv_irem hx hb d_M_chacha_197 (by decide) ?_
                  refine sb_topn 2 (sb_eqn (a := 6 % 4) (b := 2) (sb_rem (a := 6) (b := 4) (by omega) (by omega) (by omega) rfl rfl) (by omega)) ?_
                  refine lv_iadd hx hb d_M_chacha_198 ?_
                  refine sb_topn 14 (sb_eqn (a := 12 + 2) (b := 14) (nI_add 12 2) (by omega)) ?_
                  refine sb_callv (wr := [(a4, .inl (cI, 32, .inl (nF gk))), (a6, .inl (cI, 12, .inl (nF gn))), (a12, .inl (cI, 16, .inl (iter (cW2 gn) 3 (upd (iter (cW1 gk) 8 (upd (upd (upd (upd wd 0 1634760805) 1 857760878) 2 2036477234) 3 1797285236)) 12 n0)))), (a14, .inl (cI, 64, .inl (nF gu)))]) (va_runV (As := [.int (nI 3), .int (nI 4), .int (nI 9), .int (nI 14)]) (rest := []) ⟨hx, hb, hml, hown, hts⟩ (c_M_quarter l D cI cL cB tS tF mo a1 a2 a3 a4 a5 a6 a7 a8 a9 a10 a11 a12 a13 a14 a15 a16 a17 a18 a19 a20 thr ci bk se op fa lt lb lz rn nu kh kl sh sl (cqr (cqr (cqr (cqr (cqr (cqr (cqr (iter (fun _ g => crnd g) i (iter (cCpy (cWord gk gn n0 wd)) 16 td)) 0 4 8 12) 1 5 9 13) 2 6 10 14) 3 7 11 15) 0 5 10 15) 1 6 11 12) 2 7 8 13) 3 4 9 14 _ (by omega) (by omega) (by omega) (by omega)) (cwV 4 hts (sb_gV k_864 k_866 k_12 k_30 k_867) rfl rfl rfl (by decide +kernel) ⟨Nat.le_of_ble_eq_true rfl, Nat.le_of_ble_eq_true rfl⟩) (sb_pV hG hP hD hS hA [4, 5] (by decide) rfl (ci := 7) (q0 := 4) rfl rfl) rfl rfl hl.1 rfl (lv_room (Nat.le_of_ble_eq_true rfl)) d_M_chacha_199 ⟨Nat.le_of_ble_eq_true rfl, Nat.le_of_ble_eq_true rfl⟩) hP hD hS hA [4, 5] [0, 1, 2, 3] rfl rfl (by decide) (by decide) (fun u H locs hw_30 hP hD hS => ?_)
                  have hP : va_P D vwCl [(a4, .inl (cI, 32, .inl (nF gk))), (a6, .inl (cI, 12, .inl (nF gn))), (a12, .inl (cI, 16, .inl (iter (cW2 gn) 3 (upd (iter (cW1 gk) 8 (upd (upd (upd (upd wd 0 1634760805) 1 857760878) 2 2036477234) 3 1797285236)) 12 n0)))), (a14, .inl (cI, 64, .inl (nF gu))), (mo, .inr (7, mFs thr a1 a2 a3 (nI lt) (nI lb) (nI lz) ci a4 a5 a6 nu bk se op fa a7 a8 a9 a10 a11 (nI rn) kh kl sh sl a12 a13 a14 a15 a16 a17 a18 a19 a20)), (a13, .inl (cI, 16, .inl (cqr (cqr (cqr (cqr (cqr (cqr (cqr (cqr (iter (fun _ g => crnd g) i (iter (cCpy (cWord gk gn n0 wd)) 16 td)) 0 4 8 12) 1 5 9 13) 2 6 10 14) 3 7 11 15) 0 5 10 15) 1 6 11 12) 2 7 8 13) 3 4 9 14)))] H := hP
                  have hD : va_D A [(a4, .inl (cI, 32, .inl (nF gk))), (a6, .inl (cI, 12, .inl (nF gn))), (a12, .inl (cI, 16, .inl (iter (cW2 gn) 3 (upd (iter (cW1 gk) 8 (upd (upd (upd (upd wd 0 1634760805) 1 857760878) 2 2036477234) 3 1797285236)) 12 n0)))), (a14, .inl (cI, 64, .inl (nF gu))), (mo, .inr (7, mFs thr a1 a2 a3 (nI lt) (nI lb) (nI lz) ci a4 a5 a6 nu bk se op fa a7 a8 a9 a10 a11 (nI rn) kh kl sh sl a12 a13 a14 a15 a16 a17 a18 a19 a20)), (a13, .inl (cI, 16, .inl (cqr (cqr (cqr (cqr (cqr (cqr (cqr (cqr (iter (fun _ g => crnd g) i (iter (cCpy (cWord gk gn n0 wd)) 16 td)) 0 4 8 12) 1 5 9 13) 2 6 10 14) 3 7 11 15) 0 5 10 15) 1 6 11 12) 2 7 8 13) 3 4 9 14)))] := hD
                  refine lv_iinc (v := nI 4) (lv' := [(3, .int (nI 4)), (2, .int (nI i)), (0, .ref mo), (1, .int n0)]) hx hb d_M_chacha_202 hl (k := 0) rfl (sb_inc (a := 3) (b := 4) (d := 1) rfl (by decide) (by omega)) (by decide) rfl (fun ls hl => ?_)
                  refine lv_goto (tgt := 169) hx hb d_M_chacha_205 (by decide) ?_
                  refine lv_iload_n hx hb d_M_chacha_169 rfl (lv_at hl 0 rfl) ?_
                  refine lv_iconst (v := 4) hx hb d_M_chacha_170 (by decide) ?_
                  refine lv_icmp_ge (tgt := 208) hx hb d_M_chacha_171 (by decide) (fun c_31 => ?_) (fun c_31 => absurd (sb_geT (a := 4) (b := 4) rfl rfl (by omega) (by omega) (by omega)) c_31)
                  refine lv_iinc (v := nI (i + 1)) (lv' := [(2, .int (nI (i + 1))), (3, .int (nI 4)), (0, .ref mo), (1, .int n0)]) hx hb d_M_chacha_208 hl (k := 1) rfl (sb_inc (a := i) (b := i + 1) (d := 1) rfl (by decide) (by omega)) (by decide) rfl (fun ls hl => ?_)
                  refine lv_goto (tgt := 132) hx hb d_M_chacha_211 (by decide) ?_
                  rw [show cqr (cqr (cqr (cqr (cqr (cqr (cqr (cqr (iter (fun _ g => crnd g) i (iter (cCpy (cWord gk gn n0 wd)) 16 td)) 0 4 8 12) 1 5 9 13) 2 6 10 14) 3 7 11 15) 0 5 10 15) 1 6 11 12) 2 7 8 13) 3 4 9 14 = iter (fun _ g => crnd g) (i + 1) (iter (cCpy (cWord gk gn n0 wd)) 16 td) from rfl] at hP hD
                  exact ih4 (i + 1) (by omega) _ _ ls (hP.sub [4, 0, 1, 2, 5, 3] rfl) (hD.sub [4, 0, 1, 2, 5, 3] (by decide) rfl) hS (lv_sub hl [0, 2, 3] rfl)
              exact lp4 10 0 (by omega) _ _ ls (hP.sub [0, 1, 2, 3, 4, 5] rfl) (hD.sub [0, 1, 2, 3, 4, 5] (by decide) rfl) hS (lv_sub hl [0, 1, 2] rfl)
            | succ d3 ih3 =>
              intro i hi3 H locs ls hP hD hS hl
              refine lv_iload_n hx hb d_M_chacha_106 rfl (lv_at hl 0 rfl) ?_
              refine lv_bipush (v := 16) hx hb d_M_chacha_107 (by decide) ?_
              refine lv_icmp_ge (tgt := 130) hx hb d_M_chacha_109 (by decide) (fun c_32 => absurd c_32 (sb_geF (a := i) (b := 16) rfl rfl (by omega) (by omega) (by omega))) (fun c_32 => ?_)
              refine lv_aload_n hx hb d_M_chacha_112 rfl (lv_at hl 1 rfl) ?_
              refine va_get (D := D) (ci := 7) (v := .ref a13) (C := R_M) (T := F_M) (N := 35) hx hb hts in_M hown hG.1 hP 0 rfl rfl 27 (by decide) (hts _ k_724) (fun _ h9 => h9) rfl d_M_chacha_113 ?_
              refine lv_iload_n hx hb d_M_chacha_116 rfl (lv_at hl 0 rfl) ?_
              refine lv_aload_n hx hb d_M_chacha_117 rfl (lv_at hl 1 rfl) ?_
              refine va_get (D := D) (ci := 7) (v := .ref a12) (C := R_M) (T := F_M) (N := 35) hx hb hts in_M hown hG.1 hP 0 rfl rfl 26 (by decide) (hts _ k_723) (fun _ h9 => h9) rfl d_M_chacha_118 ?_
              refine lv_iload_n hx hb d_M_chacha_121 rfl (lv_at hl 0 rfl) ?_
              refine sb_ild hx hb hG.1 hP 3 rfl i rfl (by omega) (by omega) d_M_chacha_122 ?_
              refine sb_ist hx hb hG.1 hP hD hS 4 rfl i rfl (by omega) (by omega) d_M_chacha_123 (fun f_33 H locs ef_33 hP hD hS => ?_)
              have hP : va_P D vwCl [(mo, .inr (7, mFs thr a1 a2 a3 (nI lt) (nI lb) (nI lz) ci a4 a5 a6 nu bk se op fa a7 a8 a9 a10 a11 (nI rn) kh kl sh sl a12 a13 a14 a15 a16 a17 a18 a19 a20)), (a4, .inl (cI, 32, .inl (nF gk))), (a6, .inl (cI, 12, .inl (nF gn))), (a12, .inl (cI, 16, .inl (iter (cW2 gn) 3 (upd (iter (cW1 gk) 8 (upd (upd (upd (upd wd 0 1634760805) 1 857760878) 2 2036477234) 3 1797285236)) 12 n0)))), (a13, .inl (cI, 16, .inl f_33)), (a14, .inl (cI, 64, .inl (nF gu)))] H := hP
              have hD : va_D A [(mo, .inr (7, mFs thr a1 a2 a3 (nI lt) (nI lb) (nI lz) ci a4 a5 a6 nu bk se op fa a7 a8 a9 a10 a11 (nI rn) kh kl sh sl a12 a13 a14 a15 a16 a17 a18 a19 a20)), (a4, .inl (cI, 32, .inl (nF gk))), (a6, .inl (cI, 12, .inl (nF gn))), (a12, .inl (cI, 16, .inl (iter (cW2 gn) 3 (upd (iter (cW1 gk) 8 (upd (upd (upd (upd wd 0 1634760805) 1 857760878) 2 2036477234) 3 1797285236)) 12 n0)))), (a13, .inl (cI, 16, .inl f_33)), (a14, .inl (cI, 64, .inl (nF gu)))] := hD
              obtain rfl : f_33 = iter (cCpy (cWord gk gn n0 wd)) (i + 1) td := ef_33
              refine lv_iinc (v := nI (i + 1)) (lv' := [(2, .int (nI (i + 1))), (0, .ref mo), (1, .int n0)]) hx hb d_M_chacha_124 hl (k := 0) rfl (sb_inc (a := i) (b := i + 1) (d := 1) rfl (by decide) (by omega)) (by decide) rfl (fun ls hl => ?_)
              refine lv_goto (tgt := 106) hx hb d_M_chacha_127 (by decide) ?_
              exact ih3 (i + 1) (by omega) _ _ ls (hP.sub [0, 1, 2, 3, 4, 5] rfl) (hD.sub [0, 1, 2, 3, 4, 5] (by decide) rfl) hS (lv_sub hl [0, 1, 2] rfl)
          exact lp3 16 0 (by omega) _ _ ls (hP.sub [0, 1, 2, 3, 4, 5] rfl) (hD.sub [0, 1, 2, 3, 4, 5] (by decide) rfl) hS (lv_sub hl [0, 1, 2] rfl)
        | succ d2 ih2 =>
          intro i hi2 H locs ls hP hD hS hl
          refine lv_iload_n hx hb d_M_chacha_74 rfl (lv_at hl 0 rfl) ?_
          refine lv_iconst (v := 3) hx hb d_M_chacha_75 (by decide) ?_
          refine lv_icmp_ge (tgt := 104) hx hb d_M_chacha_76 (by decide) (fun c_34 => absurd c_34 (sb_geF (a := i) (b := 3) rfl rfl (by omega) (by omega) (by omega))) (fun c_34 => ?_)
          refine lv_aload_n hx hb d_M_chacha_79 rfl (lv_at hl 1 rfl) ?_
          refine va_get (D := D) (ci := 7) (v := .ref a12) (C := R_M) (T := F_M) (N := 35) hx hb hts in_M hown hG.1 hP 0 rfl rfl 26 (by decide) (hts _ k_723) (fun _ h9 => h9) rfl d_M_chacha_80 ?_
          refine lv_bipush (v := 13) hx hb d_M_chacha_83 (by decide) ?_
          refine lv_iload_n hx hb d_M_chacha_85 rfl (lv_at hl 0 rfl) ?_
          refine lv_iadd hx hb d_M_chacha_86 ?_
          refine sb_topn (13 + i) (nI_add 13 i) ?_
          refine lv_aload_n hx hb d_M_chacha_87 rfl (lv_at hl 1 rfl) ?_
          refine va_get (D := D) (ci := 7) (v := .ref a6) (C := R_M) (T := F_M) (N := 35) hx hb hts in_M hown hG.1 hP 0 rfl rfl 10 (by decide) (hts _ k_707) (fun _ h9 => h9) rfl d_M_chacha_88 ?_
          refine lv_iconst (v := 4) hx hb d_M_chacha_91 (by decide) ?_
          refine lv_iload_n hx hb d_M_chacha_92 rfl (lv_at hl 0 rfl) ?_
          refine lv_imul hx hb d_M_chacha_93 ?_
          refine sb_topn (4 * i) (sb_mul (a := 4) (b := i) rfl rfl) ?_
          refine vp_callSi (va_runS (As := [.ref a6, .int (nI (4 * i))]) (rest := [.int (nI (13 + i)), .ref a12]) ⟨hx, hb, hml, hown, hts⟩ (c_M_little l D cI cL cB tS tF a6 12 gn (4 * i) (by omega) (by omega)) (va_cwS 2 hts (sb_gS k_861 k_862 k_30 k_863) rfl rfl rfl (by decide +kernel) ⟨Nat.le_of_ble_eq_true rfl, Nat.le_of_ble_eq_true rfl⟩) (sb_rS hG hP hS [2] rfl) rfl rfl hl.1 rfl (lv_room (Nat.le_of_ble_eq_true rfl)) d_M_chacha_94 ⟨Nat.le_of_ble_eq_true rfl, Nat.le_of_ble_eq_true rfl⟩).run (fun r_35 er_35 => ?_)
          subst er_35
          refine sb_ist hx hb hG.1 hP hD hS 3 rfl (13 + i) rfl (by omega) (by omega) d_M_chacha_97 (fun f_36 H locs ef_36 hP hD hS => ?_)
          have hP : va_P D vwCl [(mo, .inr (7, mFs thr a1 a2 a3 (nI lt) (nI lb) (nI lz) ci a4 a5 a6 nu bk se op fa a7 a8 a9 a10 a11 (nI rn) kh kl sh sl a12 a13 a14 a15 a16 a17 a18 a19 a20)), (a4, .inl (cI, 32, .inl (nF gk))), (a6, .inl (cI, 12, .inl (nF gn))), (a12, .inl (cI, 16, .inl f_36)), (a13, .inl (cI, 16, .inl td)), (a14, .inl (cI, 64, .inl (nF gu)))] H := hP
          have hD : va_D A [(mo, .inr (7, mFs thr a1 a2 a3 (nI lt) (nI lb) (nI lz) ci a4 a5 a6 nu bk se op fa a7 a8 a9 a10 a11 (nI rn) kh kl sh sl a12 a13 a14 a15 a16 a17 a18 a19 a20)), (a4, .inl (cI, 32, .inl (nF gk))), (a6, .inl (cI, 12, .inl (nF gn))), (a12, .inl (cI, 16, .inl f_36)), (a13, .inl (cI, 16, .inl td)), (a14, .inl (cI, 64, .inl (nF gu)))] := hD
          obtain rfl : f_36 = iter (cW2 gn) (i + 1) (upd (iter (cW1 gk) 8 (upd (upd (upd (upd wd 0 1634760805) 1 857760878) 2 2036477234) 3 1797285236)) 12 n0) := ef_36
          refine lv_iinc (v := nI (i + 1)) (lv' := [(2, .int (nI (i + 1))), (0, .ref mo), (1, .int n0)]) hx hb d_M_chacha_98 hl (k := 0) rfl (sb_inc (a := i) (b := i + 1) (d := 1) rfl (by decide) (by omega)) (by decide) rfl (fun ls hl => ?_)
          refine lv_goto (tgt := 74) hx hb d_M_chacha_101 (by decide) ?_
          exact ih2 (i + 1) (by omega) _ _ ls (hP.sub [0, 1, 2, 3, 4, 5] rfl) (hD.sub [0, 1, 2, 3, 4, 5] (by decide) rfl) hS (lv_sub hl [0, 1, 2] rfl)
      exact lp2 3 0 (by omega) _ _ ls (hP.sub [0, 1, 2, 3, 4, 5] rfl) (hD.sub [0, 1, 2, 3, 4, 5] (by decide) rfl) hS (lv_sub hl [0, 1, 2] rfl)
    | succ d1 ih1 =>
      intro i hi1 H locs ls hP hD hS hl
      refine lv_iload_n hx hb d_M_chacha_34 rfl (lv_at hl 0 rfl) ?_
      refine lv_bipush (v := 8) hx hb d_M_chacha_35 (by decide) ?_
      refine lv_icmp_ge (tgt := 64) hx hb d_M_chacha_37 (by decide) (fun c_37 => absurd c_37 (sb_geF (a := i) (b := 8) rfl rfl (by omega) (by omega) (by omega))) (fun c_37 => ?_)
      refine lv_aload_n hx hb d_M_chacha_40 rfl (lv_at hl 1 rfl) ?_
      refine va_get (D := D) (ci := 7) (v := .ref a12) (C := R_M) (T := F_M) (N := 35) hx hb hts in_M hown hG.1 hP 0 rfl rfl 26 (by decide) (hts _ k_723) (fun _ h9 => h9) rfl d_M_chacha_41 ?_
      refine lv_iconst (v := 4) hx hb d_M_chacha_44 (by decide) ?_
      refine lv_iload_n hx hb d_M_chacha_45 rfl (lv_at hl 0 rfl) ?_
      refine lv_iadd hx hb d_M_chacha_46 ?_
      refine sb_topn (4 + i) (nI_add 4 i) ?_
      refine lv_aload_n hx hb d_M_chacha_47 rfl (lv_at hl 1 rfl) ?_
      refine va_get (D := D) (ci := 7) (v := .ref a4) (C := R_M) (T := F_M) (N := 35) hx hb hts in_M hown hG.1 hP 0 rfl rfl 8 (by decide) (hts _ k_705) (fun _ h9 => h9) rfl d_M_chacha_48 ?_
      refine lv_iconst (v := 4) hx hb d_M_chacha_51 (by decide) ?_
      refine lv_iload_n hx hb d_M_chacha_52 rfl (lv_at hl 0 rfl) ?_
      refine lv_imul hx hb d_M_chacha_53 ?_
      refine sb_topn (4 * i) (sb_mul (a := 4) (b := i) rfl rfl) ?_
      refine vp_callSi (va_runS (As := [.ref a4, .int (nI (4 * i))]) (rest := [.int (nI (4 + i)), .ref a12]) ⟨hx, hb, hml, hown, hts⟩ (c_M_little l D cI cL cB tS tF a4 32 gk (4 * i) (by omega) (by omega)) (va_cwS 2 hts (sb_gS k_861 k_862 k_30 k_863) rfl rfl rfl (by decide +kernel) ⟨Nat.le_of_ble_eq_true rfl, Nat.le_of_ble_eq_true rfl⟩) (sb_rS hG hP hS [1] rfl) rfl rfl hl.1 rfl (lv_room (Nat.le_of_ble_eq_true rfl)) d_M_chacha_54 ⟨Nat.le_of_ble_eq_true rfl, Nat.le_of_ble_eq_true rfl⟩).run (fun r_38 er_38 => ?_)
      subst er_38
      refine sb_ist hx hb hG.1 hP hD hS 3 rfl (4 + i) rfl (by omega) (by omega) d_M_chacha_57 (fun f_39 H locs ef_39 hP hD hS => ?_)
      have hP : va_P D vwCl [(mo, .inr (7, mFs thr a1 a2 a3 (nI lt) (nI lb) (nI lz) ci a4 a5 a6 nu bk se op fa a7 a8 a9 a10 a11 (nI rn) kh kl sh sl a12 a13 a14 a15 a16 a17 a18 a19 a20)), (a4, .inl (cI, 32, .inl (nF gk))), (a6, .inl (cI, 12, .inl (nF gn))), (a12, .inl (cI, 16, .inl f_39)), (a13, .inl (cI, 16, .inl td)), (a14, .inl (cI, 64, .inl (nF gu)))] H := hP
      have hD : va_D A [(mo, .inr (7, mFs thr a1 a2 a3 (nI lt) (nI lb) (nI lz) ci a4 a5 a6 nu bk se op fa a7 a8 a9 a10 a11 (nI rn) kh kl sh sl a12 a13 a14 a15 a16 a17 a18 a19 a20)), (a4, .inl (cI, 32, .inl (nF gk))), (a6, .inl (cI, 12, .inl (nF gn))), (a12, .inl (cI, 16, .inl f_39)), (a13, .inl (cI, 16, .inl td)), (a14, .inl (cI, 64, .inl (nF gu)))] := hD
      obtain rfl : f_39 = iter (cW1 gk) (i + 1) (upd (upd (upd (upd wd 0 1634760805) 1 857760878) 2 2036477234) 3 1797285236) := ef_39
      refine lv_iinc (v := nI (i + 1)) (lv' := [(2, .int (nI (i + 1))), (0, .ref mo), (1, .int n0)]) hx hb d_M_chacha_58 hl (k := 0) rfl (sb_inc (a := i) (b := i + 1) (d := 1) rfl (by decide) (by omega)) (by decide) rfl (fun ls hl => ?_)
      refine lv_goto (tgt := 34) hx hb d_M_chacha_61 (by decide) ?_
      exact ih1 (i + 1) (by omega) _ _ ls (hP.sub [0, 1, 2, 3, 4, 5] rfl) (hD.sub [0, 1, 2, 3, 4, 5] (by decide) rfl) hS (lv_sub hl [0, 1, 2] rfl)
  exact lp1 8 0 (by omega) _ _ ls (hP.sub [0, 1, 2, 3, 4, 5] rfl) (hD.sub [0, 1, 2, 3, 4, 5] (by decide) rfl) hS (lv_sub hl [0, 1, 2] rfl)
